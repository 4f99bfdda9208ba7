-- game: the class
theorem fw0 {f : Nat → Bool} (h : f 0 = true) : fwF f = nI 0 := by simp [fwF, h, nI_0]
theorem fw1 {f : Nat → Bool} (h0 : f 0 = false) (h : f 1 = true) : fwF f = nI 1 := by simp only [fwF, h0, h, if_true]; decide
theorem fw2 {f : Nat → Bool} (h0 : f 0 = false) (h1 : f 1 = false) (h : f 2 = true) : fwF f = nI 2 := by simp only [fwF, h0, h1, h, if_true]; decide
theorem fw3 {f : Nat → Bool} (h0 : f 0 = false) (h1 : f 1 = false) (h2 : f 2 = false) (h : f 3 = true) : fwF f = nI 3 := by simp only [fwF, h0, h1, h2, h, if_true]; decide
theorem fwn {f : Nat → Bool} (h0 : f 0 = false) (h1 : f 1 = false) (h2 : f 2 = false) (h3 : f 3 = false) : fwF f = -2 := by simp only [fwF, h0, h1, h2, h3]; decide
section
variable {g : Gx} {σ : St} {c : Cfg} {P : Nat → Nat} {t : Nat}
theorem k_SA_isHopeless {Q : Int32 → St → Prop} {C R B : Nat} {K : Nat → Nat} (ht : isSA t) (hc : ClsB t σ C R B K) (hp : okW C R B P) (h5 : fi σ t 5 = nI (sitP P B)) (h1 : ∀ b, b < B → stk C R K b P → Q 1 σ) (h0 : (∀ b, b < B → ¬ stk C R K b P) → Q 0 σ) : K_SA_isHopeless g t σ Q := by
  obtain ⟨⟨-, -, c4⟩, ⟨hC, hR, hB⟩, -⟩ := id hc
  have hS : sitP P B < 262144 := sitP_lt
  have go : ∀ (m b : Nat), b + m = B → (∀ x, x < b → ¬ stk C R K x P) → S_SA_isHopeless_2 g Q σ t (nI b) := by
    intro m
    induction m with
    | zero =>
      intro b hb hno
      have e : b = B := by omega
      subst e
      refine sg_SA_isHopeless_2 ht ?_
      rw [c4]
      exact ⟨fun _ => h0 hno, fun q => absurd (nI_le (Nat.le_refl _) (by omega)) q⟩
    | succ m ih =>
      intro b hb hno
      refine sg_SA_isHopeless_2 ht ?_
      rw [c4, h5]
      refine ⟨fun q => absurd q (nI_ge (by omega) (by omega)), fun _ => k_SA_spotIn (by omega) (by omega) ?_⟩
      rw [spo_sitP (by omega), enB_norm hp.1]
      have e7 : nI (enc (P b)) = 7 ↔ P b = 37 := by
        rw [← enc_7 (hp.2 b).1]
        exact nI_eq (b := 7) (by have := enc_lt (p := P b); omega) (by decide)
      have e0 : nI (enc (P b)) = 0 ↔ P b = 36 := by
        rw [← enc_0 (hp.2 b).1]
        exact nI_eq (b := 0) (by have := enc_lt (p := P b); omega) (by decide)
      rw [e7, e0]
      have nx : ¬ stk C R K b P → ∀ u3 : Int32, u3 = nI b + 1 → S_SA_isHopeless_2 g Q σ t u3 := by
        rintro hs u rfl
        rw [nI_1]
        refine ih (b + 1) (by omega) (fun x hx => ?_)
        by_cases e : x = b
        · subst e; exact hs
        · exact hno x (by omega)
      refine ⟨fun q => h1 b (by omega) (Or.inl q), fun q7 => ⟨fun q => nx (fun z => ?_), fun q0 => ⟨vp_in_nI (by omega) (by decide), ?_⟩⟩⟩
      · rcases z with z | z
        · exact q7 z
        · exact z.1 q
      · rw [nI_clamp (by omega), holes_eq hc (by omega)]
        cases hh : hoG C R K b 36 0 with
        | none => exact ⟨fun z => absurd rfl z, fun _ => h1 b (by omega) (Or.inr ⟨q0, fun x hx hy => hoG_none hh (Nat.zero_le _) (by omega) ⟨hx, hy⟩⟩)⟩
        | some x =>
          have hx := hoG_some hh
          have hx36 : x < 36 := by omega
          refine ⟨fun _ => nx (fun z => ?_), fun z => absurd ((nI_eq (b := 0) (by have := spc_lt hx36; omega) (by decide)).mp z) (by unfold spc; omega)⟩
          rcases z with z | z
          · exact q7 z
          · exact z.2 x hx.1.1 hx.1.2 hx.2
  exact ko_SA_isHopeless (sg_SA_isHopeless_0 ht (go B 0 (Nat.zero_add _) (fun x hx => absurd hx (by omega))))
theorem k_TR_winningWay {Q : Int32 → St → Prop} {n : Nat} (ht : isSA t) (hc : ClsT t σ c) (hp : okP c.1 c.2.1 c.2.2.1 c.2.2.2.1 P) (h5 : fi σ t 5 = nI (sitP P c.2.2.1)) (hn : n ≤ 8) (h : ∀ τ, fr [(17, 4), (17, 6), (17, 7)] [19, 20, 21, 26, 31, 36, 41, 46, 51] σ τ → Q (wayF c n P) τ) : K_TR_winningWay g t (nI n) σ Q := by
  have hC := hc.1.2.1.1
  have hR := hc.1.2.1.2.1
  have hB := hc.1.2.1.2.2
  have h17 := (sa_82 ht).2.1
  have hz : nI (sitP P c.2.2.1) = 0 ↔ allH P := by
    rw [← sit0 hp.1]
    exact nI_eq (b := 0) (Nat.lt_trans sitP_lt (by decide)) (by decide)
  refine ko_TR_winningWay (sg_TR_winningWay_0 ht ?_)
  rw [h5, hz]
  unfold wayF at h
  refine ⟨fun z => ?_, fun z => by have := h σ fr.rf; rw [if_pos z] at this; exact this⟩
  rw [if_neg z] at h
  cases n with
  | zero => exact ⟨fun _ => h σ fr.rf, fun y => absurd (by decide) y⟩
  | succ n =>
    dsimp only at h
    refine ⟨fun y => absurd y (nI_nle (by omega) (by omega)), fun _ => ?_⟩
    refine k_SA_isHopeless ht hc.1 hp.1 h5 (fun b hb hst => ⟨fun y => absurd y (by decide), fun _ => ?_⟩) (fun _ => ⟨fun _ => ?_, fun y => absurd rfl y⟩)
    · have st : ∀ w, w < 4 → winF c n (tipC c w P).1 false = false := fun w hw => winF_stk hC hR (show b < 3 by omega) _ _ _ (tipC_ok hC hR hw hp) (stk_tip hC hR hw hp hst)
      have := h σ fr.rf
      rw [fwn (st 0 (by decide)) (st 1 (by decide)) (st 2 (by decide)) (st 3 (by decide))] at this
      exact this
    · have step : ∀ (w : Nat) (τ : St), w < 4 → fr [(17, 4), (17, 6), (17, 7)] [19, 20, 21, 26, 31, 36, 41, 46, 51] σ τ → (winF c n (tipC c w P).1 false = true → ∀ υ, fr [(17, 4), (17, 6), (17, 7)] [19, 20, 21, 26, 31, 36, 41, 46, 51] σ υ → Q (nI w) υ) → (winF c n (tipC c w P).1 false = false → ∀ υ, fr [(17, 4), (17, 6), (17, 7)] [19, 20, 21, 26, 31, 36, 41, 46, 51] σ υ → S_TR_winningWay_25 g Q υ t (nI (n + 1)) (nI (w + 1))) → S_TR_winningWay_25 g Q τ t (nI (n + 1)) (nI w) := by
        intro w τ hw hf hyes hno
        refine sg_TR_winningWay_25 ht ⟨fun y => absurd y (nI_ge (b := 4) hw (by decide)), fun _ => ?_⟩
        rw [(hf.1 t 5 (by simp [h17])).1, h5]
        refine k_rolled ht hw (clst_roll ht hc hf) hp (fun υ hu _ _ => ?_)
        have fu := hf.tr hu
        rw [nI_pred]
        refine k_TR_comesHome n 8 (tipC c w P).1 false υ _ (by omega) (by omega) ht (clst_roll ht hc fu) (tipC_ok hC hR hw hp) (fun ξ hx => ?_)
        have fx := fu.tr hx
        rw [bI_0]
        refine ⟨fun y => ?_, fun y => hyes (by simpa using y) ξ fx⟩
        rintro u rfl
        rw [nI_1]
        exact hno y ξ fx
      have fin : ∀ τ, Q (-2) τ → S_TR_winningWay_25 g Q τ t (nI (n + 1)) (nI 4) := fun τ hq => sg_TR_winningWay_25 ht ⟨fun _ => hq, fun y => absurd (by decide) y⟩
      have hv : ∀ υ, fr [(17, 4), (17, 6), (17, 7)] [19, 20, 21, 26, 31, 36, 41, 46, 51] σ υ → ∀ v, fwF (fun w => winF c n (tipC c w P).1 false) = v → Q v υ := fun υ hu v e => by rw [← e]; exact h υ hu
      refine step 0 σ (by decide) fr.rf (fun e υ hu => hv υ hu _ ?_) (fun e0 υ0 hu0 => step 1 υ0 (by decide) hu0 (fun e υ hu => hv υ hu _ ?_) (fun e1 υ1 hu1 => step 2 υ1 (by decide) hu1 (fun e υ hu => hv υ hu _ ?_) (fun e2 υ2 hu2 => step 3 υ2 (by decide) hu2 (fun e υ hu => hv υ hu _ ?_) (fun e3 υ3 hu3 => fin υ3 (hv υ3 hu3 _ ?_)))))
      · exact fw0 e
      · exact fw1 e0 e
      · exact fw2 e0 e1 e
      · exact fw3 e0 e1 e2 e
      · exact fwn e0 e1 e2 e3
end
def gamV (c : Cfg) (n : Nat) (P : Nat → Nat) (k : Nat) : Int32 := if k = 1 then wayF c n P else if wayF c n P = -2 then 0 else 1
section
variable {g : Gx} {σ : St} {d : Dat} {nr : Nat} {Ru : Nat → RuleT}
theorem kB_game {Q : Int32 → St → Prop} {x y : Int32} (hs : ClsS 83 σ d) (ho : OkD nr d) (hr : RulC σ nr Ru) (h0 : (vC d = 0 ∨ (∀ n, n ≤ 8 → x ≠ nI n) ∨ (∀ n, n ≤ 1 → y ≠ nI n)) → Q (-1) σ) (h1 : ∀ n k, n ≤ 8 → k ≤ 1 → x = nI n → y = nI k → vC d ≠ 0 → ∀ τ, fr [(17, 4), (17, 6), (17, 7)] [19, 20, 21, 26, 31, 36, 41, 46, 51] σ τ → Q (gamV (cfg Ru d) n (vP d) k) τ) : K_BB_game g x y σ Q := by
  have hT := hs.toT ho hr
  refine ko_BB_game (sg_BB_game_0 ⟨fun q => h0 (Or.inl (hs.box.mp q)), fun q => ⟨fun q1 => h0 (Or.inr (Or.inl (fun n hn => rg_neg q1 (by omega)))), fun q1 => ⟨fun q2 => h0 (Or.inr (Or.inl (fun n hn => rg_big (hi := 8) q2 (by decide) hn))), fun q2 => ⟨fun q3 => h0 (Or.inr (Or.inr (fun n hn => rg_neg q3 (by omega)))), fun q3 => ⟨fun q4 => ?_, fun q4 => h0 (Or.inr (Or.inr (fun n hn e => q4 (by rw [e]; exact nI_le (b := 1) hn (by decide)))))⟩⟩⟩⟩⟩)
  obtain ⟨n, hn, rfl⟩ := rg_of (hi := 8) q1 q2
  obtain ⟨k, hk, rfl⟩ : ∃ k, k ≤ 1 ∧ y = nI k := by
    obtain ⟨j, hj, rfl⟩ := nI_of q3
    exact ⟨j, (nI_leI (b := 1) hj (by decide)).mp q4, rfl⟩
  refine k_TR_winningWay (c := cfg Ru d) (P := vP d) sa_83 hT ho.2.2.1 hs.2.2.1 hn (fun τ hf => ?_)
  have h1 := h1 n k hn hk rfl rfl (fun z => q (hs.box.mpr z)) τ hf
  unfold gamV at h1
  rcases (show k = 0 ∨ k = 1 by omega) with rfl | rfl
  · rw [if_neg (by decide)] at h1
    exact ⟨fun _ => (qif h1).symm, fun z => absurd z (by decide)⟩
  · exact ⟨fun z => absurd rfl z, fun _ => h1⟩
end
