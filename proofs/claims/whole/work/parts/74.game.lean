-- who can never come home; the game by numbers
def stk (C R : Nat) (K : Nat → Nat) (b : Nat) (P : Nat → Nat) : Prop := P b = 37 ∨ (P b ≠ 36 ∧ ∀ c, c % 6 < C → c / 6 < R → K c ≠ 2 + b)
theorem stk_rol1 {C R B : Nat} {K : Nat → Nat} {w b x : Nat} {st : (Nat → Nat) × Nat × Nat} (hC : C ≤ 6) (hR : R ≤ 6) (hw : w < 4) (hp : okP C R B K st.1) (h36 : st.1 x < 36) (h : stk C R K b st.1) : stk C R K b (rol1 C R K w st x).1 := by
  by_cases e : b = x
  · subst e
    rcases h with h | ⟨h1, h2⟩
    · omega
    · have hin := rolF_in (K := K) (P := st.1) (b := b) hC hR hw ((hp.1.2 b).2 h36)
      unfold rol1
      split
      · rw [if_neg (h2 _ hin.1 hin.2)]
        left
        exact upP_same
      · right
        refine ⟨?_, h2⟩
        show upP _ _ _ b ≠ 36
        rw [upP_same]
        omega
  · unfold stk at h ⊢
    rw [rol1_ne (x := b) (b := x) e]
    exact h
theorem stk_tip {c : Cfg} {P : Nat → Nat} {w b : Nat} (hC : c.1 ≤ 6) (hR : c.2.1 ≤ 6) (hw : w < 4) (hp : okP c.1 c.2.1 c.2.2.1 c.2.2.2.1 P) (h : stk c.1 c.2.1 c.2.2.2.1 b P) : stk c.1 c.2.1 c.2.2.2.1 b (tipC c w P).1 :=
  (fold_keeps (X := stk c.1 c.2.1 c.2.2.2.1 b) (fun _ _ _ h36 ho h => stk_rol1 hC hR hw ho h36 h) hC hR hw (ordL (keyC c P w) P) (P, 0, 0) (ordL_in hp.1) (ordL_nodup _ _) hp h).2
theorem stk_no {C R : Nat} {K P : Nat → Nat} {b : Nat} (hb : b < 3) (h : stk C R K b P) : ¬ allH P := by
  rintro ⟨h0, h1, h2⟩
  have hp : P b ≠ 36 := by
    rcases h with h | h
    · omega
    · exact h.1
  rcases (show b = 0 ∨ b = 1 ∨ b = 2 by omega) with rfl | rfl | rfl
  · exact hp h0
  · exact hp h1
  · exact hp h2
/-- whether the first has it, l tips being left; ft: the first tips next -/
def winF (c : Cfg) : Nat → (Nat → Nat) → Bool → Bool
  | 0, P, _ => decide (allH P)
  | l + 1, P, ft => if allH P then true else if ft then (winF c l (tipC c 0 P).1 false || (winF c l (tipC c 1 P).1 false || (winF c l (tipC c 2 P).1 false || winF c l (tipC c 3 P).1 false))) else (winF c l (tipC c 0 P).1 true && (winF c l (tipC c 1 P).1 true && (winF c l (tipC c 2 P).1 true && winF c l (tipC c 3 P).1 true)))
theorem winF_home {c : Cfg} {l : Nat} {P : Nat → Nat} {ft : Bool} (h : allH P) : winF c l P ft = true := by
  cases l with
  | zero => exact decide_eq_true h
  | succ l => unfold winF; rw [if_pos h]
theorem winF_stk {c : Cfg} {b : Nat} (hC : c.1 ≤ 6) (hR : c.2.1 ≤ 6) (hb : b < 3) : ∀ (l : Nat) (P : Nat → Nat) (ft : Bool), okP c.1 c.2.1 c.2.2.1 c.2.2.2.1 P → stk c.1 c.2.1 c.2.2.2.1 b P → winF c l P ft = false
  | 0, P, ft, hp, h => decide_eq_false (stk_no hb h)
  | l + 1, P, ft, hp, h => by
    have st : ∀ w ft, w < 4 → winF c l (tipC c w P).1 ft = false := fun w ft hw => winF_stk hC hR hb l _ ft (tipC_ok hC hR hw hp) (stk_tip hC hR hw hp h)
    unfold winF
    rw [if_neg (stk_no hb h)]
    cases ft
    · simp [st 0 _ (by decide)]
    · simp [st 0 _ (by decide), st 1 _ (by decide), st 2 _ (by decide), st 3 _ (by decide)]
def bI (b : Bool) : Int32 := if b then 1 else 0
theorem bI_inj {a b : Bool} : bI a = bI b ↔ a = b := by cases a <;> cases b <;> decide
theorem bI_0 {a : Bool} : bI a = 0 ↔ a = false := by cases a <;> decide
def fwF (f : Nat → Bool) : Int32 := if f 0 then 0 else if f 1 then 1 else if f 2 then 2 else if f 3 then 3 else -2
/-- the first's way -/
def wayF (c : Cfg) (n : Nat) (P : Nat → Nat) : Int32 := if allH P then -1 else match n with
  | 0 => -2
  | n + 1 => fwF (fun w => winF c n (tipC c w P).1 false)
section
variable {g : Gx} {σ : St} {c : Cfg} {P : Nat → Nat} {t : Nat}
theorem k_SA_hasLost {Q : Int32 → St → Prop} {C R B : Nat} (hp : okW C R B P) (h : Q (if P 0 = 37 ∨ P 1 = 37 ∨ P 2 = 37 then 1 else 0) σ) : K_SA_hasLost g (nI (sitP P B)) σ Q := by
  have hS : sitP P B < 262144 := sitP_lt
  have e0 : nI (sitP P B) &&& 63 = nI (enc (P 0)) := by
    rw [and63 (by omega), ← enB_norm hp.1, ← spo_sitP (by decide)]
    unfold spo
    rw [Nat.pow_zero, Nat.div_one]
  have e1 : (nI (sitP P B) >>> ((6 : Int32) &&& 31)) &&& 63 = nI (enc (P 1)) := by
    have := spotIn_eq (S := sitP P B) (b := 1) (by omega) (by decide)
    rw [spo_sitP (by decide), enB_norm hp.1] at this
    exact this
  have e2 : nI (sitP P B) >>> ((12 : Int32) &&& 31) = nI (enc (P 2)) := by
    have e : nI (sitP P B) >>> ((12 : Int32) &&& 31) = nI (sitP P B / 2 ^ 12) := pk_shrN (by omega) _ 12 (by decide)
    rw [e, ← enB_norm (b := 2) hp.1, ← spo_sitP (by decide)]
    unfold spo
    congr 1
    omega
  have k : ∀ b, nI (enc (P b)) = 7 ↔ P b = 37 := fun b => by
    rw [← enc_7 (hp.2 b).1]
    exact nI_eq (b := 7) (by have := enc_lt (p := P b); omega) (by decide)
  refine ko_SA_hasLost (sg_SA_hasLost_0 ?_)
  rw [e0, e1, e2, k 0, k 1, k 2]
  refine ⟨fun q => ?_, fun q0 => ⟨fun q => ?_, fun q1 => ⟨fun q2 => ?_, fun q => ?_⟩⟩⟩
  · rw [if_pos (Or.inl q)] at h; exact h
  · rw [if_pos (Or.inr (Or.inl q))] at h; exact h
  · rw [if_neg (fun z => z.elim q0 (fun z => z.elim q1 q2))] at h; exact h
  · rw [if_pos (Or.inr (Or.inr q))] at h; exact h
theorem lost_stk {C R B : Nat} {K : Nat → Nat} (h : P 0 = 37 ∨ P 1 = 37 ∨ P 2 = 37) : ∃ b, b < 3 ∧ stk C R K b P := by
  rcases h with h | h | h
  · exact ⟨0, by decide, Or.inl h⟩
  · exact ⟨1, by decide, Or.inl h⟩
  · exact ⟨2, by decide, Or.inl h⟩
theorem k_TR_comesHome : ∀ (l q : Nat) (P : Nat → Nat) (ft : Bool) (σ : St) (Q : Int32 → St → Prop), l ≤ q → l ≤ 8 → isSA t → ClsT t σ c → okP c.1 c.2.1 c.2.2.1 c.2.2.2.1 P → (∀ τ, fr [(17, 4), (17, 6), (17, 7)] [19, 20, 21, 26, 31, 36, 41, 46, 51] σ τ → Q (bI (winF c l P ft)) τ) → K_TR_comesHome g q t (nI (sitP P c.2.2.1)) (nI l) (bI ft) σ Q := by
  intro l
  induction l with
  | zero =>
    intro q P ft σ Q hq h8 ht hc hp h
    have hz : nI (sitP P c.2.2.1) = 0 ↔ allH P := by
      rw [← sit0 hp.1]
      exact nI_eq (b := 0) (Nat.lt_trans sitP_lt (by decide)) (by decide)
    refine ko_TR_comesHome (sg_TR_comesHome_0 ht ?_)
    rw [hz]
    have h0 := h σ fr.rf
    refine ⟨fun z => ⟨fun _ => ?_, fun y => absurd (by decide) y⟩, fun z => ?_⟩
    · have e : winF c 0 P ft = false := decide_eq_false z
      rw [e] at h0; exact h0
    · rw [winF_home z] at h0; exact h0
  | succ l ih =>
    intro q P ft σ Q hq h8 ht hc hp h
    have hC := hc.1.2.1.1
    have hR := hc.1.2.1.2.1
    have hz : nI (sitP P c.2.2.1) = 0 ↔ allH P := by
      rw [← sit0 hp.1]
      exact nI_eq (b := 0) (Nat.lt_trans sitP_lt (by decide)) (by decide)
    refine ko_TR_comesHome (sg_TR_comesHome_0 ht ?_)
    rw [hz]
    have h0 := h σ fr.rf
    refine ⟨fun z => ⟨fun y => absurd y (nI_nle (by omega) (by omega)), fun _ => ⟨fun y => absurd y (nI_nlt (b := l + 1) (a := 8) (by omega) (by decide)), fun _ => k_SA_hasLost hp.1 ?_⟩⟩, fun z => ?_⟩
    · by_cases hl : P 0 = 37 ∨ P 1 = 37 ∨ P 2 = 37
      · rw [if_pos hl]
        refine ⟨fun y => absurd y (by decide), fun _ => ?_⟩
        obtain ⟨b, hb, hst⟩ := lost_stk (C := c.1) (R := c.2.1) (B := c.2.2.1) (K := c.2.2.2.1) hl
        rw [winF_stk hC hR hb _ P ft hp hst] at h0
        exact h0
      · rw [if_neg hl]
        refine ⟨fun _ => ?_, fun y => absurd rfl y⟩
        obtain ⟨q0, rfl⟩ : ∃ q0, q = q0 + 1 := ⟨q - 1, by omega⟩
        -- one way more
        have step : ∀ (w : Nat) (τ : St), w < 4 → fr [(17, 4), (17, 6), (17, 7)] [19, 20, 21, 26, 31, 36, 41, 46, 51] σ τ → (winF c l (tipC c w P).1 (!ft) = ft → ∀ υ, fr [(17, 4), (17, 6), (17, 7)] [19, 20, 21, 26, 31, 36, 41, 46, 51] σ υ → Q (bI ft) υ) → (winF c l (tipC c w P).1 (!ft) ≠ ft → ∀ υ, fr [(17, 4), (17, 6), (17, 7)] [19, 20, 21, 26, 31, 36, 41, 46, 51] σ υ → S_TR_comesHome_28 g (q0 + 1) Q υ t (nI (sitP P c.2.2.1)) (nI (l + 1)) (bI ft) (nI (w + 1))) → S_TR_comesHome_28 g (q0 + 1) Q τ t (nI (sitP P c.2.2.1)) (nI (l + 1)) (bI ft) (nI w) := by
          intro w τ hw hf hyes hno
          refine sg_TR_comesHome_28 ht ⟨fun y => absurd y (nI_ge (b := 4) hw (by decide)), fun _ => ?_⟩
          refine k_rolled ht hw (clst_roll ht hc hf) hp (fun υ hu _ _ => ?_)
          have fu := hf.tr hu
          have hcu := clst_roll ht hc fu
          have hpu := tipC_ok hC hR hw hp
          rw [nI_pred]
          have both : K_TR_comesHome g q0 t (nI (sitP (tipC c w P).1 c.2.2.1)) (nI l) (bI (!ft)) υ (fun (r4 : Int32) (s3 : St) => (¬ r4 = bI ft → ∀ u5 : Int32, u5 = nI w + (1 : Int32) → S_TR_comesHome_28 g (q0 + 1) Q s3 t (nI (sitP P c.2.2.1)) (nI (l + 1)) (bI ft) u5) ∧ (r4 = bI ft → (bI ft = 0 ∨ bI ft = 1) ∧ Q (bI ft) s3)) := by
            refine ih q0 (tipC c w P).1 (!ft) υ _ (by omega) (by omega) ht hcu hpu (fun ξ hx => ?_)
            have fx := fu.tr hx
            rw [bI_inj]
            refine ⟨fun y => ?_, fun y => ⟨by cases ft <;> decide, hyes y ξ fx⟩⟩
            rintro u rfl
            rw [nI_1]
            exact hno y ξ fx
          cases ft
          · exact ⟨fun y => absurd rfl y, fun _ => ⟨q0, rfl, both⟩⟩
          · exact ⟨fun _ => ⟨q0, rfl, both⟩, fun y => absurd y (by decide)⟩
        have fin : ∀ τ, fr [(17, 4), (17, 6), (17, 7)] [19, 20, 21, 26, 31, 36, 41, 46, 51] σ τ → Q (bI (!ft)) τ → S_TR_comesHome_28 g (q0 + 1) Q τ t (nI (sitP P c.2.2.1)) (nI (l + 1)) (bI ft) (nI 4) := by
          intro τ hf hq
          refine sg_TR_comesHome_28 ht ⟨fun _ => ?_, fun y => absurd (by decide) y⟩
          cases ft
          · exact ⟨fun y => absurd rfl y, fun _ => hq⟩
          · exact ⟨fun _ => hq, fun y => absurd y (by decide)⟩
        have hv : ∀ υ, fr [(17, 4), (17, 6), (17, 7)] [19, 20, 21, 26, 31, 36, 41, 46, 51] σ υ → ∀ v, winF c (l + 1) P ft = v → Q (bI v) υ := fun υ hu v e => by rw [← e]; exact h υ hu
        refine step 0 σ (by decide) fr.rf (fun e υ hu => hv υ hu _ ?_) (fun e0 υ0 hu0 => step 1 υ0 (by decide) hu0 (fun e υ hu => hv υ hu _ ?_) (fun e1 υ1 hu1 => step 2 υ1 (by decide) hu1 (fun e υ hu => hv υ hu _ ?_) (fun e2 υ2 hu2 => step 3 υ2 (by decide) hu2 (fun e υ hu => hv υ hu _ ?_) (fun e3 υ3 hu3 => fin υ3 hu3 (hv υ3 hu3 _ ?_)))))
        · unfold winF; rw [if_neg z]; cases ft <;> simp_all
        · unfold winF; rw [if_neg z]; cases ft <;> simp_all
        · unfold winF; rw [if_neg z]; cases ft <;> simp_all
        · unfold winF; rw [if_neg z]; cases ft <;> simp_all
        · unfold winF; rw [if_neg z]; cases ft <;> simp_all
    · rw [winF_home z] at h0; exact h0
end
