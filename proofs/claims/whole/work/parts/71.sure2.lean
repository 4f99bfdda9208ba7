-- numbers asked for, within bounds
theorem rg_of {x : Int32} {hi : Nat} (h0 : ¬ x < 0) (h1 : ¬ nI hi < x) : ∃ n, n ≤ hi ∧ x = nI n := by
  obtain ⟨j, hj, rfl⟩ := nI_of h0
  exact ⟨j, Nat.not_lt.mp (fun q => h1 (nI_lt q hj)), rfl⟩
theorem rg_neg {x : Int32} (h : x < 0) {n : Nat} (hn : n < 2 ^ 31) : x ≠ nI n := fun e => nI_pos hn (e ▸ h)
theorem rg_big {x : Int32} {hi : Nat} (h : nI hi < x) (hh : hi < 2 ^ 31) {n : Nat} (hn : n ≤ hi) : x ≠ nI n := fun e => nI_nlt hn hh (e ▸ h)
theorem rg_in {x : Int32} {lo hi : Nat} {L H : Int64} (hL : L.toInt = lo) (hH : H.toInt = hi) (hh : hi < 2 ^ 31) : (L ≤ x.toInt64 ∧ x.toInt64 ≤ H) ↔ ∃ n, lo ≤ n ∧ n ≤ hi ∧ x = nI n := by
  rw [Int64.le_iff_toInt_le, Int64.le_iff_toInt_le, Int32.toInt_toInt64, hL, hH]
  constructor
  · rintro ⟨h1, h2⟩
    have hx : ¬ x < 0 := fun q => by
      have := Int32.lt_iff_toInt_lt.mp q
      have e0 : (0 : Int32).toInt = 0 := by decide
      omega
    obtain ⟨j, hj, rfl⟩ := nI_of hx
    rw [nI_toInt hj] at h1 h2
    exact ⟨j, by omega, by omega, rfl⟩
  · rintro ⟨n, h1, h2, rfl⟩
    rw [nI_toInt (by omega)]
    omega
theorem k_BM_inR {g : Gx} {σ : St} {Q : Int32 → St → Prop} {x : Int32} {L H : Int64} (lo hi : Nat) (hL : L.toInt = lo) (hH : H.toInt = hi) (hh : hi < 2 ^ 31) (hin : ∀ n, lo ≤ n → n ≤ hi → x = nI n → Q 1 σ) (hout : (∀ n, lo ≤ n → n ≤ hi → x ≠ nI n) → Q 0 σ) : K_BM_in g x.toInt64 L H σ Q := by
  refine k_BM_in ?_
  by_cases q : L ≤ x.toInt64 ∧ x.toInt64 ≤ H
  · rw [if_pos q]
    obtain ⟨n, a, b, c⟩ := (rg_in hL hH hh).mp q
    exact hin n a b c
  · rw [if_neg q]
    exact hout (fun n a b c => q ((rg_in hL hH hh).mpr ⟨n, a, b, c⟩))
theorem k_areH {g : Gx} {σ : St} {c : Cfg} {P : Nat → Nat} {Q : Int32 → St → Prop} (hr : RefT σ c P) (h : Q (if allH P then 1 else 0) σ) : K_BM_areHome g σ Q := by
  refine k_BM_areHome hr.1 ?_
  have e := felB hr.1.1.2.2.2.2.2 hr.1.2.2.2
  by_cases hh : allH P
  · rw [if_pos (e.mpr hh)]; rw [if_pos hh] at h; exact h
  · rw [if_neg (fun z => hh (e.mp z))]; rw [if_neg hh] at h; exact h
section
variable {g : Gx} {σ : St} {d : Dat} {nr : Nat} {Ru : Nat → RuleT}
theorem kM_box {Q : Int32 → St → Prop} (hs : CurM σ d) (ho : OkD nr d) (h0 : vC d = 0 → Q 0 σ) (h1 : vC d ≠ 0 → Q 1 σ) : K_BM_isBox g σ Q := by
  refine k_BM_isBox ?_
  by_cases z : ai σ 152 0 ≤ 0
  · rw [if_pos z]; exact h0 ((hs.box ho).mp z)
  · rw [if_neg z]; exact h1 (fun q => z ((hs.box ho).mpr q))
theorem kB_sure {Q : Int64 → St → Prop} {x y : Int32} (hs : ClsS 83 σ d) (ho : OkD nr d) (hr : RulC σ nr Ru) (h0 : (vC d = 0 ∨ (∀ n, n ≤ 100 → x ≠ nI n) ∨ (∀ n, n ≤ 1 → y ≠ nI n)) → Q (-1) σ) (h1 : ∀ p k, p ≤ 100 → k ≤ 1 → x = nI p → y = nI k → vC d ≠ 0 → ∀ τ, fr [(82, 4), (82, 5), (17, 4), (17, 6), (17, 7)] [19, 20, 21, 26, 31, 36, 41, 46, 51] σ τ → Q (sureV (cfg Ru d) (vrw d) (vn d) (vP d) p k) τ) : K_BB_sure g x y σ Q := by
  have hT := hs.toT ho hr
  refine ko_BB_sure (sg_BB_sure_0 ⟨fun q => h0 (Or.inl (hs.box.mp q)), fun q => ⟨fun q1 => h0 (Or.inr (Or.inl (fun n hn => rg_neg q1 (by omega)))), fun q1 => ⟨fun q2 => h0 (Or.inr (Or.inl (fun n hn => rg_big (hi := 100) q2 (by decide) hn))), fun q2 => ⟨fun q3 => h0 (Or.inr (Or.inr (fun n hn => rg_neg q3 (by omega)))), fun q3 => ⟨fun q4 => ?_, fun q4 => h0 (Or.inr (Or.inr (fun n hn e => q4 (by rw [e]; exact nI_le (b := 1) hn (by decide)))))⟩⟩⟩⟩⟩)
  obtain ⟨p, hp, rfl⟩ := rg_of (hi := 100) q1 q2
  obtain ⟨k, hk, rfl⟩ : ∃ k, k ≤ 1 ∧ y = nI k := by
    obtain ⟨j, hj, rfl⟩ := nI_of q3
    exact ⟨j, (nI_leI (b := 1) hj (by decide)).mp q4, rfl⟩
  refine k_TR_reckonSure (c := cfg Ru d) (rw := vrw d) sa_83 hT ho.2.2.1 hs.2.2.1 hs.2.2.2.2.1 ho.2.2.2.2.1 (fun k hk => ⟨hs.2.2.2.2.2.1 k hk, ho.2.2.2.2.2.1 k hk⟩) hp (fun τ hf e4 e5 => ?_)
  have h1 := h1 p k hp hk rfl rfl (fun z => q (hs.box.mpr z)) τ hf
  rw [e4, e5]
  rcases (show k = 0 ∨ k = 1 by omega) with rfl | rfl
  · exact ⟨fun z => absurd rfl z, fun _ => h1⟩
  · exact ⟨fun _ => h1, fun z => absurd z (by decide)⟩
theorem kM_sure {Q : Int64 → St → Prop} {x y : Int32} (hs : CurM σ d) (ho : OkD nr d) (hr : RulM σ nr Ru) (h0 : (vC d = 0 ∨ (∀ n, n ≤ 100 → x ≠ nI n) ∨ (∀ n, n ≤ 1 → y ≠ nI n)) → Q (-1) σ) (h1 : ∀ p k, p ≤ 100 → k ≤ 1 → x = nI p → y = nI k → vC d ≠ 0 → ∀ τ, fr [(151, 32), (151, 35), (151, 36), (151, 38), (151, 39)] [154, 170, 171, 172, 173, 174] σ τ → (∀ b, b < vB d → ai τ 154 b = nI (vP d b)) → Q (sureV (cfg Ru d) (vrw d) (vn d) (vP d) p k) τ) : K_BM_sure g x y σ Q := by
  have hT := hs.toT ho hr
  have hn8 : vn d ≤ 8 := ho.2.2.2.2.1
  obtain ⟨p1, p2, p3⟩ := pow8 hn8
  have hC := ho.1.1
  have hR := ho.1.2.1
  refine ko_BM_sure (sg_BM_sure_0 (kM_box hs ho (fun q => ⟨fun _ => h0 (Or.inl q), fun z => absurd rfl z⟩) (fun hC0 => ⟨fun z => absurd z (by decide), fun _ => ?_⟩)))
  refine k_BM_inR 0 100 (by decide) (by decide) (by decide) (fun p _ hp ep => ⟨fun z => absurd z (by decide), fun _ => ?_⟩) (fun q => ⟨fun _ => h0 (Or.inr (Or.inl (fun n hn => q n (Nat.zero_le _) hn))), fun z => absurd rfl z⟩)
  refine k_BM_inR 0 1 (by decide) (by decide) (by decide) (fun k _ hk ek => ⟨fun _ => ⟨pk_in 4 8 (by decide), ?_⟩, fun z => absurd z (by decide)⟩) (fun q => ⟨fun z => absurd rfl z, fun _ => h0 (Or.inr (Or.inr (fun n hn => q n (Nat.zero_le _) hn)))⟩)
  subst ep ek
  rintro u rfl
  rw [cl4, hs.1.2.2.2.2.1]
  have h1 := h1 p k hp hk rfl rfl hC0
  -- the weight of one set
  have wt : ∀ (s : Nat) (A Bl : Int64) (υ : St), s < 2 ^ 31 → (∀ υ' : Int64, υ' = A + lN (wtN s p (vn d)) → K_BM_lay g 174 154 υ (fun s2 : St => ∀ u3 : Int32, u3 = nI s + 1 → S_BM_sure_83 g Q s2 (nI p) (nI k) (nI (vn d)) υ' Bl u3)) → ∀ m i, i + m = vn d → S_BM_sure_110 g Q υ (nI p) (nI k) (nI (vn d)) A Bl (nI s) (lN (wtN s p i)) (nI i) := by
    intro s A Bl υ hs31 hk m
    induction m with
    | zero =>
      intro i hi
      have e : i = vn d := by omega
      subst e
      exact sg_BM_sure_110 ⟨fun _ => hk, fun q => absurd (nI_le (Nat.le_refl _) (by omega)) q⟩
    | succ m ih =>
      intro i hi
      refine sg_BM_sure_110 ⟨fun q => absurd q (nI_ge (by omega) (by omega)), fun _ => ?_⟩
      rw [bit1 hs31 (by omega), l100 hp, nI_l (by omega)]
      have := ih (i + 1) (by omega)
      unfold wtN at this
      refine ⟨fun q => ?_, fun q => ?_⟩
      · rintro u rfl u2 rfl
        rw [if_neg q] at this
        rw [lN_mul, nI_1]; exact this
      · rintro u rfl u2 rfl
        rw [if_pos q] at this
        rw [lN_mul, nI_1]; exact this
  have fin : ∀ (m s : Nat) (τ : St), s + m = 2 ^ vn d → fr [(151, 32), (151, 35), (151, 36), (151, 38), (151, 39)] [154, 170, 171, 172, 173, 174] σ τ → RefT τ (cfg Ru d) (vP d) → (∀ b, b < vB d → ai τ 174 b = nI (vP d b)) → S_BM_sure_83 g Q τ (nI p) (nI k) (nI (vn d)) (lN (suS (cfg Ru d) (vrw d) (vn d) (vP d) p s)) (lN (100 ^ vn d)) (nI s) := by
    intro m
    induction m with
    | zero =>
      intro s τ hi hf hr1 hk1
      have e : s = 2 ^ vn d := by omega
      refine sg_BM_sure_83 ?_
      rw [shl1 hn8]
      refine ⟨fun _ => ?_, fun q => absurd (nI_le (by omega) (by omega)) q⟩
      rw [e]
      obtain ⟨A, hA⟩ : ∃ A, A = suS (cfg Ru d) (vrw d) (vn d) (vP d) p (2 ^ vn d) := ⟨_, rfl⟩
      have hA62 : A < 2 ^ 62 := by
        have := suS_le (c := cfg Ru d) (rw := vrw d) (n := vn d) (P := vP d) hp (2 ^ vn d)
        rw [← hA] at this
        have h2 : 2 ^ vn d * 100 ^ vn d ≤ 256 * 10000000000000000 := Nat.mul_le_mul p1 p2
        omega
      have hg : 0 < Nat.gcd (100 ^ vn d) A := Nat.gcd_pos_of_pos_left _ p3
      have hg63 : Nat.gcd (100 ^ vn d) A < 2 ^ 63 := Nat.lt_of_le_of_lt (Nat.gcd_le_left _ p3) (by omega)
      rw [← hA]
      have h1 := h1 τ hf hr1.1.2.2.1
      unfold sureV at h1
      rw [← hA] at h1
      have ne : ¬ lN (Nat.gcd (100 ^ vn d) A) = 0 := fun q => by
        have := (pk_lEQ (b := 0) hg63 (by decide)).mp q
        omega
      refine ko_BM_divisor (sg_BM_divisor_0 (k_BM_divisor (A + 1) A (100 ^ vn d) (by omega) (by omega) (by omega) ?_))
      rw [pk_lDiv (by omega) hg hg63, pk_lDiv (by omega) hg hg63]
      rcases (show k = 0 ∨ k = 1 by omega) with rfl | rfl
      · exact ⟨fun z => absurd rfl z, fun _ => ⟨ne, h1⟩⟩
      · exact ⟨fun _ => ⟨ne, h1⟩, fun z => absurd z (by decide)⟩
    | succ m ih =>
      intro s τ hi hf hr1 hk1
      refine sg_BM_sure_83 ?_
      rw [shl1 hn8]
      refine ⟨fun q => absurd q (nI_ge (by omega) (by omega)), fun _ => ?_⟩
      refine k_BM_tipsRow (rw := vrw d) (n := vn d) (s := s) hr1 (by rw [(hf.2 152 (by decide)).1]; exact hs.1.2.2.2.2.1) hn8 (fun k hk => ⟨by rw [(hf.2 155 (by decide)).1]; exact hs.2.2.2.1 k hk, ho.2.2.2.2.2.1 k hk⟩) (by omega) (fun τ2 f2 r2 _ _ => ?_)
      have hok := rowG_ok (c := cfg Ru d) (rw := vrw d) (s := s) hC hR ho.2.2.1 (i := vn d) ho.2.2.2.2.2.1
      have F2 := hf.tr (f2.mo (by decide) (by decide))
      have k2 : ∀ b, b < vB d → ai τ2 174 b = nI (vP d b) := fun b hb => by rw [(f2.2 174 (by decide)).1]; exact hk1 b hb
      have back : ∀ A' : Int64, A' = lN (suS (cfg Ru d) (vrw d) (vn d) (vP d) p (s + 1)) → K_BM_lay g 174 154 τ2 (fun s2 : St => ∀ u3 : Int32, u3 = nI s + 1 → S_BM_sure_83 g Q s2 (nI p) (nI k) (nI (vn d)) A' (lN (100 ^ vn d)) u3) := by
        intro A' hA'
        refine lay_back (P := vP d) sh174 (by decide) r2 k2 ho.2.2.1.1 (fun τ3 f3 r3 => ?_)
        rintro u rfl
        rw [nI_1, hA']
        exact ih (s + 1) τ3 (by omega) (F2.tr (f3.mo (by simp) (by decide))) r3 (fun b hb => by rw [(f3.2 174 (by decide)).1]; exact k2 b hb)
      refine k_areH r2 ?_
      by_cases hh : allH (rowG (cfg Ru d) (vrw d) s (vP d) (vn d)).1
      · rw [if_pos hh]
        refine ⟨fun z => absurd z (by decide), fun _ => ?_⟩
        refine wt s _ _ τ2 (by omega) (fun υ' e => back υ' ?_) (vn d) 0 (Nat.zero_add _)
        rw [e, lN_add, suS_s, if_pos hh]
      · rw [if_neg hh]
        refine ⟨fun _ => back _ ?_, fun z => absurd rfl z⟩
        rw [suS_s, if_neg hh, Nat.add_zero]
  have beg : ∀ (m i : Nat), i + m = vn d → S_BM_sure_49 g Q σ (nI p) (nI k) (nI (vn d)) 0 (lN (100 ^ i)) (nI i) := by
    intro m
    induction m with
    | zero =>
      intro i hi
      have e : i = vn d := by omega
      subst e
      refine sg_BM_sure_49 ⟨fun _ => ?_, fun q => absurd (nI_le (Nat.le_refl _) (by omega)) q⟩
      refine lay_to sh174 (by decide) ho.1.2.2.1 hs.2.2.1 (fun τ1 f1 q1 => ?_)
      exact fin (2 ^ vn d) 0 τ1 (Nat.zero_add _) (f1.mo (by simp) (by decide)) (hT.fr f1 (by decide) (by decide) (by decide) (by decide) (by decide) (by decide) (by decide) (by decide) (by decide)) q1
    | succ m ih =>
      intro i hi
      refine sg_BM_sure_49 ⟨fun q => absurd q (nI_ge (by omega) (by omega)), fun _ => ?_⟩
      rintro u rfl u2 rfl
      have := ih (i + 1) (by omega)
      rw [Nat.pow_succ, ← lN_mul] at this
      rw [nI_1]
      exact this
  exact beg (vn d) 0 (Nat.zero_add _)
end
