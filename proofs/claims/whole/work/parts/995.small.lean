-- small calls: force, ball, put, wall, sound, pain
abbrev dP (d : Dat) (P : Nat → Nat) : Dat := (vC d, vR d, vB d, vK d, P, vT d, vn d, vrw d, vm d, vsd d, vx d, vf d)
abbrev dPT (d : Dat) (P : Nat → Nat) (T : Int32) : Dat := (vC d, vR d, vB d, vK d, P, T, vn d, vrw d, vm d, vsd d, vx d, vf d)
abbrev dK (d : Dat) (K : Nat → Nat) : Dat := (vC d, vR d, vB d, K, vP d, vT d, vn d, vrw d, vm d, vsd d, vx d, vf d)
abbrev dN (d : Dat) (n : Nat) (rw : Nat → Nat) : Dat := (vC d, vR d, vB d, vK d, vP d, vT d, n, rw, vm d, vsd d, vx d, vf d)
abbrev dS (d : Dat) (m : Nat) (sd : Nat → Nat) : Dat := (vC d, vR d, vB d, vK d, vP d, vT d, vn d, vrw d, m, sd, vx d, vf d)
abbrev dX (d : Dat) (x : Nat) : Dat := (vC d, vR d, vB d, vK d, vP d, vT d, vn d, vrw d, vm d, vsd d, x, vf d)
abbrev dF (d : Dat) (f : Option Nat) : Dat := (vC d, vR d, vB d, vK d, vP d, vT d, vn d, vrw d, vm d, vsd d, vx d, f)
theorem gr_kind {t : Nat} {σ : St} {C R : Nat} {K : Nat → Nat} (h : GrR t σ C R K) {c : Nat} (hc : c < 36) : ai σ (t + 1) (spc c) = if c % 6 < C ∧ c / 6 < R then nI (K c) else -1 := by
  by_cases q : c % 6 < C ∧ c / 6 < R
  · rw [if_pos q]; exact (h.1 c q.1 q.2).1
  · rw [if_neg q]
    refine h.2 _ (spc_lt hc) (fun x hx hy e => q ?_)
    have h36 : x < 36 ∨ 36 ≤ x := by omega
    rcases h36 with h36 | h36
    · rw [spc_inj e hc h36]; exact ⟨hx, hy⟩
    · exfalso
      unfold spc at e
      omega
theorem n_kind {k : Nat} (hk : k ≤ 4) : (nI k = 0 ↔ k = 0) ∧ (nI k = 1 ↔ k = 1) ∧ nI k ≠ -1 := ⟨nI_eq (b := 0) (by omega) (by decide), nI_eq (b := 1) (by omega) (by decide), fun e => m1_ne (by omega) e.symm⟩
section
variable {g : Gx} {σ : St} {d : Dat} {nr : Nat} {Ru : Nat → RuleT}
/-- a cell bare in the State t -/
theorem k_SA_bare {Q : Int32 → St → Prop} {t c C R B : Nat} {K P : Nat → Nat} (ht : isSA t) (hb : ClsB t σ C R B K) (hs : fi σ t 5 = nI (sitP P B)) (hK : ∀ c, c < 36 → K c ≤ 4) (hP : ∀ b, b < B → P b < 38) (hc : c < 36) (h : Q (if (c % 6 < C ∧ c / 6 < R) ∧ K c = 0 ∧ whoM P B c = -1 then 1 else 0) σ) : K_SA_isBare g t (nI (spc c)) σ Q := by
  refine k_SA_isBare ht (spc_lt hc) (Nat.lt_trans sitP_lt (by decide)) hs ?_
  rw [gr_kind hb.2.2.1 hc, who_whoM hP hc]
  by_cases q : c % 6 < C ∧ c / 6 < R
  · rw [if_pos q]
    simp only [q, true_and, and_self] at h
    simp only [(n_kind (hK c hc)).1]
    exact h
  · rw [if_neg q]
    simp only [q, false_and, if_false] at h
    rw [if_neg (fun z => absurd z.1 (by decide))]
    exact h
theorem k_SA_bare_out {Q : Int32 → St → Prop} {t : Nat} (ht : isSA t) (h : Q 0 σ) : K_SA_isBare g t (-1) σ Q := ko_SA_isBare (sg_SA_isBare_0 ht (k_SA_kindAt_out ht ⟨fun _ => h, fun q => absurd q (by decide)⟩))
theorem kM_free {Q : Int32 → St → Prop} {c : Nat} (hs : CurM σ d) (ho : OkD nr d) (hc : c < 36) (h : Q (if (c % 6 < vC d ∧ c / 6 < vR d) ∧ vK d c = 0 ∧ whoM (vP d) (vB d) c = -1 then 1 else 0) σ) : K_BM_isFree g (nI c) σ Q := by
  have hd : Dim σ (vC d) (vR d) (vB d) := ⟨hs.1.1, hs.1.2.1, hs.1.2.2.1, ho.1.1, ho.1.2.1, ho.1.2.2.1⟩
  refine k_BM_isFree hd (P := vP d) (fun b hb => ⟨hs.2.2.1 b hb, ?_⟩) hc ?_
  · have := (ho.2.2.1.1.2 b).1; omega
  · rw [hs.2.1 c hc]
    simp only [(n_kind (ho.2.1 c hc)).1]
    exact h
theorem kM_isCell {Q : Int32 → St → Prop} {u v : Int32} (hs : CurM σ d) (ho : OkD nr d) (hin : ∀ x y, x < vC d → y < vR d → u = nI x → v = nI y → Q 1 σ) (hout : (∀ x y, x < vC d → y < vR d → u = nI x → v = nI y → False) → Q 0 σ) : K_BM_isCell g u v σ Q :=
  k_BM_isCell ⟨hs.1.1, hs.1.2.1, hs.1.2.2.1, ho.1.1, ho.1.2.1, ho.1.2.2.1⟩ hin hout
-- force
theorem kM_force {Q : Int32 → St → Prop} {x : Int32} (hs : CurM σ d) (hr : RulM σ nr Ru) (h0 : (∀ f : Option Nat, (∀ i, f = some i → i < nr) → x ≠ oI f) → Q (-2) σ) (h1 : ∀ f : Option Nat, x = oI f → (∀ i, f = some i → i < nr) → Q (oI (vf d)) (sai σ 152 7 (oI f))) : K_BM_force g x σ Q := by
  have hn6 := hr.1
  have t1 : (-1 : Int64).toInt = -1 := by decide
  have t2 : (-1 : Int32).toInt = -1 := by decide
  have t3 : (nI nr - 1).toInt = (nr : Int) - 1 := by
    have := pk_sub_toInt (a := nr) (b := 1) (by omega) (by decide)
    exact this
  have ran : ((-1 : Int64) ≤ x.toInt64 ∧ x.toInt64 ≤ (nI nr - 1).toInt64) ↔ (¬ x < -1 ∧ x < nI nr) := by
    rw [Int64.le_iff_toInt_le, Int64.le_iff_toInt_le, Int32.toInt_toInt64, Int32.toInt_toInt64, Int32.lt_iff_toInt_lt, Int32.lt_iff_toInt_lt, t1, t2, t3, nI_toInt (by omega)]
    omega
  have lo : ∀ f : Option Nat, (∀ i, f = some i → i < nr) → ¬ oI f < -1 ∧ oI f < nI nr := by
    intro f hf
    cases f with
    | none => exact ⟨by decide, Int32.lt_of_lt_of_le (by decide : (-1 : Int32) < nI 0) (nI_le (Nat.zero_le nr) (by omega))⟩
    | some i =>
      have := hf i rfl
      exact ⟨fun q => nI_pos (n := i) (by omega) (Int32.lt_trans q (by decide)), nI_lt this (by omega)⟩
  refine ko_BM_force (sg_BM_force_0 ?_)
  rw [hr.2.1]
  refine k_BM_in ?_
  by_cases q : (-1 : Int64) ≤ x.toInt64 ∧ x.toInt64 ≤ (nI nr - 1).toInt64
  · rw [if_pos q]
    refine ⟨fun _ => ⟨pk_in 7 8 (by decide), ?_⟩, fun z => absurd z (by decide)⟩
    obtain ⟨q1, q2⟩ := ran.mp q
    obtain ⟨f, rfl, hf⟩ := oI_of hn6 q1 q2
    rintro u rfl
    refine ⟨pk_in 7 8 (by decide), ?_⟩
    rintro s rfl
    rw [cl7, hs.1.2.2.2.2.2.2.2]
    exact h1 f rfl hf
  · rw [if_neg q]
    exact ⟨fun z => absurd rfl z, fun _ => h0 (fun f hf e => q (ran.mpr (e ▸ lo f hf)))⟩
-- ball
def balV (d : Dat) (b k : Nat) : Int32 := if vP d b < 36 then (if k = 0 then nI (vP d b % 6) else if k = 1 then nI (vP d b / 6) else if k = 2 then 0 else oI (stF (vC d) (vR d) (vK d) (vP d) b)) else if k = 2 then (if vP d b = 36 then 1 else 2) else -1
theorem kB_ball {Q : Int32 → St → Prop} {x y : Int32} (hs : ClsS 83 σ d) (ho : OkD nr d) (h0 : ((∀ b, b < vB d → x ≠ nI b) ∨ (∀ k, k < 4 → y ≠ nI k)) → Q (-1) σ) (h1 : ∀ b k, b < vB d → k < 4 → x = nI b → y = nI k → Q (balV d b k) σ) : K_BB_ball g x y σ Q := by
  have hB := ho.1.2.2.1
  have e4 : fi σ 83 4 = nI (vB d) := hs.2.1.1.2.2
  refine ko_BB_ball (sg_BB_ball_0 ⟨fun q => h0 (Or.inl (fun b hb => rg_neg q (by omega))), fun q => ⟨fun q2 => ?_, fun q2 => h0 (Or.inl (fun b hb e => q2 ?_))⟩⟩)
  · obtain ⟨b, hb31, rfl⟩ := nI_of q
    rw [e4, nI_ltI hb31 (by omega)] at q2
    rw [hs.2.2.1]
    refine k_SA_spotIn (Nat.lt_trans sitP_lt (by decide)) (by omega) ?_
    rw [spo_sitP (by omega), show enB (vP d) (vB d) b = enc (vP d b) from if_pos q2]
    refine k_SA_isFallen enc_lt ?_
    have p38 := (ho.2.2.1.1.2 b).1
    have fl : (enc (vP d b) = 0 ∨ enc (vP d b) = 7) ↔ ¬ vP d b < 36 := by
      rw [enc_0 p38, enc_7 p38]; omega
    by_cases hi : vP d b < 36
    · rw [if_neg (fun z => fl.mp z hi), enc_c hi]
      refine ⟨fun e => ?_, fun e => ?_, fun e => ?_, fun e => ?_, fun e1 e2 e3 e4 => h0 (Or.inr (fun k hk e => ?_))⟩
      · have := h1 b 0 q2 (by decide) rfl e
        unfold balV at this
        rw [if_pos hi, if_pos rfl] at this
        exact ⟨fun _ => k_SA_colC hi this, fun z => absurd rfl z⟩
      · have := h1 b 1 q2 (by decide) rfl e
        unfold balV at this
        rw [if_pos hi, if_neg (by decide), if_pos rfl] at this
        exact ⟨fun _ => k_SA_rowC hi this, fun z => absurd rfl z⟩
      · have := h1 b 2 q2 (by decide) rfl e
        unfold balV at this
        rw [if_pos hi, if_neg (by decide), if_neg (by decide), if_pos rfl] at this
        exact ⟨fun z => absurd rfl z, fun _ => this⟩
      · have := h1 b 3 q2 (by decide) rfl e
        unfold balV at this
        rw [if_pos hi, if_neg (by decide), if_neg (by decide), if_neg (by decide)] at this
        exact ⟨fun _ => k_SA_stepsHome sa_83 hs.2.1 (by omega) hi this, fun z => absurd rfl z⟩
      · rcases (show k = 0 ∨ k = 1 ∨ k = 2 ∨ k = 3 by omega) with rfl | rfl | rfl | rfl
        · exact e1 e
        · exact e2 e
        · exact e3 e
        · exact e4 e
    · rw [if_pos (fl.mpr hi)]
      have no : ∀ k, k < 4 → k ≠ 2 → y = nI k → Q (-1) σ := by
        intro k hk hk2 e
        have := h1 b k q2 hk rfl e
        unfold balV at this
        rw [if_neg hi, if_neg hk2] at this
        exact this
      refine ⟨fun e => ⟨fun z => absurd z (by decide), fun _ => no 0 (by decide) (by decide) e⟩, fun e => ⟨fun z => absurd z (by decide), fun _ => no 1 (by decide) (by decide) e⟩, fun e => ⟨fun _ => ?_, fun z => absurd z (by decide)⟩, fun e => ⟨fun z => absurd z (by decide), fun _ => no 3 (by decide) (by decide) e⟩, fun e1 e2 e3 e4 => h0 (Or.inr (fun k hk e => ?_))⟩
      · have := h1 b 2 q2 (by decide) rfl e
        unfold balV at this
        rw [if_neg hi, if_pos rfl] at this
        have z0 : nI (enc (vP d b)) = 0 ↔ vP d b = 36 := by rw [← enc_0 p38]; exact nI_eq (b := 0) (by have := enc_lt (p := vP d b); omega) (by decide)
        refine ⟨fun z => ?_, fun z => ?_⟩
        · rw [if_neg (fun w => z (z0.mpr w))] at this; exact this
        · rw [if_pos (z0.mp z)] at this; exact this
      · rcases (show k = 0 ∨ k = 1 ∨ k = 2 ∨ k = 3 by omega) with rfl | rfl | rfl | rfl
        · exact e1 e
        · exact e2 e
        · exact e3 e
        · exact e4 e
  · rw [e, e4]; exact nI_lt hb (by omega)
theorem kM_ball {Q : Int32 → St → Prop} {x y : Int32} (hs : CurM σ d) (ho : OkD nr d) (hr : RulM σ nr Ru) (h0 : ((∀ b, b < vB d → x ≠ nI b) ∨ (∀ k, k < 4 → y ≠ nI k)) → Q (-1) σ) (h1 : ∀ b k, b < vB d → k < 4 → x = nI b → y = nI k → Q (balV d b k) σ) : K_BM_ball g x y σ Q := by
  have hB := ho.1.2.2.1
  refine ko_BM_ball (sg_BM_ball_0 (kM_isBall hs ho (fun b hb e => ⟨fun _ => ?_, fun z => absurd z (by decide)⟩) (fun q => ⟨fun z => absurd rfl z, fun _ => h0 (Or.inl q)⟩)))
  subst e
  have p38 := (ho.2.2.1.1.2 b).1
  refine ⟨vp_in_nI (by omega) (by decide), ?_⟩
  have eb : ai σ 154 b = nI (vP d b) := hs.2.2.1 b hb
  rw [nI_clamp (by omega), eb]
  refine pk_le 36 (vP d b) (fun hi => ?_) (fun hi => ?_)
  · refine sg_BM_ball_26 ?_
    rw [nI_clamp (by omega), eb]
    have hi' : ¬ vP d b < 36 := by omega
    have no : ∀ k, k < 4 → k ≠ 2 → y = nI k → Q (-1) σ := by
      intro k hk hk2 e
      have := h1 b k hb hk rfl e
      unfold balV at this
      rw [if_neg hi', if_neg hk2] at this
      exact this
    refine ⟨fun e => ⟨fun _ => no 0 (by decide) (by decide) e, fun z => absurd rfl z⟩, fun e => ⟨fun _ => no 1 (by decide) (by decide) e, fun z => absurd rfl z⟩, fun e => ⟨fun _ => ⟨vp_in_nI (by omega) (by decide), ?_⟩, fun z => absurd rfl z⟩, fun e => ⟨fun _ => no 3 (by decide) (by decide) e, fun z => absurd rfl z⟩, fun e1 e2 e3 e4 => h0 (Or.inr (fun k hk e => ?_))⟩
    · have := h1 b 2 hb (by decide) rfl e
      unfold balV at this
      rw [if_neg hi', if_pos rfl] at this
      refine ⟨fun z => ?_, fun z => ?_⟩
      · rw [if_neg (fun w => z (by rw [w]; rfl))] at this; exact this
      · rw [if_pos ((nI_eq (b := 36) (by omega) (by decide)).mp z)] at this; exact this
    · rcases (show k = 0 ∨ k = 1 ∨ k = 2 ∨ k = 3 by omega) with rfl | rfl | rfl | rfl
      · exact e1 e
      · exact e2 e
      · exact e3 e
      · exact e4 e
  · refine sg_BM_ball_26 ?_
    rw [nI_clamp (by omega), eb, rem6 (by omega), div6 (by omega)]
    refine ⟨fun e => ⟨fun z => absurd z (by decide), fun _ => ⟨vp_in_nI (by omega) (by decide), ?_⟩⟩, fun e => ⟨fun z => absurd z (by decide), fun _ => ⟨vp_in_nI (by omega) (by decide), ?_⟩⟩, fun e => ⟨fun z => absurd z (by decide), fun _ => ?_⟩, fun e => ⟨fun z => absurd z (by decide), fun _ => ?_⟩, fun e1 e2 e3 e4 => h0 (Or.inr (fun k hk e => ?_))⟩
    · have := h1 b 0 hb (by decide) rfl e
      unfold balV at this
      rw [if_pos hi, if_pos rfl] at this
      exact this
    · have := h1 b 1 hb (by decide) rfl e
      unfold balV at this
      rw [if_pos hi, if_neg (by decide), if_pos rfl] at this
      exact this
    · have := h1 b 2 hb (by decide) rfl e
      unfold balV at this
      rw [if_pos hi, if_neg (by decide), if_neg (by decide), if_pos rfl] at this
      exact this
    · have := h1 b 3 hb (by decide) rfl e
      unfold balV at this
      rw [if_pos hi, if_neg (by decide), if_neg (by decide), if_neg (by decide)] at this
      exact k_BM_steps (hs.toT ho hr).1 hb this
    · rcases (show k = 0 ∨ k = 1 ∨ k = 2 ∨ k = 3 by omega) with rfl | rfl | rfl | rfl
      · exact e1 e
      · exact e2 e
      · exact e3 e
      · exact e4 e
end
