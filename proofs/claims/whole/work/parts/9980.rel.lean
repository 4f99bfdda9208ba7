-- what holds between two calls
abbrev GX : Type := Dat × Nat × (Nat → RuleT) × Nat × (Nat → Dat) × (Nat → Prop) × (Nat → Dat) × Nat × (Nat → Nat) × (Nat → Int32)
abbrev xd (X : GX) : Dat := X.1
abbrev xn (X : GX) : Nat := X.2.1
abbrev xR (X : GX) : Nat → RuleT := X.2.2.1
abbrev xb (X : GX) : Nat := X.2.2.2.1
abbrev xE (X : GX) : Nat → Dat := X.2.2.2.2.1
abbrev xI (X : GX) : Nat → Prop := X.2.2.2.2.2.1
abbrev xD (X : GX) : Nat → Dat := X.2.2.2.2.2.2.1
abbrev xL (X : GX) : Nat := X.2.2.2.2.2.2.2.1
abbrev xT (X : GX) : Nat → Nat := X.2.2.2.2.2.2.2.2.1
abbrev xp (X : GX) : Nat → Int32 := X.2.2.2.2.2.2.2.2.2
def pfB : List (Nat × Nat) := [(0, 13), (1, 1), (17, 5)] ++ (List.range 10).map (fun j => (83, j + 1)) ++ (List.range 6).flatMap (fun i => [(22 + 5 * i, 5), (22 + 5 * i, 6)]) ++ (List.range 4).flatMap (fun k => (List.range 11).map (fun j => (91 + 5 * k, j))) ++ (List.range 8).flatMap (fun k => (List.range 10).map (fun j => (111 + 5 * k, j + 1)))
def prB : List Nat := [2, 90] ++ (List.range 4).map (fun j => 84 + j) ++ (List.range 6).flatMap (fun i => [23 + 5 * i, 24 + 5 * i, 25 + 5 * i]) ++ (List.range 4).flatMap (fun k => (List.range 4).map (fun j => 92 + 5 * k + j)) ++ (List.range 8).flatMap (fun k => (List.range 4).map (fun j => 112 + 5 * k + j))
def pfS : List (Nat × Nat) := [(52, 4), (52, 5), (52, 6), (52, 7)]
def prS : List Nat := [53, 54, 55]
def pfC : List (Nat × Nat) := [(65, 4)]
def prC : List Nat := [62, 63, 64, 66, 68]
def pfL : List (Nat × Nat) := [(78, 4), (78, 5), (78, 6), (78, 7), (78, 8), (78, 9)]
def prL : List Nat := [80, 81]
def pfP : List (Nat × Nat) := [(69, 9), (69, 10), (69, 11), (69, 12), (69, 13), (69, 14), (69, 15)]
def prP : List Nat := [71, 72, 74, 75, 76, 77]
theorem pb1 : ∀ j, j ≤ 10 → 1 ≤ j → (83, j) ∈ pfB := by decide +kernel
theorem pb2 : ∀ i, i < 6 → (22 + 5 * i, 5) ∈ pfB ∧ (22 + 5 * i, 6) ∈ pfB := by decide +kernel
theorem pb3 : ∀ k, k < 4 → ∀ j, j ≤ 10 → (91 + 5 * k, j) ∈ pfB := by decide +kernel
theorem pb4' : ∀ k, k < 8 → ∀ j, j < 10 → (111 + 5 * k, j + 1) ∈ pfB := by decide +kernel
theorem pb4 : ∀ k, k < 8 → ∀ j, j ≤ 10 → 1 ≤ j → (111 + 5 * k, j) ∈ pfB := fun k hk j h1 h2 => by
  have := pb4' k hk (j - 1) (by omega)
  rw [show j - 1 + 1 = j by omega] at this
  exact this
theorem pr1 : ∀ j, j ≤ 4 → 1 ≤ j → 83 + j ∈ prB := by decide +kernel
theorem pr2 : ∀ i, i < 6 → 22 + 5 * i + 1 ∈ prB ∧ 22 + 5 * i + 2 ∈ prB ∧ 22 + 5 * i + 3 ∈ prB := by decide +kernel
theorem pr3 : ∀ k, k < 4 → ∀ j, j ≤ 4 → 1 ≤ j → 91 + 5 * k + j ∈ prB := by decide +kernel
theorem pr4 : ∀ k, k < 8 → ∀ j, j ≤ 4 → 1 ≤ j → 111 + 5 * k + j ∈ prB := by decide +kernel
def RCb (σ : St) (X : GX) : Prop := ClsS 83 σ (xd X) ∧ RulC σ (xn X) (xR X) ∧ (fi σ 0 13 = nI (xb X) ∧ xb X ≤ 8 ∧ ∀ k, k < xb X → ClsS (111 + 5 * k) σ (xE X k) ∧ ai σ 90 k = xp X k) ∧ (∀ k, k < 4 → (fi σ (91 + 5 * k) 0 ≠ 0 ↔ xI X k) ∧ (xI X k → ClsS (91 + 5 * k) σ (xD X k))) ∧ TxC σ (xL X) (xT X)
def AsK (x : Int32) (ch : Nat) : Prop := x = -1 ∨ ∃ a, a ≤ ch ∧ x = nI a
def CcS (σ : St) (c : Cfg) (P : Nat → Nat) (ch : Nat) : Prop := SeCa σ c P ∧ AsK (fi σ 52 6) ch
def CcC (σ : St) (c : Cfg) (P : Nat → Nat) (ch : Nat) : Prop := CaCa σ c P ∧ ∀ m2, m2 ≤ 1 → AsK (ai σ 62 m2) ch
def CcL (σ : St) (c : Cfg) (sd : Nat → Nat) (m ch : Nat) : Prop := LiCa σ c sd m ∧ AsK (fi σ 78 4) ch
def CcP (σ : St) (c : Cfg) (ch mp : Nat) : Prop := PaCa σ c ∧ AsK (fi σ 69 11) ch ∧ MkR σ mp
def Cch (σ : St) (X : GX) (ch mp : Nat) : Prop := fi σ 0 14 = nI ch ∧ CcS σ (cfg (xR X) (xd X)) (vP (xd X)) ch ∧ CcC σ (cfg (xR X) (xd X)) (vP (xd X)) ch ∧ CcL σ (cfg (xR X) (xd X)) (vsd (xd X)) (vm (xd X)) ch ∧ CcP σ (cfg (xR X) (xd X)) ch mp
section
variable {σ τ : St} {X : GX} {F : List (Nat × Nat)} {M : List Nat} {ch mp : Nat}
theorem rcb_fr (h : RCb σ X) (hf : fr F M σ τ) (hF : ∀ q ∈ pfB, q ∉ F) (hM : ∀ q ∈ prB, q ∉ M) : RCb τ X := by
  obtain ⟨h1, h2, ⟨h3, h4, h5⟩, h6, h7⟩ := h
  refine ⟨h1.frm hf (fun k a b => hF _ (pb1 k a b)) (fun k a b => hM _ (pr1 k a b)), rulC_fr h2 hf (hF _ (by decide +kernel)) (fun i hi => ⟨hF _ (pb2 i hi).1, hF _ (pb2 i hi).2⟩) (fun i hi => ⟨hM _ (pr2 i hi).1, hM _ (pr2 i hi).2.1, hM _ (pr2 i hi).2.2⟩), ⟨by rw [(hf.1 0 13 (hF _ (by decide +kernel))).1]; exact h3, h4, fun k hk => ⟨?_, ?_⟩⟩, fun k hk => ⟨?_, fun q => ?_⟩, h7.frm hf (hF _ (by decide +kernel)) (hM _ (by decide +kernel))⟩
  · exact (h5 k hk).1.frm hf (fun j a b => hF _ (pb4 k (by omega) j a b)) (fun j a b => hM _ (pr4 k (by omega) j a b))
  · rw [(hf.2 90 (hM _ (by decide +kernel))).1]; exact (h5 k hk).2
  · rw [(hf.1 (91 + 5 * k) 0 (hF _ (pb3 k hk 0 (by decide)))).1]; exact (h6 k hk).1
  · exact ((h6 k hk).2 q).frm hf (fun j a b => hF _ (pb3 k hk j a)) (fun j a b => hM _ (pr3 k hk j a b))
theorem AsK.up {x : Int32} {a b : Nat} (h : AsK x a) (hab : a ≤ b) : AsK x b := h.elim Or.inl (fun ⟨c, h1, h2⟩ => Or.inr ⟨c, by omega, h2⟩)
theorem AsK.ne {x : Int32} {a : Nat} (h : AsK x a) (ha : a + 1 < 2 ^ 31) : x ≠ nI (a + 1) := by
  rcases h with h | ⟨c, h1, h2⟩
  · rw [h]; exact m1_ne ha
  · rw [h2]; intro e; have := (nI_eq (by omega) ha).mp e; omega
theorem AsK.of {x y z : Int32} (h : AsK y ch) (e : x = y ∨ x = z) (hz : z = nI ch) : AsK x ch := by
  rcases e with e | e
  · rw [e]; exact h
  · rw [e, hz]; exact Or.inr ⟨ch, Nat.le_refl _, rfl⟩
theorem seCa_fr {c : Cfg} {P : Nat → Nat} (h : SeCa σ c P) (hf : fr F M σ τ) (h14 : (0, 14) ∉ F) (hF : ∀ q ∈ pfS, q ∉ F) (hM : ∀ q ∈ prS, q ∉ M) : SeCa τ c P := by
  obtain ⟨⟨n, G, h1⟩, h2⟩ := h
  refine ⟨⟨n, G, h1.fr hf (hF _ (by decide)) (hM _ (by decide)) (hM _ (by decide))⟩, fun e => ?_⟩
  rw [(hf.1 52 6 (hF _ (by decide))).1, (hf.1 0 14 h14).1] at e
  obtain ⟨v1, v2⟩ := h2 e
  refine ⟨by rw [(hf.1 52 7 (hF _ (by decide))).1]; exact v1, fun a b => ?_⟩
  obtain ⟨w1, w2⟩ := v2 a b
  exact ⟨w1.fr hf (hF _ (by decide)) (hM _ (by decide)) (hM _ (by decide)) (hM _ (by decide)), by rw [(hf.1 52 5 (hF _ (by decide))).1]; exact w2⟩
theorem ccS_fr {c : Cfg} {P : Nat → Nat} (h : CcS σ c P ch) (hf : fr F M σ τ) (h14 : (0, 14) ∉ F) (hF : ∀ q ∈ pfS, q ∉ F) (hM : ∀ q ∈ prS, q ∉ M) : CcS τ c P ch := ⟨seCa_fr h.1 hf h14 hF hM, by rw [(hf.1 52 6 (hF _ (by decide))).1]; exact h.2⟩
theorem ccC_fr {c : Cfg} {P : Nat → Nat} (h : CcC σ c P ch) (hf : fr F M σ τ) (h14 : (0, 14) ∉ F) (hF : ∀ q ∈ pfC, q ∉ F) (hM : ∀ q ∈ prC, q ∉ M) : CcC τ c P ch := by
  obtain ⟨⟨⟨n, G, h1⟩, h2⟩, h3⟩ := h
  have e62 : ai τ 62 = ai σ 62 := (hf.2 62 (hM _ (by decide))).1
  refine ⟨⟨⟨n, G, h1.fr hf (hF _ (by decide)) (hM _ (by decide)) (hM _ (by decide))⟩, fun m hm e => ?_⟩, fun m hm => by rw [e62]; exact h3 m hm⟩
  rw [e62, (hf.1 0 14 h14).1] at e
  obtain ⟨v1, v2⟩ := h2 m hm e
  exact ⟨by rw [(hf.2 64 (hM _ (by decide))).1]; exact v1, fun x hx => by rw [(hf.2 63 (hM _ (by decide))).1]; exact v2 x hx⟩
theorem ccL_fr {c : Cfg} {sd : Nat → Nat} {m : Nat} (h : CcL σ c sd m ch) (hf : fr F M σ τ) (h14 : (0, 14) ∉ F) (hF : ∀ q ∈ pfL, q ∉ F) (hM : ∀ q ∈ prL, q ∉ M) : CcL τ c sd m ch := by
  obtain ⟨⟨h1, h2⟩, h3⟩ := h
  have e4 := (hf.1 78 4 (hF _ (by decide))).1
  have e5 := (hf.1 78 5 (hF _ (by decide))).1
  refine ⟨⟨by rw [e5]; exact h1, fun e => ?_⟩, by rw [e4]; exact h3⟩
  rw [e4, (hf.1 0 14 h14).1] at e
  have := h2 e
  unfold LiF LiR at this ⊢
  rw [e5, (hf.1 78 6 (hF _ (by decide))).1, (hf.1 78 7 (hF _ (by decide))).1, (hf.1 78 8 (hF _ (by decide))).1, (hf.1 78 9 (hF _ (by decide))).1, (hf.2 80 (hM _ (by decide))).2, (hf.2 81 (hM _ (by decide))).1]
  exact this
theorem paF_fr {c : Cfg} (h : PaF σ c) (hf : fr F M σ τ) (hF : ∀ q ∈ pfP, q ∉ F) (hM : ∀ q ∈ prP, q ∉ M) : PaF τ c := by
  obtain ⟨h1, h2, h3, h4, h5⟩ := h
  refine ⟨?_, ?_, ?_, ?_, ?_⟩
  · unfold RoR; rw [(hf.2 71 (hM _ (by decide))).1]; exact h1
  · unfold FaR; rw [(hf.2 72 (hM _ (by decide))).1]; exact h2
  · unfold SetR; rw [(hf.2 76 (hM _ (by decide))).1, (hf.2 75 (hM _ (by decide))).1]; exact h3
  · exact h4.eq (hf.1 69 14 (hF _ (by decide))).1 (hf.1 69 15 (hF _ (by decide))).1
  · unfold BlS; rw [(hf.1 69 12 (hF _ (by decide))).1, (hf.1 69 13 (hF _ (by decide))).1, (hf.2 77 (hM _ (by decide))).1]; exact h5
theorem mkR_fr (h : MkR σ mp) (hf : fr F M σ τ) (hF : ∀ q ∈ pfP, q ∉ F) (hM : ∀ q ∈ prP, q ∉ M) : MkR τ mp := by
  unfold MkR; rw [(hf.1 69 10 (hF _ (by decide))).1, (hf.2 74 (hM _ (by decide))).1]; exact h
theorem ccP_fr {c : Cfg} (h : CcP σ c ch mp) (hf : fr F M σ τ) (h14 : (0, 14) ∉ F) (hF : ∀ q ∈ pfP, q ∉ F) (hM : ∀ q ∈ prP, q ∉ M) : CcP τ c ch mp := by
  obtain ⟨h1, h2, h3⟩ := h
  have e11 := (hf.1 69 11 (hF _ (by decide))).1
  refine ⟨fun e hB => ?_, by rw [e11]; exact h2, mkR_fr h3 hf hF hM⟩
  rw [e11, (hf.1 0 14 h14).1] at e
  exact paF_fr (h1 e hB) hf hF hM
theorem cch_fr (h : Cch σ X ch mp) (hf : fr F M σ τ) (h14 : (0, 14) ∉ F) (hF : ∀ q ∈ pfS ++ pfC ++ pfL ++ pfP, q ∉ F) (hM : ∀ q ∈ prS ++ prC ++ prL ++ prP, q ∉ M) : Cch τ X ch mp := by
  obtain ⟨h0, h1, h2, h3, h4⟩ := h
  simp only [List.mem_append] at hF hM
  exact ⟨by rw [(hf.1 0 14 h14).1]; exact h0, ccS_fr h1 hf h14 (fun q hq => hF q (by simp [hq])) (fun q hq => hM q (by simp [hq])), ccC_fr h2 hf h14 (fun q hq => hF q (by simp [hq])) (fun q hq => hM q (by simp [hq])), ccL_fr h3 hf h14 (fun q hq => hF q (by simp [hq])) (fun q hq => hM q (by simp [hq])), ccP_fr h4 hf h14 (fun q hq => hF q (by simp [hq])) (fun q hq => hM q (by simp [hq]))⟩
/-- something has changed: nothing that was reckoned is kept -/
theorem cch_up {X' : GX} (h : Cch σ X ch mp) (hf : fr F M σ τ) (hc : ch + 1 < 2 ^ 31) (h14 : fi τ 0 14 = nI (ch + 1)) (hF : ∀ q ∈ pfS ++ pfC ++ pfL ++ pfP, q ∉ F) (hM : ∀ q ∈ prS ++ prC ++ prL ++ prP, q ∉ M) : Cch τ X' (ch + 1) mp := by
  obtain ⟨h0, ⟨⟨⟨n, G, q1⟩, -⟩, a1⟩, ⟨⟨⟨n2, G2, q2⟩, -⟩, a2⟩, ⟨⟨l1, -⟩, a3⟩, -, a4, m4⟩ := h
  simp only [List.mem_append] at hF hM
  have e6 := (hf.1 52 6 (hF (52, 6) (by simp [pfS]))).1
  have e62 : ai τ 62 = ai σ 62 := (hf.2 62 (hM 62 (by simp [prC]))).1
  have e4 := (hf.1 78 4 (hF (78, 4) (by simp [pfL]))).1
  have e5 := (hf.1 78 5 (hF (78, 5) (by simp [pfL]))).1
  have e11 := (hf.1 69 11 (hF (69, 11) (by simp [pfP]))).1
  refine ⟨h14, ⟨⟨⟨n, G, q1.fr hf (hF (52, 4) (by simp [pfS])) (hM 53 (by simp [prS])) (hM 55 (by simp [prS]))⟩, fun e => ?_⟩, ?_⟩, ⟨⟨⟨n2, G2, q2.fr hf (hF (65, 4) (by simp [pfC])) (hM 66 (by simp [prC])) (hM 68 (by simp [prC]))⟩, fun m hm e => ?_⟩, fun m hm => ?_⟩, ⟨⟨by rw [e5]; exact l1, fun e => ?_⟩, ?_⟩, fun e => ?_, ?_, mkR_fr m4 hf (fun q hq => hF q (by simp [hq])) (fun q hq => hM q (by simp [hq]))⟩
  · rw [e6, h14] at e; exact absurd e (a1.ne hc)
  · rw [e6]; exact a1.up (by omega)
  · rw [e62, h14] at e; exact absurd e ((a2 m hm).ne hc)
  · rw [e62]; exact (a2 m hm).up (by omega)
  · rw [e4, h14] at e; exact absurd e (a3.ne hc)
  · rw [e4]; exact a3.up (by omega)
  · rw [e11, h14] at e; exact absurd e (a4.ne hc)
  · rw [e11]; exact a4.up (by omega)
end
def RC (σ : St) (X : GX) (ch mp : Nat) : Prop := RCb σ X ∧ Cch σ X ch mp
def pfA : List (Nat × Nat) := (0, 14) :: pfB ++ (pfS ++ pfC ++ pfL ++ pfP)
def prA : List Nat := prB ++ (prS ++ prC ++ prL ++ prP)
section
variable {σ τ : St} {X : GX} {F : List (Nat × Nat)} {M : List Nat} {ch mp mk : Nat}
theorem rc_fr (h : RC σ X ch mp) (hf : fr F M σ τ) (hF : ∀ q ∈ pfA, q ∉ F) (hM : ∀ q ∈ prA, q ∉ M) : RC τ X ch mp := ⟨rcb_fr h.1 hf (fun q hq => hF q (by unfold pfA; simp [hq])) (fun q hq => hM q (by unfold prA; simp [hq])), cch_fr h.2 hf (hF _ (by unfold pfA; simp)) (fun q hq => hF q (by unfold pfA; simp only [List.cons_append, List.mem_cons, List.mem_append] at hq ⊢; exact Or.inr (Or.inr hq))) (fun q hq => hM q (by unfold prA; simp only [List.mem_append] at hq ⊢; exact Or.inr hq))⟩
-- the reference
def pfM : List (Nat × Nat) := [(151, 11), (151, 15), (151, 20), (151, 66)]
def prM : List Nat := [152, 155, 156, 157, 158, 162, 163, 164, 165, 166, 167, 168, 192, 193, 194, 195, 196, 197, 198]
def RM (σ : St) (X : GX) (mk : Nat) : Prop := CurM σ (xd X) ∧ RulM σ (xn X) (xR X) ∧ (fi σ 151 66 = nI (xb X) ∧ ∀ k, k < xb X → PgM σ k (xE X k) ∧ ai σ 196 k = xp X k) ∧ (∀ k, k < 4 → (ai σ 198 k ≠ 0 ↔ xI X k) ∧ (xI X k → ImM σ k (xD X k))) ∧ TxM σ (xL X) (xT X) ∧ MrkM σ mk ∧ fi σ 151 20 = 8
theorem rm_fr0 {X' : GX} (h : RM σ X mk) (hf : fr F M σ τ) (hX : (xn X', xR X', xb X', xE X', xI X', xD X', xL X', xT X', xp X') = (xn X, xR X, xb X, xE X, xI X, xD X, xL X, xT X, xp X)) (hF : ∀ q ∈ pfM, q ∉ F) (hM : ∀ q ∈ [162, 163, 164, 165, 166, 167, 168, 192, 193, 194, 195, 196, 197, 198], q ∉ M) {mk' : Nat} (hm : MrkM τ mk') (hc : CurM τ (xd X')) : RM τ X' mk' := by
  obtain ⟨d', n', R', b', E', I', D', L', T', p'⟩ := X'
  obtain ⟨d, n, R, b, E, I, D, L, T, p⟩ := X
  simp only [Prod.mk.injEq] at hX
  obtain ⟨rfl, rfl, rfl, rfl, rfl, rfl, rfl, rfl, rfl⟩ := hX
  obtain ⟨h1, h2, ⟨h3, h4⟩, h5, h6, h7, h8⟩ := h
  refine ⟨hc, h2.fr hf (hF _ (by decide)) (hM _ (by decide)) (hM _ (by decide)) (hM _ (by decide)) (hM _ (by decide)) (hM _ (by decide)) (hM _ (by decide)), ⟨by rw [(hf.1 151 66 (hF _ (by decide))).1]; exact h3, fun k hk => ?_⟩, fun k hk => ?_, h6.frm hf (hF _ (by decide)) (hM _ (by decide)), hm, by rw [(hf.1 151 20 (hF _ (by decide))).1]; exact h8⟩
  · have := h4 k hk
    unfold PgM at this ⊢
    rw [(hf.2 192 (hM _ (by decide))).1, (hf.2 193 (hM _ (by decide))).1, (hf.2 194 (hM _ (by decide))).1, (hf.2 195 (hM _ (by decide))).1, (hf.2 196 (hM _ (by decide))).1]
    exact this
  · have := h5 k hk
    unfold ImM at this ⊢
    rw [(hf.2 197 (hM _ (by decide))).1, (hf.2 198 (hM _ (by decide))).1]
    exact this
theorem mrk_fr (h : MrkM σ mk) (hf : fr F M σ τ) (h1 : (151, 44) ∉ F) (h2 : 175 ∉ M) : MrkM τ mk := by
  unfold MrkM; rw [(hf.1 151 44 h1).1, (hf.2 175 h2).1]; exact h
theorem cur_fr {d : Dat} (h : CurM σ d) (hf : fr F M σ τ) (h2 : 152 ∉ M) (h5 : 155 ∉ M) (h6 : 156 ∉ M) (h7 : 157 ∉ M) (h8 : 158 ∉ M) (hk : ∀ c, c < 36 → ai τ 153 c = nI (vK d c)) (hp : ∀ b, b < vB d → ai τ 154 b = nI (vP d b)) : CurM τ d := by
  obtain ⟨a1, a2, a3, a4, a5⟩ := h
  refine ⟨by rw [(hf.2 152 h2).1]; exact a1, hk, hp, by rw [(hf.2 155 h5).1]; exact a4, ?_⟩
  rw [(hf.2 156 h6).1, (hf.2 157 h7).1, (hf.2 158 h8).1]; exact a5
/-- nothing of it was touched -/
theorem rm_fr (h : RM σ X mk) (hf : fr F M σ τ) (hF : ∀ q ∈ (151, 44) :: pfM, q ∉ F) (hM : ∀ q ∈ 153 :: 154 :: 175 :: prM, q ∉ M) : RM τ X mk :=
  rm_fr0 h hf rfl (fun q hq => hF q (List.mem_cons_of_mem _ hq)) (fun q hq => hM q (by revert q; decide)) (mrk_fr h.2.2.2.2.2.1 hf (hF _ (by decide)) (hM _ (by decide))) (cur_fr h.1 hf (hM _ (by decide)) (hM _ (by decide)) (hM _ (by decide)) (hM _ (by decide)) (hM _ (by decide)) (by rw [(hf.2 153 (hM _ (by decide))).1]; exact h.1.2.1) (by rw [(hf.2 154 (hM _ (by decide))).1]; exact h.1.2.2.1))
/-- kinds and places as they were -/
theorem rm_scr (h : RM σ X mk) (hf : fr F M σ τ) (hF : ∀ q ∈ pfM, q ∉ F) (hM : ∀ q ∈ prM, q ∉ M) {mk' : Nat} (hm : MrkM τ mk') (hk : ∀ c, c < 36 → ai τ 153 c = nI (vK (xd X) c)) (hp : ∀ b, b < vB (xd X) → ai τ 154 b = nI (vP (xd X) b)) : RM τ X mk' :=
  rm_fr0 h hf rfl hF (fun q hq => hM q (by revert q; decide)) hm (cur_fr h.1 hf (hM _ (by decide)) (hM _ (by decide)) (hM _ (by decide)) (hM _ (by decide)) (hM _ (by decide)) hk hp)
end
def OkX (X : GX) : Prop := OkD (xn X) (xd X) ∧ (∀ k, k < xb X → OkD (xn X) (xE X k)) ∧ ∀ k, k < 4 → xI X k → OkD (xn X) (xD X k)
def Rel (N : Nat) (σ : St) : Prop := ∃ X ch mp mk, RC σ X ch mp ∧ RM σ X mk ∧ OkX X ∧ ch ≤ N ∧ mp ≤ 140000 * N ∧ mk ≤ 37 * N
