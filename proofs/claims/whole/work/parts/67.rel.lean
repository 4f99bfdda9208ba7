-- the state: what a State of the class and the rows of the reference hold
abbrev Dat : Type := Nat × Nat × Nat × (Nat → Nat) × (Nat → Nat) × Int32 × Nat × (Nat → Nat) × Nat × (Nat → Nat) × Nat × Option Nat
abbrev vC (d : Dat) : Nat := d.1
abbrev vR (d : Dat) : Nat := d.2.1
abbrev vB (d : Dat) : Nat := d.2.2.1
abbrev vK (d : Dat) : Nat → Nat := d.2.2.2.1
abbrev vP (d : Dat) : Nat → Nat := d.2.2.2.2.1
abbrev vT (d : Dat) : Int32 := d.2.2.2.2.2.1
abbrev vn (d : Dat) : Nat := d.2.2.2.2.2.2.1
abbrev vrw (d : Dat) : Nat → Nat := d.2.2.2.2.2.2.2.1
abbrev vm (d : Dat) : Nat := d.2.2.2.2.2.2.2.2.1
abbrev vsd (d : Dat) : Nat → Nat := d.2.2.2.2.2.2.2.2.2.1
abbrev vx (d : Dat) : Nat := d.2.2.2.2.2.2.2.2.2.2.1
abbrev vf (d : Dat) : Option Nat := d.2.2.2.2.2.2.2.2.2.2.2
def ClsS (t : Nat) (σ : St) (d : Dat) : Prop := fi σ t 1 = (if vC d = 0 then 0 else 1) ∧ ClsB t σ (vC d) (vR d) (vB d) (vK d) ∧ fi σ t 5 = nI (sitP (vP d) (vB d)) ∧ fi σ t 6 = vT d ∧ fi σ t 7 = nI (vn d) ∧ (∀ k, k < vn d → ai σ (t + 3) k = nI (vrw d k)) ∧ fi σ t 8 = nI (vm d) ∧ (∀ k, k < vm d → ai σ (t + 4) k = nI (vsd d k)) ∧ fi σ t 9 = oI (vf d) ∧ fi σ t 10 = nI (vx d)
def RefS (sc kd pl pr sw sh sf : Nat → Int32) (d : Dat) : Prop := (sc 0 = nI (vC d) ∧ sc 1 = nI (vR d) ∧ sc 2 = nI (vB d) ∧ sc 3 = vT d ∧ sc 4 = nI (vn d) ∧ sc 5 = nI (vm d) ∧ sc 6 = nI (vx d) ∧ sc 7 = oI (vf d)) ∧ (∀ c, c < 36 → kd c = nI (vK d c)) ∧ (∀ b, b < vB d → pl b = nI (vP d b)) ∧ (∀ k, k < vn d → pr k = nI (vrw d k)) ∧ ∀ k, k < vm d → sw k = nI (vsd d k / 16) ∧ sh k = nI (vsd d k % 4) ∧ sf k = nI (vsd d k / 4 % 4)
def dsP (P : Nat → Nat) : Prop := ∀ a b, a < 3 → b < 3 → a ≠ b → P a < 36 → P a ≠ P b
def OkD (nr : Nat) (d : Dat) : Prop := (vC d ≤ 6 ∧ vR d ≤ 6 ∧ vB d ≤ 3 ∧ (vC d = 0 ↔ vR d = 0) ∧ (vC d = 0 → vB d = 0)) ∧ (∀ c, c < 36 → vK d c ≤ 4) ∧ okP (vC d) (vR d) (vB d) (vK d) (vP d) ∧ dsP (vP d) ∧ vn d ≤ 8 ∧ (∀ k, k < vn d → vrw d k < 4) ∧ vm d ≤ 8 ∧ (∀ k, k < vm d → vsd d k < 64) ∧ vx d < 2 ^ 31 ∧ ∀ i, vf d = some i → i < nr
def cfg (Ru : Nat → RuleT) (d : Dat) : Cfg := (vC d, vR d, vB d, vK d, vT d, (vf d).map Ru)
def RulC (σ : St) (nr : Nat) (Ru : Nat → RuleT) : Prop := nr ≤ 6 ∧ fi σ 17 5 = nI nr ∧ ∀ i, i < nr → RuleWF (Ru i) ∧ RuC (22 + 5 * i) σ (Ru i)
def RulM (σ : St) (nr : Nat) (Ru : Nat → RuleT) : Prop := nr ≤ 6 ∧ fi σ 151 15 = nI nr ∧ ∀ i, i < nr → RuleWF (Ru i) ∧ RuM i σ (Ru i)
/-- the reference's rows as they stand -/
def CurM (σ : St) (d : Dat) : Prop := RefS (ai σ 152) (ai σ 153) (ai σ 154) (ai σ 155) (ai σ 156) (ai σ 157) (ai σ 158) d
section
variable {σ τ : St} {d : Dat} {nr : Nat} {Ru : Nat → RuleT}
theorem ClsS.toT (h : ClsS 83 σ d) (ho : OkD nr d) (hr : RulC σ nr Ru) : ClsT 83 σ (cfg Ru d) := by
  refine ⟨h.2.1, h.2.2.2.1, ?_⟩
  have hf := h.2.2.2.2.2.2.2.2.1
  have hv := ho.2.2.2.2.2.2.2.2.2
  unfold cfg FoC
  dsimp only
  cases hq : vf d with
  | none => rw [hq] at hf; exact hf
  | some i =>
    rw [hq] at hf
    have hi := hv i hq
    have h6 := hr.1
    exact ⟨i, by omega, hf, by rw [hr.2.1]; exact nI_ge hi (by omega), (hr.2.2 i hi).1, (hr.2.2 i hi).2⟩
theorem CurM.toT (h : CurM σ d) (ho : OkD nr d) (hr : RulM σ nr Ru) : RefT σ (cfg Ru d) (vP d) := by
  obtain ⟨⟨h0, h1, h2, h3, h4, h5, h6, h7⟩, hk, hp, -, -⟩ := h
  obtain ⟨⟨o1, o2, o3, o4, o5⟩, o6, o7, -⟩ := id ho
  refine ⟨⟨⟨h0, h1, h2, o1, o2, o3⟩, fun c hc => ⟨hk c hc, o6 c hc⟩, hp, o7.1⟩, h3, ?_⟩
  have hv := ho.2.2.2.2.2.2.2.2.2
  unfold cfg FoM
  dsimp only
  cases hq : vf d with
  | none => rw [hq] at h7; exact h7
  | some i =>
    rw [hq] at h7
    have hi := hv i hq
    have hr6 := hr.1
    exact ⟨i, by omega, h7, (hr.2.2 i hi).1, (hr.2.2 i hi).2⟩
theorem CurM.box (h : CurM σ d) (ho : OkD nr d) : (ai σ 152 0 ≤ 0) ↔ vC d = 0 := by
  have hc := h.1.1
  have h6 := ho.1.1
  rw [hc]
  constructor
  · intro q
    by_cases e : vC d = 0
    · exact e
    · exact absurd q (nI_nle (by omega) (by omega))
  · intro q; rw [q]; decide
theorem ClsS.box (h : ClsS 83 σ d) : fi σ 83 1 = 0 ↔ vC d = 0 := by
  rw [h.1]
  split
  · rename_i q; exact ⟨fun _ => q, fun _ => rfl⟩
  · rename_i q; exact ⟨fun z => absurd z (by decide), fun z => absurd z q⟩
end
/-- nothing of the reference's has changed / nothing of the class's has -/
def clsF (σ τ : St) : Prop := ∀ i, 151 ≤ i → fi τ i = fi σ i ∧ fj τ i = fj σ i ∧ ai τ i = ai σ i ∧ aj τ i = aj σ i
def refF (σ τ : St) : Prop := ∀ i, i < 151 → fi τ i = fi σ i ∧ fj τ i = fj σ i ∧ ai τ i = ai σ i ∧ aj τ i = aj σ i
theorem fr.cls {F : List (Nat × Nat)} {L : List Nat} {σ τ : St} (h : fr F L σ τ) (hF : ∀ q ∈ F, q.1 < 151) (hL : ∀ q ∈ L, q < 151) : clsF σ τ := by
  intro i hi
  have a : ∀ k, (i, k) ∉ F := fun k q => by have := hF _ q; simp only at this; omega
  have b : i ∉ L := fun q => by have := hL _ q; omega
  exact ⟨funext fun k => (h.1 i k (a k)).1, funext fun k => (h.1 i k (a k)).2, (h.2 i b).1, (h.2 i b).2⟩
theorem fr.ref {F : List (Nat × Nat)} {L : List Nat} {σ τ : St} (h : fr F L σ τ) (hF : ∀ q ∈ F, 151 ≤ q.1) (hL : ∀ q ∈ L, 151 ≤ q) : refF σ τ := by
  intro i hi
  have a : ∀ k, (i, k) ∉ F := fun k q => by have := hF _ q; simp only at this; omega
  have b : i ∉ L := fun q => by have := hL _ q; omega
  exact ⟨funext fun k => (h.1 i k (a k)).1, funext fun k => (h.1 i k (a k)).2, (h.2 i b).1, (h.2 i b).2⟩
theorem clsF.tr {σ τ υ : St} (h : clsF σ τ) (h2 : clsF τ υ) : clsF σ υ := fun i hi => ⟨(h2 i hi).1.trans (h i hi).1, (h2 i hi).2.1.trans (h i hi).2.1, (h2 i hi).2.2.1.trans (h i hi).2.2.1, (h2 i hi).2.2.2.trans (h i hi).2.2.2⟩
theorem refF.tr {σ τ υ : St} (h : refF σ τ) (h2 : refF τ υ) : refF σ υ := fun i hi => ⟨(h2 i hi).1.trans (h i hi).1, (h2 i hi).2.1.trans (h i hi).2.1, (h2 i hi).2.2.1.trans (h i hi).2.2.1, (h2 i hi).2.2.2.trans (h i hi).2.2.2⟩
section
variable {σ τ : St} {d : Dat} {nr : Nat} {Ru : Nat → RuleT}
theorem CurM.cls (h : CurM σ d) (hf : clsF σ τ) : CurM τ d := by
  unfold CurM at h ⊢
  rw [(hf 152 (by decide)).2.2.1, (hf 153 (by decide)).2.2.1, (hf 154 (by decide)).2.2.1, (hf 155 (by decide)).2.2.1, (hf 156 (by decide)).2.2.1, (hf 157 (by decide)).2.2.1, (hf 158 (by decide)).2.2.1]
  exact h
theorem RuM.cls {s : Nat} {r : RuleT} (h : RuM s σ r) (hf : clsF σ τ) : RuM s τ r := by
  unfold RuM at h ⊢
  rw [(hf 163 (by decide)).2.2.1, (hf 164 (by decide)).2.2.1, (hf 165 (by decide)).2.2.1, (hf 166 (by decide)).2.2.1, (hf 167 (by decide)).2.2.1, (hf 168 (by decide)).2.2.1]
  exact h
theorem RulM.cls (h : RulM σ nr Ru) (hf : clsF σ τ) : RulM τ nr Ru := ⟨h.1, by rw [(hf 151 (by decide)).1]; exact h.2.1, fun i hi => ⟨(h.2.2 i hi).1, (h.2.2 i hi).2.cls hf⟩⟩
theorem RulM.fr {F : List (Nat × Nat)} {M : List Nat} (h : RulM σ nr Ru) (hf : fr F M σ τ) (h1 : (151, 15) ∉ F) (h3 : 163 ∉ M) (h4 : 164 ∉ M) (h5 : 165 ∉ M) (h6 : 166 ∉ M) (h7 : 167 ∉ M) (h8 : 168 ∉ M) : RulM τ nr Ru := ⟨h.1, by rw [(hf.1 _ _ h1).1]; exact h.2.1, fun i hi => ⟨(h.2.2 i hi).1, (h.2.2 i hi).2.fr hf h3 h4 h5 h6 h7 h8⟩⟩
end
-- lay
section
variable {g : Gx} {σ : St}
theorem k_BM_lay {Q : St → Prop} {a0 a1 N N1 : Nat} (ha0 : SH[a0]? = some (.inr (0, N, []))) (ha1 : SH[a1]? = some (.inr (0, N1, []))) (hN : N ≤ N1) (hN1 : N1 < 2 ^ 31) (hne : a0 ≠ a1) (h : ∀ τ, fr [] [a1] σ τ → (∀ k, k < N → ai τ a1 k = ai σ a0 k) → (∀ k, N ≤ k → ai τ a1 k = ai σ a1 k) → Q τ) : K_BM_lay g a0 a1 σ Q := by
  have go : ∀ (m i : Nat) (τ : St), i + m = N → fr [] [a1] σ τ → (∀ k, k < i → ai τ a1 k = ai σ a0 k) → (∀ k, i ≤ k → ai τ a1 k = ai σ a1 k) → S_BM_lay_2 g Q τ a0 a1 (nI i) := by
    intro m
    induction m with
    | zero =>
      intro i τ hi hf h1 h2
      have e : i = N := by omega
      subst e
      exact sg_BM_lay_2 ha0 ha1 ⟨fun _ => h τ hf h1 h2, fun c => absurd (nI_le (Nat.le_refl _) (by omega)) c⟩
    | succ m ih =>
      intro i τ hi hf h1 h2
      refine sg_BM_lay_2 ha0 ha1 ⟨fun c => absurd c (nI_ge (by omega) (by omega)), fun _ => ⟨vp_in_nI (by omega) (by omega), vp_in_nI (by omega) hN1, ?_⟩⟩
      rintro s1 rfl u rfl
      rw [nI_clamp (by omega), nI_1, (hf.2 a0 (by simp [hne])).1]
      refine ih (i + 1) _ (by omega) (hf.tr (fr_sai (by simp))) (fun k hk => ?_) (fun k hk => ?_)
      · rw [ai_sai]
        by_cases e : k = i
        · rw [if_pos ⟨rfl, e⟩, e]
        · rw [if_neg (fun q => e q.2)]; exact h1 k (by omega)
      · rw [ai_sai, if_neg (fun q => by omega)]
        exact h2 k (by omega)
  exact ko_BM_lay (sg_BM_lay_0 ha0 ha1 (go N 0 σ (Nat.zero_add _) fr.rf (fun k hk => absurd hk (by omega)) (fun _ _ => rfl)))
theorem sh154 : SH[154]? = some (.inr (0, 3, [])) := by decide +kernel
theorem sh174 : SH[174]? = some (.inr (0, 3, [])) := by decide +kernel
theorem sh179 : SH[179]? = some (.inr (0, 3, [])) := by decide +kernel
/-- the places laid somewhere, and laid back -/
theorem lay_to {Q : St → Prop} {a B : Nat} {P : Nat → Nat} (ha : SH[a]? = some (.inr (0, 3, []))) (hne : 154 ≠ a) (hB : B ≤ 3) (hP : ∀ b, b < B → ai σ 154 b = nI (P b)) (h : ∀ τ, fr [] [a] σ τ → (∀ b, b < B → ai τ a b = nI (P b)) → Q τ) : K_BM_lay g 154 a σ Q :=
  k_BM_lay sh154 ha (Nat.le_refl _) (by decide) hne (fun τ hf h1 _ => h τ hf (fun b hb => by rw [h1 b (by omega)]; exact hP b hb))
theorem lay_back {Q : St → Prop} {a : Nat} {c : Cfg} {P P' : Nat → Nat} (ha : SH[a]? = some (.inr (0, 3, []))) (hne : a ≠ 154) (hr : RefT σ c P') (hP : ∀ b, b < c.2.2.1 → ai σ a b = nI (P b)) (hw : okW c.1 c.2.1 c.2.2.1 P) (h : ∀ τ, fr [] [154] σ τ → RefT τ c P → Q τ) : K_BM_lay g a 154 σ Q := by
  refine k_BM_lay ha sh154 (Nat.le_refl _) (by decide) hne (fun τ hf h1 _ => h τ hf ?_)
  obtain ⟨⟨hd, hk, -, -⟩, hT, hF⟩ := hr
  have hB := hd.2.2.2.2.2
  refine ⟨⟨?_, ?_, fun b hb => ?_, hw⟩, ?_, hF.fr hf (by decide) (by decide) (by decide) (by decide) (by decide) (by decide) (by decide)⟩
  · unfold Dim at hd ⊢
    rw [(hf.2 152 (by decide)).1]
    exact hd
  · rw [(hf.2 153 (by decide)).1]
    exact hk
  · rw [h1 b (by omega)]; exact hP b hb
  · rw [(hf.2 152 (by decide)).1]; exact hT
end
