-- force and ball on both sides
theorem oI_of {x : Int32} {nr : Nat} (hnr : nr ≤ 6) (h1 : ¬ x < -1) (h2 : x < nI nr) : ∃ f : Option Nat, x = oI f ∧ ∀ i, f = some i → i < nr := by
  by_cases q : x < 0
  · refine ⟨none, ?_, fun i e => by cases e⟩
    show x = -1
    apply Int32.le_antisymm
    · rw [Int32.le_iff_toInt_le]
      have := Int32.lt_iff_toInt_lt.mp q
      have e1 : (0 : Int32).toInt = 0 := by decide
      have e2 : (-1 : Int32).toInt = -1 := by decide
      omega
    · exact Int32.not_lt.mp h1
  · obtain ⟨j, hj, rfl⟩ := nI_of q
    refine ⟨some j, rfl, fun i e => ?_⟩
    cases e
    exact Nat.not_le.mp (fun y => nI_nlt y hj h2)
section
variable {g : Gx} {σ : St} {d : Dat} {nr : Nat} {Ru : Nat → RuleT}
theorem kB_force {Q : Int32 → St → Prop} {x : Int32} (hs : ClsS 83 σ d) (hr : RulC σ nr Ru) (h0 : (∀ f : Option Nat, (∀ i, f = some i → i < nr) → x ≠ oI f) → Q (-2) σ) (h1 : ∀ f : Option Nat, x = oI f → (∀ i, f = some i → i < nr) → Q (oI (vf d)) (sfi (sfi σ 83 9 (oI f)) 0 14 (fi σ 0 14 + 1))) : K_BB_force g x σ Q := by
  have h9 : fi σ 83 9 = oI (vf d) := hs.2.2.2.2.2.2.2.2.1
  have hn6 := hr.1
  have lo : ∀ f : Option Nat, (∀ i, f = some i → i < nr) → ¬ oI f < -1 ∧ oI f < nI nr := by
    intro f hf
    cases f with
    | none => exact ⟨by decide, Int32.lt_of_lt_of_le (by decide : (-1 : Int32) < nI 0) (nI_le (Nat.zero_le nr) (by omega))⟩
    | some i =>
      have := hf i rfl
      exact ⟨fun q => nI_pos (n := i) (by omega) (Int32.lt_trans q (by decide)), nI_lt this (by omega)⟩
  refine ko_BB_force (sg_BB_force_0 ⟨fun q => h0 (fun f hf e => (lo f hf).1 (e ▸ q)), fun q => ?_⟩)
  rw [hr.2.1]
  refine ⟨fun q2 => ?_, fun q2 => h0 (fun f hf e => q2 (e ▸ (lo f hf).2))⟩
  obtain ⟨f, rfl, hf⟩ := oI_of hn6 q q2
  rintro u rfl s2 rfl s3 rfl
  rw [h9, fi_sfi, if_neg (by decide)]
  exact h1 f rfl hf
end
