-- the class's grid, and how far a ball rolls there
def spc (c : Nat) : Nat := 8 * (c / 6) + c % 6 + 9
theorem spc_inj {c d : Nat} (h : spc c = spc d) (hc : c < 36) (hd : d < 36) : c = d := by unfold spc at h; omega
theorem spc_lt {c : Nat} (h : c < 36) : spc c < 64 := by unfold spc; omega
/-- the grid of the State t: the cells' kinds at their spots, -1 elsewhere -/
def GrR (t : Nat) (σ : St) (C R : Nat) (K : Nat → Nat) : Prop := (∀ c, c % 6 < C → c / 6 < R → ai σ (t + 1) (spc c) = nI (K c) ∧ K c ≤ 4) ∧ ∀ p, p < 64 → (∀ c, c % 6 < C → c / 6 < R → p ≠ spc c) → ai σ (t + 1) p = -1
theorem sub8 (p : Nat) : nI (p + 8) + (-8) = nI p := by
  rw [← nI_add, Int32.add_assoc, show nI 8 + (-8) = 0 by decide, Int32.add_zero]
theorem step_some {C R a w d : Nat} (hx : a % 6 < C) (hy : a / 6 < R) (hC : C ≤ 6) (hw : w < 4) (h : nxt C R a w = some d) : nI (spc a) + stepsL.getD w 0 = nI (spc d) := by
  unfold nxt at h
  rcases (show w = 0 ∨ w = 1 ∨ w = 2 ∨ w = 3 by omega) with rfl | rfl | rfl | rfl
  · simp only [if_true] at h
    by_cases e : a / 6 = 0
    · rw [if_pos e] at h; cases h
    · rw [if_neg e] at h; cases h
      rw [show spc a = spc (a - 6) + 8 by unfold spc; omega]
      exact sub8 _
  · simp only [if_neg (show ¬ (1 = 0) by decide), if_true] at h
    by_cases e : a % 6 + 1 < C
    · rw [if_pos e] at h; cases h
      rw [show spc (a + 1) = spc a + 1 by unfold spc; omega]
      exact nI_1 _
    · rw [if_neg e] at h; cases h
  · simp only [if_neg (show ¬ (2 = 0) by decide), if_neg (show ¬ (2 = 1) by decide), if_true] at h
    by_cases e : a / 6 + 1 < R
    · rw [if_pos e] at h; cases h
      rw [show spc (a + 6) = spc a + 8 by unfold spc; omega]
      exact nI_add _ 8
    · rw [if_neg e] at h; cases h
  · simp only [if_neg (show ¬ (3 = 0) by decide), if_neg (show ¬ (3 = 1) by decide), if_neg (show ¬ (3 = 2) by decide)] at h
    by_cases e : a % 6 = 0
    · rw [if_pos e] at h; cases h
    · rw [if_neg e] at h; cases h
      rw [show spc a = spc (a - 1) + 1 by unfold spc; omega]
      exact pk_m1 _
theorem step_none {C R a w : Nat} (hx : a % 6 < C) (hy : a / 6 < R) (hC : C ≤ 6) (hR : R ≤ 6) (hw : w < 4) (h : nxt C R a w = none) : ∃ p, p < 64 ∧ nI (spc a) + stepsL.getD w 0 = nI p ∧ ∀ c, c % 6 < C → c / 6 < R → p ≠ spc c := by
  unfold nxt at h
  rcases (show w = 0 ∨ w = 1 ∨ w = 2 ∨ w = 3 by omega) with rfl | rfl | rfl | rfl
  · simp only [if_true] at h
    by_cases e : a / 6 = 0
    · refine ⟨a % 6 + 1, by omega, ?_, fun c _ _ => by unfold spc; omega⟩
      rw [show spc a = a % 6 + 1 + 8 by unfold spc; omega]
      exact sub8 _
    · rw [if_neg e] at h; cases h
  · simp only [if_neg (show ¬ (1 = 0) by decide), if_true] at h
    by_cases e : a % 6 + 1 < C
    · rw [if_pos e] at h; cases h
    · exact ⟨spc a + 1, by unfold spc; omega, nI_1 _, fun c _ _ => by unfold spc; omega⟩
  · simp only [if_neg (show ¬ (2 = 0) by decide), if_neg (show ¬ (2 = 1) by decide), if_true] at h
    by_cases e : a / 6 + 1 < R
    · rw [if_pos e] at h; cases h
    · exact ⟨spc a + 8, by unfold spc; omega, nI_add _ 8, fun c _ _ => by unfold spc; omega⟩
  · simp only [if_neg (show ¬ (3 = 0) by decide), if_neg (show ¬ (3 = 1) by decide), if_neg (show ¬ (3 = 2) by decide)] at h
    by_cases e : a % 6 = 0
    · refine ⟨8 * (a / 6) + 8, by omega, ?_, fun c _ _ => by unfold spc; omega⟩
      rw [show spc a = 8 * (a / 6) + 8 + 1 by unfold spc; omega]
      exact pk_m1 _
    · rw [if_neg e] at h; cases h
section
variable {g : Gx} {σ : St} {C R : Nat}
theorem reach_loop {Q : Int32 → St → Prop} {K : Nat → Nat} {t w e0 e1 e2 : Nat} (ht : isSA t) (hw : w < 4) (hC : C ≤ 6) (hR : R ≤ 6) (hG : GrR t σ C R K) (h0 : e0 < 64) (h1 : e1 < 64) (h2 : e2 < 64) : ∀ (f a n : Nat), n + f = 6 → dis C R a w < f → a % 6 < C → a / 6 < R →
    Q (nI (n + (rollN C R K (fun d => spc d = e0 ∨ spc d = e1 ∨ spc d = e2) w f a).1)) σ → S_RO_reach_30 g Q σ t (stepsL.getD w 0) (nI e0) (nI e1) (nI e2) (nI (spc a)) (nI n) := by
  intro f
  induction f with
  | zero => intro a n _ h; exact absurd h (by omega)
  | succ f ih =>
    intro a n hnf hf hx hy h
    refine sg_RO_reach_30 ht ⟨fun c => absurd c (nI_ge (a := n) (b := 6) (by omega) (by decide)), fun _ => ?_⟩
    rintro u rfl
    cases hnx : nxt C R a w with
    | none =>
      obtain ⟨p, hp, ep, hno⟩ := step_none hx hy hC hR hw hnx
      rw [rollN, hnx] at h
      rw [ep]
      refine ⟨fun c => absurd c (nI_pos (by omega)), fun _ => ⟨fun _ => ⟨vp_in_nI hp (by decide), ?_⟩, fun c => absurd (nI_lt (b := 64) hp (by decide)) c⟩⟩
      rw [nI_clamp (by omega), hG.2 p hp hno]
      exact sg_RO_reach_66 ht ⟨fun c => absurd c (by decide), fun _ => ⟨fun c => absurd rfl c, fun _ => sg_RO_reach_85 ht ⟨fun _ => h, fun c => absurd c (by decide)⟩⟩⟩
    | some d =>
      obtain ⟨dx, dy, dd⟩ := nxt_some hx hy hC hw hnx
      have hd36 : d < 36 := by omega
      have hs := spc_lt hd36
      obtain ⟨k1, k2⟩ := hG.1 d dx dy
      rw [rollN, hnx] at h
      simp only at h
      rw [step_some hx hy hC hw hnx]
      have inj : ∀ {e : Nat}, e < 64 → (nI (spc d) = nI e ↔ spc d = e) := fun he => nI_eq (by omega) (by omega)
      refine ⟨fun c => absurd c (nI_pos (by omega)), fun _ => ⟨fun _ => ⟨vp_in_nI hs (by decide), ?_⟩, fun c => absurd (nI_lt (b := 64) hs (by decide)) c⟩⟩
      rw [nI_clamp (by omega), k1]
      refine sg_RO_reach_66 ht ⟨fun c => ?_, fun c => ⟨fun _ => ?_, fun c' => absurd c'.symm (m1_ne (by omega))⟩⟩
      · have e : K d = 1 := (nI_eq (b := 1) (by omega) (by omega)).mp c
        rw [if_pos (Or.inl e)] at h
        exact sg_RO_reach_85 ht ⟨fun _ => h, fun c => absurd c (by decide)⟩
      · have n1 : K d ≠ 1 := fun q => c (by rw [q]; rfl)
        refine sg_RO_reach_85 ht ⟨fun q => absurd rfl q, fun _ => ⟨fun q => ?_, fun q0 => ⟨fun q => ?_, fun q1 => ⟨fun q2 => ?_, fun q => ?_⟩⟩⟩⟩
        · rw [if_pos (Or.inr (Or.inl ((inj h0).mp q)))] at h; exact h
        · rw [if_pos (Or.inr (Or.inr (Or.inl ((inj h1).mp q))))] at h; exact h
        · have no : ¬ (K d = 1 ∨ (spc d = e0 ∨ spc d = e1 ∨ spc d = e2)) := by
            rintro (q | q | q | q)
            · exact n1 q
            · exact q0 ((inj h0).mpr q)
            · exact q1 ((inj h1).mpr q)
            · exact q2 ((inj h2).mpr q)
          rw [if_neg no] at h
          refine ⟨fun y => ?_, fun y => ?_⟩
          · have ge : ¬ 2 ≤ K d := fun v => nI_nlt (a := K d) (b := 2) v (by omega) y
            rw [if_neg ge] at h
            rintro u rfl
            rw [nI_1]
            refine ih d (n + 1) (by omega) (by omega) dx dy ?_
            rw [show n + ((rollN C R K (fun d => spc d = e0 ∨ spc d = e1 ∨ spc d = e2) w f d).1 + 1) = n + 1 + (rollN C R K (fun d => spc d = e0 ∨ spc d = e1 ∨ spc d = e2) w f d).1 by omega] at h
            exact h
          · have ge : 2 ≤ K d := Nat.not_lt.mp (fun v => y (nI_lt v (by decide)))
            rw [if_pos ge] at h
            rw [nI_1]
            exact h
        · rw [if_pos (Or.inr (Or.inr (Or.inr ((inj h2).mp q))))] at h; exact h
theorem k_RO_reach {Q : Int32 → St → Prop} {K : Nat → Nat} {t w a S : Nat} (ht : isSA t) (hw : w < 4) (hC : C ≤ 6) (hR : R ≤ 6) (hG : GrR t σ C R K) (hS : S < 262144) (hx : a % 6 < C) (hy : a / 6 < R) (h : Q (nI (rollN C R K (fun d => spc d = spo S 0 ∨ spc d = spo S 1 ∨ spc d = spo S 2) w 6 a).1) σ) : K_RO_reach g t (nI S) (nI (spc a)) (stepsL.getD w 0) σ Q := by
  refine ko_RO_reach (sg_RO_reach_0 ht ?_)
  rintro u1 rfl u2 rfl u3 rfl
  have q0 : nI S &&& 63 = nI (spo S 0) := by
    rw [and63 (by omega)]
    unfold spo
    rw [Nat.pow_zero, Nat.div_one]
  have q1 : (nI S >>> ((6 : Int32) &&& 31)) &&& 63 = nI (spo S 1) := spotIn_eq (b := 1) (by omega) (by decide)
  have q2 : (nI S >>> ((12 : Int32) &&& 31)) &&& 63 = nI (spo S 2) := spotIn_eq (b := 2) (by omega) (by decide)
  rw [q0, q1, q2]
  refine reach_loop ht hw hC hR hG (spo_lt _ _) (spo_lt _ _) (spo_lt _ _) 6 a 0 rfl ?_ hx hy ?_
  · unfold dis
    split
    · omega
    · split
      · omega
      · split <;> omega
  · rw [Nat.zero_add]
    exact h
end
