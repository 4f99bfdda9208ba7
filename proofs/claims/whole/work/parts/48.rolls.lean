-- how far a ball rolls
def rollN (C R : Nat) (K : Nat → Nat) (occ : Nat → Prop) [DecidablePred occ] (w : Nat) : Nat → Nat → Nat × Nat
  | 0, a => (0, a)
  | f + 1, a => match nxt C R a w with
    | none => (0, a)
    | some d => if K d = 1 ∨ occ d then (0, a) else if 2 ≤ K d then (1, d) else ((rollN C R K occ w f d).1 + 1, (rollN C R K occ w f d).2)
/-- how many cells to the rim -/
def dis (C R c w : Nat) : Nat := if w = 0 then c / 6 else if w = 1 then C - 1 - c % 6 else if w = 2 then R - 1 - c / 6 else c % 6
theorem nxt_some {C R c w d : Nat} (hx : c % 6 < C) (hy : c / 6 < R) (hC : C ≤ 6) (hw : w < 4) (h : nxt C R c w = some d) : d % 6 < C ∧ d / 6 < R ∧ dis C R d w + 1 = dis C R c w := by
  unfold nxt at h
  unfold dis
  rcases (show w = 0 ∨ w = 1 ∨ w = 2 ∨ w = 3 by omega) with rfl | rfl | rfl | rfl
  · simp only [if_true] at h ⊢
    by_cases e : c / 6 = 0
    · rw [if_pos e] at h; cases h
    · rw [if_neg e] at h; cases h; omega
  · simp only [if_neg (show ¬ (1 = 0) by decide), if_true] at h ⊢
    by_cases e : c % 6 + 1 < C
    · rw [if_pos e] at h; cases h; omega
    · rw [if_neg e] at h; cases h
  · simp only [if_neg (show ¬ (2 = 0) by decide), if_neg (show ¬ (2 = 1) by decide), if_true] at h ⊢
    by_cases e : c / 6 + 1 < R
    · rw [if_pos e] at h; cases h; omega
    · rw [if_neg e] at h; cases h
  · simp only [if_neg (show ¬ (3 = 0) by decide), if_neg (show ¬ (3 = 1) by decide), if_neg (show ¬ (3 = 2) by decide)] at h ⊢
    by_cases e : c % 6 = 0
    · rw [if_pos e] at h; cases h
    · rw [if_neg e] at h; cases h; omega
theorem sfi_self (σ : St) (i k : Nat) : sfi σ i k (fi σ i k) = σ := by
  simp only [sfi, fi]
  have : up2 σ.1 i k (σ.1 i k) = σ.1 := by
    funext a b
    simp only [up2]
    split
    · rename_i h; rw [h.1, h.2]
    · rfl
  rw [this]
theorem sfi_sfi (σ : St) (i k : Nat) (v w : Int32) : sfi (sfi σ i k v) i k w = sfi σ i k w := by
  simp only [sfi, Prod.mk.injEq, and_true]
  funext a b
  simp only [up2]
  split <;> rfl
section
variable {g : Gx} {C R B : Nat}
theorem rolls_loop {Q : Int32 → St → Prop} {K P : Nat → Nat} {w : Nat} (hw : w < 4) : ∀ (f a n : Nat) (σ : St), Dim σ C R B → (∀ b, b < B → ai σ 154 b = nI (P b) ∧ P b < 64) → (∀ c, c < 36 → ai σ 153 c = nI (K c) ∧ K c ≤ 4) → dis C R a w < f → a % 6 < C → a / 6 < R → fi σ 151 32 = nI a →
    Q (nI (n + (rollN C R K (fun d => whoM P B d ≠ -1) w f a).1)) (sfi σ 151 32 (nI (rollN C R K (fun d => whoM P B d ≠ -1) w f a).2)) → S_BM_rolls_25 g Q σ (nI w) (nI n) (oI (nxt C R a w)) := by
  intro f
  induction f with
  | zero => intro a n σ _ _ _ h; exact absurd h (by omega)
  | succ f ih =>
    intro a n σ hd hP hK hf hx hy hr h
    have hC := hd.2.2.2.1
    have hR := hd.2.2.2.2.1
    have stay : Q (nI (n + 0)) (sfi σ 151 32 (nI a)) → Q (nI n) σ := by
      rw [← hr, sfi_self]
      exact id
    cases hnx : nxt C R a w with
    | none =>
      rw [rollN, hnx] at h
      exact sg_BM_rolls_25 ⟨fun _ => stay h, fun q => absurd rfl q⟩
    | some d =>
      obtain ⟨dx, dy, dd⟩ := nxt_some hx hy hC hw hnx
      have hd36 : d < 36 := by omega
      obtain ⟨k1, k2⟩ := hK d hd36
      rw [rollN, hnx] at h
      simp only at h
      refine sg_BM_rolls_25 ⟨fun q => absurd q.symm (m1_ne (by omega)), fun _ => ⟨vp_in_nI hd36 (by decide), ?_⟩⟩
      rw [show oI (some d) = nI d from rfl, nI_clamp (by omega), k1]
      refine ⟨fun q => ?_, fun q => k_BM_whoAt hd hP (by omega) ⟨fun z => ?_, fun z => ?_⟩⟩
      · have e : K d = 1 := (nI_eq (b := 1) (by omega) (by omega)).mp q
        rw [if_pos (Or.inl e)] at h
        exact stay h
      · rw [if_pos (Or.inr z)] at h
        exact stay h
      · have e1 : ¬ (K d = 1 ∨ whoM P B d ≠ -1) := fun y => y.elim (fun y => q (by rw [y]; rfl)) (fun y => y z)
        rw [if_neg e1] at h
        rintro s rfl u rfl
        refine ⟨vp_in_nI hd36 (by decide), ?_⟩
        rw [show ai (sfi σ 151 32 (nI d)) 153 d = ai σ 153 d from rfl, k1, nI_1]
        refine ⟨fun y => ?_, fun y => ?_⟩
        · have e2 : ¬ 2 ≤ K d := fun v => nI_nlt (a := K d) (b := 2) v (by omega) y
          rw [if_neg e2] at h
          refine k_BM_by (σ := sfi σ 151 32 (nI d)) hd dx dy hw ?_
          refine ih d (n + 1) (sfi σ 151 32 (nI d)) hd hP hK (by omega) dx dy rfl ?_
          rw [sfi_sfi]
          rw [show n + ((rollN C R K (fun d => whoM P B d ≠ -1) w f d).1 + 1) = n + 1 + (rollN C R K (fun d => whoM P B d ≠ -1) w f d).1 by omega] at h
          exact h
        · have e2 : 2 ≤ K d := Nat.not_lt.mp (fun v => y (nI_lt v (by decide)))
          rw [if_pos e2] at h
          refine sg_BM_rolls_25 ⟨fun _ => h, fun v => absurd rfl v⟩
theorem k_BM_rolls {Q : Int32 → St → Prop} {K P : Nat → Nat} {b w : Nat} {σ : St} (hw : w < 4) (hb : b < B) (hd : Dim σ C R B) (hP : ∀ b, b < B → ai σ 154 b = nI (P b) ∧ P b < 64) (hK : ∀ c, c < 36 → ai σ 153 c = nI (K c) ∧ K c ≤ 4) (hx : P b % 6 < C) (hy : P b / 6 < R)
    (h : Q (nI (rollN C R K (fun d => whoM P B d ≠ -1) w 6 (P b)).1) (sfi σ 151 32 (nI (rollN C R K (fun d => whoM P B d ≠ -1) w 6 (P b)).2))) : K_BM_rolls g (nI b) (nI w) σ Q := by
  have hB := hd.2.2.2.2.2
  have hC := hd.2.2.2.1
  have hR := hd.2.2.2.2.1
  refine ko_BM_rolls (sg_BM_rolls_0 ⟨vp_in_nI (by omega) (by decide), ?_⟩)
  rintro s rfl
  refine ⟨vp_in_nI (by omega) (by decide), ?_⟩
  rw [nI_clamp (by omega), show ai (sfi σ 151 32 (ai σ 154 b)) 154 b = ai σ 154 b from rfl, (hP b hb).1]
  refine k_BM_by (σ := sfi σ 151 32 (nI (P b))) hd hx hy hw ?_
  refine rolls_loop hw 6 (P b) 0 (sfi σ 151 32 (nI (P b))) hd hP hK ?_ hx hy rfl ?_
  · unfold dis
    split
    · omega
    · split
      · omega
      · split <;> omega
  · rw [sfi_sfi, Nat.zero_add]
    exact h
end
