-- the next cell by a way
def nxt (C R c w : Nat) : Option Nat := if w = 0 then (if c / 6 = 0 then none else some (c - 6)) else if w = 1 then (if c % 6 + 1 < C then some (c + 1) else none) else if w = 2 then (if c / 6 + 1 < R then some (c + 6) else none) else (if c % 6 = 0 then none else some (c - 1))
def oI (o : Option Nat) : Int32 := match o with
  | some d => nI d
  | none => -1
theorem m1_ne {n : Nat} (h : n < 2 ^ 31) : (-1 : Int32) ≠ nI n := fun e => by
  have := nI_pos h
  rw [← e] at this
  exact this (by decide)
section
variable {g : Gx} {σ : St} {C R B : Nat}
theorem by47 {Q : Int32 → St → Prop} {u z0 z1 : Int32} (hd : Dim σ C R B) (hin : ∀ x y, x < C → y < R → u = nI x → z1 + z0 = nI y → Q (nI (6 * y + x)) σ) (hout : (∀ x y, x < C → y < R → u = nI x → z1 + z0 = nI y → False) → Q (-1) σ) : S_BM_by_47 g Q σ u z0 z1 := by
  refine sg_BM_by_47 ?_
  rintro v rfl
  refine k_BM_isCell hd (fun x y hx hy ex ey => ⟨fun c => absurd c (by decide), fun _ => ?_⟩) (fun ho => ⟨fun _ => hout ho, fun c => absurd rfl c⟩)
  have := hin x y hx hy ex ey
  rw [ex, ey]
  have e : (6 : Int32) * nI y + nI x = nI (6 * y + x) := by
    show nI 6 * nI y + nI x = _
    rw [pk_mul, nI_add]
  rw [e]
  exact this
theorem k_BM_by {Q : Int32 → St → Prop} {c w : Nat} (hd : Dim σ C R B) (hx : c % 6 < C) (hy : c / 6 < R) (hw : w < 4) (h : Q (oI (nxt C R c w)) σ) : K_BM_by g (nI c) (nI w) σ Q := by
  have hC := hd.2.2.2.1
  have hR := hd.2.2.2.2.1
  have hc : c < 36 := by omega
  have inj : ∀ {a b : Nat}, a < 64 → b < 64 → nI a = nI b → a = b := fun ha hb e => (nI_eq (by omega) (by omega)).mp e
  have z0 : ∀ n : Nat, nI n + 0 = nI n := fun n => by show nI n + nI 0 = _; rw [nI_add]; rfl
  refine ko_BM_by (sg_BM_by_0 ?_)
  rw [rem6 (by omega)]
  rcases (show w = 0 ∨ w = 1 ∨ w = 2 ∨ w = 3 by omega) with rfl | rfl | rfl | rfl
  · refine ⟨fun _ => ⟨fun _ => ?_, fun q => absurd q (by decide)⟩, fun q => absurd q (by decide)⟩
    refine sg_BM_by_23 ?_
    rintro u rfl
    rw [div6 (by omega), z0]
    refine ⟨fun _ => ⟨fun q => absurd rfl q, fun _ => by47 hd (fun x y hx' hy' ex ey => ?_) (fun ho => ?_)⟩, fun q => absurd q (by decide)⟩
    · by_cases e0 : c / 6 = 0
      · rw [e0] at ey
        exact absurd ey (m1_ne (by omega))
      · obtain ⟨k, hk⟩ : ∃ k, c / 6 = k + 1 := ⟨c / 6 - 1, by omega⟩
        rw [hk, pk_m1] at ey
        have e1 := inj (by omega) (by omega) ex
        have e2 := inj (by omega) (by omega) ey
        simp only [nxt, if_true, if_neg e0, oI] at h
        rw [show 6 * y + x = c - 6 by omega]
        exact h
    · by_cases e0 : c / 6 = 0
      · simp only [nxt, if_true, if_pos e0, oI] at h
        exact h
      · obtain ⟨k, hk⟩ : ∃ k, c / 6 = k + 1 := ⟨c / 6 - 1, by omega⟩
        exact (ho _ k hx (by omega) rfl (by rw [hk, pk_m1])).elim
  · refine ⟨fun q => absurd rfl q, fun _ => ?_⟩
    refine sg_BM_by_23 ?_
    rintro u rfl
    rw [div6 (by omega), nI_1]
    refine ⟨fun _ => ⟨fun _ => by47 hd (fun x y hx' hy' ex ey => ?_) (fun ho => ?_), fun q => absurd q (by decide)⟩, fun q => absurd q (by decide)⟩
    · rw [z0] at ey
      have e1 := inj (by omega) (by omega) ex
      have e2 := inj (by omega) (by omega) ey
      simp only [nxt, if_neg (show ¬ (1 = 0) by decide), if_true, if_pos (show c % 6 + 1 < C by omega), oI] at h
      rw [show 6 * y + x = c + 1 by omega]
      exact h
    · by_cases e0 : c % 6 + 1 < C
      · exact (ho _ _ e0 hy rfl (z0 _)).elim
      · simp only [nxt, if_neg (show ¬ (1 = 0) by decide), if_true, if_neg e0, oI] at h
        exact h
  · refine ⟨fun _ => ⟨fun _ => ?_, fun q => absurd q (by decide)⟩, fun q => absurd q (by decide)⟩
    refine sg_BM_by_23 ?_
    rintro u rfl
    rw [div6 (by omega), z0]
    refine ⟨fun q => absurd rfl q, fun _ => by47 hd (fun x y hx' hy' ex ey => ?_) (fun ho => ?_)⟩
    · rw [nI_1] at ey
      have e1 := inj (by omega) (by omega) ex
      have e2 := inj (by omega) (by omega) ey
      simp only [nxt, if_neg (show ¬ (2 = 0) by decide), if_neg (show ¬ (2 = 1) by decide), if_true, if_pos (show c / 6 + 1 < R by omega), oI] at h
      rw [show 6 * y + x = c + 6 by omega]
      exact h
    · by_cases e0 : c / 6 + 1 < R
      · exact (ho _ _ hx e0 rfl (nI_1 _)).elim
      · simp only [nxt, if_neg (show ¬ (2 = 0) by decide), if_neg (show ¬ (2 = 1) by decide), if_true, if_neg e0, oI] at h
        exact h
  · refine ⟨fun _ => ⟨fun q => absurd rfl q, fun _ => ?_⟩, fun q => absurd q (by decide)⟩
    refine sg_BM_by_23 ?_
    rintro u rfl
    rw [div6 (by omega)]
    refine ⟨fun _ => ⟨fun _ => by47 hd (fun x y hx' hy' ex ey => ?_) (fun ho => ?_), fun q => absurd q (by decide)⟩, fun q => absurd q (by decide)⟩
    · rw [z0] at ey
      have e2 := inj (by omega) (by omega) ey
      by_cases e0 : c % 6 = 0
      · rw [e0] at ex
        exact absurd ex (m1_ne (by omega))
      · obtain ⟨k, hk⟩ : ∃ k, c % 6 = k + 1 := ⟨c % 6 - 1, by omega⟩
        rw [hk, pk_m1] at ex
        have e1 := inj (by omega) (by omega) ex
        simp only [nxt, if_neg (show ¬ (3 = 0) by decide), if_neg (show ¬ (3 = 1) by decide), if_neg (show ¬ (3 = 2) by decide), if_neg e0, oI] at h
        rw [show 6 * y + x = c - 1 by omega]
        exact h
    · by_cases e0 : c % 6 = 0
      · simp only [nxt, if_neg (show ¬ (3 = 0) by decide), if_neg (show ¬ (3 = 1) by decide), if_neg (show ¬ (3 = 2) by decide), if_pos e0, oI] at h
        exact h
      · obtain ⟨k, hk⟩ : ∃ k, c % 6 = k + 1 := ⟨c % 6 - 1, by omega⟩
        exact (ho k _ (by omega) hy (by rw [hk, pk_m1]) (z0 _)).elim
end
