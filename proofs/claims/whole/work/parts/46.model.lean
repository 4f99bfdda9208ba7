-- the reference's small functions
theorem in_iff {x : Int32} {C : Nat} (hC : C < 2 ^ 30) : ((0 : Int64) ≤ x.toInt64 ∧ x.toInt64 ≤ (nI C - 1).toInt64) ↔ ∃ n, n < C ∧ x = nI n := by
  have e1 : x.toInt64.toInt = x.toInt := Int32.toInt_toInt64 x
  have e2 : (nI C - 1).toInt64.toInt = (C : Int) - 1 := by
    rw [Int32.toInt_toInt64]
    exact pk_sub_toInt (b := 1) hC (by decide)
  have e3 : (0 : Int64).toInt = 0 := by decide
  rw [Int64.le_iff_toInt_le, Int64.le_iff_toInt_le, e1, e2, e3]
  constructor
  · rintro ⟨h1, h2⟩
    have hx : ¬ x < 0 := fun q => by
      have := Int32.lt_iff_toInt_lt.mp q
      have e0 : (0 : Int32).toInt = 0 := by decide
      omega
    obtain ⟨j, hj, rfl⟩ := nI_of hx
    rw [nI_toInt hj] at h2
    exact ⟨j, by omega, rfl⟩
  · rintro ⟨n, hn, rfl⟩
    rw [nI_toInt (by omega)]
    omega
/-- columns, rows and balls of the reference -/
def Dim (σ : St) (C R B : Nat) : Prop := ai σ 152 0 = nI C ∧ ai σ 152 1 = nI R ∧ ai σ 152 2 = nI B ∧ C ≤ 6 ∧ R ≤ 6 ∧ B ≤ 3
section
variable {g : Gx} {σ : St} {C R B : Nat}
theorem k_BM_isCell {Q : Int32 → St → Prop} {u v : Int32} (hd : Dim σ C R B) (hin : ∀ x y, x < C → y < R → u = nI x → v = nI y → Q 1 σ) (hout : (∀ x y, x < C → y < R → u = nI x → v = nI y → False) → Q 0 σ) : K_BM_isCell g u v σ Q := by
  obtain ⟨d0, d1, d2, hC, hR, hB⟩ := hd
  refine ko_BM_isCell (sg_BM_isCell_0 ⟨vin8 (n := 0) rfl (by decide), ?_⟩)
  rw [cl0, d0]
  refine k_BM_in ⟨fun c => hout ?_, fun c => ⟨vin8 (n := 1) rfl (by decide), ?_⟩⟩
  · rintro x y hx hy rfl rfl
    rw [if_pos ((in_iff (by omega)).mpr ⟨x, hx, rfl⟩)] at c
    exact absurd c (by decide)
  · have c1 : ∃ n, n < C ∧ u = nI n := by
      by_cases q : (0 : Int64) ≤ u.toInt64 ∧ u.toInt64 ≤ (nI C - 1).toInt64
      · exact (in_iff (by omega)).mp q
      · rw [if_neg q] at c; exact absurd rfl c
    obtain ⟨x, hx, rfl⟩ := c1
    rw [cl1, d1]
    refine k_BM_in ⟨fun c => hout ?_, fun c => ?_⟩
    · rintro x' y hx' hy - rfl
      rw [if_pos ((in_iff (by omega)).mpr ⟨y, hy, rfl⟩)] at c
      exact absurd c (by decide)
    · have c2 : ∃ n, n < R ∧ v = nI n := by
        by_cases q : (0 : Int64) ≤ v.toInt64 ∧ v.toInt64 ≤ (nI R - 1).toInt64
        · exact (in_iff (by omega)).mp q
        · rw [if_neg q] at c; exact absurd rfl c
      obtain ⟨y, hy, rfl⟩ := c2
      exact hin x y hx hy rfl rfl
theorem rem6 {c : Nat} (hc : c < 2 ^ 31) : nI c - nI c / 6 * 6 = nI (c % 6) := pk_rem (d := 6) hc (by decide) (by decide)
theorem div6 {c : Nat} (hc : c < 2 ^ 31) : nI c / 6 = nI (c / 6) := pk_div (d := 6) hc (by decide) (by decide)
theorem k_BM_isThere {Q : Int32 → St → Prop} {c : Nat} (hd : Dim σ C R B) (hc : c < 64) (h : Q (if c % 6 < C ∧ c / 6 < R then 1 else 0) σ) : K_BM_isThere g (nI c) σ Q := by
  refine ko_BM_isThere (sg_BM_isThere_0 ?_)
  rw [rem6 (by omega), div6 (by omega)]
  refine k_BM_isCell hd (fun x y hx hy ex ey => ?_) (fun ho => ?_)
  · have e1 := (nI_eq (by omega) (by have := hd.2.2.2.1; omega)).mp ex
    have e2 := (nI_eq (by omega) (by have := hd.2.2.2.2.1; omega)).mp ey
    rw [if_pos (by omega)] at h
    exact ⟨Or.inr rfl, h⟩
  · rw [if_neg (fun q => ho _ _ q.1 q.2 rfl rfl)] at h
    exact ⟨Or.inl rfl, h⟩
/-- the first ball of B at c -/
def whoM (P : Nat → Nat) (B c : Nat) : Int32 := if 0 < B ∧ P 0 = c then 0 else if 1 < B ∧ P 1 = c then 1 else if 2 < B ∧ P 2 = c then 2 else -1
theorem k_BM_whoAt {Q : Int32 → St → Prop} {P : Nat → Nat} {c : Nat} (hd : Dim σ C R B) (hP : ∀ b, b < B → ai σ 154 b = nI (P b) ∧ P b < 64) (hc : c < 64) (h : Q (whoM P B c) σ) : K_BM_whoAt g (nI c) σ Q := by
  obtain ⟨d0, d1, d2, hC, hR, hB⟩ := hd
  have ne : ∀ b, b < B → (ai σ 154 b = nI c ↔ P b = c) := fun b hb => by rw [(hP b hb).1]; exact nI_eq (by have := (hP b hb).2; omega) (by omega)
  have step : ∀ b, b ≤ 3 → (b < B → P b = c → Q (nI b) σ) → (b < B → P b ≠ c → S_BM_whoAt_2 g Q σ (nI c) (nI (b + 1))) → (B ≤ b → Q (-1) σ) → S_BM_whoAt_2 g Q σ (nI c) (nI b) := by
    intro b hb h1 h2 h3
    refine sg_BM_whoAt_2 ⟨vin8 (n := 2) rfl (by decide), ?_⟩
    rw [cl2, d2]
    refine ⟨fun q => h3 ((nI_leI (by omega) (by omega)).mp q), fun q => ?_⟩
    have hbB : b < B := Nat.not_le.mp (fun z => q (nI_le z (by omega)))
    refine ⟨vp_in_nI (by omega) (by decide), ?_⟩
    rw [nI_clamp (by omega)]
    refine ⟨fun z => ?_, fun z => h1 hbB ((ne b hbB).mp z)⟩
    rintro u rfl
    rw [nI_1]
    exact h2 hbB (fun e => z ((ne b hbB).mpr e))
  refine ko_BM_whoAt (sg_BM_whoAt_0 ?_)
  refine step 0 (by omega) (fun q e => ?_) (fun q0 e0 => step 1 (by omega) (fun q e => ?_) (fun q1 e1 => step 2 (by omega) (fun q e => ?_) (fun q2 e2 => step 3 (by omega) (fun q => absurd q (by omega)) (fun q => absurd q (by omega)) (fun _ => ?_)) (fun q => ?_)) (fun q => ?_)) (fun q => ?_)
  · rw [whoM, if_pos ⟨q, e⟩] at h; exact h
  · rw [whoM, if_neg (fun z => e0 z.2), if_pos ⟨q, e⟩] at h; exact h
  · rw [whoM, if_neg (fun z => e0 z.2), if_neg (fun z => e1 z.2), if_pos ⟨q, e⟩] at h; exact h
  · rw [whoM, if_neg (fun z => e0 z.2), if_neg (fun z => e1 z.2), if_neg (fun z => e2 z.2)] at h; exact h
  · rw [whoM, if_neg (fun z => e0 z.2), if_neg (fun z => e1 z.2), if_neg (by omega)] at h; exact h
  · rw [whoM, if_neg (fun z => e0 z.2), if_neg (by omega), if_neg (by omega)] at h; exact h
  · rw [whoM, if_neg (by omega), if_neg (by omega), if_neg (by omega)] at h; exact h
theorem k_BM_isFree {Q : Int32 → St → Prop} {P : Nat → Nat} {c : Nat} (hd : Dim σ C R B) (hP : ∀ b, b < B → ai σ 154 b = nI (P b) ∧ P b < 64) (hc : c < 36) (h : Q (if (c % 6 < C ∧ c / 6 < R) ∧ ai σ 153 c = 0 ∧ whoM P B c = -1 then 1 else 0) σ) : K_BM_isFree g (nI c) σ Q := by
  refine ko_BM_isFree (sg_BM_isFree_0 (k_BM_isThere hd (by omega) ⟨fun q => ?_, fun q => ⟨vp_in_nI hc (by decide), ?_⟩⟩))
  · by_cases z : c % 6 < C ∧ c / 6 < R
    · rw [if_pos z] at q; exact absurd q (by decide)
    · rw [if_neg (fun w => z w.1)] at h; exact h
  · have z : c % 6 < C ∧ c / 6 < R := by
      by_cases z : c % 6 < C ∧ c / 6 < R
      · exact z
      · rw [if_neg z] at q; exact absurd rfl q
    rw [nI_clamp (by omega)]
    refine ⟨fun w => ?_, fun w => k_BM_whoAt hd hP (by omega) ⟨fun y => ?_, fun y => ?_⟩⟩
    · rw [if_neg (fun v => w v.2.1)] at h; exact h
    · rw [if_neg (fun v => y v.2.2)] at h; exact h
    · rw [if_pos ⟨z, w, y⟩] at h; exact h
end
