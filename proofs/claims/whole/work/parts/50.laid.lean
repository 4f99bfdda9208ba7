-- a situation with one ball laid anew
def lay (S b v : Nat) : Nat := 2 ^ (6 * b) * (2 ^ 6 * (S / 2 ^ (6 * b + 6)) + v) + S % 2 ^ (6 * b)
theorem lay_bits {S k v i : Nat} (hv : v < 64) : (2 ^ k * (2 ^ 6 * (S / 2 ^ (k + 6)) + v) + S % 2 ^ k).testBit i = if i < k then S.testBit i else if i - k < 6 then v.testBit (i - k) else S.testBit i := by
  rw [Nat.testBit_two_pow_mul_add _ (Nat.mod_lt _ (Nat.two_pow_pos k))]
  by_cases h : i < k
  · rw [if_pos h, if_pos h, Nat.testBit_mod_two_pow]
    simp [h]
  · rw [if_neg h, if_neg h, Nat.testBit_two_pow_mul_add _ (show v < 2 ^ 6 from hv)]
    by_cases h2 : i - k < 6
    · rw [if_pos h2, if_pos h2]
    · rw [if_neg h2, if_neg h2, Nat.testBit_div_two_pow]
      congr 1
      omega
theorem bt_nI {n i : Nat} (hi : i < 32) : bt (nI n) i = n.testBit i := by
  show (BitVec.ofNat 32 n).getLsbD i = _
  rw [BitVec.getLsbD_ofNat]
  simp [hi]
theorem bt_63 : ∀ i, i < 32 → bt 63 i = decide (i < 6) := by decide +kernel
theorem laid_eq {S b v : Nat} (hb : b < 3) (hv : v < 64) : (nI S &&& (((63 : Int32) <<< ((6 * nI b) &&& 31)) ^^^ (-1))) ||| (nI v <<< ((6 * nI b) &&& 31)) = nI (lay S b v) := by
  have e6 : (6 : Int32) * nI b = nI (6 * b) := by show nI 6 * nI b = _; rw [pk_mul]
  apply b_ext
  intro i hi
  rw [e6, b_or, b_and, b_xor, b_m1 i hi, b_shl _ (by omega) _ hi, b_shl _ (by omega) _ hi, bt_nI hi, bt_nI hi, lay, lay_bits hv]
  by_cases h : i < 6 * b
  · rw [if_pos h]
    simp [Nat.not_le.mpr h]
  · rw [if_neg h, bt_63 (i - 6 * b) (by omega), bt_nI (by omega)]
    have h' : 6 * b ≤ i := Nat.not_lt.mp h
    by_cases h2 : i - 6 * b < 6
    · rw [if_pos h2]
      simp [h', h2]
    · rw [if_neg h2]
      have : v.testBit (i - 6 * b) = false := Nat.testBit_lt_two_pow (Nat.lt_of_lt_of_le (show v < 2 ^ 6 from hv) (Nat.pow_le_pow_right (by decide) (by omega)))
      simp [h', h2, this]
theorem k_SA_laid {g : Gx} {σ : St} {Q : Int32 → St → Prop} {S b v : Nat} (hb : b < 3) (hv : v < 64) (h : Q (nI (lay S b v)) σ) : K_SA_laid g (nI S) (nI b) (nI v) σ Q := ko_SA_laid (sg_SA_laid_0 (by rw [laid_eq hb hv]; exact h))
theorem lay_sit {e0 e1 e2 b v : Nat} (h0 : e0 < 64) (h1 : e1 < 64) (h2 : e2 < 64) (hb : b < 3) (hv : v < 64) : lay (sit e0 e1 e2) b v = sit (if b = 0 then v else e0) (if b = 1 then v else e1) (if b = 2 then v else e2) := by
  unfold lay sit
  rcases (show b = 0 ∨ b = 1 ∨ b = 2 by omega) with rfl | rfl | rfl <;> simp <;> omega
