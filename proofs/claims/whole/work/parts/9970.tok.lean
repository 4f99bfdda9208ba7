-- the signs of a rule's text
def wIx : List Nat := [1, 5, 6, 7, 8, 9, 10, 11, 13, 14, 15, 4, 12]
def wI (i : Nat) : Nat := wIx.getD i 0
theorem wI_16 : ∀ i, i < 13 → wI i < 16 := by decide
noncomputable def wdS (L : Nat) (T : Nat → Nat) (p : Nat) : Nat → Nat → Option Nat
  | 0, _ => none
  | f + 1, i => if wdB L T p (wI i) = true then some i else wdS L T p f (i + 1)
theorem wdS_some {L p k : Nat} {T : Nat → Nat} : ∀ {f i : Nat}, wdS L T p f i = some k → wdIs L T p (wI k) ∧ i ≤ k ∧ k < i + f
  | 0, _, h => by unfold wdS at h; cases h
  | f + 1, i, h => by
    unfold wdS at h
    split at h
    · rename_i q; cases h; exact ⟨wdB_iff.mp q, Nat.le_refl _, by omega⟩
    · have := wdS_some (f := f) h
      exact ⟨this.1, by omega, by omega⟩
theorem wdS_none {L p k : Nat} {T : Nat → Nat} : ∀ {f i : Nat}, wdS L T p f i = none → i ≤ k → k < i + f → ¬ wdIs L T p (wI k)
  | 0, _, _, h1, h2 => by omega
  | f + 1, i, h, h1, h2 => by
    unfold wdS at h
    split at h
    · cases h
    · rename_i q
      by_cases e : k = i
      · rw [e]; exact fun z => q (wdB_iff.mpr z)
      · exact wdS_none (f := f) h (by omega) (by omega)
theorem wI_dis : ∀ i, i < 13 → ∀ j, j < 13 → i ≠ j → slen.getD (wI i) 0 = slen.getD (wI j) 0 → ∃ k, k < slen.getD (wI i) 0 ∧ (sbyt.getD (wI i) []).getD k 0 &&& 255 ≠ (sbyt.getD (wI j) []).getD k 0 &&& 255 := by decide +kernel
theorem wdIs_un {L p i j : Nat} {T : Nat → Nat} (hi : i < 13) (hj : j < 13) (h1 : wdIs L T p (wI i)) (h2 : wdIs L T p (wI j)) : i = j := by
  by_cases e : i = j
  · exact e
  · exfalso
    have hl : slen.getD (wI i) 0 = slen.getD (wI j) 0 := by have a := h1.1; have b := h2.1; omega
    obtain ⟨k, hk, ne⟩ := wI_dis i hi j hj e hl
    exact ne ((h1.2 k hk).symm.trans (h2.2 k (by omega)))
def sgT (t : Nat) : Option Nat := if t = 43 then some 0 else if t = 45 then some 1 else if t = 42 then some 2 else if t = 47 then some 3 else if t = 37 then some 4 else if t = 60 then some 5 else if t = 61 then some 6 else if t = 62 then some 7 else if t = 59 then some 8 else if t = 91 then some 9 else if t = 93 then some 10 else none
theorem sgT_ix : ∀ t, t < 256 → ixF (nI t).toInt8.toInt32 (sbyt.getD 3 []) 0 = oI (sgT t) := by decide +kernel
theorem sgT_lt : ∀ t, t < 256 → ∀ k, sgT t = some k → k < 11 := by
  intro t _ k h
  unfold sgT at h
  repeat (split at h; · cases h; decide)
  cases h
noncomputable def tk (L : Nat) (T : Nat → Nat) (p : Nat) : Int32 × Nat :=
  if L ≤ p then (-29, p)
  else if fD L T p = true then ((if 5 < dgE L T p - p then -27 else nI (vlF T p (dgE L T p - p))), dgE L T p)
  else if fW L T p = true then ((match wdS L T p 13 0 with
    | some i => -1 - nI i
    | none => -28), wdE L T p)
  else match sgT (T p) with
    | none => (-28, p + 1)
    | some k => if (T p = 60 ∨ T p = 62) ∧ p + 1 < L ∧ T (p + 1) = 61 then ((if T p = 60 then -25 else -26), p + 2) else (-14 - nI k, p + 1)
theorem tI_sub {a b : Nat} (ha : a < 100) (hb : b < 100) : (0 - nI a - nI b).toInt = - (a : Int) - b := by
  have e : (0 : Int32) - nI a - nI b = - nI (a + b) := by
    rw [Int32.zero_sub, ← nI_add, Int32.neg_add]
  rw [e, Int32.toInt_neg, nI_toInt (by omega)]
  unfold Int.bmod
  simp only [Int.reducePow, Nat.reducePow]
  omega
theorem tk_end {L p : Nat} {T : Nat → Nat} (h : L ≤ p) : tk L T p = (-29, p) := by unfold tk; rw [if_pos h]
theorem tk_dig {L p : Nat} {T : Nat → Nat} (h : fD L T p = true) : tk L T p = ((if 5 < dgE L T p - p then -27 else nI (vlF T p (dgE L T p - p))), dgE L T p) := by
  have := (fD_iff.mp h).1
  unfold tk; rw [if_neg (by omega), if_pos h]
theorem tk_wrd {L p : Nat} {T : Nat → Nat} (h : fW L T p = true) : tk L T p = ((match wdS L T p 13 0 with
    | some i => -1 - nI i
    | none => -28), wdE L T p) := by
  have a := fW_iff.mp h
  unfold tk; rw [if_neg (by omega), if_neg (fun z => by have := fD_iff.mp z; omega), if_pos h]
theorem tk_sgn {L p : Nat} {T : Nat → Nat} (hp : p < L) (h1 : ¬ fD L T p = true) (h2 : ¬ fW L T p = true) : tk L T p = match sgT (T p) with
    | none => (-28, p + 1)
    | some k => if (T p = 60 ∨ T p = 62) ∧ p + 1 < L ∧ T (p + 1) = 61 then ((if T p = 60 then -25 else -26), p + 2) else (-14 - nI k, p + 1) := by
  unfold tk; rw [if_neg (by omega), if_neg h1, if_neg h2]
theorem sgT_non {t : Nat} (h : (48 ≤ t ∧ t ≤ 57) ∨ (97 ≤ t ∧ t ≤ 122)) : sgT t = none := by
  unfold sgT
  rw [if_neg (by omega), if_neg (by omega), if_neg (by omega), if_neg (by omega), if_neg (by omega), if_neg (by omega), if_neg (by omega), if_neg (by omega), if_neg (by omega), if_neg (by omega), if_neg (by omega)]
theorem tk_sig {L p k : Nat} {T : Nat → Nat} (hp : p < L) (h : sgT (T p) = some k) : tk L T p = if (T p = 60 ∨ T p = 62) ∧ p + 1 < L ∧ T (p + 1) = 61 then ((if T p = 60 then -25 else -26), p + 2) else (-14 - nI k, p + 1) := by
  rw [tk_sgn hp (fun z => by have := fD_iff.mp z; rw [sgT_non (Or.inl this.2)] at h; cases h) (fun z => by have := fW_iff.mp z; rw [sgT_non (Or.inr this.2)] at h; cases h), h]
theorem tk_next {L p : Nat} {T : Nat → Nat} (hp : p < L) : p < (tk L T p).2 ∧ (tk L T p).2 ≤ L := by
  unfold tk
  rw [if_neg (by omega)]
  split
  · rename_i h
    exact ⟨enE_gt hp h, enE_le (by omega)⟩
  · split
    · rename_i h
      exact ⟨enE_gt hp h, enE_le (by omega)⟩
    · split
      · dsimp only; omega
      · split
        · dsimp only; omega
        · dsimp only; omega
theorem n1s {i : Nat} (h : i < 100) : (-1 - nI i).toInt = -1 - (i : Int) := by
  have := tI_sub (a := 1) (b := i) (by decide) h
  exact this
theorem n14s {i : Nat} (h : i < 80) : (-14 - nI i).toInt = -14 - (i : Int) := by
  have := tI_sub (a := 14) (b := i) (by decide) (by omega)
  exact this
/-- what a sign can be -/
theorem tk_cases {L p : Nat} {T : Nat → Nat} (hT : ∀ k, k < L → T k < 256) :
    (L ≤ p ∧ (tk L T p).1.toInt = -29) ∨ (fD L T p = true ∧ 5 < dgE L T p - p ∧ (tk L T p).1.toInt = -27) ∨ (fD L T p = true ∧ dgE L T p - p ≤ 5 ∧ (tk L T p).1 = nI (vlF T p (dgE L T p - p)) ∧ vlF T p (dgE L T p - p) < 100000) ∨ (fW L T p = true ∧ ∃ i, i < 13 ∧ wdIs L T p (wI i) ∧ (tk L T p).1.toInt = -1 - (i : Int)) ∨ (fW L T p = true ∧ (∀ i, i < 13 → ¬ wdIs L T p (wI i)) ∧ (tk L T p).1.toInt = -28) ∨ (p < L ∧ ¬ fD L T p = true ∧ ¬ fW L T p = true ∧ sgT (T p) = none ∧ (tk L T p).1.toInt = -28) ∨ (p < L ∧ ¬ fD L T p = true ∧ ¬ fW L T p = true ∧ ∃ k, k < 11 ∧ sgT (T p) = some k ∧ (((T p = 60 ∨ T p = 62) ∧ (p + 1 < L ∧ T (p + 1) = 61) ∧ (tk L T p).1.toInt = (if T p = 60 then -25 else -26) ∧ (tk L T p).2 = p + 2) ∨ (¬ ((T p = 60 ∨ T p = 62) ∧ p + 1 < L ∧ T (p + 1) = 61) ∧ (tk L T p).1.toInt = -14 - (k : Int) ∧ (tk L T p).2 = p + 1))) := by
  by_cases h0 : L ≤ p
  · left; rw [tk_end h0]; exact ⟨h0, by show (-29 : Int32).toInt = -29; decide⟩
  right
  by_cases h1 : fD L T p = true
  · by_cases h2 : 5 < dgE L T p - p
    · left; rw [tk_dig h1]; exact ⟨h1, h2, by rw [if_pos h2]; show (-27 : Int32).toInt = -27; decide⟩
    · right; left; rw [tk_dig h1]
      have le : dgE L T p ≤ L := enE_le (by omega)
      have hd : ∀ j, j < dgE L T p - p → T (p + j) ≤ 57 := fun j hj => (dg_in (L := L) (T := T) (p := p) (k := p + j) (by omega) (by omega)).2.2
      have lt := vlF_lt hd
      exact ⟨h1, by omega, by rw [if_neg h2], Nat.lt_of_lt_of_le lt (Nat.pow_le_pow_right (n := 10) (by decide) (show dgE L T p - p ≤ 5 by omega))⟩
  right; right
  by_cases h2 : fW L T p = true
  · cases hw : wdS L T p 13 0 with
    | some i =>
      left
      obtain ⟨a, b, c⟩ := wdS_some hw
      refine ⟨h2, i, by omega, a, ?_⟩
      rw [tk_wrd h2, hw]
      exact n1s (by omega)
    | none =>
      right; left
      refine ⟨h2, fun i hi => wdS_none hw (Nat.zero_le _) (by omega), ?_⟩
      rw [tk_wrd h2, hw]
      show (-28 : Int32).toInt = -28
      decide
  right; right
  cases hs : sgT (T p) with
  | none =>
    left
    refine ⟨by omega, h1, h2, rfl, ?_⟩
    rw [tk_sgn (by omega) h1 h2, hs]
    show (-28 : Int32).toInt = -28
    decide
  | some k =>
    right
    have hk := sgT_lt _ (hT p (by omega)) k hs
    refine ⟨by omega, h1, h2, k, hk, rfl, ?_⟩
    rw [tk_sig (by omega) hs]
    by_cases hc : (T p = 60 ∨ T p = 62) ∧ p + 1 < L ∧ T (p + 1) = 61
    · left
      rw [if_pos hc]
      refine ⟨hc.1, hc.2, ?_, rfl⟩
      dsimp only
      split <;> decide
    · right
      rw [if_neg hc]
      exact ⟨hc, n14s (by omega), rfl⟩
