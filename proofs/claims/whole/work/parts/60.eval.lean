-- a rule's code, worked out
def opJ (s : Int32) (a b : Int64) : Int64 :=
  if s = -14 then a + b else if s = -15 then a - b else if s = -16 then a * b else if s = -17 then (if b = 0 then 0 else a / b) else if s = -18 then (if b = 0 then 0 else a - a / b * b)
  else if s = -19 then (if b ≤ a then 0 else 1) else if s = -25 then (if b < a then 0 else 1) else if s = -20 then (if a = b then 1 else 0) else if s = -26 then (if a < b then 0 else 1) else if s = -21 then (if a ≤ b then 0 else 1)
  else if s = -10 then a &&& b else if s = -11 then a ||| b else 0
def stp (W : Nat → Int64) (x : Int32) (st : List Int64) : List Int64 :=
  if x < -8 then (if x = -9 then (match st with
    | a :: r => (1 - a) :: r
    | [] => []) else (match st with
    | b :: a :: r => opJ x a b :: r
    | l => l)) else (if x < 0 then W (-1 - x).toNatClampNeg else x.toInt64) :: st
def runF (W : Nat → Int64) (L : Nat → Int32) : Nat → Nat → List Int64 → List Int64
  | 0, _, st => st
  | n + 1, i, st => runF W L n (i + 1) (stp W (L i) st)
def evalF (W : Nat → Int64) (L : Nat → Int32) (a b : Nat) : Int64 := (runF W L (b - a) a []).headD 0
/-- of what kind a sign makes what stands: true is 0 or 1 -/
def tyS (x : Int32) (ts : List Bool) : Option (List Bool) :=
  if x < -8 then (if x = -9 then (match ts with
    | true :: r => some (true :: r)
    | _ => none) else if x = -10 ∨ x = -11 then (match ts with
    | true :: true :: r => some (true :: r)
    | _ => none) else if x = -14 ∨ x = -15 ∨ x = -16 ∨ x = -17 ∨ x = -18 then (match ts with
    | false :: false :: r => some (false :: r)
    | _ => none) else if x = -19 ∨ x = -20 ∨ x = -21 ∨ x = -25 ∨ x = -26 then (match ts with
    | false :: false :: r => some (true :: r)
    | _ => none) else none) else if ts.length < 60 then some (false :: ts) else none
def tyR (L : Nat → Int32) : Nat → Nat → List Bool → Option (List Bool)
  | 0, _, ts => some ts
  | n + 1, i, ts => match tyS (L i) ts with
    | some ts' => tyR L n (i + 1) ts'
    | none => none
def tyOK : List Int64 → List Bool → Prop
  | [], [] => True
  | a :: st, b :: ts => (b = true → a = 0 ∨ a = 1) ∧ tyOK st ts
  | _, _ => False
theorem tyOK_len : ∀ {st : List Int64} {ts : List Bool}, tyOK st ts → st.length = ts.length
  | [], [], _ => rfl
  | _ :: _, _ :: _, h => by simp only [List.length_cons]; rw [tyOK_len h.2]
  | [], _ :: _, h => h.elim
  | _ :: _, [], h => h.elim
def hoS (f : Nat → Int64) : List Int64 → Prop
  | [] => True
  | a :: r => f r.length = a ∧ hoS f r
theorem hoS_up {f : Nat → Int64} {i : Nat} {v : Int64} {h : Nat → Int64} (hh : ∀ j, j < i → h j = f j) : ∀ {st : List Int64}, st.length ≤ i → hoS f st → hoS h st
  | [], _, _ => trivial
  | a :: r, hl, hs => by
    simp only [List.length_cons] at hl
    exact ⟨(hh _ (by omega)).trans hs.1, hoS_up (v := v) hh (by omega) hs.2⟩
/-- every sign that stands in a code that has its kinds -/
theorem tyS_cases {x : Int32} {ts ts' : List Bool} (h : tyS x ts = some ts') : (¬ x < -8 ∧ ts.length < 60 ∧ ts' = false :: ts) ∨ (x < -8 ∧ x = -9 ∧ ∃ r, ts = true :: r ∧ ts' = true :: r) ∨ (x < -8 ∧ x ≠ -9 ∧ ∃ a r, ts = a :: a :: r ∧ ((a = true ∧ (x = -10 ∨ x = -11) ∧ ts' = true :: r) ∨ (a = false ∧ (x = -14 ∨ x = -15 ∨ x = -16 ∨ x = -17 ∨ x = -18) ∧ ts' = false :: r) ∨ (a = false ∧ (x = -19 ∨ x = -20 ∨ x = -21 ∨ x = -25 ∨ x = -26) ∧ ts' = true :: r))) := by
  unfold tyS at h
  by_cases h0 : x < -8
  · rw [if_pos h0] at h
    right
    by_cases h9 : x = -9
    · rw [if_pos h9] at h
      left
      match ts, h with
      | true :: r, h => cases h; exact ⟨h0, h9, r, rfl, rfl⟩
      | false :: r, h => cases h
      | [], h => cases h
    · rw [if_neg h9] at h
      right
      refine ⟨h0, h9, ?_⟩
      by_cases ha : x = -10 ∨ x = -11
      · rw [if_pos ha] at h
        match ts, h with
        | true :: true :: r, h => cases h; exact ⟨true, r, rfl, Or.inl ⟨rfl, ha, rfl⟩⟩
        | true :: false :: r, h => cases h
        | [true], h => cases h
        | false :: r, h => cases h
        | [], h => cases h
      · rw [if_neg ha] at h
        by_cases hb : x = -14 ∨ x = -15 ∨ x = -16 ∨ x = -17 ∨ x = -18
        · rw [if_pos hb] at h
          match ts, h with
          | false :: false :: r, h => cases h; exact ⟨false, r, rfl, Or.inr (Or.inl ⟨rfl, hb, rfl⟩)⟩
          | false :: true :: r, h => cases h
          | [false], h => cases h
          | true :: r, h => cases h
          | [], h => cases h
        · rw [if_neg hb] at h
          by_cases hc : x = -19 ∨ x = -20 ∨ x = -21 ∨ x = -25 ∨ x = -26
          · rw [if_pos hc] at h
            match ts, h with
            | false :: false :: r, h => cases h; exact ⟨false, r, rfl, Or.inr (Or.inr ⟨rfl, hc, rfl⟩)⟩
            | false :: true :: r, h => cases h
            | [false], h => cases h
            | true :: r, h => cases h
            | [], h => cases h
          · rw [if_neg hc] at h; cases h
  · rw [if_neg h0] at h
    left
    split at h
    · rename_i q; cases h; exact ⟨h0, q, rfl⟩
    · cases h
theorem stp_ty {W : Nat → Int64} {x : Int32} {st : List Int64} {ts ts' : List Bool} (h : tyS x ts = some ts') (ho : tyOK st ts) : tyOK (stp W x st) ts' := by
  rcases tyS_cases h with ⟨h0, h1, rfl⟩ | ⟨h0, rfl, r, rfl, rfl⟩ | ⟨h0, h9, a, r, rfl, hh⟩
  · unfold stp
    rw [if_neg h0]
    exact ⟨fun q => absurd q (by decide), ho⟩
  · unfold stp
    rw [if_pos (by decide), if_pos rfl]
    match st, ho with
    | a :: st, ho =>
      refine ⟨fun _ => ?_, ho.2⟩
      rcases ho.1 rfl with rfl | rfl
      · exact Or.inr (by decide)
      · exact Or.inl (by decide)
    | [], ho => exact ho.elim
  · unfold stp
    rw [if_pos h0, if_neg h9]
    match st, ho with
    | b :: a' :: st, ho =>
      dsimp only
      rcases hh with ⟨rfl, hx, rfl⟩ | ⟨rfl, hx, rfl⟩ | ⟨rfl, hx, rfl⟩
      · refine ⟨fun _ => ?_, ho.2.2⟩
        rcases ho.1 rfl with rfl | rfl <;> rcases ho.2.1 rfl with rfl | rfl <;> rcases hx with rfl | rfl <;> decide
      · exact ⟨fun q => absurd q (by decide), ho.2.2⟩
      · refine ⟨fun _ => ?_, ho.2.2⟩
        rcases hx with rfl | rfl | rfl | rfl | rfl
        · show (if _ then (0 : Int64) else 1) = 0 ∨ (if _ then (0 : Int64) else 1) = 1
          split <;> simp
        · show (if _ then (1 : Int64) else 0) = 0 ∨ (if _ then (1 : Int64) else 0) = 1
          split <;> simp
        · show (if _ then (0 : Int64) else 1) = 0 ∨ (if _ then (0 : Int64) else 1) = 1
          split <;> simp
        · show (if _ then (0 : Int64) else 1) = 0 ∨ (if _ then (0 : Int64) else 1) = 1
          split <;> simp
        · show (if _ then (0 : Int64) else 1) = 0 ∨ (if _ then (0 : Int64) else 1) = 1
          split <;> simp
    | [_], ho => exact ho.2.elim
    | [], ho => exact ho.elim
theorem ty_len60 {x : Int32} {ts ts' : List Bool} (h : tyS x ts = some ts') (hl : ts.length ≤ 60) : ts'.length ≤ 60 := by
  rcases tyS_cases h with ⟨h0, h1, rfl⟩ | ⟨h0, rfl, r, rfl, rfl⟩ | ⟨h0, h9, a, r, rfl, hh⟩
  · simp only [List.length_cons]; omega
  · exact hl
  · simp only [List.length_cons] at hl
    rcases hh with ⟨-, -, rfl⟩ | ⟨-, -, rfl⟩ | ⟨-, -, rfl⟩ <;> simp only [List.length_cons] <;> omega
theorem run_ty {W : Nat → Int64} {L : Nat → Int32} : ∀ {n i : Nat} {st : List Int64} {ts ts' : List Bool}, tyR L n i ts = some ts' → tyOK st ts → tyOK (runF W L n i st) ts'
  | 0, _, _, _, _, h, ho => by cases h; exact ho
  | n + 1, i, st, ts, ts', h, ho => by
    unfold tyR at h
    cases hs : tyS (L i) ts with
    | none => rw [hs] at h; cases h
    | some t2 =>
      rw [hs] at h
      exact run_ty (n := n) h (stp_ty hs ho)
theorem eval_ty {W : Nat → Int64} {L : Nat → Int32} {a b : Nat} {q : Bool} (h : tyR L (b - a) a [] = some [q]) : runF W L (b - a) a [] = [evalF W L a b] ∧ (q = true → evalF W L a b = 0 ∨ evalF W L a b = 1) := by
  have ho := run_ty (W := W) (st := []) h trivial
  unfold evalF
  match hr : runF W L (b - a) a [], ho with
  | [v], ho => exact ⟨rfl, ho.1⟩
  | [], ho => exact ho.elim
  | _ :: _ :: _, ho => exact ho.2.elim
theorem stp_congr {W W' : Nat → Int64} {x : Int32} {st : List Int64} (h : x < 0 → ¬ x < -8 → W (-1 - x).toNatClampNeg = W' (-1 - x).toNatClampNeg) : stp W x st = stp W' x st := by
  unfold stp
  by_cases h0 : x < -8
  · rw [if_pos h0, if_pos h0]
  · rw [if_neg h0, if_neg h0]
    by_cases h1 : x < 0
    · rw [if_pos h1, if_pos h1, h h1 h0]
    · rw [if_neg h1, if_neg h1]
theorem run_congr {W W' : Nat → Int64} {L : Nat → Int32} {m : Nat} (h : ∀ i, i < m → L i < 0 → ¬ L i < -8 → W (-1 - L i).toNatClampNeg = W' (-1 - L i).toNatClampNeg) : ∀ (n i : Nat) (st : List Int64), i + n ≤ m → runF W L n i st = runF W' L n i st
  | 0, _, _, _ => rfl
  | n + 1, i, st, hi => by
    unfold runF
    rw [stp_congr (h i (by omega))]
    exact run_congr h n (i + 1) _ (by omega)
def keyG (W : Nat → Int64) (L : Nat → Int32) (sE tE : Nat → Nat) : Nat → Nat → Nat → Int64
  | 0, _, _ => 0
  | m + 1, i, a => if sE i = tE i ∨ evalF W L (sE i) (tE i) ≠ 0 then evalF W L a (sE i) else keyG W L sE tE m (i + 1) (tE i)
abbrev RuleT : Type := (Nat → Int32) × Nat × Nat × (Nat → Nat) × (Nat → Nat)
def rBeg (tE : Nat → Nat) (i : Nat) : Nat := if i = 0 then 0 else tE (i - 1)
/-- the code of a rule that was read: L its signs, len how many, n clauses, where each sum and each test ends -/
def RuleWF (r : RuleT) : Prop := r.2.1 ≤ 300 ∧ r.2.2.1 ≤ 12 ∧ ∀ i, i < r.2.2.1 → rBeg r.2.2.2.2 i ≤ r.2.2.2.1 i ∧ r.2.2.2.1 i ≤ r.2.2.2.2 i ∧ r.2.2.2.2 i ≤ r.2.1 ∧ tyR r.1 (r.2.2.2.1 i - rBeg r.2.2.2.2 i) (rBeg r.2.2.2.2 i) [] = some [false] ∧ (r.2.2.2.1 i = r.2.2.2.2 i ∨ tyR r.1 (r.2.2.2.2 i - r.2.2.2.1 i) (r.2.2.2.1 i) [] = some [true])
def keyR (r : RuleT) (W : Nat → Int64) : Int64 := keyG W r.1 r.2.2.2.1 r.2.2.2.2 r.2.2.1 0 0
theorem keyR_congr {r : RuleT} {W W' : Nat → Int64} (hr : RuleWF r) (h : ∀ i, i < r.2.1 → r.1 i < 0 → ¬ r.1 i < -8 → W (-1 - r.1 i).toNatClampNeg = W' (-1 - r.1 i).toNatClampNeg) : keyR r W = keyR r W' := by
  have ev : ∀ a b, a ≤ b → b ≤ r.2.1 → evalF W r.1 a b = evalF W' r.1 a b := fun a b hab hb => by
    unfold evalF
    rw [run_congr h (b - a) a [] (by omega)]
  have go : ∀ m i, i + m = r.2.2.1 → keyG W r.1 r.2.2.2.1 r.2.2.2.2 m i (rBeg r.2.2.2.2 i) = keyG W' r.1 r.2.2.2.1 r.2.2.2.2 m i (rBeg r.2.2.2.2 i) := by
    intro m
    induction m with
    | zero => intro i _; rfl
    | succ m ih =>
      intro i hi
      obtain ⟨h1, h2, h3, -, -⟩ := hr.2.2 i (by omega)
      have := ih (i + 1) (by omega)
      unfold keyG
      rw [ev _ _ h2 h3, ev _ _ h1 (by omega)]
      have e : rBeg r.2.2.2.2 (i + 1) = r.2.2.2.2 i := by unfold rBeg; simp
      rw [e] at this
      rw [this]
  exact go r.2.2.1 0 (Nat.zero_add _)
