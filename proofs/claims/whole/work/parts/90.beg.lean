-- the beginnings, in their order
def tupF (L : List Nat) : Nat → List (List Nat)
  | 0 => [[]]
  | B + 1 => L.flatMap (fun a => (tupF L B).map (fun l => a :: l))
/-- the digits of k to the base n, B of them, the first the greatest -/
def digN (n : Nat) : Nat → Nat → List Nat
  | 0, _ => []
  | B + 1, k => k / n ^ B % n :: digN n B (k % n ^ B)
theorem range_mul (a b : Nat) : List.range (a * b) = (List.range a).flatMap (fun i => (List.range b).map (fun j => i * b + j)) := by
  induction a with
  | zero => simp
  | succ a ih => rw [Nat.succ_mul, List.range_add, ih, List.range_succ, List.flatMap_append]; simp
theorem num_tup (n : Nat) : ∀ B, (List.range (n ^ B)).map (digN n B) = tupF (List.range n) B
  | 0 => by simp [digN, tupF]
  | B + 1 => by
    have ih := num_tup n B
    rw [Nat.pow_succ, Nat.mul_comm, range_mul, List.map_flatMap]
    unfold tupF
    rw [← ih]
    have e : ∀ i, i ∈ List.range n → List.map (digN n (B + 1)) ((List.range (n ^ B)).map (fun j => i * n ^ B + j)) = List.map (fun l => i :: l) ((List.range (n ^ B)).map (digN n B)) := by
      intro i hi
      have hi : i < n := by simpa using hi
      rw [List.map_map, List.map_map]
      apply List.map_congr_left
      intro j hj
      have hj : j < n ^ B := by simpa using hj
      show digN n (B + 1) (i * n ^ B + j) = i :: digN n B j
      have hp : 0 < n ^ B := by omega
      have e1 : (i * n ^ B + j) / n ^ B = i := by rw [Nat.mul_comm, Nat.mul_add_div hp, Nat.div_eq_of_lt hj, Nat.add_zero]
      have e2 : (i * n ^ B + j) % n ^ B = j := by rw [Nat.mul_comm, Nat.mul_add_mod, Nat.mod_eq_of_lt hj]
      unfold digN
      rw [e1, e2, Nat.mod_eq_of_lt hi]
      cases B <;> rfl
    have fm : ∀ (L : List Nat) (f h : Nat → List (List Nat)), (∀ i, i ∈ L → f i = h i) → L.flatMap f = L.flatMap h := by
      intro L f h
      induction L with
      | nil => intro _; rfl
      | cons x L ihL =>
        intro hh
        simp only [List.flatMap_cons]
        rw [hh x List.mem_cons_self, ihL (fun i hi => hh i (List.mem_cons_of_mem _ hi))]
    exact fm _ _ _ e
theorem tup_map (f : Nat → Nat) (L : List Nat) : ∀ B, (tupF L B).map (fun l => l.map f) = tupF (L.map f) B
  | 0 => rfl
  | B + 1 => by
    have ih := tup_map f L B
    unfold tupF
    rw [← ih]
    simp only [List.map_flatMap, List.map_map, List.flatMap_map]
    rfl
theorem flat_filter (p : Nat → Bool) (T : List (List Nat)) : ∀ L : List Nat, (L.flatMap (fun a => T.map (fun l => a :: l))).filter (fun l => l.all p) = (L.filter p).flatMap (fun a => (T.filter (fun l => l.all p)).map (fun l => a :: l))
  | [] => rfl
  | a :: L => by
    have ih := flat_filter p T L
    rw [List.flatMap_cons, List.filter_append, ih, List.filter_map]
    cases h : p a with
    | true =>
      have e : ((fun l : List Nat => l.all p) ∘ fun l => a :: l) = fun l => l.all p := by
        funext l
        show (a :: l).all p = l.all p
        rw [List.all_cons, h, Bool.true_and]
      rw [e, List.filter_cons_of_pos h, List.flatMap_cons]
    | false =>
      have e : ((fun l : List Nat => l.all p) ∘ fun l => a :: l) = fun _ => false := by
        funext l
        show (a :: l).all p = false
        rw [List.all_cons, h, Bool.false_and]
      have h2 : ¬ p a = true := by rw [h]; decide
      rw [e, List.filter_cons_of_neg h2]
      simp
theorem tup_filter (p : Nat → Bool) (L : List Nat) : ∀ B, (tupF L B).filter (fun l => l.all p) = tupF (L.filter p) B
  | 0 => rfl
  | B + 1 => by
    have ih := tup_filter p L B
    unfold tupF
    rw [← ih]
    exact flat_filter p (tupF L B) L
def plL (l : List Nat) : Nat → Nat := fun b => l.getD b 36
abbrev plnC (c : Cfg) (x : Nat) : Bool := decide ((x % 6 < c.1 ∧ x / 6 < c.2.1) ∧ c.2.2.2.1 x = 0)
/-- the plain cells -/
def plnL (c : Cfg) : List Nat := (List.range 36).filter (plnC c)
def begL (c : Cfg) : List (Nat → Nat) := ((tupF (plnL c) c.2.2.1).filter (fun l => decide l.Nodup)).map plL
/-- by the reference's numbers -/
theorem beg_ref (c : Cfg) : (List.range (36 ^ c.2.2.1)).filterMap (fun k => if (digN 36 c.2.2.1 k).all (plnC c) ∧ (digN 36 c.2.2.1 k).Nodup then some (plL (digN 36 c.2.2.1 k)) else none) = begL c := by
  have e : (fun k => if (digN 36 c.2.2.1 k).all (plnC c) ∧ (digN 36 c.2.2.1 k).Nodup then some (plL (digN 36 c.2.2.1 k)) else none) = (fun l : List Nat => if l.all (plnC c) ∧ l.Nodup then some (plL l) else none) ∘ digN 36 c.2.2.1 := rfl
  rw [e, ← List.filterMap_map, num_tup]
  unfold begL plnL
  rw [← tup_filter]
  generalize tupF (List.range 36) c.2.2.1 = T
  induction T with
  | nil => rfl
  | cons l T ih =>
    rw [List.filterMap_cons]
    cases h1 : l.all (plnC c) with
    | true =>
      rw [List.filter_cons_of_pos (p := fun l : List Nat => l.all (plnC c)) h1]
      by_cases h2 : l.Nodup
      · rw [List.filter_cons_of_pos (by simpa using h2), List.map_cons, ← ih]
        simp [h2]
      · rw [List.filter_cons_of_neg (by simpa using h2), ← ih]
        simp [h2]
    | false =>
      rw [List.filter_cons_of_neg (p := fun l : List Nat => l.all (plnC c)) (by rw [h1]; decide), ← ih]
      simp
/-- by the class's numbers: f gives the plain cells -/
theorem beg_cls (c : Cfg) (n : Nat) (f : Nat → Nat) (hf : (List.range n).map f = plnL c) : (List.range (n ^ c.2.2.1)).filterMap (fun k => if ((digN n c.2.2.1 k).map f).Nodup then some (plL ((digN n c.2.2.1 k).map f)) else none) = begL c := by
  have e : (fun k => if ((digN n c.2.2.1 k).map f).Nodup then some (plL ((digN n c.2.2.1 k).map f)) else none) = (fun l : List Nat => if l.Nodup then some (plL l) else none) ∘ (fun l : List Nat => l.map f) ∘ digN n c.2.2.1 := rfl
  rw [e, ← List.filterMap_map, ← List.map_map, num_tup, tup_map, hf]
  unfold begL
  generalize tupF (plnL c) c.2.2.1 = T
  induction T with
  | nil => rfl
  | cons l T ih =>
    rw [List.filterMap_cons]
    by_cases h2 : l.Nodup
    · rw [List.filter_cons_of_pos (by simpa using h2), List.map_cons, ← ih]
      simp [h2]
    · rw [List.filter_cons_of_neg (by simpa using h2), ← ih]
      simp [h2]
theorem tup_mem {L : List Nat} : ∀ {B : Nat} {l : List Nat}, l ∈ tupF L B → l.length = B ∧ ∀ x, x ∈ l → x ∈ L
  | 0, l, h => by
    have : l = [] := by simpa [tupF] using h
    subst this
    exact ⟨rfl, fun x hx => by cases hx⟩
  | B + 1, l, h => by
    unfold tupF at h
    rw [List.mem_flatMap] at h
    obtain ⟨a, ha, h⟩ := h
    rw [List.mem_map] at h
    obtain ⟨l', hl', rfl⟩ := h
    obtain ⟨i1, i2⟩ := tup_mem hl'
    refine ⟨by simp [i1], fun x hx => ?_⟩
    rcases List.mem_cons.mp hx with rfl | hx
    · exact ha
    · exact i2 x hx
/-- a beginning is a situation -/
theorem begL_ok {c : Cfg} {P : Nat → Nat} (hB : c.2.2.1 ≤ 3) (h : P ∈ begL c) : okP c.1 c.2.1 c.2.2.1 c.2.2.2.1 P ∧ dsP P ∧ ∀ b, b < c.2.2.1 → P b < 36 := by
  unfold begL at h
  rw [List.mem_map] at h
  obtain ⟨l, hl, rfl⟩ := h
  rw [List.mem_filter] at hl
  obtain ⟨hl, hn⟩ := hl
  have hn : l.Nodup := by simpa using hn
  obtain ⟨h1, h2⟩ := tup_mem hl
  have val : ∀ b, (b < c.2.2.1 → ∃ (hb : b < l.length), plL l b = l[b] ∧ plL l b < 36 ∧ (plL l b % 6 < c.1 ∧ plL l b / 6 < c.2.1) ∧ c.2.2.2.1 (plL l b) = 0) ∧ (c.2.2.1 ≤ b → plL l b = 36) := by
    intro b
    refine ⟨fun hb => ?_, fun hb => ?_⟩
    · have hbl : b < l.length := by omega
      have e : plL l b = l[b] := by unfold plL; simp [hbl]
      have hm := h2 l[b] (List.getElem_mem hbl)
      unfold plnL at hm
      rw [List.mem_filter] at hm
      have h36 : l[b] < 36 := by simpa using hm.1
      have hp := of_decide_eq_true hm.2
      refine ⟨hbl, e, by rw [e]; exact h36, by rw [e]; exact hp.1, by rw [e]; exact hp.2⟩
    · have hn : l[b]? = none := List.getElem?_eq_none (by omega)
      unfold plL
      rw [List.getD_eq_getElem?_getD, hn]
      rfl
  refine ⟨⟨⟨fun b hb => (val b).2 hb, fun b => ?_⟩, fun b hb36 => ?_⟩, fun a b ha hb hab ha36 e => ?_, fun b hb => ((val b).1 hb).2.2.1⟩
  · by_cases hb : b < c.2.2.1
    · obtain ⟨-, -, q1, q2, -⟩ := (val b).1 hb
      exact ⟨by omega, fun _ => q2⟩
    · rw [(val b).2 (by omega)]; exact ⟨by decide, fun q => absurd q (by decide)⟩
  · by_cases hb : b < c.2.2.1
    · exact ((val b).1 hb).2.2.2.2
    · rw [(val b).2 (by omega)] at hb36; exact absurd hb36 (by decide)
  · have haB : a < c.2.2.1 := Nat.not_le.mp (fun q => by rw [(val a).2 q] at ha36; exact absurd ha36 (by decide))
    have hbB : b < c.2.2.1 := Nat.not_le.mp (fun q => by rw [e, (val b).2 q] at ha36; exact absurd ha36 (by decide))
    obtain ⟨la, ea, -⟩ := (val a).1 haB
    obtain ⟨lb, eb, -⟩ := (val b).1 hbB
    rw [ea, eb] at e
    have hpw := List.pairwise_iff_getElem.mp hn
    rcases (show a < b ∨ b < a by omega) with q | q
    · exact hpw a b la lb q e
    · exact hpw b a lb la q e.symm
