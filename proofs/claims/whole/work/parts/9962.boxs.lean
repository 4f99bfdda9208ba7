-- a box's text: what it says
abbrev BxT : Type := Nat × Nat × Nat × (Nat → Nat) × (Nat → Nat) × (Nat → Bool)
noncomputable def wdB (L : Nat) (T : Nat → Nat) (p w : Nat) : Bool := @decide (wdIs L T p w) (Classical.propDecidable _)
theorem wdB_iff {L : Nat} {T : Nat → Nat} {p w : Nat} : wdB L T p w = true ↔ wdIs L T p w := by
  unfold wdB
  exact @decide_eq_true_iff _ (Classical.propDecidable _)
def kdO (t : Nat) : Option Nat := if t = 46 then some 0 else if t = 35 then some 1 else if 49 ≤ t ∧ t ≤ 51 then some (t - 47) else none
def kdA (L : Nat) (T : Nat → Nat) (p : Nat) : Option Nat := if p < L then kdO (T p) else none
def upB (H : Nat → Bool) (k : Nat) : Nat → Bool := fun j => if 2 ≤ k ∧ j = k then true else H j
def rowL (L : Nat) (T : Nat → Nat) (R : Nat) : Nat → Nat → Nat → (Nat → Nat) → (Nat → Bool) → Nat ⊕ (Nat × Nat × (Nat → Nat) × (Nat → Bool))
  | 0, p, n, K, H => .inr (p, n, K, H)
  | f + 1, p, n, K, H => match kdA L T p with
    | none => .inr (p, n, K, H)
    | some k => if n = 6 ∨ (2 ≤ k ∧ H k = true) then .inl (flt p 5) else rowL L T R f (p + 1) (n + 1) (upP K (6 * R + n) k) (upB H k)
def rowF (L : Nat) (T : Nat → Nat) (b : BxT) (p : Nat) : Nat ⊕ (BxT × Nat) := match rowL L T b.2.1 7 (skF L T p) 0 b.2.2.2.1 b.2.2.2.2.2 with
  | .inl f => .inl f
  | .inr r => if r.2.1 = 0 then .inl (flt r.1 0) else if 0 < b.2.1 ∧ r.2.1 ≠ b.1 then .inl (flt (r.1 - 1) 5) else .inr ((r.2.1, b.2.1 + 1, b.2.2.1, r.2.2.1, b.2.2.2.2.1, r.2.2.2), r.1)
def balF (L : Nat) (T : Nat → Nat) (b : BxT) (p : Nat) : Nat ⊕ (BxT × Nat) := match coF L T (skF L T p) with
  | .inl f => .inl f
  | .inr r => match coF L T (skF L T r.2) with
    | .inl f => .inl f
    | .inr s => if (r.1 < b.1 ∧ s.1 < b.2.1) ∧ b.2.2.2.1 (6 * s.1 + r.1) = 0 ∧ whoM b.2.2.2.2.1 b.2.2.1 (6 * s.1 + r.1) = -1 then .inr ((b.1, b.2.1, b.2.2.1 + 1, b.2.2.2.1, upP b.2.2.2.2.1 b.2.2.1 (6 * s.1 + r.1), b.2.2.2.2.2), s.2) else .inl (flt (skF L T p) 5)
noncomputable def bclF (L : Nat) (T : Nat → Nat) (b : BxT) (p n : Nat) : Nat ⊕ (BxT × Nat) :=
  if wdB L T (skF L T p) 0 = true then (if n = 12 ∨ b.2.1 = 6 ∨ 0 < b.2.2.1 then .inl (flt (skF L T p) 4) else rowF L T b (skF L T p + 3))
  else if wdB L T (skF L T p) 1 = true then (if n = 12 ∨ b.2.1 = 0 ∨ b.2.2.1 = 3 then .inl (flt (skF L T p) 4) else balF L T b (skF L T p + 4))
  else .inl (flt (skF L T p) 0)
noncomputable def bxL (L : Nat) (T : Nat → Nat) : Nat → BxT → Nat → Nat → Nat ⊕ BxT
  | 0, b, _, _ => .inr b
  | f + 1, b, p, n => match bclF L T b p n with
    | .inl e => .inl e
    | .inr r => if L ≤ skF L T r.2 then .inr r.1 else if T (skF L T r.2) = 59 then bxL L T f r.1 (skF L T r.2 + 1) (n + 1) else .inl (flt (skF L T r.2) 0)
def bx0 : BxT := (0, 0, 0, fun _ => 1, fun _ => 36, fun _ => false)
/-- what holds between two clauses -/
def BxOk (b : BxT) : Prop := (b.1 ≤ 6 ∧ b.2.1 ≤ 6 ∧ b.2.2.1 ≤ 3 ∧ (b.1 = 0 ↔ b.2.1 = 0) ∧ (b.2.1 = 0 → b.2.2.1 = 0)) ∧ (∀ c, c < 36 → b.2.2.2.1 c ≤ 4) ∧ okP b.1 b.2.1 b.2.2.1 b.2.2.2.1 b.2.2.2.2.1 ∧ dsP b.2.2.2.2.1
theorem kdO_le {t k : Nat} (h : kdO t = some k) : k ≤ 4 := by
  unfold kdO at h
  split at h
  · cases h; omega
  · split at h
    · cases h; omega
    · split at h
      · cases h; omega
      · cases h
theorem kdA_le {L p k : Nat} {T : Nat → Nat} (h : kdA L T p = some k) : k ≤ 4 ∧ p < L := by
  unfold kdA at h
  split at h
  · exact ⟨kdO_le h, by assumption⟩
  · cases h
theorem rowL_ok {L R : Nat} {T : Nat → Nat} : ∀ {f p n : Nat} {K : Nat → Nat} {H : Nat → Bool} {r : Nat × Nat × (Nat → Nat) × (Nat → Bool)}, p ≤ L → n ≤ 6 → (∀ c, c < 36 → K c ≤ 4) → rowL L T R f p n K H = .inr r → r.1 ≤ L ∧ p ≤ r.1 ∧ r.2.1 ≤ 6 ∧ (∀ c, c < 36 → r.2.2.1 c ≤ 4)
  | 0, p, n, K, H, r, hp, hn, hK, h => by
    unfold rowL at h
    cases h
    exact ⟨hp, Nat.le_refl _, hn, hK⟩
  | f + 1, p, n, K, H, r, hp, hn, hK, h => by
    unfold rowL at h
    cases hk : kdA L T p with
    | none =>
      rw [hk] at h
      cases h
      exact ⟨hp, Nat.le_refl _, hn, hK⟩
    | some k =>
      rw [hk] at h
      obtain ⟨k4, hpL⟩ := kdA_le hk
      dsimp only at h
      split at h
      · cases h
      · rename_i q
        have := rowL_ok (f := f) (by omega) (by omega) (fun c hc => by
          unfold upP
          split
          · exact k4
          · exact hK c hc) h
        exact ⟨this.1, by omega, this.2.2⟩
theorem rowF_ok {L p : Nat} {T : Nat → Nat} {b : BxT} {r : BxT × Nat} (hb : BxOk b) (hB : b.2.2.1 = 0) (hR : b.2.1 < 6) (hp : p ≤ L) (h : rowF L T b p = .inr r) : BxOk r.1 ∧ r.2 ≤ L ∧ p ≤ r.2 ∧ 0 < r.1.2.1 := by
  obtain ⟨b1, b2, b3, b4⟩ := hb
  unfold rowF at h
  cases hr : rowL L T b.2.1 7 (skF L T p) 0 b.2.2.2.1 b.2.2.2.2.2 with
  | inl f => rw [hr] at h; cases h
  | inr r2 =>
    rw [hr] at h
    obtain ⟨r1, r3, r4, r5⟩ := rowL_ok (skF_le hp) (by omega) b2 hr
    have ge := skF_ge (L := L) (T := T) (p := p)
    dsimp only at h
    split at h
    · cases h
    · split at h
      · cases h
      · cases h
        refine ⟨⟨⟨r4, by dsimp only; omega, by dsimp only; omega, by dsimp only; omega, fun z => by dsimp only at z; omega⟩, r5, ?_, b4⟩, r1, by dsimp only; omega, by dsimp only; omega⟩
        have e36 : ∀ i, b.2.2.2.2.1 i = 36 := fun i => b3.1.1 i (by omega)
        refine ⟨⟨fun i _ => e36 i, fun i => ⟨by dsimp only; rw [e36 i]; decide, fun z => ?_⟩⟩, fun i z => ?_⟩
        · dsimp only at z; rw [e36 i] at z; exact absurd z (by decide)
        · dsimp only at z; rw [e36 i] at z; exact absurd z (by decide)
theorem balF_ok {L p : Nat} {T : Nat → Nat} {b : BxT} {r : BxT × Nat} (hb : BxOk b) (hB : b.2.2.1 < 3) (hR : b.2.1 ≠ 0) (hp : p ≤ L) (h : balF L T b p = .inr r) : BxOk r.1 ∧ r.2 ≤ L ∧ p ≤ r.2 ∧ 0 < r.1.2.1 := by
  obtain ⟨b1, b2, b3, b4⟩ := hb
  unfold balF at h
  cases h1 : coF L T (skF L T p) with
  | inl f => rw [h1] at h; cases h
  | inr r1 =>
    rw [h1] at h
    obtain ⟨x5, e1, e2⟩ := coF_ok (skF_le hp) (show coF L T (skF L T p) = .inr (r1.1, r1.2) from h1)
    dsimp only at h
    cases h2 : coF L T (skF L T r1.2) with
    | inl f => rw [h2] at h; cases h
    | inr r2 =>
      rw [h2] at h
      obtain ⟨y5, e3, e4⟩ := coF_ok (skF_le e2) (show coF L T (skF L T r1.2) = .inr (r2.1, r2.2) from h2)
      have g1 := skF_ge (L := L) (T := T) (p := p)
      have g2 := skF_ge (L := L) (T := T) (p := r1.2)
      dsimp only at h
      split at h
      · rename_i q
        cases h
        obtain ⟨⟨q1, q2⟩, q3, q4⟩ := q
        refine ⟨⟨⟨b1.1, b1.2.1, by dsimp only; omega, b1.2.2.2.1, fun z => absurd z hR⟩, b2, ⟨⟨fun i hi => ?_, fun i => ?_⟩, fun i hi => ?_⟩, ?_⟩, e4, by dsimp only; omega, by dsimp only; omega⟩
        · dsimp only at hi ⊢
          rw [upP_ne (by omega)]; exact b3.1.1 i (by omega)
        · dsimp only
          by_cases e : i = b.2.2.1
          · rw [e, upP_same]; exact ⟨by omega, fun _ => by omega⟩
          · rw [upP_ne e]; exact b3.1.2 i
        · dsimp only at hi ⊢
          by_cases e : i = b.2.2.1
          · rw [e, upP_same]; exact q3
          · rw [upP_ne e] at hi ⊢; exact b3.2 i hi
        · intro i j hi hj hij
          dsimp only
          by_cases e : i = b.2.2.1
          · rw [e, upP_same, upP_ne (by omega)]
            intro _ z
            by_cases hjB : j < b.2.2.1
            · exact whoM_no q4 b1.2.2.1 j hjB z.symm
            · have := b3.1.1 j (by omega); omega
          · by_cases e2 : j = b.2.2.1
            · rw [e2, upP_ne e, upP_same]
              intro h36 z
              by_cases hiB : i < b.2.2.1
              · exact whoM_no q4 b1.2.2.1 i hiB z
              · have := b3.1.1 i (by omega); omega
            · rw [upP_ne e, upP_ne e2]; exact b4 i j hi hj hij
      · cases h
theorem wdIs_le {L p w : Nat} {T : Nat → Nat} (hp : p ≤ L) (h : wdIs L T p w) : p + slen.getD w 0 ≤ L := by
  have := enE_le (f := fW L T) hp
  have e := h.1
  unfold wdE at e
  omega
theorem sl0 : slen.getD 0 0 = 3 := by decide
theorem sl1 : slen.getD 1 0 = 4 := by decide
theorem bclF_ok {L p n : Nat} {T : Nat → Nat} {b : BxT} {r : BxT × Nat} (hb : BxOk b) (hp : p ≤ L) (h : bclF L T b p n = .inr r) : BxOk r.1 ∧ r.2 ≤ L ∧ p < r.2 ∧ 0 < r.1.2.1 ∧ n ≠ 12 := by
  unfold bclF at h
  have sl : skF L T p ≤ L := skF_le hp
  have sg := skF_ge (L := L) (T := T) (p := p)
  have b1 := hb.1
  split at h
  · rename_i w
    have := wdIs_le sl (wdB_iff.mp w)
    rw [sl0] at this
    split at h
    · cases h
    · rename_i q
      have := rowF_ok hb (by omega) (by omega) this h
      exact ⟨this.1, this.2.1, by omega, this.2.2.2, by omega⟩
  · split at h
    · rename_i w
      have := wdIs_le sl (wdB_iff.mp w)
      rw [sl1] at this
      split at h
      · cases h
      · rename_i q
        have := balF_ok hb (by omega) (by omega) this h
        exact ⟨this.1, this.2.1, by omega, this.2.2.2, by omega⟩
    · cases h
theorem bxL_ok {L : Nat} {T : Nat → Nat} : ∀ {f p n : Nat} {b b' : BxT}, BxOk b → p ≤ L → n + f = 13 → 0 < f → bxL L T f b p n = .inr b' → BxOk b' ∧ 0 < b'.2.1
  | 0, _, _, _, _, _, _, _, h0, _ => absurd h0 (by decide)
  | f + 1, p, n, b, b', hb, hp, hn, _, h => by
    unfold bxL at h
    cases hc : bclF L T b p n with
    | inl e => rw [hc] at h; cases h
    | inr r =>
      rw [hc] at h
      obtain ⟨a1, a2, a3, a4, a5⟩ := bclF_ok hb hp hc
      have sl : skF L T r.2 ≤ L := skF_le a2
      dsimp only at h
      split at h
      · cases h; exact ⟨a1, a4⟩
      · split at h
        · exact bxL_ok (f := f) a1 (by omega) (by omega) (by omega) h
        · cases h
theorem bx0_ok : BxOk bx0 := by
  refine ⟨⟨by decide, by decide, by decide, by decide, fun _ => rfl⟩, fun _ _ => by show 1 ≤ 4; decide, ⟨⟨fun _ _ => rfl, fun _ => ⟨by show 36 < 38; decide, fun z => absurd z (by show ¬ 36 < 36; decide)⟩⟩, fun _ z => absurd z (by show ¬ 36 < 36; decide)⟩, fun _ _ _ _ _ z => absurd z (by show ¬ 36 < 36; decide)⟩
