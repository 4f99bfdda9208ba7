-- fewest tips by numbers: a queue of situations (how many, the places, from where and by which way, how far)
abbrev Qs : Type := Nat × (Nat → Nat → Nat) × (Nat → Nat) × (Nat → Nat)
def inQ (q : Qs) (N : Nat → Nat) : Prop := ∃ i, i < q.1 ∧ q.2.1 i = N
def psh (q : Qs) (N : Nat → Nat) (b dd : Nat) : Qs := (q.1 + 1, fun i => if i = q.1 then N else q.2.1 i, fun i => if i = q.1 then b else q.2.2.1 i, fun i => if i = q.1 then dd else q.2.2.2 i)
abbrev losP (P : Nat → Nat) : Prop := P 0 = 37 ∨ P 1 = 37 ∨ P 2 = 37
noncomputable def bfsF (c : Cfg) : Nat → Nat → Nat → Qs → Nat × Nat × Qs
  | 0, _, _, q => (0, 0, q)
  | f + 1, h, w, q =>
    if 4 ≤ w then (if q.1 ≤ h + 1 then (0, 0, q) else bfsF c f (h + 1) 0 q)
    else if allH (tipC c w (q.2.1 h)).1 then (1, 4 * h + w, q)
    else if losP (tipC c w (q.2.1 h)).1 then bfsF c f h (w + 1) q
    else @ite _ (inQ q (tipC c w (q.2.1 h)).1) (Classical.propDecidable _) (bfsF c f h (w + 1) q) (if q.1 = 4000 then (2, 0, q) else bfsF c f h (w + 1) (psh q (tipC c w (q.2.1 h)).1 (4 * h + w) (q.2.2.2 h + 1)))
def q0F (P : Nat → Nat) : Qs := (1, fun _ => P, fun _ => 0, fun _ => 0)
noncomputable def fndF (c : Cfg) (P : Nat → Nat) : Nat × Nat × Qs := bfsF c 20010 0 0 (q0F P)
def resV (r : Nat × Nat × Qs) : Int32 := if r.1 = 1 then nI (r.2.2.2.2.2 (r.2.1 / 4) + 1) else if r.1 = 0 then -2 else -3
noncomputable def finV (c : Cfg) (P : Nat → Nat) : Int32 := if allH P then 0 else resV (fndF c P)
def pbk (qB : Nat → Nat) : Nat → Nat → Nat
  | 0, b => b
  | m + 1, b => pbk qB m (qB (b / 4))
noncomputable def pthV (c : Cfg) (P : Nat → Nat) (k : Nat) : Int32 := if allH P then -2 else if (fndF c P).1 = 1 then (if (fndF c P).2.2.2.2.2 ((fndF c P).2.1 / 4) + 1 ≤ k then -2 else nI (pbk (fndF c P).2.2.2.2.1 ((fndF c P).2.2.2.2.2 ((fndF c P).2.1 / 4) - k) (fndF c P).2.1 % 4)) else resV (fndF c P)
/-- what a queue keeps to -/
def okQ (c : Cfg) (q : Qs) : Prop := 1 ≤ q.1 ∧ q.1 ≤ 4000 ∧ (∀ i, i < q.1 → okP c.1 c.2.1 c.2.2.1 c.2.2.2.1 (q.2.1 i) ∧ ¬ allH (q.2.1 i)) ∧ q.2.2.2 0 = 0 ∧ (∀ i, 0 < i → i < q.1 → q.2.2.1 i / 4 < i ∧ q.2.2.2 i = q.2.2.2 (q.2.2.1 i / 4) + 1) ∧ ∀ i, i < q.1 → q.2.2.2 i ≤ i
theorem okQ_psh {c : Cfg} {q : Qs} {N : Nat → Nat} {h w : Nat} (hq : okQ c q) (hh : h < q.1) (hw : w < 4) (hl : q.1 < 4000) (hN : okP c.1 c.2.1 c.2.2.1 c.2.2.2.1 N) (hH : ¬ allH N) : okQ c (psh q N (4 * h + w) (q.2.2.2 h + 1)) := by
  obtain ⟨h1, h2, h3, h4, h5, h6⟩ := hq
  refine ⟨by show 1 ≤ q.1 + 1; omega, by show q.1 + 1 ≤ 4000; omega, fun i hi => ?_, ?_, fun i hi0 hi => ?_, fun i hi => ?_⟩
  · have hi : i < q.1 + 1 := hi
    show okP _ _ _ _ (if i = q.1 then N else q.2.1 i) ∧ ¬ allH (if i = q.1 then N else q.2.1 i)
    by_cases e : i = q.1
    · rw [if_pos e]; exact ⟨hN, hH⟩
    · rw [if_neg e]; exact h3 i (by omega)
  · show (if 0 = q.1 then _ else _) = 0
    rw [if_neg (by omega)]; exact h4
  · have hi : i < q.1 + 1 := hi
    show (if i = q.1 then 4 * h + w else q.2.2.1 i) / 4 < i ∧ (if i = q.1 then q.2.2.2 h + 1 else q.2.2.2 i) = (if (if i = q.1 then 4 * h + w else q.2.2.1 i) / 4 = q.1 then q.2.2.2 h + 1 else q.2.2.2 ((if i = q.1 then 4 * h + w else q.2.2.1 i) / 4)) + 1
    by_cases e : i = q.1
    · rw [if_pos e, if_pos e, show (4 * h + w) / 4 = h by omega, if_neg (by omega)]
      exact ⟨by omega, rfl⟩
    · have := h5 i hi0 (by omega)
      rw [if_neg e, if_neg e, if_neg (by omega)]
      exact this
  · have hi : i < q.1 + 1 := hi
    show (if i = q.1 then q.2.2.2 h + 1 else q.2.2.2 i) ≤ i
    by_cases e : i = q.1
    · rw [if_pos e]; have := h6 h hh; omega
    · rw [if_neg e]; exact h6 i (by omega)
/-- the queue only grows -/
theorem bfs_ok {c : Cfg} (hC : c.1 ≤ 6) (hR : c.2.1 ≤ 6) : ∀ (f h w : Nat) (q : Qs), okQ c q → h < q.1 → okQ c (bfsF c f h w q).2.2 ∧ ((bfsF c f h w q).1 = 1 → (bfsF c f h w q).2.1 / 4 < (bfsF c f h w q).2.2.1)
  | 0, _, _, q, hq, _ => ⟨hq, fun e => absurd (show (0 : Nat) = 1 from e) (by decide)⟩
  | f + 1, h, w, q, hq, hh => by
    unfold bfsF
    by_cases h4 : 4 ≤ w
    · rw [if_pos h4]
      split
      · exact ⟨hq, fun e => absurd (show (0 : Nat) = 1 from e) (by decide)⟩
      · exact bfs_ok hC hR f (h + 1) 0 q hq (by omega)
    · rw [if_neg h4]
      have hN := tipC_ok hC hR (show w < 4 by omega) (hq.2.2.1 h hh).1
      split
      · exact ⟨hq, fun _ => by show (4 * h + w) / 4 < q.1; omega⟩
      · rename_i hH
        split
        · exact bfs_ok hC hR f h (w + 1) q hq hh
        · split
          · exact bfs_ok hC hR f h (w + 1) q hq hh
          · split
            · exact ⟨hq, fun e => absurd (show (2 : Nat) = 1 from e) (by decide)⟩
            · have hl := hq.2.1
              exact bfs_ok hC hR f h (w + 1) _ (okQ_psh hq hh (by omega) (by omega) hN hH) (by show h < q.1 + 1; omega)
theorem q0_ok {c : Cfg} {P : Nat → Nat} (hp : okP c.1 c.2.1 c.2.2.1 c.2.2.2.1 P) (hh : ¬ allH P) : okQ c (q0F P) := ⟨Nat.le_refl _, (show 1 ≤ 4000 by decide), fun _ _ => ⟨hp, hh⟩, rfl, fun i h1 h2 => absurd h2 (by show ¬ i < 1; omega), fun i _ => Nat.zero_le _⟩
/-- who has lost one never finds it -/
theorem fnd_lost {c : Cfg} {P : Nat → Nat} (hC : c.1 ≤ 6) (hR : c.2.1 ≤ 6) (hp : okP c.1 c.2.1 c.2.2.1 c.2.2.2.1 P) (hl : losP P) : (fndF c P).1 = 0 := by
  have hk : ∀ w, w < 4 → ¬ allH (tipC c w P).1 ∧ losP (tipC c w P).1 := by
    intro w hw
    have kp : ∀ b, P b = 37 → (tipC c w P).1 b = 37 := by
      intro b hb
      have := stk_tip (c := c) (b := b) hC hR hw hp (Or.inl hb)
      have h2 := fold_keeps (X := fun Q => Q b = 37) (B := c.2.2.1) (K := c.2.2.2.1) (C := c.1) (R := c.2.1) (w := w) (fun st x _ h36 _ hx => by
        have hne : b ≠ x := fun e => by rw [← e] at h36; omega
        rw [rol1_ne hne]; exact hx) hC hR hw (ordL (keyC c P w) P) (P, 0, 0) (ordL_in hp.1) (ordL_nodup _ _) hp hb
      exact h2.2
    have : losP (tipC c w P).1 := by
      rcases hl with h | h | h
      · exact Or.inl (kp 0 h)
      · exact Or.inr (Or.inl (kp 1 h))
      · exact Or.inr (Or.inr (kp 2 h))
    refine ⟨?_, this⟩
    rintro ⟨a0, a1, a2⟩
    rcases this with h | h | h <;> omega
  have st : ∀ f w, w < 4 → bfsF c (f + 1) 0 w (q0F P) = bfsF c f 0 (w + 1) (q0F P) := by
    intro f w hw
    obtain ⟨a, b⟩ := hk w hw
    have e : (q0F P).2.1 0 = P := rfl
    rw [bfsF, if_neg (by omega), e, if_neg a, if_pos b]
  unfold fndF
  rw [st 20009 0 (by decide), st 20008 1 (by decide), st 20007 2 (by decide), st 20006 3 (by decide), bfsF, if_pos (by decide), if_pos (show (q0F P).1 ≤ 0 + 1 from Nat.le_refl 1)]
/-- who can never come home never finds it -/
theorem bfs_stk {c : Cfg} {b : Nat} (hC : c.1 ≤ 6) (hR : c.2.1 ≤ 6) (hb : b < 3) : ∀ (f h w : Nat) (q : Qs), okQ c q → h < q.1 → (∀ i, i < q.1 → stk c.1 c.2.1 c.2.2.2.1 b (q.2.1 i)) → (bfsF c f h w q).1 ≠ 1
  | 0, _, _, q, _, _, _ => by show (0 : Nat) ≠ 1; decide
  | f + 1, h, w, q, hq, hh, hs => by
    unfold bfsF
    by_cases h4 : 4 ≤ w
    · rw [if_pos h4]
      split
      · show (0 : Nat) ≠ 1; decide
      · exact bfs_stk hC hR hb f (h + 1) 0 q hq (by omega) hs
    · rw [if_neg h4]
      have hp := (hq.2.2.1 h hh).1
      have hN := tipC_ok hC hR (show w < 4 by omega) hp
      have hS := stk_tip hC hR (show w < 4 by omega) hp (hs h hh)
      have hH := stk_no hb hS
      rw [if_neg hH]
      split
      · exact bfs_stk hC hR hb f h (w + 1) q hq hh hs
      · split
        · exact bfs_stk hC hR hb f h (w + 1) q hq hh hs
        · split
          · show (2 : Nat) ≠ 1; decide
          · have hl := hq.2.1
            refine bfs_stk hC hR hb f h (w + 1) _ (okQ_psh hq hh (by omega) (by omega) hN hH) (by show h < q.1 + 1; omega) (fun i hi => ?_)
            have hi : i < q.1 + 1 := hi
            show stk _ _ _ _ (if i = q.1 then _ else q.2.1 i)
            by_cases e : i = q.1
            · rw [if_pos e]; exact hS
            · rw [if_neg e]; exact hs i (by omega)
theorem fin_stk {c : Cfg} {P : Nat → Nat} {b : Nat} (hC : c.1 ≤ 6) (hR : c.2.1 ≤ 6) (hb : b < 3) (hp : okP c.1 c.2.1 c.2.2.1 c.2.2.2.1 P) (hs : stk c.1 c.2.1 c.2.2.2.1 b P) : finV c P < 0 := by
  have hh := stk_no hb hs
  have := bfs_stk hC hR hb 20010 0 0 (q0F P) (q0_ok hp hh) (show 0 < 1 by decide) (fun _ _ => hs)
  unfold finV resV fndF
  rw [if_neg hh, if_neg this]
  split <;> decide
