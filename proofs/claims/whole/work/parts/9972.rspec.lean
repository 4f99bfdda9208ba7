-- a rule's text: what it says
abbrev PS : Type := Nat × Nat × Nat × (Nat → Int32)
abbrev Rs : Type := Nat ⊕ PS
def bnd (r : Rs) (f : PS → Rs) : Rs := match r with
  | .inl e => .inl e
  | .inr s => f s
def emF (s : PS) (x : Int32) : PS := (s.1, s.2.1, s.2.2.1 + 1, fun j => if j = s.2.2.1 then x else s.2.2.2 j)
def cnF (s : PS) : PS := (s.1, s.2.1 + 1, s.2.2.1, s.2.2.2)
noncomputable def avF (L : Nat) (T : Nat → Nat) (s : PS) : PS := (skF L T (tk L T s.1).2, s.2.1, s.2.2.1, s.2.2.2)
noncomputable def tkS (L : Nat) (T : Nat → Nat) (s : PS) : Int32 := (tk L T s.1).1
noncomputable def valF (L : Nat) (T : Nat → Nat) (s : PS) : Rs := if tkS L T s = -27 then .inl (flt s.1 1) else if tkS L T s < -8 then .inl (flt s.1 0) else if 60 ≤ s.2.1 then .inl (flt s.1 3) else .inr (avF L T (emF (cnF s) (tkS L T s)))
abbrev isM (t : Int32) : Prop := t = -16 ∨ t = -17 ∨ t = -18
abbrev isA (t : Int32) : Prop := t = -14 ∨ t = -15
abbrev isC (t : Int32) : Prop := t = -19 ∨ t = -20 ∨ t = -21 ∨ t = -25 ∨ t = -26
noncomputable def tmL (L : Nat) (T : Nat → Nat) : Nat → PS → Rs
  | 0, s => .inr s
  | f + 1, s => if isM (tkS L T s) then bnd (valF L T (avF L T s)) (fun s1 => tmL L T f (emF s1 (tkS L T s))) else .inr s
noncomputable def smL (L : Nat) (T : Nat → Nat) : Nat → PS → Rs
  | 0, s => .inr s
  | f + 1, s => if isA (tkS L T s) then bnd (bnd (valF L T (avF L T s)) (tmL L T 500)) (fun s1 => smL L T f (emF s1 (tkS L T s))) else .inr s
noncomputable def sumF (L : Nat) (T : Nat → Nat) (s : PS) : Rs := bnd (bnd (valF L T s) (tmL L T 500)) (smL L T 500)
noncomputable def cmpF (L : Nat) (T : Nat → Nat) (s : PS) : Rs := bnd (sumF L T s) (fun s1 => if ¬ isC (tkS L T s1) then .inl (flt s1.1 0) else if 60 ≤ s1.2.1 then .inl (flt s1.1 3) else bnd (sumF L T (avF L T (cnF s1))) (fun s2 => .inr (emF s2 (tkS L T s1))))
def orF (w : Bool) (s : PS) : PS := if w = true then emF s (-11) else s
noncomputable def tsL (L : Nat) (T : Nat → Nat) (fact : PS → Rs) : Nat → Bool → PS → Rs
  | 0, w, s => .inr (orF w s)
  | f + 1, w, s => if tkS L T s = -10 then bnd (fact (avF L T s)) (fun s1 => tsL L T fact f w (emF s1 (-10))) else if tkS L T s = -11 then bnd (fact (avF L T (orF w s))) (fun s1 => tsL L T fact f true s1) else .inr (orF w s)
noncomputable def clsB (L : Nat) (T : Nat → Nat) (s : PS) : Rs := if tkS L T s = -24 then .inr (avF L T s) else .inl (flt s.1 0)
noncomputable def fct (L : Nat) (T : Nat → Nat) : Nat → PS → Rs
  | 0, s => if tkS L T s = -9 ∨ tkS L T s = -23 then .inl (flt s.1 2) else cmpF L T s
  | d + 1, s => if tkS L T s = -9 then bnd (fct L T d (avF L T s)) (fun s1 => .inr (emF s1 (-9))) else if tkS L T s = -23 then bnd (bnd (fct L T d (avF L T s)) (tsL L T (fct L T d) 500 false)) (clsB L T) else cmpF L T s
noncomputable def tstF (L : Nat) (T : Nat → Nat) (d : Nat) (s : PS) : Rs := bnd (fct L T d s) (tsL L T (fct L T d) 500 false)
/-- how it ends: a fault, or further on -/
def Gd (L p : Nat) (r : Rs) : Prop := (∀ e, r = .inl e → 0 < e ∧ e < 4000) ∧ ∀ s, r = .inr s → p ≤ s.1 ∧ s.1 ≤ L
section
variable {L : Nat} {T : Nat → Nat}
theorem Gd.bnd {p q : Nat} {r : Rs} {f : PS → Rs} (h : Gd L p r) (hf : ∀ s, p ≤ s.1 → s.1 ≤ L → Gd L q (f s)) : Gd L q (bnd r f) := by
  cases r with
  | inl e => exact ⟨fun e2 q2 => (by cases q2; exact h.1 e rfl), fun s q2 => (by cases q2)⟩
  | inr s =>
    have := h.2 s rfl
    exact hf s this.1 this.2
theorem Gd.lo {p q : Nat} {r : Rs} (h : Gd L p r) (hq : q ≤ p) : Gd L q r := ⟨h.1, fun s e => ⟨Nat.le_trans hq (h.2 s e).1, (h.2 s e).2⟩⟩
theorem gd_ok {p : Nat} {s : PS} (h1 : p ≤ s.1) (h2 : s.1 ≤ L) : Gd L p (.inr s) := ⟨fun e q => (by cases q), fun s2 q => (by cases q; exact ⟨h1, h2⟩)⟩
theorem gd_bad {p e : Nat} (h : 0 < e ∧ e < 4000) : Gd L p (.inl e) := ⟨fun e2 q => (by cases q; exact h), fun s q => (by cases q)⟩
theorem av_gt {s : PS} (h : s.1 < L) : s.1 < (avF L T s).1 ∧ (avF L T s).1 ≤ L := by
  have a := tk_next (T := T) h
  have b := skF_ge (L := L) (T := T) (p := (tk L T s.1).2)
  have c := skF_le (T := T) a.2
  show s.1 < skF L T (tk L T s.1).2 ∧ skF L T (tk L T s.1).2 ≤ L
  omega
theorem lt_of_tok {s : PS} (h : tkS L T s ≠ -29) : s.1 < L := Nat.not_le.mp (fun z => h (by unfold tkS; rw [tk_end z]))
theorem val_gd (hL : L ≤ 400) {s : PS} (hp : s.1 ≤ L) : Gd L (s.1 + 1) (valF L T s) := by
  unfold valF
  split
  · exact gd_bad (flt_b (by omega) (by decide))
  · split
    · exact gd_bad (flt_b (by omega) (by decide))
    · rename_i q
      split
      · exact gd_bad (flt_b (by omega) (by decide))
      · have hl : s.1 < L := lt_of_tok (fun z => q (by rw [z]; decide))
        have := av_gt (T := T) (s := emF (cnF s) (tkS L T s)) hl
        exact gd_ok this.1 this.2
theorem tm_gd (hL : L ≤ 400) : ∀ (n : Nat) {s : PS}, s.1 ≤ L → Gd L s.1 (tmL L T n s)
  | 0, s, hp => gd_ok (Nat.le_refl _) hp
  | n + 1, s, hp => by
    unfold tmL
    split
    · rename_i q
      have hl : s.1 < L := lt_of_tok (fun z => by rw [z] at q; exact absurd q (by decide))
      have a := av_gt (T := T) hl
      refine (val_gd hL a.2).bnd (fun s1 h1 h2 => ?_)
      exact (tm_gd hL n (s := emF s1 (tkS L T s)) h2).lo (show s.1 ≤ s1.1 by omega)
    · exact gd_ok (Nat.le_refl _) hp
theorem vt_gd (hL : L ≤ 400) {n : Nat} {s : PS} (hp : s.1 ≤ L) : Gd L (s.1 + 1) (bnd (valF L T s) (tmL L T n)) := (val_gd hL hp).bnd (fun _ h1 h2 => (tm_gd hL n h2).lo h1)
theorem sm_gd (hL : L ≤ 400) : ∀ (n : Nat) {s : PS}, s.1 ≤ L → Gd L s.1 (smL L T n s)
  | 0, s, hp => gd_ok (Nat.le_refl _) hp
  | n + 1, s, hp => by
    unfold smL
    split
    · rename_i q
      have hl : s.1 < L := lt_of_tok (fun z => by rw [z] at q; exact absurd q (by decide))
      have a := av_gt (T := T) hl
      refine (vt_gd hL a.2).bnd (fun s1 h1 h2 => ?_)
      exact (sm_gd hL n (s := emF s1 (tkS L T s)) h2).lo (show s.1 ≤ s1.1 by omega)
    · exact gd_ok (Nat.le_refl _) hp
theorem sum_gd (hL : L ≤ 400) {s : PS} (hp : s.1 ≤ L) : Gd L (s.1 + 1) (sumF L T s) := (vt_gd hL hp).bnd (fun _ h1 h2 => (sm_gd hL 500 h2).lo h1)
theorem isC_lt {s : PS} (h : isC (tkS L T s)) : s.1 < L := lt_of_tok (fun z => by rw [z] at h; exact absurd h (by decide))
theorem cmp_gd (hL : L ≤ 400) {s : PS} (hp : s.1 ≤ L) : Gd L (s.1 + 1) (cmpF L T s) := by
  refine (sum_gd hL hp).bnd (fun s1 h1 h2 => ?_)
  split
  · exact gd_bad (flt_b (by omega) (by decide))
  · rename_i q
    split
    · exact gd_bad (flt_b (by omega) (by decide))
    · have a := av_gt (T := T) (s := cnF s1) (isC_lt (Decidable.not_not.mp q))
      have a1 : s1.1 < (avF L T (cnF s1)).1 := a.1
      refine (sum_gd hL a.2).bnd (fun s2 h3 h4 => gd_ok (show s.1 + 1 ≤ s2.1 by omega) h4)
theorem or_p {w : Bool} {s : PS} : (orF w s).1 = s.1 := by unfold orF; split <;> rfl
theorem tk_or {w : Bool} {s : PS} : tkS L T (orF w s) = tkS L T s := by unfold tkS; rw [or_p]
theorem ts_gd {fact : PS → Rs} (hf : ∀ s : PS, s.1 ≤ L → Gd L (s.1 + 1) (fact s)) : ∀ (n : Nat) (w : Bool) {s : PS}, s.1 ≤ L → Gd L s.1 (tsL L T fact n w s)
  | 0, w, s, hp => gd_ok (by rw [or_p]; exact Nat.le_refl _) (by rw [or_p]; exact hp)
  | n + 1, w, s, hp => by
    unfold tsL
    split
    · rename_i q
      have a := av_gt (T := T) (s := s) (lt_of_tok (fun z => by rw [z] at q; exact absurd q (by decide)))
      refine (hf _ a.2).bnd (fun s1 h1 h2 => (ts_gd hf n w (s := emF s1 (-10)) h2).lo (show s.1 ≤ s1.1 by omega))
    · split
      · rename_i q
        have a := av_gt (T := T) (s := orF w s) (lt_of_tok (fun z => by rw [tk_or, q] at z; exact absurd z (by decide)))
        have e := or_p (w := w) (s := s)
        refine (hf _ a.2).bnd (fun s1 h1 h2 => (ts_gd hf n true (s := s1) h2).lo (show s.1 ≤ s1.1 by omega))
      · exact gd_ok (by rw [or_p]; exact Nat.le_refl _) (by rw [or_p]; exact hp)
theorem cls_gd {s : PS} (hL : L ≤ 400) (hp : s.1 ≤ L) : Gd L s.1 (clsB L T s) := by
  unfold clsB
  split
  · rename_i q
    have a := av_gt (T := T) (s := s) (lt_of_tok (fun z => by rw [z] at q; exact absurd q (by decide)))
    exact gd_ok (by omega) a.2
  · exact gd_bad (flt_b (by omega) (by decide))
theorem fct_gd (hL : L ≤ 400) : ∀ (d : Nat) (s : PS), s.1 ≤ L → Gd L (s.1 + 1) (fct L T d s)
  | 0, s, hp => by
    unfold fct
    split
    · exact gd_bad (flt_b (by omega) (by decide))
    · exact cmp_gd hL hp
  | d + 1, s, hp => by
    unfold fct
    split
    · rename_i q
      have a := av_gt (T := T) (s := s) (lt_of_tok (fun z => by rw [z] at q; exact absurd q (by decide)))
      exact (fct_gd hL d _ a.2).bnd (fun s1 h1 h2 => gd_ok (show s.1 + 1 ≤ s1.1 by omega) h2)
    · split
      · rename_i q
        have a := av_gt (T := T) (s := s) (lt_of_tok (fun z => by rw [z] at q; exact absurd q (by decide)))
        refine ((fct_gd hL d _ a.2).bnd (fun s1 h1 h2 => (ts_gd (fct_gd hL d) 500 false h2).lo h1)).bnd (fun s1 h1 h2 => (cls_gd hL h2).lo (by omega))
      · exact cmp_gd hL hp
theorem tst_gd (hL : L ≤ 400) {d : Nat} {s : PS} (hp : s.1 ≤ L) : Gd L (s.1 + 1) (tstF L T d s) := (fct_gd hL d s hp).bnd (fun _ h1 h2 => (ts_gd (fct_gd hL d) 500 false h2).lo h1)
/-- more steps than there are signs change nothing -/
theorem ts_fuel {fact : PS → Rs} (hf : ∀ s : PS, s.1 ≤ L → Gd L (s.1 + 1) (fact s)) : ∀ (n m : Nat) (w : Bool) (s : PS), s.1 ≤ L → L - s.1 < n → L - s.1 < m → tsL L T fact n w s = tsL L T fact m w s
  | 0, _, _, _, _, h, _ => absurd h (Nat.not_lt_zero _)
  | n + 1, 0, _, _, _, _, h => absurd h (Nat.not_lt_zero _)
  | n + 1, m + 1, w, s, hp, h1, h2 => by
    unfold tsL
    split
    · rename_i q
      have a := av_gt (T := T) (s := s) (lt_of_tok (fun z => by rw [z] at q; exact absurd q (by decide)))
      have g := hf _ a.2
      cases hr : fact (avF L T s) with
      | inl e => rfl
      | inr s1 =>
        have b := g.2 s1 hr
        exact ts_fuel hf n m w (emF s1 (-10)) b.2 (show L - s1.1 < n by omega) (show L - s1.1 < m by omega)
    · split
      · rename_i q
        have a := av_gt (T := T) (s := orF w s) (lt_of_tok (fun z => by rw [tk_or, q] at z; exact absurd z (by decide)))
        have e := or_p (w := w) (s := s)
        have g := hf _ a.2
        cases hr : fact (avF L T (orF w s)) with
        | inl e => rfl
        | inr s1 =>
          have b := g.2 s1 hr
          exact ts_fuel hf n m true s1 b.2 (show L - s1.1 < n by omega) (show L - s1.1 < m by omega)
      · rfl
end
-- lengths and kinds
theorem tyR_app (f : Nat → Int32) : ∀ (n i : Nat) (ts : List Bool), tyR f (n + 1) i ts = (match tyR f n i ts with
  | some t2 => tyS (f (i + n)) t2
  | none => none)
  | 0, i, ts => by
    show (match tyS (f i) ts with | some ts' => tyR f 0 (i + 1) ts' | none => none) = tyS (f (i + 0)) ts
    rw [Nat.add_zero]
    cases tyS (f i) ts <;> rfl
  | n + 1, i, ts => by
    have ih := tyR_app f n (i + 1)
    show (match tyS (f i) ts with | some ts' => tyR f (n + 1) (i + 1) ts' | none => none) = (match (match tyS (f i) ts with | some ts' => tyR f n (i + 1) ts' | none => none) with | some t2 => tyS (f (i + (n + 1))) t2 | none => none)
    cases tyS (f i) ts with
    | none => rfl
    | some t1 =>
      show tyR f (n + 1) (i + 1) t1 = _
      rw [ih t1, show i + 1 + n = i + (n + 1) by omega]
theorem tyR_cg {f h : Nat → Int32} : ∀ (n i : Nat) (ts : List Bool), (∀ j, i ≤ j → j < i + n → f j = h j) → tyR f n i ts = tyR h n i ts
  | 0, _, _, _ => rfl
  | n + 1, i, ts, hh => by
    unfold tyR
    rw [hh i (Nat.le_refl _) (by omega)]
    cases tyS (h i) ts with
    | none => rfl
    | some t => exact tyR_cg n (i + 1) t (fun j h1 h2 => hh j (by omega) (by omega))
def Iv (L : Nat) (i0 : Nat × (Nat → Int32)) (k : Nat) (ts : List Bool) (s : PS) : Prop := (s.1 ≤ L ∧ s.2.1 ≤ 60 ∧ s.2.2.1 + k ≤ 2 * s.2.1 + s.1 / 3) ∧ (i0.1 ≤ s.2.2.1 ∧ ∀ j, j < i0.1 → s.2.2.2 j = i0.2 j) ∧ tyR s.2.2.2 (s.2.2.1 - i0.1) i0.1 [] = some ts ∧ ts.length ≤ s.2.1
section
variable {L k : Nat} {i0 : Nat × (Nat → Int32)} {T : Nat → Nat} {ts : List Bool} {s s1 : PS}
theorem Iv.em {x : Int32} {ts' : List Bool} (h : Iv L i0 (k + 1) ts s) (ht : tyS x ts = some ts') (hl : ts'.length ≤ s.2.1) : Iv L i0 k ts' (emF s x) := by
  obtain ⟨⟨a1, a2, a3⟩, ⟨b1, b4⟩, b2, b3⟩ := h
  refine ⟨⟨a1, a2, by show s.2.2.1 + 1 + k ≤ 2 * s.2.1 + s.1 / 3; omega⟩, ⟨by show i0.1 ≤ s.2.2.1 + 1; omega, fun j hj => ?_⟩, ?_, hl⟩
  · show (if j = s.2.2.1 then x else s.2.2.2 j) = _
    rw [if_neg (by omega)]; exact b4 j hj
  show tyR (fun j => if j = s.2.2.1 then x else s.2.2.2 j) (s.2.2.1 + 1 - i0.1) i0.1 [] = some ts'
  rw [show s.2.2.1 + 1 - i0.1 = (s.2.2.1 - i0.1) + 1 by omega, tyR_app, tyR_cg (h := s.2.2.2) _ _ _ (fun j h1 h2 => if_neg (by omega)), b2]
  show tyS (if i0.1 + (s.2.2.1 - i0.1) = s.2.2.1 then x else _) ts = some ts'
  rw [if_pos (by omega)]; exact ht
theorem Iv.av (h : Iv L i0 k ts s) (hp : s.1 < L) : Iv L i0 k ts (avF L T s) := by
  obtain ⟨⟨a1, a2, a3⟩, b⟩ := h
  have := av_gt (T := T) hp
  exact ⟨⟨this.2, a2, by show s.2.2.1 + k ≤ 2 * s.2.1 + (avF L T s).1 / 3; omega⟩, b⟩
theorem Iv.cn (h : Iv L i0 k ts s) (hp : s.2.1 < 60) : Iv L i0 (k + 2) ts (cnF s) := by
  obtain ⟨⟨a1, a2, a3⟩, b1, b2, b3⟩ := h
  exact ⟨⟨a1, by show s.2.1 + 1 ≤ 60; omega, by show s.2.2.1 + (k + 2) ≤ 2 * (s.2.1 + 1) + s.1 / 3; omega⟩, b1, b2, by show ts.length ≤ s.2.1 + 1; omega⟩
theorem Iv.lo {j : Nat} (h : Iv L i0 k ts s) (hj : j ≤ k) : Iv L i0 j ts s := ⟨⟨h.1.1, h.1.2.1, by have := h.1.2.2; omega⟩, h.2⟩
theorem val_iv (h : Iv L i0 k ts s) (hv : valF L T s = .inr s1) : Iv L i0 (k + 1) (false :: ts) s1 := by
  unfold valF at hv
  split at hv
  · cases hv
  · split at hv
    · cases hv
    · rename_i q
      split at hv
      · cases hv
      · rename_i q2
        have e : s1 = avF L T (emF (cnF s) (tkS L T s)) := by cases hv; rfl
        rw [e]
        have hl : s.1 < L := lt_of_tok (fun z => q (by rw [z]; decide))
        have b3 := h.2.2.2
        refine Iv.av (Iv.em (h.cn (by omega)) ?_ ?_) hl
        · unfold tyS
          rw [if_neg q, if_pos (by omega)]
        · show ts.length + 1 ≤ s.2.1 + 1
          omega
theorem bnd_inr {r : Rs} {f : PS → Rs} (h : bnd r f = .inr s1) : ∃ s2, r = .inr s2 ∧ f s2 = .inr s1 := by
  cases r with
  | inl e => cases h
  | inr s2 => exact ⟨s2, rfl, h⟩
theorem ty_ar {x : Int32} (h : isM x ∨ isA x) : tyS x (false :: false :: ts) = some (false :: ts) := by
  rcases h with (rfl | rfl | rfl) | (rfl | rfl) <;> rfl
theorem ty_cm {x : Int32} (h : isC x) : tyS x (false :: false :: ts) = some (true :: ts) := by
  rcases h with rfl | rfl | rfl | rfl | rfl <;> rfl
theorem tm_iv : ∀ (n : Nat) {s : PS}, Iv L i0 k (false :: ts) s → tmL L T n s = .inr s1 → Iv L i0 k (false :: ts) s1
  | 0, s, h, hv => by unfold tmL at hv; cases hv; exact h
  | n + 1, s, h, hv => by
    unfold tmL at hv
    split at hv
    · rename_i q
      obtain ⟨s2, e1, e2⟩ := bnd_inr hv
      have hl : s.1 < L := lt_of_tok (fun z => by rw [z] at q; exact absurd q (by decide))
      have i2 := val_iv (h.av hl) e1
      refine tm_iv n (i2.em (ty_ar (Or.inl q)) ?_) e2
      have := i2.2.2.2
      simp only [List.length_cons] at this ⊢
      omega
    · cases hv; exact h
theorem sm_iv : ∀ (n : Nat) {s : PS}, Iv L i0 k (false :: ts) s → smL L T n s = .inr s1 → Iv L i0 k (false :: ts) s1
  | 0, s, h, hv => by unfold smL at hv; cases hv; exact h
  | n + 1, s, h, hv => by
    unfold smL at hv
    split at hv
    · rename_i q
      obtain ⟨s2, e1, e2⟩ := bnd_inr hv
      obtain ⟨s3, e3, e4⟩ := bnd_inr e1
      have hl : s.1 < L := lt_of_tok (fun z => by rw [z] at q; exact absurd q (by decide))
      have i2 := tm_iv 500 (val_iv (h.av hl) e3) e4
      refine sm_iv n (i2.em (ty_ar (Or.inr q)) ?_) e2
      have := i2.2.2.2
      simp only [List.length_cons] at this ⊢
      omega
    · cases hv; exact h
theorem sum_iv (h : Iv L i0 k ts s) (hv : sumF L T s = .inr s1) : Iv L i0 (k + 1) (false :: ts) s1 := by
  obtain ⟨s2, e1, e2⟩ := bnd_inr hv
  obtain ⟨s3, e3, e4⟩ := bnd_inr e1
  exact sm_iv 500 (tm_iv 500 (val_iv h e3) e4) e2
theorem cmp_iv (h : Iv L i0 k ts s) (hv : cmpF L T s = .inr s1) : Iv L i0 (k + 1) (true :: ts) s1 := by
  obtain ⟨s2, e1, e2⟩ := bnd_inr hv
  have i1 := sum_iv h e1
  split at e2
  · cases e2
  · rename_i q
    have q := Decidable.not_not.mp q
    split at e2
    · cases e2
    · rename_i q2
      obtain ⟨s3, e3, e4⟩ := bnd_inr e2
      have i2 := sum_iv (Iv.av (s := cnF s2) (i1.cn (by omega)) (isC_lt q)) e3
      have e5 : s1 = emF s3 (tkS L T s2) := by cases e4; rfl
      rw [e5]
      refine Iv.lo (k := k + 3) (i2.em (ty_cm q) ?_) (by omega)
      have := i2.2.2.2
      simp only [List.length_cons] at this ⊢
      omega
theorem Iv.or {w : Bool} (h : Iv L i0 (k + (if w = true then 1 else 0)) (true :: (if w = true then true :: ts else ts)) s) : Iv L i0 k (true :: ts) (orF w s) := by
  cases w with
  | false => exact h
  | true =>
    refine Iv.em (k := k) (ts := true :: true :: ts) h rfl ?_
    have := h.2.2.2
    simp only [List.length_cons, if_true] at this ⊢
    omega
theorem ts_iv {fact : PS → Rs} (hf : ∀ (k : Nat) (ts : List Bool) (s s1 : PS), Iv L i0 k ts s → fact s = .inr s1 → Iv L i0 (k + 1) (true :: ts) s1) : ∀ (n : Nat) (w : Bool) {s : PS}, Iv L i0 (k + (if w = true then 1 else 0)) (true :: (if w = true then true :: ts else ts)) s → tsL L T fact n w s = .inr s1 → Iv L i0 k (true :: ts) s1
  | 0, w, s, h, hv => by unfold tsL at hv; cases hv; exact h.or
  | n + 1, w, s, h, hv => by
    unfold tsL at hv
    split at hv
    · rename_i q
      obtain ⟨s2, e1, e2⟩ := bnd_inr hv
      have hl : s.1 < L := lt_of_tok (fun z => by rw [z] at q; exact absurd q (by decide))
      have i2 := hf _ _ _ _ (h.av hl) e1
      refine ts_iv hf n w (i2.em rfl ?_) e2
      have := i2.2.2.2
      simp only [List.length_cons] at this ⊢
      omega
    · split at hv
      · rename_i q
        obtain ⟨s2, e1, e2⟩ := bnd_inr hv
        have hl : (orF w s).1 < L := by
          rw [or_p]
          exact lt_of_tok (fun z => by rw [z] at q; exact absurd q (by decide))
        exact ts_iv hf n true (hf _ _ _ _ (h.or.av hl) e1) e2
      · cases hv; exact h.or
theorem tk_not {s : PS} (hT : ∀ k, k < L → T k < 256) (h : tkS L T s = -9) : (tk L T s.1).2 = s.1 + 3 ∧ wdIs L T s.1 13 := by
  have e : (tk L T s.1).1.toInt = -9 := by unfold tkS at h; rw [h]; decide
  rcases tk_cases (p := s.1) hT with ⟨-, q⟩ | ⟨-, -, q⟩ | ⟨-, -, q, q2⟩ | ⟨q1, i, hi, hw, q⟩ | ⟨-, -, q⟩ | ⟨-, -, -, -, q⟩ | ⟨-, -, -, k, hk, -, ⟨-, -, q, -⟩ | ⟨-, q, -⟩⟩
  · omega
  · omega
  · rw [q, nI_toInt (by omega)] at e; omega
  · have : i = 8 := by omega
    subst this
    refine ⟨?_, hw⟩
    rw [tk_wrd q1]
    exact hw.1
  · omega
  · omega
  · rw [e] at q
    split at q <;> omega
  · omega
theorem fct_iv (hT : ∀ k, k < L → T k < 256) : ∀ (d k : Nat) (ts : List Bool) (s s1 : PS), Iv L i0 k ts s → fct L T d s = .inr s1 → Iv L i0 (k + 1) (true :: ts) s1
  | 0, k, ts, s, s1, h, hv => by
    unfold fct at hv
    split at hv
    · cases hv
    · exact cmp_iv h hv
  | d + 1, k, ts, s, s1, h, hv => by
    unfold fct at hv
    split at hv
    · rename_i q
      obtain ⟨s2, e1, e2⟩ := bnd_inr hv
      have hl : s.1 < L := lt_of_tok (fun z => by rw [z] at q; exact absurd q (by decide))
      have h3 := (tk_not hT q).1
      have i1 : Iv L i0 (k + 1) ts (avF L T s) := by
        obtain ⟨⟨a1, a2, a3⟩, b⟩ := h
        have g := av_gt (T := T) hl
        have b2 := skF_ge (L := L) (T := T) (p := (tk L T s.1).2)
        have e5 : s.1 + 3 ≤ (avF L T s).1 := by show s.1 + 3 ≤ skF L T (tk L T s.1).2; omega
        exact ⟨⟨g.2, a2, by show s.2.2.1 + (k + 1) ≤ 2 * s.2.1 + (avF L T s).1 / 3; omega⟩, b⟩
      have i2 := fct_iv hT d (k + 1) ts _ _ i1 e1
      have e5 : s1 = emF s2 (-9) := by cases e2; rfl
      rw [e5]
      exact i2.em rfl i2.2.2.2
    · split at hv
      · rename_i q
        obtain ⟨s2, e1, e2⟩ := bnd_inr hv
        obtain ⟨s3, e3, e4⟩ := bnd_inr e1
        have hl : s.1 < L := lt_of_tok (fun z => by rw [z] at q; exact absurd q (by decide))
        have i2 := fct_iv hT d k ts _ _ (h.av hl) e3
        have i3 := ts_iv (k := k + 1) (ts := ts) (fct_iv hT d) 500 false i2 e4
        unfold clsB at e2
        split at e2
        · rename_i q3
          have e5 : s1 = avF L T s2 := by cases e2; rfl
          rw [e5]
          exact i3.av (lt_of_tok (fun z => by rw [z] at q3; exact absurd q3 (by decide)))
        · cases e2
      · exact cmp_iv h hv
theorem tst_iv (hT : ∀ k, k < L → T k < 256) {d : Nat} (h : Iv L i0 k ts s) (hv : tstF L T d s = .inr s1) : Iv L i0 (k + 1) (true :: ts) s1 := by
  obtain ⟨s2, e1, e2⟩ := bnd_inr hv
  exact ts_iv (k := k + 1) (ts := ts) (fct_iv hT d) 500 false (fct_iv hT d k ts _ _ h e1) e2
end
-- the whole text of a rule
noncomputable def ruL (L : Nat) (T : Nat → Nat) : Nat → PS → Nat → (Nat → Nat) → (Nat → Nat) → Nat ⊕ RuleT
  | 0, s, n, sE, tE => .inr (s.2.2.2, s.2.2.1, n, sE, tE)
  | f + 1, s, n, sE, tE => if ¬ tkS L T s = -12 then .inl (flt s.1 0) else if n = 12 then .inl (flt s.1 4) else match sumF L T (avF L T s) with
    | .inl e => .inl e
    | .inr s1 => match (if tkS L T s1 = -13 then tstF L T 10 (avF L T s1) else .inr s1) with
      | .inl e => .inl e
      | .inr s2 => if tkS L T s2 = -29 then .inr (s2.2.2.2, s2.2.2.1, n + 1, upP sE n s1.2.2.1, upP tE n s2.2.2.1) else if tkS L T s2 = -22 then ruL L T f (avF L T s2) (n + 1) (upP sE n s1.2.2.1) (upP tE n s2.2.2.1) else .inl (flt s2.1 0)
/-- what holds between two clauses of a rule -/
def RwF (n len : Nat) (Cf : Nat → Int32) (sE tE : Nat → Nat) : Prop := ∀ i, i < n → rBeg tE i ≤ sE i ∧ sE i ≤ tE i ∧ tE i ≤ len ∧ tyR Cf (sE i - rBeg tE i) (rBeg tE i) [] = some [false] ∧ (sE i = tE i ∨ tyR Cf (tE i - sE i) (sE i) [] = some [true])
theorem rBeg_up {tE : Nat → Nat} {n v i : Nat} (h : i ≤ n) : rBeg (upP tE n v) i = rBeg tE i := by
  unfold rBeg
  by_cases e : i = 0
  · rw [if_pos e, if_pos e]
  · rw [if_neg e, if_neg e, upP_ne (by omega)]
theorem RwF.step {n len : Nat} {Cf : Nat → Int32} {sE tE : Nat → Nat} {L k1 k2 : Nat} {ts : List Bool} {s1 s2 : PS} (h : RwF n len Cf sE tE) (hb : rBeg tE n = len) (i1 : Iv L (len, Cf) k1 [false] s1) (h2 : (s2 = s1) ∨ Iv L (s1.2.2.1, s1.2.2.2) k2 [true] s2) : RwF (n + 1) s2.2.2.1 s2.2.2.2 (upP sE n s1.2.2.1) (upP tE n s2.2.2.1) := by
  have l1 : len ≤ s1.2.2.1 := i1.2.1.1
  have p1 : ∀ j, j < len → s1.2.2.2 j = Cf j := i1.2.1.2
  have l2 : s1.2.2.1 ≤ s2.2.2.1 := h2.elim (fun e => by rw [e]; exact Nat.le_refl _) (fun i2 => i2.2.1.1)
  have p2 : ∀ j, j < s1.2.2.1 → s2.2.2.2 j = s1.2.2.2 j := h2.elim (fun e j _ => by rw [e]) (fun i2 => i2.2.1.2)
  intro i hi
  rw [rBeg_up (by omega)]
  by_cases e : i = n
  · subst e
    rw [upP_same, upP_same, hb]
    refine ⟨l1, l2, Nat.le_refl _, ?_, ?_⟩
    · rw [tyR_cg (h := s1.2.2.2) _ _ _ (fun j h1 h2 => p2 j (by omega))]
      exact i1.2.2.1
    · rcases h2 with h2 | i2
      · left; rw [h2]
      · right; exact i2.2.2.1
  · obtain ⟨a1, a2, a3, a4, a5⟩ := h i (by omega)
    rw [upP_ne e, upP_ne e]
    have pp : ∀ j, j < len → s2.2.2.2 j = Cf j := fun j hj => (p2 j (by omega)).trans (p1 j hj)
    refine ⟨a1, a2, by omega, ?_, ?_⟩
    · rw [tyR_cg (h := Cf) _ _ _ (fun j h1 h2 => pp j (by omega))]; exact a4
    · rcases a5 with a5 | a5
      · exact Or.inl a5
      · right; rw [tyR_cg (h := Cf) _ _ _ (fun j h1 h2 => pp j (by omega))]; exact a5
/-- a clause's beginning -/
theorem Iv.fresh {L k : Nat} {i0 : Nat × (Nat → Int32)} {ts : List Bool} {s : PS} (h : Iv L i0 k ts s) : Iv L (s.2.2.1, s.2.2.2) 0 [] s := ⟨⟨h.1.1, h.1.2.1, by have := h.1.2.2; omega⟩, ⟨Nat.le_refl _, fun _ _ => rfl⟩, by show tyR s.2.2.2 (s.2.2.1 - s.2.2.1) s.2.2.1 [] = some []; rw [Nat.sub_self]; rfl, Nat.zero_le _⟩
theorem ruL_ok {L : Nat} {T : Nat → Nat} (hL : L ≤ 400) (hT : ∀ k, k < L → T k < 256) : ∀ (f : Nat) {s : PS} {n : Nat} {sE tE : Nat → Nat}, n + f = 13 → 0 < f → Iv L (s.2.2.1, s.2.2.2) 0 [] s → RwF n s.2.2.1 s.2.2.2 sE tE → rBeg tE n = s.2.2.1 → (∀ e, ruL L T f s n sE tE = .inl e → 0 < e ∧ e < 4000) ∧ ∀ r, ruL L T f s n sE tE = .inr r → RuleWF r ∧ 0 < r.2.2.1
  | 0, _, _, _, _, _, h0, _, _, _ => absurd h0 (by decide)
  | f + 1, s, n, sE, tE, hn, _, hI, hW, hB => by
    have hp := hI.1.1
    have bad : ∀ p c, p ≤ L → c ≤ 5 → 0 < flt p c ∧ flt p c < 4000 := fun p c h1 h2 => flt_b (by omega) h2
    unfold ruL
    by_cases q : tkS L T s = -12
    · rw [if_neg (fun z => z q)]
      by_cases q2 : n = 12
      · rw [if_pos q2]
        exact ⟨fun e h => (by cases h; exact bad _ _ hp (by decide)), fun r h => (by cases h)⟩
      · rw [if_neg q2]
        have hl : s.1 < L := lt_of_tok (fun z => by rw [z] at q; exact absurd q (by decide))
        have a := av_gt (T := T) hl
        have g1 := sum_gd (T := T) hL a.2
        cases h1 : sumF L T (avF L T s) with
        | inl e1 => exact ⟨fun e h => (by cases h; exact g1.1 _ h1), fun r h => (by cases h)⟩
        | inr s1 =>
          have b1 := g1.2 s1 h1
          have i1 : Iv L (s.2.2.1, s.2.2.2) 1 [false] s1 := sum_iv (hI.av hl) h1
          have body : ∀ r2 : Rs, (∀ e, r2 = .inl e → 0 < e ∧ e < 4000) → (∀ s2, r2 = .inr s2 → s2.1 ≤ L ∧ Iv L (s2.2.2.1, s2.2.2.2) 0 [] s2 ∧ RwF (n + 1) s2.2.2.1 s2.2.2.2 (upP sE n s1.2.2.1) (upP tE n s2.2.2.1)) → (∀ e, (match r2 with
              | .inl e => (.inl e : Nat ⊕ RuleT)
              | .inr s2 => if tkS L T s2 = -29 then .inr (s2.2.2.2, s2.2.2.1, n + 1, upP sE n s1.2.2.1, upP tE n s2.2.2.1) else if tkS L T s2 = -22 then ruL L T f (avF L T s2) (n + 1) (upP sE n s1.2.2.1) (upP tE n s2.2.2.1) else .inl (flt s2.1 0)) = .inl e → 0 < e ∧ e < 4000) ∧ ∀ r, (match r2 with
              | .inl e => (.inl e : Nat ⊕ RuleT)
              | .inr s2 => if tkS L T s2 = -29 then .inr (s2.2.2.2, s2.2.2.1, n + 1, upP sE n s1.2.2.1, upP tE n s2.2.2.1) else if tkS L T s2 = -22 then ruL L T f (avF L T s2) (n + 1) (upP sE n s1.2.2.1) (upP tE n s2.2.2.1) else .inl (flt s2.1 0)) = .inr r → RuleWF r ∧ 0 < r.2.2.1 := by
            intro r2 hb hk
            cases r2 with
            | inl e2 => exact ⟨fun e h => (by cases h; exact hb _ rfl), fun r h => (by cases h)⟩
            | inr s2 =>
              obtain ⟨c1, c2, c3⟩ := hk s2 rfl
              dsimp only
              by_cases t29 : tkS L T s2 = -29
              · rw [if_pos t29]
                refine ⟨fun e h => (by cases h), fun r h => ?_⟩
                have er : r = (s2.2.2.2, s2.2.2.1, n + 1, upP sE n s1.2.2.1, upP tE n s2.2.2.1) := by cases h; rfl
                rw [er]
                have l3 := c2.1.2.2
                have l4 := c2.1.2.1
                exact ⟨⟨by show s2.2.2.1 ≤ 300; omega, by show n + 1 ≤ 12; omega, c3⟩, by show 0 < n + 1; omega⟩
              · rw [if_neg t29]
                by_cases t22 : tkS L T s2 = -22
                · rw [if_pos t22]
                  have hl2 : s2.1 < L := lt_of_tok t29
                  exact ruL_ok hL hT f (s := avF L T s2) (by omega) (by omega) (c2.av hl2) c3 (by unfold rBeg; rw [if_neg (by omega), Nat.add_sub_cancel, upP_same]; rfl)
                · rw [if_neg t22]
                  exact ⟨fun e h => (by cases h; exact bad _ _ c1 (by decide)), fun r h => (by cases h)⟩
          dsimp only
          by_cases q3 : tkS L T s1 = -13
          · rw [if_pos q3]
            have hl1 : s1.1 < L := lt_of_tok (fun z => by rw [z] at q3; exact absurd q3 (by decide))
            have a1 := av_gt (T := T) hl1
            have g2 := tst_gd (T := T) hL (d := 10) a1.2
            refine body _ g2.1 (fun s2 h2 => ?_)
            have i2 : Iv L (s1.2.2.1, s1.2.2.2) 1 [true] s2 := tst_iv hT (i1.fresh.av hl1) h2
            exact ⟨(g2.2 s2 h2).2, i2.fresh, hW.step (L := L) (ts := []) hB i1 (Or.inr i2)⟩
          · rw [if_neg q3]
            refine body (.inr s1) (fun e h => (by cases h)) (fun s2 h2 => ?_)
            have e2 : s2 = s1 := by cases h2; rfl
            rw [e2]
            exact ⟨b1.2, i1.fresh, hW.step (L := L) (k2 := 0) (ts := []) hB i1 (Or.inl rfl)⟩
    · rw [if_pos q]
      exact ⟨fun e h => (by cases h; exact bad _ _ hp (by decide)), fun r h => (by cases h)⟩
def ps0 (p : Nat) : PS := (p, 0, 0, fun _ => 0)
theorem ps0_iv {L p : Nat} (h : p ≤ L) : Iv L (0, fun _ => 0) 0 [] (ps0 p) := ⟨⟨h, Nat.zero_le _, Nat.zero_le _⟩, ⟨Nat.le_refl _, fun _ _ => rfl⟩, rfl, Nat.le_refl _⟩
