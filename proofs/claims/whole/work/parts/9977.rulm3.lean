-- a rule's text: the reference, its tests
def dpt : List Nat → Nat
  | [] => 0
  | a :: r => dpt r + (if a = 9 ∨ a = 12 then 1 else 0)
def pkS : List Nat → Nat
  | [] => 0
  | a :: r => pkS r + (if a = 12 then 0 else 1)
def tlS : List Nat → List Bool
  | [] => []
  | a :: r => if a = 10 ∨ a = 11 then true :: tlS r else tlS r
def hoT (f : Nat → Int32) : List Nat → Prop
  | [] => True
  | a :: r => f r.length = nI a ∧ hoT f r
/-- what may lie upon what -/
def wfS : List Nat → Prop
  | [] => True
  | a :: r => wfS r ∧ (a = 9 ∨ a = 12 ∨ (a = 10 ∧ (r = [] ∨ ∃ b r', r = b :: r' ∧ (b = 11 ∨ b = 12))) ∨ (a = 11 ∧ (r = [] ∨ ∃ r', r = 12 :: r')))
noncomputable def dnP (L : Nat) (T : Nat → Nat) : List Nat → (PS → Rs) × (PS → Rs)
  | [] => (fun s => tsL L T (fct L T 10) 500 false s, fun s => .inr s)
  | a :: r => if a = 9 then (fun s => (dnP L T r).1 (emF s (-9)), fun s => .inr s) else if a = 10 then (fun s => (dnP L T r).1 (emF s (-10)), fun s => .inr s) else if a = 11 then (fun s => bnd (tsL L T (fct L T (10 - dpt r)) 500 true s) (dnP L T r).2, fun s => .inr s) else (fun s => bnd (bnd (tsL L T (fct L T (10 - dpt (a :: r))) 500 false s) (clsB L T)) (dnP L T r).1, fun s => bnd (clsB L T s) (dnP L T r).1)
noncomputable def dn (L : Nat) (T : Nat → Nat) (stk : List Nat) (s : PS) : Rs := (dnP L T stk).1 s
noncomputable def wn (L : Nat) (T : Nat → Nat) (stk : List Nat) (s : PS) : Rs := bnd (fct L T (10 - dpt stk) s) (dn L T stk)
theorem bnd_as (r : Rs) (f h : PS → Rs) : bnd (bnd r f) h = bnd r (fun s => bnd (f s) h) := by cases r <;> rfl
theorem bnd_rt (r : Rs) : bnd r (fun s => .inr s) = r := by cases r <;> rfl
section
variable {L : Nat} {T : Nat → Nat}
theorem dn_9 {r : List Nat} {s : PS} : dn L T (9 :: r) s = dn L T r (emF s (-9)) := rfl
theorem dn_10 {r : List Nat} {s : PS} : dn L T (10 :: r) s = dn L T r (emF s (-10)) := rfl
theorem dn_11 {r : List Nat} {s : PS} : dn L T (11 :: r) s = bnd (tsL L T (fct L T (10 - dpt r)) 500 true s) (dnP L T r).2 := rfl
theorem dn_12 {r : List Nat} {s : PS} : dn L T (12 :: r) s = bnd (bnd (tsL L T (fct L T (10 - dpt (12 :: r))) 500 false s) (clsB L T)) (dn L T r) := rfl
/-- one step of a test's row -/
theorem ts_one (hL : L ≤ 400) {d : Nat} {w : Bool} {s : PS} (hp : s.1 ≤ L) : tsL L T (fct L T d) 500 w s = if tkS L T s = -10 then bnd (fct L T d (avF L T s)) (fun s1 => tsL L T (fct L T d) 500 w (emF s1 (-10))) else if tkS L T s = -11 then bnd (fct L T d (avF L T (orF w s))) (fun s1 => tsL L T (fct L T d) 500 true s1) else .inr (orF w s) := by
  rw [ts_fuel (fct_gd hL d) 500 501 w s hp (by omega) (by omega)]
  show (if tkS L T s = -10 then bnd (fct L T d (avF L T s)) (fun s1 => tsL L T (fct L T d) 500 w (emF s1 (-10))) else if tkS L T s = -11 then bnd (fct L T d (avF L T (orF w s))) (fun s1 => tsL L T (fct L T d) 500 true s1) else .inr (orF w s)) = _
  rfl
/-- the top, if no not and no and lies there -/
def topO (stk : List Nat) : Prop := stk = [] ∨ ∃ b r, stk = b :: r ∧ (b = 11 ∨ b = 12)
theorem dn_and (hL : L ≤ 400) {stk : List Nat} {s : PS} (hp : s.1 ≤ L) (ht : topO stk) (h : tkS L T s = -10) : dn L T stk s = wn L T (10 :: stk) (avF L T s) := by
  have d10 : dpt (10 :: stk) = dpt stk := rfl
  unfold wn
  rw [d10]
  rcases ht with rfl | ⟨b, r, rfl, rfl | rfl⟩
  · show tsL L T (fct L T 10) 500 false s = _
    rw [ts_one hL hp, if_pos h]; rfl
  · rw [dn_11, ts_one hL hp, if_pos h, bnd_as]; rfl
  · rw [dn_12, ts_one hL hp, if_pos h, bnd_as, bnd_as]
    congr 1
    funext s1
    rw [dn_10, dn_12, bnd_as]
theorem dn_or0 (hL : L ≤ 400) {stk : List Nat} {s : PS} (hp : s.1 ≤ L) (ht : stk = [] ∨ ∃ r, stk = 12 :: r) (h : tkS L T s = -11) : dn L T stk s = wn L T (11 :: stk) (avF L T s) := by
  have d11 : dpt (11 :: stk) = dpt stk := rfl
  have n10 : ¬ tkS L T s = -10 := by rw [h]; decide
  unfold wn
  rw [d11]
  rcases ht with rfl | ⟨r, rfl⟩
  · show tsL L T (fct L T 10) 500 false s = bnd _ (fun s1 => dn L T [11] s1)
    rw [ts_one hL hp, if_neg n10, if_pos h]
    congr 1
    funext s1
    rw [dn_11]
    exact (bnd_rt _).symm
  · rw [dn_12, ts_one hL hp, if_neg n10, if_pos h, bnd_as, bnd_as]
    rfl
theorem dn_or1 (hL : L ≤ 400) {r : List Nat} {s : PS} (hp : s.1 ≤ L) (h : tkS L T s = -11) : dn L T (11 :: r) s = wn L T (11 :: r) (avF L T (emF s (-11))) := by
  have d11 : dpt (11 :: r) = dpt r := rfl
  have n10 : ¬ tkS L T s = -10 := by rw [h]; decide
  unfold wn
  rw [d11, dn_11, ts_one hL hp, if_neg n10, if_pos h, bnd_as]
  rfl
theorem dn_no (hL : L ≤ 400) {d : Nat} {w : Bool} {s : PS} (hp : s.1 ≤ L) (h1 : ¬ tkS L T s = -10) (h2 : ¬ tkS L T s = -11) : tsL L T (fct L T d) 500 w s = .inr (orF w s) := by
  rw [ts_one hL hp, if_neg h1, if_neg h2]
theorem wn_not {stk : List Nat} {s : PS} (hd : dpt stk < 10) (h : tkS L T s = -9) : wn L T stk s = wn L T (9 :: stk) (avF L T s) := by
  have d9 : dpt (9 :: stk) = dpt stk + 1 := rfl
  obtain ⟨d, e⟩ : ∃ d, 10 - dpt stk = d + 1 := ⟨10 - dpt stk - 1, by omega⟩
  unfold wn
  rw [d9, e, show 10 - (dpt stk + 1) = d by omega]
  show bnd (if tkS L T s = -9 then bnd (fct L T d (avF L T s)) (fun s1 => .inr (emF s1 (-9))) else _) _ = _
  rw [if_pos h, bnd_as]
  rfl
theorem wn_br {stk : List Nat} {s : PS} (hd : dpt stk < 10) (h : tkS L T s = -23) : wn L T stk s = wn L T (12 :: stk) (avF L T s) := by
  have d12 : dpt (12 :: stk) = dpt stk + 1 := rfl
  obtain ⟨d, e⟩ : ∃ d, 10 - dpt stk = d + 1 := ⟨10 - dpt stk - 1, by omega⟩
  unfold wn
  rw [d12, e, show 10 - (dpt stk + 1) = d by omega]
  show bnd (if tkS L T s = -9 then _ else if tkS L T s = -23 then bnd (bnd (fct L T d (avF L T s)) (tsL L T (fct L T d) 500 false)) (clsB L T) else _) _ = _
  rw [if_neg (by rw [h]; decide), if_pos h, bnd_as, bnd_as]
  congr 1
  funext s1
  rw [dn_12, d12, show 10 - (dpt stk + 1) = d by omega, bnd_as]
theorem wn_deep {stk : List Nat} {s : PS} (hd : dpt stk = 10) (h : tkS L T s = -9 ∨ tkS L T s = -23) : wn L T stk s = .inl (flt s.1 2) := by
  unfold wn
  rw [show 10 - dpt stk = 0 by omega]
  show bnd (if tkS L T s = -9 ∨ tkS L T s = -23 then .inl (flt s.1 2) else _) _ = _
  rw [if_pos h]; rfl
theorem wn_cmp {stk : List Nat} {s : PS} (h1 : ¬ tkS L T s = -9) (h2 : ¬ tkS L T s = -23) : wn L T stk s = bnd (cmpF L T s) (dn L T stk) := by
  have : ∀ d, fct L T d s = cmpF L T s := by
    intro d
    cases d with
    | zero => show (if tkS L T s = -9 ∨ tkS L T s = -23 then _ else _) = _; rw [if_neg (fun z => z.elim h1 h2)]
    | succ d => show (if tkS L T s = -9 then _ else if tkS L T s = -23 then _ else _) = _; rw [if_neg h1, if_neg h2]
  unfold wn
  rw [this]
end
section
variable {L sl q : Nat} {T : Nat → Nat} {g : Gx} {σ : St} {s : PS} {stk : List Nat}
def StK (σ : St) (stk : List Nat) : Prop := fi σ 151 19 = nI stk.length ∧ hoT (ai σ 169) stk ∧ fi σ 151 17 = nI (dpt stk) ∧ dpt stk ≤ 10 ∧ stk.length ≤ 400 ∧ wfS stk
theorem hoT_cg {f h : Nat → Int32} : ∀ {stk : List Nat} {n : Nat}, stk.length ≤ n → (∀ j, j < n → h j = f j) → hoT f stk → hoT h stk
  | [], _, _, _, _ => trivial
  | a :: r, n, hn, hh, hs => by
    simp only [List.length_cons] at hn
    exact ⟨(hh _ (by omega)).trans hs.1, hoT_cg (n := n) (by omega) hh hs.2⟩
theorem wf_mem : ∀ {stk : List Nat}, wfS stk → ∀ a r, stk = a :: r → a < 13 := by
  intro stk h a r e
  subst e
  rcases h.2 with h | h | h | h <;> omega
theorem k_BM_top {Q : Int32 → St → Prop} (hs : StK σ stk) (h0 : stk = [] → Q (-1) σ) (h1 : ∀ a r, stk = a :: r → Q (nI a) σ) : K_BM_top g σ Q := by
  obtain ⟨a1, a2, a3, a4, a5, a6⟩ := hs
  refine ko_BM_top (sg_BM_top_0 ?_)
  rw [a1]
  cases stk with
  | nil => exact ⟨fun c => absurd rfl c, fun _ => h0 rfl⟩
  | cons a r =>
    simp only [List.length_cons] at a1 a5 ⊢
    refine ⟨fun _ => ?_, fun c => absurd c (nI_ne0 (by omega) (by omega))⟩
    rw [nI_m1 (by omega), Nat.add_sub_cancel, nI_clamp (by omega), a2.1]
    exact ⟨vp_in_nI (by omega) (by decide), h1 a r rfl⟩
/-- all of one kind are taken off -/
def apop (x : Nat) (c : Int32) : List Nat → PS → List Nat × PS
  | [], s => ([], s)
  | a :: r, s => if a = x then apop x c r (emF s c) else (a :: r, s)
def FrT (sl : Nat) (σ τ : St) : Prop := fr [(151, 12), (151, 13), (151, 16), (151, 17), (151, 18), (151, 19)] [163, 164, 169] σ τ ∧ ∀ k, k < 300 * sl → ai τ 163 k = ai σ 163 k ∧ ai τ 164 k = ai σ 164 k
theorem FrT.rf : FrT sl σ σ := ⟨fr.rf, fun _ _ => ⟨rfl, rfl⟩⟩
theorem FrT.tr {τ υ : St} (h1 : FrT sl σ τ) (h2 : FrT sl τ υ) : FrT sl σ υ := ⟨h1.1.tr h2.1, fun k hk => ⟨(h2.2 k hk).1.trans (h1.2 k hk).1, (h2.2 k hk).2.trans (h1.2 k hk).2⟩⟩
theorem FrM.t {τ : St} (h : FrM sl σ τ) : FrT sl σ τ := ⟨h.1.mo (by decide) (by decide), h.2⟩
theorem FrT.of {τ : St} (h : fr [(151, 12), (151, 17), (151, 19)] [169] σ τ) : FrT sl σ τ := ⟨h.mo (by decide) (by decide), fun k _ => by rw [(h.2 163 (by decide)).1, (h.2 164 (by decide)).1]; exact ⟨rfl, rfl⟩⟩
theorem FxM.frT {τ : St} {f f' : Nat} (h : FxM σ L T f) (hf : FrT sl σ τ) (hF : FlM τ f') : FxM τ L T f' := ⟨h.1.frm hf.1 (by decide) (by decide), by rw [(hf.1.1 151 20 (by decide)).1]; exact h.2.1, hF⟩
theorem StK.frM {τ : St} (h : StK σ stk) (hf : FrM sl σ τ) : StK τ stk := by
  unfold StK
  rw [(hf.1.1 151 19 (by decide)).1, (hf.1.1 151 17 (by decide)).1, (hf.1.2 169 (by decide)).1]; exact h
theorem RpM.frT {τ : St} (h : RpM σ L T sl q s) (hf : fr [(151, 17), (151, 19)] [169] σ τ) : RpM τ L T sl q s := by
  obtain ⟨hx, a, h3, h4, h5, h6, h7, h8⟩ := h
  refine ⟨hx.frm hf (by decide) (by decide), ?_, ?_, ?_, ?_, ?_, ?_, ?_⟩
  · rw [(hf.1 151 12 (by decide)).1]; exact a
  · rw [(hf.1 151 13 (by decide)).1]; exact h3
  · rw [(hf.1 151 14 (by decide)).1]; exact h4
  · rw [(hf.1 151 18 (by decide)).1]; exact h5
  · rw [(hf.1 151 16 (by decide)).1]; exact h6
  · rw [(hf.1 151 20 (by decide)).1]; exact h7
  · rw [(hf.2 163 (by decide)).1, (hf.2 164 (by decide)).1]; exact h8
theorem k_BM_answersL {Q : St → Prop} {x : Nat} {c : Int32} (hx : (x = 9 ∧ c = -9) ∨ (x = 10 ∧ c = -10) ∨ (x = 11 ∧ c = -11)) {i0 : Nat × (Nat → Int32)} (hL : L ≤ 400) : ∀ (stk : List Nat) (s : PS) (σ : St), RpM σ L T sl q s → StK σ stk → Iv L i0 (pkS stk + 1) (true :: tlS stk) s → (∀ τ, FrT sl σ τ → RpM τ L T sl q (apop x c stk s).2 → StK τ (apop x c stk s).1 → Iv L i0 (pkS (apop x c stk s).1 + 1) (true :: tlS (apop x c stk s).1) (apop x c stk s).2 → Q τ) → S_BM_answers_0 g Q σ (nI x) := by
  have hx9 : x < 13 := by omega
  intro stk
  induction stk with
  | nil =>
    intro s σ hr hs hI hQ
    exact sg_BM_answers_0 (k_BM_top hs (fun _ => ⟨fun _ => hQ σ FrT.rf hr hs hI, fun e => absurd e (m1_ne (by omega))⟩) (fun a r e => by cases e))
  | cons a r ih =>
    intro s σ hr hs hI hQ
    have a13 := wf_mem hs.2.2.2.2.2 a r rfl
    refine sg_BM_answers_0 (k_BM_top hs (fun e => by cases e) (fun a' r' e => ?_))
    cases e
    by_cases ea : a = x
    · unfold apop at hQ
      rw [if_pos ea] at hQ
      refine ⟨fun z => absurd (by rw [ea]) z, fun _ => ⟨fun z => absurd hr.2.2.1 z, fun _ => ?_⟩⟩
      have l3 := hI.l390 hL
      have ct : c < -8 ∧ nI x = opM c := by rcases hx with ⟨rfl, rfl⟩ | ⟨rfl, rfl⟩ | ⟨rfl, rfl⟩ <;> decide
      refine k_BM_entry (x := c) hr (by omega) (Or.inr (Or.inr ct)) (fun τ f1 r1 => ?_)
      obtain ⟨a1, a2, a3, a4, a5, a6⟩ := hs.frM f1
      simp only [List.length_cons] at a1 a5
      have iv : Iv L i0 (pkS r + 1) (true :: tlS r) (emF s c) := by
        subst ea
        have hl := hI.2.2.2
        rcases hx with ⟨e, rfl⟩ | ⟨e, rfl⟩ | ⟨e, rfl⟩ <;> subst e
        · exact Iv.em (k := pkS r + 1) (ts := true :: tlS r) hI rfl hl
        · exact Iv.em (k := pkS r + 1) (ts := true :: true :: tlS r) hI rfl (by have hl : (true :: true :: tlS r).length ≤ s.2.1 := hl; simp only [List.length_cons] at hl ⊢; omega)
        · exact Iv.em (k := pkS r + 1) (ts := true :: true :: tlS r) hI rfl (by have hl : (true :: true :: tlS r).length ≤ s.2.1 := hl; simp only [List.length_cons] at hl ⊢; omega)
      have go : ∀ s5, fr [(151, 17), (151, 19)] [169] τ s5 → fi s5 151 19 = nI r.length → ai s5 169 = ai τ 169 → fi s5 151 17 = nI (dpt r) → S_BM_answers_0 g Q s5 (nI x) := by
        intro s5 f5 e19 e169 e17
        refine ih (emF s c) s5 (r1.frT f5) ⟨e19, by rw [e169]; exact a2.2, e17, ?_, by omega, a6.1⟩ iv (fun τ6 f6 => hQ τ6 (f1.t.tr ((FrT.of (f5.mo (by decide) (by decide))).tr f6)))
        have : dpt (a :: r) = dpt r + (if a = 9 ∨ a = 12 then 1 else 0) := rfl
        omega
      rintro s4 e4
      rw [a1, nI_m1 (by omega), Nat.add_sub_cancel] at e4
      have e17 : fi s4 151 17 = nI (dpt (a :: r)) := by rw [e4]; exact a3
      have dd : dpt (a :: r) = dpt r + (if a = 9 ∨ a = 12 then 1 else 0) := rfl
      refine ⟨fun z => ?_, fun z => ?_⟩
      · rintro s5 e5
        have nx : ¬ (a = 9 ∨ a = 12) := fun w => by
          have : x ≠ 9 := fun y => z (by rw [y]; rfl)
          omega
        rw [if_neg nx] at dd
        rw [e17, dd, Nat.add_zero, Int32.sub_zero] at e5
        refine go s5 ?_ ?_ ?_ ?_
        · rw [e5, e4]; exact (fr_sfi (by decide)).tr (fr_sfi (by decide))
        · rw [e5, e4]; rfl
        · rw [e5, e4]; rfl
        · rw [e5]; rfl
      · rintro s5 e5
        have x9 : a = 9 := by rw [ea]; exact (nI_eq (b := 9) (by omega) (by decide)).mp z
        rw [if_pos (Or.inl x9)] at dd
        rw [e17, dd, nI_m1 (by omega), Nat.add_sub_cancel] at e5
        refine go s5 ?_ ?_ ?_ ?_
        · rw [e5, e4]; exact (fr_sfi (by decide)).tr (fr_sfi (by decide))
        · rw [e5, e4]; rfl
        · rw [e5, e4]; rfl
        · rw [e5]; rfl
    · unfold apop at hQ
      rw [if_neg ea] at hQ
      exact ⟨fun _ => hQ σ FrT.rf hr hs hI, fun z => absurd ((nI_eq (by omega) (by omega)).mp z) ea⟩
theorem apop_p {x : Nat} {c : Int32} : ∀ {stk : List Nat} {s : PS}, (apop x c stk s).2.1 = s.1
  | [], _ => rfl
  | a :: r, s => by
    unfold apop
    split
    · rw [apop_p]; rfl
    · rfl
theorem apop_dn9 : ∀ {stk : List Nat} {s : PS}, dn L T (apop 9 (-9) stk s).1 (apop 9 (-9) stk s).2 = dn L T stk s
  | [], _ => rfl
  | a :: r, s => by
    unfold apop
    split
    · rename_i e; rw [apop_dn9, e]; rfl
    · rfl
theorem apop_dn10 : ∀ {stk : List Nat} {s : PS}, dn L T (apop 10 (-10) stk s).1 (apop 10 (-10) stk s).2 = dn L T stk s
  | [], _ => rfl
  | a :: r, s => by
    unfold apop
    split
    · rename_i e; rw [apop_dn10, e]; rfl
    · rfl
theorem apop_9 : ∀ {stk : List Nat} {s : PS} {r : List Nat}, (apop 9 (-9) stk s).1 ≠ 9 :: r
  | [], _, _ => by unfold apop; intro h; cases h
  | a :: r', s, r => by
    unfold apop
    split
    · exact apop_9
    · rename_i e; intro h; cases h; exact e rfl
theorem apop_le {x : Nat} {c : Int32} : ∀ {stk : List Nat} {s : PS}, (apop x c stk s).1.length ≤ stk.length
  | [], _ => Nat.le_refl _
  | a :: r, s => by
    unfold apop
    split
    · have := apop_le (x := x) (c := c) (stk := r) (s := emF s c); simp only [List.length_cons]; omega
    · exact Nat.le_refl _
theorem apop_10 {stk : List Nat} {s : PS} (hw : wfS stk) (h9 : ∀ r, stk ≠ 9 :: r) : topO (apop 10 (-10) stk s).1 := by
  cases stk with
  | nil => exact Or.inl rfl
  | cons a r =>
    rcases hw.2 with e | e | ⟨e, h⟩ | ⟨e, h⟩
    · exact absurd (by rw [e]) (h9 r)
    · subst e; exact Or.inr ⟨12, r, rfl, Or.inr rfl⟩
    · subst e
      show topO (apop 10 (-10) r (emF s (-10))).1
      rcases h with rfl | ⟨b, r', rfl, hb⟩
      · exact Or.inl rfl
      · have : b ≠ 10 := by omega
        unfold apop
        rw [if_neg this]
        exact Or.inr ⟨b, r', rfl, hb⟩
    · subst e; exact Or.inr ⟨11, r, rfl, Or.inl rfl⟩
theorem apop_11 {stk : List Nat} {s : PS} (hw : wfS stk) (ht : topO stk) : ((∃ r, stk = 11 :: r ∧ apop 11 (-11) stk s = (r, emF s (-11)) ∧ (r = [] ∨ ∃ r', r = 12 :: r')) ∨ (apop 11 (-11) stk s = (stk, s) ∧ (stk = [] ∨ ∃ r, stk = 12 :: r))) := by
  rcases ht with rfl | ⟨b, r, rfl, rfl | rfl⟩
  · exact Or.inr ⟨rfl, Or.inl rfl⟩
  · left
    have hr : r = [] ∨ ∃ r', r = 12 :: r' := by
      rcases hw.2 with e | e | ⟨e, -⟩ | ⟨-, h⟩
      · exact absurd e (by decide)
      · exact absurd e (by decide)
      · exact absurd e (by decide)
      · exact h
    refine ⟨r, rfl, ?_, hr⟩
    show apop 11 (-11) r (emF s (-11)) = (r, emF s (-11))
    rcases hr with rfl | ⟨r', rfl⟩ <;> rfl
  · exact Or.inr ⟨rfl, Or.inr ⟨r, rfl⟩⟩
/-- a frame is laid on -/
theorem k_push {Q : St → Prop} {k : Nat} (hr : RpM σ L T sl q s) (hs : StK σ stk) (hlen : stk.length < 400) (hw : wfS (k :: stk)) {τ0 : St} (f0 : fr [(151, 17)] [] σ τ0) (h17 : fi τ0 151 17 = nI (dpt (k :: stk))) (hd : dpt (k :: stk) ≤ 10) (hQ : ∀ τ, FrT sl σ τ → RpM τ L T sl q s → StK τ (k :: stk) → Q τ) : vp_in (fi τ0 151 19) 402 ∧ (∀ s2, s2 = sai τ0 169 (fi τ0 151 19).toNatClampNeg (nI k) → ∀ s3, s3 = sfi s2 151 19 (fi s2 151 19 + 1) → Q s3) := by
  obtain ⟨a1, a2, a3, a4, a5, a6⟩ := hs
  have e19 : fi τ0 151 19 = nI stk.length := by rw [(f0.1 151 19 (by decide)).1]; exact a1
  rw [e19]
  refine ⟨vp_in_nI (by omega) (by decide), ?_⟩
  rw [nI_clamp (by omega)]
  rintro s2 e2 s3 e3
  have b19 : fi s2 151 19 = nI stk.length := by rw [e2]; exact e19
  rw [b19, nI_1] at e3
  have f3 : fr [(151, 17), (151, 19)] [169] σ s3 := by rw [e3, e2]; exact (f0.mo (by decide) (by simp)).tr ((fr_sai (by decide)).tr (fr_sfi (by decide)))
  have r169 : ∀ j, ai s3 169 j = if j = stk.length then nI k else ai σ 169 j := by
    intro j
    rw [e3, ai_sfi, e2, ai_sai, (f0.2 169 (by decide)).1]; simp only [true_and]
  refine hQ s3 (FrT.of (f3.mo (by decide) (by decide))) (hr.frT f3) ⟨by rw [e3]; rfl, ⟨by rw [r169, if_pos rfl], hoT_cg (n := stk.length) (Nat.le_refl _) (fun j hj => by rw [r169, if_neg (by omega)]) a2⟩, by rw [e3, fi_sfi, if_neg (by decide), e2]; exact h17, hd, by simp only [List.length_cons]; omega, hw⟩
theorem k_BM_opensD {Q : St → Prop} {k : Nat} (hk : k = 9 ∨ k = 12) (hr : RpM σ L T sl s.1 s) (hs : StK σ stk) (hlen : stk.length < 400) (hdeep : dpt stk = 10 → ∀ τ, FrT sl σ τ → FxM τ L T (flt s.1 2) → fi τ 151 12 = nI s.1 → Q τ) (hok : dpt stk < 10 → ∀ τ, FrT sl σ τ → RpM τ L T sl s.1 s → StK τ (k :: stk) → Q τ) : K_BM_opens g (nI k) σ Q := by
  obtain ⟨a1, a2, a3, a4, a5, a6⟩ := id hs
  have hL := hr.1.2.1
  have hp := hr.2.1.2.1
  have dd : dpt (k :: stk) = dpt stk + 1 := by
    show dpt stk + (if k = 9 ∨ k = 12 then 1 else 0) = _
    rw [if_pos hk]
  have hw : wfS (k :: stk) := ⟨a6, by rcases hk with h | h <;> omega⟩
  have body : (¬ fi σ 151 17 = 10 → S_BM_opens_30 g Q σ (nI k)) ∧ (fi σ 151 17 = 10 → K_BM_fails g 2 (fi σ 151 12) σ (fun s1 => S_BM_opens_30 g Q s1 (nI k))) := by
    rw [a3]
    refine pk_eq (dpt stk) 10 (fun c => ?_) (fun c => ?_) |>.symm
    · rw [hr.2.1.1]
      refine k_BM_failsF (c := 2) (fun τ hf => ?_)
      obtain ⟨a, b⟩ := hf.of hr.2.2.1 hr.2.1.1 (by omega) (by decide) (by omega)
      have e : τ = sfi σ 151 13 (nI (flt s.1 2)) := hf.elim (fun z => absurd hr.2.2.1 z.1) (fun z => z.2)
      have fx : FxM τ L T (flt s.1 2) := hr.fx (FrM.of b (by decide) (by simp)) a
      refine sg_BM_opens_30 ?_
      rintro s1 e1
      have e19 : fi s1 151 19 = nI stk.length := by rw [e1, e]; exact a1
      rw [e19]
      refine ⟨vp_in_nI (by omega) (by decide), ?_⟩
      rw [nI_clamp (by omega)]
      rintro s2 e2 s3 e3
      have f3 : fr [(151, 12), (151, 17), (151, 19)] [169] τ s3 := by rw [e3, e2, e1]; exact ((fr_sfi (by decide)).tr (fr_sai (by decide))).tr (fr_sfi (by decide))
      have f3' : fr [(151, 17), (151, 19)] [169] τ s3 := by rw [e3, e2, e1]; exact ((fr_sfi (by decide)).tr (fr_sai (by decide))).tr (fr_sfi (by decide))
      refine hdeep c s3 ((FrM.of b (by decide) (by simp)).t.tr (FrT.of f3)) (fx.frT (FrT.of (sl := sl) f3) (a.fr f3' (by decide) (by decide))) ?_
      rw [(f3'.1 151 12 (by decide)).1, e]; exact hr.2.1.1
    · refine sg_BM_opens_30 ?_
      rintro s1 e1
      rw [a3, nI_1] at e1
      have f1 : fr [(151, 17)] [] σ s1 := by rw [e1]; exact fr_sfi (by decide)
      exact k_push hr hs hlen hw f1 (by rw [e1, dd]; rfl) (by omega) (hok (by omega))
  refine ko_BM_opens (sg_BM_opens_0 ?_)
  rcases hk with rfl | rfl
  · exact ⟨fun _ => body, fun z => absurd rfl z⟩
  · exact ⟨fun z => absurd z (by decide), fun _ => ⟨fun z => absurd rfl z, fun _ => body⟩⟩
theorem k_BM_opensA {Q : St → Prop} {k : Nat} (hk : k = 10 ∨ k = 11) (hr : RpM σ L T sl q s) (hs : StK σ stk) (hlen : stk.length < 400) (hw : wfS (k :: stk)) (hok : ∀ τ, FrT sl σ τ → RpM τ L T sl q s → StK τ (k :: stk) → Q τ) : K_BM_opens g (nI k) σ Q := by
  have dd : dpt (k :: stk) = dpt stk := by
    show dpt stk + (if k = 9 ∨ k = 12 then 1 else 0) = _
    rw [if_neg (by omega)]
    rfl
  have body := k_push (Q := Q) hr hs hlen hw (τ0 := σ) fr.rf (by rw [dd]; exact hs.2.2.1) (by rw [dd]; exact hs.2.2.2.1) hok
  refine ko_BM_opens (sg_BM_opens_0 ?_)
  rcases hk with rfl | rfl
  · exact ⟨fun z => absurd z (by decide), fun _ => ⟨fun _ => body, fun z => absurd z (by decide)⟩⟩
  · exact ⟨fun z => absurd z (by decide), fun _ => ⟨fun _ => body, fun z => absurd z (by decide)⟩⟩
theorem k_mono_opens {Q Q' : St → Prop} {k : Nat} (h : K_BM_opens g (nI k) σ Q) (hq : ∀ τ, Q τ → Q' τ) : K_BM_opens g (nI k) σ Q' := KV.mono h hq
theorem test_9F {Q : St → Prop} {f : Nat} {x y : Int32} (h : FxM σ L T f) (hQ : Q σ) : S_BM_test_9 g Q σ x y := sg_BM_test_9 ⟨fun _ => hQ, fun _ => ⟨fun _ => hQ, fun c => absurd c h.2.2.ne⟩⟩
theorem test_run {Q : St → Prop} {i0 : Nat × (Nat → Int32)} : ∀ (D : Nat) (b : Bool) (stk : List Nat) (s : PS) (q : Nat) (σ : St), L - s.1 < D → RpM σ L T sl q s → StK σ stk → stk.length ≤ s.1 → (b = true → Iv L i0 (pkS stk) (tlS stk) s) → (b = false → Iv L i0 (pkS stk + 1) (true :: tlS stk) s) → (∀ e, (if b = true then wn L T stk s else dn L T stk s) = .inl e → ∀ τ, FrT sl σ τ → FxM τ L T e → Q τ) → (∀ s1, (if b = true then wn L T stk s else dn L T stk s) = .inr s1 → ∀ τ q', FrT sl σ τ → RpM τ L T sl q' s1 → fi τ 151 17 = 0 → Q τ) → S_BM_test_9 g Q σ (if b = true then 1 else 0) 1 := by
  intro D
  induction D with
  | zero => intro b stk s q σ h; omega
  | succ D ih =>
    intro b stk s q σ hD hr hs hlen hIt hIf hbad hok
    have hL := hr.1.2.1
    have hT := hr.1.b
    have hp : s.1 ≤ L := by rw [← hr.2.1.2.2]; exact skF_le hr.2.1.2.1
    have a6 := hs.2.2.2.2.2
    refine sg_BM_test_9 ⟨fun c => absurd c (by decide), fun _ => ⟨fun c => absurd hr.2.2.1 c, fun _ => ?_⟩⟩
    cases b with
    | true =>
      have hI := hIt rfl
      rw [if_pos rfl] at hbad hok
      refine ⟨fun c => absurd c (by decide), fun _ => ko_BM_fact (sg_BM_fact_0 (k_BM_blanksR hr (fun r1 => ?_)))⟩
      obtain ⟨σ1, hσ1⟩ : ∃ x, x = sfi σ 151 12 (nI s.1) := ⟨_, rfl⟩
      rw [← hσ1] at r1 ⊢
      have f1 : FrM sl σ σ1 := by rw [hσ1]; exact FrM.s1 (by decide)
      have s1k := hs.frM f1
      have h12 := r1.2.1.1
      have w9 : wdIs L T s.1 13 ↔ tkS L T s = -9 := tk_wd (s := s) hT (i := 8) (by decide)
      have c91 : sgI L T s.1 = 91 ↔ tkS L T s = -23 := sgI_tk hT (k := 9) (by decide) (by decide) (by decide)
      refine k_BM_stood (by decide) r1.1 h12 (by omega) (fun w => ⟨fun c => absurd c (by decide), fun _ => ?_⟩) (fun w => ⟨fun _ => k_BM_sign r1.1 h12 (by omega) ⟨fun c91n => ?_, fun c91y => ?_⟩, fun c => absurd rfl c⟩)
      · have t := w9.mp w
        have hl : s.1 < L := lt_of_tok (by rw [t]; decide)
        have tn := tk_not hT t
        refine k_BM_opensD (k := 9) (Or.inl rfl) r1 s1k (by omega) (fun c τ f2 hx e12 => ?_) (fun c τ f2 r2 s2k => ?_)
        · rintro s10 e10
          rw [e12, show nI s.1 + 3 = nI (s.1 + 3) from nI_add _ 3] at e10
          have f3 : FrM sl τ s10 := by rw [e10]; exact FrM.s1 (by decide)
          have wl := wdIs_le hp w
          rw [show slen.getD 13 0 = 3 from by decide] at wl
          have hx3 : FxM s10 L T (flt s.1 2) := by rw [e10]; exact hx.frM (sl := sl) (FrM.s1 (by decide)) (hx.2.2.at (by omega))
          refine ⟨fun z => absurd rfl z, fun _ => test_9F hx3 ?_⟩
          exact hbad _ (wn_deep c (Or.inl t)) s10 (f1.t.tr (f2.tr f3.t)) hx3
        · rintro s10 e10
          rw [r2.2.1.1, show nI s.1 + 3 = nI (s.1 + 3) from nI_add _ 3] at e10
          have f3 : FrM sl τ s10 := by rw [e10]; exact FrM.s1 (by decide)
          have r3 : RpM s10 L T sl (s.1 + 3) (avF L T s) := by rw [e10]; exact r2.to tn.1 hp
          have ag := av_gt (T := T) hl
          have b2 := skF_ge (L := L) (T := T) (p := (tk L T s.1).2)
          have e5 : s.1 + 3 ≤ (avF L T s).1 := by show s.1 + 3 ≤ skF L T (tk L T s.1).2; have := tn.1; omega
          rw [wn_not c t] at hbad hok
          refine ⟨fun z => absurd rfl z, fun _ => ih true (9 :: stk) (avF L T s) _ s10 (by omega) r3 (s2k.frM f3) (by simp only [List.length_cons]; omega) (fun _ => ?_) (fun z => by cases z) (fun e he τ4 f4 hx => hbad e he τ4 (f1.t.tr (f2.tr (f3.t.tr f4))) hx) (fun s4 he τ4 q4 f4 r4 => hok s4 he τ4 q4 (f1.t.tr (f2.tr (f3.t.tr f4))) r4)⟩
          obtain ⟨⟨b1, b3, b4⟩, b5⟩ := hI
          exact ⟨⟨ag.2, b3, by show s.2.2.1 + (pkS stk + 1) ≤ 2 * s.2.1 + (avF L T s).1 / 3; omega⟩, b5⟩
      · have n9 : ¬ tkS L T s = -9 := fun z => w (w9.mpr z)
        have n23 : ¬ tkS L T s = -23 := fun z => c91n (c91.mpr z)
        rw [wn_cmp n9 n23] at hbad hok
        refine k_BM_compared r1 hI (fun e he τ f2 hx => ⟨fun _ => test_9F hx ?_, fun z => absurd z (by decide)⟩) (fun s2 he τ f2 r2 => ⟨fun _ => ?_, fun z => absurd z (by decide)⟩)
        · rw [he] at hbad
          exact hbad e rfl τ (f1.t.tr f2.t) hx
        · rw [he] at hbad hok
          have iv2 := cmp_iv hI he
          have b2 := (cmp_gd (T := T) hL hp).2 s2 he
          exact ih false stk s2 _ τ (by omega) r2 (s1k.frM f2) (by omega) (fun z => by cases z) (fun _ => iv2) (fun e he2 τ4 f4 hx => hbad e he2 τ4 (f1.t.tr (f2.t.tr f4)) hx) (fun s4 he2 τ4 q4 f4 r4 => hok s4 he2 τ4 q4 (f1.t.tr (f2.t.tr f4)) r4)
      · have t := c91.mp c91y
        have hl : s.1 < L := lt_of_tok (by rw [t]; decide)
        have t1 := tk_one hT (k := 9) (by decide) (by decide) (by decide) t
        refine k_BM_opensD (k := 12) (Or.inr rfl) r1 s1k (by omega) (fun c τ f2 hx e12 => ?_) (fun c τ f2 r2 s2k => ?_)
        · rintro s10 e10
          rw [e12, nI_1] at e10
          have f3 : FrM sl τ s10 := by rw [e10]; exact FrM.s1 (by decide)
          have hx3 : FxM s10 L T (flt s.1 2) := by rw [e10]; exact hx.frM (sl := sl) (FrM.s1 (by decide)) (hx.2.2.at (by omega))
          refine ⟨fun z => absurd rfl z, fun _ => test_9F hx3 ?_⟩
          exact hbad _ (wn_deep c (Or.inr t)) s10 (f1.t.tr (f2.tr f3.t)) hx3
        · rintro s10 e10
          rw [r2.2.1.1, nI_1] at e10
          have f3 : FrM sl τ s10 := by rw [e10]; exact FrM.s1 (by decide)
          have r3 : RpM s10 L T sl (s.1 + 1) (avF L T s) := by rw [e10]; exact r2.to t1 hp
          have ag := av_gt (T := T) hl
          rw [wn_br c t] at hbad hok
          exact ⟨fun z => absurd rfl z, fun _ => ih true (12 :: stk) (avF L T s) _ s10 (by omega) r3 (s2k.frM f3) (by simp only [List.length_cons]; omega) (fun _ => hI.av hl) (fun z => by cases z) (fun e he τ4 f4 hx => hbad e he τ4 (f1.t.tr (f2.tr (f3.t.tr f4))) hx) (fun s4 he τ4 q4 f4 r4 => hok s4 he τ4 q4 (f1.t.tr (f2.tr (f3.t.tr f4))) r4)⟩
    | false =>
      have hI := hIf rfl
      rw [if_neg (by decide)] at hbad hok
      refine ⟨fun _ => ?_, fun c => absurd rfl c⟩
      refine ko_BM_answers (k_BM_answersL (x := 9) (c := -9) (Or.inl ⟨rfl, rfl⟩) hL stk s σ hr hs hI (fun τ1 f1 r1 k1 iv1 => ?_))
      have dn1 := apop_dn9 (L := L) (T := T) (stk := stk) (s := s)
      have n9 := fun r => apop_9 (stk := stk) (s := s) (r := r)
      have p1 := apop_p (x := 9) (c := -9) (stk := stk) (s := s)
      have le1 := apop_le (x := 9) (c := -9) (stk := stk) (s := s)
      generalize apop 9 (-9) stk s = P1 at *
      obtain ⟨stk1, s1⟩ := P1
      dsimp only at r1 k1 iv1 dn1 n9 p1 le1
      refine k_BM_blanksR r1 (fun r2 => ?_)
      obtain ⟨σ2, hσ2⟩ : ∃ x, x = sfi τ1 151 12 (nI s1.1) := ⟨_, rfl⟩
      rw [← hσ2] at r2 ⊢
      have f2 : FrM sl τ1 σ2 := by rw [hσ2]; exact FrM.s1 (by decide)
      have k2 := k1.frM f2
      have h12 := r2.2.1.1
      have wA : wdIs L T s1.1 14 ↔ tkS L T s1 = -10 := tk_wd (s := s1) hT (i := 9) (by decide)
      have wO : wdIs L T s1.1 15 ↔ tkS L T s1 = -11 := tk_wd (s := s1) hT (i := 10) (by decide)
      have hp1 : s1.1 ≤ L := by omega
      have main : ∀ a o : Int32, (¬ a = 0 ↔ tkS L T s1 = -10) → (¬ o = 0 ↔ tkS L T s1 = -11) → K_BM_answers g 10 σ2 (fun s7 => (¬ a = 0 → S_BM_test_82 g Q s7 1 a o) ∧ (a = 0 → (o = 0 → K_BM_answers g 11 s7 (fun s8 => K_BM_top g s8 (fun r10 s9 => (¬ r10 = 12 → S_BM_test_9 g Q s9 0 0) ∧ (r10 = 12 → K_BM_sign g s9 (fun r12 s11 => (r12 = 93 → S_BM_test_164 g Q s11 0 1) ∧ (¬ r12 = 93 → K_BM_fails g 0 (fi s11 151 12) s11 (fun s13 => S_BM_test_164 g Q s13 0 1))))))) ∧ (¬ o = 0 → S_BM_test_82 g Q s7 1 a o))) := by
        intro a o ha ho
        refine ko_BM_answers (k_BM_answersL (x := 10) (c := -10) (Or.inr (Or.inl ⟨rfl, rfl⟩)) hL stk1 s1 σ2 r2 k2 iv1 (fun τ3 f3 r3 k3 iv3 => ?_))
        have dn3 := apop_dn10 (L := L) (T := T) (stk := stk1) (s := s1)
        have tp := apop_10 (stk := stk1) (s := s1) k2.2.2.2.2.2 n9
        have p3 := apop_p (x := 10) (c := -10) (stk := stk1) (s := s1)
        have le3 := apop_le (x := 10) (c := -10) (stk := stk1) (s := s1)
        generalize apop 10 (-10) stk1 s1 = P3 at *
        obtain ⟨stk3, s3⟩ := P3
        dsimp only at r3 k3 iv3 dn3 tp p3 le3
        have tk3 : tkS L T s3 = tkS L T s1 := by unfold tkS; rw [p3]
        rw [← tk3] at ha ho
        have hp3 : s3.1 ≤ L := by omega
        have F3 : FrT sl σ τ3 := f1.tr (f2.t.tr f3)
        rw [← dn1, ← dn3] at hbad hok
        have r3 : RpM τ3 L T sl s3.1 s3 := by rw [p3]; exact r3
        -- a further fact is wanted
        have more : ∀ (k : Nat) (stk' : List Nat) (s' : PS) (τ : St) (n : Int32) (m : Nat), (k = 10 ∨ k = 11) → FrT sl σ τ → RpM τ L T sl s'.1 s' → StK τ stk' → wfS (k :: stk') → stk'.length ≤ stk3.length → s'.1 = s3.1 → (tk L T s'.1).2 = s'.1 + m → n = nI m → 1 ≤ m → s'.1 < L → Iv L i0 (pkS stk' + 1) (true :: tlS stk') s' → (∀ e, wn L T (k :: stk') (avF L T s') = .inl e → ∀ τ, FrT sl σ τ → FxM τ L T e → Q τ) → (∀ s1, wn L T (k :: stk') (avF L T s') = .inr s1 → ∀ τ q', FrT sl σ τ → RpM τ L T sl q' s1 → fi τ 151 17 = 0 → Q τ) → K_BM_opens g (nI k) τ (fun t1 => ∀ t2, t2 = sfi t1 151 12 (fi t1 151 12 + n) → S_BM_test_9 g Q t2 1 1) := by
          intro k stk' s' τ n m hk F r' ks hw hle hps tn en hm hl iv hb hq
          refine k_BM_opensA hk r' ks (by omega) hw (fun τ4 f4 r4 k4 => ?_)
          rintro t2 e2
          rw [r4.2.1.1, en, nI_add] at e2
          have f5 : FrM sl τ4 t2 := by rw [e2]; exact FrM.s1 (by decide)
          have r5 : RpM t2 L T sl (s'.1 + m) (avF L T s') := by rw [e2]; exact r4.to tn (by omega)
          have ag := av_gt (T := T) hl
          have iv5 : Iv L i0 (pkS (k :: stk')) (tlS (k :: stk')) (avF L T s') := by
            have e1 : pkS (k :: stk') = pkS stk' + 1 := by rcases hk with rfl | rfl <;> rfl
            have e2 : tlS (k :: stk') = true :: tlS stk' := by rcases hk with rfl | rfl <;> rfl
            rw [e1, e2]; exact iv.av hl
          exact ih true (k :: stk') (avF L T s') _ t2 (by omega) r5 (k4.frM f5) (by simp only [List.length_cons]; omega) (fun _ => iv5) (fun z => by cases z) (fun e he τ6 f6 hx => hb e he τ6 (F.tr (f4.tr (f5.t.tr f6))) hx) (fun s6 he τ6 q6 f6 r6 => hq s6 he τ6 q6 (F.tr (f4.tr (f5.t.tr f6))) r6)
        -- and, or
        have s82 : (tkS L T s3 = -10 ∨ tkS L T s3 = -11) → S_BM_test_82 g Q τ3 1 a o := by
          intro h
          have hl : s3.1 < L := lt_of_tok (by rcases h with h | h <;> rw [h] <;> decide)
          rcases h with h | h
          · have ha1 := ha.mpr h
            have ho0 : o = 0 := Decidable.not_not.mp (fun z => by have := ho.mp z; rw [h] at this; exact absurd this (by decide))
            have tn := (tk_wl hT (i := 9) (by decide) h).1
            rw [dn_and hL hp3 tp h] at hbad hok
            refine sg_BM_test_82 ⟨fun _ => ⟨fun c => absurd c ha1, fun _ => sg_BM_test_105 ?_⟩, fun c => absurd ho0 c⟩
            have := more 10 stk3 s3 τ3 3 3 (Or.inl rfl) F3 r3 k3 ⟨k3.2.2.2.2.2, Or.inr (Or.inr (Or.inl ⟨rfl, tp⟩))⟩ (Nat.le_refl _) rfl (by rw [tn]; rfl) rfl (by decide) hl iv3 hbad hok
            exact k_mono_opens this (fun t ht => ⟨fun c => absurd c ha1, fun _ => ht⟩)
          · have ho1 := ho.mpr h
            have ha0 : a = 0 := Decidable.not_not.mp (fun z => by have := ha.mp z; rw [h] at this; exact absurd this (by decide))
            have tn := (tk_wl hT (i := 10) (by decide) h).1
            refine sg_BM_test_82 ⟨fun c => absurd c ho1, fun _ => ?_⟩
            refine ko_BM_answers (k_BM_answersL (x := 11) (c := -11) (Or.inr (Or.inr ⟨rfl, rfl⟩)) hL stk3 s3 τ3 r3 k3 iv3 (fun τ4 f4 r4 k4 iv4 => ?_))
            refine ⟨fun _ => sg_BM_test_105 ?_, fun c => absurd ha0 c⟩
            rcases apop_11 (s := s3) k3.2.2.2.2.2 tp with ⟨r, e1, e2, hr0⟩ | ⟨e2, hr0⟩
            · rw [e2] at r4 k4 iv4
              dsimp only at r4 k4 iv4
              rw [e1, dn_or1 hL hp3 h] at hbad hok
              have := more 11 r (emF s3 (-11)) τ4 2 2 (Or.inr rfl) (F3.tr f4) r4 k4 ⟨k4.2.2.2.2.2, Or.inr (Or.inr (Or.inr ⟨rfl, hr0⟩))⟩ (by rw [e1]; simp only [List.length_cons]; omega) rfl (by show (tk L T s3.1).2 = s3.1 + 2; rw [tn]; rfl) rfl (by decide) hl iv4 hbad hok
              exact k_mono_opens this (fun t ht => ⟨fun _ => ht, fun c => absurd ha0 c⟩)
            · rw [e2] at r4 k4 iv4
              dsimp only at r4 k4 iv4
              rw [dn_or0 hL hp3 hr0 h] at hbad hok
              have := more 11 stk3 s3 τ4 2 2 (Or.inr rfl) (F3.tr f4) r4 k4 ⟨k4.2.2.2.2.2, Or.inr (Or.inr (Or.inr ⟨rfl, hr0⟩))⟩ (Nat.le_refl _) rfl (by rw [tn]; rfl) rfl (by decide) hl iv4 hbad hok
              exact k_mono_opens this (fun t ht => ⟨fun _ => ht, fun c => absurd ha0 c⟩)
        refine ⟨fun z => s82 (Or.inl (ha.mp z)), fun z => ⟨fun z2 => ?_, fun z2 => s82 (Or.inr (ho.mp z2))⟩⟩
        have nA : ¬ tkS L T s3 = -10 := fun w => (ha.mpr w) z
        have nO : ¬ tkS L T s3 = -11 := fun w => (ho.mpr w) z2
        -- the end of a row: s4 with the or put behind, stack w4 without it
        have close : ∀ (w4 : List Nat) (s4 : PS) (τ4 : St), FrT sl σ τ4 → RpM τ4 L T sl s4.1 s4 → StK τ4 w4 → w4.length ≤ s4.1 → s4.1 = s3.1 → Iv L i0 (pkS w4 + 1) (true :: tlS w4) s4 → (w4 = [] ∨ ∃ r', w4 = 12 :: r') → (∀ e, (if w4 = [] then .inr s4 else bnd (clsB L T s4) (dn L T w4.tail)) = (.inl e : Rs) → ∀ τ, FrT sl σ τ → FxM τ L T e → Q τ) → (∀ s1, (if w4 = [] then .inr s4 else bnd (clsB L T s4) (dn L T w4.tail)) = (.inr s1 : Rs) → ∀ τ q', FrT sl σ τ → RpM τ L T sl q' s1 → fi τ 151 17 = 0 → Q τ) → K_BM_top g τ4 (fun r10 s9 => (¬ r10 = 12 → S_BM_test_9 g Q s9 0 0) ∧ (r10 = 12 → K_BM_sign g s9 (fun r12 s11 => (r12 = 93 → S_BM_test_164 g Q s11 0 1) ∧ (¬ r12 = 93 → K_BM_fails g 0 (fi s11 151 12) s11 (fun s13 => S_BM_test_164 g Q s13 0 1))))) := by
          intro w4 s4 τ4 F4 r4 k4 hl4 hps iv4 hw4 hb hq
          have hp4 : s4.1 ≤ L := by omega
          refine k_BM_top k4 (fun e => ⟨fun _ => ?_, fun c => absurd c (by decide)⟩) (fun a' r' e => ?_)
          · rw [if_pos e] at hq
            exact sg_BM_test_9 ⟨fun _ => hq s4 rfl τ4 _ F4 r4 (by rw [k4.2.2.1, e]; rfl), fun c => absurd rfl c⟩
          · have ha12 : a' = 12 := by
              rcases hw4 with h | ⟨r'', h⟩
              · rw [h] at e; cases e
              · rw [h] at e; cases e; rfl
            subst ha12
            subst e
            rw [if_neg (by simp)] at hb hq
            have hb : ∀ e, bnd (clsB L T s4) (dn L T r') = .inl e → ∀ τ, FrT sl σ τ → FxM τ L T e → Q τ := hb
            have hq : ∀ s1, bnd (clsB L T s4) (dn L T r') = .inr s1 → ∀ τ q', FrT sl σ τ → RpM τ L T sl q' s1 → fi τ 151 17 = 0 → Q τ := hq
            unfold clsB at hb hq
            refine ⟨fun c => absurd rfl c, fun _ => k_BM_sign r4.1 r4.2.1.1 (by omega) ?_⟩
            have c93 : sgI L T s4.1 = 93 ↔ tkS L T s4 = -24 := sgI_tk hT (k := 10) (by decide) (by decide) (by decide)
            obtain ⟨b1, b2, b3, b4, b5, b6⟩ := k4
            simp only [List.length_cons] at b1 b5 hl4
            have dd : dpt (12 :: r') = dpt r' + 1 := rfl
            refine ⟨fun w => ?_, fun w => ?_⟩
            · have t := c93.mp w
              rw [if_pos t] at hb hq
              have hl : s4.1 < L := lt_of_tok (by rw [t]; decide)
              have t1 := tk_one hT (k := 10) (by decide) (by decide) (by decide) t
              have ag := av_gt (T := T) hl
              refine sg_BM_test_164 ?_
              rintro u1 e1 u2 e2 u3 e3
              rw [r4.2.1.1, nI_1] at e1
              have c19 : fi u1 151 19 = nI (r'.length + 1) := by rw [e1]; exact b1
              rw [c19, nI_m1 (by omega), Nat.add_sub_cancel] at e2
              have c17 : fi u2 151 17 = nI (dpt r' + 1) := by rw [e2, e1]; exact b3
              rw [c17, nI_m1 (by omega), Nat.add_sub_cancel] at e3
              have fa : FrM sl τ4 u1 := by rw [e1]; exact FrM.s1 (by decide)
              have ra : RpM u1 L T sl (s4.1 + 1) (avF L T s4) := by rw [e1]; exact r4.to t1 hp4
              have fb : fr [(151, 17), (151, 19)] [169] u1 u3 := by rw [e3, e2]; exact (fr_sfi (by decide)).tr (fr_sfi (by decide))
              have ku : StK u3 r' := ⟨by rw [e3, e2]; rfl, by rw [e3, e2, e1]; exact b2.2, by rw [e3]; rfl, by omega, by omega, b6.1⟩
              exact ih false r' (avF L T s4) _ u3 (by omega) (ra.frT fb) ku (by omega) (fun z => by cases z) (fun _ => iv4.av hl) (fun e he τ6 f6 hx => hb e he τ6 (F4.tr (fa.t.tr ((FrT.of (fb.mo (by decide) (by decide))).tr f6))) hx) (fun s6 he τ6 q6 f6 r6 => hq s6 he τ6 q6 (F4.tr (fa.t.tr ((FrT.of (fb.mo (by decide) (by decide))).tr f6))) r6)
            · have t : ¬ tkS L T s4 = -24 := fun z => w (c93.mpr z)
              rw [if_neg t] at hb
              rw [r4.2.1.1]
              refine k_BM_failsF (c := 0) (fun τ5 hf => ?_)
              obtain ⟨fa, fb⟩ := hf.of r4.2.2.1 r4.2.1.1 (by omega) (by decide) (by omega)
              have e5 : τ5 = sfi τ4 151 13 (nI (flt s4.1 0)) := hf.elim (fun z => absurd r4.2.2.1 z.1) (fun z => z.2)
              have f5 : FrM sl τ4 τ5 := FrM.of fb (by decide) (by simp)
              have hx5 := r4.fx f5 fa
              refine sg_BM_test_164 ?_
              rintro u1 e1 u2 e2 u3 e3
              have c12 : fi τ5 151 12 = nI s4.1 := by rw [e5]; exact r4.2.1.1
              rw [c12, nI_1] at e1
              have g1 : FrM sl τ5 u1 := by rw [e1]; exact FrM.s1 (by decide)
              have hx1 : FxM u1 L T (flt s4.1 0) := by rw [e1]; exact hx5.frM (sl := sl) (FrM.s1 (by decide)) (fa.at (by omega))
              have g2 : fr [(151, 17), (151, 19)] [169] u1 u3 := by rw [e3, e2]; exact (fr_sfi (by decide)).tr (fr_sfi (by decide))
              have hx3 : FxM u3 L T (flt s4.1 0) := hx1.frT (FrT.of (sl := sl) (g2.mo (by decide) (by decide))) (hx1.2.2.fr g2 (by decide) (by decide))
              refine test_9F hx3 (hb _ rfl u3 (F4.tr (f5.t.tr (g1.t.tr (FrT.of (g2.mo (by decide) (by decide)))))) hx3)
        refine ko_BM_answers (k_BM_answersL (x := 11) (c := -11) (Or.inr (Or.inr ⟨rfl, rfl⟩)) hL stk3 s3 τ3 r3 k3 iv3 (fun τ4 f4 r4 k4 iv4 => ?_))
        rcases apop_11 (s := s3) k3.2.2.2.2.2 tp with ⟨r, e1, e2, hr0⟩ | ⟨e2, hr0⟩
        · rw [e2] at r4 k4 iv4
          dsimp only at r4 k4 iv4
          rw [e1, dn_11, dn_no hL hp3 nA nO] at hbad hok
          refine close r (emF s3 (-11)) τ4 (F3.tr f4) r4 k4 (by rw [e1] at le3; simp only [List.length_cons] at le3; show r.length ≤ s3.1; omega) rfl iv4 hr0 (fun e he => hbad e ?_) (fun s5 he => hok s5 ?_)
          · rcases hr0 with rfl | ⟨r', rfl⟩
            · rw [if_pos rfl] at he; exact he
            · rw [if_neg (by simp)] at he; exact he
          · rcases hr0 with rfl | ⟨r', rfl⟩
            · rw [if_pos rfl] at he; exact he
            · rw [if_neg (by simp)] at he; exact he
        · rw [e2] at r4 k4 iv4
          dsimp only at r4 k4 iv4
          refine close stk3 s3 τ4 (F3.tr f4) r4 k4 (by omega) rfl iv4 hr0 (fun e he => hbad e ?_) (fun s5 he => hok s5 ?_)
          · rcases hr0 with rfl | ⟨r', rfl⟩
            · rw [if_pos rfl] at he
              show tsL L T (fct L T 10) 500 false s3 = _
              rw [dn_no hL hp3 nA nO]; exact he
            · rw [if_neg (by simp)] at he
              rw [dn_12, dn_no hL hp3 nA nO]; exact he
          · rcases hr0 with rfl | ⟨r', rfl⟩
            · rw [if_pos rfl] at he
              show tsL L T (fct L T 10) 500 false s3 = _
              rw [dn_no hL hp3 nA nO]; exact he
            · rw [if_neg (by simp)] at he
              rw [dn_12, dn_no hL hp3 nA nO]; exact he
      refine k_BM_stood (by decide) r2.1 h12 (by omega) (fun wa => ?_) (fun wa => ?_)
      · refine k_BM_stood (by decide) r2.1 h12 (by omega) (fun wo => ?_) (fun wo => ?_)
        · exact main 1 1 ⟨fun _ => wA.mp wa, fun _ => by decide⟩ ⟨fun _ => wO.mp wo, fun _ => by decide⟩
        · exact main 1 0 ⟨fun _ => wA.mp wa, fun _ => by decide⟩ ⟨fun z => absurd rfl z, fun z => absurd (wO.mpr z) wo⟩
      · refine k_BM_stood (by decide) r2.1 h12 (by omega) (fun wo => ?_) (fun wo => ?_)
        · exact main 0 1 ⟨fun z => absurd rfl z, fun z => absurd (wA.mpr z) wa⟩ ⟨fun _ => wO.mp wo, fun _ => by decide⟩
        · exact main 0 0 ⟨fun z => absurd rfl z, fun z => absurd (wA.mpr z) wa⟩ ⟨fun z => absurd rfl z, fun z => absurd (wO.mpr z) wo⟩
theorem k_BM_test {Q : St → Prop} {k : Nat} {i0 : Nat × (Nat → Int32)} (hr : RpM σ L T sl q s) (h17 : fi σ 151 17 = 0) (hi : Iv L i0 k [] s) (hbad : ∀ e, tstF L T 10 s = .inl e → ∀ τ, FrT sl σ τ → FxM τ L T e → Q τ) (hok : ∀ s1, tstF L T 10 s = .inr s1 → ∀ τ q', FrT sl σ τ → RpM τ L T sl q' s1 → fi τ 151 17 = 0 → Q τ) : K_BM_test g σ Q := by
  refine ko_BM_test (sg_BM_test_0 ?_)
  rintro s1 e1
  have f1 : fr [(151, 17), (151, 19)] [169] σ s1 := by rw [e1]; exact fr_sfi (by decide)
  refine test_run (L + 1) true [] s q s1 (by omega) (hr.frT f1) ⟨by rw [e1]; rfl, trivial, by rw [e1]; exact h17, Nat.zero_le _, Nat.zero_le _, trivial⟩ (Nat.zero_le _) (fun _ => hi.lo (Nat.zero_le _)) (fun z => by cases z) (fun e he τ f2 hx => hbad e he τ ((FrT.of (f1.mo (by decide) (by decide))).tr f2) hx) (fun s2 he τ q' f2 r2 => hok s2 he τ q' ((FrT.of (f1.mo (by decide) (by decide))).tr f2) r2)
end
