-- a rule's text: the reference, values, sums, comparisons
section
variable {L sl q : Nat} {T : Nat → Nat} {g : Gx} {σ : St} {s : PS}
/-- a fault was met, and the text is there -/
def FxM (σ : St) (L : Nat) (T : Nat → Nat) (f : Nat) : Prop := TxM σ L T ∧ fi σ 151 20 = 8 ∧ FlM σ f
theorem FxM.frM {τ : St} {f f' : Nat} (h : FxM σ L T f) (hf : FrM sl σ τ) (hF : FlM τ f') : FxM τ L T f' := ⟨h.1.frm hf.1 (by decide) (by decide), by rw [(hf.1.1 151 20 (by decide)).1]; exact h.2.1, hF⟩
theorem RpM.fx {τ : St} {f : Nat} (h : RpM σ L T sl q s) (hf : FrM sl σ τ) (hF : FlM τ f) : FxM τ L T f := ⟨h.1.frm hf.1 (by decide) (by decide), by rw [(hf.1.1 151 20 (by decide)).1]; exact h.2.2.2.2.2.2.1, hF⟩
theorem FxM.blanks {Q : St → Prop} {f : Nat} (h : FxM σ L T f) (hQ : ∀ τ, FrM sl σ τ → FxM τ L T f → Q τ) : K_BM_blanks g σ Q := by
  obtain ⟨p, hp5, hp⟩ := h.2.2.2.2.2
  refine k_BM_blanks h.1 hp hp5 ?_
  have fm : FrM sl σ (sfi σ 151 12 (nI (skF L T p))) := FrM.s1 (by decide)
  exact hQ _ fm (h.frM fm (h.2.2.at (skF_402 h.1.2.1 hp5)))
theorem wdIs_402 {p w : Nat} (hL : L ≤ 400) (hp : p ≤ 402) (hw : wdIs L T p w) : p + slen.getD w 0 ≤ 402 := by
  by_cases h : p ≤ L
  · have := wdIs_le h hw; omega
  · have e := hw.1
    unfold wdE at e
    rw [enE_out (by omega)] at e
    omega
/-- a value behind a fault -/
theorem k_BM_valueF {Q : St → Prop} {f : Nat} (h : FxM σ L T f) (hQ : ∀ τ, FrM sl σ τ → FxM τ L T f → Q τ) : K_BM_value g σ Q := by
  have hL := h.1.2.1
  refine ko_BM_value (sg_BM_value_0 (h.blanks (sl := sl) (fun τ1 f1 h1 => ?_)))
  rintro u rfl
  obtain ⟨p, hp5, hp⟩ := h1.2.2.2.2.2
  rw [hp]
  refine k_BM_isDigit h1.1 hp (by omega) (fun d => ⟨fun c => absurd c (by decide), fun _ => ?_⟩) (fun d => ⟨fun _ => ?_, fun c => absurd rfl c⟩)
  · have dl : dgE L T p ≤ 402 := by
      have := enE_le (f := fD L T) (L := L) (p := p) (by have := (fD_iff.mp d).1; omega)
      unfold dgE; omega
    have fin : ∀ v τ, FrM sl τ1 τ → FxM τ L T f → K_BM_isCounted g (nI p) τ (fun s7 => K_BM_entry g 0 v s7 (fun s8 => Q s8)) := fun v τ f2 h2 =>
      k_BM_isCountedF h2.2.2 (fun τ3 f3 hF3 => k_BM_entryF hF3 (hQ τ3 (f1.tr (f2.tr (FrM.of f3 (by decide) (by simp)))) (h2.frM (sl := sl) (FrM.of f3 (by decide) (by simp)) hF3)))
    have at' : FxM (sfi τ1 151 12 (nI (dgE L T p))) L T f := h1.frM (sl := sl) (FrM.s1 (by decide)) (h1.2.2.at dl)
    refine k_BM_digits h1.1 hp hp5 (fun c => absurd d c) (fun _ v τ hf => ?_) (fun _ _ => ?_)
    · rw [hf.non at'.2.2]
      exact fin v _ (FrM.s1 (by decide)) at'
    · exact fin _ _ (FrM.s1 (by decide)) at'
  · have loop : ∀ n k, k + n = 8 → S_BM_value_38 g Q τ1 (nI p) (nI k) := by
      intro n
      induction n with
      | zero =>
        intro k hk
        have e8 : k = 8 := by omega
        subst e8
        refine sg_BM_value_38 ⟨fun _ => sg_BM_value_63 ⟨fun c => absurd ?_ c, fun _ => ?_⟩, fun c => absurd ?_ c⟩
        · rw [h1.2.1]; rfl
        · exact k_BM_failsF (c := 0) (fun τ hf => by rw [hf.non h1.2.2]; exact hQ τ1 f1 h1)
        · rw [h1.2.1]; exact Int32.le_refl _
      | succ n ih =>
        intro k hk
        have w16 := wI_16 k (by omega)
        refine sg_BM_value_38 ⟨fun c => absurd c (by rw [h1.2.1]; exact nI_ge (b := 8) (by omega) (by decide)), fun _ => k_BM_wordOf (by omega) ⟨wI k, w16, rfl, ?_⟩⟩
        refine k_BM_stood w16 h1.1 hp hp5 (fun w => ⟨fun _ => ?_, fun c => absurd c (by decide)⟩) (fun w => ⟨fun c => absurd rfl c, fun _ => ?_⟩)
        · refine sg_BM_value_63 ⟨fun _ => ?_, fun c => absurd c (by rw [h1.2.1]; exact fun z => absurd ((nI_eq (b := 8) (by omega) (by decide)).mp z) (by omega))⟩
          refine k_BM_isCountedF h1.2.2 (fun τ2 f2 hF2 => k_BM_wordOf (by omega) ⟨wI k, w16, rfl, k_JS_length w16 ?_⟩)
          rintro s7 e7
          have e12 : fi τ2 151 12 = nI p := by rw [(f2.1 151 12 (by decide)).1]; exact hp
          rw [e12, nI_add] at e7
          have h2 : FxM τ2 L T f := h1.frM (sl := sl) (FrM.of f2 (by decide) (by simp)) hF2
          have h7 : FxM s7 L T f := by rw [e7]; exact h2.frM (sl := sl) (FrM.s1 (by decide)) (hF2.at (wdIs_402 hL hp5 w))
          have f7 : FrM sl τ1 s7 := by rw [e7]; exact (FrM.of f2 (by decide) (by simp)).tr (FrM.s1 (by decide))
          exact k_BM_entryF h7.2.2 (hQ s7 (f1.tr f7) h7)
        · rintro u rfl
          rw [nI_1]
          exact ih (k + 1) (by omega)
    exact loop 8 0 rfl
theorem k_BM_value {Q : St → Prop} {k : Nat} {i0 : Nat × (Nat → Int32)} {ts : List Bool} (hr : RpM σ L T sl q s) (hi : Iv L i0 k ts s) (hbad : ∀ e, valF L T s = .inl e → ∀ τ, FrM sl σ τ → FxM τ L T e → Q τ) (hok : ∀ s1, valF L T s = .inr s1 → ∀ τ q', FrM sl σ τ → RpM τ L T sl q' s1 → Q τ) : K_BM_value g σ Q := by
  have hL := hr.1.2.1
  have hT := hr.1.b
  have l3 := hi.l390 hL
  have c60 := hi.1.2.1
  have hp := hi.1.1
  unfold valF at hbad hok
  refine ko_BM_value (sg_BM_value_0 (k_BM_blanksR hr (fun r1 => ?_)))
  obtain ⟨σ1, hσ1⟩ : ∃ x, x = sfi σ 151 12 (nI s.1) := ⟨_, rfl⟩
  rw [← hσ1] at r1 ⊢
  have f1 : FrM sl σ σ1 := by rw [hσ1]; exact FrM.s1 (by decide)
  have hp1 : fi σ1 151 12 = nI s.1 := r1.2.1.1
  rintro u rfl
  rw [hp1]
  refine k_BM_isDigit r1.1 hp1 (by omega) (fun d => ⟨fun c => absurd c (by decide), fun _ => ?_⟩) (fun d => ⟨fun _ => ?_, fun c => absurd rfl c⟩)
  · have td := tk_dig d
    have t2 : (tk L T s.1).2 = dgE L T s.1 := by rw [td]
    have dl : dgE L T s.1 ≤ L := enE_le hp
    refine k_BM_digits r1.1 hp1 (by omega) (fun c => absurd d c) (fun w v τ hf => ?_) (fun w w2 => ?_)
    · have t27 : tkS L T s = -27 := by unfold tkS; rw [td, if_pos w]
      rw [if_pos t27] at hbad
      have z13 : fi (sfi σ1 151 12 (nI (dgE L T s.1))) 151 13 = 0 := r1.2.2.1
      obtain ⟨a, b⟩ := hf.of z13 (p := dgE L T s.1) rfl (by omega) (by decide) (by omega)
      have fa : FrM sl σ1 τ := (FrM.s1 (by decide)).tr (FrM.of b (by decide) (by simp))
      have fx : FxM τ L T (flt s.1 1) := r1.fx fa a
      refine k_BM_isCountedF a (fun τ3 f3 hF3 => k_BM_entryF hF3 ?_)
      exact hbad _ rfl τ3 (f1.tr (fa.tr (FrM.of f3 (by decide) (by simp)))) (fx.frM (sl := sl) (FrM.of f3 (by decide) (by simp)) hF3)
    · have tv : tkS L T s = nI (vlF T s.1 (dgE L T s.1 - s.1)) := by unfold tkS; rw [td, if_neg (by omega)]
      have hd : ∀ j, j < dgE L T s.1 - s.1 → T (s.1 + j) ≤ 57 := fun j hj => (dg_in (L := L) (T := T) (p := s.1) (k := s.1 + j) (by omega) (by omega)).2.2
      have lt5 : vlF T s.1 (dgE L T s.1 - s.1) < 100000 := Nat.lt_of_lt_of_le (vlF_lt hd) (Nat.pow_le_pow_right (n := 10) (by decide) w2)
      have n27 : tkS L T s ≠ -27 := fun z => by rw [tv] at z; exact nI_pos (n := vlF T s.1 (dgE L T s.1 - s.1)) (by omega) (by rw [z]; decide)
      have n8 : ¬ tkS L T s < -8 := fun z => by rw [tv] at z; exact nI_pos (n := vlF T s.1 (dgE L T s.1 - s.1)) (by omega) (Int32.lt_trans z (by decide))
      rw [if_neg n27, if_neg n8] at hbad hok
      have r2 : RpM (sfi σ1 151 12 (nI (dgE L T s.1))) L T sl (dgE L T s.1) (avF L T s) := r1.to t2 hp
      have f2 : FrM sl σ (sfi σ1 151 12 (nI (dgE L T s.1))) := f1.tr (FrM.s1 (by decide))
      refine k_BM_isCounted (s := avF L T s) r2 c60 (by omega) (fun c τ f3 hF hx h20 _ => ?_) (fun c τ f3 r3 => ?_)
      · have c : 60 ≤ s.2.1 := c
        rw [if_pos c] at hbad
        exact k_BM_entryF hF (hbad _ rfl τ (f2.tr f3) ⟨hx, h20, hF⟩)
      · have c : s.2.1 < 60 := c
        rw [if_neg (by omega)] at hok
        refine k_BM_entry (x := tkS L T s) r3 (show s.2.2.1 < 300 by omega) (Or.inl ⟨by rw [tv]; exact nI_pos (by omega), rfl, tv.symm⟩) (fun τ4 f4 r4 => ?_)
        exact hok _ rfl τ4 _ (f2.tr (f3.tr f4)) r4
  · have loop : ∀ n k, k + n = 8 → (∀ j, j < k → ¬ wdIs L T s.1 (wI j)) → S_BM_value_38 g Q σ1 (nI s.1) (nI k) := by
      intro n
      induction n with
      | zero =>
        intro k hk hno
        have e8 : k = 8 := by omega
        subst e8
        have tb : tkS L T s ≠ -27 ∧ tkS L T s < -8 := by
          have e27 : (-27 : Int32).toInt = -27 := by decide
          have e8 : (-8 : Int32).toInt = -8 := by decide
          have key : (tk L T s.1).1.toInt ≠ -27 ∧ (tk L T s.1).1.toInt < -8 := by
            rcases tk_cases (p := s.1) hT with ⟨-, z⟩ | ⟨z, -, -⟩ | ⟨z, -, -, -⟩ | ⟨q1, i, hi', hw, z⟩ | ⟨-, -, z⟩ | ⟨-, -, -, -, z⟩ | ⟨-, -, -, k', hk', hs, ⟨-, -, z, -⟩ | ⟨-, z, -⟩⟩
            · omega
            · exact absurd z d
            · exact absurd z d
            · have : ¬ i < 8 := fun y => hno i y hw
              omega
            · omega
            · omega
            · split at z <;> omega
            · omega
          unfold tkS
          refine ⟨fun z => key.1 (by rw [z]; exact e27), ?_⟩
          rw [Int32.lt_iff_toInt_lt, e8]; exact key.2
        rw [if_neg tb.1, if_pos tb.2] at hbad
        refine sg_BM_value_38 ⟨fun _ => sg_BM_value_63 ⟨fun c => absurd ?_ c, fun _ => ?_⟩, fun c => absurd ?_ c⟩
        · rw [r1.2.2.2.2.2.2.1]; rfl
        · refine k_BM_failsF (c := 0) (fun τ hf => ?_)
          obtain ⟨a, b⟩ := hf.of r1.2.2.1 hp1 (by omega) (by decide) (by omega)
          have fa : FrM sl σ1 τ := FrM.of b (by decide) (by simp)
          exact hbad _ rfl τ (f1.tr fa) (r1.fx fa a)
        · rw [r1.2.2.2.2.2.2.1]; exact Int32.le_refl _
      | succ n ih =>
        intro k hk hno
        have w16 := wI_16 k (by omega)
        have h20 : fi σ1 151 20 = 8 := r1.2.2.2.2.2.2.1
        refine sg_BM_value_38 ⟨fun c => absurd c (by rw [h20]; exact nI_ge (b := 8) (by omega) (by decide)), fun _ => k_BM_wordOf (by omega) ⟨wI k, w16, rfl, ?_⟩⟩
        refine k_BM_stood w16 r1.1 hp1 (by omega) (fun w => ⟨fun _ => ?_, fun c => absurd c (by decide)⟩) (fun w => ⟨fun c => absurd rfl c, fun _ => ?_⟩)
        · have tw := (tk_wd (s := s) hT (show k < 13 by omega)).mp w
          have twl := tk_wl hT (show k < 13 by omega) tw
          have rng : ¬ (-1 - nI k) < (-8 : Int32) ∧ (-1 - nI k) < (0 : Int32) ∧ (-1 - nI k) ≠ (-27 : Int32) := by
            rcases (show k = 0 ∨ k = 1 ∨ k = 2 ∨ k = 3 ∨ k = 4 ∨ k = 5 ∨ k = 6 ∨ k = 7 by omega) with rfl | rfl | rfl | rfl | rfl | rfl | rfl | rfl <;> decide
          rw [if_neg (by rw [tw]; exact rng.2.2), if_neg (by rw [tw]; exact rng.1)] at hbad hok
          refine sg_BM_value_63 ⟨fun _ => ?_, fun c => absurd c (by rw [h20]; exact fun z => absurd ((nI_eq (b := 8) (by omega) (by decide)).mp z) (by omega))⟩
          have wl := wdIs_le hp w
          refine k_BM_isCounted r1 c60 (by omega) (fun c τ f3 hF hx hh e12 => k_BM_wordOf (by omega) ⟨wI k, w16, rfl, k_JS_length w16 ?_⟩) (fun c τ f3 r3 => k_BM_wordOf (by omega) ⟨wI k, w16, rfl, k_JS_length w16 ?_⟩)
          · rw [if_pos c] at hbad
            rintro s7 e7
            rw [e12, hp1, nI_add] at e7
            have fx : FxM τ L T (flt s.1 3) := ⟨hx, hh, hF⟩
            have h7 : FxM s7 L T (flt s.1 3) := by rw [e7]; exact fx.frM (sl := sl) (FrM.s1 (by decide)) (hF.at (by omega))
            have f7 : FrM sl τ s7 := by rw [e7]; exact FrM.s1 (by decide)
            exact k_BM_entryF h7.2.2 (hbad _ rfl s7 (f1.tr (f3.tr f7)) h7)
          · rw [if_neg (by omega)] at hok
            rintro s7 e7
            have e12 : fi τ 151 12 = nI s.1 := r3.2.1.1
            rw [e12, nI_add] at e7
            have r7 : RpM s7 L T sl (s.1 + slen.getD (wI k) 0) (avF L T (cnF s)) := by rw [e7]; exact r3.to (s := cnF s) twl.1 hp
            have f7 : FrM sl τ s7 := by rw [e7]; exact FrM.s1 (by decide)
            refine k_BM_entry (x := tkS L T s) r7 (show s.2.2.1 < 300 by omega) (Or.inr (Or.inl ⟨by rw [tw]; exact rng.2.1, by rw [tw]; exact rng.1, rfl, by rw [tw, i32_ss]⟩)) (fun τ4 f4 r4 => ?_)
            exact hok _ rfl τ4 _ (f1.tr (f3.tr (f7.tr f4))) r4
        · rintro u rfl
          rw [nI_1]
          refine ih (k + 1) (by omega) (fun j hj => ?_)
          by_cases e : j = k
          · rw [e]; exact w
          · exact hno j (by omega)
    exact loop 8 0 rfl (fun j hj => absurd hj (Nat.not_lt_zero _))
theorem term_8F {Q : St → Prop} {f : Nat} (h : FxM σ L T f) (hQ : Q σ) : S_BM_term_8 g Q σ := sg_BM_term_8 ⟨fun _ => hQ, fun c => absurd c h.2.2.ne⟩
theorem sgI_tk (hT : ∀ k, k < L → T k < 256) {k : Nat} (hk : k < 11) (h5 : k ≠ 5) (h7 : k ≠ 7) : sgI L T s.1 = nI (sgC k) ↔ tkS L T s = -14 - nI k := by
  rw [sgI_eq hT (by rcases (show k = 0 ∨ k = 1 ∨ k = 2 ∨ k = 3 ∨ k = 4 ∨ k = 5 ∨ k = 6 ∨ k = 7 ∨ k = 8 ∨ k = 9 ∨ k = 10 by omega) with rfl | rfl | rfl | rfl | rfl | rfl | rfl | rfl | rfl | rfl | rfl <;> decide)]
  exact tk_chr hT hk h5 h7
theorem term_loop {Q : St → Prop} {k : Nat} {i0 : Nat × (Nat → Int32)} {ts : List Bool} : ∀ (D n : Nat) (s : PS) (σ : St), L - s.1 ≤ D → D < n → Iv L i0 k (false :: ts) s → RpM σ L T sl s.1 s → (∀ e, tmL L T n s = .inl e → ∀ τ, FrM sl σ τ → FxM τ L T e → Q τ) → (∀ s1, tmL L T n s = .inr s1 → ∀ τ, FrM sl σ τ → RpM τ L T sl s1.1 s1 → Q τ) → S_BM_term_8 g Q σ := by
  intro D
  induction D with
  | zero =>
    intro n s σ hD hn hI hr hbad hok
    have hL := hr.1.2.1
    have hT := hr.1.b
    obtain ⟨n, rfl⟩ : ∃ n', n = n' + 1 := ⟨n - 1, by omega⟩
    have hp := hI.1.1
    have t29 : tkS L T s = -29 := by unfold tkS; rw [tk_end (by omega)]
    unfold tmL at hok
    rw [if_neg (by rw [t29]; decide)] at hok
    have fin : Q σ := hok s rfl σ FrM.rf hr
    have sI : sgI L T s.1 = -1 := if_neg (by omega)
    refine sg_BM_term_8 ⟨fun _ => fin, fun _ => k_BM_sign hr.1 hr.2.1.1 (by omega) ?_⟩
    rw [sI]
    refine ⟨fun c => absurd c (by decide), fun _ => k_BM_sign hr.1 hr.2.1.1 (by omega) ?_⟩
    rw [sI]
    refine ⟨fun c => absurd c (by decide), fun _ => k_BM_sign hr.1 hr.2.1.1 (by omega) ?_⟩
    rw [sI]
    exact ⟨fun _ => fin, fun c => absurd c (by decide)⟩
  | succ D ih =>
    intro n s σ hD hn hI hr hbad hok
    have hL := hr.1.2.1
    have hT := hr.1.b
    obtain ⟨n, rfl⟩ : ∃ n', n = n' + 1 := ⟨n - 1, by omega⟩
    have hp := hI.1.1
    have h12 := hr.2.1.1
    have c42 : sgI L T s.1 = 42 ↔ tkS L T s = -16 := sgI_tk hT (k := 2) (by decide) (by decide) (by decide)
    have c47 : sgI L T s.1 = 47 ↔ tkS L T s = -17 := sgI_tk hT (k := 3) (by decide) (by decide) (by decide)
    have c37 : sgI L T s.1 = 37 ↔ tkS L T s = -18 := sgI_tk hT (k := 4) (by decide) (by decide) (by decide)
    unfold tmL at hbad hok
    have go : ∀ z0, isM (tkS L T s) → (tk L T s.1).2 = s.1 + 1 → z0 = opM (tkS L T s) → S_BM_term_72 g Q σ z0 := by
      intro z0 hM t1 ez
      rw [if_pos hM] at hbad hok
      have hl : s.1 < L := lt_of_tok (fun z => by rw [z] at hM; exact absurd hM (by decide))
      refine sg_BM_term_72 ?_
      rintro s1 e1
      rw [h12, nI_1] at e1
      have r1 : RpM s1 L T sl (s.1 + 1) (avF L T s) := by rw [e1]; exact hr.to t1 hp
      have f1 : FrM sl σ s1 := by rw [e1]; exact FrM.s1 (by decide)
      have iv1 := hI.av (T := T) hl
      have ag := av_gt (T := T) hl
      have vg := val_gd (T := T) hL ag.2
      refine k_BM_value r1 iv1 (fun e he τ f2 hx => k_BM_entryF hx.2.2 (hx.blanks (sl := sl) (fun τ3 f3 hx3 => term_8F hx3 ?_))) (fun s2 he τ q' f2 r2 => ?_)
      · rw [he] at hbad
        exact hbad e rfl τ3 (f1.tr (f2.tr f3)) hx3
      · rw [he] at hbad hok
        have iv2 := val_iv iv1 he
        have b2 := vg.2 s2 he
        have l5 := iv2.l390 hL
        refine k_BM_entry (x := tkS L T s) r2 (by omega) (Or.inr (Or.inr ⟨by rcases hM with e | e | e <;> rw [e] <;> decide, ez⟩)) (fun τ3 f3 r3 => k_BM_blanksR r3 (fun r4 => ?_))
        have iv3 : Iv L i0 k (false :: ts) (emF s2 (tkS L T s)) := iv2.em (ty_ar (Or.inl hM)) (by have := iv2.2.2.2; simp only [List.length_cons] at this ⊢; omega)
        have f4 : FrM sl τ3 (sfi τ3 151 12 (nI (emF s2 (tkS L T s)).1)) := FrM.s1 (by decide)
        exact ih n (emF s2 (tkS L T s)) _ (show L - s2.1 ≤ D by omega) (by omega) iv3 r4 (fun e he2 τ5 f5 hx5 => hbad e he2 τ5 (f1.tr (f2.tr (f3.tr (f4.tr f5)))) hx5) (fun s5 he2 τ5 f5 r5 => hok s5 he2 τ5 (f1.tr (f2.tr (f3.tr (f4.tr f5)))) r5)
    refine sg_BM_term_8 ⟨fun c => absurd hr.2.2.1 c, fun _ => k_BM_sign hr.1 h12 (by omega) ⟨fun q1 => ?_, fun q1 => k_BM_sign hr.1 h12 (by omega) ⟨fun q2 => ?_, fun q2 => k_BM_sign hr.1 h12 (by omega) ⟨fun q3 => ?_, fun q3 => ?_⟩⟩⟩⟩
    · have t := c42.mp q1
      refine sg_BM_term_42 (k_BM_sign hr.1 h12 (by omega) ⟨fun c => absurd q1 c, fun _ => ?_⟩)
      exact go 13 (Or.inl t) (tk_one hT (k := 2) (by decide) (by decide) (by decide) t) (by rw [t]; rfl)
    · have t := c47.mp q2
      refine sg_BM_term_42 (k_BM_sign hr.1 h12 (by omega) ⟨fun _ => k_BM_sign hr.1 h12 (by omega) ⟨fun c => absurd q2 c, fun _ => ?_⟩, fun c => absurd c q1⟩)
      exact go 14 (Or.inr (Or.inl t)) (tk_one hT (k := 3) (by decide) (by decide) (by decide) t) (by rw [t]; rfl)
    · have nM : ¬ isM (tkS L T s) := fun z => z.elim (fun z => q1 (c42.mpr z)) (fun z => z.elim (fun z => q2 (c47.mpr z)) (fun z => q3 (c37.mpr z)))
      rw [if_neg nM] at hok
      exact hok s rfl σ FrM.rf hr
    · have t := c37.mp q3
      refine sg_BM_term_42 (k_BM_sign hr.1 h12 (by omega) ⟨fun _ => k_BM_sign hr.1 h12 (by omega) ⟨fun _ => ?_, fun c => absurd c q2⟩, fun c => absurd c q1⟩)
      exact go 15 (Or.inr (Or.inr t)) (tk_one hT (k := 4) (by decide) (by decide) (by decide) t) (by rw [t]; rfl)
theorem k_BM_termF {Q : St → Prop} {f : Nat} (h : FxM σ L T f) (hQ : ∀ τ, FrM sl σ τ → FxM τ L T f → Q τ) : K_BM_term g σ Q := ko_BM_term (sg_BM_term_0 (k_BM_valueF (sl := sl) h (fun τ1 f1 h1 => h1.blanks (sl := sl) (fun τ2 f2 h2 => term_8F h2 (hQ τ2 (f1.tr f2) h2)))))
theorem k_BM_term {Q : St → Prop} {k : Nat} {i0 : Nat × (Nat → Int32)} {ts : List Bool} (hr : RpM σ L T sl q s) (hi : Iv L i0 k ts s) (hbad : ∀ e, bnd (valF L T s) (tmL L T 500) = .inl e → ∀ τ, FrM sl σ τ → FxM τ L T e → Q τ) (hok : ∀ s1, bnd (valF L T s) (tmL L T 500) = .inr s1 → ∀ τ, FrM sl σ τ → RpM τ L T sl s1.1 s1 → Q τ) : K_BM_term g σ Q := by
  have hL := hr.1.2.1
  refine ko_BM_term (sg_BM_term_0 (k_BM_value hr hi (fun e he τ f1 hx => hx.blanks (sl := sl) (fun τ2 f2 hx2 => term_8F hx2 ?_)) (fun s1 he τ q' f1 r1 => k_BM_blanksR r1 (fun r2 => ?_))))
  · rw [he] at hbad
    exact hbad e rfl τ2 (f1.tr f2) hx2
  · rw [he] at hbad hok
    have f2 : FrM sl τ (sfi τ 151 12 (nI s1.1)) := FrM.s1 (by decide)
    exact term_loop 400 500 s1 _ (by omega) (by decide) (val_iv hi he) r2 (fun e he2 τ3 f3 hx => hbad e he2 τ3 (f1.tr (f2.tr f3)) hx) (fun s2 he2 τ3 f3 r3 => hok s2 he2 τ3 (f1.tr (f2.tr f3)) r3)
theorem sum_4F {Q : St → Prop} {f : Nat} (h : FxM σ L T f) (hQ : Q σ) : S_BM_sum_4 g Q σ := sg_BM_sum_4 ⟨fun _ => hQ, fun c => absurd c h.2.2.ne⟩
theorem sumM_loop {Q : St → Prop} {k : Nat} {i0 : Nat × (Nat → Int32)} {ts : List Bool} : ∀ (D n : Nat) (s : PS) (σ : St), L - s.1 ≤ D → D < n → Iv L i0 k (false :: ts) s → RpM σ L T sl s.1 s → (∀ e, smL L T n s = .inl e → ∀ τ, FrM sl σ τ → FxM τ L T e → Q τ) → (∀ s1, smL L T n s = .inr s1 → ∀ τ, FrM sl σ τ → RpM τ L T sl s1.1 s1 → Q τ) → S_BM_sum_4 g Q σ := by
  intro D
  induction D with
  | zero =>
    intro n s σ hD hn hI hr hbad hok
    have hL := hr.1.2.1
    obtain ⟨n, rfl⟩ : ∃ n', n = n' + 1 := ⟨n - 1, by omega⟩
    have hp := hI.1.1
    have t29 : tkS L T s = -29 := by unfold tkS; rw [tk_end (by omega)]
    unfold smL at hok
    rw [if_neg (by rw [t29]; decide)] at hok
    have fin : Q σ := hok s rfl σ FrM.rf hr
    have sI : sgI L T s.1 = -1 := if_neg (by omega)
    refine sg_BM_sum_4 ⟨fun _ => fin, fun _ => k_BM_sign hr.1 hr.2.1.1 (by omega) ?_⟩
    rw [sI]
    refine ⟨fun c => absurd c (by decide), fun _ => k_BM_sign hr.1 hr.2.1.1 (by omega) ?_⟩
    rw [sI]
    exact ⟨fun _ => fin, fun c => absurd c (by decide)⟩
  | succ D ih =>
    intro n s σ hD hn hI hr hbad hok
    have hL := hr.1.2.1
    have hT := hr.1.b
    obtain ⟨n, rfl⟩ : ∃ n', n = n' + 1 := ⟨n - 1, by omega⟩
    have hp := hI.1.1
    have h12 := hr.2.1.1
    have c43 : sgI L T s.1 = 43 ↔ tkS L T s = -14 := sgI_tk hT (k := 0) (by decide) (by decide) (by decide)
    have c45 : sgI L T s.1 = 45 ↔ tkS L T s = -15 := sgI_tk hT (k := 1) (by decide) (by decide) (by decide)
    unfold smL at hbad hok
    have go : ∀ z0, isA (tkS L T s) → (tk L T s.1).2 = s.1 + 1 → z0 = opM (tkS L T s) → S_BM_sum_43 g Q σ z0 := by
      intro z0 hA t1 ez
      rw [if_pos hA] at hbad hok
      have hl : s.1 < L := lt_of_tok (fun z => by rw [z] at hA; exact absurd hA (by decide))
      refine sg_BM_sum_43 ?_
      rintro s1 e1
      rw [h12, nI_1] at e1
      have r1 : RpM s1 L T sl (s.1 + 1) (avF L T s) := by rw [e1]; exact hr.to t1 hp
      have f1 : FrM sl σ s1 := by rw [e1]; exact FrM.s1 (by decide)
      have iv1 := hI.av (T := T) hl
      have ag := av_gt (T := T) hl
      have vg := vt_gd (T := T) hL (n := 500) ag.2
      refine k_BM_term r1 iv1 (fun e he τ f2 hx => k_BM_entryF hx.2.2 (sum_4F hx ?_)) (fun s2 he τ f2 r2 => ?_)
      · rw [he] at hbad
        exact hbad e rfl τ (f1.tr f2) hx
      · rw [he] at hbad hok
        obtain ⟨s3, e3, e4⟩ := bnd_inr he
        have iv2 := tm_iv 500 (val_iv iv1 e3) e4
        have b2 := vg.2 s2 he
        have l5 := iv2.l390 hL
        refine k_BM_entry (x := tkS L T s) r2 (by omega) (Or.inr (Or.inr ⟨by rcases hA with e | e <;> rw [e] <;> decide, ez⟩)) (fun τ3 f3 r3 => ?_)
        have iv3 : Iv L i0 k (false :: ts) (emF s2 (tkS L T s)) := iv2.em (ty_ar (Or.inr hA)) (by have := iv2.2.2.2; simp only [List.length_cons] at this ⊢; omega)
        exact ih n (emF s2 (tkS L T s)) τ3 (show L - s2.1 ≤ D by omega) (by omega) iv3 r3 (fun e he2 τ5 f5 hx5 => hbad e he2 τ5 (f1.tr (f2.tr (f3.tr f5))) hx5) (fun s5 he2 τ5 f5 r5 => hok s5 he2 τ5 (f1.tr (f2.tr (f3.tr f5))) r5)
    refine sg_BM_sum_4 ⟨fun c => absurd hr.2.2.1 c, fun _ => k_BM_sign hr.1 h12 (by omega) ⟨fun q1 => ?_, fun q1 => k_BM_sign hr.1 h12 (by omega) ⟨fun q2 => ?_, fun q2 => ?_⟩⟩⟩
    · have t := c43.mp q1
      refine k_BM_sign hr.1 h12 (by omega) ⟨fun c => absurd q1 c, fun _ => ?_⟩
      exact go 2 (Or.inl t) (tk_one hT (k := 0) (by decide) (by decide) (by decide) t) (by rw [t]; rfl)
    · have nA : ¬ isA (tkS L T s) := fun z => z.elim (fun z => q1 (c43.mpr z)) (fun z => q2 (c45.mpr z))
      rw [if_neg nA] at hok
      exact hok s rfl σ FrM.rf hr
    · have t := c45.mp q2
      refine k_BM_sign hr.1 h12 (by omega) ⟨fun _ => ?_, fun c => absurd c q1⟩
      exact go 3 (Or.inr t) (tk_one hT (k := 1) (by decide) (by decide) (by decide) t) (by rw [t]; rfl)
theorem k_BM_sumF {Q : St → Prop} {f : Nat} (h : FxM σ L T f) (hQ : ∀ τ, FrM sl σ τ → FxM τ L T f → Q τ) : K_BM_sum g σ Q := ko_BM_sum (sg_BM_sum_0 (k_BM_termF (sl := sl) h (fun τ1 f1 h1 => sum_4F h1 (hQ τ1 f1 h1))))
theorem k_BM_sum {Q : St → Prop} {k : Nat} {i0 : Nat × (Nat → Int32)} {ts : List Bool} (hr : RpM σ L T sl q s) (hi : Iv L i0 k ts s) (hbad : ∀ e, sumF L T s = .inl e → ∀ τ, FrM sl σ τ → FxM τ L T e → Q τ) (hok : ∀ s1, sumF L T s = .inr s1 → ∀ τ, FrM sl σ τ → RpM τ L T sl s1.1 s1 → Q τ) : K_BM_sum g σ Q := by
  have hL := hr.1.2.1
  unfold sumF at hbad hok
  refine ko_BM_sum (sg_BM_sum_0 (k_BM_term hr hi (fun e he τ f1 hx => sum_4F hx ?_) (fun s1 he τ f1 r1 => ?_)))
  · rw [he] at hbad
    exact hbad e rfl τ f1 hx
  · rw [he] at hbad hok
    obtain ⟨s3, e3, e4⟩ := bnd_inr he
    exact sumM_loop 400 500 s1 τ (by omega) (by decide) (tm_iv 500 (val_iv hi e3) e4) r1 (fun e he2 τ3 f3 hx => hbad e he2 τ3 (f1.tr f3) hx) (fun s2 he2 τ3 f3 r3 => hok s2 he2 τ3 (f1.tr f3) r3)
theorem comp_90F {Q : St → Prop} {f p : Nat} {x y z0 z1 : Int32} (h : FxM σ L T f) (e : z1 + z0 = nI p) (hp : p ≤ 402) (hQ : ∀ τ, FrM sl σ τ → FxM τ L T f → Q τ) : S_BM_compared_90 g Q σ x y z0 z1 := by
  refine sg_BM_compared_90 ?_
  rintro s1 e1
  rw [e] at e1
  have f1 : FrM sl σ s1 := by rw [e1]; exact FrM.s1 (by decide)
  have h1 : FxM s1 L T f := by rw [e1]; exact h.frM (sl := sl) (FrM.s1 (by decide)) (h.2.2.at hp)
  refine k_BM_sumF (sl := sl) h1 (fun τ2 f2 h2 => ?_)
  have fin := hQ τ2 (f1.tr f2) h2
  exact ⟨fun _ => ⟨fun _ => ⟨fun _ => k_BM_entryF h2.2.2 fin, fun _ => k_BM_entryF h2.2.2 fin⟩, fun _ => ⟨fun _ => k_BM_entryF h2.2.2 fin, fun _ => k_BM_entryF h2.2.2 fin⟩⟩, fun _ => k_BM_entryF h2.2.2 fin⟩
/-- behind the sign of a comparison, when a fault was met -/
theorem comp_restF {Q : St → Prop} {f p : Nat} {x : Int32} (h : FxM σ L T f) (h12 : fi σ 151 12 = nI p) (hp : p < L) (hQ : ∀ τ, FrM sl σ τ → FxM τ L T f → Q τ) : ∀ s2, s2 = sfi σ 151 12 (fi σ 151 12 + 1) → (x = 61 → S_BM_compared_90 g Q s2 x 0 0 (fi s2 151 12)) ∧ (¬ x = 61 → K_BM_sign g s2 (fun r4 s3 => (¬ r4 = 61 → S_BM_compared_90 g Q s3 x 0 0 (fi s3 151 12)) ∧ (r4 = 61 → S_BM_compared_90 g Q s3 x 1 1 (fi s3 151 12)))) := by
  have hL := h.1.2.1
  rintro s2 e2
  rw [h12, nI_1] at e2
  have f2 : FrM sl σ s2 := by rw [e2]; exact FrM.s1 (by decide)
  have h2 : FxM s2 L T f := by rw [e2]; exact h.frM (sl := sl) (FrM.s1 (by decide)) (h.2.2.at (by omega))
  have p2 : fi s2 151 12 = nI (p + 1) := by rw [e2]; rfl
  refine ⟨fun _ => ?_, fun _ => k_BM_sign h2.1 p2 (by omega) ⟨fun _ => ?_, fun w => ?_⟩⟩
  · exact comp_90F h2 (p := p + 1) (by rw [p2]; exact nI_add _ 0) (by omega) (fun τ f3 h3 => hQ τ (f2.tr f3) h3)
  · exact comp_90F h2 (p := p + 1) (by rw [p2]; exact nI_add _ 0) (by omega) (fun τ f3 h3 => hQ τ (f2.tr f3) h3)
  · have w := (sgI_eq h2.1.b (by decide : 61 < 256)).mp w
    exact comp_90F h2 (p := p + 2) (by rw [p2]; exact nI_add _ 1) (by omega) (fun τ f3 h3 => hQ τ (f2.tr f3) h3)
theorem k_BM_comparedF {Q : St → Prop} {f : Nat} (h : FxM σ L T f) (hQ : ∀ τ, FrM sl σ τ → FxM τ L T f → Q τ) : K_BM_sign g σ (fun r3 s2 => (r3 = 60 → S_BM_compared_37 g Q s2 r3) ∧ (¬ r3 = 60 → (r3 = 61 → S_BM_compared_37 g Q s2 r3) ∧ (¬ r3 = 61 → (r3 = 62 → S_BM_compared_37 g Q s2 r3) ∧ (¬ r3 = 62 → K_BM_fails g 0 (fi s2 151 12) s2 (fun s4 => Q s4))))) := by
  obtain ⟨p, hp5, hp⟩ := h.2.2.2.2.2
  refine k_BM_sign h.1 hp (by omega) ?_
  have go : ∀ c, c < 256 → sgI L T p = nI c → S_BM_compared_37 g Q σ (sgI L T p) := by
    intro c hc e
    have hl := ((sgI_eq h.1.b hc).mp e).1
    refine sg_BM_compared_37 ?_
    rw [hp]
    refine k_BM_isCountedF h.2.2 (fun τ f1 hF => ?_)
    have fm : FrM sl σ τ := FrM.of f1 (by decide) (by simp)
    have hx : FxM τ L T f := h.frM fm hF
    exact comp_restF (sl := sl) hx (p := p) (by rw [(f1.1 151 12 (by decide)).1]; exact hp) hl (fun τ2 f2 h2 => hQ τ2 (fm.tr f2) h2)
  refine ⟨go 60 (by decide), fun _ => ⟨go 61 (by decide), fun _ => ⟨go 62 (by decide), fun _ => ?_⟩⟩⟩
  rw [hp]
  exact k_BM_failsF (c := 0) (fun τ hf => by rw [hf.non h.2.2]; exact hQ σ FrM.rf h)
theorem k_BM_compared {Q : St → Prop} {k : Nat} {i0 : Nat × (Nat → Int32)} {ts : List Bool} (hr : RpM σ L T sl q s) (hi : Iv L i0 k ts s) (hbad : ∀ e, cmpF L T s = .inl e → ∀ τ, FrM sl σ τ → FxM τ L T e → Q τ) (hok : ∀ s1, cmpF L T s = .inr s1 → ∀ τ, FrM sl σ τ → RpM τ L T sl s1.1 s1 → Q τ) : K_BM_compared g σ Q := by
  have hL := hr.1.2.1
  have hT := hr.1.b
  unfold cmpF at hbad hok
  refine ko_BM_compared (sg_BM_compared_0 (k_BM_sum hr hi (fun e he τ f1 hx => ?_) (fun s1 he τ f1 r1 => ?_)))
  · rw [he] at hbad
    exact k_BM_comparedF (sl := sl) hx (fun τ2 f2 h2 => hbad e rfl τ2 (f1.tr f2) h2)
  · rw [he] at hbad hok
    have hbad : ∀ e, (if ¬ isC (tkS L T s1) then .inl (flt s1.1 0) else if 60 ≤ s1.2.1 then .inl (flt s1.1 3) else bnd (sumF L T (avF L T (cnF s1))) (fun s2 => .inr (emF s2 (tkS L T s1)))) = (.inl e : Rs) → ∀ τ, FrM sl σ τ → FxM τ L T e → Q τ := hbad
    have hok : ∀ s3, (if ¬ isC (tkS L T s1) then .inl (flt s1.1 0) else if 60 ≤ s1.2.1 then .inl (flt s1.1 3) else bnd (sumF L T (avF L T (cnF s1))) (fun s2 => .inr (emF s2 (tkS L T s1)))) = (.inr s3 : Rs) → ∀ τ, FrM sl σ τ → RpM τ L T sl s3.1 s3 → Q τ := hok
    have iv1 := sum_iv hi he
    have c60 := iv1.1.2.1
    have hp := iv1.1.1
    have h12 := r1.2.1.1
    have c61 : sgI L T s1.1 = 61 ↔ tkS L T s1 = -20 := sgI_tk hT (k := 6) (by decide) (by decide) (by decide)
    have s60 := sgI_eq (p := s1.1) hT (by decide : 60 < 256)
    have s62 := sgI_eq (p := s1.1) hT (by decide : 62 < 256)
    obtain ⟨l1, l2, l3, l4⟩ := tk_cmp (s := s1) hT (c := 60) (t1 := -19) (t2 := -25) (Or.inl ⟨rfl, rfl, rfl⟩)
    obtain ⟨m1, m2, m3, m4⟩ := tk_cmp (s := s1) hT (c := 62) (t1 := -21) (t2 := -26) (Or.inr ⟨rfl, rfl, rfl⟩)
    -- the right side, and what is put behind
    have rest : ∀ (x : Int32) (y z0 : Int32) (q' : Nat) (τ2 : St), isC (tkS L T s1) → s1.2.1 < 60 → FrM sl σ τ2 → RpM τ2 L T sl s1.1 (cnF s1) → (tk L T s1.1).2 = q' → (∀ τ s4, RpM τ L T sl s4.1 s4 → s4.2.2.1 < 300 → (∀ τ5, FrM sl τ τ5 → RpM τ5 L T sl s4.1 (emF s4 (tkS L T s1)) → Q τ5) → (¬ x = 61 → (¬ x = 60 → (y = 0 → K_BM_entry g 8 0 τ (fun s => Q s)) ∧ (¬ y = 0 → K_BM_entry g 7 0 τ (fun s => Q s))) ∧ (x = 60 → (y = 0 → K_BM_entry g 4 0 τ (fun s => Q s)) ∧ (¬ y = 0 → K_BM_entry g 5 0 τ (fun s => Q s)))) ∧ (x = 61 → K_BM_entry g 6 0 τ (fun s => Q s))) → ∀ s2, fr [(151, 12)] [] τ2 s2 → ∀ z1, z1 + z0 = nI q' → S_BM_compared_90 g Q s2 x y z0 z1 := by
      intro x y z0 q' τ2 hC c f2 r2 tn ent s2 fs z1 ez
      rw [if_neg (fun z => z hC), if_neg (by omega)] at hbad hok
      have hl : s1.1 < L := isC_lt hC
      refine sg_BM_compared_90 ?_
      rintro t1 e1
      rw [ez] at e1
      have ft : FrM sl τ2 t1 := by rw [e1]; exact (FrM.of fs (by decide) (by simp)).tr (FrM.s1 (by decide))
      have rt : RpM t1 L T sl q' (avF L T (cnF s1)) := by
        have fa : fr [(151, 12)] [] τ2 t1 := by rw [e1]; exact fs.tr (fr_sfi (by decide))
        obtain ⟨hx', ⟨a1, a2, a3⟩, h3, h4, h5, h6, h7, h8⟩ := r2
        refine ⟨hx'.frm fa (by decide) (by decide), ⟨by rw [e1]; rfl, by rw [← tn]; exact tk_le hp, by rw [← tn]; rfl⟩, ?_, ?_, ?_, ?_, ?_, ?_⟩
        · rw [(fa.1 151 13 (by decide)).1]; exact h3
        · rw [(fa.1 151 14 (by decide)).1]; exact h4
        · rw [(fa.1 151 18 (by decide)).1]; exact h5
        · rw [(fa.1 151 16 (by decide)).1]; exact h6
        · rw [(fa.1 151 20 (by decide)).1]; exact h7
        · rw [(fa.2 163 (by decide)).1, (fa.2 164 (by decide)).1]; exact h8
      have iv3 := (iv1.cn c).av (T := T) (s := cnF s1) hl
      refine k_BM_sum rt iv3 (fun e he2 τ4 f4 hx => ?_) (fun s4 he2 τ4 f4 r4 => ?_)
      · rw [he2] at hbad
        have fin : Q τ4 := hbad e rfl τ4 (f2.tr (ft.tr f4)) hx
        exact ⟨fun _ => ⟨fun _ => ⟨fun _ => k_BM_entryF hx.2.2 fin, fun _ => k_BM_entryF hx.2.2 fin⟩, fun _ => ⟨fun _ => k_BM_entryF hx.2.2 fin, fun _ => k_BM_entryF hx.2.2 fin⟩⟩, fun _ => k_BM_entryF hx.2.2 fin⟩
      · rw [he2] at hok
        have l5 := (sum_iv iv3 he2).l390 hL
        exact ent τ4 s4 r4 (by omega) (fun τ5 f5 r5 => hok _ rfl τ5 (f2.tr (ft.tr (f4.tr f5))) r5)
    -- the sign itself
    have head : ∀ x : Int32, isC (tkS L T s1) → (∀ τ2, s1.2.1 < 60 → FrM sl σ τ2 → RpM τ2 L T sl s1.1 (cnF s1) → ∀ s2, s2 = sfi τ2 151 12 (nI (s1.1 + 1)) → (x = 61 → S_BM_compared_90 g Q s2 x 0 0 (nI (s1.1 + 1))) ∧ (¬ x = 61 → K_BM_sign g s2 (fun r4 s3 => (¬ r4 = 61 → S_BM_compared_90 g Q s3 x 0 0 (fi s3 151 12)) ∧ (r4 = 61 → S_BM_compared_90 g Q s3 x 1 1 (fi s3 151 12))))) → S_BM_compared_37 g Q τ x := by
      intro x hC body
      have hl : s1.1 < L := isC_lt hC
      refine sg_BM_compared_37 ?_
      rw [h12]
      refine k_BM_isCounted r1 c60 (by omega) (fun c τ2 f2 hF hx hh e12 => ?_) (fun c τ2 f2 r2 => ?_)
      · rw [if_neg (fun z => z hC), if_pos c] at hbad
        exact comp_restF (sl := sl) ⟨hx, hh, hF⟩ (p := s1.1) (by rw [e12]; exact h12) hl (fun τ3 f3 h3 => hbad _ rfl τ3 (f1.tr (f2.tr f3)) h3)
      · rintro s2 e2
        have e12 : fi τ2 151 12 = nI s1.1 := r2.2.1.1
        rw [e12, nI_1] at e2
        have p2 : fi s2 151 12 = nI (s1.1 + 1) := by rw [e2]; rfl
        rw [p2]
        exact body τ2 c (f1.tr f2) r2 s2 e2
    have tks : ∀ x : Int32, x < -8 → x < -8 := fun _ h => h
    refine k_BM_sign r1.1 h12 (by omega) ⟨fun q1 => ?_, fun q1 => ⟨fun q2 => ?_, fun q2 => ⟨fun q3 => ?_, fun q3 => ?_⟩⟩⟩
    · have w := s60.mp q1
      have hC : isC (tkS L T s1) := by
        by_cases z : s1.1 + 1 < L ∧ T (s1.1 + 1) = 61
        · exact Or.inr (Or.inr (Or.inr (Or.inl (l2.mp ⟨w, z⟩))))
        · exact Or.inl (l1.mp ⟨w, z⟩)
      rw [q1]
      refine head 60 hC (fun τ2 c f2 r2 s2 e2 => ⟨fun z => absurd z (by decide), fun _ => ?_⟩)
      have fs : fr [(151, 12)] [] τ2 s2 := by rw [e2]; exact fr_sfi (by decide)
      have p2 : fi s2 151 12 = nI (s1.1 + 1) := by rw [e2]; rfl
      refine k_BM_sign (r2.1.frm fs (by decide) (by decide)) p2 (by omega) ⟨fun z => ?_, fun z => ?_⟩
      · have z : ¬ (s1.1 + 1 < L ∧ T (s1.1 + 1) = 61) := fun y => z ((sgI_eq hT (by decide : 61 < 256)).mpr y)
        have t := l1.mp ⟨w, z⟩
        rw [p2]
        refine rest 60 0 0 (s1.1 + 1) τ2 hC c f2 r2 (l3 t) (fun τ s4 r4 h3 hq => ⟨fun _ => ⟨fun y => absurd rfl y, fun _ => ⟨fun _ => ?_, fun y => absurd rfl y⟩⟩, fun y => absurd y (by decide)⟩) s2 fs _ (nI_add _ 0)
        exact k_BM_entry (x := tkS L T s1) r4 h3 (Or.inr (Or.inr ⟨by rw [t]; decide, by rw [t]; rfl⟩)) hq
      · have z := (sgI_eq hT (by decide : 61 < 256)).mp z
        have t := l2.mp ⟨w, z⟩
        rw [p2]
        refine rest 60 1 1 (s1.1 + 2) τ2 hC c f2 r2 (l4 t) (fun τ s4 r4 h3 hq => ⟨fun _ => ⟨fun y => absurd rfl y, fun _ => ⟨fun y => absurd y (by decide), fun _ => ?_⟩⟩, fun y => absurd y (by decide)⟩) s2 fs _ (nI_add _ 1)
        exact k_BM_entry (x := tkS L T s1) r4 h3 (Or.inr (Or.inr ⟨by rw [t]; decide, by rw [t]; rfl⟩)) hq
    · have t := c61.mp q2
      have hC : isC (tkS L T s1) := Or.inr (Or.inl t)
      rw [q2]
      refine head 61 hC (fun τ2 c f2 r2 s2 e2 => ⟨fun _ => ?_, fun z => absurd rfl z⟩)
      have fs : fr [(151, 12)] [] τ2 s2 := by rw [e2]; exact fr_sfi (by decide)
      refine rest 61 0 0 (s1.1 + 1) τ2 hC c f2 r2 (tk_one hT (k := 6) (by decide) (by decide) (by decide) t) (fun τ s4 r4 h3 hq => ⟨fun y => absurd rfl y, fun _ => ?_⟩) s2 fs _ (nI_add _ 0)
      exact k_BM_entry (x := tkS L T s1) r4 h3 (Or.inr (Or.inr ⟨by rw [t]; decide, by rw [t]; rfl⟩)) hq
    · have w := s62.mp q3
      have hC : isC (tkS L T s1) := by
        by_cases z : s1.1 + 1 < L ∧ T (s1.1 + 1) = 61
        · exact Or.inr (Or.inr (Or.inr (Or.inr (m2.mp ⟨w, z⟩))))
        · exact Or.inr (Or.inr (Or.inl (m1.mp ⟨w, z⟩)))
      rw [q3]
      refine head 62 hC (fun τ2 c f2 r2 s2 e2 => ⟨fun z => absurd z (by decide), fun _ => ?_⟩)
      have fs : fr [(151, 12)] [] τ2 s2 := by rw [e2]; exact fr_sfi (by decide)
      have p2 : fi s2 151 12 = nI (s1.1 + 1) := by rw [e2]; rfl
      refine k_BM_sign (r2.1.frm fs (by decide) (by decide)) p2 (by omega) ⟨fun z => ?_, fun z => ?_⟩
      · have z : ¬ (s1.1 + 1 < L ∧ T (s1.1 + 1) = 61) := fun y => z ((sgI_eq hT (by decide : 61 < 256)).mpr y)
        have t := m1.mp ⟨w, z⟩
        rw [p2]
        refine rest 62 0 0 (s1.1 + 1) τ2 hC c f2 r2 (m3 t) (fun τ s4 r4 h3 hq => ⟨fun _ => ⟨fun _ => ⟨fun _ => ?_, fun y => absurd rfl y⟩, fun y => absurd y (by decide)⟩, fun y => absurd y (by decide)⟩) s2 fs _ (nI_add _ 0)
        exact k_BM_entry (x := tkS L T s1) r4 h3 (Or.inr (Or.inr ⟨by rw [t]; decide, by rw [t]; rfl⟩)) hq
      · have z := (sgI_eq hT (by decide : 61 < 256)).mp z
        have t := m2.mp ⟨w, z⟩
        rw [p2]
        refine rest 62 1 1 (s1.1 + 2) τ2 hC c f2 r2 (m4 t) (fun τ s4 r4 h3 hq => ⟨fun _ => ⟨fun _ => ⟨fun y => absurd y (by decide), fun _ => ?_⟩, fun y => absurd y (by decide)⟩, fun y => absurd y (by decide)⟩) s2 fs _ (nI_add _ 1)
        exact k_BM_entry (x := tkS L T s1) r4 h3 (Or.inr (Or.inr ⟨by rw [t]; decide, by rw [t]; rfl⟩)) hq
    · have nC : ¬ isC (tkS L T s1) := by
        intro z
        rcases z with z | z | z | z | z
        · exact q1 (s60.mpr (l1.mpr z).1)
        · exact q2 (c61.mpr z)
        · exact q3 (s62.mpr (m1.mpr z).1)
        · exact q1 (s60.mpr (l2.mpr z).1)
        · exact q3 (s62.mpr (m2.mpr z).1)
      rw [if_pos nC] at hbad
      rw [h12]
      refine k_BM_failsF (c := 0) (fun τ2 hf => ?_)
      obtain ⟨a, b⟩ := hf.of r1.2.2.1 h12 (by omega) (by decide) (by omega)
      have fa : FrM sl τ τ2 := FrM.of b (by decide) (by simp)
      exact hbad _ rfl τ2 (f1.tr fa) (r1.fx fa a)
end
