-- a rule's text: the reference, its clauses, the whole call
section
variable {L sl q : Nat} {T : Nat → Nat} {g : Gx} {σ : St} {s : PS}
def FrC (sl n : Nat) (σ τ : St) : Prop := fr [(151, 12), (151, 13), (151, 16), (151, 17), (151, 18), (151, 19)] [163, 164, 166, 167, 168, 169] σ τ ∧ (∀ k, k < 300 * sl → ai τ 163 k = ai σ 163 k ∧ ai τ 164 k = ai σ 164 k) ∧ ∀ k, k < 12 * sl + n → ai τ 166 k = ai σ 166 k ∧ ai τ 167 k = ai σ 167 k ∧ ai τ 168 k = ai σ 168 k
theorem FrC.rf {n : Nat} : FrC sl n σ σ := ⟨fr.rf, fun _ _ => ⟨rfl, rfl⟩, fun _ _ => ⟨rfl, rfl, rfl⟩⟩
theorem FrC.tr {n : Nat} {τ υ : St} (h1 : FrC sl n σ τ) (h2 : FrC sl n τ υ) : FrC sl n σ υ := ⟨h1.1.tr h2.1, fun k hk => ⟨(h2.2.1 k hk).1.trans (h1.2.1 k hk).1, (h2.2.1 k hk).2.trans (h1.2.1 k hk).2⟩, fun k hk => ⟨(h2.2.2 k hk).1.trans (h1.2.2 k hk).1, (h2.2.2 k hk).2.1.trans (h1.2.2 k hk).2.1, (h2.2.2 k hk).2.2.trans (h1.2.2 k hk).2.2⟩⟩
theorem FrC.lo {n m : Nat} {τ : St} (h : FrC sl n σ τ) (hm : m ≤ n) : FrC sl m σ τ := ⟨h.1, h.2.1, fun k hk => h.2.2 k (by omega)⟩
theorem FrT.c {n : Nat} {τ : St} (h : FrT sl σ τ) : FrC sl n σ τ := ⟨h.1.mo (by decide) (by decide), h.2, fun k _ => by rw [(h.1.2 166 (by decide)).1, (h.1.2 167 (by decide)).1, (h.1.2 168 (by decide)).1]; exact ⟨rfl, rfl, rfl⟩⟩
theorem FrC.sa {n r k : Nat} {v : Int32} (hr : r = 166 ∨ r = 167 ∨ r = 168) (hk : 12 * sl + n ≤ k) : FrC sl n σ (sai σ r k v) := by
  refine ⟨fr_sai (by rcases hr with rfl | rfl | rfl <;> decide), fun j _ => ⟨?_, ?_⟩, fun j hj => ⟨?_, ?_, ?_⟩⟩
  · rw [ai_sai, if_neg (by omega)]
  · rw [ai_sai, if_neg (by omega)]
  · rw [ai_sai, if_neg (by omega)]
  · rw [ai_sai, if_neg (by omega)]
  · rw [ai_sai, if_neg (by omega)]
theorem FxM.frC {n : Nat} {τ : St} {f f' : Nat} (h : FxM σ L T f) (hf : FrC sl n σ τ) (hF : FlM τ f') : FxM τ L T f' := ⟨h.1.frm hf.1 (by decide) (by decide), by rw [(hf.1.1 151 20 (by decide)).1]; exact h.2.1, hF⟩
theorem RpM.sa {r k : Nat} {v : Int32} (h : RpM σ L T sl q s) (hr : r = 166 ∨ r = 167 ∨ r = 168) : RpM (sai σ r k v) L T sl q s := by
  obtain ⟨hx, a, h3, h4, h5, h6, h7, h8⟩ := h
  have f : fr [] [166, 167, 168] σ (sai σ r k v) := fr_sai (by rcases hr with rfl | rfl | rfl <;> decide)
  refine ⟨hx.frm f (by decide) (by decide), a, h3, h4, h5, h6, h7, ?_⟩
  rw [(f.2 163 (by decide)).1, (f.2 164 (by decide)).1]; exact h8
/-- a clause: its sum, and its test if it has one -/
noncomputable def tsO (L : Nat) (T : Nat → Nat) (s1 : PS) : Rs := if tkS L T s1 = -13 then tstF L T 10 (avF L T s1) else .inr s1
theorem k_BM_ruleClause {Q : St → Prop} {n : Nat} (hn : n ≤ 12) (hr : RpM σ L T sl q s) (h17 : fi σ 151 17 = 0) (hI : Iv L (s.2.2.1, s.2.2.2) 0 [] s) (hno : ¬ tkS L T s = -12 → ∀ τ, FrC sl n σ τ → FxM τ L T (flt s.1 0) → Q τ) (hmany : tkS L T s = -12 → n = 12 → ∀ τ, FrC sl n σ τ → FxM τ L T (flt s.1 4) → Q τ) (hsum : tkS L T s = -12 → n ≠ 12 → ∀ e, sumF L T (avF L T s) = .inl e → ∀ τ, FrC sl n σ τ → FxM τ L T e → Q τ) (htst : tkS L T s = -12 → n ≠ 12 → ∀ s1 e, sumF L T (avF L T s) = .inr s1 → tsO L T s1 = .inl e → ∀ τ, FrC sl n σ τ → FxM τ L T e → Q τ) (hok : tkS L T s = -12 → n ≠ 12 → ∀ s1 s2, sumF L T (avF L T s) = .inr s1 → tsO L T s1 = .inr s2 → ∀ τ q', FrC sl n σ τ → RpM τ L T sl q' s2 → fi τ 151 17 = 0 → ai τ 166 (12 * sl + n) = nI s.2.2.1 → ai τ 167 (12 * sl + n) = nI s1.2.2.1 → ai τ 168 (12 * sl + n) = nI s2.2.2.1 → Q τ) : K_BM_ruleClause g (nI n) σ Q := by
  have hL := hr.1.2.1
  have hT := hr.1.b
  have hp := hI.1.1
  have hsl := hr.2.2.2.1.2
  refine ko_BM_ruleClause (sg_BM_ruleClause_0 (k_BM_blanksR hr (fun r1 => ?_)))
  obtain ⟨σ1, hσ1⟩ : ∃ x, x = sfi σ 151 12 (nI s.1) := ⟨_, rfl⟩
  rw [← hσ1] at r1 ⊢
  have f1 : FrC sl n σ σ1 := by rw [hσ1]; exact FrT.c (FrM.t (FrM.s1 (by decide)))
  have h12 := r1.2.1.1
  have s17 : fi σ1 151 17 = 0 := by rw [hσ1]; exact h17
  rintro u rfl
  rw [h12]
  have wF : wdIs L T s.1 4 ↔ tkS L T s = -12 := tk_wd (s := s) hT (i := 11) (by decide)
  have fl : ∀ c, c ≤ 5 → (∀ τ, FrC sl n σ τ → FxM τ L T (flt s.1 c) → Q τ) → K_BM_fails g (nI c) (nI s.1) σ1 (fun s16 => Q s16) := fun c hc hq => k_BM_failsF (c := c) (fun τ hf => by
    obtain ⟨a, b⟩ := hf.of r1.2.2.1 h12 (by omega) hc (by omega)
    have fa : FrM sl σ1 τ := FrM.of b (by decide) (by simp)
    exact hq τ (f1.tr (FrT.c fa.t)) (r1.fx fa a))
  refine k_BM_stood (by decide) r1.1 h12 (by omega) (fun w => ⟨fun _ => ?_, fun c => absurd c (by decide)⟩) (fun w => ⟨fun c => absurd rfl c, fun _ => fl 0 (by decide) (hno (fun z => w (wF.mpr z)))⟩)
  have t := wF.mp w
  refine pk_eq n 12 (fun c => fl 4 (by decide) (hmany t c)) (fun c => ?_) |>.symm
  have hl : s.1 < L := lt_of_tok (by rw [t]; decide)
  have tn := (tk_wl hT (i := 11) (by decide) t).1
  rintro s5 e5
  rw [h12, show nI s.1 + 5 = nI (s.1 + 5) from nI_add _ 5] at e5
  have r5 : RpM s5 L T sl (s.1 + 5) (avF L T s) := by rw [e5]; exact r1.to tn hp
  have f5 : FrC sl n σ s5 := f1.tr (by rw [e5]; exact FrT.c (FrM.t (FrM.s1 (by decide))))
  have z17 : fi s5 151 17 = 0 := by rw [e5]; exact s17
  rintro u6 rfl
  have e12 : (12 : Int32) * fi s5 151 14 + nI n = nI (12 * sl + n) := by
    rw [r5.2.2.2.1.1]
    show nI 12 * nI sl + nI n = _
    rw [pk_mul, nI_add]
  rw [e12]
  have vin : vp_in (nI (12 * sl + n)) 72 := vp_in_nI (by omega) (by decide)
  refine ⟨vin, ?_⟩
  rw [nI_clamp (by omega), r5.2.2.2.2.2.1]
  rintro s7 e7
  have r7 : RpM s7 L T sl (s.1 + 5) (avF L T s) := by rw [e7]; exact r5.sa (Or.inl rfl)
  have f7 : FrC sl n σ s7 := f5.tr (by rw [e7]; exact FrC.sa (Or.inl rfl) (Nat.le_refl _))
  have v7 : ai s7 166 (12 * sl + n) = nI s.2.2.1 := by rw [e7, ai_sai, if_pos ⟨rfl, rfl⟩]; rfl
  have y17 : fi s7 151 17 = 0 := by rw [e7]; exact z17
  have iv1 := hI.av (T := T) hl
  refine k_BM_sum r7 iv1 (fun e he s8 f8 hx => ⟨vin, ?_⟩) (fun s1 he s8 f8 r8 => ⟨vin, ?_⟩)
  · rintro s9 e9
    have f9 : FrC sl n s8 s9 := by rw [e9]; exact FrC.sa (Or.inr (Or.inl rfl)) (Nat.le_refl _)
    have fl9 : FlM s9 e := by rw [e9]; exact hx.2.2.fr (F := []) (M := [167]) (fr_sai (by decide)) (by simp) (by simp)
    refine ⟨fun _ => ⟨vin, ?_⟩, fun z => absurd z fl9.ne⟩
    rintro s10 e10
    have f10 : FrC sl n s9 s10 := by rw [e10]; exact FrC.sa (Or.inr (Or.inr rfl)) (Nat.le_refl _)
    have fl10 : FlM s10 e := by rw [e10]; exact fl9.fr (F := []) (M := [168]) (fr_sai (by decide)) (by simp) (by simp)
    exact hsum t c e he s10 (f7.tr ((FrT.c f8.t).tr (f9.tr f10))) (hx.frC (f9.tr f10) fl10)
  · have iv2 := sum_iv iv1 he
    have b1 := (sum_gd (T := T) hL (av_gt (T := T) hl).2).2 s1 he
    rw [r8.2.2.2.2.2.1]
    rintro s9 e9
    have r9 : RpM s9 L T sl s1.1 s1 := by rw [e9]; exact r8.sa (Or.inr (Or.inl rfl))
    have f9 : FrC sl n σ s9 := f7.tr ((FrT.c f8.t).tr (by rw [e9]; exact FrC.sa (Or.inr (Or.inl rfl)) (Nat.le_refl _)))
    have w166 : ai s9 166 (12 * sl + n) = nI s.2.2.1 := by rw [e9, ai_sai, if_neg (fun z => absurd z.1 (by decide)), (f8.1.2 166 (by decide)).1]; exact v7
    have w167 : ai s9 167 (12 * sl + n) = nI s1.2.2.1 := by rw [e9, ai_sai, if_pos ⟨rfl, rfl⟩]
    have x17 : fi s9 151 17 = 0 := by rw [e9]; show fi s8 151 17 = 0; rw [(f8.1.1 151 17 (by decide)).1]; exact y17
    -- the end of the clause
    have fin : ∀ s2 τ q', tsO L T s1 = .inr s2 → FrC sl n σ τ → RpM τ L T sl q' s2 → fi τ 151 17 = 0 → ai τ 166 (12 * sl + n) = nI s.2.2.1 → ai τ 167 (12 * sl + n) = nI s1.2.2.1 → vp_in (nI (12 * sl + n)) 72 ∧ (∀ s13, s13 = sai τ 168 (12 * sl + n) (fi τ 151 16) → Q s13) := by
      intro s2 τ q' h2 F r a17 a166 a167
      refine ⟨vin, ?_⟩
      rw [r.2.2.2.2.2.1]
      rintro s13 e13
      refine hok t c s1 s2 he h2 s13 q' (F.tr (by rw [e13]; exact FrC.sa (Or.inr (Or.inr rfl)) (Nat.le_refl _))) (by rw [e13]; exact r.sa (Or.inr (Or.inr rfl))) (by rw [e13]; exact a17) ?_ ?_ ?_
      · rw [e13, ai_sai, if_neg (fun z => absurd z.1 (by decide))]; exact a166
      · rw [e13, ai_sai, if_neg (fun z => absurd z.1 (by decide))]; exact a167
      · rw [e13, ai_sai, if_pos ⟨rfl, rfl⟩]
    have wI' : wdIs L T s1.1 12 ↔ tkS L T s1 = -13 := tk_wd (s := s1) hT (i := 12) (by decide)
    refine ⟨fun z => absurd r9.2.2.1 z, fun _ => ko_BM_takes (sg_BM_takes_0 (by decide) (k_BM_blanksR r9 (fun r10 => ?_)))⟩
    obtain ⟨σ2, hσ2⟩ : ∃ x, x = sfi s9 151 12 (nI s1.1) := ⟨_, rfl⟩
    rw [← hσ2] at r10 ⊢
    have g1 : FrM sl s9 σ2 := by rw [hσ2]; exact FrM.s1 (by decide)
    have f10 : FrC sl n σ σ2 := f9.tr (FrT.c g1.t)
    have k12 := r10.2.1.1
    have u17 : fi σ2 151 17 = 0 := by rw [(g1.1.1 151 17 (by decide)).1]; exact x17
    have u166 : ai σ2 166 (12 * sl + n) = nI s.2.2.1 := by rw [(g1.1.2 166 (by decide)).1]; exact w166
    have u167 : ai σ2 167 (12 * sl + n) = nI s1.2.2.1 := by rw [(g1.1.2 167 (by decide)).1]; exact w167
    refine k_BM_stood (by decide) r10.1 k12 (by omega) (fun wi => ⟨fun z => absurd z (by decide), fun _ => k_JS_length (by decide) ?_⟩) (fun wi => ⟨fun _ => ?_, fun z => absurd rfl z⟩)
    · have t13 := wI'.mp wi
      have hl1 : s1.1 < L := lt_of_tok (by rw [t13]; decide)
      have tn1 := (tk_wl hT (i := 12) (by decide) t13).1
      rintro s11 e11
      rw [k12, show slen.getD 12 0 = 2 from by decide, nI_add] at e11
      have r11 : RpM s11 L T sl (s1.1 + 2) (avF L T s1) := by rw [e11]; exact r10.to tn1 b1.2
      have g2 : FrM sl σ2 s11 := by rw [e11]; exact FrM.s1 (by decide)
      have f11 : FrC sl n σ s11 := f10.tr (FrT.c g2.t)
      refine ⟨Or.inr rfl, fun z => absurd z (by decide), fun _ => ?_⟩
      have ivt := iv2.fresh.av (T := T) hl1
      refine k_BM_test r11 (by rw [(g2.1.1 151 17 (by decide)).1]; exact u17) ivt (fun e he2 s14 f14 hx => ⟨vin, ?_⟩) (fun s2 he2 s14 q' f14 r14 h14 => ?_)
      · rintro s15 e15
        have f15 : FrC sl n s14 s15 := by rw [e15]; exact FrC.sa (Or.inr (Or.inr rfl)) (Nat.le_refl _)
        have fl15 : FlM s15 e := by rw [e15]; exact hx.2.2.fr (F := []) (M := [168]) (fr_sai (by decide)) (by simp) (by simp)
        exact htst t c s1 e he (by unfold tsO; rw [if_pos t13]; exact he2) s15 (f11.tr ((FrT.c f14).tr f15)) (hx.frC f15 fl15)
      · refine fin s2 s14 q' (by unfold tsO; rw [if_pos t13]; exact he2) (f11.tr (FrT.c f14)) r14 h14 ?_ ?_
        · rw [(f14.1.2 166 (by decide)).1, (g2.1.2 166 (by decide)).1]; exact u166
        · rw [(f14.1.2 167 (by decide)).1, (g2.1.2 167 (by decide)).1]; exact u167
    · rintro s4 e4
      have e4' : s4 = σ2 := by
        rw [e4, show fi σ2 151 12 + 0 = fi σ2 151 12 from by rw [k12]; exact nI_add _ 0, sfi_self]
      rw [e4']
      refine ⟨Or.inl rfl, fun _ => ?_, fun z => absurd rfl z⟩
      exact fin s1 σ2 _ (by unfold tsO; rw [if_neg (fun z => wi (wI'.mpr z))]) f10 r10 u17 u166 u167
/-- the clauses that stand in the slot -/
def CeM (σ : St) (sl n : Nat) (sE tE : Nat → Nat) : Prop := ∀ c, c < n → ai σ 166 (12 * sl + c) = nI (rBeg tE c) ∧ ai σ 167 (12 * sl + c) = nI (sE c) ∧ ai σ 168 (12 * sl + c) = nI (tE c)
theorem CeM.frC {n m : Nat} {sE tE : Nat → Nat} {τ : St} (h : CeM σ sl n sE tE) (hf : FrC sl m σ τ) (hm : n ≤ m) : CeM τ sl n sE tE := fun c hc => by
  obtain ⟨a, b, d⟩ := hf.2.2 (12 * sl + c) (by omega)
  rw [a, b, d]; exact h c hc
theorem tk_29 (hT : ∀ k, k < L → T k < 256) : tkS L T s = -29 ↔ L ≤ s.1 := by
  constructor
  · intro h
    have e : (tk L T s.1).1.toInt = -29 := by unfold tkS at h; rw [h]; decide
    rcases tk_cases (p := s.1) hT with ⟨q, -⟩ | ⟨-, -, q⟩ | ⟨-, -, q, q2⟩ | ⟨q1, i, hi, hw, q⟩ | ⟨-, -, q⟩ | ⟨-, -, -, -, q⟩ | ⟨-, -, -, k', hk', hs, ⟨-, -, q, -⟩ | ⟨-, q, -⟩⟩
    · exact q
    · omega
    · rw [q, nI_toInt (by omega)] at e; omega
    · omega
    · omega
    · omega
    · rw [e] at q
      split at q <;> omega
    · omega
  · intro h; unfold tkS; rw [tk_end h]
theorem ruleM_loop {Q : Int32 → St → Prop} (hend : ∀ (n : Nat) (τ : St), n ≤ 13 → FrC sl 0 σ τ → (∀ e, ruL L T 13 (ps0 (skF L T 0)) 0 (fun _ => 0) (fun _ => 0) = .inl e → fi τ 151 13 = nI e → S_BM_rule_27 g Q τ (nI n) 0) ∧ (∀ r, ruL L T 13 (ps0 (skF L T 0)) 0 (fun _ => 0) (fun _ => 0) = .inr r → r.2.2.1 = n → fi τ 151 13 = 0 → CeM τ sl n r.2.2.2.1 r.2.2.2.2 → (∀ j, j < r.2.1 → tkM (r.1 j) (ai τ 163 (300 * sl + j)) (ai τ 164 (300 * sl + j))) → S_BM_rule_27 g Q τ (nI n) 0)) : ∀ (f n : Nat) (sE tE : Nat → Nat) (s : PS) (q : Nat) (τ : St), n + f = 13 → 0 < f → Iv L (s.2.2.1, s.2.2.2) 0 [] s → rBeg tE n = s.2.2.1 → RpM τ L T sl q s → fi τ 151 17 = 0 → FrC sl 0 σ τ → CeM τ sl n sE tE → ruL L T f s n sE tE = ruL L T 13 (ps0 (skF L T 0)) 0 (fun _ => 0) (fun _ => 0) → S_BM_rule_27 g Q τ (nI n) 1 := by
  intro f
  induction f with
  | zero => intro n sE tE s q τ _ h0; exact absurd h0 (by decide)
  | succ f ih =>
    intro n sE tE s q τ hn _ hI hB hr h17 F hC heq
    have hL := hr.1.2.1
    have hT := hr.1.b
    unfold ruL at heq
    refine sg_BM_rule_27 ⟨fun c => absurd c (by decide), fun _ => ?_⟩
    -- a fault
    have stop : ∀ e τ2, FrC sl n τ τ2 → FxM τ2 L T e → (.inl e : Nat ⊕ RuleT) = ruL L T 13 (ps0 (skF L T 0)) 0 (fun _ => 0) (fun _ => 0) → ∀ u4 : Int32, u4 = nI n + 1 → K_BM_goesOn g τ2 (fun r6 s5 => S_BM_rule_27 g Q s5 u4 r6) := by
      intro e τ2 f2 hx he u4 eu
      rw [eu, nI_1]
      refine k_BM_goesOnF hx.1 hx.2.2 (fun τ3 f3 => ?_)
      exact (hend (n + 1) τ3 (by omega) (F.tr ((f2.lo (Nat.zero_le _)).tr (FrT.c (FrM.t (FrM.of f3 (by decide) (by simp))))))).1 e he.symm (by rw [(f3.1 151 13 (by decide)).1]; exact hx.2.2.1)
    refine k_BM_ruleClause (by omega) hr h17 hI (fun c τ2 f2 hx => ?_) (fun c c2 τ2 f2 hx => ?_) (fun c c2 e he τ2 f2 hx => ?_) (fun c c2 s1 e he he2 τ2 f2 hx => ?_) (fun c c2 s1 s2 he he2 τ2 q' f2 r2 k17 k166 k167 k168 => ?_)
    · rw [if_pos c] at heq
      exact stop _ τ2 f2 hx heq
    · rw [if_neg (fun z => z c), if_pos c2] at heq
      exact stop _ τ2 f2 hx heq
    · rw [if_neg (fun z => z c), if_neg c2, he] at heq
      exact stop e τ2 f2 hx heq
    · rw [if_neg (fun z => z c), if_neg c2, he] at heq
      unfold tsO at he2
      dsimp only at heq
      rw [he2] at heq
      exact stop e τ2 f2 hx heq
    · rw [if_neg (fun z => z c), if_neg c2, he] at heq
      have he2' := he2
      unfold tsO at he2
      dsimp only at heq
      rw [he2] at heq
      dsimp only at heq
      have hl : s.1 < L := lt_of_tok (by rw [c]; decide)
      have iv1 := sum_iv (hI.av (T := T) hl) he
      have iv2 : Iv L (s2.2.2.1, s2.2.2.2) 0 [] s2 := by
        by_cases t13 : tkS L T s1 = -13
        · rw [if_pos t13] at he2
          exact (tst_iv hT (iv1.fresh.av (T := T) (lt_of_tok (by rw [t13]; decide))) he2).fresh
        · rw [if_neg t13] at he2
          cases he2; exact iv1.fresh
      have C2 : CeM τ2 sl (n + 1) (upP sE n s1.2.2.1) (upP tE n s2.2.2.1) := by
        intro k hk
        rw [rBeg_up (by omega)]
        by_cases e : k = n
        · subst e
          rw [upP_same, upP_same, hB]; exact ⟨k166, k167, k168⟩
        · rw [upP_ne e, upP_ne e]
          exact hC.frC f2 (Nat.le_refl _) k (by omega)
      have F2 : FrC sl 0 σ τ2 := F.tr (f2.lo (Nat.zero_le _))
      have sk := r2.2.1.2.2
      rintro u4 rfl
      rw [nI_1]
      refine k_BM_goesOn r2.1 r2.2.1.2.1 r2.2.1.1 r2.2.2.1 (fun w τ3 f3 => ?_) (fun w w2 => ?_) (fun w w2 τ3 f3 h13 => ?_)
      · rw [sk] at w
        rw [if_pos ((tk_29 hT).mpr w)] at heq
        have fm : FrM sl τ2 τ3 := FrM.of f3 (by decide) (by simp)
        refine (hend (n + 1) τ3 (by omega) (F2.tr (FrT.c fm.t))).2 _ heq.symm rfl (by rw [(f3.1 151 13 (by decide)).1]; exact r2.2.2.1) (C2.frC (FrT.c (n := n + 1) fm.t) (Nat.le_refl _)) (fun j hj => ?_)
        rw [(f3.2 163 (by decide)).1, (f3.2 164 (by decide)).1]; exact r2.2.2.2.2.2.2.2 j hj
      · rw [sk] at w w2 ⊢
        have t22 : tkS L T s2 = -22 := (tk_chr hT (k := 8) (by decide) (by decide) (by decide)).mp ⟨w, w2⟩
        rw [if_neg (by rw [t22]; decide), if_pos t22] at heq
        have t1 := tk_one hT (k := 8) (by decide) (by decide) (by decide) t22
        have n12 : n + 1 ≤ 12 := by omega
        exact ih (n + 1) _ _ (avF L T s2) _ _ (by omega) (by omega) (iv2.av w) (by unfold rBeg; rw [if_neg (by omega), Nat.add_sub_cancel, upP_same]; rfl) (r2.to t1 (by omega)) (by exact k17) (F2.tr (FrT.c (FrM.t (FrM.s1 (by decide))))) (C2.frC (FrT.c (n := n + 1) (FrM.t (FrM.s1 (by decide)))) (Nat.le_refl _)) heq
      · rw [sk] at w w2 h13
        have t29 : ¬ tkS L T s2 = -29 := fun z => by have := (tk_29 hT).mp z; omega
        have t22 : ¬ tkS L T s2 = -22 := fun z => w2 ((tk_chr hT (k := 8) (by decide) (by decide) (by decide)).mpr z).2
        rw [if_neg t29, if_neg t22] at heq
        exact (hend (n + 1) τ3 (by omega) (F2.tr (FrT.c (FrM.t (FrM.of f3 (by decide) (by simp)))))).1 _ heq.symm h13
end
section
variable {g : Gx} {σ : St} {nr L : Nat} {T : Nat → Nat} {Ru : Nat → RuleT}
def upR (Ru : Nat → RuleT) (n : Nat) (r : RuleT) : Nat → RuleT := fun i => if i = n then r else Ru i
theorem kM_rule {Q : Int32 → St → Prop} (hx : TxM σ L T) (h20 : fi σ 151 20 = 8) (hr : RulM σ nr Ru) (hfull : nr = 6 → Q (-1) σ) (hbad : nr < 6 → ∀ e, ruL L T 13 (ps0 (skF L T 0)) 0 (fun _ => 0) (fun _ => 0) = .inl e → ∀ τ, fr [(151, 11), (151, 12), (151, 13), (151, 14), (151, 15), (151, 16), (151, 17), (151, 18), (151, 19)] [163, 164, 165, 166, 167, 168, 169] σ τ → fi τ 151 11 = 0 → RulM τ nr Ru → Q (-2 - nI e) τ) (hok : nr < 6 → ∀ r, ruL L T 13 (ps0 (skF L T 0)) 0 (fun _ => 0) (fun _ => 0) = .inr r → ∀ τ, fr [(151, 11), (151, 12), (151, 13), (151, 14), (151, 15), (151, 16), (151, 17), (151, 18), (151, 19)] [163, 164, 165, 166, 167, 168, 169] σ τ → fi τ 151 11 = 0 → RulM τ (nr + 1) (upR Ru nr r) → Q (nI nr) τ) : K_BM_rule g σ Q := by
  have hL := hx.2.1
  have hn6 := hr.1
  have h15 := hr.2.1
  refine ko_BM_rule (sg_BM_rule_0 ?_)
  rw [h15]
  refine pk_eq nr 6 (fun c => hfull c) (fun c => ?_) |>.symm
  have hn : nr < 6 := by omega
  have iv0 := ps0_iv (skF_le (T := T) (Nat.zero_le L))
  have spec := ruL_ok hL hx.b 13 (s := ps0 (skF L T 0)) (n := 0) (sE := fun _ => 0) (tE := fun _ => 0) rfl (by decide) iv0 (fun i hi => absurd hi (Nat.not_lt_zero _)) rfl
  rintro s1 e1
  refine ko_BM_starts (sg_BM_starts_0 ?_)
  rintro t1 d1 t2 d2 t3 d3 t4 d4 t5 d5
  have f5 : fr [(151, 12), (151, 13), (151, 14), (151, 16), (151, 17), (151, 18)] [] σ t5 := by
    rw [d5, d4, d3, d2, d1, e1]
    exact (((((fr_sfi (by decide)).tr (fr_sfi (by decide))).tr (fr_sfi (by decide))).tr (fr_sfi (by decide))).tr (fr_sfi (by decide))).tr (fr_sfi (by decide))
  have r0 : RpM t5 L T nr 0 (ps0 (skF L T 0)) := by
    refine ⟨hx.frm f5 (by decide) (by decide), ⟨by rw [d5, d4, d3, d2, d1]; rfl, Nat.zero_le _, rfl⟩, by rw [d5, d4, d3, d2]; rfl, ⟨by rw [d5, d4, d3, d2, d1, e1]; rfl, hn⟩, by rw [d5]; rfl, by rw [d5, d4, d3]; rfl, ?_, fun j hj => absurd hj (Nat.not_lt_zero _)⟩
    rw [(f5.1 151 20 (by decide)).1]; exact h20
  -- the rules that stood before
  have keep : ∀ τ, FrC nr 0 t5 τ → ∀ i, i < nr → RuM i τ (Ru i) := by
    intro τ hf i hi
    obtain ⟨w, m⟩ := hr.2.2 i hi
    obtain ⟨m1, m2, m3⟩ := m
    have w1 := w.1
    have w2 := w.2.1
    refine ⟨fun j hj => ?_, fun c hc => ?_, ?_⟩
    · obtain ⟨a, b⟩ := hf.2.1 (300 * i + j) (by omega)
      rw [a, b, (f5.2 163 (by decide)).1, (f5.2 164 (by decide)).1]; exact m1 j hj
    · obtain ⟨a, b, d⟩ := hf.2.2 (12 * i + c) (by omega)
      rw [a, b, d, (f5.2 166 (by decide)).1, (f5.2 167 (by decide)).1, (f5.2 168 (by decide)).1]; exact m2 c hc
    · rw [(hf.1.2 165 (by decide)).1, (f5.2 165 (by decide)).1]; exact m3
  have RuMup : ∀ {i : Nat} {τ υ : St} {r : RuleT}, RuM i τ r → fr [(151, 11), (151, 15)] [165] τ υ → (ai υ 165 i = ai τ 165 i) → RuM i υ r := by
    intro i τ υ r h hf h165
    obtain ⟨m1, m2, m3⟩ := h
    refine ⟨?_, ?_, by rw [h165]; exact m3⟩
    · rw [(hf.2 163 (by decide)).1, (hf.2 164 (by decide)).1]; exact m1
    · rw [(hf.2 166 (by decide)).1, (hf.2 167 (by decide)).1, (hf.2 168 (by decide)).1]; exact m2
  refine ruleM_loop (σ := t5) (sl := nr) (L := L) (T := T) (g := g) (Q := Q) (fun n τ hn13 hf => ⟨fun e he h13 => ?_, fun r he hrn h13 hC hK => ?_⟩) 13 0 _ _ _ 0 t5 rfl (by decide) iv0 rfl r0 (by rw [d5, d4]; rfl) FrC.rf (fun c hc => absurd hc (Nat.not_lt_zero _)) rfl
  · obtain ⟨e0, e4⟩ := spec.1 e he
    refine sg_BM_rule_27 ⟨fun _ => ?_, fun z => absurd rfl z⟩
    rintro u1 g1
    have b14 : fi u1 151 14 = nI nr := by rw [g1]; show fi τ 151 14 = _; rw [(hf.1.1 151 14 (by decide)).1]; exact r0.2.2.2.1.1
    rw [b14, nI_clamp (by omega)]
    refine ⟨vp_in_nI hn (by decide), ?_⟩
    rintro u2 g2
    have b13 : fi u2 151 13 = nI e := by rw [g2, g1]; exact h13
    have b15 : fi u2 151 15 = nI nr := by rw [g2, g1]; show fi τ 151 15 = _; rw [(hf.1.1 151 15 (by decide)).1, (f5.1 151 15 (by decide)).1]; exact h15
    rw [b13, b15]
    refine ⟨fun _ => sg_BM_rule_79 ?_, fun z => absurd z (nI_ne0 e0 (by omega))⟩
    rintro u3 g3
    rw [show nI nr + 0 = nI nr from nI_add _ 0] at g3
    have c13 : fi u3 151 13 = nI e := by rw [g3]; exact b13
    rw [c13]
    have fu : fr [(151, 11), (151, 15)] [165] τ u3 := by rw [g3, g2, g1]; exact ((fr_sfi (by decide)).tr (fr_sai (by decide))).tr (fr_sfi (by decide))
    refine ⟨fun z => absurd z (nI_nle e0 (by omega)), fun _ => hbad hn e he u3 ?_ ?_ ⟨hn6, by rw [g3]; rfl, fun i hi => ⟨(hr.2.2 i hi).1, RuMup (keep τ hf i hi) fu ?_⟩⟩⟩
    · exact (f5.mo (by decide) (by simp)).tr ((hf.1.mo (by decide) (by decide)).tr (fu.mo (by decide) (by decide)))
    · rw [g3, g2, g1]; rfl
    · rw [g3, ai_sfi, g2, ai_sai, if_neg (fun z => by omega), g1, ai_sfi]
  · have wr := (spec.2 r he).1
    refine sg_BM_rule_27 ⟨fun _ => ?_, fun z => absurd rfl z⟩
    rintro u1 g1
    have b14 : fi u1 151 14 = nI nr := by rw [g1]; show fi τ 151 14 = _; rw [(hf.1.1 151 14 (by decide)).1]; exact r0.2.2.2.1.1
    rw [b14, nI_clamp (by omega)]
    refine ⟨vp_in_nI hn (by decide), ?_⟩
    rintro u2 g2
    have b13 : fi u2 151 13 = 0 := by rw [g2, g1]; exact h13
    have b15 : fi u2 151 15 = nI nr := by rw [g2, g1]; show fi τ 151 15 = _; rw [(hf.1.1 151 15 (by decide)).1, (f5.1 151 15 (by decide)).1]; exact h15
    rw [b13, b15]
    refine ⟨fun z => absurd rfl z, fun _ => sg_BM_rule_79 ?_⟩
    rintro u3 g3
    rw [nI_1] at g3
    have c13 : fi u3 151 13 = 0 := by rw [g3]; exact b13
    have c15 : fi u3 151 15 = nI (nr + 1) := by rw [g3]; rfl
    rw [c13, c15, nI_m1 (by omega), Nat.add_sub_cancel]
    have fu : fr [(151, 11), (151, 15)] [165] τ u3 := by rw [g3, g2, g1]; exact ((fr_sfi (by decide)).tr (fr_sai (by decide))).tr (fr_sfi (by decide))
    have v165 : ∀ i, ai u3 165 i = if i = nr then nI n else ai τ 165 i := by
      intro i
      rw [g3, ai_sfi, g2, ai_sai, g1, ai_sfi]; simp only [true_and]
    refine ⟨fun _ => hok hn r he u3 ?_ ?_ ⟨by omega, c15, fun i hi => ?_⟩, fun z => absurd (by decide) z⟩
    · exact (f5.mo (by decide) (by simp)).tr ((hf.1.mo (by decide) (by decide)).tr (fu.mo (by decide) (by decide)))
    · rw [g3, g2, g1]; rfl
    · unfold upR
      by_cases ei : i = nr
      · rw [if_pos ei]
        refine ⟨wr, ?_⟩
        rw [ei]
        refine ⟨fun j hj => ?_, fun c hc => ?_, ?_⟩
        · rw [(fu.2 163 (by decide)).1, (fu.2 164 (by decide)).1]; exact hK j hj
        · rw [(fu.2 166 (by decide)).1, (fu.2 167 (by decide)).1, (fu.2 168 (by decide)).1]
          exact hC c (by rw [← hrn]; exact hc)
        · rw [v165, if_pos rfl, hrn]
      · rw [if_neg ei]
        refine ⟨(hr.2.2 i (by omega)).1, RuMup (keep τ hf i (by omega)) fu ?_⟩
        rw [v165, if_neg ei]
-- the class
theorem ru_of {k : Nat} (hk : k < 6) : isRU (22 + 5 * k) := by
  rcases (show k = 0 ∨ k = 1 ∨ k = 2 ∨ k = 3 ∨ k = 4 ∨ k = 5 by omega) with rfl | rfl | rfl | rfl | rfl | rfl
  · exact ru_22
  · exact ru_27
  · exact ru_32
  · exact ru_37
  · exact ru_42
  · exact ru_47
theorem k_RU_takeOver {Q : St → Prop} {t : Nat} {r : RuleT} (ht : isRU t) (hne : t ≠ 12) (h : RuC 12 σ r) (hw : RuleWF r) (hQ : ∀ τ, fr [(t, 4), (t, 5), (t, 6)] [t + 1, t + 2, t + 3] σ τ → RuC t τ r → Q τ) : K_RU_takeOver g t 12 σ Q := by
  have t20 : 20 ≤ t := by
    unfold isRU at ht
    simp at ht
    omega
  refine ko_RU_takeOver (sg_RU_takeOver_0 ht ru_12 ?_)
  rintro s1 e1 s2 e2 s3 e3 s4 e4 s5 e5 s6 e6
  have f6 : fr [(t, 4), (t, 5), (t, 6)] [t + 1, t + 2, t + 3] σ s6 := by
    rw [e6, e5, e4, e3, e2, e1]
    exact (((((fr_rai (by simp)).tr (fr_rai (by simp))).tr (fr_rai (by simp))).tr (fr_sfi (by simp))).tr (fr_sfi (by simp))).tr (fr_sfi (by simp))
  obtain ⟨c1, c2, c3, c4⟩ := h
  have w1 := hw.1
  have w2 := hw.2.1
  have v1 : ∀ j, j < 400 → ai s6 (t + 1) j = ai σ 13 j := by
    intro j hj
    rw [e6, ai_sfi, e5, ai_sfi, e4, ai_sfi, e3, ai_raiN, if_neg (by omega), e2, ai_raiN, if_neg (by omega), e1, ai_raiN, if_pos rfl]
    exact pk_cpy_in (Nat.zero_le _) (show j < 0 + 400 by omega) |>.trans (by show ai σ 13 (0 + (j - 0)) = _; rw [Nat.zero_add, Nat.sub_zero])
  have v2 : ∀ j, j < 12 → ai s6 (t + 2) j = ai σ 14 j := by
    intro j hj
    rw [e6, ai_sfi, e5, ai_sfi, e4, ai_sfi, e3, ai_raiN, if_neg (by omega), e2, ai_raiN, if_pos rfl]
    refine pk_cpy_in (Nat.zero_le _) (show j < 0 + 12 by omega) |>.trans ?_
    show ai s1 14 (0 + (j - 0)) = _
    rw [Nat.zero_add, Nat.sub_zero, e1, ai_raiN, if_neg (by omega)]
  have v3 : ∀ j, j < 12 → ai s6 (t + 3) j = ai σ 15 j := by
    intro j hj
    rw [e6, ai_sfi, e5, ai_sfi, e4, ai_sfi, e3, ai_raiN, if_pos rfl]
    refine pk_cpy_in (Nat.zero_le _) (show j < 0 + 12 by omega) |>.trans ?_
    show ai s2 15 (0 + (j - 0)) = _
    rw [Nat.zero_add, Nat.sub_zero, e2, ai_raiN, if_neg (by omega), e1, ai_raiN, if_neg (by omega)]
  have v5 : fi s6 t 5 = fi σ 12 5 := by
    rw [e6, fi_sfi, if_neg (fun z => by omega), e5, fi_sfi, if_pos ⟨rfl, rfl⟩, e4, fi_sfi, if_neg (fun z => by omega), e3, e2, e1]; rfl
  have v6 : fi s6 t 6 = fi σ 12 6 := by
    rw [e6, fi_sfi, if_pos ⟨rfl, rfl⟩, e5, fi_sfi, if_neg (fun z => by omega), e4, fi_sfi, if_neg (fun z => by omega), e3, e2, e1]; rfl
  refine hQ s6 f6 ⟨fun j hj => by rw [v1 j (by omega)]; exact c1 j hj, fun c hc => by rw [v2 c (by omega), v3 c (by omega)]; exact c2 c hc, by rw [v5]; exact c3, by rw [v6]; exact c4⟩
theorem ruC_frm {τ : St} {t : Nat} {r : RuleT} {F : List (Nat × Nat)} {M : List Nat} (h : RuC t σ r) (hf : fr F M σ τ) (h5 : (t, 5) ∉ F) (h6 : (t, 6) ∉ F) (m1 : t + 1 ∉ M) (m2 : t + 2 ∉ M) (m3 : t + 3 ∉ M) : RuC t τ r := by
  unfold RuC
  rw [(hf.1 t 5 h5).1, (hf.1 t 6 h6).1, (hf.2 (t + 1) m1).1, (hf.2 (t + 2) m2).1, (hf.2 (t + 3) m3).1]; exact h
theorem kB_rule {Q : Int32 → St → Prop} (hx : TxC σ L T) (hr : RulC σ nr Ru) (hfull : nr = 6 → Q (-1) σ) (hbad : nr < 6 → ∀ e, ruL L T 13 (ps0 (skF L T 0)) 0 (fun _ => 0) (fun _ => 0) = .inl e → ∀ τ, fr [(1, 1), (1, 2), (1, 3), (9, 2), (9, 3), (9, 4), (9, 5), (12, 4), (12, 5), (12, 6)] [10, 11, 13, 14, 15] σ τ → fi τ 1 1 = 0 → Q (-2 - nI e) τ) (hok : nr < 6 → ∀ r, ruL L T 13 (ps0 (skF L T 0)) 0 (fun _ => 0) (fun _ => 0) = .inr r → ∀ τ t, t = 22 + 5 * nr → fr [(1, 1), (1, 2), (1, 3), (9, 2), (9, 3), (9, 4), (9, 5), (12, 4), (12, 5), (12, 6), (17, 5), (t, 4), (t, 5), (t, 6)] [10, 11, 13, 14, 15, t + 1, t + 2, t + 3] σ τ → fi τ 1 1 = 0 → RulC τ (nr + 1) (upR Ru nr r) → Q (nI nr) τ) : K_BB_rule g σ Q := by
  have hL := hx.2.1
  have hn6 := hr.1
  have iv0 := ps0_iv (skF_le (T := T) (Nat.zero_le L))
  have spec := ruL_ok hL hx.b 13 (s := ps0 (skF L T 0)) (n := 0) (sE := fun _ => 0) (tE := fun _ => 0) rfl (by decide) iv0 (fun i hi => absurd hi (Nat.not_lt_zero _)) rfl
  refine ko_BB_rule (sg_BB_rule_0 ?_)
  rw [hr.2.1]
  refine pk_lt nr 6 (fun hn => k_RR_read hx (fun e he τ hf => ?_) (fun r he τ hf hc h4 => ?_)) (fun hn => hfull (by omega))
  · rintro s3 rfl
    obtain ⟨e0, e4⟩ := spec.1 e he
    exact ⟨fun c => absurd c (nI_ne0 e0 (by omega)), fun _ => hbad hn e he _ ((hf.mo (by decide) (by decide)).tr (fr_sfi (by decide))) rfl⟩
  · rintro s3 e3
    refine ⟨fun _ => ?_, fun c => absurd rfl c⟩
    have wr := (spec.2 r he).1
    have f3 : fr [(1, 1), (1, 2), (1, 3), (9, 2), (9, 3), (9, 4), (9, 5), (12, 4), (12, 5), (12, 6)] [10, 11, 13, 14, 15] σ s3 := by rw [e3]; exact (hf.mo (by decide) (by decide)).tr (fr_sfi (by decide))
    have c3 : RuC 12 s3 r := by rw [e3]; exact ruC_frm (F := [(1, 1)]) (M := []) hc (fr_sfi (by decide)) (by decide) (by decide) (by decide) (by decide) (by decide)
    have n5 : fi s3 17 5 = nI nr := by rw [(f3.1 17 5 (by decide)).1]; exact hr.2.1
    refine ko_RO_addRule (sg_RO_addRule_0 ru_12 ?_)
    rw [n5]
    refine ⟨fun c => absurd c (nI_ge (b := 6) hn (by decide)), fun _ => ⟨vp_in_nI hn (by decide), ?_⟩⟩
    rw [nI_clamp (by omega)]
    rintro t et hsa
    refine k_RU_takeOver hsa (by omega) c3 wr (fun τ4 f4 c4 => ?_)
    rintro s5 e5
    have m5 : fi τ4 17 5 = nI nr := by rw [(f4.1 17 5 (by simp <;> omega)).1]; exact n5
    rw [m5, nI_1] at e5
    have f5 : fr [(17, 5)] [] τ4 s5 := by rw [e5]; exact fr_sfi (by decide)
    have v5 : fi s5 17 5 = nI (nr + 1) := by rw [e5]; rfl
    rw [v5, nI_m1 (by omega), Nat.add_sub_cancel]
    refine hok hn r he s5 t et ((f3.mo (by simp) (by simp)).tr ((f4.mo (by simp) (by simp)).tr (f5.mo (by simp) (by simp)))) ?_ ⟨by omega, v5, fun i hi => ?_⟩
    · rw [(f5.1 1 1 (by decide)).1, (f4.1 1 1 (by simp <;> omega)).1, e3]; rfl
    · unfold upR
      by_cases ei : i = nr
      · rw [if_pos ei]
        refine ⟨wr, ?_⟩
        rw [ei, ← et]
        exact ruC_frm c4 f5 (by simp <;> omega) (by simp <;> omega) (by simp) (by simp) (by simp)
      · rw [if_neg ei]
        obtain ⟨w, c⟩ := hr.2.2 i (by omega)
        refine ⟨w, ruC_frm (ruC_frm (ruC_frm c f3 ?_ ?_ ?_ ?_ ?_) f4 ?_ ?_ ?_ ?_ ?_) f5 ?_ ?_ ?_ ?_ ?_⟩
        all_goals (simp <;> omega)
end
