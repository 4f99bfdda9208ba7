-- a rule's text: the class, its tests and clauses
theorem i32_ss (a x : Int32) : a - (a - x) = x := by
  rw [Int32.sub_eq_add_neg a (a - x), Int32.neg_sub, Int32.add_comm, Int32.sub_add_cancel]
section
variable {L N : Nat} {T : Nat → Nat} {g : Gx} {σ : St} {s : PS}
theorem RpC.addO {w : Bool} {P1 : St → Prop} (h : RpC σ L T N s) (hl : s.2.2.1 < 400) (hP : ∀ τ, fr [(9, 3), (9, 4), (9, 5), (12, 4), (12, 6)] [13] σ τ → RpC τ L T N (orF w s) → P1 τ) : ((if w = true then (1 : Int32) else 0) = 0 → P1 σ) ∧ (¬ (if w = true then (1 : Int32) else 0) = 0 → K_RU_add g 12 (-11) σ (fun s1 => P1 s1)) := by
  cases w with
  | false => exact ⟨fun _ => hP σ fr.rf h, fun c => absurd rfl c⟩
  | true => exact ⟨fun c => absurd c (by decide), fun _ => h.add hl hP⟩
theorem k_RR_takes {Q : Int32 → St → Prop} {x : Int32} (h : RpC σ L T N s) (hx : x ≠ -29 ∧ x ≠ -28) (h1 : tkS L T s = x → ∀ τ, fr [(9, 3), (9, 4), (9, 5), (12, 4), (12, 6)] [13] σ τ → RpC τ L T N (avF L T s) → Q 1 τ) (h0 : ¬ tkS L T s = x → Q 0 σ) : K_RR_takes g x σ Q := by
  refine ko_RR_takes (sg_RR_takes_0 (h.here ⟨fun q => ?_, fun q => h0 q⟩))
  rintro s3 e3
  obtain ⟨r, f⟩ := h.adv (by rw [q]; exact hx.1) (by rw [q]; exact hx.2) e3
  exact h1 q s3 f r
def FaC (g : Gx) (L : Nat) (T : Nat → Nat) (N d : Nat) : Prop := ∀ (σ : St) (s : PS) (k : Nat) (i0 : Nat × (Nat → Int32)) (ts : List Bool) (Q : Int32 → St → Prop), RpC σ L T N s → Iv L i0 k ts s → (∀ e, fct L T d s = .inl e → ∀ τ, fr [(9, 3), (9, 4), (9, 5), (12, 4), (12, 6)] [13] σ τ → fi τ 9 5 = nI e → Q 0 τ) → (∀ s1, fct L T d s = .inr s1 → ∀ τ, fr [(9, 3), (9, 4), (9, 5), (12, 4), (12, 6)] [13] σ τ → RpC τ L T N s1 → Q 1 τ) → K_RR_readFact g d (nI (10 - d)) σ Q
theorem test_loop {Q : Int32 → St → Prop} {d : Nat} (hL : L ≤ 400) (hT : ∀ k, k < L → T k < 256) (hF : FaC g L T N d) {k : Nat} {i0 : Nat × (Nat → Int32)} {ts : List Bool} : ∀ (D n i : Nat) (w : Bool) (s : PS) (σ : St), L - s.1 ≤ D → D < n → i ≤ s.1 → Iv L i0 (k + (if w = true then 1 else 0)) (true :: (if w = true then true :: ts else ts)) s → RpC σ L T N s → (∀ e, tsL L T (fct L T d) n w s = .inl e → ∀ τ, fr [(9, 3), (9, 4), (9, 5), (12, 4), (12, 6)] [13] σ τ → fi τ 9 5 = nI e → Q 0 τ) → (∀ s2, tsL L T (fct L T d) n w s = .inr s2 → ∀ τ, fr [(9, 3), (9, 4), (9, 5), (12, 4), (12, 6)] [13] σ τ → RpC τ L T N s2 → Q 1 τ) → S_RR_readTest_14 g d Q σ (nI (10 - d)) (if w = true then 1 else 0) (nI i) := by
  intro D
  induction D with
  | zero =>
    intro n i w s σ hD hn hi hI hr hbad hok
    have hp := hI.1.1
    have l3 := hI.l390 hL
    obtain ⟨n, rfl⟩ : ∃ n', n = n' + 1 := ⟨n - 1, by omega⟩
    have t29 : tkS L T s = -29 := by unfold tkS; rw [tk_end (by omega)]
    unfold tsL at hok
    rw [if_neg (by rw [t29]; decide), if_neg (by rw [t29]; decide)] at hok
    refine sg_RR_readTest_14 ⟨fun c => absurd c (nI_ge (b := 401) (by omega) (by decide)), fun _ => hr.here ?_⟩
    rw [t29]
    exact ⟨fun c => absurd c (by decide), fun _ => ⟨fun c => absurd c (by decide), fun _ => hr.addO (g := g) (P1 := fun τ => Q 1 τ) (by omega) (fun τ hf hr2 => hok _ rfl τ hf hr2)⟩⟩
  | succ D ih =>
    intro n i w s σ hD hn hi hI hr hbad hok
    have hp := hI.1.1
    have l3 := hI.l390 hL
    obtain ⟨n, rfl⟩ : ∃ n', n = n' + 1 := ⟨n - 1, by omega⟩
    unfold tsL at hbad hok
    refine sg_RR_readTest_14 ⟨fun c => absurd c (nI_ge (b := 401) (by omega) (by decide)), fun _ => hr.here ⟨fun q => ?_, fun q => ⟨fun q2 => ?_, fun q2 => ?_⟩⟩⟩
    · rw [if_pos q] at hbad hok
      have hl : s.1 < L := lt_of_tok (by rw [q]; decide)
      refine sg_RR_readTest_44 ⟨fun _ => sg_RR_readTest_66 ?_, fun c => absurd (q ▸ c) (by decide)⟩
      rintro s1 e1
      obtain ⟨r1, f1⟩ := hr.adv (by rw [q]; decide) (by rw [q]; decide) e1
      have iv1 := hI.av (T := T) hl
      have ag := av_gt (T := T) hl
      have fg := fct_gd (T := T) hL d _ ag.2
      refine hF s1 _ _ _ _ _ r1 iv1 (fun e he τ hf h5 => ⟨fun c => absurd rfl c, fun _ => ?_⟩) (fun s2 he τ hf hr2 => ⟨fun _ => ⟨fun c => absurd q c, fun _ => ?_⟩, fun c => absurd c (by decide)⟩)
      · rw [he] at hbad
        exact hbad e rfl τ (f1.tr hf) h5
      · rw [he] at hbad hok
        have iv2 := fct_iv hT d _ _ _ _ iv1 he
        have l5 := iv2.l390 hL
        have b2 := fg.2 s2 he
        refine hr2.add (by omega) (fun τ2 f2 r3 => ?_)
        rintro u rfl
        rw [nI_1]
        refine ih n (i + 1) w (emF s2 (-10)) τ2 (show L - s2.1 ≤ D by omega) (by omega) (show i + 1 ≤ s2.1 by omega) (iv2.em rfl (by have := iv2.2.2.2; simp only [List.length_cons] at this ⊢; omega)) r3 (fun e he2 τ3 f3 h5 => hbad e he2 τ3 (f1.tr (hf.tr (f2.tr f3))) h5) (fun s4 he2 τ3 f3 r4 => hok s4 he2 τ3 (f1.tr (hf.tr (f2.tr f3))) r4)
    · rw [if_neg q, if_pos q2] at hbad hok
      have hl : s.1 < L := lt_of_tok (by rw [q2]; decide)
      refine sg_RR_readTest_44 ⟨fun c => absurd q2 c, fun _ => ?_⟩
      refine hr.addO (g := g) (P1 := fun τ => S_RR_readTest_66 g d Q τ (nI (10 - d)) 1 (nI i) (tkS L T s)) (by omega) (fun τ0 f0 r0 => sg_RR_readTest_66 ?_)
      rintro s1 e1
      obtain ⟨r1, f1⟩ := r0.adv (by rw [tk_or, q2]; decide) (by rw [tk_or, q2]; decide) e1
      have iv1 := hI.or.av (T := T) (by rw [or_p]; exact hl)
      have ag := av_gt (T := T) (s := orF w s) (by rw [or_p]; exact hl)
      rw [or_p] at ag
      have fg := fct_gd (T := T) hL d _ ag.2
      refine hF s1 _ _ _ _ _ r1 iv1 (fun e he τ hf h5 => ⟨fun c => absurd rfl c, fun _ => ?_⟩) (fun s2 he τ hf hr2 => ⟨fun _ => ⟨fun _ => ?_, fun c => absurd (q2 ▸ c) (by decide)⟩, fun c => absurd c (by decide)⟩)
      · rw [he] at hbad
        exact hbad e rfl τ (f0.tr (f1.tr hf)) h5
      · rw [he] at hbad hok
        have iv2 := fct_iv hT d _ _ _ _ iv1 he
        have b2 := fg.2 s2 he
        rintro u rfl
        rw [nI_1]
        exact ih n (i + 1) true s2 τ (by omega) (by omega) (by omega) iv2 hr2 (fun e he2 τ3 f3 h5 => hbad e he2 τ3 (f0.tr (f1.tr (hf.tr f3))) h5) (fun s4 he2 τ3 f3 r4 => hok s4 he2 τ3 (f0.tr (f1.tr (hf.tr f3))) r4)
    · rw [if_neg q, if_neg q2] at hok
      exact hr.addO (g := g) (P1 := fun τ => Q 1 τ) (by omega) (fun τ hf hr2 => hok _ rfl τ hf hr2)
theorem k_RR_readTest {Q : Int32 → St → Prop} {d k : Nat} {i0 : Nat × (Nat → Int32)} {ts : List Bool} (hL : L ≤ 400) (hT : ∀ k, k < L → T k < 256) (hF : FaC g L T N d) (hr : RpC σ L T N s) (hi : Iv L i0 k ts s) (hbad : ∀ e, tstF L T d s = .inl e → ∀ τ, fr [(9, 3), (9, 4), (9, 5), (12, 4), (12, 6)] [13] σ τ → fi τ 9 5 = nI e → Q 0 τ) (hok : ∀ s1, tstF L T d s = .inr s1 → ∀ τ, fr [(9, 3), (9, 4), (9, 5), (12, 4), (12, 6)] [13] σ τ → RpC τ L T N s1 → Q 1 τ) : K_RR_readTest g d (nI (10 - d)) σ Q := by
  unfold tstF at hbad hok
  have fg := fct_gd (T := T) hL d _ hi.1.1
  refine ko_RR_readTest (sg_RR_readTest_0 (hF σ s k i0 ts _ hr hi (fun e he τ hf h5 => ⟨fun c => absurd rfl c, fun _ => ?_⟩) (fun s1 he τ hf hr1 => ⟨fun _ => ?_, fun c => absurd c (by decide)⟩)))
  · rw [he] at hbad
    exact hbad e rfl τ hf h5
  · rw [he] at hbad hok
    have b1 := fg.2 s1 he
    exact test_loop hL hT hF (k := k + 1) (i0 := i0) (ts := ts) 400 500 0 false s1 τ (by omega) (by decide) (Nat.zero_le _) (fct_iv hT d _ _ _ _ hi he) hr1 (fun e he2 τ2 f2 h5 => hbad e he2 τ2 (hf.tr f2) h5) (fun s2 he2 τ2 f2 r2 => hok s2 he2 τ2 (hf.tr f2) r2)
theorem k_fact (hL : L ≤ 400) (hT : ∀ k, k < L → T k < 256) : ∀ d, d ≤ 10 → FaC g L T N d := by
  intro d
  induction d with
  | zero =>
    intro _ σ s k i0 ts Q hr hi hbad hok
    unfold fct at hbad hok
    have deep : (tkS L T s = -9 ∨ tkS L T s = -23) → S_RR_readFact_22 g 0 Q σ (nI (10 - 0)) (tkS L T s) := fun q => by
      rw [if_pos q] at hbad
      exact sg_RR_readFact_22 ⟨fun c => absurd c (by decide), fun _ => hr.blame (c := 2) (fun τ hf h5 => ⟨Or.inl rfl, hbad _ rfl τ hf h5⟩)⟩
    refine ko_RR_readFact (sg_RR_readFact_0 (hr.here ⟨fun q => deep (Or.inr q), fun q => ⟨fun q2 => deep (Or.inl q2), fun q2 => ?_⟩⟩))
    rw [if_neg (fun z => z.elim q2 q)] at hbad hok
    exact k_RR_readComparison hL hr hi (fun e he τ hf h5 => ⟨Or.inl rfl, hbad e he τ hf h5⟩) (fun s1 he τ hf r1 => ⟨Or.inr rfl, hok s1 he τ hf r1⟩)
  | succ d ih =>
    intro hd σ s k i0 ts Q hr hi hbad hok
    have ihd := ih (by omega)
    unfold fct at hbad hok
    have x10 : nI (10 - (d + 1)) < (10 : Int32) := nI_lt (b := 10) (by omega) (by decide)
    have x1 : nI (10 - (d + 1)) + 1 = nI (10 - d) := by rw [nI_1, show 10 - (d + 1) + 1 = 10 - d by omega]
    refine ko_RR_readFact (sg_RR_readFact_0 (hr.here ⟨fun q => ?_, fun q => ⟨fun q2 => ?_, fun q2 => ?_⟩⟩))
    · rw [if_neg (by rw [q]; decide), if_pos q] at hbad hok
      have hl : s.1 < L := lt_of_tok (by rw [q]; decide)
      refine sg_RR_readFact_22 ⟨fun _ => ?_, fun c => absurd x10 c⟩
      rintro s1 e1
      obtain ⟨r1, f1⟩ := hr.adv (by rw [q]; decide) (by rw [q]; decide) e1
      have iv1 := hi.av (T := T) hl
      refine ⟨fun _ => ⟨d, rfl, ?_⟩, fun c => absurd (q ▸ c) (by decide)⟩
      rw [x1]
      refine k_RR_readTest hL hT ihd r1 iv1 (fun e he τ hf h5 => ⟨fun c => absurd rfl c, fun _ => ?_⟩) (fun s2 he τ hf hr2 => ⟨fun _ => ?_, fun c => absurd c (by decide)⟩)
      · unfold tstF at he
        rw [he] at hbad
        exact hbad e rfl τ (f1.tr hf) h5
      · unfold tstF at he
        rw [he] at hbad hok
        have hbad : ∀ e, clsB L T s2 = .inl e → ∀ τ, fr [(9, 3), (9, 4), (9, 5), (12, 4), (12, 6)] [13] σ τ → fi τ 9 5 = nI e → Q 0 τ := hbad
        have hok : ∀ s1, clsB L T s2 = .inr s1 → ∀ τ, fr [(9, 3), (9, 4), (9, 5), (12, 4), (12, 6)] [13] σ τ → RpC τ L T N s1 → Q 1 τ := hok
        unfold clsB at hbad hok
        refine k_RR_takes hr2 (by decide) (fun q3 τ2 f2 r3 => ⟨fun _ => ?_, fun c => absurd c (by decide)⟩) (fun q3 => ⟨fun c => absurd rfl c, fun _ => ?_⟩)
        · rw [if_pos q3] at hok
          exact hok _ rfl τ2 (f1.tr (hf.tr f2)) r3
        · rw [if_neg q3] at hbad
          exact hr2.blame (c := 0) (fun τ2 f2 h5 => ⟨fun _ => hbad _ rfl τ2 (f1.tr (hf.tr f2)) h5, fun c => absurd rfl c⟩)
    · rw [if_pos q2] at hbad hok
      have hl : s.1 < L := lt_of_tok (by rw [q2]; decide)
      refine sg_RR_readFact_22 ⟨fun _ => ?_, fun c => absurd x10 c⟩
      rintro s1 e1
      obtain ⟨r1, f1⟩ := hr.adv (by rw [q2]; decide) (by rw [q2]; decide) e1
      have iv1 : Iv L i0 (k + 1) ts (avF L T s) := by
        have h3 := (tk_not hT q2).1
        obtain ⟨⟨a1, a2, a3⟩, b⟩ := hi
        have gg := av_gt (T := T) hl
        have b2 := skF_ge (L := L) (T := T) (p := (tk L T s.1).2)
        have e5 : s.1 + 3 ≤ (avF L T s).1 := by show s.1 + 3 ≤ skF L T (tk L T s.1).2; omega
        exact ⟨⟨gg.2, a2, by show s.2.2.1 + (k + 1) ≤ 2 * s.2.1 + (avF L T s).1 / 3; omega⟩, b⟩
      refine ⟨fun c => absurd q2 c, fun _ => ⟨d, rfl, ?_⟩⟩
      rw [x1]
      refine ihd s1 _ _ _ _ _ r1 iv1 (fun e he τ hf h5 => ⟨fun c => absurd rfl c, fun _ => ?_⟩) (fun s2 he τ hf hr2 => ⟨fun _ => ?_, fun c => absurd c (by decide)⟩)
      · rw [he] at hbad
        exact hbad e rfl τ (f1.tr hf) h5
      · rw [he] at hok
        have l5 := (fct_iv hT d _ _ _ _ iv1 he).l390 hL
        exact hr2.add (by omega) (fun τ2 f2 r3 => hok _ rfl τ2 (f1.tr (hf.tr f2)) r3)
    · rw [if_neg q2, if_neg q] at hbad hok
      exact k_RR_readComparison hL hr hi (fun e he τ hf h5 => ⟨Or.inl rfl, hbad e he τ hf h5⟩) (fun s1 he τ hf r1 => ⟨Or.inr rfl, hok s1 he τ hf r1⟩)
/-- the clauses that stand in the draft -/
def ClD (σ : St) (n : Nat) (sE tE : Nat → Nat) : Prop := fi σ 12 5 = nI n ∧ ∀ c, c < n → ai σ 14 c = nI (sE c) ∧ ai σ 15 c = nI (tE c)
theorem ClD.frm {τ : St} {n : Nat} {sE tE : Nat → Nat} {F : List (Nat × Nat)} {M : List Nat} (h : ClD σ n sE tE) (hf : fr F M σ τ) (h1 : (12, 5) ∉ F) (m1 : 14 ∉ M) (m2 : 15 ∉ M) : ClD τ n sE tE := by
  unfold ClD
  rw [(hf.1 12 5 h1).1, (hf.2 14 m1).1, (hf.2 15 m2).1]; exact h
theorem RpC.frm {τ : St} {F : List (Nat × Nat)} {M : List Nat} (h : RpC σ L T N s) (hf : fr F M σ τ) (h1 : (9, 2) ∉ F) (h2 : (9, 3) ∉ F) (h3 : (9, 4) ∉ F) (h4 : (9, 5) ∉ F) (h5 : (12, 4) ∉ F) (h6 : (12, 6) ∉ F) (m1 : 10 ∉ M) (m2 : 11 ∉ M) (m3 : 13 ∉ M) : RpC τ L T N s := by
  obtain ⟨ht, a1, a2, a3, a4, a5, a6⟩ := h
  refine ⟨ht.frm hf h1 m1 m2, ?_, ?_, ?_, ?_, ?_, ?_⟩
  · rw [(hf.1 9 3 h2).1]; exact a1
  · rw [(hf.1 9 4 h3).1]; exact a2
  · rw [(hf.1 9 5 h4).1]; exact a3
  · rw [(hf.1 12 4 h5).1]; exact a4
  · rw [(hf.2 13 m3).1]; exact a5
  · rw [(hf.1 12 6 h6).1]; exact a6
theorem rule_loop {Q : Int32 → St → Prop} (hL : L ≤ 400) (hT : ∀ k, k < L → T k < 256) : ∀ (f n : Nat) (sE tE : Nat → Nat) (s : PS) (σ : St), n + f = 13 → 0 < f → Iv L (s.2.2.1, s.2.2.2) 0 [] s → RpC σ L T N s → ClD σ n sE tE → (∀ e, ruL L T f s n sE tE = .inl e → ∀ τ, fr [(9, 3), (9, 4), (9, 5), (12, 4), (12, 5), (12, 6)] [13, 14, 15] σ τ → Q (nI e) τ) → (∀ r, ruL L T f s n sE tE = .inr r → ∀ τ, fr [(9, 3), (9, 4), (9, 5), (12, 4), (12, 5), (12, 6)] [13, 14, 15] σ τ → RuC 12 τ r → fi τ 12 4 = nI r.2.1 → Q 0 τ) → S_RR_read_31 g Q σ 1 (nI n) := by
  intro f
  induction f with
  | zero => intro n sE tE s σ _ h0; exact absurd h0 (by decide)
  | succ f ih =>
    intro n sE tE s σ hn _ hI hr hC hbad hok
    have hp := hI.1.1
    unfold ruL at hbad hok
    have stop : ∀ e τ (i : Int32), fi τ 9 5 = nI e → Q (nI e) τ → S_RR_read_31 g Q τ 0 i := fun e τ i h5 hq => sg_RR_read_31 ⟨fun _ => by rw [h5]; exact hq, fun c => absurd rfl c⟩
    have no71 : ∀ e τ, fi τ 9 5 = nI e → Q (nI e) τ → S_RR_read_71 g Q τ (nI n) 0 := fun e τ h5 hq => sg_RR_read_71 ⟨fun _ => ⟨fun _ u hu => stop e τ u h5 hq, fun c => absurd rfl c⟩, fun c => absurd rfl c⟩
    -- behind the opening word
    have opened : tkS L T s = -12 → n ≠ 12 → ∀ τ, fr [(9, 3), (9, 4), (9, 5), (12, 4), (12, 6)] [13] σ τ → RpC τ L T N (avF L T s) → K_RR_readSum g τ (fun r4 s3 => (r4 = 0 → S_RR_read_71 g Q s3 (nI n) 0) ∧ (¬ r4 = 0 → S_RR_read_71 g Q s3 (nI n) 1)) := by
      intro q q12 τ fa ra
      rw [if_neg (fun z => z q), if_neg q12] at hbad hok
      have hl : s.1 < L := lt_of_tok (by rw [q]; decide)
      have iv1 := hI.av (T := T) hl
      have ag := av_gt (T := T) hl
      have fa' : fr [(9, 3), (9, 4), (9, 5), (12, 4), (12, 5), (12, 6)] [13, 14, 15] σ τ := fa.mo (by decide) (by decide)
      refine k_RR_readSum hL ra iv1 (fun e he τ1 f1 h5 => ⟨fun _ => ?_, fun c => absurd rfl c⟩) (fun s1 he τ1 f1 r1 => ⟨fun c => absurd c (by decide), fun _ => ?_⟩)
      · rw [he] at hbad
        exact no71 e τ1 h5 (hbad e rfl τ1 (fa'.tr (f1.mo (by decide) (by decide))))
      · rw [he] at hbad hok
        dsimp only at hbad hok
        have ivs : Iv L (s.2.2.1, s.2.2.2) 1 [false] s1 := sum_iv iv1 he
        have sg := (sum_gd (T := T) hL ag.2).2 s1 he
        have f1' : fr [(9, 3), (9, 4), (9, 5), (12, 4), (12, 5), (12, 6)] [13, 14, 15] σ τ1 := fa'.tr (f1.mo (by decide) (by decide))
        have c1 : ClD τ1 n sE tE := (hC.frm fa (by decide) (by decide) (by decide)).frm f1 (by decide) (by decide) (by decide)
        refine sg_RR_read_71 ⟨fun c => absurd c (by decide), fun _ => ko_RU_endSum (sg_RU_endSum_0 ru_12 ?_)⟩
        rw [c1.1]
        refine ⟨fun c => absurd c (nI_ge (b := 12) (by omega) (by decide)), fun _ => ⟨vp_in_nI (by omega) (by decide), ?_⟩⟩
        rw [nI_clamp (by omega), r1.2.2.2.2.1]
        rintro t1 e1
        have g1 : fr [] [14] τ1 t1 := by rw [e1]; exact fr_sai (by decide)
        have r2 : RpC t1 L T N s1 := r1.frm g1 (by decide) (by decide) (by decide) (by decide) (by decide) (by decide) (by decide) (by decide) (by decide)
        have F2 : fr [(9, 3), (9, 4), (9, 5), (12, 4), (12, 5), (12, 6)] [13, 14, 15] σ t1 := f1'.tr (g1.mo (by simp) (by decide))
        have k5 : fi t1 12 5 = nI n := by rw [(g1.1 12 5 (by simp)).1]; exact c1.1
        have k14 : ∀ c, ai t1 14 c = if c = n then nI s1.2.2.1 else ai τ1 14 c := by intro c; rw [e1, ai_sai]; simp only [true_and]
        have k15 : ai t1 15 = ai τ1 15 := (g1.2 15 (by decide)).1
        -- behind the test
        have done : ∀ s2 τ3, (if tkS L T s1 = -13 then tstF L T 10 (avF L T s1) else .inr s1) = .inr s2 → s2.1 ≤ L → Iv L (s2.2.2.1, s2.2.2.2) 0 [] s2 → fr [(9, 3), (9, 4), (9, 5), (12, 4), (12, 6)] [13] t1 τ3 → RpC τ3 L T N s2 → S_RR_read_105 g Q τ3 (nI n) 1 := by
          intro s2 τ3 h2 hp2 iv2 f3 r3
          rw [h2] at hbad hok
          dsimp only at hbad hok
          have F3 := F2.tr (f3.mo (by decide) (by decide) : fr [(9, 3), (9, 4), (9, 5), (12, 4), (12, 5), (12, 6)] [13, 14, 15] t1 τ3)
          refine sg_RR_read_105 ⟨fun c => absurd c (by decide), fun _ => ko_RU_endClause (sg_RU_endClause_0 ru_12 ?_)⟩
          have k53 : fi τ3 12 5 = nI n := by rw [(f3.1 12 5 (by decide)).1]; exact k5
          rw [k53]
          refine ⟨fun c => absurd c (nI_ge (b := 12) (by omega) (by decide)), fun _ => ⟨vp_in_nI (by omega) (by decide), ?_⟩⟩
          rw [nI_clamp (by omega), r3.2.2.2.2.1]
          rintro t2 e2 t3 e3
          have k52 : fi t2 12 5 = nI n := by rw [e2]; exact k53
          rw [k52, nI_1] at e3
          have g3 : fr [(12, 5)] [15] τ3 t3 := by rw [e3, e2]; exact (fr_sai (by decide)).tr (fr_sfi (by decide))
          have r4 : RpC t3 L T N s2 := r3.frm g3 (by decide) (by decide) (by decide) (by decide) (by decide) (by decide) (by decide) (by decide) (by decide)
          have F4 := F3.tr (g3.mo (by decide) (by decide) : fr [(9, 3), (9, 4), (9, 5), (12, 4), (12, 5), (12, 6)] [13, 14, 15] τ3 t3)
          have c4 : ClD t3 (n + 1) (upP sE n s1.2.2.1) (upP tE n s2.2.2.1) := by
            refine ⟨by rw [e3]; rfl, fun c hc => ⟨?_, ?_⟩⟩
            · rw [(g3.2 14 (by decide)).1, (f3.2 14 (by decide)).1, k14]
              by_cases e : c = n
              · rw [if_pos e, e, upP_same]
              · rw [if_neg e, upP_ne e]; exact (c1.2 c (by omega)).1
            · have : ai t3 15 c = if c = n then nI s2.2.2.1 else ai τ3 15 c := by rw [e3, ai_sfi, e2, ai_sai]; simp only [true_and]
              rw [this]
              by_cases e : c = n
              · rw [if_pos e, e, upP_same]
              · rw [if_neg e, upP_ne e, (f3.2 15 (by decide)).1, k15]; exact (c1.2 c (by omega)).2
          refine ko_RR_closeClause (sg_RR_closeClause_0 (r4.here ⟨fun q3 => ?_, fun q3 => ?_⟩))
          · rw [if_neg q3] at hbad hok
            refine k_RR_takes r4 (by decide) (fun q4 τ5 f5 r5 => ⟨fun _ => ?_, fun c => absurd c (by decide)⟩) (fun q4 => ⟨fun c => absurd rfl c, fun _ => ?_⟩)
            · rw [if_pos q4] at hbad hok
              rintro u rfl
              rw [nI_1]
              have hl2 : s2.1 < L := lt_of_tok q3
              refine ih (n + 1) _ _ (avF L T s2) τ5 (by omega) (by omega) (iv2.av hl2) r5 (c4.frm f5 (by decide) (by decide) (by decide)) (fun e he2 τ6 f6 => hbad e he2 τ6 (F4.tr ((f5.mo (by decide) (by decide)).tr f6))) (fun r he2 τ6 f6 => hok r he2 τ6 (F4.tr ((f5.mo (by decide) (by decide)).tr f6)))
            · rw [if_neg q4] at hbad
              refine r4.blame (c := 0) (fun τ5 f5 h5 => ⟨fun _ => ?_, fun c => absurd rfl c⟩)
              rintro u rfl
              exact stop _ τ5 _ h5 (hbad _ rfl τ5 (F4.tr (f5.mo (by decide) (by decide))))
          · rw [if_pos q3] at hok
            rintro u rfl
            refine sg_RR_read_31 ⟨fun _ => ?_, fun c => absurd rfl c⟩
            rw [r4.2.2.2.1]
            refine hok _ rfl t3 F4 ⟨r4.2.2.2.2.2.1, c4.2, c4.1, fun j k hj hk e1 e2 e3 => ?_⟩ r4.2.2.2.2.1
            rw [ubit (by omega)]
            have hx : s2.2.2.2 j = -1 - nI k := by
              have e1 : -1 - s2.2.2.2 j = nI k := e1
              rw [← e1]
              exact (i32_ss (-1) _).symm
            rw [r4.2.2.2.2.2.2 j k hj hk hx]
            decide
        refine k_RR_takes r2 (by decide) (fun q3 τ2 f2 r3 => ⟨fun c => absurd c (by decide), fun _ => ?_⟩) (fun q3 => ⟨fun _ => ?_, fun c => absurd rfl c⟩)
        · have hl1 : s1.1 < L := lt_of_tok (by rw [q3]; decide)
          have a1 := av_gt (T := T) hl1
          have tg := tst_gd (T := T) hL (d := 10) a1.2
          have ivt := ivs.fresh.av (T := T) hl1
          refine k_RR_readTest (d := 10) hL hT (k_fact hL hT 10 (by decide)) r3 ivt (fun e he2 τ3 f3 h5 => ⟨fun _ => ?_, fun c => absurd rfl c⟩) (fun s2 he2 τ3 f3 r4 => ⟨fun c => absurd c (by decide), fun _ => ?_⟩)
          · rw [if_pos q3, he2] at hbad
            refine sg_RR_read_105 ⟨fun _ => ?_, fun c => absurd rfl c⟩
            rintro u rfl
            exact stop e τ3 _ h5 (hbad e rfl τ3 (F2.tr ((f2.mo (by decide) (by decide)).tr (f3.mo (by decide) (by decide)))))
          · have i2 := tst_iv hT ivt he2
            exact done s2 τ3 (by rw [if_pos q3]; exact he2) (tg.2 s2 he2).2 i2.fresh (f2.tr f3) r4
        · exact done s1 t1 (by rw [if_neg q3]) sg.2 ivs.fresh fr.rf r2
    have oc : ∀ b : Int32, (b = 0 ↔ n ≠ 12) → K_RR_openClause g b σ (fun r2 s1 => (r2 = 0 → S_RR_read_71 g Q s1 (nI n) 0) ∧ (¬ r2 = 0 → K_RR_readSum g s1 (fun r4 s3 => (r4 = 0 → S_RR_read_71 g Q s3 (nI n) 0) ∧ (¬ r4 = 0 → S_RR_read_71 g Q s3 (nI n) 1)))) := by
      intro b hb
      refine ko_RR_openClause (sg_RR_openClause_0 (hr.here ⟨fun q => ⟨fun b0 => ?_, fun b0 => ?_⟩, fun q => ?_⟩))
      · rintro s3 e3
        obtain ⟨r3, f3⟩ := hr.adv (by rw [q]; decide) (by rw [q]; decide) e3
        exact ⟨fun c => absurd c (by decide), fun _ => opened q (hb.mp b0) s3 f3 r3⟩
      · have n12 : n = 12 := Decidable.not_not.mp (fun z => b0 (hb.mpr z))
        rw [if_neg (fun z => z q), if_pos n12] at hbad
        exact hr.blame (c := 4) (fun τ hf h5 => ⟨Or.inl rfl, fun _ => no71 _ τ h5 (hbad _ rfl τ (hf.mo (by decide) (by decide))), fun c => absurd rfl c⟩)
      · rw [if_pos q] at hbad
        exact hr.blame (c := 0) (fun τ hf h5 => ⟨Or.inl rfl, fun _ => no71 _ τ h5 (hbad _ rfl τ (hf.mo (by decide) (by decide))), fun c => absurd rfl c⟩)
    refine sg_RR_read_31 ⟨fun c => absurd c (by decide), fun _ => ⟨fun c => absurd c (nI_nlt (a := 12) (by omega) (by decide)), fun _ => ?_⟩⟩
    refine pk_eq n 12 (fun q => oc 1 ⟨fun c => absurd c (by decide), fun c => absurd q c⟩) (fun q => oc 0 ⟨fun _ => q, fun _ => rfl⟩) |>.symm
theorem k_RR_read {Q : Int32 → St → Prop} (hx : TxC σ L T) (hbad : ∀ e, ruL L T 13 (ps0 (skF L T 0)) 0 (fun _ => 0) (fun _ => 0) = .inl e → ∀ τ, fr [(1, 2), (1, 3), (9, 2), (9, 3), (9, 4), (9, 5), (12, 4), (12, 5), (12, 6)] [10, 11, 13, 14, 15] σ τ → Q (nI e) τ) (hok : ∀ r, ruL L T 13 (ps0 (skF L T 0)) 0 (fun _ => 0) (fun _ => 0) = .inr r → ∀ τ, fr [(1, 2), (1, 3), (9, 2), (9, 3), (9, 4), (9, 5), (12, 4), (12, 5), (12, 6)] [10, 11, 13, 14, 15] σ τ → RuC 12 τ r → fi τ 12 4 = nI r.2.1 → Q 0 τ) : K_RR_read g σ Q := by
  refine ko_RR_read (sg_RR_read_0 (k_RR_cutUp hx (fun τ N hf ht => ko_RU_clear (sg_RU_clear_0 ru_12 ?_))))
  rintro s1 e1 s2 e2 s3 e3 s4 e4 s5 e5 s6 e6
  have f6 : fr [(9, 3), (9, 4), (9, 5), (12, 4), (12, 5), (12, 6)] [] τ s6 := by
    rw [e6, e5, e4, e3, e2, e1]
    exact (((((fr_sfi (by decide)).tr (fr_sfi (by decide))).tr (fr_sfi (by decide))).tr (fr_sfi (by decide))).tr (fr_sfi (by decide))).tr (fr_sfi (by decide))
  have F : fr [(1, 2), (1, 3), (9, 2), (9, 3), (9, 4), (9, 5), (12, 4), (12, 5), (12, 6)] [10, 11, 13, 14, 15] σ s6 := (hf.mo (by decide) (by decide)).tr (f6.mo (by decide) (by simp))
  have r0 : RpC s6 L T N (ps0 (skF L T 0)) := by
    refine ⟨ht.frm f6 (by decide) (by decide) (by decide), ⟨0, ht.1.1, by rw [e6, e5, e4]; rfl, rfl⟩, by rw [e6, e5]; rfl, by rw [e6]; rfl, by rw [e6, e5, e4, e3, e2, e1]; rfl, fun j hj => absurd hj (Nat.not_lt_zero _), fun j k hj => absurd hj (Nat.not_lt_zero _)⟩
  exact rule_loop hx.2.1 hx.b 13 0 _ _ _ s6 rfl (by decide) (ps0_iv (skF_le (Nat.zero_le _))) r0 ⟨by rw [e6, e5, e4, e3, e2]; rfl, fun c hc => absurd hc (Nat.not_lt_zero _)⟩ (fun e he τ2 f2 => hbad e he τ2 (F.tr (f2.mo (by decide) (by decide)))) (fun r he τ2 f2 => hok r he τ2 (F.tr (f2.mo (by decide) (by decide))))
end
