-- a rule's text: the class
theorem bt_1 : ∀ i, i < 32 → bt 1 i = decide (i = 0) := by decide +kernel
theorem ubit {x : Int32} {k : Nat} (hk : k < 32) : (x >>> (nI k &&& 31)) &&& 1 = 0 ↔ bt x k = false := by
  constructor
  · intro h
    have := congrArg (fun y => bt y 0) h
    simp only [b_and, b_0] at this
    rw [b_sshr k hk x (by decide), if_pos (by omega), Nat.add_zero, bt_1 0 (by decide)] at this
    simpa using this
  · intro h
    apply b_ext
    intro i hi
    rw [b_and, b_0, bt_1 i hi]
    by_cases e : i = 0
    · rw [e, b_sshr k hk x (by decide), if_pos (by omega), Nat.add_zero, h]; rfl
    · simp [e]
theorem bt_set {x : Int32} {k : Nat} (hk : k < 32) : bt (x ||| ((1 : Int32) <<< (nI k &&& 31))) k = true := by
  rw [b_or, b_shl k hk 1 hk, Nat.sub_self, bt_1 0 (by decide)]
  simp
theorem bt_keep {x y : Int32} {k : Nat} (h : bt x k = true) : bt (x ||| y) k = true := by rw [b_or, h]; rfl
theorem tok_no {t : Int32} (h1 : ¬ isM t) (h2 : ¬ isA t) : (-14 : Int32) < t ∨ ¬ (-18 : Int32) ≤ t := by
  by_cases q : (-14 : Int32) < t
  · exact Or.inl q
  · right
    intro q2
    have a : t.toInt ≤ -14 := by
      have := Int32.le_iff_toInt_le.mp (Int32.not_lt.mp q)
      have e : (-14 : Int32).toInt = -14 := by decide
      omega
    have b : -18 ≤ t.toInt := by
      have := Int32.le_iff_toInt_le.mp q2
      have e : (-18 : Int32).toInt = -18 := by decide
      omega
    have ne : ∀ c : Int32, t ≠ c → t.toInt ≠ c.toInt := fun c hc z => hc (Int32.toInt_inj.mp z)
    have n1 := ne (-14) (fun z => h2 (Or.inl z))
    have n2 := ne (-15) (fun z => h2 (Or.inr z))
    have n3 := ne (-16) (fun z => h1 (Or.inl z))
    have n4 := ne (-17) (fun z => h1 (Or.inr (Or.inl z)))
    have n5 := ne (-18) (fun z => h1 (Or.inr (Or.inr z)))
    have e1 : (-14 : Int32).toInt = -14 := by decide
    have e2 : (-15 : Int32).toInt = -15 := by decide
    have e3 : (-16 : Int32).toInt = -16 := by decide
    have e4 : (-17 : Int32).toInt = -17 := by decide
    have e5 : (-18 : Int32).toInt = -18 := by decide
    omega
def emW (x : Int32) (s : PS) : PS := if x = 0 then s else emF s x
section
variable {L N : Nat} {T : Nat → Nat}
def RpC (σ : St) (L : Nat) (T : Nat → Nat) (N : Nat) (s : PS) : Prop := TokR σ L T N ∧ (∃ i, i < N ∧ fi σ 9 3 = nI i ∧ plcF L T i = s.1) ∧ fi σ 9 4 = nI s.2.1 ∧ fi σ 9 5 = 0 ∧ fi σ 12 4 = nI s.2.2.1 ∧ (∀ j, j < s.2.2.1 → ai σ 13 j = s.2.2.2 j) ∧ ∀ j k, j < s.2.2.1 → k < 8 → s.2.2.2 j = -1 - nI k → bt (fi σ 12 6) k = true
variable {g : Gx} {σ : St} {s : PS}
theorem TokR.frm {τ : St} {F : List (Nat × Nat)} {M : List Nat} (h : TokR σ L T N) (hf : fr F M σ τ) (h1 : (9, 2) ∉ F) (m1 : 10 ∉ M) (m2 : 11 ∉ M) : TokR τ L T N := by
  unfold TokR
  rw [(hf.1 9 2 h1).1, (hf.2 10 m1).1, (hf.2 11 m2).1]; exact h
theorem RpC.here {Q : Int32 → St → Prop} (h : RpC σ L T N s) (hQ : Q (tkS L T s) σ) : K_RR_tokenHere g σ Q := by
  obtain ⟨⟨⟨n0, n4⟩, h2, hA, -⟩, ⟨i, hi, h3, hp⟩, -⟩ := h
  refine ko_RR_tokenHere (sg_RR_tokenHere_0 ?_)
  rw [h2, h3]
  refine ⟨fun c => absurd c (nI_ge hi (by omega)), fun _ => ⟨vp_in_nI (by omega) (by decide), ?_⟩⟩
  rw [nI_clamp (by omega), (hA i hi).2, hp]
  exact hQ
theorem RpC.blame {Q : Int32 → St → Prop} {c : Nat} (h : RpC σ L T N s) (hQ : ∀ τ, fr [(9, 3), (9, 4), (9, 5), (12, 4), (12, 6)] [13] σ τ → fi τ 9 5 = nI (flt s.1 c) → Q 0 τ) : K_RR_blame g (nI c) σ Q := by
  obtain ⟨⟨⟨n0, n4⟩, h2, hA, -⟩, ⟨i, hi, h3, hp⟩, -, h5, -⟩ := h
  refine ko_RR_blame (sg_RR_blame_0 ⟨fun z => absurd h5 z, fun _ => ?_⟩)
  rw [h2, h3]
  refine ⟨fun c => absurd c (nI_ge hi (by omega)), fun _ => ⟨vp_in_nI (by omega) (by decide), ?_⟩⟩
  rw [nI_clamp (by omega), (hA i hi).1, hp, flt_eq]
  rintro s1 rfl
  exact hQ _ (fr_sfi (by decide)) rfl
theorem RpC.adv {τ : St} (h : RpC σ L T N s) (h29 : tkS L T s ≠ -29) (h28 : tkS L T s ≠ -28) (e : τ = sfi σ 9 3 (fi σ 9 3 + 1)) : RpC τ L T N (avF L T s) ∧ fr [(9, 3), (9, 4), (9, 5), (12, 4), (12, 6)] [13] σ τ := by
  obtain ⟨ht, ⟨i, hi, h3, hp⟩, h4, h5, h6, h7, h8⟩ := h
  have f1 : fr [(9, 3)] [] σ τ := by rw [e]; exact fr_sfi (by decide)
  have nx : i + 1 < N := (ht.2.2.2 i hi).mpr (by rw [hp]; exact ⟨h29, h28⟩)
  refine ⟨⟨ht.frm f1 (by decide) (by decide) (by decide), ⟨i + 1, nx, by rw [e, h3, nI_1]; rfl, ?_⟩, ?_, ?_, ?_, ?_, ?_⟩, f1.mo (by decide) (by simp)⟩
  · show skF L T (tk L T (plcF L T i)).2 = skF L T (tk L T s.1).2
    rw [hp]
  · rw [(f1.1 9 4 (by decide)).1]; exact h4
  · rw [(f1.1 9 5 (by decide)).1]; exact h5
  · rw [(f1.1 12 4 (by decide)).1]; exact h6
  · rw [(f1.2 13 (by decide)).1]; exact h7
  · rw [(f1.1 12 6 (by decide)).1]; exact h8
theorem RpC.cnt {τ : St} (h : RpC σ L T N s) (e : τ = sfi σ 9 4 (fi σ 9 4 + 1)) : RpC τ L T N (cnF s) ∧ fr [(9, 3), (9, 4), (9, 5), (12, 4), (12, 6)] [13] σ τ := by
  obtain ⟨ht, ⟨i, hi, h3, hp⟩, h4, h5, h6, h7, h8⟩ := h
  have f1 : fr [(9, 4)] [] σ τ := by rw [e]; exact fr_sfi (by decide)
  refine ⟨⟨ht.frm f1 (by decide) (by decide) (by decide), ⟨i, hi, by rw [(f1.1 9 3 (by decide)).1]; exact h3, hp⟩, by rw [e, h4, nI_1]; rfl, ?_, ?_, ?_, ?_⟩, f1.mo (by decide) (by simp)⟩
  · rw [(f1.1 9 5 (by decide)).1]; exact h5
  · rw [(f1.1 12 4 (by decide)).1]; exact h6
  · rw [(f1.2 13 (by decide)).1]; exact h7
  · rw [(f1.1 12 6 (by decide)).1]; exact h8
theorem RpC.add {Q : St → Prop} {x : Int32} (h : RpC σ L T N s) (hl : s.2.2.1 < 400) (hQ : ∀ τ, fr [(9, 3), (9, 4), (9, 5), (12, 4), (12, 6)] [13] σ τ → RpC τ L T N (emF s x) → Q τ) : K_RU_add g 12 x σ Q := by
  obtain ⟨ht, ⟨i, hi, h3, hp⟩, h4, h5, h6, h7, h8⟩ := h
  refine ko_RU_add (sg_RU_add_0 ru_12 ?_)
  rw [h6]
  refine ⟨fun c => absurd c (nI_ge (b := 400) hl (by decide)), fun _ => ⟨vp_in_nI hl (by decide), ?_⟩⟩
  rw [nI_clamp (by omega)]
  rintro s1 e1 s2 e2
  have a4 : fi s1 12 4 = nI s.2.2.1 := by rw [e1]; exact h6
  rw [a4, nI_1] at e2
  have f2 : fr [(12, 4)] [13] σ s2 := by rw [e2, e1]; exact (fr_sai (by decide)).tr (fr_sfi (by decide))
  have fin : ∀ τ, fr [(12, 6)] [] s2 τ → (∀ k, k < 8 → bt (fi s2 12 6) k = true → bt (fi τ 12 6) k = true) → (∀ k, k < 8 → x = -1 - nI k → bt (fi τ 12 6) k = true) → Q τ := by
    intro τ hf hk hx
    have F : fr [(12, 4), (12, 6)] [13] σ τ := (f2.mo (by decide) (by decide)).tr (hf.mo (by decide) (by simp))
    have r13 : ∀ j, ai τ 13 j = if j = s.2.2.1 then x else ai σ 13 j := by
      intro j
      rw [(hf.2 13 (by decide)).1, e2, ai_sfi, e1, ai_sai]; simp only [true_and]
    refine hQ τ (F.mo (by decide) (by decide)) ⟨ht.frm F (by decide) (by decide) (by decide), ⟨i, hi, by rw [(F.1 9 3 (by decide)).1]; exact h3, hp⟩, by rw [(F.1 9 4 (by decide)).1]; exact h4, by rw [(F.1 9 5 (by decide)).1]; exact h5, by rw [(hf.1 12 4 (by decide)).1, e2]; rfl, fun j hj => ?_, fun j k hj hk8 e => ?_⟩
    · have hj : j < s.2.2.1 + 1 := hj
      show ai τ 13 j = if j = s.2.2.1 then x else s.2.2.2 j
      rw [r13]
      by_cases z : j = s.2.2.1
      · rw [if_pos z, if_pos z]
      · rw [if_neg z, if_neg z]; exact h7 j (by omega)
    · have hj : j < s.2.2.1 + 1 := hj
      have e : (if j = s.2.2.1 then x else s.2.2.2 j) = -1 - nI k := e
      by_cases z : j = s.2.2.1
      · rw [if_pos z] at e; exact hx k hk8 e
      · rw [if_neg z] at e
        refine hk k hk8 ?_
        rw [(f2.1 12 6 (by decide)).1]
        exact h8 j k (by omega) hk8 e
  have rng : ∀ k : Nat, k < 8 → ¬ (-1 : Int32) < -1 - nI k ∧ ¬ -1 - nI k < (-8 : Int32) := by
    intro k hk
    rcases (show k = 0 ∨ k = 1 ∨ k = 2 ∨ k = 3 ∨ k = 4 ∨ k = 5 ∨ k = 6 ∨ k = 7 by omega) with rfl | rfl | rfl | rfl | rfl | rfl | rfl | rfl <;> decide
  refine sg_RU_add_32 ru_12 ⟨fun q => fin s2 fr.rf (fun _ _ z => z) (fun k hk e => absurd (e ▸ q) (rng k hk).1), fun q => ⟨fun q2 => fin s2 fr.rf (fun _ _ z => z) (fun k hk e => absurd (e ▸ q2) (rng k hk).2), fun q2 => ?_⟩⟩
  rintro s3 e3
  refine fin s3 (by rw [e3]; exact fr_sfi (by decide)) (fun k _ z => ?_) (fun k hk e => ?_)
  · rw [e3, fi_sfi, if_pos ⟨rfl, rfl⟩]; exact bt_keep z
  · rw [e3, fi_sfi, if_pos ⟨rfl, rfl⟩]
    have : (-1 : Int32) - x = nI k := by rw [e]; rcases (show k = 0 ∨ k = 1 ∨ k = 2 ∨ k = 3 ∨ k = 4 ∨ k = 5 ∨ k = 6 ∨ k = 7 by omega) with rfl | rfl | rfl | rfl | rfl | rfl | rfl | rfl <;> decide
    rw [this]
    exact bt_set (by omega)
theorem Iv.l390 {k : Nat} {i0 : Nat × (Nat → Int32)} {ts : List Bool} (h : Iv L i0 k ts s) (hL : L ≤ 400) : s.2.2.1 + k < 300 := by
  obtain ⟨⟨a1, a2, a3⟩, -⟩ := h
  omega
theorem k_RR_readValue {Q : Int32 → St → Prop} {k : Nat} {i0 : Nat × (Nat → Int32)} {ts : List Bool} (hL : L ≤ 400) (hr : RpC σ L T N s) (hi : Iv L i0 k ts s) (hbad : ∀ e, valF L T s = .inl e → ∀ τ, fr [(9, 3), (9, 4), (9, 5), (12, 4), (12, 6)] [13] σ τ → fi τ 9 5 = nI e → Q 0 τ) (hok : ∀ s1, valF L T s = .inr s1 → ∀ τ, fr [(9, 3), (9, 4), (9, 5), (12, 4), (12, 6)] [13] σ τ → RpC τ L T N s1 → Q 1 τ) : K_RR_readValue g σ Q := by
  unfold valF at hbad hok
  have l3 := hi.l390 hL
  have c60 := hi.1.2.1
  refine ko_RR_readValue (sg_RR_readValue_0 (hr.here ⟨fun q => ⟨fun q2 => ?_, fun q2 => ?_⟩, fun q => ?_⟩))
  · have q8 : ¬ tkS L T s < -8 := fun z => by
      have := Int32.lt_iff_toInt_lt.mp z
      have := Int32.le_iff_toInt_le.mp q2
      omega
    rw [if_neg q, if_neg q8] at hbad hok
    rw [hr.2.2.1]
    refine pk_lt s.2.1 60 (fun q3 => ?_) (fun q3 => ?_)
    · rw [if_neg (by omega)] at hok
      rintro s3 e3
      rw [← hr.2.2.1] at e3
      obtain ⟨r3, f3⟩ := hr.cnt e3
      refine r3.add (show s.2.2.1 < 400 by omega) (fun τ f4 r4 => ?_)
      rintro s5 e5
      have n29 : tkS L T (emF (cnF s) (tkS L T s)) ≠ -29 := fun z => q8 (by have z : tkS L T s = -29 := z; rw [z]; decide)
      have n28 : tkS L T (emF (cnF s) (tkS L T s)) ≠ -28 := fun z => q8 (by have z : tkS L T s = -28 := z; rw [z]; decide)
      obtain ⟨r5, f5⟩ := r4.adv n29 n28 e5
      exact hok _ rfl s5 (f3.tr (f4.tr f5)) r5
    · rw [if_pos q3] at hbad
      exact hr.blame (c := 3) (fun τ hf h5 => ⟨Or.inl rfl, hbad _ rfl τ hf h5⟩)
  · have q8 : tkS L T s < -8 := Int32.not_le.mp q2
    rw [if_neg q, if_pos q8] at hbad
    exact hr.blame (c := 0) (fun τ hf h5 => ⟨Or.inl rfl, hbad _ rfl τ hf h5⟩)
  · rw [if_pos q] at hbad
    exact hr.blame (c := 1) (fun τ hf h5 => ⟨Or.inl rfl, hbad _ rfl τ hf h5⟩)
theorem emW_p {x : Int32} : (emW x s).1 = s.1 := by unfold emW; split <;> rfl
theorem tk_emW {x : Int32} : tkS L T (emW x s) = tkS L T s := by unfold tkS; rw [emW_p]
/-- a sign that waits is put behind -/
theorem RpC.addW {x : Int32} {P1 : St → Prop} (h : RpC σ L T N s) (hl : s.2.2.1 < 400) (hP : ∀ τ, fr [(9, 3), (9, 4), (9, 5), (12, 4), (12, 6)] [13] σ τ → RpC τ L T N (emW x s) → P1 τ) : (x = 0 → P1 σ) ∧ (¬ x = 0 → K_RU_add g 12 x σ (fun s1 => P1 s1)) := by
  refine ⟨fun q => hP σ fr.rf (by unfold emW; rw [if_pos q]; exact h), fun q => h.add hl (fun τ hf hr => hP τ hf (by unfold emW; rw [if_neg q]; exact hr))⟩
theorem sum_loop {Q : Int32 → St → Prop} (hL : L ≤ 400) {k : Nat} {i0 : Nat × (Nat → Int32)} {ts : List Bool} : ∀ (D n m i : Nat) (x : Int32) (s : PS) (σ : St), D < 500 → L - s.1 ≤ D → D < n → D < m → i ≤ s.1 → (x = 0 ∨ isA x) → Iv L i0 (k + (if x = 0 then 0 else 1)) (false :: (if x = 0 then ts else false :: ts)) s → RpC σ L T N s → (∀ e, bnd (tmL L T n s) (fun s1 => smL L T m (emW x s1)) = .inl e → ∀ τ, fr [(9, 3), (9, 4), (9, 5), (12, 4), (12, 6)] [13] σ τ → fi τ 9 5 = nI e → Q 0 τ) → (∀ s2, bnd (tmL L T n s) (fun s1 => smL L T m (emW x s1)) = .inr s2 → ∀ τ, fr [(9, 3), (9, 4), (9, 5), (12, 4), (12, 6)] [13] σ τ → RpC τ L T N s2 → Q 1 τ) → S_RR_readSum_13 g Q σ x (nI i) := by
  intro D
  induction D with
  | zero =>
    intro n m i x s σ hD5 hD hn hm hi hx hI hr hbad hok
    have hp := hI.1.1
    have l3 := hI.l390 hL
    obtain ⟨n, rfl⟩ : ∃ n', n = n' + 1 := ⟨n - 1, by omega⟩
    obtain ⟨m, rfl⟩ : ∃ m', m = m' + 1 := ⟨m - 1, by omega⟩
    have t29 : tkS L T s = -29 := by unfold tkS; rw [tk_end (by omega)]
    have nM : ¬ isM (tkS L T s) := by rw [t29]; decide
    have nA : ¬ isA (tkS L T (emW x s)) := by rw [tk_emW, t29]; decide
    unfold tmL at hok
    rw [if_neg nM] at hok
    have hok : ∀ s2, smL L T (m + 1) (emW x s) = .inr s2 → _ := hok
    unfold smL at hok
    rw [if_neg nA] at hok
    refine sg_RR_readSum_13 ⟨fun c => absurd c (nI_ge (b := 401) (by omega) (by decide)), fun _ => hr.here ?_⟩
    rw [t29]
    refine ⟨fun c => absurd c (by decide), fun _ => ⟨fun c => absurd c (by decide), fun _ => ?_⟩⟩
    exact hr.addW (g := g) (x := x) (P1 := fun τ => Q 1 τ) (by omega) (fun τ hf hr2 => hok _ rfl τ hf hr2)
  | succ D ih =>
    intro n m i x s σ hD5 hD hn hm hi hx hI hr hbad hok
    have hp := hI.1.1
    have l3 := hI.l390 hL
    obtain ⟨n, rfl⟩ : ∃ n', n = n' + 1 := ⟨n - 1, by omega⟩
    obtain ⟨m, rfl⟩ : ∃ m', m = m' + 1 := ⟨m - 1, by omega⟩
    refine sg_RR_readSum_13 ⟨fun c => absurd c (nI_ge (b := 401) (by omega) (by decide)), fun _ => hr.here ?_⟩
    by_cases hM : isM (tkS L T s)
    · have hl : s.1 < L := lt_of_tok (fun z => by rw [z] at hM; exact absurd hM (by decide))
      have c1 : ¬ (-14 : Int32) < tkS L T s ∧ (-18 : Int32) ≤ tkS L T s ∧ ¬ (-16 : Int32) < tkS L T s := by rcases hM with e | e | e <;> rw [e] <;> decide
      refine ⟨fun c => absurd c c1.1, fun _ => ⟨fun _ => ⟨fun c => absurd c c1.2.2, fun _ => ?_⟩, fun c => absurd c1.2.1 c⟩⟩
      refine sg_RR_readSum_51 ⟨fun _ => sg_RR_readSum_72 ?_, fun c => absurd c (by decide)⟩
      rintro s1 e1
      obtain ⟨r1, f1⟩ := hr.adv (fun z => by rw [z] at hM; exact absurd hM (by decide)) (fun z => by rw [z] at hM; exact absurd hM (by decide)) e1
      have iv1 := hI.av (T := T) hl
      have ag := av_gt (T := T) hl
      have vg := val_gd (T := T) hL ag.2
      unfold tmL at hbad hok
      rw [if_pos hM] at hbad hok
      refine k_RR_readValue hL r1 iv1 (fun e he τ hf h5 => ⟨fun c => absurd rfl c, fun _ => ?_⟩) (fun s2 he τ hf hr2 => ⟨fun _ => ⟨fun c => absurd c (by decide), fun _ => ?_⟩, fun c => absurd c (by decide)⟩)
      · rw [he] at hbad
        exact hbad e rfl τ (f1.tr hf) h5
      · rw [he] at hbad hok
        have iv2 := val_iv iv1 he
        have l5 := iv2.l390 hL
        have b2 := vg.2 s2 he
        refine hr2.add (by omega) (fun τ2 f2 r3 => ?_)
        rintro u rfl
        rw [nI_1]
        have iv3 : Iv L i0 (k + (if x = 0 then 0 else 1)) (false :: (if x = 0 then ts else false :: ts)) (emF s2 (tkS L T s)) := iv2.em (ty_ar (Or.inl hM)) (by have := iv2.2.2.2; simp only [List.length_cons] at this ⊢; omega)
        refine ih n (m + 1) (i + 1) x (emF s2 (tkS L T s)) τ2 (by omega) (show L - s2.1 ≤ D by omega) (by omega) (by omega) (show i + 1 ≤ s2.1 by omega) hx iv3 r3 (fun e he2 τ3 f3 h5 => ?_) (fun s4 he2 τ3 f3 r4 => ?_)
        · exact hbad e he2 τ3 (f1.tr (hf.tr (f2.tr f3))) h5
        · exact hok s4 he2 τ3 (f1.tr (hf.tr (f2.tr f3))) r4
    · unfold tmL at hbad hok
      rw [if_neg hM] at hbad hok
      have hbad : ∀ e, smL L T (m + 1) (emW x s) = .inl e → ∀ τ, fr [(9, 3), (9, 4), (9, 5), (12, 4), (12, 6)] [13] σ τ → fi τ 9 5 = nI e → Q 0 τ := hbad
      have hok : ∀ s2, smL L T (m + 1) (emW x s) = .inr s2 → ∀ τ, fr [(9, 3), (9, 4), (9, 5), (12, 4), (12, 6)] [13] σ τ → RpC τ L T N s2 → Q 1 τ := hok
      unfold smL at hbad hok
      rw [tk_emW] at hbad hok
      by_cases hA : isA (tkS L T s)
      · rw [if_pos hA] at hbad hok
        have hl : s.1 < L := lt_of_tok (fun z => by rw [z] at hA; exact absurd hA (by decide))
        have c1 : ¬ (-14 : Int32) < tkS L T s ∧ (-18 : Int32) ≤ tkS L T s ∧ (-16 : Int32) < tkS L T s := by rcases hA with e | e <;> rw [e] <;> decide
        refine ⟨fun c => absurd c c1.1, fun _ => ⟨fun _ => ⟨fun _ => ?_, fun c => absurd c1.2.2 c⟩, fun c => absurd c1.2.1 c⟩⟩
        refine sg_RR_readSum_51 ⟨fun c => absurd rfl c, fun _ => ?_⟩
        refine hr.addW (g := g) (x := x) (P1 := fun τ => S_RR_readSum_72 g Q τ (tkS L T s) (nI i) (tkS L T s) 0) (by omega) (fun τ0 f0 r0 => sg_RR_readSum_72 ?_)
        rintro s1 e1
        obtain ⟨r1, f1⟩ := r0.adv (fun z => by rw [tk_emW] at z; rw [z] at hA; exact absurd hA (by decide)) (fun z => by rw [tk_emW] at z; rw [z] at hA; exact absurd hA (by decide)) e1
        have iv0 : Iv L i0 k (false :: ts) (emW x s) := by
          unfold emW
          by_cases x0 : x = 0
          · rw [if_pos x0] at hI ⊢; rw [if_pos x0] at hI; exact hI
          · rw [if_neg x0] at hI ⊢; rw [if_neg x0] at hI
            exact hI.em (ty_ar (Or.inr (hx.resolve_left x0))) (by have := hI.2.2.2; simp only [List.length_cons] at this ⊢; omega)
        have iv1 := iv0.av (T := T) (by rw [emW_p]; exact hl)
        have ag := av_gt (T := T) (s := emW x s) (by rw [emW_p]; exact hl)
        rw [emW_p] at ag
        have vg := val_gd (T := T) hL ag.2
        refine k_RR_readValue hL r1 iv1 (fun e he τ hf h5 => ⟨fun c => absurd rfl c, fun _ => ?_⟩) (fun s2 he τ hf hr2 => ⟨fun _ => ⟨fun _ => ?_, fun c => absurd rfl c⟩, fun c => absurd c (by decide)⟩)
        · rw [he] at hbad
          exact hbad e rfl τ (f0.tr (f1.tr hf)) h5
        · rw [he] at hbad hok
          have iv2 := val_iv iv1 he
          have b2 := vg.2 s2 he
          rintro u rfl
          rw [nI_1]
          have t0 : tkS L T s ≠ 0 := fun z => by rw [z] at hA; exact absurd hA (by decide)
          have ew : ∀ s', emW (tkS L T s) s' = emF s' (tkS L T s) := fun s' => if_neg t0
          refine ih 500 m (i + 1) (tkS L T s) s2 τ (by omega) (by omega) (by omega) (by omega) (by omega) (Or.inr hA) (by rw [if_neg t0, if_neg t0]; exact iv2) hr2 (fun e he2 τ3 f3 h5 => ?_) (fun s4 he2 τ3 f3 r4 => ?_)
          · simp only [ew] at he2
            exact hbad e he2 τ3 (f0.tr (f1.tr (hf.tr f3))) h5
          · simp only [ew] at he2
            exact hok s4 he2 τ3 (f0.tr (f1.tr (hf.tr f3))) r4
      · rw [if_neg hA] at hok
        have fin := hr.addW (g := g) (x := x) (P1 := fun τ => Q 1 τ) (by omega) (fun τ hf hr2 => hok _ rfl τ hf hr2)
        refine ⟨fun _ => fin, fun c => ⟨fun c2 => ?_, fun _ => fin⟩⟩
        exact absurd c2 ((tok_no hM hA).resolve_left c)
theorem k_RR_readSum {Q : Int32 → St → Prop} {k : Nat} {i0 : Nat × (Nat → Int32)} {ts : List Bool} (hL : L ≤ 400) (hr : RpC σ L T N s) (hi : Iv L i0 k ts s) (hbad : ∀ e, sumF L T s = .inl e → ∀ τ, fr [(9, 3), (9, 4), (9, 5), (12, 4), (12, 6)] [13] σ τ → fi τ 9 5 = nI e → Q 0 τ) (hok : ∀ s1, sumF L T s = .inr s1 → ∀ τ, fr [(9, 3), (9, 4), (9, 5), (12, 4), (12, 6)] [13] σ τ → RpC τ L T N s1 → Q 1 τ) : K_RR_readSum g σ Q := by
  unfold sumF at hbad hok
  have vg := val_gd (T := T) hL hi.1.1
  refine ko_RR_readSum (sg_RR_readSum_0 (k_RR_readValue hL hr hi (fun e he τ hf h5 => ⟨fun c => absurd rfl c, fun _ => ?_⟩) (fun s1 he τ hf hr1 => ⟨fun _ => ?_, fun c => absurd c (by decide)⟩)))
  · rw [he] at hbad
    exact hbad e rfl τ hf h5
  · rw [he] at hbad hok
    have b1 := vg.2 s1 he
    refine sum_loop hL (k := k + 1) (i0 := i0) (ts := ts) 400 500 500 0 0 s1 τ (by decide) (by omega) (by decide) (by decide) (Nat.zero_le _) (Or.inl rfl) (val_iv hi he) hr1 (fun e he2 τ2 f2 h5 => hbad e he2 τ2 (hf.tr f2) h5) (fun s2 he2 τ2 f2 r2 => hok s2 he2 τ2 (hf.tr f2) r2)
theorem k_RR_readComparison {Q : Int32 → St → Prop} {k : Nat} {i0 : Nat × (Nat → Int32)} {ts : List Bool} (hL : L ≤ 400) (hr : RpC σ L T N s) (hi : Iv L i0 k ts s) (hbad : ∀ e, cmpF L T s = .inl e → ∀ τ, fr [(9, 3), (9, 4), (9, 5), (12, 4), (12, 6)] [13] σ τ → fi τ 9 5 = nI e → Q 0 τ) (hok : ∀ s1, cmpF L T s = .inr s1 → ∀ τ, fr [(9, 3), (9, 4), (9, 5), (12, 4), (12, 6)] [13] σ τ → RpC τ L T N s1 → Q 1 τ) : K_RR_readComparison g σ Q := by
  unfold cmpF at hbad hok
  refine ko_RR_readComparison (sg_RR_readComparison_0 (k_RR_readSum hL hr hi (fun e he τ hf h5 => ⟨fun c => absurd rfl c, fun _ => ?_⟩) (fun s1 he τ hf hr1 => ⟨fun _ => hr1.here ?_, fun c => absurd c (by decide)⟩)))
  · rw [he] at hbad
    exact hbad e rfl τ hf h5
  · rw [he] at hbad hok
    have iv1 := sum_iv hi he
    have c60 := iv1.1.2.1
    have hbad : ∀ e, (if ¬ isC (tkS L T s1) then .inl (flt s1.1 0) else if 60 ≤ s1.2.1 then .inl (flt s1.1 3) else bnd (sumF L T (avF L T (cnF s1))) (fun s2 => .inr (emF s2 (tkS L T s1)))) = (.inl e : Rs) → ∀ τ, fr [(9, 3), (9, 4), (9, 5), (12, 4), (12, 6)] [13] σ τ → fi τ 9 5 = nI e → Q 0 τ := hbad
    have hok : ∀ s3, (if ¬ isC (tkS L T s1) then .inl (flt s1.1 0) else if 60 ≤ s1.2.1 then .inl (flt s1.1 3) else bnd (sumF L T (avF L T (cnF s1))) (fun s2 => .inr (emF s2 (tkS L T s1)))) = (.inr s3 : Rs) → ∀ τ, fr [(9, 3), (9, 4), (9, 5), (12, 4), (12, 6)] [13] σ τ → RpC τ L T N s3 → Q 1 τ := hok
    have no : ¬ isC (tkS L T s1) → S_RR_readComparison_43 g Q τ (tkS L T s1) 0 := fun q => by
      rw [if_pos q] at hbad
      exact sg_RR_readComparison_43 ⟨fun c => absurd rfl c, fun _ => hr1.blame (c := 0) (fun τ2 f2 h5 => ⟨Or.inl rfl, hbad _ rfl τ2 (hf.tr f2) h5⟩)⟩
    have yes : isC (tkS L T s1) → S_RR_readComparison_43 g Q τ (tkS L T s1) 1 := fun q => by
      rw [if_neg (fun z => z q)] at hbad hok
      have hl : s1.1 < L := isC_lt q
      refine sg_RR_readComparison_43 ⟨fun _ => ?_, fun c => absurd c (by decide)⟩
      rw [hr1.2.2.1]
      refine pk_lt s1.2.1 60 (fun q3 => ?_) (fun q3 => ?_)
      · rw [if_neg (by omega)] at hbad hok
        rintro t1 e1 t2 e2
        rw [← hr1.2.2.1] at e1
        obtain ⟨r2, f2⟩ := hr1.cnt e1
        have n29 : tkS L T (cnF s1) ≠ -29 := fun z => by have z : tkS L T s1 = -29 := z; rw [z] at q; exact absurd q (by decide)
        have n28 : tkS L T (cnF s1) ≠ -28 := fun z => by have z : tkS L T s1 = -28 := z; rw [z] at q; exact absurd q (by decide)
        obtain ⟨r3, f3⟩ := r2.adv n29 n28 e2
        have iv3 := (iv1.cn q3).av (T := T) (s := cnF s1) hl
        refine k_RR_readSum hL r3 iv3 (fun e he2 τ4 f4 h5 => ⟨fun c => absurd rfl c, fun _ => ?_⟩) (fun s4 he2 τ4 f4 r4 => ⟨fun _ => ?_, fun c => absurd c (by decide)⟩)
        · rw [he2] at hbad
          exact hbad e rfl τ4 (hf.tr (f2.tr (f3.tr f4))) h5
        · rw [he2] at hok
          have l5 := (sum_iv iv3 he2).l390 hL
          exact r4.add (by omega) (fun τ5 f5 r5 => hok _ rfl τ5 (hf.tr (f2.tr (f3.tr (f4.tr f5)))) r5)
      · rw [if_pos q3] at hbad
        exact hr1.blame (c := 3) (fun τ2 f2 h5 => ⟨Or.inl rfl, hbad _ rfl τ2 (hf.tr f2) h5⟩)
    have two : (tkS L T s1 = -25 → S_RR_readComparison_43 g Q τ (tkS L T s1) 1) ∧ (tkS L T s1 = -26 → S_RR_readComparison_43 g Q τ (tkS L T s1) 1) := ⟨fun e => yes (Or.inr (Or.inr (Or.inr (Or.inl e)))), fun e => yes (Or.inr (Or.inr (Or.inr (Or.inr e))))⟩
    have e19 : (-19 : Int32).toInt = -19 := by decide
    have e21 : (-21 : Int32).toInt = -21 := by decide
    have ran : ¬ (-19 : Int32) < tkS L T s1 → (-21 : Int32) ≤ tkS L T s1 → isC (tkS L T s1) := fun a b => by
      have a1 := Int32.le_iff_toInt_le.mp (Int32.not_lt.mp a)
      have b1 := Int32.le_iff_toInt_le.mp b
      rcases (show (tkS L T s1).toInt = -19 ∨ (tkS L T s1).toInt = -20 ∨ (tkS L T s1).toInt = -21 by omega) with e | e | e
      · exact Or.inl (Int32.toInt_inj.mp e)
      · exact Or.inr (Or.inl (Int32.toInt_inj.mp e))
      · exact Or.inr (Or.inr (Or.inl (Int32.toInt_inj.mp e)))
    have nC : ¬ tkS L T s1 = -25 → ¬ tkS L T s1 = -26 → ((-19 : Int32) < tkS L T s1 ∨ ¬ (-21 : Int32) ≤ tkS L T s1) → ¬ isC (tkS L T s1) := fun a b c z => by
      rcases z with e | e | e | e | e
      · rw [e] at c; exact absurd c (by decide)
      · rw [e] at c; exact absurd c (by decide)
      · rw [e] at c; exact absurd c (by decide)
      · exact a e
      · exact b e
    refine ⟨fun c => ⟨two.1, fun c2 => ⟨fun c3 => no (nC c2 c3 (Or.inl c)), two.2⟩⟩, fun c => ⟨fun c2 => yes (ran c c2), fun c2 => ⟨two.1, fun c3 => ⟨fun c4 => no (nC c3 c4 (Or.inr c2)), two.2⟩⟩⟩⟩
end
