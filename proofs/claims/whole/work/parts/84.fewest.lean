-- fewest, path
theorem bfs_k (c : Cfg) : ∀ (f h w : Nat) (q : Qs), (bfsF c f h w q).1 ≤ 2
  | 0, _, _, q => by show 0 ≤ 2; decide
  | f + 1, h, w, q => by
    unfold bfsF
    split
    · split
      · show 0 ≤ 2; decide
      · exact bfs_k c f _ _ _
    · split
      · show 1 ≤ 2; decide
      · split
        · exact bfs_k c f _ _ _
        · split
          · exact bfs_k c f _ _ _
          · split
            · show 2 ≤ 2; decide
            · exact bfs_k c f _ _ _
section
variable {g : Gx} {σ : St} {c : Cfg} {P : Nat → Nat} {q : Qs}
/-- chains of a queue, the one that was found among them -/
def okCh (q : Qs) : Prop := 1 ≤ q.1 ∧ q.1 ≤ 4001 ∧ q.2.2.2 0 = 0 ∧ (∀ i, 0 < i → i < q.1 → q.2.2.1 i / 4 < i ∧ q.2.2.2 i = q.2.2.2 (q.2.2.1 i / 4) + 1) ∧ ∀ i, i < q.1 → q.2.2.2 i ≤ i
theorem okCh_psh {N : Nat → Nat} {b : Nat} (hq : okQ c q) (hb : b / 4 < q.1) : okCh (psh q N b (q.2.2.2 (b / 4) + 1)) := by
  obtain ⟨h1, h2, h3, h4, h5, h6⟩ := hq
  refine ⟨by show 1 ≤ q.1 + 1; omega, by show q.1 + 1 ≤ 4001; omega, ?_, fun i hi0 hi => ?_, fun i hi => ?_⟩
  · show (if 0 = q.1 then _ else _) = 0
    rw [if_neg (by omega)]; exact h4
  · have hi : i < q.1 + 1 := hi
    show (if i = q.1 then b else q.2.2.1 i) / 4 < i ∧ (if i = q.1 then q.2.2.2 (b / 4) + 1 else q.2.2.2 i) = (if (if i = q.1 then b else q.2.2.1 i) / 4 = q.1 then q.2.2.2 (b / 4) + 1 else q.2.2.2 ((if i = q.1 then b else q.2.2.1 i) / 4)) + 1
    by_cases e : i = q.1
    · rw [if_pos e, if_pos e, if_neg (by omega)]
      exact ⟨by omega, rfl⟩
    · have := h5 i hi0 (by omega)
      rw [if_neg e, if_neg e, if_neg (by omega)]
      exact this
  · have hi : i < q.1 + 1 := hi
    show (if i = q.1 then q.2.2.2 (b / 4) + 1 else q.2.2.2 i) ≤ i
    by_cases e : i = q.1
    · rw [if_pos e]; have := h6 (b / 4) hb; omega
    · rw [if_neg e]; exact h6 i (by omega)
theorem fc_loop {Q : Int32 → St → Prop} {B mk : Nat} (hs : RfQ σ B mk q) (hq : okCh q) : ∀ (i n : Nat), i < q.1 → Q (nI (n + q.2.2.2 i)) σ → S_BM_finds_158 g Q σ (nI n) (nI i) := by
  intro i
  induction i using Nat.strongRecOn with
  | _ i ih =>
    intro n hi h
    have h4 := hq.2.1
    refine sg_BM_finds_158 ⟨vp_in_nI (by omega) (by decide), ?_⟩
    rw [nI_clamp (by omega)]
    by_cases i0 : i = 0
    · subst i0
      rw [hs.2.2.2.1]
      rw [hq.2.2.1, Nat.add_zero] at h
      exact ⟨fun _ => h, fun z => absurd rfl z⟩
    · obtain ⟨a1, a2⟩ := hq.2.2.2.1 i (by omega) hi
      rw [(hs.2.2.2.2.1 i (by omega) hi).1]
      refine ⟨fun z => absurd z.symm (m1_ne (by omega)), fun _ => ?_⟩
      rintro u rfl
      refine ⟨vp_in_nI (by omega) (by decide), ?_⟩
      rintro u2 rfl
      rw [nI_1]
      refine ih (q.2.2.1 i / 4) a1 (n + 1) (by omega) ?_
      rw [show n + 1 + q.2.2.2 (q.2.2.1 i / 4) = n + q.2.2.2 i by omega]
      exact h
theorem pm_loop {Q : Int32 → St → Prop} {B mk k : Nat} (hs : RfQ σ B mk q) (hq : okCh q) (hk : k < 2 ^ 31) : ∀ (m i : Nat), 0 < i → i < q.1 → m + 1 ≤ q.2.2.2 i → k + m < 2 ^ 31 → Q (nI (pbk q.2.2.1 m (q.2.2.1 i) % 4)) σ → S_BM_path_42 g Q σ (nI k) (nI i) (nI (k + m)) := by
  intro m
  induction m with
  | zero =>
    intro i hi0 hi hm hkm h
    have := hq.2.1
    refine sg_BM_path_42 ⟨fun _ => ⟨vp_in_nI (by omega) (by decide), ?_⟩, fun z => absurd (nI_le (Nat.le_refl _) (by omega)) z⟩
    rw [nI_clamp (by omega), (hs.2.2.2.2.1 i hi0 hi).2]
    exact h
  | succ m ih =>
    intro i hi0 hi hm hkm h
    have h4 := hq.2.1
    obtain ⟨a1, a2⟩ := hq.2.2.2.1 i hi0 hi
    refine sg_BM_path_42 ⟨fun z => absurd z (nI_ge (by omega) (by omega)), fun _ => ⟨vp_in_nI (by omega) (by decide), ?_⟩⟩
    rw [nI_clamp (by omega), (hs.2.2.2.2.1 i hi0 hi).1]
    rintro u rfl u2 rfl
    rw [show k + (m + 1) = (k + m) + 1 by omega, pk_m1]
    have b0 : 0 < q.2.2.1 i / 4 := Nat.pos_of_ne_zero (fun z => by rw [z, hq.2.2.1] at a2; omega)
    exact ih (q.2.2.1 i / 4) b0 (by omega) (by omega) (by omega) h
/-- what a search leaves for the path -/
def PthM (σ : St) (c : Cfg) (P : Nat → Nat) : Prop := ¬ allH P → (fndF c P).1 = 1 → (∃ N mk, RfQ σ c.2.2.1 mk (psh (fndF c P).2.2 N (fndF c P).2.1 ((fndF c P).2.2.2.2.2 ((fndF c P).2.1 / 4) + 1))) ∧ fi σ 151 46 = nI (fndF c P).2.2.1
theorem k_BM_finds {Q : Int32 → St → Prop} {mk : Nat} (hr : RefT σ c P) (hp : okP c.1 c.2.1 c.2.2.1 c.2.2.2.1 P) (hm : MrkM σ mk) (hmk : mk + 1 < 2 ^ 31) (h : ∀ τ, fr [(151, 32), (151, 35), (151, 36), (151, 44), (151, 45), (151, 46)] [154, 170, 171, 172, 173, 175, 176, 177, 178, 179] σ τ → RefT τ c P → MrkM τ (mk + 1) → PthM τ c P → Q (finV c P) τ) : K_BM_finds g σ Q := by
  have hC := hr.1.1.2.2.2.1
  have hR := hr.1.1.2.2.2.2.1
  have hB := hr.1.1.2.2.2.2.2
  refine ko_BM_finds (sg_BM_finds_0 (lay_to sh179 (by decide) hB hr.1.2.2.1 (fun τ1 f1 p1 => ?_)))
  rintro s2 rfl s3 rfl s4 e4
  have e44 : fi τ1 151 44 = nI mk := by rw [(f1.1 151 44 (by simp)).1]; exact hm.1
  rw [e44, nI_1] at e4
  have f4 : fr [(151, 44), (151, 45), (151, 46)] [] τ1 s4 := by rw [e4]; exact ((fr_sfi (by decide)).tr (fr_sfi (by decide))).tr (fr_sfi (by decide))
  have r4 : RefT s4 c P := (hr.fr f1 (by decide) (by decide) (by decide) (by decide) (by decide) (by decide) (by decide) (by decide) (by decide)).fr f4 (by simp) (by simp) (by simp) (by simp) (by simp) (by simp) (by simp) (by simp) (by simp)
  have k4 : ∀ b, b < c.2.2.1 → ai s4 179 b = nI (P b) := fun b hb => by rw [(f4.2 179 (by simp)).1]; exact p1 b hb
  have F4 : fr [(151, 32), (151, 35), (151, 36), (151, 44), (151, 45), (151, 46)] [154, 170, 171, 172, 173, 175, 176, 177, 178, 179] σ s4 := (f1.mo (by simp) (by decide)).tr (f4.mo (by decide) (by simp))
  have g44 : fi s4 151 44 = nI (mk + 1) := by rw [e4]; rfl
  have g45 : fi s4 151 45 = nI 0 := by rw [e4]; rfl
  have g46 : fi s4 151 46 = -1 := by rw [e4]; rfl
  have g175 : ai s4 175 = ai σ 175 := by rw [(f4.2 175 (by simp)).1, (f1.2 175 (by decide)).1]
  have hsm := smP_lt hp.1
  -- the end: laid back, and what it answers
  have back : ∀ (τ : St) (P' : Nat → Nat) (x1 : Int32), fr [(151, 32), (151, 35), (151, 36), (151, 45), (151, 46)] [154, 170, 171, 172, 173, 175, 176, 177, 178] s4 τ → RefT τ c P' → (∀ (υ : St), fr [] [154] τ υ → fr [(151, 32), (151, 35), (151, 36), (151, 44), (151, 45), (151, 46)] [154, 170, 171, 172, 173, 175, 176, 177, 178, 179] σ υ → RefT υ c P → (¬ (fi υ 151 46) = (-1 : Int32) → ∀ u2 : Int32, u2 = (fi υ 151 46) → S_BM_finds_158 g Q υ (0 : Int32) u2) ∧ ((fi υ 151 46) = (-1 : Int32) → (x1 = 0 → Q (-2 : Int32) υ) ∧ (¬ x1 = 0 → Q (-3 : Int32) υ))) → S_BM_finds_120 g Q τ x1 := by
    intro τ P' x1 hf hr' hq
    refine sg_BM_finds_120 (lay_back (P := P) sh179 (by decide) hr' (fun b hb => by rw [(hf.2 179 (by decide)).1]; exact k4 b hb) hp.1 (fun υ fu ru => ?_))
    exact hq υ fu (F4.tr ((hf.mo (by decide) (by decide)).tr (fu.mo (by simp) (by decide)))) ru
  -- the beginning
  refine ko_BM_comes (sg_BM_comes_0 (k_BM_situationNow r4 ⟨vp_in_nI hsm (by decide), ?_⟩))
  obtain ⟨m, g1, g2⟩ := hm.2 _ hsm
  rw [nI_clamp (by omega), g175, g1, g44, nI_eq (by omega) (by omega)]
  have begin53 : S_BM_comes_53 g (fun (r6 : Int32) (s5 : St) => S_BM_finds_40 g Q s5 r6 (0 : Int32)) s4 (-1) (-1) (nI (smP P c.2.2.1)) := by
    refine sg_BM_comes_53 ⟨vp_in_nI hsm (by decide), ?_⟩
    rintro t1 e1
    rw [nI_clamp (by omega), g44] at e1
    have a1 : fi t1 151 45 = nI 0 := by rw [e1]; exact g45
    rw [a1]
    refine ⟨vp_in_nI (by decide) (by decide), ?_⟩
    rintro t2 e2
    rw [nI_clamp (by decide)] at e2
    have a2 : fi t2 151 45 = nI 0 := by rw [e2]; exact a1
    rw [a2]
    refine ⟨vp_in_nI (by decide) (by decide), ?_⟩
    rintro t3 e3
    rw [nI_clamp (by decide)] at e3
    have a3 : fi t3 151 45 = nI 0 := by rw [e3]; exact a2
    rw [a3]
    refine ⟨vp_in_nI (by decide) (by decide), ?_⟩
    rintro t4 e4'
    rw [nI_clamp (by decide)] at e4'
    have ft4 : fr [] [175, 176, 177, 178] s4 t4 := by
      rw [e4', e3, e2, e1]
      exact (((fr_sai (by decide)).tr (fr_sai (by decide))).tr (fr_sai (by decide))).tr (fr_sai (by decide))
    have rt4 : RefT t4 c P := r4.fr ft4 (by decide) (by decide) (by decide) (by decide) (by decide) (by decide) (by decide) (by decide) (by decide)
    have b175 : ∀ s, ai t4 175 s = if s = smP P c.2.2.1 then nI (mk + 1) else ai σ 175 s := fun s => by
      rw [e4', ai_sai, if_neg (by omega), e3, ai_sai, if_neg (by omega), e2, ai_sai, if_neg (by omega), e1, ai_sai, g175]
      by_cases z : s = smP P c.2.2.1
      · rw [if_pos ⟨rfl, z⟩, if_pos z]
      · rw [if_neg (fun v => z v.2), if_neg z]
    have b176 : ai t4 176 0 = nI (smP P c.2.2.1) := by
      rw [e4', ai_sai, if_neg (by omega), e3, ai_sai, if_neg (by omega), e2, ai_sai, if_pos ⟨rfl, rfl⟩]
    have b177 : ai t4 177 0 = -1 := by rw [e4', ai_sai, if_neg (by omega), e3, ai_sai, if_pos ⟨rfl, rfl⟩]
    have a4 : fi t4 151 45 = nI 0 := by rw [e4']; exact a3
    -- the queue of one
    have mkq : ∀ υ : St, fr [(151, 45), (151, 46)] [] t4 υ → fi υ 151 45 = nI 1 → RfQ υ c.2.2.1 (mk + 1) (q0F P) := by
      intro υ fu u45
      refine ⟨?_, u45, fun i hi => ?_, ?_, fun i hi0 hi => absurd hi (by show ¬ i < 1; omega), fun s hs => ?_⟩
      · rw [(fu.1 151 44 (by decide)).1, (ft4.1 151 44 (by simp)).1]; exact g44
      · have hi : i < 1 := hi
        have e : i = 0 := by omega
        subst e
        rw [(fu.2 176 (by simp)).1]; exact b176
      · rw [(fu.2 177 (by simp)).1]; exact b177
      · rw [(fu.2 175 (by simp)).1, b175]
        by_cases z : s = smP P c.2.2.1
        · rw [if_pos z]
          exact ⟨mk + 1, rfl, Nat.le_refl _, fun _ => ⟨0, by show 0 < 1; decide, z.symm⟩, fun _ => rfl⟩
        · rw [if_neg z]
          obtain ⟨m', a, b⟩ := hm.2 s hs
          refine ⟨m', a, by omega, fun y => by omega, ?_⟩
          rintro ⟨i, hi, e⟩
          exact absurd e.symm z
    refine k_areH rt4 ?_
    by_cases yH : allH P
    · rw [if_pos yH]
      refine ⟨fun z => absurd z (by decide), fun _ => ?_⟩
      rintro s9 rfl s10 e10
      have e45' : fi (sfi t4 151 46 (fi t4 151 45)) 151 45 = nI 0 := a4
      rw [e45', nI_1] at e10
      have f10 : fr [(151, 45), (151, 46)] [] t4 s10 := by rw [e10]; exact (fr_sfi (by decide)).tr (fr_sfi (by decide))
      have c45 : fi s10 151 45 = nI 1 := by rw [e10]; rfl
      have c46 : fi s10 151 46 = nI 0 := by rw [e10, fi_sfi, if_neg (by decide), fi_sfi, if_pos ⟨rfl, rfl⟩]; exact a4
      have q10 := mkq s10 f10 c45
      have r10 : RefT s10 c P := rt4.fr f10 (by simp) (by simp) (by simp) (by simp) (by simp) (by simp) (by simp) (by simp) (by simp)
      have hfin : S_BM_finds_120 g Q s10 0 := by
        refine back s10 P 0 ((ft4.mo (by simp) (by decide)).tr (f10.mo (by decide) (by simp))) r10 (fun υ fu Fu ru => ?_)
        rw [(fu.1 151 46 (by simp)).1, c46]
        refine ⟨fun _ => ?_, fun z => absurd z (by decide)⟩
        rintro u rfl
        have qu := q10.fr fu (by simp) (by simp) (by decide) (by decide) (by decide) (by decide)
        refine sg_BM_finds_158 ⟨pk_in 0 4001 (by decide), ?_⟩
        rw [show (nI 0).toNatClampNeg = 0 from rfl, qu.2.2.2.1]
        refine ⟨fun _ => ?_, fun z => absurd rfl z⟩
        have := h υ Fu ru qu.mrk (fun z => absurd yH z)
        unfold finV at this
        rw [if_pos yH] at this
        exact this
      refine sg_BM_finds_40 ?_
      rw [c45, c46]
      exact ⟨fun z => absurd z (by decide), fun _ => ⟨fun z => absurd z (by decide), fun _ => ⟨fun _ => hfin, fun z => absurd z (by decide)⟩⟩⟩
    · rw [if_neg yH]
      refine ⟨fun _ => ?_, fun z => absurd rfl z⟩
      rintro s7 rfl s8 e8
      rw [sfi_self] at e8
      rw [a4, nI_1] at e8
      have f8 : fr [(151, 45), (151, 46)] [] t4 s8 := by rw [e8]; exact fr_sfi (by decide)
      have c45 : fi s8 151 45 = nI 1 := by rw [e8]; rfl
      have c46 : fi s8 151 46 = -1 := by rw [e8, fi_sfi, if_neg (by decide), (ft4.1 151 46 (by simp)).1]; exact g46
      have q8 := mkq s8 f8 c45
      have r8 : RefT s8 c P := rt4.fr f8 (by simp) (by simp) (by simp) (by simp) (by simp) (by simp) (by simp) (by simp) (by simp)
      have F8 : fr [(151, 32), (151, 35), (151, 36), (151, 45), (151, 46)] [154, 170, 171, 172, 173, 175, 176, 177, 178] s4 s8 := (ft4.mo (by simp) (by decide)).tr (f8.mo (by decide) (by simp))
      refine sg_BM_finds_40 ?_
      rw [c45, c46]
      refine ⟨fun z => absurd z (by decide), fun _ => ⟨fun z => absurd z (by decide), fun _ => ⟨fun z => absurd rfl z, fun _ => ⟨fun z => absurd rfl z, fun _ => ?_⟩⟩⟩⟩
      refine fd_loop (by omega) 20010 0 0 (q0F P) s8 P (by decide) (by decide) (show 0 < 1 by decide) (q0_ok hp yH) q8 r8 c46 (fun τ P' hf hr' hyes hno => ?_)
      have er : bfsF c 20010 0 0 (q0F P) = fndF c P := rfl
      rw [er] at hyes hno ⊢
      refine back τ P' _ (F8.tr hf) hr' (fun υ fu Fu ru => ?_)
      have hbk := bfs_ok hC hR 20010 0 0 (q0F P) (q0_ok hp yH) (show 0 < 1 by decide)
      rw [er] at hbk
      rw [(fu.1 151 46 (by simp)).1]
      by_cases k1 : (fndF c P).1 = 1
      · obtain ⟨⟨N, qN⟩, c46'⟩ := hyes k1
        have qN' := qN.fr fu (by simp) (by simp) (by decide) (by decide) (by decide) (by decide)
        have hle := hbk.1.2.1
        rw [c46']
        refine ⟨fun _ => ?_, fun z => absurd z.symm (m1_ne (by omega))⟩
        rintro u rfl
        have hd := okCh_psh (N := N) hbk.1 (hbk.2 k1)
        refine fc_loop (n := 0) qN' hd (fndF c P).2.2.1 (by show (fndF c P).2.2.1 < (fndF c P).2.2.1 + 1; omega) ?_
        have := h υ Fu ru qN'.mrk (fun _ _ => ⟨⟨N, mk + 1, qN'⟩, by rw [(fu.1 151 46 (by simp)).1]; exact c46'⟩)
        unfold finV resV at this
        rw [if_neg yH, if_pos k1] at this
        have ed : (psh (fndF c P).2.2 N (fndF c P).2.1 ((fndF c P).2.2.2.2.2 ((fndF c P).2.1 / 4) + 1)).2.2.2 (fndF c P).2.2.1 = (fndF c P).2.2.2.2.2 ((fndF c P).2.1 / 4) + 1 := if_pos rfl
        rw [ed, Nat.zero_add]
        exact this
      · obtain ⟨qq, c46'⟩ := hno k1
        have qq' := qq.fr fu (by simp) (by simp) (by decide) (by decide) (by decide) (by decide)
        rw [c46']
        refine ⟨fun z => absurd rfl z, fun _ => ?_⟩
        have := h υ Fu ru qq'.mrk (fun _ z => absurd z k1)
        unfold finV resV at this
        rw [if_neg yH, if_neg k1] at this
        have hk3 := bfs_k c 20010 0 0 (q0F P)
        rw [er] at hk3
        by_cases k2 : (fndF c P).1 = 2
        · rw [if_pos k2]
          rw [if_neg (by omega)] at this
          exact ⟨fun z => absurd z (by decide), fun _ => this⟩
        · rw [if_neg k2]
          rw [if_pos (by omega)] at this
          exact ⟨fun _ => this, fun z => absurd rfl z⟩
  refine ⟨fun z => absurd z (by omega), fun _ => k_BM_fell (v := 37) r4.1 (by decide) ?_⟩
  rw [g45]
  refine ⟨fun _ => ⟨fun _ => begin53, fun z => absurd z (by decide)⟩, fun _ => ⟨fun _ => ⟨fun _ => begin53, fun z => absurd z (by decide)⟩, fun z => absurd rfl z⟩⟩
end
