-- box on both sides
def newD (d : Dat) (b : BxT) : Dat := (b.1, b.2.1, b.2.2.1, b.2.2.2.1, b.2.2.2.2.1, 0, 0, vrw d, 0, vsd d, vx d, vf d)
theorem okD_box {nr : Nat} {d : Dat} {b : BxT} (ho : OkD nr d) (hb : BxOk b) : OkD nr (newD d b) := by
  obtain ⟨o1, o2, o3, o4, o5, o6, o7, o8, o9⟩ := ho
  obtain ⟨b1, b2, b3, b4⟩ := hb
  exact ⟨⟨b1.1, b1.2.1, b1.2.2.1, b1.2.2.2.1, fun z => b1.2.2.2.2 (b1.2.2.2.1.mp z)⟩, b2, b3, b4, Nat.zero_le _, fun k hk => absurd hk (Nat.not_lt_zero _), Nat.zero_le _, fun k hk => absurd hk (Nat.not_lt_zero _), o9⟩
theorem coF_bad {L p e : Nat} {T : Nat → Nat} (hp : p ≤ 400) (h : coF L T p = .inl e) : 0 < e ∧ e < 4000 := by
  unfold coF at h
  split at h
  · cases h; exact flt_b (by omega) (by decide)
  · split at h
    · cases h; exact flt_b (by omega) (by decide)
    · split at h
      · cases h; exact flt_b (by omega) (by decide)
      · cases h
theorem rowL_bad {L R : Nat} {T : Nat → Nat} (hL : L ≤ 400) : ∀ {f p n : Nat} {K : Nat → Nat} {H : Nat → Bool} {e : Nat}, p ≤ L → rowL L T R f p n K H = .inl e → 0 < e ∧ e < 4000
  | 0, p, n, K, H, e, hp, h => by unfold rowL at h; cases h
  | f + 1, p, n, K, H, e, hp, h => by
    unfold rowL at h
    cases hk : kdA L T p with
    | none => rw [hk] at h; cases h
    | some k =>
      rw [hk] at h
      have hpL := (kdA_le hk).2
      dsimp only at h
      split at h
      · cases h; exact flt_b (by omega) (by decide)
      · exact rowL_bad hL (f := f) (by omega) h
theorem rowF_bad {L p e : Nat} {T : Nat → Nat} {b : BxT} (hL : L ≤ 400) (hb : BxOk b) (hp : p ≤ L) (h : rowF L T b p = .inl e) : 0 < e ∧ e < 4000 := by
  unfold rowF at h
  have sl := skF_le (T := T) hp
  cases hr : rowL L T b.2.1 7 (skF L T p) 0 b.2.2.2.1 b.2.2.2.2.2 with
  | inl f => rw [hr] at h; cases h; exact rowL_bad hL sl hr
  | inr r =>
    rw [hr] at h
    have := rowL_ok sl (by omega) hb.2.1 hr
    dsimp only at h
    split at h
    · cases h; exact flt_b (by omega) (by decide)
    · split at h
      · cases h; exact flt_b (by omega) (by decide)
      · cases h
theorem balF_bad {L p e : Nat} {T : Nat → Nat} {b : BxT} (hL : L ≤ 400) (hp : p ≤ L) (h : balF L T b p = .inl e) : 0 < e ∧ e < 4000 := by
  unfold balF at h
  have sl := skF_le (T := T) hp
  cases h1 : coF L T (skF L T p) with
  | inl f => rw [h1] at h; cases h; exact coF_bad (by omega) h1
  | inr r1 =>
    rw [h1] at h
    obtain ⟨x5, e1, e2⟩ := coF_ok sl (show coF L T (skF L T p) = .inr (r1.1, r1.2) from h1)
    have sl2 := skF_le (T := T) e2
    dsimp only at h
    cases h2 : coF L T (skF L T r1.2) with
    | inl f => rw [h2] at h; cases h; exact coF_bad (by omega) h2
    | inr r2 =>
      rw [h2] at h
      dsimp only at h
      split at h
      · cases h
      · cases h; exact flt_b (by omega) (by decide)
theorem bclF_bad {L p n e : Nat} {T : Nat → Nat} {b : BxT} (hL : L ≤ 400) (hb : BxOk b) (hp : p ≤ L) (h : bclF L T b p n = .inl e) : 0 < e ∧ e < 4000 := by
  unfold bclF at h
  have sl : skF L T p ≤ L := skF_le hp
  split at h
  · rename_i w
    have wl := wdIs_le sl (wdB_iff.mp w)
    rw [sl0] at wl
    split at h
    · cases h; exact flt_b (by omega) (by decide)
    · exact rowF_bad hL hb wl h
  · split at h
    · rename_i w
      have wl := wdIs_le sl (wdB_iff.mp w)
      rw [sl1] at wl
      split at h
      · cases h; exact flt_b (by omega) (by decide)
      · exact balF_bad hL wl h
    · cases h; exact flt_b (by omega) (by decide)
theorem bxL_bad {L : Nat} {T : Nat → Nat} (hL : L ≤ 400) : ∀ {f p n e : Nat} {b : BxT}, BxOk b → p ≤ L → bxL L T f b p n = .inl e → 0 < e ∧ e < 4000
  | 0, _, _, _, _, _, _, h => by unfold bxL at h; cases h
  | f + 1, p, n, e, b, hb, hp, h => by
    unfold bxL at h
    cases hc : bclF L T b p n with
    | inl e2 => rw [hc] at h; cases h; exact bclF_bad hL hb hp hc
    | inr r =>
      rw [hc] at h
      obtain ⟨a1, a2, a3, a4, a5⟩ := bclF_ok hb hp hc
      have sl : skF L T r.2 ≤ L := skF_le a2
      dsimp only at h
      split at h
      · cases h
      · split at h
        · exact bxL_bad hL (f := f) a1 (by omega) h
        · cases h; exact flt_b (by omega) (by decide)
theorem sh160 : SH[160]? = some (.inr (0, 36, [])) := by decide +kernel
theorem sh161 : SH[161]? = some (.inr (0, 3, [])) := by decide +kernel
section
variable {g : Gx} {σ : St} {d : Dat} {nr L : Nat} {T : Nat → Nat}
theorem kB_boxing {Q : Int32 → St → Prop} (hx : TxC σ L T) (hs : ClsS 83 σ d) (hbad : ∀ e, bxL L T 13 bx0 0 0 = .inl e → ∀ τ, fr [(1, 1), (1, 2), (1, 3), (4, 2), (4, 3), (4, 4), (4, 5)] [5, 6] σ τ → fi τ 1 1 = 0 → Q (-2 - nI e) τ) (hok : ∀ b, bxL L T 13 bx0 0 0 = .inr b → ∀ τ, fr [(1, 1), (1, 2), (1, 3), (4, 2), (4, 3), (4, 4), (4, 5), (0, 14), (83, 1), (83, 2), (83, 3), (83, 4), (83, 5), (83, 6), (83, 7), (83, 8)] [5, 6, 84, 85] σ τ → fi τ 1 1 = 0 → fi τ 0 14 = fi σ 0 14 + 1 → ClsS 83 τ (newD d b) → Q (nI b.2.2.1) τ) : K_BB_box g σ Q := by
  refine ko_BB_box (sg_BB_box_0 (k_BR_read hx (fun e he τ hf => ?_) (fun b he τ hf hb => ?_)))
  · rintro s3 rfl
    obtain ⟨e0, e4⟩ := bxL_bad hx.2.1 bx0_ok (Nat.zero_le _) he
    refine ⟨fun c => absurd c (nI_ne0 e0 (by omega)), fun _ => hbad e he _ ((hf.mo (by decide) (by decide)).tr (fr_sfi (by decide))) rfl⟩
  · rintro s3 e3
    refine ⟨fun _ => ?_, fun c => absurd rfl c⟩
    obtain ⟨bo, bR⟩ := bxL_ok bx0_ok (Nat.zero_le _) (by decide) (by decide) he
    have f3 : fr [(1, 1), (1, 2), (1, 3), (4, 2), (4, 3), (4, 4), (4, 5)] [5, 6] σ s3 := by rw [e3]; exact (hf.mo (by decide) (by decide)).tr (fr_sfi (by decide))
    have hb3 : BxC s3 b := by rw [e3]; exact hb.frm (F := [(1, 1)]) (M := []) (fr_sfi (by decide)) (by decide) (by decide) (by decide) (by decide) (by decide) (by decide)
    refine ko_SA_beginWith (sg_SA_beginWith_0 sa_83 sa_4 (k_SA_takeBox sa_83 sa_4 (by decide) (fun τ2 f2 t2 t3 t4 t5 tk th => ?_)))
    rintro s4 e4 s5 e5 s6 e6 s7 e7 s8 e8
    have f7 : fr [(83, 1), (83, 6), (83, 7), (83, 8)] [] τ2 s7 := by
      rw [e7, e6, e5, e4]
      exact (((fr_sfi (by decide)).tr (fr_sfi (by decide))).tr (fr_sfi (by decide))).tr (fr_sfi (by decide))
    have f8 : fr [(0, 14), (83, 1), (83, 6), (83, 7), (83, 8)] [] τ2 s8 := by
      rw [e8]; exact (f7.mo (by decide) (by simp)).tr (fr_sfi (by decide))
    have F : fr [(1, 1), (1, 2), (1, 3), (4, 2), (4, 3), (4, 4), (4, 5), (0, 14), (83, 1), (83, 2), (83, 3), (83, 4), (83, 5), (83, 6), (83, 7), (83, 8)] [5, 6, 84, 85] σ s8 := (f3.mo (by decide) (by decide)).tr ((f2.mo (by decide) (by decide)).tr (f8.mo (by decide) (by simp)))
    have c84 : fi s8 83 4 = nI b.2.2.1 := by rw [(f8.1 83 4 (by decide)).1, t4]; exact hb3.1.2.2
    rw [c84]
    refine hok b he s8 F ?_ ?_ ?_
    · rw [(f8.1 1 1 (by decide)).1, (f2.1 1 1 (by decide)).1, e3]; rfl
    · rw [e8, fi_sfi, if_pos ⟨rfl, rfl⟩, (f7.1 0 14 (by decide)).1, (f2.1 0 14 (by decide)).1, (f3.1 0 14 (by decide)).1]
    · have hB2 : ClsB 83 τ2 b.1 b.2.1 b.2.2.1 b.2.2.2.1 := clsB_copy (hb3.cls bo) t2 t3 t4 tk th
      have C0 : b.1 ≠ 0 := fun z => by have := bo.1.2.2.2.1.mp z; omega
      refine ⟨?_, hB2.fr f8 (by decide) (by decide) (by decide) (by decide) (by decide), ?_, ?_, ?_, fun k hk => absurd hk (Nat.not_lt_zero _), ?_, fun k hk => absurd hk (Nat.not_lt_zero _), ?_, ?_⟩
      · show fi s8 83 1 = if b.1 = 0 then 0 else 1
        rw [if_neg C0, e8, fi_sfi, if_neg (by decide), e7, fi_sfi, if_neg (by decide), e6, fi_sfi, if_neg (by decide), e5, fi_sfi, if_neg (by decide), e4, fi_sfi, if_pos ⟨rfl, rfl⟩]
      · show fi s8 83 5 = nI (sitP b.2.2.2.2.1 b.2.2.1)
        rw [(f8.1 83 5 (by decide)).1, t5]; exact hb3.2.2.2
      · show fi s8 83 6 = 0
        rw [e8, fi_sfi, if_neg (by decide), e7, fi_sfi, if_neg (by decide), e6, fi_sfi, if_neg (by decide), e5, fi_sfi, if_pos ⟨rfl, rfl⟩]
      · show fi s8 83 7 = nI 0
        rw [e8, fi_sfi, if_neg (by decide), e7, fi_sfi, if_neg (by decide), e6, fi_sfi, if_pos ⟨rfl, rfl⟩]; rfl
      · show fi s8 83 8 = nI 0
        rw [e8, fi_sfi, if_neg (by decide), e7, fi_sfi, if_pos ⟨rfl, rfl⟩]; rfl
      · show fi s8 83 9 = oI (vf d)
        rw [(F.1 83 9 (by decide)).1]; exact hs.2.2.2.2.2.2.2.2.1
      · show fi s8 83 10 = nI (vx d)
        rw [(F.1 83 10 (by decide)).1]; exact hs.2.2.2.2.2.2.2.2.2
theorem kM_boxing {Q : Int32 → St → Prop} (hx : TxM σ L T) (hs : CurM σ d) (hbad : ∀ e, bxL L T 13 bx0 0 0 = .inl e → ∀ τ, fr [(151, 11), (151, 12), (151, 13), (151, 16), (151, 17), (151, 18), (151, 21)] [159, 160, 161] σ τ → fi τ 151 11 = 0 → Q (-2 - nI e) τ) (hok : ∀ b, bxL L T 13 bx0 0 0 = .inr b → ∀ τ, fr [(151, 11), (151, 12), (151, 13), (151, 16), (151, 17), (151, 18), (151, 21)] [159, 160, 161, 152, 153, 154] σ τ → fi τ 151 11 = 0 → CurM τ (newD d b) → Q (nI b.2.2.1) τ) : K_BM_box g σ Q := by
  have hL := hx.2.1
  have fin : ∀ τ, fr [(151, 11), (151, 12), (151, 13), (151, 16), (151, 17), (151, 18), (151, 21)] [159, 160, 161] σ τ → ∀ n : Int32, (∀ e, bxL L T 13 bx0 0 0 = .inl e → fi τ 151 13 = nI e → S_BM_box_54 g Q τ n 0) ∧ (∀ b, bxL L T 13 bx0 0 0 = .inr b → fi τ 151 13 = 0 → BxM τ b → S_BM_box_54 g Q τ n 0) := by
    intro τ F n
    refine ⟨fun e he h13 => ?_, fun b he h13 hb => ?_⟩
    · obtain ⟨e0, e4⟩ := bxL_bad hL bx0_ok (Nat.zero_le _) he
      refine sg_BM_box_54 ⟨fun _ => ?_, fun c => absurd rfl c⟩
      rintro s1 e1
      have a13 : fi s1 151 13 = nI e := by rw [e1]; exact h13
      rw [a13]
      refine ⟨fun c => absurd c (nI_nle e0 (by omega)), fun _ => hbad e he s1 ?_ ?_⟩
      · rw [e1]; exact F.tr (fr_sfi (by decide))
      · rw [e1]; rfl
    · obtain ⟨bo, bR⟩ := bxL_ok bx0_ok (Nat.zero_le _) (by decide) (by decide) he
      refine sg_BM_box_54 ⟨fun _ => ?_, fun c => absurd rfl c⟩
      rintro s1 e1
      have a13 : fi s1 151 13 = 0 := by rw [e1]; exact h13
      rw [a13]
      refine ⟨fun _ => ?_, fun c => absurd (by decide) c⟩
      have f1 : fr [(151, 11), (151, 12), (151, 13), (151, 16), (151, 17), (151, 18), (151, 21)] [159, 160, 161] σ s1 := by rw [e1]; exact F.tr (fr_sfi (by decide))
      have hb1 : BxM s1 b := by rw [e1]; exact hb.frm (F := [(151, 11)]) (M := []) (fr_sfi (by decide)) (by decide) (by decide) (by decide) (by decide)
      have z11 : fi s1 151 11 = 0 := by rw [e1]; rfl
      -- the scalars
      have go : ∀ m k τ, k + m = 6 → fr [] [152] s1 τ → (∀ j, j < k → ai τ 152 j = if j < 3 then ai s1 159 j else 0) → (∀ j, 6 ≤ j → ai τ 152 j = ai s1 152 j) → S_BM_box_96 g Q τ (nI k) := by
        intro m
        induction m with
        | zero =>
          intro k τ hk hf h1 h2
          have ek : k = 6 := by omega
          subst ek
          refine sg_BM_box_96 ⟨fun _ => ?_, fun c => absurd (by decide) c⟩
          refine k_BM_lay sh160 sh153 (by decide) (by decide) (by decide) (fun τ2 f2 a2 _ => k_BM_lay sh161 sh154 (by decide) (by decide) (by decide) (fun τ3 f3 a3 _ => ⟨pk_in 2 8 (by decide), ?_⟩))
          have r152 : ai τ3 152 = ai τ 152 := by rw [(f3.2 152 (by decide)).1, (f2.2 152 (by decide)).1]
          have v2 : ai τ3 152 2 = nI b.2.2.1 := by rw [r152, h1 2 (by decide), if_pos (by decide)]; exact hb1.1.2.2
          rw [cl2, v2]
          have F3 : fr [(151, 11), (151, 12), (151, 13), (151, 16), (151, 17), (151, 18), (151, 21)] [159, 160, 161, 152, 153, 154] σ τ3 := (f1.mo (by decide) (by decide)).tr ((hf.mo (by simp) (by decide)).tr ((f2.mo (by simp) (by decide)).tr (f3.mo (by simp) (by decide))))
          refine hok b he τ3 F3 ?_ ?_
          · rw [(f3.1 151 11 (by simp)).1, (f2.1 151 11 (by simp)).1, (hf.1 151 11 (by simp)).1]; exact z11
          · obtain ⟨⟨c0, c1, c2, c3, c4, c5, c6, c7⟩, a2', a3', a4, a5⟩ := hs
            have r160 : ai τ 160 = ai s1 160 := (hf.2 160 (by decide)).1
            have r161 : ai τ2 161 = ai s1 161 := by rw [(f2.2 161 (by decide)).1, (hf.2 161 (by decide)).1]
            refine ⟨⟨?_, ?_, v2, ?_, ?_, ?_, ?_, ?_⟩, fun c hc => ?_, fun i hi => ?_, fun k hk => absurd hk (Nat.not_lt_zero _), fun k hk => absurd hk (Nat.not_lt_zero _)⟩
            · rw [r152, h1 0 (by decide), if_pos (by decide)]; exact hb1.1.1
            · rw [r152, h1 1 (by decide), if_pos (by decide)]; exact hb1.1.2.1
            · rw [r152, h1 3 (by decide), if_neg (by decide)]; rfl
            · rw [r152, h1 4 (by decide), if_neg (by decide)]; rfl
            · rw [r152, h1 5 (by decide), if_neg (by decide)]; rfl
            · rw [r152, h2 6 (by decide), (f1.2 152 (by decide)).1]; exact c6
            · rw [r152, h2 7 (by decide), (f1.2 152 (by decide)).1]; exact c7
            · rw [(f3.2 153 (by decide)).1, a2 c hc, r160]; exact hb1.2.1 c hc
            · have hi : i < b.2.2.1 := hi
              have b3 := bo.1.2.2.1
              rw [a3 i (by omega), r161]; exact hb1.2.2.1 i hi
        | succ m ih =>
          intro k τ hk hf h1 h2
          refine sg_BM_box_96 ⟨fun c => absurd c (nI_ge (b := 6) (by omega) (by decide)), fun _ => ?_⟩
          have next : ∀ v, (v = if k < 3 then ai s1 159 k else 0) → ∀ s, s = sai τ 152 k v → ∀ u : Int32, u = nI k + 1 → S_BM_box_96 g Q s u := by
            intro v ev s es u eu
            rw [eu, nI_1]
            refine ih (k + 1) s (by omega) (by rw [es]; exact hf.tr (fr_sai (by decide))) (fun j hj => ?_) (fun j hj => ?_)
            · rw [es, ai_sai]
              by_cases e : j = k
              · rw [if_pos ⟨rfl, e⟩, e]; exact ev
              · rw [if_neg (fun z => e z.2)]; exact h1 j (by omega)
            · rw [es, ai_sai, if_neg (fun z => by omega)]; exact h2 j hj
          rw [nI_clamp (by omega), (hf.2 159 (by decide)).1]
          refine pk_le 3 k (fun q => ⟨vp_in_nI (by omega) (by decide), next 0 (by rw [if_neg (by omega)])⟩) (fun q => ⟨vp_in_nI (by omega) (by decide), vp_in_nI (by omega) (by decide), next _ (by rw [if_pos q])⟩)
      exact go 6 0 s1 rfl fr.rf (fun j hj => absurd hj (Nat.not_lt_zero _)) (fun _ _ => rfl)
  have loop : ∀ (f p n : Nat) (b : BxT) (τ : St), n + f = 13 → 0 < f → p ≤ L → TxM τ L T → fi τ 151 12 = nI p → fi τ 151 13 = 0 → BxM τ b → BxOk b → fr [(151, 11), (151, 12), (151, 13), (151, 16), (151, 17), (151, 18), (151, 21)] [159, 160, 161] σ τ → bxL L T f b p n = bxL L T 13 bx0 0 0 → S_BM_box_54 g Q τ (nI n) 1 := by
    intro f
    induction f with
    | zero => intro p n b τ _ h0; exact absurd h0 (by decide)
    | succ f ih =>
      intro p n b τ hn _ hpL hx h2 h3 hb ho F heq
      unfold bxL at heq
      refine sg_BM_box_54 ⟨fun c => absurd c (by decide), fun _ => ?_⟩
      refine k_BM_boxClause (n := n) (by omega) hx hpL h2 h3 hb ho (fun e he τ2 hf hF => ?_) (fun r he τ2 hf t3 t2 hc => ?_)
      · rw [he] at heq
        rintro u rfl
        refine k_BM_goesOnF (hx.frm hf (by decide) (by decide)) hF (fun τ3 f3 => ?_)
        exact (fin τ3 (F.tr ((hf.mo (by decide) (by decide)).tr (f3.mo (by decide) (by simp)))) _).1 e heq.symm (by rw [(f3.1 151 13 (by decide)).1]; exact hF.1)
      · rw [he] at heq
        dsimp only at heq
        obtain ⟨a1, a2, a3, a4, a5⟩ := bclF_ok ho hpL he
        have sl : skF L T r.2 ≤ L := skF_le a2
        have hx2 : TxM τ2 L T := hx.frm hf (by decide) (by decide)
        have F2 := F.tr (hf.mo (by decide) (by decide) : fr [(151, 11), (151, 12), (151, 13), (151, 16), (151, 17), (151, 18), (151, 21)] [159, 160, 161] τ τ2)
        rintro u rfl
        refine k_BM_goesOn hx2 a2 t2 t3 (fun q τ3 f3 => ?_) (fun q q2 => ?_) (fun q q2 τ3 f3 h13 => ?_)
        · rw [if_pos q] at heq
          exact (fin τ3 (F2.tr (f3.mo (by decide) (by simp))) _).2 r.1 heq.symm (by rw [(f3.1 151 13 (by decide)).1]; exact t3) (hc.frm f3 (by decide) (by decide) (by decide) (by decide))
        · rw [if_neg (by omega), if_pos q2] at heq
          rw [nI_1]
          exact ih (skF L T r.2 + 1) (n + 1) r.1 _ (by omega) (by omega) (by omega) (hx2.at (by decide)) rfl t3 (hc.frm (F := [(151, 12)]) (M := []) (fr_sfi (by decide)) (by decide) (by decide) (by decide) (by decide)) a1 (F2.tr (fr_sfi (by decide))) heq
        · rw [if_neg (by omega), if_neg q2] at heq
          exact (fin τ3 (F2.tr (f3.mo (by decide) (by simp))) _).1 _ heq.symm h13
  refine ko_BM_box (sg_BM_box_0 (ko_BM_starts (sg_BM_starts_0 ?_)))
  rintro s1 e1 s2 e2 s3 e3 s4 e4 s5 e5 s6 e6
  have f6 : fr [(151, 12), (151, 13), (151, 16), (151, 17), (151, 18), (151, 21)] [] σ s6 := by
    rw [e6, e5, e4, e3, e2, e1]
    exact (((((fr_sfi (by decide)).tr (fr_sfi (by decide))).tr (fr_sfi (by decide))).tr (fr_sfi (by decide))).tr (fr_sfi (by decide))).tr (fr_sfi (by decide))
  have z12 : fi s6 151 12 = 0 := by rw [e6, e5, e4, e3, e2, e1]; rfl
  have z13 : fi s6 151 13 = 0 := by rw [e6, e5, e4, e3, e2]; rfl
  have z21 : fi s6 151 21 = 0 := by rw [e6]; rfl
  have kinds : ∀ m k τ, k + m = 36 → fr [] [159, 160] s6 τ → (∀ j, j < 3 → ai τ 159 j = 0) → (∀ j, j < k → ai τ 160 j = 1) → S_BM_box_31 g Q τ (nI k) := by
    intro m
    induction m with
    | zero =>
      intro k τ hk hf h1 h2
      have ek : k = 36 := by omega
      subst ek
      refine sg_BM_box_31 ⟨fun _ => ?_, fun c => absurd (by decide) c⟩
      have F : fr [(151, 11), (151, 12), (151, 13), (151, 16), (151, 17), (151, 18), (151, 21)] [159, 160, 161] σ τ := (f6.mo (by decide) (by simp)).tr (hf.mo (by simp) (by decide))
      refine loop 13 0 0 bx0 τ rfl (by decide) (Nat.zero_le _) (hx.frm ((f6.mo (F' := [(151, 12), (151, 13), (151, 16), (151, 17), (151, 18), (151, 21)]) (by decide) (by simp)).tr (hf.mo (R' := [159, 160]) (by simp) (by decide))) (by decide) (by decide)) ?_ ?_ ?_ bx0_ok F rfl
      · rw [(hf.1 151 12 (by simp)).1]; exact z12
      · rw [(hf.1 151 13 (by simp)).1]; exact z13
      · exact ⟨⟨h1 0 (by decide), h1 1 (by decide), h1 2 (by decide)⟩, fun c hc => h2 c hc, fun i hi => absurd hi (Nat.not_lt_zero _), by rw [(hf.1 151 21 (by simp)).1]; exact z21⟩
    | succ m ih =>
      intro k τ hk hf h1 h2
      refine sg_BM_box_31 ⟨fun c => absurd c (nI_ge (b := 36) (by omega) (by decide)), fun _ => ⟨vp_in_nI (by omega) (by decide), ?_⟩⟩
      rintro s es u rfl
      rw [nI_clamp (by omega)] at es
      rw [nI_1]
      refine ih (k + 1) s (by omega) (by rw [es]; exact hf.tr (fr_sai (by decide))) (fun j hj => ?_) (fun j hj => ?_)
      · rw [es, ai_sai, if_neg (fun z => absurd z.1 (by decide))]; exact h1 j hj
      · rw [es, ai_sai]
        by_cases e : j = k
        · rw [if_pos ⟨rfl, e⟩]
        · rw [if_neg (fun z => e z.2)]; exact h2 j (by omega)
  have three : ∀ m k τ, k + m = 3 → fr [] [159, 160] s6 τ → (∀ j, j < k → ai τ 159 j = 0) → S_BM_box_11 g Q τ (nI k) := by
    intro m
    induction m with
    | zero =>
      intro k τ hk hf h1
      have ek : k = 3 := by omega
      subst ek
      exact sg_BM_box_11 ⟨fun _ => kinds 36 0 τ rfl hf h1 (fun j hj => absurd hj (Nat.not_lt_zero _)), fun c => absurd (by decide) c⟩
    | succ m ih =>
      intro k τ hk hf h1
      refine sg_BM_box_11 ⟨fun c => absurd c (nI_ge (b := 3) (by omega) (by decide)), fun _ => ⟨vp_in_nI (by omega) (by decide), ?_⟩⟩
      rintro s es u rfl
      rw [nI_clamp (by omega)] at es
      rw [nI_1]
      refine ih (k + 1) s (by omega) (by rw [es]; exact hf.tr (fr_sai (by decide))) (fun j hj => ?_)
      rw [es, ai_sai]
      by_cases e : j = k
      · rw [if_pos ⟨rfl, e⟩]
      · rw [if_neg (fun z => e z.2)]; exact h1 j (by omega)
  exact three 3 0 s6 rfl fr.rf (fun j hj => absurd hj (Nat.not_lt_zero _))
end
