-- a box's text: the class, its clauses
theorem sh5 : SH[5]? = some (.inr (0, 64, [])) := by decide +kernel
theorem sh6 : SH[6]? = some (.inr (0, 3, [])) := by decide +kernel
section
variable {g : Gx} {σ : St} {L p : Nat} {T : Nat → Nat}
theorem BxC.frm {τ : St} {b : BxT} {F : List (Nat × Nat)} {M : List Nat} (h : BxC σ b) (hf : fr F M σ τ) (h2 : (4, 2) ∉ F) (h3 : (4, 3) ∉ F) (h4 : (4, 4) ∉ F) (h5 : (4, 5) ∉ F) (m5 : 5 ∉ M) (m6 : 6 ∉ M) : BxC τ b := by
  obtain ⟨⟨a1, a2, a3⟩, ⟨g1, g2⟩, hH, c5⟩ := h
  refine ⟨⟨by rw [(hf.1 4 2 h2).1]; exact a1, by rw [(hf.1 4 3 h3).1]; exact a2, by rw [(hf.1 4 4 h4).1]; exact a3⟩, ⟨?_, ?_⟩, ?_, by rw [(hf.1 4 5 h5).1]; exact c5⟩
  · rw [(hf.2 5 m5).1]; exact g1
  · rw [(hf.2 5 m5).1]; exact g2
  · unfold HoD
    rw [(hf.2 6 m6).1]; exact hH
theorem k_BR_readBall {Q : Int32 → St → Prop} {b : BxT} (hx : TxC σ L T) (hpL : p ≤ L) (h2 : fi σ 1 2 = nI p) (h3 : fi σ 1 3 = 0) (hb : BxC σ b) (ho : BxOk b) (hB : b.2.2.1 < 3) (hbad : ∀ e, balF L T b p = .inl e → ∀ τ, fr [(1, 2), (1, 3), (4, 2), (4, 3), (4, 4), (4, 5)] [5, 6] σ τ → fi τ 1 3 = nI e → Q 0 τ) (hok : ∀ r, balF L T b p = .inr r → ∀ τ, fr [(1, 2), (1, 3), (4, 2), (4, 3), (4, 4), (4, 5)] [5, 6] σ τ → fi τ 1 3 = 0 → fi τ 1 2 = nI r.2 → BxC τ r.1 → Q 1 τ) : K_BR_readBall g σ Q := by
  have hL := hx.2.1
  have sl : skF L T p ≤ L := skF_le hpL
  unfold balF at hbad hok
  refine ko_BR_readBall (sg_BR_readBall_0 (k_TA_skipBlanks hx h2 (by omega) ?_))
  rintro u rfl
  rw [show fi (sfi σ 1 2 (nI (skF L T p))) 1 2 = nI (skF L T p) from rfl]
  refine k_BR_readCoordinate (hx.at (by decide)) rfl sl h3 (fun f hf τ ff h13 => ⟨fun c => absurd c (by decide), fun _ => ?_⟩) (fun x e1 hf => ⟨fun _ => ?_, fun c => absurd (nI_pos' (by have := coF_ok sl hf; omega)) c⟩)
  · rw [hf] at hbad
    exact hbad f rfl τ ((fr_sfi (by decide)).tr (ff.mo (by decide) (by decide))) h13
  · rw [hf] at hbad hok
    dsimp only at hbad hok
    obtain ⟨x5, q1, q2⟩ := coF_ok sl hf
    have sl2 : skF L T e1 ≤ L := skF_le q2
    rw [sfi_sfi]
    refine k_TA_skipBlanks (hx.at (by decide)) (p := e1) rfl (by omega) ?_
    rw [sfi_sfi]
    refine k_BR_readCoordinate (hx.at (by decide)) rfl sl2 h3 (fun f hf2 τ ff h13 => ⟨fun c => absurd c (by decide), fun _ => ?_⟩) (fun y e2 hf2 => ⟨fun _ => ?_, fun c => absurd (nI_pos' (by have := coF_ok sl2 hf2; omega)) c⟩)
    · rw [hf2] at hbad
      exact hbad f rfl τ ((fr_sfi (by decide)).tr (ff.mo (by decide) (by decide))) h13
    · rw [hf2] at hbad hok
      dsimp only at hbad hok
      obtain ⟨y5, q3, q4⟩ := coF_ok sl2 hf2
      rw [sfi_sfi]
      obtain ⟨σ', hσ'⟩ : ∃ s, s = sfi σ 1 2 (nI e2) := ⟨_, rfl⟩
      rw [← hσ']
      have f1 : fr [(1, 2), (1, 3), (4, 2), (4, 3), (4, 4), (4, 5)] [5, 6] σ σ' := by rw [hσ']; exact fr_sfi (by decide)
      have f1' : fr [(1, 2)] [] σ σ' := by rw [hσ']; exact fr_sfi (by decide)
      have hb' : BxC σ' b := hb.frm f1' (by decide) (by decide) (by decide) (by decide) (by decide) (by decide)
      have s3 : fi σ' 1 3 = 0 := by rw [hσ']; exact h3
      have s2 : fi σ' 1 2 = nI e2 := by rw [hσ']; rfl
      refine k_SA_spotOf (fun x' y' hx5 hy5 ex ey => ?_) (fun z => (z x y x5 y5 rfl rfl).elim)
      have a1 := (nI_eq (by omega) (by omega)).mp ex
      have a2 := (nI_eq (by omega) (by omega)).mp ey
      subst a1 a2
      have esp : 8 * y + x + 9 = spc (6 * y + x) := by unfold spc; omega
      rw [esp]
      refine k_SA_bare (P := b.2.2.2.2.1) sa_4 (hb'.cls ho) hb'.2.2.2 ho.2.1 (fun i _ => (ho.2.2.1.1.2 i).1) (by omega) ?_
      have em : (6 * y + x) % 6 = x := by omega
      have ed : (6 * y + x) / 6 = y := by omega
      rw [em, ed]
      by_cases ok : (x < b.1 ∧ y < b.2.1) ∧ b.2.2.2.1 (6 * y + x) = 0 ∧ whoM b.2.2.2.2.1 b.2.2.1 (6 * y + x) = -1
      · rw [if_pos ok] at hok ⊢
        refine ⟨fun _ => ?_, fun c => absurd c (by decide)⟩
        rw [hb'.2.2.2, hb'.1.2.2]
        refine k_SA_laid (by omega) (spc_lt (by omega)) ?_
        rintro s14 e14 s15 e15
        have a44 : fi s14 4 4 = nI b.2.2.1 := by rw [e14]; exact hb'.1.2.2
        rw [a44, nI_1] at e15
        have f15 : fr [(4, 4), (4, 5)] [] σ' s15 := by rw [e15, e14]; exact (fr_sfi (by decide)).tr (fr_sfi (by decide))
        have el : lay (sitP b.2.2.2.2.1 b.2.2.1) b.2.2.1 (spc (6 * y + x)) = sitP (upP b.2.2.2.2.1 b.2.2.1 (6 * y + x)) (b.2.2.1 + 1) := by
          have n36 : sitP b.2.2.2.2.1 b.2.2.1 = sitP b.2.2.2.2.1 (b.2.2.1 + 1) := by
            have : ∀ i, enB b.2.2.2.2.1 b.2.2.1 i = enB b.2.2.2.2.1 (b.2.2.1 + 1) i := by
              intro i
              unfold enB
              by_cases w : i < b.2.2.1
              · rw [if_pos w, if_pos (by omega)]
              · rw [if_neg w]
                by_cases w2 : i < b.2.2.1 + 1
                · rw [if_pos w2, ho.2.2.1.1.1 i (by omega)]; rfl
                · rw [if_neg w2]
            unfold sitP
            rw [this 0, this 1, this 2]
          rw [n36, ← lay_sitP (by omega) (by omega), enc_c (by omega)]
        obtain ⟨⟨c2, c3, c4⟩, ⟨g1, g2⟩, hH, c5⟩ := hb'
        refine hok _ rfl s15 (f1.tr (f15.mo (by decide) (by decide))) (by rw [(f15.1 1 3 (by decide)).1]; exact s3) (by rw [(f15.1 1 2 (by decide)).1]; exact s2) ⟨⟨?_, ?_, ?_⟩, ⟨?_, ?_⟩, ?_, ?_⟩
        · rw [(f15.1 4 2 (by decide)).1]; exact c2
        · rw [(f15.1 4 3 (by decide)).1]; exact c3
        · rw [e15]; rfl
        · rw [(f15.2 5 (by decide)).1]; exact g1
        · rw [(f15.2 5 (by decide)).1]; exact g2
        · unfold HoD
          rw [(f15.2 6 (by decide)).1]; exact hH
        · rw [e15, fi_sfi, if_neg (by decide), e14, fi_sfi, if_pos ⟨rfl, rfl⟩, el]
      · rw [if_neg ok] at hbad ⊢
        refine ⟨fun c => absurd rfl c, fun _ => ?_⟩
        exact k_TA_blame (c := 5) (fun z => absurd s3 z) (fun _ => ⟨Or.inl rfl, hbad _ rfl _ (f1.tr (fr_sfi (by decide))) rfl⟩)
theorem k_BR_readClause {Q : Int32 → St → Prop} {b : BxT} {n : Nat} (hx : TxC σ L T) (hpL : p ≤ L) (h2 : fi σ 1 2 = nI p) (h3 : fi σ 1 3 = 0) (hb : BxC σ b) (ho : BxOk b) (hbad : ∀ e, bclF L T b p n = .inl e → ∀ τ, fr [(1, 2), (1, 3), (4, 2), (4, 3), (4, 4), (4, 5)] [5, 6] σ τ → fi τ 1 3 = nI e → Q 0 τ) (hok : ∀ r, bclF L T b p n = .inr r → ∀ τ, fr [(1, 2), (1, 3), (4, 2), (4, 3), (4, 4), (4, 5)] [5, 6] σ τ → fi τ 1 3 = 0 → fi τ 1 2 = nI r.2 → BxC τ r.1 → Q 1 τ) : K_BR_readClause g (if n = 12 then 1 else 0) σ Q := by
  have hL := hx.2.1
  have sl : skF L T p ≤ L := skF_le hpL
  obtain ⟨o1, -⟩ := id ho
  unfold bclF at hbad hok
  refine ko_BR_readClause (sg_BR_readClause_0 (k_TA_skipBlanks hx h2 (by omega) ?_))
  obtain ⟨σ', hσ'⟩ : ∃ s, s = sfi σ 1 2 (nI (skF L T p)) := ⟨_, rfl⟩
  rw [← hσ']
  have f1 : fr [(1, 2), (1, 3), (4, 2), (4, 3), (4, 4), (4, 5)] [5, 6] σ σ' := by rw [hσ']; exact fr_sfi (by decide)
  have f1' : fr [(1, 2)] [] σ σ' := by rw [hσ']; exact fr_sfi (by decide)
  have hb' : BxC σ' b := hb.frm f1' (by decide) (by decide) (by decide) (by decide) (by decide) (by decide)
  have s3 : fi σ' 1 3 = 0 := by rw [hσ']; exact h3
  have s2 : fi σ' 1 2 = nI (skF L T p) := by rw [hσ']; rfl
  have hx' : TxC σ' L T := by rw [hσ']; exact hx.at (by decide)
  have bl : ∀ c, (∀ τ, fr [(1, 2), (1, 3), (4, 2), (4, 3), (4, 4), (4, 5)] [5, 6] σ τ → fi τ 1 3 = nI (flt (skF L T p) c) → Q 0 τ) → K_TA_blame g (nI (skF L T p)) (nI c) σ' (fun r s => (r = 0 ∨ r = 1) ∧ Q r s) := fun c hq =>
    k_TA_blame (c := c) (fun z => absurd s3 z) (fun _ => ⟨Or.inl rfl, hq _ (f1.tr (fr_sfi (by decide))) rfl⟩)
  refine k_TA_endOfWord hx' s2 (by omega) ?_
  refine k_TA_isWord (by decide) hx' s2 sl (fun w => ⟨fun c => absurd c (by decide), fun _ => ?_⟩) (fun w => ⟨fun _ => ?_, fun c => absurd rfl c⟩)
  · rw [if_pos (wdB_iff.mpr w)] at hbad hok
    have ew : wdE L T (skF L T p) = skF L T p + 3 := w.1
    have wl := wdIs_le sl w
    rw [sl0] at wl
    rw [s2, hb'.1.2.1, hb'.1.2.2, ew]
    by_cases n12 : n = 12
    · rw [if_pos n12]
      rw [if_pos (Or.inl n12)] at hbad
      exact ⟨fun _ => bl 4 (hbad _ rfl), fun c => absurd c (by decide)⟩
    · rw [if_neg n12]
      refine ⟨fun c => absurd rfl c, fun _ => ?_⟩
      refine pk_eq b.2.1 6 (fun q => ?_) (fun q => ?_)
      · rw [if_pos (Or.inr (Or.inl q))] at hbad
        exact bl 4 (hbad _ rfl)
      · refine pk_le b.2.2.1 0 (fun q2 => ?_) (fun q2 => ?_)
        · rw [if_neg (fun z => by omega)] at hbad hok
          rintro s23 rfl
          refine k_BR_readRow (hx'.at (by decide)) wl rfl s3 (hb'.frm (F := [(1, 2)]) (M := []) (fr_sfi (by decide)) (by decide) (by decide) (by decide) (by decide) (by decide) (by decide)) ho (by omega) (by omega) (fun e he τ hf h13 => ⟨Or.inl rfl, hbad e he τ (f1.tr ((fr_sfi (by decide)).tr hf)) h13⟩) (fun r he τ hf t3 t2 hc => ⟨Or.inr rfl, hok r he τ (f1.tr ((fr_sfi (by decide)).tr hf)) t3 t2 hc⟩)
        · rw [if_pos (Or.inr (Or.inr q2))] at hbad
          exact bl 4 (hbad _ rfl)
  · rw [if_neg (fun z => w (wdB_iff.mp z))] at hbad hok
    refine k_TA_isWord (by decide) hx' s2 sl (fun w => ⟨fun c => absurd c (by decide), fun _ => ?_⟩) (fun w => ⟨fun _ => ?_, fun c => absurd rfl c⟩)
    · rw [if_pos (wdB_iff.mpr w)] at hbad hok
      have ew : wdE L T (skF L T p) = skF L T p + 4 := w.1
      have wl := wdIs_le sl w
      rw [sl1] at wl
      rw [s2, hb'.1.2.1, hb'.1.2.2, ew]
      by_cases n12 : n = 12
      · rw [if_pos n12]
        rw [if_pos (Or.inl n12)] at hbad
        exact ⟨fun _ => bl 4 (hbad _ rfl), fun c => absurd c (by decide)⟩
      · rw [if_neg n12]
        refine ⟨fun c => absurd rfl c, fun _ => ?_⟩
        refine pk_eq b.2.1 0 (fun q => ?_) (fun q => ?_)
        · rw [if_pos (Or.inr (Or.inl q))] at hbad
          exact bl 4 (hbad _ rfl)
        · refine pk_eq b.2.2.1 3 (fun q2 => ?_) (fun q2 => ?_) |>.symm
          · rw [if_pos (Or.inr (Or.inr q2))] at hbad
            exact bl 4 (hbad _ rfl)
          · rw [if_neg (fun z => by omega)] at hbad hok
            rintro s23 rfl
            refine k_BR_readBall (hx'.at (by decide)) wl rfl s3 (hb'.frm (F := [(1, 2)]) (M := []) (fr_sfi (by decide)) (by decide) (by decide) (by decide) (by decide) (by decide) (by decide)) ho (by omega) (fun e he τ hf h13 => ⟨Or.inl rfl, hbad e he τ (f1.tr ((fr_sfi (by decide)).tr hf)) h13⟩) (fun r he τ hf t3 t2 hc => ⟨Or.inr rfl, hok r he τ (f1.tr ((fr_sfi (by decide)).tr hf)) t3 t2 hc⟩)
    · rw [if_neg (fun z => w (wdB_iff.mp z))] at hbad
      rw [s2]
      exact bl 0 (hbad _ rfl)
theorem k_BR_read {Q : Int32 → St → Prop} (hx : TxC σ L T) (hbad : ∀ e, bxL L T 13 bx0 0 0 = .inl e → ∀ τ, fr [(1, 2), (1, 3), (4, 2), (4, 3), (4, 4), (4, 5)] [5, 6] σ τ → Q (nI e) τ) (hok : ∀ b, bxL L T 13 bx0 0 0 = .inr b → ∀ τ, fr [(1, 2), (1, 3), (4, 2), (4, 3), (4, 4), (4, 5)] [5, 6] σ τ → BxC τ b → Q 0 τ) : K_BR_read g σ Q := by
  have hL := hx.2.1
  have loop : ∀ (f p n : Nat) (b : BxT) (τ : St), n + f = 13 → 0 < f → p ≤ L → TxC τ L T → fi τ 1 2 = nI p → fi τ 1 3 = 0 → BxC τ b → BxOk b → fr [(1, 2), (1, 3), (4, 2), (4, 3), (4, 4), (4, 5)] [5, 6] σ τ → (∀ e, bxL L T f b p n = .inl e → ∀ τ, fr [(1, 2), (1, 3), (4, 2), (4, 3), (4, 4), (4, 5)] [5, 6] σ τ → Q (nI e) τ) → (∀ b', bxL L T f b p n = .inr b' → ∀ τ, fr [(1, 2), (1, 3), (4, 2), (4, 3), (4, 4), (4, 5)] [5, 6] σ τ → BxC τ b' → Q 0 τ) → S_BR_read_13 g Q τ (nI n) := by
    intro f
    induction f with
    | zero => intro p n b τ _ h0; exact absurd h0 (by decide)
    | succ f ih =>
      intro p n b τ hn _ hpL hx h2 h3 hb ho F hbad hok
      unfold bxL at hbad hok
      have body : S_BR_read_32 g Q τ (nI n) (if n = 12 then 1 else 0) := by
        refine sg_BR_read_32 (k_BR_readClause (n := n) hx hpL h2 h3 hb ho (fun e he τ2 hf h13 => ⟨fun c => absurd rfl c, fun _ => ?_⟩) (fun r he τ2 hf t3 t2 hc => ⟨fun _ => ?_, fun c => absurd c (by decide)⟩))
        · rw [he] at hbad
          rw [h13]
          exact hbad e rfl τ2 (F.tr hf)
        · rw [he] at hbad hok
          dsimp only at hbad hok
          obtain ⟨a1, a2, a3, a4, a5⟩ := bclF_ok ho hpL he
          have sl : skF L T r.2 ≤ L := skF_le a2
          have hx2 : TxC τ2 L T := hx.frm hf (by decide) (by decide)
          refine k_TA_skipBlanks hx2 t2 (by omega) ?_
          have f3 : fr [(1, 2), (1, 3), (4, 2), (4, 3), (4, 4), (4, 5)] [5, 6] σ (sfi τ2 1 2 (nI (skF L T r.2))) := F.tr (hf.tr (fr_sfi (by decide)))
          refine k_TA_isAtEnd (hx2.at (by decide)) rfl (by omega) (fun q => ⟨fun _ => ?_, fun c => absurd rfl c⟩) (fun q => ⟨fun c => absurd c (by decide), fun _ => ?_⟩)
          · rw [if_neg (by omega)] at hbad hok
            rw [show fi (sfi τ2 1 2 (nI (skF L T r.2))) 1 2 = nI (skF L T r.2) from rfl]
            refine k_TA_signAt (hx2.at (by decide)) (by omega) ?_
            have sgn := sgI_eq (p := skF L T r.2) hx2.b (by decide : 59 < 256)
            refine ⟨fun z => ?_, fun z => ?_⟩
            · have z := sgn.mp z
              rw [if_pos z.2] at hbad hok
              rintro s8 rfl u9 rfl
              rw [show fi (sfi τ2 1 2 (nI (skF L T r.2))) 1 2 = nI (skF L T r.2) from rfl, nI_1, nI_1, sfi_sfi]
              refine ih (skF L T r.2 + 1) (n + 1) r.1 _ (by omega) (by omega) (by omega) (hx2.at (by decide)) rfl t3 (hc.frm (F := [(1, 2)]) (M := []) (fr_sfi (by decide)) (by decide) (by decide) (by decide) (by decide) (by decide) (by decide)) a1 (F.tr (hf.tr (fr_sfi (by decide)))) hbad hok
            · rw [if_neg (fun w => z (sgn.mpr ⟨q, w⟩))] at hbad
              refine k_TA_blame (c := 0) (fun w => absurd t3 w) (fun _ => ?_)
              exact hbad _ rfl _ (f3.tr (fr_sfi (by decide)))
          · rw [if_pos q] at hok
            exact hok _ rfl _ f3 (hc.frm (F := [(1, 2)]) (M := []) (fr_sfi (by decide)) (by decide) (by decide) (by decide) (by decide) (by decide) (by decide))
      refine sg_BR_read_13 ⟨fun c => absurd c (nI_nlt (a := 12) (by omega) (by decide)), fun _ => ?_⟩
      refine pk_eq n 12 (fun q => ?_) (fun q => ?_) |>.symm
      · rw [if_pos q] at body; exact body
      · rw [if_neg q] at body; exact body
  refine ko_BR_read (sg_BR_read_0 (ko_SA_clearBox (sg_SA_clearBox_0 sa_4 ?_)))
  refine k_JA_fill sh5 (by decide) (fun s1 f1 z1 => k_JA_fill sh6 (by decide) (fun s2 f2 z2 => ?_))
  rintro s3 e3 s4 e4 s5 e5 s6 e6
  refine ko_TA_start (sg_TA_start_0 ?_)
  rintro s7 e7 s8 e8
  have G : fr [(1, 2), (1, 3), (4, 2), (4, 3), (4, 4), (4, 5)] [] s2 s8 := by
    rw [e8, e7, e6, e5, e4, e3]
    exact (((((fr_sfi (by decide)).tr (fr_sfi (by decide))).tr (fr_sfi (by decide))).tr (fr_sfi (by decide))).tr (fr_sfi (by decide))).tr (fr_sfi (by decide))
  have F : fr [(1, 2), (1, 3), (4, 2), (4, 3), (4, 4), (4, 5)] [5, 6] σ s8 := (f1.mo (by simp) (by decide)).tr ((f2.mo (by simp) (by decide)).tr (G.mo (by decide) (by simp)))
  refine loop 13 0 0 bx0 s8 rfl (by decide) (Nat.zero_le _) (hx.frm F (by decide) (by decide)) (by rw [e8, e7]; rfl) (by rw [e8]; rfl) ?_ bx0_ok F hbad hok
  have r5 : ∀ q, q < 64 → ai s8 5 q = -1 := by
    intro q hq
    rw [(G.2 5 (by decide)).1, (f2.2 5 (by decide)).1]; exact z1 q hq
  have r6 : ∀ q, q < 3 → ai s8 6 q = 0 := by
    intro q hq
    rw [(G.2 6 (by decide)).1]; exact z2 q hq
  refine ⟨⟨by rw [e8, e7, e6, e5, e4, e3]; rfl, by rw [e8, e7, e6, e5, e4]; rfl, by rw [e8, e7, e6, e5]; rfl⟩, ⟨fun c hc => ?_, fun q hq _ => r5 q hq⟩, fun k hk => ⟨fun _ => r6 k hk, fun z => absurd z (by show ¬ false = true; decide), fun c hc hd => ?_⟩, by rw [e8, e7, e6]; rfl⟩
  · rw [r5 _ (spc_lt hc), if_neg]
    intro z
    have : c / 6 < 0 ∧ c % 6 < 0 ∨ c / 6 = 0 ∧ c % 6 < 0 := z
    omega
  · have : c / 6 < 0 ∧ c % 6 < 0 ∨ c / 6 = 0 ∧ c % 6 < 0 := hd
    omega
end
