-- game: the reference plays
section
variable {g : Gx} {c : Cfg} {n : Nat}
/-- what the levels from L on come to -/
def gmE (g : Gx) (Q : Int32 → St → Prop) (c : Cfg) (n k L : Nat) : Prop := ∀ (P : Nat → Nat) (σ : St), RefT σ c P → okP c.1 c.2.1 c.2.2.1 c.2.2.2.1 P → lvl σ c.2.2.1 L P 0 (decide (allH P) || (decide (L < n) && !evL L)) → (∀ (τ : St) (P' : Nat → Nat), fr [(151, 32), (151, 35), (151, 36), (151, 65)] [154, 170, 171, 172, 173, 189, 190, 191] σ τ → blw L σ τ → fi τ 151 65 = fi σ 151 65 → RefT τ c P' → ai τ 191 L = bI (winF c k P (evL L)) → S_BM_plays_53 g Q τ (nI n) (nI L)) → S_BM_plays_41 g Q σ (nI n) (nI L) (bI (decide (allH P) || decide (L = n)))
theorem gm_step {Q : Int32 → St → Prop} {P P0 : Nat → Nat} {σ : St} {L k w : Nat} (hn : n ≤ 8) (hLk : L + (k + 1) = n) (hC : c.1 ≤ 6) (hR : c.2.1 ≤ 6) (hE : gmE g Q c n k (L + 1)) (hr : RefT σ c P0) (hp : okP c.1 c.2.1 c.2.2.1 c.2.2.2.1 P) (hw : w < 4) (hl : lvl σ c.2.2.1 L P w (prt (fun w => winF c k (tipC c w P).1 (!evL L)) (evL L) w)) (hno : ¬ (prt (fun w => winF c k (tipC c w P).1 (!evL L)) (evL L) w = evL L ∧ 0 < w))
    (h : ∀ (τ : St) (P' : Nat → Nat), fr [(151, 32), (151, 35), (151, 36), (151, 65)] [154, 170, 171, 172, 173, 189, 190, 191] σ τ → blw L σ τ → RefT τ c P' → lvl τ c.2.2.1 L P (w + 1) (prt (fun w => winF c k (tipC c w P).1 (!evL L)) (evL L) (w + 1)) → fi τ 151 65 = (if L = 0 ∧ winF c k (tipC c w P).1 (!evL L) = true ∧ fi σ 151 65 = -1 then nI w else fi σ 151 65) → S_BM_plays_25 g Q τ (nI n) (nI L) 0) : S_BM_plays_41 g Q σ (nI n) (nI L) 0 := by
  have hB := hr.1.1.2.2.2.2.2
  have hev : evL (L + 1) = !evL L := by
    unfold evL
    by_cases q : L % 2 = 0
    · rw [decide_eq_true q, decide_eq_false (by omega)]; rfl
    · rw [decide_eq_false q, decide_eq_true (by omega)]; rfl
  refine sg_BM_plays_41 ⟨fun q => absurd rfl q, fun _ => k_BM_isOver (by omega) (by omega) hl ?_⟩
  rw [if_neg (fun q => q.elim (fun q => by omega) hno)]
  refine ⟨fun _ => ?_, fun q => absurd rfl q⟩
  refine k_BM_laysLevel hr (by omega) hp.1 hl.1 (fun τ1 f1 r1 => ⟨vp_in_nI (by omega) (by decide), ?_⟩)
  have l1 : lvl τ1 c.2.2.1 L P w (prt (fun w => winF c k (tipC c w P).1 (!evL L)) (evL L) w) := hl.fr f1 (by decide) (by decide) (by decide)
  rw [nI_clamp (by omega), l1.2.1]
  refine k_tips hw r1 (fun τ2 f2 r2 _ _ => ?_)
  rintro u rfl
  rw [nI_1]
  have l2 := l1.fr f2 (by decide) (by decide) (by decide)
  refine k_BM_isTold r2 (by omega) hn (fun τ3 f3 r3 b3 l3 => ?_)
  have F3 : fr [(151, 32), (151, 35), (151, 36), (151, 65)] [154, 170, 171, 172, 173, 189, 190, 191] σ τ3 := (f1.mo (by simp) (by decide)).tr ((f2.mo (by decide) (by decide)).tr (f3.mo (by simp) (by decide)))
  have e65 : fi τ3 151 65 = fi σ 151 65 := by rw [(f3.1 151 65 (by simp)).1, (f2.1 151 65 (by decide)).1, (f1.1 151 65 (by simp)).1]
  have B3 : blw (L + 1) σ τ3 := ((blw.fr f1 (by decide) (by decide) (by decide)).tr (blw.fr f2 (by decide) (by decide) (by decide))).tr b3
  have hp2 := tipC_ok hC hR hw hp
  refine sg_BM_plays_25 ⟨fun _ => ?_, fun q => absurd (nI_lt (a := 0) (by omega) (by omega)) q⟩
  refine hE (tipC c w P).1 τ3 r3 hp2 l3 (fun τ4 P4 f4 b4 e4 r4 v4 => ?_)
  have F4 := F3.tr f4
  have B4 : blw (L + 1) σ τ4 := B3.tr b4
  have l4 : lvl τ4 c.2.2.1 L P w (prt (fun w => winF c k (tipC c w P).1 (!evL L)) (evL L) w) := hl.blw hB B4
  rw [hev] at v4
  refine sg_BM_plays_53 ⟨vp_in_nI (by omega) (by decide), ?_⟩
  rintro u1 e1 u2 e2
  rw [nI_clamp (by omega), v4] at e1
  rw [pk_m1] at e2
  subst e2
  rw [rem2 (by omega), nI_clamp (by omega), l4.2.2]
  have evI : nI (L % 2) = 0 ↔ evL L = true := by
    unfold evL
    rw [decide_eq_true_iff]
    exact nI_eq (b := 0) (by omega) (by decide)
  rw [evI]
  -- behind the pop
  have pop : ∀ z : Int32, z = bI (prt (fun w => winF c k (tipC c w P).1 (!evL L)) (evL L) (w + 1)) → S_BM_plays_116 g Q τ4 (nI n) (nI L) u1 z (nI L) := by
    intro z hz
    refine sg_BM_plays_116 ⟨vp_in_nI (by omega) (by decide), ?_⟩
    rintro s1 es1
    rw [nI_clamp (by omega), hz, narb] at es1
    have s190 : ai s1 190 L = nI w := by rw [es1, ai_sai, if_neg (by omega)]; exact l4.2.1
    have fs1 : fr [] [191] τ4 s1 := by rw [es1]; exact fr_sai (by decide)
    have c65 : fi s1 151 65 = fi σ 151 65 := by rw [(fs1.1 151 65 (by simp)).1, e4, e65]
    have fin : ∀ (s2 s3 : St), fr [(151, 65)] [] s1 s2 → fi s2 151 65 = (if L = 0 ∧ winF c k (tipC c w P).1 (!evL L) = true ∧ fi σ 151 65 = -1 then nI w else fi σ 151 65) → s3 = sai s2 190 (nI L).toNatClampNeg (ai s2 190 (nI L).toNatClampNeg + 1) → S_BM_plays_25 g Q s3 (nI n) (nI L) 0 := by
      intro s2 s3 fs2 e65' es3
      rw [nI_clamp (by omega), (fs2.2 190 (by simp)).1, s190, nI_1] at es3
      have fs3 : fr [] [190] s2 s3 := by rw [es3]; exact fr_sai (by decide)
      refine h s3 P4 (F4.tr ((fs1.mo (by simp) (by decide)).tr ((fs2.mo (by decide) (by simp)).tr (fs3.mo (by simp) (by decide))))) ⟨fun j hj => ?_, fun j hj => ⟨?_, ?_⟩⟩ (((r4.fr fs1 (by decide) (by decide) (by decide) (by decide) (by decide) (by decide) (by decide) (by decide) (by decide)).fr fs2 (by simp) (by simp) (by simp) (by simp) (by simp) (by simp) (by simp) (by simp) (by simp)).fr fs3 (by decide) (by decide) (by decide) (by decide) (by decide) (by decide) (by decide) (by decide) (by decide)) ⟨fun b hb => ?_, ?_, ?_⟩ ?_
      · rw [(fs3.2 189 (by decide)).1, (fs2.2 189 (by simp)).1, (fs1.2 189 (by decide)).1]; exact B4.1 j (by omega)
      · rw [es3, ai_sai, if_neg (by omega), (fs2.2 190 (by simp)).1, (fs1.2 190 (by decide)).1]; exact (B4.2 j (by omega)).1
      · rw [(fs3.2 191 (by decide)).1, (fs2.2 191 (by simp)).1, es1, ai_sai, if_neg (by omega)]; exact (B4.2 j (by omega)).2
      · rw [(fs3.2 189 (by decide)).1, (fs2.2 189 (by simp)).1, (fs1.2 189 (by decide)).1]; exact l4.1 b hb
      · rw [es3, ai_sai, if_pos ⟨rfl, rfl⟩]
      · rw [(fs3.2 191 (by decide)).1, (fs2.2 191 (by simp)).1, es1, ai_sai, if_pos ⟨rfl, rfl⟩]
      · rw [(fs3.1 151 65 (by simp)).1]; exact e65'
    have f144 : (¬ (L = 0 ∧ winF c k (tipC c w P).1 (!evL L) = true ∧ fi σ 151 65 = -1)) → S_BM_plays_144 g Q s1 (nI n) (nI L) := by
      intro hx
      refine sg_BM_plays_144 ?_
      rintro s2 es2
      rw [sfi_self] at es2
      refine ⟨vp_in_nI (by omega) (by decide), vp_in_nI (by omega) (by decide), ?_⟩
      rintro s3 es3
      exact fin s2 s3 (by rw [es2]; exact fr.rf) (by rw [if_neg hx, es2]; exact c65) es3
    have L0 : nI L = 0 ↔ L = 0 := nI_eq (b := 0) (by omega) (by decide)
    rw [L0, c65]
    refine ⟨fun q => f144 (fun z => q z.1), fun q => ?_⟩
    rw [e1, bI_0]
    refine ⟨fun q2 => f144 (fun z => by rw [q2] at z; exact absurd z.2.1 (by decide)), fun q2 => ⟨fun q3 => f144 (fun z => q3 z.2.2), fun q3 => ⟨pk_in 0 9 (by decide), ?_⟩⟩⟩
    rintro s2 es2
    refine ⟨vp_in_nI (by omega) (by decide), vp_in_nI (by omega) (by decide), ?_⟩
    rintro s3 es3
    have s190' : ai s1 190 0 = nI w := by rw [← s190, q]
    rw [cl0, s190'] at es2
    refine fin s2 s3 (by rw [es2]; exact fr_sfi (by decide)) ?_ es3
    rw [if_pos ⟨q, by simpa using q2, q3⟩, es2]
    rfl
  obtain ⟨pw, hpw⟩ : ∃ pw, pw = prt (fun w => winF c k (tipC c w P).1 (!evL L)) (evL L) w := ⟨_, rfl⟩
  obtain ⟨fw, hfw⟩ : ∃ fw, fw = winF c k (tipC c w P).1 (!evL L) := ⟨_, rfl⟩
  have ep : prt (fun w => winF c k (tipC c w P).1 (!evL L)) (evL L) (w + 1) = if evL L then (pw || fw) else (pw && fw) := by rw [hpw, hfw]; rfl
  rw [ep] at pop
  rw [← hfw] at e1
  rw [← hpw, e1, bI_0, bI_0]
  rw [e1] at pop
  refine ⟨fun q => ⟨vp_in_nI (by omega) (by decide), fun q2 => pop _ ?_, fun q2 => ⟨fun q3 => pop _ ?_, fun q3 => pop _ ?_⟩⟩, fun q => ⟨vp_in_nI (by omega) (by decide), fun q2 => pop _ ?_, fun q2 => ⟨fun q3 => pop _ ?_, fun q3 => pop _ ?_⟩⟩⟩
  · have : evL L = false := by simpa using q
    rw [this, q2]; rfl
  · have : evL L = false := by simpa using q
    rw [this, q3]; cases pw <;> rfl
  · have : evL L = false := by simpa using q
    have a : pw = true := by simpa using q2
    have b : fw = true := by simpa using q3
    rw [this, a, b]; rfl
  · have a : pw = true := by simpa using q2
    rw [q, a]; rfl
  · rw [q, q2, q3]; rfl
  · have b : fw = true := by simpa using q3
    rw [q, q2, b]; rfl
theorem gm_eval {Q : Int32 → St → Prop} (hn : n ≤ 8) (hC : c.1 ≤ 6) (hR : c.2.1 ≤ 6) : ∀ (k L : Nat), L + k = n → 1 ≤ L → gmE g Q c n k L := by
  intro k
  induction k with
  | zero =>
    intro L hL h1 P σ hr hp hl h
    have e : decide (L = n) = true := decide_eq_true (by omega)
    refine sg_BM_plays_41 ⟨fun _ => h σ P fr.rf blw.rf rfl hr ?_, fun q => ?_⟩
    · rw [hl.2.2, decide_eq_false (show ¬ L < n by omega)]
      simp [winF]
    · rw [e, Bool.or_true] at q; exact absurd q (by decide)
  | succ k ih =>
    intro L hL h1 P σ hr hp hl h
    have hB := hr.1.1.2.2.2.2.2
    by_cases hh : allH P
    · have edh : decide (allH P) = true := decide_eq_true hh
      rw [edh] at hl ⊢
      refine sg_BM_plays_41 ⟨fun _ => h σ P fr.rf blw.rf rfl hr ?_, fun q => by rw [Bool.true_or] at q; exact absurd q (by decide)⟩
      rw [hl.2.2, winF_home hh]; rfl
    · have edh : decide (allH P) = false := decide_eq_false hh
      rw [edh, decide_eq_true (show L < n by omega)] at hl
      rw [edh, decide_eq_false (show ¬ L = n by omega)]
      show S_BM_plays_41 g Q σ (nI n) (nI L) 0
      have hE := ih (L + 1) (by omega) (by omega)
      have loop : ∀ (m w : Nat) (τ : St) (P0 : Nat → Nat), w + m = 4 → fr [(151, 32), (151, 35), (151, 36), (151, 65)] [154, 170, 171, 172, 173, 189, 190, 191] σ τ → blw L σ τ → fi τ 151 65 = fi σ 151 65 → RefT τ c P0 → lvl τ c.2.2.1 L P w (prt (fun w => winF c k (tipC c w P).1 (!evL L)) (evL L) w) → S_BM_plays_41 g Q τ (nI n) (nI L) 0 := by
        intro m
        induction m with
        | zero =>
          intro w τ P0 hw hf hb e65 hr0 hl0
          have e : w = 4 := by omega
          subst e
          refine sg_BM_plays_41 ⟨fun q => absurd rfl q, fun _ => k_BM_isOver (by omega) (by omega) hl0 ?_⟩
          rw [if_pos (Or.inl rfl)]
          refine ⟨fun q => absurd q (by decide), fun _ => h τ P0 hf hb e65 hr0 ?_⟩
          rw [hl0.2.2, prt_4 hh]
        | succ m ihm =>
          intro w τ P0 hw hf hb e65 hr0 hl0
          by_cases ov : prt (fun w => winF c k (tipC c w P).1 (!evL L)) (evL L) w = evL L ∧ 0 < w
          · refine sg_BM_plays_41 ⟨fun q => absurd rfl q, fun _ => k_BM_isOver (by omega) (by omega) hl0 ?_⟩
            rw [if_pos (Or.inr ov)]
            refine ⟨fun q => absurd q (by decide), fun _ => h τ P0 hf hb e65 hr0 ?_⟩
            have e4 := prt_cut ov.1 (4 - w)
            rw [show w + (4 - w) = 4 by omega, prt_4 hh] at e4
            rw [hl0.2.2, ov.1, e4]
          · refine gm_step hn (by omega) hC hR hE hr0 hp (by omega) hl0 ov (fun τ2 P2 f2 b2 r2 l2 e2 => ?_)
            refine sg_BM_plays_25 ⟨fun _ => ?_, fun q => absurd (nI_lt (a := 0) (by omega) (by omega)) q⟩
            refine ihm (w + 1) τ2 P2 (by omega) (hf.tr f2) (hb.tr b2) ?_ r2 l2
            rw [e2, if_neg (fun q => by omega), e65]
      refine loop 4 0 σ P (by omega) fr.rf blw.rf rfl hr ?_
      have e : (false || (true && !evL L)) = prt (fun w => winF c k (tipC c w P).1 (!evL L)) (evL L) 0 := by simp [prt]
      rw [e] at hl
      exact hl
end
