-- chipped, walled: the reference
def oC (b : Option Nat) : Int32 := match b with
  | none => -2
  | some x => nI x
def BeM (σ : St) (b : Option Nat × Int32) : Prop := fi σ 151 54 = oC b.1 ∧ fi σ 151 55 = b.2
section
variable {g : Gx} {σ : St} {c : Cfg} {P : Nat → Nat}
theorem refT_set {x v : Nat} (h : RefT σ c P) (hx : x < 36) (hv : v ≤ 4) : RefT (sai σ 153 x (nI v)) (cK c x v) P := by
  obtain ⟨⟨hd, hk, hp, hw⟩, hT, hF⟩ := h
  have ff : fr [] [153] σ (sai σ 153 x (nI v)) := fr_sai (by decide)
  refine ⟨⟨?_, fun y hy => ?_, ?_, hw⟩, ?_, ?_⟩
  · unfold Dim at hd ⊢
    rw [(ff.2 152 (by decide)).1]; exact hd
  · rw [ai_sai]
    show _ = nI (upP c.2.2.2.1 x v y) ∧ upP c.2.2.2.1 x v y ≤ 4
    by_cases e : y = x
    · rw [if_pos ⟨rfl, e⟩, e, upP_same]; exact ⟨rfl, hv⟩
    · rw [if_neg (fun q => e q.2), upP_ne e]; exact hk y hy
  · rw [(ff.2 154 (by decide)).1]; exact hp
  · rw [(ff.2 152 (by decide)).1]; exact hT
  · exact hF.fr ff (by decide) (by decide) (by decide) (by decide) (by decide) (by decide) (by decide)
theorem cK_back {x v : Nat} : cK (cK c x v) x (c.2.2.2.1 x) = c := by
  unfold cK
  dsimp only
  rw [upP_back]
theorem k_BM_findsChipped {Q : St → Prop} {mk : Nat} (hr : RefT σ c P) (hp : okP c.1 c.2.1 c.2.2.1 c.2.2.2.1 P) (hm : MrkM σ mk) (hmk : mk + 36 < 2 ^ 31) (h : ∀ τ mk', mk' ≤ mk + 36 → fr [(151, 32), (151, 35), (151, 36), (151, 44), (151, 45), (151, 46), (151, 54), (151, 55)] [153, 154, 170, 171, 172, 173, 175, 176, 177, 178, 179] σ τ → RefT τ c P → MrkM τ mk' → BeM τ (crvN 0 c P 36) → Q τ) : K_BM_findsChipped g σ Q := by
  have hC := hr.1.1.2.2.2.1
  have hR := hr.1.1.2.2.2.2.1
  have hB := hr.1.1.2.2.2.2.2
  have le_iff : ∀ a b : Int32, a ≤ b ↔ ¬ b < a := fun a b => by rw [Int32.le_iff_toInt_le, Int32.lt_iff_toInt_lt]; omega
  have go : ∀ (m x : Nat) (τ : St) (mk' : Nat), x + m = 36 → mk' ≤ mk + x → fr [(151, 32), (151, 35), (151, 36), (151, 44), (151, 45), (151, 46), (151, 54), (151, 55)] [153, 154, 170, 171, 172, 173, 175, 176, 177, 178, 179] σ τ → RefT τ c P → MrkM τ mk' → BeM τ (crvN 0 c P x) → S_BM_findsChipped_14 g Q τ (nI x) := by
    intro m
    induction m with
    | zero =>
      intro x τ mk' hx hk hf r1 m1 b1
      have e : x = 36 := by omega
      subst e
      exact sg_BM_findsChipped_14 ⟨fun _ => h τ mk' hk hf r1 m1 b1, fun q => absurd (by decide) q⟩
    | succ m ih =>
      intro x τ mk' hx hk hf r1 m1 b1
      have hx36 : x < 36 := by omega
      obtain ⟨k1, k2⟩ := r1.1.2.1 x hx36
      have es : crvN 0 c P (x + 1) = crvS 0 c P (crvN 0 c P x) x := rfl
      have cinv := crvN_inv (made := 0) (c := c) (P := P) x
      have skip : crvN 0 c P (x + 1) = crvN 0 c P x → ∀ u : Int32, u = nI x + 1 → S_BM_findsChipped_14 g Q τ u := by
        rintro e u rfl
        rw [nI_1]
        exact ih (x + 1) τ mk' (by omega) (by omega) hf r1 m1 (by rw [e]; exact b1)
      refine sg_BM_findsChipped_14 ⟨fun q => absurd q (nI_ge (b := 36) hx36 (by decide)), fun _ => ?_⟩
      -- one that is tried
      have try1 : candC 0 c P x → ∀ s5 : St, s5 = sai τ 153 x (0 : Int32) → K_BM_finds g s5 (fun (r7 : Int32) (s6 : St) => vp_in (nI x) 36 ∧ (∀ s8 : St, s8 = sai s6 153 (nI x).toNatClampNeg (1 : Int32) → (r7 < 0 → ∀ u9 : Int32, u9 = nI x + (1 : Int32) → S_BM_findsChipped_14 g Q s8 u9) ∧ (¬ r7 < 0 → ((fi s8 151 54) = (-2 : Int32) → ∀ s10 : St, s10 = sfi s8 151 54 (nI x) → ∀ s11 : St, s11 = sfi s10 151 55 r7 → ∀ u12 : Int32, u12 = nI x + (1 : Int32) → S_BM_findsChipped_14 g Q s11 u12) ∧ (¬ (fi s8 151 54) = (-2 : Int32) → ((fi s8 151 55) ≤ r7 → ∀ u13 : Int32, u13 = nI x + (1 : Int32) → S_BM_findsChipped_14 g Q s8 u13) ∧ (¬ (fi s8 151 55) ≤ r7 → ∀ s14 : St, s14 = sfi s8 151 54 (nI x) → ∀ s15 : St, s15 = sfi s14 151 55 r7 → ∀ u16 : Int32, u16 = nI x + (1 : Int32) → S_BM_findsChipped_14 g Q s15 u16))))) := by
        rintro hc s5 e5
        have f5 : fr [] [153] τ s5 := by rw [e5]; exact fr_sai (by decide)
        have r5 : RefT s5 (cK c x 0) P := by rw [e5]; exact refT_set r1 hx36 (by decide)
        refine k_BM_finds r5 (cK_ok hB hp hx36 hc.2.2) (m1.fr f5 (by simp) (by decide)) (by omega) (fun τ6 f6 r6 m6 _ => ⟨vp_in_nI hx36 (by decide), ?_⟩)
        rintro s8 e8
        rw [nI_clamp (by omega)] at e8
        have f8 : fr [] [153] τ6 s8 := by rw [e8]; exact fr_sai (by decide)
        have r8 : RefT s8 c P := by
          have := refT_set (v := 1) r6 hx36 (by decide)
          have ek : (1 : Nat) = c.2.2.2.1 x := hc.2.1.symm
          rw [ek, cK_back] at this
          rw [e8, show (1 : Int32) = nI (c.2.2.2.1 x) from by rw [← ek]; rfl]
          exact this
        have m8 : MrkM s8 (mk' + 1) := m6.fr f8 (by simp) (by decide)
        have F8 : fr [(151, 32), (151, 35), (151, 36), (151, 44), (151, 45), (151, 46), (151, 54), (151, 55)] [153, 154, 170, 171, 172, 173, 175, 176, 177, 178, 179] σ s8 := hf.tr ((f5.mo (by simp) (by decide)).tr ((f6.mo (by decide) (by decide)).tr (f8.mo (by simp) (by decide))))
        have b54 : fi s8 151 54 = oC (crvN 0 c P x).1 := by rw [(f8.1 151 54 (by simp)).1, (f6.1 151 54 (by decide)).1, (f5.1 151 54 (by simp)).1]; exact b1.1
        have b55 : fi s8 151 55 = (crvN 0 c P x).2 := by rw [(f8.1 151 55 (by simp)).1, (f6.1 151 55 (by decide)).1, (f5.1 151 55 (by simp)).1]; exact b1.2
        have nx : (¬ (¬ finV (cK c x 0) P < 0 ∧ ((crvN 0 c P x).1 = none ∨ betC 0 (finV (cK c x 0) P) (crvN 0 c P x).2))) → ∀ u : Int32, u = nI x + 1 → S_BM_findsChipped_14 g Q s8 u := by
          rintro hw u rfl
          rw [nI_1]
          refine ih (x + 1) s8 (mk' + 1) (by omega) (by omega) F8 r8 m8 ?_
          rw [es]
          unfold crvS
          rw [if_pos hc, if_neg hw]
          exact ⟨b54, b55⟩
        have wr : (¬ finV (cK c x 0) P < 0 ∧ ((crvN 0 c P x).1 = none ∨ betC 0 (finV (cK c x 0) P) (crvN 0 c P x).2)) → ∀ s10 : St, s10 = sfi s8 151 54 (nI x) → ∀ s11 : St, s11 = sfi s10 151 55 (finV (cK c x 0) P) → ∀ u : Int32, u = nI x + 1 → S_BM_findsChipped_14 g Q s11 u := by
          rintro hw s10 e10 s11 e11 u rfl
          rw [nI_1]
          have f11 : fr [(151, 54), (151, 55)] [] s8 s11 := by rw [e11, e10]; exact (fr_sfi (by decide)).tr (fr_sfi (by decide))
          refine ih (x + 1) s11 (mk' + 1) (by omega) (by omega) (F8.tr (f11.mo (by decide) (by simp))) (r8.fr f11 (by simp) (by simp) (by simp) (by simp) (by simp) (by simp) (by simp) (by simp) (by simp)) (m8.fr f11 (by decide) (by simp)) ?_
          rw [es]
          unfold crvS
          rw [if_pos hc, if_pos hw]
          refine ⟨?_, ?_⟩
          · rw [e11, fi_sfi, if_neg (by decide), e10, fi_sfi, if_pos ⟨rfl, rfl⟩]; rfl
          · rw [e11, fi_sfi, if_pos ⟨rfl, rfl⟩]
        rw [b54, b55]
        have hno : oC (crvN 0 c P x).1 = -2 ↔ (crvN 0 c P x).1 = none := by
          cases hb : (crvN 0 c P x).1 with
          | none => exact ⟨fun _ => rfl, fun _ => rfl⟩
          | some y =>
            have hy := (cinv.2 y hb).2.1
            refine ⟨fun q => ?_, fun q => by cases q⟩
            have q : nI y = -2 := q
            have := nI_pos (n := y) (by omega)
            rw [q] at this
            exact absurd (by decide) this
        rw [hno, le_iff]
        refine ⟨fun q => nx (fun z => z.1 q), fun q => ⟨fun q2 => wr ⟨q, Or.inl q2⟩, fun q2 => ⟨fun q3 => nx (fun z => z.2.elim q2 (fun z => ?_)), fun q3 => wr ⟨q, Or.inr ?_⟩⟩⟩⟩
        · rcases z with z | z
          · exact q3 z.2
          · exact z.1 rfl
        · exact Or.inl ⟨rfl, Decidable.not_not.mp q3⟩
      refine k_BM_isThere r1.1.1 (by omega) ?_
      by_cases hin : x % 6 < c.1 ∧ x / 6 < c.2.1
      · rw [if_pos hin]
        refine ⟨fun z => absurd z (by decide), fun _ => ⟨vp_in_nI hx36 (by decide), ?_⟩⟩
        rw [nI_clamp (by omega), k1]
        have e1 : nI (c.2.2.2.1 x) = 1 ↔ c.2.2.2.1 x = 1 := nI_eq (b := 1) (by omega) (by decide)
        rw [e1]
        refine ⟨fun q => skip ?_, fun q => ⟨vp_in_nI hx36 (by decide), fun s5 e5 => ?_⟩⟩
        · rw [es]; unfold crvS; rw [if_neg (fun z => q z.2.1)]
        · have hoc : ¬ (P 0 = x ∨ P 1 = x ∨ P 2 = x) := by
            intro z
            rcases z with z | z | z
            · have := hp.2 0 (by omega); rw [z] at this; omega
            · have := hp.2 1 (by omega); rw [z] at this; omega
            · have := hp.2 2 (by omega); rw [z] at this; omega
          have := try1 ⟨hin, q, hoc⟩ s5 e5
          rw [nI_clamp (by omega)] at this
          exact this
      · rw [if_neg hin]
        refine ⟨fun _ => skip ?_, fun z => absurd rfl z⟩
        rw [es]; unfold crvS; rw [if_neg (fun z => hin z.1)]

  refine ko_BM_findsChipped (sg_BM_findsChipped_0 ?_)
  rintro s1 rfl s2 e2
  have f2 : fr [(151, 54), (151, 55)] [] σ s2 := by rw [e2]; exact (fr_sfi (by decide)).tr (fr_sfi (by decide))
  exact go 36 0 s2 mk rfl (by omega) (f2.mo (by decide) (by simp)) (hr.fr f2 (by simp) (by simp) (by simp) (by simp) (by simp) (by simp) (by simp) (by simp) (by simp)) (hm.fr f2 (by decide) (by simp)) ⟨by rw [e2]; rfl, by rw [e2]; rfl⟩
theorem k_BM_findsWalled {Q : St → Prop} {mk : Nat} (hr : RefT σ c P) (hp : okP c.1 c.2.1 c.2.2.1 c.2.2.2.1 P) (hm : MrkM σ mk) (hmk : mk + 36 < 2 ^ 31) (h : ∀ τ mk', mk' ≤ mk + 36 → fr [(151, 32), (151, 35), (151, 36), (151, 44), (151, 45), (151, 46), (151, 54), (151, 55)] [153, 154, 170, 171, 172, 173, 175, 176, 177, 178, 179] σ τ → RefT τ c P → MrkM τ mk' → BeM τ (crvN 1 c P 36) → Q τ) : K_BM_findsWalled g σ Q := by
  have hC := hr.1.1.2.2.2.1
  have hR := hr.1.1.2.2.2.2.1
  have hB := hr.1.1.2.2.2.2.2
  have le_iff : ∀ a b : Int32, a ≤ b ↔ ¬ b < a := fun a b => by rw [Int32.le_iff_toInt_le, Int32.lt_iff_toInt_lt]; omega
  have go : ∀ (m x : Nat) (τ : St) (mk' : Nat), x + m = 36 → mk' ≤ mk + x → fr [(151, 32), (151, 35), (151, 36), (151, 44), (151, 45), (151, 46), (151, 54), (151, 55)] [153, 154, 170, 171, 172, 173, 175, 176, 177, 178, 179] σ τ → RefT τ c P → MrkM τ mk' → BeM τ (crvN 1 c P x) → S_BM_findsWalled_14 g Q τ (nI x) := by
    intro m
    induction m with
    | zero =>
      intro x τ mk' hx hk hf r1 m1 b1
      have e : x = 36 := by omega
      subst e
      exact sg_BM_findsWalled_14 ⟨fun _ => h τ mk' hk hf r1 m1 b1, fun q => absurd (by decide) q⟩
    | succ m ih =>
      intro x τ mk' hx hk hf r1 m1 b1
      have hx36 : x < 36 := by omega
      obtain ⟨k1, k2⟩ := r1.1.2.1 x hx36
      have es : crvN 1 c P (x + 1) = crvS 1 c P (crvN 1 c P x) x := rfl
      have cinv := crvN_inv (made := 1) (c := c) (P := P) x
      have skip : crvN 1 c P (x + 1) = crvN 1 c P x → ∀ u : Int32, u = nI x + 1 → S_BM_findsWalled_14 g Q τ u := by
        rintro e u rfl
        rw [nI_1]
        exact ih (x + 1) τ mk' (by omega) (by omega) hf r1 m1 (by rw [e]; exact b1)
      refine sg_BM_findsWalled_14 ⟨fun q => absurd q (nI_ge (b := 36) hx36 (by decide)), fun _ => ?_⟩
      -- one that is tried
      have try1 : candC 1 c P x → ∀ s5 : St, s5 = sai τ 153 x (1 : Int32) → K_BM_finds g s5 (fun (r7 : Int32) (s6 : St) => vp_in (nI x) 36 ∧ (∀ s8 : St, s8 = sai s6 153 (nI x).toNatClampNeg (0 : Int32) → (r7 < 0 → ∀ u9 : Int32, u9 = nI x + (1 : Int32) → S_BM_findsWalled_14 g Q s8 u9) ∧ (¬ r7 < 0 → ((fi s8 151 54) = (-2 : Int32) → ∀ s10 : St, s10 = sfi s8 151 54 (nI x) → ∀ s11 : St, s11 = sfi s10 151 55 r7 → ∀ u12 : Int32, u12 = nI x + (1 : Int32) → S_BM_findsWalled_14 g Q s11 u12) ∧ (¬ (fi s8 151 54) = (-2 : Int32) → (r7 ≤ (fi s8 151 55) → ∀ u13 : Int32, u13 = nI x + (1 : Int32) → S_BM_findsWalled_14 g Q s8 u13) ∧ (¬ r7 ≤ (fi s8 151 55) → ∀ s14 : St, s14 = sfi s8 151 54 (nI x) → ∀ s15 : St, s15 = sfi s14 151 55 r7 → ∀ u16 : Int32, u16 = nI x + (1 : Int32) → S_BM_findsWalled_14 g Q s15 u16))))) := by
        rintro hc s5 e5
        have f5 : fr [] [153] τ s5 := by rw [e5]; exact fr_sai (by decide)
        have r5 : RefT s5 (cK c x 1) P := by rw [e5]; exact refT_set r1 hx36 (by decide)
        refine k_BM_finds r5 (cK_ok hB hp hx36 hc.2.2) (m1.fr f5 (by simp) (by decide)) (by omega) (fun τ6 f6 r6 m6 _ => ⟨vp_in_nI hx36 (by decide), ?_⟩)
        rintro s8 e8
        rw [nI_clamp (by omega)] at e8
        have f8 : fr [] [153] τ6 s8 := by rw [e8]; exact fr_sai (by decide)
        have r8 : RefT s8 c P := by
          have := refT_set (v := 0) r6 hx36 (by decide)
          have ek : (0 : Nat) = c.2.2.2.1 x := hc.2.1.symm
          rw [ek, cK_back] at this
          rw [e8, show (0 : Int32) = nI (c.2.2.2.1 x) from by rw [← ek]; rfl]
          exact this
        have m8 : MrkM s8 (mk' + 1) := m6.fr f8 (by simp) (by decide)
        have F8 : fr [(151, 32), (151, 35), (151, 36), (151, 44), (151, 45), (151, 46), (151, 54), (151, 55)] [153, 154, 170, 171, 172, 173, 175, 176, 177, 178, 179] σ s8 := hf.tr ((f5.mo (by simp) (by decide)).tr ((f6.mo (by decide) (by decide)).tr (f8.mo (by simp) (by decide))))
        have b54 : fi s8 151 54 = oC (crvN 1 c P x).1 := by rw [(f8.1 151 54 (by simp)).1, (f6.1 151 54 (by decide)).1, (f5.1 151 54 (by simp)).1]; exact b1.1
        have b55 : fi s8 151 55 = (crvN 1 c P x).2 := by rw [(f8.1 151 55 (by simp)).1, (f6.1 151 55 (by decide)).1, (f5.1 151 55 (by simp)).1]; exact b1.2
        have nx : (¬ (¬ finV (cK c x 1) P < 0 ∧ ((crvN 1 c P x).1 = none ∨ betC 1 (finV (cK c x 1) P) (crvN 1 c P x).2))) → ∀ u : Int32, u = nI x + 1 → S_BM_findsWalled_14 g Q s8 u := by
          rintro hw u rfl
          rw [nI_1]
          refine ih (x + 1) s8 (mk' + 1) (by omega) (by omega) F8 r8 m8 ?_
          rw [es]
          unfold crvS
          rw [if_pos hc, if_neg hw]
          exact ⟨b54, b55⟩
        have wr : (¬ finV (cK c x 1) P < 0 ∧ ((crvN 1 c P x).1 = none ∨ betC 1 (finV (cK c x 1) P) (crvN 1 c P x).2)) → ∀ s10 : St, s10 = sfi s8 151 54 (nI x) → ∀ s11 : St, s11 = sfi s10 151 55 (finV (cK c x 1) P) → ∀ u : Int32, u = nI x + 1 → S_BM_findsWalled_14 g Q s11 u := by
          rintro hw s10 e10 s11 e11 u rfl
          rw [nI_1]
          have f11 : fr [(151, 54), (151, 55)] [] s8 s11 := by rw [e11, e10]; exact (fr_sfi (by decide)).tr (fr_sfi (by decide))
          refine ih (x + 1) s11 (mk' + 1) (by omega) (by omega) (F8.tr (f11.mo (by decide) (by simp))) (r8.fr f11 (by simp) (by simp) (by simp) (by simp) (by simp) (by simp) (by simp) (by simp) (by simp)) (m8.fr f11 (by decide) (by simp)) ?_
          rw [es]
          unfold crvS
          rw [if_pos hc, if_pos hw]
          refine ⟨?_, ?_⟩
          · rw [e11, fi_sfi, if_neg (by decide), e10, fi_sfi, if_pos ⟨rfl, rfl⟩]; rfl
          · rw [e11, fi_sfi, if_pos ⟨rfl, rfl⟩]
        rw [b54, b55]
        have hno : oC (crvN 1 c P x).1 = -2 ↔ (crvN 1 c P x).1 = none := by
          cases hb : (crvN 1 c P x).1 with
          | none => exact ⟨fun _ => rfl, fun _ => rfl⟩
          | some y =>
            have hy := (cinv.2 y hb).2.1
            refine ⟨fun q => ?_, fun q => by cases q⟩
            have q : nI y = -2 := q
            have := nI_pos (n := y) (by omega)
            rw [q] at this
            exact absurd (by decide) this
        rw [hno, le_iff]
        refine ⟨fun q => nx (fun z => z.1 q), fun q => ⟨fun q2 => wr ⟨q, Or.inl q2⟩, fun q2 => ⟨fun q3 => nx (fun z => z.2.elim q2 (fun z => ?_)), fun q3 => wr ⟨q, Or.inr ?_⟩⟩⟩⟩
        · rcases z with z | z
          · exact absurd z.1 (by decide)
          · exact q3 z.2
        · exact Or.inr ⟨by decide, Decidable.not_not.mp q3⟩
      refine k_BM_isFree r1.1.1 (fun b hb => ⟨r1.1.2.2.1 b hb, by have := (hp.1.2 b).1; omega⟩) hx36 ?_
      rw [k1]
      have e1 : nI (c.2.2.2.1 x) = 0 ↔ c.2.2.2.1 x = 0 := nI_eq (b := 0) (by omega) (by decide)
      have e2 : whoM P c.2.2.1 x = -1 ↔ ¬ (P 0 = x ∨ P 1 = x ∨ P 2 = x) := by rw [← whoM_oc hp.1.1 hx36]; exact Decidable.not_not.symm
      by_cases hc : candC 1 c P x
      · rw [if_pos ⟨hc.1, e1.mpr hc.2.1, e2.mpr hc.2.2⟩]
        refine ⟨fun z => absurd z (by decide), fun _ => ⟨vp_in_nI hx36 (by decide), fun s5 e5 => ?_⟩⟩
        rw [nI_clamp (by omega)] at e5
        exact try1 hc s5 e5
      · rw [if_neg (fun z => hc ⟨z.1, e1.mp z.2.1, e2.mp z.2.2⟩)]
        refine ⟨fun _ => skip ?_, fun z => absurd rfl z⟩
        rw [es]; unfold crvS; rw [if_neg hc]

  refine ko_BM_findsWalled (sg_BM_findsWalled_0 ?_)
  rintro s1 rfl s2 e2
  have f2 : fr [(151, 54), (151, 55)] [] σ s2 := by rw [e2]; exact (fr_sfi (by decide)).tr (fr_sfi (by decide))
  exact go 36 0 s2 mk rfl (by omega) (f2.mo (by decide) (by simp)) (hr.fr f2 (by simp) (by simp) (by simp) (by simp) (by simp) (by simp) (by simp) (by simp) (by simp)) (hm.fr f2 (by decide) (by simp)) ⟨by rw [e2]; rfl, by rw [e2]; rfl⟩
theorem k_BM_best {Q : Int32 → St → Prop} {made w : Nat} (hw : w ≤ 2) (hb : BeM σ (crvN made c P 36)) (h : Q (crvV made c P w) σ) : K_BM_best g (nI w) σ Q := by
  obtain ⟨i1, i2⟩ := crvN_inv (made := made) (c := c) (P := P) 36
  refine ko_BM_best (sg_BM_best_0 ?_)
  rw [hb.1, hb.2]
  unfold crvV at h
  cases hx : (crvN made c P 36).1 with
  | none =>
    rw [hx] at h
    rw [i1 hx]
    exact ⟨fun _ => h, fun z => absurd rfl z⟩
  | some x =>
    rw [hx] at h
    have hy := (i2 x hx).2.1
    have ne : ¬ oC (some x) = -2 := by
      intro q
      have q : nI x = -2 := q
      have := nI_pos (n := x) (by omega)
      rw [q] at this
      exact absurd (by decide) this
    refine ⟨fun z => absurd z ne, fun _ => ?_⟩
    show (¬ nI w = 2 → (¬ nI w = 0 → Q (nI x / 6) σ) ∧ (nI w = 0 → Q (nI x - nI x / 6 * 6) σ)) ∧ _
    rw [rem6 (by omega), div6 (by omega)]
    dsimp only at h
    rcases (show w = 0 ∨ w = 1 ∨ w = 2 by omega) with rfl | rfl | rfl
    · exact ⟨fun _ => ⟨fun z => absurd rfl z, fun _ => h⟩, fun z => absurd z (by decide)⟩
    · exact ⟨fun _ => ⟨fun _ => h, fun z => absurd z (by decide)⟩, fun z => absurd z (by decide)⟩
    · exact ⟨fun z => absurd rfl z, fun _ => h⟩
end
section
variable {g : Gx} {σ : St} {d : Dat} {nr : Nat} {Ru : Nat → RuleT}
theorem kM_chipped {Q : Int32 → St → Prop} {x : Int32} {mk : Nat} (hs : CurM σ d) (ho : OkD nr d) (hr : RulM σ nr Ru) (hm : MrkM σ mk) (hmk : mk + 36 < 2 ^ 31) (h0 : (vC d = 0 ∨ ∀ n, n ≤ 2 → x ≠ nI n) → Q (-1) σ) (h1 : ∀ w, w ≤ 2 → x = nI w → vC d ≠ 0 → ∀ τ mk', mk' ≤ mk + 36 → fr [(151, 32), (151, 35), (151, 36), (151, 44), (151, 45), (151, 46), (151, 54), (151, 55)] [153, 154, 170, 171, 172, 173, 175, 176, 177, 178, 179] σ τ → RefT τ (cfg Ru d) (vP d) → MrkM τ mk' → Q (crvV 0 (cfg Ru d) (vP d) w) τ) : K_BM_chipped g x σ Q := by
  refine ko_BM_chipped (sg_BM_chipped_0 (kM_box hs ho (fun q => ⟨fun _ => h0 (Or.inl q), fun z => absurd rfl z⟩) (fun q => ⟨fun z => absurd z (by decide), fun _ => ?_⟩)))
  refine k_BM_inR 0 2 (by decide) (by decide) (by decide) (fun w _ hw ew => ⟨fun _ => ?_, fun z => absurd z (by decide)⟩) (fun q2 => ⟨fun z => absurd rfl z, fun _ => h0 (Or.inr (fun n hn => q2 n (Nat.zero_le _) hn))⟩)
  subst ew
  refine k_BM_findsChipped (hs.toT ho hr) ho.2.2.1 hm hmk (fun τ mk' hk hf r m b => ?_)
  exact k_BM_best (made := 0) (c := cfg Ru d) (P := vP d) hw b (h1 w hw rfl q τ mk' hk hf r m)
theorem kM_walled {Q : Int32 → St → Prop} {x : Int32} {mk : Nat} (hs : CurM σ d) (ho : OkD nr d) (hr : RulM σ nr Ru) (hm : MrkM σ mk) (hmk : mk + 36 < 2 ^ 31) (h0 : (vC d = 0 ∨ ∀ n, n ≤ 2 → x ≠ nI n) → Q (-1) σ) (h1 : ∀ w, w ≤ 2 → x = nI w → vC d ≠ 0 → ∀ τ mk', mk' ≤ mk + 36 → fr [(151, 32), (151, 35), (151, 36), (151, 44), (151, 45), (151, 46), (151, 54), (151, 55)] [153, 154, 170, 171, 172, 173, 175, 176, 177, 178, 179] σ τ → RefT τ (cfg Ru d) (vP d) → MrkM τ mk' → Q (crvV 1 (cfg Ru d) (vP d) w) τ) : K_BM_walled g x σ Q := by
  refine ko_BM_walled (sg_BM_walled_0 (kM_box hs ho (fun q => ⟨fun _ => h0 (Or.inl q), fun z => absurd rfl z⟩) (fun q => ⟨fun z => absurd z (by decide), fun _ => ?_⟩)))
  refine k_BM_inR 0 2 (by decide) (by decide) (by decide) (fun w _ hw ew => ⟨fun _ => ?_, fun z => absurd z (by decide)⟩) (fun q2 => ⟨fun z => absurd rfl z, fun _ => h0 (Or.inr (fun n hn => q2 n (Nat.zero_le _) hn))⟩)
  subst ew
  refine k_BM_findsWalled (hs.toT ho hr) ho.2.2.1 hm hmk (fun τ mk' hk hf r m b => ?_)
  exact k_BM_best (made := 1) (c := cfg Ru d) (P := vP d) hw b (h1 w hw rfl q τ mk' hk hf r m)
end
