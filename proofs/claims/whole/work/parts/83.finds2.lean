-- the reference's search, whole
def MrkM (σ : St) (mk : Nat) : Prop := fi σ 151 44 = nI mk ∧ ∀ s, s < 54872 → ∃ m, ai σ 175 s = nI m ∧ m ≤ mk
theorem RfQ.mrk {σ : St} {B mk : Nat} {q : Qs} (h : RfQ σ B mk q) : MrkM σ mk := ⟨h.1, fun s hs => by obtain ⟨m, a, b, -⟩ := h.2.2.2.2.2 s hs; exact ⟨m, a, b⟩⟩
theorem MrkM.fr {σ τ : St} {mk : Nat} {A : List (Nat × Nat)} {M : List Nat} (h : MrkM σ mk) (hf : fr A M σ τ) (h4 : (151, 44) ∉ A) (m1 : 175 ∉ M) : MrkM τ mk := by
  unfold MrkM at h ⊢
  rw [(hf.1 _ _ h4).1, (hf.2 _ m1).1]
  exact h
theorem fel_lost {C R B : Nat} {P : Nat → Nat} (hB : B ≤ 3) (h : okW C R B P) : fel P B 37 = 0 ↔ ¬ losP P := by
  rw [← cn3_lost hB h]
  unfold cn3 losP
  by_cases h0 : P 0 = 37
  · simp [h0]
  · by_cases h1 : P 1 = 37
    · simp [h1]
    · by_cases h2 : P 2 = 37
      · simp [h2]
      · simp [h0, h1, h2]
section
variable {g : Gx} {σ : St} {c : Cfg} {P : Nat → Nat} {q : Qs}
theorem k_BM_comes {Q : Int32 → St → Prop} {mk h w : Nat} (hr : RefT σ c P) (hq : RfQ σ c.2.2.1 mk q) (hl : q.1 ≤ 4000) (hl1 : 1 ≤ q.1) (hmk : mk < 2 ^ 31) (hh : h < q.1) (hw : w < 4) (hok : ∀ i, i < q.1 → okW c.1 c.2.1 c.2.2.1 (q.2.1 i))
    (h1 : inQ q P → Q 0 σ) (h2 : ¬ inQ q P → losP P → Q 0 σ) (h3 : ¬ inQ q P → ¬ losP P → q.1 = 4000 → ¬ allH P → Q 1 σ)
    (h4 : ¬ inQ q P → ¬ losP P → (q.1 = 4000 → allH P) → ∀ τ, fr [(151, 45), (151, 46)] [175, 176, 177, 178] σ τ → RefT τ c P → RfQ τ c.2.2.1 mk (psh q P (4 * h + w) (q.2.2.2 h + 1)) → fi τ 151 46 = (if allH P then nI q.1 else fi σ 151 46) → Q 0 τ) : K_BM_comes g (nI h) (nI w) σ Q := by
  obtain ⟨q1, q2, q3, q4, q5, q6⟩ := id hq
  have hp := hr.1.2.2.2
  have hB := hr.1.1.2.2.2.2.2
  have hs := smP_lt hp
  have iq : (∃ i, i < q.1 ∧ smP (q.2.1 i) c.2.2.1 = smP P c.2.2.1) ↔ inQ q P := by
    constructor
    · rintro ⟨i, hi, e⟩
      exact ⟨i, hi, smP_inj hB (hok i hi) hp e⟩
    · rintro ⟨i, hi, e⟩
      exact ⟨i, hi, by rw [e]⟩
  refine ko_BM_comes (sg_BM_comes_0 (k_BM_situationNow hr ⟨vp_in_nI hs (by decide), ?_⟩))
  obtain ⟨m, g1, g2, g3⟩ := q6 _ hs
  rw [nI_clamp (by omega), g1, q1, nI_eq (by omega) (by omega), g3, iq]
  refine ⟨h1, fun ni => k_BM_fell (v := 37) hr.1 (by decide) ?_⟩
  have hf3 : fel P c.2.2.1 37 ≤ 3 := by unfold fel; split <;> split <;> split <;> omega
  have hle : nI (fel P c.2.2.1 37) ≤ 0 ↔ ¬ losP P := by
    rw [← fel_lost hB hp]
    have : nI (fel P c.2.2.1 37) ≤ 0 ↔ fel P c.2.2.1 37 ≤ 0 := nI_leI (b := 0) (by omega) (by decide)
    rw [this]; omega
  have e40 : nI q.1 = 4000 ↔ q.1 = 4000 := nI_eq (b := 4000) (by omega) (by decide)
  rw [hle, q2, e40]
  refine ⟨fun nl => ⟨fun n4 => ?_, fun y4 => k_areH hr ?_⟩, fun yl => ⟨fun z => absurd z.symm (m1_ne (by omega)), fun _ => h2 ni (Decidable.not_not.mp yl)⟩⟩
  · exact comes53 (b := 4 * h + w) (dd := q.2.2.2 h + 1) hr hq hl hmk (fun _ => ⟨by rw [show (4 * h + w) / 4 = h by omega], by rw [show (4 * h + w) % 4 = w by omega]⟩) (fun z => by omega) ni hok (fun τ f r rq e _ => h4 ni nl (fun z => absurd z n4) τ f r rq e)
  · by_cases yH : allH P
    · rw [if_pos yH]
      exact ⟨fun _ => comes53 (b := 4 * h + w) (dd := q.2.2.2 h + 1) hr hq hl hmk (fun _ => ⟨by rw [show (4 * h + w) / 4 = h by omega], by rw [show (4 * h + w) % 4 = w by omega]⟩) (fun z => by omega) ni hok (fun τ f r rq e _ => h4 ni nl (fun _ => yH) τ f r rq e), fun z => absurd z (by decide)⟩
    · rw [if_neg yH]
      exact ⟨fun z => absurd rfl z, fun _ => h3 ni nl y4 yH⟩
theorem fd_loop {Q : Int32 → St → Prop} {mk : Nat} (hmk : mk < 2 ^ 31) : ∀ (f h w : Nat) (q : Qs) (σ : St) (P' : Nat → Nat), 20005 ≤ f + (5 * h + w) → w ≤ 4 → h < q.1 → okQ c q → RfQ σ c.2.2.1 mk q → RefT σ c P' → fi σ 151 46 = -1 →
    (∀ (τ : St) (P' : Nat → Nat), fr [(151, 32), (151, 35), (151, 36), (151, 45), (151, 46)] [154, 170, 171, 172, 173, 175, 176, 177, 178] σ τ → RefT τ c P' → ((bfsF c f h w q).1 = 1 → (∃ N, RfQ τ c.2.2.1 mk (psh (bfsF c f h w q).2.2 N (bfsF c f h w q).2.1 ((bfsF c f h w q).2.2.2.2.2 ((bfsF c f h w q).2.1 / 4) + 1))) ∧ fi τ 151 46 = nI (bfsF c f h w q).2.2.1) → ((bfsF c f h w q).1 ≠ 1 → RfQ τ c.2.2.1 mk (bfsF c f h w q).2.2 ∧ fi τ 151 46 = -1) → S_BM_finds_120 g Q τ (if (bfsF c f h w q).1 = 2 then 1 else 0)) → S_BM_finds_69 g Q σ 0 (nI h) (nI w) := by
  intro f
  induction f with
  | zero => intro h w q σ P' hf hw hh hq; have := hq.2.1; omega
  | succ f ih =>
    intro h w q σ P' hf hw hh hq hs hr e46 hQ
    have hq4 := hq.2.1
    have hC := hr.1.1.2.2.2.1
    have hR := hr.1.1.2.2.2.2.1
    have hB := hr.1.1.2.2.2.2.2
    by_cases h4 : 4 ≤ w
    · have e : w = 4 := by omega
      subst e
      refine sg_BM_finds_69 ⟨fun _ => ?_, fun z => absurd (by decide) z⟩
      rintro u rfl
      rw [nI_1]
      rw [bfsF, if_pos h4] at hQ
      refine sg_BM_finds_40 ?_
      rw [hs.2.1, e46]
      refine ⟨fun z => ?_, fun z => ?_⟩
      · have hle := (nI_leI (by omega) (by omega)).mp z
        rw [if_pos hle] at hQ
        exact hQ σ P' fr.rf hr (fun y => absurd (show (0 : Nat) = 1 from y) (by decide)) (fun _ => ⟨hs, e46⟩)
      · have hlt : ¬ q.1 ≤ h + 1 := fun y => z (nI_le y (by omega))
        rw [if_neg hlt] at hQ
        refine ⟨fun y => absurd y (nI_ge (b := 4000) (by omega) (by decide)), fun _ => ⟨fun y => absurd rfl y, fun _ => ⟨fun y => absurd rfl y, fun _ => ?_⟩⟩⟩
        exact ih (h + 1) 0 q σ P' (by omega) (by decide) (by omega) hq hs hr e46 hQ
    · have hw4 : w < 4 := by omega
      obtain ⟨ph, pH⟩ := hq.2.2.1 h hh
      have hN := tipC_ok hC hR hw4 ph
      refine sg_BM_finds_69 ⟨fun z => absurd z (nI_ge (b := 4) hw4 (by decide)), fun _ => ?_⟩
      rw [e46, nI_clamp (by omega), hs.2.2.1 h hh]
      refine ⟨fun y => absurd rfl y, fun _ => ⟨fun y => absurd rfl y, fun _ => ⟨vp_in_nI (by omega) (by decide), ?_⟩⟩⟩
      refine k_BM_laysSit hr ph.1 (fun τ1 f1 r1 => k_tips hw4 r1 (fun τ2 f2 r2 _ _ => ?_))
      have F2 : fr [(151, 32), (151, 35), (151, 36), (151, 45), (151, 46)] [154, 170, 171, 172, 173, 175, 176, 177, 178] σ τ2 := (f1.mo (by simp) (by decide)).tr (f2.mo (by decide) (by decide))
      have s2 : RfQ τ2 c.2.2.1 mk q := (hs.fr f1 (by simp) (by simp) (by decide) (by decide) (by decide) (by decide)).fr f2 (by decide) (by decide) (by decide) (by decide) (by decide) (by decide)
      have e2 : fi τ2 151 46 = -1 := by rw [(f2.1 151 46 (by decide)).1, (f1.1 151 46 (by simp)).1]; exact e46
      rw [bfsF, if_neg h4] at hQ
      obtain ⟨N, hNe⟩ : ∃ N, N = (tipC c w (q.2.1 h)).1 := ⟨_, rfl⟩
      rw [← hNe] at hQ hN r2
      have hnoH : allH N → ¬ inQ q N := by
        rintro hH ⟨i, hi, e⟩
        exact (hq.2.2.1 i hi).2 (by rw [e]; exact hH)
      have hnoL : allH N → ¬ losP N := by
        rintro ⟨a0, a1, a2⟩ hl
        rcases hl with z | z | z <;> omega
      have go : (∀ (τ : St) (P' : Nat → Nat), fr [(151, 32), (151, 35), (151, 36), (151, 45), (151, 46)] [154, 170, 171, 172, 173, 175, 176, 177, 178] σ τ → RefT τ c P' → ((bfsF c f h (w + 1) q).1 = 1 → (∃ N, RfQ τ c.2.2.1 mk (psh (bfsF c f h (w + 1) q).2.2 N (bfsF c f h (w + 1) q).2.1 ((bfsF c f h (w + 1) q).2.2.2.2.2 ((bfsF c f h (w + 1) q).2.1 / 4) + 1))) ∧ fi τ 151 46 = nI (bfsF c f h (w + 1) q).2.2.1) → ((bfsF c f h (w + 1) q).1 ≠ 1 → RfQ τ c.2.2.1 mk (bfsF c f h (w + 1) q).2.2 ∧ fi τ 151 46 = -1) → S_BM_finds_120 g Q τ (if (bfsF c f h (w + 1) q).1 = 2 then 1 else 0)) → ∀ u8 : Int32, u8 = nI w + 1 → S_BM_finds_69 g Q τ2 0 (nI h) u8 := by
        rintro hQ' u rfl
        rw [nI_1]
        exact ih h (w + 1) q τ2 N (by omega) (by omega) hh hq s2 r2 e2 (fun τ P'' f' r' a b => hQ' τ P'' (F2.tr f') r' a b)
      refine k_BM_comes r2 s2 hq4 hq.1 hmk hh hw4 (fun i hi => (hq.2.2.1 i hi).1.1) (fun yi => ?_) (fun ni yl => ?_) (fun ni nl y4 nH => ?_) (fun ni nl hfull => ?_)
      · have nH : ¬ allH N := fun z => hnoH z yi
        rw [if_neg nH] at hQ
        by_cases yl : losP N
        · rw [if_pos yl] at hQ; exact go hQ
        · rw [if_neg yl, if_pos yi] at hQ; exact go hQ
      · have nH : ¬ allH N := fun z => hnoL z yl
        rw [if_neg nH, if_pos yl] at hQ
        exact go hQ
      · rw [if_neg nH, if_neg nl, if_neg ni, if_pos y4] at hQ
        rintro u rfl
        rw [nI_1]
        -- it is over: the rest of this round, and out
        have over : ∀ v, v ≤ 4 → S_BM_finds_69 g Q τ2 1 (nI h) (nI v) := by
          intro v hv
          have out : ∀ u1 : Int32, u1 = nI h + 1 → S_BM_finds_40 g Q τ2 1 u1 := by
            rintro u rfl
            rw [nI_1]
            have hfin : S_BM_finds_120 g Q τ2 1 := hQ τ2 N F2 r2 (fun y => absurd (show (2 : Nat) = 1 from y) (by decide)) (fun _ => ⟨s2, e2⟩)
            refine sg_BM_finds_40 ⟨fun _ => hfin, fun _ => ⟨fun _ => hfin, fun _ => ⟨fun _ => hfin, fun _ => ⟨fun _ => hfin, fun z => absurd z (by decide)⟩⟩⟩⟩
          exact sg_BM_finds_69 ⟨fun _ => out, fun _ => ⟨fun _ => out, fun _ => ⟨fun _ => out, fun z => absurd z (by decide)⟩⟩⟩
        exact over (w + 1) (by omega)
      · intro τ3 f3 r3 q3 e3
        have F3 := F2.tr (f3.mo (F' := [(151, 32), (151, 35), (151, 36), (151, 45), (151, 46)]) (R' := [154, 170, 171, 172, 173, 175, 176, 177, 178]) (by decide) (by decide))
        by_cases yH : allH N
        · rw [if_pos yH] at hQ e3
          rintro u rfl
          rw [nI_1]
          have out : ∀ u1 : Int32, u1 = nI h + 1 → S_BM_finds_40 g Q τ3 0 u1 := by
            rintro u rfl
            rw [nI_1]
            have hfin : S_BM_finds_120 g Q τ3 0 := hQ τ3 N F3 r3 (fun _ => ⟨⟨N, by
              show RfQ τ3 c.2.2.1 mk (psh q N (4 * h + w) (q.2.2.2 ((4 * h + w) / 4) + 1))
              rw [show (4 * h + w) / 4 = h by omega]; exact q3⟩, e3⟩) (fun y => absurd rfl y)
            have ne : ¬ fi τ3 151 46 = -1 := by rw [e3]; exact fun z => m1_ne (by omega) z.symm
            exact sg_BM_finds_40 ⟨fun _ => hfin, fun _ => ⟨fun _ => hfin, fun _ => ⟨fun _ => hfin, fun z => absurd z ne⟩⟩⟩
          have ne : ¬ fi τ3 151 46 = -1 := by rw [e3]; exact fun z => m1_ne (by omega) z.symm
          exact sg_BM_finds_69 ⟨fun _ => out, fun _ => ⟨fun _ => out, fun z => absurd z ne⟩⟩
        · have n4 : q.1 ≠ 4000 := fun z => yH (hfull z)
          rw [if_neg yH, if_neg nl, if_neg ni, if_neg n4] at hQ
          rw [if_neg yH] at e3
          rintro u rfl
          rw [nI_1]
          exact ih h (w + 1) _ τ3 N (by omega) (by omega) (by show h < q.1 + 1; omega) (okQ_psh hq hh hw4 (by omega) hN yH) q3 r3 (by rw [e3]; exact e2) (fun τ P'' f' r' a b => hQ τ P'' (F3.tr f') r' a b)
end
