-- chipped, walled on both sides
/-- the carver's rows: valid where they are as of now -/
def CaCa (σ : St) (c : Cfg) (P : Nat → Nat) : Prop := (∃ n F, SeQ 65 σ n F) ∧ ∀ made, made ≤ 1 → ai σ 62 made = fi σ 0 14 → CaV σ made (crvN made c P 36)
section
variable {g : Gx} {σ : St} {d : Dat} {nr : Nat} {Ru : Nat → RuleT}
theorem rulC_fr {τ : St} {F : List (Nat × Nat)} {M : List Nat} (h : RulC σ nr Ru) (hf : fr F M σ τ) (h5 : (17, 5) ∉ F) (hF : ∀ i, i < 6 → (22 + 5 * i, 5) ∉ F ∧ (22 + 5 * i, 6) ∉ F) (hM : ∀ i, i < 6 → 22 + 5 * i + 1 ∉ M ∧ 22 + 5 * i + 2 ∉ M ∧ 22 + 5 * i + 3 ∉ M) : RulC τ nr Ru := by
  have h6 := h.1
  exact ⟨h.1, by rw [(hf.1 _ _ h5).1]; exact h.2.1, fun i hi => ⟨(h.2.2 i hi).1, (h.2.2 i hi).2.fr hf (hF i (by omega)).1 (hF i (by omega)).2 (hM i (by omega)).1 (hM i (by omega)).2.1 (hM i (by omega)).2.2⟩⟩
theorem k_CA_keepUp {Q : St → Prop} {made : Nat} (hm : made ≤ 1) (hs : ClsS 83 σ d) (ho : OkD nr d) (hr : RulC σ nr Ru) (hca : CaCa σ (cfg Ru d) (vP d)) (h : ∀ τ, fr [(57, 1), (57, 2), (57, 3), (57, 4), (57, 5), (57, 6), (57, 7), (57, 8), (57, 9), (57, 10), (65, 4), (65, 5), (17, 4), (17, 6), (17, 7)] [58, 59, 60, 61, 62, 63, 64, 66, 67, 68, 19, 20, 21, 26, 31, 36, 41, 46, 51] σ τ → CaCa τ (cfg Ru d) (vP d) → CaV τ made (crvN made (cfg Ru d) (vP d) 36) → (∀ m2, m2 ≤ 1 → ai τ 62 m2 = ai σ 62 m2 ∨ ai τ 62 m2 = fi σ 0 14) → Q τ) : K_CA_keepUp g 83 (fi σ 0 14) (nI made) σ Q := by
  have hT := hs.toT ho hr
  have hC := ho.1.1
  have hR := ho.1.2.1
  have hB := ho.1.2.2.1
  refine ko_CA_keepUp (sg_CA_keepUp_0 sa_83 ⟨fun q => absurd q (nI_pos (by omega)), fun _ => ⟨fun q => absurd q (nI_ge (b := 2) (by omega) (by decide)), fun _ => ⟨vp_in_nI (by omega) (by decide), ?_⟩⟩⟩)
  rw [nI_clamp (by omega)]
  refine ⟨fun q => ⟨vp_in_nI (by omega) (by decide), ?_⟩, fun q => h σ fr.rf hca (hca.2 made hm q) (fun _ _ => Or.inl rfl)⟩
  rintro s1 e1
  refine ⟨vp_in_nI (by omega) (by decide), ?_⟩
  rintro s2 e2
  have f2 : fr [] [62, 64] σ s2 := by rw [e2, e1]; exact (fr_sai (by decide)).tr (fr_sai (by decide))
  have F2 : fr [(57, 1), (57, 2), (57, 3), (57, 4), (57, 5), (57, 6), (57, 7), (57, 8), (57, 9), (57, 10), (65, 4), (65, 5), (17, 4), (17, 6), (17, 7)] [58, 59, 60, 61, 62, 63, 64, 66, 67, 68, 19, 20, 21, 26, 31, 36, 41, 46, 51] σ s2 := f2.mo (by simp) (by decide)
  have v64 : ai s2 64 made = -2 := by rw [e2, ai_sai, if_pos ⟨rfl, rfl⟩]
  have o64 : ∀ j, j ≠ made → ai s2 64 j = ai σ 64 j := fun j hj => by rw [e2, ai_sai, if_neg (by omega), e1, ai_sai, if_neg (by omega)]
  have v62 : ai s2 62 made = fi σ 0 14 := by rw [e2, ai_sai, if_neg (by omega), e1, ai_sai, if_pos ⟨rfl, rfl⟩]
  have o62 : ∀ j, j ≠ made → ai s2 62 j = ai σ 62 j := fun j hj => by rw [e2, ai_sai, if_neg (by omega), e1, ai_sai, if_neg (by omega)]
  have cb2 : ClsB 83 s2 (vC d) (vR d) (vB d) (vK d) := hs.2.1.fr f2 (by simp) (by simp) (by simp) (by decide) (by decide)
  have e835 : fi s2 83 5 = nI (sitP (vP d) (vB d)) := by rw [(f2.1 83 5 (by simp)).1]; exact hs.2.2.1
  have se2 : ∃ n F, SeQ 65 s2 n F := by
    obtain ⟨n, F, hq⟩ := hca.1
    exact ⟨n, F, hq.fr f2 (by simp) (by decide) (by decide)⟩
  -- at the end
  have fin : ∀ τ, fr [(57, 1), (57, 2), (57, 3), (57, 4), (57, 5), (57, 6), (57, 7), (57, 8), (57, 9), (57, 10), (65, 4), (65, 5), (17, 4), (17, 6), (17, 7)] [58, 59, 60, 61, 63, 64, 66, 67, 68, 19, 20, 21, 26, 31, 36, 41, 46, 51] s2 τ → (∃ n F, SeQ 65 τ n F) → (∀ j, j ≠ made → ai τ 63 j = ai s2 63 j ∧ ai τ 64 j = ai s2 64 j) → CaV τ made (crvN made (cfg Ru d) (vP d) 36) → Q τ := by
    intro τ hf hse hoth hv
    refine h τ (F2.tr (hf.mo (by decide) (by decide))) ⟨hse, fun m2 hm2 e => ?_⟩ hv (fun m2 hm2 => by
      rw [(hf.2 62 (by decide)).1]
      by_cases z : m2 = made
      · rw [z]; exact Or.inr v62
      · exact Or.inl (o62 m2 z))
    by_cases z : m2 = made
    · rw [z]; exact hv
    · have e0 : fi τ 0 14 = fi σ 0 14 := by rw [(hf.1 0 14 (by decide)).1, (f2.1 0 14 (by simp)).1]
      rw [(hf.2 62 (by decide)).1, o62 m2 z, e0] at e
      have old := hca.2 m2 hm2 e
      exact ⟨by rw [(hoth m2 z).2, o64 m2 z]; exact old.1, fun x hx => by rw [(hoth m2 z).1, (f2.2 63 (by decide)).1]; exact old.2 x hx⟩
  refine k_SA_isHopeless (P := vP d) sa_83 cb2 ho.2.2.1.1 e835 (fun b hb hst => ⟨fun z => absurd z (by decide), fun _ => ?_⟩) (fun _ => ⟨fun _ => ?_, fun z => absurd rfl z⟩)
  · refine fin s2 fr.rf se2 (fun _ _ => ⟨rfl, rfl⟩) ?_
    rw [crvN_stk (c := cfg Ru d) (b := b) hm hC hR hB (by omega) ho.2.2.1 hst]
    exact ⟨v64, fun x hx => by cases hx⟩
  · -- the loop, over a box of its own
    have hs2 : ClsS 83 s2 d := by
      obtain ⟨a1, a2, a3, a4, a5, a6, a7, a8, a9, a10⟩ := id hs
      refine ⟨?_, cb2, e835, ?_, ?_, ?_, ?_, ?_, ?_, ?_⟩
      · rw [(f2.1 83 1 (by simp)).1]; exact a1
      · rw [(f2.1 83 6 (by simp)).1]; exact a4
      · rw [(f2.1 83 7 (by simp)).1]; exact a5
      · rw [(f2.2 (83 + 3) (by decide)).1]; exact a6
      · rw [(f2.1 83 8 (by simp)).1]; exact a7
      · rw [(f2.2 (83 + 4) (by decide)).1]; exact a8
      · rw [(f2.1 83 9 (by simp)).1]; exact a9
      · rw [(f2.1 83 10 (by simp)).1]; exact a10
    have go : K_SA_takeOver g 57 83 s2 (fun s5 : St => S_CA_keepUp_70 g Q s5 83 (nI made) (nI (1 - made)) 0) := by
      refine k_SA_takeOver sa_57 sa_83 (by decide) hs2 ho (fun τ3 f3 s3 => ?_)
      have F3 : fr [(57, 1), (57, 2), (57, 3), (57, 4), (57, 5), (57, 6), (57, 7), (57, 8), (57, 9), (57, 10), (65, 4), (65, 5), (17, 4), (17, 6), (17, 7)] [58, 59, 60, 61, 63, 64, 66, 67, 68, 19, 20, 21, 26, 31, 36, 41, 46, 51] s2 τ3 := f3.mo (by decide) (by decide)
      have r2 : RulC s2 nr Ru := rulC_fr hr f2 (by simp) (fun i _ => by simp) (fun i hi => by simp; omega)
      have r3 : RulC τ3 nr Ru := rulC_fr r2 f3 (by decide) (fun i hi => by simp; omega) (fun i hi => by simp; omega)
      obtain ⟨n, F, hq⟩ := se2
      refine ca_loop (c := cfg Ru d) (P := vP d) (σ0 := s2) hm ho.2.2.1 (clsS_toT hs2 ho r2) e835 (fun τ hf hse hoth hv => fin τ hf hse hoth hv) 64 0 τ3 rfl F3 ⟨n, F, hq.fr f3 (by decide) (by decide) (by decide)⟩ (fun j hj => ?_) ?_ (clsS_toT s3 ho r3) s3.2.2.1
      · rw [(f3.2 63 (by decide)).1, (f3.2 64 (by decide)).1]; exact ⟨rfl, rfl⟩
      · exact ⟨by rw [(f3.2 64 (by decide)).1]; exact v64, fun x hx => by cases hx⟩
    rcases (show made = 0 ∨ made = 1 by omega) with rfl | rfl
    · exact ⟨fun _ => go, fun z => absurd z (by decide)⟩
    · exact ⟨fun z => absurd rfl z, fun _ => go⟩
theorem kB_chipped {Q : Int32 → St → Prop} {x : Int32} (hs : ClsS 83 σ d) (ho : OkD nr d) (hr : RulC σ nr Ru) (hca : CaCa σ (cfg Ru d) (vP d)) (h0 : (vC d = 0 ∨ ∀ n, n ≤ 2 → x ≠ nI n) → Q (-1) σ) (h1 : ∀ w, w ≤ 2 → x = nI w → vC d ≠ 0 → ∀ τ, fr [(57, 1), (57, 2), (57, 3), (57, 4), (57, 5), (57, 6), (57, 7), (57, 8), (57, 9), (57, 10), (65, 4), (65, 5), (17, 4), (17, 6), (17, 7)] [58, 59, 60, 61, 62, 63, 64, 66, 67, 68, 19, 20, 21, 26, 31, 36, 41, 46, 51] σ τ → CaCa τ (cfg Ru d) (vP d) → (∀ m2, m2 ≤ 1 → ai τ 62 m2 = ai σ 62 m2 ∨ ai τ 62 m2 = fi σ 0 14) → Q (crvV 0 (cfg Ru d) (vP d) w) τ) : K_BB_chipped g x σ Q := by
  refine ko_BB_chipped (sg_BB_chipped_0 ⟨fun q => h0 (Or.inl (hs.box.mp q)), fun q => ⟨fun q1 => h0 (Or.inr (fun n hn => rg_neg q1 (by omega))), fun q1 => ⟨fun q2 => ?_, fun q2 => h0 (Or.inr (fun n hn e => q2 (by rw [e]; exact nI_le (b := 2) hn (by decide))))⟩⟩⟩)
  obtain ⟨w, hw, rfl⟩ : ∃ k, k ≤ 2 ∧ x = nI k := by
    obtain ⟨j, hj, rfl⟩ := nI_of q1
    exact ⟨j, (nI_leI (b := 2) hj (by decide)).mp q2, rfl⟩
  refine k_CA_keepUp (made := 0) (by decide) hs ho hr hca (fun τ hf hca' hv has => ?_)
  exact k_CA_answer (made := 0) (c := cfg Ru d) (P := vP d) (by decide) hw ho.1.1 ho.1.2.1 hv (h1 w hw rfl (fun z => q (hs.box.mpr z)) τ hf hca' has)
theorem kB_walled {Q : Int32 → St → Prop} {x : Int32} (hs : ClsS 83 σ d) (ho : OkD nr d) (hr : RulC σ nr Ru) (hca : CaCa σ (cfg Ru d) (vP d)) (h0 : (vC d = 0 ∨ ∀ n, n ≤ 2 → x ≠ nI n) → Q (-1) σ) (h1 : ∀ w, w ≤ 2 → x = nI w → vC d ≠ 0 → ∀ τ, fr [(57, 1), (57, 2), (57, 3), (57, 4), (57, 5), (57, 6), (57, 7), (57, 8), (57, 9), (57, 10), (65, 4), (65, 5), (17, 4), (17, 6), (17, 7)] [58, 59, 60, 61, 62, 63, 64, 66, 67, 68, 19, 20, 21, 26, 31, 36, 41, 46, 51] σ τ → CaCa τ (cfg Ru d) (vP d) → (∀ m2, m2 ≤ 1 → ai τ 62 m2 = ai σ 62 m2 ∨ ai τ 62 m2 = fi σ 0 14) → Q (crvV 1 (cfg Ru d) (vP d) w) τ) : K_BB_walled g x σ Q := by
  refine ko_BB_walled (sg_BB_walled_0 ⟨fun q => h0 (Or.inl (hs.box.mp q)), fun q => ⟨fun q1 => h0 (Or.inr (fun n hn => rg_neg q1 (by omega))), fun q1 => ⟨fun q2 => ?_, fun q2 => h0 (Or.inr (fun n hn e => q2 (by rw [e]; exact nI_le (b := 2) hn (by decide))))⟩⟩⟩)
  obtain ⟨w, hw, rfl⟩ : ∃ k, k ≤ 2 ∧ x = nI k := by
    obtain ⟨j, hj, rfl⟩ := nI_of q1
    exact ⟨j, (nI_leI (b := 2) hj (by decide)).mp q2, rfl⟩
  refine k_CA_keepUp (made := 1) (by decide) hs ho hr hca (fun τ hf hca' hv has => ?_)
  exact k_CA_answer (made := 1) (c := cfg Ru d) (P := vP d) (by decide) hw ho.1.1 ho.1.2.1 hv (h1 w hw rfl (fun z => q (hs.box.mpr z)) τ hf hca' has)
end
