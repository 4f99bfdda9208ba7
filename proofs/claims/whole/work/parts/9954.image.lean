-- image and back
theorem sh152 : SH[152]? = some (.inr (0, 8, [])) := by decide +kernel
theorem sh153 : SH[153]? = some (.inr (0, 36, [])) := by decide +kernel
theorem sh155 : SH[155]? = some (.inr (0, 8, [])) := by decide +kernel
theorem sh156 : SH[156]? = some (.inr (0, 8, [])) := by decide +kernel
theorem sh157 : SH[157]? = some (.inr (0, 8, [])) := by decide +kernel
theorem sh158 : SH[158]? = some (.inr (0, 8, [])) := by decide +kernel
/-- the image k of the reference -/
def ImM (σ : St) (k : Nat) (d : Dat) : Prop := RefS (fun i => ai σ 197 (90 * k + i)) (fun i => ai σ 197 (90 * k + 8 + i)) (fun i => ai σ 197 (90 * k + 44 + i)) (fun i => ai σ 197 (90 * k + 47 + i)) (fun i => ai σ 197 (90 * k + 55 + i)) (fun i => ai σ 197 (90 * k + 63 + i)) (fun i => ai σ 197 (90 * k + 71 + i)) d
theorem RefS.congr {a b c e f p q a' b' c' e' f' p' q' : Nat → Int32} {d : Dat} {nr : Nat} (h : RefS a b c e f p q d) (ho : OkD nr d) (h1 : ∀ i, i < 8 → a' i = a i) (h2 : ∀ i, i < 36 → b' i = b i) (h3 : ∀ i, i < 3 → c' i = c i) (h4 : ∀ i, i < 8 → e' i = e i) (h5 : ∀ i, i < 8 → f' i = f i) (h6 : ∀ i, i < 8 → p' i = p i) (h7 : ∀ i, i < 8 → q' i = q i) : RefS a' b' c' e' f' p' q' d := by
  obtain ⟨⟨c0, c1, c2, c3, c4, c5, c6, c7⟩, a2, a3, a4, a5⟩ := h
  have o3 := ho.1.2.2.1
  have o5 := ho.2.2.2.2.1
  have o7 := ho.2.2.2.2.2.2.1
  refine ⟨⟨?_, ?_, ?_, ?_, ?_, ?_, ?_, ?_⟩, fun x hx => ?_, fun x hx => ?_, fun x hx => ?_, fun x hx => ?_⟩
  · rw [h1 0 (by decide)]; exact c0
  · rw [h1 1 (by decide)]; exact c1
  · rw [h1 2 (by decide)]; exact c2
  · rw [h1 3 (by decide)]; exact c3
  · rw [h1 4 (by decide)]; exact c4
  · rw [h1 5 (by decide)]; exact c5
  · rw [h1 6 (by decide)]; exact c6
  · rw [h1 7 (by decide)]; exact c7
  · rw [h2 x hx]; exact a2 x hx
  · rw [h3 x (by omega)]; exact a3 x hx
  · rw [h4 x (by omega)]; exact a4 x hx
  · rw [h5 x (by omega), h6 x (by omega), h7 x (by omega)]; exact a5 x hx
section
variable {g : Gx}
theorem k_carryTo {Q : St → Prop} {a N p : Nat} {σ : St} (ha : SH[a]? = some (.inr (0, N, []))) (hN : N ≤ 36) (hp : p + N ≤ 360) (h75 : fi σ 151 75 = 0) (h74 : fi σ 151 74 = nI p) (hne : a ≠ 197) (h : ∀ τ, fr [(151, 74)] [197] σ τ → fi τ 151 74 = nI (p + N) → (∀ k, k < N → ai τ 197 (p + k) = ai σ a k) → (∀ k, (k < p ∨ p + N ≤ k) → ai τ 197 k = ai σ 197 k) → Q τ) : K_BM_carry g a σ Q := by
  have go : ∀ (m i : Nat) (τ : St), i + m = N → fr [(151, 74)] [197] σ τ → fi τ 151 74 = nI (p + i) → (∀ k, k < i → ai τ 197 (p + k) = ai σ a k) → (∀ k, (k < p ∨ p + i ≤ k) → ai τ 197 k = ai σ 197 k) → S_BM_carry_2 g Q τ a (nI i) := by
    intro m
    induction m with
    | zero =>
      intro i τ hi hf h1 h2 h3
      have e : i = N := by omega
      subst e
      exact sg_BM_carry_2 ha ⟨fun _ => h τ hf h1 h2 h3, fun c => absurd (nI_le (Nat.le_refl _) (by omega)) c⟩
    | succ m ih =>
      intro i τ hi hf h1 h2 h3
      have e75 : fi τ 151 75 = 0 := by rw [(hf.1 151 75 (by decide)).1]; exact h75
      refine sg_BM_carry_2 ha ⟨fun c => absurd c (nI_ge (by omega) (by omega)), fun _ => ⟨fun _ => ⟨vp_in_nI (by omega) (by omega), by rw [h1]; exact vp_in_nI (by omega) (by decide), ?_⟩, fun c => absurd e75 c⟩⟩
      rintro s1 e1 s2 e2 u rfl
      rw [h1, nI_clamp (by omega), nI_clamp (by omega), (hf.2 a (by simp [hne])).1] at e1
      rw [nI_1]
      have e3 : fi s1 151 74 = nI (p + i) := by rw [e1]; exact h1
      rw [e3, nI_1] at e2
      refine ih (i + 1) s2 (by omega) ?_ ?_ (fun k hk => ?_) (fun k hk => ?_)
      · rw [e2, e1]; exact hf.tr ((fr_sai (by decide)).tr (fr_sfi (by decide)))
      · rw [e2]; rfl
      · rw [e2, ai_sfi, e1, ai_sai]
        by_cases e : k = i
        · rw [if_pos ⟨rfl, by omega⟩, e]
        · rw [if_neg (fun q => e (by omega))]; exact h2 k (by omega)
      · rw [e2, ai_sfi, e1, ai_sai, if_neg (fun q => by omega)]
        exact h3 k (by omega)
  exact ko_BM_carry (sg_BM_carry_0 ha (go N 0 σ (Nat.zero_add _) fr.rf h74 (fun k hk => absurd hk (by omega)) (fun _ _ => rfl)))
theorem k_carryBack {Q : St → Prop} {a N p : Nat} {σ : St} (ha : SH[a]? = some (.inr (0, N, []))) (hN : N ≤ 36) (hp : p + N ≤ 360) (h75 : fi σ 151 75 = 1) (h74 : fi σ 151 74 = nI p) (hne : a ≠ 197) (h : ∀ τ, fr [(151, 74)] [a] σ τ → fi τ 151 74 = nI (p + N) → (∀ k, k < N → ai τ a k = ai σ 197 (p + k)) → Q τ) : K_BM_carry g a σ Q := by
  have go : ∀ (m i : Nat) (τ : St), i + m = N → fr [(151, 74)] [a] σ τ → fi τ 151 74 = nI (p + i) → (∀ k, k < i → ai τ a k = ai σ 197 (p + k)) → S_BM_carry_2 g Q τ a (nI i) := by
    intro m
    induction m with
    | zero =>
      intro i τ hi hf h1 h2
      have e : i = N := by omega
      subst e
      exact sg_BM_carry_2 ha ⟨fun _ => h τ hf h1 h2, fun c => absurd (nI_le (Nat.le_refl _) (by omega)) c⟩
    | succ m ih =>
      intro i τ hi hf h1 h2
      have e75 : fi τ 151 75 = 1 := by rw [(hf.1 151 75 (by decide)).1]; exact h75
      refine sg_BM_carry_2 ha ⟨fun c => absurd c (nI_ge (by omega) (by omega)), fun _ => ⟨fun c => absurd (e75.symm.trans c) (by decide), fun _ => ⟨by rw [h1]; exact vp_in_nI (by omega) (by decide), vp_in_nI (by omega) (by omega), ?_⟩⟩⟩
      rintro s1 e1 s2 e2 u rfl
      rw [h1, nI_clamp (by omega), nI_clamp (by omega), (hf.2 197 (by simp [Ne.symm hne])).1] at e1
      rw [nI_1]
      have e3 : fi s1 151 74 = nI (p + i) := by rw [e1]; exact h1
      rw [e3, nI_1] at e2
      refine ih (i + 1) s2 (by omega) ?_ ?_ (fun k hk => ?_)
      · rw [e2, e1]; exact hf.tr ((fr_sai (by simp)).tr (fr_sfi (by decide)))
      · rw [e2]; rfl
      · rw [e2, ai_sfi, e1, ai_sai]
        by_cases e : k = i
        · rw [if_pos ⟨rfl, e⟩, e]
        · rw [if_neg (fun q => e q.2)]; exact h2 k (by omega)
  exact ko_BM_carry (sg_BM_carry_0 ha (go N 0 σ (Nat.zero_add _) fr.rf h74 (fun k hk => absurd hk (by omega))))
end
section
variable {g : Gx} {σ : St} {d : Dat} {nr : Nat} {Ru : Nat → RuleT}
theorem kM_image {Q : Int32 → St → Prop} {x : Int32} (hs : CurM σ d) (ho : OkD nr d) (h0 : (∀ k, k < 4 → x ≠ nI k) → Q (-1) σ) (h1 : ∀ k, k < 4 → x = nI k → ∀ τ, fr [(151, 74), (151, 75)] [197, 198] σ τ → (∀ j, ai τ 198 j = if j = k then 1 else ai σ 198 j) → ImM τ k d → (∀ j, j < 4 → j ≠ k → ∀ d' nr', OkD nr' d' → ImM σ j d' → ImM τ j d') → Q (vT d) τ) : K_BM_image g x σ Q := by
  refine ko_BM_image (sg_BM_image_0 (k_BM_inR 0 3 (by decide) (by decide) (by decide) (fun k _ hk ek => ⟨fun _ => ?_, fun z => absurd z (by decide)⟩) (fun q => ⟨fun z => absurd rfl z, fun _ => h0 (fun k hk => q k (Nat.zero_le _) (by omega))⟩)))
  subst ek
  refine ⟨vp_in_nI (by omega) (by decide), ?_⟩
  rintro s3 e3
  rw [nar1, nI_clamp (by omega)] at e3
  refine ko_BM_carriesAll (sg_BM_carriesAll_0 ?_)
  rintro s1 e1
  refine ⟨Or.inl rfl, ?_⟩
  rintro s2 e2
  have p90 : (90 : Int32) * nI k = nI (90 * k) := pk_mul 90 k
  rw [p90] at e1
  have f2 : fr [(151, 74), (151, 75)] [197, 198] σ s2 := by
    rw [e2, e1, e3]; exact ((fr_sai (by decide)).tr (fr_sfi (by decide))).tr (fr_sfi (by decide))
  have a74 : fi s2 151 74 = nI (90 * k) := by rw [e2, e1]; rfl
  have a75 : fi s2 151 75 = 0 := by rw [e2]; rfl
  have r197 : ai s2 197 = ai σ 197 := by
    funext j
    rw [e2, ai_sfi, e1, ai_sfi, e3, ai_sai, if_neg (fun z => absurd z.1 (by decide))]
  have r198 : ∀ j, ai s2 198 j = if j = k then 1 else ai σ 198 j := by
    intro j
    rw [e2, ai_sfi, e1, ai_sfi, e3, ai_sai]; simp only [true_and]
  refine k_carryTo sh152 (by decide) (by omega) a75 a74 (by decide) (fun t1 g1 b1 c1 d1 => ?_)
  refine k_carryTo sh153 (by decide) (by omega) (by rw [(g1.1 151 75 (by decide)).1]; exact a75) b1 (by decide) (fun t2 g2 b2 c2 d2 => ?_)
  refine k_carryTo sh154 (by decide) (by omega) (by rw [(g2.1 151 75 (by decide)).1, (g1.1 151 75 (by decide)).1]; exact a75) b2 (by decide) (fun t3 g3 b3 c3 d3 => ?_)
  have g13 := (g1.tr g2).tr g3
  refine k_carryTo sh155 (by decide) (by omega) (by rw [(g13.1 151 75 (by decide)).1]; exact a75) b3 (by decide) (fun t4 g4 b4 c4 d4 => ?_)
  have g14 := g13.tr g4
  refine k_carryTo sh156 (by decide) (by omega) (by rw [(g14.1 151 75 (by decide)).1]; exact a75) b4 (by decide) (fun t5 g5 b5 c5 d5 => ?_)
  have g15 := g14.tr g5
  refine k_carryTo sh157 (by decide) (by omega) (by rw [(g15.1 151 75 (by decide)).1]; exact a75) b5 (by decide) (fun t6 g6 b6 c6 d6 => ?_)
  have g16 := g15.tr g6
  refine k_carryTo sh158 (by decide) (by omega) (by rw [(g16.1 151 75 (by decide)).1]; exact a75) b6 (by decide) (fun t7 g7 b7 c7 d7 => ?_)
  have g17 := g16.tr g7
  have F : fr [(151, 74), (151, 75)] [197, 198] σ t7 := f2.tr (g17.mo (by decide) (by decide))
  refine ⟨pk_in 3 8 (by decide), ?_⟩
  rw [cl3, (F.2 152 (by decide)).1, hs.1.2.2.2.1]
  refine h1 k (by omega) rfl t7 F (fun j => ?_) ?_ (fun j hj hjk d' nr' ho' hI => ?_)
  · rw [(g17.2 198 (by decide)).1]; exact r198 j
  · refine RefS.congr hs ho (fun i hi => ?_) (fun i hi => ?_) (fun i hi => ?_) (fun i hi => ?_) (fun i hi => ?_) (fun i hi => ?_) (fun i hi => ?_)
    · show ai t7 197 (90 * k + i) = _
      rw [d7 _ (by omega), d6 _ (by omega), d5 _ (by omega), d4 _ (by omega), d3 _ (by omega), d2 _ (by omega), c1 i hi, (f2.2 152 (by decide)).1]
    · show ai t7 197 (90 * k + 8 + i) = _
      rw [d7 _ (by omega), d6 _ (by omega), d5 _ (by omega), d4 _ (by omega), d3 _ (by omega), c2 i hi, (g1.2 153 (by decide)).1, (f2.2 153 (by decide)).1]
    · show ai t7 197 (90 * k + 44 + i) = _
      have := c3 i hi
      rw [show 90 * k + 8 + 36 + i = 90 * k + 44 + i by omega] at this
      rw [d7 _ (by omega), d6 _ (by omega), d5 _ (by omega), d4 _ (by omega), this, ((g1.tr g2).2 154 (by decide)).1, (f2.2 154 (by decide)).1]
    · show ai t7 197 (90 * k + 47 + i) = _
      have := c4 i hi
      rw [show 90 * k + 8 + 36 + 3 + i = 90 * k + 47 + i by omega] at this
      rw [d7 _ (by omega), d6 _ (by omega), d5 _ (by omega), this, (g13.2 155 (by decide)).1, (f2.2 155 (by decide)).1]
    · show ai t7 197 (90 * k + 55 + i) = _
      have := c5 i hi
      rw [show 90 * k + 8 + 36 + 3 + 8 + i = 90 * k + 55 + i by omega] at this
      rw [d7 _ (by omega), d6 _ (by omega), this, (g14.2 156 (by decide)).1, (f2.2 156 (by decide)).1]
    · show ai t7 197 (90 * k + 63 + i) = _
      have := c6 i hi
      rw [show 90 * k + 8 + 36 + 3 + 8 + 8 + i = 90 * k + 63 + i by omega] at this
      rw [d7 _ (by omega), this, (g15.2 157 (by decide)).1, (f2.2 157 (by decide)).1]
    · show ai t7 197 (90 * k + 71 + i) = _
      have := c7 i hi
      rw [show 90 * k + 8 + 36 + 3 + 8 + 8 + 8 + i = 90 * k + 71 + i by omega] at this
      rw [this, (g16.2 158 (by decide)).1, (f2.2 158 (by decide)).1]
  · have keep : ∀ i, i < 90 → ai t7 197 (90 * j + i) = ai σ 197 (90 * j + i) := by
      intro i hi
      have hd : j < k ∨ k < j := by omega
      rw [d7 _ (by omega), d6 _ (by omega), d5 _ (by omega), d4 _ (by omega), d3 _ (by omega), d2 _ (by omega), d1 _ (by omega), r197]
    refine RefS.congr hI ho' (fun i hi => ?_) (fun i hi => ?_) (fun i hi => ?_) (fun i hi => ?_) (fun i hi => ?_) (fun i hi => ?_) (fun i hi => ?_)
    · exact keep i (by omega)
    · have := keep (8 + i) (by omega); rw [← Nat.add_assoc] at this; exact this
    · have := keep (44 + i) (by omega); rw [← Nat.add_assoc] at this; exact this
    · have := keep (47 + i) (by omega); rw [← Nat.add_assoc] at this; exact this
    · have := keep (55 + i) (by omega); rw [← Nat.add_assoc] at this; exact this
    · have := keep (63 + i) (by omega); rw [← Nat.add_assoc] at this; exact this
    · have := keep (71 + i) (by omega); rw [← Nat.add_assoc] at this; exact this
theorem kM_back {Q : Int32 → St → Prop} {x : Int32} {D : Nat → Dat} {M : Nat → Prop} (hM : ∀ k, k < 4 → (ai σ 198 k ≠ 0 ↔ M k)) (hD : ∀ k, k < 4 → M k → ImM σ k (D k) ∧ OkD nr (D k)) (h0 : (∀ k, k < 4 → M k → x ≠ nI k) → Q (-1) σ) (h1 : ∀ k, k < 4 → x = nI k → M k → ∀ τ, fr [(151, 74), (151, 75)] [152, 153, 154, 155, 156, 157, 158] σ τ → CurM τ (D k) → Q (vT (D k)) τ) : K_BM_back g x σ Q := by
  refine ko_BM_back (sg_BM_back_0 (k_BM_inR 0 3 (by decide) (by decide) (by decide) (fun k _ hk ek => ⟨fun z => absurd z (by decide), fun _ => ?_⟩) (fun q => ⟨fun _ => h0 (fun k hk _ => q k (Nat.zero_le _) (by omega)), fun z => absurd rfl z⟩)))
  subst ek
  refine ⟨vp_in_nI (by omega) (by decide), ?_⟩
  rw [nI_clamp (by omega)]
  refine ⟨fun q => ?_, fun q => h0 (fun j hj hm e => ?_)⟩
  · have hm := (hM k (by omega)).mp q
    obtain ⟨hI, ho⟩ := hD k (by omega) hm
    refine ko_BM_carriesAll (sg_BM_carriesAll_0 ?_)
    rintro s1 e1
    refine ⟨Or.inr rfl, ?_⟩
    rintro s2 e2
    have p90 : (90 : Int32) * nI k = nI (90 * k) := pk_mul 90 k
    rw [p90] at e1
    have f2 : fr [(151, 74), (151, 75)] [] σ s2 := by
      rw [e2, e1]; exact (fr_sfi (by decide)).tr (fr_sfi (by decide))
    have a74 : fi s2 151 74 = nI (90 * k) := by rw [e2, e1]; rfl
    have a75 : fi s2 151 75 = 1 := by rw [e2]; rfl
    have r197 : ai s2 197 = ai σ 197 := (f2.2 197 (by decide)).1
    refine k_carryBack sh152 (by decide) (by omega) a75 a74 (by decide) (fun t1 g1 b1 c1 => ?_)
    have G1 : fr [(151, 74)] [152, 153, 154, 155, 156, 157, 158] s2 t1 := g1.mo (by decide) (by decide)
    refine k_carryBack sh153 (by decide) (by omega) (by rw [(G1.1 151 75 (by decide)).1]; exact a75) b1 (by decide) (fun t2 g2 b2 c2 => ?_)
    have G2 : fr [(151, 74)] [152, 153, 154, 155, 156, 157, 158] s2 t2 := G1.tr (g2.mo (by decide) (by decide))
    refine k_carryBack sh154 (by decide) (by omega) (by rw [(G2.1 151 75 (by decide)).1]; exact a75) b2 (by decide) (fun t3 g3 b3 c3 => ?_)
    have G3 : fr [(151, 74)] [152, 153, 154, 155, 156, 157, 158] s2 t3 := G2.tr (g3.mo (by decide) (by decide))
    refine k_carryBack sh155 (by decide) (by omega) (by rw [(G3.1 151 75 (by decide)).1]; exact a75) b3 (by decide) (fun t4 g4 b4 c4 => ?_)
    have G4 : fr [(151, 74)] [152, 153, 154, 155, 156, 157, 158] s2 t4 := G3.tr (g4.mo (by decide) (by decide))
    refine k_carryBack sh156 (by decide) (by omega) (by rw [(G4.1 151 75 (by decide)).1]; exact a75) b4 (by decide) (fun t5 g5 b5 c5 => ?_)
    have G5 : fr [(151, 74)] [152, 153, 154, 155, 156, 157, 158] s2 t5 := G4.tr (g5.mo (by decide) (by decide))
    refine k_carryBack sh157 (by decide) (by omega) (by rw [(G5.1 151 75 (by decide)).1]; exact a75) b5 (by decide) (fun t6 g6 b6 c6 => ?_)
    have G6 : fr [(151, 74)] [152, 153, 154, 155, 156, 157, 158] s2 t6 := G5.tr (g6.mo (by decide) (by decide))
    refine k_carryBack sh158 (by decide) (by omega) (by rw [(G6.1 151 75 (by decide)).1]; exact a75) b6 (by decide) (fun t7 g7 b7 c7 => ?_)
    have G7 : fr [(151, 74)] [152, 153, 154, 155, 156, 157, 158] s2 t7 := G6.tr (g7.mo (by decide) (by decide))
    have hC : CurM t7 (D k) := by
      refine RefS.congr hI ho (fun i hi => ?_) (fun i hi => ?_) (fun i hi => ?_) (fun i hi => ?_) (fun i hi => ?_) (fun i hi => ?_) (fun i hi => ?_)
      · show ai t7 152 i = ai σ 197 (90 * k + i)
        rw [(g7.2 152 (by decide)).1, (g6.2 152 (by decide)).1, (g5.2 152 (by decide)).1, (g4.2 152 (by decide)).1, (g3.2 152 (by decide)).1, (g2.2 152 (by decide)).1, c1 i hi, r197]
      · show ai t7 153 i = ai σ 197 (90 * k + 8 + i)
        rw [(g7.2 153 (by decide)).1, (g6.2 153 (by decide)).1, (g5.2 153 (by decide)).1, (g4.2 153 (by decide)).1, (g3.2 153 (by decide)).1, c2 i hi, (G1.2 197 (by decide)).1, r197]
      · show ai t7 154 i = ai σ 197 (90 * k + 44 + i)
        rw [(g7.2 154 (by decide)).1, (g6.2 154 (by decide)).1, (g5.2 154 (by decide)).1, (g4.2 154 (by decide)).1, c3 i hi, (G2.2 197 (by decide)).1, r197]
      · show ai t7 155 i = ai σ 197 (90 * k + 47 + i)
        rw [(g7.2 155 (by decide)).1, (g6.2 155 (by decide)).1, (g5.2 155 (by decide)).1, c4 i hi, (G3.2 197 (by decide)).1, r197]
      · show ai t7 156 i = ai σ 197 (90 * k + 55 + i)
        rw [(g7.2 156 (by decide)).1, (g6.2 156 (by decide)).1, c5 i hi, (G4.2 197 (by decide)).1, r197]
      · show ai t7 157 i = ai σ 197 (90 * k + 63 + i)
        rw [(g7.2 157 (by decide)).1, c6 i hi, (G5.2 197 (by decide)).1, r197]
      · show ai t7 158 i = ai σ 197 (90 * k + 71 + i)
        rw [c7 i hi, (G6.2 197 (by decide)).1, r197]
    refine ⟨pk_in 3 8 (by decide), ?_⟩
    rw [cl3, hC.1.2.2.2.1]
    exact h1 k (by omega) rfl hm t7 ((f2.mo (by decide) (by decide)).tr (G7.mo (by decide) (by decide))) hC
  · have e1 := (nI_eq (by omega) (by omega)).mp e
    subst e1
    exact (hM k hj).mpr hm q
-- the class
theorem im_sa {k : Nat} (hk : k < 4) : isSA (91 + 5 * k) := by
  rcases (show k = 0 ∨ k = 1 ∨ k = 2 ∨ k = 3 by omega) with rfl | rfl | rfl | rfl
  · exact sa_91
  · exact sa_96
  · exact sa_101
  · exact sa_106
theorem kB_image {Q : Int32 → St → Prop} {x : Int32} (hs : ClsS 83 σ d) (ho : OkD nr d) (h0 : (∀ k, k < 4 → x ≠ nI k) → Q (-1) σ) (h1 : ∀ k t, k < 4 → t = 91 + 5 * k → x = nI k → ∀ τ, fr [(t, 0), (t, 1), (t, 2), (t, 3), (t, 4), (t, 5), (t, 6), (t, 7), (t, 8), (t, 9), (t, 10)] [t + 1, t + 2, t + 3, t + 4] σ τ → fi τ t 0 = 1 → ClsS t τ d → Q (vT d) τ) : K_BB_image g x σ Q := by
  refine ko_BB_image (sg_BB_image_0 ⟨fun q => h0 (fun k hk => rg_neg q (by omega)), fun q => ⟨fun q2 => ?_, fun q2 => h0 (fun k hk e => q2 (by rw [e]; exact nI_lt (b := 4) hk (by decide)))⟩⟩)
  obtain ⟨k, hk31, rfl⟩ := nI_of q
  have hk : k < 4 := (nI_ltI (b := 4) hk31 (by decide)).mp q2
  refine ⟨vp_in_nI hk (by decide), ?_⟩
  rw [nI_clamp hk31]
  rintro t et hsa
  have hne : t ≠ 83 := by omega
  refine k_SA_takeOver hsa sa_83 hne hs ho (fun τ hf hc => ⟨vp_in_nI hk (by decide), ?_⟩)
  rintro t' et' -
  have tt : t' = t := by omega
  subst tt
  rintro s4 e4
  have f4 : fr [(t', 0)] [] τ s4 := by rw [e4]; exact fr_sfi (by simp)
  have v6 : fi s4 83 6 = vT d := by
    rw [(f4.1 83 6 (by simp <;> omega)).1, (hf.1 83 6 (by simp <;> omega)).1]; exact hs.2.2.2.1
  rw [v6]
  refine h1 k t' hk et rfl s4 ((hf.mo (by simp) (by simp)).tr (f4.mo (by simp) (by simp))) (by rw [e4, fi_sfi, if_pos ⟨rfl, rfl⟩]) ?_
  obtain ⟨s1, s2, s3, s4', s5, s6, s7, s8, s9, s10⟩ := hc
  refine ⟨?_, s2.fr f4 (by simp) (by simp) (by simp) (by simp) (by simp), ?_, ?_, ?_, fun i hi => ?_, ?_, fun i hi => ?_, ?_, ?_⟩
  · rw [(f4.1 t' 1 (by simp)).1]; exact s1
  · rw [(f4.1 t' 5 (by simp)).1]; exact s3
  · rw [(f4.1 t' 6 (by simp)).1]; exact s4'
  · rw [(f4.1 t' 7 (by simp)).1]; exact s5
  · rw [(f4.2 (t' + 3) (by simp)).1]; exact s6 i hi
  · rw [(f4.1 t' 8 (by simp)).1]; exact s7
  · rw [(f4.2 (t' + 4) (by simp)).1]; exact s8 i hi
  · rw [(f4.1 t' 9 (by simp)).1]; exact s9
  · rw [(f4.1 t' 10 (by simp)).1]; exact s10
theorem kB_back {Q : Int32 → St → Prop} {x : Int32} {D : Nat → Dat} {M : Nat → Prop} (hM : ∀ k, k < 4 → (fi σ (91 + 5 * k) 0 ≠ 0 ↔ M k)) (hD : ∀ k, k < 4 → M k → ClsS (91 + 5 * k) σ (D k) ∧ OkD nr (D k)) (h0 : (∀ k, k < 4 → M k → x ≠ nI k) → Q (-1) σ) (h1 : ∀ k, k < 4 → x = nI k → M k → ∀ τ, fr [(0, 14), (83, 1), (83, 2), (83, 3), (83, 4), (83, 5), (83, 6), (83, 7), (83, 8), (83, 9), (83, 10)] [84, 85, 86, 87] σ τ → fi τ 0 14 = fi σ 0 14 + 1 → ClsS 83 τ (D k) → Q (vT (D k)) τ) : K_BB_back g x σ Q := by
  refine ko_BB_back (sg_BB_back_0 ⟨fun q => h0 (fun k hk _ => rg_neg q (by omega)), fun q => ⟨fun q2 => h0 (fun k hk _ e => absurd q2 (by rw [e]; exact nI_ge (b := 4) hk (by decide))), fun q2 => ?_⟩⟩)
  obtain ⟨k, hk31, rfl⟩ := nI_of q
  have hk : k < 4 := Nat.not_le.mp (fun w => q2 (nI_le (a := 4) w hk31))
  refine ⟨vp_in_nI hk (by decide), ?_⟩
  rw [nI_clamp hk31]
  rintro t et hsa
  subst et
  refine ⟨fun q3 => ⟨vp_in_nI hk (by decide), ?_⟩, fun q3 => h0 (fun j hj hm e => ?_)⟩
  · rintro t' et' -
    subst et'
    have hm := (hM k hk).mp q3
    obtain ⟨hI, ho⟩ := hD k hk hm
    refine k_SA_takeOver sa_83 hsa (by omega) hI ho (fun τ hf hc => ?_)
    rintro s4 e4
    have f4 : fr [(0, 14)] [] τ s4 := by rw [e4]; exact fr_sfi (by simp)
    have hc4 : ClsS 83 s4 (D k) := by
      obtain ⟨s1, s2, s3, s4', s5, s6, s7, s8, s9, s10⟩ := hc
      refine ⟨?_, s2.fr f4 (by decide) (by decide) (by decide) (by decide) (by decide), ?_, ?_, ?_, fun i hi => ?_, ?_, fun i hi => ?_, ?_, ?_⟩
      · rw [(f4.1 83 1 (by decide)).1]; exact s1
      · rw [(f4.1 83 5 (by decide)).1]; exact s3
      · rw [(f4.1 83 6 (by decide)).1]; exact s4'
      · rw [(f4.1 83 7 (by decide)).1]; exact s5
      · rw [(f4.2 86 (by decide)).1]; exact s6 i hi
      · rw [(f4.1 83 8 (by decide)).1]; exact s7
      · rw [(f4.2 87 (by decide)).1]; exact s8 i hi
      · rw [(f4.1 83 9 (by decide)).1]; exact s9
      · rw [(f4.1 83 10 (by decide)).1]; exact s10
    rw [hc4.2.2.2.1]
    refine h1 k hk rfl hm s4 ((hf.mo (by decide) (by decide)).tr (f4.mo (by decide) (by decide))) ?_ hc4
    rw [e4, fi_sfi, if_pos ⟨rfl, rfl⟩, (hf.1 0 14 (by decide)).1]
  · have e1 := (nI_eq hk31 (by omega)).mp e
    subst e1
    exact (hM k hk).mpr hm q3
end
