-- sound, pain, seed, press, count
section
variable {g : Gx} {σ : St} {d : Dat} {nr : Nat} {Ru : Nat → RuleT}
def sndOk (d : Dat) (w a b : Nat) : Prop := w < 4 ∧ a ≤ 3 ∧ b ≤ 3 ∧ a + b ≤ 3 ∧ vC d ≠ 0 ∧ vm d < 8
def sndD (d : Dat) (w a b : Nat) : Dat := dS d (vm d + 1) (upP (vsd d) (vm d) (16 * w + (a + 4 * b)))
theorem okD_sound {w a b : Nat} (ho : OkD nr d) (h : sndOk d w a b) : OkD nr (sndD d w a b) := by
  obtain ⟨o1, o2, o3, o4, o5, o6, o7, o8, o9⟩ := id ho
  obtain ⟨h1, h2, h3, h4, h5, h6⟩ := h
  refine ⟨o1, o2, o3, o4, o5, o6, by show vm d + 1 ≤ 8; omega, fun k hk => ?_, o9⟩
  have hk : k < vm d + 1 := hk
  show upP (vsd d) (vm d) (16 * w + (a + 4 * b)) k < 64
  by_cases e : k = vm d
  · rw [e, upP_same]; omega
  · rw [upP_ne e]; exact o8 k (by omega)
theorem okD_sound0 (ho : OkD nr d) : OkD nr (dS d 0 (vsd d)) := by
  obtain ⟨o1, o2, o3, o4, o5, o6, o7, o8, o9⟩ := id ho
  exact ⟨o1, o2, o3, o4, o5, o6, Nat.zero_le _, fun k hk => absurd hk (Nat.not_lt_zero _), o9⟩
theorem in3 {x : Int32} (h1 : ¬ x < 0) (h2 : ¬ 3 < x) : ∃ a, a ≤ 3 ∧ x = nI a := by
  obtain ⟨w, hw, e⟩ := way_of (fun z => z.elim h1 h2)
  exact ⟨w, by omega, e⟩
theorem kB_sound {Q : Int32 → St → Prop} {x y z : Int32} (hs : ClsS 83 σ d) (ho : OkD nr d) (hc : x = -1 → ∀ τ, fr [(0, 14), (83, 8)] [] σ τ → fi τ 0 14 = fi σ 0 14 + 1 → ClsS 83 τ (dS d 0 (vsd d)) → Q 0 τ) (h0 : x ≠ -1 → (∀ w a b, sndOk d w a b → x = nI w → y = nI a → z = nI b → False) → Q (-2) σ) (h1 : ∀ w a b, sndOk d w a b → x = nI w → y = nI a → z = nI b → ∀ τ, fr [(0, 14), (83, 8)] [87] σ τ → fi τ 0 14 = fi σ 0 14 + 1 → ClsS 83 τ (sndD d w a b) → Q (nI (vm d + 1)) τ) : K_BB_sound g x y z σ Q := by
  have e8 : fi σ 83 8 = nI (vm d) := hs.2.2.2.2.2.2.1
  have hm8 := ho.2.2.2.2.2.2.1
  refine ko_BB_sound (sg_BB_sound_0 ⟨fun hx => ?_, fun hx => ?_⟩)
  · have bad : (∀ a b, a ≤ 3 → b ≤ 3 → a + b ≤ 3 → y = nI a → z = nI b → False) → S_BB_sound_55 g Q σ x y z 0 := by
      intro hn
      have hn' : ∀ w a b, sndOk d w a b → x = nI w → y = nI a → z = nI b → False := fun w a b hk _ ea eb => hn a b hk.2.1 hk.2.2.1 hk.2.2.2.1 ea eb
      exact sg_BB_sound_55 ⟨fun _ => h0 hx hn', fun _ => k_BB_isWay ⟨fun _ => h0 hx hn', fun _ => ⟨fun _ => h0 hx hn', fun w => absurd rfl w⟩⟩⟩
    have n0 : ∀ {y : Int32}, y < 0 → ∀ a, a ≤ 3 → y ≠ nI a := fun q a ha => rg_neg q (by omega)
    have n3 : ∀ {y : Int32}, (3 : Int32) < y → ∀ a, a ≤ 3 → y ≠ nI a := fun q a ha => rg_big (hi := 3) q (by decide) ha
    refine ⟨fun q => bad (fun a b ha _ _ e _ => n0 q a ha e), fun q1 => ⟨fun q => bad (fun a b ha _ _ e _ => n3 q a ha e), fun q2 => ⟨fun q => bad (fun a b _ hb _ _ e => n0 q b hb e), fun q3 => ⟨fun q => bad (fun a b _ hb _ _ e => n3 q b hb e), fun q4 => ?_⟩⟩⟩⟩
    obtain ⟨a, ha, rfl⟩ := in3 q1 q2
    obtain ⟨b, hb, rfl⟩ := in3 q3 q4
    rw [nI_add]
    refine ⟨fun q => bad (fun a' b' ha' hb' hs ea eb => ?_), fun q => ?_⟩
    · have e1 := (nI_eq (by omega) (by omega)).mp ea
      have e2 := (nI_eq (by omega) (by omega)).mp eb
      subst e1 e2
      exact nI_nlt (a := 3) hs (by decide) q
    · have hab : a + b ≤ 3 := Nat.not_lt.mp (fun w => q (nI_lt (a := 3) w (by omega)))
      have un : ∀ {w : Nat}, ¬ sndOk d w a b → x = nI w → w < 2 ^ 31 → ∀ w' a' b', sndOk d w' a' b' → x = nI w' → nI a = nI a' → nI b = nI b' → False := by
        intro w hn ew hw w' a' b' hk ew' ea eb
        have k1 := hk.1
        have k2 := hk.2.1
        have k3 := hk.2.2.1
        have e1 := (nI_eq (by omega) (by omega)).mp ea
        have e2 := (nI_eq (by omega) (by omega)).mp eb
        have e3 := (nI_eq hw (by omega)).mp (ew.symm.trans ew')
        subst e1 e2 e3
        exact hn hk
      refine sg_BB_sound_55 ⟨fun q5 => h0 hx (fun w a b hk _ _ _ => hk.2.2.2.2.1 (hs.box.mp q5)), fun q5 => k_BB_isWay ?_⟩
      by_cases hw : x < 0 ∨ 3 < x
      · rw [if_pos hw]
        refine ⟨fun _ => h0 hx (fun w a b hk ew _ _ => ?_), fun w => absurd rfl w⟩
        rcases hw with hw | hw
        · exact n0 hw w (by have := hk.1; omega) ew
        · exact n3 hw w (by have := hk.1; omega) ew
      · rw [if_neg hw]
        obtain ⟨w, hw4, rfl⟩ := way_of hw
        refine ⟨fun z => absurd z (by decide), fun _ => ⟨fun z => absurd z (by decide), fun _ => ?_⟩⟩
        rw [e8]
        refine pk_lt (vm d) 8 (fun hm => ?_) (fun hm => h0 hx (un (w := w) (fun hk => by have := hk.2.2.2.2.2; omega) rfl (by omega)))
        refine k_LI_packed ⟨vp_in_nI hm (by decide), ?_⟩
        have ep : 16 * nI w + ((nI a &&& 3) + 4 * (nI b &&& 3)) = nI (16 * w + (a + 4 * b)) := by
          rw [pk_andN (n := a) (by omega) (m := 3) 2 rfl, pk_andN (n := b) (by omega) (m := 3) 2 rfl, show a % 2 ^ 2 = a by omega, show b % 2 ^ 2 = b by omega]
          show nI 16 * nI w + (nI a + nI 4 * nI b) = _
          rw [pk_mul, pk_mul, nI_add, nI_add]
        rw [ep]
        rintro s5 e5 s6 e6 s7 e7
        rw [nI_clamp (by omega)] at e5
        have a1 : fi s5 83 8 = nI (vm d) := by rw [e5]; exact e8
        have f7 : fr [(0, 14), (83, 8)] [87] σ s7 := by
          rw [e7, e6, e5]; exact ((fr_sai (by decide)).tr (fr_sfi (by decide))).tr (fr_sfi (by decide))
        have a8 : fi s7 83 8 = nI (vm d + 1) := by
          rw [e7, fi_sfi, if_neg (by decide), e6, fi_sfi, if_pos ⟨rfl, rfl⟩, a1, nI_1]
        rw [a8]
        refine h1 w a b ⟨hw4, ha, hb, hab, fun z => q5 (hs.box.mpr z), hm⟩ rfl rfl rfl s7 f7 ?_ ?_
        · rw [e7, fi_sfi, if_pos ⟨rfl, rfl⟩, e6, fi_sfi, if_neg (by decide), e5]; rfl
        · obtain ⟨s1, s2, s3, s4, s5', s6', s7', s8', s9, s10⟩ := hs
          refine ⟨?_, s2.fr f7 (by decide) (by decide) (by decide) (by decide) (by decide), ?_, ?_, ?_, fun k hk => ?_, a8, fun k hk => ?_, ?_, ?_⟩
          · rw [(f7.1 83 1 (by decide)).1]; exact s1
          · rw [(f7.1 83 5 (by decide)).1]; exact s3
          · rw [(f7.1 83 6 (by decide)).1]; exact s4
          · rw [(f7.1 83 7 (by decide)).1]; exact s5'
          · rw [(f7.2 86 (by decide)).1]; exact s6' k hk
          · have hk : k < vm d + 1 := hk
            show ai s7 87 k = nI (upP (vsd d) (vm d) (16 * w + (a + 4 * b)) k)
            rw [e7, ai_sfi, e6, ai_sfi, e5, ai_sai]
            by_cases e : k = vm d
            · rw [if_pos ⟨rfl, e⟩, e, upP_same]
            · rw [if_neg (fun z => e z.2), upP_ne e]; exact s8' k (by omega)
          · rw [(f7.1 83 9 (by decide)).1]; exact s9
          · rw [(f7.1 83 10 (by decide)).1]; exact s10
  · rintro s1 e1 s2 e2
    have f2 : fr [(0, 14), (83, 8)] [] σ s2 := by rw [e2, e1]; exact (fr_sfi (by decide)).tr (fr_sfi (by decide))
    refine hc hx s2 f2 (by rw [e2, e1]; rfl) ?_
    obtain ⟨s1, s2', s3, s4, s5', s6', s7', s8', s9, s10⟩ := hs
    refine ⟨?_, s2'.fr f2 (by decide) (by decide) (by decide) (by decide) (by decide), ?_, ?_, ?_, fun k hk => ?_, ?_, fun k hk => absurd hk (Nat.not_lt_zero _), ?_, ?_⟩
    · rw [(f2.1 83 1 (by decide)).1]; exact s1
    · rw [(f2.1 83 5 (by decide)).1]; exact s3
    · rw [(f2.1 83 6 (by decide)).1]; exact s4
    · rw [(f2.1 83 7 (by decide)).1]; exact s5'
    · rw [(f2.2 86 (by decide)).1]; exact s6' k hk
    · rw [e2, e1]; rfl
    · rw [(f2.1 83 9 (by decide)).1]; exact s9
    · rw [(f2.1 83 10 (by decide)).1]; exact s10
theorem kM_sound {Q : Int32 → St → Prop} {x y z : Int32} (hs : CurM σ d) (ho : OkD nr d) (hc : x = -1 → ∀ τ, fr [] [152] σ τ → CurM τ (dS d 0 (vsd d)) → Q 0 τ) (h0 : x ≠ -1 → (∀ w a b, sndOk d w a b → x = nI w → y = nI a → z = nI b → False) → Q (-2) σ) (h1 : ∀ w a b, sndOk d w a b → x = nI w → y = nI a → z = nI b → ∀ τ, fr [] [152, 156, 157, 158] σ τ → CurM τ (sndD d w a b) → Q (nI (vm d + 1)) τ) : K_BM_sound g x y z σ Q := by
  have e5 : ai σ 152 5 = nI (vm d) := hs.1.2.2.2.2.2.1
  have hm8 := ho.2.2.2.2.2.2.1
  refine ko_BM_sound (sg_BM_sound_0 ⟨fun hx => ⟨pk_in 5 8 (by decide), ?_⟩, fun hx => ⟨pk_in 5 8 (by decide), ?_⟩⟩)
  · rintro u1 rfl
    rw [cl5, e5]
    refine kM_box hs ho (fun q => ⟨fun _ => h0 hx (fun w a b hk _ _ _ => hk.2.2.2.2.1 q), fun w => absurd rfl w⟩) (fun q => ⟨fun w => absurd w (by decide), fun _ => ?_⟩)
    refine pk_eq (vm d) 8 (fun hm => h0 hx (fun w a b hk _ _ _ => by have := hk.2.2.2.2.2; omega)) (fun hm => ?_)
    refine k_BM_inR 0 3 (by decide) (by decide) (by decide) (fun w _ hw ew => ⟨fun z => absurd z (by decide), fun _ => ?_⟩) (fun q2 => ⟨fun _ => h0 hx (fun w a b hk e _ _ => q2 w (Nat.zero_le _) (by have := hk.1; omega) e), fun w => absurd rfl w⟩)
    refine k_BM_inR 0 3 (by decide) (by decide) (by decide) (fun a _ ha ea => ⟨fun z => absurd z (by decide), fun _ => ?_⟩) (fun q2 => ⟨fun _ => h0 hx (fun w a b hk _ e _ => q2 a (Nat.zero_le _) hk.2.1 e), fun w => absurd rfl w⟩)
    refine k_BM_inR 0 3 (by decide) (by decide) (by decide) (fun b _ hb eb => ⟨fun z => absurd z (by decide), fun _ => ?_⟩) (fun q2 => ⟨fun _ => h0 hx (fun w a b hk _ _ e => q2 b (Nat.zero_le _) hk.2.2.1 e), fun w => absurd rfl w⟩)
    subst ew ea eb
    rw [nI_add]
    refine pk_le (a + b) 3 (fun hab => ?_) (fun hab => h0 hx (fun w' a' b' hk _ ea eb => ?_))
    · have hin : vp_in (nI (vm d)) 8 := vp_in_nI (by omega) (by decide)
      refine ⟨hin, ?_⟩
      rintro s10 e10
      refine ⟨hin, ?_⟩
      rintro s11 e11
      refine ⟨hin, ?_⟩
      rintro s12 e12
      refine ⟨pk_in 5 8 (by decide), pk_in 5 8 (by decide), ?_⟩
      rintro s13 e13
      rw [nI_clamp (by omega)] at e10 e11 e12
      have a5 : ai s12 152 5 = nI (vm d) := by rw [e12, ai_sai, if_neg (fun z => absurd z.1 (by decide)), e11, ai_sai, if_neg (fun z => absurd z.1 (by decide)), e10, ai_sai, if_neg (fun z => absurd z.1 (by decide))]; exact e5
      rw [a5, nI_1] at e13
      have f13 : fr [] [152, 156, 157, 158] σ s13 := by
        rw [e13, e12, e11, e10]; exact (((fr_sai (by decide)).tr (fr_sai (by decide))).tr (fr_sai (by decide))).tr (fr_sai (by decide))
      rw [nI_1]
      refine h1 w a b ⟨by omega, ha, hb, hab, q, by omega⟩ rfl rfl rfl s13 f13 ?_
      obtain ⟨⟨c0, c1, c2, c3, c4, c5, c6, c7⟩, a2, a3, a4, a5'⟩ := hs
      have o152 : ∀ k, k ≠ 5 → ai s13 152 k = ai σ 152 k := by
        intro k hk
        rw [e13, ai_sai, if_neg (fun z => hk z.2), e12, ai_sai, if_neg (fun z => absurd z.1 (by decide)), e11, ai_sai, if_neg (fun z => absurd z.1 (by decide)), e10, ai_sai, if_neg (fun z => absurd z.1 (by decide))]
      have r156 : ∀ k, ai s13 156 k = if k = vm d then nI w else ai σ 156 k := by
        intro k
        rw [e13, ai_sai, if_neg (fun z => absurd z.1 (by decide)), e12, ai_sai, if_neg (fun z => absurd z.1 (by decide)), e11, ai_sai, if_neg (fun z => absurd z.1 (by decide)), e10, ai_sai]
        simp only [true_and]
      have r157 : ∀ k, ai s13 157 k = if k = vm d then nI a else ai σ 157 k := by
        intro k
        rw [e13, ai_sai, if_neg (fun z => absurd z.1 (by decide)), e12, ai_sai, if_neg (fun z => absurd z.1 (by decide)), e11, ai_sai, e10, ai_sai, if_neg (c := 157 = 156 ∧ _) (fun z => absurd z.1 (by decide))]
        simp only [true_and]
      have r158 : ∀ k, ai s13 158 k = if k = vm d then nI b else ai σ 158 k := by
        intro k
        rw [e13, ai_sai, if_neg (fun z => absurd z.1 (by decide)), e12, ai_sai, e11, ai_sai, if_neg (c := 158 = 157 ∧ _) (fun z => absurd z.1 (by decide)), e10, ai_sai, if_neg (c := 158 = 156 ∧ _) (fun z => absurd z.1 (by decide))]
        simp only [true_and]
      refine ⟨⟨?_, ?_, ?_, ?_, ?_, ?_, ?_, ?_⟩, ?_, ?_, ?_, fun k hk => ?_⟩
      · rw [o152 0 (by decide)]; exact c0
      · rw [o152 1 (by decide)]; exact c1
      · rw [o152 2 (by decide)]; exact c2
      · rw [o152 3 (by decide)]; exact c3
      · rw [o152 4 (by decide)]; exact c4
      · rw [e13, ai_sai, if_pos ⟨rfl, rfl⟩]; rfl
      · rw [o152 6 (by decide)]; exact c6
      · rw [o152 7 (by decide)]; exact c7
      · rw [(f13.2 153 (by decide)).1]; exact a2
      · rw [(f13.2 154 (by decide)).1]; exact a3
      · rw [(f13.2 155 (by decide)).1]; exact a4
      · have hk : k < vm d + 1 := hk
        show ai s13 156 k = nI (upP (vsd d) (vm d) (16 * w + (a + 4 * b)) k / 16) ∧ ai s13 157 k = nI (upP (vsd d) (vm d) (16 * w + (a + 4 * b)) k % 4) ∧ ai s13 158 k = nI (upP (vsd d) (vm d) (16 * w + (a + 4 * b)) k / 4 % 4)
        rw [r156, r157, r158]
        by_cases e : k = vm d
        · rw [if_pos e, if_pos e, if_pos e, e, upP_same, show (16 * w + (a + 4 * b)) / 16 = w by omega, show (16 * w + (a + 4 * b)) % 4 = a by omega, show (16 * w + (a + 4 * b)) / 4 % 4 = b by omega]
          exact ⟨rfl, rfl, rfl⟩
        · rw [if_neg e, if_neg e, if_neg e, upP_ne e]; exact a5' k (by omega)
    · have k2 := hk.2.1
      have k3 := hk.2.2.1
      have k4 := hk.2.2.2.1
      have e1 := (nI_eq (by omega) (by omega)).mp ea
      have e2 := (nI_eq (by omega) (by omega)).mp eb
      omega
  · rintro s e
    rw [cl5] at e
    have f1 : fr [] [152] σ s := by rw [e]; exact fr_sai (by decide)
    refine hc hx s f1 ?_
    obtain ⟨⟨c0, c1, c2, c3, c4, c5, c6, c7⟩, a2, a3, a4, a5'⟩ := hs
    have o152 : ∀ k, k ≠ 5 → ai s 152 k = ai σ 152 k := by
      intro k hk
      rw [e, ai_sai, if_neg (fun z => hk z.2)]
    refine ⟨⟨?_, ?_, ?_, ?_, ?_, ?_, ?_, ?_⟩, ?_, ?_, ?_, fun k hk => absurd hk (Nat.not_lt_zero _)⟩
    · rw [o152 0 (by decide)]; exact c0
    · rw [o152 1 (by decide)]; exact c1
    · rw [o152 2 (by decide)]; exact c2
    · rw [o152 3 (by decide)]; exact c3
    · rw [o152 4 (by decide)]; exact c4
    · rw [e, ai_sai, if_pos ⟨rfl, rfl⟩]; rfl
    · rw [o152 6 (by decide)]; exact c6
    · rw [o152 7 (by decide)]; exact c7
    · rw [(f1.2 153 (by decide)).1]; exact a2
    · rw [(f1.2 154 (by decide)).1]; exact a3
    · rw [(f1.2 155 (by decide)).1]; exact a4
-- pain
theorem kB_pain {Q : Int32 → St → Prop} {x : Int32} {n : Nat} (hn : n ≤ 8) (h13 : fi σ 0 13 = nI n) (h0 : (∀ k, k < n → x ≠ nI k) → Q (-1) σ) (h1 : ∀ k, k < n → x = nI k → Q (ai σ 90 k) σ) : K_BB_pain g x σ Q := by
  refine ko_BB_pain (sg_BB_pain_0 ⟨fun q => h0 (fun k hk => rg_neg q (by omega)), fun q => ?_⟩)
  obtain ⟨k, hk31, rfl⟩ := nI_of q
  rw [h13]
  refine pk_lt k n (fun hk => ⟨vp_in_nI (by omega) (by decide), ?_⟩) (fun hk => h0 (fun j hj e => ?_))
  · rw [nI_clamp hk31]; exact h1 k hk rfl
  · have := (nI_eq hk31 (by omega)).mp e; omega
theorem kM_pain {Q : Int32 → St → Prop} {x : Int32} {n : Nat} (hn : n ≤ 8) (h66 : fi σ 151 66 = nI n) (h0 : (∀ k, k < n → x ≠ nI k) → Q (-1) σ) (h1 : ∀ k, k < n → x = nI k → Q (ai σ 196 k) σ) : K_BM_pain g x σ Q := by
  refine ko_BM_pain (sg_BM_pain_0 ?_)
  rw [h66]
  refine k_BM_in ?_
  have e := in_iff (x := x) (C := n) (by omega)
  by_cases q : (0 : Int64) ≤ x.toInt64 ∧ x.toInt64 ≤ (nI n - 1).toInt64
  · rw [if_pos q]
    obtain ⟨k, hk, rfl⟩ := e.mp q
    refine ⟨fun z => absurd z (by decide), fun _ => ⟨vp_in_nI (by omega) (by decide), ?_⟩⟩
    rw [nI_clamp (by omega)]; exact h1 k hk rfl
  · rw [if_neg q]
    exact ⟨fun _ => h0 (fun b hb z => q (e.mpr ⟨b, hb, z⟩)), fun z => absurd rfl z⟩
end
