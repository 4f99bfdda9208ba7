-- the reference: findsFits
theorem sh185 : SH[185]? = some (.inr (0, 3, [])) := by decide +kernel
theorem sh188 : SH[188]? = some (.inr (0, 3, [])) := by decide +kernel
theorem dg_un {a b c a' b' c' : Nat} (h : 16 * a + 4 * b + c = 16 * a' + 4 * b' + c') (hb : b < 4) (hc : c < 4) (hb' : b' < 4) (hc' : c' < 4) : a = a' ∧ b = b' ∧ c = c' := by
  have h1 : a = a' := by omega
  subst h1
  have h2 : b = b' := by omega
  subst h2
  exact ⟨rfl, rfl, by omega⟩
def MiR (σ : St) (B : Nat) (st : LSt) : Prop := fi σ 151 60 = nI st.1 ∧ (st.1 ≠ 0 → ∀ b, b < B → ai σ 185 b = nI (st.2.1 b)) ∧ (∀ b k, b < B → k < 64 → sbit (aj σ 187 b) k = st.2.2.1 b k) ∧ ∀ w h f, w < 4 → h < 4 → f < 4 → ai σ 186 (16 * w + 4 * h + f) = nI (st.2.2.2 (16 * w + h + 4 * f))
theorem MiR.fr {σ τ : St} {B : Nat} {st : LSt} {F : List (Nat × Nat)} {M : List Nat} (h : MiR σ B st) (hf : fr F M σ τ) (h6 : (151, 60) ∉ F) (m1 : 185 ∉ M) (m2 : 186 ∉ M) (m3 : 187 ∉ M) : MiR τ B st := by
  unfold MiR at h ⊢
  rw [(hf.1 _ _ h6).1, (hf.2 _ m1).1, (hf.2 _ m2).1, (hf.2 _ m3).2]
  exact h
section
variable {g : Gx} {σ : St} {c : Cfg} {P : Nat → Nat}
theorem lay_self {Q : St → Prop} {a N : Nat} (ha : SH[a]? = some (.inr (0, N, []))) (hN : N < 2 ^ 31) (h : ∀ τ, fr [] [a] σ τ → (∀ k, ai τ a k = ai σ a k) → Q τ) : K_BM_lay g a a σ Q := by
  have go : ∀ (m i : Nat) (τ : St), i + m = N → fr [] [a] σ τ → (∀ k, ai τ a k = ai σ a k) → S_BM_lay_2 g Q τ a a (nI i) := by
    intro m
    induction m with
    | zero =>
      intro i τ hi hf h1
      have e : i = N := by omega
      subst e
      exact sg_BM_lay_2 ha ha ⟨fun _ => h τ hf h1, fun c => absurd (nI_le (Nat.le_refl _) (by omega)) c⟩
    | succ m ih =>
      intro i τ hi hf h1
      refine sg_BM_lay_2 ha ha ⟨fun c => absurd c (nI_ge (by omega) (by omega)), fun _ => ⟨vp_in_nI (by omega) (by omega), vp_in_nI (by omega) hN, ?_⟩⟩
      rintro s1 rfl u rfl
      rw [nI_clamp (by omega), nI_1]
      refine ih (i + 1) _ (by omega) (hf.tr (fr_sai (by simp))) (fun k => ?_)
      rw [ai_sai]
      by_cases e : k = i
      · rw [if_pos ⟨rfl, e⟩, e]; exact h1 i
      · rw [if_neg (fun q => e q.2)]; exact h1 k
  exact ko_BM_lay (sg_BM_lay_0 ha ha (go N 0 σ (Nat.zero_add _) fr.rf (fun _ => rfl)))
theorem k_BM_sounds {Q : Int32 → St → Prop} {m : Nat} {sd : Nat → Nat} (hr : RefT σ c P) (h5 : ai σ 152 5 = nI m) (hm : m ≤ 8) (hsd : ∀ k, k < m → sd k < 64 ∧ ai σ 156 k = nI (sd k / 16) ∧ ai σ 157 k = nI (sd k % 4) ∧ ai σ 158 k = nI (sd k / 4 % 4))
    (h1 : ∀ N, sndF c sd P m = some N → ∀ τ, fr [(151, 32), (151, 35), (151, 36)] [154, 170, 171, 172, 173] σ τ → RefT τ c N → Q 1 τ) (h0 : sndF c sd P m = none → ∀ τ N, fr [(151, 32), (151, 35), (151, 36)] [154, 170, 171, 172, 173] σ τ → RefT τ c N → Q 0 τ) : K_BM_sounds g σ Q := by
  have none_all : ∀ j i, sndF c sd P i = none → sndF c sd P (i + j) = none := by
    intro j
    induction j with
    | zero => intro i h; exact h
    | succ j ih => intro i h; show (match sndF c sd P (i + j) with | none => none | some Q => _) = none; rw [ih i h]
  have bad : ∀ (i : Nat) (N : Nat → Nat) (τ : St), i ≤ m → sndF c sd P i = none → fr [(151, 32), (151, 35), (151, 36)] [154, 170, 171, 172, 173] σ τ → RefT τ c N → S_BM_sounds_4 g Q τ 0 (nI i) := by
    intro i N τ hi hN hf hr'
    have hq : Q 0 τ := by
      have := none_all (m - i) i hN
      rw [show i + (m - i) = m by omega] at this
      exact h0 this τ N hf hr'
    exact sg_BM_sounds_4 ⟨pk_in 5 8 (by decide), fun _ => ⟨Or.inl rfl, hq⟩, fun _ => ⟨fun _ => ⟨Or.inl rfl, hq⟩, fun z => absurd rfl z⟩⟩
  have go : ∀ (k i : Nat) (N : Nat → Nat) (τ : St), i + k = m → sndF c sd P i = some N → fr [(151, 32), (151, 35), (151, 36)] [154, 170, 171, 172, 173] σ τ → RefT τ c N → S_BM_sounds_4 g Q τ 1 (nI i) := by
    intro k
    induction k with
    | zero =>
      intro i N τ hi hN hf hr'
      have e : i = m := by omega
      subst e
      refine sg_BM_sounds_4 ⟨pk_in 5 8 (by decide), ?_⟩
      rw [cl5, (hf.2 152 (by decide)).1, h5]
      exact ⟨fun _ => ⟨Or.inr rfl, h1 N hN τ hf hr'⟩, fun q => absurd (nI_le (Nat.le_refl _) (by omega)) q⟩
    | succ k ih =>
      intro i N τ hi hN hf hr'
      obtain ⟨d0, d1, d2, d3⟩ := hsd i (by omega)
      have hcnt := tipC_cnt (c := c) (w := sd i / 16) (P := N)
      refine sg_BM_sounds_4 ⟨pk_in 5 8 (by decide), ?_⟩
      rw [cl5, (hf.2 152 (by decide)).1, h5, nI_clamp (by omega), (hf.2 156 (by decide)).1, d1]
      refine ⟨fun q => absurd q (nI_ge (by omega) (by omega)), fun _ => ⟨fun z => absurd z (by decide), fun _ => ⟨vp_in_nI (by omega) (by decide), ?_⟩⟩⟩
      refine k_tips (by omega) hr' (fun υ hu ru e6 e7 => ⟨vp_in_nI (by omega) (by decide), ?_⟩)
      have Fu := hf.tr (hu.mo (F' := [(151, 32), (151, 35), (151, 36)]) (R' := [154, 170, 171, 172, 173]) (by decide) (by decide))
      rw [e6, e7, (Fu.2 157 (by decide)).1, (Fu.2 158 (by decide)).1, d2, d3, nI_eq (by omega) (by omega), nI_eq (by omega) (by omega)]
      have es : sndF c sd P (i + 1) = if (tipC c (sd i / 16) N).2.1 = sd i % 4 ∧ (tipC c (sd i / 16) N).2.2 = sd i / 4 % 4 then some (tipC c (sd i / 16) N).1 else none := by
        show (match sndF c sd P i with | none => none | some Q => _) = _
        rw [hN]
      refine ⟨fun q => ?_, fun q => ⟨vp_in_nI (by omega) (by decide), fun q2 => ?_, fun q2 => ?_⟩⟩
      · rintro u rfl
        rw [nI_1]
        rw [if_neg (fun z => q z.1)] at es
        exact bad (i + 1) _ υ (by omega) es Fu ru
      · rintro u rfl
        rw [nI_1]
        rw [if_neg (fun z => q2 z.2)] at es
        exact bad (i + 1) _ υ (by omega) es Fu ru
      · rintro u rfl
        rw [nI_1]
        rw [if_pos ⟨q, q2⟩] at es
        exact ih (i + 1) _ υ (by omega) es Fu ru
  exact ko_BM_sounds (sg_BM_sounds_0 (go m 0 P σ (Nat.zero_add _) rfl fr.rf hr))
theorem k_BM_groupsAll {Q : St → Prop} {gr : Nat → Nat} (hr : RefT σ c P) (hp : okW c.1 c.2.1 c.2.2.1 P) (hg : ∀ w h f, w < 4 → h < 4 → f < 4 → ai σ 186 (16 * w + 4 * h + f) = nI (gr (16 * w + h + 4 * f))) (h : ∀ τ, fr [(151, 32), (151, 35), (151, 36)] [154, 170, 171, 172, 173, 174, 186] σ τ → RefT τ c P → (∀ w h f, w < 4 → h < 4 → f < 4 → ai τ 186 (16 * w + 4 * h + f) = nI (grS c P (grS c P (grS c P (grS c P gr 0) 1) 2) 3 (16 * w + h + 4 * f))) → Q τ) : K_BM_groupsAll g σ Q := by
  have hB := hr.1.1.2.2.2.2.2
  refine ko_BM_groupsAll (sg_BM_groupsAll_0 (lay_to sh174 (by decide) hB hr.1.2.2.1 (fun τ1 f1 p1 => ?_)))
  have step : ∀ (w : Nat) (τ : St) (gr : Nat → Nat), w < 4 → fr [(151, 32), (151, 35), (151, 36)] [154, 170, 171, 172, 173, 174, 186] σ τ → RefT τ c P → (∀ b, b < c.2.2.1 → ai τ 174 b = nI (P b)) → (∀ w h f, w < 4 → h < 4 → f < 4 → ai τ 186 (16 * w + 4 * h + f) = nI (gr (16 * w + h + 4 * f))) → (∀ υ, fr [(151, 32), (151, 35), (151, 36)] [154, 170, 171, 172, 173, 174, 186] σ υ → RefT υ c P → (∀ b, b < c.2.2.1 → ai υ 174 b = nI (P b)) → (∀ w' h f, w' < 4 → h < 4 → f < 4 → ai υ 186 (16 * w' + 4 * h + f) = nI (grS c P gr w (16 * w' + h + 4 * f))) → S_BM_groupsAll_13 g Q υ (nI (w + 1))) → S_BM_groupsAll_13 g Q τ (nI w) := by
    intro w τ gr hw hf hr' hk hg hq
    have hcnt := tipC_cnt (c := c) (w := w) (P := P)
    refine sg_BM_groupsAll_13 ⟨fun q => absurd q (nI_ge (b := 4) hw (by decide)), fun _ => ?_⟩
    refine k_tips hw hr' (fun υ hu ru e5 e6 => ?_)
    have ei : (4 : Int32) * ((4 : Int32) * nI w + nI (tipC c w P).2.1) + nI (tipC c w P).2.2 = nI (16 * w + 4 * (tipC c w P).2.1 + (tipC c w P).2.2) := by
      show nI 4 * (nI 4 * nI w + _) + _ = _
      rw [pk_mul, nI_add, pk_mul, nI_add]
      congr 1
      omega
    rw [e5, e6, ei, nI_clamp (by omega)]
    refine ⟨vp_in_nI (by omega) (by decide), vp_in_nI (by omega) (by decide), ?_⟩
    rintro s2 e2
    have f2 : fr [] [186] υ s2 := by rw [e2]; exact fr_sai (by decide)
    have Fu : fr [(151, 32), (151, 35), (151, 36)] [154, 170, 171, 172, 173, 174, 186] τ υ := hu.mo (by decide) (by decide)
    refine lay_backX (P := P) sh174 (by decide) (ru.x.fr f2 (by decide) (by decide) (by decide) (by decide) (by decide) (by decide) (by decide) (by decide)) (fun b hb => by rw [(f2.2 174 (by decide)).1, (hu.2 174 (by decide)).1]; exact hk b hb) hp (fun τ3 f3 r3 => ?_)
    rintro u rfl
    rw [nI_1]
    refine hq τ3 (hf.tr (Fu.tr ((f2.mo (by simp) (by decide)).tr (f3.mo (by simp) (by decide))))) r3 (fun b hb => by rw [(f3.2 174 (by decide)).1, (f2.2 174 (by decide)).1, (hu.2 174 (by decide)).1]; exact hk b hb) (fun w' h f hw' hh hf' => ?_)
    rw [(f3.2 186 (by decide)).1, e2, ai_sai, (hu.2 186 (by decide)).1]
    unfold grS ixG
    obtain ⟨H, hH⟩ : ∃ H, H = (tipC c w P).2.1 := ⟨_, rfl⟩
    obtain ⟨FF, hFF⟩ : ∃ H, H = (tipC c w P).2.2 := ⟨_, rfl⟩
    rw [← hH, ← hFF] at hcnt ⊢
    by_cases z : 16 * w' + 4 * h + f = 16 * w + 4 * H + FF
    · obtain ⟨z1, z2, z3⟩ := dg_un z hh hf' (by omega) (by omega)
      rw [if_pos ⟨rfl, z⟩, z1, z2, z3, if_pos rfl, hg w H FF hw (by omega) (by omega), nI_1]
    · rw [if_neg (fun y => z y.2), if_neg (fun y => z ?_)]
      · exact hg w' h f hw' hh hf'
      · obtain ⟨z1, z3, z2⟩ := dg_un (a := w') (b := f) (c := h) (a' := w) (b' := FF) (c' := H) (by omega) hf' hh (by omega) (by omega)
        rw [z1, z2, z3]
  have F1 : fr [(151, 32), (151, 35), (151, 36)] [154, 170, 171, 172, 173, 174, 186] σ τ1 := f1.mo (by simp) (by decide)
  have r1 : RefT τ1 c P := hr.fr f1 (by decide) (by decide) (by decide) (by decide) (by decide) (by decide) (by decide) (by decide) (by decide)
  refine step 0 τ1 gr (by decide) F1 r1 p1 (fun w h f a b c' => by rw [(f1.2 186 (by decide)).1]; exact hg w h f a b c') (fun υ0 g0 r0 k0 q0 => step 1 υ0 _ (by decide) g0 r0 k0 q0 (fun υ1 g1 r1 k1 q1 => step 2 υ1 _ (by decide) g1 r1 k1 q1 (fun υ2 g2 r2 k2 q2 => step 3 υ2 _ (by decide) g2 r2 k2 q2 (fun υ3 g3 r3 k3 q3 => ?_))))
  exact sg_BM_groupsAll_13 ⟨fun _ => h υ3 g3 r3 q3, fun q => absurd (by decide) q⟩
theorem k_BM_findsFits {Q : St → Prop} {m : Nat} {sd : Nat → Nat} (hr : RefT σ c P) (h5 : ai σ 152 5 = nI m) (hm : m ≤ 8) (hsd : ∀ k, k < m → sd k < 64 ∧ ai σ 156 k = nI (sd k / 16) ∧ ai σ 157 k = nI (sd k % 4) ∧ ai σ 158 k = nI (sd k / 4 % 4))
    (h : ∀ τ, fr [(151, 32), (151, 35), (151, 36), (151, 60)] [154, 170, 171, 172, 173, 174, 179, 185, 186, 187, 188] σ τ → RefT τ c P → MiR τ c.2.2.1 (lisF c sd m) → Q τ) : K_BM_findsFits g σ Q := by
  have hB := hr.1.1.2.2.2.2.2
  have hC := hr.1.1.2.2.2.1
  have hR := hr.1.1.2.2.2.2.1
  have hp := hr.1.2.2.2
  refine ko_BM_findsFits (sg_BM_findsFits_0 (lay_to sh179 (by decide) hB hr.1.2.2.1 (fun τ1 f1 p1 => ?_)))
  rintro s2 e2
  have f2 : fr [(151, 60)] [] τ1 s2 := by rw [e2]; exact fr_sfi (by decide)
  have v60 : fi s2 151 60 = nI 0 := by rw [e2]; rfl
  have F2 : fr [(151, 32), (151, 35), (151, 36), (151, 60)] [154, 170, 171, 172, 173, 174, 179, 185, 186, 187, 188] σ s2 := (f1.mo (by simp) (by decide)).tr (f2.mo (by decide) (by simp))
  have k2 : ∀ b, b < c.2.2.1 → ai s2 179 b = nI (P b) := fun b hb => by rw [(f2.2 179 (by simp)).1]; exact p1 b hb
  have xk : ∀ τ, fr [(151, 32), (151, 35), (151, 36), (151, 60)] [154, 170, 171, 172, 173, 174, 179, 185, 186, 187, 188] σ τ → RefX τ c := fun τ hf => hr.x.fr hf (by decide) (by decide) (by decide) (by decide) (by decide) (by decide) (by decide) (by decide)
  have h36 : 36 ^ c.2.2.1 ≤ 46656 := Nat.pow_le_pow_right (n := 36) (by decide) hB
  obtain ⟨dec, hdece⟩ : ∃ dec : Nat → Option (Nat → Nat), dec = fun k => if (digN 36 c.2.2.1 k).all (plnC c) ∧ (digN 36 c.2.2.1 k).Nodup then some (plL (digN 36 c.2.2.1 k)) else none := ⟨_, rfl⟩
  have hdec : (List.range (36 ^ c.2.2.1)).filterMap dec = begL c := by rw [hdece]; exact beg_ref c
  have main : ∀ (j k : Nat) (τ : St), k + j = 36 ^ c.2.2.1 → fr [(151, 32), (151, 35), (151, 36), (151, 60)] [154, 170, 171, 172, 173, 174, 179, 185, 186, 187, 188] σ τ → (∀ b, b < c.2.2.1 → ai τ 179 b = nI (P b)) → MiR τ c.2.2.1 (((List.range k).filterMap dec).foldl (lisS c sd m) ls0) → lsB (((List.range k).filterMap dec).foldl (lisS c sd m) ls0) k → S_BM_findsFits_62 g Q τ (nI k) := by
    intro j
    induction j with
    | zero =>
      intro k τ hk hf k1 mi _
      have e : k = 36 ^ c.2.2.1 := by omega
      rw [e, hdec] at mi
      refine sg_BM_findsFits_62 (k_BM_codesX (xk τ hf).1 ⟨fun _ => ?_, fun q => absurd (nI_le (by omega) (by omega)) q⟩)
      exact lay_backX (P := P) sh179 (by decide) (xk τ hf) k1 hp (fun υ fu ru => h υ (hf.tr (fu.mo (by simp) (by decide))) ru (mi.fr fu (by simp) (by decide) (by decide) (by decide)))
    | succ j ih =>
      intro k τ hk hf k1 mi lb
      have hkn : k < 36 ^ c.2.2.1 := by omega
      have efold := fold_succ dec (lisS c sd m) ls0 k
      obtain ⟨st, hst⟩ : ∃ st, st = ((List.range k).filterMap dec).foldl (lisS c sd m) ls0 := ⟨_, rfl⟩
      rw [← hst] at mi lb efold
      have skip : ∀ υ, fr [(151, 32), (151, 35), (151, 36), (151, 60)] [154, 170, 171, 172, 173, 174, 179, 185, 186, 187, 188] σ υ → (∀ b, b < c.2.2.1 → ai υ 179 b = nI (P b)) → MiR υ c.2.2.1 st → ((List.range (k + 1)).filterMap dec).foldl (lisS c sd m) ls0 = st → ∀ u : Int32, u = nI k + 1 → S_BM_findsFits_62 g Q υ u := by
        rintro υ fu ku mu e u rfl
        rw [nI_1]
        exact ih (k + 1) υ (by omega) fu ku (by rw [e]; exact mu) (by rw [e]; exact ⟨by have := lb.1; omega, fun i => by have := lb.2 i; omega⟩)
      refine sg_BM_findsFits_62 (k_BM_codesX (xk τ hf).1 ⟨fun q => absurd q (nI_ge hkn (by omega)), fun _ => ⟨pk_in 2 8 (by decide), ?_⟩⟩)
      rw [cl2, (xk τ hf).1.2.2.1]
      refine k_BM_isBeginning (xk τ hf) hkn (fun hgood υ fu pu => ⟨fun z => absurd z (by decide), fun _ => ?_⟩) (fun hbad υ fu => ⟨fun _ => ?_, fun z => absurd rfl z⟩)
      · have edk : dec k = some (plL (digN 36 c.2.2.1 k)) := by rw [hdece]; exact if_pos hgood
        rw [edk] at efold
        dsimp only at efold
        obtain ⟨N0, hN0⟩ : ∃ P, P = plL (digN 36 c.2.2.1 k) := ⟨_, rfl⟩
        rw [← hN0] at edk efold pu
        have hmem : N0 ∈ begL c := by
          rw [← hdec]
          exact List.mem_filterMap.mpr ⟨k, by simpa using hkn, edk⟩
        obtain ⟨okp, -, hb36⟩ := begL_ok hB hmem
        have Fu := hf.tr (fu.mo (F' := [(151, 32), (151, 35), (151, 36), (151, 60)]) (R' := [154, 170, 171, 172, 173, 174, 179, 185, 186, 187, 188]) (by simp) (by decide))
        have ru : RefT υ c N0 := (xk υ Fu).t pu okp.1
        refine lay_to sh188 (by decide) hB pu (fun ζ fz pz => ?_)
        have Fz := Fu.tr (fz.mo (F' := [(151, 32), (151, 35), (151, 36), (151, 60)]) (R' := [154, 170, 171, 172, 173, 174, 179, 185, 186, 187, 188]) (by simp) (by decide))
        have rz : RefT ζ c N0 := ru.fr fz (by decide) (by decide) (by decide) (by decide) (by decide) (by decide) (by decide) (by decide) (by decide)
        have mz : MiR ζ c.2.2.1 st := (mi.fr fu (by simp) (by decide) (by decide) (by decide)).fr fz (by simp) (by decide) (by decide) (by decide)
        have kz : ∀ b, b < c.2.2.1 → ai ζ 179 b = nI (P b) := fun b hb => by rw [(fz.2 179 (by decide)).1, (fu.2 179 (by decide)).1]; exact k1 b hb
        refine k_BM_sounds (sd := sd) (m := m) rz (by rw [(Fz.2 152 (by decide)).1]; exact h5) hm (fun x hx => by
          rw [(Fz.2 156 (by decide)).1, (Fz.2 157 (by decide)).1, (Fz.2 158 (by decide)).1]; exact hsd x hx) (fun N hN ξ fx rx => ⟨fun z => absurd z (by decide), fun _ => ?_⟩) (fun hN ξ N' fx rx => ⟨fun _ => ?_, fun z => absurd rfl z⟩)
        · have eS : lisS c sd m st N0 = (st.1 + 1, if st.1 = 0 then N0 else st.2.1, fun b x => st.2.2.1 b x || decide (N0 b = x), grS c N (grS c N (grS c N (grS c N st.2.2.2 0) 1) 2) 3) := by unfold lisS; rw [hN]
          rw [eS] at efold
          have lb1 : lsB (((List.range (k + 1)).filterMap dec).foldl (lisS c sd m) ls0) (k + 1) := by rw [efold, ← eS]; exact lisS_b lb
          have hNo := sndF_ok hC hR okp (fun x hx => (hsd x hx).1) hN
          have mx : MiR ξ c.2.2.1 st := mz.fr fx (by decide) (by decide) (by decide) (by decide)
          have Fx := Fz.tr (fx.mo (F' := [(151, 32), (151, 35), (151, 36), (151, 60)]) (R' := [154, 170, 171, 172, 173, 174, 179, 185, 186, 187, 188]) (by decide) (by decide))
          have px : ∀ b, b < c.2.2.1 → ai ξ 188 b = nI (N0 b) := fun b hb => by rw [(fx.2 188 (by decide)).1]; exact pz b hb
          have kx : ∀ b, b < c.2.2.1 → ai ξ 179 b = nI (P b) := fun b hb => by rw [(fx.2 179 (by decide)).1]; exact kz b hb
          have hz : nI st.1 = 0 ↔ st.1 = 0 := nI_eq (b := 0) (by have := lb.1; omega) (by decide)
          -- where they were, how many, what would be heard
          have tail : ∀ θ, fr [] [185, 188] ξ θ → (∀ b, b < c.2.2.1 → ai θ 188 b = nI (N0 b)) → (∀ b, b < c.2.2.1 → ai θ 185 b = nI ((if st.1 = 0 then N0 else st.2.1) b)) → S_BM_findsFits_129 g Q θ (nI k) 0 := by
            intro θ fθ pθ qθ
            have loop : ∀ (i b : Nat) (η : St), b + i = c.2.2.1 → fr [] [187] θ η → (∀ b' x, b' < c.2.2.1 → x < 64 → sbit (aj η 187 b') x = if b' < b then (st.2.2.1 b' x || decide (N0 b' = x)) else st.2.2.1 b' x) → S_BM_findsFits_129 g Q η (nI k) (nI b) := by
              intro i
              induction i with
              | zero =>
                intro b η hbi fη sη
                have e : b = c.2.2.1 := by omega
                have Fη : fr [] [185, 187, 188] ξ η := (fθ.mo (by simp) (by decide)).tr (fη.mo (by simp) (by decide))
                refine sg_BM_findsFits_129 ⟨pk_in 2 8 (by decide), ?_⟩
                rw [cl2, (Fη.2 152 (by decide)).1, rx.1.1.2.2.1]
                refine ⟨fun _ => ?_, fun q => absurd (nI_le (by omega) (by omega)) q⟩
                rintro t1 e1
                have e60 : fi η 151 60 = nI st.1 := by rw [(Fη.1 151 60 (by simp)).1]; exact mx.1
                rw [e60, nI_1] at e1
                have ft1 : fr [(151, 60)] [] η t1 := by rw [e1]; exact fr_sfi (by decide)
                have rt1 : RefT t1 c N := (rx.fr Fη (by decide) (by decide) (by decide) (by decide) (by decide) (by decide) (by decide) (by decide) (by decide)).fr ft1 (by simp) (by simp) (by simp) (by simp) (by simp) (by simp) (by simp) (by simp) (by simp)
                refine k_BM_groupsAll (gr := st.2.2.2) rt1 hNo.1 (fun w hh ff a b' c' => by rw [(ft1.2 186 (by simp)).1, (Fη.2 186 (by decide)).1]; exact mx.2.2.2 w hh ff a b' c') (fun t2 ft2 rt2 g2 => ?_)
                rintro u rfl
                rw [nI_1]
                have Ft2 := Fx.tr ((Fη.mo (F' := [(151, 32), (151, 35), (151, 36), (151, 60)]) (R' := [154, 170, 171, 172, 173, 174, 179, 185, 186, 187, 188]) (by simp) (by decide)).tr ((ft1.mo (by decide) (by simp)).tr (ft2.mo (by decide) (by decide))))
                refine ih (k + 1) t2 (by omega) Ft2 (fun b hb => by rw [(ft2.2 179 (by decide)).1, (ft1.2 179 (by simp)).1, (Fη.2 179 (by decide)).1]; exact kx b hb) ?_ lb1
                rw [efold]
                refine ⟨?_, fun _ b' hb' => ?_, fun b' x hb' hx => ?_, g2⟩
                · rw [(ft2.1 151 60 (by decide)).1, e1]; rfl
                · rw [(ft2.2 185 (by decide)).1, (ft1.2 185 (by simp)).1, (fη.2 185 (by decide)).1]; exact qθ b' hb'
                · rw [(ft2.2 187 (by decide)).2, (ft1.2 187 (by simp)).2, sη b' x hb' hx, if_pos (by omega)]
              | succ i ihi =>
                intro b η hbi fη sη
                have Fη : fr [] [185, 187, 188] ξ η := (fθ.mo (by simp) (by decide)).tr (fη.mo (by simp) (by decide))
                refine sg_BM_findsFits_129 ⟨pk_in 2 8 (by decide), ?_⟩
                rw [cl2, (Fη.2 152 (by decide)).1, rx.1.1.2.2.1]
                refine ⟨fun q => absurd q (nI_ge (by omega) (by omega)), fun _ => ⟨vp_in_nI (by omega) (by decide), vp_in_nI (by omega) (by decide), vp_in_nI (by omega) (by decide), ?_⟩⟩
                rintro t4 e4 u rfl
                rw [nI_clamp (by omega), (fη.2 188 (by decide)).1, pθ b (by omega)] at e4
                rw [nI_1]
                refine ihi (b + 1) t4 (by omega) (by rw [e4]; exact fη.tr (fr_saj (by decide))) (fun b' x hb' hx => ?_)
                rw [e4, aj_saj]
                have hNb := hb36 b (by omega)
                by_cases z : b' = b
                · rw [if_pos ⟨rfl, z⟩, z, sb_set hx (by omega), sη b x (by omega) hx, if_neg (by omega), if_pos (by omega)]
                  congr 1
                  rw [decide_eq_decide]
                  exact eq_comm
                · rw [if_neg (fun y => z y.2), sη b' x hb' hx]
                  by_cases y : b' < b
                  · rw [if_pos y, if_pos (by omega)]
                  · rw [if_neg y, if_neg (by omega)]
            refine loop c.2.2.1 0 θ (Nat.zero_add _) fr.rf (fun b' x hb' hx => ?_)
            rw [if_neg (by omega), (fθ.2 187 (by decide)).2]; exact mx.2.2.1 b' x hb' hx
          rw [mx.1, hz]
          refine ⟨fun q => lay_self sh188 (by decide) (fun θ fθ eθ => tail θ (fθ.mo (by simp) (by decide)) (fun b hb => by rw [eθ]; exact px b hb) (fun b hb => ?_)), fun q => k_BM_lay sh188 sh185 (Nat.le_refl _) (by decide) (by decide) (fun θ fθ e1 _ => tail θ (fθ.mo (by simp) (by decide)) (fun b hb => by rw [(fθ.2 188 (by decide)).1]; exact px b hb) (fun b hb => ?_))⟩
          · rw [if_neg q, (fθ.2 185 (by decide)).1]; exact mx.2.1 q b hb
          · rw [if_pos q, e1 b (by omega)]; exact px b hb
        · have eS : lisS c sd m st N0 = st := by unfold lisS; rw [hN]
          rw [eS] at efold
          exact skip ξ (Fz.tr (fx.mo (by decide) (by decide))) (fun b hb => by rw [(fx.2 179 (by decide)).1]; exact kz b hb) (mz.fr fx (by decide) (by decide) (by decide) (by decide)) efold
      · have edk : dec k = none := by rw [hdece]; exact if_neg hbad
        rw [edk] at efold
        exact skip υ (hf.tr (fu.mo (by simp) (by decide))) (fun b hb => by rw [(fu.2 179 (by decide)).1]; exact k1 b hb) (mi.fr fu (by simp) (by decide) (by decide) (by decide)) efold
  -- cleared
  have clr2 : ∀ (j b : Nat) (τ : St), b + j = 3 → fr [] [186, 187] s2 τ → (∀ x, x < 64 → ai τ 186 x = 0) → (∀ x, x < b → aj τ 187 x = 0) → S_BM_findsFits_42 g Q τ (nI b) := by
    intro j
    induction j with
    | zero =>
      intro b τ hb hf z1 z2
      have e : b = 3 := by omega
      subst e
      refine sg_BM_findsFits_42 ⟨fun _ => ?_, fun q => absurd (by decide) q⟩
      refine main (36 ^ c.2.2.1) 0 τ (Nat.zero_add _) (F2.tr (hf.mo (by simp) (by decide))) (fun b hb => by rw [(hf.2 179 (by decide)).1]; exact k2 b hb) ⟨?_, fun z => absurd rfl z, fun b x hb hx => ?_, fun w hh ff a b' c' => ?_⟩ ⟨Nat.le_refl _, fun _ => Nat.zero_le _⟩
      · rw [(hf.1 151 60 (by simp)).1]; exact v60
      · rw [z2 b (by omega), sb_0]; rfl
      · rw [z1 _ (by omega)]; rfl
    | succ j ih =>
      intro b τ hb hf z1 z2
      refine sg_BM_findsFits_42 ⟨fun q => absurd q (nI_ge (b := 3) (by omega) (by decide)), fun _ => ⟨vp_in_nI (by omega) (by decide), ?_⟩⟩
      rintro t1 e1 u rfl
      rw [nI_clamp (by omega)] at e1
      rw [nI_1]
      refine ih (b + 1) t1 (by omega) (by rw [e1]; exact hf.tr (fr_saj (by decide))) (by rw [e1]; exact z1) (fun x hx => ?_)
      rw [e1, aj_saj]
      by_cases z : x = b
      · rw [if_pos ⟨rfl, z⟩]
      · rw [if_neg (fun y => z y.2)]; exact z2 x (by omega)
  have clr1 : ∀ (j i : Nat) (τ : St), i + j = 64 → fr [] [186] s2 τ → (∀ x, x < i → ai τ 186 x = 0) → S_BM_findsFits_18 g Q τ (nI i) := by
    intro j
    induction j with
    | zero =>
      intro i τ hi hf z1
      have e : i = 64 := by omega
      subst e
      exact sg_BM_findsFits_18 ⟨fun _ => clr2 3 0 τ rfl (hf.mo (by simp) (by decide)) z1 (fun x hx => absurd hx (by omega)), fun q => absurd (by decide) q⟩
    | succ j ih =>
      intro i τ hi hf z1
      refine sg_BM_findsFits_18 ⟨fun q => absurd q (nI_ge (b := 64) (by omega) (by decide)), fun _ => ⟨vp_in_nI (by omega) (by decide), ?_⟩⟩
      rintro t1 e1 u rfl
      rw [nI_clamp (by omega)] at e1
      rw [nI_1]
      refine ih (i + 1) t1 (by omega) (by rw [e1]; exact hf.tr (fr_sai (by decide))) (fun x hx => ?_)
      rw [e1, ai_sai]
      by_cases z : x = i
      · rw [if_pos ⟨rfl, z⟩]
      · rw [if_neg (fun y => z y.2)]; exact z1 x (by omega)
  exact clr1 64 0 s2 rfl fr.rf (fun x hx => absurd hx (by omega))
end
