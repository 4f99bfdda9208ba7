-- the class: reckonFar
theorem sh72 : SH[72]? = some (.inr (0, 4096, [])) := by decide +kernel
section
variable {g : Gx} {σ : St} {c : Cfg}
theorem k_PA_comesTo {Q : Int32 → St → Prop} {P : Nat → Nat} {n : Nat} (hC : c.1 ≤ 6) (hR : c.2.1 ≤ 6) (hB : c.2.2.1 ≤ 2) (hP : Dom c P) (hr : RoR σ c) (hv : ∀ N, Dom c N → (ai σ 72 (sitP N c.2.2.1) = nI n ↔ Lst (nxP c) allH n N)) (h1 : ∀ w, w < 4 → Lst (nxP c) allH n (nxP c P w) → Q 1 σ) (h0 : (∀ w, w < 4 → ¬ Lst (nxP c) allH n (nxP c P w)) → Q 0 σ) : K_PA_comesTo g (nI (sitP P c.2.2.1)) (nI n) σ Q := by
  have hsl := sitP_lt2 (P := P) hB
  have go : ∀ (m w : Nat), w + m = 4 → (∀ w', w' < w → ¬ Lst (nxP c) allH n (nxP c P w')) → S_PA_comesTo_2 g Q σ (nI (sitP P c.2.2.1)) (nI n) (nI w) := by
    intro m
    induction m with
    | zero =>
      intro w hw hno
      exact sg_PA_comesTo_2 ⟨fun _ => h0 (fun w' hw' => hno w' (by omega)), fun q => absurd (nI_le (a := 4) (by omega) (by omega)) q⟩
    | succ m ih =>
      intro w hw hno
      have hw4 : w < 4 := by omega
      have e4 : (4 : Int32) * nI (sitP P c.2.2.1) + nI w = nI (4 * sitP P c.2.2.1 + w) := by
        show nI 4 * nI _ + nI w = _
        rw [pk_mul, nI_add]
      have next : ¬ Lst (nxP c) allH n (nxP c P w) → S_PA_comesTo_2 g Q σ (nI (sitP P c.2.2.1)) (nI n) (nI (w + 1)) := by
        intro hn
        refine ih (w + 1) (by omega) (fun w' hw' => ?_)
        by_cases e : w' = w
        · rw [e]; exact hn
        · exact hno w' (by omega)
      refine sg_PA_comesTo_2 ⟨fun q => absurd q (nI_ge (b := 4) (by omega) (by decide)), fun _ => ⟨by rw [e4]; exact vp_in_nI (by omega) (by decide), ?_⟩⟩
      rintro u rfl
      rw [e4, nI_clamp (by omega), hr P hP w hw4, nI_1]
      have ok := tipC_ok hC hR hw4 hP.1
      by_cases q : lsP (nxP c P w)
      · unfold rcI
        rw [if_pos q]
        refine ⟨fun _ => ?_, fun z => absurd (by decide) z⟩
        rintro u rfl
        exact next (fun z => ls_dm hC hR ok q n z.1)
      · have hD := dom_nx hC hR hB hw4 hP q
        have sl2 := sitP_lt2 (P := nxP c P w) hB
        unfold rcI
        rw [if_neg q, nI_clamp (by omega), hv _ hD]
        refine ⟨fun z => absurd z (nI_pos (by omega)), fun _ => ⟨vp_in_nI (by omega) (by decide), fun z => ?_, fun z => h1 w hw4 z⟩⟩
        rintro u rfl
        exact next z
  exact ko_PA_comesTo (sg_PA_comesTo_0 (go 4 0 (by omega) (fun w' hw' => absurd hw' (by omega))))
theorem k_PA_reckonFar {Q : St → Prop} (hC : c.1 ≤ 6) (hR : c.2.1 ≤ 6) (hB : c.2.2.1 ≤ 2) (hl : LsR σ c) (hr : RoR σ c) (h : ∀ τ, fr [] [72] σ τ → FaR τ c → Q τ) : K_PA_reckonFar g σ Q := by
  obtain ⟨k, hk, h9, hl1, hl2⟩ := hl
  have e73 : ∀ τ, fr [] [72] σ τ → ai τ 73 = ai σ 73 ∧ fi τ 69 9 = nI k := fun τ hf => ⟨(hf.2 73 (by decide)).1, by rw [(hf.1 69 9 (by simp)).1]; exact h9⟩
  have rk : ∀ τ, fr [] [72] σ τ → RoR τ c := fun τ hf => by unfold RoR; rw [(hf.2 71 (by decide)).1]; exact hr
  have inj : ∀ P N, Dom c P → Dom c N → sitP P c.2.2.1 = sitP N c.2.2.1 → P = N := fun P N hP hN e => sit_inj (by omega) hP.1.1 hN.1.1 e
  have full : ∀ (n : Nat) (P : Nat → Nat), Dom c P → Lst (nxP c) allH n P → n < 4096 ∧ ∀ j, j ≤ n → ∃ N, Dom c N ∧ Lst (nxP c) allH j N := by
    intro n P hP hL
    have hd := lst_down (Dom := Dom c) (fun N w hN hw ⟨m, hm⟩ => dom_nx hC hR hB hw hN (fun q => ls_dm hC hR (tipC_ok hC hR hw hN.1) q m hm)) hP hL
    refine ⟨pig (Lv := fun a i => ∃ N, Dom c N ∧ sitP N c.2.2.1 = i ∧ Lst (nxP c) allH a N) (fun i a b ⟨N, hN, e1, l1⟩ ⟨M, hM, e2, l2⟩ => ?_) n (fun a ha => ?_), hd⟩
    · have := inj N M hN hM (by rw [e1, e2])
      subst this
      exact lst_un l1 l2
    · obtain ⟨N, hN, hL⟩ := hd a ha
      exact ⟨sitP N c.2.2.1, sitP_lt2 hB, N, hN, rfl, hL⟩
  have l35 : ∀ (n : Nat), n < 4096 → (∀ τ on, fr [] [72] σ τ → (∀ P, Dom c P → fcl (nxP c) allH (n + 1) P (ai τ 72 (sitP P c.2.2.1))) → (on = true ↔ ∃ P, Dom c P ∧ ai τ 72 (sitP P c.2.2.1) = nI (n + 1)) → S_PA_reckonFar_20 g Q τ (bI on) (nI (n + 2))) →
      ∀ (m i : Nat) (on : Bool) (τ : St), i + m = k → fr [] [72] σ τ → (∀ P, Dom c P → fcl (nxP c) allH n P (ai τ 72 (sitP P c.2.2.1)) ∨ fcl (nxP c) allH (n + 1) P (ai τ 72 (sitP P c.2.2.1))) → (∀ P, Dom c P → (∃ j, j < i ∧ ai σ 73 j = nI (sitP P c.2.2.1)) → fcl (nxP c) allH (n + 1) P (ai τ 72 (sitP P c.2.2.1))) → (on = true ↔ ∃ P, Dom c P ∧ ai τ 72 (sitP P c.2.2.1) = nI (n + 1)) → S_PA_reckonFar_35 g Q τ (bI on) (nI (n + 1)) (nI i) := by
    intro n hn hq m
    induction m with
    | zero =>
      intro i on τ hi hf hb hd hon
      refine sg_PA_reckonFar_35 ?_
      rw [(e73 τ hf).2]
      refine ⟨fun _ => ?_, fun q => absurd (nI_le (by omega) (by omega)) q⟩
      rintro u rfl
      rw [nI_1]
      refine hq τ on hf (fun P hP => ?_) hon
      obtain ⟨j, hj, ej⟩ := hl2 P hP
      exact hd P hP ⟨j, by omega, ej⟩
    | succ m ih =>
      intro i on τ hi hf hb hd hon
      obtain ⟨P, hP, eP⟩ := hl1 i (by omega)
      have hsl := sitP_lt2 (P := P) hB
      -- going on once P is at the new level
      have next : ∀ υ on', fr [] [72] τ υ → (∀ N, Dom c N → N ≠ P → ai υ 72 (sitP N c.2.2.1) = ai τ 72 (sitP N c.2.2.1)) → fcl (nxP c) allH (n + 1) P (ai υ 72 (sitP P c.2.2.1)) → (on' = true ↔ ∃ P, Dom c P ∧ ai υ 72 (sitP P c.2.2.1) = nI (n + 1)) → S_PA_reckonFar_35 g Q υ (bI on') (nI (n + 1)) (nI (i + 1)) := by
        intro υ on' fu hoth hnew hon'
        refine ih (i + 1) on' υ (by omega) (hf.tr fu) (fun N hN => ?_) (fun N hN ⟨j, hj, ej⟩ => ?_) hon'
        · by_cases e : N = P
          · rw [e]; exact Or.inr hnew
          · rw [hoth N hN e]; exact hb N hN
        · by_cases e : N = P
          · rw [e]; exact hnew
          · rw [hoth N hN e]
            refine hd N hN ⟨j, ?_, ej⟩
            by_cases ej2 : j = i
            · rw [ej2, eP] at ej
              have := (nI_eq (by omega) (by have := sitP_lt2 (P := N) hB; omega)).mp ej
              exact absurd (inj N P hN hP this.symm) e
            · omega
      refine sg_PA_reckonFar_35 ?_
      rw [(e73 τ hf).2]
      refine ⟨fun q => absurd q (nI_ge (by omega) (by omega)), fun _ => ⟨vp_in_nI (by omega) (by decide), ?_⟩⟩
      rintro u rfl
      rw [nI_clamp (n := i) (by omega), (e73 τ hf).1, eP, nI_clamp (by omega)]
      refine ⟨vp_in_nI (by omega) (by decide), fun z => ?_, fun z => ?_⟩
      · rintro u rfl
        rw [nI_1]
        refine next τ on fr.rf (fun _ _ _ => rfl) ?_ hon
        rcases hb P hP with q | q
        · exact fcl_up q z
        · exact q
      · have hN : ∀ m, m ≤ n → ¬ Dm (nxP c) allH m P := by
          rcases hb P hP with q | q
          · exact (fcl_2 q (by omega)).mp z
          · exact fun m hm => (fcl_2 q (by omega)).mp z m (by omega)
        have e1 : nI (n + 1) - 1 = nI n := by
          rw [← nI_1, Int32.sub_eq_add_neg, Int32.add_assoc, show (1 : Int32) + -1 = 0 by decide, Int32.add_zero]
        rw [e1]
        refine k_PA_comesTo hC hR hB hP (rk τ hf) (fun N hN => ?_) (fun w hw hL => ⟨fun y => absurd y (by decide), fun _ => ⟨vp_in_nI (by omega) (by decide), ?_⟩⟩) (fun hno => ⟨fun _ => ?_, fun y => absurd rfl y⟩)
        · rcases hb N hN with q | q
          · exact fcl_eq q (Nat.le_refl _) (by omega)
          · exact fcl_eq q (by omega) (by omega)
        · rintro s7 e7 u rfl
          have fs : fr [] [72] τ s7 := by rw [e7]; exact fr_sai (by decide)
          have vs : ai s7 72 (sitP P c.2.2.1) = nI (n + 1) := by rw [e7, ai_sai, if_pos ⟨rfl, rfl⟩]
          rw [nI_1]
          refine next s7 true fs (fun N hN hne => ?_) ?_ ⟨fun _ => ⟨P, hP, vs⟩, fun _ => rfl⟩
          · rw [e7, ai_sai, if_neg (fun q => hne (inj N P hN hP q.2))]
          · rw [vs]; exact Or.inl ⟨n + 1, Nat.le_refl _, fcl_new hN hw hL, rfl⟩
        · rintro u rfl
          rw [nI_1]
          exact next τ on fr.rf (fun _ _ _ => rfl) (Or.inr ⟨fcl_not hN hno, z⟩) hon
  have l20 : ∀ (m n : Nat) (τ : St) (on : Bool), n + m = 4097 → fr [] [72] σ τ → (∀ P, Dom c P → fcl (nxP c) allH n P (ai τ 72 (sitP P c.2.2.1))) → (on = true → n = 0 ∨ ∃ P, Dom c P ∧ Lst (nxP c) allH n P) → (on = false → ¬ ∃ P, Dom c P ∧ Lst (nxP c) allH n P) → n ≤ 4096 → S_PA_reckonFar_20 g Q τ (bI on) (nI (n + 1)) := by
    intro m
    induction m with
    | zero => intro n τ on h1 _ _ _ _ h2; omega
    | succ m ih =>
      intro n τ on hm hf hcl hon hoff hn
      refine sg_PA_reckonFar_20 ⟨fun z => ?_, fun z => ?_⟩
      · have eo := bI_0.mp z
        refine h τ hf (fun P hP => ⟨?_, fun m hm => (full m P hP (farO_some.mp hm)).1⟩)
        unfold farC
        rcases hcl P hP with ⟨m, hm, hL, hv⟩ | ⟨hN, hv⟩
        · rw [farO_some.mpr hL, hv]; rfl
        · have : farO (nxP c) allH P = none := by
            rw [farO_none]
            intro k hk
            obtain ⟨j, hj, hl⟩ := lst_of hk
            by_cases q : j ≤ n
            · exact hN j q hl.1
            · exact hoff eo ((full j P hP hl).2 n (by omega))
          rw [this, hv]; rfl
      · have eo : on = true := by cases on <;> first | rfl | exact absurd rfl z
        have hn2 : n < 4096 := by
          rcases hon eo with rfl | ⟨P, hP, hl⟩
          · decide
          · exact (full n P hP hl).1
        refine ⟨fun q => absurd q (nI_nlt (a := 4096) (b := n + 1) (by omega) (by decide)), fun _ => ?_⟩
        refine l35 n hn2 (fun υ on' fu cu ou => ?_) k 0 false τ (by omega) hf (fun P hP => Or.inl (hcl P hP)) (fun P hP ⟨j, hj, _⟩ => absurd hj (by omega)) ⟨fun q => (by cases q), fun ⟨P, hP, e⟩ => ?_⟩
        · refine ih (n + 1) υ on' (by omega) fu cu (fun q => Or.inr ?_) (fun q ⟨P, hP, hL⟩ => ?_) (by omega)
          · obtain ⟨P, hP, e⟩ := ou.mp q
            exact ⟨P, hP, (fcl_eq (cu P hP) (Nat.le_refl _) (by omega)).mp e⟩
          · have := ou.mpr ⟨P, hP, (fcl_eq (cu P hP) (Nat.le_refl _) (by omega)).mpr hL⟩
            rw [q] at this
            cases this
        · exfalso
          rcases hcl P hP with ⟨m, hm, hL, hv⟩ | ⟨hN, hv⟩
          · rw [hv] at e
            have := (nI_eq (by omega) (by omega)).mp e
            omega
          · rw [hv] at e
            exact nI_n2 (by omega) e.symm
  refine ko_PA_reckonFar (sg_PA_reckonFar_0 (k_JA_fill sh72 (by decide) (fun τ1 f1 v1 => ⟨pk_in 0 4096 (by decide), ?_⟩)))
  rintro s2 e2
  have f2 : fr [] [72] τ1 s2 := by rw [e2]; exact fr_sai (by decide)
  have sit0 : ∀ P, Dom c P → (sitP P c.2.2.1 = 0 ↔ allH P) := by
    intro P hP
    have hN := hP.1.1.1
    have e2 : P 2 = 36 := hN 2 hB
    unfold sitP sit
    rw [enB_norm hN, enB_norm hN, enB_norm hN, e2, enc_36]
    have hz : ∀ b, enc (P b) = 0 ↔ P b = 36 := by
      intro b
      unfold enc
      have := hP.2.2 b
      have h38 := (hP.1.1.2 b).1
      by_cases q : P b < 36
      · rw [if_pos q]
        unfold spc
        omega
      · rw [if_neg q, if_pos (by omega)]
        omega
    have z0 := hz 0
    have z1 := hz 1
    constructor
    · intro q
      exact ⟨z0.mp (by omega), z1.mp (by omega), e2⟩
    · rintro ⟨q0, q1, -⟩
      rw [z0.mpr q0, z1.mpr q1]
  refine l20 4097 0 s2 true (by omega) (f1.tr f2) (fun P hP => ?_) (fun _ => Or.inl rfl) (fun q => by cases q) (by omega)
  have hsl := sitP_lt2 (P := P) hB
  rw [e2, ai_sai]
  by_cases q : allH P
  · rw [if_pos ⟨rfl, (sit0 P hP).mpr q⟩]
    exact Or.inl ⟨0, Nat.le_refl _, ⟨q, fun j hj => absurd hj (by omega)⟩, rfl⟩
  · rw [if_neg (fun z => q ((sit0 P hP).mp z.2)), v1 _ hsl]
    exact Or.inr ⟨fun m hm hd => by rw [show m = 0 by omega] at hd; exact q hd, rfl⟩
end
