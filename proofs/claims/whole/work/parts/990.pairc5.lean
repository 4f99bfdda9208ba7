-- the class: startsCanDo and goesOn
def SetR (σ : St) (B j : Nat) (S : (Nat → Nat) → Prop) : Prop := ∃ z, z ≤ 1260 ∧ ai σ 76 j = nI z ∧ (∀ i, i < z → ∃ P, S P ∧ ai σ 75 (1260 * j + i) = nI (sitP P B)) ∧ ∀ P, S P → ∃ i, i < z ∧ ai σ 75 (1260 * j + i) = nI (sitP P B)
theorem SetR.eq {σ τ : St} {B j : Nat} {S : (Nat → Nat) → Prop} (h : SetR σ B j S) (h6 : ai τ 76 j = ai σ 76 j) (h5 : ∀ x, x < 1260 * (j + 1) → ai τ 75 x = ai σ 75 x) : SetR τ B j S := by
  obtain ⟨z, hz, e, h1, h2⟩ := h
  refine ⟨z, hz, by rw [h6]; exact e, fun i hi => ?_, fun P hP => ?_⟩
  · obtain ⟨P, hP, e⟩ := h1 i hi
    exact ⟨P, hP, by rw [h5 _ (by omega)]; exact e⟩
  · obtain ⟨i, hi, e⟩ := h2 P hP
    exact ⟨i, hi, by rw [h5 _ (by omega)]; exact e⟩
def MkR (σ : St) (mk : Nat) : Prop := fi σ 69 10 = nI mk ∧ ∀ s, s < 4096 → ∃ m, m ≤ mk ∧ ai σ 74 s = nI m
theorem SbR.set {σ : St} {c : Cfg} (hB : c.2.2.1 ≤ 2) (h : SbR σ c) : SetR σ c.2.2.1 0 (fun P => P ∈ begL c) := by
  refine ⟨(begL c).length, beg_len2 hB, h.1, fun i hi => ?_, fun P hP => ?_⟩
  · refine ⟨(begL c)[i], List.getElem_mem hi, ?_⟩
    rw [Nat.mul_zero, Nat.zero_add]
    exact h.2 i _ (List.getElem?_eq_getElem hi)
  · obtain ⟨i, hi⟩ := List.getElem?_of_mem hP
    refine ⟨i, Nat.not_le.mp (fun q => by rw [List.getElem?_eq_none q] at hi; cases hi), ?_⟩
    rw [Nat.mul_zero, Nat.zero_add]
    exact h.2 i P hi
section
variable {g : Gx} {σ : St} {c : Cfg}
theorem k_PA_startsCanDo {Q : Int32 → St → Prop} {L : Nat} (hB : c.2.2.1 ≤ 2) (hL : L < 2 ^ 31) (hs : SetR σ c.2.2.1 0 (fun P => P ∈ begL c)) (hfa : FaR σ c) (h1 : (∀ P, P ∈ begL c → ∃ m, m ≤ L ∧ farC c P = some m) → Q 1 σ) (h0 : ∀ P, P ∈ begL c → ¬ Dm (nxP c) allH L P → Q 0 σ) : K_PA_startsCanDo g (nI L) σ Q := by
  obtain ⟨z, hz, ez, s1, s2⟩ := hs
  have go : ∀ (m i : Nat), i + m = z → (∀ j P, j < i → P ∈ begL c → ai σ 75 j = nI (sitP P c.2.2.1) → ∃ m, m ≤ L ∧ farC c P = some m) → S_PA_startsCanDo_2 g Q σ (nI L) (nI i) := by
    intro m
    induction m with
    | zero =>
      intro i hi hall
      refine sg_PA_startsCanDo_2 ⟨pk_in 0 7 (by decide), ?_⟩
      rw [cl0, ez]
      refine ⟨fun _ => h1 (fun P hP => ?_), fun q => absurd (nI_le (by omega) (by omega)) q⟩
      obtain ⟨j, hj, ej⟩ := s2 P hP
      rw [Nat.mul_zero, Nat.zero_add] at ej
      exact hall j P (by omega) hP ej
    | succ m ih =>
      intro i hi hall
      refine sg_PA_startsCanDo_2 ⟨pk_in 0 7 (by decide), ?_⟩
      rw [cl0, ez]
      obtain ⟨P, hP, eP⟩ := s1 i (by omega)
      rw [Nat.mul_zero, Nat.zero_add] at eP
      have hsl := sitP_lt2 (P := P) hB
      have hD := beg_dom hB hP
      refine ⟨fun q => absurd q (nI_ge (by omega) (by omega)), fun _ => ⟨vp_in_nI (by omega) (by decide), ?_⟩⟩
      rw [nI_clamp (n := i) (by omega), eP, nI_clamp (by omega), (hfa P hD).1]
      refine ⟨vp_in_nI (by omega) (by decide), ?_⟩
      rintro u rfl
      cases hf : farC c P with
      | none => exact ⟨fun _ => h0 P hP (farO_none.mp hf L), fun q => absurd (by decide) q⟩
      | some m =>
        have hm := (hfa P hD).2 m hf
        refine ⟨fun q => absurd q (nI_pos (by omega)), fun _ => ⟨fun q => ?_, fun q => ?_⟩⟩
        · rintro u rfl
          rw [nI_1]
          have hle : m ≤ L := (nI_leI (by omega) hL).mp q
          refine ih (i + 1) (by omega) (fun j N hj hN ej => ?_)
          by_cases e : j = i
          · rw [e, eP] at ej
            have := (nI_eq (by omega) (by have := sitP_lt2 (P := N) hB; omega)).mp ej
            have eN := sit_inj (by omega) hD.1.1 (beg_dom hB hN).1.1 this
            exact ⟨m, hle, eN ▸ hf⟩
          · exact hall j N (by omega) hN ej
        · have hlt : L < m := Nat.not_le.mp (fun y => q (nI_le y hL))
          exact h0 P hP ((farO_some.mp hf).2 L hlt)
  exact ko_PA_startsCanDo (sg_PA_startsCanDo_0 (go z 0 (by omega) (fun j P hj => absurd hj (by omega))))
theorem k_PA_goesOn {Q : Int32 → St → Prop} {S : (Nat → Nat) → Prop} {dp w lf mk : Nat} (hC : c.1 ≤ 6) (hR : c.2.1 ≤ 6) (hB : c.2.2.1 ≤ 2) (hdp : dp ≤ 5) (hw : w < 4) (hlf : lf < 2 ^ 31) (hmk : mk + 1 < 2 ^ 31) (hs : SetR σ c.2.2.1 dp S) (hS : ∀ P, S P → Dom c P) (hro : RoR σ c) (hfa : FaR σ c) (hm : MkR σ mk)
    (h1 : (∀ P, S P → Dom c (nxP c P w) ∧ ∃ m, m ≤ lf ∧ farC c (nxP c P w) = some m) → ∀ τ, fr [(69, 10)] [74, 75, 76] σ τ → MkR τ (mk + 1) → SetR τ c.2.2.1 (dp + 1) (fun N => ∃ P, S P ∧ N = nxP c P w) → (∀ x, x < 1260 * (dp + 1) → ai τ 75 x = ai σ 75 x) → (∀ j, j ≤ dp → ai τ 76 j = ai σ 76 j) → Q 1 τ)
    (h0 : ∀ P, S P → ¬ Dm (nxP c) allH lf (nxP c P w) → ∀ τ, fr [(69, 10)] [74, 75, 76] σ τ → MkR τ (mk + 1) → (∀ x, x < 1260 * (dp + 1) → ai τ 75 x = ai σ 75 x) → (∀ j, j ≤ dp → ai τ 76 j = ai σ 76 j) → Q 0 τ) : K_PA_goesOn g (nI dp) (nI w) (nI lf) σ Q := by
  obtain ⟨z, hz, ez, s1, s2⟩ := hs
  obtain ⟨m10, m74⟩ := hm
  refine ko_PA_goesOn (sg_PA_goesOn_0 ?_)
  rintro u1 e1 u2 e2 s3 e3
  have eu1 : u1 = nI (1260 * dp) := by
    rw [e1, Nat.mul_comm]
    show nI dp * nI 1260 = _
    rw [pk_mul]
  have eu2 : u2 = nI (1260 * (dp + 1)) := by
    rw [e2, eu1]
    show nI _ + nI 1260 = _
    rw [nI_add, Nat.mul_succ]
  rw [eu1, eu2]
  clear e1 e2 eu1 eu2
  have f3 : fr [(69, 10)] [74, 75, 76] σ s3 := by rw [e3]; exact fr_sfi (by decide)
  have v3 : fi s3 69 10 = nI (mk + 1) := by rw [e3, fi_sfi, if_pos ⟨rfl, rfl⟩, m10, nI_1]
  have a3 : ∀ r, ai s3 r = ai σ r := fun r => by rw [e3]; rfl
  have go : ∀ (m i y : Nat) (τ : St), i + m = z → y ≤ i → fr [(69, 10)] [74, 75, 76] σ τ → fi τ 69 10 = nI (mk + 1) → (∀ j, ai τ 76 j = ai σ 76 j) → (∀ x, x < 1260 * (dp + 1) → ai τ 75 x = ai σ 75 x) →
      (∀ s, s < 4096 → ∃ m, m ≤ mk + 1 ∧ ai τ 74 s = nI m ∧ (m = mk + 1 → ∃ i', i' < y ∧ ai τ 75 (1260 * (dp + 1) + i') = nI s)) →
      (∀ i', i' < y → ∃ P, S P ∧ ai τ 75 (1260 * (dp + 1) + i') = nI (sitP (nxP c P w) c.2.2.1)) →
      (∀ j P, j < i → S P → ai σ 75 (1260 * dp + j) = nI (sitP P c.2.2.1) → (Dom c (nxP c P w) ∧ ∃ m, m ≤ lf ∧ farC c (nxP c P w) = some m) ∧ ∃ i', i' < y ∧ ai τ 75 (1260 * (dp + 1) + i') = nI (sitP (nxP c P w) c.2.2.1)) →
      S_PA_goesOn_31 g Q τ (nI dp) (nI w) (nI lf) (nI (1260 * dp)) (nI (1260 * (dp + 1))) (nI y) (nI i) := by
    intro m
    induction m with
    | zero =>
      intro i y τ hi hy hf h10 h76 h75 h74 hn hd
      refine sg_PA_goesOn_31 ⟨vp_in_nI (by omega) (by decide), ?_⟩
      rw [nI_clamp (by omega), h76, ez, nI_1, nI_clamp (by omega)]
      refine ⟨fun _ => ⟨vp_in_nI (by omega) (by decide), ?_⟩, fun q => absurd (nI_le (by omega) (by omega)) q⟩
      rintro s4 e4
      have f4 : fr [(69, 10)] [74, 75, 76] τ s4 := by rw [e4]; exact fr_sai (by decide)
      have b76 : ∀ j, ai s4 76 j = if j = dp + 1 then nI y else ai τ 76 j := by
        intro j
        rw [e4, ai_sai]
        by_cases e : j = dp + 1
        · rw [if_pos ⟨rfl, e⟩, if_pos e]
        · rw [if_neg (fun q => e q.2), if_neg e]
      have b75 : ∀ x, ai s4 75 x = ai τ 75 x := fun x => by rw [e4, ai_sai, if_neg (by omega)]
      have b74 : ∀ x, ai s4 74 x = ai τ 74 x := fun x => by rw [e4, ai_sai, if_neg (by omega)]
      refine h1 (fun P hP => ?_) s4 (hf.tr f4) ⟨by rw [e4, fi_sai]; exact h10, fun s hs => ?_⟩ ⟨y, by omega, by rw [b76, if_pos rfl], fun i' hi' => ?_, fun N ⟨P, hP, eN⟩ => ?_⟩ (fun x hx => by rw [b75]; exact h75 x hx) (fun j hj => by rw [b76, if_neg (by omega)]; exact h76 j)
      · obtain ⟨j, hj, ej⟩ := s2 P hP
        exact (hd j P (by omega) hP ej).1
      · obtain ⟨m, hm, e, _⟩ := h74 s hs
        exact ⟨m, hm, by rw [b74]; exact e⟩
      · obtain ⟨P, hP, e⟩ := hn i' hi'
        exact ⟨_, ⟨P, hP, rfl⟩, by rw [b75]; exact e⟩
      · obtain ⟨j, hj, ej⟩ := s2 P hP
        obtain ⟨i', hi', e⟩ := (hd j P (by omega) hP ej).2
        exact ⟨i', hi', by rw [b75, eN]; exact e⟩
    | succ m ih =>
      intro i y τ hi hy hf h10 h76 h75 h74 hn hd
      obtain ⟨P, hP, eP⟩ := s1 i (by omega)
      have hD := hS P hP
      have hsl := sitP_lt2 (P := P) hB
      have e4 : (4 : Int32) * nI (sitP P c.2.2.1) + nI w = nI (4 * sitP P c.2.2.1 + w) := by
        show nI 4 * nI _ + nI w = _
        rw [pk_mul, nI_add]
      have mkR : MkR τ (mk + 1) := ⟨h10, fun s hs => by obtain ⟨m, hm, e, _⟩ := h74 s hs; exact ⟨m, hm, e⟩⟩
      have fail : ¬ Dm (nxP c) allH lf (nxP c P w) → Q 0 τ := fun hq => h0 P hP hq τ hf mkR h75 (fun j _ => h76 j)
      refine sg_PA_goesOn_31 ⟨vp_in_nI (by omega) (by decide), ?_⟩
      rw [nI_clamp (n := dp) (by omega), h76, ez, nI_add, nI_clamp (n := 1260 * dp + i) (by omega), h75 _ (by omega), eP, e4, nI_clamp (n := 4 * sitP P c.2.2.1 + w) (by omega), (hf.2 71 (by decide)).1, hro P hD w hw]
      refine ⟨fun q => absurd q (nI_ge (by omega) (by omega)), fun _ => ⟨vp_in_nI (by omega) (by decide), vp_in_nI (by omega) (by decide), ?_⟩⟩
      rintro u rfl
      have ok := tipC_ok hC hR hw hD.1
      by_cases q : lsP (nxP c P w)
      · unfold rcI
        rw [if_pos q]
        exact ⟨fun _ => fail (ls_dm hC hR ok q lf), fun z => absurd (by decide) z⟩
      · have hDn := dom_nx hC hR hB hw hD q
        have sl2 := sitP_lt2 (P := nxP c P w) hB
        unfold rcI
        rw [if_neg q, nI_clamp (n := sitP (nxP c P w) c.2.2.1) (by omega), (hf.2 72 (by decide)).1, (hfa _ hDn).1]
        refine ⟨fun z => absurd z (nI_pos (by omega)), fun _ => ⟨vp_in_nI (by omega) (by decide), ?_⟩⟩
        cases hfar : farC c (nxP c P w) with
        | none => exact ⟨fun _ => fail (farO_none.mp hfar lf), fun z => absurd (by decide) z⟩
        | some mm =>
          have hmm := (hfa _ hDn).2 mm hfar
          refine ⟨fun z => absurd z (nI_pos (by omega)), fun _ => ⟨vp_in_nI (by omega) (by decide), fun zl => ?_, fun zl => ?_⟩⟩
          · have hle : mm ≤ lf := (nI_leI (by omega) hlf).mp zl
            -- going on
            have next : ∀ y' υ, y' ≤ i + 1 → fr [(69, 10)] [74, 75, 76] τ υ → fi υ 69 10 = nI (mk + 1) → (∀ j, ai υ 76 j = ai τ 76 j) → (∀ x, x < 1260 * (dp + 1) + y → ai υ 75 x = ai τ 75 x) → y ≤ y' →
                (∀ s, s < 4096 → ∃ m, m ≤ mk + 1 ∧ ai υ 74 s = nI m ∧ (m = mk + 1 → ∃ i', i' < y' ∧ ai υ 75 (1260 * (dp + 1) + i') = nI s)) →
                (∀ i', i' < y' → ∃ P, S P ∧ ai υ 75 (1260 * (dp + 1) + i') = nI (sitP (nxP c P w) c.2.2.1)) →
                (∃ i', i' < y' ∧ ai υ 75 (1260 * (dp + 1) + i') = nI (sitP (nxP c P w) c.2.2.1)) →
                S_PA_goesOn_31 g Q υ (nI dp) (nI w) (nI lf) (nI (1260 * dp)) (nI (1260 * (dp + 1))) (nI y') (nI (i + 1)) := by
              intro y' υ hy' fu u10 u76 u75 hyy u74 un uP
              refine ih (i + 1) y' υ (by omega) hy' (hf.tr fu) u10 (fun j => by rw [u76]; exact h76 j) (fun x hx => by rw [u75 x (by omega)]; exact h75 x hx) u74 un (fun j N hj hN ej => ?_)
              by_cases e : j = i
              · rw [e, eP] at ej
                have := (nI_eq (by omega) (by have := sitP_lt2 (P := N) hB; omega)).mp ej
                have eN := sit_inj (by omega) hD.1.1 (hS N hN).1.1 this
                subst eN
                exact ⟨⟨hDn, mm, hle, hfar⟩, uP⟩
              · obtain ⟨a, i', hi', ei'⟩ := hd j N (by omega) hN ej
                exact ⟨a, i', by omega, by rw [u75 _ (by omega)]; exact ei'⟩
            refine ⟨vp_in_nI (by omega) (by decide), ?_⟩
            rw [h10]
            obtain ⟨m0, hm0, em0, hin⟩ := h74 (sitP (nxP c P w) c.2.2.1) sl2
            rw [em0]
            refine ⟨fun ze => ?_, fun ze => ⟨vp_in_nI (by omega) (by decide), ?_⟩⟩
            · have em := (nI_eq (by omega) (by omega)).mp ze
              rintro u rfl
              rw [nI_1]
              exact next y τ (by omega) fr.rf h10 (fun _ => rfl) (fun _ _ => rfl) (Nat.le_refl _) h74 hn (hin em)
            · rintro s4 e4'
              refine ⟨by rw [nI_add]; exact vp_in_nI (by omega) (by decide), ?_⟩
              rintro s5 e5 u rfl u2 rfl
              rw [nI_add, nI_clamp (by omega)] at e5
              rw [nI_1, nI_1]
              have b75 : ∀ x, ai s5 75 x = if x = 1260 * (dp + 1) + y then nI (sitP (nxP c P w) c.2.2.1) else ai τ 75 x := by
                intro x
                rw [e5, ai_sai]
                by_cases e : x = 1260 * (dp + 1) + y
                · rw [if_pos ⟨rfl, e⟩, if_pos e]
                · rw [if_neg (fun q => e q.2), if_neg e, e4', ai_sai, if_neg (by omega)]
              have b74 : ∀ x, ai s5 74 x = if x = sitP (nxP c P w) c.2.2.1 then nI (mk + 1) else ai τ 74 x := by
                intro x
                rw [e5, ai_sai, if_neg (by omega), e4', ai_sai]
                by_cases e : x = sitP (nxP c P w) c.2.2.1
                · rw [if_pos ⟨rfl, e⟩, if_pos e]
                · rw [if_neg (fun q => e q.2), if_neg e]
              have b76 : ∀ x, ai s5 76 x = ai τ 76 x := fun x => by rw [e5, ai_sai, if_neg (by omega), e4', ai_sai, if_neg (by omega)]
              refine next (y + 1) s5 (by omega) (by rw [e5, e4']; exact (fr_sai (by decide)).tr (fr_sai (by decide))) (by rw [e5, fi_sai, e4', fi_sai]; exact h10) b76 (fun x hx => by rw [b75, if_neg (by omega)]) (by omega) (fun s hs => ?_) (fun i' hi' => ?_) ⟨y, by omega, by rw [b75, if_pos rfl]⟩
              · by_cases e : s = sitP (nxP c P w) c.2.2.1
                · exact ⟨mk + 1, Nat.le_refl _, by rw [b74, if_pos e], fun _ => ⟨y, by omega, by rw [b75, if_pos rfl, e]⟩⟩
                · obtain ⟨m, hm, em, hin⟩ := h74 s hs
                  refine ⟨m, hm, by rw [b74, if_neg e]; exact em, fun z => ?_⟩
                  obtain ⟨i', hi', ei'⟩ := hin z
                  exact ⟨i', by omega, by rw [b75, if_neg (by omega)]; exact ei'⟩
              · by_cases e : i' = y
                · exact ⟨P, hP, by rw [b75, if_pos (by omega)]⟩
                · obtain ⟨N, hN, eN⟩ := hn i' (by omega)
                  exact ⟨N, hN, by rw [b75, if_neg (by omega)]; exact eN⟩
          · have hlt : lf < mm := Nat.not_le.mp (fun y => zl (nI_le y hlf))
            exact fail ((farO_some.mp hfar).2 lf hlt)
  refine go z 0 0 s3 (by omega) (Nat.le_refl _) f3 v3 (fun j => by rw [a3]) (fun x _ => by rw [a3]) (fun s hs => ?_) (fun i' hi' => absurd hi' (by omega)) (fun j P hj => absurd hj (by omega))
  obtain ⟨m, hm, e⟩ := m74 s hs
  exact ⟨m, by omega, by rw [a3]; exact e, fun z => by omega⟩
end
