-- a tip on both sides: keys by a rule
section
variable {g : Gx} {σ : St} {C R B : Nat} {K P : Nat → Nat}
theorem k_BM_sumOf {Q : Int64 → St → Prop} {i b w : Nat} {r : RuleT} {T : Int32} (hi : i < 6) (hr : RefB σ C R B K P) (hT : ai σ 152 3 = T) (hwf : RuleWF r) (hru : RuM i σ r) (hw : w < 4) (hb : b < B) (hb36 : P b < 36) (h : ∀ τ, fr [(151, 32)] [170, 171] σ τ → Q (keyR r (wdF C R B K T P w b)) τ) : K_BM_sumOf g (nI i) (nI b) (nI w) σ Q := by
  have hB := hr.1.2.2.2.2.2
  have hC := hr.1.2.2.2.1
  have hR := hr.1.2.2.2.2.1
  have hp := hr.2.2.1 b hb
  refine ko_BM_sumOf (sg_BM_sumOf_0 ⟨pk_in 0 8 (by decide), ?_⟩)
  rintro s1 rfl
  refine ⟨vp_in_nI (by omega) (by decide), pk_in 1 8 (by decide), ?_⟩
  rintro s2 rfl
  refine ⟨vp_in_nI (by omega) (by decide), pk_in 2 8 (by decide), ?_⟩
  rintro s3 e3
  rw [cl0, cl1, cl2, nI_clamp (by omega)] at e3
  have ep : ∀ z : Int64, ai (saj σ 170 0 z) 154 b = nI (P b) := fun _ => hp
  have ep2 : ∀ z y : Int64, ai (saj (saj σ 170 0 z) 170 1 y) 154 b = nI (P b) := fun _ _ => hp
  rw [ep, ep2, rem6 (by omega), div6 (by omega)] at e3
  have f3 : fr [(151, 32)] [170, 171] σ s3 := by rw [e3]; exact ((fr_saj (by decide)).tr (fr_saj (by decide))).tr (fr_saj (by decide))
  have a3 : aj s3 170 0 = (nI b).toInt64 ∧ aj s3 170 1 = (nI (P b % 6)).toInt64 ∧ aj s3 170 2 = (nI (P b / 6)).toInt64 := by rw [e3]; exact w8m
  clear e3
  have r3 : RefB s3 C R B K P := hr.fr f3 (by decide) (by decide) (by decide)
  refine k_BM_rolF r3 hw hb hb36 ⟨pk_in 3 8 (by decide), ?_⟩
  rintro s6 rfl
  refine ⟨pk_in 4 8 (by decide), ?_⟩
  rintro s7 rfl
  refine ⟨pk_in 3 8 (by decide), pk_in 5 8 (by decide), ?_⟩
  rintro s8 e8
  rw [cl3, cl4, cl5] at e8
  have eT : ∀ x y z, ai (saj (saj (sfi s3 151 32 x) 170 3 y) 170 4 z) 152 3 = T := fun _ _ _ => by show ai s3 152 3 = T; rw [(f3.2 152 (by decide)).1]; exact hT
  rw [eT] at e8
  have f8 : fr [(151, 32)] [170, 171] s3 s8 := by rw [e8]; exact (((fr_sfi (by decide)).tr (fr_saj (by decide))).tr (fr_saj (by decide))).tr (fr_saj (by decide))
  have r8 : RefB s8 C R B K P := r3.fr f8 (by decide) (by decide) (by decide)
  refine k_BM_fell (v := 36) r8 (by decide) ⟨pk_in 6 8 (by decide), ?_⟩
  rintro s11 e11
  rw [cl6] at e11
  have f11 : fr [(151, 32)] [170, 171] s8 s11 := by rw [e11]; exact fr_saj (by decide)
  have r11 : RefB s11 C R B K P := r8.fr f11 (by decide) (by decide) (by decide)
  have e12 : (12 : Int32) * nI i = nI (12 * i) := by show nI 12 * nI i = _; rw [pk_mul]
  have fin : ∀ s16, s16 = saj s11 170 7 (nI ((stF C R K P b).getD 0)).toInt64 → S_BM_sumOf_120 g Q s16 (nI i) (nI (12 * i)) := by
    intro s16 e16
    have f16 : fr [(151, 32)] [170, 171] σ s16 := (f3.tr f8).tr (f11.tr (by rw [e16]; exact fr_saj (by decide)))
    refine sumOf120 (W := wdF C R B K T P w b) hi hwf (hru.fr f16 (by decide) (by decide) (by decide) (by decide) (by decide) (by decide)) (fun k hk => ?_) (fun τ ft => h τ (f16.tr (ft.mo (by simp) (by decide))))
    rw [e16, e11, e8]
    exact w8n (σ := sfi s3 151 32 (nI (rolF C R K P w b).2)) a3 hk
  refine k_BM_steps r11 hb ⟨fun c => ?_, fun c => ⟨pk_in 7 8 (by decide), ?_⟩⟩
  · refine k_BM_steps r11 hb ⟨pk_in 7 8 (by decide), ?_⟩
    rintro s16 e16 u rfl
    rw [e12]
    refine fin s16 ?_
    rw [e16, cl7]
    cases hst : stF C R K P b with
    | none => rw [hst] at c; exact absurd rfl c
    | some n => rfl
  · rintro s18 e18 u rfl
    rw [e12]
    refine fin s18 ?_
    rw [e18, cl7]
    cases hst : stF C R K P b with
    | none => rfl
    | some n =>
      rw [hst] at c
      have hle := stF_le (K := K) hC hR hb36
      rw [hst] at hle
      exact absurd c.symm (m1_ne (by have : n < 64 := hle; omega))
theorem k_BM_rankOf {Q : Int64 → St → Prop} {c : Cfg} {b w : Nat} (hr : RefT σ c P) (hw : w < 4) (hb : b < c.2.2.1) (hb36 : P b < 36) (h : ∀ τ, fr [(151, 32)] [170, 171] σ τ → Q (keyC c P w b) τ) : K_BM_rankOf g (nI b) (nI w) σ Q := by
  obtain ⟨C, R, B, K, T, f⟩ := c
  obtain ⟨h1, h2, h3⟩ := hr
  dsimp only at h1 h2 h3 hb
  have hB := h1.1.2.2.2.2.2
  have hp := h1.2.2.1 b hb
  refine ko_BM_rankOf (sg_BM_rankOf_0 ⟨pk_in 7 8 (by decide), ?_⟩)
  rintro u rfl
  rw [cl7]
  cases f with
  | none =>
    have h3 : ai σ 152 7 = -1 := h3
    rw [h3]
    refine ⟨fun _ => ⟨vp_in_nI (by omega) (by decide), ?_⟩, fun q => absurd rfl q⟩
    rintro u2 rfl
    refine ⟨vp_in_nI (by omega) (by decide), ?_⟩
    rintro u3 rfl
    rw [nI_clamp (by omega), hp, rem6 (by omega), div6 (by omega)]
    have hq : Q (lagM w (P b)) σ := h σ fr.rf
    unfold lagM at hq
    rcases (show w = 0 ∨ w = 1 ∨ w = 2 ∨ w = 3 by omega) with rfl | rfl | rfl | rfl
    · exact ⟨fun q => absurd rfl q, fun _ => hq⟩
    · exact ⟨fun _ => ⟨fun q => absurd rfl q, fun _ => hq⟩, fun q => absurd q (by decide)⟩
    · exact ⟨fun _ => ⟨fun _ => ⟨fun q => absurd rfl q, fun _ => hq⟩, fun q => absurd q (by decide)⟩, fun q => absurd q (by decide)⟩
    · exact ⟨fun _ => ⟨fun _ => ⟨fun _ => hq, fun q => absurd q (by decide)⟩, fun q => absurd q (by decide)⟩, fun q => absurd q (by decide)⟩
  | some r =>
    obtain ⟨i, hi, ei, hwf, hru⟩ := h3
    rw [ei]
    exact ⟨fun q => absurd q.symm (m1_ne (by omega)), fun _ => k_BM_sumOf hi h1 h2 hwf hru hw hb hb36 h⟩
theorem FoM.fr {τ : St} {f : Option RuleT} {F : List (Nat × Nat)} {M : List Nat} (h : FoM σ f) (hf : fr F M σ τ) (h2 : 152 ∉ M) (h3 : 163 ∉ M) (h4 : 164 ∉ M) (h5 : 165 ∉ M) (h6 : 166 ∉ M) (h7 : 167 ∉ M) (h8 : 168 ∉ M) : FoM τ f := by
  cases f with
  | none =>
    have h : ai σ 152 7 = -1 := h
    show ai τ 152 7 = -1
    rw [(hf.2 _ h2).1]; exact h
  | some r =>
    obtain ⟨i, hi, ei, hwf, hru⟩ := h
    exact ⟨i, hi, by rw [(hf.2 _ h2).1]; exact ei, hwf, hru.fr hf h3 h4 h5 h6 h7 h8⟩
theorem RefT.fr {τ : St} {c : Cfg} {F : List (Nat × Nat)} {M : List Nat} (h : RefT σ c P) (hf : fr F M σ τ) (h2 : 152 ∉ M) (h9 : 153 ∉ M) (h10 : 154 ∉ M) (h3 : 163 ∉ M) (h4 : 164 ∉ M) (h5 : 165 ∉ M) (h6 : 166 ∉ M) (h7 : 167 ∉ M) (h8 : 168 ∉ M) : RefT τ c P :=
  ⟨h.1.fr hf h2 h9 h10, by rw [(hf.2 _ h2).1]; exact h.2.1, h.2.2.fr hf h2 h3 h4 h5 h6 h7 h8⟩
/-- the reference tips -/
theorem k_tips {Q : St → Prop} {c : Cfg} {w : Nat} (hw : w < 4) (hr : RefT σ c P) (h : ∀ τ, fr [(151, 32), (151, 35), (151, 36)] [154, 170, 171, 172, 173] σ τ → RefT τ c (tipC c w P).1 → fi τ 151 35 = nI (tipC c w P).2.1 → fi τ 151 36 = nI (tipC c w P).2.2 → Q τ) : K_BM_tips g (nI w) σ Q := by
  refine k_BM_tips (k := keyC c P w) hw hr.1 (fun τ b Q' hf hb h36 hq => ?_) (fun τ hf hrb h1 h2 => h τ hf ⟨hrb, by rw [(hf.2 152 (by decide)).1]; exact hr.2.1, hr.2.2.fr hf (by decide) (by decide) (by decide) (by decide) (by decide) (by decide) (by decide)⟩ h1 h2)
  exact k_BM_rankOf (hr.fr hf (by decide) (by decide) (by decide) (by decide) (by decide) (by decide) (by decide) (by decide) (by decide)) hw hb h36 hq
theorem ruI {i : Nat} (hi : i < 6) : isRU (22 + 5 * i) := by
  rcases (show i = 0 ∨ i = 1 ∨ i = 2 ∨ i = 3 ∨ i = 4 ∨ i = 5 by omega) with rfl | rfl | rfl | rfl | rfl | rfl <;> simp [isRU]
theorem ruR {i : Nat} (hi : i < 6) : 22 + 5 * i + 1 ∉ [19, 20, 21, 26, 31, 36, 41, 46, 51] ∧ 22 + 5 * i + 2 ∉ [19, 20, 21, 26, 31, 36, 41, 46, 51] ∧ 22 + 5 * i + 3 ∉ [19, 20, 21, 26, 31, 36, 41, 46, 51] ∧ 22 + 5 * i + 4 ∈ [19, 26, 31, 36, 41, 46, 51] := by
  rcases (show i = 0 ∨ i = 1 ∨ i = 2 ∨ i = 3 ∨ i = 4 ∨ i = 5 by omega) with rfl | rfl | rfl | rfl | rfl | rfl <;> decide
theorem FoC.roll {τ : St} {t : Nat} {f : Option RuleT} (ht : isSA t) (h : FoC t σ f) (hf : fr [(17, 4), (17, 6), (17, 7)] [19, 20, 21, 26, 31, 36, 41, 46, 51] σ τ) : FoC t τ f := by
  have h0 := (sa_out ht).1
  have hn : ∀ k, (t, k) ∉ [(17, 4), (17, 6), (17, 7)] := fun k => by simp [h0]
  cases f with
  | none =>
    have h : fi σ t 9 = -1 := h
    show fi τ t 9 = -1
    rw [(hf.1 _ _ (hn 9)).1]; exact h
  | some r =>
    obtain ⟨i, hi, ei, hlt, hwf, hru⟩ := h
    have hm : ∀ k, (22 + 5 * i, k) ∉ [(17, 4), (17, 6), (17, 7)] := fun k => by simp; omega
    exact ⟨i, hi, by rw [(hf.1 _ _ (hn 9)).1]; exact ei, by rw [(hf.1 17 5 (by decide)).1]; exact hlt, hwf, hru.fr hf (hm 5) (hm 6) (ruR hi).1 (ruR hi).2.1 (ruR hi).2.2.1⟩
theorem clst_roll {τ : St} {t : Nat} {c : Cfg} (ht : isSA t) (h : ClsT t σ c) (hf : fr [(17, 4), (17, 6), (17, 7)] [19, 20, 21, 26, 31, 36, 41, 46, 51] σ τ) : ClsT t τ c := by
  have h0 := (sa_out ht).1
  exact ⟨clsb_roll ht h.1 hf, by rw [(hf.1 t 6 (by simp [h0])).1]; exact h.2.1, h.2.2.roll ht hf⟩
/-- the class tips -/
theorem k_rolled {Q : Int32 → St → Prop} {c : Cfg} {t w : Nat} (ht : isSA t) (hw : w < 4) (hc : ClsT t σ c) (hp : okP c.1 c.2.1 c.2.2.1 c.2.2.2.1 P) (h : ∀ τ, fr [(17, 4), (17, 6), (17, 7)] [19, 20, 21, 26, 31, 36, 41, 46, 51] σ τ → fi τ 17 6 = nI (tipC c w P).2.1 → fi τ 17 7 = nI (tipC c w P).2.2 → Q (nI (sitP (tipC c w P).1 c.2.2.1)) τ) : K_RO_rolled g t (nI (sitP P c.2.2.1)) (nI w) σ Q := by
  have hfo := hc.2.2
  have hC := hc.1.2.1.1
  have hR := hc.1.2.1.2.1
  refine ko_RO_rolled (sg_RO_rolled_0 ht ?_)
  rintro s1 rfl s2 e2
  have f2 : fr [(17, 4), (17, 6), (17, 7)] [19, 20, 21, 26, 31, 36, 41, 46, 51] σ s2 := by rw [e2]; exact (fr_sfi (by decide)).tr (fr_sfi (by decide))
  have z6 : fi s2 17 6 = 0 := by rw [e2]; rfl
  have z7 : fi s2 17 7 = 0 := by rw [e2]; rfl
  clear e2
  have c2 : ClsT t s2 c := clst_roll ht hc f2
  refine ⟨fun q => absurd q (nI_pos (by omega)), fun _ => ⟨fun _ => ?_, fun q => absurd (nI_lt (b := 4) hw (by decide)) q⟩⟩
  -- lined up by how far they lie
  have lag : (tipF c.1 c.2.1 c.2.2.2.1 (fun b => (lagC w (spc (P b))).toInt64) w P = tipC c w P) → ∀ s3 : St, s3 = sfi s2 17 4 0 → S_RO_rolled_65 g Q s3 t (nI (sitP P c.2.2.1)) (nI w) 0 0 := by
    intro ht1 s3 e3
    have f3 : fr [(17, 4), (17, 6), (17, 7)] [19, 20, 21, 26, 31, 36, 41, 46, 51] s2 s3 := by rw [e3]; exact fr_sfi (by decide)
    refine rolled65 (k := fun b => (lagC w (spc (P b))).toInt64) (σ := s3) ht hw hp (fun τ b hf hb h36 hq => ⟨fun _ => ?_, fun q => absurd rfl q⟩) (fun τ hf h6 h7 => ?_) c.2.2.1 0 s3 (Nat.zero_add _) fr.rf (clst_roll ht c2 f3).1 (by rw [e3]; exact z6) (by rw [e3]; exact z7) (by rw [e3]; rfl) trivial trivial
    · refine sg_RO_rolled_113 ht ⟨fun _ => k_RO_lag (spc_lt h36) hw ?_, fun q => absurd rfl q⟩
      have := hq τ fr.rf
      have e : (fun s3 => ∀ u4 : Int32, u4 = nI b + 1 → S_RO_rolled_65 g Q s3 t (nI (sitP P c.2.2.1)) (nI w) 0 u4) = (fun s3 => S_RO_rolled_65 g Q s3 t (nI (sitP P c.2.2.1)) (nI w) 0 (nI (b + 1))) := by
        funext s
        rw [nI_1]
        simp
      rw [e]
      exact this
    · rw [ht1] at h6 h7 ⊢
      exact h τ ((f2.tr f3).tr hf) h6 h7
  cases hf : c.2.2.2.2.2 with
  | none =>
    have c9 : fi s2 t 9 = -1 := by have := c2.2.2; rw [hf] at this; exact this
    rw [c9]
    refine ⟨fun _ => lag ?_, fun q => absurd (by decide) q⟩
    unfold tipC tipF
    have ek : keyC c P w = fun b => lagM w (P b) := by funext b; unfold keyC; rw [hf]
    rw [ek, ordL_congr (k := fun b => (lagC w (spc (P b))).toInt64) (k' := fun b => lagM w (P b)) (fun a b _ _ pa pb => lag_iff hw pa pb)]
  | some r =>
    have hfo2 := c2.2.2
    rw [hf] at hfo2
    obtain ⟨i, hi, ei, hlt, hwf, hru⟩ := hfo2
    rw [ei]
    refine ⟨fun q => absurd q (nI_pos (by omega)), fun _ => ⟨fun q => absurd q hlt, fun _ => ?_⟩⟩
    refine k_RO_someMeet hw hp.1 ⟨fun q => absurd q (by decide), fun _ => ?_⟩ (fun hm => ⟨fun _ => lag ?_, fun q => absurd rfl q⟩)
    · rintro s3 e3
      have f3 : fr [(17, 4), (17, 6), (17, 7)] [19, 20, 21, 26, 31, 36, 41, 46, 51] s2 s3 := by rw [e3]; exact fr_sfi (by decide)
      have c3 : ClsT t s3 c := clst_roll ht c2 f3
      refine rolled65 (k := keyC c P w) (σ := s3) ht hw hp (fun τ b hf2 hb h36 hq => ⟨fun q => absurd q (by decide), fun _ => ?_⟩) (fun τ hf2 h6 h7 => h τ ((f2.tr f3).tr hf2) h6 h7) c.2.2.1 0 s3 (Nat.zero_add _) fr.rf c3.1 (by rw [e3]; exact z6) (by rw [e3]; exact z7) (by rw [e3]; rfl) trivial trivial
      have cτ : ClsT t τ c := clst_roll ht c3 hf2
      have hfoτ := cτ.2.2
      rw [hf] at hfoτ
      obtain ⟨i', hi', ei', -, -, hru'⟩ := hfoτ
      have eii : i' = i := by
        have e9 : fi τ t 9 = fi s2 t 9 := by
          have h0 := (sa_out ht).1
          rw [(hf2.1 t 9 (by simp [h0])).1, (f3.1 t 9 (by simp [h0])).1]
        rw [ei', ei] at e9
        exact (nI_eq (by omega) (by omega)).mp e9
      subst eii
      rw [ei']
      refine ⟨vp_in_nI hi (by decide), ?_⟩
      rintro o rfl ho
      rw [nI_clamp (by omega)]
      refine k_RO_tellWords ht (ruI hi) hw cτ.1 cτ.2.1 hp.1 hb h36 (fun υ fυ hW => ?_)
      refine sg_RO_rolled_113 ht ⟨fun q => absurd q (by decide), fun _ => ?_⟩
      have e9 : fi υ t 9 = nI i' := by rw [(fυ.1 t 9 (by simp)).1]; exact ei'
      rw [e9]
      refine ⟨vp_in_nI hi (by decide), ?_⟩
      rintro o2 rfl ho2
      rw [nI_clamp (by omega)]
      have hm : 22 + 5 * i' + 4 ≠ 19 := (ru_out (ruI hi)).1
      have hruυ : RuC (22 + 5 * i') υ r := by
        refine hru'.fr fυ (by simp) (by simp) ?_ ?_ ?_ <;> simp <;> omega
      refine k_RU_keyBy (ruI hi) hwf hruυ hW (fun ξ fξ => ?_)
      have ek : keyR r (wdC (fi τ (22 + 5 * i') 6) (wdF c.1 c.2.1 c.2.2.1 c.2.2.2.1 c.2.2.2.2.1 P w b)) = keyC c P w b := by
        unfold keyC
        rw [hf]
        refine keyR_congr hwf (fun j hj h0 h8 => ?_)
        obtain ⟨k, hk, e⟩ := word_in h0 h8
        rw [e, nI_clamp (by omega)]
        exact wdC_neg (hru'.2.2.2 j k hj hk e h0 h8)
      rw [ek]
      have e : (fun s3 => ∀ u4 : Int32, u4 = nI b + 1 → S_RO_rolled_65 g Q s3 t (nI (sitP P c.2.2.1)) (nI w) 1 u4) = (fun s3 => S_RO_rolled_65 g Q s3 t (nI (sitP P c.2.2.1)) (nI w) 1 (nI (b + 1))) := by
        funext s
        rw [nI_1]
        simp
      rw [e]
      refine hq ξ ((fυ.mo (by simp) (by decide)).tr (fξ.mo (by simp) ?_))
      intro q hq2
      simp only [List.mem_cons, List.not_mem_nil, or_false] at hq2
      rw [hq2]
      exact (ruR hi).2.2.2
    · exact tip_indep hC hw (fun x d hx hn => nxt36 hC hR hw hx hn) hm
end
