-- the book: the class's side, and both calls
section
variable {g : Gx} {σ : St} {d e : Dat} {nr : Nat} {Ru : Nat → RuleT}
theorem k_SA_showsSame {Q : Int32 → St → Prop} {t c c' : Nat} (ht : isSA t) (hs : ClsS 83 σ d) (ho : OkD nr d) (hp : ClsS t σ e) (he : OkD nr e) (hx : c % 6 < vC d) (hy : c / 6 < vR d) (hx' : c' % 6 < vC e) (hy' : c' / 6 < vR e) (h1 : vK d c = vK e c' ∧ whoM (vP d) (vB d) c = whoM (vP e) (vB e) c' → Q 1 σ) (h0 : ¬ (vK d c = vK e c' ∧ whoM (vP d) (vB d) c = whoM (vP e) (vB e) c') → Q 0 σ) : K_SA_showsSame g 83 (nI (spc c)) t (nI (spc c')) σ Q := by
  have hC := ho.1.1
  have hR := ho.1.2.1
  have eC := he.1.1
  have eR := he.1.2.1
  have c36 : c < 36 := by omega
  have c36' : c' < 36 := by omega
  refine ko_SA_showsSame (sg_SA_showsSame_0 sa_83 ht (k_SA_kindAt sa_83 (spc_lt c36) (k_SA_kindAt ht (spc_lt c36') ?_)))
  have k4 := ho.2.1 c c36
  have k4' := he.2.1 c' c36'
  rw [gr_kind hs.2.1.2.2.1 c36, gr_kind hp.2.1.2.2.1 c36', if_pos ⟨hx, hy⟩, if_pos ⟨hx', hy'⟩, nI_eq (by omega) (by omega)]
  refine ⟨fun q => h0 (fun z => q z.1), fun q => ?_⟩
  rw [hs.2.2.1]
  refine k_SA_whoLies (Nat.lt_trans sitP_lt (by decide)) (spc_lt c36) ?_
  rw [hp.2.2.1]
  refine k_SA_whoLies (Nat.lt_trans sitP_lt (by decide)) (spc_lt c36') ?_
  rw [who_whoM (fun b _ => (ho.2.2.1.1.2 b).1) c36, who_whoM (fun b _ => (he.2.2.1.1.2 b).1) c36']
  exact ⟨fun z => h0 (fun w => z w.2), fun z => h1 ⟨q, z⟩⟩
theorem k_SA_isTurned {Q : Int32 → St → Prop} {t h : Nat} (ht : isSA t) (hs : ClsS 83 σ d) (ho : OkD nr d) (hp : ClsS t σ e) (he : OkD nr e) (hh : h < 8) (h1 : alk d e h → Q 1 σ) (h0 : ¬ alk d e h → Q 0 σ) : K_SA_isTurned g 83 t (nI h) σ Q := by
  have hC := ho.1.1
  have hR := ho.1.2.1
  have eC := he.1.1
  have eR := he.1.2.1
  rw [← alk_cl ho he] at h1 h0
  have f2 : fi σ 83 2 = nI (vC d) := hs.2.1.1.1
  have f3 : fi σ 83 3 = nI (vR d) := hs.2.1.1.2.1
  have sw : ∃ b : Int32, (b = 0 ↔ ¬ h / 4 % 2 = 1) ∧ b = (if h / 4 % 2 = 1 then 1 else 0) := by
    by_cases q : h / 4 % 2 = 1
    · exact ⟨1, ⟨fun z => absurd z (by decide), fun z => absurd q z⟩, by rw [if_pos q]⟩
    · exact ⟨0, ⟨fun _ => q, fun _ => rfl⟩, by rw [if_neg q]⟩
  obtain ⟨b, hb, eb⟩ := sw
  -- one cell
  have cell : ∀ y x, y < vR d → x < vC d → dimA d e h → (vK d (6 * y + x) = vK e (tnF (vC d) (vR d) h (6 * y + x)) ∧ whoM (vP d) (vB d) (6 * y + x) = whoM (vP e) (vB e) (tnF (vC d) (vR d) h (6 * y + x)) → S_SA_isTurned_73 g Q σ 83 t (nI h) b (nI y) (nI (x + 1))) → S_SA_isTurned_73 g Q σ 83 t (nI h) b (nI y) (nI x) := by
    intro y x hy hx hd next
    have em : (6 * y + x) % 6 = x := by omega
    have ed : (6 * y + x) / 6 = y := by omega
    have ax := txF_lt (h := h) (c := 6 * y + x) (C := vC d) (by omega)
    have ay := tyF_lt (h := h) (c := 6 * y + x) (R := vR d) (by omega)
    have tin := tnF_in (h := h) (c := 6 * y + x) hC hR (by omega) (by omega)
    have shw : ∀ c', c' = tnF (vC d) (vR d) h (6 * y + x) → K_SA_showsSame g 83 (nI (spc (6 * y + x))) t (nI (spc c')) σ (fun r6 s5 => (¬ r6 = 0 → ∀ u7 : Int32, u7 = nI x + 1 → S_SA_isTurned_73 g Q s5 83 t (nI h) b (nI y) u7) ∧ (r6 = 0 → Q 0 s5)) := by
      rintro c' rfl
      have i2 : tnF (vC d) (vR d) h (6 * y + x) % 6 < vC e ∧ tnF (vC d) (vR d) h (6 * y + x) / 6 < vR e := by
        unfold dimA at hd
        by_cases q : h / 4 % 2 = 1
        · rw [if_pos q] at hd
          have := tin.1 q
          omega
        · rw [if_neg q] at hd
          have := tin.2 q
          omega
      refine k_SA_showsSame ht hs ho hp he (by omega) (by omega) i2.1 i2.2 (fun z => ⟨fun _ => ?_, fun w => absurd w (by decide)⟩) (fun z => ⟨fun w => absurd rfl w, fun _ => h0 (fun w => z (w.2 _ (by omega) (by omega)))⟩)
      rintro u rfl
      rw [nI_1]
      exact next z
    have spot : ∀ {Q' : Int32 → St → Prop} (u v : Nat), u < 6 → v < 6 → Q' (nI (spc (6 * v + u))) σ → K_SA_spotOf g (nI u) (nI v) σ Q' := by
      intro Q' u v hu hv hq
      refine k_SA_spotOf (fun u' v' hu' hv' eu ev => ?_) (fun z => (z u v (by omega) (by omega) rfl rfl).elim)
      have e1 := (nI_eq (by omega) (by omega)).mp eu
      have e2 := (nI_eq (by omega) (by omega)).mp ev
      subst e1 e2
      have esp : 8 * v + u + 9 = spc (6 * v + u) := by unfold spc; omega
      rw [esp]; exact hq
    have e3 : S_SA_isTurned_124 g Q σ 83 t (nI h) b (nI y) (nI x) (nI (txF (vC d) h (6 * y + x))) (nI (tyF (vR d) h (6 * y + x))) := by
      refine sg_SA_isTurned_124 sa_83 ht ⟨fun z => ?_, fun z => ?_⟩
      · have q := hb.mp z
        refine spot _ _ (by omega) (by omega) (spot _ _ (by omega) (by omega) (shw _ ?_))
        unfold tnF; rw [if_neg q]
      · have q : h / 4 % 2 = 1 := Decidable.not_not.mp (fun w => z (hb.mpr w))
        refine spot _ _ (by omega) (by omega) (spot _ _ (by omega) (by omega) (shw _ ?_))
        unfold tnF; rw [if_pos q]
    have e2 : S_SA_isTurned_102 g Q σ 83 t (nI h) b (nI y) (nI x) (nI (txF (vC d) h (6 * y + x))) := by
      refine sg_SA_isTurned_102 sa_83 ht ⟨fun z => ?_, fun z => ?_⟩
      · have q : h / 2 % 2 = 1 := Decidable.not_not.mp (fun w => z ((hb2 hh).1.mpr w))
        have : tyF (vR d) h (6 * y + x) = vR d - 1 - y := by unfold tyF; rw [if_pos q, ed]
        rw [this] at e3
        rw [f3, sub2 hy]; exact e3
      · have q := (hb2 hh).1.mp z
        have : tyF (vR d) h (6 * y + x) = y := by unfold tyF; rw [if_neg q, ed]
        rw [this] at e3; exact e3
    refine sg_SA_isTurned_73 sa_83 ht ⟨fun z => absurd z (by rw [f2]; exact nI_ge hx (by omega)), fun _ => ⟨fun z => ?_, fun z => ?_⟩⟩
    · have q : h % 2 = 1 := Decidable.not_not.mp (fun w => z ((hb1 hh).1.mpr w))
      have : txF (vC d) h (6 * y + x) = vC d - 1 - x := by unfold txF; rw [if_pos q, em]
      rw [this] at e2
      rw [f2, sub2 hx]; exact e2
    · have q := (hb1 hh).1.mp z
      have : txF (vC d) h (6 * y + x) = x := by unfold txF; rw [if_neg q, em]
      rw [this] at e2; exact e2
  have rows : ∀ (m y : Nat), y + m = vR d → dimA d e h → (∀ c, c / 6 < y → c % 6 < vC d → vK d c = vK e (tnF (vC d) (vR d) h c) ∧ whoM (vP d) (vB d) c = whoM (vP e) (vB e) (tnF (vC d) (vR d) h c)) → S_SA_isTurned_61 g Q σ 83 t (nI h) b (nI y) := by
    intro m
    induction m with
    | zero =>
      intro y hy hd hc
      have ey : y = vR d := by omega
      refine sg_SA_isTurned_61 sa_83 ht ⟨fun _ => h1 ⟨hd, fun c hx hy' => hc c (by omega) hx⟩, fun z => absurd (by rw [f3, ey]; exact Int32.le_refl _) z⟩
    | succ m ih =>
      intro y hy hd hc
      refine sg_SA_isTurned_61 sa_83 ht ⟨fun z => absurd z (by rw [f3]; exact nI_ge (by omega) (by omega)), fun _ => ?_⟩
      have cols : ∀ (n x : Nat), x + n = vC d → (∀ c, c / 6 = y → c % 6 < x → vK d c = vK e (tnF (vC d) (vR d) h c) ∧ whoM (vP d) (vB d) c = whoM (vP e) (vB e) (tnF (vC d) (vR d) h c)) → S_SA_isTurned_73 g Q σ 83 t (nI h) b (nI y) (nI x) := by
        intro n
        induction n with
        | zero =>
          intro x hx hc2
          have ex : x = vC d := by omega
          refine sg_SA_isTurned_73 sa_83 ht ⟨fun _ => ?_, fun z => absurd (by rw [f2, ex]; exact Int32.le_refl _) z⟩
          rintro u rfl
          rw [nI_1]
          refine ih (y + 1) (by omega) hd (fun c h1 h2 => ?_)
          by_cases ey : c / 6 = y
          · exact hc2 c ey (by omega)
          · exact hc c (by omega) h2
        | succ n ihn =>
          intro x hx hc2
          refine cell y x (by omega) (by omega) hd (fun hz => ihn (x + 1) (by omega) (fun c h1 h2 => ?_))
          by_cases ex : c % 6 = x
          · have : c = 6 * y + x := by omega
            rw [this]; exact hz
          · exact hc2 c h1 (by omega)
      exact cols (vC d) 0 (by omega) (fun c _ h2 => absurd h2 (Nat.not_lt_zero _))
  have start : dimA d e h → S_SA_isTurned_61 g Q σ 83 t (nI h) b 0 := fun hd => rows (vR d) 0 (by omega) hd (fun c hc => absurd hc (Nat.not_lt_zero _))
  have g2 : fi σ t 2 = nI (vC e) := hp.2.1.1.1
  have g3 : fi σ t 3 = nI (vR e) := hp.2.1.1.2.1
  refine ko_SA_isTurned (sg_SA_isTurned_0 sa_83 ht ⟨fun q => ?_, fun q => ?_⟩)
  · have q := (hb4 hh).1.mp q
    have dd : dimA d e h ↔ vC e = vC d ∧ vR e = vR d := by unfold dimA; rw [if_neg q]
    have b0 : b = 0 := hb.mpr q
    rw [b0] at start
    refine sg_SA_isTurned_31 sa_83 ht ?_
    rw [f2, f3, g2, g3, nI_eq (by omega) (by omega), nI_eq (by omega) (by omega)]
    exact ⟨fun z => h0 (fun w => z (dd.mp w.1).1.symm), fun z => ⟨fun _ => ⟨fun z2 => start (dd.mpr ⟨z.symm, z2.symm⟩), fun z2 => h0 (fun w => z2 (dd.mp w.1).2.symm)⟩, fun w => absurd rfl w⟩⟩
  · have q : h / 4 % 2 = 1 := Decidable.not_not.mp (fun w => q ((hb4 hh).1.mpr w))
    have dd : dimA d e h ↔ vC e = vR d ∧ vR e = vC d := by unfold dimA; rw [if_pos q]
    have b0 : b = 1 := by rw [eb, if_pos q]
    rw [b0] at start
    refine sg_SA_isTurned_31 sa_83 ht ?_
    rw [f2, f3, g2, g3, nI_eq (by omega) (by omega), nI_eq (by omega) (by omega), nI_eq (by omega) (by omega)]
    exact ⟨fun z => h0 (fun w => z (dd.mp w.1).2.symm), fun z => ⟨fun w => absurd w (by decide), fun _ => ⟨fun z2 => start (dd.mpr ⟨z2.symm, z.symm⟩), fun z2 => h0 (fun w => z2 (dd.mp w.1).1.symm)⟩⟩⟩
theorem k_SA_isAlike {Q : Int32 → St → Prop} {t : Nat} (ht : isSA t) (hs : ClsS 83 σ d) (ho : OkD nr d) (hp : ClsS t σ e) (he : OkD nr e) (h1 : ∀ h, h < 8 → alk d e h → Q 1 σ) (h0 : (∀ h, h < 8 → ¬ alk d e h) → Q 0 σ) : K_SA_isAlike g 83 t σ Q := by
  have go : ∀ (m i : Nat), i + m = 8 → (∀ h, h < i → ¬ alk d e h) → S_SA_isAlike_2 g Q σ 83 t (nI i) := by
    intro m
    induction m with
    | zero =>
      intro i hi hn
      have e8 : i = 8 := by omega
      subst e8
      exact sg_SA_isAlike_2 sa_83 ht ⟨fun _ => h0 hn, fun z => absurd (by decide) z⟩
    | succ m ih =>
      intro i hi hn
      refine sg_SA_isAlike_2 sa_83 ht ⟨fun z => absurd z (nI_ge (b := 8) (by omega) (by decide)), fun _ => k_SA_isTurned ht hs ho hp he (by omega) (fun q => ⟨fun z => absurd z (by decide), fun _ => h1 i (by omega) q⟩) (fun q => ⟨fun _ => ?_, fun z => absurd rfl z⟩)⟩
      rintro u rfl
      rw [nI_1]
      refine ih (i + 1) (by omega) (fun h hh => ?_)
      by_cases e : h = i
      · rw [e]; exact q
      · exact hn h (by omega)
  exact ko_SA_isAlike (sg_SA_isAlike_0 sa_83 ht (go 8 0 rfl (fun h hh => absurd hh (Nat.not_lt_zero _))))
def inB (d : Dat) (E : Nat → Dat) (n : Nat) : Prop := ∃ k, k < n ∧ ∃ h, h < 8 ∧ alk d (E k) h
theorem pg_sa {k : Nat} (hk : k < 8) : isSA (111 + 5 * k) := by
  rcases (show k = 0 ∨ k = 1 ∨ k = 2 ∨ k = 3 ∨ k = 4 ∨ k = 5 ∨ k = 6 ∨ k = 7 by omega) with rfl | rfl | rfl | rfl | rfl | rfl | rfl | rfl
  · exact sa_111
  · exact sa_116
  · exact sa_121
  · exact sa_126
  · exact sa_131
  · exact sa_136
  · exact sa_141
  · exact sa_146
theorem k_BB_isInBook {Q : Int32 → St → Prop} {E : Nat → Dat} {n : Nat} (hn : n ≤ 8) (h13 : fi σ 0 13 = nI n) (hs : ClsS 83 σ d) (ho : OkD nr d) (hE : ∀ k, k < n → ClsS (111 + 5 * k) σ (E k) ∧ OkD nr (E k)) (h1 : inB d E n → Q 1 σ) (h0 : ¬ inB d E n → Q 0 σ) : K_BB_isInBook g σ Q := by
  have go : ∀ (m i : Nat), i + m = n → (∀ k, k < i → ∀ h, h < 8 → ¬ alk d (E k) h) → S_BB_isInBook_2 g Q σ (nI i) := by
    intro m
    induction m with
    | zero =>
      intro i hi hz
      have e8 : i = n := by omega
      subst e8
      exact sg_BB_isInBook_2 ⟨fun _ => h0 (fun ⟨k, hk, h, hh, q⟩ => hz k hk h hh q), fun z => absurd (by rw [h13]; exact Int32.le_refl _) z⟩
    | succ m ih =>
      intro i hi hz
      refine sg_BB_isInBook_2 ⟨fun z => absurd z (by rw [h13]; exact nI_ge (by omega) (by omega)), fun _ => ⟨vp_in_nI (by omega) (by decide), ?_⟩⟩
      rw [nI_clamp (by omega)]
      rintro t rfl hsa
      obtain ⟨hp, he⟩ := hE i (by omega)
      refine k_SA_isAlike hsa hs ho hp he (fun h hh q => ⟨fun z => absurd z (by decide), fun _ => h1 ⟨i, by omega, h, hh, q⟩⟩) (fun q => ⟨fun _ => ?_, fun z => absurd rfl z⟩)
      rintro u rfl
      rw [nI_1]
      refine ih (i + 1) (by omega) (fun k hk h hh => ?_)
      by_cases e : k = i
      · rw [e]; exact q h hh
      · exact hz k (by omega) h hh
  exact ko_BB_isInBook (sg_BB_isInBook_0 (go n 0 (by omega) (fun k hk => absurd hk (Nat.not_lt_zero _))))
theorem ClsS.frm {t : Nat} {τ : St} {F : List (Nat × Nat)} {L : List Nat} (h : ClsS t σ d) (hf : fr F L σ τ) (hF : ∀ k, k ≤ 10 → 1 ≤ k → (t, k) ∉ F) (hL : ∀ k, k ≤ 4 → 1 ≤ k → t + k ∉ L) : ClsS t τ d := by
  obtain ⟨s1, s2, s3, s4, s5, s6, s7, s8, s9, s10⟩ := h
  refine ⟨?_, s2.fr hf (hF 2 (by decide) (by decide)) (hF 3 (by decide) (by decide)) (hF 4 (by decide) (by decide)) (hL 1 (by decide) (by decide)) (hL 2 (by decide) (by decide)), ?_, ?_, ?_, fun i hi => ?_, ?_, fun i hi => ?_, ?_, ?_⟩
  · rw [(hf.1 t 1 (hF 1 (by decide) (by decide))).1]; exact s1
  · rw [(hf.1 t 5 (hF 5 (by decide) (by decide))).1]; exact s3
  · rw [(hf.1 t 6 (hF 6 (by decide) (by decide))).1]; exact s4
  · rw [(hf.1 t 7 (hF 7 (by decide) (by decide))).1]; exact s5
  · rw [(hf.2 (t + 3) (hL 3 (by decide) (by decide))).1]; exact s6 i hi
  · rw [(hf.1 t 8 (hF 8 (by decide) (by decide))).1]; exact s7
  · rw [(hf.2 (t + 4) (hL 4 (by decide) (by decide))).1]; exact s8 i hi
  · rw [(hf.1 t 9 (hF 9 (by decide) (by decide))).1]; exact s9
  · rw [(hf.1 t 10 (hF 10 (by decide) (by decide))).1]; exact s10
theorem kB_book {Q : Int32 → St → Prop} {E : Nat → Dat} {n : Nat} (hn : n ≤ 8) (h13 : fi σ 0 13 = nI n) (hs : ClsS 83 σ d) (ho : OkD nr d) (hr : RulC σ nr Ru) (hca : SeCa σ (cfg Ru d) (vP d)) (hE : ∀ k, k < n → ClsS (111 + 5 * k) σ (E k) ∧ OkD nr (E k)) (h0 : vC d = 0 → Q (-1) σ) (h2 : vC d ≠ 0 → (n = 8 ∨ inB d E n) → Q (-2) σ) (h1 : vC d ≠ 0 → n < 8 → ¬ inB d E n → ∀ τ t, t = 111 + 5 * n → fr [(0, 13), (52, 4), (52, 5), (52, 6), (52, 7), (17, 4), (17, 6), (17, 7), (t, 1), (t, 2), (t, 3), (t, 4), (t, 5), (t, 6), (t, 7), (t, 8), (t, 9), (t, 10)] [90, 53, 54, 55, 19, 20, 21, 26, 31, 36, 41, 46, 51, t + 1, t + 2, t + 3, t + 4] σ τ → SeCa τ (cfg Ru d) (vP d) → (fi τ 52 6 = fi σ 52 6 ∨ fi τ 52 6 = fi σ 0 14) → ClsS t τ d → fi τ 0 13 = nI (n + 1) → (∀ k, ai τ 90 k = if k = n then finV (cfg Ru d) (vP d) else ai σ 90 k) → Q (nI n) τ) : K_BB_book g σ Q := by
  refine ko_BB_book (sg_BB_book_0 ⟨fun q => ?_, fun q => h0 (hs.box.mp q)⟩)
  have hC : vC d ≠ 0 := fun z => q (hs.box.mpr z)
  rw [h13]
  refine pk_le 8 n (fun q2 => h2 hC (Or.inl (by omega))) (fun q2 => ?_)
  refine k_BB_isInBook hn h13 hs ho hE (fun q3 => ⟨fun z => absurd z (by decide), fun _ => h2 hC (Or.inr q3)⟩) (fun q3 => ⟨fun _ => ?_, fun z => absurd rfl z⟩)
  refine k_keep52 (c := cfg Ru d) (P := vP d) (hs.toT ho hr) ho.2.2.1 hs.2.2.1 hca (fun τ hf hca' hv has => ?_)
  have a13 : fi τ 0 13 = nI n := by rw [(hf.1 0 13 (by decide)).1]; exact h13
  rw [a13, nI_clamp (by omega)]
  refine ⟨vp_in_nI q2 (by decide), ?_⟩
  rintro t et hsa
  have hs' : ClsS 83 τ d := hs.frm hf (fun k hk h1 => by simp) (fun k hk h1 => by simp <;> omega)
  refine k_SA_takeOver hsa sa_83 (by omega) hs' ho (fun τ2 hf2 hc => ?_)
  have b13 : fi τ2 0 13 = nI n := by rw [(hf2.1 0 13 (by simp <;> omega)).1]; exact a13
  have b7 : fi τ2 52 7 = finV (cfg Ru d) (vP d) := by rw [(hf2.1 52 7 (by simp <;> omega)).1]; exact hv.1
  rw [b13, b7, nI_clamp (by omega)]
  refine ⟨vp_in_nI q2 (by decide), ?_⟩
  rintro s6 e6 s7 e7
  have c13 : fi s6 0 13 = nI n := by rw [e6]; exact b13
  rw [c13, nI_1] at e7
  have f7 : fr [(0, 13)] [90] τ2 s7 := by rw [e7, e6]; exact (fr_sai (by decide)).tr (fr_sfi (by decide))
  have d13 : fi s7 0 13 = nI (n + 1) := by rw [e7]; rfl
  have ev : fi s7 0 13 - 1 = nI n := by rw [d13, nI_m1 (by omega)]; rfl
  rw [ev]
  have r90 : ai τ2 90 = ai σ 90 := by rw [(hf2.2 90 (by simp <;> omega)).1, (hf.2 90 (by decide)).1]
  refine h1 hC q2 q3 s7 t et ?_ ?_ (by rw [(f7.1 52 6 (by decide)).1, (hf2.1 52 6 (by simp <;> omega)).1]; exact has) (hc.frm f7 (fun k hk h1 => by simp <;> omega) (fun k hk h1 => by simp <;> omega)) d13 (fun k => ?_)
  · exact (hf.mo (by simp) (by simp)).tr ((hf2.mo (by simp) (by simp)).tr (f7.mo (by simp) (by simp)))
  · have f14 : fi s7 0 14 = fi τ 0 14 := by rw [(f7.1 0 14 (by decide)).1, (hf2.1 0 14 (by simp <;> omega)).1]
    have F : fr [(0, 13), (t, 1), (t, 2), (t, 3), (t, 4), (t, 5), (t, 6), (t, 7), (t, 8), (t, 9), (t, 10)] [90, t + 1, t + 2, t + 3, t + 4] τ s7 := (hf2.mo (by simp) (by simp)).tr (f7.mo (by simp) (by simp))
    obtain ⟨⟨n1, F1, q1⟩, hc2⟩ := hca'
    refine ⟨⟨n1, F1, q1.fr F (by simp <;> omega) (by simp <;> omega) (by simp <;> omega)⟩, fun _ => ?_⟩
    obtain ⟨v1, v2⟩ := hv
    refine ⟨by rw [(F.1 52 7 (by simp <;> omega)).1]; exact v1, fun z1 z2 => ?_⟩
    obtain ⟨⟨w1, w2, w3⟩, w4⟩ := v2 z1 z2
    refine ⟨⟨w1.fr F (by simp <;> omega) (by simp <;> omega) (by simp <;> omega), ?_, ?_⟩, ?_⟩
    · rw [(F.2 54 (by simp <;> omega)).1]; exact w2
    · rw [(F.2 54 (by simp <;> omega)).1]; exact w3
    · rw [(F.1 52 5 (by simp <;> omega)).1]; exact w4
  · rw [e7, ai_sfi, e6, ai_sai, r90]
    simp only [true_and]
-- the reference
theorem kM_book {Q : Int32 → St → Prop} {E : Nat → Dat} {n mk : Nat} (hn : n ≤ 8) (h66 : fi σ 151 66 = nI n) (hs : CurM σ d) (ho : OkD nr d) (hr : RulM σ nr Ru) (hm : MrkM σ mk) (hmk : mk + 1 < 2 ^ 31) (hE : ∀ k, k < n → PgM σ k (E k) ∧ OkD nr (E k)) (h0 : vC d = 0 → Q (-1) σ) (h2 : vC d ≠ 0 → (n = 8 ∨ inB d E n) → Q (-2) σ) (h1 : vC d ≠ 0 → n < 8 → ¬ inB d E n → ∀ τ, fr [(151, 66), (151, 32), (151, 35), (151, 36), (151, 44), (151, 45), (151, 46)] [192, 193, 194, 195, 196, 154, 170, 171, 172, 173, 175, 176, 177, 178, 179] σ τ → (∀ b, b < vB d → ai τ 154 b = nI (vP d b)) → MrkM τ (mk + 1) → PgM τ n d → (∀ k, k < n → PgM τ k (E k)) → fi τ 151 66 = nI (n + 1) → (∀ k, ai τ 196 k = if k = n then finV (cfg Ru d) (vP d) else ai σ 196 k) → Q (nI n) τ) : K_BM_book g σ Q := by
  have hB := ho.1.2.2.1
  refine ko_BM_book (sg_BM_book_0 (kM_box hs ho (fun q => ⟨fun z => absurd rfl z, fun _ => h0 q⟩) (fun hC => ⟨fun _ => ?_, fun z => absurd z (by decide)⟩)))
  have no : (n = 8 ∨ inB d E n) → S_BM_book_77 g Q σ 0 := fun q => sg_BM_book_77 ⟨fun z => absurd rfl z, fun _ => h2 hC q⟩
  have no26 : ∀ i, (n = 8 ∨ inB d E n) → S_BM_book_26 g Q σ 0 (nI i) := fun i q => sg_BM_book_26 ⟨fun _ => no q, fun _ => ⟨fun _ => no q, fun z => absurd rfl z⟩⟩
  have no40 : ∀ i j, (n = 8 ∨ inB d E n) → S_BM_book_40 g Q σ 0 (nI i) (nI j) := fun i j q => by
    refine sg_BM_book_40 ⟨fun _ => ?_, fun _ => ⟨fun _ => ?_, fun z => absurd rfl z⟩⟩
    · rintro u rfl; rw [nI_1]; exact no26 _ q
    · rintro u rfl; rw [nI_1]; exact no26 _ q
  rw [h66]
  refine pk_le 8 n (fun q => no26 0 (Or.inl (by omega))) (fun hn8 => ?_)
  -- written in
  have fin : ¬ inB d E n → S_BM_book_77 g Q σ 1 := by
    intro hno
    refine sg_BM_book_77 ⟨fun _ => ?_, fun z => absurd z (by decide)⟩
    rintro u rfl
    rw [h66, nI_clamp (by omega), cl0, cl1]
    refine ⟨pk_in 0 8 (by decide), vp_in_nI hn8 (by decide), ?_⟩
    rintro s2 e2
    refine ⟨pk_in 1 8 (by decide), vp_in_nI hn8 (by decide), ?_⟩
    rintro s3 e3
    rw [hs.1.1] at e2
    have e152 : ai s2 152 1 = nI (vR d) := by rw [e2, ai_sai, if_neg (fun z => absurd z.1 (by decide))]; exact hs.1.2.1
    rw [e152] at e3
    have f3 : fr [] [192, 193] σ s3 := by rw [e3, e2]; exact (fr_sai (by decide)).tr (fr_sai (by decide))
    have v192 : ∀ k, ai s3 192 k = if k = n then nI (vC d) else ai σ 192 k := by
      intro k
      rw [e3, ai_sai, if_neg (fun z => absurd z.1 (by decide)), e2, ai_sai]; simp only [true_and]
    have v193 : ∀ k, ai s3 193 k = if k = n then nI (vR d) else ai σ 193 k := by
      intro k
      rw [e3, ai_sai, e2, ai_sai, if_neg (c := 193 = 192 ∧ _) (fun z => absurd z.1 (by decide))]; simp only [true_and]
    -- the places
    have pl : ∀ (m i : Nat) (τ : St), i + m = 3 → fr [] [192, 193, 194, 195] σ τ → (∀ k, ai τ 192 k = ai s3 192 k) → (∀ k, ai τ 193 k = ai s3 193 k) → (∀ c, c < 36 → ai τ 194 (36 * n + c) = nI (vK d c)) → (∀ k, k < 36 * n → ai τ 194 k = ai σ 194 k) → (∀ b, b < i → ai τ 195 (3 * n + b) = oI (lieF d b)) → (∀ k, k < 3 * n → ai τ 195 k = ai σ 195 k) → S_BM_book_146 g Q τ (nI n) (nI i) := by
      intro m
      induction m with
      | zero =>
        intro i τ hi hf w2 w3 w4 w4' w5 w5'
        have ei : i = 3 := by omega
        subst ei
        have hs' : CurM τ d := by
          unfold CurM
          rw [(hf.2 152 (by decide)).1, (hf.2 153 (by decide)).1, (hf.2 154 (by decide)).1, (hf.2 155 (by decide)).1, (hf.2 156 (by decide)).1, (hf.2 157 (by decide)).1, (hf.2 158 (by decide)).1]
          exact hs
        have hr' : RulM τ nr Ru := hr.fr hf (by decide) (by decide) (by decide) (by decide) (by decide) (by decide) (by decide)
        have hm' : MrkM τ mk := ⟨by rw [(hf.1 151 44 (by decide)).1]; exact hm.1, by rw [(hf.2 175 (by decide)).1]; exact hm.2⟩
        refine sg_BM_book_146 ⟨fun _ => ?_, fun z => absurd (by decide) z⟩
        refine k_BM_finds (hs'.toT ho hr') ho.2.2.1 hm' hmk (fun τ2 hf2 r2 m2 _ => ⟨vp_in_nI hn8 (by decide), ?_⟩)
        rintro s4 e4 s5 e5
        rw [nI_clamp (by omega)] at e4
        have a66 : fi s4 151 66 = nI n := by
          rw [e4]
          show fi τ2 151 66 = _
          rw [(hf2.1 151 66 (by decide)).1, (hf.1 151 66 (by decide)).1]; exact h66
        rw [a66, nI_1] at e5
        have f5 : fr [(151, 66)] [196] τ2 s5 := by rw [e5, e4]; exact (fr_sai (by decide)).tr (fr_sfi (by decide))
        have row : ∀ r, r = 192 ∨ r = 193 ∨ r = 194 ∨ r = 195 → ai s5 r = ai τ r := by
          intro r hr
          rw [(f5.2 r (by simp <;> omega)).1, (hf2.2 r (by simp <;> omega)).1]
        refine h1 hC hn8 hno s5 ?_ (fun b hb => ?_) ?_ ?_ (fun k hk => ?_) ?_ (fun k => ?_)
        · exact (hf.mo (by simp) (by simp)).tr ((hf2.mo (by simp) (by simp)).tr (f5.mo (by simp) (by simp)))
        · rw [(f5.2 154 (by decide)).1]; exact r2.1.2.2.1 b hb
        · exact ⟨by rw [(f5.1 151 44 (by decide)).1]; exact m2.1, by rw [(f5.2 175 (by decide)).1]; exact m2.2⟩
        · refine ⟨?_, ?_, fun c hc => ?_, fun b hb => ?_⟩
          · rw [row 192 (by simp), w2, v192, if_pos rfl]
          · rw [row 193 (by simp), w3, v193, if_pos rfl]
          · rw [row 194 (by simp)]; exact w4 c hc
          · rw [row 195 (by simp)]; exact w5 b hb
        · obtain ⟨p1, p2, p3, p4⟩ := (hE k hk).1
          refine ⟨?_, ?_, fun c hc => ?_, fun b hb => ?_⟩
          · rw [row 192 (by simp), w2, v192, if_neg (by omega)]; exact p1
          · rw [row 193 (by simp), w3, v193, if_neg (by omega)]; exact p2
          · rw [row 194 (by simp), w4' _ (by omega)]; exact p3 c hc
          · rw [row 195 (by simp), w5' _ (by omega)]; exact p4 b hb
        · rw [e5]; rfl
        · rw [e5, ai_sfi, e4, ai_sai, (hf2.2 196 (by decide)).1, (hf.2 196 (by decide)).1]; simp only [true_and]
      | succ m ih =>
        intro i τ hi hf w2 w3 w4 w4' w5 w5'
        have hs' : CurM τ d := by
          unfold CurM
          rw [(hf.2 152 (by decide)).1, (hf.2 153 (by decide)).1, (hf.2 154 (by decide)).1, (hf.2 155 (by decide)).1, (hf.2 156 (by decide)).1, (hf.2 157 (by decide)).1, (hf.2 158 (by decide)).1]
          exact hs
        refine sg_BM_book_146 ⟨fun z => absurd z (nI_ge (b := 3) (by omega) (by decide)), fun _ => k_BM_lies hs' ho (by omega) ?_⟩
        have e3' : (3 : Int32) * nI n + nI i = nI (3 * n + i) := by
          show nI 3 * nI n + nI i = _
          rw [pk_mul, nI_add]
        rw [e3', nI_clamp (by omega)]
        refine ⟨vp_in_nI (by omega) (by decide), ?_⟩
        rintro s7 e7 u rfl
        rw [nI_1]
        refine ih (i + 1) s7 (by omega) ?_ (fun k => ?_) (fun k => ?_) (fun c hc => ?_) (fun k hk => ?_) (fun b hb => ?_) (fun k hk => ?_)
        · rw [e7]; exact hf.tr (fr_sai (by decide))
        · rw [e7, ai_sai, if_neg (fun z => absurd z.1 (by decide))]; exact w2 k
        · rw [e7, ai_sai, if_neg (fun z => absurd z.1 (by decide))]; exact w3 k
        · rw [e7, ai_sai, if_neg (fun z => absurd z.1 (by decide))]; exact w4 c hc
        · rw [e7, ai_sai, if_neg (fun z => absurd z.1 (by decide))]; exact w4' k hk
        · rw [e7, ai_sai]
          by_cases e : b = i
          · rw [if_pos ⟨rfl, by omega⟩, e]
          · rw [if_neg (fun z => e (by omega))]; exact w5 b (by omega)
        · rw [e7, ai_sai, if_neg (fun z => by omega)]; exact w5' k hk
    have ki : ∀ (m i : Nat) (τ : St), i + m = 36 → fr [] [192, 193, 194, 195] σ τ → (∀ k, ai τ 192 k = ai s3 192 k) → (∀ k, ai τ 193 k = ai s3 193 k) → (∀ c, c < i → ai τ 194 (36 * n + c) = nI (vK d c)) → (∀ k, k < 36 * n → ai τ 194 k = ai σ 194 k) → (∀ k, ai τ 195 k = ai σ 195 k) → S_BM_book_115 g Q τ (nI n) (nI i) := by
      intro m
      induction m with
      | zero =>
        intro i τ hi hf w2 w3 w4 w4' w5
        have ei : i = 36 := by omega
        subst ei
        exact sg_BM_book_115 ⟨fun _ => pl 3 0 τ rfl hf w2 w3 w4 w4' (fun b hb => absurd hb (Nat.not_lt_zero _)) (fun k _ => w5 k), fun z => absurd (by decide) z⟩
      | succ m ih =>
        intro i τ hi hf w2 w3 w4 w4' w5
        refine sg_BM_book_115 ⟨fun z => absurd z (nI_ge (b := 36) (by omega) (by decide)), fun _ => ⟨vp_in_nI (by omega) (by decide), ?_⟩⟩
        have e3' : (36 : Int32) * nI n + nI i = nI (36 * n + i) := by
          show nI 36 * nI n + nI i = _
          rw [pk_mul, nI_add]
        rw [e3', nI_clamp (by omega), nI_clamp (by omega), (hf.2 153 (by decide)).1, hs.2.1 i (by omega)]
        refine ⟨vp_in_nI (by omega) (by decide), ?_⟩
        rintro s7 e7 u rfl
        rw [nI_1]
        refine ih (i + 1) s7 (by omega) ?_ (fun k => ?_) (fun k => ?_) (fun c hc => ?_) (fun k hk => ?_) (fun k => ?_)
        · rw [e7]; exact hf.tr (fr_sai (by decide))
        · rw [e7, ai_sai, if_neg (fun z => absurd z.1 (by decide))]; exact w2 k
        · rw [e7, ai_sai, if_neg (fun z => absurd z.1 (by decide))]; exact w3 k
        · rw [e7, ai_sai]
          by_cases e : c = i
          · rw [if_pos ⟨rfl, by omega⟩, e]
          · rw [if_neg (fun z => e (by omega))]; exact w4 c (by omega)
        · rw [e7, ai_sai, if_neg (fun z => by omega)]; exact w4' k hk
        · rw [e7, ai_sai, if_neg (fun z => absurd z.1 (by decide))]; exact w5 k
    exact ki 36 0 s3 rfl (f3.mo (by simp) (by simp)) (fun _ => rfl) (fun _ => rfl) (fun c hc => absurd hc (Nat.not_lt_zero _)) (fun k _ => by rw [(f3.2 194 (by decide)).1]) (fun k => by rw [(f3.2 195 (by decide)).1])
  have outer : ∀ (m i : Nat), i + m = n → (∀ k, k < i → ∀ h, h < 8 → ¬ alk d (E k) h) → S_BM_book_26 g Q σ 1 (nI i) := by
    intro m
    induction m with
    | zero =>
      intro i hi hz
      have ei : i = n := by omega
      subst ei
      exact sg_BM_book_26 ⟨fun _ => fin (fun ⟨k, hk, h, hh, q⟩ => hz k hk h hh q), fun z => absurd (by rw [h66]; exact Int32.le_refl _) z⟩
    | succ m ih =>
      intro i hi hz
      refine sg_BM_book_26 ⟨fun z => absurd z (by rw [h66]; exact nI_ge (by omega) (by omega)), fun _ => ⟨fun z => absurd z (by decide), fun _ => ?_⟩⟩
      have inner : ∀ (p j : Nat), j + p = 8 → (∀ h, h < j → ¬ alk d (E i) h) → S_BM_book_40 g Q σ 1 (nI i) (nI j) := by
        intro p
        induction p with
        | zero =>
          intro j hj hz2
          have ej : j = 8 := by omega
          subst ej
          refine sg_BM_book_40 ⟨fun _ => ?_, fun z => absurd (by decide) z⟩
          rintro u rfl
          rw [nI_1]
          refine ih (i + 1) (by omega) (fun k hk h hh => ?_)
          by_cases e : k = i
          · rw [e]; exact hz2 h hh
          · exact hz k (by omega) h hh
        | succ p ihp =>
          intro j hj hz2
          obtain ⟨hp, he⟩ := hE i (by omega)
          refine sg_BM_book_40 ⟨fun z => absurd z (nI_ge (b := 8) (by omega) (by decide)), fun _ => ⟨fun z => absurd z (by decide), fun _ => ?_⟩⟩
          refine k_BM_isAlike hs ho he hp (by omega) (by omega) (fun q => ⟨fun _ => ?_, fun z => absurd z (by decide)⟩) (fun q => ⟨fun z => absurd rfl z, fun _ => ?_⟩)
          · rintro u rfl
            rw [nI_1]
            exact no40 i (j + 1) (Or.inr ⟨i, by omega, j, by omega, q⟩)
          · rintro u rfl
            rw [nI_1]
            refine ihp (j + 1) (by omega) (fun h hh => ?_)
            by_cases e : h = j
            · rw [e]; exact q
            · exact hz2 h (by omega)
      exact inner 8 0 rfl (fun h hh => absurd hh (Nat.not_lt_zero _))
  exact outer n 0 (by omega) (fun k hk => absurd hk (Nat.not_lt_zero _))
end
