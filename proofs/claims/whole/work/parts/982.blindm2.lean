-- the reference: isBlind, findsBlind, blind
theorem nI_n2 {n : Nat} (h : n < 2 ^ 31) : nI n ≠ (-2 : Int32) := fun e => nI_pos h (by rw [e]; decide)
section
variable {g : Gx} {σ : St} {c : Cfg} {P : Nat → Nat}
theorem k_BM_isBlind {Q : Int32 → St → Prop} {L k : Nat} (hx : RefX σ c) (hB : c.2.2.1 ≤ 2) (hn : NxR σ c) (hg : BgR σ c) (hlen : (begL c).length ≤ 1296) (hL : L ≤ 6) (hk : k < 4 ^ L) (h1 : Bld c L k → Q 1 σ) (h0 : ¬ Bld c L k → Q 0 σ) : K_BM_isBlind g (nI k) (nI L) (nI (begL c).length) σ Q := by
  have hC := hx.1.2.2.2.1
  have hR := hx.1.2.2.2.2.1
  have h4L : 4 ^ L ≤ 4096 := Nat.pow_le_pow_right (n := 4) (by decide) hL
  have h4L1 : 4 ^ (L - 1) ≤ 4096 := Nat.pow_le_pow_right (n := 4) (j := 6) (by decide) (by omega)
  have l53 : ∀ (i : Nat) (N : Nat → Nat), okP c.1 c.2.1 c.2.2.1 c.2.2.2.1 N → (S_BM_isBlind_6 g Q σ (nI k) (nI L) (nI (begL c).length) (if allH (rnP c (dgR L k) L N) then 1 else 0) (nI (i + 1))) → ∀ (m j : Nat), j + m = L → S_BM_isBlind_53 g Q σ (nI k) (nI L) (nI (begL c).length) (nI i) (nI (smP (rnP c (dgR L k) j N) c.2.2.1)) (nI (4 ^ (L - 1) / 4 ^ j)) (nI j) := by
    intro i N hN hq m
    induction m with
    | zero =>
      intro j hj
      have e : j = L := by omega
      rw [e]
      have ok := rnP_ok (c := c) (r := dgR L k) (n := L) hC hR (fun i _ => dgR_lt) hN
      refine sg_BM_isBlind_53 ⟨fun _ => k_BM_isWhole hx.1 hB (smP_lt2 hB (fun b => (ok.1.2 b).1)) ?_, fun q => absurd (nI_le (Nat.le_refl _) (by omega)) q⟩
      rw [sdP_smP hB ok.1, nI_1]
      rintro u rfl
      exact hq
    | succ m ih =>
      intro j hj
      have ok := rnP_ok (c := c) (r := dgR L k) (n := j) hC hR (fun i _ => dgR_lt) hN
      have hs := smP_lt2 hB (fun b => (ok.1.2 b).1)
      have ediv : 4 ^ (L - 1) / 4 ^ j = 4 ^ (L - 1 - j) := Nat.pow_div (by omega) (by decide)
      have hpos : 0 < 4 ^ (L - 1) / 4 ^ j := by rw [ediv]; exact Nat.pow_pos (by decide)
      have hle : 4 ^ (L - 1) / 4 ^ j ≤ 4 ^ (L - 1) := Nat.div_le_self _ _
      have e1 : nI k / nI (4 ^ (L - 1) / 4 ^ j) = nI (k / (4 ^ (L - 1) / 4 ^ j)) := pk_div (by omega) hpos (by omega)
      have hkd : k / (4 ^ (L - 1) / 4 ^ j) ≤ k := Nat.div_le_self _ _
      have e2 : nI (k / (4 ^ (L - 1) / 4 ^ j)) - nI (k / (4 ^ (L - 1) / 4 ^ j)) / 4 * 4 = nI (k / (4 ^ (L - 1) / 4 ^ j) % 4) := pk_rem (d := 4) (by omega) (by decide) (by decide)
      have e3 : k / (4 ^ (L - 1) / 4 ^ j) % 4 = dgR L k j := by unfold dgR; rw [ediv]
      have hdl : dgR L k j < 4 := dgR_lt
      have e4 : (4 : Int32) * nI (smP (rnP c (dgR L k) j N) c.2.2.1) + nI (dgR L k j) = nI (4 * smP (rnP c (dgR L k) j N) c.2.2.1 + dgR L k j) := by
        show nI 4 * nI _ + nI _ = _
        rw [pk_mul, nI_add]
      have e5 : nI (4 ^ (L - 1) / 4 ^ j) / 4 = nI (4 ^ (L - 1) / 4 ^ (j + 1)) := by
        have := pk_div (a := 4 ^ (L - 1) / 4 ^ j) (d := 4) (by omega) (by decide) (by decide)
        rw [Nat.pow_succ, ← Nat.div_div_eq_div_mul]
        exact this
      refine sg_BM_isBlind_53 ⟨fun q => absurd q (nI_ge (by omega) (by omega)), fun _ => ⟨fun z => ?_, ?_⟩⟩
      · have := (nI_eq (b := 0) (by omega) (by decide)).mp z
        omega
      rw [e1, e2, e3, e4, e5, nI_clamp (by omega), hn _ _ hs hdl, nxS_sm hB ok.1, nI_1]
      refine ⟨vp_in_nI (by omega) (by decide), ?_⟩
      rintro u rfl u2 rfl u3 rfl
      exact ih (j + 1) (by omega)
  have l32 : ∀ (i : Nat) (N : Nat → Nat), okP c.1 c.2.1 c.2.2.1 c.2.2.2.1 N → (S_BM_isBlind_6 g Q σ (nI k) (nI L) (nI (begL c).length) (if allH (rnP c (dgR L k) L N) then 1 else 0) (nI (i + 1))) → ∀ (m j : Nat), (j + m = L ∨ (j = 1 ∧ L = 0 ∧ m = 0)) → 1 ≤ j → S_BM_isBlind_32 g Q σ (nI k) (nI L) (nI (begL c).length) (nI i) (nI (smP N c.2.2.1)) (nI (4 ^ (j - 1))) (nI j) := by
    intro i N hN hq m
    induction m with
    | zero =>
      intro j hj h1j
      refine sg_BM_isBlind_32 ⟨fun _ => ?_, fun q => absurd (nI_le (by omega) (by omega)) q⟩
      have := l53 i N hN hq L 0 (by omega)
      rw [Nat.pow_zero, Nat.div_one] at this
      rw [show j - 1 = L - 1 by omega]
      exact this
    | succ m ih =>
      intro j hj h1j
      refine sg_BM_isBlind_32 ⟨fun q => absurd q (nI_ge (by omega) (by omega)), fun _ => ?_⟩
      rintro u rfl u2 rfl
      have e : nI (4 ^ (j - 1)) * (4 : Int32) = nI (4 ^ (j + 1 - 1)) := by
        show nI _ * nI 4 = _
        rw [pk_mul, ← Nat.pow_succ, show (j - 1).succ = j + 1 - 1 by omega]
      rw [e, nI_1]
      exact ih (j + 1) (by omega) (by omega)
  have l6 : ∀ (m i : Nat) (al : Bool), i + m = (begL c).length → (al = true ↔ ∀ j N, j < i → (begL c)[j]? = some N → allH (rnP c (dgR L k) L N)) → S_BM_isBlind_6 g Q σ (nI k) (nI L) (nI (begL c).length) (bI al) (nI i) := by
    intro m
    have no : ∀ (i : Nat), (¬ ∀ j N, j < i → (begL c)[j]? = some N → allH (rnP c (dgR L k) L N)) → ¬ Bld c L k := fun i q z => q (fun j N _ hN => z N (List.mem_of_getElem? hN))
    induction m with
    | zero =>
      intro i al hi hal
      refine sg_BM_isBlind_6 ⟨fun _ => ⟨by cases al <;> decide, ?_⟩, fun q => absurd (nI_le (by omega) (by omega)) q⟩
      cases al with
      | true =>
        refine h1 (fun N hN => ?_)
        obtain ⟨j, hj⟩ := List.getElem?_of_mem hN
        have hjl : j < (begL c).length := Nat.not_le.mp (fun q => by rw [List.getElem?_eq_none q] at hj; cases hj)
        exact hal.mp rfl j N (by omega) hj
      | false => exact h0 (no i (fun q => by cases hal.mpr q))
    | succ m ih =>
      intro i al hi hal
      refine sg_BM_isBlind_6 ⟨fun q => absurd q (nI_ge (by omega) (by omega)), fun _ => ⟨fun z => ?_, fun z => ⟨vp_in_nI (by omega) (by decide), ?_⟩⟩⟩
      · cases al with
        | true => exact absurd z (by decide)
        | false => exact ⟨Or.inl rfl, h0 (no i (fun q => by cases hal.mpr q))⟩
      · cases al with
        | false => exact absurd rfl z
        | true =>
          have hil : i < (begL c).length := by omega
          obtain ⟨N, hN⟩ : ∃ N, (begL c)[i]? = some N := ⟨_, List.getElem?_eq_getElem hil⟩
          rintro u rfl
          rw [nI_clamp (by omega), hg i N hN]
          have okN := (begL_ok (by omega) (List.mem_of_getElem? hN)).1
          have hnext : S_BM_isBlind_6 g Q σ (nI k) (nI L) (nI (begL c).length) (if allH (rnP c (dgR L k) L N) then 1 else 0) (nI (i + 1)) := by
            have := ih (i + 1) (decide (allH (rnP c (dgR L k) L N))) (by omega) ⟨fun q j M hj hM => ?_, fun q => decide_eq_true (q i N (by omega) hN)⟩
            · unfold bI at this
              by_cases q : allH (rnP c (dgR L k) L N)
              · rw [decide_eq_true q, if_pos rfl] at this; rw [if_pos q]; exact this
              · rw [decide_eq_false q, if_neg (by decide)] at this; rw [if_neg q]; exact this
            · by_cases e : j = i
              · rw [e, hN] at hM
                cases hM
                exact of_decide_eq_true q
              · exact hal.mp rfl j M (by omega) hM
          have := l32 i N okN hnext (L - 1) 1 (by omega) (Nat.le_refl _)
          exact this
  exact ko_BM_isBlind (sg_BM_isBlind_0 (l6 (begL c).length 0 true (by omega) ⟨fun _ j N hj => absurd hj (by omega), fun _ => rfl⟩))
theorem k_BM_findsBlind {Q : St → Prop} {n : Nat} (hr : RefT σ c P) (hB : c.2.2.1 ≤ 2) (hn : n ≤ 6) (h : ∀ τ, fr [(151, 32), (151, 35), (151, 36), (151, 52), (151, 53)] [154, 170, 171, 172, 173, 179, 180, 181] σ τ → RefT τ c P → ((NoB c (n + 1) ∧ fi τ 151 52 = -2) ∨ ∃ L k, L ≤ n ∧ FirstB c L k ∧ fi τ 151 52 = nI L ∧ fi τ 151 53 = nI k) → Q τ) : K_BM_findsBlind g (nI n) σ Q := by
  have hp := hr.1.2.2.2
  refine ko_BM_findsBlind (sg_BM_findsBlind_0 (lay_to sh179 (by decide) (by omega) hr.1.2.2.1 (fun τ1 f1 p1 => ?_)))
  have r1 : RefT τ1 c P := hr.fr f1 (by decide) (by decide) (by decide) (by decide) (by decide) (by decide) (by decide) (by decide) (by decide)
  refine k_BM_fillsNext r1.x hB (fun τ2 f2 n2 => ?_)
  have x2 : RefX τ2 c := r1.x.fr f2 (by decide) (by decide) (by decide) (by decide) (by decide) (by decide) (by decide) (by decide)
  refine k_BM_fillsBegun x2 hB (fun τ3 f3 b3 hlen => ?_)
  have x3 : RefX τ3 c := x2.fr f3 (by decide) (by decide) (by decide) (by decide) (by decide) (by decide) (by decide) (by decide)
  refine lay_backX (P := P) sh179 (by decide) x3 (fun b hb => by rw [(f3.2 179 (by decide)).1, (f2.2 179 (by decide)).1]; exact p1 b hb) hp (fun τ4 f4 r4 => ?_)
  rintro s5 e5
  have f5 : fr [(151, 52)] [] τ4 s5 := by rw [e5]; exact fr_sfi (by decide)
  have v5 : fi s5 151 52 = -2 := by rw [e5]; rfl
  clear e5
  have r5 : RefT s5 c P := r4.fr f5 (by simp) (by simp) (by simp) (by simp) (by simp) (by simp) (by simp) (by simp) (by simp)
  have n5 : NxR s5 c := by
    unfold NxR
    rw [(f5.2 180 (by simp)).1, (f4.2 180 (by decide)).1, (f3.2 180 (by decide)).1]; exact n2
  have b5 : BgR s5 c := by
    unfold BgR
    rw [(f5.2 181 (by simp)).1, (f4.2 181 (by decide)).1]; exact b3
  have F5 : fr [(151, 32), (151, 35), (151, 36), (151, 52), (151, 53)] [154, 170, 171, 172, 173, 179, 180, 181] σ s5 := (((f1.mo (by simp) (by decide)).tr (f2.mo (by decide) (by decide))).tr ((f3.mo (by simp) (by decide)).tr (f4.mo (by simp) (by decide)))).tr (f5.mo (by decide) (by simp))
  clear f1 f2 f3 f4 f5 x2 x3 r1 r4 n2 b3 p1
  -- once it is found
  have done : ∀ (L k : Nat) (τ : St) (x2 x3 x5 : Int32), L ≤ n → FirstB c L k → fr [(151, 32), (151, 35), (151, 36), (151, 52), (151, 53)] [154, 170, 171, 172, 173, 179, 180, 181] σ τ → RefT τ c P → fi τ 151 52 = nI L → fi τ 151 53 = nI k → S_BM_findsBlind_60 g Q τ (nI n) x2 x3 (nI L) x5 := by
    intro L k τ y2 y3 y5 hL hF hf hrt hv hw
    have hq : Q τ := h τ hf hrt (Or.inr ⟨L, k, hL, hF, hv, hw⟩)
    have l42 : ∀ u1 u2 : Int32, S_BM_findsBlind_42 g Q τ (nI n) y2 u1 u2 := fun u1 u2 => sg_BM_findsBlind_42 ⟨fun _ => hq, fun _ => ⟨fun _ => hq, fun z => absurd (hv ▸ z) (nI_n2 (by omega))⟩⟩
    exact sg_BM_findsBlind_60 ⟨fun _ u1 _ u2 _ => l42 u1 u2, fun _ => ⟨fun _ u1 _ u2 _ => l42 u1 u2, fun z => absurd (hv ▸ z) (nI_n2 (by omega))⟩⟩
  have l60 : ∀ (L : Nat), L ≤ n → NoB c L → (NoB c (L + 1) → S_BM_findsBlind_42 g Q s5 (nI n) (nI (begL c).length) (nI (4 ^ (L + 1))) (nI (L + 1))) → ∀ (m k : Nat), k + m = 4 ^ L → (∀ k', k' < k → ¬ Bld c L k') → S_BM_findsBlind_60 g Q s5 (nI n) (nI (begL c).length) (nI (4 ^ L)) (nI L) (nI k) := by
    intro L hL hno hq m
    have h4L : 4 ^ L ≤ 4096 := Nat.pow_le_pow_right (n := 4) (j := 6) (by decide) (by omega)
    induction m with
    | zero =>
      intro k hk hk'
      refine sg_BM_findsBlind_60 ⟨fun _ => ?_, fun q => absurd (nI_le (by omega) (by omega)) q⟩
      rintro u rfl u2 rfl
      have e : nI (4 ^ L) * (4 : Int32) = nI (4 ^ (L + 1)) := by
        show nI _ * nI 4 = _
        rw [pk_mul, ← Nat.pow_succ]
      rw [e, nI_1]
      refine hq (fun L' hL' k' hk2 => ?_)
      by_cases e : L' = L
      · rw [e] at hk2 ⊢; exact hk' k' (by omega)
      · exact hno L' (by omega) k' hk2
    | succ m ih =>
      intro k hk hk'
      refine sg_BM_findsBlind_60 ⟨fun q => absurd q (nI_ge (by omega) (by omega)), fun _ => ⟨fun z => absurd v5 z, fun _ => ?_⟩⟩
      refine k_BM_isBlind r5.x hB n5 b5 hlen (by omega) (by omega) (fun hbl => ⟨fun z => absurd z (by decide), fun _ => ?_⟩) (fun hbl => ⟨fun _ => ?_, fun z => absurd rfl z⟩)
      · rintro s8 e8 s9 e9 u rfl
        have f9 : fr [(151, 52), (151, 53)] [] s5 s9 := by rw [e9, e8]; exact (fr_sfi (by decide)).tr (fr_sfi (by decide))
        refine done L k s9 _ _ _ hL ⟨by omega, hbl, hk', hno⟩ (F5.tr (f9.mo (by decide) (by simp))) (r5.fr f9 (by simp) (by simp) (by simp) (by simp) (by simp) (by simp) (by simp) (by simp) (by simp)) ?_ ?_
        · rw [e9, e8, fi_sfi, if_neg (by decide), fi_sfi, if_pos ⟨rfl, rfl⟩]
        · rw [e9, fi_sfi, if_pos ⟨rfl, rfl⟩]
      · rintro u rfl
        rw [nI_1]
        refine ih (k + 1) (by omega) (fun k' hk2 => ?_)
        by_cases e : k' = k
        · rw [e]; exact hbl
        · exact hk' k' (by omega)
  have l42 : ∀ (m L : Nat), L + m = n + 1 → NoB c L → S_BM_findsBlind_42 g Q s5 (nI n) (nI (begL c).length) (nI (4 ^ L)) (nI L) := by
    intro m
    induction m with
    | zero =>
      intro L hL hno
      have e : L = n + 1 := by omega
      refine sg_BM_findsBlind_42 ⟨fun _ => h s5 F5 r5 (Or.inl ⟨e ▸ hno, v5⟩), fun q => absurd (nI_lt (by omega) (by omega)) q⟩
    | succ m ih =>
      intro L hL hno
      refine sg_BM_findsBlind_42 ⟨fun q => absurd q (nI_nlt (by omega) (by omega)), fun _ => ⟨fun z => absurd v5 z, fun _ => ?_⟩⟩
      exact l60 L (by omega) hno (fun hno' => ih (L + 1) (by omega) hno') (4 ^ L) 0 (by omega) (fun k' hk' => absurd hk' (by omega))
  exact l42 (n + 1) 0 (by omega) (fun L hL => absurd hL (by omega))
end
section
variable {g : Gx} {σ : St} {d : Dat} {nr : Nat} {Ru : Nat → RuleT}
theorem kM_blind {Q : Int32 → St → Prop} {x y : Int32} (hs : CurM σ d) (ho : OkD nr d) (hr : RulM σ nr Ru) (h0 : (vC d = 0 ∨ 2 < vB d ∨ (∀ n, n ≤ 6 → x ≠ nI n) ∨ (∀ n, n ≤ 6 → y ≠ nI n)) → Q (-1) σ) (h1 : ∀ n w, n ≤ 6 → w ≤ 6 → x = nI n → y = nI w → vC d ≠ 0 → vB d ≤ 2 → ∀ τ, fr [(151, 32), (151, 35), (151, 36), (151, 52), (151, 53)] [154, 170, 171, 172, 173, 179, 180, 181] σ τ → RefT τ (cfg Ru d) (vP d) → Q (blV (cfg Ru d) n w) τ) : K_BM_blind g x y σ Q := by
  have hB := ho.1.2.2.1
  refine ko_BM_blind (sg_BM_blind_0 (kM_box hs ho (fun q => ⟨fun _ => h0 (Or.inl q), fun z => absurd rfl z⟩) (fun q => ⟨fun z => absurd z (by decide), fun _ => ⟨pk_in 2 8 (by decide), ?_⟩⟩)))
  rw [cl2, hs.1.2.2.1]
  refine ⟨fun z => h0 (Or.inr (Or.inl (Nat.not_le.mp (fun y => nI_nlt (a := 2) (b := vB d) y (by decide) z)))), fun z => ?_⟩
  have hB2 : vB d ≤ 2 := Nat.not_lt.mp (fun y => z (nI_lt (a := 2) y (by omega)))
  refine k_BM_inR 0 6 (by decide) (by decide) (by decide) (fun n _ hn en => ⟨fun z => absurd z (by decide), fun _ => ?_⟩) (fun q2 => ⟨fun _ => h0 (Or.inr (Or.inr (Or.inl (fun n hn => q2 n (Nat.zero_le _) hn)))), fun z => absurd rfl z⟩)
  refine k_BM_inR 0 6 (by decide) (by decide) (by decide) (fun w _ hw ew => ⟨fun _ => ?_, fun z => absurd z (by decide)⟩) (fun q2 => ⟨fun z => absurd rfl z, fun _ => h0 (Or.inr (Or.inr (Or.inr (fun n hn => q2 n (Nat.zero_le _) hn))))⟩)
  subst en ew
  refine k_BM_findsBlind (c := cfg Ru d) (P := vP d) (hs.toT ho hr) hB2 hn (fun τ hf rt hres => ?_)
  have h1 := h1 n w hn hw rfl rfl q hB2 τ hf rt
  rcases hres with ⟨hno, hv⟩ | ⟨L, k, hL, hF, hv, hk⟩
  · rw [blV_none hno] at h1
    rw [hv]
    exact ⟨fun _ => h1, fun z => absurd rfl z⟩
  · rw [blV_some hF hL] at h1
    rw [hv, hk]
    have h4L : 4 ^ L ≤ 4096 := Nat.pow_le_pow_right (n := 4) (j := 6) (by decide) (by omega)
    have hkl := hF.1
    refine ⟨fun z => absurd z (nI_n2 (by omega)), fun _ => ⟨fun z => ⟨fun zl => ?_, fun zl => ?_⟩, fun z => ?_⟩⟩
    · have hwz : w ≠ 0 := fun e => z (by rw [e]; rfl)
      have hwL : w ≤ L := (nI_leI (by omega) (by omega)).mp zl
      rw [if_neg hwz, if_neg (by omega)] at h1
      rintro u rfl u2 rfl
      have go : ∀ (m j : Nat), j = w + m → j ≤ L → S_BM_blind_88 g Q τ (nI w) (nI (k / 4 ^ (L - j))) (nI j) := by
        intro m
        induction m with
        | zero =>
          intro j hj hjl
          have e : j = w := by omega
          have hkd : k / 4 ^ (L - w) ≤ k := Nat.div_le_self _ _
          rw [e]
          refine sg_BM_blind_88 ⟨fun _ => ?_, fun q => absurd (nI_le (by omega) (by omega)) q⟩
          have e2 : nI (k / 4 ^ (L - w)) - nI (k / 4 ^ (L - w)) / 4 * 4 = nI (k / 4 ^ (L - w) % 4) := pk_rem (d := 4) (by omega) (by decide) (by decide)
          rw [e2]; exact h1
        | succ m ih =>
          intro j hj hjl
          have hkd : k / 4 ^ (L - j) ≤ k := Nat.div_le_self _ _
          refine sg_BM_blind_88 ⟨fun q => absurd q (nI_ge (by omega) (by omega)), fun _ => ?_⟩
          rintro u rfl u2 rfl
          have e2 : nI (k / 4 ^ (L - j)) / 4 = nI (k / 4 ^ (L - (j - 1))) := by
            have := pk_div (a := k / 4 ^ (L - j)) (d := 4) (by omega) (by decide) (by decide)
            rw [show L - (j - 1) = L - j + 1 by omega, Nat.pow_succ, ← Nat.div_div_eq_div_mul]
            exact this
          have e3 : nI j + (-1) = nI (j - 1) := by
            rw [show j = j - 1 + 1 by omega, ← nI_1, Int32.add_assoc, show (1 : Int32) + -1 = 0 by decide, Int32.add_zero]
            rfl
          rw [e2, e3]
          exact ih (j - 1) (by omega) (by omega)
      have := go (L - w) L (by omega) (Nat.le_refl _)
      rw [Nat.sub_self, Nat.pow_zero, Nat.div_one] at this
      exact this
    · have hwz : w ≠ 0 := fun e => z (by rw [e]; rfl)
      have hwL : L < w := Nat.not_le.mp (fun y => zl (nI_le y (by omega)))
      rw [if_neg hwz, if_pos hwL] at h1
      exact h1
    · have hwz : w = 0 := (nI_eq (b := 0) (by omega) (by decide)).mp z
      rw [if_pos hwz] at h1
      exact h1
end
