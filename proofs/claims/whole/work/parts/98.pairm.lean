-- the reference's table of tips
def sdP (B s : Nat) : Nat → Nat := fun b => if b < B then s / 38 ^ b % 38 else 36
theorem sdP_lt {B s b : Nat} : sdP B s b < 38 := by
  unfold sdP
  split <;> omega
theorem sdP_end {B s b : Nat} (h : B ≤ b) : sdP B s b = 36 := by
  unfold sdP
  rw [if_neg (by omega)]
theorem sdP_okW {C R B s : Nat} (h : ∀ b, b < B → sdP B s b < 36 → sdP B s b % 6 < C ∧ sdP B s b / 6 < R) : okW C R B (sdP B s) := ⟨fun _ hb => sdP_end hb, fun b => ⟨sdP_lt, fun h36 => h b (Nat.not_le.mp (fun q => by rw [sdP_end q] at h36; omega)) h36⟩⟩
theorem smP_lt2 {B : Nat} {P : Nat → Nat} (hB : B ≤ 2) (h : ∀ b, P b < 38) : smP P B < 1444 := by
  have h0 := h 0
  have h1 := h 1
  have e2 : dg P B 2 = 0 := if_neg (by omega)
  have l : ∀ b, dg P B b ≤ P b := fun b => by unfold dg; split <;> omega
  have := l 0
  have := l 1
  unfold smP
  omega
theorem sdP_smP {C R B : Nat} {P : Nat → Nat} (hB : B ≤ 2) (h : okW C R B P) : sdP B (smP P B) = P := by
  funext b
  unfold sdP
  by_cases q : b < B
  · rw [if_pos q]
    have d0 := dg_lt h 0
    have d1 := dg_lt h 1
    have e2 : dg P B 2 = 0 := if_neg (by omega)
    have eb : dg P B b = P b := if_pos q
    rw [← eb]
    rcases (show b = 0 ∨ b = 1 by omega) with rfl | rfl
    · unfold smP; omega
    · unfold smP; omega
  · rw [if_neg q]; exact (h.1 b (by omega)).symm
noncomputable def nxS (c : Cfg) (s w : Nat) : Nat := smP (@ite _ (okW c.1 c.2.1 c.2.2.1 (sdP c.2.2.1 s)) (Classical.propDecidable _) (tipC c w (sdP c.2.2.1 s)).1 (sdP c.2.2.1 s)) c.2.2.1
theorem nxS_ok {c : Cfg} {s w : Nat} (h : okW c.1 c.2.1 c.2.2.1 (sdP c.2.2.1 s)) : nxS c s w = smP (tipC c w (sdP c.2.2.1 s)).1 c.2.2.1 := by
  unfold nxS
  rw [@if_pos _ (Classical.propDecidable _) h]
theorem nxS_no {c : Cfg} {s w : Nat} (h : ¬ okW c.1 c.2.1 c.2.2.1 (sdP c.2.2.1 s)) : nxS c s w = smP (sdP c.2.2.1 s) c.2.2.1 := by
  unfold nxS
  rw [@if_neg _ (Classical.propDecidable _) h]
def NxR (σ : St) (c : Cfg) : Prop := ∀ s w, s < 1444 → w < 4 → ai σ 180 (4 * s + w) = nI (nxS c s w)
section
variable {g : Gx} {σ : St} {c : Cfg} {P : Nat → Nat}
theorem k_BM_sitNowX {Q : Int32 → St → Prop} {C R B : Nat} (hd : Dim σ C R B) (hp : ∀ b, b < B → ai σ 154 b = nI (P b)) (h : Q (nI (smP P B)) σ) : K_BM_situationNow g σ Q := by
  have hB := hd.2.2.2.2.2
  have step : ∀ (b a : Nat), b < 3 → (∀ u2 : Int32, u2 = nI b + (-1) → S_BM_situationNow_4 g Q σ (nI (38 * a + dg P B b)) u2) → S_BM_situationNow_4 g Q σ (nI a) (nI b) := by
    intro b a hb hq
    refine sg_BM_situationNow_4 ⟨fun z => absurd z (nI_pos (by omega)), fun _ => ⟨pk_in 2 8 (by decide), ?_⟩⟩
    rw [cl2, hd.2.2.1]
    have e38 : (38 : Int32) * nI a = nI (38 * a) := by show nI 38 * nI a = _; rw [pk_mul]
    rw [e38]
    unfold dg at hq
    refine ⟨fun z => ?_, fun z => ⟨vp_in_nI hb (by decide), ?_⟩⟩
    · have hle := (nI_leI (by omega) (by omega)).mp z
      rw [if_neg (by omega)] at hq
      rintro u rfl u2 e2
      rw [Int32.add_zero]; exact hq u2 e2
    · have hlt : b < B := Nat.not_le.mp (fun y => z (nI_le y (by omega)))
      rw [if_pos hlt] at hq
      rintro u rfl u2 e2
      rw [nI_clamp (by omega), hp b hlt, nI_add]; exact hq u2 e2
  refine ko_BM_situationNow (sg_BM_situationNow_0 ?_)
  refine step 2 0 (by decide) (fun u2 e2 => ?_)
  have e : u2 = nI 1 := by rw [e2]; decide
  rw [e]
  refine step 1 _ (by decide) (fun u2 e2 => ?_)
  have e : u2 = nI 0 := by rw [e2]; decide
  rw [e]
  refine step 0 _ (by decide) (fun u2 e2 => ?_)
  have e : u2 = -1 := by rw [e2]; decide
  rw [e]
  refine sg_BM_situationNow_4 ⟨fun _ => ?_, fun z => absurd (by decide) z⟩
  have es : 38 * (38 * (38 * 0 + dg P B 2) + dg P B 1) + dg P B 0 = smP P B := by unfold smP; omega
  rw [es]; exact h
theorem k_BM_laysN {Q : St → Prop} {s B : Nat} (hs : s < 54872) (hB : B ≤ 3) (h : ∀ τ, fr [] [154] σ τ → (∀ b, b < B → ai τ 154 b = nI (sdP B s b)) → Q τ) : K_BM_laysSituation g (nI s) σ Q := by
  have step : ∀ (b s : Nat) (τ : St), b < 3 → s < 2 ^ 31 → S_BM_laysSituation_4 g Q (sai τ 154 b (nI (s % 38))) (nI (s / 38)) (nI (b + 1)) → S_BM_laysSituation_4 g Q τ (nI s) (nI b) := by
    intro b s τ hb hs hq
    refine sg_BM_laysSituation_4 ⟨fun z => absurd z (nI_ge (b := 3) hb (by decide)), fun _ => ⟨vp_in_nI hb (by decide), ?_⟩⟩
    rintro s1 rfl u rfl u2 rfl
    have e1 : nI s - nI s / 38 * 38 = nI (s % 38) := pk_rem (d := 38) hs (by decide) (by decide)
    have e2 : nI s / 38 = nI (s / 38) := pk_div (d := 38) hs (by decide) (by decide)
    rw [e1, e2, nI_clamp (by omega), nI_1]; exact hq
  refine ko_BM_laysSituation (sg_BM_laysSituation_0 (step 0 _ σ (by decide) (by omega) (step 1 _ _ (by decide) (by omega) (step 2 _ _ (by decide) (by omega) ?_))))
  refine sg_BM_laysSituation_4 ⟨fun _ => ?_, fun z => absurd (by decide) z⟩
  refine h _ (((fr_sai (by decide)).tr (fr_sai (by decide))).tr (fr_sai (by decide))) (fun b hb => ?_)
  have eb : sdP B s b = s / 38 ^ b % 38 := if_pos hb
  rw [eb]
  rcases (show b = 0 ∨ b = 1 ∨ b = 2 by omega) with rfl | rfl | rfl
  · rw [ai_sai, if_neg (by omega), ai_sai, if_neg (by omega), ai_sai, if_pos ⟨rfl, rfl⟩, Nat.pow_zero, Nat.div_one]
  · rw [ai_sai, if_neg (by omega), ai_sai, if_pos ⟨rfl, rfl⟩, Nat.pow_one]
  · rw [ai_sai, if_pos ⟨rfl, rfl⟩, Nat.div_div_eq_div_mul]
theorem k_BM_fillsNext {Q : St → Prop} (hx : RefX σ c) (hB : c.2.2.1 ≤ 2) (h : ∀ τ, fr [(151, 32), (151, 35), (151, 36)] [154, 170, 171, 172, 173, 180] σ τ → NxR τ c → Q τ) : K_BM_fillsNext g σ Q := by
  have xk : ∀ τ, fr [(151, 32), (151, 35), (151, 36)] [154, 170, 171, 172, 173, 180] σ τ → RefX τ c := fun τ hf => hx.fr hf (by decide) (by decide) (by decide) (by decide) (by decide) (by decide) (by decide) (by decide)
  have put : ∀ (s w : Nat) (τ υ : St), s < 1444 → w < 4 → fr [(151, 32), (151, 35), (151, 36)] [154, 170, 171, 172, 173, 180] σ τ → (∀ n, n < 4 * s + w → ai τ 180 n = nI (nxS c (n / 4) (n % 4))) → fr [(151, 32), (151, 35), (151, 36)] [154, 170, 171, 172, 173] τ υ → (∀ ζ, fr [(151, 32), (151, 35), (151, 36)] [154, 170, 171, 172, 173, 180] σ ζ → (∀ n, n < 4 * s + (w + 1) → ai ζ 180 n = nI (nxS c (n / 4) (n % 4))) → S_BM_fillsNext_11 g Q ζ (nI s) (nI (w + 1))) → ∀ r : Int32, r = nI (nxS c s w) → vp_in ((4 : Int32) * nI s + nI w) 5776 ∧ (∀ s3 : St, s3 = sai υ 180 (((4 : Int32) * nI s + nI w)).toNatClampNeg r → ∀ u4 : Int32, u4 = nI w + 1 → S_BM_fillsNext_11 g Q s3 (nI s) u4) := by
    intro s w τ υ hs hw hf hn fu hq r er
    have e4 : (4 : Int32) * nI s + nI w = nI (4 * s + w) := by
      show nI 4 * nI s + nI w = _
      rw [pk_mul, nI_add]
    rw [e4, nI_clamp (by omega)]
    refine ⟨vp_in_nI (by omega) (by decide), ?_⟩
    rintro s3 rfl u rfl
    rw [nI_1]
    refine hq _ ((hf.tr (fu.mo (by decide) (by decide))).tr (fr_sai (by decide))) (fun n hn' => ?_)
    rw [ai_sai]
    by_cases q : n = 4 * s + w
    · rw [if_pos ⟨rfl, q⟩, er, q, show (4 * s + w) / 4 = s by omega, show (4 * s + w) % 4 = w by omega]
    · rw [if_neg (fun z => q z.2), (fu.2 180 (by decide)).1]; exact hn n (by omega)
  have l26 : ∀ (s w : Nat) (τ : St), s < 1444 → w < 4 → fr [(151, 32), (151, 35), (151, 36)] [154, 170, 171, 172, 173, 180] σ τ → (∀ n, n < 4 * s + w → ai τ 180 n = nI (nxS c (n / 4) (n % 4))) → (∀ ζ, fr [(151, 32), (151, 35), (151, 36)] [154, 170, 171, 172, 173, 180] σ ζ → (∀ n, n < 4 * s + (w + 1) → ai ζ 180 n = nI (nxS c (n / 4) (n % 4))) → S_BM_fillsNext_11 g Q ζ (nI s) (nI (w + 1))) → (∀ b, b < c.2.2.1 → ai τ 154 b = nI (sdP c.2.2.1 s b)) → ∀ (j b : Nat) (rl : Bool), b + j = c.2.2.1 → (rl = true ↔ ∀ b', b' < b → sdP c.2.2.1 s b' < 36 → sdP c.2.2.1 s b' % 6 < c.1 ∧ sdP c.2.2.1 s b' / 6 < c.2.1) → S_BM_fillsNext_26 g Q τ (nI s) (nI w) (bI rl) (nI b) := by
    intro s w τ hs hw hf hn hq hp j
    have hxt := xk τ hf
    induction j with
    | zero =>
      intro b rl hb hrl
      have e : b = c.2.2.1 := by omega
      refine sg_BM_fillsNext_26 ⟨pk_in 2 8 (by decide), ?_⟩
      rw [cl2, hxt.1.2.2.1]
      refine ⟨fun _ => ⟨fun z => ?_, fun z => ?_⟩, fun q => absurd (nI_le (by omega) (by omega)) q⟩
      · have hno : ¬ okW c.1 c.2.1 c.2.2.1 (sdP c.2.2.1 s) := fun ok => by
          have := hrl.mpr (fun b' hb' h36 => (ok.2 b').2 h36)
          rw [bI_0.mp z] at this
          cases this
        exact k_BM_sitNowX hxt.1 hp (put s w τ τ hs hw hf hn fr.rf hq _ (by rw [nxS_no hno]))
      · have ht : rl = true := by cases rl <;> first | rfl | exact absurd rfl z
        have ok := sdP_okW (C := c.1) (R := c.2.1) (fun b' hb' => hrl.mp ht b' (by omega))
        refine k_tips hw (hxt.t hp ok) (fun υ fu ru _ _ => ?_)
        exact k_BM_situationNow ru (put s w τ υ hs hw hf hn fu hq _ (by rw [nxS_ok ok]))
    | succ j ih =>
      intro b rl hb hrl
      have hb3 : b < c.2.2.1 := by omega
      refine sg_BM_fillsNext_26 ⟨pk_in 2 8 (by decide), ?_⟩
      rw [cl2, hxt.1.2.2.1]
      refine ⟨fun q => absurd q (nI_ge hb3 (by omega)), fun _ => ⟨fun z => ?_, fun z => ⟨vp_in_nI (by omega) (by decide), ?_⟩⟩⟩
      · rintro u rfl
        rw [nI_1]
        refine ih (b + 1) false (by omega) ⟨fun q => (by cases q), fun q => ?_⟩
        have := hrl.mpr (fun b' hb' => q b' (by omega))
        rw [bI_0.mp z] at this
        exact this
      · have ht : rl = true := by cases rl <;> first | rfl | exact absurd rfl z
        have hr := hrl.mp ht
        have hlt : sdP c.2.2.1 s b < 38 := sdP_lt
        rw [nI_clamp (by omega), hp b hb3]
        refine ⟨fun z36 => ?_, fun z36 => ⟨vp_in_nI (by omega) (by decide), ?_⟩⟩
        · rintro u rfl
          rw [nI_1]
          have hge : 36 ≤ sdP c.2.2.1 s b := (nI_leI (a := 36) (by decide) (by omega)).mp z36
          refine ih (b + 1) true (by omega) ⟨fun _ b' hb' h36 => ?_, fun _ => rfl⟩
          by_cases e : b' = b
          · rw [e] at h36; omega
          · exact hr b' (by omega) h36
        · have hl36 : sdP c.2.2.1 s b < 36 := Nat.not_le.mp (fun y => z36 (nI_le y (by omega)))
          refine k_BM_isThere hxt.1 (by omega) ?_
          by_cases hin : sdP c.2.2.1 s b % 6 < c.1 ∧ sdP c.2.2.1 s b / 6 < c.2.1
          · rw [if_pos hin]
            refine ⟨fun z => absurd z (by decide), fun _ => ?_⟩
            rintro u rfl
            rw [nI_1]
            refine ih (b + 1) true (by omega) ⟨fun _ b' hb' h36 => ?_, fun _ => rfl⟩
            by_cases e : b' = b
            · rw [e]; exact hin
            · exact hr b' (by omega) h36
          · rw [if_neg hin]
            refine ⟨fun _ => ?_, fun z => absurd rfl z⟩
            rintro u rfl
            rw [nI_1]
            exact ih (b + 1) false (by omega) ⟨fun q => (by cases q), fun q => absurd (q b (by omega) hl36) hin⟩
  have l11 : ∀ (s : Nat), s < 1444 → (∀ ζ, fr [(151, 32), (151, 35), (151, 36)] [154, 170, 171, 172, 173, 180] σ ζ → (∀ n, n < 4 * (s + 1) → ai ζ 180 n = nI (nxS c (n / 4) (n % 4))) → S_BM_fillsNext_2 g Q ζ (nI (s + 1))) → ∀ (j w : Nat) (τ : St), w + j = 4 → fr [(151, 32), (151, 35), (151, 36)] [154, 170, 171, 172, 173, 180] σ τ → (∀ n, n < 4 * s + w → ai τ 180 n = nI (nxS c (n / 4) (n % 4))) → S_BM_fillsNext_11 g Q τ (nI s) (nI w) := by
    intro s hs hq j
    induction j with
    | zero =>
      intro w τ hw hf hn
      have e : w = 4 := by omega
      refine sg_BM_fillsNext_11 ⟨fun _ => ?_, fun q => absurd (nI_le (a := 4) (by omega) (by omega)) q⟩
      rintro u rfl
      rw [nI_1]
      exact hq τ hf (fun n hn' => hn n (by omega))
    | succ j ih =>
      intro w τ hw hf hn
      refine sg_BM_fillsNext_11 ⟨fun q => absurd q (nI_ge (b := 4) (by omega) (by decide)), fun _ => ?_⟩
      refine k_BM_laysN (B := c.2.2.1) (by omega) (by omega) (fun υ fu pu => ?_)
      have Fu := hf.tr (fu.mo (F' := [(151, 32), (151, 35), (151, 36)]) (R' := [154, 170, 171, 172, 173, 180]) (by simp) (by decide))
      exact l26 s w υ hs (by omega) Fu (fun n hn' => by rw [(fu.2 180 (by decide)).1]; exact hn n hn') (fun ζ fz nz => ih (w + 1) ζ (by omega) fz nz) pu c.2.2.1 0 true (by omega) ⟨fun _ b' hb' => absurd hb' (by omega), fun _ => rfl⟩
  have l2 : ∀ (j s : Nat) (τ : St), s + j = 1444 → fr [(151, 32), (151, 35), (151, 36)] [154, 170, 171, 172, 173, 180] σ τ → (∀ n, n < 4 * s → ai τ 180 n = nI (nxS c (n / 4) (n % 4))) → S_BM_fillsNext_2 g Q τ (nI s) := by
    intro j
    induction j with
    | zero =>
      intro s τ hs hf hn
      refine sg_BM_fillsNext_2 ⟨fun _ => h τ hf (fun s' w hs' hw => ?_), fun q => absurd (nI_le (a := 1444) (by omega) (by omega)) q⟩
      rw [hn _ (by omega), show (4 * s' + w) / 4 = s' by omega, show (4 * s' + w) % 4 = w by omega]
    | succ j ih =>
      intro s τ hs hf hn
      refine sg_BM_fillsNext_2 ⟨fun q => absurd q (nI_ge (b := 1444) (by omega) (by decide)), fun _ => ?_⟩
      exact l11 s (by omega) (fun ζ fz nz => ih (s + 1) ζ (by omega) fz nz) 4 0 τ (by omega) hf hn
  exact ko_BM_fillsNext (sg_BM_fillsNext_0 (l2 1444 0 σ (by omega) fr.rf (fun n hn => absurd hn (by omega))))
end
