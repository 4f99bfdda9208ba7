-- the class lists the situations
def Dom (c : Cfg) (P : Nat → Nat) : Prop := okP c.1 c.2.1 c.2.2.1 c.2.2.2.1 P ∧ dsP P ∧ ∀ b, P b ≠ 37
def plF (c : Cfg) (a : Nat) : Nat := if a = 0 then 36 else (plnL c).getD (a - 1) 0
def abP (c : Cfg) (a b : Nat) : Nat → Nat := fun i => if i = 0 then plF c a else if i = 1 then plF c b else 36
def LsR (σ : St) (c : Cfg) : Prop := ∃ k, k ≤ 1369 ∧ fi σ 69 9 = nI k ∧ (∀ i, i < k → ∃ P, Dom c P ∧ ai σ 73 i = nI (sitP P c.2.2.1)) ∧ ∀ P, Dom c P → ∃ i, i < k ∧ ai σ 73 i = nI (sitP P c.2.2.1)
theorem pln_mem {c : Cfg} {x : Nat} : x ∈ plnL c ↔ x < 36 ∧ plnC c x = true := by
  unfold plnL
  rw [List.mem_filter, List.mem_range]
theorem pln_nodup {c : Cfg} : (plnL c).Nodup := List.Pairwise.filter _ List.nodup_range
theorem pln_len {c : Cfg} : (plnL c).length ≤ 36 := by
  have := List.length_filter_le (plnC c) (List.range 36)
  rw [List.length_range] at this
  exact this
theorem plF_get {c : Cfg} {a : Nat} (h : 0 < a) (ha : a ≤ (plnL c).length) : (plnL c)[a - 1]? = some (plF c a) := by
  unfold plF
  rw [if_neg (by omega), List.getD_eq_getElem?_getD, List.getElem?_eq_getElem (by omega)]
  rfl
theorem plF_in {c : Cfg} {a : Nat} (h : 0 < a) (ha : a ≤ (plnL c).length) : plF c a < 36 ∧ plnC c (plF c a) = true := pln_mem.mp (List.mem_of_getElem? (plF_get h ha))
theorem plF_inj {c : Cfg} {a b : Nat} (h : 0 < a) (ha : a ≤ (plnL c).length) (h' : 0 < b) (hb : b ≤ (plnL c).length) (e : plF c a = plF c b) : a = b := by
  have e1 := plF_get h ha
  have e2 := plF_get h' hb
  rw [e, ← e2] at e1
  have := (List.getElem?_inj (by omega) (pln_nodup (c := c))).mp e1
  omega
theorem plF_of {c : Cfg} {x : Nat} (h : x ∈ plnL c) : ∃ a, 0 < a ∧ a ≤ (plnL c).length ∧ plF c a = x := by
  obtain ⟨i, hi⟩ := List.getElem?_of_mem h
  have hl : i < (plnL c).length := Nat.not_le.mp (fun q => by rw [List.getElem?_eq_none q] at hi; cases hi)
  refine ⟨i + 1, by omega, by omega, ?_⟩
  have := plF_get (c := c) (a := i + 1) (by omega) (by omega)
  rw [Nat.add_sub_cancel, hi] at this
  cases this
  rfl
def jI (a : Nat) : Int32 := nI a - 1
theorem jI_0 : jI 0 = -1 := by decide
theorem jI_s {a : Nat} : jI (a + 1) = nI a := by
  unfold jI
  rw [← nI_1, Int32.sub_eq_add_neg, Int32.add_assoc, show (1 : Int32) + -1 = 0 by decide, Int32.add_zero]
theorem jI_1 {a : Nat} : jI a + 1 = jI (a + 1) := by
  cases a with
  | zero => decide
  | succ a => rw [jI_s, jI_s, nI_1]
theorem jI_p {a : Nat} (h : 0 < a) : jI a = nI (a - 1) := by
  cases a with
  | zero => omega
  | succ a => rw [jI_s]; rfl
theorem jI_neg {a : Nat} (ha : a < 2 ^ 31) : jI a < 0 ↔ a = 0 := by
  cases a with
  | zero => exact ⟨fun _ => rfl, fun _ => by decide⟩
  | succ a => rw [jI_s]; exact ⟨fun q => absurd q (nI_pos (by omega)), fun q => by omega⟩
theorem jI_nn {a : Nat} (ha : a < 2 ^ 31) : 0 ≤ jI a ↔ 0 < a := by
  cases a with
  | zero => exact ⟨fun q => absurd q (by decide), fun q => by omega⟩
  | succ a => rw [jI_s]; exact ⟨fun _ => by omega, fun _ => (nI_le (a := 0) (Nat.zero_le _) (by omega))⟩
theorem jI_le {m a : Nat} (hm : m < 2 ^ 31) (ha : a < 2 ^ 31) : nI m ≤ jI a ↔ m < a := by
  cases a with
  | zero =>
    refine ⟨fun q => ?_, fun q => by omega⟩
    rw [jI_0] at q
    exact absurd (Int32.le_trans (nI_le (a := 0) (Nat.zero_le m) hm) q) (by decide)
  | succ a => rw [jI_s, nI_leI hm (by omega)]; omega
theorem jI_eq {a b : Nat} (ha : a < 2 ^ 31) (hb : b < 2 ^ 31) : jI a = jI b ↔ a = b := by
  cases a with
  | zero =>
    cases b with
    | zero => exact ⟨fun _ => rfl, fun _ => rfl⟩
    | succ b =>
      rw [jI_0, jI_s]
      exact ⟨fun q => absurd (q ▸ (by decide : (-1 : Int32) < 0)) (nI_pos (by omega)), fun q => by omega⟩
  | succ a =>
    cases b with
    | zero =>
      rw [jI_0, jI_s]
      exact ⟨fun q => absurd (q ▸ (by decide : (-1 : Int32) < 0)) (nI_pos (by omega)), fun q => by omega⟩
    | succ b => rw [jI_s, jI_s, nI_eq (by omega) (by omega)]; omega
theorem sitP_lt2 {B : Nat} {P : Nat → Nat} (hB : B ≤ 2) : sitP P B < 4096 := by
  have e2 : enB P B 2 = 0 := if_neg (by omega)
  have h0 : enB P B 0 < 64 := enB_lt
  have h1 : enB P B 1 < 64 := enB_lt
  unfold sitP sit
  omega
theorem abP_end {c : Cfg} {a b : Nat} (hB : c.2.2.1 ≤ 2) (ha : c.2.2.1 = 0 → a = 0) (hb : c.2.2.1 ≤ 1 → b = 0) : ∀ i, c.2.2.1 ≤ i → abP c a b i = 36 := by
  intro i hi
  unfold abP
  by_cases e0 : i = 0
  · rw [if_pos e0, ha (by omega)]; rfl
  · rw [if_neg e0]
    by_cases e1 : i = 1
    · rw [if_pos e1, hb (by omega)]; rfl
    · rw [if_neg e1]
theorem abP_dom {c : Cfg} {a b : Nat} (hB : c.2.2.1 ≤ 2) (ha : c.2.2.1 = 0 → a = 0) (hb : c.2.2.1 ≤ 1 → b = 0) (la : a ≤ (plnL c).length) (lb : b ≤ (plnL c).length) (hab : a = 0 ∨ a ≠ b) : Dom c (abP c a b) := by
  have hf : ∀ a, a ≤ (plnL c).length → (plF c a = 36 ∧ a = 0) ∨ (0 < a ∧ plF c a < 36 ∧ plnC c (plF c a) = true) := by
    intro a ha
    by_cases e : a = 0
    · exact Or.inl ⟨by rw [e]; rfl, e⟩
    · exact Or.inr ⟨by omega, plF_in (by omega) ha⟩
  have hi : ∀ i, abP c a b i = 36 ∨ (abP c a b i < 36 ∧ plnC c (abP c a b i) = true) := by
    intro i
    unfold abP
    by_cases e0 : i = 0
    · rw [if_pos e0]
      rcases hf a la with q | q
      · exact Or.inl q.1
      · exact Or.inr q.2
    · rw [if_neg e0]
      by_cases e1 : i = 1
      · rw [if_pos e1]
        rcases hf b lb with q | q
        · exact Or.inl q.1
        · exact Or.inr q.2
      · rw [if_neg e1]; exact Or.inl rfl
  have hpl : ∀ i, abP c a b i < 36 → (abP c a b i % 6 < c.1 ∧ abP c a b i / 6 < c.2.1) ∧ c.2.2.2.1 (abP c a b i) = 0 := by
    intro i h36
    rcases hi i with q | q
    · omega
    · exact of_decide_eq_true q.2
  refine ⟨⟨⟨abP_end hB ha hb, fun i => ⟨?_, fun h36 => (hpl i h36).1⟩⟩, fun i h36 => (hpl i h36).2⟩, ?_, fun i => ?_⟩
  · rcases hi i with q | q <;> omega
  · have v0 : abP c a b 0 = plF c a := rfl
    have v1 : abP c a b 1 = plF c b := rfl
    have v2 : abP c a b 2 = 36 := rfl
    have ne : plF c a < 36 → plF c a ≠ plF c b := by
      intro q e
      rcases hf a la with z | z
      · omega
      · rcases hf b lb with y | y
        · omega
        · have := plF_inj z.1 la y.1 lb e
          omega
    intro x y hx hy hxy h36
    rcases (show x = 0 ∨ x = 1 ∨ x = 2 by omega) with rfl | rfl | rfl <;> rcases (show y = 0 ∨ y = 1 ∨ y = 2 by omega) with rfl | rfl | rfl
    · exact absurd rfl hxy
    · rw [v0] at h36; rw [v0, v1]; exact ne h36
    · rw [v2]; omega
    · rw [v1] at h36; rw [v0, v1]; intro e; exact ne (by omega) e.symm
    · exact absurd rfl hxy
    · rw [v2]; omega
    · rw [v2] at h36; omega
    · rw [v2] at h36; omega
    · exact absurd rfl hxy
  · rcases hi i with q | q <;> omega
theorem dom_ab {c : Cfg} {P : Nat → Nat} (hB : c.2.2.1 ≤ 2) (h : Dom c P) : ∃ a b, (c.2.2.1 = 0 → a = 0) ∧ (c.2.2.1 ≤ 1 → b = 0) ∧ a ≤ (plnL c).length ∧ b ≤ (plnL c).length ∧ (a = 0 ∨ a ≠ b) ∧ P = abP c a b := by
  obtain ⟨⟨⟨hN, hW⟩, hK⟩, hd, h37⟩ := h
  have one : ∀ i, ∃ a, a ≤ (plnL c).length ∧ plF c a = P i ∧ (P i = 36 → a = 0) := by
    intro i
    by_cases q : P i = 36
    · exact ⟨0, Nat.zero_le _, q.symm, fun _ => rfl⟩
    · have h38 := (hW i).1
      have hn := h37 i
      have h36 : P i < 36 := by omega
      obtain ⟨a, h0, hl, e⟩ := plF_of (c := c) (x := P i) (pln_mem.mpr ⟨h36, decide_eq_true ⟨(hW i).2 h36, hK i h36⟩⟩)
      exact ⟨a, hl, e, fun z => absurd z q⟩
  obtain ⟨a, la, ea, za⟩ := one 0
  obtain ⟨b, lb, eb, zb⟩ := one 1
  refine ⟨a, b, fun q => za (hN 0 (by omega)), fun q => zb (hN 1 (by omega)), la, lb, ?_, ?_⟩
  · by_cases e : a = 0
    · exact Or.inl e
    · right
      intro e2
      have : P 0 = P 1 := by rw [← ea, ← eb, e2]
      have h0 := plF_in (c := c) (a := a) (by omega) la
      exact hd 0 1 (by decide) (by decide) (by decide) (by omega) this
  · funext i
    unfold abP
    by_cases e0 : i = 0
    · rw [if_pos e0, ea, e0]
    · rw [if_neg e0]
      by_cases e1 : i = 1
      · rw [if_pos e1, eb, e1]
      · rw [if_neg e1]; exact hN i (by omega)
theorem abP_sit {c : Cfg} {a b : Nat} (hB : c.2.2.1 ≤ 2) (ha : c.2.2.1 = 0 → a = 0) (hb : c.2.2.1 ≤ 1 → b = 0) : sitP (abP c a b) c.2.2.1 = enc (plF c a) + 64 * enc (plF c b) := by
  have hN := abP_end (c := c) hB ha hb
  unfold sitP sit
  rw [enB_norm hN, enB_norm hN, enB_norm hN]
  show enc (plF c a) + 64 * enc (plF c b) + 4096 * enc 36 = _
  rw [enc_36, Nat.mul_zero, Nat.add_zero]
section
variable {g : Gx} {σ : St} {c : Cfg}
theorem k_PA_listSituations {Q : St → Prop} (hB : c.2.2.1 ≤ 2) (hp : ∀ k, k < (plnL c).length → ai σ 70 k = nI (spc ((plnL c).getD k 0))) (h : ∀ τ, fr [(69, 9)] [73] σ τ → LsR τ c → Q τ) : K_PA_listSituations g (nI c.2.2.1) (nI (plnL c).length) σ Q := by
  have hl36 := pln_len (c := c)
  obtain ⟨mA, hmA⟩ : ∃ mA, mA = if c.2.2.1 = 0 then 0 else (plnL c).length := ⟨_, rfl⟩
  obtain ⟨mB, hmB⟩ : ∃ mB, mB = if c.2.2.1 ≤ 1 then 0 else (plnL c).length := ⟨_, rfl⟩
  have bA : mA ≤ (plnL c).length := by rw [hmA]; split <;> omega
  have bB : mB ≤ (plnL c).length := by rw [hmB]; split <;> omega
  have zA : ∀ a, a ≤ mA → c.2.2.1 = 0 → a = 0 := fun a ha e => by rw [hmA, if_pos e] at ha; omega
  have zB : ∀ b, b ≤ mB → c.2.2.1 ≤ 1 → b = 0 := fun b hb e => by rw [hmB, if_pos e] at hb; omega
  have fin : ∀ τ k, fr [(69, 9)] [73] σ τ → k ≤ 1369 → fi τ 69 9 = nI k → (∀ i, i < k → ∃ P, Dom c P ∧ ai τ 73 i = nI (sitP P c.2.2.1)) → (∀ a b, a ≤ mA → b ≤ mB → (a = 0 ∨ a ≠ b) → ∃ i, i < k ∧ ai τ 73 i = nI (sitP (abP c a b) c.2.2.1)) → Q τ := by
    intro τ k hf hk h9 h1 h2
    refine h τ hf ⟨k, hk, h9, h1, fun P hP => ?_⟩
    obtain ⟨a, b, ha, hb, la, lb, hab, rfl⟩ := dom_ab hB hP
    refine h2 a b ?_ ?_ hab
    · rw [hmA]; split
      · rename_i e; rw [ha e]; exact Nat.zero_le _
      · exact la
    · rw [hmB]; split
      · rename_i e; rw [hb e]; exact Nat.zero_le _
      · exact lb
  have l39 : ∀ (a : Nat), a ≤ mA → (∀ τ k, fr [(69, 9)] [73] σ τ → k ≤ 37 * (a + 1) → fi τ 69 9 = nI k → (∀ i, i < k → ∃ P, Dom c P ∧ ai τ 73 i = nI (sitP P c.2.2.1)) → (∀ a' b', a' < a + 1 → b' ≤ mB → (a' = 0 ∨ a' ≠ b') → ∃ i, i < k ∧ ai τ 73 i = nI (sitP (abP c a' b') c.2.2.1)) → S_PA_listSituations_30 g Q τ (nI mA) (nI mB) (jI (a + 1))) →
      ∀ (m b : Nat) (τ : St) (k : Nat), b + m = mB + 1 → fr [(69, 9)] [73] σ τ → k ≤ 37 * a + b → fi τ 69 9 = nI k → (∀ i, i < k → ∃ P, Dom c P ∧ ai τ 73 i = nI (sitP P c.2.2.1)) → (∀ a' b', ((a' < a ∧ b' ≤ mB) ∨ (a' = a ∧ b' < b)) → (a' = 0 ∨ a' ≠ b') → ∃ i, i < k ∧ ai τ 73 i = nI (sitP (abP c a' b') c.2.2.1)) → S_PA_listSituations_39 g Q τ (nI mA) (nI mB) (jI a) (jI b) := by
    intro a ha hq m
    induction m with
    | zero =>
      intro b τ k hb hf hk h9 h1 h2
      refine sg_PA_listSituations_39 ⟨fun _ => ?_, fun q => absurd ((jI_le (by omega) (by omega)).mpr (by omega)) q⟩
      rintro u rfl
      rw [jI_1]
      exact hq τ k hf (by omega) h9 h1 (fun a' b' ha' hb' => h2 a' b' (by omega))
    | succ m ih =>
      intro b τ k hb hf hk h9 h1 h2
      have hbm : b ≤ mB := by omega
      have go58 : (a = 0 ∨ a ≠ b) → S_PA_listSituations_58 g Q τ (nI mA) (nI mB) (jI a) (jI b) := by
        intro hab
        have eP : ∀ x, 0 < x → x ≤ (plnL c).length → vp_in (jI x) 36 ∧ ai τ 70 (jI x).toNatClampNeg = nI (enc (plF c x)) := by
          intro x hx hxl
          rw [jI_p hx, nI_clamp (by omega), (hf.2 70 (by decide)).1, hp (x - 1) (by omega)]
          refine ⟨vp_in_nI (by omega) (by decide), ?_⟩
          have e : (plnL c).getD (x - 1) 0 = plF c x := by unfold plF; rw [if_neg (by omega)]
          rw [e, enc_c (plF_in hx hxl).1]
        have e0 : ∀ x, x = 0 → nI (enc (plF c x)) = 0 := by
          rintro x rfl; rfl
        have step : S_PA_listSituations_104 g Q τ (nI mA) (nI mB) (jI a) (jI b) (nI (enc (plF c a))) (nI (enc (plF c b))) := by
          refine sg_PA_listSituations_104 ⟨by rw [h9]; exact vp_in_nI (by omega) (by decide), ?_⟩
          rintro s1 e1 s2 e2 u rfl
          have ev : nI (enc (plF c a)) + (64 : Int32) * nI (enc (plF c b)) = nI (sitP (abP c a b) c.2.2.1) := by
            rw [abP_sit hB (zA a ha) (zB b hbm)]
            show _ + nI 64 * nI _ = _
            rw [pk_mul, nI_add]
          rw [ev, h9, nI_clamp (by omega)] at e1
          have v9 : fi s2 69 9 = nI (k + 1) := by
            rw [e2, fi_sfi, if_pos ⟨rfl, rfl⟩, e1, fi_sai, h9, nI_1]
          have fs : fr [(69, 9)] [73] τ s2 := by rw [e2, e1]; exact (fr_sai (by decide)).tr (fr_sfi (by decide))
          have v73 : ∀ i, ai s2 73 i = if i = k then nI (sitP (abP c a b) c.2.2.1) else ai τ 73 i := by
            intro i
            rw [e2, ai_sfi, e1, ai_sai]
            by_cases e : i = k
            · rw [if_pos ⟨rfl, e⟩, if_pos e]
            · rw [if_neg (fun q => e q.2), if_neg e]
          rw [jI_1]
          refine ih (b + 1) s2 (k + 1) (by omega) (hf.tr fs) (by omega) v9 (fun i hi => ?_) (fun a' b' hab' hne => ?_)
          · rw [v73]
            by_cases e : i = k
            · rw [if_pos e]; exact ⟨_, abP_dom hB (zA a ha) (zB b hbm) (by omega) (by omega) hab, rfl⟩
            · rw [if_neg e]; exact h1 i (by omega)
          · by_cases e : a' = a ∧ b' = b
            · exact ⟨k, by omega, by rw [v73, if_pos rfl, e.1, e.2]⟩
            · obtain ⟨i, hi, hv⟩ := h2 a' b' (by omega) hne
              exact ⟨i, by omega, by rw [v73, if_neg (by omega)]; exact hv⟩
        refine sg_PA_listSituations_58 ⟨fun q => absurd q (by rw [h9]; exact nI_ge (b := 1369) (by omega) (by decide)), fun _ => ⟨fun qa => ?_, fun qa => ?_⟩⟩
        · have h0a := (jI_nn (by omega)).mp qa
          obtain ⟨i1, v1⟩ := eP a h0a (by omega)
          refine ⟨i1, ?_⟩
          rintro u rfl
          rw [v1]
          refine ⟨fun qb => ?_, fun qb => ?_⟩
          · obtain ⟨i2, v2⟩ := eP b ((jI_nn (by omega)).mp qb) (by omega)
            exact ⟨i2, by rw [v2]; exact step⟩
          · have hb0 : b = 0 := by
              have : ¬ 0 < b := fun z => qb ((jI_nn (by omega)).mpr z)
              omega
            have := step
            rw [e0 b hb0] at this
            exact this
        · have ha0 : a = 0 := by
            have : ¬ 0 < a := fun z => qa ((jI_nn (by omega)).mpr z)
            omega
          have step := step
          rw [e0 a ha0] at step
          refine ⟨fun qb => ?_, fun qb => ?_⟩
          · obtain ⟨i2, v2⟩ := eP b ((jI_nn (by omega)).mp qb) (by omega)
            exact ⟨i2, by rw [v2]; exact step⟩
          · have hb0 : b = 0 := by
              have : ¬ 0 < b := fun z => qb ((jI_nn (by omega)).mpr z)
              omega
            rw [e0 b hb0] at step
            exact step
      refine sg_PA_listSituations_39 ⟨fun q => absurd ((jI_le (by omega) (by omega)).mp q) (by omega), fun _ => ⟨fun z => go58 (Or.inl ((jI_neg (by omega)).mp z)), fun z => ⟨fun e => ?_, fun e => go58 (Or.inr (fun y => e (by rw [y])))⟩⟩⟩
      have eab := (jI_eq (by omega) (by omega)).mp e
      rintro u rfl
      rw [jI_1]
      refine ih (b + 1) τ k (by omega) hf (by omega) h9 h1 (fun a' b' hab' hne => h2 a' b' ?_ hne)
      have ha0 : a ≠ 0 := fun y => z ((jI_neg (by omega)).mpr y)
      omega
  have l30 : ∀ (m a : Nat) (τ : St) (k : Nat), a + m = mA + 1 → fr [(69, 9)] [73] σ τ → k ≤ 37 * a → fi τ 69 9 = nI k → (∀ i, i < k → ∃ P, Dom c P ∧ ai τ 73 i = nI (sitP P c.2.2.1)) → (∀ a' b', a' < a → b' ≤ mB → (a' = 0 ∨ a' ≠ b') → ∃ i, i < k ∧ ai τ 73 i = nI (sitP (abP c a' b') c.2.2.1)) → S_PA_listSituations_30 g Q τ (nI mA) (nI mB) (jI a) := by
    intro m
    induction m with
    | zero =>
      intro a τ k ha hf hk h9 h1 h2
      refine sg_PA_listSituations_30 ⟨fun _ => fin τ k hf (by omega) h9 h1 (fun a' b' ha' hb' => h2 a' b' (by omega) hb'), fun q => absurd ((jI_le (by omega) (by omega)).mpr (by omega)) q⟩
    | succ m ih =>
      intro a τ k ha hf hk h9 h1 h2
      refine sg_PA_listSituations_30 ⟨fun q => absurd ((jI_le (by omega) (by omega)).mp q) (by omega), fun _ => ?_⟩
      exact l39 a (by omega) (fun τ' k' hf' hk' h9' h1' h2' => ih (a + 1) τ' k' (by omega) hf' hk' h9' h1' h2') (mB + 1) 0 τ k (by omega) hf (by omega) h9 h1 (fun a' b' hab' hne => h2 a' b' (by omega) (by omega) hne)
  refine ko_PA_listSituations (sg_PA_listSituations_0 ?_)
  rintro s1 e1
  have f1 : fr [(69, 9)] [73] σ s1 := by rw [e1]; exact fr_sfi (by decide)
  have v9 : fi s1 69 9 = nI 0 := by rw [e1]; rfl
  have start : S_PA_listSituations_30 g Q s1 (nI mA) (nI mB) (-1) := l30 (mA + 1) 0 s1 0 (by omega) f1 (by omega) v9 (fun i hi => absurd hi (by omega)) (fun a' b' ha' => absurd ha' (by omega))
  have n14 : S_PA_listSituations_14 g Q s1 (nI c.2.2.1) (nI (plnL c).length) (nI mA) := by
    refine sg_PA_listSituations_14 ⟨fun q => ?_, fun q => ?_⟩
    · have hle : c.2.2.1 ≤ 1 := (nI_leI (b := 1) (by omega) (by decide)).mp q
      rw [hmB, if_pos hle] at start
      exact start
    · have hle : ¬ c.2.2.1 ≤ 1 := fun y => q (nI_le (b := 1) y (by decide))
      rw [hmB, if_neg hle] at start
      exact start
  refine ⟨fun q => ?_, fun q => ?_⟩
  · have hz : c.2.2.1 = 0 := by
      have : c.2.2.1 ≤ 0 := (nI_leI (b := 0) (by omega) (by decide)).mp q
      omega
    rw [hmA, if_pos hz] at n14
    exact n14
  · have hz : ¬ c.2.2.1 = 0 := fun y => q (by rw [y]; decide)
    rw [hmA, if_neg hz] at n14
    exact n14
end
