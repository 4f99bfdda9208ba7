-- the reference: blind
def rnP (c : Cfg) (r : Nat → Nat) : Nat → (Nat → Nat) → Nat → Nat
  | 0, P => P
  | n + 1, P => (tipC c (r n) (rnP c r n P)).1
theorem rnP_s {c : Cfg} {r : Nat → Nat} {n : Nat} {P : Nat → Nat} : rnP c r (n + 1) P = (tipC c (r n) (rnP c r n P)).1 := rfl
theorem rnP_ok {c : Cfg} {r : Nat → Nat} {n : Nat} {P : Nat → Nat} (hC : c.1 ≤ 6) (hR : c.2.1 ≤ 6) (hr : ∀ i, i < n → r i < 4) (hp : okP c.1 c.2.1 c.2.2.1 c.2.2.2.1 P) : okP c.1 c.2.1 c.2.2.1 c.2.2.2.1 (rnP c r n P) := by
  induction n with
  | zero => exact hp
  | succ n ih => rw [rnP_s]; exact tipC_ok hC hR (hr n (by omega)) (ih (fun i hi => hr i (by omega)))
theorem rnP_congr {c : Cfg} {r r' : Nat → Nat} {n : Nat} {P : Nat → Nat} (h : ∀ i, i < n → r i = r' i) : rnP c r n P = rnP c r' n P := by
  induction n with
  | zero => rfl
  | succ n ih => rw [rnP_s, rnP_s, ih (fun i hi => h i (by omega)), h n (by omega)]
def dgR (L k i : Nat) : Nat := k / 4 ^ (L - 1 - i) % 4
theorem dgR_lt {L k i : Nat} : dgR L k i < 4 := Nat.mod_lt _ (by decide)
def Bld (c : Cfg) (L k : Nat) : Prop := ∀ P, P ∈ begL c → allH (rnP c (dgR L k) L P)
def FirstB (c : Cfg) (L k : Nat) : Prop := k < 4 ^ L ∧ Bld c L k ∧ (∀ k', k' < k → ¬ Bld c L k') ∧ ∀ L', L' < L → ∀ k', k' < 4 ^ L' → ¬ Bld c L' k'
def NoB (c : Cfg) (n : Nat) : Prop := ∀ L, L < n → ∀ k, k < 4 ^ L → ¬ Bld c L k
theorem firstB_un {c : Cfg} {L k L' k' : Nat} (h : FirstB c L k) (h' : FirstB c L' k') : L = L' ∧ k = k' := by
  have e : L = L' := by
    rcases Nat.lt_trichotomy L L' with q | q | q
    · exact absurd h.2.1 (h'.2.2.2 L q k h.1)
    · exact q
    · exact absurd h'.2.1 (h.2.2.2 L' q k' h'.1)
  subst e
  refine ⟨rfl, ?_⟩
  rcases Nat.lt_trichotomy k k' with q | q | q
  · exact absurd h.2.1 (h'.2.2.1 k q)
  · exact q
  · exact absurd h'.2.1 (h.2.2.1 k' q)
noncomputable def blV (c : Cfg) (n what : Nat) : Int32 := @dite _ (∃ q : Nat × Nat, q.1 ≤ n ∧ FirstB c q.1 q.2) (Classical.propDecidable _) (fun h => if what = 0 then nI h.choose.1 else if h.choose.1 < what then -2 else nI (h.choose.2 / 4 ^ (h.choose.1 - what) % 4)) (fun _ => -2)
theorem blV_some {c : Cfg} {n what L k : Nat} (h : FirstB c L k) (hn : L ≤ n) : blV c n what = if what = 0 then nI L else if L < what then -2 else nI (k / 4 ^ (L - what) % 4) := by
  have hx : ∃ q : Nat × Nat, q.1 ≤ n ∧ FirstB c q.1 q.2 := ⟨(L, k), hn, h⟩
  unfold blV
  rw [@dif_pos _ (Classical.propDecidable _) hx]
  obtain ⟨e1, e2⟩ := firstB_un hx.choose_spec.2 h
  rw [e1, e2]
theorem blV_none {c : Cfg} {n what : Nat} (h : NoB c (n + 1)) : blV c n what = -2 := by
  unfold blV
  rw [@dif_neg _ (Classical.propDecidable _)]
  rintro ⟨q, hq, hf⟩
  exact h q.1 (by omega) q.2 hf.1 hf.2.1
def BgR (σ : St) (c : Cfg) : Prop := ∀ i P, (begL c)[i]? = some P → ai σ 181 i = nI (smP P c.2.2.1)
theorem nxS_sm {c : Cfg} {w : Nat} {P : Nat → Nat} (hB : c.2.2.1 ≤ 2) (h : okW c.1 c.2.1 c.2.2.1 P) : nxS c (smP P c.2.2.1) w = smP (tipC c w P).1 c.2.2.1 := by
  have e := sdP_smP hB h
  rw [nxS_ok (by rw [e]; exact h), e]
section
variable {g : Gx} {σ : St} {c : Cfg} {P : Nat → Nat}
theorem k_BM_isWhole {Q : Int32 → St → Prop} {C R B s : Nat} (hd : Dim σ C R B) (hB : B ≤ 2) (hs : s < 1444) (h : Q (if allH (sdP B s) then 1 else 0) σ) : K_BM_isWhole g (nI s) σ Q := by
  have e0 : (nI s - nI s / 38 * 38 : Int32) = nI (s % 38) := pk_rem (d := 38) (by omega) (by decide) (by decide)
  have e1 : nI s / 38 = nI (s / 38) := pk_div (d := 38) (by omega) (by decide) (by decide)
  have v0 : 0 < B → sdP B s 0 = s % 38 := fun q => by unfold sdP; rw [if_pos q, Nat.pow_zero, Nat.div_one]
  have v1 : 1 < B → sdP B s 1 = s / 38 := fun q => by unfold sdP; rw [if_pos q, Nat.pow_one]; omega
  have fin : ∀ fl : Bool, Q (bI fl) σ → S_BM_isWhole_4 g Q σ (nI s) (bI fl) (nI B) := by
    intro fl hq
    refine sg_BM_isWhole_4 ⟨pk_in 2 8 (by decide), ?_⟩
    rw [cl2, hd.2.2.1]
    exact ⟨fun _ => ⟨by cases fl <;> decide, hq⟩, fun q => absurd (nI_le (Nat.le_refl _) (by omega)) q⟩
  have step : ∀ (b : Nat) (fl : Bool), b < B → S_BM_isWhole_4 g Q σ (nI s) (bI (fl && decide (sdP B s b = 36))) (nI (b + 1)) → S_BM_isWhole_4 g Q σ (nI s) (bI fl) (nI b) := by
    intro b fl hb hq
    refine sg_BM_isWhole_4 ⟨pk_in 2 8 (by decide), ?_⟩
    rw [cl2, hd.2.2.1]
    refine ⟨fun q => absurd q (nI_ge hb (by omega)), fun _ => ⟨fun z => ?_, fun z => ?_⟩⟩
    · rintro u rfl
      rw [nI_1]
      rw [bI_0.mp z] at hq
      exact hq
    · have ht : fl = true := by cases fl <;> first | rfl | exact absurd rfl z
      rw [ht] at hq
      rw [e0, e1, nI_1]
      have yes : sdP B s b = 36 → S_BM_isWhole_4 g Q σ (nI s) 1 (nI (b + 1)) := fun q => by rw [q] at hq; exact hq
      have no : sdP B s b ≠ 36 → S_BM_isWhole_4 g Q σ (nI s) 0 (nI (b + 1)) := fun q => by rw [decide_eq_false q] at hq; exact hq
      have hz : nI b = 0 ↔ b = 0 := nI_eq (b := 0) (by omega) (by decide)
      have h36a : nI (s / 38) = 36 ↔ s / 38 = 36 := nI_eq (b := 36) (by omega) (by decide)
      have h36b : nI (s % 38) = 36 ↔ s % 38 = 36 := nI_eq (b := 36) (by omega) (by decide)
      refine ⟨fun z1 => ?_, fun z0 => ?_⟩
      · have eb : b = 1 := by
          have : b ≠ 0 := fun q => z1 (hz.mpr q)
          omega
        rw [eb, v1 (by omega)] at yes no
        rw [h36a, eb]
        exact ⟨fun q => by rintro u rfl; exact no q, fun q => by rintro u rfl; exact yes q⟩
      · have eb : b = 0 := hz.mp z0
        rw [eb, v0 (by omega)] at yes no
        rw [h36b, eb]
        exact ⟨fun q => by rintro u rfl; exact no q, fun q => by rintro u rfl; exact yes q⟩
  refine ko_BM_isWhole (sg_BM_isWhole_0 ?_)
  have e2 : sdP B s 2 = 36 := sdP_end hB
  rcases (show B = 0 ∨ B = 1 ∨ B = 2 by omega) with rfl | rfl | rfl
  · have : allH (sdP 0 s) := ⟨sdP_end (by omega), sdP_end (by omega), e2⟩
    rw [if_pos this] at h
    exact fin true h
  · refine step 0 true (by omega) (fin _ ?_)
    have e : (if allH (sdP 1 s) then (1 : Int32) else 0) = bI (true && decide (sdP 1 s 0 = 36)) := by
      have e1 : sdP 1 s 1 = 36 := sdP_end (by omega)
      unfold bI
      by_cases q : sdP 1 s 0 = 36
      · rw [if_pos ⟨q, e1, e2⟩, decide_eq_true q]; rfl
      · rw [if_neg (fun z => q z.1), decide_eq_false q]; rfl
    rw [← e]; exact h
  · refine step 0 true (by omega) (step 1 _ (by omega) (fin _ ?_))
    have e : (if allH (sdP 2 s) then (1 : Int32) else 0) = bI (true && decide (sdP 2 s 0 = 36) && decide (sdP 2 s 1 = 36)) := by
      unfold bI
      by_cases q : sdP 2 s 0 = 36
      · by_cases q1 : sdP 2 s 1 = 36
        · rw [if_pos ⟨q, q1, e2⟩, decide_eq_true q, decide_eq_true q1]; rfl
        · rw [if_neg (fun z => q1 z.2.1), decide_eq_false q1]; simp
      · rw [if_neg (fun z => q z.1), decide_eq_false q]; rfl
    rw [← e]; exact h
theorem k_BM_fillsBegun {Q : Int32 → St → Prop} (hx : RefX σ c) (hB : c.2.2.1 ≤ 2) (h : ∀ τ, fr [] [154, 181] σ τ → BgR τ c → (begL c).length ≤ 1296 → Q (nI (begL c).length) τ) : K_BM_fillsBegun g σ Q := by
  have xk : ∀ τ, fr [] [154, 181] σ τ → RefX τ c := fun τ hf => hx.fr hf (by decide) (by decide) (by decide) (by decide) (by decide) (by decide) (by decide) (by decide)
  have h36 : 36 ^ c.2.2.1 ≤ 1296 := Nat.pow_le_pow_right (n := 36) (by decide) hB
  obtain ⟨dec, hdece⟩ : ∃ dec : Nat → Option (Nat → Nat), dec = fun k => if (digN 36 c.2.2.1 k).all (plnC c) ∧ (digN 36 c.2.2.1 k).Nodup then some (plL (digN 36 c.2.2.1 k)) else none := ⟨_, rfl⟩
  have hdec : (List.range (36 ^ c.2.2.1)).filterMap dec = begL c := by rw [hdece]; exact beg_ref c
  have hlen : ∀ k, ((List.range k).filterMap dec).length ≤ k := fun k => by
    have := List.length_filterMap_le dec (List.range k)
    rw [List.length_range] at this
    exact this
  have main : ∀ (j k : Nat) (τ : St), k + j = 36 ^ c.2.2.1 → fr [] [154, 181] σ τ → (∀ i P, ((List.range k).filterMap dec)[i]? = some P → ai τ 181 i = nI (smP P c.2.2.1)) → S_BM_fillsBegun_4 g Q τ (nI ((List.range k).filterMap dec).length) (nI k) := by
    intro j
    induction j with
    | zero =>
      intro k τ hk hf hi
      have e : k = 36 ^ c.2.2.1 := by omega
      have hl := hlen k
      rw [e, hdec] at hi hl ⊢
      exact sg_BM_fillsBegun_4 (k_BM_codesX (xk τ hf).1 ⟨fun _ => h τ hf hi (by omega), fun q => absurd (nI_le (by omega) (by omega)) q⟩)
    | succ j ih =>
      intro k τ hk hf hi
      have hkn : k < 36 ^ c.2.2.1 := by omega
      have hl := hlen k
      refine sg_BM_fillsBegun_4 (k_BM_codesX (xk τ hf).1 ⟨fun q => absurd q (nI_ge hkn (by omega)), fun _ => ⟨pk_in 2 8 (by decide), ?_⟩⟩)
      rw [cl2, (xk τ hf).1.2.2.1]
      have es : (List.range (k + 1)).filterMap dec = (List.range k).filterMap dec ++ (dec k).toList := by
        rw [List.range_succ, List.filterMap_append]
        congr 1
      refine k_BM_isBeginning (xk τ hf) hkn (fun hgood υ fu pu => ⟨fun z => absurd z (by decide), fun _ => ?_⟩) (fun hbad υ fu => ⟨fun _ => ?_, fun z => absurd rfl z⟩)
      · have edk : dec k = some (plL (digN 36 c.2.2.1 k)) := by rw [hdece]; exact if_pos hgood
        obtain ⟨N0, hN0⟩ : ∃ P, P = plL (digN 36 c.2.2.1 k) := ⟨_, rfl⟩
        rw [← hN0] at edk pu
        rw [edk] at es
        have Fu := hf.tr (fu.mo (F' := []) (R' := [154, 181]) (by simp) (by decide))
        refine k_BM_sitNowX (xk υ Fu).1 pu ⟨vp_in_nI (by omega) (by decide), ?_⟩
        rintro s3 rfl u rfl u2 rfl
        rw [nI_1, nI_1, nI_clamp (by omega)]
        have hres := ih (k + 1) (sai υ 181 ((List.range k).filterMap dec).length (nI (smP N0 c.2.2.1))) (by omega) (Fu.tr (fr_sai (by decide))) (fun i P hP => by
          rw [es] at hP
          rw [ai_sai]
          by_cases q : i = ((List.range k).filterMap dec).length
          · rw [if_pos ⟨rfl, q⟩]
            rw [q, List.getElem?_append_right (Nat.le_refl _), Nat.sub_self] at hP
            have : N0 = P := by simpa using hP
            rw [this]
          · rw [if_neg (fun z => q z.2), (fu.2 181 (by decide)).1]
            refine hi i P ?_
            rcases Nat.lt_or_ge i ((List.range k).filterMap dec).length with q1 | q1
            · rw [List.getElem?_append_left q1] at hP; exact hP
            · rw [List.getElem?_append_right q1] at hP
              have : (Option.some N0).toList[i - ((List.range k).filterMap dec).length]? = none := List.getElem?_eq_none (by simp; omega)
              rw [this] at hP
              cases hP)
        rw [es, List.length_append] at hres
        exact hres
      · have edk : dec k = none := by rw [hdece]; exact if_neg hbad
        rw [edk, Option.toList_none, List.append_nil] at es
        rintro u rfl
        rw [nI_1]
        have hres := ih (k + 1) υ (by omega) (hf.tr (fu.mo (F' := []) (R' := [154, 181]) (by simp) (by decide))) (fun i P hP => by
          rw [(fu.2 181 (by decide)).1]; rw [es] at hP; exact hi i P hP)
        rw [es] at hres
        exact hres
  exact ko_BM_fillsBegun (sg_BM_fillsBegun_0 (main (36 ^ c.2.2.1) 0 σ (by omega) fr.rf (fun i P hP => by simp at hP)))
end
