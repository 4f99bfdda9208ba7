-- numbers in the text
def vlF (T : Nat → Nat) (p : Nat) : Nat → Nat
  | 0 => 0
  | k + 1 => 10 * vlF T p k + (T (p + k) - 48)
theorem vlF_lt {T : Nat → Nat} {p : Nat} : ∀ {k : Nat}, (∀ j, j < k → T (p + j) ≤ 57) → vlF T p k < 10 ^ k
  | 0, _ => Nat.one_pos
  | k + 1, h => by
    have a := vlF_lt (T := T) (p := p) (k := k) (fun j hj => h j (by omega))
    have b := h k (by omega)
    unfold vlF
    rw [Nat.pow_succ]
    omega
theorem vl_step {T : Nat → Nat} {p k : Nat} (h : 48 ≤ T (p + k)) : (10 : Int32) * nI (vlF T p k) + nI (T (p + k)) - 48 = nI (vlF T p (k + 1)) := by
  show nI 10 * nI (vlF T p k) + nI (T (p + k)) - nI 48 = _
  rw [pk_mul, nI_add, pk_sub (by omega)]
  show nI (10 * vlF T p k + T (p + k) - 48) = nI (10 * vlF T p k + (T (p + k) - 48))
  rw [show 10 * vlF T p k + T (p + k) - 48 = 10 * vlF T p k + (T (p + k) - 48) by omega]
def Bl (σ τ : St) (p c : Nat) : Prop := (fi σ 1 3 ≠ 0 ∧ τ = σ) ∨ (fi σ 1 3 = 0 ∧ τ = sfi σ 1 3 (nI (flt p c)))
def Fl (σ τ : St) (p c : Nat) : Prop := (fi σ 151 13 ≠ 0 ∧ τ = σ) ∨ (fi σ 151 13 = 0 ∧ τ = sfi σ 151 13 (nI (flt p c)))
section
variable {g : Gx} {σ : St} {L p : Nat} {T : Nat → Nat}
theorem k_TA_blameB {Q : Int32 → St → Prop} {c : Nat} (h : ∀ τ, Bl σ τ p c → Q 0 τ) : K_TA_blame g (nI p) (nI c) σ Q := k_TA_blame (fun q => h σ (Or.inl ⟨q, rfl⟩)) (fun q => h _ (Or.inr ⟨q, rfl⟩))
theorem k_BM_failsF {Q : St → Prop} {c : Nat} (h : ∀ τ, Fl σ τ p c → Q τ) : K_BM_fails g (nI c) (nI p) σ Q := k_BM_fails (fun q => h σ (Or.inl ⟨q, rfl⟩)) (fun q => h _ (Or.inr ⟨q, rfl⟩))
theorem dg_in {k : Nat} (h1 : p ≤ k) (h2 : k < dgE L T p) : k < L ∧ 48 ≤ T k ∧ T k ≤ 57 := fD_iff.mp (enE_all h1 h2)
theorem k_TA_readNumber {Q : Int32 → St → Prop} (h : TxC σ L T) (hp : fi σ 1 2 = nI p) (hpL : p ≤ L) (h0 : dgE L T p = p → ∀ τ, Bl σ τ p 0 → Q (-1) τ) (h1 : 5 < dgE L T p - p → ∀ τ, Bl σ τ p 1 → Q (-1) τ) (h2 : p < dgE L T p → dgE L T p - p ≤ 5 → Q (nI (vlF T p (dgE L T p - p))) (sfi σ 1 2 (nI (dgE L T p)))) : K_TA_readNumber g σ Q := by
  have hL := h.2.1
  have le : dgE L T p ≤ L := enE_le hpL
  have ge : p ≤ dgE L T p := enE_ge
  refine ko_TA_readNumber (sg_TA_readNumber_0 ?_)
  rintro u rfl
  refine k_TA_endOfDigits h hp (by omega) ?_
  rw [hp, pk_sub ge, nI_eq (by omega) (by omega)]
  refine ⟨fun q => pk_le (dgE L T p - p) 5 (fun q2 => ?_) (fun q2 => k_TA_blameB (c := 1) (h1 (by omega))), fun q => k_TA_blameB (c := 0) (h0 q)⟩
  have loop : ∀ n k, p + k + n = dgE L T p → S_TA_readNumber_42 g Q (sfi σ 1 2 (nI (p + k))) (nI (dgE L T p)) (nI (vlF T p k)) := by
    intro n
    induction n with
    | zero =>
      intro k hk
      have e : p + k = dgE L T p := by omega
      refine sg_TA_readNumber_42 ⟨fun _ => ?_, fun c => absurd ?_ c⟩
      · have := h2 (by omega) q2
        rw [show dgE L T p - p = k by omega] at this
        rw [e]; exact this
      · rw [show fi (sfi σ 1 2 (nI (p + k))) 1 2 = nI (p + k) from rfl, e]; exact Int32.le_refl _
    | succ n ih =>
      intro k hk
      have e2 : fi (sfi σ 1 2 (nI (p + k))) 1 2 = nI (p + k) := rfl
      obtain ⟨b1, b2, b3⟩ := dg_in (L := L) (T := T) (p := p) (k := p + k) (by omega) (by omega)
      refine sg_TA_readNumber_42 ?_
      rw [e2]
      refine ⟨fun c => absurd c (nI_ge (by omega) (by omega)), fun _ => ⟨vp_in_nI (by omega) (by decide), ?_⟩⟩
      rw [nI_clamp (by omega), show ai (sfi σ 1 2 (nI (p + k))) 2 (p + k) = nI (T (p + k)) from (h.2.2 _ b1).1, vl_step b2]
      rintro u rfl s2 rfl
      rw [nI_1, sfi_sfi]
      exact ih (k + 1) (by omega)
  have := loop (dgE L T p - p) 0 (by omega)
  rw [Nat.add_zero, ← hp, sfi_self] at this
  exact this
theorem k_BM_digits {Q : Int32 → St → Prop} (h : TxM σ L T) (hp : fi σ 151 12 = nI p) (hp5 : p ≤ 402) (h0 : ¬ fD L T p = true → ∀ τ, Fl σ τ p 0 → Q 0 τ) (h1 : 5 < dgE L T p - p → ∀ v τ, Fl (sfi σ 151 12 (nI (dgE L T p))) τ p 1 → Q v τ) (h2 : p < dgE L T p → dgE L T p - p ≤ 5 → Q (nI (vlF T p (dgE L T p - p))) (sfi σ 151 12 (nI (dgE L T p)))) : K_BM_digits g 99999 σ Q := by
  have hL := h.2.1
  have ge : p ≤ dgE L T p := enE_ge
  refine ko_BM_digits (sg_BM_digits_0 (k_BM_isDigit h hp (by omega) (fun q => ⟨fun _ => ?_, fun c => absurd c (by decide)⟩) (fun q => ⟨fun c => absurd rfl c, fun _ => ?_⟩)))
  · rintro u rfl
    rw [hp]
    have hpL := (fD_iff.mp q).1
    have le : dgE L T p ≤ L := enE_le (by omega)
    have gt : p < dgE L T p := enE_gt hpL q
    have loop : ∀ n k (v : Int32), p + k + n = dgE L T p → (k ≤ 5 → v = nI (vlF T p k)) → S_BM_digits_25 g Q (sfi σ 151 12 (nI (p + k))) 99999 (nI p) v := by
      intro n
      induction n with
      | zero =>
        intro k v hk hv
        have e : p + k = dgE L T p := by omega
        refine sg_BM_digits_25 (k_BM_isDigit (h.at (by decide)) rfl (by omega) (fun z => ?_) (fun z => ⟨fun _ => ?_, fun c => absurd rfl c⟩))
        · rw [e] at z
          exact absurd z (enE_end (f := fD L T) (L := L) (p := p) (fun k h => (fD_iff.mp h).1))
        · rw [show fi (sfi σ 151 12 (nI (p + k))) 151 12 = nI (p + k) from rfl, pk_sub (by omega), show p + k - p = k by omega]
          refine pk_lt 5 k (fun c => k_BM_failsF (c := 1) (fun τ hf => ?_)) (fun c => ?_)
          · rw [e] at hf; exact h1 (by omega) v τ hf
          · have hd : ∀ j, j < k → T (p + j) ≤ 57 := fun j hj => (dg_in (L := L) (T := T) (p := p) (k := p + j) (by omega) (by omega)).2.2
            have lt := vlF_lt hd
            have lt5 : vlF T p k < 100000 := Nat.lt_of_lt_of_le lt (Nat.pow_le_pow_right (n := 10) (by decide) c)
            rw [hv c]
            have hfin := h2 gt (by omega)
            rw [show dgE L T p - p = k by omega, ← e] at hfin
            exact ⟨fun _ => hfin, fun c2 => absurd (nI_le (b := 99999) (by omega) (by decide)) c2⟩
      | succ n ih =>
        intro k v hk hv
        have d1 : fD L T (p + k) = true := enE_all (L := L) (p := p) (by omega) (by unfold dgE at hk; omega)
        obtain ⟨b1, b2, b3⟩ := fD_iff.mp d1
        refine sg_BM_digits_25 (k_BM_isDigit (h.at (by decide)) rfl (by omega) (fun z => ⟨fun c => absurd c (by decide), fun _ => ?_⟩) (fun z => absurd d1 z))
        rw [show fi (sfi σ 151 12 (nI (p + k))) 151 12 = nI (p + k) from rfl, pk_sub (by omega), show p + k - p = k by omega]
        refine pk_le 5 k (fun c => ?_) (fun c => ?_)
        · rintro s5 rfl
          rw [nI_1, sfi_sfi]
          exact ih (k + 1) v (by omega) (fun z => by omega)
        · refine k_BM_sign (h.at (by decide)) rfl (by omega) ?_
          rintro u8 rfl s9 rfl
          rw [show fi (sfi σ 151 12 (nI (p + k))) 151 12 = nI (p + k) from rfl, nI_1, sfi_sfi]
          refine ih (k + 1) _ (by omega) (fun _ => ?_)
          rw [hv (by omega), show sgI L T (p + k) = nI (T (p + k)) from if_pos b1]
          exact vl_step b2
    have := loop (dgE L T p - p) 0 0 (by omega) (fun _ => rfl)
    rw [Nat.add_zero, ← hp, sfi_self] at this
    rw [← hp]; exact this
  · rw [hp]
    exact k_BM_failsF (c := 0) (h0 q)
end
-- a coordinate
def coF (L : Nat) (T : Nat → Nat) (p : Nat) : Nat ⊕ (Nat × Nat) := if dgE L T p = p then .inl (flt p 0) else if 5 < dgE L T p - p then .inl (flt p 1) else if 5 < vlF T p (dgE L T p - p) then .inl (flt p 1) else .inr (vlF T p (dgE L T p - p), dgE L T p)
theorem coF_ok {L p x e : Nat} {T : Nat → Nat} (hp : p ≤ L) (h : coF L T p = .inr (x, e)) : x ≤ 5 ∧ p < e ∧ e ≤ L := by
  unfold coF at h
  have ge : p ≤ dgE L T p := enE_ge
  have le : dgE L T p ≤ L := enE_le hp
  split at h
  · cases h
  · split at h
    · cases h
    · split at h
      · cases h
      · cases h; omega
section
variable {g : Gx} {σ : St} {L p : Nat} {T : Nat → Nat}
theorem k_BR_readCoordinate {Q : Int32 → St → Prop} (h : TxC σ L T) (hp : fi σ 1 2 = nI p) (hpL : p ≤ L) (h3 : fi σ 1 3 = 0) (hbad : ∀ f, coF L T p = .inl f → ∀ τ, fr [(1, 2), (1, 3)] [] σ τ → fi τ 1 3 = nI f → Q (-1) τ) (hok : ∀ x e, coF L T p = .inr (x, e) → Q (nI x) (sfi σ 1 2 (nI e))) : K_BR_readCoordinate g σ Q := by
  have hL := h.2.1
  have ge : p ≤ dgE L T p := enE_ge
  have le : dgE L T p ≤ L := enE_le hpL
  refine ko_BR_readCoordinate (sg_BR_readCoordinate_0 ?_)
  rintro u rfl
  have bl : ∀ c τ, Bl σ τ p c → τ = sfi σ 1 3 (nI (flt p c)) := fun c τ hb => hb.elim (fun z => absurd h3 z.1) (fun z => z.2)
  refine k_TA_readNumber h hp hpL (fun q τ hb => ⟨fun _ => ?_, fun c => absurd (by decide) c⟩) (fun q τ hb => ⟨fun _ => ?_, fun c => absurd (by decide) c⟩) (fun q q2 => ?_)
  · rw [bl 0 τ hb]
    exact hbad (flt p 0) (by unfold coF; rw [if_pos q]) _ (fr_sfi (by decide)) rfl
  · rw [bl 1 τ hb]
    exact hbad (flt p 1) (by unfold coF; rw [if_neg (by omega), if_pos q]) _ (fr_sfi (by decide)) rfl
  · have hd : ∀ j, j < dgE L T p - p → T (p + j) ≤ 57 := fun j hj => (dg_in (L := L) (T := T) (p := p) (k := p + j) (by omega) (by omega)).2.2
    have lt := vlF_lt hd
    have lt5 : vlF T p (dgE L T p - p) < 100000 := Nat.lt_of_lt_of_le lt (Nat.pow_le_pow_right (n := 10) (by decide) q2)
    refine pk_le (vlF T p (dgE L T p - p)) 5 (fun c => ?_) (fun c => ?_)
    · exact hok _ _ (by unfold coF; rw [if_neg (by omega), if_neg (by omega), if_neg (by omega)])
    · rw [hp]
      refine k_TA_blameB (c := 1) (fun τ hb => ?_)
      have e3 : fi (sfi σ 1 2 (nI (dgE L T p))) 1 3 = 0 := h3
      have : τ = sfi (sfi σ 1 2 (nI (dgE L T p))) 1 3 (nI (flt p 1)) := hb.elim (fun z => absurd e3 z.1) (fun z => z.2)
      rw [this]
      exact hbad (flt p 1) (by unfold coF; rw [if_neg (by omega), if_neg (by omega), if_pos c]) _ ((fr_sfi (by decide)).tr (fr_sfi (by decide))) rfl
/-- the reference has met a fault -/
def FlM (τ : St) (f : Nat) : Prop := fi τ 151 13 = nI f ∧ 0 < f ∧ f < 4000 ∧ ∃ p, p ≤ 402 ∧ fi τ 151 12 = nI p
theorem FlM.ne {τ : St} {f : Nat} (h : FlM τ f) : fi τ 151 13 ≠ 0 := by rw [h.1]; exact nI_ne0 h.2.1 (by have := h.2.2.1; omega)
theorem FlM.fr {τ : St} {f : Nat} {F : List (Nat × Nat)} {M : List Nat} (h : FlM σ f) (hf : fr F M σ τ) (h1 : (151, 12) ∉ F) (h2 : (151, 13) ∉ F) : FlM τ f := ⟨by rw [(hf.1 151 13 h2).1]; exact h.1, h.2.1, h.2.2.1, by rw [(hf.1 151 12 h1).1]; exact h.2.2.2⟩
theorem FlM.at {f q : Nat} (h : FlM σ f) (hq : q ≤ 402) : FlM (sfi σ 151 12 (nI q)) f := ⟨h.1, h.2.1, h.2.2.1, q, hq, rfl⟩
theorem Fl.of {τ : St} {c q : Nat} (h : Fl σ τ q c) (h0 : fi σ 151 13 = 0) (hp : fi σ 151 12 = nI p) (hp5 : p ≤ 402) (hc : c ≤ 5) (hq : q ≤ 402) : FlM τ (flt q c) ∧ fr [(151, 12), (151, 13)] [] σ τ := by
  have e : τ = sfi σ 151 13 (nI (flt q c)) := h.elim (fun z => absurd h0 z.1) (fun z => z.2)
  rw [e]
  exact ⟨⟨rfl, by unfold flt; omega, by unfold flt; omega, p, hp5, hp⟩, fr_sfi (by decide)⟩
theorem Fl.non {τ : St} {c q f : Nat} (h : Fl σ τ q c) (h0 : FlM σ f) : τ = σ := h.elim (fun z => z.2) (fun z => absurd z.1 h0.ne)
theorem k_BM_amount {Q : Int32 → St → Prop} (h : TxM σ L T) (hp : fi σ 151 12 = nI p) (hpL : p ≤ L) (h3 : fi σ 151 13 = 0) (hbad : ∀ f, coF L T (skF L T p) = .inl f → ∀ v τ, fr [(151, 12), (151, 13)] [] σ τ → FlM τ f → Q v τ) (hok : ∀ x e, coF L T (skF L T p) = .inr (x, e) → Q (nI x) (sfi σ 151 12 (nI e))) : K_BM_amount g 0 5 σ Q := by
  have hL := h.2.1
  have sl : skF L T p ≤ L := skF_le hpL
  have ge : skF L T p ≤ dgE L T (skF L T p) := enE_ge
  have le : dgE L T (skF L T p) ≤ L := enE_le sl
  refine ko_BM_amount (sg_BM_amount_0 (k_BM_blanks h hp (by omega) ?_))
  rintro u rfl
  have e13 : fi (sfi σ 151 12 (nI (skF L T p))) 151 13 = 0 := h3
  have h' : TxM (sfi σ 151 12 (nI (skF L T p))) L T := h.at (by decide)
  refine ⟨fun c => absurd e13 c, fun _ => ?_⟩
  have fin : ∀ f v τ, FlM τ f → fr [(151, 12), (151, 13)] [] σ τ → coF L T (skF L T p) = .inl f → S_BM_amount_27 g Q τ 0 5 (nI (skF L T p)) v := fun f v τ hF hf hc => sg_BM_amount_27 ⟨fun _ => hbad f hc v τ hf hF, fun c => absurd c hF.ne⟩
  refine k_BM_digits h' rfl (by omega) (fun q τ hb => ?_) (fun q v τ hb => ?_) (fun q q2 => ?_)
  · obtain ⟨a, b⟩ := Fl.of hb e13 (p := skF L T p) rfl (by omega) (by decide) (by omega)
    refine fin _ _ τ a ((fr_sfi (by decide)).tr b) ?_
    unfold coF
    rw [if_pos (show dgE L T (skF L T p) = skF L T p from enE_stop q)]
  · obtain ⟨a, b⟩ := Fl.of hb (by exact h3) (p := dgE L T (skF L T p)) rfl (by omega) (by decide) (by omega)
    refine fin _ _ τ a ((fr_sfi (by decide)).tr ((fr_sfi (by decide)).tr b)) ?_
    unfold coF
    rw [if_neg (by omega), if_pos q]
  · rw [sfi_sfi]
    have hd : ∀ j, j < dgE L T (skF L T p) - skF L T p → T (skF L T p + j) ≤ 57 := fun j hj => (dg_in (L := L) (T := T) (p := skF L T p) (k := skF L T p + j) (by omega) (by omega)).2.2
    have lt := vlF_lt hd
    have lt5 : vlF T (skF L T p) (dgE L T (skF L T p) - skF L T p) < 100000 := Nat.lt_of_lt_of_le lt (Nat.pow_le_pow_right (n := 10) (by decide) q2)
    refine sg_BM_amount_27 ⟨fun c => absurd h3 c, fun _ => ?_⟩
    refine k_BM_inR 0 5 (by decide) (by decide) (by decide) (fun n _ hn en => ⟨fun _ => ?_, fun c => absurd c (by decide)⟩) (fun z => ⟨fun c => absurd rfl c, fun _ => k_BM_failsF (c := 1) (fun τ hb => ?_)⟩)
    · have en := (nI_eq (by omega) (by omega)).mp en
      refine hok _ _ ?_
      unfold coF
      rw [if_neg (by omega), if_neg (by omega), if_neg (by omega)]
    · obtain ⟨a, b⟩ := Fl.of hb (by exact h3) (p := dgE L T (skF L T p)) rfl (by omega) (by decide) (by omega)
      refine hbad _ ?_ _ τ ((fr_sfi (by decide)).tr b) a
      unfold coF
      rw [if_neg (by omega), if_neg (by omega), if_pos (Nat.not_le.mp (fun w => z _ (Nat.zero_le _) w rfl))]
/-- behind a fault -/
theorem k_BM_amountF {Q : Int32 → St → Prop} {f : Nat} {x y : Int32} (h : TxM σ L T) (hF : FlM σ f) (hQ : ∀ τ, fr [(151, 12), (151, 13)] [] σ τ → FlM τ f → Q 0 τ) : K_BM_amount g x y σ Q := by
  have hL := h.2.1
  obtain ⟨p, hp5, hp⟩ := hF.2.2.2
  refine ko_BM_amount (sg_BM_amount_0 (k_BM_blanks h hp hp5 ?_))
  rintro u rfl
  have a := hF.at (skF_402 (T := T) hL hp5)
  exact ⟨fun _ => sg_BM_amount_27 ⟨fun _ => hQ _ (fr_sfi (by decide)) a, fun c => absurd c a.ne⟩, fun c => absurd c a.ne⟩
end
