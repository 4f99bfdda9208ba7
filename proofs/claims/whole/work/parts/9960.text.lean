-- the text upon both tapes
def TxC (σ : St) (L : Nat) (T : Nat → Nat) : Prop := fi σ 1 1 = nI L ∧ L ≤ 400 ∧ ∀ k, k < L → ai σ 2 k = nI (T k) ∧ T k < 256
def TxM (σ : St) (L : Nat) (T : Nat → Nat) : Prop := fi σ 151 11 = nI L ∧ L ≤ 400 ∧ ∀ k, k < L → ai σ 162 k = (nI (T k)).toInt8.toInt32 ∧ T k < 256
def sgI (L : Nat) (T : Nat → Nat) (p : Nat) : Int32 := if p < L then nI (T p) else -1
def flt (p c : Nat) : Nat := 1 + 8 * p + c
theorem flt_eq (p c : Nat) : (1 : Int32) + 8 * nI p + nI c = nI (flt p c) := by
  show nI 1 + nI 8 * nI p + nI c = _
  rw [pk_mul, nI_add, nI_add]; rfl
theorem tb255 : ∀ t, t < 256 → (nI t).toInt8.toInt32 &&& 255 = nI t := by decide +kernel
theorem tbW : ∀ t, t < 256 → (((nI t).toInt8.toInt32 < 97 ∨ 122 < (nI t).toInt8.toInt32) ↔ ¬ (97 ≤ t ∧ t ≤ 122)) := by decide +kernel
theorem tbE : ∀ t, t < 256 → (t < 128 → (nI t).toInt8.toInt32 = nI t) ∧ (128 ≤ t → (nI t).toInt8.toInt32 < 0) := by decide +kernel
theorem tb_lit {t c : Nat} (ht : t < 256) (hc : c < 128) : (nI t).toInt8.toInt32 = nI c ↔ t = c := by
  by_cases h : t < 128
  · rw [(tbE t ht).1 h]; exact nI_eq (by omega) (by omega)
  · constructor
    · intro q
      have := (tbE t ht).2 (by omega)
      rw [q] at this
      exact absurd this (nI_pos (by omega))
    · intro q; omega
theorem b8_of (z : Int32) : ∃ t, t < 256 ∧ z.toInt8.toInt32 = (nI t).toInt8.toInt32 ∧ z &&& 255 = nI t := by
  have e := pk_and z (m := 255) 8 rfl
  refine ⟨z.toBitVec.toNat % 2 ^ 8, Nat.mod_lt _ (by decide), ?_, e⟩
  apply Int32.toInt_inj.mp
  rw [lg_i2b_toInt, lg_i2b_toInt, nI_toInt (by have := Nat.mod_lt z.toBitVec.toNat (show 0 < 2 ^ 8 by decide); omega)]
  have h1 : z.toInt = (z.toBitVec.toNat : Int).bmod (2 ^ 32) := by
    show z.toBitVec.toInt = _
    rw [BitVec.toInt_eq_toNat_bmod]
  have h2 : ((z.toBitVec.toNat % 2 ^ 8 : Nat) : Int) = (z.toBitVec.toNat : Int) % ((2 ^ 8 : Nat) : Int) := rfl
  rw [h1, Int.bmod_bmod_of_dvd (by decide), h2, Int.emod_bmod]
theorem tape_text {σ : St} (h : TapeR σ) : ∃ L T, TxC σ L T ∧ TxM σ L T := by
  obtain ⟨n, hn, h1, h2, h3⟩ := h
  refine ⟨n, fun k => (ai σ 2 k).toNatClampNeg, ⟨h1, hn, fun k hk => ?_⟩, ⟨h2, hn, fun k hk => ?_⟩⟩
  · obtain ⟨z, a, b⟩ := h3 k hk
    obtain ⟨t, ht, -, e2⟩ := b8_of z
    have e3 : (ai σ 2 k).toNatClampNeg = t := by rw [b, e2, nI_clamp (by omega)]
    show ai σ 2 k = nI (ai σ 2 k).toNatClampNeg ∧ (ai σ 2 k).toNatClampNeg < 256
    rw [e3, b, e2]
    exact ⟨rfl, ht⟩
  · obtain ⟨z, a, b⟩ := h3 k hk
    obtain ⟨t, ht, e1, e2⟩ := b8_of z
    have e3 : (ai σ 2 k).toNatClampNeg = t := by rw [b, e2, nI_clamp (by omega)]
    show ai σ 162 k = (nI (ai σ 2 k).toNatClampNeg).toInt8.toInt32 ∧ (ai σ 2 k).toNatClampNeg < 256
    rw [e3, a, e1]
    exact ⟨rfl, ht⟩
theorem sgI_eq {L p c : Nat} {T : Nat → Nat} (hT : ∀ k, k < L → T k < 256) (hc : c < 256) : sgI L T p = nI c ↔ p < L ∧ T p = c := by
  unfold sgI
  by_cases h : p < L
  · rw [if_pos h, nI_eq (by have := hT p h; omega) (by omega)]
    exact ⟨fun q => ⟨h, q⟩, fun q => q.2⟩
  · rw [if_neg h]
    exact ⟨fun q => absurd q (m1_ne (by omega)), fun q => absurd q.1 h⟩
-- how far something goes on
def ruE (f : Nat → Bool) : Nat → Nat → Nat
  | 0, p => p
  | n + 1, p => if f p = true then ruE f n (p + 1) else p
theorem ruE_ge {f : Nat → Bool} : ∀ n p, p ≤ ruE f n p
  | 0, p => Nat.le_refl _
  | n + 1, p => by
    unfold ruE
    split
    · have := ruE_ge (f := f) n (p + 1); omega
    · exact Nat.le_refl _
theorem ruE_le {f : Nat → Bool} : ∀ n p, ruE f n p ≤ p + n
  | 0, p => Nat.le_refl _
  | n + 1, p => by
    unfold ruE
    split
    · have := ruE_le (f := f) n (p + 1); omega
    · omega
theorem ruE_all {f : Nat → Bool} : ∀ n p k, p ≤ k → k < ruE f n p → f k = true
  | 0, p, k, h1, h2 => by unfold ruE at h2; omega
  | n + 1, p, k, h1, h2 => by
    unfold ruE at h2
    split at h2
    · rename_i q
      by_cases e : k = p
      · rw [e]; exact q
      · exact ruE_all (f := f) n (p + 1) k (by omega) h2
    · omega
def enE (f : Nat → Bool) (L p : Nat) : Nat := ruE f (L - p) p
section
variable {f : Nat → Bool} {L p : Nat}
theorem enE_ge : p ≤ enE f L p := ruE_ge _ _
theorem enE_le (h : p ≤ L) : enE f L p ≤ L := by have := ruE_le (f := f) (L - p) p; unfold enE; omega
theorem enE_out (h : L ≤ p) : enE f L p = p := by
  unfold enE
  rw [show L - p = 0 by omega]; rfl
theorem enE_step (hp : p < L) (h : f p = true) : enE f L p = enE f L (p + 1) := by
  unfold enE
  rw [show L - p = (L - (p + 1)) + 1 by omega]
  show (if f p = true then _ else _) = _
  rw [if_pos h]
theorem enE_stop (h : ¬ f p = true) : enE f L p = p := by
  by_cases hp : p < L
  · unfold enE
    rw [show L - p = (L - (p + 1)) + 1 by omega]
    show (if f p = true then _ else _) = _
    rw [if_neg h]
  · exact enE_out (by omega)
theorem enE_all {k : Nat} (h1 : p ≤ k) (h2 : k < enE f L p) : f k = true := ruE_all _ _ _ h1 h2
theorem enE_end (hf : ∀ k, f k = true → k < L) : ¬ f (enE f L p) = true := by
  have go : ∀ n p, L - p = n → ¬ f (enE f L p) = true := by
    intro n
    induction n with
    | zero =>
      intro p hp h
      rw [enE_out (by omega)] at h
      have := hf _ h; omega
    | succ n ih =>
      intro p hp
      by_cases h : f p = true
      · rw [enE_step (by omega) h]; exact ih (p + 1) (by omega)
      · rw [enE_stop h]; exact h
  exact go _ p rfl
theorem enE_gt (hp : p < L) (h : f p = true) : p < enE f L p := by
  rw [enE_step hp h]
  have := enE_ge (f := f) (L := L) (p := p + 1)
  omega
end
def fB (L : Nat) (T : Nat → Nat) (k : Nat) : Bool := decide (k < L ∧ T k = 32)
def fW (L : Nat) (T : Nat → Nat) (k : Nat) : Bool := decide (k < L ∧ 97 ≤ T k ∧ T k ≤ 122)
def fD (L : Nat) (T : Nat → Nat) (k : Nat) : Bool := decide (k < L ∧ 48 ≤ T k ∧ T k ≤ 57)
theorem fB_iff {L : Nat} {T : Nat → Nat} {k : Nat} : fB L T k = true ↔ k < L ∧ T k = 32 := decide_eq_true_iff
theorem fW_iff {L : Nat} {T : Nat → Nat} {k : Nat} : fW L T k = true ↔ k < L ∧ 97 ≤ T k ∧ T k ≤ 122 := decide_eq_true_iff
theorem fD_iff {L : Nat} {T : Nat → Nat} {k : Nat} : fD L T k = true ↔ k < L ∧ 48 ≤ T k ∧ T k ≤ 57 := decide_eq_true_iff
def skF (L : Nat) (T : Nat → Nat) (p : Nat) : Nat := enE (fB L T) L p
def wdE (L : Nat) (T : Nat → Nat) (p : Nat) : Nat := enE (fW L T) L p
def dgE (L : Nat) (T : Nat → Nat) (p : Nat) : Nat := enE (fD L T) L p
theorem skF_402 {L p : Nat} {T : Nat → Nat} (hL : L ≤ 400) (hp : p ≤ 402) : skF L T p ≤ 402 := by
  by_cases h : p ≤ L
  · have := enE_le (f := fB L T) h; unfold skF; omega
  · unfold skF; rw [enE_out (by omega)]; exact hp
theorem skF_le {L p : Nat} {T : Nat → Nat} (hp : p ≤ L) : skF L T p ≤ L := enE_le hp
theorem skF_ge {L p : Nat} {T : Nat → Nat} : p ≤ skF L T p := enE_ge
theorem skF_end {L p : Nat} {T : Nat → Nat} : ¬ (skF L T p < L ∧ T (skF L T p) = 32) := fun q => enE_end (f := fB L T) (L := L) (p := p) (fun k h => (fB_iff.mp h).1) (fB_iff.mpr q)
theorem skF_skF {L p : Nat} {T : Nat → Nat} : skF L T (skF L T p) = skF L T p := enE_stop (fun q => skF_end (fB_iff.mp q))
section
variable {g : Gx} {σ : St} {L p : Nat} {T : Nat → Nat}
theorem TxC.at (h : TxC σ L T) {k : Nat} {v : Int32} (hk : k ≠ 1) : TxC (sfi σ 1 k v) L T := ⟨by rw [fi_sfi, if_neg (fun z => hk z.2.symm)]; exact h.1, h.2⟩
theorem TxM.at (h : TxM σ L T) {k : Nat} {v : Int32} (hk : k ≠ 11) : TxM (sfi σ 151 k v) L T := ⟨by rw [fi_sfi, if_neg (fun z => hk z.2.symm)]; exact h.1, h.2⟩
theorem TxC.frm {τ : St} {F : List (Nat × Nat)} {M : List Nat} (h : TxC σ L T) (hf : fr F M σ τ) (h1 : (1, 1) ∉ F) (h2 : 2 ∉ M) : TxC τ L T := ⟨by rw [(hf.1 1 1 h1).1]; exact h.1, h.2.1, by rw [(hf.2 2 h2).1]; exact h.2.2⟩
theorem TxM.frm {τ : St} {F : List (Nat × Nat)} {M : List Nat} (h : TxM σ L T) (hf : fr F M σ τ) (h1 : (151, 11) ∉ F) (h2 : 162 ∉ M) : TxM τ L T := ⟨by rw [(hf.1 151 11 h1).1]; exact h.1, h.2.1, by rw [(hf.2 162 h2).1]; exact h.2.2⟩
theorem TxC.b (h : TxC σ L T) : ∀ k, k < L → T k < 256 := fun k hk => (h.2.2 k hk).2
theorem TxM.b (h : TxM σ L T) : ∀ k, k < L → T k < 256 := fun k hk => (h.2.2 k hk).2
theorem k_TA_signAt {Q : Int32 → St → Prop} (h : TxC σ L T) (hp : p < 2 ^ 31) (hQ : Q (sgI L T p) σ) : K_TA_signAt g (nI p) σ Q := by
  have hL := h.2.1
  refine ko_TA_signAt (sg_TA_signAt_0 ⟨fun q => absurd q (nI_pos hp), fun _ => ?_⟩)
  rw [h.1]
  unfold sgI at hQ
  refine pk_le L p (fun q => ?_) (fun q => ⟨vp_in_nI (by omega) (by decide), ?_⟩)
  · rw [if_neg (by omega)] at hQ; exact hQ
  · rw [if_pos q] at hQ
    rw [nI_clamp hp, (h.2.2 p q).1]; exact hQ
theorem k_BM_sign {Q : Int32 → St → Prop} (h : TxM σ L T) (hp : fi σ 151 12 = nI p) (hp31 : p < 2 ^ 31) (hQ : Q (sgI L T p) σ) : K_BM_sign g σ Q := by
  have hL := h.2.1
  refine ko_BM_sign (sg_BM_sign_0 ?_)
  rw [h.1, hp]
  unfold sgI at hQ
  refine pk_le L p (fun q => ?_) (fun q => ⟨vp_in_nI (by omega) (by decide), ?_⟩)
  · rw [if_neg (by omega)] at hQ; exact hQ
  · rw [if_pos q] at hQ
    rw [nI_clamp hp31, (h.2.2 p q).1, tb255 _ (h.2.2 p q).2]; exact hQ
theorem k_TA_isAtEnd {Q : Int32 → St → Prop} (h : TxC σ L T) (hp : fi σ 1 2 = nI p) (hp31 : p < 2 ^ 31) (h0 : p < L → Q 0 σ) (h1 : L ≤ p → Q 1 σ) : K_TA_isAtEnd g σ Q := by
  have hL := h.2.1
  refine ko_TA_isAtEnd (sg_TA_isAtEnd_0 ?_)
  rw [h.1, hp]
  exact pk_lt p L h0 h1
theorem k_TA_skipBlanks {Q : St → Prop} (h : TxC σ L T) (hp : fi σ 1 2 = nI p) (hp5 : p ≤ 402) (hQ : Q (sfi σ 1 2 (nI (skF L T p)))) : K_TA_skipBlanks g σ Q := by
  have hL := h.2.1
  have go : ∀ n p, L - p = n → p ≤ 402 → Q (sfi σ 1 2 (nI (skF L T p))) → S_TA_skipBlanks_0 g Q (sfi σ 1 2 (nI p)) := by
    intro n
    induction n with
    | zero =>
      intro p hn hp5 hQ
      have hs : skF L T p = p := enE_out (by omega)
      rw [hs] at hQ
      refine sg_TA_skipBlanks_0 ⟨fun _ => hQ, fun c => absurd ?_ c⟩
      rw [show fi (sfi σ 1 2 (nI p)) 1 1 = nI L from h.1, show fi (sfi σ 1 2 (nI p)) 1 2 = nI p from rfl]
      exact nI_le (by omega) (by omega)
    | succ n ih =>
      intro p hn hp5 hQ
      have e1 : fi (sfi σ 1 2 (nI p)) 1 1 = nI L := h.1
      have e2 : fi (sfi σ 1 2 (nI p)) 1 2 = nI p := rfl
      have hpL : p < L := by omega
      refine sg_TA_skipBlanks_0 ?_
      rw [e1, e2]
      refine ⟨fun c => absurd c (nI_ge hpL (by omega)), fun _ => ⟨vp_in_nI (by omega) (by decide), ?_⟩⟩
      rw [nI_clamp (by omega)]
      have e3 : ai (sfi σ 1 2 (nI p)) 2 p = nI (T p) := (h.2.2 p hpL).1
      have hb := (h.2.2 p hpL).2
      rw [e3]
      refine pk_eq (x := nI (T p)) (y := 32) (T p) 32 (fun q => ?_) (fun q => ?_) |>.symm
      · rintro s1 rfl
        rw [nI_1, sfi_sfi]
        refine ih (p + 1) (by omega) (by omega) ?_
        have := enE_step (f := fB L T) hpL (fB_iff.mpr ⟨hpL, q⟩)
        unfold skF at hQ ⊢
        rw [← this]; exact hQ
      · have hs : skF L T p = p := enE_stop (fun z => q (fB_iff.mp z).2)
        rw [hs] at hQ; exact hQ
  have := go (L - p) p rfl hp5 hQ
  rw [← hp, sfi_self] at this
  exact ko_TA_skipBlanks this
theorem k_BM_blanks {Q : St → Prop} (h : TxM σ L T) (hp : fi σ 151 12 = nI p) (hp5 : p ≤ 402) (hQ : Q (sfi σ 151 12 (nI (skF L T p)))) : K_BM_blanks g σ Q := by
  have hL := h.2.1
  have go : ∀ n p, L - p = n → p ≤ 402 → Q (sfi σ 151 12 (nI (skF L T p))) → S_BM_blanks_0 g Q (sfi σ 151 12 (nI p)) := by
    intro n
    induction n with
    | zero =>
      intro p hn hp5 hQ
      have hs : skF L T p = p := enE_out (by omega)
      rw [hs] at hQ
      refine sg_BM_blanks_0 (k_BM_sign (h.at (by decide)) rfl (by omega) ⟨fun _ => hQ, fun q => ?_⟩)
      have := (sgI_eq h.b (by decide : 32 < 256)).mp q
      omega
    | succ n ih =>
      intro p hn hp5 hQ
      refine sg_BM_blanks_0 (k_BM_sign (h.at (by decide)) rfl (by omega) ⟨fun q => ?_, fun q => ?_⟩)
      · have hs : skF L T p = p := enE_stop (fun z => q ((sgI_eq h.b (by decide : 32 < 256)).mpr (fB_iff.mp z)))
        rw [hs] at hQ; exact hQ
      · have q := (sgI_eq h.b (by decide : 32 < 256)).mp q
        rintro s1 rfl
        rw [show fi (sfi σ 151 12 (nI p)) 151 12 = nI p from rfl, nI_1, sfi_sfi]
        refine ih (p + 1) (by omega) (by omega) ?_
        have := enE_step (f := fB L T) q.1 (fB_iff.mpr q)
        unfold skF at hQ ⊢
        rw [← this]; exact hQ
  have := go (L - p) p rfl hp5 hQ
  rw [← hp, sfi_self] at this
  exact ko_BM_blanks this
theorem k_TA_endOfWord {Q : Int32 → St → Prop} (h : TxC σ L T) (hp : fi σ 1 2 = nI p) (hp5 : p ≤ 402) (hQ : Q (nI (wdE L T p)) σ) : K_TA_endOfWord g σ Q := by
  have hL := h.2.1
  have go : ∀ n p, L - p = n → p ≤ 402 → Q (nI (wdE L T p)) σ → S_TA_endOfWord_5 g Q σ (nI p) := by
    intro n
    induction n with
    | zero =>
      intro p hn hp5 hQ
      have hs : wdE L T p = p := enE_out (by omega)
      rw [hs] at hQ
      refine sg_TA_endOfWord_5 ⟨fun _ => hQ, fun c => absurd ?_ c⟩
      rw [h.1]
      exact nI_le (by omega) (by omega)
    | succ n ih =>
      intro p hn hp5 hQ
      have hpL : p < L := by omega
      have hb := (h.2.2 p hpL).2
      refine sg_TA_endOfWord_5 ?_
      rw [h.1, nI_clamp (by omega), (h.2.2 p hpL).1]
      have stop : ¬ (97 ≤ T p ∧ T p ≤ 122) → Q (nI p) σ := fun q => by
        have hs : wdE L T p = p := enE_stop (fun z => q (fW_iff.mp z).2)
        rw [hs] at hQ; exact hQ
      refine ⟨fun c => absurd c (nI_ge hpL (by omega)), fun _ => ⟨vp_in_nI (by omega) (by decide), ?_⟩⟩
      refine pk_lt (T p) 97 (fun q => stop (by omega)) (fun q => ⟨vp_in_nI (by omega) (by decide), ?_⟩)
      refine pk_lt 122 (T p) (fun q2 => stop (by omega)) (fun q2 => ?_)
      rintro u rfl
      rw [nI_1]
      refine ih (p + 1) (by omega) (by omega) ?_
      have := enE_step (f := fW L T) hpL (fW_iff.mpr ⟨hpL, q, q2⟩)
      unfold wdE at hQ ⊢
      rw [← this]; exact hQ
  refine ko_TA_endOfWord (sg_TA_endOfWord_0 ?_)
  rintro u rfl
  rw [hp]
  exact go (L - p) p rfl hp5 hQ
theorem k_TA_endOfDigits {Q : Int32 → St → Prop} (h : TxC σ L T) (hp : fi σ 1 2 = nI p) (hp5 : p ≤ 402) (hQ : Q (nI (dgE L T p)) σ) : K_TA_endOfDigits g σ Q := by
  have hL := h.2.1
  have go : ∀ n p, L - p = n → p ≤ 402 → Q (nI (dgE L T p)) σ → S_TA_endOfDigits_5 g Q σ (nI p) := by
    intro n
    induction n with
    | zero =>
      intro p hn hp5 hQ
      have hs : dgE L T p = p := enE_out (by omega)
      rw [hs] at hQ
      refine sg_TA_endOfDigits_5 ⟨fun _ => hQ, fun c => absurd ?_ c⟩
      rw [h.1]
      exact nI_le (by omega) (by omega)
    | succ n ih =>
      intro p hn hp5 hQ
      have hpL : p < L := by omega
      have hb := (h.2.2 p hpL).2
      refine sg_TA_endOfDigits_5 ?_
      rw [h.1, nI_clamp (by omega), (h.2.2 p hpL).1]
      have stop : ¬ (48 ≤ T p ∧ T p ≤ 57) → Q (nI p) σ := fun q => by
        have hs : dgE L T p = p := enE_stop (fun z => q (fD_iff.mp z).2)
        rw [hs] at hQ; exact hQ
      refine ⟨fun c => absurd c (nI_ge hpL (by omega)), fun _ => ⟨vp_in_nI (by omega) (by decide), ?_⟩⟩
      refine pk_lt (T p) 48 (fun q => stop (by omega)) (fun q => ⟨vp_in_nI (by omega) (by decide), ?_⟩)
      refine pk_lt 57 (T p) (fun q2 => stop (by omega)) (fun q2 => ?_)
      rintro u rfl
      rw [nI_1]
      refine ih (p + 1) (by omega) (by omega) ?_
      have := enE_step (f := fD L T) hpL (fD_iff.mpr ⟨hpL, q, q2⟩)
      unfold dgE at hQ ⊢
      rw [← this]; exact hQ
  refine ko_TA_endOfDigits (sg_TA_endOfDigits_0 ?_)
  rintro u rfl
  rw [hp]
  exact go (L - p) p rfl hp5 hQ
theorem k_TA_blame {Q : Int32 → St → Prop} {c : Nat} (h0 : fi σ 1 3 ≠ 0 → Q 0 σ) (h1 : fi σ 1 3 = 0 → Q 0 (sfi σ 1 3 (nI (flt p c)))) : K_TA_blame g (nI p) (nI c) σ Q := by
  refine ko_TA_blame (sg_TA_blame_0 ⟨fun q => h0 q, fun q => ?_⟩)
  rintro s rfl
  rw [flt_eq]; exact h1 q
theorem k_BM_fails {Q : St → Prop} {c : Nat} (h0 : fi σ 151 13 ≠ 0 → Q σ) (h1 : fi σ 151 13 = 0 → Q (sfi σ 151 13 (nI (flt p c)))) : K_BM_fails g (nI c) (nI p) σ Q := by
  refine ko_BM_fails (sg_BM_fails_0 ⟨fun q => ?_, fun q => ?_⟩)
  · rintro s rfl
    rw [sfi_self]; exact h0 q
  · rintro s rfl
    rw [flt_eq]; exact h1 q
theorem k_BM_isDigit {Q : Int32 → St → Prop} (h : TxM σ L T) (hp : fi σ 151 12 = nI p) (hp31 : p < 2 ^ 31) (h1 : fD L T p = true → Q 1 σ) (h0 : ¬ fD L T p = true → Q 0 σ) : K_BM_isDigit g σ Q := by
  refine ko_BM_isDigit (sg_BM_isDigit_0 (k_BM_sign h hp hp31 ?_))
  refine k_BM_inR 48 57 (by decide) (by decide) (by decide) (fun n a b e => ⟨Or.inr rfl, h1 ?_⟩) (fun q => ⟨Or.inl rfl, h0 (fun z => ?_)⟩)
  · have := (sgI_eq h.b (show n < 256 by omega)).mp e
    exact fD_iff.mpr ⟨this.1, by omega, by omega⟩
  · have z := fD_iff.mp z
    refine q (T p) z.2.1 z.2.2 ?_
    unfold sgI
    rw [if_pos z.1]
-- words
def wdIs (L : Nat) (T : Nat → Nat) (p w : Nat) : Prop := wdE L T p = p + slen.getD w 0 ∧ ∀ i, i < slen.getD w 0 → nI (T (p + i)) = (sbyt.getD w []).getD i 0 &&& 255
theorem wch : ∀ w, w < 16 → ∀ i, i < slen.getD w 0 → (sbyt.getD w []).getD i 0 &&& 255 = nI (((sbyt.getD w []).getD i 0).toNatClampNeg) ∧ ((sbyt.getD w []).getD i 0).toNatClampNeg < 128 := by decide +kernel
theorem k_TA_isWord {Q : Int32 → St → Prop} {w : Nat} (hw : w < 16) (h : TxC σ L T) (hp : fi σ 1 2 = nI p) (hpL : p ≤ L) (h1 : wdIs L T p w → Q 1 σ) (h0 : ¬ wdIs L T p w → Q 0 σ) : K_TA_isWord g (nI (wdE L T p)) w σ Q := by
  have hL := h.2.1
  have le : wdE L T p ≤ L := enE_le hpL
  have ge : p ≤ wdE L T p := enE_ge
  have sl := (slen_lt w hw).2.2
  have loop : ∀ n i, i + n = slen.getD w 0 → wdE L T p = p + slen.getD w 0 → (∀ j, j < i → nI (T (p + j)) = (sbyt.getD w []).getD j 0 &&& 255) → S_TA_isWord_25 g Q σ w (nI i) := by
    intro n
    induction n with
    | zero =>
      intro i hi hd hj
      have e : i = slen.getD w 0 := by omega
      subst e
      exact sg_TA_isWord_25 hw (k_JS_length hw ⟨fun _ => h1 ⟨hd, hj⟩, fun c => absurd (Int32.le_refl _) c⟩)
    | succ n ih =>
      intro i hi hd hj
      refine sg_TA_isWord_25 hw (k_JS_length hw ⟨fun c => absurd c (nI_ge (by omega) (by omega)), fun _ => ?_⟩)
      rw [hp, nI_add, nI_clamp (by omega)]
      refine ⟨vp_in_nI (by omega) (by decide), k_JS_charAt hw (by omega) ?_⟩
      rw [(h.2.2 (p + i) (by omega)).1]
      refine ⟨fun q => ?_, fun q => h0 (fun z => q (z.2 i (by omega)))⟩
      rintro u rfl
      rw [nI_1]
      refine ih (i + 1) (by omega) hd (fun j hj2 => ?_)
      by_cases e : j = i
      · rw [e]; exact q
      · exact hj j (by omega)
  refine ko_TA_isWord (sg_TA_isWord_0 hw ?_)
  rw [h.1, hp, pk_sub ge]
  refine ⟨fun c => absurd c (nI_nlt le (by omega)), fun _ => k_JS_length hw ⟨fun q => ?_, fun q => h0 (fun z => q ?_)⟩⟩
  · have q := (nI_eq (by omega) (by omega)).mp q
    exact loop (slen.getD w 0) 0 (by omega) (by omega) (fun j hj => absurd hj (Nat.not_lt_zero _))
  · rw [z.1, show p + slen.getD w 0 - p = slen.getD w 0 by omega]
theorem k_BM_stood {Q : Int32 → St → Prop} {w : Nat} (hw : w < 16) (h : TxM σ L T) (hp : fi σ 151 12 = nI p) (hp5 : p ≤ 402) (h1 : wdIs L T p w → Q 1 σ) (h0 : ¬ wdIs L T p w → Q 0 σ) : K_BM_stood g w σ Q := by
  have hL := h.2.1
  have ge : p ≤ wdE L T p := enE_ge
  have le : wdE L T p ≤ 402 := by
    by_cases q : p ≤ L
    · have := enE_le (f := fW L T) q; unfold wdE; omega
    · unfold wdE; rw [enE_out (by omega)]; exact hp5
  have sl := (slen_lt w hw).2.2
  have bad : ∀ n i, i + n = slen.getD w 0 → ¬ wdIs L T p w → S_BM_stood_63 g Q σ w 0 (nI i) := by
    intro n i hi hn
    exact sg_BM_stood_63 hw (k_JS_length hw ⟨fun _ => ⟨Or.inl rfl, h0 hn⟩, fun _ => ⟨fun _ => ⟨Or.inl rfl, h0 hn⟩, fun c => absurd rfl c⟩⟩)
  have loop : ∀ n i, i + n = slen.getD w 0 → wdE L T p = p + slen.getD w 0 → (∀ j, j < i → nI (T (p + j)) = (sbyt.getD w []).getD j 0 &&& 255) → S_BM_stood_63 g Q σ w 1 (nI i) := by
    intro n
    induction n with
    | zero =>
      intro i hi hd hj
      have e : i = slen.getD w 0 := by omega
      subst e
      exact sg_BM_stood_63 hw (k_JS_length hw ⟨fun _ => ⟨Or.inr rfl, h1 ⟨hd, hj⟩⟩, fun c => absurd (Int32.le_refl _) c⟩)
    | succ n ih =>
      intro i hi hd hj
      refine sg_BM_stood_63 hw (k_JS_length hw ⟨fun c => absurd c (nI_ge (by omega) (by omega)), fun _ => ⟨fun c => absurd c (by decide), fun _ => ?_⟩⟩)
      rw [hp, nI_add, nI_clamp (by omega)]
      have hin : p + i < L := by
        have := (fW_iff.mp (enE_all (f := fW L T) (L := L) (p := p) (k := p + i) (by omega) (by unfold wdE at hd; omega))).1
        exact this
      refine ⟨vp_in_nI (by omega) (by decide), k_JS_charAt hw (by omega) ?_⟩
      obtain ⟨c1, c2⟩ := wch w hw i (by omega)
      have tt := (h.2.2 (p + i) hin).2
      have ii : ((nI (T (p + i))).toInt8.toInt32 = (sbyt.getD w []).getD i 0 &&& 255) ↔ nI (T (p + i)) = (sbyt.getD w []).getD i 0 &&& 255 := by
        rw [c1, tb_lit tt c2, nI_eq (by omega) (by omega)]
      rw [(h.2.2 (p + i) hin).1, ii]
      refine ⟨fun q => ?_, fun q => ?_⟩
      · rintro u rfl
        rw [nI_1]
        exact bad n (i + 1) (by omega) (fun z => q (z.2 i (by omega)))
      · rintro u rfl
        rw [nI_1]
        refine ih (i + 1) (by omega) hd (fun j hj2 => ?_)
        by_cases e : j = i
        · rw [e]; exact q
        · exact hj j (by omega)
  have fin : S_BM_stood_41 g Q σ w (nI (wdE L T p)) := by
    refine sg_BM_stood_41 hw (k_JS_length hw ?_)
    rw [hp, pk_sub ge, nI_eq (by omega) (by omega)]
    refine ⟨fun q => bad (slen.getD w 0) 0 (by omega) (fun z => q (by have := z.1; omega)), fun q => loop (slen.getD w 0) 0 (by omega) (by omega) (fun j hj => absurd hj (Nat.not_lt_zero _))⟩
  have go : ∀ n q, L - q = n → q ≤ 402 → wdE L T q = wdE L T p → S_BM_stood_5 g Q σ w (nI q) := by
    intro n
    induction n with
    | zero =>
      intro q hn hq e
      have hs : wdE L T q = q := enE_out (by omega)
      rw [← e, hs] at fin
      refine sg_BM_stood_5 hw ⟨fun _ => fin, fun c => absurd ?_ c⟩
      rw [h.1]; exact nI_le (by omega) (by omega)
    | succ n ih =>
      intro q hn hq e
      have hqL : q < L := by omega
      obtain ⟨b1, b2⟩ := h.2.2 q hqL
      have stop : ¬ (97 ≤ T q ∧ T q ≤ 122) → S_BM_stood_41 g Q σ w (nI q) := fun z => by
        have hs : wdE L T q = q := enE_stop (fun y => z (fW_iff.mp y).2)
        rw [← e, hs] at fin; exact fin
      refine sg_BM_stood_5 hw ?_
      rw [h.1, nI_clamp (by omega), b1]
      refine ⟨fun c => absurd c (nI_ge hqL (by omega)), fun _ => ⟨vp_in_nI (by omega) (by decide), fun c => stop ((tbW _ b2).mp (Or.inl c)), fun c1 => ⟨vp_in_nI (by omega) (by decide), fun c => stop ((tbW _ b2).mp (Or.inr c)), fun c2 => ?_⟩⟩⟩
      rintro u rfl
      rw [nI_1]
      refine ih (q + 1) (by omega) (by omega) ?_
      have hw' : 97 ≤ T q ∧ T q ≤ 122 := Decidable.not_not.mp (fun z => ((tbW _ b2).mpr z).elim c1 c2)
      have := enE_step (f := fW L T) hqL (fW_iff.mpr ⟨hqL, hw'⟩)
      unfold wdE at e ⊢
      rw [← this]; exact e
  refine ko_BM_stood (sg_BM_stood_0 hw ?_)
  rintro u rfl
  rw [hp]
  exact go (L - p) p rfl hp5 rfl
end
