-- a rule's text: the reference
def sgC (k : Nat) : Nat := ([43, 45, 42, 47, 37, 60, 61, 62, 59, 91, 93] : List Nat).getD k 0
theorem sgT_inv {t k : Nat} (h : sgT t = some k) : t = sgC k := by
  unfold sgT at h
  repeat (split at h; · rename_i q; cases h; rw [q]; rfl)
  cases h
theorem sgT_of : ∀ k, k < 11 → sgT (sgC k) = some k := by decide
theorem sgC_ne : ∀ k, k < 11 → k ≠ 5 → k ≠ 7 → sgC k ≠ 60 ∧ sgC k ≠ 62 := by decide
section
variable {L : Nat} {T : Nat → Nat} {s : PS}
theorem tk_chr (hT : ∀ k, k < L → T k < 256) {k : Nat} (hk : k < 11) (h5 : k ≠ 5) (h7 : k ≠ 7) : (s.1 < L ∧ T s.1 = sgC k) ↔ tkS L T s = -14 - nI k := by
  constructor
  · rintro ⟨h1, h2⟩
    have e : sgT (T s.1) = some k := by rw [h2]; exact sgT_of k hk
    have n := sgC_ne k hk h5 h7
    unfold tkS
    rw [tk_sig h1 e, if_neg (fun z => by rw [h2] at z; exact z.1.elim n.1 n.2)]
  · intro h
    have e : (tk L T s.1).1.toInt = -14 - (k : Int) := by unfold tkS at h; rw [h]; exact n14s (by omega)
    rcases tk_cases (p := s.1) hT with ⟨-, q⟩ | ⟨-, -, q⟩ | ⟨-, -, q, q2⟩ | ⟨q1, i, hi, hw, q⟩ | ⟨-, -, q⟩ | ⟨-, -, -, -, q⟩ | ⟨hp, -, -, k', hk', hs, ⟨-, -, q, -⟩ | ⟨-, q, -⟩⟩
    · omega
    · omega
    · rw [q, nI_toInt (by omega)] at e; omega
    · omega
    · omega
    · omega
    · rw [e] at q
      split at q <;> omega
    · have : k' = k := by omega
      subst this
      exact ⟨hp, sgT_inv hs⟩
/-- smaller, larger, and the same with or the same -/
theorem tk_cmp (hT : ∀ k, k < L → T k < 256) {c : Nat} {t1 t2 : Int32} (hc : (c = 60 ∧ t1 = -19 ∧ t2 = -25) ∨ (c = 62 ∧ t1 = -21 ∧ t2 = -26)) : ((s.1 < L ∧ T s.1 = c) ∧ ¬ (s.1 + 1 < L ∧ T (s.1 + 1) = 61) ↔ tkS L T s = t1) ∧ ((s.1 < L ∧ T s.1 = c) ∧ (s.1 + 1 < L ∧ T (s.1 + 1) = 61) ↔ tkS L T s = t2) ∧ (tkS L T s = t1 → (tk L T s.1).2 = s.1 + 1) ∧ (tkS L T s = t2 → (tk L T s.1).2 = s.1 + 2) := by
  have e19 : (-19 : Int32).toInt = -19 := by decide
  have e21 : (-21 : Int32).toInt = -21 := by decide
  have e25 : (-25 : Int32).toInt = -25 := by decide
  have e26 : (-26 : Int32).toInt = -26 := by decide
  have fw : s.1 < L → T s.1 = c → tk L T s.1 = if s.1 + 1 < L ∧ T (s.1 + 1) = 61 then (t2, s.1 + 2) else (t1, s.1 + 1) := by
    intro h1 h2
    rcases hc with ⟨rfl, rfl, rfl⟩ | ⟨rfl, rfl, rfl⟩
    · have e : sgT (T s.1) = some 5 := by rw [h2]; rfl
      rw [tk_sig h1 e]
      by_cases w : s.1 + 1 < L ∧ T (s.1 + 1) = 61
      · rw [if_pos ⟨Or.inl h2, w⟩, if_pos w, if_pos h2]
      · rw [if_neg (fun z => w z.2), if_neg w]; rfl
    · have e : sgT (T s.1) = some 7 := by rw [h2]; rfl
      rw [tk_sig h1 e]
      by_cases w : s.1 + 1 < L ∧ T (s.1 + 1) = 61
      · rw [if_pos ⟨Or.inr h2, w⟩, if_pos w, if_neg (by omega)]
      · rw [if_neg (fun z => w z.2), if_neg w]; rfl
  have bw : (tkS L T s = t1 ∨ tkS L T s = t2) → s.1 < L ∧ T s.1 = c := by
    intro h
    have e : ((tk L T s.1).1.toInt = -19 ∧ c = 60) ∨ ((tk L T s.1).1.toInt = -25 ∧ c = 60) ∨ ((tk L T s.1).1.toInt = -21 ∧ c = 62) ∨ ((tk L T s.1).1.toInt = -26 ∧ c = 62) := by
      unfold tkS at h
      rcases hc with ⟨rfl, rfl, rfl⟩ | ⟨rfl, rfl, rfl⟩ <;> rcases h with h | h <;> rw [h] <;> decide
    rcases tk_cases (p := s.1) hT with ⟨-, q⟩ | ⟨-, -, q⟩ | ⟨-, -, q, q2⟩ | ⟨q1, i, hi, hw, q⟩ | ⟨-, -, q⟩ | ⟨-, -, -, -, q⟩ | ⟨hp, -, -, k', hk', hs, ⟨q0, -, q, -⟩ | ⟨-, q, -⟩⟩
    · omega
    · omega
    · rw [q, nI_toInt (by omega)] at e; omega
    · omega
    · omega
    · omega
    · refine ⟨hp, ?_⟩
      rcases q0 with q0 | q0
      · rw [if_pos q0] at q; omega
      · rw [if_neg (by omega)] at q; omega
    · refine ⟨hp, ?_⟩
      rcases (show (k' = 5 ∧ c = 60) ∨ (k' = 7 ∧ c = 62) by omega) with ⟨rfl, rfl⟩ | ⟨rfl, rfl⟩
      · exact sgT_inv hs
      · exact sgT_inv hs
  have ne : t1 ≠ t2 := by rcases hc with ⟨-, rfl, rfl⟩ | ⟨-, rfl, rfl⟩ <;> decide
  refine ⟨⟨fun h => ?_, fun h => ?_⟩, ⟨fun h => ?_, fun h => ?_⟩, fun h => ?_, fun h => ?_⟩
  · unfold tkS; rw [fw h.1.1 h.1.2, if_neg h.2]
  · have b := bw (Or.inl h)
    refine ⟨b, fun w => ?_⟩
    unfold tkS at h
    rw [fw b.1 b.2, if_pos w] at h
    exact ne h.symm
  · unfold tkS; rw [fw h.1.1 h.1.2, if_pos h.2]
  · have b := bw (Or.inr h)
    refine ⟨b, Decidable.not_not.mp (fun w => ?_)⟩
    unfold tkS at h
    rw [fw b.1 b.2, if_neg w] at h
    exact ne h
  · have b := bw (Or.inl h)
    unfold tkS at h
    rw [fw b.1 b.2] at h ⊢
    by_cases w : s.1 + 1 < L ∧ T (s.1 + 1) = 61
    · rw [if_pos w] at h; exact absurd h.symm ne
    · rw [if_neg w]
  · have b := bw (Or.inr h)
    unfold tkS at h
    rw [fw b.1 b.2] at h ⊢
    by_cases w : s.1 + 1 < L ∧ T (s.1 + 1) = 61
    · rw [if_pos w]
    · rw [if_neg w] at h; exact absurd h ne
theorem tk_one (hT : ∀ k, k < L → T k < 256) {k : Nat} (hk : k < 11) (h5 : k ≠ 5) (h7 : k ≠ 7) (h : tkS L T s = -14 - nI k) : (tk L T s.1).2 = s.1 + 1 := by
  obtain ⟨h1, h2⟩ := (tk_chr hT hk h5 h7).mpr h
  have e : sgT (T s.1) = some k := by rw [h2]; exact sgT_of k hk
  have n := sgC_ne k hk h5 h7
  rw [tk_sig h1 e, if_neg (fun z => by rw [h2] at z; exact z.1.elim n.1 n.2)]
theorem tk_wd (hT : ∀ k, k < L → T k < 256) {i : Nat} (hi : i < 13) : wdIs L T s.1 (wI i) ↔ tkS L T s = -1 - nI i := by
  have w3 := wS3 i hi
  constructor
  · intro h
    have gt : s.1 < wdE L T s.1 := by have := h.1; omega
    have hw : fW L T s.1 = true := enE_all (f := fW L T) (L := L) (p := s.1) (Nat.le_refl _) gt
    unfold tkS
    rw [tk_wrd hw]
    cases q : wdS L T s.1 13 0 with
    | none => exact absurd h (wdS_none q (Nat.zero_le _) (by omega))
    | some k =>
      obtain ⟨a, b, c⟩ := wdS_some q
      rw [wdIs_un (by omega) hi a h]
  · intro h
    have e : (tk L T s.1).1.toInt = -1 - (i : Int) := by unfold tkS at h; rw [h]; exact n1s (by omega)
    rcases tk_cases (p := s.1) hT with ⟨-, q⟩ | ⟨-, -, q⟩ | ⟨-, -, q, q2⟩ | ⟨q1, i', hi', hw, q⟩ | ⟨-, -, q⟩ | ⟨-, -, -, -, q⟩ | ⟨-, -, -, k', hk', hs, ⟨-, -, q, -⟩ | ⟨-, q, -⟩⟩
    · omega
    · omega
    · rw [q, nI_toInt (by omega)] at e; omega
    · have : i' = i := by omega
      rw [← this]; exact hw
    · omega
    · omega
    · rw [e] at q
      split at q <;> omega
    · omega
theorem tk_wl (hT : ∀ k, k < L → T k < 256) {i : Nat} (hi : i < 13) (h : tkS L T s = -1 - nI i) : (tk L T s.1).2 = s.1 + slen.getD (wI i) 0 ∧ s.1 < L := by
  have hw := (tk_wd hT hi).mpr h
  have w3 := wS3 i hi
  have gt : s.1 < wdE L T s.1 := by have := hw.1; omega
  have hf : fW L T s.1 = true := enE_all (f := fW L T) (L := L) (p := s.1) (Nat.le_refl _) gt
  rw [tk_wrd hf]
  exact ⟨hw.1, (fW_iff.mp hf).1⟩
end
def FrM (sl : Nat) (σ τ : St) : Prop := fr [(151, 12), (151, 13), (151, 16), (151, 18)] [163, 164] σ τ ∧ ∀ k, k < 300 * sl → ai τ 163 k = ai σ 163 k ∧ ai τ 164 k = ai σ 164 k
theorem FrM.rf {sl : Nat} {σ : St} : FrM sl σ σ := ⟨fr.rf, fun _ _ => ⟨rfl, rfl⟩⟩
theorem FrM.tr {sl : Nat} {σ τ υ : St} (h1 : FrM sl σ τ) (h2 : FrM sl τ υ) : FrM sl σ υ := ⟨h1.1.tr h2.1, fun k hk => ⟨(h2.2 k hk).1.trans (h1.2 k hk).1, (h2.2 k hk).2.trans (h1.2 k hk).2⟩⟩
theorem FrM.of {sl : Nat} {σ τ : St} {F : List (Nat × Nat)} {M : List Nat} (h : fr F M σ τ) (hF : ∀ q ∈ F, q ∈ ([(151, 12), (151, 13), (151, 16), (151, 18)] : List (Nat × Nat))) (hM : ∀ q ∈ M, q ∈ ([] : List Nat)) : FrM sl σ τ := ⟨h.mo hF (fun q hq => absurd (hM q hq) (by simp)), fun k _ => by
  rw [(h.2 163 (fun z => absurd (hM _ z) (by simp))).1, (h.2 164 (fun z => absurd (hM _ z) (by simp))).1]
  exact ⟨rfl, rfl⟩⟩
theorem FrM.s1 {sl k : Nat} {σ : St} {v : Int32} (h : (151, k) ∈ ([(151, 12), (151, 13), (151, 16), (151, 18)] : List (Nat × Nat))) : FrM sl σ (sfi σ 151 k v) := FrM.of (F := [(151, k)]) (M := []) (fr_sfi (by simp)) (fun q hq => by simp at hq; rw [hq]; exact h) (by simp)
section
variable {L sl q : Nat} {T : Nat → Nat} {g : Gx} {σ : St} {s : PS}
def RpM (σ : St) (L : Nat) (T : Nat → Nat) (sl q : Nat) (s : PS) : Prop := TxM σ L T ∧ (fi σ 151 12 = nI q ∧ q ≤ L ∧ skF L T q = s.1) ∧ fi σ 151 13 = 0 ∧ (fi σ 151 14 = nI sl ∧ sl < 6) ∧ fi σ 151 18 = nI s.2.1 ∧ fi σ 151 16 = nI s.2.2.1 ∧ fi σ 151 20 = 8 ∧ ∀ j, j < s.2.2.1 → tkM (s.2.2.2 j) (ai σ 163 (300 * sl + j)) (ai σ 164 (300 * sl + j))
theorem RpM.sk (h : RpM σ L T sl q s) : RpM (sfi σ 151 12 (nI s.1)) L T sl s.1 s := by
  obtain ⟨hx, ⟨a1, a2, a3⟩, h3, h4, h5, h6, h7, h8⟩ := h
  exact ⟨hx.at (by decide), ⟨rfl, by rw [← a3]; exact skF_le a2, by rw [← a3]; exact skF_skF⟩, h3, h4, h5, h6, h7, h8⟩
theorem RpM.to {q' : Nat} (h : RpM σ L T sl q s) (e : (tk L T s.1).2 = q') (hp : s.1 ≤ L) : RpM (sfi σ 151 12 (nI q')) L T sl q' (avF L T s) := by
  obtain ⟨hx, ⟨a1, a2, a3⟩, h3, h4, h5, h6, h7, h8⟩ := h
  refine ⟨hx.at (by decide), ⟨rfl, by rw [← e]; exact tk_le hp, by rw [← e]; rfl⟩, h3, h4, h5, h6, h7, h8⟩
theorem k_BM_blanksR {Q : St → Prop} (h : RpM σ L T sl q s) (hQ : RpM (sfi σ 151 12 (nI s.1)) L T sl s.1 s → Q (sfi σ 151 12 (nI s.1))) : K_BM_blanks g σ Q := by
  have hL := h.1.2.1
  have h2 := h.2.1.2.1
  refine k_BM_blanks h.1 h.2.1.1 (by omega) ?_
  rw [h.2.1.2.2]
  exact hQ h.sk
theorem k_BM_entryF {Q : St → Prop} {x y : Int32} {f : Nat} (hF : FlM σ f) (h : Q σ) : K_BM_entry g x y σ Q := ko_BM_entry (sg_BM_entry_0 ⟨fun _ => h, fun c => absurd c hF.ne⟩)
theorem k_BM_entry {Q : St → Prop} {x z v : Int32} (h : RpM σ L T sl q s) (hl : s.2.2.1 < 300) (ht : tkM x z v) (hQ : ∀ τ, FrM sl σ τ → RpM τ L T sl q (emF s x) → Q τ) : K_BM_entry g z v σ Q := by
  obtain ⟨hx, a, h3, ⟨h4, h4'⟩, h5, h6, h7, h8⟩ := h
  have e3 : (300 : Int32) * nI sl + nI s.2.2.1 = nI (300 * sl + s.2.2.1) := by
    show nI 300 * nI sl + nI _ = _
    rw [pk_mul, nI_add]
  refine ko_BM_entry (sg_BM_entry_0 ⟨fun c => absurd h3 c, fun _ => ?_⟩)
  rw [h4, h6, e3]
  refine ⟨vp_in_nI (by omega) (by decide), ?_⟩
  rw [nI_clamp (by omega)]
  rintro s1 e1
  have b4 : fi s1 151 14 = nI sl := by rw [e1]; exact h4
  have b6 : fi s1 151 16 = nI s.2.2.1 := by rw [e1]; exact h6
  rw [b4, b6, e3, nI_clamp (by omega)]
  refine ⟨vp_in_nI (by omega) (by decide), ?_⟩
  rintro s2 e2 s3 e3'
  have c6 : fi s2 151 16 = nI s.2.2.1 := by rw [e2]; exact b6
  rw [c6, nI_1] at e3'
  have f3 : fr [(151, 16)] [163, 164] σ s3 := by rw [e3', e2, e1]; exact ((fr_sai (by decide)).tr (fr_sai (by decide))).tr (fr_sfi (by decide))
  have r163 : ∀ k, ai s3 163 k = if k = 300 * sl + s.2.2.1 then z else ai σ 163 k := by
    intro k
    rw [e3', ai_sfi, e2, ai_sai, if_neg (fun w => absurd w.1 (by decide)), e1, ai_sai]; simp only [true_and]
  have r164 : ∀ k, ai s3 164 k = if k = 300 * sl + s.2.2.1 then v else ai σ 164 k := by
    intro k
    rw [e3', ai_sfi, e2, ai_sai, e1, ai_sai, if_neg (c := 164 = 163 ∧ _) (fun w => absurd w.1 (by decide))]; simp only [true_and]
  refine hQ s3 ⟨f3.mo (by decide) (by decide), fun k hk => by rw [r163, r164, if_neg (by omega), if_neg (by omega)]; exact ⟨rfl, rfl⟩⟩ ⟨hx.frm f3 (by decide) (by decide), ?_, ?_, ⟨?_, h4'⟩, ?_, by rw [e3']; rfl, ?_, fun j hj => ?_⟩
  · rw [(f3.1 151 12 (by decide)).1]; exact a
  · rw [(f3.1 151 13 (by decide)).1]; exact h3
  · rw [(f3.1 151 14 (by decide)).1]; exact h4
  · rw [(f3.1 151 18 (by decide)).1]; exact h5
  · rw [(f3.1 151 20 (by decide)).1]; exact h7
  · have hj : j < s.2.2.1 + 1 := hj
    show tkM (if j = s.2.2.1 then x else s.2.2.2 j) _ _
    rw [r163, r164]
    by_cases e : j = s.2.2.1
    · rw [if_pos e, if_pos (by omega), if_pos (by omega)]; exact ht
    · rw [if_neg e, if_neg (by omega), if_neg (by omega)]; exact h8 j (by omega)
theorem k_BM_isCountedF {Q : St → Prop} {x : Nat} {f : Nat} (hF : FlM σ f) (h : ∀ τ, fr [(151, 18)] [] σ τ → FlM τ f → Q τ) : K_BM_isCounted g (nI x) σ Q := by
  have nx : ∀ s, s = sfi σ 151 18 (fi σ 151 18 + 1) → Q s := fun s e => by
    have f1 : fr [(151, 18)] [] σ s := by rw [e]; exact fr_sfi (by decide)
    exact h s f1 (hF.fr f1 (by decide) (by decide))
  exact ko_BM_isCounted (sg_BM_isCounted_0 ⟨fun _ => nx, fun _ => k_BM_failsF (c := 3) (fun τ hf => by rw [hf.non hF]; exact nx)⟩)
/-- a value or a comparison more -/
theorem k_BM_isCounted {Q : St → Prop} {x : Nat} (h : RpM σ L T sl q s) (hc : s.2.1 ≤ 60) (hx : x ≤ 402) (hbad : 60 ≤ s.2.1 → ∀ τ, FrM sl σ τ → FlM τ (flt x 3) → TxM τ L T → fi τ 151 20 = 8 → fi τ 151 12 = fi σ 151 12 → Q τ) (hok : s.2.1 < 60 → ∀ τ, FrM sl σ τ → RpM τ L T sl q (cnF s) → Q τ) : K_BM_isCounted g (nI x) σ Q := by
  obtain ⟨hx', ⟨a1, a2, a3⟩, h3, h4, h5, h6, h7, h8⟩ := id h
  have hL := hx'.2.1
  refine ko_BM_isCounted (sg_BM_isCounted_0 ?_)
  rw [h5]
  refine pk_eq s.2.1 60 (fun c => ?_) (fun c => ?_) |>.symm
  · refine k_BM_failsF (c := 3) (fun τ hf => ?_)
    obtain ⟨a, b⟩ := hf.of h3 a1 (by omega) (by decide) (by omega)
    have e : τ = sfi σ 151 13 (nI (flt x 3)) := hf.elim (fun z => absurd h3 z.1) (fun z => z.2)
    rintro s3 e3
    have f3 : fr [(151, 18)] [] τ s3 := by rw [e3]; exact fr_sfi (by decide)
    have fa : fr [(151, 13), (151, 18)] [] σ s3 := by rw [e3, e]; exact (fr_sfi (by decide)).tr (fr_sfi (by decide))
    exact hbad (by omega) s3 (FrM.of fa (by decide) (by simp)) (a.fr f3 (by decide) (by decide)) (hx'.frm fa (by decide) (by decide)) (by rw [(fa.1 151 20 (by decide)).1]; exact h7) (fa.1 151 12 (by decide)).1
  · rintro s1 e1
    rw [nI_1] at e1
    have f1 : fr [(151, 18)] [] σ s1 := by rw [e1]; exact fr_sfi (by decide)
    refine hok (by omega) s1 (FrM.of f1 (by decide) (by simp)) ⟨hx'.frm f1 (by decide) (by decide), ?_, ?_, ?_, by rw [e1]; rfl, ?_, ?_, ?_⟩
    · rw [(f1.1 151 12 (by decide)).1]; exact ⟨a1, a2, a3⟩
    · rw [(f1.1 151 13 (by decide)).1]; exact h3
    · rw [(f1.1 151 14 (by decide)).1]; exact h4
    · rw [(f1.1 151 16 (by decide)).1]; exact h6
    · rw [(f1.1 151 20 (by decide)).1]; exact h7
    · rw [(f1.2 163 (by decide)).1, (f1.2 164 (by decide)).1]; exact h8
theorem k_BM_wordOf {Q : Nat → St → Prop} {k : Nat} (hk : k < 8) (h : Q (gK g (wI k)) σ) : K_BM_wordOf g (nI k) σ Q := by
  have e : ∀ c : Nat, c < 8 → (nI k = nI c ↔ k = c) := fun c hc => nI_eq (by omega) (by omega)
  refine ko_BM_wordOf (sg_BM_wordOf_0 ⟨fun q => ?_, fun q => ?_, fun q => ?_, fun q => ?_, fun q => ?_, fun q => ?_, fun q => ?_, fun q0 q1 q2 q3 q4 q5 q6 => ?_⟩)
  · have q := (e 0 (by decide)).mp q; subst q; exact h
  · have q := (e 1 (by decide)).mp q; subst q; exact h
  · have q := (e 2 (by decide)).mp q; subst q; exact h
  · have q := (e 3 (by decide)).mp q; subst q; exact h
  · have q := (e 4 (by decide)).mp q; subst q; exact h
  · have q := (e 5 (by decide)).mp q; subst q; exact h
  · have q := (e 6 (by decide)).mp q; subst q; exact h
  · have : k = 7 := by
      have n0 := fun z => q0 ((e 0 (by decide)).mpr z)
      have n1 := fun z => q1 ((e 1 (by decide)).mpr z)
      have n2 := fun z => q2 ((e 2 (by decide)).mpr z)
      have n3 := fun z => q3 ((e 3 (by decide)).mpr z)
      have n4 := fun z => q4 ((e 4 (by decide)).mpr z)
      have n5 := fun z => q5 ((e 5 (by decide)).mpr z)
      have n6 := fun z => q6 ((e 6 (by decide)).mpr z)
      rcases (show k = 0 ∨ k = 1 ∨ k = 2 ∨ k = 3 ∨ k = 4 ∨ k = 5 ∨ k = 6 ∨ k = 7 by omega) with z | z | z | z | z | z | z | z
      · exact (n0 z).elim
      · exact (n1 z).elim
      · exact (n2 z).elim
      · exact (n3 z).elim
      · exact (n4 z).elim
      · exact (n5 z).elim
      · exact (n6 z).elim
      · exact z
    subst this; exact h
end
