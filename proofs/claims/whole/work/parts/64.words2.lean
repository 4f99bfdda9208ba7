-- the words of a ball
theorem enc_0 {p : Nat} (h : p < 38) : enc p = 0 ↔ p = 36 := by
  unfold enc spc
  split
  · omega
  · split <;> omega
theorem enc_7 {p : Nat} (h : p < 38) : enc p = 7 ↔ p = 37 := by
  unfold enc spc
  split
  · omega
  · split <;> omega
theorem spc8 {c : Nat} (h : c < 36) : spc c % 8 = c % 6 + 1 ∧ spc c / 8 = c / 6 + 1 := by unfold spc; omega
def cnS (S p : Nat) : Nat := (if spo S 0 = p then 1 else 0) + (if spo S 1 = p then 1 else 0) + (if spo S 2 = p then 1 else 0)
/-- the words, as the document has them -/
def wdF (C R B : Nat) (K : Nat → Nat) (T : Int32) (P : Nat → Nat) (w b k : Nat) : Int64 :=
  if k = 0 then (nI b).toInt64 else if k = 1 then (nI (P b % 6)).toInt64 else if k = 2 then (nI (P b / 6)).toInt64 else if k = 3 then (nI (rolF C R K P w b).1).toInt64 else if k = 4 then (nI w).toInt64 else if k = 5 then T.toInt64 else if k = 6 then (nI (fel P B 36)).toInt64 else (nI ((stF C R K P b).getD 0)).toInt64
section
variable {g : Gx} {σ : St} {C R B : Nat} {K P : Nat → Nat}
theorem k_SA_howMany {Q : Int32 → St → Prop} {S p : Nat} (hS : S < 2 ^ 31) (hp : p < 64) (h : Q (nI (cnS S p)) σ) : K_SA_howMany g (nI S) (nI p) σ Q := by
  have step : ∀ b n, b < 3 → S_SA_howMany_4 g Q σ (nI S) (nI p) (nI (n + if spo S b = p then 1 else 0)) (nI (b + 1)) → S_SA_howMany_4 g Q σ (nI S) (nI p) (nI n) (nI b) := by
    intro b n hb h1
    refine sg_SA_howMany_4 ⟨fun c => absurd c (nI_ge (b := 3) hb (by decide)), fun _ => ?_⟩
    rw [spotIn_eq hS hb, nI_eq (by have := spo_lt S b; omega) (by omega)]
    refine ⟨fun z => ?_, fun z => ?_⟩
    · rintro u rfl
      rw [if_neg z] at h1
      rw [nI_1]; exact h1
    · rintro u rfl u2 rfl
      rw [if_pos z] at h1
      rw [nI_1, nI_1]; exact h1
  refine ko_SA_howMany (sg_SA_howMany_0 ?_)
  refine step 0 0 (by omega) (step 1 _ (by omega) (step 2 _ (by omega) ?_))
  refine sg_SA_howMany_4 ⟨fun _ => ?_, fun c => absurd (by decide) c⟩
  unfold cnS at h
  rw [Nat.zero_add]
  exact h
theorem cnS_home (h : okW C R B P) : cnS (sitP P B) 0 = cn3 P 36 := by
  unfold cnS cn3
  rw [spo_sitP (by decide), spo_sitP (by decide), spo_sitP (by decide), enB_norm h.1, enB_norm h.1, enB_norm h.1]
  simp only [enc_0 (h.2 _).1]
theorem cnS_lost (h : okW C R B P) : cnS (sitP P B) 7 = cn3 P 37 := by
  unfold cnS cn3
  rw [spo_sitP (by decide), spo_sitP (by decide), spo_sitP (by decide), enB_norm h.1, enB_norm h.1, enB_norm h.1]
  simp only [enc_7 (h.2 _).1]
theorem cn3_home (hB : B ≤ 3) (h : okW C R B P) : cn3 P 36 = fel P B 36 + (3 - B) := by
  unfold cn3 fel
  have e : ∀ b, B ≤ b → P b = 36 := h.1
  rcases (show B = 0 ∨ B = 1 ∨ B = 2 ∨ B = 3 by omega) with rfl | rfl | rfl | rfl
  · simp [e 0 (by decide), e 1 (by decide), e 2 (by decide)]
  · simp [e 1 (by decide), e 2 (by decide)]
  · simp [e 2 (by decide)]
  · simp
theorem cn3_lost (hB : B ≤ 3) (h : okW C R B P) : cn3 P 37 = fel P B 37 := by
  unfold cn3 fel
  have e : ∀ b, B ≤ b → P b = 36 := h.1
  rcases (show B = 0 ∨ B = 1 ∨ B = 2 ∨ B = 3 by omega) with rfl | rfl | rfl | rfl
  · simp [e 0 (by decide), e 1 (by decide), e 2 (by decide)]
  · simp [e 1 (by decide), e 2 (by decide)]
  · simp [e 2 (by decide)]
  · simp
theorem k_SA_howManyHome {Q : Int32 → St → Prop} {t : Nat} (ht : isSA t) (h4 : fi σ t 4 = nI B) (hB : B ≤ 3) (hp : okW C R B P) (h : Q (nI (fel P B 36)) σ) : K_SA_howManyHome g t (nI (sitP P B)) σ Q := by
  have hS : sitP P B < 262144 := sitP_lt
  refine ko_SA_howManyHome (sg_SA_howManyHome_0 ht (k_SA_howMany (p := 0) (by omega) (by decide) ?_))
  rw [cnS_home hp, cn3_home hB hp, h4]
  have e : nI (fel P B 36 + (3 - B)) - ((3 : Int32) - nI B) = nI (fel P B 36) := by
    have e3 : (3 : Int32) - nI B = nI (3 - B) := by
      rcases (show B = 0 ∨ B = 1 ∨ B = 2 ∨ B = 3 by omega) with rfl | rfl | rfl | rfl <;> decide
    rw [e3, ← nI_add, Int32.add_sub_cancel]
  rw [e]
  exact h
theorem k_SA_colC {Q : Int32 → St → Prop} {c : Nat} (hc : c < 36) (h : Q (nI (c % 6)) σ) : K_SA_columnOf g (nI (spc c)) σ Q := by
  refine k_SA_columnOf (spc_lt hc) ?_
  rw [(spc8 hc).1, nI_pred]; exact h
theorem k_SA_rowC {Q : Int32 → St → Prop} {c : Nat} (hc : c < 36) (h : Q (nI (c / 6)) σ) : K_SA_rowOf g (nI (spc c)) σ Q := by
  refine k_SA_rowOf (spc_lt hc) ?_
  rw [(spc8 hc).2, nI_pred]; exact h
theorem holes_eq {t b : Nat} (hc : ClsB t σ C R B K) (hb : b < 3) : ai σ (t + 2) b = (match hoG C R K b 36 0 with
    | none => 0
    | some c => nI (spc c)) := by
  obtain ⟨-, ⟨hC, hR, -⟩, -, hH⟩ := hc
  cases hh : hoG C R K b 36 0 with
  | none => exact (hH b hb).2 (fun c h1 h2 => hoG_none hh (Nat.zero_le _) (by omega) ⟨h1, h2⟩)
  | some c => exact (hH b hb).1 c (hoG_some hh).1.1 (hoG_some hh).1.2 (hoG_some hh).2
theorem k_SA_stepsHome {Q : Int32 → St → Prop} {t b : Nat} (ht : isSA t) (hc : ClsB t σ C R B K) (hb : b < 3) (hp : P b < 36) (h : Q (oI (stF C R K P b)) σ) : K_SA_stepsHome g t (nI b) (nI (spc (P b))) σ Q := by
  obtain ⟨-, ⟨hC, hR, -⟩, -, hH⟩ := id hc
  refine ko_SA_stepsHome (sg_SA_stepsHome_0 ht ⟨fun c => absurd c (nI_pos (by omega)), fun _ => ⟨fun _ => ⟨vp_in_nI hb (by decide), ?_⟩, fun c => absurd (nI_lt (b := 3) hb (by decide)) c⟩⟩)
  rw [nI_clamp (by omega), holes_eq hc hb]
  unfold stF at h
  cases hh : hoG C R K b 36 0 with
  | none =>
    rw [hh] at h
    exact sg_SA_stepsHome_23 ⟨fun c => absurd rfl c, fun _ => h⟩
  | some c =>
    rw [hh] at h
    have h1 := hoG_some hh
    have hc36 : c < 36 := by omega
    refine sg_SA_stepsHome_23 ⟨fun _ => ?_, fun q => absurd ((nI_eq (b := 0) (by have := spc_lt hc36; omega) (by decide)).mp q) (by unfold spc; omega)⟩
    refine k_SA_colC hc36 (k_SA_colC hp (k_SA_rowC hc36 (k_SA_rowC hp ?_)))
    rw [adf_sub (by omega) (by omega), adf_sub (by omega) (by omega), nI_add]
    exact h
theorem k_RU_uses {Q : Int32 → St → Prop} {t : Nat} {x : Int32} (ht : isRU t) (h : Q (if (fi σ t 6 >>> (x &&& 31)) &&& 1 = 0 then 0 else 1) σ) : K_RU_uses g t x σ Q := ko_RU_uses (sg_RU_uses_0 ht (qif h))
theorem stF_le {b : Nat} (hC : C ≤ 6) (hR : R ≤ 6) (hp : P b < 36) : (stF C R K P b).getD 0 < 64 := by
  unfold stF
  cases hh : hoG C R K b 36 0 with
  | none => show 0 < 64; decide
  | some c =>
    have := hoG_some hh
    show adf _ _ + adf _ _ < 64
    unfold adf
    split <;> split <;> omega
/-- what the class tells of it: what the rule doesn't ask for is 0 -/
def wdC (U : Int32) (W : Nat → Int64) (k : Nat) : Int64 := if (k = 3 ∨ k = 6 ∨ k = 7) ∧ (U >>> (nI k &&& 31)) &&& 1 = 0 then 0 else W k
theorem wd0 {T : Int32} {w b : Nat} : wdF C R B K T P w b 0 = (nI b).toInt64 := by simp [wdF]
theorem wd1 {T : Int32} {w b : Nat} : wdF C R B K T P w b 1 = (nI (P b % 6)).toInt64 := by simp [wdF]
theorem wd2 {T : Int32} {w b : Nat} : wdF C R B K T P w b 2 = (nI (P b / 6)).toInt64 := by simp [wdF]
theorem wd3 {T : Int32} {w b : Nat} : wdF C R B K T P w b 3 = (nI (rolF C R K P w b).1).toInt64 := by simp [wdF]
theorem wd4 {T : Int32} {w b : Nat} : wdF C R B K T P w b 4 = (nI w).toInt64 := by simp [wdF]
theorem wd5 {T : Int32} {w b : Nat} : wdF C R B K T P w b 5 = T.toInt64 := by simp [wdF]
theorem wd6 {T : Int32} {w b : Nat} : wdF C R B K T P w b 6 = (nI (fel P B 36)).toInt64 := by simp [wdF]
theorem wd7 {T : Int32} {w b : Nat} : wdF C R B K T P w b 7 = (nI ((stF C R K P b).getD 0)).toInt64 := by simp [wdF]
theorem w3a {x y z : Int64} : aj (saj (saj (saj σ 19 0 x) 19 1 y) 19 2 z) 19 0 = x ∧ aj (saj (saj (saj σ 19 0 x) 19 1 y) 19 2 z) 19 1 = y ∧ aj (saj (saj (saj σ 19 0 x) 19 1 y) 19 2 z) 19 2 = z := by
  refine ⟨?_, ?_, ?_⟩ <;> simp [fi_sfi, fi_sfj, fi_sai, fi_saj, fi_rai, fj_sfi, fj_sfj, fj_sai, fj_saj, fj_rai, ai_sfi, ai_sfj, ai_sai, ai_saj, ai_raiN, aj_sfi, aj_sfj, aj_sai, aj_saj, aj_rai]
theorem w3b {x y z a b c : Int64} (h : aj σ 19 0 = a ∧ aj σ 19 1 = b ∧ aj σ 19 2 = c) : aj (saj (saj (saj σ 19 3 x) 19 4 y) 19 5 z) 19 0 = a ∧ aj (saj (saj (saj σ 19 3 x) 19 4 y) 19 5 z) 19 1 = b ∧ aj (saj (saj (saj σ 19 3 x) 19 4 y) 19 5 z) 19 2 = c ∧ aj (saj (saj (saj σ 19 3 x) 19 4 y) 19 5 z) 19 3 = x ∧ aj (saj (saj (saj σ 19 3 x) 19 4 y) 19 5 z) 19 4 = y ∧ aj (saj (saj (saj σ 19 3 x) 19 4 y) 19 5 z) 19 5 = z := by
  refine ⟨?_, ?_, ?_, ?_, ?_, ?_⟩ <;> simp [fi_sfi, fi_sfj, fi_sai, fi_saj, fi_rai, fj_sfi, fj_sfj, fj_sai, fj_saj, fj_rai, ai_sfi, ai_sfj, ai_sai, ai_saj, ai_raiN, aj_sfi, aj_sfj, aj_sai, aj_saj, aj_rai, h]
theorem w3c {x a b c d e f : Int64} (h : aj σ 19 0 = a ∧ aj σ 19 1 = b ∧ aj σ 19 2 = c ∧ aj σ 19 3 = d ∧ aj σ 19 4 = e ∧ aj σ 19 5 = f) : aj (saj σ 19 6 x) 19 0 = a ∧ aj (saj σ 19 6 x) 19 1 = b ∧ aj (saj σ 19 6 x) 19 2 = c ∧ aj (saj σ 19 6 x) 19 3 = d ∧ aj (saj σ 19 6 x) 19 4 = e ∧ aj (saj σ 19 6 x) 19 5 = f ∧ aj (saj σ 19 6 x) 19 6 = x := by
  refine ⟨?_, ?_, ?_, ?_, ?_, ?_, ?_⟩ <;> simp [fi_sfi, fi_sfj, fi_sai, fi_saj, fi_rai, fj_sfi, fj_sfj, fj_sai, fj_saj, fj_rai, ai_sfi, ai_sfj, ai_sai, ai_saj, ai_raiN, aj_sfi, aj_sfj, aj_sai, aj_saj, aj_rai, h]
theorem wdC_neg {U : Int32} {W : Nat → Int64} {k : Nat} (q : ¬ (U >>> (nI k &&& 31)) &&& 1 = 0) : wdC U W k = W k := if_neg (fun z => q z.2)
theorem wdC_lo {U : Int32} {W : Nat → Int64} {k : Nat} (q : k ≠ 3 ∧ k ≠ 6 ∧ k ≠ 7) : wdC U W k = W k := if_neg (fun z => by omega)
theorem max0n : (if (0 : Int32) < -1 then (-1 : Int32) else 0) = nI 0 := by decide
theorem max0 {n : Nat} (h : n < 2 ^ 31) : (if (0 : Int32) < nI n then nI n else 0) = nI n := by
  by_cases n0 : n = 0
  · subst n0; decide
  · exact if_pos (nI_lt (a := 0) (by omega) h)
theorem k_RO_tellWords {Q : St → Prop} {t o w b : Nat} {T : Int32} (ht : isSA t) (ho : isRU o) (hw : w < 4) (hc : ClsB t σ C R B K) (h6 : fi σ t 6 = T) (hp : okW C R B P) (hbB : b < B) (hb : P b < 36) (h : ∀ τ, fr [] [19] σ τ → (∀ k, k < 8 → aj τ 19 k = wdC (fi σ o 6) (wdF C R B K T P w b) k) → Q τ) : K_RO_tellWords g o t (nI (sitP P B)) (nI b) (nI w) σ Q := by
  obtain ⟨⟨-, -, c4⟩, ⟨hC, hR, hB⟩, -⟩ := id hc
  have hS : sitP P B < 262144 := sitP_lt
  have ht19 : t + 1 ∉ [19] ∧ t + 2 ∉ [19] := by
    have := sa_out ht
    constructor
    · intro q; exact this.2.1 (by simp at q; simp [q])
    · intro q; exact this.2.2.1 (by simp at q; simp [q])
  have kept : ∀ τ, fr [] [19] σ τ → ClsB t τ C R B K ∧ fi τ t 6 = T ∧ fi τ o 6 = fi σ o 6 := fun τ f => ⟨hc.fr f (by simp) (by simp) (by simp) ht19.1 ht19.2, by rw [(f.1 t 6 (by simp)).1]; exact h6, (f.1 o 6 (by simp)).1⟩
  refine ko_RO_tellWords (sg_RO_tellWords_0 ho ht (k_SA_spotIn (by omega) (by omega) ?_))
  rw [spo_sitP (by omega), enB_norm hp.1, enc_c hb]
  refine ⟨pk_in 0 8 (by decide), ?_⟩
  rintro s3 rfl
  refine k_SA_colC hb ⟨pk_in 1 8 (by decide), ?_⟩
  rintro s6 rfl
  refine k_SA_rowC hb ⟨pk_in 2 8 (by decide), ?_⟩
  rintro s9 hs9
  have f9 : fr [] [19] σ s9 := by rw [hs9]; exact ((fr_saj (by simp)).tr (fr_saj (by simp))).tr (fr_saj (by simp))
  have a9 : aj s9 19 0 = (nI b).toInt64 ∧ aj s9 19 1 = (nI (P b % 6)).toInt64 ∧ aj s9 19 2 = (nI (P b / 6)).toInt64 := by
    rw [hs9, cl0, cl1, cl2]
    exact w3a
  clear hs9
  have st72 : ∀ z : Int64, z = wdC (fi σ o 6) (wdF C R B K T P w b) 3 → S_RO_tellWords_72 g Q s9 o t (nI (sitP P B)) (nI b) (nI w) (nI (spc (P b))) z 3 := by
    intro z hz
    refine sg_RO_tellWords_72 ho ht ⟨pk_in 3 8 (by decide), ?_⟩
    rintro s1 rfl
    refine ⟨pk_in 4 8 (by decide), ?_⟩
    rintro s2 rfl
    refine ⟨pk_in 5 8 (by decide), ?_⟩
    rintro s3 hs3
    have f3 : fr [] [19] σ s3 := by rw [hs3]; exact f9.tr (((fr_saj (by simp)).tr (fr_saj (by simp))).tr (fr_saj (by simp)))
    have e5 : fi (saj (saj s9 19 (3 : Int32).toNatClampNeg z) 19 (4 : Int32).toNatClampNeg (nI w).toInt64) t 6 = T := (kept s9 f9).2.1
    rw [e5] at hs3
    have a3 : aj s3 19 0 = (nI b).toInt64 ∧ aj s3 19 1 = (nI (P b % 6)).toInt64 ∧ aj s3 19 2 = (nI (P b / 6)).toInt64 ∧ aj s3 19 3 = z ∧ aj s3 19 4 = (nI w).toInt64 ∧ aj s3 19 5 = T.toInt64 := by
      rw [hs3, cl3, cl4, cl5]
      exact w3b a9
    clear hs3 e5
    have st118 : ∀ y : Int64, y = wdC (fi σ o 6) (wdF C R B K T P w b) 6 → S_RO_tellWords_118 g Q s3 o t (nI b) (nI (spc (P b))) y 6 := by
      intro y hy
      refine sg_RO_tellWords_118 ho ht ⟨pk_in 6 8 (by decide), ?_⟩
      rintro s1 hs1
      have f1 : fr [] [19] σ s1 := by rw [hs1]; exact f3.tr (fr_saj (by simp))
      have a1 : aj s1 19 0 = (nI b).toInt64 ∧ aj s1 19 1 = (nI (P b % 6)).toInt64 ∧ aj s1 19 2 = (nI (P b / 6)).toInt64 ∧ aj s1 19 3 = z ∧ aj s1 19 4 = (nI w).toInt64 ∧ aj s1 19 5 = T.toInt64 ∧ aj s1 19 6 = y := by
        rw [hs1, cl6]
        exact w3c a3
      have fin : ∀ x : Int64, x = wdC (fi σ o 6) (wdF C R B K T P w b) 7 → ∀ s, s = saj s1 19 (7 : Int32).toNatClampNeg x → Q s := by
        rintro x hx s rfl
        refine h _ (f1.tr (fr_saj (by simp))) (fun k hk => ?_)
        rw [cl7]
        rcases (show k = 0 ∨ k = 1 ∨ k = 2 ∨ k = 3 ∨ k = 4 ∨ k = 5 ∨ k = 6 ∨ k = 7 by omega) with rfl | rfl | rfl | rfl | rfl | rfl | rfl | rfl
        · rw [aj_saj, if_neg (by decide), a1.1, wdC_lo (by decide), wd0]
        · rw [aj_saj, if_neg (by decide), a1.2.1, wdC_lo (by decide), wd1]
        · rw [aj_saj, if_neg (by decide), a1.2.2.1, wdC_lo (by decide), wd2]
        · rw [aj_saj, if_neg (by decide), a1.2.2.2.1, hz]
        · rw [aj_saj, if_neg (by decide), a1.2.2.2.2.1, wdC_lo (by decide), wd4]
        · rw [aj_saj, if_neg (by decide), a1.2.2.2.2.2.1, wdC_lo (by decide), wd5]
        · rw [aj_saj, if_neg (by decide), a1.2.2.2.2.2.2, hy]
        · rw [aj_saj, if_pos ⟨rfl, rfl⟩, hx]
      refine k_RU_uses ho ?_
      rw [(kept s1 f1).2.2]
      by_cases q : (fi σ o 6 >>> ((7 : Int32) &&& 31)) &&& 1 = 0
      · rw [if_pos q]
        refine ⟨fun _ => ⟨pk_in 7 8 (by decide), fun s hs => fin 0 ?_ s hs⟩, fun c => absurd rfl c⟩
        unfold wdC
        rw [if_pos ⟨Or.inr (Or.inr rfl), q⟩]
      · rw [if_neg q]
        refine ⟨fun c => absurd c (by decide), fun _ => k_SA_stepsHome ht (kept s1 f1).1 (by omega) hb ⟨pk_in 7 8 (by decide), fun s hs => fin _ ?_ s hs⟩⟩
        rw [wdC_neg (k := 7) q]
        have hle := stF_le (K := K) hC hR hb
        rw [wd7]
        congr 1
        cases hst : stF C R K P b with
        | none => exact max0n
        | some n =>
          rw [hst] at hle
          exact max0 (by have : n < 64 := hle; omega)
    refine k_RU_uses ho ?_
    rw [(kept s3 f3).2.2]
    by_cases q : (fi σ o 6 >>> ((6 : Int32) &&& 31)) &&& 1 = 0
    · rw [if_pos q]
      refine ⟨fun _ => st118 0 ?_, fun c => absurd rfl c⟩
      unfold wdC
      rw [if_pos ⟨Or.inr (Or.inl rfl), q⟩]
    · rw [if_neg q]
      refine ⟨fun c => absurd c (by decide), fun _ => k_SA_howManyHome ht (kept s3 f3).1.1.2.2 hB hp (st118 _ ?_)⟩
      rw [wdC_neg (k := 6) q, wd6]
  refine k_RU_uses ho ?_
  rw [(kept s9 f9).2.2]
  by_cases q : (fi σ o 6 >>> ((3 : Int32) &&& 31)) &&& 1 = 0
  · rw [if_pos q]
    refine ⟨fun _ => st72 0 ?_, fun c => absurd rfl c⟩
    unfold wdC
    rw [if_pos ⟨Or.inl rfl, q⟩]
  · rw [if_neg q]
    refine ⟨fun c => absurd c (by decide), fun _ => ⟨vp_in_nI hw (by decide), ?_⟩⟩
    rw [nI_clamp (by omega)]
    refine reach_rolF ht hw (kept s9 f9).1 hp hb (st72 _ ?_)
    rw [wdC_neg (k := 3) q, wd3]
end
