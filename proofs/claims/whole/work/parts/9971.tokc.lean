-- the signs of a rule's text: the class
noncomputable def plcF (L : Nat) (T : Nat → Nat) : Nat → Nat
  | 0 => skF L T 0
  | i + 1 => skF L T (tk L T (plcF L T i)).2
theorem tk_le {L p : Nat} {T : Nat → Nat} (hp : p ≤ L) : (tk L T p).2 ≤ L := by
  by_cases h : p < L
  · exact (tk_next h).2
  · rw [tk_end (by omega)]; exact hp
theorem plcF_le {L : Nat} {T : Nat → Nat} : ∀ i, plcF L T i ≤ L
  | 0 => skF_le (Nat.zero_le _)
  | i + 1 => skF_le (tk_le (plcF_le i))
def TokR (σ : St) (L : Nat) (T : Nat → Nat) (N : Nat) : Prop := (0 < N ∧ N ≤ 401) ∧ fi σ 9 2 = nI N ∧ (∀ i, i < N → ai σ 11 i = nI (plcF L T i) ∧ ai σ 10 i = (tk L T (plcF L T i)).1) ∧ ∀ i, i < N → (i + 1 < N ↔ (tk L T (plcF L T i)).1 ≠ -29 ∧ (tk L T (plcF L T i)).1 ≠ -28)
theorem ch16 : ∀ t, t < 256 → ((nI t).toUInt32 % 65536).toInt32 = nI t := by decide +kernel
theorem oI_ge {o : Option Nat} (h : ∀ k, o = some k → k < 2 ^ 31) : 0 ≤ oI o ↔ ∃ k, o = some k := by
  cases o with
  | none => exact ⟨fun z => absurd z (by decide), fun ⟨k, z⟩ => by cases z⟩
  | some k => exact ⟨fun _ => ⟨k, rfl⟩, fun _ => nI_pos' (h k rfl)⟩
theorem wS1 : ∀ i, i < 13 → ∀ j, j < slen.getD (wI i) 0 → (sbyt.getD 2 []).getD (5 * i + j) 0 &&& 255 = (sbyt.getD (wI i) []).getD j 0 &&& 255 := by decide +kernel
theorem wS2 : ∀ i, i < 13 → ∀ j, j < 5 → slen.getD (wI i) 0 ≤ j → (sbyt.getD 2 []).getD (5 * i + j) 0 &&& 255 = 32 := by decide +kernel
theorem wS3 : ∀ i, i < 13 → 0 < slen.getD (wI i) 0 ∧ slen.getD (wI i) 0 ≤ 5 := by decide +kernel
theorem wS4 : ∀ i, i < 13 → ∀ j, j < slen.getD (wI i) 0 → (sbyt.getD (wI i) []).getD j 0 &&& 255 ≠ 32 := by decide +kernel
theorem sl2 : slen.getD 2 0 = 65 := by decide
theorem sl3 : 0 < slen.getD 3 0 := by decide
section
variable {g : Gx} {σ : St} {L p : Nat} {T : Nat → Nat}
theorem k_RR_cutSign {Q : Int32 → St → Prop} (hx : TxC σ L T) (hp : fi σ 1 2 = nI p) (hpL : p < L) (h1 : ¬ fD L T p = true) (h2 : ¬ fW L T p = true) (hQ : Q (tk L T p).1 (sfi σ 1 2 (nI (tk L T p).2))) : K_RR_cutSign g σ Q := by
  have hL := hx.2.1
  have hb := hx.b p hpL
  refine ko_RR_cutSign (sg_RR_cutSign_0 ?_)
  rw [hp]
  refine k_TA_signAt hx (by omega) ?_
  rw [show sgI L T p = nI (T p) from if_pos hpL, ch16 _ hb]
  refine k_JS_indexOf (by decide) hb sl3 ?_
  rw [sgT_ix _ hb]
  rintro s5 rfl
  rw [hp, nI_1, oI_ge (fun k hk => by have := sgT_lt _ hb k hk; omega)]
  refine ⟨fun ⟨k, hk⟩ => ?_, fun q => ?_⟩
  · rw [tk_sig hpL hk] at hQ
    rw [hk, show fi (sfi σ 1 2 (nI (p + 1))) 1 2 = nI (p + 1) from rfl]
    refine k_TA_signAt (hx.at (by decide)) (by omega) ?_
    have sgn := sgI_eq (p := p + 1) hx.b (by decide : 61 < 256)
    have x60 : nI (T p) = 60 ↔ T p = 60 := nI_eq (b := 60) (by omega) (by decide)
    have x62 : nI (T p) = 62 ↔ T p = 62 := nI_eq (b := 62) (by omega) (by decide)
    refine ⟨fun z => sg_RR_cutSign_52 ⟨fun _ => ?_, fun c => absurd rfl c⟩, fun z => sg_RR_cutSign_52 ⟨fun c => absurd c (by decide), fun _ => ?_⟩⟩
    · rw [if_neg (fun w => z (sgn.mpr w.2))] at hQ; exact hQ
    · have z := sgn.mp z
      rw [x60, x62, show fi (sfi σ 1 2 (nI (p + 1))) 1 2 = nI (p + 1) from rfl, nI_1, sfi_sfi]
      refine ⟨fun w => ?_, fun w => ⟨fun w2 => ?_, fun w2 => ?_⟩⟩
      · rw [if_pos ⟨Or.inl w, z⟩, if_pos w] at hQ
        rintro s rfl
        exact ⟨fun c => absurd w c, fun _ => hQ⟩
      · rw [if_neg (fun y => y.1.elim w w2)] at hQ; exact hQ
      · rw [if_pos ⟨Or.inr w2, z⟩, if_neg w] at hQ
        rintro s rfl
        exact ⟨fun _ => hQ, fun c => absurd c w⟩
  · have hn : sgT (T p) = none := by
      cases hs : sgT (T p) with
      | none => rfl
      | some k => exact absurd ⟨k, hs⟩ q
    rw [tk_sgn hpL h1 h2, hn] at hQ
    exact hQ
theorem k_RR_wordUpTo {Q : Int32 → St → Prop} (hx : TxC σ L T) (hp : fi σ 1 2 = nI p) (h2 : fW L T p = true) (hQ : Q (tk L T p).1 σ) : K_RR_wordUpTo g (nI (wdE L T p)) σ Q := by
  have hL := hx.2.1
  have hpL := (fW_iff.mp h2).1
  have le : wdE L T p ≤ L := enE_le (by omega)
  have gt : p < wdE L T p := enE_gt hpL h2
  rw [tk_wrd h2] at hQ
  obtain ⟨n, hn⟩ : ∃ n, n = wdE L T p - p := ⟨_, rfl⟩
  have lt : ∀ j, j < n → p + j < L ∧ 97 ≤ T (p + j) ∧ T (p + j) ≤ 122 := fun j hj => fW_iff.mp (enE_all (f := fW L T) (L := L) (p := p) (by omega) (by unfold wdE at hn; omega))
  have notI : ∀ i, i < 13 → n ≠ slen.getD (wI i) 0 → ¬ wdIs L T p (wI i) := fun i hi hne z => hne (by have := z.1; omega)
  refine ko_RR_wordUpTo (sg_RR_wordUpTo_0 ?_)
  rintro u rfl
  rw [hp, pk_sub (by omega), ← hn]
  refine pk_le n 5 (fun q5 => ?_) (fun q5 => ?_)
  · have loop : ∀ f i, i + f = 13 → (∀ j, j < i → ¬ wdIs L T p (wI j)) → S_RR_wordUpTo_17 g Q σ (nI n) (nI (5 * i)) := by
      intro f
      induction f with
      | zero =>
        intro i hi hno
        have e13 : i = 13 := by omega
        subst e13
        refine sg_RR_wordUpTo_17 (k_JS_length (by decide) ⟨fun _ => ?_, fun c => absurd ?_ c⟩)
        · have hw : wdS L T p 13 0 = none := by
            cases hw : wdS L T p 13 0 with
            | none => rfl
            | some k =>
              obtain ⟨a, b, c⟩ := wdS_some hw
              exact absurd a (hno k (by omega))
          rw [hw] at hQ; exact hQ
        · rw [sl2]; exact Int32.le_refl _
      | succ f ih =>
        intro i hi hno
        have s3 := wS3 i (by omega)
        have next : ¬ wdIs L T p (wI i) → ∀ u : Int32, u = nI (5 * i) + 5 → S_RR_wordUpTo_17 g Q σ (nI n) u := by
          intro hni u eu
          rw [eu, show nI (5 * i) + 5 = nI (5 * i + 5) from nI_add _ 5, show 5 * i + 5 = 5 * (i + 1) by omega]
          refine ih (i + 1) (by omega) (fun j hj => ?_)
          by_cases e : j = i
          · rw [e]; exact hni
          · exact hno j (by omega)
        have found : wdIs L T p (wI i) → Q ((-1 : Int32) - nI (5 * i) / 5) σ := by
          intro hi2
          have e5 : nI (5 * i) / 5 = nI i := by
            rw [show nI (5 * i) / 5 = nI (5 * i / 5) from pk_div (d := 5) (by omega) (by decide) (by decide), Nat.mul_div_cancel_left _ (by decide)]
          have hw : wdS L T p 13 0 = some i := by
            cases hw : wdS L T p 13 0 with
            | none => exact absurd hi2 (wdS_none hw (Nat.zero_le _) (by omega))
            | some k =>
              obtain ⟨a, b, c⟩ := wdS_some hw
              rw [wdIs_un (by omega) (by omega) a hi2]
          rw [hw] at hQ
          rw [e5]; exact hQ
        refine sg_RR_wordUpTo_17 (k_JS_length (by decide) ⟨fun c => absurd c (by rw [sl2]; exact nI_ge (by omega) (by decide)), fun _ => ?_⟩)
        have inner : ∀ m j, j + m = n → (∀ k, k < j → nI (T (p + k)) = (sbyt.getD 2 []).getD (5 * i + k) 0 &&& 255) → S_RR_wordUpTo_29 g Q σ (nI n) (nI (5 * i)) (nI j) := by
          intro m
          induction m with
          | zero =>
            intro j hj hk
            have ej : j = n := by omega
            subst ej
            refine sg_RR_wordUpTo_29 ⟨fun _ => sg_RR_wordUpTo_64 ⟨fun c => absurd rfl c, fun _ => ?_⟩, fun c => absurd (Int32.le_refl _) c⟩
            have nl : j ≤ slen.getD (wI i) 0 := by
              refine Nat.not_lt.mp (fun w => ?_)
              have a := hk (slen.getD (wI i) 0) w
              rw [wS2 i (by omega) _ (by omega) (Nat.le_refl _)] at a
              have b := lt (slen.getD (wI i) 0) w
              have := (nI_eq (b := 32) (by omega) (by decide)).mp a
              omega
            have eqw : j = slen.getD (wI i) 0 → wdIs L T p (wI i) := fun e => ⟨by omega, fun k hk2 => by rw [hk k (by omega)]; exact wS1 i (by omega) k hk2⟩
            refine pk_eq j 5 (fun q => found (eqw (by omega))) (fun q => ?_)
            rw [show nI (5 * i) + nI j = nI (5 * i + j) from nI_add _ _]
            refine k_JS_charAt (by decide) (by rw [sl2]; omega) ⟨fun w => next (notI i (by omega) (fun e => w (wS2 i (by omega) j (by omega) (by omega)))), fun w => found (eqw ?_)⟩
            by_cases e : j < slen.getD (wI i) 0
            · rw [wS1 i (by omega) j e] at w
              exact absurd w (wS4 i (by omega) j e)
            · omega
          | succ m ihm =>
            intro j hj hk
            obtain ⟨l1, l2, l3⟩ := lt j (by omega)
            refine sg_RR_wordUpTo_29 ⟨fun c => absurd c (nI_ge (by omega) (by omega)), fun _ => ?_⟩
            rw [show nI (5 * i) + nI j = nI (5 * i + j) from nI_add _ _]
            refine k_JS_charAt (by decide) (by rw [sl2]; omega) ?_
            rw [hp, nI_add]
            refine k_TA_signAt hx (by omega) ?_
            rw [show sgI L T (p + j) = nI (T (p + j)) from if_pos l1]
            refine ⟨fun w => sg_RR_wordUpTo_64 ⟨fun _ => next (fun z => w ?_), fun c => absurd ((nI_eq (by omega) (by omega)).mp c) (by omega)⟩, fun w => ?_⟩
            · have z1 := z.1
              rw [z.2 j (by omega)]; exact wS1 i (by omega) j (by omega)
            · rintro u rfl
              rw [nI_1]
              refine ihm (j + 1) (by omega) (fun k hk2 => ?_)
              by_cases e : k = j
              · rw [e]; exact w.symm
              · exact hk k (by omega)
        exact inner n 0 (by omega) (fun k hk => absurd hk (Nat.not_lt_zero _))
    exact loop 13 0 rfl (fun j hj => absurd hj (Nat.not_lt_zero _))
  · have hw : wdS L T p 13 0 = none := by
      cases hw : wdS L T p 13 0 with
      | none => rfl
      | some k =>
        obtain ⟨a, b, c⟩ := wdS_some hw
        have := wS3 k (by omega)
        exact absurd a (notI k (by omega) (by omega))
    rw [hw] at hQ; exact hQ
theorem k_RR_cutToken {Q : Int32 → St → Prop} (hx : TxC σ L T) (hp : fi σ 1 2 = nI p) (hpL : p ≤ L) (hQ : ∀ τ, fr [(1, 2), (1, 3)] [] σ τ → fi τ 1 2 = nI (tk L T p).2 → Q (tk L T p).1 τ) : K_RR_cutToken g σ Q := by
  have hL := hx.2.1
  refine ko_RR_cutToken (sg_RR_cutToken_0 (k_TA_isAtEnd hx hp (by omega) (fun q => ⟨fun _ => ?_, fun c => absurd rfl c⟩) (fun q => ⟨fun c => absurd c (by decide), fun _ => ?_⟩)))
  · have ge : p ≤ dgE L T p := enE_ge
    have le : dgE L T p ≤ L := enE_le hpL
    have gw : p ≤ wdE L T p := enE_ge
    have lw : wdE L T p ≤ L := enE_le hpL
    refine k_TA_endOfDigits hx hp (by omega) ?_
    rw [hp]
    refine pk_le (dgE L T p) p (fun q1 => ?_) (fun q1 => ?_)
    · have h1 : ¬ fD L T p = true := fun z => by have : p < dgE L T p := enE_gt q z; omega
      refine k_TA_endOfWord hx hp (by omega) ?_
      rw [hp]
      refine pk_le (wdE L T p) p (fun q2 => ?_) (fun q2 => ?_)
      · have h2 : ¬ fW L T p = true := fun z => by have : p < wdE L T p := enE_gt q z; omega
        exact k_RR_cutSign hx hp q h1 h2 (hQ _ (fr_sfi (by decide)) rfl)
      · have h2 : fW L T p = true := enE_all (f := fW L T) (L := L) (p := p) (Nat.le_refl _) q2
        refine k_RR_wordUpTo hx hp h2 ?_
        rintro s rfl
        exact hQ _ (fr_sfi (by decide)) (by rw [tk_wrd h2]; rfl)
    · have h1 : fD L T p = true := enE_all (f := fD L T) (L := L) (p := p) (Nat.le_refl _) q1
      have e2 : (tk L T p).2 = dgE L T p := by rw [tk_dig h1]
      have e1 : (tk L T p).1 = if 5 < dgE L T p - p then -27 else nI (vlF T p (dgE L T p - p)) := by rw [tk_dig h1]
      refine k_TA_readNumber hx hp hpL (fun z => by omega) (fun z τ hb => ?_) (fun z z2 => ?_)
      · rintro s rfl
        refine ⟨fun c => absurd c (by decide), fun _ => ?_⟩
        rw [if_pos z] at e1
        have F : fr [(1, 2), (1, 3)] [] σ τ := by
          rcases hb with ⟨-, rfl⟩ | ⟨-, rfl⟩
          · exact fr.rf
          · exact fr_sfi (by decide)
        have := hQ (sfi τ 1 2 (nI (dgE L T p))) (F.tr (fr_sfi (by decide))) (by rw [e2]; rfl)
        rw [e1] at this; exact this
      · rintro s rfl
        rw [if_neg (by omega)] at e1
        have hd : ∀ j, j < dgE L T p - p → T (p + j) ≤ 57 := fun j hj => (dg_in (L := L) (T := T) (p := p) (k := p + j) (by omega) (by omega)).2.2
        have lt := vlF_lt hd
        have lt5 : vlF T p (dgE L T p - p) < 100000 := Nat.lt_of_lt_of_le lt (Nat.pow_le_pow_right (n := 10) (by decide) z2)
        refine ⟨fun _ => ?_, fun c => absurd (nI_pos' (by omega)) c⟩
        have := hQ (sfi (sfi σ 1 2 (nI (dgE L T p))) 1 2 (nI (dgE L T p))) ((fr_sfi (by decide)).tr (fr_sfi (by decide))) (by rw [e2]; rfl)
        rw [e1] at this; exact this
  · have := hQ σ fr.rf (by rw [tk_end q]; exact hp)
    rw [tk_end q] at this; exact this
theorem k_RR_cutUp {Q : St → Prop} (hx : TxC σ L T) (hQ : ∀ τ N, fr [(1, 2), (1, 3), (9, 2)] [10, 11] σ τ → TokR τ L T N → Q τ) : K_RR_cutUp g σ Q := by
  have hL := hx.2.1
  have loop : ∀ n i q (x : Int32) (τ : St), L + 1 - i = n → x ≠ -29 → x ≠ -28 → i ≤ q → q ≤ L → fi τ 1 2 = nI q → skF L T q = plcF L T i → fi τ 9 2 = nI i → fr [(1, 2), (1, 3), (9, 2)] [10, 11] σ τ → (∀ j, j < i → ai τ 11 j = nI (plcF L T j) ∧ ai τ 10 j = (tk L T (plcF L T j)).1) → (∀ j, j < i → (tk L T (plcF L T j)).1 ≠ -29 ∧ (tk L T (plcF L T j)).1 ≠ -28) → S_RR_cutUp_11 g Q τ x := by
    intro n
    induction n with
    | zero => intro i q x τ hn; omega
    | succ n ih =>
      intro i q x τ hn x29 x28 hiq hqL h12 hsk h92 F hA hB
      have hxt : TxC τ L T := hx.frm F (by decide) (by decide)
      refine sg_RR_cutUp_11 ⟨fun c => absurd c x29, fun _ => ⟨fun c => absurd c x28, fun _ => ⟨fun c => ?_, fun _ => ?_⟩⟩⟩
      · rw [h92] at c
        exact absurd c (nI_ge (b := 401) (by omega) (by decide))
      · refine k_TA_skipBlanks hxt h12 (by omega) ?_
        rw [hsk]
        obtain ⟨τ1, hτ1⟩ : ∃ s, s = sfi τ 1 2 (nI (plcF L T i)) := ⟨_, rfl⟩
        rw [← hτ1]
        have a92 : fi τ1 9 2 = nI i := by rw [hτ1]; exact h92
        have a12 : fi τ1 1 2 = nI (plcF L T i) := by rw [hτ1]; rfl
        have f1 : fr [(1, 2), (1, 3), (9, 2)] [10, 11] τ τ1 := by rw [hτ1]; exact fr_sfi (by decide)
        rw [a92, a12, nI_clamp (by omega)]
        refine ⟨vp_in_nI (by omega) (by decide), ?_⟩
        rintro s2 e2
        have f2 : fr [(1, 2), (1, 3), (9, 2)] [10, 11] τ1 s2 := by rw [e2]; exact fr_sai (by decide)
        have F2 := F.tr (f1.tr f2)
        have b12 : fi s2 1 2 = nI (plcF L T i) := by rw [e2]; exact a12
        refine k_RR_cutToken (hx.frm F2 (by decide) (by decide)) b12 (plcF_le i) (fun s3 f3 t12 => ?_)
        have c92 : fi s3 9 2 = nI i := by rw [(f3.1 9 2 (by decide)).1, e2]; exact a92
        rw [c92, nI_clamp (by omega)]
        refine ⟨vp_in_nI (by omega) (by decide), ?_⟩
        rintro s5 e5 s6 e6
        have d92 : fi s5 9 2 = nI i := by rw [e5]; exact c92
        rw [d92, nI_1] at e6
        have f6 : fr [(1, 2), (1, 3), (9, 2)] [10, 11] s3 s6 := by rw [e6, e5]; exact (fr_sai (by decide)).tr (fr_sfi (by decide))
        have F6 := F2.tr ((f3.mo (by decide) (by simp)).tr f6)
        have g12 : fi s6 1 2 = nI (tk L T (plcF L T i)).2 := by rw [e6, e5]; exact t12
        have g92 : fi s6 9 2 = nI (i + 1) := by rw [e6]; rfl
        have rows : ∀ j, j < i + 1 → ai s6 11 j = nI (plcF L T j) ∧ ai s6 10 j = (tk L T (plcF L T j)).1 := by
          intro j hj
          have r11 : ai s6 11 j = if j = i then nI (plcF L T i) else ai τ 11 j := by
            rw [e6, ai_sfi, e5, ai_sai, if_neg (fun z => absurd z.1 (by decide)), (f3.2 11 (by decide)).1, e2, ai_sai, hτ1, ai_sfi]
            simp only [true_and]
          have r10 : ai s6 10 j = if j = i then (tk L T (plcF L T i)).1 else ai τ 10 j := by
            rw [e6, ai_sfi, e5, ai_sai, (f3.2 10 (by decide)).1, e2, ai_sai, if_neg (c := 10 = 11 ∧ _) (fun z => absurd z.1 (by decide)), hτ1, ai_sfi]
            simp only [true_and]
          rw [r11, r10]
          by_cases e : j = i
          · rw [if_pos e, if_pos e, e]; exact ⟨rfl, rfl⟩
          · rw [if_neg e, if_neg e]; exact hA j (by omega)
        by_cases stop : (tk L T (plcF L T i)).1 = -29 ∨ (tk L T (plcF L T i)).1 = -28
        · have fin : Q s6 := by
            refine hQ s6 (i + 1) F6 ⟨⟨by omega, by omega⟩, g92, rows, fun j hj => ?_⟩
            by_cases e : j = i
            · rw [e]
              exact ⟨fun z => by omega, fun z => absurd stop (fun w => w.elim z.1 z.2)⟩
            · exact ⟨fun _ => hB j (by omega), fun _ => by omega⟩
          refine sg_RR_cutUp_11 ⟨fun _ => fin, fun w => ⟨fun _ => fin, fun w2 => absurd stop (fun z => z.elim w w2)⟩⟩
        · have n29 : (tk L T (plcF L T i)).1 ≠ -29 := fun z => stop (Or.inl z)
          have n28 : (tk L T (plcF L T i)).1 ≠ -28 := fun z => stop (Or.inr z)
          have lt : plcF L T i < L := Nat.not_le.mp (fun z => n29 (by rw [tk_end z]))
          have nx := tk_next (T := T) lt
          have gp : i ≤ plcF L T i := by
            have := skF_ge (L := L) (T := T) (p := q)
            omega
          refine ih (i + 1) (tk L T (plcF L T i)).2 _ s6 (by omega) n29 n28 (by omega) nx.2 g12 rfl g92 F6 rows (fun j hj => ?_)
          by_cases e : j = i
          · rw [e]; exact ⟨n29, n28⟩
          · exact hB j (by omega)
  refine ko_RR_cutUp (sg_RR_cutUp_0 (ko_TA_start (sg_TA_start_0 ?_)))
  rintro s1 e1 s2 e2 s3 e3
  have F : fr [(1, 2), (1, 3), (9, 2)] [10, 11] σ s3 := by
    rw [e3, e2, e1]; exact ((fr_sfi (by decide)).tr (fr_sfi (by decide))).tr (fr_sfi (by decide))
  exact loop (L + 1) 0 0 0 s3 rfl (by decide) (by decide) (Nat.le_refl _) (Nat.zero_le _) (by rw [e3, e2, e1]; rfl) rfl (by rw [e3]; rfl) F (fun j hj => absurd hj (Nat.not_lt_zero _)) (fun j hj => absurd hj (Nat.not_lt_zero _))
end
