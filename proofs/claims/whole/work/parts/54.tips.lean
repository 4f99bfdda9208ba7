-- the reference's tip: lining up
def hoA (f : Nat → Int32) : Nat → List Nat → Prop
  | _, [] => True
  | i, a :: l => f i = nI a ∧ hoA f (i + 1) l
theorem nI_m1 {i : Nat} (h : 0 < i) : nI i - 1 = nI (i - 1) := by
  obtain ⟨j, rfl⟩ : ∃ j, i = j + 1 := ⟨i - 1, by omega⟩
  exact nI_pred j
theorem nI_mm {i : Nat} (h : 0 < i) : nI i + (-1) = nI (i - 1) := by
  obtain ⟨j, rfl⟩ : ∃ j, i = j + 1 := ⟨i - 1, by omega⟩
  exact pk_m1 j
theorem not_lt64 {a b : Int64} : ¬ a < b ↔ b ≤ a := by rw [Int64.le_iff_toInt_le, Int64.lt_iff_toInt_lt]; omega
section
variable {g : Gx} {Q : St → Prop} {σ : St} {w m b : Nat}
theorem tips40_stop {i : Nat} (hi : i < 3) (hb : b < 3) (hs : i = 0 ∨ ∃ a, a < 3 ∧ ai σ 172 (i - 1) = nI a ∧ ¬ aj σ 173 b < aj σ 173 a) (h : S_BM_tips_4 g Q (sai σ 172 i (nI b)) (nI w) (nI (m + 1)) (nI (b + 1))) : S_BM_tips_40 g Q σ (nI w) (nI m) (nI b) (nI i) := by
  have fin : ∀ s1 : St, s1 = sai σ 172 (nI i).toNatClampNeg (nI b) → ∀ u2 : Int32, u2 = nI m + 1 → ∀ u3 : Int32, u3 = nI b + 1 → S_BM_tips_4 g Q s1 (nI w) u2 u3 := by
    rintro s1 rfl u2 rfl u3 rfl
    rw [nI_clamp (by omega), nI_1, nI_1]
    exact h
  refine sg_BM_tips_40 ⟨fun _ => ⟨vp_in_nI hi (by decide), fin⟩, fun c => ?_⟩
  rcases hs with rfl | ⟨a, ha, e1, e2⟩
  · exact absurd (by decide) c
  · have hi0 : 0 < i := Nat.pos_of_ne_zero (fun q => c (by rw [q]; decide))
    rw [nI_m1 hi0, nI_clamp (by omega), e1, nI_clamp (by omega), nI_clamp (by omega)]
    exact ⟨vp_in_nI (by omega) (by decide), vp_in_nI ha (by decide), vp_in_nI hb (by decide), fun _ => ⟨vp_in_nI hi (by decide), fin⟩, fun c2 => absurd ((lg_cmp_le _ _).mpr (not_lt64.mp e2)) c2⟩
theorem tips40_move {i a : Nat} (hi : i < 3) (hi0 : 0 < i) (hb : b < 3) (ha : a < 3) (e1 : ai σ 172 (i - 1) = nI a) (e2 : aj σ 173 b < aj σ 173 a) (h : S_BM_tips_40 g Q (sai σ 172 i (nI a)) (nI w) (nI m) (nI b) (nI (i - 1))) : S_BM_tips_40 g Q σ (nI w) (nI m) (nI b) (nI i) := by
  refine sg_BM_tips_40 ⟨fun c => absurd c (nI_nle hi0 (by omega)), fun _ => ?_⟩
  rw [nI_m1 hi0, nI_clamp (by omega), e1, nI_clamp (by omega), nI_clamp (by omega)]
  refine ⟨vp_in_nI (by omega) (by decide), vp_in_nI ha (by decide), vp_in_nI hb (by decide), fun c => absurd e2 (not_lt64.mpr ((lg_cmp_le _ _).mp c)), fun _ => ⟨vp_in_nI (by omega) (by decide), vp_in_nI hi (by decide), ?_⟩⟩
  rintro s1 rfl u rfl
  rw [nI_mm hi0, nI_clamp (by omega)]
  exact h
theorem tips_ins {k : Nat → Int64} {l : List Nat} (hl : hoA (ai σ 172) 0 l) (hk : ∀ a, a ∈ l → a < 3 ∧ aj σ 173 a = k a) (hb : b < 3) (hkb : aj σ 173 b = k b) (hn2 : l.length ≤ 2)
    (h : ∀ τ, fr [] [172] σ τ → hoA (ai τ 172) 0 (ordI k l b) → S_BM_tips_4 g Q τ (nI w) (nI (l.length + 1)) (nI (b + 1))) : S_BM_tips_40 g Q σ (nI w) (nI l.length) (nI b) (nI l.length) := by
  match l, hl, hk, hn2, h with
  | [], _, _, _, h =>
    refine tips40_stop (i := 0) (by decide) hb (Or.inl rfl) (h _ (fr_sai (by decide)) ?_)
    exact ⟨by rw [ai_sai, if_pos ⟨rfl, rfl⟩], trivial⟩
  | [a], hl, hk, _, h =>
    obtain ⟨a3, ka⟩ := hk a List.mem_cons_self
    by_cases q : k b < k a
    · refine tips40_move (i := 1) (a := a) (by decide) (by decide) hb a3 hl.1 (by rw [ka, hkb]; exact q) ?_
      refine tips40_stop (i := 0) (by decide) hb (Or.inl rfl) (h _ ((fr_sai (by decide)).tr (fr_sai (by decide))) ?_)
      simp only [ordI, if_pos q]
      refine ⟨by rw [ai_sai, if_pos ⟨rfl, rfl⟩], ?_, trivial⟩
      rw [ai_sai, if_neg (by omega), ai_sai, if_pos ⟨rfl, rfl⟩]
    · refine tips40_stop (i := 1) (by decide) hb (Or.inr ⟨a, a3, hl.1, by rw [ka, hkb]; exact q⟩) (h _ (fr_sai (by decide)) ?_)
      simp only [ordI, if_neg q]
      refine ⟨?_, by rw [ai_sai, if_pos ⟨rfl, rfl⟩], trivial⟩
      rw [ai_sai, if_neg (by omega)]
      exact hl.1
  | [a, c], hl, hk, _, h =>
    obtain ⟨a3, ka⟩ := hk a List.mem_cons_self
    obtain ⟨c3, kc⟩ := hk c (List.mem_cons_of_mem _ List.mem_cons_self)
    by_cases q : k b < k c
    · refine tips40_move (i := 2) (a := c) (by decide) (by decide) hb c3 hl.2.1 (by rw [kc, hkb]; exact q) ?_
      have e0 : ai (sai σ 172 2 (nI c)) 172 0 = nI a := by rw [ai_sai, if_neg (by omega)]; exact hl.1
      by_cases q2 : k b < k a
      · refine tips40_move (i := 1) (a := a) (by decide) (by decide) hb a3 e0 (by show aj σ 173 b < aj σ 173 a; rw [ka, hkb]; exact q2) ?_
        refine tips40_stop (i := 0) (by decide) hb (Or.inl rfl) (h _ (((fr_sai (by decide)).tr (fr_sai (by decide))).tr (fr_sai (by decide))) ?_)
        simp only [ordI, if_pos q, if_pos q2]
        refine ⟨by rw [ai_sai, if_pos ⟨rfl, rfl⟩], ?_, ?_, trivial⟩
        · rw [ai_sai, if_neg (by omega), ai_sai, if_pos ⟨rfl, rfl⟩]
        · rw [ai_sai, if_neg (by omega), ai_sai, if_neg (by omega), ai_sai, if_pos ⟨rfl, rfl⟩]
      · refine tips40_stop (i := 1) (by decide) hb (Or.inr ⟨a, a3, e0, by show ¬ aj σ 173 b < aj σ 173 a; rw [ka, hkb]; exact q2⟩) (h _ ((fr_sai (by decide)).tr (fr_sai (by decide))) ?_)
        simp only [ordI, if_pos q, if_neg q2]
        refine ⟨?_, by rw [ai_sai, if_pos ⟨rfl, rfl⟩], ?_, trivial⟩
        · rw [ai_sai, if_neg (by omega)]; exact e0
        · rw [ai_sai, if_neg (by omega), ai_sai, if_pos ⟨rfl, rfl⟩]
    · refine tips40_stop (i := 2) (by decide) hb (Or.inr ⟨c, c3, hl.2.1, by rw [kc, hkb]; exact q⟩) (h _ (fr_sai (by decide)) ?_)
      simp only [ordI, if_neg q]
      refine ⟨?_, ?_, by rw [ai_sai, if_pos ⟨rfl, rfl⟩], trivial⟩
      · rw [ai_sai, if_neg (by omega)]; exact hl.1
      · rw [ai_sai, if_neg (by omega)]; exact hl.2.1
  | _ :: _ :: _ :: _, _, _, hn2, _ => exact absurd hn2 (by simp)
end
