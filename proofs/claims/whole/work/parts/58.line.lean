-- the class's tip: lining up, and the loops of rolled
def hoK (f : Nat → Int64) (k : Nat → Int64) : Nat → List Nat → Prop
  | _, [] => True
  | i, a :: l => f i = k a ∧ hoK f k (i + 1) l
section
variable {g : Gx} {σ : St}
theorem line_stop {Q : St → Prop} {y : Int64} {b i n : Nat} (hi : i < 3) (hn : fi σ 17 4 = nI n) (hs : i = 0 ∨ ¬ y < aj σ 20 (i - 1)) (h : Q (sfi (sai (saj σ 20 i y) 21 i (nI b)) 17 4 (nI (n + 1)))) : S_RO_lineUp_17 g Q σ (nI b) y (nI i) := by
  have fin : S_RO_lineUp_74 g Q σ (nI b) y (nI i) := by
    refine sg_RO_lineUp_74 ⟨vp_in_nI hi (by decide), ?_⟩
    rintro s1 rfl
    refine ⟨vp_in_nI hi (by decide), ?_⟩
    rintro s2 rfl s3 rfl
    rw [nI_clamp (by omega)]
    have e : fi (sai (saj σ 20 i y) 21 i (nI b)) 17 4 + 1 = nI (n + 1) := by show fi σ 17 4 + 1 = _; rw [hn, nI_1]
    rw [e]
    exact h
  refine sg_RO_lineUp_17 ⟨fun _ => fin, fun c => ?_⟩
  have hi0 : 0 < i := Nat.pos_of_ne_zero (fun q => c (by rw [q]; decide))
  rw [nI_m1 hi0, nI_clamp (by omega)]
  refine ⟨vp_in_nI (by omega) (by decide), fun _ => fin, fun c2 => absurd ?_ c2⟩
  rcases hs with rfl | hs
  · omega
  · exact (lg_cmp_le _ _).mpr (not_lt64.mp hs)
theorem line_move {Q : St → Prop} {y : Int64} {b i : Nat} (hi : i < 3) (hi0 : 0 < i) (hs : y < aj σ 20 (i - 1)) (h : S_RO_lineUp_17 g Q (sai (saj σ 20 i (aj σ 20 (i - 1))) 21 i (ai σ 21 (i - 1))) (nI b) y (nI (i - 1))) : S_RO_lineUp_17 g Q σ (nI b) y (nI i) := by
  refine sg_RO_lineUp_17 ⟨fun c => absurd c (nI_nle hi0 (by omega)), fun _ => ?_⟩
  rw [nI_m1 hi0, nI_clamp (by omega)]
  refine ⟨vp_in_nI (by omega) (by decide), fun c => absurd hs (not_lt64.mpr ((lg_cmp_le _ _).mp c)), fun _ => ⟨vp_in_nI (by omega) (by decide), vp_in_nI hi (by decide), ?_⟩⟩
  rintro s1 rfl
  refine ⟨vp_in_nI (by omega) (by decide), vp_in_nI hi (by decide), ?_⟩
  rintro s2 rfl u rfl
  rw [nI_mm hi0, nI_clamp (by omega)]
  exact h
theorem line_fr {b i n : Nat} {y : Int64} {τ : St} : fr [(17, 4)] [20, 21] τ (sfi (sai (saj τ 20 i y) 21 i (nI b)) 17 4 (nI n)) := ((fr_saj (by decide)).tr (fr_sai (by decide))).tr (fr_sfi (by decide))
theorem line_fr2 {i : Nat} {y : Int64} {z : Int32} {τ : St} : fr [(17, 4)] [20, 21] τ (sai (saj τ 20 i y) 21 i z) := (fr_saj (by decide)).tr (fr_sai (by decide))
theorem k_RO_lineUp {Q : St → Prop} {k : Nat → Int64} {l : List Nat} {b : Nat} (hl : hoA (ai σ 21) 0 l) (hk : hoK (aj σ 20) k 0 l) (hn : fi σ 17 4 = nI l.length) (hn2 : l.length ≤ 2)
    (h : ∀ τ, fr [(17, 4)] [20, 21] σ τ → hoA (ai τ 21) 0 (ordI k l b) → hoK (aj τ 20) k 0 (ordI k l b) → fi τ 17 4 = nI (l.length + 1) → Q τ) : K_RO_lineUp g (nI b) (k b) σ Q := by
  refine ko_RO_lineUp (sg_RO_lineUp_0 ?_)
  rintro u rfl
  rw [hn]
  refine ⟨fun _ => ?_, fun c => absurd (nI_lt (b := 3) (by omega) (by decide)) c⟩
  match l, hl, hk, hn, hn2, h with
  | [], _, _, hn, _, h =>
    refine line_stop (i := 0) (by decide) hn (Or.inl rfl) (h _ line_fr ?_ ?_ rfl)
    · simp [ordI, hoA, fi_sfi, fi_sfj, fi_sai, fi_saj, fi_rai, fj_sfi, fj_sfj, fj_sai, fj_saj, fj_rai, ai_sfi, ai_sfj, ai_sai, ai_saj, ai_raiN, aj_sfi, aj_sfj, aj_sai, aj_saj, aj_rai]
    · simp [ordI, hoK, fi_sfi, fi_sfj, fi_sai, fi_saj, fi_rai, fj_sfi, fj_sfj, fj_sai, fj_saj, fj_rai, ai_sfi, ai_sfj, ai_sai, ai_saj, ai_raiN, aj_sfi, aj_sfj, aj_sai, aj_saj, aj_rai]
  | [a], hl, hk, hn, _, h =>
    have l0 : ai σ 21 0 = nI a := hl.1
    have k0 : aj σ 20 0 = k a := hk.1
    by_cases q : k b < k a
    · refine line_move (i := 1) (by decide) (by decide) (by rw [hk.1]; exact q) ?_
      refine line_stop (i := 0) (by decide) hn (Or.inl rfl) (h _ (line_fr2.tr line_fr) ?_ ?_ rfl)
      · simp [ordI, hoA, q, l0, fi_sfi, fi_sfj, fi_sai, fi_saj, fi_rai, fj_sfi, fj_sfj, fj_sai, fj_saj, fj_rai, ai_sfi, ai_sfj, ai_sai, ai_saj, ai_raiN, aj_sfi, aj_sfj, aj_sai, aj_saj, aj_rai]
      · simp [ordI, hoK, q, k0, fi_sfi, fi_sfj, fi_sai, fi_saj, fi_rai, fj_sfi, fj_sfj, fj_sai, fj_saj, fj_rai, ai_sfi, ai_sfj, ai_sai, ai_saj, ai_raiN, aj_sfi, aj_sfj, aj_sai, aj_saj, aj_rai]
    · refine line_stop (i := 1) (by decide) hn (Or.inr (by rw [hk.1]; exact q)) (h _ line_fr ?_ ?_ rfl)
      · simp [ordI, hoA, q, l0, fi_sfi, fi_sfj, fi_sai, fi_saj, fi_rai, fj_sfi, fj_sfj, fj_sai, fj_saj, fj_rai, ai_sfi, ai_sfj, ai_sai, ai_saj, ai_raiN, aj_sfi, aj_sfj, aj_sai, aj_saj, aj_rai]
      · simp [ordI, hoK, q, k0, fi_sfi, fi_sfj, fi_sai, fi_saj, fi_rai, fj_sfi, fj_sfj, fj_sai, fj_saj, fj_rai, ai_sfi, ai_sfj, ai_sai, ai_saj, ai_raiN, aj_sfi, aj_sfj, aj_sai, aj_saj, aj_rai]
  | [a, c], hl, hk, hn, _, h =>
    have l0 : ai σ 21 0 = nI a := hl.1
    have k0 : aj σ 20 0 = k a := hk.1
    have l1 : ai σ 21 1 = nI c := hl.2.1
    have k1 : aj σ 20 1 = k c := hk.2.1
    by_cases q : k b < k c
    · refine line_move (i := 2) (by decide) (by decide) (by rw [hk.2.1]; exact q) ?_
      by_cases q2 : k b < k a
      · refine line_move (i := 1) (by decide) (by decide) (by simp [fi_sfi, fi_sfj, fi_sai, fi_saj, fi_rai, fj_sfi, fj_sfj, fj_sai, fj_saj, fj_rai, ai_sfi, ai_sfj, ai_sai, ai_saj, ai_raiN, aj_sfi, aj_sfj, aj_sai, aj_saj, aj_rai, k0, q2]) ?_
        refine line_stop (i := 0) (n := 2) (by decide) hn (Or.inl rfl) (h _ (line_fr2.tr (line_fr2.tr line_fr)) ?_ ?_ rfl)
        · simp [ordI, hoA, q, q2, l0, l1, fi_sfi, fi_sfj, fi_sai, fi_saj, fi_rai, fj_sfi, fj_sfj, fj_sai, fj_saj, fj_rai, ai_sfi, ai_sfj, ai_sai, ai_saj, ai_raiN, aj_sfi, aj_sfj, aj_sai, aj_saj, aj_rai]
        · simp [ordI, hoK, q, q2, k0, k1, fi_sfi, fi_sfj, fi_sai, fi_saj, fi_rai, fj_sfi, fj_sfj, fj_sai, fj_saj, fj_rai, ai_sfi, ai_sfj, ai_sai, ai_saj, ai_raiN, aj_sfi, aj_sfj, aj_sai, aj_saj, aj_rai]
      · refine line_stop (i := 1) (n := 2) (by decide) hn (Or.inr (by simp [fi_sfi, fi_sfj, fi_sai, fi_saj, fi_rai, fj_sfi, fj_sfj, fj_sai, fj_saj, fj_rai, ai_sfi, ai_sfj, ai_sai, ai_saj, ai_raiN, aj_sfi, aj_sfj, aj_sai, aj_saj, aj_rai, k0]; exact not_lt64.mp q2)) (h _ (line_fr2.tr line_fr) ?_ ?_ rfl)
        · simp [ordI, hoA, q, q2, l0, l1, fi_sfi, fi_sfj, fi_sai, fi_saj, fi_rai, fj_sfi, fj_sfj, fj_sai, fj_saj, fj_rai, ai_sfi, ai_sfj, ai_sai, ai_saj, ai_raiN, aj_sfi, aj_sfj, aj_sai, aj_saj, aj_rai]
        · simp [ordI, hoK, q, q2, k0, k1, fi_sfi, fi_sfj, fi_sai, fi_saj, fi_rai, fj_sfi, fj_sfj, fj_sai, fj_saj, fj_rai, ai_sfi, ai_sfj, ai_sai, ai_saj, ai_raiN, aj_sfi, aj_sfj, aj_sai, aj_saj, aj_rai]
    · refine line_stop (i := 2) (by decide) hn (Or.inr (by rw [hk.2.1]; exact q)) (h _ line_fr ?_ ?_ rfl)
      · simp [ordI, hoA, q, l0, l1, fi_sfi, fi_sfj, fi_sai, fi_saj, fi_rai, fj_sfi, fj_sfj, fj_sai, fj_saj, fj_rai, ai_sfi, ai_sfj, ai_sai, ai_saj, ai_raiN, aj_sfi, aj_sfj, aj_sai, aj_saj, aj_rai]
      · simp [ordI, hoK, q, k0, k1, fi_sfi, fi_sfj, fi_sai, fi_saj, fi_rai, fj_sfi, fj_sfj, fj_sai, fj_saj, fj_rai, ai_sfi, ai_sfj, ai_sai, ai_saj, ai_raiN, aj_sfi, aj_sfj, aj_sai, aj_saj, aj_rai]
  | _ :: _ :: _ :: _, _, _, _, hn2, _ => exact absurd hn2 (by simp)
end
