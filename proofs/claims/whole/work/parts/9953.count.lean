-- count
def wlF (C R : Nat) (K : Nat → Nat) : Nat → Nat
  | 0 => 0
  | n + 1 => wlF C R K n + (if (n % 6 < C ∧ n / 6 < R) ∧ K n = 1 then 1 else 0)
theorem wlF_le {C R : Nat} {K : Nat → Nat} : ∀ n, wlF C R K n ≤ n
  | 0 => Nat.le_refl _
  | n + 1 => by
    have := wlF_le (C := C) (R := R) (K := K) n
    unfold wlF
    split <;> omega
section
variable {g : Gx} {σ : St} {d : Dat} {nr : Nat} {Ru : Nat → RuleT}
theorem k_SA_howManyWalls {Q : Int32 → St → Prop} {t C R B : Nat} {K : Nat → Nat} (ht : isSA t) (hb : ClsB t σ C R B K) (hK : ∀ c, c < 36 → K c ≤ 4) (h : Q (nI (wlF C R K 36)) σ) : K_SA_howManyWalls g t σ Q := by
  have go : ∀ (m p : Nat), p + m = 64 → S_SA_howManyWalls_4 g Q σ t (nI (wlF C R K (nSp p))) (nI p) := by
    intro m
    induction m with
    | zero =>
      intro p hp
      have e : p = 64 := by omega
      subst e
      refine sg_SA_howManyWalls_4 ht ⟨fun _ => ?_, fun z => absurd (by decide) z⟩
      exact h
    | succ m ih =>
      intro p hp
      have ih := ih (p + 1) (by omega)
      refine sg_SA_howManyWalls_4 ht ⟨fun z => absurd z (nI_ge (b := 64) (by omega) (by decide)), fun _ => ⟨vp_in_nI (by omega) (by decide), ?_⟩⟩
      rw [nI_clamp (by omega)]
      rcases spot_cases (p := p) (by omega) with ⟨x, hx, e1, e2, e3⟩ | ⟨hn, e⟩
      · have step : wlF C R K (nSp (p + 1)) = wlF C R K (nSp p) + (if (x % 6 < C ∧ x / 6 < R) ∧ K x = 1 then 1 else 0) := by
          rw [e3, e2]; rfl
        rw [← e1, gr_kind hb.2.2.1 hx]
        by_cases ins : x % 6 < C ∧ x / 6 < R
        · rw [if_pos ins, (n_kind (hK x hx)).2.1]
          refine ⟨fun w => ?_, fun w => ?_⟩
          · rintro u rfl
            rw [if_neg (fun z => w z.2)] at step
            rw [step, Nat.add_zero] at ih
            rw [nI_1, e1]; exact ih
          · rintro u rfl u2 rfl
            rw [if_pos ⟨ins, w⟩] at step
            rw [step] at ih
            rw [nI_1, nI_1, e1]; exact ih
        · rw [if_neg ins]
          refine ⟨fun _ => ?_, fun w => absurd w (by decide)⟩
          rintro u rfl
          rw [if_neg (fun z => ins z.1)] at step
          rw [step, Nat.add_zero] at ih
          rw [nI_1, e1]; exact ih
      · have hk : ai σ (t + 1) p = -1 := by
          refine hb.2.2.1.2 p (by omega) (fun c h1 h2 => ?_)
          exact hn c (by have := hb.2.1; omega)
        rw [hk]
        refine ⟨fun _ => ?_, fun w => absurd w (by decide)⟩
        rintro u rfl
        rw [e] at ih
        rw [nI_1]; exact ih
  exact ko_SA_howManyWalls (sg_SA_howManyWalls_0 ht (go 64 0 rfl))
def cntV (d : Dat) (nr n tl k : Nat) : Int32 :=
  if k = 0 then nI (vC d) else if k = 1 then nI (vR d) else if k = 2 then nI (vB d) else if k = 3 then nI (fel (vP d) (vB d) 36) else if k = 4 then nI (fel (vP d) (vB d) 37) else if k = 5 then vT d else if k = 6 then nI nr else if k = 7 then oI (vf d) else if k = 8 then nI (vn d) else if k = 9 then nI (vm d) else if k = 10 then nI n else if k = 11 then nI (vx d) else if k = 12 then nI tl else nI (wlF (vC d) (vR d) (vK d) 36)
theorem kB_count {Q : Int32 → St → Prop} {x : Int32} {n tl : Nat} (hs : ClsS 83 σ d) (ho : OkD nr d) (hr : RulC σ nr Ru) (h13 : fi σ 0 13 = nI n) (h11 : fi σ 1 1 = nI tl) (h0 : (∀ k, k < 14 → x ≠ nI k) → Q (-1) σ) (h1 : ∀ k, k < 14 → x = nI k → Q (cntV d nr n tl k) σ) : K_BB_count g x σ Q := by
  have hB := ho.1.2.2.1
  have q31 : sitP (vP d) (vB d) < 2 ^ 31 := Nat.lt_trans sitP_lt (by decide)
  obtain ⟨s1, s2, s3, s4, s5, s6, s7, s8, s9, s10⟩ := id hs
  refine ko_BB_count (sg_BB_count_0 ⟨fun e => ?_, fun e => ?_, fun e => ?_, fun e => ?_, fun e => ?_, fun e => ?_, fun e => ?_, fun e => ?_, fun e => ?_, fun e => ?_, fun e => ?_, fun e => ?_, fun e => ?_, fun e => ?_, fun e0 e1 e2 e3 e4 e5 e6 e7 e8 e9 e10 e11 e12 e13 => h0 (fun k hk e => ?_)⟩)
  · rw [s2.1.1]; exact h1 0 (by decide) e
  · rw [s2.1.2.1]; exact h1 1 (by decide) e
  · rw [s2.1.2.2]; exact h1 2 (by decide) e
  · rw [s3]; exact k_SA_howManyHome sa_83 s2.1.2.2 hB ho.2.2.1.1 (h1 3 (by decide) e)
  · rw [s3]
    refine k_SA_howMany (p := 7) q31 (by decide) ?_
    rw [cnS_lost ho.2.2.1.1, cn3_lost hB ho.2.2.1.1]
    exact h1 4 (by decide) e
  · rw [s4]; exact h1 5 (by decide) e
  · rw [hr.2.1]; exact h1 6 (by decide) e
  · rw [s9]; exact h1 7 (by decide) e
  · rw [s5]; exact h1 8 (by decide) e
  · rw [s7]; exact h1 9 (by decide) e
  · rw [h13]; exact h1 10 (by decide) e
  · rw [s10]; exact h1 11 (by decide) e
  · rw [h11]; exact h1 12 (by decide) e
  · exact k_SA_howManyWalls sa_83 s2 ho.2.1 (h1 13 (by decide) e)
  · rcases (show k = 0 ∨ k = 1 ∨ k = 2 ∨ k = 3 ∨ k = 4 ∨ k = 5 ∨ k = 6 ∨ k = 7 ∨ k = 8 ∨ k = 9 ∨ k = 10 ∨ k = 11 ∨ k = 12 ∨ k = 13 by omega) with rfl | rfl | rfl | rfl | rfl | rfl | rfl | rfl | rfl | rfl | rfl | rfl | rfl | rfl
    · exact e0 e
    · exact e1 e
    · exact e2 e
    · exact e3 e
    · exact e4 e
    · exact e5 e
    · exact e6 e
    · exact e7 e
    · exact e8 e
    · exact e9 e
    · exact e10 e
    · exact e11 e
    · exact e12 e
    · exact e13 e
theorem kM_count {Q : Int32 → St → Prop} {x : Int32} {n tl : Nat} (hs : CurM σ d) (ho : OkD nr d) (hr : RulM σ nr Ru) (h66 : fi σ 151 66 = nI n) (h11 : fi σ 151 11 = nI tl) (h0 : (∀ k, k < 14 → x ≠ nI k) → Q (-1) σ) (h1 : ∀ k, k < 14 → x = nI k → Q (cntV d nr n tl k) σ) : K_BM_count g x σ Q := by
  have hB := ho.1.2.2.1
  have hd : Dim σ (vC d) (vR d) (vB d) := ⟨hs.1.1, hs.1.2.1, hs.1.2.2.1, ho.1.1, ho.1.2.1, ho.1.2.2.1⟩
  obtain ⟨⟨c0, c1, c2, c3, c4, c5, c6, c7⟩, a2, a3, a4, a5⟩ := id hs
  have fin : S_BM_count_4 g Q σ x (nI (wlF (vC d) (vR d) (vK d) 36)) (nI 36) := by
    refine sg_BM_count_4 ⟨fun _ => ?_, fun z => absurd (by decide) z⟩
    refine ⟨fun e => ⟨pk_in 0 8 (by decide), ?_⟩, fun e => ⟨pk_in 1 8 (by decide), ?_⟩, fun e => ⟨pk_in 2 8 (by decide), ?_⟩, fun e => ?_, fun e => ?_, fun e => ⟨pk_in 3 8 (by decide), ?_⟩, fun e => ?_, fun e => ⟨pk_in 7 8 (by decide), ?_⟩, fun e => ⟨pk_in 4 8 (by decide), ?_⟩, fun e => ⟨pk_in 5 8 (by decide), ?_⟩, fun e => ?_, fun e => ⟨pk_in 6 8 (by decide), ?_⟩, fun e => ?_, fun e => ?_, fun e0 e1 e2 e3 e4 e5 e6 e7 e8 e9 e10 e11 e12 e13 => h0 (fun k hk e => ?_)⟩
    · rw [cl0, c0]; exact h1 0 (by decide) e
    · rw [cl1, c1]; exact h1 1 (by decide) e
    · rw [cl2, c2]; exact h1 2 (by decide) e
    · exact k_BM_fell (v := 36) (hs.toT ho hr).1 (by decide) (h1 3 (by decide) e)
    · exact k_BM_fell (v := 37) (hs.toT ho hr).1 (by decide) (h1 4 (by decide) e)
    · rw [cl3, c3]; exact h1 5 (by decide) e
    · rw [hr.2.1]; exact h1 6 (by decide) e
    · rw [cl7, c7]; exact h1 7 (by decide) e
    · rw [cl4, c4]; exact h1 8 (by decide) e
    · rw [cl5, c5]; exact h1 9 (by decide) e
    · rw [h66]; exact h1 10 (by decide) e
    · rw [cl6, c6]; exact h1 11 (by decide) e
    · rw [h11]; exact h1 12 (by decide) e
    · exact h1 13 (by decide) e
    · rcases (show k = 0 ∨ k = 1 ∨ k = 2 ∨ k = 3 ∨ k = 4 ∨ k = 5 ∨ k = 6 ∨ k = 7 ∨ k = 8 ∨ k = 9 ∨ k = 10 ∨ k = 11 ∨ k = 12 ∨ k = 13 by omega) with rfl | rfl | rfl | rfl | rfl | rfl | rfl | rfl | rfl | rfl | rfl | rfl | rfl | rfl
      · exact e0 e
      · exact e1 e
      · exact e2 e
      · exact e3 e
      · exact e4 e
      · exact e5 e
      · exact e6 e
      · exact e7 e
      · exact e8 e
      · exact e9 e
      · exact e10 e
      · exact e11 e
      · exact e12 e
      · exact e13 e
  have go : ∀ (m p : Nat), p + m = 36 → S_BM_count_4 g Q σ x (nI (wlF (vC d) (vR d) (vK d) p)) (nI p) := by
    intro m
    induction m with
    | zero => intro p hp; have e : p = 36 := by omega
              subst e; exact fin
    | succ m ih =>
      intro p hp
      have ih := ih (p + 1) (by omega)
      refine sg_BM_count_4 ⟨fun z => absurd z (nI_ge (b := 36) (by omega) (by decide)), fun _ => k_BM_isThere hd (by omega) ?_⟩
      have step : wlF (vC d) (vR d) (vK d) (p + 1) = wlF (vC d) (vR d) (vK d) p + (if (p % 6 < vC d ∧ p / 6 < vR d) ∧ vK d p = 1 then 1 else 0) := rfl
      by_cases ins : p % 6 < vC d ∧ p / 6 < vR d
      · rw [if_pos ins]
        refine ⟨fun w => absurd w (by decide), fun _ => ⟨vp_in_nI (by omega) (by decide), ?_⟩⟩
        rw [nI_clamp (by omega), a2 p (by omega), (n_kind (ho.2.1 p (by omega))).2.1]
        refine ⟨fun w => ?_, fun w => ?_⟩
        · rintro u rfl u2 rfl
          rw [if_neg (fun z => w z.2), Nat.add_zero] at step
          rw [step] at ih
          rw [nI_1, show nI (wlF (vC d) (vR d) (vK d) p) + 0 = nI (wlF (vC d) (vR d) (vK d) p) from nI_add _ 0]; exact ih
        · rintro u rfl u2 rfl
          rw [if_pos ⟨ins, w⟩] at step
          rw [step] at ih
          rw [nI_1, nI_1]; exact ih
      · rw [if_neg ins]
        refine ⟨fun _ => ?_, fun w => absurd rfl w⟩
        rintro u rfl u2 rfl
        rw [if_neg (fun z => ins z.1), Nat.add_zero] at step
        rw [step] at ih
        rw [nI_1, show nI (wlF (vC d) (vR d) (vK d) p) + 0 = nI (wlF (vC d) (vR d) (vK d) p) from nI_add _ 0]; exact ih
  exact ko_BM_count (sg_BM_count_0 (go 36 0 rfl))
end
