-- the reference's search
def dg (P : Nat → Nat) (B b : Nat) : Nat := if b < B then P b else 0
def smP (P : Nat → Nat) (B : Nat) : Nat := dg P B 0 + 38 * dg P B 1 + 1444 * dg P B 2
theorem dg_lt {C R B : Nat} {P : Nat → Nat} (h : okW C R B P) (b : Nat) : dg P B b < 38 := by
  unfold dg
  split
  · exact (h.2 b).1
  · decide
theorem smP_lt {C R B : Nat} {P : Nat → Nat} (h : okW C R B P) : smP P B < 54872 := by
  have := dg_lt h 0
  have := dg_lt h 1
  have := dg_lt h 2
  unfold smP
  omega
theorem smP_inj {C R B : Nat} {P N : Nat → Nat} (hB : B ≤ 3) (hP : okW C R B P) (hN : okW C R B N) (h : smP P B = smP N B) : P = N := by
  have p0 := dg_lt hP 0
  have p1 := dg_lt hP 1
  have p2 := dg_lt hP 2
  have n0 := dg_lt hN 0
  have n1 := dg_lt hN 1
  have n2 := dg_lt hN 2
  unfold smP at h
  have e : ∀ b, b < 3 → dg P B b = dg N B b := by
    intro b hb
    rcases (show b = 0 ∨ b = 1 ∨ b = 2 by omega) with rfl | rfl | rfl <;> omega
  funext b
  by_cases q : b < B
  · have := e b (by omega)
    unfold dg at this
    rw [if_pos q, if_pos q] at this
    exact this
  · rw [hP.1 b (by omega), hN.1 b (by omega)]
section
variable {g : Gx} {σ : St} {c : Cfg} {P : Nat → Nat}
theorem k_BM_situationNow {Q : Int32 → St → Prop} (hr : RefT σ c P) (h : Q (nI (smP P c.2.2.1)) σ) : K_BM_situationNow g σ Q := by
  obtain ⟨⟨hd, -, hp, hw⟩, -, -⟩ := hr
  have hB := hd.2.2.2.2.2
  have step : ∀ (b a : Nat), b < 3 → (∀ u2 : Int32, u2 = nI b + (-1) → S_BM_situationNow_4 g Q σ (nI (38 * a + dg P c.2.2.1 b)) u2) → S_BM_situationNow_4 g Q σ (nI a) (nI b) := by
    intro b a hb hq
    refine sg_BM_situationNow_4 ⟨fun z => absurd z (nI_pos (by omega)), fun _ => ⟨pk_in 2 8 (by decide), ?_⟩⟩
    rw [cl2, hd.2.2.1]
    have e38 : (38 : Int32) * nI a = nI (38 * a) := by show nI 38 * nI a = _; rw [pk_mul]
    rw [e38]
    unfold dg at hq
    refine ⟨fun z => ?_, fun z => ⟨vp_in_nI hb (by decide), ?_⟩⟩
    · have hle := (nI_leI (by omega) (by omega)).mp z
      rw [if_neg (by omega)] at hq
      rintro u rfl u2 e2
      rw [Int32.add_zero]; exact hq u2 e2
    · have hlt : b < c.2.2.1 := Nat.not_le.mp (fun y => z (nI_le y (by omega)))
      rw [if_pos hlt] at hq
      rintro u rfl u2 e2
      rw [nI_clamp (by omega), hp b hlt, nI_add]; exact hq u2 e2
  refine ko_BM_situationNow (sg_BM_situationNow_0 ?_)
  refine step 2 0 (by decide) (fun u2 e2 => ?_)
  have e : u2 = nI 1 := by rw [e2]; decide
  rw [e]
  refine step 1 _ (by decide) (fun u2 e2 => ?_)
  have e : u2 = nI 0 := by rw [e2]; decide
  rw [e]
  refine step 0 _ (by decide) (fun u2 e2 => ?_)
  have e : u2 = -1 := by rw [e2]; decide
  rw [e]
  refine sg_BM_situationNow_4 ⟨fun _ => ?_, fun z => absurd (by decide) z⟩
  have es : 38 * (38 * (38 * 0 + dg P c.2.2.1 2) + dg P c.2.2.1 1) + dg P c.2.2.1 0 = smP P c.2.2.1 := by unfold smP; omega
  rw [es]; exact h
theorem k_BM_laysSit {Q : St → Prop} {P' : Nat → Nat} (hr : RefT σ c P') (hp : okW c.1 c.2.1 c.2.2.1 P) (h : ∀ τ, fr [] [154] σ τ → RefT τ c P → Q τ) : K_BM_laysSituation g (nI (smP P c.2.2.1)) σ Q := by
  have hB := hr.1.1.2.2.2.2.2
  have step : ∀ (b s : Nat) (τ : St), b < 3 → s < 2 ^ 31 → S_BM_laysSituation_4 g Q (sai τ 154 b (nI (s % 38))) (nI (s / 38)) (nI (b + 1)) → S_BM_laysSituation_4 g Q τ (nI s) (nI b) := by
    intro b s τ hb hs hq
    refine sg_BM_laysSituation_4 ⟨fun z => absurd z (nI_ge (b := 3) hb (by decide)), fun _ => ⟨vp_in_nI hb (by decide), ?_⟩⟩
    rintro s1 rfl u rfl u2 rfl
    have e1 : nI s - nI s / 38 * 38 = nI (s % 38) := pk_rem (d := 38) hs (by decide) (by decide)
    have e2 : nI s / 38 = nI (s / 38) := pk_div (d := 38) hs (by decide) (by decide)
    rw [e1, e2, nI_clamp (by omega), nI_1]; exact hq
  have hlt := smP_lt hp
  have d0 := dg_lt hp 0
  have d1 := dg_lt hp 1
  have d2 := dg_lt hp 2
  have es0 : smP P c.2.2.1 % 38 = dg P c.2.2.1 0 := by unfold smP; omega
  have es1 : smP P c.2.2.1 / 38 % 38 = dg P c.2.2.1 1 := by unfold smP; omega
  have es2 : smP P c.2.2.1 / 38 / 38 % 38 = dg P c.2.2.1 2 := by unfold smP; omega
  refine ko_BM_laysSituation (sg_BM_laysSituation_0 (step 0 _ σ (by decide) (by omega) (step 1 _ _ (by decide) (by omega) (step 2 _ _ (by decide) (by omega) ?_))))
  refine sg_BM_laysSituation_4 ⟨fun _ => ?_, fun z => absurd (by decide) z⟩
  rw [es0, es1, es2]
  have ff : fr [] [154] σ (sai (sai (sai σ 154 0 (nI (dg P c.2.2.1 0))) 154 (0 + 1) (nI (dg P c.2.2.1 1))) 154 (0 + 1 + 1) (nI (dg P c.2.2.1 2))) := ((fr_sai (by decide)).tr (fr_sai (by decide))).tr (fr_sai (by decide))
  refine h _ ff ⟨⟨?_, ?_, fun b hb => ?_, hp⟩, ?_, hr.2.2.fr ff (by decide) (by decide) (by decide) (by decide) (by decide) (by decide) (by decide)⟩
  · have hd := hr.1.1
    unfold Dim at hd ⊢
    rw [(ff.2 152 (by decide)).1]; exact hd
  · rw [(ff.2 153 (by decide)).1]; exact hr.1.2.1
  · have eb : dg P c.2.2.1 b = P b := if_pos hb
    rw [← eb]
    rcases (show b = 0 ∨ b = 1 ∨ b = 2 by omega) with rfl | rfl | rfl
    · rw [ai_sai, if_neg (by omega), ai_sai, if_neg (by omega), ai_sai, if_pos ⟨rfl, rfl⟩]
    · rw [ai_sai, if_neg (by omega), ai_sai, if_pos ⟨rfl, rfl⟩]
    · rw [ai_sai, if_pos ⟨rfl, rfl⟩]
  · rw [(ff.2 152 (by decide)).1]; exact hr.2.1
end
/-- the reference's queue: mk its mark -/
def RfQ (σ : St) (B mk : Nat) (q : Qs) : Prop := fi σ 151 44 = nI mk ∧ fi σ 151 45 = nI q.1 ∧ (∀ i, i < q.1 → ai σ 176 i = nI (smP (q.2.1 i) B)) ∧ ai σ 177 0 = -1 ∧ (∀ i, 0 < i → i < q.1 → ai σ 177 i = nI (q.2.2.1 i / 4) ∧ ai σ 178 i = nI (q.2.2.1 i % 4)) ∧ ∀ s, s < 54872 → ∃ m, ai σ 175 s = nI m ∧ m ≤ mk ∧ (m = mk ↔ ∃ i, i < q.1 ∧ smP (q.2.1 i) B = s)
theorem RfQ.fr {σ τ : St} {B mk : Nat} {q : Qs} {A : List (Nat × Nat)} {M : List Nat} (h : RfQ σ B mk q) (hf : fr A M σ τ) (h4 : (151, 44) ∉ A) (h5 : (151, 45) ∉ A) (m1 : 175 ∉ M) (m2 : 176 ∉ M) (m3 : 177 ∉ M) (m4 : 178 ∉ M) : RfQ τ B mk q := by
  unfold RfQ at h ⊢
  rw [(hf.1 _ _ h4).1, (hf.1 _ _ h5).1, (hf.2 _ m1).1, (hf.2 _ m2).1, (hf.2 _ m3).1, (hf.2 _ m4).1]
  exact h
section
variable {g : Gx} {σ : St} {c : Cfg} {P : Nat → Nat} {q : Qs}
/-- one situation more -/
theorem comes53 {Q : Int32 → St → Prop} {mk b dd : Nat} {x y : Int32} (hr : RefT σ c P) (hq : RfQ σ c.2.2.1 mk q) (hl : q.1 ≤ 4000) (hmk : mk < 2 ^ 31) (hnew : 0 < q.1 → x = nI (b / 4) ∧ y = nI (b % 4)) (hold : q.1 = 0 → x = -1) (hni : ¬ inQ q P) (hok : ∀ i, i < q.1 → okW c.1 c.2.1 c.2.2.1 (q.2.1 i))
    (h : ∀ τ, fr [(151, 45), (151, 46)] [175, 176, 177, 178] σ τ → RefT τ c P → RfQ τ c.2.2.1 mk (psh q P b dd) → fi τ 151 46 = (if allH P then nI q.1 else fi σ 151 46) → (0 < q.1 → ai τ 178 q.1 = y) → Q 0 τ) : S_BM_comes_53 g Q σ x y (nI (smP P c.2.2.1)) := by
  obtain ⟨q1, q2, q3, q4, q5, q6⟩ := id hq
  have hp := hr.1.2.2.2
  have hB := hr.1.1.2.2.2.2.2
  have hs := smP_lt hp
  refine sg_BM_comes_53 ⟨vp_in_nI hs (by decide), ?_⟩
  rintro s1 e1
  rw [nI_clamp (by omega), q1] at e1
  have a1 : fi s1 151 45 = nI q.1 := by rw [e1]; exact q2
  rw [a1]
  refine ⟨vp_in_nI (by omega) (by decide), ?_⟩
  rintro s2 e2
  rw [nI_clamp (by omega)] at e2
  have a2 : fi s2 151 45 = nI q.1 := by rw [e2]; exact a1
  rw [a2]
  refine ⟨vp_in_nI (by omega) (by decide), ?_⟩
  rintro s3 e3
  rw [nI_clamp (by omega)] at e3
  have a3 : fi s3 151 45 = nI q.1 := by rw [e3]; exact a2
  rw [a3]
  refine ⟨vp_in_nI (by omega) (by decide), ?_⟩
  rintro s4 e4
  rw [nI_clamp (by omega)] at e4
  have f4 : fr [] [175, 176, 177, 178] σ s4 := by
    rw [e4, e3, e2, e1]
    exact (((fr_sai (by decide)).tr (fr_sai (by decide))).tr (fr_sai (by decide))).tr (fr_sai (by decide))
  have r4 : RefT s4 c P := hr.fr f4 (by decide) (by decide) (by decide) (by decide) (by decide) (by decide) (by decide) (by decide) (by decide)
  have b175 : ∀ s, ai s4 175 s = if s = smP P c.2.2.1 then nI mk else ai σ 175 s := fun s => by
    rw [e4, ai_sai, if_neg (by omega), e3, ai_sai, if_neg (by omega), e2, ai_sai, if_neg (by omega), e1, ai_sai]
    by_cases z : s = smP P c.2.2.1
    · rw [if_pos ⟨rfl, z⟩, if_pos z]
    · rw [if_neg (fun v => z v.2), if_neg z]
  have b176 : ∀ i, ai s4 176 i = if i = q.1 then nI (smP P c.2.2.1) else ai σ 176 i := fun i => by
    rw [e4, ai_sai, if_neg (by omega), e3, ai_sai, if_neg (by omega), e2, ai_sai]
    by_cases z : i = q.1
    · rw [if_pos ⟨rfl, z⟩, if_pos z]
    · rw [if_neg (fun v => z v.2), if_neg z, e1, ai_sai, if_neg (by omega)]
  have b177 : ∀ i, ai s4 177 i = if i = q.1 then x else ai σ 177 i := fun i => by
    rw [e4, ai_sai, if_neg (by omega), e3, ai_sai]
    by_cases z : i = q.1
    · rw [if_pos ⟨rfl, z⟩, if_pos z]
    · rw [if_neg (fun v => z v.2), if_neg z, e2, ai_sai, if_neg (by omega), e1, ai_sai, if_neg (by omega)]
  have b178 : ∀ i, ai s4 178 i = if i = q.1 then y else ai σ 178 i := fun i => by
    rw [e4, ai_sai]
    by_cases z : i = q.1
    · rw [if_pos ⟨rfl, z⟩, if_pos z]
    · rw [if_neg (fun v => z v.2), if_neg z, e3, ai_sai, if_neg (by omega), e2, ai_sai, if_neg (by omega), e1, ai_sai, if_neg (by omega)]
  have a4 : fi s4 151 45 = nI q.1 := by rw [e4]; exact a3
  have m4 : fi s4 151 44 = nI mk := by rw [(f4.1 151 44 (by simp)).1]; exact q1
  have fin : ∀ (v : Int32) (τ : St), τ = sfi (sfi s4 151 46 v) 151 45 (fi (sfi s4 151 46 v) 151 45 + 1) → v = (if allH P then nI q.1 else fi σ 151 46) → Q 0 τ := by
    intro v τ eτ ev
    have e45 : fi (sfi s4 151 46 v) 151 45 = nI q.1 := a4
    rw [e45, nI_1] at eτ
    have fτ : fr [(151, 45), (151, 46)] [] s4 τ := by rw [eτ]; exact (fr_sfi (by decide)).tr (fr_sfi (by decide))
    refine h τ ((f4.mo (by simp) (by simp)).tr (fτ.mo (by simp) (by simp))) (r4.fr fτ (by simp) (by simp) (by simp) (by simp) (by simp) (by simp) (by simp) (by simp) (by simp)) ⟨?_, ?_, fun i hi => ?_, ?_, fun i hi0 hi => ?_, fun s hs' => ?_⟩ ?_ (fun hq0 => ?_)
    · rw [(fτ.1 151 44 (by decide)).1]; exact m4
    · rw [eτ]; rfl
    · have hi : i < q.1 + 1 := hi
      rw [(fτ.2 176 (by simp)).1, b176]
      show _ = nI (smP (if i = q.1 then P else q.2.1 i) c.2.2.1)
      by_cases z : i = q.1
      · rw [if_pos z, if_pos z]
      · rw [if_neg z, if_neg z]; exact q3 i (by omega)
    · rw [(fτ.2 177 (by simp)).1, b177]
      by_cases z : 0 = q.1
      · rw [if_pos z]; exact hold z.symm
      · rw [if_neg z]; exact q4
    · have hi : i < q.1 + 1 := hi
      rw [(fτ.2 177 (by simp)).1, (fτ.2 178 (by simp)).1, b177, b178]
      show _ = nI ((if i = q.1 then b else q.2.2.1 i) / 4) ∧ _ = nI ((if i = q.1 then b else q.2.2.1 i) % 4)
      by_cases z : i = q.1
      · rw [if_pos z, if_pos z, if_pos z]; exact hnew (by omega)
      · rw [if_neg z, if_neg z, if_neg z]; exact q5 i hi0 (by omega)
    · rw [(fτ.2 175 (by simp)).1, b175]
      by_cases z : s = smP P c.2.2.1
      · rw [if_pos z]
        refine ⟨mk, rfl, Nat.le_refl _, fun _ => ⟨q.1, by show q.1 < q.1 + 1; omega, ?_⟩, fun _ => rfl⟩
        show smP (if q.1 = q.1 then P else _) c.2.2.1 = s
        rw [if_pos rfl, z]
      · rw [if_neg z]
        obtain ⟨m, g1, g2, g3⟩ := q6 s hs'
        refine ⟨m, g1, g2, g3.trans ⟨?_, ?_⟩⟩
        · rintro ⟨i, hi, e⟩
          refine ⟨i, by show i < q.1 + 1; omega, ?_⟩
          show smP (if i = q.1 then P else _) c.2.2.1 = s
          rw [if_neg (by omega)]; exact e
        · rintro ⟨i, hi, e⟩
          have hi : i < q.1 + 1 := hi
          have e : smP (if i = q.1 then P else q.2.1 i) c.2.2.1 = s := e
          by_cases y : i = q.1
          · rw [if_pos y] at e; exact absurd e.symm z
          · rw [if_neg y] at e; exact ⟨i, by omega, e⟩
    · rw [eτ, fi_sfi, if_neg (by decide), fi_sfi, if_pos ⟨rfl, rfl⟩, ev]
    · rw [(fτ.2 178 (by simp)).1, b178, if_pos rfl]
  refine k_areH r4 ?_
  by_cases hh : allH P
  · rw [if_pos hh]
    refine ⟨fun z => absurd z (by decide), fun _ => ?_⟩
    rintro s9 rfl s10 e10
    exact fin _ s10 e10 (by rw [if_pos hh]; exact a4)
  · rw [if_neg hh]
    refine ⟨fun _ => ?_, fun z => absurd rfl z⟩
    rintro s7 rfl s8 e8
    exact fin _ s8 e8 (by rw [if_neg hh]; exact (f4.1 151 46 (by simp)).1)
end
