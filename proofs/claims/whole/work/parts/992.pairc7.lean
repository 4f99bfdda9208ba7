-- the class: blind and hardest
theorem sn_0 {c : Cfg} {p : Nat} : Sn c 0 p = fun P => P ∈ begL c := by
  funext N
  apply propext
  exact ⟨fun ⟨P, hP, e⟩ => by rw [e]; exact hP, fun h => ⟨N, h, rfl⟩⟩
theorem NdR.s0 {σ : St} {c : Cfg} {d p : Nat} (h : NdR σ c d p) : SetR σ c.2.2.1 0 (fun P => P ∈ begL c) := by
  have := h.1 0 (Nat.zero_le _)
  rw [sn_0] at this
  exact this
theorem cst_6 {L : Nat} (h : L ≤ 6) : cst L ≤ 6825 := by
  rcases (show L = 0 ∨ L = 1 ∨ L = 2 ∨ L = 3 ∨ L = 4 ∨ L = 5 ∨ L = 6 by omega) with rfl | rfl | rfl | rfl | rfl | rfl | rfl <;> decide
def BlS (σ : St) (c : Cfg) : Prop := ∃ n, n ≤ 7 ∧ fi σ 69 12 = nI n ∧ ((fi σ 69 13 = -1 ∧ NoB c n) ∨ ∃ L k, L ≤ 6 ∧ fi σ 69 13 = nI L ∧ FirstB c L k ∧ ∀ j, j < L → ai σ 77 j = nI (dgR L k j + 1))
def PaF (σ : St) (c : Cfg) : Prop := RoR σ c ∧ FaR σ c ∧ SetR σ c.2.2.1 0 (fun P => P ∈ begL c) ∧ HaS σ c.2.2.1 (hrdF c) ∧ BlS σ c
def PaCa (σ : St) (c : Cfg) : Prop := fi σ 69 11 = fi σ 0 14 → c.2.2.1 ≤ 2 → PaF σ c
theorem HaS.eq {σ τ : St} {B : Nat} {q : Option ((Nat → Nat) × Nat)} (h : HaS σ B q) (h1 : fi τ 69 14 = fi σ 69 14) (h2 : fi τ 69 15 = fi σ 69 15) : HaS τ B q := by
  cases q with
  | none => show fi τ 69 14 = -2; rw [h1]; exact h
  | some r => exact ⟨by rw [h1]; exact h.1, by rw [h2]; exact h.2⟩
section
variable {g : Gx} {σ : St} {c : Cfg}
theorem k_PA_findsRow {Q : Int32 → St → Prop} {L M : Nat} (hC : c.1 ≤ 6) (hR : c.2.1 ≤ 6) (hB : c.2.2.1 ≤ 2) (hL : L ≤ 6) (hM : M + 20000 < 2 ^ 31) (hro : RoR σ c) (hfa : FaR σ c) (hs : SetR σ c.2.2.1 0 (fun P => P ∈ begL c)) (hm : MkR σ M)
    (h1 : ∀ k τ mk, k < 4 ^ L → Bld c L k → (∀ k', k' < k → ¬ Bld c L k') → fr [(69, 10)] [74, 75, 76, 77] σ τ → MkR τ mk → mk ≤ M + 20000 → NdR τ c L k → Q 1 τ)
    (h0 : (∀ k, k < 4 ^ L → ¬ Bld c L k) → ∀ τ mk, fr [(69, 10)] [74, 75, 76, 77] σ τ → MkR τ mk → mk ≤ M + 20000 → SetR τ c.2.2.1 0 (fun P => P ∈ begL c) → Q 0 τ) : K_PA_findsRow g (nI L) σ Q := by
  have hcst := cst_6 hL
  refine ko_PA_findsRow (sg_PA_findsRow_0 ⟨fun q => absurd q (nI_nlt (a := 6) (b := L) hL (by decide)), fun _ => ?_⟩)
  refine k_PA_startsCanDo hB (by omega) hs hfa (fun hall => ⟨fun _ => ⟨pk_in 0 7 (by decide), ?_⟩, fun q => absurd q (by decide)⟩) (fun P hP hno => ⟨fun q => absurd rfl q, fun _ => ?_⟩)
  · rintro s3 e3
    rw [cl0] at e3
    have f3 : fr [(69, 10)] [74, 75, 76, 77] σ s3 := by rw [e3]; exact fr_sai (by decide)
    have a5 : ∀ x, ai s3 75 x = ai σ 75 x := fun x => by rw [e3, ai_sai, if_neg (by omega)]
    have a6 : ∀ x, ai s3 76 x = ai σ 76 x := fun x => by rw [e3, ai_sai, if_neg (by omega)]
    have a4 : ∀ x, ai s3 74 x = ai σ 74 x := fun x => by rw [e3, ai_sai, if_neg (by omega)]
    refine dfs hC hR hB hL hM hro hfa h1 L 0 0 0 s3 M (by omega) (by decide) f3 ⟨fun j hj => ?_, fun j hj => absurd hj (by omega)⟩ (fun N hN => ?_) ⟨by rw [e3, fi_sai]; exact hm.1, fun s hs => by rw [a4]; exact hm.2 s hs⟩ (by omega) (by omega) (fun k hk => absurd hk (by omega)) (by rw [e3, ai_sai, if_pos ⟨rfl, rfl⟩]; rfl) (fun τ' i' mk' f' n' m' b' l' low' => ?_)
    · have ej : j = 0 := by omega
      rw [ej, sn_0]
      exact hs.eq (a6 0) (fun x _ => a5 x)
    · rw [sn_0] at hN
      exact ⟨beg_dom hB hN, hall N hN⟩
    · have hq : Q 0 τ' := h0 (fun k hk => low' k (by omega)) τ' mk' f' m' (by omega) n'.s0
      rw [jI_0]
      exact sg_PA_findsRow_27 ⟨fun _ => hq, fun _ => ⟨fun _ => hq, fun q => absurd (by decide) q⟩⟩
  · refine h0 (fun k hk hb => hno ?_) σ M fr.rf hm (by omega) hs
    have := rn_dm (c := c) (r := dgR L k) (P := P) (fun i => dgR_lt) L 0 (by rw [Nat.zero_add]; exact hb P hP)
    exact this
theorem k_PA_blindLength {Q : Int32 → St → Prop} {n M : Nat} (hC : c.1 ≤ 6) (hR : c.2.1 ≤ 6) (hB : c.2.2.1 ≤ 2) (hn : n ≤ 6) (hM : M + 140000 < 2 ^ 31) (hp : PaF σ c) (hm : MkR σ M)
    (h : ∀ r τ mk, fr [(69, 10), (69, 12), (69, 13)] [74, 75, 76, 77] σ τ → MkR τ mk → mk ≤ M + 140000 → PaF τ c → ((NoB c (n + 1) ∧ r = -1) ∨ ∃ L k, L ≤ n ∧ FirstB c L k ∧ r = nI L ∧ fi τ 69 13 = nI L ∧ ∀ j, j < L → ai τ 77 j = nI (dgR L k j + 1)) → Q r τ) : K_PA_blindLength g (nI n) σ Q := by
  have found : ∀ (τ : St) (mk t L k : Nat), fr [(69, 10), (69, 12), (69, 13)] [74, 75, 76, 77] σ τ → MkR τ mk → mk ≤ M + 140000 → PaF τ c → L ≤ 6 → fi τ 69 13 = nI L → FirstB c L k → (∀ j, j < L → ai τ 77 j = nI (dgR L k j + 1)) → S_PA_blindLength_0 g Q τ (nI n) := by
    intro τ mk t L k hf hmk hb hpa hL h13 hF h77
    have fin : (nI n < nI L → Q (-1) τ) ∧ (¬ nI n < nI L → Q (nI L) τ) := by
      refine ⟨fun q => ?_, fun q => ?_⟩
      · have hlt : n < L := Nat.not_le.mp (fun y => nI_nlt (a := n) (b := L) y (by omega) q)
        exact h (-1) τ mk hf hmk hb hpa (Or.inl ⟨fun L' hL' k' hk' => hF.2.2.2 L' (by omega) k' hk', rfl⟩)
      · have hle : L ≤ n := Nat.not_lt.mp (fun y => q (nI_lt y (by omega)))
        exact h (nI L) τ mk hf hmk hb hpa (Or.inr ⟨L, k, hle, hF, rfl, h13, h77⟩)
    refine sg_PA_blindLength_0 ?_
    rw [h13]
    exact ⟨fun _ => fin, fun q => absurd (nI_le (a := 0) (Nat.zero_le L) (by omega)) q⟩
  have go : ∀ (m t : Nat) (τ : St) (mk : Nat), t + m = 8 → t ≤ 7 → fr [(69, 10), (69, 12), (69, 13)] [74, 75, 76, 77] σ τ → MkR τ mk → mk ≤ M + 20000 * t → RoR τ c → FaR τ c → SetR τ c.2.2.1 0 (fun P => P ∈ begL c) → HaS τ c.2.2.1 (hrdF c) → fi τ 69 12 = nI t → fi τ 69 13 = -1 → NoB c t → S_PA_blindLength_0 g Q τ (nI n) := by
    intro m
    induction m with
    | zero => intro t τ mk h1 h2; omega
    | succ m ih =>
      intro t τ mk ht ht7 hf hmk hb hro hfa hs hha h12 h13 hno
      refine sg_PA_blindLength_0 ?_
      rw [h12, h13]
      refine ⟨fun q => absurd q (by decide), fun _ => ⟨fun q => ?_, fun q => ?_⟩⟩
      · have hlt : n < t := Nat.not_le.mp (fun y => nI_nlt (a := n) (b := t) y (by omega) q)
        have hq : Q (-1) τ := h (-1) τ mk hf hmk (by omega) ⟨hro, hfa, hs, hha, t, ht7, h12, Or.inl ⟨h13, hno⟩⟩ (Or.inl ⟨fun L' hL' => hno L' (by omega), rfl⟩)
        exact ⟨fun _ => hq, fun _ => hq⟩
      · have hle : t ≤ n := Nat.not_lt.mp (fun y => q (nI_lt y (by omega)))
        refine k_PA_findsRow hC hR hB (by omega) (by omega) hro hfa hs hmk (fun k τ2 mk2 hk hbl hleast f2 m2 b2 n2 => ⟨fun z => absurd z (by decide), fun _ => ?_⟩) (fun hnone τ2 mk2 f2 m2 b2 s2 => ⟨fun _ => ?_, fun z => absurd rfl z⟩)
        · rintro s4 e4 s5 e5
          have v12 : fi τ2 69 12 = nI t := by rw [(f2.1 69 12 (by decide)).1]; exact h12
          rw [v12] at e4
          have f5 : fr [(69, 10), (69, 12), (69, 13)] [74, 75, 76, 77] τ2 s5 := by rw [e5, e4]; exact (fr_sfi (by decide)).tr (fr_sfi (by decide))
          have g5 : fr [(69, 12), (69, 13)] [] τ2 s5 := by rw [e5, e4]; exact (fr_sfi (by decide)).tr (fr_sfi (by decide))
          have w13 : fi s5 69 13 = nI t := by rw [e5, fi_sfi, if_neg (by decide), e4, fi_sfi, if_pos ⟨rfl, rfl⟩]
          have w12 : fi s5 69 12 = nI (t + 1) := by
            rw [e5, fi_sfi, if_pos ⟨rfl, rfl⟩, e4, fi_sfi, if_neg (by decide), v12, nI_1]
          have F5 := (hf.tr (f2.mo (by decide) (fun _ z => z))).tr f5
          have hF : FirstB c t k := ⟨hk, hbl, hleast, hno⟩
          have h77 : ∀ j, j < t → ai s5 77 j = nI (dgR t k j + 1) := fun j hj => by rw [(g5.2 77 (by simp)).1]; exact n2.2 j hj
          refine found s5 mk2 t t k F5 ⟨by rw [(g5.1 69 10 (by decide)).1]; exact m2.1, fun s hs => by rw [(g5.2 74 (by simp)).1]; exact m2.2 s hs⟩ (by omega) ⟨?_, ?_, ?_, ?_, t + 1, by omega, w12, Or.inr ⟨t, k, by omega, w13, hF, h77⟩⟩ (by omega) w13 hF h77
          · unfold RoR; rw [(g5.2 71 (by simp)).1, (f2.2 71 (by decide)).1]; exact hro
          · unfold FaR; rw [(g5.2 72 (by simp)).1, (f2.2 72 (by decide)).1]; exact hfa
          · exact n2.s0.eq (by rw [(g5.2 76 (by simp)).1]) (fun x _ => by rw [(g5.2 75 (by simp)).1])
          · exact hha.eq (by rw [(g5.1 69 14 (by decide)).1, (f2.1 69 14 (by decide)).1]) (by rw [(g5.1 69 15 (by decide)).1, (f2.1 69 15 (by decide)).1])
        · rintro s3 e3
          have v12 : fi τ2 69 12 = nI t := by rw [(f2.1 69 12 (by decide)).1]; exact h12
          rw [v12, nI_1] at e3
          have g3 : fr [(69, 12)] [] τ2 s3 := by rw [e3]; exact fr_sfi (by decide)
          have mr : MkR s3 mk2 := ⟨by rw [(g3.1 69 10 (by decide)).1]; exact m2.1, fun s hs => by rw [(g3.2 74 (by simp)).1]; exact m2.2 s hs⟩
          have eb : 20000 * (t + 1) = 20000 * t + 20000 := Nat.mul_succ _ _
          have mb : mk2 ≤ M + 20000 * (t + 1) := by rw [eb, ← Nat.add_assoc]; exact Nat.le_trans b2 (Nat.add_le_add_right hb _)
          have F3 := (hf.tr (f2.mo (F' := [(69, 10), (69, 12), (69, 13)]) (by decide) (fun _ z => z))).tr (g3.mo (F' := [(69, 10), (69, 12), (69, 13)]) (R' := [74, 75, 76, 77]) (by decide) (by simp))
          have v13 : fi s3 69 13 = -1 := by rw [(g3.1 69 13 (by decide)).1, (f2.1 69 13 (by decide)).1]; exact h13
          have w12 : fi s3 69 12 = nI (t + 1) := by rw [e3, fi_sfi, if_pos ⟨rfl, rfl⟩]
          refine ih (t + 1) s3 mk2 (by omega) (by omega) F3 mr mb ?_ ?_ ?_ ?_ w12 v13 (fun L' hL' k' hk' => ?_)
          · unfold RoR; rw [(g3.2 71 (by simp)).1, (f2.2 71 (by decide)).1]; exact hro
          · unfold FaR; rw [(g3.2 72 (by simp)).1, (f2.2 72 (by decide)).1]; exact hfa
          · exact s2.eq (by rw [(g3.2 76 (by simp)).1]) (fun x _ => by rw [(g3.2 75 (by simp)).1])
          · exact hha.eq (by rw [(g3.1 69 14 (by decide)).1, (f2.1 69 14 (by decide)).1]) (by rw [(g3.1 69 15 (by decide)).1, (f2.1 69 15 (by decide)).1])
          · by_cases e : L' = t
            · rw [e] at hk' ⊢; exact hnone k' hk'
            · exact hno L' (by omega) k' hk'
  refine ko_PA_blindLength ?_
  obtain ⟨hro, hfa, hs, hha, t, ht, h12, hor⟩ := hp
  rcases hor with ⟨h13, hno⟩ | ⟨L, k, hL, h13, hF, h77⟩
  · exact go (8 - t) t σ M (by omega) ht fr.rf hm (by omega) hro hfa hs hha h12 h13 hno
  · exact found σ M 0 L k fr.rf hm (by omega) ⟨hro, hfa, hs, hha, t, ht, h12, Or.inr ⟨L, k, hL, h13, hF, h77⟩⟩ hL h13 hF h77
end
