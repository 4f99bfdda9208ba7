-- fewest and path on both sides
def SeV (σ : St) (c : Cfg) (P : Nat → Nat) : Prop := fi σ 52 7 = finV c P ∧ ((fndF c P).1 = 1 → ¬ allH P → SeR 52 σ c.2.2.1 (fndF c P).2.2 ∧ fi σ 52 5 = nI (fndF c P).2.1)
def SeCa (σ : St) (c : Cfg) (P : Nat → Nat) : Prop := (∃ n F, SeQ 52 σ n F) ∧ (fi σ 52 6 = fi σ 0 14 → SeV σ c P)
section
variable {g : Gx} {σ : St} {c : Cfg} {P : Nat → Nat}
theorem k_keep52 {Q : St → Prop} (hc : ClsT 83 σ c) (hp : okP c.1 c.2.1 c.2.2.1 c.2.2.2.1 P) (h5 : fi σ 83 5 = nI (sitP P c.2.2.1)) (hs : SeCa σ c P) (h : ∀ τ, fr [(52, 4), (52, 5), (52, 6), (52, 7), (17, 4), (17, 6), (17, 7)] [53, 54, 55, 19, 20, 21, 26, 31, 36, 41, 46, 51] σ τ → SeCa τ c P → SeV τ c P → (fi τ 52 6 = fi σ 52 6 ∨ fi τ 52 6 = fi σ 0 14) → Q τ) : K_SE_keepUp g 52 83 (fi σ 0 14) σ Q := by
  refine ko_SE_keepUp (sg_SE_keepUp_0 se_52 sa_83 ⟨fun q => h σ fr.rf hs (hs.2 q) (Or.inl rfl), fun q => ?_⟩)
  obtain ⟨n, F, hq⟩ := hs.1
  refine k_SE_reckoned se_52 sa_83 hq hc hp h5 (fun τ hf ⟨n', F', hq'⟩ hres => ?_)
  rintro s3 rfl s4 e4
  have f4 : fr [(52, 6), (52, 7)] [] τ s4 := by rw [e4]; exact (fr_sfi (by decide)).tr (fr_sfi (by decide))
  have hv : SeV s4 c P := by
    refine ⟨by rw [e4, fi_sfi, if_neg (by decide), fi_sfi, if_pos ⟨rfl, rfl⟩], fun k1 nH => ?_⟩
    obtain ⟨a, b⟩ := hres k1 nH
    exact ⟨a.fr f4 (by decide) (by simp) (by simp) (by simp), by rw [(f4.1 52 5 (by decide)).1]; exact b⟩
  exact h s4 ((hf.mo (by decide) (by decide)).tr (f4.mo (by decide) (by simp))) ⟨⟨n', F', hq'.fr f4 (by decide) (by simp) (by simp)⟩, fun _ => hv⟩ hv (Or.inr (by rw [e4, fi_sfi, if_pos ⟨rfl, rfl⟩]))
theorem fin_found (hC : c.1 ≤ 6) (hR : c.2.1 ≤ 6) (hp : okP c.1 c.2.1 c.2.2.1 c.2.2.2.1 P) (nH : ¬ allH P) (k1 : (fndF c P).1 = 1) : okQ c (fndF c P).2.2 ∧ (fndF c P).2.1 / 4 < (fndF c P).2.2.1 ∧ (fndF c P).2.2.2.2.2 ((fndF c P).2.1 / 4) + 1 ≤ 4000 := by
  obtain ⟨a, b⟩ := bfs_ok hC hR 20010 0 0 (q0F P) (q0_ok hp nH) (show 0 < 1 by decide)
  have b1 := b k1
  have h4 := a.2.1
  have h6 := a.2.2.2.2.2 _ b1
  exact ⟨a, b1, by
    have e : bfsF c 20010 0 0 (q0F P) = fndF c P := rfl
    rw [e] at h4 h6 b1
    omega⟩
theorem k_wayOfPath {Q : Int32 → St → Prop} {k : Nat} (hC : c.1 ≤ 6) (hR : c.2.1 ≤ 6) (hp : okP c.1 c.2.1 c.2.2.1 c.2.2.2.1 P) (hk : k < 2 ^ 31) (hv : SeV σ c P) (h : Q (pthV c P k) σ) : K_SE_wayOfPath g 52 (nI k) σ Q := by
  refine ko_SE_wayOfPath (sg_SE_wayOfPath_0 se_52 ?_)
  rw [hv.1]
  unfold finV
  unfold pthV at h
  by_cases yH : allH P
  · rw [if_pos yH]
    rw [if_pos yH] at h
    exact ⟨fun _ => ⟨fun z => absurd z (nI_pos hk), fun _ => h⟩, fun z => absurd (by decide) z⟩
  · rw [if_neg yH]
    rw [if_neg yH] at h
    by_cases k1 : (fndF c P).1 = 1
    · obtain ⟨a, b, d⟩ := fin_found hC hR hp yH k1
      obtain ⟨sr, e5⟩ := hv.2 k1 yH
      rw [if_pos k1] at h
      have er : resV (fndF c P) = nI ((fndF c P).2.2.2.2.2 ((fndF c P).2.1 / 4) + 1) := if_pos k1
      rw [er]
      refine ⟨fun _ => pk_lt k _ (fun q => ?_) (fun q => ?_), fun z => absurd (nI_pos' (by omega)) z⟩
      · rw [if_neg (by omega)] at h
        rintro u rfl u2 rfl
        rw [e5, nI_pred]
        have hle : k ≤ (fndF c P).2.2.2.2.2 ((fndF c P).2.1 / 4) := by omega
        have := wp_loop (g := g) (Q := Q) se_52 sr a hk ((fndF c P).2.2.2.2.2 ((fndF c P).2.1 / 4) - k) (fndF c P).2.1 b (by omega) (by omega) h
        rw [show k + ((fndF c P).2.2.2.2.2 ((fndF c P).2.1 / 4) - k) = (fndF c P).2.2.2.2.2 ((fndF c P).2.1 / 4) by omega] at this
        exact this
      · rw [if_pos q] at h; exact h
    · rw [if_neg k1] at h
      have er : resV (fndF c P) = -2 ∨ resV (fndF c P) = -3 := by
        unfold resV
        rw [if_neg k1]
        split
        · exact Or.inl rfl
        · exact Or.inr rfl
      refine ⟨fun z => ?_, fun _ => h⟩
      rcases er with e | e <;> rw [e] at z <;> exact absurd z (by decide)
end
/-- what was pushed is not upon the path back -/
theorem pbk_psh {q : Qs} {N : Nat → Nat} {b0 dd : Nat} (h5 : ∀ i, 0 < i → i < q.1 → q.2.2.1 i / 4 < i ∧ q.2.2.2 i = q.2.2.2 (q.2.2.1 i / 4) + 1) : ∀ {m b : Nat}, b / 4 < q.1 → q.2.2.2 0 = 0 → m ≤ q.2.2.2 (b / 4) → pbk (psh q N b0 dd).2.2.1 m b = pbk q.2.2.1 m b
  | 0, _, _, _, _ => rfl
  | m + 1, b, hb, h0, hm => by
    have bp : 0 < b / 4 := Nat.pos_of_ne_zero (fun z => by rw [z, h0] at hm; omega)
    obtain ⟨a1, a2⟩ := h5 _ bp hb
    show pbk (psh q N b0 dd).2.2.1 m (if b / 4 = q.1 then b0 else q.2.2.1 (b / 4)) = pbk q.2.2.1 m (q.2.2.1 (b / 4))
    rw [if_neg (by omega)]
    exact pbk_psh h5 (m := m) (by omega) h0 (by omega)
section
variable {g : Gx} {σ : St} {d : Dat} {nr : Nat} {Ru : Nat → RuleT}
theorem kB_fewest {Q : Int32 → St → Prop} (hs : ClsS 83 σ d) (ho : OkD nr d) (hr : RulC σ nr Ru) (hca : SeCa σ (cfg Ru d) (vP d)) (h0 : vC d = 0 → Q (-1) σ) (h1 : vC d ≠ 0 → ∀ τ, fr [(52, 4), (52, 5), (52, 6), (52, 7), (17, 4), (17, 6), (17, 7)] [53, 54, 55, 19, 20, 21, 26, 31, 36, 41, 46, 51] σ τ → SeCa τ (cfg Ru d) (vP d) → (fi τ 52 6 = fi σ 52 6 ∨ fi τ 52 6 = fi σ 0 14) → Q (finV (cfg Ru d) (vP d)) τ) : K_BB_fewest g σ Q := by
  refine ko_BB_fewest (sg_BB_fewest_0 ⟨fun q => ?_, fun q => h0 (hs.box.mp q)⟩)
  refine k_keep52 (c := cfg Ru d) (P := vP d) (hs.toT ho hr) ho.2.2.1 hs.2.2.1 hca (fun τ hf hca' hv has => ?_)
  rw [hv.1]
  exact h1 (fun z => q (hs.box.mpr z)) τ hf hca' has
theorem kB_path {Q : Int32 → St → Prop} {x : Int32} (hs : ClsS 83 σ d) (ho : OkD nr d) (hr : RulC σ nr Ru) (hca : SeCa σ (cfg Ru d) (vP d)) (h0 : (vC d = 0 ∨ x < 0) → Q (-1) σ) (h1 : ∀ k, k < 2 ^ 31 → x = nI k → vC d ≠ 0 → ∀ τ, fr [(52, 4), (52, 5), (52, 6), (52, 7), (17, 4), (17, 6), (17, 7)] [53, 54, 55, 19, 20, 21, 26, 31, 36, 41, 46, 51] σ τ → SeCa τ (cfg Ru d) (vP d) → (fi τ 52 6 = fi σ 52 6 ∨ fi τ 52 6 = fi σ 0 14) → Q (pthV (cfg Ru d) (vP d) k) τ) : K_BB_path g x σ Q := by
  have le0 : 0 ≤ x ↔ ¬ x < 0 := by rw [Int32.le_iff_toInt_le, Int32.lt_iff_toInt_lt]; omega
  refine ko_BB_path (sg_BB_path_0 ⟨fun q => h0 (Or.inl (hs.box.mp q)), fun q => ⟨fun q1 => ?_, fun q1 => h0 (Or.inr (by rw [le0] at q1; exact Decidable.not_not.mp q1))⟩⟩)
  rw [le0] at q1
  obtain ⟨k, hk, rfl⟩ := nI_of q1
  refine k_keep52 (c := cfg Ru d) (P := vP d) (hs.toT ho hr) ho.2.2.1 hs.2.2.1 hca (fun τ hf hca' hv has => ?_)
  exact k_wayOfPath (c := cfg Ru d) (P := vP d) ho.1.1 ho.1.2.1 ho.2.2.1 hk hv (h1 k hk rfl (fun z => q (hs.box.mpr z)) τ hf hca' has)
theorem kM_fewest {Q : Int32 → St → Prop} {mk : Nat} (hs : CurM σ d) (ho : OkD nr d) (hr : RulM σ nr Ru) (hm : MrkM σ mk) (hmk : mk + 1 < 2 ^ 31) (h0 : vC d = 0 → Q (-1) σ) (h1 : vC d ≠ 0 → ∀ τ, fr [(151, 32), (151, 35), (151, 36), (151, 44), (151, 45), (151, 46)] [154, 170, 171, 172, 173, 175, 176, 177, 178, 179] σ τ → (∀ b, b < vB d → ai τ 154 b = nI (vP d b)) → MrkM τ (mk + 1) → Q (finV (cfg Ru d) (vP d)) τ) : K_BM_fewest g σ Q := by
  refine ko_BM_fewest (sg_BM_fewest_0 (kM_box hs ho (fun q => ⟨fun _ => h0 q, fun z => absurd rfl z⟩) (fun q => ⟨fun z => absurd z (by decide), fun _ => ?_⟩)))
  exact k_BM_finds (hs.toT ho hr) ho.2.2.1 hm hmk (fun τ hf r m _ => h1 q τ hf r.1.2.2.1 m)
theorem kM_path {Q : Int32 → St → Prop} {x : Int32} {mk : Nat} (hs : CurM σ d) (ho : OkD nr d) (hr : RulM σ nr Ru) (hm : MrkM σ mk) (hmk : mk + 1 < 2 ^ 31) (h0 : (vC d = 0 ∨ x < 0) → Q (-1) σ) (h1 : ∀ k, k < 2 ^ 31 → x = nI k → vC d ≠ 0 → ∀ τ, fr [(151, 32), (151, 35), (151, 36), (151, 44), (151, 45), (151, 46)] [154, 170, 171, 172, 173, 175, 176, 177, 178, 179] σ τ → (∀ b, b < vB d → ai τ 154 b = nI (vP d b)) → MrkM τ (mk + 1) → Q (pthV (cfg Ru d) (vP d) k) τ) : K_BM_path g x σ Q := by
  have le0 : 0 ≤ x ↔ ¬ x < 0 := by rw [Int32.le_iff_toInt_le, Int32.lt_iff_toInt_lt]; omega
  have hC := ho.1.1
  have hR := ho.1.2.1
  refine ko_BM_path (sg_BM_path_0 (kM_box hs ho (fun q => ⟨fun _ => h0 (Or.inl q), fun z => absurd rfl z⟩) (fun q => ⟨fun z => absurd z (by decide), fun _ => ⟨fun q1 => ?_, fun q1 => h0 (Or.inr (by rw [le0] at q1; exact Decidable.not_not.mp q1))⟩⟩)))
  rw [le0] at q1
  obtain ⟨k, hk, rfl⟩ := nI_of q1
  refine k_BM_finds (hs.toT ho hr) ho.2.2.1 hm hmk (fun τ hf r m pm => ?_)
  have h1 := h1 k hk rfl q τ hf r.1.2.2.1 m
  unfold finV
  unfold pthV at h1
  by_cases yH : allH (vP d)
  · rw [if_pos yH]
    rw [if_pos yH] at h1
    exact ⟨fun _ => ⟨fun z => absurd z (nI_pos hk), fun _ => h1⟩, fun z => absurd (by decide) z⟩
  · rw [if_neg yH]
    rw [if_neg yH] at h1
    by_cases k1 : (fndF (cfg Ru d) (vP d)).1 = 1
    · obtain ⟨a, b, dd⟩ := fin_found (c := cfg Ru d) hC hR ho.2.2.1 yH k1
      obtain ⟨⟨N, mk', qN⟩, e46⟩ := pm yH k1
      rw [if_pos k1] at h1
      have er : resV (fndF (cfg Ru d) (vP d)) = nI ((fndF (cfg Ru d) (vP d)).2.2.2.2.2 ((fndF (cfg Ru d) (vP d)).2.1 / 4) + 1) := if_pos k1
      rw [er]
      refine ⟨fun _ => pk_lt k _ (fun q => ?_) (fun q => ?_), fun z => absurd (nI_pos' (by omega)) z⟩
      · rw [if_neg (by omega)] at h1
        rintro u rfl u2 rfl
        rw [e46, nI_pred]
        have hle : k ≤ (fndF (cfg Ru d) (vP d)).2.2.2.2.2 ((fndF (cfg Ru d) (vP d)).2.1 / 4) := by omega
        have hch := okCh_psh (N := N) a b
        have l1 := a.1
        have eB : (psh (fndF (cfg Ru d) (vP d)).2.2 N (fndF (cfg Ru d) (vP d)).2.1 ((fndF (cfg Ru d) (vP d)).2.2.2.2.2 ((fndF (cfg Ru d) (vP d)).2.1 / 4) + 1)).2.2.1 (fndF (cfg Ru d) (vP d)).2.2.1 = (fndF (cfg Ru d) (vP d)).2.1 := if_pos rfl
        have eD : (psh (fndF (cfg Ru d) (vP d)).2.2 N (fndF (cfg Ru d) (vP d)).2.1 ((fndF (cfg Ru d) (vP d)).2.2.2.2.2 ((fndF (cfg Ru d) (vP d)).2.1 / 4) + 1)).2.2.2 (fndF (cfg Ru d) (vP d)).2.2.1 = (fndF (cfg Ru d) (vP d)).2.2.2.2.2 ((fndF (cfg Ru d) (vP d)).2.1 / 4) + 1 := if_pos rfl
        have := pm_loop (g := g) (Q := Q) qN hch hk ((fndF (cfg Ru d) (vP d)).2.2.2.2.2 ((fndF (cfg Ru d) (vP d)).2.1 / 4) - k) (fndF (cfg Ru d) (vP d)).2.2.1 (by omega) (by show (fndF (cfg Ru d) (vP d)).2.2.1 < (fndF (cfg Ru d) (vP d)).2.2.1 + 1; omega) (by rw [eD]; omega) (by omega) (by
          rw [eB, pbk_psh a.2.2.2.2.1 b]
          · exact h1
          · rw [a.2.2.2.1]
          · omega)
        rw [show k + ((fndF (cfg Ru d) (vP d)).2.2.2.2.2 ((fndF (cfg Ru d) (vP d)).2.1 / 4) - k) = (fndF (cfg Ru d) (vP d)).2.2.2.2.2 ((fndF (cfg Ru d) (vP d)).2.1 / 4) by omega] at this
        exact this
      · rw [if_pos q] at h1; exact h1
    · rw [if_neg k1] at h1
      have er : resV (fndF (cfg Ru d) (vP d)) = -2 ∨ resV (fndF (cfg Ru d) (vP d)) = -3 := by
        unfold resV
        rw [if_neg k1]
        split
        · exact Or.inl rfl
        · exact Or.inr rfl
      refine ⟨fun z => ?_, fun _ => h1⟩
      rcases er with e | e <;> rw [e] at z <;> exact absurd z (by decide)
end
