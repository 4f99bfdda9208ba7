-- the row followed; would
/-- behind the first i tips of the row, of which those roll that the bits of s say -/
def rowG (c : Cfg) (rw : Nat → Nat) (s : Nat) (P : Nat → Nat) : Nat → (Nat → Nat) × Nat × Nat
  | 0 => (P, 0, 0)
  | i + 1 => if s / 2 ^ i % 2 = 1 then ((tipC c (rw i) (rowG c rw s P i).1).1, (rowG c rw s P i).2.1 + (tipC c (rw i) (rowG c rw s P i).1).2.1, (rowG c rw s P i).2.2 + (tipC c (rw i) (rowG c rw s P i).1).2.2) else rowG c rw s P i
theorem rowG_ok {c : Cfg} {rw : Nat → Nat} {s : Nat} {P : Nat → Nat} (hC : c.1 ≤ 6) (hR : c.2.1 ≤ 6) (hp : okP c.1 c.2.1 c.2.2.1 c.2.2.2.1 P) : ∀ {i : Nat}, (∀ k, k < i → rw k < 4) → okP c.1 c.2.1 c.2.2.1 c.2.2.2.1 (rowG c rw s P i).1
  | 0, _ => hp
  | i + 1, h => by
    have ih := rowG_ok (s := s) hC hR hp (i := i) (fun k hk => h k (by omega))
    unfold rowG
    split
    · exact tipC_ok hC hR (h i (by omega)) ih
    · exact ih
theorem shrI {n i : Nat} (hn : n < 2 ^ 31) (hi : i < 8) : nI n >>> (nI i &&& 31) = nI (n / 2 ^ i) := by
  rcases (show i = 0 ∨ i = 1 ∨ i = 2 ∨ i = 3 ∨ i = 4 ∨ i = 5 ∨ i = 6 ∨ i = 7 by omega) with rfl | rfl | rfl | rfl | rfl | rfl | rfl | rfl
  · exact pk_shrN hn _ 0 (by decide)
  · exact pk_shrN hn _ 1 (by decide)
  · exact pk_shrN hn _ 2 (by decide)
  · exact pk_shrN hn _ 3 (by decide)
  · exact pk_shrN hn _ 4 (by decide)
  · exact pk_shrN hn _ 5 (by decide)
  · exact pk_shrN hn _ 6 (by decide)
  · exact pk_shrN hn _ 7 (by decide)
theorem bitI {n i : Nat} (hn : n < 2 ^ 31) (hi : i < 8) : (nI n >>> (nI i &&& 31)) &&& 1 = nI (n / 2 ^ i % 2) := by
  rw [shrI hn hi]
  exact pk_andN (Nat.lt_of_le_of_lt (Nat.div_le_self _ _) (by omega)) (m := 1) 1 rfl
theorem bit1 {n i : Nat} (hn : n < 2 ^ 31) (hi : i < 8) : (nI n >>> (nI i &&& 31)) &&& 1 = 1 ↔ n / 2 ^ i % 2 = 1 := by
  rw [bitI hn hi]
  exact nI_eq (b := 1) (by omega) (by decide)
theorem bit0 {n i : Nat} (hn : n < 2 ^ 31) (hi : i < 8) : (nI n >>> (nI i &&& 31)) &&& 1 = 0 ↔ ¬ n / 2 ^ i % 2 = 1 := by
  rw [bitI hn hi]
  have : nI (n / 2 ^ i % 2) = 0 ↔ n / 2 ^ i % 2 = 0 := nI_eq (b := 0) (by omega) (by decide)
  rw [this]
  omega
theorem bits255 {i : Nat} (hi : i < 8) : 255 / 2 ^ i % 2 = 1 := by
  rcases (show i = 0 ∨ i = 1 ∨ i = 2 ∨ i = 3 ∨ i = 4 ∨ i = 5 ∨ i = 6 ∨ i = 7 by omega) with rfl | rfl | rfl | rfl | rfl | rfl | rfl | rfl <;> decide
section
variable {g : Gx} {σ : St} {c : Cfg} {P : Nat → Nat} {t : Nat}
theorem sa_82 {t : Nat} (h : isSA t) : t ≠ 82 ∧ t ≠ 17 ∧ t ≠ 0 := by
  simp only [isSA, List.mem_cons, List.not_mem_nil, or_false] at h
  rcases h with rfl | rfl | rfl | rfl | rfl | rfl | rfl | rfl | rfl | rfl | rfl | rfl | rfl | rfl | rfl <;> decide
/-- the frame of Trial's tips -/
theorem trF {τ : St} (ht : isSA t) (h : ClsT t σ c) (hf : fr [(82, 1), (82, 2), (82, 3), (82, 4), (82, 5), (82, 6), (82, 7), (17, 4), (17, 6), (17, 7)] [19, 20, 21, 26, 31, 36, 41, 46, 51] σ τ) : ClsT t τ c := by
  obtain ⟨h0, h1, h2, -, -⟩ := sa_out ht
  have h82 := (sa_82 ht).1
  have hn : ∀ k, (t, k) ∉ [(82, 1), (82, 2), (82, 3), (82, 4), (82, 5), (82, 6), (82, 7), (17, 4), (17, 6), (17, 7)] := fun k => by simp [h0, h82]
  refine ⟨h.1.fr hf (hn 2) (hn 3) (hn 4) h1 h2, by rw [(hf.1 _ _ (hn 6)).1]; exact h.2.1, ?_⟩
  have hh := h.2.2
  unfold FoC at hh ⊢
  cases hq : c.2.2.2.2.2 with
  | none => rw [hq] at hh; dsimp only at hh ⊢; rw [(hf.1 _ _ (hn 9)).1]; exact hh
  | some r =>
    rw [hq] at hh
    obtain ⟨i, hi, ei, hlt, hwf, hru⟩ := hh
    have hm : ∀ k, (22 + 5 * i, k) ∉ [(82, 1), (82, 2), (82, 3), (82, 4), (82, 5), (82, 6), (82, 7), (17, 4), (17, 6), (17, 7)] := fun k => by simp; omega
    exact ⟨i, hi, by rw [(hf.1 _ _ (hn 9)).1]; exact ei, by rw [(hf.1 17 5 (by decide)).1]; exact hlt, hwf, hru.fr hf (hm 5) (hm 6) (ruR hi).1 (ruR hi).2.1 (ruR hi).2.2.1⟩
theorem k_TR_roll {Q : St → Prop} {w hh ff : Nat} (ht : isSA t) (hw : w < 4) (hc : ClsT t σ c) (hp : okP c.1 c.2.1 c.2.2.1 c.2.2.2.1 P) (h1 : fi σ 82 1 = nI (sitP P c.2.2.1)) (h2 : fi σ 82 2 = nI hh) (h3 : fi σ 82 3 = nI ff)
    (h : ∀ τ, fr [(82, 1), (82, 2), (82, 3), (17, 4), (17, 6), (17, 7)] [19, 20, 21, 26, 31, 36, 41, 46, 51] σ τ → fi τ 82 1 = nI (sitP (tipC c w P).1 c.2.2.1) → fi τ 82 2 = nI (hh + (tipC c w P).2.1) → fi τ 82 3 = nI (ff + (tipC c w P).2.2) → Q τ) : K_TR_roll g t (nI w) σ Q := by
  refine ko_TR_roll (sg_TR_roll_0 ht ?_)
  rw [h1]
  refine k_rolled ht hw hc hp (fun τ hf e6 e7 => ?_)
  rintro s3 rfl s4 rfl s5 e5
  refine h s5 ?_ ?_ ?_ ?_
  · rw [e5]; exact (hf.mo (by decide) (by decide)).tr (((fr_sfi (by decide)).tr (fr_sfi (by decide))).tr (fr_sfi (by decide)))
  · rw [e5]; rfl
  · rw [e5]
    show fi τ 82 2 + fi τ 17 6 = _
    rw [(hf.1 82 2 (by decide)).1, h2, e6, nI_add]
  · rw [e5]
    show fi τ 82 3 + fi τ 17 7 = _
    rw [(hf.1 82 3 (by decide)).1, h3, e7, nI_add]
theorem k_TR_followRow {Q : St → Prop} {rw : Nat → Nat} {n : Nat} (ht : isSA t) (hc : ClsT t σ c) (hp : okP c.1 c.2.1 c.2.2.1 c.2.2.2.1 P) (h5 : fi σ t 5 = nI (sitP P c.2.2.1)) (h7 : fi σ t 7 = nI n) (hn : n ≤ 8) (hrw : ∀ k, k < n → ai σ (t + 3) k = nI (rw k) ∧ rw k < 4)
    (h : ∀ τ, fr [(82, 1), (82, 2), (82, 3), (17, 4), (17, 6), (17, 7)] [19, 20, 21, 26, 31, 36, 41, 46, 51] σ τ → fi τ 82 1 = nI (sitP (rowG c rw 255 P n).1 c.2.2.1) → fi τ 82 2 = nI (rowG c rw 255 P n).2.1 → fi τ 82 3 = nI (rowG c rw 255 P n).2.2 → Q τ) : K_TR_followRow g t σ Q := by
  have h82 := (sa_82 ht).1
  have h17 := (sa_82 ht).2.1
  have h3 := (sa_out ht).2.2.2.1
  have go : ∀ (m i : Nat) (τ : St), i + m = n → fr [(82, 1), (82, 2), (82, 3), (17, 4), (17, 6), (17, 7)] [19, 20, 21, 26, 31, 36, 41, 46, 51] σ τ → fi τ 82 1 = nI (sitP (rowG c rw 255 P i).1 c.2.2.1) → fi τ 82 2 = nI (rowG c rw 255 P i).2.1 → fi τ 82 3 = nI (rowG c rw 255 P i).2.2 → S_TR_followRow_20 g Q τ t (nI i) := by
    intro m
    induction m with
    | zero =>
      intro i τ hi hf e1 e2 e3
      have e : i = n := by omega
      subst e
      refine sg_TR_followRow_20 ht ?_
      rw [(hf.1 t 7 (by simp [h82, h17])).1, h7]
      exact ⟨fun _ => h τ hf e1 e2 e3, fun q => absurd (nI_le (Nat.le_refl _) (by omega)) q⟩
    | succ m ih =>
      intro i τ hi hf e1 e2 e3
      obtain ⟨r1, r2⟩ := hrw i (by omega)
      refine sg_TR_followRow_20 ht ?_
      rw [(hf.1 t 7 (by simp [h82, h17])).1, h7]
      refine ⟨fun q => absurd q (nI_ge (by omega) (by omega)), fun _ => ⟨vp_in_nI (by omega) (by decide), ?_⟩⟩
      rw [nI_clamp (by omega), (hf.2 (t + 3) h3).1, r1]
      refine k_TR_roll ht r2 (trF ht hc (hf.mo (by decide) (by decide))) (rowG_ok hc.1.2.1.1 hc.1.2.1.2.1 hp (fun k hk => (hrw k (by omega)).2)) e1 e2 e3 (fun υ hu a1 a2 a3 => ?_)
      rintro u rfl
      rw [nI_1]
      have er : rowG c rw 255 P (i + 1) = ((tipC c (rw i) (rowG c rw 255 P i).1).1, (rowG c rw 255 P i).2.1 + (tipC c (rw i) (rowG c rw 255 P i).1).2.1, (rowG c rw 255 P i).2.2 + (tipC c (rw i) (rowG c rw 255 P i).1).2.2) := by
        rw [rowG, if_pos (bits255 (by omega))]
      refine ih (i + 1) υ (by omega) (hf.tr hu) ?_ ?_ ?_ <;> rw [er]
      · exact a1
      · exact a2
      · exact a3
  refine ko_TR_followRow (sg_TR_followRow_0 ht ?_)
  rintro s1 rfl s2 rfl s3 e3
  refine go n 0 s3 (Nat.zero_add _) (by rw [e3]; exact ((fr_sfi (by decide)).tr (fr_sfi (by decide))).tr (fr_sfi (by decide))) ?_ ?_ ?_
  · rw [e3]; show fi σ t 5 = _; rw [h5]; rfl
  · rw [e3]; rfl
  · rw [e3]; rfl
theorem k_BM_tipsRow {Q : St → Prop} {rw : Nat → Nat} {n s : Nat} (hr : RefT σ c P) (h4 : ai σ 152 4 = nI n) (hn : n ≤ 8) (hrw : ∀ k, k < n → ai σ 155 k = nI (rw k) ∧ rw k < 4) (hs : s < 2 ^ 31)
    (h : ∀ τ, fr [(151, 32), (151, 35), (151, 36), (151, 38), (151, 39)] [154, 170, 171, 172, 173] σ τ → RefT τ c (rowG c rw s P n).1 → fi τ 151 38 = nI (rowG c rw s P n).2.1 → fi τ 151 39 = nI (rowG c rw s P n).2.2 → Q τ) : K_BM_tipsRow g (nI s) σ Q := by
  have go : ∀ (m i : Nat) (τ : St), i + m = n → fr [(151, 32), (151, 35), (151, 36), (151, 38), (151, 39)] [154, 170, 171, 172, 173] σ τ → RefT τ c (rowG c rw s P i).1 → fi τ 151 38 = nI (rowG c rw s P i).2.1 → fi τ 151 39 = nI (rowG c rw s P i).2.2 → S_BM_tipsRow_12 g Q τ (nI s) (nI i) := by
    intro m
    induction m with
    | zero =>
      intro i τ hi hf e1 e2 e3
      have e : i = n := by omega
      subst e
      refine sg_BM_tipsRow_12 ⟨pk_in 4 8 (by decide), ?_⟩
      rw [cl4, (hf.2 152 (by decide)).1, h4]
      exact ⟨fun _ => h τ hf e1 e2 e3, fun q => absurd (nI_le (Nat.le_refl _) (by omega)) q⟩
    | succ m ih =>
      intro i τ hi hf e1 e2 e3
      obtain ⟨r1, r2⟩ := hrw i (by omega)
      refine sg_BM_tipsRow_12 ⟨pk_in 4 8 (by decide), ?_⟩
      rw [cl4, (hf.2 152 (by decide)).1, h4, bit1 hs (by omega)]
      refine ⟨fun q => absurd q (nI_ge (by omega) (by omega)), fun _ => ⟨fun q => ?_, fun q => ⟨vp_in_nI (by omega) (by decide), ?_⟩⟩⟩
      · rintro u rfl
        rw [nI_1]
        have er : rowG c rw s P (i + 1) = rowG c rw s P i := by rw [rowG, if_neg q]
        refine ih (i + 1) τ (by omega) hf ?_ ?_ ?_ <;> rw [er]
        · exact e1
        · exact e2
        · exact e3
      · rw [nI_clamp (by omega), (hf.2 155 (by decide)).1, r1]
        refine k_tips r2 e1 (fun υ hu a1 a2 a3 => ?_)
        rintro s3 rfl s4 e4 u rfl
        rw [nI_1]
        have er : rowG c rw s P (i + 1) = ((tipC c (rw i) (rowG c rw s P i).1).1, (rowG c rw s P i).2.1 + (tipC c (rw i) (rowG c rw s P i).1).2.1, (rowG c rw s P i).2.2 + (tipC c (rw i) (rowG c rw s P i).1).2.2) := by
          rw [rowG, if_pos q]
        have f4 : fr [(151, 38), (151, 39)] [] υ s4 := by rw [e4]; exact (fr_sfi (by decide)).tr (fr_sfi (by decide))
        refine ih (i + 1) s4 (by omega) (hf.tr ((hu.mo (by decide) (by decide)).tr (f4.mo (by decide) (by simp)))) ?_ ?_ ?_ <;> rw [er]
        · exact a1.fr f4 (by simp) (by simp) (by simp) (by simp) (by simp) (by simp) (by simp) (by simp) (by simp)
        · rw [e4]
          show fi υ 151 38 + fi υ 151 35 = _
          rw [(hu.1 151 38 (by decide)).1, e2, a2, nI_add]
        · rw [e4]
          show fi υ 151 39 + fi υ 151 36 = _
          rw [(hu.1 151 39 (by decide)).1, e3, a3, nI_add]
  refine ko_BM_tipsRow (sg_BM_tipsRow_0 ?_)
  rintro s1 rfl s2 e2
  have f2 : fr [(151, 38), (151, 39)] [] σ s2 := by rw [e2]; exact (fr_sfi (by decide)).tr (fr_sfi (by decide))
  exact go n 0 s2 (Nat.zero_add _) (f2.mo (by decide) (by simp)) (hr.fr f2 (by simp) (by simp) (by simp) (by simp) (by simp) (by simp) (by simp) (by simp) (by simp)) (by rw [e2]; rfl) (by rw [e2]; rfl)
end
def wouV (c : Cfg) (rw : Nat → Nat) (n : Nat) (P : Nat → Nat) (w : Nat) : Int32 := if w = 0 then nI (fel (rowG c rw 255 P n).1 c.2.2.1 36) else if w = 1 then nI (fel (rowG c rw 255 P n).1 c.2.2.1 37) else if w = 2 then nI (rowG c rw 255 P n).2.1 else nI (rowG c rw 255 P n).2.2
section
variable {g : Gx} {σ : St} {d : Dat} {nr : Nat} {Ru : Nat → RuleT}
theorem kB_would {Q : Int32 → St → Prop} {x : Int32} (hs : ClsS 83 σ d) (ho : OkD nr d) (hr : RulC σ nr Ru) (h0 : vC d = 0 ∨ (x < 0 ∨ 3 < x) → Q (-1) σ) (h1 : ∀ w, w < 4 → x = nI w → vC d ≠ 0 → ∀ τ, fr [(82, 1), (82, 2), (82, 3), (17, 4), (17, 6), (17, 7)] [19, 20, 21, 26, 31, 36, 41, 46, 51] σ τ → Q (wouV (cfg Ru d) (vrw d) (vn d) (vP d) w) τ) : K_BB_would g x σ Q := by
  refine ko_BB_would (sg_BB_would_0 ⟨fun q => h0 (Or.inl (hs.box.mp q)), fun q => ⟨fun q1 => h0 (Or.inr (Or.inl q1)), fun q1 => ⟨fun q2 => ?_, fun q2 => h0 (Or.inr (Or.inr (by rw [Int32.lt_iff_toInt_lt]; rw [Int32.le_iff_toInt_le] at q2; omega)))⟩⟩⟩)
  have hx : ¬ (x < 0 ∨ 3 < x) := fun z => z.elim q1 (fun z => by rw [Int32.lt_iff_toInt_lt] at z; rw [Int32.le_iff_toInt_le] at q2; omega)
  obtain ⟨w, hw, rfl⟩ := way_of hx
  have h1 := h1 w hw rfl (fun z => q (hs.box.mpr z))
  have hC := ho.1.1
  have hR := ho.1.2.1
  have hT := hs.toT ho hr
  have hok := rowG_ok (c := cfg Ru d) (rw := vrw d) (s := 255) hC hR ho.2.2.1 (i := vn d) ho.2.2.2.2.2.1
  refine k_TR_followRow (c := cfg Ru d) (rw := vrw d) sa_83 hT ho.2.2.1 hs.2.2.1 hs.2.2.2.2.1 ho.2.2.2.2.1 (fun k hk => ⟨hs.2.2.2.2.2.1 k hk, ho.2.2.2.2.2.1 k hk⟩) (fun τ hf e1 e2 e3 => ?_)
  have h1 := h1 τ hf
  have hTτ := trF sa_83 hT (hf.mo (by decide) (by decide))
  rw [e1, e2, e3]
  unfold wouV at h1
  rcases (show w = 0 ∨ w = 1 ∨ w = 2 ∨ w = 3 by omega) with rfl | rfl | rfl | rfl
  · refine ⟨fun _ => k_SA_howManyHome sa_83 hTτ.1.1.2.2 ho.1.2.2.1 hok.1 h1, fun z => absurd z (by decide), fun z => absurd z (by decide), fun z => absurd rfl z⟩
  · refine ⟨fun z => absurd z (by decide), fun _ => k_SA_howMany (p := 7) (Nat.lt_trans sitP_lt (by decide)) (by decide) ?_, fun z => absurd z (by decide), fun _ z => absurd rfl z⟩
    rw [cnS_lost hok.1, cn3_lost ho.1.2.2.1 hok.1]
    exact h1
  · exact ⟨fun z => absurd z (by decide), fun z => absurd z (by decide), fun _ => h1, fun _ _ z => absurd rfl z⟩
  · exact ⟨fun z => absurd z (by decide), fun z => absurd z (by decide), fun z => absurd z (by decide), fun _ _ _ => h1⟩
theorem kM_would {Q : Int32 → St → Prop} {x : Int32} (hs : CurM σ d) (ho : OkD nr d) (hr : RulM σ nr Ru) (h0 : vC d = 0 ∨ (x < 0 ∨ 3 < x) → Q (-1) σ) (h1 : ∀ w, w < 4 → x = nI w → vC d ≠ 0 → ∀ τ, fr [(151, 32), (151, 35), (151, 36), (151, 38), (151, 39)] [154, 170, 171, 172, 173, 174] σ τ → (∀ b, b < vB d → ai τ 154 b = nI (vP d b)) → Q (wouV (cfg Ru d) (vrw d) (vn d) (vP d) w) τ) : K_BM_would g x σ Q := by
  have hT := hs.toT ho hr
  refine ko_BM_would (sg_BM_would_0 (k_BM_isBox ⟨fun q => ?_, fun q => in_way ?_⟩))
  · by_cases z : ai σ 152 0 ≤ 0
    · exact h0 (Or.inl ((hs.box ho).mp z))
    · rw [if_neg z] at q; exact absurd q (by decide)
  · have hC : vC d ≠ 0 := fun z => q (by rw [if_pos ((hs.box ho).mpr z)])
    by_cases hx : x < 0 ∨ 3 < x
    · rw [if_pos hx]; exact ⟨fun z => absurd rfl z, fun _ => h0 (Or.inr hx)⟩
    · rw [if_neg hx]
      refine ⟨fun _ => ?_, fun z => absurd z (by decide)⟩
      obtain ⟨w, hw, rfl⟩ := way_of hx
      have h1 := h1 w hw rfl hC
      refine lay_to sh174 (by decide) ho.1.2.2.1 hs.2.2.1 (fun τ1 f1 p1 => ?_)
      have hT1 : RefT τ1 (cfg Ru d) (vP d) := hT.fr f1 (by decide) (by decide) (by decide) (by decide) (by decide) (by decide) (by decide) (by decide) (by decide)
      refine k_BM_tipsRow (rw := vrw d) (n := vn d) (s := 255) hT1 (by rw [(f1.2 152 (by decide)).1]; exact hs.1.2.2.2.2.1) ho.2.2.2.2.1 (fun k hk => ⟨by rw [(f1.2 155 (by decide)).1]; exact hs.2.2.2.1 k hk, ho.2.2.2.2.2.1 k hk⟩) (by decide) (fun τ2 f2 r2 e8 e9 => ?_)
      have back : ∀ v, (∀ τ, fr [(151, 32), (151, 35), (151, 36), (151, 38), (151, 39)] [154, 170, 171, 172, 173, 174] σ τ → (∀ b, b < vB d → ai τ 154 b = nI (vP d b)) → Q v τ) → K_BM_lay g 174 154 τ2 (fun s => Q v s) := fun v hv =>
        lay_back (P := vP d) sh174 (by decide) r2 (fun b hb => by rw [(f2.2 174 (by decide)).1]; exact p1 b hb) ho.2.2.1.1 (fun τ3 f3 r3 => hv τ3 ((f1.mo (by simp) (by decide)).tr ((f2.mo (by decide) (by decide)).tr (f3.mo (by simp) (by decide)))) r3.1.2.2.1)
      unfold wouV at h1
      rcases (show w = 0 ∨ w = 1 ∨ w = 2 ∨ w = 3 by omega) with rfl | rfl | rfl | rfl
      · exact ⟨fun z => absurd rfl z, fun _ => k_BM_fell (v := 36) r2.1 (by decide) (back _ h1)⟩
      · exact ⟨fun _ => ⟨fun z => absurd rfl z, fun _ => k_BM_fell (v := 37) r2.1 (by decide) (back _ h1)⟩, fun z => absurd z (by decide)⟩
      · refine ⟨fun _ => ⟨fun _ => ⟨fun z => absurd rfl z, fun _ => ?_⟩, fun z => absurd z (by decide)⟩, fun z => absurd z (by decide)⟩
        rintro u rfl
        rw [e8]; exact back _ h1
      · refine ⟨fun _ => ⟨fun _ => ⟨fun _ => ?_, fun z => absurd z (by decide)⟩, fun z => absurd z (by decide)⟩, fun z => absurd z (by decide)⟩
        rintro u rfl
        rw [e9]; exact back _ h1
end
