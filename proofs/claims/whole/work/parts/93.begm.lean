-- a beginning of the reference
def RefX (σ : St) (c : Cfg) : Prop := Dim σ c.1 c.2.1 c.2.2.1 ∧ (∀ x, x < 36 → ai σ 153 x = nI (c.2.2.2.1 x) ∧ c.2.2.2.1 x ≤ 4) ∧ ai σ 152 3 = c.2.2.2.2.1 ∧ FoM σ c.2.2.2.2.2
theorem RefT.x {σ : St} {c : Cfg} {P : Nat → Nat} (h : RefT σ c P) : RefX σ c := ⟨h.1.1, h.1.2.1, h.2.1, h.2.2⟩
theorem RefX.t {σ : St} {c : Cfg} {P : Nat → Nat} (h : RefX σ c) (hp : ∀ b, b < c.2.2.1 → ai σ 154 b = nI (P b)) (hw : okW c.1 c.2.1 c.2.2.1 P) : RefT σ c P := ⟨⟨h.1, h.2.1, hp, hw⟩, h.2.2.1, h.2.2.2⟩
theorem RefX.fr {σ τ : St} {c : Cfg} {F : List (Nat × Nat)} {M : List Nat} (h : RefX σ c) (hf : fr F M σ τ) (h2 : 152 ∉ M) (h9 : 153 ∉ M) (h3 : 163 ∉ M) (h4 : 164 ∉ M) (h5 : 165 ∉ M) (h6 : 166 ∉ M) (h7 : 167 ∉ M) (h8 : 168 ∉ M) : RefX τ c := by
  obtain ⟨a, b, c', d⟩ := h
  refine ⟨?_, by rw [(hf.2 _ h9).1]; exact b, by rw [(hf.2 _ h2).1]; exact c', d.fr hf h2 h3 h4 h5 h6 h7 h8⟩
  unfold Dim at a ⊢
  rw [(hf.2 _ h2).1]; exact a
/-- none from o on is where b is -/
noncomputable def ndC (D : Nat → Nat) (B b o : Nat) : Bool := @decide (∀ p, o ≤ p → p < B → D p ≠ D b) (Classical.propDecidable _)
theorem ndC_iff {D : Nat → Nat} {B b o : Nat} : ndC D B b o = true ↔ ∀ p, o ≤ p → p < B → D p ≠ D b := by unfold ndC; exact @decide_eq_true_iff _ (Classical.propDecidable _)
theorem ndC_end {D : Nat → Nat} {B b : Nat} : ndC D B b B = true := ndC_iff.mpr (fun p h1 h2 => by omega)
theorem ndC_s {D : Nat → Nat} {B b o : Nat} (h : o < B) : ndC D B b o = (decide (D o ≠ D b) && ndC D B b (o + 1)) := by
  rw [Bool.eq_iff_iff, Bool.and_eq_true, ndC_iff, ndC_iff, decide_eq_true_iff]
  constructor
  · intro hh
    exact ⟨hh o (Nat.le_refl _) h, fun p h2 h3 => hh p (by omega) h3⟩
  · rintro ⟨h1, h2⟩ p p2 p3
    by_cases e : p = o
    · rw [e]; exact h1
    · exact h2 p (by omega) p3
section
variable {g : Gx} {σ : St} {c : Cfg}
theorem k_BM_codesX {Q : Int32 → St → Prop} (hd : Dim σ c.1 c.2.1 c.2.2.1) (h : Q (nI (36 ^ c.2.2.1)) σ) : K_BM_codes g σ Q := by
  have hB := hd.2.2.2.2.2
  have go : ∀ (m i : Nat), i + m = c.2.2.1 → S_BM_codes_4 g Q σ (nI (36 ^ i)) (nI i) := by
    intro m
    induction m with
    | zero =>
      intro i hi
      have e : i = c.2.2.1 := by omega
      subst e
      refine sg_BM_codes_4 ⟨pk_in 2 8 (by decide), ?_⟩
      rw [cl2, hd.2.2.1]
      exact ⟨fun _ => h, fun q => absurd (nI_le (Nat.le_refl _) (by omega)) q⟩
    | succ m ih =>
      intro i hi
      refine sg_BM_codes_4 ⟨pk_in 2 8 (by decide), ?_⟩
      rw [cl2, hd.2.2.1]
      refine ⟨fun q => absurd q (nI_ge (by omega) (by omega)), fun _ => ?_⟩
      rintro u rfl u2 rfl
      have := ih (i + 1) (by omega)
      rw [Nat.pow_succ, ← pk_mul] at this
      rw [nI_1]
      exact this
  exact ko_BM_codes (sg_BM_codes_0 (go c.2.2.1 0 (Nat.zero_add _)))
theorem lay_backX {Q : St → Prop} {a : Nat} {P : Nat → Nat} (ha : SH[a]? = some (.inr (0, 3, []))) (hne : a ≠ 154) (hr : RefX σ c) (hP : ∀ b, b < c.2.2.1 → ai σ a b = nI (P b)) (hw : okW c.1 c.2.1 c.2.2.1 P) (h : ∀ τ, fr [] [154] σ τ → RefT τ c P → Q τ) : K_BM_lay g a 154 σ Q := by
  have hB := hr.1.2.2.2.2.2
  refine k_BM_lay ha sh154 (Nat.le_refl _) (by decide) hne (fun τ hf h1 _ => h τ hf ?_)
  exact (hr.fr hf (by decide) (by decide) (by decide) (by decide) (by decide) (by decide) (by decide) (by decide)).t (fun b hb => by rw [h1 b (by omega)]; exact hP b hb) hw
theorem isb_in {Q : Int32 → St → Prop} {B b : Nat} {r : Int32} {D : Nat → Nat} (hB : B ≤ 3) (hbB : b < B) (hD : ∀ o, b ≤ o → o < B → ai σ 154 o = nI (D o) ∧ D o < 36) : ∀ (m o : Nat) (gd : Bool), o + m = B → b < o → (∀ u : Int32, u = nI b + (-1) → S_BM_isBeginning_10 g Q σ (nI B) r (bI (gd && ndC D B b o)) u) → S_BM_isBeginning_78 g Q σ (nI B) r (bI gd) (nI b) (nI o) := by
  intro m
  induction m with
  | zero =>
    intro o gd hm hbo h
    have e : o = B := by omega
    subst e
    refine sg_BM_isBeginning_78 ⟨fun _ => ?_, fun q => absurd (nI_le (Nat.le_refl _) (by omega)) q⟩
    rw [ndC_end, Bool.and_true] at h
    exact h
  | succ m ih =>
    intro o gd hm hbo h
    obtain ⟨d1, d2⟩ := hD o (by omega) (by omega)
    obtain ⟨d3, d4⟩ := hD b (Nat.le_refl _) hbB
    have sp : ∀ g2 : Bool, (g2 && ndC D B b (o + 1)) = (gd && ndC D B b o) → ∀ u : Int32, u = nI o + 1 → S_BM_isBeginning_78 g Q σ (nI B) r (bI g2) (nI b) u := by
      rintro g2 e u rfl
      rw [nI_1]
      refine ih (o + 1) g2 (by omega) (by omega) ?_
      rw [e]; exact h
    have eall := ndC_s (D := D) (b := b) (show o < B by omega)
    refine sg_BM_isBeginning_78 ⟨fun q => absurd q (nI_ge (by omega) (by omega)), fun _ => ?_⟩
    cases gd with
    | false => exact ⟨fun _ => sp false (by simp), fun q => absurd rfl q⟩
    | true =>
      refine ⟨fun q => absurd q (by decide), fun _ => ⟨vp_in_nI (by omega) (by decide), vp_in_nI (by omega) (by decide), ?_⟩⟩
      rw [nI_clamp (by omega), nI_clamp (by omega), d1, d3, nI_eq (by omega) (by omega)]
      refine ⟨fun q => sp false ?_, fun q => sp true ?_⟩
      · rw [eall, decide_eq_false (show ¬ D o ≠ D b from fun z => z q)]; simp
      · rw [eall, decide_eq_true (show D o ≠ D b from q)]; simp
theorem isb_step {Q : Int32 → St → Prop} {b r : Nat} {gd : Bool} {D : Nat → Nat} (hx : RefX σ c) (hb : b < c.2.2.1) (hr : r < 2 ^ 31) (hDb : D b = r % 36) (hD : ∀ o, b < o → o < c.2.2.1 → ai σ 154 o = nI (D o) ∧ D o < 36)
    (h : ∀ τ, τ = sai σ 154 b (nI (D b)) → ∀ u : Int32, u = nI b + (-1) → S_BM_isBeginning_10 g Q τ (nI c.2.2.1) (nI (r / 36)) (bI ((gd && plnC c (D b)) && ndC D c.2.2.1 b (b + 1))) u) : S_BM_isBeginning_10 g Q σ (nI c.2.2.1) (nI r) (bI gd) (nI b) := by
  have hB := hx.1.2.2.2.2.2
  have e1 : nI r - nI r / 36 * 36 = nI (r % 36) := pk_rem (d := 36) hr (by decide) (by decide)
  have e2 : nI r / 36 = nI (r / 36) := pk_div (d := 36) hr (by decide) (by decide)
  have hd36 : D b < 36 := by omega
  refine sg_BM_isBeginning_10 ⟨fun q => absurd q (nI_pos (by omega)), fun _ => ⟨vp_in_nI (by omega) (by decide), ?_⟩⟩
  rintro s1 es1 u rfl
  rw [nI_clamp (by omega), e1, ← hDb] at es1
  rw [e2]
  have f1 : fr [] [154] σ s1 := by rw [es1]; exact fr_sai (by decide)
  have x1 : RefX s1 c := hx.fr f1 (by decide) (by decide) (by decide) (by decide) (by decide) (by decide) (by decide) (by decide)
  have p1 : ai s1 154 b = nI (D b) := by rw [es1, ai_sai, if_pos ⟨rfl, rfl⟩]
  have D1 : ∀ o, b ≤ o → o < c.2.2.1 → ai s1 154 o = nI (D o) ∧ D o < 36 := by
    intro o ho1 ho2
    by_cases e : o = b
    · rw [e]; exact ⟨p1, hd36⟩
    · obtain ⟨a, b'⟩ := hD o (by omega) ho2
      exact ⟨by rw [es1, ai_sai, if_neg (fun q => e q.2)]; exact a, b'⟩
  have go : ∀ g2 : Bool, g2 = (gd && plnC c (D b)) → ∀ u : Int32, u = nI b + 1 → S_BM_isBeginning_78 g Q s1 (nI c.2.2.1) (nI (r / 36)) (bI g2) (nI b) u := by
    rintro g2 e u rfl
    rw [nI_1]
    refine isb_in hB hb D1 (c.2.2.1 - (b + 1)) (b + 1) g2 (by omega) (by omega) ?_
    rw [e]
    exact h s1 es1
  obtain ⟨k1, k2⟩ := x1.2.1 (D b) hd36
  cases gd with
  | false => exact ⟨fun _ => go false (by simp), fun q => absurd rfl q⟩
  | true =>
    refine ⟨fun q => absurd q (by decide), fun _ => ⟨vp_in_nI (by omega) (by decide), ?_⟩⟩
    rw [nI_clamp (by omega), p1]
    refine k_BM_isThere x1.1 (by omega) ?_
    by_cases hin : D b % 6 < c.1 ∧ D b / 6 < c.2.1
    · rw [if_pos hin]
      refine ⟨fun q => absurd q (by decide), fun _ => ⟨vp_in_nI (by omega) (by decide), ?_⟩⟩
      rw [p1, nI_clamp (by omega), k1]
      have e0 : nI (c.2.2.2.1 (D b)) = 0 ↔ c.2.2.2.1 (D b) = 0 := nI_eq (b := 0) (by omega) (by decide)
      rw [e0]
      refine ⟨vp_in_nI hd36 (by decide), fun q => go false ?_, fun q => go true ?_⟩
      · have : plnC c (D b) = false := decide_eq_false (fun z => q z.2)
        rw [this]; rfl
      · have : plnC c (D b) = true := decide_eq_true ⟨hin, q⟩
        rw [this]; rfl
    · rw [if_neg hin]
      refine ⟨fun _ => go false ?_, fun q => absurd rfl q⟩
      have : plnC c (D b) = false := decide_eq_false (fun z => hin z.1)
      rw [this]; rfl
theorem k_BM_isBeginning {Q : Int32 → St → Prop} {k : Nat} (hx : RefX σ c) (hk : k < 36 ^ c.2.2.1) (h1 : (digN 36 c.2.2.1 k).all (plnC c) ∧ (digN 36 c.2.2.1 k).Nodup → ∀ τ, fr [] [154] σ τ → (∀ b, b < c.2.2.1 → ai τ 154 b = nI (plL (digN 36 c.2.2.1 k) b)) → Q 1 τ) (h0 : ¬ ((digN 36 c.2.2.1 k).all (plnC c) ∧ (digN 36 c.2.2.1 k).Nodup) → ∀ τ, fr [] [154] σ τ → Q 0 τ) : K_BM_isBeginning g (nI k) (nI c.2.2.1) σ Q := by
  have hB := hx.1.2.2.2.2.2
  have h36 : 36 ^ c.2.2.1 ≤ 46656 := Nat.pow_le_pow_right (n := 36) (by decide) hB
  have fin : ∀ (gd : Bool) (τ : St), (gd = true ↔ (digN 36 c.2.2.1 k).all (plnC c) ∧ (digN 36 c.2.2.1 k).Nodup) → fr [] [154] σ τ → (∀ b, b < c.2.2.1 → ai τ 154 b = nI (plL (digN 36 c.2.2.1 k) b)) → ∀ r : Int32, S_BM_isBeginning_10 g Q τ (nI c.2.2.1) r (bI gd) (-1) := by
    intro gd τ hgd hf hp r
    refine sg_BM_isBeginning_10 ⟨fun _ => ⟨by cases gd <;> decide, ?_⟩, fun q => absurd (by decide) q⟩
    cases gd with
    | true => exact h1 (hgd.mp rfl) τ hf hp
    | false => exact h0 (fun z => absurd (hgd.mpr z) (by decide)) τ hf
  have xf : ∀ τ, fr [] [154] σ τ → RefX τ c := fun τ hf => hx.fr hf (by decide) (by decide) (by decide) (by decide) (by decide) (by decide) (by decide) (by decide)
  refine ko_BM_isBeginning (sg_BM_isBeginning_0 ?_)
  rintro u rfl
  obtain ⟨B, hBe⟩ : ∃ B, B = c.2.2.1 := ⟨_, rfl⟩
  have hdiv : k / 36 ≤ k := Nat.div_le_self _ _
  have hdiv2 : k / 36 / 36 ≤ k / 36 := Nat.div_le_self _ _
  rcases (show B = 0 ∨ B = 1 ∨ B = 2 ∨ B = 3 by omega) with hb | hb | hb | hb
  · have e0 : c.2.2.1 = 0 := by omega
    rw [show nI c.2.2.1 - 1 = -1 by rw [e0]; decide]
    refine fin true σ ⟨fun _ => ?_, fun _ => rfl⟩ fr.rf (fun b hb2 => by omega) (nI k)
    rw [e0]; simp [digN]
  · have e1 : c.2.2.1 = 1 := by omega
    rw [show nI c.2.2.1 - 1 = nI 0 by rw [e1]; decide]
    refine isb_step (b := 0) (gd := true) (D := fun _ => k % 36) hx (by omega) (by omega) rfl (fun o h1 h2 => by omega) (fun τ eτ u eu => ?_)
    rw [show u = -1 by rw [eu]; decide]
    refine fin _ τ ?_ (by rw [eτ]; exact fr_sai (by decide)) (fun b hb2 => ?_) _
    · rw [e1, dig1, ndC_end]; simp
    · have : b = 0 := by omega
      subst this
      rw [eτ, ai_sai, if_pos ⟨rfl, rfl⟩, e1, dig1]; rfl
  · have e2 : c.2.2.1 = 2 := by omega
    rw [show nI c.2.2.1 - 1 = nI 1 by rw [e2]; decide]
    obtain ⟨D, hD⟩ : ∃ D : Nat → Nat, D = plL [k / 36 % 36, k % 36] := ⟨_, rfl⟩
    have D0 : D 0 = k / 36 % 36 := by rw [hD]; rfl
    have D1 : D 1 = k % 36 := by rw [hD]; rfl
    refine isb_step (b := 1) (gd := true) (D := D) hx (by omega) (by omega) D1 (fun o h1 h2 => by omega) (fun τ eτ u eu => ?_)
    rw [show u = nI 0 by rw [eu]; decide]
    have f1 : fr [] [154] σ τ := by rw [eτ]; exact fr_sai (by decide)
    refine isb_step (b := 0) (D := D) (xf τ f1) (by omega) (by omega) D0 (fun o h1 h2 => ?_) (fun τ2 eτ2 u2 eu2 => ?_)
    · have : o = 1 := by omega
      subst this
      exact ⟨by rw [eτ, ai_sai, if_pos ⟨rfl, rfl⟩], by rw [D1]; omega⟩
    · rw [show u2 = -1 by rw [eu2]; decide]
      refine fin _ τ2 ?_ (f1.tr (by rw [eτ2]; exact fr_sai (by decide))) (fun b hb2 => ?_) _
      · rw [e2, dig2]
        rw [ndC_end, ndC_s (show 0 + 1 < 2 by decide), ndC_end]
        simp only [ Bool.and_true, Bool.true_and, Bool.and_eq_true, decide_eq_true_iff, List.all_cons, List.all_nil, List.nodup_cons, List.mem_cons, List.not_mem_nil, or_false, not_false_eq_true, List.nodup_nil, and_true, D0, D1]
        constructor
        · rintro ⟨⟨a, b⟩, d⟩; exact ⟨⟨b, a⟩, fun q => d q.symm⟩
        · rintro ⟨⟨a, b⟩, d⟩; exact ⟨⟨b, a⟩, fun q => d q.symm⟩
      · rw [e2, dig2, ← hD]
        rcases (show b = 0 ∨ b = 1 by omega) with rfl | rfl
        · rw [eτ2, ai_sai, if_pos ⟨rfl, rfl⟩]
        · rw [eτ2, ai_sai, if_neg (by omega), eτ, ai_sai, if_pos ⟨rfl, rfl⟩]
  · have e3 : c.2.2.1 = 3 := by omega
    rw [show nI c.2.2.1 - 1 = nI 2 by rw [e3]; decide]
    obtain ⟨D, hD⟩ : ∃ D : Nat → Nat, D = plL [k / 36 / 36 % 36, k / 36 % 36, k % 36] := ⟨_, rfl⟩
    have D0 : D 0 = k / 36 / 36 % 36 := by rw [hD]; rfl
    have D1 : D 1 = k / 36 % 36 := by rw [hD]; rfl
    have D2 : D 2 = k % 36 := by rw [hD]; rfl
    refine isb_step (b := 2) (gd := true) (D := D) hx (by omega) (by omega) D2 (fun o h1 h2 => by omega) (fun τ eτ u eu => ?_)
    rw [show u = nI 1 by rw [eu]; decide]
    have f1 : fr [] [154] σ τ := by rw [eτ]; exact fr_sai (by decide)
    have q2 : ai τ 154 2 = nI (D 2) := by rw [eτ, ai_sai, if_pos ⟨rfl, rfl⟩]
    refine isb_step (b := 1) (D := D) (xf τ f1) (by omega) (by omega) D1 (fun o h1 h2 => ?_) (fun τ2 eτ2 u2 eu2 => ?_)
    · have : o = 2 := by omega
      subst this
      exact ⟨q2, by rw [D2]; omega⟩
    · rw [show u2 = nI 0 by rw [eu2]; decide]
      have f2 : fr [] [154] σ τ2 := f1.tr (by rw [eτ2]; exact fr_sai (by decide))
      have r2 : ai τ2 154 2 = nI (D 2) := by rw [eτ2, ai_sai, if_neg (by omega)]; exact q2
      have r1 : ai τ2 154 1 = nI (D 1) := by rw [eτ2, ai_sai, if_pos ⟨rfl, rfl⟩]
      refine isb_step (b := 0) (D := D) (xf τ2 f2) (by omega) (by omega) D0 (fun o h1 h2 => ?_) (fun τ3 eτ3 u3 eu3 => ?_)
      · rcases (show o = 1 ∨ o = 2 by omega) with rfl | rfl
        · exact ⟨r1, by rw [D1]; omega⟩
        · exact ⟨r2, by rw [D2]; omega⟩
      · rw [show u3 = -1 by rw [eu3]; decide]
        refine fin _ τ3 ?_ (f2.tr (by rw [eτ3]; exact fr_sai (by decide))) (fun b hb2 => ?_) _
        · rw [e3, dig3]
          rw [ndC_end, ndC_s (show 1 + 1 < 3 by decide), ndC_end, ndC_s (show 0 + 1 < 3 by decide), ndC_s (show 0 + 1 + 1 < 3 by decide), ndC_end]
          simp only [Nat.zero_add, Nat.reduceAdd,  Bool.and_true, Bool.true_and, Bool.and_eq_true, decide_eq_true_iff, List.all_cons, List.all_nil, List.nodup_cons, List.mem_cons, List.not_mem_nil, or_false, not_false_eq_true, List.nodup_nil, and_true, not_or, D0, D1, D2]
          constructor
          · rintro ⟨⟨⟨⟨a2, a1⟩, d1⟩, a0⟩, d2, d3⟩
            exact ⟨⟨a0, a1, a2⟩, ⟨fun q => d2 q.symm, fun q => d3 q.symm⟩, fun q => d1 q.symm⟩
          · rintro ⟨⟨a0, a1, a2⟩, ⟨d2, d3⟩, d1⟩
            exact ⟨⟨⟨⟨a2, a1⟩, fun q => d1 q.symm⟩, a0⟩, fun q => d2 q.symm, fun q => d3 q.symm⟩
        · rw [e3, dig3, ← hD]
          rcases (show b = 0 ∨ b = 1 ∨ b = 2 by omega) with rfl | rfl | rfl
          · rw [eτ3, ai_sai, if_pos ⟨rfl, rfl⟩]
          · rw [eτ3, ai_sai, if_neg (by omega)]; exact r1
          · rw [eτ3, ai_sai, if_neg (by omega)]; exact r2
end
