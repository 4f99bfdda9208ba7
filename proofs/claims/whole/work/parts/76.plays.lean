-- game: the reference's levels
def evL (L : Nat) : Bool := decide (L % 2 = 0)
def prt (f : Nat → Bool) (ev : Bool) : Nat → Bool
  | 0 => !ev
  | w + 1 => if ev then (prt f ev w || f w) else (prt f ev w && f w)
theorem prt_cut {f : Nat → Bool} {ev : Bool} {w : Nat} (h : prt f ev w = ev) : ∀ m, prt f ev (w + m) = ev
  | 0 => h
  | m + 1 => by
    have := prt_cut h m
    show (if ev then (prt f ev (w + m) || f (w + m)) else (prt f ev (w + m) && f (w + m))) = ev
    rw [this]
    cases ev <;> simp
theorem winF_s {c : Cfg} {l : Nat} {P : Nat → Nat} {ft : Bool} : winF c (l + 1) P ft = if allH P then true else if ft then (winF c l (tipC c 0 P).1 false || (winF c l (tipC c 1 P).1 false || (winF c l (tipC c 2 P).1 false || winF c l (tipC c 3 P).1 false))) else (winF c l (tipC c 0 P).1 true && (winF c l (tipC c 1 P).1 true && (winF c l (tipC c 2 P).1 true && winF c l (tipC c 3 P).1 true))) := rfl
theorem prt_4 {c : Cfg} {k : Nat} {P : Nat → Nat} {ev : Bool} (h : ¬ allH P) : prt (fun w => winF c k (tipC c w P).1 (!ev)) ev 4 = winF c (k + 1) P ev := by
  rw [winF_s, if_neg h]
  cases ev
  · simp [prt, Bool.and_assoc]
  · simp [prt, Bool.or_assoc]
def lvl (σ : St) (B L : Nat) (P : Nat → Nat) (w : Nat) (h : Bool) : Prop := (∀ b, b < B → ai σ 189 (3 * L + b) = nI (P b)) ∧ ai σ 190 L = nI w ∧ ai σ 191 L = bI h
def blw (L : Nat) (σ τ : St) : Prop := (∀ j, j < 3 * L → ai τ 189 j = ai σ 189 j) ∧ ∀ j, j < L → ai τ 190 j = ai σ 190 j ∧ ai τ 191 j = ai σ 191 j
theorem blw.rf {L : Nat} {σ : St} : blw L σ σ := ⟨fun _ _ => rfl, fun _ _ => ⟨rfl, rfl⟩⟩
theorem blw.tr {L : Nat} {σ τ υ : St} (h : blw L σ τ) (h2 : blw L τ υ) : blw L σ υ := ⟨fun j hj => (h2.1 j hj).trans (h.1 j hj), fun j hj => ⟨(h2.2 j hj).1.trans (h.2 j hj).1, (h2.2 j hj).2.trans (h.2 j hj).2⟩⟩
theorem blw.mo {L M : Nat} {σ τ : St} (h : blw L σ τ) (hM : M ≤ L) : blw M σ τ := ⟨fun j hj => h.1 j (by omega), fun j hj => h.2 j (by omega)⟩
theorem blw.fr {L : Nat} {σ τ : St} {F : List (Nat × Nat)} {M : List Nat} (hf : fr F M σ τ) (h1 : 189 ∉ M) (h2 : 190 ∉ M) (h3 : 191 ∉ M) : blw L σ τ := ⟨fun j _ => by rw [(hf.2 _ h1).1], fun j _ => by rw [(hf.2 _ h2).1, (hf.2 _ h3).1]; exact ⟨rfl, rfl⟩⟩
theorem lvl.fr {σ τ : St} {B L w : Nat} {P : Nat → Nat} {h : Bool} {F : List (Nat × Nat)} {M : List Nat} (hl : lvl σ B L P w h) (hf : fr F M σ τ) (h1 : 189 ∉ M) (h2 : 190 ∉ M) (h3 : 191 ∉ M) : lvl τ B L P w h := by
  unfold lvl at hl ⊢
  rw [(hf.2 _ h1).1, (hf.2 _ h2).1, (hf.2 _ h3).1]
  exact hl
theorem lvl.blw {σ τ : St} {B L w : Nat} {P : Nat → Nat} {h : Bool} (hB : B ≤ 3) (hl : lvl σ B L P w h) (hb : blw (L + 1) σ τ) : lvl τ B L P w h := ⟨fun b hbB => by rw [hb.1 _ (by omega)]; exact hl.1 b hbB, by rw [(hb.2 L (by omega)).1]; exact hl.2.1, by rw [(hb.2 L (by omega)).2]; exact hl.2.2⟩
section
variable {g : Gx} {σ : St} {c : Cfg} {P : Nat → Nat}
theorem nar1 : vp_nar .boolean 1 = 1 := by decide
theorem nar0 : vp_nar .boolean 0 = 0 := by decide
theorem narb {b : Bool} : vp_nar .boolean (bI b) = bI b := by cases b <;> decide
theorem k_BM_laysLevel {Q : St → Prop} {P' : Nat → Nat} {L : Nat} (hr : RefT σ c P') (hL : L ≤ 8) (hp : okW c.1 c.2.1 c.2.2.1 P) (hl : ∀ b, b < c.2.2.1 → ai σ 189 (3 * L + b) = nI (P b)) (h : ∀ τ, fr [] [154] σ τ → RefT τ c P → Q τ) : K_BM_laysLevel g (nI L) σ Q := by
  have hB := hr.1.1.2.2.2.2.2
  have e3 : (3 : Int32) * nI L = nI (3 * L) := by show nI 3 * nI L = _; rw [pk_mul]
  have step : ∀ (b : Nat) (τ : St), b < 3 → S_BM_laysLevel_2 g Q (sai τ 154 b (ai τ 189 (3 * L + b))) (nI L) (nI (b + 1)) → S_BM_laysLevel_2 g Q τ (nI L) (nI b) := by
    intro b τ hb hq
    refine sg_BM_laysLevel_2 ⟨fun q => absurd q (nI_ge (b := 3) hb (by decide)), fun _ => ?_⟩
    rw [e3, nI_add, nI_clamp (by omega), nI_clamp (by omega)]
    refine ⟨vp_in_nI (by omega) (by decide), vp_in_nI hb (by decide), ?_⟩
    rintro s rfl u rfl
    rw [nI_1]; exact hq
  refine ko_BM_laysLevel (sg_BM_laysLevel_0 (step 0 σ (by decide) (step 1 _ (by decide) (step 2 _ (by decide) ?_))))
  refine sg_BM_laysLevel_2 ⟨fun _ => ?_, fun q => absurd (by decide) q⟩
  have ff : fr [] [154] σ (sai (sai (sai σ 154 0 (ai σ 189 (3 * L + 0))) 154 1 (ai (sai σ 154 0 (ai σ 189 (3 * L + 0))) 189 (3 * L + 1))) 154 2 (ai (sai (sai σ 154 0 (ai σ 189 (3 * L + 0))) 154 1 (ai (sai σ 154 0 (ai σ 189 (3 * L + 0))) 189 (3 * L + 1))) 189 (3 * L + 2))) := ((fr_sai (by decide)).tr (fr_sai (by decide))).tr (fr_sai (by decide))
  refine h _ ff ⟨⟨?_, ?_, fun b hb => ?_, hp⟩, ?_, hr.2.2.fr ff (by decide) (by decide) (by decide) (by decide) (by decide) (by decide) (by decide)⟩
  · have hd := hr.1.1
    unfold Dim at hd ⊢
    rw [(ff.2 152 (by decide)).1]; exact hd
  · rw [(ff.2 153 (by decide)).1]; exact hr.1.2.1
  · rw [← hl b hb]
    rcases (show b = 0 ∨ b = 1 ∨ b = 2 by omega) with rfl | rfl | rfl
    · rw [ai_sai, if_neg (by omega), ai_sai, if_neg (by omega), ai_sai, if_pos ⟨rfl, rfl⟩]
    · rw [ai_sai, if_neg (by omega), ai_sai, if_pos ⟨rfl, rfl⟩, ai_sai, if_neg (by omega)]
    · rw [ai_sai, if_pos ⟨rfl, rfl⟩, ai_sai, if_neg (by omega), ai_sai, if_neg (by omega)]
  · rw [(ff.2 152 (by decide)).1]; exact hr.2.1
theorem k_BM_keepsLevel {Q : St → Prop} {L : Nat} (hr : RefT σ c P) (hL : L ≤ 8) (h : ∀ τ, fr [] [189] σ τ → (∀ b, b < c.2.2.1 → ai τ 189 (3 * L + b) = nI (P b)) → (∀ j, j < 3 * L → ai τ 189 j = ai σ 189 j) → Q τ) : K_BM_keepsLevel g (nI L) σ Q := by
  have hB := hr.1.1.2.2.2.2.2
  have e3 : (3 : Int32) * nI L = nI (3 * L) := by show nI 3 * nI L = _; rw [pk_mul]
  have step : ∀ (b : Nat) (τ : St), b < 3 → S_BM_keepsLevel_2 g Q (sai τ 189 (3 * L + b) (ai τ 154 b)) (nI L) (nI (b + 1)) → S_BM_keepsLevel_2 g Q τ (nI L) (nI b) := by
    intro b τ hb hq
    refine sg_BM_keepsLevel_2 ⟨fun q => absurd q (nI_ge (b := 3) hb (by decide)), fun _ => ?_⟩
    rw [e3, nI_add, nI_clamp (by omega), nI_clamp (by omega)]
    refine ⟨vp_in_nI hb (by decide), vp_in_nI (by omega) (by decide), ?_⟩
    rintro s rfl u rfl
    rw [nI_1]; exact hq
  refine ko_BM_keepsLevel (sg_BM_keepsLevel_0 (step 0 σ (by decide) (step 1 _ (by decide) (step 2 _ (by decide) ?_))))
  refine sg_BM_keepsLevel_2 ⟨fun _ => ?_, fun q => absurd (by decide) q⟩
  refine h _ (((fr_sai (by decide)).tr (fr_sai (by decide))).tr (fr_sai (by decide))) (fun b hb => ?_) (fun j hj => ?_)
  · rw [← hr.1.2.2.1 b hb]
    rcases (show b = 0 ∨ b = 1 ∨ b = 2 by omega) with rfl | rfl | rfl
    · rw [ai_sai, if_neg (by omega), ai_sai, if_neg (by omega), ai_sai, if_pos ⟨rfl, rfl⟩]
    · rw [ai_sai, if_neg (by omega), ai_sai, if_pos ⟨rfl, rfl⟩, ai_sai, if_neg (by omega)]
    · rw [ai_sai, if_pos ⟨rfl, rfl⟩, ai_sai, if_neg (by omega), ai_sai, if_neg (by omega)]
  · rw [ai_sai, if_neg (by omega), ai_sai, if_neg (by omega), ai_sai, if_neg (by omega)]
theorem rem2 {L : Nat} (hL : L < 2 ^ 31) : nI L - nI L / 2 * 2 = nI (L % 2) := pk_rem (d := 2) hL (by decide) (by decide)
theorem k_BM_isTold {Q : Int32 → St → Prop} {L n : Nat} (hr : RefT σ c P) (hL : L ≤ n) (hn : n ≤ 8) (h : ∀ τ, fr [] [189, 190, 191] σ τ → RefT τ c P → blw L σ τ → lvl τ c.2.2.1 L P 0 (decide (allH P) || (decide (L < n) && !evL L)) → Q (bI (decide (allH P) || decide (L = n))) τ) : K_BM_isTold g (nI L) (nI n) σ Q := by
  refine ko_BM_isTold (sg_BM_isTold_0 (k_BM_keepsLevel hr (by omega) (fun τ f1 p1 b1 => ⟨vp_in_nI (by omega) (by decide), ?_⟩)))
  rintro s2 e2
  rw [nI_clamp (by omega)] at e2
  have f2 : fr [] [190] τ s2 := by rw [e2]; exact fr_sai (by decide)
  have r1 : RefT τ c P := hr.fr f1 (by decide) (by decide) (by decide) (by decide) (by decide) (by decide) (by decide) (by decide) (by decide)
  have r2 : RefT s2 c P := r1.fr f2 (by decide) (by decide) (by decide) (by decide) (by decide) (by decide) (by decide) (by decide) (by decide)
  have fin : ∀ (v : Bool) (s3 : St), s3 = sai s2 191 L (bI v) → (decide (allH P) || (decide (L < n) && !evL L)) = v → Q (bI (decide (allH P) || decide (L = n))) s3 := by
    intro v s3 e3 ev
    have f3 : fr [] [191] s2 s3 := by rw [e3]; exact fr_sai (by decide)
    refine h s3 ((f1.mo (by simp) (by decide)).tr ((f2.mo (by simp) (by decide)).tr (f3.mo (by simp) (by decide)))) (r2.fr f3 (by decide) (by decide) (by decide) (by decide) (by decide) (by decide) (by decide) (by decide) (by decide)) ⟨fun j hj => ?_, fun j hj => ⟨?_, ?_⟩⟩ ⟨fun b hb => ?_, ?_, ?_⟩
    · rw [(f3.2 189 (by decide)).1, (f2.2 189 (by decide)).1]; exact b1 j hj
    · rw [(f3.2 190 (by decide)).1, e2, ai_sai, if_neg (by omega), (f1.2 190 (by decide)).1]
    · rw [e3, ai_sai, if_neg (by omega), (f2.2 191 (by decide)).1, (f1.2 191 (by decide)).1]
    · rw [(f3.2 189 (by decide)).1, (f2.2 189 (by decide)).1]; exact p1 b hb
    · rw [(f3.2 190 (by decide)).1, e2, ai_sai, if_pos ⟨rfl, rfl⟩]; rfl
    · rw [e3, ai_sai, if_pos ⟨rfl, rfl⟩, ev]
  refine k_areH r2 ?_
  rw [rem2 (by omega)]
  have eo : nI (L % 2) = 1 ↔ evL L = false := by
    unfold evL
    rw [decide_eq_false_iff_not]
    have : nI (L % 2) = 1 ↔ L % 2 = 1 := nI_eq (b := 1) (by omega) (by decide)
    rw [this]; omega
  by_cases hh : allH P
  · rw [if_pos hh]
    have edh : decide (allH P) = true := decide_eq_true hh
    refine ⟨fun _ => sg_BM_isTold_38 ⟨vp_in_nI (by omega) (by decide), ?_⟩, fun q => absurd q (by decide)⟩
    rintro s3 e3
    rw [nI_clamp (by omega), nar1] at e3
    have := fin true s3 e3 (by simp [edh])
    simp only [edh, Bool.true_or] at this
    exact ⟨fun _ => this, fun q => absurd q (by decide)⟩
  · rw [if_neg hh]
    have edh : decide (allH P) = false := decide_eq_false hh
    refine ⟨fun q => absurd rfl q, fun _ => ?_⟩
    have s38 : ∀ v : Bool, (decide (allH P) || (decide (L < n) && !evL L)) = v → ∀ s3 : St, s3 = sai s2 191 L (bI v) → (¬ (0 : Int32) = 0 → Q 1 s3) ∧ ((0 : Int32) = 0 → (¬ nI L = nI n → Q 0 s3) ∧ (nI L = nI n → Q 1 s3)) := by
      intro v ev s3 e3
      have := fin v s3 e3 ev
      refine ⟨fun q => absurd rfl q, fun _ => ?_⟩
      rw [nI_eq (by omega) (by omega)]
      refine ⟨fun q => ?_, fun q => ?_⟩
      · rw [edh, decide_eq_false q] at this; exact this
      · rw [edh, decide_eq_true q] at this; exact this
    refine ⟨fun q => sg_BM_isTold_42 ⟨vp_in_nI (by omega) (by decide), ?_⟩, fun q => ⟨fun q2 => sg_BM_isTold_42 ⟨vp_in_nI (by omega) (by decide), ?_⟩, fun q2 => sg_BM_isTold_38 ⟨vp_in_nI (by omega) (by decide), ?_⟩⟩⟩
    · rintro s3 e3
      rw [nI_clamp (by omega), nar0] at e3
      have hle := (nI_leI (by omega) (by omega)).mp q
      exact s38 false (by rw [edh, decide_eq_false (show ¬ L < n by omega)]; rfl) s3 e3
    · rintro s3 e3
      rw [nI_clamp (by omega), nar0] at e3
      rw [eo] at q2
      have e1 : evL L = true := by simpa using q2
      exact s38 false (by rw [edh, e1]; simp) s3 e3
    · rintro s3 e3
      rw [nI_clamp (by omega), nar1] at e3
      rw [eo] at q2
      have hlt : L < n := Nat.not_le.mp (fun z => q (nI_le z (by omega)))
      exact s38 true (by rw [edh, q2, decide_eq_true hlt]; rfl) s3 e3
theorem k_BM_isOver {Q : Int32 → St → Prop} {B L w : Nat} {h : Bool} (hL : L ≤ 8) (hw : w ≤ 4) (hl : lvl σ B L P w h) (hq : Q (if w = 4 ∨ (h = evL L ∧ 0 < w) then 1 else 0) σ) : K_BM_isOver g (nI L) σ Q := by
  obtain ⟨-, l1, l2⟩ := hl
  have e4 : nI w = 4 ↔ w = 4 := nI_eq (b := 4) (by omega) (by decide)
  have e0 : nI w ≤ 0 ↔ ¬ 0 < w := by
    have : nI w ≤ 0 ↔ w ≤ 0 := nI_leI (b := 0) (by omega) (by decide)
    rw [this]; omega
  have ev : nI (L % 2) = 0 ↔ evL L = true := by
    unfold evL
    rw [decide_eq_true_iff]
    exact nI_eq (b := 0) (by omega) (by decide)
  refine ko_BM_isOver (sg_BM_isOver_0 ⟨vp_in_nI (by omega) (by decide), ?_⟩)
  rw [nI_clamp (by omega), l1, l2, rem2 (by omega), e4, e0, ev]
  refine ⟨fun q => ?_, fun q => ⟨vp_in_nI (by omega) (by decide), fun q2 => ?_, fun q2 => ?_⟩⟩
  · rw [if_pos (Or.inl q)] at hq; exact hq
  · have e : evL L = false := by simpa using q2
    rw [e] at hq
    cases h
    · refine ⟨fun z => absurd rfl z, fun _ => ⟨vp_in_nI (by omega) (by decide), fun z => ?_, fun z => ?_⟩⟩
      · rw [if_neg (fun y => y.elim q (fun y => z y.2))] at hq; exact hq
      · rw [if_pos (Or.inr ⟨rfl, by omega⟩)] at hq; exact hq
    · refine ⟨fun _ => ?_, fun z => absurd z (by decide)⟩
      rw [if_neg (fun y => y.elim q (fun y => absurd y.1 (by decide)))] at hq; exact hq
  · rw [q2] at hq
    cases h
    · refine ⟨fun _ => ?_, fun z => absurd z (by decide)⟩
      rw [if_neg (fun y => y.elim q (fun y => absurd y.1 (by decide)))] at hq; exact hq
    · refine ⟨fun z => absurd rfl z, fun _ => ⟨vp_in_nI (by omega) (by decide), fun z => ?_, fun z => ?_⟩⟩
      · rw [if_neg (fun y => y.elim q (fun y => z y.2))] at hq; exact hq
      · rw [if_pos (Or.inr ⟨rfl, by omega⟩)] at hq; exact hq
end
