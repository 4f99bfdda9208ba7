-- walls chipped and put in: by numbers, and the class
def cK (c : Cfg) (x v : Nat) : Cfg := (c.1, c.2.1, c.2.2.1, upP c.2.2.2.1 x v, c.2.2.2.2)
abbrev candC (made : Nat) (c : Cfg) (P : Nat → Nat) (x : Nat) : Prop := (x % 6 < c.1 ∧ x / 6 < c.2.1) ∧ c.2.2.2.1 x = 1 - made ∧ ¬ (P 0 = x ∨ P 1 = x ∨ P 2 = x)
abbrev betC (made : Nat) (a b : Int32) : Prop := (made = 0 ∧ a < b) ∨ (made ≠ 0 ∧ b < a)
noncomputable def crvS (made : Nat) (c : Cfg) (P : Nat → Nat) (b : Option Nat × Int32) (x : Nat) : Option Nat × Int32 :=
  if candC made c P x then (if ¬ finV (cK c x made) P < 0 ∧ (b.1 = none ∨ betC made (finV (cK c x made) P) b.2) then (some x, finV (cK c x made) P) else b) else b
noncomputable def crvN (made : Nat) (c : Cfg) (P : Nat → Nat) : Nat → Option Nat × Int32
  | 0 => (none, -2)
  | x + 1 => crvS made c P (crvN made c P x) x
theorem crvN_inv {made : Nat} {c : Cfg} {P : Nat → Nat} : ∀ x, ((crvN made c P x).1 = none → (crvN made c P x).2 = -2) ∧ (∀ y, (crvN made c P x).1 = some y → ¬ (crvN made c P x).2 < 0 ∧ y < x ∧ y % 6 < c.1 ∧ y / 6 < c.2.1)
  | 0 => ⟨fun _ => rfl, fun y h => by cases h⟩
  | x + 1 => by
    obtain ⟨i1, i2⟩ := crvN_inv (made := made) (c := c) (P := P) x
    have e : crvN made c P (x + 1) = crvS made c P (crvN made c P x) x := rfl
    rw [e]
    unfold crvS
    split
    · rename_i hc
      split
      · rename_i h
        exact ⟨fun q => (by cases q), fun y q => (by cases q; exact ⟨h.1, Nat.lt_succ_self _, hc.1.1, hc.1.2⟩)⟩
      · exact ⟨i1, fun y q => ⟨(i2 y q).1, Nat.lt_succ_of_lt (i2 y q).2.1, (i2 y q).2.2⟩⟩
    · exact ⟨i1, fun y q => ⟨(i2 y q).1, Nat.lt_succ_of_lt (i2 y q).2.1, (i2 y q).2.2⟩⟩
theorem cK_ok {made : Nat} {c : Cfg} {P : Nat → Nat} {x : Nat} (hB : c.2.2.1 ≤ 3) (hp : okP c.1 c.2.1 c.2.2.1 c.2.2.2.1 P) (hx36 : x < 36) (hx : ¬ (P 0 = x ∨ P 1 = x ∨ P 2 = x)) : okP (cK c x made).1 (cK c x made).2.1 (cK c x made).2.2.1 (cK c x made).2.2.2.1 P := by
  refine ⟨hp.1, fun b hb => ?_⟩
  show upP c.2.2.2.1 x made (P b) = 0
  have hne : P b ≠ x := fun e => by
    by_cases h3 : b < 3
    · apply hx
      rcases (show b = 0 ∨ b = 1 ∨ b = 2 by omega) with rfl | rfl | rfl
      · exact Or.inl e
      · exact Or.inr (Or.inl e)
      · exact Or.inr (Or.inr e)
    · have := hp.1.1 b (by omega); omega
  rw [upP_ne hne]; exact hp.2 b hb
/-- who can never come home gets nothing by it -/
theorem crvN_stk {made : Nat} {c : Cfg} {P : Nat → Nat} {b : Nat} (hm : made ≤ 1) (hC : c.1 ≤ 6) (hR : c.2.1 ≤ 6) (hB : c.2.2.1 ≤ 3) (hb : b < 3) (hp : okP c.1 c.2.1 c.2.2.1 c.2.2.2.1 P) (hs : stk c.1 c.2.1 c.2.2.2.1 b P) : ∀ x, crvN made c P x = (none, -2)
  | 0 => rfl
  | x + 1 => by
    have ih := crvN_stk hm hC hR hB hb hp hs x
    have e : crvN made c P (x + 1) = crvS made c P (crvN made c P x) x := rfl
    rw [e, ih]
    unfold crvS
    split
    · rename_i hc
      have hst : stk (cK c x made).1 (cK c x made).2.1 (cK c x made).2.2.2.1 b P := by
        rcases hs with h | ⟨h1, h2⟩
        · exact Or.inl h
        · refine Or.inr ⟨h1, fun y h3 h4 => ?_⟩
          show upP c.2.2.2.1 x made y ≠ 2 + b
          by_cases z : y = x
          · rw [z, upP_same]; omega
          · rw [upP_ne z]; exact h2 y h3 h4
      have := fin_stk (c := cK c x made) hC hR hb (cK_ok hB hp (by omega) hc.2.2) hst
      rw [if_neg (fun q => q.1 this)]
    · rfl
noncomputable def crvV (made : Nat) (c : Cfg) (P : Nat → Nat) (w : Nat) : Int32 := match (crvN made c P 36).1 with
  | none => -2
  | some x => if w = 0 then nI (x % 6) else if w = 1 then nI (x / 6) else (crvN made c P 36).2
/-- what the carver keeps -/
def CaV (σ : St) (made : Nat) (b : Option Nat × Int32) : Prop := ai σ 64 made = b.2 ∧ ∀ x, b.1 = some x → ai σ 63 made = nI (spc x)
theorem CaV.fr {σ τ : St} {made : Nat} {b : Option Nat × Int32} {F : List (Nat × Nat)} {M : List Nat} (h : CaV σ made b) (hf : fr F M σ τ) (h1 : 63 ∉ M) (h2 : 64 ∉ M) : CaV τ made b := by
  unfold CaV at h ⊢
  rw [(hf.2 _ h1).1, (hf.2 _ h2).1]; exact h
section
variable {g : Gx} {σ : St} {c : Cfg} {P : Nat → Nat}
theorem k_CA_note {Q : St → Prop} {made x : Nat} {is : Int32} {b : Option Nat × Int32} (hm : made ≤ 1) (hv : CaV σ made b) (hb1 : b.1 = none → b.2 = -2) (hb2 : ∀ y, b.1 = some y → ¬ b.2 < 0)
    (h : ∀ τ, fr [] [63, 64] σ τ → (∀ j, j ≠ made → ai τ 63 j = ai σ 63 j ∧ ai τ 64 j = ai σ 64 j) → CaV τ made (if ¬ is < 0 ∧ (b.1 = none ∨ betC made is b.2) then (some x, is) else b) → Q τ) : K_CA_noteIfBetter g (nI made) (nI (spc x)) is σ Q := by
  have le_iff : ∀ a b : Int32, a ≤ b ↔ ¬ b < a := fun a b => by rw [Int32.le_iff_toInt_le, Int32.lt_iff_toInt_lt]; omega
  have wr : (¬ is < 0 ∧ (b.1 = none ∨ betC made is b.2)) → ∀ s1 : St, s1 = sai σ 64 (nI made).toNatClampNeg is → ∀ s2 : St, s2 = sai s1 63 (nI made).toNatClampNeg (nI (spc x)) → Q s2 := by
    rintro hw s1 e1 s2 e2
    rw [nI_clamp (by omega)] at e1 e2
    refine h s2 (by rw [e2, e1]; exact (fr_sai (by decide)).tr (fr_sai (by decide))) (fun j hj => ⟨?_, ?_⟩) ?_
    · rw [e2, ai_sai, if_neg (by omega), e1, ai_sai, if_neg (by omega)]
    · rw [e2, ai_sai, if_neg (by omega), e1, ai_sai, if_neg (by omega)]
    · rw [if_pos hw]
      refine ⟨?_, fun y hy => ?_⟩
      · rw [e2, ai_sai, if_neg (by omega), e1, ai_sai, if_pos ⟨rfl, rfl⟩]
      · cases hy
        rw [e2, ai_sai, if_pos ⟨rfl, rfl⟩]
  have nw : (¬ (¬ is < 0 ∧ (b.1 = none ∨ betC made is b.2))) → Q σ := fun hw => by
    refine h σ fr.rf (fun _ _ => ⟨rfl, rfl⟩) ?_
    rw [if_neg hw]; exact hv
  have go : ∀ z : Int32, (z = 0 ↔ ¬ betC made is b.2) → S_CA_noteIfBetter_37 g Q σ (nI made) (nI (spc x)) is b.2 z := by
    intro z hz
    refine sg_CA_noteIfBetter_37 ⟨fun q => nw (fun y => y.1 q), fun q => ⟨fun q2 => ⟨vp_in_nI (by omega) (by decide), fun s1 e1 => ⟨vp_in_nI (by omega) (by decide), wr ⟨q, Or.inl ?_⟩ s1 e1⟩⟩, fun q2 => ⟨fun q3 => nw (fun y => ?_), fun q3 => ⟨vp_in_nI (by omega) (by decide), fun s1 e1 => ⟨vp_in_nI (by omega) (by decide), wr ⟨q, Or.inr (Decidable.not_not.mp (fun y => q3 (hz.mpr y)))⟩ s1 e1⟩⟩⟩⟩⟩
    · cases hb : b.1 with
      | none => rfl
      | some y => exact absurd q2 (hb2 y hb)
    · rcases y.2 with y | y
      · rw [hb1 y] at q2; exact q2 (by decide)
      · exact (hz.mp q3) y
  refine ko_CA_noteIfBetter (sg_CA_noteIfBetter_0 ⟨vp_in_nI (by omega) (by decide), ?_⟩)
  rintro u rfl
  rw [nI_clamp (by omega), hv.1, le_iff, le_iff]
  rcases (show made = 0 ∨ made = 1 by omega) with rfl | rfl
  · refine ⟨fun q => absurd rfl q, fun _ => ⟨fun q => go 0 ⟨fun _ => ?_, fun _ => rfl⟩, fun q => go 1 ⟨fun z => absurd z (by decide), fun z => ?_⟩⟩⟩
    · rintro (y | y)
      · exact q y.2
      · exact y.1 rfl
    · exact absurd (fun w => z (Or.inl ⟨rfl, w⟩)) q
  · refine ⟨fun _ => ⟨fun q => go 0 ⟨fun _ => ?_, fun _ => rfl⟩, fun q => go 1 ⟨fun z => absurd z (by decide), fun z => ?_⟩⟩, fun q => absurd q (by decide)⟩
    · rintro (y | y)
      · exact absurd y.1 (by decide)
      · exact q y.2
    · exact absurd (fun w => z (Or.inr ⟨by decide, w⟩)) q
theorem k_CA_answer {Q : Int32 → St → Prop} {made w : Nat} (hm : made ≤ 1) (hw : w ≤ 2) (hC : c.1 ≤ 6) (hR : c.2.1 ≤ 6) (hv : CaV σ made (crvN made c P 36)) (h : Q (crvV made c P w) σ) : K_CA_answer g (nI made) (nI w) σ Q := by
  obtain ⟨i1, i2⟩ := crvN_inv (made := made) (c := c) (P := P) 36
  have le0 : ∀ x : Int32, 0 ≤ x ↔ ¬ x < 0 := fun x => by rw [Int32.le_iff_toInt_le, Int32.lt_iff_toInt_lt]; omega
  refine ko_CA_answer (sg_CA_answer_0 ⟨fun q => absurd q (nI_pos (by omega)), fun _ => ⟨fun q => absurd q (nI_ge (b := 2) (by omega) (by decide)), fun _ => ⟨vp_in_nI (by omega) (by decide), ?_⟩⟩⟩)
  rw [nI_clamp (by omega), hv.1, le0]
  unfold crvV at h
  cases hb : (crvN made c P 36).1 with
  | none =>
    rw [hb] at h
    rw [i1 hb]
    exact ⟨fun q => absurd (by decide) q, fun _ => h⟩
  | some x =>
    rw [hb] at h
    obtain ⟨a1, a2, a3, a4⟩ := i2 x hb
    have hx36 : x < 36 := a2
    refine ⟨fun _ => ⟨vp_in_nI (by omega) (by decide), ?_⟩, fun q => absurd a1 q⟩
    rintro u rfl
    rw [hv.2 x hb]
    dsimp only at h
    rcases (show w = 0 ∨ w = 1 ∨ w = 2 by omega) with rfl | rfl | rfl
    · exact ⟨fun q => absurd rfl q, fun _ => k_SA_colC hx36 h⟩
    · exact ⟨fun _ => ⟨fun q => absurd rfl q, fun _ => k_SA_rowC hx36 h⟩, fun q => absurd q (by decide)⟩
    · exact ⟨fun _ => ⟨fun _ => ⟨vp_in_nI (by omega) (by decide), h⟩, fun q => absurd q (by decide)⟩, fun q => absurd q (by decide)⟩
theorem who_oc {P : Nat → Nat} {B x : Nat} (hN : ∀ b, B ≤ b → P b = 36) (hP : ∀ b, P b < 38) (hx : x < 36) : who (sitP P B) (spc x) = -1 ↔ ¬ (P 0 = x ∨ P 1 = x ∨ P 2 = x) := by
  rw [who_whoM (fun b _ => hP b) hx, ← whoM_oc hN hx]
  exact Decidable.not_not.symm
/-- the carver tries all spots -/
theorem ca_loop {Q : St → Prop} {made : Nat} {σ0 : St} (hm : made ≤ 1) (hp : okP c.1 c.2.1 c.2.2.1 c.2.2.2.1 P) (hc0 : ClsT 83 σ0 c) (h50 : fi σ0 83 5 = nI (sitP P c.2.2.1))
    (h : ∀ τ, fr [(57, 1), (57, 2), (57, 3), (57, 4), (57, 5), (57, 6), (57, 7), (57, 8), (57, 9), (57, 10), (65, 4), (65, 5), (17, 4), (17, 6), (17, 7)] [58, 59, 60, 61, 63, 64, 66, 67, 68, 19, 20, 21, 26, 31, 36, 41, 46, 51] σ0 τ → (∃ n F, SeQ 65 τ n F) → (∀ j, j ≠ made → ai τ 63 j = ai σ0 63 j ∧ ai τ 64 j = ai σ0 64 j) → CaV τ made (crvN made c P 36) → Q τ) :
    ∀ (m p : Nat) (σ : St), p + m = 64 → fr [(57, 1), (57, 2), (57, 3), (57, 4), (57, 5), (57, 6), (57, 7), (57, 8), (57, 9), (57, 10), (65, 4), (65, 5), (17, 4), (17, 6), (17, 7)] [58, 59, 60, 61, 63, 64, 66, 67, 68, 19, 20, 21, 26, 31, 36, 41, 46, 51] σ0 σ → (∃ n F, SeQ 65 σ n F) → (∀ j, j ≠ made → ai σ 63 j = ai σ0 63 j ∧ ai σ 64 j = ai σ0 64 j) → CaV σ made (crvN made c P (nSp p)) → ClsT 57 σ c → fi σ 57 5 = nI (sitP P c.2.2.1) → S_CA_keepUp_70 g Q σ 83 (nI made) (nI (1 - made)) (nI p) := by
  have hd := hc0.1
  obtain ⟨⟨-, -, -⟩, ⟨hC, hR, hB⟩, hG, -⟩ := id hd
  intro m
  induction m with
  | zero =>
    intro p σ hpm hf hse hoth hv hc57 h57
    have e : p = 64 := by omega
    subst e
    exact sg_CA_keepUp_70 sa_83 ⟨fun _ => h σ hf hse hoth hv, fun q => absurd (by decide) q⟩
  | succ m ih =>
    intro p σ hpm hf hse hoth hv hc57 h57
    have hp64 : p < 64 := by omega
    have a84 : ai σ 84 = ai σ0 84 := (hf.2 84 (by decide)).1
    have a835 : fi σ 83 5 = nI (sitP P c.2.2.1) := by rw [(hf.1 83 5 (by decide)).1]; exact h50
    refine sg_CA_keepUp_70 sa_83 ⟨fun q => absurd q (nI_ge (b := 64) hp64 (by decide)), fun _ => ⟨vp_in_nI hp64 (by decide), ?_⟩⟩
    rw [nI_clamp (by omega), a84, a835]
    have skip : crvN made c P (nSp (p + 1)) = crvN made c P (nSp p) → ∀ u1 : Int32, u1 = nI p + 1 → S_CA_keepUp_70 g Q σ 83 (nI made) (nI (1 - made)) u1 := by
      rintro e u rfl
      rw [nI_1]
      exact ih (p + 1) σ (by omega) hf hse hoth (by rw [e]; exact hv) hc57 h57
    rcases spot_cases hp64 with ⟨x, hx36, ex, n1, n2⟩ | ⟨hno, n1⟩
    · subst ex
      have es : crvN made c P (nSp (spc x + 1)) = crvS made c P (crvN made c P (nSp (spc x))) x := by rw [n1, n2]; rfl
      by_cases hin : x % 6 < c.1 ∧ x / 6 < c.2.1
      · obtain ⟨k1, k2⟩ := hG.1 x hin.1 hin.2
        rw [k1, nI_eq (by omega) (by omega)]
        refine ⟨fun q => skip ?_, fun q => k_SA_whoLies (Nat.lt_trans sitP_lt (by decide)) (spc_lt hx36) ?_⟩
        · rw [es]; unfold crvS; rw [if_neg (fun z => q z.2.1)]
        · rw [who_oc hp.1.1 (fun b => (hp.1.2 b).1) hx36]
          refine ⟨fun q2 => skip ?_, fun q2 => ⟨vp_in_nI (spc_lt hx36) (by decide), ?_⟩⟩
          · rw [es]; unfold crvS; rw [if_neg (fun z => q2 z.2.2)]
          · rintro s5 e5
            have hcand : candC made c P x := ⟨hin, q, q2⟩
            have f5 : fr [] [58] σ s5 := by rw [e5]; exact fr_sai (by decide)
            have cb : ClsB 57 s5 c.1 c.2.1 c.2.2.1 (upP c.2.2.2.1 x made) := by
              rw [e5]; exact clsB_set hc57.1 hin.1 hin.2 (by omega) hm
            have fo5 : FoC 57 s5 c.2.2.2.2.2 := by
              have := hc57.2.2
              unfold FoC at this ⊢
              cases hq : c.2.2.2.2.2 with
              | none => rw [hq] at this; dsimp only at this ⊢; rw [(f5.1 57 9 (by simp)).1]; exact this
              | some r =>
                rw [hq] at this
                obtain ⟨i, hi, ei, hlt, hwf, hru⟩ := this
                exact ⟨i, hi, by rw [(f5.1 57 9 (by simp)).1]; exact ei, by rw [(f5.1 17 5 (by simp)).1]; exact hlt, hwf, hru.fr f5 (by simp) (by simp) (by simp; omega) (by simp; omega) (by simp; omega)⟩
            have ct5 : ClsT 57 s5 (cK c x made) := ⟨cb, by rw [(f5.1 57 6 (by simp)).1]; exact hc57.2.1, fo5⟩
            obtain ⟨n, F, hq⟩ := hse
            refine k_SE_reckoned (c := cK c x made) (P := P) se_65 sa_57 (hq.fr f5 (by simp) (by simp) (by simp)) ct5 (cK_ok hB hp hx36 q2) (by rw [(f5.1 57 5 (by simp)).1]; exact h57) (fun τ6 f6 se6 _ => ?_)
            have hv6 : CaV τ6 made (crvN made c P (nSp (spc x))) := (hv.fr f5 (by decide) (by decide)).fr f6 (by decide) (by decide)
            have cinv := crvN_inv (made := made) (c := c) (P := P) (nSp (spc x))
            refine k_CA_note hm hv6 cinv.1 (fun y hy => (cinv.2 y hy).1) (fun τ8 f8 o8 v8 => ⟨vp_in_nI (spc_lt hx36) (by decide), ?_⟩)
            rintro s9 e9 u rfl
            rw [nI_1]
            have f9 : fr [] [58] τ8 s9 := by rw [e9]; exact fr_sai (by decide)
            have F6 : fr [(57, 1), (57, 2), (57, 3), (57, 4), (57, 5), (57, 6), (57, 7), (57, 8), (57, 9), (57, 10), (65, 4), (65, 5), (17, 4), (17, 6), (17, 7)] [58, 59, 60, 61, 63, 64, 66, 67, 68, 19, 20, 21, 26, 31, 36, 41, 46, 51] σ τ6 := (f5.mo (by simp) (by decide)).tr (f6.mo (by decide) (by decide))
            have F9 := (hf.tr F6).tr ((f8.mo (F' := [(57, 1), (57, 2), (57, 3), (57, 4), (57, 5), (57, 6), (57, 7), (57, 8), (57, 9), (57, 10), (65, 4), (65, 5), (17, 4), (17, 6), (17, 7)]) (R' := [58, 59, 60, 61, 63, 64, 66, 67, 68, 19, 20, 21, 26, 31, 36, 41, 46, 51]) (by simp) (by decide)).tr (f9.mo (by simp) (by decide)))
            have ct6 : ClsT 57 τ6 (cK c x made) := clst_se se_65 sa_57 ct5 f6
            have cb8 : ClsB 57 τ8 c.1 c.2.1 c.2.2.1 (upP c.2.2.2.1 x made) := ct6.1.fr f8 (by simp) (by simp) (by simp) (by decide) (by decide)
            have cb9 : ClsB 57 s9 c.1 c.2.1 c.2.2.1 c.2.2.2.1 := by
              have := clsB_set (v := 1 - made) cb8 hin.1 hin.2 (by rw [upP_same]; exact hm) (by omega)
              rw [← q, upP_back] at this
              rw [e9, ← q]; exact this
            have ct9 : ClsT 57 s9 c := by
              refine ⟨cb9, ?_, ?_⟩
              · rw [(f9.1 57 6 (by simp)).1, (f8.1 57 6 (by simp)).1]; exact ct6.2.1
              · have := ct6.2.2
                unfold FoC at this ⊢
                change (match c.2.2.2.2.2 with | none => _ | some r => _) at this
                cases hq : c.2.2.2.2.2 with
                | none => rw [hq] at this; dsimp only at this ⊢; rw [(f9.1 57 9 (by simp)).1, (f8.1 57 9 (by simp)).1]; exact this
                | some r =>
                  rw [hq] at this
                  obtain ⟨i, hi, ei, hlt, hwf, hru⟩ := this
                  refine ⟨i, hi, by rw [(f9.1 57 9 (by simp)).1, (f8.1 57 9 (by simp)).1]; exact ei, by rw [(f9.1 17 5 (by simp)).1, (f8.1 17 5 (by simp)).1]; exact hlt, hwf, ?_⟩
                  exact (hru.fr f8 (by simp) (by simp) (by simp; omega) (by simp; omega) (by simp; omega)).fr f9 (by simp) (by simp) (by simp; omega) (by simp; omega) (by simp; omega)
            obtain ⟨n6, F6', hq6⟩ := se6
            refine ih (spc x + 1) s9 (by omega) F9 ⟨n6, F6', (hq6.fr f8 (by simp) (by decide) (by decide)).fr f9 (by simp) (by decide) (by decide)⟩ (fun j hj => ?_) ?_ ct9 ?_
            · rw [(f9.2 63 (by decide)).1, (f9.2 64 (by decide)).1, (o8 j hj).1, (o8 j hj).2, (f6.2 63 (by decide)).1, (f6.2 64 (by decide)).1, (f5.2 63 (by decide)).1, (f5.2 64 (by decide)).1]
              exact hoth j hj
            · rw [es]
              unfold crvS
              rw [if_pos hcand]
              exact v8.fr f9 (by decide) (by decide)
            · rw [(f9.1 57 5 (by simp)).1, (f8.1 57 5 (by simp)).1, (f6.1 57 5 (by decide)).1, (f5.1 57 5 (by simp)).1]; exact h57
      · have hout : ∀ y, y % 6 < c.1 → y / 6 < c.2.1 → spc x ≠ spc y := fun y h1 h2 e => by
          have := spc_inj e hx36 (by omega)
          rw [this] at hin; exact hin ⟨h1, h2⟩
        rw [hG.2 _ (spc_lt hx36) hout]
        refine ⟨fun _ => skip ?_, fun q => absurd q (m1_ne (by omega))⟩
        rw [es]; unfold crvS; rw [if_neg (fun z => hin z.1)]
    · rw [hG.2 _ hp64 (fun y h1 h2 => hno y (by omega))]
      refine ⟨fun _ => skip ?_, fun q => absurd q (m1_ne (by omega))⟩
      rw [n1]
end
