-- the book: alike
def lieF (d : Dat) (b : Nat) : Option Nat := if b < vB d ∧ vP d b < 36 then some (vP d b) else none
def txF (C h c : Nat) : Nat := if h % 2 = 1 then C - 1 - c % 6 else c % 6
def tyF (R h c : Nat) : Nat := if h / 2 % 2 = 1 then R - 1 - c / 6 else c / 6
def tnF (C R h c : Nat) : Nat := if h / 4 % 2 = 1 then 6 * txF C h c + tyF R h c else 6 * tyF R h c + txF C h c
def dimA (d e : Dat) (h : Nat) : Prop := if h / 4 % 2 = 1 then vC e = vR d ∧ vR e = vC d else vC e = vC d ∧ vR e = vR d
def alk (d e : Dat) (h : Nat) : Prop := dimA d e h ∧ (∀ c, c % 6 < vC d → c / 6 < vR d → vK e (tnF (vC d) (vR d) h c) = vK d c) ∧ ∀ b, b < 3 → lieF e b = (lieF d b).map (tnF (vC d) (vR d) h)
def clA (d e : Dat) (h : Nat) : Prop := dimA d e h ∧ ∀ c, c % 6 < vC d → c / 6 < vR d → vK d c = vK e (tnF (vC d) (vR d) h c) ∧ whoM (vP d) (vB d) c = whoM (vP e) (vB e) (tnF (vC d) (vR d) h c)
theorem txF_lt {C h c : Nat} (hx : c % 6 < C) : txF C h c < C := by unfold txF; split <;> omega
theorem tyF_lt {R h c : Nat} (hy : c / 6 < R) : tyF R h c < R := by unfold tyF; split <;> omega
theorem tnF_in {C R h c : Nat} (hC : C ≤ 6) (hR : R ≤ 6) (hx : c % 6 < C) (hy : c / 6 < R) : (h / 4 % 2 = 1 → tnF C R h c % 6 < R ∧ tnF C R h c / 6 < C) ∧ (¬ h / 4 % 2 = 1 → tnF C R h c % 6 < C ∧ tnF C R h c / 6 < R) := by
  have a := txF_lt (h := h) hx
  have b := tyF_lt (h := h) hy
  unfold tnF
  refine ⟨fun q => ?_, fun q => ?_⟩
  · rw [if_pos q]; omega
  · rw [if_neg q]; omega
theorem tnF_36 {C R h c : Nat} (hC : C ≤ 6) (hR : R ≤ 6) (hx : c % 6 < C) (hy : c / 6 < R) : tnF C R h c < 36 := by
  have a := txF_lt (h := h) hx
  have b := tyF_lt (h := h) hy
  unfold tnF
  split <;> omega
theorem txF_inj {C h c c' : Nat} (hx : c % 6 < C) (hx' : c' % 6 < C) (e : txF C h c = txF C h c') : c % 6 = c' % 6 := by
  unfold txF at e
  split at e <;> omega
theorem tyF_inj {R h c c' : Nat} (hx : c / 6 < R) (hx' : c' / 6 < R) (e : tyF R h c = tyF R h c') : c / 6 = c' / 6 := by
  unfold tyF at e
  split at e <;> omega
theorem tnF_inj {C R h c c' : Nat} (hC : C ≤ 6) (hR : R ≤ 6) (hx : c % 6 < C) (hy : c / 6 < R) (hx' : c' % 6 < C) (hy' : c' / 6 < R) (e : tnF C R h c = tnF C R h c') : c = c' := by
  have a := txF_lt (h := h) hx
  have b := tyF_lt (h := h) hy
  have a' := txF_lt (h := h) hx'
  have b' := tyF_lt (h := h) hy'
  have both : txF C h c = txF C h c' ∧ tyF R h c = tyF R h c' := by
    unfold tnF at e
    split at e <;> omega
  have e1 := txF_inj hx hx' both.1
  have e2 := tyF_inj hy hy' both.2
  omega
theorem tnF_sur {C R h c' : Nat} (hC : C ≤ 6) (hR : R ≤ 6) (h1 : h / 4 % 2 = 1 → c' % 6 < R ∧ c' / 6 < C) (h2 : ¬ h / 4 % 2 = 1 → c' % 6 < C ∧ c' / 6 < R) : ∃ c, c % 6 < C ∧ c / 6 < R ∧ tnF C R h c = c' := by
  obtain ⟨u, v, hu, hv, euv⟩ : ∃ u v, u < C ∧ v < R ∧ c' = (if h / 4 % 2 = 1 then 6 * u + v else 6 * v + u) := by
    by_cases q : h / 4 % 2 = 1
    · have := h1 q
      refine ⟨c' / 6, c' % 6, by omega, by omega, ?_⟩
      rw [if_pos q]; omega
    · have := h2 q
      refine ⟨c' % 6, c' / 6, by omega, by omega, ?_⟩
      rw [if_neg q]; omega
  refine ⟨6 * (if h / 2 % 2 = 1 then R - 1 - v else v) + (if h % 2 = 1 then C - 1 - u else u), ?_, ?_, ?_⟩
  · split <;> split <;> omega
  · split <;> split <;> omega
  · have ex : txF C h (6 * (if h / 2 % 2 = 1 then R - 1 - v else v) + (if h % 2 = 1 then C - 1 - u else u)) = u := by
      unfold txF
      by_cases q : h % 2 = 1
      · rw [if_pos q, if_pos q]
        split <;> omega
      · rw [if_neg q, if_neg q]
        split <;> omega
    have ey : tyF R h (6 * (if h / 2 % 2 = 1 then R - 1 - v else v) + (if h % 2 = 1 then C - 1 - u else u)) = v := by
      unfold tyF
      by_cases q : h / 2 % 2 = 1
      · rw [if_pos q, if_pos q]
        split <;> omega
      · rw [if_neg q, if_neg q]
        split <;> omega
    unfold tnF
    rw [ex, ey, euv]
/-- who lies there, by where each lies -/
theorem who_lie {nr : Nat} {d : Dat} (ho : OkD nr d) {c b : Nat} (hc : c < 36) (hb : b < 3) : whoM (vP d) (vB d) c = nI b ↔ lieF d b = some c := by
  have ds := ho.2.2.2.1
  have ne : ∀ i j, i < 3 → j < 3 → i ≠ j → i < vB d ∧ vP d i = c → ¬ (j < vB d ∧ vP d j = c) := fun i j hi hj hij h1 h2 => ds i j hi hj hij (by rw [h1.2]; exact hc) (h1.2.trans h2.2.symm)
  have lf : lieF d b = some c ↔ b < vB d ∧ vP d b = c := by
    unfold lieF
    constructor
    · intro q
      split at q
      · rename_i z; exact ⟨z.1, Option.some.inj q⟩
      · cases q
    · intro q
      rw [if_pos ⟨q.1, by rw [q.2]; exact hc⟩, q.2]
  rw [lf]
  unfold whoM
  rcases (show b = 0 ∨ b = 1 ∨ b = 2 by omega) with rfl | rfl | rfl
  · constructor
    · intro q
      by_cases z0 : 0 < vB d ∧ vP d 0 = c
      · exact z0
      · rw [if_neg z0] at q
        split at q
        · exact absurd q (by decide)
        · split at q <;> exact absurd q (by decide)
    · intro q; rw [if_pos q]; rfl
  · constructor
    · intro q
      by_cases z0 : 0 < vB d ∧ vP d 0 = c
      · rw [if_pos z0] at q; exact absurd q (by decide)
      · rw [if_neg z0] at q
        by_cases z1 : 1 < vB d ∧ vP d 1 = c
        · exact z1
        · rw [if_neg z1] at q
          split at q <;> exact absurd q (by decide)
    · intro q; rw [if_neg (ne 1 0 (by decide) (by decide) (by decide) q), if_pos q]; rfl
  · constructor
    · intro q
      by_cases z0 : 0 < vB d ∧ vP d 0 = c
      · rw [if_pos z0] at q; exact absurd q (by decide)
      · rw [if_neg z0] at q
        by_cases z1 : 1 < vB d ∧ vP d 1 = c
        · rw [if_pos z1] at q; exact absurd q (by decide)
        · rw [if_neg z1] at q
          by_cases z2 : 2 < vB d ∧ vP d 2 = c
          · exact z2
          · rw [if_neg z2] at q; exact absurd q (by decide)
    · intro q; rw [if_neg (ne 2 0 (by decide) (by decide) (by decide) q), if_neg (ne 2 1 (by decide) (by decide) (by decide) q), if_pos q]; rfl
theorem who_dom (P : Nat → Nat) (B c : Nat) : whoM P B c = -1 ∨ ∃ b, b < 3 ∧ whoM P B c = nI b := by
  unfold whoM
  split
  · exact Or.inr ⟨0, by decide, rfl⟩
  · split
    · exact Or.inr ⟨1, by decide, rfl⟩
    · split
      · exact Or.inr ⟨2, by decide, rfl⟩
      · exact Or.inl rfl
theorem lieF_in {nr : Nat} {d : Dat} (ho : OkD nr d) {b c : Nat} (h : lieF d b = some c) : c < 36 ∧ c % 6 < vC d ∧ c / 6 < vR d := by
  unfold lieF at h
  split at h
  · rename_i z
    have e := Option.some.inj h
    have := (ho.2.2.1.1.2 b).2 z.2
    rw [← e]; exact ⟨z.2, this⟩
  · cases h
theorem alk_cl {nr nr' : Nat} {d e : Dat} (ho : OkD nr d) (he : OkD nr' e) {h : Nat} : clA d e h ↔ alk d e h := by
  have hC := ho.1.1
  have hR := ho.1.2.1
  constructor
  · rintro ⟨hd, hc⟩
    refine ⟨hd, fun c hx hy => (hc c hx hy).1.symm, fun b hb => ?_⟩
    have back : ∀ c', lieF e b = some c' → ∃ c, lieF d b = some c ∧ tnF (vC d) (vR d) h c = c' := by
      intro c' q
      obtain ⟨i1, i2, i3⟩ := lieF_in he q
      obtain ⟨c, cx, cy, ec⟩ : ∃ c, c % 6 < vC d ∧ c / 6 < vR d ∧ tnF (vC d) (vR d) h c = c' := by
        refine tnF_sur hC hR (fun z => ?_) (fun z => ?_)
        · unfold dimA at hd; rw [if_pos z] at hd; omega
        · unfold dimA at hd; rw [if_neg z] at hd; omega
      refine ⟨c, ?_, ec⟩
      rw [← who_lie ho (by omega) hb, (hc c cx cy).2, who_lie he (by rw [ec]; exact i1) hb, ec]
      exact q
    cases q : lieF d b with
    | some c =>
      obtain ⟨i1, i2, i3⟩ := lieF_in ho q
      show lieF e b = some (tnF (vC d) (vR d) h c)
      rw [← who_lie he (tnF_36 hC hR i2 i3) hb, ← (hc c i2 i3).2, who_lie ho i1 hb]
      exact q
    | none =>
      show lieF e b = none
      cases q2 : lieF e b with
      | none => rfl
      | some c' =>
        obtain ⟨c, e1, -⟩ := back c' q2
        rw [q] at e1; cases e1
  · rintro ⟨hd, hk, hl⟩
    refine ⟨hd, fun c hx hy => ⟨(hk c hx hy).symm, ?_⟩⟩
    have iff : ∀ b, b < 3 → (whoM (vP d) (vB d) c = nI b ↔ whoM (vP e) (vB e) (tnF (vC d) (vR d) h c) = nI b) := by
      intro b hb
      rw [who_lie ho (by omega) hb, who_lie he (tnF_36 hC hR hx hy) hb, hl b hb]
      constructor
      · intro q; rw [q]; rfl
      · intro q
        cases q2 : lieF d b with
        | none => rw [q2] at q; cases q
        | some c2 =>
          rw [q2] at q
          obtain ⟨i1, i2, i3⟩ := lieF_in ho q2
          rw [tnF_inj hC hR i2 i3 hx hy (Option.some.inj q)]
    rcases who_dom (vP d) (vB d) c with q | ⟨b, hb, q⟩
    · rcases who_dom (vP e) (vB e) (tnF (vC d) (vR d) h c) with q2 | ⟨b, hb, q2⟩
      · rw [q, q2]
      · rw [(iff b hb).mpr q2, q2]
    · rw [q, (iff b hb).mp q]
theorem hb1 {h : Nat} (hh : h < 8) : ((nI h &&& 1) = 0 ↔ ¬ h % 2 = 1) ∧ ((nI h &&& 1) = 1 ↔ h % 2 = 1) := by
  rcases (show h = 0 ∨ h = 1 ∨ h = 2 ∨ h = 3 ∨ h = 4 ∨ h = 5 ∨ h = 6 ∨ h = 7 by omega) with rfl | rfl | rfl | rfl | rfl | rfl | rfl | rfl <;> decide
theorem hb2 {h : Nat} (hh : h < 8) : ((nI h &&& 2) = 0 ↔ ¬ h / 2 % 2 = 1) ∧ ((nI h &&& 2) = 2 ↔ h / 2 % 2 = 1) := by
  rcases (show h = 0 ∨ h = 1 ∨ h = 2 ∨ h = 3 ∨ h = 4 ∨ h = 5 ∨ h = 6 ∨ h = 7 by omega) with rfl | rfl | rfl | rfl | rfl | rfl | rfl | rfl <;> decide
theorem hb4 {h : Nat} (hh : h < 8) : ((nI h &&& 4) = 0 ↔ ¬ h / 4 % 2 = 1) ∧ ((nI h &&& 4) = 4 ↔ h / 4 % 2 = 1) := by
  rcases (show h = 0 ∨ h = 1 ∨ h = 2 ∨ h = 3 ∨ h = 4 ∨ h = 5 ∨ h = 6 ∨ h = 7 by omega) with rfl | rfl | rfl | rfl | rfl | rfl | rfl | rfl <;> decide
theorem sub2 {a b : Nat} (h : b < a) : nI a - 1 - nI b = nI (a - 1 - b) := by
  rw [nI_m1 (by omega), pk_sub (by omega)]
-- the reference
section
variable {g : Gx} {σ : St} {d e : Dat} {nr : Nat}
theorem k_BM_turned {Q : Int32 → St → Prop} {c h : Nat} (hs : CurM σ d) (ho : OkD nr d) (hh : h < 8) (hx : c % 6 < vC d) (hy : c / 6 < vR d) (hQ : Q (nI (tnF (vC d) (vR d) h c)) σ) : K_BM_turned g (nI c) (nI h) σ Q := by
  have hC := ho.1.1
  have hR := ho.1.2.1
  have c31 : c < 2 ^ 31 := by omega
  have a := txF_lt (h := h) hx
  have b := tyF_lt (h := h) hy
  have e1 : S_BM_turned_49 g Q σ (nI h) (nI (txF (vC d) h c)) (nI (tyF (vR d) h c)) := by
    refine sg_BM_turned_49 ⟨fun q => ?_, fun q => ?_⟩
    · rw [(hb4 hh).2] at q
      unfold tnF at hQ
      rw [if_neg q] at hQ
      show Q (nI 6 * nI (tyF (vR d) h c) + nI (txF (vC d) h c)) σ
      rw [pk_mul, nI_add]; exact hQ
    · rw [(hb4 hh).2] at q
      unfold tnF at hQ
      rw [if_pos q] at hQ
      show Q (nI 6 * nI (txF (vC d) h c) + nI (tyF (vR d) h c)) σ
      rw [pk_mul, nI_add]; exact hQ
  have e2 : S_BM_turned_29 g Q σ (nI h) (nI (txF (vC d) h c)) (nI (c / 6)) := by
    refine sg_BM_turned_29 ⟨fun q => ?_, fun q => ⟨pk_in 1 8 (by decide), ?_⟩⟩
    · rw [(hb2 hh).2] at q
      have : tyF (vR d) h c = c / 6 := if_neg q
      rw [this] at e1; exact e1
    · rintro u rfl
      rw [(hb2 hh).2] at q
      have : tyF (vR d) h c = vR d - 1 - c / 6 := if_pos q
      rw [this] at e1
      rw [cl1, hs.1.2.1, sub2 hy]; exact e1
  refine ko_BM_turned (sg_BM_turned_0 ?_)
  rintro u1 rfl u2 rfl
  rw [rem6 c31, div6 c31]
  refine ⟨fun q => ?_, fun q => ⟨pk_in 0 8 (by decide), ?_⟩⟩
  · rw [(hb1 hh).2] at q
    have : txF (vC d) h c = c % 6 := if_neg q
    rw [this] at e2; exact e2
  · rintro u rfl
    rw [(hb1 hh).2] at q
    have : txF (vC d) h c = vC d - 1 - c % 6 := if_pos q
    rw [this] at e2
    rw [cl0, hs.1.1, sub2 hx]; exact e2
theorem k_BM_lies {Q : Int32 → St → Prop} {b : Nat} (hs : CurM σ d) (ho : OkD nr d) (hb : b < 3) (hQ : Q (oI (lieF d b)) σ) : K_BM_lies g (nI b) σ Q := by
  have hB := ho.1.2.2.1
  refine ko_BM_lies (sg_BM_lies_0 ⟨pk_in 2 8 (by decide), ?_⟩)
  rw [cl2, hs.1.2.2.1]
  refine pk_le (vB d) b (fun q => ?_) (fun q => ⟨vp_in_nI hb (by decide), ?_⟩)
  · have : lieF d b = none := if_neg (fun z => by omega)
    rw [this] at hQ; exact hQ
  · have p38 := (ho.2.2.1.1.2 b).1
    rw [nI_clamp (by omega), hs.2.2.1 b q]
    refine pk_le 36 (vP d b) (fun q2 => ?_) (fun q2 => ⟨vp_in_nI hb (by decide), ?_⟩)
    · have : lieF d b = none := if_neg (fun z => by omega)
      rw [this] at hQ; exact hQ
    · have : lieF d b = some (vP d b) := if_pos ⟨q, q2⟩
      rw [this] at hQ
      exact hQ
/-- the page k of the reference -/
def PgM (σ : St) (k : Nat) (e : Dat) : Prop := ai σ 192 k = nI (vC e) ∧ ai σ 193 k = nI (vR e) ∧ (∀ c, c < 36 → ai σ 194 (36 * k + c) = nI (vK e c)) ∧ ∀ b, b < 3 → ai σ 195 (3 * k + b) = oI (lieF e b)
theorem oI_inj {a b : Option Nat} (ha : ∀ c, a = some c → c < 36) (hb : ∀ c, b = some c → c < 36) : oI a = oI b ↔ a = b := by
  constructor
  · intro q
    cases a with
    | none =>
      cases b with
      | none => rfl
      | some y => exact absurd q (m1_ne (by have := hb y rfl; omega))
    | some x =>
      cases b with
      | none => exact absurd q.symm (m1_ne (by have := ha x rfl; omega))
      | some y =>
        have := (nI_eq (by have := ha x rfl; omega) (by have := hb y rfl; omega)).mp q
        rw [this]
  · intro q; rw [q]
theorem k_BM_isAlike {Q : Int32 → St → Prop} {k h : Nat} (hs : CurM σ d) (ho : OkD nr d) (he : OkD nr e) (hp : PgM σ k e) (hk : k < 8) (hh : h < 8) (h1 : alk d e h → Q 1 σ) (h0 : ¬ alk d e h → Q 0 σ) : K_BM_isAlike g (nI k) (nI h) σ Q := by
  have hC := ho.1.1
  have hR := ho.1.2.1
  have hd : Dim σ (vC d) (vR d) (vB d) := ⟨hs.1.1, hs.1.2.1, hs.1.2.2.1, ho.1.1, ho.1.2.1, ho.1.2.2.1⟩
  have bad : ∀ i, ¬ alk d e h → S_BM_isAlike_133 g Q σ (nI k) (nI h) 0 (nI i) := by
    intro i hn
    refine sg_BM_isAlike_133 ⟨fun _ => ⟨Or.inl rfl, h0 hn⟩, fun _ => ⟨fun _ => ⟨Or.inl rfl, h0 hn⟩, fun z => absurd rfl z⟩⟩
  have bad2 : ∀ i, i < 2 ^ 31 → ¬ alk d e h → S_BM_isAlike_69 g Q σ (nI k) (nI h) 0 (nI i) := by
    intro i hi hn
    exact sg_BM_isAlike_69 ⟨fun _ => bad 0 hn, fun _ => ⟨fun _ => bad 0 hn, fun z => absurd rfl z⟩⟩
  -- the balls
  have balls : ∀ (m i : Nat), i + m = 3 → dimA d e h → (∀ c, c % 6 < vC d → c / 6 < vR d → vK e (tnF (vC d) (vR d) h c) = vK d c) → (∀ b, b < i → lieF e b = (lieF d b).map (tnF (vC d) (vR d) h)) → S_BM_isAlike_133 g Q σ (nI k) (nI h) 1 (nI i) := by
    intro m
    induction m with
    | zero =>
      intro i hi a1 a2 a3
      have e3 : i = 3 := by omega
      subst e3
      exact sg_BM_isAlike_133 ⟨fun _ => ⟨Or.inr rfl, h1 ⟨a1, a2, a3⟩⟩, fun z => absurd (by decide) z⟩
    | succ m ih =>
      intro i hi a1 a2 a3
      have t36 : ∀ c, (lieF d i).map (tnF (vC d) (vR d) h) = some c → c < 36 := by
        intro c q
        cases q2 : lieF d i with
        | none => rw [q2] at q; cases q
        | some x =>
          rw [q2] at q
          obtain ⟨-, i2, i3⟩ := lieF_in ho q2
          rw [← Option.some.inj q]; exact tnF_36 hC hR i2 i3
      have fin : S_BM_isAlike_169 g Q σ (nI k) (nI h) (nI i) (oI ((lieF d i).map (tnF (vC d) (vR d) h))) := by
        refine sg_BM_isAlike_169 ?_
        have e3 : (3 : Int32) * nI k + nI i = nI (3 * k + i) := by
          show nI 3 * nI k + nI i = _
          rw [pk_mul, nI_add]
        rw [e3, nI_clamp (by omega), hp.2.2.2 i (by omega), oI_inj (fun c q => (lieF_in he q).1) t36]
        refine ⟨vp_in_nI (by omega) (by decide), fun q => ?_, fun q => ?_⟩
        · rintro u rfl
          rw [nI_1]
          exact bad (i + 1) (fun z => q (z.2.2 i (by omega)))
        · rintro u rfl
          rw [nI_1]
          refine ih (i + 1) (by omega) a1 a2 (fun b hb => ?_)
          by_cases eb : b = i
          · rw [eb]; exact q
          · exact a3 b (by omega)
      refine sg_BM_isAlike_133 ⟨fun z => absurd z (nI_ge (b := 3) (by omega) (by decide)), fun _ => ⟨fun z => absurd z (by decide), fun _ => k_BM_lies hs ho (by omega) ?_⟩⟩
      cases q2 : lieF d i with
      | none =>
        rw [q2] at fin
        exact ⟨fun z => absurd rfl z, fun _ => fin⟩
      | some x =>
        rw [q2] at fin
        obtain ⟨i1, i2, i3⟩ := lieF_in ho q2
        refine ⟨fun _ => k_BM_lies hs ho (by omega) ?_, fun z => absurd z.symm (m1_ne (by omega))⟩
        rw [q2]
        exact k_BM_turned hs ho hh i2 i3 fin
  -- the cells
  have cells : ∀ (m i : Nat), i + m = 36 → dimA d e h → (∀ c, c < i → c % 6 < vC d → c / 6 < vR d → vK e (tnF (vC d) (vR d) h c) = vK d c) → S_BM_isAlike_69 g Q σ (nI k) (nI h) 1 (nI i) := by
    intro m
    induction m with
    | zero =>
      intro i hi a1 a2
      have e3 : i = 36 := by omega
      subst e3
      exact sg_BM_isAlike_69 ⟨fun _ => balls 3 0 rfl a1 (fun c hx hy => a2 c (by omega) hx hy) (fun b hb => absurd hb (Nat.not_lt_zero _)), fun z => absurd (by decide) z⟩
    | succ m ih =>
      intro i hi a1 a2
      refine sg_BM_isAlike_69 ⟨fun z => absurd z (nI_ge (b := 36) (by omega) (by decide)), fun _ => ⟨fun z => absurd z (by decide), fun _ => k_BM_isThere hd (by omega) ?_⟩⟩
      by_cases ins : i % 6 < vC d ∧ i / 6 < vR d
      · rw [if_pos ins]
        refine ⟨fun z => absurd z (by decide), fun _ => k_BM_turned hs ho hh ins.1 ins.2 ?_⟩
        have t36 := tnF_36 (h := h) hC hR ins.1 ins.2
        have e3 : (36 : Int32) * nI k + nI (tnF (vC d) (vR d) h i) = nI (36 * k + tnF (vC d) (vR d) h i) := by
          show nI 36 * nI k + nI _ = _
          rw [pk_mul, nI_add]
        have k4 := he.2.1 _ t36
        have k4' := ho.2.1 i (by omega)
        rw [e3, nI_clamp (by omega), nI_clamp (by omega), hp.2.2.1 _ t36, hs.2.1 i (by omega), nI_eq (by omega) (by omega)]
        refine ⟨vp_in_nI (by omega) (by decide), vp_in_nI (by omega) (by decide), fun q => ?_, fun q => ?_⟩
        · rintro u rfl
          rw [nI_1]
          exact bad2 (i + 1) (by omega) (fun z => q (z.2.1 i ins.1 ins.2))
        · rintro u rfl
          rw [nI_1]
          refine ih (i + 1) (by omega) a1 (fun c hc hx hy => ?_)
          by_cases eb : c = i
          · rw [eb]; exact q
          · exact a2 c (by omega) hx hy
      · rw [if_neg ins]
        refine ⟨fun _ => ?_, fun z => absurd rfl z⟩
        rintro u rfl
        rw [nI_1]
        refine ih (i + 1) (by omega) a1 (fun c hc hx hy => ?_)
        by_cases eb : c = i
        · rw [eb] at hx hy; exact absurd ⟨hx, hy⟩ ins
        · exact a2 c (by omega) hx hy
  have eC := he.1.1
  have eR := he.1.2.1
  have start : dimA d e h → S_BM_isAlike_69 g Q σ (nI k) (nI h) 1 0 := fun a1 => cells 36 0 rfl a1 (fun c hc => absurd hc (Nat.not_lt_zero _))
  have nostart : ¬ dimA d e h → S_BM_isAlike_69 g Q σ (nI k) (nI h) 0 0 := fun a1 => bad2 0 (by decide) (fun z => a1 z.1)
  refine ko_BM_isAlike (sg_BM_isAlike_0 ⟨fun q => ⟨vp_in_nI hk (by decide), ?_⟩, fun q => ⟨vp_in_nI hk (by decide), ?_⟩⟩)
  · rw [(hb4 hh).2] at q
    have dd : dimA d e h ↔ vC e = vC d ∧ vR e = vR d := by unfold dimA; rw [if_neg q]
    refine sg_BM_isAlike_32 ⟨pk_in 0 8 (by decide), ?_⟩
    rw [nI_clamp (by omega), cl0, cl1, hp.1, hp.2.1, hs.1.1, hs.1.2.1, nI_eq (by omega) (by omega), nI_eq (by omega) (by omega)]
    refine ⟨fun z => nostart (fun w => z (dd.mp w).1), fun z => ⟨vp_in_nI hk (by decide), fun _ => ⟨pk_in 1 8 (by decide), fun z2 => nostart (fun w => z2 (dd.mp w).2), fun z2 => start (dd.mpr ⟨z, z2⟩)⟩, fun w => absurd rfl w⟩⟩
  · rw [(hb4 hh).2] at q
    have dd : dimA d e h ↔ vC e = vR d ∧ vR e = vC d := by unfold dimA; rw [if_pos q]
    refine sg_BM_isAlike_32 ⟨pk_in 1 8 (by decide), ?_⟩
    rw [nI_clamp (by omega), cl0, cl1, hp.1, hp.2.1, hs.1.1, hs.1.2.1, nI_eq (by omega) (by omega), nI_eq (by omega) (by omega), nI_eq (by omega) (by omega)]
    refine ⟨fun z => nostart (fun w => z (dd.mp w).1), fun z => ⟨vp_in_nI hk (by decide), fun w => absurd w (by decide), fun _ => ⟨pk_in 0 8 (by decide), fun z2 => nostart (fun w => z2 (dd.mp w).2), fun z2 => start (dd.mpr ⟨z, z2⟩)⟩⟩⟩
end
