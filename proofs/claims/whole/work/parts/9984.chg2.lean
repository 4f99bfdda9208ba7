-- image, book, rule, joint
theorem ni11 {t : Nat} {q : Nat × Nat} (h : q.1 ≠ t) : q ∉ [(t, 0), (t, 1), (t, 2), (t, 3), (t, 4), (t, 5), (t, 6), (t, 7), (t, 8), (t, 9), (t, 10)] := by
  intro z
  simp only [List.mem_cons, List.not_mem_nil, or_false] at z
  rcases z with z | z | z | z | z | z | z | z | z | z | z <;> exact h (by rw [z])
theorem ni10 {t : Nat} {q : Nat × Nat} (h : q.1 ≠ t) : q ∉ [(t, 1), (t, 2), (t, 3), (t, 4), (t, 5), (t, 6), (t, 7), (t, 8), (t, 9), (t, 10)] := by
  intro z
  simp only [List.mem_cons, List.not_mem_nil, or_false] at z
  rcases z with z | z | z | z | z | z | z | z | z | z <;> exact h (by rw [z])
theorem ni3 {t : Nat} {q : Nat × Nat} (h : q.1 ≠ t) : q ∉ [(t, 4), (t, 5), (t, 6)] := by
  intro z
  simp only [List.mem_cons, List.not_mem_nil, or_false] at z
  rcases z with z | z | z <;> exact h (by rw [z])
theorem nr4 {t q : Nat} (h : q < t + 1 ∨ t + 4 < q) : q ∉ [t + 1, t + 2, t + 3, t + 4] := by
  intro z
  simp only [List.mem_cons, List.not_mem_nil, or_false] at z
  omega
theorem nr3 {t q : Nat} (h : q < t + 1 ∨ t + 3 < q) : q ∉ [t + 1, t + 2, t + 3] := by
  intro z
  simp only [List.mem_cons, List.not_mem_nil, or_false] at z
  omega
theorem niA {α : Type} {q : α} {A B : List α} (h1 : q ∉ A) (h2 : q ∉ B) : q ∉ A ++ B := fun z => (List.mem_append.mp z).elim h1 h2
theorem v83 : ∀ q ∈ pf83, q.1 = 83 := by decide +kernel
theorem vRu : ∀ q ∈ pfRu, q.1 < 48 := by decide +kernel
theorem vPg : ∀ q ∈ pfPg, q.1 = 0 ∨ 111 ≤ q.1 := by decide +kernel
theorem vIm : ∀ q ∈ pfIm, 91 ≤ q.1 ∧ q.1 < 107 := by decide +kernel
theorem vCc : ∀ q ∈ pfS ++ pfC ++ pfL ++ pfP, 50 < q.1 ∧ q.1 < 80 := by decide +kernel
theorem w83 : ∀ q ∈ pr83, 83 < q ∧ q < 88 := by decide +kernel
theorem wRu : ∀ q ∈ prRu, q < 51 := by decide +kernel
theorem wPg : ∀ q ∈ prPg, q = 90 ∨ 111 < q := by decide +kernel
theorem wIm : ∀ q ∈ prIm, 91 < q ∧ q < 111 := by decide +kernel
theorem wCc : ∀ q ∈ prS ++ prC ++ prL ++ prP, 52 < q ∧ q < 82 := by decide +kernel
theorem vM : ∀ q ∈ (151, 44) :: pfM, q.1 = 151 := by decide +kernel
theorem wM : ∀ q ∈ 153 :: 154 :: 175 :: prM, 151 < q := by decide +kernel
theorem OkD.up {nr nr' : Nat} {d : Dat} (h : OkD nr d) (hn : nr ≤ nr') : OkD nr' d := by
  obtain ⟨o1, o2, o3, o4, o5, o6, o7, o8, o9, o10⟩ := h
  exact ⟨o1, o2, o3, o4, o5, o6, o7, o8, o9, fun i hi => Nat.lt_of_lt_of_le (o10 i hi) hn⟩
theorem cfg_up {nr : Nat} {d : Dat} {Ru : Nat → RuleT} {r : RuleT} (h : OkD nr d) : cfg (upR Ru nr r) d = cfg Ru d := by
  have e : (vf d).map (upR Ru nr r) = (vf d).map Ru := by
    cases hq : vf d with
    | none => rfl
    | some i =>
      have := h.2.2.2.2.2.2.2.2.2 i hq
      show some (upR Ru nr r i) = some (Ru i)
      unfold upR
      rw [if_neg (by omega)]
  unfold cfg
  rw [e]
section
variable {g : Gx} {σ : St} {N : Nat}
theorem op_imageR {Q : Int32 → Int32 → St → Prop} {x : Int32} (hN : N ≤ 600) (hR : Rel N σ) (hQ : ∀ r τ, Rel (N + 1) τ → Q r r τ) : K_BB_image g x σ (fun r1 s1 => K_BM_image g x s1 (fun r2 s2 => Q r1 r2 s2)) := by
  obtain ⟨X, ch, mp, mk, rc, rm, ok, b1, b2, b3⟩ := hR
  have stay : Rel (N + 1) σ := ⟨X, ch, mp, mk, rc, rm, ok, by omega, by omega, by omega⟩
  refine kB_image rc.1.1 ok.1 (fun c => ?_) (fun k t hk et e τ hf h1 cs => ?_)
  · exact kM_image rm.1 ok.1 (fun _ => hQ _ _ stay) (fun k hk e υ hf2 _ _ _ => (c k hk e).elim)
  · have rm1 : RM τ X mk := rm_fr rm hf (fun q hq => ni11 (by have := vM q hq; omega)) (fun q hq => nr4 (by have := wM q hq; omega))
    have X1 : GX := X
    have rcb : ClsS 83 τ (xd X) ∧ RulC τ (xn X) (xR X) ∧ PgC τ (xb X) (xE X) (xp X) ∧ ImC τ (fun j => j = k ∨ xI X j) (fun j => if j = k then xd X else xD X j) ∧ TxC τ (xL X) (xT X) := by
      refine ⟨fr83 rc.1.1 hf (fun q hq => ni11 (by have := v83 q hq; omega)) (fun q hq => nr4 (by have := w83 q hq; omega)), frRu rc.1.2.1 hf (fun q hq => ni11 (by have := vRu q hq; omega)) (fun q hq => nr4 (by have := wRu q hq; omega)), frPg rc.1.2.2.1 hf (fun q hq => ni11 (by have := vPg q hq; omega)) (fun q hq => nr4 (by have := wPg q hq; omega)), fun j hj => ?_, rc.1.2.2.2.2.frm hf (ni11 (by show 1 ≠ t; omega)) (nr4 (by omega))⟩
      by_cases ej : j = k
      · subst ej
        have ht : 91 + 5 * j = t := et.symm
        show (fi τ (91 + 5 * j) 0 ≠ 0 ↔ j = j ∨ xI X j) ∧ (j = j ∨ xI X j → ClsS (91 + 5 * j) τ (if j = j then xd X else xD X j))
        rw [ht, if_pos rfl, h1]
        exact ⟨⟨fun _ => Or.inl rfl, fun _ => by decide⟩, fun _ => cs⟩
      · show (fi τ (91 + 5 * j) 0 ≠ 0 ↔ j = k ∨ xI X j) ∧ (j = k ∨ xI X j → ClsS (91 + 5 * j) τ (if j = k then xd X else xD X j))
        rw [if_neg ej]
        obtain ⟨i1, i2⟩ := rc.1.2.2.2.1 j hj
        have hne : 91 + 5 * j ≠ t := by omega
        rw [(hf.1 (91 + 5 * j) 0 (ni11 hne)).1]
        exact ⟨⟨fun z => Or.inr (i1.mp z), fun z => i1.mpr (z.resolve_left ej)⟩, fun z => clsS_fr (i2 (z.resolve_left ej)) hf (fun i hi => ni11 hne) (fun i hi => nr4 (by omega))⟩
    have cch1 := cch_fr rc.2 hf (ni11 (by show 0 ≠ t; omega)) (fun q hq => ni11 (by have := vCc q hq; omega)) (fun q hq => nr4 (by have := wCc q hq; omega))
    refine kM_image rm1.1 ok.1 (fun c => (c k hk e).elim) (fun k' hk' e' υ hf2 h198 hI hoth => ?_)
    have a1 := rg_eq (by omega) (by omega) e e'
    subst a1
    have rc1 : RC τ (xd X, xn X, xR X, xb X, xE X, (fun j => j = k' ∨ xI X j), (fun j => if j = k' then xd X else xD X j), xL X, xT X, xp X) ch mp := ⟨rcb, cch1⟩
    refine hQ _ _ ⟨_, ch, mp, mk, rc_fr rc1 hf2 (by decide +kernel) (by decide +kernel), ?_, ⟨ok.1, ok.2.1, fun j hj z => ?_⟩, by omega, by omega, by omega⟩
    · obtain ⟨m1, m2, ⟨m3, m4⟩, m5, m6, m7, m8⟩ := rm1
      refine ⟨cur_fr m1 hf2 (by decide) (by decide) (by decide) (by decide) (by decide) (by rw [(hf2.2 153 (by decide)).1]; exact m1.2.1) (by rw [(hf2.2 154 (by decide)).1]; exact m1.2.2.1), m2.fr hf2 (by decide) (by decide) (by decide) (by decide) (by decide) (by decide) (by decide), ⟨by rw [(hf2.1 151 66 (by decide)).1]; exact m3, fun j hj => ?_⟩, fun j hj => ?_, m6.frm hf2 (by decide) (by decide), mrk_fr m7 hf2 (by decide) (by decide), by rw [(hf2.1 151 20 (by decide)).1]; exact m8⟩
      · have := m4 j hj
        unfold PgM at this ⊢
        rw [(hf2.2 192 (by decide)).1, (hf2.2 193 (by decide)).1, (hf2.2 194 (by decide)).1, (hf2.2 195 (by decide)).1, (hf2.2 196 (by decide)).1]
        exact this
      · show (ai υ 198 j ≠ 0 ↔ j = k' ∨ xI X j) ∧ (j = k' ∨ xI X j → ImM υ j (if j = k' then xd X else xD X j))
        rw [h198]
        by_cases ej : j = k'
        · rw [if_pos ej, if_pos ej, ej]
          exact ⟨⟨fun _ => Or.inl rfl, fun _ => by decide⟩, fun _ => hI⟩
        · rw [if_neg ej, if_neg ej]
          obtain ⟨i1, i2⟩ := m5 j hj
          exact ⟨⟨fun z => Or.inr (i1.mp z), fun z => i1.mpr (z.resolve_left ej)⟩, fun z => hoth j hj ej _ _ (ok.2.2 j hj (z.resolve_left ej)) (i2 (z.resolve_left ej))⟩
    · show OkD (xn X) (if j = k' then xd X else xD X j)
      by_cases ej : j = k'
      · rw [if_pos ej]; exact ok.1
      · rw [if_neg ej]
        have z : j = k' ∨ xI X j := z
        exact ok.2.2 j hj (z.resolve_left ej)
theorem op_bookR {Q : Int32 → Int32 → St → Prop} (hN : N ≤ 600) (hR : Rel N σ) (hQ : ∀ r τ, Rel (N + 1) τ → Q r r τ) : K_BB_book g σ (fun r1 s1 => K_BM_book g s1 (fun r2 s2 => Q r1 r2 s2)) := by
  obtain ⟨X, ch, mp, mk, rc, rm, ok, b1, b2, b3⟩ := hR
  have stay : Rel (N + 1) σ := ⟨X, ch, mp, mk, rc, rm, ok, by omega, by omega, by omega⟩
  have h8 := rc.1.2.2.1.2.1
  have hEc : ∀ k, k < xb X → ClsS (111 + 5 * k) σ (xE X k) ∧ OkD (xn X) (xE X k) := fun k hk => ⟨(rc.1.2.2.1.2.2 k hk).1, ok.2.1 k hk⟩
  have hEm : ∀ {τ : St}, RM τ X mk → ∀ k, k < xb X → PgM τ k (xE X k) ∧ OkD (xn X) (xE X k) := fun h k hk => ⟨(h.2.2.1.2 k hk).1, ok.2.1 k hk⟩
  refine kB_book h8 rc.1.2.2.1.1 rc.1.1 ok.1 rc.1.2.1 rc.2.2.1.1 hEc (fun c => ?_) (fun c c2 => ?_) (fun hC hn hno τ t et hf hca has cs h13 h90 => ?_)
  · exact kM_book h8 rm.2.2.1.1 rm.1 ok.1 rm.2.1 rm.2.2.2.2.2.1 (by omega) (hEm rm) (fun _ => hQ _ _ stay) (fun d => absurd c d) (fun d => absurd c d)
  · exact kM_book h8 rm.2.2.1.1 rm.1 ok.1 rm.2.1 rm.2.2.2.2.2.1 (by omega) (hEm rm) (fun d => absurd d c) (fun _ _ => hQ _ _ stay) (fun _ d1 d2 => (c2.elim (fun z => by omega) (fun z => d2 z)).elim)
  · have fF : ∀ q : Nat × Nat, q ∉ [(0, 13), (52, 4), (52, 5), (52, 6), (52, 7), (17, 4), (17, 6), (17, 7)] → q.1 ≠ t → q ∉ [(0, 13), (52, 4), (52, 5), (52, 6), (52, 7), (17, 4), (17, 6), (17, 7), (t, 1), (t, 2), (t, 3), (t, 4), (t, 5), (t, 6), (t, 7), (t, 8), (t, 9), (t, 10)] := fun q h1 h2 => niA (A := [(0, 13), (52, 4), (52, 5), (52, 6), (52, 7), (17, 4), (17, 6), (17, 7)]) h1 (ni10 h2)
    have fM : ∀ q : Nat, q ∉ [90, 53, 54, 55, 19, 20, 21, 26, 31, 36, 41, 46, 51] → (q < t + 1 ∨ t + 4 < q) → q ∉ [90, 53, 54, 55, 19, 20, 21, 26, 31, 36, 41, 46, 51, t + 1, t + 2, t + 3, t + 4] := fun q h1 h2 => niA (A := [90, 53, 54, 55, 19, 20, 21, 26, 31, 36, 41, 46, 51]) h1 (nr4 h2)
    have rm1 : RM τ X mk := rm_fr rm hf (fun q hq => fF q (by revert q; decide +kernel) (by have := vM q hq; omega)) (fun q hq => by
      have w := wM q hq
      by_cases hq2 : q < t + 1 ∨ t + 4 < q
      · exact fM q (by clear hq2 w; revert q; decide +kernel) hq2
      · omega)
    have pg : PgC τ (xb X + 1) (fun k => if k = xb X then xd X else xE X k) (fun k => if k = xb X then finV (cfg (xR X) (xd X)) (vP (xd X)) else xp X k) := by
      refine ⟨h13, by omega, fun k hk => ?_⟩
      show ClsS (111 + 5 * k) τ (if k = xb X then xd X else xE X k) ∧ ai τ 90 k = if k = xb X then finV (cfg (xR X) (xd X)) (vP (xd X)) else xp X k
      rw [h90]
      by_cases ek : k = xb X
      · rw [if_pos ek, if_pos ek, if_pos ek, ek, ← et]
        exact ⟨cs, rfl⟩
      · rw [if_neg ek, if_neg ek, if_neg ek]
        obtain ⟨p1, p2⟩ := rc.1.2.2.1.2.2 k (by omega)
        refine ⟨clsS_fr p1 hf (fun j hj => fF _ ?_ (by show 111 + 5 * k ≠ t; omega)) (fun j hj => fM _ ?_ (by omega)), p2⟩
        · simp; omega
        · simp; omega
    have rcb : ClsS 83 τ (xd X) ∧ RulC τ (xn X) (xR X) ∧ PgC τ (xb X + 1) (fun k => if k = xb X then xd X else xE X k) (fun k => if k = xb X then finV (cfg (xR X) (xd X)) (vP (xd X)) else xp X k) ∧ ImC τ (xI X) (xD X) ∧ TxC τ (xL X) (xT X) := by
      refine ⟨fr83 rc.1.1 hf (fun q hq => fF q (by revert q; decide +kernel) (by have := v83 q hq; omega)) (fun q hq => fM q (by revert q; decide +kernel) (by have := w83 q hq; omega)), frRu rc.1.2.1 hf (fun q hq => fF q (by revert q; decide +kernel) (by have := vRu q hq; omega)) (fun q hq => fM q (by revert q; decide +kernel) (by have := wRu q hq; omega)), pg, frIm rc.1.2.2.2.1 hf (fun q hq => fF q (by revert q; decide +kernel) (by have := vIm q hq; omega)) (fun q hq => fM q (by revert q; decide +kernel) (by have := wIm q hq; omega)), rc.1.2.2.2.2.frm hf (fF _ (by decide) (by show 1 ≠ t; omega)) (fM _ (by decide) (by omega))⟩
    obtain ⟨c0, c1, c2, c3, c4⟩ := rc.2
    have n14 : (0, 14) ∉ [(0, 13), (52, 4), (52, 5), (52, 6), (52, 7), (17, 4), (17, 6), (17, 7), (t, 1), (t, 2), (t, 3), (t, 4), (t, 5), (t, 6), (t, 7), (t, 8), (t, 9), (t, 10)] := fF _ (by decide) (by show 0 ≠ t; omega)
    have d0 : fi τ 0 14 = nI ch := by rw [(hf.1 0 14 n14).1]; exact c0
    have k2 := ccC_fr c2 hf n14 (fun q hq => fF q (by revert q; decide +kernel) (by have := vCc q (by simp [hq]); omega)) (fun q hq => fM q (by revert q; decide +kernel) (by have := wCc q (by simp [hq]); omega))
    have k3 := ccL_fr c3 hf n14 (fun q hq => fF q (by revert q; decide +kernel) (by have := vCc q (by simp [hq]); omega)) (fun q hq => fM q (by revert q; decide +kernel) (by have := wCc q (by simp [hq]); omega))
    have k4 := ccP_fr c4 hf n14 (fun q hq => fF q (by revert q; decide +kernel) (by have := vCc q (by simp [hq]); omega)) (fun q hq => fM q (by revert q; decide +kernel) (by have := wCc q (by simp [hq]); omega))
    have rc1 : RC τ (xd X, xn X, xR X, xb X + 1, (fun k => if k = xb X then xd X else xE X k), xI X, xD X, xL X, xT X, (fun k => if k = xb X then finV (cfg (xR X) (xd X)) (vP (xd X)) else xp X k)) ch mp := ⟨rcb, d0, ⟨hca, c1.2.of has c0⟩, k2, k3, k4⟩
    refine kM_book h8 rm1.2.2.1.1 rm1.1 ok.1 rm1.2.1 rm1.2.2.2.2.2.1 (by omega) (hEm rm1) (fun c => absurd c hC) (fun _ c => (c.elim (fun z => by omega) (fun z => hno z)).elim) (fun _ _ _ υ hf2 hp hm2 pn1 pgs h66 h196 => ?_)
    refine hQ _ _ ⟨_, ch, mp, mk + 1, rc_fr rc1 hf2 (by decide +kernel) (by decide +kernel), ?_, ⟨ok.1, fun k hk => ?_, ok.2.2⟩, by omega, by omega, by omega⟩
    · obtain ⟨m1, m2, ⟨m3, m4⟩, m5, m6, m7, m8⟩ := rm1
      refine ⟨cur_fr m1 hf2 (by decide) (by decide) (by decide) (by decide) (by decide) (by rw [(hf2.2 153 (by decide)).1]; exact m1.2.1) hp, m2.fr hf2 (by decide) (by decide) (by decide) (by decide) (by decide) (by decide) (by decide), ⟨h66, fun k hk => ?_⟩, fun j hj => ?_, m6.frm hf2 (by decide) (by decide), hm2, by rw [(hf2.1 151 20 (by decide)).1]; exact m8⟩
      · have hk : k < xb X + 1 := hk
        show PgM υ k (if k = xb X then xd X else xE X k) ∧ ai υ 196 k = (if k = xb X then finV (cfg (xR X) (xd X)) (vP (xd X)) else xp X k)
        rw [h196]
        by_cases ek : k = xb X
        · rw [if_pos ek, if_pos ek, if_pos ek, ek]; exact ⟨pn1, rfl⟩
        · rw [if_neg ek, if_neg ek, if_neg ek]; exact ⟨pgs k (by omega), (m4 k (by omega)).2⟩
      · have := m5 j hj
        unfold ImM at this ⊢
        rw [(hf2.2 197 (by decide)).1, (hf2.2 198 (by decide)).1]
        exact this
    · have hk : k < xb X + 1 := hk
      show OkD (xn X) (if k = xb X then xd X else xE X k)
      by_cases ek : k = xb X
      · rw [if_pos ek]; exact ok.1
      · rw [if_neg ek]; exact ok.2.1 k (by omega)
theorem op_ruleR {Q : Int32 → Int32 → St → Prop} (hN : N ≤ 600) (hR : Rel N σ) (hQ : ∀ r τ, Rel (N + 1) τ → Q r r τ) : K_BB_rule g σ (fun r1 s1 => K_BM_rule g s1 (fun r2 s2 => Q r1 r2 s2)) := by
  obtain ⟨X, ch, mp, mk, rc, rm, ok, b1, b2, b3⟩ := hR
  have stay : Rel (N + 1) σ := ⟨X, ch, mp, mk, rc, rm, ok, by omega, by omega, by omega⟩
  have h6 := rc.1.2.1.1
  refine kB_rule rc.1.2.2.2.2 rc.1.2.1 (fun c => ?_) (fun hn e he τ hf h11 => ?_) (fun hn r he τ t et hf h11 hrc => ?_)
  · exact kM_rule rm.2.2.2.2.1 rm.2.2.2.2.2.2 rm.2.1 (fun _ => hQ _ _ stay) (fun d => by omega) (fun d => by omega)
  · have rm1 : RM τ X mk := rm_fr rm hf (by decide) (by decide)
    have rc1 : RC τ (sX X (xd X) 0 (xT X)) ch mp := ⟨rcb_fr2 rc.1 hf (by decide +kernel) (by decide +kernel) (fr83 rc.1.1 hf (by decide +kernel) (by decide +kernel)) (txC0 h11), cch_fr rc.2 hf (by decide) (by decide +kernel) (by decide +kernel)⟩
    refine kM_rule rm1.2.2.2.2.1 rm1.2.2.2.2.2.2 rm1.2.1 (fun d => by omega) (fun _ e' he' υ hf2 k11 hrm => ?_) (fun _ r he' => by rw [he] at he'; cases he')
    have ee : e' = e := by rw [he] at he'; cases he'; rfl
    subst ee
    refine hQ _ _ ⟨_, ch, mp, mk, rc_fr rc1 hf2 (by decide +kernel) (by decide +kernel), ?_, okX_d ok ok.1, by omega, by omega, by omega⟩
    obtain ⟨m1, m2, ⟨m3, m4⟩, m5, m6, m7, m8⟩ := rm1
    refine ⟨cur_fr m1 hf2 (by decide) (by decide) (by decide) (by decide) (by decide) (by rw [(hf2.2 153 (by decide)).1]; exact m1.2.1) (by rw [(hf2.2 154 (by decide)).1]; exact m1.2.2.1), hrm, ⟨by rw [(hf2.1 151 66 (by decide)).1]; exact m3, fun j hj => ?_⟩, fun j hj => ?_, txM0 k11, mrk_fr m7 hf2 (by decide) (by decide), by rw [(hf2.1 151 20 (by decide)).1]; exact m8⟩
    · have := m4 j hj
      unfold PgM at this ⊢
      rw [(hf2.2 192 (by decide)).1, (hf2.2 193 (by decide)).1, (hf2.2 194 (by decide)).1, (hf2.2 195 (by decide)).1, (hf2.2 196 (by decide)).1]
      exact this
    · have := m5 j hj
      unfold ImM at this ⊢
      rw [(hf2.2 197 (by decide)).1, (hf2.2 198 (by decide)).1]
      exact this
  · have fF : ∀ q : Nat × Nat, q ∉ [(1, 1), (1, 2), (1, 3), (9, 2), (9, 3), (9, 4), (9, 5), (12, 4), (12, 5), (12, 6), (17, 5)] → q.1 ≠ t → q ∉ [(1, 1), (1, 2), (1, 3), (9, 2), (9, 3), (9, 4), (9, 5), (12, 4), (12, 5), (12, 6), (17, 5), (t, 4), (t, 5), (t, 6)] := fun q h1 h2 => niA (A := [(1, 1), (1, 2), (1, 3), (9, 2), (9, 3), (9, 4), (9, 5), (12, 4), (12, 5), (12, 6), (17, 5)]) h1 (ni3 h2)
    have fM : ∀ q : Nat, q ∉ [10, 11, 13, 14, 15] → (q < t + 1 ∨ t + 3 < q) → q ∉ [10, 11, 13, 14, 15, t + 1, t + 2, t + 3] := fun q h1 h2 => niA (A := [10, 11, 13, 14, 15]) h1 (nr3 h2)
    have rm1 : RM τ X mk := rm_fr rm hf (fun q hq => fF q (by revert q; decide +kernel) (by have := vM q hq; omega)) (fun q hq => fM q (by revert q; decide +kernel) (by have := wM q hq; omega))
    have n14 : (0, 14) ∉ [(1, 1), (1, 2), (1, 3), (9, 2), (9, 3), (9, 4), (9, 5), (12, 4), (12, 5), (12, 6), (17, 5), (t, 4), (t, 5), (t, 6)] := fF _ (by decide) (by show 0 ≠ t; omega)
    have cch1 := cch_fr rc.2 hf n14 (fun q hq => fF q (by revert q; decide +kernel) (by have := vCc q hq; omega)) (fun q hq => fM q (by revert q; decide +kernel) (by have := wCc q hq; omega))
    have rc1 : RC τ (xd X, xn X + 1, upR (xR X) (xn X) r, xb X, xE X, xI X, xD X, 0, xT X, xp X) ch mp := by
      refine ⟨⟨fr83 rc.1.1 hf (fun q hq => fF q (by revert q; decide +kernel) (by have := v83 q hq; omega)) (fun q hq => fM q (by revert q; decide +kernel) (by have := w83 q hq; omega)), hrc, frPg rc.1.2.2.1 hf (fun q hq => fF q (by revert q; decide +kernel) (by have := vPg q hq; omega)) (fun q hq => fM q (by revert q; decide +kernel) (by have := wPg q hq; omega)), frIm rc.1.2.2.2.1 hf (fun q hq => fF q (by revert q; decide +kernel) (by have := vIm q hq; omega)) (fun q hq => fM q (by revert q; decide +kernel) (by have := wIm q hq; omega)), txC0 h11⟩, ?_⟩
      unfold Cch at cch1 ⊢
      show fi τ 0 14 = nI ch ∧ CcS τ (cfg (upR (xR X) (xn X) r) (xd X)) (vP (xd X)) ch ∧ CcC τ (cfg (upR (xR X) (xn X) r) (xd X)) (vP (xd X)) ch ∧ CcL τ (cfg (upR (xR X) (xn X) r) (xd X)) (vsd (xd X)) (vm (xd X)) ch ∧ CcP τ (cfg (upR (xR X) (xn X) r) (xd X)) ch mp
      rw [cfg_up ok.1]
      exact cch1
    refine kM_rule rm1.2.2.2.2.1 rm1.2.2.2.2.2.2 rm1.2.1 (fun d => by omega) (fun _ e' he' => by rw [he] at he'; cases he') (fun _ r' he' υ hf2 k11 hrm => ?_)
    have ee : r' = r := by rw [he] at he'; cases he'; rfl
    subst ee
    refine hQ _ _ ⟨_, ch, mp, mk, rc_fr rc1 hf2 (by decide +kernel) (by decide +kernel), ?_, ⟨ok.1.up (Nat.le_succ _), fun k hk => (ok.2.1 k hk).up (Nat.le_succ _), fun k hk z => (ok.2.2 k hk z).up (Nat.le_succ _)⟩, by omega, by omega, by omega⟩
    obtain ⟨m1, m2, ⟨m3, m4⟩, m5, m6, m7, m8⟩ := rm1
    refine ⟨cur_fr m1 hf2 (by decide) (by decide) (by decide) (by decide) (by decide) (by rw [(hf2.2 153 (by decide)).1]; exact m1.2.1) (by rw [(hf2.2 154 (by decide)).1]; exact m1.2.2.1), hrm, ⟨by rw [(hf2.1 151 66 (by decide)).1]; exact m3, fun j hj => ?_⟩, fun j hj => ?_, txM0 k11, mrk_fr m7 hf2 (by decide) (by decide), by rw [(hf2.1 151 20 (by decide)).1]; exact m8⟩
    · have := m4 j hj
      unfold PgM at this ⊢
      rw [(hf2.2 192 (by decide)).1, (hf2.2 193 (by decide)).1, (hf2.2 194 (by decide)).1, (hf2.2 195 (by decide)).1, (hf2.2 196 (by decide)).1]
      exact this
    · have := m5 j hj
      unfold ImM at this ⊢
      rw [(hf2.2 197 (by decide)).1, (hf2.2 198 (by decide)).1]
      exact this
end
