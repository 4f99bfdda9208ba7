-- what a tip keeps; may, tip
section
variable {C R B : Nat} {K P : Nat → Nat} {w : Nat}
theorem fold_keeps {X : (Nat → Nat) → Prop} (hX : ∀ (st : (Nat → Nat) × Nat × Nat) (b : Nat), b < B → st.1 b < 36 → okP C R B K st.1 → X st.1 → X (rol1 C R K w st b).1) (hC : C ≤ 6) (hR : R ≤ 6) (hw : w < 4) : ∀ (l : List Nat) (st : (Nat → Nat) × Nat × Nat), (∀ b, b ∈ l → b < B ∧ st.1 b < 36) → l.Nodup → okP C R B K st.1 → X st.1 → okP C R B K (l.foldl (rol1 C R K w) st).1 ∧ X (l.foldl (rol1 C R K w) st).1 := by
  intro l
  induction l with
  | nil => intro st _ _ h1 h2; exact ⟨h1, h2⟩
  | cons b l ih =>
    intro st hl hnd h1 h2
    obtain ⟨hb, h36⟩ := hl b List.mem_cons_self
    refine ih (rol1 C R K w st b) (fun x hx => ?_) (List.nodup_cons.mp hnd).2 (rol1_okP hC hR hw hb h1 h36) (hX st b hb h36 h1 h2)
    obtain ⟨a1, a2⟩ := hl x (List.mem_cons_of_mem _ hx)
    refine ⟨a1, ?_⟩
    rw [rol1_ne (x := x) (b := b) (fun e => (List.nodup_cons.mp hnd).1 (e ▸ hx))]
    exact a2
theorem rol1_ds {st : (Nat → Nat) × Nat × Nat} {b : Nat} (hb3 : b < 3) (h36 : st.1 b < 36) (hd : dsP st.1) : dsP (rol1 C R K w st b).1 := by
  have hto := rollN_to (C := C) (R := R) (K := K) (o1 := fun d => st.1 0 = d ∨ st.1 1 = d ∨ st.1 2 = d) (w := w) 6 (st.1 b)
  change rolF C R K st.1 w b = (0, st.1 b) ∨ (0 < (rolF C R K st.1 w b).1 ∧ K (rolF C R K st.1 w b).2 ≠ 1 ∧ ¬ (st.1 0 = (rolF C R K st.1 w b).2 ∨ st.1 1 = (rolF C R K st.1 w b).2 ∨ st.1 2 = (rolF C R K st.1 w b).2)) at hto
  -- where b comes to, none of the others is
  have key : ∀ x, x < 3 → x ≠ b → st.1 x < 36 → st.1 x ≠ (rolF C R K st.1 w b).2 := by
    intro x hx hxb hx36 e
    rcases hto with q | q
    · rw [q] at e; exact hd x b hx hb3 hxb hx36 e
    · apply q.2.2
      rcases (show x = 0 ∨ x = 1 ∨ x = 2 by omega) with rfl | rfl | rfl
      · exact Or.inl e
      · exact Or.inr (Or.inl e)
      · exact Or.inr (Or.inr e)
  intro x y hx hy hxy
  unfold rol1
  split
  · dsimp only
    unfold upP
    by_cases ex : x = b
    · rw [if_pos ex]
      intro q
      split at q <;> exact absurd q (by decide)
    · rw [if_neg ex]
      intro q
      by_cases ey : y = b
      · rw [if_pos ey]
        split <;> omega
      · rw [if_neg ey]; exact hd x y hx hy hxy q
  · dsimp only
    unfold upP
    by_cases ex : x = b
    · rw [if_pos ex]
      have ey : y ≠ b := fun e => hxy (ex.trans e.symm)
      rw [if_neg ey]
      intro q e
      exact key y hy ey (by omega) e.symm
    · rw [if_neg ex]
      intro q
      by_cases ey : y = b
      · rw [if_pos ey]; exact key x hx ex q
      · rw [if_neg ey]; exact hd x y hx hy hxy q
end
section
variable {c : Cfg} {P : Nat → Nat} {w : Nat}
theorem ordL_in {k : Nat → Int64} (hp : okW c.1 c.2.1 c.2.2.1 P) : ∀ b, b ∈ ordL k P → b < c.2.2.1 ∧ P b < 36 := fun b hb => by
  have := ordL_mem hb
  refine ⟨Nat.not_le.mp (fun q => ?_), this.2⟩
  have e := hp.1 b q
  omega
theorem tipC_ok (hC : c.1 ≤ 6) (hR : c.2.1 ≤ 6) (hw : w < 4) (hp : okP c.1 c.2.1 c.2.2.1 c.2.2.2.1 P) : okP c.1 c.2.1 c.2.2.1 c.2.2.2.1 (tipC c w P).1 :=
  (fold_keeps (X := fun _ => True) (fun _ _ _ _ _ _ => trivial) hC hR hw (ordL (keyC c P w) P) (P, 0, 0) (ordL_in hp.1) (ordL_nodup _ _) hp trivial).1
theorem tipC_ds (hC : c.1 ≤ 6) (hR : c.2.1 ≤ 6) (hB : c.2.2.1 ≤ 3) (hw : w < 4) (hp : okP c.1 c.2.1 c.2.2.1 c.2.2.2.1 P) (hd : dsP P) : dsP (tipC c w P).1 :=
  (fold_keeps (X := dsP) (fun st b hb h36 _ h => rol1_ds (by omega) h36 h) hC hR hw (ordL (keyC c P w) P) (P, 0, 0) (ordL_in hp.1) (ordL_nodup _ _) hp hd).2
theorem fold_cnt {C R : Nat} {K : Nat → Nat} : ∀ (l : List Nat) (st : (Nat → Nat) × Nat × Nat), (l.foldl (rol1 C R K w) st).2.1 + (l.foldl (rol1 C R K w) st).2.2 ≤ st.2.1 + st.2.2 + l.length := by
  intro l
  induction l with
  | nil => intro st; exact Nat.le_refl _
  | cons b l ih =>
    intro st
    have h1 := ih (rol1 C R K w st b)
    have h2 : (rol1 C R K w st b).2.1 + (rol1 C R K w st b).2.2 ≤ st.2.1 + st.2.2 + 1 := by
      unfold rol1
      split
      · dsimp only; omega
      · dsimp only; split <;> omega
    simp only [List.foldl_cons, List.length_cons]
    omega
theorem ordL_len3 {k : Nat → Int64} : (ordL k P).length ≤ 3 := ordN_len (k := k) (P := P) (b := 3) (Nat.le_refl _)
theorem tipC_cnt : (tipC c w P).2.1 + (tipC c w P).2.2 ≤ 3 := by
  have h1 := fold_cnt (w := w) (C := c.1) (R := c.2.1) (K := c.2.2.2.1) (ordL (keyC c P w) P) (P, 0, 0)
  have h2 := ordL_len3 (k := keyC c P w) (P := P)
  unfold tipC tipF
  dsimp only at h1
  omega
/-- hits and ten times the falls -/
def htF (c : Cfg) (w : Nat) (P : Nat → Nat) : Int32 := nI (tipC c w P).2.1 + 10 * nI (tipC c w P).2.2
end
section
variable {g : Gx} {σ : St} {d : Dat} {nr : Nat} {Ru : Nat → RuleT}
theorem in_way {g : Gx} {Q : Int32 → St → Prop} {x : Int32} (h : Q (if x < 0 ∨ 3 < x then 0 else 1) σ) : K_BM_in g x.toInt64 0 3 σ Q := by
  refine k_BM_in ?_
  by_cases q : x < 0 ∨ 3 < x
  · rw [if_neg (fun z => way_iff.mp z q)]; rw [if_pos q] at h; exact h
  · rw [if_pos (way_iff.mpr q)]; rw [if_neg q] at h; exact h
theorem kB_may {Q : Int32 → St → Prop} {x : Int32} (hs : ClsS 83 σ d) (ho : OkD nr d) (hr : RulC σ nr Ru) (h0 : vC d = 0 ∨ (x < 0 ∨ 3 < x) → Q (-1) σ) (h1 : ∀ w, w < 4 → x = nI w → vC d ≠ 0 → ∀ τ, fr [(17, 4), (17, 6), (17, 7)] [19, 20, 21, 26, 31, 36, 41, 46, 51] σ τ → Q (htF (cfg Ru d) w (vP d)) τ) : K_BB_may g x σ Q := by
  refine ko_BB_may (sg_BB_may_0 ⟨fun q => h0 (Or.inl (hs.box.mp q)), fun q => k_BB_isWay ?_⟩)
  by_cases hx : x < 0 ∨ 3 < x
  · rw [if_pos hx]; exact ⟨fun z => absurd rfl z, fun _ => h0 (Or.inr hx)⟩
  · rw [if_neg hx]
    refine ⟨fun _ => ?_, fun z => absurd z (by decide)⟩
    obtain ⟨w, hw, rfl⟩ := way_of hx
    rw [hs.2.2.1]
    refine k_rolled (c := cfg Ru d) sa_83 hw (hs.toT ho hr) ho.2.2.1 (fun τ hf e6 e7 => ?_)
    rw [e6, e7]
    exact h1 w hw rfl (fun z => q (hs.box.mpr z)) τ hf
theorem kB_tip {Q : Int32 → St → Prop} {x : Int32} (hs : ClsS 83 σ d) (ho : OkD nr d) (hr : RulC σ nr Ru) (h0 : vC d = 0 ∨ (x < 0 ∨ 3 < x) → Q (-1) σ) (h1 : ∀ w, w < 4 → x = nI w → vC d ≠ 0 → ∀ τ, fr [(0, 14), (83, 5), (83, 6), (17, 4), (17, 6), (17, 7)] [19, 20, 21, 26, 31, 36, 41, 46, 51] σ τ → fi τ 0 14 = fi σ 0 14 + 1 → fi τ 83 5 = nI (sitP (tipC (cfg Ru d) w (vP d)).1 (vB d)) → fi τ 83 6 = vT d + 1 → Q (htF (cfg Ru d) w (vP d)) τ) : K_BB_tip g x σ Q := by
  refine ko_BB_tip (sg_BB_tip_0 ⟨fun q => h0 (Or.inl (hs.box.mp q)), fun q => k_BB_isWay ?_⟩)
  by_cases hx : x < 0 ∨ 3 < x
  · rw [if_pos hx]; exact ⟨fun z => absurd rfl z, fun _ => h0 (Or.inr hx)⟩
  · rw [if_neg hx]
    refine ⟨fun _ => ?_, fun z => absurd z (by decide)⟩
    obtain ⟨w, hw, rfl⟩ := way_of hx
    rw [hs.2.2.1]
    refine k_rolled (c := cfg Ru d) sa_83 hw (hs.toT ho hr) ho.2.2.1 (fun τ hf e6 e7 => ?_)
    rintro s5 rfl s6 rfl s7 e7'
    have a6 : fi s7 17 6 = fi τ 17 6 := by rw [e7']; rfl
    have a7 : fi s7 17 7 = fi τ 17 7 := by rw [e7']; rfl
    rw [a6, a7, e6, e7]
    refine h1 w hw rfl (fun z => q (hs.box.mpr z)) s7 ?_ ?_ ?_ ?_
    · rw [e7']
      exact (hf.mo (by decide) (by decide)).tr (((fr_sfi (by decide)).tr (fr_sfi (by decide))).tr (fr_sfi (by decide)))
    · rw [e7']
      show fi τ 0 14 + 1 = _
      rw [(hf.1 0 14 (by decide)).1]
    · rw [e7']; rfl
    · rw [e7']
      show fi τ 83 6 + 1 = _
      rw [(hf.1 83 6 (by decide)).1, hs.2.2.2.1]
theorem kM_may {Q : Int32 → St → Prop} {x : Int32} (hs : CurM σ d) (ho : OkD nr d) (hr : RulM σ nr Ru) (h0 : vC d = 0 ∨ (x < 0 ∨ 3 < x) → Q (-1) σ) (h1 : ∀ w, w < 4 → x = nI w → vC d ≠ 0 → ∀ τ, fr [(151, 32), (151, 35), (151, 36)] [154, 170, 171, 172, 173, 174] σ τ → (∀ b, b < vB d → ai τ 154 b = nI (vP d b)) → Q (htF (cfg Ru d) w (vP d)) τ) : K_BM_may g x σ Q := by
  have hT := hs.toT ho hr
  refine ko_BM_may (sg_BM_may_0 (k_BM_isBox ⟨fun q => ?_, fun q => in_way ?_⟩))
  · by_cases z : ai σ 152 0 ≤ 0
    · exact h0 (Or.inl ((hs.box ho).mp z))
    · rw [if_neg z] at q; exact absurd q (by decide)
  · have hC : vC d ≠ 0 := fun z => q (by rw [if_pos ((hs.box ho).mpr z)])
    by_cases hx : x < 0 ∨ 3 < x
    · rw [if_pos hx]; exact ⟨fun z => absurd rfl z, fun _ => h0 (Or.inr hx)⟩
    · rw [if_neg hx]
      refine ⟨fun _ => ?_, fun z => absurd z (by decide)⟩
      obtain ⟨w, hw, rfl⟩ := way_of hx
      refine lay_to sh174 (by decide) ho.1.2.2.1 hs.2.2.1 (fun τ1 f1 p1 => ?_)
      have hT1 : RefT τ1 (cfg Ru d) (vP d) := hT.fr f1 (by decide) (by decide) (by decide) (by decide) (by decide) (by decide) (by decide) (by decide) (by decide)
      refine k_tips hw hT1 (fun τ2 f2 r2 e5 e6 => ?_)
      refine lay_back (P := vP d) sh174 (by decide) r2 (fun b hb => by rw [(f2.2 174 (by decide)).1]; exact p1 b hb) ho.2.2.1.1 (fun τ3 f3 r3 => ?_)
      rw [(f3.1 151 35 (by simp)).1, (f3.1 151 36 (by simp)).1, e5, e6]
      refine h1 w hw rfl hC τ3 ((f1.mo (by simp) (by decide)).tr ((f2.mo (by decide) (by decide)).tr (f3.mo (by simp) (by decide)))) r3.1.2.2.1
theorem kM_tip {Q : Int32 → St → Prop} {x : Int32} (hs : CurM σ d) (ho : OkD nr d) (hr : RulM σ nr Ru) (h0 : vC d = 0 ∨ (x < 0 ∨ 3 < x) → Q (-1) σ) (h1 : ∀ w, w < 4 → x = nI w → vC d ≠ 0 → ∀ τ, fr [(151, 32), (151, 35), (151, 36)] [152, 154, 170, 171, 172, 173] σ τ → (∀ b, b < vB d → ai τ 154 b = nI ((tipC (cfg Ru d) w (vP d)).1 b)) → (∀ k, ai τ 152 k = if k = 3 then vT d + 1 else ai σ 152 k) → Q (htF (cfg Ru d) w (vP d)) τ) : K_BM_tip g x σ Q := by
  have hT := hs.toT ho hr
  refine ko_BM_tip (sg_BM_tip_0 (k_BM_isBox ⟨fun q => ?_, fun q => in_way ?_⟩))
  · by_cases z : ai σ 152 0 ≤ 0
    · exact h0 (Or.inl ((hs.box ho).mp z))
    · rw [if_neg z] at q; exact absurd q (by decide)
  · have hC : vC d ≠ 0 := fun z => q (by rw [if_pos ((hs.box ho).mpr z)])
    by_cases hx : x < 0 ∨ 3 < x
    · rw [if_pos hx]; exact ⟨fun z => absurd rfl z, fun _ => h0 (Or.inr hx)⟩
    · rw [if_neg hx]
      refine ⟨fun _ => ?_, fun z => absurd z (by decide)⟩
      obtain ⟨w, hw, rfl⟩ := way_of hx
      refine k_tips hw hT (fun τ2 f2 r2 e5 e6 => ⟨pk_in 3 8 (by decide), pk_in 3 8 (by decide), ?_⟩)
      rintro s6 e
      have a5 : fi s6 151 35 = fi τ2 151 35 := by rw [e]; rfl
      have a6 : fi s6 151 36 = fi τ2 151 36 := by rw [e]; rfl
      rw [a5, a6, e5, e6]
      have e3 : ai τ2 152 3 = vT d := r2.2.1
      rw [cl3, e3] at e
      refine h1 w hw rfl hC s6 ?_ ?_ ?_
      · rw [e]; exact (f2.mo (by decide) (by decide)).tr (fr_sai (by decide))
      · intro b hb
        have : ai s6 154 b = ai τ2 154 b := by rw [e, ai_sai, if_neg (by omega)]
        rw [this]; exact r2.1.2.2.1 b hb
      · intro k
        rw [e, ai_sai, (f2.2 152 (by decide)).1]
        by_cases q : k = 3
        · rw [if_pos ⟨rfl, q⟩, if_pos q]
        · rw [if_neg (fun z => q z.2), if_neg q]
end
