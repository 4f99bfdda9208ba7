-- fits, where, tells on both sides
theorem lis_inv {c : Cfg} {sd : Nat → Nat} {m : Nat} : ∀ (l : List (Nat → Nat)) (st : LSt), (∀ P, P ∈ l → okW c.1 c.2.1 c.2.2.1 P ∧ ∀ b, b < c.2.2.1 → P b < 36) → (st.1 ≠ 0 → okW c.1 c.2.1 c.2.2.1 st.2.1 ∧ ∀ b, b < c.2.2.1 → st.2.1 b < 36) → (∀ b k, b < c.2.2.1 → 36 ≤ k → st.2.2.1 b k = false) → ((l.foldl (lisS c sd m) st).1 ≠ 0 → okW c.1 c.2.1 c.2.2.1 (l.foldl (lisS c sd m) st).2.1 ∧ ∀ b, b < c.2.2.1 → (l.foldl (lisS c sd m) st).2.1 b < 36) ∧ (∀ b k, b < c.2.2.1 → 36 ≤ k → (l.foldl (lisS c sd m) st).2.2.1 b k = false)
  | [], st, _, h1, h2 => ⟨h1, h2⟩
  | P :: l, st, hl, h1, h2 => by
    obtain ⟨pw, p36⟩ := hl P List.mem_cons_self
    refine lis_inv l (lisS c sd m st P) (fun N hN => hl N (List.mem_cons_of_mem _ hN)) ?_ ?_
    · unfold lisS
      split
      · exact h1
      · intro _
        dsimp only
        by_cases z : st.1 = 0
        · rw [if_pos z]; exact ⟨pw, p36⟩
        · rw [if_neg z]; exact h1 z
    · unfold lisS
      split
      · exact h2
      · intro b k hb hk
        dsimp only
        rw [h2 b k hb hk, decide_eq_false (by have := p36 b hb; omega)]; rfl
theorem lisF_inv {c : Cfg} {sd : Nat → Nat} {m : Nat} (hB : c.2.2.1 ≤ 3) : ((lisF c sd m).1 ≠ 0 → okW c.1 c.2.1 c.2.2.1 (lisF c sd m).2.1 ∧ ∀ b, b < c.2.2.1 → (lisF c sd m).2.1 b < 36) ∧ (∀ b k, b < c.2.2.1 → 36 ≤ k → (lisF c sd m).2.2.1 b k = false) :=
  lis_inv (begL c) ls0 (fun P hP => ⟨(begL_ok hB hP).1.1, (begL_ok hB hP).2.2⟩) (fun z => absurd rfl z) (fun _ _ _ _ => rfl)
def fitV (st : LSt) (B w : Nat) : Int32 := if w = 0 then nI st.1 else if st.1 = 0 ∨ B < w then -2 else nI (st.2.1 (w - 1))
def telV (st : LSt) (w : Nat) : Int32 := if st.1 = 0 then -2 else if w = 0 then nI (chG (grW st.2.2.2) 3).1 else nI (chG (grW st.2.2.2) 3).2
section
variable {g : Gx} {σ : St}
theorem k_SA_numberIn {Q : Int32 → St → Prop} {B b : Nat} {P : Nat → Nat} (hN : ∀ b, B ≤ b → P b = 36) (hb : b < 3) (h36 : P b < 36) (h : Q (nI (P b)) σ) : K_SA_numberIn g (nI (sitP P B)) (nI b) σ Q := by
  refine ko_SA_numberIn (sg_SA_numberIn_0 (k_SA_spotIn (Nat.lt_trans sitP_lt (by decide)) hb ?_))
  rw [spo_sitP hb, enB_norm hN, enc_c h36]
  refine k_SA_rowC h36 (k_SA_colC h36 ?_)
  have e : (6 : Int32) * nI (P b / 6) + nI (P b % 6) = nI (P b) := by
    show nI 6 * nI _ + nI _ = _
    rw [pk_mul, nI_add]
    congr 1
    omega
  rw [e]; exact h
theorem sb_read1 {w : Int64} {k : Nat} (hk : k < 64) (h : sbit w k = true) : (w.toUInt64 >>> ((nI k).toInt64.toUInt64 &&& Int64.toUInt64 63)).toInt64 &&& 1 = 1 := by
  obtain ⟨m, hm, rfl⟩ := wb_of w
  rw [sb_lN hk, Nat.testBit_eq_decide_div_mod_eq, decide_eq_true_iff] at h
  rw [wb_bit hm hk, h]
  rfl
theorem k_LI_cellsOf {Q : Int64 → St → Prop} {b : Nat} {f : Nat → Bool} (hb : b < 3) (hf : ∀ x, x < 36 → sbit (aj σ 80 b) (spc x) = f x) (h : ∀ r, (∀ k, k < 64 → sbit r k = (decide (k < 36) && f k)) → Q r σ) : K_LI_cellsOf g (nI b) σ Q := by
  have go : ∀ (m n : Nat) (y : Int64), n + m = 36 → (∀ k, k < 64 → sbit y k = (decide (k < n) && f k)) → S_LI_cellsOf_5 g Q σ (nI b) y (nI n) := by
    intro m
    induction m with
    | zero =>
      intro n y hn hy
      have e : n = 36 := by omega
      subst e
      exact sg_LI_cellsOf_5 ⟨fun _ => h y hy, fun q => absurd (by decide) q⟩
    | succ m ih =>
      intro n y hn hy
      refine sg_LI_cellsOf_5 ⟨fun q => absurd q (nI_ge (b := 36) (by omega) (by decide)), fun _ => ⟨fun q => absurd q (nI_pos (by omega)), fun _ => ⟨fun q => absurd q (nI_ge (b := 3) hb (by decide)), fun _ => ?_⟩⟩⟩
      rw [rem6 (by omega), div6 (by omega)]
      refine k_SA_spotOf (fun x y' hx hy' ex ey => ⟨vp_in_nI hb (by decide), ?_⟩) (fun ho => (ho (n % 6) (n / 6) (by omega) (by omega) rfl rfl).elim)
      have e1 := (nI_eq (by omega) (by omega)).mp ex
      have e2 := (nI_eq (by omega) (by omega)).mp ey
      have esp : 8 * y' + x + 9 = spc n := by unfold spc; omega
      rw [esp, nI_clamp (by omega)]
      rintro u rfl u2 rfl
      rw [nI_1]
      refine ih (n + 1) _ (by omega) (fun k hk => ?_)
      have hbit := hf n (by omega)
      have hs := spc_lt (c := n) (by omega)
      cases hc : f n with
      | true =>
        rw [hc] at hbit
        rw [sb_read1 hs hbit, sb_set hk (by omega), hy k hk]
        by_cases z : k = n
        · rw [z, hc]; simp
        · have : decide (k < n + 1) = decide (k < n) := by rw [decide_eq_decide]; omega
          rw [this, decide_eq_false z, Bool.or_false]
      | false =>
        rw [hc] at hbit
        rw [(sb_read hs).mpr hbit]
        have e0 : (0 : Int64) <<< ((nI n).toInt64 &&& 63) = 0 := by
          have := wb_shl 0 (k := n) (by omega)
          rw [Nat.zero_mul] at this
          exact this
        rw [e0, Int64.or_zero, hy k hk]
        by_cases z : k = n
        · rw [z, hc]; simp
        · have : decide (k < n + 1) = decide (k < n) := by rw [decide_eq_decide]; omega
          rw [this]
  exact ko_LI_cellsOf (sg_LI_cellsOf_0 (go 36 0 0 rfl (fun k hk => by rw [sb_0]; simp)))
end
section
variable {g : Gx} {σ : St} {d : Dat} {nr : Nat} {Ru : Nat → RuleT}
theorem kB_fits {Q : Int32 → St → Prop} {x : Int32} (hs : ClsS 83 σ d) (ho : OkD nr d) (hr : RulC σ nr Ru) (hca : LiCa σ (cfg Ru d) (vsd d) (vm d)) (h0 : (vC d = 0 ∨ ∀ n, n ≤ 3 → x ≠ nI n) → Q (-1) σ) (h1 : ∀ w, w ≤ 3 → x = nI w → vC d ≠ 0 → ∀ τ, fr [(78, 4), (78, 5), (78, 6), (78, 7), (78, 8), (78, 9), (17, 4), (17, 6), (17, 7)] [79, 80, 81, 19, 20, 21, 26, 31, 36, 41, 46, 51] σ τ → LiCa τ (cfg Ru d) (vsd d) (vm d) → (fi τ 78 4 = fi σ 78 4 ∨ fi τ 78 4 = fi σ 0 14) → Q (fitV (lisF (cfg Ru d) (vsd d) (vm d)) (vB d) w) τ) : K_BB_fits g x σ Q := by
  refine ko_BB_fits (sg_BB_fits_0 ⟨fun q => h0 (Or.inl (hs.box.mp q)), fun q => ⟨fun q1 => h0 (Or.inr (fun n hn => rg_neg q1 (by omega))), fun q1 => ⟨fun q2 => ?_, fun q2 => h0 (Or.inr (fun n hn e => q2 (by rw [e]; exact nI_le (b := 3) hn (by decide))))⟩⟩⟩)
  obtain ⟨w, hw, rfl⟩ : ∃ k, k ≤ 3 ∧ x = nI k := by
    obtain ⟨j, hj, rfl⟩ := nI_of q1
    exact ⟨j, (nI_leI (b := 3) hj (by decide)).mp q2, rfl⟩
  have hB := ho.1.2.2.1
  refine k_LI_keepUp (al := false) hs ho hr hca (fun τ tl hf hca' hv _ has => ?_)
  have h1 := h1 w hw rfl (fun z => q (hs.box.mpr z)) τ hf hca' has
  have e4 : fi τ 83 4 = nI (vB d) := by rw [(hf.1 83 4 (by decide)).1]; exact hs.2.1.1.2.2
  have hb := (lisF_b (c := cfg Ru d) (sd := vsd d) (m := vm d) hB).1
  have hz : nI (lisF (cfg Ru d) (vsd d) (vm d)).1 = 0 ↔ (lisF (cfg Ru d) (vsd d) (vm d)).1 = 0 := nI_eq (b := 0) (by omega) (by decide)
  rw [hv.1.1, e4, hz]
  have w0 : nI w = 0 ↔ w = 0 := nI_eq (b := 0) (by omega) (by decide)
  rw [w0, nI_leI (by omega) (by omega)]
  unfold fitV at h1
  refine ⟨fun q3 => ⟨fun q4 => ?_, fun q4 => ⟨fun q5 => ?_, fun q5 => ?_⟩⟩, fun q3 => ?_⟩
  · rw [if_neg q3, if_pos (Or.inl q4)] at h1; exact h1
  · rw [if_neg q3, if_neg (fun z => z.elim q4 (fun z => by omega))] at h1
    obtain ⟨ow, o36⟩ := (lisF_inv (c := cfg Ru d) (sd := vsd d) (m := vm d) hB).1 q4
    rw [hv.1.2.1 q4, nI_m1 (by omega)]
    exact k_SA_numberIn ow.1 (by omega) (o36 (w - 1) (by show w - 1 < vB d; omega)) h1
  · rw [if_neg q3, if_pos (Or.inr (by omega))] at h1; exact h1
  · rw [if_pos q3] at h1; exact h1
theorem kB_where {Q : Int64 → St → Prop} {x : Int32} (hs : ClsS 83 σ d) (ho : OkD nr d) (hr : RulC σ nr Ru) (hca : LiCa σ (cfg Ru d) (vsd d) (vm d)) (h0 : (∀ b, b < vB d → x ≠ nI b) → Q (-1) σ) (h1 : ∀ b, b < vB d → x = nI b → ∀ τ r, fr [(78, 4), (78, 5), (78, 6), (78, 7), (78, 8), (78, 9), (17, 4), (17, 6), (17, 7)] [79, 80, 81, 19, 20, 21, 26, 31, 36, 41, 46, 51] σ τ → LiCa τ (cfg Ru d) (vsd d) (vm d) → (fi τ 78 4 = fi σ 78 4 ∨ fi τ 78 4 = fi σ 0 14) → (∀ k, k < 64 → sbit r k = (lisF (cfg Ru d) (vsd d) (vm d)).2.2.1 b k) → Q r τ) : K_BB_where g x σ Q := by
  have hB := ho.1.2.2.1
  refine ko_BB_where (sg_BB_where_0 ⟨fun q => h0 (fun b hb => ?_), fun q => ⟨fun q1 => h0 (fun n hn => rg_neg q1 (by omega)), fun q1 => ⟨fun q2 => ?_, fun q2 => h0 (fun n hn e => q2 ?_)⟩⟩⟩)
  · have := ho.1.2.2.2.2 (hs.box.mp q); omega
  · obtain ⟨b, hb31, rfl⟩ := nI_of q1
    have e4 : fi σ 83 4 = nI (vB d) := hs.2.1.1.2.2
    rw [e4, nI_ltI hb31 (by omega)] at q2
    refine k_LI_keepUp (al := false) hs ho hr hca (fun τ tl hf hca' hv _ has => ?_)
    refine k_LI_cellsOf (f := (lisF (cfg Ru d) (vsd d) (vm d)).2.2.1 b) (by omega) (fun x hx => hv.1.2.2.1 b x q2 hx) (fun r hr' => h1 b q2 rfl τ r hf hca' has (fun k hk => ?_))
    rw [hr' k hk]
    by_cases z : k < 36
    · rw [decide_eq_true z, Bool.true_and]
    · rw [decide_eq_false z, (lisF_inv (c := cfg Ru d) (sd := vsd d) (m := vm d) hB).2 b k q2 (by omega)]; rfl
  · rw [e, show fi σ 83 4 = nI (vB d) from hs.2.1.1.2.2]; exact nI_lt hn (by omega)
theorem kB_tells {Q : Int32 → St → Prop} {x : Int32} (hs : ClsS 83 σ d) (ho : OkD nr d) (hr : RulC σ nr Ru) (hca : LiCa σ (cfg Ru d) (vsd d) (vm d)) (h0 : (vC d = 0 ∨ ∀ n, n ≤ 1 → x ≠ nI n) → Q (-1) σ) (h1 : ∀ w, w ≤ 1 → x = nI w → vC d ≠ 0 → ∀ τ, fr [(78, 4), (78, 5), (78, 6), (78, 7), (78, 8), (78, 9), (17, 4), (17, 6), (17, 7)] [79, 80, 81, 19, 20, 21, 26, 31, 36, 41, 46, 51] σ τ → LiCa τ (cfg Ru d) (vsd d) (vm d) → (fi τ 78 4 = fi σ 78 4 ∨ fi τ 78 4 = fi σ 0 14) → Q (telV (lisF (cfg Ru d) (vsd d) (vm d)) w) τ) : K_BB_tells g x σ Q := by
  have hB := ho.1.2.2.1
  refine ko_BB_tells (sg_BB_tells_0 ⟨fun q => h0 (Or.inl (hs.box.mp q)), fun q => ⟨fun q1 => h0 (Or.inr (fun n hn => rg_neg q1 (by omega))), fun q1 => ⟨fun q2 => ?_, fun q2 => h0 (Or.inr (fun n hn e => q2 (by rw [e]; exact nI_le (b := 1) hn (by decide))))⟩⟩⟩)
  obtain ⟨w, hw, rfl⟩ : ∃ k, k ≤ 1 ∧ x = nI k := by
    obtain ⟨j, hj, rfl⟩ := nI_of q1
    exact ⟨j, (nI_leI (b := 1) hj (by decide)).mp q2, rfl⟩
  refine k_LI_keepUp (al := true) hs ho hr hca (fun τ tl hf hca' hv htl has => ?_)
  have h1 := h1 w hw rfl (fun z => q (hs.box.mpr z)) τ hf hca' has
  have hb := (lisF_b (c := cfg Ru d) (sd := vsd d) (m := vm d) hB).1
  have hz : nI (lisF (cfg Ru d) (vsd d) (vm d)).1 = 0 ↔ (lisF (cfg Ru d) (vsd d) (vm d)).1 = 0 := nI_eq (b := 0) (by omega) (by decide)
  obtain ⟨a8, a9⟩ := hv.2 (htl rfl)
  rw [hv.1.1, a8, a9, hz]
  unfold telV at h1
  refine ⟨fun q3 => ?_, fun q3 => by rw [if_pos q3] at h1; exact h1⟩
  rw [if_neg q3] at h1
  rcases (show w = 0 ∨ w = 1 by omega) with rfl | rfl
  · exact ⟨fun z => absurd rfl z, fun _ => h1⟩
  · exact ⟨fun _ => h1, fun z => absurd z (by decide)⟩
theorem kM_fits {Q : Int32 → St → Prop} {x : Int32} (hs : CurM σ d) (ho : OkD nr d) (hr : RulM σ nr Ru) (h0 : (vC d = 0 ∨ ∀ n, n ≤ 3 → x ≠ nI n) → Q (-1) σ) (h1 : ∀ w, w ≤ 3 → x = nI w → vC d ≠ 0 → ∀ τ, fr [(151, 32), (151, 35), (151, 36), (151, 60)] [154, 170, 171, 172, 173, 174, 179, 185, 186, 187, 188] σ τ → RefT τ (cfg Ru d) (vP d) → Q (fitV (lisF (cfg Ru d) (vsd d) (vm d)) (vB d) w) τ) : K_BM_fits g x σ Q := by
  have hB := ho.1.2.2.1
  refine ko_BM_fits (sg_BM_fits_0 (kM_box hs ho (fun q => ⟨fun _ => h0 (Or.inl q), fun z => absurd rfl z⟩) (fun q => ⟨fun z => absurd z (by decide), fun _ => ?_⟩)))
  refine k_BM_inR 0 3 (by decide) (by decide) (by decide) (fun w _ hw ew => ⟨fun _ => ?_, fun z => absurd z (by decide)⟩) (fun q2 => ⟨fun z => absurd rfl z, fun _ => h0 (Or.inr (fun n hn => q2 n (Nat.zero_le _) hn))⟩)
  subst ew
  refine k_BM_findsFits (c := cfg Ru d) (P := vP d) (sd := vsd d) (m := vm d) (hs.toT ho hr) hs.1.2.2.2.2.2.1 ho.2.2.2.2.2.2.1 (fun k hk => ⟨ho.2.2.2.2.2.2.2.1 k hk, (hs.2.2.2.2 k hk).1, (hs.2.2.2.2 k hk).2.1, (hs.2.2.2.2 k hk).2.2⟩) (fun τ hf r mi => ?_)
  have h1 := h1 w hw rfl q τ hf r
  have hb := (lisF_b (c := cfg Ru d) (sd := vsd d) (m := vm d) hB).1
  have hz : nI (lisF (cfg Ru d) (vsd d) (vm d)).1 = 0 ↔ (lisF (cfg Ru d) (vsd d) (vm d)).1 = 0 := nI_eq (b := 0) (by omega) (by decide)
  have e2 : ai τ 152 2 = nI (vB d) := r.1.1.2.2.1
  have w0 : nI w = 0 ↔ w = 0 := nI_eq (b := 0) (by omega) (by decide)
  rw [mi.1, hz, cl2, e2, w0, nI_leI (by omega) (by omega)]
  unfold fitV at h1
  refine ⟨fun q3 => ⟨fun q4 => ?_, fun q4 => ⟨pk_in 2 8 (by decide), fun q5 => ?_, fun q5 => ?_⟩⟩, fun q3 => ?_⟩
  · rw [if_neg q3, if_pos (Or.inl q4)] at h1; exact h1
  · rw [if_neg q3, if_neg (fun z => z.elim q4 (fun z => by omega))] at h1
    rw [nI_m1 (by omega), nI_clamp (by omega), mi.2.1 q4 (w - 1) (by show w - 1 < vB d; omega)]
    exact ⟨vp_in_nI (by omega) (by decide), h1⟩
  · rw [if_neg q3, if_pos (Or.inr (by omega))] at h1; exact h1
  · rw [if_pos q3] at h1; exact h1
theorem kM_isBall {Q : Int32 → St → Prop} {x : Int32} (hs : CurM σ d) (ho : OkD nr d) (h1 : ∀ b, b < vB d → x = nI b → Q 1 σ) (h0 : (∀ b, b < vB d → x ≠ nI b) → Q 0 σ) : K_BM_isBall g x σ Q := by
  have hB := ho.1.2.2.1
  refine ko_BM_isBall (sg_BM_isBall_0 ⟨pk_in 2 8 (by decide), ?_⟩)
  rw [cl2, hs.1.2.2.1]
  refine k_BM_in ?_
  have e := in_iff (x := x) (C := vB d) (by omega)
  by_cases q : (0 : Int64) ≤ x.toInt64 ∧ x.toInt64 ≤ (nI (vB d) - 1).toInt64
  · rw [if_pos q]
    obtain ⟨b, hb, rfl⟩ := e.mp q
    exact ⟨Or.inr rfl, h1 b hb rfl⟩
  · rw [if_neg q]
    exact ⟨Or.inl rfl, h0 (fun b hb z => q (e.mpr ⟨b, hb, z⟩))⟩
theorem kM_where {Q : Int64 → St → Prop} {x : Int32} (hs : CurM σ d) (ho : OkD nr d) (hr : RulM σ nr Ru) (h0 : (∀ b, b < vB d → x ≠ nI b) → Q (-1) σ) (h1 : ∀ b, b < vB d → x = nI b → ∀ τ r, fr [(151, 32), (151, 35), (151, 36), (151, 60)] [154, 170, 171, 172, 173, 174, 179, 185, 186, 187, 188] σ τ → RefT τ (cfg Ru d) (vP d) → (∀ k, k < 64 → sbit r k = (lisF (cfg Ru d) (vsd d) (vm d)).2.2.1 b k) → Q r τ) : K_BM_where g x σ Q := by
  have hB := ho.1.2.2.1
  refine ko_BM_where (sg_BM_where_0 (kM_isBall hs ho (fun b hb e => ⟨fun _ => ?_, fun z => absurd z (by decide)⟩) (fun q => ⟨fun z => absurd rfl z, fun _ => h0 q⟩)))
  subst e
  refine k_BM_findsFits (c := cfg Ru d) (P := vP d) (sd := vsd d) (m := vm d) (hs.toT ho hr) hs.1.2.2.2.2.2.1 ho.2.2.2.2.2.2.1 (fun k hk => ⟨ho.2.2.2.2.2.2.2.1 k hk, (hs.2.2.2.2 k hk).1, (hs.2.2.2.2 k hk).2.1, (hs.2.2.2.2 k hk).2.2⟩) (fun τ hf r mi => ⟨vp_in_nI (by omega) (by decide), ?_⟩)
  rw [nI_clamp (by omega)]
  exact h1 b hb rfl τ _ hf r (fun k hk => mi.2.2.1 b k hb hk)
theorem kM_tells {Q : Int32 → St → Prop} {x : Int32} (hs : CurM σ d) (ho : OkD nr d) (hr : RulM σ nr Ru) (h0 : (vC d = 0 ∨ ∀ n, n ≤ 1 → x ≠ nI n) → Q (-1) σ) (h1 : ∀ w, w ≤ 1 → x = nI w → vC d ≠ 0 → ∀ τ, fr [(151, 32), (151, 35), (151, 36), (151, 60)] [154, 170, 171, 172, 173, 174, 179, 185, 186, 187, 188] σ τ → RefT τ (cfg Ru d) (vP d) → Q (telV (lisF (cfg Ru d) (vsd d) (vm d)) w) τ) : K_BM_tells g x σ Q := by
  have hB := ho.1.2.2.1
  refine ko_BM_tells (sg_BM_tells_0 (kM_box hs ho (fun q => ⟨fun _ => h0 (Or.inl q), fun z => absurd rfl z⟩) (fun q => ⟨fun z => absurd z (by decide), fun _ => ?_⟩)))
  refine k_BM_inR 0 1 (by decide) (by decide) (by decide) (fun k _ hk ek => ⟨fun _ => ?_, fun z => absurd z (by decide)⟩) (fun q2 => ⟨fun z => absurd rfl z, fun _ => h0 (Or.inr (fun n hn => q2 n (Nat.zero_le _) hn))⟩)
  subst ek
  refine k_BM_findsFits (c := cfg Ru d) (P := vP d) (sd := vsd d) (m := vm d) (hs.toT ho hr) hs.1.2.2.2.2.2.1 ho.2.2.2.2.2.2.1 (fun k hk => ⟨ho.2.2.2.2.2.2.2.1 k hk, (hs.2.2.2.2 k hk).1, (hs.2.2.2.2 k hk).2.1, (hs.2.2.2.2 k hk).2.2⟩) (fun τ hf r mi => ?_)
  have h1 := h1 k hk rfl q τ hf r
  have lb := lisF_b (c := cfg Ru d) (sd := vsd d) (m := vm d) hB
  obtain ⟨st, hst⟩ : ∃ st, st = lisF (cfg Ru d) (vsd d) (vm d) := ⟨_, rfl⟩
  rw [← hst] at h1 lb mi
  have hz : nI st.1 = 0 ↔ st.1 = 0 := nI_eq (b := 0) (by have := lb.1; omega) (by decide)
  rw [mi.1, hz]
  unfold telV at h1
  refine ⟨fun q3 => ?_, fun q3 => by rw [if_pos q3] at h1; exact h1⟩
  rw [if_neg q3] at h1
  have mb : ∀ w i, mxG (grW st.2.2.2 w) i < 2 ^ 31 := by
    intro w i
    have : mxG (grW st.2.2.2 w) i ≤ 186624 := mxG_le (fun j _ => by have := lb.2 (16 * w + j); unfold grW; omega)
    omega
  have cb : ∀ w, (chG (grW st.2.2.2) w).2 < 2 ^ 31 := by
    intro w
    induction w with
    | zero => exact mb 0 16
    | succ w ih =>
      unfold chG
      split
      · exact mb _ _
      · exact ih
  -- the greatest of one way
  obtain ⟨fM, hfM⟩ : ∃ fM : Nat → Nat → Nat, fM = fun w i => st.2.2.2 (16 * w + i / 4 + 4 * (i % 4)) := ⟨_, rfl⟩
  have hperm : ∀ w, mxG (fM w) 16 = mxG (grW st.2.2.2 w) 16 := by
    intro w
    refine mxG_perm (π := fun i => i / 4 + 4 * (i % 4)) (fun i hi => ⟨by omega, by omega⟩) (fun i hi => ?_)
    rw [hfM]
    unfold grW
    dsimp only
    rw [Nat.add_assoc]
  have mbM : ∀ w i, mxG (fM w) i < 2 ^ 31 := by
    intro w i
    have : mxG (fM w) i ≤ 186624 := mxG_le (fun j _ => by have := lb.2 (16 * w + j / 4 + 4 * (j % 4)); rw [hfM]; dsimp only; omega)
    omega
  have inn : ∀ (w : Nat) (x2 x3 : Int32), w < 4 → S_BM_tells_52 g Q τ (nI k) x2 x3 (nI w) (nI (mxG (fM w) 16)) (nI 16) → ∀ (m i : Nat), i + m = 16 → S_BM_tells_52 g Q τ (nI k) x2 x3 (nI w) (nI (mxG (fM w) i)) (nI i) := by
    intro w x2 x3 hw hq m
    induction m with
    | zero => intro i hi; rw [show i = 16 by omega]; exact hq
    | succ m ih =>
      intro i hi
      refine sg_BM_tells_52 ⟨fun z => absurd z (nI_ge (b := 16) (by omega) (by decide)), fun _ => ?_⟩
      have e16 : (16 : Int32) * nI w + nI i = nI (16 * w + i) := by
        show nI 16 * nI w + nI i = _
        rw [pk_mul, nI_add]
      have hv : ai τ 186 (16 * w + i) = nI (fM w i) := by
        have := mi.2.2.2 w (i / 4) (i % 4) hw (by omega) (by omega)
        rw [show 16 * w + 4 * (i / 4) + i % 4 = 16 * w + i by omega] at this
        rw [this, hfM]
      have hfb : fM w i < 2 ^ 31 := by rw [hfM]; have := lb.2 (16 * w + i / 4 + 4 * (i % 4)); dsimp only; omega
      rw [e16, nI_clamp (by omega), hv]
      refine ⟨vp_in_nI (by omega) (by decide), ?_⟩
      rintro u rfl
      rw [nI_leI hfb (mbM w i)]
      have := ih (i + 1) (by omega)
      unfold mxG at this
      refine ⟨fun z => ?_, fun z => ?_⟩
      · rintro u rfl
        rw [if_neg (by omega)] at this
        rw [nI_1]; exact this
      · rintro u rfl
        rw [if_pos (by omega)] at this
        rw [nI_1]; exact this
  have fin : S_BM_tells_40 g Q τ (nI k) (nI (chG (grW st.2.2.2) 3).1) (nI (chG (grW st.2.2.2) 3).2) (nI 4) := by
    refine sg_BM_tells_40 ⟨fun _ => ?_, fun z => absurd (by decide) z⟩
    rcases (show k = 0 ∨ k = 1 by omega) with rfl | rfl
    · exact ⟨fun z => absurd rfl z, fun _ => h1⟩
    · exact ⟨fun _ => h1, fun z => absurd z (by decide)⟩
  have step : ∀ w, w + 1 < 4 → S_BM_tells_40 g Q τ (nI k) (nI (chG (grW st.2.2.2) (w + 1)).1) (nI (chG (grW st.2.2.2) (w + 1)).2) (nI (w + 2)) → S_BM_tells_40 g Q τ (nI k) (nI (chG (grW st.2.2.2) w).1) (nI (chG (grW st.2.2.2) w).2) (nI (w + 1)) := by
    intro w hw hq
    have hcw := chG_lt (f := grW st.2.2.2) w
    refine sg_BM_tells_40 ⟨fun z => absurd z (nI_ge (b := 4) hw (by decide)), fun _ => ?_⟩
    refine inn (w + 1) _ _ hw ?_ 16 0 rfl
    refine sg_BM_tells_52 ⟨fun _ => ⟨fun z => absurd z.symm (m1_ne (by omega)), fun _ => ?_⟩, fun z => absurd (by decide) z⟩
    rw [hperm, nI_leI (cb w) (mb (w + 1) 16)]
    have es : chG (grW st.2.2.2) (w + 1) = if mxG (grW st.2.2.2 (w + 1)) 16 < (chG (grW st.2.2.2) w).2 then (w + 1, mxG (grW st.2.2.2 (w + 1)) 16) else chG (grW st.2.2.2) w := rfl
    refine ⟨fun z => ?_, fun z => ?_⟩
    · rintro u rfl
      rw [if_neg (by omega)] at es
      rw [es] at hq
      rw [nI_1]; exact hq
    · rintro u rfl
      rw [if_pos (by omega)] at es
      rw [es] at hq
      rw [nI_1]; exact hq
  refine sg_BM_tells_40 ⟨fun z => absurd z (by decide), fun _ => ?_⟩
  refine inn 0 (-1) 0 (by decide) ?_ 16 0 rfl
  refine sg_BM_tells_52 ⟨fun _ => ⟨fun _ => ?_, fun z => absurd rfl z⟩, fun z => absurd (by decide) z⟩
  rintro u rfl
  rw [nI_1, hperm]
  exact step 0 (by decide) (step 1 (by decide) (step 2 (by decide) fin))
end
