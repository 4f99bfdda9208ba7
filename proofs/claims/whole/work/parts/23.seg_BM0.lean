theorem d_BM_in_0 : decode c_BM_in 0 = .ok (.lload_n 0, 1) := by decide +kernel
theorem d_BM_in_1 : decode c_BM_in 1 = .ok (.lload_n 2, 1) := by decide +kernel
theorem d_BM_in_2 : decode c_BM_in 2 = .ok (.lcmp, 1) := by decide +kernel
theorem d_BM_in_3 : decode c_BM_in 3 = .ok (.ifCond .lt 14, 3) := by decide +kernel
theorem d_BM_in_6 : decode c_BM_in 6 = .ok (.lload_n 0, 1) := by decide +kernel
theorem d_BM_in_7 : decode c_BM_in 7 = .ok (.lload 4, 2) := by decide +kernel
theorem d_BM_in_9 : decode c_BM_in 9 = .ok (.lcmp, 1) := by decide +kernel
theorem d_BM_in_10 : decode c_BM_in 10 = .ok (.ifCond .gt 7, 3) := by decide +kernel
theorem d_BM_in_13 : decode c_BM_in 13 = .ok (.iconst 1, 1) := by decide +kernel
theorem d_BM_in_14 : decode c_BM_in 14 = .ok (.goto 4, 3) := by decide +kernel
theorem d_BM_in_17 : decode c_BM_in 17 = .ok (.iconst 0, 1) := by decide +kernel
theorem d_BM_in_18 : decode c_BM_in 18 = .ok (.ireturn, 1) := by decide +kernel
def S_BM_in_0 (g : Gx) (Q : Int32 → St → Prop) (σ : St) (y0 : Int64) (y2 : Int64) (y4 : Int64) : Prop := Ax g m_BM_in 0 0 (ZI g Q) SH σ 0 0 0 [(0, .long y0), (2, .long y2), (4, .long y4)] []
theorem sg_BM_in_0 {g : Gx} {Q : Int32 → St → Prop} {σ : St} {y0 : Int64} {y2 : Int64} {y4 : Int64}
    (h : ((lg_cmp y0 y2) < 0 → Q (0 : Int32) σ) ∧ (¬ (lg_cmp y0 y2) < 0 → (0 < (lg_cmp y0 y4) → Q (0 : Int32) σ) ∧ (¬ 0 < (lg_cmp y0 y4) → Q (1 : Int32) σ))) : S_BM_in_0 g Q σ y0 y2 y4 := by
  show Ax g m_BM_in 0 0 (ZI g Q) SH σ 0 0 0 [(0, .long y0), (2, .long y2), (4, .long y4)] []
  refine a_lload_n (pc := 0) 0 rfl rfl d_BM_in_0 ?_
  refine a_lload_n (pc := 1) 1 rfl rfl d_BM_in_1 ?_
  refine a_lcmp (pc := 2) d_BM_in_2 ?_
  refine a_if_lt (pc := 3) 17 (by decide) d_BM_in_3 ⟨fun c0 => ?_, fun c0 => ?_⟩
  · replace h := h.1 c0
    refine a_iconst (pc := 17) (0 : Int32) (by decide) d_BM_in_17 ?_
    exact b_zret (pc := 18) rfl (Or.inl rfl) d_BM_in_18 h
  · replace h := h.2 c0
    refine a_lload_n (pc := 6) 0 rfl rfl d_BM_in_6 ?_
    refine a_lload (pc := 7) 2 rfl d_BM_in_7 ?_
    refine a_lcmp (pc := 9) d_BM_in_9 ?_
    refine a_if_gt (pc := 10) 17 (by decide) d_BM_in_10 ⟨fun c0 => ?_, fun c0 => ?_⟩
    · replace h := h.1 c0
      refine a_iconst (pc := 17) (0 : Int32) (by decide) d_BM_in_17 ?_
      exact b_zret (pc := 18) rfl (Or.inl rfl) d_BM_in_18 h
    · replace h := h.2 c0
      refine a_iconst (pc := 13) (1 : Int32) (by decide) d_BM_in_13 ?_
      refine a_goto (pc := 14) 18 (by decide) d_BM_in_14 ?_
      exact b_zret (pc := 18) rfl (Or.inr rfl) d_BM_in_18 h
theorem ko_BM_in {g : Gx}  {y0 : Int64} {y2 : Int64} {y4 : Int64} {σ : St} {Q : Int32 → St → Prop} (h : S_BM_in_0 g Q σ y0 y2 y4) : K_BM_in g y0 y2 y4 σ Q := KI.of (show plainName "BallBoxModel" = true by decide) (Nat.le_of_ble_eq_true rfl) h
theorem d_BM_apart_0 : decode c_BM_apart 0 = .ok (.iload_n 0, 1) := by decide +kernel
theorem d_BM_apart_1 : decode c_BM_apart 1 = .ok (.iload_n 1, 1) := by decide +kernel
theorem d_BM_apart_2 : decode c_BM_apart 2 = .ok (.if_icmp .ge 9, 3) := by decide +kernel
theorem d_BM_apart_5 : decode c_BM_apart 5 = .ok (.iload_n 1, 1) := by decide +kernel
theorem d_BM_apart_6 : decode c_BM_apart 6 = .ok (.iload_n 0, 1) := by decide +kernel
theorem d_BM_apart_7 : decode c_BM_apart 7 = .ok (.isub, 1) := by decide +kernel
theorem d_BM_apart_8 : decode c_BM_apart 8 = .ok (.goto 6, 3) := by decide +kernel
theorem d_BM_apart_11 : decode c_BM_apart 11 = .ok (.iload_n 0, 1) := by decide +kernel
theorem d_BM_apart_12 : decode c_BM_apart 12 = .ok (.iload_n 1, 1) := by decide +kernel
theorem d_BM_apart_13 : decode c_BM_apart 13 = .ok (.isub, 1) := by decide +kernel
theorem d_BM_apart_14 : decode c_BM_apart 14 = .ok (.ireturn, 1) := by decide +kernel
def S_BM_apart_0 (g : Gx) (Q : Int32 → St → Prop) (σ : St) (x0 : Int32) (x1 : Int32) : Prop := Ax g m_BM_apart 0 0 (ZI g Q) SH σ 0 0 0 [(0, .int x0), (1, .int x1)] []
theorem sg_BM_apart_0 {g : Gx} {Q : Int32 → St → Prop} {σ : St} {x0 : Int32} {x1 : Int32}
    (h : (x1 ≤ x0 → Q (x0 - x1) σ) ∧ (¬ x1 ≤ x0 → Q (x1 - x0) σ)) : S_BM_apart_0 g Q σ x0 x1 := by
  show Ax g m_BM_apart 0 0 (ZI g Q) SH σ 0 0 0 [(0, .int x0), (1, .int x1)] []
  refine a_iload_n (pc := 0) 0 rfl rfl d_BM_apart_0 ?_
  refine a_iload_n (pc := 1) 1 rfl rfl d_BM_apart_1 ?_
  refine a_icmp_ge (pc := 2) 11 (by decide) d_BM_apart_2 ⟨fun c0 => ?_, fun c0 => ?_⟩
  · replace h := h.1 c0
    refine a_iload_n (pc := 11) 0 rfl rfl d_BM_apart_11 ?_
    refine a_iload_n (pc := 12) 1 rfl rfl d_BM_apart_12 ?_
    refine a_isub (pc := 13) d_BM_apart_13 ?_
    exact b_iret (pc := 14) rfl d_BM_apart_14 h
  · replace h := h.2 c0
    refine a_iload_n (pc := 5) 1 rfl rfl d_BM_apart_5 ?_
    refine a_iload_n (pc := 6) 0 rfl rfl d_BM_apart_6 ?_
    refine a_isub (pc := 7) d_BM_apart_7 ?_
    refine a_goto (pc := 8) 14 (by decide) d_BM_apart_8 ?_
    exact b_iret (pc := 14) rfl d_BM_apart_14 h
theorem ko_BM_apart {g : Gx}  {x0 : Int32} {x1 : Int32} {σ : St} {Q : Int32 → St → Prop} (h : S_BM_apart_0 g Q σ x0 x1) : K_BM_apart g x0 x1 σ Q := KI.of (show plainName "BallBoxModel" = true by decide) (Nat.le_of_ble_eq_true rfl) h
theorem d_BM_divisor_0 : decode c_BM_divisor 0 = .ok (.lload_n 0, 1) := by decide +kernel
theorem d_BM_divisor_1 : decode c_BM_divisor 1 = .ok (.lstore 4, 2) := by decide +kernel
theorem d_BM_divisor_3 : decode c_BM_divisor 3 = .ok (.lload_n 2, 1) := by decide +kernel
theorem d_BM_divisor_4 : decode c_BM_divisor 4 = .ok (.lstore 6, 2) := by decide +kernel
theorem d_BM_divisor_6 : decode c_BM_divisor 6 = .ok (.lload 4, 2) := by decide +kernel
theorem d_BM_divisor_8 : decode c_BM_divisor 8 = .ok (.lconst 0, 1) := by decide +kernel
theorem d_BM_divisor_9 : decode c_BM_divisor 9 = .ok (.lcmp, 1) := by decide +kernel
theorem d_BM_divisor_10 : decode c_BM_divisor 10 = .ok (.ifCond .eq 21, 3) := by decide +kernel
theorem d_BM_divisor_13 : decode c_BM_divisor 13 = .ok (.lload 6, 2) := by decide +kernel
theorem d_BM_divisor_15 : decode c_BM_divisor 15 = .ok (.lload 4, 2) := by decide +kernel
theorem d_BM_divisor_17 : decode c_BM_divisor 17 = .ok (.lrem, 1) := by decide +kernel
theorem d_BM_divisor_18 : decode c_BM_divisor 18 = .ok (.lstore 8, 2) := by decide +kernel
theorem d_BM_divisor_20 : decode c_BM_divisor 20 = .ok (.lload 4, 2) := by decide +kernel
theorem d_BM_divisor_22 : decode c_BM_divisor 22 = .ok (.lstore 6, 2) := by decide +kernel
theorem d_BM_divisor_24 : decode c_BM_divisor 24 = .ok (.lload 8, 2) := by decide +kernel
theorem d_BM_divisor_26 : decode c_BM_divisor 26 = .ok (.lstore 4, 2) := by decide +kernel
theorem d_BM_divisor_28 : decode c_BM_divisor 28 = .ok (.goto (-22), 3) := by decide +kernel
theorem d_BM_divisor_31 : decode c_BM_divisor 31 = .ok (.lload 6, 2) := by decide +kernel
theorem d_BM_divisor_33 : decode c_BM_divisor 33 = .ok (.lreturn, 1) := by decide +kernel
def S_BM_divisor_0 (g : Gx) (Q : Int64 → St → Prop) (σ : St) (y0 : Int64) (y2 : Int64) : Prop := Ax g m_BM_divisor 0 0 (ZJ g Q) SH σ 0 0 0 [(0, .long y0), (2, .long y2)] []
def S_BM_divisor_6 (g : Gx) (Q : Int64 → St → Prop) (σ : St) (y4 : Int64) (y6 : Int64) : Prop := Ax g m_BM_divisor 0 0 (ZJ g Q) SH σ 0 0 6 [(4, .long y4), (6, .long y6)] []
theorem sg_BM_divisor_0 {g : Gx} {Q : Int64 → St → Prop} {σ : St} {y0 : Int64} {y2 : Int64}
    (h : S_BM_divisor_6 g Q σ y0 y2) : S_BM_divisor_0 g Q σ y0 y2 := by
  show Ax g m_BM_divisor 0 0 (ZJ g Q) SH σ 0 0 0 [(0, .long y0), (2, .long y2)] []
  refine a_lload_n (pc := 0) 0 rfl rfl d_BM_divisor_0 ?_
  refine a_lstore (pc := 1) (lv' := [(4, .long y0), (0, .long y0), (2, .long y2)]) (Nat.le_of_ble_eq_true rfl) rfl d_BM_divisor_1 ?_
  refine a_lload_n (pc := 3) 2 rfl rfl d_BM_divisor_3 ?_
  refine a_lstore (pc := 4) (lv' := [(6, .long y2), (4, .long y0), (0, .long y0), (2, .long y2)]) (Nat.le_of_ble_eq_true rfl) rfl d_BM_divisor_4 ?_
  refine a_sub (pc := 6) [1, 0] rfl ?_
  exact h
theorem sg_BM_divisor_6 {g : Gx} {Q : Int64 → St → Prop} {σ : St} {y4 : Int64} {y6 : Int64}
    (h : ((lg_cmp y4 (0 : Int64)) = 0 → Q y6 σ) ∧ (¬ (lg_cmp y4 (0 : Int64)) = 0 → ¬ y4 = 0 ∧ (∀ u1 : Int64, u1 = (y6 - y6 / y4 * y4) → S_BM_divisor_6 g Q σ u1 y4))) : S_BM_divisor_6 g Q σ y4 y6 := by
  show Ax g m_BM_divisor 0 0 (ZJ g Q) SH σ 0 0 6 [(4, .long y4), (6, .long y6)] []
  refine a_lload (pc := 6) 0 rfl d_BM_divisor_6 ?_
  refine a_lconst (pc := 8) (0 : Int64) (by decide) d_BM_divisor_8 ?_
  refine a_lcmp (pc := 9) d_BM_divisor_9 ?_
  refine a_if_eq (pc := 10) 31 (by decide) d_BM_divisor_10 ⟨fun c0 => ?_, fun c0 => ?_⟩
  · replace h := h.1 c0
    refine a_lload (pc := 31) 1 rfl d_BM_divisor_31 ?_
    exact b_lret (pc := 33) rfl d_BM_divisor_33 h
  · replace h := h.2 c0
    refine a_lload (pc := 13) 1 rfl d_BM_divisor_13 ?_
    refine a_lload (pc := 15) 0 rfl d_BM_divisor_15 ?_
    obtain ⟨hne, h⟩ := h
    refine a_lrem (pc := 17) hne d_BM_divisor_17 ?_
    refine a_nmj (pc := 18) (fun u1 hu1 => ?_)
    replace h := h u1 hu1
    refine a_lstore (pc := 18) (lv' := [(8, .long u1), (4, .long y4), (6, .long y6)]) (Nat.le_of_ble_eq_true rfl) rfl d_BM_divisor_18 ?_
    refine a_lload (pc := 20) 1 rfl d_BM_divisor_20 ?_
    refine a_lstore (pc := 22) (lv' := [(6, .long y4), (8, .long u1), (4, .long y4)]) (Nat.le_of_ble_eq_true rfl) rfl d_BM_divisor_22 ?_
    refine a_lload (pc := 24) 1 rfl d_BM_divisor_24 ?_
    refine a_lstore (pc := 26) (lv' := [(4, .long u1), (6, .long y4), (8, .long u1)]) (Nat.le_of_ble_eq_true rfl) rfl d_BM_divisor_26 ?_
    refine a_goto (pc := 28) 6 (by decide) d_BM_divisor_28 ?_
    refine a_sub (pc := 6) [0, 1] rfl ?_
    exact h
theorem ko_BM_divisor {g : Gx}  {y0 : Int64} {y2 : Int64} {σ : St} {Q : Int64 → St → Prop} (h : S_BM_divisor_0 g Q σ y0 y2) : K_BM_divisor g y0 y2 σ Q := KJ.of (show plainName "BallBoxModel" = true by decide) (Nat.le_of_ble_eq_true rfl) h
theorem d_BM_isBox_0 : decode c_BM_isBox 0 = .ok (.aload_n 0, 1) := by decide +kernel
theorem d_BM_isBox_1 : decode c_BM_isBox 1 = .ok (.getfield 9, 3) := by decide +kernel
theorem d_BM_isBox_4 : decode c_BM_isBox 4 = .ok (.iconst 0, 1) := by decide +kernel
theorem d_BM_isBox_5 : decode c_BM_isBox 5 = .ok (.iaload, 1) := by decide +kernel
theorem d_BM_isBox_6 : decode c_BM_isBox 6 = .ok (.ifCond .le 7, 3) := by decide +kernel
theorem d_BM_isBox_9 : decode c_BM_isBox 9 = .ok (.iconst 1, 1) := by decide +kernel
theorem d_BM_isBox_10 : decode c_BM_isBox 10 = .ok (.goto 4, 3) := by decide +kernel
theorem d_BM_isBox_13 : decode c_BM_isBox 13 = .ok (.iconst 0, 1) := by decide +kernel
theorem d_BM_isBox_14 : decode c_BM_isBox 14 = .ok (.ireturn, 1) := by decide +kernel
def S_BM_isBox_0 (g : Gx) (Q : Int32 → St → Prop) (σ : St) : Prop := Ax g m_BM_isBox 0 0 (ZI g Q) SH σ 0 0 0 [(0, .ref (gB g + 151))] []
theorem sg_BM_isBox_0 {g : Gx} {Q : Int32 → St → Prop} {σ : St}
    (h : vp_in (0 : Int32) 8 ∧ (((ai σ 152 ((0 : Int32)).toNatClampNeg) ≤ 0 → Q (0 : Int32) σ) ∧ (¬ (ai σ 152 ((0 : Int32)).toNatClampNeg) ≤ 0 → Q (1 : Int32) σ))) : S_BM_isBox_0 g Q σ := by
  show Ax g m_BM_isBox 0 0 (ZI g Q) SH σ 0 0 0 [(0, .ref (gB g + 151))] []
  refine a_aload_n (pc := 0) 0 rfl rfl d_BM_isBox_0 ?_
  refine a_getR (pc := 1) fg_BM_9 sx_151 rfl d_BM_isBox_1 ?_
  refine a_iconst (pc := 4) (0 : Int32) (by decide) d_BM_isBox_4 ?_
  obtain ⟨hx, h⟩ := h
  refine a_iald (pc := 5) sx_152 hx d_BM_isBox_5 ?_
  refine a_if_le (pc := 6) 13 (by decide) d_BM_isBox_6 ⟨fun c0 => ?_, fun c0 => ?_⟩
  · replace h := h.1 c0
    refine a_iconst (pc := 13) (0 : Int32) (by decide) d_BM_isBox_13 ?_
    exact b_zret (pc := 14) rfl (Or.inl rfl) d_BM_isBox_14 h
  · replace h := h.2 c0
    refine a_iconst (pc := 9) (1 : Int32) (by decide) d_BM_isBox_9 ?_
    refine a_goto (pc := 10) 14 (by decide) d_BM_isBox_10 ?_
    exact b_zret (pc := 14) rfl (Or.inr rfl) d_BM_isBox_14 h
theorem ko_BM_isBox {g : Gx}  {σ : St} {Q : Int32 → St → Prop} (h : S_BM_isBox_0 g Q σ) : K_BM_isBox g  σ Q := KI.of (show plainName "BallBoxModel" = true by decide) (Nat.le_of_ble_eq_true rfl) h
theorem d_BM_isCell_0 : decode c_BM_isCell 0 = .ok (.iload_n 1, 1) := by decide +kernel
theorem d_BM_isCell_1 : decode c_BM_isCell 1 = .ok (.i2l, 1) := by decide +kernel
theorem d_BM_isCell_2 : decode c_BM_isCell 2 = .ok (.lconst 0, 1) := by decide +kernel
theorem d_BM_isCell_3 : decode c_BM_isCell 3 = .ok (.aload_n 0, 1) := by decide +kernel
theorem d_BM_isCell_4 : decode c_BM_isCell 4 = .ok (.getfield 9, 3) := by decide +kernel
theorem d_BM_isCell_7 : decode c_BM_isCell 7 = .ok (.iconst 0, 1) := by decide +kernel
theorem d_BM_isCell_8 : decode c_BM_isCell 8 = .ok (.iaload, 1) := by decide +kernel
theorem d_BM_isCell_9 : decode c_BM_isCell 9 = .ok (.iconst 1, 1) := by decide +kernel
theorem d_BM_isCell_10 : decode c_BM_isCell 10 = .ok (.isub, 1) := by decide +kernel
theorem d_BM_isCell_11 : decode c_BM_isCell 11 = .ok (.i2l, 1) := by decide +kernel
theorem d_BM_isCell_12 : decode c_BM_isCell 12 = .ok (.invokestatic 162, 3) := by decide +kernel
theorem d_BM_isCell_15 : decode c_BM_isCell 15 = .ok (.ifCond .eq 25, 3) := by decide +kernel
theorem d_BM_isCell_18 : decode c_BM_isCell 18 = .ok (.iload_n 2, 1) := by decide +kernel
theorem d_BM_isCell_19 : decode c_BM_isCell 19 = .ok (.i2l, 1) := by decide +kernel
theorem d_BM_isCell_20 : decode c_BM_isCell 20 = .ok (.lconst 0, 1) := by decide +kernel
theorem d_BM_isCell_21 : decode c_BM_isCell 21 = .ok (.aload_n 0, 1) := by decide +kernel
theorem d_BM_isCell_22 : decode c_BM_isCell 22 = .ok (.getfield 9, 3) := by decide +kernel
theorem d_BM_isCell_25 : decode c_BM_isCell 25 = .ok (.iconst 1, 1) := by decide +kernel
theorem d_BM_isCell_26 : decode c_BM_isCell 26 = .ok (.iaload, 1) := by decide +kernel
theorem d_BM_isCell_27 : decode c_BM_isCell 27 = .ok (.iconst 1, 1) := by decide +kernel
theorem d_BM_isCell_28 : decode c_BM_isCell 28 = .ok (.isub, 1) := by decide +kernel
theorem d_BM_isCell_29 : decode c_BM_isCell 29 = .ok (.i2l, 1) := by decide +kernel
theorem d_BM_isCell_30 : decode c_BM_isCell 30 = .ok (.invokestatic 162, 3) := by decide +kernel
theorem d_BM_isCell_33 : decode c_BM_isCell 33 = .ok (.ifCond .eq 7, 3) := by decide +kernel
theorem d_BM_isCell_36 : decode c_BM_isCell 36 = .ok (.iconst 1, 1) := by decide +kernel
theorem d_BM_isCell_37 : decode c_BM_isCell 37 = .ok (.goto 4, 3) := by decide +kernel
theorem d_BM_isCell_40 : decode c_BM_isCell 40 = .ok (.iconst 0, 1) := by decide +kernel
theorem d_BM_isCell_41 : decode c_BM_isCell 41 = .ok (.ireturn, 1) := by decide +kernel
def S_BM_isCell_0 (g : Gx) (Q : Int32 → St → Prop) (σ : St) (x1 : Int32) (x2 : Int32) : Prop := Ax g m_BM_isCell 0 0 (ZI g Q) SH σ 0 0 0 [(0, .ref (gB g + 151)), (1, .int x1), (2, .int x2)] []
theorem sg_BM_isCell_0 {g : Gx} {Q : Int32 → St → Prop} {σ : St} {x1 : Int32} {x2 : Int32}
    (h : vp_in (0 : Int32) 8 ∧ (K_BM_in g ((x1).toInt64) (0 : Int64) ((((ai σ 152 ((0 : Int32)).toNatClampNeg) - (1 : Int32))).toInt64) σ (fun (r2 : Int32) (s1 : St) => (r2 = 0 → Q (0 : Int32) s1) ∧ (¬ r2 = 0 → vp_in (1 : Int32) 8 ∧ (K_BM_in g ((x2).toInt64) (0 : Int64) ((((ai s1 152 ((1 : Int32)).toNatClampNeg) - (1 : Int32))).toInt64) s1 (fun (r4 : Int32) (s3 : St) => (r4 = 0 → Q (0 : Int32) s3) ∧ (¬ r4 = 0 → Q (1 : Int32) s3))))))) : S_BM_isCell_0 g Q σ x1 x2 := by
  show Ax g m_BM_isCell 0 0 (ZI g Q) SH σ 0 0 0 [(0, .ref (gB g + 151)), (1, .int x1), (2, .int x2)] []
  refine a_iload_n (pc := 0) 1 rfl rfl d_BM_isCell_0 ?_
  refine a_i2l (pc := 1) d_BM_isCell_1 ?_
  refine a_lconst (pc := 2) (0 : Int64) (by decide) d_BM_isCell_2 ?_
  refine a_aload_n (pc := 3) 0 rfl rfl d_BM_isCell_3 ?_
  refine a_getR (pc := 4) fg_BM_9 sx_151 rfl d_BM_isCell_4 ?_
  refine a_iconst (pc := 7) (0 : Int32) (by decide) d_BM_isCell_7 ?_
  obtain ⟨hx, h⟩ := h
  refine a_iald (pc := 8) sx_152 hx d_BM_isCell_8 ?_
  refine a_iconst (pc := 9) (1 : Int32) (by decide) d_BM_isCell_9 ?_
  refine a_isub (pc := 10) d_BM_isCell_10 ?_
  refine a_i2l (pc := 11) d_BM_isCell_11 ?_
  refine a_callS (pc := 12) (M' := m_BM_in) (As := [.long ((x1).toInt64), .long (0 : Int64), .long ((((ai σ 152 ((0 : Int32)).toNatClampNeg) - (1 : Int32))).toInt64)]) (st := []) (mc' := 0) (ms' := 0) lk_BM_162 rfl (by decide) (by decide) rfl (Nat.le_of_ble_eq_true rfl) (Nat.le_refl 0) (Nat.le_refl 0) d_BM_isCell_12 h ?_
  rintro _ _ s1 ⟨r2, rfl, rfl, h⟩ -
  show Ax g m_BM_isCell 0 0 (ZI g Q) SH s1 0 0 15 [(0, .ref (gB g + 151)), (1, .int x1), (2, .int x2)] [.int r2]
  refine a_if_eq (pc := 15) 40 (by decide) d_BM_isCell_15 ⟨fun c0 => ?_, fun c0 => ?_⟩
  · replace h := h.1 c0
    refine a_iconst (pc := 40) (0 : Int32) (by decide) d_BM_isCell_40 ?_
    exact b_zret (pc := 41) rfl (Or.inl rfl) d_BM_isCell_41 h
  · replace h := h.2 c0
    refine a_iload_n (pc := 18) 2 rfl rfl d_BM_isCell_18 ?_
    refine a_i2l (pc := 19) d_BM_isCell_19 ?_
    refine a_lconst (pc := 20) (0 : Int64) (by decide) d_BM_isCell_20 ?_
    refine a_aload_n (pc := 21) 0 rfl rfl d_BM_isCell_21 ?_
    refine a_getR (pc := 22) fg_BM_9 sx_151 rfl d_BM_isCell_22 ?_
    refine a_iconst (pc := 25) (1 : Int32) (by decide) d_BM_isCell_25 ?_
    obtain ⟨hx, h⟩ := h
    refine a_iald (pc := 26) sx_152 hx d_BM_isCell_26 ?_
    refine a_iconst (pc := 27) (1 : Int32) (by decide) d_BM_isCell_27 ?_
    refine a_isub (pc := 28) d_BM_isCell_28 ?_
    refine a_i2l (pc := 29) d_BM_isCell_29 ?_
    refine a_callS (pc := 30) (M' := m_BM_in) (As := [.long ((x2).toInt64), .long (0 : Int64), .long ((((ai s1 152 ((1 : Int32)).toNatClampNeg) - (1 : Int32))).toInt64)]) (st := []) (mc' := 0) (ms' := 0) lk_BM_162 rfl (by decide) (by decide) rfl (Nat.le_of_ble_eq_true rfl) (Nat.le_refl 0) (Nat.le_refl 0) d_BM_isCell_30 h ?_
    rintro _ _ s3 ⟨r4, rfl, rfl, h⟩ -
    show Ax g m_BM_isCell 0 0 (ZI g Q) SH s3 0 0 33 [(0, .ref (gB g + 151)), (1, .int x1), (2, .int x2)] [.int r4]
    refine a_if_eq (pc := 33) 40 (by decide) d_BM_isCell_33 ⟨fun c0 => ?_, fun c0 => ?_⟩
    · replace h := h.1 c0
      refine a_iconst (pc := 40) (0 : Int32) (by decide) d_BM_isCell_40 ?_
      exact b_zret (pc := 41) rfl (Or.inl rfl) d_BM_isCell_41 h
    · replace h := h.2 c0
      refine a_iconst (pc := 36) (1 : Int32) (by decide) d_BM_isCell_36 ?_
      refine a_goto (pc := 37) 41 (by decide) d_BM_isCell_37 ?_
      exact b_zret (pc := 41) rfl (Or.inr rfl) d_BM_isCell_41 h
theorem ko_BM_isCell {g : Gx}  {x1 : Int32} {x2 : Int32} {σ : St} {Q : Int32 → St → Prop} (h : S_BM_isCell_0 g Q σ x1 x2) : K_BM_isCell g x1 x2 σ Q := KI.of (show plainName "BallBoxModel" = true by decide) (Nat.le_of_ble_eq_true rfl) h
theorem d_BM_isThere_0 : decode c_BM_isThere 0 = .ok (.aload_n 0, 1) := by decide +kernel
theorem d_BM_isThere_1 : decode c_BM_isThere 1 = .ok (.iload_n 1, 1) := by decide +kernel
theorem d_BM_isThere_2 : decode c_BM_isThere 2 = .ok (.bipush 6, 2) := by decide +kernel
theorem d_BM_isThere_4 : decode c_BM_isThere 4 = .ok (.irem, 1) := by decide +kernel
theorem d_BM_isThere_5 : decode c_BM_isThere 5 = .ok (.iload_n 1, 1) := by decide +kernel
theorem d_BM_isThere_6 : decode c_BM_isThere 6 = .ok (.bipush 6, 2) := by decide +kernel
theorem d_BM_isThere_8 : decode c_BM_isThere 8 = .ok (.idiv, 1) := by decide +kernel
theorem d_BM_isThere_9 : decode c_BM_isThere 9 = .ok (.invokevirtual 166, 3) := by decide +kernel
theorem d_BM_isThere_12 : decode c_BM_isThere 12 = .ok (.ireturn, 1) := by decide +kernel
def S_BM_isThere_0 (g : Gx) (Q : Int32 → St → Prop) (σ : St) (x1 : Int32) : Prop := Ax g m_BM_isThere 0 0 (ZI g Q) SH σ 0 0 0 [(0, .ref (gB g + 151)), (1, .int x1)] []
theorem sg_BM_isThere_0 {g : Gx} {Q : Int32 → St → Prop} {σ : St} {x1 : Int32}
    (h : K_BM_isCell g (x1 - x1 / (6 : Int32) * (6 : Int32)) (x1 / (6 : Int32)) σ (fun (r2 : Int32) (s1 : St) => (r2 = 0 ∨ r2 = 1) ∧ Q r2 s1)) : S_BM_isThere_0 g Q σ x1 := by
  show Ax g m_BM_isThere 0 0 (ZI g Q) SH σ 0 0 0 [(0, .ref (gB g + 151)), (1, .int x1)] []
  refine a_aload_n (pc := 0) 0 rfl rfl d_BM_isThere_0 ?_
  refine a_iload_n (pc := 1) 1 rfl rfl d_BM_isThere_1 ?_
  refine a_bipush (pc := 2) (6 : Int32) (by decide) d_BM_isThere_2 ?_
  refine a_irem (pc := 4) (by decide) d_BM_isThere_4 ?_
  refine a_iload_n (pc := 5) 1 rfl rfl d_BM_isThere_5 ?_
  refine a_bipush (pc := 6) (6 : Int32) (by decide) d_BM_isThere_6 ?_
  refine a_idiv (pc := 8) (by decide) d_BM_isThere_8 ?_
  refine a_callV (pc := 9) (M' := m_BM_isCell) (As := [.int (x1 - x1 / (6 : Int32) * (6 : Int32)), .int (x1 / (6 : Int32))]) (st := []) (mc' := 0) (ms' := 0) lk_BM_166 rfl sx_151 rfl (by decide) (by decide) rfl (Nat.le_of_ble_eq_true rfl) (Nat.le_refl 0) (Nat.le_refl 0) d_BM_isThere_9 h ?_
  rintro _ _ s1 ⟨r2, rfl, rfl, h⟩ -
  show Ax g m_BM_isThere 0 0 (ZI g Q) SH s1 0 0 12 [(0, .ref (gB g + 151)), (1, .int x1)] [.int r2]
  exact b_zret (pc := 12) rfl h.1 d_BM_isThere_12 h.2
theorem ko_BM_isThere {g : Gx}  {x1 : Int32} {σ : St} {Q : Int32 → St → Prop} (h : S_BM_isThere_0 g Q σ x1) : K_BM_isThere g x1 σ Q := KI.of (show plainName "BallBoxModel" = true by decide) (Nat.le_of_ble_eq_true rfl) h
theorem d_BM_isBall_0 : decode c_BM_isBall 0 = .ok (.iload_n 1, 1) := by decide +kernel
theorem d_BM_isBall_1 : decode c_BM_isBall 1 = .ok (.i2l, 1) := by decide +kernel
theorem d_BM_isBall_2 : decode c_BM_isBall 2 = .ok (.lconst 0, 1) := by decide +kernel
theorem d_BM_isBall_3 : decode c_BM_isBall 3 = .ok (.aload_n 0, 1) := by decide +kernel
theorem d_BM_isBall_4 : decode c_BM_isBall 4 = .ok (.getfield 9, 3) := by decide +kernel
theorem d_BM_isBall_7 : decode c_BM_isBall 7 = .ok (.iconst 2, 1) := by decide +kernel
theorem d_BM_isBall_8 : decode c_BM_isBall 8 = .ok (.iaload, 1) := by decide +kernel
theorem d_BM_isBall_9 : decode c_BM_isBall 9 = .ok (.iconst 1, 1) := by decide +kernel
theorem d_BM_isBall_10 : decode c_BM_isBall 10 = .ok (.isub, 1) := by decide +kernel
theorem d_BM_isBall_11 : decode c_BM_isBall 11 = .ok (.i2l, 1) := by decide +kernel
theorem d_BM_isBall_12 : decode c_BM_isBall 12 = .ok (.invokestatic 162, 3) := by decide +kernel
theorem d_BM_isBall_15 : decode c_BM_isBall 15 = .ok (.ireturn, 1) := by decide +kernel
def S_BM_isBall_0 (g : Gx) (Q : Int32 → St → Prop) (σ : St) (x1 : Int32) : Prop := Ax g m_BM_isBall 0 0 (ZI g Q) SH σ 0 0 0 [(0, .ref (gB g + 151)), (1, .int x1)] []
theorem sg_BM_isBall_0 {g : Gx} {Q : Int32 → St → Prop} {σ : St} {x1 : Int32}
    (h : vp_in (2 : Int32) 8 ∧ (K_BM_in g ((x1).toInt64) (0 : Int64) ((((ai σ 152 ((2 : Int32)).toNatClampNeg) - (1 : Int32))).toInt64) σ (fun (r2 : Int32) (s1 : St) => (r2 = 0 ∨ r2 = 1) ∧ Q r2 s1))) : S_BM_isBall_0 g Q σ x1 := by
  show Ax g m_BM_isBall 0 0 (ZI g Q) SH σ 0 0 0 [(0, .ref (gB g + 151)), (1, .int x1)] []
  refine a_iload_n (pc := 0) 1 rfl rfl d_BM_isBall_0 ?_
  refine a_i2l (pc := 1) d_BM_isBall_1 ?_
  refine a_lconst (pc := 2) (0 : Int64) (by decide) d_BM_isBall_2 ?_
  refine a_aload_n (pc := 3) 0 rfl rfl d_BM_isBall_3 ?_
  refine a_getR (pc := 4) fg_BM_9 sx_151 rfl d_BM_isBall_4 ?_
  refine a_iconst (pc := 7) (2 : Int32) (by decide) d_BM_isBall_7 ?_
  obtain ⟨hx, h⟩ := h
  refine a_iald (pc := 8) sx_152 hx d_BM_isBall_8 ?_
  refine a_iconst (pc := 9) (1 : Int32) (by decide) d_BM_isBall_9 ?_
  refine a_isub (pc := 10) d_BM_isBall_10 ?_
  refine a_i2l (pc := 11) d_BM_isBall_11 ?_
  refine a_callS (pc := 12) (M' := m_BM_in) (As := [.long ((x1).toInt64), .long (0 : Int64), .long ((((ai σ 152 ((2 : Int32)).toNatClampNeg) - (1 : Int32))).toInt64)]) (st := []) (mc' := 0) (ms' := 0) lk_BM_162 rfl (by decide) (by decide) rfl (Nat.le_of_ble_eq_true rfl) (Nat.le_refl 0) (Nat.le_refl 0) d_BM_isBall_12 h ?_
  rintro _ _ s1 ⟨r2, rfl, rfl, h⟩ -
  show Ax g m_BM_isBall 0 0 (ZI g Q) SH s1 0 0 15 [(0, .ref (gB g + 151)), (1, .int x1)] [.int r2]
  exact b_zret (pc := 15) rfl h.1 d_BM_isBall_15 h.2
theorem ko_BM_isBall {g : Gx}  {x1 : Int32} {σ : St} {Q : Int32 → St → Prop} (h : S_BM_isBall_0 g Q σ x1) : K_BM_isBall g x1 σ Q := KI.of (show plainName "BallBoxModel" = true by decide) (Nat.le_of_ble_eq_true rfl) h
theorem d_BM_whoAt_0 : decode c_BM_whoAt 0 = .ok (.iconst 0, 1) := by decide +kernel
theorem d_BM_whoAt_1 : decode c_BM_whoAt 1 = .ok (.istore_n 2, 1) := by decide +kernel
theorem d_BM_whoAt_2 : decode c_BM_whoAt 2 = .ok (.iload_n 2, 1) := by decide +kernel
theorem d_BM_whoAt_3 : decode c_BM_whoAt 3 = .ok (.aload_n 0, 1) := by decide +kernel
theorem d_BM_whoAt_4 : decode c_BM_whoAt 4 = .ok (.getfield 9, 3) := by decide +kernel
theorem d_BM_whoAt_7 : decode c_BM_whoAt 7 = .ok (.iconst 2, 1) := by decide +kernel
theorem d_BM_whoAt_8 : decode c_BM_whoAt 8 = .ok (.iaload, 1) := by decide +kernel
theorem d_BM_whoAt_9 : decode c_BM_whoAt 9 = .ok (.if_icmp .ge 21, 3) := by decide +kernel
theorem d_BM_whoAt_12 : decode c_BM_whoAt 12 = .ok (.aload_n 0, 1) := by decide +kernel
theorem d_BM_whoAt_13 : decode c_BM_whoAt 13 = .ok (.getfield 16, 3) := by decide +kernel
theorem d_BM_whoAt_16 : decode c_BM_whoAt 16 = .ok (.iload_n 2, 1) := by decide +kernel
theorem d_BM_whoAt_17 : decode c_BM_whoAt 17 = .ok (.iaload, 1) := by decide +kernel
theorem d_BM_whoAt_18 : decode c_BM_whoAt 18 = .ok (.iload_n 1, 1) := by decide +kernel
theorem d_BM_whoAt_19 : decode c_BM_whoAt 19 = .ok (.if_icmp .ne 5, 3) := by decide +kernel
theorem d_BM_whoAt_22 : decode c_BM_whoAt 22 = .ok (.iload_n 2, 1) := by decide +kernel
theorem d_BM_whoAt_23 : decode c_BM_whoAt 23 = .ok (.ireturn, 1) := by decide +kernel
theorem d_BM_whoAt_24 : decode c_BM_whoAt 24 = .ok (.iinc 2 1, 3) := by decide +kernel
theorem d_BM_whoAt_27 : decode c_BM_whoAt 27 = .ok (.goto (-25), 3) := by decide +kernel
theorem d_BM_whoAt_30 : decode c_BM_whoAt 30 = .ok (.iconst (-1), 1) := by decide +kernel
theorem d_BM_whoAt_31 : decode c_BM_whoAt 31 = .ok (.ireturn, 1) := by decide +kernel
def S_BM_whoAt_0 (g : Gx) (Q : Int32 → St → Prop) (σ : St) (x1 : Int32) : Prop := Ax g m_BM_whoAt 0 0 (ZI g Q) SH σ 0 0 0 [(0, .ref (gB g + 151)), (1, .int x1)] []
def S_BM_whoAt_2 (g : Gx) (Q : Int32 → St → Prop) (σ : St) (x1 : Int32) (x2 : Int32) : Prop := Ax g m_BM_whoAt 0 0 (ZI g Q) SH σ 0 0 2 [(0, .ref (gB g + 151)), (1, .int x1), (2, .int x2)] []
theorem sg_BM_whoAt_0 {g : Gx} {Q : Int32 → St → Prop} {σ : St} {x1 : Int32}
    (h : S_BM_whoAt_2 g Q σ x1 (0 : Int32)) : S_BM_whoAt_0 g Q σ x1 := by
  show Ax g m_BM_whoAt 0 0 (ZI g Q) SH σ 0 0 0 [(0, .ref (gB g + 151)), (1, .int x1)] []
  refine a_iconst (pc := 0) (0 : Int32) (by decide) d_BM_whoAt_0 ?_
  refine a_istore_n (pc := 1) (lv' := [(2, .int (0 : Int32)), (0, .ref (gB g + 151)), (1, .int x1)]) rfl (Nat.le_of_ble_eq_true rfl) rfl d_BM_whoAt_1 ?_
  refine a_sub (pc := 2) [1, 2, 0] rfl ?_
  exact h
theorem sg_BM_whoAt_2 {g : Gx} {Q : Int32 → St → Prop} {σ : St} {x1 : Int32} {x2 : Int32}
    (h : vp_in (2 : Int32) 8 ∧ (((ai σ 152 ((2 : Int32)).toNatClampNeg) ≤ x2 → Q (-1 : Int32) σ) ∧ (¬ (ai σ 152 ((2 : Int32)).toNatClampNeg) ≤ x2 → vp_in x2 3 ∧ ((¬ (ai σ 154 (x2).toNatClampNeg) = x1 → ∀ u1 : Int32, u1 = x2 + (1 : Int32) → S_BM_whoAt_2 g Q σ x1 u1) ∧ ((ai σ 154 (x2).toNatClampNeg) = x1 → Q x2 σ))))) : S_BM_whoAt_2 g Q σ x1 x2 := by
  show Ax g m_BM_whoAt 0 0 (ZI g Q) SH σ 0 0 2 [(0, .ref (gB g + 151)), (1, .int x1), (2, .int x2)] []
  refine a_iload_n (pc := 2) 2 rfl rfl d_BM_whoAt_2 ?_
  refine a_aload_n (pc := 3) 0 rfl rfl d_BM_whoAt_3 ?_
  refine a_getR (pc := 4) fg_BM_9 sx_151 rfl d_BM_whoAt_4 ?_
  refine a_iconst (pc := 7) (2 : Int32) (by decide) d_BM_whoAt_7 ?_
  obtain ⟨hx, h⟩ := h
  refine a_iald (pc := 8) sx_152 hx d_BM_whoAt_8 ?_
  refine a_icmp_ge (pc := 9) 30 (by decide) d_BM_whoAt_9 ⟨fun c0 => ?_, fun c0 => ?_⟩
  · replace h := h.1 c0
    refine a_iconst (pc := 30) (-1 : Int32) (by decide) d_BM_whoAt_30 ?_
    exact b_iret (pc := 31) rfl d_BM_whoAt_31 h
  · replace h := h.2 c0
    refine a_aload_n (pc := 12) 0 rfl rfl d_BM_whoAt_12 ?_
    refine a_getR (pc := 13) fg_BM_16 sx_151 rfl d_BM_whoAt_13 ?_
    refine a_iload_n (pc := 16) 2 rfl rfl d_BM_whoAt_16 ?_
    obtain ⟨hx, h⟩ := h
    refine a_iald (pc := 17) sx_154 hx d_BM_whoAt_17 ?_
    refine a_iload_n (pc := 18) 1 rfl rfl d_BM_whoAt_18 ?_
    refine a_icmp_ne (pc := 19) 24 (by decide) d_BM_whoAt_19 ⟨fun c0 => ?_, fun c0 => ?_⟩
    · replace h := h.1 c0
      obtain ⟨u1, hu1⟩ : ∃ y : Int32, y = x2 + (1 : Int32) := ⟨_, rfl⟩
      replace h := h u1 hu1
      refine a_iinc (pc := 24) (v := u1) (lv' := [(2, .int u1), (0, .ref (gB g + 151)), (1, .int x1)]) 2 rfl (by rw [hu1]; rfl) (Nat.le_of_ble_eq_true rfl) rfl d_BM_whoAt_24 ?_
      refine a_goto (pc := 27) 2 (by decide) d_BM_whoAt_27 ?_
      refine a_sub (pc := 2) [1, 2, 0] rfl ?_
      exact h
    · replace h := h.2 c0
      refine a_iload_n (pc := 22) 2 rfl rfl d_BM_whoAt_22 ?_
      exact b_iret (pc := 23) rfl d_BM_whoAt_23 h
theorem ko_BM_whoAt {g : Gx}  {x1 : Int32} {σ : St} {Q : Int32 → St → Prop} (h : S_BM_whoAt_0 g Q σ x1) : K_BM_whoAt g x1 σ Q := KI.of (show plainName "BallBoxModel" = true by decide) (Nat.le_of_ble_eq_true rfl) h
theorem d_BM_isFree_0 : decode c_BM_isFree 0 = .ok (.aload_n 0, 1) := by decide +kernel
theorem d_BM_isFree_1 : decode c_BM_isFree 1 = .ok (.iload_n 1, 1) := by decide +kernel
theorem d_BM_isFree_2 : decode c_BM_isFree 2 = .ok (.invokevirtual 170, 3) := by decide +kernel
theorem d_BM_isFree_5 : decode c_BM_isFree 5 = .ok (.ifCond .eq 25, 3) := by decide +kernel
theorem d_BM_isFree_8 : decode c_BM_isFree 8 = .ok (.aload_n 0, 1) := by decide +kernel
theorem d_BM_isFree_9 : decode c_BM_isFree 9 = .ok (.getfield 13, 3) := by decide +kernel
theorem d_BM_isFree_12 : decode c_BM_isFree 12 = .ok (.iload_n 1, 1) := by decide +kernel
theorem d_BM_isFree_13 : decode c_BM_isFree 13 = .ok (.iaload, 1) := by decide +kernel
theorem d_BM_isFree_14 : decode c_BM_isFree 14 = .ok (.ifCond .ne 16, 3) := by decide +kernel
theorem d_BM_isFree_17 : decode c_BM_isFree 17 = .ok (.aload_n 0, 1) := by decide +kernel
theorem d_BM_isFree_18 : decode c_BM_isFree 18 = .ok (.iload_n 1, 1) := by decide +kernel
theorem d_BM_isFree_19 : decode c_BM_isFree 19 = .ok (.invokevirtual 174, 3) := by decide +kernel
theorem d_BM_isFree_22 : decode c_BM_isFree 22 = .ok (.iconst (-1), 1) := by decide +kernel
theorem d_BM_isFree_23 : decode c_BM_isFree 23 = .ok (.if_icmp .ne 7, 3) := by decide +kernel
theorem d_BM_isFree_26 : decode c_BM_isFree 26 = .ok (.iconst 1, 1) := by decide +kernel
theorem d_BM_isFree_27 : decode c_BM_isFree 27 = .ok (.goto 4, 3) := by decide +kernel
theorem d_BM_isFree_30 : decode c_BM_isFree 30 = .ok (.iconst 0, 1) := by decide +kernel
theorem d_BM_isFree_31 : decode c_BM_isFree 31 = .ok (.ireturn, 1) := by decide +kernel
def S_BM_isFree_0 (g : Gx) (Q : Int32 → St → Prop) (σ : St) (x1 : Int32) : Prop := Ax g m_BM_isFree 0 0 (ZI g Q) SH σ 0 0 0 [(0, .ref (gB g + 151)), (1, .int x1)] []
theorem sg_BM_isFree_0 {g : Gx} {Q : Int32 → St → Prop} {σ : St} {x1 : Int32}
    (h : K_BM_isThere g x1 σ (fun (r2 : Int32) (s1 : St) => (r2 = 0 → Q (0 : Int32) s1) ∧ (¬ r2 = 0 → vp_in x1 36 ∧ ((¬ (ai s1 153 (x1).toNatClampNeg) = 0 → Q (0 : Int32) s1) ∧ ((ai s1 153 (x1).toNatClampNeg) = 0 → K_BM_whoAt g x1 s1 (fun (r4 : Int32) (s3 : St) => (¬ r4 = (-1 : Int32) → Q (0 : Int32) s3) ∧ (r4 = (-1 : Int32) → Q (1 : Int32) s3))))))) : S_BM_isFree_0 g Q σ x1 := by
  show Ax g m_BM_isFree 0 0 (ZI g Q) SH σ 0 0 0 [(0, .ref (gB g + 151)), (1, .int x1)] []
  refine a_aload_n (pc := 0) 0 rfl rfl d_BM_isFree_0 ?_
  refine a_iload_n (pc := 1) 1 rfl rfl d_BM_isFree_1 ?_
  refine a_callV (pc := 2) (M' := m_BM_isThere) (As := [.int x1]) (st := []) (mc' := 0) (ms' := 0) lk_BM_170 rfl sx_151 rfl (by decide) (by decide) rfl (Nat.le_of_ble_eq_true rfl) (Nat.le_refl 0) (Nat.le_refl 0) d_BM_isFree_2 h ?_
  rintro _ _ s1 ⟨r2, rfl, rfl, h⟩ -
  show Ax g m_BM_isFree 0 0 (ZI g Q) SH s1 0 0 5 [(0, .ref (gB g + 151)), (1, .int x1)] [.int r2]
  refine a_if_eq (pc := 5) 30 (by decide) d_BM_isFree_5 ⟨fun c0 => ?_, fun c0 => ?_⟩
  · replace h := h.1 c0
    refine a_iconst (pc := 30) (0 : Int32) (by decide) d_BM_isFree_30 ?_
    exact b_zret (pc := 31) rfl (Or.inl rfl) d_BM_isFree_31 h
  · replace h := h.2 c0
    refine a_aload_n (pc := 8) 0 rfl rfl d_BM_isFree_8 ?_
    refine a_getR (pc := 9) fg_BM_13 sx_151 rfl d_BM_isFree_9 ?_
    refine a_iload_n (pc := 12) 1 rfl rfl d_BM_isFree_12 ?_
    obtain ⟨hx, h⟩ := h
    refine a_iald (pc := 13) sx_153 hx d_BM_isFree_13 ?_
    refine a_if_ne (pc := 14) 30 (by decide) d_BM_isFree_14 ⟨fun c0 => ?_, fun c0 => ?_⟩
    · replace h := h.1 c0
      refine a_iconst (pc := 30) (0 : Int32) (by decide) d_BM_isFree_30 ?_
      exact b_zret (pc := 31) rfl (Or.inl rfl) d_BM_isFree_31 h
    · replace h := h.2 c0
      refine a_aload_n (pc := 17) 0 rfl rfl d_BM_isFree_17 ?_
      refine a_iload_n (pc := 18) 1 rfl rfl d_BM_isFree_18 ?_
      refine a_callV (pc := 19) (M' := m_BM_whoAt) (As := [.int x1]) (st := []) (mc' := 0) (ms' := 0) lk_BM_174 rfl sx_151 rfl (by decide) (by decide) rfl (Nat.le_of_ble_eq_true rfl) (Nat.le_refl 0) (Nat.le_refl 0) d_BM_isFree_19 h ?_
      rintro _ _ s3 ⟨r4, rfl, rfl, h⟩ -
      show Ax g m_BM_isFree 0 0 (ZI g Q) SH s3 0 0 22 [(0, .ref (gB g + 151)), (1, .int x1)] [.int r4]
      refine a_iconst (pc := 22) (-1 : Int32) (by decide) d_BM_isFree_22 ?_
      refine a_icmp_ne (pc := 23) 30 (by decide) d_BM_isFree_23 ⟨fun c0 => ?_, fun c0 => ?_⟩
      · replace h := h.1 c0
        refine a_iconst (pc := 30) (0 : Int32) (by decide) d_BM_isFree_30 ?_
        exact b_zret (pc := 31) rfl (Or.inl rfl) d_BM_isFree_31 h
      · replace h := h.2 c0
        refine a_iconst (pc := 26) (1 : Int32) (by decide) d_BM_isFree_26 ?_
        refine a_goto (pc := 27) 31 (by decide) d_BM_isFree_27 ?_
        exact b_zret (pc := 31) rfl (Or.inr rfl) d_BM_isFree_31 h
theorem ko_BM_isFree {g : Gx}  {x1 : Int32} {σ : St} {Q : Int32 → St → Prop} (h : S_BM_isFree_0 g Q σ x1) : K_BM_isFree g x1 σ Q := KI.of (show plainName "BallBoxModel" = true by decide) (Nat.le_of_ble_eq_true rfl) h
theorem d_BM_by_0 : decode c_BM_by 0 = .ok (.iload_n 1, 1) := by decide +kernel
theorem d_BM_by_1 : decode c_BM_by 1 = .ok (.bipush 6, 2) := by decide +kernel
theorem d_BM_by_3 : decode c_BM_by 3 = .ok (.irem, 1) := by decide +kernel
theorem d_BM_by_4 : decode c_BM_by 4 = .ok (.iload_n 2, 1) := by decide +kernel
theorem d_BM_by_5 : decode c_BM_by 5 = .ok (.iconst 1, 1) := by decide +kernel
theorem d_BM_by_6 : decode c_BM_by 6 = .ok (.if_icmp .ne 7, 3) := by decide +kernel
theorem d_BM_by_9 : decode c_BM_by 9 = .ok (.iconst 1, 1) := by decide +kernel
theorem d_BM_by_10 : decode c_BM_by 10 = .ok (.goto 13, 3) := by decide +kernel
theorem d_BM_by_13 : decode c_BM_by 13 = .ok (.iload_n 2, 1) := by decide +kernel
theorem d_BM_by_14 : decode c_BM_by 14 = .ok (.iconst 3, 1) := by decide +kernel
theorem d_BM_by_15 : decode c_BM_by 15 = .ok (.if_icmp .ne 7, 3) := by decide +kernel
theorem d_BM_by_18 : decode c_BM_by 18 = .ok (.iconst (-1), 1) := by decide +kernel
theorem d_BM_by_19 : decode c_BM_by 19 = .ok (.goto 4, 3) := by decide +kernel
theorem d_BM_by_22 : decode c_BM_by 22 = .ok (.iconst 0, 1) := by decide +kernel
theorem d_BM_by_23 : decode c_BM_by 23 = .ok (.iadd, 1) := by decide +kernel
theorem d_BM_by_24 : decode c_BM_by 24 = .ok (.istore_n 3, 1) := by decide +kernel
theorem d_BM_by_25 : decode c_BM_by 25 = .ok (.iload_n 1, 1) := by decide +kernel
theorem d_BM_by_26 : decode c_BM_by 26 = .ok (.bipush 6, 2) := by decide +kernel
theorem d_BM_by_28 : decode c_BM_by 28 = .ok (.idiv, 1) := by decide +kernel
theorem d_BM_by_29 : decode c_BM_by 29 = .ok (.iload_n 2, 1) := by decide +kernel
theorem d_BM_by_30 : decode c_BM_by 30 = .ok (.iconst 2, 1) := by decide +kernel
theorem d_BM_by_31 : decode c_BM_by 31 = .ok (.if_icmp .ne 7, 3) := by decide +kernel
theorem d_BM_by_34 : decode c_BM_by 34 = .ok (.iconst 1, 1) := by decide +kernel
theorem d_BM_by_35 : decode c_BM_by 35 = .ok (.goto 12, 3) := by decide +kernel
theorem d_BM_by_38 : decode c_BM_by 38 = .ok (.iload_n 2, 1) := by decide +kernel
theorem d_BM_by_39 : decode c_BM_by 39 = .ok (.ifCond .ne 7, 3) := by decide +kernel
theorem d_BM_by_42 : decode c_BM_by 42 = .ok (.iconst (-1), 1) := by decide +kernel
theorem d_BM_by_43 : decode c_BM_by 43 = .ok (.goto 4, 3) := by decide +kernel
theorem d_BM_by_46 : decode c_BM_by 46 = .ok (.iconst 0, 1) := by decide +kernel
theorem d_BM_by_47 : decode c_BM_by 47 = .ok (.iadd, 1) := by decide +kernel
theorem d_BM_by_48 : decode c_BM_by 48 = .ok (.istore 4, 2) := by decide +kernel
theorem d_BM_by_50 : decode c_BM_by 50 = .ok (.aload_n 0, 1) := by decide +kernel
theorem d_BM_by_51 : decode c_BM_by 51 = .ok (.iload_n 3, 1) := by decide +kernel
theorem d_BM_by_52 : decode c_BM_by 52 = .ok (.iload 4, 2) := by decide +kernel
theorem d_BM_by_54 : decode c_BM_by 54 = .ok (.invokevirtual 166, 3) := by decide +kernel
theorem d_BM_by_57 : decode c_BM_by 57 = .ok (.ifCond .eq 13, 3) := by decide +kernel
theorem d_BM_by_60 : decode c_BM_by 60 = .ok (.bipush 6, 2) := by decide +kernel
theorem d_BM_by_62 : decode c_BM_by 62 = .ok (.iload 4, 2) := by decide +kernel
theorem d_BM_by_64 : decode c_BM_by 64 = .ok (.imul, 1) := by decide +kernel
theorem d_BM_by_65 : decode c_BM_by 65 = .ok (.iload_n 3, 1) := by decide +kernel
theorem d_BM_by_66 : decode c_BM_by 66 = .ok (.iadd, 1) := by decide +kernel
theorem d_BM_by_67 : decode c_BM_by 67 = .ok (.goto 4, 3) := by decide +kernel
theorem d_BM_by_70 : decode c_BM_by 70 = .ok (.iconst (-1), 1) := by decide +kernel
theorem d_BM_by_71 : decode c_BM_by 71 = .ok (.ireturn, 1) := by decide +kernel
def S_BM_by_0 (g : Gx) (Q : Int32 → St → Prop) (σ : St) (x1 : Int32) (x2 : Int32) : Prop := Ax g m_BM_by 0 0 (ZI g Q) SH σ 0 0 0 [(0, .ref (gB g + 151)), (1, .int x1), (2, .int x2)] []
def S_BM_by_23 (g : Gx) (Q : Int32 → St → Prop) (σ : St) (x1 : Int32) (x2 : Int32) (z0 : Int32) (z1 : Int32) : Prop := Ax g m_BM_by 0 0 (ZI g Q) SH σ 0 0 23 [(0, .ref (gB g + 151)), (1, .int x1), (2, .int x2)] [.int z0, .int z1]
def S_BM_by_47 (g : Gx) (Q : Int32 → St → Prop) (σ : St) (x3 : Int32) (z0 : Int32) (z1 : Int32) : Prop := Ax g m_BM_by 0 0 (ZI g Q) SH σ 0 0 47 [(0, .ref (gB g + 151)), (3, .int x3)] [.int z0, .int z1]
theorem sg_BM_by_0 {g : Gx} {Q : Int32 → St → Prop} {σ : St} {x1 : Int32} {x2 : Int32}
    (h : (¬ x2 = (1 : Int32) → (¬ x2 = (3 : Int32) → S_BM_by_23 g Q σ x1 x2 (0 : Int32) (x1 - x1 / (6 : Int32) * (6 : Int32))) ∧ (x2 = (3 : Int32) → S_BM_by_23 g Q σ x1 x2 (-1 : Int32) (x1 - x1 / (6 : Int32) * (6 : Int32)))) ∧ (x2 = (1 : Int32) → S_BM_by_23 g Q σ x1 x2 (1 : Int32) (x1 - x1 / (6 : Int32) * (6 : Int32)))) : S_BM_by_0 g Q σ x1 x2 := by
  show Ax g m_BM_by 0 0 (ZI g Q) SH σ 0 0 0 [(0, .ref (gB g + 151)), (1, .int x1), (2, .int x2)] []
  refine a_iload_n (pc := 0) 1 rfl rfl d_BM_by_0 ?_
  refine a_bipush (pc := 1) (6 : Int32) (by decide) d_BM_by_1 ?_
  refine a_irem (pc := 3) (by decide) d_BM_by_3 ?_
  refine a_iload_n (pc := 4) 2 rfl rfl d_BM_by_4 ?_
  refine a_iconst (pc := 5) (1 : Int32) (by decide) d_BM_by_5 ?_
  refine a_icmp_ne (pc := 6) 13 (by decide) d_BM_by_6 ⟨fun c0 => ?_, fun c0 => ?_⟩
  · replace h := h.1 c0
    refine a_iload_n (pc := 13) 2 rfl rfl d_BM_by_13 ?_
    refine a_iconst (pc := 14) (3 : Int32) (by decide) d_BM_by_14 ?_
    refine a_icmp_ne (pc := 15) 22 (by decide) d_BM_by_15 ⟨fun c0 => ?_, fun c0 => ?_⟩
    · replace h := h.1 c0
      refine a_iconst (pc := 22) (0 : Int32) (by decide) d_BM_by_22 ?_
      refine a_sub (pc := 23) [0, 1, 2] rfl ?_
      exact h
    · replace h := h.2 c0
      refine a_iconst (pc := 18) (-1 : Int32) (by decide) d_BM_by_18 ?_
      refine a_goto (pc := 19) 23 (by decide) d_BM_by_19 ?_
      refine a_sub (pc := 23) [0, 1, 2] rfl ?_
      exact h
  · replace h := h.2 c0
    refine a_iconst (pc := 9) (1 : Int32) (by decide) d_BM_by_9 ?_
    refine a_goto (pc := 10) 23 (by decide) d_BM_by_10 ?_
    refine a_sub (pc := 23) [0, 1, 2] rfl ?_
    exact h
theorem sg_BM_by_23 {g : Gx} {Q : Int32 → St → Prop} {σ : St} {x1 : Int32} {x2 : Int32} {z0 : Int32} {z1 : Int32}
    (h : ∀ u1 : Int32, u1 = (z1 + z0) → (¬ x2 = (2 : Int32) → (¬ x2 = 0 → S_BM_by_47 g Q σ u1 (0 : Int32) (x1 / (6 : Int32))) ∧ (x2 = 0 → S_BM_by_47 g Q σ u1 (-1 : Int32) (x1 / (6 : Int32)))) ∧ (x2 = (2 : Int32) → S_BM_by_47 g Q σ u1 (1 : Int32) (x1 / (6 : Int32)))) : S_BM_by_23 g Q σ x1 x2 z0 z1 := by
  show Ax g m_BM_by 0 0 (ZI g Q) SH σ 0 0 23 [(0, .ref (gB g + 151)), (1, .int x1), (2, .int x2)] [.int z0, .int z1]
  refine a_iadd (pc := 23) d_BM_by_23 ?_
  refine a_nmi (pc := 24) (fun u1 hu1 => ?_)
  replace h := h u1 hu1
  refine a_istore_n (pc := 24) (lv' := [(3, .int u1), (0, .ref (gB g + 151)), (1, .int x1), (2, .int x2)]) rfl (Nat.le_of_ble_eq_true rfl) rfl d_BM_by_24 ?_
  refine a_iload_n (pc := 25) 2 rfl rfl d_BM_by_25 ?_
  refine a_bipush (pc := 26) (6 : Int32) (by decide) d_BM_by_26 ?_
  refine a_idiv (pc := 28) (by decide) d_BM_by_28 ?_
  refine a_iload_n (pc := 29) 3 rfl rfl d_BM_by_29 ?_
  refine a_iconst (pc := 30) (2 : Int32) (by decide) d_BM_by_30 ?_
  refine a_icmp_ne (pc := 31) 38 (by decide) d_BM_by_31 ⟨fun c0 => ?_, fun c0 => ?_⟩
  · replace h := h.1 c0
    refine a_iload_n (pc := 38) 3 rfl rfl d_BM_by_38 ?_
    refine a_if_ne (pc := 39) 46 (by decide) d_BM_by_39 ⟨fun c0 => ?_, fun c0 => ?_⟩
    · replace h := h.1 c0
      refine a_iconst (pc := 46) (0 : Int32) (by decide) d_BM_by_46 ?_
      refine a_sub (pc := 47) [1, 0] rfl ?_
      exact h
    · replace h := h.2 c0
      refine a_iconst (pc := 42) (-1 : Int32) (by decide) d_BM_by_42 ?_
      refine a_goto (pc := 43) 47 (by decide) d_BM_by_43 ?_
      refine a_sub (pc := 47) [1, 0] rfl ?_
      exact h
  · replace h := h.2 c0
    refine a_iconst (pc := 34) (1 : Int32) (by decide) d_BM_by_34 ?_
    refine a_goto (pc := 35) 47 (by decide) d_BM_by_35 ?_
    refine a_sub (pc := 47) [1, 0] rfl ?_
    exact h
theorem sg_BM_by_47 {g : Gx} {Q : Int32 → St → Prop} {σ : St} {x3 : Int32} {z0 : Int32} {z1 : Int32}
    (h : ∀ u1 : Int32, u1 = (z1 + z0) → K_BM_isCell g x3 u1 σ (fun (r3 : Int32) (s2 : St) => (r3 = 0 → Q (-1 : Int32) s2) ∧ (¬ r3 = 0 → Q (((6 : Int32) * u1) + x3) s2))) : S_BM_by_47 g Q σ x3 z0 z1 := by
  show Ax g m_BM_by 0 0 (ZI g Q) SH σ 0 0 47 [(0, .ref (gB g + 151)), (3, .int x3)] [.int z0, .int z1]
  refine a_iadd (pc := 47) d_BM_by_47 ?_
  refine a_nmi (pc := 48) (fun u1 hu1 => ?_)
  replace h := h u1 hu1
  refine a_istore (pc := 48) (lv' := [(4, .int u1), (0, .ref (gB g + 151)), (3, .int x3)]) (Nat.le_of_ble_eq_true rfl) rfl d_BM_by_48 ?_
  refine a_aload_n (pc := 50) 1 rfl rfl d_BM_by_50 ?_
  refine a_iload_n (pc := 51) 2 rfl rfl d_BM_by_51 ?_
  refine a_iload (pc := 52) 0 rfl d_BM_by_52 ?_
  refine a_callV (pc := 54) (M' := m_BM_isCell) (As := [.int x3, .int u1]) (st := []) (mc' := 0) (ms' := 0) lk_BM_166 rfl sx_151 rfl (by decide) (by decide) rfl (Nat.le_of_ble_eq_true rfl) (Nat.le_refl 0) (Nat.le_refl 0) d_BM_by_54 h ?_
  rintro _ _ s2 ⟨r3, rfl, rfl, h⟩ -
  show Ax g m_BM_by 0 0 (ZI g Q) SH s2 0 0 57 [(4, .int u1), (0, .ref (gB g + 151)), (3, .int x3)] [.int r3]
  refine a_if_eq (pc := 57) 70 (by decide) d_BM_by_57 ⟨fun c0 => ?_, fun c0 => ?_⟩
  · replace h := h.1 c0
    refine a_iconst (pc := 70) (-1 : Int32) (by decide) d_BM_by_70 ?_
    exact b_iret (pc := 71) rfl d_BM_by_71 h
  · replace h := h.2 c0
    refine a_bipush (pc := 60) (6 : Int32) (by decide) d_BM_by_60 ?_
    refine a_iload (pc := 62) 0 rfl d_BM_by_62 ?_
    refine a_imul (pc := 64) d_BM_by_64 ?_
    refine a_iload_n (pc := 65) 2 rfl rfl d_BM_by_65 ?_
    refine a_iadd (pc := 66) d_BM_by_66 ?_
    refine a_goto (pc := 67) 71 (by decide) d_BM_by_67 ?_
    exact b_iret (pc := 71) rfl d_BM_by_71 h
theorem ko_BM_by {g : Gx}  {x1 : Int32} {x2 : Int32} {σ : St} {Q : Int32 → St → Prop} (h : S_BM_by_0 g Q σ x1 x2) : K_BM_by g x1 x2 σ Q := KI.of (show plainName "BallBoxModel" = true by decide) (Nat.le_of_ble_eq_true rfl) h
theorem d_BM_holeOf_0 : decode c_BM_holeOf 0 = .ok (.iconst 0, 1) := by decide +kernel
theorem d_BM_holeOf_1 : decode c_BM_holeOf 1 = .ok (.istore_n 2, 1) := by decide +kernel
theorem d_BM_holeOf_2 : decode c_BM_holeOf 2 = .ok (.iload_n 2, 1) := by decide +kernel
theorem d_BM_holeOf_3 : decode c_BM_holeOf 3 = .ok (.bipush 36, 2) := by decide +kernel
theorem d_BM_holeOf_5 : decode c_BM_holeOf 5 = .ok (.if_icmp .ge 31, 3) := by decide +kernel
theorem d_BM_holeOf_8 : decode c_BM_holeOf 8 = .ok (.aload_n 0, 1) := by decide +kernel
theorem d_BM_holeOf_9 : decode c_BM_holeOf 9 = .ok (.iload_n 2, 1) := by decide +kernel
theorem d_BM_holeOf_10 : decode c_BM_holeOf 10 = .ok (.invokevirtual 170, 3) := by decide +kernel
theorem d_BM_holeOf_13 : decode c_BM_holeOf 13 = .ok (.ifCond .eq 17, 3) := by decide +kernel
theorem d_BM_holeOf_16 : decode c_BM_holeOf 16 = .ok (.aload_n 0, 1) := by decide +kernel
theorem d_BM_holeOf_17 : decode c_BM_holeOf 17 = .ok (.getfield 13, 3) := by decide +kernel
theorem d_BM_holeOf_20 : decode c_BM_holeOf 20 = .ok (.iload_n 2, 1) := by decide +kernel
theorem d_BM_holeOf_21 : decode c_BM_holeOf 21 = .ok (.iaload, 1) := by decide +kernel
theorem d_BM_holeOf_22 : decode c_BM_holeOf 22 = .ok (.iconst 2, 1) := by decide +kernel
theorem d_BM_holeOf_23 : decode c_BM_holeOf 23 = .ok (.iload_n 1, 1) := by decide +kernel
theorem d_BM_holeOf_24 : decode c_BM_holeOf 24 = .ok (.iadd, 1) := by decide +kernel
theorem d_BM_holeOf_25 : decode c_BM_holeOf 25 = .ok (.if_icmp .ne 5, 3) := by decide +kernel
theorem d_BM_holeOf_28 : decode c_BM_holeOf 28 = .ok (.iload_n 2, 1) := by decide +kernel
theorem d_BM_holeOf_29 : decode c_BM_holeOf 29 = .ok (.ireturn, 1) := by decide +kernel
theorem d_BM_holeOf_30 : decode c_BM_holeOf 30 = .ok (.iinc 2 1, 3) := by decide +kernel
theorem d_BM_holeOf_33 : decode c_BM_holeOf 33 = .ok (.goto (-31), 3) := by decide +kernel
theorem d_BM_holeOf_36 : decode c_BM_holeOf 36 = .ok (.iconst (-1), 1) := by decide +kernel
theorem d_BM_holeOf_37 : decode c_BM_holeOf 37 = .ok (.ireturn, 1) := by decide +kernel
def S_BM_holeOf_0 (g : Gx) (Q : Int32 → St → Prop) (σ : St) (x1 : Int32) : Prop := Ax g m_BM_holeOf 0 0 (ZI g Q) SH σ 0 0 0 [(0, .ref (gB g + 151)), (1, .int x1)] []
def S_BM_holeOf_2 (g : Gx) (Q : Int32 → St → Prop) (σ : St) (x1 : Int32) (x2 : Int32) : Prop := Ax g m_BM_holeOf 0 0 (ZI g Q) SH σ 0 0 2 [(0, .ref (gB g + 151)), (1, .int x1), (2, .int x2)] []
theorem sg_BM_holeOf_0 {g : Gx} {Q : Int32 → St → Prop} {σ : St} {x1 : Int32}
    (h : S_BM_holeOf_2 g Q σ x1 (0 : Int32)) : S_BM_holeOf_0 g Q σ x1 := by
  show Ax g m_BM_holeOf 0 0 (ZI g Q) SH σ 0 0 0 [(0, .ref (gB g + 151)), (1, .int x1)] []
  refine a_iconst (pc := 0) (0 : Int32) (by decide) d_BM_holeOf_0 ?_
  refine a_istore_n (pc := 1) (lv' := [(2, .int (0 : Int32)), (0, .ref (gB g + 151)), (1, .int x1)]) rfl (Nat.le_of_ble_eq_true rfl) rfl d_BM_holeOf_1 ?_
  refine a_sub (pc := 2) [1, 2, 0] rfl ?_
  exact h
theorem sg_BM_holeOf_2 {g : Gx} {Q : Int32 → St → Prop} {σ : St} {x1 : Int32} {x2 : Int32}
    (h : ((36 : Int32) ≤ x2 → Q (-1 : Int32) σ) ∧ (¬ (36 : Int32) ≤ x2 → K_BM_isThere g x2 σ (fun (r2 : Int32) (s1 : St) => (r2 = 0 → ∀ u3 : Int32, u3 = x2 + (1 : Int32) → S_BM_holeOf_2 g Q s1 x1 u3) ∧ (¬ r2 = 0 → vp_in x2 36 ∧ ((¬ (ai s1 153 (x2).toNatClampNeg) = ((2 : Int32) + x1) → ∀ u4 : Int32, u4 = x2 + (1 : Int32) → S_BM_holeOf_2 g Q s1 x1 u4) ∧ ((ai s1 153 (x2).toNatClampNeg) = ((2 : Int32) + x1) → Q x2 s1)))))) : S_BM_holeOf_2 g Q σ x1 x2 := by
  show Ax g m_BM_holeOf 0 0 (ZI g Q) SH σ 0 0 2 [(0, .ref (gB g + 151)), (1, .int x1), (2, .int x2)] []
  refine a_iload_n (pc := 2) 2 rfl rfl d_BM_holeOf_2 ?_
  refine a_bipush (pc := 3) (36 : Int32) (by decide) d_BM_holeOf_3 ?_
  refine a_icmp_ge (pc := 5) 36 (by decide) d_BM_holeOf_5 ⟨fun c0 => ?_, fun c0 => ?_⟩
  · replace h := h.1 c0
    refine a_iconst (pc := 36) (-1 : Int32) (by decide) d_BM_holeOf_36 ?_
    exact b_iret (pc := 37) rfl d_BM_holeOf_37 h
  · replace h := h.2 c0
    refine a_aload_n (pc := 8) 0 rfl rfl d_BM_holeOf_8 ?_
    refine a_iload_n (pc := 9) 2 rfl rfl d_BM_holeOf_9 ?_
    refine a_callV (pc := 10) (M' := m_BM_isThere) (As := [.int x2]) (st := []) (mc' := 0) (ms' := 0) lk_BM_170 rfl sx_151 rfl (by decide) (by decide) rfl (Nat.le_of_ble_eq_true rfl) (Nat.le_refl 0) (Nat.le_refl 0) d_BM_holeOf_10 h ?_
    rintro _ _ s1 ⟨r2, rfl, rfl, h⟩ -
    show Ax g m_BM_holeOf 0 0 (ZI g Q) SH s1 0 0 13 [(0, .ref (gB g + 151)), (1, .int x1), (2, .int x2)] [.int r2]
    refine a_if_eq (pc := 13) 30 (by decide) d_BM_holeOf_13 ⟨fun c0 => ?_, fun c0 => ?_⟩
    · replace h := h.1 c0
      obtain ⟨u3, hu3⟩ : ∃ y : Int32, y = x2 + (1 : Int32) := ⟨_, rfl⟩
      replace h := h u3 hu3
      refine a_iinc (pc := 30) (v := u3) (lv' := [(2, .int u3), (0, .ref (gB g + 151)), (1, .int x1)]) 2 rfl (by rw [hu3]; rfl) (Nat.le_of_ble_eq_true rfl) rfl d_BM_holeOf_30 ?_
      refine a_goto (pc := 33) 2 (by decide) d_BM_holeOf_33 ?_
      refine a_sub (pc := 2) [1, 2, 0] rfl ?_
      exact h
    · replace h := h.2 c0
      refine a_aload_n (pc := 16) 0 rfl rfl d_BM_holeOf_16 ?_
      refine a_getR (pc := 17) fg_BM_13 sx_151 rfl d_BM_holeOf_17 ?_
      refine a_iload_n (pc := 20) 2 rfl rfl d_BM_holeOf_20 ?_
      obtain ⟨hx, h⟩ := h
      refine a_iald (pc := 21) sx_153 hx d_BM_holeOf_21 ?_
      refine a_iconst (pc := 22) (2 : Int32) (by decide) d_BM_holeOf_22 ?_
      refine a_iload_n (pc := 23) 1 rfl rfl d_BM_holeOf_23 ?_
      refine a_iadd (pc := 24) d_BM_holeOf_24 ?_
      refine a_icmp_ne (pc := 25) 30 (by decide) d_BM_holeOf_25 ⟨fun c0 => ?_, fun c0 => ?_⟩
      · replace h := h.1 c0
        obtain ⟨u4, hu4⟩ : ∃ y : Int32, y = x2 + (1 : Int32) := ⟨_, rfl⟩
        replace h := h u4 hu4
        refine a_iinc (pc := 30) (v := u4) (lv' := [(2, .int u4), (0, .ref (gB g + 151)), (1, .int x1)]) 2 rfl (by rw [hu4]; rfl) (Nat.le_of_ble_eq_true rfl) rfl d_BM_holeOf_30 ?_
        refine a_goto (pc := 33) 2 (by decide) d_BM_holeOf_33 ?_
        refine a_sub (pc := 2) [1, 2, 0] rfl ?_
        exact h
      · replace h := h.2 c0
        refine a_iload_n (pc := 28) 2 rfl rfl d_BM_holeOf_28 ?_
        exact b_iret (pc := 29) rfl d_BM_holeOf_29 h
theorem ko_BM_holeOf {g : Gx}  {x1 : Int32} {σ : St} {Q : Int32 → St → Prop} (h : S_BM_holeOf_0 g Q σ x1) : K_BM_holeOf g x1 σ Q := KI.of (show plainName "BallBoxModel" = true by decide) (Nat.le_of_ble_eq_true rfl) h
theorem d_BM_steps_0 : decode c_BM_steps 0 = .ok (.aload_n 0, 1) := by decide +kernel
theorem d_BM_steps_1 : decode c_BM_steps 1 = .ok (.iload_n 1, 1) := by decide +kernel
theorem d_BM_steps_2 : decode c_BM_steps 2 = .ok (.invokevirtual 178, 3) := by decide +kernel
theorem d_BM_steps_5 : decode c_BM_steps 5 = .ok (.istore_n 2, 1) := by decide +kernel
theorem d_BM_steps_6 : decode c_BM_steps 6 = .ok (.iload_n 2, 1) := by decide +kernel
theorem d_BM_steps_7 : decode c_BM_steps 7 = .ok (.iconst (-1), 1) := by decide +kernel
theorem d_BM_steps_8 : decode c_BM_steps 8 = .ok (.if_icmp .ne 7, 3) := by decide +kernel
theorem d_BM_steps_11 : decode c_BM_steps 11 = .ok (.iconst (-1), 1) := by decide +kernel
theorem d_BM_steps_12 : decode c_BM_steps 12 = .ok (.goto 36, 3) := by decide +kernel
theorem d_BM_steps_15 : decode c_BM_steps 15 = .ok (.iload_n 2, 1) := by decide +kernel
theorem d_BM_steps_16 : decode c_BM_steps 16 = .ok (.bipush 6, 2) := by decide +kernel
theorem d_BM_steps_18 : decode c_BM_steps 18 = .ok (.irem, 1) := by decide +kernel
theorem d_BM_steps_19 : decode c_BM_steps 19 = .ok (.aload_n 0, 1) := by decide +kernel
theorem d_BM_steps_20 : decode c_BM_steps 20 = .ok (.getfield 16, 3) := by decide +kernel
theorem d_BM_steps_23 : decode c_BM_steps 23 = .ok (.iload_n 1, 1) := by decide +kernel
theorem d_BM_steps_24 : decode c_BM_steps 24 = .ok (.iaload, 1) := by decide +kernel
theorem d_BM_steps_25 : decode c_BM_steps 25 = .ok (.bipush 6, 2) := by decide +kernel
theorem d_BM_steps_27 : decode c_BM_steps 27 = .ok (.irem, 1) := by decide +kernel
theorem d_BM_steps_28 : decode c_BM_steps 28 = .ok (.invokestatic 181, 3) := by decide +kernel
theorem d_BM_steps_31 : decode c_BM_steps 31 = .ok (.iload_n 2, 1) := by decide +kernel
theorem d_BM_steps_32 : decode c_BM_steps 32 = .ok (.bipush 6, 2) := by decide +kernel
theorem d_BM_steps_34 : decode c_BM_steps 34 = .ok (.idiv, 1) := by decide +kernel
theorem d_BM_steps_35 : decode c_BM_steps 35 = .ok (.aload_n 0, 1) := by decide +kernel
theorem d_BM_steps_36 : decode c_BM_steps 36 = .ok (.getfield 16, 3) := by decide +kernel
theorem d_BM_steps_39 : decode c_BM_steps 39 = .ok (.iload_n 1, 1) := by decide +kernel
theorem d_BM_steps_40 : decode c_BM_steps 40 = .ok (.iaload, 1) := by decide +kernel
theorem d_BM_steps_41 : decode c_BM_steps 41 = .ok (.bipush 6, 2) := by decide +kernel
theorem d_BM_steps_43 : decode c_BM_steps 43 = .ok (.idiv, 1) := by decide +kernel
theorem d_BM_steps_44 : decode c_BM_steps 44 = .ok (.invokestatic 181, 3) := by decide +kernel
theorem d_BM_steps_47 : decode c_BM_steps 47 = .ok (.iadd, 1) := by decide +kernel
theorem d_BM_steps_48 : decode c_BM_steps 48 = .ok (.ireturn, 1) := by decide +kernel
def S_BM_steps_0 (g : Gx) (Q : Int32 → St → Prop) (σ : St) (x1 : Int32) : Prop := Ax g m_BM_steps 0 0 (ZI g Q) SH σ 0 0 0 [(0, .ref (gB g + 151)), (1, .int x1)] []
theorem sg_BM_steps_0 {g : Gx} {Q : Int32 → St → Prop} {σ : St} {x1 : Int32}
    (h : K_BM_holeOf g x1 σ (fun (r2 : Int32) (s1 : St) => (¬ r2 = (-1 : Int32) → vp_in x1 3 ∧ (K_BM_apart g (r2 - r2 / (6 : Int32) * (6 : Int32)) ((ai s1 154 (x1).toNatClampNeg) - (ai s1 154 (x1).toNatClampNeg) / (6 : Int32) * (6 : Int32)) s1 (fun (r4 : Int32) (s3 : St) => vp_in x1 3 ∧ (K_BM_apart g (r2 / (6 : Int32)) ((ai s3 154 (x1).toNatClampNeg) / (6 : Int32)) s3 (fun (r6 : Int32) (s5 : St) => Q (r4 + r6) s5))))) ∧ (r2 = (-1 : Int32) → Q (-1 : Int32) s1))) : S_BM_steps_0 g Q σ x1 := by
  show Ax g m_BM_steps 0 0 (ZI g Q) SH σ 0 0 0 [(0, .ref (gB g + 151)), (1, .int x1)] []
  refine a_aload_n (pc := 0) 0 rfl rfl d_BM_steps_0 ?_
  refine a_iload_n (pc := 1) 1 rfl rfl d_BM_steps_1 ?_
  refine a_callV (pc := 2) (M' := m_BM_holeOf) (As := [.int x1]) (st := []) (mc' := 0) (ms' := 0) lk_BM_178 rfl sx_151 rfl (by decide) (by decide) rfl (Nat.le_of_ble_eq_true rfl) (Nat.le_refl 0) (Nat.le_refl 0) d_BM_steps_2 h ?_
  rintro _ _ s1 ⟨r2, rfl, rfl, h⟩ -
  show Ax g m_BM_steps 0 0 (ZI g Q) SH s1 0 0 5 [(0, .ref (gB g + 151)), (1, .int x1)] [.int r2]
  refine a_istore_n (pc := 5) (lv' := [(2, .int r2), (0, .ref (gB g + 151)), (1, .int x1)]) rfl (Nat.le_of_ble_eq_true rfl) rfl d_BM_steps_5 ?_
  refine a_iload_n (pc := 6) 0 rfl rfl d_BM_steps_6 ?_
  refine a_iconst (pc := 7) (-1 : Int32) (by decide) d_BM_steps_7 ?_
  refine a_icmp_ne (pc := 8) 15 (by decide) d_BM_steps_8 ⟨fun c0 => ?_, fun c0 => ?_⟩
  · replace h := h.1 c0
    refine a_iload_n (pc := 15) 0 rfl rfl d_BM_steps_15 ?_
    refine a_bipush (pc := 16) (6 : Int32) (by decide) d_BM_steps_16 ?_
    refine a_irem (pc := 18) (by decide) d_BM_steps_18 ?_
    refine a_aload_n (pc := 19) 1 rfl rfl d_BM_steps_19 ?_
    refine a_getR (pc := 20) fg_BM_16 sx_151 rfl d_BM_steps_20 ?_
    refine a_iload_n (pc := 23) 2 rfl rfl d_BM_steps_23 ?_
    obtain ⟨hx, h⟩ := h
    refine a_iald (pc := 24) sx_154 hx d_BM_steps_24 ?_
    refine a_bipush (pc := 25) (6 : Int32) (by decide) d_BM_steps_25 ?_
    refine a_irem (pc := 27) (by decide) d_BM_steps_27 ?_
    refine a_callS (pc := 28) (M' := m_BM_apart) (As := [.int (r2 - r2 / (6 : Int32) * (6 : Int32)), .int ((ai s1 154 (x1).toNatClampNeg) - (ai s1 154 (x1).toNatClampNeg) / (6 : Int32) * (6 : Int32))]) (st := []) (mc' := 0) (ms' := 0) lk_BM_181 rfl (by decide) (by decide) rfl (Nat.le_of_ble_eq_true rfl) (Nat.le_refl 0) (Nat.le_refl 0) d_BM_steps_28 h ?_
    rintro _ _ s3 ⟨r4, rfl, rfl, h⟩ -
    show Ax g m_BM_steps 0 0 (ZI g Q) SH s3 0 0 31 [(2, .int r2), (0, .ref (gB g + 151)), (1, .int x1)] [.int r4]
    refine a_iload_n (pc := 31) 0 rfl rfl d_BM_steps_31 ?_
    refine a_bipush (pc := 32) (6 : Int32) (by decide) d_BM_steps_32 ?_
    refine a_idiv (pc := 34) (by decide) d_BM_steps_34 ?_
    refine a_aload_n (pc := 35) 1 rfl rfl d_BM_steps_35 ?_
    refine a_getR (pc := 36) fg_BM_16 sx_151 rfl d_BM_steps_36 ?_
    refine a_iload_n (pc := 39) 2 rfl rfl d_BM_steps_39 ?_
    obtain ⟨hx, h⟩ := h
    refine a_iald (pc := 40) sx_154 hx d_BM_steps_40 ?_
    refine a_bipush (pc := 41) (6 : Int32) (by decide) d_BM_steps_41 ?_
    refine a_idiv (pc := 43) (by decide) d_BM_steps_43 ?_
    refine a_callS (pc := 44) (M' := m_BM_apart) (As := [.int (r2 / (6 : Int32)), .int ((ai s3 154 (x1).toNatClampNeg) / (6 : Int32))]) (st := [.int r4]) (mc' := 0) (ms' := 0) lk_BM_181 rfl (by decide) (by decide) rfl (Nat.le_of_ble_eq_true rfl) (Nat.le_refl 0) (Nat.le_refl 0) d_BM_steps_44 h ?_
    rintro _ _ s5 ⟨r6, rfl, rfl, h⟩ -
    show Ax g m_BM_steps 0 0 (ZI g Q) SH s5 0 0 47 [(2, .int r2), (0, .ref (gB g + 151)), (1, .int x1)] [.int r6, .int r4]
    refine a_iadd (pc := 47) d_BM_steps_47 ?_
    exact b_iret (pc := 48) rfl d_BM_steps_48 h
  · replace h := h.2 c0
    refine a_iconst (pc := 11) (-1 : Int32) (by decide) d_BM_steps_11 ?_
    refine a_goto (pc := 12) 48 (by decide) d_BM_steps_12 ?_
    exact b_iret (pc := 48) rfl d_BM_steps_48 h
theorem ko_BM_steps {g : Gx}  {x1 : Int32} {σ : St} {Q : Int32 → St → Prop} (h : S_BM_steps_0 g Q σ x1) : K_BM_steps g x1 σ Q := KI.of (show plainName "BallBoxModel" = true by decide) (Nat.le_of_ble_eq_true rfl) h
theorem d_BM_fell_0 : decode c_BM_fell 0 = .ok (.iconst 0, 1) := by decide +kernel
theorem d_BM_fell_1 : decode c_BM_fell 1 = .ok (.istore_n 2, 1) := by decide +kernel
theorem d_BM_fell_2 : decode c_BM_fell 2 = .ok (.iconst 0, 1) := by decide +kernel
theorem d_BM_fell_3 : decode c_BM_fell 3 = .ok (.istore_n 3, 1) := by decide +kernel
theorem d_BM_fell_4 : decode c_BM_fell 4 = .ok (.iload_n 3, 1) := by decide +kernel
theorem d_BM_fell_5 : decode c_BM_fell 5 = .ok (.aload_n 0, 1) := by decide +kernel
theorem d_BM_fell_6 : decode c_BM_fell 6 = .ok (.getfield 9, 3) := by decide +kernel
theorem d_BM_fell_9 : decode c_BM_fell 9 = .ok (.iconst 2, 1) := by decide +kernel
theorem d_BM_fell_10 : decode c_BM_fell 10 = .ok (.iaload, 1) := by decide +kernel
theorem d_BM_fell_11 : decode c_BM_fell 11 = .ok (.if_icmp .ge 27, 3) := by decide +kernel
theorem d_BM_fell_14 : decode c_BM_fell 14 = .ok (.iload_n 2, 1) := by decide +kernel
theorem d_BM_fell_15 : decode c_BM_fell 15 = .ok (.aload_n 0, 1) := by decide +kernel
theorem d_BM_fell_16 : decode c_BM_fell 16 = .ok (.getfield 16, 3) := by decide +kernel
theorem d_BM_fell_19 : decode c_BM_fell 19 = .ok (.iload_n 3, 1) := by decide +kernel
theorem d_BM_fell_20 : decode c_BM_fell 20 = .ok (.iaload, 1) := by decide +kernel
theorem d_BM_fell_21 : decode c_BM_fell 21 = .ok (.iload_n 1, 1) := by decide +kernel
theorem d_BM_fell_22 : decode c_BM_fell 22 = .ok (.if_icmp .ne 7, 3) := by decide +kernel
theorem d_BM_fell_25 : decode c_BM_fell 25 = .ok (.iconst 1, 1) := by decide +kernel
theorem d_BM_fell_26 : decode c_BM_fell 26 = .ok (.goto 4, 3) := by decide +kernel
theorem d_BM_fell_29 : decode c_BM_fell 29 = .ok (.iconst 0, 1) := by decide +kernel
theorem d_BM_fell_30 : decode c_BM_fell 30 = .ok (.iadd, 1) := by decide +kernel
theorem d_BM_fell_31 : decode c_BM_fell 31 = .ok (.istore_n 2, 1) := by decide +kernel
theorem d_BM_fell_32 : decode c_BM_fell 32 = .ok (.iinc 3 1, 3) := by decide +kernel
theorem d_BM_fell_35 : decode c_BM_fell 35 = .ok (.goto (-31), 3) := by decide +kernel
theorem d_BM_fell_38 : decode c_BM_fell 38 = .ok (.iload_n 2, 1) := by decide +kernel
theorem d_BM_fell_39 : decode c_BM_fell 39 = .ok (.ireturn, 1) := by decide +kernel
def S_BM_fell_0 (g : Gx) (Q : Int32 → St → Prop) (σ : St) (x1 : Int32) : Prop := Ax g m_BM_fell 0 0 (ZI g Q) SH σ 0 0 0 [(0, .ref (gB g + 151)), (1, .int x1)] []
def S_BM_fell_4 (g : Gx) (Q : Int32 → St → Prop) (σ : St) (x1 : Int32) (x2 : Int32) (x3 : Int32) : Prop := Ax g m_BM_fell 0 0 (ZI g Q) SH σ 0 0 4 [(0, .ref (gB g + 151)), (1, .int x1), (2, .int x2), (3, .int x3)] []
theorem sg_BM_fell_0 {g : Gx} {Q : Int32 → St → Prop} {σ : St} {x1 : Int32}
    (h : S_BM_fell_4 g Q σ x1 (0 : Int32) (0 : Int32)) : S_BM_fell_0 g Q σ x1 := by
  show Ax g m_BM_fell 0 0 (ZI g Q) SH σ 0 0 0 [(0, .ref (gB g + 151)), (1, .int x1)] []
  refine a_iconst (pc := 0) (0 : Int32) (by decide) d_BM_fell_0 ?_
  refine a_istore_n (pc := 1) (lv' := [(2, .int (0 : Int32)), (0, .ref (gB g + 151)), (1, .int x1)]) rfl (Nat.le_of_ble_eq_true rfl) rfl d_BM_fell_1 ?_
  refine a_iconst (pc := 2) (0 : Int32) (by decide) d_BM_fell_2 ?_
  refine a_istore_n (pc := 3) (lv' := [(3, .int (0 : Int32)), (2, .int (0 : Int32)), (0, .ref (gB g + 151)), (1, .int x1)]) rfl (Nat.le_of_ble_eq_true rfl) rfl d_BM_fell_3 ?_
  refine a_sub (pc := 4) [2, 3, 1, 0] rfl ?_
  exact h
theorem sg_BM_fell_4 {g : Gx} {Q : Int32 → St → Prop} {σ : St} {x1 : Int32} {x2 : Int32} {x3 : Int32}
    (h : vp_in (2 : Int32) 8 ∧ (((ai σ 152 ((2 : Int32)).toNatClampNeg) ≤ x3 → Q x2 σ) ∧ (¬ (ai σ 152 ((2 : Int32)).toNatClampNeg) ≤ x3 → vp_in x3 3 ∧ ((¬ (ai σ 154 (x3).toNatClampNeg) = x1 → ∀ u1 : Int32, u1 = (x2 + (0 : Int32)) → ∀ u2 : Int32, u2 = x3 + (1 : Int32) → S_BM_fell_4 g Q σ x1 u1 u2) ∧ ((ai σ 154 (x3).toNatClampNeg) = x1 → ∀ u3 : Int32, u3 = (x2 + (1 : Int32)) → ∀ u4 : Int32, u4 = x3 + (1 : Int32) → S_BM_fell_4 g Q σ x1 u3 u4))))) : S_BM_fell_4 g Q σ x1 x2 x3 := by
  show Ax g m_BM_fell 0 0 (ZI g Q) SH σ 0 0 4 [(0, .ref (gB g + 151)), (1, .int x1), (2, .int x2), (3, .int x3)] []
  refine a_iload_n (pc := 4) 3 rfl rfl d_BM_fell_4 ?_
  refine a_aload_n (pc := 5) 0 rfl rfl d_BM_fell_5 ?_
  refine a_getR (pc := 6) fg_BM_9 sx_151 rfl d_BM_fell_6 ?_
  refine a_iconst (pc := 9) (2 : Int32) (by decide) d_BM_fell_9 ?_
  obtain ⟨hx, h⟩ := h
  refine a_iald (pc := 10) sx_152 hx d_BM_fell_10 ?_
  refine a_icmp_ge (pc := 11) 38 (by decide) d_BM_fell_11 ⟨fun c0 => ?_, fun c0 => ?_⟩
  · replace h := h.1 c0
    refine a_iload_n (pc := 38) 2 rfl rfl d_BM_fell_38 ?_
    exact b_iret (pc := 39) rfl d_BM_fell_39 h
  · replace h := h.2 c0
    refine a_iload_n (pc := 14) 2 rfl rfl d_BM_fell_14 ?_
    refine a_aload_n (pc := 15) 0 rfl rfl d_BM_fell_15 ?_
    refine a_getR (pc := 16) fg_BM_16 sx_151 rfl d_BM_fell_16 ?_
    refine a_iload_n (pc := 19) 3 rfl rfl d_BM_fell_19 ?_
    obtain ⟨hx, h⟩ := h
    refine a_iald (pc := 20) sx_154 hx d_BM_fell_20 ?_
    refine a_iload_n (pc := 21) 1 rfl rfl d_BM_fell_21 ?_
    refine a_icmp_ne (pc := 22) 29 (by decide) d_BM_fell_22 ⟨fun c0 => ?_, fun c0 => ?_⟩
    · replace h := h.1 c0
      refine a_iconst (pc := 29) (0 : Int32) (by decide) d_BM_fell_29 ?_
      refine a_iadd (pc := 30) d_BM_fell_30 ?_
      refine a_nmi (pc := 31) (fun u1 hu1 => ?_)
      replace h := h u1 hu1
      refine a_istore_n (pc := 31) (lv' := [(2, .int u1), (0, .ref (gB g + 151)), (1, .int x1), (3, .int x3)]) rfl (Nat.le_of_ble_eq_true rfl) rfl d_BM_fell_31 ?_
      obtain ⟨u2, hu2⟩ : ∃ y : Int32, y = x3 + (1 : Int32) := ⟨_, rfl⟩
      replace h := h u2 hu2
      refine a_iinc (pc := 32) (v := u2) (lv' := [(3, .int u2), (2, .int u1), (0, .ref (gB g + 151)), (1, .int x1)]) 3 rfl (by rw [hu2]; rfl) (Nat.le_of_ble_eq_true rfl) rfl d_BM_fell_32 ?_
      refine a_goto (pc := 35) 4 (by decide) d_BM_fell_35 ?_
      refine a_sub (pc := 4) [2, 3, 1, 0] rfl ?_
      exact h
    · replace h := h.2 c0
      refine a_iconst (pc := 25) (1 : Int32) (by decide) d_BM_fell_25 ?_
      refine a_goto (pc := 26) 30 (by decide) d_BM_fell_26 ?_
      refine a_iadd (pc := 30) d_BM_fell_30 ?_
      refine a_nmi (pc := 31) (fun u3 hu3 => ?_)
      replace h := h u3 hu3
      refine a_istore_n (pc := 31) (lv' := [(2, .int u3), (0, .ref (gB g + 151)), (1, .int x1), (3, .int x3)]) rfl (Nat.le_of_ble_eq_true rfl) rfl d_BM_fell_31 ?_
      obtain ⟨u4, hu4⟩ : ∃ y : Int32, y = x3 + (1 : Int32) := ⟨_, rfl⟩
      replace h := h u4 hu4
      refine a_iinc (pc := 32) (v := u4) (lv' := [(3, .int u4), (2, .int u3), (0, .ref (gB g + 151)), (1, .int x1)]) 3 rfl (by rw [hu4]; rfl) (Nat.le_of_ble_eq_true rfl) rfl d_BM_fell_32 ?_
      refine a_goto (pc := 35) 4 (by decide) d_BM_fell_35 ?_
      refine a_sub (pc := 4) [2, 3, 1, 0] rfl ?_
      exact h
theorem ko_BM_fell {g : Gx}  {x1 : Int32} {σ : St} {Q : Int32 → St → Prop} (h : S_BM_fell_0 g Q σ x1) : K_BM_fell g x1 σ Q := KI.of (show plainName "BallBoxModel" = true by decide) (Nat.le_of_ble_eq_true rfl) h
theorem d_BM_areHome_0 : decode c_BM_areHome 0 = .ok (.aload_n 0, 1) := by decide +kernel
theorem d_BM_areHome_1 : decode c_BM_areHome 1 = .ok (.bipush 36, 2) := by decide +kernel
theorem d_BM_areHome_3 : decode c_BM_areHome 3 = .ok (.invokevirtual 185, 3) := by decide +kernel
theorem d_BM_areHome_6 : decode c_BM_areHome 6 = .ok (.aload_n 0, 1) := by decide +kernel
theorem d_BM_areHome_7 : decode c_BM_areHome 7 = .ok (.getfield 9, 3) := by decide +kernel
theorem d_BM_areHome_10 : decode c_BM_areHome 10 = .ok (.iconst 2, 1) := by decide +kernel
theorem d_BM_areHome_11 : decode c_BM_areHome 11 = .ok (.iaload, 1) := by decide +kernel
theorem d_BM_areHome_12 : decode c_BM_areHome 12 = .ok (.if_icmp .ne 7, 3) := by decide +kernel
theorem d_BM_areHome_15 : decode c_BM_areHome 15 = .ok (.iconst 1, 1) := by decide +kernel
theorem d_BM_areHome_16 : decode c_BM_areHome 16 = .ok (.goto 4, 3) := by decide +kernel
theorem d_BM_areHome_19 : decode c_BM_areHome 19 = .ok (.iconst 0, 1) := by decide +kernel
theorem d_BM_areHome_20 : decode c_BM_areHome 20 = .ok (.ireturn, 1) := by decide +kernel
def S_BM_areHome_0 (g : Gx) (Q : Int32 → St → Prop) (σ : St) : Prop := Ax g m_BM_areHome 0 0 (ZI g Q) SH σ 0 0 0 [(0, .ref (gB g + 151))] []
theorem sg_BM_areHome_0 {g : Gx} {Q : Int32 → St → Prop} {σ : St}
    (h : K_BM_fell g (36 : Int32) σ (fun (r2 : Int32) (s1 : St) => vp_in (2 : Int32) 8 ∧ ((¬ r2 = (ai s1 152 ((2 : Int32)).toNatClampNeg) → Q (0 : Int32) s1) ∧ (r2 = (ai s1 152 ((2 : Int32)).toNatClampNeg) → Q (1 : Int32) s1)))) : S_BM_areHome_0 g Q σ := by
  show Ax g m_BM_areHome 0 0 (ZI g Q) SH σ 0 0 0 [(0, .ref (gB g + 151))] []
  refine a_aload_n (pc := 0) 0 rfl rfl d_BM_areHome_0 ?_
  refine a_bipush (pc := 1) (36 : Int32) (by decide) d_BM_areHome_1 ?_
  refine a_callV (pc := 3) (M' := m_BM_fell) (As := [.int (36 : Int32)]) (st := []) (mc' := 0) (ms' := 0) lk_BM_185 rfl sx_151 rfl (by decide) (by decide) rfl (Nat.le_of_ble_eq_true rfl) (Nat.le_refl 0) (Nat.le_refl 0) d_BM_areHome_3 h ?_
  rintro _ _ s1 ⟨r2, rfl, rfl, h⟩ -
  show Ax g m_BM_areHome 0 0 (ZI g Q) SH s1 0 0 6 [(0, .ref (gB g + 151))] [.int r2]
  refine a_aload_n (pc := 6) 0 rfl rfl d_BM_areHome_6 ?_
  refine a_getR (pc := 7) fg_BM_9 sx_151 rfl d_BM_areHome_7 ?_
  refine a_iconst (pc := 10) (2 : Int32) (by decide) d_BM_areHome_10 ?_
  obtain ⟨hx, h⟩ := h
  refine a_iald (pc := 11) sx_152 hx d_BM_areHome_11 ?_
  refine a_icmp_ne (pc := 12) 19 (by decide) d_BM_areHome_12 ⟨fun c0 => ?_, fun c0 => ?_⟩
  · replace h := h.1 c0
    refine a_iconst (pc := 19) (0 : Int32) (by decide) d_BM_areHome_19 ?_
    exact b_zret (pc := 20) rfl (Or.inl rfl) d_BM_areHome_20 h
  · replace h := h.2 c0
    refine a_iconst (pc := 15) (1 : Int32) (by decide) d_BM_areHome_15 ?_
    refine a_goto (pc := 16) 20 (by decide) d_BM_areHome_16 ?_
    exact b_zret (pc := 20) rfl (Or.inr rfl) d_BM_areHome_20 h
theorem ko_BM_areHome {g : Gx}  {σ : St} {Q : Int32 → St → Prop} (h : S_BM_areHome_0 g Q σ) : K_BM_areHome g  σ Q := KI.of (show plainName "BallBoxModel" = true by decide) (Nat.le_of_ble_eq_true rfl) h
theorem d_BM_feed_0 : decode c_BM_feed 0 = .ok (.aload_n 0, 1) := by decide +kernel
theorem d_BM_feed_1 : decode c_BM_feed 1 = .ok (.getfield 188, 3) := by decide +kernel
theorem d_BM_feed_4 : decode c_BM_feed 4 = .ok (.bipush 20, 2) := by decide +kernel
theorem d_BM_feed_6 : decode c_BM_feed 6 = .ok (.iadd, 1) := by decide +kernel
theorem d_BM_feed_7 : decode c_BM_feed 7 = .ok (.sipush 400, 3) := by decide +kernel
theorem d_BM_feed_10 : decode c_BM_feed 10 = .ok (.if_icmp .le 5, 3) := by decide +kernel
theorem d_BM_feed_13 : decode c_BM_feed 13 = .ok (.iconst (-1), 1) := by decide +kernel
theorem d_BM_feed_14 : decode c_BM_feed 14 = .ok (.ireturn, 1) := by decide +kernel
theorem d_BM_feed_15 : decode c_BM_feed 15 = .ok (.aload_n 0, 1) := by decide +kernel
theorem d_BM_feed_16 : decode c_BM_feed 16 = .ok (.iload_n 1, 1) := by decide +kernel
theorem d_BM_feed_17 : decode c_BM_feed 17 = .ok (.invokevirtual 191, 3) := by decide +kernel
theorem d_BM_feed_20 : decode c_BM_feed 20 = .ok (.aload_n 0, 1) := by decide +kernel
theorem d_BM_feed_21 : decode c_BM_feed 21 = .ok (.iload_n 2, 1) := by decide +kernel
theorem d_BM_feed_22 : decode c_BM_feed 22 = .ok (.invokevirtual 191, 3) := by decide +kernel
theorem d_BM_feed_25 : decode c_BM_feed 25 = .ok (.aload_n 0, 1) := by decide +kernel
theorem d_BM_feed_26 : decode c_BM_feed 26 = .ok (.iload_n 3, 1) := by decide +kernel
theorem d_BM_feed_27 : decode c_BM_feed 27 = .ok (.invokevirtual 191, 3) := by decide +kernel
theorem d_BM_feed_30 : decode c_BM_feed 30 = .ok (.aload_n 0, 1) := by decide +kernel
theorem d_BM_feed_31 : decode c_BM_feed 31 = .ok (.iload 4, 2) := by decide +kernel
theorem d_BM_feed_33 : decode c_BM_feed 33 = .ok (.invokevirtual 191, 3) := by decide +kernel
theorem d_BM_feed_36 : decode c_BM_feed 36 = .ok (.aload_n 0, 1) := by decide +kernel
theorem d_BM_feed_37 : decode c_BM_feed 37 = .ok (.iload 5, 2) := by decide +kernel
theorem d_BM_feed_39 : decode c_BM_feed 39 = .ok (.invokevirtual 191, 3) := by decide +kernel
theorem d_BM_feed_42 : decode c_BM_feed 42 = .ok (.aload_n 0, 1) := by decide +kernel
theorem d_BM_feed_43 : decode c_BM_feed 43 = .ok (.getfield 188, 3) := by decide +kernel
theorem d_BM_feed_46 : decode c_BM_feed 46 = .ok (.ireturn, 1) := by decide +kernel
def S_BM_feed_0 (g : Gx) (Q : Int32 → St → Prop) (σ : St) (x1 : Int32) (x2 : Int32) (x3 : Int32) (x4 : Int32) (x5 : Int32) : Prop := Ax g m_BM_feed 0 0 (ZI g Q) SH σ 0 0 0 [(0, .ref (gB g + 151)), (1, .int x1), (2, .int x2), (3, .int x3), (4, .int x4), (5, .int x5)] []
theorem sg_BM_feed_0 {g : Gx} {Q : Int32 → St → Prop} {σ : St} {x1 : Int32} {x2 : Int32} {x3 : Int32} {x4 : Int32} {x5 : Int32}
    (h : (((fi σ 151 11) + (20 : Int32)) ≤ (400 : Int32) → K_BM_append g x1 σ (fun s1 : St => K_BM_append g x2 s1 (fun s2 : St => K_BM_append g x3 s2 (fun s3 : St => K_BM_append g x4 s3 (fun s4 : St => K_BM_append g x5 s4 (fun s5 : St => Q (fi s5 151 11) s5)))))) ∧ (¬ ((fi σ 151 11) + (20 : Int32)) ≤ (400 : Int32) → Q (-1 : Int32) σ)) : S_BM_feed_0 g Q σ x1 x2 x3 x4 x5 := by
  show Ax g m_BM_feed 0 0 (ZI g Q) SH σ 0 0 0 [(0, .ref (gB g + 151)), (1, .int x1), (2, .int x2), (3, .int x3), (4, .int x4), (5, .int x5)] []
  refine a_aload_n (pc := 0) 0 rfl rfl d_BM_feed_0 ?_
  refine a_getI (pc := 1) fg_BM_188 sx_151 rfl d_BM_feed_1 ?_
  refine a_bipush (pc := 4) (20 : Int32) (by decide) d_BM_feed_4 ?_
  refine a_iadd (pc := 6) d_BM_feed_6 ?_
  refine a_sipush (pc := 7) (400 : Int32) (by decide) d_BM_feed_7 ?_
  refine a_icmp_le (pc := 10) 15 (by decide) d_BM_feed_10 ⟨fun c0 => ?_, fun c0 => ?_⟩
  · replace h := h.1 c0
    refine a_aload_n (pc := 15) 0 rfl rfl d_BM_feed_15 ?_
    refine a_iload_n (pc := 16) 1 rfl rfl d_BM_feed_16 ?_
    refine a_callV (pc := 17) (M' := m_BM_append) (As := [.int x1]) (st := []) (mc' := 0) (ms' := 0) lk_BM_191 rfl sx_151 rfl (by decide) (by decide) rfl (Nat.le_of_ble_eq_true rfl) (Nat.le_refl 0) (Nat.le_refl 0) d_BM_feed_17 h ?_
    rintro _ _ s1 ⟨rfl, rfl, h⟩ -
    show Ax g m_BM_feed 0 0 (ZI g Q) SH s1 0 0 20 [(0, .ref (gB g + 151)), (1, .int x1), (2, .int x2), (3, .int x3), (4, .int x4), (5, .int x5)] []
    refine a_aload_n (pc := 20) 0 rfl rfl d_BM_feed_20 ?_
    refine a_iload_n (pc := 21) 2 rfl rfl d_BM_feed_21 ?_
    refine a_callV (pc := 22) (M' := m_BM_append) (As := [.int x2]) (st := []) (mc' := 0) (ms' := 0) lk_BM_191 rfl sx_151 rfl (by decide) (by decide) rfl (Nat.le_of_ble_eq_true rfl) (Nat.le_refl 0) (Nat.le_refl 0) d_BM_feed_22 h ?_
    rintro _ _ s2 ⟨rfl, rfl, h⟩ -
    show Ax g m_BM_feed 0 0 (ZI g Q) SH s2 0 0 25 [(0, .ref (gB g + 151)), (1, .int x1), (2, .int x2), (3, .int x3), (4, .int x4), (5, .int x5)] []
    refine a_aload_n (pc := 25) 0 rfl rfl d_BM_feed_25 ?_
    refine a_iload_n (pc := 26) 3 rfl rfl d_BM_feed_26 ?_
    refine a_callV (pc := 27) (M' := m_BM_append) (As := [.int x3]) (st := []) (mc' := 0) (ms' := 0) lk_BM_191 rfl sx_151 rfl (by decide) (by decide) rfl (Nat.le_of_ble_eq_true rfl) (Nat.le_refl 0) (Nat.le_refl 0) d_BM_feed_27 h ?_
    rintro _ _ s3 ⟨rfl, rfl, h⟩ -
    show Ax g m_BM_feed 0 0 (ZI g Q) SH s3 0 0 30 [(0, .ref (gB g + 151)), (1, .int x1), (2, .int x2), (3, .int x3), (4, .int x4), (5, .int x5)] []
    refine a_aload_n (pc := 30) 0 rfl rfl d_BM_feed_30 ?_
    refine a_iload (pc := 31) 4 rfl d_BM_feed_31 ?_
    refine a_callV (pc := 33) (M' := m_BM_append) (As := [.int x4]) (st := []) (mc' := 0) (ms' := 0) lk_BM_191 rfl sx_151 rfl (by decide) (by decide) rfl (Nat.le_of_ble_eq_true rfl) (Nat.le_refl 0) (Nat.le_refl 0) d_BM_feed_33 h ?_
    rintro _ _ s4 ⟨rfl, rfl, h⟩ -
    show Ax g m_BM_feed 0 0 (ZI g Q) SH s4 0 0 36 [(0, .ref (gB g + 151)), (1, .int x1), (2, .int x2), (3, .int x3), (4, .int x4), (5, .int x5)] []
    refine a_aload_n (pc := 36) 0 rfl rfl d_BM_feed_36 ?_
    refine a_iload (pc := 37) 5 rfl d_BM_feed_37 ?_
    refine a_callV (pc := 39) (M' := m_BM_append) (As := [.int x5]) (st := []) (mc' := 0) (ms' := 0) lk_BM_191 rfl sx_151 rfl (by decide) (by decide) rfl (Nat.le_of_ble_eq_true rfl) (Nat.le_refl 0) (Nat.le_refl 0) d_BM_feed_39 h ?_
    rintro _ _ s5 ⟨rfl, rfl, h⟩ -
    show Ax g m_BM_feed 0 0 (ZI g Q) SH s5 0 0 42 [(0, .ref (gB g + 151)), (1, .int x1), (2, .int x2), (3, .int x3), (4, .int x4), (5, .int x5)] []
    refine a_aload_n (pc := 42) 0 rfl rfl d_BM_feed_42 ?_
    refine a_getI (pc := 43) fg_BM_188 sx_151 rfl d_BM_feed_43 ?_
    exact b_iret (pc := 46) rfl d_BM_feed_46 h
  · replace h := h.2 c0
    refine a_iconst (pc := 13) (-1 : Int32) (by decide) d_BM_feed_13 ?_
    exact b_iret (pc := 14) rfl d_BM_feed_14 h
theorem ko_BM_feed {g : Gx}  {x1 : Int32} {x2 : Int32} {x3 : Int32} {x4 : Int32} {x5 : Int32} {σ : St} {Q : Int32 → St → Prop} (h : S_BM_feed_0 g Q σ x1 x2 x3 x4 x5) : K_BM_feed g x1 x2 x3 x4 x5 σ Q := KI.of (show plainName "BallBoxModel" = true by decide) (Nat.le_of_ble_eq_true rfl) h
theorem d_BM_append_0 : decode c_BM_append 0 = .ok (.bipush 24, 2) := by decide +kernel
theorem d_BM_append_2 : decode c_BM_append 2 = .ok (.istore_n 2, 1) := by decide +kernel
theorem d_BM_append_3 : decode c_BM_append 3 = .ok (.iload_n 2, 1) := by decide +kernel
theorem d_BM_append_4 : decode c_BM_append 4 = .ok (.ifCond .lt 32, 3) := by decide +kernel
theorem d_BM_append_7 : decode c_BM_append 7 = .ok (.aload_n 0, 1) := by decide +kernel
theorem d_BM_append_8 : decode c_BM_append 8 = .ok (.getfield 44, 3) := by decide +kernel
theorem d_BM_append_11 : decode c_BM_append 11 = .ok (.aload_n 0, 1) := by decide +kernel
theorem d_BM_append_12 : decode c_BM_append 12 = .ok (.getfield 188, 3) := by decide +kernel
theorem d_BM_append_15 : decode c_BM_append 15 = .ok (.iload_n 1, 1) := by decide +kernel
theorem d_BM_append_16 : decode c_BM_append 16 = .ok (.iload_n 2, 1) := by decide +kernel
theorem d_BM_append_17 : decode c_BM_append 17 = .ok (.ishr, 1) := by decide +kernel
theorem d_BM_append_18 : decode c_BM_append 18 = .ok (.i2b, 1) := by decide +kernel
theorem d_BM_append_19 : decode c_BM_append 19 = .ok (.bastore, 1) := by decide +kernel
theorem d_BM_append_20 : decode c_BM_append 20 = .ok (.aload_n 0, 1) := by decide +kernel
theorem d_BM_append_21 : decode c_BM_append 21 = .ok (.dup, 1) := by decide +kernel
theorem d_BM_append_22 : decode c_BM_append 22 = .ok (.getfield 188, 3) := by decide +kernel
theorem d_BM_append_25 : decode c_BM_append 25 = .ok (.iconst 1, 1) := by decide +kernel
theorem d_BM_append_26 : decode c_BM_append 26 = .ok (.iadd, 1) := by decide +kernel
theorem d_BM_append_27 : decode c_BM_append 27 = .ok (.putfield 188, 3) := by decide +kernel
theorem d_BM_append_30 : decode c_BM_append 30 = .ok (.iinc 2 (-8), 3) := by decide +kernel
theorem d_BM_append_33 : decode c_BM_append 33 = .ok (.goto (-30), 3) := by decide +kernel
theorem d_BM_append_36 : decode c_BM_append 36 = .ok (.return_, 1) := by decide +kernel
def S_BM_append_0 (g : Gx) (Q : St → Prop) (σ : St) (x1 : Int32) : Prop := Ax g m_BM_append 0 0 (ZV g Q) SH σ 0 0 0 [(0, .ref (gB g + 151)), (1, .int x1)] []
def S_BM_append_3 (g : Gx) (Q : St → Prop) (σ : St) (x1 : Int32) (x2 : Int32) : Prop := Ax g m_BM_append 0 0 (ZV g Q) SH σ 0 0 3 [(0, .ref (gB g + 151)), (1, .int x1), (2, .int x2)] []
theorem sg_BM_append_0 {g : Gx} {Q : St → Prop} {σ : St} {x1 : Int32}
    (h : S_BM_append_3 g Q σ x1 (24 : Int32)) : S_BM_append_0 g Q σ x1 := by
  show Ax g m_BM_append 0 0 (ZV g Q) SH σ 0 0 0 [(0, .ref (gB g + 151)), (1, .int x1)] []
  refine a_bipush (pc := 0) (24 : Int32) (by decide) d_BM_append_0 ?_
  refine a_istore_n (pc := 2) (lv' := [(2, .int (24 : Int32)), (0, .ref (gB g + 151)), (1, .int x1)]) rfl (Nat.le_of_ble_eq_true rfl) rfl d_BM_append_2 ?_
  refine a_sub (pc := 3) [1, 2, 0] rfl ?_
  exact h
theorem sg_BM_append_3 {g : Gx} {Q : St → Prop} {σ : St} {x1 : Int32} {x2 : Int32}
    (h : (x2 < 0 → Q σ) ∧ (¬ x2 < 0 → vp_in (fi σ 151 11) 400 ∧ (∀ s1 : St, s1 = sai σ 162 ((fi σ 151 11)).toNatClampNeg (vp_nar .byte (((x1 >>> (x2 &&& 31))).toInt8.toInt32)) → ∀ s2 : St, s2 = sfi s1 151 11 ((fi s1 151 11) + (1 : Int32)) → ∀ u3 : Int32, u3 = x2 + (-8 : Int32) → S_BM_append_3 g Q s2 x1 u3))) : S_BM_append_3 g Q σ x1 x2 := by
  show Ax g m_BM_append 0 0 (ZV g Q) SH σ 0 0 3 [(0, .ref (gB g + 151)), (1, .int x1), (2, .int x2)] []
  refine a_iload_n (pc := 3) 2 rfl rfl d_BM_append_3 ?_
  refine a_if_lt (pc := 4) 36 (by decide) d_BM_append_4 ⟨fun c0 => ?_, fun c0 => ?_⟩
  · replace h := h.1 c0
    exact b_vret (pc := 36) rfl d_BM_append_36 h
  · replace h := h.2 c0
    refine a_aload_n (pc := 7) 0 rfl rfl d_BM_append_7 ?_
    refine a_getR (pc := 8) fg_BM_44 sx_151 rfl d_BM_append_8 ?_
    refine a_aload_n (pc := 11) 0 rfl rfl d_BM_append_11 ?_
    refine a_getI (pc := 12) fg_BM_188 sx_151 rfl d_BM_append_12 ?_
    refine a_iload_n (pc := 15) 1 rfl rfl d_BM_append_15 ?_
    refine a_iload_n (pc := 16) 2 rfl rfl d_BM_append_16 ?_
    refine a_ishr (pc := 17) d_BM_append_17 ?_
    refine a_i2b (pc := 18) d_BM_append_18 ?_
    obtain ⟨hx, h⟩ := h
    refine a_bast (pc := 19) sx_162 hx d_BM_append_19 ?_
    refine a_nms (fun s1 hs1 => ?_)
    replace h := h s1 hs1
    refine a_aload_n (pc := 20) 0 rfl rfl d_BM_append_20 ?_
    refine a_dup (pc := 21) rfl d_BM_append_21 ?_
    refine a_getI (pc := 22) fg_BM_188 sx_151 rfl d_BM_append_22 ?_
    refine a_iconst (pc := 25) (1 : Int32) (by decide) d_BM_append_25 ?_
    refine a_iadd (pc := 26) d_BM_append_26 ?_
    refine a_putI (pc := 27) fp_BM_188 sx_151 rfl d_BM_append_27 ?_
    refine a_nms (fun s2 hs2 => ?_)
    replace h := h s2 hs2
    obtain ⟨u3, hu3⟩ : ∃ y : Int32, y = x2 + (-8 : Int32) := ⟨_, rfl⟩
    replace h := h u3 hu3
    refine a_iinc (pc := 30) (v := u3) (lv' := [(2, .int u3), (0, .ref (gB g + 151)), (1, .int x1)]) 2 rfl (by rw [hu3]; rfl) (Nat.le_of_ble_eq_true rfl) rfl d_BM_append_30 ?_
    refine a_goto (pc := 33) 3 (by decide) d_BM_append_33 ?_
    refine a_sub (pc := 3) [1, 2, 0] rfl ?_
    exact h
theorem ko_BM_append {g : Gx}  {x1 : Int32} {σ : St} {Q : St → Prop} (h : S_BM_append_0 g Q σ x1) : K_BM_append g x1 σ Q := KV.of (show plainName "BallBoxModel" = true by decide) (Nat.le_of_ble_eq_true rfl) h
theorem d_BM_end_0 : decode c_BM_end 0 = .ok (.iload_n 1, 1) := by decide +kernel
theorem d_BM_end_1 : decode c_BM_end 1 = .ok (.ifCond .lt 11, 3) := by decide +kernel
theorem d_BM_end_4 : decode c_BM_end 4 = .ok (.iload_n 1, 1) := by decide +kernel
theorem d_BM_end_5 : decode c_BM_end 5 = .ok (.aload_n 0, 1) := by decide +kernel
theorem d_BM_end_6 : decode c_BM_end 6 = .ok (.getfield 188, 3) := by decide +kernel
theorem d_BM_end_9 : decode c_BM_end 9 = .ok (.if_icmp .le 5, 3) := by decide +kernel
theorem d_BM_end_12 : decode c_BM_end 12 = .ok (.iconst (-1), 1) := by decide +kernel
theorem d_BM_end_13 : decode c_BM_end 13 = .ok (.ireturn, 1) := by decide +kernel
theorem d_BM_end_14 : decode c_BM_end 14 = .ok (.aload_n 0, 1) := by decide +kernel
theorem d_BM_end_15 : decode c_BM_end 15 = .ok (.iload_n 1, 1) := by decide +kernel
theorem d_BM_end_16 : decode c_BM_end 16 = .ok (.putfield 188, 3) := by decide +kernel
theorem d_BM_end_19 : decode c_BM_end 19 = .ok (.iload_n 1, 1) := by decide +kernel
theorem d_BM_end_20 : decode c_BM_end 20 = .ok (.ireturn, 1) := by decide +kernel
def S_BM_end_0 (g : Gx) (Q : Int32 → St → Prop) (σ : St) (x1 : Int32) : Prop := Ax g m_BM_end 0 0 (ZI g Q) SH σ 0 0 0 [(0, .ref (gB g + 151)), (1, .int x1)] []
theorem sg_BM_end_0 {g : Gx} {Q : Int32 → St → Prop} {σ : St} {x1 : Int32}
    (h : (x1 < 0 → Q (-1 : Int32) σ) ∧ (¬ x1 < 0 → (x1 ≤ (fi σ 151 11) → ∀ s1 : St, s1 = sfi σ 151 11 x1 → Q x1 s1) ∧ (¬ x1 ≤ (fi σ 151 11) → Q (-1 : Int32) σ))) : S_BM_end_0 g Q σ x1 := by
  show Ax g m_BM_end 0 0 (ZI g Q) SH σ 0 0 0 [(0, .ref (gB g + 151)), (1, .int x1)] []
  refine a_iload_n (pc := 0) 1 rfl rfl d_BM_end_0 ?_
  refine a_if_lt (pc := 1) 12 (by decide) d_BM_end_1 ⟨fun c0 => ?_, fun c0 => ?_⟩
  · replace h := h.1 c0
    refine a_iconst (pc := 12) (-1 : Int32) (by decide) d_BM_end_12 ?_
    exact b_iret (pc := 13) rfl d_BM_end_13 h
  · replace h := h.2 c0
    refine a_iload_n (pc := 4) 1 rfl rfl d_BM_end_4 ?_
    refine a_aload_n (pc := 5) 0 rfl rfl d_BM_end_5 ?_
    refine a_getI (pc := 6) fg_BM_188 sx_151 rfl d_BM_end_6 ?_
    refine a_icmp_le (pc := 9) 14 (by decide) d_BM_end_9 ⟨fun c0 => ?_, fun c0 => ?_⟩
    · replace h := h.1 c0
      refine a_aload_n (pc := 14) 0 rfl rfl d_BM_end_14 ?_
      refine a_iload_n (pc := 15) 1 rfl rfl d_BM_end_15 ?_
      refine a_putI (pc := 16) fp_BM_188 sx_151 rfl d_BM_end_16 ?_
      refine a_nms (fun s1 hs1 => ?_)
      replace h := h s1 hs1
      refine a_iload_n (pc := 19) 1 rfl rfl d_BM_end_19 ?_
      exact b_iret (pc := 20) rfl d_BM_end_20 h
    · replace h := h.2 c0
      refine a_iconst (pc := 12) (-1 : Int32) (by decide) d_BM_end_12 ?_
      exact b_iret (pc := 13) rfl d_BM_end_13 h
theorem ko_BM_end {g : Gx}  {x1 : Int32} {σ : St} {Q : Int32 → St → Prop} (h : S_BM_end_0 g Q σ x1) : K_BM_end g x1 σ Q := KI.of (show plainName "BallBoxModel" = true by decide) (Nat.le_of_ble_eq_true rfl) h
theorem d_BM_wordOf_0 : decode c_BM_wordOf 0 = .ok (.iload_n 0, 1) := by decide +kernel
theorem d_BM_wordOf_1 : decode c_BM_wordOf 1 = .ok (.tableswitch 64 0 6 #[43, 46, 49, 52, 55, 58, 61], 43) := by decide +kernel
theorem d_BM_wordOf_44 : decode c_BM_wordOf 44 = .ok (.ldc 195, 2) := by decide +kernel
theorem d_BM_wordOf_46 : decode c_BM_wordOf 46 = .ok (.areturn, 1) := by decide +kernel
theorem d_BM_wordOf_47 : decode c_BM_wordOf 47 = .ok (.ldc 197, 2) := by decide +kernel
theorem d_BM_wordOf_49 : decode c_BM_wordOf 49 = .ok (.areturn, 1) := by decide +kernel
theorem d_BM_wordOf_50 : decode c_BM_wordOf 50 = .ok (.ldc 199, 2) := by decide +kernel
theorem d_BM_wordOf_52 : decode c_BM_wordOf 52 = .ok (.areturn, 1) := by decide +kernel
theorem d_BM_wordOf_53 : decode c_BM_wordOf 53 = .ok (.ldc 201, 2) := by decide +kernel
theorem d_BM_wordOf_55 : decode c_BM_wordOf 55 = .ok (.areturn, 1) := by decide +kernel
theorem d_BM_wordOf_56 : decode c_BM_wordOf 56 = .ok (.ldc 203, 2) := by decide +kernel
theorem d_BM_wordOf_58 : decode c_BM_wordOf 58 = .ok (.areturn, 1) := by decide +kernel
theorem d_BM_wordOf_59 : decode c_BM_wordOf 59 = .ok (.ldc 205, 2) := by decide +kernel
theorem d_BM_wordOf_61 : decode c_BM_wordOf 61 = .ok (.areturn, 1) := by decide +kernel
theorem d_BM_wordOf_62 : decode c_BM_wordOf 62 = .ok (.ldc 207, 2) := by decide +kernel
theorem d_BM_wordOf_64 : decode c_BM_wordOf 64 = .ok (.areturn, 1) := by decide +kernel
theorem d_BM_wordOf_65 : decode c_BM_wordOf 65 = .ok (.ldc 209, 2) := by decide +kernel
theorem d_BM_wordOf_67 : decode c_BM_wordOf 67 = .ok (.areturn, 1) := by decide +kernel
def S_BM_wordOf_0 (g : Gx) (Q : Nat → St → Prop) (σ : St) (x0 : Int32) : Prop := Ax g m_BM_wordOf 0 0 (ZA g Q) SH σ 0 0 0 [(0, .int x0)] []
theorem sg_BM_wordOf_0 {g : Gx} {Q : Nat → St → Prop} {σ : St} {x0 : Int32}
    (h : ((x0 = (0 : Int32) → Q (gK g 1) σ) ∧ (x0 = (1 : Int32) → Q (gK g 5) σ) ∧ (x0 = (2 : Int32) → Q (gK g 6) σ) ∧ (x0 = (3 : Int32) → Q (gK g 7) σ) ∧ (x0 = (4 : Int32) → Q (gK g 8) σ) ∧ (x0 = (5 : Int32) → Q (gK g 9) σ) ∧ (x0 = (6 : Int32) → Q (gK g 10) σ) ∧ (¬ x0 = (0 : Int32) → ¬ x0 = (1 : Int32) → ¬ x0 = (2 : Int32) → ¬ x0 = (3 : Int32) → ¬ x0 = (4 : Int32) → ¬ x0 = (5 : Int32) → ¬ x0 = (6 : Int32) → Q (gK g 11) σ))) : S_BM_wordOf_0 g Q σ x0 := by
  show Ax g m_BM_wordOf 0 0 (ZA g Q) SH σ 0 0 0 [(0, .int x0)] []
  refine a_iload_n (pc := 0) 0 rfl rfl d_BM_wordOf_0 ?_
  by_cases c0 : x0 = (0 : Int32)
  · replace h := h.1 c0
    refine a_tableIn (pc := 1) 44 (off := 43) (by rw [c0]; decide) (by rw [c0]; decide) (by rw [c0]; rfl) (by decide) d_BM_wordOf_1 ?_
    refine a_ldcS (pc := 44) (own := "BallBoxModel") (idx := 195) (tx := "ball") (w := 1) (by simp [strs]) rfl d_BM_wordOf_44 ?_
    exact b_aret (pc := 46) rfl d_BM_wordOf_46 h
  replace h := h.2
  by_cases c1 : x0 = (1 : Int32)
  · replace h := h.1 c1
    refine a_tableIn (pc := 1) 47 (off := 46) (by rw [c1]; decide) (by rw [c1]; decide) (by rw [c1]; rfl) (by decide) d_BM_wordOf_1 ?_
    refine a_ldcS (pc := 47) (own := "BallBoxModel") (idx := 197) (tx := "x") (w := 5) (by simp [strs]) rfl d_BM_wordOf_47 ?_
    exact b_aret (pc := 49) rfl d_BM_wordOf_49 h
  replace h := h.2
  by_cases c2 : x0 = (2 : Int32)
  · replace h := h.1 c2
    refine a_tableIn (pc := 1) 50 (off := 49) (by rw [c2]; decide) (by rw [c2]; decide) (by rw [c2]; rfl) (by decide) d_BM_wordOf_1 ?_
    refine a_ldcS (pc := 50) (own := "BallBoxModel") (idx := 199) (tx := "y") (w := 6) (by simp [strs]) rfl d_BM_wordOf_50 ?_
    exact b_aret (pc := 52) rfl d_BM_wordOf_52 h
  replace h := h.2
  by_cases c3 : x0 = (3 : Int32)
  · replace h := h.1 c3
    refine a_tableIn (pc := 1) 53 (off := 52) (by rw [c3]; decide) (by rw [c3]; decide) (by rw [c3]; rfl) (by decide) d_BM_wordOf_1 ?_
    refine a_ldcS (pc := 53) (own := "BallBoxModel") (idx := 201) (tx := "ahead") (w := 7) (by simp [strs]) rfl d_BM_wordOf_53 ?_
    exact b_aret (pc := 55) rfl d_BM_wordOf_55 h
  replace h := h.2
  by_cases c4 : x0 = (4 : Int32)
  · replace h := h.1 c4
    refine a_tableIn (pc := 1) 56 (off := 55) (by rw [c4]; decide) (by rw [c4]; decide) (by rw [c4]; rfl) (by decide) d_BM_wordOf_1 ?_
    refine a_ldcS (pc := 56) (own := "BallBoxModel") (idx := 203) (tx := "way") (w := 8) (by simp [strs]) rfl d_BM_wordOf_56 ?_
    exact b_aret (pc := 58) rfl d_BM_wordOf_58 h
  replace h := h.2
  by_cases c5 : x0 = (5 : Int32)
  · replace h := h.1 c5
    refine a_tableIn (pc := 1) 59 (off := 58) (by rw [c5]; decide) (by rw [c5]; decide) (by rw [c5]; rfl) (by decide) d_BM_wordOf_1 ?_
    refine a_ldcS (pc := 59) (own := "BallBoxModel") (idx := 205) (tx := "tips") (w := 9) (by simp [strs]) rfl d_BM_wordOf_59 ?_
    exact b_aret (pc := 61) rfl d_BM_wordOf_61 h
  replace h := h.2
  by_cases c6 : x0 = (6 : Int32)
  · replace h := h.1 c6
    refine a_tableIn (pc := 1) 62 (off := 61) (by rw [c6]; decide) (by rw [c6]; decide) (by rw [c6]; rfl) (by decide) d_BM_wordOf_1 ?_
    refine a_ldcS (pc := 62) (own := "BallBoxModel") (idx := 207) (tx := "home") (w := 10) (by simp [strs]) rfl d_BM_wordOf_62 ?_
    exact b_aret (pc := 64) rfl d_BM_wordOf_64 h
  replace h := h.2
  replace h := h c0 c1 c2 c3 c4 c5 c6
  have e0 := lv_neT (a := 0) c0 rfl
  have e1 := lv_neT (a := 1) c1 rfl
  have e2 := lv_neT (a := 2) c2 rfl
  have e3 := lv_neT (a := 3) c3 rfl
  have e4 := lv_neT (a := 4) c4 rfl
  have e5 := lv_neT (a := 5) c5 rfl
  have e6 := lv_neT (a := 6) c6 rfl
  refine a_tableOut (pc := 1) 65 (by omega) (by decide) d_BM_wordOf_1 ?_
  refine a_ldcS (pc := 65) (own := "BallBoxModel") (idx := 209) (tx := "steps") (w := 11) (by simp [strs]) rfl d_BM_wordOf_65 ?_
  exact b_aret (pc := 67) rfl d_BM_wordOf_67 h
theorem ko_BM_wordOf {g : Gx}  {x0 : Int32} {σ : St} {Q : Nat → St → Prop} (h : S_BM_wordOf_0 g Q σ x0) : K_BM_wordOf g x0 σ Q := KA.of (show plainName "BallBoxModel" = true by decide) (Nat.le_of_ble_eq_true rfl) h
theorem d_BM_fails_0 : decode c_BM_fails 0 = .ok (.aload_n 0, 1) := by decide +kernel
theorem d_BM_fails_1 : decode c_BM_fails 1 = .ok (.aload_n 0, 1) := by decide +kernel
theorem d_BM_fails_2 : decode c_BM_fails 2 = .ok (.getfield 211, 3) := by decide +kernel
theorem d_BM_fails_5 : decode c_BM_fails 5 = .ok (.ifCond .ne 14, 3) := by decide +kernel
theorem d_BM_fails_8 : decode c_BM_fails 8 = .ok (.iconst 1, 1) := by decide +kernel
theorem d_BM_fails_9 : decode c_BM_fails 9 = .ok (.bipush 8, 2) := by decide +kernel
theorem d_BM_fails_11 : decode c_BM_fails 11 = .ok (.iload_n 2, 1) := by decide +kernel
theorem d_BM_fails_12 : decode c_BM_fails 12 = .ok (.imul, 1) := by decide +kernel
theorem d_BM_fails_13 : decode c_BM_fails 13 = .ok (.iadd, 1) := by decide +kernel
theorem d_BM_fails_14 : decode c_BM_fails 14 = .ok (.iload_n 1, 1) := by decide +kernel
theorem d_BM_fails_15 : decode c_BM_fails 15 = .ok (.iadd, 1) := by decide +kernel
theorem d_BM_fails_16 : decode c_BM_fails 16 = .ok (.goto 7, 3) := by decide +kernel
theorem d_BM_fails_19 : decode c_BM_fails 19 = .ok (.aload_n 0, 1) := by decide +kernel
theorem d_BM_fails_20 : decode c_BM_fails 20 = .ok (.getfield 211, 3) := by decide +kernel
theorem d_BM_fails_23 : decode c_BM_fails 23 = .ok (.putfield 211, 3) := by decide +kernel
theorem d_BM_fails_26 : decode c_BM_fails 26 = .ok (.return_, 1) := by decide +kernel
def S_BM_fails_0 (g : Gx) (Q : St → Prop) (σ : St) (x1 : Int32) (x2 : Int32) : Prop := Ax g m_BM_fails 0 0 (ZV g Q) SH σ 0 0 0 [(0, .ref (gB g + 151)), (1, .int x1), (2, .int x2)] []
theorem sg_BM_fails_0 {g : Gx} {Q : St → Prop} {σ : St} {x1 : Int32} {x2 : Int32}
    (h : (¬ (fi σ 151 13) = 0 → ∀ s1 : St, s1 = sfi σ 151 13 (fi σ 151 13) → Q s1) ∧ ((fi σ 151 13) = 0 → ∀ s2 : St, s2 = sfi σ 151 13 (((1 : Int32) + ((8 : Int32) * x2)) + x1) → Q s2)) : S_BM_fails_0 g Q σ x1 x2 := by
  show Ax g m_BM_fails 0 0 (ZV g Q) SH σ 0 0 0 [(0, .ref (gB g + 151)), (1, .int x1), (2, .int x2)] []
  refine a_aload_n (pc := 0) 0 rfl rfl d_BM_fails_0 ?_
  refine a_aload_n (pc := 1) 0 rfl rfl d_BM_fails_1 ?_
  refine a_getI (pc := 2) fg_BM_211 sx_151 rfl d_BM_fails_2 ?_
  refine a_if_ne (pc := 5) 19 (by decide) d_BM_fails_5 ⟨fun c0 => ?_, fun c0 => ?_⟩
  · replace h := h.1 c0
    refine a_aload_n (pc := 19) 0 rfl rfl d_BM_fails_19 ?_
    refine a_getI (pc := 20) fg_BM_211 sx_151 rfl d_BM_fails_20 ?_
    refine a_putI (pc := 23) fp_BM_211 sx_151 rfl d_BM_fails_23 ?_
    refine a_nms (fun s1 hs1 => ?_)
    replace h := h s1 hs1
    exact b_vret (pc := 26) rfl d_BM_fails_26 h
  · replace h := h.2 c0
    refine a_iconst (pc := 8) (1 : Int32) (by decide) d_BM_fails_8 ?_
    refine a_bipush (pc := 9) (8 : Int32) (by decide) d_BM_fails_9 ?_
    refine a_iload_n (pc := 11) 2 rfl rfl d_BM_fails_11 ?_
    refine a_imul (pc := 12) d_BM_fails_12 ?_
    refine a_iadd (pc := 13) d_BM_fails_13 ?_
    refine a_iload_n (pc := 14) 1 rfl rfl d_BM_fails_14 ?_
    refine a_iadd (pc := 15) d_BM_fails_15 ?_
    refine a_goto (pc := 16) 23 (by decide) d_BM_fails_16 ?_
    refine a_putI (pc := 23) fp_BM_211 sx_151 rfl d_BM_fails_23 ?_
    refine a_nms (fun s2 hs2 => ?_)
    replace h := h s2 hs2
    exact b_vret (pc := 26) rfl d_BM_fails_26 h
theorem ko_BM_fails {g : Gx}  {x1 : Int32} {x2 : Int32} {σ : St} {Q : St → Prop} (h : S_BM_fails_0 g Q σ x1 x2) : K_BM_fails g x1 x2 σ Q := KV.of (show plainName "BallBoxModel" = true by decide) (Nat.le_of_ble_eq_true rfl) h
theorem d_BM_sign_0 : decode c_BM_sign 0 = .ok (.aload_n 0, 1) := by decide +kernel
theorem d_BM_sign_1 : decode c_BM_sign 1 = .ok (.getfield 214, 3) := by decide +kernel
theorem d_BM_sign_4 : decode c_BM_sign 4 = .ok (.aload_n 0, 1) := by decide +kernel
theorem d_BM_sign_5 : decode c_BM_sign 5 = .ok (.getfield 188, 3) := by decide +kernel
theorem d_BM_sign_8 : decode c_BM_sign 8 = .ok (.if_icmp .ge 19, 3) := by decide +kernel
theorem d_BM_sign_11 : decode c_BM_sign 11 = .ok (.aload_n 0, 1) := by decide +kernel
theorem d_BM_sign_12 : decode c_BM_sign 12 = .ok (.getfield 44, 3) := by decide +kernel
theorem d_BM_sign_15 : decode c_BM_sign 15 = .ok (.aload_n 0, 1) := by decide +kernel
theorem d_BM_sign_16 : decode c_BM_sign 16 = .ok (.getfield 214, 3) := by decide +kernel
theorem d_BM_sign_19 : decode c_BM_sign 19 = .ok (.baload, 1) := by decide +kernel
theorem d_BM_sign_20 : decode c_BM_sign 20 = .ok (.sipush 255, 3) := by decide +kernel
theorem d_BM_sign_23 : decode c_BM_sign 23 = .ok (.iand, 1) := by decide +kernel
theorem d_BM_sign_24 : decode c_BM_sign 24 = .ok (.goto 4, 3) := by decide +kernel
theorem d_BM_sign_27 : decode c_BM_sign 27 = .ok (.iconst (-1), 1) := by decide +kernel
theorem d_BM_sign_28 : decode c_BM_sign 28 = .ok (.ireturn, 1) := by decide +kernel
def S_BM_sign_0 (g : Gx) (Q : Int32 → St → Prop) (σ : St) : Prop := Ax g m_BM_sign 0 0 (ZI g Q) SH σ 0 0 0 [(0, .ref (gB g + 151))] []
theorem sg_BM_sign_0 {g : Gx} {Q : Int32 → St → Prop} {σ : St}
    (h : ((fi σ 151 11) ≤ (fi σ 151 12) → Q (-1 : Int32) σ) ∧ (¬ (fi σ 151 11) ≤ (fi σ 151 12) → vp_in (fi σ 151 12) 400 ∧ (Q ((ai σ 162 ((fi σ 151 12)).toNatClampNeg) &&& (255 : Int32)) σ))) : S_BM_sign_0 g Q σ := by
  show Ax g m_BM_sign 0 0 (ZI g Q) SH σ 0 0 0 [(0, .ref (gB g + 151))] []
  refine a_aload_n (pc := 0) 0 rfl rfl d_BM_sign_0 ?_
  refine a_getI (pc := 1) fg_BM_214 sx_151 rfl d_BM_sign_1 ?_
  refine a_aload_n (pc := 4) 0 rfl rfl d_BM_sign_4 ?_
  refine a_getI (pc := 5) fg_BM_188 sx_151 rfl d_BM_sign_5 ?_
  refine a_icmp_ge (pc := 8) 27 (by decide) d_BM_sign_8 ⟨fun c0 => ?_, fun c0 => ?_⟩
  · replace h := h.1 c0
    refine a_iconst (pc := 27) (-1 : Int32) (by decide) d_BM_sign_27 ?_
    exact b_iret (pc := 28) rfl d_BM_sign_28 h
  · replace h := h.2 c0
    refine a_aload_n (pc := 11) 0 rfl rfl d_BM_sign_11 ?_
    refine a_getR (pc := 12) fg_BM_44 sx_151 rfl d_BM_sign_12 ?_
    refine a_aload_n (pc := 15) 0 rfl rfl d_BM_sign_15 ?_
    refine a_getI (pc := 16) fg_BM_214 sx_151 rfl d_BM_sign_16 ?_
    obtain ⟨hx, h⟩ := h
    refine a_bald (pc := 19) sx_162 hx d_BM_sign_19 ?_
    refine a_sipush (pc := 20) (255 : Int32) (by decide) d_BM_sign_20 ?_
    refine a_iand (pc := 23) d_BM_sign_23 ?_
    refine a_goto (pc := 24) 28 (by decide) d_BM_sign_24 ?_
    exact b_iret (pc := 28) rfl d_BM_sign_28 h
theorem ko_BM_sign {g : Gx}  {σ : St} {Q : Int32 → St → Prop} (h : S_BM_sign_0 g Q σ) : K_BM_sign g  σ Q := KI.of (show plainName "BallBoxModel" = true by decide) (Nat.le_of_ble_eq_true rfl) h
theorem d_BM_blanks_0 : decode c_BM_blanks 0 = .ok (.aload_n 0, 1) := by decide +kernel
theorem d_BM_blanks_1 : decode c_BM_blanks 1 = .ok (.invokevirtual 217, 3) := by decide +kernel
theorem d_BM_blanks_4 : decode c_BM_blanks 4 = .ok (.bipush 32, 2) := by decide +kernel
theorem d_BM_blanks_6 : decode c_BM_blanks 6 = .ok (.if_icmp .ne 16, 3) := by decide +kernel
theorem d_BM_blanks_9 : decode c_BM_blanks 9 = .ok (.aload_n 0, 1) := by decide +kernel
theorem d_BM_blanks_10 : decode c_BM_blanks 10 = .ok (.dup, 1) := by decide +kernel
theorem d_BM_blanks_11 : decode c_BM_blanks 11 = .ok (.getfield 214, 3) := by decide +kernel
theorem d_BM_blanks_14 : decode c_BM_blanks 14 = .ok (.iconst 1, 1) := by decide +kernel
theorem d_BM_blanks_15 : decode c_BM_blanks 15 = .ok (.iadd, 1) := by decide +kernel
theorem d_BM_blanks_16 : decode c_BM_blanks 16 = .ok (.putfield 214, 3) := by decide +kernel
theorem d_BM_blanks_19 : decode c_BM_blanks 19 = .ok (.goto (-19), 3) := by decide +kernel
theorem d_BM_blanks_22 : decode c_BM_blanks 22 = .ok (.return_, 1) := by decide +kernel
def S_BM_blanks_0 (g : Gx) (Q : St → Prop) (σ : St) : Prop := Ax g m_BM_blanks 0 0 (ZV g Q) SH σ 0 0 0 [(0, .ref (gB g + 151))] []
theorem sg_BM_blanks_0 {g : Gx} {Q : St → Prop} {σ : St}
    (h : K_BM_sign g σ (fun (r2 : Int32) (s1 : St) => (¬ r2 = (32 : Int32) → Q s1) ∧ (r2 = (32 : Int32) → ∀ s3 : St, s3 = sfi s1 151 12 ((fi s1 151 12) + (1 : Int32)) → S_BM_blanks_0 g Q s3))) : S_BM_blanks_0 g Q σ := by
  show Ax g m_BM_blanks 0 0 (ZV g Q) SH σ 0 0 0 [(0, .ref (gB g + 151))] []
  refine a_aload_n (pc := 0) 0 rfl rfl d_BM_blanks_0 ?_
  refine a_callV (pc := 1) (M' := m_BM_sign) (As := []) (st := []) (mc' := 0) (ms' := 0) lk_BM_217 rfl sx_151 rfl (by decide) (by decide) rfl (Nat.le_of_ble_eq_true rfl) (Nat.le_refl 0) (Nat.le_refl 0) d_BM_blanks_1 h ?_
  rintro _ _ s1 ⟨r2, rfl, rfl, h⟩ -
  show Ax g m_BM_blanks 0 0 (ZV g Q) SH s1 0 0 4 [(0, .ref (gB g + 151))] [.int r2]
  refine a_bipush (pc := 4) (32 : Int32) (by decide) d_BM_blanks_4 ?_
  refine a_icmp_ne (pc := 6) 22 (by decide) d_BM_blanks_6 ⟨fun c0 => ?_, fun c0 => ?_⟩
  · replace h := h.1 c0
    exact b_vret (pc := 22) rfl d_BM_blanks_22 h
  · replace h := h.2 c0
    refine a_aload_n (pc := 9) 0 rfl rfl d_BM_blanks_9 ?_
    refine a_dup (pc := 10) rfl d_BM_blanks_10 ?_
    refine a_getI (pc := 11) fg_BM_214 sx_151 rfl d_BM_blanks_11 ?_
    refine a_iconst (pc := 14) (1 : Int32) (by decide) d_BM_blanks_14 ?_
    refine a_iadd (pc := 15) d_BM_blanks_15 ?_
    refine a_putI (pc := 16) fp_BM_214 sx_151 rfl d_BM_blanks_16 ?_
    refine a_nms (fun s3 hs3 => ?_)
    replace h := h s3 hs3
    refine a_goto (pc := 19) 0 (by decide) d_BM_blanks_19 ?_
    refine a_sub (pc := 0) [0] rfl ?_
    exact h
theorem ko_BM_blanks {g : Gx}  {σ : St} {Q : St → Prop} (h : S_BM_blanks_0 g Q σ) : K_BM_blanks g  σ Q := KV.of (show plainName "BallBoxModel" = true by decide) (Nat.le_of_ble_eq_true rfl) h
theorem d_BM_isDigit_0 : decode c_BM_isDigit 0 = .ok (.aload_n 0, 1) := by decide +kernel
theorem d_BM_isDigit_1 : decode c_BM_isDigit 1 = .ok (.invokevirtual 217, 3) := by decide +kernel
theorem d_BM_isDigit_4 : decode c_BM_isDigit 4 = .ok (.i2l, 1) := by decide +kernel
theorem d_BM_isDigit_5 : decode c_BM_isDigit 5 = .ok (.ldc2_w 221, 3) := by decide +kernel
theorem d_BM_isDigit_8 : decode c_BM_isDigit 8 = .ok (.ldc2_w 223, 3) := by decide +kernel
theorem d_BM_isDigit_11 : decode c_BM_isDigit 11 = .ok (.invokestatic 162, 3) := by decide +kernel
theorem d_BM_isDigit_14 : decode c_BM_isDigit 14 = .ok (.ireturn, 1) := by decide +kernel
def S_BM_isDigit_0 (g : Gx) (Q : Int32 → St → Prop) (σ : St) : Prop := Ax g m_BM_isDigit 0 0 (ZI g Q) SH σ 0 0 0 [(0, .ref (gB g + 151))] []
theorem sg_BM_isDigit_0 {g : Gx} {Q : Int32 → St → Prop} {σ : St}
    (h : K_BM_sign g σ (fun (r2 : Int32) (s1 : St) => K_BM_in g ((r2).toInt64) (48 : Int64) (57 : Int64) s1 (fun (r4 : Int32) (s3 : St) => (r4 = 0 ∨ r4 = 1) ∧ Q r4 s3))) : S_BM_isDigit_0 g Q σ := by
  show Ax g m_BM_isDigit 0 0 (ZI g Q) SH σ 0 0 0 [(0, .ref (gB g + 151))] []
  refine a_aload_n (pc := 0) 0 rfl rfl d_BM_isDigit_0 ?_
  refine a_callV (pc := 1) (M' := m_BM_sign) (As := []) (st := []) (mc' := 0) (ms' := 0) lk_BM_217 rfl sx_151 rfl (by decide) (by decide) rfl (Nat.le_of_ble_eq_true rfl) (Nat.le_refl 0) (Nat.le_refl 0) d_BM_isDigit_1 h ?_
  rintro _ _ s1 ⟨r2, rfl, rfl, h⟩ -
  show Ax g m_BM_isDigit 0 0 (ZI g Q) SH s1 0 0 4 [(0, .ref (gB g + 151))] [.int r2]
  refine a_i2l (pc := 4) d_BM_isDigit_4 ?_
  refine a_ldc2 (pc := 5) tw1548 d_BM_isDigit_5 ?_
  refine a_ldc2 (pc := 8) tw1549 d_BM_isDigit_8 ?_
  refine a_callS (pc := 11) (M' := m_BM_in) (As := [.long ((r2).toInt64), .long (48 : Int64), .long (57 : Int64)]) (st := []) (mc' := 0) (ms' := 0) lk_BM_162 rfl (by decide) (by decide) rfl (Nat.le_of_ble_eq_true rfl) (Nat.le_refl 0) (Nat.le_refl 0) d_BM_isDigit_11 h ?_
  rintro _ _ s3 ⟨r4, rfl, rfl, h⟩ -
  show Ax g m_BM_isDigit 0 0 (ZI g Q) SH s3 0 0 14 [(0, .ref (gB g + 151))] [.int r4]
  exact b_zret (pc := 14) rfl h.1 d_BM_isDigit_14 h.2
theorem ko_BM_isDigit {g : Gx}  {σ : St} {Q : Int32 → St → Prop} (h : S_BM_isDigit_0 g Q σ) : K_BM_isDigit g  σ Q := KI.of (show plainName "BallBoxModel" = true by decide) (Nat.le_of_ble_eq_true rfl) h
theorem d_BM_stood_0 : decode c_BM_stood 0 = .ok (.aload_n 0, 1) := by decide +kernel
theorem d_BM_stood_1 : decode c_BM_stood 1 = .ok (.getfield 214, 3) := by decide +kernel
theorem d_BM_stood_4 : decode c_BM_stood 4 = .ok (.istore_n 2, 1) := by decide +kernel
theorem d_BM_stood_5 : decode c_BM_stood 5 = .ok (.iload_n 2, 1) := by decide +kernel
theorem d_BM_stood_6 : decode c_BM_stood 6 = .ok (.aload_n 0, 1) := by decide +kernel
theorem d_BM_stood_7 : decode c_BM_stood 7 = .ok (.getfield 188, 3) := by decide +kernel
theorem d_BM_stood_10 : decode c_BM_stood 10 = .ok (.if_icmp .ge 31, 3) := by decide +kernel
theorem d_BM_stood_13 : decode c_BM_stood 13 = .ok (.aload_n 0, 1) := by decide +kernel
theorem d_BM_stood_14 : decode c_BM_stood 14 = .ok (.getfield 44, 3) := by decide +kernel
theorem d_BM_stood_17 : decode c_BM_stood 17 = .ok (.iload_n 2, 1) := by decide +kernel
theorem d_BM_stood_18 : decode c_BM_stood 18 = .ok (.baload, 1) := by decide +kernel
theorem d_BM_stood_19 : decode c_BM_stood 19 = .ok (.bipush 97, 2) := by decide +kernel
theorem d_BM_stood_21 : decode c_BM_stood 21 = .ok (.if_icmp .lt 20, 3) := by decide +kernel
theorem d_BM_stood_24 : decode c_BM_stood 24 = .ok (.aload_n 0, 1) := by decide +kernel
theorem d_BM_stood_25 : decode c_BM_stood 25 = .ok (.getfield 44, 3) := by decide +kernel
theorem d_BM_stood_28 : decode c_BM_stood 28 = .ok (.iload_n 2, 1) := by decide +kernel
theorem d_BM_stood_29 : decode c_BM_stood 29 = .ok (.baload, 1) := by decide +kernel
theorem d_BM_stood_30 : decode c_BM_stood 30 = .ok (.bipush 122, 2) := by decide +kernel
theorem d_BM_stood_32 : decode c_BM_stood 32 = .ok (.if_icmp .gt 9, 3) := by decide +kernel
theorem d_BM_stood_35 : decode c_BM_stood 35 = .ok (.iinc 2 1, 3) := by decide +kernel
theorem d_BM_stood_38 : decode c_BM_stood 38 = .ok (.goto (-33), 3) := by decide +kernel
theorem d_BM_stood_41 : decode c_BM_stood 41 = .ok (.iload_n 2, 1) := by decide +kernel
theorem d_BM_stood_42 : decode c_BM_stood 42 = .ok (.aload_n 0, 1) := by decide +kernel
theorem d_BM_stood_43 : decode c_BM_stood 43 = .ok (.getfield 214, 3) := by decide +kernel
theorem d_BM_stood_46 : decode c_BM_stood 46 = .ok (.isub, 1) := by decide +kernel
theorem d_BM_stood_47 : decode c_BM_stood 47 = .ok (.aload_n 1, 1) := by decide +kernel
theorem d_BM_stood_48 : decode c_BM_stood 48 = .ok (.invokevirtual 225, 3) := by decide +kernel
theorem d_BM_stood_51 : decode c_BM_stood 51 = .ok (.if_icmp .ne 7, 3) := by decide +kernel
theorem d_BM_stood_54 : decode c_BM_stood 54 = .ok (.iconst 1, 1) := by decide +kernel
theorem d_BM_stood_55 : decode c_BM_stood 55 = .ok (.goto 4, 3) := by decide +kernel
theorem d_BM_stood_58 : decode c_BM_stood 58 = .ok (.iconst 0, 1) := by decide +kernel
theorem d_BM_stood_59 : decode c_BM_stood 59 = .ok (.istore_n 3, 1) := by decide +kernel
theorem d_BM_stood_60 : decode c_BM_stood 60 = .ok (.iconst 0, 1) := by decide +kernel
theorem d_BM_stood_61 : decode c_BM_stood 61 = .ok (.istore 4, 2) := by decide +kernel
theorem d_BM_stood_63 : decode c_BM_stood 63 = .ok (.iload 4, 2) := by decide +kernel
theorem d_BM_stood_65 : decode c_BM_stood 65 = .ok (.aload_n 1, 1) := by decide +kernel
theorem d_BM_stood_66 : decode c_BM_stood 66 = .ok (.invokevirtual 225, 3) := by decide +kernel
theorem d_BM_stood_69 : decode c_BM_stood 69 = .ok (.if_icmp .ge 40, 3) := by decide +kernel
theorem d_BM_stood_72 : decode c_BM_stood 72 = .ok (.iload_n 3, 1) := by decide +kernel
theorem d_BM_stood_73 : decode c_BM_stood 73 = .ok (.ifCond .eq 36, 3) := by decide +kernel
theorem d_BM_stood_76 : decode c_BM_stood 76 = .ok (.aload_n 0, 1) := by decide +kernel
theorem d_BM_stood_77 : decode c_BM_stood 77 = .ok (.getfield 44, 3) := by decide +kernel
theorem d_BM_stood_80 : decode c_BM_stood 80 = .ok (.aload_n 0, 1) := by decide +kernel
theorem d_BM_stood_81 : decode c_BM_stood 81 = .ok (.getfield 214, 3) := by decide +kernel
theorem d_BM_stood_84 : decode c_BM_stood 84 = .ok (.iload 4, 2) := by decide +kernel
theorem d_BM_stood_86 : decode c_BM_stood 86 = .ok (.iadd, 1) := by decide +kernel
theorem d_BM_stood_87 : decode c_BM_stood 87 = .ok (.baload, 1) := by decide +kernel
theorem d_BM_stood_88 : decode c_BM_stood 88 = .ok (.aload_n 1, 1) := by decide +kernel
theorem d_BM_stood_89 : decode c_BM_stood 89 = .ok (.iload 4, 2) := by decide +kernel
theorem d_BM_stood_91 : decode c_BM_stood 91 = .ok (.invokevirtual 230, 3) := by decide +kernel
theorem d_BM_stood_94 : decode c_BM_stood 94 = .ok (.if_icmp .ne 7, 3) := by decide +kernel
theorem d_BM_stood_97 : decode c_BM_stood 97 = .ok (.iconst 1, 1) := by decide +kernel
theorem d_BM_stood_98 : decode c_BM_stood 98 = .ok (.goto 4, 3) := by decide +kernel
theorem d_BM_stood_101 : decode c_BM_stood 101 = .ok (.iconst 0, 1) := by decide +kernel
theorem d_BM_stood_102 : decode c_BM_stood 102 = .ok (.istore_n 3, 1) := by decide +kernel
theorem d_BM_stood_103 : decode c_BM_stood 103 = .ok (.iinc 4 1, 3) := by decide +kernel
theorem d_BM_stood_106 : decode c_BM_stood 106 = .ok (.goto (-43), 3) := by decide +kernel
theorem d_BM_stood_109 : decode c_BM_stood 109 = .ok (.iload_n 3, 1) := by decide +kernel
theorem d_BM_stood_110 : decode c_BM_stood 110 = .ok (.ireturn, 1) := by decide +kernel
def S_BM_stood_0 (g : Gx) (Q : Int32 → St → Prop) (σ : St) (w1 : Nat) : Prop := Ax g m_BM_stood 0 0 (ZI g Q) SH σ 0 0 0 [(0, .ref (gB g + 151)), (1, .ref (gK g w1))] []
def S_BM_stood_5 (g : Gx) (Q : Int32 → St → Prop) (σ : St) (w1 : Nat) (x2 : Int32) : Prop := Ax g m_BM_stood 0 0 (ZI g Q) SH σ 0 0 5 [(0, .ref (gB g + 151)), (1, .ref (gK g w1)), (2, .int x2)] []
def S_BM_stood_41 (g : Gx) (Q : Int32 → St → Prop) (σ : St) (w1 : Nat) (x2 : Int32) : Prop := Ax g m_BM_stood 0 0 (ZI g Q) SH σ 0 0 41 [(0, .ref (gB g + 151)), (1, .ref (gK g w1)), (2, .int x2)] []
def S_BM_stood_63 (g : Gx) (Q : Int32 → St → Prop) (σ : St) (w1 : Nat) (x3 : Int32) (x4 : Int32) : Prop := Ax g m_BM_stood 0 0 (ZI g Q) SH σ 0 0 63 [(0, .ref (gB g + 151)), (1, .ref (gK g w1)), (3, .int x3), (4, .int x4)] []
theorem sg_BM_stood_0 {g : Gx} {Q : Int32 → St → Prop} {σ : St} {w1 : Nat} (hw1 : w1 < 16)
    (h : ∀ u1 : Int32, u1 = (fi σ 151 12) → S_BM_stood_5 g Q σ w1 u1) : S_BM_stood_0 g Q σ w1 := by
  show Ax g m_BM_stood 0 0 (ZI g Q) SH σ 0 0 0 [(0, .ref (gB g + 151)), (1, .ref (gK g w1))] []
  refine a_aload_n (pc := 0) 0 rfl rfl d_BM_stood_0 ?_
  refine a_getI (pc := 1) fg_BM_214 sx_151 rfl d_BM_stood_1 ?_
  refine a_nmi (pc := 4) (fun u1 hu1 => ?_)
  replace h := h u1 hu1
  refine a_istore_n (pc := 4) (lv' := [(2, .int u1), (0, .ref (gB g + 151)), (1, .ref (gK g w1))]) rfl (Nat.le_of_ble_eq_true rfl) rfl d_BM_stood_4 ?_
  refine a_sub (pc := 5) [1, 2, 0] rfl ?_
  exact h
theorem sg_BM_stood_5 {g : Gx} {Q : Int32 → St → Prop} {σ : St} {w1 : Nat} {x2 : Int32} (hw1 : w1 < 16)
    (h : ((fi σ 151 11) ≤ x2 → S_BM_stood_41 g Q σ w1 x2) ∧ (¬ (fi σ 151 11) ≤ x2 → vp_in x2 400 ∧ (((ai σ 162 (x2).toNatClampNeg) < (97 : Int32) → S_BM_stood_41 g Q σ w1 x2) ∧ (¬ (ai σ 162 (x2).toNatClampNeg) < (97 : Int32) → vp_in x2 400 ∧ (((122 : Int32) < (ai σ 162 (x2).toNatClampNeg) → S_BM_stood_41 g Q σ w1 x2) ∧ (¬ (122 : Int32) < (ai σ 162 (x2).toNatClampNeg) → ∀ u1 : Int32, u1 = x2 + (1 : Int32) → S_BM_stood_5 g Q σ w1 u1)))))) : S_BM_stood_5 g Q σ w1 x2 := by
  show Ax g m_BM_stood 0 0 (ZI g Q) SH σ 0 0 5 [(0, .ref (gB g + 151)), (1, .ref (gK g w1)), (2, .int x2)] []
  refine a_iload_n (pc := 5) 2 rfl rfl d_BM_stood_5 ?_
  refine a_aload_n (pc := 6) 0 rfl rfl d_BM_stood_6 ?_
  refine a_getI (pc := 7) fg_BM_188 sx_151 rfl d_BM_stood_7 ?_
  refine a_icmp_ge (pc := 10) 41 (by decide) d_BM_stood_10 ⟨fun c0 => ?_, fun c0 => ?_⟩
  · replace h := h.1 c0
    refine a_sub (pc := 41) [0, 1, 2] rfl ?_
    exact h
  · replace h := h.2 c0
    refine a_aload_n (pc := 13) 0 rfl rfl d_BM_stood_13 ?_
    refine a_getR (pc := 14) fg_BM_44 sx_151 rfl d_BM_stood_14 ?_
    refine a_iload_n (pc := 17) 2 rfl rfl d_BM_stood_17 ?_
    obtain ⟨hx, h⟩ := h
    refine a_bald (pc := 18) sx_162 hx d_BM_stood_18 ?_
    refine a_bipush (pc := 19) (97 : Int32) (by decide) d_BM_stood_19 ?_
    refine a_icmp_lt (pc := 21) 41 (by decide) d_BM_stood_21 ⟨fun c0 => ?_, fun c0 => ?_⟩
    · replace h := h.1 c0
      refine a_sub (pc := 41) [0, 1, 2] rfl ?_
      exact h
    · replace h := h.2 c0
      refine a_aload_n (pc := 24) 0 rfl rfl d_BM_stood_24 ?_
      refine a_getR (pc := 25) fg_BM_44 sx_151 rfl d_BM_stood_25 ?_
      refine a_iload_n (pc := 28) 2 rfl rfl d_BM_stood_28 ?_
      obtain ⟨hx, h⟩ := h
      refine a_bald (pc := 29) sx_162 hx d_BM_stood_29 ?_
      refine a_bipush (pc := 30) (122 : Int32) (by decide) d_BM_stood_30 ?_
      refine a_icmp_gt (pc := 32) 41 (by decide) d_BM_stood_32 ⟨fun c0 => ?_, fun c0 => ?_⟩
      · replace h := h.1 c0
        refine a_sub (pc := 41) [0, 1, 2] rfl ?_
        exact h
      · replace h := h.2 c0
        obtain ⟨u1, hu1⟩ : ∃ y : Int32, y = x2 + (1 : Int32) := ⟨_, rfl⟩
        replace h := h u1 hu1
        refine a_iinc (pc := 35) (v := u1) (lv' := [(2, .int u1), (0, .ref (gB g + 151)), (1, .ref (gK g w1))]) 2 rfl (by rw [hu1]; rfl) (Nat.le_of_ble_eq_true rfl) rfl d_BM_stood_35 ?_
        refine a_goto (pc := 38) 5 (by decide) d_BM_stood_38 ?_
        refine a_sub (pc := 5) [1, 2, 0] rfl ?_
        exact h
theorem sg_BM_stood_41 {g : Gx} {Q : Int32 → St → Prop} {σ : St} {w1 : Nat} {x2 : Int32} (hw1 : w1 < 16)
    (h : K_JS_length g w1 σ (fun (r2 : Int32) (s1 : St) => (¬ (x2 - (fi σ 151 12)) = r2 → S_BM_stood_63 g Q s1 w1 (0 : Int32) (0 : Int32)) ∧ ((x2 - (fi σ 151 12)) = r2 → S_BM_stood_63 g Q s1 w1 (1 : Int32) (0 : Int32)))) : S_BM_stood_41 g Q σ w1 x2 := by
  show Ax g m_BM_stood 0 0 (ZI g Q) SH σ 0 0 41 [(0, .ref (gB g + 151)), (1, .ref (gK g w1)), (2, .int x2)] []
  refine a_iload_n (pc := 41) 2 rfl rfl d_BM_stood_41 ?_
  refine a_aload_n (pc := 42) 0 rfl rfl d_BM_stood_42 ?_
  refine a_getI (pc := 43) fg_BM_214 sx_151 rfl d_BM_stood_43 ?_
  refine a_isub (pc := 46) d_BM_stood_46 ?_
  refine a_aload_n (pc := 47) 1 rfl rfl d_BM_stood_47 ?_
  refine a_callStr (pc := 48) (w := w1) (M' := m_JS_length) (As := []) (st := [.int (x2 - (fi σ 151 12))]) lk_BM_225 rfl rfl hw1 (by decide) (by decide) rfl (Nat.le_of_ble_eq_true rfl) (Nat.le_refl 0) (Nat.le_refl 0) d_BM_stood_48 h ?_
  rintro _ _ s1 ⟨r2, rfl, rfl, h⟩ -
  show Ax g m_BM_stood 0 0 (ZI g Q) SH s1 0 0 51 [(0, .ref (gB g + 151)), (1, .ref (gK g w1)), (2, .int x2)] [.int r2, .int (x2 - (fi σ 151 12))]
  refine a_icmp_ne (pc := 51) 58 (by decide) d_BM_stood_51 ⟨fun c0 => ?_, fun c0 => ?_⟩
  · replace h := h.1 c0
    refine a_iconst (pc := 58) (0 : Int32) (by decide) d_BM_stood_58 ?_
    refine a_istore_n (pc := 59) (lv' := [(3, .int (0 : Int32)), (0, .ref (gB g + 151)), (1, .ref (gK g w1)), (2, .int x2)]) rfl (Nat.le_of_ble_eq_true rfl) rfl d_BM_stood_59 ?_
    refine a_iconst (pc := 60) (0 : Int32) (by decide) d_BM_stood_60 ?_
    refine a_istore (pc := 61) (lv' := [(4, .int (0 : Int32)), (3, .int (0 : Int32)), (0, .ref (gB g + 151)), (1, .ref (gK g w1)), (2, .int x2)]) (Nat.le_of_ble_eq_true rfl) rfl d_BM_stood_61 ?_
    refine a_sub (pc := 63) [2, 3, 1, 0] rfl ?_
    exact h
  · replace h := h.2 c0
    refine a_iconst (pc := 54) (1 : Int32) (by decide) d_BM_stood_54 ?_
    refine a_goto (pc := 55) 59 (by decide) d_BM_stood_55 ?_
    refine a_istore_n (pc := 59) (lv' := [(3, .int (1 : Int32)), (0, .ref (gB g + 151)), (1, .ref (gK g w1)), (2, .int x2)]) rfl (Nat.le_of_ble_eq_true rfl) rfl d_BM_stood_59 ?_
    refine a_iconst (pc := 60) (0 : Int32) (by decide) d_BM_stood_60 ?_
    refine a_istore (pc := 61) (lv' := [(4, .int (0 : Int32)), (3, .int (1 : Int32)), (0, .ref (gB g + 151)), (1, .ref (gK g w1)), (2, .int x2)]) (Nat.le_of_ble_eq_true rfl) rfl d_BM_stood_61 ?_
    refine a_sub (pc := 63) [2, 3, 1, 0] rfl ?_
    exact h
theorem sg_BM_stood_63 {g : Gx} {Q : Int32 → St → Prop} {σ : St} {w1 : Nat} {x3 : Int32} {x4 : Int32} (hw1 : w1 < 16)
    (h : K_JS_length g w1 σ (fun (r2 : Int32) (s1 : St) => (r2 ≤ x4 → (x3 = 0 ∨ x3 = 1) ∧ Q x3 s1) ∧ (¬ r2 ≤ x4 → (x3 = 0 → (x3 = 0 ∨ x3 = 1) ∧ Q x3 s1) ∧ (¬ x3 = 0 → vp_in ((fi s1 151 12) + x4) 400 ∧ (K_JS_charAt g w1 x4 s1 (fun (r4 : Int32) (s3 : St) => (¬ (ai s1 162 (((fi s1 151 12) + x4)).toNatClampNeg) = r4 → ∀ u5 : Int32, u5 = x4 + (1 : Int32) → S_BM_stood_63 g Q s3 w1 (0 : Int32) u5) ∧ ((ai s1 162 (((fi s1 151 12) + x4)).toNatClampNeg) = r4 → ∀ u6 : Int32, u6 = x4 + (1 : Int32) → S_BM_stood_63 g Q s3 w1 (1 : Int32) u6))))))) : S_BM_stood_63 g Q σ w1 x3 x4 := by
  show Ax g m_BM_stood 0 0 (ZI g Q) SH σ 0 0 63 [(0, .ref (gB g + 151)), (1, .ref (gK g w1)), (3, .int x3), (4, .int x4)] []
  refine a_iload (pc := 63) 3 rfl d_BM_stood_63 ?_
  refine a_aload_n (pc := 65) 1 rfl rfl d_BM_stood_65 ?_
  refine a_callStr (pc := 66) (w := w1) (M' := m_JS_length) (As := []) (st := [.int x4]) lk_BM_225 rfl rfl hw1 (by decide) (by decide) rfl (Nat.le_of_ble_eq_true rfl) (Nat.le_refl 0) (Nat.le_refl 0) d_BM_stood_66 h ?_
  rintro _ _ s1 ⟨r2, rfl, rfl, h⟩ -
  show Ax g m_BM_stood 0 0 (ZI g Q) SH s1 0 0 69 [(0, .ref (gB g + 151)), (1, .ref (gK g w1)), (3, .int x3), (4, .int x4)] [.int r2, .int x4]
  refine a_icmp_ge (pc := 69) 109 (by decide) d_BM_stood_69 ⟨fun c0 => ?_, fun c0 => ?_⟩
  · replace h := h.1 c0
    refine a_iload_n (pc := 109) 2 rfl rfl d_BM_stood_109 ?_
    exact b_zret (pc := 110) rfl h.1 d_BM_stood_110 h.2
  · replace h := h.2 c0
    refine a_iload_n (pc := 72) 2 rfl rfl d_BM_stood_72 ?_
    refine a_if_eq (pc := 73) 109 (by decide) d_BM_stood_73 ⟨fun c0 => ?_, fun c0 => ?_⟩
    · replace h := h.1 c0
      refine a_iload_n (pc := 109) 2 rfl rfl d_BM_stood_109 ?_
      exact b_zret (pc := 110) rfl h.1 d_BM_stood_110 h.2
    · replace h := h.2 c0
      refine a_aload_n (pc := 76) 0 rfl rfl d_BM_stood_76 ?_
      refine a_getR (pc := 77) fg_BM_44 sx_151 rfl d_BM_stood_77 ?_
      refine a_aload_n (pc := 80) 0 rfl rfl d_BM_stood_80 ?_
      refine a_getI (pc := 81) fg_BM_214 sx_151 rfl d_BM_stood_81 ?_
      refine a_iload (pc := 84) 3 rfl d_BM_stood_84 ?_
      refine a_iadd (pc := 86) d_BM_stood_86 ?_
      obtain ⟨hx, h⟩ := h
      refine a_bald (pc := 87) sx_162 hx d_BM_stood_87 ?_
      refine a_aload_n (pc := 88) 1 rfl rfl d_BM_stood_88 ?_
      refine a_iload (pc := 89) 3 rfl d_BM_stood_89 ?_
      refine a_callStr (pc := 91) (w := w1) (M' := m_JS_charAt) (As := [.int x4]) (st := [.int (ai s1 162 (((fi s1 151 12) + x4)).toNatClampNeg)]) lk_BM_230 rfl rfl hw1 (by decide) (by decide) rfl (Nat.le_of_ble_eq_true rfl) (Nat.le_refl 0) (Nat.le_refl 0) d_BM_stood_91 h ?_
      rintro _ _ s3 ⟨r4, rfl, rfl, h⟩ -
      show Ax g m_BM_stood 0 0 (ZI g Q) SH s3 0 0 94 [(0, .ref (gB g + 151)), (1, .ref (gK g w1)), (3, .int x3), (4, .int x4)] [.int r4, .int (ai s1 162 (((fi s1 151 12) + x4)).toNatClampNeg)]
      refine a_icmp_ne (pc := 94) 101 (by decide) d_BM_stood_94 ⟨fun c0 => ?_, fun c0 => ?_⟩
      · replace h := h.1 c0
        refine a_iconst (pc := 101) (0 : Int32) (by decide) d_BM_stood_101 ?_
        refine a_istore_n (pc := 102) (lv' := [(3, .int (0 : Int32)), (0, .ref (gB g + 151)), (1, .ref (gK g w1)), (4, .int x4)]) rfl (Nat.le_of_ble_eq_true rfl) rfl d_BM_stood_102 ?_
        obtain ⟨u5, hu5⟩ : ∃ y : Int32, y = x4 + (1 : Int32) := ⟨_, rfl⟩
        replace h := h u5 hu5
        refine a_iinc (pc := 103) (v := u5) (lv' := [(4, .int u5), (3, .int (0 : Int32)), (0, .ref (gB g + 151)), (1, .ref (gK g w1))]) 3 rfl (by rw [hu5]; rfl) (Nat.le_of_ble_eq_true rfl) rfl d_BM_stood_103 ?_
        refine a_goto (pc := 106) 63 (by decide) d_BM_stood_106 ?_
        refine a_sub (pc := 63) [2, 3, 1, 0] rfl ?_
        exact h
      · replace h := h.2 c0
        refine a_iconst (pc := 97) (1 : Int32) (by decide) d_BM_stood_97 ?_
        refine a_goto (pc := 98) 102 (by decide) d_BM_stood_98 ?_
        refine a_istore_n (pc := 102) (lv' := [(3, .int (1 : Int32)), (0, .ref (gB g + 151)), (1, .ref (gK g w1)), (4, .int x4)]) rfl (Nat.le_of_ble_eq_true rfl) rfl d_BM_stood_102 ?_
        obtain ⟨u6, hu6⟩ : ∃ y : Int32, y = x4 + (1 : Int32) := ⟨_, rfl⟩
        replace h := h u6 hu6
        refine a_iinc (pc := 103) (v := u6) (lv' := [(4, .int u6), (3, .int (1 : Int32)), (0, .ref (gB g + 151)), (1, .ref (gK g w1))]) 3 rfl (by rw [hu6]; rfl) (Nat.le_of_ble_eq_true rfl) rfl d_BM_stood_103 ?_
        refine a_goto (pc := 106) 63 (by decide) d_BM_stood_106 ?_
        refine a_sub (pc := 63) [2, 3, 1, 0] rfl ?_
        exact h
theorem ko_BM_stood {g : Gx}  {w1 : Nat} {σ : St} {Q : Int32 → St → Prop} (h : S_BM_stood_0 g Q σ w1) : K_BM_stood g w1 σ Q := KI.of (show plainName "BallBoxModel" = true by decide) (Nat.le_of_ble_eq_true rfl) h
theorem d_BM_takes_0 : decode c_BM_takes 0 = .ok (.aload_n 0, 1) := by decide +kernel
theorem d_BM_takes_1 : decode c_BM_takes 1 = .ok (.invokevirtual 234, 3) := by decide +kernel
theorem d_BM_takes_4 : decode c_BM_takes 4 = .ok (.aload_n 0, 1) := by decide +kernel
theorem d_BM_takes_5 : decode c_BM_takes 5 = .ok (.aload_n 1, 1) := by decide +kernel
theorem d_BM_takes_6 : decode c_BM_takes 6 = .ok (.invokevirtual 237, 3) := by decide +kernel
theorem d_BM_takes_9 : decode c_BM_takes 9 = .ok (.istore_n 2, 1) := by decide +kernel
theorem d_BM_takes_10 : decode c_BM_takes 10 = .ok (.aload_n 0, 1) := by decide +kernel
theorem d_BM_takes_11 : decode c_BM_takes 11 = .ok (.dup, 1) := by decide +kernel
theorem d_BM_takes_12 : decode c_BM_takes 12 = .ok (.getfield 214, 3) := by decide +kernel
theorem d_BM_takes_15 : decode c_BM_takes 15 = .ok (.iload_n 2, 1) := by decide +kernel
theorem d_BM_takes_16 : decode c_BM_takes 16 = .ok (.ifCond .eq 10, 3) := by decide +kernel
theorem d_BM_takes_19 : decode c_BM_takes 19 = .ok (.aload_n 1, 1) := by decide +kernel
theorem d_BM_takes_20 : decode c_BM_takes 20 = .ok (.invokevirtual 225, 3) := by decide +kernel
theorem d_BM_takes_23 : decode c_BM_takes 23 = .ok (.goto 4, 3) := by decide +kernel
theorem d_BM_takes_26 : decode c_BM_takes 26 = .ok (.iconst 0, 1) := by decide +kernel
theorem d_BM_takes_27 : decode c_BM_takes 27 = .ok (.iadd, 1) := by decide +kernel
theorem d_BM_takes_28 : decode c_BM_takes 28 = .ok (.putfield 214, 3) := by decide +kernel
theorem d_BM_takes_31 : decode c_BM_takes 31 = .ok (.iload_n 2, 1) := by decide +kernel
theorem d_BM_takes_32 : decode c_BM_takes 32 = .ok (.ireturn, 1) := by decide +kernel
def S_BM_takes_0 (g : Gx) (Q : Int32 → St → Prop) (σ : St) (w1 : Nat) : Prop := Ax g m_BM_takes 0 0 (ZI g Q) SH σ 0 0 0 [(0, .ref (gB g + 151)), (1, .ref (gK g w1))] []
theorem sg_BM_takes_0 {g : Gx} {Q : Int32 → St → Prop} {σ : St} {w1 : Nat} (hw1 : w1 < 16)
    (h : K_BM_blanks g σ (fun s1 : St => K_BM_stood g w1 s1 (fun (r3 : Int32) (s2 : St) => (r3 = 0 → ∀ s4 : St, s4 = sfi s2 151 12 ((fi s2 151 12) + (0 : Int32)) → (r3 = 0 ∨ r3 = 1) ∧ Q r3 s4) ∧ (¬ r3 = 0 → K_JS_length g w1 s2 (fun (r6 : Int32) (s5 : St) => ∀ s7 : St, s7 = sfi s5 151 12 ((fi s2 151 12) + r6) → (r3 = 0 ∨ r3 = 1) ∧ Q r3 s7))))) : S_BM_takes_0 g Q σ w1 := by
  show Ax g m_BM_takes 0 0 (ZI g Q) SH σ 0 0 0 [(0, .ref (gB g + 151)), (1, .ref (gK g w1))] []
  refine a_aload_n (pc := 0) 0 rfl rfl d_BM_takes_0 ?_
  refine a_callV (pc := 1) (M' := m_BM_blanks) (As := []) (st := []) (mc' := 0) (ms' := 0) lk_BM_234 rfl sx_151 rfl (by decide) (by decide) rfl (Nat.le_of_ble_eq_true rfl) (Nat.le_refl 0) (Nat.le_refl 0) d_BM_takes_1 h ?_
  rintro _ _ s1 ⟨rfl, rfl, h⟩ -
  show Ax g m_BM_takes 0 0 (ZI g Q) SH s1 0 0 4 [(0, .ref (gB g + 151)), (1, .ref (gK g w1))] []
  refine a_aload_n (pc := 4) 0 rfl rfl d_BM_takes_4 ?_
  refine a_aload_n (pc := 5) 1 rfl rfl d_BM_takes_5 ?_
  refine a_callV (pc := 6) (M' := m_BM_stood) (As := [.ref (gK g w1)]) (st := []) (mc' := 0) (ms' := 0) lk_BM_237 rfl sx_151 rfl (by decide) (by decide) rfl (Nat.le_of_ble_eq_true rfl) (Nat.le_refl 0) (Nat.le_refl 0) d_BM_takes_6 h ?_
  rintro _ _ s2 ⟨r3, rfl, rfl, h⟩ -
  show Ax g m_BM_takes 0 0 (ZI g Q) SH s2 0 0 9 [(0, .ref (gB g + 151)), (1, .ref (gK g w1))] [.int r3]
  refine a_istore_n (pc := 9) (lv' := [(2, .int r3), (0, .ref (gB g + 151)), (1, .ref (gK g w1))]) rfl (Nat.le_of_ble_eq_true rfl) rfl d_BM_takes_9 ?_
  refine a_aload_n (pc := 10) 1 rfl rfl d_BM_takes_10 ?_
  refine a_dup (pc := 11) rfl d_BM_takes_11 ?_
  refine a_getI (pc := 12) fg_BM_214 sx_151 rfl d_BM_takes_12 ?_
  refine a_iload_n (pc := 15) 0 rfl rfl d_BM_takes_15 ?_
  refine a_if_eq (pc := 16) 26 (by decide) d_BM_takes_16 ⟨fun c0 => ?_, fun c0 => ?_⟩
  · replace h := h.1 c0
    refine a_iconst (pc := 26) (0 : Int32) (by decide) d_BM_takes_26 ?_
    refine a_iadd (pc := 27) d_BM_takes_27 ?_
    refine a_putI (pc := 28) fp_BM_214 sx_151 rfl d_BM_takes_28 ?_
    refine a_nms (fun s4 hs4 => ?_)
    replace h := h s4 hs4
    refine a_iload_n (pc := 31) 0 rfl rfl d_BM_takes_31 ?_
    exact b_zret (pc := 32) rfl h.1 d_BM_takes_32 h.2
  · replace h := h.2 c0
    refine a_aload_n (pc := 19) 2 rfl rfl d_BM_takes_19 ?_
    refine a_callStr (pc := 20) (w := w1) (M' := m_JS_length) (As := []) (st := [.int (fi s2 151 12), .ref (gB g + 151)]) lk_BM_225 rfl rfl hw1 (by decide) (by decide) rfl (Nat.le_of_ble_eq_true rfl) (Nat.le_refl 0) (Nat.le_refl 0) d_BM_takes_20 h ?_
    rintro _ _ s5 ⟨r6, rfl, rfl, h⟩ -
    show Ax g m_BM_takes 0 0 (ZI g Q) SH s5 0 0 23 [(2, .int r3), (0, .ref (gB g + 151)), (1, .ref (gK g w1))] [.int r6, .int (fi s2 151 12), .ref (gB g + 151)]
    refine a_goto (pc := 23) 27 (by decide) d_BM_takes_23 ?_
    refine a_iadd (pc := 27) d_BM_takes_27 ?_
    refine a_putI (pc := 28) fp_BM_214 sx_151 rfl d_BM_takes_28 ?_
    refine a_nms (fun s7 hs7 => ?_)
    replace h := h s7 hs7
    refine a_iload_n (pc := 31) 0 rfl rfl d_BM_takes_31 ?_
    exact b_zret (pc := 32) rfl h.1 d_BM_takes_32 h.2
theorem ko_BM_takes {g : Gx}  {w1 : Nat} {σ : St} {Q : Int32 → St → Prop} (h : S_BM_takes_0 g Q σ w1) : K_BM_takes g w1 σ Q := KI.of (show plainName "BallBoxModel" = true by decide) (Nat.le_of_ble_eq_true rfl) h
theorem d_BM_entry_0 : decode c_BM_entry 0 = .ok (.aload_n 0, 1) := by decide +kernel
theorem d_BM_entry_1 : decode c_BM_entry 1 = .ok (.getfield 211, 3) := by decide +kernel
theorem d_BM_entry_4 : decode c_BM_entry 4 = .ok (.ifCond .ne 51, 3) := by decide +kernel
theorem d_BM_entry_7 : decode c_BM_entry 7 = .ok (.aload_n 0, 1) := by decide +kernel
theorem d_BM_entry_8 : decode c_BM_entry 8 = .ok (.getfield 48, 3) := by decide +kernel
theorem d_BM_entry_11 : decode c_BM_entry 11 = .ok (.sipush 300, 3) := by decide +kernel
theorem d_BM_entry_14 : decode c_BM_entry 14 = .ok (.aload_n 0, 1) := by decide +kernel
theorem d_BM_entry_15 : decode c_BM_entry 15 = .ok (.getfield 241, 3) := by decide +kernel
theorem d_BM_entry_18 : decode c_BM_entry 18 = .ok (.imul, 1) := by decide +kernel
theorem d_BM_entry_19 : decode c_BM_entry 19 = .ok (.aload_n 0, 1) := by decide +kernel
theorem d_BM_entry_20 : decode c_BM_entry 20 = .ok (.getfield 244, 3) := by decide +kernel
theorem d_BM_entry_23 : decode c_BM_entry 23 = .ok (.iadd, 1) := by decide +kernel
theorem d_BM_entry_24 : decode c_BM_entry 24 = .ok (.iload_n 1, 1) := by decide +kernel
theorem d_BM_entry_25 : decode c_BM_entry 25 = .ok (.iastore, 1) := by decide +kernel
theorem d_BM_entry_26 : decode c_BM_entry 26 = .ok (.aload_n 0, 1) := by decide +kernel
theorem d_BM_entry_27 : decode c_BM_entry 27 = .ok (.getfield 51, 3) := by decide +kernel
theorem d_BM_entry_30 : decode c_BM_entry 30 = .ok (.sipush 300, 3) := by decide +kernel
theorem d_BM_entry_33 : decode c_BM_entry 33 = .ok (.aload_n 0, 1) := by decide +kernel
theorem d_BM_entry_34 : decode c_BM_entry 34 = .ok (.getfield 241, 3) := by decide +kernel
theorem d_BM_entry_37 : decode c_BM_entry 37 = .ok (.imul, 1) := by decide +kernel
theorem d_BM_entry_38 : decode c_BM_entry 38 = .ok (.aload_n 0, 1) := by decide +kernel
theorem d_BM_entry_39 : decode c_BM_entry 39 = .ok (.getfield 244, 3) := by decide +kernel
theorem d_BM_entry_42 : decode c_BM_entry 42 = .ok (.iadd, 1) := by decide +kernel
theorem d_BM_entry_43 : decode c_BM_entry 43 = .ok (.iload_n 2, 1) := by decide +kernel
theorem d_BM_entry_44 : decode c_BM_entry 44 = .ok (.iastore, 1) := by decide +kernel
theorem d_BM_entry_45 : decode c_BM_entry 45 = .ok (.aload_n 0, 1) := by decide +kernel
theorem d_BM_entry_46 : decode c_BM_entry 46 = .ok (.dup, 1) := by decide +kernel
theorem d_BM_entry_47 : decode c_BM_entry 47 = .ok (.getfield 244, 3) := by decide +kernel
theorem d_BM_entry_50 : decode c_BM_entry 50 = .ok (.iconst 1, 1) := by decide +kernel
theorem d_BM_entry_51 : decode c_BM_entry 51 = .ok (.iadd, 1) := by decide +kernel
theorem d_BM_entry_52 : decode c_BM_entry 52 = .ok (.putfield 244, 3) := by decide +kernel
theorem d_BM_entry_55 : decode c_BM_entry 55 = .ok (.return_, 1) := by decide +kernel
def S_BM_entry_0 (g : Gx) (Q : St → Prop) (σ : St) (x1 : Int32) (x2 : Int32) : Prop := Ax g m_BM_entry 0 0 (ZV g Q) SH σ 0 0 0 [(0, .ref (gB g + 151)), (1, .int x1), (2, .int x2)] []
theorem sg_BM_entry_0 {g : Gx} {Q : St → Prop} {σ : St} {x1 : Int32} {x2 : Int32}
    (h : (¬ (fi σ 151 13) = 0 → Q σ) ∧ ((fi σ 151 13) = 0 → vp_in (((300 : Int32) * (fi σ 151 14)) + (fi σ 151 16)) 1800 ∧ (∀ s1 : St, s1 = sai σ 163 ((((300 : Int32) * (fi σ 151 14)) + (fi σ 151 16))).toNatClampNeg x1 → vp_in (((300 : Int32) * (fi s1 151 14)) + (fi s1 151 16)) 1800 ∧ (∀ s2 : St, s2 = sai s1 164 ((((300 : Int32) * (fi s1 151 14)) + (fi s1 151 16))).toNatClampNeg x2 → ∀ s3 : St, s3 = sfi s2 151 16 ((fi s2 151 16) + (1 : Int32)) → Q s3)))) : S_BM_entry_0 g Q σ x1 x2 := by
  show Ax g m_BM_entry 0 0 (ZV g Q) SH σ 0 0 0 [(0, .ref (gB g + 151)), (1, .int x1), (2, .int x2)] []
  refine a_aload_n (pc := 0) 0 rfl rfl d_BM_entry_0 ?_
  refine a_getI (pc := 1) fg_BM_211 sx_151 rfl d_BM_entry_1 ?_
  refine a_if_ne (pc := 4) 55 (by decide) d_BM_entry_4 ⟨fun c0 => ?_, fun c0 => ?_⟩
  · replace h := h.1 c0
    exact b_vret (pc := 55) rfl d_BM_entry_55 h
  · replace h := h.2 c0
    refine a_aload_n (pc := 7) 0 rfl rfl d_BM_entry_7 ?_
    refine a_getR (pc := 8) fg_BM_48 sx_151 rfl d_BM_entry_8 ?_
    refine a_sipush (pc := 11) (300 : Int32) (by decide) d_BM_entry_11 ?_
    refine a_aload_n (pc := 14) 0 rfl rfl d_BM_entry_14 ?_
    refine a_getI (pc := 15) fg_BM_241 sx_151 rfl d_BM_entry_15 ?_
    refine a_imul (pc := 18) d_BM_entry_18 ?_
    refine a_aload_n (pc := 19) 0 rfl rfl d_BM_entry_19 ?_
    refine a_getI (pc := 20) fg_BM_244 sx_151 rfl d_BM_entry_20 ?_
    refine a_iadd (pc := 23) d_BM_entry_23 ?_
    refine a_iload_n (pc := 24) 1 rfl rfl d_BM_entry_24 ?_
    obtain ⟨hx, h⟩ := h
    refine a_iast (pc := 25) sx_163 hx d_BM_entry_25 ?_
    refine a_nms (fun s1 hs1 => ?_)
    replace h := h s1 hs1
    refine a_aload_n (pc := 26) 0 rfl rfl d_BM_entry_26 ?_
    refine a_getR (pc := 27) fg_BM_51 sx_151 rfl d_BM_entry_27 ?_
    refine a_sipush (pc := 30) (300 : Int32) (by decide) d_BM_entry_30 ?_
    refine a_aload_n (pc := 33) 0 rfl rfl d_BM_entry_33 ?_
    refine a_getI (pc := 34) fg_BM_241 sx_151 rfl d_BM_entry_34 ?_
    refine a_imul (pc := 37) d_BM_entry_37 ?_
    refine a_aload_n (pc := 38) 0 rfl rfl d_BM_entry_38 ?_
    refine a_getI (pc := 39) fg_BM_244 sx_151 rfl d_BM_entry_39 ?_
    refine a_iadd (pc := 42) d_BM_entry_42 ?_
    refine a_iload_n (pc := 43) 2 rfl rfl d_BM_entry_43 ?_
    obtain ⟨hx, h⟩ := h
    refine a_iast (pc := 44) sx_164 hx d_BM_entry_44 ?_
    refine a_nms (fun s2 hs2 => ?_)
    replace h := h s2 hs2
    refine a_aload_n (pc := 45) 0 rfl rfl d_BM_entry_45 ?_
    refine a_dup (pc := 46) rfl d_BM_entry_46 ?_
    refine a_getI (pc := 47) fg_BM_244 sx_151 rfl d_BM_entry_47 ?_
    refine a_iconst (pc := 50) (1 : Int32) (by decide) d_BM_entry_50 ?_
    refine a_iadd (pc := 51) d_BM_entry_51 ?_
    refine a_putI (pc := 52) fp_BM_244 sx_151 rfl d_BM_entry_52 ?_
    refine a_nms (fun s3 hs3 => ?_)
    replace h := h s3 hs3
    exact b_vret (pc := 55) rfl d_BM_entry_55 h
theorem ko_BM_entry {g : Gx}  {x1 : Int32} {x2 : Int32} {σ : St} {Q : St → Prop} (h : S_BM_entry_0 g Q σ x1 x2) : K_BM_entry g x1 x2 σ Q := KV.of (show plainName "BallBoxModel" = true by decide) (Nat.le_of_ble_eq_true rfl) h
theorem d_BM_isCounted_0 : decode c_BM_isCounted 0 = .ok (.aload_n 0, 1) := by decide +kernel
theorem d_BM_isCounted_1 : decode c_BM_isCounted 1 = .ok (.getfield 247, 3) := by decide +kernel
theorem d_BM_isCounted_4 : decode c_BM_isCounted 4 = .ok (.bipush 60, 2) := by decide +kernel
theorem d_BM_isCounted_6 : decode c_BM_isCounted 6 = .ok (.if_icmp .ne 9, 3) := by decide +kernel
theorem d_BM_isCounted_9 : decode c_BM_isCounted 9 = .ok (.aload_n 0, 1) := by decide +kernel
theorem d_BM_isCounted_10 : decode c_BM_isCounted 10 = .ok (.iconst 3, 1) := by decide +kernel
theorem d_BM_isCounted_11 : decode c_BM_isCounted 11 = .ok (.iload_n 1, 1) := by decide +kernel
theorem d_BM_isCounted_12 : decode c_BM_isCounted 12 = .ok (.invokevirtual 250, 3) := by decide +kernel
theorem d_BM_isCounted_15 : decode c_BM_isCounted 15 = .ok (.aload_n 0, 1) := by decide +kernel
theorem d_BM_isCounted_16 : decode c_BM_isCounted 16 = .ok (.dup, 1) := by decide +kernel
theorem d_BM_isCounted_17 : decode c_BM_isCounted 17 = .ok (.getfield 247, 3) := by decide +kernel
theorem d_BM_isCounted_20 : decode c_BM_isCounted 20 = .ok (.iconst 1, 1) := by decide +kernel
theorem d_BM_isCounted_21 : decode c_BM_isCounted 21 = .ok (.iadd, 1) := by decide +kernel
theorem d_BM_isCounted_22 : decode c_BM_isCounted 22 = .ok (.putfield 247, 3) := by decide +kernel
theorem d_BM_isCounted_25 : decode c_BM_isCounted 25 = .ok (.return_, 1) := by decide +kernel
def S_BM_isCounted_0 (g : Gx) (Q : St → Prop) (σ : St) (x1 : Int32) : Prop := Ax g m_BM_isCounted 0 0 (ZV g Q) SH σ 0 0 0 [(0, .ref (gB g + 151)), (1, .int x1)] []
theorem sg_BM_isCounted_0 {g : Gx} {Q : St → Prop} {σ : St} {x1 : Int32}
    (h : (¬ (fi σ 151 18) = (60 : Int32) → ∀ s1 : St, s1 = sfi σ 151 18 ((fi σ 151 18) + (1 : Int32)) → Q s1) ∧ ((fi σ 151 18) = (60 : Int32) → K_BM_fails g (3 : Int32) x1 σ (fun s2 : St => ∀ s3 : St, s3 = sfi s2 151 18 ((fi s2 151 18) + (1 : Int32)) → Q s3))) : S_BM_isCounted_0 g Q σ x1 := by
  show Ax g m_BM_isCounted 0 0 (ZV g Q) SH σ 0 0 0 [(0, .ref (gB g + 151)), (1, .int x1)] []
  refine a_aload_n (pc := 0) 0 rfl rfl d_BM_isCounted_0 ?_
  refine a_getI (pc := 1) fg_BM_247 sx_151 rfl d_BM_isCounted_1 ?_
  refine a_bipush (pc := 4) (60 : Int32) (by decide) d_BM_isCounted_4 ?_
  refine a_icmp_ne (pc := 6) 15 (by decide) d_BM_isCounted_6 ⟨fun c0 => ?_, fun c0 => ?_⟩
  · replace h := h.1 c0
    refine a_aload_n (pc := 15) 0 rfl rfl d_BM_isCounted_15 ?_
    refine a_dup (pc := 16) rfl d_BM_isCounted_16 ?_
    refine a_getI (pc := 17) fg_BM_247 sx_151 rfl d_BM_isCounted_17 ?_
    refine a_iconst (pc := 20) (1 : Int32) (by decide) d_BM_isCounted_20 ?_
    refine a_iadd (pc := 21) d_BM_isCounted_21 ?_
    refine a_putI (pc := 22) fp_BM_247 sx_151 rfl d_BM_isCounted_22 ?_
    refine a_nms (fun s1 hs1 => ?_)
    replace h := h s1 hs1
    exact b_vret (pc := 25) rfl d_BM_isCounted_25 h
  · replace h := h.2 c0
    refine a_aload_n (pc := 9) 0 rfl rfl d_BM_isCounted_9 ?_
    refine a_iconst (pc := 10) (3 : Int32) (by decide) d_BM_isCounted_10 ?_
    refine a_iload_n (pc := 11) 1 rfl rfl d_BM_isCounted_11 ?_
    refine a_callV (pc := 12) (M' := m_BM_fails) (As := [.int (3 : Int32), .int x1]) (st := []) (mc' := 0) (ms' := 0) lk_BM_250 rfl sx_151 rfl (by decide) (by decide) rfl (Nat.le_of_ble_eq_true rfl) (Nat.le_refl 0) (Nat.le_refl 0) d_BM_isCounted_12 h ?_
    rintro _ _ s2 ⟨rfl, rfl, h⟩ -
    show Ax g m_BM_isCounted 0 0 (ZV g Q) SH s2 0 0 15 [(0, .ref (gB g + 151)), (1, .int x1)] []
    refine a_aload_n (pc := 15) 0 rfl rfl d_BM_isCounted_15 ?_
    refine a_dup (pc := 16) rfl d_BM_isCounted_16 ?_
    refine a_getI (pc := 17) fg_BM_247 sx_151 rfl d_BM_isCounted_17 ?_
    refine a_iconst (pc := 20) (1 : Int32) (by decide) d_BM_isCounted_20 ?_
    refine a_iadd (pc := 21) d_BM_isCounted_21 ?_
    refine a_putI (pc := 22) fp_BM_247 sx_151 rfl d_BM_isCounted_22 ?_
    refine a_nms (fun s3 hs3 => ?_)
    replace h := h s3 hs3
    exact b_vret (pc := 25) rfl d_BM_isCounted_25 h
theorem ko_BM_isCounted {g : Gx}  {x1 : Int32} {σ : St} {Q : St → Prop} (h : S_BM_isCounted_0 g Q σ x1) : K_BM_isCounted g x1 σ Q := KV.of (show plainName "BallBoxModel" = true by decide) (Nat.le_of_ble_eq_true rfl) h
theorem d_BM_digits_0 : decode c_BM_digits 0 = .ok (.aload_n 0, 1) := by decide +kernel
theorem d_BM_digits_1 : decode c_BM_digits 1 = .ok (.invokevirtual 254, 3) := by decide +kernel
theorem d_BM_digits_4 : decode c_BM_digits 4 = .ok (.ifCond .ne 14, 3) := by decide +kernel
theorem d_BM_digits_7 : decode c_BM_digits 7 = .ok (.aload_n 0, 1) := by decide +kernel
theorem d_BM_digits_8 : decode c_BM_digits 8 = .ok (.iconst 0, 1) := by decide +kernel
theorem d_BM_digits_9 : decode c_BM_digits 9 = .ok (.aload_n 0, 1) := by decide +kernel
theorem d_BM_digits_10 : decode c_BM_digits 10 = .ok (.getfield 214, 3) := by decide +kernel
theorem d_BM_digits_13 : decode c_BM_digits 13 = .ok (.invokevirtual 250, 3) := by decide +kernel
theorem d_BM_digits_16 : decode c_BM_digits 16 = .ok (.iconst 0, 1) := by decide +kernel
theorem d_BM_digits_17 : decode c_BM_digits 17 = .ok (.ireturn, 1) := by decide +kernel
theorem d_BM_digits_18 : decode c_BM_digits 18 = .ok (.aload_n 0, 1) := by decide +kernel
theorem d_BM_digits_19 : decode c_BM_digits 19 = .ok (.getfield 214, 3) := by decide +kernel
theorem d_BM_digits_22 : decode c_BM_digits 22 = .ok (.istore_n 2, 1) := by decide +kernel
theorem d_BM_digits_23 : decode c_BM_digits 23 = .ok (.iconst 0, 1) := by decide +kernel
theorem d_BM_digits_24 : decode c_BM_digits 24 = .ok (.istore_n 3, 1) := by decide +kernel
theorem d_BM_digits_25 : decode c_BM_digits 25 = .ok (.aload_n 0, 1) := by decide +kernel
theorem d_BM_digits_26 : decode c_BM_digits 26 = .ok (.invokevirtual 254, 3) := by decide +kernel
theorem d_BM_digits_29 : decode c_BM_digits 29 = .ok (.ifCond .eq 43, 3) := by decide +kernel
theorem d_BM_digits_32 : decode c_BM_digits 32 = .ok (.aload_n 0, 1) := by decide +kernel
theorem d_BM_digits_33 : decode c_BM_digits 33 = .ok (.getfield 214, 3) := by decide +kernel
theorem d_BM_digits_36 : decode c_BM_digits 36 = .ok (.iload_n 2, 1) := by decide +kernel
theorem d_BM_digits_37 : decode c_BM_digits 37 = .ok (.isub, 1) := by decide +kernel
theorem d_BM_digits_38 : decode c_BM_digits 38 = .ok (.iconst 5, 1) := by decide +kernel
theorem d_BM_digits_39 : decode c_BM_digits 39 = .ok (.if_icmp .ge 18, 3) := by decide +kernel
theorem d_BM_digits_42 : decode c_BM_digits 42 = .ok (.bipush 10, 2) := by decide +kernel
theorem d_BM_digits_44 : decode c_BM_digits 44 = .ok (.iload_n 3, 1) := by decide +kernel
theorem d_BM_digits_45 : decode c_BM_digits 45 = .ok (.imul, 1) := by decide +kernel
theorem d_BM_digits_46 : decode c_BM_digits 46 = .ok (.aload_n 0, 1) := by decide +kernel
theorem d_BM_digits_47 : decode c_BM_digits 47 = .ok (.invokevirtual 217, 3) := by decide +kernel
theorem d_BM_digits_50 : decode c_BM_digits 50 = .ok (.iadd, 1) := by decide +kernel
theorem d_BM_digits_51 : decode c_BM_digits 51 = .ok (.bipush 48, 2) := by decide +kernel
theorem d_BM_digits_53 : decode c_BM_digits 53 = .ok (.isub, 1) := by decide +kernel
theorem d_BM_digits_54 : decode c_BM_digits 54 = .ok (.goto 4, 3) := by decide +kernel
theorem d_BM_digits_57 : decode c_BM_digits 57 = .ok (.iload_n 3, 1) := by decide +kernel
theorem d_BM_digits_58 : decode c_BM_digits 58 = .ok (.istore_n 3, 1) := by decide +kernel
theorem d_BM_digits_59 : decode c_BM_digits 59 = .ok (.aload_n 0, 1) := by decide +kernel
theorem d_BM_digits_60 : decode c_BM_digits 60 = .ok (.dup, 1) := by decide +kernel
theorem d_BM_digits_61 : decode c_BM_digits 61 = .ok (.getfield 214, 3) := by decide +kernel
theorem d_BM_digits_64 : decode c_BM_digits 64 = .ok (.iconst 1, 1) := by decide +kernel
theorem d_BM_digits_65 : decode c_BM_digits 65 = .ok (.iadd, 1) := by decide +kernel
theorem d_BM_digits_66 : decode c_BM_digits 66 = .ok (.putfield 214, 3) := by decide +kernel
theorem d_BM_digits_69 : decode c_BM_digits 69 = .ok (.goto (-44), 3) := by decide +kernel
theorem d_BM_digits_72 : decode c_BM_digits 72 = .ok (.aload_n 0, 1) := by decide +kernel
theorem d_BM_digits_73 : decode c_BM_digits 73 = .ok (.getfield 214, 3) := by decide +kernel
theorem d_BM_digits_76 : decode c_BM_digits 76 = .ok (.iload_n 2, 1) := by decide +kernel
theorem d_BM_digits_77 : decode c_BM_digits 77 = .ok (.isub, 1) := by decide +kernel
theorem d_BM_digits_78 : decode c_BM_digits 78 = .ok (.iconst 5, 1) := by decide +kernel
theorem d_BM_digits_79 : decode c_BM_digits 79 = .ok (.if_icmp .gt 8, 3) := by decide +kernel
theorem d_BM_digits_82 : decode c_BM_digits 82 = .ok (.iload_n 3, 1) := by decide +kernel
theorem d_BM_digits_83 : decode c_BM_digits 83 = .ok (.iload_n 1, 1) := by decide +kernel
theorem d_BM_digits_84 : decode c_BM_digits 84 = .ok (.if_icmp .le 9, 3) := by decide +kernel
theorem d_BM_digits_87 : decode c_BM_digits 87 = .ok (.aload_n 0, 1) := by decide +kernel
theorem d_BM_digits_88 : decode c_BM_digits 88 = .ok (.iconst 1, 1) := by decide +kernel
theorem d_BM_digits_89 : decode c_BM_digits 89 = .ok (.iload_n 2, 1) := by decide +kernel
theorem d_BM_digits_90 : decode c_BM_digits 90 = .ok (.invokevirtual 250, 3) := by decide +kernel
theorem d_BM_digits_93 : decode c_BM_digits 93 = .ok (.iload_n 3, 1) := by decide +kernel
theorem d_BM_digits_94 : decode c_BM_digits 94 = .ok (.ireturn, 1) := by decide +kernel
def S_BM_digits_0 (g : Gx) (Q : Int32 → St → Prop) (σ : St) (x1 : Int32) : Prop := Ax g m_BM_digits 0 0 (ZI g Q) SH σ 0 0 0 [(0, .ref (gB g + 151)), (1, .int x1)] []
def S_BM_digits_25 (g : Gx) (Q : Int32 → St → Prop) (σ : St) (x1 : Int32) (x2 : Int32) (x3 : Int32) : Prop := Ax g m_BM_digits 0 0 (ZI g Q) SH σ 0 0 25 [(0, .ref (gB g + 151)), (1, .int x1), (2, .int x2), (3, .int x3)] []
theorem sg_BM_digits_0 {g : Gx} {Q : Int32 → St → Prop} {σ : St} {x1 : Int32}
    (h : K_BM_isDigit g σ (fun (r2 : Int32) (s1 : St) => (¬ r2 = 0 → ∀ u3 : Int32, u3 = (fi s1 151 12) → S_BM_digits_25 g Q s1 x1 u3 (0 : Int32)) ∧ (r2 = 0 → K_BM_fails g (0 : Int32) (fi s1 151 12) s1 (fun s4 : St => Q (0 : Int32) s4)))) : S_BM_digits_0 g Q σ x1 := by
  show Ax g m_BM_digits 0 0 (ZI g Q) SH σ 0 0 0 [(0, .ref (gB g + 151)), (1, .int x1)] []
  refine a_aload_n (pc := 0) 0 rfl rfl d_BM_digits_0 ?_
  refine a_callV (pc := 1) (M' := m_BM_isDigit) (As := []) (st := []) (mc' := 0) (ms' := 0) lk_BM_254 rfl sx_151 rfl (by decide) (by decide) rfl (Nat.le_of_ble_eq_true rfl) (Nat.le_refl 0) (Nat.le_refl 0) d_BM_digits_1 h ?_
  rintro _ _ s1 ⟨r2, rfl, rfl, h⟩ -
  show Ax g m_BM_digits 0 0 (ZI g Q) SH s1 0 0 4 [(0, .ref (gB g + 151)), (1, .int x1)] [.int r2]
  refine a_if_ne (pc := 4) 18 (by decide) d_BM_digits_4 ⟨fun c0 => ?_, fun c0 => ?_⟩
  · replace h := h.1 c0
    refine a_aload_n (pc := 18) 0 rfl rfl d_BM_digits_18 ?_
    refine a_getI (pc := 19) fg_BM_214 sx_151 rfl d_BM_digits_19 ?_
    refine a_nmi (pc := 22) (fun u3 hu3 => ?_)
    replace h := h u3 hu3
    refine a_istore_n (pc := 22) (lv' := [(2, .int u3), (0, .ref (gB g + 151)), (1, .int x1)]) rfl (Nat.le_of_ble_eq_true rfl) rfl d_BM_digits_22 ?_
    refine a_iconst (pc := 23) (0 : Int32) (by decide) d_BM_digits_23 ?_
    refine a_istore_n (pc := 24) (lv' := [(3, .int (0 : Int32)), (2, .int u3), (0, .ref (gB g + 151)), (1, .int x1)]) rfl (Nat.le_of_ble_eq_true rfl) rfl d_BM_digits_24 ?_
    refine a_sub (pc := 25) [2, 3, 1, 0] rfl ?_
    exact h
  · replace h := h.2 c0
    refine a_aload_n (pc := 7) 0 rfl rfl d_BM_digits_7 ?_
    refine a_iconst (pc := 8) (0 : Int32) (by decide) d_BM_digits_8 ?_
    refine a_aload_n (pc := 9) 0 rfl rfl d_BM_digits_9 ?_
    refine a_getI (pc := 10) fg_BM_214 sx_151 rfl d_BM_digits_10 ?_
    refine a_callV (pc := 13) (M' := m_BM_fails) (As := [.int (0 : Int32), .int (fi s1 151 12)]) (st := []) (mc' := 0) (ms' := 0) lk_BM_250 rfl sx_151 rfl (by decide) (by decide) rfl (Nat.le_of_ble_eq_true rfl) (Nat.le_refl 0) (Nat.le_refl 0) d_BM_digits_13 h ?_
    rintro _ _ s4 ⟨rfl, rfl, h⟩ -
    show Ax g m_BM_digits 0 0 (ZI g Q) SH s4 0 0 16 [(0, .ref (gB g + 151)), (1, .int x1)] []
    refine a_iconst (pc := 16) (0 : Int32) (by decide) d_BM_digits_16 ?_
    exact b_iret (pc := 17) rfl d_BM_digits_17 h
theorem sg_BM_digits_25 {g : Gx} {Q : Int32 → St → Prop} {σ : St} {x1 : Int32} {x2 : Int32} {x3 : Int32}
    (h : K_BM_isDigit g σ (fun (r2 : Int32) (s1 : St) => (r2 = 0 → ((5 : Int32) < ((fi s1 151 12) - x2) → K_BM_fails g (1 : Int32) x2 s1 (fun s3 : St => Q x3 s3)) ∧ (¬ (5 : Int32) < ((fi s1 151 12) - x2) → (x3 ≤ x1 → Q x3 s1) ∧ (¬ x3 ≤ x1 → K_BM_fails g (1 : Int32) x2 s1 (fun s4 : St => Q x3 s4)))) ∧ (¬ r2 = 0 → ((5 : Int32) ≤ ((fi s1 151 12) - x2) → ∀ s5 : St, s5 = sfi s1 151 12 ((fi s1 151 12) + (1 : Int32)) → S_BM_digits_25 g Q s5 x1 x2 x3) ∧ (¬ (5 : Int32) ≤ ((fi s1 151 12) - x2) → K_BM_sign g s1 (fun (r7 : Int32) (s6 : St) => ∀ u8 : Int32, u8 = ((((10 : Int32) * x3) + r7) - (48 : Int32)) → ∀ s9 : St, s9 = sfi s6 151 12 ((fi s6 151 12) + (1 : Int32)) → S_BM_digits_25 g Q s9 x1 x2 u8))))) : S_BM_digits_25 g Q σ x1 x2 x3 := by
  show Ax g m_BM_digits 0 0 (ZI g Q) SH σ 0 0 25 [(0, .ref (gB g + 151)), (1, .int x1), (2, .int x2), (3, .int x3)] []
  refine a_aload_n (pc := 25) 0 rfl rfl d_BM_digits_25 ?_
  refine a_callV (pc := 26) (M' := m_BM_isDigit) (As := []) (st := []) (mc' := 0) (ms' := 0) lk_BM_254 rfl sx_151 rfl (by decide) (by decide) rfl (Nat.le_of_ble_eq_true rfl) (Nat.le_refl 0) (Nat.le_refl 0) d_BM_digits_26 h ?_
  rintro _ _ s1 ⟨r2, rfl, rfl, h⟩ -
  show Ax g m_BM_digits 0 0 (ZI g Q) SH s1 0 0 29 [(0, .ref (gB g + 151)), (1, .int x1), (2, .int x2), (3, .int x3)] [.int r2]
  refine a_if_eq (pc := 29) 72 (by decide) d_BM_digits_29 ⟨fun c0 => ?_, fun c0 => ?_⟩
  · replace h := h.1 c0
    refine a_aload_n (pc := 72) 0 rfl rfl d_BM_digits_72 ?_
    refine a_getI (pc := 73) fg_BM_214 sx_151 rfl d_BM_digits_73 ?_
    refine a_iload_n (pc := 76) 2 rfl rfl d_BM_digits_76 ?_
    refine a_isub (pc := 77) d_BM_digits_77 ?_
    refine a_iconst (pc := 78) (5 : Int32) (by decide) d_BM_digits_78 ?_
    refine a_icmp_gt (pc := 79) 87 (by decide) d_BM_digits_79 ⟨fun c0 => ?_, fun c0 => ?_⟩
    · replace h := h.1 c0
      refine a_aload_n (pc := 87) 0 rfl rfl d_BM_digits_87 ?_
      refine a_iconst (pc := 88) (1 : Int32) (by decide) d_BM_digits_88 ?_
      refine a_iload_n (pc := 89) 2 rfl rfl d_BM_digits_89 ?_
      refine a_callV (pc := 90) (M' := m_BM_fails) (As := [.int (1 : Int32), .int x2]) (st := []) (mc' := 0) (ms' := 0) lk_BM_250 rfl sx_151 rfl (by decide) (by decide) rfl (Nat.le_of_ble_eq_true rfl) (Nat.le_refl 0) (Nat.le_refl 0) d_BM_digits_90 h ?_
      rintro _ _ s3 ⟨rfl, rfl, h⟩ -
      show Ax g m_BM_digits 0 0 (ZI g Q) SH s3 0 0 93 [(0, .ref (gB g + 151)), (1, .int x1), (2, .int x2), (3, .int x3)] []
      refine a_iload_n (pc := 93) 3 rfl rfl d_BM_digits_93 ?_
      exact b_iret (pc := 94) rfl d_BM_digits_94 h
    · replace h := h.2 c0
      refine a_iload_n (pc := 82) 3 rfl rfl d_BM_digits_82 ?_
      refine a_iload_n (pc := 83) 1 rfl rfl d_BM_digits_83 ?_
      refine a_icmp_le (pc := 84) 93 (by decide) d_BM_digits_84 ⟨fun c0 => ?_, fun c0 => ?_⟩
      · replace h := h.1 c0
        refine a_iload_n (pc := 93) 3 rfl rfl d_BM_digits_93 ?_
        exact b_iret (pc := 94) rfl d_BM_digits_94 h
      · replace h := h.2 c0
        refine a_aload_n (pc := 87) 0 rfl rfl d_BM_digits_87 ?_
        refine a_iconst (pc := 88) (1 : Int32) (by decide) d_BM_digits_88 ?_
        refine a_iload_n (pc := 89) 2 rfl rfl d_BM_digits_89 ?_
        refine a_callV (pc := 90) (M' := m_BM_fails) (As := [.int (1 : Int32), .int x2]) (st := []) (mc' := 0) (ms' := 0) lk_BM_250 rfl sx_151 rfl (by decide) (by decide) rfl (Nat.le_of_ble_eq_true rfl) (Nat.le_refl 0) (Nat.le_refl 0) d_BM_digits_90 h ?_
        rintro _ _ s4 ⟨rfl, rfl, h⟩ -
        show Ax g m_BM_digits 0 0 (ZI g Q) SH s4 0 0 93 [(0, .ref (gB g + 151)), (1, .int x1), (2, .int x2), (3, .int x3)] []
        refine a_iload_n (pc := 93) 3 rfl rfl d_BM_digits_93 ?_
        exact b_iret (pc := 94) rfl d_BM_digits_94 h
  · replace h := h.2 c0
    refine a_aload_n (pc := 32) 0 rfl rfl d_BM_digits_32 ?_
    refine a_getI (pc := 33) fg_BM_214 sx_151 rfl d_BM_digits_33 ?_
    refine a_iload_n (pc := 36) 2 rfl rfl d_BM_digits_36 ?_
    refine a_isub (pc := 37) d_BM_digits_37 ?_
    refine a_iconst (pc := 38) (5 : Int32) (by decide) d_BM_digits_38 ?_
    refine a_icmp_ge (pc := 39) 57 (by decide) d_BM_digits_39 ⟨fun c0 => ?_, fun c0 => ?_⟩
    · replace h := h.1 c0
      refine a_iload_n (pc := 57) 3 rfl rfl d_BM_digits_57 ?_
      refine a_istore_n (pc := 58) (lv' := [(3, .int x3), (0, .ref (gB g + 151)), (1, .int x1), (2, .int x2)]) rfl (Nat.le_of_ble_eq_true rfl) rfl d_BM_digits_58 ?_
      refine a_aload_n (pc := 59) 1 rfl rfl d_BM_digits_59 ?_
      refine a_dup (pc := 60) rfl d_BM_digits_60 ?_
      refine a_getI (pc := 61) fg_BM_214 sx_151 rfl d_BM_digits_61 ?_
      refine a_iconst (pc := 64) (1 : Int32) (by decide) d_BM_digits_64 ?_
      refine a_iadd (pc := 65) d_BM_digits_65 ?_
      refine a_putI (pc := 66) fp_BM_214 sx_151 rfl d_BM_digits_66 ?_
      refine a_nms (fun s5 hs5 => ?_)
      replace h := h s5 hs5
      refine a_goto (pc := 69) 25 (by decide) d_BM_digits_69 ?_
      refine a_sub (pc := 25) [1, 2, 3, 0] rfl ?_
      exact h
    · replace h := h.2 c0
      refine a_bipush (pc := 42) (10 : Int32) (by decide) d_BM_digits_42 ?_
      refine a_iload_n (pc := 44) 3 rfl rfl d_BM_digits_44 ?_
      refine a_imul (pc := 45) d_BM_digits_45 ?_
      refine a_aload_n (pc := 46) 0 rfl rfl d_BM_digits_46 ?_
      refine a_callV (pc := 47) (M' := m_BM_sign) (As := []) (st := [.int ((10 : Int32) * x3)]) (mc' := 0) (ms' := 0) lk_BM_217 rfl sx_151 rfl (by decide) (by decide) rfl (Nat.le_of_ble_eq_true rfl) (Nat.le_refl 0) (Nat.le_refl 0) d_BM_digits_47 h ?_
      rintro _ _ s6 ⟨r7, rfl, rfl, h⟩ -
      show Ax g m_BM_digits 0 0 (ZI g Q) SH s6 0 0 50 [(0, .ref (gB g + 151)), (1, .int x1), (2, .int x2), (3, .int x3)] [.int r7, .int ((10 : Int32) * x3)]
      refine a_iadd (pc := 50) d_BM_digits_50 ?_
      refine a_bipush (pc := 51) (48 : Int32) (by decide) d_BM_digits_51 ?_
      refine a_isub (pc := 53) d_BM_digits_53 ?_
      refine a_goto (pc := 54) 58 (by decide) d_BM_digits_54 ?_
      refine a_nmi (pc := 58) (fun u8 hu8 => ?_)
      replace h := h u8 hu8
      refine a_istore_n (pc := 58) (lv' := [(3, .int u8), (0, .ref (gB g + 151)), (1, .int x1), (2, .int x2)]) rfl (Nat.le_of_ble_eq_true rfl) rfl d_BM_digits_58 ?_
      refine a_aload_n (pc := 59) 1 rfl rfl d_BM_digits_59 ?_
      refine a_dup (pc := 60) rfl d_BM_digits_60 ?_
      refine a_getI (pc := 61) fg_BM_214 sx_151 rfl d_BM_digits_61 ?_
      refine a_iconst (pc := 64) (1 : Int32) (by decide) d_BM_digits_64 ?_
      refine a_iadd (pc := 65) d_BM_digits_65 ?_
      refine a_putI (pc := 66) fp_BM_214 sx_151 rfl d_BM_digits_66 ?_
      refine a_nms (fun s9 hs9 => ?_)
      replace h := h s9 hs9
      refine a_goto (pc := 69) 25 (by decide) d_BM_digits_69 ?_
      refine a_sub (pc := 25) [1, 2, 3, 0] rfl ?_
      exact h
theorem ko_BM_digits {g : Gx}  {x1 : Int32} {σ : St} {Q : Int32 → St → Prop} (h : S_BM_digits_0 g Q σ x1) : K_BM_digits g x1 σ Q := KI.of (show plainName "BallBoxModel" = true by decide) (Nat.le_of_ble_eq_true rfl) h
theorem d_BM_value_0 : decode c_BM_value 0 = .ok (.aload_n 0, 1) := by decide +kernel
theorem d_BM_value_1 : decode c_BM_value 1 = .ok (.invokevirtual 234, 3) := by decide +kernel
theorem d_BM_value_4 : decode c_BM_value 4 = .ok (.aload_n 0, 1) := by decide +kernel
theorem d_BM_value_5 : decode c_BM_value 5 = .ok (.getfield 214, 3) := by decide +kernel
theorem d_BM_value_8 : decode c_BM_value 8 = .ok (.istore_n 1, 1) := by decide +kernel
theorem d_BM_value_9 : decode c_BM_value 9 = .ok (.aload_n 0, 1) := by decide +kernel
theorem d_BM_value_10 : decode c_BM_value 10 = .ok (.invokevirtual 254, 3) := by decide +kernel
theorem d_BM_value_13 : decode c_BM_value 13 = .ok (.ifCond .eq 23, 3) := by decide +kernel
theorem d_BM_value_16 : decode c_BM_value 16 = .ok (.aload_n 0, 1) := by decide +kernel
theorem d_BM_value_17 : decode c_BM_value 17 = .ok (.ldc_w 258, 3) := by decide +kernel
theorem d_BM_value_20 : decode c_BM_value 20 = .ok (.invokevirtual 259, 3) := by decide +kernel
theorem d_BM_value_23 : decode c_BM_value 23 = .ok (.istore_n 2, 1) := by decide +kernel
theorem d_BM_value_24 : decode c_BM_value 24 = .ok (.aload_n 0, 1) := by decide +kernel
theorem d_BM_value_25 : decode c_BM_value 25 = .ok (.iload_n 1, 1) := by decide +kernel
theorem d_BM_value_26 : decode c_BM_value 26 = .ok (.invokevirtual 262, 3) := by decide +kernel
theorem d_BM_value_29 : decode c_BM_value 29 = .ok (.aload_n 0, 1) := by decide +kernel
theorem d_BM_value_30 : decode c_BM_value 30 = .ok (.iconst 0, 1) := by decide +kernel
theorem d_BM_value_31 : decode c_BM_value 31 = .ok (.iload_n 2, 1) := by decide +kernel
theorem d_BM_value_32 : decode c_BM_value 32 = .ok (.invokevirtual 265, 3) := by decide +kernel
theorem d_BM_value_35 : decode c_BM_value 35 = .ok (.return_, 1) := by decide +kernel
theorem d_BM_value_36 : decode c_BM_value 36 = .ok (.iconst 0, 1) := by decide +kernel
theorem d_BM_value_37 : decode c_BM_value 37 = .ok (.istore_n 2, 1) := by decide +kernel
theorem d_BM_value_38 : decode c_BM_value 38 = .ok (.iload_n 2, 1) := by decide +kernel
theorem d_BM_value_39 : decode c_BM_value 39 = .ok (.aload_n 0, 1) := by decide +kernel
theorem d_BM_value_40 : decode c_BM_value 40 = .ok (.getfield 40, 3) := by decide +kernel
theorem d_BM_value_43 : decode c_BM_value 43 = .ok (.if_icmp .ge 20, 3) := by decide +kernel
theorem d_BM_value_46 : decode c_BM_value 46 = .ok (.aload_n 0, 1) := by decide +kernel
theorem d_BM_value_47 : decode c_BM_value 47 = .ok (.iload_n 2, 1) := by decide +kernel
theorem d_BM_value_48 : decode c_BM_value 48 = .ok (.invokestatic 268, 3) := by decide +kernel
theorem d_BM_value_51 : decode c_BM_value 51 = .ok (.invokevirtual 237, 3) := by decide +kernel
theorem d_BM_value_54 : decode c_BM_value 54 = .ok (.ifCond .ne 9, 3) := by decide +kernel
theorem d_BM_value_57 : decode c_BM_value 57 = .ok (.iinc 2 1, 3) := by decide +kernel
theorem d_BM_value_60 : decode c_BM_value 60 = .ok (.goto (-22), 3) := by decide +kernel
theorem d_BM_value_63 : decode c_BM_value 63 = .ok (.iload_n 2, 1) := by decide +kernel
theorem d_BM_value_64 : decode c_BM_value 64 = .ok (.aload_n 0, 1) := by decide +kernel
theorem d_BM_value_65 : decode c_BM_value 65 = .ok (.getfield 40, 3) := by decide +kernel
theorem d_BM_value_68 : decode c_BM_value 68 = .ok (.if_icmp .ne 10, 3) := by decide +kernel
theorem d_BM_value_71 : decode c_BM_value 71 = .ok (.aload_n 0, 1) := by decide +kernel
theorem d_BM_value_72 : decode c_BM_value 72 = .ok (.iconst 0, 1) := by decide +kernel
theorem d_BM_value_73 : decode c_BM_value 73 = .ok (.iload_n 1, 1) := by decide +kernel
theorem d_BM_value_74 : decode c_BM_value 74 = .ok (.invokevirtual 250, 3) := by decide +kernel
theorem d_BM_value_77 : decode c_BM_value 77 = .ok (.return_, 1) := by decide +kernel
theorem d_BM_value_78 : decode c_BM_value 78 = .ok (.aload_n 0, 1) := by decide +kernel
theorem d_BM_value_79 : decode c_BM_value 79 = .ok (.iload_n 1, 1) := by decide +kernel
theorem d_BM_value_80 : decode c_BM_value 80 = .ok (.invokevirtual 262, 3) := by decide +kernel
theorem d_BM_value_83 : decode c_BM_value 83 = .ok (.aload_n 0, 1) := by decide +kernel
theorem d_BM_value_84 : decode c_BM_value 84 = .ok (.dup, 1) := by decide +kernel
theorem d_BM_value_85 : decode c_BM_value 85 = .ok (.getfield 214, 3) := by decide +kernel
theorem d_BM_value_88 : decode c_BM_value 88 = .ok (.iload_n 2, 1) := by decide +kernel
theorem d_BM_value_89 : decode c_BM_value 89 = .ok (.invokestatic 268, 3) := by decide +kernel
theorem d_BM_value_92 : decode c_BM_value 92 = .ok (.invokevirtual 225, 3) := by decide +kernel
theorem d_BM_value_95 : decode c_BM_value 95 = .ok (.iadd, 1) := by decide +kernel
theorem d_BM_value_96 : decode c_BM_value 96 = .ok (.putfield 214, 3) := by decide +kernel
theorem d_BM_value_99 : decode c_BM_value 99 = .ok (.aload_n 0, 1) := by decide +kernel
theorem d_BM_value_100 : decode c_BM_value 100 = .ok (.iconst 1, 1) := by decide +kernel
theorem d_BM_value_101 : decode c_BM_value 101 = .ok (.iload_n 2, 1) := by decide +kernel
theorem d_BM_value_102 : decode c_BM_value 102 = .ok (.invokevirtual 265, 3) := by decide +kernel
theorem d_BM_value_105 : decode c_BM_value 105 = .ok (.return_, 1) := by decide +kernel
def S_BM_value_0 (g : Gx) (Q : St → Prop) (σ : St) : Prop := Ax g m_BM_value 0 0 (ZV g Q) SH σ 0 0 0 [(0, .ref (gB g + 151))] []
def S_BM_value_38 (g : Gx) (Q : St → Prop) (σ : St) (x1 : Int32) (x2 : Int32) : Prop := Ax g m_BM_value 0 0 (ZV g Q) SH σ 0 0 38 [(0, .ref (gB g + 151)), (1, .int x1), (2, .int x2)] []
def S_BM_value_63 (g : Gx) (Q : St → Prop) (σ : St) (x1 : Int32) (x2 : Int32) : Prop := Ax g m_BM_value 0 0 (ZV g Q) SH σ 0 0 63 [(0, .ref (gB g + 151)), (1, .int x1), (2, .int x2)] []
theorem sg_BM_value_0 {g : Gx} {Q : St → Prop} {σ : St}
    (h : K_BM_blanks g σ (fun s1 : St => ∀ u2 : Int32, u2 = (fi s1 151 12) → K_BM_isDigit g s1 (fun (r4 : Int32) (s3 : St) => (r4 = 0 → S_BM_value_38 g Q s3 u2 (0 : Int32)) ∧ (¬ r4 = 0 → K_BM_digits g (99999 : Int32) s3 (fun (r6 : Int32) (s5 : St) => K_BM_isCounted g u2 s5 (fun s7 : St => K_BM_entry g (0 : Int32) r6 s7 (fun s8 : St => Q s8))))))) : S_BM_value_0 g Q σ := by
  show Ax g m_BM_value 0 0 (ZV g Q) SH σ 0 0 0 [(0, .ref (gB g + 151))] []
  refine a_aload_n (pc := 0) 0 rfl rfl d_BM_value_0 ?_
  refine a_callV (pc := 1) (M' := m_BM_blanks) (As := []) (st := []) (mc' := 0) (ms' := 0) lk_BM_234 rfl sx_151 rfl (by decide) (by decide) rfl (Nat.le_of_ble_eq_true rfl) (Nat.le_refl 0) (Nat.le_refl 0) d_BM_value_1 h ?_
  rintro _ _ s1 ⟨rfl, rfl, h⟩ -
  show Ax g m_BM_value 0 0 (ZV g Q) SH s1 0 0 4 [(0, .ref (gB g + 151))] []
  refine a_aload_n (pc := 4) 0 rfl rfl d_BM_value_4 ?_
  refine a_getI (pc := 5) fg_BM_214 sx_151 rfl d_BM_value_5 ?_
  refine a_nmi (pc := 8) (fun u2 hu2 => ?_)
  replace h := h u2 hu2
  refine a_istore_n (pc := 8) (lv' := [(1, .int u2), (0, .ref (gB g + 151))]) rfl (Nat.le_of_ble_eq_true rfl) rfl d_BM_value_8 ?_
  refine a_aload_n (pc := 9) 1 rfl rfl d_BM_value_9 ?_
  refine a_callV (pc := 10) (M' := m_BM_isDigit) (As := []) (st := []) (mc' := 0) (ms' := 0) lk_BM_254 rfl sx_151 rfl (by decide) (by decide) rfl (Nat.le_of_ble_eq_true rfl) (Nat.le_refl 0) (Nat.le_refl 0) d_BM_value_10 h ?_
  rintro _ _ s3 ⟨r4, rfl, rfl, h⟩ -
  show Ax g m_BM_value 0 0 (ZV g Q) SH s3 0 0 13 [(1, .int u2), (0, .ref (gB g + 151))] [.int r4]
  refine a_if_eq (pc := 13) 36 (by decide) d_BM_value_13 ⟨fun c0 => ?_, fun c0 => ?_⟩
  · replace h := h.1 c0
    refine a_iconst (pc := 36) (0 : Int32) (by decide) d_BM_value_36 ?_
    refine a_istore_n (pc := 37) (lv' := [(2, .int (0 : Int32)), (1, .int u2), (0, .ref (gB g + 151))]) rfl (Nat.le_of_ble_eq_true rfl) rfl d_BM_value_37 ?_
    refine a_sub (pc := 38) [2, 1, 0] rfl ?_
    exact h
  · replace h := h.2 c0
    refine a_aload_n (pc := 16) 1 rfl rfl d_BM_value_16 ?_
    refine a_ldcw (pc := 17) tw1539 d_BM_value_17 ?_
    refine a_callV (pc := 20) (M' := m_BM_digits) (As := [.int (99999 : Int32)]) (st := []) (mc' := 0) (ms' := 0) lk_BM_259 rfl sx_151 rfl (by decide) (by decide) rfl (Nat.le_of_ble_eq_true rfl) (Nat.le_refl 0) (Nat.le_refl 0) d_BM_value_20 h ?_
    rintro _ _ s5 ⟨r6, rfl, rfl, h⟩ -
    show Ax g m_BM_value 0 0 (ZV g Q) SH s5 0 0 23 [(1, .int u2), (0, .ref (gB g + 151))] [.int r6]
    refine a_istore_n (pc := 23) (lv' := [(2, .int r6), (1, .int u2), (0, .ref (gB g + 151))]) rfl (Nat.le_of_ble_eq_true rfl) rfl d_BM_value_23 ?_
    refine a_aload_n (pc := 24) 2 rfl rfl d_BM_value_24 ?_
    refine a_iload_n (pc := 25) 1 rfl rfl d_BM_value_25 ?_
    refine a_callV (pc := 26) (M' := m_BM_isCounted) (As := [.int u2]) (st := []) (mc' := 0) (ms' := 0) lk_BM_262 rfl sx_151 rfl (by decide) (by decide) rfl (Nat.le_of_ble_eq_true rfl) (Nat.le_refl 0) (Nat.le_refl 0) d_BM_value_26 h ?_
    rintro _ _ s7 ⟨rfl, rfl, h⟩ -
    show Ax g m_BM_value 0 0 (ZV g Q) SH s7 0 0 29 [(2, .int r6), (1, .int u2), (0, .ref (gB g + 151))] []
    refine a_aload_n (pc := 29) 2 rfl rfl d_BM_value_29 ?_
    refine a_iconst (pc := 30) (0 : Int32) (by decide) d_BM_value_30 ?_
    refine a_iload_n (pc := 31) 0 rfl rfl d_BM_value_31 ?_
    refine a_callV (pc := 32) (M' := m_BM_entry) (As := [.int (0 : Int32), .int r6]) (st := []) (mc' := 0) (ms' := 0) lk_BM_265 rfl sx_151 rfl (by decide) (by decide) rfl (Nat.le_of_ble_eq_true rfl) (Nat.le_refl 0) (Nat.le_refl 0) d_BM_value_32 h ?_
    rintro _ _ s8 ⟨rfl, rfl, h⟩ -
    show Ax g m_BM_value 0 0 (ZV g Q) SH s8 0 0 35 [(2, .int r6), (1, .int u2), (0, .ref (gB g + 151))] []
    exact b_vret (pc := 35) rfl d_BM_value_35 h
theorem sg_BM_value_38 {g : Gx} {Q : St → Prop} {σ : St} {x1 : Int32} {x2 : Int32}
    (h : ((fi σ 151 20) ≤ x2 → S_BM_value_63 g Q σ x1 x2) ∧ (¬ (fi σ 151 20) ≤ x2 → K_BM_wordOf g x2 σ (fun (r2 : Nat) (s1 : St) => ∃ v3 : Nat, v3 < 16 ∧ r2 = gK g v3 ∧ K_BM_stood g v3 s1 (fun (r5 : Int32) (s4 : St) => (¬ r5 = 0 → S_BM_value_63 g Q s4 x1 x2) ∧ (r5 = 0 → ∀ u6 : Int32, u6 = x2 + (1 : Int32) → S_BM_value_38 g Q s4 x1 u6))))) : S_BM_value_38 g Q σ x1 x2 := by
  show Ax g m_BM_value 0 0 (ZV g Q) SH σ 0 0 38 [(0, .ref (gB g + 151)), (1, .int x1), (2, .int x2)] []
  refine a_iload_n (pc := 38) 2 rfl rfl d_BM_value_38 ?_
  refine a_aload_n (pc := 39) 0 rfl rfl d_BM_value_39 ?_
  refine a_getI (pc := 40) fg_BM_40 sx_151 rfl d_BM_value_40 ?_
  refine a_icmp_ge (pc := 43) 63 (by decide) d_BM_value_43 ⟨fun c0 => ?_, fun c0 => ?_⟩
  · replace h := h.1 c0
    refine a_sub (pc := 63) [0, 1, 2] rfl ?_
    exact h
  · replace h := h.2 c0
    refine a_aload_n (pc := 46) 0 rfl rfl d_BM_value_46 ?_
    refine a_iload_n (pc := 47) 2 rfl rfl d_BM_value_47 ?_
    refine a_callS (pc := 48) (M' := m_BM_wordOf) (As := [.int x2]) (st := [.ref (gB g + 151)]) (mc' := 0) (ms' := 0) lk_BM_268 rfl (by decide) (by decide) rfl (Nat.le_of_ble_eq_true rfl) (Nat.le_refl 0) (Nat.le_refl 0) d_BM_value_48 h ?_
    rintro _ _ s1 ⟨r2, rfl, rfl, h⟩ -
    obtain ⟨v3, hv3, rfl, h⟩ := h
    show Ax g m_BM_value 0 0 (ZV g Q) SH s1 0 0 51 [(0, .ref (gB g + 151)), (1, .int x1), (2, .int x2)] [.ref (gK g v3), .ref (gB g + 151)]
    refine a_callV (pc := 51) (M' := m_BM_stood) (As := [.ref (gK g v3)]) (st := []) (mc' := 0) (ms' := 0) lk_BM_237 rfl sx_151 rfl (by decide) (by decide) rfl (Nat.le_of_ble_eq_true rfl) (Nat.le_refl 0) (Nat.le_refl 0) d_BM_value_51 h ?_
    rintro _ _ s4 ⟨r5, rfl, rfl, h⟩ -
    show Ax g m_BM_value 0 0 (ZV g Q) SH s4 0 0 54 [(0, .ref (gB g + 151)), (1, .int x1), (2, .int x2)] [.int r5]
    refine a_if_ne (pc := 54) 63 (by decide) d_BM_value_54 ⟨fun c0 => ?_, fun c0 => ?_⟩
    · replace h := h.1 c0
      refine a_sub (pc := 63) [0, 1, 2] rfl ?_
      exact h
    · replace h := h.2 c0
      obtain ⟨u6, hu6⟩ : ∃ y : Int32, y = x2 + (1 : Int32) := ⟨_, rfl⟩
      replace h := h u6 hu6
      refine a_iinc (pc := 57) (v := u6) (lv' := [(2, .int u6), (0, .ref (gB g + 151)), (1, .int x1)]) 2 rfl (by rw [hu6]; rfl) (Nat.le_of_ble_eq_true rfl) rfl d_BM_value_57 ?_
      refine a_goto (pc := 60) 38 (by decide) d_BM_value_60 ?_
      refine a_sub (pc := 38) [1, 2, 0] rfl ?_
      exact h
theorem sg_BM_value_63 {g : Gx} {Q : St → Prop} {σ : St} {x1 : Int32} {x2 : Int32}
    (h : (¬ x2 = (fi σ 151 20) → K_BM_isCounted g x1 σ (fun s1 : St => K_BM_wordOf g x2 s1 (fun (r3 : Nat) (s2 : St) => ∃ v4 : Nat, v4 < 16 ∧ r3 = gK g v4 ∧ K_JS_length g v4 s2 (fun (r6 : Int32) (s5 : St) => ∀ s7 : St, s7 = sfi s5 151 12 ((fi s1 151 12) + r6) → K_BM_entry g (1 : Int32) x2 s7 (fun s8 : St => Q s8))))) ∧ (x2 = (fi σ 151 20) → K_BM_fails g (0 : Int32) x1 σ (fun s9 : St => Q s9))) : S_BM_value_63 g Q σ x1 x2 := by
  show Ax g m_BM_value 0 0 (ZV g Q) SH σ 0 0 63 [(0, .ref (gB g + 151)), (1, .int x1), (2, .int x2)] []
  refine a_iload_n (pc := 63) 2 rfl rfl d_BM_value_63 ?_
  refine a_aload_n (pc := 64) 0 rfl rfl d_BM_value_64 ?_
  refine a_getI (pc := 65) fg_BM_40 sx_151 rfl d_BM_value_65 ?_
  refine a_icmp_ne (pc := 68) 78 (by decide) d_BM_value_68 ⟨fun c0 => ?_, fun c0 => ?_⟩
  · replace h := h.1 c0
    refine a_aload_n (pc := 78) 0 rfl rfl d_BM_value_78 ?_
    refine a_iload_n (pc := 79) 1 rfl rfl d_BM_value_79 ?_
    refine a_callV (pc := 80) (M' := m_BM_isCounted) (As := [.int x1]) (st := []) (mc' := 0) (ms' := 0) lk_BM_262 rfl sx_151 rfl (by decide) (by decide) rfl (Nat.le_of_ble_eq_true rfl) (Nat.le_refl 0) (Nat.le_refl 0) d_BM_value_80 h ?_
    rintro _ _ s1 ⟨rfl, rfl, h⟩ -
    show Ax g m_BM_value 0 0 (ZV g Q) SH s1 0 0 83 [(0, .ref (gB g + 151)), (1, .int x1), (2, .int x2)] []
    refine a_aload_n (pc := 83) 0 rfl rfl d_BM_value_83 ?_
    refine a_dup (pc := 84) rfl d_BM_value_84 ?_
    refine a_getI (pc := 85) fg_BM_214 sx_151 rfl d_BM_value_85 ?_
    refine a_iload_n (pc := 88) 2 rfl rfl d_BM_value_88 ?_
    refine a_callS (pc := 89) (M' := m_BM_wordOf) (As := [.int x2]) (st := [.int (fi s1 151 12), .ref (gB g + 151)]) (mc' := 0) (ms' := 0) lk_BM_268 rfl (by decide) (by decide) rfl (Nat.le_of_ble_eq_true rfl) (Nat.le_refl 0) (Nat.le_refl 0) d_BM_value_89 h ?_
    rintro _ _ s2 ⟨r3, rfl, rfl, h⟩ -
    obtain ⟨v4, hv4, rfl, h⟩ := h
    show Ax g m_BM_value 0 0 (ZV g Q) SH s2 0 0 92 [(0, .ref (gB g + 151)), (1, .int x1), (2, .int x2)] [.ref (gK g v4), .int (fi s1 151 12), .ref (gB g + 151)]
    refine a_callStr (pc := 92) (w := v4) (M' := m_JS_length) (As := []) (st := [.int (fi s1 151 12), .ref (gB g + 151)]) lk_BM_225 rfl rfl hv4 (by decide) (by decide) rfl (Nat.le_of_ble_eq_true rfl) (Nat.le_refl 0) (Nat.le_refl 0) d_BM_value_92 h ?_
    rintro _ _ s5 ⟨r6, rfl, rfl, h⟩ -
    show Ax g m_BM_value 0 0 (ZV g Q) SH s5 0 0 95 [(0, .ref (gB g + 151)), (1, .int x1), (2, .int x2)] [.int r6, .int (fi s1 151 12), .ref (gB g + 151)]
    refine a_iadd (pc := 95) d_BM_value_95 ?_
    refine a_putI (pc := 96) fp_BM_214 sx_151 rfl d_BM_value_96 ?_
    refine a_nms (fun s7 hs7 => ?_)
    replace h := h s7 hs7
    refine a_aload_n (pc := 99) 0 rfl rfl d_BM_value_99 ?_
    refine a_iconst (pc := 100) (1 : Int32) (by decide) d_BM_value_100 ?_
    refine a_iload_n (pc := 101) 2 rfl rfl d_BM_value_101 ?_
    refine a_callV (pc := 102) (M' := m_BM_entry) (As := [.int (1 : Int32), .int x2]) (st := []) (mc' := 0) (ms' := 0) lk_BM_265 rfl sx_151 rfl (by decide) (by decide) rfl (Nat.le_of_ble_eq_true rfl) (Nat.le_refl 0) (Nat.le_refl 0) d_BM_value_102 h ?_
    rintro _ _ s8 ⟨rfl, rfl, h⟩ -
    show Ax g m_BM_value 0 0 (ZV g Q) SH s8 0 0 105 [(0, .ref (gB g + 151)), (1, .int x1), (2, .int x2)] []
    exact b_vret (pc := 105) rfl d_BM_value_105 h
  · replace h := h.2 c0
    refine a_aload_n (pc := 71) 0 rfl rfl d_BM_value_71 ?_
    refine a_iconst (pc := 72) (0 : Int32) (by decide) d_BM_value_72 ?_
    refine a_iload_n (pc := 73) 1 rfl rfl d_BM_value_73 ?_
    refine a_callV (pc := 74) (M' := m_BM_fails) (As := [.int (0 : Int32), .int x1]) (st := []) (mc' := 0) (ms' := 0) lk_BM_250 rfl sx_151 rfl (by decide) (by decide) rfl (Nat.le_of_ble_eq_true rfl) (Nat.le_refl 0) (Nat.le_refl 0) d_BM_value_74 h ?_
    rintro _ _ s9 ⟨rfl, rfl, h⟩ -
    show Ax g m_BM_value 0 0 (ZV g Q) SH s9 0 0 77 [(0, .ref (gB g + 151)), (1, .int x1), (2, .int x2)] []
    exact b_vret (pc := 77) rfl d_BM_value_77 h
theorem ko_BM_value {g : Gx}  {σ : St} {Q : St → Prop} (h : S_BM_value_0 g Q σ) : K_BM_value g  σ Q := KV.of (show plainName "BallBoxModel" = true by decide) (Nat.le_of_ble_eq_true rfl) h
theorem d_BM_term_0 : decode c_BM_term 0 = .ok (.aload_n 0, 1) := by decide +kernel
theorem d_BM_term_1 : decode c_BM_term 1 = .ok (.invokevirtual 272, 3) := by decide +kernel
theorem d_BM_term_4 : decode c_BM_term 4 = .ok (.aload_n 0, 1) := by decide +kernel
theorem d_BM_term_5 : decode c_BM_term 5 = .ok (.invokevirtual 234, 3) := by decide +kernel
theorem d_BM_term_8 : decode c_BM_term 8 = .ok (.aload_n 0, 1) := by decide +kernel
theorem d_BM_term_9 : decode c_BM_term 9 = .ok (.getfield 211, 3) := by decide +kernel
theorem d_BM_term_12 : decode c_BM_term 12 = .ok (.ifCond .ne 88, 3) := by decide +kernel
theorem d_BM_term_15 : decode c_BM_term 15 = .ok (.aload_n 0, 1) := by decide +kernel
theorem d_BM_term_16 : decode c_BM_term 16 = .ok (.invokevirtual 217, 3) := by decide +kernel
theorem d_BM_term_19 : decode c_BM_term 19 = .ok (.bipush 42, 2) := by decide +kernel
theorem d_BM_term_21 : decode c_BM_term 21 = .ok (.if_icmp .eq 21, 3) := by decide +kernel
theorem d_BM_term_24 : decode c_BM_term 24 = .ok (.aload_n 0, 1) := by decide +kernel
theorem d_BM_term_25 : decode c_BM_term 25 = .ok (.invokevirtual 217, 3) := by decide +kernel
theorem d_BM_term_28 : decode c_BM_term 28 = .ok (.bipush 47, 2) := by decide +kernel
theorem d_BM_term_30 : decode c_BM_term 30 = .ok (.if_icmp .eq 12, 3) := by decide +kernel
theorem d_BM_term_33 : decode c_BM_term 33 = .ok (.aload_n 0, 1) := by decide +kernel
theorem d_BM_term_34 : decode c_BM_term 34 = .ok (.invokevirtual 217, 3) := by decide +kernel
theorem d_BM_term_37 : decode c_BM_term 37 = .ok (.bipush 37, 2) := by decide +kernel
theorem d_BM_term_39 : decode c_BM_term 39 = .ok (.if_icmp .ne 61, 3) := by decide +kernel
theorem d_BM_term_42 : decode c_BM_term 42 = .ok (.aload_n 0, 1) := by decide +kernel
theorem d_BM_term_43 : decode c_BM_term 43 = .ok (.invokevirtual 217, 3) := by decide +kernel
theorem d_BM_term_46 : decode c_BM_term 46 = .ok (.bipush 42, 2) := by decide +kernel
theorem d_BM_term_48 : decode c_BM_term 48 = .ok (.if_icmp .ne 8, 3) := by decide +kernel
theorem d_BM_term_51 : decode c_BM_term 51 = .ok (.bipush 13, 2) := by decide +kernel
theorem d_BM_term_53 : decode c_BM_term 53 = .ok (.goto 19, 3) := by decide +kernel
theorem d_BM_term_56 : decode c_BM_term 56 = .ok (.aload_n 0, 1) := by decide +kernel
theorem d_BM_term_57 : decode c_BM_term 57 = .ok (.invokevirtual 217, 3) := by decide +kernel
theorem d_BM_term_60 : decode c_BM_term 60 = .ok (.bipush 47, 2) := by decide +kernel
theorem d_BM_term_62 : decode c_BM_term 62 = .ok (.if_icmp .ne 8, 3) := by decide +kernel
theorem d_BM_term_65 : decode c_BM_term 65 = .ok (.bipush 14, 2) := by decide +kernel
theorem d_BM_term_67 : decode c_BM_term 67 = .ok (.goto 5, 3) := by decide +kernel
theorem d_BM_term_70 : decode c_BM_term 70 = .ok (.bipush 15, 2) := by decide +kernel
theorem d_BM_term_72 : decode c_BM_term 72 = .ok (.istore_n 1, 1) := by decide +kernel
theorem d_BM_term_73 : decode c_BM_term 73 = .ok (.aload_n 0, 1) := by decide +kernel
theorem d_BM_term_74 : decode c_BM_term 74 = .ok (.dup, 1) := by decide +kernel
theorem d_BM_term_75 : decode c_BM_term 75 = .ok (.getfield 214, 3) := by decide +kernel
theorem d_BM_term_78 : decode c_BM_term 78 = .ok (.iconst 1, 1) := by decide +kernel
theorem d_BM_term_79 : decode c_BM_term 79 = .ok (.iadd, 1) := by decide +kernel
theorem d_BM_term_80 : decode c_BM_term 80 = .ok (.putfield 214, 3) := by decide +kernel
theorem d_BM_term_83 : decode c_BM_term 83 = .ok (.aload_n 0, 1) := by decide +kernel
theorem d_BM_term_84 : decode c_BM_term 84 = .ok (.invokevirtual 272, 3) := by decide +kernel
theorem d_BM_term_87 : decode c_BM_term 87 = .ok (.aload_n 0, 1) := by decide +kernel
theorem d_BM_term_88 : decode c_BM_term 88 = .ok (.iload_n 1, 1) := by decide +kernel
theorem d_BM_term_89 : decode c_BM_term 89 = .ok (.iconst 0, 1) := by decide +kernel
theorem d_BM_term_90 : decode c_BM_term 90 = .ok (.invokevirtual 265, 3) := by decide +kernel
theorem d_BM_term_93 : decode c_BM_term 93 = .ok (.aload_n 0, 1) := by decide +kernel
theorem d_BM_term_94 : decode c_BM_term 94 = .ok (.invokevirtual 234, 3) := by decide +kernel
theorem d_BM_term_97 : decode c_BM_term 97 = .ok (.goto (-89), 3) := by decide +kernel
theorem d_BM_term_100 : decode c_BM_term 100 = .ok (.return_, 1) := by decide +kernel
def S_BM_term_0 (g : Gx) (Q : St → Prop) (σ : St) : Prop := Ax g m_BM_term 0 0 (ZV g Q) SH σ 0 0 0 [(0, .ref (gB g + 151))] []
def S_BM_term_8 (g : Gx) (Q : St → Prop) (σ : St) : Prop := Ax g m_BM_term 0 0 (ZV g Q) SH σ 0 0 8 [(0, .ref (gB g + 151))] []
def S_BM_term_42 (g : Gx) (Q : St → Prop) (σ : St) : Prop := Ax g m_BM_term 0 0 (ZV g Q) SH σ 0 0 42 [(0, .ref (gB g + 151))] []
def S_BM_term_72 (g : Gx) (Q : St → Prop) (σ : St) (z0 : Int32) : Prop := Ax g m_BM_term 0 0 (ZV g Q) SH σ 0 0 72 [(0, .ref (gB g + 151))] [.int z0]
theorem sg_BM_term_0 {g : Gx} {Q : St → Prop} {σ : St}
    (h : K_BM_value g σ (fun s1 : St => K_BM_blanks g s1 (fun s2 : St => S_BM_term_8 g Q s2))) : S_BM_term_0 g Q σ := by
  show Ax g m_BM_term 0 0 (ZV g Q) SH σ 0 0 0 [(0, .ref (gB g + 151))] []
  refine a_aload_n (pc := 0) 0 rfl rfl d_BM_term_0 ?_
  refine a_callV (pc := 1) (M' := m_BM_value) (As := []) (st := []) (mc' := 0) (ms' := 0) lk_BM_272 rfl sx_151 rfl (by decide) (by decide) rfl (Nat.le_of_ble_eq_true rfl) (Nat.le_refl 0) (Nat.le_refl 0) d_BM_term_1 h ?_
  rintro _ _ s1 ⟨rfl, rfl, h⟩ -
  show Ax g m_BM_term 0 0 (ZV g Q) SH s1 0 0 4 [(0, .ref (gB g + 151))] []
  refine a_aload_n (pc := 4) 0 rfl rfl d_BM_term_4 ?_
  refine a_callV (pc := 5) (M' := m_BM_blanks) (As := []) (st := []) (mc' := 0) (ms' := 0) lk_BM_234 rfl sx_151 rfl (by decide) (by decide) rfl (Nat.le_of_ble_eq_true rfl) (Nat.le_refl 0) (Nat.le_refl 0) d_BM_term_5 h ?_
  rintro _ _ s2 ⟨rfl, rfl, h⟩ -
  show Ax g m_BM_term 0 0 (ZV g Q) SH s2 0 0 8 [(0, .ref (gB g + 151))] []
  refine a_sub (pc := 8) [0] rfl ?_
  exact h
theorem sg_BM_term_8 {g : Gx} {Q : St → Prop} {σ : St}
    (h : (¬ (fi σ 151 13) = 0 → Q σ) ∧ ((fi σ 151 13) = 0 → K_BM_sign g σ (fun (r2 : Int32) (s1 : St) => (r2 = (42 : Int32) → S_BM_term_42 g Q s1) ∧ (¬ r2 = (42 : Int32) → K_BM_sign g s1 (fun (r4 : Int32) (s3 : St) => (r4 = (47 : Int32) → S_BM_term_42 g Q s3) ∧ (¬ r4 = (47 : Int32) → K_BM_sign g s3 (fun (r6 : Int32) (s5 : St) => (¬ r6 = (37 : Int32) → Q s5) ∧ (r6 = (37 : Int32) → S_BM_term_42 g Q s5)))))))) : S_BM_term_8 g Q σ := by
  show Ax g m_BM_term 0 0 (ZV g Q) SH σ 0 0 8 [(0, .ref (gB g + 151))] []
  refine a_aload_n (pc := 8) 0 rfl rfl d_BM_term_8 ?_
  refine a_getI (pc := 9) fg_BM_211 sx_151 rfl d_BM_term_9 ?_
  refine a_if_ne (pc := 12) 100 (by decide) d_BM_term_12 ⟨fun c0 => ?_, fun c0 => ?_⟩
  · replace h := h.1 c0
    exact b_vret (pc := 100) rfl d_BM_term_100 h
  · replace h := h.2 c0
    refine a_aload_n (pc := 15) 0 rfl rfl d_BM_term_15 ?_
    refine a_callV (pc := 16) (M' := m_BM_sign) (As := []) (st := []) (mc' := 0) (ms' := 0) lk_BM_217 rfl sx_151 rfl (by decide) (by decide) rfl (Nat.le_of_ble_eq_true rfl) (Nat.le_refl 0) (Nat.le_refl 0) d_BM_term_16 h ?_
    rintro _ _ s1 ⟨r2, rfl, rfl, h⟩ -
    show Ax g m_BM_term 0 0 (ZV g Q) SH s1 0 0 19 [(0, .ref (gB g + 151))] [.int r2]
    refine a_bipush (pc := 19) (42 : Int32) (by decide) d_BM_term_19 ?_
    refine a_icmp_eq (pc := 21) 42 (by decide) d_BM_term_21 ⟨fun c0 => ?_, fun c0 => ?_⟩
    · replace h := h.1 c0
      refine a_sub (pc := 42) [0] rfl ?_
      exact h
    · replace h := h.2 c0
      refine a_aload_n (pc := 24) 0 rfl rfl d_BM_term_24 ?_
      refine a_callV (pc := 25) (M' := m_BM_sign) (As := []) (st := []) (mc' := 0) (ms' := 0) lk_BM_217 rfl sx_151 rfl (by decide) (by decide) rfl (Nat.le_of_ble_eq_true rfl) (Nat.le_refl 0) (Nat.le_refl 0) d_BM_term_25 h ?_
      rintro _ _ s3 ⟨r4, rfl, rfl, h⟩ -
      show Ax g m_BM_term 0 0 (ZV g Q) SH s3 0 0 28 [(0, .ref (gB g + 151))] [.int r4]
      refine a_bipush (pc := 28) (47 : Int32) (by decide) d_BM_term_28 ?_
      refine a_icmp_eq (pc := 30) 42 (by decide) d_BM_term_30 ⟨fun c0 => ?_, fun c0 => ?_⟩
      · replace h := h.1 c0
        refine a_sub (pc := 42) [0] rfl ?_
        exact h
      · replace h := h.2 c0
        refine a_aload_n (pc := 33) 0 rfl rfl d_BM_term_33 ?_
        refine a_callV (pc := 34) (M' := m_BM_sign) (As := []) (st := []) (mc' := 0) (ms' := 0) lk_BM_217 rfl sx_151 rfl (by decide) (by decide) rfl (Nat.le_of_ble_eq_true rfl) (Nat.le_refl 0) (Nat.le_refl 0) d_BM_term_34 h ?_
        rintro _ _ s5 ⟨r6, rfl, rfl, h⟩ -
        show Ax g m_BM_term 0 0 (ZV g Q) SH s5 0 0 37 [(0, .ref (gB g + 151))] [.int r6]
        refine a_bipush (pc := 37) (37 : Int32) (by decide) d_BM_term_37 ?_
        refine a_icmp_ne (pc := 39) 100 (by decide) d_BM_term_39 ⟨fun c0 => ?_, fun c0 => ?_⟩
        · replace h := h.1 c0
          exact b_vret (pc := 100) rfl d_BM_term_100 h
        · replace h := h.2 c0
          refine a_sub (pc := 42) [0] rfl ?_
          exact h
theorem sg_BM_term_42 {g : Gx} {Q : St → Prop} {σ : St}
    (h : K_BM_sign g σ (fun (r2 : Int32) (s1 : St) => (¬ r2 = (42 : Int32) → K_BM_sign g s1 (fun (r4 : Int32) (s3 : St) => (¬ r4 = (47 : Int32) → S_BM_term_72 g Q s3 (15 : Int32)) ∧ (r4 = (47 : Int32) → S_BM_term_72 g Q s3 (14 : Int32)))) ∧ (r2 = (42 : Int32) → S_BM_term_72 g Q s1 (13 : Int32)))) : S_BM_term_42 g Q σ := by
  show Ax g m_BM_term 0 0 (ZV g Q) SH σ 0 0 42 [(0, .ref (gB g + 151))] []
  refine a_aload_n (pc := 42) 0 rfl rfl d_BM_term_42 ?_
  refine a_callV (pc := 43) (M' := m_BM_sign) (As := []) (st := []) (mc' := 0) (ms' := 0) lk_BM_217 rfl sx_151 rfl (by decide) (by decide) rfl (Nat.le_of_ble_eq_true rfl) (Nat.le_refl 0) (Nat.le_refl 0) d_BM_term_43 h ?_
  rintro _ _ s1 ⟨r2, rfl, rfl, h⟩ -
  show Ax g m_BM_term 0 0 (ZV g Q) SH s1 0 0 46 [(0, .ref (gB g + 151))] [.int r2]
  refine a_bipush (pc := 46) (42 : Int32) (by decide) d_BM_term_46 ?_
  refine a_icmp_ne (pc := 48) 56 (by decide) d_BM_term_48 ⟨fun c0 => ?_, fun c0 => ?_⟩
  · replace h := h.1 c0
    refine a_aload_n (pc := 56) 0 rfl rfl d_BM_term_56 ?_
    refine a_callV (pc := 57) (M' := m_BM_sign) (As := []) (st := []) (mc' := 0) (ms' := 0) lk_BM_217 rfl sx_151 rfl (by decide) (by decide) rfl (Nat.le_of_ble_eq_true rfl) (Nat.le_refl 0) (Nat.le_refl 0) d_BM_term_57 h ?_
    rintro _ _ s3 ⟨r4, rfl, rfl, h⟩ -
    show Ax g m_BM_term 0 0 (ZV g Q) SH s3 0 0 60 [(0, .ref (gB g + 151))] [.int r4]
    refine a_bipush (pc := 60) (47 : Int32) (by decide) d_BM_term_60 ?_
    refine a_icmp_ne (pc := 62) 70 (by decide) d_BM_term_62 ⟨fun c0 => ?_, fun c0 => ?_⟩
    · replace h := h.1 c0
      refine a_bipush (pc := 70) (15 : Int32) (by decide) d_BM_term_70 ?_
      refine a_sub (pc := 72) [0] rfl ?_
      exact h
    · replace h := h.2 c0
      refine a_bipush (pc := 65) (14 : Int32) (by decide) d_BM_term_65 ?_
      refine a_goto (pc := 67) 72 (by decide) d_BM_term_67 ?_
      refine a_sub (pc := 72) [0] rfl ?_
      exact h
  · replace h := h.2 c0
    refine a_bipush (pc := 51) (13 : Int32) (by decide) d_BM_term_51 ?_
    refine a_goto (pc := 53) 72 (by decide) d_BM_term_53 ?_
    refine a_sub (pc := 72) [0] rfl ?_
    exact h
theorem sg_BM_term_72 {g : Gx} {Q : St → Prop} {σ : St} {z0 : Int32}
    (h : ∀ s1 : St, s1 = sfi σ 151 12 ((fi σ 151 12) + (1 : Int32)) → K_BM_value g s1 (fun s2 : St => K_BM_entry g z0 (0 : Int32) s2 (fun s3 : St => K_BM_blanks g s3 (fun s4 : St => S_BM_term_8 g Q s4)))) : S_BM_term_72 g Q σ z0 := by
  show Ax g m_BM_term 0 0 (ZV g Q) SH σ 0 0 72 [(0, .ref (gB g + 151))] [.int z0]
  refine a_istore_n (pc := 72) (lv' := [(1, .int z0), (0, .ref (gB g + 151))]) rfl (Nat.le_of_ble_eq_true rfl) rfl d_BM_term_72 ?_
  refine a_aload_n (pc := 73) 1 rfl rfl d_BM_term_73 ?_
  refine a_dup (pc := 74) rfl d_BM_term_74 ?_
  refine a_getI (pc := 75) fg_BM_214 sx_151 rfl d_BM_term_75 ?_
  refine a_iconst (pc := 78) (1 : Int32) (by decide) d_BM_term_78 ?_
  refine a_iadd (pc := 79) d_BM_term_79 ?_
  refine a_putI (pc := 80) fp_BM_214 sx_151 rfl d_BM_term_80 ?_
  refine a_nms (fun s1 hs1 => ?_)
  replace h := h s1 hs1
  refine a_aload_n (pc := 83) 1 rfl rfl d_BM_term_83 ?_
  refine a_callV (pc := 84) (M' := m_BM_value) (As := []) (st := []) (mc' := 0) (ms' := 0) lk_BM_272 rfl sx_151 rfl (by decide) (by decide) rfl (Nat.le_of_ble_eq_true rfl) (Nat.le_refl 0) (Nat.le_refl 0) d_BM_term_84 h ?_
  rintro _ _ s2 ⟨rfl, rfl, h⟩ -
  show Ax g m_BM_term 0 0 (ZV g Q) SH s2 0 0 87 [(1, .int z0), (0, .ref (gB g + 151))] []
  refine a_aload_n (pc := 87) 1 rfl rfl d_BM_term_87 ?_
  refine a_iload_n (pc := 88) 0 rfl rfl d_BM_term_88 ?_
  refine a_iconst (pc := 89) (0 : Int32) (by decide) d_BM_term_89 ?_
  refine a_callV (pc := 90) (M' := m_BM_entry) (As := [.int z0, .int (0 : Int32)]) (st := []) (mc' := 0) (ms' := 0) lk_BM_265 rfl sx_151 rfl (by decide) (by decide) rfl (Nat.le_of_ble_eq_true rfl) (Nat.le_refl 0) (Nat.le_refl 0) d_BM_term_90 h ?_
  rintro _ _ s3 ⟨rfl, rfl, h⟩ -
  show Ax g m_BM_term 0 0 (ZV g Q) SH s3 0 0 93 [(1, .int z0), (0, .ref (gB g + 151))] []
  refine a_aload_n (pc := 93) 1 rfl rfl d_BM_term_93 ?_
  refine a_callV (pc := 94) (M' := m_BM_blanks) (As := []) (st := []) (mc' := 0) (ms' := 0) lk_BM_234 rfl sx_151 rfl (by decide) (by decide) rfl (Nat.le_of_ble_eq_true rfl) (Nat.le_refl 0) (Nat.le_refl 0) d_BM_term_94 h ?_
  rintro _ _ s4 ⟨rfl, rfl, h⟩ -
  show Ax g m_BM_term 0 0 (ZV g Q) SH s4 0 0 97 [(1, .int z0), (0, .ref (gB g + 151))] []
  refine a_goto (pc := 97) 8 (by decide) d_BM_term_97 ?_
  refine a_sub (pc := 8) [1] rfl ?_
  exact h
theorem ko_BM_term {g : Gx}  {σ : St} {Q : St → Prop} (h : S_BM_term_0 g Q σ) : K_BM_term g  σ Q := KV.of (show plainName "BallBoxModel" = true by decide) (Nat.le_of_ble_eq_true rfl) h
theorem d_BM_sum_0 : decode c_BM_sum 0 = .ok (.aload_n 0, 1) := by decide +kernel
theorem d_BM_sum_1 : decode c_BM_sum 1 = .ok (.invokevirtual 275, 3) := by decide +kernel
theorem d_BM_sum_4 : decode c_BM_sum 4 = .ok (.aload_n 0, 1) := by decide +kernel
theorem d_BM_sum_5 : decode c_BM_sum 5 = .ok (.getfield 211, 3) := by decide +kernel
theorem d_BM_sum_8 : decode c_BM_sum 8 = .ok (.ifCond .ne 59, 3) := by decide +kernel
theorem d_BM_sum_11 : decode c_BM_sum 11 = .ok (.aload_n 0, 1) := by decide +kernel
theorem d_BM_sum_12 : decode c_BM_sum 12 = .ok (.invokevirtual 217, 3) := by decide +kernel
theorem d_BM_sum_15 : decode c_BM_sum 15 = .ok (.bipush 43, 2) := by decide +kernel
theorem d_BM_sum_17 : decode c_BM_sum 17 = .ok (.if_icmp .eq 12, 3) := by decide +kernel
theorem d_BM_sum_20 : decode c_BM_sum 20 = .ok (.aload_n 0, 1) := by decide +kernel
theorem d_BM_sum_21 : decode c_BM_sum 21 = .ok (.invokevirtual 217, 3) := by decide +kernel
theorem d_BM_sum_24 : decode c_BM_sum 24 = .ok (.bipush 45, 2) := by decide +kernel
theorem d_BM_sum_26 : decode c_BM_sum 26 = .ok (.if_icmp .ne 41, 3) := by decide +kernel
theorem d_BM_sum_29 : decode c_BM_sum 29 = .ok (.aload_n 0, 1) := by decide +kernel
theorem d_BM_sum_30 : decode c_BM_sum 30 = .ok (.invokevirtual 217, 3) := by decide +kernel
theorem d_BM_sum_33 : decode c_BM_sum 33 = .ok (.bipush 43, 2) := by decide +kernel
theorem d_BM_sum_35 : decode c_BM_sum 35 = .ok (.if_icmp .ne 7, 3) := by decide +kernel
theorem d_BM_sum_38 : decode c_BM_sum 38 = .ok (.iconst 2, 1) := by decide +kernel
theorem d_BM_sum_39 : decode c_BM_sum 39 = .ok (.goto 4, 3) := by decide +kernel
theorem d_BM_sum_42 : decode c_BM_sum 42 = .ok (.iconst 3, 1) := by decide +kernel
theorem d_BM_sum_43 : decode c_BM_sum 43 = .ok (.istore_n 1, 1) := by decide +kernel
theorem d_BM_sum_44 : decode c_BM_sum 44 = .ok (.aload_n 0, 1) := by decide +kernel
theorem d_BM_sum_45 : decode c_BM_sum 45 = .ok (.dup, 1) := by decide +kernel
theorem d_BM_sum_46 : decode c_BM_sum 46 = .ok (.getfield 214, 3) := by decide +kernel
theorem d_BM_sum_49 : decode c_BM_sum 49 = .ok (.iconst 1, 1) := by decide +kernel
theorem d_BM_sum_50 : decode c_BM_sum 50 = .ok (.iadd, 1) := by decide +kernel
theorem d_BM_sum_51 : decode c_BM_sum 51 = .ok (.putfield 214, 3) := by decide +kernel
theorem d_BM_sum_54 : decode c_BM_sum 54 = .ok (.aload_n 0, 1) := by decide +kernel
theorem d_BM_sum_55 : decode c_BM_sum 55 = .ok (.invokevirtual 275, 3) := by decide +kernel
theorem d_BM_sum_58 : decode c_BM_sum 58 = .ok (.aload_n 0, 1) := by decide +kernel
theorem d_BM_sum_59 : decode c_BM_sum 59 = .ok (.iload_n 1, 1) := by decide +kernel
theorem d_BM_sum_60 : decode c_BM_sum 60 = .ok (.iconst 0, 1) := by decide +kernel
theorem d_BM_sum_61 : decode c_BM_sum 61 = .ok (.invokevirtual 265, 3) := by decide +kernel
theorem d_BM_sum_64 : decode c_BM_sum 64 = .ok (.goto (-60), 3) := by decide +kernel
theorem d_BM_sum_67 : decode c_BM_sum 67 = .ok (.return_, 1) := by decide +kernel
def S_BM_sum_0 (g : Gx) (Q : St → Prop) (σ : St) : Prop := Ax g m_BM_sum 0 0 (ZV g Q) SH σ 0 0 0 [(0, .ref (gB g + 151))] []
def S_BM_sum_4 (g : Gx) (Q : St → Prop) (σ : St) : Prop := Ax g m_BM_sum 0 0 (ZV g Q) SH σ 0 0 4 [(0, .ref (gB g + 151))] []
def S_BM_sum_43 (g : Gx) (Q : St → Prop) (σ : St) (z0 : Int32) : Prop := Ax g m_BM_sum 0 0 (ZV g Q) SH σ 0 0 43 [(0, .ref (gB g + 151))] [.int z0]
theorem sg_BM_sum_0 {g : Gx} {Q : St → Prop} {σ : St}
    (h : K_BM_term g σ (fun s1 : St => S_BM_sum_4 g Q s1)) : S_BM_sum_0 g Q σ := by
  show Ax g m_BM_sum 0 0 (ZV g Q) SH σ 0 0 0 [(0, .ref (gB g + 151))] []
  refine a_aload_n (pc := 0) 0 rfl rfl d_BM_sum_0 ?_
  refine a_callV (pc := 1) (M' := m_BM_term) (As := []) (st := []) (mc' := 0) (ms' := 0) lk_BM_275 rfl sx_151 rfl (by decide) (by decide) rfl (Nat.le_of_ble_eq_true rfl) (Nat.le_refl 0) (Nat.le_refl 0) d_BM_sum_1 h ?_
  rintro _ _ s1 ⟨rfl, rfl, h⟩ -
  show Ax g m_BM_sum 0 0 (ZV g Q) SH s1 0 0 4 [(0, .ref (gB g + 151))] []
  refine a_sub (pc := 4) [0] rfl ?_
  exact h
theorem sg_BM_sum_4 {g : Gx} {Q : St → Prop} {σ : St}
    (h : (¬ (fi σ 151 13) = 0 → Q σ) ∧ ((fi σ 151 13) = 0 → K_BM_sign g σ (fun (r2 : Int32) (s1 : St) => (r2 = (43 : Int32) → K_BM_sign g s1 (fun (r4 : Int32) (s3 : St) => (¬ r4 = (43 : Int32) → S_BM_sum_43 g Q s3 (3 : Int32)) ∧ (r4 = (43 : Int32) → S_BM_sum_43 g Q s3 (2 : Int32)))) ∧ (¬ r2 = (43 : Int32) → K_BM_sign g s1 (fun (r6 : Int32) (s5 : St) => (¬ r6 = (45 : Int32) → Q s5) ∧ (r6 = (45 : Int32) → K_BM_sign g s5 (fun (r8 : Int32) (s7 : St) => (¬ r8 = (43 : Int32) → S_BM_sum_43 g Q s7 (3 : Int32)) ∧ (r8 = (43 : Int32) → S_BM_sum_43 g Q s7 (2 : Int32))))))))) : S_BM_sum_4 g Q σ := by
  show Ax g m_BM_sum 0 0 (ZV g Q) SH σ 0 0 4 [(0, .ref (gB g + 151))] []
  refine a_aload_n (pc := 4) 0 rfl rfl d_BM_sum_4 ?_
  refine a_getI (pc := 5) fg_BM_211 sx_151 rfl d_BM_sum_5 ?_
  refine a_if_ne (pc := 8) 67 (by decide) d_BM_sum_8 ⟨fun c0 => ?_, fun c0 => ?_⟩
  · replace h := h.1 c0
    exact b_vret (pc := 67) rfl d_BM_sum_67 h
  · replace h := h.2 c0
    refine a_aload_n (pc := 11) 0 rfl rfl d_BM_sum_11 ?_
    refine a_callV (pc := 12) (M' := m_BM_sign) (As := []) (st := []) (mc' := 0) (ms' := 0) lk_BM_217 rfl sx_151 rfl (by decide) (by decide) rfl (Nat.le_of_ble_eq_true rfl) (Nat.le_refl 0) (Nat.le_refl 0) d_BM_sum_12 h ?_
    rintro _ _ s1 ⟨r2, rfl, rfl, h⟩ -
    show Ax g m_BM_sum 0 0 (ZV g Q) SH s1 0 0 15 [(0, .ref (gB g + 151))] [.int r2]
    refine a_bipush (pc := 15) (43 : Int32) (by decide) d_BM_sum_15 ?_
    refine a_icmp_eq (pc := 17) 29 (by decide) d_BM_sum_17 ⟨fun c0 => ?_, fun c0 => ?_⟩
    · replace h := h.1 c0
      refine a_aload_n (pc := 29) 0 rfl rfl d_BM_sum_29 ?_
      refine a_callV (pc := 30) (M' := m_BM_sign) (As := []) (st := []) (mc' := 0) (ms' := 0) lk_BM_217 rfl sx_151 rfl (by decide) (by decide) rfl (Nat.le_of_ble_eq_true rfl) (Nat.le_refl 0) (Nat.le_refl 0) d_BM_sum_30 h ?_
      rintro _ _ s3 ⟨r4, rfl, rfl, h⟩ -
      show Ax g m_BM_sum 0 0 (ZV g Q) SH s3 0 0 33 [(0, .ref (gB g + 151))] [.int r4]
      refine a_bipush (pc := 33) (43 : Int32) (by decide) d_BM_sum_33 ?_
      refine a_icmp_ne (pc := 35) 42 (by decide) d_BM_sum_35 ⟨fun c0 => ?_, fun c0 => ?_⟩
      · replace h := h.1 c0
        refine a_iconst (pc := 42) (3 : Int32) (by decide) d_BM_sum_42 ?_
        refine a_sub (pc := 43) [0] rfl ?_
        exact h
      · replace h := h.2 c0
        refine a_iconst (pc := 38) (2 : Int32) (by decide) d_BM_sum_38 ?_
        refine a_goto (pc := 39) 43 (by decide) d_BM_sum_39 ?_
        refine a_sub (pc := 43) [0] rfl ?_
        exact h
    · replace h := h.2 c0
      refine a_aload_n (pc := 20) 0 rfl rfl d_BM_sum_20 ?_
      refine a_callV (pc := 21) (M' := m_BM_sign) (As := []) (st := []) (mc' := 0) (ms' := 0) lk_BM_217 rfl sx_151 rfl (by decide) (by decide) rfl (Nat.le_of_ble_eq_true rfl) (Nat.le_refl 0) (Nat.le_refl 0) d_BM_sum_21 h ?_
      rintro _ _ s5 ⟨r6, rfl, rfl, h⟩ -
      show Ax g m_BM_sum 0 0 (ZV g Q) SH s5 0 0 24 [(0, .ref (gB g + 151))] [.int r6]
      refine a_bipush (pc := 24) (45 : Int32) (by decide) d_BM_sum_24 ?_
      refine a_icmp_ne (pc := 26) 67 (by decide) d_BM_sum_26 ⟨fun c0 => ?_, fun c0 => ?_⟩
      · replace h := h.1 c0
        exact b_vret (pc := 67) rfl d_BM_sum_67 h
      · replace h := h.2 c0
        refine a_aload_n (pc := 29) 0 rfl rfl d_BM_sum_29 ?_
        refine a_callV (pc := 30) (M' := m_BM_sign) (As := []) (st := []) (mc' := 0) (ms' := 0) lk_BM_217 rfl sx_151 rfl (by decide) (by decide) rfl (Nat.le_of_ble_eq_true rfl) (Nat.le_refl 0) (Nat.le_refl 0) d_BM_sum_30 h ?_
        rintro _ _ s7 ⟨r8, rfl, rfl, h⟩ -
        show Ax g m_BM_sum 0 0 (ZV g Q) SH s7 0 0 33 [(0, .ref (gB g + 151))] [.int r8]
        refine a_bipush (pc := 33) (43 : Int32) (by decide) d_BM_sum_33 ?_
        refine a_icmp_ne (pc := 35) 42 (by decide) d_BM_sum_35 ⟨fun c0 => ?_, fun c0 => ?_⟩
        · replace h := h.1 c0
          refine a_iconst (pc := 42) (3 : Int32) (by decide) d_BM_sum_42 ?_
          refine a_sub (pc := 43) [0] rfl ?_
          exact h
        · replace h := h.2 c0
          refine a_iconst (pc := 38) (2 : Int32) (by decide) d_BM_sum_38 ?_
          refine a_goto (pc := 39) 43 (by decide) d_BM_sum_39 ?_
          refine a_sub (pc := 43) [0] rfl ?_
          exact h
theorem sg_BM_sum_43 {g : Gx} {Q : St → Prop} {σ : St} {z0 : Int32}
    (h : ∀ s1 : St, s1 = sfi σ 151 12 ((fi σ 151 12) + (1 : Int32)) → K_BM_term g s1 (fun s2 : St => K_BM_entry g z0 (0 : Int32) s2 (fun s3 : St => S_BM_sum_4 g Q s3))) : S_BM_sum_43 g Q σ z0 := by
  show Ax g m_BM_sum 0 0 (ZV g Q) SH σ 0 0 43 [(0, .ref (gB g + 151))] [.int z0]
  refine a_istore_n (pc := 43) (lv' := [(1, .int z0), (0, .ref (gB g + 151))]) rfl (Nat.le_of_ble_eq_true rfl) rfl d_BM_sum_43 ?_
  refine a_aload_n (pc := 44) 1 rfl rfl d_BM_sum_44 ?_
  refine a_dup (pc := 45) rfl d_BM_sum_45 ?_
  refine a_getI (pc := 46) fg_BM_214 sx_151 rfl d_BM_sum_46 ?_
  refine a_iconst (pc := 49) (1 : Int32) (by decide) d_BM_sum_49 ?_
  refine a_iadd (pc := 50) d_BM_sum_50 ?_
  refine a_putI (pc := 51) fp_BM_214 sx_151 rfl d_BM_sum_51 ?_
  refine a_nms (fun s1 hs1 => ?_)
  replace h := h s1 hs1
  refine a_aload_n (pc := 54) 1 rfl rfl d_BM_sum_54 ?_
  refine a_callV (pc := 55) (M' := m_BM_term) (As := []) (st := []) (mc' := 0) (ms' := 0) lk_BM_275 rfl sx_151 rfl (by decide) (by decide) rfl (Nat.le_of_ble_eq_true rfl) (Nat.le_refl 0) (Nat.le_refl 0) d_BM_sum_55 h ?_
  rintro _ _ s2 ⟨rfl, rfl, h⟩ -
  show Ax g m_BM_sum 0 0 (ZV g Q) SH s2 0 0 58 [(1, .int z0), (0, .ref (gB g + 151))] []
  refine a_aload_n (pc := 58) 1 rfl rfl d_BM_sum_58 ?_
  refine a_iload_n (pc := 59) 0 rfl rfl d_BM_sum_59 ?_
  refine a_iconst (pc := 60) (0 : Int32) (by decide) d_BM_sum_60 ?_
  refine a_callV (pc := 61) (M' := m_BM_entry) (As := [.int z0, .int (0 : Int32)]) (st := []) (mc' := 0) (ms' := 0) lk_BM_265 rfl sx_151 rfl (by decide) (by decide) rfl (Nat.le_of_ble_eq_true rfl) (Nat.le_refl 0) (Nat.le_refl 0) d_BM_sum_61 h ?_
  rintro _ _ s3 ⟨rfl, rfl, h⟩ -
  show Ax g m_BM_sum 0 0 (ZV g Q) SH s3 0 0 64 [(1, .int z0), (0, .ref (gB g + 151))] []
  refine a_goto (pc := 64) 4 (by decide) d_BM_sum_64 ?_
  refine a_sub (pc := 4) [1] rfl ?_
  exact h
theorem ko_BM_sum {g : Gx}  {σ : St} {Q : St → Prop} (h : S_BM_sum_0 g Q σ) : K_BM_sum g  σ Q := KV.of (show plainName "BallBoxModel" = true by decide) (Nat.le_of_ble_eq_true rfl) h
theorem d_BM_compared_0 : decode c_BM_compared 0 = .ok (.aload_n 0, 1) := by decide +kernel
theorem d_BM_compared_1 : decode c_BM_compared 1 = .ok (.invokevirtual 278, 3) := by decide +kernel
theorem d_BM_compared_4 : decode c_BM_compared 4 = .ok (.aload_n 0, 1) := by decide +kernel
theorem d_BM_compared_5 : decode c_BM_compared 5 = .ok (.invokevirtual 217, 3) := by decide +kernel
theorem d_BM_compared_8 : decode c_BM_compared 8 = .ok (.istore_n 1, 1) := by decide +kernel
theorem d_BM_compared_9 : decode c_BM_compared 9 = .ok (.iload_n 1, 1) := by decide +kernel
theorem d_BM_compared_10 : decode c_BM_compared 10 = .ok (.bipush 60, 2) := by decide +kernel
theorem d_BM_compared_12 : decode c_BM_compared 12 = .ok (.if_icmp .eq 25, 3) := by decide +kernel
theorem d_BM_compared_15 : decode c_BM_compared 15 = .ok (.iload_n 1, 1) := by decide +kernel
theorem d_BM_compared_16 : decode c_BM_compared 16 = .ok (.bipush 61, 2) := by decide +kernel
theorem d_BM_compared_18 : decode c_BM_compared 18 = .ok (.if_icmp .eq 19, 3) := by decide +kernel
theorem d_BM_compared_21 : decode c_BM_compared 21 = .ok (.iload_n 1, 1) := by decide +kernel
theorem d_BM_compared_22 : decode c_BM_compared 22 = .ok (.bipush 62, 2) := by decide +kernel
theorem d_BM_compared_24 : decode c_BM_compared 24 = .ok (.if_icmp .eq 13, 3) := by decide +kernel
theorem d_BM_compared_27 : decode c_BM_compared 27 = .ok (.aload_n 0, 1) := by decide +kernel
theorem d_BM_compared_28 : decode c_BM_compared 28 = .ok (.iconst 0, 1) := by decide +kernel
theorem d_BM_compared_29 : decode c_BM_compared 29 = .ok (.aload_n 0, 1) := by decide +kernel
theorem d_BM_compared_30 : decode c_BM_compared 30 = .ok (.getfield 214, 3) := by decide +kernel
theorem d_BM_compared_33 : decode c_BM_compared 33 = .ok (.invokevirtual 250, 3) := by decide +kernel
theorem d_BM_compared_36 : decode c_BM_compared 36 = .ok (.return_, 1) := by decide +kernel
theorem d_BM_compared_37 : decode c_BM_compared 37 = .ok (.aload_n 0, 1) := by decide +kernel
theorem d_BM_compared_38 : decode c_BM_compared 38 = .ok (.aload_n 0, 1) := by decide +kernel
theorem d_BM_compared_39 : decode c_BM_compared 39 = .ok (.getfield 214, 3) := by decide +kernel
theorem d_BM_compared_42 : decode c_BM_compared 42 = .ok (.invokevirtual 262, 3) := by decide +kernel
theorem d_BM_compared_45 : decode c_BM_compared 45 = .ok (.aload_n 0, 1) := by decide +kernel
theorem d_BM_compared_46 : decode c_BM_compared 46 = .ok (.dup, 1) := by decide +kernel
theorem d_BM_compared_47 : decode c_BM_compared 47 = .ok (.getfield 214, 3) := by decide +kernel
theorem d_BM_compared_50 : decode c_BM_compared 50 = .ok (.iconst 1, 1) := by decide +kernel
theorem d_BM_compared_51 : decode c_BM_compared 51 = .ok (.iadd, 1) := by decide +kernel
theorem d_BM_compared_52 : decode c_BM_compared 52 = .ok (.putfield 214, 3) := by decide +kernel
theorem d_BM_compared_55 : decode c_BM_compared 55 = .ok (.iload_n 1, 1) := by decide +kernel
theorem d_BM_compared_56 : decode c_BM_compared 56 = .ok (.bipush 61, 2) := by decide +kernel
theorem d_BM_compared_58 : decode c_BM_compared 58 = .ok (.if_icmp .eq 16, 3) := by decide +kernel
theorem d_BM_compared_61 : decode c_BM_compared 61 = .ok (.aload_n 0, 1) := by decide +kernel
theorem d_BM_compared_62 : decode c_BM_compared 62 = .ok (.invokevirtual 217, 3) := by decide +kernel
theorem d_BM_compared_65 : decode c_BM_compared 65 = .ok (.bipush 61, 2) := by decide +kernel
theorem d_BM_compared_67 : decode c_BM_compared 67 = .ok (.if_icmp .ne 7, 3) := by decide +kernel
theorem d_BM_compared_70 : decode c_BM_compared 70 = .ok (.iconst 1, 1) := by decide +kernel
theorem d_BM_compared_71 : decode c_BM_compared 71 = .ok (.goto 4, 3) := by decide +kernel
theorem d_BM_compared_74 : decode c_BM_compared 74 = .ok (.iconst 0, 1) := by decide +kernel
theorem d_BM_compared_75 : decode c_BM_compared 75 = .ok (.istore_n 2, 1) := by decide +kernel
theorem d_BM_compared_76 : decode c_BM_compared 76 = .ok (.aload_n 0, 1) := by decide +kernel
theorem d_BM_compared_77 : decode c_BM_compared 77 = .ok (.dup, 1) := by decide +kernel
theorem d_BM_compared_78 : decode c_BM_compared 78 = .ok (.getfield 214, 3) := by decide +kernel
theorem d_BM_compared_81 : decode c_BM_compared 81 = .ok (.iload_n 2, 1) := by decide +kernel
theorem d_BM_compared_82 : decode c_BM_compared 82 = .ok (.ifCond .eq 7, 3) := by decide +kernel
theorem d_BM_compared_85 : decode c_BM_compared 85 = .ok (.iconst 1, 1) := by decide +kernel
theorem d_BM_compared_86 : decode c_BM_compared 86 = .ok (.goto 4, 3) := by decide +kernel
theorem d_BM_compared_89 : decode c_BM_compared 89 = .ok (.iconst 0, 1) := by decide +kernel
theorem d_BM_compared_90 : decode c_BM_compared 90 = .ok (.iadd, 1) := by decide +kernel
theorem d_BM_compared_91 : decode c_BM_compared 91 = .ok (.putfield 214, 3) := by decide +kernel
theorem d_BM_compared_94 : decode c_BM_compared 94 = .ok (.aload_n 0, 1) := by decide +kernel
theorem d_BM_compared_95 : decode c_BM_compared 95 = .ok (.invokevirtual 278, 3) := by decide +kernel
theorem d_BM_compared_98 : decode c_BM_compared 98 = .ok (.aload_n 0, 1) := by decide +kernel
theorem d_BM_compared_99 : decode c_BM_compared 99 = .ok (.iload_n 1, 1) := by decide +kernel
theorem d_BM_compared_100 : decode c_BM_compared 100 = .ok (.bipush 61, 2) := by decide +kernel
theorem d_BM_compared_102 : decode c_BM_compared 102 = .ok (.if_icmp .ne 8, 3) := by decide +kernel
theorem d_BM_compared_105 : decode c_BM_compared 105 = .ok (.bipush 6, 2) := by decide +kernel
theorem d_BM_compared_107 : decode c_BM_compared 107 = .ok (.goto 32, 3) := by decide +kernel
theorem d_BM_compared_110 : decode c_BM_compared 110 = .ok (.iload_n 1, 1) := by decide +kernel
theorem d_BM_compared_111 : decode c_BM_compared 111 = .ok (.bipush 60, 2) := by decide +kernel
theorem d_BM_compared_113 : decode c_BM_compared 113 = .ok (.if_icmp .ne 15, 3) := by decide +kernel
theorem d_BM_compared_116 : decode c_BM_compared 116 = .ok (.iload_n 2, 1) := by decide +kernel
theorem d_BM_compared_117 : decode c_BM_compared 117 = .ok (.ifCond .eq 7, 3) := by decide +kernel
theorem d_BM_compared_120 : decode c_BM_compared 120 = .ok (.iconst 5, 1) := by decide +kernel
theorem d_BM_compared_121 : decode c_BM_compared 121 = .ok (.goto 18, 3) := by decide +kernel
theorem d_BM_compared_124 : decode c_BM_compared 124 = .ok (.iconst 4, 1) := by decide +kernel
theorem d_BM_compared_125 : decode c_BM_compared 125 = .ok (.goto 14, 3) := by decide +kernel
theorem d_BM_compared_128 : decode c_BM_compared 128 = .ok (.iload_n 2, 1) := by decide +kernel
theorem d_BM_compared_129 : decode c_BM_compared 129 = .ok (.ifCond .eq 8, 3) := by decide +kernel
theorem d_BM_compared_132 : decode c_BM_compared 132 = .ok (.bipush 7, 2) := by decide +kernel
theorem d_BM_compared_134 : decode c_BM_compared 134 = .ok (.goto 5, 3) := by decide +kernel
theorem d_BM_compared_137 : decode c_BM_compared 137 = .ok (.bipush 8, 2) := by decide +kernel
theorem d_BM_compared_139 : decode c_BM_compared 139 = .ok (.iconst 0, 1) := by decide +kernel
theorem d_BM_compared_140 : decode c_BM_compared 140 = .ok (.invokevirtual 265, 3) := by decide +kernel
theorem d_BM_compared_143 : decode c_BM_compared 143 = .ok (.return_, 1) := by decide +kernel
def S_BM_compared_0 (g : Gx) (Q : St → Prop) (σ : St) : Prop := Ax g m_BM_compared 0 0 (ZV g Q) SH σ 0 0 0 [(0, .ref (gB g + 151))] []
def S_BM_compared_37 (g : Gx) (Q : St → Prop) (σ : St) (x1 : Int32) : Prop := Ax g m_BM_compared 0 0 (ZV g Q) SH σ 0 0 37 [(0, .ref (gB g + 151)), (1, .int x1)] []
def S_BM_compared_90 (g : Gx) (Q : St → Prop) (σ : St) (x1 : Int32) (x2 : Int32) (z0 : Int32) (z1 : Int32) : Prop := Ax g m_BM_compared 0 0 (ZV g Q) SH σ 0 0 90 [(0, .ref (gB g + 151)), (1, .int x1), (2, .int x2)] [.int z0, .int z1, .ref (gB g + 151)]
theorem sg_BM_compared_0 {g : Gx} {Q : St → Prop} {σ : St}
    (h : K_BM_sum g σ (fun s1 : St => K_BM_sign g s1 (fun (r3 : Int32) (s2 : St) => (r3 = (60 : Int32) → S_BM_compared_37 g Q s2 r3) ∧ (¬ r3 = (60 : Int32) → (r3 = (61 : Int32) → S_BM_compared_37 g Q s2 r3) ∧ (¬ r3 = (61 : Int32) → (r3 = (62 : Int32) → S_BM_compared_37 g Q s2 r3) ∧ (¬ r3 = (62 : Int32) → K_BM_fails g (0 : Int32) (fi s2 151 12) s2 (fun s4 : St => Q s4))))))) : S_BM_compared_0 g Q σ := by
  show Ax g m_BM_compared 0 0 (ZV g Q) SH σ 0 0 0 [(0, .ref (gB g + 151))] []
  refine a_aload_n (pc := 0) 0 rfl rfl d_BM_compared_0 ?_
  refine a_callV (pc := 1) (M' := m_BM_sum) (As := []) (st := []) (mc' := 0) (ms' := 0) lk_BM_278 rfl sx_151 rfl (by decide) (by decide) rfl (Nat.le_of_ble_eq_true rfl) (Nat.le_refl 0) (Nat.le_refl 0) d_BM_compared_1 h ?_
  rintro _ _ s1 ⟨rfl, rfl, h⟩ -
  show Ax g m_BM_compared 0 0 (ZV g Q) SH s1 0 0 4 [(0, .ref (gB g + 151))] []
  refine a_aload_n (pc := 4) 0 rfl rfl d_BM_compared_4 ?_
  refine a_callV (pc := 5) (M' := m_BM_sign) (As := []) (st := []) (mc' := 0) (ms' := 0) lk_BM_217 rfl sx_151 rfl (by decide) (by decide) rfl (Nat.le_of_ble_eq_true rfl) (Nat.le_refl 0) (Nat.le_refl 0) d_BM_compared_5 h ?_
  rintro _ _ s2 ⟨r3, rfl, rfl, h⟩ -
  show Ax g m_BM_compared 0 0 (ZV g Q) SH s2 0 0 8 [(0, .ref (gB g + 151))] [.int r3]
  refine a_istore_n (pc := 8) (lv' := [(1, .int r3), (0, .ref (gB g + 151))]) rfl (Nat.le_of_ble_eq_true rfl) rfl d_BM_compared_8 ?_
  refine a_iload_n (pc := 9) 0 rfl rfl d_BM_compared_9 ?_
  refine a_bipush (pc := 10) (60 : Int32) (by decide) d_BM_compared_10 ?_
  refine a_icmp_eq (pc := 12) 37 (by decide) d_BM_compared_12 ⟨fun c0 => ?_, fun c0 => ?_⟩
  · replace h := h.1 c0
    refine a_sub (pc := 37) [1, 0] rfl ?_
    exact h
  · replace h := h.2 c0
    refine a_iload_n (pc := 15) 0 rfl rfl d_BM_compared_15 ?_
    refine a_bipush (pc := 16) (61 : Int32) (by decide) d_BM_compared_16 ?_
    refine a_icmp_eq (pc := 18) 37 (by decide) d_BM_compared_18 ⟨fun c0 => ?_, fun c0 => ?_⟩
    · replace h := h.1 c0
      refine a_sub (pc := 37) [1, 0] rfl ?_
      exact h
    · replace h := h.2 c0
      refine a_iload_n (pc := 21) 0 rfl rfl d_BM_compared_21 ?_
      refine a_bipush (pc := 22) (62 : Int32) (by decide) d_BM_compared_22 ?_
      refine a_icmp_eq (pc := 24) 37 (by decide) d_BM_compared_24 ⟨fun c0 => ?_, fun c0 => ?_⟩
      · replace h := h.1 c0
        refine a_sub (pc := 37) [1, 0] rfl ?_
        exact h
      · replace h := h.2 c0
        refine a_aload_n (pc := 27) 1 rfl rfl d_BM_compared_27 ?_
        refine a_iconst (pc := 28) (0 : Int32) (by decide) d_BM_compared_28 ?_
        refine a_aload_n (pc := 29) 1 rfl rfl d_BM_compared_29 ?_
        refine a_getI (pc := 30) fg_BM_214 sx_151 rfl d_BM_compared_30 ?_
        refine a_callV (pc := 33) (M' := m_BM_fails) (As := [.int (0 : Int32), .int (fi s2 151 12)]) (st := []) (mc' := 0) (ms' := 0) lk_BM_250 rfl sx_151 rfl (by decide) (by decide) rfl (Nat.le_of_ble_eq_true rfl) (Nat.le_refl 0) (Nat.le_refl 0) d_BM_compared_33 h ?_
        rintro _ _ s4 ⟨rfl, rfl, h⟩ -
        show Ax g m_BM_compared 0 0 (ZV g Q) SH s4 0 0 36 [(1, .int r3), (0, .ref (gB g + 151))] []
        exact b_vret (pc := 36) rfl d_BM_compared_36 h
theorem sg_BM_compared_37 {g : Gx} {Q : St → Prop} {σ : St} {x1 : Int32}
    (h : K_BM_isCounted g (fi σ 151 12) σ (fun s1 : St => ∀ s2 : St, s2 = sfi s1 151 12 ((fi s1 151 12) + (1 : Int32)) → (x1 = (61 : Int32) → S_BM_compared_90 g Q s2 x1 (0 : Int32) (0 : Int32) (fi s2 151 12)) ∧ (¬ x1 = (61 : Int32) → K_BM_sign g s2 (fun (r4 : Int32) (s3 : St) => (¬ r4 = (61 : Int32) → S_BM_compared_90 g Q s3 x1 (0 : Int32) (0 : Int32) (fi s3 151 12)) ∧ (r4 = (61 : Int32) → S_BM_compared_90 g Q s3 x1 (1 : Int32) (1 : Int32) (fi s3 151 12)))))) : S_BM_compared_37 g Q σ x1 := by
  show Ax g m_BM_compared 0 0 (ZV g Q) SH σ 0 0 37 [(0, .ref (gB g + 151)), (1, .int x1)] []
  refine a_aload_n (pc := 37) 0 rfl rfl d_BM_compared_37 ?_
  refine a_aload_n (pc := 38) 0 rfl rfl d_BM_compared_38 ?_
  refine a_getI (pc := 39) fg_BM_214 sx_151 rfl d_BM_compared_39 ?_
  refine a_callV (pc := 42) (M' := m_BM_isCounted) (As := [.int (fi σ 151 12)]) (st := []) (mc' := 0) (ms' := 0) lk_BM_262 rfl sx_151 rfl (by decide) (by decide) rfl (Nat.le_of_ble_eq_true rfl) (Nat.le_refl 0) (Nat.le_refl 0) d_BM_compared_42 h ?_
  rintro _ _ s1 ⟨rfl, rfl, h⟩ -
  show Ax g m_BM_compared 0 0 (ZV g Q) SH s1 0 0 45 [(0, .ref (gB g + 151)), (1, .int x1)] []
  refine a_aload_n (pc := 45) 0 rfl rfl d_BM_compared_45 ?_
  refine a_dup (pc := 46) rfl d_BM_compared_46 ?_
  refine a_getI (pc := 47) fg_BM_214 sx_151 rfl d_BM_compared_47 ?_
  refine a_iconst (pc := 50) (1 : Int32) (by decide) d_BM_compared_50 ?_
  refine a_iadd (pc := 51) d_BM_compared_51 ?_
  refine a_putI (pc := 52) fp_BM_214 sx_151 rfl d_BM_compared_52 ?_
  refine a_nms (fun s2 hs2 => ?_)
  replace h := h s2 hs2
  refine a_iload_n (pc := 55) 1 rfl rfl d_BM_compared_55 ?_
  refine a_bipush (pc := 56) (61 : Int32) (by decide) d_BM_compared_56 ?_
  refine a_icmp_eq (pc := 58) 74 (by decide) d_BM_compared_58 ⟨fun c0 => ?_, fun c0 => ?_⟩
  · replace h := h.1 c0
    refine a_iconst (pc := 74) (0 : Int32) (by decide) d_BM_compared_74 ?_
    refine a_istore_n (pc := 75) (lv' := [(2, .int (0 : Int32)), (0, .ref (gB g + 151)), (1, .int x1)]) rfl (Nat.le_of_ble_eq_true rfl) rfl d_BM_compared_75 ?_
    refine a_aload_n (pc := 76) 1 rfl rfl d_BM_compared_76 ?_
    refine a_dup (pc := 77) rfl d_BM_compared_77 ?_
    refine a_getI (pc := 78) fg_BM_214 sx_151 rfl d_BM_compared_78 ?_
    refine a_iload_n (pc := 81) 0 rfl rfl d_BM_compared_81 ?_
    refine a_if_eq (pc := 82) 89 (by decide) d_BM_compared_82 ⟨fun _ => ?_, fun c0 => absurd c0 (by decide)⟩
    refine a_iconst (pc := 89) (0 : Int32) (by decide) d_BM_compared_89 ?_
    refine a_sub (pc := 90) [1, 2, 0] rfl ?_
    exact h
  · replace h := h.2 c0
    refine a_aload_n (pc := 61) 0 rfl rfl d_BM_compared_61 ?_
    refine a_callV (pc := 62) (M' := m_BM_sign) (As := []) (st := []) (mc' := 0) (ms' := 0) lk_BM_217 rfl sx_151 rfl (by decide) (by decide) rfl (Nat.le_of_ble_eq_true rfl) (Nat.le_refl 0) (Nat.le_refl 0) d_BM_compared_62 h ?_
    rintro _ _ s3 ⟨r4, rfl, rfl, h⟩ -
    show Ax g m_BM_compared 0 0 (ZV g Q) SH s3 0 0 65 [(0, .ref (gB g + 151)), (1, .int x1)] [.int r4]
    refine a_bipush (pc := 65) (61 : Int32) (by decide) d_BM_compared_65 ?_
    refine a_icmp_ne (pc := 67) 74 (by decide) d_BM_compared_67 ⟨fun c0 => ?_, fun c0 => ?_⟩
    · replace h := h.1 c0
      refine a_iconst (pc := 74) (0 : Int32) (by decide) d_BM_compared_74 ?_
      refine a_istore_n (pc := 75) (lv' := [(2, .int (0 : Int32)), (0, .ref (gB g + 151)), (1, .int x1)]) rfl (Nat.le_of_ble_eq_true rfl) rfl d_BM_compared_75 ?_
      refine a_aload_n (pc := 76) 1 rfl rfl d_BM_compared_76 ?_
      refine a_dup (pc := 77) rfl d_BM_compared_77 ?_
      refine a_getI (pc := 78) fg_BM_214 sx_151 rfl d_BM_compared_78 ?_
      refine a_iload_n (pc := 81) 0 rfl rfl d_BM_compared_81 ?_
      refine a_if_eq (pc := 82) 89 (by decide) d_BM_compared_82 ⟨fun _ => ?_, fun c0 => absurd c0 (by decide)⟩
      refine a_iconst (pc := 89) (0 : Int32) (by decide) d_BM_compared_89 ?_
      refine a_sub (pc := 90) [1, 2, 0] rfl ?_
      exact h
    · replace h := h.2 c0
      refine a_iconst (pc := 70) (1 : Int32) (by decide) d_BM_compared_70 ?_
      refine a_goto (pc := 71) 75 (by decide) d_BM_compared_71 ?_
      refine a_istore_n (pc := 75) (lv' := [(2, .int (1 : Int32)), (0, .ref (gB g + 151)), (1, .int x1)]) rfl (Nat.le_of_ble_eq_true rfl) rfl d_BM_compared_75 ?_
      refine a_aload_n (pc := 76) 1 rfl rfl d_BM_compared_76 ?_
      refine a_dup (pc := 77) rfl d_BM_compared_77 ?_
      refine a_getI (pc := 78) fg_BM_214 sx_151 rfl d_BM_compared_78 ?_
      refine a_iload_n (pc := 81) 0 rfl rfl d_BM_compared_81 ?_
      refine a_if_eq (pc := 82) 89 (by decide) d_BM_compared_82 ⟨fun c0 => absurd c0 (by decide), fun _ => ?_⟩
      refine a_iconst (pc := 85) (1 : Int32) (by decide) d_BM_compared_85 ?_
      refine a_goto (pc := 86) 90 (by decide) d_BM_compared_86 ?_
      refine a_sub (pc := 90) [1, 2, 0] rfl ?_
      exact h
theorem sg_BM_compared_90 {g : Gx} {Q : St → Prop} {σ : St} {x1 : Int32} {x2 : Int32} {z0 : Int32} {z1 : Int32}
    (h : ∀ s1 : St, s1 = sfi σ 151 12 (z1 + z0) → K_BM_sum g s1 (fun s2 : St => (¬ x1 = (61 : Int32) → (¬ x1 = (60 : Int32) → (x2 = 0 → K_BM_entry g (8 : Int32) (0 : Int32) s2 (fun s3 : St => Q s3)) ∧ (¬ x2 = 0 → K_BM_entry g (7 : Int32) (0 : Int32) s2 (fun s4 : St => Q s4))) ∧ (x1 = (60 : Int32) → (x2 = 0 → K_BM_entry g (4 : Int32) (0 : Int32) s2 (fun s5 : St => Q s5)) ∧ (¬ x2 = 0 → K_BM_entry g (5 : Int32) (0 : Int32) s2 (fun s6 : St => Q s6)))) ∧ (x1 = (61 : Int32) → K_BM_entry g (6 : Int32) (0 : Int32) s2 (fun s7 : St => Q s7)))) : S_BM_compared_90 g Q σ x1 x2 z0 z1 := by
  show Ax g m_BM_compared 0 0 (ZV g Q) SH σ 0 0 90 [(0, .ref (gB g + 151)), (1, .int x1), (2, .int x2)] [.int z0, .int z1, .ref (gB g + 151)]
  refine a_iadd (pc := 90) d_BM_compared_90 ?_
  refine a_putI (pc := 91) fp_BM_214 sx_151 rfl d_BM_compared_91 ?_
  refine a_nms (fun s1 hs1 => ?_)
  replace h := h s1 hs1
  refine a_aload_n (pc := 94) 0 rfl rfl d_BM_compared_94 ?_
  refine a_callV (pc := 95) (M' := m_BM_sum) (As := []) (st := []) (mc' := 0) (ms' := 0) lk_BM_278 rfl sx_151 rfl (by decide) (by decide) rfl (Nat.le_of_ble_eq_true rfl) (Nat.le_refl 0) (Nat.le_refl 0) d_BM_compared_95 h ?_
  rintro _ _ s2 ⟨rfl, rfl, h⟩ -
  show Ax g m_BM_compared 0 0 (ZV g Q) SH s2 0 0 98 [(0, .ref (gB g + 151)), (1, .int x1), (2, .int x2)] []
  refine a_aload_n (pc := 98) 0 rfl rfl d_BM_compared_98 ?_
  refine a_iload_n (pc := 99) 1 rfl rfl d_BM_compared_99 ?_
  refine a_bipush (pc := 100) (61 : Int32) (by decide) d_BM_compared_100 ?_
  refine a_icmp_ne (pc := 102) 110 (by decide) d_BM_compared_102 ⟨fun c0 => ?_, fun c0 => ?_⟩
  · replace h := h.1 c0
    refine a_iload_n (pc := 110) 1 rfl rfl d_BM_compared_110 ?_
    refine a_bipush (pc := 111) (60 : Int32) (by decide) d_BM_compared_111 ?_
    refine a_icmp_ne (pc := 113) 128 (by decide) d_BM_compared_113 ⟨fun c0 => ?_, fun c0 => ?_⟩
    · replace h := h.1 c0
      refine a_iload_n (pc := 128) 2 rfl rfl d_BM_compared_128 ?_
      refine a_if_eq (pc := 129) 137 (by decide) d_BM_compared_129 ⟨fun c0 => ?_, fun c0 => ?_⟩
      · replace h := h.1 c0
        refine a_bipush (pc := 137) (8 : Int32) (by decide) d_BM_compared_137 ?_
        refine a_iconst (pc := 139) (0 : Int32) (by decide) d_BM_compared_139 ?_
        refine a_callV (pc := 140) (M' := m_BM_entry) (As := [.int (8 : Int32), .int (0 : Int32)]) (st := []) (mc' := 0) (ms' := 0) lk_BM_265 rfl sx_151 rfl (by decide) (by decide) rfl (Nat.le_of_ble_eq_true rfl) (Nat.le_refl 0) (Nat.le_refl 0) d_BM_compared_140 h ?_
        rintro _ _ s3 ⟨rfl, rfl, h⟩ -
        show Ax g m_BM_compared 0 0 (ZV g Q) SH s3 0 0 143 [(0, .ref (gB g + 151)), (1, .int x1), (2, .int x2)] []
        exact b_vret (pc := 143) rfl d_BM_compared_143 h
      · replace h := h.2 c0
        refine a_bipush (pc := 132) (7 : Int32) (by decide) d_BM_compared_132 ?_
        refine a_goto (pc := 134) 139 (by decide) d_BM_compared_134 ?_
        refine a_iconst (pc := 139) (0 : Int32) (by decide) d_BM_compared_139 ?_
        refine a_callV (pc := 140) (M' := m_BM_entry) (As := [.int (7 : Int32), .int (0 : Int32)]) (st := []) (mc' := 0) (ms' := 0) lk_BM_265 rfl sx_151 rfl (by decide) (by decide) rfl (Nat.le_of_ble_eq_true rfl) (Nat.le_refl 0) (Nat.le_refl 0) d_BM_compared_140 h ?_
        rintro _ _ s4 ⟨rfl, rfl, h⟩ -
        show Ax g m_BM_compared 0 0 (ZV g Q) SH s4 0 0 143 [(0, .ref (gB g + 151)), (1, .int x1), (2, .int x2)] []
        exact b_vret (pc := 143) rfl d_BM_compared_143 h
    · replace h := h.2 c0
      refine a_iload_n (pc := 116) 2 rfl rfl d_BM_compared_116 ?_
      refine a_if_eq (pc := 117) 124 (by decide) d_BM_compared_117 ⟨fun c0 => ?_, fun c0 => ?_⟩
      · replace h := h.1 c0
        refine a_iconst (pc := 124) (4 : Int32) (by decide) d_BM_compared_124 ?_
        refine a_goto (pc := 125) 139 (by decide) d_BM_compared_125 ?_
        refine a_iconst (pc := 139) (0 : Int32) (by decide) d_BM_compared_139 ?_
        refine a_callV (pc := 140) (M' := m_BM_entry) (As := [.int (4 : Int32), .int (0 : Int32)]) (st := []) (mc' := 0) (ms' := 0) lk_BM_265 rfl sx_151 rfl (by decide) (by decide) rfl (Nat.le_of_ble_eq_true rfl) (Nat.le_refl 0) (Nat.le_refl 0) d_BM_compared_140 h ?_
        rintro _ _ s5 ⟨rfl, rfl, h⟩ -
        show Ax g m_BM_compared 0 0 (ZV g Q) SH s5 0 0 143 [(0, .ref (gB g + 151)), (1, .int x1), (2, .int x2)] []
        exact b_vret (pc := 143) rfl d_BM_compared_143 h
      · replace h := h.2 c0
        refine a_iconst (pc := 120) (5 : Int32) (by decide) d_BM_compared_120 ?_
        refine a_goto (pc := 121) 139 (by decide) d_BM_compared_121 ?_
        refine a_iconst (pc := 139) (0 : Int32) (by decide) d_BM_compared_139 ?_
        refine a_callV (pc := 140) (M' := m_BM_entry) (As := [.int (5 : Int32), .int (0 : Int32)]) (st := []) (mc' := 0) (ms' := 0) lk_BM_265 rfl sx_151 rfl (by decide) (by decide) rfl (Nat.le_of_ble_eq_true rfl) (Nat.le_refl 0) (Nat.le_refl 0) d_BM_compared_140 h ?_
        rintro _ _ s6 ⟨rfl, rfl, h⟩ -
        show Ax g m_BM_compared 0 0 (ZV g Q) SH s6 0 0 143 [(0, .ref (gB g + 151)), (1, .int x1), (2, .int x2)] []
        exact b_vret (pc := 143) rfl d_BM_compared_143 h
  · replace h := h.2 c0
    refine a_bipush (pc := 105) (6 : Int32) (by decide) d_BM_compared_105 ?_
    refine a_goto (pc := 107) 139 (by decide) d_BM_compared_107 ?_
    refine a_iconst (pc := 139) (0 : Int32) (by decide) d_BM_compared_139 ?_
    refine a_callV (pc := 140) (M' := m_BM_entry) (As := [.int (6 : Int32), .int (0 : Int32)]) (st := []) (mc' := 0) (ms' := 0) lk_BM_265 rfl sx_151 rfl (by decide) (by decide) rfl (Nat.le_of_ble_eq_true rfl) (Nat.le_refl 0) (Nat.le_refl 0) d_BM_compared_140 h ?_
    rintro _ _ s7 ⟨rfl, rfl, h⟩ -
    show Ax g m_BM_compared 0 0 (ZV g Q) SH s7 0 0 143 [(0, .ref (gB g + 151)), (1, .int x1), (2, .int x2)] []
    exact b_vret (pc := 143) rfl d_BM_compared_143 h
theorem ko_BM_compared {g : Gx}  {σ : St} {Q : St → Prop} (h : S_BM_compared_0 g Q σ) : K_BM_compared g  σ Q := KV.of (show plainName "BallBoxModel" = true by decide) (Nat.le_of_ble_eq_true rfl) h
theorem d_BM_top_0 : decode c_BM_top 0 = .ok (.aload_n 0, 1) := by decide +kernel
theorem d_BM_top_1 : decode c_BM_top 1 = .ok (.getfield 281, 3) := by decide +kernel
theorem d_BM_top_4 : decode c_BM_top 4 = .ok (.ifCond .ne 7, 3) := by decide +kernel
theorem d_BM_top_7 : decode c_BM_top 7 = .ok (.iconst (-1), 1) := by decide +kernel
theorem d_BM_top_8 : decode c_BM_top 8 = .ok (.goto 14, 3) := by decide +kernel
theorem d_BM_top_11 : decode c_BM_top 11 = .ok (.aload_n 0, 1) := by decide +kernel
theorem d_BM_top_12 : decode c_BM_top 12 = .ok (.getfield 66, 3) := by decide +kernel
theorem d_BM_top_15 : decode c_BM_top 15 = .ok (.aload_n 0, 1) := by decide +kernel
theorem d_BM_top_16 : decode c_BM_top 16 = .ok (.getfield 281, 3) := by decide +kernel
theorem d_BM_top_19 : decode c_BM_top 19 = .ok (.iconst 1, 1) := by decide +kernel
theorem d_BM_top_20 : decode c_BM_top 20 = .ok (.isub, 1) := by decide +kernel
theorem d_BM_top_21 : decode c_BM_top 21 = .ok (.iaload, 1) := by decide +kernel
theorem d_BM_top_22 : decode c_BM_top 22 = .ok (.ireturn, 1) := by decide +kernel
def S_BM_top_0 (g : Gx) (Q : Int32 → St → Prop) (σ : St) : Prop := Ax g m_BM_top 0 0 (ZI g Q) SH σ 0 0 0 [(0, .ref (gB g + 151))] []
theorem sg_BM_top_0 {g : Gx} {Q : Int32 → St → Prop} {σ : St}
    (h : (¬ (fi σ 151 19) = 0 → vp_in ((fi σ 151 19) - (1 : Int32)) 402 ∧ (Q (ai σ 169 (((fi σ 151 19) - (1 : Int32))).toNatClampNeg) σ)) ∧ ((fi σ 151 19) = 0 → Q (-1 : Int32) σ)) : S_BM_top_0 g Q σ := by
  show Ax g m_BM_top 0 0 (ZI g Q) SH σ 0 0 0 [(0, .ref (gB g + 151))] []
  refine a_aload_n (pc := 0) 0 rfl rfl d_BM_top_0 ?_
  refine a_getI (pc := 1) fg_BM_281 sx_151 rfl d_BM_top_1 ?_
  refine a_if_ne (pc := 4) 11 (by decide) d_BM_top_4 ⟨fun c0 => ?_, fun c0 => ?_⟩
  · replace h := h.1 c0
    refine a_aload_n (pc := 11) 0 rfl rfl d_BM_top_11 ?_
    refine a_getR (pc := 12) fg_BM_66 sx_151 rfl d_BM_top_12 ?_
    refine a_aload_n (pc := 15) 0 rfl rfl d_BM_top_15 ?_
    refine a_getI (pc := 16) fg_BM_281 sx_151 rfl d_BM_top_16 ?_
    refine a_iconst (pc := 19) (1 : Int32) (by decide) d_BM_top_19 ?_
    refine a_isub (pc := 20) d_BM_top_20 ?_
    obtain ⟨hx, h⟩ := h
    refine a_iald (pc := 21) sx_169 hx d_BM_top_21 ?_
    exact b_iret (pc := 22) rfl d_BM_top_22 h
  · replace h := h.2 c0
    refine a_iconst (pc := 7) (-1 : Int32) (by decide) d_BM_top_7 ?_
    refine a_goto (pc := 8) 22 (by decide) d_BM_top_8 ?_
    exact b_iret (pc := 22) rfl d_BM_top_22 h
theorem ko_BM_top {g : Gx}  {σ : St} {Q : Int32 → St → Prop} (h : S_BM_top_0 g Q σ) : K_BM_top g  σ Q := KI.of (show plainName "BallBoxModel" = true by decide) (Nat.le_of_ble_eq_true rfl) h
theorem d_BM_opens_0 : decode c_BM_opens 0 = .ok (.iload_n 1, 1) := by decide +kernel
theorem d_BM_opens_1 : decode c_BM_opens 1 = .ok (.bipush 9, 2) := by decide +kernel
theorem d_BM_opens_3 : decode c_BM_opens 3 = .ok (.if_icmp .eq 9, 3) := by decide +kernel
theorem d_BM_opens_6 : decode c_BM_opens 6 = .ok (.iload_n 1, 1) := by decide +kernel
theorem d_BM_opens_7 : decode c_BM_opens 7 = .ok (.bipush 12, 2) := by decide +kernel
theorem d_BM_opens_9 : decode c_BM_opens 9 = .ok (.if_icmp .ne 31, 3) := by decide +kernel
theorem d_BM_opens_12 : decode c_BM_opens 12 = .ok (.aload_n 0, 1) := by decide +kernel
theorem d_BM_opens_13 : decode c_BM_opens 13 = .ok (.getfield 284, 3) := by decide +kernel
theorem d_BM_opens_16 : decode c_BM_opens 16 = .ok (.bipush 10, 2) := by decide +kernel
theorem d_BM_opens_18 : decode c_BM_opens 18 = .ok (.if_icmp .ne 12, 3) := by decide +kernel
theorem d_BM_opens_21 : decode c_BM_opens 21 = .ok (.aload_n 0, 1) := by decide +kernel
theorem d_BM_opens_22 : decode c_BM_opens 22 = .ok (.iconst 2, 1) := by decide +kernel
theorem d_BM_opens_23 : decode c_BM_opens 23 = .ok (.aload_n 0, 1) := by decide +kernel
theorem d_BM_opens_24 : decode c_BM_opens 24 = .ok (.getfield 214, 3) := by decide +kernel
theorem d_BM_opens_27 : decode c_BM_opens 27 = .ok (.invokevirtual 250, 3) := by decide +kernel
theorem d_BM_opens_30 : decode c_BM_opens 30 = .ok (.aload_n 0, 1) := by decide +kernel
theorem d_BM_opens_31 : decode c_BM_opens 31 = .ok (.dup, 1) := by decide +kernel
theorem d_BM_opens_32 : decode c_BM_opens 32 = .ok (.getfield 284, 3) := by decide +kernel
theorem d_BM_opens_35 : decode c_BM_opens 35 = .ok (.iconst 1, 1) := by decide +kernel
theorem d_BM_opens_36 : decode c_BM_opens 36 = .ok (.iadd, 1) := by decide +kernel
theorem d_BM_opens_37 : decode c_BM_opens 37 = .ok (.putfield 284, 3) := by decide +kernel
theorem d_BM_opens_40 : decode c_BM_opens 40 = .ok (.aload_n 0, 1) := by decide +kernel
theorem d_BM_opens_41 : decode c_BM_opens 41 = .ok (.getfield 66, 3) := by decide +kernel
theorem d_BM_opens_44 : decode c_BM_opens 44 = .ok (.aload_n 0, 1) := by decide +kernel
theorem d_BM_opens_45 : decode c_BM_opens 45 = .ok (.getfield 281, 3) := by decide +kernel
theorem d_BM_opens_48 : decode c_BM_opens 48 = .ok (.iload_n 1, 1) := by decide +kernel
theorem d_BM_opens_49 : decode c_BM_opens 49 = .ok (.iastore, 1) := by decide +kernel
theorem d_BM_opens_50 : decode c_BM_opens 50 = .ok (.aload_n 0, 1) := by decide +kernel
theorem d_BM_opens_51 : decode c_BM_opens 51 = .ok (.dup, 1) := by decide +kernel
theorem d_BM_opens_52 : decode c_BM_opens 52 = .ok (.getfield 281, 3) := by decide +kernel
theorem d_BM_opens_55 : decode c_BM_opens 55 = .ok (.iconst 1, 1) := by decide +kernel
theorem d_BM_opens_56 : decode c_BM_opens 56 = .ok (.iadd, 1) := by decide +kernel
theorem d_BM_opens_57 : decode c_BM_opens 57 = .ok (.putfield 281, 3) := by decide +kernel
theorem d_BM_opens_60 : decode c_BM_opens 60 = .ok (.return_, 1) := by decide +kernel
def S_BM_opens_0 (g : Gx) (Q : St → Prop) (σ : St) (x1 : Int32) : Prop := Ax g m_BM_opens 0 0 (ZV g Q) SH σ 0 0 0 [(0, .ref (gB g + 151)), (1, .int x1)] []
def S_BM_opens_30 (g : Gx) (Q : St → Prop) (σ : St) (x1 : Int32) : Prop := Ax g m_BM_opens 0 0 (ZV g Q) SH σ 0 0 30 [(0, .ref (gB g + 151)), (1, .int x1)] []
theorem sg_BM_opens_0 {g : Gx} {Q : St → Prop} {σ : St} {x1 : Int32}
    (h : (x1 = (9 : Int32) → (¬ (fi σ 151 17) = (10 : Int32) → S_BM_opens_30 g Q σ x1) ∧ ((fi σ 151 17) = (10 : Int32) → K_BM_fails g (2 : Int32) (fi σ 151 12) σ (fun s1 : St => S_BM_opens_30 g Q s1 x1))) ∧ (¬ x1 = (9 : Int32) → (¬ x1 = (12 : Int32) → vp_in (fi σ 151 19) 402 ∧ (∀ s2 : St, s2 = sai σ 169 ((fi σ 151 19)).toNatClampNeg x1 → ∀ s3 : St, s3 = sfi s2 151 19 ((fi s2 151 19) + (1 : Int32)) → Q s3)) ∧ (x1 = (12 : Int32) → (¬ (fi σ 151 17) = (10 : Int32) → S_BM_opens_30 g Q σ x1) ∧ ((fi σ 151 17) = (10 : Int32) → K_BM_fails g (2 : Int32) (fi σ 151 12) σ (fun s4 : St => S_BM_opens_30 g Q s4 x1))))) : S_BM_opens_0 g Q σ x1 := by
  show Ax g m_BM_opens 0 0 (ZV g Q) SH σ 0 0 0 [(0, .ref (gB g + 151)), (1, .int x1)] []
  refine a_iload_n (pc := 0) 1 rfl rfl d_BM_opens_0 ?_
  refine a_bipush (pc := 1) (9 : Int32) (by decide) d_BM_opens_1 ?_
  refine a_icmp_eq (pc := 3) 12 (by decide) d_BM_opens_3 ⟨fun c0 => ?_, fun c0 => ?_⟩
  · replace h := h.1 c0
    refine a_aload_n (pc := 12) 0 rfl rfl d_BM_opens_12 ?_
    refine a_getI (pc := 13) fg_BM_284 sx_151 rfl d_BM_opens_13 ?_
    refine a_bipush (pc := 16) (10 : Int32) (by decide) d_BM_opens_16 ?_
    refine a_icmp_ne (pc := 18) 30 (by decide) d_BM_opens_18 ⟨fun c0 => ?_, fun c0 => ?_⟩
    · replace h := h.1 c0
      refine a_sub (pc := 30) [0, 1] rfl ?_
      exact h
    · replace h := h.2 c0
      refine a_aload_n (pc := 21) 0 rfl rfl d_BM_opens_21 ?_
      refine a_iconst (pc := 22) (2 : Int32) (by decide) d_BM_opens_22 ?_
      refine a_aload_n (pc := 23) 0 rfl rfl d_BM_opens_23 ?_
      refine a_getI (pc := 24) fg_BM_214 sx_151 rfl d_BM_opens_24 ?_
      refine a_callV (pc := 27) (M' := m_BM_fails) (As := [.int (2 : Int32), .int (fi σ 151 12)]) (st := []) (mc' := 0) (ms' := 0) lk_BM_250 rfl sx_151 rfl (by decide) (by decide) rfl (Nat.le_of_ble_eq_true rfl) (Nat.le_refl 0) (Nat.le_refl 0) d_BM_opens_27 h ?_
      rintro _ _ s1 ⟨rfl, rfl, h⟩ -
      show Ax g m_BM_opens 0 0 (ZV g Q) SH s1 0 0 30 [(0, .ref (gB g + 151)), (1, .int x1)] []
      refine a_sub (pc := 30) [0, 1] rfl ?_
      exact h
  · replace h := h.2 c0
    refine a_iload_n (pc := 6) 1 rfl rfl d_BM_opens_6 ?_
    refine a_bipush (pc := 7) (12 : Int32) (by decide) d_BM_opens_7 ?_
    refine a_icmp_ne (pc := 9) 40 (by decide) d_BM_opens_9 ⟨fun c0 => ?_, fun c0 => ?_⟩
    · replace h := h.1 c0
      refine a_aload_n (pc := 40) 0 rfl rfl d_BM_opens_40 ?_
      refine a_getR (pc := 41) fg_BM_66 sx_151 rfl d_BM_opens_41 ?_
      refine a_aload_n (pc := 44) 0 rfl rfl d_BM_opens_44 ?_
      refine a_getI (pc := 45) fg_BM_281 sx_151 rfl d_BM_opens_45 ?_
      refine a_iload_n (pc := 48) 1 rfl rfl d_BM_opens_48 ?_
      obtain ⟨hx, h⟩ := h
      refine a_iast (pc := 49) sx_169 hx d_BM_opens_49 ?_
      refine a_nms (fun s2 hs2 => ?_)
      replace h := h s2 hs2
      refine a_aload_n (pc := 50) 0 rfl rfl d_BM_opens_50 ?_
      refine a_dup (pc := 51) rfl d_BM_opens_51 ?_
      refine a_getI (pc := 52) fg_BM_281 sx_151 rfl d_BM_opens_52 ?_
      refine a_iconst (pc := 55) (1 : Int32) (by decide) d_BM_opens_55 ?_
      refine a_iadd (pc := 56) d_BM_opens_56 ?_
      refine a_putI (pc := 57) fp_BM_281 sx_151 rfl d_BM_opens_57 ?_
      refine a_nms (fun s3 hs3 => ?_)
      replace h := h s3 hs3
      exact b_vret (pc := 60) rfl d_BM_opens_60 h
    · replace h := h.2 c0
      refine a_aload_n (pc := 12) 0 rfl rfl d_BM_opens_12 ?_
      refine a_getI (pc := 13) fg_BM_284 sx_151 rfl d_BM_opens_13 ?_
      refine a_bipush (pc := 16) (10 : Int32) (by decide) d_BM_opens_16 ?_
      refine a_icmp_ne (pc := 18) 30 (by decide) d_BM_opens_18 ⟨fun c0 => ?_, fun c0 => ?_⟩
      · replace h := h.1 c0
        refine a_sub (pc := 30) [0, 1] rfl ?_
        exact h
      · replace h := h.2 c0
        refine a_aload_n (pc := 21) 0 rfl rfl d_BM_opens_21 ?_
        refine a_iconst (pc := 22) (2 : Int32) (by decide) d_BM_opens_22 ?_
        refine a_aload_n (pc := 23) 0 rfl rfl d_BM_opens_23 ?_
        refine a_getI (pc := 24) fg_BM_214 sx_151 rfl d_BM_opens_24 ?_
        refine a_callV (pc := 27) (M' := m_BM_fails) (As := [.int (2 : Int32), .int (fi σ 151 12)]) (st := []) (mc' := 0) (ms' := 0) lk_BM_250 rfl sx_151 rfl (by decide) (by decide) rfl (Nat.le_of_ble_eq_true rfl) (Nat.le_refl 0) (Nat.le_refl 0) d_BM_opens_27 h ?_
        rintro _ _ s4 ⟨rfl, rfl, h⟩ -
        show Ax g m_BM_opens 0 0 (ZV g Q) SH s4 0 0 30 [(0, .ref (gB g + 151)), (1, .int x1)] []
        refine a_sub (pc := 30) [0, 1] rfl ?_
        exact h
theorem sg_BM_opens_30 {g : Gx} {Q : St → Prop} {σ : St} {x1 : Int32}
    (h : ∀ s1 : St, s1 = sfi σ 151 17 ((fi σ 151 17) + (1 : Int32)) → vp_in (fi s1 151 19) 402 ∧ (∀ s2 : St, s2 = sai s1 169 ((fi s1 151 19)).toNatClampNeg x1 → ∀ s3 : St, s3 = sfi s2 151 19 ((fi s2 151 19) + (1 : Int32)) → Q s3)) : S_BM_opens_30 g Q σ x1 := by
  show Ax g m_BM_opens 0 0 (ZV g Q) SH σ 0 0 30 [(0, .ref (gB g + 151)), (1, .int x1)] []
  refine a_aload_n (pc := 30) 0 rfl rfl d_BM_opens_30 ?_
  refine a_dup (pc := 31) rfl d_BM_opens_31 ?_
  refine a_getI (pc := 32) fg_BM_284 sx_151 rfl d_BM_opens_32 ?_
  refine a_iconst (pc := 35) (1 : Int32) (by decide) d_BM_opens_35 ?_
  refine a_iadd (pc := 36) d_BM_opens_36 ?_
  refine a_putI (pc := 37) fp_BM_284 sx_151 rfl d_BM_opens_37 ?_
  refine a_nms (fun s1 hs1 => ?_)
  replace h := h s1 hs1
  refine a_aload_n (pc := 40) 0 rfl rfl d_BM_opens_40 ?_
  refine a_getR (pc := 41) fg_BM_66 sx_151 rfl d_BM_opens_41 ?_
  refine a_aload_n (pc := 44) 0 rfl rfl d_BM_opens_44 ?_
  refine a_getI (pc := 45) fg_BM_281 sx_151 rfl d_BM_opens_45 ?_
  refine a_iload_n (pc := 48) 1 rfl rfl d_BM_opens_48 ?_
  obtain ⟨hx, h⟩ := h
  refine a_iast (pc := 49) sx_169 hx d_BM_opens_49 ?_
  refine a_nms (fun s2 hs2 => ?_)
  replace h := h s2 hs2
  refine a_aload_n (pc := 50) 0 rfl rfl d_BM_opens_50 ?_
  refine a_dup (pc := 51) rfl d_BM_opens_51 ?_
  refine a_getI (pc := 52) fg_BM_281 sx_151 rfl d_BM_opens_52 ?_
  refine a_iconst (pc := 55) (1 : Int32) (by decide) d_BM_opens_55 ?_
  refine a_iadd (pc := 56) d_BM_opens_56 ?_
  refine a_putI (pc := 57) fp_BM_281 sx_151 rfl d_BM_opens_57 ?_
  refine a_nms (fun s3 hs3 => ?_)
  replace h := h s3 hs3
  exact b_vret (pc := 60) rfl d_BM_opens_60 h
theorem ko_BM_opens {g : Gx}  {x1 : Int32} {σ : St} {Q : St → Prop} (h : S_BM_opens_0 g Q σ x1) : K_BM_opens g x1 σ Q := KV.of (show plainName "BallBoxModel" = true by decide) (Nat.le_of_ble_eq_true rfl) h
theorem d_BM_answers_0 : decode c_BM_answers 0 = .ok (.aload_n 0, 1) := by decide +kernel
theorem d_BM_answers_1 : decode c_BM_answers 1 = .ok (.invokevirtual 287, 3) := by decide +kernel
theorem d_BM_answers_4 : decode c_BM_answers 4 = .ok (.iload_n 1, 1) := by decide +kernel
theorem d_BM_answers_5 : decode c_BM_answers 5 = .ok (.if_icmp .ne 49, 3) := by decide +kernel
theorem d_BM_answers_8 : decode c_BM_answers 8 = .ok (.aload_n 0, 1) := by decide +kernel
theorem d_BM_answers_9 : decode c_BM_answers 9 = .ok (.getfield 211, 3) := by decide +kernel
theorem d_BM_answers_12 : decode c_BM_answers 12 = .ok (.ifCond .ne 42, 3) := by decide +kernel
theorem d_BM_answers_15 : decode c_BM_answers 15 = .ok (.aload_n 0, 1) := by decide +kernel
theorem d_BM_answers_16 : decode c_BM_answers 16 = .ok (.iload_n 1, 1) := by decide +kernel
theorem d_BM_answers_17 : decode c_BM_answers 17 = .ok (.iconst 0, 1) := by decide +kernel
theorem d_BM_answers_18 : decode c_BM_answers 18 = .ok (.invokevirtual 265, 3) := by decide +kernel
theorem d_BM_answers_21 : decode c_BM_answers 21 = .ok (.aload_n 0, 1) := by decide +kernel
theorem d_BM_answers_22 : decode c_BM_answers 22 = .ok (.dup, 1) := by decide +kernel
theorem d_BM_answers_23 : decode c_BM_answers 23 = .ok (.getfield 281, 3) := by decide +kernel
theorem d_BM_answers_26 : decode c_BM_answers 26 = .ok (.iconst 1, 1) := by decide +kernel
theorem d_BM_answers_27 : decode c_BM_answers 27 = .ok (.isub, 1) := by decide +kernel
theorem d_BM_answers_28 : decode c_BM_answers 28 = .ok (.putfield 281, 3) := by decide +kernel
theorem d_BM_answers_31 : decode c_BM_answers 31 = .ok (.aload_n 0, 1) := by decide +kernel
theorem d_BM_answers_32 : decode c_BM_answers 32 = .ok (.dup, 1) := by decide +kernel
theorem d_BM_answers_33 : decode c_BM_answers 33 = .ok (.getfield 284, 3) := by decide +kernel
theorem d_BM_answers_36 : decode c_BM_answers 36 = .ok (.iload_n 1, 1) := by decide +kernel
theorem d_BM_answers_37 : decode c_BM_answers 37 = .ok (.bipush 9, 2) := by decide +kernel
theorem d_BM_answers_39 : decode c_BM_answers 39 = .ok (.if_icmp .ne 7, 3) := by decide +kernel
theorem d_BM_answers_42 : decode c_BM_answers 42 = .ok (.iconst 1, 1) := by decide +kernel
theorem d_BM_answers_43 : decode c_BM_answers 43 = .ok (.goto 4, 3) := by decide +kernel
theorem d_BM_answers_46 : decode c_BM_answers 46 = .ok (.iconst 0, 1) := by decide +kernel
theorem d_BM_answers_47 : decode c_BM_answers 47 = .ok (.isub, 1) := by decide +kernel
theorem d_BM_answers_48 : decode c_BM_answers 48 = .ok (.putfield 284, 3) := by decide +kernel
theorem d_BM_answers_51 : decode c_BM_answers 51 = .ok (.goto (-51), 3) := by decide +kernel
theorem d_BM_answers_54 : decode c_BM_answers 54 = .ok (.return_, 1) := by decide +kernel
def S_BM_answers_0 (g : Gx) (Q : St → Prop) (σ : St) (x1 : Int32) : Prop := Ax g m_BM_answers 0 0 (ZV g Q) SH σ 0 0 0 [(0, .ref (gB g + 151)), (1, .int x1)] []
theorem sg_BM_answers_0 {g : Gx} {Q : St → Prop} {σ : St} {x1 : Int32}
    (h : K_BM_top g σ (fun (r2 : Int32) (s1 : St) => (¬ r2 = x1 → Q s1) ∧ (r2 = x1 → (¬ (fi s1 151 13) = 0 → Q s1) ∧ ((fi s1 151 13) = 0 → K_BM_entry g x1 (0 : Int32) s1 (fun s3 : St => ∀ s4 : St, s4 = sfi s3 151 19 ((fi s3 151 19) - (1 : Int32)) → (¬ x1 = (9 : Int32) → ∀ s5 : St, s5 = sfi s4 151 17 ((fi s4 151 17) - (0 : Int32)) → S_BM_answers_0 g Q s5 x1) ∧ (x1 = (9 : Int32) → ∀ s6 : St, s6 = sfi s4 151 17 ((fi s4 151 17) - (1 : Int32)) → S_BM_answers_0 g Q s6 x1)))))) : S_BM_answers_0 g Q σ x1 := by
  show Ax g m_BM_answers 0 0 (ZV g Q) SH σ 0 0 0 [(0, .ref (gB g + 151)), (1, .int x1)] []
  refine a_aload_n (pc := 0) 0 rfl rfl d_BM_answers_0 ?_
  refine a_callV (pc := 1) (M' := m_BM_top) (As := []) (st := []) (mc' := 0) (ms' := 0) lk_BM_287 rfl sx_151 rfl (by decide) (by decide) rfl (Nat.le_of_ble_eq_true rfl) (Nat.le_refl 0) (Nat.le_refl 0) d_BM_answers_1 h ?_
  rintro _ _ s1 ⟨r2, rfl, rfl, h⟩ -
  show Ax g m_BM_answers 0 0 (ZV g Q) SH s1 0 0 4 [(0, .ref (gB g + 151)), (1, .int x1)] [.int r2]
  refine a_iload_n (pc := 4) 1 rfl rfl d_BM_answers_4 ?_
  refine a_icmp_ne (pc := 5) 54 (by decide) d_BM_answers_5 ⟨fun c0 => ?_, fun c0 => ?_⟩
  · replace h := h.1 c0
    exact b_vret (pc := 54) rfl d_BM_answers_54 h
  · replace h := h.2 c0
    refine a_aload_n (pc := 8) 0 rfl rfl d_BM_answers_8 ?_
    refine a_getI (pc := 9) fg_BM_211 sx_151 rfl d_BM_answers_9 ?_
    refine a_if_ne (pc := 12) 54 (by decide) d_BM_answers_12 ⟨fun c0 => ?_, fun c0 => ?_⟩
    · replace h := h.1 c0
      exact b_vret (pc := 54) rfl d_BM_answers_54 h
    · replace h := h.2 c0
      refine a_aload_n (pc := 15) 0 rfl rfl d_BM_answers_15 ?_
      refine a_iload_n (pc := 16) 1 rfl rfl d_BM_answers_16 ?_
      refine a_iconst (pc := 17) (0 : Int32) (by decide) d_BM_answers_17 ?_
      refine a_callV (pc := 18) (M' := m_BM_entry) (As := [.int x1, .int (0 : Int32)]) (st := []) (mc' := 0) (ms' := 0) lk_BM_265 rfl sx_151 rfl (by decide) (by decide) rfl (Nat.le_of_ble_eq_true rfl) (Nat.le_refl 0) (Nat.le_refl 0) d_BM_answers_18 h ?_
      rintro _ _ s3 ⟨rfl, rfl, h⟩ -
      show Ax g m_BM_answers 0 0 (ZV g Q) SH s3 0 0 21 [(0, .ref (gB g + 151)), (1, .int x1)] []
      refine a_aload_n (pc := 21) 0 rfl rfl d_BM_answers_21 ?_
      refine a_dup (pc := 22) rfl d_BM_answers_22 ?_
      refine a_getI (pc := 23) fg_BM_281 sx_151 rfl d_BM_answers_23 ?_
      refine a_iconst (pc := 26) (1 : Int32) (by decide) d_BM_answers_26 ?_
      refine a_isub (pc := 27) d_BM_answers_27 ?_
      refine a_putI (pc := 28) fp_BM_281 sx_151 rfl d_BM_answers_28 ?_
      refine a_nms (fun s4 hs4 => ?_)
      replace h := h s4 hs4
      refine a_aload_n (pc := 31) 0 rfl rfl d_BM_answers_31 ?_
      refine a_dup (pc := 32) rfl d_BM_answers_32 ?_
      refine a_getI (pc := 33) fg_BM_284 sx_151 rfl d_BM_answers_33 ?_
      refine a_iload_n (pc := 36) 1 rfl rfl d_BM_answers_36 ?_
      refine a_bipush (pc := 37) (9 : Int32) (by decide) d_BM_answers_37 ?_
      refine a_icmp_ne (pc := 39) 46 (by decide) d_BM_answers_39 ⟨fun c0 => ?_, fun c0 => ?_⟩
      · replace h := h.1 c0
        refine a_iconst (pc := 46) (0 : Int32) (by decide) d_BM_answers_46 ?_
        refine a_isub (pc := 47) d_BM_answers_47 ?_
        refine a_putI (pc := 48) fp_BM_284 sx_151 rfl d_BM_answers_48 ?_
        refine a_nms (fun s5 hs5 => ?_)
        replace h := h s5 hs5
        refine a_goto (pc := 51) 0 (by decide) d_BM_answers_51 ?_
        refine a_sub (pc := 0) [0, 1] rfl ?_
        exact h
      · replace h := h.2 c0
        refine a_iconst (pc := 42) (1 : Int32) (by decide) d_BM_answers_42 ?_
        refine a_goto (pc := 43) 47 (by decide) d_BM_answers_43 ?_
        refine a_isub (pc := 47) d_BM_answers_47 ?_
        refine a_putI (pc := 48) fp_BM_284 sx_151 rfl d_BM_answers_48 ?_
        refine a_nms (fun s6 hs6 => ?_)
        replace h := h s6 hs6
        refine a_goto (pc := 51) 0 (by decide) d_BM_answers_51 ?_
        refine a_sub (pc := 0) [0, 1] rfl ?_
        exact h
theorem ko_BM_answers {g : Gx}  {x1 : Int32} {σ : St} {Q : St → Prop} (h : S_BM_answers_0 g Q σ x1) : K_BM_answers g x1 σ Q := KV.of (show plainName "BallBoxModel" = true by decide) (Nat.le_of_ble_eq_true rfl) h
theorem d_BM_fact_0 : decode c_BM_fact 0 = .ok (.aload_n 0, 1) := by decide +kernel
theorem d_BM_fact_1 : decode c_BM_fact 1 = .ok (.invokevirtual 234, 3) := by decide +kernel
theorem d_BM_fact_4 : decode c_BM_fact 4 = .ok (.aload_n 0, 1) := by decide +kernel
theorem d_BM_fact_5 : decode c_BM_fact 5 = .ok (.ldc_w 290, 3) := by decide +kernel
theorem d_BM_fact_8 : decode c_BM_fact 8 = .ok (.invokevirtual 237, 3) := by decide +kernel
theorem d_BM_fact_11 : decode c_BM_fact 11 = .ok (.ifCond .eq 21, 3) := by decide +kernel
theorem d_BM_fact_14 : decode c_BM_fact 14 = .ok (.aload_n 0, 1) := by decide +kernel
theorem d_BM_fact_15 : decode c_BM_fact 15 = .ok (.bipush 9, 2) := by decide +kernel
theorem d_BM_fact_17 : decode c_BM_fact 17 = .ok (.invokevirtual 292, 3) := by decide +kernel
theorem d_BM_fact_20 : decode c_BM_fact 20 = .ok (.aload_n 0, 1) := by decide +kernel
theorem d_BM_fact_21 : decode c_BM_fact 21 = .ok (.dup, 1) := by decide +kernel
theorem d_BM_fact_22 : decode c_BM_fact 22 = .ok (.getfield 214, 3) := by decide +kernel
theorem d_BM_fact_25 : decode c_BM_fact 25 = .ok (.iconst 3, 1) := by decide +kernel
theorem d_BM_fact_26 : decode c_BM_fact 26 = .ok (.iadd, 1) := by decide +kernel
theorem d_BM_fact_27 : decode c_BM_fact 27 = .ok (.putfield 214, 3) := by decide +kernel
theorem d_BM_fact_30 : decode c_BM_fact 30 = .ok (.iconst 0, 1) := by decide +kernel
theorem d_BM_fact_31 : decode c_BM_fact 31 = .ok (.ireturn, 1) := by decide +kernel
theorem d_BM_fact_32 : decode c_BM_fact 32 = .ok (.aload_n 0, 1) := by decide +kernel
theorem d_BM_fact_33 : decode c_BM_fact 33 = .ok (.invokevirtual 217, 3) := by decide +kernel
theorem d_BM_fact_36 : decode c_BM_fact 36 = .ok (.bipush 91, 2) := by decide +kernel
theorem d_BM_fact_38 : decode c_BM_fact 38 = .ok (.if_icmp .ne 21, 3) := by decide +kernel
theorem d_BM_fact_41 : decode c_BM_fact 41 = .ok (.aload_n 0, 1) := by decide +kernel
theorem d_BM_fact_42 : decode c_BM_fact 42 = .ok (.bipush 12, 2) := by decide +kernel
theorem d_BM_fact_44 : decode c_BM_fact 44 = .ok (.invokevirtual 292, 3) := by decide +kernel
theorem d_BM_fact_47 : decode c_BM_fact 47 = .ok (.aload_n 0, 1) := by decide +kernel
theorem d_BM_fact_48 : decode c_BM_fact 48 = .ok (.dup, 1) := by decide +kernel
theorem d_BM_fact_49 : decode c_BM_fact 49 = .ok (.getfield 214, 3) := by decide +kernel
theorem d_BM_fact_52 : decode c_BM_fact 52 = .ok (.iconst 1, 1) := by decide +kernel
theorem d_BM_fact_53 : decode c_BM_fact 53 = .ok (.iadd, 1) := by decide +kernel
theorem d_BM_fact_54 : decode c_BM_fact 54 = .ok (.putfield 214, 3) := by decide +kernel
theorem d_BM_fact_57 : decode c_BM_fact 57 = .ok (.iconst 0, 1) := by decide +kernel
theorem d_BM_fact_58 : decode c_BM_fact 58 = .ok (.ireturn, 1) := by decide +kernel
theorem d_BM_fact_59 : decode c_BM_fact 59 = .ok (.aload_n 0, 1) := by decide +kernel
theorem d_BM_fact_60 : decode c_BM_fact 60 = .ok (.invokevirtual 295, 3) := by decide +kernel
theorem d_BM_fact_63 : decode c_BM_fact 63 = .ok (.iconst 1, 1) := by decide +kernel
theorem d_BM_fact_64 : decode c_BM_fact 64 = .ok (.ireturn, 1) := by decide +kernel
def S_BM_fact_0 (g : Gx) (Q : Int32 → St → Prop) (σ : St) : Prop := Ax g m_BM_fact 0 0 (ZI g Q) SH σ 0 0 0 [(0, .ref (gB g + 151))] []
theorem sg_BM_fact_0 {g : Gx} {Q : Int32 → St → Prop} {σ : St}
    (h : K_BM_blanks g σ (fun s1 : St => K_BM_stood g 13 s1 (fun (r3 : Int32) (s2 : St) => (r3 = 0 → K_BM_sign g s2 (fun (r5 : Int32) (s4 : St) => (¬ r5 = (91 : Int32) → K_BM_compared g s4 (fun s6 : St => Q (1 : Int32) s6)) ∧ (r5 = (91 : Int32) → K_BM_opens g (12 : Int32) s4 (fun s7 : St => ∀ s8 : St, s8 = sfi s7 151 12 ((fi s7 151 12) + (1 : Int32)) → Q (0 : Int32) s8)))) ∧ (¬ r3 = 0 → K_BM_opens g (9 : Int32) s2 (fun s9 : St => ∀ s10 : St, s10 = sfi s9 151 12 ((fi s9 151 12) + (3 : Int32)) → Q (0 : Int32) s10))))) : S_BM_fact_0 g Q σ := by
  show Ax g m_BM_fact 0 0 (ZI g Q) SH σ 0 0 0 [(0, .ref (gB g + 151))] []
  refine a_aload_n (pc := 0) 0 rfl rfl d_BM_fact_0 ?_
  refine a_callV (pc := 1) (M' := m_BM_blanks) (As := []) (st := []) (mc' := 0) (ms' := 0) lk_BM_234 rfl sx_151 rfl (by decide) (by decide) rfl (Nat.le_of_ble_eq_true rfl) (Nat.le_refl 0) (Nat.le_refl 0) d_BM_fact_1 h ?_
  rintro _ _ s1 ⟨rfl, rfl, h⟩ -
  show Ax g m_BM_fact 0 0 (ZI g Q) SH s1 0 0 4 [(0, .ref (gB g + 151))] []
  refine a_aload_n (pc := 4) 0 rfl rfl d_BM_fact_4 ?_
  refine a_ldcwS (pc := 5) (own := "BallBoxModel") (idx := 290) (tx := "not") (w := 13) (by simp [strs]) rfl d_BM_fact_5 ?_
  refine a_callV (pc := 8) (M' := m_BM_stood) (As := [.ref (gK g 13)]) (st := []) (mc' := 0) (ms' := 0) lk_BM_237 rfl sx_151 rfl (by decide) (by decide) rfl (Nat.le_of_ble_eq_true rfl) (Nat.le_refl 0) (Nat.le_refl 0) d_BM_fact_8 h ?_
  rintro _ _ s2 ⟨r3, rfl, rfl, h⟩ -
  show Ax g m_BM_fact 0 0 (ZI g Q) SH s2 0 0 11 [(0, .ref (gB g + 151))] [.int r3]
  refine a_if_eq (pc := 11) 32 (by decide) d_BM_fact_11 ⟨fun c0 => ?_, fun c0 => ?_⟩
  · replace h := h.1 c0
    refine a_aload_n (pc := 32) 0 rfl rfl d_BM_fact_32 ?_
    refine a_callV (pc := 33) (M' := m_BM_sign) (As := []) (st := []) (mc' := 0) (ms' := 0) lk_BM_217 rfl sx_151 rfl (by decide) (by decide) rfl (Nat.le_of_ble_eq_true rfl) (Nat.le_refl 0) (Nat.le_refl 0) d_BM_fact_33 h ?_
    rintro _ _ s4 ⟨r5, rfl, rfl, h⟩ -
    show Ax g m_BM_fact 0 0 (ZI g Q) SH s4 0 0 36 [(0, .ref (gB g + 151))] [.int r5]
    refine a_bipush (pc := 36) (91 : Int32) (by decide) d_BM_fact_36 ?_
    refine a_icmp_ne (pc := 38) 59 (by decide) d_BM_fact_38 ⟨fun c0 => ?_, fun c0 => ?_⟩
    · replace h := h.1 c0
      refine a_aload_n (pc := 59) 0 rfl rfl d_BM_fact_59 ?_
      refine a_callV (pc := 60) (M' := m_BM_compared) (As := []) (st := []) (mc' := 0) (ms' := 0) lk_BM_295 rfl sx_151 rfl (by decide) (by decide) rfl (Nat.le_of_ble_eq_true rfl) (Nat.le_refl 0) (Nat.le_refl 0) d_BM_fact_60 h ?_
      rintro _ _ s6 ⟨rfl, rfl, h⟩ -
      show Ax g m_BM_fact 0 0 (ZI g Q) SH s6 0 0 63 [(0, .ref (gB g + 151))] []
      refine a_iconst (pc := 63) (1 : Int32) (by decide) d_BM_fact_63 ?_
      exact b_zret (pc := 64) rfl (Or.inr rfl) d_BM_fact_64 h
    · replace h := h.2 c0
      refine a_aload_n (pc := 41) 0 rfl rfl d_BM_fact_41 ?_
      refine a_bipush (pc := 42) (12 : Int32) (by decide) d_BM_fact_42 ?_
      refine a_callV (pc := 44) (M' := m_BM_opens) (As := [.int (12 : Int32)]) (st := []) (mc' := 0) (ms' := 0) lk_BM_292 rfl sx_151 rfl (by decide) (by decide) rfl (Nat.le_of_ble_eq_true rfl) (Nat.le_refl 0) (Nat.le_refl 0) d_BM_fact_44 h ?_
      rintro _ _ s7 ⟨rfl, rfl, h⟩ -
      show Ax g m_BM_fact 0 0 (ZI g Q) SH s7 0 0 47 [(0, .ref (gB g + 151))] []
      refine a_aload_n (pc := 47) 0 rfl rfl d_BM_fact_47 ?_
      refine a_dup (pc := 48) rfl d_BM_fact_48 ?_
      refine a_getI (pc := 49) fg_BM_214 sx_151 rfl d_BM_fact_49 ?_
      refine a_iconst (pc := 52) (1 : Int32) (by decide) d_BM_fact_52 ?_
      refine a_iadd (pc := 53) d_BM_fact_53 ?_
      refine a_putI (pc := 54) fp_BM_214 sx_151 rfl d_BM_fact_54 ?_
      refine a_nms (fun s8 hs8 => ?_)
      replace h := h s8 hs8
      refine a_iconst (pc := 57) (0 : Int32) (by decide) d_BM_fact_57 ?_
      exact b_zret (pc := 58) rfl (Or.inl rfl) d_BM_fact_58 h
  · replace h := h.2 c0
    refine a_aload_n (pc := 14) 0 rfl rfl d_BM_fact_14 ?_
    refine a_bipush (pc := 15) (9 : Int32) (by decide) d_BM_fact_15 ?_
    refine a_callV (pc := 17) (M' := m_BM_opens) (As := [.int (9 : Int32)]) (st := []) (mc' := 0) (ms' := 0) lk_BM_292 rfl sx_151 rfl (by decide) (by decide) rfl (Nat.le_of_ble_eq_true rfl) (Nat.le_refl 0) (Nat.le_refl 0) d_BM_fact_17 h ?_
    rintro _ _ s9 ⟨rfl, rfl, h⟩ -
    show Ax g m_BM_fact 0 0 (ZI g Q) SH s9 0 0 20 [(0, .ref (gB g + 151))] []
    refine a_aload_n (pc := 20) 0 rfl rfl d_BM_fact_20 ?_
    refine a_dup (pc := 21) rfl d_BM_fact_21 ?_
    refine a_getI (pc := 22) fg_BM_214 sx_151 rfl d_BM_fact_22 ?_
    refine a_iconst (pc := 25) (3 : Int32) (by decide) d_BM_fact_25 ?_
    refine a_iadd (pc := 26) d_BM_fact_26 ?_
    refine a_putI (pc := 27) fp_BM_214 sx_151 rfl d_BM_fact_27 ?_
    refine a_nms (fun s10 hs10 => ?_)
    replace h := h s10 hs10
    refine a_iconst (pc := 30) (0 : Int32) (by decide) d_BM_fact_30 ?_
    exact b_zret (pc := 31) rfl (Or.inl rfl) d_BM_fact_31 h
theorem ko_BM_fact {g : Gx}  {σ : St} {Q : Int32 → St → Prop} (h : S_BM_fact_0 g Q σ) : K_BM_fact g  σ Q := KI.of (show plainName "BallBoxModel" = true by decide) (Nat.le_of_ble_eq_true rfl) h
theorem d_BM_test_0 : decode c_BM_test 0 = .ok (.aload_n 0, 1) := by decide +kernel
theorem d_BM_test_1 : decode c_BM_test 1 = .ok (.iconst 0, 1) := by decide +kernel
theorem d_BM_test_2 : decode c_BM_test 2 = .ok (.putfield 281, 3) := by decide +kernel
theorem d_BM_test_5 : decode c_BM_test 5 = .ok (.iconst 1, 1) := by decide +kernel
theorem d_BM_test_6 : decode c_BM_test 6 = .ok (.istore_n 1, 1) := by decide +kernel
theorem d_BM_test_7 : decode c_BM_test 7 = .ok (.iconst 1, 1) := by decide +kernel
theorem d_BM_test_8 : decode c_BM_test 8 = .ok (.istore_n 2, 1) := by decide +kernel
theorem d_BM_test_9 : decode c_BM_test 9 = .ok (.iload_n 2, 1) := by decide +kernel
theorem d_BM_test_10 : decode c_BM_test 10 = .ok (.ifCond .eq 192, 3) := by decide +kernel
theorem d_BM_test_13 : decode c_BM_test 13 = .ok (.aload_n 0, 1) := by decide +kernel
theorem d_BM_test_14 : decode c_BM_test 14 = .ok (.getfield 211, 3) := by decide +kernel
theorem d_BM_test_17 : decode c_BM_test 17 = .ok (.ifCond .ne 185, 3) := by decide +kernel
theorem d_BM_test_20 : decode c_BM_test 20 = .ok (.iload_n 1, 1) := by decide +kernel
theorem d_BM_test_21 : decode c_BM_test 21 = .ok (.ifCond .eq 19, 3) := by decide +kernel
theorem d_BM_test_24 : decode c_BM_test 24 = .ok (.aload_n 0, 1) := by decide +kernel
theorem d_BM_test_25 : decode c_BM_test 25 = .ok (.invokevirtual 298, 3) := by decide +kernel
theorem d_BM_test_28 : decode c_BM_test 28 = .ok (.ifCond .ne 7, 3) := by decide +kernel
theorem d_BM_test_31 : decode c_BM_test 31 = .ok (.iconst 1, 1) := by decide +kernel
theorem d_BM_test_32 : decode c_BM_test 32 = .ok (.goto 4, 3) := by decide +kernel
theorem d_BM_test_35 : decode c_BM_test 35 = .ok (.iconst 0, 1) := by decide +kernel
theorem d_BM_test_36 : decode c_BM_test 36 = .ok (.istore_n 1, 1) := by decide +kernel
theorem d_BM_test_37 : decode c_BM_test 37 = .ok (.goto (-28), 3) := by decide +kernel
theorem d_BM_test_40 : decode c_BM_test 40 = .ok (.aload_n 0, 1) := by decide +kernel
theorem d_BM_test_41 : decode c_BM_test 41 = .ok (.bipush 9, 2) := by decide +kernel
theorem d_BM_test_43 : decode c_BM_test 43 = .ok (.invokevirtual 301, 3) := by decide +kernel
theorem d_BM_test_46 : decode c_BM_test 46 = .ok (.aload_n 0, 1) := by decide +kernel
theorem d_BM_test_47 : decode c_BM_test 47 = .ok (.invokevirtual 234, 3) := by decide +kernel
theorem d_BM_test_50 : decode c_BM_test 50 = .ok (.aload_n 0, 1) := by decide +kernel
theorem d_BM_test_51 : decode c_BM_test 51 = .ok (.ldc_w 304, 3) := by decide +kernel
theorem d_BM_test_54 : decode c_BM_test 54 = .ok (.invokevirtual 237, 3) := by decide +kernel
theorem d_BM_test_57 : decode c_BM_test 57 = .ok (.istore_n 3, 1) := by decide +kernel
theorem d_BM_test_58 : decode c_BM_test 58 = .ok (.aload_n 0, 1) := by decide +kernel
theorem d_BM_test_59 : decode c_BM_test 59 = .ok (.ldc_w 306, 3) := by decide +kernel
theorem d_BM_test_62 : decode c_BM_test 62 = .ok (.invokevirtual 237, 3) := by decide +kernel
theorem d_BM_test_65 : decode c_BM_test 65 = .ok (.istore 4, 2) := by decide +kernel
theorem d_BM_test_67 : decode c_BM_test 67 = .ok (.aload_n 0, 1) := by decide +kernel
theorem d_BM_test_68 : decode c_BM_test 68 = .ok (.bipush 10, 2) := by decide +kernel
theorem d_BM_test_70 : decode c_BM_test 70 = .ok (.invokevirtual 301, 3) := by decide +kernel
theorem d_BM_test_73 : decode c_BM_test 73 = .ok (.iload_n 3, 1) := by decide +kernel
theorem d_BM_test_74 : decode c_BM_test 74 = .ok (.ifCond .ne 8, 3) := by decide +kernel
theorem d_BM_test_77 : decode c_BM_test 77 = .ok (.iload 4, 2) := by decide +kernel
theorem d_BM_test_79 : decode c_BM_test 79 = .ok (.ifCond .eq 52, 3) := by decide +kernel
theorem d_BM_test_82 : decode c_BM_test 82 = .ok (.iload 4, 2) := by decide +kernel
theorem d_BM_test_84 : decode c_BM_test 84 = .ok (.ifCond .eq 9, 3) := by decide +kernel
theorem d_BM_test_87 : decode c_BM_test 87 = .ok (.aload_n 0, 1) := by decide +kernel
theorem d_BM_test_88 : decode c_BM_test 88 = .ok (.bipush 11, 2) := by decide +kernel
theorem d_BM_test_90 : decode c_BM_test 90 = .ok (.invokevirtual 301, 3) := by decide +kernel
theorem d_BM_test_93 : decode c_BM_test 93 = .ok (.aload_n 0, 1) := by decide +kernel
theorem d_BM_test_94 : decode c_BM_test 94 = .ok (.iload_n 3, 1) := by decide +kernel
theorem d_BM_test_95 : decode c_BM_test 95 = .ok (.ifCond .eq 8, 3) := by decide +kernel
theorem d_BM_test_98 : decode c_BM_test 98 = .ok (.bipush 10, 2) := by decide +kernel
theorem d_BM_test_100 : decode c_BM_test 100 = .ok (.goto 5, 3) := by decide +kernel
theorem d_BM_test_103 : decode c_BM_test 103 = .ok (.bipush 11, 2) := by decide +kernel
theorem d_BM_test_105 : decode c_BM_test 105 = .ok (.invokevirtual 292, 3) := by decide +kernel
theorem d_BM_test_108 : decode c_BM_test 108 = .ok (.aload_n 0, 1) := by decide +kernel
theorem d_BM_test_109 : decode c_BM_test 109 = .ok (.dup, 1) := by decide +kernel
theorem d_BM_test_110 : decode c_BM_test 110 = .ok (.getfield 214, 3) := by decide +kernel
theorem d_BM_test_113 : decode c_BM_test 113 = .ok (.iload_n 3, 1) := by decide +kernel
theorem d_BM_test_114 : decode c_BM_test 114 = .ok (.ifCond .eq 7, 3) := by decide +kernel
theorem d_BM_test_117 : decode c_BM_test 117 = .ok (.iconst 3, 1) := by decide +kernel
theorem d_BM_test_118 : decode c_BM_test 118 = .ok (.goto 4, 3) := by decide +kernel
theorem d_BM_test_121 : decode c_BM_test 121 = .ok (.iconst 2, 1) := by decide +kernel
theorem d_BM_test_122 : decode c_BM_test 122 = .ok (.iadd, 1) := by decide +kernel
theorem d_BM_test_123 : decode c_BM_test 123 = .ok (.putfield 214, 3) := by decide +kernel
theorem d_BM_test_126 : decode c_BM_test 126 = .ok (.iconst 1, 1) := by decide +kernel
theorem d_BM_test_127 : decode c_BM_test 127 = .ok (.istore_n 1, 1) := by decide +kernel
theorem d_BM_test_128 : decode c_BM_test 128 = .ok (.goto 71, 3) := by decide +kernel
theorem d_BM_test_131 : decode c_BM_test 131 = .ok (.aload_n 0, 1) := by decide +kernel
theorem d_BM_test_132 : decode c_BM_test 132 = .ok (.bipush 11, 2) := by decide +kernel
theorem d_BM_test_134 : decode c_BM_test 134 = .ok (.invokevirtual 301, 3) := by decide +kernel
theorem d_BM_test_137 : decode c_BM_test 137 = .ok (.aload_n 0, 1) := by decide +kernel
theorem d_BM_test_138 : decode c_BM_test 138 = .ok (.invokevirtual 287, 3) := by decide +kernel
theorem d_BM_test_141 : decode c_BM_test 141 = .ok (.bipush 12, 2) := by decide +kernel
theorem d_BM_test_143 : decode c_BM_test 143 = .ok (.if_icmp .ne 54, 3) := by decide +kernel
theorem d_BM_test_146 : decode c_BM_test 146 = .ok (.aload_n 0, 1) := by decide +kernel
theorem d_BM_test_147 : decode c_BM_test 147 = .ok (.invokevirtual 217, 3) := by decide +kernel
theorem d_BM_test_150 : decode c_BM_test 150 = .ok (.bipush 93, 2) := by decide +kernel
theorem d_BM_test_152 : decode c_BM_test 152 = .ok (.if_icmp .eq 12, 3) := by decide +kernel
theorem d_BM_test_155 : decode c_BM_test 155 = .ok (.aload_n 0, 1) := by decide +kernel
theorem d_BM_test_156 : decode c_BM_test 156 = .ok (.iconst 0, 1) := by decide +kernel
theorem d_BM_test_157 : decode c_BM_test 157 = .ok (.aload_n 0, 1) := by decide +kernel
theorem d_BM_test_158 : decode c_BM_test 158 = .ok (.getfield 214, 3) := by decide +kernel
theorem d_BM_test_161 : decode c_BM_test 161 = .ok (.invokevirtual 250, 3) := by decide +kernel
theorem d_BM_test_164 : decode c_BM_test 164 = .ok (.aload_n 0, 1) := by decide +kernel
theorem d_BM_test_165 : decode c_BM_test 165 = .ok (.dup, 1) := by decide +kernel
theorem d_BM_test_166 : decode c_BM_test 166 = .ok (.getfield 214, 3) := by decide +kernel
theorem d_BM_test_169 : decode c_BM_test 169 = .ok (.iconst 1, 1) := by decide +kernel
theorem d_BM_test_170 : decode c_BM_test 170 = .ok (.iadd, 1) := by decide +kernel
theorem d_BM_test_171 : decode c_BM_test 171 = .ok (.putfield 214, 3) := by decide +kernel
theorem d_BM_test_174 : decode c_BM_test 174 = .ok (.aload_n 0, 1) := by decide +kernel
theorem d_BM_test_175 : decode c_BM_test 175 = .ok (.dup, 1) := by decide +kernel
theorem d_BM_test_176 : decode c_BM_test 176 = .ok (.getfield 281, 3) := by decide +kernel
theorem d_BM_test_179 : decode c_BM_test 179 = .ok (.iconst 1, 1) := by decide +kernel
theorem d_BM_test_180 : decode c_BM_test 180 = .ok (.isub, 1) := by decide +kernel
theorem d_BM_test_181 : decode c_BM_test 181 = .ok (.putfield 281, 3) := by decide +kernel
theorem d_BM_test_184 : decode c_BM_test 184 = .ok (.aload_n 0, 1) := by decide +kernel
theorem d_BM_test_185 : decode c_BM_test 185 = .ok (.dup, 1) := by decide +kernel
theorem d_BM_test_186 : decode c_BM_test 186 = .ok (.getfield 284, 3) := by decide +kernel
theorem d_BM_test_189 : decode c_BM_test 189 = .ok (.iconst 1, 1) := by decide +kernel
theorem d_BM_test_190 : decode c_BM_test 190 = .ok (.isub, 1) := by decide +kernel
theorem d_BM_test_191 : decode c_BM_test 191 = .ok (.putfield 284, 3) := by decide +kernel
theorem d_BM_test_194 : decode c_BM_test 194 = .ok (.goto 5, 3) := by decide +kernel
theorem d_BM_test_197 : decode c_BM_test 197 = .ok (.iconst 0, 1) := by decide +kernel
theorem d_BM_test_198 : decode c_BM_test 198 = .ok (.istore_n 2, 1) := by decide +kernel
theorem d_BM_test_199 : decode c_BM_test 199 = .ok (.goto (-190), 3) := by decide +kernel
theorem d_BM_test_202 : decode c_BM_test 202 = .ok (.return_, 1) := by decide +kernel
def S_BM_test_0 (g : Gx) (Q : St → Prop) (σ : St) : Prop := Ax g m_BM_test 0 0 (ZV g Q) SH σ 0 0 0 [(0, .ref (gB g + 151))] []
def S_BM_test_9 (g : Gx) (Q : St → Prop) (σ : St) (x1 : Int32) (x2 : Int32) : Prop := Ax g m_BM_test 0 0 (ZV g Q) SH σ 0 0 9 [(0, .ref (gB g + 151)), (1, .int x1), (2, .int x2)] []
def S_BM_test_82 (g : Gx) (Q : St → Prop) (σ : St) (x2 : Int32) (x3 : Int32) (x4 : Int32) : Prop := Ax g m_BM_test 0 0 (ZV g Q) SH σ 0 0 82 [(0, .ref (gB g + 151)), (2, .int x2), (3, .int x3), (4, .int x4)] []
def S_BM_test_164 (g : Gx) (Q : St → Prop) (σ : St) (x1 : Int32) (x2 : Int32) : Prop := Ax g m_BM_test 0 0 (ZV g Q) SH σ 0 0 164 [(0, .ref (gB g + 151)), (1, .int x1), (2, .int x2)] []
def S_BM_test_105 (g : Gx) (Q : St → Prop) (σ : St) (x2 : Int32) (x3 : Int32) (z0 : Int32) : Prop := Ax g m_BM_test 0 0 (ZV g Q) SH σ 0 0 105 [(0, .ref (gB g + 151)), (2, .int x2), (3, .int x3)] [.int z0, .ref (gB g + 151)]
theorem sg_BM_test_0 {g : Gx} {Q : St → Prop} {σ : St}
    (h : ∀ s1 : St, s1 = sfi σ 151 19 (0 : Int32) → S_BM_test_9 g Q s1 (1 : Int32) (1 : Int32)) : S_BM_test_0 g Q σ := by
  show Ax g m_BM_test 0 0 (ZV g Q) SH σ 0 0 0 [(0, .ref (gB g + 151))] []
  refine a_aload_n (pc := 0) 0 rfl rfl d_BM_test_0 ?_
  refine a_iconst (pc := 1) (0 : Int32) (by decide) d_BM_test_1 ?_
  refine a_putI (pc := 2) fp_BM_281 sx_151 rfl d_BM_test_2 ?_
  refine a_nms (fun s1 hs1 => ?_)
  replace h := h s1 hs1
  refine a_iconst (pc := 5) (1 : Int32) (by decide) d_BM_test_5 ?_
  refine a_istore_n (pc := 6) (lv' := [(1, .int (1 : Int32)), (0, .ref (gB g + 151))]) rfl (Nat.le_of_ble_eq_true rfl) rfl d_BM_test_6 ?_
  refine a_iconst (pc := 7) (1 : Int32) (by decide) d_BM_test_7 ?_
  refine a_istore_n (pc := 8) (lv' := [(2, .int (1 : Int32)), (1, .int (1 : Int32)), (0, .ref (gB g + 151))]) rfl (Nat.le_of_ble_eq_true rfl) rfl d_BM_test_8 ?_
  refine a_sub (pc := 9) [2, 1, 0] rfl ?_
  exact h
theorem sg_BM_test_9 {g : Gx} {Q : St → Prop} {σ : St} {x1 : Int32} {x2 : Int32}
    (h : (x2 = 0 → Q σ) ∧ (¬ x2 = 0 → (¬ (fi σ 151 13) = 0 → Q σ) ∧ ((fi σ 151 13) = 0 → (x1 = 0 → K_BM_answers g (9 : Int32) σ (fun s1 : St => K_BM_blanks g s1 (fun s2 : St => K_BM_stood g 14 s2 (fun (r4 : Int32) (s3 : St) => K_BM_stood g 15 s3 (fun (r6 : Int32) (s5 : St) => K_BM_answers g (10 : Int32) s5 (fun s7 : St => (¬ r4 = 0 → S_BM_test_82 g Q s7 x2 r4 r6) ∧ (r4 = 0 → (r6 = 0 → K_BM_answers g (11 : Int32) s7 (fun s8 : St => K_BM_top g s8 (fun (r10 : Int32) (s9 : St) => (¬ r10 = (12 : Int32) → S_BM_test_9 g Q s9 x1 (0 : Int32)) ∧ (r10 = (12 : Int32) → K_BM_sign g s9 (fun (r12 : Int32) (s11 : St) => (r12 = (93 : Int32) → S_BM_test_164 g Q s11 x1 x2) ∧ (¬ r12 = (93 : Int32) → K_BM_fails g (0 : Int32) (fi s11 151 12) s11 (fun s13 : St => S_BM_test_164 g Q s13 x1 x2))))))) ∧ (¬ r6 = 0 → S_BM_test_82 g Q s7 x2 r4 r6)))))))) ∧ (¬ x1 = 0 → K_BM_fact g σ (fun (r15 : Int32) (s14 : St) => (¬ r15 = 0 → S_BM_test_9 g Q s14 (0 : Int32) x2) ∧ (r15 = 0 → S_BM_test_9 g Q s14 (1 : Int32) x2)))))) : S_BM_test_9 g Q σ x1 x2 := by
  show Ax g m_BM_test 0 0 (ZV g Q) SH σ 0 0 9 [(0, .ref (gB g + 151)), (1, .int x1), (2, .int x2)] []
  refine a_iload_n (pc := 9) 2 rfl rfl d_BM_test_9 ?_
  refine a_if_eq (pc := 10) 202 (by decide) d_BM_test_10 ⟨fun c0 => ?_, fun c0 => ?_⟩
  · replace h := h.1 c0
    exact b_vret (pc := 202) rfl d_BM_test_202 h
  · replace h := h.2 c0
    refine a_aload_n (pc := 13) 0 rfl rfl d_BM_test_13 ?_
    refine a_getI (pc := 14) fg_BM_211 sx_151 rfl d_BM_test_14 ?_
    refine a_if_ne (pc := 17) 202 (by decide) d_BM_test_17 ⟨fun c0 => ?_, fun c0 => ?_⟩
    · replace h := h.1 c0
      exact b_vret (pc := 202) rfl d_BM_test_202 h
    · replace h := h.2 c0
      refine a_iload_n (pc := 20) 1 rfl rfl d_BM_test_20 ?_
      refine a_if_eq (pc := 21) 40 (by decide) d_BM_test_21 ⟨fun c0 => ?_, fun c0 => ?_⟩
      · replace h := h.1 c0
        refine a_aload_n (pc := 40) 0 rfl rfl d_BM_test_40 ?_
        refine a_bipush (pc := 41) (9 : Int32) (by decide) d_BM_test_41 ?_
        refine a_callV (pc := 43) (M' := m_BM_answers) (As := [.int (9 : Int32)]) (st := []) (mc' := 0) (ms' := 0) lk_BM_301 rfl sx_151 rfl (by decide) (by decide) rfl (Nat.le_of_ble_eq_true rfl) (Nat.le_refl 0) (Nat.le_refl 0) d_BM_test_43 h ?_
        rintro _ _ s1 ⟨rfl, rfl, h⟩ -
        show Ax g m_BM_test 0 0 (ZV g Q) SH s1 0 0 46 [(0, .ref (gB g + 151)), (1, .int x1), (2, .int x2)] []
        refine a_aload_n (pc := 46) 0 rfl rfl d_BM_test_46 ?_
        refine a_callV (pc := 47) (M' := m_BM_blanks) (As := []) (st := []) (mc' := 0) (ms' := 0) lk_BM_234 rfl sx_151 rfl (by decide) (by decide) rfl (Nat.le_of_ble_eq_true rfl) (Nat.le_refl 0) (Nat.le_refl 0) d_BM_test_47 h ?_
        rintro _ _ s2 ⟨rfl, rfl, h⟩ -
        show Ax g m_BM_test 0 0 (ZV g Q) SH s2 0 0 50 [(0, .ref (gB g + 151)), (1, .int x1), (2, .int x2)] []
        refine a_aload_n (pc := 50) 0 rfl rfl d_BM_test_50 ?_
        refine a_ldcwS (pc := 51) (own := "BallBoxModel") (idx := 304) (tx := "and") (w := 14) (by simp [strs]) rfl d_BM_test_51 ?_
        refine a_callV (pc := 54) (M' := m_BM_stood) (As := [.ref (gK g 14)]) (st := []) (mc' := 0) (ms' := 0) lk_BM_237 rfl sx_151 rfl (by decide) (by decide) rfl (Nat.le_of_ble_eq_true rfl) (Nat.le_refl 0) (Nat.le_refl 0) d_BM_test_54 h ?_
        rintro _ _ s3 ⟨r4, rfl, rfl, h⟩ -
        show Ax g m_BM_test 0 0 (ZV g Q) SH s3 0 0 57 [(0, .ref (gB g + 151)), (1, .int x1), (2, .int x2)] [.int r4]
        refine a_istore_n (pc := 57) (lv' := [(3, .int r4), (0, .ref (gB g + 151)), (1, .int x1), (2, .int x2)]) rfl (Nat.le_of_ble_eq_true rfl) rfl d_BM_test_57 ?_
        refine a_aload_n (pc := 58) 1 rfl rfl d_BM_test_58 ?_
        refine a_ldcwS (pc := 59) (own := "BallBoxModel") (idx := 306) (tx := "or") (w := 15) (by simp [strs]) rfl d_BM_test_59 ?_
        refine a_callV (pc := 62) (M' := m_BM_stood) (As := [.ref (gK g 15)]) (st := []) (mc' := 0) (ms' := 0) lk_BM_237 rfl sx_151 rfl (by decide) (by decide) rfl (Nat.le_of_ble_eq_true rfl) (Nat.le_refl 0) (Nat.le_refl 0) d_BM_test_62 h ?_
        rintro _ _ s5 ⟨r6, rfl, rfl, h⟩ -
        show Ax g m_BM_test 0 0 (ZV g Q) SH s5 0 0 65 [(3, .int r4), (0, .ref (gB g + 151)), (1, .int x1), (2, .int x2)] [.int r6]
        refine a_istore (pc := 65) (lv' := [(4, .int r6), (3, .int r4), (0, .ref (gB g + 151)), (1, .int x1), (2, .int x2)]) (Nat.le_of_ble_eq_true rfl) rfl d_BM_test_65 ?_
        refine a_aload_n (pc := 67) 2 rfl rfl d_BM_test_67 ?_
        refine a_bipush (pc := 68) (10 : Int32) (by decide) d_BM_test_68 ?_
        refine a_callV (pc := 70) (M' := m_BM_answers) (As := [.int (10 : Int32)]) (st := []) (mc' := 0) (ms' := 0) lk_BM_301 rfl sx_151 rfl (by decide) (by decide) rfl (Nat.le_of_ble_eq_true rfl) (Nat.le_refl 0) (Nat.le_refl 0) d_BM_test_70 h ?_
        rintro _ _ s7 ⟨rfl, rfl, h⟩ -
        show Ax g m_BM_test 0 0 (ZV g Q) SH s7 0 0 73 [(4, .int r6), (3, .int r4), (0, .ref (gB g + 151)), (1, .int x1), (2, .int x2)] []
        refine a_iload_n (pc := 73) 1 rfl rfl d_BM_test_73 ?_
        refine a_if_ne (pc := 74) 82 (by decide) d_BM_test_74 ⟨fun c0 => ?_, fun c0 => ?_⟩
        · replace h := h.1 c0
          refine a_sub (pc := 82) [2, 4, 1, 0] rfl ?_
          exact h
        · replace h := h.2 c0
          refine a_iload (pc := 77) 0 rfl d_BM_test_77 ?_
          refine a_if_eq (pc := 79) 131 (by decide) d_BM_test_79 ⟨fun c0 => ?_, fun c0 => ?_⟩
          · replace h := h.1 c0
            refine a_aload_n (pc := 131) 2 rfl rfl d_BM_test_131 ?_
            refine a_bipush (pc := 132) (11 : Int32) (by decide) d_BM_test_132 ?_
            refine a_callV (pc := 134) (M' := m_BM_answers) (As := [.int (11 : Int32)]) (st := []) (mc' := 0) (ms' := 0) lk_BM_301 rfl sx_151 rfl (by decide) (by decide) rfl (Nat.le_of_ble_eq_true rfl) (Nat.le_refl 0) (Nat.le_refl 0) d_BM_test_134 h ?_
            rintro _ _ s8 ⟨rfl, rfl, h⟩ -
            show Ax g m_BM_test 0 0 (ZV g Q) SH s8 0 0 137 [(4, .int r6), (3, .int r4), (0, .ref (gB g + 151)), (1, .int x1), (2, .int x2)] []
            refine a_aload_n (pc := 137) 2 rfl rfl d_BM_test_137 ?_
            refine a_callV (pc := 138) (M' := m_BM_top) (As := []) (st := []) (mc' := 0) (ms' := 0) lk_BM_287 rfl sx_151 rfl (by decide) (by decide) rfl (Nat.le_of_ble_eq_true rfl) (Nat.le_refl 0) (Nat.le_refl 0) d_BM_test_138 h ?_
            rintro _ _ s9 ⟨r10, rfl, rfl, h⟩ -
            show Ax g m_BM_test 0 0 (ZV g Q) SH s9 0 0 141 [(4, .int r6), (3, .int r4), (0, .ref (gB g + 151)), (1, .int x1), (2, .int x2)] [.int r10]
            refine a_bipush (pc := 141) (12 : Int32) (by decide) d_BM_test_141 ?_
            refine a_icmp_ne (pc := 143) 197 (by decide) d_BM_test_143 ⟨fun c0 => ?_, fun c0 => ?_⟩
            · replace h := h.1 c0
              refine a_iconst (pc := 197) (0 : Int32) (by decide) d_BM_test_197 ?_
              refine a_istore_n (pc := 198) (lv' := [(2, .int (0 : Int32)), (4, .int r6), (3, .int r4), (0, .ref (gB g + 151)), (1, .int x1)]) rfl (Nat.le_of_ble_eq_true rfl) rfl d_BM_test_198 ?_
              refine a_goto (pc := 199) 9 (by decide) d_BM_test_199 ?_
              refine a_sub (pc := 9) [3, 4, 0] rfl ?_
              exact h
            · replace h := h.2 c0
              refine a_aload_n (pc := 146) 2 rfl rfl d_BM_test_146 ?_
              refine a_callV (pc := 147) (M' := m_BM_sign) (As := []) (st := []) (mc' := 0) (ms' := 0) lk_BM_217 rfl sx_151 rfl (by decide) (by decide) rfl (Nat.le_of_ble_eq_true rfl) (Nat.le_refl 0) (Nat.le_refl 0) d_BM_test_147 h ?_
              rintro _ _ s11 ⟨r12, rfl, rfl, h⟩ -
              show Ax g m_BM_test 0 0 (ZV g Q) SH s11 0 0 150 [(4, .int r6), (3, .int r4), (0, .ref (gB g + 151)), (1, .int x1), (2, .int x2)] [.int r12]
              refine a_bipush (pc := 150) (93 : Int32) (by decide) d_BM_test_150 ?_
              refine a_icmp_eq (pc := 152) 164 (by decide) d_BM_test_152 ⟨fun c0 => ?_, fun c0 => ?_⟩
              · replace h := h.1 c0
                refine a_sub (pc := 164) [2, 3, 4] rfl ?_
                exact h
              · replace h := h.2 c0
                refine a_aload_n (pc := 155) 2 rfl rfl d_BM_test_155 ?_
                refine a_iconst (pc := 156) (0 : Int32) (by decide) d_BM_test_156 ?_
                refine a_aload_n (pc := 157) 2 rfl rfl d_BM_test_157 ?_
                refine a_getI (pc := 158) fg_BM_214 sx_151 rfl d_BM_test_158 ?_
                refine a_callV (pc := 161) (M' := m_BM_fails) (As := [.int (0 : Int32), .int (fi s11 151 12)]) (st := []) (mc' := 0) (ms' := 0) lk_BM_250 rfl sx_151 rfl (by decide) (by decide) rfl (Nat.le_of_ble_eq_true rfl) (Nat.le_refl 0) (Nat.le_refl 0) d_BM_test_161 h ?_
                rintro _ _ s13 ⟨rfl, rfl, h⟩ -
                show Ax g m_BM_test 0 0 (ZV g Q) SH s13 0 0 164 [(4, .int r6), (3, .int r4), (0, .ref (gB g + 151)), (1, .int x1), (2, .int x2)] []
                refine a_sub (pc := 164) [2, 3, 4] rfl ?_
                exact h
          · replace h := h.2 c0
            refine a_sub (pc := 82) [2, 4, 1, 0] rfl ?_
            exact h
      · replace h := h.2 c0
        refine a_aload_n (pc := 24) 0 rfl rfl d_BM_test_24 ?_
        refine a_callV (pc := 25) (M' := m_BM_fact) (As := []) (st := []) (mc' := 0) (ms' := 0) lk_BM_298 rfl sx_151 rfl (by decide) (by decide) rfl (Nat.le_of_ble_eq_true rfl) (Nat.le_refl 0) (Nat.le_refl 0) d_BM_test_25 h ?_
        rintro _ _ s14 ⟨r15, rfl, rfl, h⟩ -
        show Ax g m_BM_test 0 0 (ZV g Q) SH s14 0 0 28 [(0, .ref (gB g + 151)), (1, .int x1), (2, .int x2)] [.int r15]
        refine a_if_ne (pc := 28) 35 (by decide) d_BM_test_28 ⟨fun c0 => ?_, fun c0 => ?_⟩
        · replace h := h.1 c0
          refine a_iconst (pc := 35) (0 : Int32) (by decide) d_BM_test_35 ?_
          refine a_istore_n (pc := 36) (lv' := [(1, .int (0 : Int32)), (0, .ref (gB g + 151)), (2, .int x2)]) rfl (Nat.le_of_ble_eq_true rfl) rfl d_BM_test_36 ?_
          refine a_goto (pc := 37) 9 (by decide) d_BM_test_37 ?_
          refine a_sub (pc := 9) [1, 0, 2] rfl ?_
          exact h
        · replace h := h.2 c0
          refine a_iconst (pc := 31) (1 : Int32) (by decide) d_BM_test_31 ?_
          refine a_goto (pc := 32) 36 (by decide) d_BM_test_32 ?_
          refine a_istore_n (pc := 36) (lv' := [(1, .int (1 : Int32)), (0, .ref (gB g + 151)), (2, .int x2)]) rfl (Nat.le_of_ble_eq_true rfl) rfl d_BM_test_36 ?_
          refine a_goto (pc := 37) 9 (by decide) d_BM_test_37 ?_
          refine a_sub (pc := 9) [1, 0, 2] rfl ?_
          exact h
theorem sg_BM_test_82 {g : Gx} {Q : St → Prop} {σ : St} {x2 : Int32} {x3 : Int32} {x4 : Int32}
    (h : (x4 = 0 → (x3 = 0 → S_BM_test_105 g Q σ x2 x3 (11 : Int32)) ∧ (¬ x3 = 0 → S_BM_test_105 g Q σ x2 x3 (10 : Int32))) ∧ (¬ x4 = 0 → K_BM_answers g (11 : Int32) σ (fun s1 : St => (x3 = 0 → S_BM_test_105 g Q s1 x2 x3 (11 : Int32)) ∧ (¬ x3 = 0 → S_BM_test_105 g Q s1 x2 x3 (10 : Int32))))) : S_BM_test_82 g Q σ x2 x3 x4 := by
  show Ax g m_BM_test 0 0 (ZV g Q) SH σ 0 0 82 [(0, .ref (gB g + 151)), (2, .int x2), (3, .int x3), (4, .int x4)] []
  refine a_iload (pc := 82) 3 rfl d_BM_test_82 ?_
  refine a_if_eq (pc := 84) 93 (by decide) d_BM_test_84 ⟨fun c0 => ?_, fun c0 => ?_⟩
  · replace h := h.1 c0
    refine a_aload_n (pc := 93) 0 rfl rfl d_BM_test_93 ?_
    refine a_iload_n (pc := 94) 2 rfl rfl d_BM_test_94 ?_
    refine a_if_eq (pc := 95) 103 (by decide) d_BM_test_95 ⟨fun c0 => ?_, fun c0 => ?_⟩
    · replace h := h.1 c0
      refine a_bipush (pc := 103) (11 : Int32) (by decide) d_BM_test_103 ?_
      refine a_sub (pc := 105) [0, 1, 2] rfl ?_
      exact h
    · replace h := h.2 c0
      refine a_bipush (pc := 98) (10 : Int32) (by decide) d_BM_test_98 ?_
      refine a_goto (pc := 100) 105 (by decide) d_BM_test_100 ?_
      refine a_sub (pc := 105) [0, 1, 2] rfl ?_
      exact h
  · replace h := h.2 c0
    refine a_aload_n (pc := 87) 0 rfl rfl d_BM_test_87 ?_
    refine a_bipush (pc := 88) (11 : Int32) (by decide) d_BM_test_88 ?_
    refine a_callV (pc := 90) (M' := m_BM_answers) (As := [.int (11 : Int32)]) (st := []) (mc' := 0) (ms' := 0) lk_BM_301 rfl sx_151 rfl (by decide) (by decide) rfl (Nat.le_of_ble_eq_true rfl) (Nat.le_refl 0) (Nat.le_refl 0) d_BM_test_90 h ?_
    rintro _ _ s1 ⟨rfl, rfl, h⟩ -
    show Ax g m_BM_test 0 0 (ZV g Q) SH s1 0 0 93 [(0, .ref (gB g + 151)), (2, .int x2), (3, .int x3), (4, .int x4)] []
    refine a_aload_n (pc := 93) 0 rfl rfl d_BM_test_93 ?_
    refine a_iload_n (pc := 94) 2 rfl rfl d_BM_test_94 ?_
    refine a_if_eq (pc := 95) 103 (by decide) d_BM_test_95 ⟨fun c0 => ?_, fun c0 => ?_⟩
    · replace h := h.1 c0
      refine a_bipush (pc := 103) (11 : Int32) (by decide) d_BM_test_103 ?_
      refine a_sub (pc := 105) [0, 1, 2] rfl ?_
      exact h
    · replace h := h.2 c0
      refine a_bipush (pc := 98) (10 : Int32) (by decide) d_BM_test_98 ?_
      refine a_goto (pc := 100) 105 (by decide) d_BM_test_100 ?_
      refine a_sub (pc := 105) [0, 1, 2] rfl ?_
      exact h
theorem sg_BM_test_164 {g : Gx} {Q : St → Prop} {σ : St} {x1 : Int32} {x2 : Int32}
    (h : ∀ s1 : St, s1 = sfi σ 151 12 ((fi σ 151 12) + (1 : Int32)) → ∀ s2 : St, s2 = sfi s1 151 19 ((fi s1 151 19) - (1 : Int32)) → ∀ s3 : St, s3 = sfi s2 151 17 ((fi s2 151 17) - (1 : Int32)) → S_BM_test_9 g Q s3 x1 x2) : S_BM_test_164 g Q σ x1 x2 := by
  show Ax g m_BM_test 0 0 (ZV g Q) SH σ 0 0 164 [(0, .ref (gB g + 151)), (1, .int x1), (2, .int x2)] []
  refine a_aload_n (pc := 164) 0 rfl rfl d_BM_test_164 ?_
  refine a_dup (pc := 165) rfl d_BM_test_165 ?_
  refine a_getI (pc := 166) fg_BM_214 sx_151 rfl d_BM_test_166 ?_
  refine a_iconst (pc := 169) (1 : Int32) (by decide) d_BM_test_169 ?_
  refine a_iadd (pc := 170) d_BM_test_170 ?_
  refine a_putI (pc := 171) fp_BM_214 sx_151 rfl d_BM_test_171 ?_
  refine a_nms (fun s1 hs1 => ?_)
  replace h := h s1 hs1
  refine a_aload_n (pc := 174) 0 rfl rfl d_BM_test_174 ?_
  refine a_dup (pc := 175) rfl d_BM_test_175 ?_
  refine a_getI (pc := 176) fg_BM_281 sx_151 rfl d_BM_test_176 ?_
  refine a_iconst (pc := 179) (1 : Int32) (by decide) d_BM_test_179 ?_
  refine a_isub (pc := 180) d_BM_test_180 ?_
  refine a_putI (pc := 181) fp_BM_281 sx_151 rfl d_BM_test_181 ?_
  refine a_nms (fun s2 hs2 => ?_)
  replace h := h s2 hs2
  refine a_aload_n (pc := 184) 0 rfl rfl d_BM_test_184 ?_
  refine a_dup (pc := 185) rfl d_BM_test_185 ?_
  refine a_getI (pc := 186) fg_BM_284 sx_151 rfl d_BM_test_186 ?_
  refine a_iconst (pc := 189) (1 : Int32) (by decide) d_BM_test_189 ?_
  refine a_isub (pc := 190) d_BM_test_190 ?_
  refine a_putI (pc := 191) fp_BM_284 sx_151 rfl d_BM_test_191 ?_
  refine a_nms (fun s3 hs3 => ?_)
  replace h := h s3 hs3
  refine a_goto (pc := 194) 199 (by decide) d_BM_test_194 ?_
  refine a_goto (pc := 199) 9 (by decide) d_BM_test_199 ?_
  refine a_sub (pc := 9) [0, 1, 2] rfl ?_
  exact h
theorem sg_BM_test_105 {g : Gx} {Q : St → Prop} {σ : St} {x2 : Int32} {x3 : Int32} {z0 : Int32}
    (h : K_BM_opens g z0 σ (fun s1 : St => (x3 = 0 → ∀ s2 : St, s2 = sfi s1 151 12 ((fi s1 151 12) + (2 : Int32)) → S_BM_test_9 g Q s2 (1 : Int32) x2) ∧ (¬ x3 = 0 → ∀ s3 : St, s3 = sfi s1 151 12 ((fi s1 151 12) + (3 : Int32)) → S_BM_test_9 g Q s3 (1 : Int32) x2))) : S_BM_test_105 g Q σ x2 x3 z0 := by
  show Ax g m_BM_test 0 0 (ZV g Q) SH σ 0 0 105 [(0, .ref (gB g + 151)), (2, .int x2), (3, .int x3)] [.int z0, .ref (gB g + 151)]
  refine a_callV (pc := 105) (M' := m_BM_opens) (As := [.int z0]) (st := []) (mc' := 0) (ms' := 0) lk_BM_292 rfl sx_151 rfl (by decide) (by decide) rfl (Nat.le_of_ble_eq_true rfl) (Nat.le_refl 0) (Nat.le_refl 0) d_BM_test_105 h ?_
  rintro _ _ s1 ⟨rfl, rfl, h⟩ -
  show Ax g m_BM_test 0 0 (ZV g Q) SH s1 0 0 108 [(0, .ref (gB g + 151)), (2, .int x2), (3, .int x3)] []
  refine a_aload_n (pc := 108) 0 rfl rfl d_BM_test_108 ?_
  refine a_dup (pc := 109) rfl d_BM_test_109 ?_
  refine a_getI (pc := 110) fg_BM_214 sx_151 rfl d_BM_test_110 ?_
  refine a_iload_n (pc := 113) 2 rfl rfl d_BM_test_113 ?_
  refine a_if_eq (pc := 114) 121 (by decide) d_BM_test_114 ⟨fun c0 => ?_, fun c0 => ?_⟩
  · replace h := h.1 c0
    refine a_iconst (pc := 121) (2 : Int32) (by decide) d_BM_test_121 ?_
    refine a_iadd (pc := 122) d_BM_test_122 ?_
    refine a_putI (pc := 123) fp_BM_214 sx_151 rfl d_BM_test_123 ?_
    refine a_nms (fun s2 hs2 => ?_)
    replace h := h s2 hs2
    refine a_iconst (pc := 126) (1 : Int32) (by decide) d_BM_test_126 ?_
    refine a_istore_n (pc := 127) (lv' := [(1, .int (1 : Int32)), (0, .ref (gB g + 151)), (2, .int x2), (3, .int x3)]) rfl (Nat.le_of_ble_eq_true rfl) rfl d_BM_test_127 ?_
    refine a_goto (pc := 128) 199 (by decide) d_BM_test_128 ?_
    refine a_goto (pc := 199) 9 (by decide) d_BM_test_199 ?_
    refine a_sub (pc := 9) [1, 0, 2] rfl ?_
    exact h
  · replace h := h.2 c0
    refine a_iconst (pc := 117) (3 : Int32) (by decide) d_BM_test_117 ?_
    refine a_goto (pc := 118) 122 (by decide) d_BM_test_118 ?_
    refine a_iadd (pc := 122) d_BM_test_122 ?_
    refine a_putI (pc := 123) fp_BM_214 sx_151 rfl d_BM_test_123 ?_
    refine a_nms (fun s3 hs3 => ?_)
    replace h := h s3 hs3
    refine a_iconst (pc := 126) (1 : Int32) (by decide) d_BM_test_126 ?_
    refine a_istore_n (pc := 127) (lv' := [(1, .int (1 : Int32)), (0, .ref (gB g + 151)), (2, .int x2), (3, .int x3)]) rfl (Nat.le_of_ble_eq_true rfl) rfl d_BM_test_127 ?_
    refine a_goto (pc := 128) 199 (by decide) d_BM_test_128 ?_
    refine a_goto (pc := 199) 9 (by decide) d_BM_test_199 ?_
    refine a_sub (pc := 9) [1, 0, 2] rfl ?_
    exact h
theorem ko_BM_test {g : Gx}  {σ : St} {Q : St → Prop} (h : S_BM_test_0 g Q σ) : K_BM_test g  σ Q := KV.of (show plainName "BallBoxModel" = true by decide) (Nat.le_of_ble_eq_true rfl) h
theorem d_BM_amount_0 : decode c_BM_amount 0 = .ok (.aload_n 0, 1) := by decide +kernel
theorem d_BM_amount_1 : decode c_BM_amount 1 = .ok (.invokevirtual 234, 3) := by decide +kernel
theorem d_BM_amount_4 : decode c_BM_amount 4 = .ok (.aload_n 0, 1) := by decide +kernel
theorem d_BM_amount_5 : decode c_BM_amount 5 = .ok (.getfield 214, 3) := by decide +kernel
theorem d_BM_amount_8 : decode c_BM_amount 8 = .ok (.istore_n 3, 1) := by decide +kernel
theorem d_BM_amount_9 : decode c_BM_amount 9 = .ok (.aload_n 0, 1) := by decide +kernel
theorem d_BM_amount_10 : decode c_BM_amount 10 = .ok (.getfield 211, 3) := by decide +kernel
theorem d_BM_amount_13 : decode c_BM_amount 13 = .ok (.ifCond .ne 13, 3) := by decide +kernel
theorem d_BM_amount_16 : decode c_BM_amount 16 = .ok (.aload_n 0, 1) := by decide +kernel
theorem d_BM_amount_17 : decode c_BM_amount 17 = .ok (.ldc_w 258, 3) := by decide +kernel
theorem d_BM_amount_20 : decode c_BM_amount 20 = .ok (.invokevirtual 259, 3) := by decide +kernel
theorem d_BM_amount_23 : decode c_BM_amount 23 = .ok (.goto 4, 3) := by decide +kernel
theorem d_BM_amount_26 : decode c_BM_amount 26 = .ok (.iconst 0, 1) := by decide +kernel
theorem d_BM_amount_27 : decode c_BM_amount 27 = .ok (.istore 4, 2) := by decide +kernel
theorem d_BM_amount_29 : decode c_BM_amount 29 = .ok (.aload_n 0, 1) := by decide +kernel
theorem d_BM_amount_30 : decode c_BM_amount 30 = .ok (.getfield 211, 3) := by decide +kernel
theorem d_BM_amount_33 : decode c_BM_amount 33 = .ok (.ifCond .ne 22, 3) := by decide +kernel
theorem d_BM_amount_36 : decode c_BM_amount 36 = .ok (.iload 4, 2) := by decide +kernel
theorem d_BM_amount_38 : decode c_BM_amount 38 = .ok (.i2l, 1) := by decide +kernel
theorem d_BM_amount_39 : decode c_BM_amount 39 = .ok (.iload_n 1, 1) := by decide +kernel
theorem d_BM_amount_40 : decode c_BM_amount 40 = .ok (.i2l, 1) := by decide +kernel
theorem d_BM_amount_41 : decode c_BM_amount 41 = .ok (.iload_n 2, 1) := by decide +kernel
theorem d_BM_amount_42 : decode c_BM_amount 42 = .ok (.i2l, 1) := by decide +kernel
theorem d_BM_amount_43 : decode c_BM_amount 43 = .ok (.invokestatic 162, 3) := by decide +kernel
theorem d_BM_amount_46 : decode c_BM_amount 46 = .ok (.ifCond .ne 9, 3) := by decide +kernel
theorem d_BM_amount_49 : decode c_BM_amount 49 = .ok (.aload_n 0, 1) := by decide +kernel
theorem d_BM_amount_50 : decode c_BM_amount 50 = .ok (.iconst 1, 1) := by decide +kernel
theorem d_BM_amount_51 : decode c_BM_amount 51 = .ok (.iload_n 3, 1) := by decide +kernel
theorem d_BM_amount_52 : decode c_BM_amount 52 = .ok (.invokevirtual 250, 3) := by decide +kernel
theorem d_BM_amount_55 : decode c_BM_amount 55 = .ok (.iload 4, 2) := by decide +kernel
theorem d_BM_amount_57 : decode c_BM_amount 57 = .ok (.ireturn, 1) := by decide +kernel
def S_BM_amount_0 (g : Gx) (Q : Int32 → St → Prop) (σ : St) (x1 : Int32) (x2 : Int32) : Prop := Ax g m_BM_amount 0 0 (ZI g Q) SH σ 0 0 0 [(0, .ref (gB g + 151)), (1, .int x1), (2, .int x2)] []
def S_BM_amount_27 (g : Gx) (Q : Int32 → St → Prop) (σ : St) (x1 : Int32) (x2 : Int32) (x3 : Int32) (z0 : Int32) : Prop := Ax g m_BM_amount 0 0 (ZI g Q) SH σ 0 0 27 [(0, .ref (gB g + 151)), (1, .int x1), (2, .int x2), (3, .int x3)] [.int z0]
theorem sg_BM_amount_0 {g : Gx} {Q : Int32 → St → Prop} {σ : St} {x1 : Int32} {x2 : Int32}
    (h : K_BM_blanks g σ (fun s1 : St => ∀ u2 : Int32, u2 = (fi s1 151 12) → (¬ (fi s1 151 13) = 0 → S_BM_amount_27 g Q s1 x1 x2 u2 (0 : Int32)) ∧ ((fi s1 151 13) = 0 → K_BM_digits g (99999 : Int32) s1 (fun (r4 : Int32) (s3 : St) => S_BM_amount_27 g Q s3 x1 x2 u2 r4)))) : S_BM_amount_0 g Q σ x1 x2 := by
  show Ax g m_BM_amount 0 0 (ZI g Q) SH σ 0 0 0 [(0, .ref (gB g + 151)), (1, .int x1), (2, .int x2)] []
  refine a_aload_n (pc := 0) 0 rfl rfl d_BM_amount_0 ?_
  refine a_callV (pc := 1) (M' := m_BM_blanks) (As := []) (st := []) (mc' := 0) (ms' := 0) lk_BM_234 rfl sx_151 rfl (by decide) (by decide) rfl (Nat.le_of_ble_eq_true rfl) (Nat.le_refl 0) (Nat.le_refl 0) d_BM_amount_1 h ?_
  rintro _ _ s1 ⟨rfl, rfl, h⟩ -
  show Ax g m_BM_amount 0 0 (ZI g Q) SH s1 0 0 4 [(0, .ref (gB g + 151)), (1, .int x1), (2, .int x2)] []
  refine a_aload_n (pc := 4) 0 rfl rfl d_BM_amount_4 ?_
  refine a_getI (pc := 5) fg_BM_214 sx_151 rfl d_BM_amount_5 ?_
  refine a_nmi (pc := 8) (fun u2 hu2 => ?_)
  replace h := h u2 hu2
  refine a_istore_n (pc := 8) (lv' := [(3, .int u2), (0, .ref (gB g + 151)), (1, .int x1), (2, .int x2)]) rfl (Nat.le_of_ble_eq_true rfl) rfl d_BM_amount_8 ?_
  refine a_aload_n (pc := 9) 1 rfl rfl d_BM_amount_9 ?_
  refine a_getI (pc := 10) fg_BM_211 sx_151 rfl d_BM_amount_10 ?_
  refine a_if_ne (pc := 13) 26 (by decide) d_BM_amount_13 ⟨fun c0 => ?_, fun c0 => ?_⟩
  · replace h := h.1 c0
    refine a_iconst (pc := 26) (0 : Int32) (by decide) d_BM_amount_26 ?_
    refine a_sub (pc := 27) [1, 2, 3, 0] rfl ?_
    exact h
  · replace h := h.2 c0
    refine a_aload_n (pc := 16) 1 rfl rfl d_BM_amount_16 ?_
    refine a_ldcw (pc := 17) tw1539 d_BM_amount_17 ?_
    refine a_callV (pc := 20) (M' := m_BM_digits) (As := [.int (99999 : Int32)]) (st := []) (mc' := 0) (ms' := 0) lk_BM_259 rfl sx_151 rfl (by decide) (by decide) rfl (Nat.le_of_ble_eq_true rfl) (Nat.le_refl 0) (Nat.le_refl 0) d_BM_amount_20 h ?_
    rintro _ _ s3 ⟨r4, rfl, rfl, h⟩ -
    show Ax g m_BM_amount 0 0 (ZI g Q) SH s3 0 0 23 [(3, .int u2), (0, .ref (gB g + 151)), (1, .int x1), (2, .int x2)] [.int r4]
    refine a_goto (pc := 23) 27 (by decide) d_BM_amount_23 ?_
    refine a_sub (pc := 27) [1, 2, 3, 0] rfl ?_
    exact h
theorem sg_BM_amount_27 {g : Gx} {Q : Int32 → St → Prop} {σ : St} {x1 : Int32} {x2 : Int32} {x3 : Int32} {z0 : Int32}
    (h : (¬ (fi σ 151 13) = 0 → Q z0 σ) ∧ ((fi σ 151 13) = 0 → K_BM_in g ((z0).toInt64) ((x1).toInt64) ((x2).toInt64) σ (fun (r2 : Int32) (s1 : St) => (¬ r2 = 0 → Q z0 s1) ∧ (r2 = 0 → K_BM_fails g (1 : Int32) x3 s1 (fun s3 : St => Q z0 s3))))) : S_BM_amount_27 g Q σ x1 x2 x3 z0 := by
  show Ax g m_BM_amount 0 0 (ZI g Q) SH σ 0 0 27 [(0, .ref (gB g + 151)), (1, .int x1), (2, .int x2), (3, .int x3)] [.int z0]
  refine a_istore (pc := 27) (lv' := [(4, .int z0), (0, .ref (gB g + 151)), (1, .int x1), (2, .int x2), (3, .int x3)]) (Nat.le_of_ble_eq_true rfl) rfl d_BM_amount_27 ?_
  refine a_aload_n (pc := 29) 1 rfl rfl d_BM_amount_29 ?_
  refine a_getI (pc := 30) fg_BM_211 sx_151 rfl d_BM_amount_30 ?_
  refine a_if_ne (pc := 33) 55 (by decide) d_BM_amount_33 ⟨fun c0 => ?_, fun c0 => ?_⟩
  · replace h := h.1 c0
    refine a_iload (pc := 55) 0 rfl d_BM_amount_55 ?_
    exact b_iret (pc := 57) rfl d_BM_amount_57 h
  · replace h := h.2 c0
    refine a_iload (pc := 36) 0 rfl d_BM_amount_36 ?_
    refine a_i2l (pc := 38) d_BM_amount_38 ?_
    refine a_iload_n (pc := 39) 2 rfl rfl d_BM_amount_39 ?_
    refine a_i2l (pc := 40) d_BM_amount_40 ?_
    refine a_iload_n (pc := 41) 3 rfl rfl d_BM_amount_41 ?_
    refine a_i2l (pc := 42) d_BM_amount_42 ?_
    refine a_callS (pc := 43) (M' := m_BM_in) (As := [.long ((z0).toInt64), .long ((x1).toInt64), .long ((x2).toInt64)]) (st := []) (mc' := 0) (ms' := 0) lk_BM_162 rfl (by decide) (by decide) rfl (Nat.le_of_ble_eq_true rfl) (Nat.le_refl 0) (Nat.le_refl 0) d_BM_amount_43 h ?_
    rintro _ _ s1 ⟨r2, rfl, rfl, h⟩ -
    show Ax g m_BM_amount 0 0 (ZI g Q) SH s1 0 0 46 [(4, .int z0), (0, .ref (gB g + 151)), (1, .int x1), (2, .int x2), (3, .int x3)] [.int r2]
    refine a_if_ne (pc := 46) 55 (by decide) d_BM_amount_46 ⟨fun c0 => ?_, fun c0 => ?_⟩
    · replace h := h.1 c0
      refine a_iload (pc := 55) 0 rfl d_BM_amount_55 ?_
      exact b_iret (pc := 57) rfl d_BM_amount_57 h
    · replace h := h.2 c0
      refine a_aload_n (pc := 49) 1 rfl rfl d_BM_amount_49 ?_
      refine a_iconst (pc := 50) (1 : Int32) (by decide) d_BM_amount_50 ?_
      refine a_iload_n (pc := 51) 4 rfl rfl d_BM_amount_51 ?_
      refine a_callV (pc := 52) (M' := m_BM_fails) (As := [.int (1 : Int32), .int x3]) (st := []) (mc' := 0) (ms' := 0) lk_BM_250 rfl sx_151 rfl (by decide) (by decide) rfl (Nat.le_of_ble_eq_true rfl) (Nat.le_refl 0) (Nat.le_refl 0) d_BM_amount_52 h ?_
      rintro _ _ s3 ⟨rfl, rfl, h⟩ -
      show Ax g m_BM_amount 0 0 (ZI g Q) SH s3 0 0 55 [(4, .int z0), (0, .ref (gB g + 151)), (1, .int x1), (2, .int x2), (3, .int x3)] []
      refine a_iload (pc := 55) 0 rfl d_BM_amount_55 ?_
      exact b_iret (pc := 57) rfl d_BM_amount_57 h
theorem ko_BM_amount {g : Gx}  {x1 : Int32} {x2 : Int32} {σ : St} {Q : Int32 → St → Prop} (h : S_BM_amount_0 g Q σ x1 x2) : K_BM_amount g x1 x2 σ Q := KI.of (show plainName "BallBoxModel" = true by decide) (Nat.le_of_ble_eq_true rfl) h
theorem d_BM_signKind_0 : decode c_BM_signKind 0 = .ok (.aload_n 0, 1) := by decide +kernel
theorem d_BM_signKind_1 : decode c_BM_signKind 1 = .ok (.getfield 214, 3) := by decide +kernel
theorem d_BM_signKind_4 : decode c_BM_signKind 4 = .ok (.aload_n 0, 1) := by decide +kernel
theorem d_BM_signKind_5 : decode c_BM_signKind 5 = .ok (.getfield 188, 3) := by decide +kernel
theorem d_BM_signKind_8 : decode c_BM_signKind 8 = .ok (.if_icmp .lt 5, 3) := by decide +kernel
theorem d_BM_signKind_11 : decode c_BM_signKind 11 = .ok (.iconst (-1), 1) := by decide +kernel
theorem d_BM_signKind_12 : decode c_BM_signKind 12 = .ok (.ireturn, 1) := by decide +kernel
theorem d_BM_signKind_13 : decode c_BM_signKind 13 = .ok (.aload_n 0, 1) := by decide +kernel
theorem d_BM_signKind_14 : decode c_BM_signKind 14 = .ok (.getfield 44, 3) := by decide +kernel
theorem d_BM_signKind_17 : decode c_BM_signKind 17 = .ok (.aload_n 0, 1) := by decide +kernel
theorem d_BM_signKind_18 : decode c_BM_signKind 18 = .ok (.getfield 214, 3) := by decide +kernel
theorem d_BM_signKind_21 : decode c_BM_signKind 21 = .ok (.baload, 1) := by decide +kernel
theorem d_BM_signKind_22 : decode c_BM_signKind 22 = .ok (.lookupswitch 60 #[(35, 52), (46, 50), (49, 54), (50, 56), (51, 58)], 50) := by decide +kernel
theorem d_BM_signKind_72 : decode c_BM_signKind 72 = .ok (.iconst 0, 1) := by decide +kernel
theorem d_BM_signKind_73 : decode c_BM_signKind 73 = .ok (.ireturn, 1) := by decide +kernel
theorem d_BM_signKind_74 : decode c_BM_signKind 74 = .ok (.iconst 1, 1) := by decide +kernel
theorem d_BM_signKind_75 : decode c_BM_signKind 75 = .ok (.ireturn, 1) := by decide +kernel
theorem d_BM_signKind_76 : decode c_BM_signKind 76 = .ok (.iconst 2, 1) := by decide +kernel
theorem d_BM_signKind_77 : decode c_BM_signKind 77 = .ok (.ireturn, 1) := by decide +kernel
theorem d_BM_signKind_78 : decode c_BM_signKind 78 = .ok (.iconst 3, 1) := by decide +kernel
theorem d_BM_signKind_79 : decode c_BM_signKind 79 = .ok (.ireturn, 1) := by decide +kernel
theorem d_BM_signKind_80 : decode c_BM_signKind 80 = .ok (.iconst 4, 1) := by decide +kernel
theorem d_BM_signKind_81 : decode c_BM_signKind 81 = .ok (.ireturn, 1) := by decide +kernel
theorem d_BM_signKind_82 : decode c_BM_signKind 82 = .ok (.iconst (-1), 1) := by decide +kernel
theorem d_BM_signKind_83 : decode c_BM_signKind 83 = .ok (.ireturn, 1) := by decide +kernel
def S_BM_signKind_0 (g : Gx) (Q : Int32 → St → Prop) (σ : St) : Prop := Ax g m_BM_signKind 0 0 (ZI g Q) SH σ 0 0 0 [(0, .ref (gB g + 151))] []
theorem sg_BM_signKind_0 {g : Gx} {Q : Int32 → St → Prop} {σ : St}
    (h : ((fi σ 151 12) < (fi σ 151 11) → vp_in (fi σ 151 12) 400 ∧ ((((ai σ 162 ((fi σ 151 12)).toNatClampNeg) = (35 : Int32) → Q (1 : Int32) σ) ∧ ((ai σ 162 ((fi σ 151 12)).toNatClampNeg) = (46 : Int32) → Q (0 : Int32) σ) ∧ ((ai σ 162 ((fi σ 151 12)).toNatClampNeg) = (49 : Int32) → Q (2 : Int32) σ) ∧ ((ai σ 162 ((fi σ 151 12)).toNatClampNeg) = (50 : Int32) → Q (3 : Int32) σ) ∧ ((ai σ 162 ((fi σ 151 12)).toNatClampNeg) = (51 : Int32) → Q (4 : Int32) σ) ∧ (¬ (ai σ 162 ((fi σ 151 12)).toNatClampNeg) = (35 : Int32) → ¬ (ai σ 162 ((fi σ 151 12)).toNatClampNeg) = (46 : Int32) → ¬ (ai σ 162 ((fi σ 151 12)).toNatClampNeg) = (49 : Int32) → ¬ (ai σ 162 ((fi σ 151 12)).toNatClampNeg) = (50 : Int32) → ¬ (ai σ 162 ((fi σ 151 12)).toNatClampNeg) = (51 : Int32) → Q (-1 : Int32) σ)))) ∧ (¬ (fi σ 151 12) < (fi σ 151 11) → Q (-1 : Int32) σ)) : S_BM_signKind_0 g Q σ := by
  show Ax g m_BM_signKind 0 0 (ZI g Q) SH σ 0 0 0 [(0, .ref (gB g + 151))] []
  refine a_aload_n (pc := 0) 0 rfl rfl d_BM_signKind_0 ?_
  refine a_getI (pc := 1) fg_BM_214 sx_151 rfl d_BM_signKind_1 ?_
  refine a_aload_n (pc := 4) 0 rfl rfl d_BM_signKind_4 ?_
  refine a_getI (pc := 5) fg_BM_188 sx_151 rfl d_BM_signKind_5 ?_
  refine a_icmp_lt (pc := 8) 13 (by decide) d_BM_signKind_8 ⟨fun c0 => ?_, fun c0 => ?_⟩
  · replace h := h.1 c0
    refine a_aload_n (pc := 13) 0 rfl rfl d_BM_signKind_13 ?_
    refine a_getR (pc := 14) fg_BM_44 sx_151 rfl d_BM_signKind_14 ?_
    refine a_aload_n (pc := 17) 0 rfl rfl d_BM_signKind_17 ?_
    refine a_getI (pc := 18) fg_BM_214 sx_151 rfl d_BM_signKind_18 ?_
    obtain ⟨hx, h⟩ := h
    refine a_bald (pc := 21) sx_162 hx d_BM_signKind_21 ?_
    by_cases c0 : (ai σ 162 ((fi σ 151 12)).toNatClampNeg) = (35 : Int32)
    · replace h := h.1 c0
      refine a_lookup (pc := 22) 74 (off := 52) rfl (by rw [c0]; rfl) (by decide) d_BM_signKind_22 ?_
      refine a_iconst (pc := 74) (1 : Int32) (by decide) d_BM_signKind_74 ?_
      exact b_iret (pc := 75) rfl d_BM_signKind_75 h
    replace h := h.2
    by_cases c1 : (ai σ 162 ((fi σ 151 12)).toNatClampNeg) = (46 : Int32)
    · replace h := h.1 c1
      refine a_lookup (pc := 22) 72 (off := 50) rfl (by rw [c1]; rfl) (by decide) d_BM_signKind_22 ?_
      refine a_iconst (pc := 72) (0 : Int32) (by decide) d_BM_signKind_72 ?_
      exact b_iret (pc := 73) rfl d_BM_signKind_73 h
    replace h := h.2
    by_cases c2 : (ai σ 162 ((fi σ 151 12)).toNatClampNeg) = (49 : Int32)
    · replace h := h.1 c2
      refine a_lookup (pc := 22) 76 (off := 54) rfl (by rw [c2]; rfl) (by decide) d_BM_signKind_22 ?_
      refine a_iconst (pc := 76) (2 : Int32) (by decide) d_BM_signKind_76 ?_
      exact b_iret (pc := 77) rfl d_BM_signKind_77 h
    replace h := h.2
    by_cases c3 : (ai σ 162 ((fi σ 151 12)).toNatClampNeg) = (50 : Int32)
    · replace h := h.1 c3
      refine a_lookup (pc := 22) 78 (off := 56) rfl (by rw [c3]; rfl) (by decide) d_BM_signKind_22 ?_
      refine a_iconst (pc := 78) (3 : Int32) (by decide) d_BM_signKind_78 ?_
      exact b_iret (pc := 79) rfl d_BM_signKind_79 h
    replace h := h.2
    by_cases c4 : (ai σ 162 ((fi σ 151 12)).toNatClampNeg) = (51 : Int32)
    · replace h := h.1 c4
      refine a_lookup (pc := 22) 80 (off := 58) rfl (by rw [c4]; rfl) (by decide) d_BM_signKind_22 ?_
      refine a_iconst (pc := 80) (4 : Int32) (by decide) d_BM_signKind_80 ?_
      exact b_iret (pc := 81) rfl d_BM_signKind_81 h
    replace h := h.2
    replace h := h c0 c1 c2 c3 c4
    refine a_lookup (pc := 22) 82 (off := 60) rfl (by refine (lv_osw c0 rfl).trans ?_; refine (lv_osw c1 rfl).trans ?_; refine (lv_osw c2 rfl).trans ?_; refine (lv_osw c3 rfl).trans ?_; refine (lv_osw c4 rfl).trans ?_; rfl) (by decide) d_BM_signKind_22 ?_
    refine a_iconst (pc := 82) (-1 : Int32) (by decide) d_BM_signKind_82 ?_
    exact b_iret (pc := 83) rfl d_BM_signKind_83 h
  · replace h := h.2 c0
    refine a_iconst (pc := 11) (-1 : Int32) (by decide) d_BM_signKind_11 ?_
    exact b_iret (pc := 12) rfl d_BM_signKind_12 h
theorem ko_BM_signKind {g : Gx}  {σ : St} {Q : Int32 → St → Prop} (h : S_BM_signKind_0 g Q σ) : K_BM_signKind g  σ Q := KI.of (show plainName "BallBoxModel" = true by decide) (Nat.le_of_ble_eq_true rfl) h
