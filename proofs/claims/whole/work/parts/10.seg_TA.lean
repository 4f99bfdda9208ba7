theorem d_TA_takeFour_0 : decode c_TA_takeFour 0 = .ok (.bipush 24, 2) := by decide +kernel
theorem d_TA_takeFour_2 : decode c_TA_takeFour 2 = .ok (.istore_n 2, 1) := by decide +kernel
theorem d_TA_takeFour_3 : decode c_TA_takeFour 3 = .ok (.iload_n 2, 1) := by decide +kernel
theorem d_TA_takeFour_4 : decode c_TA_takeFour 4 = .ok (.ifCond .lt 45, 3) := by decide +kernel
theorem d_TA_takeFour_7 : decode c_TA_takeFour 7 = .ok (.aload_n 0, 1) := by decide +kernel
theorem d_TA_takeFour_8 : decode c_TA_takeFour 8 = .ok (.getfield 15, 3) := by decide +kernel
theorem d_TA_takeFour_11 : decode c_TA_takeFour 11 = .ok (.sipush 400, 3) := by decide +kernel
theorem d_TA_takeFour_14 : decode c_TA_takeFour 14 = .ok (.if_icmp .ge 29, 3) := by decide +kernel
theorem d_TA_takeFour_17 : decode c_TA_takeFour 17 = .ok (.aload_n 0, 1) := by decide +kernel
theorem d_TA_takeFour_18 : decode c_TA_takeFour 18 = .ok (.getfield 11, 3) := by decide +kernel
theorem d_TA_takeFour_21 : decode c_TA_takeFour 21 = .ok (.aload_n 0, 1) := by decide +kernel
theorem d_TA_takeFour_22 : decode c_TA_takeFour 22 = .ok (.getfield 15, 3) := by decide +kernel
theorem d_TA_takeFour_25 : decode c_TA_takeFour 25 = .ok (.iload_n 1, 1) := by decide +kernel
theorem d_TA_takeFour_26 : decode c_TA_takeFour 26 = .ok (.iload_n 2, 1) := by decide +kernel
theorem d_TA_takeFour_27 : decode c_TA_takeFour 27 = .ok (.iushr, 1) := by decide +kernel
theorem d_TA_takeFour_28 : decode c_TA_takeFour 28 = .ok (.sipush 255, 3) := by decide +kernel
theorem d_TA_takeFour_31 : decode c_TA_takeFour 31 = .ok (.iand, 1) := by decide +kernel
theorem d_TA_takeFour_32 : decode c_TA_takeFour 32 = .ok (.iastore, 1) := by decide +kernel
theorem d_TA_takeFour_33 : decode c_TA_takeFour 33 = .ok (.aload_n 0, 1) := by decide +kernel
theorem d_TA_takeFour_34 : decode c_TA_takeFour 34 = .ok (.dup, 1) := by decide +kernel
theorem d_TA_takeFour_35 : decode c_TA_takeFour 35 = .ok (.getfield 15, 3) := by decide +kernel
theorem d_TA_takeFour_38 : decode c_TA_takeFour 38 = .ok (.iconst 1, 1) := by decide +kernel
theorem d_TA_takeFour_39 : decode c_TA_takeFour 39 = .ok (.iadd, 1) := by decide +kernel
theorem d_TA_takeFour_40 : decode c_TA_takeFour 40 = .ok (.putfield 15, 3) := by decide +kernel
theorem d_TA_takeFour_43 : decode c_TA_takeFour 43 = .ok (.iinc 2 (-8), 3) := by decide +kernel
theorem d_TA_takeFour_46 : decode c_TA_takeFour 46 = .ok (.goto (-43), 3) := by decide +kernel
theorem d_TA_takeFour_49 : decode c_TA_takeFour 49 = .ok (.return_, 1) := by decide +kernel
def S_TA_takeFour_0 (g : Gx) (Q : St → Prop) (σ : St) (x1 : Int32) : Prop := Ax g m_TA_takeFour 0 0 (ZV g Q) SH σ 0 0 0 [(0, .ref (gB g + 1)), (1, .int x1)] []
def S_TA_takeFour_3 (g : Gx) (Q : St → Prop) (σ : St) (x1 : Int32) (x2 : Int32) : Prop := Ax g m_TA_takeFour 0 0 (ZV g Q) SH σ 0 0 3 [(0, .ref (gB g + 1)), (1, .int x1), (2, .int x2)] []
theorem sg_TA_takeFour_0 {g : Gx} {Q : St → Prop} {σ : St} {x1 : Int32}
    (h : S_TA_takeFour_3 g Q σ x1 (24 : Int32)) : S_TA_takeFour_0 g Q σ x1 := by
  show Ax g m_TA_takeFour 0 0 (ZV g Q) SH σ 0 0 0 [(0, .ref (gB g + 1)), (1, .int x1)] []
  refine a_bipush (pc := 0) (24 : Int32) (by decide) d_TA_takeFour_0 ?_
  refine a_istore_n (pc := 2) (lv' := [(2, .int (24 : Int32)), (0, .ref (gB g + 1)), (1, .int x1)]) rfl (Nat.le_of_ble_eq_true rfl) rfl d_TA_takeFour_2 ?_
  refine a_sub (pc := 3) [1, 2, 0] rfl ?_
  exact h
theorem sg_TA_takeFour_3 {g : Gx} {Q : St → Prop} {σ : St} {x1 : Int32} {x2 : Int32}
    (h : (x2 < 0 → Q σ) ∧ (¬ x2 < 0 → ((400 : Int32) ≤ (fi σ 1 1) → ∀ u1 : Int32, u1 = x2 + (-8 : Int32) → S_TA_takeFour_3 g Q σ x1 u1) ∧ (¬ (400 : Int32) ≤ (fi σ 1 1) → vp_in (fi σ 1 1) 400 ∧ (∀ s2 : St, s2 = sai σ 2 ((fi σ 1 1)).toNatClampNeg (((x1).toUInt32 >>> ((x2).toUInt32 &&& Int32.toUInt32 31)).toInt32 &&& (255 : Int32)) → ∀ s3 : St, s3 = sfi s2 1 1 ((fi s2 1 1) + (1 : Int32)) → ∀ u4 : Int32, u4 = x2 + (-8 : Int32) → S_TA_takeFour_3 g Q s3 x1 u4)))) : S_TA_takeFour_3 g Q σ x1 x2 := by
  show Ax g m_TA_takeFour 0 0 (ZV g Q) SH σ 0 0 3 [(0, .ref (gB g + 1)), (1, .int x1), (2, .int x2)] []
  refine a_iload_n (pc := 3) 2 rfl rfl d_TA_takeFour_3 ?_
  refine a_if_lt (pc := 4) 49 (by decide) d_TA_takeFour_4 ⟨fun c0 => ?_, fun c0 => ?_⟩
  · replace h := h.1 c0
    exact b_vret (pc := 49) rfl d_TA_takeFour_49 h
  · replace h := h.2 c0
    refine a_aload_n (pc := 7) 0 rfl rfl d_TA_takeFour_7 ?_
    refine a_getI (pc := 8) fg_TA_15 sx_1 rfl d_TA_takeFour_8 ?_
    refine a_sipush (pc := 11) (400 : Int32) (by decide) d_TA_takeFour_11 ?_
    refine a_icmp_ge (pc := 14) 43 (by decide) d_TA_takeFour_14 ⟨fun c0 => ?_, fun c0 => ?_⟩
    · replace h := h.1 c0
      obtain ⟨u1, hu1⟩ : ∃ y : Int32, y = x2 + (-8 : Int32) := ⟨_, rfl⟩
      replace h := h u1 hu1
      refine a_iinc (pc := 43) (v := u1) (lv' := [(2, .int u1), (0, .ref (gB g + 1)), (1, .int x1)]) 2 rfl (by rw [hu1]; rfl) (Nat.le_of_ble_eq_true rfl) rfl d_TA_takeFour_43 ?_
      refine a_goto (pc := 46) 3 (by decide) d_TA_takeFour_46 ?_
      refine a_sub (pc := 3) [1, 2, 0] rfl ?_
      exact h
    · replace h := h.2 c0
      refine a_aload_n (pc := 17) 0 rfl rfl d_TA_takeFour_17 ?_
      refine a_getR (pc := 18) fg_TA_11 sx_1 rfl d_TA_takeFour_18 ?_
      refine a_aload_n (pc := 21) 0 rfl rfl d_TA_takeFour_21 ?_
      refine a_getI (pc := 22) fg_TA_15 sx_1 rfl d_TA_takeFour_22 ?_
      refine a_iload_n (pc := 25) 1 rfl rfl d_TA_takeFour_25 ?_
      refine a_iload_n (pc := 26) 2 rfl rfl d_TA_takeFour_26 ?_
      refine a_iushr (pc := 27) d_TA_takeFour_27 ?_
      refine a_sipush (pc := 28) (255 : Int32) (by decide) d_TA_takeFour_28 ?_
      refine a_iand (pc := 31) d_TA_takeFour_31 ?_
      obtain ⟨hx, h⟩ := h
      refine a_iast (pc := 32) sx_2 hx d_TA_takeFour_32 ?_
      refine a_nms (fun s2 hs2 => ?_)
      replace h := h s2 hs2
      refine a_aload_n (pc := 33) 0 rfl rfl d_TA_takeFour_33 ?_
      refine a_dup (pc := 34) rfl d_TA_takeFour_34 ?_
      refine a_getI (pc := 35) fg_TA_15 sx_1 rfl d_TA_takeFour_35 ?_
      refine a_iconst (pc := 38) (1 : Int32) (by decide) d_TA_takeFour_38 ?_
      refine a_iadd (pc := 39) d_TA_takeFour_39 ?_
      refine a_putI (pc := 40) fp_TA_15 sx_1 rfl d_TA_takeFour_40 ?_
      refine a_nms (fun s3 hs3 => ?_)
      replace h := h s3 hs3
      obtain ⟨u4, hu4⟩ : ∃ y : Int32, y = x2 + (-8 : Int32) := ⟨_, rfl⟩
      replace h := h u4 hu4
      refine a_iinc (pc := 43) (v := u4) (lv' := [(2, .int u4), (0, .ref (gB g + 1)), (1, .int x1)]) 2 rfl (by rw [hu4]; rfl) (Nat.le_of_ble_eq_true rfl) rfl d_TA_takeFour_43 ?_
      refine a_goto (pc := 46) 3 (by decide) d_TA_takeFour_46 ?_
      refine a_sub (pc := 3) [1, 2, 0] rfl ?_
      exact h
theorem ko_TA_takeFour {g : Gx}  {x1 : Int32} {σ : St} {Q : St → Prop} (h : S_TA_takeFour_0 g Q σ x1) : K_TA_takeFour g x1 σ Q := KV.of (show plainName "BallBox$Tape" = true by decide) (Nat.le_of_ble_eq_true rfl) h
theorem d_TA_start_0 : decode c_TA_start 0 = .ok (.aload_n 0, 1) := by decide +kernel
theorem d_TA_start_1 : decode c_TA_start 1 = .ok (.iconst 0, 1) := by decide +kernel
theorem d_TA_start_2 : decode c_TA_start 2 = .ok (.putfield 19, 3) := by decide +kernel
theorem d_TA_start_5 : decode c_TA_start 5 = .ok (.aload_n 0, 1) := by decide +kernel
theorem d_TA_start_6 : decode c_TA_start 6 = .ok (.iconst 0, 1) := by decide +kernel
theorem d_TA_start_7 : decode c_TA_start 7 = .ok (.putfield 22, 3) := by decide +kernel
theorem d_TA_start_10 : decode c_TA_start 10 = .ok (.return_, 1) := by decide +kernel
def S_TA_start_0 (g : Gx) (Q : St → Prop) (σ : St) : Prop := Ax g m_TA_start 0 0 (ZV g Q) SH σ 0 0 0 [(0, .ref (gB g + 1))] []
theorem sg_TA_start_0 {g : Gx} {Q : St → Prop} {σ : St}
    (h : ∀ s1 : St, s1 = sfi σ 1 2 (0 : Int32) → ∀ s2 : St, s2 = sfi s1 1 3 (0 : Int32) → Q s2) : S_TA_start_0 g Q σ := by
  show Ax g m_TA_start 0 0 (ZV g Q) SH σ 0 0 0 [(0, .ref (gB g + 1))] []
  refine a_aload_n (pc := 0) 0 rfl rfl d_TA_start_0 ?_
  refine a_iconst (pc := 1) (0 : Int32) (by decide) d_TA_start_1 ?_
  refine a_putI (pc := 2) fp_TA_19 sx_1 rfl d_TA_start_2 ?_
  refine a_nms (fun s1 hs1 => ?_)
  replace h := h s1 hs1
  refine a_aload_n (pc := 5) 0 rfl rfl d_TA_start_5 ?_
  refine a_iconst (pc := 6) (0 : Int32) (by decide) d_TA_start_6 ?_
  refine a_putI (pc := 7) fp_TA_22 sx_1 rfl d_TA_start_7 ?_
  refine a_nms (fun s2 hs2 => ?_)
  replace h := h s2 hs2
  exact b_vret (pc := 10) rfl d_TA_start_10 h
theorem ko_TA_start {g : Gx}  {σ : St} {Q : St → Prop} (h : S_TA_start_0 g Q σ) : K_TA_start g  σ Q := KV.of (show plainName "BallBox$Tape" = true by decide) (Nat.le_of_ble_eq_true rfl) h
theorem d_TA_blame_0 : decode c_TA_blame 0 = .ok (.aload_n 0, 1) := by decide +kernel
theorem d_TA_blame_1 : decode c_TA_blame 1 = .ok (.getfield 22, 3) := by decide +kernel
theorem d_TA_blame_4 : decode c_TA_blame 4 = .ok (.ifCond .ne 15, 3) := by decide +kernel
theorem d_TA_blame_7 : decode c_TA_blame 7 = .ok (.aload_n 0, 1) := by decide +kernel
theorem d_TA_blame_8 : decode c_TA_blame 8 = .ok (.iconst 1, 1) := by decide +kernel
theorem d_TA_blame_9 : decode c_TA_blame 9 = .ok (.bipush 8, 2) := by decide +kernel
theorem d_TA_blame_11 : decode c_TA_blame 11 = .ok (.iload_n 1, 1) := by decide +kernel
theorem d_TA_blame_12 : decode c_TA_blame 12 = .ok (.imul, 1) := by decide +kernel
theorem d_TA_blame_13 : decode c_TA_blame 13 = .ok (.iadd, 1) := by decide +kernel
theorem d_TA_blame_14 : decode c_TA_blame 14 = .ok (.iload_n 2, 1) := by decide +kernel
theorem d_TA_blame_15 : decode c_TA_blame 15 = .ok (.iadd, 1) := by decide +kernel
theorem d_TA_blame_16 : decode c_TA_blame 16 = .ok (.putfield 22, 3) := by decide +kernel
theorem d_TA_blame_19 : decode c_TA_blame 19 = .ok (.iconst 0, 1) := by decide +kernel
theorem d_TA_blame_20 : decode c_TA_blame 20 = .ok (.ireturn, 1) := by decide +kernel
def S_TA_blame_0 (g : Gx) (Q : Int32 → St → Prop) (σ : St) (x1 : Int32) (x2 : Int32) : Prop := Ax g m_TA_blame 0 0 (ZI g Q) SH σ 0 0 0 [(0, .ref (gB g + 1)), (1, .int x1), (2, .int x2)] []
theorem sg_TA_blame_0 {g : Gx} {Q : Int32 → St → Prop} {σ : St} {x1 : Int32} {x2 : Int32}
    (h : (¬ (fi σ 1 3) = 0 → Q (0 : Int32) σ) ∧ ((fi σ 1 3) = 0 → ∀ s1 : St, s1 = sfi σ 1 3 (((1 : Int32) + ((8 : Int32) * x1)) + x2) → Q (0 : Int32) s1)) : S_TA_blame_0 g Q σ x1 x2 := by
  show Ax g m_TA_blame 0 0 (ZI g Q) SH σ 0 0 0 [(0, .ref (gB g + 1)), (1, .int x1), (2, .int x2)] []
  refine a_aload_n (pc := 0) 0 rfl rfl d_TA_blame_0 ?_
  refine a_getI (pc := 1) fg_TA_22 sx_1 rfl d_TA_blame_1 ?_
  refine a_if_ne (pc := 4) 19 (by decide) d_TA_blame_4 ⟨fun c0 => ?_, fun c0 => ?_⟩
  · replace h := h.1 c0
    refine a_iconst (pc := 19) (0 : Int32) (by decide) d_TA_blame_19 ?_
    exact b_zret (pc := 20) rfl (Or.inl rfl) d_TA_blame_20 h
  · replace h := h.2 c0
    refine a_aload_n (pc := 7) 0 rfl rfl d_TA_blame_7 ?_
    refine a_iconst (pc := 8) (1 : Int32) (by decide) d_TA_blame_8 ?_
    refine a_bipush (pc := 9) (8 : Int32) (by decide) d_TA_blame_9 ?_
    refine a_iload_n (pc := 11) 1 rfl rfl d_TA_blame_11 ?_
    refine a_imul (pc := 12) d_TA_blame_12 ?_
    refine a_iadd (pc := 13) d_TA_blame_13 ?_
    refine a_iload_n (pc := 14) 2 rfl rfl d_TA_blame_14 ?_
    refine a_iadd (pc := 15) d_TA_blame_15 ?_
    refine a_putI (pc := 16) fp_TA_22 sx_1 rfl d_TA_blame_16 ?_
    refine a_nms (fun s1 hs1 => ?_)
    replace h := h s1 hs1
    refine a_iconst (pc := 19) (0 : Int32) (by decide) d_TA_blame_19 ?_
    exact b_zret (pc := 20) rfl (Or.inl rfl) d_TA_blame_20 h
theorem ko_TA_blame {g : Gx}  {x1 : Int32} {x2 : Int32} {σ : St} {Q : Int32 → St → Prop} (h : S_TA_blame_0 g Q σ x1 x2) : K_TA_blame g x1 x2 σ Q := KI.of (show plainName "BallBox$Tape" = true by decide) (Nat.le_of_ble_eq_true rfl) h
theorem d_TA_signAt_0 : decode c_TA_signAt 0 = .ok (.iload_n 1, 1) := by decide +kernel
theorem d_TA_signAt_1 : decode c_TA_signAt 1 = .ok (.ifCond .lt 20, 3) := by decide +kernel
theorem d_TA_signAt_4 : decode c_TA_signAt 4 = .ok (.iload_n 1, 1) := by decide +kernel
theorem d_TA_signAt_5 : decode c_TA_signAt 5 = .ok (.aload_n 0, 1) := by decide +kernel
theorem d_TA_signAt_6 : decode c_TA_signAt 6 = .ok (.getfield 15, 3) := by decide +kernel
theorem d_TA_signAt_9 : decode c_TA_signAt 9 = .ok (.if_icmp .ge 12, 3) := by decide +kernel
theorem d_TA_signAt_12 : decode c_TA_signAt 12 = .ok (.aload_n 0, 1) := by decide +kernel
theorem d_TA_signAt_13 : decode c_TA_signAt 13 = .ok (.getfield 11, 3) := by decide +kernel
theorem d_TA_signAt_16 : decode c_TA_signAt 16 = .ok (.iload_n 1, 1) := by decide +kernel
theorem d_TA_signAt_17 : decode c_TA_signAt 17 = .ok (.iaload, 1) := by decide +kernel
theorem d_TA_signAt_18 : decode c_TA_signAt 18 = .ok (.goto 4, 3) := by decide +kernel
theorem d_TA_signAt_21 : decode c_TA_signAt 21 = .ok (.iconst (-1), 1) := by decide +kernel
theorem d_TA_signAt_22 : decode c_TA_signAt 22 = .ok (.ireturn, 1) := by decide +kernel
def S_TA_signAt_0 (g : Gx) (Q : Int32 → St → Prop) (σ : St) (x1 : Int32) : Prop := Ax g m_TA_signAt 0 0 (ZI g Q) SH σ 0 0 0 [(0, .ref (gB g + 1)), (1, .int x1)] []
theorem sg_TA_signAt_0 {g : Gx} {Q : Int32 → St → Prop} {σ : St} {x1 : Int32}
    (h : (x1 < 0 → Q (-1 : Int32) σ) ∧ (¬ x1 < 0 → ((fi σ 1 1) ≤ x1 → Q (-1 : Int32) σ) ∧ (¬ (fi σ 1 1) ≤ x1 → vp_in x1 400 ∧ (Q (ai σ 2 (x1).toNatClampNeg) σ)))) : S_TA_signAt_0 g Q σ x1 := by
  show Ax g m_TA_signAt 0 0 (ZI g Q) SH σ 0 0 0 [(0, .ref (gB g + 1)), (1, .int x1)] []
  refine a_iload_n (pc := 0) 1 rfl rfl d_TA_signAt_0 ?_
  refine a_if_lt (pc := 1) 21 (by decide) d_TA_signAt_1 ⟨fun c0 => ?_, fun c0 => ?_⟩
  · replace h := h.1 c0
    refine a_iconst (pc := 21) (-1 : Int32) (by decide) d_TA_signAt_21 ?_
    exact b_iret (pc := 22) rfl d_TA_signAt_22 h
  · replace h := h.2 c0
    refine a_iload_n (pc := 4) 1 rfl rfl d_TA_signAt_4 ?_
    refine a_aload_n (pc := 5) 0 rfl rfl d_TA_signAt_5 ?_
    refine a_getI (pc := 6) fg_TA_15 sx_1 rfl d_TA_signAt_6 ?_
    refine a_icmp_ge (pc := 9) 21 (by decide) d_TA_signAt_9 ⟨fun c0 => ?_, fun c0 => ?_⟩
    · replace h := h.1 c0
      refine a_iconst (pc := 21) (-1 : Int32) (by decide) d_TA_signAt_21 ?_
      exact b_iret (pc := 22) rfl d_TA_signAt_22 h
    · replace h := h.2 c0
      refine a_aload_n (pc := 12) 0 rfl rfl d_TA_signAt_12 ?_
      refine a_getR (pc := 13) fg_TA_11 sx_1 rfl d_TA_signAt_13 ?_
      refine a_iload_n (pc := 16) 1 rfl rfl d_TA_signAt_16 ?_
      obtain ⟨hx, h⟩ := h
      refine a_iald (pc := 17) sx_2 hx d_TA_signAt_17 ?_
      refine a_goto (pc := 18) 22 (by decide) d_TA_signAt_18 ?_
      exact b_iret (pc := 22) rfl d_TA_signAt_22 h
theorem ko_TA_signAt {g : Gx}  {x1 : Int32} {σ : St} {Q : Int32 → St → Prop} (h : S_TA_signAt_0 g Q σ x1) : K_TA_signAt g x1 σ Q := KI.of (show plainName "BallBox$Tape" = true by decide) (Nat.le_of_ble_eq_true rfl) h
theorem d_TA_isAtEnd_0 : decode c_TA_isAtEnd 0 = .ok (.aload_n 0, 1) := by decide +kernel
theorem d_TA_isAtEnd_1 : decode c_TA_isAtEnd 1 = .ok (.getfield 19, 3) := by decide +kernel
theorem d_TA_isAtEnd_4 : decode c_TA_isAtEnd 4 = .ok (.aload_n 0, 1) := by decide +kernel
theorem d_TA_isAtEnd_5 : decode c_TA_isAtEnd 5 = .ok (.getfield 15, 3) := by decide +kernel
theorem d_TA_isAtEnd_8 : decode c_TA_isAtEnd 8 = .ok (.if_icmp .lt 7, 3) := by decide +kernel
theorem d_TA_isAtEnd_11 : decode c_TA_isAtEnd 11 = .ok (.iconst 1, 1) := by decide +kernel
theorem d_TA_isAtEnd_12 : decode c_TA_isAtEnd 12 = .ok (.goto 4, 3) := by decide +kernel
theorem d_TA_isAtEnd_15 : decode c_TA_isAtEnd 15 = .ok (.iconst 0, 1) := by decide +kernel
theorem d_TA_isAtEnd_16 : decode c_TA_isAtEnd 16 = .ok (.ireturn, 1) := by decide +kernel
def S_TA_isAtEnd_0 (g : Gx) (Q : Int32 → St → Prop) (σ : St) : Prop := Ax g m_TA_isAtEnd 0 0 (ZI g Q) SH σ 0 0 0 [(0, .ref (gB g + 1))] []
theorem sg_TA_isAtEnd_0 {g : Gx} {Q : Int32 → St → Prop} {σ : St}
    (h : ((fi σ 1 2) < (fi σ 1 1) → Q (0 : Int32) σ) ∧ (¬ (fi σ 1 2) < (fi σ 1 1) → Q (1 : Int32) σ)) : S_TA_isAtEnd_0 g Q σ := by
  show Ax g m_TA_isAtEnd 0 0 (ZI g Q) SH σ 0 0 0 [(0, .ref (gB g + 1))] []
  refine a_aload_n (pc := 0) 0 rfl rfl d_TA_isAtEnd_0 ?_
  refine a_getI (pc := 1) fg_TA_19 sx_1 rfl d_TA_isAtEnd_1 ?_
  refine a_aload_n (pc := 4) 0 rfl rfl d_TA_isAtEnd_4 ?_
  refine a_getI (pc := 5) fg_TA_15 sx_1 rfl d_TA_isAtEnd_5 ?_
  refine a_icmp_lt (pc := 8) 15 (by decide) d_TA_isAtEnd_8 ⟨fun c0 => ?_, fun c0 => ?_⟩
  · replace h := h.1 c0
    refine a_iconst (pc := 15) (0 : Int32) (by decide) d_TA_isAtEnd_15 ?_
    exact b_zret (pc := 16) rfl (Or.inl rfl) d_TA_isAtEnd_16 h
  · replace h := h.2 c0
    refine a_iconst (pc := 11) (1 : Int32) (by decide) d_TA_isAtEnd_11 ?_
    refine a_goto (pc := 12) 16 (by decide) d_TA_isAtEnd_12 ?_
    exact b_zret (pc := 16) rfl (Or.inr rfl) d_TA_isAtEnd_16 h
theorem ko_TA_isAtEnd {g : Gx}  {σ : St} {Q : Int32 → St → Prop} (h : S_TA_isAtEnd_0 g Q σ) : K_TA_isAtEnd g  σ Q := KI.of (show plainName "BallBox$Tape" = true by decide) (Nat.le_of_ble_eq_true rfl) h
theorem d_TA_skipBlanks_0 : decode c_TA_skipBlanks 0 = .ok (.aload_n 0, 1) := by decide +kernel
theorem d_TA_skipBlanks_1 : decode c_TA_skipBlanks 1 = .ok (.getfield 19, 3) := by decide +kernel
theorem d_TA_skipBlanks_4 : decode c_TA_skipBlanks 4 = .ok (.aload_n 0, 1) := by decide +kernel
theorem d_TA_skipBlanks_5 : decode c_TA_skipBlanks 5 = .ok (.getfield 15, 3) := by decide +kernel
theorem d_TA_skipBlanks_8 : decode c_TA_skipBlanks 8 = .ok (.if_icmp .ge 30, 3) := by decide +kernel
theorem d_TA_skipBlanks_11 : decode c_TA_skipBlanks 11 = .ok (.aload_n 0, 1) := by decide +kernel
theorem d_TA_skipBlanks_12 : decode c_TA_skipBlanks 12 = .ok (.getfield 11, 3) := by decide +kernel
theorem d_TA_skipBlanks_15 : decode c_TA_skipBlanks 15 = .ok (.aload_n 0, 1) := by decide +kernel
theorem d_TA_skipBlanks_16 : decode c_TA_skipBlanks 16 = .ok (.getfield 19, 3) := by decide +kernel
theorem d_TA_skipBlanks_19 : decode c_TA_skipBlanks 19 = .ok (.iaload, 1) := by decide +kernel
theorem d_TA_skipBlanks_20 : decode c_TA_skipBlanks 20 = .ok (.bipush 32, 2) := by decide +kernel
theorem d_TA_skipBlanks_22 : decode c_TA_skipBlanks 22 = .ok (.if_icmp .ne 16, 3) := by decide +kernel
theorem d_TA_skipBlanks_25 : decode c_TA_skipBlanks 25 = .ok (.aload_n 0, 1) := by decide +kernel
theorem d_TA_skipBlanks_26 : decode c_TA_skipBlanks 26 = .ok (.dup, 1) := by decide +kernel
theorem d_TA_skipBlanks_27 : decode c_TA_skipBlanks 27 = .ok (.getfield 19, 3) := by decide +kernel
theorem d_TA_skipBlanks_30 : decode c_TA_skipBlanks 30 = .ok (.iconst 1, 1) := by decide +kernel
theorem d_TA_skipBlanks_31 : decode c_TA_skipBlanks 31 = .ok (.iadd, 1) := by decide +kernel
theorem d_TA_skipBlanks_32 : decode c_TA_skipBlanks 32 = .ok (.putfield 19, 3) := by decide +kernel
theorem d_TA_skipBlanks_35 : decode c_TA_skipBlanks 35 = .ok (.goto (-35), 3) := by decide +kernel
theorem d_TA_skipBlanks_38 : decode c_TA_skipBlanks 38 = .ok (.return_, 1) := by decide +kernel
def S_TA_skipBlanks_0 (g : Gx) (Q : St → Prop) (σ : St) : Prop := Ax g m_TA_skipBlanks 0 0 (ZV g Q) SH σ 0 0 0 [(0, .ref (gB g + 1))] []
theorem sg_TA_skipBlanks_0 {g : Gx} {Q : St → Prop} {σ : St}
    (h : ((fi σ 1 1) ≤ (fi σ 1 2) → Q σ) ∧ (¬ (fi σ 1 1) ≤ (fi σ 1 2) → vp_in (fi σ 1 2) 400 ∧ ((¬ (ai σ 2 ((fi σ 1 2)).toNatClampNeg) = (32 : Int32) → Q σ) ∧ ((ai σ 2 ((fi σ 1 2)).toNatClampNeg) = (32 : Int32) → ∀ s1 : St, s1 = sfi σ 1 2 ((fi σ 1 2) + (1 : Int32)) → S_TA_skipBlanks_0 g Q s1)))) : S_TA_skipBlanks_0 g Q σ := by
  show Ax g m_TA_skipBlanks 0 0 (ZV g Q) SH σ 0 0 0 [(0, .ref (gB g + 1))] []
  refine a_aload_n (pc := 0) 0 rfl rfl d_TA_skipBlanks_0 ?_
  refine a_getI (pc := 1) fg_TA_19 sx_1 rfl d_TA_skipBlanks_1 ?_
  refine a_aload_n (pc := 4) 0 rfl rfl d_TA_skipBlanks_4 ?_
  refine a_getI (pc := 5) fg_TA_15 sx_1 rfl d_TA_skipBlanks_5 ?_
  refine a_icmp_ge (pc := 8) 38 (by decide) d_TA_skipBlanks_8 ⟨fun c0 => ?_, fun c0 => ?_⟩
  · replace h := h.1 c0
    exact b_vret (pc := 38) rfl d_TA_skipBlanks_38 h
  · replace h := h.2 c0
    refine a_aload_n (pc := 11) 0 rfl rfl d_TA_skipBlanks_11 ?_
    refine a_getR (pc := 12) fg_TA_11 sx_1 rfl d_TA_skipBlanks_12 ?_
    refine a_aload_n (pc := 15) 0 rfl rfl d_TA_skipBlanks_15 ?_
    refine a_getI (pc := 16) fg_TA_19 sx_1 rfl d_TA_skipBlanks_16 ?_
    obtain ⟨hx, h⟩ := h
    refine a_iald (pc := 19) sx_2 hx d_TA_skipBlanks_19 ?_
    refine a_bipush (pc := 20) (32 : Int32) (by decide) d_TA_skipBlanks_20 ?_
    refine a_icmp_ne (pc := 22) 38 (by decide) d_TA_skipBlanks_22 ⟨fun c0 => ?_, fun c0 => ?_⟩
    · replace h := h.1 c0
      exact b_vret (pc := 38) rfl d_TA_skipBlanks_38 h
    · replace h := h.2 c0
      refine a_aload_n (pc := 25) 0 rfl rfl d_TA_skipBlanks_25 ?_
      refine a_dup (pc := 26) rfl d_TA_skipBlanks_26 ?_
      refine a_getI (pc := 27) fg_TA_19 sx_1 rfl d_TA_skipBlanks_27 ?_
      refine a_iconst (pc := 30) (1 : Int32) (by decide) d_TA_skipBlanks_30 ?_
      refine a_iadd (pc := 31) d_TA_skipBlanks_31 ?_
      refine a_putI (pc := 32) fp_TA_19 sx_1 rfl d_TA_skipBlanks_32 ?_
      refine a_nms (fun s1 hs1 => ?_)
      replace h := h s1 hs1
      refine a_goto (pc := 35) 0 (by decide) d_TA_skipBlanks_35 ?_
      refine a_sub (pc := 0) [0] rfl ?_
      exact h
theorem ko_TA_skipBlanks {g : Gx}  {σ : St} {Q : St → Prop} (h : S_TA_skipBlanks_0 g Q σ) : K_TA_skipBlanks g  σ Q := KV.of (show plainName "BallBox$Tape" = true by decide) (Nat.le_of_ble_eq_true rfl) h
theorem d_TA_endOfWord_0 : decode c_TA_endOfWord 0 = .ok (.aload_n 0, 1) := by decide +kernel
theorem d_TA_endOfWord_1 : decode c_TA_endOfWord 1 = .ok (.getfield 19, 3) := by decide +kernel
theorem d_TA_endOfWord_4 : decode c_TA_endOfWord 4 = .ok (.istore_n 1, 1) := by decide +kernel
theorem d_TA_endOfWord_5 : decode c_TA_endOfWord 5 = .ok (.iload_n 1, 1) := by decide +kernel
theorem d_TA_endOfWord_6 : decode c_TA_endOfWord 6 = .ok (.aload_n 0, 1) := by decide +kernel
theorem d_TA_endOfWord_7 : decode c_TA_endOfWord 7 = .ok (.getfield 15, 3) := by decide +kernel
theorem d_TA_endOfWord_10 : decode c_TA_endOfWord 10 = .ok (.if_icmp .ge 31, 3) := by decide +kernel
theorem d_TA_endOfWord_13 : decode c_TA_endOfWord 13 = .ok (.aload_n 0, 1) := by decide +kernel
theorem d_TA_endOfWord_14 : decode c_TA_endOfWord 14 = .ok (.getfield 11, 3) := by decide +kernel
theorem d_TA_endOfWord_17 : decode c_TA_endOfWord 17 = .ok (.iload_n 1, 1) := by decide +kernel
theorem d_TA_endOfWord_18 : decode c_TA_endOfWord 18 = .ok (.iaload, 1) := by decide +kernel
theorem d_TA_endOfWord_19 : decode c_TA_endOfWord 19 = .ok (.bipush 97, 2) := by decide +kernel
theorem d_TA_endOfWord_21 : decode c_TA_endOfWord 21 = .ok (.if_icmp .lt 20, 3) := by decide +kernel
theorem d_TA_endOfWord_24 : decode c_TA_endOfWord 24 = .ok (.aload_n 0, 1) := by decide +kernel
theorem d_TA_endOfWord_25 : decode c_TA_endOfWord 25 = .ok (.getfield 11, 3) := by decide +kernel
theorem d_TA_endOfWord_28 : decode c_TA_endOfWord 28 = .ok (.iload_n 1, 1) := by decide +kernel
theorem d_TA_endOfWord_29 : decode c_TA_endOfWord 29 = .ok (.iaload, 1) := by decide +kernel
theorem d_TA_endOfWord_30 : decode c_TA_endOfWord 30 = .ok (.bipush 122, 2) := by decide +kernel
theorem d_TA_endOfWord_32 : decode c_TA_endOfWord 32 = .ok (.if_icmp .gt 9, 3) := by decide +kernel
theorem d_TA_endOfWord_35 : decode c_TA_endOfWord 35 = .ok (.iinc 1 1, 3) := by decide +kernel
theorem d_TA_endOfWord_38 : decode c_TA_endOfWord 38 = .ok (.goto (-33), 3) := by decide +kernel
theorem d_TA_endOfWord_41 : decode c_TA_endOfWord 41 = .ok (.iload_n 1, 1) := by decide +kernel
theorem d_TA_endOfWord_42 : decode c_TA_endOfWord 42 = .ok (.ireturn, 1) := by decide +kernel
def S_TA_endOfWord_0 (g : Gx) (Q : Int32 → St → Prop) (σ : St) : Prop := Ax g m_TA_endOfWord 0 0 (ZI g Q) SH σ 0 0 0 [(0, .ref (gB g + 1))] []
def S_TA_endOfWord_5 (g : Gx) (Q : Int32 → St → Prop) (σ : St) (x1 : Int32) : Prop := Ax g m_TA_endOfWord 0 0 (ZI g Q) SH σ 0 0 5 [(0, .ref (gB g + 1)), (1, .int x1)] []
theorem sg_TA_endOfWord_0 {g : Gx} {Q : Int32 → St → Prop} {σ : St}
    (h : ∀ u1 : Int32, u1 = (fi σ 1 2) → S_TA_endOfWord_5 g Q σ u1) : S_TA_endOfWord_0 g Q σ := by
  show Ax g m_TA_endOfWord 0 0 (ZI g Q) SH σ 0 0 0 [(0, .ref (gB g + 1))] []
  refine a_aload_n (pc := 0) 0 rfl rfl d_TA_endOfWord_0 ?_
  refine a_getI (pc := 1) fg_TA_19 sx_1 rfl d_TA_endOfWord_1 ?_
  refine a_nmi (pc := 4) (fun u1 hu1 => ?_)
  replace h := h u1 hu1
  refine a_istore_n (pc := 4) (lv' := [(1, .int u1), (0, .ref (gB g + 1))]) rfl (Nat.le_of_ble_eq_true rfl) rfl d_TA_endOfWord_4 ?_
  refine a_sub (pc := 5) [1, 0] rfl ?_
  exact h
theorem sg_TA_endOfWord_5 {g : Gx} {Q : Int32 → St → Prop} {σ : St} {x1 : Int32}
    (h : ((fi σ 1 1) ≤ x1 → Q x1 σ) ∧ (¬ (fi σ 1 1) ≤ x1 → vp_in x1 400 ∧ (((ai σ 2 (x1).toNatClampNeg) < (97 : Int32) → Q x1 σ) ∧ (¬ (ai σ 2 (x1).toNatClampNeg) < (97 : Int32) → vp_in x1 400 ∧ (((122 : Int32) < (ai σ 2 (x1).toNatClampNeg) → Q x1 σ) ∧ (¬ (122 : Int32) < (ai σ 2 (x1).toNatClampNeg) → ∀ u1 : Int32, u1 = x1 + (1 : Int32) → S_TA_endOfWord_5 g Q σ u1)))))) : S_TA_endOfWord_5 g Q σ x1 := by
  show Ax g m_TA_endOfWord 0 0 (ZI g Q) SH σ 0 0 5 [(0, .ref (gB g + 1)), (1, .int x1)] []
  refine a_iload_n (pc := 5) 1 rfl rfl d_TA_endOfWord_5 ?_
  refine a_aload_n (pc := 6) 0 rfl rfl d_TA_endOfWord_6 ?_
  refine a_getI (pc := 7) fg_TA_15 sx_1 rfl d_TA_endOfWord_7 ?_
  refine a_icmp_ge (pc := 10) 41 (by decide) d_TA_endOfWord_10 ⟨fun c0 => ?_, fun c0 => ?_⟩
  · replace h := h.1 c0
    refine a_iload_n (pc := 41) 1 rfl rfl d_TA_endOfWord_41 ?_
    exact b_iret (pc := 42) rfl d_TA_endOfWord_42 h
  · replace h := h.2 c0
    refine a_aload_n (pc := 13) 0 rfl rfl d_TA_endOfWord_13 ?_
    refine a_getR (pc := 14) fg_TA_11 sx_1 rfl d_TA_endOfWord_14 ?_
    refine a_iload_n (pc := 17) 1 rfl rfl d_TA_endOfWord_17 ?_
    obtain ⟨hx, h⟩ := h
    refine a_iald (pc := 18) sx_2 hx d_TA_endOfWord_18 ?_
    refine a_bipush (pc := 19) (97 : Int32) (by decide) d_TA_endOfWord_19 ?_
    refine a_icmp_lt (pc := 21) 41 (by decide) d_TA_endOfWord_21 ⟨fun c0 => ?_, fun c0 => ?_⟩
    · replace h := h.1 c0
      refine a_iload_n (pc := 41) 1 rfl rfl d_TA_endOfWord_41 ?_
      exact b_iret (pc := 42) rfl d_TA_endOfWord_42 h
    · replace h := h.2 c0
      refine a_aload_n (pc := 24) 0 rfl rfl d_TA_endOfWord_24 ?_
      refine a_getR (pc := 25) fg_TA_11 sx_1 rfl d_TA_endOfWord_25 ?_
      refine a_iload_n (pc := 28) 1 rfl rfl d_TA_endOfWord_28 ?_
      obtain ⟨hx, h⟩ := h
      refine a_iald (pc := 29) sx_2 hx d_TA_endOfWord_29 ?_
      refine a_bipush (pc := 30) (122 : Int32) (by decide) d_TA_endOfWord_30 ?_
      refine a_icmp_gt (pc := 32) 41 (by decide) d_TA_endOfWord_32 ⟨fun c0 => ?_, fun c0 => ?_⟩
      · replace h := h.1 c0
        refine a_iload_n (pc := 41) 1 rfl rfl d_TA_endOfWord_41 ?_
        exact b_iret (pc := 42) rfl d_TA_endOfWord_42 h
      · replace h := h.2 c0
        obtain ⟨u1, hu1⟩ : ∃ y : Int32, y = x1 + (1 : Int32) := ⟨_, rfl⟩
        replace h := h u1 hu1
        refine a_iinc (pc := 35) (v := u1) (lv' := [(1, .int u1), (0, .ref (gB g + 1))]) 1 rfl (by rw [hu1]; rfl) (Nat.le_of_ble_eq_true rfl) rfl d_TA_endOfWord_35 ?_
        refine a_goto (pc := 38) 5 (by decide) d_TA_endOfWord_38 ?_
        refine a_sub (pc := 5) [1, 0] rfl ?_
        exact h
theorem ko_TA_endOfWord {g : Gx}  {σ : St} {Q : Int32 → St → Prop} (h : S_TA_endOfWord_0 g Q σ) : K_TA_endOfWord g  σ Q := KI.of (show plainName "BallBox$Tape" = true by decide) (Nat.le_of_ble_eq_true rfl) h
theorem d_TA_endOfDigits_0 : decode c_TA_endOfDigits 0 = .ok (.aload_n 0, 1) := by decide +kernel
theorem d_TA_endOfDigits_1 : decode c_TA_endOfDigits 1 = .ok (.getfield 19, 3) := by decide +kernel
theorem d_TA_endOfDigits_4 : decode c_TA_endOfDigits 4 = .ok (.istore_n 1, 1) := by decide +kernel
theorem d_TA_endOfDigits_5 : decode c_TA_endOfDigits 5 = .ok (.iload_n 1, 1) := by decide +kernel
theorem d_TA_endOfDigits_6 : decode c_TA_endOfDigits 6 = .ok (.aload_n 0, 1) := by decide +kernel
theorem d_TA_endOfDigits_7 : decode c_TA_endOfDigits 7 = .ok (.getfield 15, 3) := by decide +kernel
theorem d_TA_endOfDigits_10 : decode c_TA_endOfDigits 10 = .ok (.if_icmp .ge 31, 3) := by decide +kernel
theorem d_TA_endOfDigits_13 : decode c_TA_endOfDigits 13 = .ok (.aload_n 0, 1) := by decide +kernel
theorem d_TA_endOfDigits_14 : decode c_TA_endOfDigits 14 = .ok (.getfield 11, 3) := by decide +kernel
theorem d_TA_endOfDigits_17 : decode c_TA_endOfDigits 17 = .ok (.iload_n 1, 1) := by decide +kernel
theorem d_TA_endOfDigits_18 : decode c_TA_endOfDigits 18 = .ok (.iaload, 1) := by decide +kernel
theorem d_TA_endOfDigits_19 : decode c_TA_endOfDigits 19 = .ok (.bipush 48, 2) := by decide +kernel
theorem d_TA_endOfDigits_21 : decode c_TA_endOfDigits 21 = .ok (.if_icmp .lt 20, 3) := by decide +kernel
theorem d_TA_endOfDigits_24 : decode c_TA_endOfDigits 24 = .ok (.aload_n 0, 1) := by decide +kernel
theorem d_TA_endOfDigits_25 : decode c_TA_endOfDigits 25 = .ok (.getfield 11, 3) := by decide +kernel
theorem d_TA_endOfDigits_28 : decode c_TA_endOfDigits 28 = .ok (.iload_n 1, 1) := by decide +kernel
theorem d_TA_endOfDigits_29 : decode c_TA_endOfDigits 29 = .ok (.iaload, 1) := by decide +kernel
theorem d_TA_endOfDigits_30 : decode c_TA_endOfDigits 30 = .ok (.bipush 57, 2) := by decide +kernel
theorem d_TA_endOfDigits_32 : decode c_TA_endOfDigits 32 = .ok (.if_icmp .gt 9, 3) := by decide +kernel
theorem d_TA_endOfDigits_35 : decode c_TA_endOfDigits 35 = .ok (.iinc 1 1, 3) := by decide +kernel
theorem d_TA_endOfDigits_38 : decode c_TA_endOfDigits 38 = .ok (.goto (-33), 3) := by decide +kernel
theorem d_TA_endOfDigits_41 : decode c_TA_endOfDigits 41 = .ok (.iload_n 1, 1) := by decide +kernel
theorem d_TA_endOfDigits_42 : decode c_TA_endOfDigits 42 = .ok (.ireturn, 1) := by decide +kernel
def S_TA_endOfDigits_0 (g : Gx) (Q : Int32 → St → Prop) (σ : St) : Prop := Ax g m_TA_endOfDigits 0 0 (ZI g Q) SH σ 0 0 0 [(0, .ref (gB g + 1))] []
def S_TA_endOfDigits_5 (g : Gx) (Q : Int32 → St → Prop) (σ : St) (x1 : Int32) : Prop := Ax g m_TA_endOfDigits 0 0 (ZI g Q) SH σ 0 0 5 [(0, .ref (gB g + 1)), (1, .int x1)] []
theorem sg_TA_endOfDigits_0 {g : Gx} {Q : Int32 → St → Prop} {σ : St}
    (h : ∀ u1 : Int32, u1 = (fi σ 1 2) → S_TA_endOfDigits_5 g Q σ u1) : S_TA_endOfDigits_0 g Q σ := by
  show Ax g m_TA_endOfDigits 0 0 (ZI g Q) SH σ 0 0 0 [(0, .ref (gB g + 1))] []
  refine a_aload_n (pc := 0) 0 rfl rfl d_TA_endOfDigits_0 ?_
  refine a_getI (pc := 1) fg_TA_19 sx_1 rfl d_TA_endOfDigits_1 ?_
  refine a_nmi (pc := 4) (fun u1 hu1 => ?_)
  replace h := h u1 hu1
  refine a_istore_n (pc := 4) (lv' := [(1, .int u1), (0, .ref (gB g + 1))]) rfl (Nat.le_of_ble_eq_true rfl) rfl d_TA_endOfDigits_4 ?_
  refine a_sub (pc := 5) [1, 0] rfl ?_
  exact h
theorem sg_TA_endOfDigits_5 {g : Gx} {Q : Int32 → St → Prop} {σ : St} {x1 : Int32}
    (h : ((fi σ 1 1) ≤ x1 → Q x1 σ) ∧ (¬ (fi σ 1 1) ≤ x1 → vp_in x1 400 ∧ (((ai σ 2 (x1).toNatClampNeg) < (48 : Int32) → Q x1 σ) ∧ (¬ (ai σ 2 (x1).toNatClampNeg) < (48 : Int32) → vp_in x1 400 ∧ (((57 : Int32) < (ai σ 2 (x1).toNatClampNeg) → Q x1 σ) ∧ (¬ (57 : Int32) < (ai σ 2 (x1).toNatClampNeg) → ∀ u1 : Int32, u1 = x1 + (1 : Int32) → S_TA_endOfDigits_5 g Q σ u1)))))) : S_TA_endOfDigits_5 g Q σ x1 := by
  show Ax g m_TA_endOfDigits 0 0 (ZI g Q) SH σ 0 0 5 [(0, .ref (gB g + 1)), (1, .int x1)] []
  refine a_iload_n (pc := 5) 1 rfl rfl d_TA_endOfDigits_5 ?_
  refine a_aload_n (pc := 6) 0 rfl rfl d_TA_endOfDigits_6 ?_
  refine a_getI (pc := 7) fg_TA_15 sx_1 rfl d_TA_endOfDigits_7 ?_
  refine a_icmp_ge (pc := 10) 41 (by decide) d_TA_endOfDigits_10 ⟨fun c0 => ?_, fun c0 => ?_⟩
  · replace h := h.1 c0
    refine a_iload_n (pc := 41) 1 rfl rfl d_TA_endOfDigits_41 ?_
    exact b_iret (pc := 42) rfl d_TA_endOfDigits_42 h
  · replace h := h.2 c0
    refine a_aload_n (pc := 13) 0 rfl rfl d_TA_endOfDigits_13 ?_
    refine a_getR (pc := 14) fg_TA_11 sx_1 rfl d_TA_endOfDigits_14 ?_
    refine a_iload_n (pc := 17) 1 rfl rfl d_TA_endOfDigits_17 ?_
    obtain ⟨hx, h⟩ := h
    refine a_iald (pc := 18) sx_2 hx d_TA_endOfDigits_18 ?_
    refine a_bipush (pc := 19) (48 : Int32) (by decide) d_TA_endOfDigits_19 ?_
    refine a_icmp_lt (pc := 21) 41 (by decide) d_TA_endOfDigits_21 ⟨fun c0 => ?_, fun c0 => ?_⟩
    · replace h := h.1 c0
      refine a_iload_n (pc := 41) 1 rfl rfl d_TA_endOfDigits_41 ?_
      exact b_iret (pc := 42) rfl d_TA_endOfDigits_42 h
    · replace h := h.2 c0
      refine a_aload_n (pc := 24) 0 rfl rfl d_TA_endOfDigits_24 ?_
      refine a_getR (pc := 25) fg_TA_11 sx_1 rfl d_TA_endOfDigits_25 ?_
      refine a_iload_n (pc := 28) 1 rfl rfl d_TA_endOfDigits_28 ?_
      obtain ⟨hx, h⟩ := h
      refine a_iald (pc := 29) sx_2 hx d_TA_endOfDigits_29 ?_
      refine a_bipush (pc := 30) (57 : Int32) (by decide) d_TA_endOfDigits_30 ?_
      refine a_icmp_gt (pc := 32) 41 (by decide) d_TA_endOfDigits_32 ⟨fun c0 => ?_, fun c0 => ?_⟩
      · replace h := h.1 c0
        refine a_iload_n (pc := 41) 1 rfl rfl d_TA_endOfDigits_41 ?_
        exact b_iret (pc := 42) rfl d_TA_endOfDigits_42 h
      · replace h := h.2 c0
        obtain ⟨u1, hu1⟩ : ∃ y : Int32, y = x1 + (1 : Int32) := ⟨_, rfl⟩
        replace h := h u1 hu1
        refine a_iinc (pc := 35) (v := u1) (lv' := [(1, .int u1), (0, .ref (gB g + 1))]) 1 rfl (by rw [hu1]; rfl) (Nat.le_of_ble_eq_true rfl) rfl d_TA_endOfDigits_35 ?_
        refine a_goto (pc := 38) 5 (by decide) d_TA_endOfDigits_38 ?_
        refine a_sub (pc := 5) [1, 0] rfl ?_
        exact h
theorem ko_TA_endOfDigits {g : Gx}  {σ : St} {Q : Int32 → St → Prop} (h : S_TA_endOfDigits_0 g Q σ) : K_TA_endOfDigits g  σ Q := KI.of (show plainName "BallBox$Tape" = true by decide) (Nat.le_of_ble_eq_true rfl) h
theorem d_TA_isWord_0 : decode c_TA_isWord 0 = .ok (.iload_n 1, 1) := by decide +kernel
theorem d_TA_isWord_1 : decode c_TA_isWord 1 = .ok (.aload_n 0, 1) := by decide +kernel
theorem d_TA_isWord_2 : decode c_TA_isWord 2 = .ok (.getfield 15, 3) := by decide +kernel
theorem d_TA_isWord_5 : decode c_TA_isWord 5 = .ok (.if_icmp .gt 16, 3) := by decide +kernel
theorem d_TA_isWord_8 : decode c_TA_isWord 8 = .ok (.iload_n 1, 1) := by decide +kernel
theorem d_TA_isWord_9 : decode c_TA_isWord 9 = .ok (.aload_n 0, 1) := by decide +kernel
theorem d_TA_isWord_10 : decode c_TA_isWord 10 = .ok (.getfield 19, 3) := by decide +kernel
theorem d_TA_isWord_13 : decode c_TA_isWord 13 = .ok (.isub, 1) := by decide +kernel
theorem d_TA_isWord_14 : decode c_TA_isWord 14 = .ok (.aload_n 2, 1) := by decide +kernel
theorem d_TA_isWord_15 : decode c_TA_isWord 15 = .ok (.invokevirtual 25, 3) := by decide +kernel
theorem d_TA_isWord_18 : decode c_TA_isWord 18 = .ok (.if_icmp .eq 5, 3) := by decide +kernel
theorem d_TA_isWord_21 : decode c_TA_isWord 21 = .ok (.iconst 0, 1) := by decide +kernel
theorem d_TA_isWord_22 : decode c_TA_isWord 22 = .ok (.ireturn, 1) := by decide +kernel
theorem d_TA_isWord_23 : decode c_TA_isWord 23 = .ok (.iconst 0, 1) := by decide +kernel
theorem d_TA_isWord_24 : decode c_TA_isWord 24 = .ok (.istore_n 3, 1) := by decide +kernel
theorem d_TA_isWord_25 : decode c_TA_isWord 25 = .ok (.iload_n 3, 1) := by decide +kernel
theorem d_TA_isWord_26 : decode c_TA_isWord 26 = .ok (.aload_n 2, 1) := by decide +kernel
theorem d_TA_isWord_27 : decode c_TA_isWord 27 = .ok (.invokevirtual 25, 3) := by decide +kernel
theorem d_TA_isWord_30 : decode c_TA_isWord 30 = .ok (.if_icmp .ge 30, 3) := by decide +kernel
theorem d_TA_isWord_33 : decode c_TA_isWord 33 = .ok (.aload_n 0, 1) := by decide +kernel
theorem d_TA_isWord_34 : decode c_TA_isWord 34 = .ok (.getfield 11, 3) := by decide +kernel
theorem d_TA_isWord_37 : decode c_TA_isWord 37 = .ok (.aload_n 0, 1) := by decide +kernel
theorem d_TA_isWord_38 : decode c_TA_isWord 38 = .ok (.getfield 19, 3) := by decide +kernel
theorem d_TA_isWord_41 : decode c_TA_isWord 41 = .ok (.iload_n 3, 1) := by decide +kernel
theorem d_TA_isWord_42 : decode c_TA_isWord 42 = .ok (.iadd, 1) := by decide +kernel
theorem d_TA_isWord_43 : decode c_TA_isWord 43 = .ok (.iaload, 1) := by decide +kernel
theorem d_TA_isWord_44 : decode c_TA_isWord 44 = .ok (.aload_n 2, 1) := by decide +kernel
theorem d_TA_isWord_45 : decode c_TA_isWord 45 = .ok (.iload_n 3, 1) := by decide +kernel
theorem d_TA_isWord_46 : decode c_TA_isWord 46 = .ok (.invokevirtual 30, 3) := by decide +kernel
theorem d_TA_isWord_49 : decode c_TA_isWord 49 = .ok (.if_icmp .eq 5, 3) := by decide +kernel
theorem d_TA_isWord_52 : decode c_TA_isWord 52 = .ok (.iconst 0, 1) := by decide +kernel
theorem d_TA_isWord_53 : decode c_TA_isWord 53 = .ok (.ireturn, 1) := by decide +kernel
theorem d_TA_isWord_54 : decode c_TA_isWord 54 = .ok (.iinc 3 1, 3) := by decide +kernel
theorem d_TA_isWord_57 : decode c_TA_isWord 57 = .ok (.goto (-32), 3) := by decide +kernel
theorem d_TA_isWord_60 : decode c_TA_isWord 60 = .ok (.iconst 1, 1) := by decide +kernel
theorem d_TA_isWord_61 : decode c_TA_isWord 61 = .ok (.ireturn, 1) := by decide +kernel
def S_TA_isWord_0 (g : Gx) (Q : Int32 → St → Prop) (σ : St) (w2 : Nat) (x1 : Int32) : Prop := Ax g m_TA_isWord 0 0 (ZI g Q) SH σ 0 0 0 [(0, .ref (gB g + 1)), (1, .int x1), (2, .ref (gK g w2))] []
def S_TA_isWord_25 (g : Gx) (Q : Int32 → St → Prop) (σ : St) (w2 : Nat) (x3 : Int32) : Prop := Ax g m_TA_isWord 0 0 (ZI g Q) SH σ 0 0 25 [(0, .ref (gB g + 1)), (2, .ref (gK g w2)), (3, .int x3)] []
theorem sg_TA_isWord_0 {g : Gx} {Q : Int32 → St → Prop} {σ : St} {w2 : Nat} {x1 : Int32} (hw2 : w2 < 16)
    (h : ((fi σ 1 1) < x1 → Q (0 : Int32) σ) ∧ (¬ (fi σ 1 1) < x1 → K_JS_length g w2 σ (fun (r2 : Int32) (s1 : St) => ((x1 - (fi σ 1 2)) = r2 → S_TA_isWord_25 g Q s1 w2 (0 : Int32)) ∧ (¬ (x1 - (fi σ 1 2)) = r2 → Q (0 : Int32) s1)))) : S_TA_isWord_0 g Q σ w2 x1 := by
  show Ax g m_TA_isWord 0 0 (ZI g Q) SH σ 0 0 0 [(0, .ref (gB g + 1)), (1, .int x1), (2, .ref (gK g w2))] []
  refine a_iload_n (pc := 0) 1 rfl rfl d_TA_isWord_0 ?_
  refine a_aload_n (pc := 1) 0 rfl rfl d_TA_isWord_1 ?_
  refine a_getI (pc := 2) fg_TA_15 sx_1 rfl d_TA_isWord_2 ?_
  refine a_icmp_gt (pc := 5) 21 (by decide) d_TA_isWord_5 ⟨fun c0 => ?_, fun c0 => ?_⟩
  · replace h := h.1 c0
    refine a_iconst (pc := 21) (0 : Int32) (by decide) d_TA_isWord_21 ?_
    exact b_zret (pc := 22) rfl (Or.inl rfl) d_TA_isWord_22 h
  · replace h := h.2 c0
    refine a_iload_n (pc := 8) 1 rfl rfl d_TA_isWord_8 ?_
    refine a_aload_n (pc := 9) 0 rfl rfl d_TA_isWord_9 ?_
    refine a_getI (pc := 10) fg_TA_19 sx_1 rfl d_TA_isWord_10 ?_
    refine a_isub (pc := 13) d_TA_isWord_13 ?_
    refine a_aload_n (pc := 14) 2 rfl rfl d_TA_isWord_14 ?_
    refine a_callStr (pc := 15) (w := w2) (M' := m_JS_length) (As := []) (st := [.int (x1 - (fi σ 1 2))]) lk_TA_25 rfl rfl hw2 (by decide) (by decide) rfl (Nat.le_of_ble_eq_true rfl) (Nat.le_refl 0) (Nat.le_refl 0) d_TA_isWord_15 h ?_
    rintro _ _ s1 ⟨r2, rfl, rfl, h⟩ -
    show Ax g m_TA_isWord 0 0 (ZI g Q) SH s1 0 0 18 [(0, .ref (gB g + 1)), (1, .int x1), (2, .ref (gK g w2))] [.int r2, .int (x1 - (fi σ 1 2))]
    refine a_icmp_eq (pc := 18) 23 (by decide) d_TA_isWord_18 ⟨fun c0 => ?_, fun c0 => ?_⟩
    · replace h := h.1 c0
      refine a_iconst (pc := 23) (0 : Int32) (by decide) d_TA_isWord_23 ?_
      refine a_istore_n (pc := 24) (lv' := [(3, .int (0 : Int32)), (0, .ref (gB g + 1)), (1, .int x1), (2, .ref (gK g w2))]) rfl (Nat.le_of_ble_eq_true rfl) rfl d_TA_isWord_24 ?_
      refine a_sub (pc := 25) [1, 3, 0] rfl ?_
      exact h
    · replace h := h.2 c0
      refine a_iconst (pc := 21) (0 : Int32) (by decide) d_TA_isWord_21 ?_
      exact b_zret (pc := 22) rfl (Or.inl rfl) d_TA_isWord_22 h
theorem sg_TA_isWord_25 {g : Gx} {Q : Int32 → St → Prop} {σ : St} {w2 : Nat} {x3 : Int32} (hw2 : w2 < 16)
    (h : K_JS_length g w2 σ (fun (r2 : Int32) (s1 : St) => (r2 ≤ x3 → Q (1 : Int32) s1) ∧ (¬ r2 ≤ x3 → vp_in ((fi s1 1 2) + x3) 400 ∧ (K_JS_charAt g w2 x3 s1 (fun (r4 : Int32) (s3 : St) => ((ai s1 2 (((fi s1 1 2) + x3)).toNatClampNeg) = r4 → ∀ u5 : Int32, u5 = x3 + (1 : Int32) → S_TA_isWord_25 g Q s3 w2 u5) ∧ (¬ (ai s1 2 (((fi s1 1 2) + x3)).toNatClampNeg) = r4 → Q (0 : Int32) s3)))))) : S_TA_isWord_25 g Q σ w2 x3 := by
  show Ax g m_TA_isWord 0 0 (ZI g Q) SH σ 0 0 25 [(0, .ref (gB g + 1)), (2, .ref (gK g w2)), (3, .int x3)] []
  refine a_iload_n (pc := 25) 2 rfl rfl d_TA_isWord_25 ?_
  refine a_aload_n (pc := 26) 1 rfl rfl d_TA_isWord_26 ?_
  refine a_callStr (pc := 27) (w := w2) (M' := m_JS_length) (As := []) (st := [.int x3]) lk_TA_25 rfl rfl hw2 (by decide) (by decide) rfl (Nat.le_of_ble_eq_true rfl) (Nat.le_refl 0) (Nat.le_refl 0) d_TA_isWord_27 h ?_
  rintro _ _ s1 ⟨r2, rfl, rfl, h⟩ -
  show Ax g m_TA_isWord 0 0 (ZI g Q) SH s1 0 0 30 [(0, .ref (gB g + 1)), (2, .ref (gK g w2)), (3, .int x3)] [.int r2, .int x3]
  refine a_icmp_ge (pc := 30) 60 (by decide) d_TA_isWord_30 ⟨fun c0 => ?_, fun c0 => ?_⟩
  · replace h := h.1 c0
    refine a_iconst (pc := 60) (1 : Int32) (by decide) d_TA_isWord_60 ?_
    exact b_zret (pc := 61) rfl (Or.inr rfl) d_TA_isWord_61 h
  · replace h := h.2 c0
    refine a_aload_n (pc := 33) 0 rfl rfl d_TA_isWord_33 ?_
    refine a_getR (pc := 34) fg_TA_11 sx_1 rfl d_TA_isWord_34 ?_
    refine a_aload_n (pc := 37) 0 rfl rfl d_TA_isWord_37 ?_
    refine a_getI (pc := 38) fg_TA_19 sx_1 rfl d_TA_isWord_38 ?_
    refine a_iload_n (pc := 41) 2 rfl rfl d_TA_isWord_41 ?_
    refine a_iadd (pc := 42) d_TA_isWord_42 ?_
    obtain ⟨hx, h⟩ := h
    refine a_iald (pc := 43) sx_2 hx d_TA_isWord_43 ?_
    refine a_aload_n (pc := 44) 1 rfl rfl d_TA_isWord_44 ?_
    refine a_iload_n (pc := 45) 2 rfl rfl d_TA_isWord_45 ?_
    refine a_callStr (pc := 46) (w := w2) (M' := m_JS_charAt) (As := [.int x3]) (st := [.int (ai s1 2 (((fi s1 1 2) + x3)).toNatClampNeg)]) lk_TA_30 rfl rfl hw2 (by decide) (by decide) rfl (Nat.le_of_ble_eq_true rfl) (Nat.le_refl 0) (Nat.le_refl 0) d_TA_isWord_46 h ?_
    rintro _ _ s3 ⟨r4, rfl, rfl, h⟩ -
    show Ax g m_TA_isWord 0 0 (ZI g Q) SH s3 0 0 49 [(0, .ref (gB g + 1)), (2, .ref (gK g w2)), (3, .int x3)] [.int r4, .int (ai s1 2 (((fi s1 1 2) + x3)).toNatClampNeg)]
    refine a_icmp_eq (pc := 49) 54 (by decide) d_TA_isWord_49 ⟨fun c0 => ?_, fun c0 => ?_⟩
    · replace h := h.1 c0
      obtain ⟨u5, hu5⟩ : ∃ y : Int32, y = x3 + (1 : Int32) := ⟨_, rfl⟩
      replace h := h u5 hu5
      refine a_iinc (pc := 54) (v := u5) (lv' := [(3, .int u5), (0, .ref (gB g + 1)), (2, .ref (gK g w2))]) 2 rfl (by rw [hu5]; rfl) (Nat.le_of_ble_eq_true rfl) rfl d_TA_isWord_54 ?_
      refine a_goto (pc := 57) 25 (by decide) d_TA_isWord_57 ?_
      refine a_sub (pc := 25) [1, 2, 0] rfl ?_
      exact h
    · replace h := h.2 c0
      refine a_iconst (pc := 52) (0 : Int32) (by decide) d_TA_isWord_52 ?_
      exact b_zret (pc := 53) rfl (Or.inl rfl) d_TA_isWord_53 h
theorem ko_TA_isWord {g : Gx}  {x1 : Int32} {w2 : Nat} {σ : St} {Q : Int32 → St → Prop} (h : S_TA_isWord_0 g Q σ w2 x1) : K_TA_isWord g x1 w2 σ Q := KI.of (show plainName "BallBox$Tape" = true by decide) (Nat.le_of_ble_eq_true rfl) h
theorem d_TA_readNumber_0 : decode c_TA_readNumber 0 = .ok (.aload_n 0, 1) := by decide +kernel
theorem d_TA_readNumber_1 : decode c_TA_readNumber 1 = .ok (.getfield 19, 3) := by decide +kernel
theorem d_TA_readNumber_4 : decode c_TA_readNumber 4 = .ok (.istore_n 1, 1) := by decide +kernel
theorem d_TA_readNumber_5 : decode c_TA_readNumber 5 = .ok (.aload_n 0, 1) := by decide +kernel
theorem d_TA_readNumber_6 : decode c_TA_readNumber 6 = .ok (.invokevirtual 34, 3) := by decide +kernel
theorem d_TA_readNumber_9 : decode c_TA_readNumber 9 = .ok (.istore_n 2, 1) := by decide +kernel
theorem d_TA_readNumber_10 : decode c_TA_readNumber 10 = .ok (.iload_n 2, 1) := by decide +kernel
theorem d_TA_readNumber_11 : decode c_TA_readNumber 11 = .ok (.iload_n 1, 1) := by decide +kernel
theorem d_TA_readNumber_12 : decode c_TA_readNumber 12 = .ok (.if_icmp .ne 12, 3) := by decide +kernel
theorem d_TA_readNumber_15 : decode c_TA_readNumber 15 = .ok (.aload_n 0, 1) := by decide +kernel
theorem d_TA_readNumber_16 : decode c_TA_readNumber 16 = .ok (.iload_n 1, 1) := by decide +kernel
theorem d_TA_readNumber_17 : decode c_TA_readNumber 17 = .ok (.iconst 0, 1) := by decide +kernel
theorem d_TA_readNumber_18 : decode c_TA_readNumber 18 = .ok (.invokevirtual 37, 3) := by decide +kernel
theorem d_TA_readNumber_21 : decode c_TA_readNumber 21 = .ok (.pop, 1) := by decide +kernel
theorem d_TA_readNumber_22 : decode c_TA_readNumber 22 = .ok (.iconst (-1), 1) := by decide +kernel
theorem d_TA_readNumber_23 : decode c_TA_readNumber 23 = .ok (.ireturn, 1) := by decide +kernel
theorem d_TA_readNumber_24 : decode c_TA_readNumber 24 = .ok (.iload_n 2, 1) := by decide +kernel
theorem d_TA_readNumber_25 : decode c_TA_readNumber 25 = .ok (.iload_n 1, 1) := by decide +kernel
theorem d_TA_readNumber_26 : decode c_TA_readNumber 26 = .ok (.isub, 1) := by decide +kernel
theorem d_TA_readNumber_27 : decode c_TA_readNumber 27 = .ok (.iconst 5, 1) := by decide +kernel
theorem d_TA_readNumber_28 : decode c_TA_readNumber 28 = .ok (.if_icmp .le 12, 3) := by decide +kernel
theorem d_TA_readNumber_31 : decode c_TA_readNumber 31 = .ok (.aload_n 0, 1) := by decide +kernel
theorem d_TA_readNumber_32 : decode c_TA_readNumber 32 = .ok (.iload_n 1, 1) := by decide +kernel
theorem d_TA_readNumber_33 : decode c_TA_readNumber 33 = .ok (.iconst 1, 1) := by decide +kernel
theorem d_TA_readNumber_34 : decode c_TA_readNumber 34 = .ok (.invokevirtual 37, 3) := by decide +kernel
theorem d_TA_readNumber_37 : decode c_TA_readNumber 37 = .ok (.pop, 1) := by decide +kernel
theorem d_TA_readNumber_38 : decode c_TA_readNumber 38 = .ok (.iconst (-1), 1) := by decide +kernel
theorem d_TA_readNumber_39 : decode c_TA_readNumber 39 = .ok (.ireturn, 1) := by decide +kernel
theorem d_TA_readNumber_40 : decode c_TA_readNumber 40 = .ok (.iconst 0, 1) := by decide +kernel
theorem d_TA_readNumber_41 : decode c_TA_readNumber 41 = .ok (.istore_n 3, 1) := by decide +kernel
theorem d_TA_readNumber_42 : decode c_TA_readNumber 42 = .ok (.aload_n 0, 1) := by decide +kernel
theorem d_TA_readNumber_43 : decode c_TA_readNumber 43 = .ok (.getfield 19, 3) := by decide +kernel
theorem d_TA_readNumber_46 : decode c_TA_readNumber 46 = .ok (.iload_n 2, 1) := by decide +kernel
theorem d_TA_readNumber_47 : decode c_TA_readNumber 47 = .ok (.if_icmp .ge 34, 3) := by decide +kernel
theorem d_TA_readNumber_50 : decode c_TA_readNumber 50 = .ok (.bipush 10, 2) := by decide +kernel
theorem d_TA_readNumber_52 : decode c_TA_readNumber 52 = .ok (.iload_n 3, 1) := by decide +kernel
theorem d_TA_readNumber_53 : decode c_TA_readNumber 53 = .ok (.imul, 1) := by decide +kernel
theorem d_TA_readNumber_54 : decode c_TA_readNumber 54 = .ok (.aload_n 0, 1) := by decide +kernel
theorem d_TA_readNumber_55 : decode c_TA_readNumber 55 = .ok (.getfield 11, 3) := by decide +kernel
theorem d_TA_readNumber_58 : decode c_TA_readNumber 58 = .ok (.aload_n 0, 1) := by decide +kernel
theorem d_TA_readNumber_59 : decode c_TA_readNumber 59 = .ok (.getfield 19, 3) := by decide +kernel
theorem d_TA_readNumber_62 : decode c_TA_readNumber 62 = .ok (.iaload, 1) := by decide +kernel
theorem d_TA_readNumber_63 : decode c_TA_readNumber 63 = .ok (.iadd, 1) := by decide +kernel
theorem d_TA_readNumber_64 : decode c_TA_readNumber 64 = .ok (.bipush 48, 2) := by decide +kernel
theorem d_TA_readNumber_66 : decode c_TA_readNumber 66 = .ok (.isub, 1) := by decide +kernel
theorem d_TA_readNumber_67 : decode c_TA_readNumber 67 = .ok (.istore_n 3, 1) := by decide +kernel
theorem d_TA_readNumber_68 : decode c_TA_readNumber 68 = .ok (.aload_n 0, 1) := by decide +kernel
theorem d_TA_readNumber_69 : decode c_TA_readNumber 69 = .ok (.dup, 1) := by decide +kernel
theorem d_TA_readNumber_70 : decode c_TA_readNumber 70 = .ok (.getfield 19, 3) := by decide +kernel
theorem d_TA_readNumber_73 : decode c_TA_readNumber 73 = .ok (.iconst 1, 1) := by decide +kernel
theorem d_TA_readNumber_74 : decode c_TA_readNumber 74 = .ok (.iadd, 1) := by decide +kernel
theorem d_TA_readNumber_75 : decode c_TA_readNumber 75 = .ok (.putfield 19, 3) := by decide +kernel
theorem d_TA_readNumber_78 : decode c_TA_readNumber 78 = .ok (.goto (-36), 3) := by decide +kernel
theorem d_TA_readNumber_81 : decode c_TA_readNumber 81 = .ok (.iload_n 3, 1) := by decide +kernel
theorem d_TA_readNumber_82 : decode c_TA_readNumber 82 = .ok (.ireturn, 1) := by decide +kernel
def S_TA_readNumber_0 (g : Gx) (Q : Int32 → St → Prop) (σ : St) : Prop := Ax g m_TA_readNumber 0 0 (ZI g Q) SH σ 0 0 0 [(0, .ref (gB g + 1))] []
def S_TA_readNumber_42 (g : Gx) (Q : Int32 → St → Prop) (σ : St) (x2 : Int32) (x3 : Int32) : Prop := Ax g m_TA_readNumber 0 0 (ZI g Q) SH σ 0 0 42 [(0, .ref (gB g + 1)), (2, .int x2), (3, .int x3)] []
theorem sg_TA_readNumber_0 {g : Gx} {Q : Int32 → St → Prop} {σ : St}
    (h : ∀ u1 : Int32, u1 = (fi σ 1 2) → K_TA_endOfDigits g σ (fun (r3 : Int32) (s2 : St) => (¬ r3 = u1 → ((r3 - u1) ≤ (5 : Int32) → S_TA_readNumber_42 g Q s2 r3 (0 : Int32)) ∧ (¬ (r3 - u1) ≤ (5 : Int32) → K_TA_blame g u1 (1 : Int32) s2 (fun (r5 : Int32) (s4 : St) => Q (-1 : Int32) s4))) ∧ (r3 = u1 → K_TA_blame g u1 (0 : Int32) s2 (fun (r7 : Int32) (s6 : St) => Q (-1 : Int32) s6)))) : S_TA_readNumber_0 g Q σ := by
  show Ax g m_TA_readNumber 0 0 (ZI g Q) SH σ 0 0 0 [(0, .ref (gB g + 1))] []
  refine a_aload_n (pc := 0) 0 rfl rfl d_TA_readNumber_0 ?_
  refine a_getI (pc := 1) fg_TA_19 sx_1 rfl d_TA_readNumber_1 ?_
  refine a_nmi (pc := 4) (fun u1 hu1 => ?_)
  replace h := h u1 hu1
  refine a_istore_n (pc := 4) (lv' := [(1, .int u1), (0, .ref (gB g + 1))]) rfl (Nat.le_of_ble_eq_true rfl) rfl d_TA_readNumber_4 ?_
  refine a_aload_n (pc := 5) 1 rfl rfl d_TA_readNumber_5 ?_
  refine a_callV (pc := 6) (M' := m_TA_endOfDigits) (As := []) (st := []) (mc' := 0) (ms' := 0) lk_TA_34 rfl sx_1 rfl (by decide) (by decide) rfl (Nat.le_of_ble_eq_true rfl) (Nat.le_refl 0) (Nat.le_refl 0) d_TA_readNumber_6 h ?_
  rintro _ _ s2 ⟨r3, rfl, rfl, h⟩ -
  show Ax g m_TA_readNumber 0 0 (ZI g Q) SH s2 0 0 9 [(1, .int u1), (0, .ref (gB g + 1))] [.int r3]
  refine a_istore_n (pc := 9) (lv' := [(2, .int r3), (1, .int u1), (0, .ref (gB g + 1))]) rfl (Nat.le_of_ble_eq_true rfl) rfl d_TA_readNumber_9 ?_
  refine a_iload_n (pc := 10) 0 rfl rfl d_TA_readNumber_10 ?_
  refine a_iload_n (pc := 11) 1 rfl rfl d_TA_readNumber_11 ?_
  refine a_icmp_ne (pc := 12) 24 (by decide) d_TA_readNumber_12 ⟨fun c0 => ?_, fun c0 => ?_⟩
  · replace h := h.1 c0
    refine a_iload_n (pc := 24) 0 rfl rfl d_TA_readNumber_24 ?_
    refine a_iload_n (pc := 25) 1 rfl rfl d_TA_readNumber_25 ?_
    refine a_isub (pc := 26) d_TA_readNumber_26 ?_
    refine a_iconst (pc := 27) (5 : Int32) (by decide) d_TA_readNumber_27 ?_
    refine a_icmp_le (pc := 28) 40 (by decide) d_TA_readNumber_28 ⟨fun c0 => ?_, fun c0 => ?_⟩
    · replace h := h.1 c0
      refine a_iconst (pc := 40) (0 : Int32) (by decide) d_TA_readNumber_40 ?_
      refine a_istore_n (pc := 41) (lv' := [(3, .int (0 : Int32)), (2, .int r3), (1, .int u1), (0, .ref (gB g + 1))]) rfl (Nat.le_of_ble_eq_true rfl) rfl d_TA_readNumber_41 ?_
      refine a_sub (pc := 42) [3, 1, 0] rfl ?_
      exact h
    · replace h := h.2 c0
      refine a_aload_n (pc := 31) 2 rfl rfl d_TA_readNumber_31 ?_
      refine a_iload_n (pc := 32) 1 rfl rfl d_TA_readNumber_32 ?_
      refine a_iconst (pc := 33) (1 : Int32) (by decide) d_TA_readNumber_33 ?_
      refine a_callV (pc := 34) (M' := m_TA_blame) (As := [.int u1, .int (1 : Int32)]) (st := []) (mc' := 0) (ms' := 0) lk_TA_37 rfl sx_1 rfl (by decide) (by decide) rfl (Nat.le_of_ble_eq_true rfl) (Nat.le_refl 0) (Nat.le_refl 0) d_TA_readNumber_34 h ?_
      rintro _ _ s4 ⟨r5, rfl, rfl, h⟩ -
      show Ax g m_TA_readNumber 0 0 (ZI g Q) SH s4 0 0 37 [(2, .int r3), (1, .int u1), (0, .ref (gB g + 1))] [.int r5]
      refine a_pop (pc := 37) rfl d_TA_readNumber_37 ?_
      refine a_iconst (pc := 38) (-1 : Int32) (by decide) d_TA_readNumber_38 ?_
      exact b_iret (pc := 39) rfl d_TA_readNumber_39 h
  · replace h := h.2 c0
    refine a_aload_n (pc := 15) 2 rfl rfl d_TA_readNumber_15 ?_
    refine a_iload_n (pc := 16) 1 rfl rfl d_TA_readNumber_16 ?_
    refine a_iconst (pc := 17) (0 : Int32) (by decide) d_TA_readNumber_17 ?_
    refine a_callV (pc := 18) (M' := m_TA_blame) (As := [.int u1, .int (0 : Int32)]) (st := []) (mc' := 0) (ms' := 0) lk_TA_37 rfl sx_1 rfl (by decide) (by decide) rfl (Nat.le_of_ble_eq_true rfl) (Nat.le_refl 0) (Nat.le_refl 0) d_TA_readNumber_18 h ?_
    rintro _ _ s6 ⟨r7, rfl, rfl, h⟩ -
    show Ax g m_TA_readNumber 0 0 (ZI g Q) SH s6 0 0 21 [(2, .int r3), (1, .int u1), (0, .ref (gB g + 1))] [.int r7]
    refine a_pop (pc := 21) rfl d_TA_readNumber_21 ?_
    refine a_iconst (pc := 22) (-1 : Int32) (by decide) d_TA_readNumber_22 ?_
    exact b_iret (pc := 23) rfl d_TA_readNumber_23 h
theorem sg_TA_readNumber_42 {g : Gx} {Q : Int32 → St → Prop} {σ : St} {x2 : Int32} {x3 : Int32}
    (h : (x2 ≤ (fi σ 1 2) → Q x3 σ) ∧ (¬ x2 ≤ (fi σ 1 2) → vp_in (fi σ 1 2) 400 ∧ (∀ u1 : Int32, u1 = ((((10 : Int32) * x3) + (ai σ 2 ((fi σ 1 2)).toNatClampNeg)) - (48 : Int32)) → ∀ s2 : St, s2 = sfi σ 1 2 ((fi σ 1 2) + (1 : Int32)) → S_TA_readNumber_42 g Q s2 x2 u1))) : S_TA_readNumber_42 g Q σ x2 x3 := by
  show Ax g m_TA_readNumber 0 0 (ZI g Q) SH σ 0 0 42 [(0, .ref (gB g + 1)), (2, .int x2), (3, .int x3)] []
  refine a_aload_n (pc := 42) 0 rfl rfl d_TA_readNumber_42 ?_
  refine a_getI (pc := 43) fg_TA_19 sx_1 rfl d_TA_readNumber_43 ?_
  refine a_iload_n (pc := 46) 1 rfl rfl d_TA_readNumber_46 ?_
  refine a_icmp_ge (pc := 47) 81 (by decide) d_TA_readNumber_47 ⟨fun c0 => ?_, fun c0 => ?_⟩
  · replace h := h.1 c0
    refine a_iload_n (pc := 81) 2 rfl rfl d_TA_readNumber_81 ?_
    exact b_iret (pc := 82) rfl d_TA_readNumber_82 h
  · replace h := h.2 c0
    refine a_bipush (pc := 50) (10 : Int32) (by decide) d_TA_readNumber_50 ?_
    refine a_iload_n (pc := 52) 2 rfl rfl d_TA_readNumber_52 ?_
    refine a_imul (pc := 53) d_TA_readNumber_53 ?_
    refine a_aload_n (pc := 54) 0 rfl rfl d_TA_readNumber_54 ?_
    refine a_getR (pc := 55) fg_TA_11 sx_1 rfl d_TA_readNumber_55 ?_
    refine a_aload_n (pc := 58) 0 rfl rfl d_TA_readNumber_58 ?_
    refine a_getI (pc := 59) fg_TA_19 sx_1 rfl d_TA_readNumber_59 ?_
    obtain ⟨hx, h⟩ := h
    refine a_iald (pc := 62) sx_2 hx d_TA_readNumber_62 ?_
    refine a_iadd (pc := 63) d_TA_readNumber_63 ?_
    refine a_bipush (pc := 64) (48 : Int32) (by decide) d_TA_readNumber_64 ?_
    refine a_isub (pc := 66) d_TA_readNumber_66 ?_
    refine a_nmi (pc := 67) (fun u1 hu1 => ?_)
    replace h := h u1 hu1
    refine a_istore_n (pc := 67) (lv' := [(3, .int u1), (0, .ref (gB g + 1)), (2, .int x2)]) rfl (Nat.le_of_ble_eq_true rfl) rfl d_TA_readNumber_67 ?_
    refine a_aload_n (pc := 68) 1 rfl rfl d_TA_readNumber_68 ?_
    refine a_dup (pc := 69) rfl d_TA_readNumber_69 ?_
    refine a_getI (pc := 70) fg_TA_19 sx_1 rfl d_TA_readNumber_70 ?_
    refine a_iconst (pc := 73) (1 : Int32) (by decide) d_TA_readNumber_73 ?_
    refine a_iadd (pc := 74) d_TA_readNumber_74 ?_
    refine a_putI (pc := 75) fp_TA_19 sx_1 rfl d_TA_readNumber_75 ?_
    refine a_nms (fun s2 hs2 => ?_)
    replace h := h s2 hs2
    refine a_goto (pc := 78) 42 (by decide) d_TA_readNumber_78 ?_
    refine a_sub (pc := 42) [1, 2, 0] rfl ?_
    exact h
theorem ko_TA_readNumber {g : Gx}  {σ : St} {Q : Int32 → St → Prop} (h : S_TA_readNumber_0 g Q σ) : K_TA_readNumber g  σ Q := KI.of (show plainName "BallBox$Tape" = true by decide) (Nat.le_of_ble_eq_true rfl) h
