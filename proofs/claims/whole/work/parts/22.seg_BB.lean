theorem d_BB_feed_0 : decode c_BB_feed 0 = .ok (.aload_n 0, 1) := by decide +kernel
theorem d_BB_feed_1 : decode c_BB_feed 1 = .ok (.getfield 10, 3) := by decide +kernel
theorem d_BB_feed_4 : decode c_BB_feed 4 = .ok (.getfield 92, 3) := by decide +kernel
theorem d_BB_feed_7 : decode c_BB_feed 7 = .ok (.bipush 20, 2) := by decide +kernel
theorem d_BB_feed_9 : decode c_BB_feed 9 = .ok (.iadd, 1) := by decide +kernel
theorem d_BB_feed_10 : decode c_BB_feed 10 = .ok (.sipush 400, 3) := by decide +kernel
theorem d_BB_feed_13 : decode c_BB_feed 13 = .ok (.if_icmp .le 5, 3) := by decide +kernel
theorem d_BB_feed_16 : decode c_BB_feed 16 = .ok (.iconst (-1), 1) := by decide +kernel
theorem d_BB_feed_17 : decode c_BB_feed 17 = .ok (.ireturn, 1) := by decide +kernel
theorem d_BB_feed_18 : decode c_BB_feed 18 = .ok (.aload_n 0, 1) := by decide +kernel
theorem d_BB_feed_19 : decode c_BB_feed 19 = .ok (.getfield 10, 3) := by decide +kernel
theorem d_BB_feed_22 : decode c_BB_feed 22 = .ok (.iload_n 1, 1) := by decide +kernel
theorem d_BB_feed_23 : decode c_BB_feed 23 = .ok (.invokevirtual 96, 3) := by decide +kernel
theorem d_BB_feed_26 : decode c_BB_feed 26 = .ok (.aload_n 0, 1) := by decide +kernel
theorem d_BB_feed_27 : decode c_BB_feed 27 = .ok (.getfield 10, 3) := by decide +kernel
theorem d_BB_feed_30 : decode c_BB_feed 30 = .ok (.iload_n 2, 1) := by decide +kernel
theorem d_BB_feed_31 : decode c_BB_feed 31 = .ok (.invokevirtual 96, 3) := by decide +kernel
theorem d_BB_feed_34 : decode c_BB_feed 34 = .ok (.aload_n 0, 1) := by decide +kernel
theorem d_BB_feed_35 : decode c_BB_feed 35 = .ok (.getfield 10, 3) := by decide +kernel
theorem d_BB_feed_38 : decode c_BB_feed 38 = .ok (.iload_n 3, 1) := by decide +kernel
theorem d_BB_feed_39 : decode c_BB_feed 39 = .ok (.invokevirtual 96, 3) := by decide +kernel
theorem d_BB_feed_42 : decode c_BB_feed 42 = .ok (.aload_n 0, 1) := by decide +kernel
theorem d_BB_feed_43 : decode c_BB_feed 43 = .ok (.getfield 10, 3) := by decide +kernel
theorem d_BB_feed_46 : decode c_BB_feed 46 = .ok (.iload 4, 2) := by decide +kernel
theorem d_BB_feed_48 : decode c_BB_feed 48 = .ok (.invokevirtual 96, 3) := by decide +kernel
theorem d_BB_feed_51 : decode c_BB_feed 51 = .ok (.aload_n 0, 1) := by decide +kernel
theorem d_BB_feed_52 : decode c_BB_feed 52 = .ok (.getfield 10, 3) := by decide +kernel
theorem d_BB_feed_55 : decode c_BB_feed 55 = .ok (.iload 5, 2) := by decide +kernel
theorem d_BB_feed_57 : decode c_BB_feed 57 = .ok (.invokevirtual 96, 3) := by decide +kernel
theorem d_BB_feed_60 : decode c_BB_feed 60 = .ok (.aload_n 0, 1) := by decide +kernel
theorem d_BB_feed_61 : decode c_BB_feed 61 = .ok (.getfield 10, 3) := by decide +kernel
theorem d_BB_feed_64 : decode c_BB_feed 64 = .ok (.getfield 92, 3) := by decide +kernel
theorem d_BB_feed_67 : decode c_BB_feed 67 = .ok (.ireturn, 1) := by decide +kernel
def S_BB_feed_0 (g : Gx) (Q : Int32 → St → Prop) (σ : St) (x1 : Int32) (x2 : Int32) (x3 : Int32) (x4 : Int32) (x5 : Int32) : Prop := Ax g m_BB_feed 0 0 (ZI g Q) SH σ 0 0 0 [(0, .ref (gB g + 0)), (1, .int x1), (2, .int x2), (3, .int x3), (4, .int x4), (5, .int x5)] []
theorem sg_BB_feed_0 {g : Gx} {Q : Int32 → St → Prop} {σ : St} {x1 : Int32} {x2 : Int32} {x3 : Int32} {x4 : Int32} {x5 : Int32}
    (h : (((fi σ 1 1) + (20 : Int32)) ≤ (400 : Int32) → K_TA_takeFour g x1 σ (fun s1 : St => K_TA_takeFour g x2 s1 (fun s2 : St => K_TA_takeFour g x3 s2 (fun s3 : St => K_TA_takeFour g x4 s3 (fun s4 : St => K_TA_takeFour g x5 s4 (fun s5 : St => Q (fi s5 1 1) s5)))))) ∧ (¬ ((fi σ 1 1) + (20 : Int32)) ≤ (400 : Int32) → Q (-1 : Int32) σ)) : S_BB_feed_0 g Q σ x1 x2 x3 x4 x5 := by
  show Ax g m_BB_feed 0 0 (ZI g Q) SH σ 0 0 0 [(0, .ref (gB g + 0)), (1, .int x1), (2, .int x2), (3, .int x3), (4, .int x4), (5, .int x5)] []
  refine a_aload_n (pc := 0) 0 rfl rfl d_BB_feed_0 ?_
  refine a_getR (pc := 1) fg_BB_10 sx_0 rfl d_BB_feed_1 ?_
  refine a_getI (pc := 4) fg_BB_92 sx_1 rfl d_BB_feed_4 ?_
  refine a_bipush (pc := 7) (20 : Int32) (by decide) d_BB_feed_7 ?_
  refine a_iadd (pc := 9) d_BB_feed_9 ?_
  refine a_sipush (pc := 10) (400 : Int32) (by decide) d_BB_feed_10 ?_
  refine a_icmp_le (pc := 13) 18 (by decide) d_BB_feed_13 ⟨fun c0 => ?_, fun c0 => ?_⟩
  · replace h := h.1 c0
    refine a_aload_n (pc := 18) 0 rfl rfl d_BB_feed_18 ?_
    refine a_getR (pc := 19) fg_BB_10 sx_0 rfl d_BB_feed_19 ?_
    refine a_iload_n (pc := 22) 1 rfl rfl d_BB_feed_22 ?_
    refine a_callV (pc := 23) (M' := m_TA_takeFour) (As := [.int x1]) (st := []) (mc' := 0) (ms' := 0) lk_BB_96 rfl sx_1 rfl (by decide) (by decide) rfl (Nat.le_of_ble_eq_true rfl) (Nat.le_refl 0) (Nat.le_refl 0) d_BB_feed_23 h ?_
    rintro _ _ s1 ⟨rfl, rfl, h⟩ -
    show Ax g m_BB_feed 0 0 (ZI g Q) SH s1 0 0 26 [(0, .ref (gB g + 0)), (1, .int x1), (2, .int x2), (3, .int x3), (4, .int x4), (5, .int x5)] []
    refine a_aload_n (pc := 26) 0 rfl rfl d_BB_feed_26 ?_
    refine a_getR (pc := 27) fg_BB_10 sx_0 rfl d_BB_feed_27 ?_
    refine a_iload_n (pc := 30) 2 rfl rfl d_BB_feed_30 ?_
    refine a_callV (pc := 31) (M' := m_TA_takeFour) (As := [.int x2]) (st := []) (mc' := 0) (ms' := 0) lk_BB_96 rfl sx_1 rfl (by decide) (by decide) rfl (Nat.le_of_ble_eq_true rfl) (Nat.le_refl 0) (Nat.le_refl 0) d_BB_feed_31 h ?_
    rintro _ _ s2 ⟨rfl, rfl, h⟩ -
    show Ax g m_BB_feed 0 0 (ZI g Q) SH s2 0 0 34 [(0, .ref (gB g + 0)), (1, .int x1), (2, .int x2), (3, .int x3), (4, .int x4), (5, .int x5)] []
    refine a_aload_n (pc := 34) 0 rfl rfl d_BB_feed_34 ?_
    refine a_getR (pc := 35) fg_BB_10 sx_0 rfl d_BB_feed_35 ?_
    refine a_iload_n (pc := 38) 3 rfl rfl d_BB_feed_38 ?_
    refine a_callV (pc := 39) (M' := m_TA_takeFour) (As := [.int x3]) (st := []) (mc' := 0) (ms' := 0) lk_BB_96 rfl sx_1 rfl (by decide) (by decide) rfl (Nat.le_of_ble_eq_true rfl) (Nat.le_refl 0) (Nat.le_refl 0) d_BB_feed_39 h ?_
    rintro _ _ s3 ⟨rfl, rfl, h⟩ -
    show Ax g m_BB_feed 0 0 (ZI g Q) SH s3 0 0 42 [(0, .ref (gB g + 0)), (1, .int x1), (2, .int x2), (3, .int x3), (4, .int x4), (5, .int x5)] []
    refine a_aload_n (pc := 42) 0 rfl rfl d_BB_feed_42 ?_
    refine a_getR (pc := 43) fg_BB_10 sx_0 rfl d_BB_feed_43 ?_
    refine a_iload (pc := 46) 4 rfl d_BB_feed_46 ?_
    refine a_callV (pc := 48) (M' := m_TA_takeFour) (As := [.int x4]) (st := []) (mc' := 0) (ms' := 0) lk_BB_96 rfl sx_1 rfl (by decide) (by decide) rfl (Nat.le_of_ble_eq_true rfl) (Nat.le_refl 0) (Nat.le_refl 0) d_BB_feed_48 h ?_
    rintro _ _ s4 ⟨rfl, rfl, h⟩ -
    show Ax g m_BB_feed 0 0 (ZI g Q) SH s4 0 0 51 [(0, .ref (gB g + 0)), (1, .int x1), (2, .int x2), (3, .int x3), (4, .int x4), (5, .int x5)] []
    refine a_aload_n (pc := 51) 0 rfl rfl d_BB_feed_51 ?_
    refine a_getR (pc := 52) fg_BB_10 sx_0 rfl d_BB_feed_52 ?_
    refine a_iload (pc := 55) 5 rfl d_BB_feed_55 ?_
    refine a_callV (pc := 57) (M' := m_TA_takeFour) (As := [.int x5]) (st := []) (mc' := 0) (ms' := 0) lk_BB_96 rfl sx_1 rfl (by decide) (by decide) rfl (Nat.le_of_ble_eq_true rfl) (Nat.le_refl 0) (Nat.le_refl 0) d_BB_feed_57 h ?_
    rintro _ _ s5 ⟨rfl, rfl, h⟩ -
    show Ax g m_BB_feed 0 0 (ZI g Q) SH s5 0 0 60 [(0, .ref (gB g + 0)), (1, .int x1), (2, .int x2), (3, .int x3), (4, .int x4), (5, .int x5)] []
    refine a_aload_n (pc := 60) 0 rfl rfl d_BB_feed_60 ?_
    refine a_getR (pc := 61) fg_BB_10 sx_0 rfl d_BB_feed_61 ?_
    refine a_getI (pc := 64) fg_BB_92 sx_1 rfl d_BB_feed_64 ?_
    exact b_iret (pc := 67) rfl d_BB_feed_67 h
  · replace h := h.2 c0
    refine a_iconst (pc := 16) (-1 : Int32) (by decide) d_BB_feed_16 ?_
    exact b_iret (pc := 17) rfl d_BB_feed_17 h
theorem ko_BB_feed {g : Gx}  {x1 : Int32} {x2 : Int32} {x3 : Int32} {x4 : Int32} {x5 : Int32} {σ : St} {Q : Int32 → St → Prop} (h : S_BB_feed_0 g Q σ x1 x2 x3 x4 x5) : K_BB_feed g x1 x2 x3 x4 x5 σ Q := KI.of (show plainName "BallBox" = true by decide) (Nat.le_of_ble_eq_true rfl) h
theorem d_BB_end_0 : decode c_BB_end 0 = .ok (.iload_n 1, 1) := by decide +kernel
theorem d_BB_end_1 : decode c_BB_end 1 = .ok (.ifCond .lt 14, 3) := by decide +kernel
theorem d_BB_end_4 : decode c_BB_end 4 = .ok (.iload_n 1, 1) := by decide +kernel
theorem d_BB_end_5 : decode c_BB_end 5 = .ok (.aload_n 0, 1) := by decide +kernel
theorem d_BB_end_6 : decode c_BB_end 6 = .ok (.getfield 10, 3) := by decide +kernel
theorem d_BB_end_9 : decode c_BB_end 9 = .ok (.getfield 92, 3) := by decide +kernel
theorem d_BB_end_12 : decode c_BB_end 12 = .ok (.if_icmp .le 5, 3) := by decide +kernel
theorem d_BB_end_15 : decode c_BB_end 15 = .ok (.iconst (-1), 1) := by decide +kernel
theorem d_BB_end_16 : decode c_BB_end 16 = .ok (.ireturn, 1) := by decide +kernel
theorem d_BB_end_17 : decode c_BB_end 17 = .ok (.aload_n 0, 1) := by decide +kernel
theorem d_BB_end_18 : decode c_BB_end 18 = .ok (.getfield 10, 3) := by decide +kernel
theorem d_BB_end_21 : decode c_BB_end 21 = .ok (.iload_n 1, 1) := by decide +kernel
theorem d_BB_end_22 : decode c_BB_end 22 = .ok (.putfield 92, 3) := by decide +kernel
theorem d_BB_end_25 : decode c_BB_end 25 = .ok (.iload_n 1, 1) := by decide +kernel
theorem d_BB_end_26 : decode c_BB_end 26 = .ok (.ireturn, 1) := by decide +kernel
def S_BB_end_0 (g : Gx) (Q : Int32 → St → Prop) (σ : St) (x1 : Int32) : Prop := Ax g m_BB_end 0 0 (ZI g Q) SH σ 0 0 0 [(0, .ref (gB g + 0)), (1, .int x1)] []
theorem sg_BB_end_0 {g : Gx} {Q : Int32 → St → Prop} {σ : St} {x1 : Int32}
    (h : (x1 < 0 → Q (-1 : Int32) σ) ∧ (¬ x1 < 0 → (x1 ≤ (fi σ 1 1) → ∀ s1 : St, s1 = sfi σ 1 1 x1 → Q x1 s1) ∧ (¬ x1 ≤ (fi σ 1 1) → Q (-1 : Int32) σ))) : S_BB_end_0 g Q σ x1 := by
  show Ax g m_BB_end 0 0 (ZI g Q) SH σ 0 0 0 [(0, .ref (gB g + 0)), (1, .int x1)] []
  refine a_iload_n (pc := 0) 1 rfl rfl d_BB_end_0 ?_
  refine a_if_lt (pc := 1) 15 (by decide) d_BB_end_1 ⟨fun c0 => ?_, fun c0 => ?_⟩
  · replace h := h.1 c0
    refine a_iconst (pc := 15) (-1 : Int32) (by decide) d_BB_end_15 ?_
    exact b_iret (pc := 16) rfl d_BB_end_16 h
  · replace h := h.2 c0
    refine a_iload_n (pc := 4) 1 rfl rfl d_BB_end_4 ?_
    refine a_aload_n (pc := 5) 0 rfl rfl d_BB_end_5 ?_
    refine a_getR (pc := 6) fg_BB_10 sx_0 rfl d_BB_end_6 ?_
    refine a_getI (pc := 9) fg_BB_92 sx_1 rfl d_BB_end_9 ?_
    refine a_icmp_le (pc := 12) 17 (by decide) d_BB_end_12 ⟨fun c0 => ?_, fun c0 => ?_⟩
    · replace h := h.1 c0
      refine a_aload_n (pc := 17) 0 rfl rfl d_BB_end_17 ?_
      refine a_getR (pc := 18) fg_BB_10 sx_0 rfl d_BB_end_18 ?_
      refine a_iload_n (pc := 21) 1 rfl rfl d_BB_end_21 ?_
      refine a_putI (pc := 22) fp_BB_92 sx_1 rfl d_BB_end_22 ?_
      refine a_nms (fun s1 hs1 => ?_)
      replace h := h s1 hs1
      refine a_iload_n (pc := 25) 1 rfl rfl d_BB_end_25 ?_
      exact b_iret (pc := 26) rfl d_BB_end_26 h
    · replace h := h.2 c0
      refine a_iconst (pc := 15) (-1 : Int32) (by decide) d_BB_end_15 ?_
      exact b_iret (pc := 16) rfl d_BB_end_16 h
theorem ko_BB_end {g : Gx}  {x1 : Int32} {σ : St} {Q : Int32 → St → Prop} (h : S_BB_end_0 g Q σ x1) : K_BB_end g x1 σ Q := KI.of (show plainName "BallBox" = true by decide) (Nat.le_of_ble_eq_true rfl) h
theorem d_BB_box_0 : decode c_BB_box 0 = .ok (.aload_n 0, 1) := by decide +kernel
theorem d_BB_box_1 : decode c_BB_box 1 = .ok (.getfield 19, 3) := by decide +kernel
theorem d_BB_box_4 : decode c_BB_box 4 = .ok (.aload_n 0, 1) := by decide +kernel
theorem d_BB_box_5 : decode c_BB_box 5 = .ok (.getfield 10, 3) := by decide +kernel
theorem d_BB_box_8 : decode c_BB_box 8 = .ok (.invokevirtual 100, 3) := by decide +kernel
theorem d_BB_box_11 : decode c_BB_box 11 = .ok (.istore_n 1, 1) := by decide +kernel
theorem d_BB_box_12 : decode c_BB_box 12 = .ok (.aload_n 0, 1) := by decide +kernel
theorem d_BB_box_13 : decode c_BB_box 13 = .ok (.getfield 10, 3) := by decide +kernel
theorem d_BB_box_16 : decode c_BB_box 16 = .ok (.iconst 0, 1) := by decide +kernel
theorem d_BB_box_17 : decode c_BB_box 17 = .ok (.putfield 92, 3) := by decide +kernel
theorem d_BB_box_20 : decode c_BB_box 20 = .ok (.iload_n 1, 1) := by decide +kernel
theorem d_BB_box_21 : decode c_BB_box 21 = .ok (.ifCond .eq 8, 3) := by decide +kernel
theorem d_BB_box_24 : decode c_BB_box 24 = .ok (.bipush (-2), 2) := by decide +kernel
theorem d_BB_box_26 : decode c_BB_box 26 = .ok (.iload_n 1, 1) := by decide +kernel
theorem d_BB_box_27 : decode c_BB_box 27 = .ok (.isub, 1) := by decide +kernel
theorem d_BB_box_28 : decode c_BB_box 28 = .ok (.ireturn, 1) := by decide +kernel
theorem d_BB_box_29 : decode c_BB_box 29 = .ok (.aload_n 0, 1) := by decide +kernel
theorem d_BB_box_30 : decode c_BB_box 30 = .ok (.getfield 77, 3) := by decide +kernel
theorem d_BB_box_33 : decode c_BB_box 33 = .ok (.aload_n 0, 1) := by decide +kernel
theorem d_BB_box_34 : decode c_BB_box 34 = .ok (.getfield 19, 3) := by decide +kernel
theorem d_BB_box_37 : decode c_BB_box 37 = .ok (.getfield 104, 3) := by decide +kernel
theorem d_BB_box_40 : decode c_BB_box 40 = .ok (.invokevirtual 107, 3) := by decide +kernel
theorem d_BB_box_43 : decode c_BB_box 43 = .ok (.aload_n 0, 1) := by decide +kernel
theorem d_BB_box_44 : decode c_BB_box 44 = .ok (.dup, 1) := by decide +kernel
theorem d_BB_box_45 : decode c_BB_box 45 = .ok (.getfield 111, 3) := by decide +kernel
theorem d_BB_box_48 : decode c_BB_box 48 = .ok (.iconst 1, 1) := by decide +kernel
theorem d_BB_box_49 : decode c_BB_box 49 = .ok (.iadd, 1) := by decide +kernel
theorem d_BB_box_50 : decode c_BB_box 50 = .ok (.putfield 111, 3) := by decide +kernel
theorem d_BB_box_53 : decode c_BB_box 53 = .ok (.aload_n 0, 1) := by decide +kernel
theorem d_BB_box_54 : decode c_BB_box 54 = .ok (.getfield 77, 3) := by decide +kernel
theorem d_BB_box_57 : decode c_BB_box 57 = .ok (.getfield 114, 3) := by decide +kernel
theorem d_BB_box_60 : decode c_BB_box 60 = .ok (.ireturn, 1) := by decide +kernel
def S_BB_box_0 (g : Gx) (Q : Int32 → St → Prop) (σ : St) : Prop := Ax g m_BB_box 0 0 (ZI g Q) SH σ 0 0 0 [(0, .ref (gB g + 0))] []
theorem sg_BB_box_0 {g : Gx} {Q : Int32 → St → Prop} {σ : St}
    (h : K_BR_read g σ (fun (r2 : Int32) (s1 : St) => ∀ s3 : St, s3 = sfi s1 1 1 (0 : Int32) → (r2 = 0 → K_SA_beginWith g 83 4 s3 (fun s4 : St => ∀ s5 : St, s5 = sfi s4 0 14 ((fi s4 0 14) + (1 : Int32)) → Q (fi s5 83 4) s5)) ∧ (¬ r2 = 0 → Q ((-2 : Int32) - r2) s3))) : S_BB_box_0 g Q σ := by
  show Ax g m_BB_box 0 0 (ZI g Q) SH σ 0 0 0 [(0, .ref (gB g + 0))] []
  refine a_aload_n (pc := 0) 0 rfl rfl d_BB_box_0 ?_
  refine a_getR (pc := 1) fg_BB_19 sx_0 rfl d_BB_box_1 ?_
  refine a_aload_n (pc := 4) 0 rfl rfl d_BB_box_4 ?_
  refine a_getR (pc := 5) fg_BB_10 sx_0 rfl d_BB_box_5 ?_
  refine a_callV (pc := 8) (M' := m_BR_read) (As := [.ref (gB g + 1)]) (st := []) (mc' := 0) (ms' := 0) lk_BB_100 rfl sx_3 rfl (by decide) (by decide) rfl (Nat.le_of_ble_eq_true rfl) (Nat.le_refl 0) (Nat.le_refl 0) d_BB_box_8 h ?_
  rintro _ _ s1 ⟨r2, rfl, rfl, h⟩ -
  show Ax g m_BB_box 0 0 (ZI g Q) SH s1 0 0 11 [(0, .ref (gB g + 0))] [.int r2]
  refine a_istore_n (pc := 11) (lv' := [(1, .int r2), (0, .ref (gB g + 0))]) rfl (Nat.le_of_ble_eq_true rfl) rfl d_BB_box_11 ?_
  refine a_aload_n (pc := 12) 1 rfl rfl d_BB_box_12 ?_
  refine a_getR (pc := 13) fg_BB_10 sx_0 rfl d_BB_box_13 ?_
  refine a_iconst (pc := 16) (0 : Int32) (by decide) d_BB_box_16 ?_
  refine a_putI (pc := 17) fp_BB_92 sx_1 rfl d_BB_box_17 ?_
  refine a_nms (fun s3 hs3 => ?_)
  replace h := h s3 hs3
  refine a_iload_n (pc := 20) 0 rfl rfl d_BB_box_20 ?_
  refine a_if_eq (pc := 21) 29 (by decide) d_BB_box_21 ⟨fun c0 => ?_, fun c0 => ?_⟩
  · replace h := h.1 c0
    refine a_aload_n (pc := 29) 1 rfl rfl d_BB_box_29 ?_
    refine a_getR (pc := 30) fg_BB_77 sx_0 rfl d_BB_box_30 ?_
    refine a_aload_n (pc := 33) 1 rfl rfl d_BB_box_33 ?_
    refine a_getR (pc := 34) fg_BB_19 sx_0 rfl d_BB_box_34 ?_
    refine a_getR (pc := 37) fg_BB_104 sx_3 rfl d_BB_box_37 ?_
    refine a_callV (pc := 40) (M' := m_SA_beginWith) (As := [.ref (gB g + 4)]) (st := []) (mc' := 0) (ms' := 0) lk_BB_107 rfl sx_83 rfl (by decide) (by decide) rfl (Nat.le_of_ble_eq_true rfl) (Nat.le_refl 0) (Nat.le_refl 0) d_BB_box_40 h ?_
    rintro _ _ s4 ⟨rfl, rfl, h⟩ -
    show Ax g m_BB_box 0 0 (ZI g Q) SH s4 0 0 43 [(1, .int r2), (0, .ref (gB g + 0))] []
    refine a_aload_n (pc := 43) 1 rfl rfl d_BB_box_43 ?_
    refine a_dup (pc := 44) rfl d_BB_box_44 ?_
    refine a_getI (pc := 45) fg_BB_111 sx_0 rfl d_BB_box_45 ?_
    refine a_iconst (pc := 48) (1 : Int32) (by decide) d_BB_box_48 ?_
    refine a_iadd (pc := 49) d_BB_box_49 ?_
    refine a_putI (pc := 50) fp_BB_111 sx_0 rfl d_BB_box_50 ?_
    refine a_nms (fun s5 hs5 => ?_)
    replace h := h s5 hs5
    refine a_aload_n (pc := 53) 1 rfl rfl d_BB_box_53 ?_
    refine a_getR (pc := 54) fg_BB_77 sx_0 rfl d_BB_box_54 ?_
    refine a_getI (pc := 57) fg_BB_114 sx_83 rfl d_BB_box_57 ?_
    exact b_iret (pc := 60) rfl d_BB_box_60 h
  · replace h := h.2 c0
    refine a_bipush (pc := 24) (-2 : Int32) (by decide) d_BB_box_24 ?_
    refine a_iload_n (pc := 26) 0 rfl rfl d_BB_box_26 ?_
    refine a_isub (pc := 27) d_BB_box_27 ?_
    exact b_iret (pc := 28) rfl d_BB_box_28 h
theorem ko_BB_box {g : Gx}  {σ : St} {Q : Int32 → St → Prop} (h : S_BB_box_0 g Q σ) : K_BB_box g  σ Q := KI.of (show plainName "BallBox" = true by decide) (Nat.le_of_ble_eq_true rfl) h
theorem d_BB_rule_0 : decode c_BB_rule 0 = .ok (.aload_n 0, 1) := by decide +kernel
theorem d_BB_rule_1 : decode c_BB_rule 1 = .ok (.getfield 33, 3) := by decide +kernel
theorem d_BB_rule_4 : decode c_BB_rule 4 = .ok (.getfield 117, 3) := by decide +kernel
theorem d_BB_rule_7 : decode c_BB_rule 7 = .ok (.bipush 6, 2) := by decide +kernel
theorem d_BB_rule_9 : decode c_BB_rule 9 = .ok (.if_icmp .lt 5, 3) := by decide +kernel
theorem d_BB_rule_12 : decode c_BB_rule 12 = .ok (.iconst (-1), 1) := by decide +kernel
theorem d_BB_rule_13 : decode c_BB_rule 13 = .ok (.ireturn, 1) := by decide +kernel
theorem d_BB_rule_14 : decode c_BB_rule 14 = .ok (.aload_n 0, 1) := by decide +kernel
theorem d_BB_rule_15 : decode c_BB_rule 15 = .ok (.getfield 26, 3) := by decide +kernel
theorem d_BB_rule_18 : decode c_BB_rule 18 = .ok (.aload_n 0, 1) := by decide +kernel
theorem d_BB_rule_19 : decode c_BB_rule 19 = .ok (.getfield 10, 3) := by decide +kernel
theorem d_BB_rule_22 : decode c_BB_rule 22 = .ok (.invokevirtual 120, 3) := by decide +kernel
theorem d_BB_rule_25 : decode c_BB_rule 25 = .ok (.istore_n 1, 1) := by decide +kernel
theorem d_BB_rule_26 : decode c_BB_rule 26 = .ok (.aload_n 0, 1) := by decide +kernel
theorem d_BB_rule_27 : decode c_BB_rule 27 = .ok (.getfield 10, 3) := by decide +kernel
theorem d_BB_rule_30 : decode c_BB_rule 30 = .ok (.iconst 0, 1) := by decide +kernel
theorem d_BB_rule_31 : decode c_BB_rule 31 = .ok (.putfield 92, 3) := by decide +kernel
theorem d_BB_rule_34 : decode c_BB_rule 34 = .ok (.iload_n 1, 1) := by decide +kernel
theorem d_BB_rule_35 : decode c_BB_rule 35 = .ok (.ifCond .eq 8, 3) := by decide +kernel
theorem d_BB_rule_38 : decode c_BB_rule 38 = .ok (.bipush (-2), 2) := by decide +kernel
theorem d_BB_rule_40 : decode c_BB_rule 40 = .ok (.iload_n 1, 1) := by decide +kernel
theorem d_BB_rule_41 : decode c_BB_rule 41 = .ok (.isub, 1) := by decide +kernel
theorem d_BB_rule_42 : decode c_BB_rule 42 = .ok (.ireturn, 1) := by decide +kernel
theorem d_BB_rule_43 : decode c_BB_rule 43 = .ok (.aload_n 0, 1) := by decide +kernel
theorem d_BB_rule_44 : decode c_BB_rule 44 = .ok (.getfield 33, 3) := by decide +kernel
theorem d_BB_rule_47 : decode c_BB_rule 47 = .ok (.aload_n 0, 1) := by decide +kernel
theorem d_BB_rule_48 : decode c_BB_rule 48 = .ok (.getfield 26, 3) := by decide +kernel
theorem d_BB_rule_51 : decode c_BB_rule 51 = .ok (.getfield 121, 3) := by decide +kernel
theorem d_BB_rule_54 : decode c_BB_rule 54 = .ok (.invokevirtual 124, 3) := by decide +kernel
theorem d_BB_rule_57 : decode c_BB_rule 57 = .ok (.aload_n 0, 1) := by decide +kernel
theorem d_BB_rule_58 : decode c_BB_rule 58 = .ok (.getfield 33, 3) := by decide +kernel
theorem d_BB_rule_61 : decode c_BB_rule 61 = .ok (.getfield 117, 3) := by decide +kernel
theorem d_BB_rule_64 : decode c_BB_rule 64 = .ok (.iconst 1, 1) := by decide +kernel
theorem d_BB_rule_65 : decode c_BB_rule 65 = .ok (.isub, 1) := by decide +kernel
theorem d_BB_rule_66 : decode c_BB_rule 66 = .ok (.ireturn, 1) := by decide +kernel
def S_BB_rule_0 (g : Gx) (Q : Int32 → St → Prop) (σ : St) : Prop := Ax g m_BB_rule 0 0 (ZI g Q) SH σ 0 0 0 [(0, .ref (gB g + 0))] []
theorem sg_BB_rule_0 {g : Gx} {Q : Int32 → St → Prop} {σ : St}
    (h : ((fi σ 17 5) < (6 : Int32) → K_RR_read g σ (fun (r2 : Int32) (s1 : St) => ∀ s3 : St, s3 = sfi s1 1 1 (0 : Int32) → (r2 = 0 → K_RO_addRule g 12 s3 (fun s4 : St => Q ((fi s4 17 5) - (1 : Int32)) s4)) ∧ (¬ r2 = 0 → Q ((-2 : Int32) - r2) s3))) ∧ (¬ (fi σ 17 5) < (6 : Int32) → Q (-1 : Int32) σ)) : S_BB_rule_0 g Q σ := by
  show Ax g m_BB_rule 0 0 (ZI g Q) SH σ 0 0 0 [(0, .ref (gB g + 0))] []
  refine a_aload_n (pc := 0) 0 rfl rfl d_BB_rule_0 ?_
  refine a_getR (pc := 1) fg_BB_33 sx_0 rfl d_BB_rule_1 ?_
  refine a_getI (pc := 4) fg_BB_117 sx_17 rfl d_BB_rule_4 ?_
  refine a_bipush (pc := 7) (6 : Int32) (by decide) d_BB_rule_7 ?_
  refine a_icmp_lt (pc := 9) 14 (by decide) d_BB_rule_9 ⟨fun c0 => ?_, fun c0 => ?_⟩
  · replace h := h.1 c0
    refine a_aload_n (pc := 14) 0 rfl rfl d_BB_rule_14 ?_
    refine a_getR (pc := 15) fg_BB_26 sx_0 rfl d_BB_rule_15 ?_
    refine a_aload_n (pc := 18) 0 rfl rfl d_BB_rule_18 ?_
    refine a_getR (pc := 19) fg_BB_10 sx_0 rfl d_BB_rule_19 ?_
    refine a_callV (pc := 22) (M' := m_RR_read) (As := [.ref (gB g + 1)]) (st := []) (mc' := 0) (ms' := 0) lk_BB_120 rfl sx_9 rfl (by decide) (by decide) rfl (Nat.le_of_ble_eq_true rfl) (Nat.le_refl 0) (Nat.le_refl 0) d_BB_rule_22 h ?_
    rintro _ _ s1 ⟨r2, rfl, rfl, h⟩ -
    show Ax g m_BB_rule 0 0 (ZI g Q) SH s1 0 0 25 [(0, .ref (gB g + 0))] [.int r2]
    refine a_istore_n (pc := 25) (lv' := [(1, .int r2), (0, .ref (gB g + 0))]) rfl (Nat.le_of_ble_eq_true rfl) rfl d_BB_rule_25 ?_
    refine a_aload_n (pc := 26) 1 rfl rfl d_BB_rule_26 ?_
    refine a_getR (pc := 27) fg_BB_10 sx_0 rfl d_BB_rule_27 ?_
    refine a_iconst (pc := 30) (0 : Int32) (by decide) d_BB_rule_30 ?_
    refine a_putI (pc := 31) fp_BB_92 sx_1 rfl d_BB_rule_31 ?_
    refine a_nms (fun s3 hs3 => ?_)
    replace h := h s3 hs3
    refine a_iload_n (pc := 34) 0 rfl rfl d_BB_rule_34 ?_
    refine a_if_eq (pc := 35) 43 (by decide) d_BB_rule_35 ⟨fun c0 => ?_, fun c0 => ?_⟩
    · replace h := h.1 c0
      refine a_aload_n (pc := 43) 1 rfl rfl d_BB_rule_43 ?_
      refine a_getR (pc := 44) fg_BB_33 sx_0 rfl d_BB_rule_44 ?_
      refine a_aload_n (pc := 47) 1 rfl rfl d_BB_rule_47 ?_
      refine a_getR (pc := 48) fg_BB_26 sx_0 rfl d_BB_rule_48 ?_
      refine a_getR (pc := 51) fg_BB_121 sx_9 rfl d_BB_rule_51 ?_
      refine a_callV (pc := 54) (M' := m_RO_addRule) (As := [.ref (gB g + 12)]) (st := []) (mc' := 0) (ms' := 0) lk_BB_124 rfl sx_17 rfl (by decide) (by decide) rfl (Nat.le_of_ble_eq_true rfl) (Nat.le_refl 0) (Nat.le_refl 0) d_BB_rule_54 h ?_
      rintro _ _ s4 ⟨rfl, rfl, h⟩ -
      show Ax g m_BB_rule 0 0 (ZI g Q) SH s4 0 0 57 [(1, .int r2), (0, .ref (gB g + 0))] []
      refine a_aload_n (pc := 57) 1 rfl rfl d_BB_rule_57 ?_
      refine a_getR (pc := 58) fg_BB_33 sx_0 rfl d_BB_rule_58 ?_
      refine a_getI (pc := 61) fg_BB_117 sx_17 rfl d_BB_rule_61 ?_
      refine a_iconst (pc := 64) (1 : Int32) (by decide) d_BB_rule_64 ?_
      refine a_isub (pc := 65) d_BB_rule_65 ?_
      exact b_iret (pc := 66) rfl d_BB_rule_66 h
    · replace h := h.2 c0
      refine a_bipush (pc := 38) (-2 : Int32) (by decide) d_BB_rule_38 ?_
      refine a_iload_n (pc := 40) 0 rfl rfl d_BB_rule_40 ?_
      refine a_isub (pc := 41) d_BB_rule_41 ?_
      exact b_iret (pc := 42) rfl d_BB_rule_42 h
  · replace h := h.2 c0
    refine a_iconst (pc := 12) (-1 : Int32) (by decide) d_BB_rule_12 ?_
    exact b_iret (pc := 13) rfl d_BB_rule_13 h
theorem ko_BB_rule {g : Gx}  {σ : St} {Q : Int32 → St → Prop} (h : S_BB_rule_0 g Q σ) : K_BB_rule g  σ Q := KI.of (show plainName "BallBox" = true by decide) (Nat.le_of_ble_eq_true rfl) h
theorem d_BB_force_0 : decode c_BB_force 0 = .ok (.iload_n 1, 1) := by decide +kernel
theorem d_BB_force_1 : decode c_BB_force 1 = .ok (.iconst (-1), 1) := by decide +kernel
theorem d_BB_force_2 : decode c_BB_force 2 = .ok (.if_icmp .lt 14, 3) := by decide +kernel
theorem d_BB_force_5 : decode c_BB_force 5 = .ok (.iload_n 1, 1) := by decide +kernel
theorem d_BB_force_6 : decode c_BB_force 6 = .ok (.aload_n 0, 1) := by decide +kernel
theorem d_BB_force_7 : decode c_BB_force 7 = .ok (.getfield 33, 3) := by decide +kernel
theorem d_BB_force_10 : decode c_BB_force 10 = .ok (.getfield 117, 3) := by decide +kernel
theorem d_BB_force_13 : decode c_BB_force 13 = .ok (.if_icmp .lt 6, 3) := by decide +kernel
theorem d_BB_force_16 : decode c_BB_force 16 = .ok (.bipush (-2), 2) := by decide +kernel
theorem d_BB_force_18 : decode c_BB_force 18 = .ok (.ireturn, 1) := by decide +kernel
theorem d_BB_force_19 : decode c_BB_force 19 = .ok (.aload_n 0, 1) := by decide +kernel
theorem d_BB_force_20 : decode c_BB_force 20 = .ok (.getfield 77, 3) := by decide +kernel
theorem d_BB_force_23 : decode c_BB_force 23 = .ok (.getfield 128, 3) := by decide +kernel
theorem d_BB_force_26 : decode c_BB_force 26 = .ok (.istore_n 2, 1) := by decide +kernel
theorem d_BB_force_27 : decode c_BB_force 27 = .ok (.aload_n 0, 1) := by decide +kernel
theorem d_BB_force_28 : decode c_BB_force 28 = .ok (.getfield 77, 3) := by decide +kernel
theorem d_BB_force_31 : decode c_BB_force 31 = .ok (.iload_n 1, 1) := by decide +kernel
theorem d_BB_force_32 : decode c_BB_force 32 = .ok (.putfield 128, 3) := by decide +kernel
theorem d_BB_force_35 : decode c_BB_force 35 = .ok (.aload_n 0, 1) := by decide +kernel
theorem d_BB_force_36 : decode c_BB_force 36 = .ok (.dup, 1) := by decide +kernel
theorem d_BB_force_37 : decode c_BB_force 37 = .ok (.getfield 111, 3) := by decide +kernel
theorem d_BB_force_40 : decode c_BB_force 40 = .ok (.iconst 1, 1) := by decide +kernel
theorem d_BB_force_41 : decode c_BB_force 41 = .ok (.iadd, 1) := by decide +kernel
theorem d_BB_force_42 : decode c_BB_force 42 = .ok (.putfield 111, 3) := by decide +kernel
theorem d_BB_force_45 : decode c_BB_force 45 = .ok (.iload_n 2, 1) := by decide +kernel
theorem d_BB_force_46 : decode c_BB_force 46 = .ok (.ireturn, 1) := by decide +kernel
def S_BB_force_0 (g : Gx) (Q : Int32 → St → Prop) (σ : St) (x1 : Int32) : Prop := Ax g m_BB_force 0 0 (ZI g Q) SH σ 0 0 0 [(0, .ref (gB g + 0)), (1, .int x1)] []
theorem sg_BB_force_0 {g : Gx} {Q : Int32 → St → Prop} {σ : St} {x1 : Int32}
    (h : (x1 < (-1 : Int32) → Q (-2 : Int32) σ) ∧ (¬ x1 < (-1 : Int32) → (x1 < (fi σ 17 5) → ∀ u1 : Int32, u1 = (fi σ 83 9) → ∀ s2 : St, s2 = sfi σ 83 9 x1 → ∀ s3 : St, s3 = sfi s2 0 14 ((fi s2 0 14) + (1 : Int32)) → Q u1 s3) ∧ (¬ x1 < (fi σ 17 5) → Q (-2 : Int32) σ))) : S_BB_force_0 g Q σ x1 := by
  show Ax g m_BB_force 0 0 (ZI g Q) SH σ 0 0 0 [(0, .ref (gB g + 0)), (1, .int x1)] []
  refine a_iload_n (pc := 0) 1 rfl rfl d_BB_force_0 ?_
  refine a_iconst (pc := 1) (-1 : Int32) (by decide) d_BB_force_1 ?_
  refine a_icmp_lt (pc := 2) 16 (by decide) d_BB_force_2 ⟨fun c0 => ?_, fun c0 => ?_⟩
  · replace h := h.1 c0
    refine a_bipush (pc := 16) (-2 : Int32) (by decide) d_BB_force_16 ?_
    exact b_iret (pc := 18) rfl d_BB_force_18 h
  · replace h := h.2 c0
    refine a_iload_n (pc := 5) 1 rfl rfl d_BB_force_5 ?_
    refine a_aload_n (pc := 6) 0 rfl rfl d_BB_force_6 ?_
    refine a_getR (pc := 7) fg_BB_33 sx_0 rfl d_BB_force_7 ?_
    refine a_getI (pc := 10) fg_BB_117 sx_17 rfl d_BB_force_10 ?_
    refine a_icmp_lt (pc := 13) 19 (by decide) d_BB_force_13 ⟨fun c0 => ?_, fun c0 => ?_⟩
    · replace h := h.1 c0
      refine a_aload_n (pc := 19) 0 rfl rfl d_BB_force_19 ?_
      refine a_getR (pc := 20) fg_BB_77 sx_0 rfl d_BB_force_20 ?_
      refine a_getI (pc := 23) fg_BB_128 sx_83 rfl d_BB_force_23 ?_
      refine a_nmi (pc := 26) (fun u1 hu1 => ?_)
      replace h := h u1 hu1
      refine a_istore_n (pc := 26) (lv' := [(2, .int u1), (0, .ref (gB g + 0)), (1, .int x1)]) rfl (Nat.le_of_ble_eq_true rfl) rfl d_BB_force_26 ?_
      refine a_aload_n (pc := 27) 1 rfl rfl d_BB_force_27 ?_
      refine a_getR (pc := 28) fg_BB_77 sx_0 rfl d_BB_force_28 ?_
      refine a_iload_n (pc := 31) 2 rfl rfl d_BB_force_31 ?_
      refine a_putI (pc := 32) fp_BB_128 sx_83 rfl d_BB_force_32 ?_
      refine a_nms (fun s2 hs2 => ?_)
      replace h := h s2 hs2
      refine a_aload_n (pc := 35) 1 rfl rfl d_BB_force_35 ?_
      refine a_dup (pc := 36) rfl d_BB_force_36 ?_
      refine a_getI (pc := 37) fg_BB_111 sx_0 rfl d_BB_force_37 ?_
      refine a_iconst (pc := 40) (1 : Int32) (by decide) d_BB_force_40 ?_
      refine a_iadd (pc := 41) d_BB_force_41 ?_
      refine a_putI (pc := 42) fp_BB_111 sx_0 rfl d_BB_force_42 ?_
      refine a_nms (fun s3 hs3 => ?_)
      replace h := h s3 hs3
      refine a_iload_n (pc := 45) 0 rfl rfl d_BB_force_45 ?_
      exact b_iret (pc := 46) rfl d_BB_force_46 h
    · replace h := h.2 c0
      refine a_bipush (pc := 16) (-2 : Int32) (by decide) d_BB_force_16 ?_
      exact b_iret (pc := 18) rfl d_BB_force_18 h
theorem ko_BB_force {g : Gx}  {x1 : Int32} {σ : St} {Q : Int32 → St → Prop} (h : S_BB_force_0 g Q σ x1) : K_BB_force g x1 σ Q := KI.of (show plainName "BallBox" = true by decide) (Nat.le_of_ble_eq_true rfl) h
theorem d_BB_cell_0 : decode c_BB_cell 0 = .ok (.iload_n 1, 1) := by decide +kernel
theorem d_BB_cell_1 : decode c_BB_cell 1 = .ok (.iload_n 2, 1) := by decide +kernel
theorem d_BB_cell_2 : decode c_BB_cell 2 = .ok (.invokestatic 131, 3) := by decide +kernel
theorem d_BB_cell_5 : decode c_BB_cell 5 = .ok (.istore 4, 2) := by decide +kernel
theorem d_BB_cell_7 : decode c_BB_cell 7 = .ok (.aload_n 0, 1) := by decide +kernel
theorem d_BB_cell_8 : decode c_BB_cell 8 = .ok (.getfield 77, 3) := by decide +kernel
theorem d_BB_cell_11 : decode c_BB_cell 11 = .ok (.iload 4, 2) := by decide +kernel
theorem d_BB_cell_13 : decode c_BB_cell 13 = .ok (.invokevirtual 135, 3) := by decide +kernel
theorem d_BB_cell_16 : decode c_BB_cell 16 = .ok (.istore 5, 2) := by decide +kernel
theorem d_BB_cell_18 : decode c_BB_cell 18 = .ok (.iload 5, 2) := by decide +kernel
theorem d_BB_cell_20 : decode c_BB_cell 20 = .ok (.iconst (-1), 1) := by decide +kernel
theorem d_BB_cell_21 : decode c_BB_cell 21 = .ok (.if_icmp .eq 12, 3) := by decide +kernel
theorem d_BB_cell_24 : decode c_BB_cell 24 = .ok (.iload_n 3, 1) := by decide +kernel
theorem d_BB_cell_25 : decode c_BB_cell 25 = .ok (.ifCond .lt 8, 3) := by decide +kernel
theorem d_BB_cell_28 : decode c_BB_cell 28 = .ok (.iload_n 3, 1) := by decide +kernel
theorem d_BB_cell_29 : decode c_BB_cell 29 = .ok (.iconst 1, 1) := by decide +kernel
theorem d_BB_cell_30 : decode c_BB_cell 30 = .ok (.if_icmp .le 5, 3) := by decide +kernel
theorem d_BB_cell_33 : decode c_BB_cell 33 = .ok (.iconst (-1), 1) := by decide +kernel
theorem d_BB_cell_34 : decode c_BB_cell 34 = .ok (.ireturn, 1) := by decide +kernel
theorem d_BB_cell_35 : decode c_BB_cell 35 = .ok (.iload_n 3, 1) := by decide +kernel
theorem d_BB_cell_36 : decode c_BB_cell 36 = .ok (.ifCond .ne 8, 3) := by decide +kernel
theorem d_BB_cell_39 : decode c_BB_cell 39 = .ok (.iload 5, 2) := by decide +kernel
theorem d_BB_cell_41 : decode c_BB_cell 41 = .ok (.goto 15, 3) := by decide +kernel
theorem d_BB_cell_44 : decode c_BB_cell 44 = .ok (.aload_n 0, 1) := by decide +kernel
theorem d_BB_cell_45 : decode c_BB_cell 45 = .ok (.getfield 77, 3) := by decide +kernel
theorem d_BB_cell_48 : decode c_BB_cell 48 = .ok (.getfield 139, 3) := by decide +kernel
theorem d_BB_cell_51 : decode c_BB_cell 51 = .ok (.iload 4, 2) := by decide +kernel
theorem d_BB_cell_53 : decode c_BB_cell 53 = .ok (.invokestatic 142, 3) := by decide +kernel
theorem d_BB_cell_56 : decode c_BB_cell 56 = .ok (.ireturn, 1) := by decide +kernel
def S_BB_cell_0 (g : Gx) (Q : Int32 → St → Prop) (σ : St) (x1 : Int32) (x2 : Int32) (x3 : Int32) : Prop := Ax g m_BB_cell 0 0 (ZI g Q) SH σ 0 0 0 [(0, .ref (gB g + 0)), (1, .int x1), (2, .int x2), (3, .int x3)] []
theorem sg_BB_cell_0 {g : Gx} {Q : Int32 → St → Prop} {σ : St} {x1 : Int32} {x2 : Int32} {x3 : Int32}
    (h : K_SA_spotOf g x1 x2 σ (fun (r2 : Int32) (s1 : St) => K_SA_kindAt g 83 r2 s1 (fun (r4 : Int32) (s3 : St) => (r4 = (-1 : Int32) → Q (-1 : Int32) s3) ∧ (¬ r4 = (-1 : Int32) → (x3 < 0 → Q (-1 : Int32) s3) ∧ (¬ x3 < 0 → (x3 ≤ (1 : Int32) → (¬ x3 = 0 → K_SA_whoLies g (fi s3 83 5) r2 s3 (fun (r6 : Int32) (s5 : St) => Q r6 s5)) ∧ (x3 = 0 → Q r4 s3)) ∧ (¬ x3 ≤ (1 : Int32) → Q (-1 : Int32) s3)))))) : S_BB_cell_0 g Q σ x1 x2 x3 := by
  show Ax g m_BB_cell 0 0 (ZI g Q) SH σ 0 0 0 [(0, .ref (gB g + 0)), (1, .int x1), (2, .int x2), (3, .int x3)] []
  refine a_iload_n (pc := 0) 1 rfl rfl d_BB_cell_0 ?_
  refine a_iload_n (pc := 1) 2 rfl rfl d_BB_cell_1 ?_
  refine a_callS (pc := 2) (M' := m_SA_spotOf) (As := [.int x1, .int x2]) (st := []) (mc' := 0) (ms' := 0) lk_BB_131 rfl (by decide) (by decide) rfl (Nat.le_of_ble_eq_true rfl) (Nat.le_refl 0) (Nat.le_refl 0) d_BB_cell_2 h ?_
  rintro _ _ s1 ⟨r2, rfl, rfl, h⟩ -
  show Ax g m_BB_cell 0 0 (ZI g Q) SH s1 0 0 5 [(0, .ref (gB g + 0)), (1, .int x1), (2, .int x2), (3, .int x3)] [.int r2]
  refine a_istore (pc := 5) (lv' := [(4, .int r2), (0, .ref (gB g + 0)), (1, .int x1), (2, .int x2), (3, .int x3)]) (Nat.le_of_ble_eq_true rfl) rfl d_BB_cell_5 ?_
  refine a_aload_n (pc := 7) 1 rfl rfl d_BB_cell_7 ?_
  refine a_getR (pc := 8) fg_BB_77 sx_0 rfl d_BB_cell_8 ?_
  refine a_iload (pc := 11) 0 rfl d_BB_cell_11 ?_
  refine a_callV (pc := 13) (M' := m_SA_kindAt) (As := [.int r2]) (st := []) (mc' := 0) (ms' := 0) lk_BB_135 rfl sx_83 rfl (by decide) (by decide) rfl (Nat.le_of_ble_eq_true rfl) (Nat.le_refl 0) (Nat.le_refl 0) d_BB_cell_13 h ?_
  rintro _ _ s3 ⟨r4, rfl, rfl, h⟩ -
  show Ax g m_BB_cell 0 0 (ZI g Q) SH s3 0 0 16 [(4, .int r2), (0, .ref (gB g + 0)), (1, .int x1), (2, .int x2), (3, .int x3)] [.int r4]
  refine a_istore (pc := 16) (lv' := [(5, .int r4), (4, .int r2), (0, .ref (gB g + 0)), (1, .int x1), (2, .int x2), (3, .int x3)]) (Nat.le_of_ble_eq_true rfl) rfl d_BB_cell_16 ?_
  refine a_iload (pc := 18) 0 rfl d_BB_cell_18 ?_
  refine a_iconst (pc := 20) (-1 : Int32) (by decide) d_BB_cell_20 ?_
  refine a_icmp_eq (pc := 21) 33 (by decide) d_BB_cell_21 ⟨fun c0 => ?_, fun c0 => ?_⟩
  · replace h := h.1 c0
    refine a_iconst (pc := 33) (-1 : Int32) (by decide) d_BB_cell_33 ?_
    exact b_iret (pc := 34) rfl d_BB_cell_34 h
  · replace h := h.2 c0
    refine a_iload_n (pc := 24) 5 rfl rfl d_BB_cell_24 ?_
    refine a_if_lt (pc := 25) 33 (by decide) d_BB_cell_25 ⟨fun c0 => ?_, fun c0 => ?_⟩
    · replace h := h.1 c0
      refine a_iconst (pc := 33) (-1 : Int32) (by decide) d_BB_cell_33 ?_
      exact b_iret (pc := 34) rfl d_BB_cell_34 h
    · replace h := h.2 c0
      refine a_iload_n (pc := 28) 5 rfl rfl d_BB_cell_28 ?_
      refine a_iconst (pc := 29) (1 : Int32) (by decide) d_BB_cell_29 ?_
      refine a_icmp_le (pc := 30) 35 (by decide) d_BB_cell_30 ⟨fun c0 => ?_, fun c0 => ?_⟩
      · replace h := h.1 c0
        refine a_iload_n (pc := 35) 5 rfl rfl d_BB_cell_35 ?_
        refine a_if_ne (pc := 36) 44 (by decide) d_BB_cell_36 ⟨fun c0 => ?_, fun c0 => ?_⟩
        · replace h := h.1 c0
          refine a_aload_n (pc := 44) 2 rfl rfl d_BB_cell_44 ?_
          refine a_getR (pc := 45) fg_BB_77 sx_0 rfl d_BB_cell_45 ?_
          refine a_getI (pc := 48) fg_BB_139 sx_83 rfl d_BB_cell_48 ?_
          refine a_iload (pc := 51) 1 rfl d_BB_cell_51 ?_
          refine a_callS (pc := 53) (M' := m_SA_whoLies) (As := [.int (fi s3 83 5), .int r2]) (st := []) (mc' := 0) (ms' := 0) lk_BB_142 rfl (by decide) (by decide) rfl (Nat.le_of_ble_eq_true rfl) (Nat.le_refl 0) (Nat.le_refl 0) d_BB_cell_53 h ?_
          rintro _ _ s5 ⟨r6, rfl, rfl, h⟩ -
          show Ax g m_BB_cell 0 0 (ZI g Q) SH s5 0 0 56 [(5, .int r4), (4, .int r2), (0, .ref (gB g + 0)), (1, .int x1), (2, .int x2), (3, .int x3)] [.int r6]
          exact b_iret (pc := 56) rfl d_BB_cell_56 h
        · replace h := h.2 c0
          refine a_iload (pc := 39) 0 rfl d_BB_cell_39 ?_
          refine a_goto (pc := 41) 56 (by decide) d_BB_cell_41 ?_
          exact b_iret (pc := 56) rfl d_BB_cell_56 h
      · replace h := h.2 c0
        refine a_iconst (pc := 33) (-1 : Int32) (by decide) d_BB_cell_33 ?_
        exact b_iret (pc := 34) rfl d_BB_cell_34 h
theorem ko_BB_cell {g : Gx}  {x1 : Int32} {x2 : Int32} {x3 : Int32} {σ : St} {Q : Int32 → St → Prop} (h : S_BB_cell_0 g Q σ x1 x2 x3) : K_BB_cell g x1 x2 x3 σ Q := KI.of (show plainName "BallBox" = true by decide) (Nat.le_of_ble_eq_true rfl) h
theorem d_BB_ball_0 : decode c_BB_ball 0 = .ok (.iload_n 1, 1) := by decide +kernel
theorem d_BB_ball_1 : decode c_BB_ball 1 = .ok (.ifCond .lt 14, 3) := by decide +kernel
theorem d_BB_ball_4 : decode c_BB_ball 4 = .ok (.iload_n 1, 1) := by decide +kernel
theorem d_BB_ball_5 : decode c_BB_ball 5 = .ok (.aload_n 0, 1) := by decide +kernel
theorem d_BB_ball_6 : decode c_BB_ball 6 = .ok (.getfield 77, 3) := by decide +kernel
theorem d_BB_ball_9 : decode c_BB_ball 9 = .ok (.getfield 114, 3) := by decide +kernel
theorem d_BB_ball_12 : decode c_BB_ball 12 = .ok (.if_icmp .lt 5, 3) := by decide +kernel
theorem d_BB_ball_15 : decode c_BB_ball 15 = .ok (.iconst (-1), 1) := by decide +kernel
theorem d_BB_ball_16 : decode c_BB_ball 16 = .ok (.ireturn, 1) := by decide +kernel
theorem d_BB_ball_17 : decode c_BB_ball 17 = .ok (.aload_n 0, 1) := by decide +kernel
theorem d_BB_ball_18 : decode c_BB_ball 18 = .ok (.getfield 77, 3) := by decide +kernel
theorem d_BB_ball_21 : decode c_BB_ball 21 = .ok (.getfield 139, 3) := by decide +kernel
theorem d_BB_ball_24 : decode c_BB_ball 24 = .ok (.iload_n 1, 1) := by decide +kernel
theorem d_BB_ball_25 : decode c_BB_ball 25 = .ok (.invokestatic 145, 3) := by decide +kernel
theorem d_BB_ball_28 : decode c_BB_ball 28 = .ok (.istore_n 3, 1) := by decide +kernel
theorem d_BB_ball_29 : decode c_BB_ball 29 = .ok (.iload_n 3, 1) := by decide +kernel
theorem d_BB_ball_30 : decode c_BB_ball 30 = .ok (.invokestatic 148, 3) := by decide +kernel
theorem d_BB_ball_33 : decode c_BB_ball 33 = .ok (.istore 4, 2) := by decide +kernel
theorem d_BB_ball_35 : decode c_BB_ball 35 = .ok (.iload_n 2, 1) := by decide +kernel
theorem d_BB_ball_36 : decode c_BB_ball 36 = .ok (.tableswitch 98 0 3 #[32, 46, 60, 79], 32) := by decide +kernel
theorem d_BB_ball_68 : decode c_BB_ball 68 = .ok (.iload 4, 2) := by decide +kernel
theorem d_BB_ball_70 : decode c_BB_ball 70 = .ok (.ifCond .eq 7, 3) := by decide +kernel
theorem d_BB_ball_73 : decode c_BB_ball 73 = .ok (.iconst (-1), 1) := by decide +kernel
theorem d_BB_ball_74 : decode c_BB_ball 74 = .ok (.goto 7, 3) := by decide +kernel
theorem d_BB_ball_77 : decode c_BB_ball 77 = .ok (.iload_n 3, 1) := by decide +kernel
theorem d_BB_ball_78 : decode c_BB_ball 78 = .ok (.invokestatic 152, 3) := by decide +kernel
theorem d_BB_ball_81 : decode c_BB_ball 81 = .ok (.ireturn, 1) := by decide +kernel
theorem d_BB_ball_82 : decode c_BB_ball 82 = .ok (.iload 4, 2) := by decide +kernel
theorem d_BB_ball_84 : decode c_BB_ball 84 = .ok (.ifCond .eq 7, 3) := by decide +kernel
theorem d_BB_ball_87 : decode c_BB_ball 87 = .ok (.iconst (-1), 1) := by decide +kernel
theorem d_BB_ball_88 : decode c_BB_ball 88 = .ok (.goto 7, 3) := by decide +kernel
theorem d_BB_ball_91 : decode c_BB_ball 91 = .ok (.iload_n 3, 1) := by decide +kernel
theorem d_BB_ball_92 : decode c_BB_ball 92 = .ok (.invokestatic 155, 3) := by decide +kernel
theorem d_BB_ball_95 : decode c_BB_ball 95 = .ok (.ireturn, 1) := by decide +kernel
theorem d_BB_ball_96 : decode c_BB_ball 96 = .ok (.iload 4, 2) := by decide +kernel
theorem d_BB_ball_98 : decode c_BB_ball 98 = .ok (.ifCond .ne 7, 3) := by decide +kernel
theorem d_BB_ball_101 : decode c_BB_ball 101 = .ok (.iconst 0, 1) := by decide +kernel
theorem d_BB_ball_102 : decode c_BB_ball 102 = .ok (.goto 12, 3) := by decide +kernel
theorem d_BB_ball_105 : decode c_BB_ball 105 = .ok (.iload_n 3, 1) := by decide +kernel
theorem d_BB_ball_106 : decode c_BB_ball 106 = .ok (.ifCond .ne 7, 3) := by decide +kernel
theorem d_BB_ball_109 : decode c_BB_ball 109 = .ok (.iconst 1, 1) := by decide +kernel
theorem d_BB_ball_110 : decode c_BB_ball 110 = .ok (.goto 4, 3) := by decide +kernel
theorem d_BB_ball_113 : decode c_BB_ball 113 = .ok (.iconst 2, 1) := by decide +kernel
theorem d_BB_ball_114 : decode c_BB_ball 114 = .ok (.ireturn, 1) := by decide +kernel
theorem d_BB_ball_115 : decode c_BB_ball 115 = .ok (.iload 4, 2) := by decide +kernel
theorem d_BB_ball_117 : decode c_BB_ball 117 = .ok (.ifCond .eq 7, 3) := by decide +kernel
theorem d_BB_ball_120 : decode c_BB_ball 120 = .ok (.iconst (-1), 1) := by decide +kernel
theorem d_BB_ball_121 : decode c_BB_ball 121 = .ok (.goto 12, 3) := by decide +kernel
theorem d_BB_ball_124 : decode c_BB_ball 124 = .ok (.aload_n 0, 1) := by decide +kernel
theorem d_BB_ball_125 : decode c_BB_ball 125 = .ok (.getfield 77, 3) := by decide +kernel
theorem d_BB_ball_128 : decode c_BB_ball 128 = .ok (.iload_n 1, 1) := by decide +kernel
theorem d_BB_ball_129 : decode c_BB_ball 129 = .ok (.iload_n 3, 1) := by decide +kernel
theorem d_BB_ball_130 : decode c_BB_ball 130 = .ok (.invokevirtual 158, 3) := by decide +kernel
theorem d_BB_ball_133 : decode c_BB_ball 133 = .ok (.ireturn, 1) := by decide +kernel
theorem d_BB_ball_134 : decode c_BB_ball 134 = .ok (.iconst (-1), 1) := by decide +kernel
theorem d_BB_ball_135 : decode c_BB_ball 135 = .ok (.ireturn, 1) := by decide +kernel
def S_BB_ball_0 (g : Gx) (Q : Int32 → St → Prop) (σ : St) (x1 : Int32) (x2 : Int32) : Prop := Ax g m_BB_ball 0 0 (ZI g Q) SH σ 0 0 0 [(0, .ref (gB g + 0)), (1, .int x1), (2, .int x2)] []
theorem sg_BB_ball_0 {g : Gx} {Q : Int32 → St → Prop} {σ : St} {x1 : Int32} {x2 : Int32}
    (h : (x1 < 0 → Q (-1 : Int32) σ) ∧ (¬ x1 < 0 → (x1 < (fi σ 83 4) → K_SA_spotIn g (fi σ 83 5) x1 σ (fun (r2 : Int32) (s1 : St) => K_SA_isFallen g r2 s1 (fun (r4 : Int32) (s3 : St) => ((x2 = (0 : Int32) → (r4 = 0 → K_SA_columnOf g r2 s3 (fun (r6 : Int32) (s5 : St) => Q r6 s5)) ∧ (¬ r4 = 0 → Q (-1 : Int32) s3)) ∧ (x2 = (1 : Int32) → (r4 = 0 → K_SA_rowOf g r2 s3 (fun (r8 : Int32) (s7 : St) => Q r8 s7)) ∧ (¬ r4 = 0 → Q (-1 : Int32) s3)) ∧ (x2 = (2 : Int32) → (¬ r4 = 0 → (¬ r2 = 0 → Q (2 : Int32) s3) ∧ (r2 = 0 → Q (1 : Int32) s3)) ∧ (r4 = 0 → Q (0 : Int32) s3)) ∧ (x2 = (3 : Int32) → (r4 = 0 → K_SA_stepsHome g 83 x1 r2 s3 (fun (r10 : Int32) (s9 : St) => Q r10 s9)) ∧ (¬ r4 = 0 → Q (-1 : Int32) s3)) ∧ (¬ x2 = (0 : Int32) → ¬ x2 = (1 : Int32) → ¬ x2 = (2 : Int32) → ¬ x2 = (3 : Int32) → Q (-1 : Int32) s3))))) ∧ (¬ x1 < (fi σ 83 4) → Q (-1 : Int32) σ))) : S_BB_ball_0 g Q σ x1 x2 := by
  show Ax g m_BB_ball 0 0 (ZI g Q) SH σ 0 0 0 [(0, .ref (gB g + 0)), (1, .int x1), (2, .int x2)] []
  refine a_iload_n (pc := 0) 1 rfl rfl d_BB_ball_0 ?_
  refine a_if_lt (pc := 1) 15 (by decide) d_BB_ball_1 ⟨fun c0 => ?_, fun c0 => ?_⟩
  · replace h := h.1 c0
    refine a_iconst (pc := 15) (-1 : Int32) (by decide) d_BB_ball_15 ?_
    exact b_iret (pc := 16) rfl d_BB_ball_16 h
  · replace h := h.2 c0
    refine a_iload_n (pc := 4) 1 rfl rfl d_BB_ball_4 ?_
    refine a_aload_n (pc := 5) 0 rfl rfl d_BB_ball_5 ?_
    refine a_getR (pc := 6) fg_BB_77 sx_0 rfl d_BB_ball_6 ?_
    refine a_getI (pc := 9) fg_BB_114 sx_83 rfl d_BB_ball_9 ?_
    refine a_icmp_lt (pc := 12) 17 (by decide) d_BB_ball_12 ⟨fun c0 => ?_, fun c0 => ?_⟩
    · replace h := h.1 c0
      refine a_aload_n (pc := 17) 0 rfl rfl d_BB_ball_17 ?_
      refine a_getR (pc := 18) fg_BB_77 sx_0 rfl d_BB_ball_18 ?_
      refine a_getI (pc := 21) fg_BB_139 sx_83 rfl d_BB_ball_21 ?_
      refine a_iload_n (pc := 24) 1 rfl rfl d_BB_ball_24 ?_
      refine a_callS (pc := 25) (M' := m_SA_spotIn) (As := [.int (fi σ 83 5), .int x1]) (st := []) (mc' := 0) (ms' := 0) lk_BB_145 rfl (by decide) (by decide) rfl (Nat.le_of_ble_eq_true rfl) (Nat.le_refl 0) (Nat.le_refl 0) d_BB_ball_25 h ?_
      rintro _ _ s1 ⟨r2, rfl, rfl, h⟩ -
      show Ax g m_BB_ball 0 0 (ZI g Q) SH s1 0 0 28 [(0, .ref (gB g + 0)), (1, .int x1), (2, .int x2)] [.int r2]
      refine a_istore_n (pc := 28) (lv' := [(3, .int r2), (0, .ref (gB g + 0)), (1, .int x1), (2, .int x2)]) rfl (Nat.le_of_ble_eq_true rfl) rfl d_BB_ball_28 ?_
      refine a_iload_n (pc := 29) 0 rfl rfl d_BB_ball_29 ?_
      refine a_callS (pc := 30) (M' := m_SA_isFallen) (As := [.int r2]) (st := []) (mc' := 0) (ms' := 0) lk_BB_148 rfl (by decide) (by decide) rfl (Nat.le_of_ble_eq_true rfl) (Nat.le_refl 0) (Nat.le_refl 0) d_BB_ball_30 h ?_
      rintro _ _ s3 ⟨r4, rfl, rfl, h⟩ -
      show Ax g m_BB_ball 0 0 (ZI g Q) SH s3 0 0 33 [(3, .int r2), (0, .ref (gB g + 0)), (1, .int x1), (2, .int x2)] [.int r4]
      refine a_istore (pc := 33) (lv' := [(4, .int r4), (3, .int r2), (0, .ref (gB g + 0)), (1, .int x1), (2, .int x2)]) (Nat.le_of_ble_eq_true rfl) rfl d_BB_ball_33 ?_
      refine a_iload_n (pc := 35) 4 rfl rfl d_BB_ball_35 ?_
      by_cases c0 : x2 = (0 : Int32)
      · replace h := h.1 c0
        refine a_tableIn (pc := 36) 68 (off := 32) (by rw [c0]; decide) (by rw [c0]; decide) (by rw [c0]; rfl) (by decide) d_BB_ball_36 ?_
        refine a_iload (pc := 68) 0 rfl d_BB_ball_68 ?_
        refine a_if_eq (pc := 70) 77 (by decide) d_BB_ball_70 ⟨fun c0 => ?_, fun c0 => ?_⟩
        · replace h := h.1 c0
          refine a_iload_n (pc := 77) 1 rfl rfl d_BB_ball_77 ?_
          refine a_callS (pc := 78) (M' := m_SA_columnOf) (As := [.int r2]) (st := []) (mc' := 0) (ms' := 0) lk_BB_152 rfl (by decide) (by decide) rfl (Nat.le_of_ble_eq_true rfl) (Nat.le_refl 0) (Nat.le_refl 0) d_BB_ball_78 h ?_
          rintro _ _ s5 ⟨r6, rfl, rfl, h⟩ -
          show Ax g m_BB_ball 0 0 (ZI g Q) SH s5 0 0 81 [(4, .int r4), (3, .int r2), (0, .ref (gB g + 0)), (1, .int x1), (2, .int x2)] [.int r6]
          exact b_iret (pc := 81) rfl d_BB_ball_81 h
        · replace h := h.2 c0
          refine a_iconst (pc := 73) (-1 : Int32) (by decide) d_BB_ball_73 ?_
          refine a_goto (pc := 74) 81 (by decide) d_BB_ball_74 ?_
          exact b_iret (pc := 81) rfl d_BB_ball_81 h
      replace h := h.2
      by_cases c1 : x2 = (1 : Int32)
      · replace h := h.1 c1
        refine a_tableIn (pc := 36) 82 (off := 46) (by rw [c1]; decide) (by rw [c1]; decide) (by rw [c1]; rfl) (by decide) d_BB_ball_36 ?_
        refine a_iload (pc := 82) 0 rfl d_BB_ball_82 ?_
        refine a_if_eq (pc := 84) 91 (by decide) d_BB_ball_84 ⟨fun c0 => ?_, fun c0 => ?_⟩
        · replace h := h.1 c0
          refine a_iload_n (pc := 91) 1 rfl rfl d_BB_ball_91 ?_
          refine a_callS (pc := 92) (M' := m_SA_rowOf) (As := [.int r2]) (st := []) (mc' := 0) (ms' := 0) lk_BB_155 rfl (by decide) (by decide) rfl (Nat.le_of_ble_eq_true rfl) (Nat.le_refl 0) (Nat.le_refl 0) d_BB_ball_92 h ?_
          rintro _ _ s7 ⟨r8, rfl, rfl, h⟩ -
          show Ax g m_BB_ball 0 0 (ZI g Q) SH s7 0 0 95 [(4, .int r4), (3, .int r2), (0, .ref (gB g + 0)), (1, .int x1), (2, .int x2)] [.int r8]
          exact b_iret (pc := 95) rfl d_BB_ball_95 h
        · replace h := h.2 c0
          refine a_iconst (pc := 87) (-1 : Int32) (by decide) d_BB_ball_87 ?_
          refine a_goto (pc := 88) 95 (by decide) d_BB_ball_88 ?_
          exact b_iret (pc := 95) rfl d_BB_ball_95 h
      replace h := h.2
      by_cases c2 : x2 = (2 : Int32)
      · replace h := h.1 c2
        refine a_tableIn (pc := 36) 96 (off := 60) (by rw [c2]; decide) (by rw [c2]; decide) (by rw [c2]; rfl) (by decide) d_BB_ball_36 ?_
        refine a_iload (pc := 96) 0 rfl d_BB_ball_96 ?_
        refine a_if_ne (pc := 98) 105 (by decide) d_BB_ball_98 ⟨fun c0 => ?_, fun c0 => ?_⟩
        · replace h := h.1 c0
          refine a_iload_n (pc := 105) 1 rfl rfl d_BB_ball_105 ?_
          refine a_if_ne (pc := 106) 113 (by decide) d_BB_ball_106 ⟨fun c0 => ?_, fun c0 => ?_⟩
          · replace h := h.1 c0
            refine a_iconst (pc := 113) (2 : Int32) (by decide) d_BB_ball_113 ?_
            exact b_iret (pc := 114) rfl d_BB_ball_114 h
          · replace h := h.2 c0
            refine a_iconst (pc := 109) (1 : Int32) (by decide) d_BB_ball_109 ?_
            refine a_goto (pc := 110) 114 (by decide) d_BB_ball_110 ?_
            exact b_iret (pc := 114) rfl d_BB_ball_114 h
        · replace h := h.2 c0
          refine a_iconst (pc := 101) (0 : Int32) (by decide) d_BB_ball_101 ?_
          refine a_goto (pc := 102) 114 (by decide) d_BB_ball_102 ?_
          exact b_iret (pc := 114) rfl d_BB_ball_114 h
      replace h := h.2
      by_cases c3 : x2 = (3 : Int32)
      · replace h := h.1 c3
        refine a_tableIn (pc := 36) 115 (off := 79) (by rw [c3]; decide) (by rw [c3]; decide) (by rw [c3]; rfl) (by decide) d_BB_ball_36 ?_
        refine a_iload (pc := 115) 0 rfl d_BB_ball_115 ?_
        refine a_if_eq (pc := 117) 124 (by decide) d_BB_ball_117 ⟨fun c0 => ?_, fun c0 => ?_⟩
        · replace h := h.1 c0
          refine a_aload_n (pc := 124) 2 rfl rfl d_BB_ball_124 ?_
          refine a_getR (pc := 125) fg_BB_77 sx_0 rfl d_BB_ball_125 ?_
          refine a_iload_n (pc := 128) 3 rfl rfl d_BB_ball_128 ?_
          refine a_iload_n (pc := 129) 1 rfl rfl d_BB_ball_129 ?_
          refine a_callV (pc := 130) (M' := m_SA_stepsHome) (As := [.int x1, .int r2]) (st := []) (mc' := 0) (ms' := 0) lk_BB_158 rfl sx_83 rfl (by decide) (by decide) rfl (Nat.le_of_ble_eq_true rfl) (Nat.le_refl 0) (Nat.le_refl 0) d_BB_ball_130 h ?_
          rintro _ _ s9 ⟨r10, rfl, rfl, h⟩ -
          show Ax g m_BB_ball 0 0 (ZI g Q) SH s9 0 0 133 [(4, .int r4), (3, .int r2), (0, .ref (gB g + 0)), (1, .int x1), (2, .int x2)] [.int r10]
          exact b_iret (pc := 133) rfl d_BB_ball_133 h
        · replace h := h.2 c0
          refine a_iconst (pc := 120) (-1 : Int32) (by decide) d_BB_ball_120 ?_
          refine a_goto (pc := 121) 133 (by decide) d_BB_ball_121 ?_
          exact b_iret (pc := 133) rfl d_BB_ball_133 h
      replace h := h.2
      replace h := h c0 c1 c2 c3
      have e0 := lv_neT (a := 0) c0 rfl
      have e1 := lv_neT (a := 1) c1 rfl
      have e2 := lv_neT (a := 2) c2 rfl
      have e3 := lv_neT (a := 3) c3 rfl
      refine a_tableOut (pc := 36) 134 (by omega) (by decide) d_BB_ball_36 ?_
      refine a_iconst (pc := 134) (-1 : Int32) (by decide) d_BB_ball_134 ?_
      exact b_iret (pc := 135) rfl d_BB_ball_135 h
    · replace h := h.2 c0
      refine a_iconst (pc := 15) (-1 : Int32) (by decide) d_BB_ball_15 ?_
      exact b_iret (pc := 16) rfl d_BB_ball_16 h
theorem ko_BB_ball {g : Gx}  {x1 : Int32} {x2 : Int32} {σ : St} {Q : Int32 → St → Prop} (h : S_BB_ball_0 g Q σ x1 x2) : K_BB_ball g x1 x2 σ Q := KI.of (show plainName "BallBox" = true by decide) (Nat.le_of_ble_eq_true rfl) h
theorem d_BB_put_0 : decode c_BB_put 0 = .ok (.iload_n 2, 1) := by decide +kernel
theorem d_BB_put_1 : decode c_BB_put 1 = .ok (.iload_n 3, 1) := by decide +kernel
theorem d_BB_put_2 : decode c_BB_put 2 = .ok (.invokestatic 131, 3) := by decide +kernel
theorem d_BB_put_5 : decode c_BB_put 5 = .ok (.istore 4, 2) := by decide +kernel
theorem d_BB_put_7 : decode c_BB_put 7 = .ok (.iload_n 1, 1) := by decide +kernel
theorem d_BB_put_8 : decode c_BB_put 8 = .ok (.ifCond .lt 26, 3) := by decide +kernel
theorem d_BB_put_11 : decode c_BB_put 11 = .ok (.iload_n 1, 1) := by decide +kernel
theorem d_BB_put_12 : decode c_BB_put 12 = .ok (.aload_n 0, 1) := by decide +kernel
theorem d_BB_put_13 : decode c_BB_put 13 = .ok (.getfield 77, 3) := by decide +kernel
theorem d_BB_put_16 : decode c_BB_put 16 = .ok (.getfield 114, 3) := by decide +kernel
theorem d_BB_put_19 : decode c_BB_put 19 = .ok (.if_icmp .ge 15, 3) := by decide +kernel
theorem d_BB_put_22 : decode c_BB_put 22 = .ok (.aload_n 0, 1) := by decide +kernel
theorem d_BB_put_23 : decode c_BB_put 23 = .ok (.getfield 77, 3) := by decide +kernel
theorem d_BB_put_26 : decode c_BB_put 26 = .ok (.iload 4, 2) := by decide +kernel
theorem d_BB_put_28 : decode c_BB_put 28 = .ok (.invokevirtual 161, 3) := by decide +kernel
theorem d_BB_put_31 : decode c_BB_put 31 = .ok (.ifCond .ne 5, 3) := by decide +kernel
theorem d_BB_put_34 : decode c_BB_put 34 = .ok (.iconst 0, 1) := by decide +kernel
theorem d_BB_put_35 : decode c_BB_put 35 = .ok (.ireturn, 1) := by decide +kernel
theorem d_BB_put_36 : decode c_BB_put 36 = .ok (.aload_n 0, 1) := by decide +kernel
theorem d_BB_put_37 : decode c_BB_put 37 = .ok (.getfield 77, 3) := by decide +kernel
theorem d_BB_put_40 : decode c_BB_put 40 = .ok (.aload_n 0, 1) := by decide +kernel
theorem d_BB_put_41 : decode c_BB_put 41 = .ok (.getfield 77, 3) := by decide +kernel
theorem d_BB_put_44 : decode c_BB_put 44 = .ok (.getfield 139, 3) := by decide +kernel
theorem d_BB_put_47 : decode c_BB_put 47 = .ok (.iload_n 1, 1) := by decide +kernel
theorem d_BB_put_48 : decode c_BB_put 48 = .ok (.iload 4, 2) := by decide +kernel
theorem d_BB_put_50 : decode c_BB_put 50 = .ok (.invokestatic 164, 3) := by decide +kernel
theorem d_BB_put_53 : decode c_BB_put 53 = .ok (.putfield 139, 3) := by decide +kernel
theorem d_BB_put_56 : decode c_BB_put 56 = .ok (.aload_n 0, 1) := by decide +kernel
theorem d_BB_put_57 : decode c_BB_put 57 = .ok (.dup, 1) := by decide +kernel
theorem d_BB_put_58 : decode c_BB_put 58 = .ok (.getfield 111, 3) := by decide +kernel
theorem d_BB_put_61 : decode c_BB_put 61 = .ok (.iconst 1, 1) := by decide +kernel
theorem d_BB_put_62 : decode c_BB_put 62 = .ok (.iadd, 1) := by decide +kernel
theorem d_BB_put_63 : decode c_BB_put 63 = .ok (.putfield 111, 3) := by decide +kernel
theorem d_BB_put_66 : decode c_BB_put 66 = .ok (.iconst 1, 1) := by decide +kernel
theorem d_BB_put_67 : decode c_BB_put 67 = .ok (.ireturn, 1) := by decide +kernel
def S_BB_put_0 (g : Gx) (Q : Int32 → St → Prop) (σ : St) (x1 : Int32) (x2 : Int32) (x3 : Int32) : Prop := Ax g m_BB_put 0 0 (ZI g Q) SH σ 0 0 0 [(0, .ref (gB g + 0)), (1, .int x1), (2, .int x2), (3, .int x3)] []
theorem sg_BB_put_0 {g : Gx} {Q : Int32 → St → Prop} {σ : St} {x1 : Int32} {x2 : Int32} {x3 : Int32}
    (h : K_SA_spotOf g x2 x3 σ (fun (r2 : Int32) (s1 : St) => (x1 < 0 → Q (0 : Int32) s1) ∧ (¬ x1 < 0 → ((fi s1 83 4) ≤ x1 → Q (0 : Int32) s1) ∧ (¬ (fi s1 83 4) ≤ x1 → K_SA_isBare g 83 r2 s1 (fun (r4 : Int32) (s3 : St) => (¬ r4 = 0 → K_SA_laid g (fi s3 83 5) x1 r2 s3 (fun (r6 : Int32) (s5 : St) => ∀ s7 : St, s7 = sfi s5 83 5 r6 → ∀ s8 : St, s8 = sfi s7 0 14 ((fi s7 0 14) + (1 : Int32)) → Q (1 : Int32) s8)) ∧ (r4 = 0 → Q (0 : Int32) s3)))))) : S_BB_put_0 g Q σ x1 x2 x3 := by
  show Ax g m_BB_put 0 0 (ZI g Q) SH σ 0 0 0 [(0, .ref (gB g + 0)), (1, .int x1), (2, .int x2), (3, .int x3)] []
  refine a_iload_n (pc := 0) 2 rfl rfl d_BB_put_0 ?_
  refine a_iload_n (pc := 1) 3 rfl rfl d_BB_put_1 ?_
  refine a_callS (pc := 2) (M' := m_SA_spotOf) (As := [.int x2, .int x3]) (st := []) (mc' := 0) (ms' := 0) lk_BB_131 rfl (by decide) (by decide) rfl (Nat.le_of_ble_eq_true rfl) (Nat.le_refl 0) (Nat.le_refl 0) d_BB_put_2 h ?_
  rintro _ _ s1 ⟨r2, rfl, rfl, h⟩ -
  show Ax g m_BB_put 0 0 (ZI g Q) SH s1 0 0 5 [(0, .ref (gB g + 0)), (1, .int x1), (2, .int x2), (3, .int x3)] [.int r2]
  refine a_istore (pc := 5) (lv' := [(4, .int r2), (0, .ref (gB g + 0)), (1, .int x1), (2, .int x2), (3, .int x3)]) (Nat.le_of_ble_eq_true rfl) rfl d_BB_put_5 ?_
  refine a_iload_n (pc := 7) 2 rfl rfl d_BB_put_7 ?_
  refine a_if_lt (pc := 8) 34 (by decide) d_BB_put_8 ⟨fun c0 => ?_, fun c0 => ?_⟩
  · replace h := h.1 c0
    refine a_iconst (pc := 34) (0 : Int32) (by decide) d_BB_put_34 ?_
    exact b_zret (pc := 35) rfl (Or.inl rfl) d_BB_put_35 h
  · replace h := h.2 c0
    refine a_iload_n (pc := 11) 2 rfl rfl d_BB_put_11 ?_
    refine a_aload_n (pc := 12) 1 rfl rfl d_BB_put_12 ?_
    refine a_getR (pc := 13) fg_BB_77 sx_0 rfl d_BB_put_13 ?_
    refine a_getI (pc := 16) fg_BB_114 sx_83 rfl d_BB_put_16 ?_
    refine a_icmp_ge (pc := 19) 34 (by decide) d_BB_put_19 ⟨fun c0 => ?_, fun c0 => ?_⟩
    · replace h := h.1 c0
      refine a_iconst (pc := 34) (0 : Int32) (by decide) d_BB_put_34 ?_
      exact b_zret (pc := 35) rfl (Or.inl rfl) d_BB_put_35 h
    · replace h := h.2 c0
      refine a_aload_n (pc := 22) 1 rfl rfl d_BB_put_22 ?_
      refine a_getR (pc := 23) fg_BB_77 sx_0 rfl d_BB_put_23 ?_
      refine a_iload (pc := 26) 0 rfl d_BB_put_26 ?_
      refine a_callV (pc := 28) (M' := m_SA_isBare) (As := [.int r2]) (st := []) (mc' := 0) (ms' := 0) lk_BB_161 rfl sx_83 rfl (by decide) (by decide) rfl (Nat.le_of_ble_eq_true rfl) (Nat.le_refl 0) (Nat.le_refl 0) d_BB_put_28 h ?_
      rintro _ _ s3 ⟨r4, rfl, rfl, h⟩ -
      show Ax g m_BB_put 0 0 (ZI g Q) SH s3 0 0 31 [(4, .int r2), (0, .ref (gB g + 0)), (1, .int x1), (2, .int x2), (3, .int x3)] [.int r4]
      refine a_if_ne (pc := 31) 36 (by decide) d_BB_put_31 ⟨fun c0 => ?_, fun c0 => ?_⟩
      · replace h := h.1 c0
        refine a_aload_n (pc := 36) 1 rfl rfl d_BB_put_36 ?_
        refine a_getR (pc := 37) fg_BB_77 sx_0 rfl d_BB_put_37 ?_
        refine a_aload_n (pc := 40) 1 rfl rfl d_BB_put_40 ?_
        refine a_getR (pc := 41) fg_BB_77 sx_0 rfl d_BB_put_41 ?_
        refine a_getI (pc := 44) fg_BB_139 sx_83 rfl d_BB_put_44 ?_
        refine a_iload_n (pc := 47) 2 rfl rfl d_BB_put_47 ?_
        refine a_iload (pc := 48) 0 rfl d_BB_put_48 ?_
        refine a_callS (pc := 50) (M' := m_SA_laid) (As := [.int (fi s3 83 5), .int x1, .int r2]) (st := [.ref (gB g + 83)]) (mc' := 0) (ms' := 0) lk_BB_164 rfl (by decide) (by decide) rfl (Nat.le_of_ble_eq_true rfl) (Nat.le_refl 0) (Nat.le_refl 0) d_BB_put_50 h ?_
        rintro _ _ s5 ⟨r6, rfl, rfl, h⟩ -
        show Ax g m_BB_put 0 0 (ZI g Q) SH s5 0 0 53 [(4, .int r2), (0, .ref (gB g + 0)), (1, .int x1), (2, .int x2), (3, .int x3)] [.int r6, .ref (gB g + 83)]
        refine a_putI (pc := 53) fp_BB_139 sx_83 rfl d_BB_put_53 ?_
        refine a_nms (fun s7 hs7 => ?_)
        replace h := h s7 hs7
        refine a_aload_n (pc := 56) 1 rfl rfl d_BB_put_56 ?_
        refine a_dup (pc := 57) rfl d_BB_put_57 ?_
        refine a_getI (pc := 58) fg_BB_111 sx_0 rfl d_BB_put_58 ?_
        refine a_iconst (pc := 61) (1 : Int32) (by decide) d_BB_put_61 ?_
        refine a_iadd (pc := 62) d_BB_put_62 ?_
        refine a_putI (pc := 63) fp_BB_111 sx_0 rfl d_BB_put_63 ?_
        refine a_nms (fun s8 hs8 => ?_)
        replace h := h s8 hs8
        refine a_iconst (pc := 66) (1 : Int32) (by decide) d_BB_put_66 ?_
        exact b_zret (pc := 67) rfl (Or.inr rfl) d_BB_put_67 h
      · replace h := h.2 c0
        refine a_iconst (pc := 34) (0 : Int32) (by decide) d_BB_put_34 ?_
        exact b_zret (pc := 35) rfl (Or.inl rfl) d_BB_put_35 h
theorem ko_BB_put {g : Gx}  {x1 : Int32} {x2 : Int32} {x3 : Int32} {σ : St} {Q : Int32 → St → Prop} (h : S_BB_put_0 g Q σ x1 x2 x3) : K_BB_put g x1 x2 x3 σ Q := KI.of (show plainName "BallBox" = true by decide) (Nat.le_of_ble_eq_true rfl) h
theorem d_BB_wall_0 : decode c_BB_wall 0 = .ok (.iload_n 1, 1) := by decide +kernel
theorem d_BB_wall_1 : decode c_BB_wall 1 = .ok (.iload_n 2, 1) := by decide +kernel
theorem d_BB_wall_2 : decode c_BB_wall 2 = .ok (.invokestatic 131, 3) := by decide +kernel
theorem d_BB_wall_5 : decode c_BB_wall 5 = .ok (.istore 4, 2) := by decide +kernel
theorem d_BB_wall_7 : decode c_BB_wall 7 = .ok (.iload_n 3, 1) := by decide +kernel
theorem d_BB_wall_8 : decode c_BB_wall 8 = .ok (.ifCond .eq 15, 3) := by decide +kernel
theorem d_BB_wall_11 : decode c_BB_wall 11 = .ok (.aload_n 0, 1) := by decide +kernel
theorem d_BB_wall_12 : decode c_BB_wall 12 = .ok (.getfield 77, 3) := by decide +kernel
theorem d_BB_wall_15 : decode c_BB_wall 15 = .ok (.iload 4, 2) := by decide +kernel
theorem d_BB_wall_17 : decode c_BB_wall 17 = .ok (.invokevirtual 161, 3) := by decide +kernel
theorem d_BB_wall_20 : decode c_BB_wall 20 = .ok (.goto 21, 3) := by decide +kernel
theorem d_BB_wall_23 : decode c_BB_wall 23 = .ok (.aload_n 0, 1) := by decide +kernel
theorem d_BB_wall_24 : decode c_BB_wall 24 = .ok (.getfield 77, 3) := by decide +kernel
theorem d_BB_wall_27 : decode c_BB_wall 27 = .ok (.iload 4, 2) := by decide +kernel
theorem d_BB_wall_29 : decode c_BB_wall 29 = .ok (.invokevirtual 135, 3) := by decide +kernel
theorem d_BB_wall_32 : decode c_BB_wall 32 = .ok (.iconst 1, 1) := by decide +kernel
theorem d_BB_wall_33 : decode c_BB_wall 33 = .ok (.if_icmp .ne 7, 3) := by decide +kernel
theorem d_BB_wall_36 : decode c_BB_wall 36 = .ok (.iconst 1, 1) := by decide +kernel
theorem d_BB_wall_37 : decode c_BB_wall 37 = .ok (.goto 4, 3) := by decide +kernel
theorem d_BB_wall_40 : decode c_BB_wall 40 = .ok (.iconst 0, 1) := by decide +kernel
theorem d_BB_wall_41 : decode c_BB_wall 41 = .ok (.istore 5, 2) := by decide +kernel
theorem d_BB_wall_43 : decode c_BB_wall 43 = .ok (.iload 5, 2) := by decide +kernel
theorem d_BB_wall_45 : decode c_BB_wall 45 = .ok (.ifCond .ne 5, 3) := by decide +kernel
theorem d_BB_wall_48 : decode c_BB_wall 48 = .ok (.iconst 0, 1) := by decide +kernel
theorem d_BB_wall_49 : decode c_BB_wall 49 = .ok (.ireturn, 1) := by decide +kernel
theorem d_BB_wall_50 : decode c_BB_wall 50 = .ok (.aload_n 0, 1) := by decide +kernel
theorem d_BB_wall_51 : decode c_BB_wall 51 = .ok (.getfield 77, 3) := by decide +kernel
theorem d_BB_wall_54 : decode c_BB_wall 54 = .ok (.iload 4, 2) := by decide +kernel
theorem d_BB_wall_56 : decode c_BB_wall 56 = .ok (.iload_n 3, 1) := by decide +kernel
theorem d_BB_wall_57 : decode c_BB_wall 57 = .ok (.ifCond .eq 7, 3) := by decide +kernel
theorem d_BB_wall_60 : decode c_BB_wall 60 = .ok (.iconst 1, 1) := by decide +kernel
theorem d_BB_wall_61 : decode c_BB_wall 61 = .ok (.goto 4, 3) := by decide +kernel
theorem d_BB_wall_64 : decode c_BB_wall 64 = .ok (.iconst 0, 1) := by decide +kernel
theorem d_BB_wall_65 : decode c_BB_wall 65 = .ok (.invokevirtual 168, 3) := by decide +kernel
theorem d_BB_wall_68 : decode c_BB_wall 68 = .ok (.aload_n 0, 1) := by decide +kernel
theorem d_BB_wall_69 : decode c_BB_wall 69 = .ok (.dup, 1) := by decide +kernel
theorem d_BB_wall_70 : decode c_BB_wall 70 = .ok (.getfield 111, 3) := by decide +kernel
theorem d_BB_wall_73 : decode c_BB_wall 73 = .ok (.iconst 1, 1) := by decide +kernel
theorem d_BB_wall_74 : decode c_BB_wall 74 = .ok (.iadd, 1) := by decide +kernel
theorem d_BB_wall_75 : decode c_BB_wall 75 = .ok (.putfield 111, 3) := by decide +kernel
theorem d_BB_wall_78 : decode c_BB_wall 78 = .ok (.iconst 1, 1) := by decide +kernel
theorem d_BB_wall_79 : decode c_BB_wall 79 = .ok (.ireturn, 1) := by decide +kernel
def S_BB_wall_0 (g : Gx) (Q : Int32 → St → Prop) (σ : St) (x1 : Int32) (x2 : Int32) (x3 : Int32) : Prop := Ax g m_BB_wall 0 0 (ZI g Q) SH σ 0 0 0 [(0, .ref (gB g + 0)), (1, .int x1), (2, .int x2), (3, .int x3)] []
def S_BB_wall_41 (g : Gx) (Q : Int32 → St → Prop) (σ : St) (x3 : Int32) (x4 : Int32) (z0 : Int32) : Prop := Ax g m_BB_wall 0 0 (ZI g Q) SH σ 0 0 41 [(0, .ref (gB g + 0)), (3, .int x3), (4, .int x4)] [.int z0]
theorem sg_BB_wall_0 {g : Gx} {Q : Int32 → St → Prop} {σ : St} {x1 : Int32} {x2 : Int32} {x3 : Int32}
    (h : K_SA_spotOf g x1 x2 σ (fun (r2 : Int32) (s1 : St) => (x3 = 0 → K_SA_kindAt g 83 r2 s1 (fun (r4 : Int32) (s3 : St) => (¬ r4 = (1 : Int32) → S_BB_wall_41 g Q s3 x3 r2 (0 : Int32)) ∧ (r4 = (1 : Int32) → S_BB_wall_41 g Q s3 x3 r2 (1 : Int32)))) ∧ (¬ x3 = 0 → K_SA_isBare g 83 r2 s1 (fun (r6 : Int32) (s5 : St) => S_BB_wall_41 g Q s5 x3 r2 r6)))) : S_BB_wall_0 g Q σ x1 x2 x3 := by
  show Ax g m_BB_wall 0 0 (ZI g Q) SH σ 0 0 0 [(0, .ref (gB g + 0)), (1, .int x1), (2, .int x2), (3, .int x3)] []
  refine a_iload_n (pc := 0) 1 rfl rfl d_BB_wall_0 ?_
  refine a_iload_n (pc := 1) 2 rfl rfl d_BB_wall_1 ?_
  refine a_callS (pc := 2) (M' := m_SA_spotOf) (As := [.int x1, .int x2]) (st := []) (mc' := 0) (ms' := 0) lk_BB_131 rfl (by decide) (by decide) rfl (Nat.le_of_ble_eq_true rfl) (Nat.le_refl 0) (Nat.le_refl 0) d_BB_wall_2 h ?_
  rintro _ _ s1 ⟨r2, rfl, rfl, h⟩ -
  show Ax g m_BB_wall 0 0 (ZI g Q) SH s1 0 0 5 [(0, .ref (gB g + 0)), (1, .int x1), (2, .int x2), (3, .int x3)] [.int r2]
  refine a_istore (pc := 5) (lv' := [(4, .int r2), (0, .ref (gB g + 0)), (1, .int x1), (2, .int x2), (3, .int x3)]) (Nat.le_of_ble_eq_true rfl) rfl d_BB_wall_5 ?_
  refine a_iload_n (pc := 7) 4 rfl rfl d_BB_wall_7 ?_
  refine a_if_eq (pc := 8) 23 (by decide) d_BB_wall_8 ⟨fun c0 => ?_, fun c0 => ?_⟩
  · replace h := h.1 c0
    refine a_aload_n (pc := 23) 1 rfl rfl d_BB_wall_23 ?_
    refine a_getR (pc := 24) fg_BB_77 sx_0 rfl d_BB_wall_24 ?_
    refine a_iload (pc := 27) 0 rfl d_BB_wall_27 ?_
    refine a_callV (pc := 29) (M' := m_SA_kindAt) (As := [.int r2]) (st := []) (mc' := 0) (ms' := 0) lk_BB_135 rfl sx_83 rfl (by decide) (by decide) rfl (Nat.le_of_ble_eq_true rfl) (Nat.le_refl 0) (Nat.le_refl 0) d_BB_wall_29 h ?_
    rintro _ _ s3 ⟨r4, rfl, rfl, h⟩ -
    show Ax g m_BB_wall 0 0 (ZI g Q) SH s3 0 0 32 [(4, .int r2), (0, .ref (gB g + 0)), (1, .int x1), (2, .int x2), (3, .int x3)] [.int r4]
    refine a_iconst (pc := 32) (1 : Int32) (by decide) d_BB_wall_32 ?_
    refine a_icmp_ne (pc := 33) 40 (by decide) d_BB_wall_33 ⟨fun c0 => ?_, fun c0 => ?_⟩
    · replace h := h.1 c0
      refine a_iconst (pc := 40) (0 : Int32) (by decide) d_BB_wall_40 ?_
      refine a_sub (pc := 41) [1, 4, 0] rfl ?_
      exact h
    · replace h := h.2 c0
      refine a_iconst (pc := 36) (1 : Int32) (by decide) d_BB_wall_36 ?_
      refine a_goto (pc := 37) 41 (by decide) d_BB_wall_37 ?_
      refine a_sub (pc := 41) [1, 4, 0] rfl ?_
      exact h
  · replace h := h.2 c0
    refine a_aload_n (pc := 11) 1 rfl rfl d_BB_wall_11 ?_
    refine a_getR (pc := 12) fg_BB_77 sx_0 rfl d_BB_wall_12 ?_
    refine a_iload (pc := 15) 0 rfl d_BB_wall_15 ?_
    refine a_callV (pc := 17) (M' := m_SA_isBare) (As := [.int r2]) (st := []) (mc' := 0) (ms' := 0) lk_BB_161 rfl sx_83 rfl (by decide) (by decide) rfl (Nat.le_of_ble_eq_true rfl) (Nat.le_refl 0) (Nat.le_refl 0) d_BB_wall_17 h ?_
    rintro _ _ s5 ⟨r6, rfl, rfl, h⟩ -
    show Ax g m_BB_wall 0 0 (ZI g Q) SH s5 0 0 20 [(4, .int r2), (0, .ref (gB g + 0)), (1, .int x1), (2, .int x2), (3, .int x3)] [.int r6]
    refine a_goto (pc := 20) 41 (by decide) d_BB_wall_20 ?_
    refine a_sub (pc := 41) [1, 4, 0] rfl ?_
    exact h
theorem sg_BB_wall_41 {g : Gx} {Q : Int32 → St → Prop} {σ : St} {x3 : Int32} {x4 : Int32} {z0 : Int32}
    (h : (¬ z0 = 0 → (x3 = 0 → K_SA_makeKind g 83 x4 (0 : Int32) σ (fun s1 : St => ∀ s2 : St, s2 = sfi s1 0 14 ((fi s1 0 14) + (1 : Int32)) → Q (1 : Int32) s2)) ∧ (¬ x3 = 0 → K_SA_makeKind g 83 x4 (1 : Int32) σ (fun s3 : St => ∀ s4 : St, s4 = sfi s3 0 14 ((fi s3 0 14) + (1 : Int32)) → Q (1 : Int32) s4))) ∧ (z0 = 0 → Q (0 : Int32) σ)) : S_BB_wall_41 g Q σ x3 x4 z0 := by
  show Ax g m_BB_wall 0 0 (ZI g Q) SH σ 0 0 41 [(0, .ref (gB g + 0)), (3, .int x3), (4, .int x4)] [.int z0]
  refine a_istore (pc := 41) (lv' := [(5, .int z0), (0, .ref (gB g + 0)), (3, .int x3), (4, .int x4)]) (Nat.le_of_ble_eq_true rfl) rfl d_BB_wall_41 ?_
  refine a_iload (pc := 43) 0 rfl d_BB_wall_43 ?_
  refine a_if_ne (pc := 45) 50 (by decide) d_BB_wall_45 ⟨fun c0 => ?_, fun c0 => ?_⟩
  · replace h := h.1 c0
    refine a_aload_n (pc := 50) 1 rfl rfl d_BB_wall_50 ?_
    refine a_getR (pc := 51) fg_BB_77 sx_0 rfl d_BB_wall_51 ?_
    refine a_iload (pc := 54) 3 rfl d_BB_wall_54 ?_
    refine a_iload_n (pc := 56) 2 rfl rfl d_BB_wall_56 ?_
    refine a_if_eq (pc := 57) 64 (by decide) d_BB_wall_57 ⟨fun c0 => ?_, fun c0 => ?_⟩
    · replace h := h.1 c0
      refine a_iconst (pc := 64) (0 : Int32) (by decide) d_BB_wall_64 ?_
      refine a_callV (pc := 65) (M' := m_SA_makeKind) (As := [.int x4, .int (0 : Int32)]) (st := []) (mc' := 0) (ms' := 0) lk_BB_168 rfl sx_83 rfl (by decide) (by decide) rfl (Nat.le_of_ble_eq_true rfl) (Nat.le_refl 0) (Nat.le_refl 0) d_BB_wall_65 h ?_
      rintro _ _ s1 ⟨rfl, rfl, h⟩ -
      show Ax g m_BB_wall 0 0 (ZI g Q) SH s1 0 0 68 [(5, .int z0), (0, .ref (gB g + 0)), (3, .int x3), (4, .int x4)] []
      refine a_aload_n (pc := 68) 1 rfl rfl d_BB_wall_68 ?_
      refine a_dup (pc := 69) rfl d_BB_wall_69 ?_
      refine a_getI (pc := 70) fg_BB_111 sx_0 rfl d_BB_wall_70 ?_
      refine a_iconst (pc := 73) (1 : Int32) (by decide) d_BB_wall_73 ?_
      refine a_iadd (pc := 74) d_BB_wall_74 ?_
      refine a_putI (pc := 75) fp_BB_111 sx_0 rfl d_BB_wall_75 ?_
      refine a_nms (fun s2 hs2 => ?_)
      replace h := h s2 hs2
      refine a_iconst (pc := 78) (1 : Int32) (by decide) d_BB_wall_78 ?_
      exact b_zret (pc := 79) rfl (Or.inr rfl) d_BB_wall_79 h
    · replace h := h.2 c0
      refine a_iconst (pc := 60) (1 : Int32) (by decide) d_BB_wall_60 ?_
      refine a_goto (pc := 61) 65 (by decide) d_BB_wall_61 ?_
      refine a_callV (pc := 65) (M' := m_SA_makeKind) (As := [.int x4, .int (1 : Int32)]) (st := []) (mc' := 0) (ms' := 0) lk_BB_168 rfl sx_83 rfl (by decide) (by decide) rfl (Nat.le_of_ble_eq_true rfl) (Nat.le_refl 0) (Nat.le_refl 0) d_BB_wall_65 h ?_
      rintro _ _ s3 ⟨rfl, rfl, h⟩ -
      show Ax g m_BB_wall 0 0 (ZI g Q) SH s3 0 0 68 [(5, .int z0), (0, .ref (gB g + 0)), (3, .int x3), (4, .int x4)] []
      refine a_aload_n (pc := 68) 1 rfl rfl d_BB_wall_68 ?_
      refine a_dup (pc := 69) rfl d_BB_wall_69 ?_
      refine a_getI (pc := 70) fg_BB_111 sx_0 rfl d_BB_wall_70 ?_
      refine a_iconst (pc := 73) (1 : Int32) (by decide) d_BB_wall_73 ?_
      refine a_iadd (pc := 74) d_BB_wall_74 ?_
      refine a_putI (pc := 75) fp_BB_111 sx_0 rfl d_BB_wall_75 ?_
      refine a_nms (fun s4 hs4 => ?_)
      replace h := h s4 hs4
      refine a_iconst (pc := 78) (1 : Int32) (by decide) d_BB_wall_78 ?_
      exact b_zret (pc := 79) rfl (Or.inr rfl) d_BB_wall_79 h
  · replace h := h.2 c0
    refine a_iconst (pc := 48) (0 : Int32) (by decide) d_BB_wall_48 ?_
    exact b_zret (pc := 49) rfl (Or.inl rfl) d_BB_wall_49 h
theorem ko_BB_wall {g : Gx}  {x1 : Int32} {x2 : Int32} {x3 : Int32} {σ : St} {Q : Int32 → St → Prop} (h : S_BB_wall_0 g Q σ x1 x2 x3) : K_BB_wall g x1 x2 x3 σ Q := KI.of (show plainName "BallBox" = true by decide) (Nat.le_of_ble_eq_true rfl) h
theorem d_BB_tip_0 : decode c_BB_tip 0 = .ok (.aload_n 0, 1) := by decide +kernel
theorem d_BB_tip_1 : decode c_BB_tip 1 = .ok (.getfield 77, 3) := by decide +kernel
theorem d_BB_tip_4 : decode c_BB_tip 4 = .ok (.getfield 172, 3) := by decide +kernel
theorem d_BB_tip_7 : decode c_BB_tip 7 = .ok (.ifCond .eq 10, 3) := by decide +kernel
theorem d_BB_tip_10 : decode c_BB_tip 10 = .ok (.iload_n 1, 1) := by decide +kernel
theorem d_BB_tip_11 : decode c_BB_tip 11 = .ok (.invokestatic 176, 3) := by decide +kernel
theorem d_BB_tip_14 : decode c_BB_tip 14 = .ok (.ifCond .ne 5, 3) := by decide +kernel
theorem d_BB_tip_17 : decode c_BB_tip 17 = .ok (.iconst (-1), 1) := by decide +kernel
theorem d_BB_tip_18 : decode c_BB_tip 18 = .ok (.ireturn, 1) := by decide +kernel
theorem d_BB_tip_19 : decode c_BB_tip 19 = .ok (.aload_n 0, 1) := by decide +kernel
theorem d_BB_tip_20 : decode c_BB_tip 20 = .ok (.getfield 77, 3) := by decide +kernel
theorem d_BB_tip_23 : decode c_BB_tip 23 = .ok (.aload_n 0, 1) := by decide +kernel
theorem d_BB_tip_24 : decode c_BB_tip 24 = .ok (.getfield 33, 3) := by decide +kernel
theorem d_BB_tip_27 : decode c_BB_tip 27 = .ok (.aload_n 0, 1) := by decide +kernel
theorem d_BB_tip_28 : decode c_BB_tip 28 = .ok (.getfield 77, 3) := by decide +kernel
theorem d_BB_tip_31 : decode c_BB_tip 31 = .ok (.aload_n 0, 1) := by decide +kernel
theorem d_BB_tip_32 : decode c_BB_tip 32 = .ok (.getfield 77, 3) := by decide +kernel
theorem d_BB_tip_35 : decode c_BB_tip 35 = .ok (.getfield 139, 3) := by decide +kernel
theorem d_BB_tip_38 : decode c_BB_tip 38 = .ok (.iload_n 1, 1) := by decide +kernel
theorem d_BB_tip_39 : decode c_BB_tip 39 = .ok (.invokevirtual 179, 3) := by decide +kernel
theorem d_BB_tip_42 : decode c_BB_tip 42 = .ok (.putfield 139, 3) := by decide +kernel
theorem d_BB_tip_45 : decode c_BB_tip 45 = .ok (.aload_n 0, 1) := by decide +kernel
theorem d_BB_tip_46 : decode c_BB_tip 46 = .ok (.getfield 77, 3) := by decide +kernel
theorem d_BB_tip_49 : decode c_BB_tip 49 = .ok (.dup, 1) := by decide +kernel
theorem d_BB_tip_50 : decode c_BB_tip 50 = .ok (.getfield 183, 3) := by decide +kernel
theorem d_BB_tip_53 : decode c_BB_tip 53 = .ok (.iconst 1, 1) := by decide +kernel
theorem d_BB_tip_54 : decode c_BB_tip 54 = .ok (.iadd, 1) := by decide +kernel
theorem d_BB_tip_55 : decode c_BB_tip 55 = .ok (.putfield 183, 3) := by decide +kernel
theorem d_BB_tip_58 : decode c_BB_tip 58 = .ok (.aload_n 0, 1) := by decide +kernel
theorem d_BB_tip_59 : decode c_BB_tip 59 = .ok (.dup, 1) := by decide +kernel
theorem d_BB_tip_60 : decode c_BB_tip 60 = .ok (.getfield 111, 3) := by decide +kernel
theorem d_BB_tip_63 : decode c_BB_tip 63 = .ok (.iconst 1, 1) := by decide +kernel
theorem d_BB_tip_64 : decode c_BB_tip 64 = .ok (.iadd, 1) := by decide +kernel
theorem d_BB_tip_65 : decode c_BB_tip 65 = .ok (.putfield 111, 3) := by decide +kernel
theorem d_BB_tip_68 : decode c_BB_tip 68 = .ok (.aload_n 0, 1) := by decide +kernel
theorem d_BB_tip_69 : decode c_BB_tip 69 = .ok (.getfield 33, 3) := by decide +kernel
theorem d_BB_tip_72 : decode c_BB_tip 72 = .ok (.getfield 186, 3) := by decide +kernel
theorem d_BB_tip_75 : decode c_BB_tip 75 = .ok (.bipush 10, 2) := by decide +kernel
theorem d_BB_tip_77 : decode c_BB_tip 77 = .ok (.aload_n 0, 1) := by decide +kernel
theorem d_BB_tip_78 : decode c_BB_tip 78 = .ok (.getfield 33, 3) := by decide +kernel
theorem d_BB_tip_81 : decode c_BB_tip 81 = .ok (.getfield 189, 3) := by decide +kernel
theorem d_BB_tip_84 : decode c_BB_tip 84 = .ok (.imul, 1) := by decide +kernel
theorem d_BB_tip_85 : decode c_BB_tip 85 = .ok (.iadd, 1) := by decide +kernel
theorem d_BB_tip_86 : decode c_BB_tip 86 = .ok (.ireturn, 1) := by decide +kernel
def S_BB_tip_0 (g : Gx) (Q : Int32 → St → Prop) (σ : St) (x1 : Int32) : Prop := Ax g m_BB_tip 0 0 (ZI g Q) SH σ 0 0 0 [(0, .ref (gB g + 0)), (1, .int x1)] []
theorem sg_BB_tip_0 {g : Gx} {Q : Int32 → St → Prop} {σ : St} {x1 : Int32}
    (h : ((fi σ 83 1) = 0 → Q (-1 : Int32) σ) ∧ (¬ (fi σ 83 1) = 0 → K_BB_isWay g x1 σ (fun (r2 : Int32) (s1 : St) => (¬ r2 = 0 → K_RO_rolled g 83 (fi s1 83 5) x1 s1 (fun (r4 : Int32) (s3 : St) => ∀ s5 : St, s5 = sfi s3 83 5 r4 → ∀ s6 : St, s6 = sfi s5 83 6 ((fi s5 83 6) + (1 : Int32)) → ∀ s7 : St, s7 = sfi s6 0 14 ((fi s6 0 14) + (1 : Int32)) → Q ((fi s7 17 6) + ((10 : Int32) * (fi s7 17 7))) s7)) ∧ (r2 = 0 → Q (-1 : Int32) s1)))) : S_BB_tip_0 g Q σ x1 := by
  show Ax g m_BB_tip 0 0 (ZI g Q) SH σ 0 0 0 [(0, .ref (gB g + 0)), (1, .int x1)] []
  refine a_aload_n (pc := 0) 0 rfl rfl d_BB_tip_0 ?_
  refine a_getR (pc := 1) fg_BB_77 sx_0 rfl d_BB_tip_1 ?_
  refine a_getI (pc := 4) fg_BB_172 sx_83 rfl d_BB_tip_4 ?_
  refine a_if_eq (pc := 7) 17 (by decide) d_BB_tip_7 ⟨fun c0 => ?_, fun c0 => ?_⟩
  · replace h := h.1 c0
    refine a_iconst (pc := 17) (-1 : Int32) (by decide) d_BB_tip_17 ?_
    exact b_iret (pc := 18) rfl d_BB_tip_18 h
  · replace h := h.2 c0
    refine a_iload_n (pc := 10) 1 rfl rfl d_BB_tip_10 ?_
    refine a_callS (pc := 11) (M' := m_BB_isWay) (As := [.int x1]) (st := []) (mc' := 0) (ms' := 0) lk_BB_176 rfl (by decide) (by decide) rfl (Nat.le_of_ble_eq_true rfl) (Nat.le_refl 0) (Nat.le_refl 0) d_BB_tip_11 h ?_
    rintro _ _ s1 ⟨r2, rfl, rfl, h⟩ -
    show Ax g m_BB_tip 0 0 (ZI g Q) SH s1 0 0 14 [(0, .ref (gB g + 0)), (1, .int x1)] [.int r2]
    refine a_if_ne (pc := 14) 19 (by decide) d_BB_tip_14 ⟨fun c0 => ?_, fun c0 => ?_⟩
    · replace h := h.1 c0
      refine a_aload_n (pc := 19) 0 rfl rfl d_BB_tip_19 ?_
      refine a_getR (pc := 20) fg_BB_77 sx_0 rfl d_BB_tip_20 ?_
      refine a_aload_n (pc := 23) 0 rfl rfl d_BB_tip_23 ?_
      refine a_getR (pc := 24) fg_BB_33 sx_0 rfl d_BB_tip_24 ?_
      refine a_aload_n (pc := 27) 0 rfl rfl d_BB_tip_27 ?_
      refine a_getR (pc := 28) fg_BB_77 sx_0 rfl d_BB_tip_28 ?_
      refine a_aload_n (pc := 31) 0 rfl rfl d_BB_tip_31 ?_
      refine a_getR (pc := 32) fg_BB_77 sx_0 rfl d_BB_tip_32 ?_
      refine a_getI (pc := 35) fg_BB_139 sx_83 rfl d_BB_tip_35 ?_
      refine a_iload_n (pc := 38) 1 rfl rfl d_BB_tip_38 ?_
      refine a_callV (pc := 39) (M' := m_RO_rolled) (As := [.ref (gB g + 83), .int (fi s1 83 5), .int x1]) (st := [.ref (gB g + 83)]) (mc' := 0) (ms' := 0) lk_BB_179 rfl sx_17 rfl (by decide) (by decide) rfl (Nat.le_of_ble_eq_true rfl) (Nat.le_refl 0) (Nat.le_refl 0) d_BB_tip_39 h ?_
      rintro _ _ s3 ⟨r4, rfl, rfl, h⟩ -
      show Ax g m_BB_tip 0 0 (ZI g Q) SH s3 0 0 42 [(0, .ref (gB g + 0)), (1, .int x1)] [.int r4, .ref (gB g + 83)]
      refine a_putI (pc := 42) fp_BB_139 sx_83 rfl d_BB_tip_42 ?_
      refine a_nms (fun s5 hs5 => ?_)
      replace h := h s5 hs5
      refine a_aload_n (pc := 45) 0 rfl rfl d_BB_tip_45 ?_
      refine a_getR (pc := 46) fg_BB_77 sx_0 rfl d_BB_tip_46 ?_
      refine a_dup (pc := 49) rfl d_BB_tip_49 ?_
      refine a_getI (pc := 50) fg_BB_183 sx_83 rfl d_BB_tip_50 ?_
      refine a_iconst (pc := 53) (1 : Int32) (by decide) d_BB_tip_53 ?_
      refine a_iadd (pc := 54) d_BB_tip_54 ?_
      refine a_putI (pc := 55) fp_BB_183 sx_83 rfl d_BB_tip_55 ?_
      refine a_nms (fun s6 hs6 => ?_)
      replace h := h s6 hs6
      refine a_aload_n (pc := 58) 0 rfl rfl d_BB_tip_58 ?_
      refine a_dup (pc := 59) rfl d_BB_tip_59 ?_
      refine a_getI (pc := 60) fg_BB_111 sx_0 rfl d_BB_tip_60 ?_
      refine a_iconst (pc := 63) (1 : Int32) (by decide) d_BB_tip_63 ?_
      refine a_iadd (pc := 64) d_BB_tip_64 ?_
      refine a_putI (pc := 65) fp_BB_111 sx_0 rfl d_BB_tip_65 ?_
      refine a_nms (fun s7 hs7 => ?_)
      replace h := h s7 hs7
      refine a_aload_n (pc := 68) 0 rfl rfl d_BB_tip_68 ?_
      refine a_getR (pc := 69) fg_BB_33 sx_0 rfl d_BB_tip_69 ?_
      refine a_getI (pc := 72) fg_BB_186 sx_17 rfl d_BB_tip_72 ?_
      refine a_bipush (pc := 75) (10 : Int32) (by decide) d_BB_tip_75 ?_
      refine a_aload_n (pc := 77) 0 rfl rfl d_BB_tip_77 ?_
      refine a_getR (pc := 78) fg_BB_33 sx_0 rfl d_BB_tip_78 ?_
      refine a_getI (pc := 81) fg_BB_189 sx_17 rfl d_BB_tip_81 ?_
      refine a_imul (pc := 84) d_BB_tip_84 ?_
      refine a_iadd (pc := 85) d_BB_tip_85 ?_
      exact b_iret (pc := 86) rfl d_BB_tip_86 h
    · replace h := h.2 c0
      refine a_iconst (pc := 17) (-1 : Int32) (by decide) d_BB_tip_17 ?_
      exact b_iret (pc := 18) rfl d_BB_tip_18 h
theorem ko_BB_tip {g : Gx}  {x1 : Int32} {σ : St} {Q : Int32 → St → Prop} (h : S_BB_tip_0 g Q σ x1) : K_BB_tip g x1 σ Q := KI.of (show plainName "BallBox" = true by decide) (Nat.le_of_ble_eq_true rfl) h
theorem d_BB_may_0 : decode c_BB_may 0 = .ok (.aload_n 0, 1) := by decide +kernel
theorem d_BB_may_1 : decode c_BB_may 1 = .ok (.getfield 77, 3) := by decide +kernel
theorem d_BB_may_4 : decode c_BB_may 4 = .ok (.getfield 172, 3) := by decide +kernel
theorem d_BB_may_7 : decode c_BB_may 7 = .ok (.ifCond .eq 10, 3) := by decide +kernel
theorem d_BB_may_10 : decode c_BB_may 10 = .ok (.iload_n 1, 1) := by decide +kernel
theorem d_BB_may_11 : decode c_BB_may 11 = .ok (.invokestatic 176, 3) := by decide +kernel
theorem d_BB_may_14 : decode c_BB_may 14 = .ok (.ifCond .ne 5, 3) := by decide +kernel
theorem d_BB_may_17 : decode c_BB_may 17 = .ok (.iconst (-1), 1) := by decide +kernel
theorem d_BB_may_18 : decode c_BB_may 18 = .ok (.ireturn, 1) := by decide +kernel
theorem d_BB_may_19 : decode c_BB_may 19 = .ok (.aload_n 0, 1) := by decide +kernel
theorem d_BB_may_20 : decode c_BB_may 20 = .ok (.getfield 33, 3) := by decide +kernel
theorem d_BB_may_23 : decode c_BB_may 23 = .ok (.aload_n 0, 1) := by decide +kernel
theorem d_BB_may_24 : decode c_BB_may 24 = .ok (.getfield 77, 3) := by decide +kernel
theorem d_BB_may_27 : decode c_BB_may 27 = .ok (.aload_n 0, 1) := by decide +kernel
theorem d_BB_may_28 : decode c_BB_may 28 = .ok (.getfield 77, 3) := by decide +kernel
theorem d_BB_may_31 : decode c_BB_may 31 = .ok (.getfield 139, 3) := by decide +kernel
theorem d_BB_may_34 : decode c_BB_may 34 = .ok (.iload_n 1, 1) := by decide +kernel
theorem d_BB_may_35 : decode c_BB_may 35 = .ok (.invokevirtual 179, 3) := by decide +kernel
theorem d_BB_may_38 : decode c_BB_may 38 = .ok (.pop, 1) := by decide +kernel
theorem d_BB_may_39 : decode c_BB_may 39 = .ok (.aload_n 0, 1) := by decide +kernel
theorem d_BB_may_40 : decode c_BB_may 40 = .ok (.getfield 33, 3) := by decide +kernel
theorem d_BB_may_43 : decode c_BB_may 43 = .ok (.getfield 186, 3) := by decide +kernel
theorem d_BB_may_46 : decode c_BB_may 46 = .ok (.bipush 10, 2) := by decide +kernel
theorem d_BB_may_48 : decode c_BB_may 48 = .ok (.aload_n 0, 1) := by decide +kernel
theorem d_BB_may_49 : decode c_BB_may 49 = .ok (.getfield 33, 3) := by decide +kernel
theorem d_BB_may_52 : decode c_BB_may 52 = .ok (.getfield 189, 3) := by decide +kernel
theorem d_BB_may_55 : decode c_BB_may 55 = .ok (.imul, 1) := by decide +kernel
theorem d_BB_may_56 : decode c_BB_may 56 = .ok (.iadd, 1) := by decide +kernel
theorem d_BB_may_57 : decode c_BB_may 57 = .ok (.ireturn, 1) := by decide +kernel
def S_BB_may_0 (g : Gx) (Q : Int32 → St → Prop) (σ : St) (x1 : Int32) : Prop := Ax g m_BB_may 0 0 (ZI g Q) SH σ 0 0 0 [(0, .ref (gB g + 0)), (1, .int x1)] []
theorem sg_BB_may_0 {g : Gx} {Q : Int32 → St → Prop} {σ : St} {x1 : Int32}
    (h : ((fi σ 83 1) = 0 → Q (-1 : Int32) σ) ∧ (¬ (fi σ 83 1) = 0 → K_BB_isWay g x1 σ (fun (r2 : Int32) (s1 : St) => (¬ r2 = 0 → K_RO_rolled g 83 (fi s1 83 5) x1 s1 (fun (r4 : Int32) (s3 : St) => Q ((fi s3 17 6) + ((10 : Int32) * (fi s3 17 7))) s3)) ∧ (r2 = 0 → Q (-1 : Int32) s1)))) : S_BB_may_0 g Q σ x1 := by
  show Ax g m_BB_may 0 0 (ZI g Q) SH σ 0 0 0 [(0, .ref (gB g + 0)), (1, .int x1)] []
  refine a_aload_n (pc := 0) 0 rfl rfl d_BB_may_0 ?_
  refine a_getR (pc := 1) fg_BB_77 sx_0 rfl d_BB_may_1 ?_
  refine a_getI (pc := 4) fg_BB_172 sx_83 rfl d_BB_may_4 ?_
  refine a_if_eq (pc := 7) 17 (by decide) d_BB_may_7 ⟨fun c0 => ?_, fun c0 => ?_⟩
  · replace h := h.1 c0
    refine a_iconst (pc := 17) (-1 : Int32) (by decide) d_BB_may_17 ?_
    exact b_iret (pc := 18) rfl d_BB_may_18 h
  · replace h := h.2 c0
    refine a_iload_n (pc := 10) 1 rfl rfl d_BB_may_10 ?_
    refine a_callS (pc := 11) (M' := m_BB_isWay) (As := [.int x1]) (st := []) (mc' := 0) (ms' := 0) lk_BB_176 rfl (by decide) (by decide) rfl (Nat.le_of_ble_eq_true rfl) (Nat.le_refl 0) (Nat.le_refl 0) d_BB_may_11 h ?_
    rintro _ _ s1 ⟨r2, rfl, rfl, h⟩ -
    show Ax g m_BB_may 0 0 (ZI g Q) SH s1 0 0 14 [(0, .ref (gB g + 0)), (1, .int x1)] [.int r2]
    refine a_if_ne (pc := 14) 19 (by decide) d_BB_may_14 ⟨fun c0 => ?_, fun c0 => ?_⟩
    · replace h := h.1 c0
      refine a_aload_n (pc := 19) 0 rfl rfl d_BB_may_19 ?_
      refine a_getR (pc := 20) fg_BB_33 sx_0 rfl d_BB_may_20 ?_
      refine a_aload_n (pc := 23) 0 rfl rfl d_BB_may_23 ?_
      refine a_getR (pc := 24) fg_BB_77 sx_0 rfl d_BB_may_24 ?_
      refine a_aload_n (pc := 27) 0 rfl rfl d_BB_may_27 ?_
      refine a_getR (pc := 28) fg_BB_77 sx_0 rfl d_BB_may_28 ?_
      refine a_getI (pc := 31) fg_BB_139 sx_83 rfl d_BB_may_31 ?_
      refine a_iload_n (pc := 34) 1 rfl rfl d_BB_may_34 ?_
      refine a_callV (pc := 35) (M' := m_RO_rolled) (As := [.ref (gB g + 83), .int (fi s1 83 5), .int x1]) (st := []) (mc' := 0) (ms' := 0) lk_BB_179 rfl sx_17 rfl (by decide) (by decide) rfl (Nat.le_of_ble_eq_true rfl) (Nat.le_refl 0) (Nat.le_refl 0) d_BB_may_35 h ?_
      rintro _ _ s3 ⟨r4, rfl, rfl, h⟩ -
      show Ax g m_BB_may 0 0 (ZI g Q) SH s3 0 0 38 [(0, .ref (gB g + 0)), (1, .int x1)] [.int r4]
      refine a_pop (pc := 38) rfl d_BB_may_38 ?_
      refine a_aload_n (pc := 39) 0 rfl rfl d_BB_may_39 ?_
      refine a_getR (pc := 40) fg_BB_33 sx_0 rfl d_BB_may_40 ?_
      refine a_getI (pc := 43) fg_BB_186 sx_17 rfl d_BB_may_43 ?_
      refine a_bipush (pc := 46) (10 : Int32) (by decide) d_BB_may_46 ?_
      refine a_aload_n (pc := 48) 0 rfl rfl d_BB_may_48 ?_
      refine a_getR (pc := 49) fg_BB_33 sx_0 rfl d_BB_may_49 ?_
      refine a_getI (pc := 52) fg_BB_189 sx_17 rfl d_BB_may_52 ?_
      refine a_imul (pc := 55) d_BB_may_55 ?_
      refine a_iadd (pc := 56) d_BB_may_56 ?_
      exact b_iret (pc := 57) rfl d_BB_may_57 h
    · replace h := h.2 c0
      refine a_iconst (pc := 17) (-1 : Int32) (by decide) d_BB_may_17 ?_
      exact b_iret (pc := 18) rfl d_BB_may_18 h
theorem ko_BB_may {g : Gx}  {x1 : Int32} {σ : St} {Q : Int32 → St → Prop} (h : S_BB_may_0 g Q σ x1) : K_BB_may g x1 σ Q := KI.of (show plainName "BallBox" = true by decide) (Nat.le_of_ble_eq_true rfl) h
theorem d_BB_press_0 : decode c_BB_press 0 = .ok (.iload_n 1, 1) := by decide +kernel
theorem d_BB_press_1 : decode c_BB_press 1 = .ok (.iconst (-1), 1) := by decide +kernel
theorem d_BB_press_2 : decode c_BB_press 2 = .ok (.if_icmp .ne 13, 3) := by decide +kernel
theorem d_BB_press_5 : decode c_BB_press 5 = .ok (.aload_n 0, 1) := by decide +kernel
theorem d_BB_press_6 : decode c_BB_press 6 = .ok (.getfield 77, 3) := by decide +kernel
theorem d_BB_press_9 : decode c_BB_press 9 = .ok (.iconst 0, 1) := by decide +kernel
theorem d_BB_press_10 : decode c_BB_press 10 = .ok (.putfield 192, 3) := by decide +kernel
theorem d_BB_press_13 : decode c_BB_press 13 = .ok (.iconst 0, 1) := by decide +kernel
theorem d_BB_press_14 : decode c_BB_press 14 = .ok (.ireturn, 1) := by decide +kernel
theorem d_BB_press_15 : decode c_BB_press 15 = .ok (.aload_n 0, 1) := by decide +kernel
theorem d_BB_press_16 : decode c_BB_press 16 = .ok (.getfield 77, 3) := by decide +kernel
theorem d_BB_press_19 : decode c_BB_press 19 = .ok (.getfield 172, 3) := by decide +kernel
theorem d_BB_press_22 : decode c_BB_press 22 = .ok (.ifCond .eq 22, 3) := by decide +kernel
theorem d_BB_press_25 : decode c_BB_press 25 = .ok (.iload_n 1, 1) := by decide +kernel
theorem d_BB_press_26 : decode c_BB_press 26 = .ok (.invokestatic 176, 3) := by decide +kernel
theorem d_BB_press_29 : decode c_BB_press 29 = .ok (.ifCond .eq 15, 3) := by decide +kernel
theorem d_BB_press_32 : decode c_BB_press 32 = .ok (.aload_n 0, 1) := by decide +kernel
theorem d_BB_press_33 : decode c_BB_press 33 = .ok (.getfield 77, 3) := by decide +kernel
theorem d_BB_press_36 : decode c_BB_press 36 = .ok (.getfield 192, 3) := by decide +kernel
theorem d_BB_press_39 : decode c_BB_press 39 = .ok (.bipush 8, 2) := by decide +kernel
theorem d_BB_press_41 : decode c_BB_press 41 = .ok (.if_icmp .lt 6, 3) := by decide +kernel
theorem d_BB_press_44 : decode c_BB_press 44 = .ok (.bipush (-2), 2) := by decide +kernel
theorem d_BB_press_46 : decode c_BB_press 46 = .ok (.ireturn, 1) := by decide +kernel
theorem d_BB_press_47 : decode c_BB_press 47 = .ok (.aload_n 0, 1) := by decide +kernel
theorem d_BB_press_48 : decode c_BB_press 48 = .ok (.getfield 77, 3) := by decide +kernel
theorem d_BB_press_51 : decode c_BB_press 51 = .ok (.getfield 195, 3) := by decide +kernel
theorem d_BB_press_54 : decode c_BB_press 54 = .ok (.aload_n 0, 1) := by decide +kernel
theorem d_BB_press_55 : decode c_BB_press 55 = .ok (.getfield 77, 3) := by decide +kernel
theorem d_BB_press_58 : decode c_BB_press 58 = .ok (.getfield 192, 3) := by decide +kernel
theorem d_BB_press_61 : decode c_BB_press 61 = .ok (.iload_n 1, 1) := by decide +kernel
theorem d_BB_press_62 : decode c_BB_press 62 = .ok (.iastore, 1) := by decide +kernel
theorem d_BB_press_63 : decode c_BB_press 63 = .ok (.aload_n 0, 1) := by decide +kernel
theorem d_BB_press_64 : decode c_BB_press 64 = .ok (.getfield 77, 3) := by decide +kernel
theorem d_BB_press_67 : decode c_BB_press 67 = .ok (.dup, 1) := by decide +kernel
theorem d_BB_press_68 : decode c_BB_press 68 = .ok (.getfield 192, 3) := by decide +kernel
theorem d_BB_press_71 : decode c_BB_press 71 = .ok (.iconst 1, 1) := by decide +kernel
theorem d_BB_press_72 : decode c_BB_press 72 = .ok (.iadd, 1) := by decide +kernel
theorem d_BB_press_73 : decode c_BB_press 73 = .ok (.putfield 192, 3) := by decide +kernel
theorem d_BB_press_76 : decode c_BB_press 76 = .ok (.aload_n 0, 1) := by decide +kernel
theorem d_BB_press_77 : decode c_BB_press 77 = .ok (.getfield 77, 3) := by decide +kernel
theorem d_BB_press_80 : decode c_BB_press 80 = .ok (.getfield 192, 3) := by decide +kernel
theorem d_BB_press_83 : decode c_BB_press 83 = .ok (.ireturn, 1) := by decide +kernel
def S_BB_press_0 (g : Gx) (Q : Int32 → St → Prop) (σ : St) (x1 : Int32) : Prop := Ax g m_BB_press 0 0 (ZI g Q) SH σ 0 0 0 [(0, .ref (gB g + 0)), (1, .int x1)] []
theorem sg_BB_press_0 {g : Gx} {Q : Int32 → St → Prop} {σ : St} {x1 : Int32}
    (h : (¬ x1 = (-1 : Int32) → ((fi σ 83 1) = 0 → Q (-2 : Int32) σ) ∧ (¬ (fi σ 83 1) = 0 → K_BB_isWay g x1 σ (fun (r2 : Int32) (s1 : St) => (r2 = 0 → Q (-2 : Int32) s1) ∧ (¬ r2 = 0 → ((fi s1 83 7) < (8 : Int32) → vp_in (fi s1 83 7) 8 ∧ (∀ s3 : St, s3 = sai s1 86 ((fi s1 83 7)).toNatClampNeg x1 → ∀ s4 : St, s4 = sfi s3 83 7 ((fi s3 83 7) + (1 : Int32)) → Q (fi s4 83 7) s4)) ∧ (¬ (fi s1 83 7) < (8 : Int32) → Q (-2 : Int32) s1))))) ∧ (x1 = (-1 : Int32) → ∀ s5 : St, s5 = sfi σ 83 7 (0 : Int32) → Q (0 : Int32) s5)) : S_BB_press_0 g Q σ x1 := by
  show Ax g m_BB_press 0 0 (ZI g Q) SH σ 0 0 0 [(0, .ref (gB g + 0)), (1, .int x1)] []
  refine a_iload_n (pc := 0) 1 rfl rfl d_BB_press_0 ?_
  refine a_iconst (pc := 1) (-1 : Int32) (by decide) d_BB_press_1 ?_
  refine a_icmp_ne (pc := 2) 15 (by decide) d_BB_press_2 ⟨fun c0 => ?_, fun c0 => ?_⟩
  · replace h := h.1 c0
    refine a_aload_n (pc := 15) 0 rfl rfl d_BB_press_15 ?_
    refine a_getR (pc := 16) fg_BB_77 sx_0 rfl d_BB_press_16 ?_
    refine a_getI (pc := 19) fg_BB_172 sx_83 rfl d_BB_press_19 ?_
    refine a_if_eq (pc := 22) 44 (by decide) d_BB_press_22 ⟨fun c0 => ?_, fun c0 => ?_⟩
    · replace h := h.1 c0
      refine a_bipush (pc := 44) (-2 : Int32) (by decide) d_BB_press_44 ?_
      exact b_iret (pc := 46) rfl d_BB_press_46 h
    · replace h := h.2 c0
      refine a_iload_n (pc := 25) 1 rfl rfl d_BB_press_25 ?_
      refine a_callS (pc := 26) (M' := m_BB_isWay) (As := [.int x1]) (st := []) (mc' := 0) (ms' := 0) lk_BB_176 rfl (by decide) (by decide) rfl (Nat.le_of_ble_eq_true rfl) (Nat.le_refl 0) (Nat.le_refl 0) d_BB_press_26 h ?_
      rintro _ _ s1 ⟨r2, rfl, rfl, h⟩ -
      show Ax g m_BB_press 0 0 (ZI g Q) SH s1 0 0 29 [(0, .ref (gB g + 0)), (1, .int x1)] [.int r2]
      refine a_if_eq (pc := 29) 44 (by decide) d_BB_press_29 ⟨fun c0 => ?_, fun c0 => ?_⟩
      · replace h := h.1 c0
        refine a_bipush (pc := 44) (-2 : Int32) (by decide) d_BB_press_44 ?_
        exact b_iret (pc := 46) rfl d_BB_press_46 h
      · replace h := h.2 c0
        refine a_aload_n (pc := 32) 0 rfl rfl d_BB_press_32 ?_
        refine a_getR (pc := 33) fg_BB_77 sx_0 rfl d_BB_press_33 ?_
        refine a_getI (pc := 36) fg_BB_192 sx_83 rfl d_BB_press_36 ?_
        refine a_bipush (pc := 39) (8 : Int32) (by decide) d_BB_press_39 ?_
        refine a_icmp_lt (pc := 41) 47 (by decide) d_BB_press_41 ⟨fun c0 => ?_, fun c0 => ?_⟩
        · replace h := h.1 c0
          refine a_aload_n (pc := 47) 0 rfl rfl d_BB_press_47 ?_
          refine a_getR (pc := 48) fg_BB_77 sx_0 rfl d_BB_press_48 ?_
          refine a_getR (pc := 51) fg_BB_195 sx_83 rfl d_BB_press_51 ?_
          refine a_aload_n (pc := 54) 0 rfl rfl d_BB_press_54 ?_
          refine a_getR (pc := 55) fg_BB_77 sx_0 rfl d_BB_press_55 ?_
          refine a_getI (pc := 58) fg_BB_192 sx_83 rfl d_BB_press_58 ?_
          refine a_iload_n (pc := 61) 1 rfl rfl d_BB_press_61 ?_
          obtain ⟨hx, h⟩ := h
          refine a_iast (pc := 62) sx_86 hx d_BB_press_62 ?_
          refine a_nms (fun s3 hs3 => ?_)
          replace h := h s3 hs3
          refine a_aload_n (pc := 63) 0 rfl rfl d_BB_press_63 ?_
          refine a_getR (pc := 64) fg_BB_77 sx_0 rfl d_BB_press_64 ?_
          refine a_dup (pc := 67) rfl d_BB_press_67 ?_
          refine a_getI (pc := 68) fg_BB_192 sx_83 rfl d_BB_press_68 ?_
          refine a_iconst (pc := 71) (1 : Int32) (by decide) d_BB_press_71 ?_
          refine a_iadd (pc := 72) d_BB_press_72 ?_
          refine a_putI (pc := 73) fp_BB_192 sx_83 rfl d_BB_press_73 ?_
          refine a_nms (fun s4 hs4 => ?_)
          replace h := h s4 hs4
          refine a_aload_n (pc := 76) 0 rfl rfl d_BB_press_76 ?_
          refine a_getR (pc := 77) fg_BB_77 sx_0 rfl d_BB_press_77 ?_
          refine a_getI (pc := 80) fg_BB_192 sx_83 rfl d_BB_press_80 ?_
          exact b_iret (pc := 83) rfl d_BB_press_83 h
        · replace h := h.2 c0
          refine a_bipush (pc := 44) (-2 : Int32) (by decide) d_BB_press_44 ?_
          exact b_iret (pc := 46) rfl d_BB_press_46 h
  · replace h := h.2 c0
    refine a_aload_n (pc := 5) 0 rfl rfl d_BB_press_5 ?_
    refine a_getR (pc := 6) fg_BB_77 sx_0 rfl d_BB_press_6 ?_
    refine a_iconst (pc := 9) (0 : Int32) (by decide) d_BB_press_9 ?_
    refine a_putI (pc := 10) fp_BB_192 sx_83 rfl d_BB_press_10 ?_
    refine a_nms (fun s5 hs5 => ?_)
    replace h := h s5 hs5
    refine a_iconst (pc := 13) (0 : Int32) (by decide) d_BB_press_13 ?_
    exact b_iret (pc := 14) rfl d_BB_press_14 h
theorem ko_BB_press {g : Gx}  {x1 : Int32} {σ : St} {Q : Int32 → St → Prop} (h : S_BB_press_0 g Q σ x1) : K_BB_press g x1 σ Q := KI.of (show plainName "BallBox" = true by decide) (Nat.le_of_ble_eq_true rfl) h
theorem d_BB_would_0 : decode c_BB_would 0 = .ok (.aload_n 0, 1) := by decide +kernel
theorem d_BB_would_1 : decode c_BB_would 1 = .ok (.getfield 77, 3) := by decide +kernel
theorem d_BB_would_4 : decode c_BB_would 4 = .ok (.getfield 172, 3) := by decide +kernel
theorem d_BB_would_7 : decode c_BB_would 7 = .ok (.ifCond .eq 12, 3) := by decide +kernel
theorem d_BB_would_10 : decode c_BB_would 10 = .ok (.iload_n 1, 1) := by decide +kernel
theorem d_BB_would_11 : decode c_BB_would 11 = .ok (.ifCond .lt 8, 3) := by decide +kernel
theorem d_BB_would_14 : decode c_BB_would 14 = .ok (.iload_n 1, 1) := by decide +kernel
theorem d_BB_would_15 : decode c_BB_would 15 = .ok (.iconst 3, 1) := by decide +kernel
theorem d_BB_would_16 : decode c_BB_would 16 = .ok (.if_icmp .le 5, 3) := by decide +kernel
theorem d_BB_would_19 : decode c_BB_would 19 = .ok (.iconst (-1), 1) := by decide +kernel
theorem d_BB_would_20 : decode c_BB_would 20 = .ok (.ireturn, 1) := by decide +kernel
theorem d_BB_would_21 : decode c_BB_would 21 = .ok (.aload_n 0, 1) := by decide +kernel
theorem d_BB_would_22 : decode c_BB_would 22 = .ok (.getfield 70, 3) := by decide +kernel
theorem d_BB_would_25 : decode c_BB_would 25 = .ok (.aload_n 0, 1) := by decide +kernel
theorem d_BB_would_26 : decode c_BB_would 26 = .ok (.getfield 77, 3) := by decide +kernel
theorem d_BB_would_29 : decode c_BB_would 29 = .ok (.invokevirtual 198, 3) := by decide +kernel
theorem d_BB_would_32 : decode c_BB_would 32 = .ok (.iload_n 1, 1) := by decide +kernel
theorem d_BB_would_33 : decode c_BB_would 33 = .ok (.tableswitch 63 0 2 #[27, 42, 55], 27) := by decide +kernel
theorem d_BB_would_60 : decode c_BB_would 60 = .ok (.aload_n 0, 1) := by decide +kernel
theorem d_BB_would_61 : decode c_BB_would 61 = .ok (.getfield 77, 3) := by decide +kernel
theorem d_BB_would_64 : decode c_BB_would 64 = .ok (.aload_n 0, 1) := by decide +kernel
theorem d_BB_would_65 : decode c_BB_would 65 = .ok (.getfield 70, 3) := by decide +kernel
theorem d_BB_would_68 : decode c_BB_would 68 = .ok (.getfield 201, 3) := by decide +kernel
theorem d_BB_would_71 : decode c_BB_would 71 = .ok (.invokevirtual 202, 3) := by decide +kernel
theorem d_BB_would_74 : decode c_BB_would 74 = .ok (.ireturn, 1) := by decide +kernel
theorem d_BB_would_75 : decode c_BB_would 75 = .ok (.aload_n 0, 1) := by decide +kernel
theorem d_BB_would_76 : decode c_BB_would 76 = .ok (.getfield 70, 3) := by decide +kernel
theorem d_BB_would_79 : decode c_BB_would 79 = .ok (.getfield 201, 3) := by decide +kernel
theorem d_BB_would_82 : decode c_BB_would 82 = .ok (.bipush 7, 2) := by decide +kernel
theorem d_BB_would_84 : decode c_BB_would 84 = .ok (.invokestatic 205, 3) := by decide +kernel
theorem d_BB_would_87 : decode c_BB_would 87 = .ok (.ireturn, 1) := by decide +kernel
theorem d_BB_would_88 : decode c_BB_would 88 = .ok (.aload_n 0, 1) := by decide +kernel
theorem d_BB_would_89 : decode c_BB_would 89 = .ok (.getfield 70, 3) := by decide +kernel
theorem d_BB_would_92 : decode c_BB_would 92 = .ok (.getfield 208, 3) := by decide +kernel
theorem d_BB_would_95 : decode c_BB_would 95 = .ok (.ireturn, 1) := by decide +kernel
theorem d_BB_would_96 : decode c_BB_would 96 = .ok (.aload_n 0, 1) := by decide +kernel
theorem d_BB_would_97 : decode c_BB_would 97 = .ok (.getfield 70, 3) := by decide +kernel
theorem d_BB_would_100 : decode c_BB_would 100 = .ok (.getfield 209, 3) := by decide +kernel
theorem d_BB_would_103 : decode c_BB_would 103 = .ok (.ireturn, 1) := by decide +kernel
def S_BB_would_0 (g : Gx) (Q : Int32 → St → Prop) (σ : St) (x1 : Int32) : Prop := Ax g m_BB_would 0 0 (ZI g Q) SH σ 0 0 0 [(0, .ref (gB g + 0)), (1, .int x1)] []
theorem sg_BB_would_0 {g : Gx} {Q : Int32 → St → Prop} {σ : St} {x1 : Int32}
    (h : ((fi σ 83 1) = 0 → Q (-1 : Int32) σ) ∧ (¬ (fi σ 83 1) = 0 → (x1 < 0 → Q (-1 : Int32) σ) ∧ (¬ x1 < 0 → (x1 ≤ (3 : Int32) → K_TR_followRow g 83 σ (fun s1 : St => ((x1 = (0 : Int32) → K_SA_howManyHome g 83 (fi s1 82 1) s1 (fun (r3 : Int32) (s2 : St) => Q r3 s2)) ∧ (x1 = (1 : Int32) → K_SA_howMany g (fi s1 82 1) (7 : Int32) s1 (fun (r5 : Int32) (s4 : St) => Q r5 s4)) ∧ (x1 = (2 : Int32) → Q (fi s1 82 2) s1) ∧ (¬ x1 = (0 : Int32) → ¬ x1 = (1 : Int32) → ¬ x1 = (2 : Int32) → Q (fi s1 82 3) s1)))) ∧ (¬ x1 ≤ (3 : Int32) → Q (-1 : Int32) σ)))) : S_BB_would_0 g Q σ x1 := by
  show Ax g m_BB_would 0 0 (ZI g Q) SH σ 0 0 0 [(0, .ref (gB g + 0)), (1, .int x1)] []
  refine a_aload_n (pc := 0) 0 rfl rfl d_BB_would_0 ?_
  refine a_getR (pc := 1) fg_BB_77 sx_0 rfl d_BB_would_1 ?_
  refine a_getI (pc := 4) fg_BB_172 sx_83 rfl d_BB_would_4 ?_
  refine a_if_eq (pc := 7) 19 (by decide) d_BB_would_7 ⟨fun c0 => ?_, fun c0 => ?_⟩
  · replace h := h.1 c0
    refine a_iconst (pc := 19) (-1 : Int32) (by decide) d_BB_would_19 ?_
    exact b_iret (pc := 20) rfl d_BB_would_20 h
  · replace h := h.2 c0
    refine a_iload_n (pc := 10) 1 rfl rfl d_BB_would_10 ?_
    refine a_if_lt (pc := 11) 19 (by decide) d_BB_would_11 ⟨fun c0 => ?_, fun c0 => ?_⟩
    · replace h := h.1 c0
      refine a_iconst (pc := 19) (-1 : Int32) (by decide) d_BB_would_19 ?_
      exact b_iret (pc := 20) rfl d_BB_would_20 h
    · replace h := h.2 c0
      refine a_iload_n (pc := 14) 1 rfl rfl d_BB_would_14 ?_
      refine a_iconst (pc := 15) (3 : Int32) (by decide) d_BB_would_15 ?_
      refine a_icmp_le (pc := 16) 21 (by decide) d_BB_would_16 ⟨fun c0 => ?_, fun c0 => ?_⟩
      · replace h := h.1 c0
        refine a_aload_n (pc := 21) 0 rfl rfl d_BB_would_21 ?_
        refine a_getR (pc := 22) fg_BB_70 sx_0 rfl d_BB_would_22 ?_
        refine a_aload_n (pc := 25) 0 rfl rfl d_BB_would_25 ?_
        refine a_getR (pc := 26) fg_BB_77 sx_0 rfl d_BB_would_26 ?_
        refine a_callV (pc := 29) (M' := m_TR_followRow) (As := [.ref (gB g + 83)]) (st := []) (mc' := 0) (ms' := 0) lk_BB_198 rfl sx_82 rfl (by decide) (by decide) rfl (Nat.le_of_ble_eq_true rfl) (Nat.le_refl 0) (Nat.le_refl 0) d_BB_would_29 h ?_
        rintro _ _ s1 ⟨rfl, rfl, h⟩ -
        show Ax g m_BB_would 0 0 (ZI g Q) SH s1 0 0 32 [(0, .ref (gB g + 0)), (1, .int x1)] []
        refine a_iload_n (pc := 32) 1 rfl rfl d_BB_would_32 ?_
        by_cases c0 : x1 = (0 : Int32)
        · replace h := h.1 c0
          refine a_tableIn (pc := 33) 60 (off := 27) (by rw [c0]; decide) (by rw [c0]; decide) (by rw [c0]; rfl) (by decide) d_BB_would_33 ?_
          refine a_aload_n (pc := 60) 0 rfl rfl d_BB_would_60 ?_
          refine a_getR (pc := 61) fg_BB_77 sx_0 rfl d_BB_would_61 ?_
          refine a_aload_n (pc := 64) 0 rfl rfl d_BB_would_64 ?_
          refine a_getR (pc := 65) fg_BB_70 sx_0 rfl d_BB_would_65 ?_
          refine a_getI (pc := 68) fg_BB_201 sx_82 rfl d_BB_would_68 ?_
          refine a_callV (pc := 71) (M' := m_SA_howManyHome) (As := [.int (fi s1 82 1)]) (st := []) (mc' := 0) (ms' := 0) lk_BB_202 rfl sx_83 rfl (by decide) (by decide) rfl (Nat.le_of_ble_eq_true rfl) (Nat.le_refl 0) (Nat.le_refl 0) d_BB_would_71 h ?_
          rintro _ _ s2 ⟨r3, rfl, rfl, h⟩ -
          show Ax g m_BB_would 0 0 (ZI g Q) SH s2 0 0 74 [(0, .ref (gB g + 0)), (1, .int x1)] [.int r3]
          exact b_iret (pc := 74) rfl d_BB_would_74 h
        replace h := h.2
        by_cases c1 : x1 = (1 : Int32)
        · replace h := h.1 c1
          refine a_tableIn (pc := 33) 75 (off := 42) (by rw [c1]; decide) (by rw [c1]; decide) (by rw [c1]; rfl) (by decide) d_BB_would_33 ?_
          refine a_aload_n (pc := 75) 0 rfl rfl d_BB_would_75 ?_
          refine a_getR (pc := 76) fg_BB_70 sx_0 rfl d_BB_would_76 ?_
          refine a_getI (pc := 79) fg_BB_201 sx_82 rfl d_BB_would_79 ?_
          refine a_bipush (pc := 82) (7 : Int32) (by decide) d_BB_would_82 ?_
          refine a_callS (pc := 84) (M' := m_SA_howMany) (As := [.int (fi s1 82 1), .int (7 : Int32)]) (st := []) (mc' := 0) (ms' := 0) lk_BB_205 rfl (by decide) (by decide) rfl (Nat.le_of_ble_eq_true rfl) (Nat.le_refl 0) (Nat.le_refl 0) d_BB_would_84 h ?_
          rintro _ _ s4 ⟨r5, rfl, rfl, h⟩ -
          show Ax g m_BB_would 0 0 (ZI g Q) SH s4 0 0 87 [(0, .ref (gB g + 0)), (1, .int x1)] [.int r5]
          exact b_iret (pc := 87) rfl d_BB_would_87 h
        replace h := h.2
        by_cases c2 : x1 = (2 : Int32)
        · replace h := h.1 c2
          refine a_tableIn (pc := 33) 88 (off := 55) (by rw [c2]; decide) (by rw [c2]; decide) (by rw [c2]; rfl) (by decide) d_BB_would_33 ?_
          refine a_aload_n (pc := 88) 0 rfl rfl d_BB_would_88 ?_
          refine a_getR (pc := 89) fg_BB_70 sx_0 rfl d_BB_would_89 ?_
          refine a_getI (pc := 92) fg_BB_208 sx_82 rfl d_BB_would_92 ?_
          exact b_iret (pc := 95) rfl d_BB_would_95 h
        replace h := h.2
        replace h := h c0 c1 c2
        have e0 := lv_neT (a := 0) c0 rfl
        have e1 := lv_neT (a := 1) c1 rfl
        have e2 := lv_neT (a := 2) c2 rfl
        refine a_tableOut (pc := 33) 96 (by omega) (by decide) d_BB_would_33 ?_
        refine a_aload_n (pc := 96) 0 rfl rfl d_BB_would_96 ?_
        refine a_getR (pc := 97) fg_BB_70 sx_0 rfl d_BB_would_97 ?_
        refine a_getI (pc := 100) fg_BB_209 sx_82 rfl d_BB_would_100 ?_
        exact b_iret (pc := 103) rfl d_BB_would_103 h
      · replace h := h.2 c0
        refine a_iconst (pc := 19) (-1 : Int32) (by decide) d_BB_would_19 ?_
        exact b_iret (pc := 20) rfl d_BB_would_20 h
theorem ko_BB_would {g : Gx}  {x1 : Int32} {σ : St} {Q : Int32 → St → Prop} (h : S_BB_would_0 g Q σ x1) : K_BB_would g x1 σ Q := KI.of (show plainName "BallBox" = true by decide) (Nat.le_of_ble_eq_true rfl) h
theorem d_BB_sure_0 : decode c_BB_sure 0 = .ok (.aload_n 0, 1) := by decide +kernel
theorem d_BB_sure_1 : decode c_BB_sure 1 = .ok (.getfield 77, 3) := by decide +kernel
theorem d_BB_sure_4 : decode c_BB_sure 4 = .ok (.getfield 172, 3) := by decide +kernel
theorem d_BB_sure_7 : decode c_BB_sure 7 = .ok (.ifCond .eq 22, 3) := by decide +kernel
theorem d_BB_sure_10 : decode c_BB_sure 10 = .ok (.iload_n 1, 1) := by decide +kernel
theorem d_BB_sure_11 : decode c_BB_sure 11 = .ok (.ifCond .lt 18, 3) := by decide +kernel
theorem d_BB_sure_14 : decode c_BB_sure 14 = .ok (.iload_n 1, 1) := by decide +kernel
theorem d_BB_sure_15 : decode c_BB_sure 15 = .ok (.bipush 100, 2) := by decide +kernel
theorem d_BB_sure_17 : decode c_BB_sure 17 = .ok (.if_icmp .gt 12, 3) := by decide +kernel
theorem d_BB_sure_20 : decode c_BB_sure 20 = .ok (.iload_n 2, 1) := by decide +kernel
theorem d_BB_sure_21 : decode c_BB_sure 21 = .ok (.ifCond .lt 8, 3) := by decide +kernel
theorem d_BB_sure_24 : decode c_BB_sure 24 = .ok (.iload_n 2, 1) := by decide +kernel
theorem d_BB_sure_25 : decode c_BB_sure 25 = .ok (.iconst 1, 1) := by decide +kernel
theorem d_BB_sure_26 : decode c_BB_sure 26 = .ok (.if_icmp .le 7, 3) := by decide +kernel
theorem d_BB_sure_29 : decode c_BB_sure 29 = .ok (.ldc2_w 210, 3) := by decide +kernel
theorem d_BB_sure_32 : decode c_BB_sure 32 = .ok (.lreturn, 1) := by decide +kernel
theorem d_BB_sure_33 : decode c_BB_sure 33 = .ok (.aload_n 0, 1) := by decide +kernel
theorem d_BB_sure_34 : decode c_BB_sure 34 = .ok (.getfield 70, 3) := by decide +kernel
theorem d_BB_sure_37 : decode c_BB_sure 37 = .ok (.aload_n 0, 1) := by decide +kernel
theorem d_BB_sure_38 : decode c_BB_sure 38 = .ok (.getfield 77, 3) := by decide +kernel
theorem d_BB_sure_41 : decode c_BB_sure 41 = .ok (.iload_n 1, 1) := by decide +kernel
theorem d_BB_sure_42 : decode c_BB_sure 42 = .ok (.invokevirtual 212, 3) := by decide +kernel
theorem d_BB_sure_45 : decode c_BB_sure 45 = .ok (.iload_n 2, 1) := by decide +kernel
theorem d_BB_sure_46 : decode c_BB_sure 46 = .ok (.ifCond .ne 13, 3) := by decide +kernel
theorem d_BB_sure_49 : decode c_BB_sure 49 = .ok (.aload_n 0, 1) := by decide +kernel
theorem d_BB_sure_50 : decode c_BB_sure 50 = .ok (.getfield 70, 3) := by decide +kernel
theorem d_BB_sure_53 : decode c_BB_sure 53 = .ok (.getfield 216, 3) := by decide +kernel
theorem d_BB_sure_56 : decode c_BB_sure 56 = .ok (.goto 10, 3) := by decide +kernel
theorem d_BB_sure_59 : decode c_BB_sure 59 = .ok (.aload_n 0, 1) := by decide +kernel
theorem d_BB_sure_60 : decode c_BB_sure 60 = .ok (.getfield 70, 3) := by decide +kernel
theorem d_BB_sure_63 : decode c_BB_sure 63 = .ok (.getfield 220, 3) := by decide +kernel
theorem d_BB_sure_66 : decode c_BB_sure 66 = .ok (.lreturn, 1) := by decide +kernel
def S_BB_sure_0 (g : Gx) (Q : Int64 → St → Prop) (σ : St) (x1 : Int32) (x2 : Int32) : Prop := Ax g m_BB_sure 0 0 (ZJ g Q) SH σ 0 0 0 [(0, .ref (gB g + 0)), (1, .int x1), (2, .int x2)] []
theorem sg_BB_sure_0 {g : Gx} {Q : Int64 → St → Prop} {σ : St} {x1 : Int32} {x2 : Int32}
    (h : ((fi σ 83 1) = 0 → Q (-1 : Int64) σ) ∧ (¬ (fi σ 83 1) = 0 → (x1 < 0 → Q (-1 : Int64) σ) ∧ (¬ x1 < 0 → ((100 : Int32) < x1 → Q (-1 : Int64) σ) ∧ (¬ (100 : Int32) < x1 → (x2 < 0 → Q (-1 : Int64) σ) ∧ (¬ x2 < 0 → (x2 ≤ (1 : Int32) → K_TR_reckonSure g 83 x1 σ (fun s1 : St => (¬ x2 = 0 → Q (fj s1 82 5) s1) ∧ (x2 = 0 → Q (fj s1 82 4) s1))) ∧ (¬ x2 ≤ (1 : Int32) → Q (-1 : Int64) σ)))))) : S_BB_sure_0 g Q σ x1 x2 := by
  show Ax g m_BB_sure 0 0 (ZJ g Q) SH σ 0 0 0 [(0, .ref (gB g + 0)), (1, .int x1), (2, .int x2)] []
  refine a_aload_n (pc := 0) 0 rfl rfl d_BB_sure_0 ?_
  refine a_getR (pc := 1) fg_BB_77 sx_0 rfl d_BB_sure_1 ?_
  refine a_getI (pc := 4) fg_BB_172 sx_83 rfl d_BB_sure_4 ?_
  refine a_if_eq (pc := 7) 29 (by decide) d_BB_sure_7 ⟨fun c0 => ?_, fun c0 => ?_⟩
  · replace h := h.1 c0
    refine a_ldc2 (pc := 29) tw955 d_BB_sure_29 ?_
    exact b_lret (pc := 32) rfl d_BB_sure_32 h
  · replace h := h.2 c0
    refine a_iload_n (pc := 10) 1 rfl rfl d_BB_sure_10 ?_
    refine a_if_lt (pc := 11) 29 (by decide) d_BB_sure_11 ⟨fun c0 => ?_, fun c0 => ?_⟩
    · replace h := h.1 c0
      refine a_ldc2 (pc := 29) tw955 d_BB_sure_29 ?_
      exact b_lret (pc := 32) rfl d_BB_sure_32 h
    · replace h := h.2 c0
      refine a_iload_n (pc := 14) 1 rfl rfl d_BB_sure_14 ?_
      refine a_bipush (pc := 15) (100 : Int32) (by decide) d_BB_sure_15 ?_
      refine a_icmp_gt (pc := 17) 29 (by decide) d_BB_sure_17 ⟨fun c0 => ?_, fun c0 => ?_⟩
      · replace h := h.1 c0
        refine a_ldc2 (pc := 29) tw955 d_BB_sure_29 ?_
        exact b_lret (pc := 32) rfl d_BB_sure_32 h
      · replace h := h.2 c0
        refine a_iload_n (pc := 20) 2 rfl rfl d_BB_sure_20 ?_
        refine a_if_lt (pc := 21) 29 (by decide) d_BB_sure_21 ⟨fun c0 => ?_, fun c0 => ?_⟩
        · replace h := h.1 c0
          refine a_ldc2 (pc := 29) tw955 d_BB_sure_29 ?_
          exact b_lret (pc := 32) rfl d_BB_sure_32 h
        · replace h := h.2 c0
          refine a_iload_n (pc := 24) 2 rfl rfl d_BB_sure_24 ?_
          refine a_iconst (pc := 25) (1 : Int32) (by decide) d_BB_sure_25 ?_
          refine a_icmp_le (pc := 26) 33 (by decide) d_BB_sure_26 ⟨fun c0 => ?_, fun c0 => ?_⟩
          · replace h := h.1 c0
            refine a_aload_n (pc := 33) 0 rfl rfl d_BB_sure_33 ?_
            refine a_getR (pc := 34) fg_BB_70 sx_0 rfl d_BB_sure_34 ?_
            refine a_aload_n (pc := 37) 0 rfl rfl d_BB_sure_37 ?_
            refine a_getR (pc := 38) fg_BB_77 sx_0 rfl d_BB_sure_38 ?_
            refine a_iload_n (pc := 41) 1 rfl rfl d_BB_sure_41 ?_
            refine a_callV (pc := 42) (M' := m_TR_reckonSure) (As := [.ref (gB g + 83), .int x1]) (st := []) (mc' := 0) (ms' := 0) lk_BB_212 rfl sx_82 rfl (by decide) (by decide) rfl (Nat.le_of_ble_eq_true rfl) (Nat.le_refl 0) (Nat.le_refl 0) d_BB_sure_42 h ?_
            rintro _ _ s1 ⟨rfl, rfl, h⟩ -
            show Ax g m_BB_sure 0 0 (ZJ g Q) SH s1 0 0 45 [(0, .ref (gB g + 0)), (1, .int x1), (2, .int x2)] []
            refine a_iload_n (pc := 45) 2 rfl rfl d_BB_sure_45 ?_
            refine a_if_ne (pc := 46) 59 (by decide) d_BB_sure_46 ⟨fun c0 => ?_, fun c0 => ?_⟩
            · replace h := h.1 c0
              refine a_aload_n (pc := 59) 0 rfl rfl d_BB_sure_59 ?_
              refine a_getR (pc := 60) fg_BB_70 sx_0 rfl d_BB_sure_60 ?_
              refine a_getJ (pc := 63) fg_BB_220 sx_82 rfl d_BB_sure_63 ?_
              exact b_lret (pc := 66) rfl d_BB_sure_66 h
            · replace h := h.2 c0
              refine a_aload_n (pc := 49) 0 rfl rfl d_BB_sure_49 ?_
              refine a_getR (pc := 50) fg_BB_70 sx_0 rfl d_BB_sure_50 ?_
              refine a_getJ (pc := 53) fg_BB_216 sx_82 rfl d_BB_sure_53 ?_
              refine a_goto (pc := 56) 66 (by decide) d_BB_sure_56 ?_
              exact b_lret (pc := 66) rfl d_BB_sure_66 h
          · replace h := h.2 c0
            refine a_ldc2 (pc := 29) tw955 d_BB_sure_29 ?_
            exact b_lret (pc := 32) rfl d_BB_sure_32 h
theorem ko_BB_sure {g : Gx}  {x1 : Int32} {x2 : Int32} {σ : St} {Q : Int64 → St → Prop} (h : S_BB_sure_0 g Q σ x1 x2) : K_BB_sure g x1 x2 σ Q := KJ.of (show plainName "BallBox" = true by decide) (Nat.le_of_ble_eq_true rfl) h
theorem d_BB_fewest_0 : decode c_BB_fewest 0 = .ok (.aload_n 0, 1) := by decide +kernel
theorem d_BB_fewest_1 : decode c_BB_fewest 1 = .ok (.getfield 77, 3) := by decide +kernel
theorem d_BB_fewest_4 : decode c_BB_fewest 4 = .ok (.getfield 172, 3) := by decide +kernel
theorem d_BB_fewest_7 : decode c_BB_fewest 7 = .ok (.ifCond .ne 5, 3) := by decide +kernel
theorem d_BB_fewest_10 : decode c_BB_fewest 10 = .ok (.iconst (-1), 1) := by decide +kernel
theorem d_BB_fewest_11 : decode c_BB_fewest 11 = .ok (.ireturn, 1) := by decide +kernel
theorem d_BB_fewest_12 : decode c_BB_fewest 12 = .ok (.aload_n 0, 1) := by decide +kernel
theorem d_BB_fewest_13 : decode c_BB_fewest 13 = .ok (.getfield 42, 3) := by decide +kernel
theorem d_BB_fewest_16 : decode c_BB_fewest 16 = .ok (.aload_n 0, 1) := by decide +kernel
theorem d_BB_fewest_17 : decode c_BB_fewest 17 = .ok (.getfield 77, 3) := by decide +kernel
theorem d_BB_fewest_20 : decode c_BB_fewest 20 = .ok (.aload_n 0, 1) := by decide +kernel
theorem d_BB_fewest_21 : decode c_BB_fewest 21 = .ok (.getfield 111, 3) := by decide +kernel
theorem d_BB_fewest_24 : decode c_BB_fewest 24 = .ok (.invokevirtual 223, 3) := by decide +kernel
theorem d_BB_fewest_27 : decode c_BB_fewest 27 = .ok (.aload_n 0, 1) := by decide +kernel
theorem d_BB_fewest_28 : decode c_BB_fewest 28 = .ok (.getfield 42, 3) := by decide +kernel
theorem d_BB_fewest_31 : decode c_BB_fewest 31 = .ok (.getfield 226, 3) := by decide +kernel
theorem d_BB_fewest_34 : decode c_BB_fewest 34 = .ok (.ireturn, 1) := by decide +kernel
def S_BB_fewest_0 (g : Gx) (Q : Int32 → St → Prop) (σ : St) : Prop := Ax g m_BB_fewest 0 0 (ZI g Q) SH σ 0 0 0 [(0, .ref (gB g + 0))] []
theorem sg_BB_fewest_0 {g : Gx} {Q : Int32 → St → Prop} {σ : St}
    (h : (¬ (fi σ 83 1) = 0 → K_SE_keepUp g 52 83 (fi σ 0 14) σ (fun s1 : St => Q (fi s1 52 7) s1)) ∧ ((fi σ 83 1) = 0 → Q (-1 : Int32) σ)) : S_BB_fewest_0 g Q σ := by
  show Ax g m_BB_fewest 0 0 (ZI g Q) SH σ 0 0 0 [(0, .ref (gB g + 0))] []
  refine a_aload_n (pc := 0) 0 rfl rfl d_BB_fewest_0 ?_
  refine a_getR (pc := 1) fg_BB_77 sx_0 rfl d_BB_fewest_1 ?_
  refine a_getI (pc := 4) fg_BB_172 sx_83 rfl d_BB_fewest_4 ?_
  refine a_if_ne (pc := 7) 12 (by decide) d_BB_fewest_7 ⟨fun c0 => ?_, fun c0 => ?_⟩
  · replace h := h.1 c0
    refine a_aload_n (pc := 12) 0 rfl rfl d_BB_fewest_12 ?_
    refine a_getR (pc := 13) fg_BB_42 sx_0 rfl d_BB_fewest_13 ?_
    refine a_aload_n (pc := 16) 0 rfl rfl d_BB_fewest_16 ?_
    refine a_getR (pc := 17) fg_BB_77 sx_0 rfl d_BB_fewest_17 ?_
    refine a_aload_n (pc := 20) 0 rfl rfl d_BB_fewest_20 ?_
    refine a_getI (pc := 21) fg_BB_111 sx_0 rfl d_BB_fewest_21 ?_
    refine a_callV (pc := 24) (M' := m_SE_keepUp) (As := [.ref (gB g + 83), .int (fi σ 0 14)]) (st := []) (mc' := 0) (ms' := 0) lk_BB_223 rfl sx_52 rfl (by decide) (by decide) rfl (Nat.le_of_ble_eq_true rfl) (Nat.le_refl 0) (Nat.le_refl 0) d_BB_fewest_24 h ?_
    rintro _ _ s1 ⟨rfl, rfl, h⟩ -
    show Ax g m_BB_fewest 0 0 (ZI g Q) SH s1 0 0 27 [(0, .ref (gB g + 0))] []
    refine a_aload_n (pc := 27) 0 rfl rfl d_BB_fewest_27 ?_
    refine a_getR (pc := 28) fg_BB_42 sx_0 rfl d_BB_fewest_28 ?_
    refine a_getI (pc := 31) fg_BB_226 sx_52 rfl d_BB_fewest_31 ?_
    exact b_iret (pc := 34) rfl d_BB_fewest_34 h
  · replace h := h.2 c0
    refine a_iconst (pc := 10) (-1 : Int32) (by decide) d_BB_fewest_10 ?_
    exact b_iret (pc := 11) rfl d_BB_fewest_11 h
theorem ko_BB_fewest {g : Gx}  {σ : St} {Q : Int32 → St → Prop} (h : S_BB_fewest_0 g Q σ) : K_BB_fewest g  σ Q := KI.of (show plainName "BallBox" = true by decide) (Nat.le_of_ble_eq_true rfl) h
theorem d_BB_path_0 : decode c_BB_path 0 = .ok (.aload_n 0, 1) := by decide +kernel
theorem d_BB_path_1 : decode c_BB_path 1 = .ok (.getfield 77, 3) := by decide +kernel
theorem d_BB_path_4 : decode c_BB_path 4 = .ok (.getfield 172, 3) := by decide +kernel
theorem d_BB_path_7 : decode c_BB_path 7 = .ok (.ifCond .eq 7, 3) := by decide +kernel
theorem d_BB_path_10 : decode c_BB_path 10 = .ok (.iload_n 1, 1) := by decide +kernel
theorem d_BB_path_11 : decode c_BB_path 11 = .ok (.ifCond .ge 5, 3) := by decide +kernel
theorem d_BB_path_14 : decode c_BB_path 14 = .ok (.iconst (-1), 1) := by decide +kernel
theorem d_BB_path_15 : decode c_BB_path 15 = .ok (.ireturn, 1) := by decide +kernel
theorem d_BB_path_16 : decode c_BB_path 16 = .ok (.aload_n 0, 1) := by decide +kernel
theorem d_BB_path_17 : decode c_BB_path 17 = .ok (.getfield 42, 3) := by decide +kernel
theorem d_BB_path_20 : decode c_BB_path 20 = .ok (.aload_n 0, 1) := by decide +kernel
theorem d_BB_path_21 : decode c_BB_path 21 = .ok (.getfield 77, 3) := by decide +kernel
theorem d_BB_path_24 : decode c_BB_path 24 = .ok (.aload_n 0, 1) := by decide +kernel
theorem d_BB_path_25 : decode c_BB_path 25 = .ok (.getfield 111, 3) := by decide +kernel
theorem d_BB_path_28 : decode c_BB_path 28 = .ok (.invokevirtual 223, 3) := by decide +kernel
theorem d_BB_path_31 : decode c_BB_path 31 = .ok (.aload_n 0, 1) := by decide +kernel
theorem d_BB_path_32 : decode c_BB_path 32 = .ok (.getfield 42, 3) := by decide +kernel
theorem d_BB_path_35 : decode c_BB_path 35 = .ok (.iload_n 1, 1) := by decide +kernel
theorem d_BB_path_36 : decode c_BB_path 36 = .ok (.invokevirtual 229, 3) := by decide +kernel
theorem d_BB_path_39 : decode c_BB_path 39 = .ok (.ireturn, 1) := by decide +kernel
def S_BB_path_0 (g : Gx) (Q : Int32 → St → Prop) (σ : St) (x1 : Int32) : Prop := Ax g m_BB_path 0 0 (ZI g Q) SH σ 0 0 0 [(0, .ref (gB g + 0)), (1, .int x1)] []
theorem sg_BB_path_0 {g : Gx} {Q : Int32 → St → Prop} {σ : St} {x1 : Int32}
    (h : ((fi σ 83 1) = 0 → Q (-1 : Int32) σ) ∧ (¬ (fi σ 83 1) = 0 → (0 ≤ x1 → K_SE_keepUp g 52 83 (fi σ 0 14) σ (fun s1 : St => K_SE_wayOfPath g 52 x1 s1 (fun (r3 : Int32) (s2 : St) => Q r3 s2))) ∧ (¬ 0 ≤ x1 → Q (-1 : Int32) σ))) : S_BB_path_0 g Q σ x1 := by
  show Ax g m_BB_path 0 0 (ZI g Q) SH σ 0 0 0 [(0, .ref (gB g + 0)), (1, .int x1)] []
  refine a_aload_n (pc := 0) 0 rfl rfl d_BB_path_0 ?_
  refine a_getR (pc := 1) fg_BB_77 sx_0 rfl d_BB_path_1 ?_
  refine a_getI (pc := 4) fg_BB_172 sx_83 rfl d_BB_path_4 ?_
  refine a_if_eq (pc := 7) 14 (by decide) d_BB_path_7 ⟨fun c0 => ?_, fun c0 => ?_⟩
  · replace h := h.1 c0
    refine a_iconst (pc := 14) (-1 : Int32) (by decide) d_BB_path_14 ?_
    exact b_iret (pc := 15) rfl d_BB_path_15 h
  · replace h := h.2 c0
    refine a_iload_n (pc := 10) 1 rfl rfl d_BB_path_10 ?_
    refine a_if_ge (pc := 11) 16 (by decide) d_BB_path_11 ⟨fun c0 => ?_, fun c0 => ?_⟩
    · replace h := h.1 c0
      refine a_aload_n (pc := 16) 0 rfl rfl d_BB_path_16 ?_
      refine a_getR (pc := 17) fg_BB_42 sx_0 rfl d_BB_path_17 ?_
      refine a_aload_n (pc := 20) 0 rfl rfl d_BB_path_20 ?_
      refine a_getR (pc := 21) fg_BB_77 sx_0 rfl d_BB_path_21 ?_
      refine a_aload_n (pc := 24) 0 rfl rfl d_BB_path_24 ?_
      refine a_getI (pc := 25) fg_BB_111 sx_0 rfl d_BB_path_25 ?_
      refine a_callV (pc := 28) (M' := m_SE_keepUp) (As := [.ref (gB g + 83), .int (fi σ 0 14)]) (st := []) (mc' := 0) (ms' := 0) lk_BB_223 rfl sx_52 rfl (by decide) (by decide) rfl (Nat.le_of_ble_eq_true rfl) (Nat.le_refl 0) (Nat.le_refl 0) d_BB_path_28 h ?_
      rintro _ _ s1 ⟨rfl, rfl, h⟩ -
      show Ax g m_BB_path 0 0 (ZI g Q) SH s1 0 0 31 [(0, .ref (gB g + 0)), (1, .int x1)] []
      refine a_aload_n (pc := 31) 0 rfl rfl d_BB_path_31 ?_
      refine a_getR (pc := 32) fg_BB_42 sx_0 rfl d_BB_path_32 ?_
      refine a_iload_n (pc := 35) 1 rfl rfl d_BB_path_35 ?_
      refine a_callV (pc := 36) (M' := m_SE_wayOfPath) (As := [.int x1]) (st := []) (mc' := 0) (ms' := 0) lk_BB_229 rfl sx_52 rfl (by decide) (by decide) rfl (Nat.le_of_ble_eq_true rfl) (Nat.le_refl 0) (Nat.le_refl 0) d_BB_path_36 h ?_
      rintro _ _ s2 ⟨r3, rfl, rfl, h⟩ -
      show Ax g m_BB_path 0 0 (ZI g Q) SH s2 0 0 39 [(0, .ref (gB g + 0)), (1, .int x1)] [.int r3]
      exact b_iret (pc := 39) rfl d_BB_path_39 h
    · replace h := h.2 c0
      refine a_iconst (pc := 14) (-1 : Int32) (by decide) d_BB_path_14 ?_
      exact b_iret (pc := 15) rfl d_BB_path_15 h
theorem ko_BB_path {g : Gx}  {x1 : Int32} {σ : St} {Q : Int32 → St → Prop} (h : S_BB_path_0 g Q σ x1) : K_BB_path g x1 σ Q := KI.of (show plainName "BallBox" = true by decide) (Nat.le_of_ble_eq_true rfl) h
theorem d_BB_blind_0 : decode c_BB_blind 0 = .ok (.iload_n 1, 1) := by decide +kernel
theorem d_BB_blind_1 : decode c_BB_blind 1 = .ok (.ifCond .lt 23, 3) := by decide +kernel
theorem d_BB_blind_4 : decode c_BB_blind 4 = .ok (.iload_n 1, 1) := by decide +kernel
theorem d_BB_blind_5 : decode c_BB_blind 5 = .ok (.bipush 6, 2) := by decide +kernel
theorem d_BB_blind_7 : decode c_BB_blind 7 = .ok (.if_icmp .gt 17, 3) := by decide +kernel
theorem d_BB_blind_10 : decode c_BB_blind 10 = .ok (.iload_n 2, 1) := by decide +kernel
theorem d_BB_blind_11 : decode c_BB_blind 11 = .ok (.ifCond .lt 13, 3) := by decide +kernel
theorem d_BB_blind_14 : decode c_BB_blind 14 = .ok (.iload_n 2, 1) := by decide +kernel
theorem d_BB_blind_15 : decode c_BB_blind 15 = .ok (.bipush 6, 2) := by decide +kernel
theorem d_BB_blind_17 : decode c_BB_blind 17 = .ok (.if_icmp .gt 7, 3) := by decide +kernel
theorem d_BB_blind_20 : decode c_BB_blind 20 = .ok (.iconst 1, 1) := by decide +kernel
theorem d_BB_blind_21 : decode c_BB_blind 21 = .ok (.goto 4, 3) := by decide +kernel
theorem d_BB_blind_24 : decode c_BB_blind 24 = .ok (.iconst 0, 1) := by decide +kernel
theorem d_BB_blind_25 : decode c_BB_blind 25 = .ok (.istore_n 3, 1) := by decide +kernel
theorem d_BB_blind_26 : decode c_BB_blind 26 = .ok (.aload_n 0, 1) := by decide +kernel
theorem d_BB_blind_27 : decode c_BB_blind 27 = .ok (.getfield 77, 3) := by decide +kernel
theorem d_BB_blind_30 : decode c_BB_blind 30 = .ok (.getfield 172, 3) := by decide +kernel
theorem d_BB_blind_33 : decode c_BB_blind 33 = .ok (.ifCond .eq 18, 3) := by decide +kernel
theorem d_BB_blind_36 : decode c_BB_blind 36 = .ok (.aload_n 0, 1) := by decide +kernel
theorem d_BB_blind_37 : decode c_BB_blind 37 = .ok (.getfield 77, 3) := by decide +kernel
theorem d_BB_blind_40 : decode c_BB_blind 40 = .ok (.getfield 114, 3) := by decide +kernel
theorem d_BB_blind_43 : decode c_BB_blind 43 = .ok (.iconst 2, 1) := by decide +kernel
theorem d_BB_blind_44 : decode c_BB_blind 44 = .ok (.if_icmp .gt 7, 3) := by decide +kernel
theorem d_BB_blind_47 : decode c_BB_blind 47 = .ok (.iload_n 3, 1) := by decide +kernel
theorem d_BB_blind_48 : decode c_BB_blind 48 = .ok (.ifCond .ne 5, 3) := by decide +kernel
theorem d_BB_blind_51 : decode c_BB_blind 51 = .ok (.iconst (-1), 1) := by decide +kernel
theorem d_BB_blind_52 : decode c_BB_blind 52 = .ok (.ireturn, 1) := by decide +kernel
theorem d_BB_blind_53 : decode c_BB_blind 53 = .ok (.aload_n 0, 1) := by decide +kernel
theorem d_BB_blind_54 : decode c_BB_blind 54 = .ok (.getfield 56, 3) := by decide +kernel
theorem d_BB_blind_57 : decode c_BB_blind 57 = .ok (.aload_n 0, 1) := by decide +kernel
theorem d_BB_blind_58 : decode c_BB_blind 58 = .ok (.getfield 77, 3) := by decide +kernel
theorem d_BB_blind_61 : decode c_BB_blind 61 = .ok (.aload_n 0, 1) := by decide +kernel
theorem d_BB_blind_62 : decode c_BB_blind 62 = .ok (.getfield 111, 3) := by decide +kernel
theorem d_BB_blind_65 : decode c_BB_blind 65 = .ok (.invokevirtual 232, 3) := by decide +kernel
theorem d_BB_blind_68 : decode c_BB_blind 68 = .ok (.aload_n 0, 1) := by decide +kernel
theorem d_BB_blind_69 : decode c_BB_blind 69 = .ok (.getfield 56, 3) := by decide +kernel
theorem d_BB_blind_72 : decode c_BB_blind 72 = .ok (.iload_n 1, 1) := by decide +kernel
theorem d_BB_blind_73 : decode c_BB_blind 73 = .ok (.invokevirtual 233, 3) := by decide +kernel
theorem d_BB_blind_76 : decode c_BB_blind 76 = .ok (.istore 4, 2) := by decide +kernel
theorem d_BB_blind_78 : decode c_BB_blind 78 = .ok (.iload 4, 2) := by decide +kernel
theorem d_BB_blind_80 : decode c_BB_blind 80 = .ok (.ifCond .ge 6, 3) := by decide +kernel
theorem d_BB_blind_83 : decode c_BB_blind 83 = .ok (.bipush (-2), 2) := by decide +kernel
theorem d_BB_blind_85 : decode c_BB_blind 85 = .ok (.ireturn, 1) := by decide +kernel
theorem d_BB_blind_86 : decode c_BB_blind 86 = .ok (.iload_n 2, 1) := by decide +kernel
theorem d_BB_blind_87 : decode c_BB_blind 87 = .ok (.ifCond .ne 8, 3) := by decide +kernel
theorem d_BB_blind_90 : decode c_BB_blind 90 = .ok (.iload 4, 2) := by decide +kernel
theorem d_BB_blind_92 : decode c_BB_blind 92 = .ok (.goto 13, 3) := by decide +kernel
theorem d_BB_blind_95 : decode c_BB_blind 95 = .ok (.aload_n 0, 1) := by decide +kernel
theorem d_BB_blind_96 : decode c_BB_blind 96 = .ok (.getfield 56, 3) := by decide +kernel
theorem d_BB_blind_99 : decode c_BB_blind 99 = .ok (.iload_n 2, 1) := by decide +kernel
theorem d_BB_blind_100 : decode c_BB_blind 100 = .ok (.iconst 1, 1) := by decide +kernel
theorem d_BB_blind_101 : decode c_BB_blind 101 = .ok (.isub, 1) := by decide +kernel
theorem d_BB_blind_102 : decode c_BB_blind 102 = .ok (.invokevirtual 236, 3) := by decide +kernel
theorem d_BB_blind_105 : decode c_BB_blind 105 = .ok (.ireturn, 1) := by decide +kernel
def S_BB_blind_0 (g : Gx) (Q : Int32 → St → Prop) (σ : St) (x1 : Int32) (x2 : Int32) : Prop := Ax g m_BB_blind 0 0 (ZI g Q) SH σ 0 0 0 [(0, .ref (gB g + 0)), (1, .int x1), (2, .int x2)] []
def S_BB_blind_25 (g : Gx) (Q : Int32 → St → Prop) (σ : St) (x1 : Int32) (x2 : Int32) (z0 : Int32) : Prop := Ax g m_BB_blind 0 0 (ZI g Q) SH σ 0 0 25 [(0, .ref (gB g + 0)), (1, .int x1), (2, .int x2)] [.int z0]
theorem sg_BB_blind_0 {g : Gx} {Q : Int32 → St → Prop} {σ : St} {x1 : Int32} {x2 : Int32}
    (h : (x1 < 0 → S_BB_blind_25 g Q σ x1 x2 (0 : Int32)) ∧ (¬ x1 < 0 → ((6 : Int32) < x1 → S_BB_blind_25 g Q σ x1 x2 (0 : Int32)) ∧ (¬ (6 : Int32) < x1 → (x2 < 0 → S_BB_blind_25 g Q σ x1 x2 (0 : Int32)) ∧ (¬ x2 < 0 → ((6 : Int32) < x2 → S_BB_blind_25 g Q σ x1 x2 (0 : Int32)) ∧ (¬ (6 : Int32) < x2 → S_BB_blind_25 g Q σ x1 x2 (1 : Int32)))))) : S_BB_blind_0 g Q σ x1 x2 := by
  show Ax g m_BB_blind 0 0 (ZI g Q) SH σ 0 0 0 [(0, .ref (gB g + 0)), (1, .int x1), (2, .int x2)] []
  refine a_iload_n (pc := 0) 1 rfl rfl d_BB_blind_0 ?_
  refine a_if_lt (pc := 1) 24 (by decide) d_BB_blind_1 ⟨fun c0 => ?_, fun c0 => ?_⟩
  · replace h := h.1 c0
    refine a_iconst (pc := 24) (0 : Int32) (by decide) d_BB_blind_24 ?_
    refine a_sub (pc := 25) [0, 1, 2] rfl ?_
    exact h
  · replace h := h.2 c0
    refine a_iload_n (pc := 4) 1 rfl rfl d_BB_blind_4 ?_
    refine a_bipush (pc := 5) (6 : Int32) (by decide) d_BB_blind_5 ?_
    refine a_icmp_gt (pc := 7) 24 (by decide) d_BB_blind_7 ⟨fun c0 => ?_, fun c0 => ?_⟩
    · replace h := h.1 c0
      refine a_iconst (pc := 24) (0 : Int32) (by decide) d_BB_blind_24 ?_
      refine a_sub (pc := 25) [0, 1, 2] rfl ?_
      exact h
    · replace h := h.2 c0
      refine a_iload_n (pc := 10) 2 rfl rfl d_BB_blind_10 ?_
      refine a_if_lt (pc := 11) 24 (by decide) d_BB_blind_11 ⟨fun c0 => ?_, fun c0 => ?_⟩
      · replace h := h.1 c0
        refine a_iconst (pc := 24) (0 : Int32) (by decide) d_BB_blind_24 ?_
        refine a_sub (pc := 25) [0, 1, 2] rfl ?_
        exact h
      · replace h := h.2 c0
        refine a_iload_n (pc := 14) 2 rfl rfl d_BB_blind_14 ?_
        refine a_bipush (pc := 15) (6 : Int32) (by decide) d_BB_blind_15 ?_
        refine a_icmp_gt (pc := 17) 24 (by decide) d_BB_blind_17 ⟨fun c0 => ?_, fun c0 => ?_⟩
        · replace h := h.1 c0
          refine a_iconst (pc := 24) (0 : Int32) (by decide) d_BB_blind_24 ?_
          refine a_sub (pc := 25) [0, 1, 2] rfl ?_
          exact h
        · replace h := h.2 c0
          refine a_iconst (pc := 20) (1 : Int32) (by decide) d_BB_blind_20 ?_
          refine a_goto (pc := 21) 25 (by decide) d_BB_blind_21 ?_
          refine a_sub (pc := 25) [0, 1, 2] rfl ?_
          exact h
theorem sg_BB_blind_25 {g : Gx} {Q : Int32 → St → Prop} {σ : St} {x1 : Int32} {x2 : Int32} {z0 : Int32}
    (h : ((fi σ 83 1) = 0 → Q (-1 : Int32) σ) ∧ (¬ (fi σ 83 1) = 0 → ((2 : Int32) < (fi σ 83 4) → Q (-1 : Int32) σ) ∧ (¬ (2 : Int32) < (fi σ 83 4) → (¬ z0 = 0 → K_PA_keepUp g 83 (fi σ 0 14) σ (fun s1 : St => K_PA_blindLength g x1 s1 (fun (r3 : Int32) (s2 : St) => (0 ≤ r3 → (¬ x2 = 0 → K_PA_wayOfBlind g (x2 - (1 : Int32)) s2 (fun (r5 : Int32) (s4 : St) => Q r5 s4)) ∧ (x2 = 0 → Q r3 s2)) ∧ (¬ 0 ≤ r3 → Q (-2 : Int32) s2)))) ∧ (z0 = 0 → Q (-1 : Int32) σ)))) : S_BB_blind_25 g Q σ x1 x2 z0 := by
  show Ax g m_BB_blind 0 0 (ZI g Q) SH σ 0 0 25 [(0, .ref (gB g + 0)), (1, .int x1), (2, .int x2)] [.int z0]
  refine a_istore_n (pc := 25) (lv' := [(3, .int z0), (0, .ref (gB g + 0)), (1, .int x1), (2, .int x2)]) rfl (Nat.le_of_ble_eq_true rfl) rfl d_BB_blind_25 ?_
  refine a_aload_n (pc := 26) 1 rfl rfl d_BB_blind_26 ?_
  refine a_getR (pc := 27) fg_BB_77 sx_0 rfl d_BB_blind_27 ?_
  refine a_getI (pc := 30) fg_BB_172 sx_83 rfl d_BB_blind_30 ?_
  refine a_if_eq (pc := 33) 51 (by decide) d_BB_blind_33 ⟨fun c0 => ?_, fun c0 => ?_⟩
  · replace h := h.1 c0
    refine a_iconst (pc := 51) (-1 : Int32) (by decide) d_BB_blind_51 ?_
    exact b_iret (pc := 52) rfl d_BB_blind_52 h
  · replace h := h.2 c0
    refine a_aload_n (pc := 36) 1 rfl rfl d_BB_blind_36 ?_
    refine a_getR (pc := 37) fg_BB_77 sx_0 rfl d_BB_blind_37 ?_
    refine a_getI (pc := 40) fg_BB_114 sx_83 rfl d_BB_blind_40 ?_
    refine a_iconst (pc := 43) (2 : Int32) (by decide) d_BB_blind_43 ?_
    refine a_icmp_gt (pc := 44) 51 (by decide) d_BB_blind_44 ⟨fun c0 => ?_, fun c0 => ?_⟩
    · replace h := h.1 c0
      refine a_iconst (pc := 51) (-1 : Int32) (by decide) d_BB_blind_51 ?_
      exact b_iret (pc := 52) rfl d_BB_blind_52 h
    · replace h := h.2 c0
      refine a_iload_n (pc := 47) 0 rfl rfl d_BB_blind_47 ?_
      refine a_if_ne (pc := 48) 53 (by decide) d_BB_blind_48 ⟨fun c0 => ?_, fun c0 => ?_⟩
      · replace h := h.1 c0
        refine a_aload_n (pc := 53) 1 rfl rfl d_BB_blind_53 ?_
        refine a_getR (pc := 54) fg_BB_56 sx_0 rfl d_BB_blind_54 ?_
        refine a_aload_n (pc := 57) 1 rfl rfl d_BB_blind_57 ?_
        refine a_getR (pc := 58) fg_BB_77 sx_0 rfl d_BB_blind_58 ?_
        refine a_aload_n (pc := 61) 1 rfl rfl d_BB_blind_61 ?_
        refine a_getI (pc := 62) fg_BB_111 sx_0 rfl d_BB_blind_62 ?_
        refine a_callV (pc := 65) (M' := m_PA_keepUp) (As := [.ref (gB g + 83), .int (fi σ 0 14)]) (st := []) (mc' := 0) (ms' := 0) lk_BB_232 rfl sx_69 rfl (by decide) (by decide) rfl (Nat.le_of_ble_eq_true rfl) (Nat.le_refl 0) (Nat.le_refl 0) d_BB_blind_65 h ?_
        rintro _ _ s1 ⟨rfl, rfl, h⟩ -
        show Ax g m_BB_blind 0 0 (ZI g Q) SH s1 0 0 68 [(3, .int z0), (0, .ref (gB g + 0)), (1, .int x1), (2, .int x2)] []
        refine a_aload_n (pc := 68) 1 rfl rfl d_BB_blind_68 ?_
        refine a_getR (pc := 69) fg_BB_56 sx_0 rfl d_BB_blind_69 ?_
        refine a_iload_n (pc := 72) 2 rfl rfl d_BB_blind_72 ?_
        refine a_callV (pc := 73) (M' := m_PA_blindLength) (As := [.int x1]) (st := []) (mc' := 0) (ms' := 0) lk_BB_233 rfl sx_69 rfl (by decide) (by decide) rfl (Nat.le_of_ble_eq_true rfl) (Nat.le_refl 0) (Nat.le_refl 0) d_BB_blind_73 h ?_
        rintro _ _ s2 ⟨r3, rfl, rfl, h⟩ -
        show Ax g m_BB_blind 0 0 (ZI g Q) SH s2 0 0 76 [(3, .int z0), (0, .ref (gB g + 0)), (1, .int x1), (2, .int x2)] [.int r3]
        refine a_istore (pc := 76) (lv' := [(4, .int r3), (3, .int z0), (0, .ref (gB g + 0)), (1, .int x1), (2, .int x2)]) (Nat.le_of_ble_eq_true rfl) rfl d_BB_blind_76 ?_
        refine a_iload (pc := 78) 0 rfl d_BB_blind_78 ?_
        refine a_if_ge (pc := 80) 86 (by decide) d_BB_blind_80 ⟨fun c0 => ?_, fun c0 => ?_⟩
        · replace h := h.1 c0
          refine a_iload_n (pc := 86) 4 rfl rfl d_BB_blind_86 ?_
          refine a_if_ne (pc := 87) 95 (by decide) d_BB_blind_87 ⟨fun c0 => ?_, fun c0 => ?_⟩
          · replace h := h.1 c0
            refine a_aload_n (pc := 95) 2 rfl rfl d_BB_blind_95 ?_
            refine a_getR (pc := 96) fg_BB_56 sx_0 rfl d_BB_blind_96 ?_
            refine a_iload_n (pc := 99) 4 rfl rfl d_BB_blind_99 ?_
            refine a_iconst (pc := 100) (1 : Int32) (by decide) d_BB_blind_100 ?_
            refine a_isub (pc := 101) d_BB_blind_101 ?_
            refine a_callV (pc := 102) (M' := m_PA_wayOfBlind) (As := [.int (x2 - (1 : Int32))]) (st := []) (mc' := 0) (ms' := 0) lk_BB_236 rfl sx_69 rfl (by decide) (by decide) rfl (Nat.le_of_ble_eq_true rfl) (Nat.le_refl 0) (Nat.le_refl 0) d_BB_blind_102 h ?_
            rintro _ _ s4 ⟨r5, rfl, rfl, h⟩ -
            show Ax g m_BB_blind 0 0 (ZI g Q) SH s4 0 0 105 [(4, .int r3), (3, .int z0), (0, .ref (gB g + 0)), (1, .int x1), (2, .int x2)] [.int r5]
            exact b_iret (pc := 105) rfl d_BB_blind_105 h
          · replace h := h.2 c0
            refine a_iload (pc := 90) 0 rfl d_BB_blind_90 ?_
            refine a_goto (pc := 92) 105 (by decide) d_BB_blind_92 ?_
            exact b_iret (pc := 105) rfl d_BB_blind_105 h
        · replace h := h.2 c0
          refine a_bipush (pc := 83) (-2 : Int32) (by decide) d_BB_blind_83 ?_
          exact b_iret (pc := 85) rfl d_BB_blind_85 h
      · replace h := h.2 c0
        refine a_iconst (pc := 51) (-1 : Int32) (by decide) d_BB_blind_51 ?_
        exact b_iret (pc := 52) rfl d_BB_blind_52 h
theorem ko_BB_blind {g : Gx}  {x1 : Int32} {x2 : Int32} {σ : St} {Q : Int32 → St → Prop} (h : S_BB_blind_0 g Q σ x1 x2) : K_BB_blind g x1 x2 σ Q := KI.of (show plainName "BallBox" = true by decide) (Nat.le_of_ble_eq_true rfl) h
theorem d_BB_chipped_0 : decode c_BB_chipped 0 = .ok (.aload_n 0, 1) := by decide +kernel
theorem d_BB_chipped_1 : decode c_BB_chipped 1 = .ok (.getfield 77, 3) := by decide +kernel
theorem d_BB_chipped_4 : decode c_BB_chipped 4 = .ok (.getfield 172, 3) := by decide +kernel
theorem d_BB_chipped_7 : decode c_BB_chipped 7 = .ok (.ifCond .eq 12, 3) := by decide +kernel
theorem d_BB_chipped_10 : decode c_BB_chipped 10 = .ok (.iload_n 1, 1) := by decide +kernel
theorem d_BB_chipped_11 : decode c_BB_chipped 11 = .ok (.ifCond .lt 8, 3) := by decide +kernel
theorem d_BB_chipped_14 : decode c_BB_chipped 14 = .ok (.iload_n 1, 1) := by decide +kernel
theorem d_BB_chipped_15 : decode c_BB_chipped 15 = .ok (.iconst 2, 1) := by decide +kernel
theorem d_BB_chipped_16 : decode c_BB_chipped 16 = .ok (.if_icmp .le 5, 3) := by decide +kernel
theorem d_BB_chipped_19 : decode c_BB_chipped 19 = .ok (.iconst (-1), 1) := by decide +kernel
theorem d_BB_chipped_20 : decode c_BB_chipped 20 = .ok (.ireturn, 1) := by decide +kernel
theorem d_BB_chipped_21 : decode c_BB_chipped 21 = .ok (.aload_n 0, 1) := by decide +kernel
theorem d_BB_chipped_22 : decode c_BB_chipped 22 = .ok (.getfield 49, 3) := by decide +kernel
theorem d_BB_chipped_25 : decode c_BB_chipped 25 = .ok (.aload_n 0, 1) := by decide +kernel
theorem d_BB_chipped_26 : decode c_BB_chipped 26 = .ok (.getfield 77, 3) := by decide +kernel
theorem d_BB_chipped_29 : decode c_BB_chipped 29 = .ok (.aload_n 0, 1) := by decide +kernel
theorem d_BB_chipped_30 : decode c_BB_chipped 30 = .ok (.getfield 111, 3) := by decide +kernel
theorem d_BB_chipped_33 : decode c_BB_chipped 33 = .ok (.iconst 0, 1) := by decide +kernel
theorem d_BB_chipped_34 : decode c_BB_chipped 34 = .ok (.invokevirtual 239, 3) := by decide +kernel
theorem d_BB_chipped_37 : decode c_BB_chipped 37 = .ok (.aload_n 0, 1) := by decide +kernel
theorem d_BB_chipped_38 : decode c_BB_chipped 38 = .ok (.getfield 49, 3) := by decide +kernel
theorem d_BB_chipped_41 : decode c_BB_chipped 41 = .ok (.iconst 0, 1) := by decide +kernel
theorem d_BB_chipped_42 : decode c_BB_chipped 42 = .ok (.iload_n 1, 1) := by decide +kernel
theorem d_BB_chipped_43 : decode c_BB_chipped 43 = .ok (.invokevirtual 242, 3) := by decide +kernel
theorem d_BB_chipped_46 : decode c_BB_chipped 46 = .ok (.ireturn, 1) := by decide +kernel
def S_BB_chipped_0 (g : Gx) (Q : Int32 → St → Prop) (σ : St) (x1 : Int32) : Prop := Ax g m_BB_chipped 0 0 (ZI g Q) SH σ 0 0 0 [(0, .ref (gB g + 0)), (1, .int x1)] []
theorem sg_BB_chipped_0 {g : Gx} {Q : Int32 → St → Prop} {σ : St} {x1 : Int32}
    (h : ((fi σ 83 1) = 0 → Q (-1 : Int32) σ) ∧ (¬ (fi σ 83 1) = 0 → (x1 < 0 → Q (-1 : Int32) σ) ∧ (¬ x1 < 0 → (x1 ≤ (2 : Int32) → K_CA_keepUp g 83 (fi σ 0 14) (0 : Int32) σ (fun s1 : St => K_CA_answer g (0 : Int32) x1 s1 (fun (r3 : Int32) (s2 : St) => Q r3 s2))) ∧ (¬ x1 ≤ (2 : Int32) → Q (-1 : Int32) σ)))) : S_BB_chipped_0 g Q σ x1 := by
  show Ax g m_BB_chipped 0 0 (ZI g Q) SH σ 0 0 0 [(0, .ref (gB g + 0)), (1, .int x1)] []
  refine a_aload_n (pc := 0) 0 rfl rfl d_BB_chipped_0 ?_
  refine a_getR (pc := 1) fg_BB_77 sx_0 rfl d_BB_chipped_1 ?_
  refine a_getI (pc := 4) fg_BB_172 sx_83 rfl d_BB_chipped_4 ?_
  refine a_if_eq (pc := 7) 19 (by decide) d_BB_chipped_7 ⟨fun c0 => ?_, fun c0 => ?_⟩
  · replace h := h.1 c0
    refine a_iconst (pc := 19) (-1 : Int32) (by decide) d_BB_chipped_19 ?_
    exact b_iret (pc := 20) rfl d_BB_chipped_20 h
  · replace h := h.2 c0
    refine a_iload_n (pc := 10) 1 rfl rfl d_BB_chipped_10 ?_
    refine a_if_lt (pc := 11) 19 (by decide) d_BB_chipped_11 ⟨fun c0 => ?_, fun c0 => ?_⟩
    · replace h := h.1 c0
      refine a_iconst (pc := 19) (-1 : Int32) (by decide) d_BB_chipped_19 ?_
      exact b_iret (pc := 20) rfl d_BB_chipped_20 h
    · replace h := h.2 c0
      refine a_iload_n (pc := 14) 1 rfl rfl d_BB_chipped_14 ?_
      refine a_iconst (pc := 15) (2 : Int32) (by decide) d_BB_chipped_15 ?_
      refine a_icmp_le (pc := 16) 21 (by decide) d_BB_chipped_16 ⟨fun c0 => ?_, fun c0 => ?_⟩
      · replace h := h.1 c0
        refine a_aload_n (pc := 21) 0 rfl rfl d_BB_chipped_21 ?_
        refine a_getR (pc := 22) fg_BB_49 sx_0 rfl d_BB_chipped_22 ?_
        refine a_aload_n (pc := 25) 0 rfl rfl d_BB_chipped_25 ?_
        refine a_getR (pc := 26) fg_BB_77 sx_0 rfl d_BB_chipped_26 ?_
        refine a_aload_n (pc := 29) 0 rfl rfl d_BB_chipped_29 ?_
        refine a_getI (pc := 30) fg_BB_111 sx_0 rfl d_BB_chipped_30 ?_
        refine a_iconst (pc := 33) (0 : Int32) (by decide) d_BB_chipped_33 ?_
        refine a_callV (pc := 34) (M' := m_CA_keepUp) (As := [.ref (gB g + 83), .int (fi σ 0 14), .int (0 : Int32)]) (st := []) (mc' := 0) (ms' := 0) lk_BB_239 rfl sx_56 rfl (by decide) (by decide) rfl (Nat.le_of_ble_eq_true rfl) (Nat.le_refl 0) (Nat.le_refl 0) d_BB_chipped_34 h ?_
        rintro _ _ s1 ⟨rfl, rfl, h⟩ -
        show Ax g m_BB_chipped 0 0 (ZI g Q) SH s1 0 0 37 [(0, .ref (gB g + 0)), (1, .int x1)] []
        refine a_aload_n (pc := 37) 0 rfl rfl d_BB_chipped_37 ?_
        refine a_getR (pc := 38) fg_BB_49 sx_0 rfl d_BB_chipped_38 ?_
        refine a_iconst (pc := 41) (0 : Int32) (by decide) d_BB_chipped_41 ?_
        refine a_iload_n (pc := 42) 1 rfl rfl d_BB_chipped_42 ?_
        refine a_callV (pc := 43) (M' := m_CA_answer) (As := [.int (0 : Int32), .int x1]) (st := []) (mc' := 0) (ms' := 0) lk_BB_242 rfl sx_56 rfl (by decide) (by decide) rfl (Nat.le_of_ble_eq_true rfl) (Nat.le_refl 0) (Nat.le_refl 0) d_BB_chipped_43 h ?_
        rintro _ _ s2 ⟨r3, rfl, rfl, h⟩ -
        show Ax g m_BB_chipped 0 0 (ZI g Q) SH s2 0 0 46 [(0, .ref (gB g + 0)), (1, .int x1)] [.int r3]
        exact b_iret (pc := 46) rfl d_BB_chipped_46 h
      · replace h := h.2 c0
        refine a_iconst (pc := 19) (-1 : Int32) (by decide) d_BB_chipped_19 ?_
        exact b_iret (pc := 20) rfl d_BB_chipped_20 h
theorem ko_BB_chipped {g : Gx}  {x1 : Int32} {σ : St} {Q : Int32 → St → Prop} (h : S_BB_chipped_0 g Q σ x1) : K_BB_chipped g x1 σ Q := KI.of (show plainName "BallBox" = true by decide) (Nat.le_of_ble_eq_true rfl) h
theorem d_BB_walled_0 : decode c_BB_walled 0 = .ok (.aload_n 0, 1) := by decide +kernel
theorem d_BB_walled_1 : decode c_BB_walled 1 = .ok (.getfield 77, 3) := by decide +kernel
theorem d_BB_walled_4 : decode c_BB_walled 4 = .ok (.getfield 172, 3) := by decide +kernel
theorem d_BB_walled_7 : decode c_BB_walled 7 = .ok (.ifCond .eq 12, 3) := by decide +kernel
theorem d_BB_walled_10 : decode c_BB_walled 10 = .ok (.iload_n 1, 1) := by decide +kernel
theorem d_BB_walled_11 : decode c_BB_walled 11 = .ok (.ifCond .lt 8, 3) := by decide +kernel
theorem d_BB_walled_14 : decode c_BB_walled 14 = .ok (.iload_n 1, 1) := by decide +kernel
theorem d_BB_walled_15 : decode c_BB_walled 15 = .ok (.iconst 2, 1) := by decide +kernel
theorem d_BB_walled_16 : decode c_BB_walled 16 = .ok (.if_icmp .le 5, 3) := by decide +kernel
theorem d_BB_walled_19 : decode c_BB_walled 19 = .ok (.iconst (-1), 1) := by decide +kernel
theorem d_BB_walled_20 : decode c_BB_walled 20 = .ok (.ireturn, 1) := by decide +kernel
theorem d_BB_walled_21 : decode c_BB_walled 21 = .ok (.aload_n 0, 1) := by decide +kernel
theorem d_BB_walled_22 : decode c_BB_walled 22 = .ok (.getfield 49, 3) := by decide +kernel
theorem d_BB_walled_25 : decode c_BB_walled 25 = .ok (.aload_n 0, 1) := by decide +kernel
theorem d_BB_walled_26 : decode c_BB_walled 26 = .ok (.getfield 77, 3) := by decide +kernel
theorem d_BB_walled_29 : decode c_BB_walled 29 = .ok (.aload_n 0, 1) := by decide +kernel
theorem d_BB_walled_30 : decode c_BB_walled 30 = .ok (.getfield 111, 3) := by decide +kernel
theorem d_BB_walled_33 : decode c_BB_walled 33 = .ok (.iconst 1, 1) := by decide +kernel
theorem d_BB_walled_34 : decode c_BB_walled 34 = .ok (.invokevirtual 239, 3) := by decide +kernel
theorem d_BB_walled_37 : decode c_BB_walled 37 = .ok (.aload_n 0, 1) := by decide +kernel
theorem d_BB_walled_38 : decode c_BB_walled 38 = .ok (.getfield 49, 3) := by decide +kernel
theorem d_BB_walled_41 : decode c_BB_walled 41 = .ok (.iconst 1, 1) := by decide +kernel
theorem d_BB_walled_42 : decode c_BB_walled 42 = .ok (.iload_n 1, 1) := by decide +kernel
theorem d_BB_walled_43 : decode c_BB_walled 43 = .ok (.invokevirtual 242, 3) := by decide +kernel
theorem d_BB_walled_46 : decode c_BB_walled 46 = .ok (.ireturn, 1) := by decide +kernel
def S_BB_walled_0 (g : Gx) (Q : Int32 → St → Prop) (σ : St) (x1 : Int32) : Prop := Ax g m_BB_walled 0 0 (ZI g Q) SH σ 0 0 0 [(0, .ref (gB g + 0)), (1, .int x1)] []
theorem sg_BB_walled_0 {g : Gx} {Q : Int32 → St → Prop} {σ : St} {x1 : Int32}
    (h : ((fi σ 83 1) = 0 → Q (-1 : Int32) σ) ∧ (¬ (fi σ 83 1) = 0 → (x1 < 0 → Q (-1 : Int32) σ) ∧ (¬ x1 < 0 → (x1 ≤ (2 : Int32) → K_CA_keepUp g 83 (fi σ 0 14) (1 : Int32) σ (fun s1 : St => K_CA_answer g (1 : Int32) x1 s1 (fun (r3 : Int32) (s2 : St) => Q r3 s2))) ∧ (¬ x1 ≤ (2 : Int32) → Q (-1 : Int32) σ)))) : S_BB_walled_0 g Q σ x1 := by
  show Ax g m_BB_walled 0 0 (ZI g Q) SH σ 0 0 0 [(0, .ref (gB g + 0)), (1, .int x1)] []
  refine a_aload_n (pc := 0) 0 rfl rfl d_BB_walled_0 ?_
  refine a_getR (pc := 1) fg_BB_77 sx_0 rfl d_BB_walled_1 ?_
  refine a_getI (pc := 4) fg_BB_172 sx_83 rfl d_BB_walled_4 ?_
  refine a_if_eq (pc := 7) 19 (by decide) d_BB_walled_7 ⟨fun c0 => ?_, fun c0 => ?_⟩
  · replace h := h.1 c0
    refine a_iconst (pc := 19) (-1 : Int32) (by decide) d_BB_walled_19 ?_
    exact b_iret (pc := 20) rfl d_BB_walled_20 h
  · replace h := h.2 c0
    refine a_iload_n (pc := 10) 1 rfl rfl d_BB_walled_10 ?_
    refine a_if_lt (pc := 11) 19 (by decide) d_BB_walled_11 ⟨fun c0 => ?_, fun c0 => ?_⟩
    · replace h := h.1 c0
      refine a_iconst (pc := 19) (-1 : Int32) (by decide) d_BB_walled_19 ?_
      exact b_iret (pc := 20) rfl d_BB_walled_20 h
    · replace h := h.2 c0
      refine a_iload_n (pc := 14) 1 rfl rfl d_BB_walled_14 ?_
      refine a_iconst (pc := 15) (2 : Int32) (by decide) d_BB_walled_15 ?_
      refine a_icmp_le (pc := 16) 21 (by decide) d_BB_walled_16 ⟨fun c0 => ?_, fun c0 => ?_⟩
      · replace h := h.1 c0
        refine a_aload_n (pc := 21) 0 rfl rfl d_BB_walled_21 ?_
        refine a_getR (pc := 22) fg_BB_49 sx_0 rfl d_BB_walled_22 ?_
        refine a_aload_n (pc := 25) 0 rfl rfl d_BB_walled_25 ?_
        refine a_getR (pc := 26) fg_BB_77 sx_0 rfl d_BB_walled_26 ?_
        refine a_aload_n (pc := 29) 0 rfl rfl d_BB_walled_29 ?_
        refine a_getI (pc := 30) fg_BB_111 sx_0 rfl d_BB_walled_30 ?_
        refine a_iconst (pc := 33) (1 : Int32) (by decide) d_BB_walled_33 ?_
        refine a_callV (pc := 34) (M' := m_CA_keepUp) (As := [.ref (gB g + 83), .int (fi σ 0 14), .int (1 : Int32)]) (st := []) (mc' := 0) (ms' := 0) lk_BB_239 rfl sx_56 rfl (by decide) (by decide) rfl (Nat.le_of_ble_eq_true rfl) (Nat.le_refl 0) (Nat.le_refl 0) d_BB_walled_34 h ?_
        rintro _ _ s1 ⟨rfl, rfl, h⟩ -
        show Ax g m_BB_walled 0 0 (ZI g Q) SH s1 0 0 37 [(0, .ref (gB g + 0)), (1, .int x1)] []
        refine a_aload_n (pc := 37) 0 rfl rfl d_BB_walled_37 ?_
        refine a_getR (pc := 38) fg_BB_49 sx_0 rfl d_BB_walled_38 ?_
        refine a_iconst (pc := 41) (1 : Int32) (by decide) d_BB_walled_41 ?_
        refine a_iload_n (pc := 42) 1 rfl rfl d_BB_walled_42 ?_
        refine a_callV (pc := 43) (M' := m_CA_answer) (As := [.int (1 : Int32), .int x1]) (st := []) (mc' := 0) (ms' := 0) lk_BB_242 rfl sx_56 rfl (by decide) (by decide) rfl (Nat.le_of_ble_eq_true rfl) (Nat.le_refl 0) (Nat.le_refl 0) d_BB_walled_43 h ?_
        rintro _ _ s2 ⟨r3, rfl, rfl, h⟩ -
        show Ax g m_BB_walled 0 0 (ZI g Q) SH s2 0 0 46 [(0, .ref (gB g + 0)), (1, .int x1)] [.int r3]
        exact b_iret (pc := 46) rfl d_BB_walled_46 h
      · replace h := h.2 c0
        refine a_iconst (pc := 19) (-1 : Int32) (by decide) d_BB_walled_19 ?_
        exact b_iret (pc := 20) rfl d_BB_walled_20 h
theorem ko_BB_walled {g : Gx}  {x1 : Int32} {σ : St} {Q : Int32 → St → Prop} (h : S_BB_walled_0 g Q σ x1) : K_BB_walled g x1 σ Q := KI.of (show plainName "BallBox" = true by decide) (Nat.le_of_ble_eq_true rfl) h
theorem d_BB_hardest_0 : decode c_BB_hardest 0 = .ok (.aload_n 0, 1) := by decide +kernel
theorem d_BB_hardest_1 : decode c_BB_hardest 1 = .ok (.getfield 77, 3) := by decide +kernel
theorem d_BB_hardest_4 : decode c_BB_hardest 4 = .ok (.getfield 172, 3) := by decide +kernel
theorem d_BB_hardest_7 : decode c_BB_hardest 7 = .ok (.ifCond .eq 23, 3) := by decide +kernel
theorem d_BB_hardest_10 : decode c_BB_hardest 10 = .ok (.aload_n 0, 1) := by decide +kernel
theorem d_BB_hardest_11 : decode c_BB_hardest 11 = .ok (.getfield 77, 3) := by decide +kernel
theorem d_BB_hardest_14 : decode c_BB_hardest 14 = .ok (.getfield 114, 3) := by decide +kernel
theorem d_BB_hardest_17 : decode c_BB_hardest 17 = .ok (.iconst 2, 1) := by decide +kernel
theorem d_BB_hardest_18 : decode c_BB_hardest 18 = .ok (.if_icmp .gt 12, 3) := by decide +kernel
theorem d_BB_hardest_21 : decode c_BB_hardest 21 = .ok (.iload_n 1, 1) := by decide +kernel
theorem d_BB_hardest_22 : decode c_BB_hardest 22 = .ok (.ifCond .lt 8, 3) := by decide +kernel
theorem d_BB_hardest_25 : decode c_BB_hardest 25 = .ok (.iload_n 1, 1) := by decide +kernel
theorem d_BB_hardest_26 : decode c_BB_hardest 26 = .ok (.iconst 2, 1) := by decide +kernel
theorem d_BB_hardest_27 : decode c_BB_hardest 27 = .ok (.if_icmp .le 5, 3) := by decide +kernel
theorem d_BB_hardest_30 : decode c_BB_hardest 30 = .ok (.iconst (-1), 1) := by decide +kernel
theorem d_BB_hardest_31 : decode c_BB_hardest 31 = .ok (.ireturn, 1) := by decide +kernel
theorem d_BB_hardest_32 : decode c_BB_hardest 32 = .ok (.aload_n 0, 1) := by decide +kernel
theorem d_BB_hardest_33 : decode c_BB_hardest 33 = .ok (.getfield 56, 3) := by decide +kernel
theorem d_BB_hardest_36 : decode c_BB_hardest 36 = .ok (.aload_n 0, 1) := by decide +kernel
theorem d_BB_hardest_37 : decode c_BB_hardest 37 = .ok (.getfield 77, 3) := by decide +kernel
theorem d_BB_hardest_40 : decode c_BB_hardest 40 = .ok (.aload_n 0, 1) := by decide +kernel
theorem d_BB_hardest_41 : decode c_BB_hardest 41 = .ok (.getfield 111, 3) := by decide +kernel
theorem d_BB_hardest_44 : decode c_BB_hardest 44 = .ok (.invokevirtual 232, 3) := by decide +kernel
theorem d_BB_hardest_47 : decode c_BB_hardest 47 = .ok (.iload_n 1, 1) := by decide +kernel
theorem d_BB_hardest_48 : decode c_BB_hardest 48 = .ok (.ifCond .eq 13, 3) := by decide +kernel
theorem d_BB_hardest_51 : decode c_BB_hardest 51 = .ok (.aload_n 0, 1) := by decide +kernel
theorem d_BB_hardest_52 : decode c_BB_hardest 52 = .ok (.getfield 56, 3) := by decide +kernel
theorem d_BB_hardest_55 : decode c_BB_hardest 55 = .ok (.getfield 245, 3) := by decide +kernel
theorem d_BB_hardest_58 : decode c_BB_hardest 58 = .ok (.ifCond .ge 11, 3) := by decide +kernel
theorem d_BB_hardest_61 : decode c_BB_hardest 61 = .ok (.aload_n 0, 1) := by decide +kernel
theorem d_BB_hardest_62 : decode c_BB_hardest 62 = .ok (.getfield 56, 3) := by decide +kernel
theorem d_BB_hardest_65 : decode c_BB_hardest 65 = .ok (.getfield 245, 3) := by decide +kernel
theorem d_BB_hardest_68 : decode c_BB_hardest 68 = .ok (.ireturn, 1) := by decide +kernel
theorem d_BB_hardest_69 : decode c_BB_hardest 69 = .ok (.iload_n 1, 1) := by decide +kernel
theorem d_BB_hardest_70 : decode c_BB_hardest 70 = .ok (.aload_n 0, 1) := by decide +kernel
theorem d_BB_hardest_71 : decode c_BB_hardest 71 = .ok (.getfield 77, 3) := by decide +kernel
theorem d_BB_hardest_74 : decode c_BB_hardest 74 = .ok (.getfield 114, 3) := by decide +kernel
theorem d_BB_hardest_77 : decode c_BB_hardest 77 = .ok (.if_icmp .le 8, 3) := by decide +kernel
theorem d_BB_hardest_80 : decode c_BB_hardest 80 = .ok (.bipush (-2), 2) := by decide +kernel
theorem d_BB_hardest_82 : decode c_BB_hardest 82 = .ok (.goto 16, 3) := by decide +kernel
theorem d_BB_hardest_85 : decode c_BB_hardest 85 = .ok (.aload_n 0, 1) := by decide +kernel
theorem d_BB_hardest_86 : decode c_BB_hardest 86 = .ok (.getfield 56, 3) := by decide +kernel
theorem d_BB_hardest_89 : decode c_BB_hardest 89 = .ok (.getfield 248, 3) := by decide +kernel
theorem d_BB_hardest_92 : decode c_BB_hardest 92 = .ok (.iload_n 1, 1) := by decide +kernel
theorem d_BB_hardest_93 : decode c_BB_hardest 93 = .ok (.iconst 1, 1) := by decide +kernel
theorem d_BB_hardest_94 : decode c_BB_hardest 94 = .ok (.isub, 1) := by decide +kernel
theorem d_BB_hardest_95 : decode c_BB_hardest 95 = .ok (.invokestatic 251, 3) := by decide +kernel
theorem d_BB_hardest_98 : decode c_BB_hardest 98 = .ok (.ireturn, 1) := by decide +kernel
def S_BB_hardest_0 (g : Gx) (Q : Int32 → St → Prop) (σ : St) (x1 : Int32) : Prop := Ax g m_BB_hardest 0 0 (ZI g Q) SH σ 0 0 0 [(0, .ref (gB g + 0)), (1, .int x1)] []
theorem sg_BB_hardest_0 {g : Gx} {Q : Int32 → St → Prop} {σ : St} {x1 : Int32}
    (h : ((fi σ 83 1) = 0 → Q (-1 : Int32) σ) ∧ (¬ (fi σ 83 1) = 0 → ((2 : Int32) < (fi σ 83 4) → Q (-1 : Int32) σ) ∧ (¬ (2 : Int32) < (fi σ 83 4) → (x1 < 0 → Q (-1 : Int32) σ) ∧ (¬ x1 < 0 → (x1 ≤ (2 : Int32) → K_PA_keepUp g 83 (fi σ 0 14) σ (fun s1 : St => (x1 = 0 → Q (fi s1 69 14) s1) ∧ (¬ x1 = 0 → (0 ≤ (fi s1 69 14) → (x1 ≤ (fi s1 83 4) → K_SA_numberIn g (fi s1 69 15) (x1 - (1 : Int32)) s1 (fun (r3 : Int32) (s2 : St) => Q r3 s2)) ∧ (¬ x1 ≤ (fi s1 83 4) → Q (-2 : Int32) s1)) ∧ (¬ 0 ≤ (fi s1 69 14) → Q (fi s1 69 14) s1)))) ∧ (¬ x1 ≤ (2 : Int32) → Q (-1 : Int32) σ))))) : S_BB_hardest_0 g Q σ x1 := by
  show Ax g m_BB_hardest 0 0 (ZI g Q) SH σ 0 0 0 [(0, .ref (gB g + 0)), (1, .int x1)] []
  refine a_aload_n (pc := 0) 0 rfl rfl d_BB_hardest_0 ?_
  refine a_getR (pc := 1) fg_BB_77 sx_0 rfl d_BB_hardest_1 ?_
  refine a_getI (pc := 4) fg_BB_172 sx_83 rfl d_BB_hardest_4 ?_
  refine a_if_eq (pc := 7) 30 (by decide) d_BB_hardest_7 ⟨fun c0 => ?_, fun c0 => ?_⟩
  · replace h := h.1 c0
    refine a_iconst (pc := 30) (-1 : Int32) (by decide) d_BB_hardest_30 ?_
    exact b_iret (pc := 31) rfl d_BB_hardest_31 h
  · replace h := h.2 c0
    refine a_aload_n (pc := 10) 0 rfl rfl d_BB_hardest_10 ?_
    refine a_getR (pc := 11) fg_BB_77 sx_0 rfl d_BB_hardest_11 ?_
    refine a_getI (pc := 14) fg_BB_114 sx_83 rfl d_BB_hardest_14 ?_
    refine a_iconst (pc := 17) (2 : Int32) (by decide) d_BB_hardest_17 ?_
    refine a_icmp_gt (pc := 18) 30 (by decide) d_BB_hardest_18 ⟨fun c0 => ?_, fun c0 => ?_⟩
    · replace h := h.1 c0
      refine a_iconst (pc := 30) (-1 : Int32) (by decide) d_BB_hardest_30 ?_
      exact b_iret (pc := 31) rfl d_BB_hardest_31 h
    · replace h := h.2 c0
      refine a_iload_n (pc := 21) 1 rfl rfl d_BB_hardest_21 ?_
      refine a_if_lt (pc := 22) 30 (by decide) d_BB_hardest_22 ⟨fun c0 => ?_, fun c0 => ?_⟩
      · replace h := h.1 c0
        refine a_iconst (pc := 30) (-1 : Int32) (by decide) d_BB_hardest_30 ?_
        exact b_iret (pc := 31) rfl d_BB_hardest_31 h
      · replace h := h.2 c0
        refine a_iload_n (pc := 25) 1 rfl rfl d_BB_hardest_25 ?_
        refine a_iconst (pc := 26) (2 : Int32) (by decide) d_BB_hardest_26 ?_
        refine a_icmp_le (pc := 27) 32 (by decide) d_BB_hardest_27 ⟨fun c0 => ?_, fun c0 => ?_⟩
        · replace h := h.1 c0
          refine a_aload_n (pc := 32) 0 rfl rfl d_BB_hardest_32 ?_
          refine a_getR (pc := 33) fg_BB_56 sx_0 rfl d_BB_hardest_33 ?_
          refine a_aload_n (pc := 36) 0 rfl rfl d_BB_hardest_36 ?_
          refine a_getR (pc := 37) fg_BB_77 sx_0 rfl d_BB_hardest_37 ?_
          refine a_aload_n (pc := 40) 0 rfl rfl d_BB_hardest_40 ?_
          refine a_getI (pc := 41) fg_BB_111 sx_0 rfl d_BB_hardest_41 ?_
          refine a_callV (pc := 44) (M' := m_PA_keepUp) (As := [.ref (gB g + 83), .int (fi σ 0 14)]) (st := []) (mc' := 0) (ms' := 0) lk_BB_232 rfl sx_69 rfl (by decide) (by decide) rfl (Nat.le_of_ble_eq_true rfl) (Nat.le_refl 0) (Nat.le_refl 0) d_BB_hardest_44 h ?_
          rintro _ _ s1 ⟨rfl, rfl, h⟩ -
          show Ax g m_BB_hardest 0 0 (ZI g Q) SH s1 0 0 47 [(0, .ref (gB g + 0)), (1, .int x1)] []
          refine a_iload_n (pc := 47) 1 rfl rfl d_BB_hardest_47 ?_
          refine a_if_eq (pc := 48) 61 (by decide) d_BB_hardest_48 ⟨fun c0 => ?_, fun c0 => ?_⟩
          · replace h := h.1 c0
            refine a_aload_n (pc := 61) 0 rfl rfl d_BB_hardest_61 ?_
            refine a_getR (pc := 62) fg_BB_56 sx_0 rfl d_BB_hardest_62 ?_
            refine a_getI (pc := 65) fg_BB_245 sx_69 rfl d_BB_hardest_65 ?_
            exact b_iret (pc := 68) rfl d_BB_hardest_68 h
          · replace h := h.2 c0
            refine a_aload_n (pc := 51) 0 rfl rfl d_BB_hardest_51 ?_
            refine a_getR (pc := 52) fg_BB_56 sx_0 rfl d_BB_hardest_52 ?_
            refine a_getI (pc := 55) fg_BB_245 sx_69 rfl d_BB_hardest_55 ?_
            refine a_if_ge (pc := 58) 69 (by decide) d_BB_hardest_58 ⟨fun c0 => ?_, fun c0 => ?_⟩
            · replace h := h.1 c0
              refine a_iload_n (pc := 69) 1 rfl rfl d_BB_hardest_69 ?_
              refine a_aload_n (pc := 70) 0 rfl rfl d_BB_hardest_70 ?_
              refine a_getR (pc := 71) fg_BB_77 sx_0 rfl d_BB_hardest_71 ?_
              refine a_getI (pc := 74) fg_BB_114 sx_83 rfl d_BB_hardest_74 ?_
              refine a_icmp_le (pc := 77) 85 (by decide) d_BB_hardest_77 ⟨fun c0 => ?_, fun c0 => ?_⟩
              · replace h := h.1 c0
                refine a_aload_n (pc := 85) 0 rfl rfl d_BB_hardest_85 ?_
                refine a_getR (pc := 86) fg_BB_56 sx_0 rfl d_BB_hardest_86 ?_
                refine a_getI (pc := 89) fg_BB_248 sx_69 rfl d_BB_hardest_89 ?_
                refine a_iload_n (pc := 92) 1 rfl rfl d_BB_hardest_92 ?_
                refine a_iconst (pc := 93) (1 : Int32) (by decide) d_BB_hardest_93 ?_
                refine a_isub (pc := 94) d_BB_hardest_94 ?_
                refine a_callS (pc := 95) (M' := m_SA_numberIn) (As := [.int (fi s1 69 15), .int (x1 - (1 : Int32))]) (st := []) (mc' := 0) (ms' := 0) lk_BB_251 rfl (by decide) (by decide) rfl (Nat.le_of_ble_eq_true rfl) (Nat.le_refl 0) (Nat.le_refl 0) d_BB_hardest_95 h ?_
                rintro _ _ s2 ⟨r3, rfl, rfl, h⟩ -
                show Ax g m_BB_hardest 0 0 (ZI g Q) SH s2 0 0 98 [(0, .ref (gB g + 0)), (1, .int x1)] [.int r3]
                exact b_iret (pc := 98) rfl d_BB_hardest_98 h
              · replace h := h.2 c0
                refine a_bipush (pc := 80) (-2 : Int32) (by decide) d_BB_hardest_80 ?_
                refine a_goto (pc := 82) 98 (by decide) d_BB_hardest_82 ?_
                exact b_iret (pc := 98) rfl d_BB_hardest_98 h
            · replace h := h.2 c0
              refine a_aload_n (pc := 61) 0 rfl rfl d_BB_hardest_61 ?_
              refine a_getR (pc := 62) fg_BB_56 sx_0 rfl d_BB_hardest_62 ?_
              refine a_getI (pc := 65) fg_BB_245 sx_69 rfl d_BB_hardest_65 ?_
              exact b_iret (pc := 68) rfl d_BB_hardest_68 h
        · replace h := h.2 c0
          refine a_iconst (pc := 30) (-1 : Int32) (by decide) d_BB_hardest_30 ?_
          exact b_iret (pc := 31) rfl d_BB_hardest_31 h
theorem ko_BB_hardest {g : Gx}  {x1 : Int32} {σ : St} {Q : Int32 → St → Prop} (h : S_BB_hardest_0 g Q σ x1) : K_BB_hardest g x1 σ Q := KI.of (show plainName "BallBox" = true by decide) (Nat.le_of_ble_eq_true rfl) h
theorem d_BB_sound_0 : decode c_BB_sound 0 = .ok (.iload_n 1, 1) := by decide +kernel
theorem d_BB_sound_1 : decode c_BB_sound 1 = .ok (.iconst (-1), 1) := by decide +kernel
theorem d_BB_sound_2 : decode c_BB_sound 2 = .ok (.if_icmp .ne 23, 3) := by decide +kernel
theorem d_BB_sound_5 : decode c_BB_sound 5 = .ok (.aload_n 0, 1) := by decide +kernel
theorem d_BB_sound_6 : decode c_BB_sound 6 = .ok (.getfield 77, 3) := by decide +kernel
theorem d_BB_sound_9 : decode c_BB_sound 9 = .ok (.iconst 0, 1) := by decide +kernel
theorem d_BB_sound_10 : decode c_BB_sound 10 = .ok (.putfield 254, 3) := by decide +kernel
theorem d_BB_sound_13 : decode c_BB_sound 13 = .ok (.aload_n 0, 1) := by decide +kernel
theorem d_BB_sound_14 : decode c_BB_sound 14 = .ok (.dup, 1) := by decide +kernel
theorem d_BB_sound_15 : decode c_BB_sound 15 = .ok (.getfield 111, 3) := by decide +kernel
theorem d_BB_sound_18 : decode c_BB_sound 18 = .ok (.iconst 1, 1) := by decide +kernel
theorem d_BB_sound_19 : decode c_BB_sound 19 = .ok (.iadd, 1) := by decide +kernel
theorem d_BB_sound_20 : decode c_BB_sound 20 = .ok (.putfield 111, 3) := by decide +kernel
theorem d_BB_sound_23 : decode c_BB_sound 23 = .ok (.iconst 0, 1) := by decide +kernel
theorem d_BB_sound_24 : decode c_BB_sound 24 = .ok (.ireturn, 1) := by decide +kernel
theorem d_BB_sound_25 : decode c_BB_sound 25 = .ok (.iload_n 2, 1) := by decide +kernel
theorem d_BB_sound_26 : decode c_BB_sound 26 = .ok (.ifCond .lt 28, 3) := by decide +kernel
theorem d_BB_sound_29 : decode c_BB_sound 29 = .ok (.iload_n 2, 1) := by decide +kernel
theorem d_BB_sound_30 : decode c_BB_sound 30 = .ok (.iconst 3, 1) := by decide +kernel
theorem d_BB_sound_31 : decode c_BB_sound 31 = .ok (.if_icmp .gt 23, 3) := by decide +kernel
theorem d_BB_sound_34 : decode c_BB_sound 34 = .ok (.iload_n 3, 1) := by decide +kernel
theorem d_BB_sound_35 : decode c_BB_sound 35 = .ok (.ifCond .lt 19, 3) := by decide +kernel
theorem d_BB_sound_38 : decode c_BB_sound 38 = .ok (.iload_n 3, 1) := by decide +kernel
theorem d_BB_sound_39 : decode c_BB_sound 39 = .ok (.iconst 3, 1) := by decide +kernel
theorem d_BB_sound_40 : decode c_BB_sound 40 = .ok (.if_icmp .gt 14, 3) := by decide +kernel
theorem d_BB_sound_43 : decode c_BB_sound 43 = .ok (.iload_n 2, 1) := by decide +kernel
theorem d_BB_sound_44 : decode c_BB_sound 44 = .ok (.iload_n 3, 1) := by decide +kernel
theorem d_BB_sound_45 : decode c_BB_sound 45 = .ok (.iadd, 1) := by decide +kernel
theorem d_BB_sound_46 : decode c_BB_sound 46 = .ok (.iconst 3, 1) := by decide +kernel
theorem d_BB_sound_47 : decode c_BB_sound 47 = .ok (.if_icmp .gt 7, 3) := by decide +kernel
theorem d_BB_sound_50 : decode c_BB_sound 50 = .ok (.iconst 1, 1) := by decide +kernel
theorem d_BB_sound_51 : decode c_BB_sound 51 = .ok (.goto 4, 3) := by decide +kernel
theorem d_BB_sound_54 : decode c_BB_sound 54 = .ok (.iconst 0, 1) := by decide +kernel
theorem d_BB_sound_55 : decode c_BB_sound 55 = .ok (.istore 4, 2) := by decide +kernel
theorem d_BB_sound_57 : decode c_BB_sound 57 = .ok (.aload_n 0, 1) := by decide +kernel
theorem d_BB_sound_58 : decode c_BB_sound 58 = .ok (.getfield 77, 3) := by decide +kernel
theorem d_BB_sound_61 : decode c_BB_sound 61 = .ok (.getfield 172, 3) := by decide +kernel
theorem d_BB_sound_64 : decode c_BB_sound 64 = .ok (.ifCond .eq 27, 3) := by decide +kernel
theorem d_BB_sound_67 : decode c_BB_sound 67 = .ok (.iload_n 1, 1) := by decide +kernel
theorem d_BB_sound_68 : decode c_BB_sound 68 = .ok (.invokestatic 176, 3) := by decide +kernel
theorem d_BB_sound_71 : decode c_BB_sound 71 = .ok (.ifCond .eq 20, 3) := by decide +kernel
theorem d_BB_sound_74 : decode c_BB_sound 74 = .ok (.iload 4, 2) := by decide +kernel
theorem d_BB_sound_76 : decode c_BB_sound 76 = .ok (.ifCond .eq 15, 3) := by decide +kernel
theorem d_BB_sound_79 : decode c_BB_sound 79 = .ok (.aload_n 0, 1) := by decide +kernel
theorem d_BB_sound_80 : decode c_BB_sound 80 = .ok (.getfield 77, 3) := by decide +kernel
theorem d_BB_sound_83 : decode c_BB_sound 83 = .ok (.getfield 254, 3) := by decide +kernel
theorem d_BB_sound_86 : decode c_BB_sound 86 = .ok (.bipush 8, 2) := by decide +kernel
theorem d_BB_sound_88 : decode c_BB_sound 88 = .ok (.if_icmp .lt 6, 3) := by decide +kernel
theorem d_BB_sound_91 : decode c_BB_sound 91 = .ok (.bipush (-2), 2) := by decide +kernel
theorem d_BB_sound_93 : decode c_BB_sound 93 = .ok (.ireturn, 1) := by decide +kernel
theorem d_BB_sound_94 : decode c_BB_sound 94 = .ok (.aload_n 0, 1) := by decide +kernel
theorem d_BB_sound_95 : decode c_BB_sound 95 = .ok (.getfield 77, 3) := by decide +kernel
theorem d_BB_sound_98 : decode c_BB_sound 98 = .ok (.getfield 257, 3) := by decide +kernel
theorem d_BB_sound_101 : decode c_BB_sound 101 = .ok (.aload_n 0, 1) := by decide +kernel
theorem d_BB_sound_102 : decode c_BB_sound 102 = .ok (.getfield 77, 3) := by decide +kernel
theorem d_BB_sound_105 : decode c_BB_sound 105 = .ok (.getfield 254, 3) := by decide +kernel
theorem d_BB_sound_108 : decode c_BB_sound 108 = .ok (.iload_n 1, 1) := by decide +kernel
theorem d_BB_sound_109 : decode c_BB_sound 109 = .ok (.iload_n 2, 1) := by decide +kernel
theorem d_BB_sound_110 : decode c_BB_sound 110 = .ok (.iload_n 3, 1) := by decide +kernel
theorem d_BB_sound_111 : decode c_BB_sound 111 = .ok (.invokestatic 260, 3) := by decide +kernel
theorem d_BB_sound_114 : decode c_BB_sound 114 = .ok (.iastore, 1) := by decide +kernel
theorem d_BB_sound_115 : decode c_BB_sound 115 = .ok (.aload_n 0, 1) := by decide +kernel
theorem d_BB_sound_116 : decode c_BB_sound 116 = .ok (.getfield 77, 3) := by decide +kernel
theorem d_BB_sound_119 : decode c_BB_sound 119 = .ok (.dup, 1) := by decide +kernel
theorem d_BB_sound_120 : decode c_BB_sound 120 = .ok (.getfield 254, 3) := by decide +kernel
theorem d_BB_sound_123 : decode c_BB_sound 123 = .ok (.iconst 1, 1) := by decide +kernel
theorem d_BB_sound_124 : decode c_BB_sound 124 = .ok (.iadd, 1) := by decide +kernel
theorem d_BB_sound_125 : decode c_BB_sound 125 = .ok (.putfield 254, 3) := by decide +kernel
theorem d_BB_sound_128 : decode c_BB_sound 128 = .ok (.aload_n 0, 1) := by decide +kernel
theorem d_BB_sound_129 : decode c_BB_sound 129 = .ok (.dup, 1) := by decide +kernel
theorem d_BB_sound_130 : decode c_BB_sound 130 = .ok (.getfield 111, 3) := by decide +kernel
theorem d_BB_sound_133 : decode c_BB_sound 133 = .ok (.iconst 1, 1) := by decide +kernel
theorem d_BB_sound_134 : decode c_BB_sound 134 = .ok (.iadd, 1) := by decide +kernel
theorem d_BB_sound_135 : decode c_BB_sound 135 = .ok (.putfield 111, 3) := by decide +kernel
theorem d_BB_sound_138 : decode c_BB_sound 138 = .ok (.aload_n 0, 1) := by decide +kernel
theorem d_BB_sound_139 : decode c_BB_sound 139 = .ok (.getfield 77, 3) := by decide +kernel
theorem d_BB_sound_142 : decode c_BB_sound 142 = .ok (.getfield 254, 3) := by decide +kernel
theorem d_BB_sound_145 : decode c_BB_sound 145 = .ok (.ireturn, 1) := by decide +kernel
def S_BB_sound_0 (g : Gx) (Q : Int32 → St → Prop) (σ : St) (x1 : Int32) (x2 : Int32) (x3 : Int32) : Prop := Ax g m_BB_sound 0 0 (ZI g Q) SH σ 0 0 0 [(0, .ref (gB g + 0)), (1, .int x1), (2, .int x2), (3, .int x3)] []
def S_BB_sound_55 (g : Gx) (Q : Int32 → St → Prop) (σ : St) (x1 : Int32) (x2 : Int32) (x3 : Int32) (z0 : Int32) : Prop := Ax g m_BB_sound 0 0 (ZI g Q) SH σ 0 0 55 [(0, .ref (gB g + 0)), (1, .int x1), (2, .int x2), (3, .int x3)] [.int z0]
theorem sg_BB_sound_0 {g : Gx} {Q : Int32 → St → Prop} {σ : St} {x1 : Int32} {x2 : Int32} {x3 : Int32}
    (h : (¬ x1 = (-1 : Int32) → (x2 < 0 → S_BB_sound_55 g Q σ x1 x2 x3 (0 : Int32)) ∧ (¬ x2 < 0 → ((3 : Int32) < x2 → S_BB_sound_55 g Q σ x1 x2 x3 (0 : Int32)) ∧ (¬ (3 : Int32) < x2 → (x3 < 0 → S_BB_sound_55 g Q σ x1 x2 x3 (0 : Int32)) ∧ (¬ x3 < 0 → ((3 : Int32) < x3 → S_BB_sound_55 g Q σ x1 x2 x3 (0 : Int32)) ∧ (¬ (3 : Int32) < x3 → ((3 : Int32) < (x2 + x3) → S_BB_sound_55 g Q σ x1 x2 x3 (0 : Int32)) ∧ (¬ (3 : Int32) < (x2 + x3) → S_BB_sound_55 g Q σ x1 x2 x3 (1 : Int32))))))) ∧ (x1 = (-1 : Int32) → ∀ s1 : St, s1 = sfi σ 83 8 (0 : Int32) → ∀ s2 : St, s2 = sfi s1 0 14 ((fi s1 0 14) + (1 : Int32)) → Q (0 : Int32) s2)) : S_BB_sound_0 g Q σ x1 x2 x3 := by
  show Ax g m_BB_sound 0 0 (ZI g Q) SH σ 0 0 0 [(0, .ref (gB g + 0)), (1, .int x1), (2, .int x2), (3, .int x3)] []
  refine a_iload_n (pc := 0) 1 rfl rfl d_BB_sound_0 ?_
  refine a_iconst (pc := 1) (-1 : Int32) (by decide) d_BB_sound_1 ?_
  refine a_icmp_ne (pc := 2) 25 (by decide) d_BB_sound_2 ⟨fun c0 => ?_, fun c0 => ?_⟩
  · replace h := h.1 c0
    refine a_iload_n (pc := 25) 2 rfl rfl d_BB_sound_25 ?_
    refine a_if_lt (pc := 26) 54 (by decide) d_BB_sound_26 ⟨fun c0 => ?_, fun c0 => ?_⟩
    · replace h := h.1 c0
      refine a_iconst (pc := 54) (0 : Int32) (by decide) d_BB_sound_54 ?_
      refine a_sub (pc := 55) [0, 1, 2, 3] rfl ?_
      exact h
    · replace h := h.2 c0
      refine a_iload_n (pc := 29) 2 rfl rfl d_BB_sound_29 ?_
      refine a_iconst (pc := 30) (3 : Int32) (by decide) d_BB_sound_30 ?_
      refine a_icmp_gt (pc := 31) 54 (by decide) d_BB_sound_31 ⟨fun c0 => ?_, fun c0 => ?_⟩
      · replace h := h.1 c0
        refine a_iconst (pc := 54) (0 : Int32) (by decide) d_BB_sound_54 ?_
        refine a_sub (pc := 55) [0, 1, 2, 3] rfl ?_
        exact h
      · replace h := h.2 c0
        refine a_iload_n (pc := 34) 3 rfl rfl d_BB_sound_34 ?_
        refine a_if_lt (pc := 35) 54 (by decide) d_BB_sound_35 ⟨fun c0 => ?_, fun c0 => ?_⟩
        · replace h := h.1 c0
          refine a_iconst (pc := 54) (0 : Int32) (by decide) d_BB_sound_54 ?_
          refine a_sub (pc := 55) [0, 1, 2, 3] rfl ?_
          exact h
        · replace h := h.2 c0
          refine a_iload_n (pc := 38) 3 rfl rfl d_BB_sound_38 ?_
          refine a_iconst (pc := 39) (3 : Int32) (by decide) d_BB_sound_39 ?_
          refine a_icmp_gt (pc := 40) 54 (by decide) d_BB_sound_40 ⟨fun c0 => ?_, fun c0 => ?_⟩
          · replace h := h.1 c0
            refine a_iconst (pc := 54) (0 : Int32) (by decide) d_BB_sound_54 ?_
            refine a_sub (pc := 55) [0, 1, 2, 3] rfl ?_
            exact h
          · replace h := h.2 c0
            refine a_iload_n (pc := 43) 2 rfl rfl d_BB_sound_43 ?_
            refine a_iload_n (pc := 44) 3 rfl rfl d_BB_sound_44 ?_
            refine a_iadd (pc := 45) d_BB_sound_45 ?_
            refine a_iconst (pc := 46) (3 : Int32) (by decide) d_BB_sound_46 ?_
            refine a_icmp_gt (pc := 47) 54 (by decide) d_BB_sound_47 ⟨fun c0 => ?_, fun c0 => ?_⟩
            · replace h := h.1 c0
              refine a_iconst (pc := 54) (0 : Int32) (by decide) d_BB_sound_54 ?_
              refine a_sub (pc := 55) [0, 1, 2, 3] rfl ?_
              exact h
            · replace h := h.2 c0
              refine a_iconst (pc := 50) (1 : Int32) (by decide) d_BB_sound_50 ?_
              refine a_goto (pc := 51) 55 (by decide) d_BB_sound_51 ?_
              refine a_sub (pc := 55) [0, 1, 2, 3] rfl ?_
              exact h
  · replace h := h.2 c0
    refine a_aload_n (pc := 5) 0 rfl rfl d_BB_sound_5 ?_
    refine a_getR (pc := 6) fg_BB_77 sx_0 rfl d_BB_sound_6 ?_
    refine a_iconst (pc := 9) (0 : Int32) (by decide) d_BB_sound_9 ?_
    refine a_putI (pc := 10) fp_BB_254 sx_83 rfl d_BB_sound_10 ?_
    refine a_nms (fun s1 hs1 => ?_)
    replace h := h s1 hs1
    refine a_aload_n (pc := 13) 0 rfl rfl d_BB_sound_13 ?_
    refine a_dup (pc := 14) rfl d_BB_sound_14 ?_
    refine a_getI (pc := 15) fg_BB_111 sx_0 rfl d_BB_sound_15 ?_
    refine a_iconst (pc := 18) (1 : Int32) (by decide) d_BB_sound_18 ?_
    refine a_iadd (pc := 19) d_BB_sound_19 ?_
    refine a_putI (pc := 20) fp_BB_111 sx_0 rfl d_BB_sound_20 ?_
    refine a_nms (fun s2 hs2 => ?_)
    replace h := h s2 hs2
    refine a_iconst (pc := 23) (0 : Int32) (by decide) d_BB_sound_23 ?_
    exact b_iret (pc := 24) rfl d_BB_sound_24 h
theorem sg_BB_sound_55 {g : Gx} {Q : Int32 → St → Prop} {σ : St} {x1 : Int32} {x2 : Int32} {x3 : Int32} {z0 : Int32}
    (h : ((fi σ 83 1) = 0 → Q (-2 : Int32) σ) ∧ (¬ (fi σ 83 1) = 0 → K_BB_isWay g x1 σ (fun (r2 : Int32) (s1 : St) => (r2 = 0 → Q (-2 : Int32) s1) ∧ (¬ r2 = 0 → (z0 = 0 → Q (-2 : Int32) s1) ∧ (¬ z0 = 0 → ((fi s1 83 8) < (8 : Int32) → K_LI_packed g x1 x2 x3 s1 (fun (r4 : Int32) (s3 : St) => vp_in (fi s1 83 8) 8 ∧ (∀ s5 : St, s5 = sai s3 87 ((fi s1 83 8)).toNatClampNeg r4 → ∀ s6 : St, s6 = sfi s5 83 8 ((fi s5 83 8) + (1 : Int32)) → ∀ s7 : St, s7 = sfi s6 0 14 ((fi s6 0 14) + (1 : Int32)) → Q (fi s7 83 8) s7))) ∧ (¬ (fi s1 83 8) < (8 : Int32) → Q (-2 : Int32) s1)))))) : S_BB_sound_55 g Q σ x1 x2 x3 z0 := by
  show Ax g m_BB_sound 0 0 (ZI g Q) SH σ 0 0 55 [(0, .ref (gB g + 0)), (1, .int x1), (2, .int x2), (3, .int x3)] [.int z0]
  refine a_istore (pc := 55) (lv' := [(4, .int z0), (0, .ref (gB g + 0)), (1, .int x1), (2, .int x2), (3, .int x3)]) (Nat.le_of_ble_eq_true rfl) rfl d_BB_sound_55 ?_
  refine a_aload_n (pc := 57) 1 rfl rfl d_BB_sound_57 ?_
  refine a_getR (pc := 58) fg_BB_77 sx_0 rfl d_BB_sound_58 ?_
  refine a_getI (pc := 61) fg_BB_172 sx_83 rfl d_BB_sound_61 ?_
  refine a_if_eq (pc := 64) 91 (by decide) d_BB_sound_64 ⟨fun c0 => ?_, fun c0 => ?_⟩
  · replace h := h.1 c0
    refine a_bipush (pc := 91) (-2 : Int32) (by decide) d_BB_sound_91 ?_
    exact b_iret (pc := 93) rfl d_BB_sound_93 h
  · replace h := h.2 c0
    refine a_iload_n (pc := 67) 2 rfl rfl d_BB_sound_67 ?_
    refine a_callS (pc := 68) (M' := m_BB_isWay) (As := [.int x1]) (st := []) (mc' := 0) (ms' := 0) lk_BB_176 rfl (by decide) (by decide) rfl (Nat.le_of_ble_eq_true rfl) (Nat.le_refl 0) (Nat.le_refl 0) d_BB_sound_68 h ?_
    rintro _ _ s1 ⟨r2, rfl, rfl, h⟩ -
    show Ax g m_BB_sound 0 0 (ZI g Q) SH s1 0 0 71 [(4, .int z0), (0, .ref (gB g + 0)), (1, .int x1), (2, .int x2), (3, .int x3)] [.int r2]
    refine a_if_eq (pc := 71) 91 (by decide) d_BB_sound_71 ⟨fun c0 => ?_, fun c0 => ?_⟩
    · replace h := h.1 c0
      refine a_bipush (pc := 91) (-2 : Int32) (by decide) d_BB_sound_91 ?_
      exact b_iret (pc := 93) rfl d_BB_sound_93 h
    · replace h := h.2 c0
      refine a_iload (pc := 74) 0 rfl d_BB_sound_74 ?_
      refine a_if_eq (pc := 76) 91 (by decide) d_BB_sound_76 ⟨fun c0 => ?_, fun c0 => ?_⟩
      · replace h := h.1 c0
        refine a_bipush (pc := 91) (-2 : Int32) (by decide) d_BB_sound_91 ?_
        exact b_iret (pc := 93) rfl d_BB_sound_93 h
      · replace h := h.2 c0
        refine a_aload_n (pc := 79) 1 rfl rfl d_BB_sound_79 ?_
        refine a_getR (pc := 80) fg_BB_77 sx_0 rfl d_BB_sound_80 ?_
        refine a_getI (pc := 83) fg_BB_254 sx_83 rfl d_BB_sound_83 ?_
        refine a_bipush (pc := 86) (8 : Int32) (by decide) d_BB_sound_86 ?_
        refine a_icmp_lt (pc := 88) 94 (by decide) d_BB_sound_88 ⟨fun c0 => ?_, fun c0 => ?_⟩
        · replace h := h.1 c0
          refine a_aload_n (pc := 94) 1 rfl rfl d_BB_sound_94 ?_
          refine a_getR (pc := 95) fg_BB_77 sx_0 rfl d_BB_sound_95 ?_
          refine a_getR (pc := 98) fg_BB_257 sx_83 rfl d_BB_sound_98 ?_
          refine a_aload_n (pc := 101) 1 rfl rfl d_BB_sound_101 ?_
          refine a_getR (pc := 102) fg_BB_77 sx_0 rfl d_BB_sound_102 ?_
          refine a_getI (pc := 105) fg_BB_254 sx_83 rfl d_BB_sound_105 ?_
          refine a_iload_n (pc := 108) 2 rfl rfl d_BB_sound_108 ?_
          refine a_iload_n (pc := 109) 3 rfl rfl d_BB_sound_109 ?_
          refine a_iload_n (pc := 110) 4 rfl rfl d_BB_sound_110 ?_
          refine a_callS (pc := 111) (M' := m_LI_packed) (As := [.int x1, .int x2, .int x3]) (st := [.int (fi s1 83 8), .ref (gB g + 87)]) (mc' := 0) (ms' := 0) lk_BB_260 rfl (by decide) (by decide) rfl (Nat.le_of_ble_eq_true rfl) (Nat.le_refl 0) (Nat.le_refl 0) d_BB_sound_111 h ?_
          rintro _ _ s3 ⟨r4, rfl, rfl, h⟩ -
          show Ax g m_BB_sound 0 0 (ZI g Q) SH s3 0 0 114 [(4, .int z0), (0, .ref (gB g + 0)), (1, .int x1), (2, .int x2), (3, .int x3)] [.int r4, .int (fi s1 83 8), .ref (gB g + 87)]
          obtain ⟨hx, h⟩ := h
          refine a_iast (pc := 114) sx_87 hx d_BB_sound_114 ?_
          refine a_nms (fun s5 hs5 => ?_)
          replace h := h s5 hs5
          refine a_aload_n (pc := 115) 1 rfl rfl d_BB_sound_115 ?_
          refine a_getR (pc := 116) fg_BB_77 sx_0 rfl d_BB_sound_116 ?_
          refine a_dup (pc := 119) rfl d_BB_sound_119 ?_
          refine a_getI (pc := 120) fg_BB_254 sx_83 rfl d_BB_sound_120 ?_
          refine a_iconst (pc := 123) (1 : Int32) (by decide) d_BB_sound_123 ?_
          refine a_iadd (pc := 124) d_BB_sound_124 ?_
          refine a_putI (pc := 125) fp_BB_254 sx_83 rfl d_BB_sound_125 ?_
          refine a_nms (fun s6 hs6 => ?_)
          replace h := h s6 hs6
          refine a_aload_n (pc := 128) 1 rfl rfl d_BB_sound_128 ?_
          refine a_dup (pc := 129) rfl d_BB_sound_129 ?_
          refine a_getI (pc := 130) fg_BB_111 sx_0 rfl d_BB_sound_130 ?_
          refine a_iconst (pc := 133) (1 : Int32) (by decide) d_BB_sound_133 ?_
          refine a_iadd (pc := 134) d_BB_sound_134 ?_
          refine a_putI (pc := 135) fp_BB_111 sx_0 rfl d_BB_sound_135 ?_
          refine a_nms (fun s7 hs7 => ?_)
          replace h := h s7 hs7
          refine a_aload_n (pc := 138) 1 rfl rfl d_BB_sound_138 ?_
          refine a_getR (pc := 139) fg_BB_77 sx_0 rfl d_BB_sound_139 ?_
          refine a_getI (pc := 142) fg_BB_254 sx_83 rfl d_BB_sound_142 ?_
          exact b_iret (pc := 145) rfl d_BB_sound_145 h
        · replace h := h.2 c0
          refine a_bipush (pc := 91) (-2 : Int32) (by decide) d_BB_sound_91 ?_
          exact b_iret (pc := 93) rfl d_BB_sound_93 h
theorem ko_BB_sound {g : Gx}  {x1 : Int32} {x2 : Int32} {x3 : Int32} {σ : St} {Q : Int32 → St → Prop} (h : S_BB_sound_0 g Q σ x1 x2 x3) : K_BB_sound g x1 x2 x3 σ Q := KI.of (show plainName "BallBox" = true by decide) (Nat.le_of_ble_eq_true rfl) h
theorem d_BB_fits_0 : decode c_BB_fits 0 = .ok (.aload_n 0, 1) := by decide +kernel
theorem d_BB_fits_1 : decode c_BB_fits 1 = .ok (.getfield 77, 3) := by decide +kernel
theorem d_BB_fits_4 : decode c_BB_fits 4 = .ok (.getfield 172, 3) := by decide +kernel
theorem d_BB_fits_7 : decode c_BB_fits 7 = .ok (.ifCond .eq 12, 3) := by decide +kernel
theorem d_BB_fits_10 : decode c_BB_fits 10 = .ok (.iload_n 1, 1) := by decide +kernel
theorem d_BB_fits_11 : decode c_BB_fits 11 = .ok (.ifCond .lt 8, 3) := by decide +kernel
theorem d_BB_fits_14 : decode c_BB_fits 14 = .ok (.iload_n 1, 1) := by decide +kernel
theorem d_BB_fits_15 : decode c_BB_fits 15 = .ok (.iconst 3, 1) := by decide +kernel
theorem d_BB_fits_16 : decode c_BB_fits 16 = .ok (.if_icmp .le 5, 3) := by decide +kernel
theorem d_BB_fits_19 : decode c_BB_fits 19 = .ok (.iconst (-1), 1) := by decide +kernel
theorem d_BB_fits_20 : decode c_BB_fits 20 = .ok (.ireturn, 1) := by decide +kernel
theorem d_BB_fits_21 : decode c_BB_fits 21 = .ok (.aload_n 0, 1) := by decide +kernel
theorem d_BB_fits_22 : decode c_BB_fits 22 = .ok (.getfield 63, 3) := by decide +kernel
theorem d_BB_fits_25 : decode c_BB_fits 25 = .ok (.aload_n 0, 1) := by decide +kernel
theorem d_BB_fits_26 : decode c_BB_fits 26 = .ok (.getfield 77, 3) := by decide +kernel
theorem d_BB_fits_29 : decode c_BB_fits 29 = .ok (.aload_n 0, 1) := by decide +kernel
theorem d_BB_fits_30 : decode c_BB_fits 30 = .ok (.getfield 111, 3) := by decide +kernel
theorem d_BB_fits_33 : decode c_BB_fits 33 = .ok (.iconst 0, 1) := by decide +kernel
theorem d_BB_fits_34 : decode c_BB_fits 34 = .ok (.invokevirtual 263, 3) := by decide +kernel
theorem d_BB_fits_37 : decode c_BB_fits 37 = .ok (.iload_n 1, 1) := by decide +kernel
theorem d_BB_fits_38 : decode c_BB_fits 38 = .ok (.ifCond .ne 11, 3) := by decide +kernel
theorem d_BB_fits_41 : decode c_BB_fits 41 = .ok (.aload_n 0, 1) := by decide +kernel
theorem d_BB_fits_42 : decode c_BB_fits 42 = .ok (.getfield 63, 3) := by decide +kernel
theorem d_BB_fits_45 : decode c_BB_fits 45 = .ok (.getfield 266, 3) := by decide +kernel
theorem d_BB_fits_48 : decode c_BB_fits 48 = .ok (.ireturn, 1) := by decide +kernel
theorem d_BB_fits_49 : decode c_BB_fits 49 = .ok (.aload_n 0, 1) := by decide +kernel
theorem d_BB_fits_50 : decode c_BB_fits 50 = .ok (.getfield 63, 3) := by decide +kernel
theorem d_BB_fits_53 : decode c_BB_fits 53 = .ok (.getfield 266, 3) := by decide +kernel
theorem d_BB_fits_56 : decode c_BB_fits 56 = .ok (.ifCond .eq 14, 3) := by decide +kernel
theorem d_BB_fits_59 : decode c_BB_fits 59 = .ok (.iload_n 1, 1) := by decide +kernel
theorem d_BB_fits_60 : decode c_BB_fits 60 = .ok (.aload_n 0, 1) := by decide +kernel
theorem d_BB_fits_61 : decode c_BB_fits 61 = .ok (.getfield 77, 3) := by decide +kernel
theorem d_BB_fits_64 : decode c_BB_fits 64 = .ok (.getfield 114, 3) := by decide +kernel
theorem d_BB_fits_67 : decode c_BB_fits 67 = .ok (.if_icmp .le 8, 3) := by decide +kernel
theorem d_BB_fits_70 : decode c_BB_fits 70 = .ok (.bipush (-2), 2) := by decide +kernel
theorem d_BB_fits_72 : decode c_BB_fits 72 = .ok (.goto 16, 3) := by decide +kernel
theorem d_BB_fits_75 : decode c_BB_fits 75 = .ok (.aload_n 0, 1) := by decide +kernel
theorem d_BB_fits_76 : decode c_BB_fits 76 = .ok (.getfield 63, 3) := by decide +kernel
theorem d_BB_fits_79 : decode c_BB_fits 79 = .ok (.getfield 269, 3) := by decide +kernel
theorem d_BB_fits_82 : decode c_BB_fits 82 = .ok (.iload_n 1, 1) := by decide +kernel
theorem d_BB_fits_83 : decode c_BB_fits 83 = .ok (.iconst 1, 1) := by decide +kernel
theorem d_BB_fits_84 : decode c_BB_fits 84 = .ok (.isub, 1) := by decide +kernel
theorem d_BB_fits_85 : decode c_BB_fits 85 = .ok (.invokestatic 251, 3) := by decide +kernel
theorem d_BB_fits_88 : decode c_BB_fits 88 = .ok (.ireturn, 1) := by decide +kernel
def S_BB_fits_0 (g : Gx) (Q : Int32 → St → Prop) (σ : St) (x1 : Int32) : Prop := Ax g m_BB_fits 0 0 (ZI g Q) SH σ 0 0 0 [(0, .ref (gB g + 0)), (1, .int x1)] []
theorem sg_BB_fits_0 {g : Gx} {Q : Int32 → St → Prop} {σ : St} {x1 : Int32}
    (h : ((fi σ 83 1) = 0 → Q (-1 : Int32) σ) ∧ (¬ (fi σ 83 1) = 0 → (x1 < 0 → Q (-1 : Int32) σ) ∧ (¬ x1 < 0 → (x1 ≤ (3 : Int32) → K_LI_keepUp g 83 (fi σ 0 14) (0 : Int32) σ (fun s1 : St => (¬ x1 = 0 → ((fi s1 78 6) = 0 → Q (-2 : Int32) s1) ∧ (¬ (fi s1 78 6) = 0 → (x1 ≤ (fi s1 83 4) → K_SA_numberIn g (fi s1 78 7) (x1 - (1 : Int32)) s1 (fun (r3 : Int32) (s2 : St) => Q r3 s2)) ∧ (¬ x1 ≤ (fi s1 83 4) → Q (-2 : Int32) s1))) ∧ (x1 = 0 → Q (fi s1 78 6) s1))) ∧ (¬ x1 ≤ (3 : Int32) → Q (-1 : Int32) σ)))) : S_BB_fits_0 g Q σ x1 := by
  show Ax g m_BB_fits 0 0 (ZI g Q) SH σ 0 0 0 [(0, .ref (gB g + 0)), (1, .int x1)] []
  refine a_aload_n (pc := 0) 0 rfl rfl d_BB_fits_0 ?_
  refine a_getR (pc := 1) fg_BB_77 sx_0 rfl d_BB_fits_1 ?_
  refine a_getI (pc := 4) fg_BB_172 sx_83 rfl d_BB_fits_4 ?_
  refine a_if_eq (pc := 7) 19 (by decide) d_BB_fits_7 ⟨fun c0 => ?_, fun c0 => ?_⟩
  · replace h := h.1 c0
    refine a_iconst (pc := 19) (-1 : Int32) (by decide) d_BB_fits_19 ?_
    exact b_iret (pc := 20) rfl d_BB_fits_20 h
  · replace h := h.2 c0
    refine a_iload_n (pc := 10) 1 rfl rfl d_BB_fits_10 ?_
    refine a_if_lt (pc := 11) 19 (by decide) d_BB_fits_11 ⟨fun c0 => ?_, fun c0 => ?_⟩
    · replace h := h.1 c0
      refine a_iconst (pc := 19) (-1 : Int32) (by decide) d_BB_fits_19 ?_
      exact b_iret (pc := 20) rfl d_BB_fits_20 h
    · replace h := h.2 c0
      refine a_iload_n (pc := 14) 1 rfl rfl d_BB_fits_14 ?_
      refine a_iconst (pc := 15) (3 : Int32) (by decide) d_BB_fits_15 ?_
      refine a_icmp_le (pc := 16) 21 (by decide) d_BB_fits_16 ⟨fun c0 => ?_, fun c0 => ?_⟩
      · replace h := h.1 c0
        refine a_aload_n (pc := 21) 0 rfl rfl d_BB_fits_21 ?_
        refine a_getR (pc := 22) fg_BB_63 sx_0 rfl d_BB_fits_22 ?_
        refine a_aload_n (pc := 25) 0 rfl rfl d_BB_fits_25 ?_
        refine a_getR (pc := 26) fg_BB_77 sx_0 rfl d_BB_fits_26 ?_
        refine a_aload_n (pc := 29) 0 rfl rfl d_BB_fits_29 ?_
        refine a_getI (pc := 30) fg_BB_111 sx_0 rfl d_BB_fits_30 ?_
        refine a_iconst (pc := 33) (0 : Int32) (by decide) d_BB_fits_33 ?_
        refine a_callV (pc := 34) (M' := m_LI_keepUp) (As := [.ref (gB g + 83), .int (fi σ 0 14), .int (0 : Int32)]) (st := []) (mc' := 0) (ms' := 0) lk_BB_263 rfl sx_78 rfl (by decide) (by decide) rfl (Nat.le_of_ble_eq_true rfl) (Nat.le_refl 0) (Nat.le_refl 0) d_BB_fits_34 h ?_
        rintro _ _ s1 ⟨rfl, rfl, h⟩ -
        show Ax g m_BB_fits 0 0 (ZI g Q) SH s1 0 0 37 [(0, .ref (gB g + 0)), (1, .int x1)] []
        refine a_iload_n (pc := 37) 1 rfl rfl d_BB_fits_37 ?_
        refine a_if_ne (pc := 38) 49 (by decide) d_BB_fits_38 ⟨fun c0 => ?_, fun c0 => ?_⟩
        · replace h := h.1 c0
          refine a_aload_n (pc := 49) 0 rfl rfl d_BB_fits_49 ?_
          refine a_getR (pc := 50) fg_BB_63 sx_0 rfl d_BB_fits_50 ?_
          refine a_getI (pc := 53) fg_BB_266 sx_78 rfl d_BB_fits_53 ?_
          refine a_if_eq (pc := 56) 70 (by decide) d_BB_fits_56 ⟨fun c0 => ?_, fun c0 => ?_⟩
          · replace h := h.1 c0
            refine a_bipush (pc := 70) (-2 : Int32) (by decide) d_BB_fits_70 ?_
            refine a_goto (pc := 72) 88 (by decide) d_BB_fits_72 ?_
            exact b_iret (pc := 88) rfl d_BB_fits_88 h
          · replace h := h.2 c0
            refine a_iload_n (pc := 59) 1 rfl rfl d_BB_fits_59 ?_
            refine a_aload_n (pc := 60) 0 rfl rfl d_BB_fits_60 ?_
            refine a_getR (pc := 61) fg_BB_77 sx_0 rfl d_BB_fits_61 ?_
            refine a_getI (pc := 64) fg_BB_114 sx_83 rfl d_BB_fits_64 ?_
            refine a_icmp_le (pc := 67) 75 (by decide) d_BB_fits_67 ⟨fun c0 => ?_, fun c0 => ?_⟩
            · replace h := h.1 c0
              refine a_aload_n (pc := 75) 0 rfl rfl d_BB_fits_75 ?_
              refine a_getR (pc := 76) fg_BB_63 sx_0 rfl d_BB_fits_76 ?_
              refine a_getI (pc := 79) fg_BB_269 sx_78 rfl d_BB_fits_79 ?_
              refine a_iload_n (pc := 82) 1 rfl rfl d_BB_fits_82 ?_
              refine a_iconst (pc := 83) (1 : Int32) (by decide) d_BB_fits_83 ?_
              refine a_isub (pc := 84) d_BB_fits_84 ?_
              refine a_callS (pc := 85) (M' := m_SA_numberIn) (As := [.int (fi s1 78 7), .int (x1 - (1 : Int32))]) (st := []) (mc' := 0) (ms' := 0) lk_BB_251 rfl (by decide) (by decide) rfl (Nat.le_of_ble_eq_true rfl) (Nat.le_refl 0) (Nat.le_refl 0) d_BB_fits_85 h ?_
              rintro _ _ s2 ⟨r3, rfl, rfl, h⟩ -
              show Ax g m_BB_fits 0 0 (ZI g Q) SH s2 0 0 88 [(0, .ref (gB g + 0)), (1, .int x1)] [.int r3]
              exact b_iret (pc := 88) rfl d_BB_fits_88 h
            · replace h := h.2 c0
              refine a_bipush (pc := 70) (-2 : Int32) (by decide) d_BB_fits_70 ?_
              refine a_goto (pc := 72) 88 (by decide) d_BB_fits_72 ?_
              exact b_iret (pc := 88) rfl d_BB_fits_88 h
        · replace h := h.2 c0
          refine a_aload_n (pc := 41) 0 rfl rfl d_BB_fits_41 ?_
          refine a_getR (pc := 42) fg_BB_63 sx_0 rfl d_BB_fits_42 ?_
          refine a_getI (pc := 45) fg_BB_266 sx_78 rfl d_BB_fits_45 ?_
          exact b_iret (pc := 48) rfl d_BB_fits_48 h
      · replace h := h.2 c0
        refine a_iconst (pc := 19) (-1 : Int32) (by decide) d_BB_fits_19 ?_
        exact b_iret (pc := 20) rfl d_BB_fits_20 h
theorem ko_BB_fits {g : Gx}  {x1 : Int32} {σ : St} {Q : Int32 → St → Prop} (h : S_BB_fits_0 g Q σ x1) : K_BB_fits g x1 σ Q := KI.of (show plainName "BallBox" = true by decide) (Nat.le_of_ble_eq_true rfl) h
theorem d_BB_where_0 : decode c_BB_where 0 = .ok (.aload_n 0, 1) := by decide +kernel
theorem d_BB_where_1 : decode c_BB_where 1 = .ok (.getfield 77, 3) := by decide +kernel
theorem d_BB_where_4 : decode c_BB_where 4 = .ok (.getfield 172, 3) := by decide +kernel
theorem d_BB_where_7 : decode c_BB_where 7 = .ok (.ifCond .eq 18, 3) := by decide +kernel
theorem d_BB_where_10 : decode c_BB_where 10 = .ok (.iload_n 1, 1) := by decide +kernel
theorem d_BB_where_11 : decode c_BB_where 11 = .ok (.ifCond .lt 14, 3) := by decide +kernel
theorem d_BB_where_14 : decode c_BB_where 14 = .ok (.iload_n 1, 1) := by decide +kernel
theorem d_BB_where_15 : decode c_BB_where 15 = .ok (.aload_n 0, 1) := by decide +kernel
theorem d_BB_where_16 : decode c_BB_where 16 = .ok (.getfield 77, 3) := by decide +kernel
theorem d_BB_where_19 : decode c_BB_where 19 = .ok (.getfield 114, 3) := by decide +kernel
theorem d_BB_where_22 : decode c_BB_where 22 = .ok (.if_icmp .lt 7, 3) := by decide +kernel
theorem d_BB_where_25 : decode c_BB_where 25 = .ok (.ldc2_w 210, 3) := by decide +kernel
theorem d_BB_where_28 : decode c_BB_where 28 = .ok (.lreturn, 1) := by decide +kernel
theorem d_BB_where_29 : decode c_BB_where 29 = .ok (.aload_n 0, 1) := by decide +kernel
theorem d_BB_where_30 : decode c_BB_where 30 = .ok (.getfield 63, 3) := by decide +kernel
theorem d_BB_where_33 : decode c_BB_where 33 = .ok (.aload_n 0, 1) := by decide +kernel
theorem d_BB_where_34 : decode c_BB_where 34 = .ok (.getfield 77, 3) := by decide +kernel
theorem d_BB_where_37 : decode c_BB_where 37 = .ok (.aload_n 0, 1) := by decide +kernel
theorem d_BB_where_38 : decode c_BB_where 38 = .ok (.getfield 111, 3) := by decide +kernel
theorem d_BB_where_41 : decode c_BB_where 41 = .ok (.iconst 0, 1) := by decide +kernel
theorem d_BB_where_42 : decode c_BB_where 42 = .ok (.invokevirtual 263, 3) := by decide +kernel
theorem d_BB_where_45 : decode c_BB_where 45 = .ok (.aload_n 0, 1) := by decide +kernel
theorem d_BB_where_46 : decode c_BB_where 46 = .ok (.getfield 63, 3) := by decide +kernel
theorem d_BB_where_49 : decode c_BB_where 49 = .ok (.iload_n 1, 1) := by decide +kernel
theorem d_BB_where_50 : decode c_BB_where 50 = .ok (.invokevirtual 272, 3) := by decide +kernel
theorem d_BB_where_53 : decode c_BB_where 53 = .ok (.lreturn, 1) := by decide +kernel
def S_BB_where_0 (g : Gx) (Q : Int64 → St → Prop) (σ : St) (x1 : Int32) : Prop := Ax g m_BB_where 0 0 (ZJ g Q) SH σ 0 0 0 [(0, .ref (gB g + 0)), (1, .int x1)] []
theorem sg_BB_where_0 {g : Gx} {Q : Int64 → St → Prop} {σ : St} {x1 : Int32}
    (h : ((fi σ 83 1) = 0 → Q (-1 : Int64) σ) ∧ (¬ (fi σ 83 1) = 0 → (x1 < 0 → Q (-1 : Int64) σ) ∧ (¬ x1 < 0 → (x1 < (fi σ 83 4) → K_LI_keepUp g 83 (fi σ 0 14) (0 : Int32) σ (fun s1 : St => K_LI_cellsOf g x1 s1 (fun (r3 : Int64) (s2 : St) => Q r3 s2))) ∧ (¬ x1 < (fi σ 83 4) → Q (-1 : Int64) σ)))) : S_BB_where_0 g Q σ x1 := by
  show Ax g m_BB_where 0 0 (ZJ g Q) SH σ 0 0 0 [(0, .ref (gB g + 0)), (1, .int x1)] []
  refine a_aload_n (pc := 0) 0 rfl rfl d_BB_where_0 ?_
  refine a_getR (pc := 1) fg_BB_77 sx_0 rfl d_BB_where_1 ?_
  refine a_getI (pc := 4) fg_BB_172 sx_83 rfl d_BB_where_4 ?_
  refine a_if_eq (pc := 7) 25 (by decide) d_BB_where_7 ⟨fun c0 => ?_, fun c0 => ?_⟩
  · replace h := h.1 c0
    refine a_ldc2 (pc := 25) tw955 d_BB_where_25 ?_
    exact b_lret (pc := 28) rfl d_BB_where_28 h
  · replace h := h.2 c0
    refine a_iload_n (pc := 10) 1 rfl rfl d_BB_where_10 ?_
    refine a_if_lt (pc := 11) 25 (by decide) d_BB_where_11 ⟨fun c0 => ?_, fun c0 => ?_⟩
    · replace h := h.1 c0
      refine a_ldc2 (pc := 25) tw955 d_BB_where_25 ?_
      exact b_lret (pc := 28) rfl d_BB_where_28 h
    · replace h := h.2 c0
      refine a_iload_n (pc := 14) 1 rfl rfl d_BB_where_14 ?_
      refine a_aload_n (pc := 15) 0 rfl rfl d_BB_where_15 ?_
      refine a_getR (pc := 16) fg_BB_77 sx_0 rfl d_BB_where_16 ?_
      refine a_getI (pc := 19) fg_BB_114 sx_83 rfl d_BB_where_19 ?_
      refine a_icmp_lt (pc := 22) 29 (by decide) d_BB_where_22 ⟨fun c0 => ?_, fun c0 => ?_⟩
      · replace h := h.1 c0
        refine a_aload_n (pc := 29) 0 rfl rfl d_BB_where_29 ?_
        refine a_getR (pc := 30) fg_BB_63 sx_0 rfl d_BB_where_30 ?_
        refine a_aload_n (pc := 33) 0 rfl rfl d_BB_where_33 ?_
        refine a_getR (pc := 34) fg_BB_77 sx_0 rfl d_BB_where_34 ?_
        refine a_aload_n (pc := 37) 0 rfl rfl d_BB_where_37 ?_
        refine a_getI (pc := 38) fg_BB_111 sx_0 rfl d_BB_where_38 ?_
        refine a_iconst (pc := 41) (0 : Int32) (by decide) d_BB_where_41 ?_
        refine a_callV (pc := 42) (M' := m_LI_keepUp) (As := [.ref (gB g + 83), .int (fi σ 0 14), .int (0 : Int32)]) (st := []) (mc' := 0) (ms' := 0) lk_BB_263 rfl sx_78 rfl (by decide) (by decide) rfl (Nat.le_of_ble_eq_true rfl) (Nat.le_refl 0) (Nat.le_refl 0) d_BB_where_42 h ?_
        rintro _ _ s1 ⟨rfl, rfl, h⟩ -
        show Ax g m_BB_where 0 0 (ZJ g Q) SH s1 0 0 45 [(0, .ref (gB g + 0)), (1, .int x1)] []
        refine a_aload_n (pc := 45) 0 rfl rfl d_BB_where_45 ?_
        refine a_getR (pc := 46) fg_BB_63 sx_0 rfl d_BB_where_46 ?_
        refine a_iload_n (pc := 49) 1 rfl rfl d_BB_where_49 ?_
        refine a_callV (pc := 50) (M' := m_LI_cellsOf) (As := [.int x1]) (st := []) (mc' := 0) (ms' := 0) lk_BB_272 rfl sx_78 rfl (by decide) (by decide) rfl (Nat.le_of_ble_eq_true rfl) (Nat.le_refl 0) (Nat.le_refl 0) d_BB_where_50 h ?_
        rintro _ _ s2 ⟨r3, rfl, rfl, h⟩ -
        show Ax g m_BB_where 0 0 (ZJ g Q) SH s2 0 0 53 [(0, .ref (gB g + 0)), (1, .int x1)] [.long r3]
        exact b_lret (pc := 53) rfl d_BB_where_53 h
      · replace h := h.2 c0
        refine a_ldc2 (pc := 25) tw955 d_BB_where_25 ?_
        exact b_lret (pc := 28) rfl d_BB_where_28 h
theorem ko_BB_where {g : Gx}  {x1 : Int32} {σ : St} {Q : Int64 → St → Prop} (h : S_BB_where_0 g Q σ x1) : K_BB_where g x1 σ Q := KJ.of (show plainName "BallBox" = true by decide) (Nat.le_of_ble_eq_true rfl) h
theorem d_BB_tells_0 : decode c_BB_tells 0 = .ok (.aload_n 0, 1) := by decide +kernel
theorem d_BB_tells_1 : decode c_BB_tells 1 = .ok (.getfield 77, 3) := by decide +kernel
theorem d_BB_tells_4 : decode c_BB_tells 4 = .ok (.getfield 172, 3) := by decide +kernel
theorem d_BB_tells_7 : decode c_BB_tells 7 = .ok (.ifCond .eq 12, 3) := by decide +kernel
theorem d_BB_tells_10 : decode c_BB_tells 10 = .ok (.iload_n 1, 1) := by decide +kernel
theorem d_BB_tells_11 : decode c_BB_tells 11 = .ok (.ifCond .lt 8, 3) := by decide +kernel
theorem d_BB_tells_14 : decode c_BB_tells 14 = .ok (.iload_n 1, 1) := by decide +kernel
theorem d_BB_tells_15 : decode c_BB_tells 15 = .ok (.iconst 1, 1) := by decide +kernel
theorem d_BB_tells_16 : decode c_BB_tells 16 = .ok (.if_icmp .le 5, 3) := by decide +kernel
theorem d_BB_tells_19 : decode c_BB_tells 19 = .ok (.iconst (-1), 1) := by decide +kernel
theorem d_BB_tells_20 : decode c_BB_tells 20 = .ok (.ireturn, 1) := by decide +kernel
theorem d_BB_tells_21 : decode c_BB_tells 21 = .ok (.aload_n 0, 1) := by decide +kernel
theorem d_BB_tells_22 : decode c_BB_tells 22 = .ok (.getfield 63, 3) := by decide +kernel
theorem d_BB_tells_25 : decode c_BB_tells 25 = .ok (.aload_n 0, 1) := by decide +kernel
theorem d_BB_tells_26 : decode c_BB_tells 26 = .ok (.getfield 77, 3) := by decide +kernel
theorem d_BB_tells_29 : decode c_BB_tells 29 = .ok (.aload_n 0, 1) := by decide +kernel
theorem d_BB_tells_30 : decode c_BB_tells 30 = .ok (.getfield 111, 3) := by decide +kernel
theorem d_BB_tells_33 : decode c_BB_tells 33 = .ok (.iconst 1, 1) := by decide +kernel
theorem d_BB_tells_34 : decode c_BB_tells 34 = .ok (.invokevirtual 263, 3) := by decide +kernel
theorem d_BB_tells_37 : decode c_BB_tells 37 = .ok (.aload_n 0, 1) := by decide +kernel
theorem d_BB_tells_38 : decode c_BB_tells 38 = .ok (.getfield 63, 3) := by decide +kernel
theorem d_BB_tells_41 : decode c_BB_tells 41 = .ok (.getfield 266, 3) := by decide +kernel
theorem d_BB_tells_44 : decode c_BB_tells 44 = .ok (.ifCond .ne 6, 3) := by decide +kernel
theorem d_BB_tells_47 : decode c_BB_tells 47 = .ok (.bipush (-2), 2) := by decide +kernel
theorem d_BB_tells_49 : decode c_BB_tells 49 = .ok (.ireturn, 1) := by decide +kernel
theorem d_BB_tells_50 : decode c_BB_tells 50 = .ok (.iload_n 1, 1) := by decide +kernel
theorem d_BB_tells_51 : decode c_BB_tells 51 = .ok (.ifCond .ne 13, 3) := by decide +kernel
theorem d_BB_tells_54 : decode c_BB_tells 54 = .ok (.aload_n 0, 1) := by decide +kernel
theorem d_BB_tells_55 : decode c_BB_tells 55 = .ok (.getfield 63, 3) := by decide +kernel
theorem d_BB_tells_58 : decode c_BB_tells 58 = .ok (.getfield 276, 3) := by decide +kernel
theorem d_BB_tells_61 : decode c_BB_tells 61 = .ok (.goto 10, 3) := by decide +kernel
theorem d_BB_tells_64 : decode c_BB_tells 64 = .ok (.aload_n 0, 1) := by decide +kernel
theorem d_BB_tells_65 : decode c_BB_tells 65 = .ok (.getfield 63, 3) := by decide +kernel
theorem d_BB_tells_68 : decode c_BB_tells 68 = .ok (.getfield 279, 3) := by decide +kernel
theorem d_BB_tells_71 : decode c_BB_tells 71 = .ok (.ireturn, 1) := by decide +kernel
def S_BB_tells_0 (g : Gx) (Q : Int32 → St → Prop) (σ : St) (x1 : Int32) : Prop := Ax g m_BB_tells 0 0 (ZI g Q) SH σ 0 0 0 [(0, .ref (gB g + 0)), (1, .int x1)] []
theorem sg_BB_tells_0 {g : Gx} {Q : Int32 → St → Prop} {σ : St} {x1 : Int32}
    (h : ((fi σ 83 1) = 0 → Q (-1 : Int32) σ) ∧ (¬ (fi σ 83 1) = 0 → (x1 < 0 → Q (-1 : Int32) σ) ∧ (¬ x1 < 0 → (x1 ≤ (1 : Int32) → K_LI_keepUp g 83 (fi σ 0 14) (1 : Int32) σ (fun s1 : St => (¬ (fi s1 78 6) = 0 → (¬ x1 = 0 → Q (fi s1 78 9) s1) ∧ (x1 = 0 → Q (fi s1 78 8) s1)) ∧ ((fi s1 78 6) = 0 → Q (-2 : Int32) s1))) ∧ (¬ x1 ≤ (1 : Int32) → Q (-1 : Int32) σ)))) : S_BB_tells_0 g Q σ x1 := by
  show Ax g m_BB_tells 0 0 (ZI g Q) SH σ 0 0 0 [(0, .ref (gB g + 0)), (1, .int x1)] []
  refine a_aload_n (pc := 0) 0 rfl rfl d_BB_tells_0 ?_
  refine a_getR (pc := 1) fg_BB_77 sx_0 rfl d_BB_tells_1 ?_
  refine a_getI (pc := 4) fg_BB_172 sx_83 rfl d_BB_tells_4 ?_
  refine a_if_eq (pc := 7) 19 (by decide) d_BB_tells_7 ⟨fun c0 => ?_, fun c0 => ?_⟩
  · replace h := h.1 c0
    refine a_iconst (pc := 19) (-1 : Int32) (by decide) d_BB_tells_19 ?_
    exact b_iret (pc := 20) rfl d_BB_tells_20 h
  · replace h := h.2 c0
    refine a_iload_n (pc := 10) 1 rfl rfl d_BB_tells_10 ?_
    refine a_if_lt (pc := 11) 19 (by decide) d_BB_tells_11 ⟨fun c0 => ?_, fun c0 => ?_⟩
    · replace h := h.1 c0
      refine a_iconst (pc := 19) (-1 : Int32) (by decide) d_BB_tells_19 ?_
      exact b_iret (pc := 20) rfl d_BB_tells_20 h
    · replace h := h.2 c0
      refine a_iload_n (pc := 14) 1 rfl rfl d_BB_tells_14 ?_
      refine a_iconst (pc := 15) (1 : Int32) (by decide) d_BB_tells_15 ?_
      refine a_icmp_le (pc := 16) 21 (by decide) d_BB_tells_16 ⟨fun c0 => ?_, fun c0 => ?_⟩
      · replace h := h.1 c0
        refine a_aload_n (pc := 21) 0 rfl rfl d_BB_tells_21 ?_
        refine a_getR (pc := 22) fg_BB_63 sx_0 rfl d_BB_tells_22 ?_
        refine a_aload_n (pc := 25) 0 rfl rfl d_BB_tells_25 ?_
        refine a_getR (pc := 26) fg_BB_77 sx_0 rfl d_BB_tells_26 ?_
        refine a_aload_n (pc := 29) 0 rfl rfl d_BB_tells_29 ?_
        refine a_getI (pc := 30) fg_BB_111 sx_0 rfl d_BB_tells_30 ?_
        refine a_iconst (pc := 33) (1 : Int32) (by decide) d_BB_tells_33 ?_
        refine a_callV (pc := 34) (M' := m_LI_keepUp) (As := [.ref (gB g + 83), .int (fi σ 0 14), .int (1 : Int32)]) (st := []) (mc' := 0) (ms' := 0) lk_BB_263 rfl sx_78 rfl (by decide) (by decide) rfl (Nat.le_of_ble_eq_true rfl) (Nat.le_refl 0) (Nat.le_refl 0) d_BB_tells_34 h ?_
        rintro _ _ s1 ⟨rfl, rfl, h⟩ -
        show Ax g m_BB_tells 0 0 (ZI g Q) SH s1 0 0 37 [(0, .ref (gB g + 0)), (1, .int x1)] []
        refine a_aload_n (pc := 37) 0 rfl rfl d_BB_tells_37 ?_
        refine a_getR (pc := 38) fg_BB_63 sx_0 rfl d_BB_tells_38 ?_
        refine a_getI (pc := 41) fg_BB_266 sx_78 rfl d_BB_tells_41 ?_
        refine a_if_ne (pc := 44) 50 (by decide) d_BB_tells_44 ⟨fun c0 => ?_, fun c0 => ?_⟩
        · replace h := h.1 c0
          refine a_iload_n (pc := 50) 1 rfl rfl d_BB_tells_50 ?_
          refine a_if_ne (pc := 51) 64 (by decide) d_BB_tells_51 ⟨fun c0 => ?_, fun c0 => ?_⟩
          · replace h := h.1 c0
            refine a_aload_n (pc := 64) 0 rfl rfl d_BB_tells_64 ?_
            refine a_getR (pc := 65) fg_BB_63 sx_0 rfl d_BB_tells_65 ?_
            refine a_getI (pc := 68) fg_BB_279 sx_78 rfl d_BB_tells_68 ?_
            exact b_iret (pc := 71) rfl d_BB_tells_71 h
          · replace h := h.2 c0
            refine a_aload_n (pc := 54) 0 rfl rfl d_BB_tells_54 ?_
            refine a_getR (pc := 55) fg_BB_63 sx_0 rfl d_BB_tells_55 ?_
            refine a_getI (pc := 58) fg_BB_276 sx_78 rfl d_BB_tells_58 ?_
            refine a_goto (pc := 61) 71 (by decide) d_BB_tells_61 ?_
            exact b_iret (pc := 71) rfl d_BB_tells_71 h
        · replace h := h.2 c0
          refine a_bipush (pc := 47) (-2 : Int32) (by decide) d_BB_tells_47 ?_
          exact b_iret (pc := 49) rfl d_BB_tells_49 h
      · replace h := h.2 c0
        refine a_iconst (pc := 19) (-1 : Int32) (by decide) d_BB_tells_19 ?_
        exact b_iret (pc := 20) rfl d_BB_tells_20 h
theorem ko_BB_tells {g : Gx}  {x1 : Int32} {σ : St} {Q : Int32 → St → Prop} (h : S_BB_tells_0 g Q σ x1) : K_BB_tells g x1 σ Q := KI.of (show plainName "BallBox" = true by decide) (Nat.le_of_ble_eq_true rfl) h
theorem d_BB_game_0 : decode c_BB_game 0 = .ok (.aload_n 0, 1) := by decide +kernel
theorem d_BB_game_1 : decode c_BB_game 1 = .ok (.getfield 77, 3) := by decide +kernel
theorem d_BB_game_4 : decode c_BB_game 4 = .ok (.getfield 172, 3) := by decide +kernel
theorem d_BB_game_7 : decode c_BB_game 7 = .ok (.ifCond .eq 22, 3) := by decide +kernel
theorem d_BB_game_10 : decode c_BB_game 10 = .ok (.iload_n 1, 1) := by decide +kernel
theorem d_BB_game_11 : decode c_BB_game 11 = .ok (.ifCond .lt 18, 3) := by decide +kernel
theorem d_BB_game_14 : decode c_BB_game 14 = .ok (.iload_n 1, 1) := by decide +kernel
theorem d_BB_game_15 : decode c_BB_game 15 = .ok (.bipush 8, 2) := by decide +kernel
theorem d_BB_game_17 : decode c_BB_game 17 = .ok (.if_icmp .gt 12, 3) := by decide +kernel
theorem d_BB_game_20 : decode c_BB_game 20 = .ok (.iload_n 2, 1) := by decide +kernel
theorem d_BB_game_21 : decode c_BB_game 21 = .ok (.ifCond .lt 8, 3) := by decide +kernel
theorem d_BB_game_24 : decode c_BB_game 24 = .ok (.iload_n 2, 1) := by decide +kernel
theorem d_BB_game_25 : decode c_BB_game 25 = .ok (.iconst 1, 1) := by decide +kernel
theorem d_BB_game_26 : decode c_BB_game 26 = .ok (.if_icmp .le 5, 3) := by decide +kernel
theorem d_BB_game_29 : decode c_BB_game 29 = .ok (.iconst (-1), 1) := by decide +kernel
theorem d_BB_game_30 : decode c_BB_game 30 = .ok (.ireturn, 1) := by decide +kernel
theorem d_BB_game_31 : decode c_BB_game 31 = .ok (.aload_n 0, 1) := by decide +kernel
theorem d_BB_game_32 : decode c_BB_game 32 = .ok (.getfield 70, 3) := by decide +kernel
theorem d_BB_game_35 : decode c_BB_game 35 = .ok (.aload_n 0, 1) := by decide +kernel
theorem d_BB_game_36 : decode c_BB_game 36 = .ok (.getfield 77, 3) := by decide +kernel
theorem d_BB_game_39 : decode c_BB_game 39 = .ok (.iload_n 1, 1) := by decide +kernel
theorem d_BB_game_40 : decode c_BB_game 40 = .ok (.invokevirtual 282, 3) := by decide +kernel
theorem d_BB_game_43 : decode c_BB_game 43 = .ok (.istore_n 3, 1) := by decide +kernel
theorem d_BB_game_44 : decode c_BB_game 44 = .ok (.iload_n 2, 1) := by decide +kernel
theorem d_BB_game_45 : decode c_BB_game 45 = .ok (.iconst 1, 1) := by decide +kernel
theorem d_BB_game_46 : decode c_BB_game 46 = .ok (.if_icmp .ne 5, 3) := by decide +kernel
theorem d_BB_game_49 : decode c_BB_game 49 = .ok (.iload_n 3, 1) := by decide +kernel
theorem d_BB_game_50 : decode c_BB_game 50 = .ok (.ireturn, 1) := by decide +kernel
theorem d_BB_game_51 : decode c_BB_game 51 = .ok (.iload_n 3, 1) := by decide +kernel
theorem d_BB_game_52 : decode c_BB_game 52 = .ok (.bipush (-2), 2) := by decide +kernel
theorem d_BB_game_54 : decode c_BB_game 54 = .ok (.if_icmp .ne 7, 3) := by decide +kernel
theorem d_BB_game_57 : decode c_BB_game 57 = .ok (.iconst 0, 1) := by decide +kernel
theorem d_BB_game_58 : decode c_BB_game 58 = .ok (.goto 4, 3) := by decide +kernel
theorem d_BB_game_61 : decode c_BB_game 61 = .ok (.iconst 1, 1) := by decide +kernel
theorem d_BB_game_62 : decode c_BB_game 62 = .ok (.ireturn, 1) := by decide +kernel
def S_BB_game_0 (g : Gx) (Q : Int32 → St → Prop) (σ : St) (x1 : Int32) (x2 : Int32) : Prop := Ax g m_BB_game 0 0 (ZI g Q) SH σ 0 0 0 [(0, .ref (gB g + 0)), (1, .int x1), (2, .int x2)] []
theorem sg_BB_game_0 {g : Gx} {Q : Int32 → St → Prop} {σ : St} {x1 : Int32} {x2 : Int32}
    (h : ((fi σ 83 1) = 0 → Q (-1 : Int32) σ) ∧ (¬ (fi σ 83 1) = 0 → (x1 < 0 → Q (-1 : Int32) σ) ∧ (¬ x1 < 0 → ((8 : Int32) < x1 → Q (-1 : Int32) σ) ∧ (¬ (8 : Int32) < x1 → (x2 < 0 → Q (-1 : Int32) σ) ∧ (¬ x2 < 0 → (x2 ≤ (1 : Int32) → K_TR_winningWay g 83 x1 σ (fun (r2 : Int32) (s1 : St) => (¬ x2 = (1 : Int32) → (¬ r2 = (-2 : Int32) → Q (1 : Int32) s1) ∧ (r2 = (-2 : Int32) → Q (0 : Int32) s1)) ∧ (x2 = (1 : Int32) → Q r2 s1))) ∧ (¬ x2 ≤ (1 : Int32) → Q (-1 : Int32) σ)))))) : S_BB_game_0 g Q σ x1 x2 := by
  show Ax g m_BB_game 0 0 (ZI g Q) SH σ 0 0 0 [(0, .ref (gB g + 0)), (1, .int x1), (2, .int x2)] []
  refine a_aload_n (pc := 0) 0 rfl rfl d_BB_game_0 ?_
  refine a_getR (pc := 1) fg_BB_77 sx_0 rfl d_BB_game_1 ?_
  refine a_getI (pc := 4) fg_BB_172 sx_83 rfl d_BB_game_4 ?_
  refine a_if_eq (pc := 7) 29 (by decide) d_BB_game_7 ⟨fun c0 => ?_, fun c0 => ?_⟩
  · replace h := h.1 c0
    refine a_iconst (pc := 29) (-1 : Int32) (by decide) d_BB_game_29 ?_
    exact b_iret (pc := 30) rfl d_BB_game_30 h
  · replace h := h.2 c0
    refine a_iload_n (pc := 10) 1 rfl rfl d_BB_game_10 ?_
    refine a_if_lt (pc := 11) 29 (by decide) d_BB_game_11 ⟨fun c0 => ?_, fun c0 => ?_⟩
    · replace h := h.1 c0
      refine a_iconst (pc := 29) (-1 : Int32) (by decide) d_BB_game_29 ?_
      exact b_iret (pc := 30) rfl d_BB_game_30 h
    · replace h := h.2 c0
      refine a_iload_n (pc := 14) 1 rfl rfl d_BB_game_14 ?_
      refine a_bipush (pc := 15) (8 : Int32) (by decide) d_BB_game_15 ?_
      refine a_icmp_gt (pc := 17) 29 (by decide) d_BB_game_17 ⟨fun c0 => ?_, fun c0 => ?_⟩
      · replace h := h.1 c0
        refine a_iconst (pc := 29) (-1 : Int32) (by decide) d_BB_game_29 ?_
        exact b_iret (pc := 30) rfl d_BB_game_30 h
      · replace h := h.2 c0
        refine a_iload_n (pc := 20) 2 rfl rfl d_BB_game_20 ?_
        refine a_if_lt (pc := 21) 29 (by decide) d_BB_game_21 ⟨fun c0 => ?_, fun c0 => ?_⟩
        · replace h := h.1 c0
          refine a_iconst (pc := 29) (-1 : Int32) (by decide) d_BB_game_29 ?_
          exact b_iret (pc := 30) rfl d_BB_game_30 h
        · replace h := h.2 c0
          refine a_iload_n (pc := 24) 2 rfl rfl d_BB_game_24 ?_
          refine a_iconst (pc := 25) (1 : Int32) (by decide) d_BB_game_25 ?_
          refine a_icmp_le (pc := 26) 31 (by decide) d_BB_game_26 ⟨fun c0 => ?_, fun c0 => ?_⟩
          · replace h := h.1 c0
            refine a_aload_n (pc := 31) 0 rfl rfl d_BB_game_31 ?_
            refine a_getR (pc := 32) fg_BB_70 sx_0 rfl d_BB_game_32 ?_
            refine a_aload_n (pc := 35) 0 rfl rfl d_BB_game_35 ?_
            refine a_getR (pc := 36) fg_BB_77 sx_0 rfl d_BB_game_36 ?_
            refine a_iload_n (pc := 39) 1 rfl rfl d_BB_game_39 ?_
            refine a_callV (pc := 40) (M' := m_TR_winningWay) (As := [.ref (gB g + 83), .int x1]) (st := []) (mc' := 0) (ms' := 0) lk_BB_282 rfl sx_82 rfl (by decide) (by decide) rfl (Nat.le_of_ble_eq_true rfl) (Nat.le_refl 0) (Nat.le_refl 0) d_BB_game_40 h ?_
            rintro _ _ s1 ⟨r2, rfl, rfl, h⟩ -
            show Ax g m_BB_game 0 0 (ZI g Q) SH s1 0 0 43 [(0, .ref (gB g + 0)), (1, .int x1), (2, .int x2)] [.int r2]
            refine a_istore_n (pc := 43) (lv' := [(3, .int r2), (0, .ref (gB g + 0)), (1, .int x1), (2, .int x2)]) rfl (Nat.le_of_ble_eq_true rfl) rfl d_BB_game_43 ?_
            refine a_iload_n (pc := 44) 3 rfl rfl d_BB_game_44 ?_
            refine a_iconst (pc := 45) (1 : Int32) (by decide) d_BB_game_45 ?_
            refine a_icmp_ne (pc := 46) 51 (by decide) d_BB_game_46 ⟨fun c0 => ?_, fun c0 => ?_⟩
            · replace h := h.1 c0
              refine a_iload_n (pc := 51) 0 rfl rfl d_BB_game_51 ?_
              refine a_bipush (pc := 52) (-2 : Int32) (by decide) d_BB_game_52 ?_
              refine a_icmp_ne (pc := 54) 61 (by decide) d_BB_game_54 ⟨fun c0 => ?_, fun c0 => ?_⟩
              · replace h := h.1 c0
                refine a_iconst (pc := 61) (1 : Int32) (by decide) d_BB_game_61 ?_
                exact b_iret (pc := 62) rfl d_BB_game_62 h
              · replace h := h.2 c0
                refine a_iconst (pc := 57) (0 : Int32) (by decide) d_BB_game_57 ?_
                refine a_goto (pc := 58) 62 (by decide) d_BB_game_58 ?_
                exact b_iret (pc := 62) rfl d_BB_game_62 h
            · replace h := h.2 c0
              refine a_iload_n (pc := 49) 0 rfl rfl d_BB_game_49 ?_
              exact b_iret (pc := 50) rfl d_BB_game_50 h
          · replace h := h.2 c0
            refine a_iconst (pc := 29) (-1 : Int32) (by decide) d_BB_game_29 ?_
            exact b_iret (pc := 30) rfl d_BB_game_30 h
theorem ko_BB_game {g : Gx}  {x1 : Int32} {x2 : Int32} {σ : St} {Q : Int32 → St → Prop} (h : S_BB_game_0 g Q σ x1 x2) : K_BB_game g x1 x2 σ Q := KI.of (show plainName "BallBox" = true by decide) (Nat.le_of_ble_eq_true rfl) h
theorem d_BB_book_0 : decode c_BB_book 0 = .ok (.aload_n 0, 1) := by decide +kernel
theorem d_BB_book_1 : decode c_BB_book 1 = .ok (.getfield 77, 3) := by decide +kernel
theorem d_BB_book_4 : decode c_BB_book 4 = .ok (.getfield 172, 3) := by decide +kernel
theorem d_BB_book_7 : decode c_BB_book 7 = .ok (.ifCond .ne 5, 3) := by decide +kernel
theorem d_BB_book_10 : decode c_BB_book 10 = .ok (.iconst (-1), 1) := by decide +kernel
theorem d_BB_book_11 : decode c_BB_book 11 = .ok (.ireturn, 1) := by decide +kernel
theorem d_BB_book_12 : decode c_BB_book 12 = .ok (.aload_n 0, 1) := by decide +kernel
theorem d_BB_book_13 : decode c_BB_book 13 = .ok (.getfield 286, 3) := by decide +kernel
theorem d_BB_book_16 : decode c_BB_book 16 = .ok (.bipush 8, 2) := by decide +kernel
theorem d_BB_book_18 : decode c_BB_book 18 = .ok (.if_icmp .ge 10, 3) := by decide +kernel
theorem d_BB_book_21 : decode c_BB_book 21 = .ok (.aload_n 0, 1) := by decide +kernel
theorem d_BB_book_22 : decode c_BB_book 22 = .ok (.invokevirtual 289, 3) := by decide +kernel
theorem d_BB_book_25 : decode c_BB_book 25 = .ok (.ifCond .eq 6, 3) := by decide +kernel
theorem d_BB_book_28 : decode c_BB_book 28 = .ok (.bipush (-2), 2) := by decide +kernel
theorem d_BB_book_30 : decode c_BB_book 30 = .ok (.ireturn, 1) := by decide +kernel
theorem d_BB_book_31 : decode c_BB_book 31 = .ok (.aload_n 0, 1) := by decide +kernel
theorem d_BB_book_32 : decode c_BB_book 32 = .ok (.getfield 42, 3) := by decide +kernel
theorem d_BB_book_35 : decode c_BB_book 35 = .ok (.aload_n 0, 1) := by decide +kernel
theorem d_BB_book_36 : decode c_BB_book 36 = .ok (.getfield 77, 3) := by decide +kernel
theorem d_BB_book_39 : decode c_BB_book 39 = .ok (.aload_n 0, 1) := by decide +kernel
theorem d_BB_book_40 : decode c_BB_book 40 = .ok (.getfield 111, 3) := by decide +kernel
theorem d_BB_book_43 : decode c_BB_book 43 = .ok (.invokevirtual 223, 3) := by decide +kernel
theorem d_BB_book_46 : decode c_BB_book 46 = .ok (.aload_n 0, 1) := by decide +kernel
theorem d_BB_book_47 : decode c_BB_book 47 = .ok (.getfield 85, 3) := by decide +kernel
theorem d_BB_book_50 : decode c_BB_book 50 = .ok (.aload_n 0, 1) := by decide +kernel
theorem d_BB_book_51 : decode c_BB_book 51 = .ok (.getfield 286, 3) := by decide +kernel
theorem d_BB_book_54 : decode c_BB_book 54 = .ok (.aaload, 1) := by decide +kernel
theorem d_BB_book_55 : decode c_BB_book 55 = .ok (.aload_n 0, 1) := by decide +kernel
theorem d_BB_book_56 : decode c_BB_book 56 = .ok (.getfield 77, 3) := by decide +kernel
theorem d_BB_book_59 : decode c_BB_book 59 = .ok (.invokevirtual 293, 3) := by decide +kernel
theorem d_BB_book_62 : decode c_BB_book 62 = .ok (.aload_n 0, 1) := by decide +kernel
theorem d_BB_book_63 : decode c_BB_book 63 = .ok (.getfield 88, 3) := by decide +kernel
theorem d_BB_book_66 : decode c_BB_book 66 = .ok (.aload_n 0, 1) := by decide +kernel
theorem d_BB_book_67 : decode c_BB_book 67 = .ok (.getfield 286, 3) := by decide +kernel
theorem d_BB_book_70 : decode c_BB_book 70 = .ok (.aload_n 0, 1) := by decide +kernel
theorem d_BB_book_71 : decode c_BB_book 71 = .ok (.getfield 42, 3) := by decide +kernel
theorem d_BB_book_74 : decode c_BB_book 74 = .ok (.getfield 226, 3) := by decide +kernel
theorem d_BB_book_77 : decode c_BB_book 77 = .ok (.iastore, 1) := by decide +kernel
theorem d_BB_book_78 : decode c_BB_book 78 = .ok (.aload_n 0, 1) := by decide +kernel
theorem d_BB_book_79 : decode c_BB_book 79 = .ok (.dup, 1) := by decide +kernel
theorem d_BB_book_80 : decode c_BB_book 80 = .ok (.getfield 286, 3) := by decide +kernel
theorem d_BB_book_83 : decode c_BB_book 83 = .ok (.iconst 1, 1) := by decide +kernel
theorem d_BB_book_84 : decode c_BB_book 84 = .ok (.iadd, 1) := by decide +kernel
theorem d_BB_book_85 : decode c_BB_book 85 = .ok (.putfield 286, 3) := by decide +kernel
theorem d_BB_book_88 : decode c_BB_book 88 = .ok (.aload_n 0, 1) := by decide +kernel
theorem d_BB_book_89 : decode c_BB_book 89 = .ok (.getfield 286, 3) := by decide +kernel
theorem d_BB_book_92 : decode c_BB_book 92 = .ok (.iconst 1, 1) := by decide +kernel
theorem d_BB_book_93 : decode c_BB_book 93 = .ok (.isub, 1) := by decide +kernel
theorem d_BB_book_94 : decode c_BB_book 94 = .ok (.ireturn, 1) := by decide +kernel
def S_BB_book_0 (g : Gx) (Q : Int32 → St → Prop) (σ : St) : Prop := Ax g m_BB_book 0 0 (ZI g Q) SH σ 0 0 0 [(0, .ref (gB g + 0))] []
theorem sg_BB_book_0 {g : Gx} {Q : Int32 → St → Prop} {σ : St}
    (h : (¬ (fi σ 83 1) = 0 → ((8 : Int32) ≤ (fi σ 0 13) → Q (-2 : Int32) σ) ∧ (¬ (8 : Int32) ≤ (fi σ 0 13) → K_BB_isInBook g σ (fun (r2 : Int32) (s1 : St) => (r2 = 0 → K_SE_keepUp g 52 83 (fi s1 0 14) s1 (fun s3 : St => vp_in (fi s3 0 13) 8 ∧ (∀ o4 : Nat, o4 = 111 + 5 * ((fi s3 0 13)).toNatClampNeg → isSA o4 → K_SA_takeOver g o4 83 s3 (fun s5 : St => vp_in (fi s5 0 13) 8 ∧ (∀ s6 : St, s6 = sai s5 90 ((fi s5 0 13)).toNatClampNeg (fi s5 52 7) → ∀ s7 : St, s7 = sfi s6 0 13 ((fi s6 0 13) + (1 : Int32)) → Q ((fi s7 0 13) - (1 : Int32)) s7))))) ∧ (¬ r2 = 0 → Q (-2 : Int32) s1)))) ∧ ((fi σ 83 1) = 0 → Q (-1 : Int32) σ)) : S_BB_book_0 g Q σ := by
  show Ax g m_BB_book 0 0 (ZI g Q) SH σ 0 0 0 [(0, .ref (gB g + 0))] []
  refine a_aload_n (pc := 0) 0 rfl rfl d_BB_book_0 ?_
  refine a_getR (pc := 1) fg_BB_77 sx_0 rfl d_BB_book_1 ?_
  refine a_getI (pc := 4) fg_BB_172 sx_83 rfl d_BB_book_4 ?_
  refine a_if_ne (pc := 7) 12 (by decide) d_BB_book_7 ⟨fun c0 => ?_, fun c0 => ?_⟩
  · replace h := h.1 c0
    refine a_aload_n (pc := 12) 0 rfl rfl d_BB_book_12 ?_
    refine a_getI (pc := 13) fg_BB_286 sx_0 rfl d_BB_book_13 ?_
    refine a_bipush (pc := 16) (8 : Int32) (by decide) d_BB_book_16 ?_
    refine a_icmp_ge (pc := 18) 28 (by decide) d_BB_book_18 ⟨fun c0 => ?_, fun c0 => ?_⟩
    · replace h := h.1 c0
      refine a_bipush (pc := 28) (-2 : Int32) (by decide) d_BB_book_28 ?_
      exact b_iret (pc := 30) rfl d_BB_book_30 h
    · replace h := h.2 c0
      refine a_aload_n (pc := 21) 0 rfl rfl d_BB_book_21 ?_
      refine a_callV (pc := 22) (M' := m_BB_isInBook) (As := []) (st := []) (mc' := 0) (ms' := 0) lk_BB_289 rfl sx_0 rfl (by decide) (by decide) rfl (Nat.le_of_ble_eq_true rfl) (Nat.le_refl 0) (Nat.le_refl 0) d_BB_book_22 h ?_
      rintro _ _ s1 ⟨r2, rfl, rfl, h⟩ -
      show Ax g m_BB_book 0 0 (ZI g Q) SH s1 0 0 25 [(0, .ref (gB g + 0))] [.int r2]
      refine a_if_eq (pc := 25) 31 (by decide) d_BB_book_25 ⟨fun c0 => ?_, fun c0 => ?_⟩
      · replace h := h.1 c0
        refine a_aload_n (pc := 31) 0 rfl rfl d_BB_book_31 ?_
        refine a_getR (pc := 32) fg_BB_42 sx_0 rfl d_BB_book_32 ?_
        refine a_aload_n (pc := 35) 0 rfl rfl d_BB_book_35 ?_
        refine a_getR (pc := 36) fg_BB_77 sx_0 rfl d_BB_book_36 ?_
        refine a_aload_n (pc := 39) 0 rfl rfl d_BB_book_39 ?_
        refine a_getI (pc := 40) fg_BB_111 sx_0 rfl d_BB_book_40 ?_
        refine a_callV (pc := 43) (M' := m_SE_keepUp) (As := [.ref (gB g + 83), .int (fi s1 0 14)]) (st := []) (mc' := 0) (ms' := 0) lk_BB_223 rfl sx_52 rfl (by decide) (by decide) rfl (Nat.le_of_ble_eq_true rfl) (Nat.le_refl 0) (Nat.le_refl 0) d_BB_book_43 h ?_
        rintro _ _ s3 ⟨rfl, rfl, h⟩ -
        show Ax g m_BB_book 0 0 (ZI g Q) SH s3 0 0 46 [(0, .ref (gB g + 0))] []
        refine a_aload_n (pc := 46) 0 rfl rfl d_BB_book_46 ?_
        refine a_getR (pc := 47) fg_BB_85 sx_0 rfl d_BB_book_47 ?_
        refine a_aload_n (pc := 50) 0 rfl rfl d_BB_book_50 ?_
        refine a_getI (pc := 51) fg_BB_286 sx_0 rfl d_BB_book_51 ?_
        obtain ⟨hx, h⟩ := h
        refine a_ald5 (pc := 54) sx_89 hx (pag_ld hx).1 d_BB_book_54 ?_
        obtain ⟨o4, eo4⟩ : ∃ y : Nat, y = 111 + 5 * ((fi s3 0 13)).toNatClampNeg := ⟨_, rfl⟩
        have ho4 : isSA o4 := by rw [eo4]; exact (pag_ld hx).2
        rw [← eo4]
        replace h := h o4 eo4 ho4
        refine a_aload_n (pc := 55) 0 rfl rfl d_BB_book_55 ?_
        refine a_getR (pc := 56) fg_BB_77 sx_0 rfl d_BB_book_56 ?_
        refine a_callV (pc := 59) (M' := m_SA_takeOver) (As := [.ref (gB g + 83)]) (st := []) (mc' := 0) (ms' := 0) lk_BB_293 rfl (sa0 ho4) rfl (by decide) (by decide) rfl (Nat.le_of_ble_eq_true rfl) (Nat.le_refl 0) (Nat.le_refl 0) d_BB_book_59 h ?_
        rintro _ _ s5 ⟨rfl, rfl, h⟩ -
        show Ax g m_BB_book 0 0 (ZI g Q) SH s5 0 0 62 [(0, .ref (gB g + 0))] []
        refine a_aload_n (pc := 62) 0 rfl rfl d_BB_book_62 ?_
        refine a_getR (pc := 63) fg_BB_88 sx_0 rfl d_BB_book_63 ?_
        refine a_aload_n (pc := 66) 0 rfl rfl d_BB_book_66 ?_
        refine a_getI (pc := 67) fg_BB_286 sx_0 rfl d_BB_book_67 ?_
        refine a_aload_n (pc := 70) 0 rfl rfl d_BB_book_70 ?_
        refine a_getR (pc := 71) fg_BB_42 sx_0 rfl d_BB_book_71 ?_
        refine a_getI (pc := 74) fg_BB_226 sx_52 rfl d_BB_book_74 ?_
        obtain ⟨hx, h⟩ := h
        refine a_iast (pc := 77) sx_90 hx d_BB_book_77 ?_
        refine a_nms (fun s6 hs6 => ?_)
        replace h := h s6 hs6
        refine a_aload_n (pc := 78) 0 rfl rfl d_BB_book_78 ?_
        refine a_dup (pc := 79) rfl d_BB_book_79 ?_
        refine a_getI (pc := 80) fg_BB_286 sx_0 rfl d_BB_book_80 ?_
        refine a_iconst (pc := 83) (1 : Int32) (by decide) d_BB_book_83 ?_
        refine a_iadd (pc := 84) d_BB_book_84 ?_
        refine a_putI (pc := 85) fp_BB_286 sx_0 rfl d_BB_book_85 ?_
        refine a_nms (fun s7 hs7 => ?_)
        replace h := h s7 hs7
        refine a_aload_n (pc := 88) 0 rfl rfl d_BB_book_88 ?_
        refine a_getI (pc := 89) fg_BB_286 sx_0 rfl d_BB_book_89 ?_
        refine a_iconst (pc := 92) (1 : Int32) (by decide) d_BB_book_92 ?_
        refine a_isub (pc := 93) d_BB_book_93 ?_
        exact b_iret (pc := 94) rfl d_BB_book_94 h
      · replace h := h.2 c0
        refine a_bipush (pc := 28) (-2 : Int32) (by decide) d_BB_book_28 ?_
        exact b_iret (pc := 30) rfl d_BB_book_30 h
  · replace h := h.2 c0
    refine a_iconst (pc := 10) (-1 : Int32) (by decide) d_BB_book_10 ?_
    exact b_iret (pc := 11) rfl d_BB_book_11 h
theorem ko_BB_book {g : Gx}  {σ : St} {Q : Int32 → St → Prop} (h : S_BB_book_0 g Q σ) : K_BB_book g  σ Q := KI.of (show plainName "BallBox" = true by decide) (Nat.le_of_ble_eq_true rfl) h
theorem d_BB_pain_0 : decode c_BB_pain 0 = .ok (.iload_n 1, 1) := by decide +kernel
theorem d_BB_pain_1 : decode c_BB_pain 1 = .ok (.ifCond .lt 11, 3) := by decide +kernel
theorem d_BB_pain_4 : decode c_BB_pain 4 = .ok (.iload_n 1, 1) := by decide +kernel
theorem d_BB_pain_5 : decode c_BB_pain 5 = .ok (.aload_n 0, 1) := by decide +kernel
theorem d_BB_pain_6 : decode c_BB_pain 6 = .ok (.getfield 286, 3) := by decide +kernel
theorem d_BB_pain_9 : decode c_BB_pain 9 = .ok (.if_icmp .lt 7, 3) := by decide +kernel
theorem d_BB_pain_12 : decode c_BB_pain 12 = .ok (.iconst (-1), 1) := by decide +kernel
theorem d_BB_pain_13 : decode c_BB_pain 13 = .ok (.goto 9, 3) := by decide +kernel
theorem d_BB_pain_16 : decode c_BB_pain 16 = .ok (.aload_n 0, 1) := by decide +kernel
theorem d_BB_pain_17 : decode c_BB_pain 17 = .ok (.getfield 88, 3) := by decide +kernel
theorem d_BB_pain_20 : decode c_BB_pain 20 = .ok (.iload_n 1, 1) := by decide +kernel
theorem d_BB_pain_21 : decode c_BB_pain 21 = .ok (.iaload, 1) := by decide +kernel
theorem d_BB_pain_22 : decode c_BB_pain 22 = .ok (.ireturn, 1) := by decide +kernel
def S_BB_pain_0 (g : Gx) (Q : Int32 → St → Prop) (σ : St) (x1 : Int32) : Prop := Ax g m_BB_pain 0 0 (ZI g Q) SH σ 0 0 0 [(0, .ref (gB g + 0)), (1, .int x1)] []
theorem sg_BB_pain_0 {g : Gx} {Q : Int32 → St → Prop} {σ : St} {x1 : Int32}
    (h : (x1 < 0 → Q (-1 : Int32) σ) ∧ (¬ x1 < 0 → (x1 < (fi σ 0 13) → vp_in x1 8 ∧ (Q (ai σ 90 (x1).toNatClampNeg) σ)) ∧ (¬ x1 < (fi σ 0 13) → Q (-1 : Int32) σ))) : S_BB_pain_0 g Q σ x1 := by
  show Ax g m_BB_pain 0 0 (ZI g Q) SH σ 0 0 0 [(0, .ref (gB g + 0)), (1, .int x1)] []
  refine a_iload_n (pc := 0) 1 rfl rfl d_BB_pain_0 ?_
  refine a_if_lt (pc := 1) 12 (by decide) d_BB_pain_1 ⟨fun c0 => ?_, fun c0 => ?_⟩
  · replace h := h.1 c0
    refine a_iconst (pc := 12) (-1 : Int32) (by decide) d_BB_pain_12 ?_
    refine a_goto (pc := 13) 22 (by decide) d_BB_pain_13 ?_
    exact b_iret (pc := 22) rfl d_BB_pain_22 h
  · replace h := h.2 c0
    refine a_iload_n (pc := 4) 1 rfl rfl d_BB_pain_4 ?_
    refine a_aload_n (pc := 5) 0 rfl rfl d_BB_pain_5 ?_
    refine a_getI (pc := 6) fg_BB_286 sx_0 rfl d_BB_pain_6 ?_
    refine a_icmp_lt (pc := 9) 16 (by decide) d_BB_pain_9 ⟨fun c0 => ?_, fun c0 => ?_⟩
    · replace h := h.1 c0
      refine a_aload_n (pc := 16) 0 rfl rfl d_BB_pain_16 ?_
      refine a_getR (pc := 17) fg_BB_88 sx_0 rfl d_BB_pain_17 ?_
      refine a_iload_n (pc := 20) 1 rfl rfl d_BB_pain_20 ?_
      obtain ⟨hx, h⟩ := h
      refine a_iald (pc := 21) sx_90 hx d_BB_pain_21 ?_
      exact b_iret (pc := 22) rfl d_BB_pain_22 h
    · replace h := h.2 c0
      refine a_iconst (pc := 12) (-1 : Int32) (by decide) d_BB_pain_12 ?_
      refine a_goto (pc := 13) 22 (by decide) d_BB_pain_13 ?_
      exact b_iret (pc := 22) rfl d_BB_pain_22 h
theorem ko_BB_pain {g : Gx}  {x1 : Int32} {σ : St} {Q : Int32 → St → Prop} (h : S_BB_pain_0 g Q σ x1) : K_BB_pain g x1 σ Q := KI.of (show plainName "BallBox" = true by decide) (Nat.le_of_ble_eq_true rfl) h
theorem d_BB_seed_0 : decode c_BB_seed 0 = .ok (.iload_n 1, 1) := by decide +kernel
theorem d_BB_seed_1 : decode c_BB_seed 1 = .ok (.ifCond .ge 5, 3) := by decide +kernel
theorem d_BB_seed_4 : decode c_BB_seed 4 = .ok (.iconst (-1), 1) := by decide +kernel
theorem d_BB_seed_5 : decode c_BB_seed 5 = .ok (.ireturn, 1) := by decide +kernel
theorem d_BB_seed_6 : decode c_BB_seed 6 = .ok (.aload_n 0, 1) := by decide +kernel
theorem d_BB_seed_7 : decode c_BB_seed 7 = .ok (.getfield 77, 3) := by decide +kernel
theorem d_BB_seed_10 : decode c_BB_seed 10 = .ok (.getfield 296, 3) := by decide +kernel
theorem d_BB_seed_13 : decode c_BB_seed 13 = .ok (.istore_n 2, 1) := by decide +kernel
theorem d_BB_seed_14 : decode c_BB_seed 14 = .ok (.aload_n 0, 1) := by decide +kernel
theorem d_BB_seed_15 : decode c_BB_seed 15 = .ok (.getfield 77, 3) := by decide +kernel
theorem d_BB_seed_18 : decode c_BB_seed 18 = .ok (.iload_n 1, 1) := by decide +kernel
theorem d_BB_seed_19 : decode c_BB_seed 19 = .ok (.putfield 296, 3) := by decide +kernel
theorem d_BB_seed_22 : decode c_BB_seed 22 = .ok (.iload_n 2, 1) := by decide +kernel
theorem d_BB_seed_23 : decode c_BB_seed 23 = .ok (.ireturn, 1) := by decide +kernel
def S_BB_seed_0 (g : Gx) (Q : Int32 → St → Prop) (σ : St) (x1 : Int32) : Prop := Ax g m_BB_seed 0 0 (ZI g Q) SH σ 0 0 0 [(0, .ref (gB g + 0)), (1, .int x1)] []
theorem sg_BB_seed_0 {g : Gx} {Q : Int32 → St → Prop} {σ : St} {x1 : Int32}
    (h : (0 ≤ x1 → ∀ u1 : Int32, u1 = (fi σ 83 10) → ∀ s2 : St, s2 = sfi σ 83 10 x1 → Q u1 s2) ∧ (¬ 0 ≤ x1 → Q (-1 : Int32) σ)) : S_BB_seed_0 g Q σ x1 := by
  show Ax g m_BB_seed 0 0 (ZI g Q) SH σ 0 0 0 [(0, .ref (gB g + 0)), (1, .int x1)] []
  refine a_iload_n (pc := 0) 1 rfl rfl d_BB_seed_0 ?_
  refine a_if_ge (pc := 1) 6 (by decide) d_BB_seed_1 ⟨fun c0 => ?_, fun c0 => ?_⟩
  · replace h := h.1 c0
    refine a_aload_n (pc := 6) 0 rfl rfl d_BB_seed_6 ?_
    refine a_getR (pc := 7) fg_BB_77 sx_0 rfl d_BB_seed_7 ?_
    refine a_getI (pc := 10) fg_BB_296 sx_83 rfl d_BB_seed_10 ?_
    refine a_nmi (pc := 13) (fun u1 hu1 => ?_)
    replace h := h u1 hu1
    refine a_istore_n (pc := 13) (lv' := [(2, .int u1), (0, .ref (gB g + 0)), (1, .int x1)]) rfl (Nat.le_of_ble_eq_true rfl) rfl d_BB_seed_13 ?_
    refine a_aload_n (pc := 14) 1 rfl rfl d_BB_seed_14 ?_
    refine a_getR (pc := 15) fg_BB_77 sx_0 rfl d_BB_seed_15 ?_
    refine a_iload_n (pc := 18) 2 rfl rfl d_BB_seed_18 ?_
    refine a_putI (pc := 19) fp_BB_296 sx_83 rfl d_BB_seed_19 ?_
    refine a_nms (fun s2 hs2 => ?_)
    replace h := h s2 hs2
    refine a_iload_n (pc := 22) 0 rfl rfl d_BB_seed_22 ?_
    exact b_iret (pc := 23) rfl d_BB_seed_23 h
  · replace h := h.2 c0
    refine a_iconst (pc := 4) (-1 : Int32) (by decide) d_BB_seed_4 ?_
    exact b_iret (pc := 5) rfl d_BB_seed_5 h
theorem ko_BB_seed {g : Gx}  {x1 : Int32} {σ : St} {Q : Int32 → St → Prop} (h : S_BB_seed_0 g Q σ x1) : K_BB_seed g x1 σ Q := KI.of (show plainName "BallBox" = true by decide) (Nat.le_of_ble_eq_true rfl) h
theorem d_BB_shaken_0 : decode c_BB_shaken 0 = .ok (.iload_n 1, 1) := by decide +kernel
theorem d_BB_shaken_1 : decode c_BB_shaken 1 = .ok (.iconst 1, 1) := by decide +kernel
theorem d_BB_shaken_2 : decode c_BB_shaken 2 = .ok (.if_icmp .lt 33, 3) := by decide +kernel
theorem d_BB_shaken_5 : decode c_BB_shaken 5 = .ok (.iload_n 1, 1) := by decide +kernel
theorem d_BB_shaken_6 : decode c_BB_shaken 6 = .ok (.bipush 20, 2) := by decide +kernel
theorem d_BB_shaken_8 : decode c_BB_shaken 8 = .ok (.if_icmp .gt 27, 3) := by decide +kernel
theorem d_BB_shaken_11 : decode c_BB_shaken 11 = .ok (.iload_n 2, 1) := by decide +kernel
theorem d_BB_shaken_12 : decode c_BB_shaken 12 = .ok (.iconst 1, 1) := by decide +kernel
theorem d_BB_shaken_13 : decode c_BB_shaken 13 = .ok (.if_icmp .lt 22, 3) := by decide +kernel
theorem d_BB_shaken_16 : decode c_BB_shaken 16 = .ok (.iload_n 2, 1) := by decide +kernel
theorem d_BB_shaken_17 : decode c_BB_shaken 17 = .ok (.bipush 60, 2) := by decide +kernel
theorem d_BB_shaken_19 : decode c_BB_shaken 19 = .ok (.if_icmp .gt 16, 3) := by decide +kernel
theorem d_BB_shaken_22 : decode c_BB_shaken 22 = .ok (.iload_n 3, 1) := by decide +kernel
theorem d_BB_shaken_23 : decode c_BB_shaken 23 = .ok (.ifCond .lt 12, 3) := by decide +kernel
theorem d_BB_shaken_26 : decode c_BB_shaken 26 = .ok (.iload_n 3, 1) := by decide +kernel
theorem d_BB_shaken_27 : decode c_BB_shaken 27 = .ok (.iconst 2, 1) := by decide +kernel
theorem d_BB_shaken_28 : decode c_BB_shaken 28 = .ok (.if_icmp .gt 7, 3) := by decide +kernel
theorem d_BB_shaken_31 : decode c_BB_shaken 31 = .ok (.iconst 1, 1) := by decide +kernel
theorem d_BB_shaken_32 : decode c_BB_shaken 32 = .ok (.goto 4, 3) := by decide +kernel
theorem d_BB_shaken_35 : decode c_BB_shaken 35 = .ok (.iconst 0, 1) := by decide +kernel
theorem d_BB_shaken_36 : decode c_BB_shaken 36 = .ok (.istore 4, 2) := by decide +kernel
theorem d_BB_shaken_38 : decode c_BB_shaken 38 = .ok (.aload_n 0, 1) := by decide +kernel
theorem d_BB_shaken_39 : decode c_BB_shaken 39 = .ok (.getfield 77, 3) := by decide +kernel
theorem d_BB_shaken_42 : decode c_BB_shaken 42 = .ok (.getfield 172, 3) := by decide +kernel
theorem d_BB_shaken_45 : decode c_BB_shaken 45 = .ok (.ifCond .eq 8, 3) := by decide +kernel
theorem d_BB_shaken_48 : decode c_BB_shaken 48 = .ok (.iload 4, 2) := by decide +kernel
theorem d_BB_shaken_50 : decode c_BB_shaken 50 = .ok (.ifCond .ne 5, 3) := by decide +kernel
theorem d_BB_shaken_53 : decode c_BB_shaken 53 = .ok (.iconst (-1), 1) := by decide +kernel
theorem d_BB_shaken_54 : decode c_BB_shaken 54 = .ok (.ireturn, 1) := by decide +kernel
theorem d_BB_shaken_55 : decode c_BB_shaken 55 = .ok (.aload_n 0, 1) := by decide +kernel
theorem d_BB_shaken_56 : decode c_BB_shaken 56 = .ok (.getfield 70, 3) := by decide +kernel
theorem d_BB_shaken_59 : decode c_BB_shaken 59 = .ok (.aload_n 0, 1) := by decide +kernel
theorem d_BB_shaken_60 : decode c_BB_shaken 60 = .ok (.getfield 77, 3) := by decide +kernel
theorem d_BB_shaken_63 : decode c_BB_shaken 63 = .ok (.iload_n 1, 1) := by decide +kernel
theorem d_BB_shaken_64 : decode c_BB_shaken 64 = .ok (.iload_n 2, 1) := by decide +kernel
theorem d_BB_shaken_65 : decode c_BB_shaken 65 = .ok (.invokevirtual 299, 3) := by decide +kernel
theorem d_BB_shaken_68 : decode c_BB_shaken 68 = .ok (.iload_n 3, 1) := by decide +kernel
theorem d_BB_shaken_69 : decode c_BB_shaken 69 = .ok (.ifCond .ne 13, 3) := by decide +kernel
theorem d_BB_shaken_72 : decode c_BB_shaken 72 = .ok (.aload_n 0, 1) := by decide +kernel
theorem d_BB_shaken_73 : decode c_BB_shaken 73 = .ok (.getfield 70, 3) := by decide +kernel
theorem d_BB_shaken_76 : decode c_BB_shaken 76 = .ok (.getfield 302, 3) := by decide +kernel
theorem d_BB_shaken_79 : decode c_BB_shaken 79 = .ok (.goto 25, 3) := by decide +kernel
theorem d_BB_shaken_82 : decode c_BB_shaken 82 = .ok (.iload_n 3, 1) := by decide +kernel
theorem d_BB_shaken_83 : decode c_BB_shaken 83 = .ok (.iconst 1, 1) := by decide +kernel
theorem d_BB_shaken_84 : decode c_BB_shaken 84 = .ok (.if_icmp .ne 13, 3) := by decide +kernel
theorem d_BB_shaken_87 : decode c_BB_shaken 87 = .ok (.aload_n 0, 1) := by decide +kernel
theorem d_BB_shaken_88 : decode c_BB_shaken 88 = .ok (.getfield 70, 3) := by decide +kernel
theorem d_BB_shaken_91 : decode c_BB_shaken 91 = .ok (.getfield 305, 3) := by decide +kernel
theorem d_BB_shaken_94 : decode c_BB_shaken 94 = .ok (.goto 10, 3) := by decide +kernel
theorem d_BB_shaken_97 : decode c_BB_shaken 97 = .ok (.aload_n 0, 1) := by decide +kernel
theorem d_BB_shaken_98 : decode c_BB_shaken 98 = .ok (.getfield 70, 3) := by decide +kernel
theorem d_BB_shaken_101 : decode c_BB_shaken 101 = .ok (.getfield 208, 3) := by decide +kernel
theorem d_BB_shaken_104 : decode c_BB_shaken 104 = .ok (.ireturn, 1) := by decide +kernel
def S_BB_shaken_0 (g : Gx) (Q : Int32 → St → Prop) (σ : St) (x1 : Int32) (x2 : Int32) (x3 : Int32) : Prop := Ax g m_BB_shaken 0 0 (ZI g Q) SH σ 0 0 0 [(0, .ref (gB g + 0)), (1, .int x1), (2, .int x2), (3, .int x3)] []
def S_BB_shaken_36 (g : Gx) (Q : Int32 → St → Prop) (σ : St) (x1 : Int32) (x2 : Int32) (x3 : Int32) (z0 : Int32) : Prop := Ax g m_BB_shaken 0 0 (ZI g Q) SH σ 0 0 36 [(0, .ref (gB g + 0)), (1, .int x1), (2, .int x2), (3, .int x3)] [.int z0]
theorem sg_BB_shaken_0 {g : Gx} {Q : Int32 → St → Prop} {σ : St} {x1 : Int32} {x2 : Int32} {x3 : Int32}
    (h : (x1 < (1 : Int32) → S_BB_shaken_36 g Q σ x1 x2 x3 (0 : Int32)) ∧ (¬ x1 < (1 : Int32) → ((20 : Int32) < x1 → S_BB_shaken_36 g Q σ x1 x2 x3 (0 : Int32)) ∧ (¬ (20 : Int32) < x1 → (x2 < (1 : Int32) → S_BB_shaken_36 g Q σ x1 x2 x3 (0 : Int32)) ∧ (¬ x2 < (1 : Int32) → ((60 : Int32) < x2 → S_BB_shaken_36 g Q σ x1 x2 x3 (0 : Int32)) ∧ (¬ (60 : Int32) < x2 → (x3 < 0 → S_BB_shaken_36 g Q σ x1 x2 x3 (0 : Int32)) ∧ (¬ x3 < 0 → ((2 : Int32) < x3 → S_BB_shaken_36 g Q σ x1 x2 x3 (0 : Int32)) ∧ (¬ (2 : Int32) < x3 → S_BB_shaken_36 g Q σ x1 x2 x3 (1 : Int32)))))))) : S_BB_shaken_0 g Q σ x1 x2 x3 := by
  show Ax g m_BB_shaken 0 0 (ZI g Q) SH σ 0 0 0 [(0, .ref (gB g + 0)), (1, .int x1), (2, .int x2), (3, .int x3)] []
  refine a_iload_n (pc := 0) 1 rfl rfl d_BB_shaken_0 ?_
  refine a_iconst (pc := 1) (1 : Int32) (by decide) d_BB_shaken_1 ?_
  refine a_icmp_lt (pc := 2) 35 (by decide) d_BB_shaken_2 ⟨fun c0 => ?_, fun c0 => ?_⟩
  · replace h := h.1 c0
    refine a_iconst (pc := 35) (0 : Int32) (by decide) d_BB_shaken_35 ?_
    refine a_sub (pc := 36) [0, 1, 2, 3] rfl ?_
    exact h
  · replace h := h.2 c0
    refine a_iload_n (pc := 5) 1 rfl rfl d_BB_shaken_5 ?_
    refine a_bipush (pc := 6) (20 : Int32) (by decide) d_BB_shaken_6 ?_
    refine a_icmp_gt (pc := 8) 35 (by decide) d_BB_shaken_8 ⟨fun c0 => ?_, fun c0 => ?_⟩
    · replace h := h.1 c0
      refine a_iconst (pc := 35) (0 : Int32) (by decide) d_BB_shaken_35 ?_
      refine a_sub (pc := 36) [0, 1, 2, 3] rfl ?_
      exact h
    · replace h := h.2 c0
      refine a_iload_n (pc := 11) 2 rfl rfl d_BB_shaken_11 ?_
      refine a_iconst (pc := 12) (1 : Int32) (by decide) d_BB_shaken_12 ?_
      refine a_icmp_lt (pc := 13) 35 (by decide) d_BB_shaken_13 ⟨fun c0 => ?_, fun c0 => ?_⟩
      · replace h := h.1 c0
        refine a_iconst (pc := 35) (0 : Int32) (by decide) d_BB_shaken_35 ?_
        refine a_sub (pc := 36) [0, 1, 2, 3] rfl ?_
        exact h
      · replace h := h.2 c0
        refine a_iload_n (pc := 16) 2 rfl rfl d_BB_shaken_16 ?_
        refine a_bipush (pc := 17) (60 : Int32) (by decide) d_BB_shaken_17 ?_
        refine a_icmp_gt (pc := 19) 35 (by decide) d_BB_shaken_19 ⟨fun c0 => ?_, fun c0 => ?_⟩
        · replace h := h.1 c0
          refine a_iconst (pc := 35) (0 : Int32) (by decide) d_BB_shaken_35 ?_
          refine a_sub (pc := 36) [0, 1, 2, 3] rfl ?_
          exact h
        · replace h := h.2 c0
          refine a_iload_n (pc := 22) 3 rfl rfl d_BB_shaken_22 ?_
          refine a_if_lt (pc := 23) 35 (by decide) d_BB_shaken_23 ⟨fun c0 => ?_, fun c0 => ?_⟩
          · replace h := h.1 c0
            refine a_iconst (pc := 35) (0 : Int32) (by decide) d_BB_shaken_35 ?_
            refine a_sub (pc := 36) [0, 1, 2, 3] rfl ?_
            exact h
          · replace h := h.2 c0
            refine a_iload_n (pc := 26) 3 rfl rfl d_BB_shaken_26 ?_
            refine a_iconst (pc := 27) (2 : Int32) (by decide) d_BB_shaken_27 ?_
            refine a_icmp_gt (pc := 28) 35 (by decide) d_BB_shaken_28 ⟨fun c0 => ?_, fun c0 => ?_⟩
            · replace h := h.1 c0
              refine a_iconst (pc := 35) (0 : Int32) (by decide) d_BB_shaken_35 ?_
              refine a_sub (pc := 36) [0, 1, 2, 3] rfl ?_
              exact h
            · replace h := h.2 c0
              refine a_iconst (pc := 31) (1 : Int32) (by decide) d_BB_shaken_31 ?_
              refine a_goto (pc := 32) 36 (by decide) d_BB_shaken_32 ?_
              refine a_sub (pc := 36) [0, 1, 2, 3] rfl ?_
              exact h
theorem sg_BB_shaken_36 {g : Gx} {Q : Int32 → St → Prop} {σ : St} {x1 : Int32} {x2 : Int32} {x3 : Int32} {z0 : Int32}
    (h : ((fi σ 83 1) = 0 → Q (-1 : Int32) σ) ∧ (¬ (fi σ 83 1) = 0 → (¬ z0 = 0 → K_TR_shake g 83 x1 x2 σ (fun s1 : St => (¬ x3 = 0 → (¬ x3 = (1 : Int32) → Q (fi s1 82 2) s1) ∧ (x3 = (1 : Int32) → Q (fi s1 82 7) s1)) ∧ (x3 = 0 → Q (fi s1 82 6) s1))) ∧ (z0 = 0 → Q (-1 : Int32) σ))) : S_BB_shaken_36 g Q σ x1 x2 x3 z0 := by
  show Ax g m_BB_shaken 0 0 (ZI g Q) SH σ 0 0 36 [(0, .ref (gB g + 0)), (1, .int x1), (2, .int x2), (3, .int x3)] [.int z0]
  refine a_istore (pc := 36) (lv' := [(4, .int z0), (0, .ref (gB g + 0)), (1, .int x1), (2, .int x2), (3, .int x3)]) (Nat.le_of_ble_eq_true rfl) rfl d_BB_shaken_36 ?_
  refine a_aload_n (pc := 38) 1 rfl rfl d_BB_shaken_38 ?_
  refine a_getR (pc := 39) fg_BB_77 sx_0 rfl d_BB_shaken_39 ?_
  refine a_getI (pc := 42) fg_BB_172 sx_83 rfl d_BB_shaken_42 ?_
  refine a_if_eq (pc := 45) 53 (by decide) d_BB_shaken_45 ⟨fun c0 => ?_, fun c0 => ?_⟩
  · replace h := h.1 c0
    refine a_iconst (pc := 53) (-1 : Int32) (by decide) d_BB_shaken_53 ?_
    exact b_iret (pc := 54) rfl d_BB_shaken_54 h
  · replace h := h.2 c0
    refine a_iload (pc := 48) 0 rfl d_BB_shaken_48 ?_
    refine a_if_ne (pc := 50) 55 (by decide) d_BB_shaken_50 ⟨fun c0 => ?_, fun c0 => ?_⟩
    · replace h := h.1 c0
      refine a_aload_n (pc := 55) 1 rfl rfl d_BB_shaken_55 ?_
      refine a_getR (pc := 56) fg_BB_70 sx_0 rfl d_BB_shaken_56 ?_
      refine a_aload_n (pc := 59) 1 rfl rfl d_BB_shaken_59 ?_
      refine a_getR (pc := 60) fg_BB_77 sx_0 rfl d_BB_shaken_60 ?_
      refine a_iload_n (pc := 63) 2 rfl rfl d_BB_shaken_63 ?_
      refine a_iload_n (pc := 64) 3 rfl rfl d_BB_shaken_64 ?_
      refine a_callV (pc := 65) (M' := m_TR_shake) (As := [.ref (gB g + 83), .int x1, .int x2]) (st := []) (mc' := 0) (ms' := 0) lk_BB_299 rfl sx_82 rfl (by decide) (by decide) rfl (Nat.le_of_ble_eq_true rfl) (Nat.le_refl 0) (Nat.le_refl 0) d_BB_shaken_65 h ?_
      rintro _ _ s1 ⟨rfl, rfl, h⟩ -
      show Ax g m_BB_shaken 0 0 (ZI g Q) SH s1 0 0 68 [(4, .int z0), (0, .ref (gB g + 0)), (1, .int x1), (2, .int x2), (3, .int x3)] []
      refine a_iload_n (pc := 68) 4 rfl rfl d_BB_shaken_68 ?_
      refine a_if_ne (pc := 69) 82 (by decide) d_BB_shaken_69 ⟨fun c0 => ?_, fun c0 => ?_⟩
      · replace h := h.1 c0
        refine a_iload_n (pc := 82) 4 rfl rfl d_BB_shaken_82 ?_
        refine a_iconst (pc := 83) (1 : Int32) (by decide) d_BB_shaken_83 ?_
        refine a_icmp_ne (pc := 84) 97 (by decide) d_BB_shaken_84 ⟨fun c0 => ?_, fun c0 => ?_⟩
        · replace h := h.1 c0
          refine a_aload_n (pc := 97) 1 rfl rfl d_BB_shaken_97 ?_
          refine a_getR (pc := 98) fg_BB_70 sx_0 rfl d_BB_shaken_98 ?_
          refine a_getI (pc := 101) fg_BB_208 sx_82 rfl d_BB_shaken_101 ?_
          exact b_iret (pc := 104) rfl d_BB_shaken_104 h
        · replace h := h.2 c0
          refine a_aload_n (pc := 87) 1 rfl rfl d_BB_shaken_87 ?_
          refine a_getR (pc := 88) fg_BB_70 sx_0 rfl d_BB_shaken_88 ?_
          refine a_getI (pc := 91) fg_BB_305 sx_82 rfl d_BB_shaken_91 ?_
          refine a_goto (pc := 94) 104 (by decide) d_BB_shaken_94 ?_
          exact b_iret (pc := 104) rfl d_BB_shaken_104 h
      · replace h := h.2 c0
        refine a_aload_n (pc := 72) 1 rfl rfl d_BB_shaken_72 ?_
        refine a_getR (pc := 73) fg_BB_70 sx_0 rfl d_BB_shaken_73 ?_
        refine a_getI (pc := 76) fg_BB_302 sx_82 rfl d_BB_shaken_76 ?_
        refine a_goto (pc := 79) 104 (by decide) d_BB_shaken_79 ?_
        exact b_iret (pc := 104) rfl d_BB_shaken_104 h
    · replace h := h.2 c0
      refine a_iconst (pc := 53) (-1 : Int32) (by decide) d_BB_shaken_53 ?_
      exact b_iret (pc := 54) rfl d_BB_shaken_54 h
theorem ko_BB_shaken {g : Gx}  {x1 : Int32} {x2 : Int32} {x3 : Int32} {σ : St} {Q : Int32 → St → Prop} (h : S_BB_shaken_0 g Q σ x1 x2 x3) : K_BB_shaken g x1 x2 x3 σ Q := KI.of (show plainName "BallBox" = true by decide) (Nat.le_of_ble_eq_true rfl) h
theorem d_BB_count_0 : decode c_BB_count 0 = .ok (.iload_n 1, 1) := by decide +kernel
theorem d_BB_count_1 : decode c_BB_count 1 = .ok (.tableswitch 192 0 13 #[71, 79, 87, 95, 110, 123, 131, 139, 147, 155, 163, 168, 176, 184], 71) := by decide +kernel
theorem d_BB_count_72 : decode c_BB_count 72 = .ok (.aload_n 0, 1) := by decide +kernel
theorem d_BB_count_73 : decode c_BB_count 73 = .ok (.getfield 77, 3) := by decide +kernel
theorem d_BB_count_76 : decode c_BB_count 76 = .ok (.getfield 308, 3) := by decide +kernel
theorem d_BB_count_79 : decode c_BB_count 79 = .ok (.ireturn, 1) := by decide +kernel
theorem d_BB_count_80 : decode c_BB_count 80 = .ok (.aload_n 0, 1) := by decide +kernel
theorem d_BB_count_81 : decode c_BB_count 81 = .ok (.getfield 77, 3) := by decide +kernel
theorem d_BB_count_84 : decode c_BB_count 84 = .ok (.getfield 311, 3) := by decide +kernel
theorem d_BB_count_87 : decode c_BB_count 87 = .ok (.ireturn, 1) := by decide +kernel
theorem d_BB_count_88 : decode c_BB_count 88 = .ok (.aload_n 0, 1) := by decide +kernel
theorem d_BB_count_89 : decode c_BB_count 89 = .ok (.getfield 77, 3) := by decide +kernel
theorem d_BB_count_92 : decode c_BB_count 92 = .ok (.getfield 114, 3) := by decide +kernel
theorem d_BB_count_95 : decode c_BB_count 95 = .ok (.ireturn, 1) := by decide +kernel
theorem d_BB_count_96 : decode c_BB_count 96 = .ok (.aload_n 0, 1) := by decide +kernel
theorem d_BB_count_97 : decode c_BB_count 97 = .ok (.getfield 77, 3) := by decide +kernel
theorem d_BB_count_100 : decode c_BB_count 100 = .ok (.aload_n 0, 1) := by decide +kernel
theorem d_BB_count_101 : decode c_BB_count 101 = .ok (.getfield 77, 3) := by decide +kernel
theorem d_BB_count_104 : decode c_BB_count 104 = .ok (.getfield 139, 3) := by decide +kernel
theorem d_BB_count_107 : decode c_BB_count 107 = .ok (.invokevirtual 202, 3) := by decide +kernel
theorem d_BB_count_110 : decode c_BB_count 110 = .ok (.ireturn, 1) := by decide +kernel
theorem d_BB_count_111 : decode c_BB_count 111 = .ok (.aload_n 0, 1) := by decide +kernel
theorem d_BB_count_112 : decode c_BB_count 112 = .ok (.getfield 77, 3) := by decide +kernel
theorem d_BB_count_115 : decode c_BB_count 115 = .ok (.getfield 139, 3) := by decide +kernel
theorem d_BB_count_118 : decode c_BB_count 118 = .ok (.bipush 7, 2) := by decide +kernel
theorem d_BB_count_120 : decode c_BB_count 120 = .ok (.invokestatic 205, 3) := by decide +kernel
theorem d_BB_count_123 : decode c_BB_count 123 = .ok (.ireturn, 1) := by decide +kernel
theorem d_BB_count_124 : decode c_BB_count 124 = .ok (.aload_n 0, 1) := by decide +kernel
theorem d_BB_count_125 : decode c_BB_count 125 = .ok (.getfield 77, 3) := by decide +kernel
theorem d_BB_count_128 : decode c_BB_count 128 = .ok (.getfield 183, 3) := by decide +kernel
theorem d_BB_count_131 : decode c_BB_count 131 = .ok (.ireturn, 1) := by decide +kernel
theorem d_BB_count_132 : decode c_BB_count 132 = .ok (.aload_n 0, 1) := by decide +kernel
theorem d_BB_count_133 : decode c_BB_count 133 = .ok (.getfield 33, 3) := by decide +kernel
theorem d_BB_count_136 : decode c_BB_count 136 = .ok (.getfield 117, 3) := by decide +kernel
theorem d_BB_count_139 : decode c_BB_count 139 = .ok (.ireturn, 1) := by decide +kernel
theorem d_BB_count_140 : decode c_BB_count 140 = .ok (.aload_n 0, 1) := by decide +kernel
theorem d_BB_count_141 : decode c_BB_count 141 = .ok (.getfield 77, 3) := by decide +kernel
theorem d_BB_count_144 : decode c_BB_count 144 = .ok (.getfield 128, 3) := by decide +kernel
theorem d_BB_count_147 : decode c_BB_count 147 = .ok (.ireturn, 1) := by decide +kernel
theorem d_BB_count_148 : decode c_BB_count 148 = .ok (.aload_n 0, 1) := by decide +kernel
theorem d_BB_count_149 : decode c_BB_count 149 = .ok (.getfield 77, 3) := by decide +kernel
theorem d_BB_count_152 : decode c_BB_count 152 = .ok (.getfield 192, 3) := by decide +kernel
theorem d_BB_count_155 : decode c_BB_count 155 = .ok (.ireturn, 1) := by decide +kernel
theorem d_BB_count_156 : decode c_BB_count 156 = .ok (.aload_n 0, 1) := by decide +kernel
theorem d_BB_count_157 : decode c_BB_count 157 = .ok (.getfield 77, 3) := by decide +kernel
theorem d_BB_count_160 : decode c_BB_count 160 = .ok (.getfield 254, 3) := by decide +kernel
theorem d_BB_count_163 : decode c_BB_count 163 = .ok (.ireturn, 1) := by decide +kernel
theorem d_BB_count_164 : decode c_BB_count 164 = .ok (.aload_n 0, 1) := by decide +kernel
theorem d_BB_count_165 : decode c_BB_count 165 = .ok (.getfield 286, 3) := by decide +kernel
theorem d_BB_count_168 : decode c_BB_count 168 = .ok (.ireturn, 1) := by decide +kernel
theorem d_BB_count_169 : decode c_BB_count 169 = .ok (.aload_n 0, 1) := by decide +kernel
theorem d_BB_count_170 : decode c_BB_count 170 = .ok (.getfield 77, 3) := by decide +kernel
theorem d_BB_count_173 : decode c_BB_count 173 = .ok (.getfield 296, 3) := by decide +kernel
theorem d_BB_count_176 : decode c_BB_count 176 = .ok (.ireturn, 1) := by decide +kernel
theorem d_BB_count_177 : decode c_BB_count 177 = .ok (.aload_n 0, 1) := by decide +kernel
theorem d_BB_count_178 : decode c_BB_count 178 = .ok (.getfield 10, 3) := by decide +kernel
theorem d_BB_count_181 : decode c_BB_count 181 = .ok (.getfield 92, 3) := by decide +kernel
theorem d_BB_count_184 : decode c_BB_count 184 = .ok (.ireturn, 1) := by decide +kernel
theorem d_BB_count_185 : decode c_BB_count 185 = .ok (.aload_n 0, 1) := by decide +kernel
theorem d_BB_count_186 : decode c_BB_count 186 = .ok (.getfield 77, 3) := by decide +kernel
theorem d_BB_count_189 : decode c_BB_count 189 = .ok (.invokevirtual 314, 3) := by decide +kernel
theorem d_BB_count_192 : decode c_BB_count 192 = .ok (.ireturn, 1) := by decide +kernel
theorem d_BB_count_193 : decode c_BB_count 193 = .ok (.iconst (-1), 1) := by decide +kernel
theorem d_BB_count_194 : decode c_BB_count 194 = .ok (.ireturn, 1) := by decide +kernel
def S_BB_count_0 (g : Gx) (Q : Int32 → St → Prop) (σ : St) (x1 : Int32) : Prop := Ax g m_BB_count 0 0 (ZI g Q) SH σ 0 0 0 [(0, .ref (gB g + 0)), (1, .int x1)] []
theorem sg_BB_count_0 {g : Gx} {Q : Int32 → St → Prop} {σ : St} {x1 : Int32}
    (h : ((x1 = (0 : Int32) → Q (fi σ 83 2) σ) ∧ (x1 = (1 : Int32) → Q (fi σ 83 3) σ) ∧ (x1 = (2 : Int32) → Q (fi σ 83 4) σ) ∧ (x1 = (3 : Int32) → K_SA_howManyHome g 83 (fi σ 83 5) σ (fun (r2 : Int32) (s1 : St) => Q r2 s1)) ∧ (x1 = (4 : Int32) → K_SA_howMany g (fi σ 83 5) (7 : Int32) σ (fun (r4 : Int32) (s3 : St) => Q r4 s3)) ∧ (x1 = (5 : Int32) → Q (fi σ 83 6) σ) ∧ (x1 = (6 : Int32) → Q (fi σ 17 5) σ) ∧ (x1 = (7 : Int32) → Q (fi σ 83 9) σ) ∧ (x1 = (8 : Int32) → Q (fi σ 83 7) σ) ∧ (x1 = (9 : Int32) → Q (fi σ 83 8) σ) ∧ (x1 = (10 : Int32) → Q (fi σ 0 13) σ) ∧ (x1 = (11 : Int32) → Q (fi σ 83 10) σ) ∧ (x1 = (12 : Int32) → Q (fi σ 1 1) σ) ∧ (x1 = (13 : Int32) → K_SA_howManyWalls g 83 σ (fun (r6 : Int32) (s5 : St) => Q r6 s5)) ∧ (¬ x1 = (0 : Int32) → ¬ x1 = (1 : Int32) → ¬ x1 = (2 : Int32) → ¬ x1 = (3 : Int32) → ¬ x1 = (4 : Int32) → ¬ x1 = (5 : Int32) → ¬ x1 = (6 : Int32) → ¬ x1 = (7 : Int32) → ¬ x1 = (8 : Int32) → ¬ x1 = (9 : Int32) → ¬ x1 = (10 : Int32) → ¬ x1 = (11 : Int32) → ¬ x1 = (12 : Int32) → ¬ x1 = (13 : Int32) → Q (-1 : Int32) σ))) : S_BB_count_0 g Q σ x1 := by
  show Ax g m_BB_count 0 0 (ZI g Q) SH σ 0 0 0 [(0, .ref (gB g + 0)), (1, .int x1)] []
  refine a_iload_n (pc := 0) 1 rfl rfl d_BB_count_0 ?_
  by_cases c0 : x1 = (0 : Int32)
  · replace h := h.1 c0
    refine a_tableIn (pc := 1) 72 (off := 71) (by rw [c0]; decide) (by rw [c0]; decide) (by rw [c0]; rfl) (by decide) d_BB_count_1 ?_
    refine a_aload_n (pc := 72) 0 rfl rfl d_BB_count_72 ?_
    refine a_getR (pc := 73) fg_BB_77 sx_0 rfl d_BB_count_73 ?_
    refine a_getI (pc := 76) fg_BB_308 sx_83 rfl d_BB_count_76 ?_
    exact b_iret (pc := 79) rfl d_BB_count_79 h
  replace h := h.2
  by_cases c1 : x1 = (1 : Int32)
  · replace h := h.1 c1
    refine a_tableIn (pc := 1) 80 (off := 79) (by rw [c1]; decide) (by rw [c1]; decide) (by rw [c1]; rfl) (by decide) d_BB_count_1 ?_
    refine a_aload_n (pc := 80) 0 rfl rfl d_BB_count_80 ?_
    refine a_getR (pc := 81) fg_BB_77 sx_0 rfl d_BB_count_81 ?_
    refine a_getI (pc := 84) fg_BB_311 sx_83 rfl d_BB_count_84 ?_
    exact b_iret (pc := 87) rfl d_BB_count_87 h
  replace h := h.2
  by_cases c2 : x1 = (2 : Int32)
  · replace h := h.1 c2
    refine a_tableIn (pc := 1) 88 (off := 87) (by rw [c2]; decide) (by rw [c2]; decide) (by rw [c2]; rfl) (by decide) d_BB_count_1 ?_
    refine a_aload_n (pc := 88) 0 rfl rfl d_BB_count_88 ?_
    refine a_getR (pc := 89) fg_BB_77 sx_0 rfl d_BB_count_89 ?_
    refine a_getI (pc := 92) fg_BB_114 sx_83 rfl d_BB_count_92 ?_
    exact b_iret (pc := 95) rfl d_BB_count_95 h
  replace h := h.2
  by_cases c3 : x1 = (3 : Int32)
  · replace h := h.1 c3
    refine a_tableIn (pc := 1) 96 (off := 95) (by rw [c3]; decide) (by rw [c3]; decide) (by rw [c3]; rfl) (by decide) d_BB_count_1 ?_
    refine a_aload_n (pc := 96) 0 rfl rfl d_BB_count_96 ?_
    refine a_getR (pc := 97) fg_BB_77 sx_0 rfl d_BB_count_97 ?_
    refine a_aload_n (pc := 100) 0 rfl rfl d_BB_count_100 ?_
    refine a_getR (pc := 101) fg_BB_77 sx_0 rfl d_BB_count_101 ?_
    refine a_getI (pc := 104) fg_BB_139 sx_83 rfl d_BB_count_104 ?_
    refine a_callV (pc := 107) (M' := m_SA_howManyHome) (As := [.int (fi σ 83 5)]) (st := []) (mc' := 0) (ms' := 0) lk_BB_202 rfl sx_83 rfl (by decide) (by decide) rfl (Nat.le_of_ble_eq_true rfl) (Nat.le_refl 0) (Nat.le_refl 0) d_BB_count_107 h ?_
    rintro _ _ s1 ⟨r2, rfl, rfl, h⟩ -
    show Ax g m_BB_count 0 0 (ZI g Q) SH s1 0 0 110 [(0, .ref (gB g + 0)), (1, .int x1)] [.int r2]
    exact b_iret (pc := 110) rfl d_BB_count_110 h
  replace h := h.2
  by_cases c4 : x1 = (4 : Int32)
  · replace h := h.1 c4
    refine a_tableIn (pc := 1) 111 (off := 110) (by rw [c4]; decide) (by rw [c4]; decide) (by rw [c4]; rfl) (by decide) d_BB_count_1 ?_
    refine a_aload_n (pc := 111) 0 rfl rfl d_BB_count_111 ?_
    refine a_getR (pc := 112) fg_BB_77 sx_0 rfl d_BB_count_112 ?_
    refine a_getI (pc := 115) fg_BB_139 sx_83 rfl d_BB_count_115 ?_
    refine a_bipush (pc := 118) (7 : Int32) (by decide) d_BB_count_118 ?_
    refine a_callS (pc := 120) (M' := m_SA_howMany) (As := [.int (fi σ 83 5), .int (7 : Int32)]) (st := []) (mc' := 0) (ms' := 0) lk_BB_205 rfl (by decide) (by decide) rfl (Nat.le_of_ble_eq_true rfl) (Nat.le_refl 0) (Nat.le_refl 0) d_BB_count_120 h ?_
    rintro _ _ s3 ⟨r4, rfl, rfl, h⟩ -
    show Ax g m_BB_count 0 0 (ZI g Q) SH s3 0 0 123 [(0, .ref (gB g + 0)), (1, .int x1)] [.int r4]
    exact b_iret (pc := 123) rfl d_BB_count_123 h
  replace h := h.2
  by_cases c5 : x1 = (5 : Int32)
  · replace h := h.1 c5
    refine a_tableIn (pc := 1) 124 (off := 123) (by rw [c5]; decide) (by rw [c5]; decide) (by rw [c5]; rfl) (by decide) d_BB_count_1 ?_
    refine a_aload_n (pc := 124) 0 rfl rfl d_BB_count_124 ?_
    refine a_getR (pc := 125) fg_BB_77 sx_0 rfl d_BB_count_125 ?_
    refine a_getI (pc := 128) fg_BB_183 sx_83 rfl d_BB_count_128 ?_
    exact b_iret (pc := 131) rfl d_BB_count_131 h
  replace h := h.2
  by_cases c6 : x1 = (6 : Int32)
  · replace h := h.1 c6
    refine a_tableIn (pc := 1) 132 (off := 131) (by rw [c6]; decide) (by rw [c6]; decide) (by rw [c6]; rfl) (by decide) d_BB_count_1 ?_
    refine a_aload_n (pc := 132) 0 rfl rfl d_BB_count_132 ?_
    refine a_getR (pc := 133) fg_BB_33 sx_0 rfl d_BB_count_133 ?_
    refine a_getI (pc := 136) fg_BB_117 sx_17 rfl d_BB_count_136 ?_
    exact b_iret (pc := 139) rfl d_BB_count_139 h
  replace h := h.2
  by_cases c7 : x1 = (7 : Int32)
  · replace h := h.1 c7
    refine a_tableIn (pc := 1) 140 (off := 139) (by rw [c7]; decide) (by rw [c7]; decide) (by rw [c7]; rfl) (by decide) d_BB_count_1 ?_
    refine a_aload_n (pc := 140) 0 rfl rfl d_BB_count_140 ?_
    refine a_getR (pc := 141) fg_BB_77 sx_0 rfl d_BB_count_141 ?_
    refine a_getI (pc := 144) fg_BB_128 sx_83 rfl d_BB_count_144 ?_
    exact b_iret (pc := 147) rfl d_BB_count_147 h
  replace h := h.2
  by_cases c8 : x1 = (8 : Int32)
  · replace h := h.1 c8
    refine a_tableIn (pc := 1) 148 (off := 147) (by rw [c8]; decide) (by rw [c8]; decide) (by rw [c8]; rfl) (by decide) d_BB_count_1 ?_
    refine a_aload_n (pc := 148) 0 rfl rfl d_BB_count_148 ?_
    refine a_getR (pc := 149) fg_BB_77 sx_0 rfl d_BB_count_149 ?_
    refine a_getI (pc := 152) fg_BB_192 sx_83 rfl d_BB_count_152 ?_
    exact b_iret (pc := 155) rfl d_BB_count_155 h
  replace h := h.2
  by_cases c9 : x1 = (9 : Int32)
  · replace h := h.1 c9
    refine a_tableIn (pc := 1) 156 (off := 155) (by rw [c9]; decide) (by rw [c9]; decide) (by rw [c9]; rfl) (by decide) d_BB_count_1 ?_
    refine a_aload_n (pc := 156) 0 rfl rfl d_BB_count_156 ?_
    refine a_getR (pc := 157) fg_BB_77 sx_0 rfl d_BB_count_157 ?_
    refine a_getI (pc := 160) fg_BB_254 sx_83 rfl d_BB_count_160 ?_
    exact b_iret (pc := 163) rfl d_BB_count_163 h
  replace h := h.2
  by_cases c10 : x1 = (10 : Int32)
  · replace h := h.1 c10
    refine a_tableIn (pc := 1) 164 (off := 163) (by rw [c10]; decide) (by rw [c10]; decide) (by rw [c10]; rfl) (by decide) d_BB_count_1 ?_
    refine a_aload_n (pc := 164) 0 rfl rfl d_BB_count_164 ?_
    refine a_getI (pc := 165) fg_BB_286 sx_0 rfl d_BB_count_165 ?_
    exact b_iret (pc := 168) rfl d_BB_count_168 h
  replace h := h.2
  by_cases c11 : x1 = (11 : Int32)
  · replace h := h.1 c11
    refine a_tableIn (pc := 1) 169 (off := 168) (by rw [c11]; decide) (by rw [c11]; decide) (by rw [c11]; rfl) (by decide) d_BB_count_1 ?_
    refine a_aload_n (pc := 169) 0 rfl rfl d_BB_count_169 ?_
    refine a_getR (pc := 170) fg_BB_77 sx_0 rfl d_BB_count_170 ?_
    refine a_getI (pc := 173) fg_BB_296 sx_83 rfl d_BB_count_173 ?_
    exact b_iret (pc := 176) rfl d_BB_count_176 h
  replace h := h.2
  by_cases c12 : x1 = (12 : Int32)
  · replace h := h.1 c12
    refine a_tableIn (pc := 1) 177 (off := 176) (by rw [c12]; decide) (by rw [c12]; decide) (by rw [c12]; rfl) (by decide) d_BB_count_1 ?_
    refine a_aload_n (pc := 177) 0 rfl rfl d_BB_count_177 ?_
    refine a_getR (pc := 178) fg_BB_10 sx_0 rfl d_BB_count_178 ?_
    refine a_getI (pc := 181) fg_BB_92 sx_1 rfl d_BB_count_181 ?_
    exact b_iret (pc := 184) rfl d_BB_count_184 h
  replace h := h.2
  by_cases c13 : x1 = (13 : Int32)
  · replace h := h.1 c13
    refine a_tableIn (pc := 1) 185 (off := 184) (by rw [c13]; decide) (by rw [c13]; decide) (by rw [c13]; rfl) (by decide) d_BB_count_1 ?_
    refine a_aload_n (pc := 185) 0 rfl rfl d_BB_count_185 ?_
    refine a_getR (pc := 186) fg_BB_77 sx_0 rfl d_BB_count_186 ?_
    refine a_callV (pc := 189) (M' := m_SA_howManyWalls) (As := []) (st := []) (mc' := 0) (ms' := 0) lk_BB_314 rfl sx_83 rfl (by decide) (by decide) rfl (Nat.le_of_ble_eq_true rfl) (Nat.le_refl 0) (Nat.le_refl 0) d_BB_count_189 h ?_
    rintro _ _ s5 ⟨r6, rfl, rfl, h⟩ -
    show Ax g m_BB_count 0 0 (ZI g Q) SH s5 0 0 192 [(0, .ref (gB g + 0)), (1, .int x1)] [.int r6]
    exact b_iret (pc := 192) rfl d_BB_count_192 h
  replace h := h.2
  replace h := h c0 c1 c2 c3 c4 c5 c6 c7 c8 c9 c10 c11 c12 c13
  have e0 := lv_neT (a := 0) c0 rfl
  have e1 := lv_neT (a := 1) c1 rfl
  have e2 := lv_neT (a := 2) c2 rfl
  have e3 := lv_neT (a := 3) c3 rfl
  have e4 := lv_neT (a := 4) c4 rfl
  have e5 := lv_neT (a := 5) c5 rfl
  have e6 := lv_neT (a := 6) c6 rfl
  have e7 := lv_neT (a := 7) c7 rfl
  have e8 := lv_neT (a := 8) c8 rfl
  have e9 := lv_neT (a := 9) c9 rfl
  have e10 := lv_neT (a := 10) c10 rfl
  have e11 := lv_neT (a := 11) c11 rfl
  have e12 := lv_neT (a := 12) c12 rfl
  have e13 := lv_neT (a := 13) c13 rfl
  refine a_tableOut (pc := 1) 193 (by omega) (by decide) d_BB_count_1 ?_
  refine a_iconst (pc := 193) (-1 : Int32) (by decide) d_BB_count_193 ?_
  exact b_iret (pc := 194) rfl d_BB_count_194 h
theorem ko_BB_count {g : Gx}  {x1 : Int32} {σ : St} {Q : Int32 → St → Prop} (h : S_BB_count_0 g Q σ x1) : K_BB_count g x1 σ Q := KI.of (show plainName "BallBox" = true by decide) (Nat.le_of_ble_eq_true rfl) h
theorem d_BB_image_0 : decode c_BB_image 0 = .ok (.iload_n 1, 1) := by decide +kernel
theorem d_BB_image_1 : decode c_BB_image 1 = .ok (.ifCond .lt 8, 3) := by decide +kernel
theorem d_BB_image_4 : decode c_BB_image 4 = .ok (.iload_n 1, 1) := by decide +kernel
theorem d_BB_image_5 : decode c_BB_image 5 = .ok (.iconst 4, 1) := by decide +kernel
theorem d_BB_image_6 : decode c_BB_image 6 = .ok (.if_icmp .lt 5, 3) := by decide +kernel
theorem d_BB_image_9 : decode c_BB_image 9 = .ok (.iconst (-1), 1) := by decide +kernel
theorem d_BB_image_10 : decode c_BB_image 10 = .ok (.ireturn, 1) := by decide +kernel
theorem d_BB_image_11 : decode c_BB_image 11 = .ok (.aload_n 0, 1) := by decide +kernel
theorem d_BB_image_12 : decode c_BB_image 12 = .ok (.getfield 81, 3) := by decide +kernel
theorem d_BB_image_15 : decode c_BB_image 15 = .ok (.iload_n 1, 1) := by decide +kernel
theorem d_BB_image_16 : decode c_BB_image 16 = .ok (.aaload, 1) := by decide +kernel
theorem d_BB_image_17 : decode c_BB_image 17 = .ok (.aload_n 0, 1) := by decide +kernel
theorem d_BB_image_18 : decode c_BB_image 18 = .ok (.getfield 77, 3) := by decide +kernel
theorem d_BB_image_21 : decode c_BB_image 21 = .ok (.invokevirtual 293, 3) := by decide +kernel
theorem d_BB_image_24 : decode c_BB_image 24 = .ok (.aload_n 0, 1) := by decide +kernel
theorem d_BB_image_25 : decode c_BB_image 25 = .ok (.getfield 81, 3) := by decide +kernel
theorem d_BB_image_28 : decode c_BB_image 28 = .ok (.iload_n 1, 1) := by decide +kernel
theorem d_BB_image_29 : decode c_BB_image 29 = .ok (.aaload, 1) := by decide +kernel
theorem d_BB_image_30 : decode c_BB_image 30 = .ok (.iconst 1, 1) := by decide +kernel
theorem d_BB_image_31 : decode c_BB_image 31 = .ok (.putfield 318, 3) := by decide +kernel
theorem d_BB_image_34 : decode c_BB_image 34 = .ok (.aload_n 0, 1) := by decide +kernel
theorem d_BB_image_35 : decode c_BB_image 35 = .ok (.getfield 77, 3) := by decide +kernel
theorem d_BB_image_38 : decode c_BB_image 38 = .ok (.getfield 183, 3) := by decide +kernel
theorem d_BB_image_41 : decode c_BB_image 41 = .ok (.ireturn, 1) := by decide +kernel
def S_BB_image_0 (g : Gx) (Q : Int32 → St → Prop) (σ : St) (x1 : Int32) : Prop := Ax g m_BB_image 0 0 (ZI g Q) SH σ 0 0 0 [(0, .ref (gB g + 0)), (1, .int x1)] []
theorem sg_BB_image_0 {g : Gx} {Q : Int32 → St → Prop} {σ : St} {x1 : Int32}
    (h : (x1 < 0 → Q (-1 : Int32) σ) ∧ (¬ x1 < 0 → (x1 < (4 : Int32) → vp_in x1 4 ∧ (∀ o1 : Nat, o1 = 91 + 5 * (x1).toNatClampNeg → isSA o1 → K_SA_takeOver g o1 83 σ (fun s2 : St => vp_in x1 4 ∧ (∀ o3 : Nat, o3 = 91 + 5 * (x1).toNatClampNeg → isSA o3 → ∀ s4 : St, s4 = sfi s2 o3 0 (1 : Int32) → Q (fi s4 83 6) s4)))) ∧ (¬ x1 < (4 : Int32) → Q (-1 : Int32) σ))) : S_BB_image_0 g Q σ x1 := by
  show Ax g m_BB_image 0 0 (ZI g Q) SH σ 0 0 0 [(0, .ref (gB g + 0)), (1, .int x1)] []
  refine a_iload_n (pc := 0) 1 rfl rfl d_BB_image_0 ?_
  refine a_if_lt (pc := 1) 9 (by decide) d_BB_image_1 ⟨fun c0 => ?_, fun c0 => ?_⟩
  · replace h := h.1 c0
    refine a_iconst (pc := 9) (-1 : Int32) (by decide) d_BB_image_9 ?_
    exact b_iret (pc := 10) rfl d_BB_image_10 h
  · replace h := h.2 c0
    refine a_iload_n (pc := 4) 1 rfl rfl d_BB_image_4 ?_
    refine a_iconst (pc := 5) (4 : Int32) (by decide) d_BB_image_5 ?_
    refine a_icmp_lt (pc := 6) 11 (by decide) d_BB_image_6 ⟨fun c0 => ?_, fun c0 => ?_⟩
    · replace h := h.1 c0
      refine a_aload_n (pc := 11) 0 rfl rfl d_BB_image_11 ?_
      refine a_getR (pc := 12) fg_BB_81 sx_0 rfl d_BB_image_12 ?_
      refine a_iload_n (pc := 15) 1 rfl rfl d_BB_image_15 ?_
      obtain ⟨hx, h⟩ := h
      refine a_ald5 (pc := 16) sx_88 hx (ima_ld hx).1 d_BB_image_16 ?_
      obtain ⟨o1, eo1⟩ : ∃ y : Nat, y = 91 + 5 * (x1).toNatClampNeg := ⟨_, rfl⟩
      have ho1 : isSA o1 := by rw [eo1]; exact (ima_ld hx).2
      rw [← eo1]
      replace h := h o1 eo1 ho1
      refine a_aload_n (pc := 17) 0 rfl rfl d_BB_image_17 ?_
      refine a_getR (pc := 18) fg_BB_77 sx_0 rfl d_BB_image_18 ?_
      refine a_callV (pc := 21) (M' := m_SA_takeOver) (As := [.ref (gB g + 83)]) (st := []) (mc' := 0) (ms' := 0) lk_BB_293 rfl (sa0 ho1) rfl (by decide) (by decide) rfl (Nat.le_of_ble_eq_true rfl) (Nat.le_refl 0) (Nat.le_refl 0) d_BB_image_21 h ?_
      rintro _ _ s2 ⟨rfl, rfl, h⟩ -
      show Ax g m_BB_image 0 0 (ZI g Q) SH s2 0 0 24 [(0, .ref (gB g + 0)), (1, .int x1)] []
      refine a_aload_n (pc := 24) 0 rfl rfl d_BB_image_24 ?_
      refine a_getR (pc := 25) fg_BB_81 sx_0 rfl d_BB_image_25 ?_
      refine a_iload_n (pc := 28) 1 rfl rfl d_BB_image_28 ?_
      obtain ⟨hx, h⟩ := h
      refine a_ald5 (pc := 29) sx_88 hx (ima_ld hx).1 d_BB_image_29 ?_
      obtain ⟨o3, eo3⟩ : ∃ y : Nat, y = 91 + 5 * (x1).toNatClampNeg := ⟨_, rfl⟩
      have ho3 : isSA o3 := by rw [eo3]; exact (ima_ld hx).2
      rw [← eo3]
      replace h := h o3 eo3 ho3
      refine a_iconst (pc := 30) (1 : Int32) (by decide) d_BB_image_30 ?_
      refine a_putZ (pc := 31) fp_BB_318 (sa0 ho3) rfl (Or.inr rfl) d_BB_image_31 ?_
      refine a_nms (fun s4 hs4 => ?_)
      replace h := h s4 hs4
      refine a_aload_n (pc := 34) 0 rfl rfl d_BB_image_34 ?_
      refine a_getR (pc := 35) fg_BB_77 sx_0 rfl d_BB_image_35 ?_
      refine a_getI (pc := 38) fg_BB_183 sx_83 rfl d_BB_image_38 ?_
      exact b_iret (pc := 41) rfl d_BB_image_41 h
    · replace h := h.2 c0
      refine a_iconst (pc := 9) (-1 : Int32) (by decide) d_BB_image_9 ?_
      exact b_iret (pc := 10) rfl d_BB_image_10 h
theorem ko_BB_image {g : Gx}  {x1 : Int32} {σ : St} {Q : Int32 → St → Prop} (h : S_BB_image_0 g Q σ x1) : K_BB_image g x1 σ Q := KI.of (show plainName "BallBox" = true by decide) (Nat.le_of_ble_eq_true rfl) h
theorem d_BB_back_0 : decode c_BB_back 0 = .ok (.iload_n 1, 1) := by decide +kernel
theorem d_BB_back_1 : decode c_BB_back 1 = .ok (.ifCond .lt 20, 3) := by decide +kernel
theorem d_BB_back_4 : decode c_BB_back 4 = .ok (.iload_n 1, 1) := by decide +kernel
theorem d_BB_back_5 : decode c_BB_back 5 = .ok (.iconst 4, 1) := by decide +kernel
theorem d_BB_back_6 : decode c_BB_back 6 = .ok (.if_icmp .ge 15, 3) := by decide +kernel
theorem d_BB_back_9 : decode c_BB_back 9 = .ok (.aload_n 0, 1) := by decide +kernel
theorem d_BB_back_10 : decode c_BB_back 10 = .ok (.getfield 81, 3) := by decide +kernel
theorem d_BB_back_13 : decode c_BB_back 13 = .ok (.iload_n 1, 1) := by decide +kernel
theorem d_BB_back_14 : decode c_BB_back 14 = .ok (.aaload, 1) := by decide +kernel
theorem d_BB_back_15 : decode c_BB_back 15 = .ok (.getfield 318, 3) := by decide +kernel
theorem d_BB_back_18 : decode c_BB_back 18 = .ok (.ifCond .ne 5, 3) := by decide +kernel
theorem d_BB_back_21 : decode c_BB_back 21 = .ok (.iconst (-1), 1) := by decide +kernel
theorem d_BB_back_22 : decode c_BB_back 22 = .ok (.ireturn, 1) := by decide +kernel
theorem d_BB_back_23 : decode c_BB_back 23 = .ok (.aload_n 0, 1) := by decide +kernel
theorem d_BB_back_24 : decode c_BB_back 24 = .ok (.getfield 77, 3) := by decide +kernel
theorem d_BB_back_27 : decode c_BB_back 27 = .ok (.aload_n 0, 1) := by decide +kernel
theorem d_BB_back_28 : decode c_BB_back 28 = .ok (.getfield 81, 3) := by decide +kernel
theorem d_BB_back_31 : decode c_BB_back 31 = .ok (.iload_n 1, 1) := by decide +kernel
theorem d_BB_back_32 : decode c_BB_back 32 = .ok (.aaload, 1) := by decide +kernel
theorem d_BB_back_33 : decode c_BB_back 33 = .ok (.invokevirtual 293, 3) := by decide +kernel
theorem d_BB_back_36 : decode c_BB_back 36 = .ok (.aload_n 0, 1) := by decide +kernel
theorem d_BB_back_37 : decode c_BB_back 37 = .ok (.dup, 1) := by decide +kernel
theorem d_BB_back_38 : decode c_BB_back 38 = .ok (.getfield 111, 3) := by decide +kernel
theorem d_BB_back_41 : decode c_BB_back 41 = .ok (.iconst 1, 1) := by decide +kernel
theorem d_BB_back_42 : decode c_BB_back 42 = .ok (.iadd, 1) := by decide +kernel
theorem d_BB_back_43 : decode c_BB_back 43 = .ok (.putfield 111, 3) := by decide +kernel
theorem d_BB_back_46 : decode c_BB_back 46 = .ok (.aload_n 0, 1) := by decide +kernel
theorem d_BB_back_47 : decode c_BB_back 47 = .ok (.getfield 77, 3) := by decide +kernel
theorem d_BB_back_50 : decode c_BB_back 50 = .ok (.getfield 183, 3) := by decide +kernel
theorem d_BB_back_53 : decode c_BB_back 53 = .ok (.ireturn, 1) := by decide +kernel
def S_BB_back_0 (g : Gx) (Q : Int32 → St → Prop) (σ : St) (x1 : Int32) : Prop := Ax g m_BB_back 0 0 (ZI g Q) SH σ 0 0 0 [(0, .ref (gB g + 0)), (1, .int x1)] []
theorem sg_BB_back_0 {g : Gx} {Q : Int32 → St → Prop} {σ : St} {x1 : Int32}
    (h : (x1 < 0 → Q (-1 : Int32) σ) ∧ (¬ x1 < 0 → ((4 : Int32) ≤ x1 → Q (-1 : Int32) σ) ∧ (¬ (4 : Int32) ≤ x1 → vp_in x1 4 ∧ (∀ o1 : Nat, o1 = 91 + 5 * (x1).toNatClampNeg → isSA o1 → (¬ (fi σ o1 0) = 0 → vp_in x1 4 ∧ (∀ o2 : Nat, o2 = 91 + 5 * (x1).toNatClampNeg → isSA o2 → K_SA_takeOver g 83 o2 σ (fun s3 : St => ∀ s4 : St, s4 = sfi s3 0 14 ((fi s3 0 14) + (1 : Int32)) → Q (fi s4 83 6) s4))) ∧ ((fi σ o1 0) = 0 → Q (-1 : Int32) σ))))) : S_BB_back_0 g Q σ x1 := by
  show Ax g m_BB_back 0 0 (ZI g Q) SH σ 0 0 0 [(0, .ref (gB g + 0)), (1, .int x1)] []
  refine a_iload_n (pc := 0) 1 rfl rfl d_BB_back_0 ?_
  refine a_if_lt (pc := 1) 21 (by decide) d_BB_back_1 ⟨fun c0 => ?_, fun c0 => ?_⟩
  · replace h := h.1 c0
    refine a_iconst (pc := 21) (-1 : Int32) (by decide) d_BB_back_21 ?_
    exact b_iret (pc := 22) rfl d_BB_back_22 h
  · replace h := h.2 c0
    refine a_iload_n (pc := 4) 1 rfl rfl d_BB_back_4 ?_
    refine a_iconst (pc := 5) (4 : Int32) (by decide) d_BB_back_5 ?_
    refine a_icmp_ge (pc := 6) 21 (by decide) d_BB_back_6 ⟨fun c0 => ?_, fun c0 => ?_⟩
    · replace h := h.1 c0
      refine a_iconst (pc := 21) (-1 : Int32) (by decide) d_BB_back_21 ?_
      exact b_iret (pc := 22) rfl d_BB_back_22 h
    · replace h := h.2 c0
      refine a_aload_n (pc := 9) 0 rfl rfl d_BB_back_9 ?_
      refine a_getR (pc := 10) fg_BB_81 sx_0 rfl d_BB_back_10 ?_
      refine a_iload_n (pc := 13) 1 rfl rfl d_BB_back_13 ?_
      obtain ⟨hx, h⟩ := h
      refine a_ald5 (pc := 14) sx_88 hx (ima_ld hx).1 d_BB_back_14 ?_
      obtain ⟨o1, eo1⟩ : ∃ y : Nat, y = 91 + 5 * (x1).toNatClampNeg := ⟨_, rfl⟩
      have ho1 : isSA o1 := by rw [eo1]; exact (ima_ld hx).2
      rw [← eo1]
      replace h := h o1 eo1 ho1
      refine a_getI (pc := 15) fg_BB_318 (sa0 ho1) rfl d_BB_back_15 ?_
      refine a_if_ne (pc := 18) 23 (by decide) d_BB_back_18 ⟨fun c0 => ?_, fun c0 => ?_⟩
      · replace h := h.1 c0
        refine a_aload_n (pc := 23) 0 rfl rfl d_BB_back_23 ?_
        refine a_getR (pc := 24) fg_BB_77 sx_0 rfl d_BB_back_24 ?_
        refine a_aload_n (pc := 27) 0 rfl rfl d_BB_back_27 ?_
        refine a_getR (pc := 28) fg_BB_81 sx_0 rfl d_BB_back_28 ?_
        refine a_iload_n (pc := 31) 1 rfl rfl d_BB_back_31 ?_
        obtain ⟨hx, h⟩ := h
        refine a_ald5 (pc := 32) sx_88 hx (ima_ld hx).1 d_BB_back_32 ?_
        obtain ⟨o2, eo2⟩ : ∃ y : Nat, y = 91 + 5 * (x1).toNatClampNeg := ⟨_, rfl⟩
        have ho2 : isSA o2 := by rw [eo2]; exact (ima_ld hx).2
        rw [← eo2]
        replace h := h o2 eo2 ho2
        refine a_callV (pc := 33) (M' := m_SA_takeOver) (As := [.ref (gB g + o2)]) (st := []) (mc' := 0) (ms' := 0) lk_BB_293 rfl sx_83 rfl (by decide) (by decide) rfl (Nat.le_of_ble_eq_true rfl) (Nat.le_refl 0) (Nat.le_refl 0) d_BB_back_33 h ?_
        rintro _ _ s3 ⟨rfl, rfl, h⟩ -
        show Ax g m_BB_back 0 0 (ZI g Q) SH s3 0 0 36 [(0, .ref (gB g + 0)), (1, .int x1)] []
        refine a_aload_n (pc := 36) 0 rfl rfl d_BB_back_36 ?_
        refine a_dup (pc := 37) rfl d_BB_back_37 ?_
        refine a_getI (pc := 38) fg_BB_111 sx_0 rfl d_BB_back_38 ?_
        refine a_iconst (pc := 41) (1 : Int32) (by decide) d_BB_back_41 ?_
        refine a_iadd (pc := 42) d_BB_back_42 ?_
        refine a_putI (pc := 43) fp_BB_111 sx_0 rfl d_BB_back_43 ?_
        refine a_nms (fun s4 hs4 => ?_)
        replace h := h s4 hs4
        refine a_aload_n (pc := 46) 0 rfl rfl d_BB_back_46 ?_
        refine a_getR (pc := 47) fg_BB_77 sx_0 rfl d_BB_back_47 ?_
        refine a_getI (pc := 50) fg_BB_183 sx_83 rfl d_BB_back_50 ?_
        exact b_iret (pc := 53) rfl d_BB_back_53 h
      · replace h := h.2 c0
        refine a_iconst (pc := 21) (-1 : Int32) (by decide) d_BB_back_21 ?_
        exact b_iret (pc := 22) rfl d_BB_back_22 h
theorem ko_BB_back {g : Gx}  {x1 : Int32} {σ : St} {Q : Int32 → St → Prop} (h : S_BB_back_0 g Q σ x1) : K_BB_back g x1 σ Q := KI.of (show plainName "BallBox" = true by decide) (Nat.le_of_ble_eq_true rfl) h
theorem d_BB_isWay_0 : decode c_BB_isWay 0 = .ok (.iload_n 0, 1) := by decide +kernel
theorem d_BB_isWay_1 : decode c_BB_isWay 1 = .ok (.ifCond .lt 12, 3) := by decide +kernel
theorem d_BB_isWay_4 : decode c_BB_isWay 4 = .ok (.iload_n 0, 1) := by decide +kernel
theorem d_BB_isWay_5 : decode c_BB_isWay 5 = .ok (.iconst 3, 1) := by decide +kernel
theorem d_BB_isWay_6 : decode c_BB_isWay 6 = .ok (.if_icmp .gt 7, 3) := by decide +kernel
theorem d_BB_isWay_9 : decode c_BB_isWay 9 = .ok (.iconst 1, 1) := by decide +kernel
theorem d_BB_isWay_10 : decode c_BB_isWay 10 = .ok (.goto 4, 3) := by decide +kernel
theorem d_BB_isWay_13 : decode c_BB_isWay 13 = .ok (.iconst 0, 1) := by decide +kernel
theorem d_BB_isWay_14 : decode c_BB_isWay 14 = .ok (.ireturn, 1) := by decide +kernel
def S_BB_isWay_0 (g : Gx) (Q : Int32 → St → Prop) (σ : St) (x0 : Int32) : Prop := Ax g m_BB_isWay 0 0 (ZI g Q) SH σ 0 0 0 [(0, .int x0)] []
theorem sg_BB_isWay_0 {g : Gx} {Q : Int32 → St → Prop} {σ : St} {x0 : Int32}
    (h : (x0 < 0 → Q (0 : Int32) σ) ∧ (¬ x0 < 0 → ((3 : Int32) < x0 → Q (0 : Int32) σ) ∧ (¬ (3 : Int32) < x0 → Q (1 : Int32) σ))) : S_BB_isWay_0 g Q σ x0 := by
  show Ax g m_BB_isWay 0 0 (ZI g Q) SH σ 0 0 0 [(0, .int x0)] []
  refine a_iload_n (pc := 0) 0 rfl rfl d_BB_isWay_0 ?_
  refine a_if_lt (pc := 1) 13 (by decide) d_BB_isWay_1 ⟨fun c0 => ?_, fun c0 => ?_⟩
  · replace h := h.1 c0
    refine a_iconst (pc := 13) (0 : Int32) (by decide) d_BB_isWay_13 ?_
    exact b_zret (pc := 14) rfl (Or.inl rfl) d_BB_isWay_14 h
  · replace h := h.2 c0
    refine a_iload_n (pc := 4) 0 rfl rfl d_BB_isWay_4 ?_
    refine a_iconst (pc := 5) (3 : Int32) (by decide) d_BB_isWay_5 ?_
    refine a_icmp_gt (pc := 6) 13 (by decide) d_BB_isWay_6 ⟨fun c0 => ?_, fun c0 => ?_⟩
    · replace h := h.1 c0
      refine a_iconst (pc := 13) (0 : Int32) (by decide) d_BB_isWay_13 ?_
      exact b_zret (pc := 14) rfl (Or.inl rfl) d_BB_isWay_14 h
    · replace h := h.2 c0
      refine a_iconst (pc := 9) (1 : Int32) (by decide) d_BB_isWay_9 ?_
      refine a_goto (pc := 10) 14 (by decide) d_BB_isWay_10 ?_
      exact b_zret (pc := 14) rfl (Or.inr rfl) d_BB_isWay_14 h
theorem ko_BB_isWay {g : Gx}  {x0 : Int32} {σ : St} {Q : Int32 → St → Prop} (h : S_BB_isWay_0 g Q σ x0) : K_BB_isWay g x0 σ Q := KI.of (show plainName "BallBox" = true by decide) (Nat.le_of_ble_eq_true rfl) h
theorem d_BB_isInBook_0 : decode c_BB_isInBook 0 = .ok (.iconst 0, 1) := by decide +kernel
theorem d_BB_isInBook_1 : decode c_BB_isInBook 1 = .ok (.istore_n 1, 1) := by decide +kernel
theorem d_BB_isInBook_2 : decode c_BB_isInBook 2 = .ok (.iload_n 1, 1) := by decide +kernel
theorem d_BB_isInBook_3 : decode c_BB_isInBook 3 = .ok (.aload_n 0, 1) := by decide +kernel
theorem d_BB_isInBook_4 : decode c_BB_isInBook 4 = .ok (.getfield 286, 3) := by decide +kernel
theorem d_BB_isInBook_7 : decode c_BB_isInBook 7 = .ok (.if_icmp .ge 27, 3) := by decide +kernel
theorem d_BB_isInBook_10 : decode c_BB_isInBook 10 = .ok (.aload_n 0, 1) := by decide +kernel
theorem d_BB_isInBook_11 : decode c_BB_isInBook 11 = .ok (.getfield 77, 3) := by decide +kernel
theorem d_BB_isInBook_14 : decode c_BB_isInBook 14 = .ok (.aload_n 0, 1) := by decide +kernel
theorem d_BB_isInBook_15 : decode c_BB_isInBook 15 = .ok (.getfield 85, 3) := by decide +kernel
theorem d_BB_isInBook_18 : decode c_BB_isInBook 18 = .ok (.iload_n 1, 1) := by decide +kernel
theorem d_BB_isInBook_19 : decode c_BB_isInBook 19 = .ok (.aaload, 1) := by decide +kernel
theorem d_BB_isInBook_20 : decode c_BB_isInBook 20 = .ok (.invokevirtual 321, 3) := by decide +kernel
theorem d_BB_isInBook_23 : decode c_BB_isInBook 23 = .ok (.ifCond .eq 5, 3) := by decide +kernel
theorem d_BB_isInBook_26 : decode c_BB_isInBook 26 = .ok (.iconst 1, 1) := by decide +kernel
theorem d_BB_isInBook_27 : decode c_BB_isInBook 27 = .ok (.ireturn, 1) := by decide +kernel
theorem d_BB_isInBook_28 : decode c_BB_isInBook 28 = .ok (.iinc 1 1, 3) := by decide +kernel
theorem d_BB_isInBook_31 : decode c_BB_isInBook 31 = .ok (.goto (-29), 3) := by decide +kernel
theorem d_BB_isInBook_34 : decode c_BB_isInBook 34 = .ok (.iconst 0, 1) := by decide +kernel
theorem d_BB_isInBook_35 : decode c_BB_isInBook 35 = .ok (.ireturn, 1) := by decide +kernel
def S_BB_isInBook_0 (g : Gx) (Q : Int32 → St → Prop) (σ : St) : Prop := Ax g m_BB_isInBook 0 0 (ZI g Q) SH σ 0 0 0 [(0, .ref (gB g + 0))] []
def S_BB_isInBook_2 (g : Gx) (Q : Int32 → St → Prop) (σ : St) (x1 : Int32) : Prop := Ax g m_BB_isInBook 0 0 (ZI g Q) SH σ 0 0 2 [(0, .ref (gB g + 0)), (1, .int x1)] []
theorem sg_BB_isInBook_0 {g : Gx} {Q : Int32 → St → Prop} {σ : St}
    (h : S_BB_isInBook_2 g Q σ (0 : Int32)) : S_BB_isInBook_0 g Q σ := by
  show Ax g m_BB_isInBook 0 0 (ZI g Q) SH σ 0 0 0 [(0, .ref (gB g + 0))] []
  refine a_iconst (pc := 0) (0 : Int32) (by decide) d_BB_isInBook_0 ?_
  refine a_istore_n (pc := 1) (lv' := [(1, .int (0 : Int32)), (0, .ref (gB g + 0))]) rfl (Nat.le_of_ble_eq_true rfl) rfl d_BB_isInBook_1 ?_
  refine a_sub (pc := 2) [1, 0] rfl ?_
  exact h
theorem sg_BB_isInBook_2 {g : Gx} {Q : Int32 → St → Prop} {σ : St} {x1 : Int32}
    (h : ((fi σ 0 13) ≤ x1 → Q (0 : Int32) σ) ∧ (¬ (fi σ 0 13) ≤ x1 → vp_in x1 8 ∧ (∀ o1 : Nat, o1 = 111 + 5 * (x1).toNatClampNeg → isSA o1 → K_SA_isAlike g 83 o1 σ (fun (r3 : Int32) (s2 : St) => (r3 = 0 → ∀ u4 : Int32, u4 = x1 + (1 : Int32) → S_BB_isInBook_2 g Q s2 u4) ∧ (¬ r3 = 0 → Q (1 : Int32) s2))))) : S_BB_isInBook_2 g Q σ x1 := by
  show Ax g m_BB_isInBook 0 0 (ZI g Q) SH σ 0 0 2 [(0, .ref (gB g + 0)), (1, .int x1)] []
  refine a_iload_n (pc := 2) 1 rfl rfl d_BB_isInBook_2 ?_
  refine a_aload_n (pc := 3) 0 rfl rfl d_BB_isInBook_3 ?_
  refine a_getI (pc := 4) fg_BB_286 sx_0 rfl d_BB_isInBook_4 ?_
  refine a_icmp_ge (pc := 7) 34 (by decide) d_BB_isInBook_7 ⟨fun c0 => ?_, fun c0 => ?_⟩
  · replace h := h.1 c0
    refine a_iconst (pc := 34) (0 : Int32) (by decide) d_BB_isInBook_34 ?_
    exact b_zret (pc := 35) rfl (Or.inl rfl) d_BB_isInBook_35 h
  · replace h := h.2 c0
    refine a_aload_n (pc := 10) 0 rfl rfl d_BB_isInBook_10 ?_
    refine a_getR (pc := 11) fg_BB_77 sx_0 rfl d_BB_isInBook_11 ?_
    refine a_aload_n (pc := 14) 0 rfl rfl d_BB_isInBook_14 ?_
    refine a_getR (pc := 15) fg_BB_85 sx_0 rfl d_BB_isInBook_15 ?_
    refine a_iload_n (pc := 18) 1 rfl rfl d_BB_isInBook_18 ?_
    obtain ⟨hx, h⟩ := h
    refine a_ald5 (pc := 19) sx_89 hx (pag_ld hx).1 d_BB_isInBook_19 ?_
    obtain ⟨o1, eo1⟩ : ∃ y : Nat, y = 111 + 5 * (x1).toNatClampNeg := ⟨_, rfl⟩
    have ho1 : isSA o1 := by rw [eo1]; exact (pag_ld hx).2
    rw [← eo1]
    replace h := h o1 eo1 ho1
    refine a_callV (pc := 20) (M' := m_SA_isAlike) (As := [.ref (gB g + o1)]) (st := []) (mc' := 0) (ms' := 0) lk_BB_321 rfl sx_83 rfl (by decide) (by decide) rfl (Nat.le_of_ble_eq_true rfl) (Nat.le_refl 0) (Nat.le_refl 0) d_BB_isInBook_20 h ?_
    rintro _ _ s2 ⟨r3, rfl, rfl, h⟩ -
    show Ax g m_BB_isInBook 0 0 (ZI g Q) SH s2 0 0 23 [(0, .ref (gB g + 0)), (1, .int x1)] [.int r3]
    refine a_if_eq (pc := 23) 28 (by decide) d_BB_isInBook_23 ⟨fun c0 => ?_, fun c0 => ?_⟩
    · replace h := h.1 c0
      obtain ⟨u4, hu4⟩ : ∃ y : Int32, y = x1 + (1 : Int32) := ⟨_, rfl⟩
      replace h := h u4 hu4
      refine a_iinc (pc := 28) (v := u4) (lv' := [(1, .int u4), (0, .ref (gB g + 0))]) 1 rfl (by rw [hu4]; rfl) (Nat.le_of_ble_eq_true rfl) rfl d_BB_isInBook_28 ?_
      refine a_goto (pc := 31) 2 (by decide) d_BB_isInBook_31 ?_
      refine a_sub (pc := 2) [1, 0] rfl ?_
      exact h
    · replace h := h.2 c0
      refine a_iconst (pc := 26) (1 : Int32) (by decide) d_BB_isInBook_26 ?_
      exact b_zret (pc := 27) rfl (Or.inr rfl) d_BB_isInBook_27 h
theorem ko_BB_isInBook {g : Gx}  {σ : St} {Q : Int32 → St → Prop} (h : S_BB_isInBook_0 g Q σ) : K_BB_isInBook g  σ Q := KI.of (show plainName "BallBox" = true by decide) (Nat.le_of_ble_eq_true rfl) h
