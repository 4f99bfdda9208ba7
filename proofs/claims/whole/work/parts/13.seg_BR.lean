theorem d_BR_read_0 : decode c_BR_read 0 = .ok (.aload_n 0, 1) := by decide +kernel
theorem d_BR_read_1 : decode c_BR_read 1 = .ok (.getfield 12, 3) := by decide +kernel
theorem d_BR_read_4 : decode c_BR_read 4 = .ok (.invokevirtual 18, 3) := by decide +kernel
theorem d_BR_read_7 : decode c_BR_read 7 = .ok (.aload_n 1, 1) := by decide +kernel
theorem d_BR_read_8 : decode c_BR_read 8 = .ok (.invokevirtual 21, 3) := by decide +kernel
theorem d_BR_read_11 : decode c_BR_read 11 = .ok (.iconst 0, 1) := by decide +kernel
theorem d_BR_read_12 : decode c_BR_read 12 = .ok (.istore_n 2, 1) := by decide +kernel
theorem d_BR_read_13 : decode c_BR_read 13 = .ok (.iload_n 2, 1) := by decide +kernel
theorem d_BR_read_14 : decode c_BR_read 14 = .ok (.bipush 12, 2) := by decide +kernel
theorem d_BR_read_16 : decode c_BR_read 16 = .ok (.if_icmp .gt 84, 3) := by decide +kernel
theorem d_BR_read_19 : decode c_BR_read 19 = .ok (.aload_n 0, 1) := by decide +kernel
theorem d_BR_read_20 : decode c_BR_read 20 = .ok (.aload_n 1, 1) := by decide +kernel
theorem d_BR_read_21 : decode c_BR_read 21 = .ok (.iload_n 2, 1) := by decide +kernel
theorem d_BR_read_22 : decode c_BR_read 22 = .ok (.bipush 12, 2) := by decide +kernel
theorem d_BR_read_24 : decode c_BR_read 24 = .ok (.if_icmp .ne 7, 3) := by decide +kernel
theorem d_BR_read_27 : decode c_BR_read 27 = .ok (.iconst 1, 1) := by decide +kernel
theorem d_BR_read_28 : decode c_BR_read 28 = .ok (.goto 4, 3) := by decide +kernel
theorem d_BR_read_31 : decode c_BR_read 31 = .ok (.iconst 0, 1) := by decide +kernel
theorem d_BR_read_32 : decode c_BR_read 32 = .ok (.invokevirtual 26, 3) := by decide +kernel
theorem d_BR_read_35 : decode c_BR_read 35 = .ok (.ifCond .ne 8, 3) := by decide +kernel
theorem d_BR_read_38 : decode c_BR_read 38 = .ok (.aload_n 1, 1) := by decide +kernel
theorem d_BR_read_39 : decode c_BR_read 39 = .ok (.getfield 30, 3) := by decide +kernel
theorem d_BR_read_42 : decode c_BR_read 42 = .ok (.ireturn, 1) := by decide +kernel
theorem d_BR_read_43 : decode c_BR_read 43 = .ok (.aload_n 1, 1) := by decide +kernel
theorem d_BR_read_44 : decode c_BR_read 44 = .ok (.invokevirtual 34, 3) := by decide +kernel
theorem d_BR_read_47 : decode c_BR_read 47 = .ok (.aload_n 1, 1) := by decide +kernel
theorem d_BR_read_48 : decode c_BR_read 48 = .ok (.invokevirtual 37, 3) := by decide +kernel
theorem d_BR_read_51 : decode c_BR_read 51 = .ok (.ifCond .eq 5, 3) := by decide +kernel
theorem d_BR_read_54 : decode c_BR_read 54 = .ok (.iconst 0, 1) := by decide +kernel
theorem d_BR_read_55 : decode c_BR_read 55 = .ok (.ireturn, 1) := by decide +kernel
theorem d_BR_read_56 : decode c_BR_read 56 = .ok (.aload_n 1, 1) := by decide +kernel
theorem d_BR_read_57 : decode c_BR_read 57 = .ok (.aload_n 1, 1) := by decide +kernel
theorem d_BR_read_58 : decode c_BR_read 58 = .ok (.getfield 41, 3) := by decide +kernel
theorem d_BR_read_61 : decode c_BR_read 61 = .ok (.invokevirtual 44, 3) := by decide +kernel
theorem d_BR_read_64 : decode c_BR_read 64 = .ok (.bipush 59, 2) := by decide +kernel
theorem d_BR_read_66 : decode c_BR_read 66 = .ok (.if_icmp .eq 18, 3) := by decide +kernel
theorem d_BR_read_69 : decode c_BR_read 69 = .ok (.aload_n 1, 1) := by decide +kernel
theorem d_BR_read_70 : decode c_BR_read 70 = .ok (.aload_n 1, 1) := by decide +kernel
theorem d_BR_read_71 : decode c_BR_read 71 = .ok (.getfield 41, 3) := by decide +kernel
theorem d_BR_read_74 : decode c_BR_read 74 = .ok (.iconst 0, 1) := by decide +kernel
theorem d_BR_read_75 : decode c_BR_read 75 = .ok (.invokevirtual 48, 3) := by decide +kernel
theorem d_BR_read_78 : decode c_BR_read 78 = .ok (.pop, 1) := by decide +kernel
theorem d_BR_read_79 : decode c_BR_read 79 = .ok (.aload_n 1, 1) := by decide +kernel
theorem d_BR_read_80 : decode c_BR_read 80 = .ok (.getfield 30, 3) := by decide +kernel
theorem d_BR_read_83 : decode c_BR_read 83 = .ok (.ireturn, 1) := by decide +kernel
theorem d_BR_read_84 : decode c_BR_read 84 = .ok (.aload_n 1, 1) := by decide +kernel
theorem d_BR_read_85 : decode c_BR_read 85 = .ok (.dup, 1) := by decide +kernel
theorem d_BR_read_86 : decode c_BR_read 86 = .ok (.getfield 41, 3) := by decide +kernel
theorem d_BR_read_89 : decode c_BR_read 89 = .ok (.iconst 1, 1) := by decide +kernel
theorem d_BR_read_90 : decode c_BR_read 90 = .ok (.iadd, 1) := by decide +kernel
theorem d_BR_read_91 : decode c_BR_read 91 = .ok (.putfield 41, 3) := by decide +kernel
theorem d_BR_read_94 : decode c_BR_read 94 = .ok (.iinc 2 1, 3) := by decide +kernel
theorem d_BR_read_97 : decode c_BR_read 97 = .ok (.goto (-84), 3) := by decide +kernel
theorem d_BR_read_100 : decode c_BR_read 100 = .ok (.aload_n 1, 1) := by decide +kernel
theorem d_BR_read_101 : decode c_BR_read 101 = .ok (.getfield 30, 3) := by decide +kernel
theorem d_BR_read_104 : decode c_BR_read 104 = .ok (.ireturn, 1) := by decide +kernel
def S_BR_read_0 (g : Gx) (Q : Int32 → St → Prop) (σ : St) : Prop := Ax g m_BR_read 0 0 (ZI g Q) SH σ 0 0 0 [(0, .ref (gB g + 3)), (1, .ref (gB g + 1))] []
def S_BR_read_13 (g : Gx) (Q : Int32 → St → Prop) (σ : St) (x2 : Int32) : Prop := Ax g m_BR_read 0 0 (ZI g Q) SH σ 0 0 13 [(0, .ref (gB g + 3)), (1, .ref (gB g + 1)), (2, .int x2)] []
def S_BR_read_32 (g : Gx) (Q : Int32 → St → Prop) (σ : St) (x2 : Int32) (z0 : Int32) : Prop := Ax g m_BR_read 0 0 (ZI g Q) SH σ 0 0 32 [(0, .ref (gB g + 3)), (1, .ref (gB g + 1)), (2, .int x2)] [.int z0, .ref (gB g + 1), .ref (gB g + 3)]
theorem sg_BR_read_0 {g : Gx} {Q : Int32 → St → Prop} {σ : St}
    (h : K_SA_clearBox g 4 σ (fun s1 : St => K_TA_start g s1 (fun s2 : St => S_BR_read_13 g Q s2 (0 : Int32)))) : S_BR_read_0 g Q σ := by
  show Ax g m_BR_read 0 0 (ZI g Q) SH σ 0 0 0 [(0, .ref (gB g + 3)), (1, .ref (gB g + 1))] []
  refine a_aload_n (pc := 0) 0 rfl rfl d_BR_read_0 ?_
  refine a_getR (pc := 1) fg_BR_12 sx_3 rfl d_BR_read_1 ?_
  refine a_callV (pc := 4) (M' := m_SA_clearBox) (As := []) (st := []) (mc' := 0) (ms' := 0) lk_BR_18 rfl sx_4 rfl (by decide) (by decide) rfl (Nat.le_of_ble_eq_true rfl) (Nat.le_refl 0) (Nat.le_refl 0) d_BR_read_4 h ?_
  rintro _ _ s1 ⟨rfl, rfl, h⟩ -
  show Ax g m_BR_read 0 0 (ZI g Q) SH s1 0 0 7 [(0, .ref (gB g + 3)), (1, .ref (gB g + 1))] []
  refine a_aload_n (pc := 7) 1 rfl rfl d_BR_read_7 ?_
  refine a_callV (pc := 8) (M' := m_TA_start) (As := []) (st := []) (mc' := 0) (ms' := 0) lk_BR_21 rfl sx_1 rfl (by decide) (by decide) rfl (Nat.le_of_ble_eq_true rfl) (Nat.le_refl 0) (Nat.le_refl 0) d_BR_read_8 h ?_
  rintro _ _ s2 ⟨rfl, rfl, h⟩ -
  show Ax g m_BR_read 0 0 (ZI g Q) SH s2 0 0 11 [(0, .ref (gB g + 3)), (1, .ref (gB g + 1))] []
  refine a_iconst (pc := 11) (0 : Int32) (by decide) d_BR_read_11 ?_
  refine a_istore_n (pc := 12) (lv' := [(2, .int (0 : Int32)), (0, .ref (gB g + 3)), (1, .ref (gB g + 1))]) rfl (Nat.le_of_ble_eq_true rfl) rfl d_BR_read_12 ?_
  refine a_sub (pc := 13) [1, 2, 0] rfl ?_
  exact h
theorem sg_BR_read_13 {g : Gx} {Q : Int32 → St → Prop} {σ : St} {x2 : Int32}
    (h : ((12 : Int32) < x2 → Q (fi σ 1 3) σ) ∧ (¬ (12 : Int32) < x2 → (¬ x2 = (12 : Int32) → S_BR_read_32 g Q σ x2 (0 : Int32)) ∧ (x2 = (12 : Int32) → S_BR_read_32 g Q σ x2 (1 : Int32)))) : S_BR_read_13 g Q σ x2 := by
  show Ax g m_BR_read 0 0 (ZI g Q) SH σ 0 0 13 [(0, .ref (gB g + 3)), (1, .ref (gB g + 1)), (2, .int x2)] []
  refine a_iload_n (pc := 13) 2 rfl rfl d_BR_read_13 ?_
  refine a_bipush (pc := 14) (12 : Int32) (by decide) d_BR_read_14 ?_
  refine a_icmp_gt (pc := 16) 100 (by decide) d_BR_read_16 ⟨fun c0 => ?_, fun c0 => ?_⟩
  · replace h := h.1 c0
    refine a_aload_n (pc := 100) 1 rfl rfl d_BR_read_100 ?_
    refine a_getI (pc := 101) fg_BR_30 sx_1 rfl d_BR_read_101 ?_
    exact b_iret (pc := 104) rfl d_BR_read_104 h
  · replace h := h.2 c0
    refine a_aload_n (pc := 19) 0 rfl rfl d_BR_read_19 ?_
    refine a_aload_n (pc := 20) 1 rfl rfl d_BR_read_20 ?_
    refine a_iload_n (pc := 21) 2 rfl rfl d_BR_read_21 ?_
    refine a_bipush (pc := 22) (12 : Int32) (by decide) d_BR_read_22 ?_
    refine a_icmp_ne (pc := 24) 31 (by decide) d_BR_read_24 ⟨fun c0 => ?_, fun c0 => ?_⟩
    · replace h := h.1 c0
      refine a_iconst (pc := 31) (0 : Int32) (by decide) d_BR_read_31 ?_
      refine a_sub (pc := 32) [0, 1, 2] rfl ?_
      exact h
    · replace h := h.2 c0
      refine a_iconst (pc := 27) (1 : Int32) (by decide) d_BR_read_27 ?_
      refine a_goto (pc := 28) 32 (by decide) d_BR_read_28 ?_
      refine a_sub (pc := 32) [0, 1, 2] rfl ?_
      exact h
theorem sg_BR_read_32 {g : Gx} {Q : Int32 → St → Prop} {σ : St} {x2 : Int32} {z0 : Int32}
    (h : K_BR_readClause g z0 σ (fun (r2 : Int32) (s1 : St) => (¬ r2 = 0 → K_TA_skipBlanks g s1 (fun s3 : St => K_TA_isAtEnd g s3 (fun (r5 : Int32) (s4 : St) => (r5 = 0 → K_TA_signAt g (fi s4 1 2) s4 (fun (r7 : Int32) (s6 : St) => (r7 = (59 : Int32) → ∀ s8 : St, s8 = sfi s6 1 2 ((fi s6 1 2) + (1 : Int32)) → ∀ u9 : Int32, u9 = x2 + (1 : Int32) → S_BR_read_13 g Q s8 u9) ∧ (¬ r7 = (59 : Int32) → K_TA_blame g (fi s6 1 2) (0 : Int32) s6 (fun (r11 : Int32) (s10 : St) => Q (fi s10 1 3) s10)))) ∧ (¬ r5 = 0 → Q (0 : Int32) s4)))) ∧ (r2 = 0 → Q (fi s1 1 3) s1))) : S_BR_read_32 g Q σ x2 z0 := by
  show Ax g m_BR_read 0 0 (ZI g Q) SH σ 0 0 32 [(0, .ref (gB g + 3)), (1, .ref (gB g + 1)), (2, .int x2)] [.int z0, .ref (gB g + 1), .ref (gB g + 3)]
  refine a_callV (pc := 32) (M' := m_BR_readClause) (As := [.ref (gB g + 1), .int z0]) (st := []) (mc' := 0) (ms' := 0) lk_BR_26 rfl sx_3 rfl (by decide) (by decide) rfl (Nat.le_of_ble_eq_true rfl) (Nat.le_refl 0) (Nat.le_refl 0) d_BR_read_32 h ?_
  rintro _ _ s1 ⟨r2, rfl, rfl, h⟩ -
  show Ax g m_BR_read 0 0 (ZI g Q) SH s1 0 0 35 [(0, .ref (gB g + 3)), (1, .ref (gB g + 1)), (2, .int x2)] [.int r2]
  refine a_if_ne (pc := 35) 43 (by decide) d_BR_read_35 ⟨fun c0 => ?_, fun c0 => ?_⟩
  · replace h := h.1 c0
    refine a_aload_n (pc := 43) 1 rfl rfl d_BR_read_43 ?_
    refine a_callV (pc := 44) (M' := m_TA_skipBlanks) (As := []) (st := []) (mc' := 0) (ms' := 0) lk_BR_34 rfl sx_1 rfl (by decide) (by decide) rfl (Nat.le_of_ble_eq_true rfl) (Nat.le_refl 0) (Nat.le_refl 0) d_BR_read_44 h ?_
    rintro _ _ s3 ⟨rfl, rfl, h⟩ -
    show Ax g m_BR_read 0 0 (ZI g Q) SH s3 0 0 47 [(0, .ref (gB g + 3)), (1, .ref (gB g + 1)), (2, .int x2)] []
    refine a_aload_n (pc := 47) 1 rfl rfl d_BR_read_47 ?_
    refine a_callV (pc := 48) (M' := m_TA_isAtEnd) (As := []) (st := []) (mc' := 0) (ms' := 0) lk_BR_37 rfl sx_1 rfl (by decide) (by decide) rfl (Nat.le_of_ble_eq_true rfl) (Nat.le_refl 0) (Nat.le_refl 0) d_BR_read_48 h ?_
    rintro _ _ s4 ⟨r5, rfl, rfl, h⟩ -
    show Ax g m_BR_read 0 0 (ZI g Q) SH s4 0 0 51 [(0, .ref (gB g + 3)), (1, .ref (gB g + 1)), (2, .int x2)] [.int r5]
    refine a_if_eq (pc := 51) 56 (by decide) d_BR_read_51 ⟨fun c0 => ?_, fun c0 => ?_⟩
    · replace h := h.1 c0
      refine a_aload_n (pc := 56) 1 rfl rfl d_BR_read_56 ?_
      refine a_aload_n (pc := 57) 1 rfl rfl d_BR_read_57 ?_
      refine a_getI (pc := 58) fg_BR_41 sx_1 rfl d_BR_read_58 ?_
      refine a_callV (pc := 61) (M' := m_TA_signAt) (As := [.int (fi s4 1 2)]) (st := []) (mc' := 0) (ms' := 0) lk_BR_44 rfl sx_1 rfl (by decide) (by decide) rfl (Nat.le_of_ble_eq_true rfl) (Nat.le_refl 0) (Nat.le_refl 0) d_BR_read_61 h ?_
      rintro _ _ s6 ⟨r7, rfl, rfl, h⟩ -
      show Ax g m_BR_read 0 0 (ZI g Q) SH s6 0 0 64 [(0, .ref (gB g + 3)), (1, .ref (gB g + 1)), (2, .int x2)] [.int r7]
      refine a_bipush (pc := 64) (59 : Int32) (by decide) d_BR_read_64 ?_
      refine a_icmp_eq (pc := 66) 84 (by decide) d_BR_read_66 ⟨fun c0 => ?_, fun c0 => ?_⟩
      · replace h := h.1 c0
        refine a_aload_n (pc := 84) 1 rfl rfl d_BR_read_84 ?_
        refine a_dup (pc := 85) rfl d_BR_read_85 ?_
        refine a_getI (pc := 86) fg_BR_41 sx_1 rfl d_BR_read_86 ?_
        refine a_iconst (pc := 89) (1 : Int32) (by decide) d_BR_read_89 ?_
        refine a_iadd (pc := 90) d_BR_read_90 ?_
        refine a_putI (pc := 91) fp_BR_41 sx_1 rfl d_BR_read_91 ?_
        refine a_nms (fun s8 hs8 => ?_)
        replace h := h s8 hs8
        obtain ⟨u9, hu9⟩ : ∃ y : Int32, y = x2 + (1 : Int32) := ⟨_, rfl⟩
        replace h := h u9 hu9
        refine a_iinc (pc := 94) (v := u9) (lv' := [(2, .int u9), (0, .ref (gB g + 3)), (1, .ref (gB g + 1))]) 2 rfl (by rw [hu9]; rfl) (Nat.le_of_ble_eq_true rfl) rfl d_BR_read_94 ?_
        refine a_goto (pc := 97) 13 (by decide) d_BR_read_97 ?_
        refine a_sub (pc := 13) [1, 2, 0] rfl ?_
        exact h
      · replace h := h.2 c0
        refine a_aload_n (pc := 69) 1 rfl rfl d_BR_read_69 ?_
        refine a_aload_n (pc := 70) 1 rfl rfl d_BR_read_70 ?_
        refine a_getI (pc := 71) fg_BR_41 sx_1 rfl d_BR_read_71 ?_
        refine a_iconst (pc := 74) (0 : Int32) (by decide) d_BR_read_74 ?_
        refine a_callV (pc := 75) (M' := m_TA_blame) (As := [.int (fi s6 1 2), .int (0 : Int32)]) (st := []) (mc' := 0) (ms' := 0) lk_BR_48 rfl sx_1 rfl (by decide) (by decide) rfl (Nat.le_of_ble_eq_true rfl) (Nat.le_refl 0) (Nat.le_refl 0) d_BR_read_75 h ?_
        rintro _ _ s10 ⟨r11, rfl, rfl, h⟩ -
        show Ax g m_BR_read 0 0 (ZI g Q) SH s10 0 0 78 [(0, .ref (gB g + 3)), (1, .ref (gB g + 1)), (2, .int x2)] [.int r11]
        refine a_pop (pc := 78) rfl d_BR_read_78 ?_
        refine a_aload_n (pc := 79) 1 rfl rfl d_BR_read_79 ?_
        refine a_getI (pc := 80) fg_BR_30 sx_1 rfl d_BR_read_80 ?_
        exact b_iret (pc := 83) rfl d_BR_read_83 h
    · replace h := h.2 c0
      refine a_iconst (pc := 54) (0 : Int32) (by decide) d_BR_read_54 ?_
      exact b_iret (pc := 55) rfl d_BR_read_55 h
  · replace h := h.2 c0
    refine a_aload_n (pc := 38) 1 rfl rfl d_BR_read_38 ?_
    refine a_getI (pc := 39) fg_BR_30 sx_1 rfl d_BR_read_39 ?_
    exact b_iret (pc := 42) rfl d_BR_read_42 h
theorem ko_BR_read {g : Gx}  {σ : St} {Q : Int32 → St → Prop} (h : S_BR_read_0 g Q σ) : K_BR_read g  σ Q := KI.of (show plainName "BallBox$BoxReader" = true by decide) (Nat.le_of_ble_eq_true rfl) h
theorem d_BR_readClause_0 : decode c_BR_readClause 0 = .ok (.aload_n 1, 1) := by decide +kernel
theorem d_BR_readClause_1 : decode c_BR_readClause 1 = .ok (.invokevirtual 34, 3) := by decide +kernel
theorem d_BR_readClause_4 : decode c_BR_readClause 4 = .ok (.aload_n 1, 1) := by decide +kernel
theorem d_BR_readClause_5 : decode c_BR_readClause 5 = .ok (.invokevirtual 52, 3) := by decide +kernel
theorem d_BR_readClause_8 : decode c_BR_readClause 8 = .ok (.istore_n 3, 1) := by decide +kernel
theorem d_BR_readClause_9 : decode c_BR_readClause 9 = .ok (.aload_n 1, 1) := by decide +kernel
theorem d_BR_readClause_10 : decode c_BR_readClause 10 = .ok (.iload_n 3, 1) := by decide +kernel
theorem d_BR_readClause_11 : decode c_BR_readClause 11 = .ok (.ldc 56, 2) := by decide +kernel
theorem d_BR_readClause_13 : decode c_BR_readClause 13 = .ok (.invokevirtual 58, 3) := by decide +kernel
theorem d_BR_readClause_16 : decode c_BR_readClause 16 = .ok (.ifCond .eq 50, 3) := by decide +kernel
theorem d_BR_readClause_19 : decode c_BR_readClause 19 = .ok (.iload_n 2, 1) := by decide +kernel
theorem d_BR_readClause_20 : decode c_BR_readClause 20 = .ok (.ifCond .ne 25, 3) := by decide +kernel
theorem d_BR_readClause_23 : decode c_BR_readClause 23 = .ok (.aload_n 0, 1) := by decide +kernel
theorem d_BR_readClause_24 : decode c_BR_readClause 24 = .ok (.getfield 12, 3) := by decide +kernel
theorem d_BR_readClause_27 : decode c_BR_readClause 27 = .ok (.getfield 62, 3) := by decide +kernel
theorem d_BR_readClause_30 : decode c_BR_readClause 30 = .ok (.bipush 6, 2) := by decide +kernel
theorem d_BR_readClause_32 : decode c_BR_readClause 32 = .ok (.if_icmp .eq 13, 3) := by decide +kernel
theorem d_BR_readClause_35 : decode c_BR_readClause 35 = .ok (.aload_n 0, 1) := by decide +kernel
theorem d_BR_readClause_36 : decode c_BR_readClause 36 = .ok (.getfield 12, 3) := by decide +kernel
theorem d_BR_readClause_39 : decode c_BR_readClause 39 = .ok (.getfield 65, 3) := by decide +kernel
theorem d_BR_readClause_42 : decode c_BR_readClause 42 = .ok (.ifCond .le 13, 3) := by decide +kernel
theorem d_BR_readClause_45 : decode c_BR_readClause 45 = .ok (.aload_n 1, 1) := by decide +kernel
theorem d_BR_readClause_46 : decode c_BR_readClause 46 = .ok (.aload_n 1, 1) := by decide +kernel
theorem d_BR_readClause_47 : decode c_BR_readClause 47 = .ok (.getfield 41, 3) := by decide +kernel
theorem d_BR_readClause_50 : decode c_BR_readClause 50 = .ok (.iconst 4, 1) := by decide +kernel
theorem d_BR_readClause_51 : decode c_BR_readClause 51 = .ok (.invokevirtual 48, 3) := by decide +kernel
theorem d_BR_readClause_54 : decode c_BR_readClause 54 = .ok (.ireturn, 1) := by decide +kernel
theorem d_BR_readClause_55 : decode c_BR_readClause 55 = .ok (.aload_n 1, 1) := by decide +kernel
theorem d_BR_readClause_56 : decode c_BR_readClause 56 = .ok (.iload_n 3, 1) := by decide +kernel
theorem d_BR_readClause_57 : decode c_BR_readClause 57 = .ok (.putfield 41, 3) := by decide +kernel
theorem d_BR_readClause_60 : decode c_BR_readClause 60 = .ok (.aload_n 0, 1) := by decide +kernel
theorem d_BR_readClause_61 : decode c_BR_readClause 61 = .ok (.aload_n 1, 1) := by decide +kernel
theorem d_BR_readClause_62 : decode c_BR_readClause 62 = .ok (.invokevirtual 68, 3) := by decide +kernel
theorem d_BR_readClause_65 : decode c_BR_readClause 65 = .ok (.ireturn, 1) := by decide +kernel
theorem d_BR_readClause_66 : decode c_BR_readClause 66 = .ok (.aload_n 1, 1) := by decide +kernel
theorem d_BR_readClause_67 : decode c_BR_readClause 67 = .ok (.iload_n 3, 1) := by decide +kernel
theorem d_BR_readClause_68 : decode c_BR_readClause 68 = .ok (.ldc 72, 2) := by decide +kernel
theorem d_BR_readClause_70 : decode c_BR_readClause 70 = .ok (.invokevirtual 58, 3) := by decide +kernel
theorem d_BR_readClause_73 : decode c_BR_readClause 73 = .ok (.ifCond .eq 49, 3) := by decide +kernel
theorem d_BR_readClause_76 : decode c_BR_readClause 76 = .ok (.iload_n 2, 1) := by decide +kernel
theorem d_BR_readClause_77 : decode c_BR_readClause 77 = .ok (.ifCond .ne 24, 3) := by decide +kernel
theorem d_BR_readClause_80 : decode c_BR_readClause 80 = .ok (.aload_n 0, 1) := by decide +kernel
theorem d_BR_readClause_81 : decode c_BR_readClause 81 = .ok (.getfield 12, 3) := by decide +kernel
theorem d_BR_readClause_84 : decode c_BR_readClause 84 = .ok (.getfield 62, 3) := by decide +kernel
theorem d_BR_readClause_87 : decode c_BR_readClause 87 = .ok (.ifCond .eq 14, 3) := by decide +kernel
theorem d_BR_readClause_90 : decode c_BR_readClause 90 = .ok (.aload_n 0, 1) := by decide +kernel
theorem d_BR_readClause_91 : decode c_BR_readClause 91 = .ok (.getfield 12, 3) := by decide +kernel
theorem d_BR_readClause_94 : decode c_BR_readClause 94 = .ok (.getfield 65, 3) := by decide +kernel
theorem d_BR_readClause_97 : decode c_BR_readClause 97 = .ok (.iconst 3, 1) := by decide +kernel
theorem d_BR_readClause_98 : decode c_BR_readClause 98 = .ok (.if_icmp .ne 13, 3) := by decide +kernel
theorem d_BR_readClause_101 : decode c_BR_readClause 101 = .ok (.aload_n 1, 1) := by decide +kernel
theorem d_BR_readClause_102 : decode c_BR_readClause 102 = .ok (.aload_n 1, 1) := by decide +kernel
theorem d_BR_readClause_103 : decode c_BR_readClause 103 = .ok (.getfield 41, 3) := by decide +kernel
theorem d_BR_readClause_106 : decode c_BR_readClause 106 = .ok (.iconst 4, 1) := by decide +kernel
theorem d_BR_readClause_107 : decode c_BR_readClause 107 = .ok (.invokevirtual 48, 3) := by decide +kernel
theorem d_BR_readClause_110 : decode c_BR_readClause 110 = .ok (.ireturn, 1) := by decide +kernel
theorem d_BR_readClause_111 : decode c_BR_readClause 111 = .ok (.aload_n 1, 1) := by decide +kernel
theorem d_BR_readClause_112 : decode c_BR_readClause 112 = .ok (.iload_n 3, 1) := by decide +kernel
theorem d_BR_readClause_113 : decode c_BR_readClause 113 = .ok (.putfield 41, 3) := by decide +kernel
theorem d_BR_readClause_116 : decode c_BR_readClause 116 = .ok (.aload_n 0, 1) := by decide +kernel
theorem d_BR_readClause_117 : decode c_BR_readClause 117 = .ok (.aload_n 1, 1) := by decide +kernel
theorem d_BR_readClause_118 : decode c_BR_readClause 118 = .ok (.invokevirtual 74, 3) := by decide +kernel
theorem d_BR_readClause_121 : decode c_BR_readClause 121 = .ok (.ireturn, 1) := by decide +kernel
theorem d_BR_readClause_122 : decode c_BR_readClause 122 = .ok (.aload_n 1, 1) := by decide +kernel
theorem d_BR_readClause_123 : decode c_BR_readClause 123 = .ok (.aload_n 1, 1) := by decide +kernel
theorem d_BR_readClause_124 : decode c_BR_readClause 124 = .ok (.getfield 41, 3) := by decide +kernel
theorem d_BR_readClause_127 : decode c_BR_readClause 127 = .ok (.iconst 0, 1) := by decide +kernel
theorem d_BR_readClause_128 : decode c_BR_readClause 128 = .ok (.invokevirtual 48, 3) := by decide +kernel
theorem d_BR_readClause_131 : decode c_BR_readClause 131 = .ok (.ireturn, 1) := by decide +kernel
def S_BR_readClause_0 (g : Gx) (Q : Int32 → St → Prop) (σ : St) (x2 : Int32) : Prop := Ax g m_BR_readClause 0 0 (ZI g Q) SH σ 0 0 0 [(0, .ref (gB g + 3)), (1, .ref (gB g + 1)), (2, .int x2)] []
theorem sg_BR_readClause_0 {g : Gx} {Q : Int32 → St → Prop} {σ : St} {x2 : Int32}
    (h : K_TA_skipBlanks g σ (fun s1 : St => K_TA_endOfWord g s1 (fun (r3 : Int32) (s2 : St) => K_TA_isWord g r3 0 s2 (fun (r5 : Int32) (s4 : St) => (r5 = 0 → K_TA_isWord g r3 1 s4 (fun (r7 : Int32) (s6 : St) => (r7 = 0 → K_TA_blame g (fi s6 1 2) (0 : Int32) s6 (fun (r9 : Int32) (s8 : St) => (r9 = 0 ∨ r9 = 1) ∧ Q r9 s8)) ∧ (¬ r7 = 0 → (¬ x2 = 0 → K_TA_blame g (fi s6 1 2) (4 : Int32) s6 (fun (r11 : Int32) (s10 : St) => (r11 = 0 ∨ r11 = 1) ∧ Q r11 s10)) ∧ (x2 = 0 → ((fi s6 4 3) = 0 → K_TA_blame g (fi s6 1 2) (4 : Int32) s6 (fun (r13 : Int32) (s12 : St) => (r13 = 0 ∨ r13 = 1) ∧ Q r13 s12)) ∧ (¬ (fi s6 4 3) = 0 → (¬ (fi s6 4 4) = (3 : Int32) → ∀ s14 : St, s14 = sfi s6 1 2 r3 → K_BR_readBall g s14 (fun (r16 : Int32) (s15 : St) => (r16 = 0 ∨ r16 = 1) ∧ Q r16 s15)) ∧ ((fi s6 4 4) = (3 : Int32) → K_TA_blame g (fi s6 1 2) (4 : Int32) s6 (fun (r18 : Int32) (s17 : St) => (r18 = 0 ∨ r18 = 1) ∧ Q r18 s17))))))) ∧ (¬ r5 = 0 → (¬ x2 = 0 → K_TA_blame g (fi s4 1 2) (4 : Int32) s4 (fun (r20 : Int32) (s19 : St) => (r20 = 0 ∨ r20 = 1) ∧ Q r20 s19)) ∧ (x2 = 0 → ((fi s4 4 3) = (6 : Int32) → K_TA_blame g (fi s4 1 2) (4 : Int32) s4 (fun (r22 : Int32) (s21 : St) => (r22 = 0 ∨ r22 = 1) ∧ Q r22 s21)) ∧ (¬ (fi s4 4 3) = (6 : Int32) → ((fi s4 4 4) ≤ 0 → ∀ s23 : St, s23 = sfi s4 1 2 r3 → K_BR_readRow g s23 (fun (r25 : Int32) (s24 : St) => (r25 = 0 ∨ r25 = 1) ∧ Q r25 s24)) ∧ (¬ (fi s4 4 4) ≤ 0 → K_TA_blame g (fi s4 1 2) (4 : Int32) s4 (fun (r27 : Int32) (s26 : St) => (r27 = 0 ∨ r27 = 1) ∧ Q r27 s26))))))))) : S_BR_readClause_0 g Q σ x2 := by
  show Ax g m_BR_readClause 0 0 (ZI g Q) SH σ 0 0 0 [(0, .ref (gB g + 3)), (1, .ref (gB g + 1)), (2, .int x2)] []
  refine a_aload_n (pc := 0) 1 rfl rfl d_BR_readClause_0 ?_
  refine a_callV (pc := 1) (M' := m_TA_skipBlanks) (As := []) (st := []) (mc' := 0) (ms' := 0) lk_BR_34 rfl sx_1 rfl (by decide) (by decide) rfl (Nat.le_of_ble_eq_true rfl) (Nat.le_refl 0) (Nat.le_refl 0) d_BR_readClause_1 h ?_
  rintro _ _ s1 ⟨rfl, rfl, h⟩ -
  show Ax g m_BR_readClause 0 0 (ZI g Q) SH s1 0 0 4 [(0, .ref (gB g + 3)), (1, .ref (gB g + 1)), (2, .int x2)] []
  refine a_aload_n (pc := 4) 1 rfl rfl d_BR_readClause_4 ?_
  refine a_callV (pc := 5) (M' := m_TA_endOfWord) (As := []) (st := []) (mc' := 0) (ms' := 0) lk_BR_52 rfl sx_1 rfl (by decide) (by decide) rfl (Nat.le_of_ble_eq_true rfl) (Nat.le_refl 0) (Nat.le_refl 0) d_BR_readClause_5 h ?_
  rintro _ _ s2 ⟨r3, rfl, rfl, h⟩ -
  show Ax g m_BR_readClause 0 0 (ZI g Q) SH s2 0 0 8 [(0, .ref (gB g + 3)), (1, .ref (gB g + 1)), (2, .int x2)] [.int r3]
  refine a_istore_n (pc := 8) (lv' := [(3, .int r3), (0, .ref (gB g + 3)), (1, .ref (gB g + 1)), (2, .int x2)]) rfl (Nat.le_of_ble_eq_true rfl) rfl d_BR_readClause_8 ?_
  refine a_aload_n (pc := 9) 2 rfl rfl d_BR_readClause_9 ?_
  refine a_iload_n (pc := 10) 0 rfl rfl d_BR_readClause_10 ?_
  refine a_ldcS (pc := 11) (own := "BallBox$BoxReader") (idx := 56) (tx := "row") (w := 0) (by simp [strs]) rfl d_BR_readClause_11 ?_
  refine a_callV (pc := 13) (M' := m_TA_isWord) (As := [.int r3, .ref (gK g 0)]) (st := []) (mc' := 0) (ms' := 0) lk_BR_58 rfl sx_1 rfl (by decide) (by decide) rfl (Nat.le_of_ble_eq_true rfl) (Nat.le_refl 0) (Nat.le_refl 0) d_BR_readClause_13 h ?_
  rintro _ _ s4 ⟨r5, rfl, rfl, h⟩ -
  show Ax g m_BR_readClause 0 0 (ZI g Q) SH s4 0 0 16 [(3, .int r3), (0, .ref (gB g + 3)), (1, .ref (gB g + 1)), (2, .int x2)] [.int r5]
  refine a_if_eq (pc := 16) 66 (by decide) d_BR_readClause_16 ⟨fun c0 => ?_, fun c0 => ?_⟩
  · replace h := h.1 c0
    refine a_aload_n (pc := 66) 2 rfl rfl d_BR_readClause_66 ?_
    refine a_iload_n (pc := 67) 0 rfl rfl d_BR_readClause_67 ?_
    refine a_ldcS (pc := 68) (own := "BallBox$BoxReader") (idx := 72) (tx := "ball") (w := 1) (by simp [strs]) rfl d_BR_readClause_68 ?_
    refine a_callV (pc := 70) (M' := m_TA_isWord) (As := [.int r3, .ref (gK g 1)]) (st := []) (mc' := 0) (ms' := 0) lk_BR_58 rfl sx_1 rfl (by decide) (by decide) rfl (Nat.le_of_ble_eq_true rfl) (Nat.le_refl 0) (Nat.le_refl 0) d_BR_readClause_70 h ?_
    rintro _ _ s6 ⟨r7, rfl, rfl, h⟩ -
    show Ax g m_BR_readClause 0 0 (ZI g Q) SH s6 0 0 73 [(3, .int r3), (0, .ref (gB g + 3)), (1, .ref (gB g + 1)), (2, .int x2)] [.int r7]
    refine a_if_eq (pc := 73) 122 (by decide) d_BR_readClause_73 ⟨fun c0 => ?_, fun c0 => ?_⟩
    · replace h := h.1 c0
      refine a_aload_n (pc := 122) 2 rfl rfl d_BR_readClause_122 ?_
      refine a_aload_n (pc := 123) 2 rfl rfl d_BR_readClause_123 ?_
      refine a_getI (pc := 124) fg_BR_41 sx_1 rfl d_BR_readClause_124 ?_
      refine a_iconst (pc := 127) (0 : Int32) (by decide) d_BR_readClause_127 ?_
      refine a_callV (pc := 128) (M' := m_TA_blame) (As := [.int (fi s6 1 2), .int (0 : Int32)]) (st := []) (mc' := 0) (ms' := 0) lk_BR_48 rfl sx_1 rfl (by decide) (by decide) rfl (Nat.le_of_ble_eq_true rfl) (Nat.le_refl 0) (Nat.le_refl 0) d_BR_readClause_128 h ?_
      rintro _ _ s8 ⟨r9, rfl, rfl, h⟩ -
      show Ax g m_BR_readClause 0 0 (ZI g Q) SH s8 0 0 131 [(3, .int r3), (0, .ref (gB g + 3)), (1, .ref (gB g + 1)), (2, .int x2)] [.int r9]
      exact b_zret (pc := 131) rfl h.1 d_BR_readClause_131 h.2
    · replace h := h.2 c0
      refine a_iload_n (pc := 76) 3 rfl rfl d_BR_readClause_76 ?_
      refine a_if_ne (pc := 77) 101 (by decide) d_BR_readClause_77 ⟨fun c0 => ?_, fun c0 => ?_⟩
      · replace h := h.1 c0
        refine a_aload_n (pc := 101) 2 rfl rfl d_BR_readClause_101 ?_
        refine a_aload_n (pc := 102) 2 rfl rfl d_BR_readClause_102 ?_
        refine a_getI (pc := 103) fg_BR_41 sx_1 rfl d_BR_readClause_103 ?_
        refine a_iconst (pc := 106) (4 : Int32) (by decide) d_BR_readClause_106 ?_
        refine a_callV (pc := 107) (M' := m_TA_blame) (As := [.int (fi s6 1 2), .int (4 : Int32)]) (st := []) (mc' := 0) (ms' := 0) lk_BR_48 rfl sx_1 rfl (by decide) (by decide) rfl (Nat.le_of_ble_eq_true rfl) (Nat.le_refl 0) (Nat.le_refl 0) d_BR_readClause_107 h ?_
        rintro _ _ s10 ⟨r11, rfl, rfl, h⟩ -
        show Ax g m_BR_readClause 0 0 (ZI g Q) SH s10 0 0 110 [(3, .int r3), (0, .ref (gB g + 3)), (1, .ref (gB g + 1)), (2, .int x2)] [.int r11]
        exact b_zret (pc := 110) rfl h.1 d_BR_readClause_110 h.2
      · replace h := h.2 c0
        refine a_aload_n (pc := 80) 1 rfl rfl d_BR_readClause_80 ?_
        refine a_getR (pc := 81) fg_BR_12 sx_3 rfl d_BR_readClause_81 ?_
        refine a_getI (pc := 84) fg_BR_62 sx_4 rfl d_BR_readClause_84 ?_
        refine a_if_eq (pc := 87) 101 (by decide) d_BR_readClause_87 ⟨fun c0 => ?_, fun c0 => ?_⟩
        · replace h := h.1 c0
          refine a_aload_n (pc := 101) 2 rfl rfl d_BR_readClause_101 ?_
          refine a_aload_n (pc := 102) 2 rfl rfl d_BR_readClause_102 ?_
          refine a_getI (pc := 103) fg_BR_41 sx_1 rfl d_BR_readClause_103 ?_
          refine a_iconst (pc := 106) (4 : Int32) (by decide) d_BR_readClause_106 ?_
          refine a_callV (pc := 107) (M' := m_TA_blame) (As := [.int (fi s6 1 2), .int (4 : Int32)]) (st := []) (mc' := 0) (ms' := 0) lk_BR_48 rfl sx_1 rfl (by decide) (by decide) rfl (Nat.le_of_ble_eq_true rfl) (Nat.le_refl 0) (Nat.le_refl 0) d_BR_readClause_107 h ?_
          rintro _ _ s12 ⟨r13, rfl, rfl, h⟩ -
          show Ax g m_BR_readClause 0 0 (ZI g Q) SH s12 0 0 110 [(3, .int r3), (0, .ref (gB g + 3)), (1, .ref (gB g + 1)), (2, .int x2)] [.int r13]
          exact b_zret (pc := 110) rfl h.1 d_BR_readClause_110 h.2
        · replace h := h.2 c0
          refine a_aload_n (pc := 90) 1 rfl rfl d_BR_readClause_90 ?_
          refine a_getR (pc := 91) fg_BR_12 sx_3 rfl d_BR_readClause_91 ?_
          refine a_getI (pc := 94) fg_BR_65 sx_4 rfl d_BR_readClause_94 ?_
          refine a_iconst (pc := 97) (3 : Int32) (by decide) d_BR_readClause_97 ?_
          refine a_icmp_ne (pc := 98) 111 (by decide) d_BR_readClause_98 ⟨fun c0 => ?_, fun c0 => ?_⟩
          · replace h := h.1 c0
            refine a_aload_n (pc := 111) 2 rfl rfl d_BR_readClause_111 ?_
            refine a_iload_n (pc := 112) 0 rfl rfl d_BR_readClause_112 ?_
            refine a_putI (pc := 113) fp_BR_41 sx_1 rfl d_BR_readClause_113 ?_
            refine a_nms (fun s14 hs14 => ?_)
            replace h := h s14 hs14
            refine a_aload_n (pc := 116) 1 rfl rfl d_BR_readClause_116 ?_
            refine a_aload_n (pc := 117) 2 rfl rfl d_BR_readClause_117 ?_
            refine a_callV (pc := 118) (M' := m_BR_readBall) (As := [.ref (gB g + 1)]) (st := []) (mc' := 0) (ms' := 0) lk_BR_74 rfl sx_3 rfl (by decide) (by decide) rfl (Nat.le_of_ble_eq_true rfl) (Nat.le_refl 0) (Nat.le_refl 0) d_BR_readClause_118 h ?_
            rintro _ _ s15 ⟨r16, rfl, rfl, h⟩ -
            show Ax g m_BR_readClause 0 0 (ZI g Q) SH s15 0 0 121 [(3, .int r3), (0, .ref (gB g + 3)), (1, .ref (gB g + 1)), (2, .int x2)] [.int r16]
            exact b_zret (pc := 121) rfl h.1 d_BR_readClause_121 h.2
          · replace h := h.2 c0
            refine a_aload_n (pc := 101) 2 rfl rfl d_BR_readClause_101 ?_
            refine a_aload_n (pc := 102) 2 rfl rfl d_BR_readClause_102 ?_
            refine a_getI (pc := 103) fg_BR_41 sx_1 rfl d_BR_readClause_103 ?_
            refine a_iconst (pc := 106) (4 : Int32) (by decide) d_BR_readClause_106 ?_
            refine a_callV (pc := 107) (M' := m_TA_blame) (As := [.int (fi s6 1 2), .int (4 : Int32)]) (st := []) (mc' := 0) (ms' := 0) lk_BR_48 rfl sx_1 rfl (by decide) (by decide) rfl (Nat.le_of_ble_eq_true rfl) (Nat.le_refl 0) (Nat.le_refl 0) d_BR_readClause_107 h ?_
            rintro _ _ s17 ⟨r18, rfl, rfl, h⟩ -
            show Ax g m_BR_readClause 0 0 (ZI g Q) SH s17 0 0 110 [(3, .int r3), (0, .ref (gB g + 3)), (1, .ref (gB g + 1)), (2, .int x2)] [.int r18]
            exact b_zret (pc := 110) rfl h.1 d_BR_readClause_110 h.2
  · replace h := h.2 c0
    refine a_iload_n (pc := 19) 3 rfl rfl d_BR_readClause_19 ?_
    refine a_if_ne (pc := 20) 45 (by decide) d_BR_readClause_20 ⟨fun c0 => ?_, fun c0 => ?_⟩
    · replace h := h.1 c0
      refine a_aload_n (pc := 45) 2 rfl rfl d_BR_readClause_45 ?_
      refine a_aload_n (pc := 46) 2 rfl rfl d_BR_readClause_46 ?_
      refine a_getI (pc := 47) fg_BR_41 sx_1 rfl d_BR_readClause_47 ?_
      refine a_iconst (pc := 50) (4 : Int32) (by decide) d_BR_readClause_50 ?_
      refine a_callV (pc := 51) (M' := m_TA_blame) (As := [.int (fi s4 1 2), .int (4 : Int32)]) (st := []) (mc' := 0) (ms' := 0) lk_BR_48 rfl sx_1 rfl (by decide) (by decide) rfl (Nat.le_of_ble_eq_true rfl) (Nat.le_refl 0) (Nat.le_refl 0) d_BR_readClause_51 h ?_
      rintro _ _ s19 ⟨r20, rfl, rfl, h⟩ -
      show Ax g m_BR_readClause 0 0 (ZI g Q) SH s19 0 0 54 [(3, .int r3), (0, .ref (gB g + 3)), (1, .ref (gB g + 1)), (2, .int x2)] [.int r20]
      exact b_zret (pc := 54) rfl h.1 d_BR_readClause_54 h.2
    · replace h := h.2 c0
      refine a_aload_n (pc := 23) 1 rfl rfl d_BR_readClause_23 ?_
      refine a_getR (pc := 24) fg_BR_12 sx_3 rfl d_BR_readClause_24 ?_
      refine a_getI (pc := 27) fg_BR_62 sx_4 rfl d_BR_readClause_27 ?_
      refine a_bipush (pc := 30) (6 : Int32) (by decide) d_BR_readClause_30 ?_
      refine a_icmp_eq (pc := 32) 45 (by decide) d_BR_readClause_32 ⟨fun c0 => ?_, fun c0 => ?_⟩
      · replace h := h.1 c0
        refine a_aload_n (pc := 45) 2 rfl rfl d_BR_readClause_45 ?_
        refine a_aload_n (pc := 46) 2 rfl rfl d_BR_readClause_46 ?_
        refine a_getI (pc := 47) fg_BR_41 sx_1 rfl d_BR_readClause_47 ?_
        refine a_iconst (pc := 50) (4 : Int32) (by decide) d_BR_readClause_50 ?_
        refine a_callV (pc := 51) (M' := m_TA_blame) (As := [.int (fi s4 1 2), .int (4 : Int32)]) (st := []) (mc' := 0) (ms' := 0) lk_BR_48 rfl sx_1 rfl (by decide) (by decide) rfl (Nat.le_of_ble_eq_true rfl) (Nat.le_refl 0) (Nat.le_refl 0) d_BR_readClause_51 h ?_
        rintro _ _ s21 ⟨r22, rfl, rfl, h⟩ -
        show Ax g m_BR_readClause 0 0 (ZI g Q) SH s21 0 0 54 [(3, .int r3), (0, .ref (gB g + 3)), (1, .ref (gB g + 1)), (2, .int x2)] [.int r22]
        exact b_zret (pc := 54) rfl h.1 d_BR_readClause_54 h.2
      · replace h := h.2 c0
        refine a_aload_n (pc := 35) 1 rfl rfl d_BR_readClause_35 ?_
        refine a_getR (pc := 36) fg_BR_12 sx_3 rfl d_BR_readClause_36 ?_
        refine a_getI (pc := 39) fg_BR_65 sx_4 rfl d_BR_readClause_39 ?_
        refine a_if_le (pc := 42) 55 (by decide) d_BR_readClause_42 ⟨fun c0 => ?_, fun c0 => ?_⟩
        · replace h := h.1 c0
          refine a_aload_n (pc := 55) 2 rfl rfl d_BR_readClause_55 ?_
          refine a_iload_n (pc := 56) 0 rfl rfl d_BR_readClause_56 ?_
          refine a_putI (pc := 57) fp_BR_41 sx_1 rfl d_BR_readClause_57 ?_
          refine a_nms (fun s23 hs23 => ?_)
          replace h := h s23 hs23
          refine a_aload_n (pc := 60) 1 rfl rfl d_BR_readClause_60 ?_
          refine a_aload_n (pc := 61) 2 rfl rfl d_BR_readClause_61 ?_
          refine a_callV (pc := 62) (M' := m_BR_readRow) (As := [.ref (gB g + 1)]) (st := []) (mc' := 0) (ms' := 0) lk_BR_68 rfl sx_3 rfl (by decide) (by decide) rfl (Nat.le_of_ble_eq_true rfl) (Nat.le_refl 0) (Nat.le_refl 0) d_BR_readClause_62 h ?_
          rintro _ _ s24 ⟨r25, rfl, rfl, h⟩ -
          show Ax g m_BR_readClause 0 0 (ZI g Q) SH s24 0 0 65 [(3, .int r3), (0, .ref (gB g + 3)), (1, .ref (gB g + 1)), (2, .int x2)] [.int r25]
          exact b_zret (pc := 65) rfl h.1 d_BR_readClause_65 h.2
        · replace h := h.2 c0
          refine a_aload_n (pc := 45) 2 rfl rfl d_BR_readClause_45 ?_
          refine a_aload_n (pc := 46) 2 rfl rfl d_BR_readClause_46 ?_
          refine a_getI (pc := 47) fg_BR_41 sx_1 rfl d_BR_readClause_47 ?_
          refine a_iconst (pc := 50) (4 : Int32) (by decide) d_BR_readClause_50 ?_
          refine a_callV (pc := 51) (M' := m_TA_blame) (As := [.int (fi s4 1 2), .int (4 : Int32)]) (st := []) (mc' := 0) (ms' := 0) lk_BR_48 rfl sx_1 rfl (by decide) (by decide) rfl (Nat.le_of_ble_eq_true rfl) (Nat.le_refl 0) (Nat.le_refl 0) d_BR_readClause_51 h ?_
          rintro _ _ s26 ⟨r27, rfl, rfl, h⟩ -
          show Ax g m_BR_readClause 0 0 (ZI g Q) SH s26 0 0 54 [(3, .int r3), (0, .ref (gB g + 3)), (1, .ref (gB g + 1)), (2, .int x2)] [.int r27]
          exact b_zret (pc := 54) rfl h.1 d_BR_readClause_54 h.2
theorem ko_BR_readClause {g : Gx}  {x2 : Int32} {σ : St} {Q : Int32 → St → Prop} (h : S_BR_readClause_0 g Q σ x2) : K_BR_readClause g x2 σ Q := KI.of (show plainName "BallBox$BoxReader" = true by decide) (Nat.le_of_ble_eq_true rfl) h
theorem d_BR_readRow_0 : decode c_BR_readRow 0 = .ok (.aload_n 1, 1) := by decide +kernel
theorem d_BR_readRow_1 : decode c_BR_readRow 1 = .ok (.invokevirtual 34, 3) := by decide +kernel
theorem d_BR_readRow_4 : decode c_BR_readRow 4 = .ok (.aload_n 1, 1) := by decide +kernel
theorem d_BR_readRow_5 : decode c_BR_readRow 5 = .ok (.getfield 41, 3) := by decide +kernel
theorem d_BR_readRow_8 : decode c_BR_readRow 8 = .ok (.istore_n 2, 1) := by decide +kernel
theorem d_BR_readRow_9 : decode c_BR_readRow 9 = .ok (.aload_n 1, 1) := by decide +kernel
theorem d_BR_readRow_10 : decode c_BR_readRow 10 = .ok (.getfield 41, 3) := by decide +kernel
theorem d_BR_readRow_13 : decode c_BR_readRow 13 = .ok (.aload_n 1, 1) := by decide +kernel
theorem d_BR_readRow_14 : decode c_BR_readRow 14 = .ok (.getfield 77, 3) := by decide +kernel
theorem d_BR_readRow_17 : decode c_BR_readRow 17 = .ok (.if_icmp .ge 92, 3) := by decide +kernel
theorem d_BR_readRow_20 : decode c_BR_readRow 20 = .ok (.aload_n 1, 1) := by decide +kernel
theorem d_BR_readRow_21 : decode c_BR_readRow 21 = .ok (.aload_n 1, 1) := by decide +kernel
theorem d_BR_readRow_22 : decode c_BR_readRow 22 = .ok (.getfield 41, 3) := by decide +kernel
theorem d_BR_readRow_25 : decode c_BR_readRow 25 = .ok (.invokevirtual 44, 3) := by decide +kernel
theorem d_BR_readRow_28 : decode c_BR_readRow 28 = .ok (.invokestatic 80, 3) := by decide +kernel
theorem d_BR_readRow_31 : decode c_BR_readRow 31 = .ok (.istore_n 3, 1) := by decide +kernel
theorem d_BR_readRow_32 : decode c_BR_readRow 32 = .ok (.iload_n 3, 1) := by decide +kernel
theorem d_BR_readRow_33 : decode c_BR_readRow 33 = .ok (.iconst (-1), 1) := by decide +kernel
theorem d_BR_readRow_34 : decode c_BR_readRow 34 = .ok (.if_icmp .ne 6, 3) := by decide +kernel
theorem d_BR_readRow_37 : decode c_BR_readRow 37 = .ok (.goto 72, 3) := by decide +kernel
theorem d_BR_readRow_40 : decode c_BR_readRow 40 = .ok (.aload_n 1, 1) := by decide +kernel
theorem d_BR_readRow_41 : decode c_BR_readRow 41 = .ok (.getfield 41, 3) := by decide +kernel
theorem d_BR_readRow_44 : decode c_BR_readRow 44 = .ok (.iload_n 2, 1) := by decide +kernel
theorem d_BR_readRow_45 : decode c_BR_readRow 45 = .ok (.isub, 1) := by decide +kernel
theorem d_BR_readRow_46 : decode c_BR_readRow 46 = .ok (.istore 4, 2) := by decide +kernel
theorem d_BR_readRow_48 : decode c_BR_readRow 48 = .ok (.iload 4, 2) := by decide +kernel
theorem d_BR_readRow_50 : decode c_BR_readRow 50 = .ok (.bipush 6, 2) := by decide +kernel
theorem d_BR_readRow_52 : decode c_BR_readRow 52 = .ok (.if_icmp .ge 14, 3) := by decide +kernel
theorem d_BR_readRow_55 : decode c_BR_readRow 55 = .ok (.aload_n 0, 1) := by decide +kernel
theorem d_BR_readRow_56 : decode c_BR_readRow 56 = .ok (.getfield 12, 3) := by decide +kernel
theorem d_BR_readRow_59 : decode c_BR_readRow 59 = .ok (.iload_n 3, 1) := by decide +kernel
theorem d_BR_readRow_60 : decode c_BR_readRow 60 = .ok (.invokevirtual 83, 3) := by decide +kernel
theorem d_BR_readRow_63 : decode c_BR_readRow 63 = .ok (.ifCond .eq 13, 3) := by decide +kernel
theorem d_BR_readRow_66 : decode c_BR_readRow 66 = .ok (.aload_n 1, 1) := by decide +kernel
theorem d_BR_readRow_67 : decode c_BR_readRow 67 = .ok (.aload_n 1, 1) := by decide +kernel
theorem d_BR_readRow_68 : decode c_BR_readRow 68 = .ok (.getfield 41, 3) := by decide +kernel
theorem d_BR_readRow_71 : decode c_BR_readRow 71 = .ok (.iconst 5, 1) := by decide +kernel
theorem d_BR_readRow_72 : decode c_BR_readRow 72 = .ok (.invokevirtual 48, 3) := by decide +kernel
theorem d_BR_readRow_75 : decode c_BR_readRow 75 = .ok (.ireturn, 1) := by decide +kernel
theorem d_BR_readRow_76 : decode c_BR_readRow 76 = .ok (.aload_n 0, 1) := by decide +kernel
theorem d_BR_readRow_77 : decode c_BR_readRow 77 = .ok (.getfield 12, 3) := by decide +kernel
theorem d_BR_readRow_80 : decode c_BR_readRow 80 = .ok (.iload 4, 2) := by decide +kernel
theorem d_BR_readRow_82 : decode c_BR_readRow 82 = .ok (.aload_n 0, 1) := by decide +kernel
theorem d_BR_readRow_83 : decode c_BR_readRow 83 = .ok (.getfield 12, 3) := by decide +kernel
theorem d_BR_readRow_86 : decode c_BR_readRow 86 = .ok (.getfield 62, 3) := by decide +kernel
theorem d_BR_readRow_89 : decode c_BR_readRow 89 = .ok (.invokestatic 87, 3) := by decide +kernel
theorem d_BR_readRow_92 : decode c_BR_readRow 92 = .ok (.iload_n 3, 1) := by decide +kernel
theorem d_BR_readRow_93 : decode c_BR_readRow 93 = .ok (.invokevirtual 91, 3) := by decide +kernel
theorem d_BR_readRow_96 : decode c_BR_readRow 96 = .ok (.aload_n 1, 1) := by decide +kernel
theorem d_BR_readRow_97 : decode c_BR_readRow 97 = .ok (.dup, 1) := by decide +kernel
theorem d_BR_readRow_98 : decode c_BR_readRow 98 = .ok (.getfield 41, 3) := by decide +kernel
theorem d_BR_readRow_101 : decode c_BR_readRow 101 = .ok (.iconst 1, 1) := by decide +kernel
theorem d_BR_readRow_102 : decode c_BR_readRow 102 = .ok (.iadd, 1) := by decide +kernel
theorem d_BR_readRow_103 : decode c_BR_readRow 103 = .ok (.putfield 41, 3) := by decide +kernel
theorem d_BR_readRow_106 : decode c_BR_readRow 106 = .ok (.goto (-97), 3) := by decide +kernel
theorem d_BR_readRow_109 : decode c_BR_readRow 109 = .ok (.aload_n 1, 1) := by decide +kernel
theorem d_BR_readRow_110 : decode c_BR_readRow 110 = .ok (.getfield 41, 3) := by decide +kernel
theorem d_BR_readRow_113 : decode c_BR_readRow 113 = .ok (.iload_n 2, 1) := by decide +kernel
theorem d_BR_readRow_114 : decode c_BR_readRow 114 = .ok (.isub, 1) := by decide +kernel
theorem d_BR_readRow_115 : decode c_BR_readRow 115 = .ok (.istore_n 3, 1) := by decide +kernel
theorem d_BR_readRow_116 : decode c_BR_readRow 116 = .ok (.iload_n 3, 1) := by decide +kernel
theorem d_BR_readRow_117 : decode c_BR_readRow 117 = .ok (.ifCond .ne 13, 3) := by decide +kernel
theorem d_BR_readRow_120 : decode c_BR_readRow 120 = .ok (.aload_n 1, 1) := by decide +kernel
theorem d_BR_readRow_121 : decode c_BR_readRow 121 = .ok (.aload_n 1, 1) := by decide +kernel
theorem d_BR_readRow_122 : decode c_BR_readRow 122 = .ok (.getfield 41, 3) := by decide +kernel
theorem d_BR_readRow_125 : decode c_BR_readRow 125 = .ok (.iconst 0, 1) := by decide +kernel
theorem d_BR_readRow_126 : decode c_BR_readRow 126 = .ok (.invokevirtual 48, 3) := by decide +kernel
theorem d_BR_readRow_129 : decode c_BR_readRow 129 = .ok (.ireturn, 1) := by decide +kernel
theorem d_BR_readRow_130 : decode c_BR_readRow 130 = .ok (.aload_n 0, 1) := by decide +kernel
theorem d_BR_readRow_131 : decode c_BR_readRow 131 = .ok (.getfield 12, 3) := by decide +kernel
theorem d_BR_readRow_134 : decode c_BR_readRow 134 = .ok (.getfield 62, 3) := by decide +kernel
theorem d_BR_readRow_137 : decode c_BR_readRow 137 = .ok (.ifCond .le 26, 3) := by decide +kernel
theorem d_BR_readRow_140 : decode c_BR_readRow 140 = .ok (.iload_n 3, 1) := by decide +kernel
theorem d_BR_readRow_141 : decode c_BR_readRow 141 = .ok (.aload_n 0, 1) := by decide +kernel
theorem d_BR_readRow_142 : decode c_BR_readRow 142 = .ok (.getfield 12, 3) := by decide +kernel
theorem d_BR_readRow_145 : decode c_BR_readRow 145 = .ok (.getfield 95, 3) := by decide +kernel
theorem d_BR_readRow_148 : decode c_BR_readRow 148 = .ok (.if_icmp .eq 15, 3) := by decide +kernel
theorem d_BR_readRow_151 : decode c_BR_readRow 151 = .ok (.aload_n 1, 1) := by decide +kernel
theorem d_BR_readRow_152 : decode c_BR_readRow 152 = .ok (.aload_n 1, 1) := by decide +kernel
theorem d_BR_readRow_153 : decode c_BR_readRow 153 = .ok (.getfield 41, 3) := by decide +kernel
theorem d_BR_readRow_156 : decode c_BR_readRow 156 = .ok (.iconst 1, 1) := by decide +kernel
theorem d_BR_readRow_157 : decode c_BR_readRow 157 = .ok (.isub, 1) := by decide +kernel
theorem d_BR_readRow_158 : decode c_BR_readRow 158 = .ok (.iconst 5, 1) := by decide +kernel
theorem d_BR_readRow_159 : decode c_BR_readRow 159 = .ok (.invokevirtual 48, 3) := by decide +kernel
theorem d_BR_readRow_162 : decode c_BR_readRow 162 = .ok (.ireturn, 1) := by decide +kernel
theorem d_BR_readRow_163 : decode c_BR_readRow 163 = .ok (.aload_n 0, 1) := by decide +kernel
theorem d_BR_readRow_164 : decode c_BR_readRow 164 = .ok (.getfield 12, 3) := by decide +kernel
theorem d_BR_readRow_167 : decode c_BR_readRow 167 = .ok (.iload_n 3, 1) := by decide +kernel
theorem d_BR_readRow_168 : decode c_BR_readRow 168 = .ok (.putfield 95, 3) := by decide +kernel
theorem d_BR_readRow_171 : decode c_BR_readRow 171 = .ok (.aload_n 0, 1) := by decide +kernel
theorem d_BR_readRow_172 : decode c_BR_readRow 172 = .ok (.getfield 12, 3) := by decide +kernel
theorem d_BR_readRow_175 : decode c_BR_readRow 175 = .ok (.dup, 1) := by decide +kernel
theorem d_BR_readRow_176 : decode c_BR_readRow 176 = .ok (.getfield 62, 3) := by decide +kernel
theorem d_BR_readRow_179 : decode c_BR_readRow 179 = .ok (.iconst 1, 1) := by decide +kernel
theorem d_BR_readRow_180 : decode c_BR_readRow 180 = .ok (.iadd, 1) := by decide +kernel
theorem d_BR_readRow_181 : decode c_BR_readRow 181 = .ok (.putfield 62, 3) := by decide +kernel
theorem d_BR_readRow_184 : decode c_BR_readRow 184 = .ok (.iconst 1, 1) := by decide +kernel
theorem d_BR_readRow_185 : decode c_BR_readRow 185 = .ok (.ireturn, 1) := by decide +kernel
def S_BR_readRow_0 (g : Gx) (Q : Int32 → St → Prop) (σ : St) : Prop := Ax g m_BR_readRow 0 0 (ZI g Q) SH σ 0 0 0 [(0, .ref (gB g + 3)), (1, .ref (gB g + 1))] []
def S_BR_readRow_9 (g : Gx) (Q : Int32 → St → Prop) (σ : St) (x2 : Int32) : Prop := Ax g m_BR_readRow 0 0 (ZI g Q) SH σ 0 0 9 [(0, .ref (gB g + 3)), (1, .ref (gB g + 1)), (2, .int x2)] []
def S_BR_readRow_109 (g : Gx) (Q : Int32 → St → Prop) (σ : St) (x2 : Int32) : Prop := Ax g m_BR_readRow 0 0 (ZI g Q) SH σ 0 0 109 [(0, .ref (gB g + 3)), (1, .ref (gB g + 1)), (2, .int x2)] []
theorem sg_BR_readRow_0 {g : Gx} {Q : Int32 → St → Prop} {σ : St}
    (h : K_TA_skipBlanks g σ (fun s1 : St => ∀ u2 : Int32, u2 = (fi s1 1 2) → S_BR_readRow_9 g Q s1 u2)) : S_BR_readRow_0 g Q σ := by
  show Ax g m_BR_readRow 0 0 (ZI g Q) SH σ 0 0 0 [(0, .ref (gB g + 3)), (1, .ref (gB g + 1))] []
  refine a_aload_n (pc := 0) 1 rfl rfl d_BR_readRow_0 ?_
  refine a_callV (pc := 1) (M' := m_TA_skipBlanks) (As := []) (st := []) (mc' := 0) (ms' := 0) lk_BR_34 rfl sx_1 rfl (by decide) (by decide) rfl (Nat.le_of_ble_eq_true rfl) (Nat.le_refl 0) (Nat.le_refl 0) d_BR_readRow_1 h ?_
  rintro _ _ s1 ⟨rfl, rfl, h⟩ -
  show Ax g m_BR_readRow 0 0 (ZI g Q) SH s1 0 0 4 [(0, .ref (gB g + 3)), (1, .ref (gB g + 1))] []
  refine a_aload_n (pc := 4) 1 rfl rfl d_BR_readRow_4 ?_
  refine a_getI (pc := 5) fg_BR_41 sx_1 rfl d_BR_readRow_5 ?_
  refine a_nmi (pc := 8) (fun u2 hu2 => ?_)
  replace h := h u2 hu2
  refine a_istore_n (pc := 8) (lv' := [(2, .int u2), (0, .ref (gB g + 3)), (1, .ref (gB g + 1))]) rfl (Nat.le_of_ble_eq_true rfl) rfl d_BR_readRow_8 ?_
  refine a_sub (pc := 9) [1, 2, 0] rfl ?_
  exact h
theorem sg_BR_readRow_9 {g : Gx} {Q : Int32 → St → Prop} {σ : St} {x2 : Int32}
    (h : ((fi σ 1 1) ≤ (fi σ 1 2) → S_BR_readRow_109 g Q σ x2) ∧ (¬ (fi σ 1 1) ≤ (fi σ 1 2) → K_TA_signAt g (fi σ 1 2) σ (fun (r2 : Int32) (s1 : St) => K_BR_kindOf g r2 s1 (fun (r4 : Int32) (s3 : St) => (¬ r4 = (-1 : Int32) → ∀ u5 : Int32, u5 = ((fi s3 1 2) - x2) → ((6 : Int32) ≤ u5 → K_TA_blame g (fi s3 1 2) (5 : Int32) s3 (fun (r7 : Int32) (s6 : St) => (r7 = 0 ∨ r7 = 1) ∧ Q r7 s6)) ∧ (¬ (6 : Int32) ≤ u5 → K_SA_hasHole g 4 r4 s3 (fun (r9 : Int32) (s8 : St) => (r9 = 0 → K_SA_spotOf g u5 (fi s8 4 3) s8 (fun (r11 : Int32) (s10 : St) => K_SA_makeKind g 4 r11 r4 s10 (fun s12 : St => ∀ s13 : St, s13 = sfi s12 1 2 ((fi s12 1 2) + (1 : Int32)) → S_BR_readRow_9 g Q s13 x2))) ∧ (¬ r9 = 0 → K_TA_blame g (fi s8 1 2) (5 : Int32) s8 (fun (r15 : Int32) (s14 : St) => (r15 = 0 ∨ r15 = 1) ∧ Q r15 s14))))) ∧ (r4 = (-1 : Int32) → S_BR_readRow_109 g Q s3 x2))))) : S_BR_readRow_9 g Q σ x2 := by
  show Ax g m_BR_readRow 0 0 (ZI g Q) SH σ 0 0 9 [(0, .ref (gB g + 3)), (1, .ref (gB g + 1)), (2, .int x2)] []
  refine a_aload_n (pc := 9) 1 rfl rfl d_BR_readRow_9 ?_
  refine a_getI (pc := 10) fg_BR_41 sx_1 rfl d_BR_readRow_10 ?_
  refine a_aload_n (pc := 13) 1 rfl rfl d_BR_readRow_13 ?_
  refine a_getI (pc := 14) fg_BR_77 sx_1 rfl d_BR_readRow_14 ?_
  refine a_icmp_ge (pc := 17) 109 (by decide) d_BR_readRow_17 ⟨fun c0 => ?_, fun c0 => ?_⟩
  · replace h := h.1 c0
    refine a_sub (pc := 109) [0, 1, 2] rfl ?_
    exact h
  · replace h := h.2 c0
    refine a_aload_n (pc := 20) 1 rfl rfl d_BR_readRow_20 ?_
    refine a_aload_n (pc := 21) 1 rfl rfl d_BR_readRow_21 ?_
    refine a_getI (pc := 22) fg_BR_41 sx_1 rfl d_BR_readRow_22 ?_
    refine a_callV (pc := 25) (M' := m_TA_signAt) (As := [.int (fi σ 1 2)]) (st := []) (mc' := 0) (ms' := 0) lk_BR_44 rfl sx_1 rfl (by decide) (by decide) rfl (Nat.le_of_ble_eq_true rfl) (Nat.le_refl 0) (Nat.le_refl 0) d_BR_readRow_25 h ?_
    rintro _ _ s1 ⟨r2, rfl, rfl, h⟩ -
    show Ax g m_BR_readRow 0 0 (ZI g Q) SH s1 0 0 28 [(0, .ref (gB g + 3)), (1, .ref (gB g + 1)), (2, .int x2)] [.int r2]
    refine a_callS (pc := 28) (M' := m_BR_kindOf) (As := [.int r2]) (st := []) (mc' := 0) (ms' := 0) lk_BR_80 rfl (by decide) (by decide) rfl (Nat.le_of_ble_eq_true rfl) (Nat.le_refl 0) (Nat.le_refl 0) d_BR_readRow_28 h ?_
    rintro _ _ s3 ⟨r4, rfl, rfl, h⟩ -
    show Ax g m_BR_readRow 0 0 (ZI g Q) SH s3 0 0 31 [(0, .ref (gB g + 3)), (1, .ref (gB g + 1)), (2, .int x2)] [.int r4]
    refine a_istore_n (pc := 31) (lv' := [(3, .int r4), (0, .ref (gB g + 3)), (1, .ref (gB g + 1)), (2, .int x2)]) rfl (Nat.le_of_ble_eq_true rfl) rfl d_BR_readRow_31 ?_
    refine a_iload_n (pc := 32) 0 rfl rfl d_BR_readRow_32 ?_
    refine a_iconst (pc := 33) (-1 : Int32) (by decide) d_BR_readRow_33 ?_
    refine a_icmp_ne (pc := 34) 40 (by decide) d_BR_readRow_34 ⟨fun c0 => ?_, fun c0 => ?_⟩
    · replace h := h.1 c0
      refine a_aload_n (pc := 40) 2 rfl rfl d_BR_readRow_40 ?_
      refine a_getI (pc := 41) fg_BR_41 sx_1 rfl d_BR_readRow_41 ?_
      refine a_iload_n (pc := 44) 3 rfl rfl d_BR_readRow_44 ?_
      refine a_isub (pc := 45) d_BR_readRow_45 ?_
      refine a_nmi (pc := 46) (fun u5 hu5 => ?_)
      replace h := h u5 hu5
      refine a_istore (pc := 46) (lv' := [(4, .int u5), (3, .int r4), (0, .ref (gB g + 3)), (1, .ref (gB g + 1)), (2, .int x2)]) (Nat.le_of_ble_eq_true rfl) rfl d_BR_readRow_46 ?_
      refine a_iload (pc := 48) 0 rfl d_BR_readRow_48 ?_
      refine a_bipush (pc := 50) (6 : Int32) (by decide) d_BR_readRow_50 ?_
      refine a_icmp_ge (pc := 52) 66 (by decide) d_BR_readRow_52 ⟨fun c0 => ?_, fun c0 => ?_⟩
      · replace h := h.1 c0
        refine a_aload_n (pc := 66) 3 rfl rfl d_BR_readRow_66 ?_
        refine a_aload_n (pc := 67) 3 rfl rfl d_BR_readRow_67 ?_
        refine a_getI (pc := 68) fg_BR_41 sx_1 rfl d_BR_readRow_68 ?_
        refine a_iconst (pc := 71) (5 : Int32) (by decide) d_BR_readRow_71 ?_
        refine a_callV (pc := 72) (M' := m_TA_blame) (As := [.int (fi s3 1 2), .int (5 : Int32)]) (st := []) (mc' := 0) (ms' := 0) lk_BR_48 rfl sx_1 rfl (by decide) (by decide) rfl (Nat.le_of_ble_eq_true rfl) (Nat.le_refl 0) (Nat.le_refl 0) d_BR_readRow_72 h ?_
        rintro _ _ s6 ⟨r7, rfl, rfl, h⟩ -
        show Ax g m_BR_readRow 0 0 (ZI g Q) SH s6 0 0 75 [(4, .int u5), (3, .int r4), (0, .ref (gB g + 3)), (1, .ref (gB g + 1)), (2, .int x2)] [.int r7]
        exact b_zret (pc := 75) rfl h.1 d_BR_readRow_75 h.2
      · replace h := h.2 c0
        refine a_aload_n (pc := 55) 2 rfl rfl d_BR_readRow_55 ?_
        refine a_getR (pc := 56) fg_BR_12 sx_3 rfl d_BR_readRow_56 ?_
        refine a_iload_n (pc := 59) 1 rfl rfl d_BR_readRow_59 ?_
        refine a_callV (pc := 60) (M' := m_SA_hasHole) (As := [.int r4]) (st := []) (mc' := 0) (ms' := 0) lk_BR_83 rfl sx_4 rfl (by decide) (by decide) rfl (Nat.le_of_ble_eq_true rfl) (Nat.le_refl 0) (Nat.le_refl 0) d_BR_readRow_60 h ?_
        rintro _ _ s8 ⟨r9, rfl, rfl, h⟩ -
        show Ax g m_BR_readRow 0 0 (ZI g Q) SH s8 0 0 63 [(4, .int u5), (3, .int r4), (0, .ref (gB g + 3)), (1, .ref (gB g + 1)), (2, .int x2)] [.int r9]
        refine a_if_eq (pc := 63) 76 (by decide) d_BR_readRow_63 ⟨fun c0 => ?_, fun c0 => ?_⟩
        · replace h := h.1 c0
          refine a_aload_n (pc := 76) 2 rfl rfl d_BR_readRow_76 ?_
          refine a_getR (pc := 77) fg_BR_12 sx_3 rfl d_BR_readRow_77 ?_
          refine a_iload (pc := 80) 0 rfl d_BR_readRow_80 ?_
          refine a_aload_n (pc := 82) 2 rfl rfl d_BR_readRow_82 ?_
          refine a_getR (pc := 83) fg_BR_12 sx_3 rfl d_BR_readRow_83 ?_
          refine a_getI (pc := 86) fg_BR_62 sx_4 rfl d_BR_readRow_86 ?_
          refine a_callS (pc := 89) (M' := m_SA_spotOf) (As := [.int u5, .int (fi s8 4 3)]) (st := [.ref (gB g + 4)]) (mc' := 0) (ms' := 0) lk_BR_87 rfl (by decide) (by decide) rfl (Nat.le_of_ble_eq_true rfl) (Nat.le_refl 0) (Nat.le_refl 0) d_BR_readRow_89 h ?_
          rintro _ _ s10 ⟨r11, rfl, rfl, h⟩ -
          show Ax g m_BR_readRow 0 0 (ZI g Q) SH s10 0 0 92 [(4, .int u5), (3, .int r4), (0, .ref (gB g + 3)), (1, .ref (gB g + 1)), (2, .int x2)] [.int r11, .ref (gB g + 4)]
          refine a_iload_n (pc := 92) 1 rfl rfl d_BR_readRow_92 ?_
          refine a_callV (pc := 93) (M' := m_SA_makeKind) (As := [.int r11, .int r4]) (st := []) (mc' := 0) (ms' := 0) lk_BR_91 rfl sx_4 rfl (by decide) (by decide) rfl (Nat.le_of_ble_eq_true rfl) (Nat.le_refl 0) (Nat.le_refl 0) d_BR_readRow_93 h ?_
          rintro _ _ s12 ⟨rfl, rfl, h⟩ -
          show Ax g m_BR_readRow 0 0 (ZI g Q) SH s12 0 0 96 [(4, .int u5), (3, .int r4), (0, .ref (gB g + 3)), (1, .ref (gB g + 1)), (2, .int x2)] []
          refine a_aload_n (pc := 96) 3 rfl rfl d_BR_readRow_96 ?_
          refine a_dup (pc := 97) rfl d_BR_readRow_97 ?_
          refine a_getI (pc := 98) fg_BR_41 sx_1 rfl d_BR_readRow_98 ?_
          refine a_iconst (pc := 101) (1 : Int32) (by decide) d_BR_readRow_101 ?_
          refine a_iadd (pc := 102) d_BR_readRow_102 ?_
          refine a_putI (pc := 103) fp_BR_41 sx_1 rfl d_BR_readRow_103 ?_
          refine a_nms (fun s13 hs13 => ?_)
          replace h := h s13 hs13
          refine a_goto (pc := 106) 9 (by decide) d_BR_readRow_106 ?_
          refine a_sub (pc := 9) [2, 3, 4] rfl ?_
          exact h
        · replace h := h.2 c0
          refine a_aload_n (pc := 66) 3 rfl rfl d_BR_readRow_66 ?_
          refine a_aload_n (pc := 67) 3 rfl rfl d_BR_readRow_67 ?_
          refine a_getI (pc := 68) fg_BR_41 sx_1 rfl d_BR_readRow_68 ?_
          refine a_iconst (pc := 71) (5 : Int32) (by decide) d_BR_readRow_71 ?_
          refine a_callV (pc := 72) (M' := m_TA_blame) (As := [.int (fi s8 1 2), .int (5 : Int32)]) (st := []) (mc' := 0) (ms' := 0) lk_BR_48 rfl sx_1 rfl (by decide) (by decide) rfl (Nat.le_of_ble_eq_true rfl) (Nat.le_refl 0) (Nat.le_refl 0) d_BR_readRow_72 h ?_
          rintro _ _ s14 ⟨r15, rfl, rfl, h⟩ -
          show Ax g m_BR_readRow 0 0 (ZI g Q) SH s14 0 0 75 [(4, .int u5), (3, .int r4), (0, .ref (gB g + 3)), (1, .ref (gB g + 1)), (2, .int x2)] [.int r15]
          exact b_zret (pc := 75) rfl h.1 d_BR_readRow_75 h.2
    · replace h := h.2 c0
      refine a_goto (pc := 37) 109 (by decide) d_BR_readRow_37 ?_
      refine a_sub (pc := 109) [1, 2, 3] rfl ?_
      exact h
theorem sg_BR_readRow_109 {g : Gx} {Q : Int32 → St → Prop} {σ : St} {x2 : Int32}
    (h : ∀ u1 : Int32, u1 = ((fi σ 1 2) - x2) → (¬ u1 = 0 → ((fi σ 4 3) ≤ 0 → ∀ s2 : St, s2 = sfi σ 4 2 u1 → ∀ s3 : St, s3 = sfi s2 4 3 ((fi s2 4 3) + (1 : Int32)) → Q (1 : Int32) s3) ∧ (¬ (fi σ 4 3) ≤ 0 → (u1 = (fi σ 4 2) → ∀ s4 : St, s4 = sfi σ 4 2 u1 → ∀ s5 : St, s5 = sfi s4 4 3 ((fi s4 4 3) + (1 : Int32)) → Q (1 : Int32) s5) ∧ (¬ u1 = (fi σ 4 2) → K_TA_blame g ((fi σ 1 2) - (1 : Int32)) (5 : Int32) σ (fun (r7 : Int32) (s6 : St) => (r7 = 0 ∨ r7 = 1) ∧ Q r7 s6)))) ∧ (u1 = 0 → K_TA_blame g (fi σ 1 2) (0 : Int32) σ (fun (r9 : Int32) (s8 : St) => (r9 = 0 ∨ r9 = 1) ∧ Q r9 s8))) : S_BR_readRow_109 g Q σ x2 := by
  show Ax g m_BR_readRow 0 0 (ZI g Q) SH σ 0 0 109 [(0, .ref (gB g + 3)), (1, .ref (gB g + 1)), (2, .int x2)] []
  refine a_aload_n (pc := 109) 1 rfl rfl d_BR_readRow_109 ?_
  refine a_getI (pc := 110) fg_BR_41 sx_1 rfl d_BR_readRow_110 ?_
  refine a_iload_n (pc := 113) 2 rfl rfl d_BR_readRow_113 ?_
  refine a_isub (pc := 114) d_BR_readRow_114 ?_
  refine a_nmi (pc := 115) (fun u1 hu1 => ?_)
  replace h := h u1 hu1
  refine a_istore_n (pc := 115) (lv' := [(3, .int u1), (0, .ref (gB g + 3)), (1, .ref (gB g + 1)), (2, .int x2)]) rfl (Nat.le_of_ble_eq_true rfl) rfl d_BR_readRow_115 ?_
  refine a_iload_n (pc := 116) 0 rfl rfl d_BR_readRow_116 ?_
  refine a_if_ne (pc := 117) 130 (by decide) d_BR_readRow_117 ⟨fun c0 => ?_, fun c0 => ?_⟩
  · replace h := h.1 c0
    refine a_aload_n (pc := 130) 1 rfl rfl d_BR_readRow_130 ?_
    refine a_getR (pc := 131) fg_BR_12 sx_3 rfl d_BR_readRow_131 ?_
    refine a_getI (pc := 134) fg_BR_62 sx_4 rfl d_BR_readRow_134 ?_
    refine a_if_le (pc := 137) 163 (by decide) d_BR_readRow_137 ⟨fun c0 => ?_, fun c0 => ?_⟩
    · replace h := h.1 c0
      refine a_aload_n (pc := 163) 1 rfl rfl d_BR_readRow_163 ?_
      refine a_getR (pc := 164) fg_BR_12 sx_3 rfl d_BR_readRow_164 ?_
      refine a_iload_n (pc := 167) 0 rfl rfl d_BR_readRow_167 ?_
      refine a_putI (pc := 168) fp_BR_95 sx_4 rfl d_BR_readRow_168 ?_
      refine a_nms (fun s2 hs2 => ?_)
      replace h := h s2 hs2
      refine a_aload_n (pc := 171) 1 rfl rfl d_BR_readRow_171 ?_
      refine a_getR (pc := 172) fg_BR_12 sx_3 rfl d_BR_readRow_172 ?_
      refine a_dup (pc := 175) rfl d_BR_readRow_175 ?_
      refine a_getI (pc := 176) fg_BR_62 sx_4 rfl d_BR_readRow_176 ?_
      refine a_iconst (pc := 179) (1 : Int32) (by decide) d_BR_readRow_179 ?_
      refine a_iadd (pc := 180) d_BR_readRow_180 ?_
      refine a_putI (pc := 181) fp_BR_62 sx_4 rfl d_BR_readRow_181 ?_
      refine a_nms (fun s3 hs3 => ?_)
      replace h := h s3 hs3
      refine a_iconst (pc := 184) (1 : Int32) (by decide) d_BR_readRow_184 ?_
      exact b_zret (pc := 185) rfl (Or.inr rfl) d_BR_readRow_185 h
    · replace h := h.2 c0
      refine a_iload_n (pc := 140) 0 rfl rfl d_BR_readRow_140 ?_
      refine a_aload_n (pc := 141) 1 rfl rfl d_BR_readRow_141 ?_
      refine a_getR (pc := 142) fg_BR_12 sx_3 rfl d_BR_readRow_142 ?_
      refine a_getI (pc := 145) fg_BR_95 sx_4 rfl d_BR_readRow_145 ?_
      refine a_icmp_eq (pc := 148) 163 (by decide) d_BR_readRow_148 ⟨fun c0 => ?_, fun c0 => ?_⟩
      · replace h := h.1 c0
        refine a_aload_n (pc := 163) 1 rfl rfl d_BR_readRow_163 ?_
        refine a_getR (pc := 164) fg_BR_12 sx_3 rfl d_BR_readRow_164 ?_
        refine a_iload_n (pc := 167) 0 rfl rfl d_BR_readRow_167 ?_
        refine a_putI (pc := 168) fp_BR_95 sx_4 rfl d_BR_readRow_168 ?_
        refine a_nms (fun s4 hs4 => ?_)
        replace h := h s4 hs4
        refine a_aload_n (pc := 171) 1 rfl rfl d_BR_readRow_171 ?_
        refine a_getR (pc := 172) fg_BR_12 sx_3 rfl d_BR_readRow_172 ?_
        refine a_dup (pc := 175) rfl d_BR_readRow_175 ?_
        refine a_getI (pc := 176) fg_BR_62 sx_4 rfl d_BR_readRow_176 ?_
        refine a_iconst (pc := 179) (1 : Int32) (by decide) d_BR_readRow_179 ?_
        refine a_iadd (pc := 180) d_BR_readRow_180 ?_
        refine a_putI (pc := 181) fp_BR_62 sx_4 rfl d_BR_readRow_181 ?_
        refine a_nms (fun s5 hs5 => ?_)
        replace h := h s5 hs5
        refine a_iconst (pc := 184) (1 : Int32) (by decide) d_BR_readRow_184 ?_
        exact b_zret (pc := 185) rfl (Or.inr rfl) d_BR_readRow_185 h
      · replace h := h.2 c0
        refine a_aload_n (pc := 151) 2 rfl rfl d_BR_readRow_151 ?_
        refine a_aload_n (pc := 152) 2 rfl rfl d_BR_readRow_152 ?_
        refine a_getI (pc := 153) fg_BR_41 sx_1 rfl d_BR_readRow_153 ?_
        refine a_iconst (pc := 156) (1 : Int32) (by decide) d_BR_readRow_156 ?_
        refine a_isub (pc := 157) d_BR_readRow_157 ?_
        refine a_iconst (pc := 158) (5 : Int32) (by decide) d_BR_readRow_158 ?_
        refine a_callV (pc := 159) (M' := m_TA_blame) (As := [.int ((fi σ 1 2) - (1 : Int32)), .int (5 : Int32)]) (st := []) (mc' := 0) (ms' := 0) lk_BR_48 rfl sx_1 rfl (by decide) (by decide) rfl (Nat.le_of_ble_eq_true rfl) (Nat.le_refl 0) (Nat.le_refl 0) d_BR_readRow_159 h ?_
        rintro _ _ s6 ⟨r7, rfl, rfl, h⟩ -
        show Ax g m_BR_readRow 0 0 (ZI g Q) SH s6 0 0 162 [(3, .int u1), (0, .ref (gB g + 3)), (1, .ref (gB g + 1)), (2, .int x2)] [.int r7]
        exact b_zret (pc := 162) rfl h.1 d_BR_readRow_162 h.2
  · replace h := h.2 c0
    refine a_aload_n (pc := 120) 2 rfl rfl d_BR_readRow_120 ?_
    refine a_aload_n (pc := 121) 2 rfl rfl d_BR_readRow_121 ?_
    refine a_getI (pc := 122) fg_BR_41 sx_1 rfl d_BR_readRow_122 ?_
    refine a_iconst (pc := 125) (0 : Int32) (by decide) d_BR_readRow_125 ?_
    refine a_callV (pc := 126) (M' := m_TA_blame) (As := [.int (fi σ 1 2), .int (0 : Int32)]) (st := []) (mc' := 0) (ms' := 0) lk_BR_48 rfl sx_1 rfl (by decide) (by decide) rfl (Nat.le_of_ble_eq_true rfl) (Nat.le_refl 0) (Nat.le_refl 0) d_BR_readRow_126 h ?_
    rintro _ _ s8 ⟨r9, rfl, rfl, h⟩ -
    show Ax g m_BR_readRow 0 0 (ZI g Q) SH s8 0 0 129 [(3, .int u1), (0, .ref (gB g + 3)), (1, .ref (gB g + 1)), (2, .int x2)] [.int r9]
    exact b_zret (pc := 129) rfl h.1 d_BR_readRow_129 h.2
theorem ko_BR_readRow {g : Gx}  {σ : St} {Q : Int32 → St → Prop} (h : S_BR_readRow_0 g Q σ) : K_BR_readRow g  σ Q := KI.of (show plainName "BallBox$BoxReader" = true by decide) (Nat.le_of_ble_eq_true rfl) h
theorem d_BR_kindOf_0 : decode c_BR_kindOf 0 = .ok (.iload_n 0, 1) := by decide +kernel
theorem d_BR_kindOf_1 : decode c_BR_kindOf 1 = .ok (.bipush 46, 2) := by decide +kernel
theorem d_BR_kindOf_3 : decode c_BR_kindOf 3 = .ok (.if_icmp .ne 5, 3) := by decide +kernel
theorem d_BR_kindOf_6 : decode c_BR_kindOf 6 = .ok (.iconst 0, 1) := by decide +kernel
theorem d_BR_kindOf_7 : decode c_BR_kindOf 7 = .ok (.ireturn, 1) := by decide +kernel
theorem d_BR_kindOf_8 : decode c_BR_kindOf 8 = .ok (.iload_n 0, 1) := by decide +kernel
theorem d_BR_kindOf_9 : decode c_BR_kindOf 9 = .ok (.bipush 35, 2) := by decide +kernel
theorem d_BR_kindOf_11 : decode c_BR_kindOf 11 = .ok (.if_icmp .ne 5, 3) := by decide +kernel
theorem d_BR_kindOf_14 : decode c_BR_kindOf 14 = .ok (.iconst 1, 1) := by decide +kernel
theorem d_BR_kindOf_15 : decode c_BR_kindOf 15 = .ok (.ireturn, 1) := by decide +kernel
theorem d_BR_kindOf_16 : decode c_BR_kindOf 16 = .ok (.iload_n 0, 1) := by decide +kernel
theorem d_BR_kindOf_17 : decode c_BR_kindOf 17 = .ok (.bipush 49, 2) := by decide +kernel
theorem d_BR_kindOf_19 : decode c_BR_kindOf 19 = .ok (.if_icmp .lt 18, 3) := by decide +kernel
theorem d_BR_kindOf_22 : decode c_BR_kindOf 22 = .ok (.iload_n 0, 1) := by decide +kernel
theorem d_BR_kindOf_23 : decode c_BR_kindOf 23 = .ok (.bipush 51, 2) := by decide +kernel
theorem d_BR_kindOf_25 : decode c_BR_kindOf 25 = .ok (.if_icmp .gt 12, 3) := by decide +kernel
theorem d_BR_kindOf_28 : decode c_BR_kindOf 28 = .ok (.iconst 2, 1) := by decide +kernel
theorem d_BR_kindOf_29 : decode c_BR_kindOf 29 = .ok (.iload_n 0, 1) := by decide +kernel
theorem d_BR_kindOf_30 : decode c_BR_kindOf 30 = .ok (.iadd, 1) := by decide +kernel
theorem d_BR_kindOf_31 : decode c_BR_kindOf 31 = .ok (.bipush 49, 2) := by decide +kernel
theorem d_BR_kindOf_33 : decode c_BR_kindOf 33 = .ok (.isub, 1) := by decide +kernel
theorem d_BR_kindOf_34 : decode c_BR_kindOf 34 = .ok (.goto 4, 3) := by decide +kernel
theorem d_BR_kindOf_37 : decode c_BR_kindOf 37 = .ok (.iconst (-1), 1) := by decide +kernel
theorem d_BR_kindOf_38 : decode c_BR_kindOf 38 = .ok (.ireturn, 1) := by decide +kernel
def S_BR_kindOf_0 (g : Gx) (Q : Int32 → St → Prop) (σ : St) (x0 : Int32) : Prop := Ax g m_BR_kindOf 0 0 (ZI g Q) SH σ 0 0 0 [(0, .int x0)] []
theorem sg_BR_kindOf_0 {g : Gx} {Q : Int32 → St → Prop} {σ : St} {x0 : Int32}
    (h : (¬ x0 = (46 : Int32) → (¬ x0 = (35 : Int32) → (x0 < (49 : Int32) → Q (-1 : Int32) σ) ∧ (¬ x0 < (49 : Int32) → ((51 : Int32) < x0 → Q (-1 : Int32) σ) ∧ (¬ (51 : Int32) < x0 → Q (((2 : Int32) + x0) - (49 : Int32)) σ))) ∧ (x0 = (35 : Int32) → Q (1 : Int32) σ)) ∧ (x0 = (46 : Int32) → Q (0 : Int32) σ)) : S_BR_kindOf_0 g Q σ x0 := by
  show Ax g m_BR_kindOf 0 0 (ZI g Q) SH σ 0 0 0 [(0, .int x0)] []
  refine a_iload_n (pc := 0) 0 rfl rfl d_BR_kindOf_0 ?_
  refine a_bipush (pc := 1) (46 : Int32) (by decide) d_BR_kindOf_1 ?_
  refine a_icmp_ne (pc := 3) 8 (by decide) d_BR_kindOf_3 ⟨fun c0 => ?_, fun c0 => ?_⟩
  · replace h := h.1 c0
    refine a_iload_n (pc := 8) 0 rfl rfl d_BR_kindOf_8 ?_
    refine a_bipush (pc := 9) (35 : Int32) (by decide) d_BR_kindOf_9 ?_
    refine a_icmp_ne (pc := 11) 16 (by decide) d_BR_kindOf_11 ⟨fun c0 => ?_, fun c0 => ?_⟩
    · replace h := h.1 c0
      refine a_iload_n (pc := 16) 0 rfl rfl d_BR_kindOf_16 ?_
      refine a_bipush (pc := 17) (49 : Int32) (by decide) d_BR_kindOf_17 ?_
      refine a_icmp_lt (pc := 19) 37 (by decide) d_BR_kindOf_19 ⟨fun c0 => ?_, fun c0 => ?_⟩
      · replace h := h.1 c0
        refine a_iconst (pc := 37) (-1 : Int32) (by decide) d_BR_kindOf_37 ?_
        exact b_iret (pc := 38) rfl d_BR_kindOf_38 h
      · replace h := h.2 c0
        refine a_iload_n (pc := 22) 0 rfl rfl d_BR_kindOf_22 ?_
        refine a_bipush (pc := 23) (51 : Int32) (by decide) d_BR_kindOf_23 ?_
        refine a_icmp_gt (pc := 25) 37 (by decide) d_BR_kindOf_25 ⟨fun c0 => ?_, fun c0 => ?_⟩
        · replace h := h.1 c0
          refine a_iconst (pc := 37) (-1 : Int32) (by decide) d_BR_kindOf_37 ?_
          exact b_iret (pc := 38) rfl d_BR_kindOf_38 h
        · replace h := h.2 c0
          refine a_iconst (pc := 28) (2 : Int32) (by decide) d_BR_kindOf_28 ?_
          refine a_iload_n (pc := 29) 0 rfl rfl d_BR_kindOf_29 ?_
          refine a_iadd (pc := 30) d_BR_kindOf_30 ?_
          refine a_bipush (pc := 31) (49 : Int32) (by decide) d_BR_kindOf_31 ?_
          refine a_isub (pc := 33) d_BR_kindOf_33 ?_
          refine a_goto (pc := 34) 38 (by decide) d_BR_kindOf_34 ?_
          exact b_iret (pc := 38) rfl d_BR_kindOf_38 h
    · replace h := h.2 c0
      refine a_iconst (pc := 14) (1 : Int32) (by decide) d_BR_kindOf_14 ?_
      exact b_iret (pc := 15) rfl d_BR_kindOf_15 h
  · replace h := h.2 c0
    refine a_iconst (pc := 6) (0 : Int32) (by decide) d_BR_kindOf_6 ?_
    exact b_iret (pc := 7) rfl d_BR_kindOf_7 h
theorem ko_BR_kindOf {g : Gx}  {x0 : Int32} {σ : St} {Q : Int32 → St → Prop} (h : S_BR_kindOf_0 g Q σ x0) : K_BR_kindOf g x0 σ Q := KI.of (show plainName "BallBox$BoxReader" = true by decide) (Nat.le_of_ble_eq_true rfl) h
theorem d_BR_readBall_0 : decode c_BR_readBall 0 = .ok (.aload_n 1, 1) := by decide +kernel
theorem d_BR_readBall_1 : decode c_BR_readBall 1 = .ok (.invokevirtual 34, 3) := by decide +kernel
theorem d_BR_readBall_4 : decode c_BR_readBall 4 = .ok (.aload_n 1, 1) := by decide +kernel
theorem d_BR_readBall_5 : decode c_BR_readBall 5 = .ok (.getfield 41, 3) := by decide +kernel
theorem d_BR_readBall_8 : decode c_BR_readBall 8 = .ok (.istore_n 2, 1) := by decide +kernel
theorem d_BR_readBall_9 : decode c_BR_readBall 9 = .ok (.aload_n 1, 1) := by decide +kernel
theorem d_BR_readBall_10 : decode c_BR_readBall 10 = .ok (.invokestatic 98, 3) := by decide +kernel
theorem d_BR_readBall_13 : decode c_BR_readBall 13 = .ok (.istore_n 3, 1) := by decide +kernel
theorem d_BR_readBall_14 : decode c_BR_readBall 14 = .ok (.iload_n 3, 1) := by decide +kernel
theorem d_BR_readBall_15 : decode c_BR_readBall 15 = .ok (.ifCond .ge 5, 3) := by decide +kernel
theorem d_BR_readBall_18 : decode c_BR_readBall 18 = .ok (.iconst 0, 1) := by decide +kernel
theorem d_BR_readBall_19 : decode c_BR_readBall 19 = .ok (.ireturn, 1) := by decide +kernel
theorem d_BR_readBall_20 : decode c_BR_readBall 20 = .ok (.aload_n 1, 1) := by decide +kernel
theorem d_BR_readBall_21 : decode c_BR_readBall 21 = .ok (.invokevirtual 34, 3) := by decide +kernel
theorem d_BR_readBall_24 : decode c_BR_readBall 24 = .ok (.aload_n 1, 1) := by decide +kernel
theorem d_BR_readBall_25 : decode c_BR_readBall 25 = .ok (.invokestatic 98, 3) := by decide +kernel
theorem d_BR_readBall_28 : decode c_BR_readBall 28 = .ok (.istore 4, 2) := by decide +kernel
theorem d_BR_readBall_30 : decode c_BR_readBall 30 = .ok (.iload 4, 2) := by decide +kernel
theorem d_BR_readBall_32 : decode c_BR_readBall 32 = .ok (.ifCond .ge 5, 3) := by decide +kernel
theorem d_BR_readBall_35 : decode c_BR_readBall 35 = .ok (.iconst 0, 1) := by decide +kernel
theorem d_BR_readBall_36 : decode c_BR_readBall 36 = .ok (.ireturn, 1) := by decide +kernel
theorem d_BR_readBall_37 : decode c_BR_readBall 37 = .ok (.iload_n 3, 1) := by decide +kernel
theorem d_BR_readBall_38 : decode c_BR_readBall 38 = .ok (.iload 4, 2) := by decide +kernel
theorem d_BR_readBall_40 : decode c_BR_readBall 40 = .ok (.invokestatic 87, 3) := by decide +kernel
theorem d_BR_readBall_43 : decode c_BR_readBall 43 = .ok (.istore 5, 2) := by decide +kernel
theorem d_BR_readBall_45 : decode c_BR_readBall 45 = .ok (.aload_n 0, 1) := by decide +kernel
theorem d_BR_readBall_46 : decode c_BR_readBall 46 = .ok (.getfield 12, 3) := by decide +kernel
theorem d_BR_readBall_49 : decode c_BR_readBall 49 = .ok (.iload 5, 2) := by decide +kernel
theorem d_BR_readBall_51 : decode c_BR_readBall 51 = .ok (.invokevirtual 102, 3) := by decide +kernel
theorem d_BR_readBall_54 : decode c_BR_readBall 54 = .ok (.ifCond .ne 10, 3) := by decide +kernel
theorem d_BR_readBall_57 : decode c_BR_readBall 57 = .ok (.aload_n 1, 1) := by decide +kernel
theorem d_BR_readBall_58 : decode c_BR_readBall 58 = .ok (.iload_n 2, 1) := by decide +kernel
theorem d_BR_readBall_59 : decode c_BR_readBall 59 = .ok (.iconst 5, 1) := by decide +kernel
theorem d_BR_readBall_60 : decode c_BR_readBall 60 = .ok (.invokevirtual 48, 3) := by decide +kernel
theorem d_BR_readBall_63 : decode c_BR_readBall 63 = .ok (.ireturn, 1) := by decide +kernel
theorem d_BR_readBall_64 : decode c_BR_readBall 64 = .ok (.aload_n 0, 1) := by decide +kernel
theorem d_BR_readBall_65 : decode c_BR_readBall 65 = .ok (.getfield 12, 3) := by decide +kernel
theorem d_BR_readBall_68 : decode c_BR_readBall 68 = .ok (.aload_n 0, 1) := by decide +kernel
theorem d_BR_readBall_69 : decode c_BR_readBall 69 = .ok (.getfield 12, 3) := by decide +kernel
theorem d_BR_readBall_72 : decode c_BR_readBall 72 = .ok (.getfield 105, 3) := by decide +kernel
theorem d_BR_readBall_75 : decode c_BR_readBall 75 = .ok (.aload_n 0, 1) := by decide +kernel
theorem d_BR_readBall_76 : decode c_BR_readBall 76 = .ok (.getfield 12, 3) := by decide +kernel
theorem d_BR_readBall_79 : decode c_BR_readBall 79 = .ok (.getfield 65, 3) := by decide +kernel
theorem d_BR_readBall_82 : decode c_BR_readBall 82 = .ok (.iload 5, 2) := by decide +kernel
theorem d_BR_readBall_84 : decode c_BR_readBall 84 = .ok (.invokestatic 108, 3) := by decide +kernel
theorem d_BR_readBall_87 : decode c_BR_readBall 87 = .ok (.putfield 105, 3) := by decide +kernel
theorem d_BR_readBall_90 : decode c_BR_readBall 90 = .ok (.aload_n 0, 1) := by decide +kernel
theorem d_BR_readBall_91 : decode c_BR_readBall 91 = .ok (.getfield 12, 3) := by decide +kernel
theorem d_BR_readBall_94 : decode c_BR_readBall 94 = .ok (.dup, 1) := by decide +kernel
theorem d_BR_readBall_95 : decode c_BR_readBall 95 = .ok (.getfield 65, 3) := by decide +kernel
theorem d_BR_readBall_98 : decode c_BR_readBall 98 = .ok (.iconst 1, 1) := by decide +kernel
theorem d_BR_readBall_99 : decode c_BR_readBall 99 = .ok (.iadd, 1) := by decide +kernel
theorem d_BR_readBall_100 : decode c_BR_readBall 100 = .ok (.putfield 65, 3) := by decide +kernel
theorem d_BR_readBall_103 : decode c_BR_readBall 103 = .ok (.iconst 1, 1) := by decide +kernel
theorem d_BR_readBall_104 : decode c_BR_readBall 104 = .ok (.ireturn, 1) := by decide +kernel
def S_BR_readBall_0 (g : Gx) (Q : Int32 → St → Prop) (σ : St) : Prop := Ax g m_BR_readBall 0 0 (ZI g Q) SH σ 0 0 0 [(0, .ref (gB g + 3)), (1, .ref (gB g + 1))] []
theorem sg_BR_readBall_0 {g : Gx} {Q : Int32 → St → Prop} {σ : St}
    (h : K_TA_skipBlanks g σ (fun s1 : St => ∀ u2 : Int32, u2 = (fi s1 1 2) → K_BR_readCoordinate g s1 (fun (r4 : Int32) (s3 : St) => (0 ≤ r4 → K_TA_skipBlanks g s3 (fun s5 : St => K_BR_readCoordinate g s5 (fun (r7 : Int32) (s6 : St) => (0 ≤ r7 → K_SA_spotOf g r4 r7 s6 (fun (r9 : Int32) (s8 : St) => K_SA_isBare g 4 r9 s8 (fun (r11 : Int32) (s10 : St) => (¬ r11 = 0 → K_SA_laid g (fi s10 4 5) (fi s10 4 4) r9 s10 (fun (r13 : Int32) (s12 : St) => ∀ s14 : St, s14 = sfi s12 4 5 r13 → ∀ s15 : St, s15 = sfi s14 4 4 ((fi s14 4 4) + (1 : Int32)) → Q (1 : Int32) s15)) ∧ (r11 = 0 → K_TA_blame g u2 (5 : Int32) s10 (fun (r17 : Int32) (s16 : St) => (r17 = 0 ∨ r17 = 1) ∧ Q r17 s16))))) ∧ (¬ 0 ≤ r7 → Q (0 : Int32) s6)))) ∧ (¬ 0 ≤ r4 → Q (0 : Int32) s3)))) : S_BR_readBall_0 g Q σ := by
  show Ax g m_BR_readBall 0 0 (ZI g Q) SH σ 0 0 0 [(0, .ref (gB g + 3)), (1, .ref (gB g + 1))] []
  refine a_aload_n (pc := 0) 1 rfl rfl d_BR_readBall_0 ?_
  refine a_callV (pc := 1) (M' := m_TA_skipBlanks) (As := []) (st := []) (mc' := 0) (ms' := 0) lk_BR_34 rfl sx_1 rfl (by decide) (by decide) rfl (Nat.le_of_ble_eq_true rfl) (Nat.le_refl 0) (Nat.le_refl 0) d_BR_readBall_1 h ?_
  rintro _ _ s1 ⟨rfl, rfl, h⟩ -
  show Ax g m_BR_readBall 0 0 (ZI g Q) SH s1 0 0 4 [(0, .ref (gB g + 3)), (1, .ref (gB g + 1))] []
  refine a_aload_n (pc := 4) 1 rfl rfl d_BR_readBall_4 ?_
  refine a_getI (pc := 5) fg_BR_41 sx_1 rfl d_BR_readBall_5 ?_
  refine a_nmi (pc := 8) (fun u2 hu2 => ?_)
  replace h := h u2 hu2
  refine a_istore_n (pc := 8) (lv' := [(2, .int u2), (0, .ref (gB g + 3)), (1, .ref (gB g + 1))]) rfl (Nat.le_of_ble_eq_true rfl) rfl d_BR_readBall_8 ?_
  refine a_aload_n (pc := 9) 2 rfl rfl d_BR_readBall_9 ?_
  refine a_callS (pc := 10) (M' := m_BR_readCoordinate) (As := [.ref (gB g + 1)]) (st := []) (mc' := 0) (ms' := 0) lk_BR_98 rfl (by decide) (by decide) rfl (Nat.le_of_ble_eq_true rfl) (Nat.le_refl 0) (Nat.le_refl 0) d_BR_readBall_10 h ?_
  rintro _ _ s3 ⟨r4, rfl, rfl, h⟩ -
  show Ax g m_BR_readBall 0 0 (ZI g Q) SH s3 0 0 13 [(2, .int u2), (0, .ref (gB g + 3)), (1, .ref (gB g + 1))] [.int r4]
  refine a_istore_n (pc := 13) (lv' := [(3, .int r4), (2, .int u2), (0, .ref (gB g + 3)), (1, .ref (gB g + 1))]) rfl (Nat.le_of_ble_eq_true rfl) rfl d_BR_readBall_13 ?_
  refine a_iload_n (pc := 14) 0 rfl rfl d_BR_readBall_14 ?_
  refine a_if_ge (pc := 15) 20 (by decide) d_BR_readBall_15 ⟨fun c0 => ?_, fun c0 => ?_⟩
  · replace h := h.1 c0
    refine a_aload_n (pc := 20) 3 rfl rfl d_BR_readBall_20 ?_
    refine a_callV (pc := 21) (M' := m_TA_skipBlanks) (As := []) (st := []) (mc' := 0) (ms' := 0) lk_BR_34 rfl sx_1 rfl (by decide) (by decide) rfl (Nat.le_of_ble_eq_true rfl) (Nat.le_refl 0) (Nat.le_refl 0) d_BR_readBall_21 h ?_
    rintro _ _ s5 ⟨rfl, rfl, h⟩ -
    show Ax g m_BR_readBall 0 0 (ZI g Q) SH s5 0 0 24 [(3, .int r4), (2, .int u2), (0, .ref (gB g + 3)), (1, .ref (gB g + 1))] []
    refine a_aload_n (pc := 24) 3 rfl rfl d_BR_readBall_24 ?_
    refine a_callS (pc := 25) (M' := m_BR_readCoordinate) (As := [.ref (gB g + 1)]) (st := []) (mc' := 0) (ms' := 0) lk_BR_98 rfl (by decide) (by decide) rfl (Nat.le_of_ble_eq_true rfl) (Nat.le_refl 0) (Nat.le_refl 0) d_BR_readBall_25 h ?_
    rintro _ _ s6 ⟨r7, rfl, rfl, h⟩ -
    show Ax g m_BR_readBall 0 0 (ZI g Q) SH s6 0 0 28 [(3, .int r4), (2, .int u2), (0, .ref (gB g + 3)), (1, .ref (gB g + 1))] [.int r7]
    refine a_istore (pc := 28) (lv' := [(4, .int r7), (3, .int r4), (2, .int u2), (0, .ref (gB g + 3)), (1, .ref (gB g + 1))]) (Nat.le_of_ble_eq_true rfl) rfl d_BR_readBall_28 ?_
    refine a_iload (pc := 30) 0 rfl d_BR_readBall_30 ?_
    refine a_if_ge (pc := 32) 37 (by decide) d_BR_readBall_32 ⟨fun c0 => ?_, fun c0 => ?_⟩
    · replace h := h.1 c0
      refine a_iload_n (pc := 37) 1 rfl rfl d_BR_readBall_37 ?_
      refine a_iload (pc := 38) 0 rfl d_BR_readBall_38 ?_
      refine a_callS (pc := 40) (M' := m_SA_spotOf) (As := [.int r4, .int r7]) (st := []) (mc' := 0) (ms' := 0) lk_BR_87 rfl (by decide) (by decide) rfl (Nat.le_of_ble_eq_true rfl) (Nat.le_refl 0) (Nat.le_refl 0) d_BR_readBall_40 h ?_
      rintro _ _ s8 ⟨r9, rfl, rfl, h⟩ -
      show Ax g m_BR_readBall 0 0 (ZI g Q) SH s8 0 0 43 [(4, .int r7), (3, .int r4), (2, .int u2), (0, .ref (gB g + 3)), (1, .ref (gB g + 1))] [.int r9]
      refine a_istore (pc := 43) (lv' := [(5, .int r9), (4, .int r7), (3, .int r4), (2, .int u2), (0, .ref (gB g + 3)), (1, .ref (gB g + 1))]) (Nat.le_of_ble_eq_true rfl) rfl d_BR_readBall_43 ?_
      refine a_aload_n (pc := 45) 4 rfl rfl d_BR_readBall_45 ?_
      refine a_getR (pc := 46) fg_BR_12 sx_3 rfl d_BR_readBall_46 ?_
      refine a_iload (pc := 49) 0 rfl d_BR_readBall_49 ?_
      refine a_callV (pc := 51) (M' := m_SA_isBare) (As := [.int r9]) (st := []) (mc' := 0) (ms' := 0) lk_BR_102 rfl sx_4 rfl (by decide) (by decide) rfl (Nat.le_of_ble_eq_true rfl) (Nat.le_refl 0) (Nat.le_refl 0) d_BR_readBall_51 h ?_
      rintro _ _ s10 ⟨r11, rfl, rfl, h⟩ -
      show Ax g m_BR_readBall 0 0 (ZI g Q) SH s10 0 0 54 [(5, .int r9), (4, .int r7), (3, .int r4), (2, .int u2), (0, .ref (gB g + 3)), (1, .ref (gB g + 1))] [.int r11]
      refine a_if_ne (pc := 54) 64 (by decide) d_BR_readBall_54 ⟨fun c0 => ?_, fun c0 => ?_⟩
      · replace h := h.1 c0
        refine a_aload_n (pc := 64) 4 rfl rfl d_BR_readBall_64 ?_
        refine a_getR (pc := 65) fg_BR_12 sx_3 rfl d_BR_readBall_65 ?_
        refine a_aload_n (pc := 68) 4 rfl rfl d_BR_readBall_68 ?_
        refine a_getR (pc := 69) fg_BR_12 sx_3 rfl d_BR_readBall_69 ?_
        refine a_getI (pc := 72) fg_BR_105 sx_4 rfl d_BR_readBall_72 ?_
        refine a_aload_n (pc := 75) 4 rfl rfl d_BR_readBall_75 ?_
        refine a_getR (pc := 76) fg_BR_12 sx_3 rfl d_BR_readBall_76 ?_
        refine a_getI (pc := 79) fg_BR_65 sx_4 rfl d_BR_readBall_79 ?_
        refine a_iload (pc := 82) 0 rfl d_BR_readBall_82 ?_
        refine a_callS (pc := 84) (M' := m_SA_laid) (As := [.int (fi s10 4 5), .int (fi s10 4 4), .int r9]) (st := [.ref (gB g + 4)]) (mc' := 0) (ms' := 0) lk_BR_108 rfl (by decide) (by decide) rfl (Nat.le_of_ble_eq_true rfl) (Nat.le_refl 0) (Nat.le_refl 0) d_BR_readBall_84 h ?_
        rintro _ _ s12 ⟨r13, rfl, rfl, h⟩ -
        show Ax g m_BR_readBall 0 0 (ZI g Q) SH s12 0 0 87 [(5, .int r9), (4, .int r7), (3, .int r4), (2, .int u2), (0, .ref (gB g + 3)), (1, .ref (gB g + 1))] [.int r13, .ref (gB g + 4)]
        refine a_putI (pc := 87) fp_BR_105 sx_4 rfl d_BR_readBall_87 ?_
        refine a_nms (fun s14 hs14 => ?_)
        replace h := h s14 hs14
        refine a_aload_n (pc := 90) 4 rfl rfl d_BR_readBall_90 ?_
        refine a_getR (pc := 91) fg_BR_12 sx_3 rfl d_BR_readBall_91 ?_
        refine a_dup (pc := 94) rfl d_BR_readBall_94 ?_
        refine a_getI (pc := 95) fg_BR_65 sx_4 rfl d_BR_readBall_95 ?_
        refine a_iconst (pc := 98) (1 : Int32) (by decide) d_BR_readBall_98 ?_
        refine a_iadd (pc := 99) d_BR_readBall_99 ?_
        refine a_putI (pc := 100) fp_BR_65 sx_4 rfl d_BR_readBall_100 ?_
        refine a_nms (fun s15 hs15 => ?_)
        replace h := h s15 hs15
        refine a_iconst (pc := 103) (1 : Int32) (by decide) d_BR_readBall_103 ?_
        exact b_zret (pc := 104) rfl (Or.inr rfl) d_BR_readBall_104 h
      · replace h := h.2 c0
        refine a_aload_n (pc := 57) 5 rfl rfl d_BR_readBall_57 ?_
        refine a_iload_n (pc := 58) 3 rfl rfl d_BR_readBall_58 ?_
        refine a_iconst (pc := 59) (5 : Int32) (by decide) d_BR_readBall_59 ?_
        refine a_callV (pc := 60) (M' := m_TA_blame) (As := [.int u2, .int (5 : Int32)]) (st := []) (mc' := 0) (ms' := 0) lk_BR_48 rfl sx_1 rfl (by decide) (by decide) rfl (Nat.le_of_ble_eq_true rfl) (Nat.le_refl 0) (Nat.le_refl 0) d_BR_readBall_60 h ?_
        rintro _ _ s16 ⟨r17, rfl, rfl, h⟩ -
        show Ax g m_BR_readBall 0 0 (ZI g Q) SH s16 0 0 63 [(5, .int r9), (4, .int r7), (3, .int r4), (2, .int u2), (0, .ref (gB g + 3)), (1, .ref (gB g + 1))] [.int r17]
        exact b_zret (pc := 63) rfl h.1 d_BR_readBall_63 h.2
    · replace h := h.2 c0
      refine a_iconst (pc := 35) (0 : Int32) (by decide) d_BR_readBall_35 ?_
      exact b_zret (pc := 36) rfl (Or.inl rfl) d_BR_readBall_36 h
  · replace h := h.2 c0
    refine a_iconst (pc := 18) (0 : Int32) (by decide) d_BR_readBall_18 ?_
    exact b_zret (pc := 19) rfl (Or.inl rfl) d_BR_readBall_19 h
theorem ko_BR_readBall {g : Gx}  {σ : St} {Q : Int32 → St → Prop} (h : S_BR_readBall_0 g Q σ) : K_BR_readBall g  σ Q := KI.of (show plainName "BallBox$BoxReader" = true by decide) (Nat.le_of_ble_eq_true rfl) h
theorem d_BR_readCoordinate_0 : decode c_BR_readCoordinate 0 = .ok (.aload_n 0, 1) := by decide +kernel
theorem d_BR_readCoordinate_1 : decode c_BR_readCoordinate 1 = .ok (.getfield 41, 3) := by decide +kernel
theorem d_BR_readCoordinate_4 : decode c_BR_readCoordinate 4 = .ok (.istore_n 1, 1) := by decide +kernel
theorem d_BR_readCoordinate_5 : decode c_BR_readCoordinate 5 = .ok (.aload_n 0, 1) := by decide +kernel
theorem d_BR_readCoordinate_6 : decode c_BR_readCoordinate 6 = .ok (.invokevirtual 112, 3) := by decide +kernel
theorem d_BR_readCoordinate_9 : decode c_BR_readCoordinate 9 = .ok (.istore_n 2, 1) := by decide +kernel
theorem d_BR_readCoordinate_10 : decode c_BR_readCoordinate 10 = .ok (.iload_n 2, 1) := by decide +kernel
theorem d_BR_readCoordinate_11 : decode c_BR_readCoordinate 11 = .ok (.iconst 5, 1) := by decide +kernel
theorem d_BR_readCoordinate_12 : decode c_BR_readCoordinate 12 = .ok (.if_icmp .le 12, 3) := by decide +kernel
theorem d_BR_readCoordinate_15 : decode c_BR_readCoordinate 15 = .ok (.aload_n 0, 1) := by decide +kernel
theorem d_BR_readCoordinate_16 : decode c_BR_readCoordinate 16 = .ok (.iload_n 1, 1) := by decide +kernel
theorem d_BR_readCoordinate_17 : decode c_BR_readCoordinate 17 = .ok (.iconst 1, 1) := by decide +kernel
theorem d_BR_readCoordinate_18 : decode c_BR_readCoordinate 18 = .ok (.invokevirtual 48, 3) := by decide +kernel
theorem d_BR_readCoordinate_21 : decode c_BR_readCoordinate 21 = .ok (.pop, 1) := by decide +kernel
theorem d_BR_readCoordinate_22 : decode c_BR_readCoordinate 22 = .ok (.iconst (-1), 1) := by decide +kernel
theorem d_BR_readCoordinate_23 : decode c_BR_readCoordinate 23 = .ok (.ireturn, 1) := by decide +kernel
theorem d_BR_readCoordinate_24 : decode c_BR_readCoordinate 24 = .ok (.iload_n 2, 1) := by decide +kernel
theorem d_BR_readCoordinate_25 : decode c_BR_readCoordinate 25 = .ok (.ireturn, 1) := by decide +kernel
def S_BR_readCoordinate_0 (g : Gx) (Q : Int32 → St → Prop) (σ : St) : Prop := Ax g m_BR_readCoordinate 0 0 (ZI g Q) SH σ 0 0 0 [(0, .ref (gB g + 1))] []
theorem sg_BR_readCoordinate_0 {g : Gx} {Q : Int32 → St → Prop} {σ : St}
    (h : ∀ u1 : Int32, u1 = (fi σ 1 2) → K_TA_readNumber g σ (fun (r3 : Int32) (s2 : St) => (r3 ≤ (5 : Int32) → Q r3 s2) ∧ (¬ r3 ≤ (5 : Int32) → K_TA_blame g u1 (1 : Int32) s2 (fun (r5 : Int32) (s4 : St) => Q (-1 : Int32) s4)))) : S_BR_readCoordinate_0 g Q σ := by
  show Ax g m_BR_readCoordinate 0 0 (ZI g Q) SH σ 0 0 0 [(0, .ref (gB g + 1))] []
  refine a_aload_n (pc := 0) 0 rfl rfl d_BR_readCoordinate_0 ?_
  refine a_getI (pc := 1) fg_BR_41 sx_1 rfl d_BR_readCoordinate_1 ?_
  refine a_nmi (pc := 4) (fun u1 hu1 => ?_)
  replace h := h u1 hu1
  refine a_istore_n (pc := 4) (lv' := [(1, .int u1), (0, .ref (gB g + 1))]) rfl (Nat.le_of_ble_eq_true rfl) rfl d_BR_readCoordinate_4 ?_
  refine a_aload_n (pc := 5) 1 rfl rfl d_BR_readCoordinate_5 ?_
  refine a_callV (pc := 6) (M' := m_TA_readNumber) (As := []) (st := []) (mc' := 0) (ms' := 0) lk_BR_112 rfl sx_1 rfl (by decide) (by decide) rfl (Nat.le_of_ble_eq_true rfl) (Nat.le_refl 0) (Nat.le_refl 0) d_BR_readCoordinate_6 h ?_
  rintro _ _ s2 ⟨r3, rfl, rfl, h⟩ -
  show Ax g m_BR_readCoordinate 0 0 (ZI g Q) SH s2 0 0 9 [(1, .int u1), (0, .ref (gB g + 1))] [.int r3]
  refine a_istore_n (pc := 9) (lv' := [(2, .int r3), (1, .int u1), (0, .ref (gB g + 1))]) rfl (Nat.le_of_ble_eq_true rfl) rfl d_BR_readCoordinate_9 ?_
  refine a_iload_n (pc := 10) 0 rfl rfl d_BR_readCoordinate_10 ?_
  refine a_iconst (pc := 11) (5 : Int32) (by decide) d_BR_readCoordinate_11 ?_
  refine a_icmp_le (pc := 12) 24 (by decide) d_BR_readCoordinate_12 ⟨fun c0 => ?_, fun c0 => ?_⟩
  · replace h := h.1 c0
    refine a_iload_n (pc := 24) 0 rfl rfl d_BR_readCoordinate_24 ?_
    exact b_iret (pc := 25) rfl d_BR_readCoordinate_25 h
  · replace h := h.2 c0
    refine a_aload_n (pc := 15) 2 rfl rfl d_BR_readCoordinate_15 ?_
    refine a_iload_n (pc := 16) 1 rfl rfl d_BR_readCoordinate_16 ?_
    refine a_iconst (pc := 17) (1 : Int32) (by decide) d_BR_readCoordinate_17 ?_
    refine a_callV (pc := 18) (M' := m_TA_blame) (As := [.int u1, .int (1 : Int32)]) (st := []) (mc' := 0) (ms' := 0) lk_BR_48 rfl sx_1 rfl (by decide) (by decide) rfl (Nat.le_of_ble_eq_true rfl) (Nat.le_refl 0) (Nat.le_refl 0) d_BR_readCoordinate_18 h ?_
    rintro _ _ s4 ⟨r5, rfl, rfl, h⟩ -
    show Ax g m_BR_readCoordinate 0 0 (ZI g Q) SH s4 0 0 21 [(2, .int r3), (1, .int u1), (0, .ref (gB g + 1))] [.int r5]
    refine a_pop (pc := 21) rfl d_BR_readCoordinate_21 ?_
    refine a_iconst (pc := 22) (-1 : Int32) (by decide) d_BR_readCoordinate_22 ?_
    exact b_iret (pc := 23) rfl d_BR_readCoordinate_23 h
theorem ko_BR_readCoordinate {g : Gx}  {σ : St} {Q : Int32 → St → Prop} (h : S_BR_readCoordinate_0 g Q σ) : K_BR_readCoordinate g  σ Q := KI.of (show plainName "BallBox$BoxReader" = true by decide) (Nat.le_of_ble_eq_true rfl) h
