theorem d_RR_read_0 : decode c_RR_read 0 = .ok (.aload_n 0, 1) := by decide +kernel
theorem d_RR_read_1 : decode c_RR_read 1 = .ok (.aload_n 1, 1) := by decide +kernel
theorem d_RR_read_2 : decode c_RR_read 2 = .ok (.invokevirtual 25, 3) := by decide +kernel
theorem d_RR_read_5 : decode c_RR_read 5 = .ok (.aload_n 0, 1) := by decide +kernel
theorem d_RR_read_6 : decode c_RR_read 6 = .ok (.getfield 21, 3) := by decide +kernel
theorem d_RR_read_9 : decode c_RR_read 9 = .ok (.invokevirtual 29, 3) := by decide +kernel
theorem d_RR_read_12 : decode c_RR_read 12 = .ok (.aload_n 0, 1) := by decide +kernel
theorem d_RR_read_13 : decode c_RR_read 13 = .ok (.iconst 0, 1) := by decide +kernel
theorem d_RR_read_14 : decode c_RR_read 14 = .ok (.putfield 32, 3) := by decide +kernel
theorem d_RR_read_17 : decode c_RR_read 17 = .ok (.aload_n 0, 1) := by decide +kernel
theorem d_RR_read_18 : decode c_RR_read 18 = .ok (.iconst 0, 1) := by decide +kernel
theorem d_RR_read_19 : decode c_RR_read 19 = .ok (.putfield 36, 3) := by decide +kernel
theorem d_RR_read_22 : decode c_RR_read 22 = .ok (.aload_n 0, 1) := by decide +kernel
theorem d_RR_read_23 : decode c_RR_read 23 = .ok (.iconst 0, 1) := by decide +kernel
theorem d_RR_read_24 : decode c_RR_read 24 = .ok (.putfield 39, 3) := by decide +kernel
theorem d_RR_read_27 : decode c_RR_read 27 = .ok (.iconst 1, 1) := by decide +kernel
theorem d_RR_read_28 : decode c_RR_read 28 = .ok (.istore_n 2, 1) := by decide +kernel
theorem d_RR_read_29 : decode c_RR_read 29 = .ok (.iconst 0, 1) := by decide +kernel
theorem d_RR_read_30 : decode c_RR_read 30 = .ok (.istore_n 3, 1) := by decide +kernel
theorem d_RR_read_31 : decode c_RR_read 31 = .ok (.iload_n 2, 1) := by decide +kernel
theorem d_RR_read_32 : decode c_RR_read 32 = .ok (.ifCond .eq 96, 3) := by decide +kernel
theorem d_RR_read_35 : decode c_RR_read 35 = .ok (.iload_n 3, 1) := by decide +kernel
theorem d_RR_read_36 : decode c_RR_read 36 = .ok (.bipush 12, 2) := by decide +kernel
theorem d_RR_read_38 : decode c_RR_read 38 = .ok (.if_icmp .gt 90, 3) := by decide +kernel
theorem d_RR_read_41 : decode c_RR_read 41 = .ok (.aload_n 0, 1) := by decide +kernel
theorem d_RR_read_42 : decode c_RR_read 42 = .ok (.iload_n 3, 1) := by decide +kernel
theorem d_RR_read_43 : decode c_RR_read 43 = .ok (.bipush 12, 2) := by decide +kernel
theorem d_RR_read_45 : decode c_RR_read 45 = .ok (.if_icmp .ne 7, 3) := by decide +kernel
theorem d_RR_read_48 : decode c_RR_read 48 = .ok (.iconst 1, 1) := by decide +kernel
theorem d_RR_read_49 : decode c_RR_read 49 = .ok (.goto 4, 3) := by decide +kernel
theorem d_RR_read_52 : decode c_RR_read 52 = .ok (.iconst 0, 1) := by decide +kernel
theorem d_RR_read_53 : decode c_RR_read 53 = .ok (.invokevirtual 42, 3) := by decide +kernel
theorem d_RR_read_56 : decode c_RR_read 56 = .ok (.ifCond .eq 14, 3) := by decide +kernel
theorem d_RR_read_59 : decode c_RR_read 59 = .ok (.aload_n 0, 1) := by decide +kernel
theorem d_RR_read_60 : decode c_RR_read 60 = .ok (.invokevirtual 46, 3) := by decide +kernel
theorem d_RR_read_63 : decode c_RR_read 63 = .ok (.ifCond .eq 7, 3) := by decide +kernel
theorem d_RR_read_66 : decode c_RR_read 66 = .ok (.iconst 1, 1) := by decide +kernel
theorem d_RR_read_67 : decode c_RR_read 67 = .ok (.goto 4, 3) := by decide +kernel
theorem d_RR_read_70 : decode c_RR_read 70 = .ok (.iconst 0, 1) := by decide +kernel
theorem d_RR_read_71 : decode c_RR_read 71 = .ok (.istore_n 2, 1) := by decide +kernel
theorem d_RR_read_72 : decode c_RR_read 72 = .ok (.iload_n 2, 1) := by decide +kernel
theorem d_RR_read_73 : decode c_RR_read 73 = .ok (.ifCond .eq 33, 3) := by decide +kernel
theorem d_RR_read_76 : decode c_RR_read 76 = .ok (.aload_n 0, 1) := by decide +kernel
theorem d_RR_read_77 : decode c_RR_read 77 = .ok (.getfield 21, 3) := by decide +kernel
theorem d_RR_read_80 : decode c_RR_read 80 = .ok (.invokevirtual 50, 3) := by decide +kernel
theorem d_RR_read_83 : decode c_RR_read 83 = .ok (.aload_n 0, 1) := by decide +kernel
theorem d_RR_read_84 : decode c_RR_read 84 = .ok (.bipush (-13), 2) := by decide +kernel
theorem d_RR_read_86 : decode c_RR_read 86 = .ok (.invokevirtual 53, 3) := by decide +kernel
theorem d_RR_read_89 : decode c_RR_read 89 = .ok (.ifCond .eq 11, 3) := by decide +kernel
theorem d_RR_read_92 : decode c_RR_read 92 = .ok (.aload_n 0, 1) := by decide +kernel
theorem d_RR_read_93 : decode c_RR_read 93 = .ok (.iconst 0, 1) := by decide +kernel
theorem d_RR_read_94 : decode c_RR_read 94 = .ok (.invokevirtual 57, 3) := by decide +kernel
theorem d_RR_read_97 : decode c_RR_read 97 = .ok (.ifCond .eq 7, 3) := by decide +kernel
theorem d_RR_read_100 : decode c_RR_read 100 = .ok (.iconst 1, 1) := by decide +kernel
theorem d_RR_read_101 : decode c_RR_read 101 = .ok (.goto 4, 3) := by decide +kernel
theorem d_RR_read_104 : decode c_RR_read 104 = .ok (.iconst 0, 1) := by decide +kernel
theorem d_RR_read_105 : decode c_RR_read 105 = .ok (.istore_n 2, 1) := by decide +kernel
theorem d_RR_read_106 : decode c_RR_read 106 = .ok (.iload_n 2, 1) := by decide +kernel
theorem d_RR_read_107 : decode c_RR_read 107 = .ok (.ifCond .eq 15, 3) := by decide +kernel
theorem d_RR_read_110 : decode c_RR_read 110 = .ok (.aload_n 0, 1) := by decide +kernel
theorem d_RR_read_111 : decode c_RR_read 111 = .ok (.getfield 21, 3) := by decide +kernel
theorem d_RR_read_114 : decode c_RR_read 114 = .ok (.invokevirtual 60, 3) := by decide +kernel
theorem d_RR_read_117 : decode c_RR_read 117 = .ok (.aload_n 0, 1) := by decide +kernel
theorem d_RR_read_118 : decode c_RR_read 118 = .ok (.invokevirtual 63, 3) := by decide +kernel
theorem d_RR_read_121 : decode c_RR_read 121 = .ok (.istore_n 2, 1) := by decide +kernel
theorem d_RR_read_122 : decode c_RR_read 122 = .ok (.iinc 3 1, 3) := by decide +kernel
theorem d_RR_read_125 : decode c_RR_read 125 = .ok (.goto (-94), 3) := by decide +kernel
theorem d_RR_read_128 : decode c_RR_read 128 = .ok (.aload_n 0, 1) := by decide +kernel
theorem d_RR_read_129 : decode c_RR_read 129 = .ok (.getfield 39, 3) := by decide +kernel
theorem d_RR_read_132 : decode c_RR_read 132 = .ok (.ireturn, 1) := by decide +kernel
def S_RR_read_0 (g : Gx) (Q : Int32 → St → Prop) (σ : St) : Prop := Ax g m_RR_read 0 0 (ZI g Q) SH σ 0 0 0 [(0, .ref (gB g + 9)), (1, .ref (gB g + 1))] []
def S_RR_read_31 (g : Gx) (Q : Int32 → St → Prop) (σ : St) (x2 : Int32) (x3 : Int32) : Prop := Ax g m_RR_read 0 0 (ZI g Q) SH σ 0 0 31 [(0, .ref (gB g + 9)), (2, .int x2), (3, .int x3)] []
def S_RR_read_71 (g : Gx) (Q : Int32 → St → Prop) (σ : St) (x3 : Int32) (z0 : Int32) : Prop := Ax g m_RR_read 0 0 (ZI g Q) SH σ 0 0 71 [(0, .ref (gB g + 9)), (3, .int x3)] [.int z0]
def S_RR_read_105 (g : Gx) (Q : Int32 → St → Prop) (σ : St) (x3 : Int32) (z0 : Int32) : Prop := Ax g m_RR_read 0 0 (ZI g Q) SH σ 0 0 105 [(0, .ref (gB g + 9)), (3, .int x3)] [.int z0]
theorem sg_RR_read_0 {g : Gx} {Q : Int32 → St → Prop} {σ : St}
    (h : K_RR_cutUp g σ (fun s1 : St => K_RU_clear g 12 s1 (fun s2 : St => ∀ s3 : St, s3 = sfi s2 9 3 (0 : Int32) → ∀ s4 : St, s4 = sfi s3 9 4 (0 : Int32) → ∀ s5 : St, s5 = sfi s4 9 5 (0 : Int32) → S_RR_read_31 g Q s5 (1 : Int32) (0 : Int32)))) : S_RR_read_0 g Q σ := by
  show Ax g m_RR_read 0 0 (ZI g Q) SH σ 0 0 0 [(0, .ref (gB g + 9)), (1, .ref (gB g + 1))] []
  refine a_aload_n (pc := 0) 0 rfl rfl d_RR_read_0 ?_
  refine a_aload_n (pc := 1) 1 rfl rfl d_RR_read_1 ?_
  refine a_callV (pc := 2) (M' := m_RR_cutUp) (As := [.ref (gB g + 1)]) (st := []) (mc' := 0) (ms' := 0) lk_RR_25 rfl sx_9 rfl (by decide) (by decide) rfl (Nat.le_of_ble_eq_true rfl) (Nat.le_refl 0) (Nat.le_refl 0) d_RR_read_2 h ?_
  rintro _ _ s1 ⟨rfl, rfl, h⟩ -
  show Ax g m_RR_read 0 0 (ZI g Q) SH s1 0 0 5 [(0, .ref (gB g + 9)), (1, .ref (gB g + 1))] []
  refine a_aload_n (pc := 5) 0 rfl rfl d_RR_read_5 ?_
  refine a_getR (pc := 6) fg_RR_21 sx_9 rfl d_RR_read_6 ?_
  refine a_callV (pc := 9) (M' := m_RU_clear) (As := []) (st := []) (mc' := 0) (ms' := 0) lk_RR_29 rfl sx_12 rfl (by decide) (by decide) rfl (Nat.le_of_ble_eq_true rfl) (Nat.le_refl 0) (Nat.le_refl 0) d_RR_read_9 h ?_
  rintro _ _ s2 ⟨rfl, rfl, h⟩ -
  show Ax g m_RR_read 0 0 (ZI g Q) SH s2 0 0 12 [(0, .ref (gB g + 9)), (1, .ref (gB g + 1))] []
  refine a_aload_n (pc := 12) 0 rfl rfl d_RR_read_12 ?_
  refine a_iconst (pc := 13) (0 : Int32) (by decide) d_RR_read_13 ?_
  refine a_putI (pc := 14) fp_RR_32 sx_9 rfl d_RR_read_14 ?_
  refine a_nms (fun s3 hs3 => ?_)
  replace h := h s3 hs3
  refine a_aload_n (pc := 17) 0 rfl rfl d_RR_read_17 ?_
  refine a_iconst (pc := 18) (0 : Int32) (by decide) d_RR_read_18 ?_
  refine a_putI (pc := 19) fp_RR_36 sx_9 rfl d_RR_read_19 ?_
  refine a_nms (fun s4 hs4 => ?_)
  replace h := h s4 hs4
  refine a_aload_n (pc := 22) 0 rfl rfl d_RR_read_22 ?_
  refine a_iconst (pc := 23) (0 : Int32) (by decide) d_RR_read_23 ?_
  refine a_putI (pc := 24) fp_RR_39 sx_9 rfl d_RR_read_24 ?_
  refine a_nms (fun s5 hs5 => ?_)
  replace h := h s5 hs5
  refine a_iconst (pc := 27) (1 : Int32) (by decide) d_RR_read_27 ?_
  refine a_istore_n (pc := 28) (lv' := [(2, .int (1 : Int32)), (0, .ref (gB g + 9)), (1, .ref (gB g + 1))]) rfl (Nat.le_of_ble_eq_true rfl) rfl d_RR_read_28 ?_
  refine a_iconst (pc := 29) (0 : Int32) (by decide) d_RR_read_29 ?_
  refine a_istore_n (pc := 30) (lv' := [(3, .int (0 : Int32)), (2, .int (1 : Int32)), (0, .ref (gB g + 9)), (1, .ref (gB g + 1))]) rfl (Nat.le_of_ble_eq_true rfl) rfl d_RR_read_30 ?_
  refine a_sub (pc := 31) [2, 1, 0] rfl ?_
  exact h
theorem sg_RR_read_31 {g : Gx} {Q : Int32 → St → Prop} {σ : St} {x2 : Int32} {x3 : Int32}
    (h : (x2 = 0 → Q (fi σ 9 5) σ) ∧ (¬ x2 = 0 → ((12 : Int32) < x3 → Q (fi σ 9 5) σ) ∧ (¬ (12 : Int32) < x3 → (¬ x3 = (12 : Int32) → K_RR_openClause g (0 : Int32) σ (fun (r2 : Int32) (s1 : St) => (r2 = 0 → S_RR_read_71 g Q s1 x3 (0 : Int32)) ∧ (¬ r2 = 0 → K_RR_readSum g s1 (fun (r4 : Int32) (s3 : St) => (r4 = 0 → S_RR_read_71 g Q s3 x3 (0 : Int32)) ∧ (¬ r4 = 0 → S_RR_read_71 g Q s3 x3 (1 : Int32)))))) ∧ (x3 = (12 : Int32) → K_RR_openClause g (1 : Int32) σ (fun (r6 : Int32) (s5 : St) => (r6 = 0 → S_RR_read_71 g Q s5 x3 (0 : Int32)) ∧ (¬ r6 = 0 → K_RR_readSum g s5 (fun (r8 : Int32) (s7 : St) => (r8 = 0 → S_RR_read_71 g Q s7 x3 (0 : Int32)) ∧ (¬ r8 = 0 → S_RR_read_71 g Q s7 x3 (1 : Int32))))))))) : S_RR_read_31 g Q σ x2 x3 := by
  show Ax g m_RR_read 0 0 (ZI g Q) SH σ 0 0 31 [(0, .ref (gB g + 9)), (2, .int x2), (3, .int x3)] []
  refine a_iload_n (pc := 31) 1 rfl rfl d_RR_read_31 ?_
  refine a_if_eq (pc := 32) 128 (by decide) d_RR_read_32 ⟨fun c0 => ?_, fun c0 => ?_⟩
  · replace h := h.1 c0
    refine a_aload_n (pc := 128) 0 rfl rfl d_RR_read_128 ?_
    refine a_getI (pc := 129) fg_RR_39 sx_9 rfl d_RR_read_129 ?_
    exact b_iret (pc := 132) rfl d_RR_read_132 h
  · replace h := h.2 c0
    refine a_iload_n (pc := 35) 2 rfl rfl d_RR_read_35 ?_
    refine a_bipush (pc := 36) (12 : Int32) (by decide) d_RR_read_36 ?_
    refine a_icmp_gt (pc := 38) 128 (by decide) d_RR_read_38 ⟨fun c0 => ?_, fun c0 => ?_⟩
    · replace h := h.1 c0
      refine a_aload_n (pc := 128) 0 rfl rfl d_RR_read_128 ?_
      refine a_getI (pc := 129) fg_RR_39 sx_9 rfl d_RR_read_129 ?_
      exact b_iret (pc := 132) rfl d_RR_read_132 h
    · replace h := h.2 c0
      refine a_aload_n (pc := 41) 0 rfl rfl d_RR_read_41 ?_
      refine a_iload_n (pc := 42) 2 rfl rfl d_RR_read_42 ?_
      refine a_bipush (pc := 43) (12 : Int32) (by decide) d_RR_read_43 ?_
      refine a_icmp_ne (pc := 45) 52 (by decide) d_RR_read_45 ⟨fun c0 => ?_, fun c0 => ?_⟩
      · replace h := h.1 c0
        refine a_iconst (pc := 52) (0 : Int32) (by decide) d_RR_read_52 ?_
        refine a_callV (pc := 53) (M' := m_RR_openClause) (As := [.int (0 : Int32)]) (st := []) (mc' := 0) (ms' := 0) lk_RR_42 rfl sx_9 rfl (by decide) (by decide) rfl (Nat.le_of_ble_eq_true rfl) (Nat.le_refl 0) (Nat.le_refl 0) d_RR_read_53 h ?_
        rintro _ _ s1 ⟨r2, rfl, rfl, h⟩ -
        show Ax g m_RR_read 0 0 (ZI g Q) SH s1 0 0 56 [(0, .ref (gB g + 9)), (2, .int x2), (3, .int x3)] [.int r2]
        refine a_if_eq (pc := 56) 70 (by decide) d_RR_read_56 ⟨fun c0 => ?_, fun c0 => ?_⟩
        · replace h := h.1 c0
          refine a_iconst (pc := 70) (0 : Int32) (by decide) d_RR_read_70 ?_
          refine a_sub (pc := 71) [0, 2] rfl ?_
          exact h
        · replace h := h.2 c0
          refine a_aload_n (pc := 59) 0 rfl rfl d_RR_read_59 ?_
          refine a_callV (pc := 60) (M' := m_RR_readSum) (As := []) (st := []) (mc' := 0) (ms' := 0) lk_RR_46 rfl sx_9 rfl (by decide) (by decide) rfl (Nat.le_of_ble_eq_true rfl) (Nat.le_refl 0) (Nat.le_refl 0) d_RR_read_60 h ?_
          rintro _ _ s3 ⟨r4, rfl, rfl, h⟩ -
          show Ax g m_RR_read 0 0 (ZI g Q) SH s3 0 0 63 [(0, .ref (gB g + 9)), (2, .int x2), (3, .int x3)] [.int r4]
          refine a_if_eq (pc := 63) 70 (by decide) d_RR_read_63 ⟨fun c0 => ?_, fun c0 => ?_⟩
          · replace h := h.1 c0
            refine a_iconst (pc := 70) (0 : Int32) (by decide) d_RR_read_70 ?_
            refine a_sub (pc := 71) [0, 2] rfl ?_
            exact h
          · replace h := h.2 c0
            refine a_iconst (pc := 66) (1 : Int32) (by decide) d_RR_read_66 ?_
            refine a_goto (pc := 67) 71 (by decide) d_RR_read_67 ?_
            refine a_sub (pc := 71) [0, 2] rfl ?_
            exact h
      · replace h := h.2 c0
        refine a_iconst (pc := 48) (1 : Int32) (by decide) d_RR_read_48 ?_
        refine a_goto (pc := 49) 53 (by decide) d_RR_read_49 ?_
        refine a_callV (pc := 53) (M' := m_RR_openClause) (As := [.int (1 : Int32)]) (st := []) (mc' := 0) (ms' := 0) lk_RR_42 rfl sx_9 rfl (by decide) (by decide) rfl (Nat.le_of_ble_eq_true rfl) (Nat.le_refl 0) (Nat.le_refl 0) d_RR_read_53 h ?_
        rintro _ _ s5 ⟨r6, rfl, rfl, h⟩ -
        show Ax g m_RR_read 0 0 (ZI g Q) SH s5 0 0 56 [(0, .ref (gB g + 9)), (2, .int x2), (3, .int x3)] [.int r6]
        refine a_if_eq (pc := 56) 70 (by decide) d_RR_read_56 ⟨fun c0 => ?_, fun c0 => ?_⟩
        · replace h := h.1 c0
          refine a_iconst (pc := 70) (0 : Int32) (by decide) d_RR_read_70 ?_
          refine a_sub (pc := 71) [0, 2] rfl ?_
          exact h
        · replace h := h.2 c0
          refine a_aload_n (pc := 59) 0 rfl rfl d_RR_read_59 ?_
          refine a_callV (pc := 60) (M' := m_RR_readSum) (As := []) (st := []) (mc' := 0) (ms' := 0) lk_RR_46 rfl sx_9 rfl (by decide) (by decide) rfl (Nat.le_of_ble_eq_true rfl) (Nat.le_refl 0) (Nat.le_refl 0) d_RR_read_60 h ?_
          rintro _ _ s7 ⟨r8, rfl, rfl, h⟩ -
          show Ax g m_RR_read 0 0 (ZI g Q) SH s7 0 0 63 [(0, .ref (gB g + 9)), (2, .int x2), (3, .int x3)] [.int r8]
          refine a_if_eq (pc := 63) 70 (by decide) d_RR_read_63 ⟨fun c0 => ?_, fun c0 => ?_⟩
          · replace h := h.1 c0
            refine a_iconst (pc := 70) (0 : Int32) (by decide) d_RR_read_70 ?_
            refine a_sub (pc := 71) [0, 2] rfl ?_
            exact h
          · replace h := h.2 c0
            refine a_iconst (pc := 66) (1 : Int32) (by decide) d_RR_read_66 ?_
            refine a_goto (pc := 67) 71 (by decide) d_RR_read_67 ?_
            refine a_sub (pc := 71) [0, 2] rfl ?_
            exact h
theorem sg_RR_read_71 {g : Gx} {Q : Int32 → St → Prop} {σ : St} {x3 : Int32} {z0 : Int32}
    (h : (z0 = 0 → (z0 = 0 → ∀ u1 : Int32, u1 = x3 + (1 : Int32) → S_RR_read_31 g Q σ z0 u1) ∧ (¬ z0 = 0 → K_RU_endClause g 12 σ (fun s2 : St => K_RR_closeClause g s2 (fun (r4 : Int32) (s3 : St) => ∀ u5 : Int32, u5 = x3 + (1 : Int32) → S_RR_read_31 g Q s3 r4 u5)))) ∧ (¬ z0 = 0 → K_RU_endSum g 12 σ (fun s6 : St => K_RR_takes g (-13 : Int32) s6 (fun (r8 : Int32) (s7 : St) => (r8 = 0 → S_RR_read_105 g Q s7 x3 (1 : Int32)) ∧ (¬ r8 = 0 → K_RR_readTest g 10 (0 : Int32) s7 (fun (r10 : Int32) (s9 : St) => (r10 = 0 → S_RR_read_105 g Q s9 x3 (0 : Int32)) ∧ (¬ r10 = 0 → S_RR_read_105 g Q s9 x3 (1 : Int32)))))))) : S_RR_read_71 g Q σ x3 z0 := by
  show Ax g m_RR_read 0 0 (ZI g Q) SH σ 0 0 71 [(0, .ref (gB g + 9)), (3, .int x3)] [.int z0]
  refine a_istore_n (pc := 71) (lv' := [(2, .int z0), (0, .ref (gB g + 9)), (3, .int x3)]) rfl (Nat.le_of_ble_eq_true rfl) rfl d_RR_read_71 ?_
  refine a_iload_n (pc := 72) 0 rfl rfl d_RR_read_72 ?_
  refine a_if_eq (pc := 73) 106 (by decide) d_RR_read_73 ⟨fun c0 => ?_, fun c0 => ?_⟩
  · replace h := h.1 c0
    refine a_iload_n (pc := 106) 0 rfl rfl d_RR_read_106 ?_
    refine a_if_eq (pc := 107) 122 (by decide) d_RR_read_107 ⟨fun c0 => ?_, fun c0 => ?_⟩
    · replace h := h.1 c0
      obtain ⟨u1, hu1⟩ : ∃ y : Int32, y = x3 + (1 : Int32) := ⟨_, rfl⟩
      replace h := h u1 hu1
      refine a_iinc (pc := 122) (v := u1) (lv' := [(3, .int u1), (2, .int z0), (0, .ref (gB g + 9))]) 2 rfl (by rw [hu1]; rfl) (Nat.le_of_ble_eq_true rfl) rfl d_RR_read_122 ?_
      refine a_goto (pc := 125) 31 (by decide) d_RR_read_125 ?_
      refine a_sub (pc := 31) [2, 1, 0] rfl ?_
      exact h
    · replace h := h.2 c0
      refine a_aload_n (pc := 110) 1 rfl rfl d_RR_read_110 ?_
      refine a_getR (pc := 111) fg_RR_21 sx_9 rfl d_RR_read_111 ?_
      refine a_callV (pc := 114) (M' := m_RU_endClause) (As := []) (st := []) (mc' := 0) (ms' := 0) lk_RR_60 rfl sx_12 rfl (by decide) (by decide) rfl (Nat.le_of_ble_eq_true rfl) (Nat.le_refl 0) (Nat.le_refl 0) d_RR_read_114 h ?_
      rintro _ _ s2 ⟨rfl, rfl, h⟩ -
      show Ax g m_RR_read 0 0 (ZI g Q) SH s2 0 0 117 [(2, .int z0), (0, .ref (gB g + 9)), (3, .int x3)] []
      refine a_aload_n (pc := 117) 1 rfl rfl d_RR_read_117 ?_
      refine a_callV (pc := 118) (M' := m_RR_closeClause) (As := []) (st := []) (mc' := 0) (ms' := 0) lk_RR_63 rfl sx_9 rfl (by decide) (by decide) rfl (Nat.le_of_ble_eq_true rfl) (Nat.le_refl 0) (Nat.le_refl 0) d_RR_read_118 h ?_
      rintro _ _ s3 ⟨r4, rfl, rfl, h⟩ -
      show Ax g m_RR_read 0 0 (ZI g Q) SH s3 0 0 121 [(2, .int z0), (0, .ref (gB g + 9)), (3, .int x3)] [.int r4]
      refine a_istore_n (pc := 121) (lv' := [(2, .int r4), (0, .ref (gB g + 9)), (3, .int x3)]) rfl (Nat.le_of_ble_eq_true rfl) rfl d_RR_read_121 ?_
      obtain ⟨u5, hu5⟩ : ∃ y : Int32, y = x3 + (1 : Int32) := ⟨_, rfl⟩
      replace h := h u5 hu5
      refine a_iinc (pc := 122) (v := u5) (lv' := [(3, .int u5), (2, .int r4), (0, .ref (gB g + 9))]) 2 rfl (by rw [hu5]; rfl) (Nat.le_of_ble_eq_true rfl) rfl d_RR_read_122 ?_
      refine a_goto (pc := 125) 31 (by decide) d_RR_read_125 ?_
      refine a_sub (pc := 31) [2, 1, 0] rfl ?_
      exact h
  · replace h := h.2 c0
    refine a_aload_n (pc := 76) 1 rfl rfl d_RR_read_76 ?_
    refine a_getR (pc := 77) fg_RR_21 sx_9 rfl d_RR_read_77 ?_
    refine a_callV (pc := 80) (M' := m_RU_endSum) (As := []) (st := []) (mc' := 0) (ms' := 0) lk_RR_50 rfl sx_12 rfl (by decide) (by decide) rfl (Nat.le_of_ble_eq_true rfl) (Nat.le_refl 0) (Nat.le_refl 0) d_RR_read_80 h ?_
    rintro _ _ s6 ⟨rfl, rfl, h⟩ -
    show Ax g m_RR_read 0 0 (ZI g Q) SH s6 0 0 83 [(2, .int z0), (0, .ref (gB g + 9)), (3, .int x3)] []
    refine a_aload_n (pc := 83) 1 rfl rfl d_RR_read_83 ?_
    refine a_bipush (pc := 84) (-13 : Int32) (by decide) d_RR_read_84 ?_
    refine a_callV (pc := 86) (M' := m_RR_takes) (As := [.int (-13 : Int32)]) (st := []) (mc' := 0) (ms' := 0) lk_RR_53 rfl sx_9 rfl (by decide) (by decide) rfl (Nat.le_of_ble_eq_true rfl) (Nat.le_refl 0) (Nat.le_refl 0) d_RR_read_86 h ?_
    rintro _ _ s7 ⟨r8, rfl, rfl, h⟩ -
    show Ax g m_RR_read 0 0 (ZI g Q) SH s7 0 0 89 [(2, .int z0), (0, .ref (gB g + 9)), (3, .int x3)] [.int r8]
    refine a_if_eq (pc := 89) 100 (by decide) d_RR_read_89 ⟨fun c0 => ?_, fun c0 => ?_⟩
    · replace h := h.1 c0
      refine a_iconst (pc := 100) (1 : Int32) (by decide) d_RR_read_100 ?_
      refine a_goto (pc := 101) 105 (by decide) d_RR_read_101 ?_
      refine a_sub (pc := 105) [1, 2] rfl ?_
      exact h
    · replace h := h.2 c0
      refine a_aload_n (pc := 92) 1 rfl rfl d_RR_read_92 ?_
      refine a_iconst (pc := 93) (0 : Int32) (by decide) d_RR_read_93 ?_
      refine a_callV (pc := 94) (M' := (m_RR_readTest 10)) (As := [.int (0 : Int32)]) (st := []) (mc' := 0) (ms' := 0) lk_RR_57 rfl sx_9 rfl (by decide) (by decide) rfl (Nat.le_of_ble_eq_true rfl) (Nat.le_refl 0) (Nat.le_refl 0) d_RR_read_94 h ?_
      rintro _ _ s9 ⟨r10, rfl, rfl, h⟩ -
      show Ax g m_RR_read 0 0 (ZI g Q) SH s9 0 0 97 [(2, .int z0), (0, .ref (gB g + 9)), (3, .int x3)] [.int r10]
      refine a_if_eq (pc := 97) 104 (by decide) d_RR_read_97 ⟨fun c0 => ?_, fun c0 => ?_⟩
      · replace h := h.1 c0
        refine a_iconst (pc := 104) (0 : Int32) (by decide) d_RR_read_104 ?_
        refine a_sub (pc := 105) [1, 2] rfl ?_
        exact h
      · replace h := h.2 c0
        refine a_iconst (pc := 100) (1 : Int32) (by decide) d_RR_read_100 ?_
        refine a_goto (pc := 101) 105 (by decide) d_RR_read_101 ?_
        refine a_sub (pc := 105) [1, 2] rfl ?_
        exact h
theorem sg_RR_read_105 {g : Gx} {Q : Int32 → St → Prop} {σ : St} {x3 : Int32} {z0 : Int32}
    (h : (z0 = 0 → ∀ u1 : Int32, u1 = x3 + (1 : Int32) → S_RR_read_31 g Q σ z0 u1) ∧ (¬ z0 = 0 → K_RU_endClause g 12 σ (fun s2 : St => K_RR_closeClause g s2 (fun (r4 : Int32) (s3 : St) => ∀ u5 : Int32, u5 = x3 + (1 : Int32) → S_RR_read_31 g Q s3 r4 u5)))) : S_RR_read_105 g Q σ x3 z0 := by
  show Ax g m_RR_read 0 0 (ZI g Q) SH σ 0 0 105 [(0, .ref (gB g + 9)), (3, .int x3)] [.int z0]
  refine a_istore_n (pc := 105) (lv' := [(2, .int z0), (0, .ref (gB g + 9)), (3, .int x3)]) rfl (Nat.le_of_ble_eq_true rfl) rfl d_RR_read_105 ?_
  refine a_iload_n (pc := 106) 0 rfl rfl d_RR_read_106 ?_
  refine a_if_eq (pc := 107) 122 (by decide) d_RR_read_107 ⟨fun c0 => ?_, fun c0 => ?_⟩
  · replace h := h.1 c0
    obtain ⟨u1, hu1⟩ : ∃ y : Int32, y = x3 + (1 : Int32) := ⟨_, rfl⟩
    replace h := h u1 hu1
    refine a_iinc (pc := 122) (v := u1) (lv' := [(3, .int u1), (2, .int z0), (0, .ref (gB g + 9))]) 2 rfl (by rw [hu1]; rfl) (Nat.le_of_ble_eq_true rfl) rfl d_RR_read_122 ?_
    refine a_goto (pc := 125) 31 (by decide) d_RR_read_125 ?_
    refine a_sub (pc := 31) [2, 1, 0] rfl ?_
    exact h
  · replace h := h.2 c0
    refine a_aload_n (pc := 110) 1 rfl rfl d_RR_read_110 ?_
    refine a_getR (pc := 111) fg_RR_21 sx_9 rfl d_RR_read_111 ?_
    refine a_callV (pc := 114) (M' := m_RU_endClause) (As := []) (st := []) (mc' := 0) (ms' := 0) lk_RR_60 rfl sx_12 rfl (by decide) (by decide) rfl (Nat.le_of_ble_eq_true rfl) (Nat.le_refl 0) (Nat.le_refl 0) d_RR_read_114 h ?_
    rintro _ _ s2 ⟨rfl, rfl, h⟩ -
    show Ax g m_RR_read 0 0 (ZI g Q) SH s2 0 0 117 [(2, .int z0), (0, .ref (gB g + 9)), (3, .int x3)] []
    refine a_aload_n (pc := 117) 1 rfl rfl d_RR_read_117 ?_
    refine a_callV (pc := 118) (M' := m_RR_closeClause) (As := []) (st := []) (mc' := 0) (ms' := 0) lk_RR_63 rfl sx_9 rfl (by decide) (by decide) rfl (Nat.le_of_ble_eq_true rfl) (Nat.le_refl 0) (Nat.le_refl 0) d_RR_read_118 h ?_
    rintro _ _ s3 ⟨r4, rfl, rfl, h⟩ -
    show Ax g m_RR_read 0 0 (ZI g Q) SH s3 0 0 121 [(2, .int z0), (0, .ref (gB g + 9)), (3, .int x3)] [.int r4]
    refine a_istore_n (pc := 121) (lv' := [(2, .int r4), (0, .ref (gB g + 9)), (3, .int x3)]) rfl (Nat.le_of_ble_eq_true rfl) rfl d_RR_read_121 ?_
    obtain ⟨u5, hu5⟩ : ∃ y : Int32, y = x3 + (1 : Int32) := ⟨_, rfl⟩
    replace h := h u5 hu5
    refine a_iinc (pc := 122) (v := u5) (lv' := [(3, .int u5), (2, .int r4), (0, .ref (gB g + 9))]) 2 rfl (by rw [hu5]; rfl) (Nat.le_of_ble_eq_true rfl) rfl d_RR_read_122 ?_
    refine a_goto (pc := 125) 31 (by decide) d_RR_read_125 ?_
    refine a_sub (pc := 31) [2, 1, 0] rfl ?_
    exact h
theorem ko_RR_read {g : Gx}  {σ : St} {Q : Int32 → St → Prop} (h : S_RR_read_0 g Q σ) : K_RR_read g  σ Q := KI.of (show plainName "BallBox$RuleReader" = true by decide) (Nat.le_of_ble_eq_true rfl) h
theorem d_RR_openClause_0 : decode c_RR_openClause 0 = .ok (.aload_n 0, 1) := by decide +kernel
theorem d_RR_openClause_1 : decode c_RR_openClause 1 = .ok (.invokevirtual 66, 3) := by decide +kernel
theorem d_RR_openClause_4 : decode c_RR_openClause 4 = .ok (.bipush (-12), 2) := by decide +kernel
theorem d_RR_openClause_6 : decode c_RR_openClause 6 = .ok (.if_icmp .eq 9, 3) := by decide +kernel
theorem d_RR_openClause_9 : decode c_RR_openClause 9 = .ok (.aload_n 0, 1) := by decide +kernel
theorem d_RR_openClause_10 : decode c_RR_openClause 10 = .ok (.iconst 0, 1) := by decide +kernel
theorem d_RR_openClause_11 : decode c_RR_openClause 11 = .ok (.invokevirtual 70, 3) := by decide +kernel
theorem d_RR_openClause_14 : decode c_RR_openClause 14 = .ok (.ireturn, 1) := by decide +kernel
theorem d_RR_openClause_15 : decode c_RR_openClause 15 = .ok (.iload_n 1, 1) := by decide +kernel
theorem d_RR_openClause_16 : decode c_RR_openClause 16 = .ok (.ifCond .eq 9, 3) := by decide +kernel
theorem d_RR_openClause_19 : decode c_RR_openClause 19 = .ok (.aload_n 0, 1) := by decide +kernel
theorem d_RR_openClause_20 : decode c_RR_openClause 20 = .ok (.iconst 4, 1) := by decide +kernel
theorem d_RR_openClause_21 : decode c_RR_openClause 21 = .ok (.invokevirtual 70, 3) := by decide +kernel
theorem d_RR_openClause_24 : decode c_RR_openClause 24 = .ok (.ireturn, 1) := by decide +kernel
theorem d_RR_openClause_25 : decode c_RR_openClause 25 = .ok (.aload_n 0, 1) := by decide +kernel
theorem d_RR_openClause_26 : decode c_RR_openClause 26 = .ok (.dup, 1) := by decide +kernel
theorem d_RR_openClause_27 : decode c_RR_openClause 27 = .ok (.getfield 32, 3) := by decide +kernel
theorem d_RR_openClause_30 : decode c_RR_openClause 30 = .ok (.iconst 1, 1) := by decide +kernel
theorem d_RR_openClause_31 : decode c_RR_openClause 31 = .ok (.iadd, 1) := by decide +kernel
theorem d_RR_openClause_32 : decode c_RR_openClause 32 = .ok (.putfield 32, 3) := by decide +kernel
theorem d_RR_openClause_35 : decode c_RR_openClause 35 = .ok (.iconst 1, 1) := by decide +kernel
theorem d_RR_openClause_36 : decode c_RR_openClause 36 = .ok (.ireturn, 1) := by decide +kernel
def S_RR_openClause_0 (g : Gx) (Q : Int32 → St → Prop) (σ : St) (x1 : Int32) : Prop := Ax g m_RR_openClause 0 0 (ZI g Q) SH σ 0 0 0 [(0, .ref (gB g + 9)), (1, .int x1)] []
theorem sg_RR_openClause_0 {g : Gx} {Q : Int32 → St → Prop} {σ : St} {x1 : Int32}
    (h : K_RR_tokenHere g σ (fun (r2 : Int32) (s1 : St) => (r2 = (-12 : Int32) → (x1 = 0 → ∀ s3 : St, s3 = sfi s1 9 3 ((fi s1 9 3) + (1 : Int32)) → Q (1 : Int32) s3) ∧ (¬ x1 = 0 → K_RR_blame g (4 : Int32) s1 (fun (r5 : Int32) (s4 : St) => (r5 = 0 ∨ r5 = 1) ∧ Q r5 s4))) ∧ (¬ r2 = (-12 : Int32) → K_RR_blame g (0 : Int32) s1 (fun (r7 : Int32) (s6 : St) => (r7 = 0 ∨ r7 = 1) ∧ Q r7 s6)))) : S_RR_openClause_0 g Q σ x1 := by
  show Ax g m_RR_openClause 0 0 (ZI g Q) SH σ 0 0 0 [(0, .ref (gB g + 9)), (1, .int x1)] []
  refine a_aload_n (pc := 0) 0 rfl rfl d_RR_openClause_0 ?_
  refine a_callV (pc := 1) (M' := m_RR_tokenHere) (As := []) (st := []) (mc' := 0) (ms' := 0) lk_RR_66 rfl sx_9 rfl (by decide) (by decide) rfl (Nat.le_of_ble_eq_true rfl) (Nat.le_refl 0) (Nat.le_refl 0) d_RR_openClause_1 h ?_
  rintro _ _ s1 ⟨r2, rfl, rfl, h⟩ -
  show Ax g m_RR_openClause 0 0 (ZI g Q) SH s1 0 0 4 [(0, .ref (gB g + 9)), (1, .int x1)] [.int r2]
  refine a_bipush (pc := 4) (-12 : Int32) (by decide) d_RR_openClause_4 ?_
  refine a_icmp_eq (pc := 6) 15 (by decide) d_RR_openClause_6 ⟨fun c0 => ?_, fun c0 => ?_⟩
  · replace h := h.1 c0
    refine a_iload_n (pc := 15) 1 rfl rfl d_RR_openClause_15 ?_
    refine a_if_eq (pc := 16) 25 (by decide) d_RR_openClause_16 ⟨fun c0 => ?_, fun c0 => ?_⟩
    · replace h := h.1 c0
      refine a_aload_n (pc := 25) 0 rfl rfl d_RR_openClause_25 ?_
      refine a_dup (pc := 26) rfl d_RR_openClause_26 ?_
      refine a_getI (pc := 27) fg_RR_32 sx_9 rfl d_RR_openClause_27 ?_
      refine a_iconst (pc := 30) (1 : Int32) (by decide) d_RR_openClause_30 ?_
      refine a_iadd (pc := 31) d_RR_openClause_31 ?_
      refine a_putI (pc := 32) fp_RR_32 sx_9 rfl d_RR_openClause_32 ?_
      refine a_nms (fun s3 hs3 => ?_)
      replace h := h s3 hs3
      refine a_iconst (pc := 35) (1 : Int32) (by decide) d_RR_openClause_35 ?_
      exact b_zret (pc := 36) rfl (Or.inr rfl) d_RR_openClause_36 h
    · replace h := h.2 c0
      refine a_aload_n (pc := 19) 0 rfl rfl d_RR_openClause_19 ?_
      refine a_iconst (pc := 20) (4 : Int32) (by decide) d_RR_openClause_20 ?_
      refine a_callV (pc := 21) (M' := m_RR_blame) (As := [.int (4 : Int32)]) (st := []) (mc' := 0) (ms' := 0) lk_RR_70 rfl sx_9 rfl (by decide) (by decide) rfl (Nat.le_of_ble_eq_true rfl) (Nat.le_refl 0) (Nat.le_refl 0) d_RR_openClause_21 h ?_
      rintro _ _ s4 ⟨r5, rfl, rfl, h⟩ -
      show Ax g m_RR_openClause 0 0 (ZI g Q) SH s4 0 0 24 [(0, .ref (gB g + 9)), (1, .int x1)] [.int r5]
      exact b_zret (pc := 24) rfl h.1 d_RR_openClause_24 h.2
  · replace h := h.2 c0
    refine a_aload_n (pc := 9) 0 rfl rfl d_RR_openClause_9 ?_
    refine a_iconst (pc := 10) (0 : Int32) (by decide) d_RR_openClause_10 ?_
    refine a_callV (pc := 11) (M' := m_RR_blame) (As := [.int (0 : Int32)]) (st := []) (mc' := 0) (ms' := 0) lk_RR_70 rfl sx_9 rfl (by decide) (by decide) rfl (Nat.le_of_ble_eq_true rfl) (Nat.le_refl 0) (Nat.le_refl 0) d_RR_openClause_11 h ?_
    rintro _ _ s6 ⟨r7, rfl, rfl, h⟩ -
    show Ax g m_RR_openClause 0 0 (ZI g Q) SH s6 0 0 14 [(0, .ref (gB g + 9)), (1, .int x1)] [.int r7]
    exact b_zret (pc := 14) rfl h.1 d_RR_openClause_14 h.2
theorem ko_RR_openClause {g : Gx}  {x1 : Int32} {σ : St} {Q : Int32 → St → Prop} (h : S_RR_openClause_0 g Q σ x1) : K_RR_openClause g x1 σ Q := KI.of (show plainName "BallBox$RuleReader" = true by decide) (Nat.le_of_ble_eq_true rfl) h
theorem d_RR_closeClause_0 : decode c_RR_closeClause 0 = .ok (.aload_n 0, 1) := by decide +kernel
theorem d_RR_closeClause_1 : decode c_RR_closeClause 1 = .ok (.invokevirtual 66, 3) := by decide +kernel
theorem d_RR_closeClause_4 : decode c_RR_closeClause 4 = .ok (.bipush (-29), 2) := by decide +kernel
theorem d_RR_closeClause_6 : decode c_RR_closeClause 6 = .ok (.if_icmp .ne 5, 3) := by decide +kernel
theorem d_RR_closeClause_9 : decode c_RR_closeClause 9 = .ok (.iconst 0, 1) := by decide +kernel
theorem d_RR_closeClause_10 : decode c_RR_closeClause 10 = .ok (.ireturn, 1) := by decide +kernel
theorem d_RR_closeClause_11 : decode c_RR_closeClause 11 = .ok (.aload_n 0, 1) := by decide +kernel
theorem d_RR_closeClause_12 : decode c_RR_closeClause 12 = .ok (.bipush (-22), 2) := by decide +kernel
theorem d_RR_closeClause_14 : decode c_RR_closeClause 14 = .ok (.invokevirtual 53, 3) := by decide +kernel
theorem d_RR_closeClause_17 : decode c_RR_closeClause 17 = .ok (.ifCond .ne 11, 3) := by decide +kernel
theorem d_RR_closeClause_20 : decode c_RR_closeClause 20 = .ok (.aload_n 0, 1) := by decide +kernel
theorem d_RR_closeClause_21 : decode c_RR_closeClause 21 = .ok (.iconst 0, 1) := by decide +kernel
theorem d_RR_closeClause_22 : decode c_RR_closeClause 22 = .ok (.invokevirtual 70, 3) := by decide +kernel
theorem d_RR_closeClause_25 : decode c_RR_closeClause 25 = .ok (.ifCond .eq 7, 3) := by decide +kernel
theorem d_RR_closeClause_28 : decode c_RR_closeClause 28 = .ok (.iconst 1, 1) := by decide +kernel
theorem d_RR_closeClause_29 : decode c_RR_closeClause 29 = .ok (.goto 4, 3) := by decide +kernel
theorem d_RR_closeClause_32 : decode c_RR_closeClause 32 = .ok (.iconst 0, 1) := by decide +kernel
theorem d_RR_closeClause_33 : decode c_RR_closeClause 33 = .ok (.ireturn, 1) := by decide +kernel
def S_RR_closeClause_0 (g : Gx) (Q : Int32 → St → Prop) (σ : St) : Prop := Ax g m_RR_closeClause 0 0 (ZI g Q) SH σ 0 0 0 [(0, .ref (gB g + 9))] []
theorem sg_RR_closeClause_0 {g : Gx} {Q : Int32 → St → Prop} {σ : St}
    (h : K_RR_tokenHere g σ (fun (r2 : Int32) (s1 : St) => (¬ r2 = (-29 : Int32) → K_RR_takes g (-22 : Int32) s1 (fun (r4 : Int32) (s3 : St) => (¬ r4 = 0 → Q (1 : Int32) s3) ∧ (r4 = 0 → K_RR_blame g (0 : Int32) s3 (fun (r6 : Int32) (s5 : St) => (r6 = 0 → Q (0 : Int32) s5) ∧ (¬ r6 = 0 → Q (1 : Int32) s5))))) ∧ (r2 = (-29 : Int32) → Q (0 : Int32) s1))) : S_RR_closeClause_0 g Q σ := by
  show Ax g m_RR_closeClause 0 0 (ZI g Q) SH σ 0 0 0 [(0, .ref (gB g + 9))] []
  refine a_aload_n (pc := 0) 0 rfl rfl d_RR_closeClause_0 ?_
  refine a_callV (pc := 1) (M' := m_RR_tokenHere) (As := []) (st := []) (mc' := 0) (ms' := 0) lk_RR_66 rfl sx_9 rfl (by decide) (by decide) rfl (Nat.le_of_ble_eq_true rfl) (Nat.le_refl 0) (Nat.le_refl 0) d_RR_closeClause_1 h ?_
  rintro _ _ s1 ⟨r2, rfl, rfl, h⟩ -
  show Ax g m_RR_closeClause 0 0 (ZI g Q) SH s1 0 0 4 [(0, .ref (gB g + 9))] [.int r2]
  refine a_bipush (pc := 4) (-29 : Int32) (by decide) d_RR_closeClause_4 ?_
  refine a_icmp_ne (pc := 6) 11 (by decide) d_RR_closeClause_6 ⟨fun c0 => ?_, fun c0 => ?_⟩
  · replace h := h.1 c0
    refine a_aload_n (pc := 11) 0 rfl rfl d_RR_closeClause_11 ?_
    refine a_bipush (pc := 12) (-22 : Int32) (by decide) d_RR_closeClause_12 ?_
    refine a_callV (pc := 14) (M' := m_RR_takes) (As := [.int (-22 : Int32)]) (st := []) (mc' := 0) (ms' := 0) lk_RR_53 rfl sx_9 rfl (by decide) (by decide) rfl (Nat.le_of_ble_eq_true rfl) (Nat.le_refl 0) (Nat.le_refl 0) d_RR_closeClause_14 h ?_
    rintro _ _ s3 ⟨r4, rfl, rfl, h⟩ -
    show Ax g m_RR_closeClause 0 0 (ZI g Q) SH s3 0 0 17 [(0, .ref (gB g + 9))] [.int r4]
    refine a_if_ne (pc := 17) 28 (by decide) d_RR_closeClause_17 ⟨fun c0 => ?_, fun c0 => ?_⟩
    · replace h := h.1 c0
      refine a_iconst (pc := 28) (1 : Int32) (by decide) d_RR_closeClause_28 ?_
      refine a_goto (pc := 29) 33 (by decide) d_RR_closeClause_29 ?_
      exact b_zret (pc := 33) rfl (Or.inr rfl) d_RR_closeClause_33 h
    · replace h := h.2 c0
      refine a_aload_n (pc := 20) 0 rfl rfl d_RR_closeClause_20 ?_
      refine a_iconst (pc := 21) (0 : Int32) (by decide) d_RR_closeClause_21 ?_
      refine a_callV (pc := 22) (M' := m_RR_blame) (As := [.int (0 : Int32)]) (st := []) (mc' := 0) (ms' := 0) lk_RR_70 rfl sx_9 rfl (by decide) (by decide) rfl (Nat.le_of_ble_eq_true rfl) (Nat.le_refl 0) (Nat.le_refl 0) d_RR_closeClause_22 h ?_
      rintro _ _ s5 ⟨r6, rfl, rfl, h⟩ -
      show Ax g m_RR_closeClause 0 0 (ZI g Q) SH s5 0 0 25 [(0, .ref (gB g + 9))] [.int r6]
      refine a_if_eq (pc := 25) 32 (by decide) d_RR_closeClause_25 ⟨fun c0 => ?_, fun c0 => ?_⟩
      · replace h := h.1 c0
        refine a_iconst (pc := 32) (0 : Int32) (by decide) d_RR_closeClause_32 ?_
        exact b_zret (pc := 33) rfl (Or.inl rfl) d_RR_closeClause_33 h
      · replace h := h.2 c0
        refine a_iconst (pc := 28) (1 : Int32) (by decide) d_RR_closeClause_28 ?_
        refine a_goto (pc := 29) 33 (by decide) d_RR_closeClause_29 ?_
        exact b_zret (pc := 33) rfl (Or.inr rfl) d_RR_closeClause_33 h
  · replace h := h.2 c0
    refine a_iconst (pc := 9) (0 : Int32) (by decide) d_RR_closeClause_9 ?_
    exact b_zret (pc := 10) rfl (Or.inl rfl) d_RR_closeClause_10 h
theorem ko_RR_closeClause {g : Gx}  {σ : St} {Q : Int32 → St → Prop} (h : S_RR_closeClause_0 g Q σ) : K_RR_closeClause g  σ Q := KI.of (show plainName "BallBox$RuleReader" = true by decide) (Nat.le_of_ble_eq_true rfl) h
theorem d_RR_takes_0 : decode c_RR_takes 0 = .ok (.aload_n 0, 1) := by decide +kernel
theorem d_RR_takes_1 : decode c_RR_takes 1 = .ok (.invokevirtual 66, 3) := by decide +kernel
theorem d_RR_takes_4 : decode c_RR_takes 4 = .ok (.iload_n 1, 1) := by decide +kernel
theorem d_RR_takes_5 : decode c_RR_takes 5 = .ok (.if_icmp .eq 5, 3) := by decide +kernel
theorem d_RR_takes_8 : decode c_RR_takes 8 = .ok (.iconst 0, 1) := by decide +kernel
theorem d_RR_takes_9 : decode c_RR_takes 9 = .ok (.ireturn, 1) := by decide +kernel
theorem d_RR_takes_10 : decode c_RR_takes 10 = .ok (.aload_n 0, 1) := by decide +kernel
theorem d_RR_takes_11 : decode c_RR_takes 11 = .ok (.dup, 1) := by decide +kernel
theorem d_RR_takes_12 : decode c_RR_takes 12 = .ok (.getfield 32, 3) := by decide +kernel
theorem d_RR_takes_15 : decode c_RR_takes 15 = .ok (.iconst 1, 1) := by decide +kernel
theorem d_RR_takes_16 : decode c_RR_takes 16 = .ok (.iadd, 1) := by decide +kernel
theorem d_RR_takes_17 : decode c_RR_takes 17 = .ok (.putfield 32, 3) := by decide +kernel
theorem d_RR_takes_20 : decode c_RR_takes 20 = .ok (.iconst 1, 1) := by decide +kernel
theorem d_RR_takes_21 : decode c_RR_takes 21 = .ok (.ireturn, 1) := by decide +kernel
def S_RR_takes_0 (g : Gx) (Q : Int32 → St → Prop) (σ : St) (x1 : Int32) : Prop := Ax g m_RR_takes 0 0 (ZI g Q) SH σ 0 0 0 [(0, .ref (gB g + 9)), (1, .int x1)] []
theorem sg_RR_takes_0 {g : Gx} {Q : Int32 → St → Prop} {σ : St} {x1 : Int32}
    (h : K_RR_tokenHere g σ (fun (r2 : Int32) (s1 : St) => (r2 = x1 → ∀ s3 : St, s3 = sfi s1 9 3 ((fi s1 9 3) + (1 : Int32)) → Q (1 : Int32) s3) ∧ (¬ r2 = x1 → Q (0 : Int32) s1))) : S_RR_takes_0 g Q σ x1 := by
  show Ax g m_RR_takes 0 0 (ZI g Q) SH σ 0 0 0 [(0, .ref (gB g + 9)), (1, .int x1)] []
  refine a_aload_n (pc := 0) 0 rfl rfl d_RR_takes_0 ?_
  refine a_callV (pc := 1) (M' := m_RR_tokenHere) (As := []) (st := []) (mc' := 0) (ms' := 0) lk_RR_66 rfl sx_9 rfl (by decide) (by decide) rfl (Nat.le_of_ble_eq_true rfl) (Nat.le_refl 0) (Nat.le_refl 0) d_RR_takes_1 h ?_
  rintro _ _ s1 ⟨r2, rfl, rfl, h⟩ -
  show Ax g m_RR_takes 0 0 (ZI g Q) SH s1 0 0 4 [(0, .ref (gB g + 9)), (1, .int x1)] [.int r2]
  refine a_iload_n (pc := 4) 1 rfl rfl d_RR_takes_4 ?_
  refine a_icmp_eq (pc := 5) 10 (by decide) d_RR_takes_5 ⟨fun c0 => ?_, fun c0 => ?_⟩
  · replace h := h.1 c0
    refine a_aload_n (pc := 10) 0 rfl rfl d_RR_takes_10 ?_
    refine a_dup (pc := 11) rfl d_RR_takes_11 ?_
    refine a_getI (pc := 12) fg_RR_32 sx_9 rfl d_RR_takes_12 ?_
    refine a_iconst (pc := 15) (1 : Int32) (by decide) d_RR_takes_15 ?_
    refine a_iadd (pc := 16) d_RR_takes_16 ?_
    refine a_putI (pc := 17) fp_RR_32 sx_9 rfl d_RR_takes_17 ?_
    refine a_nms (fun s3 hs3 => ?_)
    replace h := h s3 hs3
    refine a_iconst (pc := 20) (1 : Int32) (by decide) d_RR_takes_20 ?_
    exact b_zret (pc := 21) rfl (Or.inr rfl) d_RR_takes_21 h
  · replace h := h.2 c0
    refine a_iconst (pc := 8) (0 : Int32) (by decide) d_RR_takes_8 ?_
    exact b_zret (pc := 9) rfl (Or.inl rfl) d_RR_takes_9 h
theorem ko_RR_takes {g : Gx}  {x1 : Int32} {σ : St} {Q : Int32 → St → Prop} (h : S_RR_takes_0 g Q σ x1) : K_RR_takes g x1 σ Q := KI.of (show plainName "BallBox$RuleReader" = true by decide) (Nat.le_of_ble_eq_true rfl) h
theorem d_RR_cutUp_0 : decode c_RR_cutUp 0 = .ok (.aload_n 1, 1) := by decide +kernel
theorem d_RR_cutUp_1 : decode c_RR_cutUp 1 = .ok (.invokevirtual 73, 3) := by decide +kernel
theorem d_RR_cutUp_4 : decode c_RR_cutUp 4 = .ok (.aload_n 0, 1) := by decide +kernel
theorem d_RR_cutUp_5 : decode c_RR_cutUp 5 = .ok (.iconst 0, 1) := by decide +kernel
theorem d_RR_cutUp_6 : decode c_RR_cutUp 6 = .ok (.putfield 76, 3) := by decide +kernel
theorem d_RR_cutUp_9 : decode c_RR_cutUp 9 = .ok (.iconst 0, 1) := by decide +kernel
theorem d_RR_cutUp_10 : decode c_RR_cutUp 10 = .ok (.istore_n 2, 1) := by decide +kernel
theorem d_RR_cutUp_11 : decode c_RR_cutUp 11 = .ok (.iload_n 2, 1) := by decide +kernel
theorem d_RR_cutUp_12 : decode c_RR_cutUp 12 = .ok (.bipush (-29), 2) := by decide +kernel
theorem d_RR_cutUp_14 : decode c_RR_cutUp 14 = .ok (.if_icmp .eq 64, 3) := by decide +kernel
theorem d_RR_cutUp_17 : decode c_RR_cutUp 17 = .ok (.iload_n 2, 1) := by decide +kernel
theorem d_RR_cutUp_18 : decode c_RR_cutUp 18 = .ok (.bipush (-28), 2) := by decide +kernel
theorem d_RR_cutUp_20 : decode c_RR_cutUp 20 = .ok (.if_icmp .eq 58, 3) := by decide +kernel
theorem d_RR_cutUp_23 : decode c_RR_cutUp 23 = .ok (.aload_n 0, 1) := by decide +kernel
theorem d_RR_cutUp_24 : decode c_RR_cutUp 24 = .ok (.getfield 76, 3) := by decide +kernel
theorem d_RR_cutUp_27 : decode c_RR_cutUp 27 = .ok (.sipush 401, 3) := by decide +kernel
theorem d_RR_cutUp_30 : decode c_RR_cutUp 30 = .ok (.if_icmp .ge 48, 3) := by decide +kernel
theorem d_RR_cutUp_33 : decode c_RR_cutUp 33 = .ok (.aload_n 1, 1) := by decide +kernel
theorem d_RR_cutUp_34 : decode c_RR_cutUp 34 = .ok (.invokevirtual 79, 3) := by decide +kernel
theorem d_RR_cutUp_37 : decode c_RR_cutUp 37 = .ok (.aload_n 0, 1) := by decide +kernel
theorem d_RR_cutUp_38 : decode c_RR_cutUp 38 = .ok (.getfield 15, 3) := by decide +kernel
theorem d_RR_cutUp_41 : decode c_RR_cutUp 41 = .ok (.aload_n 0, 1) := by decide +kernel
theorem d_RR_cutUp_42 : decode c_RR_cutUp 42 = .ok (.getfield 76, 3) := by decide +kernel
theorem d_RR_cutUp_45 : decode c_RR_cutUp 45 = .ok (.aload_n 1, 1) := by decide +kernel
theorem d_RR_cutUp_46 : decode c_RR_cutUp 46 = .ok (.getfield 82, 3) := by decide +kernel
theorem d_RR_cutUp_49 : decode c_RR_cutUp 49 = .ok (.iastore, 1) := by decide +kernel
theorem d_RR_cutUp_50 : decode c_RR_cutUp 50 = .ok (.aload_n 1, 1) := by decide +kernel
theorem d_RR_cutUp_51 : decode c_RR_cutUp 51 = .ok (.invokestatic 83, 3) := by decide +kernel
theorem d_RR_cutUp_54 : decode c_RR_cutUp 54 = .ok (.istore_n 2, 1) := by decide +kernel
theorem d_RR_cutUp_55 : decode c_RR_cutUp 55 = .ok (.aload_n 0, 1) := by decide +kernel
theorem d_RR_cutUp_56 : decode c_RR_cutUp 56 = .ok (.getfield 11, 3) := by decide +kernel
theorem d_RR_cutUp_59 : decode c_RR_cutUp 59 = .ok (.aload_n 0, 1) := by decide +kernel
theorem d_RR_cutUp_60 : decode c_RR_cutUp 60 = .ok (.getfield 76, 3) := by decide +kernel
theorem d_RR_cutUp_63 : decode c_RR_cutUp 63 = .ok (.iload_n 2, 1) := by decide +kernel
theorem d_RR_cutUp_64 : decode c_RR_cutUp 64 = .ok (.iastore, 1) := by decide +kernel
theorem d_RR_cutUp_65 : decode c_RR_cutUp 65 = .ok (.aload_n 0, 1) := by decide +kernel
theorem d_RR_cutUp_66 : decode c_RR_cutUp 66 = .ok (.dup, 1) := by decide +kernel
theorem d_RR_cutUp_67 : decode c_RR_cutUp 67 = .ok (.getfield 76, 3) := by decide +kernel
theorem d_RR_cutUp_70 : decode c_RR_cutUp 70 = .ok (.iconst 1, 1) := by decide +kernel
theorem d_RR_cutUp_71 : decode c_RR_cutUp 71 = .ok (.iadd, 1) := by decide +kernel
theorem d_RR_cutUp_72 : decode c_RR_cutUp 72 = .ok (.putfield 76, 3) := by decide +kernel
theorem d_RR_cutUp_75 : decode c_RR_cutUp 75 = .ok (.goto (-64), 3) := by decide +kernel
theorem d_RR_cutUp_78 : decode c_RR_cutUp 78 = .ok (.return_, 1) := by decide +kernel
def S_RR_cutUp_0 (g : Gx) (Q : St → Prop) (σ : St) : Prop := Ax g m_RR_cutUp 0 0 (ZV g Q) SH σ 0 0 0 [(0, .ref (gB g + 9)), (1, .ref (gB g + 1))] []
def S_RR_cutUp_11 (g : Gx) (Q : St → Prop) (σ : St) (x2 : Int32) : Prop := Ax g m_RR_cutUp 0 0 (ZV g Q) SH σ 0 0 11 [(0, .ref (gB g + 9)), (1, .ref (gB g + 1)), (2, .int x2)] []
theorem sg_RR_cutUp_0 {g : Gx} {Q : St → Prop} {σ : St}
    (h : K_TA_start g σ (fun s1 : St => ∀ s2 : St, s2 = sfi s1 9 2 (0 : Int32) → S_RR_cutUp_11 g Q s2 (0 : Int32))) : S_RR_cutUp_0 g Q σ := by
  show Ax g m_RR_cutUp 0 0 (ZV g Q) SH σ 0 0 0 [(0, .ref (gB g + 9)), (1, .ref (gB g + 1))] []
  refine a_aload_n (pc := 0) 1 rfl rfl d_RR_cutUp_0 ?_
  refine a_callV (pc := 1) (M' := m_TA_start) (As := []) (st := []) (mc' := 0) (ms' := 0) lk_RR_73 rfl sx_1 rfl (by decide) (by decide) rfl (Nat.le_of_ble_eq_true rfl) (Nat.le_refl 0) (Nat.le_refl 0) d_RR_cutUp_1 h ?_
  rintro _ _ s1 ⟨rfl, rfl, h⟩ -
  show Ax g m_RR_cutUp 0 0 (ZV g Q) SH s1 0 0 4 [(0, .ref (gB g + 9)), (1, .ref (gB g + 1))] []
  refine a_aload_n (pc := 4) 0 rfl rfl d_RR_cutUp_4 ?_
  refine a_iconst (pc := 5) (0 : Int32) (by decide) d_RR_cutUp_5 ?_
  refine a_putI (pc := 6) fp_RR_76 sx_9 rfl d_RR_cutUp_6 ?_
  refine a_nms (fun s2 hs2 => ?_)
  replace h := h s2 hs2
  refine a_iconst (pc := 9) (0 : Int32) (by decide) d_RR_cutUp_9 ?_
  refine a_istore_n (pc := 10) (lv' := [(2, .int (0 : Int32)), (0, .ref (gB g + 9)), (1, .ref (gB g + 1))]) rfl (Nat.le_of_ble_eq_true rfl) rfl d_RR_cutUp_10 ?_
  refine a_sub (pc := 11) [1, 2, 0] rfl ?_
  exact h
theorem sg_RR_cutUp_11 {g : Gx} {Q : St → Prop} {σ : St} {x2 : Int32}
    (h : (x2 = (-29 : Int32) → Q σ) ∧ (¬ x2 = (-29 : Int32) → (x2 = (-28 : Int32) → Q σ) ∧ (¬ x2 = (-28 : Int32) → ((401 : Int32) ≤ (fi σ 9 2) → Q σ) ∧ (¬ (401 : Int32) ≤ (fi σ 9 2) → K_TA_skipBlanks g σ (fun s1 : St => vp_in (fi s1 9 2) 401 ∧ (∀ s2 : St, s2 = sai s1 11 ((fi s1 9 2)).toNatClampNeg (fi s1 1 2) → K_RR_cutToken g s2 (fun (r4 : Int32) (s3 : St) => vp_in (fi s3 9 2) 401 ∧ (∀ s5 : St, s5 = sai s3 10 ((fi s3 9 2)).toNatClampNeg r4 → ∀ s6 : St, s6 = sfi s5 9 2 ((fi s5 9 2) + (1 : Int32)) → S_RR_cutUp_11 g Q s6 r4)))))))) : S_RR_cutUp_11 g Q σ x2 := by
  show Ax g m_RR_cutUp 0 0 (ZV g Q) SH σ 0 0 11 [(0, .ref (gB g + 9)), (1, .ref (gB g + 1)), (2, .int x2)] []
  refine a_iload_n (pc := 11) 2 rfl rfl d_RR_cutUp_11 ?_
  refine a_bipush (pc := 12) (-29 : Int32) (by decide) d_RR_cutUp_12 ?_
  refine a_icmp_eq (pc := 14) 78 (by decide) d_RR_cutUp_14 ⟨fun c0 => ?_, fun c0 => ?_⟩
  · replace h := h.1 c0
    exact b_vret (pc := 78) rfl d_RR_cutUp_78 h
  · replace h := h.2 c0
    refine a_iload_n (pc := 17) 2 rfl rfl d_RR_cutUp_17 ?_
    refine a_bipush (pc := 18) (-28 : Int32) (by decide) d_RR_cutUp_18 ?_
    refine a_icmp_eq (pc := 20) 78 (by decide) d_RR_cutUp_20 ⟨fun c0 => ?_, fun c0 => ?_⟩
    · replace h := h.1 c0
      exact b_vret (pc := 78) rfl d_RR_cutUp_78 h
    · replace h := h.2 c0
      refine a_aload_n (pc := 23) 0 rfl rfl d_RR_cutUp_23 ?_
      refine a_getI (pc := 24) fg_RR_76 sx_9 rfl d_RR_cutUp_24 ?_
      refine a_sipush (pc := 27) (401 : Int32) (by decide) d_RR_cutUp_27 ?_
      refine a_icmp_ge (pc := 30) 78 (by decide) d_RR_cutUp_30 ⟨fun c0 => ?_, fun c0 => ?_⟩
      · replace h := h.1 c0
        exact b_vret (pc := 78) rfl d_RR_cutUp_78 h
      · replace h := h.2 c0
        refine a_aload_n (pc := 33) 1 rfl rfl d_RR_cutUp_33 ?_
        refine a_callV (pc := 34) (M' := m_TA_skipBlanks) (As := []) (st := []) (mc' := 0) (ms' := 0) lk_RR_79 rfl sx_1 rfl (by decide) (by decide) rfl (Nat.le_of_ble_eq_true rfl) (Nat.le_refl 0) (Nat.le_refl 0) d_RR_cutUp_34 h ?_
        rintro _ _ s1 ⟨rfl, rfl, h⟩ -
        show Ax g m_RR_cutUp 0 0 (ZV g Q) SH s1 0 0 37 [(0, .ref (gB g + 9)), (1, .ref (gB g + 1)), (2, .int x2)] []
        refine a_aload_n (pc := 37) 0 rfl rfl d_RR_cutUp_37 ?_
        refine a_getR (pc := 38) fg_RR_15 sx_9 rfl d_RR_cutUp_38 ?_
        refine a_aload_n (pc := 41) 0 rfl rfl d_RR_cutUp_41 ?_
        refine a_getI (pc := 42) fg_RR_76 sx_9 rfl d_RR_cutUp_42 ?_
        refine a_aload_n (pc := 45) 1 rfl rfl d_RR_cutUp_45 ?_
        refine a_getI (pc := 46) fg_RR_82 sx_1 rfl d_RR_cutUp_46 ?_
        obtain ⟨hx, h⟩ := h
        refine a_iast (pc := 49) sx_11 hx d_RR_cutUp_49 ?_
        refine a_nms (fun s2 hs2 => ?_)
        replace h := h s2 hs2
        refine a_aload_n (pc := 50) 1 rfl rfl d_RR_cutUp_50 ?_
        refine a_callS (pc := 51) (M' := m_RR_cutToken) (As := [.ref (gB g + 1)]) (st := []) (mc' := 0) (ms' := 0) lk_RR_83 rfl (by decide) (by decide) rfl (Nat.le_of_ble_eq_true rfl) (Nat.le_refl 0) (Nat.le_refl 0) d_RR_cutUp_51 h ?_
        rintro _ _ s3 ⟨r4, rfl, rfl, h⟩ -
        show Ax g m_RR_cutUp 0 0 (ZV g Q) SH s3 0 0 54 [(0, .ref (gB g + 9)), (1, .ref (gB g + 1)), (2, .int x2)] [.int r4]
        refine a_istore_n (pc := 54) (lv' := [(2, .int r4), (0, .ref (gB g + 9)), (1, .ref (gB g + 1))]) rfl (Nat.le_of_ble_eq_true rfl) rfl d_RR_cutUp_54 ?_
        refine a_aload_n (pc := 55) 1 rfl rfl d_RR_cutUp_55 ?_
        refine a_getR (pc := 56) fg_RR_11 sx_9 rfl d_RR_cutUp_56 ?_
        refine a_aload_n (pc := 59) 1 rfl rfl d_RR_cutUp_59 ?_
        refine a_getI (pc := 60) fg_RR_76 sx_9 rfl d_RR_cutUp_60 ?_
        refine a_iload_n (pc := 63) 0 rfl rfl d_RR_cutUp_63 ?_
        obtain ⟨hx, h⟩ := h
        refine a_iast (pc := 64) sx_10 hx d_RR_cutUp_64 ?_
        refine a_nms (fun s5 hs5 => ?_)
        replace h := h s5 hs5
        refine a_aload_n (pc := 65) 1 rfl rfl d_RR_cutUp_65 ?_
        refine a_dup (pc := 66) rfl d_RR_cutUp_66 ?_
        refine a_getI (pc := 67) fg_RR_76 sx_9 rfl d_RR_cutUp_67 ?_
        refine a_iconst (pc := 70) (1 : Int32) (by decide) d_RR_cutUp_70 ?_
        refine a_iadd (pc := 71) d_RR_cutUp_71 ?_
        refine a_putI (pc := 72) fp_RR_76 sx_9 rfl d_RR_cutUp_72 ?_
        refine a_nms (fun s6 hs6 => ?_)
        replace h := h s6 hs6
        refine a_goto (pc := 75) 11 (by decide) d_RR_cutUp_75 ?_
        refine a_sub (pc := 11) [1, 2, 0] rfl ?_
        exact h
theorem ko_RR_cutUp {g : Gx}  {σ : St} {Q : St → Prop} (h : S_RR_cutUp_0 g Q σ) : K_RR_cutUp g  σ Q := KV.of (show plainName "BallBox$RuleReader" = true by decide) (Nat.le_of_ble_eq_true rfl) h
theorem d_RR_cutToken_0 : decode c_RR_cutToken 0 = .ok (.aload_n 0, 1) := by decide +kernel
theorem d_RR_cutToken_1 : decode c_RR_cutToken 1 = .ok (.invokevirtual 87, 3) := by decide +kernel
theorem d_RR_cutToken_4 : decode c_RR_cutToken 4 = .ok (.ifCond .eq 6, 3) := by decide +kernel
theorem d_RR_cutToken_7 : decode c_RR_cutToken 7 = .ok (.bipush (-29), 2) := by decide +kernel
theorem d_RR_cutToken_9 : decode c_RR_cutToken 9 = .ok (.ireturn, 1) := by decide +kernel
theorem d_RR_cutToken_10 : decode c_RR_cutToken 10 = .ok (.aload_n 0, 1) := by decide +kernel
theorem d_RR_cutToken_11 : decode c_RR_cutToken 11 = .ok (.invokevirtual 90, 3) := by decide +kernel
theorem d_RR_cutToken_14 : decode c_RR_cutToken 14 = .ok (.istore_n 1, 1) := by decide +kernel
theorem d_RR_cutToken_15 : decode c_RR_cutToken 15 = .ok (.iload_n 1, 1) := by decide +kernel
theorem d_RR_cutToken_16 : decode c_RR_cutToken 16 = .ok (.aload_n 0, 1) := by decide +kernel
theorem d_RR_cutToken_17 : decode c_RR_cutToken 17 = .ok (.getfield 82, 3) := by decide +kernel
theorem d_RR_cutToken_20 : decode c_RR_cutToken 20 = .ok (.if_icmp .le 24, 3) := by decide +kernel
theorem d_RR_cutToken_23 : decode c_RR_cutToken 23 = .ok (.aload_n 0, 1) := by decide +kernel
theorem d_RR_cutToken_24 : decode c_RR_cutToken 24 = .ok (.invokevirtual 93, 3) := by decide +kernel
theorem d_RR_cutToken_27 : decode c_RR_cutToken 27 = .ok (.istore_n 2, 1) := by decide +kernel
theorem d_RR_cutToken_28 : decode c_RR_cutToken 28 = .ok (.aload_n 0, 1) := by decide +kernel
theorem d_RR_cutToken_29 : decode c_RR_cutToken 29 = .ok (.iload_n 1, 1) := by decide +kernel
theorem d_RR_cutToken_30 : decode c_RR_cutToken 30 = .ok (.putfield 82, 3) := by decide +kernel
theorem d_RR_cutToken_33 : decode c_RR_cutToken 33 = .ok (.iload_n 2, 1) := by decide +kernel
theorem d_RR_cutToken_34 : decode c_RR_cutToken 34 = .ok (.ifCond .ge 8, 3) := by decide +kernel
theorem d_RR_cutToken_37 : decode c_RR_cutToken 37 = .ok (.bipush (-27), 2) := by decide +kernel
theorem d_RR_cutToken_39 : decode c_RR_cutToken 39 = .ok (.goto 4, 3) := by decide +kernel
theorem d_RR_cutToken_42 : decode c_RR_cutToken 42 = .ok (.iload_n 2, 1) := by decide +kernel
theorem d_RR_cutToken_43 : decode c_RR_cutToken 43 = .ok (.ireturn, 1) := by decide +kernel
theorem d_RR_cutToken_44 : decode c_RR_cutToken 44 = .ok (.aload_n 0, 1) := by decide +kernel
theorem d_RR_cutToken_45 : decode c_RR_cutToken 45 = .ok (.invokevirtual 96, 3) := by decide +kernel
theorem d_RR_cutToken_48 : decode c_RR_cutToken 48 = .ok (.istore_n 2, 1) := by decide +kernel
theorem d_RR_cutToken_49 : decode c_RR_cutToken 49 = .ok (.iload_n 2, 1) := by decide +kernel
theorem d_RR_cutToken_50 : decode c_RR_cutToken 50 = .ok (.aload_n 0, 1) := by decide +kernel
theorem d_RR_cutToken_51 : decode c_RR_cutToken 51 = .ok (.getfield 82, 3) := by decide +kernel
theorem d_RR_cutToken_54 : decode c_RR_cutToken 54 = .ok (.if_icmp .le 16, 3) := by decide +kernel
theorem d_RR_cutToken_57 : decode c_RR_cutToken 57 = .ok (.aload_n 0, 1) := by decide +kernel
theorem d_RR_cutToken_58 : decode c_RR_cutToken 58 = .ok (.iload_n 2, 1) := by decide +kernel
theorem d_RR_cutToken_59 : decode c_RR_cutToken 59 = .ok (.invokestatic 99, 3) := by decide +kernel
theorem d_RR_cutToken_62 : decode c_RR_cutToken 62 = .ok (.istore_n 3, 1) := by decide +kernel
theorem d_RR_cutToken_63 : decode c_RR_cutToken 63 = .ok (.aload_n 0, 1) := by decide +kernel
theorem d_RR_cutToken_64 : decode c_RR_cutToken 64 = .ok (.iload_n 2, 1) := by decide +kernel
theorem d_RR_cutToken_65 : decode c_RR_cutToken 65 = .ok (.putfield 82, 3) := by decide +kernel
theorem d_RR_cutToken_68 : decode c_RR_cutToken 68 = .ok (.iload_n 3, 1) := by decide +kernel
theorem d_RR_cutToken_69 : decode c_RR_cutToken 69 = .ok (.ireturn, 1) := by decide +kernel
theorem d_RR_cutToken_70 : decode c_RR_cutToken 70 = .ok (.aload_n 0, 1) := by decide +kernel
theorem d_RR_cutToken_71 : decode c_RR_cutToken 71 = .ok (.invokestatic 103, 3) := by decide +kernel
theorem d_RR_cutToken_74 : decode c_RR_cutToken 74 = .ok (.ireturn, 1) := by decide +kernel
def S_RR_cutToken_0 (g : Gx) (Q : Int32 → St → Prop) (σ : St) : Prop := Ax g m_RR_cutToken 0 0 (ZI g Q) SH σ 0 0 0 [(0, .ref (gB g + 1))] []
theorem sg_RR_cutToken_0 {g : Gx} {Q : Int32 → St → Prop} {σ : St}
    (h : K_TA_isAtEnd g σ (fun (r2 : Int32) (s1 : St) => (r2 = 0 → K_TA_endOfDigits g s1 (fun (r4 : Int32) (s3 : St) => (r4 ≤ (fi s3 1 2) → K_TA_endOfWord g s3 (fun (r6 : Int32) (s5 : St) => (r6 ≤ (fi s5 1 2) → K_RR_cutSign g s5 (fun (r8 : Int32) (s7 : St) => Q r8 s7)) ∧ (¬ r6 ≤ (fi s5 1 2) → K_RR_wordUpTo g r6 s5 (fun (r10 : Int32) (s9 : St) => ∀ s11 : St, s11 = sfi s9 1 2 r6 → Q r10 s11)))) ∧ (¬ r4 ≤ (fi s3 1 2) → K_TA_readNumber g s3 (fun (r13 : Int32) (s12 : St) => ∀ s14 : St, s14 = sfi s12 1 2 r4 → (0 ≤ r13 → Q r13 s14) ∧ (¬ 0 ≤ r13 → Q (-27 : Int32) s14))))) ∧ (¬ r2 = 0 → Q (-29 : Int32) s1))) : S_RR_cutToken_0 g Q σ := by
  show Ax g m_RR_cutToken 0 0 (ZI g Q) SH σ 0 0 0 [(0, .ref (gB g + 1))] []
  refine a_aload_n (pc := 0) 0 rfl rfl d_RR_cutToken_0 ?_
  refine a_callV (pc := 1) (M' := m_TA_isAtEnd) (As := []) (st := []) (mc' := 0) (ms' := 0) lk_RR_87 rfl sx_1 rfl (by decide) (by decide) rfl (Nat.le_of_ble_eq_true rfl) (Nat.le_refl 0) (Nat.le_refl 0) d_RR_cutToken_1 h ?_
  rintro _ _ s1 ⟨r2, rfl, rfl, h⟩ -
  show Ax g m_RR_cutToken 0 0 (ZI g Q) SH s1 0 0 4 [(0, .ref (gB g + 1))] [.int r2]
  refine a_if_eq (pc := 4) 10 (by decide) d_RR_cutToken_4 ⟨fun c0 => ?_, fun c0 => ?_⟩
  · replace h := h.1 c0
    refine a_aload_n (pc := 10) 0 rfl rfl d_RR_cutToken_10 ?_
    refine a_callV (pc := 11) (M' := m_TA_endOfDigits) (As := []) (st := []) (mc' := 0) (ms' := 0) lk_RR_90 rfl sx_1 rfl (by decide) (by decide) rfl (Nat.le_of_ble_eq_true rfl) (Nat.le_refl 0) (Nat.le_refl 0) d_RR_cutToken_11 h ?_
    rintro _ _ s3 ⟨r4, rfl, rfl, h⟩ -
    show Ax g m_RR_cutToken 0 0 (ZI g Q) SH s3 0 0 14 [(0, .ref (gB g + 1))] [.int r4]
    refine a_istore_n (pc := 14) (lv' := [(1, .int r4), (0, .ref (gB g + 1))]) rfl (Nat.le_of_ble_eq_true rfl) rfl d_RR_cutToken_14 ?_
    refine a_iload_n (pc := 15) 0 rfl rfl d_RR_cutToken_15 ?_
    refine a_aload_n (pc := 16) 1 rfl rfl d_RR_cutToken_16 ?_
    refine a_getI (pc := 17) fg_RR_82 sx_1 rfl d_RR_cutToken_17 ?_
    refine a_icmp_le (pc := 20) 44 (by decide) d_RR_cutToken_20 ⟨fun c0 => ?_, fun c0 => ?_⟩
    · replace h := h.1 c0
      refine a_aload_n (pc := 44) 1 rfl rfl d_RR_cutToken_44 ?_
      refine a_callV (pc := 45) (M' := m_TA_endOfWord) (As := []) (st := []) (mc' := 0) (ms' := 0) lk_RR_96 rfl sx_1 rfl (by decide) (by decide) rfl (Nat.le_of_ble_eq_true rfl) (Nat.le_refl 0) (Nat.le_refl 0) d_RR_cutToken_45 h ?_
      rintro _ _ s5 ⟨r6, rfl, rfl, h⟩ -
      show Ax g m_RR_cutToken 0 0 (ZI g Q) SH s5 0 0 48 [(1, .int r4), (0, .ref (gB g + 1))] [.int r6]
      refine a_istore_n (pc := 48) (lv' := [(2, .int r6), (1, .int r4), (0, .ref (gB g + 1))]) rfl (Nat.le_of_ble_eq_true rfl) rfl d_RR_cutToken_48 ?_
      refine a_iload_n (pc := 49) 0 rfl rfl d_RR_cutToken_49 ?_
      refine a_aload_n (pc := 50) 2 rfl rfl d_RR_cutToken_50 ?_
      refine a_getI (pc := 51) fg_RR_82 sx_1 rfl d_RR_cutToken_51 ?_
      refine a_icmp_le (pc := 54) 70 (by decide) d_RR_cutToken_54 ⟨fun c0 => ?_, fun c0 => ?_⟩
      · replace h := h.1 c0
        refine a_aload_n (pc := 70) 2 rfl rfl d_RR_cutToken_70 ?_
        refine a_callS (pc := 71) (M' := m_RR_cutSign) (As := [.ref (gB g + 1)]) (st := []) (mc' := 0) (ms' := 0) lk_RR_103 rfl (by decide) (by decide) rfl (Nat.le_of_ble_eq_true rfl) (Nat.le_refl 0) (Nat.le_refl 0) d_RR_cutToken_71 h ?_
        rintro _ _ s7 ⟨r8, rfl, rfl, h⟩ -
        show Ax g m_RR_cutToken 0 0 (ZI g Q) SH s7 0 0 74 [(2, .int r6), (1, .int r4), (0, .ref (gB g + 1))] [.int r8]
        exact b_iret (pc := 74) rfl d_RR_cutToken_74 h
      · replace h := h.2 c0
        refine a_aload_n (pc := 57) 2 rfl rfl d_RR_cutToken_57 ?_
        refine a_iload_n (pc := 58) 0 rfl rfl d_RR_cutToken_58 ?_
        refine a_callS (pc := 59) (M' := m_RR_wordUpTo) (As := [.ref (gB g + 1), .int r6]) (st := []) (mc' := 0) (ms' := 0) lk_RR_99 rfl (by decide) (by decide) rfl (Nat.le_of_ble_eq_true rfl) (Nat.le_refl 0) (Nat.le_refl 0) d_RR_cutToken_59 h ?_
        rintro _ _ s9 ⟨r10, rfl, rfl, h⟩ -
        show Ax g m_RR_cutToken 0 0 (ZI g Q) SH s9 0 0 62 [(2, .int r6), (1, .int r4), (0, .ref (gB g + 1))] [.int r10]
        refine a_istore_n (pc := 62) (lv' := [(3, .int r10), (2, .int r6), (1, .int r4), (0, .ref (gB g + 1))]) rfl (Nat.le_of_ble_eq_true rfl) rfl d_RR_cutToken_62 ?_
        refine a_aload_n (pc := 63) 3 rfl rfl d_RR_cutToken_63 ?_
        refine a_iload_n (pc := 64) 1 rfl rfl d_RR_cutToken_64 ?_
        refine a_putI (pc := 65) fp_RR_82 sx_1 rfl d_RR_cutToken_65 ?_
        refine a_nms (fun s11 hs11 => ?_)
        replace h := h s11 hs11
        refine a_iload_n (pc := 68) 0 rfl rfl d_RR_cutToken_68 ?_
        exact b_iret (pc := 69) rfl d_RR_cutToken_69 h
    · replace h := h.2 c0
      refine a_aload_n (pc := 23) 1 rfl rfl d_RR_cutToken_23 ?_
      refine a_callV (pc := 24) (M' := m_TA_readNumber) (As := []) (st := []) (mc' := 0) (ms' := 0) lk_RR_93 rfl sx_1 rfl (by decide) (by decide) rfl (Nat.le_of_ble_eq_true rfl) (Nat.le_refl 0) (Nat.le_refl 0) d_RR_cutToken_24 h ?_
      rintro _ _ s12 ⟨r13, rfl, rfl, h⟩ -
      show Ax g m_RR_cutToken 0 0 (ZI g Q) SH s12 0 0 27 [(1, .int r4), (0, .ref (gB g + 1))] [.int r13]
      refine a_istore_n (pc := 27) (lv' := [(2, .int r13), (1, .int r4), (0, .ref (gB g + 1))]) rfl (Nat.le_of_ble_eq_true rfl) rfl d_RR_cutToken_27 ?_
      refine a_aload_n (pc := 28) 2 rfl rfl d_RR_cutToken_28 ?_
      refine a_iload_n (pc := 29) 1 rfl rfl d_RR_cutToken_29 ?_
      refine a_putI (pc := 30) fp_RR_82 sx_1 rfl d_RR_cutToken_30 ?_
      refine a_nms (fun s14 hs14 => ?_)
      replace h := h s14 hs14
      refine a_iload_n (pc := 33) 0 rfl rfl d_RR_cutToken_33 ?_
      refine a_if_ge (pc := 34) 42 (by decide) d_RR_cutToken_34 ⟨fun c0 => ?_, fun c0 => ?_⟩
      · replace h := h.1 c0
        refine a_iload_n (pc := 42) 0 rfl rfl d_RR_cutToken_42 ?_
        exact b_iret (pc := 43) rfl d_RR_cutToken_43 h
      · replace h := h.2 c0
        refine a_bipush (pc := 37) (-27 : Int32) (by decide) d_RR_cutToken_37 ?_
        refine a_goto (pc := 39) 43 (by decide) d_RR_cutToken_39 ?_
        exact b_iret (pc := 43) rfl d_RR_cutToken_43 h
  · replace h := h.2 c0
    refine a_bipush (pc := 7) (-29 : Int32) (by decide) d_RR_cutToken_7 ?_
    exact b_iret (pc := 9) rfl d_RR_cutToken_9 h
theorem ko_RR_cutToken {g : Gx}  {σ : St} {Q : Int32 → St → Prop} (h : S_RR_cutToken_0 g Q σ) : K_RR_cutToken g  σ Q := KI.of (show plainName "BallBox$RuleReader" = true by decide) (Nat.le_of_ble_eq_true rfl) h
theorem d_RR_wordUpTo_0 : decode c_RR_wordUpTo 0 = .ok (.iload_n 1, 1) := by decide +kernel
theorem d_RR_wordUpTo_1 : decode c_RR_wordUpTo 1 = .ok (.aload_n 0, 1) := by decide +kernel
theorem d_RR_wordUpTo_2 : decode c_RR_wordUpTo 2 = .ok (.getfield 82, 3) := by decide +kernel
theorem d_RR_wordUpTo_5 : decode c_RR_wordUpTo 5 = .ok (.isub, 1) := by decide +kernel
theorem d_RR_wordUpTo_6 : decode c_RR_wordUpTo 6 = .ok (.istore_n 2, 1) := by decide +kernel
theorem d_RR_wordUpTo_7 : decode c_RR_wordUpTo 7 = .ok (.iload_n 2, 1) := by decide +kernel
theorem d_RR_wordUpTo_8 : decode c_RR_wordUpTo 8 = .ok (.iconst 5, 1) := by decide +kernel
theorem d_RR_wordUpTo_9 : decode c_RR_wordUpTo 9 = .ok (.if_icmp .le 6, 3) := by decide +kernel
theorem d_RR_wordUpTo_12 : decode c_RR_wordUpTo 12 = .ok (.bipush (-28), 2) := by decide +kernel
theorem d_RR_wordUpTo_14 : decode c_RR_wordUpTo 14 = .ok (.ireturn, 1) := by decide +kernel
theorem d_RR_wordUpTo_15 : decode c_RR_wordUpTo 15 = .ok (.iconst 0, 1) := by decide +kernel
theorem d_RR_wordUpTo_16 : decode c_RR_wordUpTo 16 = .ok (.istore_n 3, 1) := by decide +kernel
theorem d_RR_wordUpTo_17 : decode c_RR_wordUpTo 17 = .ok (.iload_n 3, 1) := by decide +kernel
theorem d_RR_wordUpTo_18 : decode c_RR_wordUpTo 18 = .ok (.ldc 106, 2) := by decide +kernel
theorem d_RR_wordUpTo_20 : decode c_RR_wordUpTo 20 = .ok (.invokevirtual 108, 3) := by decide +kernel
theorem d_RR_wordUpTo_23 : decode c_RR_wordUpTo 23 = .ok (.if_icmp .ge 77, 3) := by decide +kernel
theorem d_RR_wordUpTo_26 : decode c_RR_wordUpTo 26 = .ok (.iconst 0, 1) := by decide +kernel
theorem d_RR_wordUpTo_27 : decode c_RR_wordUpTo 27 = .ok (.istore 4, 2) := by decide +kernel
theorem d_RR_wordUpTo_29 : decode c_RR_wordUpTo 29 = .ok (.iload 4, 2) := by decide +kernel
theorem d_RR_wordUpTo_31 : decode c_RR_wordUpTo 31 = .ok (.iload_n 2, 1) := by decide +kernel
theorem d_RR_wordUpTo_32 : decode c_RR_wordUpTo 32 = .ok (.if_icmp .ge 32, 3) := by decide +kernel
theorem d_RR_wordUpTo_35 : decode c_RR_wordUpTo 35 = .ok (.ldc 106, 2) := by decide +kernel
theorem d_RR_wordUpTo_37 : decode c_RR_wordUpTo 37 = .ok (.iload_n 3, 1) := by decide +kernel
theorem d_RR_wordUpTo_38 : decode c_RR_wordUpTo 38 = .ok (.iload 4, 2) := by decide +kernel
theorem d_RR_wordUpTo_40 : decode c_RR_wordUpTo 40 = .ok (.iadd, 1) := by decide +kernel
theorem d_RR_wordUpTo_41 : decode c_RR_wordUpTo 41 = .ok (.invokevirtual 113, 3) := by decide +kernel
theorem d_RR_wordUpTo_44 : decode c_RR_wordUpTo 44 = .ok (.aload_n 0, 1) := by decide +kernel
theorem d_RR_wordUpTo_45 : decode c_RR_wordUpTo 45 = .ok (.aload_n 0, 1) := by decide +kernel
theorem d_RR_wordUpTo_46 : decode c_RR_wordUpTo 46 = .ok (.getfield 82, 3) := by decide +kernel
theorem d_RR_wordUpTo_49 : decode c_RR_wordUpTo 49 = .ok (.iload 4, 2) := by decide +kernel
theorem d_RR_wordUpTo_51 : decode c_RR_wordUpTo 51 = .ok (.iadd, 1) := by decide +kernel
theorem d_RR_wordUpTo_52 : decode c_RR_wordUpTo 52 = .ok (.invokevirtual 117, 3) := by decide +kernel
theorem d_RR_wordUpTo_55 : decode c_RR_wordUpTo 55 = .ok (.if_icmp .ne 9, 3) := by decide +kernel
theorem d_RR_wordUpTo_58 : decode c_RR_wordUpTo 58 = .ok (.iinc 4 1, 3) := by decide +kernel
theorem d_RR_wordUpTo_61 : decode c_RR_wordUpTo 61 = .ok (.goto (-32), 3) := by decide +kernel
theorem d_RR_wordUpTo_64 : decode c_RR_wordUpTo 64 = .ok (.iload 4, 2) := by decide +kernel
theorem d_RR_wordUpTo_66 : decode c_RR_wordUpTo 66 = .ok (.iload_n 2, 1) := by decide +kernel
theorem d_RR_wordUpTo_67 : decode c_RR_wordUpTo 67 = .ok (.if_icmp .ne 27, 3) := by decide +kernel
theorem d_RR_wordUpTo_70 : decode c_RR_wordUpTo 70 = .ok (.iload_n 2, 1) := by decide +kernel
theorem d_RR_wordUpTo_71 : decode c_RR_wordUpTo 71 = .ok (.iconst 5, 1) := by decide +kernel
theorem d_RR_wordUpTo_72 : decode c_RR_wordUpTo 72 = .ok (.if_icmp .eq 16, 3) := by decide +kernel
theorem d_RR_wordUpTo_75 : decode c_RR_wordUpTo 75 = .ok (.ldc 106, 2) := by decide +kernel
theorem d_RR_wordUpTo_77 : decode c_RR_wordUpTo 77 = .ok (.iload_n 3, 1) := by decide +kernel
theorem d_RR_wordUpTo_78 : decode c_RR_wordUpTo 78 = .ok (.iload_n 2, 1) := by decide +kernel
theorem d_RR_wordUpTo_79 : decode c_RR_wordUpTo 79 = .ok (.iadd, 1) := by decide +kernel
theorem d_RR_wordUpTo_80 : decode c_RR_wordUpTo 80 = .ok (.invokevirtual 113, 3) := by decide +kernel
theorem d_RR_wordUpTo_83 : decode c_RR_wordUpTo 83 = .ok (.bipush 32, 2) := by decide +kernel
theorem d_RR_wordUpTo_85 : decode c_RR_wordUpTo 85 = .ok (.if_icmp .ne 9, 3) := by decide +kernel
theorem d_RR_wordUpTo_88 : decode c_RR_wordUpTo 88 = .ok (.iconst (-1), 1) := by decide +kernel
theorem d_RR_wordUpTo_89 : decode c_RR_wordUpTo 89 = .ok (.iload_n 3, 1) := by decide +kernel
theorem d_RR_wordUpTo_90 : decode c_RR_wordUpTo 90 = .ok (.iconst 5, 1) := by decide +kernel
theorem d_RR_wordUpTo_91 : decode c_RR_wordUpTo 91 = .ok (.idiv, 1) := by decide +kernel
theorem d_RR_wordUpTo_92 : decode c_RR_wordUpTo 92 = .ok (.isub, 1) := by decide +kernel
theorem d_RR_wordUpTo_93 : decode c_RR_wordUpTo 93 = .ok (.ireturn, 1) := by decide +kernel
theorem d_RR_wordUpTo_94 : decode c_RR_wordUpTo 94 = .ok (.iinc 3 5, 3) := by decide +kernel
theorem d_RR_wordUpTo_97 : decode c_RR_wordUpTo 97 = .ok (.goto (-80), 3) := by decide +kernel
theorem d_RR_wordUpTo_100 : decode c_RR_wordUpTo 100 = .ok (.bipush (-28), 2) := by decide +kernel
theorem d_RR_wordUpTo_102 : decode c_RR_wordUpTo 102 = .ok (.ireturn, 1) := by decide +kernel
def S_RR_wordUpTo_0 (g : Gx) (Q : Int32 → St → Prop) (σ : St) (x1 : Int32) : Prop := Ax g m_RR_wordUpTo 0 0 (ZI g Q) SH σ 0 0 0 [(0, .ref (gB g + 1)), (1, .int x1)] []
def S_RR_wordUpTo_17 (g : Gx) (Q : Int32 → St → Prop) (σ : St) (x2 : Int32) (x3 : Int32) : Prop := Ax g m_RR_wordUpTo 0 0 (ZI g Q) SH σ 0 0 17 [(0, .ref (gB g + 1)), (2, .int x2), (3, .int x3)] []
def S_RR_wordUpTo_29 (g : Gx) (Q : Int32 → St → Prop) (σ : St) (x2 : Int32) (x3 : Int32) (x4 : Int32) : Prop := Ax g m_RR_wordUpTo 0 0 (ZI g Q) SH σ 0 0 29 [(0, .ref (gB g + 1)), (2, .int x2), (3, .int x3), (4, .int x4)] []
def S_RR_wordUpTo_64 (g : Gx) (Q : Int32 → St → Prop) (σ : St) (x2 : Int32) (x3 : Int32) (x4 : Int32) : Prop := Ax g m_RR_wordUpTo 0 0 (ZI g Q) SH σ 0 0 64 [(0, .ref (gB g + 1)), (2, .int x2), (3, .int x3), (4, .int x4)] []
theorem sg_RR_wordUpTo_0 {g : Gx} {Q : Int32 → St → Prop} {σ : St} {x1 : Int32}
    (h : ∀ u1 : Int32, u1 = (x1 - (fi σ 1 2)) → (u1 ≤ (5 : Int32) → S_RR_wordUpTo_17 g Q σ u1 (0 : Int32)) ∧ (¬ u1 ≤ (5 : Int32) → Q (-28 : Int32) σ)) : S_RR_wordUpTo_0 g Q σ x1 := by
  show Ax g m_RR_wordUpTo 0 0 (ZI g Q) SH σ 0 0 0 [(0, .ref (gB g + 1)), (1, .int x1)] []
  refine a_iload_n (pc := 0) 1 rfl rfl d_RR_wordUpTo_0 ?_
  refine a_aload_n (pc := 1) 0 rfl rfl d_RR_wordUpTo_1 ?_
  refine a_getI (pc := 2) fg_RR_82 sx_1 rfl d_RR_wordUpTo_2 ?_
  refine a_isub (pc := 5) d_RR_wordUpTo_5 ?_
  refine a_nmi (pc := 6) (fun u1 hu1 => ?_)
  replace h := h u1 hu1
  refine a_istore_n (pc := 6) (lv' := [(2, .int u1), (0, .ref (gB g + 1)), (1, .int x1)]) rfl (Nat.le_of_ble_eq_true rfl) rfl d_RR_wordUpTo_6 ?_
  refine a_iload_n (pc := 7) 0 rfl rfl d_RR_wordUpTo_7 ?_
  refine a_iconst (pc := 8) (5 : Int32) (by decide) d_RR_wordUpTo_8 ?_
  refine a_icmp_le (pc := 9) 15 (by decide) d_RR_wordUpTo_9 ⟨fun c0 => ?_, fun c0 => ?_⟩
  · replace h := h.1 c0
    refine a_iconst (pc := 15) (0 : Int32) (by decide) d_RR_wordUpTo_15 ?_
    refine a_istore_n (pc := 16) (lv' := [(3, .int (0 : Int32)), (2, .int u1), (0, .ref (gB g + 1)), (1, .int x1)]) rfl (Nat.le_of_ble_eq_true rfl) rfl d_RR_wordUpTo_16 ?_
    refine a_sub (pc := 17) [2, 1, 0] rfl ?_
    exact h
  · replace h := h.2 c0
    refine a_bipush (pc := 12) (-28 : Int32) (by decide) d_RR_wordUpTo_12 ?_
    exact b_iret (pc := 14) rfl d_RR_wordUpTo_14 h
theorem sg_RR_wordUpTo_17 {g : Gx} {Q : Int32 → St → Prop} {σ : St} {x2 : Int32} {x3 : Int32}
    (h : K_JS_length g 2 σ (fun (r2 : Int32) (s1 : St) => (r2 ≤ x3 → Q (-28 : Int32) s1) ∧ (¬ r2 ≤ x3 → S_RR_wordUpTo_29 g Q s1 x2 x3 (0 : Int32)))) : S_RR_wordUpTo_17 g Q σ x2 x3 := by
  show Ax g m_RR_wordUpTo 0 0 (ZI g Q) SH σ 0 0 17 [(0, .ref (gB g + 1)), (2, .int x2), (3, .int x3)] []
  refine a_iload_n (pc := 17) 2 rfl rfl d_RR_wordUpTo_17 ?_
  refine a_ldcS (pc := 18) (own := "BallBox$RuleReader") (idx := 106) (tx := "ball x    y    aheadway  tips home stepsnot  and  or   firstif   ") (w := 2) (by simp [strs]) rfl d_RR_wordUpTo_18 ?_
  refine a_callStr (pc := 20) (w := 2) (M' := m_JS_length) (As := []) (st := [.int x3]) lk_RR_108 rfl rfl (by decide) (by decide) (by decide) rfl (Nat.le_of_ble_eq_true rfl) (Nat.le_refl 0) (Nat.le_refl 0) d_RR_wordUpTo_20 h ?_
  rintro _ _ s1 ⟨r2, rfl, rfl, h⟩ -
  show Ax g m_RR_wordUpTo 0 0 (ZI g Q) SH s1 0 0 23 [(0, .ref (gB g + 1)), (2, .int x2), (3, .int x3)] [.int r2, .int x3]
  refine a_icmp_ge (pc := 23) 100 (by decide) d_RR_wordUpTo_23 ⟨fun c0 => ?_, fun c0 => ?_⟩
  · replace h := h.1 c0
    refine a_bipush (pc := 100) (-28 : Int32) (by decide) d_RR_wordUpTo_100 ?_
    exact b_iret (pc := 102) rfl d_RR_wordUpTo_102 h
  · replace h := h.2 c0
    refine a_iconst (pc := 26) (0 : Int32) (by decide) d_RR_wordUpTo_26 ?_
    refine a_istore (pc := 27) (lv' := [(4, .int (0 : Int32)), (0, .ref (gB g + 1)), (2, .int x2), (3, .int x3)]) (Nat.le_of_ble_eq_true rfl) rfl d_RR_wordUpTo_27 ?_
    refine a_sub (pc := 29) [1, 2, 3, 0] rfl ?_
    exact h
theorem sg_RR_wordUpTo_29 {g : Gx} {Q : Int32 → St → Prop} {σ : St} {x2 : Int32} {x3 : Int32} {x4 : Int32}
    (h : (x2 ≤ x4 → S_RR_wordUpTo_64 g Q σ x2 x3 x4) ∧ (¬ x2 ≤ x4 → K_JS_charAt g 2 (x3 + x4) σ (fun (r2 : Int32) (s1 : St) => K_TA_signAt g ((fi s1 1 2) + x4) s1 (fun (r4 : Int32) (s3 : St) => (¬ r2 = r4 → S_RR_wordUpTo_64 g Q s3 x2 x3 x4) ∧ (r2 = r4 → ∀ u5 : Int32, u5 = x4 + (1 : Int32) → S_RR_wordUpTo_29 g Q s3 x2 x3 u5))))) : S_RR_wordUpTo_29 g Q σ x2 x3 x4 := by
  show Ax g m_RR_wordUpTo 0 0 (ZI g Q) SH σ 0 0 29 [(0, .ref (gB g + 1)), (2, .int x2), (3, .int x3), (4, .int x4)] []
  refine a_iload (pc := 29) 3 rfl d_RR_wordUpTo_29 ?_
  refine a_iload_n (pc := 31) 1 rfl rfl d_RR_wordUpTo_31 ?_
  refine a_icmp_ge (pc := 32) 64 (by decide) d_RR_wordUpTo_32 ⟨fun c0 => ?_, fun c0 => ?_⟩
  · replace h := h.1 c0
    refine a_sub (pc := 64) [0, 1, 2, 3] rfl ?_
    exact h
  · replace h := h.2 c0
    refine a_ldcS (pc := 35) (own := "BallBox$RuleReader") (idx := 106) (tx := "ball x    y    aheadway  tips home stepsnot  and  or   firstif   ") (w := 2) (by simp [strs]) rfl d_RR_wordUpTo_35 ?_
    refine a_iload_n (pc := 37) 2 rfl rfl d_RR_wordUpTo_37 ?_
    refine a_iload (pc := 38) 3 rfl d_RR_wordUpTo_38 ?_
    refine a_iadd (pc := 40) d_RR_wordUpTo_40 ?_
    refine a_callStr (pc := 41) (w := 2) (M' := m_JS_charAt) (As := [.int (x3 + x4)]) (st := []) lk_RR_113 rfl rfl (by decide) (by decide) (by decide) rfl (Nat.le_of_ble_eq_true rfl) (Nat.le_refl 0) (Nat.le_refl 0) d_RR_wordUpTo_41 h ?_
    rintro _ _ s1 ⟨r2, rfl, rfl, h⟩ -
    show Ax g m_RR_wordUpTo 0 0 (ZI g Q) SH s1 0 0 44 [(0, .ref (gB g + 1)), (2, .int x2), (3, .int x3), (4, .int x4)] [.int r2]
    refine a_aload_n (pc := 44) 0 rfl rfl d_RR_wordUpTo_44 ?_
    refine a_aload_n (pc := 45) 0 rfl rfl d_RR_wordUpTo_45 ?_
    refine a_getI (pc := 46) fg_RR_82 sx_1 rfl d_RR_wordUpTo_46 ?_
    refine a_iload (pc := 49) 3 rfl d_RR_wordUpTo_49 ?_
    refine a_iadd (pc := 51) d_RR_wordUpTo_51 ?_
    refine a_callV (pc := 52) (M' := m_TA_signAt) (As := [.int ((fi s1 1 2) + x4)]) (st := [.int r2]) (mc' := 0) (ms' := 0) lk_RR_117 rfl sx_1 rfl (by decide) (by decide) rfl (Nat.le_of_ble_eq_true rfl) (Nat.le_refl 0) (Nat.le_refl 0) d_RR_wordUpTo_52 h ?_
    rintro _ _ s3 ⟨r4, rfl, rfl, h⟩ -
    show Ax g m_RR_wordUpTo 0 0 (ZI g Q) SH s3 0 0 55 [(0, .ref (gB g + 1)), (2, .int x2), (3, .int x3), (4, .int x4)] [.int r4, .int r2]
    refine a_icmp_ne (pc := 55) 64 (by decide) d_RR_wordUpTo_55 ⟨fun c0 => ?_, fun c0 => ?_⟩
    · replace h := h.1 c0
      refine a_sub (pc := 64) [0, 1, 2, 3] rfl ?_
      exact h
    · replace h := h.2 c0
      obtain ⟨u5, hu5⟩ : ∃ y : Int32, y = x4 + (1 : Int32) := ⟨_, rfl⟩
      replace h := h u5 hu5
      refine a_iinc (pc := 58) (v := u5) (lv' := [(4, .int u5), (0, .ref (gB g + 1)), (2, .int x2), (3, .int x3)]) 3 rfl (by rw [hu5]; rfl) (Nat.le_of_ble_eq_true rfl) rfl d_RR_wordUpTo_58 ?_
      refine a_goto (pc := 61) 29 (by decide) d_RR_wordUpTo_61 ?_
      refine a_sub (pc := 29) [1, 2, 3, 0] rfl ?_
      exact h
theorem sg_RR_wordUpTo_64 {g : Gx} {Q : Int32 → St → Prop} {σ : St} {x2 : Int32} {x3 : Int32} {x4 : Int32}
    (h : (¬ x4 = x2 → ∀ u1 : Int32, u1 = x3 + (5 : Int32) → S_RR_wordUpTo_17 g Q σ x2 u1) ∧ (x4 = x2 → (x2 = (5 : Int32) → Q ((-1 : Int32) - (x3 / (5 : Int32))) σ) ∧ (¬ x2 = (5 : Int32) → K_JS_charAt g 2 (x3 + x2) σ (fun (r3 : Int32) (s2 : St) => (¬ r3 = (32 : Int32) → ∀ u4 : Int32, u4 = x3 + (5 : Int32) → S_RR_wordUpTo_17 g Q s2 x2 u4) ∧ (r3 = (32 : Int32) → Q ((-1 : Int32) - (x3 / (5 : Int32))) s2))))) : S_RR_wordUpTo_64 g Q σ x2 x3 x4 := by
  show Ax g m_RR_wordUpTo 0 0 (ZI g Q) SH σ 0 0 64 [(0, .ref (gB g + 1)), (2, .int x2), (3, .int x3), (4, .int x4)] []
  refine a_iload (pc := 64) 3 rfl d_RR_wordUpTo_64 ?_
  refine a_iload_n (pc := 66) 1 rfl rfl d_RR_wordUpTo_66 ?_
  refine a_icmp_ne (pc := 67) 94 (by decide) d_RR_wordUpTo_67 ⟨fun c0 => ?_, fun c0 => ?_⟩
  · replace h := h.1 c0
    obtain ⟨u1, hu1⟩ : ∃ y : Int32, y = x3 + (5 : Int32) := ⟨_, rfl⟩
    replace h := h u1 hu1
    refine a_iinc (pc := 94) (v := u1) (lv' := [(3, .int u1), (0, .ref (gB g + 1)), (2, .int x2), (4, .int x4)]) 2 rfl (by rw [hu1]; rfl) (Nat.le_of_ble_eq_true rfl) rfl d_RR_wordUpTo_94 ?_
    refine a_goto (pc := 97) 17 (by decide) d_RR_wordUpTo_97 ?_
    refine a_sub (pc := 17) [1, 2, 0] rfl ?_
    exact h
  · replace h := h.2 c0
    refine a_iload_n (pc := 70) 1 rfl rfl d_RR_wordUpTo_70 ?_
    refine a_iconst (pc := 71) (5 : Int32) (by decide) d_RR_wordUpTo_71 ?_
    refine a_icmp_eq (pc := 72) 88 (by decide) d_RR_wordUpTo_72 ⟨fun c0 => ?_, fun c0 => ?_⟩
    · replace h := h.1 c0
      refine a_iconst (pc := 88) (-1 : Int32) (by decide) d_RR_wordUpTo_88 ?_
      refine a_iload_n (pc := 89) 2 rfl rfl d_RR_wordUpTo_89 ?_
      refine a_iconst (pc := 90) (5 : Int32) (by decide) d_RR_wordUpTo_90 ?_
      refine a_idiv (pc := 91) (by decide) d_RR_wordUpTo_91 ?_
      refine a_isub (pc := 92) d_RR_wordUpTo_92 ?_
      exact b_iret (pc := 93) rfl d_RR_wordUpTo_93 h
    · replace h := h.2 c0
      refine a_ldcS (pc := 75) (own := "BallBox$RuleReader") (idx := 106) (tx := "ball x    y    aheadway  tips home stepsnot  and  or   firstif   ") (w := 2) (by simp [strs]) rfl d_RR_wordUpTo_75 ?_
      refine a_iload_n (pc := 77) 2 rfl rfl d_RR_wordUpTo_77 ?_
      refine a_iload_n (pc := 78) 1 rfl rfl d_RR_wordUpTo_78 ?_
      refine a_iadd (pc := 79) d_RR_wordUpTo_79 ?_
      refine a_callStr (pc := 80) (w := 2) (M' := m_JS_charAt) (As := [.int (x3 + x2)]) (st := []) lk_RR_113 rfl rfl (by decide) (by decide) (by decide) rfl (Nat.le_of_ble_eq_true rfl) (Nat.le_refl 0) (Nat.le_refl 0) d_RR_wordUpTo_80 h ?_
      rintro _ _ s2 ⟨r3, rfl, rfl, h⟩ -
      show Ax g m_RR_wordUpTo 0 0 (ZI g Q) SH s2 0 0 83 [(0, .ref (gB g + 1)), (2, .int x2), (3, .int x3), (4, .int x4)] [.int r3]
      refine a_bipush (pc := 83) (32 : Int32) (by decide) d_RR_wordUpTo_83 ?_
      refine a_icmp_ne (pc := 85) 94 (by decide) d_RR_wordUpTo_85 ⟨fun c0 => ?_, fun c0 => ?_⟩
      · replace h := h.1 c0
        obtain ⟨u4, hu4⟩ : ∃ y : Int32, y = x3 + (5 : Int32) := ⟨_, rfl⟩
        replace h := h u4 hu4
        refine a_iinc (pc := 94) (v := u4) (lv' := [(3, .int u4), (0, .ref (gB g + 1)), (2, .int x2), (4, .int x4)]) 2 rfl (by rw [hu4]; rfl) (Nat.le_of_ble_eq_true rfl) rfl d_RR_wordUpTo_94 ?_
        refine a_goto (pc := 97) 17 (by decide) d_RR_wordUpTo_97 ?_
        refine a_sub (pc := 17) [1, 2, 0] rfl ?_
        exact h
      · replace h := h.2 c0
        refine a_iconst (pc := 88) (-1 : Int32) (by decide) d_RR_wordUpTo_88 ?_
        refine a_iload_n (pc := 89) 2 rfl rfl d_RR_wordUpTo_89 ?_
        refine a_iconst (pc := 90) (5 : Int32) (by decide) d_RR_wordUpTo_90 ?_
        refine a_idiv (pc := 91) (by decide) d_RR_wordUpTo_91 ?_
        refine a_isub (pc := 92) d_RR_wordUpTo_92 ?_
        exact b_iret (pc := 93) rfl d_RR_wordUpTo_93 h
theorem ko_RR_wordUpTo {g : Gx}  {x1 : Int32} {σ : St} {Q : Int32 → St → Prop} (h : S_RR_wordUpTo_0 g Q σ x1) : K_RR_wordUpTo g x1 σ Q := KI.of (show plainName "BallBox$RuleReader" = true by decide) (Nat.le_of_ble_eq_true rfl) h
theorem d_RR_cutSign_0 : decode c_RR_cutSign 0 = .ok (.aload_n 0, 1) := by decide +kernel
theorem d_RR_cutSign_1 : decode c_RR_cutSign 1 = .ok (.aload_n 0, 1) := by decide +kernel
theorem d_RR_cutSign_2 : decode c_RR_cutSign 2 = .ok (.getfield 82, 3) := by decide +kernel
theorem d_RR_cutSign_5 : decode c_RR_cutSign 5 = .ok (.invokevirtual 117, 3) := by decide +kernel
theorem d_RR_cutSign_8 : decode c_RR_cutSign 8 = .ok (.istore_n 1, 1) := by decide +kernel
theorem d_RR_cutSign_9 : decode c_RR_cutSign 9 = .ok (.ldc 121, 2) := by decide +kernel
theorem d_RR_cutSign_11 : decode c_RR_cutSign 11 = .ok (.iload_n 1, 1) := by decide +kernel
theorem d_RR_cutSign_12 : decode c_RR_cutSign 12 = .ok (.i2c, 1) := by decide +kernel
theorem d_RR_cutSign_13 : decode c_RR_cutSign 13 = .ok (.invokevirtual 123, 3) := by decide +kernel
theorem d_RR_cutSign_16 : decode c_RR_cutSign 16 = .ok (.istore_n 2, 1) := by decide +kernel
theorem d_RR_cutSign_17 : decode c_RR_cutSign 17 = .ok (.aload_n 0, 1) := by decide +kernel
theorem d_RR_cutSign_18 : decode c_RR_cutSign 18 = .ok (.dup, 1) := by decide +kernel
theorem d_RR_cutSign_19 : decode c_RR_cutSign 19 = .ok (.getfield 82, 3) := by decide +kernel
theorem d_RR_cutSign_22 : decode c_RR_cutSign 22 = .ok (.iconst 1, 1) := by decide +kernel
theorem d_RR_cutSign_23 : decode c_RR_cutSign 23 = .ok (.iadd, 1) := by decide +kernel
theorem d_RR_cutSign_24 : decode c_RR_cutSign 24 = .ok (.putfield 82, 3) := by decide +kernel
theorem d_RR_cutSign_27 : decode c_RR_cutSign 27 = .ok (.iload_n 2, 1) := by decide +kernel
theorem d_RR_cutSign_28 : decode c_RR_cutSign 28 = .ok (.ifCond .ge 6, 3) := by decide +kernel
theorem d_RR_cutSign_31 : decode c_RR_cutSign 31 = .ok (.bipush (-28), 2) := by decide +kernel
theorem d_RR_cutSign_33 : decode c_RR_cutSign 33 = .ok (.ireturn, 1) := by decide +kernel
theorem d_RR_cutSign_34 : decode c_RR_cutSign 34 = .ok (.aload_n 0, 1) := by decide +kernel
theorem d_RR_cutSign_35 : decode c_RR_cutSign 35 = .ok (.aload_n 0, 1) := by decide +kernel
theorem d_RR_cutSign_36 : decode c_RR_cutSign 36 = .ok (.getfield 82, 3) := by decide +kernel
theorem d_RR_cutSign_39 : decode c_RR_cutSign 39 = .ok (.invokevirtual 117, 3) := by decide +kernel
theorem d_RR_cutSign_42 : decode c_RR_cutSign 42 = .ok (.bipush 61, 2) := by decide +kernel
theorem d_RR_cutSign_44 : decode c_RR_cutSign 44 = .ok (.if_icmp .ne 7, 3) := by decide +kernel
theorem d_RR_cutSign_47 : decode c_RR_cutSign 47 = .ok (.iconst 1, 1) := by decide +kernel
theorem d_RR_cutSign_48 : decode c_RR_cutSign 48 = .ok (.goto 4, 3) := by decide +kernel
theorem d_RR_cutSign_51 : decode c_RR_cutSign 51 = .ok (.iconst 0, 1) := by decide +kernel
theorem d_RR_cutSign_52 : decode c_RR_cutSign 52 = .ok (.istore_n 3, 1) := by decide +kernel
theorem d_RR_cutSign_53 : decode c_RR_cutSign 53 = .ok (.iload_n 3, 1) := by decide +kernel
theorem d_RR_cutSign_54 : decode c_RR_cutSign 54 = .ok (.ifCond .eq 39, 3) := by decide +kernel
theorem d_RR_cutSign_57 : decode c_RR_cutSign 57 = .ok (.iload_n 1, 1) := by decide +kernel
theorem d_RR_cutSign_58 : decode c_RR_cutSign 58 = .ok (.bipush 60, 2) := by decide +kernel
theorem d_RR_cutSign_60 : decode c_RR_cutSign 60 = .ok (.if_icmp .eq 9, 3) := by decide +kernel
theorem d_RR_cutSign_63 : decode c_RR_cutSign 63 = .ok (.iload_n 1, 1) := by decide +kernel
theorem d_RR_cutSign_64 : decode c_RR_cutSign 64 = .ok (.bipush 62, 2) := by decide +kernel
theorem d_RR_cutSign_66 : decode c_RR_cutSign 66 = .ok (.if_icmp .ne 27, 3) := by decide +kernel
theorem d_RR_cutSign_69 : decode c_RR_cutSign 69 = .ok (.aload_n 0, 1) := by decide +kernel
theorem d_RR_cutSign_70 : decode c_RR_cutSign 70 = .ok (.dup, 1) := by decide +kernel
theorem d_RR_cutSign_71 : decode c_RR_cutSign 71 = .ok (.getfield 82, 3) := by decide +kernel
theorem d_RR_cutSign_74 : decode c_RR_cutSign 74 = .ok (.iconst 1, 1) := by decide +kernel
theorem d_RR_cutSign_75 : decode c_RR_cutSign 75 = .ok (.iadd, 1) := by decide +kernel
theorem d_RR_cutSign_76 : decode c_RR_cutSign 76 = .ok (.putfield 82, 3) := by decide +kernel
theorem d_RR_cutSign_79 : decode c_RR_cutSign 79 = .ok (.iload_n 1, 1) := by decide +kernel
theorem d_RR_cutSign_80 : decode c_RR_cutSign 80 = .ok (.bipush 60, 2) := by decide +kernel
theorem d_RR_cutSign_82 : decode c_RR_cutSign 82 = .ok (.if_icmp .ne 8, 3) := by decide +kernel
theorem d_RR_cutSign_85 : decode c_RR_cutSign 85 = .ok (.bipush (-25), 2) := by decide +kernel
theorem d_RR_cutSign_87 : decode c_RR_cutSign 87 = .ok (.goto 5, 3) := by decide +kernel
theorem d_RR_cutSign_90 : decode c_RR_cutSign 90 = .ok (.bipush (-26), 2) := by decide +kernel
theorem d_RR_cutSign_92 : decode c_RR_cutSign 92 = .ok (.ireturn, 1) := by decide +kernel
theorem d_RR_cutSign_93 : decode c_RR_cutSign 93 = .ok (.bipush (-14), 2) := by decide +kernel
theorem d_RR_cutSign_95 : decode c_RR_cutSign 95 = .ok (.iload_n 2, 1) := by decide +kernel
theorem d_RR_cutSign_96 : decode c_RR_cutSign 96 = .ok (.isub, 1) := by decide +kernel
theorem d_RR_cutSign_97 : decode c_RR_cutSign 97 = .ok (.ireturn, 1) := by decide +kernel
def S_RR_cutSign_0 (g : Gx) (Q : Int32 → St → Prop) (σ : St) : Prop := Ax g m_RR_cutSign 0 0 (ZI g Q) SH σ 0 0 0 [(0, .ref (gB g + 1))] []
def S_RR_cutSign_52 (g : Gx) (Q : Int32 → St → Prop) (σ : St) (x1 : Int32) (x2 : Int32) (z0 : Int32) : Prop := Ax g m_RR_cutSign 0 0 (ZI g Q) SH σ 0 0 52 [(0, .ref (gB g + 1)), (1, .int x1), (2, .int x2)] [.int z0]
theorem sg_RR_cutSign_0 {g : Gx} {Q : Int32 → St → Prop} {σ : St}
    (h : K_TA_signAt g (fi σ 1 2) σ (fun (r2 : Int32) (s1 : St) => K_JS_indexOf g 3 (((r2).toUInt32 % 65536).toInt32) s1 (fun (r4 : Int32) (s3 : St) => ∀ s5 : St, s5 = sfi s3 1 2 ((fi s3 1 2) + (1 : Int32)) → (0 ≤ r4 → K_TA_signAt g (fi s5 1 2) s5 (fun (r7 : Int32) (s6 : St) => (¬ r7 = (61 : Int32) → S_RR_cutSign_52 g Q s6 r2 r4 (0 : Int32)) ∧ (r7 = (61 : Int32) → S_RR_cutSign_52 g Q s6 r2 r4 (1 : Int32)))) ∧ (¬ 0 ≤ r4 → Q (-28 : Int32) s5)))) : S_RR_cutSign_0 g Q σ := by
  show Ax g m_RR_cutSign 0 0 (ZI g Q) SH σ 0 0 0 [(0, .ref (gB g + 1))] []
  refine a_aload_n (pc := 0) 0 rfl rfl d_RR_cutSign_0 ?_
  refine a_aload_n (pc := 1) 0 rfl rfl d_RR_cutSign_1 ?_
  refine a_getI (pc := 2) fg_RR_82 sx_1 rfl d_RR_cutSign_2 ?_
  refine a_callV (pc := 5) (M' := m_TA_signAt) (As := [.int (fi σ 1 2)]) (st := []) (mc' := 0) (ms' := 0) lk_RR_117 rfl sx_1 rfl (by decide) (by decide) rfl (Nat.le_of_ble_eq_true rfl) (Nat.le_refl 0) (Nat.le_refl 0) d_RR_cutSign_5 h ?_
  rintro _ _ s1 ⟨r2, rfl, rfl, h⟩ -
  show Ax g m_RR_cutSign 0 0 (ZI g Q) SH s1 0 0 8 [(0, .ref (gB g + 1))] [.int r2]
  refine a_istore_n (pc := 8) (lv' := [(1, .int r2), (0, .ref (gB g + 1))]) rfl (Nat.le_of_ble_eq_true rfl) rfl d_RR_cutSign_8 ?_
  refine a_ldcS (pc := 9) (own := "BallBox$RuleReader") (idx := 121) (tx := "+-*/%<=>;[]") (w := 3) (by simp [strs]) rfl d_RR_cutSign_9 ?_
  refine a_iload_n (pc := 11) 0 rfl rfl d_RR_cutSign_11 ?_
  refine a_i2c (pc := 12) d_RR_cutSign_12 ?_
  refine a_callStr (pc := 13) (w := 3) (M' := m_JS_indexOf) (As := [.int (((r2).toUInt32 % 65536).toInt32)]) (st := []) lk_RR_123 rfl rfl (by decide) (by decide) (by decide) rfl (Nat.le_of_ble_eq_true rfl) (Nat.le_refl 0) (Nat.le_refl 0) d_RR_cutSign_13 h ?_
  rintro _ _ s3 ⟨r4, rfl, rfl, h⟩ -
  show Ax g m_RR_cutSign 0 0 (ZI g Q) SH s3 0 0 16 [(1, .int r2), (0, .ref (gB g + 1))] [.int r4]
  refine a_istore_n (pc := 16) (lv' := [(2, .int r4), (1, .int r2), (0, .ref (gB g + 1))]) rfl (Nat.le_of_ble_eq_true rfl) rfl d_RR_cutSign_16 ?_
  refine a_aload_n (pc := 17) 2 rfl rfl d_RR_cutSign_17 ?_
  refine a_dup (pc := 18) rfl d_RR_cutSign_18 ?_
  refine a_getI (pc := 19) fg_RR_82 sx_1 rfl d_RR_cutSign_19 ?_
  refine a_iconst (pc := 22) (1 : Int32) (by decide) d_RR_cutSign_22 ?_
  refine a_iadd (pc := 23) d_RR_cutSign_23 ?_
  refine a_putI (pc := 24) fp_RR_82 sx_1 rfl d_RR_cutSign_24 ?_
  refine a_nms (fun s5 hs5 => ?_)
  replace h := h s5 hs5
  refine a_iload_n (pc := 27) 0 rfl rfl d_RR_cutSign_27 ?_
  refine a_if_ge (pc := 28) 34 (by decide) d_RR_cutSign_28 ⟨fun c0 => ?_, fun c0 => ?_⟩
  · replace h := h.1 c0
    refine a_aload_n (pc := 34) 2 rfl rfl d_RR_cutSign_34 ?_
    refine a_aload_n (pc := 35) 2 rfl rfl d_RR_cutSign_35 ?_
    refine a_getI (pc := 36) fg_RR_82 sx_1 rfl d_RR_cutSign_36 ?_
    refine a_callV (pc := 39) (M' := m_TA_signAt) (As := [.int (fi s5 1 2)]) (st := []) (mc' := 0) (ms' := 0) lk_RR_117 rfl sx_1 rfl (by decide) (by decide) rfl (Nat.le_of_ble_eq_true rfl) (Nat.le_refl 0) (Nat.le_refl 0) d_RR_cutSign_39 h ?_
    rintro _ _ s6 ⟨r7, rfl, rfl, h⟩ -
    show Ax g m_RR_cutSign 0 0 (ZI g Q) SH s6 0 0 42 [(2, .int r4), (1, .int r2), (0, .ref (gB g + 1))] [.int r7]
    refine a_bipush (pc := 42) (61 : Int32) (by decide) d_RR_cutSign_42 ?_
    refine a_icmp_ne (pc := 44) 51 (by decide) d_RR_cutSign_44 ⟨fun c0 => ?_, fun c0 => ?_⟩
    · replace h := h.1 c0
      refine a_iconst (pc := 51) (0 : Int32) (by decide) d_RR_cutSign_51 ?_
      refine a_sub (pc := 52) [2, 1, 0] rfl ?_
      exact h
    · replace h := h.2 c0
      refine a_iconst (pc := 47) (1 : Int32) (by decide) d_RR_cutSign_47 ?_
      refine a_goto (pc := 48) 52 (by decide) d_RR_cutSign_48 ?_
      refine a_sub (pc := 52) [2, 1, 0] rfl ?_
      exact h
  · replace h := h.2 c0
    refine a_bipush (pc := 31) (-28 : Int32) (by decide) d_RR_cutSign_31 ?_
    exact b_iret (pc := 33) rfl d_RR_cutSign_33 h
theorem sg_RR_cutSign_52 {g : Gx} {Q : Int32 → St → Prop} {σ : St} {x1 : Int32} {x2 : Int32} {z0 : Int32}
    (h : (z0 = 0 → Q ((-14 : Int32) - x2) σ) ∧ (¬ z0 = 0 → (x1 = (60 : Int32) → ∀ s1 : St, s1 = sfi σ 1 2 ((fi σ 1 2) + (1 : Int32)) → (¬ x1 = (60 : Int32) → Q (-26 : Int32) s1) ∧ (x1 = (60 : Int32) → Q (-25 : Int32) s1)) ∧ (¬ x1 = (60 : Int32) → (¬ x1 = (62 : Int32) → Q ((-14 : Int32) - x2) σ) ∧ (x1 = (62 : Int32) → ∀ s2 : St, s2 = sfi σ 1 2 ((fi σ 1 2) + (1 : Int32)) → (¬ x1 = (60 : Int32) → Q (-26 : Int32) s2) ∧ (x1 = (60 : Int32) → Q (-25 : Int32) s2))))) : S_RR_cutSign_52 g Q σ x1 x2 z0 := by
  show Ax g m_RR_cutSign 0 0 (ZI g Q) SH σ 0 0 52 [(0, .ref (gB g + 1)), (1, .int x1), (2, .int x2)] [.int z0]
  refine a_istore_n (pc := 52) (lv' := [(3, .int z0), (0, .ref (gB g + 1)), (1, .int x1), (2, .int x2)]) rfl (Nat.le_of_ble_eq_true rfl) rfl d_RR_cutSign_52 ?_
  refine a_iload_n (pc := 53) 0 rfl rfl d_RR_cutSign_53 ?_
  refine a_if_eq (pc := 54) 93 (by decide) d_RR_cutSign_54 ⟨fun c0 => ?_, fun c0 => ?_⟩
  · replace h := h.1 c0
    refine a_bipush (pc := 93) (-14 : Int32) (by decide) d_RR_cutSign_93 ?_
    refine a_iload_n (pc := 95) 3 rfl rfl d_RR_cutSign_95 ?_
    refine a_isub (pc := 96) d_RR_cutSign_96 ?_
    exact b_iret (pc := 97) rfl d_RR_cutSign_97 h
  · replace h := h.2 c0
    refine a_iload_n (pc := 57) 2 rfl rfl d_RR_cutSign_57 ?_
    refine a_bipush (pc := 58) (60 : Int32) (by decide) d_RR_cutSign_58 ?_
    refine a_icmp_eq (pc := 60) 69 (by decide) d_RR_cutSign_60 ⟨fun c0 => ?_, fun c0 => ?_⟩
    · replace h := h.1 c0
      refine a_aload_n (pc := 69) 1 rfl rfl d_RR_cutSign_69 ?_
      refine a_dup (pc := 70) rfl d_RR_cutSign_70 ?_
      refine a_getI (pc := 71) fg_RR_82 sx_1 rfl d_RR_cutSign_71 ?_
      refine a_iconst (pc := 74) (1 : Int32) (by decide) d_RR_cutSign_74 ?_
      refine a_iadd (pc := 75) d_RR_cutSign_75 ?_
      refine a_putI (pc := 76) fp_RR_82 sx_1 rfl d_RR_cutSign_76 ?_
      refine a_nms (fun s1 hs1 => ?_)
      replace h := h s1 hs1
      refine a_iload_n (pc := 79) 2 rfl rfl d_RR_cutSign_79 ?_
      refine a_bipush (pc := 80) (60 : Int32) (by decide) d_RR_cutSign_80 ?_
      refine a_icmp_ne (pc := 82) 90 (by decide) d_RR_cutSign_82 ⟨fun c0 => ?_, fun c0 => ?_⟩
      · replace h := h.1 c0
        refine a_bipush (pc := 90) (-26 : Int32) (by decide) d_RR_cutSign_90 ?_
        exact b_iret (pc := 92) rfl d_RR_cutSign_92 h
      · replace h := h.2 c0
        refine a_bipush (pc := 85) (-25 : Int32) (by decide) d_RR_cutSign_85 ?_
        refine a_goto (pc := 87) 92 (by decide) d_RR_cutSign_87 ?_
        exact b_iret (pc := 92) rfl d_RR_cutSign_92 h
    · replace h := h.2 c0
      refine a_iload_n (pc := 63) 2 rfl rfl d_RR_cutSign_63 ?_
      refine a_bipush (pc := 64) (62 : Int32) (by decide) d_RR_cutSign_64 ?_
      refine a_icmp_ne (pc := 66) 93 (by decide) d_RR_cutSign_66 ⟨fun c0 => ?_, fun c0 => ?_⟩
      · replace h := h.1 c0
        refine a_bipush (pc := 93) (-14 : Int32) (by decide) d_RR_cutSign_93 ?_
        refine a_iload_n (pc := 95) 3 rfl rfl d_RR_cutSign_95 ?_
        refine a_isub (pc := 96) d_RR_cutSign_96 ?_
        exact b_iret (pc := 97) rfl d_RR_cutSign_97 h
      · replace h := h.2 c0
        refine a_aload_n (pc := 69) 1 rfl rfl d_RR_cutSign_69 ?_
        refine a_dup (pc := 70) rfl d_RR_cutSign_70 ?_
        refine a_getI (pc := 71) fg_RR_82 sx_1 rfl d_RR_cutSign_71 ?_
        refine a_iconst (pc := 74) (1 : Int32) (by decide) d_RR_cutSign_74 ?_
        refine a_iadd (pc := 75) d_RR_cutSign_75 ?_
        refine a_putI (pc := 76) fp_RR_82 sx_1 rfl d_RR_cutSign_76 ?_
        refine a_nms (fun s2 hs2 => ?_)
        replace h := h s2 hs2
        refine a_iload_n (pc := 79) 2 rfl rfl d_RR_cutSign_79 ?_
        refine a_bipush (pc := 80) (60 : Int32) (by decide) d_RR_cutSign_80 ?_
        refine a_icmp_ne (pc := 82) 90 (by decide) d_RR_cutSign_82 ⟨fun c0 => ?_, fun c0 => ?_⟩
        · replace h := h.1 c0
          refine a_bipush (pc := 90) (-26 : Int32) (by decide) d_RR_cutSign_90 ?_
          exact b_iret (pc := 92) rfl d_RR_cutSign_92 h
        · replace h := h.2 c0
          refine a_bipush (pc := 85) (-25 : Int32) (by decide) d_RR_cutSign_85 ?_
          refine a_goto (pc := 87) 92 (by decide) d_RR_cutSign_87 ?_
          exact b_iret (pc := 92) rfl d_RR_cutSign_92 h
theorem ko_RR_cutSign {g : Gx}  {σ : St} {Q : Int32 → St → Prop} (h : S_RR_cutSign_0 g Q σ) : K_RR_cutSign g  σ Q := KI.of (show plainName "BallBox$RuleReader" = true by decide) (Nat.le_of_ble_eq_true rfl) h
theorem d_RR_tokenHere_0 : decode c_RR_tokenHere 0 = .ok (.aload_n 0, 1) := by decide +kernel
theorem d_RR_tokenHere_1 : decode c_RR_tokenHere 1 = .ok (.getfield 32, 3) := by decide +kernel
theorem d_RR_tokenHere_4 : decode c_RR_tokenHere 4 = .ok (.aload_n 0, 1) := by decide +kernel
theorem d_RR_tokenHere_5 : decode c_RR_tokenHere 5 = .ok (.getfield 76, 3) := by decide +kernel
theorem d_RR_tokenHere_8 : decode c_RR_tokenHere 8 = .ok (.if_icmp .ge 15, 3) := by decide +kernel
theorem d_RR_tokenHere_11 : decode c_RR_tokenHere 11 = .ok (.aload_n 0, 1) := by decide +kernel
theorem d_RR_tokenHere_12 : decode c_RR_tokenHere 12 = .ok (.getfield 11, 3) := by decide +kernel
theorem d_RR_tokenHere_15 : decode c_RR_tokenHere 15 = .ok (.aload_n 0, 1) := by decide +kernel
theorem d_RR_tokenHere_16 : decode c_RR_tokenHere 16 = .ok (.getfield 32, 3) := by decide +kernel
theorem d_RR_tokenHere_19 : decode c_RR_tokenHere 19 = .ok (.iaload, 1) := by decide +kernel
theorem d_RR_tokenHere_20 : decode c_RR_tokenHere 20 = .ok (.goto 5, 3) := by decide +kernel
theorem d_RR_tokenHere_23 : decode c_RR_tokenHere 23 = .ok (.bipush (-29), 2) := by decide +kernel
theorem d_RR_tokenHere_25 : decode c_RR_tokenHere 25 = .ok (.ireturn, 1) := by decide +kernel
def S_RR_tokenHere_0 (g : Gx) (Q : Int32 → St → Prop) (σ : St) : Prop := Ax g m_RR_tokenHere 0 0 (ZI g Q) SH σ 0 0 0 [(0, .ref (gB g + 9))] []
theorem sg_RR_tokenHere_0 {g : Gx} {Q : Int32 → St → Prop} {σ : St}
    (h : ((fi σ 9 2) ≤ (fi σ 9 3) → Q (-29 : Int32) σ) ∧ (¬ (fi σ 9 2) ≤ (fi σ 9 3) → vp_in (fi σ 9 3) 401 ∧ (Q (ai σ 10 ((fi σ 9 3)).toNatClampNeg) σ))) : S_RR_tokenHere_0 g Q σ := by
  show Ax g m_RR_tokenHere 0 0 (ZI g Q) SH σ 0 0 0 [(0, .ref (gB g + 9))] []
  refine a_aload_n (pc := 0) 0 rfl rfl d_RR_tokenHere_0 ?_
  refine a_getI (pc := 1) fg_RR_32 sx_9 rfl d_RR_tokenHere_1 ?_
  refine a_aload_n (pc := 4) 0 rfl rfl d_RR_tokenHere_4 ?_
  refine a_getI (pc := 5) fg_RR_76 sx_9 rfl d_RR_tokenHere_5 ?_
  refine a_icmp_ge (pc := 8) 23 (by decide) d_RR_tokenHere_8 ⟨fun c0 => ?_, fun c0 => ?_⟩
  · replace h := h.1 c0
    refine a_bipush (pc := 23) (-29 : Int32) (by decide) d_RR_tokenHere_23 ?_
    exact b_iret (pc := 25) rfl d_RR_tokenHere_25 h
  · replace h := h.2 c0
    refine a_aload_n (pc := 11) 0 rfl rfl d_RR_tokenHere_11 ?_
    refine a_getR (pc := 12) fg_RR_11 sx_9 rfl d_RR_tokenHere_12 ?_
    refine a_aload_n (pc := 15) 0 rfl rfl d_RR_tokenHere_15 ?_
    refine a_getI (pc := 16) fg_RR_32 sx_9 rfl d_RR_tokenHere_16 ?_
    obtain ⟨hx, h⟩ := h
    refine a_iald (pc := 19) sx_10 hx d_RR_tokenHere_19 ?_
    refine a_goto (pc := 20) 25 (by decide) d_RR_tokenHere_20 ?_
    exact b_iret (pc := 25) rfl d_RR_tokenHere_25 h
theorem ko_RR_tokenHere {g : Gx}  {σ : St} {Q : Int32 → St → Prop} (h : S_RR_tokenHere_0 g Q σ) : K_RR_tokenHere g  σ Q := KI.of (show plainName "BallBox$RuleReader" = true by decide) (Nat.le_of_ble_eq_true rfl) h
theorem d_RR_blame_0 : decode c_RR_blame 0 = .ok (.aload_n 0, 1) := by decide +kernel
theorem d_RR_blame_1 : decode c_RR_blame 1 = .ok (.getfield 39, 3) := by decide +kernel
theorem d_RR_blame_4 : decode c_RR_blame 4 = .ok (.ifCond .ne 34, 3) := by decide +kernel
theorem d_RR_blame_7 : decode c_RR_blame 7 = .ok (.aload_n 0, 1) := by decide +kernel
theorem d_RR_blame_8 : decode c_RR_blame 8 = .ok (.getfield 32, 3) := by decide +kernel
theorem d_RR_blame_11 : decode c_RR_blame 11 = .ok (.aload_n 0, 1) := by decide +kernel
theorem d_RR_blame_12 : decode c_RR_blame 12 = .ok (.getfield 76, 3) := by decide +kernel
theorem d_RR_blame_15 : decode c_RR_blame 15 = .ok (.if_icmp .ge 23, 3) := by decide +kernel
theorem d_RR_blame_18 : decode c_RR_blame 18 = .ok (.aload_n 0, 1) := by decide +kernel
theorem d_RR_blame_19 : decode c_RR_blame 19 = .ok (.iconst 1, 1) := by decide +kernel
theorem d_RR_blame_20 : decode c_RR_blame 20 = .ok (.bipush 8, 2) := by decide +kernel
theorem d_RR_blame_22 : decode c_RR_blame 22 = .ok (.aload_n 0, 1) := by decide +kernel
theorem d_RR_blame_23 : decode c_RR_blame 23 = .ok (.getfield 15, 3) := by decide +kernel
theorem d_RR_blame_26 : decode c_RR_blame 26 = .ok (.aload_n 0, 1) := by decide +kernel
theorem d_RR_blame_27 : decode c_RR_blame 27 = .ok (.getfield 32, 3) := by decide +kernel
theorem d_RR_blame_30 : decode c_RR_blame 30 = .ok (.iaload, 1) := by decide +kernel
theorem d_RR_blame_31 : decode c_RR_blame 31 = .ok (.imul, 1) := by decide +kernel
theorem d_RR_blame_32 : decode c_RR_blame 32 = .ok (.iadd, 1) := by decide +kernel
theorem d_RR_blame_33 : decode c_RR_blame 33 = .ok (.iload_n 1, 1) := by decide +kernel
theorem d_RR_blame_34 : decode c_RR_blame 34 = .ok (.iadd, 1) := by decide +kernel
theorem d_RR_blame_35 : decode c_RR_blame 35 = .ok (.putfield 39, 3) := by decide +kernel
theorem d_RR_blame_38 : decode c_RR_blame 38 = .ok (.iconst 0, 1) := by decide +kernel
theorem d_RR_blame_39 : decode c_RR_blame 39 = .ok (.ireturn, 1) := by decide +kernel
def S_RR_blame_0 (g : Gx) (Q : Int32 → St → Prop) (σ : St) (x1 : Int32) : Prop := Ax g m_RR_blame 0 0 (ZI g Q) SH σ 0 0 0 [(0, .ref (gB g + 9)), (1, .int x1)] []
theorem sg_RR_blame_0 {g : Gx} {Q : Int32 → St → Prop} {σ : St} {x1 : Int32}
    (h : (¬ (fi σ 9 5) = 0 → Q (0 : Int32) σ) ∧ ((fi σ 9 5) = 0 → ((fi σ 9 2) ≤ (fi σ 9 3) → Q (0 : Int32) σ) ∧ (¬ (fi σ 9 2) ≤ (fi σ 9 3) → vp_in (fi σ 9 3) 401 ∧ (∀ s1 : St, s1 = sfi σ 9 5 (((1 : Int32) + ((8 : Int32) * (ai σ 11 ((fi σ 9 3)).toNatClampNeg))) + x1) → Q (0 : Int32) s1)))) : S_RR_blame_0 g Q σ x1 := by
  show Ax g m_RR_blame 0 0 (ZI g Q) SH σ 0 0 0 [(0, .ref (gB g + 9)), (1, .int x1)] []
  refine a_aload_n (pc := 0) 0 rfl rfl d_RR_blame_0 ?_
  refine a_getI (pc := 1) fg_RR_39 sx_9 rfl d_RR_blame_1 ?_
  refine a_if_ne (pc := 4) 38 (by decide) d_RR_blame_4 ⟨fun c0 => ?_, fun c0 => ?_⟩
  · replace h := h.1 c0
    refine a_iconst (pc := 38) (0 : Int32) (by decide) d_RR_blame_38 ?_
    exact b_zret (pc := 39) rfl (Or.inl rfl) d_RR_blame_39 h
  · replace h := h.2 c0
    refine a_aload_n (pc := 7) 0 rfl rfl d_RR_blame_7 ?_
    refine a_getI (pc := 8) fg_RR_32 sx_9 rfl d_RR_blame_8 ?_
    refine a_aload_n (pc := 11) 0 rfl rfl d_RR_blame_11 ?_
    refine a_getI (pc := 12) fg_RR_76 sx_9 rfl d_RR_blame_12 ?_
    refine a_icmp_ge (pc := 15) 38 (by decide) d_RR_blame_15 ⟨fun c0 => ?_, fun c0 => ?_⟩
    · replace h := h.1 c0
      refine a_iconst (pc := 38) (0 : Int32) (by decide) d_RR_blame_38 ?_
      exact b_zret (pc := 39) rfl (Or.inl rfl) d_RR_blame_39 h
    · replace h := h.2 c0
      refine a_aload_n (pc := 18) 0 rfl rfl d_RR_blame_18 ?_
      refine a_iconst (pc := 19) (1 : Int32) (by decide) d_RR_blame_19 ?_
      refine a_bipush (pc := 20) (8 : Int32) (by decide) d_RR_blame_20 ?_
      refine a_aload_n (pc := 22) 0 rfl rfl d_RR_blame_22 ?_
      refine a_getR (pc := 23) fg_RR_15 sx_9 rfl d_RR_blame_23 ?_
      refine a_aload_n (pc := 26) 0 rfl rfl d_RR_blame_26 ?_
      refine a_getI (pc := 27) fg_RR_32 sx_9 rfl d_RR_blame_27 ?_
      obtain ⟨hx, h⟩ := h
      refine a_iald (pc := 30) sx_11 hx d_RR_blame_30 ?_
      refine a_imul (pc := 31) d_RR_blame_31 ?_
      refine a_iadd (pc := 32) d_RR_blame_32 ?_
      refine a_iload_n (pc := 33) 1 rfl rfl d_RR_blame_33 ?_
      refine a_iadd (pc := 34) d_RR_blame_34 ?_
      refine a_putI (pc := 35) fp_RR_39 sx_9 rfl d_RR_blame_35 ?_
      refine a_nms (fun s1 hs1 => ?_)
      replace h := h s1 hs1
      refine a_iconst (pc := 38) (0 : Int32) (by decide) d_RR_blame_38 ?_
      exact b_zret (pc := 39) rfl (Or.inl rfl) d_RR_blame_39 h
theorem ko_RR_blame {g : Gx}  {x1 : Int32} {σ : St} {Q : Int32 → St → Prop} (h : S_RR_blame_0 g Q σ x1) : K_RR_blame g x1 σ Q := KI.of (show plainName "BallBox$RuleReader" = true by decide) (Nat.le_of_ble_eq_true rfl) h
theorem d_RR_readTest_0 : decode c_RR_readTest 0 = .ok (.aload_n 0, 1) := by decide +kernel
theorem d_RR_readTest_1 : decode c_RR_readTest 1 = .ok (.iload_n 1, 1) := by decide +kernel
theorem d_RR_readTest_2 : decode c_RR_readTest 2 = .ok (.invokevirtual 126, 3) := by decide +kernel
theorem d_RR_readTest_5 : decode c_RR_readTest 5 = .ok (.ifCond .ne 5, 3) := by decide +kernel
theorem d_RR_readTest_8 : decode c_RR_readTest 8 = .ok (.iconst 0, 1) := by decide +kernel
theorem d_RR_readTest_9 : decode c_RR_readTest 9 = .ok (.ireturn, 1) := by decide +kernel
theorem d_RR_readTest_10 : decode c_RR_readTest 10 = .ok (.iconst 0, 1) := by decide +kernel
theorem d_RR_readTest_11 : decode c_RR_readTest 11 = .ok (.istore_n 2, 1) := by decide +kernel
theorem d_RR_readTest_12 : decode c_RR_readTest 12 = .ok (.iconst 0, 1) := by decide +kernel
theorem d_RR_readTest_13 : decode c_RR_readTest 13 = .ok (.istore_n 3, 1) := by decide +kernel
theorem d_RR_readTest_14 : decode c_RR_readTest 14 = .ok (.iload_n 3, 1) := by decide +kernel
theorem d_RR_readTest_15 : decode c_RR_readTest 15 = .ok (.sipush 401, 3) := by decide +kernel
theorem d_RR_readTest_18 : decode c_RR_readTest 18 = .ok (.if_icmp .ge 90, 3) := by decide +kernel
theorem d_RR_readTest_21 : decode c_RR_readTest 21 = .ok (.aload_n 0, 1) := by decide +kernel
theorem d_RR_readTest_22 : decode c_RR_readTest 22 = .ok (.invokevirtual 66, 3) := by decide +kernel
theorem d_RR_readTest_25 : decode c_RR_readTest 25 = .ok (.istore 4, 2) := by decide +kernel
theorem d_RR_readTest_27 : decode c_RR_readTest 27 = .ok (.iload 4, 2) := by decide +kernel
theorem d_RR_readTest_29 : decode c_RR_readTest 29 = .ok (.bipush (-10), 2) := by decide +kernel
theorem d_RR_readTest_31 : decode c_RR_readTest 31 = .ok (.if_icmp .eq 13, 3) := by decide +kernel
theorem d_RR_readTest_34 : decode c_RR_readTest 34 = .ok (.iload 4, 2) := by decide +kernel
theorem d_RR_readTest_36 : decode c_RR_readTest 36 = .ok (.bipush (-11), 2) := by decide +kernel
theorem d_RR_readTest_38 : decode c_RR_readTest 38 = .ok (.if_icmp .eq 6, 3) := by decide +kernel
theorem d_RR_readTest_41 : decode c_RR_readTest 41 = .ok (.goto 67, 3) := by decide +kernel
theorem d_RR_readTest_44 : decode c_RR_readTest 44 = .ok (.iload 4, 2) := by decide +kernel
theorem d_RR_readTest_46 : decode c_RR_readTest 46 = .ok (.bipush (-11), 2) := by decide +kernel
theorem d_RR_readTest_48 : decode c_RR_readTest 48 = .ok (.if_icmp .ne 18, 3) := by decide +kernel
theorem d_RR_readTest_51 : decode c_RR_readTest 51 = .ok (.iload_n 2, 1) := by decide +kernel
theorem d_RR_readTest_52 : decode c_RR_readTest 52 = .ok (.ifCond .eq 12, 3) := by decide +kernel
theorem d_RR_readTest_55 : decode c_RR_readTest 55 = .ok (.aload_n 0, 1) := by decide +kernel
theorem d_RR_readTest_56 : decode c_RR_readTest 56 = .ok (.getfield 21, 3) := by decide +kernel
theorem d_RR_readTest_59 : decode c_RR_readTest 59 = .ok (.bipush (-11), 2) := by decide +kernel
theorem d_RR_readTest_61 : decode c_RR_readTest 61 = .ok (.invokevirtual 129, 3) := by decide +kernel
theorem d_RR_readTest_64 : decode c_RR_readTest 64 = .ok (.iconst 1, 1) := by decide +kernel
theorem d_RR_readTest_65 : decode c_RR_readTest 65 = .ok (.istore_n 2, 1) := by decide +kernel
theorem d_RR_readTest_66 : decode c_RR_readTest 66 = .ok (.aload_n 0, 1) := by decide +kernel
theorem d_RR_readTest_67 : decode c_RR_readTest 67 = .ok (.dup, 1) := by decide +kernel
theorem d_RR_readTest_68 : decode c_RR_readTest 68 = .ok (.getfield 32, 3) := by decide +kernel
theorem d_RR_readTest_71 : decode c_RR_readTest 71 = .ok (.iconst 1, 1) := by decide +kernel
theorem d_RR_readTest_72 : decode c_RR_readTest 72 = .ok (.iadd, 1) := by decide +kernel
theorem d_RR_readTest_73 : decode c_RR_readTest 73 = .ok (.putfield 32, 3) := by decide +kernel
theorem d_RR_readTest_76 : decode c_RR_readTest 76 = .ok (.aload_n 0, 1) := by decide +kernel
theorem d_RR_readTest_77 : decode c_RR_readTest 77 = .ok (.iload_n 1, 1) := by decide +kernel
theorem d_RR_readTest_78 : decode c_RR_readTest 78 = .ok (.invokevirtual 126, 3) := by decide +kernel
theorem d_RR_readTest_81 : decode c_RR_readTest 81 = .ok (.ifCond .ne 5, 3) := by decide +kernel
theorem d_RR_readTest_84 : decode c_RR_readTest 84 = .ok (.iconst 0, 1) := by decide +kernel
theorem d_RR_readTest_85 : decode c_RR_readTest 85 = .ok (.ireturn, 1) := by decide +kernel
theorem d_RR_readTest_86 : decode c_RR_readTest 86 = .ok (.iload 4, 2) := by decide +kernel
theorem d_RR_readTest_88 : decode c_RR_readTest 88 = .ok (.bipush (-10), 2) := by decide +kernel
theorem d_RR_readTest_90 : decode c_RR_readTest 90 = .ok (.if_icmp .ne 12, 3) := by decide +kernel
theorem d_RR_readTest_93 : decode c_RR_readTest 93 = .ok (.aload_n 0, 1) := by decide +kernel
theorem d_RR_readTest_94 : decode c_RR_readTest 94 = .ok (.getfield 21, 3) := by decide +kernel
theorem d_RR_readTest_97 : decode c_RR_readTest 97 = .ok (.bipush (-10), 2) := by decide +kernel
theorem d_RR_readTest_99 : decode c_RR_readTest 99 = .ok (.invokevirtual 129, 3) := by decide +kernel
theorem d_RR_readTest_102 : decode c_RR_readTest 102 = .ok (.iinc 3 1, 3) := by decide +kernel
theorem d_RR_readTest_105 : decode c_RR_readTest 105 = .ok (.goto (-91), 3) := by decide +kernel
theorem d_RR_readTest_108 : decode c_RR_readTest 108 = .ok (.iload_n 2, 1) := by decide +kernel
theorem d_RR_readTest_109 : decode c_RR_readTest 109 = .ok (.ifCond .eq 12, 3) := by decide +kernel
theorem d_RR_readTest_112 : decode c_RR_readTest 112 = .ok (.aload_n 0, 1) := by decide +kernel
theorem d_RR_readTest_113 : decode c_RR_readTest 113 = .ok (.getfield 21, 3) := by decide +kernel
theorem d_RR_readTest_116 : decode c_RR_readTest 116 = .ok (.bipush (-11), 2) := by decide +kernel
theorem d_RR_readTest_118 : decode c_RR_readTest 118 = .ok (.invokevirtual 129, 3) := by decide +kernel
theorem d_RR_readTest_121 : decode c_RR_readTest 121 = .ok (.iconst 1, 1) := by decide +kernel
theorem d_RR_readTest_122 : decode c_RR_readTest 122 = .ok (.ireturn, 1) := by decide +kernel
def S_RR_readTest_0 (g : Gx) (q : Nat) (Q : Int32 → St → Prop) (σ : St) (x1 : Int32) : Prop := Ax g (m_RR_readTest q) 0 0 (ZI g Q) SH σ 0 0 0 [(0, .ref (gB g + 9)), (1, .int x1)] []
def S_RR_readTest_14 (g : Gx) (q : Nat) (Q : Int32 → St → Prop) (σ : St) (x1 : Int32) (x2 : Int32) (x3 : Int32) : Prop := Ax g (m_RR_readTest q) 0 0 (ZI g Q) SH σ 0 0 14 [(0, .ref (gB g + 9)), (1, .int x1), (2, .int x2), (3, .int x3)] []
def S_RR_readTest_44 (g : Gx) (q : Nat) (Q : Int32 → St → Prop) (σ : St) (x1 : Int32) (x2 : Int32) (x3 : Int32) (x4 : Int32) : Prop := Ax g (m_RR_readTest q) 0 0 (ZI g Q) SH σ 0 0 44 [(0, .ref (gB g + 9)), (1, .int x1), (2, .int x2), (3, .int x3), (4, .int x4)] []
def S_RR_readTest_66 (g : Gx) (q : Nat) (Q : Int32 → St → Prop) (σ : St) (x1 : Int32) (x2 : Int32) (x3 : Int32) (x4 : Int32) : Prop := Ax g (m_RR_readTest q) 0 0 (ZI g Q) SH σ 0 0 66 [(0, .ref (gB g + 9)), (1, .int x1), (2, .int x2), (3, .int x3), (4, .int x4)] []
theorem sg_RR_readTest_0 {g : Gx} {q : Nat} {Q : Int32 → St → Prop} {σ : St} {x1 : Int32}
    (h : K_RR_readFact g q x1 σ (fun (r2 : Int32) (s1 : St) => (¬ r2 = 0 → S_RR_readTest_14 g q Q s1 x1 (0 : Int32) (0 : Int32)) ∧ (r2 = 0 → Q (0 : Int32) s1))) : S_RR_readTest_0 g q Q σ x1 := by
  show Ax g (m_RR_readTest q) 0 0 (ZI g Q) SH σ 0 0 0 [(0, .ref (gB g + 9)), (1, .int x1)] []
  refine a_aload_n (pc := 0) 0 rfl rfl d_RR_readTest_0 ?_
  refine a_iload_n (pc := 1) 1 rfl rfl d_RR_readTest_1 ?_
  refine a_callV (pc := 2) (M' := (m_RR_readFact q)) (As := [.int x1]) (st := []) (mc' := 0) (ms' := 0) lk_RR_126 rfl sx_9 rfl (by dsimp only; omega) (by dsimp only; omega) rfl (Nat.le_of_ble_eq_true rfl) (Nat.le_refl 0) (Nat.le_refl 0) d_RR_readTest_2 h ?_
  rintro _ _ s1 ⟨r2, rfl, rfl, h⟩ -
  show Ax g (m_RR_readTest q) 0 0 (ZI g Q) SH s1 0 0 5 [(0, .ref (gB g + 9)), (1, .int x1)] [.int r2]
  refine a_if_ne (pc := 5) 10 (by decide) d_RR_readTest_5 ⟨fun c0 => ?_, fun c0 => ?_⟩
  · replace h := h.1 c0
    refine a_iconst (pc := 10) (0 : Int32) (by decide) d_RR_readTest_10 ?_
    refine a_istore_n (pc := 11) (lv' := [(2, .int (0 : Int32)), (0, .ref (gB g + 9)), (1, .int x1)]) rfl (Nat.le_of_ble_eq_true rfl) rfl d_RR_readTest_11 ?_
    refine a_iconst (pc := 12) (0 : Int32) (by decide) d_RR_readTest_12 ?_
    refine a_istore_n (pc := 13) (lv' := [(3, .int (0 : Int32)), (2, .int (0 : Int32)), (0, .ref (gB g + 9)), (1, .int x1)]) rfl (Nat.le_of_ble_eq_true rfl) rfl d_RR_readTest_13 ?_
    refine a_sub (pc := 14) [2, 3, 1, 0] rfl ?_
    exact h
  · replace h := h.2 c0
    refine a_iconst (pc := 8) (0 : Int32) (by decide) d_RR_readTest_8 ?_
    exact b_zret (pc := 9) rfl (Or.inl rfl) d_RR_readTest_9 h
theorem sg_RR_readTest_14 {g : Gx} {q : Nat} {Q : Int32 → St → Prop} {σ : St} {x1 : Int32} {x2 : Int32} {x3 : Int32}
    (h : ((401 : Int32) ≤ x3 → (x2 = 0 → Q (1 : Int32) σ) ∧ (¬ x2 = 0 → K_RU_add g 12 (-11 : Int32) σ (fun s1 : St => Q (1 : Int32) s1))) ∧ (¬ (401 : Int32) ≤ x3 → K_RR_tokenHere g σ (fun (r3 : Int32) (s2 : St) => (r3 = (-10 : Int32) → S_RR_readTest_44 g q Q s2 x1 x2 x3 r3) ∧ (¬ r3 = (-10 : Int32) → (r3 = (-11 : Int32) → S_RR_readTest_44 g q Q s2 x1 x2 x3 r3) ∧ (¬ r3 = (-11 : Int32) → (x2 = 0 → Q (1 : Int32) s2) ∧ (¬ x2 = 0 → K_RU_add g 12 (-11 : Int32) s2 (fun s4 : St => Q (1 : Int32) s4))))))) : S_RR_readTest_14 g q Q σ x1 x2 x3 := by
  show Ax g (m_RR_readTest q) 0 0 (ZI g Q) SH σ 0 0 14 [(0, .ref (gB g + 9)), (1, .int x1), (2, .int x2), (3, .int x3)] []
  refine a_iload_n (pc := 14) 3 rfl rfl d_RR_readTest_14 ?_
  refine a_sipush (pc := 15) (401 : Int32) (by decide) d_RR_readTest_15 ?_
  refine a_icmp_ge (pc := 18) 108 (by decide) d_RR_readTest_18 ⟨fun c0 => ?_, fun c0 => ?_⟩
  · replace h := h.1 c0
    refine a_iload_n (pc := 108) 2 rfl rfl d_RR_readTest_108 ?_
    refine a_if_eq (pc := 109) 121 (by decide) d_RR_readTest_109 ⟨fun c0 => ?_, fun c0 => ?_⟩
    · replace h := h.1 c0
      refine a_iconst (pc := 121) (1 : Int32) (by decide) d_RR_readTest_121 ?_
      exact b_zret (pc := 122) rfl (Or.inr rfl) d_RR_readTest_122 h
    · replace h := h.2 c0
      refine a_aload_n (pc := 112) 0 rfl rfl d_RR_readTest_112 ?_
      refine a_getR (pc := 113) fg_RR_21 sx_9 rfl d_RR_readTest_113 ?_
      refine a_bipush (pc := 116) (-11 : Int32) (by decide) d_RR_readTest_116 ?_
      refine a_callV (pc := 118) (M' := m_RU_add) (As := [.int (-11 : Int32)]) (st := []) (mc' := 0) (ms' := 0) lk_RR_129 rfl sx_12 rfl (by dsimp only; omega) (by dsimp only; omega) rfl (Nat.le_of_ble_eq_true rfl) (Nat.le_refl 0) (Nat.le_refl 0) d_RR_readTest_118 h ?_
      rintro _ _ s1 ⟨rfl, rfl, h⟩ -
      show Ax g (m_RR_readTest q) 0 0 (ZI g Q) SH s1 0 0 121 [(0, .ref (gB g + 9)), (1, .int x1), (2, .int x2), (3, .int x3)] []
      refine a_iconst (pc := 121) (1 : Int32) (by decide) d_RR_readTest_121 ?_
      exact b_zret (pc := 122) rfl (Or.inr rfl) d_RR_readTest_122 h
  · replace h := h.2 c0
    refine a_aload_n (pc := 21) 0 rfl rfl d_RR_readTest_21 ?_
    refine a_callV (pc := 22) (M' := m_RR_tokenHere) (As := []) (st := []) (mc' := 0) (ms' := 0) lk_RR_66 rfl sx_9 rfl (by dsimp only; omega) (by dsimp only; omega) rfl (Nat.le_of_ble_eq_true rfl) (Nat.le_refl 0) (Nat.le_refl 0) d_RR_readTest_22 h ?_
    rintro _ _ s2 ⟨r3, rfl, rfl, h⟩ -
    show Ax g (m_RR_readTest q) 0 0 (ZI g Q) SH s2 0 0 25 [(0, .ref (gB g + 9)), (1, .int x1), (2, .int x2), (3, .int x3)] [.int r3]
    refine a_istore (pc := 25) (lv' := [(4, .int r3), (0, .ref (gB g + 9)), (1, .int x1), (2, .int x2), (3, .int x3)]) (Nat.le_of_ble_eq_true rfl) rfl d_RR_readTest_25 ?_
    refine a_iload (pc := 27) 0 rfl d_RR_readTest_27 ?_
    refine a_bipush (pc := 29) (-10 : Int32) (by decide) d_RR_readTest_29 ?_
    refine a_icmp_eq (pc := 31) 44 (by decide) d_RR_readTest_31 ⟨fun c0 => ?_, fun c0 => ?_⟩
    · replace h := h.1 c0
      refine a_sub (pc := 44) [1, 2, 3, 4, 0] rfl ?_
      exact h
    · replace h := h.2 c0
      refine a_iload (pc := 34) 0 rfl d_RR_readTest_34 ?_
      refine a_bipush (pc := 36) (-11 : Int32) (by decide) d_RR_readTest_36 ?_
      refine a_icmp_eq (pc := 38) 44 (by decide) d_RR_readTest_38 ⟨fun c0 => ?_, fun c0 => ?_⟩
      · replace h := h.1 c0
        refine a_sub (pc := 44) [1, 2, 3, 4, 0] rfl ?_
        exact h
      · replace h := h.2 c0
        refine a_goto (pc := 41) 108 (by decide) d_RR_readTest_41 ?_
        refine a_iload_n (pc := 108) 3 rfl rfl d_RR_readTest_108 ?_
        refine a_if_eq (pc := 109) 121 (by decide) d_RR_readTest_109 ⟨fun c0 => ?_, fun c0 => ?_⟩
        · replace h := h.1 c0
          refine a_iconst (pc := 121) (1 : Int32) (by decide) d_RR_readTest_121 ?_
          exact b_zret (pc := 122) rfl (Or.inr rfl) d_RR_readTest_122 h
        · replace h := h.2 c0
          refine a_aload_n (pc := 112) 1 rfl rfl d_RR_readTest_112 ?_
          refine a_getR (pc := 113) fg_RR_21 sx_9 rfl d_RR_readTest_113 ?_
          refine a_bipush (pc := 116) (-11 : Int32) (by decide) d_RR_readTest_116 ?_
          refine a_callV (pc := 118) (M' := m_RU_add) (As := [.int (-11 : Int32)]) (st := []) (mc' := 0) (ms' := 0) lk_RR_129 rfl sx_12 rfl (by dsimp only; omega) (by dsimp only; omega) rfl (Nat.le_of_ble_eq_true rfl) (Nat.le_refl 0) (Nat.le_refl 0) d_RR_readTest_118 h ?_
          rintro _ _ s4 ⟨rfl, rfl, h⟩ -
          show Ax g (m_RR_readTest q) 0 0 (ZI g Q) SH s4 0 0 121 [(4, .int r3), (0, .ref (gB g + 9)), (1, .int x1), (2, .int x2), (3, .int x3)] []
          refine a_iconst (pc := 121) (1 : Int32) (by decide) d_RR_readTest_121 ?_
          exact b_zret (pc := 122) rfl (Or.inr rfl) d_RR_readTest_122 h
theorem sg_RR_readTest_44 {g : Gx} {q : Nat} {Q : Int32 → St → Prop} {σ : St} {x1 : Int32} {x2 : Int32} {x3 : Int32} {x4 : Int32}
    (h : (¬ x4 = (-11 : Int32) → S_RR_readTest_66 g q Q σ x1 x2 x3 x4) ∧ (x4 = (-11 : Int32) → (x2 = 0 → S_RR_readTest_66 g q Q σ x1 (1 : Int32) x3 x4) ∧ (¬ x2 = 0 → K_RU_add g 12 (-11 : Int32) σ (fun s1 : St => S_RR_readTest_66 g q Q s1 x1 (1 : Int32) x3 x4)))) : S_RR_readTest_44 g q Q σ x1 x2 x3 x4 := by
  show Ax g (m_RR_readTest q) 0 0 (ZI g Q) SH σ 0 0 44 [(0, .ref (gB g + 9)), (1, .int x1), (2, .int x2), (3, .int x3), (4, .int x4)] []
  refine a_iload (pc := 44) 4 rfl d_RR_readTest_44 ?_
  refine a_bipush (pc := 46) (-11 : Int32) (by decide) d_RR_readTest_46 ?_
  refine a_icmp_ne (pc := 48) 66 (by decide) d_RR_readTest_48 ⟨fun c0 => ?_, fun c0 => ?_⟩
  · replace h := h.1 c0
    refine a_sub (pc := 66) [0, 1, 2, 3, 4] rfl ?_
    exact h
  · replace h := h.2 c0
    refine a_iload_n (pc := 51) 2 rfl rfl d_RR_readTest_51 ?_
    refine a_if_eq (pc := 52) 64 (by decide) d_RR_readTest_52 ⟨fun c0 => ?_, fun c0 => ?_⟩
    · replace h := h.1 c0
      refine a_iconst (pc := 64) (1 : Int32) (by decide) d_RR_readTest_64 ?_
      refine a_istore_n (pc := 65) (lv' := [(2, .int (1 : Int32)), (0, .ref (gB g + 9)), (1, .int x1), (3, .int x3), (4, .int x4)]) rfl (Nat.le_of_ble_eq_true rfl) rfl d_RR_readTest_65 ?_
      refine a_sub (pc := 66) [1, 2, 0, 3, 4] rfl ?_
      exact h
    · replace h := h.2 c0
      refine a_aload_n (pc := 55) 0 rfl rfl d_RR_readTest_55 ?_
      refine a_getR (pc := 56) fg_RR_21 sx_9 rfl d_RR_readTest_56 ?_
      refine a_bipush (pc := 59) (-11 : Int32) (by decide) d_RR_readTest_59 ?_
      refine a_callV (pc := 61) (M' := m_RU_add) (As := [.int (-11 : Int32)]) (st := []) (mc' := 0) (ms' := 0) lk_RR_129 rfl sx_12 rfl (by dsimp only; omega) (by dsimp only; omega) rfl (Nat.le_of_ble_eq_true rfl) (Nat.le_refl 0) (Nat.le_refl 0) d_RR_readTest_61 h ?_
      rintro _ _ s1 ⟨rfl, rfl, h⟩ -
      show Ax g (m_RR_readTest q) 0 0 (ZI g Q) SH s1 0 0 64 [(0, .ref (gB g + 9)), (1, .int x1), (2, .int x2), (3, .int x3), (4, .int x4)] []
      refine a_iconst (pc := 64) (1 : Int32) (by decide) d_RR_readTest_64 ?_
      refine a_istore_n (pc := 65) (lv' := [(2, .int (1 : Int32)), (0, .ref (gB g + 9)), (1, .int x1), (3, .int x3), (4, .int x4)]) rfl (Nat.le_of_ble_eq_true rfl) rfl d_RR_readTest_65 ?_
      refine a_sub (pc := 66) [1, 2, 0, 3, 4] rfl ?_
      exact h
theorem sg_RR_readTest_66 {g : Gx} {q : Nat} {Q : Int32 → St → Prop} {σ : St} {x1 : Int32} {x2 : Int32} {x3 : Int32} {x4 : Int32}
    (h : ∀ s1 : St, s1 = sfi σ 9 3 ((fi σ 9 3) + (1 : Int32)) → K_RR_readFact g q x1 s1 (fun (r3 : Int32) (s2 : St) => (¬ r3 = 0 → (¬ x4 = (-10 : Int32) → ∀ u4 : Int32, u4 = x3 + (1 : Int32) → S_RR_readTest_14 g q Q s2 x1 x2 u4) ∧ (x4 = (-10 : Int32) → K_RU_add g 12 (-10 : Int32) s2 (fun s5 : St => ∀ u6 : Int32, u6 = x3 + (1 : Int32) → S_RR_readTest_14 g q Q s5 x1 x2 u6))) ∧ (r3 = 0 → Q (0 : Int32) s2))) : S_RR_readTest_66 g q Q σ x1 x2 x3 x4 := by
  show Ax g (m_RR_readTest q) 0 0 (ZI g Q) SH σ 0 0 66 [(0, .ref (gB g + 9)), (1, .int x1), (2, .int x2), (3, .int x3), (4, .int x4)] []
  refine a_aload_n (pc := 66) 0 rfl rfl d_RR_readTest_66 ?_
  refine a_dup (pc := 67) rfl d_RR_readTest_67 ?_
  refine a_getI (pc := 68) fg_RR_32 sx_9 rfl d_RR_readTest_68 ?_
  refine a_iconst (pc := 71) (1 : Int32) (by decide) d_RR_readTest_71 ?_
  refine a_iadd (pc := 72) d_RR_readTest_72 ?_
  refine a_putI (pc := 73) fp_RR_32 sx_9 rfl d_RR_readTest_73 ?_
  refine a_nms (fun s1 hs1 => ?_)
  replace h := h s1 hs1
  refine a_aload_n (pc := 76) 0 rfl rfl d_RR_readTest_76 ?_
  refine a_iload_n (pc := 77) 1 rfl rfl d_RR_readTest_77 ?_
  refine a_callV (pc := 78) (M' := (m_RR_readFact q)) (As := [.int x1]) (st := []) (mc' := 0) (ms' := 0) lk_RR_126 rfl sx_9 rfl (by dsimp only; omega) (by dsimp only; omega) rfl (Nat.le_of_ble_eq_true rfl) (Nat.le_refl 0) (Nat.le_refl 0) d_RR_readTest_78 h ?_
  rintro _ _ s2 ⟨r3, rfl, rfl, h⟩ -
  show Ax g (m_RR_readTest q) 0 0 (ZI g Q) SH s2 0 0 81 [(0, .ref (gB g + 9)), (1, .int x1), (2, .int x2), (3, .int x3), (4, .int x4)] [.int r3]
  refine a_if_ne (pc := 81) 86 (by decide) d_RR_readTest_81 ⟨fun c0 => ?_, fun c0 => ?_⟩
  · replace h := h.1 c0
    refine a_iload (pc := 86) 4 rfl d_RR_readTest_86 ?_
    refine a_bipush (pc := 88) (-10 : Int32) (by decide) d_RR_readTest_88 ?_
    refine a_icmp_ne (pc := 90) 102 (by decide) d_RR_readTest_90 ⟨fun c0 => ?_, fun c0 => ?_⟩
    · replace h := h.1 c0
      obtain ⟨u4, hu4⟩ : ∃ y : Int32, y = x3 + (1 : Int32) := ⟨_, rfl⟩
      replace h := h u4 hu4
      refine a_iinc (pc := 102) (v := u4) (lv' := [(3, .int u4), (0, .ref (gB g + 9)), (1, .int x1), (2, .int x2), (4, .int x4)]) 3 rfl (by rw [hu4]; rfl) (Nat.le_of_ble_eq_true rfl) rfl d_RR_readTest_102 ?_
      refine a_goto (pc := 105) 14 (by decide) d_RR_readTest_105 ?_
      refine a_sub (pc := 14) [1, 2, 3, 0] rfl ?_
      exact h
    · replace h := h.2 c0
      refine a_aload_n (pc := 93) 0 rfl rfl d_RR_readTest_93 ?_
      refine a_getR (pc := 94) fg_RR_21 sx_9 rfl d_RR_readTest_94 ?_
      refine a_bipush (pc := 97) (-10 : Int32) (by decide) d_RR_readTest_97 ?_
      refine a_callV (pc := 99) (M' := m_RU_add) (As := [.int (-10 : Int32)]) (st := []) (mc' := 0) (ms' := 0) lk_RR_129 rfl sx_12 rfl (by dsimp only; omega) (by dsimp only; omega) rfl (Nat.le_of_ble_eq_true rfl) (Nat.le_refl 0) (Nat.le_refl 0) d_RR_readTest_99 h ?_
      rintro _ _ s5 ⟨rfl, rfl, h⟩ -
      show Ax g (m_RR_readTest q) 0 0 (ZI g Q) SH s5 0 0 102 [(0, .ref (gB g + 9)), (1, .int x1), (2, .int x2), (3, .int x3), (4, .int x4)] []
      obtain ⟨u6, hu6⟩ : ∃ y : Int32, y = x3 + (1 : Int32) := ⟨_, rfl⟩
      replace h := h u6 hu6
      refine a_iinc (pc := 102) (v := u6) (lv' := [(3, .int u6), (0, .ref (gB g + 9)), (1, .int x1), (2, .int x2), (4, .int x4)]) 3 rfl (by rw [hu6]; rfl) (Nat.le_of_ble_eq_true rfl) rfl d_RR_readTest_102 ?_
      refine a_goto (pc := 105) 14 (by decide) d_RR_readTest_105 ?_
      refine a_sub (pc := 14) [1, 2, 3, 0] rfl ?_
      exact h
  · replace h := h.2 c0
    refine a_iconst (pc := 84) (0 : Int32) (by decide) d_RR_readTest_84 ?_
    exact b_zret (pc := 85) rfl (Or.inl rfl) d_RR_readTest_85 h
theorem ko_RR_readTest {g : Gx} {q : Nat}  {x1 : Int32} {σ : St} {Q : Int32 → St → Prop} (h : S_RR_readTest_0 g q Q σ x1) : K_RR_readTest g q x1 σ Q := KI.of (show plainName "BallBox$RuleReader" = true by decide) (Nat.le_of_ble_eq_true rfl) h
theorem d_RR_readFact_0 : decode c_RR_readFact 0 = .ok (.aload_n 0, 1) := by decide +kernel
theorem d_RR_readFact_1 : decode c_RR_readFact 1 = .ok (.invokevirtual 66, 3) := by decide +kernel
theorem d_RR_readFact_4 : decode c_RR_readFact 4 = .ok (.istore_n 2, 1) := by decide +kernel
theorem d_RR_readFact_5 : decode c_RR_readFact 5 = .ok (.iload_n 2, 1) := by decide +kernel
theorem d_RR_readFact_6 : decode c_RR_readFact 6 = .ok (.bipush (-23), 2) := by decide +kernel
theorem d_RR_readFact_8 : decode c_RR_readFact 8 = .ok (.if_icmp .eq 14, 3) := by decide +kernel
theorem d_RR_readFact_11 : decode c_RR_readFact 11 = .ok (.iload_n 2, 1) := by decide +kernel
theorem d_RR_readFact_12 : decode c_RR_readFact 12 = .ok (.bipush (-9), 2) := by decide +kernel
theorem d_RR_readFact_14 : decode c_RR_readFact 14 = .ok (.if_icmp .eq 8, 3) := by decide +kernel
theorem d_RR_readFact_17 : decode c_RR_readFact 17 = .ok (.aload_n 0, 1) := by decide +kernel
theorem d_RR_readFact_18 : decode c_RR_readFact 18 = .ok (.invokevirtual 133, 3) := by decide +kernel
theorem d_RR_readFact_21 : decode c_RR_readFact 21 = .ok (.ireturn, 1) := by decide +kernel
theorem d_RR_readFact_22 : decode c_RR_readFact 22 = .ok (.iload_n 1, 1) := by decide +kernel
theorem d_RR_readFact_23 : decode c_RR_readFact 23 = .ok (.bipush 10, 2) := by decide +kernel
theorem d_RR_readFact_25 : decode c_RR_readFact 25 = .ok (.if_icmp .lt 9, 3) := by decide +kernel
theorem d_RR_readFact_28 : decode c_RR_readFact 28 = .ok (.aload_n 0, 1) := by decide +kernel
theorem d_RR_readFact_29 : decode c_RR_readFact 29 = .ok (.iconst 2, 1) := by decide +kernel
theorem d_RR_readFact_30 : decode c_RR_readFact 30 = .ok (.invokevirtual 70, 3) := by decide +kernel
theorem d_RR_readFact_33 : decode c_RR_readFact 33 = .ok (.ireturn, 1) := by decide +kernel
theorem d_RR_readFact_34 : decode c_RR_readFact 34 = .ok (.aload_n 0, 1) := by decide +kernel
theorem d_RR_readFact_35 : decode c_RR_readFact 35 = .ok (.dup, 1) := by decide +kernel
theorem d_RR_readFact_36 : decode c_RR_readFact 36 = .ok (.getfield 32, 3) := by decide +kernel
theorem d_RR_readFact_39 : decode c_RR_readFact 39 = .ok (.iconst 1, 1) := by decide +kernel
theorem d_RR_readFact_40 : decode c_RR_readFact 40 = .ok (.iadd, 1) := by decide +kernel
theorem d_RR_readFact_41 : decode c_RR_readFact 41 = .ok (.putfield 32, 3) := by decide +kernel
theorem d_RR_readFact_44 : decode c_RR_readFact 44 = .ok (.iload_n 2, 1) := by decide +kernel
theorem d_RR_readFact_45 : decode c_RR_readFact 45 = .ok (.bipush (-9), 2) := by decide +kernel
theorem d_RR_readFact_47 : decode c_RR_readFact 47 = .ok (.if_icmp .ne 26, 3) := by decide +kernel
theorem d_RR_readFact_50 : decode c_RR_readFact 50 = .ok (.aload_n 0, 1) := by decide +kernel
theorem d_RR_readFact_51 : decode c_RR_readFact 51 = .ok (.iload_n 1, 1) := by decide +kernel
theorem d_RR_readFact_52 : decode c_RR_readFact 52 = .ok (.iconst 1, 1) := by decide +kernel
theorem d_RR_readFact_53 : decode c_RR_readFact 53 = .ok (.iadd, 1) := by decide +kernel
theorem d_RR_readFact_54 : decode c_RR_readFact 54 = .ok (.invokevirtual 126, 3) := by decide +kernel
theorem d_RR_readFact_57 : decode c_RR_readFact 57 = .ok (.ifCond .ne 5, 3) := by decide +kernel
theorem d_RR_readFact_60 : decode c_RR_readFact 60 = .ok (.iconst 0, 1) := by decide +kernel
theorem d_RR_readFact_61 : decode c_RR_readFact 61 = .ok (.ireturn, 1) := by decide +kernel
theorem d_RR_readFact_62 : decode c_RR_readFact 62 = .ok (.aload_n 0, 1) := by decide +kernel
theorem d_RR_readFact_63 : decode c_RR_readFact 63 = .ok (.getfield 21, 3) := by decide +kernel
theorem d_RR_readFact_66 : decode c_RR_readFact 66 = .ok (.bipush (-9), 2) := by decide +kernel
theorem d_RR_readFact_68 : decode c_RR_readFact 68 = .ok (.invokevirtual 129, 3) := by decide +kernel
theorem d_RR_readFact_71 : decode c_RR_readFact 71 = .ok (.iconst 1, 1) := by decide +kernel
theorem d_RR_readFact_72 : decode c_RR_readFact 72 = .ok (.ireturn, 1) := by decide +kernel
theorem d_RR_readFact_73 : decode c_RR_readFact 73 = .ok (.aload_n 0, 1) := by decide +kernel
theorem d_RR_readFact_74 : decode c_RR_readFact 74 = .ok (.iload_n 1, 1) := by decide +kernel
theorem d_RR_readFact_75 : decode c_RR_readFact 75 = .ok (.iconst 1, 1) := by decide +kernel
theorem d_RR_readFact_76 : decode c_RR_readFact 76 = .ok (.iadd, 1) := by decide +kernel
theorem d_RR_readFact_77 : decode c_RR_readFact 77 = .ok (.invokevirtual 57, 3) := by decide +kernel
theorem d_RR_readFact_80 : decode c_RR_readFact 80 = .ok (.ifCond .ne 5, 3) := by decide +kernel
theorem d_RR_readFact_83 : decode c_RR_readFact 83 = .ok (.iconst 0, 1) := by decide +kernel
theorem d_RR_readFact_84 : decode c_RR_readFact 84 = .ok (.ireturn, 1) := by decide +kernel
theorem d_RR_readFact_85 : decode c_RR_readFact 85 = .ok (.aload_n 0, 1) := by decide +kernel
theorem d_RR_readFact_86 : decode c_RR_readFact 86 = .ok (.bipush (-24), 2) := by decide +kernel
theorem d_RR_readFact_88 : decode c_RR_readFact 88 = .ok (.invokevirtual 53, 3) := by decide +kernel
theorem d_RR_readFact_91 : decode c_RR_readFact 91 = .ok (.ifCond .ne 11, 3) := by decide +kernel
theorem d_RR_readFact_94 : decode c_RR_readFact 94 = .ok (.aload_n 0, 1) := by decide +kernel
theorem d_RR_readFact_95 : decode c_RR_readFact 95 = .ok (.iconst 0, 1) := by decide +kernel
theorem d_RR_readFact_96 : decode c_RR_readFact 96 = .ok (.invokevirtual 70, 3) := by decide +kernel
theorem d_RR_readFact_99 : decode c_RR_readFact 99 = .ok (.ifCond .eq 7, 3) := by decide +kernel
theorem d_RR_readFact_102 : decode c_RR_readFact 102 = .ok (.iconst 1, 1) := by decide +kernel
theorem d_RR_readFact_103 : decode c_RR_readFact 103 = .ok (.goto 4, 3) := by decide +kernel
theorem d_RR_readFact_106 : decode c_RR_readFact 106 = .ok (.iconst 0, 1) := by decide +kernel
theorem d_RR_readFact_107 : decode c_RR_readFact 107 = .ok (.ireturn, 1) := by decide +kernel
def S_RR_readFact_0 (g : Gx) (q : Nat) (Q : Int32 → St → Prop) (σ : St) (x1 : Int32) : Prop := Ax g (m_RR_readFact q) 0 0 (ZI g Q) SH σ 0 0 0 [(0, .ref (gB g + 9)), (1, .int x1)] []
def S_RR_readFact_22 (g : Gx) (q : Nat) (Q : Int32 → St → Prop) (σ : St) (x1 : Int32) (x2 : Int32) : Prop := Ax g (m_RR_readFact q) 0 0 (ZI g Q) SH σ 0 0 22 [(0, .ref (gB g + 9)), (1, .int x1), (2, .int x2)] []
theorem sg_RR_readFact_0 {g : Gx} {q : Nat} {Q : Int32 → St → Prop} {σ : St} {x1 : Int32}
    (h : K_RR_tokenHere g σ (fun (r2 : Int32) (s1 : St) => (r2 = (-23 : Int32) → S_RR_readFact_22 g q Q s1 x1 r2) ∧ (¬ r2 = (-23 : Int32) → (r2 = (-9 : Int32) → S_RR_readFact_22 g q Q s1 x1 r2) ∧ (¬ r2 = (-9 : Int32) → K_RR_readComparison g s1 (fun (r4 : Int32) (s3 : St) => (r4 = 0 ∨ r4 = 1) ∧ Q r4 s3))))) : S_RR_readFact_0 g q Q σ x1 := by
  show Ax g (m_RR_readFact q) 0 0 (ZI g Q) SH σ 0 0 0 [(0, .ref (gB g + 9)), (1, .int x1)] []
  refine a_aload_n (pc := 0) 0 rfl rfl d_RR_readFact_0 ?_
  refine a_callV (pc := 1) (M' := m_RR_tokenHere) (As := []) (st := []) (mc' := 0) (ms' := 0) lk_RR_66 rfl sx_9 rfl (by dsimp only; omega) (by dsimp only; omega) rfl (Nat.le_of_ble_eq_true rfl) (Nat.le_refl 0) (Nat.le_refl 0) d_RR_readFact_1 h ?_
  rintro _ _ s1 ⟨r2, rfl, rfl, h⟩ -
  show Ax g (m_RR_readFact q) 0 0 (ZI g Q) SH s1 0 0 4 [(0, .ref (gB g + 9)), (1, .int x1)] [.int r2]
  refine a_istore_n (pc := 4) (lv' := [(2, .int r2), (0, .ref (gB g + 9)), (1, .int x1)]) rfl (Nat.le_of_ble_eq_true rfl) rfl d_RR_readFact_4 ?_
  refine a_iload_n (pc := 5) 0 rfl rfl d_RR_readFact_5 ?_
  refine a_bipush (pc := 6) (-23 : Int32) (by decide) d_RR_readFact_6 ?_
  refine a_icmp_eq (pc := 8) 22 (by decide) d_RR_readFact_8 ⟨fun c0 => ?_, fun c0 => ?_⟩
  · replace h := h.1 c0
    refine a_sub (pc := 22) [1, 2, 0] rfl ?_
    exact h
  · replace h := h.2 c0
    refine a_iload_n (pc := 11) 0 rfl rfl d_RR_readFact_11 ?_
    refine a_bipush (pc := 12) (-9 : Int32) (by decide) d_RR_readFact_12 ?_
    refine a_icmp_eq (pc := 14) 22 (by decide) d_RR_readFact_14 ⟨fun c0 => ?_, fun c0 => ?_⟩
    · replace h := h.1 c0
      refine a_sub (pc := 22) [1, 2, 0] rfl ?_
      exact h
    · replace h := h.2 c0
      refine a_aload_n (pc := 17) 1 rfl rfl d_RR_readFact_17 ?_
      refine a_callV (pc := 18) (M' := m_RR_readComparison) (As := []) (st := []) (mc' := 0) (ms' := 0) lk_RR_133 rfl sx_9 rfl (by dsimp only; omega) (by dsimp only; omega) rfl (Nat.le_of_ble_eq_true rfl) (Nat.le_refl 0) (Nat.le_refl 0) d_RR_readFact_18 h ?_
      rintro _ _ s3 ⟨r4, rfl, rfl, h⟩ -
      show Ax g (m_RR_readFact q) 0 0 (ZI g Q) SH s3 0 0 21 [(2, .int r2), (0, .ref (gB g + 9)), (1, .int x1)] [.int r4]
      exact b_zret (pc := 21) rfl h.1 d_RR_readFact_21 h.2
theorem sg_RR_readFact_22 {g : Gx} {q : Nat} {Q : Int32 → St → Prop} {σ : St} {x1 : Int32} {x2 : Int32}
    (h : (x1 < (10 : Int32) → ∀ s1 : St, s1 = sfi σ 9 3 ((fi σ 9 3) + (1 : Int32)) → (¬ x2 = (-9 : Int32) → ∃ q0 : Nat, q = q0 + 1 ∧ (K_RR_readTest g q0 (x1 + (1 : Int32)) s1 (fun (r3 : Int32) (s2 : St) => (¬ r3 = 0 → K_RR_takes g (-24 : Int32) s2 (fun (r5 : Int32) (s4 : St) => (¬ r5 = 0 → Q (1 : Int32) s4) ∧ (r5 = 0 → K_RR_blame g (0 : Int32) s4 (fun (r7 : Int32) (s6 : St) => (r7 = 0 → Q (0 : Int32) s6) ∧ (¬ r7 = 0 → Q (1 : Int32) s6))))) ∧ (r3 = 0 → Q (0 : Int32) s2)))) ∧ (x2 = (-9 : Int32) → ∃ q0 : Nat, q = q0 + 1 ∧ (K_RR_readFact g q0 (x1 + (1 : Int32)) s1 (fun (r9 : Int32) (s8 : St) => (¬ r9 = 0 → K_RU_add g 12 (-9 : Int32) s8 (fun s10 : St => Q (1 : Int32) s10)) ∧ (r9 = 0 → Q (0 : Int32) s8))))) ∧ (¬ x1 < (10 : Int32) → K_RR_blame g (2 : Int32) σ (fun (r12 : Int32) (s11 : St) => (r12 = 0 ∨ r12 = 1) ∧ Q r12 s11))) : S_RR_readFact_22 g q Q σ x1 x2 := by
  show Ax g (m_RR_readFact q) 0 0 (ZI g Q) SH σ 0 0 22 [(0, .ref (gB g + 9)), (1, .int x1), (2, .int x2)] []
  refine a_iload_n (pc := 22) 1 rfl rfl d_RR_readFact_22 ?_
  refine a_bipush (pc := 23) (10 : Int32) (by decide) d_RR_readFact_23 ?_
  refine a_icmp_lt (pc := 25) 34 (by decide) d_RR_readFact_25 ⟨fun c0 => ?_, fun c0 => ?_⟩
  · replace h := h.1 c0
    refine a_aload_n (pc := 34) 0 rfl rfl d_RR_readFact_34 ?_
    refine a_dup (pc := 35) rfl d_RR_readFact_35 ?_
    refine a_getI (pc := 36) fg_RR_32 sx_9 rfl d_RR_readFact_36 ?_
    refine a_iconst (pc := 39) (1 : Int32) (by decide) d_RR_readFact_39 ?_
    refine a_iadd (pc := 40) d_RR_readFact_40 ?_
    refine a_putI (pc := 41) fp_RR_32 sx_9 rfl d_RR_readFact_41 ?_
    refine a_nms (fun s1 hs1 => ?_)
    replace h := h s1 hs1
    refine a_iload_n (pc := 44) 2 rfl rfl d_RR_readFact_44 ?_
    refine a_bipush (pc := 45) (-9 : Int32) (by decide) d_RR_readFact_45 ?_
    refine a_icmp_ne (pc := 47) 73 (by decide) d_RR_readFact_47 ⟨fun c0 => ?_, fun c0 => ?_⟩
    · replace h := h.1 c0
      refine a_aload_n (pc := 73) 0 rfl rfl d_RR_readFact_73 ?_
      refine a_iload_n (pc := 74) 1 rfl rfl d_RR_readFact_74 ?_
      refine a_iconst (pc := 75) (1 : Int32) (by decide) d_RR_readFact_75 ?_
      refine a_iadd (pc := 76) d_RR_readFact_76 ?_
      obtain ⟨q0, hq0, h⟩ := h
      subst hq0
      refine a_callV (pc := 77) (M' := (m_RR_readTest q0)) (As := [.int (x1 + (1 : Int32))]) (st := []) (mc' := 0) (ms' := 0) lk_RR_57 rfl sx_9 rfl (by dsimp only; omega) (by dsimp only; omega) rfl (Nat.le_of_ble_eq_true rfl) (Nat.le_refl 0) (Nat.le_refl 0) d_RR_readFact_77 h ?_
      rintro _ _ s2 ⟨r3, rfl, rfl, h⟩ -
      show Ax g (m_RR_readFact (q0 + 1)) 0 0 (ZI g Q) SH s2 0 0 80 [(0, .ref (gB g + 9)), (1, .int x1), (2, .int x2)] [.int r3]
      refine a_if_ne (pc := 80) 85 (by decide) d_RR_readFact_80 ⟨fun c0 => ?_, fun c0 => ?_⟩
      · replace h := h.1 c0
        refine a_aload_n (pc := 85) 0 rfl rfl d_RR_readFact_85 ?_
        refine a_bipush (pc := 86) (-24 : Int32) (by decide) d_RR_readFact_86 ?_
        refine a_callV (pc := 88) (M' := m_RR_takes) (As := [.int (-24 : Int32)]) (st := []) (mc' := 0) (ms' := 0) lk_RR_53 rfl sx_9 rfl (by dsimp only; omega) (by dsimp only; omega) rfl (Nat.le_of_ble_eq_true rfl) (Nat.le_refl 0) (Nat.le_refl 0) d_RR_readFact_88 h ?_
        rintro _ _ s4 ⟨r5, rfl, rfl, h⟩ -
        show Ax g (m_RR_readFact (q0 + 1)) 0 0 (ZI g Q) SH s4 0 0 91 [(0, .ref (gB g + 9)), (1, .int x1), (2, .int x2)] [.int r5]
        refine a_if_ne (pc := 91) 102 (by decide) d_RR_readFact_91 ⟨fun c0 => ?_, fun c0 => ?_⟩
        · replace h := h.1 c0
          refine a_iconst (pc := 102) (1 : Int32) (by decide) d_RR_readFact_102 ?_
          refine a_goto (pc := 103) 107 (by decide) d_RR_readFact_103 ?_
          exact b_zret (pc := 107) rfl (Or.inr rfl) d_RR_readFact_107 h
        · replace h := h.2 c0
          refine a_aload_n (pc := 94) 0 rfl rfl d_RR_readFact_94 ?_
          refine a_iconst (pc := 95) (0 : Int32) (by decide) d_RR_readFact_95 ?_
          refine a_callV (pc := 96) (M' := m_RR_blame) (As := [.int (0 : Int32)]) (st := []) (mc' := 0) (ms' := 0) lk_RR_70 rfl sx_9 rfl (by dsimp only; omega) (by dsimp only; omega) rfl (Nat.le_of_ble_eq_true rfl) (Nat.le_refl 0) (Nat.le_refl 0) d_RR_readFact_96 h ?_
          rintro _ _ s6 ⟨r7, rfl, rfl, h⟩ -
          show Ax g (m_RR_readFact (q0 + 1)) 0 0 (ZI g Q) SH s6 0 0 99 [(0, .ref (gB g + 9)), (1, .int x1), (2, .int x2)] [.int r7]
          refine a_if_eq (pc := 99) 106 (by decide) d_RR_readFact_99 ⟨fun c0 => ?_, fun c0 => ?_⟩
          · replace h := h.1 c0
            refine a_iconst (pc := 106) (0 : Int32) (by decide) d_RR_readFact_106 ?_
            exact b_zret (pc := 107) rfl (Or.inl rfl) d_RR_readFact_107 h
          · replace h := h.2 c0
            refine a_iconst (pc := 102) (1 : Int32) (by decide) d_RR_readFact_102 ?_
            refine a_goto (pc := 103) 107 (by decide) d_RR_readFact_103 ?_
            exact b_zret (pc := 107) rfl (Or.inr rfl) d_RR_readFact_107 h
      · replace h := h.2 c0
        refine a_iconst (pc := 83) (0 : Int32) (by decide) d_RR_readFact_83 ?_
        exact b_zret (pc := 84) rfl (Or.inl rfl) d_RR_readFact_84 h
    · replace h := h.2 c0
      refine a_aload_n (pc := 50) 0 rfl rfl d_RR_readFact_50 ?_
      refine a_iload_n (pc := 51) 1 rfl rfl d_RR_readFact_51 ?_
      refine a_iconst (pc := 52) (1 : Int32) (by decide) d_RR_readFact_52 ?_
      refine a_iadd (pc := 53) d_RR_readFact_53 ?_
      obtain ⟨q0, hq0, h⟩ := h
      subst hq0
      refine a_callV (pc := 54) (M' := (m_RR_readFact q0)) (As := [.int (x1 + (1 : Int32))]) (st := []) (mc' := 0) (ms' := 0) lk_RR_126 rfl sx_9 rfl (by dsimp only; omega) (by dsimp only; omega) rfl (Nat.le_of_ble_eq_true rfl) (Nat.le_refl 0) (Nat.le_refl 0) d_RR_readFact_54 h ?_
      rintro _ _ s8 ⟨r9, rfl, rfl, h⟩ -
      show Ax g (m_RR_readFact (q0 + 1)) 0 0 (ZI g Q) SH s8 0 0 57 [(0, .ref (gB g + 9)), (1, .int x1), (2, .int x2)] [.int r9]
      refine a_if_ne (pc := 57) 62 (by decide) d_RR_readFact_57 ⟨fun c0 => ?_, fun c0 => ?_⟩
      · replace h := h.1 c0
        refine a_aload_n (pc := 62) 0 rfl rfl d_RR_readFact_62 ?_
        refine a_getR (pc := 63) fg_RR_21 sx_9 rfl d_RR_readFact_63 ?_
        refine a_bipush (pc := 66) (-9 : Int32) (by decide) d_RR_readFact_66 ?_
        refine a_callV (pc := 68) (M' := m_RU_add) (As := [.int (-9 : Int32)]) (st := []) (mc' := 0) (ms' := 0) lk_RR_129 rfl sx_12 rfl (by dsimp only; omega) (by dsimp only; omega) rfl (Nat.le_of_ble_eq_true rfl) (Nat.le_refl 0) (Nat.le_refl 0) d_RR_readFact_68 h ?_
        rintro _ _ s10 ⟨rfl, rfl, h⟩ -
        show Ax g (m_RR_readFact (q0 + 1)) 0 0 (ZI g Q) SH s10 0 0 71 [(0, .ref (gB g + 9)), (1, .int x1), (2, .int x2)] []
        refine a_iconst (pc := 71) (1 : Int32) (by decide) d_RR_readFact_71 ?_
        exact b_zret (pc := 72) rfl (Or.inr rfl) d_RR_readFact_72 h
      · replace h := h.2 c0
        refine a_iconst (pc := 60) (0 : Int32) (by decide) d_RR_readFact_60 ?_
        exact b_zret (pc := 61) rfl (Or.inl rfl) d_RR_readFact_61 h
  · replace h := h.2 c0
    refine a_aload_n (pc := 28) 0 rfl rfl d_RR_readFact_28 ?_
    refine a_iconst (pc := 29) (2 : Int32) (by decide) d_RR_readFact_29 ?_
    refine a_callV (pc := 30) (M' := m_RR_blame) (As := [.int (2 : Int32)]) (st := []) (mc' := 0) (ms' := 0) lk_RR_70 rfl sx_9 rfl (by dsimp only; omega) (by dsimp only; omega) rfl (Nat.le_of_ble_eq_true rfl) (Nat.le_refl 0) (Nat.le_refl 0) d_RR_readFact_30 h ?_
    rintro _ _ s11 ⟨r12, rfl, rfl, h⟩ -
    show Ax g (m_RR_readFact q) 0 0 (ZI g Q) SH s11 0 0 33 [(0, .ref (gB g + 9)), (1, .int x1), (2, .int x2)] [.int r12]
    exact b_zret (pc := 33) rfl h.1 d_RR_readFact_33 h.2
theorem ko_RR_readFact {g : Gx} {q : Nat}  {x1 : Int32} {σ : St} {Q : Int32 → St → Prop} (h : S_RR_readFact_0 g q Q σ x1) : K_RR_readFact g q x1 σ Q := KI.of (show plainName "BallBox$RuleReader" = true by decide) (Nat.le_of_ble_eq_true rfl) h
theorem d_RR_readComparison_0 : decode c_RR_readComparison 0 = .ok (.aload_n 0, 1) := by decide +kernel
theorem d_RR_readComparison_1 : decode c_RR_readComparison 1 = .ok (.invokevirtual 46, 3) := by decide +kernel
theorem d_RR_readComparison_4 : decode c_RR_readComparison 4 = .ok (.ifCond .ne 5, 3) := by decide +kernel
theorem d_RR_readComparison_7 : decode c_RR_readComparison 7 = .ok (.iconst 0, 1) := by decide +kernel
theorem d_RR_readComparison_8 : decode c_RR_readComparison 8 = .ok (.ireturn, 1) := by decide +kernel
theorem d_RR_readComparison_9 : decode c_RR_readComparison 9 = .ok (.aload_n 0, 1) := by decide +kernel
theorem d_RR_readComparison_10 : decode c_RR_readComparison 10 = .ok (.invokevirtual 66, 3) := by decide +kernel
theorem d_RR_readComparison_13 : decode c_RR_readComparison 13 = .ok (.istore_n 1, 1) := by decide +kernel
theorem d_RR_readComparison_14 : decode c_RR_readComparison 14 = .ok (.iload_n 1, 1) := by decide +kernel
theorem d_RR_readComparison_15 : decode c_RR_readComparison 15 = .ok (.bipush (-19), 2) := by decide +kernel
theorem d_RR_readComparison_17 : decode c_RR_readComparison 17 = .ok (.if_icmp .gt 9, 3) := by decide +kernel
theorem d_RR_readComparison_20 : decode c_RR_readComparison 20 = .ok (.iload_n 1, 1) := by decide +kernel
theorem d_RR_readComparison_21 : decode c_RR_readComparison 21 = .ok (.bipush (-21), 2) := by decide +kernel
theorem d_RR_readComparison_23 : decode c_RR_readComparison 23 = .ok (.if_icmp .ge 15, 3) := by decide +kernel
theorem d_RR_readComparison_26 : decode c_RR_readComparison 26 = .ok (.iload_n 1, 1) := by decide +kernel
theorem d_RR_readComparison_27 : decode c_RR_readComparison 27 = .ok (.bipush (-25), 2) := by decide +kernel
theorem d_RR_readComparison_29 : decode c_RR_readComparison 29 = .ok (.if_icmp .eq 9, 3) := by decide +kernel
theorem d_RR_readComparison_32 : decode c_RR_readComparison 32 = .ok (.iload_n 1, 1) := by decide +kernel
theorem d_RR_readComparison_33 : decode c_RR_readComparison 33 = .ok (.bipush (-26), 2) := by decide +kernel
theorem d_RR_readComparison_35 : decode c_RR_readComparison 35 = .ok (.if_icmp .ne 7, 3) := by decide +kernel
theorem d_RR_readComparison_38 : decode c_RR_readComparison 38 = .ok (.iconst 1, 1) := by decide +kernel
theorem d_RR_readComparison_39 : decode c_RR_readComparison 39 = .ok (.goto 4, 3) := by decide +kernel
theorem d_RR_readComparison_42 : decode c_RR_readComparison 42 = .ok (.iconst 0, 1) := by decide +kernel
theorem d_RR_readComparison_43 : decode c_RR_readComparison 43 = .ok (.istore_n 2, 1) := by decide +kernel
theorem d_RR_readComparison_44 : decode c_RR_readComparison 44 = .ok (.iload_n 2, 1) := by decide +kernel
theorem d_RR_readComparison_45 : decode c_RR_readComparison 45 = .ok (.ifCond .ne 9, 3) := by decide +kernel
theorem d_RR_readComparison_48 : decode c_RR_readComparison 48 = .ok (.aload_n 0, 1) := by decide +kernel
theorem d_RR_readComparison_49 : decode c_RR_readComparison 49 = .ok (.iconst 0, 1) := by decide +kernel
theorem d_RR_readComparison_50 : decode c_RR_readComparison 50 = .ok (.invokevirtual 70, 3) := by decide +kernel
theorem d_RR_readComparison_53 : decode c_RR_readComparison 53 = .ok (.ireturn, 1) := by decide +kernel
theorem d_RR_readComparison_54 : decode c_RR_readComparison 54 = .ok (.aload_n 0, 1) := by decide +kernel
theorem d_RR_readComparison_55 : decode c_RR_readComparison 55 = .ok (.getfield 36, 3) := by decide +kernel
theorem d_RR_readComparison_58 : decode c_RR_readComparison 58 = .ok (.bipush 60, 2) := by decide +kernel
theorem d_RR_readComparison_60 : decode c_RR_readComparison 60 = .ok (.if_icmp .lt 9, 3) := by decide +kernel
theorem d_RR_readComparison_63 : decode c_RR_readComparison 63 = .ok (.aload_n 0, 1) := by decide +kernel
theorem d_RR_readComparison_64 : decode c_RR_readComparison 64 = .ok (.iconst 3, 1) := by decide +kernel
theorem d_RR_readComparison_65 : decode c_RR_readComparison 65 = .ok (.invokevirtual 70, 3) := by decide +kernel
theorem d_RR_readComparison_68 : decode c_RR_readComparison 68 = .ok (.ireturn, 1) := by decide +kernel
theorem d_RR_readComparison_69 : decode c_RR_readComparison 69 = .ok (.aload_n 0, 1) := by decide +kernel
theorem d_RR_readComparison_70 : decode c_RR_readComparison 70 = .ok (.dup, 1) := by decide +kernel
theorem d_RR_readComparison_71 : decode c_RR_readComparison 71 = .ok (.getfield 36, 3) := by decide +kernel
theorem d_RR_readComparison_74 : decode c_RR_readComparison 74 = .ok (.iconst 1, 1) := by decide +kernel
theorem d_RR_readComparison_75 : decode c_RR_readComparison 75 = .ok (.iadd, 1) := by decide +kernel
theorem d_RR_readComparison_76 : decode c_RR_readComparison 76 = .ok (.putfield 36, 3) := by decide +kernel
theorem d_RR_readComparison_79 : decode c_RR_readComparison 79 = .ok (.aload_n 0, 1) := by decide +kernel
theorem d_RR_readComparison_80 : decode c_RR_readComparison 80 = .ok (.dup, 1) := by decide +kernel
theorem d_RR_readComparison_81 : decode c_RR_readComparison 81 = .ok (.getfield 32, 3) := by decide +kernel
theorem d_RR_readComparison_84 : decode c_RR_readComparison 84 = .ok (.iconst 1, 1) := by decide +kernel
theorem d_RR_readComparison_85 : decode c_RR_readComparison 85 = .ok (.iadd, 1) := by decide +kernel
theorem d_RR_readComparison_86 : decode c_RR_readComparison 86 = .ok (.putfield 32, 3) := by decide +kernel
theorem d_RR_readComparison_89 : decode c_RR_readComparison 89 = .ok (.aload_n 0, 1) := by decide +kernel
theorem d_RR_readComparison_90 : decode c_RR_readComparison 90 = .ok (.invokevirtual 46, 3) := by decide +kernel
theorem d_RR_readComparison_93 : decode c_RR_readComparison 93 = .ok (.ifCond .ne 5, 3) := by decide +kernel
theorem d_RR_readComparison_96 : decode c_RR_readComparison 96 = .ok (.iconst 0, 1) := by decide +kernel
theorem d_RR_readComparison_97 : decode c_RR_readComparison 97 = .ok (.ireturn, 1) := by decide +kernel
theorem d_RR_readComparison_98 : decode c_RR_readComparison 98 = .ok (.aload_n 0, 1) := by decide +kernel
theorem d_RR_readComparison_99 : decode c_RR_readComparison 99 = .ok (.getfield 21, 3) := by decide +kernel
theorem d_RR_readComparison_102 : decode c_RR_readComparison 102 = .ok (.iload_n 1, 1) := by decide +kernel
theorem d_RR_readComparison_103 : decode c_RR_readComparison 103 = .ok (.invokevirtual 129, 3) := by decide +kernel
theorem d_RR_readComparison_106 : decode c_RR_readComparison 106 = .ok (.iconst 1, 1) := by decide +kernel
theorem d_RR_readComparison_107 : decode c_RR_readComparison 107 = .ok (.ireturn, 1) := by decide +kernel
def S_RR_readComparison_0 (g : Gx) (Q : Int32 → St → Prop) (σ : St) : Prop := Ax g m_RR_readComparison 0 0 (ZI g Q) SH σ 0 0 0 [(0, .ref (gB g + 9))] []
def S_RR_readComparison_43 (g : Gx) (Q : Int32 → St → Prop) (σ : St) (x1 : Int32) (z0 : Int32) : Prop := Ax g m_RR_readComparison 0 0 (ZI g Q) SH σ 0 0 43 [(0, .ref (gB g + 9)), (1, .int x1)] [.int z0]
theorem sg_RR_readComparison_0 {g : Gx} {Q : Int32 → St → Prop} {σ : St}
    (h : K_RR_readSum g σ (fun (r2 : Int32) (s1 : St) => (¬ r2 = 0 → K_RR_tokenHere g s1 (fun (r4 : Int32) (s3 : St) => ((-19 : Int32) < r4 → (r4 = (-25 : Int32) → S_RR_readComparison_43 g Q s3 r4 (1 : Int32)) ∧ (¬ r4 = (-25 : Int32) → (¬ r4 = (-26 : Int32) → S_RR_readComparison_43 g Q s3 r4 (0 : Int32)) ∧ (r4 = (-26 : Int32) → S_RR_readComparison_43 g Q s3 r4 (1 : Int32)))) ∧ (¬ (-19 : Int32) < r4 → ((-21 : Int32) ≤ r4 → S_RR_readComparison_43 g Q s3 r4 (1 : Int32)) ∧ (¬ (-21 : Int32) ≤ r4 → (r4 = (-25 : Int32) → S_RR_readComparison_43 g Q s3 r4 (1 : Int32)) ∧ (¬ r4 = (-25 : Int32) → (¬ r4 = (-26 : Int32) → S_RR_readComparison_43 g Q s3 r4 (0 : Int32)) ∧ (r4 = (-26 : Int32) → S_RR_readComparison_43 g Q s3 r4 (1 : Int32))))))) ∧ (r2 = 0 → Q (0 : Int32) s1))) : S_RR_readComparison_0 g Q σ := by
  show Ax g m_RR_readComparison 0 0 (ZI g Q) SH σ 0 0 0 [(0, .ref (gB g + 9))] []
  refine a_aload_n (pc := 0) 0 rfl rfl d_RR_readComparison_0 ?_
  refine a_callV (pc := 1) (M' := m_RR_readSum) (As := []) (st := []) (mc' := 0) (ms' := 0) lk_RR_46 rfl sx_9 rfl (by decide) (by decide) rfl (Nat.le_of_ble_eq_true rfl) (Nat.le_refl 0) (Nat.le_refl 0) d_RR_readComparison_1 h ?_
  rintro _ _ s1 ⟨r2, rfl, rfl, h⟩ -
  show Ax g m_RR_readComparison 0 0 (ZI g Q) SH s1 0 0 4 [(0, .ref (gB g + 9))] [.int r2]
  refine a_if_ne (pc := 4) 9 (by decide) d_RR_readComparison_4 ⟨fun c0 => ?_, fun c0 => ?_⟩
  · replace h := h.1 c0
    refine a_aload_n (pc := 9) 0 rfl rfl d_RR_readComparison_9 ?_
    refine a_callV (pc := 10) (M' := m_RR_tokenHere) (As := []) (st := []) (mc' := 0) (ms' := 0) lk_RR_66 rfl sx_9 rfl (by decide) (by decide) rfl (Nat.le_of_ble_eq_true rfl) (Nat.le_refl 0) (Nat.le_refl 0) d_RR_readComparison_10 h ?_
    rintro _ _ s3 ⟨r4, rfl, rfl, h⟩ -
    show Ax g m_RR_readComparison 0 0 (ZI g Q) SH s3 0 0 13 [(0, .ref (gB g + 9))] [.int r4]
    refine a_istore_n (pc := 13) (lv' := [(1, .int r4), (0, .ref (gB g + 9))]) rfl (Nat.le_of_ble_eq_true rfl) rfl d_RR_readComparison_13 ?_
    refine a_iload_n (pc := 14) 0 rfl rfl d_RR_readComparison_14 ?_
    refine a_bipush (pc := 15) (-19 : Int32) (by decide) d_RR_readComparison_15 ?_
    refine a_icmp_gt (pc := 17) 26 (by decide) d_RR_readComparison_17 ⟨fun c0 => ?_, fun c0 => ?_⟩
    · replace h := h.1 c0
      refine a_iload_n (pc := 26) 0 rfl rfl d_RR_readComparison_26 ?_
      refine a_bipush (pc := 27) (-25 : Int32) (by decide) d_RR_readComparison_27 ?_
      refine a_icmp_eq (pc := 29) 38 (by decide) d_RR_readComparison_29 ⟨fun c0 => ?_, fun c0 => ?_⟩
      · replace h := h.1 c0
        refine a_iconst (pc := 38) (1 : Int32) (by decide) d_RR_readComparison_38 ?_
        refine a_goto (pc := 39) 43 (by decide) d_RR_readComparison_39 ?_
        refine a_sub (pc := 43) [1, 0] rfl ?_
        exact h
      · replace h := h.2 c0
        refine a_iload_n (pc := 32) 0 rfl rfl d_RR_readComparison_32 ?_
        refine a_bipush (pc := 33) (-26 : Int32) (by decide) d_RR_readComparison_33 ?_
        refine a_icmp_ne (pc := 35) 42 (by decide) d_RR_readComparison_35 ⟨fun c0 => ?_, fun c0 => ?_⟩
        · replace h := h.1 c0
          refine a_iconst (pc := 42) (0 : Int32) (by decide) d_RR_readComparison_42 ?_
          refine a_sub (pc := 43) [1, 0] rfl ?_
          exact h
        · replace h := h.2 c0
          refine a_iconst (pc := 38) (1 : Int32) (by decide) d_RR_readComparison_38 ?_
          refine a_goto (pc := 39) 43 (by decide) d_RR_readComparison_39 ?_
          refine a_sub (pc := 43) [1, 0] rfl ?_
          exact h
    · replace h := h.2 c0
      refine a_iload_n (pc := 20) 0 rfl rfl d_RR_readComparison_20 ?_
      refine a_bipush (pc := 21) (-21 : Int32) (by decide) d_RR_readComparison_21 ?_
      refine a_icmp_ge (pc := 23) 38 (by decide) d_RR_readComparison_23 ⟨fun c0 => ?_, fun c0 => ?_⟩
      · replace h := h.1 c0
        refine a_iconst (pc := 38) (1 : Int32) (by decide) d_RR_readComparison_38 ?_
        refine a_goto (pc := 39) 43 (by decide) d_RR_readComparison_39 ?_
        refine a_sub (pc := 43) [1, 0] rfl ?_
        exact h
      · replace h := h.2 c0
        refine a_iload_n (pc := 26) 0 rfl rfl d_RR_readComparison_26 ?_
        refine a_bipush (pc := 27) (-25 : Int32) (by decide) d_RR_readComparison_27 ?_
        refine a_icmp_eq (pc := 29) 38 (by decide) d_RR_readComparison_29 ⟨fun c0 => ?_, fun c0 => ?_⟩
        · replace h := h.1 c0
          refine a_iconst (pc := 38) (1 : Int32) (by decide) d_RR_readComparison_38 ?_
          refine a_goto (pc := 39) 43 (by decide) d_RR_readComparison_39 ?_
          refine a_sub (pc := 43) [1, 0] rfl ?_
          exact h
        · replace h := h.2 c0
          refine a_iload_n (pc := 32) 0 rfl rfl d_RR_readComparison_32 ?_
          refine a_bipush (pc := 33) (-26 : Int32) (by decide) d_RR_readComparison_33 ?_
          refine a_icmp_ne (pc := 35) 42 (by decide) d_RR_readComparison_35 ⟨fun c0 => ?_, fun c0 => ?_⟩
          · replace h := h.1 c0
            refine a_iconst (pc := 42) (0 : Int32) (by decide) d_RR_readComparison_42 ?_
            refine a_sub (pc := 43) [1, 0] rfl ?_
            exact h
          · replace h := h.2 c0
            refine a_iconst (pc := 38) (1 : Int32) (by decide) d_RR_readComparison_38 ?_
            refine a_goto (pc := 39) 43 (by decide) d_RR_readComparison_39 ?_
            refine a_sub (pc := 43) [1, 0] rfl ?_
            exact h
  · replace h := h.2 c0
    refine a_iconst (pc := 7) (0 : Int32) (by decide) d_RR_readComparison_7 ?_
    exact b_zret (pc := 8) rfl (Or.inl rfl) d_RR_readComparison_8 h
theorem sg_RR_readComparison_43 {g : Gx} {Q : Int32 → St → Prop} {σ : St} {x1 : Int32} {z0 : Int32}
    (h : (¬ z0 = 0 → ((fi σ 9 4) < (60 : Int32) → ∀ s1 : St, s1 = sfi σ 9 4 ((fi σ 9 4) + (1 : Int32)) → ∀ s2 : St, s2 = sfi s1 9 3 ((fi s1 9 3) + (1 : Int32)) → K_RR_readSum g s2 (fun (r4 : Int32) (s3 : St) => (¬ r4 = 0 → K_RU_add g 12 x1 s3 (fun s5 : St => Q (1 : Int32) s5)) ∧ (r4 = 0 → Q (0 : Int32) s3))) ∧ (¬ (fi σ 9 4) < (60 : Int32) → K_RR_blame g (3 : Int32) σ (fun (r7 : Int32) (s6 : St) => (r7 = 0 ∨ r7 = 1) ∧ Q r7 s6))) ∧ (z0 = 0 → K_RR_blame g (0 : Int32) σ (fun (r9 : Int32) (s8 : St) => (r9 = 0 ∨ r9 = 1) ∧ Q r9 s8))) : S_RR_readComparison_43 g Q σ x1 z0 := by
  show Ax g m_RR_readComparison 0 0 (ZI g Q) SH σ 0 0 43 [(0, .ref (gB g + 9)), (1, .int x1)] [.int z0]
  refine a_istore_n (pc := 43) (lv' := [(2, .int z0), (0, .ref (gB g + 9)), (1, .int x1)]) rfl (Nat.le_of_ble_eq_true rfl) rfl d_RR_readComparison_43 ?_
  refine a_iload_n (pc := 44) 0 rfl rfl d_RR_readComparison_44 ?_
  refine a_if_ne (pc := 45) 54 (by decide) d_RR_readComparison_45 ⟨fun c0 => ?_, fun c0 => ?_⟩
  · replace h := h.1 c0
    refine a_aload_n (pc := 54) 1 rfl rfl d_RR_readComparison_54 ?_
    refine a_getI (pc := 55) fg_RR_36 sx_9 rfl d_RR_readComparison_55 ?_
    refine a_bipush (pc := 58) (60 : Int32) (by decide) d_RR_readComparison_58 ?_
    refine a_icmp_lt (pc := 60) 69 (by decide) d_RR_readComparison_60 ⟨fun c0 => ?_, fun c0 => ?_⟩
    · replace h := h.1 c0
      refine a_aload_n (pc := 69) 1 rfl rfl d_RR_readComparison_69 ?_
      refine a_dup (pc := 70) rfl d_RR_readComparison_70 ?_
      refine a_getI (pc := 71) fg_RR_36 sx_9 rfl d_RR_readComparison_71 ?_
      refine a_iconst (pc := 74) (1 : Int32) (by decide) d_RR_readComparison_74 ?_
      refine a_iadd (pc := 75) d_RR_readComparison_75 ?_
      refine a_putI (pc := 76) fp_RR_36 sx_9 rfl d_RR_readComparison_76 ?_
      refine a_nms (fun s1 hs1 => ?_)
      replace h := h s1 hs1
      refine a_aload_n (pc := 79) 1 rfl rfl d_RR_readComparison_79 ?_
      refine a_dup (pc := 80) rfl d_RR_readComparison_80 ?_
      refine a_getI (pc := 81) fg_RR_32 sx_9 rfl d_RR_readComparison_81 ?_
      refine a_iconst (pc := 84) (1 : Int32) (by decide) d_RR_readComparison_84 ?_
      refine a_iadd (pc := 85) d_RR_readComparison_85 ?_
      refine a_putI (pc := 86) fp_RR_32 sx_9 rfl d_RR_readComparison_86 ?_
      refine a_nms (fun s2 hs2 => ?_)
      replace h := h s2 hs2
      refine a_aload_n (pc := 89) 1 rfl rfl d_RR_readComparison_89 ?_
      refine a_callV (pc := 90) (M' := m_RR_readSum) (As := []) (st := []) (mc' := 0) (ms' := 0) lk_RR_46 rfl sx_9 rfl (by decide) (by decide) rfl (Nat.le_of_ble_eq_true rfl) (Nat.le_refl 0) (Nat.le_refl 0) d_RR_readComparison_90 h ?_
      rintro _ _ s3 ⟨r4, rfl, rfl, h⟩ -
      show Ax g m_RR_readComparison 0 0 (ZI g Q) SH s3 0 0 93 [(2, .int z0), (0, .ref (gB g + 9)), (1, .int x1)] [.int r4]
      refine a_if_ne (pc := 93) 98 (by decide) d_RR_readComparison_93 ⟨fun c0 => ?_, fun c0 => ?_⟩
      · replace h := h.1 c0
        refine a_aload_n (pc := 98) 1 rfl rfl d_RR_readComparison_98 ?_
        refine a_getR (pc := 99) fg_RR_21 sx_9 rfl d_RR_readComparison_99 ?_
        refine a_iload_n (pc := 102) 2 rfl rfl d_RR_readComparison_102 ?_
        refine a_callV (pc := 103) (M' := m_RU_add) (As := [.int x1]) (st := []) (mc' := 0) (ms' := 0) lk_RR_129 rfl sx_12 rfl (by decide) (by decide) rfl (Nat.le_of_ble_eq_true rfl) (Nat.le_refl 0) (Nat.le_refl 0) d_RR_readComparison_103 h ?_
        rintro _ _ s5 ⟨rfl, rfl, h⟩ -
        show Ax g m_RR_readComparison 0 0 (ZI g Q) SH s5 0 0 106 [(2, .int z0), (0, .ref (gB g + 9)), (1, .int x1)] []
        refine a_iconst (pc := 106) (1 : Int32) (by decide) d_RR_readComparison_106 ?_
        exact b_zret (pc := 107) rfl (Or.inr rfl) d_RR_readComparison_107 h
      · replace h := h.2 c0
        refine a_iconst (pc := 96) (0 : Int32) (by decide) d_RR_readComparison_96 ?_
        exact b_zret (pc := 97) rfl (Or.inl rfl) d_RR_readComparison_97 h
    · replace h := h.2 c0
      refine a_aload_n (pc := 63) 1 rfl rfl d_RR_readComparison_63 ?_
      refine a_iconst (pc := 64) (3 : Int32) (by decide) d_RR_readComparison_64 ?_
      refine a_callV (pc := 65) (M' := m_RR_blame) (As := [.int (3 : Int32)]) (st := []) (mc' := 0) (ms' := 0) lk_RR_70 rfl sx_9 rfl (by decide) (by decide) rfl (Nat.le_of_ble_eq_true rfl) (Nat.le_refl 0) (Nat.le_refl 0) d_RR_readComparison_65 h ?_
      rintro _ _ s6 ⟨r7, rfl, rfl, h⟩ -
      show Ax g m_RR_readComparison 0 0 (ZI g Q) SH s6 0 0 68 [(2, .int z0), (0, .ref (gB g + 9)), (1, .int x1)] [.int r7]
      exact b_zret (pc := 68) rfl h.1 d_RR_readComparison_68 h.2
  · replace h := h.2 c0
    refine a_aload_n (pc := 48) 1 rfl rfl d_RR_readComparison_48 ?_
    refine a_iconst (pc := 49) (0 : Int32) (by decide) d_RR_readComparison_49 ?_
    refine a_callV (pc := 50) (M' := m_RR_blame) (As := [.int (0 : Int32)]) (st := []) (mc' := 0) (ms' := 0) lk_RR_70 rfl sx_9 rfl (by decide) (by decide) rfl (Nat.le_of_ble_eq_true rfl) (Nat.le_refl 0) (Nat.le_refl 0) d_RR_readComparison_50 h ?_
    rintro _ _ s8 ⟨r9, rfl, rfl, h⟩ -
    show Ax g m_RR_readComparison 0 0 (ZI g Q) SH s8 0 0 53 [(2, .int z0), (0, .ref (gB g + 9)), (1, .int x1)] [.int r9]
    exact b_zret (pc := 53) rfl h.1 d_RR_readComparison_53 h.2
theorem ko_RR_readComparison {g : Gx}  {σ : St} {Q : Int32 → St → Prop} (h : S_RR_readComparison_0 g Q σ) : K_RR_readComparison g  σ Q := KI.of (show plainName "BallBox$RuleReader" = true by decide) (Nat.le_of_ble_eq_true rfl) h
theorem d_RR_readSum_0 : decode c_RR_readSum 0 = .ok (.aload_n 0, 1) := by decide +kernel
theorem d_RR_readSum_1 : decode c_RR_readSum 1 = .ok (.invokevirtual 136, 3) := by decide +kernel
theorem d_RR_readSum_4 : decode c_RR_readSum 4 = .ok (.ifCond .ne 5, 3) := by decide +kernel
theorem d_RR_readSum_7 : decode c_RR_readSum 7 = .ok (.iconst 0, 1) := by decide +kernel
theorem d_RR_readSum_8 : decode c_RR_readSum 8 = .ok (.ireturn, 1) := by decide +kernel
theorem d_RR_readSum_9 : decode c_RR_readSum 9 = .ok (.iconst 0, 1) := by decide +kernel
theorem d_RR_readSum_10 : decode c_RR_readSum 10 = .ok (.istore_n 1, 1) := by decide +kernel
theorem d_RR_readSum_11 : decode c_RR_readSum 11 = .ok (.iconst 0, 1) := by decide +kernel
theorem d_RR_readSum_12 : decode c_RR_readSum 12 = .ok (.istore_n 2, 1) := by decide +kernel
theorem d_RR_readSum_13 : decode c_RR_readSum 13 = .ok (.iload_n 2, 1) := by decide +kernel
theorem d_RR_readSum_14 : decode c_RR_readSum 14 = .ok (.sipush 401, 3) := by decide +kernel
theorem d_RR_readSum_17 : decode c_RR_readSum 17 = .ok (.if_icmp .ge 93, 3) := by decide +kernel
theorem d_RR_readSum_20 : decode c_RR_readSum 20 = .ok (.aload_n 0, 1) := by decide +kernel
theorem d_RR_readSum_21 : decode c_RR_readSum 21 = .ok (.invokevirtual 66, 3) := by decide +kernel
theorem d_RR_readSum_24 : decode c_RR_readSum 24 = .ok (.istore_n 3, 1) := by decide +kernel
theorem d_RR_readSum_25 : decode c_RR_readSum 25 = .ok (.iload_n 3, 1) := by decide +kernel
theorem d_RR_readSum_26 : decode c_RR_readSum 26 = .ok (.bipush (-14), 2) := by decide +kernel
theorem d_RR_readSum_28 : decode c_RR_readSum 28 = .ok (.if_icmp .gt 82, 3) := by decide +kernel
theorem d_RR_readSum_31 : decode c_RR_readSum 31 = .ok (.iload_n 3, 1) := by decide +kernel
theorem d_RR_readSum_32 : decode c_RR_readSum 32 = .ok (.bipush (-18), 2) := by decide +kernel
theorem d_RR_readSum_34 : decode c_RR_readSum 34 = .ok (.if_icmp .ge 6, 3) := by decide +kernel
theorem d_RR_readSum_37 : decode c_RR_readSum 37 = .ok (.goto 73, 3) := by decide +kernel
theorem d_RR_readSum_40 : decode c_RR_readSum 40 = .ok (.iload_n 3, 1) := by decide +kernel
theorem d_RR_readSum_41 : decode c_RR_readSum 41 = .ok (.bipush (-16), 2) := by decide +kernel
theorem d_RR_readSum_43 : decode c_RR_readSum 43 = .ok (.if_icmp .gt 7, 3) := by decide +kernel
theorem d_RR_readSum_46 : decode c_RR_readSum 46 = .ok (.iconst 1, 1) := by decide +kernel
theorem d_RR_readSum_47 : decode c_RR_readSum 47 = .ok (.goto 4, 3) := by decide +kernel
theorem d_RR_readSum_50 : decode c_RR_readSum 50 = .ok (.iconst 0, 1) := by decide +kernel
theorem d_RR_readSum_51 : decode c_RR_readSum 51 = .ok (.istore 4, 2) := by decide +kernel
theorem d_RR_readSum_53 : decode c_RR_readSum 53 = .ok (.iload 4, 2) := by decide +kernel
theorem d_RR_readSum_55 : decode c_RR_readSum 55 = .ok (.ifCond .ne 17, 3) := by decide +kernel
theorem d_RR_readSum_58 : decode c_RR_readSum 58 = .ok (.iload_n 1, 1) := by decide +kernel
theorem d_RR_readSum_59 : decode c_RR_readSum 59 = .ok (.ifCond .eq 11, 3) := by decide +kernel
theorem d_RR_readSum_62 : decode c_RR_readSum 62 = .ok (.aload_n 0, 1) := by decide +kernel
theorem d_RR_readSum_63 : decode c_RR_readSum 63 = .ok (.getfield 21, 3) := by decide +kernel
theorem d_RR_readSum_66 : decode c_RR_readSum 66 = .ok (.iload_n 1, 1) := by decide +kernel
theorem d_RR_readSum_67 : decode c_RR_readSum 67 = .ok (.invokevirtual 129, 3) := by decide +kernel
theorem d_RR_readSum_70 : decode c_RR_readSum 70 = .ok (.iload_n 3, 1) := by decide +kernel
theorem d_RR_readSum_71 : decode c_RR_readSum 71 = .ok (.istore_n 1, 1) := by decide +kernel
theorem d_RR_readSum_72 : decode c_RR_readSum 72 = .ok (.aload_n 0, 1) := by decide +kernel
theorem d_RR_readSum_73 : decode c_RR_readSum 73 = .ok (.dup, 1) := by decide +kernel
theorem d_RR_readSum_74 : decode c_RR_readSum 74 = .ok (.getfield 32, 3) := by decide +kernel
theorem d_RR_readSum_77 : decode c_RR_readSum 77 = .ok (.iconst 1, 1) := by decide +kernel
theorem d_RR_readSum_78 : decode c_RR_readSum 78 = .ok (.iadd, 1) := by decide +kernel
theorem d_RR_readSum_79 : decode c_RR_readSum 79 = .ok (.putfield 32, 3) := by decide +kernel
theorem d_RR_readSum_82 : decode c_RR_readSum 82 = .ok (.aload_n 0, 1) := by decide +kernel
theorem d_RR_readSum_83 : decode c_RR_readSum 83 = .ok (.invokevirtual 136, 3) := by decide +kernel
theorem d_RR_readSum_86 : decode c_RR_readSum 86 = .ok (.ifCond .ne 5, 3) := by decide +kernel
theorem d_RR_readSum_89 : decode c_RR_readSum 89 = .ok (.iconst 0, 1) := by decide +kernel
theorem d_RR_readSum_90 : decode c_RR_readSum 90 = .ok (.ireturn, 1) := by decide +kernel
theorem d_RR_readSum_91 : decode c_RR_readSum 91 = .ok (.iload 4, 2) := by decide +kernel
theorem d_RR_readSum_93 : decode c_RR_readSum 93 = .ok (.ifCond .eq 11, 3) := by decide +kernel
theorem d_RR_readSum_96 : decode c_RR_readSum 96 = .ok (.aload_n 0, 1) := by decide +kernel
theorem d_RR_readSum_97 : decode c_RR_readSum 97 = .ok (.getfield 21, 3) := by decide +kernel
theorem d_RR_readSum_100 : decode c_RR_readSum 100 = .ok (.iload_n 3, 1) := by decide +kernel
theorem d_RR_readSum_101 : decode c_RR_readSum 101 = .ok (.invokevirtual 129, 3) := by decide +kernel
theorem d_RR_readSum_104 : decode c_RR_readSum 104 = .ok (.iinc 2 1, 3) := by decide +kernel
theorem d_RR_readSum_107 : decode c_RR_readSum 107 = .ok (.goto (-94), 3) := by decide +kernel
theorem d_RR_readSum_110 : decode c_RR_readSum 110 = .ok (.iload_n 1, 1) := by decide +kernel
theorem d_RR_readSum_111 : decode c_RR_readSum 111 = .ok (.ifCond .eq 11, 3) := by decide +kernel
theorem d_RR_readSum_114 : decode c_RR_readSum 114 = .ok (.aload_n 0, 1) := by decide +kernel
theorem d_RR_readSum_115 : decode c_RR_readSum 115 = .ok (.getfield 21, 3) := by decide +kernel
theorem d_RR_readSum_118 : decode c_RR_readSum 118 = .ok (.iload_n 1, 1) := by decide +kernel
theorem d_RR_readSum_119 : decode c_RR_readSum 119 = .ok (.invokevirtual 129, 3) := by decide +kernel
theorem d_RR_readSum_122 : decode c_RR_readSum 122 = .ok (.iconst 1, 1) := by decide +kernel
theorem d_RR_readSum_123 : decode c_RR_readSum 123 = .ok (.ireturn, 1) := by decide +kernel
def S_RR_readSum_0 (g : Gx) (Q : Int32 → St → Prop) (σ : St) : Prop := Ax g m_RR_readSum 0 0 (ZI g Q) SH σ 0 0 0 [(0, .ref (gB g + 9))] []
def S_RR_readSum_13 (g : Gx) (Q : Int32 → St → Prop) (σ : St) (x1 : Int32) (x2 : Int32) : Prop := Ax g m_RR_readSum 0 0 (ZI g Q) SH σ 0 0 13 [(0, .ref (gB g + 9)), (1, .int x1), (2, .int x2)] []
def S_RR_readSum_51 (g : Gx) (Q : Int32 → St → Prop) (σ : St) (x1 : Int32) (x2 : Int32) (x3 : Int32) (z0 : Int32) : Prop := Ax g m_RR_readSum 0 0 (ZI g Q) SH σ 0 0 51 [(0, .ref (gB g + 9)), (1, .int x1), (2, .int x2), (3, .int x3)] [.int z0]
def S_RR_readSum_72 (g : Gx) (Q : Int32 → St → Prop) (σ : St) (x1 : Int32) (x2 : Int32) (x3 : Int32) (x4 : Int32) : Prop := Ax g m_RR_readSum 0 0 (ZI g Q) SH σ 0 0 72 [(0, .ref (gB g + 9)), (1, .int x1), (2, .int x2), (3, .int x3), (4, .int x4)] []
theorem sg_RR_readSum_0 {g : Gx} {Q : Int32 → St → Prop} {σ : St}
    (h : K_RR_readValue g σ (fun (r2 : Int32) (s1 : St) => (¬ r2 = 0 → S_RR_readSum_13 g Q s1 (0 : Int32) (0 : Int32)) ∧ (r2 = 0 → Q (0 : Int32) s1))) : S_RR_readSum_0 g Q σ := by
  show Ax g m_RR_readSum 0 0 (ZI g Q) SH σ 0 0 0 [(0, .ref (gB g + 9))] []
  refine a_aload_n (pc := 0) 0 rfl rfl d_RR_readSum_0 ?_
  refine a_callV (pc := 1) (M' := m_RR_readValue) (As := []) (st := []) (mc' := 0) (ms' := 0) lk_RR_136 rfl sx_9 rfl (by decide) (by decide) rfl (Nat.le_of_ble_eq_true rfl) (Nat.le_refl 0) (Nat.le_refl 0) d_RR_readSum_1 h ?_
  rintro _ _ s1 ⟨r2, rfl, rfl, h⟩ -
  show Ax g m_RR_readSum 0 0 (ZI g Q) SH s1 0 0 4 [(0, .ref (gB g + 9))] [.int r2]
  refine a_if_ne (pc := 4) 9 (by decide) d_RR_readSum_4 ⟨fun c0 => ?_, fun c0 => ?_⟩
  · replace h := h.1 c0
    refine a_iconst (pc := 9) (0 : Int32) (by decide) d_RR_readSum_9 ?_
    refine a_istore_n (pc := 10) (lv' := [(1, .int (0 : Int32)), (0, .ref (gB g + 9))]) rfl (Nat.le_of_ble_eq_true rfl) rfl d_RR_readSum_10 ?_
    refine a_iconst (pc := 11) (0 : Int32) (by decide) d_RR_readSum_11 ?_
    refine a_istore_n (pc := 12) (lv' := [(2, .int (0 : Int32)), (1, .int (0 : Int32)), (0, .ref (gB g + 9))]) rfl (Nat.le_of_ble_eq_true rfl) rfl d_RR_readSum_12 ?_
    refine a_sub (pc := 13) [2, 1, 0] rfl ?_
    exact h
  · replace h := h.2 c0
    refine a_iconst (pc := 7) (0 : Int32) (by decide) d_RR_readSum_7 ?_
    exact b_zret (pc := 8) rfl (Or.inl rfl) d_RR_readSum_8 h
theorem sg_RR_readSum_13 {g : Gx} {Q : Int32 → St → Prop} {σ : St} {x1 : Int32} {x2 : Int32}
    (h : ((401 : Int32) ≤ x2 → (x1 = 0 → Q (1 : Int32) σ) ∧ (¬ x1 = 0 → K_RU_add g 12 x1 σ (fun s1 : St => Q (1 : Int32) s1))) ∧ (¬ (401 : Int32) ≤ x2 → K_RR_tokenHere g σ (fun (r3 : Int32) (s2 : St) => ((-14 : Int32) < r3 → (x1 = 0 → Q (1 : Int32) s2) ∧ (¬ x1 = 0 → K_RU_add g 12 x1 s2 (fun s4 : St => Q (1 : Int32) s4))) ∧ (¬ (-14 : Int32) < r3 → ((-18 : Int32) ≤ r3 → ((-16 : Int32) < r3 → S_RR_readSum_51 g Q s2 x1 x2 r3 (0 : Int32)) ∧ (¬ (-16 : Int32) < r3 → S_RR_readSum_51 g Q s2 x1 x2 r3 (1 : Int32))) ∧ (¬ (-18 : Int32) ≤ r3 → (x1 = 0 → Q (1 : Int32) s2) ∧ (¬ x1 = 0 → K_RU_add g 12 x1 s2 (fun s5 : St => Q (1 : Int32) s5))))))) : S_RR_readSum_13 g Q σ x1 x2 := by
  show Ax g m_RR_readSum 0 0 (ZI g Q) SH σ 0 0 13 [(0, .ref (gB g + 9)), (1, .int x1), (2, .int x2)] []
  refine a_iload_n (pc := 13) 2 rfl rfl d_RR_readSum_13 ?_
  refine a_sipush (pc := 14) (401 : Int32) (by decide) d_RR_readSum_14 ?_
  refine a_icmp_ge (pc := 17) 110 (by decide) d_RR_readSum_17 ⟨fun c0 => ?_, fun c0 => ?_⟩
  · replace h := h.1 c0
    refine a_iload_n (pc := 110) 1 rfl rfl d_RR_readSum_110 ?_
    refine a_if_eq (pc := 111) 122 (by decide) d_RR_readSum_111 ⟨fun c0 => ?_, fun c0 => ?_⟩
    · replace h := h.1 c0
      refine a_iconst (pc := 122) (1 : Int32) (by decide) d_RR_readSum_122 ?_
      exact b_zret (pc := 123) rfl (Or.inr rfl) d_RR_readSum_123 h
    · replace h := h.2 c0
      refine a_aload_n (pc := 114) 0 rfl rfl d_RR_readSum_114 ?_
      refine a_getR (pc := 115) fg_RR_21 sx_9 rfl d_RR_readSum_115 ?_
      refine a_iload_n (pc := 118) 1 rfl rfl d_RR_readSum_118 ?_
      refine a_callV (pc := 119) (M' := m_RU_add) (As := [.int x1]) (st := []) (mc' := 0) (ms' := 0) lk_RR_129 rfl sx_12 rfl (by decide) (by decide) rfl (Nat.le_of_ble_eq_true rfl) (Nat.le_refl 0) (Nat.le_refl 0) d_RR_readSum_119 h ?_
      rintro _ _ s1 ⟨rfl, rfl, h⟩ -
      show Ax g m_RR_readSum 0 0 (ZI g Q) SH s1 0 0 122 [(0, .ref (gB g + 9)), (1, .int x1), (2, .int x2)] []
      refine a_iconst (pc := 122) (1 : Int32) (by decide) d_RR_readSum_122 ?_
      exact b_zret (pc := 123) rfl (Or.inr rfl) d_RR_readSum_123 h
  · replace h := h.2 c0
    refine a_aload_n (pc := 20) 0 rfl rfl d_RR_readSum_20 ?_
    refine a_callV (pc := 21) (M' := m_RR_tokenHere) (As := []) (st := []) (mc' := 0) (ms' := 0) lk_RR_66 rfl sx_9 rfl (by decide) (by decide) rfl (Nat.le_of_ble_eq_true rfl) (Nat.le_refl 0) (Nat.le_refl 0) d_RR_readSum_21 h ?_
    rintro _ _ s2 ⟨r3, rfl, rfl, h⟩ -
    show Ax g m_RR_readSum 0 0 (ZI g Q) SH s2 0 0 24 [(0, .ref (gB g + 9)), (1, .int x1), (2, .int x2)] [.int r3]
    refine a_istore_n (pc := 24) (lv' := [(3, .int r3), (0, .ref (gB g + 9)), (1, .int x1), (2, .int x2)]) rfl (Nat.le_of_ble_eq_true rfl) rfl d_RR_readSum_24 ?_
    refine a_iload_n (pc := 25) 0 rfl rfl d_RR_readSum_25 ?_
    refine a_bipush (pc := 26) (-14 : Int32) (by decide) d_RR_readSum_26 ?_
    refine a_icmp_gt (pc := 28) 110 (by decide) d_RR_readSum_28 ⟨fun c0 => ?_, fun c0 => ?_⟩
    · replace h := h.1 c0
      refine a_iload_n (pc := 110) 2 rfl rfl d_RR_readSum_110 ?_
      refine a_if_eq (pc := 111) 122 (by decide) d_RR_readSum_111 ⟨fun c0 => ?_, fun c0 => ?_⟩
      · replace h := h.1 c0
        refine a_iconst (pc := 122) (1 : Int32) (by decide) d_RR_readSum_122 ?_
        exact b_zret (pc := 123) rfl (Or.inr rfl) d_RR_readSum_123 h
      · replace h := h.2 c0
        refine a_aload_n (pc := 114) 1 rfl rfl d_RR_readSum_114 ?_
        refine a_getR (pc := 115) fg_RR_21 sx_9 rfl d_RR_readSum_115 ?_
        refine a_iload_n (pc := 118) 2 rfl rfl d_RR_readSum_118 ?_
        refine a_callV (pc := 119) (M' := m_RU_add) (As := [.int x1]) (st := []) (mc' := 0) (ms' := 0) lk_RR_129 rfl sx_12 rfl (by decide) (by decide) rfl (Nat.le_of_ble_eq_true rfl) (Nat.le_refl 0) (Nat.le_refl 0) d_RR_readSum_119 h ?_
        rintro _ _ s4 ⟨rfl, rfl, h⟩ -
        show Ax g m_RR_readSum 0 0 (ZI g Q) SH s4 0 0 122 [(3, .int r3), (0, .ref (gB g + 9)), (1, .int x1), (2, .int x2)] []
        refine a_iconst (pc := 122) (1 : Int32) (by decide) d_RR_readSum_122 ?_
        exact b_zret (pc := 123) rfl (Or.inr rfl) d_RR_readSum_123 h
    · replace h := h.2 c0
      refine a_iload_n (pc := 31) 0 rfl rfl d_RR_readSum_31 ?_
      refine a_bipush (pc := 32) (-18 : Int32) (by decide) d_RR_readSum_32 ?_
      refine a_icmp_ge (pc := 34) 40 (by decide) d_RR_readSum_34 ⟨fun c0 => ?_, fun c0 => ?_⟩
      · replace h := h.1 c0
        refine a_iload_n (pc := 40) 0 rfl rfl d_RR_readSum_40 ?_
        refine a_bipush (pc := 41) (-16 : Int32) (by decide) d_RR_readSum_41 ?_
        refine a_icmp_gt (pc := 43) 50 (by decide) d_RR_readSum_43 ⟨fun c0 => ?_, fun c0 => ?_⟩
        · replace h := h.1 c0
          refine a_iconst (pc := 50) (0 : Int32) (by decide) d_RR_readSum_50 ?_
          refine a_sub (pc := 51) [1, 2, 3, 0] rfl ?_
          exact h
        · replace h := h.2 c0
          refine a_iconst (pc := 46) (1 : Int32) (by decide) d_RR_readSum_46 ?_
          refine a_goto (pc := 47) 51 (by decide) d_RR_readSum_47 ?_
          refine a_sub (pc := 51) [1, 2, 3, 0] rfl ?_
          exact h
      · replace h := h.2 c0
        refine a_goto (pc := 37) 110 (by decide) d_RR_readSum_37 ?_
        refine a_iload_n (pc := 110) 2 rfl rfl d_RR_readSum_110 ?_
        refine a_if_eq (pc := 111) 122 (by decide) d_RR_readSum_111 ⟨fun c0 => ?_, fun c0 => ?_⟩
        · replace h := h.1 c0
          refine a_iconst (pc := 122) (1 : Int32) (by decide) d_RR_readSum_122 ?_
          exact b_zret (pc := 123) rfl (Or.inr rfl) d_RR_readSum_123 h
        · replace h := h.2 c0
          refine a_aload_n (pc := 114) 1 rfl rfl d_RR_readSum_114 ?_
          refine a_getR (pc := 115) fg_RR_21 sx_9 rfl d_RR_readSum_115 ?_
          refine a_iload_n (pc := 118) 2 rfl rfl d_RR_readSum_118 ?_
          refine a_callV (pc := 119) (M' := m_RU_add) (As := [.int x1]) (st := []) (mc' := 0) (ms' := 0) lk_RR_129 rfl sx_12 rfl (by decide) (by decide) rfl (Nat.le_of_ble_eq_true rfl) (Nat.le_refl 0) (Nat.le_refl 0) d_RR_readSum_119 h ?_
          rintro _ _ s5 ⟨rfl, rfl, h⟩ -
          show Ax g m_RR_readSum 0 0 (ZI g Q) SH s5 0 0 122 [(3, .int r3), (0, .ref (gB g + 9)), (1, .int x1), (2, .int x2)] []
          refine a_iconst (pc := 122) (1 : Int32) (by decide) d_RR_readSum_122 ?_
          exact b_zret (pc := 123) rfl (Or.inr rfl) d_RR_readSum_123 h
theorem sg_RR_readSum_51 {g : Gx} {Q : Int32 → St → Prop} {σ : St} {x1 : Int32} {x2 : Int32} {x3 : Int32} {z0 : Int32}
    (h : (¬ z0 = 0 → S_RR_readSum_72 g Q σ x1 x2 x3 z0) ∧ (z0 = 0 → (x1 = 0 → S_RR_readSum_72 g Q σ x3 x2 x3 z0) ∧ (¬ x1 = 0 → K_RU_add g 12 x1 σ (fun s1 : St => S_RR_readSum_72 g Q s1 x3 x2 x3 z0)))) : S_RR_readSum_51 g Q σ x1 x2 x3 z0 := by
  show Ax g m_RR_readSum 0 0 (ZI g Q) SH σ 0 0 51 [(0, .ref (gB g + 9)), (1, .int x1), (2, .int x2), (3, .int x3)] [.int z0]
  refine a_istore (pc := 51) (lv' := [(4, .int z0), (0, .ref (gB g + 9)), (1, .int x1), (2, .int x2), (3, .int x3)]) (Nat.le_of_ble_eq_true rfl) rfl d_RR_readSum_51 ?_
  refine a_iload (pc := 53) 0 rfl d_RR_readSum_53 ?_
  refine a_if_ne (pc := 55) 72 (by decide) d_RR_readSum_55 ⟨fun c0 => ?_, fun c0 => ?_⟩
  · replace h := h.1 c0
    refine a_sub (pc := 72) [1, 2, 3, 4, 0] rfl ?_
    exact h
  · replace h := h.2 c0
    refine a_iload_n (pc := 58) 2 rfl rfl d_RR_readSum_58 ?_
    refine a_if_eq (pc := 59) 70 (by decide) d_RR_readSum_59 ⟨fun c0 => ?_, fun c0 => ?_⟩
    · replace h := h.1 c0
      refine a_iload_n (pc := 70) 4 rfl rfl d_RR_readSum_70 ?_
      refine a_istore_n (pc := 71) (lv' := [(1, .int x3), (4, .int z0), (0, .ref (gB g + 9)), (2, .int x2), (3, .int x3)]) rfl (Nat.le_of_ble_eq_true rfl) rfl d_RR_readSum_71 ?_
      refine a_sub (pc := 72) [2, 0, 3, 4, 1] rfl ?_
      exact h
    · replace h := h.2 c0
      refine a_aload_n (pc := 62) 1 rfl rfl d_RR_readSum_62 ?_
      refine a_getR (pc := 63) fg_RR_21 sx_9 rfl d_RR_readSum_63 ?_
      refine a_iload_n (pc := 66) 2 rfl rfl d_RR_readSum_66 ?_
      refine a_callV (pc := 67) (M' := m_RU_add) (As := [.int x1]) (st := []) (mc' := 0) (ms' := 0) lk_RR_129 rfl sx_12 rfl (by decide) (by decide) rfl (Nat.le_of_ble_eq_true rfl) (Nat.le_refl 0) (Nat.le_refl 0) d_RR_readSum_67 h ?_
      rintro _ _ s1 ⟨rfl, rfl, h⟩ -
      show Ax g m_RR_readSum 0 0 (ZI g Q) SH s1 0 0 70 [(4, .int z0), (0, .ref (gB g + 9)), (1, .int x1), (2, .int x2), (3, .int x3)] []
      refine a_iload_n (pc := 70) 4 rfl rfl d_RR_readSum_70 ?_
      refine a_istore_n (pc := 71) (lv' := [(1, .int x3), (4, .int z0), (0, .ref (gB g + 9)), (2, .int x2), (3, .int x3)]) rfl (Nat.le_of_ble_eq_true rfl) rfl d_RR_readSum_71 ?_
      refine a_sub (pc := 72) [2, 0, 3, 4, 1] rfl ?_
      exact h
theorem sg_RR_readSum_72 {g : Gx} {Q : Int32 → St → Prop} {σ : St} {x1 : Int32} {x2 : Int32} {x3 : Int32} {x4 : Int32}
    (h : ∀ s1 : St, s1 = sfi σ 9 3 ((fi σ 9 3) + (1 : Int32)) → K_RR_readValue g s1 (fun (r3 : Int32) (s2 : St) => (¬ r3 = 0 → (x4 = 0 → ∀ u4 : Int32, u4 = x2 + (1 : Int32) → S_RR_readSum_13 g Q s2 x1 u4) ∧ (¬ x4 = 0 → K_RU_add g 12 x3 s2 (fun s5 : St => ∀ u6 : Int32, u6 = x2 + (1 : Int32) → S_RR_readSum_13 g Q s5 x1 u6))) ∧ (r3 = 0 → Q (0 : Int32) s2))) : S_RR_readSum_72 g Q σ x1 x2 x3 x4 := by
  show Ax g m_RR_readSum 0 0 (ZI g Q) SH σ 0 0 72 [(0, .ref (gB g + 9)), (1, .int x1), (2, .int x2), (3, .int x3), (4, .int x4)] []
  refine a_aload_n (pc := 72) 0 rfl rfl d_RR_readSum_72 ?_
  refine a_dup (pc := 73) rfl d_RR_readSum_73 ?_
  refine a_getI (pc := 74) fg_RR_32 sx_9 rfl d_RR_readSum_74 ?_
  refine a_iconst (pc := 77) (1 : Int32) (by decide) d_RR_readSum_77 ?_
  refine a_iadd (pc := 78) d_RR_readSum_78 ?_
  refine a_putI (pc := 79) fp_RR_32 sx_9 rfl d_RR_readSum_79 ?_
  refine a_nms (fun s1 hs1 => ?_)
  replace h := h s1 hs1
  refine a_aload_n (pc := 82) 0 rfl rfl d_RR_readSum_82 ?_
  refine a_callV (pc := 83) (M' := m_RR_readValue) (As := []) (st := []) (mc' := 0) (ms' := 0) lk_RR_136 rfl sx_9 rfl (by decide) (by decide) rfl (Nat.le_of_ble_eq_true rfl) (Nat.le_refl 0) (Nat.le_refl 0) d_RR_readSum_83 h ?_
  rintro _ _ s2 ⟨r3, rfl, rfl, h⟩ -
  show Ax g m_RR_readSum 0 0 (ZI g Q) SH s2 0 0 86 [(0, .ref (gB g + 9)), (1, .int x1), (2, .int x2), (3, .int x3), (4, .int x4)] [.int r3]
  refine a_if_ne (pc := 86) 91 (by decide) d_RR_readSum_86 ⟨fun c0 => ?_, fun c0 => ?_⟩
  · replace h := h.1 c0
    refine a_iload (pc := 91) 4 rfl d_RR_readSum_91 ?_
    refine a_if_eq (pc := 93) 104 (by decide) d_RR_readSum_93 ⟨fun c0 => ?_, fun c0 => ?_⟩
    · replace h := h.1 c0
      obtain ⟨u4, hu4⟩ : ∃ y : Int32, y = x2 + (1 : Int32) := ⟨_, rfl⟩
      replace h := h u4 hu4
      refine a_iinc (pc := 104) (v := u4) (lv' := [(2, .int u4), (0, .ref (gB g + 9)), (1, .int x1), (3, .int x3), (4, .int x4)]) 2 rfl (by rw [hu4]; rfl) (Nat.le_of_ble_eq_true rfl) rfl d_RR_readSum_104 ?_
      refine a_goto (pc := 107) 13 (by decide) d_RR_readSum_107 ?_
      refine a_sub (pc := 13) [1, 2, 0] rfl ?_
      exact h
    · replace h := h.2 c0
      refine a_aload_n (pc := 96) 0 rfl rfl d_RR_readSum_96 ?_
      refine a_getR (pc := 97) fg_RR_21 sx_9 rfl d_RR_readSum_97 ?_
      refine a_iload_n (pc := 100) 3 rfl rfl d_RR_readSum_100 ?_
      refine a_callV (pc := 101) (M' := m_RU_add) (As := [.int x3]) (st := []) (mc' := 0) (ms' := 0) lk_RR_129 rfl sx_12 rfl (by decide) (by decide) rfl (Nat.le_of_ble_eq_true rfl) (Nat.le_refl 0) (Nat.le_refl 0) d_RR_readSum_101 h ?_
      rintro _ _ s5 ⟨rfl, rfl, h⟩ -
      show Ax g m_RR_readSum 0 0 (ZI g Q) SH s5 0 0 104 [(0, .ref (gB g + 9)), (1, .int x1), (2, .int x2), (3, .int x3), (4, .int x4)] []
      obtain ⟨u6, hu6⟩ : ∃ y : Int32, y = x2 + (1 : Int32) := ⟨_, rfl⟩
      replace h := h u6 hu6
      refine a_iinc (pc := 104) (v := u6) (lv' := [(2, .int u6), (0, .ref (gB g + 9)), (1, .int x1), (3, .int x3), (4, .int x4)]) 2 rfl (by rw [hu6]; rfl) (Nat.le_of_ble_eq_true rfl) rfl d_RR_readSum_104 ?_
      refine a_goto (pc := 107) 13 (by decide) d_RR_readSum_107 ?_
      refine a_sub (pc := 13) [1, 2, 0] rfl ?_
      exact h
  · replace h := h.2 c0
    refine a_iconst (pc := 89) (0 : Int32) (by decide) d_RR_readSum_89 ?_
    exact b_zret (pc := 90) rfl (Or.inl rfl) d_RR_readSum_90 h
theorem ko_RR_readSum {g : Gx}  {σ : St} {Q : Int32 → St → Prop} (h : S_RR_readSum_0 g Q σ) : K_RR_readSum g  σ Q := KI.of (show plainName "BallBox$RuleReader" = true by decide) (Nat.le_of_ble_eq_true rfl) h
theorem d_RR_readValue_0 : decode c_RR_readValue 0 = .ok (.aload_n 0, 1) := by decide +kernel
theorem d_RR_readValue_1 : decode c_RR_readValue 1 = .ok (.invokevirtual 66, 3) := by decide +kernel
theorem d_RR_readValue_4 : decode c_RR_readValue 4 = .ok (.istore_n 1, 1) := by decide +kernel
theorem d_RR_readValue_5 : decode c_RR_readValue 5 = .ok (.iload_n 1, 1) := by decide +kernel
theorem d_RR_readValue_6 : decode c_RR_readValue 6 = .ok (.bipush (-27), 2) := by decide +kernel
theorem d_RR_readValue_8 : decode c_RR_readValue 8 = .ok (.if_icmp .ne 9, 3) := by decide +kernel
theorem d_RR_readValue_11 : decode c_RR_readValue 11 = .ok (.aload_n 0, 1) := by decide +kernel
theorem d_RR_readValue_12 : decode c_RR_readValue 12 = .ok (.iconst 1, 1) := by decide +kernel
theorem d_RR_readValue_13 : decode c_RR_readValue 13 = .ok (.invokevirtual 70, 3) := by decide +kernel
theorem d_RR_readValue_16 : decode c_RR_readValue 16 = .ok (.ireturn, 1) := by decide +kernel
theorem d_RR_readValue_17 : decode c_RR_readValue 17 = .ok (.iload_n 1, 1) := by decide +kernel
theorem d_RR_readValue_18 : decode c_RR_readValue 18 = .ok (.bipush (-8), 2) := by decide +kernel
theorem d_RR_readValue_20 : decode c_RR_readValue 20 = .ok (.if_icmp .ge 9, 3) := by decide +kernel
theorem d_RR_readValue_23 : decode c_RR_readValue 23 = .ok (.aload_n 0, 1) := by decide +kernel
theorem d_RR_readValue_24 : decode c_RR_readValue 24 = .ok (.iconst 0, 1) := by decide +kernel
theorem d_RR_readValue_25 : decode c_RR_readValue 25 = .ok (.invokevirtual 70, 3) := by decide +kernel
theorem d_RR_readValue_28 : decode c_RR_readValue 28 = .ok (.ireturn, 1) := by decide +kernel
theorem d_RR_readValue_29 : decode c_RR_readValue 29 = .ok (.aload_n 0, 1) := by decide +kernel
theorem d_RR_readValue_30 : decode c_RR_readValue 30 = .ok (.getfield 36, 3) := by decide +kernel
theorem d_RR_readValue_33 : decode c_RR_readValue 33 = .ok (.bipush 60, 2) := by decide +kernel
theorem d_RR_readValue_35 : decode c_RR_readValue 35 = .ok (.if_icmp .lt 9, 3) := by decide +kernel
theorem d_RR_readValue_38 : decode c_RR_readValue 38 = .ok (.aload_n 0, 1) := by decide +kernel
theorem d_RR_readValue_39 : decode c_RR_readValue 39 = .ok (.iconst 3, 1) := by decide +kernel
theorem d_RR_readValue_40 : decode c_RR_readValue 40 = .ok (.invokevirtual 70, 3) := by decide +kernel
theorem d_RR_readValue_43 : decode c_RR_readValue 43 = .ok (.ireturn, 1) := by decide +kernel
theorem d_RR_readValue_44 : decode c_RR_readValue 44 = .ok (.aload_n 0, 1) := by decide +kernel
theorem d_RR_readValue_45 : decode c_RR_readValue 45 = .ok (.dup, 1) := by decide +kernel
theorem d_RR_readValue_46 : decode c_RR_readValue 46 = .ok (.getfield 36, 3) := by decide +kernel
theorem d_RR_readValue_49 : decode c_RR_readValue 49 = .ok (.iconst 1, 1) := by decide +kernel
theorem d_RR_readValue_50 : decode c_RR_readValue 50 = .ok (.iadd, 1) := by decide +kernel
theorem d_RR_readValue_51 : decode c_RR_readValue 51 = .ok (.putfield 36, 3) := by decide +kernel
theorem d_RR_readValue_54 : decode c_RR_readValue 54 = .ok (.aload_n 0, 1) := by decide +kernel
theorem d_RR_readValue_55 : decode c_RR_readValue 55 = .ok (.getfield 21, 3) := by decide +kernel
theorem d_RR_readValue_58 : decode c_RR_readValue 58 = .ok (.iload_n 1, 1) := by decide +kernel
theorem d_RR_readValue_59 : decode c_RR_readValue 59 = .ok (.invokevirtual 129, 3) := by decide +kernel
theorem d_RR_readValue_62 : decode c_RR_readValue 62 = .ok (.aload_n 0, 1) := by decide +kernel
theorem d_RR_readValue_63 : decode c_RR_readValue 63 = .ok (.dup, 1) := by decide +kernel
theorem d_RR_readValue_64 : decode c_RR_readValue 64 = .ok (.getfield 32, 3) := by decide +kernel
theorem d_RR_readValue_67 : decode c_RR_readValue 67 = .ok (.iconst 1, 1) := by decide +kernel
theorem d_RR_readValue_68 : decode c_RR_readValue 68 = .ok (.iadd, 1) := by decide +kernel
theorem d_RR_readValue_69 : decode c_RR_readValue 69 = .ok (.putfield 32, 3) := by decide +kernel
theorem d_RR_readValue_72 : decode c_RR_readValue 72 = .ok (.iconst 1, 1) := by decide +kernel
theorem d_RR_readValue_73 : decode c_RR_readValue 73 = .ok (.ireturn, 1) := by decide +kernel
def S_RR_readValue_0 (g : Gx) (Q : Int32 → St → Prop) (σ : St) : Prop := Ax g m_RR_readValue 0 0 (ZI g Q) SH σ 0 0 0 [(0, .ref (gB g + 9))] []
theorem sg_RR_readValue_0 {g : Gx} {Q : Int32 → St → Prop} {σ : St}
    (h : K_RR_tokenHere g σ (fun (r2 : Int32) (s1 : St) => (¬ r2 = (-27 : Int32) → ((-8 : Int32) ≤ r2 → ((fi s1 9 4) < (60 : Int32) → ∀ s3 : St, s3 = sfi s1 9 4 ((fi s1 9 4) + (1 : Int32)) → K_RU_add g 12 r2 s3 (fun s4 : St => ∀ s5 : St, s5 = sfi s4 9 3 ((fi s4 9 3) + (1 : Int32)) → Q (1 : Int32) s5)) ∧ (¬ (fi s1 9 4) < (60 : Int32) → K_RR_blame g (3 : Int32) s1 (fun (r7 : Int32) (s6 : St) => (r7 = 0 ∨ r7 = 1) ∧ Q r7 s6))) ∧ (¬ (-8 : Int32) ≤ r2 → K_RR_blame g (0 : Int32) s1 (fun (r9 : Int32) (s8 : St) => (r9 = 0 ∨ r9 = 1) ∧ Q r9 s8))) ∧ (r2 = (-27 : Int32) → K_RR_blame g (1 : Int32) s1 (fun (r11 : Int32) (s10 : St) => (r11 = 0 ∨ r11 = 1) ∧ Q r11 s10)))) : S_RR_readValue_0 g Q σ := by
  show Ax g m_RR_readValue 0 0 (ZI g Q) SH σ 0 0 0 [(0, .ref (gB g + 9))] []
  refine a_aload_n (pc := 0) 0 rfl rfl d_RR_readValue_0 ?_
  refine a_callV (pc := 1) (M' := m_RR_tokenHere) (As := []) (st := []) (mc' := 0) (ms' := 0) lk_RR_66 rfl sx_9 rfl (by decide) (by decide) rfl (Nat.le_of_ble_eq_true rfl) (Nat.le_refl 0) (Nat.le_refl 0) d_RR_readValue_1 h ?_
  rintro _ _ s1 ⟨r2, rfl, rfl, h⟩ -
  show Ax g m_RR_readValue 0 0 (ZI g Q) SH s1 0 0 4 [(0, .ref (gB g + 9))] [.int r2]
  refine a_istore_n (pc := 4) (lv' := [(1, .int r2), (0, .ref (gB g + 9))]) rfl (Nat.le_of_ble_eq_true rfl) rfl d_RR_readValue_4 ?_
  refine a_iload_n (pc := 5) 0 rfl rfl d_RR_readValue_5 ?_
  refine a_bipush (pc := 6) (-27 : Int32) (by decide) d_RR_readValue_6 ?_
  refine a_icmp_ne (pc := 8) 17 (by decide) d_RR_readValue_8 ⟨fun c0 => ?_, fun c0 => ?_⟩
  · replace h := h.1 c0
    refine a_iload_n (pc := 17) 0 rfl rfl d_RR_readValue_17 ?_
    refine a_bipush (pc := 18) (-8 : Int32) (by decide) d_RR_readValue_18 ?_
    refine a_icmp_ge (pc := 20) 29 (by decide) d_RR_readValue_20 ⟨fun c0 => ?_, fun c0 => ?_⟩
    · replace h := h.1 c0
      refine a_aload_n (pc := 29) 1 rfl rfl d_RR_readValue_29 ?_
      refine a_getI (pc := 30) fg_RR_36 sx_9 rfl d_RR_readValue_30 ?_
      refine a_bipush (pc := 33) (60 : Int32) (by decide) d_RR_readValue_33 ?_
      refine a_icmp_lt (pc := 35) 44 (by decide) d_RR_readValue_35 ⟨fun c0 => ?_, fun c0 => ?_⟩
      · replace h := h.1 c0
        refine a_aload_n (pc := 44) 1 rfl rfl d_RR_readValue_44 ?_
        refine a_dup (pc := 45) rfl d_RR_readValue_45 ?_
        refine a_getI (pc := 46) fg_RR_36 sx_9 rfl d_RR_readValue_46 ?_
        refine a_iconst (pc := 49) (1 : Int32) (by decide) d_RR_readValue_49 ?_
        refine a_iadd (pc := 50) d_RR_readValue_50 ?_
        refine a_putI (pc := 51) fp_RR_36 sx_9 rfl d_RR_readValue_51 ?_
        refine a_nms (fun s3 hs3 => ?_)
        replace h := h s3 hs3
        refine a_aload_n (pc := 54) 1 rfl rfl d_RR_readValue_54 ?_
        refine a_getR (pc := 55) fg_RR_21 sx_9 rfl d_RR_readValue_55 ?_
        refine a_iload_n (pc := 58) 0 rfl rfl d_RR_readValue_58 ?_
        refine a_callV (pc := 59) (M' := m_RU_add) (As := [.int r2]) (st := []) (mc' := 0) (ms' := 0) lk_RR_129 rfl sx_12 rfl (by decide) (by decide) rfl (Nat.le_of_ble_eq_true rfl) (Nat.le_refl 0) (Nat.le_refl 0) d_RR_readValue_59 h ?_
        rintro _ _ s4 ⟨rfl, rfl, h⟩ -
        show Ax g m_RR_readValue 0 0 (ZI g Q) SH s4 0 0 62 [(1, .int r2), (0, .ref (gB g + 9))] []
        refine a_aload_n (pc := 62) 1 rfl rfl d_RR_readValue_62 ?_
        refine a_dup (pc := 63) rfl d_RR_readValue_63 ?_
        refine a_getI (pc := 64) fg_RR_32 sx_9 rfl d_RR_readValue_64 ?_
        refine a_iconst (pc := 67) (1 : Int32) (by decide) d_RR_readValue_67 ?_
        refine a_iadd (pc := 68) d_RR_readValue_68 ?_
        refine a_putI (pc := 69) fp_RR_32 sx_9 rfl d_RR_readValue_69 ?_
        refine a_nms (fun s5 hs5 => ?_)
        replace h := h s5 hs5
        refine a_iconst (pc := 72) (1 : Int32) (by decide) d_RR_readValue_72 ?_
        exact b_zret (pc := 73) rfl (Or.inr rfl) d_RR_readValue_73 h
      · replace h := h.2 c0
        refine a_aload_n (pc := 38) 1 rfl rfl d_RR_readValue_38 ?_
        refine a_iconst (pc := 39) (3 : Int32) (by decide) d_RR_readValue_39 ?_
        refine a_callV (pc := 40) (M' := m_RR_blame) (As := [.int (3 : Int32)]) (st := []) (mc' := 0) (ms' := 0) lk_RR_70 rfl sx_9 rfl (by decide) (by decide) rfl (Nat.le_of_ble_eq_true rfl) (Nat.le_refl 0) (Nat.le_refl 0) d_RR_readValue_40 h ?_
        rintro _ _ s6 ⟨r7, rfl, rfl, h⟩ -
        show Ax g m_RR_readValue 0 0 (ZI g Q) SH s6 0 0 43 [(1, .int r2), (0, .ref (gB g + 9))] [.int r7]
        exact b_zret (pc := 43) rfl h.1 d_RR_readValue_43 h.2
    · replace h := h.2 c0
      refine a_aload_n (pc := 23) 1 rfl rfl d_RR_readValue_23 ?_
      refine a_iconst (pc := 24) (0 : Int32) (by decide) d_RR_readValue_24 ?_
      refine a_callV (pc := 25) (M' := m_RR_blame) (As := [.int (0 : Int32)]) (st := []) (mc' := 0) (ms' := 0) lk_RR_70 rfl sx_9 rfl (by decide) (by decide) rfl (Nat.le_of_ble_eq_true rfl) (Nat.le_refl 0) (Nat.le_refl 0) d_RR_readValue_25 h ?_
      rintro _ _ s8 ⟨r9, rfl, rfl, h⟩ -
      show Ax g m_RR_readValue 0 0 (ZI g Q) SH s8 0 0 28 [(1, .int r2), (0, .ref (gB g + 9))] [.int r9]
      exact b_zret (pc := 28) rfl h.1 d_RR_readValue_28 h.2
  · replace h := h.2 c0
    refine a_aload_n (pc := 11) 1 rfl rfl d_RR_readValue_11 ?_
    refine a_iconst (pc := 12) (1 : Int32) (by decide) d_RR_readValue_12 ?_
    refine a_callV (pc := 13) (M' := m_RR_blame) (As := [.int (1 : Int32)]) (st := []) (mc' := 0) (ms' := 0) lk_RR_70 rfl sx_9 rfl (by decide) (by decide) rfl (Nat.le_of_ble_eq_true rfl) (Nat.le_refl 0) (Nat.le_refl 0) d_RR_readValue_13 h ?_
    rintro _ _ s10 ⟨r11, rfl, rfl, h⟩ -
    show Ax g m_RR_readValue 0 0 (ZI g Q) SH s10 0 0 16 [(1, .int r2), (0, .ref (gB g + 9))] [.int r11]
    exact b_zret (pc := 16) rfl h.1 d_RR_readValue_16 h.2
theorem ko_RR_readValue {g : Gx}  {σ : St} {Q : Int32 → St → Prop} (h : S_RR_readValue_0 g Q σ) : K_RR_readValue g  σ Q := KI.of (show plainName "BallBox$RuleReader" = true by decide) (Nat.le_of_ble_eq_true rfl) h
