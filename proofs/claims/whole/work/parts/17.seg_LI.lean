theorem d_LI_packed_0 : decode c_LI_packed 0 = .ok (.bipush 16, 2) := by decide +kernel
theorem d_LI_packed_2 : decode c_LI_packed 2 = .ok (.iload_n 0, 1) := by decide +kernel
theorem d_LI_packed_3 : decode c_LI_packed 3 = .ok (.imul, 1) := by decide +kernel
theorem d_LI_packed_4 : decode c_LI_packed 4 = .ok (.iload_n 1, 1) := by decide +kernel
theorem d_LI_packed_5 : decode c_LI_packed 5 = .ok (.iload_n 2, 1) := by decide +kernel
theorem d_LI_packed_6 : decode c_LI_packed 6 = .ok (.invokestatic 32, 3) := by decide +kernel
theorem d_LI_packed_9 : decode c_LI_packed 9 = .ok (.iadd, 1) := by decide +kernel
theorem d_LI_packed_10 : decode c_LI_packed 10 = .ok (.ireturn, 1) := by decide +kernel
def S_LI_packed_0 (g : Gx) (Q : Int32 → St → Prop) (σ : St) (x0 : Int32) (x1 : Int32) (x2 : Int32) : Prop := Ax g m_LI_packed 0 0 (ZI g Q) SH σ 0 0 0 [(0, .int x0), (1, .int x1), (2, .int x2)] []
theorem sg_LI_packed_0 {g : Gx} {Q : Int32 → St → Prop} {σ : St} {x0 : Int32} {x1 : Int32} {x2 : Int32}
    (h : K_LI_heard g x1 x2 σ (fun (r2 : Int32) (s1 : St) => Q (((16 : Int32) * x0) + r2) s1)) : S_LI_packed_0 g Q σ x0 x1 x2 := by
  show Ax g m_LI_packed 0 0 (ZI g Q) SH σ 0 0 0 [(0, .int x0), (1, .int x1), (2, .int x2)] []
  refine a_bipush (pc := 0) (16 : Int32) (by decide) d_LI_packed_0 ?_
  refine a_iload_n (pc := 2) 0 rfl rfl d_LI_packed_2 ?_
  refine a_imul (pc := 3) d_LI_packed_3 ?_
  refine a_iload_n (pc := 4) 1 rfl rfl d_LI_packed_4 ?_
  refine a_iload_n (pc := 5) 2 rfl rfl d_LI_packed_5 ?_
  refine a_callS (pc := 6) (M' := m_LI_heard) (As := [.int x1, .int x2]) (st := [.int ((16 : Int32) * x0)]) (mc' := 0) (ms' := 0) lk_LI_32 rfl (by decide) (by decide) rfl (Nat.le_of_ble_eq_true rfl) (Nat.le_refl 0) (Nat.le_refl 0) d_LI_packed_6 h ?_
  rintro _ _ s1 ⟨r2, rfl, rfl, h⟩ -
  show Ax g m_LI_packed 0 0 (ZI g Q) SH s1 0 0 9 [(0, .int x0), (1, .int x1), (2, .int x2)] [.int r2, .int ((16 : Int32) * x0)]
  refine a_iadd (pc := 9) d_LI_packed_9 ?_
  exact b_iret (pc := 10) rfl d_LI_packed_10 h
theorem ko_LI_packed {g : Gx}  {x0 : Int32} {x1 : Int32} {x2 : Int32} {σ : St} {Q : Int32 → St → Prop} (h : S_LI_packed_0 g Q σ x0 x1 x2) : K_LI_packed g x0 x1 x2 σ Q := KI.of (show plainName "BallBox$Listener" = true by decide) (Nat.le_of_ble_eq_true rfl) h
theorem d_LI_heard_0 : decode c_LI_heard 0 = .ok (.iload_n 0, 1) := by decide +kernel
theorem d_LI_heard_1 : decode c_LI_heard 1 = .ok (.iconst 3, 1) := by decide +kernel
theorem d_LI_heard_2 : decode c_LI_heard 2 = .ok (.iand, 1) := by decide +kernel
theorem d_LI_heard_3 : decode c_LI_heard 3 = .ok (.iconst 4, 1) := by decide +kernel
theorem d_LI_heard_4 : decode c_LI_heard 4 = .ok (.iload_n 1, 1) := by decide +kernel
theorem d_LI_heard_5 : decode c_LI_heard 5 = .ok (.iconst 3, 1) := by decide +kernel
theorem d_LI_heard_6 : decode c_LI_heard 6 = .ok (.iand, 1) := by decide +kernel
theorem d_LI_heard_7 : decode c_LI_heard 7 = .ok (.imul, 1) := by decide +kernel
theorem d_LI_heard_8 : decode c_LI_heard 8 = .ok (.iadd, 1) := by decide +kernel
theorem d_LI_heard_9 : decode c_LI_heard 9 = .ok (.ireturn, 1) := by decide +kernel
def S_LI_heard_0 (g : Gx) (Q : Int32 → St → Prop) (σ : St) (x0 : Int32) (x1 : Int32) : Prop := Ax g m_LI_heard 0 0 (ZI g Q) SH σ 0 0 0 [(0, .int x0), (1, .int x1)] []
theorem sg_LI_heard_0 {g : Gx} {Q : Int32 → St → Prop} {σ : St} {x0 : Int32} {x1 : Int32}
    (h : Q ((x0 &&& (3 : Int32)) + ((4 : Int32) * (x1 &&& (3 : Int32)))) σ) : S_LI_heard_0 g Q σ x0 x1 := by
  show Ax g m_LI_heard 0 0 (ZI g Q) SH σ 0 0 0 [(0, .int x0), (1, .int x1)] []
  refine a_iload_n (pc := 0) 0 rfl rfl d_LI_heard_0 ?_
  refine a_iconst (pc := 1) (3 : Int32) (by decide) d_LI_heard_1 ?_
  refine a_iand (pc := 2) d_LI_heard_2 ?_
  refine a_iconst (pc := 3) (4 : Int32) (by decide) d_LI_heard_3 ?_
  refine a_iload_n (pc := 4) 1 rfl rfl d_LI_heard_4 ?_
  refine a_iconst (pc := 5) (3 : Int32) (by decide) d_LI_heard_5 ?_
  refine a_iand (pc := 6) d_LI_heard_6 ?_
  refine a_imul (pc := 7) d_LI_heard_7 ?_
  refine a_iadd (pc := 8) d_LI_heard_8 ?_
  exact b_iret (pc := 9) rfl d_LI_heard_9 h
theorem ko_LI_heard {g : Gx}  {x0 : Int32} {x1 : Int32} {σ : St} {Q : Int32 → St → Prop} (h : S_LI_heard_0 g Q σ x0 x1) : K_LI_heard g x0 x1 σ Q := KI.of (show plainName "BallBox$Listener" = true by decide) (Nat.le_of_ble_eq_true rfl) h
theorem d_LI_cellsOf_0 : decode c_LI_cellsOf 0 = .ok (.lconst 0, 1) := by decide +kernel
theorem d_LI_cellsOf_1 : decode c_LI_cellsOf 1 = .ok (.lstore_n 2, 1) := by decide +kernel
theorem d_LI_cellsOf_2 : decode c_LI_cellsOf 2 = .ok (.iconst 0, 1) := by decide +kernel
theorem d_LI_cellsOf_3 : decode c_LI_cellsOf 3 = .ok (.istore 4, 2) := by decide +kernel
theorem d_LI_cellsOf_5 : decode c_LI_cellsOf 5 = .ok (.iload 4, 2) := by decide +kernel
theorem d_LI_cellsOf_7 : decode c_LI_cellsOf 7 = .ok (.bipush 36, 2) := by decide +kernel
theorem d_LI_cellsOf_9 : decode c_LI_cellsOf 9 = .ok (.if_icmp .ge 54, 3) := by decide +kernel
theorem d_LI_cellsOf_12 : decode c_LI_cellsOf 12 = .ok (.iload_n 1, 1) := by decide +kernel
theorem d_LI_cellsOf_13 : decode c_LI_cellsOf 13 = .ok (.ifCond .lt 50, 3) := by decide +kernel
theorem d_LI_cellsOf_16 : decode c_LI_cellsOf 16 = .ok (.iload_n 1, 1) := by decide +kernel
theorem d_LI_cellsOf_17 : decode c_LI_cellsOf 17 = .ok (.aload_n 0, 1) := by decide +kernel
theorem d_LI_cellsOf_18 : decode c_LI_cellsOf 18 = .ok (.getfield 17, 3) := by decide +kernel
theorem d_LI_cellsOf_21 : decode c_LI_cellsOf 21 = .ok (.arraylength, 1) := by decide +kernel
theorem d_LI_cellsOf_22 : decode c_LI_cellsOf 22 = .ok (.if_icmp .ge 41, 3) := by decide +kernel
theorem d_LI_cellsOf_25 : decode c_LI_cellsOf 25 = .ok (.iload 4, 2) := by decide +kernel
theorem d_LI_cellsOf_27 : decode c_LI_cellsOf 27 = .ok (.bipush 6, 2) := by decide +kernel
theorem d_LI_cellsOf_29 : decode c_LI_cellsOf 29 = .ok (.irem, 1) := by decide +kernel
theorem d_LI_cellsOf_30 : decode c_LI_cellsOf 30 = .ok (.iload 4, 2) := by decide +kernel
theorem d_LI_cellsOf_32 : decode c_LI_cellsOf 32 = .ok (.bipush 6, 2) := by decide +kernel
theorem d_LI_cellsOf_34 : decode c_LI_cellsOf 34 = .ok (.idiv, 1) := by decide +kernel
theorem d_LI_cellsOf_35 : decode c_LI_cellsOf 35 = .ok (.invokestatic 36, 3) := by decide +kernel
theorem d_LI_cellsOf_38 : decode c_LI_cellsOf 38 = .ok (.istore 5, 2) := by decide +kernel
theorem d_LI_cellsOf_40 : decode c_LI_cellsOf 40 = .ok (.lload_n 2, 1) := by decide +kernel
theorem d_LI_cellsOf_41 : decode c_LI_cellsOf 41 = .ok (.aload_n 0, 1) := by decide +kernel
theorem d_LI_cellsOf_42 : decode c_LI_cellsOf 42 = .ok (.getfield 17, 3) := by decide +kernel
theorem d_LI_cellsOf_45 : decode c_LI_cellsOf 45 = .ok (.iload_n 1, 1) := by decide +kernel
theorem d_LI_cellsOf_46 : decode c_LI_cellsOf 46 = .ok (.laload, 1) := by decide +kernel
theorem d_LI_cellsOf_47 : decode c_LI_cellsOf 47 = .ok (.iload 5, 2) := by decide +kernel
theorem d_LI_cellsOf_49 : decode c_LI_cellsOf 49 = .ok (.lushr, 1) := by decide +kernel
theorem d_LI_cellsOf_50 : decode c_LI_cellsOf 50 = .ok (.lconst 1, 1) := by decide +kernel
theorem d_LI_cellsOf_51 : decode c_LI_cellsOf 51 = .ok (.land, 1) := by decide +kernel
theorem d_LI_cellsOf_52 : decode c_LI_cellsOf 52 = .ok (.iload 4, 2) := by decide +kernel
theorem d_LI_cellsOf_54 : decode c_LI_cellsOf 54 = .ok (.lshl, 1) := by decide +kernel
theorem d_LI_cellsOf_55 : decode c_LI_cellsOf 55 = .ok (.lor, 1) := by decide +kernel
theorem d_LI_cellsOf_56 : decode c_LI_cellsOf 56 = .ok (.lstore_n 2, 1) := by decide +kernel
theorem d_LI_cellsOf_57 : decode c_LI_cellsOf 57 = .ok (.iinc 4 1, 3) := by decide +kernel
theorem d_LI_cellsOf_60 : decode c_LI_cellsOf 60 = .ok (.goto (-55), 3) := by decide +kernel
theorem d_LI_cellsOf_63 : decode c_LI_cellsOf 63 = .ok (.lload_n 2, 1) := by decide +kernel
theorem d_LI_cellsOf_64 : decode c_LI_cellsOf 64 = .ok (.lreturn, 1) := by decide +kernel
def S_LI_cellsOf_0 (g : Gx) (Q : Int64 → St → Prop) (σ : St) (x1 : Int32) : Prop := Ax g m_LI_cellsOf 0 0 (ZJ g Q) SH σ 0 0 0 [(0, .ref (gB g + 78)), (1, .int x1)] []
def S_LI_cellsOf_5 (g : Gx) (Q : Int64 → St → Prop) (σ : St) (x1 : Int32) (y2 : Int64) (x4 : Int32) : Prop := Ax g m_LI_cellsOf 0 0 (ZJ g Q) SH σ 0 0 5 [(0, .ref (gB g + 78)), (1, .int x1), (2, .long y2), (4, .int x4)] []
theorem sg_LI_cellsOf_0 {g : Gx} {Q : Int64 → St → Prop} {σ : St} {x1 : Int32}
    (h : S_LI_cellsOf_5 g Q σ x1 (0 : Int64) (0 : Int32)) : S_LI_cellsOf_0 g Q σ x1 := by
  show Ax g m_LI_cellsOf 0 0 (ZJ g Q) SH σ 0 0 0 [(0, .ref (gB g + 78)), (1, .int x1)] []
  refine a_lconst (pc := 0) (0 : Int64) (by decide) d_LI_cellsOf_0 ?_
  refine a_lstore_n (pc := 1) (lv' := [(2, .long (0 : Int64)), (0, .ref (gB g + 78)), (1, .int x1)]) rfl (Nat.le_of_ble_eq_true rfl) rfl d_LI_cellsOf_1 ?_
  refine a_iconst (pc := 2) (0 : Int32) (by decide) d_LI_cellsOf_2 ?_
  refine a_istore (pc := 3) (lv' := [(4, .int (0 : Int32)), (2, .long (0 : Int64)), (0, .ref (gB g + 78)), (1, .int x1)]) (Nat.le_of_ble_eq_true rfl) rfl d_LI_cellsOf_3 ?_
  refine a_sub (pc := 5) [2, 3, 1, 0] rfl ?_
  exact h
theorem sg_LI_cellsOf_5 {g : Gx} {Q : Int64 → St → Prop} {σ : St} {x1 : Int32} {y2 : Int64} {x4 : Int32}
    (h : ((36 : Int32) ≤ x4 → Q y2 σ) ∧ (¬ (36 : Int32) ≤ x4 → (x1 < 0 → Q y2 σ) ∧ (¬ x1 < 0 → ((3 : Int32) ≤ x1 → Q y2 σ) ∧ (¬ (3 : Int32) ≤ x1 → K_SA_spotOf g (x4 - x4 / (6 : Int32) * (6 : Int32)) (x4 / (6 : Int32)) σ (fun (r2 : Int32) (s1 : St) => vp_in x1 3 ∧ (∀ u3 : Int64, u3 = (y2 ||| (((((aj s1 80 (x1).toNatClampNeg)).toUInt64 >>> ((r2).toInt64.toUInt64 &&& Int64.toUInt64 63)).toInt64 &&& (1 : Int64)) <<< ((x4).toInt64 &&& 63))) → ∀ u4 : Int32, u4 = x4 + (1 : Int32) → S_LI_cellsOf_5 g Q s1 x1 u3 u4)))))) : S_LI_cellsOf_5 g Q σ x1 y2 x4 := by
  show Ax g m_LI_cellsOf 0 0 (ZJ g Q) SH σ 0 0 5 [(0, .ref (gB g + 78)), (1, .int x1), (2, .long y2), (4, .int x4)] []
  refine a_iload (pc := 5) 3 rfl d_LI_cellsOf_5 ?_
  refine a_bipush (pc := 7) (36 : Int32) (by decide) d_LI_cellsOf_7 ?_
  refine a_icmp_ge (pc := 9) 63 (by decide) d_LI_cellsOf_9 ⟨fun c0 => ?_, fun c0 => ?_⟩
  · replace h := h.1 c0
    refine a_lload_n (pc := 63) 2 rfl rfl d_LI_cellsOf_63 ?_
    exact b_lret (pc := 64) rfl d_LI_cellsOf_64 h
  · replace h := h.2 c0
    refine a_iload_n (pc := 12) 1 rfl rfl d_LI_cellsOf_12 ?_
    refine a_if_lt (pc := 13) 63 (by decide) d_LI_cellsOf_13 ⟨fun c0 => ?_, fun c0 => ?_⟩
    · replace h := h.1 c0
      refine a_lload_n (pc := 63) 2 rfl rfl d_LI_cellsOf_63 ?_
      exact b_lret (pc := 64) rfl d_LI_cellsOf_64 h
    · replace h := h.2 c0
      refine a_iload_n (pc := 16) 1 rfl rfl d_LI_cellsOf_16 ?_
      refine a_aload_n (pc := 17) 0 rfl rfl d_LI_cellsOf_17 ?_
      refine a_getR (pc := 18) fg_LI_17 sx_78 rfl d_LI_cellsOf_18 ?_
      refine a_alen (pc := 21) (kd := 1) rfl sx_80 d_LI_cellsOf_21 ?_
      refine a_icmp_ge (pc := 22) 63 (by decide) d_LI_cellsOf_22 ⟨fun c0 => ?_, fun c0 => ?_⟩
      · replace h := h.1 c0
        refine a_lload_n (pc := 63) 2 rfl rfl d_LI_cellsOf_63 ?_
        exact b_lret (pc := 64) rfl d_LI_cellsOf_64 h
      · replace h := h.2 c0
        refine a_iload (pc := 25) 3 rfl d_LI_cellsOf_25 ?_
        refine a_bipush (pc := 27) (6 : Int32) (by decide) d_LI_cellsOf_27 ?_
        refine a_irem (pc := 29) (by decide) d_LI_cellsOf_29 ?_
        refine a_iload (pc := 30) 3 rfl d_LI_cellsOf_30 ?_
        refine a_bipush (pc := 32) (6 : Int32) (by decide) d_LI_cellsOf_32 ?_
        refine a_idiv (pc := 34) (by decide) d_LI_cellsOf_34 ?_
        refine a_callS (pc := 35) (M' := m_SA_spotOf) (As := [.int (x4 - x4 / (6 : Int32) * (6 : Int32)), .int (x4 / (6 : Int32))]) (st := []) (mc' := 0) (ms' := 0) lk_LI_36 rfl (by decide) (by decide) rfl (Nat.le_of_ble_eq_true rfl) (Nat.le_refl 0) (Nat.le_refl 0) d_LI_cellsOf_35 h ?_
        rintro _ _ s1 ⟨r2, rfl, rfl, h⟩ -
        show Ax g m_LI_cellsOf 0 0 (ZJ g Q) SH s1 0 0 38 [(0, .ref (gB g + 78)), (1, .int x1), (2, .long y2), (4, .int x4)] [.int r2]
        refine a_istore (pc := 38) (lv' := [(5, .int r2), (0, .ref (gB g + 78)), (1, .int x1), (2, .long y2), (4, .int x4)]) (Nat.le_of_ble_eq_true rfl) rfl d_LI_cellsOf_38 ?_
        refine a_lload_n (pc := 40) 3 rfl rfl d_LI_cellsOf_40 ?_
        refine a_aload_n (pc := 41) 1 rfl rfl d_LI_cellsOf_41 ?_
        refine a_getR (pc := 42) fg_LI_17 sx_78 rfl d_LI_cellsOf_42 ?_
        refine a_iload_n (pc := 45) 2 rfl rfl d_LI_cellsOf_45 ?_
        obtain ⟨hx, h⟩ := h
        refine a_lald (pc := 46) sx_80 hx d_LI_cellsOf_46 ?_
        refine a_iload (pc := 47) 0 rfl d_LI_cellsOf_47 ?_
        refine a_lushr (pc := 49) d_LI_cellsOf_49 ?_
        refine a_lconst (pc := 50) (1 : Int64) (by decide) d_LI_cellsOf_50 ?_
        refine a_land (pc := 51) d_LI_cellsOf_51 ?_
        refine a_iload (pc := 52) 4 rfl d_LI_cellsOf_52 ?_
        refine a_lshl (pc := 54) d_LI_cellsOf_54 ?_
        refine a_lor (pc := 55) d_LI_cellsOf_55 ?_
        refine a_nmj (pc := 56) (fun u3 hu3 => ?_)
        replace h := h u3 hu3
        refine a_lstore_n (pc := 56) (lv' := [(2, .long u3), (5, .int r2), (0, .ref (gB g + 78)), (1, .int x1), (4, .int x4)]) rfl (Nat.le_of_ble_eq_true rfl) rfl d_LI_cellsOf_56 ?_
        obtain ⟨u4, hu4⟩ : ∃ y : Int32, y = x4 + (1 : Int32) := ⟨_, rfl⟩
        replace h := h u4 hu4
        refine a_iinc (pc := 57) (v := u4) (lv' := [(4, .int u4), (2, .long u3), (5, .int r2), (0, .ref (gB g + 78)), (1, .int x1)]) 4 rfl (by rw [hu4]; rfl) (Nat.le_of_ble_eq_true rfl) rfl d_LI_cellsOf_57 ?_
        refine a_goto (pc := 60) 5 (by decide) d_LI_cellsOf_60 ?_
        refine a_sub (pc := 5) [3, 4, 1, 0] rfl ?_
        exact h
theorem ko_LI_cellsOf {g : Gx}  {x1 : Int32} {σ : St} {Q : Int64 → St → Prop} (h : S_LI_cellsOf_0 g Q σ x1) : K_LI_cellsOf g x1 σ Q := KJ.of (show plainName "BallBox$Listener" = true by decide) (Nat.le_of_ble_eq_true rfl) h
theorem d_LI_keepUp_0 : decode c_LI_keepUp 0 = .ok (.aload_n 0, 1) := by decide +kernel
theorem d_LI_keepUp_1 : decode c_LI_keepUp 1 = .ok (.getfield 24, 3) := by decide +kernel
theorem d_LI_keepUp_4 : decode c_LI_keepUp 4 = .ok (.iload_n 2, 1) := by decide +kernel
theorem d_LI_keepUp_5 : decode c_LI_keepUp 5 = .ok (.if_icmp .ne 15, 3) := by decide +kernel
theorem d_LI_keepUp_8 : decode c_LI_keepUp 8 = .ok (.aload_n 0, 1) := by decide +kernel
theorem d_LI_keepUp_9 : decode c_LI_keepUp 9 = .ok (.getfield 39, 3) := by decide +kernel
theorem d_LI_keepUp_12 : decode c_LI_keepUp 12 = .ok (.ifCond .ne 7, 3) := by decide +kernel
theorem d_LI_keepUp_15 : decode c_LI_keepUp 15 = .ok (.iload_n 3, 1) := by decide +kernel
theorem d_LI_keepUp_16 : decode c_LI_keepUp 16 = .ok (.ifCond .ne 4, 3) := by decide +kernel
theorem d_LI_keepUp_19 : decode c_LI_keepUp 19 = .ok (.return_, 1) := by decide +kernel
theorem d_LI_keepUp_20 : decode c_LI_keepUp 20 = .ok (.aload_n 0, 1) := by decide +kernel
theorem d_LI_keepUp_21 : decode c_LI_keepUp 21 = .ok (.iload_n 2, 1) := by decide +kernel
theorem d_LI_keepUp_22 : decode c_LI_keepUp 22 = .ok (.putfield 24, 3) := by decide +kernel
theorem d_LI_keepUp_25 : decode c_LI_keepUp 25 = .ok (.aload_n 0, 1) := by decide +kernel
theorem d_LI_keepUp_26 : decode c_LI_keepUp 26 = .ok (.iload_n 3, 1) := by decide +kernel
theorem d_LI_keepUp_27 : decode c_LI_keepUp 27 = .ok (.putfield 39, 3) := by decide +kernel
theorem d_LI_keepUp_30 : decode c_LI_keepUp 30 = .ok (.aload_n 0, 1) := by decide +kernel
theorem d_LI_keepUp_31 : decode c_LI_keepUp 31 = .ok (.iconst 0, 1) := by decide +kernel
theorem d_LI_keepUp_32 : decode c_LI_keepUp 32 = .ok (.putfield 43, 3) := by decide +kernel
theorem d_LI_keepUp_35 : decode c_LI_keepUp 35 = .ok (.aload_n 0, 1) := by decide +kernel
theorem d_LI_keepUp_36 : decode c_LI_keepUp 36 = .ok (.getfield 17, 3) := by decide +kernel
theorem d_LI_keepUp_39 : decode c_LI_keepUp 39 = .ok (.lconst 0, 1) := by decide +kernel
theorem d_LI_keepUp_40 : decode c_LI_keepUp 40 = .ok (.invokestatic 46, 3) := by decide +kernel
theorem d_LI_keepUp_43 : decode c_LI_keepUp 43 = .ok (.aload_n 0, 1) := by decide +kernel
theorem d_LI_keepUp_44 : decode c_LI_keepUp 44 = .ok (.getfield 21, 3) := by decide +kernel
theorem d_LI_keepUp_47 : decode c_LI_keepUp 47 = .ok (.iconst 0, 1) := by decide +kernel
theorem d_LI_keepUp_48 : decode c_LI_keepUp 48 = .ok (.invokestatic 52, 3) := by decide +kernel
theorem d_LI_keepUp_51 : decode c_LI_keepUp 51 = .ok (.aload_n 1, 1) := by decide +kernel
theorem d_LI_keepUp_52 : decode c_LI_keepUp 52 = .ok (.aload_n 0, 1) := by decide +kernel
theorem d_LI_keepUp_53 : decode c_LI_keepUp 53 = .ok (.getfield 11, 3) := by decide +kernel
theorem d_LI_keepUp_56 : decode c_LI_keepUp 56 = .ok (.invokevirtual 55, 3) := by decide +kernel
theorem d_LI_keepUp_59 : decode c_LI_keepUp 59 = .ok (.istore 4, 2) := by decide +kernel
theorem d_LI_keepUp_61 : decode c_LI_keepUp 61 = .ok (.aload_n 1, 1) := by decide +kernel
theorem d_LI_keepUp_62 : decode c_LI_keepUp 62 = .ok (.getfield 59, 3) := by decide +kernel
theorem d_LI_keepUp_65 : decode c_LI_keepUp 65 = .ok (.iload 4, 2) := by decide +kernel
theorem d_LI_keepUp_67 : decode c_LI_keepUp 67 = .ok (.invokestatic 62, 3) := by decide +kernel
theorem d_LI_keepUp_70 : decode c_LI_keepUp 70 = .ok (.istore 5, 2) := by decide +kernel
theorem d_LI_keepUp_72 : decode c_LI_keepUp 72 = .ok (.iconst 0, 1) := by decide +kernel
theorem d_LI_keepUp_73 : decode c_LI_keepUp 73 = .ok (.istore 6, 2) := by decide +kernel
theorem d_LI_keepUp_75 : decode c_LI_keepUp 75 = .ok (.iload 6, 2) := by decide +kernel
theorem d_LI_keepUp_77 : decode c_LI_keepUp 77 = .ok (.iload 5, 2) := by decide +kernel
theorem d_LI_keepUp_79 : decode c_LI_keepUp 79 = .ok (.if_icmp .ge 70, 3) := by decide +kernel
theorem d_LI_keepUp_82 : decode c_LI_keepUp 82 = .ok (.iload 6, 2) := by decide +kernel
theorem d_LI_keepUp_84 : decode c_LI_keepUp 84 = .ok (.aload_n 1, 1) := by decide +kernel
theorem d_LI_keepUp_85 : decode c_LI_keepUp 85 = .ok (.getfield 59, 3) := by decide +kernel
theorem d_LI_keepUp_88 : decode c_LI_keepUp 88 = .ok (.aload_n 0, 1) := by decide +kernel
theorem d_LI_keepUp_89 : decode c_LI_keepUp 89 = .ok (.getfield 11, 3) := by decide +kernel
theorem d_LI_keepUp_92 : decode c_LI_keepUp 92 = .ok (.iload 4, 2) := by decide +kernel
theorem d_LI_keepUp_94 : decode c_LI_keepUp 94 = .ok (.invokestatic 65, 3) := by decide +kernel
theorem d_LI_keepUp_97 : decode c_LI_keepUp 97 = .ok (.istore 7, 2) := by decide +kernel
theorem d_LI_keepUp_99 : decode c_LI_keepUp 99 = .ok (.iload 7, 2) := by decide +kernel
theorem d_LI_keepUp_101 : decode c_LI_keepUp 101 = .ok (.ifCond .ge 7, 3) := by decide +kernel
theorem d_LI_keepUp_104 : decode c_LI_keepUp 104 = .ok (.iconst (-1), 1) := by decide +kernel
theorem d_LI_keepUp_105 : decode c_LI_keepUp 105 = .ok (.goto 10, 3) := by decide +kernel
theorem d_LI_keepUp_108 : decode c_LI_keepUp 108 = .ok (.aload_n 0, 1) := by decide +kernel
theorem d_LI_keepUp_109 : decode c_LI_keepUp 109 = .ok (.aload_n 1, 1) := by decide +kernel
theorem d_LI_keepUp_110 : decode c_LI_keepUp 110 = .ok (.iload 7, 2) := by decide +kernel
theorem d_LI_keepUp_112 : decode c_LI_keepUp 112 = .ok (.invokevirtual 69, 3) := by decide +kernel
theorem d_LI_keepUp_115 : decode c_LI_keepUp 115 = .ok (.istore 8, 2) := by decide +kernel
theorem d_LI_keepUp_117 : decode c_LI_keepUp 117 = .ok (.iload 8, 2) := by decide +kernel
theorem d_LI_keepUp_119 : decode c_LI_keepUp 119 = .ok (.ifCond .lt 24, 3) := by decide +kernel
theorem d_LI_keepUp_122 : decode c_LI_keepUp 122 = .ok (.aload_n 0, 1) := by decide +kernel
theorem d_LI_keepUp_123 : decode c_LI_keepUp 123 = .ok (.aload_n 1, 1) := by decide +kernel
theorem d_LI_keepUp_124 : decode c_LI_keepUp 124 = .ok (.getfield 59, 3) := by decide +kernel
theorem d_LI_keepUp_127 : decode c_LI_keepUp 127 = .ok (.iload 7, 2) := by decide +kernel
theorem d_LI_keepUp_129 : decode c_LI_keepUp 129 = .ok (.invokevirtual 73, 3) := by decide +kernel
theorem d_LI_keepUp_132 : decode c_LI_keepUp 132 = .ok (.iload_n 3, 1) := by decide +kernel
theorem d_LI_keepUp_133 : decode c_LI_keepUp 133 = .ok (.ifCond .eq 10, 3) := by decide +kernel
theorem d_LI_keepUp_136 : decode c_LI_keepUp 136 = .ok (.aload_n 0, 1) := by decide +kernel
theorem d_LI_keepUp_137 : decode c_LI_keepUp 137 = .ok (.aload_n 1, 1) := by decide +kernel
theorem d_LI_keepUp_138 : decode c_LI_keepUp 138 = .ok (.iload 8, 2) := by decide +kernel
theorem d_LI_keepUp_140 : decode c_LI_keepUp 140 = .ok (.invokevirtual 77, 3) := by decide +kernel
theorem d_LI_keepUp_143 : decode c_LI_keepUp 143 = .ok (.iinc 6 1, 3) := by decide +kernel
theorem d_LI_keepUp_146 : decode c_LI_keepUp 146 = .ok (.goto (-71), 3) := by decide +kernel
theorem d_LI_keepUp_149 : decode c_LI_keepUp 149 = .ok (.aload_n 0, 1) := by decide +kernel
theorem d_LI_keepUp_150 : decode c_LI_keepUp 150 = .ok (.invokevirtual 81, 3) := by decide +kernel
theorem d_LI_keepUp_153 : decode c_LI_keepUp 153 = .ok (.return_, 1) := by decide +kernel
def S_LI_keepUp_0 (g : Gx) (Q : St → Prop) (σ : St) (t1 : Nat) (x2 : Int32) (x3 : Int32) : Prop := Ax g m_LI_keepUp 0 0 (ZV g Q) SH σ 0 0 0 [(0, .ref (gB g + 78)), (1, .ref (gB g + t1)), (2, .int x2), (3, .int x3)] []
def S_LI_keepUp_20 (g : Gx) (Q : St → Prop) (σ : St) (t1 : Nat) (x2 : Int32) (x3 : Int32) : Prop := Ax g m_LI_keepUp 0 0 (ZV g Q) SH σ 0 0 20 [(0, .ref (gB g + 78)), (1, .ref (gB g + t1)), (2, .int x2), (3, .int x3)] []
def S_LI_keepUp_75 (g : Gx) (Q : St → Prop) (σ : St) (t1 : Nat) (x3 : Int32) (x4 : Int32) (x5 : Int32) (x6 : Int32) : Prop := Ax g m_LI_keepUp 0 0 (ZV g Q) SH σ 0 0 75 [(0, .ref (gB g + 78)), (1, .ref (gB g + t1)), (3, .int x3), (4, .int x4), (5, .int x5), (6, .int x6)] []
def S_LI_keepUp_115 (g : Gx) (Q : St → Prop) (σ : St) (t1 : Nat) (x3 : Int32) (x4 : Int32) (x5 : Int32) (x6 : Int32) (x7 : Int32) (z0 : Int32) : Prop := Ax g m_LI_keepUp 0 0 (ZV g Q) SH σ 0 0 115 [(0, .ref (gB g + 78)), (1, .ref (gB g + t1)), (3, .int x3), (4, .int x4), (5, .int x5), (6, .int x6), (7, .int x7)] [.int z0]
theorem sg_LI_keepUp_0 {g : Gx} {Q : St → Prop} {σ : St} {t1 : Nat} {x2 : Int32} {x3 : Int32} (ht1 : isSA t1)
    (h : (¬ (fi σ 78 4) = x2 → S_LI_keepUp_20 g Q σ t1 x2 x3) ∧ ((fi σ 78 4) = x2 → (¬ (fi σ 78 5) = 0 → Q σ) ∧ ((fi σ 78 5) = 0 → (¬ x3 = 0 → S_LI_keepUp_20 g Q σ t1 x2 x3) ∧ (x3 = 0 → Q σ)))) : S_LI_keepUp_0 g Q σ t1 x2 x3 := by
  show Ax g m_LI_keepUp 0 0 (ZV g Q) SH σ 0 0 0 [(0, .ref (gB g + 78)), (1, .ref (gB g + t1)), (2, .int x2), (3, .int x3)] []
  refine a_aload_n (pc := 0) 0 rfl rfl d_LI_keepUp_0 ?_
  refine a_getI (pc := 1) fg_LI_24 sx_78 rfl d_LI_keepUp_1 ?_
  refine a_iload_n (pc := 4) 2 rfl rfl d_LI_keepUp_4 ?_
  refine a_icmp_ne (pc := 5) 20 (by decide) d_LI_keepUp_5 ⟨fun c0 => ?_, fun c0 => ?_⟩
  · replace h := h.1 c0
    refine a_sub (pc := 20) [0, 1, 2, 3] rfl ?_
    exact h
  · replace h := h.2 c0
    refine a_aload_n (pc := 8) 0 rfl rfl d_LI_keepUp_8 ?_
    refine a_getI (pc := 9) fg_LI_39 sx_78 rfl d_LI_keepUp_9 ?_
    refine a_if_ne (pc := 12) 19 (by decide) d_LI_keepUp_12 ⟨fun c0 => ?_, fun c0 => ?_⟩
    · replace h := h.1 c0
      exact b_vret (pc := 19) rfl d_LI_keepUp_19 h
    · replace h := h.2 c0
      refine a_iload_n (pc := 15) 3 rfl rfl d_LI_keepUp_15 ?_
      refine a_if_ne (pc := 16) 20 (by decide) d_LI_keepUp_16 ⟨fun c0 => ?_, fun c0 => ?_⟩
      · replace h := h.1 c0
        refine a_sub (pc := 20) [0, 1, 2, 3] rfl ?_
        exact h
      · replace h := h.2 c0
        exact b_vret (pc := 19) rfl d_LI_keepUp_19 h
theorem sg_LI_keepUp_20 {g : Gx} {Q : St → Prop} {σ : St} {t1 : Nat} {x2 : Int32} {x3 : Int32} (ht1 : isSA t1)
    (h : ∀ s1 : St, s1 = sfi σ 78 4 x2 → (x3 = 0 ∨ x3 = 1) ∧ (∀ s2 : St, s2 = sfi s1 78 5 x3 → ∀ s3 : St, s3 = sfi s2 78 6 (0 : Int32) → K_JA_fill_1 g 80 (0 : Int64) s3 (fun s4 : St => K_JA_fill g 81 (0 : Int32) s4 (fun s5 : St => K_SA_listPlain g t1 79 s5 (fun (r7 : Int32) (s6 : St) => K_SA_beginningsEnd g (fi s6 t1 4) r7 s6 (fun (r9 : Int32) (s8 : St) => S_LI_keepUp_75 g Q s8 t1 x3 r7 r9 (0 : Int32))))))) : S_LI_keepUp_20 g Q σ t1 x2 x3 := by
  show Ax g m_LI_keepUp 0 0 (ZV g Q) SH σ 0 0 20 [(0, .ref (gB g + 78)), (1, .ref (gB g + t1)), (2, .int x2), (3, .int x3)] []
  refine a_aload_n (pc := 20) 0 rfl rfl d_LI_keepUp_20 ?_
  refine a_iload_n (pc := 21) 2 rfl rfl d_LI_keepUp_21 ?_
  refine a_putI (pc := 22) fp_LI_24 sx_78 rfl d_LI_keepUp_22 ?_
  refine a_nms (fun s1 hs1 => ?_)
  replace h := h s1 hs1
  refine a_aload_n (pc := 25) 0 rfl rfl d_LI_keepUp_25 ?_
  refine a_iload_n (pc := 26) 3 rfl rfl d_LI_keepUp_26 ?_
  obtain ⟨hz, h⟩ := h
  refine a_putZ (pc := 27) fp_LI_39 sx_78 rfl hz d_LI_keepUp_27 ?_
  refine a_nms (fun s2 hs2 => ?_)
  replace h := h s2 hs2
  refine a_aload_n (pc := 30) 0 rfl rfl d_LI_keepUp_30 ?_
  refine a_iconst (pc := 31) (0 : Int32) (by decide) d_LI_keepUp_31 ?_
  refine a_putI (pc := 32) fp_LI_43 sx_78 rfl d_LI_keepUp_32 ?_
  refine a_nms (fun s3 hs3 => ?_)
  replace h := h s3 hs3
  refine a_aload_n (pc := 35) 0 rfl rfl d_LI_keepUp_35 ?_
  refine a_getR (pc := 36) fg_LI_17 sx_78 rfl d_LI_keepUp_36 ?_
  refine a_lconst (pc := 39) (0 : Int64) (by decide) d_LI_keepUp_39 ?_
  refine a_callS (pc := 40) (M' := m_JA_fill_1) (As := [.ref (gB g + 80), .long (0 : Int64)]) (st := []) (mc' := 0) (ms' := 0) lk_LI_46 rfl (by decide) (by decide) rfl (Nat.le_of_ble_eq_true rfl) (Nat.le_refl 0) (Nat.le_refl 0) d_LI_keepUp_40 h ?_
  rintro _ _ s4 ⟨rfl, rfl, h⟩ -
  show Ax g m_LI_keepUp 0 0 (ZV g Q) SH s4 0 0 43 [(0, .ref (gB g + 78)), (1, .ref (gB g + t1)), (2, .int x2), (3, .int x3)] []
  refine a_aload_n (pc := 43) 0 rfl rfl d_LI_keepUp_43 ?_
  refine a_getR (pc := 44) fg_LI_21 sx_78 rfl d_LI_keepUp_44 ?_
  refine a_iconst (pc := 47) (0 : Int32) (by decide) d_LI_keepUp_47 ?_
  refine a_callS (pc := 48) (M' := m_JA_fill) (As := [.ref (gB g + 81), .int (0 : Int32)]) (st := []) (mc' := 0) (ms' := 0) lk_LI_52 rfl (by decide) (by decide) rfl (Nat.le_of_ble_eq_true rfl) (Nat.le_refl 0) (Nat.le_refl 0) d_LI_keepUp_48 h ?_
  rintro _ _ s5 ⟨rfl, rfl, h⟩ -
  show Ax g m_LI_keepUp 0 0 (ZV g Q) SH s5 0 0 51 [(0, .ref (gB g + 78)), (1, .ref (gB g + t1)), (2, .int x2), (3, .int x3)] []
  refine a_aload_n (pc := 51) 1 rfl rfl d_LI_keepUp_51 ?_
  refine a_aload_n (pc := 52) 0 rfl rfl d_LI_keepUp_52 ?_
  refine a_getR (pc := 53) fg_LI_11 sx_78 rfl d_LI_keepUp_53 ?_
  refine a_callV (pc := 56) (M' := m_SA_listPlain) (As := [.ref (gB g + 79)]) (st := []) (mc' := 0) (ms' := 0) lk_LI_55 rfl (sa0 ht1) rfl (by decide) (by decide) rfl (Nat.le_of_ble_eq_true rfl) (Nat.le_refl 0) (Nat.le_refl 0) d_LI_keepUp_56 h ?_
  rintro _ _ s6 ⟨r7, rfl, rfl, h⟩ -
  show Ax g m_LI_keepUp 0 0 (ZV g Q) SH s6 0 0 59 [(0, .ref (gB g + 78)), (1, .ref (gB g + t1)), (2, .int x2), (3, .int x3)] [.int r7]
  refine a_istore (pc := 59) (lv' := [(4, .int r7), (0, .ref (gB g + 78)), (1, .ref (gB g + t1)), (2, .int x2), (3, .int x3)]) (Nat.le_of_ble_eq_true rfl) rfl d_LI_keepUp_59 ?_
  refine a_aload_n (pc := 61) 2 rfl rfl d_LI_keepUp_61 ?_
  refine a_getI (pc := 62) fg_LI_59 (sa0 ht1) rfl d_LI_keepUp_62 ?_
  refine a_iload (pc := 65) 0 rfl d_LI_keepUp_65 ?_
  refine a_callS (pc := 67) (M' := m_SA_beginningsEnd) (As := [.int (fi s6 t1 4), .int r7]) (st := []) (mc' := 0) (ms' := 0) lk_LI_62 rfl (by decide) (by decide) rfl (Nat.le_of_ble_eq_true rfl) (Nat.le_refl 0) (Nat.le_refl 0) d_LI_keepUp_67 h ?_
  rintro _ _ s8 ⟨r9, rfl, rfl, h⟩ -
  show Ax g m_LI_keepUp 0 0 (ZV g Q) SH s8 0 0 70 [(4, .int r7), (0, .ref (gB g + 78)), (1, .ref (gB g + t1)), (2, .int x2), (3, .int x3)] [.int r9]
  refine a_istore (pc := 70) (lv' := [(5, .int r9), (4, .int r7), (0, .ref (gB g + 78)), (1, .ref (gB g + t1)), (2, .int x2), (3, .int x3)]) (Nat.le_of_ble_eq_true rfl) rfl d_LI_keepUp_70 ?_
  refine a_iconst (pc := 72) (0 : Int32) (by decide) d_LI_keepUp_72 ?_
  refine a_istore (pc := 73) (lv' := [(6, .int (0 : Int32)), (5, .int r9), (4, .int r7), (0, .ref (gB g + 78)), (1, .ref (gB g + t1)), (2, .int x2), (3, .int x3)]) (Nat.le_of_ble_eq_true rfl) rfl d_LI_keepUp_73 ?_
  refine a_sub (pc := 75) [3, 4, 6, 2, 1, 0] rfl ?_
  exact h
theorem sg_LI_keepUp_75 {g : Gx} {Q : St → Prop} {σ : St} {t1 : Nat} {x3 : Int32} {x4 : Int32} {x5 : Int32} {x6 : Int32} (ht1 : isSA t1)
    (h : (x5 ≤ x6 → K_LI_chooseWay g σ (fun s1 : St => Q s1)) ∧ (¬ x5 ≤ x6 → K_SA_beginning g x6 (fi σ t1 4) 79 x4 σ (fun (r3 : Int32) (s2 : St) => (0 ≤ r3 → K_LI_behindSounds g t1 r3 s2 (fun (r5 : Int32) (s4 : St) => S_LI_keepUp_115 g Q s4 t1 x3 x4 x5 x6 r3 r5)) ∧ (¬ 0 ≤ r3 → S_LI_keepUp_115 g Q s2 t1 x3 x4 x5 x6 r3 (-1 : Int32))))) : S_LI_keepUp_75 g Q σ t1 x3 x4 x5 x6 := by
  show Ax g m_LI_keepUp 0 0 (ZV g Q) SH σ 0 0 75 [(0, .ref (gB g + 78)), (1, .ref (gB g + t1)), (3, .int x3), (4, .int x4), (5, .int x5), (6, .int x6)] []
  refine a_iload (pc := 75) 5 rfl d_LI_keepUp_75 ?_
  refine a_iload (pc := 77) 4 rfl d_LI_keepUp_77 ?_
  refine a_icmp_ge (pc := 79) 149 (by decide) d_LI_keepUp_79 ⟨fun c0 => ?_, fun c0 => ?_⟩
  · replace h := h.1 c0
    refine a_aload_n (pc := 149) 0 rfl rfl d_LI_keepUp_149 ?_
    refine a_callV (pc := 150) (M' := m_LI_chooseWay) (As := []) (st := []) (mc' := 0) (ms' := 0) lk_LI_81 rfl sx_78 rfl (by decide) (by decide) rfl (Nat.le_of_ble_eq_true rfl) (Nat.le_refl 0) (Nat.le_refl 0) d_LI_keepUp_150 h ?_
    rintro _ _ s1 ⟨rfl, rfl, h⟩ -
    show Ax g m_LI_keepUp 0 0 (ZV g Q) SH s1 0 0 153 [(0, .ref (gB g + 78)), (1, .ref (gB g + t1)), (3, .int x3), (4, .int x4), (5, .int x5), (6, .int x6)] []
    exact b_vret (pc := 153) rfl d_LI_keepUp_153 h
  · replace h := h.2 c0
    refine a_iload (pc := 82) 5 rfl d_LI_keepUp_82 ?_
    refine a_aload_n (pc := 84) 1 rfl rfl d_LI_keepUp_84 ?_
    refine a_getI (pc := 85) fg_LI_59 (sa0 ht1) rfl d_LI_keepUp_85 ?_
    refine a_aload_n (pc := 88) 0 rfl rfl d_LI_keepUp_88 ?_
    refine a_getR (pc := 89) fg_LI_11 sx_78 rfl d_LI_keepUp_89 ?_
    refine a_iload (pc := 92) 3 rfl d_LI_keepUp_92 ?_
    refine a_callS (pc := 94) (M' := m_SA_beginning) (As := [.int x6, .int (fi σ t1 4), .ref (gB g + 79), .int x4]) (st := []) (mc' := 0) (ms' := 0) lk_LI_65 rfl (by decide) (by decide) rfl (Nat.le_of_ble_eq_true rfl) (Nat.le_refl 0) (Nat.le_refl 0) d_LI_keepUp_94 h ?_
    rintro _ _ s2 ⟨r3, rfl, rfl, h⟩ -
    show Ax g m_LI_keepUp 0 0 (ZV g Q) SH s2 0 0 97 [(0, .ref (gB g + 78)), (1, .ref (gB g + t1)), (3, .int x3), (4, .int x4), (5, .int x5), (6, .int x6)] [.int r3]
    refine a_istore (pc := 97) (lv' := [(7, .int r3), (0, .ref (gB g + 78)), (1, .ref (gB g + t1)), (3, .int x3), (4, .int x4), (5, .int x5), (6, .int x6)]) (Nat.le_of_ble_eq_true rfl) rfl d_LI_keepUp_97 ?_
    refine a_iload (pc := 99) 0 rfl d_LI_keepUp_99 ?_
    refine a_if_ge (pc := 101) 108 (by decide) d_LI_keepUp_101 ⟨fun c0 => ?_, fun c0 => ?_⟩
    · replace h := h.1 c0
      refine a_aload_n (pc := 108) 1 rfl rfl d_LI_keepUp_108 ?_
      refine a_aload_n (pc := 109) 2 rfl rfl d_LI_keepUp_109 ?_
      refine a_iload (pc := 110) 0 rfl d_LI_keepUp_110 ?_
      refine a_callV (pc := 112) (M' := m_LI_behindSounds) (As := [.ref (gB g + t1), .int r3]) (st := []) (mc' := 0) (ms' := 0) lk_LI_69 rfl sx_78 rfl (by decide) (by decide) rfl (Nat.le_of_ble_eq_true rfl) (Nat.le_refl 0) (Nat.le_refl 0) d_LI_keepUp_112 h ?_
      rintro _ _ s4 ⟨r5, rfl, rfl, h⟩ -
      show Ax g m_LI_keepUp 0 0 (ZV g Q) SH s4 0 0 115 [(7, .int r3), (0, .ref (gB g + 78)), (1, .ref (gB g + t1)), (3, .int x3), (4, .int x4), (5, .int x5), (6, .int x6)] [.int r5]
      refine a_sub (pc := 115) [1, 2, 3, 4, 5, 6, 0] rfl ?_
      exact h
    · replace h := h.2 c0
      refine a_iconst (pc := 104) (-1 : Int32) (by decide) d_LI_keepUp_104 ?_
      refine a_goto (pc := 105) 115 (by decide) d_LI_keepUp_105 ?_
      refine a_sub (pc := 115) [1, 2, 3, 4, 5, 6, 0] rfl ?_
      exact h
theorem sg_LI_keepUp_115 {g : Gx} {Q : St → Prop} {σ : St} {t1 : Nat} {x3 : Int32} {x4 : Int32} {x5 : Int32} {x6 : Int32} {x7 : Int32} {z0 : Int32} (ht1 : isSA t1)
    (h : (z0 < 0 → ∀ u1 : Int32, u1 = x6 + (1 : Int32) → S_LI_keepUp_75 g Q σ t1 x3 x4 x5 u1) ∧ (¬ z0 < 0 → K_LI_noteFit g (fi σ t1 4) x7 σ (fun s2 : St => (x3 = 0 → ∀ u3 : Int32, u3 = x6 + (1 : Int32) → S_LI_keepUp_75 g Q s2 t1 x3 x4 x5 u3) ∧ (¬ x3 = 0 → K_LI_listenOn g t1 z0 s2 (fun s4 : St => ∀ u5 : Int32, u5 = x6 + (1 : Int32) → S_LI_keepUp_75 g Q s4 t1 x3 x4 x5 u5))))) : S_LI_keepUp_115 g Q σ t1 x3 x4 x5 x6 x7 z0 := by
  show Ax g m_LI_keepUp 0 0 (ZV g Q) SH σ 0 0 115 [(0, .ref (gB g + 78)), (1, .ref (gB g + t1)), (3, .int x3), (4, .int x4), (5, .int x5), (6, .int x6), (7, .int x7)] [.int z0]
  refine a_istore (pc := 115) (lv' := [(8, .int z0), (0, .ref (gB g + 78)), (1, .ref (gB g + t1)), (3, .int x3), (4, .int x4), (5, .int x5), (6, .int x6), (7, .int x7)]) (Nat.le_of_ble_eq_true rfl) rfl d_LI_keepUp_115 ?_
  refine a_iload (pc := 117) 0 rfl d_LI_keepUp_117 ?_
  refine a_if_lt (pc := 119) 143 (by decide) d_LI_keepUp_119 ⟨fun c0 => ?_, fun c0 => ?_⟩
  · replace h := h.1 c0
    obtain ⟨u1, hu1⟩ : ∃ y : Int32, y = x6 + (1 : Int32) := ⟨_, rfl⟩
    replace h := h u1 hu1
    refine a_iinc (pc := 143) (v := u1) (lv' := [(6, .int u1), (8, .int z0), (0, .ref (gB g + 78)), (1, .ref (gB g + t1)), (3, .int x3), (4, .int x4), (5, .int x5), (7, .int x7)]) 6 rfl (by rw [hu1]; rfl) (Nat.le_of_ble_eq_true rfl) rfl d_LI_keepUp_143 ?_
    refine a_goto (pc := 146) 75 (by decide) d_LI_keepUp_146 ?_
    refine a_sub (pc := 75) [2, 3, 4, 5, 6, 0] rfl ?_
    exact h
  · replace h := h.2 c0
    refine a_aload_n (pc := 122) 1 rfl rfl d_LI_keepUp_122 ?_
    refine a_aload_n (pc := 123) 2 rfl rfl d_LI_keepUp_123 ?_
    refine a_getI (pc := 124) fg_LI_59 (sa0 ht1) rfl d_LI_keepUp_124 ?_
    refine a_iload (pc := 127) 7 rfl d_LI_keepUp_127 ?_
    refine a_callV (pc := 129) (M' := m_LI_noteFit) (As := [.int (fi σ t1 4), .int x7]) (st := []) (mc' := 0) (ms' := 0) lk_LI_73 rfl sx_78 rfl (by decide) (by decide) rfl (Nat.le_of_ble_eq_true rfl) (Nat.le_refl 0) (Nat.le_refl 0) d_LI_keepUp_129 h ?_
    rintro _ _ s2 ⟨rfl, rfl, h⟩ -
    show Ax g m_LI_keepUp 0 0 (ZV g Q) SH s2 0 0 132 [(8, .int z0), (0, .ref (gB g + 78)), (1, .ref (gB g + t1)), (3, .int x3), (4, .int x4), (5, .int x5), (6, .int x6), (7, .int x7)] []
    refine a_iload_n (pc := 132) 3 rfl rfl d_LI_keepUp_132 ?_
    refine a_if_eq (pc := 133) 143 (by decide) d_LI_keepUp_133 ⟨fun c0 => ?_, fun c0 => ?_⟩
    · replace h := h.1 c0
      obtain ⟨u3, hu3⟩ : ∃ y : Int32, y = x6 + (1 : Int32) := ⟨_, rfl⟩
      replace h := h u3 hu3
      refine a_iinc (pc := 143) (v := u3) (lv' := [(6, .int u3), (8, .int z0), (0, .ref (gB g + 78)), (1, .ref (gB g + t1)), (3, .int x3), (4, .int x4), (5, .int x5), (7, .int x7)]) 6 rfl (by rw [hu3]; rfl) (Nat.le_of_ble_eq_true rfl) rfl d_LI_keepUp_143 ?_
      refine a_goto (pc := 146) 75 (by decide) d_LI_keepUp_146 ?_
      refine a_sub (pc := 75) [2, 3, 4, 5, 6, 0] rfl ?_
      exact h
    · replace h := h.2 c0
      refine a_aload_n (pc := 136) 1 rfl rfl d_LI_keepUp_136 ?_
      refine a_aload_n (pc := 137) 2 rfl rfl d_LI_keepUp_137 ?_
      refine a_iload (pc := 138) 0 rfl d_LI_keepUp_138 ?_
      refine a_callV (pc := 140) (M' := m_LI_listenOn) (As := [.ref (gB g + t1), .int z0]) (st := []) (mc' := 0) (ms' := 0) lk_LI_77 rfl sx_78 rfl (by decide) (by decide) rfl (Nat.le_of_ble_eq_true rfl) (Nat.le_refl 0) (Nat.le_refl 0) d_LI_keepUp_140 h ?_
      rintro _ _ s4 ⟨rfl, rfl, h⟩ -
      show Ax g m_LI_keepUp 0 0 (ZV g Q) SH s4 0 0 143 [(8, .int z0), (0, .ref (gB g + 78)), (1, .ref (gB g + t1)), (3, .int x3), (4, .int x4), (5, .int x5), (6, .int x6), (7, .int x7)] []
      obtain ⟨u5, hu5⟩ : ∃ y : Int32, y = x6 + (1 : Int32) := ⟨_, rfl⟩
      replace h := h u5 hu5
      refine a_iinc (pc := 143) (v := u5) (lv' := [(6, .int u5), (8, .int z0), (0, .ref (gB g + 78)), (1, .ref (gB g + t1)), (3, .int x3), (4, .int x4), (5, .int x5), (7, .int x7)]) 6 rfl (by rw [hu5]; rfl) (Nat.le_of_ble_eq_true rfl) rfl d_LI_keepUp_143 ?_
      refine a_goto (pc := 146) 75 (by decide) d_LI_keepUp_146 ?_
      refine a_sub (pc := 75) [2, 3, 4, 5, 6, 0] rfl ?_
      exact h
theorem ko_LI_keepUp {g : Gx}  {t1 : Nat} {x2 : Int32} {x3 : Int32} {σ : St} {Q : St → Prop} (h : S_LI_keepUp_0 g Q σ t1 x2 x3) : K_LI_keepUp g t1 x2 x3 σ Q := KV.of (show plainName "BallBox$Listener" = true by decide) (Nat.le_of_ble_eq_true rfl) h
theorem d_LI_behindSounds_0 : decode c_LI_behindSounds 0 = .ok (.iload_n 2, 1) := by decide +kernel
theorem d_LI_behindSounds_1 : decode c_LI_behindSounds 1 = .ok (.istore_n 3, 1) := by decide +kernel
theorem d_LI_behindSounds_2 : decode c_LI_behindSounds 2 = .ok (.iconst 0, 1) := by decide +kernel
theorem d_LI_behindSounds_3 : decode c_LI_behindSounds 3 = .ok (.istore 4, 2) := by decide +kernel
theorem d_LI_behindSounds_5 : decode c_LI_behindSounds 5 = .ok (.iload 4, 2) := by decide +kernel
theorem d_LI_behindSounds_7 : decode c_LI_behindSounds 7 = .ok (.aload_n 1, 1) := by decide +kernel
theorem d_LI_behindSounds_8 : decode c_LI_behindSounds 8 = .ok (.getfield 84, 3) := by decide +kernel
theorem d_LI_behindSounds_11 : decode c_LI_behindSounds 11 = .ok (.if_icmp .ge 60, 3) := by decide +kernel
theorem d_LI_behindSounds_14 : decode c_LI_behindSounds 14 = .ok (.aload_n 1, 1) := by decide +kernel
theorem d_LI_behindSounds_15 : decode c_LI_behindSounds 15 = .ok (.getfield 87, 3) := by decide +kernel
theorem d_LI_behindSounds_18 : decode c_LI_behindSounds 18 = .ok (.iload 4, 2) := by decide +kernel
theorem d_LI_behindSounds_20 : decode c_LI_behindSounds 20 = .ok (.iaload, 1) := by decide +kernel
theorem d_LI_behindSounds_21 : decode c_LI_behindSounds 21 = .ok (.istore 5, 2) := by decide +kernel
theorem d_LI_behindSounds_23 : decode c_LI_behindSounds 23 = .ok (.aload_n 0, 1) := by decide +kernel
theorem d_LI_behindSounds_24 : decode c_LI_behindSounds 24 = .ok (.getfield 28, 3) := by decide +kernel
theorem d_LI_behindSounds_27 : decode c_LI_behindSounds 27 = .ok (.aload_n 1, 1) := by decide +kernel
theorem d_LI_behindSounds_28 : decode c_LI_behindSounds 28 = .ok (.iload_n 3, 1) := by decide +kernel
theorem d_LI_behindSounds_29 : decode c_LI_behindSounds 29 = .ok (.iload 5, 2) := by decide +kernel
theorem d_LI_behindSounds_31 : decode c_LI_behindSounds 31 = .ok (.bipush 16, 2) := by decide +kernel
theorem d_LI_behindSounds_33 : decode c_LI_behindSounds 33 = .ok (.idiv, 1) := by decide +kernel
theorem d_LI_behindSounds_34 : decode c_LI_behindSounds 34 = .ok (.invokevirtual 90, 3) := by decide +kernel
theorem d_LI_behindSounds_37 : decode c_LI_behindSounds 37 = .ok (.istore_n 3, 1) := by decide +kernel
theorem d_LI_behindSounds_38 : decode c_LI_behindSounds 38 = .ok (.aload_n 0, 1) := by decide +kernel
theorem d_LI_behindSounds_39 : decode c_LI_behindSounds 39 = .ok (.getfield 28, 3) := by decide +kernel
theorem d_LI_behindSounds_42 : decode c_LI_behindSounds 42 = .ok (.getfield 96, 3) := by decide +kernel
theorem d_LI_behindSounds_45 : decode c_LI_behindSounds 45 = .ok (.aload_n 0, 1) := by decide +kernel
theorem d_LI_behindSounds_46 : decode c_LI_behindSounds 46 = .ok (.getfield 28, 3) := by decide +kernel
theorem d_LI_behindSounds_49 : decode c_LI_behindSounds 49 = .ok (.getfield 99, 3) := by decide +kernel
theorem d_LI_behindSounds_52 : decode c_LI_behindSounds 52 = .ok (.invokestatic 32, 3) := by decide +kernel
theorem d_LI_behindSounds_55 : decode c_LI_behindSounds 55 = .ok (.iload 5, 2) := by decide +kernel
theorem d_LI_behindSounds_57 : decode c_LI_behindSounds 57 = .ok (.bipush 16, 2) := by decide +kernel
theorem d_LI_behindSounds_59 : decode c_LI_behindSounds 59 = .ok (.irem, 1) := by decide +kernel
theorem d_LI_behindSounds_60 : decode c_LI_behindSounds 60 = .ok (.if_icmp .eq 5, 3) := by decide +kernel
theorem d_LI_behindSounds_63 : decode c_LI_behindSounds 63 = .ok (.iconst (-1), 1) := by decide +kernel
theorem d_LI_behindSounds_64 : decode c_LI_behindSounds 64 = .ok (.ireturn, 1) := by decide +kernel
theorem d_LI_behindSounds_65 : decode c_LI_behindSounds 65 = .ok (.iinc 4 1, 3) := by decide +kernel
theorem d_LI_behindSounds_68 : decode c_LI_behindSounds 68 = .ok (.goto (-63), 3) := by decide +kernel
theorem d_LI_behindSounds_71 : decode c_LI_behindSounds 71 = .ok (.iload_n 3, 1) := by decide +kernel
theorem d_LI_behindSounds_72 : decode c_LI_behindSounds 72 = .ok (.ireturn, 1) := by decide +kernel
def S_LI_behindSounds_0 (g : Gx) (Q : Int32 → St → Prop) (σ : St) (t1 : Nat) (x2 : Int32) : Prop := Ax g m_LI_behindSounds 0 0 (ZI g Q) SH σ 0 0 0 [(0, .ref (gB g + 78)), (1, .ref (gB g + t1)), (2, .int x2)] []
def S_LI_behindSounds_5 (g : Gx) (Q : Int32 → St → Prop) (σ : St) (t1 : Nat) (x3 : Int32) (x4 : Int32) : Prop := Ax g m_LI_behindSounds 0 0 (ZI g Q) SH σ 0 0 5 [(0, .ref (gB g + 78)), (1, .ref (gB g + t1)), (3, .int x3), (4, .int x4)] []
theorem sg_LI_behindSounds_0 {g : Gx} {Q : Int32 → St → Prop} {σ : St} {t1 : Nat} {x2 : Int32} (ht1 : isSA t1)
    (h : S_LI_behindSounds_5 g Q σ t1 x2 (0 : Int32)) : S_LI_behindSounds_0 g Q σ t1 x2 := by
  show Ax g m_LI_behindSounds 0 0 (ZI g Q) SH σ 0 0 0 [(0, .ref (gB g + 78)), (1, .ref (gB g + t1)), (2, .int x2)] []
  refine a_iload_n (pc := 0) 2 rfl rfl d_LI_behindSounds_0 ?_
  refine a_istore_n (pc := 1) (lv' := [(3, .int x2), (0, .ref (gB g + 78)), (1, .ref (gB g + t1)), (2, .int x2)]) rfl (Nat.le_of_ble_eq_true rfl) rfl d_LI_behindSounds_1 ?_
  refine a_iconst (pc := 2) (0 : Int32) (by decide) d_LI_behindSounds_2 ?_
  refine a_istore (pc := 3) (lv' := [(4, .int (0 : Int32)), (3, .int x2), (0, .ref (gB g + 78)), (1, .ref (gB g + t1)), (2, .int x2)]) (Nat.le_of_ble_eq_true rfl) rfl d_LI_behindSounds_3 ?_
  refine a_sub (pc := 5) [2, 3, 1, 0] rfl ?_
  exact h
theorem sg_LI_behindSounds_5 {g : Gx} {Q : Int32 → St → Prop} {σ : St} {t1 : Nat} {x3 : Int32} {x4 : Int32} (ht1 : isSA t1)
    (h : ((fi σ t1 8) ≤ x4 → Q x3 σ) ∧ (¬ (fi σ t1 8) ≤ x4 → vp_in x4 8 ∧ (∀ u1 : Int32, u1 = (ai σ (t1 + 4) (x4).toNatClampNeg) → K_RO_rolled g t1 x3 (u1 / (16 : Int32)) σ (fun (r3 : Int32) (s2 : St) => K_LI_heard g (fi s2 17 6) (fi s2 17 7) s2 (fun (r5 : Int32) (s4 : St) => (r5 = (u1 - u1 / (16 : Int32) * (16 : Int32)) → ∀ u6 : Int32, u6 = x4 + (1 : Int32) → S_LI_behindSounds_5 g Q s4 t1 r3 u6) ∧ (¬ r5 = (u1 - u1 / (16 : Int32) * (16 : Int32)) → Q (-1 : Int32) s4)))))) : S_LI_behindSounds_5 g Q σ t1 x3 x4 := by
  show Ax g m_LI_behindSounds 0 0 (ZI g Q) SH σ 0 0 5 [(0, .ref (gB g + 78)), (1, .ref (gB g + t1)), (3, .int x3), (4, .int x4)] []
  refine a_iload (pc := 5) 3 rfl d_LI_behindSounds_5 ?_
  refine a_aload_n (pc := 7) 1 rfl rfl d_LI_behindSounds_7 ?_
  refine a_getI (pc := 8) fg_LI_84 (sa0 ht1) rfl d_LI_behindSounds_8 ?_
  refine a_icmp_ge (pc := 11) 71 (by decide) d_LI_behindSounds_11 ⟨fun c0 => ?_, fun c0 => ?_⟩
  · replace h := h.1 c0
    refine a_iload_n (pc := 71) 2 rfl rfl d_LI_behindSounds_71 ?_
    exact b_iret (pc := 72) rfl d_LI_behindSounds_72 h
  · replace h := h.2 c0
    refine a_aload_n (pc := 14) 1 rfl rfl d_LI_behindSounds_14 ?_
    refine a_getR (pc := 15) fg_LI_87 (sa0 ht1) rfl d_LI_behindSounds_15 ?_
    refine a_iload (pc := 18) 3 rfl d_LI_behindSounds_18 ?_
    obtain ⟨hx, h⟩ := h
    refine a_iald (pc := 20) (sa4 ht1) hx d_LI_behindSounds_20 ?_
    refine a_nmi (pc := 21) (fun u1 hu1 => ?_)
    replace h := h u1 hu1
    refine a_istore (pc := 21) (lv' := [(5, .int u1), (0, .ref (gB g + 78)), (1, .ref (gB g + t1)), (3, .int x3), (4, .int x4)]) (Nat.le_of_ble_eq_true rfl) rfl d_LI_behindSounds_21 ?_
    refine a_aload_n (pc := 23) 1 rfl rfl d_LI_behindSounds_23 ?_
    refine a_getR (pc := 24) fg_LI_28 sx_78 rfl d_LI_behindSounds_24 ?_
    refine a_aload_n (pc := 27) 2 rfl rfl d_LI_behindSounds_27 ?_
    refine a_iload_n (pc := 28) 3 rfl rfl d_LI_behindSounds_28 ?_
    refine a_iload (pc := 29) 0 rfl d_LI_behindSounds_29 ?_
    refine a_bipush (pc := 31) (16 : Int32) (by decide) d_LI_behindSounds_31 ?_
    refine a_idiv (pc := 33) (by decide) d_LI_behindSounds_33 ?_
    refine a_callV (pc := 34) (M' := m_RO_rolled) (As := [.ref (gB g + t1), .int x3, .int (u1 / (16 : Int32))]) (st := []) (mc' := 0) (ms' := 0) lk_LI_90 rfl sx_17 rfl (by decide) (by decide) rfl (Nat.le_of_ble_eq_true rfl) (Nat.le_refl 0) (Nat.le_refl 0) d_LI_behindSounds_34 h ?_
    rintro _ _ s2 ⟨r3, rfl, rfl, h⟩ -
    show Ax g m_LI_behindSounds 0 0 (ZI g Q) SH s2 0 0 37 [(5, .int u1), (0, .ref (gB g + 78)), (1, .ref (gB g + t1)), (3, .int x3), (4, .int x4)] [.int r3]
    refine a_istore_n (pc := 37) (lv' := [(3, .int r3), (5, .int u1), (0, .ref (gB g + 78)), (1, .ref (gB g + t1)), (4, .int x4)]) rfl (Nat.le_of_ble_eq_true rfl) rfl d_LI_behindSounds_37 ?_
    refine a_aload_n (pc := 38) 2 rfl rfl d_LI_behindSounds_38 ?_
    refine a_getR (pc := 39) fg_LI_28 sx_78 rfl d_LI_behindSounds_39 ?_
    refine a_getI (pc := 42) fg_LI_96 sx_17 rfl d_LI_behindSounds_42 ?_
    refine a_aload_n (pc := 45) 2 rfl rfl d_LI_behindSounds_45 ?_
    refine a_getR (pc := 46) fg_LI_28 sx_78 rfl d_LI_behindSounds_46 ?_
    refine a_getI (pc := 49) fg_LI_99 sx_17 rfl d_LI_behindSounds_49 ?_
    refine a_callS (pc := 52) (M' := m_LI_heard) (As := [.int (fi s2 17 6), .int (fi s2 17 7)]) (st := []) (mc' := 0) (ms' := 0) lk_LI_32 rfl (by decide) (by decide) rfl (Nat.le_of_ble_eq_true rfl) (Nat.le_refl 0) (Nat.le_refl 0) d_LI_behindSounds_52 h ?_
    rintro _ _ s4 ⟨r5, rfl, rfl, h⟩ -
    show Ax g m_LI_behindSounds 0 0 (ZI g Q) SH s4 0 0 55 [(3, .int r3), (5, .int u1), (0, .ref (gB g + 78)), (1, .ref (gB g + t1)), (4, .int x4)] [.int r5]
    refine a_iload (pc := 55) 1 rfl d_LI_behindSounds_55 ?_
    refine a_bipush (pc := 57) (16 : Int32) (by decide) d_LI_behindSounds_57 ?_
    refine a_irem (pc := 59) (by decide) d_LI_behindSounds_59 ?_
    refine a_icmp_eq (pc := 60) 65 (by decide) d_LI_behindSounds_60 ⟨fun c0 => ?_, fun c0 => ?_⟩
    · replace h := h.1 c0
      obtain ⟨u6, hu6⟩ : ∃ y : Int32, y = x4 + (1 : Int32) := ⟨_, rfl⟩
      replace h := h u6 hu6
      refine a_iinc (pc := 65) (v := u6) (lv' := [(4, .int u6), (3, .int r3), (5, .int u1), (0, .ref (gB g + 78)), (1, .ref (gB g + t1))]) 4 rfl (by rw [hu6]; rfl) (Nat.le_of_ble_eq_true rfl) rfl d_LI_behindSounds_65 ?_
      refine a_goto (pc := 68) 5 (by decide) d_LI_behindSounds_68 ?_
      refine a_sub (pc := 5) [3, 4, 1, 0] rfl ?_
      exact h
    · replace h := h.2 c0
      refine a_iconst (pc := 63) (-1 : Int32) (by decide) d_LI_behindSounds_63 ?_
      exact b_iret (pc := 64) rfl d_LI_behindSounds_64 h
theorem ko_LI_behindSounds {g : Gx}  {t1 : Nat} {x2 : Int32} {σ : St} {Q : Int32 → St → Prop} (h : S_LI_behindSounds_0 g Q σ t1 x2) : K_LI_behindSounds g t1 x2 σ Q := KI.of (show plainName "BallBox$Listener" = true by decide) (Nat.le_of_ble_eq_true rfl) h
theorem d_LI_noteFit_0 : decode c_LI_noteFit 0 = .ok (.aload_n 0, 1) := by decide +kernel
theorem d_LI_noteFit_1 : decode c_LI_noteFit 1 = .ok (.getfield 43, 3) := by decide +kernel
theorem d_LI_noteFit_4 : decode c_LI_noteFit 4 = .ok (.ifCond .ne 8, 3) := by decide +kernel
theorem d_LI_noteFit_7 : decode c_LI_noteFit 7 = .ok (.aload_n 0, 1) := by decide +kernel
theorem d_LI_noteFit_8 : decode c_LI_noteFit 8 = .ok (.iload_n 2, 1) := by decide +kernel
theorem d_LI_noteFit_9 : decode c_LI_noteFit 9 = .ok (.putfield 102, 3) := by decide +kernel
theorem d_LI_noteFit_12 : decode c_LI_noteFit 12 = .ok (.aload_n 0, 1) := by decide +kernel
theorem d_LI_noteFit_13 : decode c_LI_noteFit 13 = .ok (.dup, 1) := by decide +kernel
theorem d_LI_noteFit_14 : decode c_LI_noteFit 14 = .ok (.getfield 43, 3) := by decide +kernel
theorem d_LI_noteFit_17 : decode c_LI_noteFit 17 = .ok (.iconst 1, 1) := by decide +kernel
theorem d_LI_noteFit_18 : decode c_LI_noteFit 18 = .ok (.iadd, 1) := by decide +kernel
theorem d_LI_noteFit_19 : decode c_LI_noteFit 19 = .ok (.putfield 43, 3) := by decide +kernel
theorem d_LI_noteFit_22 : decode c_LI_noteFit 22 = .ok (.iconst 0, 1) := by decide +kernel
theorem d_LI_noteFit_23 : decode c_LI_noteFit 23 = .ok (.istore_n 3, 1) := by decide +kernel
theorem d_LI_noteFit_24 : decode c_LI_noteFit 24 = .ok (.iload_n 3, 1) := by decide +kernel
theorem d_LI_noteFit_25 : decode c_LI_noteFit 25 = .ok (.iload_n 1, 1) := by decide +kernel
theorem d_LI_noteFit_26 : decode c_LI_noteFit 26 = .ok (.if_icmp .ge 25, 3) := by decide +kernel
theorem d_LI_noteFit_29 : decode c_LI_noteFit 29 = .ok (.aload_n 0, 1) := by decide +kernel
theorem d_LI_noteFit_30 : decode c_LI_noteFit 30 = .ok (.getfield 17, 3) := by decide +kernel
theorem d_LI_noteFit_33 : decode c_LI_noteFit 33 = .ok (.iload_n 3, 1) := by decide +kernel
theorem d_LI_noteFit_34 : decode c_LI_noteFit 34 = .ok (.dup2, 1) := by decide +kernel
theorem d_LI_noteFit_35 : decode c_LI_noteFit 35 = .ok (.laload, 1) := by decide +kernel
theorem d_LI_noteFit_36 : decode c_LI_noteFit 36 = .ok (.lconst 1, 1) := by decide +kernel
theorem d_LI_noteFit_37 : decode c_LI_noteFit 37 = .ok (.iload_n 2, 1) := by decide +kernel
theorem d_LI_noteFit_38 : decode c_LI_noteFit 38 = .ok (.iload_n 3, 1) := by decide +kernel
theorem d_LI_noteFit_39 : decode c_LI_noteFit 39 = .ok (.invokestatic 105, 3) := by decide +kernel
theorem d_LI_noteFit_42 : decode c_LI_noteFit 42 = .ok (.lshl, 1) := by decide +kernel
theorem d_LI_noteFit_43 : decode c_LI_noteFit 43 = .ok (.lor, 1) := by decide +kernel
theorem d_LI_noteFit_44 : decode c_LI_noteFit 44 = .ok (.lastore, 1) := by decide +kernel
theorem d_LI_noteFit_45 : decode c_LI_noteFit 45 = .ok (.iinc 3 1, 3) := by decide +kernel
theorem d_LI_noteFit_48 : decode c_LI_noteFit 48 = .ok (.goto (-24), 3) := by decide +kernel
theorem d_LI_noteFit_51 : decode c_LI_noteFit 51 = .ok (.return_, 1) := by decide +kernel
def S_LI_noteFit_0 (g : Gx) (Q : St → Prop) (σ : St) (x1 : Int32) (x2 : Int32) : Prop := Ax g m_LI_noteFit 0 0 (ZV g Q) SH σ 0 0 0 [(0, .ref (gB g + 78)), (1, .int x1), (2, .int x2)] []
def S_LI_noteFit_24 (g : Gx) (Q : St → Prop) (σ : St) (x1 : Int32) (x2 : Int32) (x3 : Int32) : Prop := Ax g m_LI_noteFit 0 0 (ZV g Q) SH σ 0 0 24 [(0, .ref (gB g + 78)), (1, .int x1), (2, .int x2), (3, .int x3)] []
theorem sg_LI_noteFit_0 {g : Gx} {Q : St → Prop} {σ : St} {x1 : Int32} {x2 : Int32}
    (h : (¬ (fi σ 78 6) = 0 → ∀ s1 : St, s1 = sfi σ 78 6 ((fi σ 78 6) + (1 : Int32)) → S_LI_noteFit_24 g Q s1 x1 x2 (0 : Int32)) ∧ ((fi σ 78 6) = 0 → ∀ s2 : St, s2 = sfi σ 78 7 x2 → ∀ s3 : St, s3 = sfi s2 78 6 ((fi s2 78 6) + (1 : Int32)) → S_LI_noteFit_24 g Q s3 x1 x2 (0 : Int32))) : S_LI_noteFit_0 g Q σ x1 x2 := by
  show Ax g m_LI_noteFit 0 0 (ZV g Q) SH σ 0 0 0 [(0, .ref (gB g + 78)), (1, .int x1), (2, .int x2)] []
  refine a_aload_n (pc := 0) 0 rfl rfl d_LI_noteFit_0 ?_
  refine a_getI (pc := 1) fg_LI_43 sx_78 rfl d_LI_noteFit_1 ?_
  refine a_if_ne (pc := 4) 12 (by decide) d_LI_noteFit_4 ⟨fun c0 => ?_, fun c0 => ?_⟩
  · replace h := h.1 c0
    refine a_aload_n (pc := 12) 0 rfl rfl d_LI_noteFit_12 ?_
    refine a_dup (pc := 13) rfl d_LI_noteFit_13 ?_
    refine a_getI (pc := 14) fg_LI_43 sx_78 rfl d_LI_noteFit_14 ?_
    refine a_iconst (pc := 17) (1 : Int32) (by decide) d_LI_noteFit_17 ?_
    refine a_iadd (pc := 18) d_LI_noteFit_18 ?_
    refine a_putI (pc := 19) fp_LI_43 sx_78 rfl d_LI_noteFit_19 ?_
    refine a_nms (fun s1 hs1 => ?_)
    replace h := h s1 hs1
    refine a_iconst (pc := 22) (0 : Int32) (by decide) d_LI_noteFit_22 ?_
    refine a_istore_n (pc := 23) (lv' := [(3, .int (0 : Int32)), (0, .ref (gB g + 78)), (1, .int x1), (2, .int x2)]) rfl (Nat.le_of_ble_eq_true rfl) rfl d_LI_noteFit_23 ?_
    refine a_sub (pc := 24) [1, 2, 3, 0] rfl ?_
    exact h
  · replace h := h.2 c0
    refine a_aload_n (pc := 7) 0 rfl rfl d_LI_noteFit_7 ?_
    refine a_iload_n (pc := 8) 2 rfl rfl d_LI_noteFit_8 ?_
    refine a_putI (pc := 9) fp_LI_102 sx_78 rfl d_LI_noteFit_9 ?_
    refine a_nms (fun s2 hs2 => ?_)
    replace h := h s2 hs2
    refine a_aload_n (pc := 12) 0 rfl rfl d_LI_noteFit_12 ?_
    refine a_dup (pc := 13) rfl d_LI_noteFit_13 ?_
    refine a_getI (pc := 14) fg_LI_43 sx_78 rfl d_LI_noteFit_14 ?_
    refine a_iconst (pc := 17) (1 : Int32) (by decide) d_LI_noteFit_17 ?_
    refine a_iadd (pc := 18) d_LI_noteFit_18 ?_
    refine a_putI (pc := 19) fp_LI_43 sx_78 rfl d_LI_noteFit_19 ?_
    refine a_nms (fun s3 hs3 => ?_)
    replace h := h s3 hs3
    refine a_iconst (pc := 22) (0 : Int32) (by decide) d_LI_noteFit_22 ?_
    refine a_istore_n (pc := 23) (lv' := [(3, .int (0 : Int32)), (0, .ref (gB g + 78)), (1, .int x1), (2, .int x2)]) rfl (Nat.le_of_ble_eq_true rfl) rfl d_LI_noteFit_23 ?_
    refine a_sub (pc := 24) [1, 2, 3, 0] rfl ?_
    exact h
theorem sg_LI_noteFit_24 {g : Gx} {Q : St → Prop} {σ : St} {x1 : Int32} {x2 : Int32} {x3 : Int32}
    (h : (x1 ≤ x3 → Q σ) ∧ (¬ x1 ≤ x3 → vp_in x3 3 ∧ (K_SA_spotIn g x2 x3 σ (fun (r2 : Int32) (s1 : St) => vp_in x3 3 ∧ (∀ s3 : St, s3 = saj s1 80 (x3).toNatClampNeg ((aj σ 80 (x3).toNatClampNeg) ||| ((1 : Int64) <<< ((r2).toInt64 &&& 63))) → ∀ u4 : Int32, u4 = x3 + (1 : Int32) → S_LI_noteFit_24 g Q s3 x1 x2 u4))))) : S_LI_noteFit_24 g Q σ x1 x2 x3 := by
  show Ax g m_LI_noteFit 0 0 (ZV g Q) SH σ 0 0 24 [(0, .ref (gB g + 78)), (1, .int x1), (2, .int x2), (3, .int x3)] []
  refine a_iload_n (pc := 24) 3 rfl rfl d_LI_noteFit_24 ?_
  refine a_iload_n (pc := 25) 1 rfl rfl d_LI_noteFit_25 ?_
  refine a_icmp_ge (pc := 26) 51 (by decide) d_LI_noteFit_26 ⟨fun c0 => ?_, fun c0 => ?_⟩
  · replace h := h.1 c0
    exact b_vret (pc := 51) rfl d_LI_noteFit_51 h
  · replace h := h.2 c0
    refine a_aload_n (pc := 29) 0 rfl rfl d_LI_noteFit_29 ?_
    refine a_getR (pc := 30) fg_LI_17 sx_78 rfl d_LI_noteFit_30 ?_
    refine a_iload_n (pc := 33) 3 rfl rfl d_LI_noteFit_33 ?_
    refine a_dup2_11 (pc := 34) rfl rfl d_LI_noteFit_34 ?_
    obtain ⟨hx, h⟩ := h
    refine a_lald (pc := 35) sx_80 hx d_LI_noteFit_35 ?_
    refine a_lconst (pc := 36) (1 : Int64) (by decide) d_LI_noteFit_36 ?_
    refine a_iload_n (pc := 37) 2 rfl rfl d_LI_noteFit_37 ?_
    refine a_iload_n (pc := 38) 3 rfl rfl d_LI_noteFit_38 ?_
    refine a_callS (pc := 39) (M' := m_SA_spotIn) (As := [.int x2, .int x3]) (st := [.long (1 : Int64), .long (aj σ 80 (x3).toNatClampNeg), .int x3, .ref (gB g + 80)]) (mc' := 0) (ms' := 0) lk_LI_105 rfl (by decide) (by decide) rfl (Nat.le_of_ble_eq_true rfl) (Nat.le_refl 0) (Nat.le_refl 0) d_LI_noteFit_39 h ?_
    rintro _ _ s1 ⟨r2, rfl, rfl, h⟩ -
    show Ax g m_LI_noteFit 0 0 (ZV g Q) SH s1 0 0 42 [(0, .ref (gB g + 78)), (1, .int x1), (2, .int x2), (3, .int x3)] [.int r2, .long (1 : Int64), .long (aj σ 80 (x3).toNatClampNeg), .int x3, .ref (gB g + 80)]
    refine a_lshl (pc := 42) d_LI_noteFit_42 ?_
    refine a_lor (pc := 43) d_LI_noteFit_43 ?_
    obtain ⟨hx, h⟩ := h
    refine a_last (pc := 44) sx_80 hx d_LI_noteFit_44 ?_
    refine a_nms (fun s3 hs3 => ?_)
    replace h := h s3 hs3
    obtain ⟨u4, hu4⟩ : ∃ y : Int32, y = x3 + (1 : Int32) := ⟨_, rfl⟩
    replace h := h u4 hu4
    refine a_iinc (pc := 45) (v := u4) (lv' := [(3, .int u4), (0, .ref (gB g + 78)), (1, .int x1), (2, .int x2)]) 3 rfl (by rw [hu4]; rfl) (Nat.le_of_ble_eq_true rfl) rfl d_LI_noteFit_45 ?_
    refine a_goto (pc := 48) 24 (by decide) d_LI_noteFit_48 ?_
    refine a_sub (pc := 24) [1, 2, 3, 0] rfl ?_
    exact h
theorem ko_LI_noteFit {g : Gx}  {x1 : Int32} {x2 : Int32} {σ : St} {Q : St → Prop} (h : S_LI_noteFit_0 g Q σ x1 x2) : K_LI_noteFit g x1 x2 σ Q := KV.of (show plainName "BallBox$Listener" = true by decide) (Nat.le_of_ble_eq_true rfl) h
theorem d_LI_listenOn_0 : decode c_LI_listenOn 0 = .ok (.iconst 0, 1) := by decide +kernel
theorem d_LI_listenOn_1 : decode c_LI_listenOn 1 = .ok (.istore_n 3, 1) := by decide +kernel
theorem d_LI_listenOn_2 : decode c_LI_listenOn 2 = .ok (.iload_n 3, 1) := by decide +kernel
theorem d_LI_listenOn_3 : decode c_LI_listenOn 3 = .ok (.iconst 4, 1) := by decide +kernel
theorem d_LI_listenOn_4 : decode c_LI_listenOn 4 = .ok (.if_icmp .ge 47, 3) := by decide +kernel
theorem d_LI_listenOn_7 : decode c_LI_listenOn 7 = .ok (.aload_n 0, 1) := by decide +kernel
theorem d_LI_listenOn_8 : decode c_LI_listenOn 8 = .ok (.getfield 28, 3) := by decide +kernel
theorem d_LI_listenOn_11 : decode c_LI_listenOn 11 = .ok (.aload_n 1, 1) := by decide +kernel
theorem d_LI_listenOn_12 : decode c_LI_listenOn 12 = .ok (.iload_n 2, 1) := by decide +kernel
theorem d_LI_listenOn_13 : decode c_LI_listenOn 13 = .ok (.iload_n 3, 1) := by decide +kernel
theorem d_LI_listenOn_14 : decode c_LI_listenOn 14 = .ok (.invokevirtual 90, 3) := by decide +kernel
theorem d_LI_listenOn_17 : decode c_LI_listenOn 17 = .ok (.pop, 1) := by decide +kernel
theorem d_LI_listenOn_18 : decode c_LI_listenOn 18 = .ok (.aload_n 0, 1) := by decide +kernel
theorem d_LI_listenOn_19 : decode c_LI_listenOn 19 = .ok (.getfield 21, 3) := by decide +kernel
theorem d_LI_listenOn_22 : decode c_LI_listenOn 22 = .ok (.iload_n 3, 1) := by decide +kernel
theorem d_LI_listenOn_23 : decode c_LI_listenOn 23 = .ok (.aload_n 0, 1) := by decide +kernel
theorem d_LI_listenOn_24 : decode c_LI_listenOn 24 = .ok (.getfield 28, 3) := by decide +kernel
theorem d_LI_listenOn_27 : decode c_LI_listenOn 27 = .ok (.getfield 96, 3) := by decide +kernel
theorem d_LI_listenOn_30 : decode c_LI_listenOn 30 = .ok (.aload_n 0, 1) := by decide +kernel
theorem d_LI_listenOn_31 : decode c_LI_listenOn 31 = .ok (.getfield 28, 3) := by decide +kernel
theorem d_LI_listenOn_34 : decode c_LI_listenOn 34 = .ok (.getfield 99, 3) := by decide +kernel
theorem d_LI_listenOn_37 : decode c_LI_listenOn 37 = .ok (.invokestatic 108, 3) := by decide +kernel
theorem d_LI_listenOn_40 : decode c_LI_listenOn 40 = .ok (.dup2, 1) := by decide +kernel
theorem d_LI_listenOn_41 : decode c_LI_listenOn 41 = .ok (.iaload, 1) := by decide +kernel
theorem d_LI_listenOn_42 : decode c_LI_listenOn 42 = .ok (.iconst 1, 1) := by decide +kernel
theorem d_LI_listenOn_43 : decode c_LI_listenOn 43 = .ok (.iadd, 1) := by decide +kernel
theorem d_LI_listenOn_44 : decode c_LI_listenOn 44 = .ok (.iastore, 1) := by decide +kernel
theorem d_LI_listenOn_45 : decode c_LI_listenOn 45 = .ok (.iinc 3 1, 3) := by decide +kernel
theorem d_LI_listenOn_48 : decode c_LI_listenOn 48 = .ok (.goto (-46), 3) := by decide +kernel
theorem d_LI_listenOn_51 : decode c_LI_listenOn 51 = .ok (.return_, 1) := by decide +kernel
def S_LI_listenOn_0 (g : Gx) (Q : St → Prop) (σ : St) (t1 : Nat) (x2 : Int32) : Prop := Ax g m_LI_listenOn 0 0 (ZV g Q) SH σ 0 0 0 [(0, .ref (gB g + 78)), (1, .ref (gB g + t1)), (2, .int x2)] []
def S_LI_listenOn_2 (g : Gx) (Q : St → Prop) (σ : St) (t1 : Nat) (x2 : Int32) (x3 : Int32) : Prop := Ax g m_LI_listenOn 0 0 (ZV g Q) SH σ 0 0 2 [(0, .ref (gB g + 78)), (1, .ref (gB g + t1)), (2, .int x2), (3, .int x3)] []
theorem sg_LI_listenOn_0 {g : Gx} {Q : St → Prop} {σ : St} {t1 : Nat} {x2 : Int32} (ht1 : isSA t1)
    (h : S_LI_listenOn_2 g Q σ t1 x2 (0 : Int32)) : S_LI_listenOn_0 g Q σ t1 x2 := by
  show Ax g m_LI_listenOn 0 0 (ZV g Q) SH σ 0 0 0 [(0, .ref (gB g + 78)), (1, .ref (gB g + t1)), (2, .int x2)] []
  refine a_iconst (pc := 0) (0 : Int32) (by decide) d_LI_listenOn_0 ?_
  refine a_istore_n (pc := 1) (lv' := [(3, .int (0 : Int32)), (0, .ref (gB g + 78)), (1, .ref (gB g + t1)), (2, .int x2)]) rfl (Nat.le_of_ble_eq_true rfl) rfl d_LI_listenOn_1 ?_
  refine a_sub (pc := 2) [1, 2, 3, 0] rfl ?_
  exact h
theorem sg_LI_listenOn_2 {g : Gx} {Q : St → Prop} {σ : St} {t1 : Nat} {x2 : Int32} {x3 : Int32} (ht1 : isSA t1)
    (h : ((4 : Int32) ≤ x3 → Q σ) ∧ (¬ (4 : Int32) ≤ x3 → K_RO_rolled g t1 x2 x3 σ (fun (r2 : Int32) (s1 : St) => K_LI_packed g x3 (fi s1 17 6) (fi s1 17 7) s1 (fun (r4 : Int32) (s3 : St) => vp_in r4 64 ∧ (vp_in r4 64 ∧ (∀ s5 : St, s5 = sai s3 81 (r4).toNatClampNeg ((ai s3 81 (r4).toNatClampNeg) + (1 : Int32)) → ∀ u6 : Int32, u6 = x3 + (1 : Int32) → S_LI_listenOn_2 g Q s5 t1 x2 u6)))))) : S_LI_listenOn_2 g Q σ t1 x2 x3 := by
  show Ax g m_LI_listenOn 0 0 (ZV g Q) SH σ 0 0 2 [(0, .ref (gB g + 78)), (1, .ref (gB g + t1)), (2, .int x2), (3, .int x3)] []
  refine a_iload_n (pc := 2) 3 rfl rfl d_LI_listenOn_2 ?_
  refine a_iconst (pc := 3) (4 : Int32) (by decide) d_LI_listenOn_3 ?_
  refine a_icmp_ge (pc := 4) 51 (by decide) d_LI_listenOn_4 ⟨fun c0 => ?_, fun c0 => ?_⟩
  · replace h := h.1 c0
    exact b_vret (pc := 51) rfl d_LI_listenOn_51 h
  · replace h := h.2 c0
    refine a_aload_n (pc := 7) 0 rfl rfl d_LI_listenOn_7 ?_
    refine a_getR (pc := 8) fg_LI_28 sx_78 rfl d_LI_listenOn_8 ?_
    refine a_aload_n (pc := 11) 1 rfl rfl d_LI_listenOn_11 ?_
    refine a_iload_n (pc := 12) 2 rfl rfl d_LI_listenOn_12 ?_
    refine a_iload_n (pc := 13) 3 rfl rfl d_LI_listenOn_13 ?_
    refine a_callV (pc := 14) (M' := m_RO_rolled) (As := [.ref (gB g + t1), .int x2, .int x3]) (st := []) (mc' := 0) (ms' := 0) lk_LI_90 rfl sx_17 rfl (by decide) (by decide) rfl (Nat.le_of_ble_eq_true rfl) (Nat.le_refl 0) (Nat.le_refl 0) d_LI_listenOn_14 h ?_
    rintro _ _ s1 ⟨r2, rfl, rfl, h⟩ -
    show Ax g m_LI_listenOn 0 0 (ZV g Q) SH s1 0 0 17 [(0, .ref (gB g + 78)), (1, .ref (gB g + t1)), (2, .int x2), (3, .int x3)] [.int r2]
    refine a_pop (pc := 17) rfl d_LI_listenOn_17 ?_
    refine a_aload_n (pc := 18) 0 rfl rfl d_LI_listenOn_18 ?_
    refine a_getR (pc := 19) fg_LI_21 sx_78 rfl d_LI_listenOn_19 ?_
    refine a_iload_n (pc := 22) 3 rfl rfl d_LI_listenOn_22 ?_
    refine a_aload_n (pc := 23) 0 rfl rfl d_LI_listenOn_23 ?_
    refine a_getR (pc := 24) fg_LI_28 sx_78 rfl d_LI_listenOn_24 ?_
    refine a_getI (pc := 27) fg_LI_96 sx_17 rfl d_LI_listenOn_27 ?_
    refine a_aload_n (pc := 30) 0 rfl rfl d_LI_listenOn_30 ?_
    refine a_getR (pc := 31) fg_LI_28 sx_78 rfl d_LI_listenOn_31 ?_
    refine a_getI (pc := 34) fg_LI_99 sx_17 rfl d_LI_listenOn_34 ?_
    refine a_callS (pc := 37) (M' := m_LI_packed) (As := [.int x3, .int (fi s1 17 6), .int (fi s1 17 7)]) (st := [.ref (gB g + 81)]) (mc' := 0) (ms' := 0) lk_LI_108 rfl (by decide) (by decide) rfl (Nat.le_of_ble_eq_true rfl) (Nat.le_refl 0) (Nat.le_refl 0) d_LI_listenOn_37 h ?_
    rintro _ _ s3 ⟨r4, rfl, rfl, h⟩ -
    show Ax g m_LI_listenOn 0 0 (ZV g Q) SH s3 0 0 40 [(0, .ref (gB g + 78)), (1, .ref (gB g + t1)), (2, .int x2), (3, .int x3)] [.int r4, .ref (gB g + 81)]
    refine a_dup2_11 (pc := 40) rfl rfl d_LI_listenOn_40 ?_
    obtain ⟨hx, h⟩ := h
    refine a_iald (pc := 41) sx_81 hx d_LI_listenOn_41 ?_
    refine a_iconst (pc := 42) (1 : Int32) (by decide) d_LI_listenOn_42 ?_
    refine a_iadd (pc := 43) d_LI_listenOn_43 ?_
    obtain ⟨hx, h⟩ := h
    refine a_iast (pc := 44) sx_81 hx d_LI_listenOn_44 ?_
    refine a_nms (fun s5 hs5 => ?_)
    replace h := h s5 hs5
    obtain ⟨u6, hu6⟩ : ∃ y : Int32, y = x3 + (1 : Int32) := ⟨_, rfl⟩
    replace h := h u6 hu6
    refine a_iinc (pc := 45) (v := u6) (lv' := [(3, .int u6), (0, .ref (gB g + 78)), (1, .ref (gB g + t1)), (2, .int x2)]) 3 rfl (by rw [hu6]; rfl) (Nat.le_of_ble_eq_true rfl) rfl d_LI_listenOn_45 ?_
    refine a_goto (pc := 48) 2 (by decide) d_LI_listenOn_48 ?_
    refine a_sub (pc := 2) [1, 2, 3, 0] rfl ?_
    exact h
theorem ko_LI_listenOn {g : Gx}  {t1 : Nat} {x2 : Int32} {σ : St} {Q : St → Prop} (h : S_LI_listenOn_0 g Q σ t1 x2) : K_LI_listenOn g t1 x2 σ Q := KV.of (show plainName "BallBox$Listener" = true by decide) (Nat.le_of_ble_eq_true rfl) h
theorem d_LI_chooseWay_0 : decode c_LI_chooseWay 0 = .ok (.aload_n 0, 1) := by decide +kernel
theorem d_LI_chooseWay_1 : decode c_LI_chooseWay 1 = .ok (.iconst (-1), 1) := by decide +kernel
theorem d_LI_chooseWay_2 : decode c_LI_chooseWay 2 = .ok (.putfield 112, 3) := by decide +kernel
theorem d_LI_chooseWay_5 : decode c_LI_chooseWay 5 = .ok (.iconst 0, 1) := by decide +kernel
theorem d_LI_chooseWay_6 : decode c_LI_chooseWay 6 = .ok (.istore_n 1, 1) := by decide +kernel
theorem d_LI_chooseWay_7 : decode c_LI_chooseWay 7 = .ok (.iload_n 1, 1) := by decide +kernel
theorem d_LI_chooseWay_8 : decode c_LI_chooseWay 8 = .ok (.iconst 4, 1) := by decide +kernel
theorem d_LI_chooseWay_9 : decode c_LI_chooseWay 9 = .ok (.if_icmp .ge 66, 3) := by decide +kernel
theorem d_LI_chooseWay_12 : decode c_LI_chooseWay 12 = .ok (.iconst 0, 1) := by decide +kernel
theorem d_LI_chooseWay_13 : decode c_LI_chooseWay 13 = .ok (.istore_n 2, 1) := by decide +kernel
theorem d_LI_chooseWay_14 : decode c_LI_chooseWay 14 = .ok (.iconst 0, 1) := by decide +kernel
theorem d_LI_chooseWay_15 : decode c_LI_chooseWay 15 = .ok (.istore_n 3, 1) := by decide +kernel
theorem d_LI_chooseWay_16 : decode c_LI_chooseWay 16 = .ok (.iload_n 3, 1) := by decide +kernel
theorem d_LI_chooseWay_17 : decode c_LI_chooseWay 17 = .ok (.bipush 16, 2) := by decide +kernel
theorem d_LI_chooseWay_19 : decode c_LI_chooseWay 19 = .ok (.if_icmp .ge 25, 3) := by decide +kernel
theorem d_LI_chooseWay_22 : decode c_LI_chooseWay 22 = .ok (.iload_n 2, 1) := by decide +kernel
theorem d_LI_chooseWay_23 : decode c_LI_chooseWay 23 = .ok (.aload_n 0, 1) := by decide +kernel
theorem d_LI_chooseWay_24 : decode c_LI_chooseWay 24 = .ok (.getfield 21, 3) := by decide +kernel
theorem d_LI_chooseWay_27 : decode c_LI_chooseWay 27 = .ok (.bipush 16, 2) := by decide +kernel
theorem d_LI_chooseWay_29 : decode c_LI_chooseWay 29 = .ok (.iload_n 1, 1) := by decide +kernel
theorem d_LI_chooseWay_30 : decode c_LI_chooseWay 30 = .ok (.imul, 1) := by decide +kernel
theorem d_LI_chooseWay_31 : decode c_LI_chooseWay 31 = .ok (.iload_n 3, 1) := by decide +kernel
theorem d_LI_chooseWay_32 : decode c_LI_chooseWay 32 = .ok (.iadd, 1) := by decide +kernel
theorem d_LI_chooseWay_33 : decode c_LI_chooseWay 33 = .ok (.iaload, 1) := by decide +kernel
theorem d_LI_chooseWay_34 : decode c_LI_chooseWay 34 = .ok (.invokestatic 115, 3) := by decide +kernel
theorem d_LI_chooseWay_37 : decode c_LI_chooseWay 37 = .ok (.istore_n 2, 1) := by decide +kernel
theorem d_LI_chooseWay_38 : decode c_LI_chooseWay 38 = .ok (.iinc 3 1, 3) := by decide +kernel
theorem d_LI_chooseWay_41 : decode c_LI_chooseWay 41 = .ok (.goto (-25), 3) := by decide +kernel
theorem d_LI_chooseWay_44 : decode c_LI_chooseWay 44 = .ok (.aload_n 0, 1) := by decide +kernel
theorem d_LI_chooseWay_45 : decode c_LI_chooseWay 45 = .ok (.getfield 112, 3) := by decide +kernel
theorem d_LI_chooseWay_48 : decode c_LI_chooseWay 48 = .ok (.ifCond .lt 11, 3) := by decide +kernel
theorem d_LI_chooseWay_51 : decode c_LI_chooseWay 51 = .ok (.iload_n 2, 1) := by decide +kernel
theorem d_LI_chooseWay_52 : decode c_LI_chooseWay 52 = .ok (.aload_n 0, 1) := by decide +kernel
theorem d_LI_chooseWay_53 : decode c_LI_chooseWay 53 = .ok (.getfield 120, 3) := by decide +kernel
theorem d_LI_chooseWay_56 : decode c_LI_chooseWay 56 = .ok (.if_icmp .ge 13, 3) := by decide +kernel
theorem d_LI_chooseWay_59 : decode c_LI_chooseWay 59 = .ok (.aload_n 0, 1) := by decide +kernel
theorem d_LI_chooseWay_60 : decode c_LI_chooseWay 60 = .ok (.iload_n 1, 1) := by decide +kernel
theorem d_LI_chooseWay_61 : decode c_LI_chooseWay 61 = .ok (.putfield 112, 3) := by decide +kernel
theorem d_LI_chooseWay_64 : decode c_LI_chooseWay 64 = .ok (.aload_n 0, 1) := by decide +kernel
theorem d_LI_chooseWay_65 : decode c_LI_chooseWay 65 = .ok (.iload_n 2, 1) := by decide +kernel
theorem d_LI_chooseWay_66 : decode c_LI_chooseWay 66 = .ok (.putfield 120, 3) := by decide +kernel
theorem d_LI_chooseWay_69 : decode c_LI_chooseWay 69 = .ok (.iinc 1 1, 3) := by decide +kernel
theorem d_LI_chooseWay_72 : decode c_LI_chooseWay 72 = .ok (.goto (-65), 3) := by decide +kernel
theorem d_LI_chooseWay_75 : decode c_LI_chooseWay 75 = .ok (.return_, 1) := by decide +kernel
def S_LI_chooseWay_0 (g : Gx) (Q : St → Prop) (σ : St) : Prop := Ax g m_LI_chooseWay 0 0 (ZV g Q) SH σ 0 0 0 [(0, .ref (gB g + 78))] []
def S_LI_chooseWay_7 (g : Gx) (Q : St → Prop) (σ : St) (x1 : Int32) : Prop := Ax g m_LI_chooseWay 0 0 (ZV g Q) SH σ 0 0 7 [(0, .ref (gB g + 78)), (1, .int x1)] []
def S_LI_chooseWay_16 (g : Gx) (Q : St → Prop) (σ : St) (x1 : Int32) (x2 : Int32) (x3 : Int32) : Prop := Ax g m_LI_chooseWay 0 0 (ZV g Q) SH σ 0 0 16 [(0, .ref (gB g + 78)), (1, .int x1), (2, .int x2), (3, .int x3)] []
theorem sg_LI_chooseWay_0 {g : Gx} {Q : St → Prop} {σ : St}
    (h : ∀ s1 : St, s1 = sfi σ 78 8 (-1 : Int32) → S_LI_chooseWay_7 g Q s1 (0 : Int32)) : S_LI_chooseWay_0 g Q σ := by
  show Ax g m_LI_chooseWay 0 0 (ZV g Q) SH σ 0 0 0 [(0, .ref (gB g + 78))] []
  refine a_aload_n (pc := 0) 0 rfl rfl d_LI_chooseWay_0 ?_
  refine a_iconst (pc := 1) (-1 : Int32) (by decide) d_LI_chooseWay_1 ?_
  refine a_putI (pc := 2) fp_LI_112 sx_78 rfl d_LI_chooseWay_2 ?_
  refine a_nms (fun s1 hs1 => ?_)
  replace h := h s1 hs1
  refine a_iconst (pc := 5) (0 : Int32) (by decide) d_LI_chooseWay_5 ?_
  refine a_istore_n (pc := 6) (lv' := [(1, .int (0 : Int32)), (0, .ref (gB g + 78))]) rfl (Nat.le_of_ble_eq_true rfl) rfl d_LI_chooseWay_6 ?_
  refine a_sub (pc := 7) [1, 0] rfl ?_
  exact h
theorem sg_LI_chooseWay_7 {g : Gx} {Q : St → Prop} {σ : St} {x1 : Int32}
    (h : ((4 : Int32) ≤ x1 → Q σ) ∧ (¬ (4 : Int32) ≤ x1 → S_LI_chooseWay_16 g Q σ x1 (0 : Int32) (0 : Int32))) : S_LI_chooseWay_7 g Q σ x1 := by
  show Ax g m_LI_chooseWay 0 0 (ZV g Q) SH σ 0 0 7 [(0, .ref (gB g + 78)), (1, .int x1)] []
  refine a_iload_n (pc := 7) 1 rfl rfl d_LI_chooseWay_7 ?_
  refine a_iconst (pc := 8) (4 : Int32) (by decide) d_LI_chooseWay_8 ?_
  refine a_icmp_ge (pc := 9) 75 (by decide) d_LI_chooseWay_9 ⟨fun c0 => ?_, fun c0 => ?_⟩
  · replace h := h.1 c0
    exact b_vret (pc := 75) rfl d_LI_chooseWay_75 h
  · replace h := h.2 c0
    refine a_iconst (pc := 12) (0 : Int32) (by decide) d_LI_chooseWay_12 ?_
    refine a_istore_n (pc := 13) (lv' := [(2, .int (0 : Int32)), (0, .ref (gB g + 78)), (1, .int x1)]) rfl (Nat.le_of_ble_eq_true rfl) rfl d_LI_chooseWay_13 ?_
    refine a_iconst (pc := 14) (0 : Int32) (by decide) d_LI_chooseWay_14 ?_
    refine a_istore_n (pc := 15) (lv' := [(3, .int (0 : Int32)), (2, .int (0 : Int32)), (0, .ref (gB g + 78)), (1, .int x1)]) rfl (Nat.le_of_ble_eq_true rfl) rfl d_LI_chooseWay_15 ?_
    refine a_sub (pc := 16) [2, 3, 1, 0] rfl ?_
    exact h
theorem sg_LI_chooseWay_16 {g : Gx} {Q : St → Prop} {σ : St} {x1 : Int32} {x2 : Int32} {x3 : Int32}
    (h : ((16 : Int32) ≤ x3 → ((fi σ 78 8) < 0 → ∀ s1 : St, s1 = sfi σ 78 8 x1 → ∀ s2 : St, s2 = sfi s1 78 9 x2 → ∀ u3 : Int32, u3 = x1 + (1 : Int32) → S_LI_chooseWay_7 g Q s2 u3) ∧ (¬ (fi σ 78 8) < 0 → ((fi σ 78 9) ≤ x2 → ∀ u4 : Int32, u4 = x1 + (1 : Int32) → S_LI_chooseWay_7 g Q σ u4) ∧ (¬ (fi σ 78 9) ≤ x2 → ∀ s5 : St, s5 = sfi σ 78 8 x1 → ∀ s6 : St, s6 = sfi s5 78 9 x2 → ∀ u7 : Int32, u7 = x1 + (1 : Int32) → S_LI_chooseWay_7 g Q s6 u7))) ∧ (¬ (16 : Int32) ≤ x3 → vp_in (((16 : Int32) * x1) + x3) 64 ∧ (∀ u8 : Int32, u8 = (if x2 < (ai σ 81 ((((16 : Int32) * x1) + x3)).toNatClampNeg) then (ai σ 81 ((((16 : Int32) * x1) + x3)).toNatClampNeg) else x2) → ∀ u9 : Int32, u9 = x3 + (1 : Int32) → S_LI_chooseWay_16 g Q σ x1 u8 u9))) : S_LI_chooseWay_16 g Q σ x1 x2 x3 := by
  show Ax g m_LI_chooseWay 0 0 (ZV g Q) SH σ 0 0 16 [(0, .ref (gB g + 78)), (1, .int x1), (2, .int x2), (3, .int x3)] []
  refine a_iload_n (pc := 16) 3 rfl rfl d_LI_chooseWay_16 ?_
  refine a_bipush (pc := 17) (16 : Int32) (by decide) d_LI_chooseWay_17 ?_
  refine a_icmp_ge (pc := 19) 44 (by decide) d_LI_chooseWay_19 ⟨fun c0 => ?_, fun c0 => ?_⟩
  · replace h := h.1 c0
    refine a_aload_n (pc := 44) 0 rfl rfl d_LI_chooseWay_44 ?_
    refine a_getI (pc := 45) fg_LI_112 sx_78 rfl d_LI_chooseWay_45 ?_
    refine a_if_lt (pc := 48) 59 (by decide) d_LI_chooseWay_48 ⟨fun c0 => ?_, fun c0 => ?_⟩
    · replace h := h.1 c0
      refine a_aload_n (pc := 59) 0 rfl rfl d_LI_chooseWay_59 ?_
      refine a_iload_n (pc := 60) 1 rfl rfl d_LI_chooseWay_60 ?_
      refine a_putI (pc := 61) fp_LI_112 sx_78 rfl d_LI_chooseWay_61 ?_
      refine a_nms (fun s1 hs1 => ?_)
      replace h := h s1 hs1
      refine a_aload_n (pc := 64) 0 rfl rfl d_LI_chooseWay_64 ?_
      refine a_iload_n (pc := 65) 2 rfl rfl d_LI_chooseWay_65 ?_
      refine a_putI (pc := 66) fp_LI_120 sx_78 rfl d_LI_chooseWay_66 ?_
      refine a_nms (fun s2 hs2 => ?_)
      replace h := h s2 hs2
      obtain ⟨u3, hu3⟩ : ∃ y : Int32, y = x1 + (1 : Int32) := ⟨_, rfl⟩
      replace h := h u3 hu3
      refine a_iinc (pc := 69) (v := u3) (lv' := [(1, .int u3), (0, .ref (gB g + 78)), (2, .int x2), (3, .int x3)]) 1 rfl (by rw [hu3]; rfl) (Nat.le_of_ble_eq_true rfl) rfl d_LI_chooseWay_69 ?_
      refine a_goto (pc := 72) 7 (by decide) d_LI_chooseWay_72 ?_
      refine a_sub (pc := 7) [1, 0] rfl ?_
      exact h
    · replace h := h.2 c0
      refine a_iload_n (pc := 51) 2 rfl rfl d_LI_chooseWay_51 ?_
      refine a_aload_n (pc := 52) 0 rfl rfl d_LI_chooseWay_52 ?_
      refine a_getI (pc := 53) fg_LI_120 sx_78 rfl d_LI_chooseWay_53 ?_
      refine a_icmp_ge (pc := 56) 69 (by decide) d_LI_chooseWay_56 ⟨fun c0 => ?_, fun c0 => ?_⟩
      · replace h := h.1 c0
        obtain ⟨u4, hu4⟩ : ∃ y : Int32, y = x1 + (1 : Int32) := ⟨_, rfl⟩
        replace h := h u4 hu4
        refine a_iinc (pc := 69) (v := u4) (lv' := [(1, .int u4), (0, .ref (gB g + 78)), (2, .int x2), (3, .int x3)]) 1 rfl (by rw [hu4]; rfl) (Nat.le_of_ble_eq_true rfl) rfl d_LI_chooseWay_69 ?_
        refine a_goto (pc := 72) 7 (by decide) d_LI_chooseWay_72 ?_
        refine a_sub (pc := 7) [1, 0] rfl ?_
        exact h
      · replace h := h.2 c0
        refine a_aload_n (pc := 59) 0 rfl rfl d_LI_chooseWay_59 ?_
        refine a_iload_n (pc := 60) 1 rfl rfl d_LI_chooseWay_60 ?_
        refine a_putI (pc := 61) fp_LI_112 sx_78 rfl d_LI_chooseWay_61 ?_
        refine a_nms (fun s5 hs5 => ?_)
        replace h := h s5 hs5
        refine a_aload_n (pc := 64) 0 rfl rfl d_LI_chooseWay_64 ?_
        refine a_iload_n (pc := 65) 2 rfl rfl d_LI_chooseWay_65 ?_
        refine a_putI (pc := 66) fp_LI_120 sx_78 rfl d_LI_chooseWay_66 ?_
        refine a_nms (fun s6 hs6 => ?_)
        replace h := h s6 hs6
        obtain ⟨u7, hu7⟩ : ∃ y : Int32, y = x1 + (1 : Int32) := ⟨_, rfl⟩
        replace h := h u7 hu7
        refine a_iinc (pc := 69) (v := u7) (lv' := [(1, .int u7), (0, .ref (gB g + 78)), (2, .int x2), (3, .int x3)]) 1 rfl (by rw [hu7]; rfl) (Nat.le_of_ble_eq_true rfl) rfl d_LI_chooseWay_69 ?_
        refine a_goto (pc := 72) 7 (by decide) d_LI_chooseWay_72 ?_
        refine a_sub (pc := 7) [1, 0] rfl ?_
        exact h
  · replace h := h.2 c0
    refine a_iload_n (pc := 22) 2 rfl rfl d_LI_chooseWay_22 ?_
    refine a_aload_n (pc := 23) 0 rfl rfl d_LI_chooseWay_23 ?_
    refine a_getR (pc := 24) fg_LI_21 sx_78 rfl d_LI_chooseWay_24 ?_
    refine a_bipush (pc := 27) (16 : Int32) (by decide) d_LI_chooseWay_27 ?_
    refine a_iload_n (pc := 29) 1 rfl rfl d_LI_chooseWay_29 ?_
    refine a_imul (pc := 30) d_LI_chooseWay_30 ?_
    refine a_iload_n (pc := 31) 3 rfl rfl d_LI_chooseWay_31 ?_
    refine a_iadd (pc := 32) d_LI_chooseWay_32 ?_
    obtain ⟨hx, h⟩ := h
    refine a_iald (pc := 33) sx_81 hx d_LI_chooseWay_33 ?_
    refine a_mmax (pc := 34) tw1155 (by decide) (Nat.le_of_ble_eq_true rfl) (Nat.le_refl 0) (Nat.le_refl 0) d_LI_chooseWay_34 ?_
    refine a_nmi (pc := 37) (fun u8 hu8 => ?_)
    replace h := h u8 hu8
    refine a_istore_n (pc := 37) (lv' := [(2, .int u8), (0, .ref (gB g + 78)), (1, .int x1), (3, .int x3)]) rfl (Nat.le_of_ble_eq_true rfl) rfl d_LI_chooseWay_37 ?_
    obtain ⟨u9, hu9⟩ : ∃ y : Int32, y = x3 + (1 : Int32) := ⟨_, rfl⟩
    replace h := h u9 hu9
    refine a_iinc (pc := 38) (v := u9) (lv' := [(3, .int u9), (2, .int u8), (0, .ref (gB g + 78)), (1, .int x1)]) 3 rfl (by rw [hu9]; rfl) (Nat.le_of_ble_eq_true rfl) rfl d_LI_chooseWay_38 ?_
    refine a_goto (pc := 41) 16 (by decide) d_LI_chooseWay_41 ?_
    refine a_sub (pc := 16) [2, 3, 1, 0] rfl ?_
    exact h
theorem ko_LI_chooseWay {g : Gx}  {σ : St} {Q : St → Prop} (h : S_LI_chooseWay_0 g Q σ) : K_LI_chooseWay g  σ Q := KV.of (show plainName "BallBox$Listener" = true by decide) (Nat.le_of_ble_eq_true rfl) h
