theorem d_TR_followRow_0 : decode c_TR_followRow 0 = .ok (.aload_n 0, 1) := by decide +kernel
theorem d_TR_followRow_1 : decode c_TR_followRow 1 = .ok (.aload_n 1, 1) := by decide +kernel
theorem d_TR_followRow_2 : decode c_TR_followRow 2 = .ok (.getfield 15, 3) := by decide +kernel
theorem d_TR_followRow_5 : decode c_TR_followRow 5 = .ok (.putfield 21, 3) := by decide +kernel
theorem d_TR_followRow_8 : decode c_TR_followRow 8 = .ok (.aload_n 0, 1) := by decide +kernel
theorem d_TR_followRow_9 : decode c_TR_followRow 9 = .ok (.iconst 0, 1) := by decide +kernel
theorem d_TR_followRow_10 : decode c_TR_followRow 10 = .ok (.putfield 22, 3) := by decide +kernel
theorem d_TR_followRow_13 : decode c_TR_followRow 13 = .ok (.aload_n 0, 1) := by decide +kernel
theorem d_TR_followRow_14 : decode c_TR_followRow 14 = .ok (.iconst 0, 1) := by decide +kernel
theorem d_TR_followRow_15 : decode c_TR_followRow 15 = .ok (.putfield 25, 3) := by decide +kernel
theorem d_TR_followRow_18 : decode c_TR_followRow 18 = .ok (.iconst 0, 1) := by decide +kernel
theorem d_TR_followRow_19 : decode c_TR_followRow 19 = .ok (.istore_n 2, 1) := by decide +kernel
theorem d_TR_followRow_20 : decode c_TR_followRow 20 = .ok (.iload_n 2, 1) := by decide +kernel
theorem d_TR_followRow_21 : decode c_TR_followRow 21 = .ok (.aload_n 1, 1) := by decide +kernel
theorem d_TR_followRow_22 : decode c_TR_followRow 22 = .ok (.getfield 28, 3) := by decide +kernel
theorem d_TR_followRow_25 : decode c_TR_followRow 25 = .ok (.if_icmp .ge 20, 3) := by decide +kernel
theorem d_TR_followRow_28 : decode c_TR_followRow 28 = .ok (.aload_n 0, 1) := by decide +kernel
theorem d_TR_followRow_29 : decode c_TR_followRow 29 = .ok (.aload_n 1, 1) := by decide +kernel
theorem d_TR_followRow_30 : decode c_TR_followRow 30 = .ok (.aload_n 1, 1) := by decide +kernel
theorem d_TR_followRow_31 : decode c_TR_followRow 31 = .ok (.getfield 31, 3) := by decide +kernel
theorem d_TR_followRow_34 : decode c_TR_followRow 34 = .ok (.iload_n 2, 1) := by decide +kernel
theorem d_TR_followRow_35 : decode c_TR_followRow 35 = .ok (.iaload, 1) := by decide +kernel
theorem d_TR_followRow_36 : decode c_TR_followRow 36 = .ok (.invokevirtual 35, 3) := by decide +kernel
theorem d_TR_followRow_39 : decode c_TR_followRow 39 = .ok (.iinc 2 1, 3) := by decide +kernel
theorem d_TR_followRow_42 : decode c_TR_followRow 42 = .ok (.goto (-22), 3) := by decide +kernel
theorem d_TR_followRow_45 : decode c_TR_followRow 45 = .ok (.return_, 1) := by decide +kernel
def S_TR_followRow_0 (g : Gx) (Q : St → Prop) (σ : St) (t1 : Nat) : Prop := Ax g m_TR_followRow 0 0 (ZV g Q) SH σ 0 0 0 [(0, .ref (gB g + 82)), (1, .ref (gB g + t1))] []
def S_TR_followRow_20 (g : Gx) (Q : St → Prop) (σ : St) (t1 : Nat) (x2 : Int32) : Prop := Ax g m_TR_followRow 0 0 (ZV g Q) SH σ 0 0 20 [(0, .ref (gB g + 82)), (1, .ref (gB g + t1)), (2, .int x2)] []
theorem sg_TR_followRow_0 {g : Gx} {Q : St → Prop} {σ : St} {t1 : Nat} (ht1 : isSA t1)
    (h : ∀ s1 : St, s1 = sfi σ 82 1 (fi σ t1 5) → ∀ s2 : St, s2 = sfi s1 82 2 (0 : Int32) → ∀ s3 : St, s3 = sfi s2 82 3 (0 : Int32) → S_TR_followRow_20 g Q s3 t1 (0 : Int32)) : S_TR_followRow_0 g Q σ t1 := by
  show Ax g m_TR_followRow 0 0 (ZV g Q) SH σ 0 0 0 [(0, .ref (gB g + 82)), (1, .ref (gB g + t1))] []
  refine a_aload_n (pc := 0) 0 rfl rfl d_TR_followRow_0 ?_
  refine a_aload_n (pc := 1) 1 rfl rfl d_TR_followRow_1 ?_
  refine a_getI (pc := 2) fg_TR_15 (sa0 ht1) rfl d_TR_followRow_2 ?_
  refine a_putI (pc := 5) fp_TR_21 sx_82 rfl d_TR_followRow_5 ?_
  refine a_nms (fun s1 hs1 => ?_)
  replace h := h s1 hs1
  refine a_aload_n (pc := 8) 0 rfl rfl d_TR_followRow_8 ?_
  refine a_iconst (pc := 9) (0 : Int32) (by decide) d_TR_followRow_9 ?_
  refine a_putI (pc := 10) fp_TR_22 sx_82 rfl d_TR_followRow_10 ?_
  refine a_nms (fun s2 hs2 => ?_)
  replace h := h s2 hs2
  refine a_aload_n (pc := 13) 0 rfl rfl d_TR_followRow_13 ?_
  refine a_iconst (pc := 14) (0 : Int32) (by decide) d_TR_followRow_14 ?_
  refine a_putI (pc := 15) fp_TR_25 sx_82 rfl d_TR_followRow_15 ?_
  refine a_nms (fun s3 hs3 => ?_)
  replace h := h s3 hs3
  refine a_iconst (pc := 18) (0 : Int32) (by decide) d_TR_followRow_18 ?_
  refine a_istore_n (pc := 19) (lv' := [(2, .int (0 : Int32)), (0, .ref (gB g + 82)), (1, .ref (gB g + t1))]) rfl (Nat.le_of_ble_eq_true rfl) rfl d_TR_followRow_19 ?_
  refine a_sub (pc := 20) [1, 2, 0] rfl ?_
  exact h
theorem sg_TR_followRow_20 {g : Gx} {Q : St → Prop} {σ : St} {t1 : Nat} {x2 : Int32} (ht1 : isSA t1)
    (h : ((fi σ t1 7) ≤ x2 → Q σ) ∧ (¬ (fi σ t1 7) ≤ x2 → vp_in x2 8 ∧ (K_TR_roll g t1 (ai σ (t1 + 3) (x2).toNatClampNeg) σ (fun s1 : St => ∀ u2 : Int32, u2 = x2 + (1 : Int32) → S_TR_followRow_20 g Q s1 t1 u2)))) : S_TR_followRow_20 g Q σ t1 x2 := by
  show Ax g m_TR_followRow 0 0 (ZV g Q) SH σ 0 0 20 [(0, .ref (gB g + 82)), (1, .ref (gB g + t1)), (2, .int x2)] []
  refine a_iload_n (pc := 20) 2 rfl rfl d_TR_followRow_20 ?_
  refine a_aload_n (pc := 21) 1 rfl rfl d_TR_followRow_21 ?_
  refine a_getI (pc := 22) fg_TR_28 (sa0 ht1) rfl d_TR_followRow_22 ?_
  refine a_icmp_ge (pc := 25) 45 (by decide) d_TR_followRow_25 ⟨fun c0 => ?_, fun c0 => ?_⟩
  · replace h := h.1 c0
    exact b_vret (pc := 45) rfl d_TR_followRow_45 h
  · replace h := h.2 c0
    refine a_aload_n (pc := 28) 0 rfl rfl d_TR_followRow_28 ?_
    refine a_aload_n (pc := 29) 1 rfl rfl d_TR_followRow_29 ?_
    refine a_aload_n (pc := 30) 1 rfl rfl d_TR_followRow_30 ?_
    refine a_getR (pc := 31) fg_TR_31 (sa0 ht1) rfl d_TR_followRow_31 ?_
    refine a_iload_n (pc := 34) 2 rfl rfl d_TR_followRow_34 ?_
    obtain ⟨hx, h⟩ := h
    refine a_iald (pc := 35) (sa3 ht1) hx d_TR_followRow_35 ?_
    refine a_callV (pc := 36) (M' := m_TR_roll) (As := [.ref (gB g + t1), .int (ai σ (t1 + 3) (x2).toNatClampNeg)]) (st := []) (mc' := 0) (ms' := 0) lk_TR_35 rfl sx_82 rfl (by decide) (by decide) rfl (Nat.le_of_ble_eq_true rfl) (Nat.le_refl 0) (Nat.le_refl 0) d_TR_followRow_36 h ?_
    rintro _ _ s1 ⟨rfl, rfl, h⟩ -
    show Ax g m_TR_followRow 0 0 (ZV g Q) SH s1 0 0 39 [(0, .ref (gB g + 82)), (1, .ref (gB g + t1)), (2, .int x2)] []
    obtain ⟨u2, hu2⟩ : ∃ y : Int32, y = x2 + (1 : Int32) := ⟨_, rfl⟩
    replace h := h u2 hu2
    refine a_iinc (pc := 39) (v := u2) (lv' := [(2, .int u2), (0, .ref (gB g + 82)), (1, .ref (gB g + t1))]) 2 rfl (by rw [hu2]; rfl) (Nat.le_of_ble_eq_true rfl) rfl d_TR_followRow_39 ?_
    refine a_goto (pc := 42) 20 (by decide) d_TR_followRow_42 ?_
    refine a_sub (pc := 20) [1, 2, 0] rfl ?_
    exact h
theorem ko_TR_followRow {g : Gx}  {t1 : Nat} {σ : St} {Q : St → Prop} (h : S_TR_followRow_0 g Q σ t1) : K_TR_followRow g t1 σ Q := KV.of (show plainName "BallBox$Trial" = true by decide) (Nat.le_of_ble_eq_true rfl) h
theorem d_TR_roll_0 : decode c_TR_roll 0 = .ok (.aload_n 0, 1) := by decide +kernel
theorem d_TR_roll_1 : decode c_TR_roll 1 = .ok (.aload_n 0, 1) := by decide +kernel
theorem d_TR_roll_2 : decode c_TR_roll 2 = .ok (.getfield 9, 3) := by decide +kernel
theorem d_TR_roll_5 : decode c_TR_roll 5 = .ok (.aload_n 1, 1) := by decide +kernel
theorem d_TR_roll_6 : decode c_TR_roll 6 = .ok (.aload_n 0, 1) := by decide +kernel
theorem d_TR_roll_7 : decode c_TR_roll 7 = .ok (.getfield 21, 3) := by decide +kernel
theorem d_TR_roll_10 : decode c_TR_roll 10 = .ok (.iload_n 2, 1) := by decide +kernel
theorem d_TR_roll_11 : decode c_TR_roll 11 = .ok (.invokevirtual 39, 3) := by decide +kernel
theorem d_TR_roll_14 : decode c_TR_roll 14 = .ok (.putfield 21, 3) := by decide +kernel
theorem d_TR_roll_17 : decode c_TR_roll 17 = .ok (.aload_n 0, 1) := by decide +kernel
theorem d_TR_roll_18 : decode c_TR_roll 18 = .ok (.dup, 1) := by decide +kernel
theorem d_TR_roll_19 : decode c_TR_roll 19 = .ok (.getfield 22, 3) := by decide +kernel
theorem d_TR_roll_22 : decode c_TR_roll 22 = .ok (.aload_n 0, 1) := by decide +kernel
theorem d_TR_roll_23 : decode c_TR_roll 23 = .ok (.getfield 9, 3) := by decide +kernel
theorem d_TR_roll_26 : decode c_TR_roll 26 = .ok (.getfield 45, 3) := by decide +kernel
theorem d_TR_roll_29 : decode c_TR_roll 29 = .ok (.iadd, 1) := by decide +kernel
theorem d_TR_roll_30 : decode c_TR_roll 30 = .ok (.putfield 22, 3) := by decide +kernel
theorem d_TR_roll_33 : decode c_TR_roll 33 = .ok (.aload_n 0, 1) := by decide +kernel
theorem d_TR_roll_34 : decode c_TR_roll 34 = .ok (.dup, 1) := by decide +kernel
theorem d_TR_roll_35 : decode c_TR_roll 35 = .ok (.getfield 25, 3) := by decide +kernel
theorem d_TR_roll_38 : decode c_TR_roll 38 = .ok (.aload_n 0, 1) := by decide +kernel
theorem d_TR_roll_39 : decode c_TR_roll 39 = .ok (.getfield 9, 3) := by decide +kernel
theorem d_TR_roll_42 : decode c_TR_roll 42 = .ok (.getfield 46, 3) := by decide +kernel
theorem d_TR_roll_45 : decode c_TR_roll 45 = .ok (.iadd, 1) := by decide +kernel
theorem d_TR_roll_46 : decode c_TR_roll 46 = .ok (.putfield 25, 3) := by decide +kernel
theorem d_TR_roll_49 : decode c_TR_roll 49 = .ok (.return_, 1) := by decide +kernel
def S_TR_roll_0 (g : Gx) (Q : St → Prop) (σ : St) (t1 : Nat) (x2 : Int32) : Prop := Ax g m_TR_roll 0 0 (ZV g Q) SH σ 0 0 0 [(0, .ref (gB g + 82)), (1, .ref (gB g + t1)), (2, .int x2)] []
theorem sg_TR_roll_0 {g : Gx} {Q : St → Prop} {σ : St} {t1 : Nat} {x2 : Int32} (ht1 : isSA t1)
    (h : K_RO_rolled g t1 (fi σ 82 1) x2 σ (fun (r2 : Int32) (s1 : St) => ∀ s3 : St, s3 = sfi s1 82 1 r2 → ∀ s4 : St, s4 = sfi s3 82 2 ((fi s3 82 2) + (fi s3 17 6)) → ∀ s5 : St, s5 = sfi s4 82 3 ((fi s4 82 3) + (fi s4 17 7)) → Q s5)) : S_TR_roll_0 g Q σ t1 x2 := by
  show Ax g m_TR_roll 0 0 (ZV g Q) SH σ 0 0 0 [(0, .ref (gB g + 82)), (1, .ref (gB g + t1)), (2, .int x2)] []
  refine a_aload_n (pc := 0) 0 rfl rfl d_TR_roll_0 ?_
  refine a_aload_n (pc := 1) 0 rfl rfl d_TR_roll_1 ?_
  refine a_getR (pc := 2) fg_TR_9 sx_82 rfl d_TR_roll_2 ?_
  refine a_aload_n (pc := 5) 1 rfl rfl d_TR_roll_5 ?_
  refine a_aload_n (pc := 6) 0 rfl rfl d_TR_roll_6 ?_
  refine a_getI (pc := 7) fg_TR_21 sx_82 rfl d_TR_roll_7 ?_
  refine a_iload_n (pc := 10) 2 rfl rfl d_TR_roll_10 ?_
  refine a_callV (pc := 11) (M' := m_RO_rolled) (As := [.ref (gB g + t1), .int (fi σ 82 1), .int x2]) (st := [.ref (gB g + 82)]) (mc' := 0) (ms' := 0) lk_TR_39 rfl sx_17 rfl (by decide) (by decide) rfl (Nat.le_of_ble_eq_true rfl) (Nat.le_refl 0) (Nat.le_refl 0) d_TR_roll_11 h ?_
  rintro _ _ s1 ⟨r2, rfl, rfl, h⟩ -
  show Ax g m_TR_roll 0 0 (ZV g Q) SH s1 0 0 14 [(0, .ref (gB g + 82)), (1, .ref (gB g + t1)), (2, .int x2)] [.int r2, .ref (gB g + 82)]
  refine a_putI (pc := 14) fp_TR_21 sx_82 rfl d_TR_roll_14 ?_
  refine a_nms (fun s3 hs3 => ?_)
  replace h := h s3 hs3
  refine a_aload_n (pc := 17) 0 rfl rfl d_TR_roll_17 ?_
  refine a_dup (pc := 18) rfl d_TR_roll_18 ?_
  refine a_getI (pc := 19) fg_TR_22 sx_82 rfl d_TR_roll_19 ?_
  refine a_aload_n (pc := 22) 0 rfl rfl d_TR_roll_22 ?_
  refine a_getR (pc := 23) fg_TR_9 sx_82 rfl d_TR_roll_23 ?_
  refine a_getI (pc := 26) fg_TR_45 sx_17 rfl d_TR_roll_26 ?_
  refine a_iadd (pc := 29) d_TR_roll_29 ?_
  refine a_putI (pc := 30) fp_TR_22 sx_82 rfl d_TR_roll_30 ?_
  refine a_nms (fun s4 hs4 => ?_)
  replace h := h s4 hs4
  refine a_aload_n (pc := 33) 0 rfl rfl d_TR_roll_33 ?_
  refine a_dup (pc := 34) rfl d_TR_roll_34 ?_
  refine a_getI (pc := 35) fg_TR_25 sx_82 rfl d_TR_roll_35 ?_
  refine a_aload_n (pc := 38) 0 rfl rfl d_TR_roll_38 ?_
  refine a_getR (pc := 39) fg_TR_9 sx_82 rfl d_TR_roll_39 ?_
  refine a_getI (pc := 42) fg_TR_46 sx_17 rfl d_TR_roll_42 ?_
  refine a_iadd (pc := 45) d_TR_roll_45 ?_
  refine a_putI (pc := 46) fp_TR_25 sx_82 rfl d_TR_roll_46 ?_
  refine a_nms (fun s5 hs5 => ?_)
  replace h := h s5 hs5
  exact b_vret (pc := 49) rfl d_TR_roll_49 h
theorem ko_TR_roll {g : Gx}  {t1 : Nat} {x2 : Int32} {σ : St} {Q : St → Prop} (h : S_TR_roll_0 g Q σ t1 x2) : K_TR_roll g t1 x2 σ Q := KV.of (show plainName "BallBox$Trial" = true by decide) (Nat.le_of_ble_eq_true rfl) h
theorem d_TR_reckonSure_0 : decode c_TR_reckonSure 0 = .ok (.aload_n 0, 1) := by decide +kernel
theorem d_TR_reckonSure_1 : decode c_TR_reckonSure 1 = .ok (.lconst 0, 1) := by decide +kernel
theorem d_TR_reckonSure_2 : decode c_TR_reckonSure 2 = .ok (.putfield 47, 3) := by decide +kernel
theorem d_TR_reckonSure_5 : decode c_TR_reckonSure 5 = .ok (.aload_n 0, 1) := by decide +kernel
theorem d_TR_reckonSure_6 : decode c_TR_reckonSure 6 = .ok (.lconst 1, 1) := by decide +kernel
theorem d_TR_reckonSure_7 : decode c_TR_reckonSure 7 = .ok (.putfield 51, 3) := by decide +kernel
theorem d_TR_reckonSure_10 : decode c_TR_reckonSure 10 = .ok (.iconst 0, 1) := by decide +kernel
theorem d_TR_reckonSure_11 : decode c_TR_reckonSure 11 = .ok (.istore_n 3, 1) := by decide +kernel
theorem d_TR_reckonSure_12 : decode c_TR_reckonSure 12 = .ok (.iload_n 3, 1) := by decide +kernel
theorem d_TR_reckonSure_13 : decode c_TR_reckonSure 13 = .ok (.aload_n 1, 1) := by decide +kernel
theorem d_TR_reckonSure_14 : decode c_TR_reckonSure 14 = .ok (.getfield 28, 3) := by decide +kernel
theorem d_TR_reckonSure_17 : decode c_TR_reckonSure 17 = .ok (.if_icmp .ge 21, 3) := by decide +kernel
theorem d_TR_reckonSure_20 : decode c_TR_reckonSure 20 = .ok (.aload_n 0, 1) := by decide +kernel
theorem d_TR_reckonSure_21 : decode c_TR_reckonSure 21 = .ok (.dup, 1) := by decide +kernel
theorem d_TR_reckonSure_22 : decode c_TR_reckonSure 22 = .ok (.getfield 51, 3) := by decide +kernel
theorem d_TR_reckonSure_25 : decode c_TR_reckonSure 25 = .ok (.ldc2_w 54, 3) := by decide +kernel
theorem d_TR_reckonSure_28 : decode c_TR_reckonSure 28 = .ok (.lmul, 1) := by decide +kernel
theorem d_TR_reckonSure_29 : decode c_TR_reckonSure 29 = .ok (.putfield 51, 3) := by decide +kernel
theorem d_TR_reckonSure_32 : decode c_TR_reckonSure 32 = .ok (.iinc 3 1, 3) := by decide +kernel
theorem d_TR_reckonSure_35 : decode c_TR_reckonSure 35 = .ok (.goto (-23), 3) := by decide +kernel
theorem d_TR_reckonSure_38 : decode c_TR_reckonSure 38 = .ok (.iconst 0, 1) := by decide +kernel
theorem d_TR_reckonSure_39 : decode c_TR_reckonSure 39 = .ok (.istore_n 3, 1) := by decide +kernel
theorem d_TR_reckonSure_40 : decode c_TR_reckonSure 40 = .ok (.iload_n 3, 1) := by decide +kernel
theorem d_TR_reckonSure_41 : decode c_TR_reckonSure 41 = .ok (.iconst 1, 1) := by decide +kernel
theorem d_TR_reckonSure_42 : decode c_TR_reckonSure 42 = .ok (.aload_n 1, 1) := by decide +kernel
theorem d_TR_reckonSure_43 : decode c_TR_reckonSure 43 = .ok (.getfield 28, 3) := by decide +kernel
theorem d_TR_reckonSure_46 : decode c_TR_reckonSure 46 = .ok (.ishl, 1) := by decide +kernel
theorem d_TR_reckonSure_47 : decode c_TR_reckonSure 47 = .ok (.if_icmp .ge 47, 3) := by decide +kernel
theorem d_TR_reckonSure_50 : decode c_TR_reckonSure 50 = .ok (.iload_n 3, 1) := by decide +kernel
theorem d_TR_reckonSure_51 : decode c_TR_reckonSure 51 = .ok (.aload_n 1, 1) := by decide +kernel
theorem d_TR_reckonSure_52 : decode c_TR_reckonSure 52 = .ok (.getfield 28, 3) := by decide +kernel
theorem d_TR_reckonSure_55 : decode c_TR_reckonSure 55 = .ok (.iload_n 2, 1) := by decide +kernel
theorem d_TR_reckonSure_56 : decode c_TR_reckonSure 56 = .ok (.invokestatic 56, 3) := by decide +kernel
theorem d_TR_reckonSure_59 : decode c_TR_reckonSure 59 = .ok (.lstore 4, 2) := by decide +kernel
theorem d_TR_reckonSure_61 : decode c_TR_reckonSure 61 = .ok (.lload 4, 2) := by decide +kernel
theorem d_TR_reckonSure_63 : decode c_TR_reckonSure 63 = .ok (.lconst 0, 1) := by decide +kernel
theorem d_TR_reckonSure_64 : decode c_TR_reckonSure 64 = .ok (.lcmp, 1) := by decide +kernel
theorem d_TR_reckonSure_65 : decode c_TR_reckonSure 65 = .ok (.ifCond .le 23, 3) := by decide +kernel
theorem d_TR_reckonSure_68 : decode c_TR_reckonSure 68 = .ok (.aload_n 0, 1) := by decide +kernel
theorem d_TR_reckonSure_69 : decode c_TR_reckonSure 69 = .ok (.aload_n 1, 1) := by decide +kernel
theorem d_TR_reckonSure_70 : decode c_TR_reckonSure 70 = .ok (.iload_n 3, 1) := by decide +kernel
theorem d_TR_reckonSure_71 : decode c_TR_reckonSure 71 = .ok (.invokevirtual 60, 3) := by decide +kernel
theorem d_TR_reckonSure_74 : decode c_TR_reckonSure 74 = .ok (.ifCond .eq 14, 3) := by decide +kernel
theorem d_TR_reckonSure_77 : decode c_TR_reckonSure 77 = .ok (.aload_n 0, 1) := by decide +kernel
theorem d_TR_reckonSure_78 : decode c_TR_reckonSure 78 = .ok (.dup, 1) := by decide +kernel
theorem d_TR_reckonSure_79 : decode c_TR_reckonSure 79 = .ok (.getfield 47, 3) := by decide +kernel
theorem d_TR_reckonSure_82 : decode c_TR_reckonSure 82 = .ok (.lload 4, 2) := by decide +kernel
theorem d_TR_reckonSure_84 : decode c_TR_reckonSure 84 = .ok (.ladd, 1) := by decide +kernel
theorem d_TR_reckonSure_85 : decode c_TR_reckonSure 85 = .ok (.putfield 47, 3) := by decide +kernel
theorem d_TR_reckonSure_88 : decode c_TR_reckonSure 88 = .ok (.iinc 3 1, 3) := by decide +kernel
theorem d_TR_reckonSure_91 : decode c_TR_reckonSure 91 = .ok (.goto (-51), 3) := by decide +kernel
theorem d_TR_reckonSure_94 : decode c_TR_reckonSure 94 = .ok (.aload_n 0, 1) := by decide +kernel
theorem d_TR_reckonSure_95 : decode c_TR_reckonSure 95 = .ok (.getfield 47, 3) := by decide +kernel
theorem d_TR_reckonSure_98 : decode c_TR_reckonSure 98 = .ok (.aload_n 0, 1) := by decide +kernel
theorem d_TR_reckonSure_99 : decode c_TR_reckonSure 99 = .ok (.getfield 51, 3) := by decide +kernel
theorem d_TR_reckonSure_102 : decode c_TR_reckonSure 102 = .ok (.invokestatic 64, 3) := by decide +kernel
theorem d_TR_reckonSure_105 : decode c_TR_reckonSure 105 = .ok (.lstore_n 3, 1) := by decide +kernel
theorem d_TR_reckonSure_106 : decode c_TR_reckonSure 106 = .ok (.lload_n 3, 1) := by decide +kernel
theorem d_TR_reckonSure_107 : decode c_TR_reckonSure 107 = .ok (.lconst 0, 1) := by decide +kernel
theorem d_TR_reckonSure_108 : decode c_TR_reckonSure 108 = .ok (.lcmp, 1) := by decide +kernel
theorem d_TR_reckonSure_109 : decode c_TR_reckonSure 109 = .ok (.ifCond .le 23, 3) := by decide +kernel
theorem d_TR_reckonSure_112 : decode c_TR_reckonSure 112 = .ok (.aload_n 0, 1) := by decide +kernel
theorem d_TR_reckonSure_113 : decode c_TR_reckonSure 113 = .ok (.dup, 1) := by decide +kernel
theorem d_TR_reckonSure_114 : decode c_TR_reckonSure 114 = .ok (.getfield 47, 3) := by decide +kernel
theorem d_TR_reckonSure_117 : decode c_TR_reckonSure 117 = .ok (.lload_n 3, 1) := by decide +kernel
theorem d_TR_reckonSure_118 : decode c_TR_reckonSure 118 = .ok (.ldiv, 1) := by decide +kernel
theorem d_TR_reckonSure_119 : decode c_TR_reckonSure 119 = .ok (.putfield 47, 3) := by decide +kernel
theorem d_TR_reckonSure_122 : decode c_TR_reckonSure 122 = .ok (.aload_n 0, 1) := by decide +kernel
theorem d_TR_reckonSure_123 : decode c_TR_reckonSure 123 = .ok (.dup, 1) := by decide +kernel
theorem d_TR_reckonSure_124 : decode c_TR_reckonSure 124 = .ok (.getfield 51, 3) := by decide +kernel
theorem d_TR_reckonSure_127 : decode c_TR_reckonSure 127 = .ok (.lload_n 3, 1) := by decide +kernel
theorem d_TR_reckonSure_128 : decode c_TR_reckonSure 128 = .ok (.ldiv, 1) := by decide +kernel
theorem d_TR_reckonSure_129 : decode c_TR_reckonSure 129 = .ok (.putfield 51, 3) := by decide +kernel
theorem d_TR_reckonSure_132 : decode c_TR_reckonSure 132 = .ok (.return_, 1) := by decide +kernel
def S_TR_reckonSure_0 (g : Gx) (Q : St → Prop) (σ : St) (t1 : Nat) (x2 : Int32) : Prop := Ax g m_TR_reckonSure 0 0 (ZV g Q) SH σ 0 0 0 [(0, .ref (gB g + 82)), (1, .ref (gB g + t1)), (2, .int x2)] []
def S_TR_reckonSure_12 (g : Gx) (Q : St → Prop) (σ : St) (t1 : Nat) (x2 : Int32) (x3 : Int32) : Prop := Ax g m_TR_reckonSure 0 0 (ZV g Q) SH σ 0 0 12 [(0, .ref (gB g + 82)), (1, .ref (gB g + t1)), (2, .int x2), (3, .int x3)] []
def S_TR_reckonSure_40 (g : Gx) (Q : St → Prop) (σ : St) (t1 : Nat) (x2 : Int32) (x3 : Int32) : Prop := Ax g m_TR_reckonSure 0 0 (ZV g Q) SH σ 0 0 40 [(0, .ref (gB g + 82)), (1, .ref (gB g + t1)), (2, .int x2), (3, .int x3)] []
theorem sg_TR_reckonSure_0 {g : Gx} {Q : St → Prop} {σ : St} {t1 : Nat} {x2 : Int32} (ht1 : isSA t1)
    (h : ∀ s1 : St, s1 = sfj σ 82 4 (0 : Int64) → ∀ s2 : St, s2 = sfj s1 82 5 (1 : Int64) → S_TR_reckonSure_12 g Q s2 t1 x2 (0 : Int32)) : S_TR_reckonSure_0 g Q σ t1 x2 := by
  show Ax g m_TR_reckonSure 0 0 (ZV g Q) SH σ 0 0 0 [(0, .ref (gB g + 82)), (1, .ref (gB g + t1)), (2, .int x2)] []
  refine a_aload_n (pc := 0) 0 rfl rfl d_TR_reckonSure_0 ?_
  refine a_lconst (pc := 1) (0 : Int64) (by decide) d_TR_reckonSure_1 ?_
  refine a_putJ (pc := 2) fp_TR_47 sx_82 rfl d_TR_reckonSure_2 ?_
  refine a_nms (fun s1 hs1 => ?_)
  replace h := h s1 hs1
  refine a_aload_n (pc := 5) 0 rfl rfl d_TR_reckonSure_5 ?_
  refine a_lconst (pc := 6) (1 : Int64) (by decide) d_TR_reckonSure_6 ?_
  refine a_putJ (pc := 7) fp_TR_51 sx_82 rfl d_TR_reckonSure_7 ?_
  refine a_nms (fun s2 hs2 => ?_)
  replace h := h s2 hs2
  refine a_iconst (pc := 10) (0 : Int32) (by decide) d_TR_reckonSure_10 ?_
  refine a_istore_n (pc := 11) (lv' := [(3, .int (0 : Int32)), (0, .ref (gB g + 82)), (1, .ref (gB g + t1)), (2, .int x2)]) rfl (Nat.le_of_ble_eq_true rfl) rfl d_TR_reckonSure_11 ?_
  refine a_sub (pc := 12) [1, 2, 3, 0] rfl ?_
  exact h
theorem sg_TR_reckonSure_12 {g : Gx} {Q : St → Prop} {σ : St} {t1 : Nat} {x2 : Int32} {x3 : Int32} (ht1 : isSA t1)
    (h : ((fi σ t1 7) ≤ x3 → S_TR_reckonSure_40 g Q σ t1 x2 (0 : Int32)) ∧ (¬ (fi σ t1 7) ≤ x3 → ∀ s1 : St, s1 = sfj σ 82 5 ((fj σ 82 5) * (100 : Int64)) → ∀ u2 : Int32, u2 = x3 + (1 : Int32) → S_TR_reckonSure_12 g Q s1 t1 x2 u2)) : S_TR_reckonSure_12 g Q σ t1 x2 x3 := by
  show Ax g m_TR_reckonSure 0 0 (ZV g Q) SH σ 0 0 12 [(0, .ref (gB g + 82)), (1, .ref (gB g + t1)), (2, .int x2), (3, .int x3)] []
  refine a_iload_n (pc := 12) 3 rfl rfl d_TR_reckonSure_12 ?_
  refine a_aload_n (pc := 13) 1 rfl rfl d_TR_reckonSure_13 ?_
  refine a_getI (pc := 14) fg_TR_28 (sa0 ht1) rfl d_TR_reckonSure_14 ?_
  refine a_icmp_ge (pc := 17) 38 (by decide) d_TR_reckonSure_17 ⟨fun c0 => ?_, fun c0 => ?_⟩
  · replace h := h.1 c0
    refine a_iconst (pc := 38) (0 : Int32) (by decide) d_TR_reckonSure_38 ?_
    refine a_istore_n (pc := 39) (lv' := [(3, .int (0 : Int32)), (0, .ref (gB g + 82)), (1, .ref (gB g + t1)), (2, .int x2)]) rfl (Nat.le_of_ble_eq_true rfl) rfl d_TR_reckonSure_39 ?_
    refine a_sub (pc := 40) [1, 2, 3, 0] rfl ?_
    exact h
  · replace h := h.2 c0
    refine a_aload_n (pc := 20) 0 rfl rfl d_TR_reckonSure_20 ?_
    refine a_dup (pc := 21) rfl d_TR_reckonSure_21 ?_
    refine a_getJ (pc := 22) fg_TR_51 sx_82 rfl d_TR_reckonSure_22 ?_
    refine a_ldc2 (pc := 25) tw960 d_TR_reckonSure_25 ?_
    refine a_lmul (pc := 28) d_TR_reckonSure_28 ?_
    refine a_putJ (pc := 29) fp_TR_51 sx_82 rfl d_TR_reckonSure_29 ?_
    refine a_nms (fun s1 hs1 => ?_)
    replace h := h s1 hs1
    obtain ⟨u2, hu2⟩ : ∃ y : Int32, y = x3 + (1 : Int32) := ⟨_, rfl⟩
    replace h := h u2 hu2
    refine a_iinc (pc := 32) (v := u2) (lv' := [(3, .int u2), (0, .ref (gB g + 82)), (1, .ref (gB g + t1)), (2, .int x2)]) 3 rfl (by rw [hu2]; rfl) (Nat.le_of_ble_eq_true rfl) rfl d_TR_reckonSure_32 ?_
    refine a_goto (pc := 35) 12 (by decide) d_TR_reckonSure_35 ?_
    refine a_sub (pc := 12) [1, 2, 3, 0] rfl ?_
    exact h
theorem sg_TR_reckonSure_40 {g : Gx} {Q : St → Prop} {σ : St} {t1 : Nat} {x2 : Int32} {x3 : Int32} (ht1 : isSA t1)
    (h : (((1 : Int32) <<< ((fi σ t1 7) &&& 31)) ≤ x3 → K_TR_greatestDivisor g (fj σ 82 4) (fj σ 82 5) σ (fun (r2 : Int64) (s1 : St) => ((lg_cmp r2 (0 : Int64)) ≤ 0 → Q s1) ∧ (¬ (lg_cmp r2 (0 : Int64)) ≤ 0 → ¬ r2 = 0 ∧ (∀ s3 : St, s3 = sfj s1 82 4 ((fj s1 82 4) / r2) → ¬ r2 = 0 ∧ (∀ s4 : St, s4 = sfj s3 82 5 ((fj s3 82 5) / r2) → Q s4))))) ∧ (¬ ((1 : Int32) <<< ((fi σ t1 7) &&& 31)) ≤ x3 → K_TR_weightOf g x3 (fi σ t1 7) x2 σ (fun (r6 : Int64) (s5 : St) => ((lg_cmp r6 (0 : Int64)) ≤ 0 → ∀ u7 : Int32, u7 = x3 + (1 : Int32) → S_TR_reckonSure_40 g Q s5 t1 x2 u7) ∧ (¬ (lg_cmp r6 (0 : Int64)) ≤ 0 → K_TR_bringsHome g t1 x3 s5 (fun (r9 : Int32) (s8 : St) => (r9 = 0 → ∀ u10 : Int32, u10 = x3 + (1 : Int32) → S_TR_reckonSure_40 g Q s8 t1 x2 u10) ∧ (¬ r9 = 0 → ∀ s11 : St, s11 = sfj s8 82 4 ((fj s8 82 4) + r6) → ∀ u12 : Int32, u12 = x3 + (1 : Int32) → S_TR_reckonSure_40 g Q s11 t1 x2 u12)))))) : S_TR_reckonSure_40 g Q σ t1 x2 x3 := by
  show Ax g m_TR_reckonSure 0 0 (ZV g Q) SH σ 0 0 40 [(0, .ref (gB g + 82)), (1, .ref (gB g + t1)), (2, .int x2), (3, .int x3)] []
  refine a_iload_n (pc := 40) 3 rfl rfl d_TR_reckonSure_40 ?_
  refine a_iconst (pc := 41) (1 : Int32) (by decide) d_TR_reckonSure_41 ?_
  refine a_aload_n (pc := 42) 1 rfl rfl d_TR_reckonSure_42 ?_
  refine a_getI (pc := 43) fg_TR_28 (sa0 ht1) rfl d_TR_reckonSure_43 ?_
  refine a_ishl (pc := 46) d_TR_reckonSure_46 ?_
  refine a_icmp_ge (pc := 47) 94 (by decide) d_TR_reckonSure_47 ⟨fun c0 => ?_, fun c0 => ?_⟩
  · replace h := h.1 c0
    refine a_aload_n (pc := 94) 0 rfl rfl d_TR_reckonSure_94 ?_
    refine a_getJ (pc := 95) fg_TR_47 sx_82 rfl d_TR_reckonSure_95 ?_
    refine a_aload_n (pc := 98) 0 rfl rfl d_TR_reckonSure_98 ?_
    refine a_getJ (pc := 99) fg_TR_51 sx_82 rfl d_TR_reckonSure_99 ?_
    refine a_callS (pc := 102) (M' := m_TR_greatestDivisor) (As := [.long (fj σ 82 4), .long (fj σ 82 5)]) (st := []) (mc' := 0) (ms' := 0) lk_TR_64 rfl (by decide) (by decide) rfl (Nat.le_of_ble_eq_true rfl) (Nat.le_refl 0) (Nat.le_refl 0) d_TR_reckonSure_102 h ?_
    rintro _ _ s1 ⟨r2, rfl, rfl, h⟩ -
    show Ax g m_TR_reckonSure 0 0 (ZV g Q) SH s1 0 0 105 [(0, .ref (gB g + 82)), (1, .ref (gB g + t1)), (2, .int x2), (3, .int x3)] [.long r2]
    refine a_lstore_n (pc := 105) (lv' := [(3, .long r2), (0, .ref (gB g + 82)), (1, .ref (gB g + t1)), (2, .int x2)]) rfl (Nat.le_of_ble_eq_true rfl) rfl d_TR_reckonSure_105 ?_
    refine a_lload_n (pc := 106) 0 rfl rfl d_TR_reckonSure_106 ?_
    refine a_lconst (pc := 107) (0 : Int64) (by decide) d_TR_reckonSure_107 ?_
    refine a_lcmp (pc := 108) d_TR_reckonSure_108 ?_
    refine a_if_le (pc := 109) 132 (by decide) d_TR_reckonSure_109 ⟨fun c0 => ?_, fun c0 => ?_⟩
    · replace h := h.1 c0
      exact b_vret (pc := 132) rfl d_TR_reckonSure_132 h
    · replace h := h.2 c0
      refine a_aload_n (pc := 112) 1 rfl rfl d_TR_reckonSure_112 ?_
      refine a_dup (pc := 113) rfl d_TR_reckonSure_113 ?_
      refine a_getJ (pc := 114) fg_TR_47 sx_82 rfl d_TR_reckonSure_114 ?_
      refine a_lload_n (pc := 117) 0 rfl rfl d_TR_reckonSure_117 ?_
      obtain ⟨hne, h⟩ := h
      refine a_ldiv (pc := 118) hne d_TR_reckonSure_118 ?_
      refine a_putJ (pc := 119) fp_TR_47 sx_82 rfl d_TR_reckonSure_119 ?_
      refine a_nms (fun s3 hs3 => ?_)
      replace h := h s3 hs3
      refine a_aload_n (pc := 122) 1 rfl rfl d_TR_reckonSure_122 ?_
      refine a_dup (pc := 123) rfl d_TR_reckonSure_123 ?_
      refine a_getJ (pc := 124) fg_TR_51 sx_82 rfl d_TR_reckonSure_124 ?_
      refine a_lload_n (pc := 127) 0 rfl rfl d_TR_reckonSure_127 ?_
      obtain ⟨hne, h⟩ := h
      refine a_ldiv (pc := 128) hne d_TR_reckonSure_128 ?_
      refine a_putJ (pc := 129) fp_TR_51 sx_82 rfl d_TR_reckonSure_129 ?_
      refine a_nms (fun s4 hs4 => ?_)
      replace h := h s4 hs4
      exact b_vret (pc := 132) rfl d_TR_reckonSure_132 h
  · replace h := h.2 c0
    refine a_iload_n (pc := 50) 3 rfl rfl d_TR_reckonSure_50 ?_
    refine a_aload_n (pc := 51) 1 rfl rfl d_TR_reckonSure_51 ?_
    refine a_getI (pc := 52) fg_TR_28 (sa0 ht1) rfl d_TR_reckonSure_52 ?_
    refine a_iload_n (pc := 55) 2 rfl rfl d_TR_reckonSure_55 ?_
    refine a_callS (pc := 56) (M' := m_TR_weightOf) (As := [.int x3, .int (fi σ t1 7), .int x2]) (st := []) (mc' := 0) (ms' := 0) lk_TR_56 rfl (by decide) (by decide) rfl (Nat.le_of_ble_eq_true rfl) (Nat.le_refl 0) (Nat.le_refl 0) d_TR_reckonSure_56 h ?_
    rintro _ _ s5 ⟨r6, rfl, rfl, h⟩ -
    show Ax g m_TR_reckonSure 0 0 (ZV g Q) SH s5 0 0 59 [(0, .ref (gB g + 82)), (1, .ref (gB g + t1)), (2, .int x2), (3, .int x3)] [.long r6]
    refine a_lstore (pc := 59) (lv' := [(4, .long r6), (0, .ref (gB g + 82)), (1, .ref (gB g + t1)), (2, .int x2), (3, .int x3)]) (Nat.le_of_ble_eq_true rfl) rfl d_TR_reckonSure_59 ?_
    refine a_lload (pc := 61) 0 rfl d_TR_reckonSure_61 ?_
    refine a_lconst (pc := 63) (0 : Int64) (by decide) d_TR_reckonSure_63 ?_
    refine a_lcmp (pc := 64) d_TR_reckonSure_64 ?_
    refine a_if_le (pc := 65) 88 (by decide) d_TR_reckonSure_65 ⟨fun c0 => ?_, fun c0 => ?_⟩
    · replace h := h.1 c0
      obtain ⟨u7, hu7⟩ : ∃ y : Int32, y = x3 + (1 : Int32) := ⟨_, rfl⟩
      replace h := h u7 hu7
      refine a_iinc (pc := 88) (v := u7) (lv' := [(3, .int u7), (4, .long r6), (0, .ref (gB g + 82)), (1, .ref (gB g + t1)), (2, .int x2)]) 4 rfl (by rw [hu7]; rfl) (Nat.le_of_ble_eq_true rfl) rfl d_TR_reckonSure_88 ?_
      refine a_goto (pc := 91) 40 (by decide) d_TR_reckonSure_91 ?_
      refine a_sub (pc := 40) [2, 3, 4, 0] rfl ?_
      exact h
    · replace h := h.2 c0
      refine a_aload_n (pc := 68) 1 rfl rfl d_TR_reckonSure_68 ?_
      refine a_aload_n (pc := 69) 2 rfl rfl d_TR_reckonSure_69 ?_
      refine a_iload_n (pc := 70) 4 rfl rfl d_TR_reckonSure_70 ?_
      refine a_callV (pc := 71) (M' := m_TR_bringsHome) (As := [.ref (gB g + t1), .int x3]) (st := []) (mc' := 0) (ms' := 0) lk_TR_60 rfl sx_82 rfl (by decide) (by decide) rfl (Nat.le_of_ble_eq_true rfl) (Nat.le_refl 0) (Nat.le_refl 0) d_TR_reckonSure_71 h ?_
      rintro _ _ s8 ⟨r9, rfl, rfl, h⟩ -
      show Ax g m_TR_reckonSure 0 0 (ZV g Q) SH s8 0 0 74 [(4, .long r6), (0, .ref (gB g + 82)), (1, .ref (gB g + t1)), (2, .int x2), (3, .int x3)] [.int r9]
      refine a_if_eq (pc := 74) 88 (by decide) d_TR_reckonSure_74 ⟨fun c0 => ?_, fun c0 => ?_⟩
      · replace h := h.1 c0
        obtain ⟨u10, hu10⟩ : ∃ y : Int32, y = x3 + (1 : Int32) := ⟨_, rfl⟩
        replace h := h u10 hu10
        refine a_iinc (pc := 88) (v := u10) (lv' := [(3, .int u10), (4, .long r6), (0, .ref (gB g + 82)), (1, .ref (gB g + t1)), (2, .int x2)]) 4 rfl (by rw [hu10]; rfl) (Nat.le_of_ble_eq_true rfl) rfl d_TR_reckonSure_88 ?_
        refine a_goto (pc := 91) 40 (by decide) d_TR_reckonSure_91 ?_
        refine a_sub (pc := 40) [2, 3, 4, 0] rfl ?_
        exact h
      · replace h := h.2 c0
        refine a_aload_n (pc := 77) 1 rfl rfl d_TR_reckonSure_77 ?_
        refine a_dup (pc := 78) rfl d_TR_reckonSure_78 ?_
        refine a_getJ (pc := 79) fg_TR_47 sx_82 rfl d_TR_reckonSure_79 ?_
        refine a_lload (pc := 82) 0 rfl d_TR_reckonSure_82 ?_
        refine a_ladd (pc := 84) d_TR_reckonSure_84 ?_
        refine a_putJ (pc := 85) fp_TR_47 sx_82 rfl d_TR_reckonSure_85 ?_
        refine a_nms (fun s11 hs11 => ?_)
        replace h := h s11 hs11
        obtain ⟨u12, hu12⟩ : ∃ y : Int32, y = x3 + (1 : Int32) := ⟨_, rfl⟩
        replace h := h u12 hu12
        refine a_iinc (pc := 88) (v := u12) (lv' := [(3, .int u12), (4, .long r6), (0, .ref (gB g + 82)), (1, .ref (gB g + t1)), (2, .int x2)]) 4 rfl (by rw [hu12]; rfl) (Nat.le_of_ble_eq_true rfl) rfl d_TR_reckonSure_88 ?_
        refine a_goto (pc := 91) 40 (by decide) d_TR_reckonSure_91 ?_
        refine a_sub (pc := 40) [2, 3, 4, 0] rfl ?_
        exact h
theorem ko_TR_reckonSure {g : Gx}  {t1 : Nat} {x2 : Int32} {σ : St} {Q : St → Prop} (h : S_TR_reckonSure_0 g Q σ t1 x2) : K_TR_reckonSure g t1 x2 σ Q := KV.of (show plainName "BallBox$Trial" = true by decide) (Nat.le_of_ble_eq_true rfl) h
theorem d_TR_weightOf_0 : decode c_TR_weightOf 0 = .ok (.lconst 1, 1) := by decide +kernel
theorem d_TR_weightOf_1 : decode c_TR_weightOf 1 = .ok (.lstore_n 3, 1) := by decide +kernel
theorem d_TR_weightOf_2 : decode c_TR_weightOf 2 = .ok (.iconst 0, 1) := by decide +kernel
theorem d_TR_weightOf_3 : decode c_TR_weightOf 3 = .ok (.istore 5, 2) := by decide +kernel
theorem d_TR_weightOf_5 : decode c_TR_weightOf 5 = .ok (.iload 5, 2) := by decide +kernel
theorem d_TR_weightOf_7 : decode c_TR_weightOf 7 = .ok (.iload_n 1, 1) := by decide +kernel
theorem d_TR_weightOf_8 : decode c_TR_weightOf 8 = .ok (.if_icmp .ge 31, 3) := by decide +kernel
theorem d_TR_weightOf_11 : decode c_TR_weightOf 11 = .ok (.lload_n 3, 1) := by decide +kernel
theorem d_TR_weightOf_12 : decode c_TR_weightOf 12 = .ok (.iload_n 0, 1) := by decide +kernel
theorem d_TR_weightOf_13 : decode c_TR_weightOf 13 = .ok (.iload 5, 2) := by decide +kernel
theorem d_TR_weightOf_15 : decode c_TR_weightOf 15 = .ok (.ishr, 1) := by decide +kernel
theorem d_TR_weightOf_16 : decode c_TR_weightOf 16 = .ok (.iconst 1, 1) := by decide +kernel
theorem d_TR_weightOf_17 : decode c_TR_weightOf 17 = .ok (.iand, 1) := by decide +kernel
theorem d_TR_weightOf_18 : decode c_TR_weightOf 18 = .ok (.ifCond .ne 8, 3) := by decide +kernel
theorem d_TR_weightOf_21 : decode c_TR_weightOf 21 = .ok (.iload_n 2, 1) := by decide +kernel
theorem d_TR_weightOf_22 : decode c_TR_weightOf 22 = .ok (.i2l, 1) := by decide +kernel
theorem d_TR_weightOf_23 : decode c_TR_weightOf 23 = .ok (.goto 8, 3) := by decide +kernel
theorem d_TR_weightOf_26 : decode c_TR_weightOf 26 = .ok (.bipush 100, 2) := by decide +kernel
theorem d_TR_weightOf_28 : decode c_TR_weightOf 28 = .ok (.iload_n 2, 1) := by decide +kernel
theorem d_TR_weightOf_29 : decode c_TR_weightOf 29 = .ok (.isub, 1) := by decide +kernel
theorem d_TR_weightOf_30 : decode c_TR_weightOf 30 = .ok (.i2l, 1) := by decide +kernel
theorem d_TR_weightOf_31 : decode c_TR_weightOf 31 = .ok (.lmul, 1) := by decide +kernel
theorem d_TR_weightOf_32 : decode c_TR_weightOf 32 = .ok (.lstore_n 3, 1) := by decide +kernel
theorem d_TR_weightOf_33 : decode c_TR_weightOf 33 = .ok (.iinc 5 1, 3) := by decide +kernel
theorem d_TR_weightOf_36 : decode c_TR_weightOf 36 = .ok (.goto (-31), 3) := by decide +kernel
theorem d_TR_weightOf_39 : decode c_TR_weightOf 39 = .ok (.lload_n 3, 1) := by decide +kernel
theorem d_TR_weightOf_40 : decode c_TR_weightOf 40 = .ok (.lreturn, 1) := by decide +kernel
def S_TR_weightOf_0 (g : Gx) (Q : Int64 → St → Prop) (σ : St) (x0 : Int32) (x1 : Int32) (x2 : Int32) : Prop := Ax g m_TR_weightOf 0 0 (ZJ g Q) SH σ 0 0 0 [(0, .int x0), (1, .int x1), (2, .int x2)] []
def S_TR_weightOf_5 (g : Gx) (Q : Int64 → St → Prop) (σ : St) (x0 : Int32) (x1 : Int32) (x2 : Int32) (y3 : Int64) (x5 : Int32) : Prop := Ax g m_TR_weightOf 0 0 (ZJ g Q) SH σ 0 0 5 [(0, .int x0), (1, .int x1), (2, .int x2), (3, .long y3), (5, .int x5)] []
theorem sg_TR_weightOf_0 {g : Gx} {Q : Int64 → St → Prop} {σ : St} {x0 : Int32} {x1 : Int32} {x2 : Int32}
    (h : S_TR_weightOf_5 g Q σ x0 x1 x2 (1 : Int64) (0 : Int32)) : S_TR_weightOf_0 g Q σ x0 x1 x2 := by
  show Ax g m_TR_weightOf 0 0 (ZJ g Q) SH σ 0 0 0 [(0, .int x0), (1, .int x1), (2, .int x2)] []
  refine a_lconst (pc := 0) (1 : Int64) (by decide) d_TR_weightOf_0 ?_
  refine a_lstore_n (pc := 1) (lv' := [(3, .long (1 : Int64)), (0, .int x0), (1, .int x1), (2, .int x2)]) rfl (Nat.le_of_ble_eq_true rfl) rfl d_TR_weightOf_1 ?_
  refine a_iconst (pc := 2) (0 : Int32) (by decide) d_TR_weightOf_2 ?_
  refine a_istore (pc := 3) (lv' := [(5, .int (0 : Int32)), (3, .long (1 : Int64)), (0, .int x0), (1, .int x1), (2, .int x2)]) (Nat.le_of_ble_eq_true rfl) rfl d_TR_weightOf_3 ?_
  refine a_sub (pc := 5) [2, 3, 4, 1, 0] rfl ?_
  exact h
theorem sg_TR_weightOf_5 {g : Gx} {Q : Int64 → St → Prop} {σ : St} {x0 : Int32} {x1 : Int32} {x2 : Int32} {y3 : Int64} {x5 : Int32}
    (h : (x1 ≤ x5 → Q y3 σ) ∧ (¬ x1 ≤ x5 → (¬ ((x0 >>> (x5 &&& 31)) &&& (1 : Int32)) = 0 → ∀ u1 : Int64, u1 = (y3 * (((100 : Int32) - x2)).toInt64) → ∀ u2 : Int32, u2 = x5 + (1 : Int32) → S_TR_weightOf_5 g Q σ x0 x1 x2 u1 u2) ∧ (((x0 >>> (x5 &&& 31)) &&& (1 : Int32)) = 0 → ∀ u3 : Int64, u3 = (y3 * (x2).toInt64) → ∀ u4 : Int32, u4 = x5 + (1 : Int32) → S_TR_weightOf_5 g Q σ x0 x1 x2 u3 u4))) : S_TR_weightOf_5 g Q σ x0 x1 x2 y3 x5 := by
  show Ax g m_TR_weightOf 0 0 (ZJ g Q) SH σ 0 0 5 [(0, .int x0), (1, .int x1), (2, .int x2), (3, .long y3), (5, .int x5)] []
  refine a_iload (pc := 5) 4 rfl d_TR_weightOf_5 ?_
  refine a_iload_n (pc := 7) 1 rfl rfl d_TR_weightOf_7 ?_
  refine a_icmp_ge (pc := 8) 39 (by decide) d_TR_weightOf_8 ⟨fun c0 => ?_, fun c0 => ?_⟩
  · replace h := h.1 c0
    refine a_lload_n (pc := 39) 3 rfl rfl d_TR_weightOf_39 ?_
    exact b_lret (pc := 40) rfl d_TR_weightOf_40 h
  · replace h := h.2 c0
    refine a_lload_n (pc := 11) 3 rfl rfl d_TR_weightOf_11 ?_
    refine a_iload_n (pc := 12) 0 rfl rfl d_TR_weightOf_12 ?_
    refine a_iload (pc := 13) 4 rfl d_TR_weightOf_13 ?_
    refine a_ishr (pc := 15) d_TR_weightOf_15 ?_
    refine a_iconst (pc := 16) (1 : Int32) (by decide) d_TR_weightOf_16 ?_
    refine a_iand (pc := 17) d_TR_weightOf_17 ?_
    refine a_if_ne (pc := 18) 26 (by decide) d_TR_weightOf_18 ⟨fun c0 => ?_, fun c0 => ?_⟩
    · replace h := h.1 c0
      refine a_bipush (pc := 26) (100 : Int32) (by decide) d_TR_weightOf_26 ?_
      refine a_iload_n (pc := 28) 2 rfl rfl d_TR_weightOf_28 ?_
      refine a_isub (pc := 29) d_TR_weightOf_29 ?_
      refine a_i2l (pc := 30) d_TR_weightOf_30 ?_
      refine a_lmul (pc := 31) d_TR_weightOf_31 ?_
      refine a_nmj (pc := 32) (fun u1 hu1 => ?_)
      replace h := h u1 hu1
      refine a_lstore_n (pc := 32) (lv' := [(3, .long u1), (0, .int x0), (1, .int x1), (2, .int x2), (5, .int x5)]) rfl (Nat.le_of_ble_eq_true rfl) rfl d_TR_weightOf_32 ?_
      obtain ⟨u2, hu2⟩ : ∃ y : Int32, y = x5 + (1 : Int32) := ⟨_, rfl⟩
      replace h := h u2 hu2
      refine a_iinc (pc := 33) (v := u2) (lv' := [(5, .int u2), (3, .long u1), (0, .int x0), (1, .int x1), (2, .int x2)]) 4 rfl (by rw [hu2]; rfl) (Nat.le_of_ble_eq_true rfl) rfl d_TR_weightOf_33 ?_
      refine a_goto (pc := 36) 5 (by decide) d_TR_weightOf_36 ?_
      refine a_sub (pc := 5) [2, 3, 4, 1, 0] rfl ?_
      exact h
    · replace h := h.2 c0
      refine a_iload_n (pc := 21) 2 rfl rfl d_TR_weightOf_21 ?_
      refine a_i2l (pc := 22) d_TR_weightOf_22 ?_
      refine a_goto (pc := 23) 31 (by decide) d_TR_weightOf_23 ?_
      refine a_lmul (pc := 31) d_TR_weightOf_31 ?_
      refine a_nmj (pc := 32) (fun u3 hu3 => ?_)
      replace h := h u3 hu3
      refine a_lstore_n (pc := 32) (lv' := [(3, .long u3), (0, .int x0), (1, .int x1), (2, .int x2), (5, .int x5)]) rfl (Nat.le_of_ble_eq_true rfl) rfl d_TR_weightOf_32 ?_
      obtain ⟨u4, hu4⟩ : ∃ y : Int32, y = x5 + (1 : Int32) := ⟨_, rfl⟩
      replace h := h u4 hu4
      refine a_iinc (pc := 33) (v := u4) (lv' := [(5, .int u4), (3, .long u3), (0, .int x0), (1, .int x1), (2, .int x2)]) 4 rfl (by rw [hu4]; rfl) (Nat.le_of_ble_eq_true rfl) rfl d_TR_weightOf_33 ?_
      refine a_goto (pc := 36) 5 (by decide) d_TR_weightOf_36 ?_
      refine a_sub (pc := 5) [2, 3, 4, 1, 0] rfl ?_
      exact h
theorem ko_TR_weightOf {g : Gx}  {x0 : Int32} {x1 : Int32} {x2 : Int32} {σ : St} {Q : Int64 → St → Prop} (h : S_TR_weightOf_0 g Q σ x0 x1 x2) : K_TR_weightOf g x0 x1 x2 σ Q := KJ.of (show plainName "BallBox$Trial" = true by decide) (Nat.le_of_ble_eq_true rfl) h
theorem d_TR_bringsHome_0 : decode c_TR_bringsHome 0 = .ok (.aload_n 1, 1) := by decide +kernel
theorem d_TR_bringsHome_1 : decode c_TR_bringsHome 1 = .ok (.getfield 15, 3) := by decide +kernel
theorem d_TR_bringsHome_4 : decode c_TR_bringsHome 4 = .ok (.istore_n 3, 1) := by decide +kernel
theorem d_TR_bringsHome_5 : decode c_TR_bringsHome 5 = .ok (.iconst 0, 1) := by decide +kernel
theorem d_TR_bringsHome_6 : decode c_TR_bringsHome 6 = .ok (.istore 4, 2) := by decide +kernel
theorem d_TR_bringsHome_8 : decode c_TR_bringsHome 8 = .ok (.iload 4, 2) := by decide +kernel
theorem d_TR_bringsHome_10 : decode c_TR_bringsHome 10 = .ok (.aload_n 1, 1) := by decide +kernel
theorem d_TR_bringsHome_11 : decode c_TR_bringsHome 11 = .ok (.getfield 28, 3) := by decide +kernel
theorem d_TR_bringsHome_14 : decode c_TR_bringsHome 14 = .ok (.if_icmp .ge 35, 3) := by decide +kernel
theorem d_TR_bringsHome_17 : decode c_TR_bringsHome 17 = .ok (.iload_n 2, 1) := by decide +kernel
theorem d_TR_bringsHome_18 : decode c_TR_bringsHome 18 = .ok (.iload 4, 2) := by decide +kernel
theorem d_TR_bringsHome_20 : decode c_TR_bringsHome 20 = .ok (.ishr, 1) := by decide +kernel
theorem d_TR_bringsHome_21 : decode c_TR_bringsHome 21 = .ok (.iconst 1, 1) := by decide +kernel
theorem d_TR_bringsHome_22 : decode c_TR_bringsHome 22 = .ok (.iand, 1) := by decide +kernel
theorem d_TR_bringsHome_23 : decode c_TR_bringsHome 23 = .ok (.ifCond .eq 20, 3) := by decide +kernel
theorem d_TR_bringsHome_26 : decode c_TR_bringsHome 26 = .ok (.aload_n 0, 1) := by decide +kernel
theorem d_TR_bringsHome_27 : decode c_TR_bringsHome 27 = .ok (.getfield 9, 3) := by decide +kernel
theorem d_TR_bringsHome_30 : decode c_TR_bringsHome 30 = .ok (.aload_n 1, 1) := by decide +kernel
theorem d_TR_bringsHome_31 : decode c_TR_bringsHome 31 = .ok (.iload_n 3, 1) := by decide +kernel
theorem d_TR_bringsHome_32 : decode c_TR_bringsHome 32 = .ok (.aload_n 1, 1) := by decide +kernel
theorem d_TR_bringsHome_33 : decode c_TR_bringsHome 33 = .ok (.getfield 31, 3) := by decide +kernel
theorem d_TR_bringsHome_36 : decode c_TR_bringsHome 36 = .ok (.iload 4, 2) := by decide +kernel
theorem d_TR_bringsHome_38 : decode c_TR_bringsHome 38 = .ok (.iaload, 1) := by decide +kernel
theorem d_TR_bringsHome_39 : decode c_TR_bringsHome 39 = .ok (.invokevirtual 39, 3) := by decide +kernel
theorem d_TR_bringsHome_42 : decode c_TR_bringsHome 42 = .ok (.istore_n 3, 1) := by decide +kernel
theorem d_TR_bringsHome_43 : decode c_TR_bringsHome 43 = .ok (.iinc 4 1, 3) := by decide +kernel
theorem d_TR_bringsHome_46 : decode c_TR_bringsHome 46 = .ok (.goto (-38), 3) := by decide +kernel
theorem d_TR_bringsHome_49 : decode c_TR_bringsHome 49 = .ok (.iload_n 3, 1) := by decide +kernel
theorem d_TR_bringsHome_50 : decode c_TR_bringsHome 50 = .ok (.ifCond .ne 7, 3) := by decide +kernel
theorem d_TR_bringsHome_53 : decode c_TR_bringsHome 53 = .ok (.iconst 1, 1) := by decide +kernel
theorem d_TR_bringsHome_54 : decode c_TR_bringsHome 54 = .ok (.goto 4, 3) := by decide +kernel
theorem d_TR_bringsHome_57 : decode c_TR_bringsHome 57 = .ok (.iconst 0, 1) := by decide +kernel
theorem d_TR_bringsHome_58 : decode c_TR_bringsHome 58 = .ok (.ireturn, 1) := by decide +kernel
def S_TR_bringsHome_0 (g : Gx) (Q : Int32 → St → Prop) (σ : St) (t1 : Nat) (x2 : Int32) : Prop := Ax g m_TR_bringsHome 0 0 (ZI g Q) SH σ 0 0 0 [(0, .ref (gB g + 82)), (1, .ref (gB g + t1)), (2, .int x2)] []
def S_TR_bringsHome_8 (g : Gx) (Q : Int32 → St → Prop) (σ : St) (t1 : Nat) (x2 : Int32) (x3 : Int32) (x4 : Int32) : Prop := Ax g m_TR_bringsHome 0 0 (ZI g Q) SH σ 0 0 8 [(0, .ref (gB g + 82)), (1, .ref (gB g + t1)), (2, .int x2), (3, .int x3), (4, .int x4)] []
theorem sg_TR_bringsHome_0 {g : Gx} {Q : Int32 → St → Prop} {σ : St} {t1 : Nat} {x2 : Int32} (ht1 : isSA t1)
    (h : ∀ u1 : Int32, u1 = (fi σ t1 5) → S_TR_bringsHome_8 g Q σ t1 x2 u1 (0 : Int32)) : S_TR_bringsHome_0 g Q σ t1 x2 := by
  show Ax g m_TR_bringsHome 0 0 (ZI g Q) SH σ 0 0 0 [(0, .ref (gB g + 82)), (1, .ref (gB g + t1)), (2, .int x2)] []
  refine a_aload_n (pc := 0) 1 rfl rfl d_TR_bringsHome_0 ?_
  refine a_getI (pc := 1) fg_TR_15 (sa0 ht1) rfl d_TR_bringsHome_1 ?_
  refine a_nmi (pc := 4) (fun u1 hu1 => ?_)
  replace h := h u1 hu1
  refine a_istore_n (pc := 4) (lv' := [(3, .int u1), (0, .ref (gB g + 82)), (1, .ref (gB g + t1)), (2, .int x2)]) rfl (Nat.le_of_ble_eq_true rfl) rfl d_TR_bringsHome_4 ?_
  refine a_iconst (pc := 5) (0 : Int32) (by decide) d_TR_bringsHome_5 ?_
  refine a_istore (pc := 6) (lv' := [(4, .int (0 : Int32)), (3, .int u1), (0, .ref (gB g + 82)), (1, .ref (gB g + t1)), (2, .int x2)]) (Nat.le_of_ble_eq_true rfl) rfl d_TR_bringsHome_6 ?_
  refine a_sub (pc := 8) [2, 3, 4, 1, 0] rfl ?_
  exact h
theorem sg_TR_bringsHome_8 {g : Gx} {Q : Int32 → St → Prop} {σ : St} {t1 : Nat} {x2 : Int32} {x3 : Int32} {x4 : Int32} (ht1 : isSA t1)
    (h : ((fi σ t1 7) ≤ x4 → (¬ x3 = 0 → Q (0 : Int32) σ) ∧ (x3 = 0 → Q (1 : Int32) σ)) ∧ (¬ (fi σ t1 7) ≤ x4 → (((x2 >>> (x4 &&& 31)) &&& (1 : Int32)) = 0 → ∀ u1 : Int32, u1 = x4 + (1 : Int32) → S_TR_bringsHome_8 g Q σ t1 x2 x3 u1) ∧ (¬ ((x2 >>> (x4 &&& 31)) &&& (1 : Int32)) = 0 → vp_in x4 8 ∧ (K_RO_rolled g t1 x3 (ai σ (t1 + 3) (x4).toNatClampNeg) σ (fun (r3 : Int32) (s2 : St) => ∀ u4 : Int32, u4 = x4 + (1 : Int32) → S_TR_bringsHome_8 g Q s2 t1 x2 r3 u4))))) : S_TR_bringsHome_8 g Q σ t1 x2 x3 x4 := by
  show Ax g m_TR_bringsHome 0 0 (ZI g Q) SH σ 0 0 8 [(0, .ref (gB g + 82)), (1, .ref (gB g + t1)), (2, .int x2), (3, .int x3), (4, .int x4)] []
  refine a_iload (pc := 8) 4 rfl d_TR_bringsHome_8 ?_
  refine a_aload_n (pc := 10) 1 rfl rfl d_TR_bringsHome_10 ?_
  refine a_getI (pc := 11) fg_TR_28 (sa0 ht1) rfl d_TR_bringsHome_11 ?_
  refine a_icmp_ge (pc := 14) 49 (by decide) d_TR_bringsHome_14 ⟨fun c0 => ?_, fun c0 => ?_⟩
  · replace h := h.1 c0
    refine a_iload_n (pc := 49) 3 rfl rfl d_TR_bringsHome_49 ?_
    refine a_if_ne (pc := 50) 57 (by decide) d_TR_bringsHome_50 ⟨fun c0 => ?_, fun c0 => ?_⟩
    · replace h := h.1 c0
      refine a_iconst (pc := 57) (0 : Int32) (by decide) d_TR_bringsHome_57 ?_
      exact b_zret (pc := 58) rfl (Or.inl rfl) d_TR_bringsHome_58 h
    · replace h := h.2 c0
      refine a_iconst (pc := 53) (1 : Int32) (by decide) d_TR_bringsHome_53 ?_
      refine a_goto (pc := 54) 58 (by decide) d_TR_bringsHome_54 ?_
      exact b_zret (pc := 58) rfl (Or.inr rfl) d_TR_bringsHome_58 h
  · replace h := h.2 c0
    refine a_iload_n (pc := 17) 2 rfl rfl d_TR_bringsHome_17 ?_
    refine a_iload (pc := 18) 4 rfl d_TR_bringsHome_18 ?_
    refine a_ishr (pc := 20) d_TR_bringsHome_20 ?_
    refine a_iconst (pc := 21) (1 : Int32) (by decide) d_TR_bringsHome_21 ?_
    refine a_iand (pc := 22) d_TR_bringsHome_22 ?_
    refine a_if_eq (pc := 23) 43 (by decide) d_TR_bringsHome_23 ⟨fun c0 => ?_, fun c0 => ?_⟩
    · replace h := h.1 c0
      obtain ⟨u1, hu1⟩ : ∃ y : Int32, y = x4 + (1 : Int32) := ⟨_, rfl⟩
      replace h := h u1 hu1
      refine a_iinc (pc := 43) (v := u1) (lv' := [(4, .int u1), (0, .ref (gB g + 82)), (1, .ref (gB g + t1)), (2, .int x2), (3, .int x3)]) 4 rfl (by rw [hu1]; rfl) (Nat.le_of_ble_eq_true rfl) rfl d_TR_bringsHome_43 ?_
      refine a_goto (pc := 46) 8 (by decide) d_TR_bringsHome_46 ?_
      refine a_sub (pc := 8) [1, 2, 3, 4, 0] rfl ?_
      exact h
    · replace h := h.2 c0
      refine a_aload_n (pc := 26) 0 rfl rfl d_TR_bringsHome_26 ?_
      refine a_getR (pc := 27) fg_TR_9 sx_82 rfl d_TR_bringsHome_27 ?_
      refine a_aload_n (pc := 30) 1 rfl rfl d_TR_bringsHome_30 ?_
      refine a_iload_n (pc := 31) 3 rfl rfl d_TR_bringsHome_31 ?_
      refine a_aload_n (pc := 32) 1 rfl rfl d_TR_bringsHome_32 ?_
      refine a_getR (pc := 33) fg_TR_31 (sa0 ht1) rfl d_TR_bringsHome_33 ?_
      refine a_iload (pc := 36) 4 rfl d_TR_bringsHome_36 ?_
      obtain ⟨hx, h⟩ := h
      refine a_iald (pc := 38) (sa3 ht1) hx d_TR_bringsHome_38 ?_
      refine a_callV (pc := 39) (M' := m_RO_rolled) (As := [.ref (gB g + t1), .int x3, .int (ai σ (t1 + 3) (x4).toNatClampNeg)]) (st := []) (mc' := 0) (ms' := 0) lk_TR_39 rfl sx_17 rfl (by decide) (by decide) rfl (Nat.le_of_ble_eq_true rfl) (Nat.le_refl 0) (Nat.le_refl 0) d_TR_bringsHome_39 h ?_
      rintro _ _ s2 ⟨r3, rfl, rfl, h⟩ -
      show Ax g m_TR_bringsHome 0 0 (ZI g Q) SH s2 0 0 42 [(0, .ref (gB g + 82)), (1, .ref (gB g + t1)), (2, .int x2), (3, .int x3), (4, .int x4)] [.int r3]
      refine a_istore_n (pc := 42) (lv' := [(3, .int r3), (0, .ref (gB g + 82)), (1, .ref (gB g + t1)), (2, .int x2), (4, .int x4)]) rfl (Nat.le_of_ble_eq_true rfl) rfl d_TR_bringsHome_42 ?_
      obtain ⟨u4, hu4⟩ : ∃ y : Int32, y = x4 + (1 : Int32) := ⟨_, rfl⟩
      replace h := h u4 hu4
      refine a_iinc (pc := 43) (v := u4) (lv' := [(4, .int u4), (3, .int r3), (0, .ref (gB g + 82)), (1, .ref (gB g + t1)), (2, .int x2)]) 4 rfl (by rw [hu4]; rfl) (Nat.le_of_ble_eq_true rfl) rfl d_TR_bringsHome_43 ?_
      refine a_goto (pc := 46) 8 (by decide) d_TR_bringsHome_46 ?_
      refine a_sub (pc := 8) [2, 3, 4, 1, 0] rfl ?_
      exact h
theorem ko_TR_bringsHome {g : Gx}  {t1 : Nat} {x2 : Int32} {σ : St} {Q : Int32 → St → Prop} (h : S_TR_bringsHome_0 g Q σ t1 x2) : K_TR_bringsHome g t1 x2 σ Q := KI.of (show plainName "BallBox$Trial" = true by decide) (Nat.le_of_ble_eq_true rfl) h
theorem d_TR_greatestDivisor_0 : decode c_TR_greatestDivisor 0 = .ok (.lload_n 2, 1) := by decide +kernel
theorem d_TR_greatestDivisor_1 : decode c_TR_greatestDivisor 1 = .ok (.lstore 4, 2) := by decide +kernel
theorem d_TR_greatestDivisor_3 : decode c_TR_greatestDivisor 3 = .ok (.lload_n 0, 1) := by decide +kernel
theorem d_TR_greatestDivisor_4 : decode c_TR_greatestDivisor 4 = .ok (.lstore 6, 2) := by decide +kernel
theorem d_TR_greatestDivisor_6 : decode c_TR_greatestDivisor 6 = .ok (.iconst 0, 1) := by decide +kernel
theorem d_TR_greatestDivisor_7 : decode c_TR_greatestDivisor 7 = .ok (.istore 8, 2) := by decide +kernel
theorem d_TR_greatestDivisor_9 : decode c_TR_greatestDivisor 9 = .ok (.iload 8, 2) := by decide +kernel
theorem d_TR_greatestDivisor_11 : decode c_TR_greatestDivisor 11 = .ok (.sipush 200, 3) := by decide +kernel
theorem d_TR_greatestDivisor_14 : decode c_TR_greatestDivisor 14 = .ok (.if_icmp .ge 31, 3) := by decide +kernel
theorem d_TR_greatestDivisor_17 : decode c_TR_greatestDivisor 17 = .ok (.lload 6, 2) := by decide +kernel
theorem d_TR_greatestDivisor_19 : decode c_TR_greatestDivisor 19 = .ok (.lconst 0, 1) := by decide +kernel
theorem d_TR_greatestDivisor_20 : decode c_TR_greatestDivisor 20 = .ok (.lcmp, 1) := by decide +kernel
theorem d_TR_greatestDivisor_21 : decode c_TR_greatestDivisor 21 = .ok (.ifCond .eq 24, 3) := by decide +kernel
theorem d_TR_greatestDivisor_24 : decode c_TR_greatestDivisor 24 = .ok (.lload 4, 2) := by decide +kernel
theorem d_TR_greatestDivisor_26 : decode c_TR_greatestDivisor 26 = .ok (.lload 6, 2) := by decide +kernel
theorem d_TR_greatestDivisor_28 : decode c_TR_greatestDivisor 28 = .ok (.lrem, 1) := by decide +kernel
theorem d_TR_greatestDivisor_29 : decode c_TR_greatestDivisor 29 = .ok (.lstore 9, 2) := by decide +kernel
theorem d_TR_greatestDivisor_31 : decode c_TR_greatestDivisor 31 = .ok (.lload 6, 2) := by decide +kernel
theorem d_TR_greatestDivisor_33 : decode c_TR_greatestDivisor 33 = .ok (.lstore 4, 2) := by decide +kernel
theorem d_TR_greatestDivisor_35 : decode c_TR_greatestDivisor 35 = .ok (.lload 9, 2) := by decide +kernel
theorem d_TR_greatestDivisor_37 : decode c_TR_greatestDivisor 37 = .ok (.lstore 6, 2) := by decide +kernel
theorem d_TR_greatestDivisor_39 : decode c_TR_greatestDivisor 39 = .ok (.iinc 8 1, 3) := by decide +kernel
theorem d_TR_greatestDivisor_42 : decode c_TR_greatestDivisor 42 = .ok (.goto (-33), 3) := by decide +kernel
theorem d_TR_greatestDivisor_45 : decode c_TR_greatestDivisor 45 = .ok (.lload 4, 2) := by decide +kernel
theorem d_TR_greatestDivisor_47 : decode c_TR_greatestDivisor 47 = .ok (.lreturn, 1) := by decide +kernel
def S_TR_greatestDivisor_0 (g : Gx) (Q : Int64 → St → Prop) (σ : St) (y0 : Int64) (y2 : Int64) : Prop := Ax g m_TR_greatestDivisor 0 0 (ZJ g Q) SH σ 0 0 0 [(0, .long y0), (2, .long y2)] []
def S_TR_greatestDivisor_9 (g : Gx) (Q : Int64 → St → Prop) (σ : St) (y4 : Int64) (y6 : Int64) (x8 : Int32) : Prop := Ax g m_TR_greatestDivisor 0 0 (ZJ g Q) SH σ 0 0 9 [(4, .long y4), (6, .long y6), (8, .int x8)] []
theorem sg_TR_greatestDivisor_0 {g : Gx} {Q : Int64 → St → Prop} {σ : St} {y0 : Int64} {y2 : Int64}
    (h : S_TR_greatestDivisor_9 g Q σ y2 y0 (0 : Int32)) : S_TR_greatestDivisor_0 g Q σ y0 y2 := by
  show Ax g m_TR_greatestDivisor 0 0 (ZJ g Q) SH σ 0 0 0 [(0, .long y0), (2, .long y2)] []
  refine a_lload_n (pc := 0) 1 rfl rfl d_TR_greatestDivisor_0 ?_
  refine a_lstore (pc := 1) (lv' := [(4, .long y2), (0, .long y0), (2, .long y2)]) (Nat.le_of_ble_eq_true rfl) rfl d_TR_greatestDivisor_1 ?_
  refine a_lload_n (pc := 3) 1 rfl rfl d_TR_greatestDivisor_3 ?_
  refine a_lstore (pc := 4) (lv' := [(6, .long y0), (4, .long y2), (0, .long y0), (2, .long y2)]) (Nat.le_of_ble_eq_true rfl) rfl d_TR_greatestDivisor_4 ?_
  refine a_iconst (pc := 6) (0 : Int32) (by decide) d_TR_greatestDivisor_6 ?_
  refine a_istore (pc := 7) (lv' := [(8, .int (0 : Int32)), (6, .long y0), (4, .long y2), (0, .long y0), (2, .long y2)]) (Nat.le_of_ble_eq_true rfl) rfl d_TR_greatestDivisor_7 ?_
  refine a_sub (pc := 9) [2, 1, 0] rfl ?_
  exact h
theorem sg_TR_greatestDivisor_9 {g : Gx} {Q : Int64 → St → Prop} {σ : St} {y4 : Int64} {y6 : Int64} {x8 : Int32}
    (h : ((200 : Int32) ≤ x8 → Q y4 σ) ∧ (¬ (200 : Int32) ≤ x8 → ((lg_cmp y6 (0 : Int64)) = 0 → Q y4 σ) ∧ (¬ (lg_cmp y6 (0 : Int64)) = 0 → ¬ y6 = 0 ∧ (∀ u1 : Int64, u1 = (y4 - y4 / y6 * y6) → ∀ u2 : Int32, u2 = x8 + (1 : Int32) → S_TR_greatestDivisor_9 g Q σ y6 u1 u2)))) : S_TR_greatestDivisor_9 g Q σ y4 y6 x8 := by
  show Ax g m_TR_greatestDivisor 0 0 (ZJ g Q) SH σ 0 0 9 [(4, .long y4), (6, .long y6), (8, .int x8)] []
  refine a_iload (pc := 9) 2 rfl d_TR_greatestDivisor_9 ?_
  refine a_sipush (pc := 11) (200 : Int32) (by decide) d_TR_greatestDivisor_11 ?_
  refine a_icmp_ge (pc := 14) 45 (by decide) d_TR_greatestDivisor_14 ⟨fun c0 => ?_, fun c0 => ?_⟩
  · replace h := h.1 c0
    refine a_lload (pc := 45) 0 rfl d_TR_greatestDivisor_45 ?_
    exact b_lret (pc := 47) rfl d_TR_greatestDivisor_47 h
  · replace h := h.2 c0
    refine a_lload (pc := 17) 1 rfl d_TR_greatestDivisor_17 ?_
    refine a_lconst (pc := 19) (0 : Int64) (by decide) d_TR_greatestDivisor_19 ?_
    refine a_lcmp (pc := 20) d_TR_greatestDivisor_20 ?_
    refine a_if_eq (pc := 21) 45 (by decide) d_TR_greatestDivisor_21 ⟨fun c0 => ?_, fun c0 => ?_⟩
    · replace h := h.1 c0
      refine a_lload (pc := 45) 0 rfl d_TR_greatestDivisor_45 ?_
      exact b_lret (pc := 47) rfl d_TR_greatestDivisor_47 h
    · replace h := h.2 c0
      refine a_lload (pc := 24) 0 rfl d_TR_greatestDivisor_24 ?_
      refine a_lload (pc := 26) 1 rfl d_TR_greatestDivisor_26 ?_
      obtain ⟨hne, h⟩ := h
      refine a_lrem (pc := 28) hne d_TR_greatestDivisor_28 ?_
      refine a_nmj (pc := 29) (fun u1 hu1 => ?_)
      replace h := h u1 hu1
      refine a_lstore (pc := 29) (lv' := [(9, .long u1), (4, .long y4), (6, .long y6), (8, .int x8)]) (Nat.le_of_ble_eq_true rfl) rfl d_TR_greatestDivisor_29 ?_
      refine a_lload (pc := 31) 2 rfl d_TR_greatestDivisor_31 ?_
      refine a_lstore (pc := 33) (lv' := [(4, .long y6), (9, .long u1), (6, .long y6), (8, .int x8)]) (Nat.le_of_ble_eq_true rfl) rfl d_TR_greatestDivisor_33 ?_
      refine a_lload (pc := 35) 1 rfl d_TR_greatestDivisor_35 ?_
      refine a_lstore (pc := 37) (lv' := [(6, .long u1), (4, .long y6), (9, .long u1), (8, .int x8)]) (Nat.le_of_ble_eq_true rfl) rfl d_TR_greatestDivisor_37 ?_
      obtain ⟨u2, hu2⟩ : ∃ y : Int32, y = x8 + (1 : Int32) := ⟨_, rfl⟩
      replace h := h u2 hu2
      refine a_iinc (pc := 39) (v := u2) (lv' := [(8, .int u2), (6, .long u1), (4, .long y6), (9, .long u1)]) 3 rfl (by rw [hu2]; rfl) (Nat.le_of_ble_eq_true rfl) rfl d_TR_greatestDivisor_39 ?_
      refine a_goto (pc := 42) 9 (by decide) d_TR_greatestDivisor_42 ?_
      refine a_sub (pc := 9) [2, 1, 0] rfl ?_
      exact h
theorem ko_TR_greatestDivisor {g : Gx}  {y0 : Int64} {y2 : Int64} {σ : St} {Q : Int64 → St → Prop} (h : S_TR_greatestDivisor_0 g Q σ y0 y2) : K_TR_greatestDivisor g y0 y2 σ Q := KJ.of (show plainName "BallBox$Trial" = true by decide) (Nat.le_of_ble_eq_true rfl) h
theorem d_TR_winningWay_0 : decode c_TR_winningWay 0 = .ok (.aload_n 1, 1) := by decide +kernel
theorem d_TR_winningWay_1 : decode c_TR_winningWay 1 = .ok (.getfield 15, 3) := by decide +kernel
theorem d_TR_winningWay_4 : decode c_TR_winningWay 4 = .ok (.ifCond .ne 5, 3) := by decide +kernel
theorem d_TR_winningWay_7 : decode c_TR_winningWay 7 = .ok (.iconst (-1), 1) := by decide +kernel
theorem d_TR_winningWay_8 : decode c_TR_winningWay 8 = .ok (.ireturn, 1) := by decide +kernel
theorem d_TR_winningWay_9 : decode c_TR_winningWay 9 = .ok (.iload_n 2, 1) := by decide +kernel
theorem d_TR_winningWay_10 : decode c_TR_winningWay 10 = .ok (.ifCond .le 10, 3) := by decide +kernel
theorem d_TR_winningWay_13 : decode c_TR_winningWay 13 = .ok (.aload_n 1, 1) := by decide +kernel
theorem d_TR_winningWay_14 : decode c_TR_winningWay 14 = .ok (.invokevirtual 68, 3) := by decide +kernel
theorem d_TR_winningWay_17 : decode c_TR_winningWay 17 = .ok (.ifCond .eq 6, 3) := by decide +kernel
theorem d_TR_winningWay_20 : decode c_TR_winningWay 20 = .ok (.bipush (-2), 2) := by decide +kernel
theorem d_TR_winningWay_22 : decode c_TR_winningWay 22 = .ok (.ireturn, 1) := by decide +kernel
theorem d_TR_winningWay_23 : decode c_TR_winningWay 23 = .ok (.iconst 0, 1) := by decide +kernel
theorem d_TR_winningWay_24 : decode c_TR_winningWay 24 = .ok (.istore_n 3, 1) := by decide +kernel
theorem d_TR_winningWay_25 : decode c_TR_winningWay 25 = .ok (.iload_n 3, 1) := by decide +kernel
theorem d_TR_winningWay_26 : decode c_TR_winningWay 26 = .ok (.iconst 4, 1) := by decide +kernel
theorem d_TR_winningWay_27 : decode c_TR_winningWay 27 = .ok (.if_icmp .ge 40, 3) := by decide +kernel
theorem d_TR_winningWay_30 : decode c_TR_winningWay 30 = .ok (.aload_n 0, 1) := by decide +kernel
theorem d_TR_winningWay_31 : decode c_TR_winningWay 31 = .ok (.getfield 9, 3) := by decide +kernel
theorem d_TR_winningWay_34 : decode c_TR_winningWay 34 = .ok (.aload_n 1, 1) := by decide +kernel
theorem d_TR_winningWay_35 : decode c_TR_winningWay 35 = .ok (.aload_n 1, 1) := by decide +kernel
theorem d_TR_winningWay_36 : decode c_TR_winningWay 36 = .ok (.getfield 15, 3) := by decide +kernel
theorem d_TR_winningWay_39 : decode c_TR_winningWay 39 = .ok (.iload_n 3, 1) := by decide +kernel
theorem d_TR_winningWay_40 : decode c_TR_winningWay 40 = .ok (.invokevirtual 39, 3) := by decide +kernel
theorem d_TR_winningWay_43 : decode c_TR_winningWay 43 = .ok (.istore 4, 2) := by decide +kernel
theorem d_TR_winningWay_45 : decode c_TR_winningWay 45 = .ok (.aload_n 0, 1) := by decide +kernel
theorem d_TR_winningWay_46 : decode c_TR_winningWay 46 = .ok (.aload_n 1, 1) := by decide +kernel
theorem d_TR_winningWay_47 : decode c_TR_winningWay 47 = .ok (.iload 4, 2) := by decide +kernel
theorem d_TR_winningWay_49 : decode c_TR_winningWay 49 = .ok (.iload_n 2, 1) := by decide +kernel
theorem d_TR_winningWay_50 : decode c_TR_winningWay 50 = .ok (.iconst 1, 1) := by decide +kernel
theorem d_TR_winningWay_51 : decode c_TR_winningWay 51 = .ok (.isub, 1) := by decide +kernel
theorem d_TR_winningWay_52 : decode c_TR_winningWay 52 = .ok (.iconst 0, 1) := by decide +kernel
theorem d_TR_winningWay_53 : decode c_TR_winningWay 53 = .ok (.invokevirtual 72, 3) := by decide +kernel
theorem d_TR_winningWay_56 : decode c_TR_winningWay 56 = .ok (.ifCond .eq 5, 3) := by decide +kernel
theorem d_TR_winningWay_59 : decode c_TR_winningWay 59 = .ok (.iload_n 3, 1) := by decide +kernel
theorem d_TR_winningWay_60 : decode c_TR_winningWay 60 = .ok (.ireturn, 1) := by decide +kernel
theorem d_TR_winningWay_61 : decode c_TR_winningWay 61 = .ok (.iinc 3 1, 3) := by decide +kernel
theorem d_TR_winningWay_64 : decode c_TR_winningWay 64 = .ok (.goto (-39), 3) := by decide +kernel
theorem d_TR_winningWay_67 : decode c_TR_winningWay 67 = .ok (.bipush (-2), 2) := by decide +kernel
theorem d_TR_winningWay_69 : decode c_TR_winningWay 69 = .ok (.ireturn, 1) := by decide +kernel
def S_TR_winningWay_0 (g : Gx) (Q : Int32 → St → Prop) (σ : St) (t1 : Nat) (x2 : Int32) : Prop := Ax g m_TR_winningWay 0 0 (ZI g Q) SH σ 0 0 0 [(0, .ref (gB g + 82)), (1, .ref (gB g + t1)), (2, .int x2)] []
def S_TR_winningWay_25 (g : Gx) (Q : Int32 → St → Prop) (σ : St) (t1 : Nat) (x2 : Int32) (x3 : Int32) : Prop := Ax g m_TR_winningWay 0 0 (ZI g Q) SH σ 0 0 25 [(0, .ref (gB g + 82)), (1, .ref (gB g + t1)), (2, .int x2), (3, .int x3)] []
theorem sg_TR_winningWay_0 {g : Gx} {Q : Int32 → St → Prop} {σ : St} {t1 : Nat} {x2 : Int32} (ht1 : isSA t1)
    (h : (¬ (fi σ t1 5) = 0 → (x2 ≤ 0 → Q (-2 : Int32) σ) ∧ (¬ x2 ≤ 0 → K_SA_isHopeless g t1 σ (fun (r2 : Int32) (s1 : St) => (r2 = 0 → S_TR_winningWay_25 g Q s1 t1 x2 (0 : Int32)) ∧ (¬ r2 = 0 → Q (-2 : Int32) s1)))) ∧ ((fi σ t1 5) = 0 → Q (-1 : Int32) σ)) : S_TR_winningWay_0 g Q σ t1 x2 := by
  show Ax g m_TR_winningWay 0 0 (ZI g Q) SH σ 0 0 0 [(0, .ref (gB g + 82)), (1, .ref (gB g + t1)), (2, .int x2)] []
  refine a_aload_n (pc := 0) 1 rfl rfl d_TR_winningWay_0 ?_
  refine a_getI (pc := 1) fg_TR_15 (sa0 ht1) rfl d_TR_winningWay_1 ?_
  refine a_if_ne (pc := 4) 9 (by decide) d_TR_winningWay_4 ⟨fun c0 => ?_, fun c0 => ?_⟩
  · replace h := h.1 c0
    refine a_iload_n (pc := 9) 2 rfl rfl d_TR_winningWay_9 ?_
    refine a_if_le (pc := 10) 20 (by decide) d_TR_winningWay_10 ⟨fun c0 => ?_, fun c0 => ?_⟩
    · replace h := h.1 c0
      refine a_bipush (pc := 20) (-2 : Int32) (by decide) d_TR_winningWay_20 ?_
      exact b_iret (pc := 22) rfl d_TR_winningWay_22 h
    · replace h := h.2 c0
      refine a_aload_n (pc := 13) 1 rfl rfl d_TR_winningWay_13 ?_
      refine a_callV (pc := 14) (M' := m_SA_isHopeless) (As := []) (st := []) (mc' := 0) (ms' := 0) lk_TR_68 rfl (sa0 ht1) rfl (by decide) (by decide) rfl (Nat.le_of_ble_eq_true rfl) (Nat.le_refl 0) (Nat.le_refl 0) d_TR_winningWay_14 h ?_
      rintro _ _ s1 ⟨r2, rfl, rfl, h⟩ -
      show Ax g m_TR_winningWay 0 0 (ZI g Q) SH s1 0 0 17 [(0, .ref (gB g + 82)), (1, .ref (gB g + t1)), (2, .int x2)] [.int r2]
      refine a_if_eq (pc := 17) 23 (by decide) d_TR_winningWay_17 ⟨fun c0 => ?_, fun c0 => ?_⟩
      · replace h := h.1 c0
        refine a_iconst (pc := 23) (0 : Int32) (by decide) d_TR_winningWay_23 ?_
        refine a_istore_n (pc := 24) (lv' := [(3, .int (0 : Int32)), (0, .ref (gB g + 82)), (1, .ref (gB g + t1)), (2, .int x2)]) rfl (Nat.le_of_ble_eq_true rfl) rfl d_TR_winningWay_24 ?_
        refine a_sub (pc := 25) [1, 2, 3, 0] rfl ?_
        exact h
      · replace h := h.2 c0
        refine a_bipush (pc := 20) (-2 : Int32) (by decide) d_TR_winningWay_20 ?_
        exact b_iret (pc := 22) rfl d_TR_winningWay_22 h
  · replace h := h.2 c0
    refine a_iconst (pc := 7) (-1 : Int32) (by decide) d_TR_winningWay_7 ?_
    exact b_iret (pc := 8) rfl d_TR_winningWay_8 h
theorem sg_TR_winningWay_25 {g : Gx} {Q : Int32 → St → Prop} {σ : St} {t1 : Nat} {x2 : Int32} {x3 : Int32} (ht1 : isSA t1)
    (h : ((4 : Int32) ≤ x3 → Q (-2 : Int32) σ) ∧ (¬ (4 : Int32) ≤ x3 → K_RO_rolled g t1 (fi σ t1 5) x3 σ (fun (r2 : Int32) (s1 : St) => K_TR_comesHome g 8 t1 r2 (x2 - (1 : Int32)) (0 : Int32) s1 (fun (r4 : Int32) (s3 : St) => (r4 = 0 → ∀ u5 : Int32, u5 = x3 + (1 : Int32) → S_TR_winningWay_25 g Q s3 t1 x2 u5) ∧ (¬ r4 = 0 → Q x3 s3))))) : S_TR_winningWay_25 g Q σ t1 x2 x3 := by
  show Ax g m_TR_winningWay 0 0 (ZI g Q) SH σ 0 0 25 [(0, .ref (gB g + 82)), (1, .ref (gB g + t1)), (2, .int x2), (3, .int x3)] []
  refine a_iload_n (pc := 25) 3 rfl rfl d_TR_winningWay_25 ?_
  refine a_iconst (pc := 26) (4 : Int32) (by decide) d_TR_winningWay_26 ?_
  refine a_icmp_ge (pc := 27) 67 (by decide) d_TR_winningWay_27 ⟨fun c0 => ?_, fun c0 => ?_⟩
  · replace h := h.1 c0
    refine a_bipush (pc := 67) (-2 : Int32) (by decide) d_TR_winningWay_67 ?_
    exact b_iret (pc := 69) rfl d_TR_winningWay_69 h
  · replace h := h.2 c0
    refine a_aload_n (pc := 30) 0 rfl rfl d_TR_winningWay_30 ?_
    refine a_getR (pc := 31) fg_TR_9 sx_82 rfl d_TR_winningWay_31 ?_
    refine a_aload_n (pc := 34) 1 rfl rfl d_TR_winningWay_34 ?_
    refine a_aload_n (pc := 35) 1 rfl rfl d_TR_winningWay_35 ?_
    refine a_getI (pc := 36) fg_TR_15 (sa0 ht1) rfl d_TR_winningWay_36 ?_
    refine a_iload_n (pc := 39) 3 rfl rfl d_TR_winningWay_39 ?_
    refine a_callV (pc := 40) (M' := m_RO_rolled) (As := [.ref (gB g + t1), .int (fi σ t1 5), .int x3]) (st := []) (mc' := 0) (ms' := 0) lk_TR_39 rfl sx_17 rfl (by decide) (by decide) rfl (Nat.le_of_ble_eq_true rfl) (Nat.le_refl 0) (Nat.le_refl 0) d_TR_winningWay_40 h ?_
    rintro _ _ s1 ⟨r2, rfl, rfl, h⟩ -
    show Ax g m_TR_winningWay 0 0 (ZI g Q) SH s1 0 0 43 [(0, .ref (gB g + 82)), (1, .ref (gB g + t1)), (2, .int x2), (3, .int x3)] [.int r2]
    refine a_istore (pc := 43) (lv' := [(4, .int r2), (0, .ref (gB g + 82)), (1, .ref (gB g + t1)), (2, .int x2), (3, .int x3)]) (Nat.le_of_ble_eq_true rfl) rfl d_TR_winningWay_43 ?_
    refine a_aload_n (pc := 45) 1 rfl rfl d_TR_winningWay_45 ?_
    refine a_aload_n (pc := 46) 2 rfl rfl d_TR_winningWay_46 ?_
    refine a_iload (pc := 47) 0 rfl d_TR_winningWay_47 ?_
    refine a_iload_n (pc := 49) 3 rfl rfl d_TR_winningWay_49 ?_
    refine a_iconst (pc := 50) (1 : Int32) (by decide) d_TR_winningWay_50 ?_
    refine a_isub (pc := 51) d_TR_winningWay_51 ?_
    refine a_iconst (pc := 52) (0 : Int32) (by decide) d_TR_winningWay_52 ?_
    refine a_callV (pc := 53) (M' := (m_TR_comesHome 8)) (As := [.ref (gB g + t1), .int r2, .int (x2 - (1 : Int32)), .int (0 : Int32)]) (st := []) (mc' := 0) (ms' := 0) lk_TR_72 rfl sx_82 rfl (by decide) (by decide) rfl (Nat.le_of_ble_eq_true rfl) (Nat.le_refl 0) (Nat.le_refl 0) d_TR_winningWay_53 h ?_
    rintro _ _ s3 ⟨r4, rfl, rfl, h⟩ -
    show Ax g m_TR_winningWay 0 0 (ZI g Q) SH s3 0 0 56 [(4, .int r2), (0, .ref (gB g + 82)), (1, .ref (gB g + t1)), (2, .int x2), (3, .int x3)] [.int r4]
    refine a_if_eq (pc := 56) 61 (by decide) d_TR_winningWay_56 ⟨fun c0 => ?_, fun c0 => ?_⟩
    · replace h := h.1 c0
      obtain ⟨u5, hu5⟩ : ∃ y : Int32, y = x3 + (1 : Int32) := ⟨_, rfl⟩
      replace h := h u5 hu5
      refine a_iinc (pc := 61) (v := u5) (lv' := [(3, .int u5), (4, .int r2), (0, .ref (gB g + 82)), (1, .ref (gB g + t1)), (2, .int x2)]) 4 rfl (by rw [hu5]; rfl) (Nat.le_of_ble_eq_true rfl) rfl d_TR_winningWay_61 ?_
      refine a_goto (pc := 64) 25 (by decide) d_TR_winningWay_64 ?_
      refine a_sub (pc := 25) [2, 3, 4, 0] rfl ?_
      exact h
    · replace h := h.2 c0
      refine a_iload_n (pc := 59) 4 rfl rfl d_TR_winningWay_59 ?_
      exact b_iret (pc := 60) rfl d_TR_winningWay_60 h
theorem ko_TR_winningWay {g : Gx}  {t1 : Nat} {x2 : Int32} {σ : St} {Q : Int32 → St → Prop} (h : S_TR_winningWay_0 g Q σ t1 x2) : K_TR_winningWay g t1 x2 σ Q := KI.of (show plainName "BallBox$Trial" = true by decide) (Nat.le_of_ble_eq_true rfl) h
theorem d_TR_comesHome_0 : decode c_TR_comesHome 0 = .ok (.iload_n 2, 1) := by decide +kernel
theorem d_TR_comesHome_1 : decode c_TR_comesHome 1 = .ok (.ifCond .ne 5, 3) := by decide +kernel
theorem d_TR_comesHome_4 : decode c_TR_comesHome 4 = .ok (.iconst 1, 1) := by decide +kernel
theorem d_TR_comesHome_5 : decode c_TR_comesHome 5 = .ok (.ireturn, 1) := by decide +kernel
theorem d_TR_comesHome_6 : decode c_TR_comesHome 6 = .ok (.iload_n 3, 1) := by decide +kernel
theorem d_TR_comesHome_7 : decode c_TR_comesHome 7 = .ok (.ifCond .le 16, 3) := by decide +kernel
theorem d_TR_comesHome_10 : decode c_TR_comesHome 10 = .ok (.iload_n 3, 1) := by decide +kernel
theorem d_TR_comesHome_11 : decode c_TR_comesHome 11 = .ok (.bipush 8, 2) := by decide +kernel
theorem d_TR_comesHome_13 : decode c_TR_comesHome 13 = .ok (.if_icmp .gt 10, 3) := by decide +kernel
theorem d_TR_comesHome_16 : decode c_TR_comesHome 16 = .ok (.iload_n 2, 1) := by decide +kernel
theorem d_TR_comesHome_17 : decode c_TR_comesHome 17 = .ok (.invokestatic 76, 3) := by decide +kernel
theorem d_TR_comesHome_20 : decode c_TR_comesHome 20 = .ok (.ifCond .eq 5, 3) := by decide +kernel
theorem d_TR_comesHome_23 : decode c_TR_comesHome 23 = .ok (.iconst 0, 1) := by decide +kernel
theorem d_TR_comesHome_24 : decode c_TR_comesHome 24 = .ok (.ireturn, 1) := by decide +kernel
theorem d_TR_comesHome_25 : decode c_TR_comesHome 25 = .ok (.iconst 0, 1) := by decide +kernel
theorem d_TR_comesHome_26 : decode c_TR_comesHome 26 = .ok (.istore 5, 2) := by decide +kernel
theorem d_TR_comesHome_28 : decode c_TR_comesHome 28 = .ok (.iload 5, 2) := by decide +kernel
theorem d_TR_comesHome_30 : decode c_TR_comesHome 30 = .ok (.iconst 4, 1) := by decide +kernel
theorem d_TR_comesHome_31 : decode c_TR_comesHome 31 = .ok (.if_icmp .ge 50, 3) := by decide +kernel
theorem d_TR_comesHome_34 : decode c_TR_comesHome 34 = .ok (.aload_n 0, 1) := by decide +kernel
theorem d_TR_comesHome_35 : decode c_TR_comesHome 35 = .ok (.getfield 9, 3) := by decide +kernel
theorem d_TR_comesHome_38 : decode c_TR_comesHome 38 = .ok (.aload_n 1, 1) := by decide +kernel
theorem d_TR_comesHome_39 : decode c_TR_comesHome 39 = .ok (.iload_n 2, 1) := by decide +kernel
theorem d_TR_comesHome_40 : decode c_TR_comesHome 40 = .ok (.iload 5, 2) := by decide +kernel
theorem d_TR_comesHome_42 : decode c_TR_comesHome 42 = .ok (.invokevirtual 39, 3) := by decide +kernel
theorem d_TR_comesHome_45 : decode c_TR_comesHome 45 = .ok (.istore 6, 2) := by decide +kernel
theorem d_TR_comesHome_47 : decode c_TR_comesHome 47 = .ok (.aload_n 0, 1) := by decide +kernel
theorem d_TR_comesHome_48 : decode c_TR_comesHome 48 = .ok (.aload_n 1, 1) := by decide +kernel
theorem d_TR_comesHome_49 : decode c_TR_comesHome 49 = .ok (.iload 6, 2) := by decide +kernel
theorem d_TR_comesHome_51 : decode c_TR_comesHome 51 = .ok (.iload_n 3, 1) := by decide +kernel
theorem d_TR_comesHome_52 : decode c_TR_comesHome 52 = .ok (.iconst 1, 1) := by decide +kernel
theorem d_TR_comesHome_53 : decode c_TR_comesHome 53 = .ok (.isub, 1) := by decide +kernel
theorem d_TR_comesHome_54 : decode c_TR_comesHome 54 = .ok (.iload 4, 2) := by decide +kernel
theorem d_TR_comesHome_56 : decode c_TR_comesHome 56 = .ok (.ifCond .ne 7, 3) := by decide +kernel
theorem d_TR_comesHome_59 : decode c_TR_comesHome 59 = .ok (.iconst 1, 1) := by decide +kernel
theorem d_TR_comesHome_60 : decode c_TR_comesHome 60 = .ok (.goto 4, 3) := by decide +kernel
theorem d_TR_comesHome_63 : decode c_TR_comesHome 63 = .ok (.iconst 0, 1) := by decide +kernel
theorem d_TR_comesHome_64 : decode c_TR_comesHome 64 = .ok (.invokevirtual 72, 3) := by decide +kernel
theorem d_TR_comesHome_67 : decode c_TR_comesHome 67 = .ok (.iload 4, 2) := by decide +kernel
theorem d_TR_comesHome_69 : decode c_TR_comesHome 69 = .ok (.if_icmp .ne 6, 3) := by decide +kernel
theorem d_TR_comesHome_72 : decode c_TR_comesHome 72 = .ok (.iload 4, 2) := by decide +kernel
theorem d_TR_comesHome_74 : decode c_TR_comesHome 74 = .ok (.ireturn, 1) := by decide +kernel
theorem d_TR_comesHome_75 : decode c_TR_comesHome 75 = .ok (.iinc 5 1, 3) := by decide +kernel
theorem d_TR_comesHome_78 : decode c_TR_comesHome 78 = .ok (.goto (-50), 3) := by decide +kernel
theorem d_TR_comesHome_81 : decode c_TR_comesHome 81 = .ok (.iload 4, 2) := by decide +kernel
theorem d_TR_comesHome_83 : decode c_TR_comesHome 83 = .ok (.ifCond .ne 7, 3) := by decide +kernel
theorem d_TR_comesHome_86 : decode c_TR_comesHome 86 = .ok (.iconst 1, 1) := by decide +kernel
theorem d_TR_comesHome_87 : decode c_TR_comesHome 87 = .ok (.goto 4, 3) := by decide +kernel
theorem d_TR_comesHome_90 : decode c_TR_comesHome 90 = .ok (.iconst 0, 1) := by decide +kernel
theorem d_TR_comesHome_91 : decode c_TR_comesHome 91 = .ok (.ireturn, 1) := by decide +kernel
def S_TR_comesHome_0 (g : Gx) (q : Nat) (Q : Int32 → St → Prop) (σ : St) (t1 : Nat) (x2 : Int32) (x3 : Int32) (x4 : Int32) : Prop := Ax g (m_TR_comesHome q) 0 0 (ZI g Q) SH σ 0 0 0 [(0, .ref (gB g + 82)), (1, .ref (gB g + t1)), (2, .int x2), (3, .int x3), (4, .int x4)] []
def S_TR_comesHome_28 (g : Gx) (q : Nat) (Q : Int32 → St → Prop) (σ : St) (t1 : Nat) (x2 : Int32) (x3 : Int32) (x4 : Int32) (x5 : Int32) : Prop := Ax g (m_TR_comesHome q) 0 0 (ZI g Q) SH σ 0 0 28 [(0, .ref (gB g + 82)), (1, .ref (gB g + t1)), (2, .int x2), (3, .int x3), (4, .int x4), (5, .int x5)] []
theorem sg_TR_comesHome_0 {g : Gx} {q : Nat} {Q : Int32 → St → Prop} {σ : St} {t1 : Nat} {x2 : Int32} {x3 : Int32} {x4 : Int32} (ht1 : isSA t1)
    (h : (¬ x2 = 0 → (x3 ≤ 0 → Q (0 : Int32) σ) ∧ (¬ x3 ≤ 0 → ((8 : Int32) < x3 → Q (0 : Int32) σ) ∧ (¬ (8 : Int32) < x3 → K_SA_hasLost g x2 σ (fun (r2 : Int32) (s1 : St) => (r2 = 0 → S_TR_comesHome_28 g q Q s1 t1 x2 x3 x4 (0 : Int32)) ∧ (¬ r2 = 0 → Q (0 : Int32) s1))))) ∧ (x2 = 0 → Q (1 : Int32) σ)) : S_TR_comesHome_0 g q Q σ t1 x2 x3 x4 := by
  show Ax g (m_TR_comesHome q) 0 0 (ZI g Q) SH σ 0 0 0 [(0, .ref (gB g + 82)), (1, .ref (gB g + t1)), (2, .int x2), (3, .int x3), (4, .int x4)] []
  refine a_iload_n (pc := 0) 2 rfl rfl d_TR_comesHome_0 ?_
  refine a_if_ne (pc := 1) 6 (by decide) d_TR_comesHome_1 ⟨fun c0 => ?_, fun c0 => ?_⟩
  · replace h := h.1 c0
    refine a_iload_n (pc := 6) 3 rfl rfl d_TR_comesHome_6 ?_
    refine a_if_le (pc := 7) 23 (by decide) d_TR_comesHome_7 ⟨fun c0 => ?_, fun c0 => ?_⟩
    · replace h := h.1 c0
      refine a_iconst (pc := 23) (0 : Int32) (by decide) d_TR_comesHome_23 ?_
      exact b_zret (pc := 24) rfl (Or.inl rfl) d_TR_comesHome_24 h
    · replace h := h.2 c0
      refine a_iload_n (pc := 10) 3 rfl rfl d_TR_comesHome_10 ?_
      refine a_bipush (pc := 11) (8 : Int32) (by decide) d_TR_comesHome_11 ?_
      refine a_icmp_gt (pc := 13) 23 (by decide) d_TR_comesHome_13 ⟨fun c0 => ?_, fun c0 => ?_⟩
      · replace h := h.1 c0
        refine a_iconst (pc := 23) (0 : Int32) (by decide) d_TR_comesHome_23 ?_
        exact b_zret (pc := 24) rfl (Or.inl rfl) d_TR_comesHome_24 h
      · replace h := h.2 c0
        refine a_iload_n (pc := 16) 2 rfl rfl d_TR_comesHome_16 ?_
        refine a_callS (pc := 17) (M' := m_SA_hasLost) (As := [.int x2]) (st := []) (mc' := 0) (ms' := 0) lk_TR_76 rfl (by dsimp only; omega) (by dsimp only; omega) rfl (Nat.le_of_ble_eq_true rfl) (Nat.le_refl 0) (Nat.le_refl 0) d_TR_comesHome_17 h ?_
        rintro _ _ s1 ⟨r2, rfl, rfl, h⟩ -
        show Ax g (m_TR_comesHome q) 0 0 (ZI g Q) SH s1 0 0 20 [(0, .ref (gB g + 82)), (1, .ref (gB g + t1)), (2, .int x2), (3, .int x3), (4, .int x4)] [.int r2]
        refine a_if_eq (pc := 20) 25 (by decide) d_TR_comesHome_20 ⟨fun c0 => ?_, fun c0 => ?_⟩
        · replace h := h.1 c0
          refine a_iconst (pc := 25) (0 : Int32) (by decide) d_TR_comesHome_25 ?_
          refine a_istore (pc := 26) (lv' := [(5, .int (0 : Int32)), (0, .ref (gB g + 82)), (1, .ref (gB g + t1)), (2, .int x2), (3, .int x3), (4, .int x4)]) (Nat.le_of_ble_eq_true rfl) rfl d_TR_comesHome_26 ?_
          refine a_sub (pc := 28) [1, 2, 3, 4, 5, 0] rfl ?_
          exact h
        · replace h := h.2 c0
          refine a_iconst (pc := 23) (0 : Int32) (by decide) d_TR_comesHome_23 ?_
          exact b_zret (pc := 24) rfl (Or.inl rfl) d_TR_comesHome_24 h
  · replace h := h.2 c0
    refine a_iconst (pc := 4) (1 : Int32) (by decide) d_TR_comesHome_4 ?_
    exact b_zret (pc := 5) rfl (Or.inr rfl) d_TR_comesHome_5 h
theorem sg_TR_comesHome_28 {g : Gx} {q : Nat} {Q : Int32 → St → Prop} {σ : St} {t1 : Nat} {x2 : Int32} {x3 : Int32} {x4 : Int32} {x5 : Int32} (ht1 : isSA t1)
    (h : ((4 : Int32) ≤ x5 → (¬ x4 = 0 → Q (0 : Int32) σ) ∧ (x4 = 0 → Q (1 : Int32) σ)) ∧ (¬ (4 : Int32) ≤ x5 → K_RO_rolled g t1 x2 x5 σ (fun (r2 : Int32) (s1 : St) => (¬ x4 = 0 → ∃ q0 : Nat, q = q0 + 1 ∧ (K_TR_comesHome g q0 t1 r2 (x3 - (1 : Int32)) (0 : Int32) s1 (fun (r4 : Int32) (s3 : St) => (¬ r4 = x4 → ∀ u5 : Int32, u5 = x5 + (1 : Int32) → S_TR_comesHome_28 g q Q s3 t1 x2 x3 x4 u5) ∧ (r4 = x4 → (x4 = 0 ∨ x4 = 1) ∧ Q x4 s3)))) ∧ (x4 = 0 → ∃ q0 : Nat, q = q0 + 1 ∧ (K_TR_comesHome g q0 t1 r2 (x3 - (1 : Int32)) (1 : Int32) s1 (fun (r7 : Int32) (s6 : St) => (¬ r7 = x4 → ∀ u8 : Int32, u8 = x5 + (1 : Int32) → S_TR_comesHome_28 g q Q s6 t1 x2 x3 x4 u8) ∧ (r7 = x4 → (x4 = 0 ∨ x4 = 1) ∧ Q x4 s6))))))) : S_TR_comesHome_28 g q Q σ t1 x2 x3 x4 x5 := by
  show Ax g (m_TR_comesHome q) 0 0 (ZI g Q) SH σ 0 0 28 [(0, .ref (gB g + 82)), (1, .ref (gB g + t1)), (2, .int x2), (3, .int x3), (4, .int x4), (5, .int x5)] []
  refine a_iload (pc := 28) 5 rfl d_TR_comesHome_28 ?_
  refine a_iconst (pc := 30) (4 : Int32) (by decide) d_TR_comesHome_30 ?_
  refine a_icmp_ge (pc := 31) 81 (by decide) d_TR_comesHome_31 ⟨fun c0 => ?_, fun c0 => ?_⟩
  · replace h := h.1 c0
    refine a_iload (pc := 81) 4 rfl d_TR_comesHome_81 ?_
    refine a_if_ne (pc := 83) 90 (by decide) d_TR_comesHome_83 ⟨fun c0 => ?_, fun c0 => ?_⟩
    · replace h := h.1 c0
      refine a_iconst (pc := 90) (0 : Int32) (by decide) d_TR_comesHome_90 ?_
      exact b_zret (pc := 91) rfl (Or.inl rfl) d_TR_comesHome_91 h
    · replace h := h.2 c0
      refine a_iconst (pc := 86) (1 : Int32) (by decide) d_TR_comesHome_86 ?_
      refine a_goto (pc := 87) 91 (by decide) d_TR_comesHome_87 ?_
      exact b_zret (pc := 91) rfl (Or.inr rfl) d_TR_comesHome_91 h
  · replace h := h.2 c0
    refine a_aload_n (pc := 34) 0 rfl rfl d_TR_comesHome_34 ?_
    refine a_getR (pc := 35) fg_TR_9 sx_82 rfl d_TR_comesHome_35 ?_
    refine a_aload_n (pc := 38) 1 rfl rfl d_TR_comesHome_38 ?_
    refine a_iload_n (pc := 39) 2 rfl rfl d_TR_comesHome_39 ?_
    refine a_iload (pc := 40) 5 rfl d_TR_comesHome_40 ?_
    refine a_callV (pc := 42) (M' := m_RO_rolled) (As := [.ref (gB g + t1), .int x2, .int x5]) (st := []) (mc' := 0) (ms' := 0) lk_TR_39 rfl sx_17 rfl (by dsimp only; omega) (by dsimp only; omega) rfl (Nat.le_of_ble_eq_true rfl) (Nat.le_refl 0) (Nat.le_refl 0) d_TR_comesHome_42 h ?_
    rintro _ _ s1 ⟨r2, rfl, rfl, h⟩ -
    show Ax g (m_TR_comesHome q) 0 0 (ZI g Q) SH s1 0 0 45 [(0, .ref (gB g + 82)), (1, .ref (gB g + t1)), (2, .int x2), (3, .int x3), (4, .int x4), (5, .int x5)] [.int r2]
    refine a_istore (pc := 45) (lv' := [(6, .int r2), (0, .ref (gB g + 82)), (1, .ref (gB g + t1)), (2, .int x2), (3, .int x3), (4, .int x4), (5, .int x5)]) (Nat.le_of_ble_eq_true rfl) rfl d_TR_comesHome_45 ?_
    refine a_aload_n (pc := 47) 1 rfl rfl d_TR_comesHome_47 ?_
    refine a_aload_n (pc := 48) 2 rfl rfl d_TR_comesHome_48 ?_
    refine a_iload (pc := 49) 0 rfl d_TR_comesHome_49 ?_
    refine a_iload_n (pc := 51) 4 rfl rfl d_TR_comesHome_51 ?_
    refine a_iconst (pc := 52) (1 : Int32) (by decide) d_TR_comesHome_52 ?_
    refine a_isub (pc := 53) d_TR_comesHome_53 ?_
    refine a_iload (pc := 54) 5 rfl d_TR_comesHome_54 ?_
    refine a_if_ne (pc := 56) 63 (by decide) d_TR_comesHome_56 ⟨fun c0 => ?_, fun c0 => ?_⟩
    · replace h := h.1 c0
      refine a_iconst (pc := 63) (0 : Int32) (by decide) d_TR_comesHome_63 ?_
      obtain ⟨q0, hq0, h⟩ := h
      subst hq0
      refine a_callV (pc := 64) (M' := (m_TR_comesHome q0)) (As := [.ref (gB g + t1), .int r2, .int (x3 - (1 : Int32)), .int (0 : Int32)]) (st := []) (mc' := 0) (ms' := 0) lk_TR_72 rfl sx_82 rfl (by dsimp only; omega) (by dsimp only; omega) rfl (Nat.le_of_ble_eq_true rfl) (Nat.le_refl 0) (Nat.le_refl 0) d_TR_comesHome_64 h ?_
      rintro _ _ s3 ⟨r4, rfl, rfl, h⟩ -
      show Ax g (m_TR_comesHome (q0 + 1)) 0 0 (ZI g Q) SH s3 0 0 67 [(6, .int r2), (0, .ref (gB g + 82)), (1, .ref (gB g + t1)), (2, .int x2), (3, .int x3), (4, .int x4), (5, .int x5)] [.int r4]
      refine a_iload (pc := 67) 5 rfl d_TR_comesHome_67 ?_
      refine a_icmp_ne (pc := 69) 75 (by decide) d_TR_comesHome_69 ⟨fun c0 => ?_, fun c0 => ?_⟩
      · replace h := h.1 c0
        obtain ⟨u5, hu5⟩ : ∃ y : Int32, y = x5 + (1 : Int32) := ⟨_, rfl⟩
        replace h := h u5 hu5
        refine a_iinc (pc := 75) (v := u5) (lv' := [(5, .int u5), (6, .int r2), (0, .ref (gB g + 82)), (1, .ref (gB g + t1)), (2, .int x2), (3, .int x3), (4, .int x4)]) 6 rfl (by rw [hu5]; rfl) (Nat.le_of_ble_eq_true rfl) rfl d_TR_comesHome_75 ?_
        refine a_goto (pc := 78) 28 (by decide) d_TR_comesHome_78 ?_
        refine a_sub (pc := 28) [2, 3, 4, 5, 6, 0] rfl ?_
        exact h
      · replace h := h.2 c0
        refine a_iload (pc := 72) 5 rfl d_TR_comesHome_72 ?_
        exact b_zret (pc := 74) rfl h.1 d_TR_comesHome_74 h.2
    · replace h := h.2 c0
      refine a_iconst (pc := 59) (1 : Int32) (by decide) d_TR_comesHome_59 ?_
      refine a_goto (pc := 60) 64 (by decide) d_TR_comesHome_60 ?_
      obtain ⟨q0, hq0, h⟩ := h
      subst hq0
      refine a_callV (pc := 64) (M' := (m_TR_comesHome q0)) (As := [.ref (gB g + t1), .int r2, .int (x3 - (1 : Int32)), .int (1 : Int32)]) (st := []) (mc' := 0) (ms' := 0) lk_TR_72 rfl sx_82 rfl (by dsimp only; omega) (by dsimp only; omega) rfl (Nat.le_of_ble_eq_true rfl) (Nat.le_refl 0) (Nat.le_refl 0) d_TR_comesHome_64 h ?_
      rintro _ _ s6 ⟨r7, rfl, rfl, h⟩ -
      show Ax g (m_TR_comesHome (q0 + 1)) 0 0 (ZI g Q) SH s6 0 0 67 [(6, .int r2), (0, .ref (gB g + 82)), (1, .ref (gB g + t1)), (2, .int x2), (3, .int x3), (4, .int x4), (5, .int x5)] [.int r7]
      refine a_iload (pc := 67) 5 rfl d_TR_comesHome_67 ?_
      refine a_icmp_ne (pc := 69) 75 (by decide) d_TR_comesHome_69 ⟨fun c0 => ?_, fun c0 => ?_⟩
      · replace h := h.1 c0
        obtain ⟨u8, hu8⟩ : ∃ y : Int32, y = x5 + (1 : Int32) := ⟨_, rfl⟩
        replace h := h u8 hu8
        refine a_iinc (pc := 75) (v := u8) (lv' := [(5, .int u8), (6, .int r2), (0, .ref (gB g + 82)), (1, .ref (gB g + t1)), (2, .int x2), (3, .int x3), (4, .int x4)]) 6 rfl (by rw [hu8]; rfl) (Nat.le_of_ble_eq_true rfl) rfl d_TR_comesHome_75 ?_
        refine a_goto (pc := 78) 28 (by decide) d_TR_comesHome_78 ?_
        refine a_sub (pc := 28) [2, 3, 4, 5, 6, 0] rfl ?_
        exact h
      · replace h := h.2 c0
        refine a_iload (pc := 72) 5 rfl d_TR_comesHome_72 ?_
        exact b_zret (pc := 74) rfl h.1 d_TR_comesHome_74 h.2
theorem ko_TR_comesHome {g : Gx} {q : Nat}  {t1 : Nat} {x2 : Int32} {x3 : Int32} {x4 : Int32} {σ : St} {Q : Int32 → St → Prop} (h : S_TR_comesHome_0 g q Q σ t1 x2 x3 x4) : K_TR_comesHome g q t1 x2 x3 x4 σ Q := KI.of (show plainName "BallBox$Trial" = true by decide) (Nat.le_of_ble_eq_true rfl) h
theorem d_TR_shake_0 : decode c_TR_shake 0 = .ok (.aload_n 1, 1) := by decide +kernel
theorem d_TR_shake_1 : decode c_TR_shake 1 = .ok (.getfield 80, 3) := by decide +kernel
theorem d_TR_shake_4 : decode c_TR_shake 4 = .ok (.i2l, 1) := by decide +kernel
theorem d_TR_shake_5 : decode c_TR_shake 5 = .ok (.lstore 4, 2) := by decide +kernel
theorem d_TR_shake_7 : decode c_TR_shake 7 = .ok (.aload_n 0, 1) := by decide +kernel
theorem d_TR_shake_8 : decode c_TR_shake 8 = .ok (.iconst 0, 1) := by decide +kernel
theorem d_TR_shake_9 : decode c_TR_shake 9 = .ok (.putfield 22, 3) := by decide +kernel
theorem d_TR_shake_12 : decode c_TR_shake 12 = .ok (.aload_n 0, 1) := by decide +kernel
theorem d_TR_shake_13 : decode c_TR_shake 13 = .ok (.iconst 0, 1) := by decide +kernel
theorem d_TR_shake_14 : decode c_TR_shake 14 = .ok (.putfield 25, 3) := by decide +kernel
theorem d_TR_shake_17 : decode c_TR_shake 17 = .ok (.aload_n 0, 1) := by decide +kernel
theorem d_TR_shake_18 : decode c_TR_shake 18 = .ok (.iconst 0, 1) := by decide +kernel
theorem d_TR_shake_19 : decode c_TR_shake 19 = .ok (.putfield 83, 3) := by decide +kernel
theorem d_TR_shake_22 : decode c_TR_shake 22 = .ok (.aload_n 0, 1) := by decide +kernel
theorem d_TR_shake_23 : decode c_TR_shake 23 = .ok (.iconst 0, 1) := by decide +kernel
theorem d_TR_shake_24 : decode c_TR_shake 24 = .ok (.putfield 86, 3) := by decide +kernel
theorem d_TR_shake_27 : decode c_TR_shake 27 = .ok (.iconst 0, 1) := by decide +kernel
theorem d_TR_shake_28 : decode c_TR_shake 28 = .ok (.istore 6, 2) := by decide +kernel
theorem d_TR_shake_30 : decode c_TR_shake 30 = .ok (.iload 6, 2) := by decide +kernel
theorem d_TR_shake_32 : decode c_TR_shake 32 = .ok (.iload_n 2, 1) := by decide +kernel
theorem d_TR_shake_33 : decode c_TR_shake 33 = .ok (.if_icmp .ge 103, 3) := by decide +kernel
theorem d_TR_shake_36 : decode c_TR_shake 36 = .ok (.aload_n 0, 1) := by decide +kernel
theorem d_TR_shake_37 : decode c_TR_shake 37 = .ok (.aload_n 1, 1) := by decide +kernel
theorem d_TR_shake_38 : decode c_TR_shake 38 = .ok (.getfield 15, 3) := by decide +kernel
theorem d_TR_shake_41 : decode c_TR_shake 41 = .ok (.putfield 21, 3) := by decide +kernel
theorem d_TR_shake_44 : decode c_TR_shake 44 = .ok (.iconst 0, 1) := by decide +kernel
theorem d_TR_shake_45 : decode c_TR_shake 45 = .ok (.istore 7, 2) := by decide +kernel
theorem d_TR_shake_47 : decode c_TR_shake 47 = .ok (.iload 7, 2) := by decide +kernel
theorem d_TR_shake_49 : decode c_TR_shake 49 = .ok (.iload_n 3, 1) := by decide +kernel
theorem d_TR_shake_50 : decode c_TR_shake 50 = .ok (.if_icmp .ge 41, 3) := by decide +kernel
theorem d_TR_shake_53 : decode c_TR_shake 53 = .ok (.lload 4, 2) := by decide +kernel
theorem d_TR_shake_55 : decode c_TR_shake 55 = .ok (.ldc2_w 89, 3) := by decide +kernel
theorem d_TR_shake_58 : decode c_TR_shake 58 = .ok (.lmul, 1) := by decide +kernel
theorem d_TR_shake_59 : decode c_TR_shake 59 = .ok (.ldc2_w 91, 3) := by decide +kernel
theorem d_TR_shake_62 : decode c_TR_shake 62 = .ok (.ladd, 1) := by decide +kernel
theorem d_TR_shake_63 : decode c_TR_shake 63 = .ok (.ldc2_w 93, 3) := by decide +kernel
theorem d_TR_shake_66 : decode c_TR_shake 66 = .ok (.land, 1) := by decide +kernel
theorem d_TR_shake_67 : decode c_TR_shake 67 = .ok (.lstore 4, 2) := by decide +kernel
theorem d_TR_shake_69 : decode c_TR_shake 69 = .ok (.aload_n 0, 1) := by decide +kernel
theorem d_TR_shake_70 : decode c_TR_shake 70 = .ok (.aload_n 1, 1) := by decide +kernel
theorem d_TR_shake_71 : decode c_TR_shake 71 = .ok (.lload 4, 2) := by decide +kernel
theorem d_TR_shake_73 : decode c_TR_shake 73 = .ok (.ldc2_w 95, 3) := by decide +kernel
theorem d_TR_shake_76 : decode c_TR_shake 76 = .ok (.ldiv, 1) := by decide +kernel
theorem d_TR_shake_77 : decode c_TR_shake 77 = .ok (.ldc2_w 97, 3) := by decide +kernel
theorem d_TR_shake_80 : decode c_TR_shake 80 = .ok (.lrem, 1) := by decide +kernel
theorem d_TR_shake_81 : decode c_TR_shake 81 = .ok (.l2i, 1) := by decide +kernel
theorem d_TR_shake_82 : decode c_TR_shake 82 = .ok (.invokevirtual 35, 3) := by decide +kernel
theorem d_TR_shake_85 : decode c_TR_shake 85 = .ok (.iinc 7 1, 3) := by decide +kernel
theorem d_TR_shake_88 : decode c_TR_shake 88 = .ok (.goto (-41), 3) := by decide +kernel
theorem d_TR_shake_91 : decode c_TR_shake 91 = .ok (.aload_n 0, 1) := by decide +kernel
theorem d_TR_shake_92 : decode c_TR_shake 92 = .ok (.dup, 1) := by decide +kernel
theorem d_TR_shake_93 : decode c_TR_shake 93 = .ok (.getfield 83, 3) := by decide +kernel
theorem d_TR_shake_96 : decode c_TR_shake 96 = .ok (.aload_n 0, 1) := by decide +kernel
theorem d_TR_shake_97 : decode c_TR_shake 97 = .ok (.getfield 21, 3) := by decide +kernel
theorem d_TR_shake_100 : decode c_TR_shake 100 = .ok (.ifCond .ne 7, 3) := by decide +kernel
theorem d_TR_shake_103 : decode c_TR_shake 103 = .ok (.iconst 1, 1) := by decide +kernel
theorem d_TR_shake_104 : decode c_TR_shake 104 = .ok (.goto 4, 3) := by decide +kernel
theorem d_TR_shake_107 : decode c_TR_shake 107 = .ok (.iconst 0, 1) := by decide +kernel
theorem d_TR_shake_108 : decode c_TR_shake 108 = .ok (.iadd, 1) := by decide +kernel
theorem d_TR_shake_109 : decode c_TR_shake 109 = .ok (.putfield 83, 3) := by decide +kernel
theorem d_TR_shake_112 : decode c_TR_shake 112 = .ok (.aload_n 0, 1) := by decide +kernel
theorem d_TR_shake_113 : decode c_TR_shake 113 = .ok (.dup, 1) := by decide +kernel
theorem d_TR_shake_114 : decode c_TR_shake 114 = .ok (.getfield 86, 3) := by decide +kernel
theorem d_TR_shake_117 : decode c_TR_shake 117 = .ok (.aload_n 0, 1) := by decide +kernel
theorem d_TR_shake_118 : decode c_TR_shake 118 = .ok (.getfield 21, 3) := by decide +kernel
theorem d_TR_shake_121 : decode c_TR_shake 121 = .ok (.bipush 7, 2) := by decide +kernel
theorem d_TR_shake_123 : decode c_TR_shake 123 = .ok (.invokestatic 99, 3) := by decide +kernel
theorem d_TR_shake_126 : decode c_TR_shake 126 = .ok (.iadd, 1) := by decide +kernel
theorem d_TR_shake_127 : decode c_TR_shake 127 = .ok (.putfield 86, 3) := by decide +kernel
theorem d_TR_shake_130 : decode c_TR_shake 130 = .ok (.iinc 6 1, 3) := by decide +kernel
theorem d_TR_shake_133 : decode c_TR_shake 133 = .ok (.goto (-103), 3) := by decide +kernel
theorem d_TR_shake_136 : decode c_TR_shake 136 = .ok (.return_, 1) := by decide +kernel
def S_TR_shake_0 (g : Gx) (Q : St → Prop) (σ : St) (t1 : Nat) (x2 : Int32) (x3 : Int32) : Prop := Ax g m_TR_shake 0 0 (ZV g Q) SH σ 0 0 0 [(0, .ref (gB g + 82)), (1, .ref (gB g + t1)), (2, .int x2), (3, .int x3)] []
def S_TR_shake_30 (g : Gx) (Q : St → Prop) (σ : St) (t1 : Nat) (x2 : Int32) (x3 : Int32) (y4 : Int64) (x6 : Int32) : Prop := Ax g m_TR_shake 0 0 (ZV g Q) SH σ 0 0 30 [(0, .ref (gB g + 82)), (1, .ref (gB g + t1)), (2, .int x2), (3, .int x3), (4, .long y4), (6, .int x6)] []
def S_TR_shake_47 (g : Gx) (Q : St → Prop) (σ : St) (t1 : Nat) (x2 : Int32) (x3 : Int32) (y4 : Int64) (x6 : Int32) (x7 : Int32) : Prop := Ax g m_TR_shake 0 0 (ZV g Q) SH σ 0 0 47 [(0, .ref (gB g + 82)), (1, .ref (gB g + t1)), (2, .int x2), (3, .int x3), (4, .long y4), (6, .int x6), (7, .int x7)] []
theorem sg_TR_shake_0 {g : Gx} {Q : St → Prop} {σ : St} {t1 : Nat} {x2 : Int32} {x3 : Int32} (ht1 : isSA t1)
    (h : ∀ u1 : Int64, u1 = ((fi σ t1 10)).toInt64 → ∀ s2 : St, s2 = sfi σ 82 2 (0 : Int32) → ∀ s3 : St, s3 = sfi s2 82 3 (0 : Int32) → ∀ s4 : St, s4 = sfi s3 82 6 (0 : Int32) → ∀ s5 : St, s5 = sfi s4 82 7 (0 : Int32) → S_TR_shake_30 g Q s5 t1 x2 x3 u1 (0 : Int32)) : S_TR_shake_0 g Q σ t1 x2 x3 := by
  show Ax g m_TR_shake 0 0 (ZV g Q) SH σ 0 0 0 [(0, .ref (gB g + 82)), (1, .ref (gB g + t1)), (2, .int x2), (3, .int x3)] []
  refine a_aload_n (pc := 0) 1 rfl rfl d_TR_shake_0 ?_
  refine a_getI (pc := 1) fg_TR_80 (sa0 ht1) rfl d_TR_shake_1 ?_
  refine a_i2l (pc := 4) d_TR_shake_4 ?_
  refine a_nmj (pc := 5) (fun u1 hu1 => ?_)
  replace h := h u1 hu1
  refine a_lstore (pc := 5) (lv' := [(4, .long u1), (0, .ref (gB g + 82)), (1, .ref (gB g + t1)), (2, .int x2), (3, .int x3)]) (Nat.le_of_ble_eq_true rfl) rfl d_TR_shake_5 ?_
  refine a_aload_n (pc := 7) 1 rfl rfl d_TR_shake_7 ?_
  refine a_iconst (pc := 8) (0 : Int32) (by decide) d_TR_shake_8 ?_
  refine a_putI (pc := 9) fp_TR_22 sx_82 rfl d_TR_shake_9 ?_
  refine a_nms (fun s2 hs2 => ?_)
  replace h := h s2 hs2
  refine a_aload_n (pc := 12) 1 rfl rfl d_TR_shake_12 ?_
  refine a_iconst (pc := 13) (0 : Int32) (by decide) d_TR_shake_13 ?_
  refine a_putI (pc := 14) fp_TR_25 sx_82 rfl d_TR_shake_14 ?_
  refine a_nms (fun s3 hs3 => ?_)
  replace h := h s3 hs3
  refine a_aload_n (pc := 17) 1 rfl rfl d_TR_shake_17 ?_
  refine a_iconst (pc := 18) (0 : Int32) (by decide) d_TR_shake_18 ?_
  refine a_putI (pc := 19) fp_TR_83 sx_82 rfl d_TR_shake_19 ?_
  refine a_nms (fun s4 hs4 => ?_)
  replace h := h s4 hs4
  refine a_aload_n (pc := 22) 1 rfl rfl d_TR_shake_22 ?_
  refine a_iconst (pc := 23) (0 : Int32) (by decide) d_TR_shake_23 ?_
  refine a_putI (pc := 24) fp_TR_86 sx_82 rfl d_TR_shake_24 ?_
  refine a_nms (fun s5 hs5 => ?_)
  replace h := h s5 hs5
  refine a_iconst (pc := 27) (0 : Int32) (by decide) d_TR_shake_27 ?_
  refine a_istore (pc := 28) (lv' := [(6, .int (0 : Int32)), (4, .long u1), (0, .ref (gB g + 82)), (1, .ref (gB g + t1)), (2, .int x2), (3, .int x3)]) (Nat.le_of_ble_eq_true rfl) rfl d_TR_shake_28 ?_
  refine a_sub (pc := 30) [2, 3, 4, 5, 1, 0] rfl ?_
  exact h
theorem sg_TR_shake_30 {g : Gx} {Q : St → Prop} {σ : St} {t1 : Nat} {x2 : Int32} {x3 : Int32} {y4 : Int64} {x6 : Int32} (ht1 : isSA t1)
    (h : (x2 ≤ x6 → Q σ) ∧ (¬ x2 ≤ x6 → ∀ s1 : St, s1 = sfi σ 82 1 (fi σ t1 5) → S_TR_shake_47 g Q s1 t1 x2 x3 y4 x6 (0 : Int32))) : S_TR_shake_30 g Q σ t1 x2 x3 y4 x6 := by
  show Ax g m_TR_shake 0 0 (ZV g Q) SH σ 0 0 30 [(0, .ref (gB g + 82)), (1, .ref (gB g + t1)), (2, .int x2), (3, .int x3), (4, .long y4), (6, .int x6)] []
  refine a_iload (pc := 30) 5 rfl d_TR_shake_30 ?_
  refine a_iload_n (pc := 32) 2 rfl rfl d_TR_shake_32 ?_
  refine a_icmp_ge (pc := 33) 136 (by decide) d_TR_shake_33 ⟨fun c0 => ?_, fun c0 => ?_⟩
  · replace h := h.1 c0
    exact b_vret (pc := 136) rfl d_TR_shake_136 h
  · replace h := h.2 c0
    refine a_aload_n (pc := 36) 0 rfl rfl d_TR_shake_36 ?_
    refine a_aload_n (pc := 37) 1 rfl rfl d_TR_shake_37 ?_
    refine a_getI (pc := 38) fg_TR_15 (sa0 ht1) rfl d_TR_shake_38 ?_
    refine a_putI (pc := 41) fp_TR_21 sx_82 rfl d_TR_shake_41 ?_
    refine a_nms (fun s1 hs1 => ?_)
    replace h := h s1 hs1
    refine a_iconst (pc := 44) (0 : Int32) (by decide) d_TR_shake_44 ?_
    refine a_istore (pc := 45) (lv' := [(7, .int (0 : Int32)), (0, .ref (gB g + 82)), (1, .ref (gB g + t1)), (2, .int x2), (3, .int x3), (4, .long y4), (6, .int x6)]) (Nat.le_of_ble_eq_true rfl) rfl d_TR_shake_45 ?_
    refine a_sub (pc := 47) [1, 2, 3, 4, 5, 6, 0] rfl ?_
    exact h
theorem sg_TR_shake_47 {g : Gx} {Q : St → Prop} {σ : St} {t1 : Nat} {x2 : Int32} {x3 : Int32} {y4 : Int64} {x6 : Int32} {x7 : Int32} (ht1 : isSA t1)
    (h : (x3 ≤ x7 → (¬ (fi σ 82 1) = 0 → ∀ s1 : St, s1 = sfi σ 82 6 ((fi σ 82 6) + (0 : Int32)) → K_SA_howMany g (fi s1 82 1) (7 : Int32) s1 (fun (r3 : Int32) (s2 : St) => ∀ s4 : St, s4 = sfi s2 82 7 ((fi s1 82 7) + r3) → ∀ u5 : Int32, u5 = x6 + (1 : Int32) → S_TR_shake_30 g Q s4 t1 x2 x3 y4 u5)) ∧ ((fi σ 82 1) = 0 → ∀ s6 : St, s6 = sfi σ 82 6 ((fi σ 82 6) + (1 : Int32)) → K_SA_howMany g (fi s6 82 1) (7 : Int32) s6 (fun (r8 : Int32) (s7 : St) => ∀ s9 : St, s9 = sfi s7 82 7 ((fi s6 82 7) + r8) → ∀ u10 : Int32, u10 = x6 + (1 : Int32) → S_TR_shake_30 g Q s9 t1 x2 x3 y4 u10))) ∧ (¬ x3 ≤ x7 → ∀ u11 : Int64, u11 = (((y4 * (1103515245 : Int64)) + (12345 : Int64)) &&& (2147483647 : Int64)) → K_TR_roll g t1 ((((u11 / (65536 : Int64)) - (u11 / (65536 : Int64)) / (4 : Int64) * (4 : Int64))).toInt32) σ (fun s12 : St => ∀ u13 : Int32, u13 = x7 + (1 : Int32) → S_TR_shake_47 g Q s12 t1 x2 x3 u11 x6 u13))) : S_TR_shake_47 g Q σ t1 x2 x3 y4 x6 x7 := by
  show Ax g m_TR_shake 0 0 (ZV g Q) SH σ 0 0 47 [(0, .ref (gB g + 82)), (1, .ref (gB g + t1)), (2, .int x2), (3, .int x3), (4, .long y4), (6, .int x6), (7, .int x7)] []
  refine a_iload (pc := 47) 6 rfl d_TR_shake_47 ?_
  refine a_iload_n (pc := 49) 3 rfl rfl d_TR_shake_49 ?_
  refine a_icmp_ge (pc := 50) 91 (by decide) d_TR_shake_50 ⟨fun c0 => ?_, fun c0 => ?_⟩
  · replace h := h.1 c0
    refine a_aload_n (pc := 91) 0 rfl rfl d_TR_shake_91 ?_
    refine a_dup (pc := 92) rfl d_TR_shake_92 ?_
    refine a_getI (pc := 93) fg_TR_83 sx_82 rfl d_TR_shake_93 ?_
    refine a_aload_n (pc := 96) 0 rfl rfl d_TR_shake_96 ?_
    refine a_getI (pc := 97) fg_TR_21 sx_82 rfl d_TR_shake_97 ?_
    refine a_if_ne (pc := 100) 107 (by decide) d_TR_shake_100 ⟨fun c0 => ?_, fun c0 => ?_⟩
    · replace h := h.1 c0
      refine a_iconst (pc := 107) (0 : Int32) (by decide) d_TR_shake_107 ?_
      refine a_iadd (pc := 108) d_TR_shake_108 ?_
      refine a_putI (pc := 109) fp_TR_83 sx_82 rfl d_TR_shake_109 ?_
      refine a_nms (fun s1 hs1 => ?_)
      replace h := h s1 hs1
      refine a_aload_n (pc := 112) 0 rfl rfl d_TR_shake_112 ?_
      refine a_dup (pc := 113) rfl d_TR_shake_113 ?_
      refine a_getI (pc := 114) fg_TR_86 sx_82 rfl d_TR_shake_114 ?_
      refine a_aload_n (pc := 117) 0 rfl rfl d_TR_shake_117 ?_
      refine a_getI (pc := 118) fg_TR_21 sx_82 rfl d_TR_shake_118 ?_
      refine a_bipush (pc := 121) (7 : Int32) (by decide) d_TR_shake_121 ?_
      refine a_callS (pc := 123) (M' := m_SA_howMany) (As := [.int (fi s1 82 1), .int (7 : Int32)]) (st := [.int (fi s1 82 7), .ref (gB g + 82)]) (mc' := 0) (ms' := 0) lk_TR_99 rfl (by decide) (by decide) rfl (Nat.le_of_ble_eq_true rfl) (Nat.le_refl 0) (Nat.le_refl 0) d_TR_shake_123 h ?_
      rintro _ _ s2 ⟨r3, rfl, rfl, h⟩ -
      show Ax g m_TR_shake 0 0 (ZV g Q) SH s2 0 0 126 [(0, .ref (gB g + 82)), (1, .ref (gB g + t1)), (2, .int x2), (3, .int x3), (4, .long y4), (6, .int x6), (7, .int x7)] [.int r3, .int (fi s1 82 7), .ref (gB g + 82)]
      refine a_iadd (pc := 126) d_TR_shake_126 ?_
      refine a_putI (pc := 127) fp_TR_86 sx_82 rfl d_TR_shake_127 ?_
      refine a_nms (fun s4 hs4 => ?_)
      replace h := h s4 hs4
      obtain ⟨u5, hu5⟩ : ∃ y : Int32, y = x6 + (1 : Int32) := ⟨_, rfl⟩
      replace h := h u5 hu5
      refine a_iinc (pc := 130) (v := u5) (lv' := [(6, .int u5), (0, .ref (gB g + 82)), (1, .ref (gB g + t1)), (2, .int x2), (3, .int x3), (4, .long y4), (7, .int x7)]) 5 rfl (by rw [hu5]; rfl) (Nat.le_of_ble_eq_true rfl) rfl d_TR_shake_130 ?_
      refine a_goto (pc := 133) 30 (by decide) d_TR_shake_133 ?_
      refine a_sub (pc := 30) [1, 2, 3, 4, 5, 0] rfl ?_
      exact h
    · replace h := h.2 c0
      refine a_iconst (pc := 103) (1 : Int32) (by decide) d_TR_shake_103 ?_
      refine a_goto (pc := 104) 108 (by decide) d_TR_shake_104 ?_
      refine a_iadd (pc := 108) d_TR_shake_108 ?_
      refine a_putI (pc := 109) fp_TR_83 sx_82 rfl d_TR_shake_109 ?_
      refine a_nms (fun s6 hs6 => ?_)
      replace h := h s6 hs6
      refine a_aload_n (pc := 112) 0 rfl rfl d_TR_shake_112 ?_
      refine a_dup (pc := 113) rfl d_TR_shake_113 ?_
      refine a_getI (pc := 114) fg_TR_86 sx_82 rfl d_TR_shake_114 ?_
      refine a_aload_n (pc := 117) 0 rfl rfl d_TR_shake_117 ?_
      refine a_getI (pc := 118) fg_TR_21 sx_82 rfl d_TR_shake_118 ?_
      refine a_bipush (pc := 121) (7 : Int32) (by decide) d_TR_shake_121 ?_
      refine a_callS (pc := 123) (M' := m_SA_howMany) (As := [.int (fi s6 82 1), .int (7 : Int32)]) (st := [.int (fi s6 82 7), .ref (gB g + 82)]) (mc' := 0) (ms' := 0) lk_TR_99 rfl (by decide) (by decide) rfl (Nat.le_of_ble_eq_true rfl) (Nat.le_refl 0) (Nat.le_refl 0) d_TR_shake_123 h ?_
      rintro _ _ s7 ⟨r8, rfl, rfl, h⟩ -
      show Ax g m_TR_shake 0 0 (ZV g Q) SH s7 0 0 126 [(0, .ref (gB g + 82)), (1, .ref (gB g + t1)), (2, .int x2), (3, .int x3), (4, .long y4), (6, .int x6), (7, .int x7)] [.int r8, .int (fi s6 82 7), .ref (gB g + 82)]
      refine a_iadd (pc := 126) d_TR_shake_126 ?_
      refine a_putI (pc := 127) fp_TR_86 sx_82 rfl d_TR_shake_127 ?_
      refine a_nms (fun s9 hs9 => ?_)
      replace h := h s9 hs9
      obtain ⟨u10, hu10⟩ : ∃ y : Int32, y = x6 + (1 : Int32) := ⟨_, rfl⟩
      replace h := h u10 hu10
      refine a_iinc (pc := 130) (v := u10) (lv' := [(6, .int u10), (0, .ref (gB g + 82)), (1, .ref (gB g + t1)), (2, .int x2), (3, .int x3), (4, .long y4), (7, .int x7)]) 5 rfl (by rw [hu10]; rfl) (Nat.le_of_ble_eq_true rfl) rfl d_TR_shake_130 ?_
      refine a_goto (pc := 133) 30 (by decide) d_TR_shake_133 ?_
      refine a_sub (pc := 30) [1, 2, 3, 4, 5, 0] rfl ?_
      exact h
  · replace h := h.2 c0
    refine a_lload (pc := 53) 4 rfl d_TR_shake_53 ?_
    refine a_ldc2 (pc := 55) tw1221 d_TR_shake_55 ?_
    refine a_lmul (pc := 58) d_TR_shake_58 ?_
    refine a_ldc2 (pc := 59) tw1222 d_TR_shake_59 ?_
    refine a_ladd (pc := 62) d_TR_shake_62 ?_
    refine a_ldc2 (pc := 63) tw1223 d_TR_shake_63 ?_
    refine a_land (pc := 66) d_TR_shake_66 ?_
    refine a_nmj (pc := 67) (fun u11 hu11 => ?_)
    replace h := h u11 hu11
    refine a_lstore (pc := 67) (lv' := [(4, .long u11), (0, .ref (gB g + 82)), (1, .ref (gB g + t1)), (2, .int x2), (3, .int x3), (6, .int x6), (7, .int x7)]) (Nat.le_of_ble_eq_true rfl) rfl d_TR_shake_67 ?_
    refine a_aload_n (pc := 69) 1 rfl rfl d_TR_shake_69 ?_
    refine a_aload_n (pc := 70) 2 rfl rfl d_TR_shake_70 ?_
    refine a_lload (pc := 71) 0 rfl d_TR_shake_71 ?_
    refine a_ldc2 (pc := 73) tw1224 d_TR_shake_73 ?_
    refine a_ldiv (pc := 76) (by decide) d_TR_shake_76 ?_
    refine a_ldc2 (pc := 77) tw1225 d_TR_shake_77 ?_
    refine a_lrem (pc := 80) (by decide) d_TR_shake_80 ?_
    refine a_l2i (pc := 81) d_TR_shake_81 ?_
    refine a_callV (pc := 82) (M' := m_TR_roll) (As := [.ref (gB g + t1), .int ((((u11 / (65536 : Int64)) - (u11 / (65536 : Int64)) / (4 : Int64) * (4 : Int64))).toInt32)]) (st := []) (mc' := 0) (ms' := 0) lk_TR_35 rfl sx_82 rfl (by decide) (by decide) rfl (Nat.le_of_ble_eq_true rfl) (Nat.le_refl 0) (Nat.le_refl 0) d_TR_shake_82 h ?_
    rintro _ _ s12 ⟨rfl, rfl, h⟩ -
    show Ax g m_TR_shake 0 0 (ZV g Q) SH s12 0 0 85 [(4, .long u11), (0, .ref (gB g + 82)), (1, .ref (gB g + t1)), (2, .int x2), (3, .int x3), (6, .int x6), (7, .int x7)] []
    obtain ⟨u13, hu13⟩ : ∃ y : Int32, y = x7 + (1 : Int32) := ⟨_, rfl⟩
    replace h := h u13 hu13
    refine a_iinc (pc := 85) (v := u13) (lv' := [(7, .int u13), (4, .long u11), (0, .ref (gB g + 82)), (1, .ref (gB g + t1)), (2, .int x2), (3, .int x3), (6, .int x6)]) 6 rfl (by rw [hu13]; rfl) (Nat.le_of_ble_eq_true rfl) rfl d_TR_shake_85 ?_
    refine a_goto (pc := 88) 47 (by decide) d_TR_shake_88 ?_
    refine a_sub (pc := 47) [2, 3, 4, 5, 1, 6, 0] rfl ?_
    exact h
theorem ko_TR_shake {g : Gx}  {t1 : Nat} {x2 : Int32} {x3 : Int32} {σ : St} {Q : St → Prop} (h : S_TR_shake_0 g Q σ t1 x2 x3) : K_TR_shake g t1 x2 x3 σ Q := KV.of (show plainName "BallBox$Trial" = true by decide) (Nat.le_of_ble_eq_true rfl) h
