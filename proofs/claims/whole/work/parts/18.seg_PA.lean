theorem d_PA_keepUp_0 : decode c_PA_keepUp 0 = .ok (.aload_n 0, 1) := by decide +kernel
theorem d_PA_keepUp_1 : decode c_PA_keepUp 1 = .ok (.getfield 38, 3) := by decide +kernel
theorem d_PA_keepUp_4 : decode c_PA_keepUp 4 = .ok (.iload_n 2, 1) := by decide +kernel
theorem d_PA_keepUp_5 : decode c_PA_keepUp 5 = .ok (.if_icmp .ne 4, 3) := by decide +kernel
theorem d_PA_keepUp_8 : decode c_PA_keepUp 8 = .ok (.return_, 1) := by decide +kernel
theorem d_PA_keepUp_9 : decode c_PA_keepUp 9 = .ok (.aload_n 0, 1) := by decide +kernel
theorem d_PA_keepUp_10 : decode c_PA_keepUp 10 = .ok (.iload_n 2, 1) := by decide +kernel
theorem d_PA_keepUp_11 : decode c_PA_keepUp 11 = .ok (.putfield 38, 3) := by decide +kernel
theorem d_PA_keepUp_14 : decode c_PA_keepUp 14 = .ok (.aload_n 1, 1) := by decide +kernel
theorem d_PA_keepUp_15 : decode c_PA_keepUp 15 = .ok (.aload_n 0, 1) := by decide +kernel
theorem d_PA_keepUp_16 : decode c_PA_keepUp 16 = .ok (.getfield 11, 3) := by decide +kernel
theorem d_PA_keepUp_19 : decode c_PA_keepUp 19 = .ok (.invokevirtual 46, 3) := by decide +kernel
theorem d_PA_keepUp_22 : decode c_PA_keepUp 22 = .ok (.istore_n 3, 1) := by decide +kernel
theorem d_PA_keepUp_23 : decode c_PA_keepUp 23 = .ok (.aload_n 0, 1) := by decide +kernel
theorem d_PA_keepUp_24 : decode c_PA_keepUp 24 = .ok (.aload_n 1, 1) := by decide +kernel
theorem d_PA_keepUp_25 : decode c_PA_keepUp 25 = .ok (.getfield 50, 3) := by decide +kernel
theorem d_PA_keepUp_28 : decode c_PA_keepUp 28 = .ok (.iload_n 3, 1) := by decide +kernel
theorem d_PA_keepUp_29 : decode c_PA_keepUp 29 = .ok (.invokevirtual 53, 3) := by decide +kernel
theorem d_PA_keepUp_32 : decode c_PA_keepUp 32 = .ok (.aload_n 0, 1) := by decide +kernel
theorem d_PA_keepUp_33 : decode c_PA_keepUp 33 = .ok (.aload_n 1, 1) := by decide +kernel
theorem d_PA_keepUp_34 : decode c_PA_keepUp 34 = .ok (.invokevirtual 57, 3) := by decide +kernel
theorem d_PA_keepUp_37 : decode c_PA_keepUp 37 = .ok (.aload_n 0, 1) := by decide +kernel
theorem d_PA_keepUp_38 : decode c_PA_keepUp 38 = .ok (.invokevirtual 61, 3) := by decide +kernel
theorem d_PA_keepUp_41 : decode c_PA_keepUp 41 = .ok (.aload_n 0, 1) := by decide +kernel
theorem d_PA_keepUp_42 : decode c_PA_keepUp 42 = .ok (.aload_n 1, 1) := by decide +kernel
theorem d_PA_keepUp_43 : decode c_PA_keepUp 43 = .ok (.getfield 50, 3) := by decide +kernel
theorem d_PA_keepUp_46 : decode c_PA_keepUp 46 = .ok (.iload_n 3, 1) := by decide +kernel
theorem d_PA_keepUp_47 : decode c_PA_keepUp 47 = .ok (.invokevirtual 64, 3) := by decide +kernel
theorem d_PA_keepUp_50 : decode c_PA_keepUp 50 = .ok (.aload_n 0, 1) := by decide +kernel
theorem d_PA_keepUp_51 : decode c_PA_keepUp 51 = .ok (.iconst 0, 1) := by decide +kernel
theorem d_PA_keepUp_52 : decode c_PA_keepUp 52 = .ok (.putfield 67, 3) := by decide +kernel
theorem d_PA_keepUp_55 : decode c_PA_keepUp 55 = .ok (.aload_n 0, 1) := by decide +kernel
theorem d_PA_keepUp_56 : decode c_PA_keepUp 56 = .ok (.iconst (-1), 1) := by decide +kernel
theorem d_PA_keepUp_57 : decode c_PA_keepUp 57 = .ok (.putfield 70, 3) := by decide +kernel
theorem d_PA_keepUp_60 : decode c_PA_keepUp 60 = .ok (.return_, 1) := by decide +kernel
def S_PA_keepUp_0 (g : Gx) (Q : St → Prop) (σ : St) (t1 : Nat) (x2 : Int32) : Prop := Ax g m_PA_keepUp 0 0 (ZV g Q) SH σ 0 0 0 [(0, .ref (gB g + 69)), (1, .ref (gB g + t1)), (2, .int x2)] []
theorem sg_PA_keepUp_0 {g : Gx} {Q : St → Prop} {σ : St} {t1 : Nat} {x2 : Int32} (ht1 : isSA t1)
    (h : (¬ (fi σ 69 11) = x2 → ∀ s1 : St, s1 = sfi σ 69 11 x2 → K_SA_listPlain g t1 70 s1 (fun (r3 : Int32) (s2 : St) => K_PA_listSituations g (fi s2 t1 4) r3 s2 (fun s4 : St => K_PA_rollAll g t1 s4 (fun s5 : St => K_PA_reckonFar g s5 (fun s6 : St => K_PA_listBeginnings g (fi s6 t1 4) r3 s6 (fun s7 : St => ∀ s8 : St, s8 = sfi s7 69 12 (0 : Int32) → ∀ s9 : St, s9 = sfi s8 69 13 (-1 : Int32) → Q s9)))))) ∧ ((fi σ 69 11) = x2 → Q σ)) : S_PA_keepUp_0 g Q σ t1 x2 := by
  show Ax g m_PA_keepUp 0 0 (ZV g Q) SH σ 0 0 0 [(0, .ref (gB g + 69)), (1, .ref (gB g + t1)), (2, .int x2)] []
  refine a_aload_n (pc := 0) 0 rfl rfl d_PA_keepUp_0 ?_
  refine a_getI (pc := 1) fg_PA_38 sx_69 rfl d_PA_keepUp_1 ?_
  refine a_iload_n (pc := 4) 2 rfl rfl d_PA_keepUp_4 ?_
  refine a_icmp_ne (pc := 5) 9 (by decide) d_PA_keepUp_5 ⟨fun c0 => ?_, fun c0 => ?_⟩
  · replace h := h.1 c0
    refine a_aload_n (pc := 9) 0 rfl rfl d_PA_keepUp_9 ?_
    refine a_iload_n (pc := 10) 2 rfl rfl d_PA_keepUp_10 ?_
    refine a_putI (pc := 11) fp_PA_38 sx_69 rfl d_PA_keepUp_11 ?_
    refine a_nms (fun s1 hs1 => ?_)
    replace h := h s1 hs1
    refine a_aload_n (pc := 14) 1 rfl rfl d_PA_keepUp_14 ?_
    refine a_aload_n (pc := 15) 0 rfl rfl d_PA_keepUp_15 ?_
    refine a_getR (pc := 16) fg_PA_11 sx_69 rfl d_PA_keepUp_16 ?_
    refine a_callV (pc := 19) (M' := m_SA_listPlain) (As := [.ref (gB g + 70)]) (st := []) (mc' := 0) (ms' := 0) lk_PA_46 rfl (sa0 ht1) rfl (by decide) (by decide) rfl (Nat.le_of_ble_eq_true rfl) (Nat.le_refl 0) (Nat.le_refl 0) d_PA_keepUp_19 h ?_
    rintro _ _ s2 ⟨r3, rfl, rfl, h⟩ -
    show Ax g m_PA_keepUp 0 0 (ZV g Q) SH s2 0 0 22 [(0, .ref (gB g + 69)), (1, .ref (gB g + t1)), (2, .int x2)] [.int r3]
    refine a_istore_n (pc := 22) (lv' := [(3, .int r3), (0, .ref (gB g + 69)), (1, .ref (gB g + t1)), (2, .int x2)]) rfl (Nat.le_of_ble_eq_true rfl) rfl d_PA_keepUp_22 ?_
    refine a_aload_n (pc := 23) 1 rfl rfl d_PA_keepUp_23 ?_
    refine a_aload_n (pc := 24) 2 rfl rfl d_PA_keepUp_24 ?_
    refine a_getI (pc := 25) fg_PA_50 (sa0 ht1) rfl d_PA_keepUp_25 ?_
    refine a_iload_n (pc := 28) 0 rfl rfl d_PA_keepUp_28 ?_
    refine a_callV (pc := 29) (M' := m_PA_listSituations) (As := [.int (fi s2 t1 4), .int r3]) (st := []) (mc' := 0) (ms' := 0) lk_PA_53 rfl sx_69 rfl (by decide) (by decide) rfl (Nat.le_of_ble_eq_true rfl) (Nat.le_refl 0) (Nat.le_refl 0) d_PA_keepUp_29 h ?_
    rintro _ _ s4 ⟨rfl, rfl, h⟩ -
    show Ax g m_PA_keepUp 0 0 (ZV g Q) SH s4 0 0 32 [(3, .int r3), (0, .ref (gB g + 69)), (1, .ref (gB g + t1)), (2, .int x2)] []
    refine a_aload_n (pc := 32) 1 rfl rfl d_PA_keepUp_32 ?_
    refine a_aload_n (pc := 33) 2 rfl rfl d_PA_keepUp_33 ?_
    refine a_callV (pc := 34) (M' := m_PA_rollAll) (As := [.ref (gB g + t1)]) (st := []) (mc' := 0) (ms' := 0) lk_PA_57 rfl sx_69 rfl (by decide) (by decide) rfl (Nat.le_of_ble_eq_true rfl) (Nat.le_refl 0) (Nat.le_refl 0) d_PA_keepUp_34 h ?_
    rintro _ _ s5 ⟨rfl, rfl, h⟩ -
    show Ax g m_PA_keepUp 0 0 (ZV g Q) SH s5 0 0 37 [(3, .int r3), (0, .ref (gB g + 69)), (1, .ref (gB g + t1)), (2, .int x2)] []
    refine a_aload_n (pc := 37) 1 rfl rfl d_PA_keepUp_37 ?_
    refine a_callV (pc := 38) (M' := m_PA_reckonFar) (As := []) (st := []) (mc' := 0) (ms' := 0) lk_PA_61 rfl sx_69 rfl (by decide) (by decide) rfl (Nat.le_of_ble_eq_true rfl) (Nat.le_refl 0) (Nat.le_refl 0) d_PA_keepUp_38 h ?_
    rintro _ _ s6 ⟨rfl, rfl, h⟩ -
    show Ax g m_PA_keepUp 0 0 (ZV g Q) SH s6 0 0 41 [(3, .int r3), (0, .ref (gB g + 69)), (1, .ref (gB g + t1)), (2, .int x2)] []
    refine a_aload_n (pc := 41) 1 rfl rfl d_PA_keepUp_41 ?_
    refine a_aload_n (pc := 42) 2 rfl rfl d_PA_keepUp_42 ?_
    refine a_getI (pc := 43) fg_PA_50 (sa0 ht1) rfl d_PA_keepUp_43 ?_
    refine a_iload_n (pc := 46) 0 rfl rfl d_PA_keepUp_46 ?_
    refine a_callV (pc := 47) (M' := m_PA_listBeginnings) (As := [.int (fi s6 t1 4), .int r3]) (st := []) (mc' := 0) (ms' := 0) lk_PA_64 rfl sx_69 rfl (by decide) (by decide) rfl (Nat.le_of_ble_eq_true rfl) (Nat.le_refl 0) (Nat.le_refl 0) d_PA_keepUp_47 h ?_
    rintro _ _ s7 ⟨rfl, rfl, h⟩ -
    show Ax g m_PA_keepUp 0 0 (ZV g Q) SH s7 0 0 50 [(3, .int r3), (0, .ref (gB g + 69)), (1, .ref (gB g + t1)), (2, .int x2)] []
    refine a_aload_n (pc := 50) 1 rfl rfl d_PA_keepUp_50 ?_
    refine a_iconst (pc := 51) (0 : Int32) (by decide) d_PA_keepUp_51 ?_
    refine a_putI (pc := 52) fp_PA_67 sx_69 rfl d_PA_keepUp_52 ?_
    refine a_nms (fun s8 hs8 => ?_)
    replace h := h s8 hs8
    refine a_aload_n (pc := 55) 1 rfl rfl d_PA_keepUp_55 ?_
    refine a_iconst (pc := 56) (-1 : Int32) (by decide) d_PA_keepUp_56 ?_
    refine a_putI (pc := 57) fp_PA_70 sx_69 rfl d_PA_keepUp_57 ?_
    refine a_nms (fun s9 hs9 => ?_)
    replace h := h s9 hs9
    exact b_vret (pc := 60) rfl d_PA_keepUp_60 h
  · replace h := h.2 c0
    exact b_vret (pc := 8) rfl d_PA_keepUp_8 h
theorem ko_PA_keepUp {g : Gx}  {t1 : Nat} {x2 : Int32} {σ : St} {Q : St → Prop} (h : S_PA_keepUp_0 g Q σ t1 x2) : K_PA_keepUp g t1 x2 σ Q := KV.of (show plainName "BallBox$Pairs" = true by decide) (Nat.le_of_ble_eq_true rfl) h
theorem d_PA_blindLength_0 : decode c_PA_blindLength 0 = .ok (.aload_n 0, 1) := by decide +kernel
theorem d_PA_blindLength_1 : decode c_PA_blindLength 1 = .ok (.getfield 70, 3) := by decide +kernel
theorem d_PA_blindLength_4 : decode c_PA_blindLength 4 = .ok (.ifCond .ge 43, 3) := by decide +kernel
theorem d_PA_blindLength_7 : decode c_PA_blindLength 7 = .ok (.aload_n 0, 1) := by decide +kernel
theorem d_PA_blindLength_8 : decode c_PA_blindLength 8 = .ok (.getfield 67, 3) := by decide +kernel
theorem d_PA_blindLength_11 : decode c_PA_blindLength 11 = .ok (.iload_n 1, 1) := by decide +kernel
theorem d_PA_blindLength_12 : decode c_PA_blindLength 12 = .ok (.if_icmp .gt 35, 3) := by decide +kernel
theorem d_PA_blindLength_15 : decode c_PA_blindLength 15 = .ok (.aload_n 0, 1) := by decide +kernel
theorem d_PA_blindLength_16 : decode c_PA_blindLength 16 = .ok (.aload_n 0, 1) := by decide +kernel
theorem d_PA_blindLength_17 : decode c_PA_blindLength 17 = .ok (.getfield 67, 3) := by decide +kernel
theorem d_PA_blindLength_20 : decode c_PA_blindLength 20 = .ok (.invokevirtual 73, 3) := by decide +kernel
theorem d_PA_blindLength_23 : decode c_PA_blindLength 23 = .ok (.ifCond .eq 11, 3) := by decide +kernel
theorem d_PA_blindLength_26 : decode c_PA_blindLength 26 = .ok (.aload_n 0, 1) := by decide +kernel
theorem d_PA_blindLength_27 : decode c_PA_blindLength 27 = .ok (.aload_n 0, 1) := by decide +kernel
theorem d_PA_blindLength_28 : decode c_PA_blindLength 28 = .ok (.getfield 67, 3) := by decide +kernel
theorem d_PA_blindLength_31 : decode c_PA_blindLength 31 = .ok (.putfield 70, 3) := by decide +kernel
theorem d_PA_blindLength_34 : decode c_PA_blindLength 34 = .ok (.aload_n 0, 1) := by decide +kernel
theorem d_PA_blindLength_35 : decode c_PA_blindLength 35 = .ok (.dup, 1) := by decide +kernel
theorem d_PA_blindLength_36 : decode c_PA_blindLength 36 = .ok (.getfield 67, 3) := by decide +kernel
theorem d_PA_blindLength_39 : decode c_PA_blindLength 39 = .ok (.iconst 1, 1) := by decide +kernel
theorem d_PA_blindLength_40 : decode c_PA_blindLength 40 = .ok (.iadd, 1) := by decide +kernel
theorem d_PA_blindLength_41 : decode c_PA_blindLength 41 = .ok (.putfield 67, 3) := by decide +kernel
theorem d_PA_blindLength_44 : decode c_PA_blindLength 44 = .ok (.goto (-44), 3) := by decide +kernel
theorem d_PA_blindLength_47 : decode c_PA_blindLength 47 = .ok (.aload_n 0, 1) := by decide +kernel
theorem d_PA_blindLength_48 : decode c_PA_blindLength 48 = .ok (.getfield 70, 3) := by decide +kernel
theorem d_PA_blindLength_51 : decode c_PA_blindLength 51 = .ok (.iload_n 1, 1) := by decide +kernel
theorem d_PA_blindLength_52 : decode c_PA_blindLength 52 = .ok (.if_icmp .gt 10, 3) := by decide +kernel
theorem d_PA_blindLength_55 : decode c_PA_blindLength 55 = .ok (.aload_n 0, 1) := by decide +kernel
theorem d_PA_blindLength_56 : decode c_PA_blindLength 56 = .ok (.getfield 70, 3) := by decide +kernel
theorem d_PA_blindLength_59 : decode c_PA_blindLength 59 = .ok (.goto 4, 3) := by decide +kernel
theorem d_PA_blindLength_62 : decode c_PA_blindLength 62 = .ok (.iconst (-1), 1) := by decide +kernel
theorem d_PA_blindLength_63 : decode c_PA_blindLength 63 = .ok (.ireturn, 1) := by decide +kernel
def S_PA_blindLength_0 (g : Gx) (Q : Int32 → St → Prop) (σ : St) (x1 : Int32) : Prop := Ax g m_PA_blindLength 0 0 (ZI g Q) SH σ 0 0 0 [(0, .ref (gB g + 69)), (1, .int x1)] []
theorem sg_PA_blindLength_0 {g : Gx} {Q : Int32 → St → Prop} {σ : St} {x1 : Int32}
    (h : (0 ≤ (fi σ 69 13) → (x1 < (fi σ 69 13) → Q (-1 : Int32) σ) ∧ (¬ x1 < (fi σ 69 13) → Q (fi σ 69 13) σ)) ∧ (¬ 0 ≤ (fi σ 69 13) → (x1 < (fi σ 69 12) → (x1 < (fi σ 69 13) → Q (-1 : Int32) σ) ∧ (¬ x1 < (fi σ 69 13) → Q (fi σ 69 13) σ)) ∧ (¬ x1 < (fi σ 69 12) → K_PA_findsRow g (fi σ 69 12) σ (fun (r2 : Int32) (s1 : St) => (r2 = 0 → ∀ s3 : St, s3 = sfi s1 69 12 ((fi s1 69 12) + (1 : Int32)) → S_PA_blindLength_0 g Q s3 x1) ∧ (¬ r2 = 0 → ∀ s4 : St, s4 = sfi s1 69 13 (fi s1 69 12) → ∀ s5 : St, s5 = sfi s4 69 12 ((fi s4 69 12) + (1 : Int32)) → S_PA_blindLength_0 g Q s5 x1))))) : S_PA_blindLength_0 g Q σ x1 := by
  show Ax g m_PA_blindLength 0 0 (ZI g Q) SH σ 0 0 0 [(0, .ref (gB g + 69)), (1, .int x1)] []
  refine a_aload_n (pc := 0) 0 rfl rfl d_PA_blindLength_0 ?_
  refine a_getI (pc := 1) fg_PA_70 sx_69 rfl d_PA_blindLength_1 ?_
  refine a_if_ge (pc := 4) 47 (by decide) d_PA_blindLength_4 ⟨fun c0 => ?_, fun c0 => ?_⟩
  · replace h := h.1 c0
    refine a_aload_n (pc := 47) 0 rfl rfl d_PA_blindLength_47 ?_
    refine a_getI (pc := 48) fg_PA_70 sx_69 rfl d_PA_blindLength_48 ?_
    refine a_iload_n (pc := 51) 1 rfl rfl d_PA_blindLength_51 ?_
    refine a_icmp_gt (pc := 52) 62 (by decide) d_PA_blindLength_52 ⟨fun c0 => ?_, fun c0 => ?_⟩
    · replace h := h.1 c0
      refine a_iconst (pc := 62) (-1 : Int32) (by decide) d_PA_blindLength_62 ?_
      exact b_iret (pc := 63) rfl d_PA_blindLength_63 h
    · replace h := h.2 c0
      refine a_aload_n (pc := 55) 0 rfl rfl d_PA_blindLength_55 ?_
      refine a_getI (pc := 56) fg_PA_70 sx_69 rfl d_PA_blindLength_56 ?_
      refine a_goto (pc := 59) 63 (by decide) d_PA_blindLength_59 ?_
      exact b_iret (pc := 63) rfl d_PA_blindLength_63 h
  · replace h := h.2 c0
    refine a_aload_n (pc := 7) 0 rfl rfl d_PA_blindLength_7 ?_
    refine a_getI (pc := 8) fg_PA_67 sx_69 rfl d_PA_blindLength_8 ?_
    refine a_iload_n (pc := 11) 1 rfl rfl d_PA_blindLength_11 ?_
    refine a_icmp_gt (pc := 12) 47 (by decide) d_PA_blindLength_12 ⟨fun c0 => ?_, fun c0 => ?_⟩
    · replace h := h.1 c0
      refine a_aload_n (pc := 47) 0 rfl rfl d_PA_blindLength_47 ?_
      refine a_getI (pc := 48) fg_PA_70 sx_69 rfl d_PA_blindLength_48 ?_
      refine a_iload_n (pc := 51) 1 rfl rfl d_PA_blindLength_51 ?_
      refine a_icmp_gt (pc := 52) 62 (by decide) d_PA_blindLength_52 ⟨fun c0 => ?_, fun c0 => ?_⟩
      · replace h := h.1 c0
        refine a_iconst (pc := 62) (-1 : Int32) (by decide) d_PA_blindLength_62 ?_
        exact b_iret (pc := 63) rfl d_PA_blindLength_63 h
      · replace h := h.2 c0
        refine a_aload_n (pc := 55) 0 rfl rfl d_PA_blindLength_55 ?_
        refine a_getI (pc := 56) fg_PA_70 sx_69 rfl d_PA_blindLength_56 ?_
        refine a_goto (pc := 59) 63 (by decide) d_PA_blindLength_59 ?_
        exact b_iret (pc := 63) rfl d_PA_blindLength_63 h
    · replace h := h.2 c0
      refine a_aload_n (pc := 15) 0 rfl rfl d_PA_blindLength_15 ?_
      refine a_aload_n (pc := 16) 0 rfl rfl d_PA_blindLength_16 ?_
      refine a_getI (pc := 17) fg_PA_67 sx_69 rfl d_PA_blindLength_17 ?_
      refine a_callV (pc := 20) (M' := m_PA_findsRow) (As := [.int (fi σ 69 12)]) (st := []) (mc' := 0) (ms' := 0) lk_PA_73 rfl sx_69 rfl (by decide) (by decide) rfl (Nat.le_of_ble_eq_true rfl) (Nat.le_refl 0) (Nat.le_refl 0) d_PA_blindLength_20 h ?_
      rintro _ _ s1 ⟨r2, rfl, rfl, h⟩ -
      show Ax g m_PA_blindLength 0 0 (ZI g Q) SH s1 0 0 23 [(0, .ref (gB g + 69)), (1, .int x1)] [.int r2]
      refine a_if_eq (pc := 23) 34 (by decide) d_PA_blindLength_23 ⟨fun c0 => ?_, fun c0 => ?_⟩
      · replace h := h.1 c0
        refine a_aload_n (pc := 34) 0 rfl rfl d_PA_blindLength_34 ?_
        refine a_dup (pc := 35) rfl d_PA_blindLength_35 ?_
        refine a_getI (pc := 36) fg_PA_67 sx_69 rfl d_PA_blindLength_36 ?_
        refine a_iconst (pc := 39) (1 : Int32) (by decide) d_PA_blindLength_39 ?_
        refine a_iadd (pc := 40) d_PA_blindLength_40 ?_
        refine a_putI (pc := 41) fp_PA_67 sx_69 rfl d_PA_blindLength_41 ?_
        refine a_nms (fun s3 hs3 => ?_)
        replace h := h s3 hs3
        refine a_goto (pc := 44) 0 (by decide) d_PA_blindLength_44 ?_
        refine a_sub (pc := 0) [0, 1] rfl ?_
        exact h
      · replace h := h.2 c0
        refine a_aload_n (pc := 26) 0 rfl rfl d_PA_blindLength_26 ?_
        refine a_aload_n (pc := 27) 0 rfl rfl d_PA_blindLength_27 ?_
        refine a_getI (pc := 28) fg_PA_67 sx_69 rfl d_PA_blindLength_28 ?_
        refine a_putI (pc := 31) fp_PA_70 sx_69 rfl d_PA_blindLength_31 ?_
        refine a_nms (fun s4 hs4 => ?_)
        replace h := h s4 hs4
        refine a_aload_n (pc := 34) 0 rfl rfl d_PA_blindLength_34 ?_
        refine a_dup (pc := 35) rfl d_PA_blindLength_35 ?_
        refine a_getI (pc := 36) fg_PA_67 sx_69 rfl d_PA_blindLength_36 ?_
        refine a_iconst (pc := 39) (1 : Int32) (by decide) d_PA_blindLength_39 ?_
        refine a_iadd (pc := 40) d_PA_blindLength_40 ?_
        refine a_putI (pc := 41) fp_PA_67 sx_69 rfl d_PA_blindLength_41 ?_
        refine a_nms (fun s5 hs5 => ?_)
        replace h := h s5 hs5
        refine a_goto (pc := 44) 0 (by decide) d_PA_blindLength_44 ?_
        refine a_sub (pc := 0) [0, 1] rfl ?_
        exact h
theorem ko_PA_blindLength {g : Gx}  {x1 : Int32} {σ : St} {Q : Int32 → St → Prop} (h : S_PA_blindLength_0 g Q σ x1) : K_PA_blindLength g x1 σ Q := KI.of (show plainName "BallBox$Pairs" = true by decide) (Nat.le_of_ble_eq_true rfl) h
theorem d_PA_wayOfBlind_0 : decode c_PA_wayOfBlind 0 = .ok (.iload_n 1, 1) := by decide +kernel
theorem d_PA_wayOfBlind_1 : decode c_PA_wayOfBlind 1 = .ok (.ifCond .lt 11, 3) := by decide +kernel
theorem d_PA_wayOfBlind_4 : decode c_PA_wayOfBlind 4 = .ok (.iload_n 1, 1) := by decide +kernel
theorem d_PA_wayOfBlind_5 : decode c_PA_wayOfBlind 5 = .ok (.aload_n 0, 1) := by decide +kernel
theorem d_PA_wayOfBlind_6 : decode c_PA_wayOfBlind 6 = .ok (.getfield 70, 3) := by decide +kernel
theorem d_PA_wayOfBlind_9 : decode c_PA_wayOfBlind 9 = .ok (.if_icmp .lt 8, 3) := by decide +kernel
theorem d_PA_wayOfBlind_12 : decode c_PA_wayOfBlind 12 = .ok (.bipush (-2), 2) := by decide +kernel
theorem d_PA_wayOfBlind_14 : decode c_PA_wayOfBlind 14 = .ok (.goto 11, 3) := by decide +kernel
theorem d_PA_wayOfBlind_17 : decode c_PA_wayOfBlind 17 = .ok (.aload_n 0, 1) := by decide +kernel
theorem d_PA_wayOfBlind_18 : decode c_PA_wayOfBlind 18 = .ok (.getfield 35, 3) := by decide +kernel
theorem d_PA_wayOfBlind_21 : decode c_PA_wayOfBlind 21 = .ok (.iload_n 1, 1) := by decide +kernel
theorem d_PA_wayOfBlind_22 : decode c_PA_wayOfBlind 22 = .ok (.iaload, 1) := by decide +kernel
theorem d_PA_wayOfBlind_23 : decode c_PA_wayOfBlind 23 = .ok (.iconst 1, 1) := by decide +kernel
theorem d_PA_wayOfBlind_24 : decode c_PA_wayOfBlind 24 = .ok (.isub, 1) := by decide +kernel
theorem d_PA_wayOfBlind_25 : decode c_PA_wayOfBlind 25 = .ok (.ireturn, 1) := by decide +kernel
def S_PA_wayOfBlind_0 (g : Gx) (Q : Int32 → St → Prop) (σ : St) (x1 : Int32) : Prop := Ax g m_PA_wayOfBlind 0 0 (ZI g Q) SH σ 0 0 0 [(0, .ref (gB g + 69)), (1, .int x1)] []
theorem sg_PA_wayOfBlind_0 {g : Gx} {Q : Int32 → St → Prop} {σ : St} {x1 : Int32}
    (h : (x1 < 0 → Q (-2 : Int32) σ) ∧ (¬ x1 < 0 → (x1 < (fi σ 69 13) → vp_in x1 7 ∧ (Q ((ai σ 77 (x1).toNatClampNeg) - (1 : Int32)) σ)) ∧ (¬ x1 < (fi σ 69 13) → Q (-2 : Int32) σ))) : S_PA_wayOfBlind_0 g Q σ x1 := by
  show Ax g m_PA_wayOfBlind 0 0 (ZI g Q) SH σ 0 0 0 [(0, .ref (gB g + 69)), (1, .int x1)] []
  refine a_iload_n (pc := 0) 1 rfl rfl d_PA_wayOfBlind_0 ?_
  refine a_if_lt (pc := 1) 12 (by decide) d_PA_wayOfBlind_1 ⟨fun c0 => ?_, fun c0 => ?_⟩
  · replace h := h.1 c0
    refine a_bipush (pc := 12) (-2 : Int32) (by decide) d_PA_wayOfBlind_12 ?_
    refine a_goto (pc := 14) 25 (by decide) d_PA_wayOfBlind_14 ?_
    exact b_iret (pc := 25) rfl d_PA_wayOfBlind_25 h
  · replace h := h.2 c0
    refine a_iload_n (pc := 4) 1 rfl rfl d_PA_wayOfBlind_4 ?_
    refine a_aload_n (pc := 5) 0 rfl rfl d_PA_wayOfBlind_5 ?_
    refine a_getI (pc := 6) fg_PA_70 sx_69 rfl d_PA_wayOfBlind_6 ?_
    refine a_icmp_lt (pc := 9) 17 (by decide) d_PA_wayOfBlind_9 ⟨fun c0 => ?_, fun c0 => ?_⟩
    · replace h := h.1 c0
      refine a_aload_n (pc := 17) 0 rfl rfl d_PA_wayOfBlind_17 ?_
      refine a_getR (pc := 18) fg_PA_35 sx_69 rfl d_PA_wayOfBlind_18 ?_
      refine a_iload_n (pc := 21) 1 rfl rfl d_PA_wayOfBlind_21 ?_
      obtain ⟨hx, h⟩ := h
      refine a_iald (pc := 22) sx_77 hx d_PA_wayOfBlind_22 ?_
      refine a_iconst (pc := 23) (1 : Int32) (by decide) d_PA_wayOfBlind_23 ?_
      refine a_isub (pc := 24) d_PA_wayOfBlind_24 ?_
      exact b_iret (pc := 25) rfl d_PA_wayOfBlind_25 h
    · replace h := h.2 c0
      refine a_bipush (pc := 12) (-2 : Int32) (by decide) d_PA_wayOfBlind_12 ?_
      refine a_goto (pc := 14) 25 (by decide) d_PA_wayOfBlind_14 ?_
      exact b_iret (pc := 25) rfl d_PA_wayOfBlind_25 h
theorem ko_PA_wayOfBlind {g : Gx}  {x1 : Int32} {σ : St} {Q : Int32 → St → Prop} (h : S_PA_wayOfBlind_0 g Q σ x1) : K_PA_wayOfBlind g x1 σ Q := KI.of (show plainName "BallBox$Pairs" = true by decide) (Nat.le_of_ble_eq_true rfl) h
theorem d_PA_listSituations_0 : decode c_PA_listSituations 0 = .ok (.aload_n 0, 1) := by decide +kernel
theorem d_PA_listSituations_1 : decode c_PA_listSituations 1 = .ok (.iconst 0, 1) := by decide +kernel
theorem d_PA_listSituations_2 : decode c_PA_listSituations 2 = .ok (.putfield 77, 3) := by decide +kernel
theorem d_PA_listSituations_5 : decode c_PA_listSituations 5 = .ok (.iload_n 1, 1) := by decide +kernel
theorem d_PA_listSituations_6 : decode c_PA_listSituations 6 = .ok (.ifCond .le 7, 3) := by decide +kernel
theorem d_PA_listSituations_9 : decode c_PA_listSituations 9 = .ok (.iload_n 2, 1) := by decide +kernel
theorem d_PA_listSituations_10 : decode c_PA_listSituations 10 = .ok (.goto 4, 3) := by decide +kernel
theorem d_PA_listSituations_13 : decode c_PA_listSituations 13 = .ok (.iconst 0, 1) := by decide +kernel
theorem d_PA_listSituations_14 : decode c_PA_listSituations 14 = .ok (.istore_n 3, 1) := by decide +kernel
theorem d_PA_listSituations_15 : decode c_PA_listSituations 15 = .ok (.iload_n 1, 1) := by decide +kernel
theorem d_PA_listSituations_16 : decode c_PA_listSituations 16 = .ok (.iconst 1, 1) := by decide +kernel
theorem d_PA_listSituations_17 : decode c_PA_listSituations 17 = .ok (.if_icmp .le 7, 3) := by decide +kernel
theorem d_PA_listSituations_20 : decode c_PA_listSituations 20 = .ok (.iload_n 2, 1) := by decide +kernel
theorem d_PA_listSituations_21 : decode c_PA_listSituations 21 = .ok (.goto 4, 3) := by decide +kernel
theorem d_PA_listSituations_24 : decode c_PA_listSituations 24 = .ok (.iconst 0, 1) := by decide +kernel
theorem d_PA_listSituations_25 : decode c_PA_listSituations 25 = .ok (.istore 4, 2) := by decide +kernel
theorem d_PA_listSituations_27 : decode c_PA_listSituations 27 = .ok (.iconst (-1), 1) := by decide +kernel
theorem d_PA_listSituations_28 : decode c_PA_listSituations 28 = .ok (.istore 5, 2) := by decide +kernel
theorem d_PA_listSituations_30 : decode c_PA_listSituations 30 = .ok (.iload 5, 2) := by decide +kernel
theorem d_PA_listSituations_32 : decode c_PA_listSituations 32 = .ok (.iload_n 3, 1) := by decide +kernel
theorem d_PA_listSituations_33 : decode c_PA_listSituations 33 = .ok (.if_icmp .ge 112, 3) := by decide +kernel
theorem d_PA_listSituations_36 : decode c_PA_listSituations 36 = .ok (.iconst (-1), 1) := by decide +kernel
theorem d_PA_listSituations_37 : decode c_PA_listSituations 37 = .ok (.istore 6, 2) := by decide +kernel
theorem d_PA_listSituations_39 : decode c_PA_listSituations 39 = .ok (.iload 6, 2) := by decide +kernel
theorem d_PA_listSituations_41 : decode c_PA_listSituations 41 = .ok (.iload 4, 2) := by decide +kernel
theorem d_PA_listSituations_43 : decode c_PA_listSituations 43 = .ok (.if_icmp .ge 96, 3) := by decide +kernel
theorem d_PA_listSituations_46 : decode c_PA_listSituations 46 = .ok (.iload 5, 2) := by decide +kernel
theorem d_PA_listSituations_48 : decode c_PA_listSituations 48 = .ok (.ifCond .lt 10, 3) := by decide +kernel
theorem d_PA_listSituations_51 : decode c_PA_listSituations 51 = .ok (.iload 5, 2) := by decide +kernel
theorem d_PA_listSituations_53 : decode c_PA_listSituations 53 = .ok (.iload 6, 2) := by decide +kernel
theorem d_PA_listSituations_55 : decode c_PA_listSituations 55 = .ok (.if_icmp .eq 78, 3) := by decide +kernel
theorem d_PA_listSituations_58 : decode c_PA_listSituations 58 = .ok (.aload_n 0, 1) := by decide +kernel
theorem d_PA_listSituations_59 : decode c_PA_listSituations 59 = .ok (.getfield 77, 3) := by decide +kernel
theorem d_PA_listSituations_62 : decode c_PA_listSituations 62 = .ok (.aload_n 0, 1) := by decide +kernel
theorem d_PA_listSituations_63 : decode c_PA_listSituations 63 = .ok (.getfield 23, 3) := by decide +kernel
theorem d_PA_listSituations_66 : decode c_PA_listSituations 66 = .ok (.arraylength, 1) := by decide +kernel
theorem d_PA_listSituations_67 : decode c_PA_listSituations 67 = .ok (.if_icmp .ge 66, 3) := by decide +kernel
theorem d_PA_listSituations_70 : decode c_PA_listSituations 70 = .ok (.iload 5, 2) := by decide +kernel
theorem d_PA_listSituations_72 : decode c_PA_listSituations 72 = .ok (.ifCond .ge 7, 3) := by decide +kernel
theorem d_PA_listSituations_75 : decode c_PA_listSituations 75 = .ok (.iconst 0, 1) := by decide +kernel
theorem d_PA_listSituations_76 : decode c_PA_listSituations 76 = .ok (.goto 10, 3) := by decide +kernel
theorem d_PA_listSituations_79 : decode c_PA_listSituations 79 = .ok (.aload_n 0, 1) := by decide +kernel
theorem d_PA_listSituations_80 : decode c_PA_listSituations 80 = .ok (.getfield 11, 3) := by decide +kernel
theorem d_PA_listSituations_83 : decode c_PA_listSituations 83 = .ok (.iload 5, 2) := by decide +kernel
theorem d_PA_listSituations_85 : decode c_PA_listSituations 85 = .ok (.iaload, 1) := by decide +kernel
theorem d_PA_listSituations_86 : decode c_PA_listSituations 86 = .ok (.istore 7, 2) := by decide +kernel
theorem d_PA_listSituations_88 : decode c_PA_listSituations 88 = .ok (.iload 6, 2) := by decide +kernel
theorem d_PA_listSituations_90 : decode c_PA_listSituations 90 = .ok (.ifCond .ge 7, 3) := by decide +kernel
theorem d_PA_listSituations_93 : decode c_PA_listSituations 93 = .ok (.iconst 0, 1) := by decide +kernel
theorem d_PA_listSituations_94 : decode c_PA_listSituations 94 = .ok (.goto 10, 3) := by decide +kernel
theorem d_PA_listSituations_97 : decode c_PA_listSituations 97 = .ok (.aload_n 0, 1) := by decide +kernel
theorem d_PA_listSituations_98 : decode c_PA_listSituations 98 = .ok (.getfield 11, 3) := by decide +kernel
theorem d_PA_listSituations_101 : decode c_PA_listSituations 101 = .ok (.iload 6, 2) := by decide +kernel
theorem d_PA_listSituations_103 : decode c_PA_listSituations 103 = .ok (.iaload, 1) := by decide +kernel
theorem d_PA_listSituations_104 : decode c_PA_listSituations 104 = .ok (.istore 8, 2) := by decide +kernel
theorem d_PA_listSituations_106 : decode c_PA_listSituations 106 = .ok (.aload_n 0, 1) := by decide +kernel
theorem d_PA_listSituations_107 : decode c_PA_listSituations 107 = .ok (.getfield 23, 3) := by decide +kernel
theorem d_PA_listSituations_110 : decode c_PA_listSituations 110 = .ok (.aload_n 0, 1) := by decide +kernel
theorem d_PA_listSituations_111 : decode c_PA_listSituations 111 = .ok (.getfield 77, 3) := by decide +kernel
theorem d_PA_listSituations_114 : decode c_PA_listSituations 114 = .ok (.iload 7, 2) := by decide +kernel
theorem d_PA_listSituations_116 : decode c_PA_listSituations 116 = .ok (.bipush 64, 2) := by decide +kernel
theorem d_PA_listSituations_118 : decode c_PA_listSituations 118 = .ok (.iload 8, 2) := by decide +kernel
theorem d_PA_listSituations_120 : decode c_PA_listSituations 120 = .ok (.imul, 1) := by decide +kernel
theorem d_PA_listSituations_121 : decode c_PA_listSituations 121 = .ok (.iadd, 1) := by decide +kernel
theorem d_PA_listSituations_122 : decode c_PA_listSituations 122 = .ok (.iastore, 1) := by decide +kernel
theorem d_PA_listSituations_123 : decode c_PA_listSituations 123 = .ok (.aload_n 0, 1) := by decide +kernel
theorem d_PA_listSituations_124 : decode c_PA_listSituations 124 = .ok (.dup, 1) := by decide +kernel
theorem d_PA_listSituations_125 : decode c_PA_listSituations 125 = .ok (.getfield 77, 3) := by decide +kernel
theorem d_PA_listSituations_128 : decode c_PA_listSituations 128 = .ok (.iconst 1, 1) := by decide +kernel
theorem d_PA_listSituations_129 : decode c_PA_listSituations 129 = .ok (.iadd, 1) := by decide +kernel
theorem d_PA_listSituations_130 : decode c_PA_listSituations 130 = .ok (.putfield 77, 3) := by decide +kernel
theorem d_PA_listSituations_133 : decode c_PA_listSituations 133 = .ok (.iinc 6 1, 3) := by decide +kernel
theorem d_PA_listSituations_136 : decode c_PA_listSituations 136 = .ok (.goto (-97), 3) := by decide +kernel
theorem d_PA_listSituations_139 : decode c_PA_listSituations 139 = .ok (.iinc 5 1, 3) := by decide +kernel
theorem d_PA_listSituations_142 : decode c_PA_listSituations 142 = .ok (.goto (-112), 3) := by decide +kernel
theorem d_PA_listSituations_145 : decode c_PA_listSituations 145 = .ok (.return_, 1) := by decide +kernel
def S_PA_listSituations_0 (g : Gx) (Q : St → Prop) (σ : St) (x1 : Int32) (x2 : Int32) : Prop := Ax g m_PA_listSituations 0 0 (ZV g Q) SH σ 0 0 0 [(0, .ref (gB g + 69)), (1, .int x1), (2, .int x2)] []
def S_PA_listSituations_14 (g : Gx) (Q : St → Prop) (σ : St) (x1 : Int32) (x2 : Int32) (z0 : Int32) : Prop := Ax g m_PA_listSituations 0 0 (ZV g Q) SH σ 0 0 14 [(0, .ref (gB g + 69)), (1, .int x1), (2, .int x2)] [.int z0]
def S_PA_listSituations_30 (g : Gx) (Q : St → Prop) (σ : St) (x3 : Int32) (x4 : Int32) (x5 : Int32) : Prop := Ax g m_PA_listSituations 0 0 (ZV g Q) SH σ 0 0 30 [(0, .ref (gB g + 69)), (3, .int x3), (4, .int x4), (5, .int x5)] []
def S_PA_listSituations_39 (g : Gx) (Q : St → Prop) (σ : St) (x3 : Int32) (x4 : Int32) (x5 : Int32) (x6 : Int32) : Prop := Ax g m_PA_listSituations 0 0 (ZV g Q) SH σ 0 0 39 [(0, .ref (gB g + 69)), (3, .int x3), (4, .int x4), (5, .int x5), (6, .int x6)] []
def S_PA_listSituations_58 (g : Gx) (Q : St → Prop) (σ : St) (x3 : Int32) (x4 : Int32) (x5 : Int32) (x6 : Int32) : Prop := Ax g m_PA_listSituations 0 0 (ZV g Q) SH σ 0 0 58 [(0, .ref (gB g + 69)), (3, .int x3), (4, .int x4), (5, .int x5), (6, .int x6)] []
def S_PA_listSituations_104 (g : Gx) (Q : St → Prop) (σ : St) (x3 : Int32) (x4 : Int32) (x5 : Int32) (x6 : Int32) (x7 : Int32) (z0 : Int32) : Prop := Ax g m_PA_listSituations 0 0 (ZV g Q) SH σ 0 0 104 [(0, .ref (gB g + 69)), (3, .int x3), (4, .int x4), (5, .int x5), (6, .int x6), (7, .int x7)] [.int z0]
theorem sg_PA_listSituations_0 {g : Gx} {Q : St → Prop} {σ : St} {x1 : Int32} {x2 : Int32}
    (h : ∀ s1 : St, s1 = sfi σ 69 9 (0 : Int32) → (x1 ≤ 0 → S_PA_listSituations_14 g Q s1 x1 x2 (0 : Int32)) ∧ (¬ x1 ≤ 0 → S_PA_listSituations_14 g Q s1 x1 x2 x2)) : S_PA_listSituations_0 g Q σ x1 x2 := by
  show Ax g m_PA_listSituations 0 0 (ZV g Q) SH σ 0 0 0 [(0, .ref (gB g + 69)), (1, .int x1), (2, .int x2)] []
  refine a_aload_n (pc := 0) 0 rfl rfl d_PA_listSituations_0 ?_
  refine a_iconst (pc := 1) (0 : Int32) (by decide) d_PA_listSituations_1 ?_
  refine a_putI (pc := 2) fp_PA_77 sx_69 rfl d_PA_listSituations_2 ?_
  refine a_nms (fun s1 hs1 => ?_)
  replace h := h s1 hs1
  refine a_iload_n (pc := 5) 1 rfl rfl d_PA_listSituations_5 ?_
  refine a_if_le (pc := 6) 13 (by decide) d_PA_listSituations_6 ⟨fun c0 => ?_, fun c0 => ?_⟩
  · replace h := h.1 c0
    refine a_iconst (pc := 13) (0 : Int32) (by decide) d_PA_listSituations_13 ?_
    refine a_sub (pc := 14) [0, 1, 2] rfl ?_
    exact h
  · replace h := h.2 c0
    refine a_iload_n (pc := 9) 2 rfl rfl d_PA_listSituations_9 ?_
    refine a_goto (pc := 10) 14 (by decide) d_PA_listSituations_10 ?_
    refine a_sub (pc := 14) [0, 1, 2] rfl ?_
    exact h
theorem sg_PA_listSituations_14 {g : Gx} {Q : St → Prop} {σ : St} {x1 : Int32} {x2 : Int32} {z0 : Int32}
    (h : (x1 ≤ (1 : Int32) → S_PA_listSituations_30 g Q σ z0 (0 : Int32) (-1 : Int32)) ∧ (¬ x1 ≤ (1 : Int32) → S_PA_listSituations_30 g Q σ z0 x2 (-1 : Int32))) : S_PA_listSituations_14 g Q σ x1 x2 z0 := by
  show Ax g m_PA_listSituations 0 0 (ZV g Q) SH σ 0 0 14 [(0, .ref (gB g + 69)), (1, .int x1), (2, .int x2)] [.int z0]
  refine a_istore_n (pc := 14) (lv' := [(3, .int z0), (0, .ref (gB g + 69)), (1, .int x1), (2, .int x2)]) rfl (Nat.le_of_ble_eq_true rfl) rfl d_PA_listSituations_14 ?_
  refine a_iload_n (pc := 15) 2 rfl rfl d_PA_listSituations_15 ?_
  refine a_iconst (pc := 16) (1 : Int32) (by decide) d_PA_listSituations_16 ?_
  refine a_icmp_le (pc := 17) 24 (by decide) d_PA_listSituations_17 ⟨fun c0 => ?_, fun c0 => ?_⟩
  · replace h := h.1 c0
    refine a_iconst (pc := 24) (0 : Int32) (by decide) d_PA_listSituations_24 ?_
    refine a_istore (pc := 25) (lv' := [(4, .int (0 : Int32)), (3, .int z0), (0, .ref (gB g + 69)), (1, .int x1), (2, .int x2)]) (Nat.le_of_ble_eq_true rfl) rfl d_PA_listSituations_25 ?_
    refine a_iconst (pc := 27) (-1 : Int32) (by decide) d_PA_listSituations_27 ?_
    refine a_istore (pc := 28) (lv' := [(5, .int (-1 : Int32)), (4, .int (0 : Int32)), (3, .int z0), (0, .ref (gB g + 69)), (1, .int x1), (2, .int x2)]) (Nat.le_of_ble_eq_true rfl) rfl d_PA_listSituations_28 ?_
    refine a_sub (pc := 30) [3, 2, 1, 0] rfl ?_
    exact h
  · replace h := h.2 c0
    refine a_iload_n (pc := 20) 3 rfl rfl d_PA_listSituations_20 ?_
    refine a_goto (pc := 21) 25 (by decide) d_PA_listSituations_21 ?_
    refine a_istore (pc := 25) (lv' := [(4, .int x2), (3, .int z0), (0, .ref (gB g + 69)), (1, .int x1), (2, .int x2)]) (Nat.le_of_ble_eq_true rfl) rfl d_PA_listSituations_25 ?_
    refine a_iconst (pc := 27) (-1 : Int32) (by decide) d_PA_listSituations_27 ?_
    refine a_istore (pc := 28) (lv' := [(5, .int (-1 : Int32)), (4, .int x2), (3, .int z0), (0, .ref (gB g + 69)), (1, .int x1), (2, .int x2)]) (Nat.le_of_ble_eq_true rfl) rfl d_PA_listSituations_28 ?_
    refine a_sub (pc := 30) [3, 2, 1, 0] rfl ?_
    exact h
theorem sg_PA_listSituations_30 {g : Gx} {Q : St → Prop} {σ : St} {x3 : Int32} {x4 : Int32} {x5 : Int32}
    (h : (x3 ≤ x5 → Q σ) ∧ (¬ x3 ≤ x5 → S_PA_listSituations_39 g Q σ x3 x4 x5 (-1 : Int32))) : S_PA_listSituations_30 g Q σ x3 x4 x5 := by
  show Ax g m_PA_listSituations 0 0 (ZV g Q) SH σ 0 0 30 [(0, .ref (gB g + 69)), (3, .int x3), (4, .int x4), (5, .int x5)] []
  refine a_iload (pc := 30) 3 rfl d_PA_listSituations_30 ?_
  refine a_iload_n (pc := 32) 1 rfl rfl d_PA_listSituations_32 ?_
  refine a_icmp_ge (pc := 33) 145 (by decide) d_PA_listSituations_33 ⟨fun c0 => ?_, fun c0 => ?_⟩
  · replace h := h.1 c0
    exact b_vret (pc := 145) rfl d_PA_listSituations_145 h
  · replace h := h.2 c0
    refine a_iconst (pc := 36) (-1 : Int32) (by decide) d_PA_listSituations_36 ?_
    refine a_istore (pc := 37) (lv' := [(6, .int (-1 : Int32)), (0, .ref (gB g + 69)), (3, .int x3), (4, .int x4), (5, .int x5)]) (Nat.le_of_ble_eq_true rfl) rfl d_PA_listSituations_37 ?_
    refine a_sub (pc := 39) [1, 2, 3, 4, 0] rfl ?_
    exact h
theorem sg_PA_listSituations_39 {g : Gx} {Q : St → Prop} {σ : St} {x3 : Int32} {x4 : Int32} {x5 : Int32} {x6 : Int32}
    (h : (x4 ≤ x6 → ∀ u1 : Int32, u1 = x5 + (1 : Int32) → S_PA_listSituations_30 g Q σ x3 x4 u1) ∧ (¬ x4 ≤ x6 → (x5 < 0 → S_PA_listSituations_58 g Q σ x3 x4 x5 x6) ∧ (¬ x5 < 0 → (x5 = x6 → ∀ u2 : Int32, u2 = x6 + (1 : Int32) → S_PA_listSituations_39 g Q σ x3 x4 x5 u2) ∧ (¬ x5 = x6 → S_PA_listSituations_58 g Q σ x3 x4 x5 x6)))) : S_PA_listSituations_39 g Q σ x3 x4 x5 x6 := by
  show Ax g m_PA_listSituations 0 0 (ZV g Q) SH σ 0 0 39 [(0, .ref (gB g + 69)), (3, .int x3), (4, .int x4), (5, .int x5), (6, .int x6)] []
  refine a_iload (pc := 39) 4 rfl d_PA_listSituations_39 ?_
  refine a_iload (pc := 41) 2 rfl d_PA_listSituations_41 ?_
  refine a_icmp_ge (pc := 43) 139 (by decide) d_PA_listSituations_43 ⟨fun c0 => ?_, fun c0 => ?_⟩
  · replace h := h.1 c0
    obtain ⟨u1, hu1⟩ : ∃ y : Int32, y = x5 + (1 : Int32) := ⟨_, rfl⟩
    replace h := h u1 hu1
    refine a_iinc (pc := 139) (v := u1) (lv' := [(5, .int u1), (0, .ref (gB g + 69)), (3, .int x3), (4, .int x4), (6, .int x6)]) 3 rfl (by rw [hu1]; rfl) (Nat.le_of_ble_eq_true rfl) rfl d_PA_listSituations_139 ?_
    refine a_goto (pc := 142) 30 (by decide) d_PA_listSituations_142 ?_
    refine a_sub (pc := 30) [1, 2, 3, 0] rfl ?_
    exact h
  · replace h := h.2 c0
    refine a_iload (pc := 46) 3 rfl d_PA_listSituations_46 ?_
    refine a_if_lt (pc := 48) 58 (by decide) d_PA_listSituations_48 ⟨fun c0 => ?_, fun c0 => ?_⟩
    · replace h := h.1 c0
      refine a_sub (pc := 58) [0, 1, 2, 3, 4] rfl ?_
      exact h
    · replace h := h.2 c0
      refine a_iload (pc := 51) 3 rfl d_PA_listSituations_51 ?_
      refine a_iload (pc := 53) 4 rfl d_PA_listSituations_53 ?_
      refine a_icmp_eq (pc := 55) 133 (by decide) d_PA_listSituations_55 ⟨fun c0 => ?_, fun c0 => ?_⟩
      · replace h := h.1 c0
        obtain ⟨u2, hu2⟩ : ∃ y : Int32, y = x6 + (1 : Int32) := ⟨_, rfl⟩
        replace h := h u2 hu2
        refine a_iinc (pc := 133) (v := u2) (lv' := [(6, .int u2), (0, .ref (gB g + 69)), (3, .int x3), (4, .int x4), (5, .int x5)]) 4 rfl (by rw [hu2]; rfl) (Nat.le_of_ble_eq_true rfl) rfl d_PA_listSituations_133 ?_
        refine a_goto (pc := 136) 39 (by decide) d_PA_listSituations_136 ?_
        refine a_sub (pc := 39) [1, 2, 3, 4, 0] rfl ?_
        exact h
      · replace h := h.2 c0
        refine a_sub (pc := 58) [0, 1, 2, 3, 4] rfl ?_
        exact h
theorem sg_PA_listSituations_58 {g : Gx} {Q : St → Prop} {σ : St} {x3 : Int32} {x4 : Int32} {x5 : Int32} {x6 : Int32}
    (h : ((1369 : Int32) ≤ (fi σ 69 9) → ∀ u1 : Int32, u1 = x6 + (1 : Int32) → S_PA_listSituations_39 g Q σ x3 x4 x5 u1) ∧ (¬ (1369 : Int32) ≤ (fi σ 69 9) → (0 ≤ x5 → vp_in x5 36 ∧ (∀ u2 : Int32, u2 = (ai σ 70 (x5).toNatClampNeg) → (0 ≤ x6 → vp_in x6 36 ∧ (S_PA_listSituations_104 g Q σ x3 x4 x5 x6 u2 (ai σ 70 (x6).toNatClampNeg))) ∧ (¬ 0 ≤ x6 → S_PA_listSituations_104 g Q σ x3 x4 x5 x6 u2 (0 : Int32)))) ∧ (¬ 0 ≤ x5 → (0 ≤ x6 → vp_in x6 36 ∧ (S_PA_listSituations_104 g Q σ x3 x4 x5 x6 (0 : Int32) (ai σ 70 (x6).toNatClampNeg))) ∧ (¬ 0 ≤ x6 → S_PA_listSituations_104 g Q σ x3 x4 x5 x6 (0 : Int32) (0 : Int32))))) : S_PA_listSituations_58 g Q σ x3 x4 x5 x6 := by
  show Ax g m_PA_listSituations 0 0 (ZV g Q) SH σ 0 0 58 [(0, .ref (gB g + 69)), (3, .int x3), (4, .int x4), (5, .int x5), (6, .int x6)] []
  refine a_aload_n (pc := 58) 0 rfl rfl d_PA_listSituations_58 ?_
  refine a_getI (pc := 59) fg_PA_77 sx_69 rfl d_PA_listSituations_59 ?_
  refine a_aload_n (pc := 62) 0 rfl rfl d_PA_listSituations_62 ?_
  refine a_getR (pc := 63) fg_PA_23 sx_69 rfl d_PA_listSituations_63 ?_
  refine a_alen (pc := 66) (kd := 0) rfl sx_73 d_PA_listSituations_66 ?_
  refine a_icmp_ge (pc := 67) 133 (by decide) d_PA_listSituations_67 ⟨fun c0 => ?_, fun c0 => ?_⟩
  · replace h := h.1 c0
    obtain ⟨u1, hu1⟩ : ∃ y : Int32, y = x6 + (1 : Int32) := ⟨_, rfl⟩
    replace h := h u1 hu1
    refine a_iinc (pc := 133) (v := u1) (lv' := [(6, .int u1), (0, .ref (gB g + 69)), (3, .int x3), (4, .int x4), (5, .int x5)]) 4 rfl (by rw [hu1]; rfl) (Nat.le_of_ble_eq_true rfl) rfl d_PA_listSituations_133 ?_
    refine a_goto (pc := 136) 39 (by decide) d_PA_listSituations_136 ?_
    refine a_sub (pc := 39) [1, 2, 3, 4, 0] rfl ?_
    exact h
  · replace h := h.2 c0
    refine a_iload (pc := 70) 3 rfl d_PA_listSituations_70 ?_
    refine a_if_ge (pc := 72) 79 (by decide) d_PA_listSituations_72 ⟨fun c0 => ?_, fun c0 => ?_⟩
    · replace h := h.1 c0
      refine a_aload_n (pc := 79) 0 rfl rfl d_PA_listSituations_79 ?_
      refine a_getR (pc := 80) fg_PA_11 sx_69 rfl d_PA_listSituations_80 ?_
      refine a_iload (pc := 83) 3 rfl d_PA_listSituations_83 ?_
      obtain ⟨hx, h⟩ := h
      refine a_iald (pc := 85) sx_70 hx d_PA_listSituations_85 ?_
      refine a_nmi (pc := 86) (fun u2 hu2 => ?_)
      replace h := h u2 hu2
      refine a_istore (pc := 86) (lv' := [(7, .int u2), (0, .ref (gB g + 69)), (3, .int x3), (4, .int x4), (5, .int x5), (6, .int x6)]) (Nat.le_of_ble_eq_true rfl) rfl d_PA_listSituations_86 ?_
      refine a_iload (pc := 88) 5 rfl d_PA_listSituations_88 ?_
      refine a_if_ge (pc := 90) 97 (by decide) d_PA_listSituations_90 ⟨fun c0 => ?_, fun c0 => ?_⟩
      · replace h := h.1 c0
        refine a_aload_n (pc := 97) 1 rfl rfl d_PA_listSituations_97 ?_
        refine a_getR (pc := 98) fg_PA_11 sx_69 rfl d_PA_listSituations_98 ?_
        refine a_iload (pc := 101) 5 rfl d_PA_listSituations_101 ?_
        obtain ⟨hx, h⟩ := h
        refine a_iald (pc := 103) sx_70 hx d_PA_listSituations_103 ?_
        refine a_sub (pc := 104) [1, 2, 3, 4, 5, 0] rfl ?_
        exact h
      · replace h := h.2 c0
        refine a_iconst (pc := 93) (0 : Int32) (by decide) d_PA_listSituations_93 ?_
        refine a_goto (pc := 94) 104 (by decide) d_PA_listSituations_94 ?_
        refine a_sub (pc := 104) [1, 2, 3, 4, 5, 0] rfl ?_
        exact h
    · replace h := h.2 c0
      refine a_iconst (pc := 75) (0 : Int32) (by decide) d_PA_listSituations_75 ?_
      refine a_goto (pc := 76) 86 (by decide) d_PA_listSituations_76 ?_
      refine a_istore (pc := 86) (lv' := [(7, .int (0 : Int32)), (0, .ref (gB g + 69)), (3, .int x3), (4, .int x4), (5, .int x5), (6, .int x6)]) (Nat.le_of_ble_eq_true rfl) rfl d_PA_listSituations_86 ?_
      refine a_iload (pc := 88) 5 rfl d_PA_listSituations_88 ?_
      refine a_if_ge (pc := 90) 97 (by decide) d_PA_listSituations_90 ⟨fun c0 => ?_, fun c0 => ?_⟩
      · replace h := h.1 c0
        refine a_aload_n (pc := 97) 1 rfl rfl d_PA_listSituations_97 ?_
        refine a_getR (pc := 98) fg_PA_11 sx_69 rfl d_PA_listSituations_98 ?_
        refine a_iload (pc := 101) 5 rfl d_PA_listSituations_101 ?_
        obtain ⟨hx, h⟩ := h
        refine a_iald (pc := 103) sx_70 hx d_PA_listSituations_103 ?_
        refine a_sub (pc := 104) [1, 2, 3, 4, 5, 0] rfl ?_
        exact h
      · replace h := h.2 c0
        refine a_iconst (pc := 93) (0 : Int32) (by decide) d_PA_listSituations_93 ?_
        refine a_goto (pc := 94) 104 (by decide) d_PA_listSituations_94 ?_
        refine a_sub (pc := 104) [1, 2, 3, 4, 5, 0] rfl ?_
        exact h
theorem sg_PA_listSituations_104 {g : Gx} {Q : St → Prop} {σ : St} {x3 : Int32} {x4 : Int32} {x5 : Int32} {x6 : Int32} {x7 : Int32} {z0 : Int32}
    (h : vp_in (fi σ 69 9) 1369 ∧ (∀ s1 : St, s1 = sai σ 73 ((fi σ 69 9)).toNatClampNeg (x7 + ((64 : Int32) * z0)) → ∀ s2 : St, s2 = sfi s1 69 9 ((fi s1 69 9) + (1 : Int32)) → ∀ u3 : Int32, u3 = x6 + (1 : Int32) → S_PA_listSituations_39 g Q s2 x3 x4 x5 u3)) : S_PA_listSituations_104 g Q σ x3 x4 x5 x6 x7 z0 := by
  show Ax g m_PA_listSituations 0 0 (ZV g Q) SH σ 0 0 104 [(0, .ref (gB g + 69)), (3, .int x3), (4, .int x4), (5, .int x5), (6, .int x6), (7, .int x7)] [.int z0]
  refine a_istore (pc := 104) (lv' := [(8, .int z0), (0, .ref (gB g + 69)), (3, .int x3), (4, .int x4), (5, .int x5), (6, .int x6), (7, .int x7)]) (Nat.le_of_ble_eq_true rfl) rfl d_PA_listSituations_104 ?_
  refine a_aload_n (pc := 106) 1 rfl rfl d_PA_listSituations_106 ?_
  refine a_getR (pc := 107) fg_PA_23 sx_69 rfl d_PA_listSituations_107 ?_
  refine a_aload_n (pc := 110) 1 rfl rfl d_PA_listSituations_110 ?_
  refine a_getI (pc := 111) fg_PA_77 sx_69 rfl d_PA_listSituations_111 ?_
  refine a_iload (pc := 114) 6 rfl d_PA_listSituations_114 ?_
  refine a_bipush (pc := 116) (64 : Int32) (by decide) d_PA_listSituations_116 ?_
  refine a_iload (pc := 118) 0 rfl d_PA_listSituations_118 ?_
  refine a_imul (pc := 120) d_PA_listSituations_120 ?_
  refine a_iadd (pc := 121) d_PA_listSituations_121 ?_
  obtain ⟨hx, h⟩ := h
  refine a_iast (pc := 122) sx_73 hx d_PA_listSituations_122 ?_
  refine a_nms (fun s1 hs1 => ?_)
  replace h := h s1 hs1
  refine a_aload_n (pc := 123) 1 rfl rfl d_PA_listSituations_123 ?_
  refine a_dup (pc := 124) rfl d_PA_listSituations_124 ?_
  refine a_getI (pc := 125) fg_PA_77 sx_69 rfl d_PA_listSituations_125 ?_
  refine a_iconst (pc := 128) (1 : Int32) (by decide) d_PA_listSituations_128 ?_
  refine a_iadd (pc := 129) d_PA_listSituations_129 ?_
  refine a_putI (pc := 130) fp_PA_77 sx_69 rfl d_PA_listSituations_130 ?_
  refine a_nms (fun s2 hs2 => ?_)
  replace h := h s2 hs2
  obtain ⟨u3, hu3⟩ : ∃ y : Int32, y = x6 + (1 : Int32) := ⟨_, rfl⟩
  replace h := h u3 hu3
  refine a_iinc (pc := 133) (v := u3) (lv' := [(6, .int u3), (8, .int z0), (0, .ref (gB g + 69)), (3, .int x3), (4, .int x4), (5, .int x5), (7, .int x7)]) 5 rfl (by rw [hu3]; rfl) (Nat.le_of_ble_eq_true rfl) rfl d_PA_listSituations_133 ?_
  refine a_goto (pc := 136) 39 (by decide) d_PA_listSituations_136 ?_
  refine a_sub (pc := 39) [2, 3, 4, 5, 0] rfl ?_
  exact h
theorem ko_PA_listSituations {g : Gx}  {x1 : Int32} {x2 : Int32} {σ : St} {Q : St → Prop} (h : S_PA_listSituations_0 g Q σ x1 x2) : K_PA_listSituations g x1 x2 σ Q := KV.of (show plainName "BallBox$Pairs" = true by decide) (Nat.le_of_ble_eq_true rfl) h
theorem d_PA_rollAll_0 : decode c_PA_rollAll 0 = .ok (.iconst 0, 1) := by decide +kernel
theorem d_PA_rollAll_1 : decode c_PA_rollAll 1 = .ok (.istore_n 2, 1) := by decide +kernel
theorem d_PA_rollAll_2 : decode c_PA_rollAll 2 = .ok (.iload_n 2, 1) := by decide +kernel
theorem d_PA_rollAll_3 : decode c_PA_rollAll 3 = .ok (.aload_n 0, 1) := by decide +kernel
theorem d_PA_rollAll_4 : decode c_PA_rollAll 4 = .ok (.getfield 77, 3) := by decide +kernel
theorem d_PA_rollAll_7 : decode c_PA_rollAll 7 = .ok (.if_icmp .ge 88, 3) := by decide +kernel
theorem d_PA_rollAll_10 : decode c_PA_rollAll 10 = .ok (.iconst 0, 1) := by decide +kernel
theorem d_PA_rollAll_11 : decode c_PA_rollAll 11 = .ok (.istore_n 3, 1) := by decide +kernel
theorem d_PA_rollAll_12 : decode c_PA_rollAll 12 = .ok (.iload_n 3, 1) := by decide +kernel
theorem d_PA_rollAll_13 : decode c_PA_rollAll 13 = .ok (.iconst 4, 1) := by decide +kernel
theorem d_PA_rollAll_14 : decode c_PA_rollAll 14 = .ok (.if_icmp .ge 75, 3) := by decide +kernel
theorem d_PA_rollAll_17 : decode c_PA_rollAll 17 = .ok (.aload_n 0, 1) := by decide +kernel
theorem d_PA_rollAll_18 : decode c_PA_rollAll 18 = .ok (.getfield 42, 3) := by decide +kernel
theorem d_PA_rollAll_21 : decode c_PA_rollAll 21 = .ok (.aload_n 1, 1) := by decide +kernel
theorem d_PA_rollAll_22 : decode c_PA_rollAll 22 = .ok (.aload_n 0, 1) := by decide +kernel
theorem d_PA_rollAll_23 : decode c_PA_rollAll 23 = .ok (.getfield 23, 3) := by decide +kernel
theorem d_PA_rollAll_26 : decode c_PA_rollAll 26 = .ok (.iload_n 2, 1) := by decide +kernel
theorem d_PA_rollAll_27 : decode c_PA_rollAll 27 = .ok (.iaload, 1) := by decide +kernel
theorem d_PA_rollAll_28 : decode c_PA_rollAll 28 = .ok (.iload_n 3, 1) := by decide +kernel
theorem d_PA_rollAll_29 : decode c_PA_rollAll 29 = .ok (.invokevirtual 80, 3) := by decide +kernel
theorem d_PA_rollAll_32 : decode c_PA_rollAll 32 = .ok (.istore 4, 2) := by decide +kernel
theorem d_PA_rollAll_34 : decode c_PA_rollAll 34 = .ok (.iload 4, 2) := by decide +kernel
theorem d_PA_rollAll_36 : decode c_PA_rollAll 36 = .ok (.invokestatic 86, 3) := by decide +kernel
theorem d_PA_rollAll_39 : decode c_PA_rollAll 39 = .ok (.ifCond .ne 11, 3) := by decide +kernel
theorem d_PA_rollAll_42 : decode c_PA_rollAll 42 = .ok (.iload 4, 2) := by decide +kernel
theorem d_PA_rollAll_44 : decode c_PA_rollAll 44 = .ok (.sipush 4096, 3) := by decide +kernel
theorem d_PA_rollAll_47 : decode c_PA_rollAll 47 = .ok (.if_icmp .lt 7, 3) := by decide +kernel
theorem d_PA_rollAll_50 : decode c_PA_rollAll 50 = .ok (.iconst 1, 1) := by decide +kernel
theorem d_PA_rollAll_51 : decode c_PA_rollAll 51 = .ok (.goto 4, 3) := by decide +kernel
theorem d_PA_rollAll_54 : decode c_PA_rollAll 54 = .ok (.iconst 0, 1) := by decide +kernel
theorem d_PA_rollAll_55 : decode c_PA_rollAll 55 = .ok (.istore 5, 2) := by decide +kernel
theorem d_PA_rollAll_57 : decode c_PA_rollAll 57 = .ok (.aload_n 0, 1) := by decide +kernel
theorem d_PA_rollAll_58 : decode c_PA_rollAll 58 = .ok (.getfield 17, 3) := by decide +kernel
theorem d_PA_rollAll_61 : decode c_PA_rollAll 61 = .ok (.iconst 4, 1) := by decide +kernel
theorem d_PA_rollAll_62 : decode c_PA_rollAll 62 = .ok (.aload_n 0, 1) := by decide +kernel
theorem d_PA_rollAll_63 : decode c_PA_rollAll 63 = .ok (.getfield 23, 3) := by decide +kernel
theorem d_PA_rollAll_66 : decode c_PA_rollAll 66 = .ok (.iload_n 2, 1) := by decide +kernel
theorem d_PA_rollAll_67 : decode c_PA_rollAll 67 = .ok (.iaload, 1) := by decide +kernel
theorem d_PA_rollAll_68 : decode c_PA_rollAll 68 = .ok (.imul, 1) := by decide +kernel
theorem d_PA_rollAll_69 : decode c_PA_rollAll 69 = .ok (.iload_n 3, 1) := by decide +kernel
theorem d_PA_rollAll_70 : decode c_PA_rollAll 70 = .ok (.iadd, 1) := by decide +kernel
theorem d_PA_rollAll_71 : decode c_PA_rollAll 71 = .ok (.iload 5, 2) := by decide +kernel
theorem d_PA_rollAll_73 : decode c_PA_rollAll 73 = .ok (.ifCond .eq 7, 3) := by decide +kernel
theorem d_PA_rollAll_76 : decode c_PA_rollAll 76 = .ok (.iconst (-1), 1) := by decide +kernel
theorem d_PA_rollAll_77 : decode c_PA_rollAll 77 = .ok (.goto 5, 3) := by decide +kernel
theorem d_PA_rollAll_80 : decode c_PA_rollAll 80 = .ok (.iload 4, 2) := by decide +kernel
theorem d_PA_rollAll_82 : decode c_PA_rollAll 82 = .ok (.iastore, 1) := by decide +kernel
theorem d_PA_rollAll_83 : decode c_PA_rollAll 83 = .ok (.iinc 3 1, 3) := by decide +kernel
theorem d_PA_rollAll_86 : decode c_PA_rollAll 86 = .ok (.goto (-74), 3) := by decide +kernel
theorem d_PA_rollAll_89 : decode c_PA_rollAll 89 = .ok (.iinc 2 1, 3) := by decide +kernel
theorem d_PA_rollAll_92 : decode c_PA_rollAll 92 = .ok (.goto (-90), 3) := by decide +kernel
theorem d_PA_rollAll_95 : decode c_PA_rollAll 95 = .ok (.return_, 1) := by decide +kernel
def S_PA_rollAll_0 (g : Gx) (Q : St → Prop) (σ : St) (t1 : Nat) : Prop := Ax g m_PA_rollAll 0 0 (ZV g Q) SH σ 0 0 0 [(0, .ref (gB g + 69)), (1, .ref (gB g + t1))] []
def S_PA_rollAll_2 (g : Gx) (Q : St → Prop) (σ : St) (t1 : Nat) (x2 : Int32) : Prop := Ax g m_PA_rollAll 0 0 (ZV g Q) SH σ 0 0 2 [(0, .ref (gB g + 69)), (1, .ref (gB g + t1)), (2, .int x2)] []
def S_PA_rollAll_12 (g : Gx) (Q : St → Prop) (σ : St) (t1 : Nat) (x2 : Int32) (x3 : Int32) : Prop := Ax g m_PA_rollAll 0 0 (ZV g Q) SH σ 0 0 12 [(0, .ref (gB g + 69)), (1, .ref (gB g + t1)), (2, .int x2), (3, .int x3)] []
def S_PA_rollAll_55 (g : Gx) (Q : St → Prop) (σ : St) (t1 : Nat) (x2 : Int32) (x3 : Int32) (x4 : Int32) (z0 : Int32) : Prop := Ax g m_PA_rollAll 0 0 (ZV g Q) SH σ 0 0 55 [(0, .ref (gB g + 69)), (1, .ref (gB g + t1)), (2, .int x2), (3, .int x3), (4, .int x4)] [.int z0]
theorem sg_PA_rollAll_0 {g : Gx} {Q : St → Prop} {σ : St} {t1 : Nat} (ht1 : isSA t1)
    (h : S_PA_rollAll_2 g Q σ t1 (0 : Int32)) : S_PA_rollAll_0 g Q σ t1 := by
  show Ax g m_PA_rollAll 0 0 (ZV g Q) SH σ 0 0 0 [(0, .ref (gB g + 69)), (1, .ref (gB g + t1))] []
  refine a_iconst (pc := 0) (0 : Int32) (by decide) d_PA_rollAll_0 ?_
  refine a_istore_n (pc := 1) (lv' := [(2, .int (0 : Int32)), (0, .ref (gB g + 69)), (1, .ref (gB g + t1))]) rfl (Nat.le_of_ble_eq_true rfl) rfl d_PA_rollAll_1 ?_
  refine a_sub (pc := 2) [1, 2, 0] rfl ?_
  exact h
theorem sg_PA_rollAll_2 {g : Gx} {Q : St → Prop} {σ : St} {t1 : Nat} {x2 : Int32} (ht1 : isSA t1)
    (h : ((fi σ 69 9) ≤ x2 → Q σ) ∧ (¬ (fi σ 69 9) ≤ x2 → S_PA_rollAll_12 g Q σ t1 x2 (0 : Int32))) : S_PA_rollAll_2 g Q σ t1 x2 := by
  show Ax g m_PA_rollAll 0 0 (ZV g Q) SH σ 0 0 2 [(0, .ref (gB g + 69)), (1, .ref (gB g + t1)), (2, .int x2)] []
  refine a_iload_n (pc := 2) 2 rfl rfl d_PA_rollAll_2 ?_
  refine a_aload_n (pc := 3) 0 rfl rfl d_PA_rollAll_3 ?_
  refine a_getI (pc := 4) fg_PA_77 sx_69 rfl d_PA_rollAll_4 ?_
  refine a_icmp_ge (pc := 7) 95 (by decide) d_PA_rollAll_7 ⟨fun c0 => ?_, fun c0 => ?_⟩
  · replace h := h.1 c0
    exact b_vret (pc := 95) rfl d_PA_rollAll_95 h
  · replace h := h.2 c0
    refine a_iconst (pc := 10) (0 : Int32) (by decide) d_PA_rollAll_10 ?_
    refine a_istore_n (pc := 11) (lv' := [(3, .int (0 : Int32)), (0, .ref (gB g + 69)), (1, .ref (gB g + t1)), (2, .int x2)]) rfl (Nat.le_of_ble_eq_true rfl) rfl d_PA_rollAll_11 ?_
    refine a_sub (pc := 12) [1, 2, 3, 0] rfl ?_
    exact h
theorem sg_PA_rollAll_12 {g : Gx} {Q : St → Prop} {σ : St} {t1 : Nat} {x2 : Int32} {x3 : Int32} (ht1 : isSA t1)
    (h : ((4 : Int32) ≤ x3 → ∀ u1 : Int32, u1 = x2 + (1 : Int32) → S_PA_rollAll_2 g Q σ t1 u1) ∧ (¬ (4 : Int32) ≤ x3 → vp_in x2 1369 ∧ (K_RO_rolled g t1 (ai σ 73 (x2).toNatClampNeg) x3 σ (fun (r3 : Int32) (s2 : St) => K_SA_hasLost g r3 s2 (fun (r5 : Int32) (s4 : St) => (¬ r5 = 0 → S_PA_rollAll_55 g Q s4 t1 x2 x3 r3 (1 : Int32)) ∧ (r5 = 0 → (r3 < (4096 : Int32) → S_PA_rollAll_55 g Q s4 t1 x2 x3 r3 (0 : Int32)) ∧ (¬ r3 < (4096 : Int32) → S_PA_rollAll_55 g Q s4 t1 x2 x3 r3 (1 : Int32)))))))) : S_PA_rollAll_12 g Q σ t1 x2 x3 := by
  show Ax g m_PA_rollAll 0 0 (ZV g Q) SH σ 0 0 12 [(0, .ref (gB g + 69)), (1, .ref (gB g + t1)), (2, .int x2), (3, .int x3)] []
  refine a_iload_n (pc := 12) 3 rfl rfl d_PA_rollAll_12 ?_
  refine a_iconst (pc := 13) (4 : Int32) (by decide) d_PA_rollAll_13 ?_
  refine a_icmp_ge (pc := 14) 89 (by decide) d_PA_rollAll_14 ⟨fun c0 => ?_, fun c0 => ?_⟩
  · replace h := h.1 c0
    obtain ⟨u1, hu1⟩ : ∃ y : Int32, y = x2 + (1 : Int32) := ⟨_, rfl⟩
    replace h := h u1 hu1
    refine a_iinc (pc := 89) (v := u1) (lv' := [(2, .int u1), (0, .ref (gB g + 69)), (1, .ref (gB g + t1)), (3, .int x3)]) 2 rfl (by rw [hu1]; rfl) (Nat.le_of_ble_eq_true rfl) rfl d_PA_rollAll_89 ?_
    refine a_goto (pc := 92) 2 (by decide) d_PA_rollAll_92 ?_
    refine a_sub (pc := 2) [1, 2, 0] rfl ?_
    exact h
  · replace h := h.2 c0
    refine a_aload_n (pc := 17) 0 rfl rfl d_PA_rollAll_17 ?_
    refine a_getR (pc := 18) fg_PA_42 sx_69 rfl d_PA_rollAll_18 ?_
    refine a_aload_n (pc := 21) 1 rfl rfl d_PA_rollAll_21 ?_
    refine a_aload_n (pc := 22) 0 rfl rfl d_PA_rollAll_22 ?_
    refine a_getR (pc := 23) fg_PA_23 sx_69 rfl d_PA_rollAll_23 ?_
    refine a_iload_n (pc := 26) 2 rfl rfl d_PA_rollAll_26 ?_
    obtain ⟨hx, h⟩ := h
    refine a_iald (pc := 27) sx_73 hx d_PA_rollAll_27 ?_
    refine a_iload_n (pc := 28) 3 rfl rfl d_PA_rollAll_28 ?_
    refine a_callV (pc := 29) (M' := m_RO_rolled) (As := [.ref (gB g + t1), .int (ai σ 73 (x2).toNatClampNeg), .int x3]) (st := []) (mc' := 0) (ms' := 0) lk_PA_80 rfl sx_17 rfl (by decide) (by decide) rfl (Nat.le_of_ble_eq_true rfl) (Nat.le_refl 0) (Nat.le_refl 0) d_PA_rollAll_29 h ?_
    rintro _ _ s2 ⟨r3, rfl, rfl, h⟩ -
    show Ax g m_PA_rollAll 0 0 (ZV g Q) SH s2 0 0 32 [(0, .ref (gB g + 69)), (1, .ref (gB g + t1)), (2, .int x2), (3, .int x3)] [.int r3]
    refine a_istore (pc := 32) (lv' := [(4, .int r3), (0, .ref (gB g + 69)), (1, .ref (gB g + t1)), (2, .int x2), (3, .int x3)]) (Nat.le_of_ble_eq_true rfl) rfl d_PA_rollAll_32 ?_
    refine a_iload (pc := 34) 0 rfl d_PA_rollAll_34 ?_
    refine a_callS (pc := 36) (M' := m_SA_hasLost) (As := [.int r3]) (st := []) (mc' := 0) (ms' := 0) lk_PA_86 rfl (by decide) (by decide) rfl (Nat.le_of_ble_eq_true rfl) (Nat.le_refl 0) (Nat.le_refl 0) d_PA_rollAll_36 h ?_
    rintro _ _ s4 ⟨r5, rfl, rfl, h⟩ -
    show Ax g m_PA_rollAll 0 0 (ZV g Q) SH s4 0 0 39 [(4, .int r3), (0, .ref (gB g + 69)), (1, .ref (gB g + t1)), (2, .int x2), (3, .int x3)] [.int r5]
    refine a_if_ne (pc := 39) 50 (by decide) d_PA_rollAll_39 ⟨fun c0 => ?_, fun c0 => ?_⟩
    · replace h := h.1 c0
      refine a_iconst (pc := 50) (1 : Int32) (by decide) d_PA_rollAll_50 ?_
      refine a_goto (pc := 51) 55 (by decide) d_PA_rollAll_51 ?_
      refine a_sub (pc := 55) [1, 2, 3, 4, 0] rfl ?_
      exact h
    · replace h := h.2 c0
      refine a_iload (pc := 42) 0 rfl d_PA_rollAll_42 ?_
      refine a_sipush (pc := 44) (4096 : Int32) (by decide) d_PA_rollAll_44 ?_
      refine a_icmp_lt (pc := 47) 54 (by decide) d_PA_rollAll_47 ⟨fun c0 => ?_, fun c0 => ?_⟩
      · replace h := h.1 c0
        refine a_iconst (pc := 54) (0 : Int32) (by decide) d_PA_rollAll_54 ?_
        refine a_sub (pc := 55) [1, 2, 3, 4, 0] rfl ?_
        exact h
      · replace h := h.2 c0
        refine a_iconst (pc := 50) (1 : Int32) (by decide) d_PA_rollAll_50 ?_
        refine a_goto (pc := 51) 55 (by decide) d_PA_rollAll_51 ?_
        refine a_sub (pc := 55) [1, 2, 3, 4, 0] rfl ?_
        exact h
theorem sg_PA_rollAll_55 {g : Gx} {Q : St → Prop} {σ : St} {t1 : Nat} {x2 : Int32} {x3 : Int32} {x4 : Int32} {z0 : Int32} (ht1 : isSA t1)
    (h : vp_in x2 1369 ∧ ((z0 = 0 → vp_in (((4 : Int32) * (ai σ 73 (x2).toNatClampNeg)) + x3) 16384 ∧ (∀ s1 : St, s1 = sai σ 71 ((((4 : Int32) * (ai σ 73 (x2).toNatClampNeg)) + x3)).toNatClampNeg x4 → ∀ u2 : Int32, u2 = x3 + (1 : Int32) → S_PA_rollAll_12 g Q s1 t1 x2 u2)) ∧ (¬ z0 = 0 → vp_in (((4 : Int32) * (ai σ 73 (x2).toNatClampNeg)) + x3) 16384 ∧ (∀ s3 : St, s3 = sai σ 71 ((((4 : Int32) * (ai σ 73 (x2).toNatClampNeg)) + x3)).toNatClampNeg (-1 : Int32) → ∀ u4 : Int32, u4 = x3 + (1 : Int32) → S_PA_rollAll_12 g Q s3 t1 x2 u4)))) : S_PA_rollAll_55 g Q σ t1 x2 x3 x4 z0 := by
  show Ax g m_PA_rollAll 0 0 (ZV g Q) SH σ 0 0 55 [(0, .ref (gB g + 69)), (1, .ref (gB g + t1)), (2, .int x2), (3, .int x3), (4, .int x4)] [.int z0]
  refine a_istore (pc := 55) (lv' := [(5, .int z0), (0, .ref (gB g + 69)), (1, .ref (gB g + t1)), (2, .int x2), (3, .int x3), (4, .int x4)]) (Nat.le_of_ble_eq_true rfl) rfl d_PA_rollAll_55 ?_
  refine a_aload_n (pc := 57) 1 rfl rfl d_PA_rollAll_57 ?_
  refine a_getR (pc := 58) fg_PA_17 sx_69 rfl d_PA_rollAll_58 ?_
  refine a_iconst (pc := 61) (4 : Int32) (by decide) d_PA_rollAll_61 ?_
  refine a_aload_n (pc := 62) 1 rfl rfl d_PA_rollAll_62 ?_
  refine a_getR (pc := 63) fg_PA_23 sx_69 rfl d_PA_rollAll_63 ?_
  refine a_iload_n (pc := 66) 3 rfl rfl d_PA_rollAll_66 ?_
  obtain ⟨hx, h⟩ := h
  refine a_iald (pc := 67) sx_73 hx d_PA_rollAll_67 ?_
  refine a_imul (pc := 68) d_PA_rollAll_68 ?_
  refine a_iload_n (pc := 69) 4 rfl rfl d_PA_rollAll_69 ?_
  refine a_iadd (pc := 70) d_PA_rollAll_70 ?_
  refine a_iload (pc := 71) 0 rfl d_PA_rollAll_71 ?_
  refine a_if_eq (pc := 73) 80 (by decide) d_PA_rollAll_73 ⟨fun c0 => ?_, fun c0 => ?_⟩
  · replace h := h.1 c0
    refine a_iload (pc := 80) 5 rfl d_PA_rollAll_80 ?_
    obtain ⟨hx, h⟩ := h
    refine a_iast (pc := 82) sx_71 hx d_PA_rollAll_82 ?_
    refine a_nms (fun s1 hs1 => ?_)
    replace h := h s1 hs1
    obtain ⟨u2, hu2⟩ : ∃ y : Int32, y = x3 + (1 : Int32) := ⟨_, rfl⟩
    replace h := h u2 hu2
    refine a_iinc (pc := 83) (v := u2) (lv' := [(3, .int u2), (5, .int z0), (0, .ref (gB g + 69)), (1, .ref (gB g + t1)), (2, .int x2), (4, .int x4)]) 4 rfl (by rw [hu2]; rfl) (Nat.le_of_ble_eq_true rfl) rfl d_PA_rollAll_83 ?_
    refine a_goto (pc := 86) 12 (by decide) d_PA_rollAll_86 ?_
    refine a_sub (pc := 12) [2, 3, 4, 0] rfl ?_
    exact h
  · replace h := h.2 c0
    refine a_iconst (pc := 76) (-1 : Int32) (by decide) d_PA_rollAll_76 ?_
    refine a_goto (pc := 77) 82 (by decide) d_PA_rollAll_77 ?_
    obtain ⟨hx, h⟩ := h
    refine a_iast (pc := 82) sx_71 hx d_PA_rollAll_82 ?_
    refine a_nms (fun s3 hs3 => ?_)
    replace h := h s3 hs3
    obtain ⟨u4, hu4⟩ : ∃ y : Int32, y = x3 + (1 : Int32) := ⟨_, rfl⟩
    replace h := h u4 hu4
    refine a_iinc (pc := 83) (v := u4) (lv' := [(3, .int u4), (5, .int z0), (0, .ref (gB g + 69)), (1, .ref (gB g + t1)), (2, .int x2), (4, .int x4)]) 4 rfl (by rw [hu4]; rfl) (Nat.le_of_ble_eq_true rfl) rfl d_PA_rollAll_83 ?_
    refine a_goto (pc := 86) 12 (by decide) d_PA_rollAll_86 ?_
    refine a_sub (pc := 12) [2, 3, 4, 0] rfl ?_
    exact h
theorem ko_PA_rollAll {g : Gx}  {t1 : Nat} {σ : St} {Q : St → Prop} (h : S_PA_rollAll_0 g Q σ t1) : K_PA_rollAll g t1 σ Q := KV.of (show plainName "BallBox$Pairs" = true by decide) (Nat.le_of_ble_eq_true rfl) h
theorem d_PA_reckonFar_0 : decode c_PA_reckonFar 0 = .ok (.aload_n 0, 1) := by decide +kernel
theorem d_PA_reckonFar_1 : decode c_PA_reckonFar 1 = .ok (.getfield 20, 3) := by decide +kernel
theorem d_PA_reckonFar_4 : decode c_PA_reckonFar 4 = .ok (.bipush (-2), 2) := by decide +kernel
theorem d_PA_reckonFar_6 : decode c_PA_reckonFar 6 = .ok (.invokestatic 89, 3) := by decide +kernel
theorem d_PA_reckonFar_9 : decode c_PA_reckonFar 9 = .ok (.aload_n 0, 1) := by decide +kernel
theorem d_PA_reckonFar_10 : decode c_PA_reckonFar 10 = .ok (.getfield 20, 3) := by decide +kernel
theorem d_PA_reckonFar_13 : decode c_PA_reckonFar 13 = .ok (.iconst 0, 1) := by decide +kernel
theorem d_PA_reckonFar_14 : decode c_PA_reckonFar 14 = .ok (.iconst 0, 1) := by decide +kernel
theorem d_PA_reckonFar_15 : decode c_PA_reckonFar 15 = .ok (.iastore, 1) := by decide +kernel
theorem d_PA_reckonFar_16 : decode c_PA_reckonFar 16 = .ok (.iconst 1, 1) := by decide +kernel
theorem d_PA_reckonFar_17 : decode c_PA_reckonFar 17 = .ok (.istore_n 1, 1) := by decide +kernel
theorem d_PA_reckonFar_18 : decode c_PA_reckonFar 18 = .ok (.iconst 1, 1) := by decide +kernel
theorem d_PA_reckonFar_19 : decode c_PA_reckonFar 19 = .ok (.istore_n 2, 1) := by decide +kernel
theorem d_PA_reckonFar_20 : decode c_PA_reckonFar 20 = .ok (.iload_n 1, 1) := by decide +kernel
theorem d_PA_reckonFar_21 : decode c_PA_reckonFar 21 = .ok (.ifCond .eq 76, 3) := by decide +kernel
theorem d_PA_reckonFar_24 : decode c_PA_reckonFar 24 = .ok (.iload_n 2, 1) := by decide +kernel
theorem d_PA_reckonFar_25 : decode c_PA_reckonFar 25 = .ok (.sipush 4096, 3) := by decide +kernel
theorem d_PA_reckonFar_28 : decode c_PA_reckonFar 28 = .ok (.if_icmp .gt 69, 3) := by decide +kernel
theorem d_PA_reckonFar_31 : decode c_PA_reckonFar 31 = .ok (.iconst 0, 1) := by decide +kernel
theorem d_PA_reckonFar_32 : decode c_PA_reckonFar 32 = .ok (.istore_n 1, 1) := by decide +kernel
theorem d_PA_reckonFar_33 : decode c_PA_reckonFar 33 = .ok (.iconst 0, 1) := by decide +kernel
theorem d_PA_reckonFar_34 : decode c_PA_reckonFar 34 = .ok (.istore_n 3, 1) := by decide +kernel
theorem d_PA_reckonFar_35 : decode c_PA_reckonFar 35 = .ok (.iload_n 3, 1) := by decide +kernel
theorem d_PA_reckonFar_36 : decode c_PA_reckonFar 36 = .ok (.aload_n 0, 1) := by decide +kernel
theorem d_PA_reckonFar_37 : decode c_PA_reckonFar 37 = .ok (.getfield 77, 3) := by decide +kernel
theorem d_PA_reckonFar_40 : decode c_PA_reckonFar 40 = .ok (.if_icmp .ge 51, 3) := by decide +kernel
theorem d_PA_reckonFar_43 : decode c_PA_reckonFar 43 = .ok (.aload_n 0, 1) := by decide +kernel
theorem d_PA_reckonFar_44 : decode c_PA_reckonFar 44 = .ok (.getfield 23, 3) := by decide +kernel
theorem d_PA_reckonFar_47 : decode c_PA_reckonFar 47 = .ok (.iload_n 3, 1) := by decide +kernel
theorem d_PA_reckonFar_48 : decode c_PA_reckonFar 48 = .ok (.iaload, 1) := by decide +kernel
theorem d_PA_reckonFar_49 : decode c_PA_reckonFar 49 = .ok (.istore 4, 2) := by decide +kernel
theorem d_PA_reckonFar_51 : decode c_PA_reckonFar 51 = .ok (.aload_n 0, 1) := by decide +kernel
theorem d_PA_reckonFar_52 : decode c_PA_reckonFar 52 = .ok (.getfield 20, 3) := by decide +kernel
theorem d_PA_reckonFar_55 : decode c_PA_reckonFar 55 = .ok (.iload 4, 2) := by decide +kernel
theorem d_PA_reckonFar_57 : decode c_PA_reckonFar 57 = .ok (.iaload, 1) := by decide +kernel
theorem d_PA_reckonFar_58 : decode c_PA_reckonFar 58 = .ok (.bipush (-2), 2) := by decide +kernel
theorem d_PA_reckonFar_60 : decode c_PA_reckonFar 60 = .ok (.if_icmp .ne 25, 3) := by decide +kernel
theorem d_PA_reckonFar_63 : decode c_PA_reckonFar 63 = .ok (.aload_n 0, 1) := by decide +kernel
theorem d_PA_reckonFar_64 : decode c_PA_reckonFar 64 = .ok (.iload 4, 2) := by decide +kernel
theorem d_PA_reckonFar_66 : decode c_PA_reckonFar 66 = .ok (.iload_n 2, 1) := by decide +kernel
theorem d_PA_reckonFar_67 : decode c_PA_reckonFar 67 = .ok (.iconst 1, 1) := by decide +kernel
theorem d_PA_reckonFar_68 : decode c_PA_reckonFar 68 = .ok (.isub, 1) := by decide +kernel
theorem d_PA_reckonFar_69 : decode c_PA_reckonFar 69 = .ok (.invokevirtual 95, 3) := by decide +kernel
theorem d_PA_reckonFar_72 : decode c_PA_reckonFar 72 = .ok (.ifCond .eq 13, 3) := by decide +kernel
theorem d_PA_reckonFar_75 : decode c_PA_reckonFar 75 = .ok (.aload_n 0, 1) := by decide +kernel
theorem d_PA_reckonFar_76 : decode c_PA_reckonFar 76 = .ok (.getfield 20, 3) := by decide +kernel
theorem d_PA_reckonFar_79 : decode c_PA_reckonFar 79 = .ok (.iload 4, 2) := by decide +kernel
theorem d_PA_reckonFar_81 : decode c_PA_reckonFar 81 = .ok (.iload_n 2, 1) := by decide +kernel
theorem d_PA_reckonFar_82 : decode c_PA_reckonFar 82 = .ok (.iastore, 1) := by decide +kernel
theorem d_PA_reckonFar_83 : decode c_PA_reckonFar 83 = .ok (.iconst 1, 1) := by decide +kernel
theorem d_PA_reckonFar_84 : decode c_PA_reckonFar 84 = .ok (.istore_n 1, 1) := by decide +kernel
theorem d_PA_reckonFar_85 : decode c_PA_reckonFar 85 = .ok (.iinc 3 1, 3) := by decide +kernel
theorem d_PA_reckonFar_88 : decode c_PA_reckonFar 88 = .ok (.goto (-53), 3) := by decide +kernel
theorem d_PA_reckonFar_91 : decode c_PA_reckonFar 91 = .ok (.iinc 2 1, 3) := by decide +kernel
theorem d_PA_reckonFar_94 : decode c_PA_reckonFar 94 = .ok (.goto (-74), 3) := by decide +kernel
theorem d_PA_reckonFar_97 : decode c_PA_reckonFar 97 = .ok (.return_, 1) := by decide +kernel
def S_PA_reckonFar_0 (g : Gx) (Q : St → Prop) (σ : St) : Prop := Ax g m_PA_reckonFar 0 0 (ZV g Q) SH σ 0 0 0 [(0, .ref (gB g + 69))] []
def S_PA_reckonFar_20 (g : Gx) (Q : St → Prop) (σ : St) (x1 : Int32) (x2 : Int32) : Prop := Ax g m_PA_reckonFar 0 0 (ZV g Q) SH σ 0 0 20 [(0, .ref (gB g + 69)), (1, .int x1), (2, .int x2)] []
def S_PA_reckonFar_35 (g : Gx) (Q : St → Prop) (σ : St) (x1 : Int32) (x2 : Int32) (x3 : Int32) : Prop := Ax g m_PA_reckonFar 0 0 (ZV g Q) SH σ 0 0 35 [(0, .ref (gB g + 69)), (1, .int x1), (2, .int x2), (3, .int x3)] []
theorem sg_PA_reckonFar_0 {g : Gx} {Q : St → Prop} {σ : St}
    (h : K_JA_fill g 72 (-2 : Int32) σ (fun s1 : St => vp_in (0 : Int32) 4096 ∧ (∀ s2 : St, s2 = sai s1 72 ((0 : Int32)).toNatClampNeg (0 : Int32) → S_PA_reckonFar_20 g Q s2 (1 : Int32) (1 : Int32)))) : S_PA_reckonFar_0 g Q σ := by
  show Ax g m_PA_reckonFar 0 0 (ZV g Q) SH σ 0 0 0 [(0, .ref (gB g + 69))] []
  refine a_aload_n (pc := 0) 0 rfl rfl d_PA_reckonFar_0 ?_
  refine a_getR (pc := 1) fg_PA_20 sx_69 rfl d_PA_reckonFar_1 ?_
  refine a_bipush (pc := 4) (-2 : Int32) (by decide) d_PA_reckonFar_4 ?_
  refine a_callS (pc := 6) (M' := m_JA_fill) (As := [.ref (gB g + 72), .int (-2 : Int32)]) (st := []) (mc' := 0) (ms' := 0) lk_PA_89 rfl (by decide) (by decide) rfl (Nat.le_of_ble_eq_true rfl) (Nat.le_refl 0) (Nat.le_refl 0) d_PA_reckonFar_6 h ?_
  rintro _ _ s1 ⟨rfl, rfl, h⟩ -
  show Ax g m_PA_reckonFar 0 0 (ZV g Q) SH s1 0 0 9 [(0, .ref (gB g + 69))] []
  refine a_aload_n (pc := 9) 0 rfl rfl d_PA_reckonFar_9 ?_
  refine a_getR (pc := 10) fg_PA_20 sx_69 rfl d_PA_reckonFar_10 ?_
  refine a_iconst (pc := 13) (0 : Int32) (by decide) d_PA_reckonFar_13 ?_
  refine a_iconst (pc := 14) (0 : Int32) (by decide) d_PA_reckonFar_14 ?_
  obtain ⟨hx, h⟩ := h
  refine a_iast (pc := 15) sx_72 hx d_PA_reckonFar_15 ?_
  refine a_nms (fun s2 hs2 => ?_)
  replace h := h s2 hs2
  refine a_iconst (pc := 16) (1 : Int32) (by decide) d_PA_reckonFar_16 ?_
  refine a_istore_n (pc := 17) (lv' := [(1, .int (1 : Int32)), (0, .ref (gB g + 69))]) rfl (Nat.le_of_ble_eq_true rfl) rfl d_PA_reckonFar_17 ?_
  refine a_iconst (pc := 18) (1 : Int32) (by decide) d_PA_reckonFar_18 ?_
  refine a_istore_n (pc := 19) (lv' := [(2, .int (1 : Int32)), (1, .int (1 : Int32)), (0, .ref (gB g + 69))]) rfl (Nat.le_of_ble_eq_true rfl) rfl d_PA_reckonFar_19 ?_
  refine a_sub (pc := 20) [2, 1, 0] rfl ?_
  exact h
theorem sg_PA_reckonFar_20 {g : Gx} {Q : St → Prop} {σ : St} {x1 : Int32} {x2 : Int32}
    (h : (x1 = 0 → Q σ) ∧ (¬ x1 = 0 → ((4096 : Int32) < x2 → Q σ) ∧ (¬ (4096 : Int32) < x2 → S_PA_reckonFar_35 g Q σ (0 : Int32) x2 (0 : Int32)))) : S_PA_reckonFar_20 g Q σ x1 x2 := by
  show Ax g m_PA_reckonFar 0 0 (ZV g Q) SH σ 0 0 20 [(0, .ref (gB g + 69)), (1, .int x1), (2, .int x2)] []
  refine a_iload_n (pc := 20) 1 rfl rfl d_PA_reckonFar_20 ?_
  refine a_if_eq (pc := 21) 97 (by decide) d_PA_reckonFar_21 ⟨fun c0 => ?_, fun c0 => ?_⟩
  · replace h := h.1 c0
    exact b_vret (pc := 97) rfl d_PA_reckonFar_97 h
  · replace h := h.2 c0
    refine a_iload_n (pc := 24) 2 rfl rfl d_PA_reckonFar_24 ?_
    refine a_sipush (pc := 25) (4096 : Int32) (by decide) d_PA_reckonFar_25 ?_
    refine a_icmp_gt (pc := 28) 97 (by decide) d_PA_reckonFar_28 ⟨fun c0 => ?_, fun c0 => ?_⟩
    · replace h := h.1 c0
      exact b_vret (pc := 97) rfl d_PA_reckonFar_97 h
    · replace h := h.2 c0
      refine a_iconst (pc := 31) (0 : Int32) (by decide) d_PA_reckonFar_31 ?_
      refine a_istore_n (pc := 32) (lv' := [(1, .int (0 : Int32)), (0, .ref (gB g + 69)), (2, .int x2)]) rfl (Nat.le_of_ble_eq_true rfl) rfl d_PA_reckonFar_32 ?_
      refine a_iconst (pc := 33) (0 : Int32) (by decide) d_PA_reckonFar_33 ?_
      refine a_istore_n (pc := 34) (lv' := [(3, .int (0 : Int32)), (1, .int (0 : Int32)), (0, .ref (gB g + 69)), (2, .int x2)]) rfl (Nat.le_of_ble_eq_true rfl) rfl d_PA_reckonFar_34 ?_
      refine a_sub (pc := 35) [2, 1, 3, 0] rfl ?_
      exact h
theorem sg_PA_reckonFar_35 {g : Gx} {Q : St → Prop} {σ : St} {x1 : Int32} {x2 : Int32} {x3 : Int32}
    (h : ((fi σ 69 9) ≤ x3 → ∀ u1 : Int32, u1 = x2 + (1 : Int32) → S_PA_reckonFar_20 g Q σ x1 u1) ∧ (¬ (fi σ 69 9) ≤ x3 → vp_in x3 1369 ∧ (∀ u2 : Int32, u2 = (ai σ 73 (x3).toNatClampNeg) → vp_in u2 4096 ∧ ((¬ (ai σ 72 (u2).toNatClampNeg) = (-2 : Int32) → ∀ u3 : Int32, u3 = x3 + (1 : Int32) → S_PA_reckonFar_35 g Q σ x1 x2 u3) ∧ ((ai σ 72 (u2).toNatClampNeg) = (-2 : Int32) → K_PA_comesTo g u2 (x2 - (1 : Int32)) σ (fun (r5 : Int32) (s4 : St) => (r5 = 0 → ∀ u6 : Int32, u6 = x3 + (1 : Int32) → S_PA_reckonFar_35 g Q s4 x1 x2 u6) ∧ (¬ r5 = 0 → vp_in u2 4096 ∧ (∀ s7 : St, s7 = sai s4 72 (u2).toNatClampNeg x2 → ∀ u8 : Int32, u8 = x3 + (1 : Int32) → S_PA_reckonFar_35 g Q s7 (1 : Int32) x2 u8)))))))) : S_PA_reckonFar_35 g Q σ x1 x2 x3 := by
  show Ax g m_PA_reckonFar 0 0 (ZV g Q) SH σ 0 0 35 [(0, .ref (gB g + 69)), (1, .int x1), (2, .int x2), (3, .int x3)] []
  refine a_iload_n (pc := 35) 3 rfl rfl d_PA_reckonFar_35 ?_
  refine a_aload_n (pc := 36) 0 rfl rfl d_PA_reckonFar_36 ?_
  refine a_getI (pc := 37) fg_PA_77 sx_69 rfl d_PA_reckonFar_37 ?_
  refine a_icmp_ge (pc := 40) 91 (by decide) d_PA_reckonFar_40 ⟨fun c0 => ?_, fun c0 => ?_⟩
  · replace h := h.1 c0
    obtain ⟨u1, hu1⟩ : ∃ y : Int32, y = x2 + (1 : Int32) := ⟨_, rfl⟩
    replace h := h u1 hu1
    refine a_iinc (pc := 91) (v := u1) (lv' := [(2, .int u1), (0, .ref (gB g + 69)), (1, .int x1), (3, .int x3)]) 2 rfl (by rw [hu1]; rfl) (Nat.le_of_ble_eq_true rfl) rfl d_PA_reckonFar_91 ?_
    refine a_goto (pc := 94) 20 (by decide) d_PA_reckonFar_94 ?_
    refine a_sub (pc := 20) [1, 2, 0] rfl ?_
    exact h
  · replace h := h.2 c0
    refine a_aload_n (pc := 43) 0 rfl rfl d_PA_reckonFar_43 ?_
    refine a_getR (pc := 44) fg_PA_23 sx_69 rfl d_PA_reckonFar_44 ?_
    refine a_iload_n (pc := 47) 3 rfl rfl d_PA_reckonFar_47 ?_
    obtain ⟨hx, h⟩ := h
    refine a_iald (pc := 48) sx_73 hx d_PA_reckonFar_48 ?_
    refine a_nmi (pc := 49) (fun u2 hu2 => ?_)
    replace h := h u2 hu2
    refine a_istore (pc := 49) (lv' := [(4, .int u2), (0, .ref (gB g + 69)), (1, .int x1), (2, .int x2), (3, .int x3)]) (Nat.le_of_ble_eq_true rfl) rfl d_PA_reckonFar_49 ?_
    refine a_aload_n (pc := 51) 1 rfl rfl d_PA_reckonFar_51 ?_
    refine a_getR (pc := 52) fg_PA_20 sx_69 rfl d_PA_reckonFar_52 ?_
    refine a_iload (pc := 55) 0 rfl d_PA_reckonFar_55 ?_
    obtain ⟨hx, h⟩ := h
    refine a_iald (pc := 57) sx_72 hx d_PA_reckonFar_57 ?_
    refine a_bipush (pc := 58) (-2 : Int32) (by decide) d_PA_reckonFar_58 ?_
    refine a_icmp_ne (pc := 60) 85 (by decide) d_PA_reckonFar_60 ⟨fun c0 => ?_, fun c0 => ?_⟩
    · replace h := h.1 c0
      obtain ⟨u3, hu3⟩ : ∃ y : Int32, y = x3 + (1 : Int32) := ⟨_, rfl⟩
      replace h := h u3 hu3
      refine a_iinc (pc := 85) (v := u3) (lv' := [(3, .int u3), (4, .int u2), (0, .ref (gB g + 69)), (1, .int x1), (2, .int x2)]) 4 rfl (by rw [hu3]; rfl) (Nat.le_of_ble_eq_true rfl) rfl d_PA_reckonFar_85 ?_
      refine a_goto (pc := 88) 35 (by decide) d_PA_reckonFar_88 ?_
      refine a_sub (pc := 35) [2, 3, 4, 0] rfl ?_
      exact h
    · replace h := h.2 c0
      refine a_aload_n (pc := 63) 1 rfl rfl d_PA_reckonFar_63 ?_
      refine a_iload (pc := 64) 0 rfl d_PA_reckonFar_64 ?_
      refine a_iload_n (pc := 66) 3 rfl rfl d_PA_reckonFar_66 ?_
      refine a_iconst (pc := 67) (1 : Int32) (by decide) d_PA_reckonFar_67 ?_
      refine a_isub (pc := 68) d_PA_reckonFar_68 ?_
      refine a_callV (pc := 69) (M' := m_PA_comesTo) (As := [.int u2, .int (x2 - (1 : Int32))]) (st := []) (mc' := 0) (ms' := 0) lk_PA_95 rfl sx_69 rfl (by decide) (by decide) rfl (Nat.le_of_ble_eq_true rfl) (Nat.le_refl 0) (Nat.le_refl 0) d_PA_reckonFar_69 h ?_
      rintro _ _ s4 ⟨r5, rfl, rfl, h⟩ -
      show Ax g m_PA_reckonFar 0 0 (ZV g Q) SH s4 0 0 72 [(4, .int u2), (0, .ref (gB g + 69)), (1, .int x1), (2, .int x2), (3, .int x3)] [.int r5]
      refine a_if_eq (pc := 72) 85 (by decide) d_PA_reckonFar_72 ⟨fun c0 => ?_, fun c0 => ?_⟩
      · replace h := h.1 c0
        obtain ⟨u6, hu6⟩ : ∃ y : Int32, y = x3 + (1 : Int32) := ⟨_, rfl⟩
        replace h := h u6 hu6
        refine a_iinc (pc := 85) (v := u6) (lv' := [(3, .int u6), (4, .int u2), (0, .ref (gB g + 69)), (1, .int x1), (2, .int x2)]) 4 rfl (by rw [hu6]; rfl) (Nat.le_of_ble_eq_true rfl) rfl d_PA_reckonFar_85 ?_
        refine a_goto (pc := 88) 35 (by decide) d_PA_reckonFar_88 ?_
        refine a_sub (pc := 35) [2, 3, 4, 0] rfl ?_
        exact h
      · replace h := h.2 c0
        refine a_aload_n (pc := 75) 1 rfl rfl d_PA_reckonFar_75 ?_
        refine a_getR (pc := 76) fg_PA_20 sx_69 rfl d_PA_reckonFar_76 ?_
        refine a_iload (pc := 79) 0 rfl d_PA_reckonFar_79 ?_
        refine a_iload_n (pc := 81) 3 rfl rfl d_PA_reckonFar_81 ?_
        obtain ⟨hx, h⟩ := h
        refine a_iast (pc := 82) sx_72 hx d_PA_reckonFar_82 ?_
        refine a_nms (fun s7 hs7 => ?_)
        replace h := h s7 hs7
        refine a_iconst (pc := 83) (1 : Int32) (by decide) d_PA_reckonFar_83 ?_
        refine a_istore_n (pc := 84) (lv' := [(1, .int (1 : Int32)), (4, .int u2), (0, .ref (gB g + 69)), (2, .int x2), (3, .int x3)]) rfl (Nat.le_of_ble_eq_true rfl) rfl d_PA_reckonFar_84 ?_
        obtain ⟨u8, hu8⟩ : ∃ y : Int32, y = x3 + (1 : Int32) := ⟨_, rfl⟩
        replace h := h u8 hu8
        refine a_iinc (pc := 85) (v := u8) (lv' := [(3, .int u8), (1, .int (1 : Int32)), (4, .int u2), (0, .ref (gB g + 69)), (2, .int x2)]) 4 rfl (by rw [hu8]; rfl) (Nat.le_of_ble_eq_true rfl) rfl d_PA_reckonFar_85 ?_
        refine a_goto (pc := 88) 35 (by decide) d_PA_reckonFar_88 ?_
        refine a_sub (pc := 35) [3, 1, 4, 0] rfl ?_
        exact h
theorem ko_PA_reckonFar {g : Gx}  {σ : St} {Q : St → Prop} (h : S_PA_reckonFar_0 g Q σ) : K_PA_reckonFar g  σ Q := KV.of (show plainName "BallBox$Pairs" = true by decide) (Nat.le_of_ble_eq_true rfl) h
theorem d_PA_comesTo_0 : decode c_PA_comesTo 0 = .ok (.iconst 0, 1) := by decide +kernel
theorem d_PA_comesTo_1 : decode c_PA_comesTo 1 = .ok (.istore_n 3, 1) := by decide +kernel
theorem d_PA_comesTo_2 : decode c_PA_comesTo 2 = .ok (.iload_n 3, 1) := by decide +kernel
theorem d_PA_comesTo_3 : decode c_PA_comesTo 3 = .ok (.iconst 4, 1) := by decide +kernel
theorem d_PA_comesTo_4 : decode c_PA_comesTo 4 = .ok (.if_icmp .ge 39, 3) := by decide +kernel
theorem d_PA_comesTo_7 : decode c_PA_comesTo 7 = .ok (.aload_n 0, 1) := by decide +kernel
theorem d_PA_comesTo_8 : decode c_PA_comesTo 8 = .ok (.getfield 17, 3) := by decide +kernel
theorem d_PA_comesTo_11 : decode c_PA_comesTo 11 = .ok (.iconst 4, 1) := by decide +kernel
theorem d_PA_comesTo_12 : decode c_PA_comesTo 12 = .ok (.iload_n 1, 1) := by decide +kernel
theorem d_PA_comesTo_13 : decode c_PA_comesTo 13 = .ok (.imul, 1) := by decide +kernel
theorem d_PA_comesTo_14 : decode c_PA_comesTo 14 = .ok (.iload_n 3, 1) := by decide +kernel
theorem d_PA_comesTo_15 : decode c_PA_comesTo 15 = .ok (.iadd, 1) := by decide +kernel
theorem d_PA_comesTo_16 : decode c_PA_comesTo 16 = .ok (.iaload, 1) := by decide +kernel
theorem d_PA_comesTo_17 : decode c_PA_comesTo 17 = .ok (.istore 4, 2) := by decide +kernel
theorem d_PA_comesTo_19 : decode c_PA_comesTo 19 = .ok (.iload 4, 2) := by decide +kernel
theorem d_PA_comesTo_21 : decode c_PA_comesTo 21 = .ok (.ifCond .lt 16, 3) := by decide +kernel
theorem d_PA_comesTo_24 : decode c_PA_comesTo 24 = .ok (.aload_n 0, 1) := by decide +kernel
theorem d_PA_comesTo_25 : decode c_PA_comesTo 25 = .ok (.getfield 20, 3) := by decide +kernel
theorem d_PA_comesTo_28 : decode c_PA_comesTo 28 = .ok (.iload 4, 2) := by decide +kernel
theorem d_PA_comesTo_30 : decode c_PA_comesTo 30 = .ok (.iaload, 1) := by decide +kernel
theorem d_PA_comesTo_31 : decode c_PA_comesTo 31 = .ok (.iload_n 2, 1) := by decide +kernel
theorem d_PA_comesTo_32 : decode c_PA_comesTo 32 = .ok (.if_icmp .ne 5, 3) := by decide +kernel
theorem d_PA_comesTo_35 : decode c_PA_comesTo 35 = .ok (.iconst 1, 1) := by decide +kernel
theorem d_PA_comesTo_36 : decode c_PA_comesTo 36 = .ok (.ireturn, 1) := by decide +kernel
theorem d_PA_comesTo_37 : decode c_PA_comesTo 37 = .ok (.iinc 3 1, 3) := by decide +kernel
theorem d_PA_comesTo_40 : decode c_PA_comesTo 40 = .ok (.goto (-38), 3) := by decide +kernel
theorem d_PA_comesTo_43 : decode c_PA_comesTo 43 = .ok (.iconst 0, 1) := by decide +kernel
theorem d_PA_comesTo_44 : decode c_PA_comesTo 44 = .ok (.ireturn, 1) := by decide +kernel
def S_PA_comesTo_0 (g : Gx) (Q : Int32 → St → Prop) (σ : St) (x1 : Int32) (x2 : Int32) : Prop := Ax g m_PA_comesTo 0 0 (ZI g Q) SH σ 0 0 0 [(0, .ref (gB g + 69)), (1, .int x1), (2, .int x2)] []
def S_PA_comesTo_2 (g : Gx) (Q : Int32 → St → Prop) (σ : St) (x1 : Int32) (x2 : Int32) (x3 : Int32) : Prop := Ax g m_PA_comesTo 0 0 (ZI g Q) SH σ 0 0 2 [(0, .ref (gB g + 69)), (1, .int x1), (2, .int x2), (3, .int x3)] []
theorem sg_PA_comesTo_0 {g : Gx} {Q : Int32 → St → Prop} {σ : St} {x1 : Int32} {x2 : Int32}
    (h : S_PA_comesTo_2 g Q σ x1 x2 (0 : Int32)) : S_PA_comesTo_0 g Q σ x1 x2 := by
  show Ax g m_PA_comesTo 0 0 (ZI g Q) SH σ 0 0 0 [(0, .ref (gB g + 69)), (1, .int x1), (2, .int x2)] []
  refine a_iconst (pc := 0) (0 : Int32) (by decide) d_PA_comesTo_0 ?_
  refine a_istore_n (pc := 1) (lv' := [(3, .int (0 : Int32)), (0, .ref (gB g + 69)), (1, .int x1), (2, .int x2)]) rfl (Nat.le_of_ble_eq_true rfl) rfl d_PA_comesTo_1 ?_
  refine a_sub (pc := 2) [1, 2, 3, 0] rfl ?_
  exact h
theorem sg_PA_comesTo_2 {g : Gx} {Q : Int32 → St → Prop} {σ : St} {x1 : Int32} {x2 : Int32} {x3 : Int32}
    (h : ((4 : Int32) ≤ x3 → Q (0 : Int32) σ) ∧ (¬ (4 : Int32) ≤ x3 → vp_in (((4 : Int32) * x1) + x3) 16384 ∧ (∀ u1 : Int32, u1 = (ai σ 71 ((((4 : Int32) * x1) + x3)).toNatClampNeg) → (u1 < 0 → ∀ u2 : Int32, u2 = x3 + (1 : Int32) → S_PA_comesTo_2 g Q σ x1 x2 u2) ∧ (¬ u1 < 0 → vp_in u1 4096 ∧ ((¬ (ai σ 72 (u1).toNatClampNeg) = x2 → ∀ u3 : Int32, u3 = x3 + (1 : Int32) → S_PA_comesTo_2 g Q σ x1 x2 u3) ∧ ((ai σ 72 (u1).toNatClampNeg) = x2 → Q (1 : Int32) σ)))))) : S_PA_comesTo_2 g Q σ x1 x2 x3 := by
  show Ax g m_PA_comesTo 0 0 (ZI g Q) SH σ 0 0 2 [(0, .ref (gB g + 69)), (1, .int x1), (2, .int x2), (3, .int x3)] []
  refine a_iload_n (pc := 2) 3 rfl rfl d_PA_comesTo_2 ?_
  refine a_iconst (pc := 3) (4 : Int32) (by decide) d_PA_comesTo_3 ?_
  refine a_icmp_ge (pc := 4) 43 (by decide) d_PA_comesTo_4 ⟨fun c0 => ?_, fun c0 => ?_⟩
  · replace h := h.1 c0
    refine a_iconst (pc := 43) (0 : Int32) (by decide) d_PA_comesTo_43 ?_
    exact b_zret (pc := 44) rfl (Or.inl rfl) d_PA_comesTo_44 h
  · replace h := h.2 c0
    refine a_aload_n (pc := 7) 0 rfl rfl d_PA_comesTo_7 ?_
    refine a_getR (pc := 8) fg_PA_17 sx_69 rfl d_PA_comesTo_8 ?_
    refine a_iconst (pc := 11) (4 : Int32) (by decide) d_PA_comesTo_11 ?_
    refine a_iload_n (pc := 12) 1 rfl rfl d_PA_comesTo_12 ?_
    refine a_imul (pc := 13) d_PA_comesTo_13 ?_
    refine a_iload_n (pc := 14) 3 rfl rfl d_PA_comesTo_14 ?_
    refine a_iadd (pc := 15) d_PA_comesTo_15 ?_
    obtain ⟨hx, h⟩ := h
    refine a_iald (pc := 16) sx_71 hx d_PA_comesTo_16 ?_
    refine a_nmi (pc := 17) (fun u1 hu1 => ?_)
    replace h := h u1 hu1
    refine a_istore (pc := 17) (lv' := [(4, .int u1), (0, .ref (gB g + 69)), (1, .int x1), (2, .int x2), (3, .int x3)]) (Nat.le_of_ble_eq_true rfl) rfl d_PA_comesTo_17 ?_
    refine a_iload (pc := 19) 0 rfl d_PA_comesTo_19 ?_
    refine a_if_lt (pc := 21) 37 (by decide) d_PA_comesTo_21 ⟨fun c0 => ?_, fun c0 => ?_⟩
    · replace h := h.1 c0
      obtain ⟨u2, hu2⟩ : ∃ y : Int32, y = x3 + (1 : Int32) := ⟨_, rfl⟩
      replace h := h u2 hu2
      refine a_iinc (pc := 37) (v := u2) (lv' := [(3, .int u2), (4, .int u1), (0, .ref (gB g + 69)), (1, .int x1), (2, .int x2)]) 4 rfl (by rw [hu2]; rfl) (Nat.le_of_ble_eq_true rfl) rfl d_PA_comesTo_37 ?_
      refine a_goto (pc := 40) 2 (by decide) d_PA_comesTo_40 ?_
      refine a_sub (pc := 2) [2, 3, 4, 0] rfl ?_
      exact h
    · replace h := h.2 c0
      refine a_aload_n (pc := 24) 1 rfl rfl d_PA_comesTo_24 ?_
      refine a_getR (pc := 25) fg_PA_20 sx_69 rfl d_PA_comesTo_25 ?_
      refine a_iload (pc := 28) 0 rfl d_PA_comesTo_28 ?_
      obtain ⟨hx, h⟩ := h
      refine a_iald (pc := 30) sx_72 hx d_PA_comesTo_30 ?_
      refine a_iload_n (pc := 31) 3 rfl rfl d_PA_comesTo_31 ?_
      refine a_icmp_ne (pc := 32) 37 (by decide) d_PA_comesTo_32 ⟨fun c0 => ?_, fun c0 => ?_⟩
      · replace h := h.1 c0
        obtain ⟨u3, hu3⟩ : ∃ y : Int32, y = x3 + (1 : Int32) := ⟨_, rfl⟩
        replace h := h u3 hu3
        refine a_iinc (pc := 37) (v := u3) (lv' := [(3, .int u3), (4, .int u1), (0, .ref (gB g + 69)), (1, .int x1), (2, .int x2)]) 4 rfl (by rw [hu3]; rfl) (Nat.le_of_ble_eq_true rfl) rfl d_PA_comesTo_37 ?_
        refine a_goto (pc := 40) 2 (by decide) d_PA_comesTo_40 ?_
        refine a_sub (pc := 2) [2, 3, 4, 0] rfl ?_
        exact h
      · replace h := h.2 c0
        refine a_iconst (pc := 35) (1 : Int32) (by decide) d_PA_comesTo_35 ?_
        exact b_zret (pc := 36) rfl (Or.inr rfl) d_PA_comesTo_36 h
theorem ko_PA_comesTo {g : Gx}  {x1 : Int32} {x2 : Int32} {σ : St} {Q : Int32 → St → Prop} (h : S_PA_comesTo_0 g Q σ x1 x2) : K_PA_comesTo g x1 x2 σ Q := KI.of (show plainName "BallBox$Pairs" = true by decide) (Nat.le_of_ble_eq_true rfl) h
theorem d_PA_listBeginnings_0 : decode c_PA_listBeginnings 0 = .ok (.aload_n 0, 1) := by decide +kernel
theorem d_PA_listBeginnings_1 : decode c_PA_listBeginnings 1 = .ok (.bipush (-2), 2) := by decide +kernel
theorem d_PA_listBeginnings_3 : decode c_PA_listBeginnings 3 = .ok (.putfield 99, 3) := by decide +kernel
theorem d_PA_listBeginnings_6 : decode c_PA_listBeginnings 6 = .ok (.aload_n 0, 1) := by decide +kernel
theorem d_PA_listBeginnings_7 : decode c_PA_listBeginnings 7 = .ok (.iconst 0, 1) := by decide +kernel
theorem d_PA_listBeginnings_8 : decode c_PA_listBeginnings 8 = .ok (.putfield 102, 3) := by decide +kernel
theorem d_PA_listBeginnings_11 : decode c_PA_listBeginnings 11 = .ok (.aload_n 0, 1) := by decide +kernel
theorem d_PA_listBeginnings_12 : decode c_PA_listBeginnings 12 = .ok (.getfield 32, 3) := by decide +kernel
theorem d_PA_listBeginnings_15 : decode c_PA_listBeginnings 15 = .ok (.iconst 0, 1) := by decide +kernel
theorem d_PA_listBeginnings_16 : decode c_PA_listBeginnings 16 = .ok (.iconst 0, 1) := by decide +kernel
theorem d_PA_listBeginnings_17 : decode c_PA_listBeginnings 17 = .ok (.iastore, 1) := by decide +kernel
theorem d_PA_listBeginnings_18 : decode c_PA_listBeginnings 18 = .ok (.iload_n 1, 1) := by decide +kernel
theorem d_PA_listBeginnings_19 : decode c_PA_listBeginnings 19 = .ok (.iload_n 2, 1) := by decide +kernel
theorem d_PA_listBeginnings_20 : decode c_PA_listBeginnings 20 = .ok (.invokestatic 105, 3) := by decide +kernel
theorem d_PA_listBeginnings_23 : decode c_PA_listBeginnings 23 = .ok (.istore_n 3, 1) := by decide +kernel
theorem d_PA_listBeginnings_24 : decode c_PA_listBeginnings 24 = .ok (.iconst 0, 1) := by decide +kernel
theorem d_PA_listBeginnings_25 : decode c_PA_listBeginnings 25 = .ok (.istore 4, 2) := by decide +kernel
theorem d_PA_listBeginnings_27 : decode c_PA_listBeginnings 27 = .ok (.iload 4, 2) := by decide +kernel
theorem d_PA_listBeginnings_29 : decode c_PA_listBeginnings 29 = .ok (.iload_n 3, 1) := by decide +kernel
theorem d_PA_listBeginnings_30 : decode c_PA_listBeginnings 30 = .ok (.if_icmp .ge 101, 3) := by decide +kernel
theorem d_PA_listBeginnings_33 : decode c_PA_listBeginnings 33 = .ok (.iload 4, 2) := by decide +kernel
theorem d_PA_listBeginnings_35 : decode c_PA_listBeginnings 35 = .ok (.iload_n 1, 1) := by decide +kernel
theorem d_PA_listBeginnings_36 : decode c_PA_listBeginnings 36 = .ok (.aload_n 0, 1) := by decide +kernel
theorem d_PA_listBeginnings_37 : decode c_PA_listBeginnings 37 = .ok (.getfield 11, 3) := by decide +kernel
theorem d_PA_listBeginnings_40 : decode c_PA_listBeginnings 40 = .ok (.iload_n 2, 1) := by decide +kernel
theorem d_PA_listBeginnings_41 : decode c_PA_listBeginnings 41 = .ok (.invokestatic 109, 3) := by decide +kernel
theorem d_PA_listBeginnings_44 : decode c_PA_listBeginnings 44 = .ok (.istore 5, 2) := by decide +kernel
theorem d_PA_listBeginnings_46 : decode c_PA_listBeginnings 46 = .ok (.iload 5, 2) := by decide +kernel
theorem d_PA_listBeginnings_48 : decode c_PA_listBeginnings 48 = .ok (.ifCond .lt 77, 3) := by decide +kernel
theorem d_PA_listBeginnings_51 : decode c_PA_listBeginnings 51 = .ok (.iload 5, 2) := by decide +kernel
theorem d_PA_listBeginnings_53 : decode c_PA_listBeginnings 53 = .ok (.sipush 4096, 3) := by decide +kernel
theorem d_PA_listBeginnings_56 : decode c_PA_listBeginnings 56 = .ok (.if_icmp .ge 69, 3) := by decide +kernel
theorem d_PA_listBeginnings_59 : decode c_PA_listBeginnings 59 = .ok (.aload_n 0, 1) := by decide +kernel
theorem d_PA_listBeginnings_60 : decode c_PA_listBeginnings 60 = .ok (.getfield 32, 3) := by decide +kernel
theorem d_PA_listBeginnings_63 : decode c_PA_listBeginnings 63 = .ok (.iconst 0, 1) := by decide +kernel
theorem d_PA_listBeginnings_64 : decode c_PA_listBeginnings 64 = .ok (.iaload, 1) := by decide +kernel
theorem d_PA_listBeginnings_65 : decode c_PA_listBeginnings 65 = .ok (.sipush 1260, 3) := by decide +kernel
theorem d_PA_listBeginnings_68 : decode c_PA_listBeginnings 68 = .ok (.if_icmp .ge 57, 3) := by decide +kernel
theorem d_PA_listBeginnings_71 : decode c_PA_listBeginnings 71 = .ok (.aload_n 0, 1) := by decide +kernel
theorem d_PA_listBeginnings_72 : decode c_PA_listBeginnings 72 = .ok (.getfield 29, 3) := by decide +kernel
theorem d_PA_listBeginnings_75 : decode c_PA_listBeginnings 75 = .ok (.aload_n 0, 1) := by decide +kernel
theorem d_PA_listBeginnings_76 : decode c_PA_listBeginnings 76 = .ok (.getfield 32, 3) := by decide +kernel
theorem d_PA_listBeginnings_79 : decode c_PA_listBeginnings 79 = .ok (.iconst 0, 1) := by decide +kernel
theorem d_PA_listBeginnings_80 : decode c_PA_listBeginnings 80 = .ok (.iaload, 1) := by decide +kernel
theorem d_PA_listBeginnings_81 : decode c_PA_listBeginnings 81 = .ok (.iload 5, 2) := by decide +kernel
theorem d_PA_listBeginnings_83 : decode c_PA_listBeginnings 83 = .ok (.iastore, 1) := by decide +kernel
theorem d_PA_listBeginnings_84 : decode c_PA_listBeginnings 84 = .ok (.aload_n 0, 1) := by decide +kernel
theorem d_PA_listBeginnings_85 : decode c_PA_listBeginnings 85 = .ok (.getfield 32, 3) := by decide +kernel
theorem d_PA_listBeginnings_88 : decode c_PA_listBeginnings 88 = .ok (.iconst 0, 1) := by decide +kernel
theorem d_PA_listBeginnings_89 : decode c_PA_listBeginnings 89 = .ok (.dup2, 1) := by decide +kernel
theorem d_PA_listBeginnings_90 : decode c_PA_listBeginnings 90 = .ok (.iaload, 1) := by decide +kernel
theorem d_PA_listBeginnings_91 : decode c_PA_listBeginnings 91 = .ok (.iconst 1, 1) := by decide +kernel
theorem d_PA_listBeginnings_92 : decode c_PA_listBeginnings 92 = .ok (.iadd, 1) := by decide +kernel
theorem d_PA_listBeginnings_93 : decode c_PA_listBeginnings 93 = .ok (.iastore, 1) := by decide +kernel
theorem d_PA_listBeginnings_94 : decode c_PA_listBeginnings 94 = .ok (.aload_n 0, 1) := by decide +kernel
theorem d_PA_listBeginnings_95 : decode c_PA_listBeginnings 95 = .ok (.getfield 20, 3) := by decide +kernel
theorem d_PA_listBeginnings_98 : decode c_PA_listBeginnings 98 = .ok (.iload 5, 2) := by decide +kernel
theorem d_PA_listBeginnings_100 : decode c_PA_listBeginnings 100 = .ok (.iaload, 1) := by decide +kernel
theorem d_PA_listBeginnings_101 : decode c_PA_listBeginnings 101 = .ok (.aload_n 0, 1) := by decide +kernel
theorem d_PA_listBeginnings_102 : decode c_PA_listBeginnings 102 = .ok (.getfield 99, 3) := by decide +kernel
theorem d_PA_listBeginnings_105 : decode c_PA_listBeginnings 105 = .ok (.if_icmp .le 20, 3) := by decide +kernel
theorem d_PA_listBeginnings_108 : decode c_PA_listBeginnings 108 = .ok (.aload_n 0, 1) := by decide +kernel
theorem d_PA_listBeginnings_109 : decode c_PA_listBeginnings 109 = .ok (.aload_n 0, 1) := by decide +kernel
theorem d_PA_listBeginnings_110 : decode c_PA_listBeginnings 110 = .ok (.getfield 20, 3) := by decide +kernel
theorem d_PA_listBeginnings_113 : decode c_PA_listBeginnings 113 = .ok (.iload 5, 2) := by decide +kernel
theorem d_PA_listBeginnings_115 : decode c_PA_listBeginnings 115 = .ok (.iaload, 1) := by decide +kernel
theorem d_PA_listBeginnings_116 : decode c_PA_listBeginnings 116 = .ok (.putfield 99, 3) := by decide +kernel
theorem d_PA_listBeginnings_119 : decode c_PA_listBeginnings 119 = .ok (.aload_n 0, 1) := by decide +kernel
theorem d_PA_listBeginnings_120 : decode c_PA_listBeginnings 120 = .ok (.iload 5, 2) := by decide +kernel
theorem d_PA_listBeginnings_122 : decode c_PA_listBeginnings 122 = .ok (.putfield 102, 3) := by decide +kernel
theorem d_PA_listBeginnings_125 : decode c_PA_listBeginnings 125 = .ok (.iinc 4 1, 3) := by decide +kernel
theorem d_PA_listBeginnings_128 : decode c_PA_listBeginnings 128 = .ok (.goto (-101), 3) := by decide +kernel
theorem d_PA_listBeginnings_131 : decode c_PA_listBeginnings 131 = .ok (.return_, 1) := by decide +kernel
def S_PA_listBeginnings_0 (g : Gx) (Q : St → Prop) (σ : St) (x1 : Int32) (x2 : Int32) : Prop := Ax g m_PA_listBeginnings 0 0 (ZV g Q) SH σ 0 0 0 [(0, .ref (gB g + 69)), (1, .int x1), (2, .int x2)] []
def S_PA_listBeginnings_27 (g : Gx) (Q : St → Prop) (σ : St) (x1 : Int32) (x2 : Int32) (x3 : Int32) (x4 : Int32) : Prop := Ax g m_PA_listBeginnings 0 0 (ZV g Q) SH σ 0 0 27 [(0, .ref (gB g + 69)), (1, .int x1), (2, .int x2), (3, .int x3), (4, .int x4)] []
theorem sg_PA_listBeginnings_0 {g : Gx} {Q : St → Prop} {σ : St} {x1 : Int32} {x2 : Int32}
    (h : ∀ s1 : St, s1 = sfi σ 69 14 (-2 : Int32) → ∀ s2 : St, s2 = sfi s1 69 15 (0 : Int32) → vp_in (0 : Int32) 7 ∧ (∀ s3 : St, s3 = sai s2 76 ((0 : Int32)).toNatClampNeg (0 : Int32) → K_SA_beginningsEnd g x1 x2 s3 (fun (r5 : Int32) (s4 : St) => S_PA_listBeginnings_27 g Q s4 x1 x2 r5 (0 : Int32)))) : S_PA_listBeginnings_0 g Q σ x1 x2 := by
  show Ax g m_PA_listBeginnings 0 0 (ZV g Q) SH σ 0 0 0 [(0, .ref (gB g + 69)), (1, .int x1), (2, .int x2)] []
  refine a_aload_n (pc := 0) 0 rfl rfl d_PA_listBeginnings_0 ?_
  refine a_bipush (pc := 1) (-2 : Int32) (by decide) d_PA_listBeginnings_1 ?_
  refine a_putI (pc := 3) fp_PA_99 sx_69 rfl d_PA_listBeginnings_3 ?_
  refine a_nms (fun s1 hs1 => ?_)
  replace h := h s1 hs1
  refine a_aload_n (pc := 6) 0 rfl rfl d_PA_listBeginnings_6 ?_
  refine a_iconst (pc := 7) (0 : Int32) (by decide) d_PA_listBeginnings_7 ?_
  refine a_putI (pc := 8) fp_PA_102 sx_69 rfl d_PA_listBeginnings_8 ?_
  refine a_nms (fun s2 hs2 => ?_)
  replace h := h s2 hs2
  refine a_aload_n (pc := 11) 0 rfl rfl d_PA_listBeginnings_11 ?_
  refine a_getR (pc := 12) fg_PA_32 sx_69 rfl d_PA_listBeginnings_12 ?_
  refine a_iconst (pc := 15) (0 : Int32) (by decide) d_PA_listBeginnings_15 ?_
  refine a_iconst (pc := 16) (0 : Int32) (by decide) d_PA_listBeginnings_16 ?_
  obtain ⟨hx, h⟩ := h
  refine a_iast (pc := 17) sx_76 hx d_PA_listBeginnings_17 ?_
  refine a_nms (fun s3 hs3 => ?_)
  replace h := h s3 hs3
  refine a_iload_n (pc := 18) 1 rfl rfl d_PA_listBeginnings_18 ?_
  refine a_iload_n (pc := 19) 2 rfl rfl d_PA_listBeginnings_19 ?_
  refine a_callS (pc := 20) (M' := m_SA_beginningsEnd) (As := [.int x1, .int x2]) (st := []) (mc' := 0) (ms' := 0) lk_PA_105 rfl (by decide) (by decide) rfl (Nat.le_of_ble_eq_true rfl) (Nat.le_refl 0) (Nat.le_refl 0) d_PA_listBeginnings_20 h ?_
  rintro _ _ s4 ⟨r5, rfl, rfl, h⟩ -
  show Ax g m_PA_listBeginnings 0 0 (ZV g Q) SH s4 0 0 23 [(0, .ref (gB g + 69)), (1, .int x1), (2, .int x2)] [.int r5]
  refine a_istore_n (pc := 23) (lv' := [(3, .int r5), (0, .ref (gB g + 69)), (1, .int x1), (2, .int x2)]) rfl (Nat.le_of_ble_eq_true rfl) rfl d_PA_listBeginnings_23 ?_
  refine a_iconst (pc := 24) (0 : Int32) (by decide) d_PA_listBeginnings_24 ?_
  refine a_istore (pc := 25) (lv' := [(4, .int (0 : Int32)), (3, .int r5), (0, .ref (gB g + 69)), (1, .int x1), (2, .int x2)]) (Nat.le_of_ble_eq_true rfl) rfl d_PA_listBeginnings_25 ?_
  refine a_sub (pc := 27) [2, 3, 4, 1, 0] rfl ?_
  exact h
theorem sg_PA_listBeginnings_27 {g : Gx} {Q : St → Prop} {σ : St} {x1 : Int32} {x2 : Int32} {x3 : Int32} {x4 : Int32}
    (h : (x3 ≤ x4 → Q σ) ∧ (¬ x3 ≤ x4 → K_SA_beginning g x4 x1 70 x2 σ (fun (r2 : Int32) (s1 : St) => (r2 < 0 → ∀ u3 : Int32, u3 = x4 + (1 : Int32) → S_PA_listBeginnings_27 g Q s1 x1 x2 x3 u3) ∧ (¬ r2 < 0 → ((4096 : Int32) ≤ r2 → ∀ u4 : Int32, u4 = x4 + (1 : Int32) → S_PA_listBeginnings_27 g Q s1 x1 x2 x3 u4) ∧ (¬ (4096 : Int32) ≤ r2 → vp_in (0 : Int32) 7 ∧ (((1260 : Int32) ≤ (ai s1 76 ((0 : Int32)).toNatClampNeg) → ∀ u5 : Int32, u5 = x4 + (1 : Int32) → S_PA_listBeginnings_27 g Q s1 x1 x2 x3 u5) ∧ (¬ (1260 : Int32) ≤ (ai s1 76 ((0 : Int32)).toNatClampNeg) → vp_in (0 : Int32) 7 ∧ (vp_in (ai s1 76 ((0 : Int32)).toNatClampNeg) 8820 ∧ (∀ s6 : St, s6 = sai s1 75 ((ai s1 76 ((0 : Int32)).toNatClampNeg)).toNatClampNeg r2 → vp_in (0 : Int32) 7 ∧ (vp_in (0 : Int32) 7 ∧ (∀ s7 : St, s7 = sai s6 76 ((0 : Int32)).toNatClampNeg ((ai s6 76 ((0 : Int32)).toNatClampNeg) + (1 : Int32)) → vp_in r2 4096 ∧ (((ai s7 72 (r2).toNatClampNeg) ≤ (fi s7 69 14) → ∀ u8 : Int32, u8 = x4 + (1 : Int32) → S_PA_listBeginnings_27 g Q s7 x1 x2 x3 u8) ∧ (¬ (ai s7 72 (r2).toNatClampNeg) ≤ (fi s7 69 14) → vp_in r2 4096 ∧ (∀ s9 : St, s9 = sfi s7 69 14 (ai s7 72 (r2).toNatClampNeg) → ∀ s10 : St, s10 = sfi s9 69 15 r2 → ∀ u11 : Int32, u11 = x4 + (1 : Int32) → S_PA_listBeginnings_27 g Q s10 x1 x2 x3 u11)))))))))))))) : S_PA_listBeginnings_27 g Q σ x1 x2 x3 x4 := by
  show Ax g m_PA_listBeginnings 0 0 (ZV g Q) SH σ 0 0 27 [(0, .ref (gB g + 69)), (1, .int x1), (2, .int x2), (3, .int x3), (4, .int x4)] []
  refine a_iload (pc := 27) 4 rfl d_PA_listBeginnings_27 ?_
  refine a_iload_n (pc := 29) 3 rfl rfl d_PA_listBeginnings_29 ?_
  refine a_icmp_ge (pc := 30) 131 (by decide) d_PA_listBeginnings_30 ⟨fun c0 => ?_, fun c0 => ?_⟩
  · replace h := h.1 c0
    exact b_vret (pc := 131) rfl d_PA_listBeginnings_131 h
  · replace h := h.2 c0
    refine a_iload (pc := 33) 4 rfl d_PA_listBeginnings_33 ?_
    refine a_iload_n (pc := 35) 1 rfl rfl d_PA_listBeginnings_35 ?_
    refine a_aload_n (pc := 36) 0 rfl rfl d_PA_listBeginnings_36 ?_
    refine a_getR (pc := 37) fg_PA_11 sx_69 rfl d_PA_listBeginnings_37 ?_
    refine a_iload_n (pc := 40) 2 rfl rfl d_PA_listBeginnings_40 ?_
    refine a_callS (pc := 41) (M' := m_SA_beginning) (As := [.int x4, .int x1, .ref (gB g + 70), .int x2]) (st := []) (mc' := 0) (ms' := 0) lk_PA_109 rfl (by decide) (by decide) rfl (Nat.le_of_ble_eq_true rfl) (Nat.le_refl 0) (Nat.le_refl 0) d_PA_listBeginnings_41 h ?_
    rintro _ _ s1 ⟨r2, rfl, rfl, h⟩ -
    show Ax g m_PA_listBeginnings 0 0 (ZV g Q) SH s1 0 0 44 [(0, .ref (gB g + 69)), (1, .int x1), (2, .int x2), (3, .int x3), (4, .int x4)] [.int r2]
    refine a_istore (pc := 44) (lv' := [(5, .int r2), (0, .ref (gB g + 69)), (1, .int x1), (2, .int x2), (3, .int x3), (4, .int x4)]) (Nat.le_of_ble_eq_true rfl) rfl d_PA_listBeginnings_44 ?_
    refine a_iload (pc := 46) 0 rfl d_PA_listBeginnings_46 ?_
    refine a_if_lt (pc := 48) 125 (by decide) d_PA_listBeginnings_48 ⟨fun c0 => ?_, fun c0 => ?_⟩
    · replace h := h.1 c0
      obtain ⟨u3, hu3⟩ : ∃ y : Int32, y = x4 + (1 : Int32) := ⟨_, rfl⟩
      replace h := h u3 hu3
      refine a_iinc (pc := 125) (v := u3) (lv' := [(4, .int u3), (5, .int r2), (0, .ref (gB g + 69)), (1, .int x1), (2, .int x2), (3, .int x3)]) 5 rfl (by rw [hu3]; rfl) (Nat.le_of_ble_eq_true rfl) rfl d_PA_listBeginnings_125 ?_
      refine a_goto (pc := 128) 27 (by decide) d_PA_listBeginnings_128 ?_
      refine a_sub (pc := 27) [2, 3, 4, 5, 0] rfl ?_
      exact h
    · replace h := h.2 c0
      refine a_iload (pc := 51) 0 rfl d_PA_listBeginnings_51 ?_
      refine a_sipush (pc := 53) (4096 : Int32) (by decide) d_PA_listBeginnings_53 ?_
      refine a_icmp_ge (pc := 56) 125 (by decide) d_PA_listBeginnings_56 ⟨fun c0 => ?_, fun c0 => ?_⟩
      · replace h := h.1 c0
        obtain ⟨u4, hu4⟩ : ∃ y : Int32, y = x4 + (1 : Int32) := ⟨_, rfl⟩
        replace h := h u4 hu4
        refine a_iinc (pc := 125) (v := u4) (lv' := [(4, .int u4), (5, .int r2), (0, .ref (gB g + 69)), (1, .int x1), (2, .int x2), (3, .int x3)]) 5 rfl (by rw [hu4]; rfl) (Nat.le_of_ble_eq_true rfl) rfl d_PA_listBeginnings_125 ?_
        refine a_goto (pc := 128) 27 (by decide) d_PA_listBeginnings_128 ?_
        refine a_sub (pc := 27) [2, 3, 4, 5, 0] rfl ?_
        exact h
      · replace h := h.2 c0
        refine a_aload_n (pc := 59) 1 rfl rfl d_PA_listBeginnings_59 ?_
        refine a_getR (pc := 60) fg_PA_32 sx_69 rfl d_PA_listBeginnings_60 ?_
        refine a_iconst (pc := 63) (0 : Int32) (by decide) d_PA_listBeginnings_63 ?_
        obtain ⟨hx, h⟩ := h
        refine a_iald (pc := 64) sx_76 hx d_PA_listBeginnings_64 ?_
        refine a_sipush (pc := 65) (1260 : Int32) (by decide) d_PA_listBeginnings_65 ?_
        refine a_icmp_ge (pc := 68) 125 (by decide) d_PA_listBeginnings_68 ⟨fun c0 => ?_, fun c0 => ?_⟩
        · replace h := h.1 c0
          obtain ⟨u5, hu5⟩ : ∃ y : Int32, y = x4 + (1 : Int32) := ⟨_, rfl⟩
          replace h := h u5 hu5
          refine a_iinc (pc := 125) (v := u5) (lv' := [(4, .int u5), (5, .int r2), (0, .ref (gB g + 69)), (1, .int x1), (2, .int x2), (3, .int x3)]) 5 rfl (by rw [hu5]; rfl) (Nat.le_of_ble_eq_true rfl) rfl d_PA_listBeginnings_125 ?_
          refine a_goto (pc := 128) 27 (by decide) d_PA_listBeginnings_128 ?_
          refine a_sub (pc := 27) [2, 3, 4, 5, 0] rfl ?_
          exact h
        · replace h := h.2 c0
          refine a_aload_n (pc := 71) 1 rfl rfl d_PA_listBeginnings_71 ?_
          refine a_getR (pc := 72) fg_PA_29 sx_69 rfl d_PA_listBeginnings_72 ?_
          refine a_aload_n (pc := 75) 1 rfl rfl d_PA_listBeginnings_75 ?_
          refine a_getR (pc := 76) fg_PA_32 sx_69 rfl d_PA_listBeginnings_76 ?_
          refine a_iconst (pc := 79) (0 : Int32) (by decide) d_PA_listBeginnings_79 ?_
          obtain ⟨hx, h⟩ := h
          refine a_iald (pc := 80) sx_76 hx d_PA_listBeginnings_80 ?_
          refine a_iload (pc := 81) 0 rfl d_PA_listBeginnings_81 ?_
          obtain ⟨hx, h⟩ := h
          refine a_iast (pc := 83) sx_75 hx d_PA_listBeginnings_83 ?_
          refine a_nms (fun s6 hs6 => ?_)
          replace h := h s6 hs6
          refine a_aload_n (pc := 84) 1 rfl rfl d_PA_listBeginnings_84 ?_
          refine a_getR (pc := 85) fg_PA_32 sx_69 rfl d_PA_listBeginnings_85 ?_
          refine a_iconst (pc := 88) (0 : Int32) (by decide) d_PA_listBeginnings_88 ?_
          refine a_dup2_11 (pc := 89) rfl rfl d_PA_listBeginnings_89 ?_
          obtain ⟨hx, h⟩ := h
          refine a_iald (pc := 90) sx_76 hx d_PA_listBeginnings_90 ?_
          refine a_iconst (pc := 91) (1 : Int32) (by decide) d_PA_listBeginnings_91 ?_
          refine a_iadd (pc := 92) d_PA_listBeginnings_92 ?_
          obtain ⟨hx, h⟩ := h
          refine a_iast (pc := 93) sx_76 hx d_PA_listBeginnings_93 ?_
          refine a_nms (fun s7 hs7 => ?_)
          replace h := h s7 hs7
          refine a_aload_n (pc := 94) 1 rfl rfl d_PA_listBeginnings_94 ?_
          refine a_getR (pc := 95) fg_PA_20 sx_69 rfl d_PA_listBeginnings_95 ?_
          refine a_iload (pc := 98) 0 rfl d_PA_listBeginnings_98 ?_
          obtain ⟨hx, h⟩ := h
          refine a_iald (pc := 100) sx_72 hx d_PA_listBeginnings_100 ?_
          refine a_aload_n (pc := 101) 1 rfl rfl d_PA_listBeginnings_101 ?_
          refine a_getI (pc := 102) fg_PA_99 sx_69 rfl d_PA_listBeginnings_102 ?_
          refine a_icmp_le (pc := 105) 125 (by decide) d_PA_listBeginnings_105 ⟨fun c0 => ?_, fun c0 => ?_⟩
          · replace h := h.1 c0
            obtain ⟨u8, hu8⟩ : ∃ y : Int32, y = x4 + (1 : Int32) := ⟨_, rfl⟩
            replace h := h u8 hu8
            refine a_iinc (pc := 125) (v := u8) (lv' := [(4, .int u8), (5, .int r2), (0, .ref (gB g + 69)), (1, .int x1), (2, .int x2), (3, .int x3)]) 5 rfl (by rw [hu8]; rfl) (Nat.le_of_ble_eq_true rfl) rfl d_PA_listBeginnings_125 ?_
            refine a_goto (pc := 128) 27 (by decide) d_PA_listBeginnings_128 ?_
            refine a_sub (pc := 27) [2, 3, 4, 5, 0] rfl ?_
            exact h
          · replace h := h.2 c0
            refine a_aload_n (pc := 108) 1 rfl rfl d_PA_listBeginnings_108 ?_
            refine a_aload_n (pc := 109) 1 rfl rfl d_PA_listBeginnings_109 ?_
            refine a_getR (pc := 110) fg_PA_20 sx_69 rfl d_PA_listBeginnings_110 ?_
            refine a_iload (pc := 113) 0 rfl d_PA_listBeginnings_113 ?_
            obtain ⟨hx, h⟩ := h
            refine a_iald (pc := 115) sx_72 hx d_PA_listBeginnings_115 ?_
            refine a_putI (pc := 116) fp_PA_99 sx_69 rfl d_PA_listBeginnings_116 ?_
            refine a_nms (fun s9 hs9 => ?_)
            replace h := h s9 hs9
            refine a_aload_n (pc := 119) 1 rfl rfl d_PA_listBeginnings_119 ?_
            refine a_iload (pc := 120) 0 rfl d_PA_listBeginnings_120 ?_
            refine a_putI (pc := 122) fp_PA_102 sx_69 rfl d_PA_listBeginnings_122 ?_
            refine a_nms (fun s10 hs10 => ?_)
            replace h := h s10 hs10
            obtain ⟨u11, hu11⟩ : ∃ y : Int32, y = x4 + (1 : Int32) := ⟨_, rfl⟩
            replace h := h u11 hu11
            refine a_iinc (pc := 125) (v := u11) (lv' := [(4, .int u11), (5, .int r2), (0, .ref (gB g + 69)), (1, .int x1), (2, .int x2), (3, .int x3)]) 5 rfl (by rw [hu11]; rfl) (Nat.le_of_ble_eq_true rfl) rfl d_PA_listBeginnings_125 ?_
            refine a_goto (pc := 128) 27 (by decide) d_PA_listBeginnings_128 ?_
            refine a_sub (pc := 27) [2, 3, 4, 5, 0] rfl ?_
            exact h
theorem ko_PA_listBeginnings {g : Gx}  {x1 : Int32} {x2 : Int32} {σ : St} {Q : St → Prop} (h : S_PA_listBeginnings_0 g Q σ x1 x2) : K_PA_listBeginnings g x1 x2 σ Q := KV.of (show plainName "BallBox$Pairs" = true by decide) (Nat.le_of_ble_eq_true rfl) h
theorem d_PA_findsRow_0 : decode c_PA_findsRow 0 = .ok (.iload_n 1, 1) := by decide +kernel
theorem d_PA_findsRow_1 : decode c_PA_findsRow 1 = .ok (.bipush 6, 2) := by decide +kernel
theorem d_PA_findsRow_3 : decode c_PA_findsRow 3 = .ok (.if_icmp .gt 11, 3) := by decide +kernel
theorem d_PA_findsRow_6 : decode c_PA_findsRow 6 = .ok (.aload_n 0, 1) := by decide +kernel
theorem d_PA_findsRow_7 : decode c_PA_findsRow 7 = .ok (.iload_n 1, 1) := by decide +kernel
theorem d_PA_findsRow_8 : decode c_PA_findsRow 8 = .ok (.invokevirtual 113, 3) := by decide +kernel
theorem d_PA_findsRow_11 : decode c_PA_findsRow 11 = .ok (.ifCond .ne 5, 3) := by decide +kernel
theorem d_PA_findsRow_14 : decode c_PA_findsRow 14 = .ok (.iconst 0, 1) := by decide +kernel
theorem d_PA_findsRow_15 : decode c_PA_findsRow 15 = .ok (.ireturn, 1) := by decide +kernel
theorem d_PA_findsRow_16 : decode c_PA_findsRow 16 = .ok (.iconst 0, 1) := by decide +kernel
theorem d_PA_findsRow_17 : decode c_PA_findsRow 17 = .ok (.istore_n 2, 1) := by decide +kernel
theorem d_PA_findsRow_18 : decode c_PA_findsRow 18 = .ok (.aload_n 0, 1) := by decide +kernel
theorem d_PA_findsRow_19 : decode c_PA_findsRow 19 = .ok (.getfield 35, 3) := by decide +kernel
theorem d_PA_findsRow_22 : decode c_PA_findsRow 22 = .ok (.iconst 0, 1) := by decide +kernel
theorem d_PA_findsRow_23 : decode c_PA_findsRow 23 = .ok (.iconst 0, 1) := by decide +kernel
theorem d_PA_findsRow_24 : decode c_PA_findsRow 24 = .ok (.iastore, 1) := by decide +kernel
theorem d_PA_findsRow_25 : decode c_PA_findsRow 25 = .ok (.iconst 0, 1) := by decide +kernel
theorem d_PA_findsRow_26 : decode c_PA_findsRow 26 = .ok (.istore_n 3, 1) := by decide +kernel
theorem d_PA_findsRow_27 : decode c_PA_findsRow 27 = .ok (.iload_n 3, 1) := by decide +kernel
theorem d_PA_findsRow_28 : decode c_PA_findsRow 28 = .ok (.sipush 20000, 3) := by decide +kernel
theorem d_PA_findsRow_31 : decode c_PA_findsRow 31 = .ok (.if_icmp .ge 77, 3) := by decide +kernel
theorem d_PA_findsRow_34 : decode c_PA_findsRow 34 = .ok (.iload_n 2, 1) := by decide +kernel
theorem d_PA_findsRow_35 : decode c_PA_findsRow 35 = .ok (.ifCond .lt 73, 3) := by decide +kernel
theorem d_PA_findsRow_38 : decode c_PA_findsRow 38 = .ok (.iload_n 2, 1) := by decide +kernel
theorem d_PA_findsRow_39 : decode c_PA_findsRow 39 = .ok (.iload_n 1, 1) := by decide +kernel
theorem d_PA_findsRow_40 : decode c_PA_findsRow 40 = .ok (.if_icmp .ne 5, 3) := by decide +kernel
theorem d_PA_findsRow_43 : decode c_PA_findsRow 43 = .ok (.iconst 1, 1) := by decide +kernel
theorem d_PA_findsRow_44 : decode c_PA_findsRow 44 = .ok (.ireturn, 1) := by decide +kernel
theorem d_PA_findsRow_45 : decode c_PA_findsRow 45 = .ok (.aload_n 0, 1) := by decide +kernel
theorem d_PA_findsRow_46 : decode c_PA_findsRow 46 = .ok (.getfield 35, 3) := by decide +kernel
theorem d_PA_findsRow_49 : decode c_PA_findsRow 49 = .ok (.iload_n 2, 1) := by decide +kernel
theorem d_PA_findsRow_50 : decode c_PA_findsRow 50 = .ok (.iaload, 1) := by decide +kernel
theorem d_PA_findsRow_51 : decode c_PA_findsRow 51 = .ok (.iconst 4, 1) := by decide +kernel
theorem d_PA_findsRow_52 : decode c_PA_findsRow 52 = .ok (.if_icmp .ne 9, 3) := by decide +kernel
theorem d_PA_findsRow_55 : decode c_PA_findsRow 55 = .ok (.iinc 2 (-1), 3) := by decide +kernel
theorem d_PA_findsRow_58 : decode c_PA_findsRow 58 = .ok (.goto 44, 3) := by decide +kernel
theorem d_PA_findsRow_61 : decode c_PA_findsRow 61 = .ok (.aload_n 0, 1) := by decide +kernel
theorem d_PA_findsRow_62 : decode c_PA_findsRow 62 = .ok (.getfield 35, 3) := by decide +kernel
theorem d_PA_findsRow_65 : decode c_PA_findsRow 65 = .ok (.iload_n 2, 1) := by decide +kernel
theorem d_PA_findsRow_66 : decode c_PA_findsRow 66 = .ok (.dup2, 1) := by decide +kernel
theorem d_PA_findsRow_67 : decode c_PA_findsRow 67 = .ok (.iaload, 1) := by decide +kernel
theorem d_PA_findsRow_68 : decode c_PA_findsRow 68 = .ok (.iconst 1, 1) := by decide +kernel
theorem d_PA_findsRow_69 : decode c_PA_findsRow 69 = .ok (.iadd, 1) := by decide +kernel
theorem d_PA_findsRow_70 : decode c_PA_findsRow 70 = .ok (.iastore, 1) := by decide +kernel
theorem d_PA_findsRow_71 : decode c_PA_findsRow 71 = .ok (.aload_n 0, 1) := by decide +kernel
theorem d_PA_findsRow_72 : decode c_PA_findsRow 72 = .ok (.iload_n 2, 1) := by decide +kernel
theorem d_PA_findsRow_73 : decode c_PA_findsRow 73 = .ok (.aload_n 0, 1) := by decide +kernel
theorem d_PA_findsRow_74 : decode c_PA_findsRow 74 = .ok (.getfield 35, 3) := by decide +kernel
theorem d_PA_findsRow_77 : decode c_PA_findsRow 77 = .ok (.iload_n 2, 1) := by decide +kernel
theorem d_PA_findsRow_78 : decode c_PA_findsRow 78 = .ok (.iaload, 1) := by decide +kernel
theorem d_PA_findsRow_79 : decode c_PA_findsRow 79 = .ok (.iconst 1, 1) := by decide +kernel
theorem d_PA_findsRow_80 : decode c_PA_findsRow 80 = .ok (.isub, 1) := by decide +kernel
theorem d_PA_findsRow_81 : decode c_PA_findsRow 81 = .ok (.iload_n 1, 1) := by decide +kernel
theorem d_PA_findsRow_82 : decode c_PA_findsRow 82 = .ok (.iload_n 2, 1) := by decide +kernel
theorem d_PA_findsRow_83 : decode c_PA_findsRow 83 = .ok (.isub, 1) := by decide +kernel
theorem d_PA_findsRow_84 : decode c_PA_findsRow 84 = .ok (.iconst 1, 1) := by decide +kernel
theorem d_PA_findsRow_85 : decode c_PA_findsRow 85 = .ok (.isub, 1) := by decide +kernel
theorem d_PA_findsRow_86 : decode c_PA_findsRow 86 = .ok (.invokevirtual 116, 3) := by decide +kernel
theorem d_PA_findsRow_89 : decode c_PA_findsRow 89 = .ok (.ifCond .eq 13, 3) := by decide +kernel
theorem d_PA_findsRow_92 : decode c_PA_findsRow 92 = .ok (.iinc 2 1, 3) := by decide +kernel
theorem d_PA_findsRow_95 : decode c_PA_findsRow 95 = .ok (.aload_n 0, 1) := by decide +kernel
theorem d_PA_findsRow_96 : decode c_PA_findsRow 96 = .ok (.getfield 35, 3) := by decide +kernel
theorem d_PA_findsRow_99 : decode c_PA_findsRow 99 = .ok (.iload_n 2, 1) := by decide +kernel
theorem d_PA_findsRow_100 : decode c_PA_findsRow 100 = .ok (.iconst 0, 1) := by decide +kernel
theorem d_PA_findsRow_101 : decode c_PA_findsRow 101 = .ok (.iastore, 1) := by decide +kernel
theorem d_PA_findsRow_102 : decode c_PA_findsRow 102 = .ok (.iinc 3 1, 3) := by decide +kernel
theorem d_PA_findsRow_105 : decode c_PA_findsRow 105 = .ok (.goto (-78), 3) := by decide +kernel
theorem d_PA_findsRow_108 : decode c_PA_findsRow 108 = .ok (.iconst 0, 1) := by decide +kernel
theorem d_PA_findsRow_109 : decode c_PA_findsRow 109 = .ok (.ireturn, 1) := by decide +kernel
def S_PA_findsRow_0 (g : Gx) (Q : Int32 → St → Prop) (σ : St) (x1 : Int32) : Prop := Ax g m_PA_findsRow 0 0 (ZI g Q) SH σ 0 0 0 [(0, .ref (gB g + 69)), (1, .int x1)] []
def S_PA_findsRow_27 (g : Gx) (Q : Int32 → St → Prop) (σ : St) (x1 : Int32) (x2 : Int32) (x3 : Int32) : Prop := Ax g m_PA_findsRow 0 0 (ZI g Q) SH σ 0 0 27 [(0, .ref (gB g + 69)), (1, .int x1), (2, .int x2), (3, .int x3)] []
theorem sg_PA_findsRow_0 {g : Gx} {Q : Int32 → St → Prop} {σ : St} {x1 : Int32}
    (h : ((6 : Int32) < x1 → Q (0 : Int32) σ) ∧ (¬ (6 : Int32) < x1 → K_PA_startsCanDo g x1 σ (fun (r2 : Int32) (s1 : St) => (¬ r2 = 0 → vp_in (0 : Int32) 7 ∧ (∀ s3 : St, s3 = sai s1 77 ((0 : Int32)).toNatClampNeg (0 : Int32) → S_PA_findsRow_27 g Q s3 x1 (0 : Int32) (0 : Int32))) ∧ (r2 = 0 → Q (0 : Int32) s1)))) : S_PA_findsRow_0 g Q σ x1 := by
  show Ax g m_PA_findsRow 0 0 (ZI g Q) SH σ 0 0 0 [(0, .ref (gB g + 69)), (1, .int x1)] []
  refine a_iload_n (pc := 0) 1 rfl rfl d_PA_findsRow_0 ?_
  refine a_bipush (pc := 1) (6 : Int32) (by decide) d_PA_findsRow_1 ?_
  refine a_icmp_gt (pc := 3) 14 (by decide) d_PA_findsRow_3 ⟨fun c0 => ?_, fun c0 => ?_⟩
  · replace h := h.1 c0
    refine a_iconst (pc := 14) (0 : Int32) (by decide) d_PA_findsRow_14 ?_
    exact b_zret (pc := 15) rfl (Or.inl rfl) d_PA_findsRow_15 h
  · replace h := h.2 c0
    refine a_aload_n (pc := 6) 0 rfl rfl d_PA_findsRow_6 ?_
    refine a_iload_n (pc := 7) 1 rfl rfl d_PA_findsRow_7 ?_
    refine a_callV (pc := 8) (M' := m_PA_startsCanDo) (As := [.int x1]) (st := []) (mc' := 0) (ms' := 0) lk_PA_113 rfl sx_69 rfl (by decide) (by decide) rfl (Nat.le_of_ble_eq_true rfl) (Nat.le_refl 0) (Nat.le_refl 0) d_PA_findsRow_8 h ?_
    rintro _ _ s1 ⟨r2, rfl, rfl, h⟩ -
    show Ax g m_PA_findsRow 0 0 (ZI g Q) SH s1 0 0 11 [(0, .ref (gB g + 69)), (1, .int x1)] [.int r2]
    refine a_if_ne (pc := 11) 16 (by decide) d_PA_findsRow_11 ⟨fun c0 => ?_, fun c0 => ?_⟩
    · replace h := h.1 c0
      refine a_iconst (pc := 16) (0 : Int32) (by decide) d_PA_findsRow_16 ?_
      refine a_istore_n (pc := 17) (lv' := [(2, .int (0 : Int32)), (0, .ref (gB g + 69)), (1, .int x1)]) rfl (Nat.le_of_ble_eq_true rfl) rfl d_PA_findsRow_17 ?_
      refine a_aload_n (pc := 18) 1 rfl rfl d_PA_findsRow_18 ?_
      refine a_getR (pc := 19) fg_PA_35 sx_69 rfl d_PA_findsRow_19 ?_
      refine a_iconst (pc := 22) (0 : Int32) (by decide) d_PA_findsRow_22 ?_
      refine a_iconst (pc := 23) (0 : Int32) (by decide) d_PA_findsRow_23 ?_
      obtain ⟨hx, h⟩ := h
      refine a_iast (pc := 24) sx_77 hx d_PA_findsRow_24 ?_
      refine a_nms (fun s3 hs3 => ?_)
      replace h := h s3 hs3
      refine a_iconst (pc := 25) (0 : Int32) (by decide) d_PA_findsRow_25 ?_
      refine a_istore_n (pc := 26) (lv' := [(3, .int (0 : Int32)), (2, .int (0 : Int32)), (0, .ref (gB g + 69)), (1, .int x1)]) rfl (Nat.le_of_ble_eq_true rfl) rfl d_PA_findsRow_26 ?_
      refine a_sub (pc := 27) [2, 3, 1, 0] rfl ?_
      exact h
    · replace h := h.2 c0
      refine a_iconst (pc := 14) (0 : Int32) (by decide) d_PA_findsRow_14 ?_
      exact b_zret (pc := 15) rfl (Or.inl rfl) d_PA_findsRow_15 h
theorem sg_PA_findsRow_27 {g : Gx} {Q : Int32 → St → Prop} {σ : St} {x1 : Int32} {x2 : Int32} {x3 : Int32}
    (h : ((20000 : Int32) ≤ x3 → Q (0 : Int32) σ) ∧ (¬ (20000 : Int32) ≤ x3 → (x2 < 0 → Q (0 : Int32) σ) ∧ (¬ x2 < 0 → (¬ x2 = x1 → vp_in x2 7 ∧ ((¬ (ai σ 77 (x2).toNatClampNeg) = (4 : Int32) → vp_in x2 7 ∧ (vp_in x2 7 ∧ (∀ s1 : St, s1 = sai σ 77 (x2).toNatClampNeg ((ai σ 77 (x2).toNatClampNeg) + (1 : Int32)) → vp_in x2 7 ∧ (K_PA_goesOn g x2 ((ai s1 77 (x2).toNatClampNeg) - (1 : Int32)) ((x1 - x2) - (1 : Int32)) s1 (fun (r3 : Int32) (s2 : St) => (r3 = 0 → ∀ u4 : Int32, u4 = x3 + (1 : Int32) → S_PA_findsRow_27 g Q s2 x1 x2 u4) ∧ (¬ r3 = 0 → ∀ u5 : Int32, u5 = x2 + (1 : Int32) → vp_in u5 7 ∧ (∀ s6 : St, s6 = sai s2 77 (u5).toNatClampNeg (0 : Int32) → ∀ u7 : Int32, u7 = x3 + (1 : Int32) → S_PA_findsRow_27 g Q s6 x1 u5 u7))))))) ∧ ((ai σ 77 (x2).toNatClampNeg) = (4 : Int32) → ∀ u8 : Int32, u8 = x2 + (-1 : Int32) → ∀ u9 : Int32, u9 = x3 + (1 : Int32) → S_PA_findsRow_27 g Q σ x1 u8 u9))) ∧ (x2 = x1 → Q (1 : Int32) σ)))) : S_PA_findsRow_27 g Q σ x1 x2 x3 := by
  show Ax g m_PA_findsRow 0 0 (ZI g Q) SH σ 0 0 27 [(0, .ref (gB g + 69)), (1, .int x1), (2, .int x2), (3, .int x3)] []
  refine a_iload_n (pc := 27) 3 rfl rfl d_PA_findsRow_27 ?_
  refine a_sipush (pc := 28) (20000 : Int32) (by decide) d_PA_findsRow_28 ?_
  refine a_icmp_ge (pc := 31) 108 (by decide) d_PA_findsRow_31 ⟨fun c0 => ?_, fun c0 => ?_⟩
  · replace h := h.1 c0
    refine a_iconst (pc := 108) (0 : Int32) (by decide) d_PA_findsRow_108 ?_
    exact b_zret (pc := 109) rfl (Or.inl rfl) d_PA_findsRow_109 h
  · replace h := h.2 c0
    refine a_iload_n (pc := 34) 2 rfl rfl d_PA_findsRow_34 ?_
    refine a_if_lt (pc := 35) 108 (by decide) d_PA_findsRow_35 ⟨fun c0 => ?_, fun c0 => ?_⟩
    · replace h := h.1 c0
      refine a_iconst (pc := 108) (0 : Int32) (by decide) d_PA_findsRow_108 ?_
      exact b_zret (pc := 109) rfl (Or.inl rfl) d_PA_findsRow_109 h
    · replace h := h.2 c0
      refine a_iload_n (pc := 38) 2 rfl rfl d_PA_findsRow_38 ?_
      refine a_iload_n (pc := 39) 1 rfl rfl d_PA_findsRow_39 ?_
      refine a_icmp_ne (pc := 40) 45 (by decide) d_PA_findsRow_40 ⟨fun c0 => ?_, fun c0 => ?_⟩
      · replace h := h.1 c0
        refine a_aload_n (pc := 45) 0 rfl rfl d_PA_findsRow_45 ?_
        refine a_getR (pc := 46) fg_PA_35 sx_69 rfl d_PA_findsRow_46 ?_
        refine a_iload_n (pc := 49) 2 rfl rfl d_PA_findsRow_49 ?_
        obtain ⟨hx, h⟩ := h
        refine a_iald (pc := 50) sx_77 hx d_PA_findsRow_50 ?_
        refine a_iconst (pc := 51) (4 : Int32) (by decide) d_PA_findsRow_51 ?_
        refine a_icmp_ne (pc := 52) 61 (by decide) d_PA_findsRow_52 ⟨fun c0 => ?_, fun c0 => ?_⟩
        · replace h := h.1 c0
          refine a_aload_n (pc := 61) 0 rfl rfl d_PA_findsRow_61 ?_
          refine a_getR (pc := 62) fg_PA_35 sx_69 rfl d_PA_findsRow_62 ?_
          refine a_iload_n (pc := 65) 2 rfl rfl d_PA_findsRow_65 ?_
          refine a_dup2_11 (pc := 66) rfl rfl d_PA_findsRow_66 ?_
          obtain ⟨hx, h⟩ := h
          refine a_iald (pc := 67) sx_77 hx d_PA_findsRow_67 ?_
          refine a_iconst (pc := 68) (1 : Int32) (by decide) d_PA_findsRow_68 ?_
          refine a_iadd (pc := 69) d_PA_findsRow_69 ?_
          obtain ⟨hx, h⟩ := h
          refine a_iast (pc := 70) sx_77 hx d_PA_findsRow_70 ?_
          refine a_nms (fun s1 hs1 => ?_)
          replace h := h s1 hs1
          refine a_aload_n (pc := 71) 0 rfl rfl d_PA_findsRow_71 ?_
          refine a_iload_n (pc := 72) 2 rfl rfl d_PA_findsRow_72 ?_
          refine a_aload_n (pc := 73) 0 rfl rfl d_PA_findsRow_73 ?_
          refine a_getR (pc := 74) fg_PA_35 sx_69 rfl d_PA_findsRow_74 ?_
          refine a_iload_n (pc := 77) 2 rfl rfl d_PA_findsRow_77 ?_
          obtain ⟨hx, h⟩ := h
          refine a_iald (pc := 78) sx_77 hx d_PA_findsRow_78 ?_
          refine a_iconst (pc := 79) (1 : Int32) (by decide) d_PA_findsRow_79 ?_
          refine a_isub (pc := 80) d_PA_findsRow_80 ?_
          refine a_iload_n (pc := 81) 1 rfl rfl d_PA_findsRow_81 ?_
          refine a_iload_n (pc := 82) 2 rfl rfl d_PA_findsRow_82 ?_
          refine a_isub (pc := 83) d_PA_findsRow_83 ?_
          refine a_iconst (pc := 84) (1 : Int32) (by decide) d_PA_findsRow_84 ?_
          refine a_isub (pc := 85) d_PA_findsRow_85 ?_
          refine a_callV (pc := 86) (M' := m_PA_goesOn) (As := [.int x2, .int ((ai s1 77 (x2).toNatClampNeg) - (1 : Int32)), .int ((x1 - x2) - (1 : Int32))]) (st := []) (mc' := 0) (ms' := 0) lk_PA_116 rfl sx_69 rfl (by decide) (by decide) rfl (Nat.le_of_ble_eq_true rfl) (Nat.le_refl 0) (Nat.le_refl 0) d_PA_findsRow_86 h ?_
          rintro _ _ s2 ⟨r3, rfl, rfl, h⟩ -
          show Ax g m_PA_findsRow 0 0 (ZI g Q) SH s2 0 0 89 [(0, .ref (gB g + 69)), (1, .int x1), (2, .int x2), (3, .int x3)] [.int r3]
          refine a_if_eq (pc := 89) 102 (by decide) d_PA_findsRow_89 ⟨fun c0 => ?_, fun c0 => ?_⟩
          · replace h := h.1 c0
            obtain ⟨u4, hu4⟩ : ∃ y : Int32, y = x3 + (1 : Int32) := ⟨_, rfl⟩
            replace h := h u4 hu4
            refine a_iinc (pc := 102) (v := u4) (lv' := [(3, .int u4), (0, .ref (gB g + 69)), (1, .int x1), (2, .int x2)]) 3 rfl (by rw [hu4]; rfl) (Nat.le_of_ble_eq_true rfl) rfl d_PA_findsRow_102 ?_
            refine a_goto (pc := 105) 27 (by decide) d_PA_findsRow_105 ?_
            refine a_sub (pc := 27) [1, 2, 3, 0] rfl ?_
            exact h
          · replace h := h.2 c0
            obtain ⟨u5, hu5⟩ : ∃ y : Int32, y = x2 + (1 : Int32) := ⟨_, rfl⟩
            replace h := h u5 hu5
            refine a_iinc (pc := 92) (v := u5) (lv' := [(2, .int u5), (0, .ref (gB g + 69)), (1, .int x1), (3, .int x3)]) 2 rfl (by rw [hu5]; rfl) (Nat.le_of_ble_eq_true rfl) rfl d_PA_findsRow_92 ?_
            refine a_aload_n (pc := 95) 1 rfl rfl d_PA_findsRow_95 ?_
            refine a_getR (pc := 96) fg_PA_35 sx_69 rfl d_PA_findsRow_96 ?_
            refine a_iload_n (pc := 99) 0 rfl rfl d_PA_findsRow_99 ?_
            refine a_iconst (pc := 100) (0 : Int32) (by decide) d_PA_findsRow_100 ?_
            obtain ⟨hx, h⟩ := h
            refine a_iast (pc := 101) sx_77 hx d_PA_findsRow_101 ?_
            refine a_nms (fun s6 hs6 => ?_)
            replace h := h s6 hs6
            obtain ⟨u7, hu7⟩ : ∃ y : Int32, y = x3 + (1 : Int32) := ⟨_, rfl⟩
            replace h := h u7 hu7
            refine a_iinc (pc := 102) (v := u7) (lv' := [(3, .int u7), (2, .int u5), (0, .ref (gB g + 69)), (1, .int x1)]) 3 rfl (by rw [hu7]; rfl) (Nat.le_of_ble_eq_true rfl) rfl d_PA_findsRow_102 ?_
            refine a_goto (pc := 105) 27 (by decide) d_PA_findsRow_105 ?_
            refine a_sub (pc := 27) [2, 3, 1, 0] rfl ?_
            exact h
        · replace h := h.2 c0
          obtain ⟨u8, hu8⟩ : ∃ y : Int32, y = x2 + (-1 : Int32) := ⟨_, rfl⟩
          replace h := h u8 hu8
          refine a_iinc (pc := 55) (v := u8) (lv' := [(2, .int u8), (0, .ref (gB g + 69)), (1, .int x1), (3, .int x3)]) 2 rfl (by rw [hu8]; rfl) (Nat.le_of_ble_eq_true rfl) rfl d_PA_findsRow_55 ?_
          refine a_goto (pc := 58) 102 (by decide) d_PA_findsRow_58 ?_
          obtain ⟨u9, hu9⟩ : ∃ y : Int32, y = x3 + (1 : Int32) := ⟨_, rfl⟩
          replace h := h u9 hu9
          refine a_iinc (pc := 102) (v := u9) (lv' := [(3, .int u9), (2, .int u8), (0, .ref (gB g + 69)), (1, .int x1)]) 3 rfl (by rw [hu9]; rfl) (Nat.le_of_ble_eq_true rfl) rfl d_PA_findsRow_102 ?_
          refine a_goto (pc := 105) 27 (by decide) d_PA_findsRow_105 ?_
          refine a_sub (pc := 27) [2, 3, 1, 0] rfl ?_
          exact h
      · replace h := h.2 c0
        refine a_iconst (pc := 43) (1 : Int32) (by decide) d_PA_findsRow_43 ?_
        exact b_zret (pc := 44) rfl (Or.inr rfl) d_PA_findsRow_44 h
theorem ko_PA_findsRow {g : Gx}  {x1 : Int32} {σ : St} {Q : Int32 → St → Prop} (h : S_PA_findsRow_0 g Q σ x1) : K_PA_findsRow g x1 σ Q := KI.of (show plainName "BallBox$Pairs" = true by decide) (Nat.le_of_ble_eq_true rfl) h
theorem d_PA_startsCanDo_0 : decode c_PA_startsCanDo 0 = .ok (.iconst 0, 1) := by decide +kernel
theorem d_PA_startsCanDo_1 : decode c_PA_startsCanDo 1 = .ok (.istore_n 2, 1) := by decide +kernel
theorem d_PA_startsCanDo_2 : decode c_PA_startsCanDo 2 = .ok (.iload_n 2, 1) := by decide +kernel
theorem d_PA_startsCanDo_3 : decode c_PA_startsCanDo 3 = .ok (.aload_n 0, 1) := by decide +kernel
theorem d_PA_startsCanDo_4 : decode c_PA_startsCanDo 4 = .ok (.getfield 32, 3) := by decide +kernel
theorem d_PA_startsCanDo_7 : decode c_PA_startsCanDo 7 = .ok (.iconst 0, 1) := by decide +kernel
theorem d_PA_startsCanDo_8 : decode c_PA_startsCanDo 8 = .ok (.iaload, 1) := by decide +kernel
theorem d_PA_startsCanDo_9 : decode c_PA_startsCanDo 9 = .ok (.if_icmp .ge 32, 3) := by decide +kernel
theorem d_PA_startsCanDo_12 : decode c_PA_startsCanDo 12 = .ok (.aload_n 0, 1) := by decide +kernel
theorem d_PA_startsCanDo_13 : decode c_PA_startsCanDo 13 = .ok (.getfield 20, 3) := by decide +kernel
theorem d_PA_startsCanDo_16 : decode c_PA_startsCanDo 16 = .ok (.aload_n 0, 1) := by decide +kernel
theorem d_PA_startsCanDo_17 : decode c_PA_startsCanDo 17 = .ok (.getfield 29, 3) := by decide +kernel
theorem d_PA_startsCanDo_20 : decode c_PA_startsCanDo 20 = .ok (.iload_n 2, 1) := by decide +kernel
theorem d_PA_startsCanDo_21 : decode c_PA_startsCanDo 21 = .ok (.iaload, 1) := by decide +kernel
theorem d_PA_startsCanDo_22 : decode c_PA_startsCanDo 22 = .ok (.iaload, 1) := by decide +kernel
theorem d_PA_startsCanDo_23 : decode c_PA_startsCanDo 23 = .ok (.istore_n 3, 1) := by decide +kernel
theorem d_PA_startsCanDo_24 : decode c_PA_startsCanDo 24 = .ok (.iload_n 3, 1) := by decide +kernel
theorem d_PA_startsCanDo_25 : decode c_PA_startsCanDo 25 = .ok (.ifCond .lt 8, 3) := by decide +kernel
theorem d_PA_startsCanDo_28 : decode c_PA_startsCanDo 28 = .ok (.iload_n 3, 1) := by decide +kernel
theorem d_PA_startsCanDo_29 : decode c_PA_startsCanDo 29 = .ok (.iload_n 1, 1) := by decide +kernel
theorem d_PA_startsCanDo_30 : decode c_PA_startsCanDo 30 = .ok (.if_icmp .le 5, 3) := by decide +kernel
theorem d_PA_startsCanDo_33 : decode c_PA_startsCanDo 33 = .ok (.iconst 0, 1) := by decide +kernel
theorem d_PA_startsCanDo_34 : decode c_PA_startsCanDo 34 = .ok (.ireturn, 1) := by decide +kernel
theorem d_PA_startsCanDo_35 : decode c_PA_startsCanDo 35 = .ok (.iinc 2 1, 3) := by decide +kernel
theorem d_PA_startsCanDo_38 : decode c_PA_startsCanDo 38 = .ok (.goto (-36), 3) := by decide +kernel
theorem d_PA_startsCanDo_41 : decode c_PA_startsCanDo 41 = .ok (.iconst 1, 1) := by decide +kernel
theorem d_PA_startsCanDo_42 : decode c_PA_startsCanDo 42 = .ok (.ireturn, 1) := by decide +kernel
def S_PA_startsCanDo_0 (g : Gx) (Q : Int32 → St → Prop) (σ : St) (x1 : Int32) : Prop := Ax g m_PA_startsCanDo 0 0 (ZI g Q) SH σ 0 0 0 [(0, .ref (gB g + 69)), (1, .int x1)] []
def S_PA_startsCanDo_2 (g : Gx) (Q : Int32 → St → Prop) (σ : St) (x1 : Int32) (x2 : Int32) : Prop := Ax g m_PA_startsCanDo 0 0 (ZI g Q) SH σ 0 0 2 [(0, .ref (gB g + 69)), (1, .int x1), (2, .int x2)] []
theorem sg_PA_startsCanDo_0 {g : Gx} {Q : Int32 → St → Prop} {σ : St} {x1 : Int32}
    (h : S_PA_startsCanDo_2 g Q σ x1 (0 : Int32)) : S_PA_startsCanDo_0 g Q σ x1 := by
  show Ax g m_PA_startsCanDo 0 0 (ZI g Q) SH σ 0 0 0 [(0, .ref (gB g + 69)), (1, .int x1)] []
  refine a_iconst (pc := 0) (0 : Int32) (by decide) d_PA_startsCanDo_0 ?_
  refine a_istore_n (pc := 1) (lv' := [(2, .int (0 : Int32)), (0, .ref (gB g + 69)), (1, .int x1)]) rfl (Nat.le_of_ble_eq_true rfl) rfl d_PA_startsCanDo_1 ?_
  refine a_sub (pc := 2) [1, 2, 0] rfl ?_
  exact h
theorem sg_PA_startsCanDo_2 {g : Gx} {Q : Int32 → St → Prop} {σ : St} {x1 : Int32} {x2 : Int32}
    (h : vp_in (0 : Int32) 7 ∧ (((ai σ 76 ((0 : Int32)).toNatClampNeg) ≤ x2 → Q (1 : Int32) σ) ∧ (¬ (ai σ 76 ((0 : Int32)).toNatClampNeg) ≤ x2 → vp_in x2 8820 ∧ (vp_in (ai σ 75 (x2).toNatClampNeg) 4096 ∧ (∀ u1 : Int32, u1 = (ai σ 72 ((ai σ 75 (x2).toNatClampNeg)).toNatClampNeg) → (u1 < 0 → Q (0 : Int32) σ) ∧ (¬ u1 < 0 → (u1 ≤ x1 → ∀ u2 : Int32, u2 = x2 + (1 : Int32) → S_PA_startsCanDo_2 g Q σ x1 u2) ∧ (¬ u1 ≤ x1 → Q (0 : Int32) σ))))))) : S_PA_startsCanDo_2 g Q σ x1 x2 := by
  show Ax g m_PA_startsCanDo 0 0 (ZI g Q) SH σ 0 0 2 [(0, .ref (gB g + 69)), (1, .int x1), (2, .int x2)] []
  refine a_iload_n (pc := 2) 2 rfl rfl d_PA_startsCanDo_2 ?_
  refine a_aload_n (pc := 3) 0 rfl rfl d_PA_startsCanDo_3 ?_
  refine a_getR (pc := 4) fg_PA_32 sx_69 rfl d_PA_startsCanDo_4 ?_
  refine a_iconst (pc := 7) (0 : Int32) (by decide) d_PA_startsCanDo_7 ?_
  obtain ⟨hx, h⟩ := h
  refine a_iald (pc := 8) sx_76 hx d_PA_startsCanDo_8 ?_
  refine a_icmp_ge (pc := 9) 41 (by decide) d_PA_startsCanDo_9 ⟨fun c0 => ?_, fun c0 => ?_⟩
  · replace h := h.1 c0
    refine a_iconst (pc := 41) (1 : Int32) (by decide) d_PA_startsCanDo_41 ?_
    exact b_zret (pc := 42) rfl (Or.inr rfl) d_PA_startsCanDo_42 h
  · replace h := h.2 c0
    refine a_aload_n (pc := 12) 0 rfl rfl d_PA_startsCanDo_12 ?_
    refine a_getR (pc := 13) fg_PA_20 sx_69 rfl d_PA_startsCanDo_13 ?_
    refine a_aload_n (pc := 16) 0 rfl rfl d_PA_startsCanDo_16 ?_
    refine a_getR (pc := 17) fg_PA_29 sx_69 rfl d_PA_startsCanDo_17 ?_
    refine a_iload_n (pc := 20) 2 rfl rfl d_PA_startsCanDo_20 ?_
    obtain ⟨hx, h⟩ := h
    refine a_iald (pc := 21) sx_75 hx d_PA_startsCanDo_21 ?_
    obtain ⟨hx, h⟩ := h
    refine a_iald (pc := 22) sx_72 hx d_PA_startsCanDo_22 ?_
    refine a_nmi (pc := 23) (fun u1 hu1 => ?_)
    replace h := h u1 hu1
    refine a_istore_n (pc := 23) (lv' := [(3, .int u1), (0, .ref (gB g + 69)), (1, .int x1), (2, .int x2)]) rfl (Nat.le_of_ble_eq_true rfl) rfl d_PA_startsCanDo_23 ?_
    refine a_iload_n (pc := 24) 0 rfl rfl d_PA_startsCanDo_24 ?_
    refine a_if_lt (pc := 25) 33 (by decide) d_PA_startsCanDo_25 ⟨fun c0 => ?_, fun c0 => ?_⟩
    · replace h := h.1 c0
      refine a_iconst (pc := 33) (0 : Int32) (by decide) d_PA_startsCanDo_33 ?_
      exact b_zret (pc := 34) rfl (Or.inl rfl) d_PA_startsCanDo_34 h
    · replace h := h.2 c0
      refine a_iload_n (pc := 28) 0 rfl rfl d_PA_startsCanDo_28 ?_
      refine a_iload_n (pc := 29) 2 rfl rfl d_PA_startsCanDo_29 ?_
      refine a_icmp_le (pc := 30) 35 (by decide) d_PA_startsCanDo_30 ⟨fun c0 => ?_, fun c0 => ?_⟩
      · replace h := h.1 c0
        obtain ⟨u2, hu2⟩ : ∃ y : Int32, y = x2 + (1 : Int32) := ⟨_, rfl⟩
        replace h := h u2 hu2
        refine a_iinc (pc := 35) (v := u2) (lv' := [(2, .int u2), (3, .int u1), (0, .ref (gB g + 69)), (1, .int x1)]) 3 rfl (by rw [hu2]; rfl) (Nat.le_of_ble_eq_true rfl) rfl d_PA_startsCanDo_35 ?_
        refine a_goto (pc := 38) 2 (by decide) d_PA_startsCanDo_38 ?_
        refine a_sub (pc := 2) [2, 3, 0] rfl ?_
        exact h
      · replace h := h.2 c0
        refine a_iconst (pc := 33) (0 : Int32) (by decide) d_PA_startsCanDo_33 ?_
        exact b_zret (pc := 34) rfl (Or.inl rfl) d_PA_startsCanDo_34 h
theorem ko_PA_startsCanDo {g : Gx}  {x1 : Int32} {σ : St} {Q : Int32 → St → Prop} (h : S_PA_startsCanDo_0 g Q σ x1) : K_PA_startsCanDo g x1 σ Q := KI.of (show plainName "BallBox$Pairs" = true by decide) (Nat.le_of_ble_eq_true rfl) h
theorem d_PA_goesOn_0 : decode c_PA_goesOn 0 = .ok (.iload_n 1, 1) := by decide +kernel
theorem d_PA_goesOn_1 : decode c_PA_goesOn 1 = .ok (.sipush 1260, 3) := by decide +kernel
theorem d_PA_goesOn_4 : decode c_PA_goesOn 4 = .ok (.imul, 1) := by decide +kernel
theorem d_PA_goesOn_5 : decode c_PA_goesOn 5 = .ok (.istore 4, 2) := by decide +kernel
theorem d_PA_goesOn_7 : decode c_PA_goesOn 7 = .ok (.iload 4, 2) := by decide +kernel
theorem d_PA_goesOn_9 : decode c_PA_goesOn 9 = .ok (.sipush 1260, 3) := by decide +kernel
theorem d_PA_goesOn_12 : decode c_PA_goesOn 12 = .ok (.iadd, 1) := by decide +kernel
theorem d_PA_goesOn_13 : decode c_PA_goesOn 13 = .ok (.istore 5, 2) := by decide +kernel
theorem d_PA_goesOn_15 : decode c_PA_goesOn 15 = .ok (.iconst 0, 1) := by decide +kernel
theorem d_PA_goesOn_16 : decode c_PA_goesOn 16 = .ok (.istore 6, 2) := by decide +kernel
theorem d_PA_goesOn_18 : decode c_PA_goesOn 18 = .ok (.aload_n 0, 1) := by decide +kernel
theorem d_PA_goesOn_19 : decode c_PA_goesOn 19 = .ok (.dup, 1) := by decide +kernel
theorem d_PA_goesOn_20 : decode c_PA_goesOn 20 = .ok (.getfield 120, 3) := by decide +kernel
theorem d_PA_goesOn_23 : decode c_PA_goesOn 23 = .ok (.iconst 1, 1) := by decide +kernel
theorem d_PA_goesOn_24 : decode c_PA_goesOn 24 = .ok (.iadd, 1) := by decide +kernel
theorem d_PA_goesOn_25 : decode c_PA_goesOn 25 = .ok (.putfield 120, 3) := by decide +kernel
theorem d_PA_goesOn_28 : decode c_PA_goesOn 28 = .ok (.iconst 0, 1) := by decide +kernel
theorem d_PA_goesOn_29 : decode c_PA_goesOn 29 = .ok (.istore 7, 2) := by decide +kernel
theorem d_PA_goesOn_31 : decode c_PA_goesOn 31 = .ok (.iload 7, 2) := by decide +kernel
theorem d_PA_goesOn_33 : decode c_PA_goesOn 33 = .ok (.aload_n 0, 1) := by decide +kernel
theorem d_PA_goesOn_34 : decode c_PA_goesOn 34 = .ok (.getfield 32, 3) := by decide +kernel
theorem d_PA_goesOn_37 : decode c_PA_goesOn 37 = .ok (.iload_n 1, 1) := by decide +kernel
theorem d_PA_goesOn_38 : decode c_PA_goesOn 38 = .ok (.iaload, 1) := by decide +kernel
theorem d_PA_goesOn_39 : decode c_PA_goesOn 39 = .ok (.if_icmp .ge 98, 3) := by decide +kernel
theorem d_PA_goesOn_42 : decode c_PA_goesOn 42 = .ok (.aload_n 0, 1) := by decide +kernel
theorem d_PA_goesOn_43 : decode c_PA_goesOn 43 = .ok (.getfield 17, 3) := by decide +kernel
theorem d_PA_goesOn_46 : decode c_PA_goesOn 46 = .ok (.iconst 4, 1) := by decide +kernel
theorem d_PA_goesOn_47 : decode c_PA_goesOn 47 = .ok (.aload_n 0, 1) := by decide +kernel
theorem d_PA_goesOn_48 : decode c_PA_goesOn 48 = .ok (.getfield 29, 3) := by decide +kernel
theorem d_PA_goesOn_51 : decode c_PA_goesOn 51 = .ok (.iload 4, 2) := by decide +kernel
theorem d_PA_goesOn_53 : decode c_PA_goesOn 53 = .ok (.iload 7, 2) := by decide +kernel
theorem d_PA_goesOn_55 : decode c_PA_goesOn 55 = .ok (.iadd, 1) := by decide +kernel
theorem d_PA_goesOn_56 : decode c_PA_goesOn 56 = .ok (.iaload, 1) := by decide +kernel
theorem d_PA_goesOn_57 : decode c_PA_goesOn 57 = .ok (.imul, 1) := by decide +kernel
theorem d_PA_goesOn_58 : decode c_PA_goesOn 58 = .ok (.iload_n 2, 1) := by decide +kernel
theorem d_PA_goesOn_59 : decode c_PA_goesOn 59 = .ok (.iadd, 1) := by decide +kernel
theorem d_PA_goesOn_60 : decode c_PA_goesOn 60 = .ok (.iaload, 1) := by decide +kernel
theorem d_PA_goesOn_61 : decode c_PA_goesOn 61 = .ok (.istore 8, 2) := by decide +kernel
theorem d_PA_goesOn_63 : decode c_PA_goesOn 63 = .ok (.iload 8, 2) := by decide +kernel
theorem d_PA_goesOn_65 : decode c_PA_goesOn 65 = .ok (.ifCond .lt 24, 3) := by decide +kernel
theorem d_PA_goesOn_68 : decode c_PA_goesOn 68 = .ok (.aload_n 0, 1) := by decide +kernel
theorem d_PA_goesOn_69 : decode c_PA_goesOn 69 = .ok (.getfield 20, 3) := by decide +kernel
theorem d_PA_goesOn_72 : decode c_PA_goesOn 72 = .ok (.iload 8, 2) := by decide +kernel
theorem d_PA_goesOn_74 : decode c_PA_goesOn 74 = .ok (.iaload, 1) := by decide +kernel
theorem d_PA_goesOn_75 : decode c_PA_goesOn 75 = .ok (.ifCond .lt 14, 3) := by decide +kernel
theorem d_PA_goesOn_78 : decode c_PA_goesOn 78 = .ok (.aload_n 0, 1) := by decide +kernel
theorem d_PA_goesOn_79 : decode c_PA_goesOn 79 = .ok (.getfield 20, 3) := by decide +kernel
theorem d_PA_goesOn_82 : decode c_PA_goesOn 82 = .ok (.iload 8, 2) := by decide +kernel
theorem d_PA_goesOn_84 : decode c_PA_goesOn 84 = .ok (.iaload, 1) := by decide +kernel
theorem d_PA_goesOn_85 : decode c_PA_goesOn 85 = .ok (.iload_n 3, 1) := by decide +kernel
theorem d_PA_goesOn_86 : decode c_PA_goesOn 86 = .ok (.if_icmp .le 5, 3) := by decide +kernel
theorem d_PA_goesOn_89 : decode c_PA_goesOn 89 = .ok (.iconst 0, 1) := by decide +kernel
theorem d_PA_goesOn_90 : decode c_PA_goesOn 90 = .ok (.ireturn, 1) := by decide +kernel
theorem d_PA_goesOn_91 : decode c_PA_goesOn 91 = .ok (.aload_n 0, 1) := by decide +kernel
theorem d_PA_goesOn_92 : decode c_PA_goesOn 92 = .ok (.getfield 26, 3) := by decide +kernel
theorem d_PA_goesOn_95 : decode c_PA_goesOn 95 = .ok (.iload 8, 2) := by decide +kernel
theorem d_PA_goesOn_97 : decode c_PA_goesOn 97 = .ok (.iaload, 1) := by decide +kernel
theorem d_PA_goesOn_98 : decode c_PA_goesOn 98 = .ok (.aload_n 0, 1) := by decide +kernel
theorem d_PA_goesOn_99 : decode c_PA_goesOn 99 = .ok (.getfield 120, 3) := by decide +kernel
theorem d_PA_goesOn_102 : decode c_PA_goesOn 102 = .ok (.if_icmp .eq 29, 3) := by decide +kernel
theorem d_PA_goesOn_105 : decode c_PA_goesOn 105 = .ok (.aload_n 0, 1) := by decide +kernel
theorem d_PA_goesOn_106 : decode c_PA_goesOn 106 = .ok (.getfield 26, 3) := by decide +kernel
theorem d_PA_goesOn_109 : decode c_PA_goesOn 109 = .ok (.iload 8, 2) := by decide +kernel
theorem d_PA_goesOn_111 : decode c_PA_goesOn 111 = .ok (.aload_n 0, 1) := by decide +kernel
theorem d_PA_goesOn_112 : decode c_PA_goesOn 112 = .ok (.getfield 120, 3) := by decide +kernel
theorem d_PA_goesOn_115 : decode c_PA_goesOn 115 = .ok (.iastore, 1) := by decide +kernel
theorem d_PA_goesOn_116 : decode c_PA_goesOn 116 = .ok (.aload_n 0, 1) := by decide +kernel
theorem d_PA_goesOn_117 : decode c_PA_goesOn 117 = .ok (.getfield 29, 3) := by decide +kernel
theorem d_PA_goesOn_120 : decode c_PA_goesOn 120 = .ok (.iload 5, 2) := by decide +kernel
theorem d_PA_goesOn_122 : decode c_PA_goesOn 122 = .ok (.iload 6, 2) := by decide +kernel
theorem d_PA_goesOn_124 : decode c_PA_goesOn 124 = .ok (.iadd, 1) := by decide +kernel
theorem d_PA_goesOn_125 : decode c_PA_goesOn 125 = .ok (.iload 8, 2) := by decide +kernel
theorem d_PA_goesOn_127 : decode c_PA_goesOn 127 = .ok (.iastore, 1) := by decide +kernel
theorem d_PA_goesOn_128 : decode c_PA_goesOn 128 = .ok (.iinc 6 1, 3) := by decide +kernel
theorem d_PA_goesOn_131 : decode c_PA_goesOn 131 = .ok (.iinc 7 1, 3) := by decide +kernel
theorem d_PA_goesOn_134 : decode c_PA_goesOn 134 = .ok (.goto (-103), 3) := by decide +kernel
theorem d_PA_goesOn_137 : decode c_PA_goesOn 137 = .ok (.aload_n 0, 1) := by decide +kernel
theorem d_PA_goesOn_138 : decode c_PA_goesOn 138 = .ok (.getfield 32, 3) := by decide +kernel
theorem d_PA_goesOn_141 : decode c_PA_goesOn 141 = .ok (.iload_n 1, 1) := by decide +kernel
theorem d_PA_goesOn_142 : decode c_PA_goesOn 142 = .ok (.iconst 1, 1) := by decide +kernel
theorem d_PA_goesOn_143 : decode c_PA_goesOn 143 = .ok (.iadd, 1) := by decide +kernel
theorem d_PA_goesOn_144 : decode c_PA_goesOn 144 = .ok (.iload 6, 2) := by decide +kernel
theorem d_PA_goesOn_146 : decode c_PA_goesOn 146 = .ok (.iastore, 1) := by decide +kernel
theorem d_PA_goesOn_147 : decode c_PA_goesOn 147 = .ok (.iconst 1, 1) := by decide +kernel
theorem d_PA_goesOn_148 : decode c_PA_goesOn 148 = .ok (.ireturn, 1) := by decide +kernel
def S_PA_goesOn_0 (g : Gx) (Q : Int32 → St → Prop) (σ : St) (x1 : Int32) (x2 : Int32) (x3 : Int32) : Prop := Ax g m_PA_goesOn 0 0 (ZI g Q) SH σ 0 0 0 [(0, .ref (gB g + 69)), (1, .int x1), (2, .int x2), (3, .int x3)] []
def S_PA_goesOn_31 (g : Gx) (Q : Int32 → St → Prop) (σ : St) (x1 : Int32) (x2 : Int32) (x3 : Int32) (x4 : Int32) (x5 : Int32) (x6 : Int32) (x7 : Int32) : Prop := Ax g m_PA_goesOn 0 0 (ZI g Q) SH σ 0 0 31 [(0, .ref (gB g + 69)), (1, .int x1), (2, .int x2), (3, .int x3), (4, .int x4), (5, .int x5), (6, .int x6), (7, .int x7)] []
theorem sg_PA_goesOn_0 {g : Gx} {Q : Int32 → St → Prop} {σ : St} {x1 : Int32} {x2 : Int32} {x3 : Int32}
    (h : ∀ u1 : Int32, u1 = (x1 * (1260 : Int32)) → ∀ u2 : Int32, u2 = (u1 + (1260 : Int32)) → ∀ s3 : St, s3 = sfi σ 69 10 ((fi σ 69 10) + (1 : Int32)) → S_PA_goesOn_31 g Q s3 x1 x2 x3 u1 u2 (0 : Int32) (0 : Int32)) : S_PA_goesOn_0 g Q σ x1 x2 x3 := by
  show Ax g m_PA_goesOn 0 0 (ZI g Q) SH σ 0 0 0 [(0, .ref (gB g + 69)), (1, .int x1), (2, .int x2), (3, .int x3)] []
  refine a_iload_n (pc := 0) 1 rfl rfl d_PA_goesOn_0 ?_
  refine a_sipush (pc := 1) (1260 : Int32) (by decide) d_PA_goesOn_1 ?_
  refine a_imul (pc := 4) d_PA_goesOn_4 ?_
  refine a_nmi (pc := 5) (fun u1 hu1 => ?_)
  replace h := h u1 hu1
  refine a_istore (pc := 5) (lv' := [(4, .int u1), (0, .ref (gB g + 69)), (1, .int x1), (2, .int x2), (3, .int x3)]) (Nat.le_of_ble_eq_true rfl) rfl d_PA_goesOn_5 ?_
  refine a_iload (pc := 7) 0 rfl d_PA_goesOn_7 ?_
  refine a_sipush (pc := 9) (1260 : Int32) (by decide) d_PA_goesOn_9 ?_
  refine a_iadd (pc := 12) d_PA_goesOn_12 ?_
  refine a_nmi (pc := 13) (fun u2 hu2 => ?_)
  replace h := h u2 hu2
  refine a_istore (pc := 13) (lv' := [(5, .int u2), (4, .int u1), (0, .ref (gB g + 69)), (1, .int x1), (2, .int x2), (3, .int x3)]) (Nat.le_of_ble_eq_true rfl) rfl d_PA_goesOn_13 ?_
  refine a_iconst (pc := 15) (0 : Int32) (by decide) d_PA_goesOn_15 ?_
  refine a_istore (pc := 16) (lv' := [(6, .int (0 : Int32)), (5, .int u2), (4, .int u1), (0, .ref (gB g + 69)), (1, .int x1), (2, .int x2), (3, .int x3)]) (Nat.le_of_ble_eq_true rfl) rfl d_PA_goesOn_16 ?_
  refine a_aload_n (pc := 18) 3 rfl rfl d_PA_goesOn_18 ?_
  refine a_dup (pc := 19) rfl d_PA_goesOn_19 ?_
  refine a_getI (pc := 20) fg_PA_120 sx_69 rfl d_PA_goesOn_20 ?_
  refine a_iconst (pc := 23) (1 : Int32) (by decide) d_PA_goesOn_23 ?_
  refine a_iadd (pc := 24) d_PA_goesOn_24 ?_
  refine a_putI (pc := 25) fp_PA_120 sx_69 rfl d_PA_goesOn_25 ?_
  refine a_nms (fun s3 hs3 => ?_)
  replace h := h s3 hs3
  refine a_iconst (pc := 28) (0 : Int32) (by decide) d_PA_goesOn_28 ?_
  refine a_istore (pc := 29) (lv' := [(7, .int (0 : Int32)), (6, .int (0 : Int32)), (5, .int u2), (4, .int u1), (0, .ref (gB g + 69)), (1, .int x1), (2, .int x2), (3, .int x3)]) (Nat.le_of_ble_eq_true rfl) rfl d_PA_goesOn_29 ?_
  refine a_sub (pc := 31) [4, 5, 6, 7, 3, 2, 1, 0] rfl ?_
  exact h
theorem sg_PA_goesOn_31 {g : Gx} {Q : Int32 → St → Prop} {σ : St} {x1 : Int32} {x2 : Int32} {x3 : Int32} {x4 : Int32} {x5 : Int32} {x6 : Int32} {x7 : Int32}
    (h : vp_in x1 7 ∧ (((ai σ 76 (x1).toNatClampNeg) ≤ x7 → vp_in (x1 + (1 : Int32)) 7 ∧ (∀ s1 : St, s1 = sai σ 76 ((x1 + (1 : Int32))).toNatClampNeg x6 → Q (1 : Int32) s1)) ∧ (¬ (ai σ 76 (x1).toNatClampNeg) ≤ x7 → vp_in (x4 + x7) 8820 ∧ (vp_in (((4 : Int32) * (ai σ 75 ((x4 + x7)).toNatClampNeg)) + x2) 16384 ∧ (∀ u2 : Int32, u2 = (ai σ 71 ((((4 : Int32) * (ai σ 75 ((x4 + x7)).toNatClampNeg)) + x2)).toNatClampNeg) → (u2 < 0 → Q (0 : Int32) σ) ∧ (¬ u2 < 0 → vp_in u2 4096 ∧ (((ai σ 72 (u2).toNatClampNeg) < 0 → Q (0 : Int32) σ) ∧ (¬ (ai σ 72 (u2).toNatClampNeg) < 0 → vp_in u2 4096 ∧ (((ai σ 72 (u2).toNatClampNeg) ≤ x3 → vp_in u2 4096 ∧ (((ai σ 74 (u2).toNatClampNeg) = (fi σ 69 10) → ∀ u3 : Int32, u3 = x7 + (1 : Int32) → S_PA_goesOn_31 g Q σ x1 x2 x3 x4 x5 x6 u3) ∧ (¬ (ai σ 74 (u2).toNatClampNeg) = (fi σ 69 10) → vp_in u2 4096 ∧ (∀ s4 : St, s4 = sai σ 74 (u2).toNatClampNeg (fi σ 69 10) → vp_in (x5 + x6) 8820 ∧ (∀ s5 : St, s5 = sai s4 75 ((x5 + x6)).toNatClampNeg u2 → ∀ u6 : Int32, u6 = x6 + (1 : Int32) → ∀ u7 : Int32, u7 = x7 + (1 : Int32) → S_PA_goesOn_31 g Q s5 x1 x2 x3 x4 x5 u6 u7))))) ∧ (¬ (ai σ 72 (u2).toNatClampNeg) ≤ x3 → Q (0 : Int32) σ)))))))))) : S_PA_goesOn_31 g Q σ x1 x2 x3 x4 x5 x6 x7 := by
  show Ax g m_PA_goesOn 0 0 (ZI g Q) SH σ 0 0 31 [(0, .ref (gB g + 69)), (1, .int x1), (2, .int x2), (3, .int x3), (4, .int x4), (5, .int x5), (6, .int x6), (7, .int x7)] []
  refine a_iload (pc := 31) 7 rfl d_PA_goesOn_31 ?_
  refine a_aload_n (pc := 33) 0 rfl rfl d_PA_goesOn_33 ?_
  refine a_getR (pc := 34) fg_PA_32 sx_69 rfl d_PA_goesOn_34 ?_
  refine a_iload_n (pc := 37) 1 rfl rfl d_PA_goesOn_37 ?_
  obtain ⟨hx, h⟩ := h
  refine a_iald (pc := 38) sx_76 hx d_PA_goesOn_38 ?_
  refine a_icmp_ge (pc := 39) 137 (by decide) d_PA_goesOn_39 ⟨fun c0 => ?_, fun c0 => ?_⟩
  · replace h := h.1 c0
    refine a_aload_n (pc := 137) 0 rfl rfl d_PA_goesOn_137 ?_
    refine a_getR (pc := 138) fg_PA_32 sx_69 rfl d_PA_goesOn_138 ?_
    refine a_iload_n (pc := 141) 1 rfl rfl d_PA_goesOn_141 ?_
    refine a_iconst (pc := 142) (1 : Int32) (by decide) d_PA_goesOn_142 ?_
    refine a_iadd (pc := 143) d_PA_goesOn_143 ?_
    refine a_iload (pc := 144) 6 rfl d_PA_goesOn_144 ?_
    obtain ⟨hx, h⟩ := h
    refine a_iast (pc := 146) sx_76 hx d_PA_goesOn_146 ?_
    refine a_nms (fun s1 hs1 => ?_)
    replace h := h s1 hs1
    refine a_iconst (pc := 147) (1 : Int32) (by decide) d_PA_goesOn_147 ?_
    exact b_zret (pc := 148) rfl (Or.inr rfl) d_PA_goesOn_148 h
  · replace h := h.2 c0
    refine a_aload_n (pc := 42) 0 rfl rfl d_PA_goesOn_42 ?_
    refine a_getR (pc := 43) fg_PA_17 sx_69 rfl d_PA_goesOn_43 ?_
    refine a_iconst (pc := 46) (4 : Int32) (by decide) d_PA_goesOn_46 ?_
    refine a_aload_n (pc := 47) 0 rfl rfl d_PA_goesOn_47 ?_
    refine a_getR (pc := 48) fg_PA_29 sx_69 rfl d_PA_goesOn_48 ?_
    refine a_iload (pc := 51) 4 rfl d_PA_goesOn_51 ?_
    refine a_iload (pc := 53) 7 rfl d_PA_goesOn_53 ?_
    refine a_iadd (pc := 55) d_PA_goesOn_55 ?_
    obtain ⟨hx, h⟩ := h
    refine a_iald (pc := 56) sx_75 hx d_PA_goesOn_56 ?_
    refine a_imul (pc := 57) d_PA_goesOn_57 ?_
    refine a_iload_n (pc := 58) 2 rfl rfl d_PA_goesOn_58 ?_
    refine a_iadd (pc := 59) d_PA_goesOn_59 ?_
    obtain ⟨hx, h⟩ := h
    refine a_iald (pc := 60) sx_71 hx d_PA_goesOn_60 ?_
    refine a_nmi (pc := 61) (fun u2 hu2 => ?_)
    replace h := h u2 hu2
    refine a_istore (pc := 61) (lv' := [(8, .int u2), (0, .ref (gB g + 69)), (1, .int x1), (2, .int x2), (3, .int x3), (4, .int x4), (5, .int x5), (6, .int x6), (7, .int x7)]) (Nat.le_of_ble_eq_true rfl) rfl d_PA_goesOn_61 ?_
    refine a_iload (pc := 63) 0 rfl d_PA_goesOn_63 ?_
    refine a_if_lt (pc := 65) 89 (by decide) d_PA_goesOn_65 ⟨fun c0 => ?_, fun c0 => ?_⟩
    · replace h := h.1 c0
      refine a_iconst (pc := 89) (0 : Int32) (by decide) d_PA_goesOn_89 ?_
      exact b_zret (pc := 90) rfl (Or.inl rfl) d_PA_goesOn_90 h
    · replace h := h.2 c0
      refine a_aload_n (pc := 68) 1 rfl rfl d_PA_goesOn_68 ?_
      refine a_getR (pc := 69) fg_PA_20 sx_69 rfl d_PA_goesOn_69 ?_
      refine a_iload (pc := 72) 0 rfl d_PA_goesOn_72 ?_
      obtain ⟨hx, h⟩ := h
      refine a_iald (pc := 74) sx_72 hx d_PA_goesOn_74 ?_
      refine a_if_lt (pc := 75) 89 (by decide) d_PA_goesOn_75 ⟨fun c0 => ?_, fun c0 => ?_⟩
      · replace h := h.1 c0
        refine a_iconst (pc := 89) (0 : Int32) (by decide) d_PA_goesOn_89 ?_
        exact b_zret (pc := 90) rfl (Or.inl rfl) d_PA_goesOn_90 h
      · replace h := h.2 c0
        refine a_aload_n (pc := 78) 1 rfl rfl d_PA_goesOn_78 ?_
        refine a_getR (pc := 79) fg_PA_20 sx_69 rfl d_PA_goesOn_79 ?_
        refine a_iload (pc := 82) 0 rfl d_PA_goesOn_82 ?_
        obtain ⟨hx, h⟩ := h
        refine a_iald (pc := 84) sx_72 hx d_PA_goesOn_84 ?_
        refine a_iload_n (pc := 85) 4 rfl rfl d_PA_goesOn_85 ?_
        refine a_icmp_le (pc := 86) 91 (by decide) d_PA_goesOn_86 ⟨fun c0 => ?_, fun c0 => ?_⟩
        · replace h := h.1 c0
          refine a_aload_n (pc := 91) 1 rfl rfl d_PA_goesOn_91 ?_
          refine a_getR (pc := 92) fg_PA_26 sx_69 rfl d_PA_goesOn_92 ?_
          refine a_iload (pc := 95) 0 rfl d_PA_goesOn_95 ?_
          obtain ⟨hx, h⟩ := h
          refine a_iald (pc := 97) sx_74 hx d_PA_goesOn_97 ?_
          refine a_aload_n (pc := 98) 1 rfl rfl d_PA_goesOn_98 ?_
          refine a_getI (pc := 99) fg_PA_120 sx_69 rfl d_PA_goesOn_99 ?_
          refine a_icmp_eq (pc := 102) 131 (by decide) d_PA_goesOn_102 ⟨fun c0 => ?_, fun c0 => ?_⟩
          · replace h := h.1 c0
            obtain ⟨u3, hu3⟩ : ∃ y : Int32, y = x7 + (1 : Int32) := ⟨_, rfl⟩
            replace h := h u3 hu3
            refine a_iinc (pc := 131) (v := u3) (lv' := [(7, .int u3), (8, .int u2), (0, .ref (gB g + 69)), (1, .int x1), (2, .int x2), (3, .int x3), (4, .int x4), (5, .int x5), (6, .int x6)]) 8 rfl (by rw [hu3]; rfl) (Nat.le_of_ble_eq_true rfl) rfl d_PA_goesOn_131 ?_
            refine a_goto (pc := 134) 31 (by decide) d_PA_goesOn_134 ?_
            refine a_sub (pc := 31) [2, 3, 4, 5, 6, 7, 8, 0] rfl ?_
            exact h
          · replace h := h.2 c0
            refine a_aload_n (pc := 105) 1 rfl rfl d_PA_goesOn_105 ?_
            refine a_getR (pc := 106) fg_PA_26 sx_69 rfl d_PA_goesOn_106 ?_
            refine a_iload (pc := 109) 0 rfl d_PA_goesOn_109 ?_
            refine a_aload_n (pc := 111) 1 rfl rfl d_PA_goesOn_111 ?_
            refine a_getI (pc := 112) fg_PA_120 sx_69 rfl d_PA_goesOn_112 ?_
            obtain ⟨hx, h⟩ := h
            refine a_iast (pc := 115) sx_74 hx d_PA_goesOn_115 ?_
            refine a_nms (fun s4 hs4 => ?_)
            replace h := h s4 hs4
            refine a_aload_n (pc := 116) 1 rfl rfl d_PA_goesOn_116 ?_
            refine a_getR (pc := 117) fg_PA_29 sx_69 rfl d_PA_goesOn_117 ?_
            refine a_iload (pc := 120) 6 rfl d_PA_goesOn_120 ?_
            refine a_iload (pc := 122) 7 rfl d_PA_goesOn_122 ?_
            refine a_iadd (pc := 124) d_PA_goesOn_124 ?_
            refine a_iload (pc := 125) 0 rfl d_PA_goesOn_125 ?_
            obtain ⟨hx, h⟩ := h
            refine a_iast (pc := 127) sx_75 hx d_PA_goesOn_127 ?_
            refine a_nms (fun s5 hs5 => ?_)
            replace h := h s5 hs5
            obtain ⟨u6, hu6⟩ : ∃ y : Int32, y = x6 + (1 : Int32) := ⟨_, rfl⟩
            replace h := h u6 hu6
            refine a_iinc (pc := 128) (v := u6) (lv' := [(6, .int u6), (8, .int u2), (0, .ref (gB g + 69)), (1, .int x1), (2, .int x2), (3, .int x3), (4, .int x4), (5, .int x5), (7, .int x7)]) 7 rfl (by rw [hu6]; rfl) (Nat.le_of_ble_eq_true rfl) rfl d_PA_goesOn_128 ?_
            obtain ⟨u7, hu7⟩ : ∃ y : Int32, y = x7 + (1 : Int32) := ⟨_, rfl⟩
            replace h := h u7 hu7
            refine a_iinc (pc := 131) (v := u7) (lv' := [(7, .int u7), (6, .int u6), (8, .int u2), (0, .ref (gB g + 69)), (1, .int x1), (2, .int x2), (3, .int x3), (4, .int x4), (5, .int x5)]) 8 rfl (by rw [hu7]; rfl) (Nat.le_of_ble_eq_true rfl) rfl d_PA_goesOn_131 ?_
            refine a_goto (pc := 134) 31 (by decide) d_PA_goesOn_134 ?_
            refine a_sub (pc := 31) [3, 4, 5, 6, 7, 8, 1, 0] rfl ?_
            exact h
        · replace h := h.2 c0
          refine a_iconst (pc := 89) (0 : Int32) (by decide) d_PA_goesOn_89 ?_
          exact b_zret (pc := 90) rfl (Or.inl rfl) d_PA_goesOn_90 h
theorem ko_PA_goesOn {g : Gx}  {x1 : Int32} {x2 : Int32} {x3 : Int32} {σ : St} {Q : Int32 → St → Prop} (h : S_PA_goesOn_0 g Q σ x1 x2 x3) : K_PA_goesOn g x1 x2 x3 σ Q := KI.of (show plainName "BallBox$Pairs" = true by decide) (Nat.le_of_ble_eq_true rfl) h
