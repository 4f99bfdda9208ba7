theorem d_CA_keepUp_0 : decode c_CA_keepUp 0 = .ok (.iload_n 3, 1) := by decide +kernel
theorem d_CA_keepUp_1 : decode c_CA_keepUp 1 = .ok (.ifCond .lt 22, 3) := by decide +kernel
theorem d_CA_keepUp_4 : decode c_CA_keepUp 4 = .ok (.iload_n 3, 1) := by decide +kernel
theorem d_CA_keepUp_5 : decode c_CA_keepUp 5 = .ok (.aload_n 0, 1) := by decide +kernel
theorem d_CA_keepUp_6 : decode c_CA_keepUp 6 = .ok (.getfield 18, 3) := by decide +kernel
theorem d_CA_keepUp_9 : decode c_CA_keepUp 9 = .ok (.arraylength, 1) := by decide +kernel
theorem d_CA_keepUp_10 : decode c_CA_keepUp 10 = .ok (.if_icmp .ge 13, 3) := by decide +kernel
theorem d_CA_keepUp_13 : decode c_CA_keepUp 13 = .ok (.aload_n 0, 1) := by decide +kernel
theorem d_CA_keepUp_14 : decode c_CA_keepUp 14 = .ok (.getfield 18, 3) := by decide +kernel
theorem d_CA_keepUp_17 : decode c_CA_keepUp 17 = .ok (.iload_n 3, 1) := by decide +kernel
theorem d_CA_keepUp_18 : decode c_CA_keepUp 18 = .ok (.iaload, 1) := by decide +kernel
theorem d_CA_keepUp_19 : decode c_CA_keepUp 19 = .ok (.iload_n 2, 1) := by decide +kernel
theorem d_CA_keepUp_20 : decode c_CA_keepUp 20 = .ok (.if_icmp .ne 4, 3) := by decide +kernel
theorem d_CA_keepUp_23 : decode c_CA_keepUp 23 = .ok (.return_, 1) := by decide +kernel
theorem d_CA_keepUp_24 : decode c_CA_keepUp 24 = .ok (.aload_n 0, 1) := by decide +kernel
theorem d_CA_keepUp_25 : decode c_CA_keepUp 25 = .ok (.getfield 18, 3) := by decide +kernel
theorem d_CA_keepUp_28 : decode c_CA_keepUp 28 = .ok (.iload_n 3, 1) := by decide +kernel
theorem d_CA_keepUp_29 : decode c_CA_keepUp 29 = .ok (.iload_n 2, 1) := by decide +kernel
theorem d_CA_keepUp_30 : decode c_CA_keepUp 30 = .ok (.iastore, 1) := by decide +kernel
theorem d_CA_keepUp_31 : decode c_CA_keepUp 31 = .ok (.aload_n 0, 1) := by decide +kernel
theorem d_CA_keepUp_32 : decode c_CA_keepUp 32 = .ok (.getfield 25, 3) := by decide +kernel
theorem d_CA_keepUp_35 : decode c_CA_keepUp 35 = .ok (.iload_n 3, 1) := by decide +kernel
theorem d_CA_keepUp_36 : decode c_CA_keepUp 36 = .ok (.bipush (-2), 2) := by decide +kernel
theorem d_CA_keepUp_38 : decode c_CA_keepUp 38 = .ok (.iastore, 1) := by decide +kernel
theorem d_CA_keepUp_39 : decode c_CA_keepUp 39 = .ok (.aload_n 1, 1) := by decide +kernel
theorem d_CA_keepUp_40 : decode c_CA_keepUp 40 = .ok (.invokevirtual 37, 3) := by decide +kernel
theorem d_CA_keepUp_43 : decode c_CA_keepUp 43 = .ok (.ifCond .eq 4, 3) := by decide +kernel
theorem d_CA_keepUp_46 : decode c_CA_keepUp 46 = .ok (.return_, 1) := by decide +kernel
theorem d_CA_keepUp_47 : decode c_CA_keepUp 47 = .ok (.iload_n 3, 1) := by decide +kernel
theorem d_CA_keepUp_48 : decode c_CA_keepUp 48 = .ok (.iconst 1, 1) := by decide +kernel
theorem d_CA_keepUp_49 : decode c_CA_keepUp 49 = .ok (.if_icmp .ne 7, 3) := by decide +kernel
theorem d_CA_keepUp_52 : decode c_CA_keepUp 52 = .ok (.iconst 0, 1) := by decide +kernel
theorem d_CA_keepUp_53 : decode c_CA_keepUp 53 = .ok (.goto 4, 3) := by decide +kernel
theorem d_CA_keepUp_56 : decode c_CA_keepUp 56 = .ok (.iconst 1, 1) := by decide +kernel
theorem d_CA_keepUp_57 : decode c_CA_keepUp 57 = .ok (.istore 4, 2) := by decide +kernel
theorem d_CA_keepUp_59 : decode c_CA_keepUp 59 = .ok (.aload_n 0, 1) := by decide +kernel
theorem d_CA_keepUp_60 : decode c_CA_keepUp 60 = .ok (.getfield 12, 3) := by decide +kernel
theorem d_CA_keepUp_63 : decode c_CA_keepUp 63 = .ok (.aload_n 1, 1) := by decide +kernel
theorem d_CA_keepUp_64 : decode c_CA_keepUp 64 = .ok (.invokevirtual 41, 3) := by decide +kernel
theorem d_CA_keepUp_67 : decode c_CA_keepUp 67 = .ok (.iconst 0, 1) := by decide +kernel
theorem d_CA_keepUp_68 : decode c_CA_keepUp 68 = .ok (.istore 5, 2) := by decide +kernel
theorem d_CA_keepUp_70 : decode c_CA_keepUp 70 = .ok (.iload 5, 2) := by decide +kernel
theorem d_CA_keepUp_72 : decode c_CA_keepUp 72 = .ok (.bipush 64, 2) := by decide +kernel
theorem d_CA_keepUp_74 : decode c_CA_keepUp 74 = .ok (.if_icmp .ge 75, 3) := by decide +kernel
theorem d_CA_keepUp_77 : decode c_CA_keepUp 77 = .ok (.aload_n 1, 1) := by decide +kernel
theorem d_CA_keepUp_78 : decode c_CA_keepUp 78 = .ok (.getfield 45, 3) := by decide +kernel
theorem d_CA_keepUp_81 : decode c_CA_keepUp 81 = .ok (.iload 5, 2) := by decide +kernel
theorem d_CA_keepUp_83 : decode c_CA_keepUp 83 = .ok (.iaload, 1) := by decide +kernel
theorem d_CA_keepUp_84 : decode c_CA_keepUp 84 = .ok (.iload 4, 2) := by decide +kernel
theorem d_CA_keepUp_86 : decode c_CA_keepUp 86 = .ok (.if_icmp .ne 57, 3) := by decide +kernel
theorem d_CA_keepUp_89 : decode c_CA_keepUp 89 = .ok (.aload_n 1, 1) := by decide +kernel
theorem d_CA_keepUp_90 : decode c_CA_keepUp 90 = .ok (.getfield 48, 3) := by decide +kernel
theorem d_CA_keepUp_93 : decode c_CA_keepUp 93 = .ok (.iload 5, 2) := by decide +kernel
theorem d_CA_keepUp_95 : decode c_CA_keepUp 95 = .ok (.invokestatic 52, 3) := by decide +kernel
theorem d_CA_keepUp_98 : decode c_CA_keepUp 98 = .ok (.iconst (-1), 1) := by decide +kernel
theorem d_CA_keepUp_99 : decode c_CA_keepUp 99 = .ok (.if_icmp .ne 44, 3) := by decide +kernel
theorem d_CA_keepUp_102 : decode c_CA_keepUp 102 = .ok (.aload_n 0, 1) := by decide +kernel
theorem d_CA_keepUp_103 : decode c_CA_keepUp 103 = .ok (.getfield 12, 3) := by decide +kernel
theorem d_CA_keepUp_106 : decode c_CA_keepUp 106 = .ok (.getfield 45, 3) := by decide +kernel
theorem d_CA_keepUp_109 : decode c_CA_keepUp 109 = .ok (.iload 5, 2) := by decide +kernel
theorem d_CA_keepUp_111 : decode c_CA_keepUp 111 = .ok (.iload_n 3, 1) := by decide +kernel
theorem d_CA_keepUp_112 : decode c_CA_keepUp 112 = .ok (.iastore, 1) := by decide +kernel
theorem d_CA_keepUp_113 : decode c_CA_keepUp 113 = .ok (.aload_n 0, 1) := by decide +kernel
theorem d_CA_keepUp_114 : decode c_CA_keepUp 114 = .ok (.iload_n 3, 1) := by decide +kernel
theorem d_CA_keepUp_115 : decode c_CA_keepUp 115 = .ok (.iload 5, 2) := by decide +kernel
theorem d_CA_keepUp_117 : decode c_CA_keepUp 117 = .ok (.aload_n 0, 1) := by decide +kernel
theorem d_CA_keepUp_118 : decode c_CA_keepUp 118 = .ok (.getfield 33, 3) := by decide +kernel
theorem d_CA_keepUp_121 : decode c_CA_keepUp 121 = .ok (.aload_n 0, 1) := by decide +kernel
theorem d_CA_keepUp_122 : decode c_CA_keepUp 122 = .ok (.getfield 12, 3) := by decide +kernel
theorem d_CA_keepUp_125 : decode c_CA_keepUp 125 = .ok (.invokevirtual 56, 3) := by decide +kernel
theorem d_CA_keepUp_128 : decode c_CA_keepUp 128 = .ok (.invokevirtual 60, 3) := by decide +kernel
theorem d_CA_keepUp_131 : decode c_CA_keepUp 131 = .ok (.aload_n 0, 1) := by decide +kernel
theorem d_CA_keepUp_132 : decode c_CA_keepUp 132 = .ok (.getfield 12, 3) := by decide +kernel
theorem d_CA_keepUp_135 : decode c_CA_keepUp 135 = .ok (.getfield 45, 3) := by decide +kernel
theorem d_CA_keepUp_138 : decode c_CA_keepUp 138 = .ok (.iload 5, 2) := by decide +kernel
theorem d_CA_keepUp_140 : decode c_CA_keepUp 140 = .ok (.iload 4, 2) := by decide +kernel
theorem d_CA_keepUp_142 : decode c_CA_keepUp 142 = .ok (.iastore, 1) := by decide +kernel
theorem d_CA_keepUp_143 : decode c_CA_keepUp 143 = .ok (.iinc 5 1, 3) := by decide +kernel
theorem d_CA_keepUp_146 : decode c_CA_keepUp 146 = .ok (.goto (-76), 3) := by decide +kernel
theorem d_CA_keepUp_149 : decode c_CA_keepUp 149 = .ok (.return_, 1) := by decide +kernel
def S_CA_keepUp_0 (g : Gx) (Q : St → Prop) (σ : St) (t1 : Nat) (x2 : Int32) (x3 : Int32) : Prop := Ax g m_CA_keepUp 0 0 (ZV g Q) SH σ 0 0 0 [(0, .ref (gB g + 56)), (1, .ref (gB g + t1)), (2, .int x2), (3, .int x3)] []
def S_CA_keepUp_70 (g : Gx) (Q : St → Prop) (σ : St) (t1 : Nat) (x3 : Int32) (x4 : Int32) (x5 : Int32) : Prop := Ax g m_CA_keepUp 0 0 (ZV g Q) SH σ 0 0 70 [(0, .ref (gB g + 56)), (1, .ref (gB g + t1)), (3, .int x3), (4, .int x4), (5, .int x5)] []
theorem sg_CA_keepUp_0 {g : Gx} {Q : St → Prop} {σ : St} {t1 : Nat} {x2 : Int32} {x3 : Int32} (ht1 : isSA t1)
    (h : (x3 < 0 → Q σ) ∧ (¬ x3 < 0 → ((2 : Int32) ≤ x3 → Q σ) ∧ (¬ (2 : Int32) ≤ x3 → vp_in x3 2 ∧ ((¬ (ai σ 62 (x3).toNatClampNeg) = x2 → vp_in x3 2 ∧ (∀ s1 : St, s1 = sai σ 62 (x3).toNatClampNeg x2 → vp_in x3 2 ∧ (∀ s2 : St, s2 = sai s1 64 (x3).toNatClampNeg (-2 : Int32) → K_SA_isHopeless g t1 s2 (fun (r4 : Int32) (s3 : St) => (r4 = 0 → (¬ x3 = (1 : Int32) → K_SA_takeOver g 57 t1 s3 (fun s5 : St => S_CA_keepUp_70 g Q s5 t1 x3 (1 : Int32) (0 : Int32))) ∧ (x3 = (1 : Int32) → K_SA_takeOver g 57 t1 s3 (fun s6 : St => S_CA_keepUp_70 g Q s6 t1 x3 (0 : Int32) (0 : Int32)))) ∧ (¬ r4 = 0 → Q s3))))) ∧ ((ai σ 62 (x3).toNatClampNeg) = x2 → Q σ))))) : S_CA_keepUp_0 g Q σ t1 x2 x3 := by
  show Ax g m_CA_keepUp 0 0 (ZV g Q) SH σ 0 0 0 [(0, .ref (gB g + 56)), (1, .ref (gB g + t1)), (2, .int x2), (3, .int x3)] []
  refine a_iload_n (pc := 0) 3 rfl rfl d_CA_keepUp_0 ?_
  refine a_if_lt (pc := 1) 23 (by decide) d_CA_keepUp_1 ⟨fun c0 => ?_, fun c0 => ?_⟩
  · replace h := h.1 c0
    exact b_vret (pc := 23) rfl d_CA_keepUp_23 h
  · replace h := h.2 c0
    refine a_iload_n (pc := 4) 3 rfl rfl d_CA_keepUp_4 ?_
    refine a_aload_n (pc := 5) 0 rfl rfl d_CA_keepUp_5 ?_
    refine a_getR (pc := 6) fg_CA_18 sx_56 rfl d_CA_keepUp_6 ?_
    refine a_alen (pc := 9) (kd := 0) rfl sx_62 d_CA_keepUp_9 ?_
    refine a_icmp_ge (pc := 10) 23 (by decide) d_CA_keepUp_10 ⟨fun c0 => ?_, fun c0 => ?_⟩
    · replace h := h.1 c0
      exact b_vret (pc := 23) rfl d_CA_keepUp_23 h
    · replace h := h.2 c0
      refine a_aload_n (pc := 13) 0 rfl rfl d_CA_keepUp_13 ?_
      refine a_getR (pc := 14) fg_CA_18 sx_56 rfl d_CA_keepUp_14 ?_
      refine a_iload_n (pc := 17) 3 rfl rfl d_CA_keepUp_17 ?_
      obtain ⟨hx, h⟩ := h
      refine a_iald (pc := 18) sx_62 hx d_CA_keepUp_18 ?_
      refine a_iload_n (pc := 19) 2 rfl rfl d_CA_keepUp_19 ?_
      refine a_icmp_ne (pc := 20) 24 (by decide) d_CA_keepUp_20 ⟨fun c0 => ?_, fun c0 => ?_⟩
      · replace h := h.1 c0
        refine a_aload_n (pc := 24) 0 rfl rfl d_CA_keepUp_24 ?_
        refine a_getR (pc := 25) fg_CA_18 sx_56 rfl d_CA_keepUp_25 ?_
        refine a_iload_n (pc := 28) 3 rfl rfl d_CA_keepUp_28 ?_
        refine a_iload_n (pc := 29) 2 rfl rfl d_CA_keepUp_29 ?_
        obtain ⟨hx, h⟩ := h
        refine a_iast (pc := 30) sx_62 hx d_CA_keepUp_30 ?_
        refine a_nms (fun s1 hs1 => ?_)
        replace h := h s1 hs1
        refine a_aload_n (pc := 31) 0 rfl rfl d_CA_keepUp_31 ?_
        refine a_getR (pc := 32) fg_CA_25 sx_56 rfl d_CA_keepUp_32 ?_
        refine a_iload_n (pc := 35) 3 rfl rfl d_CA_keepUp_35 ?_
        refine a_bipush (pc := 36) (-2 : Int32) (by decide) d_CA_keepUp_36 ?_
        obtain ⟨hx, h⟩ := h
        refine a_iast (pc := 38) sx_64 hx d_CA_keepUp_38 ?_
        refine a_nms (fun s2 hs2 => ?_)
        replace h := h s2 hs2
        refine a_aload_n (pc := 39) 1 rfl rfl d_CA_keepUp_39 ?_
        refine a_callV (pc := 40) (M' := m_SA_isHopeless) (As := []) (st := []) (mc' := 0) (ms' := 0) lk_CA_37 rfl (sa0 ht1) rfl (by decide) (by decide) rfl (Nat.le_of_ble_eq_true rfl) (Nat.le_refl 0) (Nat.le_refl 0) d_CA_keepUp_40 h ?_
        rintro _ _ s3 ⟨r4, rfl, rfl, h⟩ -
        show Ax g m_CA_keepUp 0 0 (ZV g Q) SH s3 0 0 43 [(0, .ref (gB g + 56)), (1, .ref (gB g + t1)), (2, .int x2), (3, .int x3)] [.int r4]
        refine a_if_eq (pc := 43) 47 (by decide) d_CA_keepUp_43 ⟨fun c0 => ?_, fun c0 => ?_⟩
        · replace h := h.1 c0
          refine a_iload_n (pc := 47) 3 rfl rfl d_CA_keepUp_47 ?_
          refine a_iconst (pc := 48) (1 : Int32) (by decide) d_CA_keepUp_48 ?_
          refine a_icmp_ne (pc := 49) 56 (by decide) d_CA_keepUp_49 ⟨fun c0 => ?_, fun c0 => ?_⟩
          · replace h := h.1 c0
            refine a_iconst (pc := 56) (1 : Int32) (by decide) d_CA_keepUp_56 ?_
            refine a_istore (pc := 57) (lv' := [(4, .int (1 : Int32)), (0, .ref (gB g + 56)), (1, .ref (gB g + t1)), (2, .int x2), (3, .int x3)]) (Nat.le_of_ble_eq_true rfl) rfl d_CA_keepUp_57 ?_
            refine a_aload_n (pc := 59) 1 rfl rfl d_CA_keepUp_59 ?_
            refine a_getR (pc := 60) fg_CA_12 sx_56 rfl d_CA_keepUp_60 ?_
            refine a_aload_n (pc := 63) 2 rfl rfl d_CA_keepUp_63 ?_
            refine a_callV (pc := 64) (M' := m_SA_takeOver) (As := [.ref (gB g + t1)]) (st := []) (mc' := 0) (ms' := 0) lk_CA_41 rfl sx_57 rfl (by decide) (by decide) rfl (Nat.le_of_ble_eq_true rfl) (Nat.le_refl 0) (Nat.le_refl 0) d_CA_keepUp_64 h ?_
            rintro _ _ s5 ⟨rfl, rfl, h⟩ -
            show Ax g m_CA_keepUp 0 0 (ZV g Q) SH s5 0 0 67 [(4, .int (1 : Int32)), (0, .ref (gB g + 56)), (1, .ref (gB g + t1)), (2, .int x2), (3, .int x3)] []
            refine a_iconst (pc := 67) (0 : Int32) (by decide) d_CA_keepUp_67 ?_
            refine a_istore (pc := 68) (lv' := [(5, .int (0 : Int32)), (4, .int (1 : Int32)), (0, .ref (gB g + 56)), (1, .ref (gB g + t1)), (2, .int x2), (3, .int x3)]) (Nat.le_of_ble_eq_true rfl) rfl d_CA_keepUp_68 ?_
            refine a_sub (pc := 70) [2, 3, 5, 1, 0] rfl ?_
            exact h
          · replace h := h.2 c0
            refine a_iconst (pc := 52) (0 : Int32) (by decide) d_CA_keepUp_52 ?_
            refine a_goto (pc := 53) 57 (by decide) d_CA_keepUp_53 ?_
            refine a_istore (pc := 57) (lv' := [(4, .int (0 : Int32)), (0, .ref (gB g + 56)), (1, .ref (gB g + t1)), (2, .int x2), (3, .int x3)]) (Nat.le_of_ble_eq_true rfl) rfl d_CA_keepUp_57 ?_
            refine a_aload_n (pc := 59) 1 rfl rfl d_CA_keepUp_59 ?_
            refine a_getR (pc := 60) fg_CA_12 sx_56 rfl d_CA_keepUp_60 ?_
            refine a_aload_n (pc := 63) 2 rfl rfl d_CA_keepUp_63 ?_
            refine a_callV (pc := 64) (M' := m_SA_takeOver) (As := [.ref (gB g + t1)]) (st := []) (mc' := 0) (ms' := 0) lk_CA_41 rfl sx_57 rfl (by decide) (by decide) rfl (Nat.le_of_ble_eq_true rfl) (Nat.le_refl 0) (Nat.le_refl 0) d_CA_keepUp_64 h ?_
            rintro _ _ s6 ⟨rfl, rfl, h⟩ -
            show Ax g m_CA_keepUp 0 0 (ZV g Q) SH s6 0 0 67 [(4, .int (0 : Int32)), (0, .ref (gB g + 56)), (1, .ref (gB g + t1)), (2, .int x2), (3, .int x3)] []
            refine a_iconst (pc := 67) (0 : Int32) (by decide) d_CA_keepUp_67 ?_
            refine a_istore (pc := 68) (lv' := [(5, .int (0 : Int32)), (4, .int (0 : Int32)), (0, .ref (gB g + 56)), (1, .ref (gB g + t1)), (2, .int x2), (3, .int x3)]) (Nat.le_of_ble_eq_true rfl) rfl d_CA_keepUp_68 ?_
            refine a_sub (pc := 70) [2, 3, 5, 1, 0] rfl ?_
            exact h
        · replace h := h.2 c0
          exact b_vret (pc := 46) rfl d_CA_keepUp_46 h
      · replace h := h.2 c0
        exact b_vret (pc := 23) rfl d_CA_keepUp_23 h
theorem sg_CA_keepUp_70 {g : Gx} {Q : St → Prop} {σ : St} {t1 : Nat} {x3 : Int32} {x4 : Int32} {x5 : Int32} (ht1 : isSA t1)
    (h : ((64 : Int32) ≤ x5 → Q σ) ∧ (¬ (64 : Int32) ≤ x5 → vp_in x5 64 ∧ ((¬ (ai σ (t1 + 1) (x5).toNatClampNeg) = x4 → ∀ u1 : Int32, u1 = x5 + (1 : Int32) → S_CA_keepUp_70 g Q σ t1 x3 x4 u1) ∧ ((ai σ (t1 + 1) (x5).toNatClampNeg) = x4 → K_SA_whoLies g (fi σ t1 5) x5 σ (fun (r3 : Int32) (s2 : St) => (¬ r3 = (-1 : Int32) → ∀ u4 : Int32, u4 = x5 + (1 : Int32) → S_CA_keepUp_70 g Q s2 t1 x3 x4 u4) ∧ (r3 = (-1 : Int32) → vp_in x5 64 ∧ (∀ s5 : St, s5 = sai s2 58 (x5).toNatClampNeg x3 → K_SE_reckoned g 65 57 s5 (fun (r7 : Int32) (s6 : St) => K_CA_noteIfBetter g x3 x5 r7 s6 (fun s8 : St => vp_in x5 64 ∧ (∀ s9 : St, s9 = sai s8 58 (x5).toNatClampNeg x4 → ∀ u10 : Int32, u10 = x5 + (1 : Int32) → S_CA_keepUp_70 g Q s9 t1 x3 x4 u10)))))))))) : S_CA_keepUp_70 g Q σ t1 x3 x4 x5 := by
  show Ax g m_CA_keepUp 0 0 (ZV g Q) SH σ 0 0 70 [(0, .ref (gB g + 56)), (1, .ref (gB g + t1)), (3, .int x3), (4, .int x4), (5, .int x5)] []
  refine a_iload (pc := 70) 4 rfl d_CA_keepUp_70 ?_
  refine a_bipush (pc := 72) (64 : Int32) (by decide) d_CA_keepUp_72 ?_
  refine a_icmp_ge (pc := 74) 149 (by decide) d_CA_keepUp_74 ⟨fun c0 => ?_, fun c0 => ?_⟩
  · replace h := h.1 c0
    exact b_vret (pc := 149) rfl d_CA_keepUp_149 h
  · replace h := h.2 c0
    refine a_aload_n (pc := 77) 1 rfl rfl d_CA_keepUp_77 ?_
    refine a_getR (pc := 78) fg_CA_45 (sa0 ht1) rfl d_CA_keepUp_78 ?_
    refine a_iload (pc := 81) 4 rfl d_CA_keepUp_81 ?_
    obtain ⟨hx, h⟩ := h
    refine a_iald (pc := 83) (sa1 ht1) hx d_CA_keepUp_83 ?_
    refine a_iload (pc := 84) 3 rfl d_CA_keepUp_84 ?_
    refine a_icmp_ne (pc := 86) 143 (by decide) d_CA_keepUp_86 ⟨fun c0 => ?_, fun c0 => ?_⟩
    · replace h := h.1 c0
      obtain ⟨u1, hu1⟩ : ∃ y : Int32, y = x5 + (1 : Int32) := ⟨_, rfl⟩
      replace h := h u1 hu1
      refine a_iinc (pc := 143) (v := u1) (lv' := [(5, .int u1), (0, .ref (gB g + 56)), (1, .ref (gB g + t1)), (3, .int x3), (4, .int x4)]) 4 rfl (by rw [hu1]; rfl) (Nat.le_of_ble_eq_true rfl) rfl d_CA_keepUp_143 ?_
      refine a_goto (pc := 146) 70 (by decide) d_CA_keepUp_146 ?_
      refine a_sub (pc := 70) [1, 2, 3, 4, 0] rfl ?_
      exact h
    · replace h := h.2 c0
      refine a_aload_n (pc := 89) 1 rfl rfl d_CA_keepUp_89 ?_
      refine a_getI (pc := 90) fg_CA_48 (sa0 ht1) rfl d_CA_keepUp_90 ?_
      refine a_iload (pc := 93) 4 rfl d_CA_keepUp_93 ?_
      refine a_callS (pc := 95) (M' := m_SA_whoLies) (As := [.int (fi σ t1 5), .int x5]) (st := []) (mc' := 0) (ms' := 0) lk_CA_52 rfl (by decide) (by decide) rfl (Nat.le_of_ble_eq_true rfl) (Nat.le_refl 0) (Nat.le_refl 0) d_CA_keepUp_95 h ?_
      rintro _ _ s2 ⟨r3, rfl, rfl, h⟩ -
      show Ax g m_CA_keepUp 0 0 (ZV g Q) SH s2 0 0 98 [(0, .ref (gB g + 56)), (1, .ref (gB g + t1)), (3, .int x3), (4, .int x4), (5, .int x5)] [.int r3]
      refine a_iconst (pc := 98) (-1 : Int32) (by decide) d_CA_keepUp_98 ?_
      refine a_icmp_ne (pc := 99) 143 (by decide) d_CA_keepUp_99 ⟨fun c0 => ?_, fun c0 => ?_⟩
      · replace h := h.1 c0
        obtain ⟨u4, hu4⟩ : ∃ y : Int32, y = x5 + (1 : Int32) := ⟨_, rfl⟩
        replace h := h u4 hu4
        refine a_iinc (pc := 143) (v := u4) (lv' := [(5, .int u4), (0, .ref (gB g + 56)), (1, .ref (gB g + t1)), (3, .int x3), (4, .int x4)]) 4 rfl (by rw [hu4]; rfl) (Nat.le_of_ble_eq_true rfl) rfl d_CA_keepUp_143 ?_
        refine a_goto (pc := 146) 70 (by decide) d_CA_keepUp_146 ?_
        refine a_sub (pc := 70) [1, 2, 3, 4, 0] rfl ?_
        exact h
      · replace h := h.2 c0
        refine a_aload_n (pc := 102) 0 rfl rfl d_CA_keepUp_102 ?_
        refine a_getR (pc := 103) fg_CA_12 sx_56 rfl d_CA_keepUp_103 ?_
        refine a_getR (pc := 106) fg_CA_45 sx_57 rfl d_CA_keepUp_106 ?_
        refine a_iload (pc := 109) 4 rfl d_CA_keepUp_109 ?_
        refine a_iload_n (pc := 111) 2 rfl rfl d_CA_keepUp_111 ?_
        obtain ⟨hx, h⟩ := h
        refine a_iast (pc := 112) sx_58 hx d_CA_keepUp_112 ?_
        refine a_nms (fun s5 hs5 => ?_)
        replace h := h s5 hs5
        refine a_aload_n (pc := 113) 0 rfl rfl d_CA_keepUp_113 ?_
        refine a_iload_n (pc := 114) 2 rfl rfl d_CA_keepUp_114 ?_
        refine a_iload (pc := 115) 4 rfl d_CA_keepUp_115 ?_
        refine a_aload_n (pc := 117) 0 rfl rfl d_CA_keepUp_117 ?_
        refine a_getR (pc := 118) fg_CA_33 sx_56 rfl d_CA_keepUp_118 ?_
        refine a_aload_n (pc := 121) 0 rfl rfl d_CA_keepUp_121 ?_
        refine a_getR (pc := 122) fg_CA_12 sx_56 rfl d_CA_keepUp_122 ?_
        refine a_callV (pc := 125) (M' := m_SE_reckoned) (As := [.ref (gB g + 57)]) (st := [.int x5, .int x3, .ref (gB g + 56)]) (mc' := 0) (ms' := 0) lk_CA_56 rfl sx_65 rfl (by decide) (by decide) rfl (Nat.le_of_ble_eq_true rfl) (Nat.le_refl 0) (Nat.le_refl 0) d_CA_keepUp_125 h ?_
        rintro _ _ s6 ⟨r7, rfl, rfl, h⟩ -
        show Ax g m_CA_keepUp 0 0 (ZV g Q) SH s6 0 0 128 [(0, .ref (gB g + 56)), (1, .ref (gB g + t1)), (3, .int x3), (4, .int x4), (5, .int x5)] [.int r7, .int x5, .int x3, .ref (gB g + 56)]
        refine a_callV (pc := 128) (M' := m_CA_noteIfBetter) (As := [.int x3, .int x5, .int r7]) (st := []) (mc' := 0) (ms' := 0) lk_CA_60 rfl sx_56 rfl (by decide) (by decide) rfl (Nat.le_of_ble_eq_true rfl) (Nat.le_refl 0) (Nat.le_refl 0) d_CA_keepUp_128 h ?_
        rintro _ _ s8 ⟨rfl, rfl, h⟩ -
        show Ax g m_CA_keepUp 0 0 (ZV g Q) SH s8 0 0 131 [(0, .ref (gB g + 56)), (1, .ref (gB g + t1)), (3, .int x3), (4, .int x4), (5, .int x5)] []
        refine a_aload_n (pc := 131) 0 rfl rfl d_CA_keepUp_131 ?_
        refine a_getR (pc := 132) fg_CA_12 sx_56 rfl d_CA_keepUp_132 ?_
        refine a_getR (pc := 135) fg_CA_45 sx_57 rfl d_CA_keepUp_135 ?_
        refine a_iload (pc := 138) 4 rfl d_CA_keepUp_138 ?_
        refine a_iload (pc := 140) 3 rfl d_CA_keepUp_140 ?_
        obtain ⟨hx, h⟩ := h
        refine a_iast (pc := 142) sx_58 hx d_CA_keepUp_142 ?_
        refine a_nms (fun s9 hs9 => ?_)
        replace h := h s9 hs9
        obtain ⟨u10, hu10⟩ : ∃ y : Int32, y = x5 + (1 : Int32) := ⟨_, rfl⟩
        replace h := h u10 hu10
        refine a_iinc (pc := 143) (v := u10) (lv' := [(5, .int u10), (0, .ref (gB g + 56)), (1, .ref (gB g + t1)), (3, .int x3), (4, .int x4)]) 4 rfl (by rw [hu10]; rfl) (Nat.le_of_ble_eq_true rfl) rfl d_CA_keepUp_143 ?_
        refine a_goto (pc := 146) 70 (by decide) d_CA_keepUp_146 ?_
        refine a_sub (pc := 70) [1, 2, 3, 4, 0] rfl ?_
        exact h
theorem ko_CA_keepUp {g : Gx}  {t1 : Nat} {x2 : Int32} {x3 : Int32} {σ : St} {Q : St → Prop} (h : S_CA_keepUp_0 g Q σ t1 x2 x3) : K_CA_keepUp g t1 x2 x3 σ Q := KV.of (show plainName "BallBox$Carver" = true by decide) (Nat.le_of_ble_eq_true rfl) h
theorem d_CA_noteIfBetter_0 : decode c_CA_noteIfBetter 0 = .ok (.aload_n 0, 1) := by decide +kernel
theorem d_CA_noteIfBetter_1 : decode c_CA_noteIfBetter 1 = .ok (.getfield 25, 3) := by decide +kernel
theorem d_CA_noteIfBetter_4 : decode c_CA_noteIfBetter 4 = .ok (.iload_n 1, 1) := by decide +kernel
theorem d_CA_noteIfBetter_5 : decode c_CA_noteIfBetter 5 = .ok (.iaload, 1) := by decide +kernel
theorem d_CA_noteIfBetter_6 : decode c_CA_noteIfBetter 6 = .ok (.istore 4, 2) := by decide +kernel
theorem d_CA_noteIfBetter_8 : decode c_CA_noteIfBetter 8 = .ok (.iload_n 1, 1) := by decide +kernel
theorem d_CA_noteIfBetter_9 : decode c_CA_noteIfBetter 9 = .ok (.ifCond .ne 17, 3) := by decide +kernel
theorem d_CA_noteIfBetter_12 : decode c_CA_noteIfBetter 12 = .ok (.iload_n 3, 1) := by decide +kernel
theorem d_CA_noteIfBetter_13 : decode c_CA_noteIfBetter 13 = .ok (.iload 4, 2) := by decide +kernel
theorem d_CA_noteIfBetter_15 : decode c_CA_noteIfBetter 15 = .ok (.if_icmp .ge 7, 3) := by decide +kernel
theorem d_CA_noteIfBetter_18 : decode c_CA_noteIfBetter 18 = .ok (.iconst 1, 1) := by decide +kernel
theorem d_CA_noteIfBetter_19 : decode c_CA_noteIfBetter 19 = .ok (.goto 18, 3) := by decide +kernel
theorem d_CA_noteIfBetter_22 : decode c_CA_noteIfBetter 22 = .ok (.iconst 0, 1) := by decide +kernel
theorem d_CA_noteIfBetter_23 : decode c_CA_noteIfBetter 23 = .ok (.goto 14, 3) := by decide +kernel
theorem d_CA_noteIfBetter_26 : decode c_CA_noteIfBetter 26 = .ok (.iload_n 3, 1) := by decide +kernel
theorem d_CA_noteIfBetter_27 : decode c_CA_noteIfBetter 27 = .ok (.iload 4, 2) := by decide +kernel
theorem d_CA_noteIfBetter_29 : decode c_CA_noteIfBetter 29 = .ok (.if_icmp .le 7, 3) := by decide +kernel
theorem d_CA_noteIfBetter_32 : decode c_CA_noteIfBetter 32 = .ok (.iconst 1, 1) := by decide +kernel
theorem d_CA_noteIfBetter_33 : decode c_CA_noteIfBetter 33 = .ok (.goto 4, 3) := by decide +kernel
theorem d_CA_noteIfBetter_36 : decode c_CA_noteIfBetter 36 = .ok (.iconst 0, 1) := by decide +kernel
theorem d_CA_noteIfBetter_37 : decode c_CA_noteIfBetter 37 = .ok (.istore 5, 2) := by decide +kernel
theorem d_CA_noteIfBetter_39 : decode c_CA_noteIfBetter 39 = .ok (.iload_n 3, 1) := by decide +kernel
theorem d_CA_noteIfBetter_40 : decode c_CA_noteIfBetter 40 = .ok (.ifCond .lt 27, 3) := by decide +kernel
theorem d_CA_noteIfBetter_43 : decode c_CA_noteIfBetter 43 = .ok (.iload 4, 2) := by decide +kernel
theorem d_CA_noteIfBetter_45 : decode c_CA_noteIfBetter 45 = .ok (.ifCond .lt 8, 3) := by decide +kernel
theorem d_CA_noteIfBetter_48 : decode c_CA_noteIfBetter 48 = .ok (.iload 5, 2) := by decide +kernel
theorem d_CA_noteIfBetter_50 : decode c_CA_noteIfBetter 50 = .ok (.ifCond .eq 17, 3) := by decide +kernel
theorem d_CA_noteIfBetter_53 : decode c_CA_noteIfBetter 53 = .ok (.aload_n 0, 1) := by decide +kernel
theorem d_CA_noteIfBetter_54 : decode c_CA_noteIfBetter 54 = .ok (.getfield 25, 3) := by decide +kernel
theorem d_CA_noteIfBetter_57 : decode c_CA_noteIfBetter 57 = .ok (.iload_n 1, 1) := by decide +kernel
theorem d_CA_noteIfBetter_58 : decode c_CA_noteIfBetter 58 = .ok (.iload_n 3, 1) := by decide +kernel
theorem d_CA_noteIfBetter_59 : decode c_CA_noteIfBetter 59 = .ok (.iastore, 1) := by decide +kernel
theorem d_CA_noteIfBetter_60 : decode c_CA_noteIfBetter 60 = .ok (.aload_n 0, 1) := by decide +kernel
theorem d_CA_noteIfBetter_61 : decode c_CA_noteIfBetter 61 = .ok (.getfield 22, 3) := by decide +kernel
theorem d_CA_noteIfBetter_64 : decode c_CA_noteIfBetter 64 = .ok (.iload_n 1, 1) := by decide +kernel
theorem d_CA_noteIfBetter_65 : decode c_CA_noteIfBetter 65 = .ok (.iload_n 2, 1) := by decide +kernel
theorem d_CA_noteIfBetter_66 : decode c_CA_noteIfBetter 66 = .ok (.iastore, 1) := by decide +kernel
theorem d_CA_noteIfBetter_67 : decode c_CA_noteIfBetter 67 = .ok (.return_, 1) := by decide +kernel
def S_CA_noteIfBetter_0 (g : Gx) (Q : St → Prop) (σ : St) (x1 : Int32) (x2 : Int32) (x3 : Int32) : Prop := Ax g m_CA_noteIfBetter 0 0 (ZV g Q) SH σ 0 0 0 [(0, .ref (gB g + 56)), (1, .int x1), (2, .int x2), (3, .int x3)] []
def S_CA_noteIfBetter_37 (g : Gx) (Q : St → Prop) (σ : St) (x1 : Int32) (x2 : Int32) (x3 : Int32) (x4 : Int32) (z0 : Int32) : Prop := Ax g m_CA_noteIfBetter 0 0 (ZV g Q) SH σ 0 0 37 [(0, .ref (gB g + 56)), (1, .int x1), (2, .int x2), (3, .int x3), (4, .int x4)] [.int z0]
theorem sg_CA_noteIfBetter_0 {g : Gx} {Q : St → Prop} {σ : St} {x1 : Int32} {x2 : Int32} {x3 : Int32}
    (h : vp_in x1 2 ∧ (∀ u1 : Int32, u1 = (ai σ 64 (x1).toNatClampNeg) → (¬ x1 = 0 → (x3 ≤ u1 → S_CA_noteIfBetter_37 g Q σ x1 x2 x3 u1 (0 : Int32)) ∧ (¬ x3 ≤ u1 → S_CA_noteIfBetter_37 g Q σ x1 x2 x3 u1 (1 : Int32))) ∧ (x1 = 0 → (u1 ≤ x3 → S_CA_noteIfBetter_37 g Q σ x1 x2 x3 u1 (0 : Int32)) ∧ (¬ u1 ≤ x3 → S_CA_noteIfBetter_37 g Q σ x1 x2 x3 u1 (1 : Int32))))) : S_CA_noteIfBetter_0 g Q σ x1 x2 x3 := by
  show Ax g m_CA_noteIfBetter 0 0 (ZV g Q) SH σ 0 0 0 [(0, .ref (gB g + 56)), (1, .int x1), (2, .int x2), (3, .int x3)] []
  refine a_aload_n (pc := 0) 0 rfl rfl d_CA_noteIfBetter_0 ?_
  refine a_getR (pc := 1) fg_CA_25 sx_56 rfl d_CA_noteIfBetter_1 ?_
  refine a_iload_n (pc := 4) 1 rfl rfl d_CA_noteIfBetter_4 ?_
  obtain ⟨hx, h⟩ := h
  refine a_iald (pc := 5) sx_64 hx d_CA_noteIfBetter_5 ?_
  refine a_nmi (pc := 6) (fun u1 hu1 => ?_)
  replace h := h u1 hu1
  refine a_istore (pc := 6) (lv' := [(4, .int u1), (0, .ref (gB g + 56)), (1, .int x1), (2, .int x2), (3, .int x3)]) (Nat.le_of_ble_eq_true rfl) rfl d_CA_noteIfBetter_6 ?_
  refine a_iload_n (pc := 8) 2 rfl rfl d_CA_noteIfBetter_8 ?_
  refine a_if_ne (pc := 9) 26 (by decide) d_CA_noteIfBetter_9 ⟨fun c0 => ?_, fun c0 => ?_⟩
  · replace h := h.1 c0
    refine a_iload_n (pc := 26) 4 rfl rfl d_CA_noteIfBetter_26 ?_
    refine a_iload (pc := 27) 0 rfl d_CA_noteIfBetter_27 ?_
    refine a_icmp_le (pc := 29) 36 (by decide) d_CA_noteIfBetter_29 ⟨fun c0 => ?_, fun c0 => ?_⟩
    · replace h := h.1 c0
      refine a_iconst (pc := 36) (0 : Int32) (by decide) d_CA_noteIfBetter_36 ?_
      refine a_sub (pc := 37) [1, 2, 3, 4, 0] rfl ?_
      exact h
    · replace h := h.2 c0
      refine a_iconst (pc := 32) (1 : Int32) (by decide) d_CA_noteIfBetter_32 ?_
      refine a_goto (pc := 33) 37 (by decide) d_CA_noteIfBetter_33 ?_
      refine a_sub (pc := 37) [1, 2, 3, 4, 0] rfl ?_
      exact h
  · replace h := h.2 c0
    refine a_iload_n (pc := 12) 4 rfl rfl d_CA_noteIfBetter_12 ?_
    refine a_iload (pc := 13) 0 rfl d_CA_noteIfBetter_13 ?_
    refine a_icmp_ge (pc := 15) 22 (by decide) d_CA_noteIfBetter_15 ⟨fun c0 => ?_, fun c0 => ?_⟩
    · replace h := h.1 c0
      refine a_iconst (pc := 22) (0 : Int32) (by decide) d_CA_noteIfBetter_22 ?_
      refine a_goto (pc := 23) 37 (by decide) d_CA_noteIfBetter_23 ?_
      refine a_sub (pc := 37) [1, 2, 3, 4, 0] rfl ?_
      exact h
    · replace h := h.2 c0
      refine a_iconst (pc := 18) (1 : Int32) (by decide) d_CA_noteIfBetter_18 ?_
      refine a_goto (pc := 19) 37 (by decide) d_CA_noteIfBetter_19 ?_
      refine a_sub (pc := 37) [1, 2, 3, 4, 0] rfl ?_
      exact h
theorem sg_CA_noteIfBetter_37 {g : Gx} {Q : St → Prop} {σ : St} {x1 : Int32} {x2 : Int32} {x3 : Int32} {x4 : Int32} {z0 : Int32}
    (h : (x3 < 0 → Q σ) ∧ (¬ x3 < 0 → (x4 < 0 → vp_in x1 2 ∧ (∀ s1 : St, s1 = sai σ 64 (x1).toNatClampNeg x3 → vp_in x1 2 ∧ (∀ s2 : St, s2 = sai s1 63 (x1).toNatClampNeg x2 → Q s2))) ∧ (¬ x4 < 0 → (z0 = 0 → Q σ) ∧ (¬ z0 = 0 → vp_in x1 2 ∧ (∀ s3 : St, s3 = sai σ 64 (x1).toNatClampNeg x3 → vp_in x1 2 ∧ (∀ s4 : St, s4 = sai s3 63 (x1).toNatClampNeg x2 → Q s4)))))) : S_CA_noteIfBetter_37 g Q σ x1 x2 x3 x4 z0 := by
  show Ax g m_CA_noteIfBetter 0 0 (ZV g Q) SH σ 0 0 37 [(0, .ref (gB g + 56)), (1, .int x1), (2, .int x2), (3, .int x3), (4, .int x4)] [.int z0]
  refine a_istore (pc := 37) (lv' := [(5, .int z0), (0, .ref (gB g + 56)), (1, .int x1), (2, .int x2), (3, .int x3), (4, .int x4)]) (Nat.le_of_ble_eq_true rfl) rfl d_CA_noteIfBetter_37 ?_
  refine a_iload_n (pc := 39) 4 rfl rfl d_CA_noteIfBetter_39 ?_
  refine a_if_lt (pc := 40) 67 (by decide) d_CA_noteIfBetter_40 ⟨fun c0 => ?_, fun c0 => ?_⟩
  · replace h := h.1 c0
    exact b_vret (pc := 67) rfl d_CA_noteIfBetter_67 h
  · replace h := h.2 c0
    refine a_iload (pc := 43) 5 rfl d_CA_noteIfBetter_43 ?_
    refine a_if_lt (pc := 45) 53 (by decide) d_CA_noteIfBetter_45 ⟨fun c0 => ?_, fun c0 => ?_⟩
    · replace h := h.1 c0
      refine a_aload_n (pc := 53) 1 rfl rfl d_CA_noteIfBetter_53 ?_
      refine a_getR (pc := 54) fg_CA_25 sx_56 rfl d_CA_noteIfBetter_54 ?_
      refine a_iload_n (pc := 57) 2 rfl rfl d_CA_noteIfBetter_57 ?_
      refine a_iload_n (pc := 58) 4 rfl rfl d_CA_noteIfBetter_58 ?_
      obtain ⟨hx, h⟩ := h
      refine a_iast (pc := 59) sx_64 hx d_CA_noteIfBetter_59 ?_
      refine a_nms (fun s1 hs1 => ?_)
      replace h := h s1 hs1
      refine a_aload_n (pc := 60) 1 rfl rfl d_CA_noteIfBetter_60 ?_
      refine a_getR (pc := 61) fg_CA_22 sx_56 rfl d_CA_noteIfBetter_61 ?_
      refine a_iload_n (pc := 64) 2 rfl rfl d_CA_noteIfBetter_64 ?_
      refine a_iload_n (pc := 65) 3 rfl rfl d_CA_noteIfBetter_65 ?_
      obtain ⟨hx, h⟩ := h
      refine a_iast (pc := 66) sx_63 hx d_CA_noteIfBetter_66 ?_
      refine a_nms (fun s2 hs2 => ?_)
      replace h := h s2 hs2
      exact b_vret (pc := 67) rfl d_CA_noteIfBetter_67 h
    · replace h := h.2 c0
      refine a_iload (pc := 48) 0 rfl d_CA_noteIfBetter_48 ?_
      refine a_if_eq (pc := 50) 67 (by decide) d_CA_noteIfBetter_50 ⟨fun c0 => ?_, fun c0 => ?_⟩
      · replace h := h.1 c0
        exact b_vret (pc := 67) rfl d_CA_noteIfBetter_67 h
      · replace h := h.2 c0
        refine a_aload_n (pc := 53) 1 rfl rfl d_CA_noteIfBetter_53 ?_
        refine a_getR (pc := 54) fg_CA_25 sx_56 rfl d_CA_noteIfBetter_54 ?_
        refine a_iload_n (pc := 57) 2 rfl rfl d_CA_noteIfBetter_57 ?_
        refine a_iload_n (pc := 58) 4 rfl rfl d_CA_noteIfBetter_58 ?_
        obtain ⟨hx, h⟩ := h
        refine a_iast (pc := 59) sx_64 hx d_CA_noteIfBetter_59 ?_
        refine a_nms (fun s3 hs3 => ?_)
        replace h := h s3 hs3
        refine a_aload_n (pc := 60) 1 rfl rfl d_CA_noteIfBetter_60 ?_
        refine a_getR (pc := 61) fg_CA_22 sx_56 rfl d_CA_noteIfBetter_61 ?_
        refine a_iload_n (pc := 64) 2 rfl rfl d_CA_noteIfBetter_64 ?_
        refine a_iload_n (pc := 65) 3 rfl rfl d_CA_noteIfBetter_65 ?_
        obtain ⟨hx, h⟩ := h
        refine a_iast (pc := 66) sx_63 hx d_CA_noteIfBetter_66 ?_
        refine a_nms (fun s4 hs4 => ?_)
        replace h := h s4 hs4
        exact b_vret (pc := 67) rfl d_CA_noteIfBetter_67 h
theorem ko_CA_noteIfBetter {g : Gx}  {x1 : Int32} {x2 : Int32} {x3 : Int32} {σ : St} {Q : St → Prop} (h : S_CA_noteIfBetter_0 g Q σ x1 x2 x3) : K_CA_noteIfBetter g x1 x2 x3 σ Q := KV.of (show plainName "BallBox$Carver" = true by decide) (Nat.le_of_ble_eq_true rfl) h
theorem d_CA_answer_0 : decode c_CA_answer 0 = .ok (.iload_n 1, 1) := by decide +kernel
theorem d_CA_answer_1 : decode c_CA_answer 1 = .ok (.ifCond .lt 21, 3) := by decide +kernel
theorem d_CA_answer_4 : decode c_CA_answer 4 = .ok (.iload_n 1, 1) := by decide +kernel
theorem d_CA_answer_5 : decode c_CA_answer 5 = .ok (.aload_n 0, 1) := by decide +kernel
theorem d_CA_answer_6 : decode c_CA_answer 6 = .ok (.getfield 18, 3) := by decide +kernel
theorem d_CA_answer_9 : decode c_CA_answer 9 = .ok (.arraylength, 1) := by decide +kernel
theorem d_CA_answer_10 : decode c_CA_answer 10 = .ok (.if_icmp .ge 12, 3) := by decide +kernel
theorem d_CA_answer_13 : decode c_CA_answer 13 = .ok (.aload_n 0, 1) := by decide +kernel
theorem d_CA_answer_14 : decode c_CA_answer 14 = .ok (.getfield 25, 3) := by decide +kernel
theorem d_CA_answer_17 : decode c_CA_answer 17 = .ok (.iload_n 1, 1) := by decide +kernel
theorem d_CA_answer_18 : decode c_CA_answer 18 = .ok (.iaload, 1) := by decide +kernel
theorem d_CA_answer_19 : decode c_CA_answer 19 = .ok (.ifCond .ge 6, 3) := by decide +kernel
theorem d_CA_answer_22 : decode c_CA_answer 22 = .ok (.bipush (-2), 2) := by decide +kernel
theorem d_CA_answer_24 : decode c_CA_answer 24 = .ok (.ireturn, 1) := by decide +kernel
theorem d_CA_answer_25 : decode c_CA_answer 25 = .ok (.aload_n 0, 1) := by decide +kernel
theorem d_CA_answer_26 : decode c_CA_answer 26 = .ok (.getfield 22, 3) := by decide +kernel
theorem d_CA_answer_29 : decode c_CA_answer 29 = .ok (.iload_n 1, 1) := by decide +kernel
theorem d_CA_answer_30 : decode c_CA_answer 30 = .ok (.iaload, 1) := by decide +kernel
theorem d_CA_answer_31 : decode c_CA_answer 31 = .ok (.istore_n 3, 1) := by decide +kernel
theorem d_CA_answer_32 : decode c_CA_answer 32 = .ok (.iload_n 2, 1) := by decide +kernel
theorem d_CA_answer_33 : decode c_CA_answer 33 = .ok (.ifCond .ne 10, 3) := by decide +kernel
theorem d_CA_answer_36 : decode c_CA_answer 36 = .ok (.iload_n 3, 1) := by decide +kernel
theorem d_CA_answer_37 : decode c_CA_answer 37 = .ok (.invokestatic 64, 3) := by decide +kernel
theorem d_CA_answer_40 : decode c_CA_answer 40 = .ok (.goto 21, 3) := by decide +kernel
theorem d_CA_answer_43 : decode c_CA_answer 43 = .ok (.iload_n 2, 1) := by decide +kernel
theorem d_CA_answer_44 : decode c_CA_answer 44 = .ok (.iconst 1, 1) := by decide +kernel
theorem d_CA_answer_45 : decode c_CA_answer 45 = .ok (.if_icmp .ne 10, 3) := by decide +kernel
theorem d_CA_answer_48 : decode c_CA_answer 48 = .ok (.iload_n 3, 1) := by decide +kernel
theorem d_CA_answer_49 : decode c_CA_answer 49 = .ok (.invokestatic 68, 3) := by decide +kernel
theorem d_CA_answer_52 : decode c_CA_answer 52 = .ok (.goto 9, 3) := by decide +kernel
theorem d_CA_answer_55 : decode c_CA_answer 55 = .ok (.aload_n 0, 1) := by decide +kernel
theorem d_CA_answer_56 : decode c_CA_answer 56 = .ok (.getfield 25, 3) := by decide +kernel
theorem d_CA_answer_59 : decode c_CA_answer 59 = .ok (.iload_n 1, 1) := by decide +kernel
theorem d_CA_answer_60 : decode c_CA_answer 60 = .ok (.iaload, 1) := by decide +kernel
theorem d_CA_answer_61 : decode c_CA_answer 61 = .ok (.ireturn, 1) := by decide +kernel
def S_CA_answer_0 (g : Gx) (Q : Int32 → St → Prop) (σ : St) (x1 : Int32) (x2 : Int32) : Prop := Ax g m_CA_answer 0 0 (ZI g Q) SH σ 0 0 0 [(0, .ref (gB g + 56)), (1, .int x1), (2, .int x2)] []
theorem sg_CA_answer_0 {g : Gx} {Q : Int32 → St → Prop} {σ : St} {x1 : Int32} {x2 : Int32}
    (h : (x1 < 0 → Q (-2 : Int32) σ) ∧ (¬ x1 < 0 → ((2 : Int32) ≤ x1 → Q (-2 : Int32) σ) ∧ (¬ (2 : Int32) ≤ x1 → vp_in x1 2 ∧ ((0 ≤ (ai σ 64 (x1).toNatClampNeg) → vp_in x1 2 ∧ (∀ u1 : Int32, u1 = (ai σ 63 (x1).toNatClampNeg) → (¬ x2 = 0 → (¬ x2 = (1 : Int32) → vp_in x1 2 ∧ (Q (ai σ 64 (x1).toNatClampNeg) σ)) ∧ (x2 = (1 : Int32) → K_SA_rowOf g u1 σ (fun (r3 : Int32) (s2 : St) => Q r3 s2))) ∧ (x2 = 0 → K_SA_columnOf g u1 σ (fun (r5 : Int32) (s4 : St) => Q r5 s4)))) ∧ (¬ 0 ≤ (ai σ 64 (x1).toNatClampNeg) → Q (-2 : Int32) σ))))) : S_CA_answer_0 g Q σ x1 x2 := by
  show Ax g m_CA_answer 0 0 (ZI g Q) SH σ 0 0 0 [(0, .ref (gB g + 56)), (1, .int x1), (2, .int x2)] []
  refine a_iload_n (pc := 0) 1 rfl rfl d_CA_answer_0 ?_
  refine a_if_lt (pc := 1) 22 (by decide) d_CA_answer_1 ⟨fun c0 => ?_, fun c0 => ?_⟩
  · replace h := h.1 c0
    refine a_bipush (pc := 22) (-2 : Int32) (by decide) d_CA_answer_22 ?_
    exact b_iret (pc := 24) rfl d_CA_answer_24 h
  · replace h := h.2 c0
    refine a_iload_n (pc := 4) 1 rfl rfl d_CA_answer_4 ?_
    refine a_aload_n (pc := 5) 0 rfl rfl d_CA_answer_5 ?_
    refine a_getR (pc := 6) fg_CA_18 sx_56 rfl d_CA_answer_6 ?_
    refine a_alen (pc := 9) (kd := 0) rfl sx_62 d_CA_answer_9 ?_
    refine a_icmp_ge (pc := 10) 22 (by decide) d_CA_answer_10 ⟨fun c0 => ?_, fun c0 => ?_⟩
    · replace h := h.1 c0
      refine a_bipush (pc := 22) (-2 : Int32) (by decide) d_CA_answer_22 ?_
      exact b_iret (pc := 24) rfl d_CA_answer_24 h
    · replace h := h.2 c0
      refine a_aload_n (pc := 13) 0 rfl rfl d_CA_answer_13 ?_
      refine a_getR (pc := 14) fg_CA_25 sx_56 rfl d_CA_answer_14 ?_
      refine a_iload_n (pc := 17) 1 rfl rfl d_CA_answer_17 ?_
      obtain ⟨hx, h⟩ := h
      refine a_iald (pc := 18) sx_64 hx d_CA_answer_18 ?_
      refine a_if_ge (pc := 19) 25 (by decide) d_CA_answer_19 ⟨fun c0 => ?_, fun c0 => ?_⟩
      · replace h := h.1 c0
        refine a_aload_n (pc := 25) 0 rfl rfl d_CA_answer_25 ?_
        refine a_getR (pc := 26) fg_CA_22 sx_56 rfl d_CA_answer_26 ?_
        refine a_iload_n (pc := 29) 1 rfl rfl d_CA_answer_29 ?_
        obtain ⟨hx, h⟩ := h
        refine a_iald (pc := 30) sx_63 hx d_CA_answer_30 ?_
        refine a_nmi (pc := 31) (fun u1 hu1 => ?_)
        replace h := h u1 hu1
        refine a_istore_n (pc := 31) (lv' := [(3, .int u1), (0, .ref (gB g + 56)), (1, .int x1), (2, .int x2)]) rfl (Nat.le_of_ble_eq_true rfl) rfl d_CA_answer_31 ?_
        refine a_iload_n (pc := 32) 3 rfl rfl d_CA_answer_32 ?_
        refine a_if_ne (pc := 33) 43 (by decide) d_CA_answer_33 ⟨fun c0 => ?_, fun c0 => ?_⟩
        · replace h := h.1 c0
          refine a_iload_n (pc := 43) 3 rfl rfl d_CA_answer_43 ?_
          refine a_iconst (pc := 44) (1 : Int32) (by decide) d_CA_answer_44 ?_
          refine a_icmp_ne (pc := 45) 55 (by decide) d_CA_answer_45 ⟨fun c0 => ?_, fun c0 => ?_⟩
          · replace h := h.1 c0
            refine a_aload_n (pc := 55) 1 rfl rfl d_CA_answer_55 ?_
            refine a_getR (pc := 56) fg_CA_25 sx_56 rfl d_CA_answer_56 ?_
            refine a_iload_n (pc := 59) 2 rfl rfl d_CA_answer_59 ?_
            obtain ⟨hx, h⟩ := h
            refine a_iald (pc := 60) sx_64 hx d_CA_answer_60 ?_
            exact b_iret (pc := 61) rfl d_CA_answer_61 h
          · replace h := h.2 c0
            refine a_iload_n (pc := 48) 0 rfl rfl d_CA_answer_48 ?_
            refine a_callS (pc := 49) (M' := m_SA_rowOf) (As := [.int u1]) (st := []) (mc' := 0) (ms' := 0) lk_CA_68 rfl (by decide) (by decide) rfl (Nat.le_of_ble_eq_true rfl) (Nat.le_refl 0) (Nat.le_refl 0) d_CA_answer_49 h ?_
            rintro _ _ s2 ⟨r3, rfl, rfl, h⟩ -
            show Ax g m_CA_answer 0 0 (ZI g Q) SH s2 0 0 52 [(3, .int u1), (0, .ref (gB g + 56)), (1, .int x1), (2, .int x2)] [.int r3]
            refine a_goto (pc := 52) 61 (by decide) d_CA_answer_52 ?_
            exact b_iret (pc := 61) rfl d_CA_answer_61 h
        · replace h := h.2 c0
          refine a_iload_n (pc := 36) 0 rfl rfl d_CA_answer_36 ?_
          refine a_callS (pc := 37) (M' := m_SA_columnOf) (As := [.int u1]) (st := []) (mc' := 0) (ms' := 0) lk_CA_64 rfl (by decide) (by decide) rfl (Nat.le_of_ble_eq_true rfl) (Nat.le_refl 0) (Nat.le_refl 0) d_CA_answer_37 h ?_
          rintro _ _ s4 ⟨r5, rfl, rfl, h⟩ -
          show Ax g m_CA_answer 0 0 (ZI g Q) SH s4 0 0 40 [(3, .int u1), (0, .ref (gB g + 56)), (1, .int x1), (2, .int x2)] [.int r5]
          refine a_goto (pc := 40) 61 (by decide) d_CA_answer_40 ?_
          exact b_iret (pc := 61) rfl d_CA_answer_61 h
      · replace h := h.2 c0
        refine a_bipush (pc := 22) (-2 : Int32) (by decide) d_CA_answer_22 ?_
        exact b_iret (pc := 24) rfl d_CA_answer_24 h
theorem ko_CA_answer {g : Gx}  {x1 : Int32} {x2 : Int32} {σ : St} {Q : Int32 → St → Prop} (h : S_CA_answer_0 g Q σ x1 x2) : K_CA_answer g x1 x2 σ Q := KI.of (show plainName "BallBox$Carver" = true by decide) (Nat.le_of_ble_eq_true rfl) h
