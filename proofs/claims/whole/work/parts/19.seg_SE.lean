theorem d_SE_keepUp_0 : decode c_SE_keepUp 0 = .ok (.aload_n 0, 1) := by decide +kernel
theorem d_SE_keepUp_1 : decode c_SE_keepUp 1 = .ok (.getfield 22, 3) := by decide +kernel
theorem d_SE_keepUp_4 : decode c_SE_keepUp 4 = .ok (.iload_n 2, 1) := by decide +kernel
theorem d_SE_keepUp_5 : decode c_SE_keepUp 5 = .ok (.if_icmp .eq 17, 3) := by decide +kernel
theorem d_SE_keepUp_8 : decode c_SE_keepUp 8 = .ok (.aload_n 0, 1) := by decide +kernel
theorem d_SE_keepUp_9 : decode c_SE_keepUp 9 = .ok (.aload_n 0, 1) := by decide +kernel
theorem d_SE_keepUp_10 : decode c_SE_keepUp 10 = .ok (.aload_n 1, 1) := by decide +kernel
theorem d_SE_keepUp_11 : decode c_SE_keepUp 11 = .ok (.invokevirtual 30, 3) := by decide +kernel
theorem d_SE_keepUp_14 : decode c_SE_keepUp 14 = .ok (.putfield 34, 3) := by decide +kernel
theorem d_SE_keepUp_17 : decode c_SE_keepUp 17 = .ok (.aload_n 0, 1) := by decide +kernel
theorem d_SE_keepUp_18 : decode c_SE_keepUp 18 = .ok (.iload_n 2, 1) := by decide +kernel
theorem d_SE_keepUp_19 : decode c_SE_keepUp 19 = .ok (.putfield 22, 3) := by decide +kernel
theorem d_SE_keepUp_22 : decode c_SE_keepUp 22 = .ok (.return_, 1) := by decide +kernel
def S_SE_keepUp_0 (g : Gx) (Q : St → Prop) (σ : St) (t : Nat) (t1 : Nat) (x2 : Int32) : Prop := Ax g m_SE_keepUp 0 0 (ZV g Q) SH σ 0 0 0 [(0, .ref (gB g + t)), (1, .ref (gB g + t1)), (2, .int x2)] []
theorem sg_SE_keepUp_0 {g : Gx} {Q : St → Prop} {σ : St} {t : Nat} {t1 : Nat} {x2 : Int32} (ht : isSE t) (ht1 : isSA t1)
    (h : ((fi σ t 6) = x2 → Q σ) ∧ (¬ (fi σ t 6) = x2 → K_SE_reckoned g t t1 σ (fun (r2 : Int32) (s1 : St) => ∀ s3 : St, s3 = sfi s1 t 7 r2 → ∀ s4 : St, s4 = sfi s3 t 6 x2 → Q s4))) : S_SE_keepUp_0 g Q σ t t1 x2 := by
  show Ax g m_SE_keepUp 0 0 (ZV g Q) SH σ 0 0 0 [(0, .ref (gB g + t)), (1, .ref (gB g + t1)), (2, .int x2)] []
  refine a_aload_n (pc := 0) 0 rfl rfl d_SE_keepUp_0 ?_
  refine a_getI (pc := 1) fg_SE_22 (se0 ht) rfl d_SE_keepUp_1 ?_
  refine a_iload_n (pc := 4) 2 rfl rfl d_SE_keepUp_4 ?_
  refine a_icmp_eq (pc := 5) 22 (by decide) d_SE_keepUp_5 ⟨fun c0 => ?_, fun c0 => ?_⟩
  · replace h := h.1 c0
    exact b_vret (pc := 22) rfl d_SE_keepUp_22 h
  · replace h := h.2 c0
    refine a_aload_n (pc := 8) 0 rfl rfl d_SE_keepUp_8 ?_
    refine a_aload_n (pc := 9) 0 rfl rfl d_SE_keepUp_9 ?_
    refine a_aload_n (pc := 10) 1 rfl rfl d_SE_keepUp_10 ?_
    refine a_callV (pc := 11) (M' := m_SE_reckoned) (As := [.ref (gB g + t1)]) (st := [.ref (gB g + t)]) (mc' := 0) (ms' := 0) lk_SE_30 rfl (se0 ht) rfl (by decide) (by decide) rfl (Nat.le_of_ble_eq_true rfl) (Nat.le_refl 0) (Nat.le_refl 0) d_SE_keepUp_11 h ?_
    rintro _ _ s1 ⟨r2, rfl, rfl, h⟩ -
    show Ax g m_SE_keepUp 0 0 (ZV g Q) SH s1 0 0 14 [(0, .ref (gB g + t)), (1, .ref (gB g + t1)), (2, .int x2)] [.int r2, .ref (gB g + t)]
    refine a_putI (pc := 14) fp_SE_34 (se0 ht) rfl d_SE_keepUp_14 ?_
    refine a_nms (fun s3 hs3 => ?_)
    replace h := h s3 hs3
    refine a_aload_n (pc := 17) 0 rfl rfl d_SE_keepUp_17 ?_
    refine a_iload_n (pc := 18) 2 rfl rfl d_SE_keepUp_18 ?_
    refine a_putI (pc := 19) fp_SE_22 (se0 ht) rfl d_SE_keepUp_19 ?_
    refine a_nms (fun s4 hs4 => ?_)
    replace h := h s4 hs4
    exact b_vret (pc := 22) rfl d_SE_keepUp_22 h
theorem ko_SE_keepUp {g : Gx}  {t : Nat} {t1 : Nat} {x2 : Int32} {σ : St} {Q : St → Prop} (h : S_SE_keepUp_0 g Q σ t t1 x2) : K_SE_keepUp g t t1 x2 σ Q := KV.of (show plainName "BallBox$Search" = true by decide) (Nat.le_of_ble_eq_true rfl) h
theorem d_SE_reckoned_0 : decode c_SE_reckoned 0 = .ok (.aload_n 0, 1) := by decide +kernel
theorem d_SE_reckoned_1 : decode c_SE_reckoned 1 = .ok (.invokevirtual 37, 3) := by decide +kernel
theorem d_SE_reckoned_4 : decode c_SE_reckoned 4 = .ok (.aload_n 1, 1) := by decide +kernel
theorem d_SE_reckoned_5 : decode c_SE_reckoned 5 = .ok (.getfield 40, 3) := by decide +kernel
theorem d_SE_reckoned_8 : decode c_SE_reckoned 8 = .ok (.invokestatic 45, 3) := by decide +kernel
theorem d_SE_reckoned_11 : decode c_SE_reckoned 11 = .ok (.ifCond .eq 6, 3) := by decide +kernel
theorem d_SE_reckoned_14 : decode c_SE_reckoned 14 = .ok (.bipush (-2), 2) := by decide +kernel
theorem d_SE_reckoned_16 : decode c_SE_reckoned 16 = .ok (.ireturn, 1) := by decide +kernel
theorem d_SE_reckoned_17 : decode c_SE_reckoned 17 = .ok (.aload_n 1, 1) := by decide +kernel
theorem d_SE_reckoned_18 : decode c_SE_reckoned 18 = .ok (.getfield 40, 3) := by decide +kernel
theorem d_SE_reckoned_21 : decode c_SE_reckoned 21 = .ok (.ifCond .ne 5, 3) := by decide +kernel
theorem d_SE_reckoned_24 : decode c_SE_reckoned 24 = .ok (.iconst 0, 1) := by decide +kernel
theorem d_SE_reckoned_25 : decode c_SE_reckoned 25 = .ok (.ireturn, 1) := by decide +kernel
theorem d_SE_reckoned_26 : decode c_SE_reckoned 26 = .ok (.aload_n 0, 1) := by decide +kernel
theorem d_SE_reckoned_27 : decode c_SE_reckoned 27 = .ok (.aload_n 1, 1) := by decide +kernel
theorem d_SE_reckoned_28 : decode c_SE_reckoned 28 = .ok (.getfield 40, 3) := by decide +kernel
theorem d_SE_reckoned_31 : decode c_SE_reckoned 31 = .ok (.iconst (-1), 1) := by decide +kernel
theorem d_SE_reckoned_32 : decode c_SE_reckoned 32 = .ok (.invokevirtual 49, 3) := by decide +kernel
theorem d_SE_reckoned_35 : decode c_SE_reckoned 35 = .ok (.iconst 0, 1) := by decide +kernel
theorem d_SE_reckoned_36 : decode c_SE_reckoned 36 = .ok (.istore_n 2, 1) := by decide +kernel
theorem d_SE_reckoned_37 : decode c_SE_reckoned 37 = .ok (.iload_n 2, 1) := by decide +kernel
theorem d_SE_reckoned_38 : decode c_SE_reckoned 38 = .ok (.aload_n 0, 1) := by decide +kernel
theorem d_SE_reckoned_39 : decode c_SE_reckoned 39 = .ok (.getfield 53, 3) := by decide +kernel
theorem d_SE_reckoned_42 : decode c_SE_reckoned 42 = .ok (.if_icmp .ge 110, 3) := by decide +kernel
theorem d_SE_reckoned_45 : decode c_SE_reckoned 45 = .ok (.iload_n 2, 1) := by decide +kernel
theorem d_SE_reckoned_46 : decode c_SE_reckoned 46 = .ok (.sipush 4000, 3) := by decide +kernel
theorem d_SE_reckoned_49 : decode c_SE_reckoned 49 = .ok (.if_icmp .ge 103, 3) := by decide +kernel
theorem d_SE_reckoned_52 : decode c_SE_reckoned 52 = .ok (.iconst 0, 1) := by decide +kernel
theorem d_SE_reckoned_53 : decode c_SE_reckoned 53 = .ok (.istore_n 3, 1) := by decide +kernel
theorem d_SE_reckoned_54 : decode c_SE_reckoned 54 = .ok (.iload_n 3, 1) := by decide +kernel
theorem d_SE_reckoned_55 : decode c_SE_reckoned 55 = .ok (.iconst 4, 1) := by decide +kernel
theorem d_SE_reckoned_56 : decode c_SE_reckoned 56 = .ok (.if_icmp .ge 90, 3) := by decide +kernel
theorem d_SE_reckoned_59 : decode c_SE_reckoned 59 = .ok (.aload_n 0, 1) := by decide +kernel
theorem d_SE_reckoned_60 : decode c_SE_reckoned 60 = .ok (.getfield 26, 3) := by decide +kernel
theorem d_SE_reckoned_63 : decode c_SE_reckoned 63 = .ok (.aload_n 1, 1) := by decide +kernel
theorem d_SE_reckoned_64 : decode c_SE_reckoned 64 = .ok (.aload_n 0, 1) := by decide +kernel
theorem d_SE_reckoned_65 : decode c_SE_reckoned 65 = .ok (.getfield 11, 3) := by decide +kernel
theorem d_SE_reckoned_68 : decode c_SE_reckoned 68 = .ok (.iload_n 2, 1) := by decide +kernel
theorem d_SE_reckoned_69 : decode c_SE_reckoned 69 = .ok (.iaload, 1) := by decide +kernel
theorem d_SE_reckoned_70 : decode c_SE_reckoned 70 = .ok (.iload_n 3, 1) := by decide +kernel
theorem d_SE_reckoned_71 : decode c_SE_reckoned 71 = .ok (.invokevirtual 56, 3) := by decide +kernel
theorem d_SE_reckoned_74 : decode c_SE_reckoned 74 = .ok (.istore 4, 2) := by decide +kernel
theorem d_SE_reckoned_76 : decode c_SE_reckoned 76 = .ok (.iload 4, 2) := by decide +kernel
theorem d_SE_reckoned_78 : decode c_SE_reckoned 78 = .ok (.ifCond .ne 21, 3) := by decide +kernel
theorem d_SE_reckoned_81 : decode c_SE_reckoned 81 = .ok (.aload_n 0, 1) := by decide +kernel
theorem d_SE_reckoned_82 : decode c_SE_reckoned 82 = .ok (.iconst 4, 1) := by decide +kernel
theorem d_SE_reckoned_83 : decode c_SE_reckoned 83 = .ok (.iload_n 2, 1) := by decide +kernel
theorem d_SE_reckoned_84 : decode c_SE_reckoned 84 = .ok (.imul, 1) := by decide +kernel
theorem d_SE_reckoned_85 : decode c_SE_reckoned 85 = .ok (.iload_n 3, 1) := by decide +kernel
theorem d_SE_reckoned_86 : decode c_SE_reckoned 86 = .ok (.iadd, 1) := by decide +kernel
theorem d_SE_reckoned_87 : decode c_SE_reckoned 87 = .ok (.putfield 62, 3) := by decide +kernel
theorem d_SE_reckoned_90 : decode c_SE_reckoned 90 = .ok (.aload_n 0, 1) := by decide +kernel
theorem d_SE_reckoned_91 : decode c_SE_reckoned 91 = .ok (.aload_n 0, 1) := by decide +kernel
theorem d_SE_reckoned_92 : decode c_SE_reckoned 92 = .ok (.getfield 62, 3) := by decide +kernel
theorem d_SE_reckoned_95 : decode c_SE_reckoned 95 = .ok (.invokevirtual 65, 3) := by decide +kernel
theorem d_SE_reckoned_98 : decode c_SE_reckoned 98 = .ok (.ireturn, 1) := by decide +kernel
theorem d_SE_reckoned_99 : decode c_SE_reckoned 99 = .ok (.iload 4, 2) := by decide +kernel
theorem d_SE_reckoned_101 : decode c_SE_reckoned 101 = .ok (.invokestatic 45, 3) := by decide +kernel
theorem d_SE_reckoned_104 : decode c_SE_reckoned 104 = .ok (.ifCond .ne 36, 3) := by decide +kernel
theorem d_SE_reckoned_107 : decode c_SE_reckoned 107 = .ok (.aload_n 0, 1) := by decide +kernel
theorem d_SE_reckoned_108 : decode c_SE_reckoned 108 = .ok (.iload 4, 2) := by decide +kernel
theorem d_SE_reckoned_110 : decode c_SE_reckoned 110 = .ok (.invokevirtual 69, 3) := by decide +kernel
theorem d_SE_reckoned_113 : decode c_SE_reckoned 113 = .ok (.ifCond .ne 27, 3) := by decide +kernel
theorem d_SE_reckoned_116 : decode c_SE_reckoned 116 = .ok (.aload_n 0, 1) := by decide +kernel
theorem d_SE_reckoned_117 : decode c_SE_reckoned 117 = .ok (.getfield 53, 3) := by decide +kernel
theorem d_SE_reckoned_120 : decode c_SE_reckoned 120 = .ok (.sipush 4000, 3) := by decide +kernel
theorem d_SE_reckoned_123 : decode c_SE_reckoned 123 = .ok (.if_icmp .ne 6, 3) := by decide +kernel
theorem d_SE_reckoned_126 : decode c_SE_reckoned 126 = .ok (.bipush (-3), 2) := by decide +kernel
theorem d_SE_reckoned_128 : decode c_SE_reckoned 128 = .ok (.ireturn, 1) := by decide +kernel
theorem d_SE_reckoned_129 : decode c_SE_reckoned 129 = .ok (.aload_n 0, 1) := by decide +kernel
theorem d_SE_reckoned_130 : decode c_SE_reckoned 130 = .ok (.iload 4, 2) := by decide +kernel
theorem d_SE_reckoned_132 : decode c_SE_reckoned 132 = .ok (.iconst 4, 1) := by decide +kernel
theorem d_SE_reckoned_133 : decode c_SE_reckoned 133 = .ok (.iload_n 2, 1) := by decide +kernel
theorem d_SE_reckoned_134 : decode c_SE_reckoned 134 = .ok (.imul, 1) := by decide +kernel
theorem d_SE_reckoned_135 : decode c_SE_reckoned 135 = .ok (.iload_n 3, 1) := by decide +kernel
theorem d_SE_reckoned_136 : decode c_SE_reckoned 136 = .ok (.iadd, 1) := by decide +kernel
theorem d_SE_reckoned_137 : decode c_SE_reckoned 137 = .ok (.invokevirtual 49, 3) := by decide +kernel
theorem d_SE_reckoned_140 : decode c_SE_reckoned 140 = .ok (.iinc 3 1, 3) := by decide +kernel
theorem d_SE_reckoned_143 : decode c_SE_reckoned 143 = .ok (.goto (-89), 3) := by decide +kernel
theorem d_SE_reckoned_146 : decode c_SE_reckoned 146 = .ok (.iinc 2 1, 3) := by decide +kernel
theorem d_SE_reckoned_149 : decode c_SE_reckoned 149 = .ok (.goto (-112), 3) := by decide +kernel
theorem d_SE_reckoned_152 : decode c_SE_reckoned 152 = .ok (.bipush (-2), 2) := by decide +kernel
theorem d_SE_reckoned_154 : decode c_SE_reckoned 154 = .ok (.ireturn, 1) := by decide +kernel
def S_SE_reckoned_0 (g : Gx) (Q : Int32 → St → Prop) (σ : St) (t : Nat) (t1 : Nat) : Prop := Ax g m_SE_reckoned 0 0 (ZI g Q) SH σ 0 0 0 [(0, .ref (gB g + t)), (1, .ref (gB g + t1))] []
def S_SE_reckoned_37 (g : Gx) (Q : Int32 → St → Prop) (σ : St) (t : Nat) (t1 : Nat) (x2 : Int32) : Prop := Ax g m_SE_reckoned 0 0 (ZI g Q) SH σ 0 0 37 [(0, .ref (gB g + t)), (1, .ref (gB g + t1)), (2, .int x2)] []
def S_SE_reckoned_54 (g : Gx) (Q : Int32 → St → Prop) (σ : St) (t : Nat) (t1 : Nat) (x2 : Int32) (x3 : Int32) : Prop := Ax g m_SE_reckoned 0 0 (ZI g Q) SH σ 0 0 54 [(0, .ref (gB g + t)), (1, .ref (gB g + t1)), (2, .int x2), (3, .int x3)] []
theorem sg_SE_reckoned_0 {g : Gx} {Q : Int32 → St → Prop} {σ : St} {t : Nat} {t1 : Nat} (ht : isSE t) (ht1 : isSA t1)
    (h : K_SE_forget g t σ (fun s1 : St => K_SA_hasLost g (fi s1 t1 5) s1 (fun (r3 : Int32) (s2 : St) => (r3 = 0 → (¬ (fi s2 t1 5) = 0 → K_SE_note g t (fi s2 t1 5) (-1 : Int32) s2 (fun s4 : St => S_SE_reckoned_37 g Q s4 t t1 (0 : Int32))) ∧ ((fi s2 t1 5) = 0 → Q (0 : Int32) s2)) ∧ (¬ r3 = 0 → Q (-2 : Int32) s2)))) : S_SE_reckoned_0 g Q σ t t1 := by
  show Ax g m_SE_reckoned 0 0 (ZI g Q) SH σ 0 0 0 [(0, .ref (gB g + t)), (1, .ref (gB g + t1))] []
  refine a_aload_n (pc := 0) 0 rfl rfl d_SE_reckoned_0 ?_
  refine a_callV (pc := 1) (M' := m_SE_forget) (As := []) (st := []) (mc' := 0) (ms' := 0) lk_SE_37 rfl (se0 ht) rfl (by decide) (by decide) rfl (Nat.le_of_ble_eq_true rfl) (Nat.le_refl 0) (Nat.le_refl 0) d_SE_reckoned_1 h ?_
  rintro _ _ s1 ⟨rfl, rfl, h⟩ -
  show Ax g m_SE_reckoned 0 0 (ZI g Q) SH s1 0 0 4 [(0, .ref (gB g + t)), (1, .ref (gB g + t1))] []
  refine a_aload_n (pc := 4) 1 rfl rfl d_SE_reckoned_4 ?_
  refine a_getI (pc := 5) fg_SE_40 (sa0 ht1) rfl d_SE_reckoned_5 ?_
  refine a_callS (pc := 8) (M' := m_SA_hasLost) (As := [.int (fi s1 t1 5)]) (st := []) (mc' := 0) (ms' := 0) lk_SE_45 rfl (by decide) (by decide) rfl (Nat.le_of_ble_eq_true rfl) (Nat.le_refl 0) (Nat.le_refl 0) d_SE_reckoned_8 h ?_
  rintro _ _ s2 ⟨r3, rfl, rfl, h⟩ -
  show Ax g m_SE_reckoned 0 0 (ZI g Q) SH s2 0 0 11 [(0, .ref (gB g + t)), (1, .ref (gB g + t1))] [.int r3]
  refine a_if_eq (pc := 11) 17 (by decide) d_SE_reckoned_11 ⟨fun c0 => ?_, fun c0 => ?_⟩
  · replace h := h.1 c0
    refine a_aload_n (pc := 17) 1 rfl rfl d_SE_reckoned_17 ?_
    refine a_getI (pc := 18) fg_SE_40 (sa0 ht1) rfl d_SE_reckoned_18 ?_
    refine a_if_ne (pc := 21) 26 (by decide) d_SE_reckoned_21 ⟨fun c0 => ?_, fun c0 => ?_⟩
    · replace h := h.1 c0
      refine a_aload_n (pc := 26) 0 rfl rfl d_SE_reckoned_26 ?_
      refine a_aload_n (pc := 27) 1 rfl rfl d_SE_reckoned_27 ?_
      refine a_getI (pc := 28) fg_SE_40 (sa0 ht1) rfl d_SE_reckoned_28 ?_
      refine a_iconst (pc := 31) (-1 : Int32) (by decide) d_SE_reckoned_31 ?_
      refine a_callV (pc := 32) (M' := m_SE_note) (As := [.int (fi s2 t1 5), .int (-1 : Int32)]) (st := []) (mc' := 0) (ms' := 0) lk_SE_49 rfl (se0 ht) rfl (by decide) (by decide) rfl (Nat.le_of_ble_eq_true rfl) (Nat.le_refl 0) (Nat.le_refl 0) d_SE_reckoned_32 h ?_
      rintro _ _ s4 ⟨rfl, rfl, h⟩ -
      show Ax g m_SE_reckoned 0 0 (ZI g Q) SH s4 0 0 35 [(0, .ref (gB g + t)), (1, .ref (gB g + t1))] []
      refine a_iconst (pc := 35) (0 : Int32) (by decide) d_SE_reckoned_35 ?_
      refine a_istore_n (pc := 36) (lv' := [(2, .int (0 : Int32)), (0, .ref (gB g + t)), (1, .ref (gB g + t1))]) rfl (Nat.le_of_ble_eq_true rfl) rfl d_SE_reckoned_36 ?_
      refine a_sub (pc := 37) [1, 2, 0] rfl ?_
      exact h
    · replace h := h.2 c0
      refine a_iconst (pc := 24) (0 : Int32) (by decide) d_SE_reckoned_24 ?_
      exact b_iret (pc := 25) rfl d_SE_reckoned_25 h
  · replace h := h.2 c0
    refine a_bipush (pc := 14) (-2 : Int32) (by decide) d_SE_reckoned_14 ?_
    exact b_iret (pc := 16) rfl d_SE_reckoned_16 h
theorem sg_SE_reckoned_37 {g : Gx} {Q : Int32 → St → Prop} {σ : St} {t : Nat} {t1 : Nat} {x2 : Int32} (ht : isSE t) (ht1 : isSA t1)
    (h : ((fi σ t 4) ≤ x2 → Q (-2 : Int32) σ) ∧ (¬ (fi σ t 4) ≤ x2 → ((4000 : Int32) ≤ x2 → Q (-2 : Int32) σ) ∧ (¬ (4000 : Int32) ≤ x2 → S_SE_reckoned_54 g Q σ t t1 x2 (0 : Int32)))) : S_SE_reckoned_37 g Q σ t t1 x2 := by
  show Ax g m_SE_reckoned 0 0 (ZI g Q) SH σ 0 0 37 [(0, .ref (gB g + t)), (1, .ref (gB g + t1)), (2, .int x2)] []
  refine a_iload_n (pc := 37) 2 rfl rfl d_SE_reckoned_37 ?_
  refine a_aload_n (pc := 38) 0 rfl rfl d_SE_reckoned_38 ?_
  refine a_getI (pc := 39) fg_SE_53 (se0 ht) rfl d_SE_reckoned_39 ?_
  refine a_icmp_ge (pc := 42) 152 (by decide) d_SE_reckoned_42 ⟨fun c0 => ?_, fun c0 => ?_⟩
  · replace h := h.1 c0
    refine a_bipush (pc := 152) (-2 : Int32) (by decide) d_SE_reckoned_152 ?_
    exact b_iret (pc := 154) rfl d_SE_reckoned_154 h
  · replace h := h.2 c0
    refine a_iload_n (pc := 45) 2 rfl rfl d_SE_reckoned_45 ?_
    refine a_sipush (pc := 46) (4000 : Int32) (by decide) d_SE_reckoned_46 ?_
    refine a_icmp_ge (pc := 49) 152 (by decide) d_SE_reckoned_49 ⟨fun c0 => ?_, fun c0 => ?_⟩
    · replace h := h.1 c0
      refine a_bipush (pc := 152) (-2 : Int32) (by decide) d_SE_reckoned_152 ?_
      exact b_iret (pc := 154) rfl d_SE_reckoned_154 h
    · replace h := h.2 c0
      refine a_iconst (pc := 52) (0 : Int32) (by decide) d_SE_reckoned_52 ?_
      refine a_istore_n (pc := 53) (lv' := [(3, .int (0 : Int32)), (0, .ref (gB g + t)), (1, .ref (gB g + t1)), (2, .int x2)]) rfl (Nat.le_of_ble_eq_true rfl) rfl d_SE_reckoned_53 ?_
      refine a_sub (pc := 54) [1, 2, 3, 0] rfl ?_
      exact h
theorem sg_SE_reckoned_54 {g : Gx} {Q : Int32 → St → Prop} {σ : St} {t : Nat} {t1 : Nat} {x2 : Int32} {x3 : Int32} (ht : isSE t) (ht1 : isSA t1)
    (h : ((4 : Int32) ≤ x3 → ∀ u1 : Int32, u1 = x2 + (1 : Int32) → S_SE_reckoned_37 g Q σ t t1 u1) ∧ (¬ (4 : Int32) ≤ x3 → vp_in x2 4000 ∧ (K_RO_rolled g t1 (ai σ (t + 1) (x2).toNatClampNeg) x3 σ (fun (r3 : Int32) (s2 : St) => (¬ r3 = 0 → K_SA_hasLost g r3 s2 (fun (r5 : Int32) (s4 : St) => (¬ r5 = 0 → ∀ u6 : Int32, u6 = x3 + (1 : Int32) → S_SE_reckoned_54 g Q s4 t t1 x2 u6) ∧ (r5 = 0 → K_SE_isSeen g t r3 s4 (fun (r8 : Int32) (s7 : St) => (¬ r8 = 0 → ∀ u9 : Int32, u9 = x3 + (1 : Int32) → S_SE_reckoned_54 g Q s7 t t1 x2 u9) ∧ (r8 = 0 → (¬ (fi s7 t 4) = (4000 : Int32) → K_SE_note g t r3 (((4 : Int32) * x2) + x3) s7 (fun s10 : St => ∀ u11 : Int32, u11 = x3 + (1 : Int32) → S_SE_reckoned_54 g Q s10 t t1 x2 u11)) ∧ ((fi s7 t 4) = (4000 : Int32) → Q (-3 : Int32) s7)))))) ∧ (r3 = 0 → ∀ s12 : St, s12 = sfi s2 t 5 (((4 : Int32) * x2) + x3) → K_SE_tipsBack g t (fi s12 t 5) s12 (fun (r14 : Int32) (s13 : St) => Q r14 s13)))))) : S_SE_reckoned_54 g Q σ t t1 x2 x3 := by
  show Ax g m_SE_reckoned 0 0 (ZI g Q) SH σ 0 0 54 [(0, .ref (gB g + t)), (1, .ref (gB g + t1)), (2, .int x2), (3, .int x3)] []
  refine a_iload_n (pc := 54) 3 rfl rfl d_SE_reckoned_54 ?_
  refine a_iconst (pc := 55) (4 : Int32) (by decide) d_SE_reckoned_55 ?_
  refine a_icmp_ge (pc := 56) 146 (by decide) d_SE_reckoned_56 ⟨fun c0 => ?_, fun c0 => ?_⟩
  · replace h := h.1 c0
    obtain ⟨u1, hu1⟩ : ∃ y : Int32, y = x2 + (1 : Int32) := ⟨_, rfl⟩
    replace h := h u1 hu1
    refine a_iinc (pc := 146) (v := u1) (lv' := [(2, .int u1), (0, .ref (gB g + t)), (1, .ref (gB g + t1)), (3, .int x3)]) 2 rfl (by rw [hu1]; rfl) (Nat.le_of_ble_eq_true rfl) rfl d_SE_reckoned_146 ?_
    refine a_goto (pc := 149) 37 (by decide) d_SE_reckoned_149 ?_
    refine a_sub (pc := 37) [1, 2, 0] rfl ?_
    exact h
  · replace h := h.2 c0
    refine a_aload_n (pc := 59) 0 rfl rfl d_SE_reckoned_59 ?_
    refine a_getR (pc := 60) fg_SE_26 (se0 ht) rfl d_SE_reckoned_60 ?_
    refine a_aload_n (pc := 63) 1 rfl rfl d_SE_reckoned_63 ?_
    refine a_aload_n (pc := 64) 0 rfl rfl d_SE_reckoned_64 ?_
    refine a_getR (pc := 65) fg_SE_11 (se0 ht) rfl d_SE_reckoned_65 ?_
    refine a_iload_n (pc := 68) 2 rfl rfl d_SE_reckoned_68 ?_
    obtain ⟨hx, h⟩ := h
    refine a_iald (pc := 69) (se1 ht) hx d_SE_reckoned_69 ?_
    refine a_iload_n (pc := 70) 3 rfl rfl d_SE_reckoned_70 ?_
    refine a_callV (pc := 71) (M' := m_RO_rolled) (As := [.ref (gB g + t1), .int (ai σ (t + 1) (x2).toNatClampNeg), .int x3]) (st := []) (mc' := 0) (ms' := 0) lk_SE_56 rfl sx_17 rfl (by decide) (by decide) rfl (Nat.le_of_ble_eq_true rfl) (Nat.le_refl 0) (Nat.le_refl 0) d_SE_reckoned_71 h ?_
    rintro _ _ s2 ⟨r3, rfl, rfl, h⟩ -
    show Ax g m_SE_reckoned 0 0 (ZI g Q) SH s2 0 0 74 [(0, .ref (gB g + t)), (1, .ref (gB g + t1)), (2, .int x2), (3, .int x3)] [.int r3]
    refine a_istore (pc := 74) (lv' := [(4, .int r3), (0, .ref (gB g + t)), (1, .ref (gB g + t1)), (2, .int x2), (3, .int x3)]) (Nat.le_of_ble_eq_true rfl) rfl d_SE_reckoned_74 ?_
    refine a_iload (pc := 76) 0 rfl d_SE_reckoned_76 ?_
    refine a_if_ne (pc := 78) 99 (by decide) d_SE_reckoned_78 ⟨fun c0 => ?_, fun c0 => ?_⟩
    · replace h := h.1 c0
      refine a_iload (pc := 99) 0 rfl d_SE_reckoned_99 ?_
      refine a_callS (pc := 101) (M' := m_SA_hasLost) (As := [.int r3]) (st := []) (mc' := 0) (ms' := 0) lk_SE_45 rfl (by decide) (by decide) rfl (Nat.le_of_ble_eq_true rfl) (Nat.le_refl 0) (Nat.le_refl 0) d_SE_reckoned_101 h ?_
      rintro _ _ s4 ⟨r5, rfl, rfl, h⟩ -
      show Ax g m_SE_reckoned 0 0 (ZI g Q) SH s4 0 0 104 [(4, .int r3), (0, .ref (gB g + t)), (1, .ref (gB g + t1)), (2, .int x2), (3, .int x3)] [.int r5]
      refine a_if_ne (pc := 104) 140 (by decide) d_SE_reckoned_104 ⟨fun c0 => ?_, fun c0 => ?_⟩
      · replace h := h.1 c0
        obtain ⟨u6, hu6⟩ : ∃ y : Int32, y = x3 + (1 : Int32) := ⟨_, rfl⟩
        replace h := h u6 hu6
        refine a_iinc (pc := 140) (v := u6) (lv' := [(3, .int u6), (4, .int r3), (0, .ref (gB g + t)), (1, .ref (gB g + t1)), (2, .int x2)]) 4 rfl (by rw [hu6]; rfl) (Nat.le_of_ble_eq_true rfl) rfl d_SE_reckoned_140 ?_
        refine a_goto (pc := 143) 54 (by decide) d_SE_reckoned_143 ?_
        refine a_sub (pc := 54) [2, 3, 4, 0] rfl ?_
        exact h
      · replace h := h.2 c0
        refine a_aload_n (pc := 107) 1 rfl rfl d_SE_reckoned_107 ?_
        refine a_iload (pc := 108) 0 rfl d_SE_reckoned_108 ?_
        refine a_callV (pc := 110) (M' := m_SE_isSeen) (As := [.int r3]) (st := []) (mc' := 0) (ms' := 0) lk_SE_69 rfl (se0 ht) rfl (by decide) (by decide) rfl (Nat.le_of_ble_eq_true rfl) (Nat.le_refl 0) (Nat.le_refl 0) d_SE_reckoned_110 h ?_
        rintro _ _ s7 ⟨r8, rfl, rfl, h⟩ -
        show Ax g m_SE_reckoned 0 0 (ZI g Q) SH s7 0 0 113 [(4, .int r3), (0, .ref (gB g + t)), (1, .ref (gB g + t1)), (2, .int x2), (3, .int x3)] [.int r8]
        refine a_if_ne (pc := 113) 140 (by decide) d_SE_reckoned_113 ⟨fun c0 => ?_, fun c0 => ?_⟩
        · replace h := h.1 c0
          obtain ⟨u9, hu9⟩ : ∃ y : Int32, y = x3 + (1 : Int32) := ⟨_, rfl⟩
          replace h := h u9 hu9
          refine a_iinc (pc := 140) (v := u9) (lv' := [(3, .int u9), (4, .int r3), (0, .ref (gB g + t)), (1, .ref (gB g + t1)), (2, .int x2)]) 4 rfl (by rw [hu9]; rfl) (Nat.le_of_ble_eq_true rfl) rfl d_SE_reckoned_140 ?_
          refine a_goto (pc := 143) 54 (by decide) d_SE_reckoned_143 ?_
          refine a_sub (pc := 54) [2, 3, 4, 0] rfl ?_
          exact h
        · replace h := h.2 c0
          refine a_aload_n (pc := 116) 1 rfl rfl d_SE_reckoned_116 ?_
          refine a_getI (pc := 117) fg_SE_53 (se0 ht) rfl d_SE_reckoned_117 ?_
          refine a_sipush (pc := 120) (4000 : Int32) (by decide) d_SE_reckoned_120 ?_
          refine a_icmp_ne (pc := 123) 129 (by decide) d_SE_reckoned_123 ⟨fun c0 => ?_, fun c0 => ?_⟩
          · replace h := h.1 c0
            refine a_aload_n (pc := 129) 1 rfl rfl d_SE_reckoned_129 ?_
            refine a_iload (pc := 130) 0 rfl d_SE_reckoned_130 ?_
            refine a_iconst (pc := 132) (4 : Int32) (by decide) d_SE_reckoned_132 ?_
            refine a_iload_n (pc := 133) 3 rfl rfl d_SE_reckoned_133 ?_
            refine a_imul (pc := 134) d_SE_reckoned_134 ?_
            refine a_iload_n (pc := 135) 4 rfl rfl d_SE_reckoned_135 ?_
            refine a_iadd (pc := 136) d_SE_reckoned_136 ?_
            refine a_callV (pc := 137) (M' := m_SE_note) (As := [.int r3, .int (((4 : Int32) * x2) + x3)]) (st := []) (mc' := 0) (ms' := 0) lk_SE_49 rfl (se0 ht) rfl (by decide) (by decide) rfl (Nat.le_of_ble_eq_true rfl) (Nat.le_refl 0) (Nat.le_refl 0) d_SE_reckoned_137 h ?_
            rintro _ _ s10 ⟨rfl, rfl, h⟩ -
            show Ax g m_SE_reckoned 0 0 (ZI g Q) SH s10 0 0 140 [(4, .int r3), (0, .ref (gB g + t)), (1, .ref (gB g + t1)), (2, .int x2), (3, .int x3)] []
            obtain ⟨u11, hu11⟩ : ∃ y : Int32, y = x3 + (1 : Int32) := ⟨_, rfl⟩
            replace h := h u11 hu11
            refine a_iinc (pc := 140) (v := u11) (lv' := [(3, .int u11), (4, .int r3), (0, .ref (gB g + t)), (1, .ref (gB g + t1)), (2, .int x2)]) 4 rfl (by rw [hu11]; rfl) (Nat.le_of_ble_eq_true rfl) rfl d_SE_reckoned_140 ?_
            refine a_goto (pc := 143) 54 (by decide) d_SE_reckoned_143 ?_
            refine a_sub (pc := 54) [2, 3, 4, 0] rfl ?_
            exact h
          · replace h := h.2 c0
            refine a_bipush (pc := 126) (-3 : Int32) (by decide) d_SE_reckoned_126 ?_
            exact b_iret (pc := 128) rfl d_SE_reckoned_128 h
    · replace h := h.2 c0
      refine a_aload_n (pc := 81) 1 rfl rfl d_SE_reckoned_81 ?_
      refine a_iconst (pc := 82) (4 : Int32) (by decide) d_SE_reckoned_82 ?_
      refine a_iload_n (pc := 83) 3 rfl rfl d_SE_reckoned_83 ?_
      refine a_imul (pc := 84) d_SE_reckoned_84 ?_
      refine a_iload_n (pc := 85) 4 rfl rfl d_SE_reckoned_85 ?_
      refine a_iadd (pc := 86) d_SE_reckoned_86 ?_
      refine a_putI (pc := 87) fp_SE_62 (se0 ht) rfl d_SE_reckoned_87 ?_
      refine a_nms (fun s12 hs12 => ?_)
      replace h := h s12 hs12
      refine a_aload_n (pc := 90) 1 rfl rfl d_SE_reckoned_90 ?_
      refine a_aload_n (pc := 91) 1 rfl rfl d_SE_reckoned_91 ?_
      refine a_getI (pc := 92) fg_SE_62 (se0 ht) rfl d_SE_reckoned_92 ?_
      refine a_callV (pc := 95) (M' := m_SE_tipsBack) (As := [.int (fi s12 t 5)]) (st := []) (mc' := 0) (ms' := 0) lk_SE_65 rfl (se0 ht) rfl (by decide) (by decide) rfl (Nat.le_of_ble_eq_true rfl) (Nat.le_refl 0) (Nat.le_refl 0) d_SE_reckoned_95 h ?_
      rintro _ _ s13 ⟨r14, rfl, rfl, h⟩ -
      show Ax g m_SE_reckoned 0 0 (ZI g Q) SH s13 0 0 98 [(4, .int r3), (0, .ref (gB g + t)), (1, .ref (gB g + t1)), (2, .int x2), (3, .int x3)] [.int r14]
      exact b_iret (pc := 98) rfl d_SE_reckoned_98 h
theorem ko_SE_reckoned {g : Gx}  {t : Nat} {t1 : Nat} {σ : St} {Q : Int32 → St → Prop} (h : S_SE_reckoned_0 g Q σ t t1) : K_SE_reckoned g t t1 σ Q := KI.of (show plainName "BallBox$Search" = true by decide) (Nat.le_of_ble_eq_true rfl) h
theorem d_SE_wayOfPath_0 : decode c_SE_wayOfPath 0 = .ok (.aload_n 0, 1) := by decide +kernel
theorem d_SE_wayOfPath_1 : decode c_SE_wayOfPath 1 = .ok (.getfield 34, 3) := by decide +kernel
theorem d_SE_wayOfPath_4 : decode c_SE_wayOfPath 4 = .ok (.ifCond .ge 8, 3) := by decide +kernel
theorem d_SE_wayOfPath_7 : decode c_SE_wayOfPath 7 = .ok (.aload_n 0, 1) := by decide +kernel
theorem d_SE_wayOfPath_8 : decode c_SE_wayOfPath 8 = .ok (.getfield 34, 3) := by decide +kernel
theorem d_SE_wayOfPath_11 : decode c_SE_wayOfPath 11 = .ok (.ireturn, 1) := by decide +kernel
theorem d_SE_wayOfPath_12 : decode c_SE_wayOfPath 12 = .ok (.iload_n 1, 1) := by decide +kernel
theorem d_SE_wayOfPath_13 : decode c_SE_wayOfPath 13 = .ok (.aload_n 0, 1) := by decide +kernel
theorem d_SE_wayOfPath_14 : decode c_SE_wayOfPath 14 = .ok (.getfield 34, 3) := by decide +kernel
theorem d_SE_wayOfPath_17 : decode c_SE_wayOfPath 17 = .ok (.if_icmp .lt 6, 3) := by decide +kernel
theorem d_SE_wayOfPath_20 : decode c_SE_wayOfPath 20 = .ok (.bipush (-2), 2) := by decide +kernel
theorem d_SE_wayOfPath_22 : decode c_SE_wayOfPath 22 = .ok (.ireturn, 1) := by decide +kernel
theorem d_SE_wayOfPath_23 : decode c_SE_wayOfPath 23 = .ok (.aload_n 0, 1) := by decide +kernel
theorem d_SE_wayOfPath_24 : decode c_SE_wayOfPath 24 = .ok (.getfield 62, 3) := by decide +kernel
theorem d_SE_wayOfPath_27 : decode c_SE_wayOfPath 27 = .ok (.istore_n 2, 1) := by decide +kernel
theorem d_SE_wayOfPath_28 : decode c_SE_wayOfPath 28 = .ok (.aload_n 0, 1) := by decide +kernel
theorem d_SE_wayOfPath_29 : decode c_SE_wayOfPath 29 = .ok (.getfield 34, 3) := by decide +kernel
theorem d_SE_wayOfPath_32 : decode c_SE_wayOfPath 32 = .ok (.iconst 1, 1) := by decide +kernel
theorem d_SE_wayOfPath_33 : decode c_SE_wayOfPath 33 = .ok (.isub, 1) := by decide +kernel
theorem d_SE_wayOfPath_34 : decode c_SE_wayOfPath 34 = .ok (.istore_n 3, 1) := by decide +kernel
theorem d_SE_wayOfPath_35 : decode c_SE_wayOfPath 35 = .ok (.iload_n 3, 1) := by decide +kernel
theorem d_SE_wayOfPath_36 : decode c_SE_wayOfPath 36 = .ok (.iload_n 1, 1) := by decide +kernel
theorem d_SE_wayOfPath_37 : decode c_SE_wayOfPath 37 = .ok (.if_icmp .le 22, 3) := by decide +kernel
theorem d_SE_wayOfPath_40 : decode c_SE_wayOfPath 40 = .ok (.iload_n 2, 1) := by decide +kernel
theorem d_SE_wayOfPath_41 : decode c_SE_wayOfPath 41 = .ok (.ifCond .lt 18, 3) := by decide +kernel
theorem d_SE_wayOfPath_44 : decode c_SE_wayOfPath 44 = .ok (.aload_n 0, 1) := by decide +kernel
theorem d_SE_wayOfPath_45 : decode c_SE_wayOfPath 45 = .ok (.getfield 15, 3) := by decide +kernel
theorem d_SE_wayOfPath_48 : decode c_SE_wayOfPath 48 = .ok (.iload_n 2, 1) := by decide +kernel
theorem d_SE_wayOfPath_49 : decode c_SE_wayOfPath 49 = .ok (.iconst 2, 1) := by decide +kernel
theorem d_SE_wayOfPath_50 : decode c_SE_wayOfPath 50 = .ok (.ishr, 1) := by decide +kernel
theorem d_SE_wayOfPath_51 : decode c_SE_wayOfPath 51 = .ok (.iaload, 1) := by decide +kernel
theorem d_SE_wayOfPath_52 : decode c_SE_wayOfPath 52 = .ok (.istore_n 2, 1) := by decide +kernel
theorem d_SE_wayOfPath_53 : decode c_SE_wayOfPath 53 = .ok (.iinc 3 (-1), 3) := by decide +kernel
theorem d_SE_wayOfPath_56 : decode c_SE_wayOfPath 56 = .ok (.goto (-21), 3) := by decide +kernel
theorem d_SE_wayOfPath_59 : decode c_SE_wayOfPath 59 = .ok (.iload_n 2, 1) := by decide +kernel
theorem d_SE_wayOfPath_60 : decode c_SE_wayOfPath 60 = .ok (.iconst 3, 1) := by decide +kernel
theorem d_SE_wayOfPath_61 : decode c_SE_wayOfPath 61 = .ok (.iand, 1) := by decide +kernel
theorem d_SE_wayOfPath_62 : decode c_SE_wayOfPath 62 = .ok (.ireturn, 1) := by decide +kernel
def S_SE_wayOfPath_0 (g : Gx) (Q : Int32 → St → Prop) (σ : St) (t : Nat) (x1 : Int32) : Prop := Ax g m_SE_wayOfPath 0 0 (ZI g Q) SH σ 0 0 0 [(0, .ref (gB g + t)), (1, .int x1)] []
def S_SE_wayOfPath_35 (g : Gx) (Q : Int32 → St → Prop) (σ : St) (t : Nat) (x1 : Int32) (x2 : Int32) (x3 : Int32) : Prop := Ax g m_SE_wayOfPath 0 0 (ZI g Q) SH σ 0 0 35 [(0, .ref (gB g + t)), (1, .int x1), (2, .int x2), (3, .int x3)] []
theorem sg_SE_wayOfPath_0 {g : Gx} {Q : Int32 → St → Prop} {σ : St} {t : Nat} {x1 : Int32} (ht : isSE t)
    (h : (0 ≤ (fi σ t 7) → (x1 < (fi σ t 7) → ∀ u1 : Int32, u1 = (fi σ t 5) → ∀ u2 : Int32, u2 = ((fi σ t 7) - (1 : Int32)) → S_SE_wayOfPath_35 g Q σ t x1 u1 u2) ∧ (¬ x1 < (fi σ t 7) → Q (-2 : Int32) σ)) ∧ (¬ 0 ≤ (fi σ t 7) → Q (fi σ t 7) σ)) : S_SE_wayOfPath_0 g Q σ t x1 := by
  show Ax g m_SE_wayOfPath 0 0 (ZI g Q) SH σ 0 0 0 [(0, .ref (gB g + t)), (1, .int x1)] []
  refine a_aload_n (pc := 0) 0 rfl rfl d_SE_wayOfPath_0 ?_
  refine a_getI (pc := 1) fg_SE_34 (se0 ht) rfl d_SE_wayOfPath_1 ?_
  refine a_if_ge (pc := 4) 12 (by decide) d_SE_wayOfPath_4 ⟨fun c0 => ?_, fun c0 => ?_⟩
  · replace h := h.1 c0
    refine a_iload_n (pc := 12) 1 rfl rfl d_SE_wayOfPath_12 ?_
    refine a_aload_n (pc := 13) 0 rfl rfl d_SE_wayOfPath_13 ?_
    refine a_getI (pc := 14) fg_SE_34 (se0 ht) rfl d_SE_wayOfPath_14 ?_
    refine a_icmp_lt (pc := 17) 23 (by decide) d_SE_wayOfPath_17 ⟨fun c0 => ?_, fun c0 => ?_⟩
    · replace h := h.1 c0
      refine a_aload_n (pc := 23) 0 rfl rfl d_SE_wayOfPath_23 ?_
      refine a_getI (pc := 24) fg_SE_62 (se0 ht) rfl d_SE_wayOfPath_24 ?_
      refine a_nmi (pc := 27) (fun u1 hu1 => ?_)
      replace h := h u1 hu1
      refine a_istore_n (pc := 27) (lv' := [(2, .int u1), (0, .ref (gB g + t)), (1, .int x1)]) rfl (Nat.le_of_ble_eq_true rfl) rfl d_SE_wayOfPath_27 ?_
      refine a_aload_n (pc := 28) 1 rfl rfl d_SE_wayOfPath_28 ?_
      refine a_getI (pc := 29) fg_SE_34 (se0 ht) rfl d_SE_wayOfPath_29 ?_
      refine a_iconst (pc := 32) (1 : Int32) (by decide) d_SE_wayOfPath_32 ?_
      refine a_isub (pc := 33) d_SE_wayOfPath_33 ?_
      refine a_nmi (pc := 34) (fun u2 hu2 => ?_)
      replace h := h u2 hu2
      refine a_istore_n (pc := 34) (lv' := [(3, .int u2), (2, .int u1), (0, .ref (gB g + t)), (1, .int x1)]) rfl (Nat.le_of_ble_eq_true rfl) rfl d_SE_wayOfPath_34 ?_
      refine a_sub (pc := 35) [2, 3, 1, 0] rfl ?_
      exact h
    · replace h := h.2 c0
      refine a_bipush (pc := 20) (-2 : Int32) (by decide) d_SE_wayOfPath_20 ?_
      exact b_iret (pc := 22) rfl d_SE_wayOfPath_22 h
  · replace h := h.2 c0
    refine a_aload_n (pc := 7) 0 rfl rfl d_SE_wayOfPath_7 ?_
    refine a_getI (pc := 8) fg_SE_34 (se0 ht) rfl d_SE_wayOfPath_8 ?_
    exact b_iret (pc := 11) rfl d_SE_wayOfPath_11 h
theorem sg_SE_wayOfPath_35 {g : Gx} {Q : Int32 → St → Prop} {σ : St} {t : Nat} {x1 : Int32} {x2 : Int32} {x3 : Int32} (ht : isSE t)
    (h : (x3 ≤ x1 → Q (x2 &&& (3 : Int32)) σ) ∧ (¬ x3 ≤ x1 → (x2 < 0 → Q (x2 &&& (3 : Int32)) σ) ∧ (¬ x2 < 0 → vp_in (x2 >>> ((2 : Int32) &&& 31)) 4000 ∧ (∀ u1 : Int32, u1 = (ai σ (t + 2) ((x2 >>> ((2 : Int32) &&& 31))).toNatClampNeg) → ∀ u2 : Int32, u2 = x3 + (-1 : Int32) → S_SE_wayOfPath_35 g Q σ t x1 u1 u2)))) : S_SE_wayOfPath_35 g Q σ t x1 x2 x3 := by
  show Ax g m_SE_wayOfPath 0 0 (ZI g Q) SH σ 0 0 35 [(0, .ref (gB g + t)), (1, .int x1), (2, .int x2), (3, .int x3)] []
  refine a_iload_n (pc := 35) 3 rfl rfl d_SE_wayOfPath_35 ?_
  refine a_iload_n (pc := 36) 1 rfl rfl d_SE_wayOfPath_36 ?_
  refine a_icmp_le (pc := 37) 59 (by decide) d_SE_wayOfPath_37 ⟨fun c0 => ?_, fun c0 => ?_⟩
  · replace h := h.1 c0
    refine a_iload_n (pc := 59) 2 rfl rfl d_SE_wayOfPath_59 ?_
    refine a_iconst (pc := 60) (3 : Int32) (by decide) d_SE_wayOfPath_60 ?_
    refine a_iand (pc := 61) d_SE_wayOfPath_61 ?_
    exact b_iret (pc := 62) rfl d_SE_wayOfPath_62 h
  · replace h := h.2 c0
    refine a_iload_n (pc := 40) 2 rfl rfl d_SE_wayOfPath_40 ?_
    refine a_if_lt (pc := 41) 59 (by decide) d_SE_wayOfPath_41 ⟨fun c0 => ?_, fun c0 => ?_⟩
    · replace h := h.1 c0
      refine a_iload_n (pc := 59) 2 rfl rfl d_SE_wayOfPath_59 ?_
      refine a_iconst (pc := 60) (3 : Int32) (by decide) d_SE_wayOfPath_60 ?_
      refine a_iand (pc := 61) d_SE_wayOfPath_61 ?_
      exact b_iret (pc := 62) rfl d_SE_wayOfPath_62 h
    · replace h := h.2 c0
      refine a_aload_n (pc := 44) 0 rfl rfl d_SE_wayOfPath_44 ?_
      refine a_getR (pc := 45) fg_SE_15 (se0 ht) rfl d_SE_wayOfPath_45 ?_
      refine a_iload_n (pc := 48) 2 rfl rfl d_SE_wayOfPath_48 ?_
      refine a_iconst (pc := 49) (2 : Int32) (by decide) d_SE_wayOfPath_49 ?_
      refine a_ishr (pc := 50) d_SE_wayOfPath_50 ?_
      obtain ⟨hx, h⟩ := h
      refine a_iald (pc := 51) (se2 ht) hx d_SE_wayOfPath_51 ?_
      refine a_nmi (pc := 52) (fun u1 hu1 => ?_)
      replace h := h u1 hu1
      refine a_istore_n (pc := 52) (lv' := [(2, .int u1), (0, .ref (gB g + t)), (1, .int x1), (3, .int x3)]) rfl (Nat.le_of_ble_eq_true rfl) rfl d_SE_wayOfPath_52 ?_
      obtain ⟨u2, hu2⟩ : ∃ y : Int32, y = x3 + (-1 : Int32) := ⟨_, rfl⟩
      replace h := h u2 hu2
      refine a_iinc (pc := 53) (v := u2) (lv' := [(3, .int u2), (2, .int u1), (0, .ref (gB g + t)), (1, .int x1)]) 3 rfl (by rw [hu2]; rfl) (Nat.le_of_ble_eq_true rfl) rfl d_SE_wayOfPath_53 ?_
      refine a_goto (pc := 56) 35 (by decide) d_SE_wayOfPath_56 ?_
      refine a_sub (pc := 35) [2, 3, 1, 0] rfl ?_
      exact h
theorem ko_SE_wayOfPath {g : Gx}  {t : Nat} {x1 : Int32} {σ : St} {Q : Int32 → St → Prop} (h : S_SE_wayOfPath_0 g Q σ t x1) : K_SE_wayOfPath g t x1 σ Q := KI.of (show plainName "BallBox$Search" = true by decide) (Nat.le_of_ble_eq_true rfl) h
theorem d_SE_tipsBack_0 : decode c_SE_tipsBack 0 = .ok (.iconst 0, 1) := by decide +kernel
theorem d_SE_tipsBack_1 : decode c_SE_tipsBack 1 = .ok (.istore_n 2, 1) := by decide +kernel
theorem d_SE_tipsBack_2 : decode c_SE_tipsBack 2 = .ok (.iload_n 1, 1) := by decide +kernel
theorem d_SE_tipsBack_3 : decode c_SE_tipsBack 3 = .ok (.istore_n 3, 1) := by decide +kernel
theorem d_SE_tipsBack_4 : decode c_SE_tipsBack 4 = .ok (.iload_n 3, 1) := by decide +kernel
theorem d_SE_tipsBack_5 : decode c_SE_tipsBack 5 = .ok (.ifCond .lt 25, 3) := by decide +kernel
theorem d_SE_tipsBack_8 : decode c_SE_tipsBack 8 = .ok (.iload_n 2, 1) := by decide +kernel
theorem d_SE_tipsBack_9 : decode c_SE_tipsBack 9 = .ok (.sipush 4000, 3) := by decide +kernel
theorem d_SE_tipsBack_12 : decode c_SE_tipsBack 12 = .ok (.if_icmp .gt 18, 3) := by decide +kernel
theorem d_SE_tipsBack_15 : decode c_SE_tipsBack 15 = .ok (.iinc 2 1, 3) := by decide +kernel
theorem d_SE_tipsBack_18 : decode c_SE_tipsBack 18 = .ok (.aload_n 0, 1) := by decide +kernel
theorem d_SE_tipsBack_19 : decode c_SE_tipsBack 19 = .ok (.getfield 15, 3) := by decide +kernel
theorem d_SE_tipsBack_22 : decode c_SE_tipsBack 22 = .ok (.iload_n 3, 1) := by decide +kernel
theorem d_SE_tipsBack_23 : decode c_SE_tipsBack 23 = .ok (.iconst 2, 1) := by decide +kernel
theorem d_SE_tipsBack_24 : decode c_SE_tipsBack 24 = .ok (.ishr, 1) := by decide +kernel
theorem d_SE_tipsBack_25 : decode c_SE_tipsBack 25 = .ok (.iaload, 1) := by decide +kernel
theorem d_SE_tipsBack_26 : decode c_SE_tipsBack 26 = .ok (.istore_n 3, 1) := by decide +kernel
theorem d_SE_tipsBack_27 : decode c_SE_tipsBack 27 = .ok (.goto (-23), 3) := by decide +kernel
theorem d_SE_tipsBack_30 : decode c_SE_tipsBack 30 = .ok (.iload_n 2, 1) := by decide +kernel
theorem d_SE_tipsBack_31 : decode c_SE_tipsBack 31 = .ok (.ireturn, 1) := by decide +kernel
def S_SE_tipsBack_0 (g : Gx) (Q : Int32 → St → Prop) (σ : St) (t : Nat) (x1 : Int32) : Prop := Ax g m_SE_tipsBack 0 0 (ZI g Q) SH σ 0 0 0 [(0, .ref (gB g + t)), (1, .int x1)] []
def S_SE_tipsBack_4 (g : Gx) (Q : Int32 → St → Prop) (σ : St) (t : Nat) (x2 : Int32) (x3 : Int32) : Prop := Ax g m_SE_tipsBack 0 0 (ZI g Q) SH σ 0 0 4 [(0, .ref (gB g + t)), (2, .int x2), (3, .int x3)] []
theorem sg_SE_tipsBack_0 {g : Gx} {Q : Int32 → St → Prop} {σ : St} {t : Nat} {x1 : Int32} (ht : isSE t)
    (h : S_SE_tipsBack_4 g Q σ t (0 : Int32) x1) : S_SE_tipsBack_0 g Q σ t x1 := by
  show Ax g m_SE_tipsBack 0 0 (ZI g Q) SH σ 0 0 0 [(0, .ref (gB g + t)), (1, .int x1)] []
  refine a_iconst (pc := 0) (0 : Int32) (by decide) d_SE_tipsBack_0 ?_
  refine a_istore_n (pc := 1) (lv' := [(2, .int (0 : Int32)), (0, .ref (gB g + t)), (1, .int x1)]) rfl (Nat.le_of_ble_eq_true rfl) rfl d_SE_tipsBack_1 ?_
  refine a_iload_n (pc := 2) 2 rfl rfl d_SE_tipsBack_2 ?_
  refine a_istore_n (pc := 3) (lv' := [(3, .int x1), (2, .int (0 : Int32)), (0, .ref (gB g + t)), (1, .int x1)]) rfl (Nat.le_of_ble_eq_true rfl) rfl d_SE_tipsBack_3 ?_
  refine a_sub (pc := 4) [2, 1, 0] rfl ?_
  exact h
theorem sg_SE_tipsBack_4 {g : Gx} {Q : Int32 → St → Prop} {σ : St} {t : Nat} {x2 : Int32} {x3 : Int32} (ht : isSE t)
    (h : (x3 < 0 → Q x2 σ) ∧ (¬ x3 < 0 → ((4000 : Int32) < x2 → Q x2 σ) ∧ (¬ (4000 : Int32) < x2 → ∀ u1 : Int32, u1 = x2 + (1 : Int32) → vp_in (x3 >>> ((2 : Int32) &&& 31)) 4000 ∧ (∀ u2 : Int32, u2 = (ai σ (t + 2) ((x3 >>> ((2 : Int32) &&& 31))).toNatClampNeg) → S_SE_tipsBack_4 g Q σ t u1 u2)))) : S_SE_tipsBack_4 g Q σ t x2 x3 := by
  show Ax g m_SE_tipsBack 0 0 (ZI g Q) SH σ 0 0 4 [(0, .ref (gB g + t)), (2, .int x2), (3, .int x3)] []
  refine a_iload_n (pc := 4) 2 rfl rfl d_SE_tipsBack_4 ?_
  refine a_if_lt (pc := 5) 30 (by decide) d_SE_tipsBack_5 ⟨fun c0 => ?_, fun c0 => ?_⟩
  · replace h := h.1 c0
    refine a_iload_n (pc := 30) 1 rfl rfl d_SE_tipsBack_30 ?_
    exact b_iret (pc := 31) rfl d_SE_tipsBack_31 h
  · replace h := h.2 c0
    refine a_iload_n (pc := 8) 1 rfl rfl d_SE_tipsBack_8 ?_
    refine a_sipush (pc := 9) (4000 : Int32) (by decide) d_SE_tipsBack_9 ?_
    refine a_icmp_gt (pc := 12) 30 (by decide) d_SE_tipsBack_12 ⟨fun c0 => ?_, fun c0 => ?_⟩
    · replace h := h.1 c0
      refine a_iload_n (pc := 30) 1 rfl rfl d_SE_tipsBack_30 ?_
      exact b_iret (pc := 31) rfl d_SE_tipsBack_31 h
    · replace h := h.2 c0
      obtain ⟨u1, hu1⟩ : ∃ y : Int32, y = x2 + (1 : Int32) := ⟨_, rfl⟩
      replace h := h u1 hu1
      refine a_iinc (pc := 15) (v := u1) (lv' := [(2, .int u1), (0, .ref (gB g + t)), (3, .int x3)]) 1 rfl (by rw [hu1]; rfl) (Nat.le_of_ble_eq_true rfl) rfl d_SE_tipsBack_15 ?_
      refine a_aload_n (pc := 18) 1 rfl rfl d_SE_tipsBack_18 ?_
      refine a_getR (pc := 19) fg_SE_15 (se0 ht) rfl d_SE_tipsBack_19 ?_
      refine a_iload_n (pc := 22) 2 rfl rfl d_SE_tipsBack_22 ?_
      refine a_iconst (pc := 23) (2 : Int32) (by decide) d_SE_tipsBack_23 ?_
      refine a_ishr (pc := 24) d_SE_tipsBack_24 ?_
      obtain ⟨hx, h⟩ := h
      refine a_iald (pc := 25) (se2 ht) hx d_SE_tipsBack_25 ?_
      refine a_nmi (pc := 26) (fun u2 hu2 => ?_)
      replace h := h u2 hu2
      refine a_istore_n (pc := 26) (lv' := [(3, .int u2), (2, .int u1), (0, .ref (gB g + t))]) rfl (Nat.le_of_ble_eq_true rfl) rfl d_SE_tipsBack_26 ?_
      refine a_goto (pc := 27) 4 (by decide) d_SE_tipsBack_27 ?_
      refine a_sub (pc := 4) [2, 1, 0] rfl ?_
      exact h
theorem ko_SE_tipsBack {g : Gx}  {t : Nat} {x1 : Int32} {σ : St} {Q : Int32 → St → Prop} (h : S_SE_tipsBack_0 g Q σ t x1) : K_SE_tipsBack g t x1 σ Q := KI.of (show plainName "BallBox$Search" = true by decide) (Nat.le_of_ble_eq_true rfl) h
theorem d_SE_forget_0 : decode c_SE_forget 0 = .ok (.iconst 0, 1) := by decide +kernel
theorem d_SE_forget_1 : decode c_SE_forget 1 = .ok (.istore_n 1, 1) := by decide +kernel
theorem d_SE_forget_2 : decode c_SE_forget 2 = .ok (.iload_n 1, 1) := by decide +kernel
theorem d_SE_forget_3 : decode c_SE_forget 3 = .ok (.aload_n 0, 1) := by decide +kernel
theorem d_SE_forget_4 : decode c_SE_forget 4 = .ok (.getfield 53, 3) := by decide +kernel
theorem d_SE_forget_7 : decode c_SE_forget 7 = .ok (.if_icmp .ge 28, 3) := by decide +kernel
theorem d_SE_forget_10 : decode c_SE_forget 10 = .ok (.aload_n 0, 1) := by decide +kernel
theorem d_SE_forget_11 : decode c_SE_forget 11 = .ok (.getfield 18, 3) := by decide +kernel
theorem d_SE_forget_14 : decode c_SE_forget 14 = .ok (.aload_n 0, 1) := by decide +kernel
theorem d_SE_forget_15 : decode c_SE_forget 15 = .ok (.getfield 11, 3) := by decide +kernel
theorem d_SE_forget_18 : decode c_SE_forget 18 = .ok (.iload_n 1, 1) := by decide +kernel
theorem d_SE_forget_19 : decode c_SE_forget 19 = .ok (.iaload, 1) := by decide +kernel
theorem d_SE_forget_20 : decode c_SE_forget 20 = .ok (.bipush 6, 2) := by decide +kernel
theorem d_SE_forget_22 : decode c_SE_forget 22 = .ok (.ishr, 1) := by decide +kernel
theorem d_SE_forget_23 : decode c_SE_forget 23 = .ok (.sipush 4095, 3) := by decide +kernel
theorem d_SE_forget_26 : decode c_SE_forget 26 = .ok (.iand, 1) := by decide +kernel
theorem d_SE_forget_27 : decode c_SE_forget 27 = .ok (.lconst 0, 1) := by decide +kernel
theorem d_SE_forget_28 : decode c_SE_forget 28 = .ok (.lastore, 1) := by decide +kernel
theorem d_SE_forget_29 : decode c_SE_forget 29 = .ok (.iinc 1 1, 3) := by decide +kernel
theorem d_SE_forget_32 : decode c_SE_forget 32 = .ok (.goto (-30), 3) := by decide +kernel
theorem d_SE_forget_35 : decode c_SE_forget 35 = .ok (.aload_n 0, 1) := by decide +kernel
theorem d_SE_forget_36 : decode c_SE_forget 36 = .ok (.iconst 0, 1) := by decide +kernel
theorem d_SE_forget_37 : decode c_SE_forget 37 = .ok (.putfield 53, 3) := by decide +kernel
theorem d_SE_forget_40 : decode c_SE_forget 40 = .ok (.return_, 1) := by decide +kernel
def S_SE_forget_0 (g : Gx) (Q : St → Prop) (σ : St) (t : Nat) : Prop := Ax g m_SE_forget 0 0 (ZV g Q) SH σ 0 0 0 [(0, .ref (gB g + t))] []
def S_SE_forget_2 (g : Gx) (Q : St → Prop) (σ : St) (t : Nat) (x1 : Int32) : Prop := Ax g m_SE_forget 0 0 (ZV g Q) SH σ 0 0 2 [(0, .ref (gB g + t)), (1, .int x1)] []
theorem sg_SE_forget_0 {g : Gx} {Q : St → Prop} {σ : St} {t : Nat} (ht : isSE t)
    (h : S_SE_forget_2 g Q σ t (0 : Int32)) : S_SE_forget_0 g Q σ t := by
  show Ax g m_SE_forget 0 0 (ZV g Q) SH σ 0 0 0 [(0, .ref (gB g + t))] []
  refine a_iconst (pc := 0) (0 : Int32) (by decide) d_SE_forget_0 ?_
  refine a_istore_n (pc := 1) (lv' := [(1, .int (0 : Int32)), (0, .ref (gB g + t))]) rfl (Nat.le_of_ble_eq_true rfl) rfl d_SE_forget_1 ?_
  refine a_sub (pc := 2) [1, 0] rfl ?_
  exact h
theorem sg_SE_forget_2 {g : Gx} {Q : St → Prop} {σ : St} {t : Nat} {x1 : Int32} (ht : isSE t)
    (h : ((fi σ t 4) ≤ x1 → ∀ s1 : St, s1 = sfi σ t 4 (0 : Int32) → Q s1) ∧ (¬ (fi σ t 4) ≤ x1 → vp_in x1 4000 ∧ (vp_in (((ai σ (t + 1) (x1).toNatClampNeg) >>> ((6 : Int32) &&& 31)) &&& (4095 : Int32)) 4096 ∧ (∀ s2 : St, s2 = saj σ (t + 3) ((((ai σ (t + 1) (x1).toNatClampNeg) >>> ((6 : Int32) &&& 31)) &&& (4095 : Int32))).toNatClampNeg (0 : Int64) → ∀ u3 : Int32, u3 = x1 + (1 : Int32) → S_SE_forget_2 g Q s2 t u3)))) : S_SE_forget_2 g Q σ t x1 := by
  show Ax g m_SE_forget 0 0 (ZV g Q) SH σ 0 0 2 [(0, .ref (gB g + t)), (1, .int x1)] []
  refine a_iload_n (pc := 2) 1 rfl rfl d_SE_forget_2 ?_
  refine a_aload_n (pc := 3) 0 rfl rfl d_SE_forget_3 ?_
  refine a_getI (pc := 4) fg_SE_53 (se0 ht) rfl d_SE_forget_4 ?_
  refine a_icmp_ge (pc := 7) 35 (by decide) d_SE_forget_7 ⟨fun c0 => ?_, fun c0 => ?_⟩
  · replace h := h.1 c0
    refine a_aload_n (pc := 35) 0 rfl rfl d_SE_forget_35 ?_
    refine a_iconst (pc := 36) (0 : Int32) (by decide) d_SE_forget_36 ?_
    refine a_putI (pc := 37) fp_SE_53 (se0 ht) rfl d_SE_forget_37 ?_
    refine a_nms (fun s1 hs1 => ?_)
    replace h := h s1 hs1
    exact b_vret (pc := 40) rfl d_SE_forget_40 h
  · replace h := h.2 c0
    refine a_aload_n (pc := 10) 0 rfl rfl d_SE_forget_10 ?_
    refine a_getR (pc := 11) fg_SE_18 (se0 ht) rfl d_SE_forget_11 ?_
    refine a_aload_n (pc := 14) 0 rfl rfl d_SE_forget_14 ?_
    refine a_getR (pc := 15) fg_SE_11 (se0 ht) rfl d_SE_forget_15 ?_
    refine a_iload_n (pc := 18) 1 rfl rfl d_SE_forget_18 ?_
    obtain ⟨hx, h⟩ := h
    refine a_iald (pc := 19) (se1 ht) hx d_SE_forget_19 ?_
    refine a_bipush (pc := 20) (6 : Int32) (by decide) d_SE_forget_20 ?_
    refine a_ishr (pc := 22) d_SE_forget_22 ?_
    refine a_sipush (pc := 23) (4095 : Int32) (by decide) d_SE_forget_23 ?_
    refine a_iand (pc := 26) d_SE_forget_26 ?_
    refine a_lconst (pc := 27) (0 : Int64) (by decide) d_SE_forget_27 ?_
    obtain ⟨hx, h⟩ := h
    refine a_last (pc := 28) (se3 ht) hx d_SE_forget_28 ?_
    refine a_nms (fun s2 hs2 => ?_)
    replace h := h s2 hs2
    obtain ⟨u3, hu3⟩ : ∃ y : Int32, y = x1 + (1 : Int32) := ⟨_, rfl⟩
    replace h := h u3 hu3
    refine a_iinc (pc := 29) (v := u3) (lv' := [(1, .int u3), (0, .ref (gB g + t))]) 1 rfl (by rw [hu3]; rfl) (Nat.le_of_ble_eq_true rfl) rfl d_SE_forget_29 ?_
    refine a_goto (pc := 32) 2 (by decide) d_SE_forget_32 ?_
    refine a_sub (pc := 2) [1, 0] rfl ?_
    exact h
theorem ko_SE_forget {g : Gx}  {t : Nat} {σ : St} {Q : St → Prop} (h : S_SE_forget_0 g Q σ t) : K_SE_forget g t σ Q := KV.of (show plainName "BallBox$Search" = true by decide) (Nat.le_of_ble_eq_true rfl) h
theorem d_SE_isSeen_0 : decode c_SE_isSeen 0 = .ok (.aload_n 0, 1) := by decide +kernel
theorem d_SE_isSeen_1 : decode c_SE_isSeen 1 = .ok (.getfield 18, 3) := by decide +kernel
theorem d_SE_isSeen_4 : decode c_SE_isSeen 4 = .ok (.iload_n 1, 1) := by decide +kernel
theorem d_SE_isSeen_5 : decode c_SE_isSeen 5 = .ok (.bipush 6, 2) := by decide +kernel
theorem d_SE_isSeen_7 : decode c_SE_isSeen 7 = .ok (.ishr, 1) := by decide +kernel
theorem d_SE_isSeen_8 : decode c_SE_isSeen 8 = .ok (.sipush 4095, 3) := by decide +kernel
theorem d_SE_isSeen_11 : decode c_SE_isSeen 11 = .ok (.iand, 1) := by decide +kernel
theorem d_SE_isSeen_12 : decode c_SE_isSeen 12 = .ok (.laload, 1) := by decide +kernel
theorem d_SE_isSeen_13 : decode c_SE_isSeen 13 = .ok (.iload_n 1, 1) := by decide +kernel
theorem d_SE_isSeen_14 : decode c_SE_isSeen 14 = .ok (.bipush 63, 2) := by decide +kernel
theorem d_SE_isSeen_16 : decode c_SE_isSeen 16 = .ok (.iand, 1) := by decide +kernel
theorem d_SE_isSeen_17 : decode c_SE_isSeen 17 = .ok (.lushr, 1) := by decide +kernel
theorem d_SE_isSeen_18 : decode c_SE_isSeen 18 = .ok (.lconst 1, 1) := by decide +kernel
theorem d_SE_isSeen_19 : decode c_SE_isSeen 19 = .ok (.land, 1) := by decide +kernel
theorem d_SE_isSeen_20 : decode c_SE_isSeen 20 = .ok (.lconst 0, 1) := by decide +kernel
theorem d_SE_isSeen_21 : decode c_SE_isSeen 21 = .ok (.lcmp, 1) := by decide +kernel
theorem d_SE_isSeen_22 : decode c_SE_isSeen 22 = .ok (.ifCond .eq 7, 3) := by decide +kernel
theorem d_SE_isSeen_25 : decode c_SE_isSeen 25 = .ok (.iconst 1, 1) := by decide +kernel
theorem d_SE_isSeen_26 : decode c_SE_isSeen 26 = .ok (.goto 4, 3) := by decide +kernel
theorem d_SE_isSeen_29 : decode c_SE_isSeen 29 = .ok (.iconst 0, 1) := by decide +kernel
theorem d_SE_isSeen_30 : decode c_SE_isSeen 30 = .ok (.ireturn, 1) := by decide +kernel
def S_SE_isSeen_0 (g : Gx) (Q : Int32 → St → Prop) (σ : St) (t : Nat) (x1 : Int32) : Prop := Ax g m_SE_isSeen 0 0 (ZI g Q) SH σ 0 0 0 [(0, .ref (gB g + t)), (1, .int x1)] []
theorem sg_SE_isSeen_0 {g : Gx} {Q : Int32 → St → Prop} {σ : St} {t : Nat} {x1 : Int32} (ht : isSE t)
    (h : vp_in ((x1 >>> ((6 : Int32) &&& 31)) &&& (4095 : Int32)) 4096 ∧ (((lg_cmp ((((aj σ (t + 3) (((x1 >>> ((6 : Int32) &&& 31)) &&& (4095 : Int32))).toNatClampNeg)).toUInt64 >>> (((x1 &&& (63 : Int32))).toInt64.toUInt64 &&& Int64.toUInt64 63)).toInt64 &&& (1 : Int64)) (0 : Int64)) = 0 → Q (0 : Int32) σ) ∧ (¬ (lg_cmp ((((aj σ (t + 3) (((x1 >>> ((6 : Int32) &&& 31)) &&& (4095 : Int32))).toNatClampNeg)).toUInt64 >>> (((x1 &&& (63 : Int32))).toInt64.toUInt64 &&& Int64.toUInt64 63)).toInt64 &&& (1 : Int64)) (0 : Int64)) = 0 → Q (1 : Int32) σ))) : S_SE_isSeen_0 g Q σ t x1 := by
  show Ax g m_SE_isSeen 0 0 (ZI g Q) SH σ 0 0 0 [(0, .ref (gB g + t)), (1, .int x1)] []
  refine a_aload_n (pc := 0) 0 rfl rfl d_SE_isSeen_0 ?_
  refine a_getR (pc := 1) fg_SE_18 (se0 ht) rfl d_SE_isSeen_1 ?_
  refine a_iload_n (pc := 4) 1 rfl rfl d_SE_isSeen_4 ?_
  refine a_bipush (pc := 5) (6 : Int32) (by decide) d_SE_isSeen_5 ?_
  refine a_ishr (pc := 7) d_SE_isSeen_7 ?_
  refine a_sipush (pc := 8) (4095 : Int32) (by decide) d_SE_isSeen_8 ?_
  refine a_iand (pc := 11) d_SE_isSeen_11 ?_
  obtain ⟨hx, h⟩ := h
  refine a_lald (pc := 12) (se3 ht) hx d_SE_isSeen_12 ?_
  refine a_iload_n (pc := 13) 1 rfl rfl d_SE_isSeen_13 ?_
  refine a_bipush (pc := 14) (63 : Int32) (by decide) d_SE_isSeen_14 ?_
  refine a_iand (pc := 16) d_SE_isSeen_16 ?_
  refine a_lushr (pc := 17) d_SE_isSeen_17 ?_
  refine a_lconst (pc := 18) (1 : Int64) (by decide) d_SE_isSeen_18 ?_
  refine a_land (pc := 19) d_SE_isSeen_19 ?_
  refine a_lconst (pc := 20) (0 : Int64) (by decide) d_SE_isSeen_20 ?_
  refine a_lcmp (pc := 21) d_SE_isSeen_21 ?_
  refine a_if_eq (pc := 22) 29 (by decide) d_SE_isSeen_22 ⟨fun c0 => ?_, fun c0 => ?_⟩
  · replace h := h.1 c0
    refine a_iconst (pc := 29) (0 : Int32) (by decide) d_SE_isSeen_29 ?_
    exact b_zret (pc := 30) rfl (Or.inl rfl) d_SE_isSeen_30 h
  · replace h := h.2 c0
    refine a_iconst (pc := 25) (1 : Int32) (by decide) d_SE_isSeen_25 ?_
    refine a_goto (pc := 26) 30 (by decide) d_SE_isSeen_26 ?_
    exact b_zret (pc := 30) rfl (Or.inr rfl) d_SE_isSeen_30 h
theorem ko_SE_isSeen {g : Gx}  {t : Nat} {x1 : Int32} {σ : St} {Q : Int32 → St → Prop} (h : S_SE_isSeen_0 g Q σ t x1) : K_SE_isSeen g t x1 σ Q := KI.of (show plainName "BallBox$Search" = true by decide) (Nat.le_of_ble_eq_true rfl) h
theorem d_SE_note_0 : decode c_SE_note 0 = .ok (.aload_n 0, 1) := by decide +kernel
theorem d_SE_note_1 : decode c_SE_note 1 = .ok (.getfield 53, 3) := by decide +kernel
theorem d_SE_note_4 : decode c_SE_note 4 = .ok (.sipush 4000, 3) := by decide +kernel
theorem d_SE_note_7 : decode c_SE_note 7 = .ok (.if_icmp .ge 55, 3) := by decide +kernel
theorem d_SE_note_10 : decode c_SE_note 10 = .ok (.aload_n 0, 1) := by decide +kernel
theorem d_SE_note_11 : decode c_SE_note 11 = .ok (.getfield 11, 3) := by decide +kernel
theorem d_SE_note_14 : decode c_SE_note 14 = .ok (.aload_n 0, 1) := by decide +kernel
theorem d_SE_note_15 : decode c_SE_note 15 = .ok (.getfield 53, 3) := by decide +kernel
theorem d_SE_note_18 : decode c_SE_note 18 = .ok (.iload_n 1, 1) := by decide +kernel
theorem d_SE_note_19 : decode c_SE_note 19 = .ok (.iastore, 1) := by decide +kernel
theorem d_SE_note_20 : decode c_SE_note 20 = .ok (.aload_n 0, 1) := by decide +kernel
theorem d_SE_note_21 : decode c_SE_note 21 = .ok (.getfield 15, 3) := by decide +kernel
theorem d_SE_note_24 : decode c_SE_note 24 = .ok (.aload_n 0, 1) := by decide +kernel
theorem d_SE_note_25 : decode c_SE_note 25 = .ok (.getfield 53, 3) := by decide +kernel
theorem d_SE_note_28 : decode c_SE_note 28 = .ok (.iload_n 2, 1) := by decide +kernel
theorem d_SE_note_29 : decode c_SE_note 29 = .ok (.iastore, 1) := by decide +kernel
theorem d_SE_note_30 : decode c_SE_note 30 = .ok (.aload_n 0, 1) := by decide +kernel
theorem d_SE_note_31 : decode c_SE_note 31 = .ok (.dup, 1) := by decide +kernel
theorem d_SE_note_32 : decode c_SE_note 32 = .ok (.getfield 53, 3) := by decide +kernel
theorem d_SE_note_35 : decode c_SE_note 35 = .ok (.iconst 1, 1) := by decide +kernel
theorem d_SE_note_36 : decode c_SE_note 36 = .ok (.iadd, 1) := by decide +kernel
theorem d_SE_note_37 : decode c_SE_note 37 = .ok (.putfield 53, 3) := by decide +kernel
theorem d_SE_note_40 : decode c_SE_note 40 = .ok (.aload_n 0, 1) := by decide +kernel
theorem d_SE_note_41 : decode c_SE_note 41 = .ok (.getfield 18, 3) := by decide +kernel
theorem d_SE_note_44 : decode c_SE_note 44 = .ok (.iload_n 1, 1) := by decide +kernel
theorem d_SE_note_45 : decode c_SE_note 45 = .ok (.bipush 6, 2) := by decide +kernel
theorem d_SE_note_47 : decode c_SE_note 47 = .ok (.ishr, 1) := by decide +kernel
theorem d_SE_note_48 : decode c_SE_note 48 = .ok (.sipush 4095, 3) := by decide +kernel
theorem d_SE_note_51 : decode c_SE_note 51 = .ok (.iand, 1) := by decide +kernel
theorem d_SE_note_52 : decode c_SE_note 52 = .ok (.dup2, 1) := by decide +kernel
theorem d_SE_note_53 : decode c_SE_note 53 = .ok (.laload, 1) := by decide +kernel
theorem d_SE_note_54 : decode c_SE_note 54 = .ok (.lconst 1, 1) := by decide +kernel
theorem d_SE_note_55 : decode c_SE_note 55 = .ok (.iload_n 1, 1) := by decide +kernel
theorem d_SE_note_56 : decode c_SE_note 56 = .ok (.bipush 63, 2) := by decide +kernel
theorem d_SE_note_58 : decode c_SE_note 58 = .ok (.iand, 1) := by decide +kernel
theorem d_SE_note_59 : decode c_SE_note 59 = .ok (.lshl, 1) := by decide +kernel
theorem d_SE_note_60 : decode c_SE_note 60 = .ok (.lor, 1) := by decide +kernel
theorem d_SE_note_61 : decode c_SE_note 61 = .ok (.lastore, 1) := by decide +kernel
theorem d_SE_note_62 : decode c_SE_note 62 = .ok (.return_, 1) := by decide +kernel
def S_SE_note_0 (g : Gx) (Q : St → Prop) (σ : St) (t : Nat) (x1 : Int32) (x2 : Int32) : Prop := Ax g m_SE_note 0 0 (ZV g Q) SH σ 0 0 0 [(0, .ref (gB g + t)), (1, .int x1), (2, .int x2)] []
theorem sg_SE_note_0 {g : Gx} {Q : St → Prop} {σ : St} {t : Nat} {x1 : Int32} {x2 : Int32} (ht : isSE t)
    (h : ((4000 : Int32) ≤ (fi σ t 4) → Q σ) ∧ (¬ (4000 : Int32) ≤ (fi σ t 4) → vp_in (fi σ t 4) 4000 ∧ (∀ s1 : St, s1 = sai σ (t + 1) ((fi σ t 4)).toNatClampNeg x1 → vp_in (fi s1 t 4) 4000 ∧ (∀ s2 : St, s2 = sai s1 (t + 2) ((fi s1 t 4)).toNatClampNeg x2 → ∀ s3 : St, s3 = sfi s2 t 4 ((fi s2 t 4) + (1 : Int32)) → vp_in ((x1 >>> ((6 : Int32) &&& 31)) &&& (4095 : Int32)) 4096 ∧ (vp_in ((x1 >>> ((6 : Int32) &&& 31)) &&& (4095 : Int32)) 4096 ∧ (∀ s4 : St, s4 = saj s3 (t + 3) (((x1 >>> ((6 : Int32) &&& 31)) &&& (4095 : Int32))).toNatClampNeg ((aj s3 (t + 3) (((x1 >>> ((6 : Int32) &&& 31)) &&& (4095 : Int32))).toNatClampNeg) ||| ((1 : Int64) <<< (((x1 &&& (63 : Int32))).toInt64 &&& 63))) → Q s4)))))) : S_SE_note_0 g Q σ t x1 x2 := by
  show Ax g m_SE_note 0 0 (ZV g Q) SH σ 0 0 0 [(0, .ref (gB g + t)), (1, .int x1), (2, .int x2)] []
  refine a_aload_n (pc := 0) 0 rfl rfl d_SE_note_0 ?_
  refine a_getI (pc := 1) fg_SE_53 (se0 ht) rfl d_SE_note_1 ?_
  refine a_sipush (pc := 4) (4000 : Int32) (by decide) d_SE_note_4 ?_
  refine a_icmp_ge (pc := 7) 62 (by decide) d_SE_note_7 ⟨fun c0 => ?_, fun c0 => ?_⟩
  · replace h := h.1 c0
    exact b_vret (pc := 62) rfl d_SE_note_62 h
  · replace h := h.2 c0
    refine a_aload_n (pc := 10) 0 rfl rfl d_SE_note_10 ?_
    refine a_getR (pc := 11) fg_SE_11 (se0 ht) rfl d_SE_note_11 ?_
    refine a_aload_n (pc := 14) 0 rfl rfl d_SE_note_14 ?_
    refine a_getI (pc := 15) fg_SE_53 (se0 ht) rfl d_SE_note_15 ?_
    refine a_iload_n (pc := 18) 1 rfl rfl d_SE_note_18 ?_
    obtain ⟨hx, h⟩ := h
    refine a_iast (pc := 19) (se1 ht) hx d_SE_note_19 ?_
    refine a_nms (fun s1 hs1 => ?_)
    replace h := h s1 hs1
    refine a_aload_n (pc := 20) 0 rfl rfl d_SE_note_20 ?_
    refine a_getR (pc := 21) fg_SE_15 (se0 ht) rfl d_SE_note_21 ?_
    refine a_aload_n (pc := 24) 0 rfl rfl d_SE_note_24 ?_
    refine a_getI (pc := 25) fg_SE_53 (se0 ht) rfl d_SE_note_25 ?_
    refine a_iload_n (pc := 28) 2 rfl rfl d_SE_note_28 ?_
    obtain ⟨hx, h⟩ := h
    refine a_iast (pc := 29) (se2 ht) hx d_SE_note_29 ?_
    refine a_nms (fun s2 hs2 => ?_)
    replace h := h s2 hs2
    refine a_aload_n (pc := 30) 0 rfl rfl d_SE_note_30 ?_
    refine a_dup (pc := 31) rfl d_SE_note_31 ?_
    refine a_getI (pc := 32) fg_SE_53 (se0 ht) rfl d_SE_note_32 ?_
    refine a_iconst (pc := 35) (1 : Int32) (by decide) d_SE_note_35 ?_
    refine a_iadd (pc := 36) d_SE_note_36 ?_
    refine a_putI (pc := 37) fp_SE_53 (se0 ht) rfl d_SE_note_37 ?_
    refine a_nms (fun s3 hs3 => ?_)
    replace h := h s3 hs3
    refine a_aload_n (pc := 40) 0 rfl rfl d_SE_note_40 ?_
    refine a_getR (pc := 41) fg_SE_18 (se0 ht) rfl d_SE_note_41 ?_
    refine a_iload_n (pc := 44) 1 rfl rfl d_SE_note_44 ?_
    refine a_bipush (pc := 45) (6 : Int32) (by decide) d_SE_note_45 ?_
    refine a_ishr (pc := 47) d_SE_note_47 ?_
    refine a_sipush (pc := 48) (4095 : Int32) (by decide) d_SE_note_48 ?_
    refine a_iand (pc := 51) d_SE_note_51 ?_
    refine a_dup2_11 (pc := 52) rfl rfl d_SE_note_52 ?_
    obtain ⟨hx, h⟩ := h
    refine a_lald (pc := 53) (se3 ht) hx d_SE_note_53 ?_
    refine a_lconst (pc := 54) (1 : Int64) (by decide) d_SE_note_54 ?_
    refine a_iload_n (pc := 55) 1 rfl rfl d_SE_note_55 ?_
    refine a_bipush (pc := 56) (63 : Int32) (by decide) d_SE_note_56 ?_
    refine a_iand (pc := 58) d_SE_note_58 ?_
    refine a_lshl (pc := 59) d_SE_note_59 ?_
    refine a_lor (pc := 60) d_SE_note_60 ?_
    obtain ⟨hx, h⟩ := h
    refine a_last (pc := 61) (se3 ht) hx d_SE_note_61 ?_
    refine a_nms (fun s4 hs4 => ?_)
    replace h := h s4 hs4
    exact b_vret (pc := 62) rfl d_SE_note_62 h
theorem ko_SE_note {g : Gx}  {t : Nat} {x1 : Int32} {x2 : Int32} {σ : St} {Q : St → Prop} (h : S_SE_note_0 g Q σ t x1 x2) : K_SE_note g t x1 x2 σ Q := KV.of (show plainName "BallBox$Search" = true by decide) (Nat.le_of_ble_eq_true rfl) h
