theorem d_RO_addRule_0 : decode c_RO_addRule 0 = .ok (.aload_n 0, 1) := by decide +kernel
theorem d_RO_addRule_1 : decode c_RO_addRule 1 = .ok (.getfield 27, 3) := by decide +kernel
theorem d_RO_addRule_4 : decode c_RO_addRule 4 = .ok (.bipush 6, 2) := by decide +kernel
theorem d_RO_addRule_6 : decode c_RO_addRule 6 = .ok (.if_icmp .ge 26, 3) := by decide +kernel
theorem d_RO_addRule_9 : decode c_RO_addRule 9 = .ok (.aload_n 0, 1) := by decide +kernel
theorem d_RO_addRule_10 : decode c_RO_addRule 10 = .ok (.getfield 11, 3) := by decide +kernel
theorem d_RO_addRule_13 : decode c_RO_addRule 13 = .ok (.aload_n 0, 1) := by decide +kernel
theorem d_RO_addRule_14 : decode c_RO_addRule 14 = .ok (.getfield 27, 3) := by decide +kernel
theorem d_RO_addRule_17 : decode c_RO_addRule 17 = .ok (.aaload, 1) := by decide +kernel
theorem d_RO_addRule_18 : decode c_RO_addRule 18 = .ok (.aload_n 1, 1) := by decide +kernel
theorem d_RO_addRule_19 : decode c_RO_addRule 19 = .ok (.invokevirtual 31, 3) := by decide +kernel
theorem d_RO_addRule_22 : decode c_RO_addRule 22 = .ok (.aload_n 0, 1) := by decide +kernel
theorem d_RO_addRule_23 : decode c_RO_addRule 23 = .ok (.dup, 1) := by decide +kernel
theorem d_RO_addRule_24 : decode c_RO_addRule 24 = .ok (.getfield 27, 3) := by decide +kernel
theorem d_RO_addRule_27 : decode c_RO_addRule 27 = .ok (.iconst 1, 1) := by decide +kernel
theorem d_RO_addRule_28 : decode c_RO_addRule 28 = .ok (.iadd, 1) := by decide +kernel
theorem d_RO_addRule_29 : decode c_RO_addRule 29 = .ok (.putfield 27, 3) := by decide +kernel
theorem d_RO_addRule_32 : decode c_RO_addRule 32 = .ok (.return_, 1) := by decide +kernel
def S_RO_addRule_0 (g : Gx) (Q : St → Prop) (σ : St) (t1 : Nat) : Prop := Ax g m_RO_addRule 0 0 (ZV g Q) SH σ 0 0 0 [(0, .ref (gB g + 17)), (1, .ref (gB g + t1))] []
theorem sg_RO_addRule_0 {g : Gx} {Q : St → Prop} {σ : St} {t1 : Nat} (ht1 : isRU t1)
    (h : ((6 : Int32) ≤ (fi σ 17 5) → Q σ) ∧ (¬ (6 : Int32) ≤ (fi σ 17 5) → vp_in (fi σ 17 5) 6 ∧ (∀ o1 : Nat, o1 = 22 + 5 * ((fi σ 17 5)).toNatClampNeg → isRU o1 → K_RU_takeOver g o1 t1 σ (fun s2 : St => ∀ s3 : St, s3 = sfi s2 17 5 ((fi s2 17 5) + (1 : Int32)) → Q s3)))) : S_RO_addRule_0 g Q σ t1 := by
  show Ax g m_RO_addRule 0 0 (ZV g Q) SH σ 0 0 0 [(0, .ref (gB g + 17)), (1, .ref (gB g + t1))] []
  refine a_aload_n (pc := 0) 0 rfl rfl d_RO_addRule_0 ?_
  refine a_getI (pc := 1) fg_RO_27 sx_17 rfl d_RO_addRule_1 ?_
  refine a_bipush (pc := 4) (6 : Int32) (by decide) d_RO_addRule_4 ?_
  refine a_icmp_ge (pc := 6) 32 (by decide) d_RO_addRule_6 ⟨fun c0 => ?_, fun c0 => ?_⟩
  · replace h := h.1 c0
    exact b_vret (pc := 32) rfl d_RO_addRule_32 h
  · replace h := h.2 c0
    refine a_aload_n (pc := 9) 0 rfl rfl d_RO_addRule_9 ?_
    refine a_getR (pc := 10) fg_RO_11 sx_17 rfl d_RO_addRule_10 ?_
    refine a_aload_n (pc := 13) 0 rfl rfl d_RO_addRule_13 ?_
    refine a_getI (pc := 14) fg_RO_27 sx_17 rfl d_RO_addRule_14 ?_
    obtain ⟨hx, h⟩ := h
    refine a_ald4 (pc := 17) sx_18 hx (rul_ld hx).1 d_RO_addRule_17 ?_
    obtain ⟨o1, eo1⟩ : ∃ y : Nat, y = 22 + 5 * ((fi σ 17 5)).toNatClampNeg := ⟨_, rfl⟩
    have ho1 : isRU o1 := by rw [eo1]; exact (rul_ld hx).2
    rw [← eo1]
    replace h := h o1 eo1 ho1
    refine a_aload_n (pc := 18) 1 rfl rfl d_RO_addRule_18 ?_
    refine a_callV (pc := 19) (M' := m_RU_takeOver) (As := [.ref (gB g + t1)]) (st := []) (mc' := 0) (ms' := 0) lk_RO_31 rfl (ru0 ho1) rfl (by decide) (by decide) rfl (Nat.le_of_ble_eq_true rfl) (Nat.le_refl 0) (Nat.le_refl 0) d_RO_addRule_19 h ?_
    rintro _ _ s2 ⟨rfl, rfl, h⟩ -
    show Ax g m_RO_addRule 0 0 (ZV g Q) SH s2 0 0 22 [(0, .ref (gB g + 17)), (1, .ref (gB g + t1))] []
    refine a_aload_n (pc := 22) 0 rfl rfl d_RO_addRule_22 ?_
    refine a_dup (pc := 23) rfl d_RO_addRule_23 ?_
    refine a_getI (pc := 24) fg_RO_27 sx_17 rfl d_RO_addRule_24 ?_
    refine a_iconst (pc := 27) (1 : Int32) (by decide) d_RO_addRule_27 ?_
    refine a_iadd (pc := 28) d_RO_addRule_28 ?_
    refine a_putI (pc := 29) fp_RO_27 sx_17 rfl d_RO_addRule_29 ?_
    refine a_nms (fun s3 hs3 => ?_)
    replace h := h s3 hs3
    exact b_vret (pc := 32) rfl d_RO_addRule_32 h
theorem ko_RO_addRule {g : Gx}  {t1 : Nat} {σ : St} {Q : St → Prop} (h : S_RO_addRule_0 g Q σ t1) : K_RO_addRule g t1 σ Q := KV.of (show plainName "BallBox$Roller" = true by decide) (Nat.le_of_ble_eq_true rfl) h
theorem d_RO_rolled_0 : decode c_RO_rolled 0 = .ok (.aload_n 0, 1) := by decide +kernel
theorem d_RO_rolled_1 : decode c_RO_rolled 1 = .ok (.iconst 0, 1) := by decide +kernel
theorem d_RO_rolled_2 : decode c_RO_rolled 2 = .ok (.putfield 35, 3) := by decide +kernel
theorem d_RO_rolled_5 : decode c_RO_rolled 5 = .ok (.aload_n 0, 1) := by decide +kernel
theorem d_RO_rolled_6 : decode c_RO_rolled 6 = .ok (.iconst 0, 1) := by decide +kernel
theorem d_RO_rolled_7 : decode c_RO_rolled 7 = .ok (.putfield 38, 3) := by decide +kernel
theorem d_RO_rolled_10 : decode c_RO_rolled 10 = .ok (.iload_n 3, 1) := by decide +kernel
theorem d_RO_rolled_11 : decode c_RO_rolled 11 = .ok (.ifCond .lt 11, 3) := by decide +kernel
theorem d_RO_rolled_14 : decode c_RO_rolled 14 = .ok (.iload_n 3, 1) := by decide +kernel
theorem d_RO_rolled_15 : decode c_RO_rolled 15 = .ok (.getstatic 41, 3) := by decide +kernel
theorem d_RO_rolled_18 : decode c_RO_rolled 18 = .ok (.arraylength, 1) := by decide +kernel
theorem d_RO_rolled_19 : decode c_RO_rolled 19 = .ok (.if_icmp .lt 5, 3) := by decide +kernel
theorem d_RO_rolled_22 : decode c_RO_rolled 22 = .ok (.iload_n 2, 1) := by decide +kernel
theorem d_RO_rolled_23 : decode c_RO_rolled 23 = .ok (.ireturn, 1) := by decide +kernel
theorem d_RO_rolled_24 : decode c_RO_rolled 24 = .ok (.aload_n 1, 1) := by decide +kernel
theorem d_RO_rolled_25 : decode c_RO_rolled 25 = .ok (.getfield 44, 3) := by decide +kernel
theorem d_RO_rolled_28 : decode c_RO_rolled 28 = .ok (.ifCond .lt 26, 3) := by decide +kernel
theorem d_RO_rolled_31 : decode c_RO_rolled 31 = .ok (.aload_n 1, 1) := by decide +kernel
theorem d_RO_rolled_32 : decode c_RO_rolled 32 = .ok (.getfield 44, 3) := by decide +kernel
theorem d_RO_rolled_35 : decode c_RO_rolled 35 = .ok (.aload_n 0, 1) := by decide +kernel
theorem d_RO_rolled_36 : decode c_RO_rolled 36 = .ok (.getfield 27, 3) := by decide +kernel
theorem d_RO_rolled_39 : decode c_RO_rolled 39 = .ok (.if_icmp .ge 15, 3) := by decide +kernel
theorem d_RO_rolled_42 : decode c_RO_rolled 42 = .ok (.iload_n 2, 1) := by decide +kernel
theorem d_RO_rolled_43 : decode c_RO_rolled 43 = .ok (.iload_n 3, 1) := by decide +kernel
theorem d_RO_rolled_44 : decode c_RO_rolled 44 = .ok (.invokestatic 49, 3) := by decide +kernel
theorem d_RO_rolled_47 : decode c_RO_rolled 47 = .ok (.ifCond .eq 7, 3) := by decide +kernel
theorem d_RO_rolled_50 : decode c_RO_rolled 50 = .ok (.iconst 1, 1) := by decide +kernel
theorem d_RO_rolled_51 : decode c_RO_rolled 51 = .ok (.goto 4, 3) := by decide +kernel
theorem d_RO_rolled_54 : decode c_RO_rolled 54 = .ok (.iconst 0, 1) := by decide +kernel
theorem d_RO_rolled_55 : decode c_RO_rolled 55 = .ok (.istore 4, 2) := by decide +kernel
theorem d_RO_rolled_57 : decode c_RO_rolled 57 = .ok (.aload_n 0, 1) := by decide +kernel
theorem d_RO_rolled_58 : decode c_RO_rolled 58 = .ok (.iconst 0, 1) := by decide +kernel
theorem d_RO_rolled_59 : decode c_RO_rolled 59 = .ok (.putfield 53, 3) := by decide +kernel
theorem d_RO_rolled_62 : decode c_RO_rolled 62 = .ok (.iconst 0, 1) := by decide +kernel
theorem d_RO_rolled_63 : decode c_RO_rolled 63 = .ok (.istore 5, 2) := by decide +kernel
theorem d_RO_rolled_65 : decode c_RO_rolled 65 = .ok (.iload 5, 2) := by decide +kernel
theorem d_RO_rolled_67 : decode c_RO_rolled 67 = .ok (.aload_n 1, 1) := by decide +kernel
theorem d_RO_rolled_68 : decode c_RO_rolled 68 = .ok (.getfield 56, 3) := by decide +kernel
theorem d_RO_rolled_71 : decode c_RO_rolled 71 = .ok (.if_icmp .ge 85, 3) := by decide +kernel
theorem d_RO_rolled_74 : decode c_RO_rolled 74 = .ok (.iload_n 2, 1) := by decide +kernel
theorem d_RO_rolled_75 : decode c_RO_rolled 75 = .ok (.iload 5, 2) := by decide +kernel
theorem d_RO_rolled_77 : decode c_RO_rolled 77 = .ok (.invokestatic 59, 3) := by decide +kernel
theorem d_RO_rolled_80 : decode c_RO_rolled 80 = .ok (.istore 6, 2) := by decide +kernel
theorem d_RO_rolled_82 : decode c_RO_rolled 82 = .ok (.iload 6, 2) := by decide +kernel
theorem d_RO_rolled_84 : decode c_RO_rolled 84 = .ok (.invokestatic 63, 3) := by decide +kernel
theorem d_RO_rolled_87 : decode c_RO_rolled 87 = .ok (.ifCond .ne 63, 3) := by decide +kernel
theorem d_RO_rolled_90 : decode c_RO_rolled 90 = .ok (.iload 4, 2) := by decide +kernel
theorem d_RO_rolled_92 : decode c_RO_rolled 92 = .ok (.ifCond .eq 21, 3) := by decide +kernel
theorem d_RO_rolled_95 : decode c_RO_rolled 95 = .ok (.aload_n 0, 1) := by decide +kernel
theorem d_RO_rolled_96 : decode c_RO_rolled 96 = .ok (.aload_n 0, 1) := by decide +kernel
theorem d_RO_rolled_97 : decode c_RO_rolled 97 = .ok (.getfield 11, 3) := by decide +kernel
theorem d_RO_rolled_100 : decode c_RO_rolled 100 = .ok (.aload_n 1, 1) := by decide +kernel
theorem d_RO_rolled_101 : decode c_RO_rolled 101 = .ok (.getfield 44, 3) := by decide +kernel
theorem d_RO_rolled_104 : decode c_RO_rolled 104 = .ok (.aaload, 1) := by decide +kernel
theorem d_RO_rolled_105 : decode c_RO_rolled 105 = .ok (.aload_n 1, 1) := by decide +kernel
theorem d_RO_rolled_106 : decode c_RO_rolled 106 = .ok (.iload_n 2, 1) := by decide +kernel
theorem d_RO_rolled_107 : decode c_RO_rolled 107 = .ok (.iload 5, 2) := by decide +kernel
theorem d_RO_rolled_109 : decode c_RO_rolled 109 = .ok (.iload_n 3, 1) := by decide +kernel
theorem d_RO_rolled_110 : decode c_RO_rolled 110 = .ok (.invokevirtual 67, 3) := by decide +kernel
theorem d_RO_rolled_113 : decode c_RO_rolled 113 = .ok (.aload_n 0, 1) := by decide +kernel
theorem d_RO_rolled_114 : decode c_RO_rolled 114 = .ok (.iload 5, 2) := by decide +kernel
theorem d_RO_rolled_116 : decode c_RO_rolled 116 = .ok (.iload 4, 2) := by decide +kernel
theorem d_RO_rolled_118 : decode c_RO_rolled 118 = .ok (.ifCond .eq 22, 3) := by decide +kernel
theorem d_RO_rolled_121 : decode c_RO_rolled 121 = .ok (.aload_n 0, 1) := by decide +kernel
theorem d_RO_rolled_122 : decode c_RO_rolled 122 = .ok (.getfield 11, 3) := by decide +kernel
theorem d_RO_rolled_125 : decode c_RO_rolled 125 = .ok (.aload_n 1, 1) := by decide +kernel
theorem d_RO_rolled_126 : decode c_RO_rolled 126 = .ok (.getfield 44, 3) := by decide +kernel
theorem d_RO_rolled_129 : decode c_RO_rolled 129 = .ok (.aaload, 1) := by decide +kernel
theorem d_RO_rolled_130 : decode c_RO_rolled 130 = .ok (.aload_n 0, 1) := by decide +kernel
theorem d_RO_rolled_131 : decode c_RO_rolled 131 = .ok (.getfield 15, 3) := by decide +kernel
theorem d_RO_rolled_134 : decode c_RO_rolled 134 = .ok (.invokevirtual 71, 3) := by decide +kernel
theorem d_RO_rolled_137 : decode c_RO_rolled 137 = .ok (.goto 10, 3) := by decide +kernel
theorem d_RO_rolled_140 : decode c_RO_rolled 140 = .ok (.iload 6, 2) := by decide +kernel
theorem d_RO_rolled_142 : decode c_RO_rolled 142 = .ok (.iload_n 3, 1) := by decide +kernel
theorem d_RO_rolled_143 : decode c_RO_rolled 143 = .ok (.invokestatic 75, 3) := by decide +kernel
theorem d_RO_rolled_146 : decode c_RO_rolled 146 = .ok (.i2l, 1) := by decide +kernel
theorem d_RO_rolled_147 : decode c_RO_rolled 147 = .ok (.invokevirtual 78, 3) := by decide +kernel
theorem d_RO_rolled_150 : decode c_RO_rolled 150 = .ok (.iinc 5 1, 3) := by decide +kernel
theorem d_RO_rolled_153 : decode c_RO_rolled 153 = .ok (.goto (-88), 3) := by decide +kernel
theorem d_RO_rolled_156 : decode c_RO_rolled 156 = .ok (.iload_n 2, 1) := by decide +kernel
theorem d_RO_rolled_157 : decode c_RO_rolled 157 = .ok (.istore 5, 2) := by decide +kernel
theorem d_RO_rolled_159 : decode c_RO_rolled 159 = .ok (.iconst 0, 1) := by decide +kernel
theorem d_RO_rolled_160 : decode c_RO_rolled 160 = .ok (.istore 6, 2) := by decide +kernel
theorem d_RO_rolled_162 : decode c_RO_rolled 162 = .ok (.iload 6, 2) := by decide +kernel
theorem d_RO_rolled_164 : decode c_RO_rolled 164 = .ok (.aload_n 0, 1) := by decide +kernel
theorem d_RO_rolled_165 : decode c_RO_rolled 165 = .ok (.getfield 53, 3) := by decide +kernel
theorem d_RO_rolled_168 : decode c_RO_rolled 168 = .ok (.if_icmp .ge 30, 3) := by decide +kernel
theorem d_RO_rolled_171 : decode c_RO_rolled 171 = .ok (.aload_n 0, 1) := by decide +kernel
theorem d_RO_rolled_172 : decode c_RO_rolled 172 = .ok (.aload_n 1, 1) := by decide +kernel
theorem d_RO_rolled_173 : decode c_RO_rolled 173 = .ok (.iload 5, 2) := by decide +kernel
theorem d_RO_rolled_175 : decode c_RO_rolled 175 = .ok (.aload_n 0, 1) := by decide +kernel
theorem d_RO_rolled_176 : decode c_RO_rolled 176 = .ok (.getfield 22, 3) := by decide +kernel
theorem d_RO_rolled_179 : decode c_RO_rolled 179 = .ok (.iload 6, 2) := by decide +kernel
theorem d_RO_rolled_181 : decode c_RO_rolled 181 = .ok (.iaload, 1) := by decide +kernel
theorem d_RO_rolled_182 : decode c_RO_rolled 182 = .ok (.getstatic 41, 3) := by decide +kernel
theorem d_RO_rolled_185 : decode c_RO_rolled 185 = .ok (.iload_n 3, 1) := by decide +kernel
theorem d_RO_rolled_186 : decode c_RO_rolled 186 = .ok (.iaload, 1) := by decide +kernel
theorem d_RO_rolled_187 : decode c_RO_rolled 187 = .ok (.invokevirtual 82, 3) := by decide +kernel
theorem d_RO_rolled_190 : decode c_RO_rolled 190 = .ok (.istore 5, 2) := by decide +kernel
theorem d_RO_rolled_192 : decode c_RO_rolled 192 = .ok (.iinc 6 1, 3) := by decide +kernel
theorem d_RO_rolled_195 : decode c_RO_rolled 195 = .ok (.goto (-33), 3) := by decide +kernel
theorem d_RO_rolled_198 : decode c_RO_rolled 198 = .ok (.iload 5, 2) := by decide +kernel
theorem d_RO_rolled_200 : decode c_RO_rolled 200 = .ok (.ireturn, 1) := by decide +kernel
def S_RO_rolled_0 (g : Gx) (Q : Int32 → St → Prop) (σ : St) (t1 : Nat) (x2 : Int32) (x3 : Int32) : Prop := Ax g m_RO_rolled 0 0 (ZI g Q) SH σ 0 0 0 [(0, .ref (gB g + 17)), (1, .ref (gB g + t1)), (2, .int x2), (3, .int x3)] []
def S_RO_rolled_65 (g : Gx) (Q : Int32 → St → Prop) (σ : St) (t1 : Nat) (x2 : Int32) (x3 : Int32) (x4 : Int32) (x5 : Int32) : Prop := Ax g m_RO_rolled 0 0 (ZI g Q) SH σ 0 0 65 [(0, .ref (gB g + 17)), (1, .ref (gB g + t1)), (2, .int x2), (3, .int x3), (4, .int x4), (5, .int x5)] []
def S_RO_rolled_162 (g : Gx) (Q : Int32 → St → Prop) (σ : St) (t1 : Nat) (x3 : Int32) (x5 : Int32) (x6 : Int32) : Prop := Ax g m_RO_rolled 0 0 (ZI g Q) SH σ 0 0 162 [(0, .ref (gB g + 17)), (1, .ref (gB g + t1)), (3, .int x3), (5, .int x5), (6, .int x6)] []
def S_RO_rolled_113 (g : Gx) (Q : Int32 → St → Prop) (σ : St) (t1 : Nat) (x2 : Int32) (x3 : Int32) (x4 : Int32) (x5 : Int32) (x6 : Int32) : Prop := Ax g m_RO_rolled 0 0 (ZI g Q) SH σ 0 0 113 [(0, .ref (gB g + 17)), (1, .ref (gB g + t1)), (2, .int x2), (3, .int x3), (4, .int x4), (5, .int x5), (6, .int x6)] []
theorem sg_RO_rolled_0 {g : Gx} {Q : Int32 → St → Prop} {σ : St} {t1 : Nat} {x2 : Int32} {x3 : Int32} (ht1 : isSA t1)
    (h : ∀ s1 : St, s1 = sfi σ 17 6 (0 : Int32) → ∀ s2 : St, s2 = sfi s1 17 7 (0 : Int32) → (x3 < 0 → Q x2 s2) ∧ (¬ x3 < 0 → (x3 < (4 : Int32) → ((fi s2 t1 9) < 0 → ∀ s3 : St, s3 = sfi s2 17 4 (0 : Int32) → S_RO_rolled_65 g Q s3 t1 x2 x3 (0 : Int32) (0 : Int32)) ∧ (¬ (fi s2 t1 9) < 0 → ((fi s2 17 5) ≤ (fi s2 t1 9) → ∀ s4 : St, s4 = sfi s2 17 4 (0 : Int32) → S_RO_rolled_65 g Q s4 t1 x2 x3 (0 : Int32) (0 : Int32)) ∧ (¬ (fi s2 17 5) ≤ (fi s2 t1 9) → K_RO_someMeet g x2 x3 s2 (fun (r6 : Int32) (s5 : St) => (r6 = 0 → ∀ s7 : St, s7 = sfi s5 17 4 (0 : Int32) → S_RO_rolled_65 g Q s7 t1 x2 x3 (0 : Int32) (0 : Int32)) ∧ (¬ r6 = 0 → ∀ s8 : St, s8 = sfi s5 17 4 (0 : Int32) → S_RO_rolled_65 g Q s8 t1 x2 x3 (1 : Int32) (0 : Int32)))))) ∧ (¬ x3 < (4 : Int32) → Q x2 s2))) : S_RO_rolled_0 g Q σ t1 x2 x3 := by
  show Ax g m_RO_rolled 0 0 (ZI g Q) SH σ 0 0 0 [(0, .ref (gB g + 17)), (1, .ref (gB g + t1)), (2, .int x2), (3, .int x3)] []
  refine a_aload_n (pc := 0) 0 rfl rfl d_RO_rolled_0 ?_
  refine a_iconst (pc := 1) (0 : Int32) (by decide) d_RO_rolled_1 ?_
  refine a_putI (pc := 2) fp_RO_35 sx_17 rfl d_RO_rolled_2 ?_
  refine a_nms (fun s1 hs1 => ?_)
  replace h := h s1 hs1
  refine a_aload_n (pc := 5) 0 rfl rfl d_RO_rolled_5 ?_
  refine a_iconst (pc := 6) (0 : Int32) (by decide) d_RO_rolled_6 ?_
  refine a_putI (pc := 7) fp_RO_38 sx_17 rfl d_RO_rolled_7 ?_
  refine a_nms (fun s2 hs2 => ?_)
  replace h := h s2 hs2
  refine a_iload_n (pc := 10) 3 rfl rfl d_RO_rolled_10 ?_
  refine a_if_lt (pc := 11) 22 (by decide) d_RO_rolled_11 ⟨fun c0 => ?_, fun c0 => ?_⟩
  · replace h := h.1 c0
    refine a_iload_n (pc := 22) 2 rfl rfl d_RO_rolled_22 ?_
    exact b_iret (pc := 23) rfl d_RO_rolled_23 h
  · replace h := h.2 c0
    refine a_iload_n (pc := 14) 3 rfl rfl d_RO_rolled_14 ?_
    refine a_gstep (pc := 15) tw875 d_RO_rolled_15 ?_
    refine a_stlen (pc := 18) d_RO_rolled_18 ?_
    refine a_icmp_lt (pc := 19) 24 (by decide) d_RO_rolled_19 ⟨fun c0 => ?_, fun c0 => ?_⟩
    · replace h := h.1 c0
      refine a_aload_n (pc := 24) 1 rfl rfl d_RO_rolled_24 ?_
      refine a_getI (pc := 25) fg_RO_44 (sa0 ht1) rfl d_RO_rolled_25 ?_
      refine a_if_lt (pc := 28) 54 (by decide) d_RO_rolled_28 ⟨fun c0 => ?_, fun c0 => ?_⟩
      · replace h := h.1 c0
        refine a_iconst (pc := 54) (0 : Int32) (by decide) d_RO_rolled_54 ?_
        refine a_istore (pc := 55) (lv' := [(4, .int (0 : Int32)), (0, .ref (gB g + 17)), (1, .ref (gB g + t1)), (2, .int x2), (3, .int x3)]) (Nat.le_of_ble_eq_true rfl) rfl d_RO_rolled_55 ?_
        refine a_aload_n (pc := 57) 1 rfl rfl d_RO_rolled_57 ?_
        refine a_iconst (pc := 58) (0 : Int32) (by decide) d_RO_rolled_58 ?_
        refine a_putI (pc := 59) fp_RO_53 sx_17 rfl d_RO_rolled_59 ?_
        refine a_nms (fun s3 hs3 => ?_)
        replace h := h s3 hs3
        refine a_iconst (pc := 62) (0 : Int32) (by decide) d_RO_rolled_62 ?_
        refine a_istore (pc := 63) (lv' := [(5, .int (0 : Int32)), (4, .int (0 : Int32)), (0, .ref (gB g + 17)), (1, .ref (gB g + t1)), (2, .int x2), (3, .int x3)]) (Nat.le_of_ble_eq_true rfl) rfl d_RO_rolled_63 ?_
        refine a_sub (pc := 65) [2, 3, 4, 5, 1, 0] rfl ?_
        exact h
      · replace h := h.2 c0
        refine a_aload_n (pc := 31) 1 rfl rfl d_RO_rolled_31 ?_
        refine a_getI (pc := 32) fg_RO_44 (sa0 ht1) rfl d_RO_rolled_32 ?_
        refine a_aload_n (pc := 35) 0 rfl rfl d_RO_rolled_35 ?_
        refine a_getI (pc := 36) fg_RO_27 sx_17 rfl d_RO_rolled_36 ?_
        refine a_icmp_ge (pc := 39) 54 (by decide) d_RO_rolled_39 ⟨fun c0 => ?_, fun c0 => ?_⟩
        · replace h := h.1 c0
          refine a_iconst (pc := 54) (0 : Int32) (by decide) d_RO_rolled_54 ?_
          refine a_istore (pc := 55) (lv' := [(4, .int (0 : Int32)), (0, .ref (gB g + 17)), (1, .ref (gB g + t1)), (2, .int x2), (3, .int x3)]) (Nat.le_of_ble_eq_true rfl) rfl d_RO_rolled_55 ?_
          refine a_aload_n (pc := 57) 1 rfl rfl d_RO_rolled_57 ?_
          refine a_iconst (pc := 58) (0 : Int32) (by decide) d_RO_rolled_58 ?_
          refine a_putI (pc := 59) fp_RO_53 sx_17 rfl d_RO_rolled_59 ?_
          refine a_nms (fun s4 hs4 => ?_)
          replace h := h s4 hs4
          refine a_iconst (pc := 62) (0 : Int32) (by decide) d_RO_rolled_62 ?_
          refine a_istore (pc := 63) (lv' := [(5, .int (0 : Int32)), (4, .int (0 : Int32)), (0, .ref (gB g + 17)), (1, .ref (gB g + t1)), (2, .int x2), (3, .int x3)]) (Nat.le_of_ble_eq_true rfl) rfl d_RO_rolled_63 ?_
          refine a_sub (pc := 65) [2, 3, 4, 5, 1, 0] rfl ?_
          exact h
        · replace h := h.2 c0
          refine a_iload_n (pc := 42) 2 rfl rfl d_RO_rolled_42 ?_
          refine a_iload_n (pc := 43) 3 rfl rfl d_RO_rolled_43 ?_
          refine a_callS (pc := 44) (M' := m_RO_someMeet) (As := [.int x2, .int x3]) (st := []) (mc' := 0) (ms' := 0) lk_RO_49 rfl (by decide) (by decide) rfl (Nat.le_of_ble_eq_true rfl) (Nat.le_refl 0) (Nat.le_refl 0) d_RO_rolled_44 h ?_
          rintro _ _ s5 ⟨r6, rfl, rfl, h⟩ -
          show Ax g m_RO_rolled 0 0 (ZI g Q) SH s5 0 0 47 [(0, .ref (gB g + 17)), (1, .ref (gB g + t1)), (2, .int x2), (3, .int x3)] [.int r6]
          refine a_if_eq (pc := 47) 54 (by decide) d_RO_rolled_47 ⟨fun c0 => ?_, fun c0 => ?_⟩
          · replace h := h.1 c0
            refine a_iconst (pc := 54) (0 : Int32) (by decide) d_RO_rolled_54 ?_
            refine a_istore (pc := 55) (lv' := [(4, .int (0 : Int32)), (0, .ref (gB g + 17)), (1, .ref (gB g + t1)), (2, .int x2), (3, .int x3)]) (Nat.le_of_ble_eq_true rfl) rfl d_RO_rolled_55 ?_
            refine a_aload_n (pc := 57) 1 rfl rfl d_RO_rolled_57 ?_
            refine a_iconst (pc := 58) (0 : Int32) (by decide) d_RO_rolled_58 ?_
            refine a_putI (pc := 59) fp_RO_53 sx_17 rfl d_RO_rolled_59 ?_
            refine a_nms (fun s7 hs7 => ?_)
            replace h := h s7 hs7
            refine a_iconst (pc := 62) (0 : Int32) (by decide) d_RO_rolled_62 ?_
            refine a_istore (pc := 63) (lv' := [(5, .int (0 : Int32)), (4, .int (0 : Int32)), (0, .ref (gB g + 17)), (1, .ref (gB g + t1)), (2, .int x2), (3, .int x3)]) (Nat.le_of_ble_eq_true rfl) rfl d_RO_rolled_63 ?_
            refine a_sub (pc := 65) [2, 3, 4, 5, 1, 0] rfl ?_
            exact h
          · replace h := h.2 c0
            refine a_iconst (pc := 50) (1 : Int32) (by decide) d_RO_rolled_50 ?_
            refine a_goto (pc := 51) 55 (by decide) d_RO_rolled_51 ?_
            refine a_istore (pc := 55) (lv' := [(4, .int (1 : Int32)), (0, .ref (gB g + 17)), (1, .ref (gB g + t1)), (2, .int x2), (3, .int x3)]) (Nat.le_of_ble_eq_true rfl) rfl d_RO_rolled_55 ?_
            refine a_aload_n (pc := 57) 1 rfl rfl d_RO_rolled_57 ?_
            refine a_iconst (pc := 58) (0 : Int32) (by decide) d_RO_rolled_58 ?_
            refine a_putI (pc := 59) fp_RO_53 sx_17 rfl d_RO_rolled_59 ?_
            refine a_nms (fun s8 hs8 => ?_)
            replace h := h s8 hs8
            refine a_iconst (pc := 62) (0 : Int32) (by decide) d_RO_rolled_62 ?_
            refine a_istore (pc := 63) (lv' := [(5, .int (0 : Int32)), (4, .int (1 : Int32)), (0, .ref (gB g + 17)), (1, .ref (gB g + t1)), (2, .int x2), (3, .int x3)]) (Nat.le_of_ble_eq_true rfl) rfl d_RO_rolled_63 ?_
            refine a_sub (pc := 65) [2, 3, 4, 5, 1, 0] rfl ?_
            exact h
    · replace h := h.2 c0
      refine a_iload_n (pc := 22) 2 rfl rfl d_RO_rolled_22 ?_
      exact b_iret (pc := 23) rfl d_RO_rolled_23 h
theorem sg_RO_rolled_65 {g : Gx} {Q : Int32 → St → Prop} {σ : St} {t1 : Nat} {x2 : Int32} {x3 : Int32} {x4 : Int32} {x5 : Int32} (ht1 : isSA t1)
    (h : ((fi σ t1 4) ≤ x5 → S_RO_rolled_162 g Q σ t1 x3 x2 (0 : Int32)) ∧ (¬ (fi σ t1 4) ≤ x5 → K_SA_spotIn g x2 x5 σ (fun (r2 : Int32) (s1 : St) => K_SA_isFallen g r2 s1 (fun (r4 : Int32) (s3 : St) => (¬ r4 = 0 → ∀ u5 : Int32, u5 = x5 + (1 : Int32) → S_RO_rolled_65 g Q s3 t1 x2 x3 x4 u5) ∧ (r4 = 0 → (x4 = 0 → S_RO_rolled_113 g Q s3 t1 x2 x3 x4 x5 r2) ∧ (¬ x4 = 0 → vp_in (fi s3 t1 9) 6 ∧ (∀ o6 : Nat, o6 = 22 + 5 * ((fi s3 t1 9)).toNatClampNeg → isRU o6 → K_RO_tellWords g o6 t1 x2 x5 x3 s3 (fun s7 : St => S_RO_rolled_113 g Q s7 t1 x2 x3 x4 x5 r2)))))))) : S_RO_rolled_65 g Q σ t1 x2 x3 x4 x5 := by
  show Ax g m_RO_rolled 0 0 (ZI g Q) SH σ 0 0 65 [(0, .ref (gB g + 17)), (1, .ref (gB g + t1)), (2, .int x2), (3, .int x3), (4, .int x4), (5, .int x5)] []
  refine a_iload (pc := 65) 5 rfl d_RO_rolled_65 ?_
  refine a_aload_n (pc := 67) 1 rfl rfl d_RO_rolled_67 ?_
  refine a_getI (pc := 68) fg_RO_56 (sa0 ht1) rfl d_RO_rolled_68 ?_
  refine a_icmp_ge (pc := 71) 156 (by decide) d_RO_rolled_71 ⟨fun c0 => ?_, fun c0 => ?_⟩
  · replace h := h.1 c0
    refine a_iload_n (pc := 156) 2 rfl rfl d_RO_rolled_156 ?_
    refine a_istore (pc := 157) (lv' := [(5, .int x2), (0, .ref (gB g + 17)), (1, .ref (gB g + t1)), (2, .int x2), (3, .int x3), (4, .int x4)]) (Nat.le_of_ble_eq_true rfl) rfl d_RO_rolled_157 ?_
    refine a_iconst (pc := 159) (0 : Int32) (by decide) d_RO_rolled_159 ?_
    refine a_istore (pc := 160) (lv' := [(6, .int (0 : Int32)), (5, .int x2), (0, .ref (gB g + 17)), (1, .ref (gB g + t1)), (2, .int x2), (3, .int x3), (4, .int x4)]) (Nat.le_of_ble_eq_true rfl) rfl d_RO_rolled_160 ?_
    refine a_sub (pc := 162) [2, 3, 5, 1, 0] rfl ?_
    exact h
  · replace h := h.2 c0
    refine a_iload_n (pc := 74) 2 rfl rfl d_RO_rolled_74 ?_
    refine a_iload (pc := 75) 5 rfl d_RO_rolled_75 ?_
    refine a_callS (pc := 77) (M' := m_SA_spotIn) (As := [.int x2, .int x5]) (st := []) (mc' := 0) (ms' := 0) lk_RO_59 rfl (by decide) (by decide) rfl (Nat.le_of_ble_eq_true rfl) (Nat.le_refl 0) (Nat.le_refl 0) d_RO_rolled_77 h ?_
    rintro _ _ s1 ⟨r2, rfl, rfl, h⟩ -
    show Ax g m_RO_rolled 0 0 (ZI g Q) SH s1 0 0 80 [(0, .ref (gB g + 17)), (1, .ref (gB g + t1)), (2, .int x2), (3, .int x3), (4, .int x4), (5, .int x5)] [.int r2]
    refine a_istore (pc := 80) (lv' := [(6, .int r2), (0, .ref (gB g + 17)), (1, .ref (gB g + t1)), (2, .int x2), (3, .int x3), (4, .int x4), (5, .int x5)]) (Nat.le_of_ble_eq_true rfl) rfl d_RO_rolled_80 ?_
    refine a_iload (pc := 82) 0 rfl d_RO_rolled_82 ?_
    refine a_callS (pc := 84) (M' := m_SA_isFallen) (As := [.int r2]) (st := []) (mc' := 0) (ms' := 0) lk_RO_63 rfl (by decide) (by decide) rfl (Nat.le_of_ble_eq_true rfl) (Nat.le_refl 0) (Nat.le_refl 0) d_RO_rolled_84 h ?_
    rintro _ _ s3 ⟨r4, rfl, rfl, h⟩ -
    show Ax g m_RO_rolled 0 0 (ZI g Q) SH s3 0 0 87 [(6, .int r2), (0, .ref (gB g + 17)), (1, .ref (gB g + t1)), (2, .int x2), (3, .int x3), (4, .int x4), (5, .int x5)] [.int r4]
    refine a_if_ne (pc := 87) 150 (by decide) d_RO_rolled_87 ⟨fun c0 => ?_, fun c0 => ?_⟩
    · replace h := h.1 c0
      obtain ⟨u5, hu5⟩ : ∃ y : Int32, y = x5 + (1 : Int32) := ⟨_, rfl⟩
      replace h := h u5 hu5
      refine a_iinc (pc := 150) (v := u5) (lv' := [(5, .int u5), (6, .int r2), (0, .ref (gB g + 17)), (1, .ref (gB g + t1)), (2, .int x2), (3, .int x3), (4, .int x4)]) 6 rfl (by rw [hu5]; rfl) (Nat.le_of_ble_eq_true rfl) rfl d_RO_rolled_150 ?_
      refine a_goto (pc := 153) 65 (by decide) d_RO_rolled_153 ?_
      refine a_sub (pc := 65) [2, 3, 4, 5, 6, 0] rfl ?_
      exact h
    · replace h := h.2 c0
      refine a_iload (pc := 90) 5 rfl d_RO_rolled_90 ?_
      refine a_if_eq (pc := 92) 113 (by decide) d_RO_rolled_92 ⟨fun c0 => ?_, fun c0 => ?_⟩
      · replace h := h.1 c0
        refine a_sub (pc := 113) [1, 2, 3, 4, 5, 6, 0] rfl ?_
        exact h
      · replace h := h.2 c0
        refine a_aload_n (pc := 95) 1 rfl rfl d_RO_rolled_95 ?_
        refine a_aload_n (pc := 96) 1 rfl rfl d_RO_rolled_96 ?_
        refine a_getR (pc := 97) fg_RO_11 sx_17 rfl d_RO_rolled_97 ?_
        refine a_aload_n (pc := 100) 2 rfl rfl d_RO_rolled_100 ?_
        refine a_getI (pc := 101) fg_RO_44 (sa0 ht1) rfl d_RO_rolled_101 ?_
        obtain ⟨hx, h⟩ := h
        refine a_ald4 (pc := 104) sx_18 hx (rul_ld hx).1 d_RO_rolled_104 ?_
        obtain ⟨o6, eo6⟩ : ∃ y : Nat, y = 22 + 5 * ((fi s3 t1 9)).toNatClampNeg := ⟨_, rfl⟩
        have ho6 : isRU o6 := by rw [eo6]; exact (rul_ld hx).2
        rw [← eo6]
        replace h := h o6 eo6 ho6
        refine a_aload_n (pc := 105) 2 rfl rfl d_RO_rolled_105 ?_
        refine a_iload_n (pc := 106) 3 rfl rfl d_RO_rolled_106 ?_
        refine a_iload (pc := 107) 6 rfl d_RO_rolled_107 ?_
        refine a_iload_n (pc := 109) 4 rfl rfl d_RO_rolled_109 ?_
        refine a_callV (pc := 110) (M' := m_RO_tellWords) (As := [.ref (gB g + o6), .ref (gB g + t1), .int x2, .int x5, .int x3]) (st := []) (mc' := 0) (ms' := 0) lk_RO_67 rfl sx_17 rfl (by decide) (by decide) rfl (Nat.le_of_ble_eq_true rfl) (Nat.le_refl 0) (Nat.le_refl 0) d_RO_rolled_110 h ?_
        rintro _ _ s7 ⟨rfl, rfl, h⟩ -
        show Ax g m_RO_rolled 0 0 (ZI g Q) SH s7 0 0 113 [(6, .int r2), (0, .ref (gB g + 17)), (1, .ref (gB g + t1)), (2, .int x2), (3, .int x3), (4, .int x4), (5, .int x5)] []
        refine a_sub (pc := 113) [1, 2, 3, 4, 5, 6, 0] rfl ?_
        exact h
theorem sg_RO_rolled_162 {g : Gx} {Q : Int32 → St → Prop} {σ : St} {t1 : Nat} {x3 : Int32} {x5 : Int32} {x6 : Int32} (ht1 : isSA t1)
    (h : ((fi σ 17 4) ≤ x6 → Q x5 σ) ∧ (¬ (fi σ 17 4) ≤ x6 → vp_in x6 3 ∧ (vp_in x3 4 ∧ (K_RO_rollOne g t1 x5 (ai σ 21 (x6).toNatClampNeg) (stepsL.getD (x3).toNatClampNeg 0) σ (fun (r2 : Int32) (s1 : St) => ∀ u3 : Int32, u3 = x6 + (1 : Int32) → S_RO_rolled_162 g Q s1 t1 x3 r2 u3))))) : S_RO_rolled_162 g Q σ t1 x3 x5 x6 := by
  show Ax g m_RO_rolled 0 0 (ZI g Q) SH σ 0 0 162 [(0, .ref (gB g + 17)), (1, .ref (gB g + t1)), (3, .int x3), (5, .int x5), (6, .int x6)] []
  refine a_iload (pc := 162) 4 rfl d_RO_rolled_162 ?_
  refine a_aload_n (pc := 164) 0 rfl rfl d_RO_rolled_164 ?_
  refine a_getI (pc := 165) fg_RO_53 sx_17 rfl d_RO_rolled_165 ?_
  refine a_icmp_ge (pc := 168) 198 (by decide) d_RO_rolled_168 ⟨fun c0 => ?_, fun c0 => ?_⟩
  · replace h := h.1 c0
    refine a_iload (pc := 198) 3 rfl d_RO_rolled_198 ?_
    exact b_iret (pc := 200) rfl d_RO_rolled_200 h
  · replace h := h.2 c0
    refine a_aload_n (pc := 171) 0 rfl rfl d_RO_rolled_171 ?_
    refine a_aload_n (pc := 172) 1 rfl rfl d_RO_rolled_172 ?_
    refine a_iload (pc := 173) 3 rfl d_RO_rolled_173 ?_
    refine a_aload_n (pc := 175) 0 rfl rfl d_RO_rolled_175 ?_
    refine a_getR (pc := 176) fg_RO_22 sx_17 rfl d_RO_rolled_176 ?_
    refine a_iload (pc := 179) 4 rfl d_RO_rolled_179 ?_
    obtain ⟨hx, h⟩ := h
    refine a_iald (pc := 181) sx_21 hx d_RO_rolled_181 ?_
    refine a_gstep (pc := 182) tw875 d_RO_rolled_182 ?_
    refine a_iload_n (pc := 185) 2 rfl rfl d_RO_rolled_185 ?_
    obtain ⟨hx, h⟩ := h
    refine a_stld (pc := 186) hx d_RO_rolled_186 ?_
    refine a_callV (pc := 187) (M' := m_RO_rollOne) (As := [.ref (gB g + t1), .int x5, .int (ai σ 21 (x6).toNatClampNeg), .int (stepsL.getD (x3).toNatClampNeg 0)]) (st := []) (mc' := 0) (ms' := 0) lk_RO_82 rfl sx_17 rfl (by decide) (by decide) rfl (Nat.le_of_ble_eq_true rfl) (Nat.le_refl 0) (Nat.le_refl 0) d_RO_rolled_187 h ?_
    rintro _ _ s1 ⟨r2, rfl, rfl, h⟩ -
    show Ax g m_RO_rolled 0 0 (ZI g Q) SH s1 0 0 190 [(0, .ref (gB g + 17)), (1, .ref (gB g + t1)), (3, .int x3), (5, .int x5), (6, .int x6)] [.int r2]
    refine a_istore (pc := 190) (lv' := [(5, .int r2), (0, .ref (gB g + 17)), (1, .ref (gB g + t1)), (3, .int x3), (6, .int x6)]) (Nat.le_of_ble_eq_true rfl) rfl d_RO_rolled_190 ?_
    obtain ⟨u3, hu3⟩ : ∃ y : Int32, y = x6 + (1 : Int32) := ⟨_, rfl⟩
    replace h := h u3 hu3
    refine a_iinc (pc := 192) (v := u3) (lv' := [(6, .int u3), (5, .int r2), (0, .ref (gB g + 17)), (1, .ref (gB g + t1)), (3, .int x3)]) 4 rfl (by rw [hu3]; rfl) (Nat.le_of_ble_eq_true rfl) rfl d_RO_rolled_192 ?_
    refine a_goto (pc := 195) 162 (by decide) d_RO_rolled_195 ?_
    refine a_sub (pc := 162) [2, 3, 4, 1, 0] rfl ?_
    exact h
theorem sg_RO_rolled_113 {g : Gx} {Q : Int32 → St → Prop} {σ : St} {t1 : Nat} {x2 : Int32} {x3 : Int32} {x4 : Int32} {x5 : Int32} {x6 : Int32} (ht1 : isSA t1)
    (h : (x4 = 0 → K_RO_lag g x6 x3 σ (fun (r2 : Int32) (s1 : St) => K_RO_lineUp g x5 ((r2).toInt64) s1 (fun s3 : St => ∀ u4 : Int32, u4 = x5 + (1 : Int32) → S_RO_rolled_65 g Q s3 t1 x2 x3 x4 u4))) ∧ (¬ x4 = 0 → vp_in (fi σ t1 9) 6 ∧ (∀ o5 : Nat, o5 = 22 + 5 * ((fi σ t1 9)).toNatClampNeg → isRU o5 → K_RU_keyBy g o5 19 σ (fun (r7 : Int64) (s6 : St) => K_RO_lineUp g x5 r7 s6 (fun s8 : St => ∀ u9 : Int32, u9 = x5 + (1 : Int32) → S_RO_rolled_65 g Q s8 t1 x2 x3 x4 u9))))) : S_RO_rolled_113 g Q σ t1 x2 x3 x4 x5 x6 := by
  show Ax g m_RO_rolled 0 0 (ZI g Q) SH σ 0 0 113 [(0, .ref (gB g + 17)), (1, .ref (gB g + t1)), (2, .int x2), (3, .int x3), (4, .int x4), (5, .int x5), (6, .int x6)] []
  refine a_aload_n (pc := 113) 0 rfl rfl d_RO_rolled_113 ?_
  refine a_iload (pc := 114) 5 rfl d_RO_rolled_114 ?_
  refine a_iload (pc := 116) 4 rfl d_RO_rolled_116 ?_
  refine a_if_eq (pc := 118) 140 (by decide) d_RO_rolled_118 ⟨fun c0 => ?_, fun c0 => ?_⟩
  · replace h := h.1 c0
    refine a_iload (pc := 140) 6 rfl d_RO_rolled_140 ?_
    refine a_iload_n (pc := 142) 3 rfl rfl d_RO_rolled_142 ?_
    refine a_callS (pc := 143) (M' := m_RO_lag) (As := [.int x6, .int x3]) (st := [.int x5, .ref (gB g + 17)]) (mc' := 0) (ms' := 0) lk_RO_75 rfl (by decide) (by decide) rfl (Nat.le_of_ble_eq_true rfl) (Nat.le_refl 0) (Nat.le_refl 0) d_RO_rolled_143 h ?_
    rintro _ _ s1 ⟨r2, rfl, rfl, h⟩ -
    show Ax g m_RO_rolled 0 0 (ZI g Q) SH s1 0 0 146 [(0, .ref (gB g + 17)), (1, .ref (gB g + t1)), (2, .int x2), (3, .int x3), (4, .int x4), (5, .int x5), (6, .int x6)] [.int r2, .int x5, .ref (gB g + 17)]
    refine a_i2l (pc := 146) d_RO_rolled_146 ?_
    refine a_callV (pc := 147) (M' := m_RO_lineUp) (As := [.int x5, .long ((r2).toInt64)]) (st := []) (mc' := 0) (ms' := 0) lk_RO_78 rfl sx_17 rfl (by decide) (by decide) rfl (Nat.le_of_ble_eq_true rfl) (Nat.le_refl 0) (Nat.le_refl 0) d_RO_rolled_147 h ?_
    rintro _ _ s3 ⟨rfl, rfl, h⟩ -
    show Ax g m_RO_rolled 0 0 (ZI g Q) SH s3 0 0 150 [(0, .ref (gB g + 17)), (1, .ref (gB g + t1)), (2, .int x2), (3, .int x3), (4, .int x4), (5, .int x5), (6, .int x6)] []
    obtain ⟨u4, hu4⟩ : ∃ y : Int32, y = x5 + (1 : Int32) := ⟨_, rfl⟩
    replace h := h u4 hu4
    refine a_iinc (pc := 150) (v := u4) (lv' := [(5, .int u4), (0, .ref (gB g + 17)), (1, .ref (gB g + t1)), (2, .int x2), (3, .int x3), (4, .int x4), (6, .int x6)]) 5 rfl (by rw [hu4]; rfl) (Nat.le_of_ble_eq_true rfl) rfl d_RO_rolled_150 ?_
    refine a_goto (pc := 153) 65 (by decide) d_RO_rolled_153 ?_
    refine a_sub (pc := 65) [1, 2, 3, 4, 5, 0] rfl ?_
    exact h
  · replace h := h.2 c0
    refine a_aload_n (pc := 121) 0 rfl rfl d_RO_rolled_121 ?_
    refine a_getR (pc := 122) fg_RO_11 sx_17 rfl d_RO_rolled_122 ?_
    refine a_aload_n (pc := 125) 1 rfl rfl d_RO_rolled_125 ?_
    refine a_getI (pc := 126) fg_RO_44 (sa0 ht1) rfl d_RO_rolled_126 ?_
    obtain ⟨hx, h⟩ := h
    refine a_ald4 (pc := 129) sx_18 hx (rul_ld hx).1 d_RO_rolled_129 ?_
    obtain ⟨o5, eo5⟩ : ∃ y : Nat, y = 22 + 5 * ((fi σ t1 9)).toNatClampNeg := ⟨_, rfl⟩
    have ho5 : isRU o5 := by rw [eo5]; exact (rul_ld hx).2
    rw [← eo5]
    replace h := h o5 eo5 ho5
    refine a_aload_n (pc := 130) 0 rfl rfl d_RO_rolled_130 ?_
    refine a_getR (pc := 131) fg_RO_15 sx_17 rfl d_RO_rolled_131 ?_
    refine a_callV (pc := 134) (M' := m_RU_keyBy) (As := [.ref (gB g + 19)]) (st := [.int x5, .ref (gB g + 17)]) (mc' := 0) (ms' := 0) lk_RO_71 rfl (ru0 ho5) rfl (by decide) (by decide) rfl (Nat.le_of_ble_eq_true rfl) (Nat.le_refl 0) (Nat.le_refl 0) d_RO_rolled_134 h ?_
    rintro _ _ s6 ⟨r7, rfl, rfl, h⟩ -
    show Ax g m_RO_rolled 0 0 (ZI g Q) SH s6 0 0 137 [(0, .ref (gB g + 17)), (1, .ref (gB g + t1)), (2, .int x2), (3, .int x3), (4, .int x4), (5, .int x5), (6, .int x6)] [.long r7, .int x5, .ref (gB g + 17)]
    refine a_goto (pc := 137) 147 (by decide) d_RO_rolled_137 ?_
    refine a_callV (pc := 147) (M' := m_RO_lineUp) (As := [.int x5, .long r7]) (st := []) (mc' := 0) (ms' := 0) lk_RO_78 rfl sx_17 rfl (by decide) (by decide) rfl (Nat.le_of_ble_eq_true rfl) (Nat.le_refl 0) (Nat.le_refl 0) d_RO_rolled_147 h ?_
    rintro _ _ s8 ⟨rfl, rfl, h⟩ -
    show Ax g m_RO_rolled 0 0 (ZI g Q) SH s8 0 0 150 [(0, .ref (gB g + 17)), (1, .ref (gB g + t1)), (2, .int x2), (3, .int x3), (4, .int x4), (5, .int x5), (6, .int x6)] []
    obtain ⟨u9, hu9⟩ : ∃ y : Int32, y = x5 + (1 : Int32) := ⟨_, rfl⟩
    replace h := h u9 hu9
    refine a_iinc (pc := 150) (v := u9) (lv' := [(5, .int u9), (0, .ref (gB g + 17)), (1, .ref (gB g + t1)), (2, .int x2), (3, .int x3), (4, .int x4), (6, .int x6)]) 5 rfl (by rw [hu9]; rfl) (Nat.le_of_ble_eq_true rfl) rfl d_RO_rolled_150 ?_
    refine a_goto (pc := 153) 65 (by decide) d_RO_rolled_153 ?_
    refine a_sub (pc := 65) [1, 2, 3, 4, 5, 0] rfl ?_
    exact h
theorem ko_RO_rolled {g : Gx}  {t1 : Nat} {x2 : Int32} {x3 : Int32} {σ : St} {Q : Int32 → St → Prop} (h : S_RO_rolled_0 g Q σ t1 x2 x3) : K_RO_rolled g t1 x2 x3 σ Q := KI.of (show plainName "BallBox$Roller" = true by decide) (Nat.le_of_ble_eq_true rfl) h
theorem d_RO_someMeet_0 : decode c_RO_someMeet 0 = .ok (.iload_n 1, 1) := by decide +kernel
theorem d_RO_someMeet_1 : decode c_RO_someMeet 1 = .ok (.ifCond .eq 8, 3) := by decide +kernel
theorem d_RO_someMeet_4 : decode c_RO_someMeet 4 = .ok (.iload_n 1, 1) := by decide +kernel
theorem d_RO_someMeet_5 : decode c_RO_someMeet 5 = .ok (.iconst 2, 1) := by decide +kernel
theorem d_RO_someMeet_6 : decode c_RO_someMeet 6 = .ok (.if_icmp .ne 8, 3) := by decide +kernel
theorem d_RO_someMeet_9 : decode c_RO_someMeet 9 = .ok (.bipush 7, 2) := by decide +kernel
theorem d_RO_someMeet_11 : decode c_RO_someMeet 11 = .ok (.goto 5, 3) := by decide +kernel
theorem d_RO_someMeet_14 : decode c_RO_someMeet 14 = .ok (.bipush 56, 2) := by decide +kernel
theorem d_RO_someMeet_16 : decode c_RO_someMeet 16 = .ok (.istore_n 2, 1) := by decide +kernel
theorem d_RO_someMeet_17 : decode c_RO_someMeet 17 = .ok (.iload_n 0, 1) := by decide +kernel
theorem d_RO_someMeet_18 : decode c_RO_someMeet 18 = .ok (.iload_n 2, 1) := by decide +kernel
theorem d_RO_someMeet_19 : decode c_RO_someMeet 19 = .ok (.iand, 1) := by decide +kernel
theorem d_RO_someMeet_20 : decode c_RO_someMeet 20 = .ok (.istore_n 3, 1) := by decide +kernel
theorem d_RO_someMeet_21 : decode c_RO_someMeet 21 = .ok (.iload_n 0, 1) := by decide +kernel
theorem d_RO_someMeet_22 : decode c_RO_someMeet 22 = .ok (.bipush 6, 2) := by decide +kernel
theorem d_RO_someMeet_24 : decode c_RO_someMeet 24 = .ok (.ishr, 1) := by decide +kernel
theorem d_RO_someMeet_25 : decode c_RO_someMeet 25 = .ok (.iload_n 2, 1) := by decide +kernel
theorem d_RO_someMeet_26 : decode c_RO_someMeet 26 = .ok (.iand, 1) := by decide +kernel
theorem d_RO_someMeet_27 : decode c_RO_someMeet 27 = .ok (.istore 4, 2) := by decide +kernel
theorem d_RO_someMeet_29 : decode c_RO_someMeet 29 = .ok (.iload_n 0, 1) := by decide +kernel
theorem d_RO_someMeet_30 : decode c_RO_someMeet 30 = .ok (.bipush 12, 2) := by decide +kernel
theorem d_RO_someMeet_32 : decode c_RO_someMeet 32 = .ok (.ishr, 1) := by decide +kernel
theorem d_RO_someMeet_33 : decode c_RO_someMeet 33 = .ok (.iload_n 2, 1) := by decide +kernel
theorem d_RO_someMeet_34 : decode c_RO_someMeet 34 = .ok (.iand, 1) := by decide +kernel
theorem d_RO_someMeet_35 : decode c_RO_someMeet 35 = .ok (.istore 5, 2) := by decide +kernel
theorem d_RO_someMeet_37 : decode c_RO_someMeet 37 = .ok (.iload_n 3, 1) := by decide +kernel
theorem d_RO_someMeet_38 : decode c_RO_someMeet 38 = .ok (.iload 4, 2) := by decide +kernel
theorem d_RO_someMeet_40 : decode c_RO_someMeet 40 = .ok (.if_icmp .eq 16, 3) := by decide +kernel
theorem d_RO_someMeet_43 : decode c_RO_someMeet 43 = .ok (.iload_n 3, 1) := by decide +kernel
theorem d_RO_someMeet_44 : decode c_RO_someMeet 44 = .ok (.iload 5, 2) := by decide +kernel
theorem d_RO_someMeet_46 : decode c_RO_someMeet 46 = .ok (.if_icmp .eq 10, 3) := by decide +kernel
theorem d_RO_someMeet_49 : decode c_RO_someMeet 49 = .ok (.iload 4, 2) := by decide +kernel
theorem d_RO_someMeet_51 : decode c_RO_someMeet 51 = .ok (.iload 5, 2) := by decide +kernel
theorem d_RO_someMeet_53 : decode c_RO_someMeet 53 = .ok (.if_icmp .ne 7, 3) := by decide +kernel
theorem d_RO_someMeet_56 : decode c_RO_someMeet 56 = .ok (.iconst 1, 1) := by decide +kernel
theorem d_RO_someMeet_57 : decode c_RO_someMeet 57 = .ok (.goto 4, 3) := by decide +kernel
theorem d_RO_someMeet_60 : decode c_RO_someMeet 60 = .ok (.iconst 0, 1) := by decide +kernel
theorem d_RO_someMeet_61 : decode c_RO_someMeet 61 = .ok (.ireturn, 1) := by decide +kernel
def S_RO_someMeet_0 (g : Gx) (Q : Int32 → St → Prop) (σ : St) (x0 : Int32) (x1 : Int32) : Prop := Ax g m_RO_someMeet 0 0 (ZI g Q) SH σ 0 0 0 [(0, .int x0), (1, .int x1)] []
def S_RO_someMeet_16 (g : Gx) (Q : Int32 → St → Prop) (σ : St) (x0 : Int32) (z0 : Int32) : Prop := Ax g m_RO_someMeet 0 0 (ZI g Q) SH σ 0 0 16 [(0, .int x0)] [.int z0]
theorem sg_RO_someMeet_0 {g : Gx} {Q : Int32 → St → Prop} {σ : St} {x0 : Int32} {x1 : Int32}
    (h : (x1 = 0 → S_RO_someMeet_16 g Q σ x0 (7 : Int32)) ∧ (¬ x1 = 0 → (¬ x1 = (2 : Int32) → S_RO_someMeet_16 g Q σ x0 (56 : Int32)) ∧ (x1 = (2 : Int32) → S_RO_someMeet_16 g Q σ x0 (7 : Int32)))) : S_RO_someMeet_0 g Q σ x0 x1 := by
  show Ax g m_RO_someMeet 0 0 (ZI g Q) SH σ 0 0 0 [(0, .int x0), (1, .int x1)] []
  refine a_iload_n (pc := 0) 1 rfl rfl d_RO_someMeet_0 ?_
  refine a_if_eq (pc := 1) 9 (by decide) d_RO_someMeet_1 ⟨fun c0 => ?_, fun c0 => ?_⟩
  · replace h := h.1 c0
    refine a_bipush (pc := 9) (7 : Int32) (by decide) d_RO_someMeet_9 ?_
    refine a_goto (pc := 11) 16 (by decide) d_RO_someMeet_11 ?_
    refine a_sub (pc := 16) [0] rfl ?_
    exact h
  · replace h := h.2 c0
    refine a_iload_n (pc := 4) 1 rfl rfl d_RO_someMeet_4 ?_
    refine a_iconst (pc := 5) (2 : Int32) (by decide) d_RO_someMeet_5 ?_
    refine a_icmp_ne (pc := 6) 14 (by decide) d_RO_someMeet_6 ⟨fun c0 => ?_, fun c0 => ?_⟩
    · replace h := h.1 c0
      refine a_bipush (pc := 14) (56 : Int32) (by decide) d_RO_someMeet_14 ?_
      refine a_sub (pc := 16) [0] rfl ?_
      exact h
    · replace h := h.2 c0
      refine a_bipush (pc := 9) (7 : Int32) (by decide) d_RO_someMeet_9 ?_
      refine a_goto (pc := 11) 16 (by decide) d_RO_someMeet_11 ?_
      refine a_sub (pc := 16) [0] rfl ?_
      exact h
theorem sg_RO_someMeet_16 {g : Gx} {Q : Int32 → St → Prop} {σ : St} {x0 : Int32} {z0 : Int32}
    (h : ∀ u1 : Int32, u1 = (x0 &&& z0) → ∀ u2 : Int32, u2 = ((x0 >>> ((6 : Int32) &&& 31)) &&& z0) → ∀ u3 : Int32, u3 = ((x0 >>> ((12 : Int32) &&& 31)) &&& z0) → (u1 = u2 → Q (1 : Int32) σ) ∧ (¬ u1 = u2 → (u1 = u3 → Q (1 : Int32) σ) ∧ (¬ u1 = u3 → (¬ u2 = u3 → Q (0 : Int32) σ) ∧ (u2 = u3 → Q (1 : Int32) σ)))) : S_RO_someMeet_16 g Q σ x0 z0 := by
  show Ax g m_RO_someMeet 0 0 (ZI g Q) SH σ 0 0 16 [(0, .int x0)] [.int z0]
  refine a_istore_n (pc := 16) (lv' := [(2, .int z0), (0, .int x0)]) rfl (Nat.le_of_ble_eq_true rfl) rfl d_RO_someMeet_16 ?_
  refine a_iload_n (pc := 17) 1 rfl rfl d_RO_someMeet_17 ?_
  refine a_iload_n (pc := 18) 0 rfl rfl d_RO_someMeet_18 ?_
  refine a_iand (pc := 19) d_RO_someMeet_19 ?_
  refine a_nmi (pc := 20) (fun u1 hu1 => ?_)
  replace h := h u1 hu1
  refine a_istore_n (pc := 20) (lv' := [(3, .int u1), (2, .int z0), (0, .int x0)]) rfl (Nat.le_of_ble_eq_true rfl) rfl d_RO_someMeet_20 ?_
  refine a_iload_n (pc := 21) 2 rfl rfl d_RO_someMeet_21 ?_
  refine a_bipush (pc := 22) (6 : Int32) (by decide) d_RO_someMeet_22 ?_
  refine a_ishr (pc := 24) d_RO_someMeet_24 ?_
  refine a_iload_n (pc := 25) 1 rfl rfl d_RO_someMeet_25 ?_
  refine a_iand (pc := 26) d_RO_someMeet_26 ?_
  refine a_nmi (pc := 27) (fun u2 hu2 => ?_)
  replace h := h u2 hu2
  refine a_istore (pc := 27) (lv' := [(4, .int u2), (3, .int u1), (2, .int z0), (0, .int x0)]) (Nat.le_of_ble_eq_true rfl) rfl d_RO_someMeet_27 ?_
  refine a_iload_n (pc := 29) 3 rfl rfl d_RO_someMeet_29 ?_
  refine a_bipush (pc := 30) (12 : Int32) (by decide) d_RO_someMeet_30 ?_
  refine a_ishr (pc := 32) d_RO_someMeet_32 ?_
  refine a_iload_n (pc := 33) 2 rfl rfl d_RO_someMeet_33 ?_
  refine a_iand (pc := 34) d_RO_someMeet_34 ?_
  refine a_nmi (pc := 35) (fun u3 hu3 => ?_)
  replace h := h u3 hu3
  refine a_istore (pc := 35) (lv' := [(5, .int u3), (4, .int u2), (3, .int u1), (2, .int z0), (0, .int x0)]) (Nat.le_of_ble_eq_true rfl) rfl d_RO_someMeet_35 ?_
  refine a_iload_n (pc := 37) 2 rfl rfl d_RO_someMeet_37 ?_
  refine a_iload (pc := 38) 1 rfl d_RO_someMeet_38 ?_
  refine a_icmp_eq (pc := 40) 56 (by decide) d_RO_someMeet_40 ⟨fun c0 => ?_, fun c0 => ?_⟩
  · replace h := h.1 c0
    refine a_iconst (pc := 56) (1 : Int32) (by decide) d_RO_someMeet_56 ?_
    refine a_goto (pc := 57) 61 (by decide) d_RO_someMeet_57 ?_
    exact b_zret (pc := 61) rfl (Or.inr rfl) d_RO_someMeet_61 h
  · replace h := h.2 c0
    refine a_iload_n (pc := 43) 2 rfl rfl d_RO_someMeet_43 ?_
    refine a_iload (pc := 44) 0 rfl d_RO_someMeet_44 ?_
    refine a_icmp_eq (pc := 46) 56 (by decide) d_RO_someMeet_46 ⟨fun c0 => ?_, fun c0 => ?_⟩
    · replace h := h.1 c0
      refine a_iconst (pc := 56) (1 : Int32) (by decide) d_RO_someMeet_56 ?_
      refine a_goto (pc := 57) 61 (by decide) d_RO_someMeet_57 ?_
      exact b_zret (pc := 61) rfl (Or.inr rfl) d_RO_someMeet_61 h
    · replace h := h.2 c0
      refine a_iload (pc := 49) 1 rfl d_RO_someMeet_49 ?_
      refine a_iload (pc := 51) 0 rfl d_RO_someMeet_51 ?_
      refine a_icmp_ne (pc := 53) 60 (by decide) d_RO_someMeet_53 ⟨fun c0 => ?_, fun c0 => ?_⟩
      · replace h := h.1 c0
        refine a_iconst (pc := 60) (0 : Int32) (by decide) d_RO_someMeet_60 ?_
        exact b_zret (pc := 61) rfl (Or.inl rfl) d_RO_someMeet_61 h
      · replace h := h.2 c0
        refine a_iconst (pc := 56) (1 : Int32) (by decide) d_RO_someMeet_56 ?_
        refine a_goto (pc := 57) 61 (by decide) d_RO_someMeet_57 ?_
        exact b_zret (pc := 61) rfl (Or.inr rfl) d_RO_someMeet_61 h
theorem ko_RO_someMeet {g : Gx}  {x0 : Int32} {x1 : Int32} {σ : St} {Q : Int32 → St → Prop} (h : S_RO_someMeet_0 g Q σ x0 x1) : K_RO_someMeet g x0 x1 σ Q := KI.of (show plainName "BallBox$Roller" = true by decide) (Nat.le_of_ble_eq_true rfl) h
theorem d_RO_lineUp_0 : decode c_RO_lineUp 0 = .ok (.aload_n 0, 1) := by decide +kernel
theorem d_RO_lineUp_1 : decode c_RO_lineUp 1 = .ok (.getfield 53, 3) := by decide +kernel
theorem d_RO_lineUp_4 : decode c_RO_lineUp 4 = .ok (.istore 4, 2) := by decide +kernel
theorem d_RO_lineUp_6 : decode c_RO_lineUp 6 = .ok (.iload 4, 2) := by decide +kernel
theorem d_RO_lineUp_8 : decode c_RO_lineUp 8 = .ok (.aload_n 0, 1) := by decide +kernel
theorem d_RO_lineUp_9 : decode c_RO_lineUp 9 = .ok (.getfield 22, 3) := by decide +kernel
theorem d_RO_lineUp_12 : decode c_RO_lineUp 12 = .ok (.arraylength, 1) := by decide +kernel
theorem d_RO_lineUp_13 : decode c_RO_lineUp 13 = .ok (.if_icmp .lt 4, 3) := by decide +kernel
theorem d_RO_lineUp_16 : decode c_RO_lineUp 16 = .ok (.return_, 1) := by decide +kernel
theorem d_RO_lineUp_17 : decode c_RO_lineUp 17 = .ok (.iload 4, 2) := by decide +kernel
theorem d_RO_lineUp_19 : decode c_RO_lineUp 19 = .ok (.ifCond .le 55, 3) := by decide +kernel
theorem d_RO_lineUp_22 : decode c_RO_lineUp 22 = .ok (.aload_n 0, 1) := by decide +kernel
theorem d_RO_lineUp_23 : decode c_RO_lineUp 23 = .ok (.getfield 19, 3) := by decide +kernel
theorem d_RO_lineUp_26 : decode c_RO_lineUp 26 = .ok (.iload 4, 2) := by decide +kernel
theorem d_RO_lineUp_28 : decode c_RO_lineUp 28 = .ok (.iconst 1, 1) := by decide +kernel
theorem d_RO_lineUp_29 : decode c_RO_lineUp 29 = .ok (.isub, 1) := by decide +kernel
theorem d_RO_lineUp_30 : decode c_RO_lineUp 30 = .ok (.laload, 1) := by decide +kernel
theorem d_RO_lineUp_31 : decode c_RO_lineUp 31 = .ok (.lload_n 2, 1) := by decide +kernel
theorem d_RO_lineUp_32 : decode c_RO_lineUp 32 = .ok (.lcmp, 1) := by decide +kernel
theorem d_RO_lineUp_33 : decode c_RO_lineUp 33 = .ok (.ifCond .le 41, 3) := by decide +kernel
theorem d_RO_lineUp_36 : decode c_RO_lineUp 36 = .ok (.aload_n 0, 1) := by decide +kernel
theorem d_RO_lineUp_37 : decode c_RO_lineUp 37 = .ok (.getfield 19, 3) := by decide +kernel
theorem d_RO_lineUp_40 : decode c_RO_lineUp 40 = .ok (.iload 4, 2) := by decide +kernel
theorem d_RO_lineUp_42 : decode c_RO_lineUp 42 = .ok (.aload_n 0, 1) := by decide +kernel
theorem d_RO_lineUp_43 : decode c_RO_lineUp 43 = .ok (.getfield 19, 3) := by decide +kernel
theorem d_RO_lineUp_46 : decode c_RO_lineUp 46 = .ok (.iload 4, 2) := by decide +kernel
theorem d_RO_lineUp_48 : decode c_RO_lineUp 48 = .ok (.iconst 1, 1) := by decide +kernel
theorem d_RO_lineUp_49 : decode c_RO_lineUp 49 = .ok (.isub, 1) := by decide +kernel
theorem d_RO_lineUp_50 : decode c_RO_lineUp 50 = .ok (.laload, 1) := by decide +kernel
theorem d_RO_lineUp_51 : decode c_RO_lineUp 51 = .ok (.lastore, 1) := by decide +kernel
theorem d_RO_lineUp_52 : decode c_RO_lineUp 52 = .ok (.aload_n 0, 1) := by decide +kernel
theorem d_RO_lineUp_53 : decode c_RO_lineUp 53 = .ok (.getfield 22, 3) := by decide +kernel
theorem d_RO_lineUp_56 : decode c_RO_lineUp 56 = .ok (.iload 4, 2) := by decide +kernel
theorem d_RO_lineUp_58 : decode c_RO_lineUp 58 = .ok (.aload_n 0, 1) := by decide +kernel
theorem d_RO_lineUp_59 : decode c_RO_lineUp 59 = .ok (.getfield 22, 3) := by decide +kernel
theorem d_RO_lineUp_62 : decode c_RO_lineUp 62 = .ok (.iload 4, 2) := by decide +kernel
theorem d_RO_lineUp_64 : decode c_RO_lineUp 64 = .ok (.iconst 1, 1) := by decide +kernel
theorem d_RO_lineUp_65 : decode c_RO_lineUp 65 = .ok (.isub, 1) := by decide +kernel
theorem d_RO_lineUp_66 : decode c_RO_lineUp 66 = .ok (.iaload, 1) := by decide +kernel
theorem d_RO_lineUp_67 : decode c_RO_lineUp 67 = .ok (.iastore, 1) := by decide +kernel
theorem d_RO_lineUp_68 : decode c_RO_lineUp 68 = .ok (.iinc 4 (-1), 3) := by decide +kernel
theorem d_RO_lineUp_71 : decode c_RO_lineUp 71 = .ok (.goto (-54), 3) := by decide +kernel
theorem d_RO_lineUp_74 : decode c_RO_lineUp 74 = .ok (.aload_n 0, 1) := by decide +kernel
theorem d_RO_lineUp_75 : decode c_RO_lineUp 75 = .ok (.getfield 19, 3) := by decide +kernel
theorem d_RO_lineUp_78 : decode c_RO_lineUp 78 = .ok (.iload 4, 2) := by decide +kernel
theorem d_RO_lineUp_80 : decode c_RO_lineUp 80 = .ok (.lload_n 2, 1) := by decide +kernel
theorem d_RO_lineUp_81 : decode c_RO_lineUp 81 = .ok (.lastore, 1) := by decide +kernel
theorem d_RO_lineUp_82 : decode c_RO_lineUp 82 = .ok (.aload_n 0, 1) := by decide +kernel
theorem d_RO_lineUp_83 : decode c_RO_lineUp 83 = .ok (.getfield 22, 3) := by decide +kernel
theorem d_RO_lineUp_86 : decode c_RO_lineUp 86 = .ok (.iload 4, 2) := by decide +kernel
theorem d_RO_lineUp_88 : decode c_RO_lineUp 88 = .ok (.iload_n 1, 1) := by decide +kernel
theorem d_RO_lineUp_89 : decode c_RO_lineUp 89 = .ok (.iastore, 1) := by decide +kernel
theorem d_RO_lineUp_90 : decode c_RO_lineUp 90 = .ok (.aload_n 0, 1) := by decide +kernel
theorem d_RO_lineUp_91 : decode c_RO_lineUp 91 = .ok (.dup, 1) := by decide +kernel
theorem d_RO_lineUp_92 : decode c_RO_lineUp 92 = .ok (.getfield 53, 3) := by decide +kernel
theorem d_RO_lineUp_95 : decode c_RO_lineUp 95 = .ok (.iconst 1, 1) := by decide +kernel
theorem d_RO_lineUp_96 : decode c_RO_lineUp 96 = .ok (.iadd, 1) := by decide +kernel
theorem d_RO_lineUp_97 : decode c_RO_lineUp 97 = .ok (.putfield 53, 3) := by decide +kernel
theorem d_RO_lineUp_100 : decode c_RO_lineUp 100 = .ok (.return_, 1) := by decide +kernel
def S_RO_lineUp_0 (g : Gx) (Q : St → Prop) (σ : St) (x1 : Int32) (y2 : Int64) : Prop := Ax g m_RO_lineUp 0 0 (ZV g Q) SH σ 0 0 0 [(0, .ref (gB g + 17)), (1, .int x1), (2, .long y2)] []
def S_RO_lineUp_17 (g : Gx) (Q : St → Prop) (σ : St) (x1 : Int32) (y2 : Int64) (x4 : Int32) : Prop := Ax g m_RO_lineUp 0 0 (ZV g Q) SH σ 0 0 17 [(0, .ref (gB g + 17)), (1, .int x1), (2, .long y2), (4, .int x4)] []
def S_RO_lineUp_74 (g : Gx) (Q : St → Prop) (σ : St) (x1 : Int32) (y2 : Int64) (x4 : Int32) : Prop := Ax g m_RO_lineUp 0 0 (ZV g Q) SH σ 0 0 74 [(0, .ref (gB g + 17)), (1, .int x1), (2, .long y2), (4, .int x4)] []
theorem sg_RO_lineUp_0 {g : Gx} {Q : St → Prop} {σ : St} {x1 : Int32} {y2 : Int64}
    (h : ∀ u1 : Int32, u1 = (fi σ 17 4) → (u1 < (3 : Int32) → S_RO_lineUp_17 g Q σ x1 y2 u1) ∧ (¬ u1 < (3 : Int32) → Q σ)) : S_RO_lineUp_0 g Q σ x1 y2 := by
  show Ax g m_RO_lineUp 0 0 (ZV g Q) SH σ 0 0 0 [(0, .ref (gB g + 17)), (1, .int x1), (2, .long y2)] []
  refine a_aload_n (pc := 0) 0 rfl rfl d_RO_lineUp_0 ?_
  refine a_getI (pc := 1) fg_RO_53 sx_17 rfl d_RO_lineUp_1 ?_
  refine a_nmi (pc := 4) (fun u1 hu1 => ?_)
  replace h := h u1 hu1
  refine a_istore (pc := 4) (lv' := [(4, .int u1), (0, .ref (gB g + 17)), (1, .int x1), (2, .long y2)]) (Nat.le_of_ble_eq_true rfl) rfl d_RO_lineUp_4 ?_
  refine a_iload (pc := 6) 0 rfl d_RO_lineUp_6 ?_
  refine a_aload_n (pc := 8) 1 rfl rfl d_RO_lineUp_8 ?_
  refine a_getR (pc := 9) fg_RO_22 sx_17 rfl d_RO_lineUp_9 ?_
  refine a_alen (pc := 12) (kd := 0) rfl sx_21 d_RO_lineUp_12 ?_
  refine a_icmp_lt (pc := 13) 17 (by decide) d_RO_lineUp_13 ⟨fun c0 => ?_, fun c0 => ?_⟩
  · replace h := h.1 c0
    refine a_sub (pc := 17) [1, 2, 3, 0] rfl ?_
    exact h
  · replace h := h.2 c0
    exact b_vret (pc := 16) rfl d_RO_lineUp_16 h
theorem sg_RO_lineUp_17 {g : Gx} {Q : St → Prop} {σ : St} {x1 : Int32} {y2 : Int64} {x4 : Int32}
    (h : (x4 ≤ 0 → S_RO_lineUp_74 g Q σ x1 y2 x4) ∧ (¬ x4 ≤ 0 → vp_in (x4 - (1 : Int32)) 3 ∧ (((lg_cmp (aj σ 20 ((x4 - (1 : Int32))).toNatClampNeg) y2) ≤ 0 → S_RO_lineUp_74 g Q σ x1 y2 x4) ∧ (¬ (lg_cmp (aj σ 20 ((x4 - (1 : Int32))).toNatClampNeg) y2) ≤ 0 → vp_in (x4 - (1 : Int32)) 3 ∧ (vp_in x4 3 ∧ (∀ s1 : St, s1 = saj σ 20 (x4).toNatClampNeg (aj σ 20 ((x4 - (1 : Int32))).toNatClampNeg) → vp_in (x4 - (1 : Int32)) 3 ∧ (vp_in x4 3 ∧ (∀ s2 : St, s2 = sai s1 21 (x4).toNatClampNeg (ai s1 21 ((x4 - (1 : Int32))).toNatClampNeg) → ∀ u3 : Int32, u3 = x4 + (-1 : Int32) → S_RO_lineUp_17 g Q s2 x1 y2 u3)))))))) : S_RO_lineUp_17 g Q σ x1 y2 x4 := by
  show Ax g m_RO_lineUp 0 0 (ZV g Q) SH σ 0 0 17 [(0, .ref (gB g + 17)), (1, .int x1), (2, .long y2), (4, .int x4)] []
  refine a_iload (pc := 17) 3 rfl d_RO_lineUp_17 ?_
  refine a_if_le (pc := 19) 74 (by decide) d_RO_lineUp_19 ⟨fun c0 => ?_, fun c0 => ?_⟩
  · replace h := h.1 c0
    refine a_sub (pc := 74) [0, 1, 2, 3] rfl ?_
    exact h
  · replace h := h.2 c0
    refine a_aload_n (pc := 22) 0 rfl rfl d_RO_lineUp_22 ?_
    refine a_getR (pc := 23) fg_RO_19 sx_17 rfl d_RO_lineUp_23 ?_
    refine a_iload (pc := 26) 3 rfl d_RO_lineUp_26 ?_
    refine a_iconst (pc := 28) (1 : Int32) (by decide) d_RO_lineUp_28 ?_
    refine a_isub (pc := 29) d_RO_lineUp_29 ?_
    obtain ⟨hx, h⟩ := h
    refine a_lald (pc := 30) sx_20 hx d_RO_lineUp_30 ?_
    refine a_lload_n (pc := 31) 2 rfl rfl d_RO_lineUp_31 ?_
    refine a_lcmp (pc := 32) d_RO_lineUp_32 ?_
    refine a_if_le (pc := 33) 74 (by decide) d_RO_lineUp_33 ⟨fun c0 => ?_, fun c0 => ?_⟩
    · replace h := h.1 c0
      refine a_sub (pc := 74) [0, 1, 2, 3] rfl ?_
      exact h
    · replace h := h.2 c0
      refine a_aload_n (pc := 36) 0 rfl rfl d_RO_lineUp_36 ?_
      refine a_getR (pc := 37) fg_RO_19 sx_17 rfl d_RO_lineUp_37 ?_
      refine a_iload (pc := 40) 3 rfl d_RO_lineUp_40 ?_
      refine a_aload_n (pc := 42) 0 rfl rfl d_RO_lineUp_42 ?_
      refine a_getR (pc := 43) fg_RO_19 sx_17 rfl d_RO_lineUp_43 ?_
      refine a_iload (pc := 46) 3 rfl d_RO_lineUp_46 ?_
      refine a_iconst (pc := 48) (1 : Int32) (by decide) d_RO_lineUp_48 ?_
      refine a_isub (pc := 49) d_RO_lineUp_49 ?_
      obtain ⟨hx, h⟩ := h
      refine a_lald (pc := 50) sx_20 hx d_RO_lineUp_50 ?_
      obtain ⟨hx, h⟩ := h
      refine a_last (pc := 51) sx_20 hx d_RO_lineUp_51 ?_
      refine a_nms (fun s1 hs1 => ?_)
      replace h := h s1 hs1
      refine a_aload_n (pc := 52) 0 rfl rfl d_RO_lineUp_52 ?_
      refine a_getR (pc := 53) fg_RO_22 sx_17 rfl d_RO_lineUp_53 ?_
      refine a_iload (pc := 56) 3 rfl d_RO_lineUp_56 ?_
      refine a_aload_n (pc := 58) 0 rfl rfl d_RO_lineUp_58 ?_
      refine a_getR (pc := 59) fg_RO_22 sx_17 rfl d_RO_lineUp_59 ?_
      refine a_iload (pc := 62) 3 rfl d_RO_lineUp_62 ?_
      refine a_iconst (pc := 64) (1 : Int32) (by decide) d_RO_lineUp_64 ?_
      refine a_isub (pc := 65) d_RO_lineUp_65 ?_
      obtain ⟨hx, h⟩ := h
      refine a_iald (pc := 66) sx_21 hx d_RO_lineUp_66 ?_
      obtain ⟨hx, h⟩ := h
      refine a_iast (pc := 67) sx_21 hx d_RO_lineUp_67 ?_
      refine a_nms (fun s2 hs2 => ?_)
      replace h := h s2 hs2
      obtain ⟨u3, hu3⟩ : ∃ y : Int32, y = x4 + (-1 : Int32) := ⟨_, rfl⟩
      replace h := h u3 hu3
      refine a_iinc (pc := 68) (v := u3) (lv' := [(4, .int u3), (0, .ref (gB g + 17)), (1, .int x1), (2, .long y2)]) 3 rfl (by rw [hu3]; rfl) (Nat.le_of_ble_eq_true rfl) rfl d_RO_lineUp_68 ?_
      refine a_goto (pc := 71) 17 (by decide) d_RO_lineUp_71 ?_
      refine a_sub (pc := 17) [1, 2, 3, 0] rfl ?_
      exact h
theorem sg_RO_lineUp_74 {g : Gx} {Q : St → Prop} {σ : St} {x1 : Int32} {y2 : Int64} {x4 : Int32}
    (h : vp_in x4 3 ∧ (∀ s1 : St, s1 = saj σ 20 (x4).toNatClampNeg y2 → vp_in x4 3 ∧ (∀ s2 : St, s2 = sai s1 21 (x4).toNatClampNeg x1 → ∀ s3 : St, s3 = sfi s2 17 4 ((fi s2 17 4) + (1 : Int32)) → Q s3))) : S_RO_lineUp_74 g Q σ x1 y2 x4 := by
  show Ax g m_RO_lineUp 0 0 (ZV g Q) SH σ 0 0 74 [(0, .ref (gB g + 17)), (1, .int x1), (2, .long y2), (4, .int x4)] []
  refine a_aload_n (pc := 74) 0 rfl rfl d_RO_lineUp_74 ?_
  refine a_getR (pc := 75) fg_RO_19 sx_17 rfl d_RO_lineUp_75 ?_
  refine a_iload (pc := 78) 3 rfl d_RO_lineUp_78 ?_
  refine a_lload_n (pc := 80) 2 rfl rfl d_RO_lineUp_80 ?_
  obtain ⟨hx, h⟩ := h
  refine a_last (pc := 81) sx_20 hx d_RO_lineUp_81 ?_
  refine a_nms (fun s1 hs1 => ?_)
  replace h := h s1 hs1
  refine a_aload_n (pc := 82) 0 rfl rfl d_RO_lineUp_82 ?_
  refine a_getR (pc := 83) fg_RO_22 sx_17 rfl d_RO_lineUp_83 ?_
  refine a_iload (pc := 86) 3 rfl d_RO_lineUp_86 ?_
  refine a_iload_n (pc := 88) 1 rfl rfl d_RO_lineUp_88 ?_
  obtain ⟨hx, h⟩ := h
  refine a_iast (pc := 89) sx_21 hx d_RO_lineUp_89 ?_
  refine a_nms (fun s2 hs2 => ?_)
  replace h := h s2 hs2
  refine a_aload_n (pc := 90) 0 rfl rfl d_RO_lineUp_90 ?_
  refine a_dup (pc := 91) rfl d_RO_lineUp_91 ?_
  refine a_getI (pc := 92) fg_RO_53 sx_17 rfl d_RO_lineUp_92 ?_
  refine a_iconst (pc := 95) (1 : Int32) (by decide) d_RO_lineUp_95 ?_
  refine a_iadd (pc := 96) d_RO_lineUp_96 ?_
  refine a_putI (pc := 97) fp_RO_53 sx_17 rfl d_RO_lineUp_97 ?_
  refine a_nms (fun s3 hs3 => ?_)
  replace h := h s3 hs3
  exact b_vret (pc := 100) rfl d_RO_lineUp_100 h
theorem ko_RO_lineUp {g : Gx}  {x1 : Int32} {y2 : Int64} {σ : St} {Q : St → Prop} (h : S_RO_lineUp_0 g Q σ x1 y2) : K_RO_lineUp g x1 y2 σ Q := KV.of (show plainName "BallBox$Roller" = true by decide) (Nat.le_of_ble_eq_true rfl) h
theorem d_RO_lag_0 : decode c_RO_lag 0 = .ok (.iload_n 1, 1) := by decide +kernel
theorem d_RO_lag_1 : decode c_RO_lag 1 = .ok (.tableswitch 42 0 2 #[27, 31, 37], 27) := by decide +kernel
theorem d_RO_lag_28 : decode c_RO_lag 28 = .ok (.iload_n 0, 1) := by decide +kernel
theorem d_RO_lag_29 : decode c_RO_lag 29 = .ok (.iconst 3, 1) := by decide +kernel
theorem d_RO_lag_30 : decode c_RO_lag 30 = .ok (.ishr, 1) := by decide +kernel
theorem d_RO_lag_31 : decode c_RO_lag 31 = .ok (.ireturn, 1) := by decide +kernel
theorem d_RO_lag_32 : decode c_RO_lag 32 = .ok (.iload_n 0, 1) := by decide +kernel
theorem d_RO_lag_33 : decode c_RO_lag 33 = .ok (.bipush 7, 2) := by decide +kernel
theorem d_RO_lag_35 : decode c_RO_lag 35 = .ok (.iand, 1) := by decide +kernel
theorem d_RO_lag_36 : decode c_RO_lag 36 = .ok (.ineg, 1) := by decide +kernel
theorem d_RO_lag_37 : decode c_RO_lag 37 = .ok (.ireturn, 1) := by decide +kernel
theorem d_RO_lag_38 : decode c_RO_lag 38 = .ok (.iload_n 0, 1) := by decide +kernel
theorem d_RO_lag_39 : decode c_RO_lag 39 = .ok (.iconst 3, 1) := by decide +kernel
theorem d_RO_lag_40 : decode c_RO_lag 40 = .ok (.ishr, 1) := by decide +kernel
theorem d_RO_lag_41 : decode c_RO_lag 41 = .ok (.ineg, 1) := by decide +kernel
theorem d_RO_lag_42 : decode c_RO_lag 42 = .ok (.ireturn, 1) := by decide +kernel
theorem d_RO_lag_43 : decode c_RO_lag 43 = .ok (.iload_n 0, 1) := by decide +kernel
theorem d_RO_lag_44 : decode c_RO_lag 44 = .ok (.bipush 7, 2) := by decide +kernel
theorem d_RO_lag_46 : decode c_RO_lag 46 = .ok (.iand, 1) := by decide +kernel
theorem d_RO_lag_47 : decode c_RO_lag 47 = .ok (.ireturn, 1) := by decide +kernel
def S_RO_lag_0 (g : Gx) (Q : Int32 → St → Prop) (σ : St) (x0 : Int32) (x1 : Int32) : Prop := Ax g m_RO_lag 0 0 (ZI g Q) SH σ 0 0 0 [(0, .int x0), (1, .int x1)] []
theorem sg_RO_lag_0 {g : Gx} {Q : Int32 → St → Prop} {σ : St} {x0 : Int32} {x1 : Int32}
    (h : ((x1 = (0 : Int32) → Q (x0 >>> ((3 : Int32) &&& 31)) σ) ∧ (x1 = (1 : Int32) → Q (-(x0 &&& (7 : Int32))) σ) ∧ (x1 = (2 : Int32) → Q (-(x0 >>> ((3 : Int32) &&& 31))) σ) ∧ (¬ x1 = (0 : Int32) → ¬ x1 = (1 : Int32) → ¬ x1 = (2 : Int32) → Q (x0 &&& (7 : Int32)) σ))) : S_RO_lag_0 g Q σ x0 x1 := by
  show Ax g m_RO_lag 0 0 (ZI g Q) SH σ 0 0 0 [(0, .int x0), (1, .int x1)] []
  refine a_iload_n (pc := 0) 1 rfl rfl d_RO_lag_0 ?_
  by_cases c0 : x1 = (0 : Int32)
  · replace h := h.1 c0
    refine a_tableIn (pc := 1) 28 (off := 27) (by rw [c0]; decide) (by rw [c0]; decide) (by rw [c0]; rfl) (by decide) d_RO_lag_1 ?_
    refine a_iload_n (pc := 28) 0 rfl rfl d_RO_lag_28 ?_
    refine a_iconst (pc := 29) (3 : Int32) (by decide) d_RO_lag_29 ?_
    refine a_ishr (pc := 30) d_RO_lag_30 ?_
    exact b_iret (pc := 31) rfl d_RO_lag_31 h
  replace h := h.2
  by_cases c1 : x1 = (1 : Int32)
  · replace h := h.1 c1
    refine a_tableIn (pc := 1) 32 (off := 31) (by rw [c1]; decide) (by rw [c1]; decide) (by rw [c1]; rfl) (by decide) d_RO_lag_1 ?_
    refine a_iload_n (pc := 32) 0 rfl rfl d_RO_lag_32 ?_
    refine a_bipush (pc := 33) (7 : Int32) (by decide) d_RO_lag_33 ?_
    refine a_iand (pc := 35) d_RO_lag_35 ?_
    refine a_ineg (pc := 36) d_RO_lag_36 ?_
    exact b_iret (pc := 37) rfl d_RO_lag_37 h
  replace h := h.2
  by_cases c2 : x1 = (2 : Int32)
  · replace h := h.1 c2
    refine a_tableIn (pc := 1) 38 (off := 37) (by rw [c2]; decide) (by rw [c2]; decide) (by rw [c2]; rfl) (by decide) d_RO_lag_1 ?_
    refine a_iload_n (pc := 38) 0 rfl rfl d_RO_lag_38 ?_
    refine a_iconst (pc := 39) (3 : Int32) (by decide) d_RO_lag_39 ?_
    refine a_ishr (pc := 40) d_RO_lag_40 ?_
    refine a_ineg (pc := 41) d_RO_lag_41 ?_
    exact b_iret (pc := 42) rfl d_RO_lag_42 h
  replace h := h.2
  replace h := h c0 c1 c2
  have e0 := lv_neT (a := 0) c0 rfl
  have e1 := lv_neT (a := 1) c1 rfl
  have e2 := lv_neT (a := 2) c2 rfl
  refine a_tableOut (pc := 1) 43 (by omega) (by decide) d_RO_lag_1 ?_
  refine a_iload_n (pc := 43) 0 rfl rfl d_RO_lag_43 ?_
  refine a_bipush (pc := 44) (7 : Int32) (by decide) d_RO_lag_44 ?_
  refine a_iand (pc := 46) d_RO_lag_46 ?_
  exact b_iret (pc := 47) rfl d_RO_lag_47 h
theorem ko_RO_lag {g : Gx}  {x0 : Int32} {x1 : Int32} {σ : St} {Q : Int32 → St → Prop} (h : S_RO_lag_0 g Q σ x0 x1) : K_RO_lag g x0 x1 σ Q := KI.of (show plainName "BallBox$Roller" = true by decide) (Nat.le_of_ble_eq_true rfl) h
theorem d_RO_tellWords_0 : decode c_RO_tellWords 0 = .ok (.iload_n 3, 1) := by decide +kernel
theorem d_RO_tellWords_1 : decode c_RO_tellWords 1 = .ok (.iload 4, 2) := by decide +kernel
theorem d_RO_tellWords_3 : decode c_RO_tellWords 3 = .ok (.invokestatic 59, 3) := by decide +kernel
theorem d_RO_tellWords_6 : decode c_RO_tellWords 6 = .ok (.istore 6, 2) := by decide +kernel
theorem d_RO_tellWords_8 : decode c_RO_tellWords 8 = .ok (.aload_n 0, 1) := by decide +kernel
theorem d_RO_tellWords_9 : decode c_RO_tellWords 9 = .ok (.getfield 15, 3) := by decide +kernel
theorem d_RO_tellWords_12 : decode c_RO_tellWords 12 = .ok (.iconst 0, 1) := by decide +kernel
theorem d_RO_tellWords_13 : decode c_RO_tellWords 13 = .ok (.iload 4, 2) := by decide +kernel
theorem d_RO_tellWords_15 : decode c_RO_tellWords 15 = .ok (.i2l, 1) := by decide +kernel
theorem d_RO_tellWords_16 : decode c_RO_tellWords 16 = .ok (.lastore, 1) := by decide +kernel
theorem d_RO_tellWords_17 : decode c_RO_tellWords 17 = .ok (.aload_n 0, 1) := by decide +kernel
theorem d_RO_tellWords_18 : decode c_RO_tellWords 18 = .ok (.getfield 15, 3) := by decide +kernel
theorem d_RO_tellWords_21 : decode c_RO_tellWords 21 = .ok (.iconst 1, 1) := by decide +kernel
theorem d_RO_tellWords_22 : decode c_RO_tellWords 22 = .ok (.iload 6, 2) := by decide +kernel
theorem d_RO_tellWords_24 : decode c_RO_tellWords 24 = .ok (.invokestatic 86, 3) := by decide +kernel
theorem d_RO_tellWords_27 : decode c_RO_tellWords 27 = .ok (.i2l, 1) := by decide +kernel
theorem d_RO_tellWords_28 : decode c_RO_tellWords 28 = .ok (.lastore, 1) := by decide +kernel
theorem d_RO_tellWords_29 : decode c_RO_tellWords 29 = .ok (.aload_n 0, 1) := by decide +kernel
theorem d_RO_tellWords_30 : decode c_RO_tellWords 30 = .ok (.getfield 15, 3) := by decide +kernel
theorem d_RO_tellWords_33 : decode c_RO_tellWords 33 = .ok (.iconst 2, 1) := by decide +kernel
theorem d_RO_tellWords_34 : decode c_RO_tellWords 34 = .ok (.iload 6, 2) := by decide +kernel
theorem d_RO_tellWords_36 : decode c_RO_tellWords 36 = .ok (.invokestatic 90, 3) := by decide +kernel
theorem d_RO_tellWords_39 : decode c_RO_tellWords 39 = .ok (.i2l, 1) := by decide +kernel
theorem d_RO_tellWords_40 : decode c_RO_tellWords 40 = .ok (.lastore, 1) := by decide +kernel
theorem d_RO_tellWords_41 : decode c_RO_tellWords 41 = .ok (.aload_n 0, 1) := by decide +kernel
theorem d_RO_tellWords_42 : decode c_RO_tellWords 42 = .ok (.getfield 15, 3) := by decide +kernel
theorem d_RO_tellWords_45 : decode c_RO_tellWords 45 = .ok (.iconst 3, 1) := by decide +kernel
theorem d_RO_tellWords_46 : decode c_RO_tellWords 46 = .ok (.aload_n 1, 1) := by decide +kernel
theorem d_RO_tellWords_47 : decode c_RO_tellWords 47 = .ok (.iconst 3, 1) := by decide +kernel
theorem d_RO_tellWords_48 : decode c_RO_tellWords 48 = .ok (.invokevirtual 93, 3) := by decide +kernel
theorem d_RO_tellWords_51 : decode c_RO_tellWords 51 = .ok (.ifCond .eq 20, 3) := by decide +kernel
theorem d_RO_tellWords_54 : decode c_RO_tellWords 54 = .ok (.aload_n 2, 1) := by decide +kernel
theorem d_RO_tellWords_55 : decode c_RO_tellWords 55 = .ok (.iload_n 3, 1) := by decide +kernel
theorem d_RO_tellWords_56 : decode c_RO_tellWords 56 = .ok (.iload 6, 2) := by decide +kernel
theorem d_RO_tellWords_58 : decode c_RO_tellWords 58 = .ok (.getstatic 41, 3) := by decide +kernel
theorem d_RO_tellWords_61 : decode c_RO_tellWords 61 = .ok (.iload 5, 2) := by decide +kernel
theorem d_RO_tellWords_63 : decode c_RO_tellWords 63 = .ok (.iaload, 1) := by decide +kernel
theorem d_RO_tellWords_64 : decode c_RO_tellWords 64 = .ok (.invokestatic 96, 3) := by decide +kernel
theorem d_RO_tellWords_67 : decode c_RO_tellWords 67 = .ok (.i2l, 1) := by decide +kernel
theorem d_RO_tellWords_68 : decode c_RO_tellWords 68 = .ok (.goto 4, 3) := by decide +kernel
theorem d_RO_tellWords_71 : decode c_RO_tellWords 71 = .ok (.lconst 0, 1) := by decide +kernel
theorem d_RO_tellWords_72 : decode c_RO_tellWords 72 = .ok (.lastore, 1) := by decide +kernel
theorem d_RO_tellWords_73 : decode c_RO_tellWords 73 = .ok (.aload_n 0, 1) := by decide +kernel
theorem d_RO_tellWords_74 : decode c_RO_tellWords 74 = .ok (.getfield 15, 3) := by decide +kernel
theorem d_RO_tellWords_77 : decode c_RO_tellWords 77 = .ok (.iconst 4, 1) := by decide +kernel
theorem d_RO_tellWords_78 : decode c_RO_tellWords 78 = .ok (.iload 5, 2) := by decide +kernel
theorem d_RO_tellWords_80 : decode c_RO_tellWords 80 = .ok (.i2l, 1) := by decide +kernel
theorem d_RO_tellWords_81 : decode c_RO_tellWords 81 = .ok (.lastore, 1) := by decide +kernel
theorem d_RO_tellWords_82 : decode c_RO_tellWords 82 = .ok (.aload_n 0, 1) := by decide +kernel
theorem d_RO_tellWords_83 : decode c_RO_tellWords 83 = .ok (.getfield 15, 3) := by decide +kernel
theorem d_RO_tellWords_86 : decode c_RO_tellWords 86 = .ok (.iconst 5, 1) := by decide +kernel
theorem d_RO_tellWords_87 : decode c_RO_tellWords 87 = .ok (.aload_n 2, 1) := by decide +kernel
theorem d_RO_tellWords_88 : decode c_RO_tellWords 88 = .ok (.getfield 99, 3) := by decide +kernel
theorem d_RO_tellWords_91 : decode c_RO_tellWords 91 = .ok (.i2l, 1) := by decide +kernel
theorem d_RO_tellWords_92 : decode c_RO_tellWords 92 = .ok (.lastore, 1) := by decide +kernel
theorem d_RO_tellWords_93 : decode c_RO_tellWords 93 = .ok (.aload_n 0, 1) := by decide +kernel
theorem d_RO_tellWords_94 : decode c_RO_tellWords 94 = .ok (.getfield 15, 3) := by decide +kernel
theorem d_RO_tellWords_97 : decode c_RO_tellWords 97 = .ok (.bipush 6, 2) := by decide +kernel
theorem d_RO_tellWords_99 : decode c_RO_tellWords 99 = .ok (.aload_n 1, 1) := by decide +kernel
theorem d_RO_tellWords_100 : decode c_RO_tellWords 100 = .ok (.bipush 6, 2) := by decide +kernel
theorem d_RO_tellWords_102 : decode c_RO_tellWords 102 = .ok (.invokevirtual 93, 3) := by decide +kernel
theorem d_RO_tellWords_105 : decode c_RO_tellWords 105 = .ok (.ifCond .eq 12, 3) := by decide +kernel
theorem d_RO_tellWords_108 : decode c_RO_tellWords 108 = .ok (.aload_n 2, 1) := by decide +kernel
theorem d_RO_tellWords_109 : decode c_RO_tellWords 109 = .ok (.iload_n 3, 1) := by decide +kernel
theorem d_RO_tellWords_110 : decode c_RO_tellWords 110 = .ok (.invokevirtual 102, 3) := by decide +kernel
theorem d_RO_tellWords_113 : decode c_RO_tellWords 113 = .ok (.i2l, 1) := by decide +kernel
theorem d_RO_tellWords_114 : decode c_RO_tellWords 114 = .ok (.goto 4, 3) := by decide +kernel
theorem d_RO_tellWords_117 : decode c_RO_tellWords 117 = .ok (.lconst 0, 1) := by decide +kernel
theorem d_RO_tellWords_118 : decode c_RO_tellWords 118 = .ok (.lastore, 1) := by decide +kernel
theorem d_RO_tellWords_119 : decode c_RO_tellWords 119 = .ok (.aload_n 0, 1) := by decide +kernel
theorem d_RO_tellWords_120 : decode c_RO_tellWords 120 = .ok (.getfield 15, 3) := by decide +kernel
theorem d_RO_tellWords_123 : decode c_RO_tellWords 123 = .ok (.bipush 7, 2) := by decide +kernel
theorem d_RO_tellWords_125 : decode c_RO_tellWords 125 = .ok (.aload_n 1, 1) := by decide +kernel
theorem d_RO_tellWords_126 : decode c_RO_tellWords 126 = .ok (.bipush 7, 2) := by decide +kernel
theorem d_RO_tellWords_128 : decode c_RO_tellWords 128 = .ok (.invokevirtual 93, 3) := by decide +kernel
theorem d_RO_tellWords_131 : decode c_RO_tellWords 131 = .ok (.ifCond .eq 19, 3) := by decide +kernel
theorem d_RO_tellWords_134 : decode c_RO_tellWords 134 = .ok (.iconst 0, 1) := by decide +kernel
theorem d_RO_tellWords_135 : decode c_RO_tellWords 135 = .ok (.aload_n 2, 1) := by decide +kernel
theorem d_RO_tellWords_136 : decode c_RO_tellWords 136 = .ok (.iload 4, 2) := by decide +kernel
theorem d_RO_tellWords_138 : decode c_RO_tellWords 138 = .ok (.iload 6, 2) := by decide +kernel
theorem d_RO_tellWords_140 : decode c_RO_tellWords 140 = .ok (.invokevirtual 105, 3) := by decide +kernel
theorem d_RO_tellWords_143 : decode c_RO_tellWords 143 = .ok (.invokestatic 108, 3) := by decide +kernel
theorem d_RO_tellWords_146 : decode c_RO_tellWords 146 = .ok (.i2l, 1) := by decide +kernel
theorem d_RO_tellWords_147 : decode c_RO_tellWords 147 = .ok (.goto 4, 3) := by decide +kernel
theorem d_RO_tellWords_150 : decode c_RO_tellWords 150 = .ok (.lconst 0, 1) := by decide +kernel
theorem d_RO_tellWords_151 : decode c_RO_tellWords 151 = .ok (.lastore, 1) := by decide +kernel
theorem d_RO_tellWords_152 : decode c_RO_tellWords 152 = .ok (.return_, 1) := by decide +kernel
def S_RO_tellWords_0 (g : Gx) (Q : St → Prop) (σ : St) (t1 : Nat) (t2 : Nat) (x3 : Int32) (x4 : Int32) (x5 : Int32) : Prop := Ax g m_RO_tellWords 0 0 (ZV g Q) SH σ 0 0 0 [(0, .ref (gB g + 17)), (1, .ref (gB g + t1)), (2, .ref (gB g + t2)), (3, .int x3), (4, .int x4), (5, .int x5)] []
def S_RO_tellWords_72 (g : Gx) (Q : St → Prop) (σ : St) (t1 : Nat) (t2 : Nat) (x3 : Int32) (x4 : Int32) (x5 : Int32) (x6 : Int32) (zz0 : Int64) (z1 : Int32) : Prop := Ax g m_RO_tellWords 0 0 (ZV g Q) SH σ 0 0 72 [(0, .ref (gB g + 17)), (1, .ref (gB g + t1)), (2, .ref (gB g + t2)), (3, .int x3), (4, .int x4), (5, .int x5), (6, .int x6)] [.long zz0, .int z1, .ref (gB g + 19)]
def S_RO_tellWords_118 (g : Gx) (Q : St → Prop) (σ : St) (t1 : Nat) (t2 : Nat) (x4 : Int32) (x6 : Int32) (zz0 : Int64) (z1 : Int32) : Prop := Ax g m_RO_tellWords 0 0 (ZV g Q) SH σ 0 0 118 [(0, .ref (gB g + 17)), (1, .ref (gB g + t1)), (2, .ref (gB g + t2)), (4, .int x4), (6, .int x6)] [.long zz0, .int z1, .ref (gB g + 19)]
theorem sg_RO_tellWords_0 {g : Gx} {Q : St → Prop} {σ : St} {t1 : Nat} {t2 : Nat} {x3 : Int32} {x4 : Int32} {x5 : Int32} (ht1 : isRU t1) (ht2 : isSA t2)
    (h : K_SA_spotIn g x3 x4 σ (fun (r2 : Int32) (s1 : St) => vp_in (0 : Int32) 8 ∧ (∀ s3 : St, s3 = saj s1 19 ((0 : Int32)).toNatClampNeg ((x4).toInt64) → K_SA_columnOf g r2 s3 (fun (r5 : Int32) (s4 : St) => vp_in (1 : Int32) 8 ∧ (∀ s6 : St, s6 = saj s4 19 ((1 : Int32)).toNatClampNeg ((r5).toInt64) → K_SA_rowOf g r2 s6 (fun (r8 : Int32) (s7 : St) => vp_in (2 : Int32) 8 ∧ (∀ s9 : St, s9 = saj s7 19 ((2 : Int32)).toNatClampNeg ((r8).toInt64) → K_RU_uses g t1 (3 : Int32) s9 (fun (r11 : Int32) (s10 : St) => (r11 = 0 → S_RO_tellWords_72 g Q s10 t1 t2 x3 x4 x5 r2 (0 : Int64) (3 : Int32)) ∧ (¬ r11 = 0 → vp_in x5 4 ∧ (K_RO_reach g t2 x3 r2 (stepsL.getD (x5).toNatClampNeg 0) s10 (fun (r13 : Int32) (s12 : St) => S_RO_tellWords_72 g Q s12 t1 t2 x3 x4 x5 r2 ((r13).toInt64) (3 : Int32)))))))))))) : S_RO_tellWords_0 g Q σ t1 t2 x3 x4 x5 := by
  show Ax g m_RO_tellWords 0 0 (ZV g Q) SH σ 0 0 0 [(0, .ref (gB g + 17)), (1, .ref (gB g + t1)), (2, .ref (gB g + t2)), (3, .int x3), (4, .int x4), (5, .int x5)] []
  refine a_iload_n (pc := 0) 3 rfl rfl d_RO_tellWords_0 ?_
  refine a_iload (pc := 1) 4 rfl d_RO_tellWords_1 ?_
  refine a_callS (pc := 3) (M' := m_SA_spotIn) (As := [.int x3, .int x4]) (st := []) (mc' := 0) (ms' := 0) lk_RO_59 rfl (by decide) (by decide) rfl (Nat.le_of_ble_eq_true rfl) (Nat.le_refl 0) (Nat.le_refl 0) d_RO_tellWords_3 h ?_
  rintro _ _ s1 ⟨r2, rfl, rfl, h⟩ -
  show Ax g m_RO_tellWords 0 0 (ZV g Q) SH s1 0 0 6 [(0, .ref (gB g + 17)), (1, .ref (gB g + t1)), (2, .ref (gB g + t2)), (3, .int x3), (4, .int x4), (5, .int x5)] [.int r2]
  refine a_istore (pc := 6) (lv' := [(6, .int r2), (0, .ref (gB g + 17)), (1, .ref (gB g + t1)), (2, .ref (gB g + t2)), (3, .int x3), (4, .int x4), (5, .int x5)]) (Nat.le_of_ble_eq_true rfl) rfl d_RO_tellWords_6 ?_
  refine a_aload_n (pc := 8) 1 rfl rfl d_RO_tellWords_8 ?_
  refine a_getR (pc := 9) fg_RO_15 sx_17 rfl d_RO_tellWords_9 ?_
  refine a_iconst (pc := 12) (0 : Int32) (by decide) d_RO_tellWords_12 ?_
  refine a_iload (pc := 13) 5 rfl d_RO_tellWords_13 ?_
  refine a_i2l (pc := 15) d_RO_tellWords_15 ?_
  obtain ⟨hx, h⟩ := h
  refine a_last (pc := 16) sx_19 hx d_RO_tellWords_16 ?_
  refine a_nms (fun s3 hs3 => ?_)
  replace h := h s3 hs3
  refine a_aload_n (pc := 17) 1 rfl rfl d_RO_tellWords_17 ?_
  refine a_getR (pc := 18) fg_RO_15 sx_17 rfl d_RO_tellWords_18 ?_
  refine a_iconst (pc := 21) (1 : Int32) (by decide) d_RO_tellWords_21 ?_
  refine a_iload (pc := 22) 0 rfl d_RO_tellWords_22 ?_
  refine a_callS (pc := 24) (M' := m_SA_columnOf) (As := [.int r2]) (st := [.int (1 : Int32), .ref (gB g + 19)]) (mc' := 0) (ms' := 0) lk_RO_86 rfl (by decide) (by decide) rfl (Nat.le_of_ble_eq_true rfl) (Nat.le_refl 0) (Nat.le_refl 0) d_RO_tellWords_24 h ?_
  rintro _ _ s4 ⟨r5, rfl, rfl, h⟩ -
  show Ax g m_RO_tellWords 0 0 (ZV g Q) SH s4 0 0 27 [(6, .int r2), (0, .ref (gB g + 17)), (1, .ref (gB g + t1)), (2, .ref (gB g + t2)), (3, .int x3), (4, .int x4), (5, .int x5)] [.int r5, .int (1 : Int32), .ref (gB g + 19)]
  refine a_i2l (pc := 27) d_RO_tellWords_27 ?_
  obtain ⟨hx, h⟩ := h
  refine a_last (pc := 28) sx_19 hx d_RO_tellWords_28 ?_
  refine a_nms (fun s6 hs6 => ?_)
  replace h := h s6 hs6
  refine a_aload_n (pc := 29) 1 rfl rfl d_RO_tellWords_29 ?_
  refine a_getR (pc := 30) fg_RO_15 sx_17 rfl d_RO_tellWords_30 ?_
  refine a_iconst (pc := 33) (2 : Int32) (by decide) d_RO_tellWords_33 ?_
  refine a_iload (pc := 34) 0 rfl d_RO_tellWords_34 ?_
  refine a_callS (pc := 36) (M' := m_SA_rowOf) (As := [.int r2]) (st := [.int (2 : Int32), .ref (gB g + 19)]) (mc' := 0) (ms' := 0) lk_RO_90 rfl (by decide) (by decide) rfl (Nat.le_of_ble_eq_true rfl) (Nat.le_refl 0) (Nat.le_refl 0) d_RO_tellWords_36 h ?_
  rintro _ _ s7 ⟨r8, rfl, rfl, h⟩ -
  show Ax g m_RO_tellWords 0 0 (ZV g Q) SH s7 0 0 39 [(6, .int r2), (0, .ref (gB g + 17)), (1, .ref (gB g + t1)), (2, .ref (gB g + t2)), (3, .int x3), (4, .int x4), (5, .int x5)] [.int r8, .int (2 : Int32), .ref (gB g + 19)]
  refine a_i2l (pc := 39) d_RO_tellWords_39 ?_
  obtain ⟨hx, h⟩ := h
  refine a_last (pc := 40) sx_19 hx d_RO_tellWords_40 ?_
  refine a_nms (fun s9 hs9 => ?_)
  replace h := h s9 hs9
  refine a_aload_n (pc := 41) 1 rfl rfl d_RO_tellWords_41 ?_
  refine a_getR (pc := 42) fg_RO_15 sx_17 rfl d_RO_tellWords_42 ?_
  refine a_iconst (pc := 45) (3 : Int32) (by decide) d_RO_tellWords_45 ?_
  refine a_aload_n (pc := 46) 2 rfl rfl d_RO_tellWords_46 ?_
  refine a_iconst (pc := 47) (3 : Int32) (by decide) d_RO_tellWords_47 ?_
  refine a_callV (pc := 48) (M' := m_RU_uses) (As := [.int (3 : Int32)]) (st := [.int (3 : Int32), .ref (gB g + 19)]) (mc' := 0) (ms' := 0) lk_RO_93 rfl (ru0 ht1) rfl (by decide) (by decide) rfl (Nat.le_of_ble_eq_true rfl) (Nat.le_refl 0) (Nat.le_refl 0) d_RO_tellWords_48 h ?_
  rintro _ _ s10 ⟨r11, rfl, rfl, h⟩ -
  show Ax g m_RO_tellWords 0 0 (ZV g Q) SH s10 0 0 51 [(6, .int r2), (0, .ref (gB g + 17)), (1, .ref (gB g + t1)), (2, .ref (gB g + t2)), (3, .int x3), (4, .int x4), (5, .int x5)] [.int r11, .int (3 : Int32), .ref (gB g + 19)]
  refine a_if_eq (pc := 51) 71 (by decide) d_RO_tellWords_51 ⟨fun c0 => ?_, fun c0 => ?_⟩
  · replace h := h.1 c0
    refine a_lconst (pc := 71) (0 : Int64) (by decide) d_RO_tellWords_71 ?_
    refine a_sub (pc := 72) [1, 2, 3, 4, 5, 6, 0] rfl ?_
    exact h
  · replace h := h.2 c0
    refine a_aload_n (pc := 54) 3 rfl rfl d_RO_tellWords_54 ?_
    refine a_iload_n (pc := 55) 4 rfl rfl d_RO_tellWords_55 ?_
    refine a_iload (pc := 56) 0 rfl d_RO_tellWords_56 ?_
    refine a_gstep (pc := 58) tw875 d_RO_tellWords_58 ?_
    refine a_iload (pc := 61) 6 rfl d_RO_tellWords_61 ?_
    obtain ⟨hx, h⟩ := h
    refine a_stld (pc := 63) hx d_RO_tellWords_63 ?_
    refine a_callS (pc := 64) (M' := m_RO_reach) (As := [.ref (gB g + t2), .int x3, .int r2, .int (stepsL.getD (x5).toNatClampNeg 0)]) (st := [.int (3 : Int32), .ref (gB g + 19)]) (mc' := 0) (ms' := 0) lk_RO_96 rfl (by decide) (by decide) rfl (Nat.le_of_ble_eq_true rfl) (Nat.le_refl 0) (Nat.le_refl 0) d_RO_tellWords_64 h ?_
    rintro _ _ s12 ⟨r13, rfl, rfl, h⟩ -
    show Ax g m_RO_tellWords 0 0 (ZV g Q) SH s12 0 0 67 [(6, .int r2), (0, .ref (gB g + 17)), (1, .ref (gB g + t1)), (2, .ref (gB g + t2)), (3, .int x3), (4, .int x4), (5, .int x5)] [.int r13, .int (3 : Int32), .ref (gB g + 19)]
    refine a_i2l (pc := 67) d_RO_tellWords_67 ?_
    refine a_goto (pc := 68) 72 (by decide) d_RO_tellWords_68 ?_
    refine a_sub (pc := 72) [1, 2, 3, 4, 5, 6, 0] rfl ?_
    exact h
theorem sg_RO_tellWords_72 {g : Gx} {Q : St → Prop} {σ : St} {t1 : Nat} {t2 : Nat} {x3 : Int32} {x4 : Int32} {x5 : Int32} {x6 : Int32} {zz0 : Int64} {z1 : Int32} (ht1 : isRU t1) (ht2 : isSA t2)
    (h : vp_in z1 8 ∧ (∀ s1 : St, s1 = saj σ 19 (z1).toNatClampNeg zz0 → vp_in (4 : Int32) 8 ∧ (∀ s2 : St, s2 = saj s1 19 ((4 : Int32)).toNatClampNeg ((x5).toInt64) → vp_in (5 : Int32) 8 ∧ (∀ s3 : St, s3 = saj s2 19 ((5 : Int32)).toNatClampNeg (((fi s2 t2 6)).toInt64) → K_RU_uses g t1 (6 : Int32) s3 (fun (r5 : Int32) (s4 : St) => (r5 = 0 → S_RO_tellWords_118 g Q s4 t1 t2 x4 x6 (0 : Int64) (6 : Int32)) ∧ (¬ r5 = 0 → K_SA_howManyHome g t2 x3 s4 (fun (r7 : Int32) (s6 : St) => S_RO_tellWords_118 g Q s6 t1 t2 x4 x6 ((r7).toInt64) (6 : Int32)))))))) : S_RO_tellWords_72 g Q σ t1 t2 x3 x4 x5 x6 zz0 z1 := by
  show Ax g m_RO_tellWords 0 0 (ZV g Q) SH σ 0 0 72 [(0, .ref (gB g + 17)), (1, .ref (gB g + t1)), (2, .ref (gB g + t2)), (3, .int x3), (4, .int x4), (5, .int x5), (6, .int x6)] [.long zz0, .int z1, .ref (gB g + 19)]
  obtain ⟨hx, h⟩ := h
  refine a_last (pc := 72) sx_19 hx d_RO_tellWords_72 ?_
  refine a_nms (fun s1 hs1 => ?_)
  replace h := h s1 hs1
  refine a_aload_n (pc := 73) 0 rfl rfl d_RO_tellWords_73 ?_
  refine a_getR (pc := 74) fg_RO_15 sx_17 rfl d_RO_tellWords_74 ?_
  refine a_iconst (pc := 77) (4 : Int32) (by decide) d_RO_tellWords_77 ?_
  refine a_iload (pc := 78) 5 rfl d_RO_tellWords_78 ?_
  refine a_i2l (pc := 80) d_RO_tellWords_80 ?_
  obtain ⟨hx, h⟩ := h
  refine a_last (pc := 81) sx_19 hx d_RO_tellWords_81 ?_
  refine a_nms (fun s2 hs2 => ?_)
  replace h := h s2 hs2
  refine a_aload_n (pc := 82) 0 rfl rfl d_RO_tellWords_82 ?_
  refine a_getR (pc := 83) fg_RO_15 sx_17 rfl d_RO_tellWords_83 ?_
  refine a_iconst (pc := 86) (5 : Int32) (by decide) d_RO_tellWords_86 ?_
  refine a_aload_n (pc := 87) 2 rfl rfl d_RO_tellWords_87 ?_
  refine a_getI (pc := 88) fg_RO_99 (sa0 ht2) rfl d_RO_tellWords_88 ?_
  refine a_i2l (pc := 91) d_RO_tellWords_91 ?_
  obtain ⟨hx, h⟩ := h
  refine a_last (pc := 92) sx_19 hx d_RO_tellWords_92 ?_
  refine a_nms (fun s3 hs3 => ?_)
  replace h := h s3 hs3
  refine a_aload_n (pc := 93) 0 rfl rfl d_RO_tellWords_93 ?_
  refine a_getR (pc := 94) fg_RO_15 sx_17 rfl d_RO_tellWords_94 ?_
  refine a_bipush (pc := 97) (6 : Int32) (by decide) d_RO_tellWords_97 ?_
  refine a_aload_n (pc := 99) 1 rfl rfl d_RO_tellWords_99 ?_
  refine a_bipush (pc := 100) (6 : Int32) (by decide) d_RO_tellWords_100 ?_
  refine a_callV (pc := 102) (M' := m_RU_uses) (As := [.int (6 : Int32)]) (st := [.int (6 : Int32), .ref (gB g + 19)]) (mc' := 0) (ms' := 0) lk_RO_93 rfl (ru0 ht1) rfl (by decide) (by decide) rfl (Nat.le_of_ble_eq_true rfl) (Nat.le_refl 0) (Nat.le_refl 0) d_RO_tellWords_102 h ?_
  rintro _ _ s4 ⟨r5, rfl, rfl, h⟩ -
  show Ax g m_RO_tellWords 0 0 (ZV g Q) SH s4 0 0 105 [(0, .ref (gB g + 17)), (1, .ref (gB g + t1)), (2, .ref (gB g + t2)), (3, .int x3), (4, .int x4), (5, .int x5), (6, .int x6)] [.int r5, .int (6 : Int32), .ref (gB g + 19)]
  refine a_if_eq (pc := 105) 117 (by decide) d_RO_tellWords_105 ⟨fun c0 => ?_, fun c0 => ?_⟩
  · replace h := h.1 c0
    refine a_lconst (pc := 117) (0 : Int64) (by decide) d_RO_tellWords_117 ?_
    refine a_sub (pc := 118) [0, 1, 2, 4, 6] rfl ?_
    exact h
  · replace h := h.2 c0
    refine a_aload_n (pc := 108) 2 rfl rfl d_RO_tellWords_108 ?_
    refine a_iload_n (pc := 109) 3 rfl rfl d_RO_tellWords_109 ?_
    refine a_callV (pc := 110) (M' := m_SA_howManyHome) (As := [.int x3]) (st := [.int (6 : Int32), .ref (gB g + 19)]) (mc' := 0) (ms' := 0) lk_RO_102 rfl (sa0 ht2) rfl (by decide) (by decide) rfl (Nat.le_of_ble_eq_true rfl) (Nat.le_refl 0) (Nat.le_refl 0) d_RO_tellWords_110 h ?_
    rintro _ _ s6 ⟨r7, rfl, rfl, h⟩ -
    show Ax g m_RO_tellWords 0 0 (ZV g Q) SH s6 0 0 113 [(0, .ref (gB g + 17)), (1, .ref (gB g + t1)), (2, .ref (gB g + t2)), (3, .int x3), (4, .int x4), (5, .int x5), (6, .int x6)] [.int r7, .int (6 : Int32), .ref (gB g + 19)]
    refine a_i2l (pc := 113) d_RO_tellWords_113 ?_
    refine a_goto (pc := 114) 118 (by decide) d_RO_tellWords_114 ?_
    refine a_sub (pc := 118) [0, 1, 2, 4, 6] rfl ?_
    exact h
theorem sg_RO_tellWords_118 {g : Gx} {Q : St → Prop} {σ : St} {t1 : Nat} {t2 : Nat} {x4 : Int32} {x6 : Int32} {zz0 : Int64} {z1 : Int32} (ht1 : isRU t1) (ht2 : isSA t2)
    (h : vp_in z1 8 ∧ (∀ s1 : St, s1 = saj σ 19 (z1).toNatClampNeg zz0 → K_RU_uses g t1 (7 : Int32) s1 (fun (r3 : Int32) (s2 : St) => (r3 = 0 → vp_in (7 : Int32) 8 ∧ (∀ s4 : St, s4 = saj s2 19 ((7 : Int32)).toNatClampNeg (0 : Int64) → Q s4)) ∧ (¬ r3 = 0 → K_SA_stepsHome g t2 x4 x6 s2 (fun (r6 : Int32) (s5 : St) => vp_in (7 : Int32) 8 ∧ (∀ s7 : St, s7 = saj s5 19 ((7 : Int32)).toNatClampNeg (((if (0 : Int32) < r6 then r6 else (0 : Int32))).toInt64) → Q s7)))))) : S_RO_tellWords_118 g Q σ t1 t2 x4 x6 zz0 z1 := by
  show Ax g m_RO_tellWords 0 0 (ZV g Q) SH σ 0 0 118 [(0, .ref (gB g + 17)), (1, .ref (gB g + t1)), (2, .ref (gB g + t2)), (4, .int x4), (6, .int x6)] [.long zz0, .int z1, .ref (gB g + 19)]
  obtain ⟨hx, h⟩ := h
  refine a_last (pc := 118) sx_19 hx d_RO_tellWords_118 ?_
  refine a_nms (fun s1 hs1 => ?_)
  replace h := h s1 hs1
  refine a_aload_n (pc := 119) 0 rfl rfl d_RO_tellWords_119 ?_
  refine a_getR (pc := 120) fg_RO_15 sx_17 rfl d_RO_tellWords_120 ?_
  refine a_bipush (pc := 123) (7 : Int32) (by decide) d_RO_tellWords_123 ?_
  refine a_aload_n (pc := 125) 1 rfl rfl d_RO_tellWords_125 ?_
  refine a_bipush (pc := 126) (7 : Int32) (by decide) d_RO_tellWords_126 ?_
  refine a_callV (pc := 128) (M' := m_RU_uses) (As := [.int (7 : Int32)]) (st := [.int (7 : Int32), .ref (gB g + 19)]) (mc' := 0) (ms' := 0) lk_RO_93 rfl (ru0 ht1) rfl (by decide) (by decide) rfl (Nat.le_of_ble_eq_true rfl) (Nat.le_refl 0) (Nat.le_refl 0) d_RO_tellWords_128 h ?_
  rintro _ _ s2 ⟨r3, rfl, rfl, h⟩ -
  show Ax g m_RO_tellWords 0 0 (ZV g Q) SH s2 0 0 131 [(0, .ref (gB g + 17)), (1, .ref (gB g + t1)), (2, .ref (gB g + t2)), (4, .int x4), (6, .int x6)] [.int r3, .int (7 : Int32), .ref (gB g + 19)]
  refine a_if_eq (pc := 131) 150 (by decide) d_RO_tellWords_131 ⟨fun c0 => ?_, fun c0 => ?_⟩
  · replace h := h.1 c0
    refine a_lconst (pc := 150) (0 : Int64) (by decide) d_RO_tellWords_150 ?_
    obtain ⟨hx, h⟩ := h
    refine a_last (pc := 151) sx_19 hx d_RO_tellWords_151 ?_
    refine a_nms (fun s4 hs4 => ?_)
    replace h := h s4 hs4
    exact b_vret (pc := 152) rfl d_RO_tellWords_152 h
  · replace h := h.2 c0
    refine a_iconst (pc := 134) (0 : Int32) (by decide) d_RO_tellWords_134 ?_
    refine a_aload_n (pc := 135) 2 rfl rfl d_RO_tellWords_135 ?_
    refine a_iload (pc := 136) 3 rfl d_RO_tellWords_136 ?_
    refine a_iload (pc := 138) 4 rfl d_RO_tellWords_138 ?_
    refine a_callV (pc := 140) (M' := m_SA_stepsHome) (As := [.int x4, .int x6]) (st := [.int (0 : Int32), .int (7 : Int32), .ref (gB g + 19)]) (mc' := 0) (ms' := 0) lk_RO_105 rfl (sa0 ht2) rfl (by decide) (by decide) rfl (Nat.le_of_ble_eq_true rfl) (Nat.le_refl 0) (Nat.le_refl 0) d_RO_tellWords_140 h ?_
    rintro _ _ s5 ⟨r6, rfl, rfl, h⟩ -
    show Ax g m_RO_tellWords 0 0 (ZV g Q) SH s5 0 0 143 [(0, .ref (gB g + 17)), (1, .ref (gB g + t1)), (2, .ref (gB g + t2)), (4, .int x4), (6, .int x6)] [.int r6, .int (0 : Int32), .int (7 : Int32), .ref (gB g + 19)]
    refine a_mmax (pc := 143) tw903 (by decide) (Nat.le_of_ble_eq_true rfl) (Nat.le_refl 0) (Nat.le_refl 0) d_RO_tellWords_143 ?_
    refine a_i2l (pc := 146) d_RO_tellWords_146 ?_
    refine a_goto (pc := 147) 151 (by decide) d_RO_tellWords_147 ?_
    obtain ⟨hx, h⟩ := h
    refine a_last (pc := 151) sx_19 hx d_RO_tellWords_151 ?_
    refine a_nms (fun s7 hs7 => ?_)
    replace h := h s7 hs7
    exact b_vret (pc := 152) rfl d_RO_tellWords_152 h
theorem ko_RO_tellWords {g : Gx}  {t1 : Nat} {t2 : Nat} {x3 : Int32} {x4 : Int32} {x5 : Int32} {σ : St} {Q : St → Prop} (h : S_RO_tellWords_0 g Q σ t1 t2 x3 x4 x5) : K_RO_tellWords g t1 t2 x3 x4 x5 σ Q := KV.of (show plainName "BallBox$Roller" = true by decide) (Nat.le_of_ble_eq_true rfl) h
theorem d_RO_reach_0 : decode c_RO_reach 0 = .ok (.iload_n 1, 1) := by decide +kernel
theorem d_RO_reach_1 : decode c_RO_reach 1 = .ok (.bipush 63, 2) := by decide +kernel
theorem d_RO_reach_3 : decode c_RO_reach 3 = .ok (.iand, 1) := by decide +kernel
theorem d_RO_reach_4 : decode c_RO_reach 4 = .ok (.istore 4, 2) := by decide +kernel
theorem d_RO_reach_6 : decode c_RO_reach 6 = .ok (.iload_n 1, 1) := by decide +kernel
theorem d_RO_reach_7 : decode c_RO_reach 7 = .ok (.bipush 6, 2) := by decide +kernel
theorem d_RO_reach_9 : decode c_RO_reach 9 = .ok (.ishr, 1) := by decide +kernel
theorem d_RO_reach_10 : decode c_RO_reach 10 = .ok (.bipush 63, 2) := by decide +kernel
theorem d_RO_reach_12 : decode c_RO_reach 12 = .ok (.iand, 1) := by decide +kernel
theorem d_RO_reach_13 : decode c_RO_reach 13 = .ok (.istore 5, 2) := by decide +kernel
theorem d_RO_reach_15 : decode c_RO_reach 15 = .ok (.iload_n 1, 1) := by decide +kernel
theorem d_RO_reach_16 : decode c_RO_reach 16 = .ok (.bipush 12, 2) := by decide +kernel
theorem d_RO_reach_18 : decode c_RO_reach 18 = .ok (.ishr, 1) := by decide +kernel
theorem d_RO_reach_19 : decode c_RO_reach 19 = .ok (.bipush 63, 2) := by decide +kernel
theorem d_RO_reach_21 : decode c_RO_reach 21 = .ok (.iand, 1) := by decide +kernel
theorem d_RO_reach_22 : decode c_RO_reach 22 = .ok (.istore 6, 2) := by decide +kernel
theorem d_RO_reach_24 : decode c_RO_reach 24 = .ok (.iload_n 2, 1) := by decide +kernel
theorem d_RO_reach_25 : decode c_RO_reach 25 = .ok (.istore 7, 2) := by decide +kernel
theorem d_RO_reach_27 : decode c_RO_reach 27 = .ok (.iconst 0, 1) := by decide +kernel
theorem d_RO_reach_28 : decode c_RO_reach 28 = .ok (.istore 8, 2) := by decide +kernel
theorem d_RO_reach_30 : decode c_RO_reach 30 = .ok (.iload 8, 2) := by decide +kernel
theorem d_RO_reach_32 : decode c_RO_reach 32 = .ok (.bipush 6, 2) := by decide +kernel
theorem d_RO_reach_34 : decode c_RO_reach 34 = .ok (.if_icmp .ge 99, 3) := by decide +kernel
theorem d_RO_reach_37 : decode c_RO_reach 37 = .ok (.iload 7, 2) := by decide +kernel
theorem d_RO_reach_39 : decode c_RO_reach 39 = .ok (.iload_n 3, 1) := by decide +kernel
theorem d_RO_reach_40 : decode c_RO_reach 40 = .ok (.iadd, 1) := by decide +kernel
theorem d_RO_reach_41 : decode c_RO_reach 41 = .ok (.istore 7, 2) := by decide +kernel
theorem d_RO_reach_43 : decode c_RO_reach 43 = .ok (.iload 7, 2) := by decide +kernel
theorem d_RO_reach_45 : decode c_RO_reach 45 = .ok (.ifCond .lt 10, 3) := by decide +kernel
theorem d_RO_reach_48 : decode c_RO_reach 48 = .ok (.iload 7, 2) := by decide +kernel
theorem d_RO_reach_50 : decode c_RO_reach 50 = .ok (.bipush 64, 2) := by decide +kernel
theorem d_RO_reach_52 : decode c_RO_reach 52 = .ok (.if_icmp .lt 7, 3) := by decide +kernel
theorem d_RO_reach_55 : decode c_RO_reach 55 = .ok (.iconst (-1), 1) := by decide +kernel
theorem d_RO_reach_56 : decode c_RO_reach 56 = .ok (.goto 10, 3) := by decide +kernel
theorem d_RO_reach_59 : decode c_RO_reach 59 = .ok (.aload_n 0, 1) := by decide +kernel
theorem d_RO_reach_60 : decode c_RO_reach 60 = .ok (.getfield 113, 3) := by decide +kernel
theorem d_RO_reach_63 : decode c_RO_reach 63 = .ok (.iload 7, 2) := by decide +kernel
theorem d_RO_reach_65 : decode c_RO_reach 65 = .ok (.iaload, 1) := by decide +kernel
theorem d_RO_reach_66 : decode c_RO_reach 66 = .ok (.istore 9, 2) := by decide +kernel
theorem d_RO_reach_68 : decode c_RO_reach 68 = .ok (.iload 9, 2) := by decide +kernel
theorem d_RO_reach_70 : decode c_RO_reach 70 = .ok (.iconst 1, 1) := by decide +kernel
theorem d_RO_reach_71 : decode c_RO_reach 71 = .ok (.if_icmp .eq 9, 3) := by decide +kernel
theorem d_RO_reach_74 : decode c_RO_reach 74 = .ok (.iload 9, 2) := by decide +kernel
theorem d_RO_reach_76 : decode c_RO_reach 76 = .ok (.iconst (-1), 1) := by decide +kernel
theorem d_RO_reach_77 : decode c_RO_reach 77 = .ok (.if_icmp .ne 7, 3) := by decide +kernel
theorem d_RO_reach_80 : decode c_RO_reach 80 = .ok (.iconst 1, 1) := by decide +kernel
theorem d_RO_reach_81 : decode c_RO_reach 81 = .ok (.goto 4, 3) := by decide +kernel
theorem d_RO_reach_84 : decode c_RO_reach 84 = .ok (.iconst 0, 1) := by decide +kernel
theorem d_RO_reach_85 : decode c_RO_reach 85 = .ok (.istore 10, 2) := by decide +kernel
theorem d_RO_reach_87 : decode c_RO_reach 87 = .ok (.iload 10, 2) := by decide +kernel
theorem d_RO_reach_89 : decode c_RO_reach 89 = .ok (.ifCond .ne 24, 3) := by decide +kernel
theorem d_RO_reach_92 : decode c_RO_reach 92 = .ok (.iload 7, 2) := by decide +kernel
theorem d_RO_reach_94 : decode c_RO_reach 94 = .ok (.iload 4, 2) := by decide +kernel
theorem d_RO_reach_96 : decode c_RO_reach 96 = .ok (.if_icmp .eq 17, 3) := by decide +kernel
theorem d_RO_reach_99 : decode c_RO_reach 99 = .ok (.iload 7, 2) := by decide +kernel
theorem d_RO_reach_101 : decode c_RO_reach 101 = .ok (.iload 5, 2) := by decide +kernel
theorem d_RO_reach_103 : decode c_RO_reach 103 = .ok (.if_icmp .eq 10, 3) := by decide +kernel
theorem d_RO_reach_106 : decode c_RO_reach 106 = .ok (.iload 7, 2) := by decide +kernel
theorem d_RO_reach_108 : decode c_RO_reach 108 = .ok (.iload 6, 2) := by decide +kernel
theorem d_RO_reach_110 : decode c_RO_reach 110 = .ok (.if_icmp .ne 6, 3) := by decide +kernel
theorem d_RO_reach_113 : decode c_RO_reach 113 = .ok (.iload 8, 2) := by decide +kernel
theorem d_RO_reach_115 : decode c_RO_reach 115 = .ok (.ireturn, 1) := by decide +kernel
theorem d_RO_reach_116 : decode c_RO_reach 116 = .ok (.iload 9, 2) := by decide +kernel
theorem d_RO_reach_118 : decode c_RO_reach 118 = .ok (.iconst 2, 1) := by decide +kernel
theorem d_RO_reach_119 : decode c_RO_reach 119 = .ok (.if_icmp .lt 8, 3) := by decide +kernel
theorem d_RO_reach_122 : decode c_RO_reach 122 = .ok (.iload 8, 2) := by decide +kernel
theorem d_RO_reach_124 : decode c_RO_reach 124 = .ok (.iconst 1, 1) := by decide +kernel
theorem d_RO_reach_125 : decode c_RO_reach 125 = .ok (.iadd, 1) := by decide +kernel
theorem d_RO_reach_126 : decode c_RO_reach 126 = .ok (.ireturn, 1) := by decide +kernel
theorem d_RO_reach_127 : decode c_RO_reach 127 = .ok (.iinc 8 1, 3) := by decide +kernel
theorem d_RO_reach_130 : decode c_RO_reach 130 = .ok (.goto (-100), 3) := by decide +kernel
theorem d_RO_reach_133 : decode c_RO_reach 133 = .ok (.bipush 6, 2) := by decide +kernel
theorem d_RO_reach_135 : decode c_RO_reach 135 = .ok (.ireturn, 1) := by decide +kernel
def S_RO_reach_0 (g : Gx) (Q : Int32 → St → Prop) (σ : St) (t0 : Nat) (x1 : Int32) (x2 : Int32) (x3 : Int32) : Prop := Ax g m_RO_reach 0 0 (ZI g Q) SH σ 0 0 0 [(0, .ref (gB g + t0)), (1, .int x1), (2, .int x2), (3, .int x3)] []
def S_RO_reach_30 (g : Gx) (Q : Int32 → St → Prop) (σ : St) (t0 : Nat) (x3 : Int32) (x4 : Int32) (x5 : Int32) (x6 : Int32) (x7 : Int32) (x8 : Int32) : Prop := Ax g m_RO_reach 0 0 (ZI g Q) SH σ 0 0 30 [(0, .ref (gB g + t0)), (3, .int x3), (4, .int x4), (5, .int x5), (6, .int x6), (7, .int x7), (8, .int x8)] []
def S_RO_reach_66 (g : Gx) (Q : Int32 → St → Prop) (σ : St) (t0 : Nat) (x3 : Int32) (x4 : Int32) (x5 : Int32) (x6 : Int32) (x7 : Int32) (x8 : Int32) (z0 : Int32) : Prop := Ax g m_RO_reach 0 0 (ZI g Q) SH σ 0 0 66 [(0, .ref (gB g + t0)), (3, .int x3), (4, .int x4), (5, .int x5), (6, .int x6), (7, .int x7), (8, .int x8)] [.int z0]
def S_RO_reach_85 (g : Gx) (Q : Int32 → St → Prop) (σ : St) (t0 : Nat) (x3 : Int32) (x4 : Int32) (x5 : Int32) (x6 : Int32) (x7 : Int32) (x8 : Int32) (x9 : Int32) (z0 : Int32) : Prop := Ax g m_RO_reach 0 0 (ZI g Q) SH σ 0 0 85 [(0, .ref (gB g + t0)), (3, .int x3), (4, .int x4), (5, .int x5), (6, .int x6), (7, .int x7), (8, .int x8), (9, .int x9)] [.int z0]
theorem sg_RO_reach_0 {g : Gx} {Q : Int32 → St → Prop} {σ : St} {t0 : Nat} {x1 : Int32} {x2 : Int32} {x3 : Int32} (ht0 : isSA t0)
    (h : ∀ u1 : Int32, u1 = (x1 &&& (63 : Int32)) → ∀ u2 : Int32, u2 = ((x1 >>> ((6 : Int32) &&& 31)) &&& (63 : Int32)) → ∀ u3 : Int32, u3 = ((x1 >>> ((12 : Int32) &&& 31)) &&& (63 : Int32)) → S_RO_reach_30 g Q σ t0 x3 u1 u2 u3 x2 (0 : Int32)) : S_RO_reach_0 g Q σ t0 x1 x2 x3 := by
  show Ax g m_RO_reach 0 0 (ZI g Q) SH σ 0 0 0 [(0, .ref (gB g + t0)), (1, .int x1), (2, .int x2), (3, .int x3)] []
  refine a_iload_n (pc := 0) 1 rfl rfl d_RO_reach_0 ?_
  refine a_bipush (pc := 1) (63 : Int32) (by decide) d_RO_reach_1 ?_
  refine a_iand (pc := 3) d_RO_reach_3 ?_
  refine a_nmi (pc := 4) (fun u1 hu1 => ?_)
  replace h := h u1 hu1
  refine a_istore (pc := 4) (lv' := [(4, .int u1), (0, .ref (gB g + t0)), (1, .int x1), (2, .int x2), (3, .int x3)]) (Nat.le_of_ble_eq_true rfl) rfl d_RO_reach_4 ?_
  refine a_iload_n (pc := 6) 2 rfl rfl d_RO_reach_6 ?_
  refine a_bipush (pc := 7) (6 : Int32) (by decide) d_RO_reach_7 ?_
  refine a_ishr (pc := 9) d_RO_reach_9 ?_
  refine a_bipush (pc := 10) (63 : Int32) (by decide) d_RO_reach_10 ?_
  refine a_iand (pc := 12) d_RO_reach_12 ?_
  refine a_nmi (pc := 13) (fun u2 hu2 => ?_)
  replace h := h u2 hu2
  refine a_istore (pc := 13) (lv' := [(5, .int u2), (4, .int u1), (0, .ref (gB g + t0)), (1, .int x1), (2, .int x2), (3, .int x3)]) (Nat.le_of_ble_eq_true rfl) rfl d_RO_reach_13 ?_
  refine a_iload_n (pc := 15) 3 rfl rfl d_RO_reach_15 ?_
  refine a_bipush (pc := 16) (12 : Int32) (by decide) d_RO_reach_16 ?_
  refine a_ishr (pc := 18) d_RO_reach_18 ?_
  refine a_bipush (pc := 19) (63 : Int32) (by decide) d_RO_reach_19 ?_
  refine a_iand (pc := 21) d_RO_reach_21 ?_
  refine a_nmi (pc := 22) (fun u3 hu3 => ?_)
  replace h := h u3 hu3
  refine a_istore (pc := 22) (lv' := [(6, .int u3), (5, .int u2), (4, .int u1), (0, .ref (gB g + t0)), (1, .int x1), (2, .int x2), (3, .int x3)]) (Nat.le_of_ble_eq_true rfl) rfl d_RO_reach_22 ?_
  refine a_iload_n (pc := 24) 5 rfl rfl d_RO_reach_24 ?_
  refine a_istore (pc := 25) (lv' := [(7, .int x2), (6, .int u3), (5, .int u2), (4, .int u1), (0, .ref (gB g + t0)), (1, .int x1), (2, .int x2), (3, .int x3)]) (Nat.le_of_ble_eq_true rfl) rfl d_RO_reach_25 ?_
  refine a_iconst (pc := 27) (0 : Int32) (by decide) d_RO_reach_27 ?_
  refine a_istore (pc := 28) (lv' := [(8, .int (0 : Int32)), (7, .int x2), (6, .int u3), (5, .int u2), (4, .int u1), (0, .ref (gB g + t0)), (1, .int x1), (2, .int x2), (3, .int x3)]) (Nat.le_of_ble_eq_true rfl) rfl d_RO_reach_28 ?_
  refine a_sub (pc := 30) [5, 8, 4, 3, 2, 1, 0] rfl ?_
  exact h
theorem sg_RO_reach_30 {g : Gx} {Q : Int32 → St → Prop} {σ : St} {t0 : Nat} {x3 : Int32} {x4 : Int32} {x5 : Int32} {x6 : Int32} {x7 : Int32} {x8 : Int32} (ht0 : isSA t0)
    (h : ((6 : Int32) ≤ x8 → Q (6 : Int32) σ) ∧ (¬ (6 : Int32) ≤ x8 → ∀ u1 : Int32, u1 = (x7 + x3) → (u1 < 0 → S_RO_reach_66 g Q σ t0 x3 x4 x5 x6 u1 x8 (-1 : Int32)) ∧ (¬ u1 < 0 → (u1 < (64 : Int32) → vp_in u1 64 ∧ (S_RO_reach_66 g Q σ t0 x3 x4 x5 x6 u1 x8 (ai σ (t0 + 1) (u1).toNatClampNeg))) ∧ (¬ u1 < (64 : Int32) → S_RO_reach_66 g Q σ t0 x3 x4 x5 x6 u1 x8 (-1 : Int32))))) : S_RO_reach_30 g Q σ t0 x3 x4 x5 x6 x7 x8 := by
  show Ax g m_RO_reach 0 0 (ZI g Q) SH σ 0 0 30 [(0, .ref (gB g + t0)), (3, .int x3), (4, .int x4), (5, .int x5), (6, .int x6), (7, .int x7), (8, .int x8)] []
  refine a_iload (pc := 30) 6 rfl d_RO_reach_30 ?_
  refine a_bipush (pc := 32) (6 : Int32) (by decide) d_RO_reach_32 ?_
  refine a_icmp_ge (pc := 34) 133 (by decide) d_RO_reach_34 ⟨fun c0 => ?_, fun c0 => ?_⟩
  · replace h := h.1 c0
    refine a_bipush (pc := 133) (6 : Int32) (by decide) d_RO_reach_133 ?_
    exact b_iret (pc := 135) rfl d_RO_reach_135 h
  · replace h := h.2 c0
    refine a_iload (pc := 37) 5 rfl d_RO_reach_37 ?_
    refine a_iload_n (pc := 39) 1 rfl rfl d_RO_reach_39 ?_
    refine a_iadd (pc := 40) d_RO_reach_40 ?_
    refine a_nmi (pc := 41) (fun u1 hu1 => ?_)
    replace h := h u1 hu1
    refine a_istore (pc := 41) (lv' := [(7, .int u1), (0, .ref (gB g + t0)), (3, .int x3), (4, .int x4), (5, .int x5), (6, .int x6), (8, .int x8)]) (Nat.le_of_ble_eq_true rfl) rfl d_RO_reach_41 ?_
    refine a_iload (pc := 43) 0 rfl d_RO_reach_43 ?_
    refine a_if_lt (pc := 45) 55 (by decide) d_RO_reach_45 ⟨fun c0 => ?_, fun c0 => ?_⟩
    · replace h := h.1 c0
      refine a_iconst (pc := 55) (-1 : Int32) (by decide) d_RO_reach_55 ?_
      refine a_goto (pc := 56) 66 (by decide) d_RO_reach_56 ?_
      refine a_sub (pc := 66) [1, 2, 3, 4, 5, 0, 6] rfl ?_
      exact h
    · replace h := h.2 c0
      refine a_iload (pc := 48) 0 rfl d_RO_reach_48 ?_
      refine a_bipush (pc := 50) (64 : Int32) (by decide) d_RO_reach_50 ?_
      refine a_icmp_lt (pc := 52) 59 (by decide) d_RO_reach_52 ⟨fun c0 => ?_, fun c0 => ?_⟩
      · replace h := h.1 c0
        refine a_aload_n (pc := 59) 1 rfl rfl d_RO_reach_59 ?_
        refine a_getR (pc := 60) fg_RO_113 (sa0 ht0) rfl d_RO_reach_60 ?_
        refine a_iload (pc := 63) 0 rfl d_RO_reach_63 ?_
        obtain ⟨hx, h⟩ := h
        refine a_iald (pc := 65) (sa1 ht0) hx d_RO_reach_65 ?_
        refine a_sub (pc := 66) [1, 2, 3, 4, 5, 0, 6] rfl ?_
        exact h
      · replace h := h.2 c0
        refine a_iconst (pc := 55) (-1 : Int32) (by decide) d_RO_reach_55 ?_
        refine a_goto (pc := 56) 66 (by decide) d_RO_reach_56 ?_
        refine a_sub (pc := 66) [1, 2, 3, 4, 5, 0, 6] rfl ?_
        exact h
theorem sg_RO_reach_66 {g : Gx} {Q : Int32 → St → Prop} {σ : St} {t0 : Nat} {x3 : Int32} {x4 : Int32} {x5 : Int32} {x6 : Int32} {x7 : Int32} {x8 : Int32} {z0 : Int32} (ht0 : isSA t0)
    (h : (z0 = (1 : Int32) → S_RO_reach_85 g Q σ t0 x3 x4 x5 x6 x7 x8 z0 (1 : Int32)) ∧ (¬ z0 = (1 : Int32) → (¬ z0 = (-1 : Int32) → S_RO_reach_85 g Q σ t0 x3 x4 x5 x6 x7 x8 z0 (0 : Int32)) ∧ (z0 = (-1 : Int32) → S_RO_reach_85 g Q σ t0 x3 x4 x5 x6 x7 x8 z0 (1 : Int32)))) : S_RO_reach_66 g Q σ t0 x3 x4 x5 x6 x7 x8 z0 := by
  show Ax g m_RO_reach 0 0 (ZI g Q) SH σ 0 0 66 [(0, .ref (gB g + t0)), (3, .int x3), (4, .int x4), (5, .int x5), (6, .int x6), (7, .int x7), (8, .int x8)] [.int z0]
  refine a_istore (pc := 66) (lv' := [(9, .int z0), (0, .ref (gB g + t0)), (3, .int x3), (4, .int x4), (5, .int x5), (6, .int x6), (7, .int x7), (8, .int x8)]) (Nat.le_of_ble_eq_true rfl) rfl d_RO_reach_66 ?_
  refine a_iload (pc := 68) 0 rfl d_RO_reach_68 ?_
  refine a_iconst (pc := 70) (1 : Int32) (by decide) d_RO_reach_70 ?_
  refine a_icmp_eq (pc := 71) 80 (by decide) d_RO_reach_71 ⟨fun c0 => ?_, fun c0 => ?_⟩
  · replace h := h.1 c0
    refine a_iconst (pc := 80) (1 : Int32) (by decide) d_RO_reach_80 ?_
    refine a_goto (pc := 81) 85 (by decide) d_RO_reach_81 ?_
    refine a_sub (pc := 85) [1, 2, 3, 4, 5, 6, 7, 0] rfl ?_
    exact h
  · replace h := h.2 c0
    refine a_iload (pc := 74) 0 rfl d_RO_reach_74 ?_
    refine a_iconst (pc := 76) (-1 : Int32) (by decide) d_RO_reach_76 ?_
    refine a_icmp_ne (pc := 77) 84 (by decide) d_RO_reach_77 ⟨fun c0 => ?_, fun c0 => ?_⟩
    · replace h := h.1 c0
      refine a_iconst (pc := 84) (0 : Int32) (by decide) d_RO_reach_84 ?_
      refine a_sub (pc := 85) [1, 2, 3, 4, 5, 6, 7, 0] rfl ?_
      exact h
    · replace h := h.2 c0
      refine a_iconst (pc := 80) (1 : Int32) (by decide) d_RO_reach_80 ?_
      refine a_goto (pc := 81) 85 (by decide) d_RO_reach_81 ?_
      refine a_sub (pc := 85) [1, 2, 3, 4, 5, 6, 7, 0] rfl ?_
      exact h
theorem sg_RO_reach_85 {g : Gx} {Q : Int32 → St → Prop} {σ : St} {t0 : Nat} {x3 : Int32} {x4 : Int32} {x5 : Int32} {x6 : Int32} {x7 : Int32} {x8 : Int32} {x9 : Int32} {z0 : Int32} (ht0 : isSA t0)
    (h : (¬ z0 = 0 → Q x8 σ) ∧ (z0 = 0 → (x7 = x4 → Q x8 σ) ∧ (¬ x7 = x4 → (x7 = x5 → Q x8 σ) ∧ (¬ x7 = x5 → (¬ x7 = x6 → (x9 < (2 : Int32) → ∀ u1 : Int32, u1 = x8 + (1 : Int32) → S_RO_reach_30 g Q σ t0 x3 x4 x5 x6 x7 u1) ∧ (¬ x9 < (2 : Int32) → Q (x8 + (1 : Int32)) σ)) ∧ (x7 = x6 → Q x8 σ))))) : S_RO_reach_85 g Q σ t0 x3 x4 x5 x6 x7 x8 x9 z0 := by
  show Ax g m_RO_reach 0 0 (ZI g Q) SH σ 0 0 85 [(0, .ref (gB g + t0)), (3, .int x3), (4, .int x4), (5, .int x5), (6, .int x6), (7, .int x7), (8, .int x8), (9, .int x9)] [.int z0]
  refine a_istore (pc := 85) (lv' := [(10, .int z0), (0, .ref (gB g + t0)), (3, .int x3), (4, .int x4), (5, .int x5), (6, .int x6), (7, .int x7), (8, .int x8), (9, .int x9)]) (Nat.le_of_ble_eq_true rfl) rfl d_RO_reach_85 ?_
  refine a_iload (pc := 87) 0 rfl d_RO_reach_87 ?_
  refine a_if_ne (pc := 89) 113 (by decide) d_RO_reach_89 ⟨fun c0 => ?_, fun c0 => ?_⟩
  · replace h := h.1 c0
    refine a_iload (pc := 113) 7 rfl d_RO_reach_113 ?_
    exact b_iret (pc := 115) rfl d_RO_reach_115 h
  · replace h := h.2 c0
    refine a_iload (pc := 92) 6 rfl d_RO_reach_92 ?_
    refine a_iload (pc := 94) 3 rfl d_RO_reach_94 ?_
    refine a_icmp_eq (pc := 96) 113 (by decide) d_RO_reach_96 ⟨fun c0 => ?_, fun c0 => ?_⟩
    · replace h := h.1 c0
      refine a_iload (pc := 113) 7 rfl d_RO_reach_113 ?_
      exact b_iret (pc := 115) rfl d_RO_reach_115 h
    · replace h := h.2 c0
      refine a_iload (pc := 99) 6 rfl d_RO_reach_99 ?_
      refine a_iload (pc := 101) 4 rfl d_RO_reach_101 ?_
      refine a_icmp_eq (pc := 103) 113 (by decide) d_RO_reach_103 ⟨fun c0 => ?_, fun c0 => ?_⟩
      · replace h := h.1 c0
        refine a_iload (pc := 113) 7 rfl d_RO_reach_113 ?_
        exact b_iret (pc := 115) rfl d_RO_reach_115 h
      · replace h := h.2 c0
        refine a_iload (pc := 106) 6 rfl d_RO_reach_106 ?_
        refine a_iload (pc := 108) 5 rfl d_RO_reach_108 ?_
        refine a_icmp_ne (pc := 110) 116 (by decide) d_RO_reach_110 ⟨fun c0 => ?_, fun c0 => ?_⟩
        · replace h := h.1 c0
          refine a_iload (pc := 116) 8 rfl d_RO_reach_116 ?_
          refine a_iconst (pc := 118) (2 : Int32) (by decide) d_RO_reach_118 ?_
          refine a_icmp_lt (pc := 119) 127 (by decide) d_RO_reach_119 ⟨fun c0 => ?_, fun c0 => ?_⟩
          · replace h := h.1 c0
            obtain ⟨u1, hu1⟩ : ∃ y : Int32, y = x8 + (1 : Int32) := ⟨_, rfl⟩
            replace h := h u1 hu1
            refine a_iinc (pc := 127) (v := u1) (lv' := [(8, .int u1), (10, .int z0), (0, .ref (gB g + t0)), (3, .int x3), (4, .int x4), (5, .int x5), (6, .int x6), (7, .int x7), (9, .int x9)]) 7 rfl (by rw [hu1]; rfl) (Nat.le_of_ble_eq_true rfl) rfl d_RO_reach_127 ?_
            refine a_goto (pc := 130) 30 (by decide) d_RO_reach_130 ?_
            refine a_sub (pc := 30) [2, 3, 4, 5, 6, 7, 0] rfl ?_
            exact h
          · replace h := h.2 c0
            refine a_iload (pc := 122) 7 rfl d_RO_reach_122 ?_
            refine a_iconst (pc := 124) (1 : Int32) (by decide) d_RO_reach_124 ?_
            refine a_iadd (pc := 125) d_RO_reach_125 ?_
            exact b_iret (pc := 126) rfl d_RO_reach_126 h
        · replace h := h.2 c0
          refine a_iload (pc := 113) 7 rfl d_RO_reach_113 ?_
          exact b_iret (pc := 115) rfl d_RO_reach_115 h
theorem ko_RO_reach {g : Gx}  {t0 : Nat} {x1 : Int32} {x2 : Int32} {x3 : Int32} {σ : St} {Q : Int32 → St → Prop} (h : S_RO_reach_0 g Q σ t0 x1 x2 x3) : K_RO_reach g t0 x1 x2 x3 σ Q := KI.of (show plainName "BallBox$Roller" = true by decide) (Nat.le_of_ble_eq_true rfl) h
theorem d_RO_rollOne_0 : decode c_RO_rollOne 0 = .ok (.iload_n 2, 1) := by decide +kernel
theorem d_RO_rollOne_1 : decode c_RO_rollOne 1 = .ok (.iload_n 3, 1) := by decide +kernel
theorem d_RO_rollOne_2 : decode c_RO_rollOne 2 = .ok (.invokestatic 59, 3) := by decide +kernel
theorem d_RO_rollOne_5 : decode c_RO_rollOne 5 = .ok (.istore 5, 2) := by decide +kernel
theorem d_RO_rollOne_7 : decode c_RO_rollOne 7 = .ok (.aload_n 1, 1) := by decide +kernel
theorem d_RO_rollOne_8 : decode c_RO_rollOne 8 = .ok (.iload_n 2, 1) := by decide +kernel
theorem d_RO_rollOne_9 : decode c_RO_rollOne 9 = .ok (.iload 5, 2) := by decide +kernel
theorem d_RO_rollOne_11 : decode c_RO_rollOne 11 = .ok (.iload 4, 2) := by decide +kernel
theorem d_RO_rollOne_13 : decode c_RO_rollOne 13 = .ok (.invokestatic 96, 3) := by decide +kernel
theorem d_RO_rollOne_16 : decode c_RO_rollOne 16 = .ok (.istore 6, 2) := by decide +kernel
theorem d_RO_rollOne_18 : decode c_RO_rollOne 18 = .ok (.iload 6, 2) := by decide +kernel
theorem d_RO_rollOne_20 : decode c_RO_rollOne 20 = .ok (.ifCond .ne 5, 3) := by decide +kernel
theorem d_RO_rollOne_23 : decode c_RO_rollOne 23 = .ok (.iload_n 2, 1) := by decide +kernel
theorem d_RO_rollOne_24 : decode c_RO_rollOne 24 = .ok (.ireturn, 1) := by decide +kernel
theorem d_RO_rollOne_25 : decode c_RO_rollOne 25 = .ok (.iload 5, 2) := by decide +kernel
theorem d_RO_rollOne_27 : decode c_RO_rollOne 27 = .ok (.iload 6, 2) := by decide +kernel
theorem d_RO_rollOne_29 : decode c_RO_rollOne 29 = .ok (.iload 4, 2) := by decide +kernel
theorem d_RO_rollOne_31 : decode c_RO_rollOne 31 = .ok (.imul, 1) := by decide +kernel
theorem d_RO_rollOne_32 : decode c_RO_rollOne 32 = .ok (.iadd, 1) := by decide +kernel
theorem d_RO_rollOne_33 : decode c_RO_rollOne 33 = .ok (.istore 7, 2) := by decide +kernel
theorem d_RO_rollOne_35 : decode c_RO_rollOne 35 = .ok (.aload_n 1, 1) := by decide +kernel
theorem d_RO_rollOne_36 : decode c_RO_rollOne 36 = .ok (.iload 7, 2) := by decide +kernel
theorem d_RO_rollOne_38 : decode c_RO_rollOne 38 = .ok (.invokevirtual 116, 3) := by decide +kernel
theorem d_RO_rollOne_41 : decode c_RO_rollOne 41 = .ok (.istore 8, 2) := by decide +kernel
theorem d_RO_rollOne_43 : decode c_RO_rollOne 43 = .ok (.iload 8, 2) := by decide +kernel
theorem d_RO_rollOne_45 : decode c_RO_rollOne 45 = .ok (.iconst 2, 1) := by decide +kernel
theorem d_RO_rollOne_46 : decode c_RO_rollOne 46 = .ok (.if_icmp .ge 21, 3) := by decide +kernel
theorem d_RO_rollOne_49 : decode c_RO_rollOne 49 = .ok (.aload_n 0, 1) := by decide +kernel
theorem d_RO_rollOne_50 : decode c_RO_rollOne 50 = .ok (.dup, 1) := by decide +kernel
theorem d_RO_rollOne_51 : decode c_RO_rollOne 51 = .ok (.getfield 35, 3) := by decide +kernel
theorem d_RO_rollOne_54 : decode c_RO_rollOne 54 = .ok (.iconst 1, 1) := by decide +kernel
theorem d_RO_rollOne_55 : decode c_RO_rollOne 55 = .ok (.iadd, 1) := by decide +kernel
theorem d_RO_rollOne_56 : decode c_RO_rollOne 56 = .ok (.putfield 35, 3) := by decide +kernel
theorem d_RO_rollOne_59 : decode c_RO_rollOne 59 = .ok (.iload_n 2, 1) := by decide +kernel
theorem d_RO_rollOne_60 : decode c_RO_rollOne 60 = .ok (.iload_n 3, 1) := by decide +kernel
theorem d_RO_rollOne_61 : decode c_RO_rollOne 61 = .ok (.iload 7, 2) := by decide +kernel
theorem d_RO_rollOne_63 : decode c_RO_rollOne 63 = .ok (.invokestatic 119, 3) := by decide +kernel
theorem d_RO_rollOne_66 : decode c_RO_rollOne 66 = .ok (.ireturn, 1) := by decide +kernel
theorem d_RO_rollOne_67 : decode c_RO_rollOne 67 = .ok (.aload_n 0, 1) := by decide +kernel
theorem d_RO_rollOne_68 : decode c_RO_rollOne 68 = .ok (.dup, 1) := by decide +kernel
theorem d_RO_rollOne_69 : decode c_RO_rollOne 69 = .ok (.getfield 38, 3) := by decide +kernel
theorem d_RO_rollOne_72 : decode c_RO_rollOne 72 = .ok (.iconst 1, 1) := by decide +kernel
theorem d_RO_rollOne_73 : decode c_RO_rollOne 73 = .ok (.iadd, 1) := by decide +kernel
theorem d_RO_rollOne_74 : decode c_RO_rollOne 74 = .ok (.putfield 38, 3) := by decide +kernel
theorem d_RO_rollOne_77 : decode c_RO_rollOne 77 = .ok (.iload_n 2, 1) := by decide +kernel
theorem d_RO_rollOne_78 : decode c_RO_rollOne 78 = .ok (.iload_n 3, 1) := by decide +kernel
theorem d_RO_rollOne_79 : decode c_RO_rollOne 79 = .ok (.iload 8, 2) := by decide +kernel
theorem d_RO_rollOne_81 : decode c_RO_rollOne 81 = .ok (.iconst 2, 1) := by decide +kernel
theorem d_RO_rollOne_82 : decode c_RO_rollOne 82 = .ok (.isub, 1) := by decide +kernel
theorem d_RO_rollOne_83 : decode c_RO_rollOne 83 = .ok (.iload_n 3, 1) := by decide +kernel
theorem d_RO_rollOne_84 : decode c_RO_rollOne 84 = .ok (.if_icmp .ne 7, 3) := by decide +kernel
theorem d_RO_rollOne_87 : decode c_RO_rollOne 87 = .ok (.iconst 0, 1) := by decide +kernel
theorem d_RO_rollOne_88 : decode c_RO_rollOne 88 = .ok (.goto 5, 3) := by decide +kernel
theorem d_RO_rollOne_91 : decode c_RO_rollOne 91 = .ok (.bipush 7, 2) := by decide +kernel
theorem d_RO_rollOne_93 : decode c_RO_rollOne 93 = .ok (.invokestatic 119, 3) := by decide +kernel
theorem d_RO_rollOne_96 : decode c_RO_rollOne 96 = .ok (.ireturn, 1) := by decide +kernel
def S_RO_rollOne_0 (g : Gx) (Q : Int32 → St → Prop) (σ : St) (t1 : Nat) (x2 : Int32) (x3 : Int32) (x4 : Int32) : Prop := Ax g m_RO_rollOne 0 0 (ZI g Q) SH σ 0 0 0 [(0, .ref (gB g + 17)), (1, .ref (gB g + t1)), (2, .int x2), (3, .int x3), (4, .int x4)] []
theorem sg_RO_rollOne_0 {g : Gx} {Q : Int32 → St → Prop} {σ : St} {t1 : Nat} {x2 : Int32} {x3 : Int32} {x4 : Int32} (ht1 : isSA t1)
    (h : K_SA_spotIn g x2 x3 σ (fun (r2 : Int32) (s1 : St) => K_RO_reach g t1 x2 r2 x4 s1 (fun (r4 : Int32) (s3 : St) => (¬ r4 = 0 → ∀ u5 : Int32, u5 = (r2 + (r4 * x4)) → K_SA_kindAt g t1 u5 s3 (fun (r7 : Int32) (s6 : St) => ((2 : Int32) ≤ r7 → ∀ s8 : St, s8 = sfi s6 17 7 ((fi s6 17 7) + (1 : Int32)) → (¬ (r7 - (2 : Int32)) = x3 → K_SA_laid g x2 x3 (7 : Int32) s8 (fun (r10 : Int32) (s9 : St) => Q r10 s9)) ∧ ((r7 - (2 : Int32)) = x3 → K_SA_laid g x2 x3 (0 : Int32) s8 (fun (r12 : Int32) (s11 : St) => Q r12 s11))) ∧ (¬ (2 : Int32) ≤ r7 → ∀ s13 : St, s13 = sfi s6 17 6 ((fi s6 17 6) + (1 : Int32)) → K_SA_laid g x2 x3 u5 s13 (fun (r15 : Int32) (s14 : St) => Q r15 s14)))) ∧ (r4 = 0 → Q x2 s3)))) : S_RO_rollOne_0 g Q σ t1 x2 x3 x4 := by
  show Ax g m_RO_rollOne 0 0 (ZI g Q) SH σ 0 0 0 [(0, .ref (gB g + 17)), (1, .ref (gB g + t1)), (2, .int x2), (3, .int x3), (4, .int x4)] []
  refine a_iload_n (pc := 0) 2 rfl rfl d_RO_rollOne_0 ?_
  refine a_iload_n (pc := 1) 3 rfl rfl d_RO_rollOne_1 ?_
  refine a_callS (pc := 2) (M' := m_SA_spotIn) (As := [.int x2, .int x3]) (st := []) (mc' := 0) (ms' := 0) lk_RO_59 rfl (by decide) (by decide) rfl (Nat.le_of_ble_eq_true rfl) (Nat.le_refl 0) (Nat.le_refl 0) d_RO_rollOne_2 h ?_
  rintro _ _ s1 ⟨r2, rfl, rfl, h⟩ -
  show Ax g m_RO_rollOne 0 0 (ZI g Q) SH s1 0 0 5 [(0, .ref (gB g + 17)), (1, .ref (gB g + t1)), (2, .int x2), (3, .int x3), (4, .int x4)] [.int r2]
  refine a_istore (pc := 5) (lv' := [(5, .int r2), (0, .ref (gB g + 17)), (1, .ref (gB g + t1)), (2, .int x2), (3, .int x3), (4, .int x4)]) (Nat.le_of_ble_eq_true rfl) rfl d_RO_rollOne_5 ?_
  refine a_aload_n (pc := 7) 2 rfl rfl d_RO_rollOne_7 ?_
  refine a_iload_n (pc := 8) 3 rfl rfl d_RO_rollOne_8 ?_
  refine a_iload (pc := 9) 0 rfl d_RO_rollOne_9 ?_
  refine a_iload (pc := 11) 5 rfl d_RO_rollOne_11 ?_
  refine a_callS (pc := 13) (M' := m_RO_reach) (As := [.ref (gB g + t1), .int x2, .int r2, .int x4]) (st := []) (mc' := 0) (ms' := 0) lk_RO_96 rfl (by decide) (by decide) rfl (Nat.le_of_ble_eq_true rfl) (Nat.le_refl 0) (Nat.le_refl 0) d_RO_rollOne_13 h ?_
  rintro _ _ s3 ⟨r4, rfl, rfl, h⟩ -
  show Ax g m_RO_rollOne 0 0 (ZI g Q) SH s3 0 0 16 [(5, .int r2), (0, .ref (gB g + 17)), (1, .ref (gB g + t1)), (2, .int x2), (3, .int x3), (4, .int x4)] [.int r4]
  refine a_istore (pc := 16) (lv' := [(6, .int r4), (5, .int r2), (0, .ref (gB g + 17)), (1, .ref (gB g + t1)), (2, .int x2), (3, .int x3), (4, .int x4)]) (Nat.le_of_ble_eq_true rfl) rfl d_RO_rollOne_16 ?_
  refine a_iload (pc := 18) 0 rfl d_RO_rollOne_18 ?_
  refine a_if_ne (pc := 20) 25 (by decide) d_RO_rollOne_20 ⟨fun c0 => ?_, fun c0 => ?_⟩
  · replace h := h.1 c0
    refine a_iload (pc := 25) 1 rfl d_RO_rollOne_25 ?_
    refine a_iload (pc := 27) 0 rfl d_RO_rollOne_27 ?_
    refine a_iload (pc := 29) 6 rfl d_RO_rollOne_29 ?_
    refine a_imul (pc := 31) d_RO_rollOne_31 ?_
    refine a_iadd (pc := 32) d_RO_rollOne_32 ?_
    refine a_nmi (pc := 33) (fun u5 hu5 => ?_)
    replace h := h u5 hu5
    refine a_istore (pc := 33) (lv' := [(7, .int u5), (6, .int r4), (5, .int r2), (0, .ref (gB g + 17)), (1, .ref (gB g + t1)), (2, .int x2), (3, .int x3), (4, .int x4)]) (Nat.le_of_ble_eq_true rfl) rfl d_RO_rollOne_33 ?_
    refine a_aload_n (pc := 35) 4 rfl rfl d_RO_rollOne_35 ?_
    refine a_iload (pc := 36) 0 rfl d_RO_rollOne_36 ?_
    refine a_callV (pc := 38) (M' := m_SA_kindAt) (As := [.int u5]) (st := []) (mc' := 0) (ms' := 0) lk_RO_116 rfl (sa0 ht1) rfl (by decide) (by decide) rfl (Nat.le_of_ble_eq_true rfl) (Nat.le_refl 0) (Nat.le_refl 0) d_RO_rollOne_38 h ?_
    rintro _ _ s6 ⟨r7, rfl, rfl, h⟩ -
    show Ax g m_RO_rollOne 0 0 (ZI g Q) SH s6 0 0 41 [(7, .int u5), (6, .int r4), (5, .int r2), (0, .ref (gB g + 17)), (1, .ref (gB g + t1)), (2, .int x2), (3, .int x3), (4, .int x4)] [.int r7]
    refine a_istore (pc := 41) (lv' := [(8, .int r7), (7, .int u5), (6, .int r4), (5, .int r2), (0, .ref (gB g + 17)), (1, .ref (gB g + t1)), (2, .int x2), (3, .int x3), (4, .int x4)]) (Nat.le_of_ble_eq_true rfl) rfl d_RO_rollOne_41 ?_
    refine a_iload (pc := 43) 0 rfl d_RO_rollOne_43 ?_
    refine a_iconst (pc := 45) (2 : Int32) (by decide) d_RO_rollOne_45 ?_
    refine a_icmp_ge (pc := 46) 67 (by decide) d_RO_rollOne_46 ⟨fun c0 => ?_, fun c0 => ?_⟩
    · replace h := h.1 c0
      refine a_aload_n (pc := 67) 4 rfl rfl d_RO_rollOne_67 ?_
      refine a_dup (pc := 68) rfl d_RO_rollOne_68 ?_
      refine a_getI (pc := 69) fg_RO_38 sx_17 rfl d_RO_rollOne_69 ?_
      refine a_iconst (pc := 72) (1 : Int32) (by decide) d_RO_rollOne_72 ?_
      refine a_iadd (pc := 73) d_RO_rollOne_73 ?_
      refine a_putI (pc := 74) fp_RO_38 sx_17 rfl d_RO_rollOne_74 ?_
      refine a_nms (fun s8 hs8 => ?_)
      replace h := h s8 hs8
      refine a_iload_n (pc := 77) 6 rfl rfl d_RO_rollOne_77 ?_
      refine a_iload_n (pc := 78) 7 rfl rfl d_RO_rollOne_78 ?_
      refine a_iload (pc := 79) 0 rfl d_RO_rollOne_79 ?_
      refine a_iconst (pc := 81) (2 : Int32) (by decide) d_RO_rollOne_81 ?_
      refine a_isub (pc := 82) d_RO_rollOne_82 ?_
      refine a_iload_n (pc := 83) 7 rfl rfl d_RO_rollOne_83 ?_
      refine a_icmp_ne (pc := 84) 91 (by decide) d_RO_rollOne_84 ⟨fun c0 => ?_, fun c0 => ?_⟩
      · replace h := h.1 c0
        refine a_bipush (pc := 91) (7 : Int32) (by decide) d_RO_rollOne_91 ?_
        refine a_callS (pc := 93) (M' := m_SA_laid) (As := [.int x2, .int x3, .int (7 : Int32)]) (st := []) (mc' := 0) (ms' := 0) lk_RO_119 rfl (by decide) (by decide) rfl (Nat.le_of_ble_eq_true rfl) (Nat.le_refl 0) (Nat.le_refl 0) d_RO_rollOne_93 h ?_
        rintro _ _ s9 ⟨r10, rfl, rfl, h⟩ -
        show Ax g m_RO_rollOne 0 0 (ZI g Q) SH s9 0 0 96 [(8, .int r7), (7, .int u5), (6, .int r4), (5, .int r2), (0, .ref (gB g + 17)), (1, .ref (gB g + t1)), (2, .int x2), (3, .int x3), (4, .int x4)] [.int r10]
        exact b_iret (pc := 96) rfl d_RO_rollOne_96 h
      · replace h := h.2 c0
        refine a_iconst (pc := 87) (0 : Int32) (by decide) d_RO_rollOne_87 ?_
        refine a_goto (pc := 88) 93 (by decide) d_RO_rollOne_88 ?_
        refine a_callS (pc := 93) (M' := m_SA_laid) (As := [.int x2, .int x3, .int (0 : Int32)]) (st := []) (mc' := 0) (ms' := 0) lk_RO_119 rfl (by decide) (by decide) rfl (Nat.le_of_ble_eq_true rfl) (Nat.le_refl 0) (Nat.le_refl 0) d_RO_rollOne_93 h ?_
        rintro _ _ s11 ⟨r12, rfl, rfl, h⟩ -
        show Ax g m_RO_rollOne 0 0 (ZI g Q) SH s11 0 0 96 [(8, .int r7), (7, .int u5), (6, .int r4), (5, .int r2), (0, .ref (gB g + 17)), (1, .ref (gB g + t1)), (2, .int x2), (3, .int x3), (4, .int x4)] [.int r12]
        exact b_iret (pc := 96) rfl d_RO_rollOne_96 h
    · replace h := h.2 c0
      refine a_aload_n (pc := 49) 4 rfl rfl d_RO_rollOne_49 ?_
      refine a_dup (pc := 50) rfl d_RO_rollOne_50 ?_
      refine a_getI (pc := 51) fg_RO_35 sx_17 rfl d_RO_rollOne_51 ?_
      refine a_iconst (pc := 54) (1 : Int32) (by decide) d_RO_rollOne_54 ?_
      refine a_iadd (pc := 55) d_RO_rollOne_55 ?_
      refine a_putI (pc := 56) fp_RO_35 sx_17 rfl d_RO_rollOne_56 ?_
      refine a_nms (fun s13 hs13 => ?_)
      replace h := h s13 hs13
      refine a_iload_n (pc := 59) 6 rfl rfl d_RO_rollOne_59 ?_
      refine a_iload_n (pc := 60) 7 rfl rfl d_RO_rollOne_60 ?_
      refine a_iload (pc := 61) 1 rfl d_RO_rollOne_61 ?_
      refine a_callS (pc := 63) (M' := m_SA_laid) (As := [.int x2, .int x3, .int u5]) (st := []) (mc' := 0) (ms' := 0) lk_RO_119 rfl (by decide) (by decide) rfl (Nat.le_of_ble_eq_true rfl) (Nat.le_refl 0) (Nat.le_refl 0) d_RO_rollOne_63 h ?_
      rintro _ _ s14 ⟨r15, rfl, rfl, h⟩ -
      show Ax g m_RO_rollOne 0 0 (ZI g Q) SH s14 0 0 66 [(8, .int r7), (7, .int u5), (6, .int r4), (5, .int r2), (0, .ref (gB g + 17)), (1, .ref (gB g + t1)), (2, .int x2), (3, .int x3), (4, .int x4)] [.int r15]
      exact b_iret (pc := 66) rfl d_RO_rollOne_66 h
  · replace h := h.2 c0
    refine a_iload_n (pc := 23) 4 rfl rfl d_RO_rollOne_23 ?_
    exact b_iret (pc := 24) rfl d_RO_rollOne_24 h
theorem ko_RO_rollOne {g : Gx}  {t1 : Nat} {x2 : Int32} {x3 : Int32} {x4 : Int32} {σ : St} {Q : Int32 → St → Prop} (h : S_RO_rollOne_0 g Q σ t1 x2 x3 x4) : K_RO_rollOne g t1 x2 x3 x4 σ Q := KI.of (show plainName "BallBox$Roller" = true by decide) (Nat.le_of_ble_eq_true rfl) h
