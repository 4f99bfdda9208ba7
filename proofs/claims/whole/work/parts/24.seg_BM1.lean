theorem d_BM_signs_0 : decode c_BM_signs 0 = .ok (.aload_n 0, 1) := by decide +kernel
theorem d_BM_signs_1 : decode c_BM_signs 1 = .ok (.invokevirtual 234, 3) := by decide +kernel
theorem d_BM_signs_4 : decode c_BM_signs 4 = .ok (.iconst 0, 1) := by decide +kernel
theorem d_BM_signs_5 : decode c_BM_signs 5 = .ok (.istore_n 1, 1) := by decide +kernel
theorem d_BM_signs_6 : decode c_BM_signs 6 = .ok (.aload_n 0, 1) := by decide +kernel
theorem d_BM_signs_7 : decode c_BM_signs 7 = .ok (.getfield 211, 3) := by decide +kernel
theorem d_BM_signs_10 : decode c_BM_signs 10 = .ok (.ifCond .ne 105, 3) := by decide +kernel
theorem d_BM_signs_13 : decode c_BM_signs 13 = .ok (.aload_n 0, 1) := by decide +kernel
theorem d_BM_signs_14 : decode c_BM_signs 14 = .ok (.invokevirtual 308, 3) := by decide +kernel
theorem d_BM_signs_17 : decode c_BM_signs 17 = .ok (.iconst (-1), 1) := by decide +kernel
theorem d_BM_signs_18 : decode c_BM_signs 18 = .ok (.if_icmp .eq 97, 3) := by decide +kernel
theorem d_BM_signs_21 : decode c_BM_signs 21 = .ok (.aload_n 0, 1) := by decide +kernel
theorem d_BM_signs_22 : decode c_BM_signs 22 = .ok (.invokevirtual 308, 3) := by decide +kernel
theorem d_BM_signs_25 : decode c_BM_signs 25 = .ok (.istore_n 2, 1) := by decide +kernel
theorem d_BM_signs_26 : decode c_BM_signs 26 = .ok (.iload_n 1, 1) := by decide +kernel
theorem d_BM_signs_27 : decode c_BM_signs 27 = .ok (.bipush 6, 2) := by decide +kernel
theorem d_BM_signs_29 : decode c_BM_signs 29 = .ok (.if_icmp .eq 20, 3) := by decide +kernel
theorem d_BM_signs_32 : decode c_BM_signs 32 = .ok (.iload_n 2, 1) := by decide +kernel
theorem d_BM_signs_33 : decode c_BM_signs 33 = .ok (.iconst 2, 1) := by decide +kernel
theorem d_BM_signs_34 : decode c_BM_signs 34 = .ok (.if_icmp .lt 27, 3) := by decide +kernel
theorem d_BM_signs_37 : decode c_BM_signs 37 = .ok (.aload_n 0, 1) := by decide +kernel
theorem d_BM_signs_38 : decode c_BM_signs 38 = .ok (.getfield 311, 3) := by decide +kernel
theorem d_BM_signs_41 : decode c_BM_signs 41 = .ok (.iload_n 2, 1) := by decide +kernel
theorem d_BM_signs_42 : decode c_BM_signs 42 = .ok (.ishr, 1) := by decide +kernel
theorem d_BM_signs_43 : decode c_BM_signs 43 = .ok (.iconst 1, 1) := by decide +kernel
theorem d_BM_signs_44 : decode c_BM_signs 44 = .ok (.iand, 1) := by decide +kernel
theorem d_BM_signs_45 : decode c_BM_signs 45 = .ok (.iconst 1, 1) := by decide +kernel
theorem d_BM_signs_46 : decode c_BM_signs 46 = .ok (.if_icmp .ne 15, 3) := by decide +kernel
theorem d_BM_signs_49 : decode c_BM_signs 49 = .ok (.aload_n 0, 1) := by decide +kernel
theorem d_BM_signs_50 : decode c_BM_signs 50 = .ok (.iconst 5, 1) := by decide +kernel
theorem d_BM_signs_51 : decode c_BM_signs 51 = .ok (.aload_n 0, 1) := by decide +kernel
theorem d_BM_signs_52 : decode c_BM_signs 52 = .ok (.getfield 214, 3) := by decide +kernel
theorem d_BM_signs_55 : decode c_BM_signs 55 = .ok (.invokevirtual 250, 3) := by decide +kernel
theorem d_BM_signs_58 : decode c_BM_signs 58 = .ok (.goto 54, 3) := by decide +kernel
theorem d_BM_signs_61 : decode c_BM_signs 61 = .ok (.aload_n 0, 1) := by decide +kernel
theorem d_BM_signs_62 : decode c_BM_signs 62 = .ok (.dup, 1) := by decide +kernel
theorem d_BM_signs_63 : decode c_BM_signs 63 = .ok (.getfield 311, 3) := by decide +kernel
theorem d_BM_signs_66 : decode c_BM_signs 66 = .ok (.iload_n 2, 1) := by decide +kernel
theorem d_BM_signs_67 : decode c_BM_signs 67 = .ok (.iconst 2, 1) := by decide +kernel
theorem d_BM_signs_68 : decode c_BM_signs 68 = .ok (.if_icmp .lt 9, 3) := by decide +kernel
theorem d_BM_signs_71 : decode c_BM_signs 71 = .ok (.iconst 1, 1) := by decide +kernel
theorem d_BM_signs_72 : decode c_BM_signs 72 = .ok (.iload_n 2, 1) := by decide +kernel
theorem d_BM_signs_73 : decode c_BM_signs 73 = .ok (.ishl, 1) := by decide +kernel
theorem d_BM_signs_74 : decode c_BM_signs 74 = .ok (.goto 4, 3) := by decide +kernel
theorem d_BM_signs_77 : decode c_BM_signs 77 = .ok (.iconst 0, 1) := by decide +kernel
theorem d_BM_signs_78 : decode c_BM_signs 78 = .ok (.ior, 1) := by decide +kernel
theorem d_BM_signs_79 : decode c_BM_signs 79 = .ok (.putfield 311, 3) := by decide +kernel
theorem d_BM_signs_82 : decode c_BM_signs 82 = .ok (.aload_n 0, 1) := by decide +kernel
theorem d_BM_signs_83 : decode c_BM_signs 83 = .ok (.getfield 34, 3) := by decide +kernel
theorem d_BM_signs_86 : decode c_BM_signs 86 = .ok (.bipush 6, 2) := by decide +kernel
theorem d_BM_signs_88 : decode c_BM_signs 88 = .ok (.aload_n 0, 1) := by decide +kernel
theorem d_BM_signs_89 : decode c_BM_signs 89 = .ok (.getfield 31, 3) := by decide +kernel
theorem d_BM_signs_92 : decode c_BM_signs 92 = .ok (.iconst 1, 1) := by decide +kernel
theorem d_BM_signs_93 : decode c_BM_signs 93 = .ok (.iaload, 1) := by decide +kernel
theorem d_BM_signs_94 : decode c_BM_signs 94 = .ok (.imul, 1) := by decide +kernel
theorem d_BM_signs_95 : decode c_BM_signs 95 = .ok (.iload_n 1, 1) := by decide +kernel
theorem d_BM_signs_96 : decode c_BM_signs 96 = .ok (.iadd, 1) := by decide +kernel
theorem d_BM_signs_97 : decode c_BM_signs 97 = .ok (.iload_n 2, 1) := by decide +kernel
theorem d_BM_signs_98 : decode c_BM_signs 98 = .ok (.iastore, 1) := by decide +kernel
theorem d_BM_signs_99 : decode c_BM_signs 99 = .ok (.iinc 1 1, 3) := by decide +kernel
theorem d_BM_signs_102 : decode c_BM_signs 102 = .ok (.aload_n 0, 1) := by decide +kernel
theorem d_BM_signs_103 : decode c_BM_signs 103 = .ok (.dup, 1) := by decide +kernel
theorem d_BM_signs_104 : decode c_BM_signs 104 = .ok (.getfield 214, 3) := by decide +kernel
theorem d_BM_signs_107 : decode c_BM_signs 107 = .ok (.iconst 1, 1) := by decide +kernel
theorem d_BM_signs_108 : decode c_BM_signs 108 = .ok (.iadd, 1) := by decide +kernel
theorem d_BM_signs_109 : decode c_BM_signs 109 = .ok (.putfield 214, 3) := by decide +kernel
theorem d_BM_signs_112 : decode c_BM_signs 112 = .ok (.goto (-106), 3) := by decide +kernel
theorem d_BM_signs_115 : decode c_BM_signs 115 = .ok (.aload_n 0, 1) := by decide +kernel
theorem d_BM_signs_116 : decode c_BM_signs 116 = .ok (.getfield 211, 3) := by decide +kernel
theorem d_BM_signs_119 : decode c_BM_signs 119 = .ok (.ifCond .ne 16, 3) := by decide +kernel
theorem d_BM_signs_122 : decode c_BM_signs 122 = .ok (.iload_n 1, 1) := by decide +kernel
theorem d_BM_signs_123 : decode c_BM_signs 123 = .ok (.ifCond .ne 12, 3) := by decide +kernel
theorem d_BM_signs_126 : decode c_BM_signs 126 = .ok (.aload_n 0, 1) := by decide +kernel
theorem d_BM_signs_127 : decode c_BM_signs 127 = .ok (.iconst 0, 1) := by decide +kernel
theorem d_BM_signs_128 : decode c_BM_signs 128 = .ok (.aload_n 0, 1) := by decide +kernel
theorem d_BM_signs_129 : decode c_BM_signs 129 = .ok (.getfield 214, 3) := by decide +kernel
theorem d_BM_signs_132 : decode c_BM_signs 132 = .ok (.invokevirtual 250, 3) := by decide +kernel
theorem d_BM_signs_135 : decode c_BM_signs 135 = .ok (.aload_n 0, 1) := by decide +kernel
theorem d_BM_signs_136 : decode c_BM_signs 136 = .ok (.getfield 211, 3) := by decide +kernel
theorem d_BM_signs_139 : decode c_BM_signs 139 = .ok (.ifCond .ne 33, 3) := by decide +kernel
theorem d_BM_signs_142 : decode c_BM_signs 142 = .ok (.aload_n 0, 1) := by decide +kernel
theorem d_BM_signs_143 : decode c_BM_signs 143 = .ok (.getfield 31, 3) := by decide +kernel
theorem d_BM_signs_146 : decode c_BM_signs 146 = .ok (.iconst 1, 1) := by decide +kernel
theorem d_BM_signs_147 : decode c_BM_signs 147 = .ok (.iaload, 1) := by decide +kernel
theorem d_BM_signs_148 : decode c_BM_signs 148 = .ok (.ifCond .le 24, 3) := by decide +kernel
theorem d_BM_signs_151 : decode c_BM_signs 151 = .ok (.iload_n 1, 1) := by decide +kernel
theorem d_BM_signs_152 : decode c_BM_signs 152 = .ok (.aload_n 0, 1) := by decide +kernel
theorem d_BM_signs_153 : decode c_BM_signs 153 = .ok (.getfield 31, 3) := by decide +kernel
theorem d_BM_signs_156 : decode c_BM_signs 156 = .ok (.iconst 0, 1) := by decide +kernel
theorem d_BM_signs_157 : decode c_BM_signs 157 = .ok (.iaload, 1) := by decide +kernel
theorem d_BM_signs_158 : decode c_BM_signs 158 = .ok (.if_icmp .eq 14, 3) := by decide +kernel
theorem d_BM_signs_161 : decode c_BM_signs 161 = .ok (.aload_n 0, 1) := by decide +kernel
theorem d_BM_signs_162 : decode c_BM_signs 162 = .ok (.iconst 5, 1) := by decide +kernel
theorem d_BM_signs_163 : decode c_BM_signs 163 = .ok (.aload_n 0, 1) := by decide +kernel
theorem d_BM_signs_164 : decode c_BM_signs 164 = .ok (.getfield 214, 3) := by decide +kernel
theorem d_BM_signs_167 : decode c_BM_signs 167 = .ok (.iconst 1, 1) := by decide +kernel
theorem d_BM_signs_168 : decode c_BM_signs 168 = .ok (.isub, 1) := by decide +kernel
theorem d_BM_signs_169 : decode c_BM_signs 169 = .ok (.invokevirtual 250, 3) := by decide +kernel
theorem d_BM_signs_172 : decode c_BM_signs 172 = .ok (.aload_n 0, 1) := by decide +kernel
theorem d_BM_signs_173 : decode c_BM_signs 173 = .ok (.getfield 31, 3) := by decide +kernel
theorem d_BM_signs_176 : decode c_BM_signs 176 = .ok (.iconst 0, 1) := by decide +kernel
theorem d_BM_signs_177 : decode c_BM_signs 177 = .ok (.iload_n 1, 1) := by decide +kernel
theorem d_BM_signs_178 : decode c_BM_signs 178 = .ok (.iastore, 1) := by decide +kernel
theorem d_BM_signs_179 : decode c_BM_signs 179 = .ok (.aload_n 0, 1) := by decide +kernel
theorem d_BM_signs_180 : decode c_BM_signs 180 = .ok (.getfield 31, 3) := by decide +kernel
theorem d_BM_signs_183 : decode c_BM_signs 183 = .ok (.iconst 1, 1) := by decide +kernel
theorem d_BM_signs_184 : decode c_BM_signs 184 = .ok (.dup2, 1) := by decide +kernel
theorem d_BM_signs_185 : decode c_BM_signs 185 = .ok (.iaload, 1) := by decide +kernel
theorem d_BM_signs_186 : decode c_BM_signs 186 = .ok (.iconst 1, 1) := by decide +kernel
theorem d_BM_signs_187 : decode c_BM_signs 187 = .ok (.iadd, 1) := by decide +kernel
theorem d_BM_signs_188 : decode c_BM_signs 188 = .ok (.iastore, 1) := by decide +kernel
theorem d_BM_signs_189 : decode c_BM_signs 189 = .ok (.return_, 1) := by decide +kernel
def S_BM_signs_0 (g : Gx) (Q : St → Prop) (σ : St) : Prop := Ax g m_BM_signs 0 0 (ZV g Q) SH σ 0 0 0 [(0, .ref (gB g + 151))] []
def S_BM_signs_6 (g : Gx) (Q : St → Prop) (σ : St) (x1 : Int32) : Prop := Ax g m_BM_signs 0 0 (ZV g Q) SH σ 0 0 6 [(0, .ref (gB g + 151)), (1, .int x1)] []
def S_BM_signs_135 (g : Gx) (Q : St → Prop) (σ : St) (x1 : Int32) : Prop := Ax g m_BM_signs 0 0 (ZV g Q) SH σ 0 0 135 [(0, .ref (gB g + 151)), (1, .int x1)] []
def S_BM_signs_78 (g : Gx) (Q : St → Prop) (σ : St) (x1 : Int32) (x2 : Int32) (z0 : Int32) (z1 : Int32) : Prop := Ax g m_BM_signs 0 0 (ZV g Q) SH σ 0 0 78 [(0, .ref (gB g + 151)), (1, .int x1), (2, .int x2)] [.int z0, .int z1, .ref (gB g + 151)]
theorem sg_BM_signs_0 {g : Gx} {Q : St → Prop} {σ : St}
    (h : K_BM_blanks g σ (fun s1 : St => S_BM_signs_6 g Q s1 (0 : Int32))) : S_BM_signs_0 g Q σ := by
  show Ax g m_BM_signs 0 0 (ZV g Q) SH σ 0 0 0 [(0, .ref (gB g + 151))] []
  refine a_aload_n (pc := 0) 0 rfl rfl d_BM_signs_0 ?_
  refine a_callV (pc := 1) (M' := m_BM_blanks) (As := []) (st := []) (mc' := 0) (ms' := 0) lk_BM_234 rfl sx_151 rfl (by decide) (by decide) rfl (Nat.le_of_ble_eq_true rfl) (Nat.le_refl 0) (Nat.le_refl 0) d_BM_signs_1 h ?_
  rintro _ _ s1 ⟨rfl, rfl, h⟩ -
  show Ax g m_BM_signs 0 0 (ZV g Q) SH s1 0 0 4 [(0, .ref (gB g + 151))] []
  refine a_iconst (pc := 4) (0 : Int32) (by decide) d_BM_signs_4 ?_
  refine a_istore_n (pc := 5) (lv' := [(1, .int (0 : Int32)), (0, .ref (gB g + 151))]) rfl (Nat.le_of_ble_eq_true rfl) rfl d_BM_signs_5 ?_
  refine a_sub (pc := 6) [1, 0] rfl ?_
  exact h
theorem sg_BM_signs_6 {g : Gx} {Q : St → Prop} {σ : St} {x1 : Int32}
    (h : (¬ (fi σ 151 13) = 0 → (¬ (fi σ 151 13) = 0 → S_BM_signs_135 g Q σ x1) ∧ ((fi σ 151 13) = 0 → (¬ x1 = 0 → S_BM_signs_135 g Q σ x1) ∧ (x1 = 0 → K_BM_fails g (0 : Int32) (fi σ 151 12) σ (fun s1 : St => S_BM_signs_135 g Q s1 x1)))) ∧ ((fi σ 151 13) = 0 → K_BM_signKind g σ (fun (r3 : Int32) (s2 : St) => (r3 = (-1 : Int32) → (¬ (fi s2 151 13) = 0 → S_BM_signs_135 g Q s2 x1) ∧ ((fi s2 151 13) = 0 → (¬ x1 = 0 → S_BM_signs_135 g Q s2 x1) ∧ (x1 = 0 → K_BM_fails g (0 : Int32) (fi s2 151 12) s2 (fun s4 : St => S_BM_signs_135 g Q s4 x1)))) ∧ (¬ r3 = (-1 : Int32) → K_BM_signKind g s2 (fun (r6 : Int32) (s5 : St) => (x1 = (6 : Int32) → K_BM_fails g (5 : Int32) (fi s5 151 12) s5 (fun s7 : St => S_BM_signs_6 g Q s7 x1)) ∧ (¬ x1 = (6 : Int32) → (r6 < (2 : Int32) → (r6 < (2 : Int32) → S_BM_signs_78 g Q s5 x1 r6 (0 : Int32) (fi s5 151 21)) ∧ (¬ r6 < (2 : Int32) → S_BM_signs_78 g Q s5 x1 r6 ((1 : Int32) <<< (r6 &&& 31)) (fi s5 151 21))) ∧ (¬ r6 < (2 : Int32) → (¬ (((fi s5 151 21) >>> (r6 &&& 31)) &&& (1 : Int32)) = (1 : Int32) → (r6 < (2 : Int32) → S_BM_signs_78 g Q s5 x1 r6 (0 : Int32) (fi s5 151 21)) ∧ (¬ r6 < (2 : Int32) → S_BM_signs_78 g Q s5 x1 r6 ((1 : Int32) <<< (r6 &&& 31)) (fi s5 151 21))) ∧ ((((fi s5 151 21) >>> (r6 &&& 31)) &&& (1 : Int32)) = (1 : Int32) → K_BM_fails g (5 : Int32) (fi s5 151 12) s5 (fun s8 : St => S_BM_signs_6 g Q s8 x1))))))))) : S_BM_signs_6 g Q σ x1 := by
  show Ax g m_BM_signs 0 0 (ZV g Q) SH σ 0 0 6 [(0, .ref (gB g + 151)), (1, .int x1)] []
  refine a_aload_n (pc := 6) 0 rfl rfl d_BM_signs_6 ?_
  refine a_getI (pc := 7) fg_BM_211 sx_151 rfl d_BM_signs_7 ?_
  refine a_if_ne (pc := 10) 115 (by decide) d_BM_signs_10 ⟨fun c0 => ?_, fun c0 => ?_⟩
  · replace h := h.1 c0
    refine a_aload_n (pc := 115) 0 rfl rfl d_BM_signs_115 ?_
    refine a_getI (pc := 116) fg_BM_211 sx_151 rfl d_BM_signs_116 ?_
    refine a_if_ne (pc := 119) 135 (by decide) d_BM_signs_119 ⟨fun c0 => ?_, fun c0 => ?_⟩
    · replace h := h.1 c0
      refine a_sub (pc := 135) [0, 1] rfl ?_
      exact h
    · replace h := h.2 c0
      refine a_iload_n (pc := 122) 1 rfl rfl d_BM_signs_122 ?_
      refine a_if_ne (pc := 123) 135 (by decide) d_BM_signs_123 ⟨fun c0 => ?_, fun c0 => ?_⟩
      · replace h := h.1 c0
        refine a_sub (pc := 135) [0, 1] rfl ?_
        exact h
      · replace h := h.2 c0
        refine a_aload_n (pc := 126) 0 rfl rfl d_BM_signs_126 ?_
        refine a_iconst (pc := 127) (0 : Int32) (by decide) d_BM_signs_127 ?_
        refine a_aload_n (pc := 128) 0 rfl rfl d_BM_signs_128 ?_
        refine a_getI (pc := 129) fg_BM_214 sx_151 rfl d_BM_signs_129 ?_
        refine a_callV (pc := 132) (M' := m_BM_fails) (As := [.int (0 : Int32), .int (fi σ 151 12)]) (st := []) (mc' := 0) (ms' := 0) lk_BM_250 rfl sx_151 rfl (by decide) (by decide) rfl (Nat.le_of_ble_eq_true rfl) (Nat.le_refl 0) (Nat.le_refl 0) d_BM_signs_132 h ?_
        rintro _ _ s1 ⟨rfl, rfl, h⟩ -
        show Ax g m_BM_signs 0 0 (ZV g Q) SH s1 0 0 135 [(0, .ref (gB g + 151)), (1, .int x1)] []
        refine a_sub (pc := 135) [0, 1] rfl ?_
        exact h
  · replace h := h.2 c0
    refine a_aload_n (pc := 13) 0 rfl rfl d_BM_signs_13 ?_
    refine a_callV (pc := 14) (M' := m_BM_signKind) (As := []) (st := []) (mc' := 0) (ms' := 0) lk_BM_308 rfl sx_151 rfl (by decide) (by decide) rfl (Nat.le_of_ble_eq_true rfl) (Nat.le_refl 0) (Nat.le_refl 0) d_BM_signs_14 h ?_
    rintro _ _ s2 ⟨r3, rfl, rfl, h⟩ -
    show Ax g m_BM_signs 0 0 (ZV g Q) SH s2 0 0 17 [(0, .ref (gB g + 151)), (1, .int x1)] [.int r3]
    refine a_iconst (pc := 17) (-1 : Int32) (by decide) d_BM_signs_17 ?_
    refine a_icmp_eq (pc := 18) 115 (by decide) d_BM_signs_18 ⟨fun c0 => ?_, fun c0 => ?_⟩
    · replace h := h.1 c0
      refine a_aload_n (pc := 115) 0 rfl rfl d_BM_signs_115 ?_
      refine a_getI (pc := 116) fg_BM_211 sx_151 rfl d_BM_signs_116 ?_
      refine a_if_ne (pc := 119) 135 (by decide) d_BM_signs_119 ⟨fun c0 => ?_, fun c0 => ?_⟩
      · replace h := h.1 c0
        refine a_sub (pc := 135) [0, 1] rfl ?_
        exact h
      · replace h := h.2 c0
        refine a_iload_n (pc := 122) 1 rfl rfl d_BM_signs_122 ?_
        refine a_if_ne (pc := 123) 135 (by decide) d_BM_signs_123 ⟨fun c0 => ?_, fun c0 => ?_⟩
        · replace h := h.1 c0
          refine a_sub (pc := 135) [0, 1] rfl ?_
          exact h
        · replace h := h.2 c0
          refine a_aload_n (pc := 126) 0 rfl rfl d_BM_signs_126 ?_
          refine a_iconst (pc := 127) (0 : Int32) (by decide) d_BM_signs_127 ?_
          refine a_aload_n (pc := 128) 0 rfl rfl d_BM_signs_128 ?_
          refine a_getI (pc := 129) fg_BM_214 sx_151 rfl d_BM_signs_129 ?_
          refine a_callV (pc := 132) (M' := m_BM_fails) (As := [.int (0 : Int32), .int (fi s2 151 12)]) (st := []) (mc' := 0) (ms' := 0) lk_BM_250 rfl sx_151 rfl (by decide) (by decide) rfl (Nat.le_of_ble_eq_true rfl) (Nat.le_refl 0) (Nat.le_refl 0) d_BM_signs_132 h ?_
          rintro _ _ s4 ⟨rfl, rfl, h⟩ -
          show Ax g m_BM_signs 0 0 (ZV g Q) SH s4 0 0 135 [(0, .ref (gB g + 151)), (1, .int x1)] []
          refine a_sub (pc := 135) [0, 1] rfl ?_
          exact h
    · replace h := h.2 c0
      refine a_aload_n (pc := 21) 0 rfl rfl d_BM_signs_21 ?_
      refine a_callV (pc := 22) (M' := m_BM_signKind) (As := []) (st := []) (mc' := 0) (ms' := 0) lk_BM_308 rfl sx_151 rfl (by decide) (by decide) rfl (Nat.le_of_ble_eq_true rfl) (Nat.le_refl 0) (Nat.le_refl 0) d_BM_signs_22 h ?_
      rintro _ _ s5 ⟨r6, rfl, rfl, h⟩ -
      show Ax g m_BM_signs 0 0 (ZV g Q) SH s5 0 0 25 [(0, .ref (gB g + 151)), (1, .int x1)] [.int r6]
      refine a_istore_n (pc := 25) (lv' := [(2, .int r6), (0, .ref (gB g + 151)), (1, .int x1)]) rfl (Nat.le_of_ble_eq_true rfl) rfl d_BM_signs_25 ?_
      refine a_iload_n (pc := 26) 2 rfl rfl d_BM_signs_26 ?_
      refine a_bipush (pc := 27) (6 : Int32) (by decide) d_BM_signs_27 ?_
      refine a_icmp_eq (pc := 29) 49 (by decide) d_BM_signs_29 ⟨fun c0 => ?_, fun c0 => ?_⟩
      · replace h := h.1 c0
        refine a_aload_n (pc := 49) 1 rfl rfl d_BM_signs_49 ?_
        refine a_iconst (pc := 50) (5 : Int32) (by decide) d_BM_signs_50 ?_
        refine a_aload_n (pc := 51) 1 rfl rfl d_BM_signs_51 ?_
        refine a_getI (pc := 52) fg_BM_214 sx_151 rfl d_BM_signs_52 ?_
        refine a_callV (pc := 55) (M' := m_BM_fails) (As := [.int (5 : Int32), .int (fi s5 151 12)]) (st := []) (mc' := 0) (ms' := 0) lk_BM_250 rfl sx_151 rfl (by decide) (by decide) rfl (Nat.le_of_ble_eq_true rfl) (Nat.le_refl 0) (Nat.le_refl 0) d_BM_signs_55 h ?_
        rintro _ _ s7 ⟨rfl, rfl, h⟩ -
        show Ax g m_BM_signs 0 0 (ZV g Q) SH s7 0 0 58 [(2, .int r6), (0, .ref (gB g + 151)), (1, .int x1)] []
        refine a_goto (pc := 58) 112 (by decide) d_BM_signs_58 ?_
        refine a_goto (pc := 112) 6 (by decide) d_BM_signs_112 ?_
        refine a_sub (pc := 6) [1, 2] rfl ?_
        exact h
      · replace h := h.2 c0
        refine a_iload_n (pc := 32) 0 rfl rfl d_BM_signs_32 ?_
        refine a_iconst (pc := 33) (2 : Int32) (by decide) d_BM_signs_33 ?_
        refine a_icmp_lt (pc := 34) 61 (by decide) d_BM_signs_34 ⟨fun c0 => ?_, fun c0 => ?_⟩
        · replace h := h.1 c0
          refine a_aload_n (pc := 61) 1 rfl rfl d_BM_signs_61 ?_
          refine a_dup (pc := 62) rfl d_BM_signs_62 ?_
          refine a_getI (pc := 63) fg_BM_311 sx_151 rfl d_BM_signs_63 ?_
          refine a_iload_n (pc := 66) 0 rfl rfl d_BM_signs_66 ?_
          refine a_iconst (pc := 67) (2 : Int32) (by decide) d_BM_signs_67 ?_
          refine a_icmp_lt (pc := 68) 77 (by decide) d_BM_signs_68 ⟨fun c0 => ?_, fun c0 => ?_⟩
          · replace h := h.1 c0
            refine a_iconst (pc := 77) (0 : Int32) (by decide) d_BM_signs_77 ?_
            refine a_sub (pc := 78) [1, 2, 0] rfl ?_
            exact h
          · replace h := h.2 c0
            refine a_iconst (pc := 71) (1 : Int32) (by decide) d_BM_signs_71 ?_
            refine a_iload_n (pc := 72) 0 rfl rfl d_BM_signs_72 ?_
            refine a_ishl (pc := 73) d_BM_signs_73 ?_
            refine a_goto (pc := 74) 78 (by decide) d_BM_signs_74 ?_
            refine a_sub (pc := 78) [1, 2, 0] rfl ?_
            exact h
        · replace h := h.2 c0
          refine a_aload_n (pc := 37) 1 rfl rfl d_BM_signs_37 ?_
          refine a_getI (pc := 38) fg_BM_311 sx_151 rfl d_BM_signs_38 ?_
          refine a_iload_n (pc := 41) 0 rfl rfl d_BM_signs_41 ?_
          refine a_ishr (pc := 42) d_BM_signs_42 ?_
          refine a_iconst (pc := 43) (1 : Int32) (by decide) d_BM_signs_43 ?_
          refine a_iand (pc := 44) d_BM_signs_44 ?_
          refine a_iconst (pc := 45) (1 : Int32) (by decide) d_BM_signs_45 ?_
          refine a_icmp_ne (pc := 46) 61 (by decide) d_BM_signs_46 ⟨fun c0 => ?_, fun c0 => ?_⟩
          · replace h := h.1 c0
            refine a_aload_n (pc := 61) 1 rfl rfl d_BM_signs_61 ?_
            refine a_dup (pc := 62) rfl d_BM_signs_62 ?_
            refine a_getI (pc := 63) fg_BM_311 sx_151 rfl d_BM_signs_63 ?_
            refine a_iload_n (pc := 66) 0 rfl rfl d_BM_signs_66 ?_
            refine a_iconst (pc := 67) (2 : Int32) (by decide) d_BM_signs_67 ?_
            refine a_icmp_lt (pc := 68) 77 (by decide) d_BM_signs_68 ⟨fun c0 => ?_, fun c0 => ?_⟩
            · replace h := h.1 c0
              refine a_iconst (pc := 77) (0 : Int32) (by decide) d_BM_signs_77 ?_
              refine a_sub (pc := 78) [1, 2, 0] rfl ?_
              exact h
            · replace h := h.2 c0
              refine a_iconst (pc := 71) (1 : Int32) (by decide) d_BM_signs_71 ?_
              refine a_iload_n (pc := 72) 0 rfl rfl d_BM_signs_72 ?_
              refine a_ishl (pc := 73) d_BM_signs_73 ?_
              refine a_goto (pc := 74) 78 (by decide) d_BM_signs_74 ?_
              refine a_sub (pc := 78) [1, 2, 0] rfl ?_
              exact h
          · replace h := h.2 c0
            refine a_aload_n (pc := 49) 1 rfl rfl d_BM_signs_49 ?_
            refine a_iconst (pc := 50) (5 : Int32) (by decide) d_BM_signs_50 ?_
            refine a_aload_n (pc := 51) 1 rfl rfl d_BM_signs_51 ?_
            refine a_getI (pc := 52) fg_BM_214 sx_151 rfl d_BM_signs_52 ?_
            refine a_callV (pc := 55) (M' := m_BM_fails) (As := [.int (5 : Int32), .int (fi s5 151 12)]) (st := []) (mc' := 0) (ms' := 0) lk_BM_250 rfl sx_151 rfl (by decide) (by decide) rfl (Nat.le_of_ble_eq_true rfl) (Nat.le_refl 0) (Nat.le_refl 0) d_BM_signs_55 h ?_
            rintro _ _ s8 ⟨rfl, rfl, h⟩ -
            show Ax g m_BM_signs 0 0 (ZV g Q) SH s8 0 0 58 [(2, .int r6), (0, .ref (gB g + 151)), (1, .int x1)] []
            refine a_goto (pc := 58) 112 (by decide) d_BM_signs_58 ?_
            refine a_goto (pc := 112) 6 (by decide) d_BM_signs_112 ?_
            refine a_sub (pc := 6) [1, 2] rfl ?_
            exact h
theorem sg_BM_signs_135 {g : Gx} {Q : St → Prop} {σ : St} {x1 : Int32}
    (h : (¬ (fi σ 151 13) = 0 → vp_in (0 : Int32) 3 ∧ (∀ s1 : St, s1 = sai σ 159 ((0 : Int32)).toNatClampNeg x1 → vp_in (1 : Int32) 3 ∧ (vp_in (1 : Int32) 3 ∧ (∀ s2 : St, s2 = sai s1 159 ((1 : Int32)).toNatClampNeg ((ai s1 159 ((1 : Int32)).toNatClampNeg) + (1 : Int32)) → Q s2)))) ∧ ((fi σ 151 13) = 0 → vp_in (1 : Int32) 3 ∧ (((ai σ 159 ((1 : Int32)).toNatClampNeg) ≤ 0 → vp_in (0 : Int32) 3 ∧ (∀ s3 : St, s3 = sai σ 159 ((0 : Int32)).toNatClampNeg x1 → vp_in (1 : Int32) 3 ∧ (vp_in (1 : Int32) 3 ∧ (∀ s4 : St, s4 = sai s3 159 ((1 : Int32)).toNatClampNeg ((ai s3 159 ((1 : Int32)).toNatClampNeg) + (1 : Int32)) → Q s4)))) ∧ (¬ (ai σ 159 ((1 : Int32)).toNatClampNeg) ≤ 0 → vp_in (0 : Int32) 3 ∧ ((x1 = (ai σ 159 ((0 : Int32)).toNatClampNeg) → vp_in (0 : Int32) 3 ∧ (∀ s5 : St, s5 = sai σ 159 ((0 : Int32)).toNatClampNeg x1 → vp_in (1 : Int32) 3 ∧ (vp_in (1 : Int32) 3 ∧ (∀ s6 : St, s6 = sai s5 159 ((1 : Int32)).toNatClampNeg ((ai s5 159 ((1 : Int32)).toNatClampNeg) + (1 : Int32)) → Q s6)))) ∧ (¬ x1 = (ai σ 159 ((0 : Int32)).toNatClampNeg) → K_BM_fails g (5 : Int32) ((fi σ 151 12) - (1 : Int32)) σ (fun s7 : St => vp_in (0 : Int32) 3 ∧ (∀ s8 : St, s8 = sai s7 159 ((0 : Int32)).toNatClampNeg x1 → vp_in (1 : Int32) 3 ∧ (vp_in (1 : Int32) 3 ∧ (∀ s9 : St, s9 = sai s8 159 ((1 : Int32)).toNatClampNeg ((ai s8 159 ((1 : Int32)).toNatClampNeg) + (1 : Int32)) → Q s9)))))))))) : S_BM_signs_135 g Q σ x1 := by
  show Ax g m_BM_signs 0 0 (ZV g Q) SH σ 0 0 135 [(0, .ref (gB g + 151)), (1, .int x1)] []
  refine a_aload_n (pc := 135) 0 rfl rfl d_BM_signs_135 ?_
  refine a_getI (pc := 136) fg_BM_211 sx_151 rfl d_BM_signs_136 ?_
  refine a_if_ne (pc := 139) 172 (by decide) d_BM_signs_139 ⟨fun c0 => ?_, fun c0 => ?_⟩
  · replace h := h.1 c0
    refine a_aload_n (pc := 172) 0 rfl rfl d_BM_signs_172 ?_
    refine a_getR (pc := 173) fg_BM_31 sx_151 rfl d_BM_signs_173 ?_
    refine a_iconst (pc := 176) (0 : Int32) (by decide) d_BM_signs_176 ?_
    refine a_iload_n (pc := 177) 1 rfl rfl d_BM_signs_177 ?_
    obtain ⟨hx, h⟩ := h
    refine a_iast (pc := 178) sx_159 hx d_BM_signs_178 ?_
    refine a_nms (fun s1 hs1 => ?_)
    replace h := h s1 hs1
    refine a_aload_n (pc := 179) 0 rfl rfl d_BM_signs_179 ?_
    refine a_getR (pc := 180) fg_BM_31 sx_151 rfl d_BM_signs_180 ?_
    refine a_iconst (pc := 183) (1 : Int32) (by decide) d_BM_signs_183 ?_
    refine a_dup2_11 (pc := 184) rfl rfl d_BM_signs_184 ?_
    obtain ⟨hx, h⟩ := h
    refine a_iald (pc := 185) sx_159 hx d_BM_signs_185 ?_
    refine a_iconst (pc := 186) (1 : Int32) (by decide) d_BM_signs_186 ?_
    refine a_iadd (pc := 187) d_BM_signs_187 ?_
    obtain ⟨hx, h⟩ := h
    refine a_iast (pc := 188) sx_159 hx d_BM_signs_188 ?_
    refine a_nms (fun s2 hs2 => ?_)
    replace h := h s2 hs2
    exact b_vret (pc := 189) rfl d_BM_signs_189 h
  · replace h := h.2 c0
    refine a_aload_n (pc := 142) 0 rfl rfl d_BM_signs_142 ?_
    refine a_getR (pc := 143) fg_BM_31 sx_151 rfl d_BM_signs_143 ?_
    refine a_iconst (pc := 146) (1 : Int32) (by decide) d_BM_signs_146 ?_
    obtain ⟨hx, h⟩ := h
    refine a_iald (pc := 147) sx_159 hx d_BM_signs_147 ?_
    refine a_if_le (pc := 148) 172 (by decide) d_BM_signs_148 ⟨fun c0 => ?_, fun c0 => ?_⟩
    · replace h := h.1 c0
      refine a_aload_n (pc := 172) 0 rfl rfl d_BM_signs_172 ?_
      refine a_getR (pc := 173) fg_BM_31 sx_151 rfl d_BM_signs_173 ?_
      refine a_iconst (pc := 176) (0 : Int32) (by decide) d_BM_signs_176 ?_
      refine a_iload_n (pc := 177) 1 rfl rfl d_BM_signs_177 ?_
      obtain ⟨hx, h⟩ := h
      refine a_iast (pc := 178) sx_159 hx d_BM_signs_178 ?_
      refine a_nms (fun s3 hs3 => ?_)
      replace h := h s3 hs3
      refine a_aload_n (pc := 179) 0 rfl rfl d_BM_signs_179 ?_
      refine a_getR (pc := 180) fg_BM_31 sx_151 rfl d_BM_signs_180 ?_
      refine a_iconst (pc := 183) (1 : Int32) (by decide) d_BM_signs_183 ?_
      refine a_dup2_11 (pc := 184) rfl rfl d_BM_signs_184 ?_
      obtain ⟨hx, h⟩ := h
      refine a_iald (pc := 185) sx_159 hx d_BM_signs_185 ?_
      refine a_iconst (pc := 186) (1 : Int32) (by decide) d_BM_signs_186 ?_
      refine a_iadd (pc := 187) d_BM_signs_187 ?_
      obtain ⟨hx, h⟩ := h
      refine a_iast (pc := 188) sx_159 hx d_BM_signs_188 ?_
      refine a_nms (fun s4 hs4 => ?_)
      replace h := h s4 hs4
      exact b_vret (pc := 189) rfl d_BM_signs_189 h
    · replace h := h.2 c0
      refine a_iload_n (pc := 151) 1 rfl rfl d_BM_signs_151 ?_
      refine a_aload_n (pc := 152) 0 rfl rfl d_BM_signs_152 ?_
      refine a_getR (pc := 153) fg_BM_31 sx_151 rfl d_BM_signs_153 ?_
      refine a_iconst (pc := 156) (0 : Int32) (by decide) d_BM_signs_156 ?_
      obtain ⟨hx, h⟩ := h
      refine a_iald (pc := 157) sx_159 hx d_BM_signs_157 ?_
      refine a_icmp_eq (pc := 158) 172 (by decide) d_BM_signs_158 ⟨fun c0 => ?_, fun c0 => ?_⟩
      · replace h := h.1 c0
        refine a_aload_n (pc := 172) 0 rfl rfl d_BM_signs_172 ?_
        refine a_getR (pc := 173) fg_BM_31 sx_151 rfl d_BM_signs_173 ?_
        refine a_iconst (pc := 176) (0 : Int32) (by decide) d_BM_signs_176 ?_
        refine a_iload_n (pc := 177) 1 rfl rfl d_BM_signs_177 ?_
        obtain ⟨hx, h⟩ := h
        refine a_iast (pc := 178) sx_159 hx d_BM_signs_178 ?_
        refine a_nms (fun s5 hs5 => ?_)
        replace h := h s5 hs5
        refine a_aload_n (pc := 179) 0 rfl rfl d_BM_signs_179 ?_
        refine a_getR (pc := 180) fg_BM_31 sx_151 rfl d_BM_signs_180 ?_
        refine a_iconst (pc := 183) (1 : Int32) (by decide) d_BM_signs_183 ?_
        refine a_dup2_11 (pc := 184) rfl rfl d_BM_signs_184 ?_
        obtain ⟨hx, h⟩ := h
        refine a_iald (pc := 185) sx_159 hx d_BM_signs_185 ?_
        refine a_iconst (pc := 186) (1 : Int32) (by decide) d_BM_signs_186 ?_
        refine a_iadd (pc := 187) d_BM_signs_187 ?_
        obtain ⟨hx, h⟩ := h
        refine a_iast (pc := 188) sx_159 hx d_BM_signs_188 ?_
        refine a_nms (fun s6 hs6 => ?_)
        replace h := h s6 hs6
        exact b_vret (pc := 189) rfl d_BM_signs_189 h
      · replace h := h.2 c0
        refine a_aload_n (pc := 161) 0 rfl rfl d_BM_signs_161 ?_
        refine a_iconst (pc := 162) (5 : Int32) (by decide) d_BM_signs_162 ?_
        refine a_aload_n (pc := 163) 0 rfl rfl d_BM_signs_163 ?_
        refine a_getI (pc := 164) fg_BM_214 sx_151 rfl d_BM_signs_164 ?_
        refine a_iconst (pc := 167) (1 : Int32) (by decide) d_BM_signs_167 ?_
        refine a_isub (pc := 168) d_BM_signs_168 ?_
        refine a_callV (pc := 169) (M' := m_BM_fails) (As := [.int (5 : Int32), .int ((fi σ 151 12) - (1 : Int32))]) (st := []) (mc' := 0) (ms' := 0) lk_BM_250 rfl sx_151 rfl (by decide) (by decide) rfl (Nat.le_of_ble_eq_true rfl) (Nat.le_refl 0) (Nat.le_refl 0) d_BM_signs_169 h ?_
        rintro _ _ s7 ⟨rfl, rfl, h⟩ -
        show Ax g m_BM_signs 0 0 (ZV g Q) SH s7 0 0 172 [(0, .ref (gB g + 151)), (1, .int x1)] []
        refine a_aload_n (pc := 172) 0 rfl rfl d_BM_signs_172 ?_
        refine a_getR (pc := 173) fg_BM_31 sx_151 rfl d_BM_signs_173 ?_
        refine a_iconst (pc := 176) (0 : Int32) (by decide) d_BM_signs_176 ?_
        refine a_iload_n (pc := 177) 1 rfl rfl d_BM_signs_177 ?_
        obtain ⟨hx, h⟩ := h
        refine a_iast (pc := 178) sx_159 hx d_BM_signs_178 ?_
        refine a_nms (fun s8 hs8 => ?_)
        replace h := h s8 hs8
        refine a_aload_n (pc := 179) 0 rfl rfl d_BM_signs_179 ?_
        refine a_getR (pc := 180) fg_BM_31 sx_151 rfl d_BM_signs_180 ?_
        refine a_iconst (pc := 183) (1 : Int32) (by decide) d_BM_signs_183 ?_
        refine a_dup2_11 (pc := 184) rfl rfl d_BM_signs_184 ?_
        obtain ⟨hx, h⟩ := h
        refine a_iald (pc := 185) sx_159 hx d_BM_signs_185 ?_
        refine a_iconst (pc := 186) (1 : Int32) (by decide) d_BM_signs_186 ?_
        refine a_iadd (pc := 187) d_BM_signs_187 ?_
        obtain ⟨hx, h⟩ := h
        refine a_iast (pc := 188) sx_159 hx d_BM_signs_188 ?_
        refine a_nms (fun s9 hs9 => ?_)
        replace h := h s9 hs9
        exact b_vret (pc := 189) rfl d_BM_signs_189 h
theorem sg_BM_signs_78 {g : Gx} {Q : St → Prop} {σ : St} {x1 : Int32} {x2 : Int32} {z0 : Int32} {z1 : Int32}
    (h : ∀ s1 : St, s1 = sfi σ 151 21 (z1 ||| z0) → vp_in (1 : Int32) 3 ∧ (vp_in (((6 : Int32) * (ai s1 159 ((1 : Int32)).toNatClampNeg)) + x1) 36 ∧ (∀ s2 : St, s2 = sai s1 160 ((((6 : Int32) * (ai s1 159 ((1 : Int32)).toNatClampNeg)) + x1)).toNatClampNeg x2 → ∀ u3 : Int32, u3 = x1 + (1 : Int32) → ∀ s4 : St, s4 = sfi s2 151 12 ((fi s2 151 12) + (1 : Int32)) → S_BM_signs_6 g Q s4 u3))) : S_BM_signs_78 g Q σ x1 x2 z0 z1 := by
  show Ax g m_BM_signs 0 0 (ZV g Q) SH σ 0 0 78 [(0, .ref (gB g + 151)), (1, .int x1), (2, .int x2)] [.int z0, .int z1, .ref (gB g + 151)]
  refine a_ior (pc := 78) d_BM_signs_78 ?_
  refine a_putI (pc := 79) fp_BM_311 sx_151 rfl d_BM_signs_79 ?_
  refine a_nms (fun s1 hs1 => ?_)
  replace h := h s1 hs1
  refine a_aload_n (pc := 82) 0 rfl rfl d_BM_signs_82 ?_
  refine a_getR (pc := 83) fg_BM_34 sx_151 rfl d_BM_signs_83 ?_
  refine a_bipush (pc := 86) (6 : Int32) (by decide) d_BM_signs_86 ?_
  refine a_aload_n (pc := 88) 0 rfl rfl d_BM_signs_88 ?_
  refine a_getR (pc := 89) fg_BM_31 sx_151 rfl d_BM_signs_89 ?_
  refine a_iconst (pc := 92) (1 : Int32) (by decide) d_BM_signs_92 ?_
  obtain ⟨hx, h⟩ := h
  refine a_iald (pc := 93) sx_159 hx d_BM_signs_93 ?_
  refine a_imul (pc := 94) d_BM_signs_94 ?_
  refine a_iload_n (pc := 95) 1 rfl rfl d_BM_signs_95 ?_
  refine a_iadd (pc := 96) d_BM_signs_96 ?_
  refine a_iload_n (pc := 97) 2 rfl rfl d_BM_signs_97 ?_
  obtain ⟨hx, h⟩ := h
  refine a_iast (pc := 98) sx_160 hx d_BM_signs_98 ?_
  refine a_nms (fun s2 hs2 => ?_)
  replace h := h s2 hs2
  obtain ⟨u3, hu3⟩ : ∃ y : Int32, y = x1 + (1 : Int32) := ⟨_, rfl⟩
  replace h := h u3 hu3
  refine a_iinc (pc := 99) (v := u3) (lv' := [(1, .int u3), (0, .ref (gB g + 151)), (2, .int x2)]) 1 rfl (by rw [hu3]; rfl) (Nat.le_of_ble_eq_true rfl) rfl d_BM_signs_99 ?_
  refine a_aload_n (pc := 102) 1 rfl rfl d_BM_signs_102 ?_
  refine a_dup (pc := 103) rfl d_BM_signs_103 ?_
  refine a_getI (pc := 104) fg_BM_214 sx_151 rfl d_BM_signs_104 ?_
  refine a_iconst (pc := 107) (1 : Int32) (by decide) d_BM_signs_107 ?_
  refine a_iadd (pc := 108) d_BM_signs_108 ?_
  refine a_putI (pc := 109) fp_BM_214 sx_151 rfl d_BM_signs_109 ?_
  refine a_nms (fun s4 hs4 => ?_)
  replace h := h s4 hs4
  refine a_goto (pc := 112) 6 (by decide) d_BM_signs_112 ?_
  refine a_sub (pc := 6) [1, 0] rfl ?_
  exact h
theorem ko_BM_signs {g : Gx}  {σ : St} {Q : St → Prop} (h : S_BM_signs_0 g Q σ) : K_BM_signs g  σ Q := KV.of (show plainName "BallBoxModel" = true by decide) (Nat.le_of_ble_eq_true rfl) h
theorem d_BM_laidBall_0 : decode c_BM_laidBall 0 = .ok (.aload_n 0, 1) := by decide +kernel
theorem d_BM_laidBall_1 : decode c_BM_laidBall 1 = .ok (.invokevirtual 234, 3) := by decide +kernel
theorem d_BM_laidBall_4 : decode c_BM_laidBall 4 = .ok (.aload_n 0, 1) := by decide +kernel
theorem d_BM_laidBall_5 : decode c_BM_laidBall 5 = .ok (.getfield 214, 3) := by decide +kernel
theorem d_BM_laidBall_8 : decode c_BM_laidBall 8 = .ok (.istore_n 1, 1) := by decide +kernel
theorem d_BM_laidBall_9 : decode c_BM_laidBall 9 = .ok (.aload_n 0, 1) := by decide +kernel
theorem d_BM_laidBall_10 : decode c_BM_laidBall 10 = .ok (.iconst 0, 1) := by decide +kernel
theorem d_BM_laidBall_11 : decode c_BM_laidBall 11 = .ok (.iconst 5, 1) := by decide +kernel
theorem d_BM_laidBall_12 : decode c_BM_laidBall 12 = .ok (.invokevirtual 314, 3) := by decide +kernel
theorem d_BM_laidBall_15 : decode c_BM_laidBall 15 = .ok (.istore_n 2, 1) := by decide +kernel
theorem d_BM_laidBall_16 : decode c_BM_laidBall 16 = .ok (.aload_n 0, 1) := by decide +kernel
theorem d_BM_laidBall_17 : decode c_BM_laidBall 17 = .ok (.iconst 0, 1) := by decide +kernel
theorem d_BM_laidBall_18 : decode c_BM_laidBall 18 = .ok (.iconst 5, 1) := by decide +kernel
theorem d_BM_laidBall_19 : decode c_BM_laidBall 19 = .ok (.invokevirtual 314, 3) := by decide +kernel
theorem d_BM_laidBall_22 : decode c_BM_laidBall 22 = .ok (.istore_n 3, 1) := by decide +kernel
theorem d_BM_laidBall_23 : decode c_BM_laidBall 23 = .ok (.bipush 6, 2) := by decide +kernel
theorem d_BM_laidBall_25 : decode c_BM_laidBall 25 = .ok (.iload_n 3, 1) := by decide +kernel
theorem d_BM_laidBall_26 : decode c_BM_laidBall 26 = .ok (.imul, 1) := by decide +kernel
theorem d_BM_laidBall_27 : decode c_BM_laidBall 27 = .ok (.iload_n 2, 1) := by decide +kernel
theorem d_BM_laidBall_28 : decode c_BM_laidBall 28 = .ok (.iadd, 1) := by decide +kernel
theorem d_BM_laidBall_29 : decode c_BM_laidBall 29 = .ok (.istore 4, 2) := by decide +kernel
theorem d_BM_laidBall_31 : decode c_BM_laidBall 31 = .ok (.aload_n 0, 1) := by decide +kernel
theorem d_BM_laidBall_32 : decode c_BM_laidBall 32 = .ok (.getfield 211, 3) := by decide +kernel
theorem d_BM_laidBall_35 : decode c_BM_laidBall 35 = .ok (.ifCond .ne 37, 3) := by decide +kernel
theorem d_BM_laidBall_38 : decode c_BM_laidBall 38 = .ok (.iload_n 2, 1) := by decide +kernel
theorem d_BM_laidBall_39 : decode c_BM_laidBall 39 = .ok (.aload_n 0, 1) := by decide +kernel
theorem d_BM_laidBall_40 : decode c_BM_laidBall 40 = .ok (.getfield 31, 3) := by decide +kernel
theorem d_BM_laidBall_43 : decode c_BM_laidBall 43 = .ok (.iconst 0, 1) := by decide +kernel
theorem d_BM_laidBall_44 : decode c_BM_laidBall 44 = .ok (.iaload, 1) := by decide +kernel
theorem d_BM_laidBall_45 : decode c_BM_laidBall 45 = .ok (.if_icmp .ge 27, 3) := by decide +kernel
theorem d_BM_laidBall_48 : decode c_BM_laidBall 48 = .ok (.iload_n 3, 1) := by decide +kernel
theorem d_BM_laidBall_49 : decode c_BM_laidBall 49 = .ok (.aload_n 0, 1) := by decide +kernel
theorem d_BM_laidBall_50 : decode c_BM_laidBall 50 = .ok (.getfield 31, 3) := by decide +kernel
theorem d_BM_laidBall_53 : decode c_BM_laidBall 53 = .ok (.iconst 1, 1) := by decide +kernel
theorem d_BM_laidBall_54 : decode c_BM_laidBall 54 = .ok (.iaload, 1) := by decide +kernel
theorem d_BM_laidBall_55 : decode c_BM_laidBall 55 = .ok (.if_icmp .ge 17, 3) := by decide +kernel
theorem d_BM_laidBall_58 : decode c_BM_laidBall 58 = .ok (.aload_n 0, 1) := by decide +kernel
theorem d_BM_laidBall_59 : decode c_BM_laidBall 59 = .ok (.getfield 34, 3) := by decide +kernel
theorem d_BM_laidBall_62 : decode c_BM_laidBall 62 = .ok (.iload 4, 2) := by decide +kernel
theorem d_BM_laidBall_64 : decode c_BM_laidBall 64 = .ok (.iaload, 1) := by decide +kernel
theorem d_BM_laidBall_65 : decode c_BM_laidBall 65 = .ok (.ifCond .ne 7, 3) := by decide +kernel
theorem d_BM_laidBall_68 : decode c_BM_laidBall 68 = .ok (.iconst 1, 1) := by decide +kernel
theorem d_BM_laidBall_69 : decode c_BM_laidBall 69 = .ok (.goto 4, 3) := by decide +kernel
theorem d_BM_laidBall_72 : decode c_BM_laidBall 72 = .ok (.iconst 0, 1) := by decide +kernel
theorem d_BM_laidBall_73 : decode c_BM_laidBall 73 = .ok (.istore 5, 2) := by decide +kernel
theorem d_BM_laidBall_75 : decode c_BM_laidBall 75 = .ok (.iconst 0, 1) := by decide +kernel
theorem d_BM_laidBall_76 : decode c_BM_laidBall 76 = .ok (.istore 6, 2) := by decide +kernel
theorem d_BM_laidBall_78 : decode c_BM_laidBall 78 = .ok (.iload 6, 2) := by decide +kernel
theorem d_BM_laidBall_80 : decode c_BM_laidBall 80 = .ok (.aload_n 0, 1) := by decide +kernel
theorem d_BM_laidBall_81 : decode c_BM_laidBall 81 = .ok (.getfield 31, 3) := by decide +kernel
theorem d_BM_laidBall_84 : decode c_BM_laidBall 84 = .ok (.iconst 2, 1) := by decide +kernel
theorem d_BM_laidBall_85 : decode c_BM_laidBall 85 = .ok (.iaload, 1) := by decide +kernel
theorem d_BM_laidBall_86 : decode c_BM_laidBall 86 = .ok (.if_icmp .ge 33, 3) := by decide +kernel
theorem d_BM_laidBall_89 : decode c_BM_laidBall 89 = .ok (.iload 5, 2) := by decide +kernel
theorem d_BM_laidBall_91 : decode c_BM_laidBall 91 = .ok (.ifCond .eq 19, 3) := by decide +kernel
theorem d_BM_laidBall_94 : decode c_BM_laidBall 94 = .ok (.aload_n 0, 1) := by decide +kernel
theorem d_BM_laidBall_95 : decode c_BM_laidBall 95 = .ok (.getfield 37, 3) := by decide +kernel
theorem d_BM_laidBall_98 : decode c_BM_laidBall 98 = .ok (.iload 6, 2) := by decide +kernel
theorem d_BM_laidBall_100 : decode c_BM_laidBall 100 = .ok (.iaload, 1) := by decide +kernel
theorem d_BM_laidBall_101 : decode c_BM_laidBall 101 = .ok (.iload 4, 2) := by decide +kernel
theorem d_BM_laidBall_103 : decode c_BM_laidBall 103 = .ok (.if_icmp .eq 7, 3) := by decide +kernel
theorem d_BM_laidBall_106 : decode c_BM_laidBall 106 = .ok (.iconst 1, 1) := by decide +kernel
theorem d_BM_laidBall_107 : decode c_BM_laidBall 107 = .ok (.goto 4, 3) := by decide +kernel
theorem d_BM_laidBall_110 : decode c_BM_laidBall 110 = .ok (.iconst 0, 1) := by decide +kernel
theorem d_BM_laidBall_111 : decode c_BM_laidBall 111 = .ok (.istore 5, 2) := by decide +kernel
theorem d_BM_laidBall_113 : decode c_BM_laidBall 113 = .ok (.iinc 6 1, 3) := by decide +kernel
theorem d_BM_laidBall_116 : decode c_BM_laidBall 116 = .ok (.goto (-38), 3) := by decide +kernel
theorem d_BM_laidBall_119 : decode c_BM_laidBall 119 = .ok (.aload_n 0, 1) := by decide +kernel
theorem d_BM_laidBall_120 : decode c_BM_laidBall 120 = .ok (.getfield 211, 3) := by decide +kernel
theorem d_BM_laidBall_123 : decode c_BM_laidBall 123 = .ok (.ifCond .ne 14, 3) := by decide +kernel
theorem d_BM_laidBall_126 : decode c_BM_laidBall 126 = .ok (.iload 5, 2) := by decide +kernel
theorem d_BM_laidBall_128 : decode c_BM_laidBall 128 = .ok (.ifCond .ne 9, 3) := by decide +kernel
theorem d_BM_laidBall_131 : decode c_BM_laidBall 131 = .ok (.aload_n 0, 1) := by decide +kernel
theorem d_BM_laidBall_132 : decode c_BM_laidBall 132 = .ok (.iconst 5, 1) := by decide +kernel
theorem d_BM_laidBall_133 : decode c_BM_laidBall 133 = .ok (.iload_n 1, 1) := by decide +kernel
theorem d_BM_laidBall_134 : decode c_BM_laidBall 134 = .ok (.invokevirtual 250, 3) := by decide +kernel
theorem d_BM_laidBall_137 : decode c_BM_laidBall 137 = .ok (.aload_n 0, 1) := by decide +kernel
theorem d_BM_laidBall_138 : decode c_BM_laidBall 138 = .ok (.getfield 37, 3) := by decide +kernel
theorem d_BM_laidBall_141 : decode c_BM_laidBall 141 = .ok (.aload_n 0, 1) := by decide +kernel
theorem d_BM_laidBall_142 : decode c_BM_laidBall 142 = .ok (.getfield 31, 3) := by decide +kernel
theorem d_BM_laidBall_145 : decode c_BM_laidBall 145 = .ok (.iconst 2, 1) := by decide +kernel
theorem d_BM_laidBall_146 : decode c_BM_laidBall 146 = .ok (.iaload, 1) := by decide +kernel
theorem d_BM_laidBall_147 : decode c_BM_laidBall 147 = .ok (.iload 4, 2) := by decide +kernel
theorem d_BM_laidBall_149 : decode c_BM_laidBall 149 = .ok (.iastore, 1) := by decide +kernel
theorem d_BM_laidBall_150 : decode c_BM_laidBall 150 = .ok (.aload_n 0, 1) := by decide +kernel
theorem d_BM_laidBall_151 : decode c_BM_laidBall 151 = .ok (.getfield 31, 3) := by decide +kernel
theorem d_BM_laidBall_154 : decode c_BM_laidBall 154 = .ok (.iconst 2, 1) := by decide +kernel
theorem d_BM_laidBall_155 : decode c_BM_laidBall 155 = .ok (.dup2, 1) := by decide +kernel
theorem d_BM_laidBall_156 : decode c_BM_laidBall 156 = .ok (.iaload, 1) := by decide +kernel
theorem d_BM_laidBall_157 : decode c_BM_laidBall 157 = .ok (.iconst 1, 1) := by decide +kernel
theorem d_BM_laidBall_158 : decode c_BM_laidBall 158 = .ok (.iadd, 1) := by decide +kernel
theorem d_BM_laidBall_159 : decode c_BM_laidBall 159 = .ok (.iastore, 1) := by decide +kernel
theorem d_BM_laidBall_160 : decode c_BM_laidBall 160 = .ok (.return_, 1) := by decide +kernel
def S_BM_laidBall_0 (g : Gx) (Q : St → Prop) (σ : St) : Prop := Ax g m_BM_laidBall 0 0 (ZV g Q) SH σ 0 0 0 [(0, .ref (gB g + 151))] []
def S_BM_laidBall_78 (g : Gx) (Q : St → Prop) (σ : St) (x1 : Int32) (x4 : Int32) (x5 : Int32) (x6 : Int32) : Prop := Ax g m_BM_laidBall 0 0 (ZV g Q) SH σ 0 0 78 [(0, .ref (gB g + 151)), (1, .int x1), (4, .int x4), (5, .int x5), (6, .int x6)] []
def S_BM_laidBall_137 (g : Gx) (Q : St → Prop) (σ : St) (x4 : Int32) : Prop := Ax g m_BM_laidBall 0 0 (ZV g Q) SH σ 0 0 137 [(0, .ref (gB g + 151)), (4, .int x4)] []
theorem sg_BM_laidBall_0 {g : Gx} {Q : St → Prop} {σ : St}
    (h : K_BM_blanks g σ (fun s1 : St => ∀ u2 : Int32, u2 = (fi s1 151 12) → K_BM_amount g (0 : Int32) (5 : Int32) s1 (fun (r4 : Int32) (s3 : St) => K_BM_amount g (0 : Int32) (5 : Int32) s3 (fun (r6 : Int32) (s5 : St) => ∀ u7 : Int32, u7 = (((6 : Int32) * r6) + r4) → (¬ (fi s5 151 13) = 0 → S_BM_laidBall_78 g Q s5 u2 u7 (0 : Int32) (0 : Int32)) ∧ ((fi s5 151 13) = 0 → vp_in (0 : Int32) 3 ∧ (((ai s5 159 ((0 : Int32)).toNatClampNeg) ≤ r4 → S_BM_laidBall_78 g Q s5 u2 u7 (0 : Int32) (0 : Int32)) ∧ (¬ (ai s5 159 ((0 : Int32)).toNatClampNeg) ≤ r4 → vp_in (1 : Int32) 3 ∧ (((ai s5 159 ((1 : Int32)).toNatClampNeg) ≤ r6 → S_BM_laidBall_78 g Q s5 u2 u7 (0 : Int32) (0 : Int32)) ∧ (¬ (ai s5 159 ((1 : Int32)).toNatClampNeg) ≤ r6 → vp_in u7 36 ∧ ((¬ (ai s5 160 (u7).toNatClampNeg) = 0 → S_BM_laidBall_78 g Q s5 u2 u7 (0 : Int32) (0 : Int32)) ∧ ((ai s5 160 (u7).toNatClampNeg) = 0 → S_BM_laidBall_78 g Q s5 u2 u7 (1 : Int32) (0 : Int32)))))))))))) : S_BM_laidBall_0 g Q σ := by
  show Ax g m_BM_laidBall 0 0 (ZV g Q) SH σ 0 0 0 [(0, .ref (gB g + 151))] []
  refine a_aload_n (pc := 0) 0 rfl rfl d_BM_laidBall_0 ?_
  refine a_callV (pc := 1) (M' := m_BM_blanks) (As := []) (st := []) (mc' := 0) (ms' := 0) lk_BM_234 rfl sx_151 rfl (by decide) (by decide) rfl (Nat.le_of_ble_eq_true rfl) (Nat.le_refl 0) (Nat.le_refl 0) d_BM_laidBall_1 h ?_
  rintro _ _ s1 ⟨rfl, rfl, h⟩ -
  show Ax g m_BM_laidBall 0 0 (ZV g Q) SH s1 0 0 4 [(0, .ref (gB g + 151))] []
  refine a_aload_n (pc := 4) 0 rfl rfl d_BM_laidBall_4 ?_
  refine a_getI (pc := 5) fg_BM_214 sx_151 rfl d_BM_laidBall_5 ?_
  refine a_nmi (pc := 8) (fun u2 hu2 => ?_)
  replace h := h u2 hu2
  refine a_istore_n (pc := 8) (lv' := [(1, .int u2), (0, .ref (gB g + 151))]) rfl (Nat.le_of_ble_eq_true rfl) rfl d_BM_laidBall_8 ?_
  refine a_aload_n (pc := 9) 1 rfl rfl d_BM_laidBall_9 ?_
  refine a_iconst (pc := 10) (0 : Int32) (by decide) d_BM_laidBall_10 ?_
  refine a_iconst (pc := 11) (5 : Int32) (by decide) d_BM_laidBall_11 ?_
  refine a_callV (pc := 12) (M' := m_BM_amount) (As := [.int (0 : Int32), .int (5 : Int32)]) (st := []) (mc' := 0) (ms' := 0) lk_BM_314 rfl sx_151 rfl (by decide) (by decide) rfl (Nat.le_of_ble_eq_true rfl) (Nat.le_refl 0) (Nat.le_refl 0) d_BM_laidBall_12 h ?_
  rintro _ _ s3 ⟨r4, rfl, rfl, h⟩ -
  show Ax g m_BM_laidBall 0 0 (ZV g Q) SH s3 0 0 15 [(1, .int u2), (0, .ref (gB g + 151))] [.int r4]
  refine a_istore_n (pc := 15) (lv' := [(2, .int r4), (1, .int u2), (0, .ref (gB g + 151))]) rfl (Nat.le_of_ble_eq_true rfl) rfl d_BM_laidBall_15 ?_
  refine a_aload_n (pc := 16) 2 rfl rfl d_BM_laidBall_16 ?_
  refine a_iconst (pc := 17) (0 : Int32) (by decide) d_BM_laidBall_17 ?_
  refine a_iconst (pc := 18) (5 : Int32) (by decide) d_BM_laidBall_18 ?_
  refine a_callV (pc := 19) (M' := m_BM_amount) (As := [.int (0 : Int32), .int (5 : Int32)]) (st := []) (mc' := 0) (ms' := 0) lk_BM_314 rfl sx_151 rfl (by decide) (by decide) rfl (Nat.le_of_ble_eq_true rfl) (Nat.le_refl 0) (Nat.le_refl 0) d_BM_laidBall_19 h ?_
  rintro _ _ s5 ⟨r6, rfl, rfl, h⟩ -
  show Ax g m_BM_laidBall 0 0 (ZV g Q) SH s5 0 0 22 [(2, .int r4), (1, .int u2), (0, .ref (gB g + 151))] [.int r6]
  refine a_istore_n (pc := 22) (lv' := [(3, .int r6), (2, .int r4), (1, .int u2), (0, .ref (gB g + 151))]) rfl (Nat.le_of_ble_eq_true rfl) rfl d_BM_laidBall_22 ?_
  refine a_bipush (pc := 23) (6 : Int32) (by decide) d_BM_laidBall_23 ?_
  refine a_iload_n (pc := 25) 0 rfl rfl d_BM_laidBall_25 ?_
  refine a_imul (pc := 26) d_BM_laidBall_26 ?_
  refine a_iload_n (pc := 27) 1 rfl rfl d_BM_laidBall_27 ?_
  refine a_iadd (pc := 28) d_BM_laidBall_28 ?_
  refine a_nmi (pc := 29) (fun u7 hu7 => ?_)
  replace h := h u7 hu7
  refine a_istore (pc := 29) (lv' := [(4, .int u7), (3, .int r6), (2, .int r4), (1, .int u2), (0, .ref (gB g + 151))]) (Nat.le_of_ble_eq_true rfl) rfl d_BM_laidBall_29 ?_
  refine a_aload_n (pc := 31) 4 rfl rfl d_BM_laidBall_31 ?_
  refine a_getI (pc := 32) fg_BM_211 sx_151 rfl d_BM_laidBall_32 ?_
  refine a_if_ne (pc := 35) 72 (by decide) d_BM_laidBall_35 ⟨fun c0 => ?_, fun c0 => ?_⟩
  · replace h := h.1 c0
    refine a_iconst (pc := 72) (0 : Int32) (by decide) d_BM_laidBall_72 ?_
    refine a_istore (pc := 73) (lv' := [(5, .int (0 : Int32)), (4, .int u7), (3, .int r6), (2, .int r4), (1, .int u2), (0, .ref (gB g + 151))]) (Nat.le_of_ble_eq_true rfl) rfl d_BM_laidBall_73 ?_
    refine a_iconst (pc := 75) (0 : Int32) (by decide) d_BM_laidBall_75 ?_
    refine a_istore (pc := 76) (lv' := [(6, .int (0 : Int32)), (5, .int (0 : Int32)), (4, .int u7), (3, .int r6), (2, .int r4), (1, .int u2), (0, .ref (gB g + 151))]) (Nat.le_of_ble_eq_true rfl) rfl d_BM_laidBall_76 ?_
    refine a_sub (pc := 78) [6, 5, 2, 1, 0] rfl ?_
    exact h
  · replace h := h.2 c0
    refine a_iload_n (pc := 38) 2 rfl rfl d_BM_laidBall_38 ?_
    refine a_aload_n (pc := 39) 4 rfl rfl d_BM_laidBall_39 ?_
    refine a_getR (pc := 40) fg_BM_31 sx_151 rfl d_BM_laidBall_40 ?_
    refine a_iconst (pc := 43) (0 : Int32) (by decide) d_BM_laidBall_43 ?_
    obtain ⟨hx, h⟩ := h
    refine a_iald (pc := 44) sx_159 hx d_BM_laidBall_44 ?_
    refine a_icmp_ge (pc := 45) 72 (by decide) d_BM_laidBall_45 ⟨fun c0 => ?_, fun c0 => ?_⟩
    · replace h := h.1 c0
      refine a_iconst (pc := 72) (0 : Int32) (by decide) d_BM_laidBall_72 ?_
      refine a_istore (pc := 73) (lv' := [(5, .int (0 : Int32)), (4, .int u7), (3, .int r6), (2, .int r4), (1, .int u2), (0, .ref (gB g + 151))]) (Nat.le_of_ble_eq_true rfl) rfl d_BM_laidBall_73 ?_
      refine a_iconst (pc := 75) (0 : Int32) (by decide) d_BM_laidBall_75 ?_
      refine a_istore (pc := 76) (lv' := [(6, .int (0 : Int32)), (5, .int (0 : Int32)), (4, .int u7), (3, .int r6), (2, .int r4), (1, .int u2), (0, .ref (gB g + 151))]) (Nat.le_of_ble_eq_true rfl) rfl d_BM_laidBall_76 ?_
      refine a_sub (pc := 78) [6, 5, 2, 1, 0] rfl ?_
      exact h
    · replace h := h.2 c0
      refine a_iload_n (pc := 48) 1 rfl rfl d_BM_laidBall_48 ?_
      refine a_aload_n (pc := 49) 4 rfl rfl d_BM_laidBall_49 ?_
      refine a_getR (pc := 50) fg_BM_31 sx_151 rfl d_BM_laidBall_50 ?_
      refine a_iconst (pc := 53) (1 : Int32) (by decide) d_BM_laidBall_53 ?_
      obtain ⟨hx, h⟩ := h
      refine a_iald (pc := 54) sx_159 hx d_BM_laidBall_54 ?_
      refine a_icmp_ge (pc := 55) 72 (by decide) d_BM_laidBall_55 ⟨fun c0 => ?_, fun c0 => ?_⟩
      · replace h := h.1 c0
        refine a_iconst (pc := 72) (0 : Int32) (by decide) d_BM_laidBall_72 ?_
        refine a_istore (pc := 73) (lv' := [(5, .int (0 : Int32)), (4, .int u7), (3, .int r6), (2, .int r4), (1, .int u2), (0, .ref (gB g + 151))]) (Nat.le_of_ble_eq_true rfl) rfl d_BM_laidBall_73 ?_
        refine a_iconst (pc := 75) (0 : Int32) (by decide) d_BM_laidBall_75 ?_
        refine a_istore (pc := 76) (lv' := [(6, .int (0 : Int32)), (5, .int (0 : Int32)), (4, .int u7), (3, .int r6), (2, .int r4), (1, .int u2), (0, .ref (gB g + 151))]) (Nat.le_of_ble_eq_true rfl) rfl d_BM_laidBall_76 ?_
        refine a_sub (pc := 78) [6, 5, 2, 1, 0] rfl ?_
        exact h
      · replace h := h.2 c0
        refine a_aload_n (pc := 58) 4 rfl rfl d_BM_laidBall_58 ?_
        refine a_getR (pc := 59) fg_BM_34 sx_151 rfl d_BM_laidBall_59 ?_
        refine a_iload (pc := 62) 0 rfl d_BM_laidBall_62 ?_
        obtain ⟨hx, h⟩ := h
        refine a_iald (pc := 64) sx_160 hx d_BM_laidBall_64 ?_
        refine a_if_ne (pc := 65) 72 (by decide) d_BM_laidBall_65 ⟨fun c0 => ?_, fun c0 => ?_⟩
        · replace h := h.1 c0
          refine a_iconst (pc := 72) (0 : Int32) (by decide) d_BM_laidBall_72 ?_
          refine a_istore (pc := 73) (lv' := [(5, .int (0 : Int32)), (4, .int u7), (3, .int r6), (2, .int r4), (1, .int u2), (0, .ref (gB g + 151))]) (Nat.le_of_ble_eq_true rfl) rfl d_BM_laidBall_73 ?_
          refine a_iconst (pc := 75) (0 : Int32) (by decide) d_BM_laidBall_75 ?_
          refine a_istore (pc := 76) (lv' := [(6, .int (0 : Int32)), (5, .int (0 : Int32)), (4, .int u7), (3, .int r6), (2, .int r4), (1, .int u2), (0, .ref (gB g + 151))]) (Nat.le_of_ble_eq_true rfl) rfl d_BM_laidBall_76 ?_
          refine a_sub (pc := 78) [6, 5, 2, 1, 0] rfl ?_
          exact h
        · replace h := h.2 c0
          refine a_iconst (pc := 68) (1 : Int32) (by decide) d_BM_laidBall_68 ?_
          refine a_goto (pc := 69) 73 (by decide) d_BM_laidBall_69 ?_
          refine a_istore (pc := 73) (lv' := [(5, .int (1 : Int32)), (4, .int u7), (3, .int r6), (2, .int r4), (1, .int u2), (0, .ref (gB g + 151))]) (Nat.le_of_ble_eq_true rfl) rfl d_BM_laidBall_73 ?_
          refine a_iconst (pc := 75) (0 : Int32) (by decide) d_BM_laidBall_75 ?_
          refine a_istore (pc := 76) (lv' := [(6, .int (0 : Int32)), (5, .int (1 : Int32)), (4, .int u7), (3, .int r6), (2, .int r4), (1, .int u2), (0, .ref (gB g + 151))]) (Nat.le_of_ble_eq_true rfl) rfl d_BM_laidBall_76 ?_
          refine a_sub (pc := 78) [6, 5, 2, 1, 0] rfl ?_
          exact h
theorem sg_BM_laidBall_78 {g : Gx} {Q : St → Prop} {σ : St} {x1 : Int32} {x4 : Int32} {x5 : Int32} {x6 : Int32}
    (h : vp_in (2 : Int32) 3 ∧ (((ai σ 159 ((2 : Int32)).toNatClampNeg) ≤ x6 → (¬ (fi σ 151 13) = 0 → S_BM_laidBall_137 g Q σ x4) ∧ ((fi σ 151 13) = 0 → (¬ x5 = 0 → S_BM_laidBall_137 g Q σ x4) ∧ (x5 = 0 → K_BM_fails g (5 : Int32) x1 σ (fun s1 : St => S_BM_laidBall_137 g Q s1 x4)))) ∧ (¬ (ai σ 159 ((2 : Int32)).toNatClampNeg) ≤ x6 → (x5 = 0 → ∀ u2 : Int32, u2 = x6 + (1 : Int32) → S_BM_laidBall_78 g Q σ x1 x4 (0 : Int32) u2) ∧ (¬ x5 = 0 → vp_in x6 3 ∧ (((ai σ 161 (x6).toNatClampNeg) = x4 → ∀ u3 : Int32, u3 = x6 + (1 : Int32) → S_BM_laidBall_78 g Q σ x1 x4 (0 : Int32) u3) ∧ (¬ (ai σ 161 (x6).toNatClampNeg) = x4 → ∀ u4 : Int32, u4 = x6 + (1 : Int32) → S_BM_laidBall_78 g Q σ x1 x4 (1 : Int32) u4)))))) : S_BM_laidBall_78 g Q σ x1 x4 x5 x6 := by
  show Ax g m_BM_laidBall 0 0 (ZV g Q) SH σ 0 0 78 [(0, .ref (gB g + 151)), (1, .int x1), (4, .int x4), (5, .int x5), (6, .int x6)] []
  refine a_iload (pc := 78) 4 rfl d_BM_laidBall_78 ?_
  refine a_aload_n (pc := 80) 0 rfl rfl d_BM_laidBall_80 ?_
  refine a_getR (pc := 81) fg_BM_31 sx_151 rfl d_BM_laidBall_81 ?_
  refine a_iconst (pc := 84) (2 : Int32) (by decide) d_BM_laidBall_84 ?_
  obtain ⟨hx, h⟩ := h
  refine a_iald (pc := 85) sx_159 hx d_BM_laidBall_85 ?_
  refine a_icmp_ge (pc := 86) 119 (by decide) d_BM_laidBall_86 ⟨fun c0 => ?_, fun c0 => ?_⟩
  · replace h := h.1 c0
    refine a_aload_n (pc := 119) 0 rfl rfl d_BM_laidBall_119 ?_
    refine a_getI (pc := 120) fg_BM_211 sx_151 rfl d_BM_laidBall_120 ?_
    refine a_if_ne (pc := 123) 137 (by decide) d_BM_laidBall_123 ⟨fun c0 => ?_, fun c0 => ?_⟩
    · replace h := h.1 c0
      refine a_sub (pc := 137) [0, 2] rfl ?_
      exact h
    · replace h := h.2 c0
      refine a_iload (pc := 126) 3 rfl d_BM_laidBall_126 ?_
      refine a_if_ne (pc := 128) 137 (by decide) d_BM_laidBall_128 ⟨fun c0 => ?_, fun c0 => ?_⟩
      · replace h := h.1 c0
        refine a_sub (pc := 137) [0, 2] rfl ?_
        exact h
      · replace h := h.2 c0
        refine a_aload_n (pc := 131) 0 rfl rfl d_BM_laidBall_131 ?_
        refine a_iconst (pc := 132) (5 : Int32) (by decide) d_BM_laidBall_132 ?_
        refine a_iload_n (pc := 133) 1 rfl rfl d_BM_laidBall_133 ?_
        refine a_callV (pc := 134) (M' := m_BM_fails) (As := [.int (5 : Int32), .int x1]) (st := []) (mc' := 0) (ms' := 0) lk_BM_250 rfl sx_151 rfl (by decide) (by decide) rfl (Nat.le_of_ble_eq_true rfl) (Nat.le_refl 0) (Nat.le_refl 0) d_BM_laidBall_134 h ?_
        rintro _ _ s1 ⟨rfl, rfl, h⟩ -
        show Ax g m_BM_laidBall 0 0 (ZV g Q) SH s1 0 0 137 [(0, .ref (gB g + 151)), (1, .int x1), (4, .int x4), (5, .int x5), (6, .int x6)] []
        refine a_sub (pc := 137) [0, 2] rfl ?_
        exact h
  · replace h := h.2 c0
    refine a_iload (pc := 89) 3 rfl d_BM_laidBall_89 ?_
    refine a_if_eq (pc := 91) 110 (by decide) d_BM_laidBall_91 ⟨fun c0 => ?_, fun c0 => ?_⟩
    · replace h := h.1 c0
      refine a_iconst (pc := 110) (0 : Int32) (by decide) d_BM_laidBall_110 ?_
      refine a_istore (pc := 111) (lv' := [(5, .int (0 : Int32)), (0, .ref (gB g + 151)), (1, .int x1), (4, .int x4), (6, .int x6)]) (Nat.le_of_ble_eq_true rfl) rfl d_BM_laidBall_111 ?_
      obtain ⟨u2, hu2⟩ : ∃ y : Int32, y = x6 + (1 : Int32) := ⟨_, rfl⟩
      replace h := h u2 hu2
      refine a_iinc (pc := 113) (v := u2) (lv' := [(6, .int u2), (5, .int (0 : Int32)), (0, .ref (gB g + 151)), (1, .int x1), (4, .int x4)]) 4 rfl (by rw [hu2]; rfl) (Nat.le_of_ble_eq_true rfl) rfl d_BM_laidBall_113 ?_
      refine a_goto (pc := 116) 78 (by decide) d_BM_laidBall_116 ?_
      refine a_sub (pc := 78) [2, 3, 4, 1, 0] rfl ?_
      exact h
    · replace h := h.2 c0
      refine a_aload_n (pc := 94) 0 rfl rfl d_BM_laidBall_94 ?_
      refine a_getR (pc := 95) fg_BM_37 sx_151 rfl d_BM_laidBall_95 ?_
      refine a_iload (pc := 98) 4 rfl d_BM_laidBall_98 ?_
      obtain ⟨hx, h⟩ := h
      refine a_iald (pc := 100) sx_161 hx d_BM_laidBall_100 ?_
      refine a_iload (pc := 101) 2 rfl d_BM_laidBall_101 ?_
      refine a_icmp_eq (pc := 103) 110 (by decide) d_BM_laidBall_103 ⟨fun c0 => ?_, fun c0 => ?_⟩
      · replace h := h.1 c0
        refine a_iconst (pc := 110) (0 : Int32) (by decide) d_BM_laidBall_110 ?_
        refine a_istore (pc := 111) (lv' := [(5, .int (0 : Int32)), (0, .ref (gB g + 151)), (1, .int x1), (4, .int x4), (6, .int x6)]) (Nat.le_of_ble_eq_true rfl) rfl d_BM_laidBall_111 ?_
        obtain ⟨u3, hu3⟩ : ∃ y : Int32, y = x6 + (1 : Int32) := ⟨_, rfl⟩
        replace h := h u3 hu3
        refine a_iinc (pc := 113) (v := u3) (lv' := [(6, .int u3), (5, .int (0 : Int32)), (0, .ref (gB g + 151)), (1, .int x1), (4, .int x4)]) 4 rfl (by rw [hu3]; rfl) (Nat.le_of_ble_eq_true rfl) rfl d_BM_laidBall_113 ?_
        refine a_goto (pc := 116) 78 (by decide) d_BM_laidBall_116 ?_
        refine a_sub (pc := 78) [2, 3, 4, 1, 0] rfl ?_
        exact h
      · replace h := h.2 c0
        refine a_iconst (pc := 106) (1 : Int32) (by decide) d_BM_laidBall_106 ?_
        refine a_goto (pc := 107) 111 (by decide) d_BM_laidBall_107 ?_
        refine a_istore (pc := 111) (lv' := [(5, .int (1 : Int32)), (0, .ref (gB g + 151)), (1, .int x1), (4, .int x4), (6, .int x6)]) (Nat.le_of_ble_eq_true rfl) rfl d_BM_laidBall_111 ?_
        obtain ⟨u4, hu4⟩ : ∃ y : Int32, y = x6 + (1 : Int32) := ⟨_, rfl⟩
        replace h := h u4 hu4
        refine a_iinc (pc := 113) (v := u4) (lv' := [(6, .int u4), (5, .int (1 : Int32)), (0, .ref (gB g + 151)), (1, .int x1), (4, .int x4)]) 4 rfl (by rw [hu4]; rfl) (Nat.le_of_ble_eq_true rfl) rfl d_BM_laidBall_113 ?_
        refine a_goto (pc := 116) 78 (by decide) d_BM_laidBall_116 ?_
        refine a_sub (pc := 78) [2, 3, 4, 1, 0] rfl ?_
        exact h
theorem sg_BM_laidBall_137 {g : Gx} {Q : St → Prop} {σ : St} {x4 : Int32}
    (h : vp_in (2 : Int32) 3 ∧ (vp_in (ai σ 159 ((2 : Int32)).toNatClampNeg) 3 ∧ (∀ s1 : St, s1 = sai σ 161 ((ai σ 159 ((2 : Int32)).toNatClampNeg)).toNatClampNeg x4 → vp_in (2 : Int32) 3 ∧ (vp_in (2 : Int32) 3 ∧ (∀ s2 : St, s2 = sai s1 159 ((2 : Int32)).toNatClampNeg ((ai s1 159 ((2 : Int32)).toNatClampNeg) + (1 : Int32)) → Q s2))))) : S_BM_laidBall_137 g Q σ x4 := by
  show Ax g m_BM_laidBall 0 0 (ZV g Q) SH σ 0 0 137 [(0, .ref (gB g + 151)), (4, .int x4)] []
  refine a_aload_n (pc := 137) 0 rfl rfl d_BM_laidBall_137 ?_
  refine a_getR (pc := 138) fg_BM_37 sx_151 rfl d_BM_laidBall_138 ?_
  refine a_aload_n (pc := 141) 0 rfl rfl d_BM_laidBall_141 ?_
  refine a_getR (pc := 142) fg_BM_31 sx_151 rfl d_BM_laidBall_142 ?_
  refine a_iconst (pc := 145) (2 : Int32) (by decide) d_BM_laidBall_145 ?_
  obtain ⟨hx, h⟩ := h
  refine a_iald (pc := 146) sx_159 hx d_BM_laidBall_146 ?_
  refine a_iload (pc := 147) 1 rfl d_BM_laidBall_147 ?_
  obtain ⟨hx, h⟩ := h
  refine a_iast (pc := 149) sx_161 hx d_BM_laidBall_149 ?_
  refine a_nms (fun s1 hs1 => ?_)
  replace h := h s1 hs1
  refine a_aload_n (pc := 150) 0 rfl rfl d_BM_laidBall_150 ?_
  refine a_getR (pc := 151) fg_BM_31 sx_151 rfl d_BM_laidBall_151 ?_
  refine a_iconst (pc := 154) (2 : Int32) (by decide) d_BM_laidBall_154 ?_
  refine a_dup2_11 (pc := 155) rfl rfl d_BM_laidBall_155 ?_
  obtain ⟨hx, h⟩ := h
  refine a_iald (pc := 156) sx_159 hx d_BM_laidBall_156 ?_
  refine a_iconst (pc := 157) (1 : Int32) (by decide) d_BM_laidBall_157 ?_
  refine a_iadd (pc := 158) d_BM_laidBall_158 ?_
  obtain ⟨hx, h⟩ := h
  refine a_iast (pc := 159) sx_159 hx d_BM_laidBall_159 ?_
  refine a_nms (fun s2 hs2 => ?_)
  replace h := h s2 hs2
  exact b_vret (pc := 160) rfl d_BM_laidBall_160 h
theorem ko_BM_laidBall {g : Gx}  {σ : St} {Q : St → Prop} (h : S_BM_laidBall_0 g Q σ) : K_BM_laidBall g  σ Q := KV.of (show plainName "BallBoxModel" = true by decide) (Nat.le_of_ble_eq_true rfl) h
theorem d_BM_boxClause_0 : decode c_BM_boxClause 0 = .ok (.aload_n 0, 1) := by decide +kernel
theorem d_BM_boxClause_1 : decode c_BM_boxClause 1 = .ok (.invokevirtual 234, 3) := by decide +kernel
theorem d_BM_boxClause_4 : decode c_BM_boxClause 4 = .ok (.aload_n 0, 1) := by decide +kernel
theorem d_BM_boxClause_5 : decode c_BM_boxClause 5 = .ok (.getfield 214, 3) := by decide +kernel
theorem d_BM_boxClause_8 : decode c_BM_boxClause 8 = .ok (.istore_n 2, 1) := by decide +kernel
theorem d_BM_boxClause_9 : decode c_BM_boxClause 9 = .ok (.aload_n 0, 1) := by decide +kernel
theorem d_BM_boxClause_10 : decode c_BM_boxClause 10 = .ok (.ldc_w 317, 3) := by decide +kernel
theorem d_BM_boxClause_13 : decode c_BM_boxClause 13 = .ok (.invokevirtual 237, 3) := by decide +kernel
theorem d_BM_boxClause_16 : decode c_BM_boxClause 16 = .ok (.istore_n 3, 1) := by decide +kernel
theorem d_BM_boxClause_17 : decode c_BM_boxClause 17 = .ok (.iload_n 3, 1) := by decide +kernel
theorem d_BM_boxClause_18 : decode c_BM_boxClause 18 = .ok (.ifCond .ne 19, 3) := by decide +kernel
theorem d_BM_boxClause_21 : decode c_BM_boxClause 21 = .ok (.aload_n 0, 1) := by decide +kernel
theorem d_BM_boxClause_22 : decode c_BM_boxClause 22 = .ok (.ldc 195, 2) := by decide +kernel
theorem d_BM_boxClause_24 : decode c_BM_boxClause 24 = .ok (.invokevirtual 237, 3) := by decide +kernel
theorem d_BM_boxClause_27 : decode c_BM_boxClause 27 = .ok (.ifCond .ne 10, 3) := by decide +kernel
theorem d_BM_boxClause_30 : decode c_BM_boxClause 30 = .ok (.aload_n 0, 1) := by decide +kernel
theorem d_BM_boxClause_31 : decode c_BM_boxClause 31 = .ok (.iconst 0, 1) := by decide +kernel
theorem d_BM_boxClause_32 : decode c_BM_boxClause 32 = .ok (.iload_n 2, 1) := by decide +kernel
theorem d_BM_boxClause_33 : decode c_BM_boxClause 33 = .ok (.invokevirtual 250, 3) := by decide +kernel
theorem d_BM_boxClause_36 : decode c_BM_boxClause 36 = .ok (.return_, 1) := by decide +kernel
theorem d_BM_boxClause_37 : decode c_BM_boxClause 37 = .ok (.iload_n 3, 1) := by decide +kernel
theorem d_BM_boxClause_38 : decode c_BM_boxClause 38 = .ok (.ifCond .eq 31, 3) := by decide +kernel
theorem d_BM_boxClause_41 : decode c_BM_boxClause 41 = .ok (.aload_n 0, 1) := by decide +kernel
theorem d_BM_boxClause_42 : decode c_BM_boxClause 42 = .ok (.getfield 31, 3) := by decide +kernel
theorem d_BM_boxClause_45 : decode c_BM_boxClause 45 = .ok (.iconst 1, 1) := by decide +kernel
theorem d_BM_boxClause_46 : decode c_BM_boxClause 46 = .ok (.iaload, 1) := by decide +kernel
theorem d_BM_boxClause_47 : decode c_BM_boxClause 47 = .ok (.bipush 6, 2) := by decide +kernel
theorem d_BM_boxClause_49 : decode c_BM_boxClause 49 = .ok (.if_icmp .eq 12, 3) := by decide +kernel
theorem d_BM_boxClause_52 : decode c_BM_boxClause 52 = .ok (.aload_n 0, 1) := by decide +kernel
theorem d_BM_boxClause_53 : decode c_BM_boxClause 53 = .ok (.getfield 31, 3) := by decide +kernel
theorem d_BM_boxClause_56 : decode c_BM_boxClause 56 = .ok (.iconst 2, 1) := by decide +kernel
theorem d_BM_boxClause_57 : decode c_BM_boxClause 57 = .ok (.iaload, 1) := by decide +kernel
theorem d_BM_boxClause_58 : decode c_BM_boxClause 58 = .ok (.ifCond .le 7, 3) := by decide +kernel
theorem d_BM_boxClause_61 : decode c_BM_boxClause 61 = .ok (.iconst 1, 1) := by decide +kernel
theorem d_BM_boxClause_62 : decode c_BM_boxClause 62 = .ok (.goto 31, 3) := by decide +kernel
theorem d_BM_boxClause_65 : decode c_BM_boxClause 65 = .ok (.iconst 0, 1) := by decide +kernel
theorem d_BM_boxClause_66 : decode c_BM_boxClause 66 = .ok (.goto 27, 3) := by decide +kernel
theorem d_BM_boxClause_69 : decode c_BM_boxClause 69 = .ok (.aload_n 0, 1) := by decide +kernel
theorem d_BM_boxClause_70 : decode c_BM_boxClause 70 = .ok (.getfield 31, 3) := by decide +kernel
theorem d_BM_boxClause_73 : decode c_BM_boxClause 73 = .ok (.iconst 1, 1) := by decide +kernel
theorem d_BM_boxClause_74 : decode c_BM_boxClause 74 = .ok (.iaload, 1) := by decide +kernel
theorem d_BM_boxClause_75 : decode c_BM_boxClause 75 = .ok (.ifCond .eq 13, 3) := by decide +kernel
theorem d_BM_boxClause_78 : decode c_BM_boxClause 78 = .ok (.aload_n 0, 1) := by decide +kernel
theorem d_BM_boxClause_79 : decode c_BM_boxClause 79 = .ok (.getfield 31, 3) := by decide +kernel
theorem d_BM_boxClause_82 : decode c_BM_boxClause 82 = .ok (.iconst 2, 1) := by decide +kernel
theorem d_BM_boxClause_83 : decode c_BM_boxClause 83 = .ok (.iaload, 1) := by decide +kernel
theorem d_BM_boxClause_84 : decode c_BM_boxClause 84 = .ok (.iconst 3, 1) := by decide +kernel
theorem d_BM_boxClause_85 : decode c_BM_boxClause 85 = .ok (.if_icmp .ne 7, 3) := by decide +kernel
theorem d_BM_boxClause_88 : decode c_BM_boxClause 88 = .ok (.iconst 1, 1) := by decide +kernel
theorem d_BM_boxClause_89 : decode c_BM_boxClause 89 = .ok (.goto 4, 3) := by decide +kernel
theorem d_BM_boxClause_92 : decode c_BM_boxClause 92 = .ok (.iconst 0, 1) := by decide +kernel
theorem d_BM_boxClause_93 : decode c_BM_boxClause 93 = .ok (.istore 4, 2) := by decide +kernel
theorem d_BM_boxClause_95 : decode c_BM_boxClause 95 = .ok (.iload_n 1, 1) := by decide +kernel
theorem d_BM_boxClause_96 : decode c_BM_boxClause 96 = .ok (.bipush 12, 2) := by decide +kernel
theorem d_BM_boxClause_98 : decode c_BM_boxClause 98 = .ok (.if_icmp .eq 8, 3) := by decide +kernel
theorem d_BM_boxClause_101 : decode c_BM_boxClause 101 = .ok (.iload 4, 2) := by decide +kernel
theorem d_BM_boxClause_103 : decode c_BM_boxClause 103 = .ok (.ifCond .eq 10, 3) := by decide +kernel
theorem d_BM_boxClause_106 : decode c_BM_boxClause 106 = .ok (.aload_n 0, 1) := by decide +kernel
theorem d_BM_boxClause_107 : decode c_BM_boxClause 107 = .ok (.iconst 4, 1) := by decide +kernel
theorem d_BM_boxClause_108 : decode c_BM_boxClause 108 = .ok (.iload_n 2, 1) := by decide +kernel
theorem d_BM_boxClause_109 : decode c_BM_boxClause 109 = .ok (.invokevirtual 250, 3) := by decide +kernel
theorem d_BM_boxClause_112 : decode c_BM_boxClause 112 = .ok (.return_, 1) := by decide +kernel
theorem d_BM_boxClause_113 : decode c_BM_boxClause 113 = .ok (.aload_n 0, 1) := by decide +kernel
theorem d_BM_boxClause_114 : decode c_BM_boxClause 114 = .ok (.dup, 1) := by decide +kernel
theorem d_BM_boxClause_115 : decode c_BM_boxClause 115 = .ok (.getfield 214, 3) := by decide +kernel
theorem d_BM_boxClause_118 : decode c_BM_boxClause 118 = .ok (.iload_n 3, 1) := by decide +kernel
theorem d_BM_boxClause_119 : decode c_BM_boxClause 119 = .ok (.ifCond .eq 7, 3) := by decide +kernel
theorem d_BM_boxClause_122 : decode c_BM_boxClause 122 = .ok (.iconst 3, 1) := by decide +kernel
theorem d_BM_boxClause_123 : decode c_BM_boxClause 123 = .ok (.goto 4, 3) := by decide +kernel
theorem d_BM_boxClause_126 : decode c_BM_boxClause 126 = .ok (.iconst 4, 1) := by decide +kernel
theorem d_BM_boxClause_127 : decode c_BM_boxClause 127 = .ok (.iadd, 1) := by decide +kernel
theorem d_BM_boxClause_128 : decode c_BM_boxClause 128 = .ok (.putfield 214, 3) := by decide +kernel
theorem d_BM_boxClause_131 : decode c_BM_boxClause 131 = .ok (.iload_n 3, 1) := by decide +kernel
theorem d_BM_boxClause_132 : decode c_BM_boxClause 132 = .ok (.ifCond .eq 10, 3) := by decide +kernel
theorem d_BM_boxClause_135 : decode c_BM_boxClause 135 = .ok (.aload_n 0, 1) := by decide +kernel
theorem d_BM_boxClause_136 : decode c_BM_boxClause 136 = .ok (.invokevirtual 318, 3) := by decide +kernel
theorem d_BM_boxClause_139 : decode c_BM_boxClause 139 = .ok (.goto 7, 3) := by decide +kernel
theorem d_BM_boxClause_142 : decode c_BM_boxClause 142 = .ok (.aload_n 0, 1) := by decide +kernel
theorem d_BM_boxClause_143 : decode c_BM_boxClause 143 = .ok (.invokevirtual 321, 3) := by decide +kernel
theorem d_BM_boxClause_146 : decode c_BM_boxClause 146 = .ok (.return_, 1) := by decide +kernel
def S_BM_boxClause_0 (g : Gx) (Q : St → Prop) (σ : St) (x1 : Int32) : Prop := Ax g m_BM_boxClause 0 0 (ZV g Q) SH σ 0 0 0 [(0, .ref (gB g + 151)), (1, .int x1)] []
def S_BM_boxClause_37 (g : Gx) (Q : St → Prop) (σ : St) (x1 : Int32) (x2 : Int32) (x3 : Int32) : Prop := Ax g m_BM_boxClause 0 0 (ZV g Q) SH σ 0 0 37 [(0, .ref (gB g + 151)), (1, .int x1), (2, .int x2), (3, .int x3)] []
def S_BM_boxClause_93 (g : Gx) (Q : St → Prop) (σ : St) (x1 : Int32) (x2 : Int32) (x3 : Int32) (z0 : Int32) : Prop := Ax g m_BM_boxClause 0 0 (ZV g Q) SH σ 0 0 93 [(0, .ref (gB g + 151)), (1, .int x1), (2, .int x2), (3, .int x3)] [.int z0]
theorem sg_BM_boxClause_0 {g : Gx} {Q : St → Prop} {σ : St} {x1 : Int32}
    (h : K_BM_blanks g σ (fun s1 : St => ∀ u2 : Int32, u2 = (fi s1 151 12) → K_BM_stood g 0 s1 (fun (r4 : Int32) (s3 : St) => (¬ r4 = 0 → S_BM_boxClause_37 g Q s3 x1 u2 r4) ∧ (r4 = 0 → K_BM_stood g 1 s3 (fun (r6 : Int32) (s5 : St) => (¬ r6 = 0 → S_BM_boxClause_37 g Q s5 x1 u2 r4) ∧ (r6 = 0 → K_BM_fails g (0 : Int32) u2 s5 (fun s7 : St => Q s7))))))) : S_BM_boxClause_0 g Q σ x1 := by
  show Ax g m_BM_boxClause 0 0 (ZV g Q) SH σ 0 0 0 [(0, .ref (gB g + 151)), (1, .int x1)] []
  refine a_aload_n (pc := 0) 0 rfl rfl d_BM_boxClause_0 ?_
  refine a_callV (pc := 1) (M' := m_BM_blanks) (As := []) (st := []) (mc' := 0) (ms' := 0) lk_BM_234 rfl sx_151 rfl (by decide) (by decide) rfl (Nat.le_of_ble_eq_true rfl) (Nat.le_refl 0) (Nat.le_refl 0) d_BM_boxClause_1 h ?_
  rintro _ _ s1 ⟨rfl, rfl, h⟩ -
  show Ax g m_BM_boxClause 0 0 (ZV g Q) SH s1 0 0 4 [(0, .ref (gB g + 151)), (1, .int x1)] []
  refine a_aload_n (pc := 4) 0 rfl rfl d_BM_boxClause_4 ?_
  refine a_getI (pc := 5) fg_BM_214 sx_151 rfl d_BM_boxClause_5 ?_
  refine a_nmi (pc := 8) (fun u2 hu2 => ?_)
  replace h := h u2 hu2
  refine a_istore_n (pc := 8) (lv' := [(2, .int u2), (0, .ref (gB g + 151)), (1, .int x1)]) rfl (Nat.le_of_ble_eq_true rfl) rfl d_BM_boxClause_8 ?_
  refine a_aload_n (pc := 9) 1 rfl rfl d_BM_boxClause_9 ?_
  refine a_ldcwS (pc := 10) (own := "BallBoxModel") (idx := 317) (tx := "row") (w := 0) (by simp [strs]) rfl d_BM_boxClause_10 ?_
  refine a_callV (pc := 13) (M' := m_BM_stood) (As := [.ref (gK g 0)]) (st := []) (mc' := 0) (ms' := 0) lk_BM_237 rfl sx_151 rfl (by decide) (by decide) rfl (Nat.le_of_ble_eq_true rfl) (Nat.le_refl 0) (Nat.le_refl 0) d_BM_boxClause_13 h ?_
  rintro _ _ s3 ⟨r4, rfl, rfl, h⟩ -
  show Ax g m_BM_boxClause 0 0 (ZV g Q) SH s3 0 0 16 [(2, .int u2), (0, .ref (gB g + 151)), (1, .int x1)] [.int r4]
  refine a_istore_n (pc := 16) (lv' := [(3, .int r4), (2, .int u2), (0, .ref (gB g + 151)), (1, .int x1)]) rfl (Nat.le_of_ble_eq_true rfl) rfl d_BM_boxClause_16 ?_
  refine a_iload_n (pc := 17) 0 rfl rfl d_BM_boxClause_17 ?_
  refine a_if_ne (pc := 18) 37 (by decide) d_BM_boxClause_18 ⟨fun c0 => ?_, fun c0 => ?_⟩
  · replace h := h.1 c0
    refine a_sub (pc := 37) [2, 3, 1, 0] rfl ?_
    exact h
  · replace h := h.2 c0
    refine a_aload_n (pc := 21) 2 rfl rfl d_BM_boxClause_21 ?_
    refine a_ldcS (pc := 22) (own := "BallBoxModel") (idx := 195) (tx := "ball") (w := 1) (by simp [strs]) rfl d_BM_boxClause_22 ?_
    refine a_callV (pc := 24) (M' := m_BM_stood) (As := [.ref (gK g 1)]) (st := []) (mc' := 0) (ms' := 0) lk_BM_237 rfl sx_151 rfl (by decide) (by decide) rfl (Nat.le_of_ble_eq_true rfl) (Nat.le_refl 0) (Nat.le_refl 0) d_BM_boxClause_24 h ?_
    rintro _ _ s5 ⟨r6, rfl, rfl, h⟩ -
    show Ax g m_BM_boxClause 0 0 (ZV g Q) SH s5 0 0 27 [(3, .int r4), (2, .int u2), (0, .ref (gB g + 151)), (1, .int x1)] [.int r6]
    refine a_if_ne (pc := 27) 37 (by decide) d_BM_boxClause_27 ⟨fun c0 => ?_, fun c0 => ?_⟩
    · replace h := h.1 c0
      refine a_sub (pc := 37) [2, 3, 1, 0] rfl ?_
      exact h
    · replace h := h.2 c0
      refine a_aload_n (pc := 30) 2 rfl rfl d_BM_boxClause_30 ?_
      refine a_iconst (pc := 31) (0 : Int32) (by decide) d_BM_boxClause_31 ?_
      refine a_iload_n (pc := 32) 1 rfl rfl d_BM_boxClause_32 ?_
      refine a_callV (pc := 33) (M' := m_BM_fails) (As := [.int (0 : Int32), .int u2]) (st := []) (mc' := 0) (ms' := 0) lk_BM_250 rfl sx_151 rfl (by decide) (by decide) rfl (Nat.le_of_ble_eq_true rfl) (Nat.le_refl 0) (Nat.le_refl 0) d_BM_boxClause_33 h ?_
      rintro _ _ s7 ⟨rfl, rfl, h⟩ -
      show Ax g m_BM_boxClause 0 0 (ZV g Q) SH s7 0 0 36 [(3, .int r4), (2, .int u2), (0, .ref (gB g + 151)), (1, .int x1)] []
      exact b_vret (pc := 36) rfl d_BM_boxClause_36 h
theorem sg_BM_boxClause_37 {g : Gx} {Q : St → Prop} {σ : St} {x1 : Int32} {x2 : Int32} {x3 : Int32}
    (h : (x3 = 0 → vp_in (1 : Int32) 3 ∧ (((ai σ 159 ((1 : Int32)).toNatClampNeg) = 0 → S_BM_boxClause_93 g Q σ x1 x2 x3 (1 : Int32)) ∧ (¬ (ai σ 159 ((1 : Int32)).toNatClampNeg) = 0 → vp_in (2 : Int32) 3 ∧ ((¬ (ai σ 159 ((2 : Int32)).toNatClampNeg) = (3 : Int32) → S_BM_boxClause_93 g Q σ x1 x2 x3 (0 : Int32)) ∧ ((ai σ 159 ((2 : Int32)).toNatClampNeg) = (3 : Int32) → S_BM_boxClause_93 g Q σ x1 x2 x3 (1 : Int32)))))) ∧ (¬ x3 = 0 → vp_in (1 : Int32) 3 ∧ (((ai σ 159 ((1 : Int32)).toNatClampNeg) = (6 : Int32) → S_BM_boxClause_93 g Q σ x1 x2 x3 (1 : Int32)) ∧ (¬ (ai σ 159 ((1 : Int32)).toNatClampNeg) = (6 : Int32) → vp_in (2 : Int32) 3 ∧ (((ai σ 159 ((2 : Int32)).toNatClampNeg) ≤ 0 → S_BM_boxClause_93 g Q σ x1 x2 x3 (0 : Int32)) ∧ (¬ (ai σ 159 ((2 : Int32)).toNatClampNeg) ≤ 0 → S_BM_boxClause_93 g Q σ x1 x2 x3 (1 : Int32))))))) : S_BM_boxClause_37 g Q σ x1 x2 x3 := by
  show Ax g m_BM_boxClause 0 0 (ZV g Q) SH σ 0 0 37 [(0, .ref (gB g + 151)), (1, .int x1), (2, .int x2), (3, .int x3)] []
  refine a_iload_n (pc := 37) 3 rfl rfl d_BM_boxClause_37 ?_
  refine a_if_eq (pc := 38) 69 (by decide) d_BM_boxClause_38 ⟨fun c0 => ?_, fun c0 => ?_⟩
  · replace h := h.1 c0
    refine a_aload_n (pc := 69) 0 rfl rfl d_BM_boxClause_69 ?_
    refine a_getR (pc := 70) fg_BM_31 sx_151 rfl d_BM_boxClause_70 ?_
    refine a_iconst (pc := 73) (1 : Int32) (by decide) d_BM_boxClause_73 ?_
    obtain ⟨hx, h⟩ := h
    refine a_iald (pc := 74) sx_159 hx d_BM_boxClause_74 ?_
    refine a_if_eq (pc := 75) 88 (by decide) d_BM_boxClause_75 ⟨fun c0 => ?_, fun c0 => ?_⟩
    · replace h := h.1 c0
      refine a_iconst (pc := 88) (1 : Int32) (by decide) d_BM_boxClause_88 ?_
      refine a_goto (pc := 89) 93 (by decide) d_BM_boxClause_89 ?_
      refine a_sub (pc := 93) [0, 1, 2, 3] rfl ?_
      exact h
    · replace h := h.2 c0
      refine a_aload_n (pc := 78) 0 rfl rfl d_BM_boxClause_78 ?_
      refine a_getR (pc := 79) fg_BM_31 sx_151 rfl d_BM_boxClause_79 ?_
      refine a_iconst (pc := 82) (2 : Int32) (by decide) d_BM_boxClause_82 ?_
      obtain ⟨hx, h⟩ := h
      refine a_iald (pc := 83) sx_159 hx d_BM_boxClause_83 ?_
      refine a_iconst (pc := 84) (3 : Int32) (by decide) d_BM_boxClause_84 ?_
      refine a_icmp_ne (pc := 85) 92 (by decide) d_BM_boxClause_85 ⟨fun c0 => ?_, fun c0 => ?_⟩
      · replace h := h.1 c0
        refine a_iconst (pc := 92) (0 : Int32) (by decide) d_BM_boxClause_92 ?_
        refine a_sub (pc := 93) [0, 1, 2, 3] rfl ?_
        exact h
      · replace h := h.2 c0
        refine a_iconst (pc := 88) (1 : Int32) (by decide) d_BM_boxClause_88 ?_
        refine a_goto (pc := 89) 93 (by decide) d_BM_boxClause_89 ?_
        refine a_sub (pc := 93) [0, 1, 2, 3] rfl ?_
        exact h
  · replace h := h.2 c0
    refine a_aload_n (pc := 41) 0 rfl rfl d_BM_boxClause_41 ?_
    refine a_getR (pc := 42) fg_BM_31 sx_151 rfl d_BM_boxClause_42 ?_
    refine a_iconst (pc := 45) (1 : Int32) (by decide) d_BM_boxClause_45 ?_
    obtain ⟨hx, h⟩ := h
    refine a_iald (pc := 46) sx_159 hx d_BM_boxClause_46 ?_
    refine a_bipush (pc := 47) (6 : Int32) (by decide) d_BM_boxClause_47 ?_
    refine a_icmp_eq (pc := 49) 61 (by decide) d_BM_boxClause_49 ⟨fun c0 => ?_, fun c0 => ?_⟩
    · replace h := h.1 c0
      refine a_iconst (pc := 61) (1 : Int32) (by decide) d_BM_boxClause_61 ?_
      refine a_goto (pc := 62) 93 (by decide) d_BM_boxClause_62 ?_
      refine a_sub (pc := 93) [0, 1, 2, 3] rfl ?_
      exact h
    · replace h := h.2 c0
      refine a_aload_n (pc := 52) 0 rfl rfl d_BM_boxClause_52 ?_
      refine a_getR (pc := 53) fg_BM_31 sx_151 rfl d_BM_boxClause_53 ?_
      refine a_iconst (pc := 56) (2 : Int32) (by decide) d_BM_boxClause_56 ?_
      obtain ⟨hx, h⟩ := h
      refine a_iald (pc := 57) sx_159 hx d_BM_boxClause_57 ?_
      refine a_if_le (pc := 58) 65 (by decide) d_BM_boxClause_58 ⟨fun c0 => ?_, fun c0 => ?_⟩
      · replace h := h.1 c0
        refine a_iconst (pc := 65) (0 : Int32) (by decide) d_BM_boxClause_65 ?_
        refine a_goto (pc := 66) 93 (by decide) d_BM_boxClause_66 ?_
        refine a_sub (pc := 93) [0, 1, 2, 3] rfl ?_
        exact h
      · replace h := h.2 c0
        refine a_iconst (pc := 61) (1 : Int32) (by decide) d_BM_boxClause_61 ?_
        refine a_goto (pc := 62) 93 (by decide) d_BM_boxClause_62 ?_
        refine a_sub (pc := 93) [0, 1, 2, 3] rfl ?_
        exact h
theorem sg_BM_boxClause_93 {g : Gx} {Q : St → Prop} {σ : St} {x1 : Int32} {x2 : Int32} {x3 : Int32} {z0 : Int32}
    (h : (x1 = (12 : Int32) → K_BM_fails g (4 : Int32) x2 σ (fun s1 : St => Q s1)) ∧ (¬ x1 = (12 : Int32) → (z0 = 0 → (x3 = 0 → ∀ s2 : St, s2 = sfi σ 151 12 ((fi σ 151 12) + (4 : Int32)) → (x3 = 0 → K_BM_laidBall g s2 (fun s3 : St => Q s3)) ∧ (¬ x3 = 0 → K_BM_signs g s2 (fun s4 : St => Q s4))) ∧ (¬ x3 = 0 → ∀ s5 : St, s5 = sfi σ 151 12 ((fi σ 151 12) + (3 : Int32)) → (x3 = 0 → K_BM_laidBall g s5 (fun s6 : St => Q s6)) ∧ (¬ x3 = 0 → K_BM_signs g s5 (fun s7 : St => Q s7)))) ∧ (¬ z0 = 0 → K_BM_fails g (4 : Int32) x2 σ (fun s8 : St => Q s8)))) : S_BM_boxClause_93 g Q σ x1 x2 x3 z0 := by
  show Ax g m_BM_boxClause 0 0 (ZV g Q) SH σ 0 0 93 [(0, .ref (gB g + 151)), (1, .int x1), (2, .int x2), (3, .int x3)] [.int z0]
  refine a_istore (pc := 93) (lv' := [(4, .int z0), (0, .ref (gB g + 151)), (1, .int x1), (2, .int x2), (3, .int x3)]) (Nat.le_of_ble_eq_true rfl) rfl d_BM_boxClause_93 ?_
  refine a_iload_n (pc := 95) 2 rfl rfl d_BM_boxClause_95 ?_
  refine a_bipush (pc := 96) (12 : Int32) (by decide) d_BM_boxClause_96 ?_
  refine a_icmp_eq (pc := 98) 106 (by decide) d_BM_boxClause_98 ⟨fun c0 => ?_, fun c0 => ?_⟩
  · replace h := h.1 c0
    refine a_aload_n (pc := 106) 1 rfl rfl d_BM_boxClause_106 ?_
    refine a_iconst (pc := 107) (4 : Int32) (by decide) d_BM_boxClause_107 ?_
    refine a_iload_n (pc := 108) 3 rfl rfl d_BM_boxClause_108 ?_
    refine a_callV (pc := 109) (M' := m_BM_fails) (As := [.int (4 : Int32), .int x2]) (st := []) (mc' := 0) (ms' := 0) lk_BM_250 rfl sx_151 rfl (by decide) (by decide) rfl (Nat.le_of_ble_eq_true rfl) (Nat.le_refl 0) (Nat.le_refl 0) d_BM_boxClause_109 h ?_
    rintro _ _ s1 ⟨rfl, rfl, h⟩ -
    show Ax g m_BM_boxClause 0 0 (ZV g Q) SH s1 0 0 112 [(4, .int z0), (0, .ref (gB g + 151)), (1, .int x1), (2, .int x2), (3, .int x3)] []
    exact b_vret (pc := 112) rfl d_BM_boxClause_112 h
  · replace h := h.2 c0
    refine a_iload (pc := 101) 0 rfl d_BM_boxClause_101 ?_
    refine a_if_eq (pc := 103) 113 (by decide) d_BM_boxClause_103 ⟨fun c0 => ?_, fun c0 => ?_⟩
    · replace h := h.1 c0
      refine a_aload_n (pc := 113) 1 rfl rfl d_BM_boxClause_113 ?_
      refine a_dup (pc := 114) rfl d_BM_boxClause_114 ?_
      refine a_getI (pc := 115) fg_BM_214 sx_151 rfl d_BM_boxClause_115 ?_
      refine a_iload_n (pc := 118) 4 rfl rfl d_BM_boxClause_118 ?_
      refine a_if_eq (pc := 119) 126 (by decide) d_BM_boxClause_119 ⟨fun c0 => ?_, fun c0 => ?_⟩
      · replace h := h.1 c0
        refine a_iconst (pc := 126) (4 : Int32) (by decide) d_BM_boxClause_126 ?_
        refine a_iadd (pc := 127) d_BM_boxClause_127 ?_
        refine a_putI (pc := 128) fp_BM_214 sx_151 rfl d_BM_boxClause_128 ?_
        refine a_nms (fun s2 hs2 => ?_)
        replace h := h s2 hs2
        refine a_iload_n (pc := 131) 4 rfl rfl d_BM_boxClause_131 ?_
        refine a_if_eq (pc := 132) 142 (by decide) d_BM_boxClause_132 ⟨fun c0 => ?_, fun c0 => ?_⟩
        · replace h := h.1 c0
          refine a_aload_n (pc := 142) 1 rfl rfl d_BM_boxClause_142 ?_
          refine a_callV (pc := 143) (M' := m_BM_laidBall) (As := []) (st := []) (mc' := 0) (ms' := 0) lk_BM_321 rfl sx_151 rfl (by decide) (by decide) rfl (Nat.le_of_ble_eq_true rfl) (Nat.le_refl 0) (Nat.le_refl 0) d_BM_boxClause_143 h ?_
          rintro _ _ s3 ⟨rfl, rfl, h⟩ -
          show Ax g m_BM_boxClause 0 0 (ZV g Q) SH s3 0 0 146 [(4, .int z0), (0, .ref (gB g + 151)), (1, .int x1), (2, .int x2), (3, .int x3)] []
          exact b_vret (pc := 146) rfl d_BM_boxClause_146 h
        · replace h := h.2 c0
          refine a_aload_n (pc := 135) 1 rfl rfl d_BM_boxClause_135 ?_
          refine a_callV (pc := 136) (M' := m_BM_signs) (As := []) (st := []) (mc' := 0) (ms' := 0) lk_BM_318 rfl sx_151 rfl (by decide) (by decide) rfl (Nat.le_of_ble_eq_true rfl) (Nat.le_refl 0) (Nat.le_refl 0) d_BM_boxClause_136 h ?_
          rintro _ _ s4 ⟨rfl, rfl, h⟩ -
          show Ax g m_BM_boxClause 0 0 (ZV g Q) SH s4 0 0 139 [(4, .int z0), (0, .ref (gB g + 151)), (1, .int x1), (2, .int x2), (3, .int x3)] []
          refine a_goto (pc := 139) 146 (by decide) d_BM_boxClause_139 ?_
          exact b_vret (pc := 146) rfl d_BM_boxClause_146 h
      · replace h := h.2 c0
        refine a_iconst (pc := 122) (3 : Int32) (by decide) d_BM_boxClause_122 ?_
        refine a_goto (pc := 123) 127 (by decide) d_BM_boxClause_123 ?_
        refine a_iadd (pc := 127) d_BM_boxClause_127 ?_
        refine a_putI (pc := 128) fp_BM_214 sx_151 rfl d_BM_boxClause_128 ?_
        refine a_nms (fun s5 hs5 => ?_)
        replace h := h s5 hs5
        refine a_iload_n (pc := 131) 4 rfl rfl d_BM_boxClause_131 ?_
        refine a_if_eq (pc := 132) 142 (by decide) d_BM_boxClause_132 ⟨fun c0 => ?_, fun c0 => ?_⟩
        · replace h := h.1 c0
          refine a_aload_n (pc := 142) 1 rfl rfl d_BM_boxClause_142 ?_
          refine a_callV (pc := 143) (M' := m_BM_laidBall) (As := []) (st := []) (mc' := 0) (ms' := 0) lk_BM_321 rfl sx_151 rfl (by decide) (by decide) rfl (Nat.le_of_ble_eq_true rfl) (Nat.le_refl 0) (Nat.le_refl 0) d_BM_boxClause_143 h ?_
          rintro _ _ s6 ⟨rfl, rfl, h⟩ -
          show Ax g m_BM_boxClause 0 0 (ZV g Q) SH s6 0 0 146 [(4, .int z0), (0, .ref (gB g + 151)), (1, .int x1), (2, .int x2), (3, .int x3)] []
          exact b_vret (pc := 146) rfl d_BM_boxClause_146 h
        · replace h := h.2 c0
          refine a_aload_n (pc := 135) 1 rfl rfl d_BM_boxClause_135 ?_
          refine a_callV (pc := 136) (M' := m_BM_signs) (As := []) (st := []) (mc' := 0) (ms' := 0) lk_BM_318 rfl sx_151 rfl (by decide) (by decide) rfl (Nat.le_of_ble_eq_true rfl) (Nat.le_refl 0) (Nat.le_refl 0) d_BM_boxClause_136 h ?_
          rintro _ _ s7 ⟨rfl, rfl, h⟩ -
          show Ax g m_BM_boxClause 0 0 (ZV g Q) SH s7 0 0 139 [(4, .int z0), (0, .ref (gB g + 151)), (1, .int x1), (2, .int x2), (3, .int x3)] []
          refine a_goto (pc := 139) 146 (by decide) d_BM_boxClause_139 ?_
          exact b_vret (pc := 146) rfl d_BM_boxClause_146 h
    · replace h := h.2 c0
      refine a_aload_n (pc := 106) 1 rfl rfl d_BM_boxClause_106 ?_
      refine a_iconst (pc := 107) (4 : Int32) (by decide) d_BM_boxClause_107 ?_
      refine a_iload_n (pc := 108) 3 rfl rfl d_BM_boxClause_108 ?_
      refine a_callV (pc := 109) (M' := m_BM_fails) (As := [.int (4 : Int32), .int x2]) (st := []) (mc' := 0) (ms' := 0) lk_BM_250 rfl sx_151 rfl (by decide) (by decide) rfl (Nat.le_of_ble_eq_true rfl) (Nat.le_refl 0) (Nat.le_refl 0) d_BM_boxClause_109 h ?_
      rintro _ _ s8 ⟨rfl, rfl, h⟩ -
      show Ax g m_BM_boxClause 0 0 (ZV g Q) SH s8 0 0 112 [(4, .int z0), (0, .ref (gB g + 151)), (1, .int x1), (2, .int x2), (3, .int x3)] []
      exact b_vret (pc := 112) rfl d_BM_boxClause_112 h
theorem ko_BM_boxClause {g : Gx}  {x1 : Int32} {σ : St} {Q : St → Prop} (h : S_BM_boxClause_0 g Q σ x1) : K_BM_boxClause g x1 σ Q := KV.of (show plainName "BallBoxModel" = true by decide) (Nat.le_of_ble_eq_true rfl) h
theorem d_BM_lay_0 : decode c_BM_lay 0 = .ok (.iconst 0, 1) := by decide +kernel
theorem d_BM_lay_1 : decode c_BM_lay 1 = .ok (.istore_n 2, 1) := by decide +kernel
theorem d_BM_lay_2 : decode c_BM_lay 2 = .ok (.iload_n 2, 1) := by decide +kernel
theorem d_BM_lay_3 : decode c_BM_lay 3 = .ok (.aload_n 0, 1) := by decide +kernel
theorem d_BM_lay_4 : decode c_BM_lay 4 = .ok (.arraylength, 1) := by decide +kernel
theorem d_BM_lay_5 : decode c_BM_lay 5 = .ok (.if_icmp .ge 15, 3) := by decide +kernel
theorem d_BM_lay_8 : decode c_BM_lay 8 = .ok (.aload_n 1, 1) := by decide +kernel
theorem d_BM_lay_9 : decode c_BM_lay 9 = .ok (.iload_n 2, 1) := by decide +kernel
theorem d_BM_lay_10 : decode c_BM_lay 10 = .ok (.aload_n 0, 1) := by decide +kernel
theorem d_BM_lay_11 : decode c_BM_lay 11 = .ok (.iload_n 2, 1) := by decide +kernel
theorem d_BM_lay_12 : decode c_BM_lay 12 = .ok (.iaload, 1) := by decide +kernel
theorem d_BM_lay_13 : decode c_BM_lay 13 = .ok (.iastore, 1) := by decide +kernel
theorem d_BM_lay_14 : decode c_BM_lay 14 = .ok (.iinc 2 1, 3) := by decide +kernel
theorem d_BM_lay_17 : decode c_BM_lay 17 = .ok (.goto (-15), 3) := by decide +kernel
theorem d_BM_lay_20 : decode c_BM_lay 20 = .ok (.return_, 1) := by decide +kernel
def S_BM_lay_0 (g : Gx) (Q : St → Prop) (σ : St) (a0 : Nat) (a1 : Nat) : Prop := Ax g m_BM_lay 0 0 (ZV g Q) SH σ 0 0 0 [(0, .ref (gB g + a0)), (1, .ref (gB g + a1))] []
def S_BM_lay_2 (g : Gx) (Q : St → Prop) (σ : St) (a0 : Nat) (a1 : Nat) (x2 : Int32) : Prop := Ax g m_BM_lay 0 0 (ZV g Q) SH σ 0 0 2 [(0, .ref (gB g + a0)), (1, .ref (gB g + a1)), (2, .int x2)] []
theorem sg_BM_lay_0 {g : Gx} {Q : St → Prop} {σ : St} {a0 : Nat} {N0 : Nat} {a1 : Nat} {N1 : Nat} (ha0 : SH[a0]? = some (.inr (0, N0, []))) (ha1 : SH[a1]? = some (.inr (0, N1, [])))
    (h : S_BM_lay_2 g Q σ a0 a1 (0 : Int32)) : S_BM_lay_0 g Q σ a0 a1 := by
  show Ax g m_BM_lay 0 0 (ZV g Q) SH σ 0 0 0 [(0, .ref (gB g + a0)), (1, .ref (gB g + a1))] []
  refine a_iconst (pc := 0) (0 : Int32) (by decide) d_BM_lay_0 ?_
  refine a_istore_n (pc := 1) (lv' := [(2, .int (0 : Int32)), (0, .ref (gB g + a0)), (1, .ref (gB g + a1))]) rfl (Nat.le_of_ble_eq_true rfl) rfl d_BM_lay_1 ?_
  refine a_sub (pc := 2) [1, 2, 0] rfl ?_
  exact h
theorem sg_BM_lay_2 {g : Gx} {Q : St → Prop} {σ : St} {a0 : Nat} {N0 : Nat} {a1 : Nat} {N1 : Nat} {x2 : Int32} (ha0 : SH[a0]? = some (.inr (0, N0, []))) (ha1 : SH[a1]? = some (.inr (0, N1, [])))
    (h : ((Int32.ofNat N0) ≤ x2 → Q σ) ∧ (¬ (Int32.ofNat N0) ≤ x2 → vp_in x2 N0 ∧ (vp_in x2 N1 ∧ (∀ s1 : St, s1 = sai σ a1 (x2).toNatClampNeg (ai σ a0 (x2).toNatClampNeg) → ∀ u2 : Int32, u2 = x2 + (1 : Int32) → S_BM_lay_2 g Q s1 a0 a1 u2)))) : S_BM_lay_2 g Q σ a0 a1 x2 := by
  show Ax g m_BM_lay 0 0 (ZV g Q) SH σ 0 0 2 [(0, .ref (gB g + a0)), (1, .ref (gB g + a1)), (2, .int x2)] []
  refine a_iload_n (pc := 2) 2 rfl rfl d_BM_lay_2 ?_
  refine a_aload_n (pc := 3) 0 rfl rfl d_BM_lay_3 ?_
  refine a_alen (pc := 4) (kd := 0) rfl ha0 d_BM_lay_4 ?_
  refine a_icmp_ge (pc := 5) 20 (by decide) d_BM_lay_5 ⟨fun c0 => ?_, fun c0 => ?_⟩
  · replace h := h.1 c0
    exact b_vret (pc := 20) rfl d_BM_lay_20 h
  · replace h := h.2 c0
    refine a_aload_n (pc := 8) 1 rfl rfl d_BM_lay_8 ?_
    refine a_iload_n (pc := 9) 2 rfl rfl d_BM_lay_9 ?_
    refine a_aload_n (pc := 10) 0 rfl rfl d_BM_lay_10 ?_
    refine a_iload_n (pc := 11) 2 rfl rfl d_BM_lay_11 ?_
    obtain ⟨hx, h⟩ := h
    refine a_iald (pc := 12) ha0 hx d_BM_lay_12 ?_
    obtain ⟨hx, h⟩ := h
    refine a_iast (pc := 13) ha1 hx d_BM_lay_13 ?_
    refine a_nms (fun s1 hs1 => ?_)
    replace h := h s1 hs1
    obtain ⟨u2, hu2⟩ : ∃ y : Int32, y = x2 + (1 : Int32) := ⟨_, rfl⟩
    replace h := h u2 hu2
    refine a_iinc (pc := 14) (v := u2) (lv' := [(2, .int u2), (0, .ref (gB g + a0)), (1, .ref (gB g + a1))]) 2 rfl (by rw [hu2]; rfl) (Nat.le_of_ble_eq_true rfl) rfl d_BM_lay_14 ?_
    refine a_goto (pc := 17) 2 (by decide) d_BM_lay_17 ?_
    refine a_sub (pc := 2) [1, 2, 0] rfl ?_
    exact h
theorem ko_BM_lay {g : Gx}  {a0 : Nat} {a1 : Nat} {σ : St} {Q : St → Prop} (h : S_BM_lay_0 g Q σ a0 a1) : K_BM_lay g a0 a1 σ Q := KV.of (show plainName "BallBoxModel" = true by decide) (Nat.le_of_ble_eq_true rfl) h
theorem d_BM_goesOn_0 : decode c_BM_goesOn 0 = .ok (.aload_n 0, 1) := by decide +kernel
theorem d_BM_goesOn_1 : decode c_BM_goesOn 1 = .ok (.invokevirtual 234, 3) := by decide +kernel
theorem d_BM_goesOn_4 : decode c_BM_goesOn 4 = .ok (.aload_n 0, 1) := by decide +kernel
theorem d_BM_goesOn_5 : decode c_BM_goesOn 5 = .ok (.getfield 211, 3) := by decide +kernel
theorem d_BM_goesOn_8 : decode c_BM_goesOn 8 = .ok (.ifCond .ne 32, 3) := by decide +kernel
theorem d_BM_goesOn_11 : decode c_BM_goesOn 11 = .ok (.aload_n 0, 1) := by decide +kernel
theorem d_BM_goesOn_12 : decode c_BM_goesOn 12 = .ok (.getfield 214, 3) := by decide +kernel
theorem d_BM_goesOn_15 : decode c_BM_goesOn 15 = .ok (.aload_n 0, 1) := by decide +kernel
theorem d_BM_goesOn_16 : decode c_BM_goesOn 16 = .ok (.getfield 188, 3) := by decide +kernel
theorem d_BM_goesOn_19 : decode c_BM_goesOn 19 = .ok (.if_icmp .ge 21, 3) := by decide +kernel
theorem d_BM_goesOn_22 : decode c_BM_goesOn 22 = .ok (.aload_n 0, 1) := by decide +kernel
theorem d_BM_goesOn_23 : decode c_BM_goesOn 23 = .ok (.invokevirtual 217, 3) := by decide +kernel
theorem d_BM_goesOn_26 : decode c_BM_goesOn 26 = .ok (.bipush 59, 2) := by decide +kernel
theorem d_BM_goesOn_28 : decode c_BM_goesOn 28 = .ok (.if_icmp .eq 12, 3) := by decide +kernel
theorem d_BM_goesOn_31 : decode c_BM_goesOn 31 = .ok (.aload_n 0, 1) := by decide +kernel
theorem d_BM_goesOn_32 : decode c_BM_goesOn 32 = .ok (.iconst 0, 1) := by decide +kernel
theorem d_BM_goesOn_33 : decode c_BM_goesOn 33 = .ok (.aload_n 0, 1) := by decide +kernel
theorem d_BM_goesOn_34 : decode c_BM_goesOn 34 = .ok (.getfield 214, 3) := by decide +kernel
theorem d_BM_goesOn_37 : decode c_BM_goesOn 37 = .ok (.invokevirtual 250, 3) := by decide +kernel
theorem d_BM_goesOn_40 : decode c_BM_goesOn 40 = .ok (.aload_n 0, 1) := by decide +kernel
theorem d_BM_goesOn_41 : decode c_BM_goesOn 41 = .ok (.getfield 211, 3) := by decide +kernel
theorem d_BM_goesOn_44 : decode c_BM_goesOn 44 = .ok (.ifCond .ne 18, 3) := by decide +kernel
theorem d_BM_goesOn_47 : decode c_BM_goesOn 47 = .ok (.aload_n 0, 1) := by decide +kernel
theorem d_BM_goesOn_48 : decode c_BM_goesOn 48 = .ok (.getfield 214, 3) := by decide +kernel
theorem d_BM_goesOn_51 : decode c_BM_goesOn 51 = .ok (.aload_n 0, 1) := by decide +kernel
theorem d_BM_goesOn_52 : decode c_BM_goesOn 52 = .ok (.getfield 188, 3) := by decide +kernel
theorem d_BM_goesOn_55 : decode c_BM_goesOn 55 = .ok (.if_icmp .ge 7, 3) := by decide +kernel
theorem d_BM_goesOn_58 : decode c_BM_goesOn 58 = .ok (.iconst 1, 1) := by decide +kernel
theorem d_BM_goesOn_59 : decode c_BM_goesOn 59 = .ok (.goto 4, 3) := by decide +kernel
theorem d_BM_goesOn_62 : decode c_BM_goesOn 62 = .ok (.iconst 0, 1) := by decide +kernel
theorem d_BM_goesOn_63 : decode c_BM_goesOn 63 = .ok (.istore_n 1, 1) := by decide +kernel
theorem d_BM_goesOn_64 : decode c_BM_goesOn 64 = .ok (.aload_n 0, 1) := by decide +kernel
theorem d_BM_goesOn_65 : decode c_BM_goesOn 65 = .ok (.dup, 1) := by decide +kernel
theorem d_BM_goesOn_66 : decode c_BM_goesOn 66 = .ok (.getfield 214, 3) := by decide +kernel
theorem d_BM_goesOn_69 : decode c_BM_goesOn 69 = .ok (.iconst 1, 1) := by decide +kernel
theorem d_BM_goesOn_70 : decode c_BM_goesOn 70 = .ok (.iadd, 1) := by decide +kernel
theorem d_BM_goesOn_71 : decode c_BM_goesOn 71 = .ok (.putfield 214, 3) := by decide +kernel
theorem d_BM_goesOn_74 : decode c_BM_goesOn 74 = .ok (.iload_n 1, 1) := by decide +kernel
theorem d_BM_goesOn_75 : decode c_BM_goesOn 75 = .ok (.ireturn, 1) := by decide +kernel
def S_BM_goesOn_0 (g : Gx) (Q : Int32 → St → Prop) (σ : St) : Prop := Ax g m_BM_goesOn 0 0 (ZI g Q) SH σ 0 0 0 [(0, .ref (gB g + 151))] []
def S_BM_goesOn_40 (g : Gx) (Q : Int32 → St → Prop) (σ : St) : Prop := Ax g m_BM_goesOn 0 0 (ZI g Q) SH σ 0 0 40 [(0, .ref (gB g + 151))] []
theorem sg_BM_goesOn_0 {g : Gx} {Q : Int32 → St → Prop} {σ : St}
    (h : K_BM_blanks g σ (fun s1 : St => (¬ (fi s1 151 13) = 0 → S_BM_goesOn_40 g Q s1) ∧ ((fi s1 151 13) = 0 → ((fi s1 151 11) ≤ (fi s1 151 12) → S_BM_goesOn_40 g Q s1) ∧ (¬ (fi s1 151 11) ≤ (fi s1 151 12) → K_BM_sign g s1 (fun (r3 : Int32) (s2 : St) => (r3 = (59 : Int32) → S_BM_goesOn_40 g Q s2) ∧ (¬ r3 = (59 : Int32) → K_BM_fails g (0 : Int32) (fi s2 151 12) s2 (fun s4 : St => S_BM_goesOn_40 g Q s4))))))) : S_BM_goesOn_0 g Q σ := by
  show Ax g m_BM_goesOn 0 0 (ZI g Q) SH σ 0 0 0 [(0, .ref (gB g + 151))] []
  refine a_aload_n (pc := 0) 0 rfl rfl d_BM_goesOn_0 ?_
  refine a_callV (pc := 1) (M' := m_BM_blanks) (As := []) (st := []) (mc' := 0) (ms' := 0) lk_BM_234 rfl sx_151 rfl (by decide) (by decide) rfl (Nat.le_of_ble_eq_true rfl) (Nat.le_refl 0) (Nat.le_refl 0) d_BM_goesOn_1 h ?_
  rintro _ _ s1 ⟨rfl, rfl, h⟩ -
  show Ax g m_BM_goesOn 0 0 (ZI g Q) SH s1 0 0 4 [(0, .ref (gB g + 151))] []
  refine a_aload_n (pc := 4) 0 rfl rfl d_BM_goesOn_4 ?_
  refine a_getI (pc := 5) fg_BM_211 sx_151 rfl d_BM_goesOn_5 ?_
  refine a_if_ne (pc := 8) 40 (by decide) d_BM_goesOn_8 ⟨fun c0 => ?_, fun c0 => ?_⟩
  · replace h := h.1 c0
    refine a_sub (pc := 40) [0] rfl ?_
    exact h
  · replace h := h.2 c0
    refine a_aload_n (pc := 11) 0 rfl rfl d_BM_goesOn_11 ?_
    refine a_getI (pc := 12) fg_BM_214 sx_151 rfl d_BM_goesOn_12 ?_
    refine a_aload_n (pc := 15) 0 rfl rfl d_BM_goesOn_15 ?_
    refine a_getI (pc := 16) fg_BM_188 sx_151 rfl d_BM_goesOn_16 ?_
    refine a_icmp_ge (pc := 19) 40 (by decide) d_BM_goesOn_19 ⟨fun c0 => ?_, fun c0 => ?_⟩
    · replace h := h.1 c0
      refine a_sub (pc := 40) [0] rfl ?_
      exact h
    · replace h := h.2 c0
      refine a_aload_n (pc := 22) 0 rfl rfl d_BM_goesOn_22 ?_
      refine a_callV (pc := 23) (M' := m_BM_sign) (As := []) (st := []) (mc' := 0) (ms' := 0) lk_BM_217 rfl sx_151 rfl (by decide) (by decide) rfl (Nat.le_of_ble_eq_true rfl) (Nat.le_refl 0) (Nat.le_refl 0) d_BM_goesOn_23 h ?_
      rintro _ _ s2 ⟨r3, rfl, rfl, h⟩ -
      show Ax g m_BM_goesOn 0 0 (ZI g Q) SH s2 0 0 26 [(0, .ref (gB g + 151))] [.int r3]
      refine a_bipush (pc := 26) (59 : Int32) (by decide) d_BM_goesOn_26 ?_
      refine a_icmp_eq (pc := 28) 40 (by decide) d_BM_goesOn_28 ⟨fun c0 => ?_, fun c0 => ?_⟩
      · replace h := h.1 c0
        refine a_sub (pc := 40) [0] rfl ?_
        exact h
      · replace h := h.2 c0
        refine a_aload_n (pc := 31) 0 rfl rfl d_BM_goesOn_31 ?_
        refine a_iconst (pc := 32) (0 : Int32) (by decide) d_BM_goesOn_32 ?_
        refine a_aload_n (pc := 33) 0 rfl rfl d_BM_goesOn_33 ?_
        refine a_getI (pc := 34) fg_BM_214 sx_151 rfl d_BM_goesOn_34 ?_
        refine a_callV (pc := 37) (M' := m_BM_fails) (As := [.int (0 : Int32), .int (fi s2 151 12)]) (st := []) (mc' := 0) (ms' := 0) lk_BM_250 rfl sx_151 rfl (by decide) (by decide) rfl (Nat.le_of_ble_eq_true rfl) (Nat.le_refl 0) (Nat.le_refl 0) d_BM_goesOn_37 h ?_
        rintro _ _ s4 ⟨rfl, rfl, h⟩ -
        show Ax g m_BM_goesOn 0 0 (ZI g Q) SH s4 0 0 40 [(0, .ref (gB g + 151))] []
        refine a_sub (pc := 40) [0] rfl ?_
        exact h
theorem sg_BM_goesOn_40 {g : Gx} {Q : Int32 → St → Prop} {σ : St}
    (h : (¬ (fi σ 151 13) = 0 → ∀ s1 : St, s1 = sfi σ 151 12 ((fi σ 151 12) + (1 : Int32)) → Q (0 : Int32) s1) ∧ ((fi σ 151 13) = 0 → ((fi σ 151 11) ≤ (fi σ 151 12) → ∀ s2 : St, s2 = sfi σ 151 12 ((fi σ 151 12) + (1 : Int32)) → Q (0 : Int32) s2) ∧ (¬ (fi σ 151 11) ≤ (fi σ 151 12) → ∀ s3 : St, s3 = sfi σ 151 12 ((fi σ 151 12) + (1 : Int32)) → Q (1 : Int32) s3))) : S_BM_goesOn_40 g Q σ := by
  show Ax g m_BM_goesOn 0 0 (ZI g Q) SH σ 0 0 40 [(0, .ref (gB g + 151))] []
  refine a_aload_n (pc := 40) 0 rfl rfl d_BM_goesOn_40 ?_
  refine a_getI (pc := 41) fg_BM_211 sx_151 rfl d_BM_goesOn_41 ?_
  refine a_if_ne (pc := 44) 62 (by decide) d_BM_goesOn_44 ⟨fun c0 => ?_, fun c0 => ?_⟩
  · replace h := h.1 c0
    refine a_iconst (pc := 62) (0 : Int32) (by decide) d_BM_goesOn_62 ?_
    refine a_istore_n (pc := 63) (lv' := [(1, .int (0 : Int32)), (0, .ref (gB g + 151))]) rfl (Nat.le_of_ble_eq_true rfl) rfl d_BM_goesOn_63 ?_
    refine a_aload_n (pc := 64) 1 rfl rfl d_BM_goesOn_64 ?_
    refine a_dup (pc := 65) rfl d_BM_goesOn_65 ?_
    refine a_getI (pc := 66) fg_BM_214 sx_151 rfl d_BM_goesOn_66 ?_
    refine a_iconst (pc := 69) (1 : Int32) (by decide) d_BM_goesOn_69 ?_
    refine a_iadd (pc := 70) d_BM_goesOn_70 ?_
    refine a_putI (pc := 71) fp_BM_214 sx_151 rfl d_BM_goesOn_71 ?_
    refine a_nms (fun s1 hs1 => ?_)
    replace h := h s1 hs1
    refine a_iload_n (pc := 74) 0 rfl rfl d_BM_goesOn_74 ?_
    exact b_zret (pc := 75) rfl (Or.inl rfl) d_BM_goesOn_75 h
  · replace h := h.2 c0
    refine a_aload_n (pc := 47) 0 rfl rfl d_BM_goesOn_47 ?_
    refine a_getI (pc := 48) fg_BM_214 sx_151 rfl d_BM_goesOn_48 ?_
    refine a_aload_n (pc := 51) 0 rfl rfl d_BM_goesOn_51 ?_
    refine a_getI (pc := 52) fg_BM_188 sx_151 rfl d_BM_goesOn_52 ?_
    refine a_icmp_ge (pc := 55) 62 (by decide) d_BM_goesOn_55 ⟨fun c0 => ?_, fun c0 => ?_⟩
    · replace h := h.1 c0
      refine a_iconst (pc := 62) (0 : Int32) (by decide) d_BM_goesOn_62 ?_
      refine a_istore_n (pc := 63) (lv' := [(1, .int (0 : Int32)), (0, .ref (gB g + 151))]) rfl (Nat.le_of_ble_eq_true rfl) rfl d_BM_goesOn_63 ?_
      refine a_aload_n (pc := 64) 1 rfl rfl d_BM_goesOn_64 ?_
      refine a_dup (pc := 65) rfl d_BM_goesOn_65 ?_
      refine a_getI (pc := 66) fg_BM_214 sx_151 rfl d_BM_goesOn_66 ?_
      refine a_iconst (pc := 69) (1 : Int32) (by decide) d_BM_goesOn_69 ?_
      refine a_iadd (pc := 70) d_BM_goesOn_70 ?_
      refine a_putI (pc := 71) fp_BM_214 sx_151 rfl d_BM_goesOn_71 ?_
      refine a_nms (fun s2 hs2 => ?_)
      replace h := h s2 hs2
      refine a_iload_n (pc := 74) 0 rfl rfl d_BM_goesOn_74 ?_
      exact b_zret (pc := 75) rfl (Or.inl rfl) d_BM_goesOn_75 h
    · replace h := h.2 c0
      refine a_iconst (pc := 58) (1 : Int32) (by decide) d_BM_goesOn_58 ?_
      refine a_goto (pc := 59) 63 (by decide) d_BM_goesOn_59 ?_
      refine a_istore_n (pc := 63) (lv' := [(1, .int (1 : Int32)), (0, .ref (gB g + 151))]) rfl (Nat.le_of_ble_eq_true rfl) rfl d_BM_goesOn_63 ?_
      refine a_aload_n (pc := 64) 1 rfl rfl d_BM_goesOn_64 ?_
      refine a_dup (pc := 65) rfl d_BM_goesOn_65 ?_
      refine a_getI (pc := 66) fg_BM_214 sx_151 rfl d_BM_goesOn_66 ?_
      refine a_iconst (pc := 69) (1 : Int32) (by decide) d_BM_goesOn_69 ?_
      refine a_iadd (pc := 70) d_BM_goesOn_70 ?_
      refine a_putI (pc := 71) fp_BM_214 sx_151 rfl d_BM_goesOn_71 ?_
      refine a_nms (fun s3 hs3 => ?_)
      replace h := h s3 hs3
      refine a_iload_n (pc := 74) 0 rfl rfl d_BM_goesOn_74 ?_
      exact b_zret (pc := 75) rfl (Or.inr rfl) d_BM_goesOn_75 h
theorem ko_BM_goesOn {g : Gx}  {σ : St} {Q : Int32 → St → Prop} (h : S_BM_goesOn_0 g Q σ) : K_BM_goesOn g  σ Q := KI.of (show plainName "BallBoxModel" = true by decide) (Nat.le_of_ble_eq_true rfl) h
theorem d_BM_starts_0 : decode c_BM_starts 0 = .ok (.aload_n 0, 1) := by decide +kernel
theorem d_BM_starts_1 : decode c_BM_starts 1 = .ok (.iconst 0, 1) := by decide +kernel
theorem d_BM_starts_2 : decode c_BM_starts 2 = .ok (.putfield 214, 3) := by decide +kernel
theorem d_BM_starts_5 : decode c_BM_starts 5 = .ok (.aload_n 0, 1) := by decide +kernel
theorem d_BM_starts_6 : decode c_BM_starts 6 = .ok (.iconst 0, 1) := by decide +kernel
theorem d_BM_starts_7 : decode c_BM_starts 7 = .ok (.putfield 211, 3) := by decide +kernel
theorem d_BM_starts_10 : decode c_BM_starts 10 = .ok (.aload_n 0, 1) := by decide +kernel
theorem d_BM_starts_11 : decode c_BM_starts 11 = .ok (.iconst 0, 1) := by decide +kernel
theorem d_BM_starts_12 : decode c_BM_starts 12 = .ok (.putfield 244, 3) := by decide +kernel
theorem d_BM_starts_15 : decode c_BM_starts 15 = .ok (.aload_n 0, 1) := by decide +kernel
theorem d_BM_starts_16 : decode c_BM_starts 16 = .ok (.iconst 0, 1) := by decide +kernel
theorem d_BM_starts_17 : decode c_BM_starts 17 = .ok (.putfield 284, 3) := by decide +kernel
theorem d_BM_starts_20 : decode c_BM_starts 20 = .ok (.aload_n 0, 1) := by decide +kernel
theorem d_BM_starts_21 : decode c_BM_starts 21 = .ok (.iconst 0, 1) := by decide +kernel
theorem d_BM_starts_22 : decode c_BM_starts 22 = .ok (.putfield 247, 3) := by decide +kernel
theorem d_BM_starts_25 : decode c_BM_starts 25 = .ok (.return_, 1) := by decide +kernel
def S_BM_starts_0 (g : Gx) (Q : St → Prop) (σ : St) : Prop := Ax g m_BM_starts 0 0 (ZV g Q) SH σ 0 0 0 [(0, .ref (gB g + 151))] []
theorem sg_BM_starts_0 {g : Gx} {Q : St → Prop} {σ : St}
    (h : ∀ s1 : St, s1 = sfi σ 151 12 (0 : Int32) → ∀ s2 : St, s2 = sfi s1 151 13 (0 : Int32) → ∀ s3 : St, s3 = sfi s2 151 16 (0 : Int32) → ∀ s4 : St, s4 = sfi s3 151 17 (0 : Int32) → ∀ s5 : St, s5 = sfi s4 151 18 (0 : Int32) → Q s5) : S_BM_starts_0 g Q σ := by
  show Ax g m_BM_starts 0 0 (ZV g Q) SH σ 0 0 0 [(0, .ref (gB g + 151))] []
  refine a_aload_n (pc := 0) 0 rfl rfl d_BM_starts_0 ?_
  refine a_iconst (pc := 1) (0 : Int32) (by decide) d_BM_starts_1 ?_
  refine a_putI (pc := 2) fp_BM_214 sx_151 rfl d_BM_starts_2 ?_
  refine a_nms (fun s1 hs1 => ?_)
  replace h := h s1 hs1
  refine a_aload_n (pc := 5) 0 rfl rfl d_BM_starts_5 ?_
  refine a_iconst (pc := 6) (0 : Int32) (by decide) d_BM_starts_6 ?_
  refine a_putI (pc := 7) fp_BM_211 sx_151 rfl d_BM_starts_7 ?_
  refine a_nms (fun s2 hs2 => ?_)
  replace h := h s2 hs2
  refine a_aload_n (pc := 10) 0 rfl rfl d_BM_starts_10 ?_
  refine a_iconst (pc := 11) (0 : Int32) (by decide) d_BM_starts_11 ?_
  refine a_putI (pc := 12) fp_BM_244 sx_151 rfl d_BM_starts_12 ?_
  refine a_nms (fun s3 hs3 => ?_)
  replace h := h s3 hs3
  refine a_aload_n (pc := 15) 0 rfl rfl d_BM_starts_15 ?_
  refine a_iconst (pc := 16) (0 : Int32) (by decide) d_BM_starts_16 ?_
  refine a_putI (pc := 17) fp_BM_284 sx_151 rfl d_BM_starts_17 ?_
  refine a_nms (fun s4 hs4 => ?_)
  replace h := h s4 hs4
  refine a_aload_n (pc := 20) 0 rfl rfl d_BM_starts_20 ?_
  refine a_iconst (pc := 21) (0 : Int32) (by decide) d_BM_starts_21 ?_
  refine a_putI (pc := 22) fp_BM_247 sx_151 rfl d_BM_starts_22 ?_
  refine a_nms (fun s5 hs5 => ?_)
  replace h := h s5 hs5
  exact b_vret (pc := 25) rfl d_BM_starts_25 h
theorem ko_BM_starts {g : Gx}  {σ : St} {Q : St → Prop} (h : S_BM_starts_0 g Q σ) : K_BM_starts g  σ Q := KV.of (show plainName "BallBoxModel" = true by decide) (Nat.le_of_ble_eq_true rfl) h
theorem d_BM_box_0 : decode c_BM_box 0 = .ok (.aload_n 0, 1) := by decide +kernel
theorem d_BM_box_1 : decode c_BM_box 1 = .ok (.invokevirtual 324, 3) := by decide +kernel
theorem d_BM_box_4 : decode c_BM_box 4 = .ok (.aload_n 0, 1) := by decide +kernel
theorem d_BM_box_5 : decode c_BM_box 5 = .ok (.iconst 0, 1) := by decide +kernel
theorem d_BM_box_6 : decode c_BM_box 6 = .ok (.putfield 311, 3) := by decide +kernel
theorem d_BM_box_9 : decode c_BM_box 9 = .ok (.iconst 0, 1) := by decide +kernel
theorem d_BM_box_10 : decode c_BM_box 10 = .ok (.istore_n 1, 1) := by decide +kernel
theorem d_BM_box_11 : decode c_BM_box 11 = .ok (.iload_n 1, 1) := by decide +kernel
theorem d_BM_box_12 : decode c_BM_box 12 = .ok (.iconst 3, 1) := by decide +kernel
theorem d_BM_box_13 : decode c_BM_box 13 = .ok (.if_icmp .ge 16, 3) := by decide +kernel
theorem d_BM_box_16 : decode c_BM_box 16 = .ok (.aload_n 0, 1) := by decide +kernel
theorem d_BM_box_17 : decode c_BM_box 17 = .ok (.getfield 31, 3) := by decide +kernel
theorem d_BM_box_20 : decode c_BM_box 20 = .ok (.iload_n 1, 1) := by decide +kernel
theorem d_BM_box_21 : decode c_BM_box 21 = .ok (.iconst 0, 1) := by decide +kernel
theorem d_BM_box_22 : decode c_BM_box 22 = .ok (.iastore, 1) := by decide +kernel
theorem d_BM_box_23 : decode c_BM_box 23 = .ok (.iinc 1 1, 3) := by decide +kernel
theorem d_BM_box_26 : decode c_BM_box 26 = .ok (.goto (-15), 3) := by decide +kernel
theorem d_BM_box_29 : decode c_BM_box 29 = .ok (.iconst 0, 1) := by decide +kernel
theorem d_BM_box_30 : decode c_BM_box 30 = .ok (.istore_n 1, 1) := by decide +kernel
theorem d_BM_box_31 : decode c_BM_box 31 = .ok (.iload_n 1, 1) := by decide +kernel
theorem d_BM_box_32 : decode c_BM_box 32 = .ok (.bipush 36, 2) := by decide +kernel
theorem d_BM_box_34 : decode c_BM_box 34 = .ok (.if_icmp .ge 16, 3) := by decide +kernel
theorem d_BM_box_37 : decode c_BM_box 37 = .ok (.aload_n 0, 1) := by decide +kernel
theorem d_BM_box_38 : decode c_BM_box 38 = .ok (.getfield 34, 3) := by decide +kernel
theorem d_BM_box_41 : decode c_BM_box 41 = .ok (.iload_n 1, 1) := by decide +kernel
theorem d_BM_box_42 : decode c_BM_box 42 = .ok (.iconst 1, 1) := by decide +kernel
theorem d_BM_box_43 : decode c_BM_box 43 = .ok (.iastore, 1) := by decide +kernel
theorem d_BM_box_44 : decode c_BM_box 44 = .ok (.iinc 1 1, 3) := by decide +kernel
theorem d_BM_box_47 : decode c_BM_box 47 = .ok (.goto (-16), 3) := by decide +kernel
theorem d_BM_box_50 : decode c_BM_box 50 = .ok (.iconst 0, 1) := by decide +kernel
theorem d_BM_box_51 : decode c_BM_box 51 = .ok (.istore_n 1, 1) := by decide +kernel
theorem d_BM_box_52 : decode c_BM_box 52 = .ok (.iconst 1, 1) := by decide +kernel
theorem d_BM_box_53 : decode c_BM_box 53 = .ok (.istore_n 2, 1) := by decide +kernel
theorem d_BM_box_54 : decode c_BM_box 54 = .ok (.iload_n 2, 1) := by decide +kernel
theorem d_BM_box_55 : decode c_BM_box 55 = .ok (.ifCond .eq 19, 3) := by decide +kernel
theorem d_BM_box_58 : decode c_BM_box 58 = .ok (.aload_n 0, 1) := by decide +kernel
theorem d_BM_box_59 : decode c_BM_box 59 = .ok (.iload_n 1, 1) := by decide +kernel
theorem d_BM_box_60 : decode c_BM_box 60 = .ok (.invokevirtual 327, 3) := by decide +kernel
theorem d_BM_box_63 : decode c_BM_box 63 = .ok (.iinc 1 1, 3) := by decide +kernel
theorem d_BM_box_66 : decode c_BM_box 66 = .ok (.aload_n 0, 1) := by decide +kernel
theorem d_BM_box_67 : decode c_BM_box 67 = .ok (.invokevirtual 330, 3) := by decide +kernel
theorem d_BM_box_70 : decode c_BM_box 70 = .ok (.istore_n 2, 1) := by decide +kernel
theorem d_BM_box_71 : decode c_BM_box 71 = .ok (.goto (-17), 3) := by decide +kernel
theorem d_BM_box_74 : decode c_BM_box 74 = .ok (.aload_n 0, 1) := by decide +kernel
theorem d_BM_box_75 : decode c_BM_box 75 = .ok (.iconst 0, 1) := by decide +kernel
theorem d_BM_box_76 : decode c_BM_box 76 = .ok (.putfield 188, 3) := by decide +kernel
theorem d_BM_box_79 : decode c_BM_box 79 = .ok (.aload_n 0, 1) := by decide +kernel
theorem d_BM_box_80 : decode c_BM_box 80 = .ok (.getfield 211, 3) := by decide +kernel
theorem d_BM_box_83 : decode c_BM_box 83 = .ok (.ifCond .le 11, 3) := by decide +kernel
theorem d_BM_box_86 : decode c_BM_box 86 = .ok (.bipush (-2), 2) := by decide +kernel
theorem d_BM_box_88 : decode c_BM_box 88 = .ok (.aload_n 0, 1) := by decide +kernel
theorem d_BM_box_89 : decode c_BM_box 89 = .ok (.getfield 211, 3) := by decide +kernel
theorem d_BM_box_92 : decode c_BM_box 92 = .ok (.isub, 1) := by decide +kernel
theorem d_BM_box_93 : decode c_BM_box 93 = .ok (.ireturn, 1) := by decide +kernel
theorem d_BM_box_94 : decode c_BM_box 94 = .ok (.iconst 0, 1) := by decide +kernel
theorem d_BM_box_95 : decode c_BM_box 95 = .ok (.istore_n 3, 1) := by decide +kernel
theorem d_BM_box_96 : decode c_BM_box 96 = .ok (.iload_n 3, 1) := by decide +kernel
theorem d_BM_box_97 : decode c_BM_box 97 = .ok (.bipush 6, 2) := by decide +kernel
theorem d_BM_box_99 : decode c_BM_box 99 = .ok (.if_icmp .ge 30, 3) := by decide +kernel
theorem d_BM_box_102 : decode c_BM_box 102 = .ok (.aload_n 0, 1) := by decide +kernel
theorem d_BM_box_103 : decode c_BM_box 103 = .ok (.getfield 9, 3) := by decide +kernel
theorem d_BM_box_106 : decode c_BM_box 106 = .ok (.iload_n 3, 1) := by decide +kernel
theorem d_BM_box_107 : decode c_BM_box 107 = .ok (.iload_n 3, 1) := by decide +kernel
theorem d_BM_box_108 : decode c_BM_box 108 = .ok (.iconst 3, 1) := by decide +kernel
theorem d_BM_box_109 : decode c_BM_box 109 = .ok (.if_icmp .ge 12, 3) := by decide +kernel
theorem d_BM_box_112 : decode c_BM_box 112 = .ok (.aload_n 0, 1) := by decide +kernel
theorem d_BM_box_113 : decode c_BM_box 113 = .ok (.getfield 31, 3) := by decide +kernel
theorem d_BM_box_116 : decode c_BM_box 116 = .ok (.iload_n 3, 1) := by decide +kernel
theorem d_BM_box_117 : decode c_BM_box 117 = .ok (.iaload, 1) := by decide +kernel
theorem d_BM_box_118 : decode c_BM_box 118 = .ok (.goto 4, 3) := by decide +kernel
theorem d_BM_box_121 : decode c_BM_box 121 = .ok (.iconst 0, 1) := by decide +kernel
theorem d_BM_box_122 : decode c_BM_box 122 = .ok (.iastore, 1) := by decide +kernel
theorem d_BM_box_123 : decode c_BM_box 123 = .ok (.iinc 3 1, 3) := by decide +kernel
theorem d_BM_box_126 : decode c_BM_box 126 = .ok (.goto (-30), 3) := by decide +kernel
theorem d_BM_box_129 : decode c_BM_box 129 = .ok (.aload_n 0, 1) := by decide +kernel
theorem d_BM_box_130 : decode c_BM_box 130 = .ok (.getfield 34, 3) := by decide +kernel
theorem d_BM_box_133 : decode c_BM_box 133 = .ok (.aload_n 0, 1) := by decide +kernel
theorem d_BM_box_134 : decode c_BM_box 134 = .ok (.getfield 13, 3) := by decide +kernel
theorem d_BM_box_137 : decode c_BM_box 137 = .ok (.invokestatic 333, 3) := by decide +kernel
theorem d_BM_box_140 : decode c_BM_box 140 = .ok (.aload_n 0, 1) := by decide +kernel
theorem d_BM_box_141 : decode c_BM_box 141 = .ok (.getfield 37, 3) := by decide +kernel
theorem d_BM_box_144 : decode c_BM_box 144 = .ok (.aload_n 0, 1) := by decide +kernel
theorem d_BM_box_145 : decode c_BM_box 145 = .ok (.getfield 16, 3) := by decide +kernel
theorem d_BM_box_148 : decode c_BM_box 148 = .ok (.invokestatic 333, 3) := by decide +kernel
theorem d_BM_box_151 : decode c_BM_box 151 = .ok (.aload_n 0, 1) := by decide +kernel
theorem d_BM_box_152 : decode c_BM_box 152 = .ok (.getfield 9, 3) := by decide +kernel
theorem d_BM_box_155 : decode c_BM_box 155 = .ok (.iconst 2, 1) := by decide +kernel
theorem d_BM_box_156 : decode c_BM_box 156 = .ok (.iaload, 1) := by decide +kernel
theorem d_BM_box_157 : decode c_BM_box 157 = .ok (.ireturn, 1) := by decide +kernel
def S_BM_box_0 (g : Gx) (Q : Int32 → St → Prop) (σ : St) : Prop := Ax g m_BM_box 0 0 (ZI g Q) SH σ 0 0 0 [(0, .ref (gB g + 151))] []
def S_BM_box_11 (g : Gx) (Q : Int32 → St → Prop) (σ : St) (x1 : Int32) : Prop := Ax g m_BM_box 0 0 (ZI g Q) SH σ 0 0 11 [(0, .ref (gB g + 151)), (1, .int x1)] []
def S_BM_box_31 (g : Gx) (Q : Int32 → St → Prop) (σ : St) (x1 : Int32) : Prop := Ax g m_BM_box 0 0 (ZI g Q) SH σ 0 0 31 [(0, .ref (gB g + 151)), (1, .int x1)] []
def S_BM_box_54 (g : Gx) (Q : Int32 → St → Prop) (σ : St) (x1 : Int32) (x2 : Int32) : Prop := Ax g m_BM_box 0 0 (ZI g Q) SH σ 0 0 54 [(0, .ref (gB g + 151)), (1, .int x1), (2, .int x2)] []
def S_BM_box_96 (g : Gx) (Q : Int32 → St → Prop) (σ : St) (x3 : Int32) : Prop := Ax g m_BM_box 0 0 (ZI g Q) SH σ 0 0 96 [(0, .ref (gB g + 151)), (3, .int x3)] []
theorem sg_BM_box_0 {g : Gx} {Q : Int32 → St → Prop} {σ : St}
    (h : K_BM_starts g σ (fun s1 : St => ∀ s2 : St, s2 = sfi s1 151 21 (0 : Int32) → S_BM_box_11 g Q s2 (0 : Int32))) : S_BM_box_0 g Q σ := by
  show Ax g m_BM_box 0 0 (ZI g Q) SH σ 0 0 0 [(0, .ref (gB g + 151))] []
  refine a_aload_n (pc := 0) 0 rfl rfl d_BM_box_0 ?_
  refine a_callV (pc := 1) (M' := m_BM_starts) (As := []) (st := []) (mc' := 0) (ms' := 0) lk_BM_324 rfl sx_151 rfl (by decide) (by decide) rfl (Nat.le_of_ble_eq_true rfl) (Nat.le_refl 0) (Nat.le_refl 0) d_BM_box_1 h ?_
  rintro _ _ s1 ⟨rfl, rfl, h⟩ -
  show Ax g m_BM_box 0 0 (ZI g Q) SH s1 0 0 4 [(0, .ref (gB g + 151))] []
  refine a_aload_n (pc := 4) 0 rfl rfl d_BM_box_4 ?_
  refine a_iconst (pc := 5) (0 : Int32) (by decide) d_BM_box_5 ?_
  refine a_putI (pc := 6) fp_BM_311 sx_151 rfl d_BM_box_6 ?_
  refine a_nms (fun s2 hs2 => ?_)
  replace h := h s2 hs2
  refine a_iconst (pc := 9) (0 : Int32) (by decide) d_BM_box_9 ?_
  refine a_istore_n (pc := 10) (lv' := [(1, .int (0 : Int32)), (0, .ref (gB g + 151))]) rfl (Nat.le_of_ble_eq_true rfl) rfl d_BM_box_10 ?_
  refine a_sub (pc := 11) [1, 0] rfl ?_
  exact h
theorem sg_BM_box_11 {g : Gx} {Q : Int32 → St → Prop} {σ : St} {x1 : Int32}
    (h : ((3 : Int32) ≤ x1 → S_BM_box_31 g Q σ (0 : Int32)) ∧ (¬ (3 : Int32) ≤ x1 → vp_in x1 3 ∧ (∀ s1 : St, s1 = sai σ 159 (x1).toNatClampNeg (0 : Int32) → ∀ u2 : Int32, u2 = x1 + (1 : Int32) → S_BM_box_11 g Q s1 u2))) : S_BM_box_11 g Q σ x1 := by
  show Ax g m_BM_box 0 0 (ZI g Q) SH σ 0 0 11 [(0, .ref (gB g + 151)), (1, .int x1)] []
  refine a_iload_n (pc := 11) 1 rfl rfl d_BM_box_11 ?_
  refine a_iconst (pc := 12) (3 : Int32) (by decide) d_BM_box_12 ?_
  refine a_icmp_ge (pc := 13) 29 (by decide) d_BM_box_13 ⟨fun c0 => ?_, fun c0 => ?_⟩
  · replace h := h.1 c0
    refine a_iconst (pc := 29) (0 : Int32) (by decide) d_BM_box_29 ?_
    refine a_istore_n (pc := 30) (lv' := [(1, .int (0 : Int32)), (0, .ref (gB g + 151))]) rfl (Nat.le_of_ble_eq_true rfl) rfl d_BM_box_30 ?_
    refine a_sub (pc := 31) [1, 0] rfl ?_
    exact h
  · replace h := h.2 c0
    refine a_aload_n (pc := 16) 0 rfl rfl d_BM_box_16 ?_
    refine a_getR (pc := 17) fg_BM_31 sx_151 rfl d_BM_box_17 ?_
    refine a_iload_n (pc := 20) 1 rfl rfl d_BM_box_20 ?_
    refine a_iconst (pc := 21) (0 : Int32) (by decide) d_BM_box_21 ?_
    obtain ⟨hx, h⟩ := h
    refine a_iast (pc := 22) sx_159 hx d_BM_box_22 ?_
    refine a_nms (fun s1 hs1 => ?_)
    replace h := h s1 hs1
    obtain ⟨u2, hu2⟩ : ∃ y : Int32, y = x1 + (1 : Int32) := ⟨_, rfl⟩
    replace h := h u2 hu2
    refine a_iinc (pc := 23) (v := u2) (lv' := [(1, .int u2), (0, .ref (gB g + 151))]) 1 rfl (by rw [hu2]; rfl) (Nat.le_of_ble_eq_true rfl) rfl d_BM_box_23 ?_
    refine a_goto (pc := 26) 11 (by decide) d_BM_box_26 ?_
    refine a_sub (pc := 11) [1, 0] rfl ?_
    exact h
theorem sg_BM_box_31 {g : Gx} {Q : Int32 → St → Prop} {σ : St} {x1 : Int32}
    (h : ((36 : Int32) ≤ x1 → S_BM_box_54 g Q σ (0 : Int32) (1 : Int32)) ∧ (¬ (36 : Int32) ≤ x1 → vp_in x1 36 ∧ (∀ s1 : St, s1 = sai σ 160 (x1).toNatClampNeg (1 : Int32) → ∀ u2 : Int32, u2 = x1 + (1 : Int32) → S_BM_box_31 g Q s1 u2))) : S_BM_box_31 g Q σ x1 := by
  show Ax g m_BM_box 0 0 (ZI g Q) SH σ 0 0 31 [(0, .ref (gB g + 151)), (1, .int x1)] []
  refine a_iload_n (pc := 31) 1 rfl rfl d_BM_box_31 ?_
  refine a_bipush (pc := 32) (36 : Int32) (by decide) d_BM_box_32 ?_
  refine a_icmp_ge (pc := 34) 50 (by decide) d_BM_box_34 ⟨fun c0 => ?_, fun c0 => ?_⟩
  · replace h := h.1 c0
    refine a_iconst (pc := 50) (0 : Int32) (by decide) d_BM_box_50 ?_
    refine a_istore_n (pc := 51) (lv' := [(1, .int (0 : Int32)), (0, .ref (gB g + 151))]) rfl (Nat.le_of_ble_eq_true rfl) rfl d_BM_box_51 ?_
    refine a_iconst (pc := 52) (1 : Int32) (by decide) d_BM_box_52 ?_
    refine a_istore_n (pc := 53) (lv' := [(2, .int (1 : Int32)), (1, .int (0 : Int32)), (0, .ref (gB g + 151))]) rfl (Nat.le_of_ble_eq_true rfl) rfl d_BM_box_53 ?_
    refine a_sub (pc := 54) [2, 1, 0] rfl ?_
    exact h
  · replace h := h.2 c0
    refine a_aload_n (pc := 37) 0 rfl rfl d_BM_box_37 ?_
    refine a_getR (pc := 38) fg_BM_34 sx_151 rfl d_BM_box_38 ?_
    refine a_iload_n (pc := 41) 1 rfl rfl d_BM_box_41 ?_
    refine a_iconst (pc := 42) (1 : Int32) (by decide) d_BM_box_42 ?_
    obtain ⟨hx, h⟩ := h
    refine a_iast (pc := 43) sx_160 hx d_BM_box_43 ?_
    refine a_nms (fun s1 hs1 => ?_)
    replace h := h s1 hs1
    obtain ⟨u2, hu2⟩ : ∃ y : Int32, y = x1 + (1 : Int32) := ⟨_, rfl⟩
    replace h := h u2 hu2
    refine a_iinc (pc := 44) (v := u2) (lv' := [(1, .int u2), (0, .ref (gB g + 151))]) 1 rfl (by rw [hu2]; rfl) (Nat.le_of_ble_eq_true rfl) rfl d_BM_box_44 ?_
    refine a_goto (pc := 47) 31 (by decide) d_BM_box_47 ?_
    refine a_sub (pc := 31) [1, 0] rfl ?_
    exact h
theorem sg_BM_box_54 {g : Gx} {Q : Int32 → St → Prop} {σ : St} {x1 : Int32} {x2 : Int32}
    (h : (x2 = 0 → ∀ s1 : St, s1 = sfi σ 151 11 (0 : Int32) → ((fi s1 151 13) ≤ 0 → S_BM_box_96 g Q s1 (0 : Int32)) ∧ (¬ (fi s1 151 13) ≤ 0 → Q ((-2 : Int32) - (fi s1 151 13)) s1)) ∧ (¬ x2 = 0 → K_BM_boxClause g x1 σ (fun s2 : St => ∀ u3 : Int32, u3 = x1 + (1 : Int32) → K_BM_goesOn g s2 (fun (r5 : Int32) (s4 : St) => S_BM_box_54 g Q s4 u3 r5)))) : S_BM_box_54 g Q σ x1 x2 := by
  show Ax g m_BM_box 0 0 (ZI g Q) SH σ 0 0 54 [(0, .ref (gB g + 151)), (1, .int x1), (2, .int x2)] []
  refine a_iload_n (pc := 54) 2 rfl rfl d_BM_box_54 ?_
  refine a_if_eq (pc := 55) 74 (by decide) d_BM_box_55 ⟨fun c0 => ?_, fun c0 => ?_⟩
  · replace h := h.1 c0
    refine a_aload_n (pc := 74) 0 rfl rfl d_BM_box_74 ?_
    refine a_iconst (pc := 75) (0 : Int32) (by decide) d_BM_box_75 ?_
    refine a_putI (pc := 76) fp_BM_188 sx_151 rfl d_BM_box_76 ?_
    refine a_nms (fun s1 hs1 => ?_)
    replace h := h s1 hs1
    refine a_aload_n (pc := 79) 0 rfl rfl d_BM_box_79 ?_
    refine a_getI (pc := 80) fg_BM_211 sx_151 rfl d_BM_box_80 ?_
    refine a_if_le (pc := 83) 94 (by decide) d_BM_box_83 ⟨fun c0 => ?_, fun c0 => ?_⟩
    · replace h := h.1 c0
      refine a_iconst (pc := 94) (0 : Int32) (by decide) d_BM_box_94 ?_
      refine a_istore_n (pc := 95) (lv' := [(3, .int (0 : Int32)), (0, .ref (gB g + 151)), (1, .int x1), (2, .int x2)]) rfl (Nat.le_of_ble_eq_true rfl) rfl d_BM_box_95 ?_
      refine a_sub (pc := 96) [1, 0] rfl ?_
      exact h
    · replace h := h.2 c0
      refine a_bipush (pc := 86) (-2 : Int32) (by decide) d_BM_box_86 ?_
      refine a_aload_n (pc := 88) 0 rfl rfl d_BM_box_88 ?_
      refine a_getI (pc := 89) fg_BM_211 sx_151 rfl d_BM_box_89 ?_
      refine a_isub (pc := 92) d_BM_box_92 ?_
      exact b_iret (pc := 93) rfl d_BM_box_93 h
  · replace h := h.2 c0
    refine a_aload_n (pc := 58) 0 rfl rfl d_BM_box_58 ?_
    refine a_iload_n (pc := 59) 1 rfl rfl d_BM_box_59 ?_
    refine a_callV (pc := 60) (M' := m_BM_boxClause) (As := [.int x1]) (st := []) (mc' := 0) (ms' := 0) lk_BM_327 rfl sx_151 rfl (by decide) (by decide) rfl (Nat.le_of_ble_eq_true rfl) (Nat.le_refl 0) (Nat.le_refl 0) d_BM_box_60 h ?_
    rintro _ _ s2 ⟨rfl, rfl, h⟩ -
    show Ax g m_BM_box 0 0 (ZI g Q) SH s2 0 0 63 [(0, .ref (gB g + 151)), (1, .int x1), (2, .int x2)] []
    obtain ⟨u3, hu3⟩ : ∃ y : Int32, y = x1 + (1 : Int32) := ⟨_, rfl⟩
    replace h := h u3 hu3
    refine a_iinc (pc := 63) (v := u3) (lv' := [(1, .int u3), (0, .ref (gB g + 151)), (2, .int x2)]) 1 rfl (by rw [hu3]; rfl) (Nat.le_of_ble_eq_true rfl) rfl d_BM_box_63 ?_
    refine a_aload_n (pc := 66) 1 rfl rfl d_BM_box_66 ?_
    refine a_callV (pc := 67) (M' := m_BM_goesOn) (As := []) (st := []) (mc' := 0) (ms' := 0) lk_BM_330 rfl sx_151 rfl (by decide) (by decide) rfl (Nat.le_of_ble_eq_true rfl) (Nat.le_refl 0) (Nat.le_refl 0) d_BM_box_67 h ?_
    rintro _ _ s4 ⟨r5, rfl, rfl, h⟩ -
    show Ax g m_BM_box 0 0 (ZI g Q) SH s4 0 0 70 [(1, .int u3), (0, .ref (gB g + 151)), (2, .int x2)] [.int r5]
    refine a_istore_n (pc := 70) (lv' := [(2, .int r5), (1, .int u3), (0, .ref (gB g + 151))]) rfl (Nat.le_of_ble_eq_true rfl) rfl d_BM_box_70 ?_
    refine a_goto (pc := 71) 54 (by decide) d_BM_box_71 ?_
    refine a_sub (pc := 54) [2, 1, 0] rfl ?_
    exact h
theorem sg_BM_box_96 {g : Gx} {Q : Int32 → St → Prop} {σ : St} {x3 : Int32}
    (h : ((6 : Int32) ≤ x3 → K_BM_lay g 160 153 σ (fun s1 : St => K_BM_lay g 161 154 s1 (fun s2 : St => vp_in (2 : Int32) 8 ∧ (Q (ai s2 152 ((2 : Int32)).toNatClampNeg) s2)))) ∧ (¬ (6 : Int32) ≤ x3 → ((3 : Int32) ≤ x3 → vp_in x3 8 ∧ (∀ s3 : St, s3 = sai σ 152 (x3).toNatClampNeg (0 : Int32) → ∀ u4 : Int32, u4 = x3 + (1 : Int32) → S_BM_box_96 g Q s3 u4)) ∧ (¬ (3 : Int32) ≤ x3 → vp_in x3 3 ∧ (vp_in x3 8 ∧ (∀ s5 : St, s5 = sai σ 152 (x3).toNatClampNeg (ai σ 159 (x3).toNatClampNeg) → ∀ u6 : Int32, u6 = x3 + (1 : Int32) → S_BM_box_96 g Q s5 u6))))) : S_BM_box_96 g Q σ x3 := by
  show Ax g m_BM_box 0 0 (ZI g Q) SH σ 0 0 96 [(0, .ref (gB g + 151)), (3, .int x3)] []
  refine a_iload_n (pc := 96) 1 rfl rfl d_BM_box_96 ?_
  refine a_bipush (pc := 97) (6 : Int32) (by decide) d_BM_box_97 ?_
  refine a_icmp_ge (pc := 99) 129 (by decide) d_BM_box_99 ⟨fun c0 => ?_, fun c0 => ?_⟩
  · replace h := h.1 c0
    refine a_aload_n (pc := 129) 0 rfl rfl d_BM_box_129 ?_
    refine a_getR (pc := 130) fg_BM_34 sx_151 rfl d_BM_box_130 ?_
    refine a_aload_n (pc := 133) 0 rfl rfl d_BM_box_133 ?_
    refine a_getR (pc := 134) fg_BM_13 sx_151 rfl d_BM_box_134 ?_
    refine a_callS (pc := 137) (M' := m_BM_lay) (As := [.ref (gB g + 160), .ref (gB g + 153)]) (st := []) (mc' := 0) (ms' := 0) lk_BM_333 rfl (by decide) (by decide) rfl (Nat.le_of_ble_eq_true rfl) (Nat.le_refl 0) (Nat.le_refl 0) d_BM_box_137 h ?_
    rintro _ _ s1 ⟨rfl, rfl, h⟩ -
    show Ax g m_BM_box 0 0 (ZI g Q) SH s1 0 0 140 [(0, .ref (gB g + 151)), (3, .int x3)] []
    refine a_aload_n (pc := 140) 0 rfl rfl d_BM_box_140 ?_
    refine a_getR (pc := 141) fg_BM_37 sx_151 rfl d_BM_box_141 ?_
    refine a_aload_n (pc := 144) 0 rfl rfl d_BM_box_144 ?_
    refine a_getR (pc := 145) fg_BM_16 sx_151 rfl d_BM_box_145 ?_
    refine a_callS (pc := 148) (M' := m_BM_lay) (As := [.ref (gB g + 161), .ref (gB g + 154)]) (st := []) (mc' := 0) (ms' := 0) lk_BM_333 rfl (by decide) (by decide) rfl (Nat.le_of_ble_eq_true rfl) (Nat.le_refl 0) (Nat.le_refl 0) d_BM_box_148 h ?_
    rintro _ _ s2 ⟨rfl, rfl, h⟩ -
    show Ax g m_BM_box 0 0 (ZI g Q) SH s2 0 0 151 [(0, .ref (gB g + 151)), (3, .int x3)] []
    refine a_aload_n (pc := 151) 0 rfl rfl d_BM_box_151 ?_
    refine a_getR (pc := 152) fg_BM_9 sx_151 rfl d_BM_box_152 ?_
    refine a_iconst (pc := 155) (2 : Int32) (by decide) d_BM_box_155 ?_
    obtain ⟨hx, h⟩ := h
    refine a_iald (pc := 156) sx_152 hx d_BM_box_156 ?_
    exact b_iret (pc := 157) rfl d_BM_box_157 h
  · replace h := h.2 c0
    refine a_aload_n (pc := 102) 0 rfl rfl d_BM_box_102 ?_
    refine a_getR (pc := 103) fg_BM_9 sx_151 rfl d_BM_box_103 ?_
    refine a_iload_n (pc := 106) 1 rfl rfl d_BM_box_106 ?_
    refine a_iload_n (pc := 107) 1 rfl rfl d_BM_box_107 ?_
    refine a_iconst (pc := 108) (3 : Int32) (by decide) d_BM_box_108 ?_
    refine a_icmp_ge (pc := 109) 121 (by decide) d_BM_box_109 ⟨fun c0 => ?_, fun c0 => ?_⟩
    · replace h := h.1 c0
      refine a_iconst (pc := 121) (0 : Int32) (by decide) d_BM_box_121 ?_
      obtain ⟨hx, h⟩ := h
      refine a_iast (pc := 122) sx_152 hx d_BM_box_122 ?_
      refine a_nms (fun s3 hs3 => ?_)
      replace h := h s3 hs3
      obtain ⟨u4, hu4⟩ : ∃ y : Int32, y = x3 + (1 : Int32) := ⟨_, rfl⟩
      replace h := h u4 hu4
      refine a_iinc (pc := 123) (v := u4) (lv' := [(3, .int u4), (0, .ref (gB g + 151))]) 1 rfl (by rw [hu4]; rfl) (Nat.le_of_ble_eq_true rfl) rfl d_BM_box_123 ?_
      refine a_goto (pc := 126) 96 (by decide) d_BM_box_126 ?_
      refine a_sub (pc := 96) [1, 0] rfl ?_
      exact h
    · replace h := h.2 c0
      refine a_aload_n (pc := 112) 0 rfl rfl d_BM_box_112 ?_
      refine a_getR (pc := 113) fg_BM_31 sx_151 rfl d_BM_box_113 ?_
      refine a_iload_n (pc := 116) 1 rfl rfl d_BM_box_116 ?_
      obtain ⟨hx, h⟩ := h
      refine a_iald (pc := 117) sx_159 hx d_BM_box_117 ?_
      refine a_goto (pc := 118) 122 (by decide) d_BM_box_118 ?_
      obtain ⟨hx, h⟩ := h
      refine a_iast (pc := 122) sx_152 hx d_BM_box_122 ?_
      refine a_nms (fun s5 hs5 => ?_)
      replace h := h s5 hs5
      obtain ⟨u6, hu6⟩ : ∃ y : Int32, y = x3 + (1 : Int32) := ⟨_, rfl⟩
      replace h := h u6 hu6
      refine a_iinc (pc := 123) (v := u6) (lv' := [(3, .int u6), (0, .ref (gB g + 151))]) 1 rfl (by rw [hu6]; rfl) (Nat.le_of_ble_eq_true rfl) rfl d_BM_box_123 ?_
      refine a_goto (pc := 126) 96 (by decide) d_BM_box_126 ?_
      refine a_sub (pc := 96) [1, 0] rfl ?_
      exact h
theorem ko_BM_box {g : Gx}  {σ : St} {Q : Int32 → St → Prop} (h : S_BM_box_0 g Q σ) : K_BM_box g  σ Q := KI.of (show plainName "BallBoxModel" = true by decide) (Nat.le_of_ble_eq_true rfl) h
theorem d_BM_ruleClause_0 : decode c_BM_ruleClause 0 = .ok (.aload_n 0, 1) := by decide +kernel
theorem d_BM_ruleClause_1 : decode c_BM_ruleClause 1 = .ok (.invokevirtual 234, 3) := by decide +kernel
theorem d_BM_ruleClause_4 : decode c_BM_ruleClause 4 = .ok (.aload_n 0, 1) := by decide +kernel
theorem d_BM_ruleClause_5 : decode c_BM_ruleClause 5 = .ok (.getfield 214, 3) := by decide +kernel
theorem d_BM_ruleClause_8 : decode c_BM_ruleClause 8 = .ok (.istore_n 2, 1) := by decide +kernel
theorem d_BM_ruleClause_9 : decode c_BM_ruleClause 9 = .ok (.aload_n 0, 1) := by decide +kernel
theorem d_BM_ruleClause_10 : decode c_BM_ruleClause 10 = .ok (.ldc_w 337, 3) := by decide +kernel
theorem d_BM_ruleClause_13 : decode c_BM_ruleClause 13 = .ok (.invokevirtual 237, 3) := by decide +kernel
theorem d_BM_ruleClause_16 : decode c_BM_ruleClause 16 = .ok (.ifCond .ne 10, 3) := by decide +kernel
theorem d_BM_ruleClause_19 : decode c_BM_ruleClause 19 = .ok (.aload_n 0, 1) := by decide +kernel
theorem d_BM_ruleClause_20 : decode c_BM_ruleClause 20 = .ok (.iconst 0, 1) := by decide +kernel
theorem d_BM_ruleClause_21 : decode c_BM_ruleClause 21 = .ok (.iload_n 2, 1) := by decide +kernel
theorem d_BM_ruleClause_22 : decode c_BM_ruleClause 22 = .ok (.invokevirtual 250, 3) := by decide +kernel
theorem d_BM_ruleClause_25 : decode c_BM_ruleClause 25 = .ok (.return_, 1) := by decide +kernel
theorem d_BM_ruleClause_26 : decode c_BM_ruleClause 26 = .ok (.iload_n 1, 1) := by decide +kernel
theorem d_BM_ruleClause_27 : decode c_BM_ruleClause 27 = .ok (.bipush 12, 2) := by decide +kernel
theorem d_BM_ruleClause_29 : decode c_BM_ruleClause 29 = .ok (.if_icmp .ne 10, 3) := by decide +kernel
theorem d_BM_ruleClause_32 : decode c_BM_ruleClause 32 = .ok (.aload_n 0, 1) := by decide +kernel
theorem d_BM_ruleClause_33 : decode c_BM_ruleClause 33 = .ok (.iconst 4, 1) := by decide +kernel
theorem d_BM_ruleClause_34 : decode c_BM_ruleClause 34 = .ok (.iload_n 2, 1) := by decide +kernel
theorem d_BM_ruleClause_35 : decode c_BM_ruleClause 35 = .ok (.invokevirtual 250, 3) := by decide +kernel
theorem d_BM_ruleClause_38 : decode c_BM_ruleClause 38 = .ok (.return_, 1) := by decide +kernel
theorem d_BM_ruleClause_39 : decode c_BM_ruleClause 39 = .ok (.aload_n 0, 1) := by decide +kernel
theorem d_BM_ruleClause_40 : decode c_BM_ruleClause 40 = .ok (.dup, 1) := by decide +kernel
theorem d_BM_ruleClause_41 : decode c_BM_ruleClause 41 = .ok (.getfield 214, 3) := by decide +kernel
theorem d_BM_ruleClause_44 : decode c_BM_ruleClause 44 = .ok (.iconst 5, 1) := by decide +kernel
theorem d_BM_ruleClause_45 : decode c_BM_ruleClause 45 = .ok (.iadd, 1) := by decide +kernel
theorem d_BM_ruleClause_46 : decode c_BM_ruleClause 46 = .ok (.putfield 214, 3) := by decide +kernel
theorem d_BM_ruleClause_49 : decode c_BM_ruleClause 49 = .ok (.bipush 12, 2) := by decide +kernel
theorem d_BM_ruleClause_51 : decode c_BM_ruleClause 51 = .ok (.aload_n 0, 1) := by decide +kernel
theorem d_BM_ruleClause_52 : decode c_BM_ruleClause 52 = .ok (.getfield 241, 3) := by decide +kernel
theorem d_BM_ruleClause_55 : decode c_BM_ruleClause 55 = .ok (.imul, 1) := by decide +kernel
theorem d_BM_ruleClause_56 : decode c_BM_ruleClause 56 = .ok (.iload_n 1, 1) := by decide +kernel
theorem d_BM_ruleClause_57 : decode c_BM_ruleClause 57 = .ok (.iadd, 1) := by decide +kernel
theorem d_BM_ruleClause_58 : decode c_BM_ruleClause 58 = .ok (.istore_n 3, 1) := by decide +kernel
theorem d_BM_ruleClause_59 : decode c_BM_ruleClause 59 = .ok (.aload_n 0, 1) := by decide +kernel
theorem d_BM_ruleClause_60 : decode c_BM_ruleClause 60 = .ok (.getfield 57, 3) := by decide +kernel
theorem d_BM_ruleClause_63 : decode c_BM_ruleClause 63 = .ok (.iload_n 3, 1) := by decide +kernel
theorem d_BM_ruleClause_64 : decode c_BM_ruleClause 64 = .ok (.aload_n 0, 1) := by decide +kernel
theorem d_BM_ruleClause_65 : decode c_BM_ruleClause 65 = .ok (.getfield 244, 3) := by decide +kernel
theorem d_BM_ruleClause_68 : decode c_BM_ruleClause 68 = .ok (.iastore, 1) := by decide +kernel
theorem d_BM_ruleClause_69 : decode c_BM_ruleClause 69 = .ok (.aload_n 0, 1) := by decide +kernel
theorem d_BM_ruleClause_70 : decode c_BM_ruleClause 70 = .ok (.invokevirtual 278, 3) := by decide +kernel
theorem d_BM_ruleClause_73 : decode c_BM_ruleClause 73 = .ok (.aload_n 0, 1) := by decide +kernel
theorem d_BM_ruleClause_74 : decode c_BM_ruleClause 74 = .ok (.getfield 60, 3) := by decide +kernel
theorem d_BM_ruleClause_77 : decode c_BM_ruleClause 77 = .ok (.iload_n 3, 1) := by decide +kernel
theorem d_BM_ruleClause_78 : decode c_BM_ruleClause 78 = .ok (.aload_n 0, 1) := by decide +kernel
theorem d_BM_ruleClause_79 : decode c_BM_ruleClause 79 = .ok (.getfield 244, 3) := by decide +kernel
theorem d_BM_ruleClause_82 : decode c_BM_ruleClause 82 = .ok (.iastore, 1) := by decide +kernel
theorem d_BM_ruleClause_83 : decode c_BM_ruleClause 83 = .ok (.aload_n 0, 1) := by decide +kernel
theorem d_BM_ruleClause_84 : decode c_BM_ruleClause 84 = .ok (.getfield 211, 3) := by decide +kernel
theorem d_BM_ruleClause_87 : decode c_BM_ruleClause 87 = .ok (.ifCond .ne 17, 3) := by decide +kernel
theorem d_BM_ruleClause_90 : decode c_BM_ruleClause 90 = .ok (.aload_n 0, 1) := by decide +kernel
theorem d_BM_ruleClause_91 : decode c_BM_ruleClause 91 = .ok (.ldc_w 339, 3) := by decide +kernel
theorem d_BM_ruleClause_94 : decode c_BM_ruleClause 94 = .ok (.invokevirtual 341, 3) := by decide +kernel
theorem d_BM_ruleClause_97 : decode c_BM_ruleClause 97 = .ok (.ifCond .eq 7, 3) := by decide +kernel
theorem d_BM_ruleClause_100 : decode c_BM_ruleClause 100 = .ok (.aload_n 0, 1) := by decide +kernel
theorem d_BM_ruleClause_101 : decode c_BM_ruleClause 101 = .ok (.invokevirtual 344, 3) := by decide +kernel
theorem d_BM_ruleClause_104 : decode c_BM_ruleClause 104 = .ok (.aload_n 0, 1) := by decide +kernel
theorem d_BM_ruleClause_105 : decode c_BM_ruleClause 105 = .ok (.getfield 63, 3) := by decide +kernel
theorem d_BM_ruleClause_108 : decode c_BM_ruleClause 108 = .ok (.iload_n 3, 1) := by decide +kernel
theorem d_BM_ruleClause_109 : decode c_BM_ruleClause 109 = .ok (.aload_n 0, 1) := by decide +kernel
theorem d_BM_ruleClause_110 : decode c_BM_ruleClause 110 = .ok (.getfield 244, 3) := by decide +kernel
theorem d_BM_ruleClause_113 : decode c_BM_ruleClause 113 = .ok (.iastore, 1) := by decide +kernel
theorem d_BM_ruleClause_114 : decode c_BM_ruleClause 114 = .ok (.return_, 1) := by decide +kernel
def S_BM_ruleClause_0 (g : Gx) (Q : St → Prop) (σ : St) (x1 : Int32) : Prop := Ax g m_BM_ruleClause 0 0 (ZV g Q) SH σ 0 0 0 [(0, .ref (gB g + 151)), (1, .int x1)] []
theorem sg_BM_ruleClause_0 {g : Gx} {Q : St → Prop} {σ : St} {x1 : Int32}
    (h : K_BM_blanks g σ (fun s1 : St => ∀ u2 : Int32, u2 = (fi s1 151 12) → K_BM_stood g 4 s1 (fun (r4 : Int32) (s3 : St) => (¬ r4 = 0 → (¬ x1 = (12 : Int32) → ∀ s5 : St, s5 = sfi s3 151 12 ((fi s3 151 12) + (5 : Int32)) → ∀ u6 : Int32, u6 = (((12 : Int32) * (fi s5 151 14)) + x1) → vp_in u6 72 ∧ (∀ s7 : St, s7 = sai s5 166 (u6).toNatClampNeg (fi s5 151 16) → K_BM_sum g s7 (fun s8 : St => vp_in u6 72 ∧ (∀ s9 : St, s9 = sai s8 167 (u6).toNatClampNeg (fi s8 151 16) → (¬ (fi s9 151 13) = 0 → vp_in u6 72 ∧ (∀ s10 : St, s10 = sai s9 168 (u6).toNatClampNeg (fi s9 151 16) → Q s10)) ∧ ((fi s9 151 13) = 0 → K_BM_takes g 12 s9 (fun (r12 : Int32) (s11 : St) => (r12 = 0 → vp_in u6 72 ∧ (∀ s13 : St, s13 = sai s11 168 (u6).toNatClampNeg (fi s11 151 16) → Q s13)) ∧ (¬ r12 = 0 → K_BM_test g s11 (fun s14 : St => vp_in u6 72 ∧ (∀ s15 : St, s15 = sai s14 168 (u6).toNatClampNeg (fi s14 151 16) → Q s15))))))))) ∧ (x1 = (12 : Int32) → K_BM_fails g (4 : Int32) u2 s3 (fun s16 : St => Q s16))) ∧ (r4 = 0 → K_BM_fails g (0 : Int32) u2 s3 (fun s17 : St => Q s17))))) : S_BM_ruleClause_0 g Q σ x1 := by
  show Ax g m_BM_ruleClause 0 0 (ZV g Q) SH σ 0 0 0 [(0, .ref (gB g + 151)), (1, .int x1)] []
  refine a_aload_n (pc := 0) 0 rfl rfl d_BM_ruleClause_0 ?_
  refine a_callV (pc := 1) (M' := m_BM_blanks) (As := []) (st := []) (mc' := 0) (ms' := 0) lk_BM_234 rfl sx_151 rfl (by decide) (by decide) rfl (Nat.le_of_ble_eq_true rfl) (Nat.le_refl 0) (Nat.le_refl 0) d_BM_ruleClause_1 h ?_
  rintro _ _ s1 ⟨rfl, rfl, h⟩ -
  show Ax g m_BM_ruleClause 0 0 (ZV g Q) SH s1 0 0 4 [(0, .ref (gB g + 151)), (1, .int x1)] []
  refine a_aload_n (pc := 4) 0 rfl rfl d_BM_ruleClause_4 ?_
  refine a_getI (pc := 5) fg_BM_214 sx_151 rfl d_BM_ruleClause_5 ?_
  refine a_nmi (pc := 8) (fun u2 hu2 => ?_)
  replace h := h u2 hu2
  refine a_istore_n (pc := 8) (lv' := [(2, .int u2), (0, .ref (gB g + 151)), (1, .int x1)]) rfl (Nat.le_of_ble_eq_true rfl) rfl d_BM_ruleClause_8 ?_
  refine a_aload_n (pc := 9) 1 rfl rfl d_BM_ruleClause_9 ?_
  refine a_ldcwS (pc := 10) (own := "BallBoxModel") (idx := 337) (tx := "first") (w := 4) (by simp [strs]) rfl d_BM_ruleClause_10 ?_
  refine a_callV (pc := 13) (M' := m_BM_stood) (As := [.ref (gK g 4)]) (st := []) (mc' := 0) (ms' := 0) lk_BM_237 rfl sx_151 rfl (by decide) (by decide) rfl (Nat.le_of_ble_eq_true rfl) (Nat.le_refl 0) (Nat.le_refl 0) d_BM_ruleClause_13 h ?_
  rintro _ _ s3 ⟨r4, rfl, rfl, h⟩ -
  show Ax g m_BM_ruleClause 0 0 (ZV g Q) SH s3 0 0 16 [(2, .int u2), (0, .ref (gB g + 151)), (1, .int x1)] [.int r4]
  refine a_if_ne (pc := 16) 26 (by decide) d_BM_ruleClause_16 ⟨fun c0 => ?_, fun c0 => ?_⟩
  · replace h := h.1 c0
    refine a_iload_n (pc := 26) 2 rfl rfl d_BM_ruleClause_26 ?_
    refine a_bipush (pc := 27) (12 : Int32) (by decide) d_BM_ruleClause_27 ?_
    refine a_icmp_ne (pc := 29) 39 (by decide) d_BM_ruleClause_29 ⟨fun c0 => ?_, fun c0 => ?_⟩
    · replace h := h.1 c0
      refine a_aload_n (pc := 39) 1 rfl rfl d_BM_ruleClause_39 ?_
      refine a_dup (pc := 40) rfl d_BM_ruleClause_40 ?_
      refine a_getI (pc := 41) fg_BM_214 sx_151 rfl d_BM_ruleClause_41 ?_
      refine a_iconst (pc := 44) (5 : Int32) (by decide) d_BM_ruleClause_44 ?_
      refine a_iadd (pc := 45) d_BM_ruleClause_45 ?_
      refine a_putI (pc := 46) fp_BM_214 sx_151 rfl d_BM_ruleClause_46 ?_
      refine a_nms (fun s5 hs5 => ?_)
      replace h := h s5 hs5
      refine a_bipush (pc := 49) (12 : Int32) (by decide) d_BM_ruleClause_49 ?_
      refine a_aload_n (pc := 51) 1 rfl rfl d_BM_ruleClause_51 ?_
      refine a_getI (pc := 52) fg_BM_241 sx_151 rfl d_BM_ruleClause_52 ?_
      refine a_imul (pc := 55) d_BM_ruleClause_55 ?_
      refine a_iload_n (pc := 56) 2 rfl rfl d_BM_ruleClause_56 ?_
      refine a_iadd (pc := 57) d_BM_ruleClause_57 ?_
      refine a_nmi (pc := 58) (fun u6 hu6 => ?_)
      replace h := h u6 hu6
      refine a_istore_n (pc := 58) (lv' := [(3, .int u6), (2, .int u2), (0, .ref (gB g + 151)), (1, .int x1)]) rfl (Nat.le_of_ble_eq_true rfl) rfl d_BM_ruleClause_58 ?_
      refine a_aload_n (pc := 59) 2 rfl rfl d_BM_ruleClause_59 ?_
      refine a_getR (pc := 60) fg_BM_57 sx_151 rfl d_BM_ruleClause_60 ?_
      refine a_iload_n (pc := 63) 0 rfl rfl d_BM_ruleClause_63 ?_
      refine a_aload_n (pc := 64) 2 rfl rfl d_BM_ruleClause_64 ?_
      refine a_getI (pc := 65) fg_BM_244 sx_151 rfl d_BM_ruleClause_65 ?_
      obtain ⟨hx, h⟩ := h
      refine a_iast (pc := 68) sx_166 hx d_BM_ruleClause_68 ?_
      refine a_nms (fun s7 hs7 => ?_)
      replace h := h s7 hs7
      refine a_aload_n (pc := 69) 2 rfl rfl d_BM_ruleClause_69 ?_
      refine a_callV (pc := 70) (M' := m_BM_sum) (As := []) (st := []) (mc' := 0) (ms' := 0) lk_BM_278 rfl sx_151 rfl (by decide) (by decide) rfl (Nat.le_of_ble_eq_true rfl) (Nat.le_refl 0) (Nat.le_refl 0) d_BM_ruleClause_70 h ?_
      rintro _ _ s8 ⟨rfl, rfl, h⟩ -
      show Ax g m_BM_ruleClause 0 0 (ZV g Q) SH s8 0 0 73 [(3, .int u6), (2, .int u2), (0, .ref (gB g + 151)), (1, .int x1)] []
      refine a_aload_n (pc := 73) 2 rfl rfl d_BM_ruleClause_73 ?_
      refine a_getR (pc := 74) fg_BM_60 sx_151 rfl d_BM_ruleClause_74 ?_
      refine a_iload_n (pc := 77) 0 rfl rfl d_BM_ruleClause_77 ?_
      refine a_aload_n (pc := 78) 2 rfl rfl d_BM_ruleClause_78 ?_
      refine a_getI (pc := 79) fg_BM_244 sx_151 rfl d_BM_ruleClause_79 ?_
      obtain ⟨hx, h⟩ := h
      refine a_iast (pc := 82) sx_167 hx d_BM_ruleClause_82 ?_
      refine a_nms (fun s9 hs9 => ?_)
      replace h := h s9 hs9
      refine a_aload_n (pc := 83) 2 rfl rfl d_BM_ruleClause_83 ?_
      refine a_getI (pc := 84) fg_BM_211 sx_151 rfl d_BM_ruleClause_84 ?_
      refine a_if_ne (pc := 87) 104 (by decide) d_BM_ruleClause_87 ⟨fun c0 => ?_, fun c0 => ?_⟩
      · replace h := h.1 c0
        refine a_aload_n (pc := 104) 2 rfl rfl d_BM_ruleClause_104 ?_
        refine a_getR (pc := 105) fg_BM_63 sx_151 rfl d_BM_ruleClause_105 ?_
        refine a_iload_n (pc := 108) 0 rfl rfl d_BM_ruleClause_108 ?_
        refine a_aload_n (pc := 109) 2 rfl rfl d_BM_ruleClause_109 ?_
        refine a_getI (pc := 110) fg_BM_244 sx_151 rfl d_BM_ruleClause_110 ?_
        obtain ⟨hx, h⟩ := h
        refine a_iast (pc := 113) sx_168 hx d_BM_ruleClause_113 ?_
        refine a_nms (fun s10 hs10 => ?_)
        replace h := h s10 hs10
        exact b_vret (pc := 114) rfl d_BM_ruleClause_114 h
      · replace h := h.2 c0
        refine a_aload_n (pc := 90) 2 rfl rfl d_BM_ruleClause_90 ?_
        refine a_ldcwS (pc := 91) (own := "BallBoxModel") (idx := 339) (tx := "if") (w := 12) (by simp [strs]) rfl d_BM_ruleClause_91 ?_
        refine a_callV (pc := 94) (M' := m_BM_takes) (As := [.ref (gK g 12)]) (st := []) (mc' := 0) (ms' := 0) lk_BM_341 rfl sx_151 rfl (by decide) (by decide) rfl (Nat.le_of_ble_eq_true rfl) (Nat.le_refl 0) (Nat.le_refl 0) d_BM_ruleClause_94 h ?_
        rintro _ _ s11 ⟨r12, rfl, rfl, h⟩ -
        show Ax g m_BM_ruleClause 0 0 (ZV g Q) SH s11 0 0 97 [(3, .int u6), (2, .int u2), (0, .ref (gB g + 151)), (1, .int x1)] [.int r12]
        refine a_if_eq (pc := 97) 104 (by decide) d_BM_ruleClause_97 ⟨fun c0 => ?_, fun c0 => ?_⟩
        · replace h := h.1 c0
          refine a_aload_n (pc := 104) 2 rfl rfl d_BM_ruleClause_104 ?_
          refine a_getR (pc := 105) fg_BM_63 sx_151 rfl d_BM_ruleClause_105 ?_
          refine a_iload_n (pc := 108) 0 rfl rfl d_BM_ruleClause_108 ?_
          refine a_aload_n (pc := 109) 2 rfl rfl d_BM_ruleClause_109 ?_
          refine a_getI (pc := 110) fg_BM_244 sx_151 rfl d_BM_ruleClause_110 ?_
          obtain ⟨hx, h⟩ := h
          refine a_iast (pc := 113) sx_168 hx d_BM_ruleClause_113 ?_
          refine a_nms (fun s13 hs13 => ?_)
          replace h := h s13 hs13
          exact b_vret (pc := 114) rfl d_BM_ruleClause_114 h
        · replace h := h.2 c0
          refine a_aload_n (pc := 100) 2 rfl rfl d_BM_ruleClause_100 ?_
          refine a_callV (pc := 101) (M' := m_BM_test) (As := []) (st := []) (mc' := 0) (ms' := 0) lk_BM_344 rfl sx_151 rfl (by decide) (by decide) rfl (Nat.le_of_ble_eq_true rfl) (Nat.le_refl 0) (Nat.le_refl 0) d_BM_ruleClause_101 h ?_
          rintro _ _ s14 ⟨rfl, rfl, h⟩ -
          show Ax g m_BM_ruleClause 0 0 (ZV g Q) SH s14 0 0 104 [(3, .int u6), (2, .int u2), (0, .ref (gB g + 151)), (1, .int x1)] []
          refine a_aload_n (pc := 104) 2 rfl rfl d_BM_ruleClause_104 ?_
          refine a_getR (pc := 105) fg_BM_63 sx_151 rfl d_BM_ruleClause_105 ?_
          refine a_iload_n (pc := 108) 0 rfl rfl d_BM_ruleClause_108 ?_
          refine a_aload_n (pc := 109) 2 rfl rfl d_BM_ruleClause_109 ?_
          refine a_getI (pc := 110) fg_BM_244 sx_151 rfl d_BM_ruleClause_110 ?_
          obtain ⟨hx, h⟩ := h
          refine a_iast (pc := 113) sx_168 hx d_BM_ruleClause_113 ?_
          refine a_nms (fun s15 hs15 => ?_)
          replace h := h s15 hs15
          exact b_vret (pc := 114) rfl d_BM_ruleClause_114 h
    · replace h := h.2 c0
      refine a_aload_n (pc := 32) 1 rfl rfl d_BM_ruleClause_32 ?_
      refine a_iconst (pc := 33) (4 : Int32) (by decide) d_BM_ruleClause_33 ?_
      refine a_iload_n (pc := 34) 0 rfl rfl d_BM_ruleClause_34 ?_
      refine a_callV (pc := 35) (M' := m_BM_fails) (As := [.int (4 : Int32), .int u2]) (st := []) (mc' := 0) (ms' := 0) lk_BM_250 rfl sx_151 rfl (by decide) (by decide) rfl (Nat.le_of_ble_eq_true rfl) (Nat.le_refl 0) (Nat.le_refl 0) d_BM_ruleClause_35 h ?_
      rintro _ _ s16 ⟨rfl, rfl, h⟩ -
      show Ax g m_BM_ruleClause 0 0 (ZV g Q) SH s16 0 0 38 [(2, .int u2), (0, .ref (gB g + 151)), (1, .int x1)] []
      exact b_vret (pc := 38) rfl d_BM_ruleClause_38 h
  · replace h := h.2 c0
    refine a_aload_n (pc := 19) 1 rfl rfl d_BM_ruleClause_19 ?_
    refine a_iconst (pc := 20) (0 : Int32) (by decide) d_BM_ruleClause_20 ?_
    refine a_iload_n (pc := 21) 0 rfl rfl d_BM_ruleClause_21 ?_
    refine a_callV (pc := 22) (M' := m_BM_fails) (As := [.int (0 : Int32), .int u2]) (st := []) (mc' := 0) (ms' := 0) lk_BM_250 rfl sx_151 rfl (by decide) (by decide) rfl (Nat.le_of_ble_eq_true rfl) (Nat.le_refl 0) (Nat.le_refl 0) d_BM_ruleClause_22 h ?_
    rintro _ _ s17 ⟨rfl, rfl, h⟩ -
    show Ax g m_BM_ruleClause 0 0 (ZV g Q) SH s17 0 0 25 [(2, .int u2), (0, .ref (gB g + 151)), (1, .int x1)] []
    exact b_vret (pc := 25) rfl d_BM_ruleClause_25 h
theorem ko_BM_ruleClause {g : Gx}  {x1 : Int32} {σ : St} {Q : St → Prop} (h : S_BM_ruleClause_0 g Q σ x1) : K_BM_ruleClause g x1 σ Q := KV.of (show plainName "BallBoxModel" = true by decide) (Nat.le_of_ble_eq_true rfl) h
theorem d_BM_rule_0 : decode c_BM_rule 0 = .ok (.aload_n 0, 1) := by decide +kernel
theorem d_BM_rule_1 : decode c_BM_rule 1 = .ok (.getfield 347, 3) := by decide +kernel
theorem d_BM_rule_4 : decode c_BM_rule 4 = .ok (.bipush 6, 2) := by decide +kernel
theorem d_BM_rule_6 : decode c_BM_rule 6 = .ok (.if_icmp .ne 5, 3) := by decide +kernel
theorem d_BM_rule_9 : decode c_BM_rule 9 = .ok (.iconst (-1), 1) := by decide +kernel
theorem d_BM_rule_10 : decode c_BM_rule 10 = .ok (.ireturn, 1) := by decide +kernel
theorem d_BM_rule_11 : decode c_BM_rule 11 = .ok (.aload_n 0, 1) := by decide +kernel
theorem d_BM_rule_12 : decode c_BM_rule 12 = .ok (.aload_n 0, 1) := by decide +kernel
theorem d_BM_rule_13 : decode c_BM_rule 13 = .ok (.getfield 347, 3) := by decide +kernel
theorem d_BM_rule_16 : decode c_BM_rule 16 = .ok (.putfield 241, 3) := by decide +kernel
theorem d_BM_rule_19 : decode c_BM_rule 19 = .ok (.aload_n 0, 1) := by decide +kernel
theorem d_BM_rule_20 : decode c_BM_rule 20 = .ok (.invokevirtual 324, 3) := by decide +kernel
theorem d_BM_rule_23 : decode c_BM_rule 23 = .ok (.iconst 0, 1) := by decide +kernel
theorem d_BM_rule_24 : decode c_BM_rule 24 = .ok (.istore_n 1, 1) := by decide +kernel
theorem d_BM_rule_25 : decode c_BM_rule 25 = .ok (.iconst 1, 1) := by decide +kernel
theorem d_BM_rule_26 : decode c_BM_rule 26 = .ok (.istore_n 2, 1) := by decide +kernel
theorem d_BM_rule_27 : decode c_BM_rule 27 = .ok (.iload_n 2, 1) := by decide +kernel
theorem d_BM_rule_28 : decode c_BM_rule 28 = .ok (.ifCond .eq 19, 3) := by decide +kernel
theorem d_BM_rule_31 : decode c_BM_rule 31 = .ok (.aload_n 0, 1) := by decide +kernel
theorem d_BM_rule_32 : decode c_BM_rule 32 = .ok (.iload_n 1, 1) := by decide +kernel
theorem d_BM_rule_33 : decode c_BM_rule 33 = .ok (.invokevirtual 350, 3) := by decide +kernel
theorem d_BM_rule_36 : decode c_BM_rule 36 = .ok (.iinc 1 1, 3) := by decide +kernel
theorem d_BM_rule_39 : decode c_BM_rule 39 = .ok (.aload_n 0, 1) := by decide +kernel
theorem d_BM_rule_40 : decode c_BM_rule 40 = .ok (.invokevirtual 330, 3) := by decide +kernel
theorem d_BM_rule_43 : decode c_BM_rule 43 = .ok (.istore_n 2, 1) := by decide +kernel
theorem d_BM_rule_44 : decode c_BM_rule 44 = .ok (.goto (-17), 3) := by decide +kernel
theorem d_BM_rule_47 : decode c_BM_rule 47 = .ok (.aload_n 0, 1) := by decide +kernel
theorem d_BM_rule_48 : decode c_BM_rule 48 = .ok (.iconst 0, 1) := by decide +kernel
theorem d_BM_rule_49 : decode c_BM_rule 49 = .ok (.putfield 188, 3) := by decide +kernel
theorem d_BM_rule_52 : decode c_BM_rule 52 = .ok (.aload_n 0, 1) := by decide +kernel
theorem d_BM_rule_53 : decode c_BM_rule 53 = .ok (.getfield 54, 3) := by decide +kernel
theorem d_BM_rule_56 : decode c_BM_rule 56 = .ok (.aload_n 0, 1) := by decide +kernel
theorem d_BM_rule_57 : decode c_BM_rule 57 = .ok (.getfield 241, 3) := by decide +kernel
theorem d_BM_rule_60 : decode c_BM_rule 60 = .ok (.iload_n 1, 1) := by decide +kernel
theorem d_BM_rule_61 : decode c_BM_rule 61 = .ok (.iastore, 1) := by decide +kernel
theorem d_BM_rule_62 : decode c_BM_rule 62 = .ok (.aload_n 0, 1) := by decide +kernel
theorem d_BM_rule_63 : decode c_BM_rule 63 = .ok (.dup, 1) := by decide +kernel
theorem d_BM_rule_64 : decode c_BM_rule 64 = .ok (.getfield 347, 3) := by decide +kernel
theorem d_BM_rule_67 : decode c_BM_rule 67 = .ok (.aload_n 0, 1) := by decide +kernel
theorem d_BM_rule_68 : decode c_BM_rule 68 = .ok (.getfield 211, 3) := by decide +kernel
theorem d_BM_rule_71 : decode c_BM_rule 71 = .ok (.ifCond .ne 7, 3) := by decide +kernel
theorem d_BM_rule_74 : decode c_BM_rule 74 = .ok (.iconst 1, 1) := by decide +kernel
theorem d_BM_rule_75 : decode c_BM_rule 75 = .ok (.goto 4, 3) := by decide +kernel
theorem d_BM_rule_78 : decode c_BM_rule 78 = .ok (.iconst 0, 1) := by decide +kernel
theorem d_BM_rule_79 : decode c_BM_rule 79 = .ok (.iadd, 1) := by decide +kernel
theorem d_BM_rule_80 : decode c_BM_rule 80 = .ok (.putfield 347, 3) := by decide +kernel
theorem d_BM_rule_83 : decode c_BM_rule 83 = .ok (.aload_n 0, 1) := by decide +kernel
theorem d_BM_rule_84 : decode c_BM_rule 84 = .ok (.getfield 211, 3) := by decide +kernel
theorem d_BM_rule_87 : decode c_BM_rule 87 = .ok (.ifCond .le 13, 3) := by decide +kernel
theorem d_BM_rule_90 : decode c_BM_rule 90 = .ok (.bipush (-2), 2) := by decide +kernel
theorem d_BM_rule_92 : decode c_BM_rule 92 = .ok (.aload_n 0, 1) := by decide +kernel
theorem d_BM_rule_93 : decode c_BM_rule 93 = .ok (.getfield 211, 3) := by decide +kernel
theorem d_BM_rule_96 : decode c_BM_rule 96 = .ok (.isub, 1) := by decide +kernel
theorem d_BM_rule_97 : decode c_BM_rule 97 = .ok (.goto 9, 3) := by decide +kernel
theorem d_BM_rule_100 : decode c_BM_rule 100 = .ok (.aload_n 0, 1) := by decide +kernel
theorem d_BM_rule_101 : decode c_BM_rule 101 = .ok (.getfield 347, 3) := by decide +kernel
theorem d_BM_rule_104 : decode c_BM_rule 104 = .ok (.iconst 1, 1) := by decide +kernel
theorem d_BM_rule_105 : decode c_BM_rule 105 = .ok (.isub, 1) := by decide +kernel
theorem d_BM_rule_106 : decode c_BM_rule 106 = .ok (.ireturn, 1) := by decide +kernel
def S_BM_rule_0 (g : Gx) (Q : Int32 → St → Prop) (σ : St) : Prop := Ax g m_BM_rule 0 0 (ZI g Q) SH σ 0 0 0 [(0, .ref (gB g + 151))] []
def S_BM_rule_27 (g : Gx) (Q : Int32 → St → Prop) (σ : St) (x1 : Int32) (x2 : Int32) : Prop := Ax g m_BM_rule 0 0 (ZI g Q) SH σ 0 0 27 [(0, .ref (gB g + 151)), (1, .int x1), (2, .int x2)] []
def S_BM_rule_79 (g : Gx) (Q : Int32 → St → Prop) (σ : St) (z0 : Int32) (z1 : Int32) : Prop := Ax g m_BM_rule 0 0 (ZI g Q) SH σ 0 0 79 [(0, .ref (gB g + 151))] [.int z0, .int z1, .ref (gB g + 151)]
theorem sg_BM_rule_0 {g : Gx} {Q : Int32 → St → Prop} {σ : St}
    (h : (¬ (fi σ 151 15) = (6 : Int32) → ∀ s1 : St, s1 = sfi σ 151 14 (fi σ 151 15) → K_BM_starts g s1 (fun s2 : St => S_BM_rule_27 g Q s2 (0 : Int32) (1 : Int32))) ∧ ((fi σ 151 15) = (6 : Int32) → Q (-1 : Int32) σ)) : S_BM_rule_0 g Q σ := by
  show Ax g m_BM_rule 0 0 (ZI g Q) SH σ 0 0 0 [(0, .ref (gB g + 151))] []
  refine a_aload_n (pc := 0) 0 rfl rfl d_BM_rule_0 ?_
  refine a_getI (pc := 1) fg_BM_347 sx_151 rfl d_BM_rule_1 ?_
  refine a_bipush (pc := 4) (6 : Int32) (by decide) d_BM_rule_4 ?_
  refine a_icmp_ne (pc := 6) 11 (by decide) d_BM_rule_6 ⟨fun c0 => ?_, fun c0 => ?_⟩
  · replace h := h.1 c0
    refine a_aload_n (pc := 11) 0 rfl rfl d_BM_rule_11 ?_
    refine a_aload_n (pc := 12) 0 rfl rfl d_BM_rule_12 ?_
    refine a_getI (pc := 13) fg_BM_347 sx_151 rfl d_BM_rule_13 ?_
    refine a_putI (pc := 16) fp_BM_241 sx_151 rfl d_BM_rule_16 ?_
    refine a_nms (fun s1 hs1 => ?_)
    replace h := h s1 hs1
    refine a_aload_n (pc := 19) 0 rfl rfl d_BM_rule_19 ?_
    refine a_callV (pc := 20) (M' := m_BM_starts) (As := []) (st := []) (mc' := 0) (ms' := 0) lk_BM_324 rfl sx_151 rfl (by decide) (by decide) rfl (Nat.le_of_ble_eq_true rfl) (Nat.le_refl 0) (Nat.le_refl 0) d_BM_rule_20 h ?_
    rintro _ _ s2 ⟨rfl, rfl, h⟩ -
    show Ax g m_BM_rule 0 0 (ZI g Q) SH s2 0 0 23 [(0, .ref (gB g + 151))] []
    refine a_iconst (pc := 23) (0 : Int32) (by decide) d_BM_rule_23 ?_
    refine a_istore_n (pc := 24) (lv' := [(1, .int (0 : Int32)), (0, .ref (gB g + 151))]) rfl (Nat.le_of_ble_eq_true rfl) rfl d_BM_rule_24 ?_
    refine a_iconst (pc := 25) (1 : Int32) (by decide) d_BM_rule_25 ?_
    refine a_istore_n (pc := 26) (lv' := [(2, .int (1 : Int32)), (1, .int (0 : Int32)), (0, .ref (gB g + 151))]) rfl (Nat.le_of_ble_eq_true rfl) rfl d_BM_rule_26 ?_
    refine a_sub (pc := 27) [2, 1, 0] rfl ?_
    exact h
  · replace h := h.2 c0
    refine a_iconst (pc := 9) (-1 : Int32) (by decide) d_BM_rule_9 ?_
    exact b_iret (pc := 10) rfl d_BM_rule_10 h
theorem sg_BM_rule_27 {g : Gx} {Q : Int32 → St → Prop} {σ : St} {x1 : Int32} {x2 : Int32}
    (h : (x2 = 0 → ∀ s1 : St, s1 = sfi σ 151 11 (0 : Int32) → vp_in (fi s1 151 14) 6 ∧ (∀ s2 : St, s2 = sai s1 165 ((fi s1 151 14)).toNatClampNeg x1 → (¬ (fi s2 151 13) = 0 → S_BM_rule_79 g Q s2 (0 : Int32) (fi s2 151 15)) ∧ ((fi s2 151 13) = 0 → S_BM_rule_79 g Q s2 (1 : Int32) (fi s2 151 15)))) ∧ (¬ x2 = 0 → K_BM_ruleClause g x1 σ (fun s3 : St => ∀ u4 : Int32, u4 = x1 + (1 : Int32) → K_BM_goesOn g s3 (fun (r6 : Int32) (s5 : St) => S_BM_rule_27 g Q s5 u4 r6)))) : S_BM_rule_27 g Q σ x1 x2 := by
  show Ax g m_BM_rule 0 0 (ZI g Q) SH σ 0 0 27 [(0, .ref (gB g + 151)), (1, .int x1), (2, .int x2)] []
  refine a_iload_n (pc := 27) 2 rfl rfl d_BM_rule_27 ?_
  refine a_if_eq (pc := 28) 47 (by decide) d_BM_rule_28 ⟨fun c0 => ?_, fun c0 => ?_⟩
  · replace h := h.1 c0
    refine a_aload_n (pc := 47) 0 rfl rfl d_BM_rule_47 ?_
    refine a_iconst (pc := 48) (0 : Int32) (by decide) d_BM_rule_48 ?_
    refine a_putI (pc := 49) fp_BM_188 sx_151 rfl d_BM_rule_49 ?_
    refine a_nms (fun s1 hs1 => ?_)
    replace h := h s1 hs1
    refine a_aload_n (pc := 52) 0 rfl rfl d_BM_rule_52 ?_
    refine a_getR (pc := 53) fg_BM_54 sx_151 rfl d_BM_rule_53 ?_
    refine a_aload_n (pc := 56) 0 rfl rfl d_BM_rule_56 ?_
    refine a_getI (pc := 57) fg_BM_241 sx_151 rfl d_BM_rule_57 ?_
    refine a_iload_n (pc := 60) 1 rfl rfl d_BM_rule_60 ?_
    obtain ⟨hx, h⟩ := h
    refine a_iast (pc := 61) sx_165 hx d_BM_rule_61 ?_
    refine a_nms (fun s2 hs2 => ?_)
    replace h := h s2 hs2
    refine a_aload_n (pc := 62) 0 rfl rfl d_BM_rule_62 ?_
    refine a_dup (pc := 63) rfl d_BM_rule_63 ?_
    refine a_getI (pc := 64) fg_BM_347 sx_151 rfl d_BM_rule_64 ?_
    refine a_aload_n (pc := 67) 0 rfl rfl d_BM_rule_67 ?_
    refine a_getI (pc := 68) fg_BM_211 sx_151 rfl d_BM_rule_68 ?_
    refine a_if_ne (pc := 71) 78 (by decide) d_BM_rule_71 ⟨fun c0 => ?_, fun c0 => ?_⟩
    · replace h := h.1 c0
      refine a_iconst (pc := 78) (0 : Int32) (by decide) d_BM_rule_78 ?_
      refine a_sub (pc := 79) [0] rfl ?_
      exact h
    · replace h := h.2 c0
      refine a_iconst (pc := 74) (1 : Int32) (by decide) d_BM_rule_74 ?_
      refine a_goto (pc := 75) 79 (by decide) d_BM_rule_75 ?_
      refine a_sub (pc := 79) [0] rfl ?_
      exact h
  · replace h := h.2 c0
    refine a_aload_n (pc := 31) 0 rfl rfl d_BM_rule_31 ?_
    refine a_iload_n (pc := 32) 1 rfl rfl d_BM_rule_32 ?_
    refine a_callV (pc := 33) (M' := m_BM_ruleClause) (As := [.int x1]) (st := []) (mc' := 0) (ms' := 0) lk_BM_350 rfl sx_151 rfl (by decide) (by decide) rfl (Nat.le_of_ble_eq_true rfl) (Nat.le_refl 0) (Nat.le_refl 0) d_BM_rule_33 h ?_
    rintro _ _ s3 ⟨rfl, rfl, h⟩ -
    show Ax g m_BM_rule 0 0 (ZI g Q) SH s3 0 0 36 [(0, .ref (gB g + 151)), (1, .int x1), (2, .int x2)] []
    obtain ⟨u4, hu4⟩ : ∃ y : Int32, y = x1 + (1 : Int32) := ⟨_, rfl⟩
    replace h := h u4 hu4
    refine a_iinc (pc := 36) (v := u4) (lv' := [(1, .int u4), (0, .ref (gB g + 151)), (2, .int x2)]) 1 rfl (by rw [hu4]; rfl) (Nat.le_of_ble_eq_true rfl) rfl d_BM_rule_36 ?_
    refine a_aload_n (pc := 39) 1 rfl rfl d_BM_rule_39 ?_
    refine a_callV (pc := 40) (M' := m_BM_goesOn) (As := []) (st := []) (mc' := 0) (ms' := 0) lk_BM_330 rfl sx_151 rfl (by decide) (by decide) rfl (Nat.le_of_ble_eq_true rfl) (Nat.le_refl 0) (Nat.le_refl 0) d_BM_rule_40 h ?_
    rintro _ _ s5 ⟨r6, rfl, rfl, h⟩ -
    show Ax g m_BM_rule 0 0 (ZI g Q) SH s5 0 0 43 [(1, .int u4), (0, .ref (gB g + 151)), (2, .int x2)] [.int r6]
    refine a_istore_n (pc := 43) (lv' := [(2, .int r6), (1, .int u4), (0, .ref (gB g + 151))]) rfl (Nat.le_of_ble_eq_true rfl) rfl d_BM_rule_43 ?_
    refine a_goto (pc := 44) 27 (by decide) d_BM_rule_44 ?_
    refine a_sub (pc := 27) [2, 1, 0] rfl ?_
    exact h
theorem sg_BM_rule_79 {g : Gx} {Q : Int32 → St → Prop} {σ : St} {z0 : Int32} {z1 : Int32}
    (h : ∀ s1 : St, s1 = sfi σ 151 15 (z1 + z0) → ((fi s1 151 13) ≤ 0 → Q ((fi s1 151 15) - (1 : Int32)) s1) ∧ (¬ (fi s1 151 13) ≤ 0 → Q ((-2 : Int32) - (fi s1 151 13)) s1)) : S_BM_rule_79 g Q σ z0 z1 := by
  show Ax g m_BM_rule 0 0 (ZI g Q) SH σ 0 0 79 [(0, .ref (gB g + 151))] [.int z0, .int z1, .ref (gB g + 151)]
  refine a_iadd (pc := 79) d_BM_rule_79 ?_
  refine a_putI (pc := 80) fp_BM_347 sx_151 rfl d_BM_rule_80 ?_
  refine a_nms (fun s1 hs1 => ?_)
  replace h := h s1 hs1
  refine a_aload_n (pc := 83) 0 rfl rfl d_BM_rule_83 ?_
  refine a_getI (pc := 84) fg_BM_211 sx_151 rfl d_BM_rule_84 ?_
  refine a_if_le (pc := 87) 100 (by decide) d_BM_rule_87 ⟨fun c0 => ?_, fun c0 => ?_⟩
  · replace h := h.1 c0
    refine a_aload_n (pc := 100) 0 rfl rfl d_BM_rule_100 ?_
    refine a_getI (pc := 101) fg_BM_347 sx_151 rfl d_BM_rule_101 ?_
    refine a_iconst (pc := 104) (1 : Int32) (by decide) d_BM_rule_104 ?_
    refine a_isub (pc := 105) d_BM_rule_105 ?_
    exact b_iret (pc := 106) rfl d_BM_rule_106 h
  · replace h := h.2 c0
    refine a_bipush (pc := 90) (-2 : Int32) (by decide) d_BM_rule_90 ?_
    refine a_aload_n (pc := 92) 0 rfl rfl d_BM_rule_92 ?_
    refine a_getI (pc := 93) fg_BM_211 sx_151 rfl d_BM_rule_93 ?_
    refine a_isub (pc := 96) d_BM_rule_96 ?_
    refine a_goto (pc := 97) 106 (by decide) d_BM_rule_97 ?_
    exact b_iret (pc := 106) rfl d_BM_rule_106 h
theorem ko_BM_rule {g : Gx}  {σ : St} {Q : Int32 → St → Prop} (h : S_BM_rule_0 g Q σ) : K_BM_rule g  σ Q := KI.of (show plainName "BallBoxModel" = true by decide) (Nat.le_of_ble_eq_true rfl) h
theorem d_BM_force_0 : decode c_BM_force 0 = .ok (.iload_n 1, 1) := by decide +kernel
theorem d_BM_force_1 : decode c_BM_force 1 = .ok (.i2l, 1) := by decide +kernel
theorem d_BM_force_2 : decode c_BM_force 2 = .ok (.ldc2_w 353, 3) := by decide +kernel
theorem d_BM_force_5 : decode c_BM_force 5 = .ok (.aload_n 0, 1) := by decide +kernel
theorem d_BM_force_6 : decode c_BM_force 6 = .ok (.getfield 347, 3) := by decide +kernel
theorem d_BM_force_9 : decode c_BM_force 9 = .ok (.iconst 1, 1) := by decide +kernel
theorem d_BM_force_10 : decode c_BM_force 10 = .ok (.isub, 1) := by decide +kernel
theorem d_BM_force_11 : decode c_BM_force 11 = .ok (.i2l, 1) := by decide +kernel
theorem d_BM_force_12 : decode c_BM_force 12 = .ok (.invokestatic 162, 3) := by decide +kernel
theorem d_BM_force_15 : decode c_BM_force 15 = .ok (.ifCond .ne 6, 3) := by decide +kernel
theorem d_BM_force_18 : decode c_BM_force 18 = .ok (.bipush (-2), 2) := by decide +kernel
theorem d_BM_force_20 : decode c_BM_force 20 = .ok (.ireturn, 1) := by decide +kernel
theorem d_BM_force_21 : decode c_BM_force 21 = .ok (.aload_n 0, 1) := by decide +kernel
theorem d_BM_force_22 : decode c_BM_force 22 = .ok (.getfield 9, 3) := by decide +kernel
theorem d_BM_force_25 : decode c_BM_force 25 = .ok (.bipush 7, 2) := by decide +kernel
theorem d_BM_force_27 : decode c_BM_force 27 = .ok (.iaload, 1) := by decide +kernel
theorem d_BM_force_28 : decode c_BM_force 28 = .ok (.istore_n 2, 1) := by decide +kernel
theorem d_BM_force_29 : decode c_BM_force 29 = .ok (.aload_n 0, 1) := by decide +kernel
theorem d_BM_force_30 : decode c_BM_force 30 = .ok (.getfield 9, 3) := by decide +kernel
theorem d_BM_force_33 : decode c_BM_force 33 = .ok (.bipush 7, 2) := by decide +kernel
theorem d_BM_force_35 : decode c_BM_force 35 = .ok (.iload_n 1, 1) := by decide +kernel
theorem d_BM_force_36 : decode c_BM_force 36 = .ok (.iastore, 1) := by decide +kernel
theorem d_BM_force_37 : decode c_BM_force 37 = .ok (.iload_n 2, 1) := by decide +kernel
theorem d_BM_force_38 : decode c_BM_force 38 = .ok (.ireturn, 1) := by decide +kernel
def S_BM_force_0 (g : Gx) (Q : Int32 → St → Prop) (σ : St) (x1 : Int32) : Prop := Ax g m_BM_force 0 0 (ZI g Q) SH σ 0 0 0 [(0, .ref (gB g + 151)), (1, .int x1)] []
theorem sg_BM_force_0 {g : Gx} {Q : Int32 → St → Prop} {σ : St} {x1 : Int32}
    (h : K_BM_in g ((x1).toInt64) (-1 : Int64) ((((fi σ 151 15) - (1 : Int32))).toInt64) σ (fun (r2 : Int32) (s1 : St) => (¬ r2 = 0 → vp_in (7 : Int32) 8 ∧ (∀ u3 : Int32, u3 = (ai s1 152 ((7 : Int32)).toNatClampNeg) → vp_in (7 : Int32) 8 ∧ (∀ s4 : St, s4 = sai s1 152 ((7 : Int32)).toNatClampNeg x1 → Q u3 s4))) ∧ (r2 = 0 → Q (-2 : Int32) s1))) : S_BM_force_0 g Q σ x1 := by
  show Ax g m_BM_force 0 0 (ZI g Q) SH σ 0 0 0 [(0, .ref (gB g + 151)), (1, .int x1)] []
  refine a_iload_n (pc := 0) 1 rfl rfl d_BM_force_0 ?_
  refine a_i2l (pc := 1) d_BM_force_1 ?_
  refine a_ldc2 (pc := 2) tw1635 d_BM_force_2 ?_
  refine a_aload_n (pc := 5) 0 rfl rfl d_BM_force_5 ?_
  refine a_getI (pc := 6) fg_BM_347 sx_151 rfl d_BM_force_6 ?_
  refine a_iconst (pc := 9) (1 : Int32) (by decide) d_BM_force_9 ?_
  refine a_isub (pc := 10) d_BM_force_10 ?_
  refine a_i2l (pc := 11) d_BM_force_11 ?_
  refine a_callS (pc := 12) (M' := m_BM_in) (As := [.long ((x1).toInt64), .long (-1 : Int64), .long ((((fi σ 151 15) - (1 : Int32))).toInt64)]) (st := []) (mc' := 0) (ms' := 0) lk_BM_162 rfl (by decide) (by decide) rfl (Nat.le_of_ble_eq_true rfl) (Nat.le_refl 0) (Nat.le_refl 0) d_BM_force_12 h ?_
  rintro _ _ s1 ⟨r2, rfl, rfl, h⟩ -
  show Ax g m_BM_force 0 0 (ZI g Q) SH s1 0 0 15 [(0, .ref (gB g + 151)), (1, .int x1)] [.int r2]
  refine a_if_ne (pc := 15) 21 (by decide) d_BM_force_15 ⟨fun c0 => ?_, fun c0 => ?_⟩
  · replace h := h.1 c0
    refine a_aload_n (pc := 21) 0 rfl rfl d_BM_force_21 ?_
    refine a_getR (pc := 22) fg_BM_9 sx_151 rfl d_BM_force_22 ?_
    refine a_bipush (pc := 25) (7 : Int32) (by decide) d_BM_force_25 ?_
    obtain ⟨hx, h⟩ := h
    refine a_iald (pc := 27) sx_152 hx d_BM_force_27 ?_
    refine a_nmi (pc := 28) (fun u3 hu3 => ?_)
    replace h := h u3 hu3
    refine a_istore_n (pc := 28) (lv' := [(2, .int u3), (0, .ref (gB g + 151)), (1, .int x1)]) rfl (Nat.le_of_ble_eq_true rfl) rfl d_BM_force_28 ?_
    refine a_aload_n (pc := 29) 1 rfl rfl d_BM_force_29 ?_
    refine a_getR (pc := 30) fg_BM_9 sx_151 rfl d_BM_force_30 ?_
    refine a_bipush (pc := 33) (7 : Int32) (by decide) d_BM_force_33 ?_
    refine a_iload_n (pc := 35) 2 rfl rfl d_BM_force_35 ?_
    obtain ⟨hx, h⟩ := h
    refine a_iast (pc := 36) sx_152 hx d_BM_force_36 ?_
    refine a_nms (fun s4 hs4 => ?_)
    replace h := h s4 hs4
    refine a_iload_n (pc := 37) 0 rfl rfl d_BM_force_37 ?_
    exact b_iret (pc := 38) rfl d_BM_force_38 h
  · replace h := h.2 c0
    refine a_bipush (pc := 18) (-2 : Int32) (by decide) d_BM_force_18 ?_
    exact b_iret (pc := 20) rfl d_BM_force_20 h
theorem ko_BM_force {g : Gx}  {x1 : Int32} {σ : St} {Q : Int32 → St → Prop} (h : S_BM_force_0 g Q σ x1) : K_BM_force g x1 σ Q := KI.of (show plainName "BallBoxModel" = true by decide) (Nat.le_of_ble_eq_true rfl) h
theorem d_BM_truth_0 : decode c_BM_truth 0 = .ok (.iload_n 0, 1) := by decide +kernel
theorem d_BM_truth_1 : decode c_BM_truth 1 = .ok (.ifCond .eq 7, 3) := by decide +kernel
theorem d_BM_truth_4 : decode c_BM_truth 4 = .ok (.lconst 1, 1) := by decide +kernel
theorem d_BM_truth_5 : decode c_BM_truth 5 = .ok (.goto 4, 3) := by decide +kernel
theorem d_BM_truth_8 : decode c_BM_truth 8 = .ok (.lconst 0, 1) := by decide +kernel
theorem d_BM_truth_9 : decode c_BM_truth 9 = .ok (.lreturn, 1) := by decide +kernel
def S_BM_truth_0 (g : Gx) (Q : Int64 → St → Prop) (σ : St) (x0 : Int32) : Prop := Ax g m_BM_truth 0 0 (ZJ g Q) SH σ 0 0 0 [(0, .int x0)] []
theorem sg_BM_truth_0 {g : Gx} {Q : Int64 → St → Prop} {σ : St} {x0 : Int32}
    (h : (x0 = 0 → Q (0 : Int64) σ) ∧ (¬ x0 = 0 → Q (1 : Int64) σ)) : S_BM_truth_0 g Q σ x0 := by
  show Ax g m_BM_truth 0 0 (ZJ g Q) SH σ 0 0 0 [(0, .int x0)] []
  refine a_iload_n (pc := 0) 0 rfl rfl d_BM_truth_0 ?_
  refine a_if_eq (pc := 1) 8 (by decide) d_BM_truth_1 ⟨fun c0 => ?_, fun c0 => ?_⟩
  · replace h := h.1 c0
    refine a_lconst (pc := 8) (0 : Int64) (by decide) d_BM_truth_8 ?_
    exact b_lret (pc := 9) rfl d_BM_truth_9 h
  · replace h := h.2 c0
    refine a_lconst (pc := 4) (1 : Int64) (by decide) d_BM_truth_4 ?_
    refine a_goto (pc := 5) 9 (by decide) d_BM_truth_5 ?_
    exact b_lret (pc := 9) rfl d_BM_truth_9 h
theorem ko_BM_truth {g : Gx}  {x0 : Int32} {σ : St} {Q : Int64 → St → Prop} (h : S_BM_truth_0 g Q σ x0) : K_BM_truth g x0 σ Q := KJ.of (show plainName "BallBoxModel" = true by decide) (Nat.le_of_ble_eq_true rfl) h
theorem d_BM_both_0 : decode c_BM_both 0 = .ok (.iload_n 0, 1) := by decide +kernel
theorem d_BM_both_1 : decode c_BM_both 1 = .ok (.tableswitch 190 2 15 #[71, 75, 111, 126, 141, 156, 171, 190, 186, 190, 190, 79, 83, 97], 71) := by decide +kernel
theorem d_BM_both_72 : decode c_BM_both 72 = .ok (.lload_n 1, 1) := by decide +kernel
theorem d_BM_both_73 : decode c_BM_both 73 = .ok (.lload_n 3, 1) := by decide +kernel
theorem d_BM_both_74 : decode c_BM_both 74 = .ok (.ladd, 1) := by decide +kernel
theorem d_BM_both_75 : decode c_BM_both 75 = .ok (.lreturn, 1) := by decide +kernel
theorem d_BM_both_76 : decode c_BM_both 76 = .ok (.lload_n 1, 1) := by decide +kernel
theorem d_BM_both_77 : decode c_BM_both 77 = .ok (.lload_n 3, 1) := by decide +kernel
theorem d_BM_both_78 : decode c_BM_both 78 = .ok (.lsub, 1) := by decide +kernel
theorem d_BM_both_79 : decode c_BM_both 79 = .ok (.lreturn, 1) := by decide +kernel
theorem d_BM_both_80 : decode c_BM_both 80 = .ok (.lload_n 1, 1) := by decide +kernel
theorem d_BM_both_81 : decode c_BM_both 81 = .ok (.lload_n 3, 1) := by decide +kernel
theorem d_BM_both_82 : decode c_BM_both 82 = .ok (.lmul, 1) := by decide +kernel
theorem d_BM_both_83 : decode c_BM_both 83 = .ok (.lreturn, 1) := by decide +kernel
theorem d_BM_both_84 : decode c_BM_both 84 = .ok (.lload_n 3, 1) := by decide +kernel
theorem d_BM_both_85 : decode c_BM_both 85 = .ok (.lconst 0, 1) := by decide +kernel
theorem d_BM_both_86 : decode c_BM_both 86 = .ok (.lcmp, 1) := by decide +kernel
theorem d_BM_both_87 : decode c_BM_both 87 = .ok (.ifCond .ne 7, 3) := by decide +kernel
theorem d_BM_both_90 : decode c_BM_both 90 = .ok (.lconst 0, 1) := by decide +kernel
theorem d_BM_both_91 : decode c_BM_both 91 = .ok (.goto 6, 3) := by decide +kernel
theorem d_BM_both_94 : decode c_BM_both 94 = .ok (.lload_n 1, 1) := by decide +kernel
theorem d_BM_both_95 : decode c_BM_both 95 = .ok (.lload_n 3, 1) := by decide +kernel
theorem d_BM_both_96 : decode c_BM_both 96 = .ok (.ldiv, 1) := by decide +kernel
theorem d_BM_both_97 : decode c_BM_both 97 = .ok (.lreturn, 1) := by decide +kernel
theorem d_BM_both_98 : decode c_BM_both 98 = .ok (.lload_n 3, 1) := by decide +kernel
theorem d_BM_both_99 : decode c_BM_both 99 = .ok (.lconst 0, 1) := by decide +kernel
theorem d_BM_both_100 : decode c_BM_both 100 = .ok (.lcmp, 1) := by decide +kernel
theorem d_BM_both_101 : decode c_BM_both 101 = .ok (.ifCond .ne 7, 3) := by decide +kernel
theorem d_BM_both_104 : decode c_BM_both 104 = .ok (.lconst 0, 1) := by decide +kernel
theorem d_BM_both_105 : decode c_BM_both 105 = .ok (.goto 6, 3) := by decide +kernel
theorem d_BM_both_108 : decode c_BM_both 108 = .ok (.lload_n 1, 1) := by decide +kernel
theorem d_BM_both_109 : decode c_BM_both 109 = .ok (.lload_n 3, 1) := by decide +kernel
theorem d_BM_both_110 : decode c_BM_both 110 = .ok (.lrem, 1) := by decide +kernel
theorem d_BM_both_111 : decode c_BM_both 111 = .ok (.lreturn, 1) := by decide +kernel
theorem d_BM_both_112 : decode c_BM_both 112 = .ok (.lload_n 1, 1) := by decide +kernel
theorem d_BM_both_113 : decode c_BM_both 113 = .ok (.lload_n 3, 1) := by decide +kernel
theorem d_BM_both_114 : decode c_BM_both 114 = .ok (.lcmp, 1) := by decide +kernel
theorem d_BM_both_115 : decode c_BM_both 115 = .ok (.ifCond .ge 7, 3) := by decide +kernel
theorem d_BM_both_118 : decode c_BM_both 118 = .ok (.iconst 1, 1) := by decide +kernel
theorem d_BM_both_119 : decode c_BM_both 119 = .ok (.goto 4, 3) := by decide +kernel
theorem d_BM_both_122 : decode c_BM_both 122 = .ok (.iconst 0, 1) := by decide +kernel
theorem d_BM_both_123 : decode c_BM_both 123 = .ok (.invokestatic 355, 3) := by decide +kernel
theorem d_BM_both_126 : decode c_BM_both 126 = .ok (.lreturn, 1) := by decide +kernel
theorem d_BM_both_127 : decode c_BM_both 127 = .ok (.lload_n 1, 1) := by decide +kernel
theorem d_BM_both_128 : decode c_BM_both 128 = .ok (.lload_n 3, 1) := by decide +kernel
theorem d_BM_both_129 : decode c_BM_both 129 = .ok (.lcmp, 1) := by decide +kernel
theorem d_BM_both_130 : decode c_BM_both 130 = .ok (.ifCond .gt 7, 3) := by decide +kernel
theorem d_BM_both_133 : decode c_BM_both 133 = .ok (.iconst 1, 1) := by decide +kernel
theorem d_BM_both_134 : decode c_BM_both 134 = .ok (.goto 4, 3) := by decide +kernel
theorem d_BM_both_137 : decode c_BM_both 137 = .ok (.iconst 0, 1) := by decide +kernel
theorem d_BM_both_138 : decode c_BM_both 138 = .ok (.invokestatic 355, 3) := by decide +kernel
theorem d_BM_both_141 : decode c_BM_both 141 = .ok (.lreturn, 1) := by decide +kernel
theorem d_BM_both_142 : decode c_BM_both 142 = .ok (.lload_n 1, 1) := by decide +kernel
theorem d_BM_both_143 : decode c_BM_both 143 = .ok (.lload_n 3, 1) := by decide +kernel
theorem d_BM_both_144 : decode c_BM_both 144 = .ok (.lcmp, 1) := by decide +kernel
theorem d_BM_both_145 : decode c_BM_both 145 = .ok (.ifCond .ne 7, 3) := by decide +kernel
theorem d_BM_both_148 : decode c_BM_both 148 = .ok (.iconst 1, 1) := by decide +kernel
theorem d_BM_both_149 : decode c_BM_both 149 = .ok (.goto 4, 3) := by decide +kernel
theorem d_BM_both_152 : decode c_BM_both 152 = .ok (.iconst 0, 1) := by decide +kernel
theorem d_BM_both_153 : decode c_BM_both 153 = .ok (.invokestatic 355, 3) := by decide +kernel
theorem d_BM_both_156 : decode c_BM_both 156 = .ok (.lreturn, 1) := by decide +kernel
theorem d_BM_both_157 : decode c_BM_both 157 = .ok (.lload_n 1, 1) := by decide +kernel
theorem d_BM_both_158 : decode c_BM_both 158 = .ok (.lload_n 3, 1) := by decide +kernel
theorem d_BM_both_159 : decode c_BM_both 159 = .ok (.lcmp, 1) := by decide +kernel
theorem d_BM_both_160 : decode c_BM_both 160 = .ok (.ifCond .lt 7, 3) := by decide +kernel
theorem d_BM_both_163 : decode c_BM_both 163 = .ok (.iconst 1, 1) := by decide +kernel
theorem d_BM_both_164 : decode c_BM_both 164 = .ok (.goto 4, 3) := by decide +kernel
theorem d_BM_both_167 : decode c_BM_both 167 = .ok (.iconst 0, 1) := by decide +kernel
theorem d_BM_both_168 : decode c_BM_both 168 = .ok (.invokestatic 355, 3) := by decide +kernel
theorem d_BM_both_171 : decode c_BM_both 171 = .ok (.lreturn, 1) := by decide +kernel
theorem d_BM_both_172 : decode c_BM_both 172 = .ok (.lload_n 1, 1) := by decide +kernel
theorem d_BM_both_173 : decode c_BM_both 173 = .ok (.lload_n 3, 1) := by decide +kernel
theorem d_BM_both_174 : decode c_BM_both 174 = .ok (.lcmp, 1) := by decide +kernel
theorem d_BM_both_175 : decode c_BM_both 175 = .ok (.ifCond .le 7, 3) := by decide +kernel
theorem d_BM_both_178 : decode c_BM_both 178 = .ok (.iconst 1, 1) := by decide +kernel
theorem d_BM_both_179 : decode c_BM_both 179 = .ok (.goto 4, 3) := by decide +kernel
theorem d_BM_both_182 : decode c_BM_both 182 = .ok (.iconst 0, 1) := by decide +kernel
theorem d_BM_both_183 : decode c_BM_both 183 = .ok (.invokestatic 355, 3) := by decide +kernel
theorem d_BM_both_186 : decode c_BM_both 186 = .ok (.lreturn, 1) := by decide +kernel
theorem d_BM_both_187 : decode c_BM_both 187 = .ok (.lload_n 1, 1) := by decide +kernel
theorem d_BM_both_188 : decode c_BM_both 188 = .ok (.lload_n 3, 1) := by decide +kernel
theorem d_BM_both_189 : decode c_BM_both 189 = .ok (.land, 1) := by decide +kernel
theorem d_BM_both_190 : decode c_BM_both 190 = .ok (.lreturn, 1) := by decide +kernel
theorem d_BM_both_191 : decode c_BM_both 191 = .ok (.lload_n 1, 1) := by decide +kernel
theorem d_BM_both_192 : decode c_BM_both 192 = .ok (.lload_n 3, 1) := by decide +kernel
theorem d_BM_both_193 : decode c_BM_both 193 = .ok (.lor, 1) := by decide +kernel
theorem d_BM_both_194 : decode c_BM_both 194 = .ok (.lreturn, 1) := by decide +kernel
def S_BM_both_0 (g : Gx) (Q : Int64 → St → Prop) (σ : St) (x0 : Int32) (y1 : Int64) (y3 : Int64) : Prop := Ax g m_BM_both 0 0 (ZJ g Q) SH σ 0 0 0 [(0, .int x0), (1, .long y1), (3, .long y3)] []
theorem sg_BM_both_0 {g : Gx} {Q : Int64 → St → Prop} {σ : St} {x0 : Int32} {y1 : Int64} {y3 : Int64}
    (h : ((x0 = (2 : Int32) → Q (y1 + y3) σ) ∧ (x0 = (3 : Int32) → Q (y1 - y3) σ) ∧ (x0 = (4 : Int32) → (0 ≤ (lg_cmp y1 y3) → K_BM_truth g (0 : Int32) σ (fun (r2 : Int64) (s1 : St) => Q r2 s1)) ∧ (¬ 0 ≤ (lg_cmp y1 y3) → K_BM_truth g (1 : Int32) σ (fun (r4 : Int64) (s3 : St) => Q r4 s3))) ∧ (x0 = (5 : Int32) → (0 < (lg_cmp y1 y3) → K_BM_truth g (0 : Int32) σ (fun (r6 : Int64) (s5 : St) => Q r6 s5)) ∧ (¬ 0 < (lg_cmp y1 y3) → K_BM_truth g (1 : Int32) σ (fun (r8 : Int64) (s7 : St) => Q r8 s7))) ∧ (x0 = (6 : Int32) → (¬ (lg_cmp y1 y3) = 0 → K_BM_truth g (0 : Int32) σ (fun (r10 : Int64) (s9 : St) => Q r10 s9)) ∧ ((lg_cmp y1 y3) = 0 → K_BM_truth g (1 : Int32) σ (fun (r12 : Int64) (s11 : St) => Q r12 s11))) ∧ (x0 = (7 : Int32) → ((lg_cmp y1 y3) < 0 → K_BM_truth g (0 : Int32) σ (fun (r14 : Int64) (s13 : St) => Q r14 s13)) ∧ (¬ (lg_cmp y1 y3) < 0 → K_BM_truth g (1 : Int32) σ (fun (r16 : Int64) (s15 : St) => Q r16 s15))) ∧ (x0 = (8 : Int32) → ((lg_cmp y1 y3) ≤ 0 → K_BM_truth g (0 : Int32) σ (fun (r18 : Int64) (s17 : St) => Q r18 s17)) ∧ (¬ (lg_cmp y1 y3) ≤ 0 → K_BM_truth g (1 : Int32) σ (fun (r20 : Int64) (s19 : St) => Q r20 s19))) ∧ (x0 = (9 : Int32) → Q (y1 ||| y3) σ) ∧ (x0 = (10 : Int32) → Q (y1 &&& y3) σ) ∧ (x0 = (11 : Int32) → Q (y1 ||| y3) σ) ∧ (x0 = (12 : Int32) → Q (y1 ||| y3) σ) ∧ (x0 = (13 : Int32) → Q (y1 * y3) σ) ∧ (x0 = (14 : Int32) → (¬ (lg_cmp y3 (0 : Int64)) = 0 → ¬ y3 = 0 ∧ (Q (y1 / y3) σ)) ∧ ((lg_cmp y3 (0 : Int64)) = 0 → Q (0 : Int64) σ)) ∧ (x0 = (15 : Int32) → (¬ (lg_cmp y3 (0 : Int64)) = 0 → ¬ y3 = 0 ∧ (Q (y1 - y1 / y3 * y3) σ)) ∧ ((lg_cmp y3 (0 : Int64)) = 0 → Q (0 : Int64) σ)) ∧ (¬ x0 = (2 : Int32) → ¬ x0 = (3 : Int32) → ¬ x0 = (4 : Int32) → ¬ x0 = (5 : Int32) → ¬ x0 = (6 : Int32) → ¬ x0 = (7 : Int32) → ¬ x0 = (8 : Int32) → ¬ x0 = (9 : Int32) → ¬ x0 = (10 : Int32) → ¬ x0 = (11 : Int32) → ¬ x0 = (12 : Int32) → ¬ x0 = (13 : Int32) → ¬ x0 = (14 : Int32) → ¬ x0 = (15 : Int32) → Q (y1 ||| y3) σ))) : S_BM_both_0 g Q σ x0 y1 y3 := by
  show Ax g m_BM_both 0 0 (ZJ g Q) SH σ 0 0 0 [(0, .int x0), (1, .long y1), (3, .long y3)] []
  refine a_iload_n (pc := 0) 0 rfl rfl d_BM_both_0 ?_
  by_cases c0 : x0 = (2 : Int32)
  · replace h := h.1 c0
    refine a_tableIn (pc := 1) 72 (off := 71) (by rw [c0]; decide) (by rw [c0]; decide) (by rw [c0]; rfl) (by decide) d_BM_both_1 ?_
    refine a_lload_n (pc := 72) 1 rfl rfl d_BM_both_72 ?_
    refine a_lload_n (pc := 73) 2 rfl rfl d_BM_both_73 ?_
    refine a_ladd (pc := 74) d_BM_both_74 ?_
    exact b_lret (pc := 75) rfl d_BM_both_75 h
  replace h := h.2
  by_cases c1 : x0 = (3 : Int32)
  · replace h := h.1 c1
    refine a_tableIn (pc := 1) 76 (off := 75) (by rw [c1]; decide) (by rw [c1]; decide) (by rw [c1]; rfl) (by decide) d_BM_both_1 ?_
    refine a_lload_n (pc := 76) 1 rfl rfl d_BM_both_76 ?_
    refine a_lload_n (pc := 77) 2 rfl rfl d_BM_both_77 ?_
    refine a_lsub (pc := 78) d_BM_both_78 ?_
    exact b_lret (pc := 79) rfl d_BM_both_79 h
  replace h := h.2
  by_cases c2 : x0 = (4 : Int32)
  · replace h := h.1 c2
    refine a_tableIn (pc := 1) 112 (off := 111) (by rw [c2]; decide) (by rw [c2]; decide) (by rw [c2]; rfl) (by decide) d_BM_both_1 ?_
    refine a_lload_n (pc := 112) 1 rfl rfl d_BM_both_112 ?_
    refine a_lload_n (pc := 113) 2 rfl rfl d_BM_both_113 ?_
    refine a_lcmp (pc := 114) d_BM_both_114 ?_
    refine a_if_ge (pc := 115) 122 (by decide) d_BM_both_115 ⟨fun c0 => ?_, fun c0 => ?_⟩
    · replace h := h.1 c0
      refine a_iconst (pc := 122) (0 : Int32) (by decide) d_BM_both_122 ?_
      refine a_callS (pc := 123) (M' := m_BM_truth) (As := [.int (0 : Int32)]) (st := []) (mc' := 0) (ms' := 0) lk_BM_355 rfl (by decide) (by decide) rfl (Nat.le_of_ble_eq_true rfl) (Nat.le_refl 0) (Nat.le_refl 0) d_BM_both_123 h ?_
      rintro _ _ s1 ⟨r2, rfl, rfl, h⟩ -
      show Ax g m_BM_both 0 0 (ZJ g Q) SH s1 0 0 126 [(0, .int x0), (1, .long y1), (3, .long y3)] [.long r2]
      exact b_lret (pc := 126) rfl d_BM_both_126 h
    · replace h := h.2 c0
      refine a_iconst (pc := 118) (1 : Int32) (by decide) d_BM_both_118 ?_
      refine a_goto (pc := 119) 123 (by decide) d_BM_both_119 ?_
      refine a_callS (pc := 123) (M' := m_BM_truth) (As := [.int (1 : Int32)]) (st := []) (mc' := 0) (ms' := 0) lk_BM_355 rfl (by decide) (by decide) rfl (Nat.le_of_ble_eq_true rfl) (Nat.le_refl 0) (Nat.le_refl 0) d_BM_both_123 h ?_
      rintro _ _ s3 ⟨r4, rfl, rfl, h⟩ -
      show Ax g m_BM_both 0 0 (ZJ g Q) SH s3 0 0 126 [(0, .int x0), (1, .long y1), (3, .long y3)] [.long r4]
      exact b_lret (pc := 126) rfl d_BM_both_126 h
  replace h := h.2
  by_cases c3 : x0 = (5 : Int32)
  · replace h := h.1 c3
    refine a_tableIn (pc := 1) 127 (off := 126) (by rw [c3]; decide) (by rw [c3]; decide) (by rw [c3]; rfl) (by decide) d_BM_both_1 ?_
    refine a_lload_n (pc := 127) 1 rfl rfl d_BM_both_127 ?_
    refine a_lload_n (pc := 128) 2 rfl rfl d_BM_both_128 ?_
    refine a_lcmp (pc := 129) d_BM_both_129 ?_
    refine a_if_gt (pc := 130) 137 (by decide) d_BM_both_130 ⟨fun c0 => ?_, fun c0 => ?_⟩
    · replace h := h.1 c0
      refine a_iconst (pc := 137) (0 : Int32) (by decide) d_BM_both_137 ?_
      refine a_callS (pc := 138) (M' := m_BM_truth) (As := [.int (0 : Int32)]) (st := []) (mc' := 0) (ms' := 0) lk_BM_355 rfl (by decide) (by decide) rfl (Nat.le_of_ble_eq_true rfl) (Nat.le_refl 0) (Nat.le_refl 0) d_BM_both_138 h ?_
      rintro _ _ s5 ⟨r6, rfl, rfl, h⟩ -
      show Ax g m_BM_both 0 0 (ZJ g Q) SH s5 0 0 141 [(0, .int x0), (1, .long y1), (3, .long y3)] [.long r6]
      exact b_lret (pc := 141) rfl d_BM_both_141 h
    · replace h := h.2 c0
      refine a_iconst (pc := 133) (1 : Int32) (by decide) d_BM_both_133 ?_
      refine a_goto (pc := 134) 138 (by decide) d_BM_both_134 ?_
      refine a_callS (pc := 138) (M' := m_BM_truth) (As := [.int (1 : Int32)]) (st := []) (mc' := 0) (ms' := 0) lk_BM_355 rfl (by decide) (by decide) rfl (Nat.le_of_ble_eq_true rfl) (Nat.le_refl 0) (Nat.le_refl 0) d_BM_both_138 h ?_
      rintro _ _ s7 ⟨r8, rfl, rfl, h⟩ -
      show Ax g m_BM_both 0 0 (ZJ g Q) SH s7 0 0 141 [(0, .int x0), (1, .long y1), (3, .long y3)] [.long r8]
      exact b_lret (pc := 141) rfl d_BM_both_141 h
  replace h := h.2
  by_cases c4 : x0 = (6 : Int32)
  · replace h := h.1 c4
    refine a_tableIn (pc := 1) 142 (off := 141) (by rw [c4]; decide) (by rw [c4]; decide) (by rw [c4]; rfl) (by decide) d_BM_both_1 ?_
    refine a_lload_n (pc := 142) 1 rfl rfl d_BM_both_142 ?_
    refine a_lload_n (pc := 143) 2 rfl rfl d_BM_both_143 ?_
    refine a_lcmp (pc := 144) d_BM_both_144 ?_
    refine a_if_ne (pc := 145) 152 (by decide) d_BM_both_145 ⟨fun c0 => ?_, fun c0 => ?_⟩
    · replace h := h.1 c0
      refine a_iconst (pc := 152) (0 : Int32) (by decide) d_BM_both_152 ?_
      refine a_callS (pc := 153) (M' := m_BM_truth) (As := [.int (0 : Int32)]) (st := []) (mc' := 0) (ms' := 0) lk_BM_355 rfl (by decide) (by decide) rfl (Nat.le_of_ble_eq_true rfl) (Nat.le_refl 0) (Nat.le_refl 0) d_BM_both_153 h ?_
      rintro _ _ s9 ⟨r10, rfl, rfl, h⟩ -
      show Ax g m_BM_both 0 0 (ZJ g Q) SH s9 0 0 156 [(0, .int x0), (1, .long y1), (3, .long y3)] [.long r10]
      exact b_lret (pc := 156) rfl d_BM_both_156 h
    · replace h := h.2 c0
      refine a_iconst (pc := 148) (1 : Int32) (by decide) d_BM_both_148 ?_
      refine a_goto (pc := 149) 153 (by decide) d_BM_both_149 ?_
      refine a_callS (pc := 153) (M' := m_BM_truth) (As := [.int (1 : Int32)]) (st := []) (mc' := 0) (ms' := 0) lk_BM_355 rfl (by decide) (by decide) rfl (Nat.le_of_ble_eq_true rfl) (Nat.le_refl 0) (Nat.le_refl 0) d_BM_both_153 h ?_
      rintro _ _ s11 ⟨r12, rfl, rfl, h⟩ -
      show Ax g m_BM_both 0 0 (ZJ g Q) SH s11 0 0 156 [(0, .int x0), (1, .long y1), (3, .long y3)] [.long r12]
      exact b_lret (pc := 156) rfl d_BM_both_156 h
  replace h := h.2
  by_cases c5 : x0 = (7 : Int32)
  · replace h := h.1 c5
    refine a_tableIn (pc := 1) 157 (off := 156) (by rw [c5]; decide) (by rw [c5]; decide) (by rw [c5]; rfl) (by decide) d_BM_both_1 ?_
    refine a_lload_n (pc := 157) 1 rfl rfl d_BM_both_157 ?_
    refine a_lload_n (pc := 158) 2 rfl rfl d_BM_both_158 ?_
    refine a_lcmp (pc := 159) d_BM_both_159 ?_
    refine a_if_lt (pc := 160) 167 (by decide) d_BM_both_160 ⟨fun c0 => ?_, fun c0 => ?_⟩
    · replace h := h.1 c0
      refine a_iconst (pc := 167) (0 : Int32) (by decide) d_BM_both_167 ?_
      refine a_callS (pc := 168) (M' := m_BM_truth) (As := [.int (0 : Int32)]) (st := []) (mc' := 0) (ms' := 0) lk_BM_355 rfl (by decide) (by decide) rfl (Nat.le_of_ble_eq_true rfl) (Nat.le_refl 0) (Nat.le_refl 0) d_BM_both_168 h ?_
      rintro _ _ s13 ⟨r14, rfl, rfl, h⟩ -
      show Ax g m_BM_both 0 0 (ZJ g Q) SH s13 0 0 171 [(0, .int x0), (1, .long y1), (3, .long y3)] [.long r14]
      exact b_lret (pc := 171) rfl d_BM_both_171 h
    · replace h := h.2 c0
      refine a_iconst (pc := 163) (1 : Int32) (by decide) d_BM_both_163 ?_
      refine a_goto (pc := 164) 168 (by decide) d_BM_both_164 ?_
      refine a_callS (pc := 168) (M' := m_BM_truth) (As := [.int (1 : Int32)]) (st := []) (mc' := 0) (ms' := 0) lk_BM_355 rfl (by decide) (by decide) rfl (Nat.le_of_ble_eq_true rfl) (Nat.le_refl 0) (Nat.le_refl 0) d_BM_both_168 h ?_
      rintro _ _ s15 ⟨r16, rfl, rfl, h⟩ -
      show Ax g m_BM_both 0 0 (ZJ g Q) SH s15 0 0 171 [(0, .int x0), (1, .long y1), (3, .long y3)] [.long r16]
      exact b_lret (pc := 171) rfl d_BM_both_171 h
  replace h := h.2
  by_cases c6 : x0 = (8 : Int32)
  · replace h := h.1 c6
    refine a_tableIn (pc := 1) 172 (off := 171) (by rw [c6]; decide) (by rw [c6]; decide) (by rw [c6]; rfl) (by decide) d_BM_both_1 ?_
    refine a_lload_n (pc := 172) 1 rfl rfl d_BM_both_172 ?_
    refine a_lload_n (pc := 173) 2 rfl rfl d_BM_both_173 ?_
    refine a_lcmp (pc := 174) d_BM_both_174 ?_
    refine a_if_le (pc := 175) 182 (by decide) d_BM_both_175 ⟨fun c0 => ?_, fun c0 => ?_⟩
    · replace h := h.1 c0
      refine a_iconst (pc := 182) (0 : Int32) (by decide) d_BM_both_182 ?_
      refine a_callS (pc := 183) (M' := m_BM_truth) (As := [.int (0 : Int32)]) (st := []) (mc' := 0) (ms' := 0) lk_BM_355 rfl (by decide) (by decide) rfl (Nat.le_of_ble_eq_true rfl) (Nat.le_refl 0) (Nat.le_refl 0) d_BM_both_183 h ?_
      rintro _ _ s17 ⟨r18, rfl, rfl, h⟩ -
      show Ax g m_BM_both 0 0 (ZJ g Q) SH s17 0 0 186 [(0, .int x0), (1, .long y1), (3, .long y3)] [.long r18]
      exact b_lret (pc := 186) rfl d_BM_both_186 h
    · replace h := h.2 c0
      refine a_iconst (pc := 178) (1 : Int32) (by decide) d_BM_both_178 ?_
      refine a_goto (pc := 179) 183 (by decide) d_BM_both_179 ?_
      refine a_callS (pc := 183) (M' := m_BM_truth) (As := [.int (1 : Int32)]) (st := []) (mc' := 0) (ms' := 0) lk_BM_355 rfl (by decide) (by decide) rfl (Nat.le_of_ble_eq_true rfl) (Nat.le_refl 0) (Nat.le_refl 0) d_BM_both_183 h ?_
      rintro _ _ s19 ⟨r20, rfl, rfl, h⟩ -
      show Ax g m_BM_both 0 0 (ZJ g Q) SH s19 0 0 186 [(0, .int x0), (1, .long y1), (3, .long y3)] [.long r20]
      exact b_lret (pc := 186) rfl d_BM_both_186 h
  replace h := h.2
  by_cases c7 : x0 = (9 : Int32)
  · replace h := h.1 c7
    refine a_tableIn (pc := 1) 191 (off := 190) (by rw [c7]; decide) (by rw [c7]; decide) (by rw [c7]; rfl) (by decide) d_BM_both_1 ?_
    refine a_lload_n (pc := 191) 1 rfl rfl d_BM_both_191 ?_
    refine a_lload_n (pc := 192) 2 rfl rfl d_BM_both_192 ?_
    refine a_lor (pc := 193) d_BM_both_193 ?_
    exact b_lret (pc := 194) rfl d_BM_both_194 h
  replace h := h.2
  by_cases c8 : x0 = (10 : Int32)
  · replace h := h.1 c8
    refine a_tableIn (pc := 1) 187 (off := 186) (by rw [c8]; decide) (by rw [c8]; decide) (by rw [c8]; rfl) (by decide) d_BM_both_1 ?_
    refine a_lload_n (pc := 187) 1 rfl rfl d_BM_both_187 ?_
    refine a_lload_n (pc := 188) 2 rfl rfl d_BM_both_188 ?_
    refine a_land (pc := 189) d_BM_both_189 ?_
    exact b_lret (pc := 190) rfl d_BM_both_190 h
  replace h := h.2
  by_cases c9 : x0 = (11 : Int32)
  · replace h := h.1 c9
    refine a_tableIn (pc := 1) 191 (off := 190) (by rw [c9]; decide) (by rw [c9]; decide) (by rw [c9]; rfl) (by decide) d_BM_both_1 ?_
    refine a_lload_n (pc := 191) 1 rfl rfl d_BM_both_191 ?_
    refine a_lload_n (pc := 192) 2 rfl rfl d_BM_both_192 ?_
    refine a_lor (pc := 193) d_BM_both_193 ?_
    exact b_lret (pc := 194) rfl d_BM_both_194 h
  replace h := h.2
  by_cases c10 : x0 = (12 : Int32)
  · replace h := h.1 c10
    refine a_tableIn (pc := 1) 191 (off := 190) (by rw [c10]; decide) (by rw [c10]; decide) (by rw [c10]; rfl) (by decide) d_BM_both_1 ?_
    refine a_lload_n (pc := 191) 1 rfl rfl d_BM_both_191 ?_
    refine a_lload_n (pc := 192) 2 rfl rfl d_BM_both_192 ?_
    refine a_lor (pc := 193) d_BM_both_193 ?_
    exact b_lret (pc := 194) rfl d_BM_both_194 h
  replace h := h.2
  by_cases c11 : x0 = (13 : Int32)
  · replace h := h.1 c11
    refine a_tableIn (pc := 1) 80 (off := 79) (by rw [c11]; decide) (by rw [c11]; decide) (by rw [c11]; rfl) (by decide) d_BM_both_1 ?_
    refine a_lload_n (pc := 80) 1 rfl rfl d_BM_both_80 ?_
    refine a_lload_n (pc := 81) 2 rfl rfl d_BM_both_81 ?_
    refine a_lmul (pc := 82) d_BM_both_82 ?_
    exact b_lret (pc := 83) rfl d_BM_both_83 h
  replace h := h.2
  by_cases c12 : x0 = (14 : Int32)
  · replace h := h.1 c12
    refine a_tableIn (pc := 1) 84 (off := 83) (by rw [c12]; decide) (by rw [c12]; decide) (by rw [c12]; rfl) (by decide) d_BM_both_1 ?_
    refine a_lload_n (pc := 84) 2 rfl rfl d_BM_both_84 ?_
    refine a_lconst (pc := 85) (0 : Int64) (by decide) d_BM_both_85 ?_
    refine a_lcmp (pc := 86) d_BM_both_86 ?_
    refine a_if_ne (pc := 87) 94 (by decide) d_BM_both_87 ⟨fun c0 => ?_, fun c0 => ?_⟩
    · replace h := h.1 c0
      refine a_lload_n (pc := 94) 1 rfl rfl d_BM_both_94 ?_
      refine a_lload_n (pc := 95) 2 rfl rfl d_BM_both_95 ?_
      obtain ⟨hne, h⟩ := h
      refine a_ldiv (pc := 96) hne d_BM_both_96 ?_
      exact b_lret (pc := 97) rfl d_BM_both_97 h
    · replace h := h.2 c0
      refine a_lconst (pc := 90) (0 : Int64) (by decide) d_BM_both_90 ?_
      refine a_goto (pc := 91) 97 (by decide) d_BM_both_91 ?_
      exact b_lret (pc := 97) rfl d_BM_both_97 h
  replace h := h.2
  by_cases c13 : x0 = (15 : Int32)
  · replace h := h.1 c13
    refine a_tableIn (pc := 1) 98 (off := 97) (by rw [c13]; decide) (by rw [c13]; decide) (by rw [c13]; rfl) (by decide) d_BM_both_1 ?_
    refine a_lload_n (pc := 98) 2 rfl rfl d_BM_both_98 ?_
    refine a_lconst (pc := 99) (0 : Int64) (by decide) d_BM_both_99 ?_
    refine a_lcmp (pc := 100) d_BM_both_100 ?_
    refine a_if_ne (pc := 101) 108 (by decide) d_BM_both_101 ⟨fun c0 => ?_, fun c0 => ?_⟩
    · replace h := h.1 c0
      refine a_lload_n (pc := 108) 1 rfl rfl d_BM_both_108 ?_
      refine a_lload_n (pc := 109) 2 rfl rfl d_BM_both_109 ?_
      obtain ⟨hne, h⟩ := h
      refine a_lrem (pc := 110) hne d_BM_both_110 ?_
      exact b_lret (pc := 111) rfl d_BM_both_111 h
    · replace h := h.2 c0
      refine a_lconst (pc := 104) (0 : Int64) (by decide) d_BM_both_104 ?_
      refine a_goto (pc := 105) 111 (by decide) d_BM_both_105 ?_
      exact b_lret (pc := 111) rfl d_BM_both_111 h
  replace h := h.2
  replace h := h c0 c1 c2 c3 c4 c5 c6 c7 c8 c9 c10 c11 c12 c13
  have e0 := lv_neT (a := 2) c0 rfl
  have e1 := lv_neT (a := 3) c1 rfl
  have e2 := lv_neT (a := 4) c2 rfl
  have e3 := lv_neT (a := 5) c3 rfl
  have e4 := lv_neT (a := 6) c4 rfl
  have e5 := lv_neT (a := 7) c5 rfl
  have e6 := lv_neT (a := 8) c6 rfl
  have e7 := lv_neT (a := 9) c7 rfl
  have e8 := lv_neT (a := 10) c8 rfl
  have e9 := lv_neT (a := 11) c9 rfl
  have e10 := lv_neT (a := 12) c10 rfl
  have e11 := lv_neT (a := 13) c11 rfl
  have e12 := lv_neT (a := 14) c12 rfl
  have e13 := lv_neT (a := 15) c13 rfl
  refine a_tableOut (pc := 1) 191 (by omega) (by decide) d_BM_both_1 ?_
  refine a_lload_n (pc := 191) 1 rfl rfl d_BM_both_191 ?_
  refine a_lload_n (pc := 192) 2 rfl rfl d_BM_both_192 ?_
  refine a_lor (pc := 193) d_BM_both_193 ?_
  exact b_lret (pc := 194) rfl d_BM_both_194 h
theorem ko_BM_both {g : Gx}  {x0 : Int32} {y1 : Int64} {y3 : Int64} {σ : St} {Q : Int64 → St → Prop} (h : S_BM_both_0 g Q σ x0 y1 y3) : K_BM_both g x0 y1 y3 σ Q := KJ.of (show plainName "BallBoxModel" = true by decide) (Nat.le_of_ble_eq_true rfl) h
theorem d_BM_answer_0 : decode c_BM_answer 0 = .ok (.iconst 0, 1) := by decide +kernel
theorem d_BM_answer_1 : decode c_BM_answer 1 = .ok (.istore 4, 2) := by decide +kernel
theorem d_BM_answer_3 : decode c_BM_answer 3 = .ok (.iload_n 2, 1) := by decide +kernel
theorem d_BM_answer_4 : decode c_BM_answer 4 = .ok (.istore 5, 2) := by decide +kernel
theorem d_BM_answer_6 : decode c_BM_answer 6 = .ok (.iload 5, 2) := by decide +kernel
theorem d_BM_answer_8 : decode c_BM_answer 8 = .ok (.iload_n 3, 1) := by decide +kernel
theorem d_BM_answer_9 : decode c_BM_answer 9 = .ok (.if_icmp .ge 144, 3) := by decide +kernel
theorem d_BM_answer_12 : decode c_BM_answer 12 = .ok (.aload_n 0, 1) := by decide +kernel
theorem d_BM_answer_13 : decode c_BM_answer 13 = .ok (.getfield 48, 3) := by decide +kernel
theorem d_BM_answer_16 : decode c_BM_answer 16 = .ok (.sipush 300, 3) := by decide +kernel
theorem d_BM_answer_19 : decode c_BM_answer 19 = .ok (.iload_n 1, 1) := by decide +kernel
theorem d_BM_answer_20 : decode c_BM_answer 20 = .ok (.imul, 1) := by decide +kernel
theorem d_BM_answer_21 : decode c_BM_answer 21 = .ok (.iload 5, 2) := by decide +kernel
theorem d_BM_answer_23 : decode c_BM_answer 23 = .ok (.iadd, 1) := by decide +kernel
theorem d_BM_answer_24 : decode c_BM_answer 24 = .ok (.iaload, 1) := by decide +kernel
theorem d_BM_answer_25 : decode c_BM_answer 25 = .ok (.istore 6, 2) := by decide +kernel
theorem d_BM_answer_27 : decode c_BM_answer 27 = .ok (.aload_n 0, 1) := by decide +kernel
theorem d_BM_answer_28 : decode c_BM_answer 28 = .ok (.getfield 51, 3) := by decide +kernel
theorem d_BM_answer_31 : decode c_BM_answer 31 = .ok (.sipush 300, 3) := by decide +kernel
theorem d_BM_answer_34 : decode c_BM_answer 34 = .ok (.iload_n 1, 1) := by decide +kernel
theorem d_BM_answer_35 : decode c_BM_answer 35 = .ok (.imul, 1) := by decide +kernel
theorem d_BM_answer_36 : decode c_BM_answer 36 = .ok (.iload 5, 2) := by decide +kernel
theorem d_BM_answer_38 : decode c_BM_answer 38 = .ok (.iadd, 1) := by decide +kernel
theorem d_BM_answer_39 : decode c_BM_answer 39 = .ok (.iaload, 1) := by decide +kernel
theorem d_BM_answer_40 : decode c_BM_answer 40 = .ok (.istore 7, 2) := by decide +kernel
theorem d_BM_answer_42 : decode c_BM_answer 42 = .ok (.iload 6, 2) := by decide +kernel
theorem d_BM_answer_44 : decode c_BM_answer 44 = .ok (.ifCond .eq 9, 3) := by decide +kernel
theorem d_BM_answer_47 : decode c_BM_answer 47 = .ok (.iload 6, 2) := by decide +kernel
theorem d_BM_answer_49 : decode c_BM_answer 49 = .ok (.iconst 1, 1) := by decide +kernel
theorem d_BM_answer_50 : decode c_BM_answer 50 = .ok (.if_icmp .ne 34, 3) := by decide +kernel
theorem d_BM_answer_53 : decode c_BM_answer 53 = .ok (.aload_n 0, 1) := by decide +kernel
theorem d_BM_answer_54 : decode c_BM_answer 54 = .ok (.getfield 73, 3) := by decide +kernel
theorem d_BM_answer_57 : decode c_BM_answer 57 = .ok (.iload 4, 2) := by decide +kernel
theorem d_BM_answer_59 : decode c_BM_answer 59 = .ok (.iload 6, 2) := by decide +kernel
theorem d_BM_answer_61 : decode c_BM_answer 61 = .ok (.ifCond .ne 9, 3) := by decide +kernel
theorem d_BM_answer_64 : decode c_BM_answer 64 = .ok (.iload 7, 2) := by decide +kernel
theorem d_BM_answer_66 : decode c_BM_answer 66 = .ok (.i2l, 1) := by decide +kernel
theorem d_BM_answer_67 : decode c_BM_answer 67 = .ok (.goto 10, 3) := by decide +kernel
theorem d_BM_answer_70 : decode c_BM_answer 70 = .ok (.aload_n 0, 1) := by decide +kernel
theorem d_BM_answer_71 : decode c_BM_answer 71 = .ok (.getfield 69, 3) := by decide +kernel
theorem d_BM_answer_74 : decode c_BM_answer 74 = .ok (.iload 7, 2) := by decide +kernel
theorem d_BM_answer_76 : decode c_BM_answer 76 = .ok (.laload, 1) := by decide +kernel
theorem d_BM_answer_77 : decode c_BM_answer 77 = .ok (.lastore, 1) := by decide +kernel
theorem d_BM_answer_78 : decode c_BM_answer 78 = .ok (.iinc 4 1, 3) := by decide +kernel
theorem d_BM_answer_81 : decode c_BM_answer 81 = .ok (.goto 66, 3) := by decide +kernel
theorem d_BM_answer_84 : decode c_BM_answer 84 = .ok (.iload 6, 2) := by decide +kernel
theorem d_BM_answer_86 : decode c_BM_answer 86 = .ok (.bipush 9, 2) := by decide +kernel
theorem d_BM_answer_88 : decode c_BM_answer 88 = .ok (.if_icmp .ne 26, 3) := by decide +kernel
theorem d_BM_answer_91 : decode c_BM_answer 91 = .ok (.aload_n 0, 1) := by decide +kernel
theorem d_BM_answer_92 : decode c_BM_answer 92 = .ok (.getfield 73, 3) := by decide +kernel
theorem d_BM_answer_95 : decode c_BM_answer 95 = .ok (.iload 4, 2) := by decide +kernel
theorem d_BM_answer_97 : decode c_BM_answer 97 = .ok (.iconst 1, 1) := by decide +kernel
theorem d_BM_answer_98 : decode c_BM_answer 98 = .ok (.isub, 1) := by decide +kernel
theorem d_BM_answer_99 : decode c_BM_answer 99 = .ok (.lconst 1, 1) := by decide +kernel
theorem d_BM_answer_100 : decode c_BM_answer 100 = .ok (.aload_n 0, 1) := by decide +kernel
theorem d_BM_answer_101 : decode c_BM_answer 101 = .ok (.getfield 73, 3) := by decide +kernel
theorem d_BM_answer_104 : decode c_BM_answer 104 = .ok (.iload 4, 2) := by decide +kernel
theorem d_BM_answer_106 : decode c_BM_answer 106 = .ok (.iconst 1, 1) := by decide +kernel
theorem d_BM_answer_107 : decode c_BM_answer 107 = .ok (.isub, 1) := by decide +kernel
theorem d_BM_answer_108 : decode c_BM_answer 108 = .ok (.laload, 1) := by decide +kernel
theorem d_BM_answer_109 : decode c_BM_answer 109 = .ok (.lsub, 1) := by decide +kernel
theorem d_BM_answer_110 : decode c_BM_answer 110 = .ok (.lastore, 1) := by decide +kernel
theorem d_BM_answer_111 : decode c_BM_answer 111 = .ok (.goto 36, 3) := by decide +kernel
theorem d_BM_answer_114 : decode c_BM_answer 114 = .ok (.iinc 4 (-1), 3) := by decide +kernel
theorem d_BM_answer_117 : decode c_BM_answer 117 = .ok (.aload_n 0, 1) := by decide +kernel
theorem d_BM_answer_118 : decode c_BM_answer 118 = .ok (.getfield 73, 3) := by decide +kernel
theorem d_BM_answer_121 : decode c_BM_answer 121 = .ok (.iload 4, 2) := by decide +kernel
theorem d_BM_answer_123 : decode c_BM_answer 123 = .ok (.iconst 1, 1) := by decide +kernel
theorem d_BM_answer_124 : decode c_BM_answer 124 = .ok (.isub, 1) := by decide +kernel
theorem d_BM_answer_125 : decode c_BM_answer 125 = .ok (.iload 6, 2) := by decide +kernel
theorem d_BM_answer_127 : decode c_BM_answer 127 = .ok (.aload_n 0, 1) := by decide +kernel
theorem d_BM_answer_128 : decode c_BM_answer 128 = .ok (.getfield 73, 3) := by decide +kernel
theorem d_BM_answer_131 : decode c_BM_answer 131 = .ok (.iload 4, 2) := by decide +kernel
theorem d_BM_answer_133 : decode c_BM_answer 133 = .ok (.iconst 1, 1) := by decide +kernel
theorem d_BM_answer_134 : decode c_BM_answer 134 = .ok (.isub, 1) := by decide +kernel
theorem d_BM_answer_135 : decode c_BM_answer 135 = .ok (.laload, 1) := by decide +kernel
theorem d_BM_answer_136 : decode c_BM_answer 136 = .ok (.aload_n 0, 1) := by decide +kernel
theorem d_BM_answer_137 : decode c_BM_answer 137 = .ok (.getfield 73, 3) := by decide +kernel
theorem d_BM_answer_140 : decode c_BM_answer 140 = .ok (.iload 4, 2) := by decide +kernel
theorem d_BM_answer_142 : decode c_BM_answer 142 = .ok (.laload, 1) := by decide +kernel
theorem d_BM_answer_143 : decode c_BM_answer 143 = .ok (.invokestatic 359, 3) := by decide +kernel
theorem d_BM_answer_146 : decode c_BM_answer 146 = .ok (.lastore, 1) := by decide +kernel
theorem d_BM_answer_147 : decode c_BM_answer 147 = .ok (.iinc 5 1, 3) := by decide +kernel
theorem d_BM_answer_150 : decode c_BM_answer 150 = .ok (.goto (-144), 3) := by decide +kernel
theorem d_BM_answer_153 : decode c_BM_answer 153 = .ok (.aload_n 0, 1) := by decide +kernel
theorem d_BM_answer_154 : decode c_BM_answer 154 = .ok (.getfield 73, 3) := by decide +kernel
theorem d_BM_answer_157 : decode c_BM_answer 157 = .ok (.iconst 0, 1) := by decide +kernel
theorem d_BM_answer_158 : decode c_BM_answer 158 = .ok (.laload, 1) := by decide +kernel
theorem d_BM_answer_159 : decode c_BM_answer 159 = .ok (.lreturn, 1) := by decide +kernel
def S_BM_answer_0 (g : Gx) (Q : Int64 → St → Prop) (σ : St) (x1 : Int32) (x2 : Int32) (x3 : Int32) : Prop := Ax g m_BM_answer 0 0 (ZJ g Q) SH σ 0 0 0 [(0, .ref (gB g + 151)), (1, .int x1), (2, .int x2), (3, .int x3)] []
def S_BM_answer_6 (g : Gx) (Q : Int64 → St → Prop) (σ : St) (x1 : Int32) (x3 : Int32) (x4 : Int32) (x5 : Int32) : Prop := Ax g m_BM_answer 0 0 (ZJ g Q) SH σ 0 0 6 [(0, .ref (gB g + 151)), (1, .int x1), (3, .int x3), (4, .int x4), (5, .int x5)] []
def S_BM_answer_53 (g : Gx) (Q : Int64 → St → Prop) (σ : St) (x1 : Int32) (x3 : Int32) (x4 : Int32) (x5 : Int32) (x6 : Int32) (x7 : Int32) : Prop := Ax g m_BM_answer 0 0 (ZJ g Q) SH σ 0 0 53 [(0, .ref (gB g + 151)), (1, .int x1), (3, .int x3), (4, .int x4), (5, .int x5), (6, .int x6), (7, .int x7)] []
theorem sg_BM_answer_0 {g : Gx} {Q : Int64 → St → Prop} {σ : St} {x1 : Int32} {x2 : Int32} {x3 : Int32}
    (h : S_BM_answer_6 g Q σ x1 x3 (0 : Int32) x2) : S_BM_answer_0 g Q σ x1 x2 x3 := by
  show Ax g m_BM_answer 0 0 (ZJ g Q) SH σ 0 0 0 [(0, .ref (gB g + 151)), (1, .int x1), (2, .int x2), (3, .int x3)] []
  refine a_iconst (pc := 0) (0 : Int32) (by decide) d_BM_answer_0 ?_
  refine a_istore (pc := 1) (lv' := [(4, .int (0 : Int32)), (0, .ref (gB g + 151)), (1, .int x1), (2, .int x2), (3, .int x3)]) (Nat.le_of_ble_eq_true rfl) rfl d_BM_answer_1 ?_
  refine a_iload_n (pc := 3) 3 rfl rfl d_BM_answer_3 ?_
  refine a_istore (pc := 4) (lv' := [(5, .int x2), (4, .int (0 : Int32)), (0, .ref (gB g + 151)), (1, .int x1), (2, .int x2), (3, .int x3)]) (Nat.le_of_ble_eq_true rfl) rfl d_BM_answer_4 ?_
  refine a_sub (pc := 6) [2, 3, 5, 1, 0] rfl ?_
  exact h
theorem sg_BM_answer_6 {g : Gx} {Q : Int64 → St → Prop} {σ : St} {x1 : Int32} {x3 : Int32} {x4 : Int32} {x5 : Int32}
    (h : (x3 ≤ x5 → vp_in (0 : Int32) 300 ∧ (Q (aj σ 171 ((0 : Int32)).toNatClampNeg) σ)) ∧ (¬ x3 ≤ x5 → vp_in (((300 : Int32) * x1) + x5) 1800 ∧ (∀ u1 : Int32, u1 = (ai σ 163 ((((300 : Int32) * x1) + x5)).toNatClampNeg) → vp_in (((300 : Int32) * x1) + x5) 1800 ∧ (∀ u2 : Int32, u2 = (ai σ 164 ((((300 : Int32) * x1) + x5)).toNatClampNeg) → (u1 = 0 → S_BM_answer_53 g Q σ x1 x3 x4 x5 u1 u2) ∧ (¬ u1 = 0 → (¬ u1 = (1 : Int32) → (¬ u1 = (9 : Int32) → ∀ u3 : Int32, u3 = x4 + (-1 : Int32) → vp_in (u3 - (1 : Int32)) 300 ∧ (vp_in u3 300 ∧ (K_BM_both g u1 (aj σ 171 ((u3 - (1 : Int32))).toNatClampNeg) (aj σ 171 (u3).toNatClampNeg) σ (fun (r5 : Int64) (s4 : St) => vp_in (u3 - (1 : Int32)) 300 ∧ (∀ s6 : St, s6 = saj s4 171 ((u3 - (1 : Int32))).toNatClampNeg r5 → ∀ u7 : Int32, u7 = x5 + (1 : Int32) → S_BM_answer_6 g Q s6 x1 x3 u3 u7))))) ∧ (u1 = (9 : Int32) → vp_in (x4 - (1 : Int32)) 300 ∧ (vp_in (x4 - (1 : Int32)) 300 ∧ (∀ s8 : St, s8 = saj σ 171 ((x4 - (1 : Int32))).toNatClampNeg ((1 : Int64) - (aj σ 171 ((x4 - (1 : Int32))).toNatClampNeg)) → ∀ u9 : Int32, u9 = x5 + (1 : Int32) → S_BM_answer_6 g Q s8 x1 x3 x4 u9)))) ∧ (u1 = (1 : Int32) → S_BM_answer_53 g Q σ x1 x3 x4 x5 u1 u2)))))) : S_BM_answer_6 g Q σ x1 x3 x4 x5 := by
  show Ax g m_BM_answer 0 0 (ZJ g Q) SH σ 0 0 6 [(0, .ref (gB g + 151)), (1, .int x1), (3, .int x3), (4, .int x4), (5, .int x5)] []
  refine a_iload (pc := 6) 4 rfl d_BM_answer_6 ?_
  refine a_iload_n (pc := 8) 2 rfl rfl d_BM_answer_8 ?_
  refine a_icmp_ge (pc := 9) 153 (by decide) d_BM_answer_9 ⟨fun c0 => ?_, fun c0 => ?_⟩
  · replace h := h.1 c0
    refine a_aload_n (pc := 153) 0 rfl rfl d_BM_answer_153 ?_
    refine a_getR (pc := 154) fg_BM_73 sx_151 rfl d_BM_answer_154 ?_
    refine a_iconst (pc := 157) (0 : Int32) (by decide) d_BM_answer_157 ?_
    obtain ⟨hx, h⟩ := h
    refine a_lald (pc := 158) sx_171 hx d_BM_answer_158 ?_
    exact b_lret (pc := 159) rfl d_BM_answer_159 h
  · replace h := h.2 c0
    refine a_aload_n (pc := 12) 0 rfl rfl d_BM_answer_12 ?_
    refine a_getR (pc := 13) fg_BM_48 sx_151 rfl d_BM_answer_13 ?_
    refine a_sipush (pc := 16) (300 : Int32) (by decide) d_BM_answer_16 ?_
    refine a_iload_n (pc := 19) 1 rfl rfl d_BM_answer_19 ?_
    refine a_imul (pc := 20) d_BM_answer_20 ?_
    refine a_iload (pc := 21) 4 rfl d_BM_answer_21 ?_
    refine a_iadd (pc := 23) d_BM_answer_23 ?_
    obtain ⟨hx, h⟩ := h
    refine a_iald (pc := 24) sx_163 hx d_BM_answer_24 ?_
    refine a_nmi (pc := 25) (fun u1 hu1 => ?_)
    replace h := h u1 hu1
    refine a_istore (pc := 25) (lv' := [(6, .int u1), (0, .ref (gB g + 151)), (1, .int x1), (3, .int x3), (4, .int x4), (5, .int x5)]) (Nat.le_of_ble_eq_true rfl) rfl d_BM_answer_25 ?_
    refine a_aload_n (pc := 27) 1 rfl rfl d_BM_answer_27 ?_
    refine a_getR (pc := 28) fg_BM_51 sx_151 rfl d_BM_answer_28 ?_
    refine a_sipush (pc := 31) (300 : Int32) (by decide) d_BM_answer_31 ?_
    refine a_iload_n (pc := 34) 2 rfl rfl d_BM_answer_34 ?_
    refine a_imul (pc := 35) d_BM_answer_35 ?_
    refine a_iload (pc := 36) 5 rfl d_BM_answer_36 ?_
    refine a_iadd (pc := 38) d_BM_answer_38 ?_
    obtain ⟨hx, h⟩ := h
    refine a_iald (pc := 39) sx_164 hx d_BM_answer_39 ?_
    refine a_nmi (pc := 40) (fun u2 hu2 => ?_)
    replace h := h u2 hu2
    refine a_istore (pc := 40) (lv' := [(7, .int u2), (6, .int u1), (0, .ref (gB g + 151)), (1, .int x1), (3, .int x3), (4, .int x4), (5, .int x5)]) (Nat.le_of_ble_eq_true rfl) rfl d_BM_answer_40 ?_
    refine a_iload (pc := 42) 1 rfl d_BM_answer_42 ?_
    refine a_if_eq (pc := 44) 53 (by decide) d_BM_answer_44 ⟨fun c0 => ?_, fun c0 => ?_⟩
    · replace h := h.1 c0
      refine a_sub (pc := 53) [2, 3, 4, 5, 6, 1, 0] rfl ?_
      exact h
    · replace h := h.2 c0
      refine a_iload (pc := 47) 1 rfl d_BM_answer_47 ?_
      refine a_iconst (pc := 49) (1 : Int32) (by decide) d_BM_answer_49 ?_
      refine a_icmp_ne (pc := 50) 84 (by decide) d_BM_answer_50 ⟨fun c0 => ?_, fun c0 => ?_⟩
      · replace h := h.1 c0
        refine a_iload (pc := 84) 1 rfl d_BM_answer_84 ?_
        refine a_bipush (pc := 86) (9 : Int32) (by decide) d_BM_answer_86 ?_
        refine a_icmp_ne (pc := 88) 114 (by decide) d_BM_answer_88 ⟨fun c0 => ?_, fun c0 => ?_⟩
        · replace h := h.1 c0
          obtain ⟨u3, hu3⟩ : ∃ y : Int32, y = x4 + (-1 : Int32) := ⟨_, rfl⟩
          replace h := h u3 hu3
          refine a_iinc (pc := 114) (v := u3) (lv' := [(4, .int u3), (7, .int u2), (6, .int u1), (0, .ref (gB g + 151)), (1, .int x1), (3, .int x3), (5, .int x5)]) 5 rfl (by rw [hu3]; rfl) (Nat.le_of_ble_eq_true rfl) rfl d_BM_answer_114 ?_
          refine a_aload_n (pc := 117) 3 rfl rfl d_BM_answer_117 ?_
          refine a_getR (pc := 118) fg_BM_73 sx_151 rfl d_BM_answer_118 ?_
          refine a_iload (pc := 121) 0 rfl d_BM_answer_121 ?_
          refine a_iconst (pc := 123) (1 : Int32) (by decide) d_BM_answer_123 ?_
          refine a_isub (pc := 124) d_BM_answer_124 ?_
          refine a_iload (pc := 125) 2 rfl d_BM_answer_125 ?_
          refine a_aload_n (pc := 127) 3 rfl rfl d_BM_answer_127 ?_
          refine a_getR (pc := 128) fg_BM_73 sx_151 rfl d_BM_answer_128 ?_
          refine a_iload (pc := 131) 0 rfl d_BM_answer_131 ?_
          refine a_iconst (pc := 133) (1 : Int32) (by decide) d_BM_answer_133 ?_
          refine a_isub (pc := 134) d_BM_answer_134 ?_
          obtain ⟨hx, h⟩ := h
          refine a_lald (pc := 135) sx_171 hx d_BM_answer_135 ?_
          refine a_aload_n (pc := 136) 3 rfl rfl d_BM_answer_136 ?_
          refine a_getR (pc := 137) fg_BM_73 sx_151 rfl d_BM_answer_137 ?_
          refine a_iload (pc := 140) 0 rfl d_BM_answer_140 ?_
          obtain ⟨hx, h⟩ := h
          refine a_lald (pc := 142) sx_171 hx d_BM_answer_142 ?_
          refine a_callS (pc := 143) (M' := m_BM_both) (As := [.int u1, .long (aj σ 171 ((u3 - (1 : Int32))).toNatClampNeg), .long (aj σ 171 (u3).toNatClampNeg)]) (st := [.int (u3 - (1 : Int32)), .ref (gB g + 171)]) (mc' := 0) (ms' := 0) lk_BM_359 rfl (by decide) (by decide) rfl (Nat.le_of_ble_eq_true rfl) (Nat.le_refl 0) (Nat.le_refl 0) d_BM_answer_143 h ?_
          rintro _ _ s4 ⟨r5, rfl, rfl, h⟩ -
          show Ax g m_BM_answer 0 0 (ZJ g Q) SH s4 0 0 146 [(4, .int u3), (7, .int u2), (6, .int u1), (0, .ref (gB g + 151)), (1, .int x1), (3, .int x3), (5, .int x5)] [.long r5, .int (u3 - (1 : Int32)), .ref (gB g + 171)]
          obtain ⟨hx, h⟩ := h
          refine a_last (pc := 146) sx_171 hx d_BM_answer_146 ?_
          refine a_nms (fun s6 hs6 => ?_)
          replace h := h s6 hs6
          obtain ⟨u7, hu7⟩ : ∃ y : Int32, y = x5 + (1 : Int32) := ⟨_, rfl⟩
          replace h := h u7 hu7
          refine a_iinc (pc := 147) (v := u7) (lv' := [(5, .int u7), (4, .int u3), (7, .int u2), (6, .int u1), (0, .ref (gB g + 151)), (1, .int x1), (3, .int x3)]) 6 rfl (by rw [hu7]; rfl) (Nat.le_of_ble_eq_true rfl) rfl d_BM_answer_147 ?_
          refine a_goto (pc := 150) 6 (by decide) d_BM_answer_150 ?_
          refine a_sub (pc := 6) [4, 5, 6, 1, 0] rfl ?_
          exact h
        · replace h := h.2 c0
          refine a_aload_n (pc := 91) 2 rfl rfl d_BM_answer_91 ?_
          refine a_getR (pc := 92) fg_BM_73 sx_151 rfl d_BM_answer_92 ?_
          refine a_iload (pc := 95) 5 rfl d_BM_answer_95 ?_
          refine a_iconst (pc := 97) (1 : Int32) (by decide) d_BM_answer_97 ?_
          refine a_isub (pc := 98) d_BM_answer_98 ?_
          refine a_lconst (pc := 99) (1 : Int64) (by decide) d_BM_answer_99 ?_
          refine a_aload_n (pc := 100) 2 rfl rfl d_BM_answer_100 ?_
          refine a_getR (pc := 101) fg_BM_73 sx_151 rfl d_BM_answer_101 ?_
          refine a_iload (pc := 104) 5 rfl d_BM_answer_104 ?_
          refine a_iconst (pc := 106) (1 : Int32) (by decide) d_BM_answer_106 ?_
          refine a_isub (pc := 107) d_BM_answer_107 ?_
          obtain ⟨hx, h⟩ := h
          refine a_lald (pc := 108) sx_171 hx d_BM_answer_108 ?_
          refine a_lsub (pc := 109) d_BM_answer_109 ?_
          obtain ⟨hx, h⟩ := h
          refine a_last (pc := 110) sx_171 hx d_BM_answer_110 ?_
          refine a_nms (fun s8 hs8 => ?_)
          replace h := h s8 hs8
          refine a_goto (pc := 111) 147 (by decide) d_BM_answer_111 ?_
          obtain ⟨u9, hu9⟩ : ∃ y : Int32, y = x5 + (1 : Int32) := ⟨_, rfl⟩
          replace h := h u9 hu9
          refine a_iinc (pc := 147) (v := u9) (lv' := [(5, .int u9), (7, .int u2), (6, .int u1), (0, .ref (gB g + 151)), (1, .int x1), (3, .int x3), (4, .int x4)]) 6 rfl (by rw [hu9]; rfl) (Nat.le_of_ble_eq_true rfl) rfl d_BM_answer_147 ?_
          refine a_goto (pc := 150) 6 (by decide) d_BM_answer_150 ?_
          refine a_sub (pc := 6) [3, 4, 5, 6, 0] rfl ?_
          exact h
      · replace h := h.2 c0
        refine a_sub (pc := 53) [2, 3, 4, 5, 6, 1, 0] rfl ?_
        exact h
theorem sg_BM_answer_53 {g : Gx} {Q : Int64 → St → Prop} {σ : St} {x1 : Int32} {x3 : Int32} {x4 : Int32} {x5 : Int32} {x6 : Int32} {x7 : Int32}
    (h : (¬ x6 = 0 → vp_in x7 8 ∧ (vp_in x4 300 ∧ (∀ s1 : St, s1 = saj σ 171 (x4).toNatClampNeg (aj σ 170 (x7).toNatClampNeg) → ∀ u2 : Int32, u2 = x4 + (1 : Int32) → ∀ u3 : Int32, u3 = x5 + (1 : Int32) → S_BM_answer_6 g Q s1 x1 x3 u2 u3))) ∧ (x6 = 0 → vp_in x4 300 ∧ (∀ s4 : St, s4 = saj σ 171 (x4).toNatClampNeg ((x7).toInt64) → ∀ u5 : Int32, u5 = x4 + (1 : Int32) → ∀ u6 : Int32, u6 = x5 + (1 : Int32) → S_BM_answer_6 g Q s4 x1 x3 u5 u6))) : S_BM_answer_53 g Q σ x1 x3 x4 x5 x6 x7 := by
  show Ax g m_BM_answer 0 0 (ZJ g Q) SH σ 0 0 53 [(0, .ref (gB g + 151)), (1, .int x1), (3, .int x3), (4, .int x4), (5, .int x5), (6, .int x6), (7, .int x7)] []
  refine a_aload_n (pc := 53) 0 rfl rfl d_BM_answer_53 ?_
  refine a_getR (pc := 54) fg_BM_73 sx_151 rfl d_BM_answer_54 ?_
  refine a_iload (pc := 57) 3 rfl d_BM_answer_57 ?_
  refine a_iload (pc := 59) 5 rfl d_BM_answer_59 ?_
  refine a_if_ne (pc := 61) 70 (by decide) d_BM_answer_61 ⟨fun c0 => ?_, fun c0 => ?_⟩
  · replace h := h.1 c0
    refine a_aload_n (pc := 70) 0 rfl rfl d_BM_answer_70 ?_
    refine a_getR (pc := 71) fg_BM_69 sx_151 rfl d_BM_answer_71 ?_
    refine a_iload (pc := 74) 6 rfl d_BM_answer_74 ?_
    obtain ⟨hx, h⟩ := h
    refine a_lald (pc := 76) sx_170 hx d_BM_answer_76 ?_
    obtain ⟨hx, h⟩ := h
    refine a_last (pc := 77) sx_171 hx d_BM_answer_77 ?_
    refine a_nms (fun s1 hs1 => ?_)
    replace h := h s1 hs1
    obtain ⟨u2, hu2⟩ : ∃ y : Int32, y = x4 + (1 : Int32) := ⟨_, rfl⟩
    replace h := h u2 hu2
    refine a_iinc (pc := 78) (v := u2) (lv' := [(4, .int u2), (0, .ref (gB g + 151)), (1, .int x1), (3, .int x3), (5, .int x5), (6, .int x6), (7, .int x7)]) 3 rfl (by rw [hu2]; rfl) (Nat.le_of_ble_eq_true rfl) rfl d_BM_answer_78 ?_
    refine a_goto (pc := 81) 147 (by decide) d_BM_answer_81 ?_
    obtain ⟨u3, hu3⟩ : ∃ y : Int32, y = x5 + (1 : Int32) := ⟨_, rfl⟩
    replace h := h u3 hu3
    refine a_iinc (pc := 147) (v := u3) (lv' := [(5, .int u3), (4, .int u2), (0, .ref (gB g + 151)), (1, .int x1), (3, .int x3), (6, .int x6), (7, .int x7)]) 4 rfl (by rw [hu3]; rfl) (Nat.le_of_ble_eq_true rfl) rfl d_BM_answer_147 ?_
    refine a_goto (pc := 150) 6 (by decide) d_BM_answer_150 ?_
    refine a_sub (pc := 6) [2, 3, 4, 1, 0] rfl ?_
    exact h
  · replace h := h.2 c0
    refine a_iload (pc := 64) 6 rfl d_BM_answer_64 ?_
    refine a_i2l (pc := 66) d_BM_answer_66 ?_
    refine a_goto (pc := 67) 77 (by decide) d_BM_answer_67 ?_
    obtain ⟨hx, h⟩ := h
    refine a_last (pc := 77) sx_171 hx d_BM_answer_77 ?_
    refine a_nms (fun s4 hs4 => ?_)
    replace h := h s4 hs4
    obtain ⟨u5, hu5⟩ : ∃ y : Int32, y = x4 + (1 : Int32) := ⟨_, rfl⟩
    replace h := h u5 hu5
    refine a_iinc (pc := 78) (v := u5) (lv' := [(4, .int u5), (0, .ref (gB g + 151)), (1, .int x1), (3, .int x3), (5, .int x5), (6, .int x6), (7, .int x7)]) 3 rfl (by rw [hu5]; rfl) (Nat.le_of_ble_eq_true rfl) rfl d_BM_answer_78 ?_
    refine a_goto (pc := 81) 147 (by decide) d_BM_answer_81 ?_
    obtain ⟨u6, hu6⟩ : ∃ y : Int32, y = x5 + (1 : Int32) := ⟨_, rfl⟩
    replace h := h u6 hu6
    refine a_iinc (pc := 147) (v := u6) (lv' := [(5, .int u6), (4, .int u5), (0, .ref (gB g + 151)), (1, .int x1), (3, .int x3), (6, .int x6), (7, .int x7)]) 4 rfl (by rw [hu6]; rfl) (Nat.le_of_ble_eq_true rfl) rfl d_BM_answer_147 ?_
    refine a_goto (pc := 150) 6 (by decide) d_BM_answer_150 ?_
    refine a_sub (pc := 6) [2, 3, 4, 1, 0] rfl ?_
    exact h
theorem ko_BM_answer {g : Gx}  {x1 : Int32} {x2 : Int32} {x3 : Int32} {σ : St} {Q : Int64 → St → Prop} (h : S_BM_answer_0 g Q σ x1 x2 x3) : K_BM_answer g x1 x2 x3 σ Q := KJ.of (show plainName "BallBoxModel" = true by decide) (Nat.le_of_ble_eq_true rfl) h
theorem d_BM_rolls_0 : decode c_BM_rolls 0 = .ok (.iconst 0, 1) := by decide +kernel
theorem d_BM_rolls_1 : decode c_BM_rolls 1 = .ok (.istore_n 3, 1) := by decide +kernel
theorem d_BM_rolls_2 : decode c_BM_rolls 2 = .ok (.aload_n 0, 1) := by decide +kernel
theorem d_BM_rolls_3 : decode c_BM_rolls 3 = .ok (.aload_n 0, 1) := by decide +kernel
theorem d_BM_rolls_4 : decode c_BM_rolls 4 = .ok (.getfield 16, 3) := by decide +kernel
theorem d_BM_rolls_7 : decode c_BM_rolls 7 = .ok (.iload_n 1, 1) := by decide +kernel
theorem d_BM_rolls_8 : decode c_BM_rolls 8 = .ok (.iaload, 1) := by decide +kernel
theorem d_BM_rolls_9 : decode c_BM_rolls 9 = .ok (.putfield 363, 3) := by decide +kernel
theorem d_BM_rolls_12 : decode c_BM_rolls 12 = .ok (.aload_n 0, 1) := by decide +kernel
theorem d_BM_rolls_13 : decode c_BM_rolls 13 = .ok (.aload_n 0, 1) := by decide +kernel
theorem d_BM_rolls_14 : decode c_BM_rolls 14 = .ok (.getfield 16, 3) := by decide +kernel
theorem d_BM_rolls_17 : decode c_BM_rolls 17 = .ok (.iload_n 1, 1) := by decide +kernel
theorem d_BM_rolls_18 : decode c_BM_rolls 18 = .ok (.iaload, 1) := by decide +kernel
theorem d_BM_rolls_19 : decode c_BM_rolls 19 = .ok (.iload_n 2, 1) := by decide +kernel
theorem d_BM_rolls_20 : decode c_BM_rolls 20 = .ok (.invokevirtual 366, 3) := by decide +kernel
theorem d_BM_rolls_23 : decode c_BM_rolls 23 = .ok (.istore 4, 2) := by decide +kernel
theorem d_BM_rolls_25 : decode c_BM_rolls 25 = .ok (.iload 4, 2) := by decide +kernel
theorem d_BM_rolls_27 : decode c_BM_rolls 27 = .ok (.iconst (-1), 1) := by decide +kernel
theorem d_BM_rolls_28 : decode c_BM_rolls 28 = .ok (.if_icmp .eq 60, 3) := by decide +kernel
theorem d_BM_rolls_31 : decode c_BM_rolls 31 = .ok (.aload_n 0, 1) := by decide +kernel
theorem d_BM_rolls_32 : decode c_BM_rolls 32 = .ok (.getfield 13, 3) := by decide +kernel
theorem d_BM_rolls_35 : decode c_BM_rolls 35 = .ok (.iload 4, 2) := by decide +kernel
theorem d_BM_rolls_37 : decode c_BM_rolls 37 = .ok (.iaload, 1) := by decide +kernel
theorem d_BM_rolls_38 : decode c_BM_rolls 38 = .ok (.iconst 1, 1) := by decide +kernel
theorem d_BM_rolls_39 : decode c_BM_rolls 39 = .ok (.if_icmp .eq 49, 3) := by decide +kernel
theorem d_BM_rolls_42 : decode c_BM_rolls 42 = .ok (.aload_n 0, 1) := by decide +kernel
theorem d_BM_rolls_43 : decode c_BM_rolls 43 = .ok (.iload 4, 2) := by decide +kernel
theorem d_BM_rolls_45 : decode c_BM_rolls 45 = .ok (.invokevirtual 174, 3) := by decide +kernel
theorem d_BM_rolls_48 : decode c_BM_rolls 48 = .ok (.iconst (-1), 1) := by decide +kernel
theorem d_BM_rolls_49 : decode c_BM_rolls 49 = .ok (.if_icmp .ne 39, 3) := by decide +kernel
theorem d_BM_rolls_52 : decode c_BM_rolls 52 = .ok (.aload_n 0, 1) := by decide +kernel
theorem d_BM_rolls_53 : decode c_BM_rolls 53 = .ok (.iload 4, 2) := by decide +kernel
theorem d_BM_rolls_55 : decode c_BM_rolls 55 = .ok (.putfield 363, 3) := by decide +kernel
theorem d_BM_rolls_58 : decode c_BM_rolls 58 = .ok (.iinc 3 1, 3) := by decide +kernel
theorem d_BM_rolls_61 : decode c_BM_rolls 61 = .ok (.aload_n 0, 1) := by decide +kernel
theorem d_BM_rolls_62 : decode c_BM_rolls 62 = .ok (.getfield 13, 3) := by decide +kernel
theorem d_BM_rolls_65 : decode c_BM_rolls 65 = .ok (.iload 4, 2) := by decide +kernel
theorem d_BM_rolls_67 : decode c_BM_rolls 67 = .ok (.iaload, 1) := by decide +kernel
theorem d_BM_rolls_68 : decode c_BM_rolls 68 = .ok (.iconst 2, 1) := by decide +kernel
theorem d_BM_rolls_69 : decode c_BM_rolls 69 = .ok (.if_icmp .lt 7, 3) := by decide +kernel
theorem d_BM_rolls_72 : decode c_BM_rolls 72 = .ok (.iconst (-1), 1) := by decide +kernel
theorem d_BM_rolls_73 : decode c_BM_rolls 73 = .ok (.goto 10, 3) := by decide +kernel
theorem d_BM_rolls_76 : decode c_BM_rolls 76 = .ok (.aload_n 0, 1) := by decide +kernel
theorem d_BM_rolls_77 : decode c_BM_rolls 77 = .ok (.iload 4, 2) := by decide +kernel
theorem d_BM_rolls_79 : decode c_BM_rolls 79 = .ok (.iload_n 2, 1) := by decide +kernel
theorem d_BM_rolls_80 : decode c_BM_rolls 80 = .ok (.invokevirtual 366, 3) := by decide +kernel
theorem d_BM_rolls_83 : decode c_BM_rolls 83 = .ok (.istore 4, 2) := by decide +kernel
theorem d_BM_rolls_85 : decode c_BM_rolls 85 = .ok (.goto (-60), 3) := by decide +kernel
theorem d_BM_rolls_88 : decode c_BM_rolls 88 = .ok (.iload_n 3, 1) := by decide +kernel
theorem d_BM_rolls_89 : decode c_BM_rolls 89 = .ok (.ireturn, 1) := by decide +kernel
def S_BM_rolls_0 (g : Gx) (Q : Int32 → St → Prop) (σ : St) (x1 : Int32) (x2 : Int32) : Prop := Ax g m_BM_rolls 0 0 (ZI g Q) SH σ 0 0 0 [(0, .ref (gB g + 151)), (1, .int x1), (2, .int x2)] []
def S_BM_rolls_25 (g : Gx) (Q : Int32 → St → Prop) (σ : St) (x2 : Int32) (x3 : Int32) (x4 : Int32) : Prop := Ax g m_BM_rolls 0 0 (ZI g Q) SH σ 0 0 25 [(0, .ref (gB g + 151)), (2, .int x2), (3, .int x3), (4, .int x4)] []
theorem sg_BM_rolls_0 {g : Gx} {Q : Int32 → St → Prop} {σ : St} {x1 : Int32} {x2 : Int32}
    (h : vp_in x1 3 ∧ (∀ s1 : St, s1 = sfi σ 151 32 (ai σ 154 (x1).toNatClampNeg) → vp_in x1 3 ∧ (K_BM_by g (ai s1 154 (x1).toNatClampNeg) x2 s1 (fun (r3 : Int32) (s2 : St) => S_BM_rolls_25 g Q s2 x2 (0 : Int32) r3)))) : S_BM_rolls_0 g Q σ x1 x2 := by
  show Ax g m_BM_rolls 0 0 (ZI g Q) SH σ 0 0 0 [(0, .ref (gB g + 151)), (1, .int x1), (2, .int x2)] []
  refine a_iconst (pc := 0) (0 : Int32) (by decide) d_BM_rolls_0 ?_
  refine a_istore_n (pc := 1) (lv' := [(3, .int (0 : Int32)), (0, .ref (gB g + 151)), (1, .int x1), (2, .int x2)]) rfl (Nat.le_of_ble_eq_true rfl) rfl d_BM_rolls_1 ?_
  refine a_aload_n (pc := 2) 1 rfl rfl d_BM_rolls_2 ?_
  refine a_aload_n (pc := 3) 1 rfl rfl d_BM_rolls_3 ?_
  refine a_getR (pc := 4) fg_BM_16 sx_151 rfl d_BM_rolls_4 ?_
  refine a_iload_n (pc := 7) 2 rfl rfl d_BM_rolls_7 ?_
  obtain ⟨hx, h⟩ := h
  refine a_iald (pc := 8) sx_154 hx d_BM_rolls_8 ?_
  refine a_putI (pc := 9) fp_BM_363 sx_151 rfl d_BM_rolls_9 ?_
  refine a_nms (fun s1 hs1 => ?_)
  replace h := h s1 hs1
  refine a_aload_n (pc := 12) 1 rfl rfl d_BM_rolls_12 ?_
  refine a_aload_n (pc := 13) 1 rfl rfl d_BM_rolls_13 ?_
  refine a_getR (pc := 14) fg_BM_16 sx_151 rfl d_BM_rolls_14 ?_
  refine a_iload_n (pc := 17) 2 rfl rfl d_BM_rolls_17 ?_
  obtain ⟨hx, h⟩ := h
  refine a_iald (pc := 18) sx_154 hx d_BM_rolls_18 ?_
  refine a_iload_n (pc := 19) 3 rfl rfl d_BM_rolls_19 ?_
  refine a_callV (pc := 20) (M' := m_BM_by) (As := [.int (ai s1 154 (x1).toNatClampNeg), .int x2]) (st := []) (mc' := 0) (ms' := 0) lk_BM_366 rfl sx_151 rfl (by decide) (by decide) rfl (Nat.le_of_ble_eq_true rfl) (Nat.le_refl 0) (Nat.le_refl 0) d_BM_rolls_20 h ?_
  rintro _ _ s2 ⟨r3, rfl, rfl, h⟩ -
  show Ax g m_BM_rolls 0 0 (ZI g Q) SH s2 0 0 23 [(3, .int (0 : Int32)), (0, .ref (gB g + 151)), (1, .int x1), (2, .int x2)] [.int r3]
  refine a_istore (pc := 23) (lv' := [(4, .int r3), (3, .int (0 : Int32)), (0, .ref (gB g + 151)), (1, .int x1), (2, .int x2)]) (Nat.le_of_ble_eq_true rfl) rfl d_BM_rolls_23 ?_
  refine a_sub (pc := 25) [2, 4, 1, 0] rfl ?_
  exact h
theorem sg_BM_rolls_25 {g : Gx} {Q : Int32 → St → Prop} {σ : St} {x2 : Int32} {x3 : Int32} {x4 : Int32}
    (h : (x4 = (-1 : Int32) → Q x3 σ) ∧ (¬ x4 = (-1 : Int32) → vp_in x4 36 ∧ (((ai σ 153 (x4).toNatClampNeg) = (1 : Int32) → Q x3 σ) ∧ (¬ (ai σ 153 (x4).toNatClampNeg) = (1 : Int32) → K_BM_whoAt g x4 σ (fun (r2 : Int32) (s1 : St) => (¬ r2 = (-1 : Int32) → Q x3 s1) ∧ (r2 = (-1 : Int32) → ∀ s3 : St, s3 = sfi s1 151 32 x4 → ∀ u4 : Int32, u4 = x3 + (1 : Int32) → vp_in x4 36 ∧ (((ai s3 153 (x4).toNatClampNeg) < (2 : Int32) → K_BM_by g x4 x2 s3 (fun (r6 : Int32) (s5 : St) => S_BM_rolls_25 g Q s5 x2 u4 r6)) ∧ (¬ (ai s3 153 (x4).toNatClampNeg) < (2 : Int32) → S_BM_rolls_25 g Q s3 x2 u4 (-1 : Int32))))))))) : S_BM_rolls_25 g Q σ x2 x3 x4 := by
  show Ax g m_BM_rolls 0 0 (ZI g Q) SH σ 0 0 25 [(0, .ref (gB g + 151)), (2, .int x2), (3, .int x3), (4, .int x4)] []
  refine a_iload (pc := 25) 3 rfl d_BM_rolls_25 ?_
  refine a_iconst (pc := 27) (-1 : Int32) (by decide) d_BM_rolls_27 ?_
  refine a_icmp_eq (pc := 28) 88 (by decide) d_BM_rolls_28 ⟨fun c0 => ?_, fun c0 => ?_⟩
  · replace h := h.1 c0
    refine a_iload_n (pc := 88) 2 rfl rfl d_BM_rolls_88 ?_
    exact b_iret (pc := 89) rfl d_BM_rolls_89 h
  · replace h := h.2 c0
    refine a_aload_n (pc := 31) 0 rfl rfl d_BM_rolls_31 ?_
    refine a_getR (pc := 32) fg_BM_13 sx_151 rfl d_BM_rolls_32 ?_
    refine a_iload (pc := 35) 3 rfl d_BM_rolls_35 ?_
    obtain ⟨hx, h⟩ := h
    refine a_iald (pc := 37) sx_153 hx d_BM_rolls_37 ?_
    refine a_iconst (pc := 38) (1 : Int32) (by decide) d_BM_rolls_38 ?_
    refine a_icmp_eq (pc := 39) 88 (by decide) d_BM_rolls_39 ⟨fun c0 => ?_, fun c0 => ?_⟩
    · replace h := h.1 c0
      refine a_iload_n (pc := 88) 2 rfl rfl d_BM_rolls_88 ?_
      exact b_iret (pc := 89) rfl d_BM_rolls_89 h
    · replace h := h.2 c0
      refine a_aload_n (pc := 42) 0 rfl rfl d_BM_rolls_42 ?_
      refine a_iload (pc := 43) 3 rfl d_BM_rolls_43 ?_
      refine a_callV (pc := 45) (M' := m_BM_whoAt) (As := [.int x4]) (st := []) (mc' := 0) (ms' := 0) lk_BM_174 rfl sx_151 rfl (by decide) (by decide) rfl (Nat.le_of_ble_eq_true rfl) (Nat.le_refl 0) (Nat.le_refl 0) d_BM_rolls_45 h ?_
      rintro _ _ s1 ⟨r2, rfl, rfl, h⟩ -
      show Ax g m_BM_rolls 0 0 (ZI g Q) SH s1 0 0 48 [(0, .ref (gB g + 151)), (2, .int x2), (3, .int x3), (4, .int x4)] [.int r2]
      refine a_iconst (pc := 48) (-1 : Int32) (by decide) d_BM_rolls_48 ?_
      refine a_icmp_ne (pc := 49) 88 (by decide) d_BM_rolls_49 ⟨fun c0 => ?_, fun c0 => ?_⟩
      · replace h := h.1 c0
        refine a_iload_n (pc := 88) 2 rfl rfl d_BM_rolls_88 ?_
        exact b_iret (pc := 89) rfl d_BM_rolls_89 h
      · replace h := h.2 c0
        refine a_aload_n (pc := 52) 0 rfl rfl d_BM_rolls_52 ?_
        refine a_iload (pc := 53) 3 rfl d_BM_rolls_53 ?_
        refine a_putI (pc := 55) fp_BM_363 sx_151 rfl d_BM_rolls_55 ?_
        refine a_nms (fun s3 hs3 => ?_)
        replace h := h s3 hs3
        obtain ⟨u4, hu4⟩ : ∃ y : Int32, y = x3 + (1 : Int32) := ⟨_, rfl⟩
        replace h := h u4 hu4
        refine a_iinc (pc := 58) (v := u4) (lv' := [(3, .int u4), (0, .ref (gB g + 151)), (2, .int x2), (4, .int x4)]) 2 rfl (by rw [hu4]; rfl) (Nat.le_of_ble_eq_true rfl) rfl d_BM_rolls_58 ?_
        refine a_aload_n (pc := 61) 1 rfl rfl d_BM_rolls_61 ?_
        refine a_getR (pc := 62) fg_BM_13 sx_151 rfl d_BM_rolls_62 ?_
        refine a_iload (pc := 65) 3 rfl d_BM_rolls_65 ?_
        obtain ⟨hx, h⟩ := h
        refine a_iald (pc := 67) sx_153 hx d_BM_rolls_67 ?_
        refine a_iconst (pc := 68) (2 : Int32) (by decide) d_BM_rolls_68 ?_
        refine a_icmp_lt (pc := 69) 76 (by decide) d_BM_rolls_69 ⟨fun c0 => ?_, fun c0 => ?_⟩
        · replace h := h.1 c0
          refine a_aload_n (pc := 76) 1 rfl rfl d_BM_rolls_76 ?_
          refine a_iload (pc := 77) 3 rfl d_BM_rolls_77 ?_
          refine a_iload_n (pc := 79) 2 rfl rfl d_BM_rolls_79 ?_
          refine a_callV (pc := 80) (M' := m_BM_by) (As := [.int x4, .int x2]) (st := []) (mc' := 0) (ms' := 0) lk_BM_366 rfl sx_151 rfl (by decide) (by decide) rfl (Nat.le_of_ble_eq_true rfl) (Nat.le_refl 0) (Nat.le_refl 0) d_BM_rolls_80 h ?_
          rintro _ _ s5 ⟨r6, rfl, rfl, h⟩ -
          show Ax g m_BM_rolls 0 0 (ZI g Q) SH s5 0 0 83 [(3, .int u4), (0, .ref (gB g + 151)), (2, .int x2), (4, .int x4)] [.int r6]
          refine a_istore (pc := 83) (lv' := [(4, .int r6), (3, .int u4), (0, .ref (gB g + 151)), (2, .int x2)]) (Nat.le_of_ble_eq_true rfl) rfl d_BM_rolls_83 ?_
          refine a_goto (pc := 85) 25 (by decide) d_BM_rolls_85 ?_
          refine a_sub (pc := 25) [2, 3, 1, 0] rfl ?_
          exact h
        · replace h := h.2 c0
          refine a_iconst (pc := 72) (-1 : Int32) (by decide) d_BM_rolls_72 ?_
          refine a_goto (pc := 73) 83 (by decide) d_BM_rolls_73 ?_
          refine a_istore (pc := 83) (lv' := [(4, .int (-1 : Int32)), (3, .int u4), (0, .ref (gB g + 151)), (2, .int x2)]) (Nat.le_of_ble_eq_true rfl) rfl d_BM_rolls_83 ?_
          refine a_goto (pc := 85) 25 (by decide) d_BM_rolls_85 ?_
          refine a_sub (pc := 25) [2, 3, 1, 0] rfl ?_
          exact h
theorem ko_BM_rolls {g : Gx}  {x1 : Int32} {x2 : Int32} {σ : St} {Q : Int32 → St → Prop} (h : S_BM_rolls_0 g Q σ x1 x2) : K_BM_rolls g x1 x2 σ Q := KI.of (show plainName "BallBoxModel" = true by decide) (Nat.le_of_ble_eq_true rfl) h
theorem d_BM_sumOf_0 : decode c_BM_sumOf 0 = .ok (.aload_n 0, 1) := by decide +kernel
theorem d_BM_sumOf_1 : decode c_BM_sumOf 1 = .ok (.getfield 69, 3) := by decide +kernel
theorem d_BM_sumOf_4 : decode c_BM_sumOf 4 = .ok (.iconst 0, 1) := by decide +kernel
theorem d_BM_sumOf_5 : decode c_BM_sumOf 5 = .ok (.iload_n 2, 1) := by decide +kernel
theorem d_BM_sumOf_6 : decode c_BM_sumOf 6 = .ok (.i2l, 1) := by decide +kernel
theorem d_BM_sumOf_7 : decode c_BM_sumOf 7 = .ok (.lastore, 1) := by decide +kernel
theorem d_BM_sumOf_8 : decode c_BM_sumOf 8 = .ok (.aload_n 0, 1) := by decide +kernel
theorem d_BM_sumOf_9 : decode c_BM_sumOf 9 = .ok (.getfield 69, 3) := by decide +kernel
theorem d_BM_sumOf_12 : decode c_BM_sumOf 12 = .ok (.iconst 1, 1) := by decide +kernel
theorem d_BM_sumOf_13 : decode c_BM_sumOf 13 = .ok (.aload_n 0, 1) := by decide +kernel
theorem d_BM_sumOf_14 : decode c_BM_sumOf 14 = .ok (.getfield 16, 3) := by decide +kernel
theorem d_BM_sumOf_17 : decode c_BM_sumOf 17 = .ok (.iload_n 2, 1) := by decide +kernel
theorem d_BM_sumOf_18 : decode c_BM_sumOf 18 = .ok (.iaload, 1) := by decide +kernel
theorem d_BM_sumOf_19 : decode c_BM_sumOf 19 = .ok (.bipush 6, 2) := by decide +kernel
theorem d_BM_sumOf_21 : decode c_BM_sumOf 21 = .ok (.irem, 1) := by decide +kernel
theorem d_BM_sumOf_22 : decode c_BM_sumOf 22 = .ok (.i2l, 1) := by decide +kernel
theorem d_BM_sumOf_23 : decode c_BM_sumOf 23 = .ok (.lastore, 1) := by decide +kernel
theorem d_BM_sumOf_24 : decode c_BM_sumOf 24 = .ok (.aload_n 0, 1) := by decide +kernel
theorem d_BM_sumOf_25 : decode c_BM_sumOf 25 = .ok (.getfield 69, 3) := by decide +kernel
theorem d_BM_sumOf_28 : decode c_BM_sumOf 28 = .ok (.iconst 2, 1) := by decide +kernel
theorem d_BM_sumOf_29 : decode c_BM_sumOf 29 = .ok (.aload_n 0, 1) := by decide +kernel
theorem d_BM_sumOf_30 : decode c_BM_sumOf 30 = .ok (.getfield 16, 3) := by decide +kernel
theorem d_BM_sumOf_33 : decode c_BM_sumOf 33 = .ok (.iload_n 2, 1) := by decide +kernel
theorem d_BM_sumOf_34 : decode c_BM_sumOf 34 = .ok (.iaload, 1) := by decide +kernel
theorem d_BM_sumOf_35 : decode c_BM_sumOf 35 = .ok (.bipush 6, 2) := by decide +kernel
theorem d_BM_sumOf_37 : decode c_BM_sumOf 37 = .ok (.idiv, 1) := by decide +kernel
theorem d_BM_sumOf_38 : decode c_BM_sumOf 38 = .ok (.i2l, 1) := by decide +kernel
theorem d_BM_sumOf_39 : decode c_BM_sumOf 39 = .ok (.lastore, 1) := by decide +kernel
theorem d_BM_sumOf_40 : decode c_BM_sumOf 40 = .ok (.aload_n 0, 1) := by decide +kernel
theorem d_BM_sumOf_41 : decode c_BM_sumOf 41 = .ok (.getfield 69, 3) := by decide +kernel
theorem d_BM_sumOf_44 : decode c_BM_sumOf 44 = .ok (.iconst 3, 1) := by decide +kernel
theorem d_BM_sumOf_45 : decode c_BM_sumOf 45 = .ok (.aload_n 0, 1) := by decide +kernel
theorem d_BM_sumOf_46 : decode c_BM_sumOf 46 = .ok (.iload_n 2, 1) := by decide +kernel
theorem d_BM_sumOf_47 : decode c_BM_sumOf 47 = .ok (.iload_n 3, 1) := by decide +kernel
theorem d_BM_sumOf_48 : decode c_BM_sumOf 48 = .ok (.invokevirtual 369, 3) := by decide +kernel
theorem d_BM_sumOf_51 : decode c_BM_sumOf 51 = .ok (.i2l, 1) := by decide +kernel
theorem d_BM_sumOf_52 : decode c_BM_sumOf 52 = .ok (.lastore, 1) := by decide +kernel
theorem d_BM_sumOf_53 : decode c_BM_sumOf 53 = .ok (.aload_n 0, 1) := by decide +kernel
theorem d_BM_sumOf_54 : decode c_BM_sumOf 54 = .ok (.getfield 69, 3) := by decide +kernel
theorem d_BM_sumOf_57 : decode c_BM_sumOf 57 = .ok (.iconst 4, 1) := by decide +kernel
theorem d_BM_sumOf_58 : decode c_BM_sumOf 58 = .ok (.iload_n 3, 1) := by decide +kernel
theorem d_BM_sumOf_59 : decode c_BM_sumOf 59 = .ok (.i2l, 1) := by decide +kernel
theorem d_BM_sumOf_60 : decode c_BM_sumOf 60 = .ok (.lastore, 1) := by decide +kernel
theorem d_BM_sumOf_61 : decode c_BM_sumOf 61 = .ok (.aload_n 0, 1) := by decide +kernel
theorem d_BM_sumOf_62 : decode c_BM_sumOf 62 = .ok (.getfield 69, 3) := by decide +kernel
theorem d_BM_sumOf_65 : decode c_BM_sumOf 65 = .ok (.iconst 5, 1) := by decide +kernel
theorem d_BM_sumOf_66 : decode c_BM_sumOf 66 = .ok (.aload_n 0, 1) := by decide +kernel
theorem d_BM_sumOf_67 : decode c_BM_sumOf 67 = .ok (.getfield 9, 3) := by decide +kernel
theorem d_BM_sumOf_70 : decode c_BM_sumOf 70 = .ok (.iconst 3, 1) := by decide +kernel
theorem d_BM_sumOf_71 : decode c_BM_sumOf 71 = .ok (.iaload, 1) := by decide +kernel
theorem d_BM_sumOf_72 : decode c_BM_sumOf 72 = .ok (.i2l, 1) := by decide +kernel
theorem d_BM_sumOf_73 : decode c_BM_sumOf 73 = .ok (.lastore, 1) := by decide +kernel
theorem d_BM_sumOf_74 : decode c_BM_sumOf 74 = .ok (.aload_n 0, 1) := by decide +kernel
theorem d_BM_sumOf_75 : decode c_BM_sumOf 75 = .ok (.getfield 69, 3) := by decide +kernel
theorem d_BM_sumOf_78 : decode c_BM_sumOf 78 = .ok (.bipush 6, 2) := by decide +kernel
theorem d_BM_sumOf_80 : decode c_BM_sumOf 80 = .ok (.aload_n 0, 1) := by decide +kernel
theorem d_BM_sumOf_81 : decode c_BM_sumOf 81 = .ok (.bipush 36, 2) := by decide +kernel
theorem d_BM_sumOf_83 : decode c_BM_sumOf 83 = .ok (.invokevirtual 185, 3) := by decide +kernel
theorem d_BM_sumOf_86 : decode c_BM_sumOf 86 = .ok (.i2l, 1) := by decide +kernel
theorem d_BM_sumOf_87 : decode c_BM_sumOf 87 = .ok (.lastore, 1) := by decide +kernel
theorem d_BM_sumOf_88 : decode c_BM_sumOf 88 = .ok (.aload_n 0, 1) := by decide +kernel
theorem d_BM_sumOf_89 : decode c_BM_sumOf 89 = .ok (.getfield 69, 3) := by decide +kernel
theorem d_BM_sumOf_92 : decode c_BM_sumOf 92 = .ok (.bipush 7, 2) := by decide +kernel
theorem d_BM_sumOf_94 : decode c_BM_sumOf 94 = .ok (.aload_n 0, 1) := by decide +kernel
theorem d_BM_sumOf_95 : decode c_BM_sumOf 95 = .ok (.iload_n 2, 1) := by decide +kernel
theorem d_BM_sumOf_96 : decode c_BM_sumOf 96 = .ok (.invokevirtual 372, 3) := by decide +kernel
theorem d_BM_sumOf_99 : decode c_BM_sumOf 99 = .ok (.iconst (-1), 1) := by decide +kernel
theorem d_BM_sumOf_100 : decode c_BM_sumOf 100 = .ok (.if_icmp .ne 7, 3) := by decide +kernel
theorem d_BM_sumOf_103 : decode c_BM_sumOf 103 = .ok (.lconst 0, 1) := by decide +kernel
theorem d_BM_sumOf_104 : decode c_BM_sumOf 104 = .ok (.goto 9, 3) := by decide +kernel
theorem d_BM_sumOf_107 : decode c_BM_sumOf 107 = .ok (.aload_n 0, 1) := by decide +kernel
theorem d_BM_sumOf_108 : decode c_BM_sumOf 108 = .ok (.iload_n 2, 1) := by decide +kernel
theorem d_BM_sumOf_109 : decode c_BM_sumOf 109 = .ok (.invokevirtual 372, 3) := by decide +kernel
theorem d_BM_sumOf_112 : decode c_BM_sumOf 112 = .ok (.i2l, 1) := by decide +kernel
theorem d_BM_sumOf_113 : decode c_BM_sumOf 113 = .ok (.lastore, 1) := by decide +kernel
theorem d_BM_sumOf_114 : decode c_BM_sumOf 114 = .ok (.bipush 12, 2) := by decide +kernel
theorem d_BM_sumOf_116 : decode c_BM_sumOf 116 = .ok (.iload_n 1, 1) := by decide +kernel
theorem d_BM_sumOf_117 : decode c_BM_sumOf 117 = .ok (.imul, 1) := by decide +kernel
theorem d_BM_sumOf_118 : decode c_BM_sumOf 118 = .ok (.istore 4, 2) := by decide +kernel
theorem d_BM_sumOf_120 : decode c_BM_sumOf 120 = .ok (.iload 4, 2) := by decide +kernel
theorem d_BM_sumOf_122 : decode c_BM_sumOf 122 = .ok (.bipush 12, 2) := by decide +kernel
theorem d_BM_sumOf_124 : decode c_BM_sumOf 124 = .ok (.iload_n 1, 1) := by decide +kernel
theorem d_BM_sumOf_125 : decode c_BM_sumOf 125 = .ok (.imul, 1) := by decide +kernel
theorem d_BM_sumOf_126 : decode c_BM_sumOf 126 = .ok (.aload_n 0, 1) := by decide +kernel
theorem d_BM_sumOf_127 : decode c_BM_sumOf 127 = .ok (.getfield 54, 3) := by decide +kernel
theorem d_BM_sumOf_130 : decode c_BM_sumOf 130 = .ok (.iload_n 1, 1) := by decide +kernel
theorem d_BM_sumOf_131 : decode c_BM_sumOf 131 = .ok (.iaload, 1) := by decide +kernel
theorem d_BM_sumOf_132 : decode c_BM_sumOf 132 = .ok (.iadd, 1) := by decide +kernel
theorem d_BM_sumOf_133 : decode c_BM_sumOf 133 = .ok (.if_icmp .ge 70, 3) := by decide +kernel
theorem d_BM_sumOf_136 : decode c_BM_sumOf 136 = .ok (.aload_n 0, 1) := by decide +kernel
theorem d_BM_sumOf_137 : decode c_BM_sumOf 137 = .ok (.getfield 60, 3) := by decide +kernel
theorem d_BM_sumOf_140 : decode c_BM_sumOf 140 = .ok (.iload 4, 2) := by decide +kernel
theorem d_BM_sumOf_142 : decode c_BM_sumOf 142 = .ok (.iaload, 1) := by decide +kernel
theorem d_BM_sumOf_143 : decode c_BM_sumOf 143 = .ok (.aload_n 0, 1) := by decide +kernel
theorem d_BM_sumOf_144 : decode c_BM_sumOf 144 = .ok (.getfield 63, 3) := by decide +kernel
theorem d_BM_sumOf_147 : decode c_BM_sumOf 147 = .ok (.iload 4, 2) := by decide +kernel
theorem d_BM_sumOf_149 : decode c_BM_sumOf 149 = .ok (.iaload, 1) := by decide +kernel
theorem d_BM_sumOf_150 : decode c_BM_sumOf 150 = .ok (.if_icmp .eq 27, 3) := by decide +kernel
theorem d_BM_sumOf_153 : decode c_BM_sumOf 153 = .ok (.aload_n 0, 1) := by decide +kernel
theorem d_BM_sumOf_154 : decode c_BM_sumOf 154 = .ok (.iload_n 1, 1) := by decide +kernel
theorem d_BM_sumOf_155 : decode c_BM_sumOf 155 = .ok (.aload_n 0, 1) := by decide +kernel
theorem d_BM_sumOf_156 : decode c_BM_sumOf 156 = .ok (.getfield 60, 3) := by decide +kernel
theorem d_BM_sumOf_159 : decode c_BM_sumOf 159 = .ok (.iload 4, 2) := by decide +kernel
theorem d_BM_sumOf_161 : decode c_BM_sumOf 161 = .ok (.iaload, 1) := by decide +kernel
theorem d_BM_sumOf_162 : decode c_BM_sumOf 162 = .ok (.aload_n 0, 1) := by decide +kernel
theorem d_BM_sumOf_163 : decode c_BM_sumOf 163 = .ok (.getfield 63, 3) := by decide +kernel
theorem d_BM_sumOf_166 : decode c_BM_sumOf 166 = .ok (.iload 4, 2) := by decide +kernel
theorem d_BM_sumOf_168 : decode c_BM_sumOf 168 = .ok (.iaload, 1) := by decide +kernel
theorem d_BM_sumOf_169 : decode c_BM_sumOf 169 = .ok (.invokevirtual 374, 3) := by decide +kernel
theorem d_BM_sumOf_172 : decode c_BM_sumOf 172 = .ok (.lconst 1, 1) := by decide +kernel
theorem d_BM_sumOf_173 : decode c_BM_sumOf 173 = .ok (.lcmp, 1) := by decide +kernel
theorem d_BM_sumOf_174 : decode c_BM_sumOf 174 = .ok (.ifCond .ne 23, 3) := by decide +kernel
theorem d_BM_sumOf_177 : decode c_BM_sumOf 177 = .ok (.aload_n 0, 1) := by decide +kernel
theorem d_BM_sumOf_178 : decode c_BM_sumOf 178 = .ok (.iload_n 1, 1) := by decide +kernel
theorem d_BM_sumOf_179 : decode c_BM_sumOf 179 = .ok (.aload_n 0, 1) := by decide +kernel
theorem d_BM_sumOf_180 : decode c_BM_sumOf 180 = .ok (.getfield 57, 3) := by decide +kernel
theorem d_BM_sumOf_183 : decode c_BM_sumOf 183 = .ok (.iload 4, 2) := by decide +kernel
theorem d_BM_sumOf_185 : decode c_BM_sumOf 185 = .ok (.iaload, 1) := by decide +kernel
theorem d_BM_sumOf_186 : decode c_BM_sumOf 186 = .ok (.aload_n 0, 1) := by decide +kernel
theorem d_BM_sumOf_187 : decode c_BM_sumOf 187 = .ok (.getfield 60, 3) := by decide +kernel
theorem d_BM_sumOf_190 : decode c_BM_sumOf 190 = .ok (.iload 4, 2) := by decide +kernel
theorem d_BM_sumOf_192 : decode c_BM_sumOf 192 = .ok (.iaload, 1) := by decide +kernel
theorem d_BM_sumOf_193 : decode c_BM_sumOf 193 = .ok (.invokevirtual 374, 3) := by decide +kernel
theorem d_BM_sumOf_196 : decode c_BM_sumOf 196 = .ok (.lreturn, 1) := by decide +kernel
theorem d_BM_sumOf_197 : decode c_BM_sumOf 197 = .ok (.iinc 4 1, 3) := by decide +kernel
theorem d_BM_sumOf_200 : decode c_BM_sumOf 200 = .ok (.goto (-80), 3) := by decide +kernel
theorem d_BM_sumOf_203 : decode c_BM_sumOf 203 = .ok (.lconst 0, 1) := by decide +kernel
theorem d_BM_sumOf_204 : decode c_BM_sumOf 204 = .ok (.lreturn, 1) := by decide +kernel
def S_BM_sumOf_0 (g : Gx) (Q : Int64 → St → Prop) (σ : St) (x1 : Int32) (x2 : Int32) (x3 : Int32) : Prop := Ax g m_BM_sumOf 0 0 (ZJ g Q) SH σ 0 0 0 [(0, .ref (gB g + 151)), (1, .int x1), (2, .int x2), (3, .int x3)] []
def S_BM_sumOf_120 (g : Gx) (Q : Int64 → St → Prop) (σ : St) (x1 : Int32) (x4 : Int32) : Prop := Ax g m_BM_sumOf 0 0 (ZJ g Q) SH σ 0 0 120 [(0, .ref (gB g + 151)), (1, .int x1), (4, .int x4)] []
theorem sg_BM_sumOf_0 {g : Gx} {Q : Int64 → St → Prop} {σ : St} {x1 : Int32} {x2 : Int32} {x3 : Int32}
    (h : vp_in (0 : Int32) 8 ∧ (∀ s1 : St, s1 = saj σ 170 ((0 : Int32)).toNatClampNeg ((x2).toInt64) → vp_in x2 3 ∧ (vp_in (1 : Int32) 8 ∧ (∀ s2 : St, s2 = saj s1 170 ((1 : Int32)).toNatClampNeg ((((ai s1 154 (x2).toNatClampNeg) - (ai s1 154 (x2).toNatClampNeg) / (6 : Int32) * (6 : Int32))).toInt64) → vp_in x2 3 ∧ (vp_in (2 : Int32) 8 ∧ (∀ s3 : St, s3 = saj s2 170 ((2 : Int32)).toNatClampNeg ((((ai s2 154 (x2).toNatClampNeg) / (6 : Int32))).toInt64) → K_BM_rolls g x2 x3 s3 (fun (r5 : Int32) (s4 : St) => vp_in (3 : Int32) 8 ∧ (∀ s6 : St, s6 = saj s4 170 ((3 : Int32)).toNatClampNeg ((r5).toInt64) → vp_in (4 : Int32) 8 ∧ (∀ s7 : St, s7 = saj s6 170 ((4 : Int32)).toNatClampNeg ((x3).toInt64) → vp_in (3 : Int32) 8 ∧ (vp_in (5 : Int32) 8 ∧ (∀ s8 : St, s8 = saj s7 170 ((5 : Int32)).toNatClampNeg (((ai s7 152 ((3 : Int32)).toNatClampNeg)).toInt64) → K_BM_fell g (36 : Int32) s8 (fun (r10 : Int32) (s9 : St) => vp_in (6 : Int32) 8 ∧ (∀ s11 : St, s11 = saj s9 170 ((6 : Int32)).toNatClampNeg ((r10).toInt64) → K_BM_steps g x2 s11 (fun (r13 : Int32) (s12 : St) => (¬ r13 = (-1 : Int32) → K_BM_steps g x2 s12 (fun (r15 : Int32) (s14 : St) => vp_in (7 : Int32) 8 ∧ (∀ s16 : St, s16 = saj s14 170 ((7 : Int32)).toNatClampNeg ((r15).toInt64) → ∀ u17 : Int32, u17 = ((12 : Int32) * x1) → S_BM_sumOf_120 g Q s16 x1 u17))) ∧ (r13 = (-1 : Int32) → vp_in (7 : Int32) 8 ∧ (∀ s18 : St, s18 = saj s12 170 ((7 : Int32)).toNatClampNeg (0 : Int64) → ∀ u19 : Int32, u19 = ((12 : Int32) * x1) → S_BM_sumOf_120 g Q s18 x1 u19)))))))))))))))) : S_BM_sumOf_0 g Q σ x1 x2 x3 := by
  show Ax g m_BM_sumOf 0 0 (ZJ g Q) SH σ 0 0 0 [(0, .ref (gB g + 151)), (1, .int x1), (2, .int x2), (3, .int x3)] []
  refine a_aload_n (pc := 0) 0 rfl rfl d_BM_sumOf_0 ?_
  refine a_getR (pc := 1) fg_BM_69 sx_151 rfl d_BM_sumOf_1 ?_
  refine a_iconst (pc := 4) (0 : Int32) (by decide) d_BM_sumOf_4 ?_
  refine a_iload_n (pc := 5) 2 rfl rfl d_BM_sumOf_5 ?_
  refine a_i2l (pc := 6) d_BM_sumOf_6 ?_
  obtain ⟨hx, h⟩ := h
  refine a_last (pc := 7) sx_170 hx d_BM_sumOf_7 ?_
  refine a_nms (fun s1 hs1 => ?_)
  replace h := h s1 hs1
  refine a_aload_n (pc := 8) 0 rfl rfl d_BM_sumOf_8 ?_
  refine a_getR (pc := 9) fg_BM_69 sx_151 rfl d_BM_sumOf_9 ?_
  refine a_iconst (pc := 12) (1 : Int32) (by decide) d_BM_sumOf_12 ?_
  refine a_aload_n (pc := 13) 0 rfl rfl d_BM_sumOf_13 ?_
  refine a_getR (pc := 14) fg_BM_16 sx_151 rfl d_BM_sumOf_14 ?_
  refine a_iload_n (pc := 17) 2 rfl rfl d_BM_sumOf_17 ?_
  obtain ⟨hx, h⟩ := h
  refine a_iald (pc := 18) sx_154 hx d_BM_sumOf_18 ?_
  refine a_bipush (pc := 19) (6 : Int32) (by decide) d_BM_sumOf_19 ?_
  refine a_irem (pc := 21) (by decide) d_BM_sumOf_21 ?_
  refine a_i2l (pc := 22) d_BM_sumOf_22 ?_
  obtain ⟨hx, h⟩ := h
  refine a_last (pc := 23) sx_170 hx d_BM_sumOf_23 ?_
  refine a_nms (fun s2 hs2 => ?_)
  replace h := h s2 hs2
  refine a_aload_n (pc := 24) 0 rfl rfl d_BM_sumOf_24 ?_
  refine a_getR (pc := 25) fg_BM_69 sx_151 rfl d_BM_sumOf_25 ?_
  refine a_iconst (pc := 28) (2 : Int32) (by decide) d_BM_sumOf_28 ?_
  refine a_aload_n (pc := 29) 0 rfl rfl d_BM_sumOf_29 ?_
  refine a_getR (pc := 30) fg_BM_16 sx_151 rfl d_BM_sumOf_30 ?_
  refine a_iload_n (pc := 33) 2 rfl rfl d_BM_sumOf_33 ?_
  obtain ⟨hx, h⟩ := h
  refine a_iald (pc := 34) sx_154 hx d_BM_sumOf_34 ?_
  refine a_bipush (pc := 35) (6 : Int32) (by decide) d_BM_sumOf_35 ?_
  refine a_idiv (pc := 37) (by decide) d_BM_sumOf_37 ?_
  refine a_i2l (pc := 38) d_BM_sumOf_38 ?_
  obtain ⟨hx, h⟩ := h
  refine a_last (pc := 39) sx_170 hx d_BM_sumOf_39 ?_
  refine a_nms (fun s3 hs3 => ?_)
  replace h := h s3 hs3
  refine a_aload_n (pc := 40) 0 rfl rfl d_BM_sumOf_40 ?_
  refine a_getR (pc := 41) fg_BM_69 sx_151 rfl d_BM_sumOf_41 ?_
  refine a_iconst (pc := 44) (3 : Int32) (by decide) d_BM_sumOf_44 ?_
  refine a_aload_n (pc := 45) 0 rfl rfl d_BM_sumOf_45 ?_
  refine a_iload_n (pc := 46) 2 rfl rfl d_BM_sumOf_46 ?_
  refine a_iload_n (pc := 47) 3 rfl rfl d_BM_sumOf_47 ?_
  refine a_callV (pc := 48) (M' := m_BM_rolls) (As := [.int x2, .int x3]) (st := [.int (3 : Int32), .ref (gB g + 170)]) (mc' := 0) (ms' := 0) lk_BM_369 rfl sx_151 rfl (by decide) (by decide) rfl (Nat.le_of_ble_eq_true rfl) (Nat.le_refl 0) (Nat.le_refl 0) d_BM_sumOf_48 h ?_
  rintro _ _ s4 ⟨r5, rfl, rfl, h⟩ -
  show Ax g m_BM_sumOf 0 0 (ZJ g Q) SH s4 0 0 51 [(0, .ref (gB g + 151)), (1, .int x1), (2, .int x2), (3, .int x3)] [.int r5, .int (3 : Int32), .ref (gB g + 170)]
  refine a_i2l (pc := 51) d_BM_sumOf_51 ?_
  obtain ⟨hx, h⟩ := h
  refine a_last (pc := 52) sx_170 hx d_BM_sumOf_52 ?_
  refine a_nms (fun s6 hs6 => ?_)
  replace h := h s6 hs6
  refine a_aload_n (pc := 53) 0 rfl rfl d_BM_sumOf_53 ?_
  refine a_getR (pc := 54) fg_BM_69 sx_151 rfl d_BM_sumOf_54 ?_
  refine a_iconst (pc := 57) (4 : Int32) (by decide) d_BM_sumOf_57 ?_
  refine a_iload_n (pc := 58) 3 rfl rfl d_BM_sumOf_58 ?_
  refine a_i2l (pc := 59) d_BM_sumOf_59 ?_
  obtain ⟨hx, h⟩ := h
  refine a_last (pc := 60) sx_170 hx d_BM_sumOf_60 ?_
  refine a_nms (fun s7 hs7 => ?_)
  replace h := h s7 hs7
  refine a_aload_n (pc := 61) 0 rfl rfl d_BM_sumOf_61 ?_
  refine a_getR (pc := 62) fg_BM_69 sx_151 rfl d_BM_sumOf_62 ?_
  refine a_iconst (pc := 65) (5 : Int32) (by decide) d_BM_sumOf_65 ?_
  refine a_aload_n (pc := 66) 0 rfl rfl d_BM_sumOf_66 ?_
  refine a_getR (pc := 67) fg_BM_9 sx_151 rfl d_BM_sumOf_67 ?_
  refine a_iconst (pc := 70) (3 : Int32) (by decide) d_BM_sumOf_70 ?_
  obtain ⟨hx, h⟩ := h
  refine a_iald (pc := 71) sx_152 hx d_BM_sumOf_71 ?_
  refine a_i2l (pc := 72) d_BM_sumOf_72 ?_
  obtain ⟨hx, h⟩ := h
  refine a_last (pc := 73) sx_170 hx d_BM_sumOf_73 ?_
  refine a_nms (fun s8 hs8 => ?_)
  replace h := h s8 hs8
  refine a_aload_n (pc := 74) 0 rfl rfl d_BM_sumOf_74 ?_
  refine a_getR (pc := 75) fg_BM_69 sx_151 rfl d_BM_sumOf_75 ?_
  refine a_bipush (pc := 78) (6 : Int32) (by decide) d_BM_sumOf_78 ?_
  refine a_aload_n (pc := 80) 0 rfl rfl d_BM_sumOf_80 ?_
  refine a_bipush (pc := 81) (36 : Int32) (by decide) d_BM_sumOf_81 ?_
  refine a_callV (pc := 83) (M' := m_BM_fell) (As := [.int (36 : Int32)]) (st := [.int (6 : Int32), .ref (gB g + 170)]) (mc' := 0) (ms' := 0) lk_BM_185 rfl sx_151 rfl (by decide) (by decide) rfl (Nat.le_of_ble_eq_true rfl) (Nat.le_refl 0) (Nat.le_refl 0) d_BM_sumOf_83 h ?_
  rintro _ _ s9 ⟨r10, rfl, rfl, h⟩ -
  show Ax g m_BM_sumOf 0 0 (ZJ g Q) SH s9 0 0 86 [(0, .ref (gB g + 151)), (1, .int x1), (2, .int x2), (3, .int x3)] [.int r10, .int (6 : Int32), .ref (gB g + 170)]
  refine a_i2l (pc := 86) d_BM_sumOf_86 ?_
  obtain ⟨hx, h⟩ := h
  refine a_last (pc := 87) sx_170 hx d_BM_sumOf_87 ?_
  refine a_nms (fun s11 hs11 => ?_)
  replace h := h s11 hs11
  refine a_aload_n (pc := 88) 0 rfl rfl d_BM_sumOf_88 ?_
  refine a_getR (pc := 89) fg_BM_69 sx_151 rfl d_BM_sumOf_89 ?_
  refine a_bipush (pc := 92) (7 : Int32) (by decide) d_BM_sumOf_92 ?_
  refine a_aload_n (pc := 94) 0 rfl rfl d_BM_sumOf_94 ?_
  refine a_iload_n (pc := 95) 2 rfl rfl d_BM_sumOf_95 ?_
  refine a_callV (pc := 96) (M' := m_BM_steps) (As := [.int x2]) (st := [.int (7 : Int32), .ref (gB g + 170)]) (mc' := 0) (ms' := 0) lk_BM_372 rfl sx_151 rfl (by decide) (by decide) rfl (Nat.le_of_ble_eq_true rfl) (Nat.le_refl 0) (Nat.le_refl 0) d_BM_sumOf_96 h ?_
  rintro _ _ s12 ⟨r13, rfl, rfl, h⟩ -
  show Ax g m_BM_sumOf 0 0 (ZJ g Q) SH s12 0 0 99 [(0, .ref (gB g + 151)), (1, .int x1), (2, .int x2), (3, .int x3)] [.int r13, .int (7 : Int32), .ref (gB g + 170)]
  refine a_iconst (pc := 99) (-1 : Int32) (by decide) d_BM_sumOf_99 ?_
  refine a_icmp_ne (pc := 100) 107 (by decide) d_BM_sumOf_100 ⟨fun c0 => ?_, fun c0 => ?_⟩
  · replace h := h.1 c0
    refine a_aload_n (pc := 107) 0 rfl rfl d_BM_sumOf_107 ?_
    refine a_iload_n (pc := 108) 2 rfl rfl d_BM_sumOf_108 ?_
    refine a_callV (pc := 109) (M' := m_BM_steps) (As := [.int x2]) (st := [.int (7 : Int32), .ref (gB g + 170)]) (mc' := 0) (ms' := 0) lk_BM_372 rfl sx_151 rfl (by decide) (by decide) rfl (Nat.le_of_ble_eq_true rfl) (Nat.le_refl 0) (Nat.le_refl 0) d_BM_sumOf_109 h ?_
    rintro _ _ s14 ⟨r15, rfl, rfl, h⟩ -
    show Ax g m_BM_sumOf 0 0 (ZJ g Q) SH s14 0 0 112 [(0, .ref (gB g + 151)), (1, .int x1), (2, .int x2), (3, .int x3)] [.int r15, .int (7 : Int32), .ref (gB g + 170)]
    refine a_i2l (pc := 112) d_BM_sumOf_112 ?_
    obtain ⟨hx, h⟩ := h
    refine a_last (pc := 113) sx_170 hx d_BM_sumOf_113 ?_
    refine a_nms (fun s16 hs16 => ?_)
    replace h := h s16 hs16
    refine a_bipush (pc := 114) (12 : Int32) (by decide) d_BM_sumOf_114 ?_
    refine a_iload_n (pc := 116) 1 rfl rfl d_BM_sumOf_116 ?_
    refine a_imul (pc := 117) d_BM_sumOf_117 ?_
    refine a_nmi (pc := 118) (fun u17 hu17 => ?_)
    replace h := h u17 hu17
    refine a_istore (pc := 118) (lv' := [(4, .int u17), (0, .ref (gB g + 151)), (1, .int x1), (2, .int x2), (3, .int x3)]) (Nat.le_of_ble_eq_true rfl) rfl d_BM_sumOf_118 ?_
    refine a_sub (pc := 120) [1, 2, 0] rfl ?_
    exact h
  · replace h := h.2 c0
    refine a_lconst (pc := 103) (0 : Int64) (by decide) d_BM_sumOf_103 ?_
    refine a_goto (pc := 104) 113 (by decide) d_BM_sumOf_104 ?_
    obtain ⟨hx, h⟩ := h
    refine a_last (pc := 113) sx_170 hx d_BM_sumOf_113 ?_
    refine a_nms (fun s18 hs18 => ?_)
    replace h := h s18 hs18
    refine a_bipush (pc := 114) (12 : Int32) (by decide) d_BM_sumOf_114 ?_
    refine a_iload_n (pc := 116) 1 rfl rfl d_BM_sumOf_116 ?_
    refine a_imul (pc := 117) d_BM_sumOf_117 ?_
    refine a_nmi (pc := 118) (fun u19 hu19 => ?_)
    replace h := h u19 hu19
    refine a_istore (pc := 118) (lv' := [(4, .int u19), (0, .ref (gB g + 151)), (1, .int x1), (2, .int x2), (3, .int x3)]) (Nat.le_of_ble_eq_true rfl) rfl d_BM_sumOf_118 ?_
    refine a_sub (pc := 120) [1, 2, 0] rfl ?_
    exact h
theorem sg_BM_sumOf_120 {g : Gx} {Q : Int64 → St → Prop} {σ : St} {x1 : Int32} {x4 : Int32}
    (h : vp_in x1 6 ∧ (((((12 : Int32) * x1) + (ai σ 165 (x1).toNatClampNeg)) ≤ x4 → Q (0 : Int64) σ) ∧ (¬ (((12 : Int32) * x1) + (ai σ 165 (x1).toNatClampNeg)) ≤ x4 → vp_in x4 72 ∧ (vp_in x4 72 ∧ (((ai σ 167 (x4).toNatClampNeg) = (ai σ 168 (x4).toNatClampNeg) → vp_in x4 72 ∧ (vp_in x4 72 ∧ (K_BM_answer g x1 (ai σ 166 (x4).toNatClampNeg) (ai σ 167 (x4).toNatClampNeg) σ (fun (r2 : Int64) (s1 : St) => Q r2 s1)))) ∧ (¬ (ai σ 167 (x4).toNatClampNeg) = (ai σ 168 (x4).toNatClampNeg) → vp_in x4 72 ∧ (vp_in x4 72 ∧ (K_BM_answer g x1 (ai σ 167 (x4).toNatClampNeg) (ai σ 168 (x4).toNatClampNeg) σ (fun (r4 : Int64) (s3 : St) => (¬ (lg_cmp r4 (1 : Int64)) = 0 → ∀ u5 : Int32, u5 = x4 + (1 : Int32) → S_BM_sumOf_120 g Q s3 x1 u5) ∧ ((lg_cmp r4 (1 : Int64)) = 0 → vp_in x4 72 ∧ (vp_in x4 72 ∧ (K_BM_answer g x1 (ai s3 166 (x4).toNatClampNeg) (ai s3 167 (x4).toNatClampNeg) s3 (fun (r7 : Int64) (s6 : St) => Q r7 s6))))))))))))) : S_BM_sumOf_120 g Q σ x1 x4 := by
  show Ax g m_BM_sumOf 0 0 (ZJ g Q) SH σ 0 0 120 [(0, .ref (gB g + 151)), (1, .int x1), (4, .int x4)] []
  refine a_iload (pc := 120) 2 rfl d_BM_sumOf_120 ?_
  refine a_bipush (pc := 122) (12 : Int32) (by decide) d_BM_sumOf_122 ?_
  refine a_iload_n (pc := 124) 1 rfl rfl d_BM_sumOf_124 ?_
  refine a_imul (pc := 125) d_BM_sumOf_125 ?_
  refine a_aload_n (pc := 126) 0 rfl rfl d_BM_sumOf_126 ?_
  refine a_getR (pc := 127) fg_BM_54 sx_151 rfl d_BM_sumOf_127 ?_
  refine a_iload_n (pc := 130) 1 rfl rfl d_BM_sumOf_130 ?_
  obtain ⟨hx, h⟩ := h
  refine a_iald (pc := 131) sx_165 hx d_BM_sumOf_131 ?_
  refine a_iadd (pc := 132) d_BM_sumOf_132 ?_
  refine a_icmp_ge (pc := 133) 203 (by decide) d_BM_sumOf_133 ⟨fun c0 => ?_, fun c0 => ?_⟩
  · replace h := h.1 c0
    refine a_lconst (pc := 203) (0 : Int64) (by decide) d_BM_sumOf_203 ?_
    exact b_lret (pc := 204) rfl d_BM_sumOf_204 h
  · replace h := h.2 c0
    refine a_aload_n (pc := 136) 0 rfl rfl d_BM_sumOf_136 ?_
    refine a_getR (pc := 137) fg_BM_60 sx_151 rfl d_BM_sumOf_137 ?_
    refine a_iload (pc := 140) 2 rfl d_BM_sumOf_140 ?_
    obtain ⟨hx, h⟩ := h
    refine a_iald (pc := 142) sx_167 hx d_BM_sumOf_142 ?_
    refine a_aload_n (pc := 143) 0 rfl rfl d_BM_sumOf_143 ?_
    refine a_getR (pc := 144) fg_BM_63 sx_151 rfl d_BM_sumOf_144 ?_
    refine a_iload (pc := 147) 2 rfl d_BM_sumOf_147 ?_
    obtain ⟨hx, h⟩ := h
    refine a_iald (pc := 149) sx_168 hx d_BM_sumOf_149 ?_
    refine a_icmp_eq (pc := 150) 177 (by decide) d_BM_sumOf_150 ⟨fun c0 => ?_, fun c0 => ?_⟩
    · replace h := h.1 c0
      refine a_aload_n (pc := 177) 0 rfl rfl d_BM_sumOf_177 ?_
      refine a_iload_n (pc := 178) 1 rfl rfl d_BM_sumOf_178 ?_
      refine a_aload_n (pc := 179) 0 rfl rfl d_BM_sumOf_179 ?_
      refine a_getR (pc := 180) fg_BM_57 sx_151 rfl d_BM_sumOf_180 ?_
      refine a_iload (pc := 183) 2 rfl d_BM_sumOf_183 ?_
      obtain ⟨hx, h⟩ := h
      refine a_iald (pc := 185) sx_166 hx d_BM_sumOf_185 ?_
      refine a_aload_n (pc := 186) 0 rfl rfl d_BM_sumOf_186 ?_
      refine a_getR (pc := 187) fg_BM_60 sx_151 rfl d_BM_sumOf_187 ?_
      refine a_iload (pc := 190) 2 rfl d_BM_sumOf_190 ?_
      obtain ⟨hx, h⟩ := h
      refine a_iald (pc := 192) sx_167 hx d_BM_sumOf_192 ?_
      refine a_callV (pc := 193) (M' := m_BM_answer) (As := [.int x1, .int (ai σ 166 (x4).toNatClampNeg), .int (ai σ 167 (x4).toNatClampNeg)]) (st := []) (mc' := 0) (ms' := 0) lk_BM_374 rfl sx_151 rfl (by decide) (by decide) rfl (Nat.le_of_ble_eq_true rfl) (Nat.le_refl 0) (Nat.le_refl 0) d_BM_sumOf_193 h ?_
      rintro _ _ s1 ⟨r2, rfl, rfl, h⟩ -
      show Ax g m_BM_sumOf 0 0 (ZJ g Q) SH s1 0 0 196 [(0, .ref (gB g + 151)), (1, .int x1), (4, .int x4)] [.long r2]
      exact b_lret (pc := 196) rfl d_BM_sumOf_196 h
    · replace h := h.2 c0
      refine a_aload_n (pc := 153) 0 rfl rfl d_BM_sumOf_153 ?_
      refine a_iload_n (pc := 154) 1 rfl rfl d_BM_sumOf_154 ?_
      refine a_aload_n (pc := 155) 0 rfl rfl d_BM_sumOf_155 ?_
      refine a_getR (pc := 156) fg_BM_60 sx_151 rfl d_BM_sumOf_156 ?_
      refine a_iload (pc := 159) 2 rfl d_BM_sumOf_159 ?_
      obtain ⟨hx, h⟩ := h
      refine a_iald (pc := 161) sx_167 hx d_BM_sumOf_161 ?_
      refine a_aload_n (pc := 162) 0 rfl rfl d_BM_sumOf_162 ?_
      refine a_getR (pc := 163) fg_BM_63 sx_151 rfl d_BM_sumOf_163 ?_
      refine a_iload (pc := 166) 2 rfl d_BM_sumOf_166 ?_
      obtain ⟨hx, h⟩ := h
      refine a_iald (pc := 168) sx_168 hx d_BM_sumOf_168 ?_
      refine a_callV (pc := 169) (M' := m_BM_answer) (As := [.int x1, .int (ai σ 167 (x4).toNatClampNeg), .int (ai σ 168 (x4).toNatClampNeg)]) (st := []) (mc' := 0) (ms' := 0) lk_BM_374 rfl sx_151 rfl (by decide) (by decide) rfl (Nat.le_of_ble_eq_true rfl) (Nat.le_refl 0) (Nat.le_refl 0) d_BM_sumOf_169 h ?_
      rintro _ _ s3 ⟨r4, rfl, rfl, h⟩ -
      show Ax g m_BM_sumOf 0 0 (ZJ g Q) SH s3 0 0 172 [(0, .ref (gB g + 151)), (1, .int x1), (4, .int x4)] [.long r4]
      refine a_lconst (pc := 172) (1 : Int64) (by decide) d_BM_sumOf_172 ?_
      refine a_lcmp (pc := 173) d_BM_sumOf_173 ?_
      refine a_if_ne (pc := 174) 197 (by decide) d_BM_sumOf_174 ⟨fun c0 => ?_, fun c0 => ?_⟩
      · replace h := h.1 c0
        obtain ⟨u5, hu5⟩ : ∃ y : Int32, y = x4 + (1 : Int32) := ⟨_, rfl⟩
        replace h := h u5 hu5
        refine a_iinc (pc := 197) (v := u5) (lv' := [(4, .int u5), (0, .ref (gB g + 151)), (1, .int x1)]) 2 rfl (by rw [hu5]; rfl) (Nat.le_of_ble_eq_true rfl) rfl d_BM_sumOf_197 ?_
        refine a_goto (pc := 200) 120 (by decide) d_BM_sumOf_200 ?_
        refine a_sub (pc := 120) [1, 2, 0] rfl ?_
        exact h
      · replace h := h.2 c0
        refine a_aload_n (pc := 177) 0 rfl rfl d_BM_sumOf_177 ?_
        refine a_iload_n (pc := 178) 1 rfl rfl d_BM_sumOf_178 ?_
        refine a_aload_n (pc := 179) 0 rfl rfl d_BM_sumOf_179 ?_
        refine a_getR (pc := 180) fg_BM_57 sx_151 rfl d_BM_sumOf_180 ?_
        refine a_iload (pc := 183) 2 rfl d_BM_sumOf_183 ?_
        obtain ⟨hx, h⟩ := h
        refine a_iald (pc := 185) sx_166 hx d_BM_sumOf_185 ?_
        refine a_aload_n (pc := 186) 0 rfl rfl d_BM_sumOf_186 ?_
        refine a_getR (pc := 187) fg_BM_60 sx_151 rfl d_BM_sumOf_187 ?_
        refine a_iload (pc := 190) 2 rfl d_BM_sumOf_190 ?_
        obtain ⟨hx, h⟩ := h
        refine a_iald (pc := 192) sx_167 hx d_BM_sumOf_192 ?_
        refine a_callV (pc := 193) (M' := m_BM_answer) (As := [.int x1, .int (ai s3 166 (x4).toNatClampNeg), .int (ai s3 167 (x4).toNatClampNeg)]) (st := []) (mc' := 0) (ms' := 0) lk_BM_374 rfl sx_151 rfl (by decide) (by decide) rfl (Nat.le_of_ble_eq_true rfl) (Nat.le_refl 0) (Nat.le_refl 0) d_BM_sumOf_193 h ?_
        rintro _ _ s6 ⟨r7, rfl, rfl, h⟩ -
        show Ax g m_BM_sumOf 0 0 (ZJ g Q) SH s6 0 0 196 [(0, .ref (gB g + 151)), (1, .int x1), (4, .int x4)] [.long r7]
        exact b_lret (pc := 196) rfl d_BM_sumOf_196 h
theorem ko_BM_sumOf {g : Gx}  {x1 : Int32} {x2 : Int32} {x3 : Int32} {σ : St} {Q : Int64 → St → Prop} (h : S_BM_sumOf_0 g Q σ x1 x2 x3) : K_BM_sumOf g x1 x2 x3 σ Q := KJ.of (show plainName "BallBoxModel" = true by decide) (Nat.le_of_ble_eq_true rfl) h
theorem d_BM_rankOf_0 : decode c_BM_rankOf 0 = .ok (.aload_n 0, 1) := by decide +kernel
theorem d_BM_rankOf_1 : decode c_BM_rankOf 1 = .ok (.getfield 9, 3) := by decide +kernel
theorem d_BM_rankOf_4 : decode c_BM_rankOf 4 = .ok (.bipush 7, 2) := by decide +kernel
theorem d_BM_rankOf_6 : decode c_BM_rankOf 6 = .ok (.iaload, 1) := by decide +kernel
theorem d_BM_rankOf_7 : decode c_BM_rankOf 7 = .ok (.istore_n 3, 1) := by decide +kernel
theorem d_BM_rankOf_8 : decode c_BM_rankOf 8 = .ok (.iload_n 3, 1) := by decide +kernel
theorem d_BM_rankOf_9 : decode c_BM_rankOf 9 = .ok (.iconst (-1), 1) := by decide +kernel
theorem d_BM_rankOf_10 : decode c_BM_rankOf 10 = .ok (.if_icmp .eq 11, 3) := by decide +kernel
theorem d_BM_rankOf_13 : decode c_BM_rankOf 13 = .ok (.aload_n 0, 1) := by decide +kernel
theorem d_BM_rankOf_14 : decode c_BM_rankOf 14 = .ok (.iload_n 3, 1) := by decide +kernel
theorem d_BM_rankOf_15 : decode c_BM_rankOf 15 = .ok (.iload_n 1, 1) := by decide +kernel
theorem d_BM_rankOf_16 : decode c_BM_rankOf 16 = .ok (.iload_n 2, 1) := by decide +kernel
theorem d_BM_rankOf_17 : decode c_BM_rankOf 17 = .ok (.invokevirtual 378, 3) := by decide +kernel
theorem d_BM_rankOf_20 : decode c_BM_rankOf 20 = .ok (.lreturn, 1) := by decide +kernel
theorem d_BM_rankOf_21 : decode c_BM_rankOf 21 = .ok (.aload_n 0, 1) := by decide +kernel
theorem d_BM_rankOf_22 : decode c_BM_rankOf 22 = .ok (.getfield 16, 3) := by decide +kernel
theorem d_BM_rankOf_25 : decode c_BM_rankOf 25 = .ok (.iload_n 1, 1) := by decide +kernel
theorem d_BM_rankOf_26 : decode c_BM_rankOf 26 = .ok (.iaload, 1) := by decide +kernel
theorem d_BM_rankOf_27 : decode c_BM_rankOf 27 = .ok (.bipush 6, 2) := by decide +kernel
theorem d_BM_rankOf_29 : decode c_BM_rankOf 29 = .ok (.irem, 1) := by decide +kernel
theorem d_BM_rankOf_30 : decode c_BM_rankOf 30 = .ok (.istore 4, 2) := by decide +kernel
theorem d_BM_rankOf_32 : decode c_BM_rankOf 32 = .ok (.aload_n 0, 1) := by decide +kernel
theorem d_BM_rankOf_33 : decode c_BM_rankOf 33 = .ok (.getfield 16, 3) := by decide +kernel
theorem d_BM_rankOf_36 : decode c_BM_rankOf 36 = .ok (.iload_n 1, 1) := by decide +kernel
theorem d_BM_rankOf_37 : decode c_BM_rankOf 37 = .ok (.iaload, 1) := by decide +kernel
theorem d_BM_rankOf_38 : decode c_BM_rankOf 38 = .ok (.bipush 6, 2) := by decide +kernel
theorem d_BM_rankOf_40 : decode c_BM_rankOf 40 = .ok (.idiv, 1) := by decide +kernel
theorem d_BM_rankOf_41 : decode c_BM_rankOf 41 = .ok (.istore 5, 2) := by decide +kernel
theorem d_BM_rankOf_43 : decode c_BM_rankOf 43 = .ok (.iload_n 2, 1) := by decide +kernel
theorem d_BM_rankOf_44 : decode c_BM_rankOf 44 = .ok (.ifCond .ne 9, 3) := by decide +kernel
theorem d_BM_rankOf_47 : decode c_BM_rankOf 47 = .ok (.iload 5, 2) := by decide +kernel
theorem d_BM_rankOf_49 : decode c_BM_rankOf 49 = .ok (.i2l, 1) := by decide +kernel
theorem d_BM_rankOf_50 : decode c_BM_rankOf 50 = .ok (.goto 30, 3) := by decide +kernel
theorem d_BM_rankOf_53 : decode c_BM_rankOf 53 = .ok (.iload_n 2, 1) := by decide +kernel
theorem d_BM_rankOf_54 : decode c_BM_rankOf 54 = .ok (.iconst 1, 1) := by decide +kernel
theorem d_BM_rankOf_55 : decode c_BM_rankOf 55 = .ok (.if_icmp .ne 10, 3) := by decide +kernel
theorem d_BM_rankOf_58 : decode c_BM_rankOf 58 = .ok (.iload 4, 2) := by decide +kernel
theorem d_BM_rankOf_60 : decode c_BM_rankOf 60 = .ok (.ineg, 1) := by decide +kernel
theorem d_BM_rankOf_61 : decode c_BM_rankOf 61 = .ok (.i2l, 1) := by decide +kernel
theorem d_BM_rankOf_62 : decode c_BM_rankOf 62 = .ok (.goto 18, 3) := by decide +kernel
theorem d_BM_rankOf_65 : decode c_BM_rankOf 65 = .ok (.iload_n 2, 1) := by decide +kernel
theorem d_BM_rankOf_66 : decode c_BM_rankOf 66 = .ok (.iconst 2, 1) := by decide +kernel
theorem d_BM_rankOf_67 : decode c_BM_rankOf 67 = .ok (.if_icmp .ne 10, 3) := by decide +kernel
theorem d_BM_rankOf_70 : decode c_BM_rankOf 70 = .ok (.iload 5, 2) := by decide +kernel
theorem d_BM_rankOf_72 : decode c_BM_rankOf 72 = .ok (.ineg, 1) := by decide +kernel
theorem d_BM_rankOf_73 : decode c_BM_rankOf 73 = .ok (.i2l, 1) := by decide +kernel
theorem d_BM_rankOf_74 : decode c_BM_rankOf 74 = .ok (.goto 6, 3) := by decide +kernel
theorem d_BM_rankOf_77 : decode c_BM_rankOf 77 = .ok (.iload 4, 2) := by decide +kernel
theorem d_BM_rankOf_79 : decode c_BM_rankOf 79 = .ok (.i2l, 1) := by decide +kernel
theorem d_BM_rankOf_80 : decode c_BM_rankOf 80 = .ok (.lreturn, 1) := by decide +kernel
def S_BM_rankOf_0 (g : Gx) (Q : Int64 → St → Prop) (σ : St) (x1 : Int32) (x2 : Int32) : Prop := Ax g m_BM_rankOf 0 0 (ZJ g Q) SH σ 0 0 0 [(0, .ref (gB g + 151)), (1, .int x1), (2, .int x2)] []
theorem sg_BM_rankOf_0 {g : Gx} {Q : Int64 → St → Prop} {σ : St} {x1 : Int32} {x2 : Int32}
    (h : vp_in (7 : Int32) 8 ∧ (∀ u1 : Int32, u1 = (ai σ 152 ((7 : Int32)).toNatClampNeg) → (u1 = (-1 : Int32) → vp_in x1 3 ∧ (∀ u2 : Int32, u2 = ((ai σ 154 (x1).toNatClampNeg) - (ai σ 154 (x1).toNatClampNeg) / (6 : Int32) * (6 : Int32)) → vp_in x1 3 ∧ (∀ u3 : Int32, u3 = ((ai σ 154 (x1).toNatClampNeg) / (6 : Int32)) → (¬ x2 = 0 → (¬ x2 = (1 : Int32) → (¬ x2 = (2 : Int32) → Q ((u2).toInt64) σ) ∧ (x2 = (2 : Int32) → Q (((-u3)).toInt64) σ)) ∧ (x2 = (1 : Int32) → Q (((-u2)).toInt64) σ)) ∧ (x2 = 0 → Q ((u3).toInt64) σ)))) ∧ (¬ u1 = (-1 : Int32) → K_BM_sumOf g u1 x1 x2 σ (fun (r5 : Int64) (s4 : St) => Q r5 s4)))) : S_BM_rankOf_0 g Q σ x1 x2 := by
  show Ax g m_BM_rankOf 0 0 (ZJ g Q) SH σ 0 0 0 [(0, .ref (gB g + 151)), (1, .int x1), (2, .int x2)] []
  refine a_aload_n (pc := 0) 0 rfl rfl d_BM_rankOf_0 ?_
  refine a_getR (pc := 1) fg_BM_9 sx_151 rfl d_BM_rankOf_1 ?_
  refine a_bipush (pc := 4) (7 : Int32) (by decide) d_BM_rankOf_4 ?_
  obtain ⟨hx, h⟩ := h
  refine a_iald (pc := 6) sx_152 hx d_BM_rankOf_6 ?_
  refine a_nmi (pc := 7) (fun u1 hu1 => ?_)
  replace h := h u1 hu1
  refine a_istore_n (pc := 7) (lv' := [(3, .int u1), (0, .ref (gB g + 151)), (1, .int x1), (2, .int x2)]) rfl (Nat.le_of_ble_eq_true rfl) rfl d_BM_rankOf_7 ?_
  refine a_iload_n (pc := 8) 0 rfl rfl d_BM_rankOf_8 ?_
  refine a_iconst (pc := 9) (-1 : Int32) (by decide) d_BM_rankOf_9 ?_
  refine a_icmp_eq (pc := 10) 21 (by decide) d_BM_rankOf_10 ⟨fun c0 => ?_, fun c0 => ?_⟩
  · replace h := h.1 c0
    refine a_aload_n (pc := 21) 1 rfl rfl d_BM_rankOf_21 ?_
    refine a_getR (pc := 22) fg_BM_16 sx_151 rfl d_BM_rankOf_22 ?_
    refine a_iload_n (pc := 25) 2 rfl rfl d_BM_rankOf_25 ?_
    obtain ⟨hx, h⟩ := h
    refine a_iald (pc := 26) sx_154 hx d_BM_rankOf_26 ?_
    refine a_bipush (pc := 27) (6 : Int32) (by decide) d_BM_rankOf_27 ?_
    refine a_irem (pc := 29) (by decide) d_BM_rankOf_29 ?_
    refine a_nmi (pc := 30) (fun u2 hu2 => ?_)
    replace h := h u2 hu2
    refine a_istore (pc := 30) (lv' := [(4, .int u2), (3, .int u1), (0, .ref (gB g + 151)), (1, .int x1), (2, .int x2)]) (Nat.le_of_ble_eq_true rfl) rfl d_BM_rankOf_30 ?_
    refine a_aload_n (pc := 32) 2 rfl rfl d_BM_rankOf_32 ?_
    refine a_getR (pc := 33) fg_BM_16 sx_151 rfl d_BM_rankOf_33 ?_
    refine a_iload_n (pc := 36) 3 rfl rfl d_BM_rankOf_36 ?_
    obtain ⟨hx, h⟩ := h
    refine a_iald (pc := 37) sx_154 hx d_BM_rankOf_37 ?_
    refine a_bipush (pc := 38) (6 : Int32) (by decide) d_BM_rankOf_38 ?_
    refine a_idiv (pc := 40) (by decide) d_BM_rankOf_40 ?_
    refine a_nmi (pc := 41) (fun u3 hu3 => ?_)
    replace h := h u3 hu3
    refine a_istore (pc := 41) (lv' := [(5, .int u3), (4, .int u2), (3, .int u1), (0, .ref (gB g + 151)), (1, .int x1), (2, .int x2)]) (Nat.le_of_ble_eq_true rfl) rfl d_BM_rankOf_41 ?_
    refine a_iload_n (pc := 43) 5 rfl rfl d_BM_rankOf_43 ?_
    refine a_if_ne (pc := 44) 53 (by decide) d_BM_rankOf_44 ⟨fun c0 => ?_, fun c0 => ?_⟩
    · replace h := h.1 c0
      refine a_iload_n (pc := 53) 5 rfl rfl d_BM_rankOf_53 ?_
      refine a_iconst (pc := 54) (1 : Int32) (by decide) d_BM_rankOf_54 ?_
      refine a_icmp_ne (pc := 55) 65 (by decide) d_BM_rankOf_55 ⟨fun c0 => ?_, fun c0 => ?_⟩
      · replace h := h.1 c0
        refine a_iload_n (pc := 65) 5 rfl rfl d_BM_rankOf_65 ?_
        refine a_iconst (pc := 66) (2 : Int32) (by decide) d_BM_rankOf_66 ?_
        refine a_icmp_ne (pc := 67) 77 (by decide) d_BM_rankOf_67 ⟨fun c0 => ?_, fun c0 => ?_⟩
        · replace h := h.1 c0
          refine a_iload (pc := 77) 1 rfl d_BM_rankOf_77 ?_
          refine a_i2l (pc := 79) d_BM_rankOf_79 ?_
          exact b_lret (pc := 80) rfl d_BM_rankOf_80 h
        · replace h := h.2 c0
          refine a_iload (pc := 70) 0 rfl d_BM_rankOf_70 ?_
          refine a_ineg (pc := 72) d_BM_rankOf_72 ?_
          refine a_i2l (pc := 73) d_BM_rankOf_73 ?_
          refine a_goto (pc := 74) 80 (by decide) d_BM_rankOf_74 ?_
          exact b_lret (pc := 80) rfl d_BM_rankOf_80 h
      · replace h := h.2 c0
        refine a_iload (pc := 58) 1 rfl d_BM_rankOf_58 ?_
        refine a_ineg (pc := 60) d_BM_rankOf_60 ?_
        refine a_i2l (pc := 61) d_BM_rankOf_61 ?_
        refine a_goto (pc := 62) 80 (by decide) d_BM_rankOf_62 ?_
        exact b_lret (pc := 80) rfl d_BM_rankOf_80 h
    · replace h := h.2 c0
      refine a_iload (pc := 47) 0 rfl d_BM_rankOf_47 ?_
      refine a_i2l (pc := 49) d_BM_rankOf_49 ?_
      refine a_goto (pc := 50) 80 (by decide) d_BM_rankOf_50 ?_
      exact b_lret (pc := 80) rfl d_BM_rankOf_80 h
  · replace h := h.2 c0
    refine a_aload_n (pc := 13) 1 rfl rfl d_BM_rankOf_13 ?_
    refine a_iload_n (pc := 14) 0 rfl rfl d_BM_rankOf_14 ?_
    refine a_iload_n (pc := 15) 2 rfl rfl d_BM_rankOf_15 ?_
    refine a_iload_n (pc := 16) 3 rfl rfl d_BM_rankOf_16 ?_
    refine a_callV (pc := 17) (M' := m_BM_sumOf) (As := [.int u1, .int x1, .int x2]) (st := []) (mc' := 0) (ms' := 0) lk_BM_378 rfl sx_151 rfl (by decide) (by decide) rfl (Nat.le_of_ble_eq_true rfl) (Nat.le_refl 0) (Nat.le_refl 0) d_BM_rankOf_17 h ?_
    rintro _ _ s4 ⟨r5, rfl, rfl, h⟩ -
    show Ax g m_BM_rankOf 0 0 (ZJ g Q) SH s4 0 0 20 [(3, .int u1), (0, .ref (gB g + 151)), (1, .int x1), (2, .int x2)] [.long r5]
    exact b_lret (pc := 20) rfl d_BM_rankOf_20 h
theorem ko_BM_rankOf {g : Gx}  {x1 : Int32} {x2 : Int32} {σ : St} {Q : Int64 → St → Prop} (h : S_BM_rankOf_0 g Q σ x1 x2) : K_BM_rankOf g x1 x2 σ Q := KJ.of (show plainName "BallBoxModel" = true by decide) (Nat.le_of_ble_eq_true rfl) h
theorem d_BM_tips_0 : decode c_BM_tips 0 = .ok (.iconst 0, 1) := by decide +kernel
theorem d_BM_tips_1 : decode c_BM_tips 1 = .ok (.istore_n 2, 1) := by decide +kernel
theorem d_BM_tips_2 : decode c_BM_tips 2 = .ok (.iconst 0, 1) := by decide +kernel
theorem d_BM_tips_3 : decode c_BM_tips 3 = .ok (.istore_n 3, 1) := by decide +kernel
theorem d_BM_tips_4 : decode c_BM_tips 4 = .ok (.iload_n 3, 1) := by decide +kernel
theorem d_BM_tips_5 : decode c_BM_tips 5 = .ok (.aload_n 0, 1) := by decide +kernel
theorem d_BM_tips_6 : decode c_BM_tips 6 = .ok (.getfield 9, 3) := by decide +kernel
theorem d_BM_tips_9 : decode c_BM_tips 9 = .ok (.iconst 2, 1) := by decide +kernel
theorem d_BM_tips_10 : decode c_BM_tips 10 = .ok (.iaload, 1) := by decide +kernel
theorem d_BM_tips_11 : decode c_BM_tips 11 = .ok (.if_icmp .ge 97, 3) := by decide +kernel
theorem d_BM_tips_14 : decode c_BM_tips 14 = .ok (.aload_n 0, 1) := by decide +kernel
theorem d_BM_tips_15 : decode c_BM_tips 15 = .ok (.getfield 16, 3) := by decide +kernel
theorem d_BM_tips_18 : decode c_BM_tips 18 = .ok (.iload_n 3, 1) := by decide +kernel
theorem d_BM_tips_19 : decode c_BM_tips 19 = .ok (.iaload, 1) := by decide +kernel
theorem d_BM_tips_20 : decode c_BM_tips 20 = .ok (.bipush 36, 2) := by decide +kernel
theorem d_BM_tips_22 : decode c_BM_tips 22 = .ok (.if_icmp .ge 80, 3) := by decide +kernel
theorem d_BM_tips_25 : decode c_BM_tips 25 = .ok (.aload_n 0, 1) := by decide +kernel
theorem d_BM_tips_26 : decode c_BM_tips 26 = .ok (.getfield 79, 3) := by decide +kernel
theorem d_BM_tips_29 : decode c_BM_tips 29 = .ok (.iload_n 3, 1) := by decide +kernel
theorem d_BM_tips_30 : decode c_BM_tips 30 = .ok (.aload_n 0, 1) := by decide +kernel
theorem d_BM_tips_31 : decode c_BM_tips 31 = .ok (.iload_n 3, 1) := by decide +kernel
theorem d_BM_tips_32 : decode c_BM_tips 32 = .ok (.iload_n 1, 1) := by decide +kernel
theorem d_BM_tips_33 : decode c_BM_tips 33 = .ok (.invokevirtual 381, 3) := by decide +kernel
theorem d_BM_tips_36 : decode c_BM_tips 36 = .ok (.lastore, 1) := by decide +kernel
theorem d_BM_tips_37 : decode c_BM_tips 37 = .ok (.iload_n 2, 1) := by decide +kernel
theorem d_BM_tips_38 : decode c_BM_tips 38 = .ok (.istore 4, 2) := by decide +kernel
theorem d_BM_tips_40 : decode c_BM_tips 40 = .ok (.iload 4, 2) := by decide +kernel
theorem d_BM_tips_42 : decode c_BM_tips 42 = .ok (.ifCond .le 49, 3) := by decide +kernel
theorem d_BM_tips_45 : decode c_BM_tips 45 = .ok (.aload_n 0, 1) := by decide +kernel
theorem d_BM_tips_46 : decode c_BM_tips 46 = .ok (.getfield 79, 3) := by decide +kernel
theorem d_BM_tips_49 : decode c_BM_tips 49 = .ok (.aload_n 0, 1) := by decide +kernel
theorem d_BM_tips_50 : decode c_BM_tips 50 = .ok (.getfield 76, 3) := by decide +kernel
theorem d_BM_tips_53 : decode c_BM_tips 53 = .ok (.iload 4, 2) := by decide +kernel
theorem d_BM_tips_55 : decode c_BM_tips 55 = .ok (.iconst 1, 1) := by decide +kernel
theorem d_BM_tips_56 : decode c_BM_tips 56 = .ok (.isub, 1) := by decide +kernel
theorem d_BM_tips_57 : decode c_BM_tips 57 = .ok (.iaload, 1) := by decide +kernel
theorem d_BM_tips_58 : decode c_BM_tips 58 = .ok (.laload, 1) := by decide +kernel
theorem d_BM_tips_59 : decode c_BM_tips 59 = .ok (.aload_n 0, 1) := by decide +kernel
theorem d_BM_tips_60 : decode c_BM_tips 60 = .ok (.getfield 79, 3) := by decide +kernel
theorem d_BM_tips_63 : decode c_BM_tips 63 = .ok (.iload_n 3, 1) := by decide +kernel
theorem d_BM_tips_64 : decode c_BM_tips 64 = .ok (.laload, 1) := by decide +kernel
theorem d_BM_tips_65 : decode c_BM_tips 65 = .ok (.lcmp, 1) := by decide +kernel
theorem d_BM_tips_66 : decode c_BM_tips 66 = .ok (.ifCond .le 25, 3) := by decide +kernel
theorem d_BM_tips_69 : decode c_BM_tips 69 = .ok (.aload_n 0, 1) := by decide +kernel
theorem d_BM_tips_70 : decode c_BM_tips 70 = .ok (.getfield 76, 3) := by decide +kernel
theorem d_BM_tips_73 : decode c_BM_tips 73 = .ok (.iload 4, 2) := by decide +kernel
theorem d_BM_tips_75 : decode c_BM_tips 75 = .ok (.aload_n 0, 1) := by decide +kernel
theorem d_BM_tips_76 : decode c_BM_tips 76 = .ok (.getfield 76, 3) := by decide +kernel
theorem d_BM_tips_79 : decode c_BM_tips 79 = .ok (.iload 4, 2) := by decide +kernel
theorem d_BM_tips_81 : decode c_BM_tips 81 = .ok (.iconst 1, 1) := by decide +kernel
theorem d_BM_tips_82 : decode c_BM_tips 82 = .ok (.isub, 1) := by decide +kernel
theorem d_BM_tips_83 : decode c_BM_tips 83 = .ok (.iaload, 1) := by decide +kernel
theorem d_BM_tips_84 : decode c_BM_tips 84 = .ok (.iastore, 1) := by decide +kernel
theorem d_BM_tips_85 : decode c_BM_tips 85 = .ok (.iinc 4 (-1), 3) := by decide +kernel
theorem d_BM_tips_88 : decode c_BM_tips 88 = .ok (.goto (-48), 3) := by decide +kernel
theorem d_BM_tips_91 : decode c_BM_tips 91 = .ok (.aload_n 0, 1) := by decide +kernel
theorem d_BM_tips_92 : decode c_BM_tips 92 = .ok (.getfield 76, 3) := by decide +kernel
theorem d_BM_tips_95 : decode c_BM_tips 95 = .ok (.iload 4, 2) := by decide +kernel
theorem d_BM_tips_97 : decode c_BM_tips 97 = .ok (.iload_n 3, 1) := by decide +kernel
theorem d_BM_tips_98 : decode c_BM_tips 98 = .ok (.iastore, 1) := by decide +kernel
theorem d_BM_tips_99 : decode c_BM_tips 99 = .ok (.iinc 2 1, 3) := by decide +kernel
theorem d_BM_tips_102 : decode c_BM_tips 102 = .ok (.iinc 3 1, 3) := by decide +kernel
theorem d_BM_tips_105 : decode c_BM_tips 105 = .ok (.goto (-101), 3) := by decide +kernel
theorem d_BM_tips_108 : decode c_BM_tips 108 = .ok (.aload_n 0, 1) := by decide +kernel
theorem d_BM_tips_109 : decode c_BM_tips 109 = .ok (.iconst 0, 1) := by decide +kernel
theorem d_BM_tips_110 : decode c_BM_tips 110 = .ok (.putfield 385, 3) := by decide +kernel
theorem d_BM_tips_113 : decode c_BM_tips 113 = .ok (.aload_n 0, 1) := by decide +kernel
theorem d_BM_tips_114 : decode c_BM_tips 114 = .ok (.iconst 0, 1) := by decide +kernel
theorem d_BM_tips_115 : decode c_BM_tips 115 = .ok (.putfield 388, 3) := by decide +kernel
theorem d_BM_tips_118 : decode c_BM_tips 118 = .ok (.iconst 0, 1) := by decide +kernel
theorem d_BM_tips_119 : decode c_BM_tips 119 = .ok (.istore_n 3, 1) := by decide +kernel
theorem d_BM_tips_120 : decode c_BM_tips 120 = .ok (.iload_n 3, 1) := by decide +kernel
theorem d_BM_tips_121 : decode c_BM_tips 121 = .ok (.iload_n 2, 1) := by decide +kernel
theorem d_BM_tips_122 : decode c_BM_tips 122 = .ok (.if_icmp .ge 131, 3) := by decide +kernel
theorem d_BM_tips_125 : decode c_BM_tips 125 = .ok (.aload_n 0, 1) := by decide +kernel
theorem d_BM_tips_126 : decode c_BM_tips 126 = .ok (.getfield 76, 3) := by decide +kernel
theorem d_BM_tips_129 : decode c_BM_tips 129 = .ok (.iload_n 3, 1) := by decide +kernel
theorem d_BM_tips_130 : decode c_BM_tips 130 = .ok (.iaload, 1) := by decide +kernel
theorem d_BM_tips_131 : decode c_BM_tips 131 = .ok (.istore 4, 2) := by decide +kernel
theorem d_BM_tips_133 : decode c_BM_tips 133 = .ok (.aload_n 0, 1) := by decide +kernel
theorem d_BM_tips_134 : decode c_BM_tips 134 = .ok (.iload 4, 2) := by decide +kernel
theorem d_BM_tips_136 : decode c_BM_tips 136 = .ok (.iload_n 1, 1) := by decide +kernel
theorem d_BM_tips_137 : decode c_BM_tips 137 = .ok (.invokevirtual 369, 3) := by decide +kernel
theorem d_BM_tips_140 : decode c_BM_tips 140 = .ok (.istore 5, 2) := by decide +kernel
theorem d_BM_tips_142 : decode c_BM_tips 142 = .ok (.aload_n 0, 1) := by decide +kernel
theorem d_BM_tips_143 : decode c_BM_tips 143 = .ok (.getfield 363, 3) := by decide +kernel
theorem d_BM_tips_146 : decode c_BM_tips 146 = .ok (.istore 6, 2) := by decide +kernel
theorem d_BM_tips_148 : decode c_BM_tips 148 = .ok (.aload_n 0, 1) := by decide +kernel
theorem d_BM_tips_149 : decode c_BM_tips 149 = .ok (.getfield 13, 3) := by decide +kernel
theorem d_BM_tips_152 : decode c_BM_tips 152 = .ok (.iload 6, 2) := by decide +kernel
theorem d_BM_tips_154 : decode c_BM_tips 154 = .ok (.iaload, 1) := by decide +kernel
theorem d_BM_tips_155 : decode c_BM_tips 155 = .ok (.iconst 2, 1) := by decide +kernel
theorem d_BM_tips_156 : decode c_BM_tips 156 = .ok (.if_icmp .lt 7, 3) := by decide +kernel
theorem d_BM_tips_159 : decode c_BM_tips 159 = .ok (.iconst 1, 1) := by decide +kernel
theorem d_BM_tips_160 : decode c_BM_tips 160 = .ok (.goto 4, 3) := by decide +kernel
theorem d_BM_tips_163 : decode c_BM_tips 163 = .ok (.iconst 0, 1) := by decide +kernel
theorem d_BM_tips_164 : decode c_BM_tips 164 = .ok (.istore 7, 2) := by decide +kernel
theorem d_BM_tips_166 : decode c_BM_tips 166 = .ok (.aload_n 0, 1) := by decide +kernel
theorem d_BM_tips_167 : decode c_BM_tips 167 = .ok (.getfield 16, 3) := by decide +kernel
theorem d_BM_tips_170 : decode c_BM_tips 170 = .ok (.iload 4, 2) := by decide +kernel
theorem d_BM_tips_172 : decode c_BM_tips 172 = .ok (.iload 7, 2) := by decide +kernel
theorem d_BM_tips_174 : decode c_BM_tips 174 = .ok (.ifCond .ne 8, 3) := by decide +kernel
theorem d_BM_tips_177 : decode c_BM_tips 177 = .ok (.iload 6, 2) := by decide +kernel
theorem d_BM_tips_179 : decode c_BM_tips 179 = .ok (.goto 24, 3) := by decide +kernel
theorem d_BM_tips_182 : decode c_BM_tips 182 = .ok (.aload_n 0, 1) := by decide +kernel
theorem d_BM_tips_183 : decode c_BM_tips 183 = .ok (.getfield 13, 3) := by decide +kernel
theorem d_BM_tips_186 : decode c_BM_tips 186 = .ok (.iload 6, 2) := by decide +kernel
theorem d_BM_tips_188 : decode c_BM_tips 188 = .ok (.iaload, 1) := by decide +kernel
theorem d_BM_tips_189 : decode c_BM_tips 189 = .ok (.iconst 2, 1) := by decide +kernel
theorem d_BM_tips_190 : decode c_BM_tips 190 = .ok (.iload 4, 2) := by decide +kernel
theorem d_BM_tips_192 : decode c_BM_tips 192 = .ok (.iadd, 1) := by decide +kernel
theorem d_BM_tips_193 : decode c_BM_tips 193 = .ok (.if_icmp .ne 8, 3) := by decide +kernel
theorem d_BM_tips_196 : decode c_BM_tips 196 = .ok (.bipush 36, 2) := by decide +kernel
theorem d_BM_tips_198 : decode c_BM_tips 198 = .ok (.goto 5, 3) := by decide +kernel
theorem d_BM_tips_201 : decode c_BM_tips 201 = .ok (.bipush 37, 2) := by decide +kernel
theorem d_BM_tips_203 : decode c_BM_tips 203 = .ok (.iastore, 1) := by decide +kernel
theorem d_BM_tips_204 : decode c_BM_tips 204 = .ok (.aload_n 0, 1) := by decide +kernel
theorem d_BM_tips_205 : decode c_BM_tips 205 = .ok (.dup, 1) := by decide +kernel
theorem d_BM_tips_206 : decode c_BM_tips 206 = .ok (.getfield 388, 3) := by decide +kernel
theorem d_BM_tips_209 : decode c_BM_tips 209 = .ok (.iload 7, 2) := by decide +kernel
theorem d_BM_tips_211 : decode c_BM_tips 211 = .ok (.ifCond .eq 7, 3) := by decide +kernel
theorem d_BM_tips_214 : decode c_BM_tips 214 = .ok (.iconst 1, 1) := by decide +kernel
theorem d_BM_tips_215 : decode c_BM_tips 215 = .ok (.goto 4, 3) := by decide +kernel
theorem d_BM_tips_218 : decode c_BM_tips 218 = .ok (.iconst 0, 1) := by decide +kernel
theorem d_BM_tips_219 : decode c_BM_tips 219 = .ok (.iadd, 1) := by decide +kernel
theorem d_BM_tips_220 : decode c_BM_tips 220 = .ok (.putfield 388, 3) := by decide +kernel
theorem d_BM_tips_223 : decode c_BM_tips 223 = .ok (.aload_n 0, 1) := by decide +kernel
theorem d_BM_tips_224 : decode c_BM_tips 224 = .ok (.dup, 1) := by decide +kernel
theorem d_BM_tips_225 : decode c_BM_tips 225 = .ok (.getfield 385, 3) := by decide +kernel
theorem d_BM_tips_228 : decode c_BM_tips 228 = .ok (.iload 7, 2) := by decide +kernel
theorem d_BM_tips_230 : decode c_BM_tips 230 = .ok (.ifCond .ne 12, 3) := by decide +kernel
theorem d_BM_tips_233 : decode c_BM_tips 233 = .ok (.iload 5, 2) := by decide +kernel
theorem d_BM_tips_235 : decode c_BM_tips 235 = .ok (.ifCond .le 7, 3) := by decide +kernel
theorem d_BM_tips_238 : decode c_BM_tips 238 = .ok (.iconst 1, 1) := by decide +kernel
theorem d_BM_tips_239 : decode c_BM_tips 239 = .ok (.goto 4, 3) := by decide +kernel
theorem d_BM_tips_242 : decode c_BM_tips 242 = .ok (.iconst 0, 1) := by decide +kernel
theorem d_BM_tips_243 : decode c_BM_tips 243 = .ok (.iadd, 1) := by decide +kernel
theorem d_BM_tips_244 : decode c_BM_tips 244 = .ok (.putfield 385, 3) := by decide +kernel
theorem d_BM_tips_247 : decode c_BM_tips 247 = .ok (.iinc 3 1, 3) := by decide +kernel
theorem d_BM_tips_250 : decode c_BM_tips 250 = .ok (.goto (-130), 3) := by decide +kernel
theorem d_BM_tips_253 : decode c_BM_tips 253 = .ok (.return_, 1) := by decide +kernel
def S_BM_tips_0 (g : Gx) (Q : St → Prop) (σ : St) (x1 : Int32) : Prop := Ax g m_BM_tips 0 0 (ZV g Q) SH σ 0 0 0 [(0, .ref (gB g + 151)), (1, .int x1)] []
def S_BM_tips_4 (g : Gx) (Q : St → Prop) (σ : St) (x1 : Int32) (x2 : Int32) (x3 : Int32) : Prop := Ax g m_BM_tips 0 0 (ZV g Q) SH σ 0 0 4 [(0, .ref (gB g + 151)), (1, .int x1), (2, .int x2), (3, .int x3)] []
def S_BM_tips_120 (g : Gx) (Q : St → Prop) (σ : St) (x1 : Int32) (x2 : Int32) (x3 : Int32) : Prop := Ax g m_BM_tips 0 0 (ZV g Q) SH σ 0 0 120 [(0, .ref (gB g + 151)), (1, .int x1), (2, .int x2), (3, .int x3)] []
def S_BM_tips_40 (g : Gx) (Q : St → Prop) (σ : St) (x1 : Int32) (x2 : Int32) (x3 : Int32) (x4 : Int32) : Prop := Ax g m_BM_tips 0 0 (ZV g Q) SH σ 0 0 40 [(0, .ref (gB g + 151)), (1, .int x1), (2, .int x2), (3, .int x3), (4, .int x4)] []
def S_BM_tips_164 (g : Gx) (Q : St → Prop) (σ : St) (x1 : Int32) (x2 : Int32) (x3 : Int32) (x4 : Int32) (x5 : Int32) (x6 : Int32) (z0 : Int32) : Prop := Ax g m_BM_tips 0 0 (ZV g Q) SH σ 0 0 164 [(0, .ref (gB g + 151)), (1, .int x1), (2, .int x2), (3, .int x3), (4, .int x4), (5, .int x5), (6, .int x6)] [.int z0]
def S_BM_tips_219 (g : Gx) (Q : St → Prop) (σ : St) (x1 : Int32) (x2 : Int32) (x3 : Int32) (x5 : Int32) (x7 : Int32) (z0 : Int32) (z1 : Int32) : Prop := Ax g m_BM_tips 0 0 (ZV g Q) SH σ 0 0 219 [(0, .ref (gB g + 151)), (1, .int x1), (2, .int x2), (3, .int x3), (5, .int x5), (7, .int x7)] [.int z0, .int z1, .ref (gB g + 151)]
theorem sg_BM_tips_0 {g : Gx} {Q : St → Prop} {σ : St} {x1 : Int32}
    (h : S_BM_tips_4 g Q σ x1 (0 : Int32) (0 : Int32)) : S_BM_tips_0 g Q σ x1 := by
  show Ax g m_BM_tips 0 0 (ZV g Q) SH σ 0 0 0 [(0, .ref (gB g + 151)), (1, .int x1)] []
  refine a_iconst (pc := 0) (0 : Int32) (by decide) d_BM_tips_0 ?_
  refine a_istore_n (pc := 1) (lv' := [(2, .int (0 : Int32)), (0, .ref (gB g + 151)), (1, .int x1)]) rfl (Nat.le_of_ble_eq_true rfl) rfl d_BM_tips_1 ?_
  refine a_iconst (pc := 2) (0 : Int32) (by decide) d_BM_tips_2 ?_
  refine a_istore_n (pc := 3) (lv' := [(3, .int (0 : Int32)), (2, .int (0 : Int32)), (0, .ref (gB g + 151)), (1, .int x1)]) rfl (Nat.le_of_ble_eq_true rfl) rfl d_BM_tips_3 ?_
  refine a_sub (pc := 4) [2, 3, 1, 0] rfl ?_
  exact h
theorem sg_BM_tips_4 {g : Gx} {Q : St → Prop} {σ : St} {x1 : Int32} {x2 : Int32} {x3 : Int32}
    (h : vp_in (2 : Int32) 8 ∧ (((ai σ 152 ((2 : Int32)).toNatClampNeg) ≤ x3 → ∀ s1 : St, s1 = sfi σ 151 35 (0 : Int32) → ∀ s2 : St, s2 = sfi s1 151 36 (0 : Int32) → S_BM_tips_120 g Q s2 x1 x2 (0 : Int32)) ∧ (¬ (ai σ 152 ((2 : Int32)).toNatClampNeg) ≤ x3 → vp_in x3 3 ∧ (((36 : Int32) ≤ (ai σ 154 (x3).toNatClampNeg) → ∀ u3 : Int32, u3 = x3 + (1 : Int32) → S_BM_tips_4 g Q σ x1 x2 u3) ∧ (¬ (36 : Int32) ≤ (ai σ 154 (x3).toNatClampNeg) → K_BM_rankOf g x3 x1 σ (fun (r5 : Int64) (s4 : St) => vp_in x3 3 ∧ (∀ s6 : St, s6 = saj s4 173 (x3).toNatClampNeg r5 → S_BM_tips_40 g Q s6 x1 x2 x3 x2))))))) : S_BM_tips_4 g Q σ x1 x2 x3 := by
  show Ax g m_BM_tips 0 0 (ZV g Q) SH σ 0 0 4 [(0, .ref (gB g + 151)), (1, .int x1), (2, .int x2), (3, .int x3)] []
  refine a_iload_n (pc := 4) 3 rfl rfl d_BM_tips_4 ?_
  refine a_aload_n (pc := 5) 0 rfl rfl d_BM_tips_5 ?_
  refine a_getR (pc := 6) fg_BM_9 sx_151 rfl d_BM_tips_6 ?_
  refine a_iconst (pc := 9) (2 : Int32) (by decide) d_BM_tips_9 ?_
  obtain ⟨hx, h⟩ := h
  refine a_iald (pc := 10) sx_152 hx d_BM_tips_10 ?_
  refine a_icmp_ge (pc := 11) 108 (by decide) d_BM_tips_11 ⟨fun c0 => ?_, fun c0 => ?_⟩
  · replace h := h.1 c0
    refine a_aload_n (pc := 108) 0 rfl rfl d_BM_tips_108 ?_
    refine a_iconst (pc := 109) (0 : Int32) (by decide) d_BM_tips_109 ?_
    refine a_putI (pc := 110) fp_BM_385 sx_151 rfl d_BM_tips_110 ?_
    refine a_nms (fun s1 hs1 => ?_)
    replace h := h s1 hs1
    refine a_aload_n (pc := 113) 0 rfl rfl d_BM_tips_113 ?_
    refine a_iconst (pc := 114) (0 : Int32) (by decide) d_BM_tips_114 ?_
    refine a_putI (pc := 115) fp_BM_388 sx_151 rfl d_BM_tips_115 ?_
    refine a_nms (fun s2 hs2 => ?_)
    replace h := h s2 hs2
    refine a_iconst (pc := 118) (0 : Int32) (by decide) d_BM_tips_118 ?_
    refine a_istore_n (pc := 119) (lv' := [(3, .int (0 : Int32)), (0, .ref (gB g + 151)), (1, .int x1), (2, .int x2)]) rfl (Nat.le_of_ble_eq_true rfl) rfl d_BM_tips_119 ?_
    refine a_sub (pc := 120) [1, 2, 3, 0] rfl ?_
    exact h
  · replace h := h.2 c0
    refine a_aload_n (pc := 14) 0 rfl rfl d_BM_tips_14 ?_
    refine a_getR (pc := 15) fg_BM_16 sx_151 rfl d_BM_tips_15 ?_
    refine a_iload_n (pc := 18) 3 rfl rfl d_BM_tips_18 ?_
    obtain ⟨hx, h⟩ := h
    refine a_iald (pc := 19) sx_154 hx d_BM_tips_19 ?_
    refine a_bipush (pc := 20) (36 : Int32) (by decide) d_BM_tips_20 ?_
    refine a_icmp_ge (pc := 22) 102 (by decide) d_BM_tips_22 ⟨fun c0 => ?_, fun c0 => ?_⟩
    · replace h := h.1 c0
      obtain ⟨u3, hu3⟩ : ∃ y : Int32, y = x3 + (1 : Int32) := ⟨_, rfl⟩
      replace h := h u3 hu3
      refine a_iinc (pc := 102) (v := u3) (lv' := [(3, .int u3), (0, .ref (gB g + 151)), (1, .int x1), (2, .int x2)]) 3 rfl (by rw [hu3]; rfl) (Nat.le_of_ble_eq_true rfl) rfl d_BM_tips_102 ?_
      refine a_goto (pc := 105) 4 (by decide) d_BM_tips_105 ?_
      refine a_sub (pc := 4) [1, 2, 3, 0] rfl ?_
      exact h
    · replace h := h.2 c0
      refine a_aload_n (pc := 25) 0 rfl rfl d_BM_tips_25 ?_
      refine a_getR (pc := 26) fg_BM_79 sx_151 rfl d_BM_tips_26 ?_
      refine a_iload_n (pc := 29) 3 rfl rfl d_BM_tips_29 ?_
      refine a_aload_n (pc := 30) 0 rfl rfl d_BM_tips_30 ?_
      refine a_iload_n (pc := 31) 3 rfl rfl d_BM_tips_31 ?_
      refine a_iload_n (pc := 32) 1 rfl rfl d_BM_tips_32 ?_
      refine a_callV (pc := 33) (M' := m_BM_rankOf) (As := [.int x3, .int x1]) (st := [.int x3, .ref (gB g + 173)]) (mc' := 0) (ms' := 0) lk_BM_381 rfl sx_151 rfl (by decide) (by decide) rfl (Nat.le_of_ble_eq_true rfl) (Nat.le_refl 0) (Nat.le_refl 0) d_BM_tips_33 h ?_
      rintro _ _ s4 ⟨r5, rfl, rfl, h⟩ -
      show Ax g m_BM_tips 0 0 (ZV g Q) SH s4 0 0 36 [(0, .ref (gB g + 151)), (1, .int x1), (2, .int x2), (3, .int x3)] [.long r5, .int x3, .ref (gB g + 173)]
      obtain ⟨hx, h⟩ := h
      refine a_last (pc := 36) sx_173 hx d_BM_tips_36 ?_
      refine a_nms (fun s6 hs6 => ?_)
      replace h := h s6 hs6
      refine a_iload_n (pc := 37) 2 rfl rfl d_BM_tips_37 ?_
      refine a_istore (pc := 38) (lv' := [(4, .int x2), (0, .ref (gB g + 151)), (1, .int x1), (2, .int x2), (3, .int x3)]) (Nat.le_of_ble_eq_true rfl) rfl d_BM_tips_38 ?_
      refine a_sub (pc := 40) [1, 2, 3, 4, 0] rfl ?_
      exact h
theorem sg_BM_tips_120 {g : Gx} {Q : St → Prop} {σ : St} {x1 : Int32} {x2 : Int32} {x3 : Int32}
    (h : (x2 ≤ x3 → Q σ) ∧ (¬ x2 ≤ x3 → vp_in x3 3 ∧ (∀ u1 : Int32, u1 = (ai σ 172 (x3).toNatClampNeg) → K_BM_rolls g u1 x1 σ (fun (r3 : Int32) (s2 : St) => ∀ u4 : Int32, u4 = (fi s2 151 32) → vp_in u4 36 ∧ (((ai s2 153 (u4).toNatClampNeg) < (2 : Int32) → S_BM_tips_164 g Q s2 x1 x2 x3 u1 r3 u4 (0 : Int32)) ∧ (¬ (ai s2 153 (u4).toNatClampNeg) < (2 : Int32) → S_BM_tips_164 g Q s2 x1 x2 x3 u1 r3 u4 (1 : Int32))))))) : S_BM_tips_120 g Q σ x1 x2 x3 := by
  show Ax g m_BM_tips 0 0 (ZV g Q) SH σ 0 0 120 [(0, .ref (gB g + 151)), (1, .int x1), (2, .int x2), (3, .int x3)] []
  refine a_iload_n (pc := 120) 3 rfl rfl d_BM_tips_120 ?_
  refine a_iload_n (pc := 121) 2 rfl rfl d_BM_tips_121 ?_
  refine a_icmp_ge (pc := 122) 253 (by decide) d_BM_tips_122 ⟨fun c0 => ?_, fun c0 => ?_⟩
  · replace h := h.1 c0
    exact b_vret (pc := 253) rfl d_BM_tips_253 h
  · replace h := h.2 c0
    refine a_aload_n (pc := 125) 0 rfl rfl d_BM_tips_125 ?_
    refine a_getR (pc := 126) fg_BM_76 sx_151 rfl d_BM_tips_126 ?_
    refine a_iload_n (pc := 129) 3 rfl rfl d_BM_tips_129 ?_
    obtain ⟨hx, h⟩ := h
    refine a_iald (pc := 130) sx_172 hx d_BM_tips_130 ?_
    refine a_nmi (pc := 131) (fun u1 hu1 => ?_)
    replace h := h u1 hu1
    refine a_istore (pc := 131) (lv' := [(4, .int u1), (0, .ref (gB g + 151)), (1, .int x1), (2, .int x2), (3, .int x3)]) (Nat.le_of_ble_eq_true rfl) rfl d_BM_tips_131 ?_
    refine a_aload_n (pc := 133) 1 rfl rfl d_BM_tips_133 ?_
    refine a_iload (pc := 134) 0 rfl d_BM_tips_134 ?_
    refine a_iload_n (pc := 136) 2 rfl rfl d_BM_tips_136 ?_
    refine a_callV (pc := 137) (M' := m_BM_rolls) (As := [.int u1, .int x1]) (st := []) (mc' := 0) (ms' := 0) lk_BM_369 rfl sx_151 rfl (by decide) (by decide) rfl (Nat.le_of_ble_eq_true rfl) (Nat.le_refl 0) (Nat.le_refl 0) d_BM_tips_137 h ?_
    rintro _ _ s2 ⟨r3, rfl, rfl, h⟩ -
    show Ax g m_BM_tips 0 0 (ZV g Q) SH s2 0 0 140 [(4, .int u1), (0, .ref (gB g + 151)), (1, .int x1), (2, .int x2), (3, .int x3)] [.int r3]
    refine a_istore (pc := 140) (lv' := [(5, .int r3), (4, .int u1), (0, .ref (gB g + 151)), (1, .int x1), (2, .int x2), (3, .int x3)]) (Nat.le_of_ble_eq_true rfl) rfl d_BM_tips_140 ?_
    refine a_aload_n (pc := 142) 2 rfl rfl d_BM_tips_142 ?_
    refine a_getI (pc := 143) fg_BM_363 sx_151 rfl d_BM_tips_143 ?_
    refine a_nmi (pc := 146) (fun u4 hu4 => ?_)
    replace h := h u4 hu4
    refine a_istore (pc := 146) (lv' := [(6, .int u4), (5, .int r3), (4, .int u1), (0, .ref (gB g + 151)), (1, .int x1), (2, .int x2), (3, .int x3)]) (Nat.le_of_ble_eq_true rfl) rfl d_BM_tips_146 ?_
    refine a_aload_n (pc := 148) 3 rfl rfl d_BM_tips_148 ?_
    refine a_getR (pc := 149) fg_BM_13 sx_151 rfl d_BM_tips_149 ?_
    refine a_iload (pc := 152) 0 rfl d_BM_tips_152 ?_
    obtain ⟨hx, h⟩ := h
    refine a_iald (pc := 154) sx_153 hx d_BM_tips_154 ?_
    refine a_iconst (pc := 155) (2 : Int32) (by decide) d_BM_tips_155 ?_
    refine a_icmp_lt (pc := 156) 163 (by decide) d_BM_tips_156 ⟨fun c0 => ?_, fun c0 => ?_⟩
    · replace h := h.1 c0
      refine a_iconst (pc := 163) (0 : Int32) (by decide) d_BM_tips_163 ?_
      refine a_sub (pc := 164) [3, 4, 5, 6, 2, 1, 0] rfl ?_
      exact h
    · replace h := h.2 c0
      refine a_iconst (pc := 159) (1 : Int32) (by decide) d_BM_tips_159 ?_
      refine a_goto (pc := 160) 164 (by decide) d_BM_tips_160 ?_
      refine a_sub (pc := 164) [3, 4, 5, 6, 2, 1, 0] rfl ?_
      exact h
theorem sg_BM_tips_40 {g : Gx} {Q : St → Prop} {σ : St} {x1 : Int32} {x2 : Int32} {x3 : Int32} {x4 : Int32}
    (h : (x4 ≤ 0 → vp_in x4 3 ∧ (∀ s1 : St, s1 = sai σ 172 (x4).toNatClampNeg x3 → ∀ u2 : Int32, u2 = x2 + (1 : Int32) → ∀ u3 : Int32, u3 = x3 + (1 : Int32) → S_BM_tips_4 g Q s1 x1 u2 u3)) ∧ (¬ x4 ≤ 0 → vp_in (x4 - (1 : Int32)) 3 ∧ (vp_in (ai σ 172 ((x4 - (1 : Int32))).toNatClampNeg) 3 ∧ (vp_in x3 3 ∧ (((lg_cmp (aj σ 173 ((ai σ 172 ((x4 - (1 : Int32))).toNatClampNeg)).toNatClampNeg) (aj σ 173 (x3).toNatClampNeg)) ≤ 0 → vp_in x4 3 ∧ (∀ s4 : St, s4 = sai σ 172 (x4).toNatClampNeg x3 → ∀ u5 : Int32, u5 = x2 + (1 : Int32) → ∀ u6 : Int32, u6 = x3 + (1 : Int32) → S_BM_tips_4 g Q s4 x1 u5 u6)) ∧ (¬ (lg_cmp (aj σ 173 ((ai σ 172 ((x4 - (1 : Int32))).toNatClampNeg)).toNatClampNeg) (aj σ 173 (x3).toNatClampNeg)) ≤ 0 → vp_in (x4 - (1 : Int32)) 3 ∧ (vp_in x4 3 ∧ (∀ s7 : St, s7 = sai σ 172 (x4).toNatClampNeg (ai σ 172 ((x4 - (1 : Int32))).toNatClampNeg) → ∀ u8 : Int32, u8 = x4 + (-1 : Int32) → S_BM_tips_40 g Q s7 x1 x2 x3 u8)))))))) : S_BM_tips_40 g Q σ x1 x2 x3 x4 := by
  show Ax g m_BM_tips 0 0 (ZV g Q) SH σ 0 0 40 [(0, .ref (gB g + 151)), (1, .int x1), (2, .int x2), (3, .int x3), (4, .int x4)] []
  refine a_iload (pc := 40) 4 rfl d_BM_tips_40 ?_
  refine a_if_le (pc := 42) 91 (by decide) d_BM_tips_42 ⟨fun c0 => ?_, fun c0 => ?_⟩
  · replace h := h.1 c0
    refine a_aload_n (pc := 91) 0 rfl rfl d_BM_tips_91 ?_
    refine a_getR (pc := 92) fg_BM_76 sx_151 rfl d_BM_tips_92 ?_
    refine a_iload (pc := 95) 4 rfl d_BM_tips_95 ?_
    refine a_iload_n (pc := 97) 3 rfl rfl d_BM_tips_97 ?_
    obtain ⟨hx, h⟩ := h
    refine a_iast (pc := 98) sx_172 hx d_BM_tips_98 ?_
    refine a_nms (fun s1 hs1 => ?_)
    replace h := h s1 hs1
    obtain ⟨u2, hu2⟩ : ∃ y : Int32, y = x2 + (1 : Int32) := ⟨_, rfl⟩
    replace h := h u2 hu2
    refine a_iinc (pc := 99) (v := u2) (lv' := [(2, .int u2), (0, .ref (gB g + 151)), (1, .int x1), (3, .int x3), (4, .int x4)]) 2 rfl (by rw [hu2]; rfl) (Nat.le_of_ble_eq_true rfl) rfl d_BM_tips_99 ?_
    obtain ⟨u3, hu3⟩ : ∃ y : Int32, y = x3 + (1 : Int32) := ⟨_, rfl⟩
    replace h := h u3 hu3
    refine a_iinc (pc := 102) (v := u3) (lv' := [(3, .int u3), (2, .int u2), (0, .ref (gB g + 151)), (1, .int x1), (4, .int x4)]) 3 rfl (by rw [hu3]; rfl) (Nat.le_of_ble_eq_true rfl) rfl d_BM_tips_102 ?_
    refine a_goto (pc := 105) 4 (by decide) d_BM_tips_105 ?_
    refine a_sub (pc := 4) [2, 3, 1, 0] rfl ?_
    exact h
  · replace h := h.2 c0
    refine a_aload_n (pc := 45) 0 rfl rfl d_BM_tips_45 ?_
    refine a_getR (pc := 46) fg_BM_79 sx_151 rfl d_BM_tips_46 ?_
    refine a_aload_n (pc := 49) 0 rfl rfl d_BM_tips_49 ?_
    refine a_getR (pc := 50) fg_BM_76 sx_151 rfl d_BM_tips_50 ?_
    refine a_iload (pc := 53) 4 rfl d_BM_tips_53 ?_
    refine a_iconst (pc := 55) (1 : Int32) (by decide) d_BM_tips_55 ?_
    refine a_isub (pc := 56) d_BM_tips_56 ?_
    obtain ⟨hx, h⟩ := h
    refine a_iald (pc := 57) sx_172 hx d_BM_tips_57 ?_
    obtain ⟨hx, h⟩ := h
    refine a_lald (pc := 58) sx_173 hx d_BM_tips_58 ?_
    refine a_aload_n (pc := 59) 0 rfl rfl d_BM_tips_59 ?_
    refine a_getR (pc := 60) fg_BM_79 sx_151 rfl d_BM_tips_60 ?_
    refine a_iload_n (pc := 63) 3 rfl rfl d_BM_tips_63 ?_
    obtain ⟨hx, h⟩ := h
    refine a_lald (pc := 64) sx_173 hx d_BM_tips_64 ?_
    refine a_lcmp (pc := 65) d_BM_tips_65 ?_
    refine a_if_le (pc := 66) 91 (by decide) d_BM_tips_66 ⟨fun c0 => ?_, fun c0 => ?_⟩
    · replace h := h.1 c0
      refine a_aload_n (pc := 91) 0 rfl rfl d_BM_tips_91 ?_
      refine a_getR (pc := 92) fg_BM_76 sx_151 rfl d_BM_tips_92 ?_
      refine a_iload (pc := 95) 4 rfl d_BM_tips_95 ?_
      refine a_iload_n (pc := 97) 3 rfl rfl d_BM_tips_97 ?_
      obtain ⟨hx, h⟩ := h
      refine a_iast (pc := 98) sx_172 hx d_BM_tips_98 ?_
      refine a_nms (fun s4 hs4 => ?_)
      replace h := h s4 hs4
      obtain ⟨u5, hu5⟩ : ∃ y : Int32, y = x2 + (1 : Int32) := ⟨_, rfl⟩
      replace h := h u5 hu5
      refine a_iinc (pc := 99) (v := u5) (lv' := [(2, .int u5), (0, .ref (gB g + 151)), (1, .int x1), (3, .int x3), (4, .int x4)]) 2 rfl (by rw [hu5]; rfl) (Nat.le_of_ble_eq_true rfl) rfl d_BM_tips_99 ?_
      obtain ⟨u6, hu6⟩ : ∃ y : Int32, y = x3 + (1 : Int32) := ⟨_, rfl⟩
      replace h := h u6 hu6
      refine a_iinc (pc := 102) (v := u6) (lv' := [(3, .int u6), (2, .int u5), (0, .ref (gB g + 151)), (1, .int x1), (4, .int x4)]) 3 rfl (by rw [hu6]; rfl) (Nat.le_of_ble_eq_true rfl) rfl d_BM_tips_102 ?_
      refine a_goto (pc := 105) 4 (by decide) d_BM_tips_105 ?_
      refine a_sub (pc := 4) [2, 3, 1, 0] rfl ?_
      exact h
    · replace h := h.2 c0
      refine a_aload_n (pc := 69) 0 rfl rfl d_BM_tips_69 ?_
      refine a_getR (pc := 70) fg_BM_76 sx_151 rfl d_BM_tips_70 ?_
      refine a_iload (pc := 73) 4 rfl d_BM_tips_73 ?_
      refine a_aload_n (pc := 75) 0 rfl rfl d_BM_tips_75 ?_
      refine a_getR (pc := 76) fg_BM_76 sx_151 rfl d_BM_tips_76 ?_
      refine a_iload (pc := 79) 4 rfl d_BM_tips_79 ?_
      refine a_iconst (pc := 81) (1 : Int32) (by decide) d_BM_tips_81 ?_
      refine a_isub (pc := 82) d_BM_tips_82 ?_
      obtain ⟨hx, h⟩ := h
      refine a_iald (pc := 83) sx_172 hx d_BM_tips_83 ?_
      obtain ⟨hx, h⟩ := h
      refine a_iast (pc := 84) sx_172 hx d_BM_tips_84 ?_
      refine a_nms (fun s7 hs7 => ?_)
      replace h := h s7 hs7
      obtain ⟨u8, hu8⟩ : ∃ y : Int32, y = x4 + (-1 : Int32) := ⟨_, rfl⟩
      replace h := h u8 hu8
      refine a_iinc (pc := 85) (v := u8) (lv' := [(4, .int u8), (0, .ref (gB g + 151)), (1, .int x1), (2, .int x2), (3, .int x3)]) 4 rfl (by rw [hu8]; rfl) (Nat.le_of_ble_eq_true rfl) rfl d_BM_tips_85 ?_
      refine a_goto (pc := 88) 40 (by decide) d_BM_tips_88 ?_
      refine a_sub (pc := 40) [1, 2, 3, 4, 0] rfl ?_
      exact h
theorem sg_BM_tips_164 {g : Gx} {Q : St → Prop} {σ : St} {x1 : Int32} {x2 : Int32} {x3 : Int32} {x4 : Int32} {x5 : Int32} {x6 : Int32} {z0 : Int32}
    (h : (¬ z0 = 0 → vp_in x6 36 ∧ ((¬ (ai σ 153 (x6).toNatClampNeg) = ((2 : Int32) + x4) → vp_in x4 3 ∧ (∀ s1 : St, s1 = sai σ 154 (x4).toNatClampNeg (37 : Int32) → (z0 = 0 → S_BM_tips_219 g Q s1 x1 x2 x3 x5 z0 (0 : Int32) (fi s1 151 36)) ∧ (¬ z0 = 0 → S_BM_tips_219 g Q s1 x1 x2 x3 x5 z0 (1 : Int32) (fi s1 151 36)))) ∧ ((ai σ 153 (x6).toNatClampNeg) = ((2 : Int32) + x4) → vp_in x4 3 ∧ (∀ s2 : St, s2 = sai σ 154 (x4).toNatClampNeg (36 : Int32) → (z0 = 0 → S_BM_tips_219 g Q s2 x1 x2 x3 x5 z0 (0 : Int32) (fi s2 151 36)) ∧ (¬ z0 = 0 → S_BM_tips_219 g Q s2 x1 x2 x3 x5 z0 (1 : Int32) (fi s2 151 36)))))) ∧ (z0 = 0 → vp_in x4 3 ∧ (∀ s3 : St, s3 = sai σ 154 (x4).toNatClampNeg x6 → (z0 = 0 → S_BM_tips_219 g Q s3 x1 x2 x3 x5 z0 (0 : Int32) (fi s3 151 36)) ∧ (¬ z0 = 0 → S_BM_tips_219 g Q s3 x1 x2 x3 x5 z0 (1 : Int32) (fi s3 151 36))))) : S_BM_tips_164 g Q σ x1 x2 x3 x4 x5 x6 z0 := by
  show Ax g m_BM_tips 0 0 (ZV g Q) SH σ 0 0 164 [(0, .ref (gB g + 151)), (1, .int x1), (2, .int x2), (3, .int x3), (4, .int x4), (5, .int x5), (6, .int x6)] [.int z0]
  refine a_istore (pc := 164) (lv' := [(7, .int z0), (0, .ref (gB g + 151)), (1, .int x1), (2, .int x2), (3, .int x3), (4, .int x4), (5, .int x5), (6, .int x6)]) (Nat.le_of_ble_eq_true rfl) rfl d_BM_tips_164 ?_
  refine a_aload_n (pc := 166) 1 rfl rfl d_BM_tips_166 ?_
  refine a_getR (pc := 167) fg_BM_16 sx_151 rfl d_BM_tips_167 ?_
  refine a_iload (pc := 170) 5 rfl d_BM_tips_170 ?_
  refine a_iload (pc := 172) 0 rfl d_BM_tips_172 ?_
  refine a_if_ne (pc := 174) 182 (by decide) d_BM_tips_174 ⟨fun c0 => ?_, fun c0 => ?_⟩
  · replace h := h.1 c0
    refine a_aload_n (pc := 182) 1 rfl rfl d_BM_tips_182 ?_
    refine a_getR (pc := 183) fg_BM_13 sx_151 rfl d_BM_tips_183 ?_
    refine a_iload (pc := 186) 7 rfl d_BM_tips_186 ?_
    obtain ⟨hx, h⟩ := h
    refine a_iald (pc := 188) sx_153 hx d_BM_tips_188 ?_
    refine a_iconst (pc := 189) (2 : Int32) (by decide) d_BM_tips_189 ?_
    refine a_iload (pc := 190) 5 rfl d_BM_tips_190 ?_
    refine a_iadd (pc := 192) d_BM_tips_192 ?_
    refine a_icmp_ne (pc := 193) 201 (by decide) d_BM_tips_193 ⟨fun c0 => ?_, fun c0 => ?_⟩
    · replace h := h.1 c0
      refine a_bipush (pc := 201) (37 : Int32) (by decide) d_BM_tips_201 ?_
      obtain ⟨hx, h⟩ := h
      refine a_iast (pc := 203) sx_154 hx d_BM_tips_203 ?_
      refine a_nms (fun s1 hs1 => ?_)
      replace h := h s1 hs1
      refine a_aload_n (pc := 204) 1 rfl rfl d_BM_tips_204 ?_
      refine a_dup (pc := 205) rfl d_BM_tips_205 ?_
      refine a_getI (pc := 206) fg_BM_388 sx_151 rfl d_BM_tips_206 ?_
      refine a_iload (pc := 209) 0 rfl d_BM_tips_209 ?_
      refine a_if_eq (pc := 211) 218 (by decide) d_BM_tips_211 ⟨fun c0 => ?_, fun c0 => ?_⟩
      · replace h := h.1 c0
        refine a_iconst (pc := 218) (0 : Int32) (by decide) d_BM_tips_218 ?_
        refine a_sub (pc := 219) [1, 2, 3, 4, 6, 0] rfl ?_
        exact h
      · replace h := h.2 c0
        refine a_iconst (pc := 214) (1 : Int32) (by decide) d_BM_tips_214 ?_
        refine a_goto (pc := 215) 219 (by decide) d_BM_tips_215 ?_
        refine a_sub (pc := 219) [1, 2, 3, 4, 6, 0] rfl ?_
        exact h
    · replace h := h.2 c0
      refine a_bipush (pc := 196) (36 : Int32) (by decide) d_BM_tips_196 ?_
      refine a_goto (pc := 198) 203 (by decide) d_BM_tips_198 ?_
      obtain ⟨hx, h⟩ := h
      refine a_iast (pc := 203) sx_154 hx d_BM_tips_203 ?_
      refine a_nms (fun s2 hs2 => ?_)
      replace h := h s2 hs2
      refine a_aload_n (pc := 204) 1 rfl rfl d_BM_tips_204 ?_
      refine a_dup (pc := 205) rfl d_BM_tips_205 ?_
      refine a_getI (pc := 206) fg_BM_388 sx_151 rfl d_BM_tips_206 ?_
      refine a_iload (pc := 209) 0 rfl d_BM_tips_209 ?_
      refine a_if_eq (pc := 211) 218 (by decide) d_BM_tips_211 ⟨fun c0 => ?_, fun c0 => ?_⟩
      · replace h := h.1 c0
        refine a_iconst (pc := 218) (0 : Int32) (by decide) d_BM_tips_218 ?_
        refine a_sub (pc := 219) [1, 2, 3, 4, 6, 0] rfl ?_
        exact h
      · replace h := h.2 c0
        refine a_iconst (pc := 214) (1 : Int32) (by decide) d_BM_tips_214 ?_
        refine a_goto (pc := 215) 219 (by decide) d_BM_tips_215 ?_
        refine a_sub (pc := 219) [1, 2, 3, 4, 6, 0] rfl ?_
        exact h
  · replace h := h.2 c0
    refine a_iload (pc := 177) 7 rfl d_BM_tips_177 ?_
    refine a_goto (pc := 179) 203 (by decide) d_BM_tips_179 ?_
    obtain ⟨hx, h⟩ := h
    refine a_iast (pc := 203) sx_154 hx d_BM_tips_203 ?_
    refine a_nms (fun s3 hs3 => ?_)
    replace h := h s3 hs3
    refine a_aload_n (pc := 204) 1 rfl rfl d_BM_tips_204 ?_
    refine a_dup (pc := 205) rfl d_BM_tips_205 ?_
    refine a_getI (pc := 206) fg_BM_388 sx_151 rfl d_BM_tips_206 ?_
    refine a_iload (pc := 209) 0 rfl d_BM_tips_209 ?_
    refine a_if_eq (pc := 211) 218 (by decide) d_BM_tips_211 ⟨fun c0 => ?_, fun c0 => ?_⟩
    · replace h := h.1 c0
      refine a_iconst (pc := 218) (0 : Int32) (by decide) d_BM_tips_218 ?_
      refine a_sub (pc := 219) [1, 2, 3, 4, 6, 0] rfl ?_
      exact h
    · replace h := h.2 c0
      refine a_iconst (pc := 214) (1 : Int32) (by decide) d_BM_tips_214 ?_
      refine a_goto (pc := 215) 219 (by decide) d_BM_tips_215 ?_
      refine a_sub (pc := 219) [1, 2, 3, 4, 6, 0] rfl ?_
      exact h
theorem sg_BM_tips_219 {g : Gx} {Q : St → Prop} {σ : St} {x1 : Int32} {x2 : Int32} {x3 : Int32} {x5 : Int32} {x7 : Int32} {z0 : Int32} {z1 : Int32}
    (h : ∀ s1 : St, s1 = sfi σ 151 36 (z1 + z0) → (¬ x7 = 0 → ∀ s2 : St, s2 = sfi s1 151 35 ((fi s1 151 35) + (0 : Int32)) → ∀ u3 : Int32, u3 = x3 + (1 : Int32) → S_BM_tips_120 g Q s2 x1 x2 u3) ∧ (x7 = 0 → (x5 ≤ 0 → ∀ s4 : St, s4 = sfi s1 151 35 ((fi s1 151 35) + (0 : Int32)) → ∀ u5 : Int32, u5 = x3 + (1 : Int32) → S_BM_tips_120 g Q s4 x1 x2 u5) ∧ (¬ x5 ≤ 0 → ∀ s6 : St, s6 = sfi s1 151 35 ((fi s1 151 35) + (1 : Int32)) → ∀ u7 : Int32, u7 = x3 + (1 : Int32) → S_BM_tips_120 g Q s6 x1 x2 u7))) : S_BM_tips_219 g Q σ x1 x2 x3 x5 x7 z0 z1 := by
  show Ax g m_BM_tips 0 0 (ZV g Q) SH σ 0 0 219 [(0, .ref (gB g + 151)), (1, .int x1), (2, .int x2), (3, .int x3), (5, .int x5), (7, .int x7)] [.int z0, .int z1, .ref (gB g + 151)]
  refine a_iadd (pc := 219) d_BM_tips_219 ?_
  refine a_putI (pc := 220) fp_BM_388 sx_151 rfl d_BM_tips_220 ?_
  refine a_nms (fun s1 hs1 => ?_)
  replace h := h s1 hs1
  refine a_aload_n (pc := 223) 0 rfl rfl d_BM_tips_223 ?_
  refine a_dup (pc := 224) rfl d_BM_tips_224 ?_
  refine a_getI (pc := 225) fg_BM_385 sx_151 rfl d_BM_tips_225 ?_
  refine a_iload (pc := 228) 5 rfl d_BM_tips_228 ?_
  refine a_if_ne (pc := 230) 242 (by decide) d_BM_tips_230 ⟨fun c0 => ?_, fun c0 => ?_⟩
  · replace h := h.1 c0
    refine a_iconst (pc := 242) (0 : Int32) (by decide) d_BM_tips_242 ?_
    refine a_iadd (pc := 243) d_BM_tips_243 ?_
    refine a_putI (pc := 244) fp_BM_385 sx_151 rfl d_BM_tips_244 ?_
    refine a_nms (fun s2 hs2 => ?_)
    replace h := h s2 hs2
    obtain ⟨u3, hu3⟩ : ∃ y : Int32, y = x3 + (1 : Int32) := ⟨_, rfl⟩
    replace h := h u3 hu3
    refine a_iinc (pc := 247) (v := u3) (lv' := [(3, .int u3), (0, .ref (gB g + 151)), (1, .int x1), (2, .int x2), (5, .int x5), (7, .int x7)]) 3 rfl (by rw [hu3]; rfl) (Nat.le_of_ble_eq_true rfl) rfl d_BM_tips_247 ?_
    refine a_goto (pc := 250) 120 (by decide) d_BM_tips_250 ?_
    refine a_sub (pc := 120) [1, 2, 3, 0] rfl ?_
    exact h
  · replace h := h.2 c0
    refine a_iload (pc := 233) 4 rfl d_BM_tips_233 ?_
    refine a_if_le (pc := 235) 242 (by decide) d_BM_tips_235 ⟨fun c0 => ?_, fun c0 => ?_⟩
    · replace h := h.1 c0
      refine a_iconst (pc := 242) (0 : Int32) (by decide) d_BM_tips_242 ?_
      refine a_iadd (pc := 243) d_BM_tips_243 ?_
      refine a_putI (pc := 244) fp_BM_385 sx_151 rfl d_BM_tips_244 ?_
      refine a_nms (fun s4 hs4 => ?_)
      replace h := h s4 hs4
      obtain ⟨u5, hu5⟩ : ∃ y : Int32, y = x3 + (1 : Int32) := ⟨_, rfl⟩
      replace h := h u5 hu5
      refine a_iinc (pc := 247) (v := u5) (lv' := [(3, .int u5), (0, .ref (gB g + 151)), (1, .int x1), (2, .int x2), (5, .int x5), (7, .int x7)]) 3 rfl (by rw [hu5]; rfl) (Nat.le_of_ble_eq_true rfl) rfl d_BM_tips_247 ?_
      refine a_goto (pc := 250) 120 (by decide) d_BM_tips_250 ?_
      refine a_sub (pc := 120) [1, 2, 3, 0] rfl ?_
      exact h
    · replace h := h.2 c0
      refine a_iconst (pc := 238) (1 : Int32) (by decide) d_BM_tips_238 ?_
      refine a_goto (pc := 239) 243 (by decide) d_BM_tips_239 ?_
      refine a_iadd (pc := 243) d_BM_tips_243 ?_
      refine a_putI (pc := 244) fp_BM_385 sx_151 rfl d_BM_tips_244 ?_
      refine a_nms (fun s6 hs6 => ?_)
      replace h := h s6 hs6
      obtain ⟨u7, hu7⟩ : ∃ y : Int32, y = x3 + (1 : Int32) := ⟨_, rfl⟩
      replace h := h u7 hu7
      refine a_iinc (pc := 247) (v := u7) (lv' := [(3, .int u7), (0, .ref (gB g + 151)), (1, .int x1), (2, .int x2), (5, .int x5), (7, .int x7)]) 3 rfl (by rw [hu7]; rfl) (Nat.le_of_ble_eq_true rfl) rfl d_BM_tips_247 ?_
      refine a_goto (pc := 250) 120 (by decide) d_BM_tips_250 ?_
      refine a_sub (pc := 120) [1, 2, 3, 0] rfl ?_
      exact h
theorem ko_BM_tips {g : Gx}  {x1 : Int32} {σ : St} {Q : St → Prop} (h : S_BM_tips_0 g Q σ x1) : K_BM_tips g x1 σ Q := KV.of (show plainName "BallBoxModel" = true by decide) (Nat.le_of_ble_eq_true rfl) h
theorem d_BM_tip_0 : decode c_BM_tip 0 = .ok (.aload_n 0, 1) := by decide +kernel
theorem d_BM_tip_1 : decode c_BM_tip 1 = .ok (.invokevirtual 391, 3) := by decide +kernel
theorem d_BM_tip_4 : decode c_BM_tip 4 = .ok (.ifCond .eq 15, 3) := by decide +kernel
theorem d_BM_tip_7 : decode c_BM_tip 7 = .ok (.iload_n 1, 1) := by decide +kernel
theorem d_BM_tip_8 : decode c_BM_tip 8 = .ok (.i2l, 1) := by decide +kernel
theorem d_BM_tip_9 : decode c_BM_tip 9 = .ok (.lconst 0, 1) := by decide +kernel
theorem d_BM_tip_10 : decode c_BM_tip 10 = .ok (.ldc2_w 394, 3) := by decide +kernel
theorem d_BM_tip_13 : decode c_BM_tip 13 = .ok (.invokestatic 162, 3) := by decide +kernel
theorem d_BM_tip_16 : decode c_BM_tip 16 = .ok (.ifCond .ne 5, 3) := by decide +kernel
theorem d_BM_tip_19 : decode c_BM_tip 19 = .ok (.iconst (-1), 1) := by decide +kernel
theorem d_BM_tip_20 : decode c_BM_tip 20 = .ok (.ireturn, 1) := by decide +kernel
theorem d_BM_tip_21 : decode c_BM_tip 21 = .ok (.aload_n 0, 1) := by decide +kernel
theorem d_BM_tip_22 : decode c_BM_tip 22 = .ok (.iload_n 1, 1) := by decide +kernel
theorem d_BM_tip_23 : decode c_BM_tip 23 = .ok (.invokevirtual 396, 3) := by decide +kernel
theorem d_BM_tip_26 : decode c_BM_tip 26 = .ok (.aload_n 0, 1) := by decide +kernel
theorem d_BM_tip_27 : decode c_BM_tip 27 = .ok (.getfield 9, 3) := by decide +kernel
theorem d_BM_tip_30 : decode c_BM_tip 30 = .ok (.iconst 3, 1) := by decide +kernel
theorem d_BM_tip_31 : decode c_BM_tip 31 = .ok (.dup2, 1) := by decide +kernel
theorem d_BM_tip_32 : decode c_BM_tip 32 = .ok (.iaload, 1) := by decide +kernel
theorem d_BM_tip_33 : decode c_BM_tip 33 = .ok (.iconst 1, 1) := by decide +kernel
theorem d_BM_tip_34 : decode c_BM_tip 34 = .ok (.iadd, 1) := by decide +kernel
theorem d_BM_tip_35 : decode c_BM_tip 35 = .ok (.iastore, 1) := by decide +kernel
theorem d_BM_tip_36 : decode c_BM_tip 36 = .ok (.aload_n 0, 1) := by decide +kernel
theorem d_BM_tip_37 : decode c_BM_tip 37 = .ok (.getfield 385, 3) := by decide +kernel
theorem d_BM_tip_40 : decode c_BM_tip 40 = .ok (.bipush 10, 2) := by decide +kernel
theorem d_BM_tip_42 : decode c_BM_tip 42 = .ok (.aload_n 0, 1) := by decide +kernel
theorem d_BM_tip_43 : decode c_BM_tip 43 = .ok (.getfield 388, 3) := by decide +kernel
theorem d_BM_tip_46 : decode c_BM_tip 46 = .ok (.imul, 1) := by decide +kernel
theorem d_BM_tip_47 : decode c_BM_tip 47 = .ok (.iadd, 1) := by decide +kernel
theorem d_BM_tip_48 : decode c_BM_tip 48 = .ok (.ireturn, 1) := by decide +kernel
def S_BM_tip_0 (g : Gx) (Q : Int32 → St → Prop) (σ : St) (x1 : Int32) : Prop := Ax g m_BM_tip 0 0 (ZI g Q) SH σ 0 0 0 [(0, .ref (gB g + 151)), (1, .int x1)] []
theorem sg_BM_tip_0 {g : Gx} {Q : Int32 → St → Prop} {σ : St} {x1 : Int32}
    (h : K_BM_isBox g σ (fun (r2 : Int32) (s1 : St) => (r2 = 0 → Q (-1 : Int32) s1) ∧ (¬ r2 = 0 → K_BM_in g ((x1).toInt64) (0 : Int64) (3 : Int64) s1 (fun (r4 : Int32) (s3 : St) => (¬ r4 = 0 → K_BM_tips g x1 s3 (fun s5 : St => vp_in (3 : Int32) 8 ∧ (vp_in (3 : Int32) 8 ∧ (∀ s6 : St, s6 = sai s5 152 ((3 : Int32)).toNatClampNeg ((ai s5 152 ((3 : Int32)).toNatClampNeg) + (1 : Int32)) → Q ((fi s6 151 35) + ((10 : Int32) * (fi s6 151 36))) s6)))) ∧ (r4 = 0 → Q (-1 : Int32) s3))))) : S_BM_tip_0 g Q σ x1 := by
  show Ax g m_BM_tip 0 0 (ZI g Q) SH σ 0 0 0 [(0, .ref (gB g + 151)), (1, .int x1)] []
  refine a_aload_n (pc := 0) 0 rfl rfl d_BM_tip_0 ?_
  refine a_callV (pc := 1) (M' := m_BM_isBox) (As := []) (st := []) (mc' := 0) (ms' := 0) lk_BM_391 rfl sx_151 rfl (by decide) (by decide) rfl (Nat.le_of_ble_eq_true rfl) (Nat.le_refl 0) (Nat.le_refl 0) d_BM_tip_1 h ?_
  rintro _ _ s1 ⟨r2, rfl, rfl, h⟩ -
  show Ax g m_BM_tip 0 0 (ZI g Q) SH s1 0 0 4 [(0, .ref (gB g + 151)), (1, .int x1)] [.int r2]
  refine a_if_eq (pc := 4) 19 (by decide) d_BM_tip_4 ⟨fun c0 => ?_, fun c0 => ?_⟩
  · replace h := h.1 c0
    refine a_iconst (pc := 19) (-1 : Int32) (by decide) d_BM_tip_19 ?_
    exact b_iret (pc := 20) rfl d_BM_tip_20 h
  · replace h := h.2 c0
    refine a_iload_n (pc := 7) 1 rfl rfl d_BM_tip_7 ?_
    refine a_i2l (pc := 8) d_BM_tip_8 ?_
    refine a_lconst (pc := 9) (0 : Int64) (by decide) d_BM_tip_9 ?_
    refine a_ldc2 (pc := 10) tw1644 d_BM_tip_10 ?_
    refine a_callS (pc := 13) (M' := m_BM_in) (As := [.long ((x1).toInt64), .long (0 : Int64), .long (3 : Int64)]) (st := []) (mc' := 0) (ms' := 0) lk_BM_162 rfl (by decide) (by decide) rfl (Nat.le_of_ble_eq_true rfl) (Nat.le_refl 0) (Nat.le_refl 0) d_BM_tip_13 h ?_
    rintro _ _ s3 ⟨r4, rfl, rfl, h⟩ -
    show Ax g m_BM_tip 0 0 (ZI g Q) SH s3 0 0 16 [(0, .ref (gB g + 151)), (1, .int x1)] [.int r4]
    refine a_if_ne (pc := 16) 21 (by decide) d_BM_tip_16 ⟨fun c0 => ?_, fun c0 => ?_⟩
    · replace h := h.1 c0
      refine a_aload_n (pc := 21) 0 rfl rfl d_BM_tip_21 ?_
      refine a_iload_n (pc := 22) 1 rfl rfl d_BM_tip_22 ?_
      refine a_callV (pc := 23) (M' := m_BM_tips) (As := [.int x1]) (st := []) (mc' := 0) (ms' := 0) lk_BM_396 rfl sx_151 rfl (by decide) (by decide) rfl (Nat.le_of_ble_eq_true rfl) (Nat.le_refl 0) (Nat.le_refl 0) d_BM_tip_23 h ?_
      rintro _ _ s5 ⟨rfl, rfl, h⟩ -
      show Ax g m_BM_tip 0 0 (ZI g Q) SH s5 0 0 26 [(0, .ref (gB g + 151)), (1, .int x1)] []
      refine a_aload_n (pc := 26) 0 rfl rfl d_BM_tip_26 ?_
      refine a_getR (pc := 27) fg_BM_9 sx_151 rfl d_BM_tip_27 ?_
      refine a_iconst (pc := 30) (3 : Int32) (by decide) d_BM_tip_30 ?_
      refine a_dup2_11 (pc := 31) rfl rfl d_BM_tip_31 ?_
      obtain ⟨hx, h⟩ := h
      refine a_iald (pc := 32) sx_152 hx d_BM_tip_32 ?_
      refine a_iconst (pc := 33) (1 : Int32) (by decide) d_BM_tip_33 ?_
      refine a_iadd (pc := 34) d_BM_tip_34 ?_
      obtain ⟨hx, h⟩ := h
      refine a_iast (pc := 35) sx_152 hx d_BM_tip_35 ?_
      refine a_nms (fun s6 hs6 => ?_)
      replace h := h s6 hs6
      refine a_aload_n (pc := 36) 0 rfl rfl d_BM_tip_36 ?_
      refine a_getI (pc := 37) fg_BM_385 sx_151 rfl d_BM_tip_37 ?_
      refine a_bipush (pc := 40) (10 : Int32) (by decide) d_BM_tip_40 ?_
      refine a_aload_n (pc := 42) 0 rfl rfl d_BM_tip_42 ?_
      refine a_getI (pc := 43) fg_BM_388 sx_151 rfl d_BM_tip_43 ?_
      refine a_imul (pc := 46) d_BM_tip_46 ?_
      refine a_iadd (pc := 47) d_BM_tip_47 ?_
      exact b_iret (pc := 48) rfl d_BM_tip_48 h
    · replace h := h.2 c0
      refine a_iconst (pc := 19) (-1 : Int32) (by decide) d_BM_tip_19 ?_
      exact b_iret (pc := 20) rfl d_BM_tip_20 h
theorem ko_BM_tip {g : Gx}  {x1 : Int32} {σ : St} {Q : Int32 → St → Prop} (h : S_BM_tip_0 g Q σ x1) : K_BM_tip g x1 σ Q := KI.of (show plainName "BallBoxModel" = true by decide) (Nat.le_of_ble_eq_true rfl) h
theorem d_BM_may_0 : decode c_BM_may 0 = .ok (.aload_n 0, 1) := by decide +kernel
theorem d_BM_may_1 : decode c_BM_may 1 = .ok (.invokevirtual 391, 3) := by decide +kernel
theorem d_BM_may_4 : decode c_BM_may 4 = .ok (.ifCond .eq 15, 3) := by decide +kernel
theorem d_BM_may_7 : decode c_BM_may 7 = .ok (.iload_n 1, 1) := by decide +kernel
theorem d_BM_may_8 : decode c_BM_may 8 = .ok (.i2l, 1) := by decide +kernel
theorem d_BM_may_9 : decode c_BM_may 9 = .ok (.lconst 0, 1) := by decide +kernel
theorem d_BM_may_10 : decode c_BM_may 10 = .ok (.ldc2_w 394, 3) := by decide +kernel
theorem d_BM_may_13 : decode c_BM_may 13 = .ok (.invokestatic 162, 3) := by decide +kernel
theorem d_BM_may_16 : decode c_BM_may 16 = .ok (.ifCond .ne 5, 3) := by decide +kernel
theorem d_BM_may_19 : decode c_BM_may 19 = .ok (.iconst (-1), 1) := by decide +kernel
theorem d_BM_may_20 : decode c_BM_may 20 = .ok (.ireturn, 1) := by decide +kernel
theorem d_BM_may_21 : decode c_BM_may 21 = .ok (.aload_n 0, 1) := by decide +kernel
theorem d_BM_may_22 : decode c_BM_may 22 = .ok (.getfield 16, 3) := by decide +kernel
theorem d_BM_may_25 : decode c_BM_may 25 = .ok (.aload_n 0, 1) := by decide +kernel
theorem d_BM_may_26 : decode c_BM_may 26 = .ok (.getfield 82, 3) := by decide +kernel
theorem d_BM_may_29 : decode c_BM_may 29 = .ok (.invokestatic 333, 3) := by decide +kernel
theorem d_BM_may_32 : decode c_BM_may 32 = .ok (.aload_n 0, 1) := by decide +kernel
theorem d_BM_may_33 : decode c_BM_may 33 = .ok (.iload_n 1, 1) := by decide +kernel
theorem d_BM_may_34 : decode c_BM_may 34 = .ok (.invokevirtual 396, 3) := by decide +kernel
theorem d_BM_may_37 : decode c_BM_may 37 = .ok (.aload_n 0, 1) := by decide +kernel
theorem d_BM_may_38 : decode c_BM_may 38 = .ok (.getfield 82, 3) := by decide +kernel
theorem d_BM_may_41 : decode c_BM_may 41 = .ok (.aload_n 0, 1) := by decide +kernel
theorem d_BM_may_42 : decode c_BM_may 42 = .ok (.getfield 16, 3) := by decide +kernel
theorem d_BM_may_45 : decode c_BM_may 45 = .ok (.invokestatic 333, 3) := by decide +kernel
theorem d_BM_may_48 : decode c_BM_may 48 = .ok (.aload_n 0, 1) := by decide +kernel
theorem d_BM_may_49 : decode c_BM_may 49 = .ok (.getfield 385, 3) := by decide +kernel
theorem d_BM_may_52 : decode c_BM_may 52 = .ok (.bipush 10, 2) := by decide +kernel
theorem d_BM_may_54 : decode c_BM_may 54 = .ok (.aload_n 0, 1) := by decide +kernel
theorem d_BM_may_55 : decode c_BM_may 55 = .ok (.getfield 388, 3) := by decide +kernel
theorem d_BM_may_58 : decode c_BM_may 58 = .ok (.imul, 1) := by decide +kernel
theorem d_BM_may_59 : decode c_BM_may 59 = .ok (.iadd, 1) := by decide +kernel
theorem d_BM_may_60 : decode c_BM_may 60 = .ok (.ireturn, 1) := by decide +kernel
def S_BM_may_0 (g : Gx) (Q : Int32 → St → Prop) (σ : St) (x1 : Int32) : Prop := Ax g m_BM_may 0 0 (ZI g Q) SH σ 0 0 0 [(0, .ref (gB g + 151)), (1, .int x1)] []
theorem sg_BM_may_0 {g : Gx} {Q : Int32 → St → Prop} {σ : St} {x1 : Int32}
    (h : K_BM_isBox g σ (fun (r2 : Int32) (s1 : St) => (r2 = 0 → Q (-1 : Int32) s1) ∧ (¬ r2 = 0 → K_BM_in g ((x1).toInt64) (0 : Int64) (3 : Int64) s1 (fun (r4 : Int32) (s3 : St) => (¬ r4 = 0 → K_BM_lay g 154 174 s3 (fun s5 : St => K_BM_tips g x1 s5 (fun s6 : St => K_BM_lay g 174 154 s6 (fun s7 : St => Q ((fi s7 151 35) + ((10 : Int32) * (fi s7 151 36))) s7)))) ∧ (r4 = 0 → Q (-1 : Int32) s3))))) : S_BM_may_0 g Q σ x1 := by
  show Ax g m_BM_may 0 0 (ZI g Q) SH σ 0 0 0 [(0, .ref (gB g + 151)), (1, .int x1)] []
  refine a_aload_n (pc := 0) 0 rfl rfl d_BM_may_0 ?_
  refine a_callV (pc := 1) (M' := m_BM_isBox) (As := []) (st := []) (mc' := 0) (ms' := 0) lk_BM_391 rfl sx_151 rfl (by decide) (by decide) rfl (Nat.le_of_ble_eq_true rfl) (Nat.le_refl 0) (Nat.le_refl 0) d_BM_may_1 h ?_
  rintro _ _ s1 ⟨r2, rfl, rfl, h⟩ -
  show Ax g m_BM_may 0 0 (ZI g Q) SH s1 0 0 4 [(0, .ref (gB g + 151)), (1, .int x1)] [.int r2]
  refine a_if_eq (pc := 4) 19 (by decide) d_BM_may_4 ⟨fun c0 => ?_, fun c0 => ?_⟩
  · replace h := h.1 c0
    refine a_iconst (pc := 19) (-1 : Int32) (by decide) d_BM_may_19 ?_
    exact b_iret (pc := 20) rfl d_BM_may_20 h
  · replace h := h.2 c0
    refine a_iload_n (pc := 7) 1 rfl rfl d_BM_may_7 ?_
    refine a_i2l (pc := 8) d_BM_may_8 ?_
    refine a_lconst (pc := 9) (0 : Int64) (by decide) d_BM_may_9 ?_
    refine a_ldc2 (pc := 10) tw1644 d_BM_may_10 ?_
    refine a_callS (pc := 13) (M' := m_BM_in) (As := [.long ((x1).toInt64), .long (0 : Int64), .long (3 : Int64)]) (st := []) (mc' := 0) (ms' := 0) lk_BM_162 rfl (by decide) (by decide) rfl (Nat.le_of_ble_eq_true rfl) (Nat.le_refl 0) (Nat.le_refl 0) d_BM_may_13 h ?_
    rintro _ _ s3 ⟨r4, rfl, rfl, h⟩ -
    show Ax g m_BM_may 0 0 (ZI g Q) SH s3 0 0 16 [(0, .ref (gB g + 151)), (1, .int x1)] [.int r4]
    refine a_if_ne (pc := 16) 21 (by decide) d_BM_may_16 ⟨fun c0 => ?_, fun c0 => ?_⟩
    · replace h := h.1 c0
      refine a_aload_n (pc := 21) 0 rfl rfl d_BM_may_21 ?_
      refine a_getR (pc := 22) fg_BM_16 sx_151 rfl d_BM_may_22 ?_
      refine a_aload_n (pc := 25) 0 rfl rfl d_BM_may_25 ?_
      refine a_getR (pc := 26) fg_BM_82 sx_151 rfl d_BM_may_26 ?_
      refine a_callS (pc := 29) (M' := m_BM_lay) (As := [.ref (gB g + 154), .ref (gB g + 174)]) (st := []) (mc' := 0) (ms' := 0) lk_BM_333 rfl (by decide) (by decide) rfl (Nat.le_of_ble_eq_true rfl) (Nat.le_refl 0) (Nat.le_refl 0) d_BM_may_29 h ?_
      rintro _ _ s5 ⟨rfl, rfl, h⟩ -
      show Ax g m_BM_may 0 0 (ZI g Q) SH s5 0 0 32 [(0, .ref (gB g + 151)), (1, .int x1)] []
      refine a_aload_n (pc := 32) 0 rfl rfl d_BM_may_32 ?_
      refine a_iload_n (pc := 33) 1 rfl rfl d_BM_may_33 ?_
      refine a_callV (pc := 34) (M' := m_BM_tips) (As := [.int x1]) (st := []) (mc' := 0) (ms' := 0) lk_BM_396 rfl sx_151 rfl (by decide) (by decide) rfl (Nat.le_of_ble_eq_true rfl) (Nat.le_refl 0) (Nat.le_refl 0) d_BM_may_34 h ?_
      rintro _ _ s6 ⟨rfl, rfl, h⟩ -
      show Ax g m_BM_may 0 0 (ZI g Q) SH s6 0 0 37 [(0, .ref (gB g + 151)), (1, .int x1)] []
      refine a_aload_n (pc := 37) 0 rfl rfl d_BM_may_37 ?_
      refine a_getR (pc := 38) fg_BM_82 sx_151 rfl d_BM_may_38 ?_
      refine a_aload_n (pc := 41) 0 rfl rfl d_BM_may_41 ?_
      refine a_getR (pc := 42) fg_BM_16 sx_151 rfl d_BM_may_42 ?_
      refine a_callS (pc := 45) (M' := m_BM_lay) (As := [.ref (gB g + 174), .ref (gB g + 154)]) (st := []) (mc' := 0) (ms' := 0) lk_BM_333 rfl (by decide) (by decide) rfl (Nat.le_of_ble_eq_true rfl) (Nat.le_refl 0) (Nat.le_refl 0) d_BM_may_45 h ?_
      rintro _ _ s7 ⟨rfl, rfl, h⟩ -
      show Ax g m_BM_may 0 0 (ZI g Q) SH s7 0 0 48 [(0, .ref (gB g + 151)), (1, .int x1)] []
      refine a_aload_n (pc := 48) 0 rfl rfl d_BM_may_48 ?_
      refine a_getI (pc := 49) fg_BM_385 sx_151 rfl d_BM_may_49 ?_
      refine a_bipush (pc := 52) (10 : Int32) (by decide) d_BM_may_52 ?_
      refine a_aload_n (pc := 54) 0 rfl rfl d_BM_may_54 ?_
      refine a_getI (pc := 55) fg_BM_388 sx_151 rfl d_BM_may_55 ?_
      refine a_imul (pc := 58) d_BM_may_58 ?_
      refine a_iadd (pc := 59) d_BM_may_59 ?_
      exact b_iret (pc := 60) rfl d_BM_may_60 h
    · replace h := h.2 c0
      refine a_iconst (pc := 19) (-1 : Int32) (by decide) d_BM_may_19 ?_
      exact b_iret (pc := 20) rfl d_BM_may_20 h
theorem ko_BM_may {g : Gx}  {x1 : Int32} {σ : St} {Q : Int32 → St → Prop} (h : S_BM_may_0 g Q σ x1) : K_BM_may g x1 σ Q := KI.of (show plainName "BallBoxModel" = true by decide) (Nat.le_of_ble_eq_true rfl) h
theorem d_BM_cell_0 : decode c_BM_cell 0 = .ok (.aload_n 0, 1) := by decide +kernel
theorem d_BM_cell_1 : decode c_BM_cell 1 = .ok (.iload_n 1, 1) := by decide +kernel
theorem d_BM_cell_2 : decode c_BM_cell 2 = .ok (.iload_n 2, 1) := by decide +kernel
theorem d_BM_cell_3 : decode c_BM_cell 3 = .ok (.invokevirtual 166, 3) := by decide +kernel
theorem d_BM_cell_6 : decode c_BM_cell 6 = .ok (.ifCond .eq 13, 3) := by decide +kernel
theorem d_BM_cell_9 : decode c_BM_cell 9 = .ok (.iload_n 3, 1) := by decide +kernel
theorem d_BM_cell_10 : decode c_BM_cell 10 = .ok (.i2l, 1) := by decide +kernel
theorem d_BM_cell_11 : decode c_BM_cell 11 = .ok (.lconst 0, 1) := by decide +kernel
theorem d_BM_cell_12 : decode c_BM_cell 12 = .ok (.lconst 1, 1) := by decide +kernel
theorem d_BM_cell_13 : decode c_BM_cell 13 = .ok (.invokestatic 162, 3) := by decide +kernel
theorem d_BM_cell_16 : decode c_BM_cell 16 = .ok (.ifCond .ne 5, 3) := by decide +kernel
theorem d_BM_cell_19 : decode c_BM_cell 19 = .ok (.iconst (-1), 1) := by decide +kernel
theorem d_BM_cell_20 : decode c_BM_cell 20 = .ok (.ireturn, 1) := by decide +kernel
theorem d_BM_cell_21 : decode c_BM_cell 21 = .ok (.iload_n 3, 1) := by decide +kernel
theorem d_BM_cell_22 : decode c_BM_cell 22 = .ok (.ifCond .ne 17, 3) := by decide +kernel
theorem d_BM_cell_25 : decode c_BM_cell 25 = .ok (.aload_n 0, 1) := by decide +kernel
theorem d_BM_cell_26 : decode c_BM_cell 26 = .ok (.getfield 13, 3) := by decide +kernel
theorem d_BM_cell_29 : decode c_BM_cell 29 = .ok (.bipush 6, 2) := by decide +kernel
theorem d_BM_cell_31 : decode c_BM_cell 31 = .ok (.iload_n 2, 1) := by decide +kernel
theorem d_BM_cell_32 : decode c_BM_cell 32 = .ok (.imul, 1) := by decide +kernel
theorem d_BM_cell_33 : decode c_BM_cell 33 = .ok (.iload_n 1, 1) := by decide +kernel
theorem d_BM_cell_34 : decode c_BM_cell 34 = .ok (.iadd, 1) := by decide +kernel
theorem d_BM_cell_35 : decode c_BM_cell 35 = .ok (.iaload, 1) := by decide +kernel
theorem d_BM_cell_36 : decode c_BM_cell 36 = .ok (.goto 13, 3) := by decide +kernel
theorem d_BM_cell_39 : decode c_BM_cell 39 = .ok (.aload_n 0, 1) := by decide +kernel
theorem d_BM_cell_40 : decode c_BM_cell 40 = .ok (.bipush 6, 2) := by decide +kernel
theorem d_BM_cell_42 : decode c_BM_cell 42 = .ok (.iload_n 2, 1) := by decide +kernel
theorem d_BM_cell_43 : decode c_BM_cell 43 = .ok (.imul, 1) := by decide +kernel
theorem d_BM_cell_44 : decode c_BM_cell 44 = .ok (.iload_n 1, 1) := by decide +kernel
theorem d_BM_cell_45 : decode c_BM_cell 45 = .ok (.iadd, 1) := by decide +kernel
theorem d_BM_cell_46 : decode c_BM_cell 46 = .ok (.invokevirtual 174, 3) := by decide +kernel
theorem d_BM_cell_49 : decode c_BM_cell 49 = .ok (.ireturn, 1) := by decide +kernel
def S_BM_cell_0 (g : Gx) (Q : Int32 → St → Prop) (σ : St) (x1 : Int32) (x2 : Int32) (x3 : Int32) : Prop := Ax g m_BM_cell 0 0 (ZI g Q) SH σ 0 0 0 [(0, .ref (gB g + 151)), (1, .int x1), (2, .int x2), (3, .int x3)] []
theorem sg_BM_cell_0 {g : Gx} {Q : Int32 → St → Prop} {σ : St} {x1 : Int32} {x2 : Int32} {x3 : Int32}
    (h : K_BM_isCell g x1 x2 σ (fun (r2 : Int32) (s1 : St) => (r2 = 0 → Q (-1 : Int32) s1) ∧ (¬ r2 = 0 → K_BM_in g ((x3).toInt64) (0 : Int64) (1 : Int64) s1 (fun (r4 : Int32) (s3 : St) => (¬ r4 = 0 → (¬ x3 = 0 → K_BM_whoAt g (((6 : Int32) * x2) + x1) s3 (fun (r6 : Int32) (s5 : St) => Q r6 s5)) ∧ (x3 = 0 → vp_in (((6 : Int32) * x2) + x1) 36 ∧ (Q (ai s3 153 ((((6 : Int32) * x2) + x1)).toNatClampNeg) s3))) ∧ (r4 = 0 → Q (-1 : Int32) s3))))) : S_BM_cell_0 g Q σ x1 x2 x3 := by
  show Ax g m_BM_cell 0 0 (ZI g Q) SH σ 0 0 0 [(0, .ref (gB g + 151)), (1, .int x1), (2, .int x2), (3, .int x3)] []
  refine a_aload_n (pc := 0) 0 rfl rfl d_BM_cell_0 ?_
  refine a_iload_n (pc := 1) 1 rfl rfl d_BM_cell_1 ?_
  refine a_iload_n (pc := 2) 2 rfl rfl d_BM_cell_2 ?_
  refine a_callV (pc := 3) (M' := m_BM_isCell) (As := [.int x1, .int x2]) (st := []) (mc' := 0) (ms' := 0) lk_BM_166 rfl sx_151 rfl (by decide) (by decide) rfl (Nat.le_of_ble_eq_true rfl) (Nat.le_refl 0) (Nat.le_refl 0) d_BM_cell_3 h ?_
  rintro _ _ s1 ⟨r2, rfl, rfl, h⟩ -
  show Ax g m_BM_cell 0 0 (ZI g Q) SH s1 0 0 6 [(0, .ref (gB g + 151)), (1, .int x1), (2, .int x2), (3, .int x3)] [.int r2]
  refine a_if_eq (pc := 6) 19 (by decide) d_BM_cell_6 ⟨fun c0 => ?_, fun c0 => ?_⟩
  · replace h := h.1 c0
    refine a_iconst (pc := 19) (-1 : Int32) (by decide) d_BM_cell_19 ?_
    exact b_iret (pc := 20) rfl d_BM_cell_20 h
  · replace h := h.2 c0
    refine a_iload_n (pc := 9) 3 rfl rfl d_BM_cell_9 ?_
    refine a_i2l (pc := 10) d_BM_cell_10 ?_
    refine a_lconst (pc := 11) (0 : Int64) (by decide) d_BM_cell_11 ?_
    refine a_lconst (pc := 12) (1 : Int64) (by decide) d_BM_cell_12 ?_
    refine a_callS (pc := 13) (M' := m_BM_in) (As := [.long ((x3).toInt64), .long (0 : Int64), .long (1 : Int64)]) (st := []) (mc' := 0) (ms' := 0) lk_BM_162 rfl (by decide) (by decide) rfl (Nat.le_of_ble_eq_true rfl) (Nat.le_refl 0) (Nat.le_refl 0) d_BM_cell_13 h ?_
    rintro _ _ s3 ⟨r4, rfl, rfl, h⟩ -
    show Ax g m_BM_cell 0 0 (ZI g Q) SH s3 0 0 16 [(0, .ref (gB g + 151)), (1, .int x1), (2, .int x2), (3, .int x3)] [.int r4]
    refine a_if_ne (pc := 16) 21 (by decide) d_BM_cell_16 ⟨fun c0 => ?_, fun c0 => ?_⟩
    · replace h := h.1 c0
      refine a_iload_n (pc := 21) 3 rfl rfl d_BM_cell_21 ?_
      refine a_if_ne (pc := 22) 39 (by decide) d_BM_cell_22 ⟨fun c0 => ?_, fun c0 => ?_⟩
      · replace h := h.1 c0
        refine a_aload_n (pc := 39) 0 rfl rfl d_BM_cell_39 ?_
        refine a_bipush (pc := 40) (6 : Int32) (by decide) d_BM_cell_40 ?_
        refine a_iload_n (pc := 42) 2 rfl rfl d_BM_cell_42 ?_
        refine a_imul (pc := 43) d_BM_cell_43 ?_
        refine a_iload_n (pc := 44) 1 rfl rfl d_BM_cell_44 ?_
        refine a_iadd (pc := 45) d_BM_cell_45 ?_
        refine a_callV (pc := 46) (M' := m_BM_whoAt) (As := [.int (((6 : Int32) * x2) + x1)]) (st := []) (mc' := 0) (ms' := 0) lk_BM_174 rfl sx_151 rfl (by decide) (by decide) rfl (Nat.le_of_ble_eq_true rfl) (Nat.le_refl 0) (Nat.le_refl 0) d_BM_cell_46 h ?_
        rintro _ _ s5 ⟨r6, rfl, rfl, h⟩ -
        show Ax g m_BM_cell 0 0 (ZI g Q) SH s5 0 0 49 [(0, .ref (gB g + 151)), (1, .int x1), (2, .int x2), (3, .int x3)] [.int r6]
        exact b_iret (pc := 49) rfl d_BM_cell_49 h
      · replace h := h.2 c0
        refine a_aload_n (pc := 25) 0 rfl rfl d_BM_cell_25 ?_
        refine a_getR (pc := 26) fg_BM_13 sx_151 rfl d_BM_cell_26 ?_
        refine a_bipush (pc := 29) (6 : Int32) (by decide) d_BM_cell_29 ?_
        refine a_iload_n (pc := 31) 2 rfl rfl d_BM_cell_31 ?_
        refine a_imul (pc := 32) d_BM_cell_32 ?_
        refine a_iload_n (pc := 33) 1 rfl rfl d_BM_cell_33 ?_
        refine a_iadd (pc := 34) d_BM_cell_34 ?_
        obtain ⟨hx, h⟩ := h
        refine a_iald (pc := 35) sx_153 hx d_BM_cell_35 ?_
        refine a_goto (pc := 36) 49 (by decide) d_BM_cell_36 ?_
        exact b_iret (pc := 49) rfl d_BM_cell_49 h
    · replace h := h.2 c0
      refine a_iconst (pc := 19) (-1 : Int32) (by decide) d_BM_cell_19 ?_
      exact b_iret (pc := 20) rfl d_BM_cell_20 h
theorem ko_BM_cell {g : Gx}  {x1 : Int32} {x2 : Int32} {x3 : Int32} {σ : St} {Q : Int32 → St → Prop} (h : S_BM_cell_0 g Q σ x1 x2 x3) : K_BM_cell g x1 x2 x3 σ Q := KI.of (show plainName "BallBoxModel" = true by decide) (Nat.le_of_ble_eq_true rfl) h
theorem d_BM_ball_0 : decode c_BM_ball 0 = .ok (.aload_n 0, 1) := by decide +kernel
theorem d_BM_ball_1 : decode c_BM_ball 1 = .ok (.iload_n 1, 1) := by decide +kernel
theorem d_BM_ball_2 : decode c_BM_ball 2 = .ok (.invokevirtual 398, 3) := by decide +kernel
theorem d_BM_ball_5 : decode c_BM_ball 5 = .ok (.ifCond .ne 5, 3) := by decide +kernel
theorem d_BM_ball_8 : decode c_BM_ball 8 = .ok (.iconst (-1), 1) := by decide +kernel
theorem d_BM_ball_9 : decode c_BM_ball 9 = .ok (.ireturn, 1) := by decide +kernel
theorem d_BM_ball_10 : decode c_BM_ball 10 = .ok (.aload_n 0, 1) := by decide +kernel
theorem d_BM_ball_11 : decode c_BM_ball 11 = .ok (.getfield 16, 3) := by decide +kernel
theorem d_BM_ball_14 : decode c_BM_ball 14 = .ok (.iload_n 1, 1) := by decide +kernel
theorem d_BM_ball_15 : decode c_BM_ball 15 = .ok (.iaload, 1) := by decide +kernel
theorem d_BM_ball_16 : decode c_BM_ball 16 = .ok (.bipush 36, 2) := by decide +kernel
theorem d_BM_ball_18 : decode c_BM_ball 18 = .ok (.if_icmp .ge 7, 3) := by decide +kernel
theorem d_BM_ball_21 : decode c_BM_ball 21 = .ok (.iconst 1, 1) := by decide +kernel
theorem d_BM_ball_22 : decode c_BM_ball 22 = .ok (.goto 4, 3) := by decide +kernel
theorem d_BM_ball_25 : decode c_BM_ball 25 = .ok (.iconst 0, 1) := by decide +kernel
theorem d_BM_ball_26 : decode c_BM_ball 26 = .ok (.istore_n 3, 1) := by decide +kernel
theorem d_BM_ball_27 : decode c_BM_ball 27 = .ok (.iload_n 2, 1) := by decide +kernel
theorem d_BM_ball_28 : decode c_BM_ball 28 = .ok (.tableswitch 107 0 3 #[32, 50, 68, 93], 32) := by decide +kernel
theorem d_BM_ball_60 : decode c_BM_ball 60 = .ok (.iload_n 3, 1) := by decide +kernel
theorem d_BM_ball_61 : decode c_BM_ball 61 = .ok (.ifCond .eq 15, 3) := by decide +kernel
theorem d_BM_ball_64 : decode c_BM_ball 64 = .ok (.aload_n 0, 1) := by decide +kernel
theorem d_BM_ball_65 : decode c_BM_ball 65 = .ok (.getfield 16, 3) := by decide +kernel
theorem d_BM_ball_68 : decode c_BM_ball 68 = .ok (.iload_n 1, 1) := by decide +kernel
theorem d_BM_ball_69 : decode c_BM_ball 69 = .ok (.iaload, 1) := by decide +kernel
theorem d_BM_ball_70 : decode c_BM_ball 70 = .ok (.bipush 6, 2) := by decide +kernel
theorem d_BM_ball_72 : decode c_BM_ball 72 = .ok (.irem, 1) := by decide +kernel
theorem d_BM_ball_73 : decode c_BM_ball 73 = .ok (.goto 4, 3) := by decide +kernel
theorem d_BM_ball_76 : decode c_BM_ball 76 = .ok (.iconst (-1), 1) := by decide +kernel
theorem d_BM_ball_77 : decode c_BM_ball 77 = .ok (.ireturn, 1) := by decide +kernel
theorem d_BM_ball_78 : decode c_BM_ball 78 = .ok (.iload_n 3, 1) := by decide +kernel
theorem d_BM_ball_79 : decode c_BM_ball 79 = .ok (.ifCond .eq 15, 3) := by decide +kernel
theorem d_BM_ball_82 : decode c_BM_ball 82 = .ok (.aload_n 0, 1) := by decide +kernel
theorem d_BM_ball_83 : decode c_BM_ball 83 = .ok (.getfield 16, 3) := by decide +kernel
theorem d_BM_ball_86 : decode c_BM_ball 86 = .ok (.iload_n 1, 1) := by decide +kernel
theorem d_BM_ball_87 : decode c_BM_ball 87 = .ok (.iaload, 1) := by decide +kernel
theorem d_BM_ball_88 : decode c_BM_ball 88 = .ok (.bipush 6, 2) := by decide +kernel
theorem d_BM_ball_90 : decode c_BM_ball 90 = .ok (.idiv, 1) := by decide +kernel
theorem d_BM_ball_91 : decode c_BM_ball 91 = .ok (.goto 4, 3) := by decide +kernel
theorem d_BM_ball_94 : decode c_BM_ball 94 = .ok (.iconst (-1), 1) := by decide +kernel
theorem d_BM_ball_95 : decode c_BM_ball 95 = .ok (.ireturn, 1) := by decide +kernel
theorem d_BM_ball_96 : decode c_BM_ball 96 = .ok (.iload_n 3, 1) := by decide +kernel
theorem d_BM_ball_97 : decode c_BM_ball 97 = .ok (.ifCond .eq 7, 3) := by decide +kernel
theorem d_BM_ball_100 : decode c_BM_ball 100 = .ok (.iconst 0, 1) := by decide +kernel
theorem d_BM_ball_101 : decode c_BM_ball 101 = .ok (.goto 19, 3) := by decide +kernel
theorem d_BM_ball_104 : decode c_BM_ball 104 = .ok (.aload_n 0, 1) := by decide +kernel
theorem d_BM_ball_105 : decode c_BM_ball 105 = .ok (.getfield 16, 3) := by decide +kernel
theorem d_BM_ball_108 : decode c_BM_ball 108 = .ok (.iload_n 1, 1) := by decide +kernel
theorem d_BM_ball_109 : decode c_BM_ball 109 = .ok (.iaload, 1) := by decide +kernel
theorem d_BM_ball_110 : decode c_BM_ball 110 = .ok (.bipush 36, 2) := by decide +kernel
theorem d_BM_ball_112 : decode c_BM_ball 112 = .ok (.if_icmp .ne 7, 3) := by decide +kernel
theorem d_BM_ball_115 : decode c_BM_ball 115 = .ok (.iconst 1, 1) := by decide +kernel
theorem d_BM_ball_116 : decode c_BM_ball 116 = .ok (.goto 4, 3) := by decide +kernel
theorem d_BM_ball_119 : decode c_BM_ball 119 = .ok (.iconst 2, 1) := by decide +kernel
theorem d_BM_ball_120 : decode c_BM_ball 120 = .ok (.ireturn, 1) := by decide +kernel
theorem d_BM_ball_121 : decode c_BM_ball 121 = .ok (.iload_n 3, 1) := by decide +kernel
theorem d_BM_ball_122 : decode c_BM_ball 122 = .ok (.ifCond .eq 11, 3) := by decide +kernel
theorem d_BM_ball_125 : decode c_BM_ball 125 = .ok (.aload_n 0, 1) := by decide +kernel
theorem d_BM_ball_126 : decode c_BM_ball 126 = .ok (.iload_n 1, 1) := by decide +kernel
theorem d_BM_ball_127 : decode c_BM_ball 127 = .ok (.invokevirtual 372, 3) := by decide +kernel
theorem d_BM_ball_130 : decode c_BM_ball 130 = .ok (.goto 4, 3) := by decide +kernel
theorem d_BM_ball_133 : decode c_BM_ball 133 = .ok (.iconst (-1), 1) := by decide +kernel
theorem d_BM_ball_134 : decode c_BM_ball 134 = .ok (.ireturn, 1) := by decide +kernel
theorem d_BM_ball_135 : decode c_BM_ball 135 = .ok (.iconst (-1), 1) := by decide +kernel
theorem d_BM_ball_136 : decode c_BM_ball 136 = .ok (.ireturn, 1) := by decide +kernel
def S_BM_ball_0 (g : Gx) (Q : Int32 → St → Prop) (σ : St) (x1 : Int32) (x2 : Int32) : Prop := Ax g m_BM_ball 0 0 (ZI g Q) SH σ 0 0 0 [(0, .ref (gB g + 151)), (1, .int x1), (2, .int x2)] []
def S_BM_ball_26 (g : Gx) (Q : Int32 → St → Prop) (σ : St) (x1 : Int32) (x2 : Int32) (z0 : Int32) : Prop := Ax g m_BM_ball 0 0 (ZI g Q) SH σ 0 0 26 [(0, .ref (gB g + 151)), (1, .int x1), (2, .int x2)] [.int z0]
theorem sg_BM_ball_0 {g : Gx} {Q : Int32 → St → Prop} {σ : St} {x1 : Int32} {x2 : Int32}
    (h : K_BM_isBall g x1 σ (fun (r2 : Int32) (s1 : St) => (¬ r2 = 0 → vp_in x1 3 ∧ (((36 : Int32) ≤ (ai s1 154 (x1).toNatClampNeg) → S_BM_ball_26 g Q s1 x1 x2 (0 : Int32)) ∧ (¬ (36 : Int32) ≤ (ai s1 154 (x1).toNatClampNeg) → S_BM_ball_26 g Q s1 x1 x2 (1 : Int32)))) ∧ (r2 = 0 → Q (-1 : Int32) s1))) : S_BM_ball_0 g Q σ x1 x2 := by
  show Ax g m_BM_ball 0 0 (ZI g Q) SH σ 0 0 0 [(0, .ref (gB g + 151)), (1, .int x1), (2, .int x2)] []
  refine a_aload_n (pc := 0) 0 rfl rfl d_BM_ball_0 ?_
  refine a_iload_n (pc := 1) 1 rfl rfl d_BM_ball_1 ?_
  refine a_callV (pc := 2) (M' := m_BM_isBall) (As := [.int x1]) (st := []) (mc' := 0) (ms' := 0) lk_BM_398 rfl sx_151 rfl (by decide) (by decide) rfl (Nat.le_of_ble_eq_true rfl) (Nat.le_refl 0) (Nat.le_refl 0) d_BM_ball_2 h ?_
  rintro _ _ s1 ⟨r2, rfl, rfl, h⟩ -
  show Ax g m_BM_ball 0 0 (ZI g Q) SH s1 0 0 5 [(0, .ref (gB g + 151)), (1, .int x1), (2, .int x2)] [.int r2]
  refine a_if_ne (pc := 5) 10 (by decide) d_BM_ball_5 ⟨fun c0 => ?_, fun c0 => ?_⟩
  · replace h := h.1 c0
    refine a_aload_n (pc := 10) 0 rfl rfl d_BM_ball_10 ?_
    refine a_getR (pc := 11) fg_BM_16 sx_151 rfl d_BM_ball_11 ?_
    refine a_iload_n (pc := 14) 1 rfl rfl d_BM_ball_14 ?_
    obtain ⟨hx, h⟩ := h
    refine a_iald (pc := 15) sx_154 hx d_BM_ball_15 ?_
    refine a_bipush (pc := 16) (36 : Int32) (by decide) d_BM_ball_16 ?_
    refine a_icmp_ge (pc := 18) 25 (by decide) d_BM_ball_18 ⟨fun c0 => ?_, fun c0 => ?_⟩
    · replace h := h.1 c0
      refine a_iconst (pc := 25) (0 : Int32) (by decide) d_BM_ball_25 ?_
      refine a_sub (pc := 26) [0, 1, 2] rfl ?_
      exact h
    · replace h := h.2 c0
      refine a_iconst (pc := 21) (1 : Int32) (by decide) d_BM_ball_21 ?_
      refine a_goto (pc := 22) 26 (by decide) d_BM_ball_22 ?_
      refine a_sub (pc := 26) [0, 1, 2] rfl ?_
      exact h
  · replace h := h.2 c0
    refine a_iconst (pc := 8) (-1 : Int32) (by decide) d_BM_ball_8 ?_
    exact b_iret (pc := 9) rfl d_BM_ball_9 h
theorem sg_BM_ball_26 {g : Gx} {Q : Int32 → St → Prop} {σ : St} {x1 : Int32} {x2 : Int32} {z0 : Int32}
    (h : ((x2 = (0 : Int32) → (z0 = 0 → Q (-1 : Int32) σ) ∧ (¬ z0 = 0 → vp_in x1 3 ∧ (Q ((ai σ 154 (x1).toNatClampNeg) - (ai σ 154 (x1).toNatClampNeg) / (6 : Int32) * (6 : Int32)) σ))) ∧ (x2 = (1 : Int32) → (z0 = 0 → Q (-1 : Int32) σ) ∧ (¬ z0 = 0 → vp_in x1 3 ∧ (Q ((ai σ 154 (x1).toNatClampNeg) / (6 : Int32)) σ))) ∧ (x2 = (2 : Int32) → (z0 = 0 → vp_in x1 3 ∧ ((¬ (ai σ 154 (x1).toNatClampNeg) = (36 : Int32) → Q (2 : Int32) σ) ∧ ((ai σ 154 (x1).toNatClampNeg) = (36 : Int32) → Q (1 : Int32) σ))) ∧ (¬ z0 = 0 → Q (0 : Int32) σ)) ∧ (x2 = (3 : Int32) → (z0 = 0 → Q (-1 : Int32) σ) ∧ (¬ z0 = 0 → K_BM_steps g x1 σ (fun (r2 : Int32) (s1 : St) => Q r2 s1))) ∧ (¬ x2 = (0 : Int32) → ¬ x2 = (1 : Int32) → ¬ x2 = (2 : Int32) → ¬ x2 = (3 : Int32) → Q (-1 : Int32) σ))) : S_BM_ball_26 g Q σ x1 x2 z0 := by
  show Ax g m_BM_ball 0 0 (ZI g Q) SH σ 0 0 26 [(0, .ref (gB g + 151)), (1, .int x1), (2, .int x2)] [.int z0]
  refine a_istore_n (pc := 26) (lv' := [(3, .int z0), (0, .ref (gB g + 151)), (1, .int x1), (2, .int x2)]) rfl (Nat.le_of_ble_eq_true rfl) rfl d_BM_ball_26 ?_
  refine a_iload_n (pc := 27) 3 rfl rfl d_BM_ball_27 ?_
  by_cases c0 : x2 = (0 : Int32)
  · replace h := h.1 c0
    refine a_tableIn (pc := 28) 60 (off := 32) (by rw [c0]; decide) (by rw [c0]; decide) (by rw [c0]; rfl) (by decide) d_BM_ball_28 ?_
    refine a_iload_n (pc := 60) 0 rfl rfl d_BM_ball_60 ?_
    refine a_if_eq (pc := 61) 76 (by decide) d_BM_ball_61 ⟨fun c0 => ?_, fun c0 => ?_⟩
    · replace h := h.1 c0
      refine a_iconst (pc := 76) (-1 : Int32) (by decide) d_BM_ball_76 ?_
      exact b_iret (pc := 77) rfl d_BM_ball_77 h
    · replace h := h.2 c0
      refine a_aload_n (pc := 64) 1 rfl rfl d_BM_ball_64 ?_
      refine a_getR (pc := 65) fg_BM_16 sx_151 rfl d_BM_ball_65 ?_
      refine a_iload_n (pc := 68) 2 rfl rfl d_BM_ball_68 ?_
      obtain ⟨hx, h⟩ := h
      refine a_iald (pc := 69) sx_154 hx d_BM_ball_69 ?_
      refine a_bipush (pc := 70) (6 : Int32) (by decide) d_BM_ball_70 ?_
      refine a_irem (pc := 72) (by decide) d_BM_ball_72 ?_
      refine a_goto (pc := 73) 77 (by decide) d_BM_ball_73 ?_
      exact b_iret (pc := 77) rfl d_BM_ball_77 h
  replace h := h.2
  by_cases c1 : x2 = (1 : Int32)
  · replace h := h.1 c1
    refine a_tableIn (pc := 28) 78 (off := 50) (by rw [c1]; decide) (by rw [c1]; decide) (by rw [c1]; rfl) (by decide) d_BM_ball_28 ?_
    refine a_iload_n (pc := 78) 0 rfl rfl d_BM_ball_78 ?_
    refine a_if_eq (pc := 79) 94 (by decide) d_BM_ball_79 ⟨fun c0 => ?_, fun c0 => ?_⟩
    · replace h := h.1 c0
      refine a_iconst (pc := 94) (-1 : Int32) (by decide) d_BM_ball_94 ?_
      exact b_iret (pc := 95) rfl d_BM_ball_95 h
    · replace h := h.2 c0
      refine a_aload_n (pc := 82) 1 rfl rfl d_BM_ball_82 ?_
      refine a_getR (pc := 83) fg_BM_16 sx_151 rfl d_BM_ball_83 ?_
      refine a_iload_n (pc := 86) 2 rfl rfl d_BM_ball_86 ?_
      obtain ⟨hx, h⟩ := h
      refine a_iald (pc := 87) sx_154 hx d_BM_ball_87 ?_
      refine a_bipush (pc := 88) (6 : Int32) (by decide) d_BM_ball_88 ?_
      refine a_idiv (pc := 90) (by decide) d_BM_ball_90 ?_
      refine a_goto (pc := 91) 95 (by decide) d_BM_ball_91 ?_
      exact b_iret (pc := 95) rfl d_BM_ball_95 h
  replace h := h.2
  by_cases c2 : x2 = (2 : Int32)
  · replace h := h.1 c2
    refine a_tableIn (pc := 28) 96 (off := 68) (by rw [c2]; decide) (by rw [c2]; decide) (by rw [c2]; rfl) (by decide) d_BM_ball_28 ?_
    refine a_iload_n (pc := 96) 0 rfl rfl d_BM_ball_96 ?_
    refine a_if_eq (pc := 97) 104 (by decide) d_BM_ball_97 ⟨fun c0 => ?_, fun c0 => ?_⟩
    · replace h := h.1 c0
      refine a_aload_n (pc := 104) 1 rfl rfl d_BM_ball_104 ?_
      refine a_getR (pc := 105) fg_BM_16 sx_151 rfl d_BM_ball_105 ?_
      refine a_iload_n (pc := 108) 2 rfl rfl d_BM_ball_108 ?_
      obtain ⟨hx, h⟩ := h
      refine a_iald (pc := 109) sx_154 hx d_BM_ball_109 ?_
      refine a_bipush (pc := 110) (36 : Int32) (by decide) d_BM_ball_110 ?_
      refine a_icmp_ne (pc := 112) 119 (by decide) d_BM_ball_112 ⟨fun c0 => ?_, fun c0 => ?_⟩
      · replace h := h.1 c0
        refine a_iconst (pc := 119) (2 : Int32) (by decide) d_BM_ball_119 ?_
        exact b_iret (pc := 120) rfl d_BM_ball_120 h
      · replace h := h.2 c0
        refine a_iconst (pc := 115) (1 : Int32) (by decide) d_BM_ball_115 ?_
        refine a_goto (pc := 116) 120 (by decide) d_BM_ball_116 ?_
        exact b_iret (pc := 120) rfl d_BM_ball_120 h
    · replace h := h.2 c0
      refine a_iconst (pc := 100) (0 : Int32) (by decide) d_BM_ball_100 ?_
      refine a_goto (pc := 101) 120 (by decide) d_BM_ball_101 ?_
      exact b_iret (pc := 120) rfl d_BM_ball_120 h
  replace h := h.2
  by_cases c3 : x2 = (3 : Int32)
  · replace h := h.1 c3
    refine a_tableIn (pc := 28) 121 (off := 93) (by rw [c3]; decide) (by rw [c3]; decide) (by rw [c3]; rfl) (by decide) d_BM_ball_28 ?_
    refine a_iload_n (pc := 121) 0 rfl rfl d_BM_ball_121 ?_
    refine a_if_eq (pc := 122) 133 (by decide) d_BM_ball_122 ⟨fun c0 => ?_, fun c0 => ?_⟩
    · replace h := h.1 c0
      refine a_iconst (pc := 133) (-1 : Int32) (by decide) d_BM_ball_133 ?_
      exact b_iret (pc := 134) rfl d_BM_ball_134 h
    · replace h := h.2 c0
      refine a_aload_n (pc := 125) 1 rfl rfl d_BM_ball_125 ?_
      refine a_iload_n (pc := 126) 2 rfl rfl d_BM_ball_126 ?_
      refine a_callV (pc := 127) (M' := m_BM_steps) (As := [.int x1]) (st := []) (mc' := 0) (ms' := 0) lk_BM_372 rfl sx_151 rfl (by decide) (by decide) rfl (Nat.le_of_ble_eq_true rfl) (Nat.le_refl 0) (Nat.le_refl 0) d_BM_ball_127 h ?_
      rintro _ _ s1 ⟨r2, rfl, rfl, h⟩ -
      show Ax g m_BM_ball 0 0 (ZI g Q) SH s1 0 0 130 [(3, .int z0), (0, .ref (gB g + 151)), (1, .int x1), (2, .int x2)] [.int r2]
      refine a_goto (pc := 130) 134 (by decide) d_BM_ball_130 ?_
      exact b_iret (pc := 134) rfl d_BM_ball_134 h
  replace h := h.2
  replace h := h c0 c1 c2 c3
  have e0 := lv_neT (a := 0) c0 rfl
  have e1 := lv_neT (a := 1) c1 rfl
  have e2 := lv_neT (a := 2) c2 rfl
  have e3 := lv_neT (a := 3) c3 rfl
  refine a_tableOut (pc := 28) 135 (by omega) (by decide) d_BM_ball_28 ?_
  refine a_iconst (pc := 135) (-1 : Int32) (by decide) d_BM_ball_135 ?_
  exact b_iret (pc := 136) rfl d_BM_ball_136 h
theorem ko_BM_ball {g : Gx}  {x1 : Int32} {x2 : Int32} {σ : St} {Q : Int32 → St → Prop} (h : S_BM_ball_0 g Q σ x1 x2) : K_BM_ball g x1 x2 σ Q := KI.of (show plainName "BallBoxModel" = true by decide) (Nat.le_of_ble_eq_true rfl) h
theorem d_BM_put_0 : decode c_BM_put 0 = .ok (.aload_n 0, 1) := by decide +kernel
theorem d_BM_put_1 : decode c_BM_put 1 = .ok (.iload_n 1, 1) := by decide +kernel
theorem d_BM_put_2 : decode c_BM_put 2 = .ok (.invokevirtual 398, 3) := by decide +kernel
theorem d_BM_put_5 : decode c_BM_put 5 = .ok (.ifCond .eq 29, 3) := by decide +kernel
theorem d_BM_put_8 : decode c_BM_put 8 = .ok (.aload_n 0, 1) := by decide +kernel
theorem d_BM_put_9 : decode c_BM_put 9 = .ok (.iload_n 2, 1) := by decide +kernel
theorem d_BM_put_10 : decode c_BM_put 10 = .ok (.iload_n 3, 1) := by decide +kernel
theorem d_BM_put_11 : decode c_BM_put 11 = .ok (.invokevirtual 166, 3) := by decide +kernel
theorem d_BM_put_14 : decode c_BM_put 14 = .ok (.ifCond .eq 20, 3) := by decide +kernel
theorem d_BM_put_17 : decode c_BM_put 17 = .ok (.aload_n 0, 1) := by decide +kernel
theorem d_BM_put_18 : decode c_BM_put 18 = .ok (.bipush 6, 2) := by decide +kernel
theorem d_BM_put_20 : decode c_BM_put 20 = .ok (.iload_n 3, 1) := by decide +kernel
theorem d_BM_put_21 : decode c_BM_put 21 = .ok (.imul, 1) := by decide +kernel
theorem d_BM_put_22 : decode c_BM_put 22 = .ok (.iload_n 2, 1) := by decide +kernel
theorem d_BM_put_23 : decode c_BM_put 23 = .ok (.iadd, 1) := by decide +kernel
theorem d_BM_put_24 : decode c_BM_put 24 = .ok (.invokevirtual 401, 3) := by decide +kernel
theorem d_BM_put_27 : decode c_BM_put 27 = .ok (.ifCond .eq 7, 3) := by decide +kernel
theorem d_BM_put_30 : decode c_BM_put 30 = .ok (.iconst 1, 1) := by decide +kernel
theorem d_BM_put_31 : decode c_BM_put 31 = .ok (.goto 4, 3) := by decide +kernel
theorem d_BM_put_34 : decode c_BM_put 34 = .ok (.iconst 0, 1) := by decide +kernel
theorem d_BM_put_35 : decode c_BM_put 35 = .ok (.istore 4, 2) := by decide +kernel
theorem d_BM_put_37 : decode c_BM_put 37 = .ok (.iload 4, 2) := by decide +kernel
theorem d_BM_put_39 : decode c_BM_put 39 = .ok (.ifCond .eq 15, 3) := by decide +kernel
theorem d_BM_put_42 : decode c_BM_put 42 = .ok (.aload_n 0, 1) := by decide +kernel
theorem d_BM_put_43 : decode c_BM_put 43 = .ok (.getfield 16, 3) := by decide +kernel
theorem d_BM_put_46 : decode c_BM_put 46 = .ok (.iload_n 1, 1) := by decide +kernel
theorem d_BM_put_47 : decode c_BM_put 47 = .ok (.bipush 6, 2) := by decide +kernel
theorem d_BM_put_49 : decode c_BM_put 49 = .ok (.iload_n 3, 1) := by decide +kernel
theorem d_BM_put_50 : decode c_BM_put 50 = .ok (.imul, 1) := by decide +kernel
theorem d_BM_put_51 : decode c_BM_put 51 = .ok (.iload_n 2, 1) := by decide +kernel
theorem d_BM_put_52 : decode c_BM_put 52 = .ok (.iadd, 1) := by decide +kernel
theorem d_BM_put_53 : decode c_BM_put 53 = .ok (.iastore, 1) := by decide +kernel
theorem d_BM_put_54 : decode c_BM_put 54 = .ok (.iload 4, 2) := by decide +kernel
theorem d_BM_put_56 : decode c_BM_put 56 = .ok (.ireturn, 1) := by decide +kernel
def S_BM_put_0 (g : Gx) (Q : Int32 → St → Prop) (σ : St) (x1 : Int32) (x2 : Int32) (x3 : Int32) : Prop := Ax g m_BM_put 0 0 (ZI g Q) SH σ 0 0 0 [(0, .ref (gB g + 151)), (1, .int x1), (2, .int x2), (3, .int x3)] []
def S_BM_put_35 (g : Gx) (Q : Int32 → St → Prop) (σ : St) (x1 : Int32) (x2 : Int32) (x3 : Int32) (z0 : Int32) : Prop := Ax g m_BM_put 0 0 (ZI g Q) SH σ 0 0 35 [(0, .ref (gB g + 151)), (1, .int x1), (2, .int x2), (3, .int x3)] [.int z0]
theorem sg_BM_put_0 {g : Gx} {Q : Int32 → St → Prop} {σ : St} {x1 : Int32} {x2 : Int32} {x3 : Int32}
    (h : K_BM_isBall g x1 σ (fun (r2 : Int32) (s1 : St) => (r2 = 0 → S_BM_put_35 g Q s1 x1 x2 x3 (0 : Int32)) ∧ (¬ r2 = 0 → K_BM_isCell g x2 x3 s1 (fun (r4 : Int32) (s3 : St) => (r4 = 0 → S_BM_put_35 g Q s3 x1 x2 x3 (0 : Int32)) ∧ (¬ r4 = 0 → K_BM_isFree g (((6 : Int32) * x3) + x2) s3 (fun (r6 : Int32) (s5 : St) => (r6 = 0 → S_BM_put_35 g Q s5 x1 x2 x3 (0 : Int32)) ∧ (¬ r6 = 0 → S_BM_put_35 g Q s5 x1 x2 x3 (1 : Int32)))))))) : S_BM_put_0 g Q σ x1 x2 x3 := by
  show Ax g m_BM_put 0 0 (ZI g Q) SH σ 0 0 0 [(0, .ref (gB g + 151)), (1, .int x1), (2, .int x2), (3, .int x3)] []
  refine a_aload_n (pc := 0) 0 rfl rfl d_BM_put_0 ?_
  refine a_iload_n (pc := 1) 1 rfl rfl d_BM_put_1 ?_
  refine a_callV (pc := 2) (M' := m_BM_isBall) (As := [.int x1]) (st := []) (mc' := 0) (ms' := 0) lk_BM_398 rfl sx_151 rfl (by decide) (by decide) rfl (Nat.le_of_ble_eq_true rfl) (Nat.le_refl 0) (Nat.le_refl 0) d_BM_put_2 h ?_
  rintro _ _ s1 ⟨r2, rfl, rfl, h⟩ -
  show Ax g m_BM_put 0 0 (ZI g Q) SH s1 0 0 5 [(0, .ref (gB g + 151)), (1, .int x1), (2, .int x2), (3, .int x3)] [.int r2]
  refine a_if_eq (pc := 5) 34 (by decide) d_BM_put_5 ⟨fun c0 => ?_, fun c0 => ?_⟩
  · replace h := h.1 c0
    refine a_iconst (pc := 34) (0 : Int32) (by decide) d_BM_put_34 ?_
    refine a_sub (pc := 35) [0, 1, 2, 3] rfl ?_
    exact h
  · replace h := h.2 c0
    refine a_aload_n (pc := 8) 0 rfl rfl d_BM_put_8 ?_
    refine a_iload_n (pc := 9) 2 rfl rfl d_BM_put_9 ?_
    refine a_iload_n (pc := 10) 3 rfl rfl d_BM_put_10 ?_
    refine a_callV (pc := 11) (M' := m_BM_isCell) (As := [.int x2, .int x3]) (st := []) (mc' := 0) (ms' := 0) lk_BM_166 rfl sx_151 rfl (by decide) (by decide) rfl (Nat.le_of_ble_eq_true rfl) (Nat.le_refl 0) (Nat.le_refl 0) d_BM_put_11 h ?_
    rintro _ _ s3 ⟨r4, rfl, rfl, h⟩ -
    show Ax g m_BM_put 0 0 (ZI g Q) SH s3 0 0 14 [(0, .ref (gB g + 151)), (1, .int x1), (2, .int x2), (3, .int x3)] [.int r4]
    refine a_if_eq (pc := 14) 34 (by decide) d_BM_put_14 ⟨fun c0 => ?_, fun c0 => ?_⟩
    · replace h := h.1 c0
      refine a_iconst (pc := 34) (0 : Int32) (by decide) d_BM_put_34 ?_
      refine a_sub (pc := 35) [0, 1, 2, 3] rfl ?_
      exact h
    · replace h := h.2 c0
      refine a_aload_n (pc := 17) 0 rfl rfl d_BM_put_17 ?_
      refine a_bipush (pc := 18) (6 : Int32) (by decide) d_BM_put_18 ?_
      refine a_iload_n (pc := 20) 3 rfl rfl d_BM_put_20 ?_
      refine a_imul (pc := 21) d_BM_put_21 ?_
      refine a_iload_n (pc := 22) 2 rfl rfl d_BM_put_22 ?_
      refine a_iadd (pc := 23) d_BM_put_23 ?_
      refine a_callV (pc := 24) (M' := m_BM_isFree) (As := [.int (((6 : Int32) * x3) + x2)]) (st := []) (mc' := 0) (ms' := 0) lk_BM_401 rfl sx_151 rfl (by decide) (by decide) rfl (Nat.le_of_ble_eq_true rfl) (Nat.le_refl 0) (Nat.le_refl 0) d_BM_put_24 h ?_
      rintro _ _ s5 ⟨r6, rfl, rfl, h⟩ -
      show Ax g m_BM_put 0 0 (ZI g Q) SH s5 0 0 27 [(0, .ref (gB g + 151)), (1, .int x1), (2, .int x2), (3, .int x3)] [.int r6]
      refine a_if_eq (pc := 27) 34 (by decide) d_BM_put_27 ⟨fun c0 => ?_, fun c0 => ?_⟩
      · replace h := h.1 c0
        refine a_iconst (pc := 34) (0 : Int32) (by decide) d_BM_put_34 ?_
        refine a_sub (pc := 35) [0, 1, 2, 3] rfl ?_
        exact h
      · replace h := h.2 c0
        refine a_iconst (pc := 30) (1 : Int32) (by decide) d_BM_put_30 ?_
        refine a_goto (pc := 31) 35 (by decide) d_BM_put_31 ?_
        refine a_sub (pc := 35) [0, 1, 2, 3] rfl ?_
        exact h
theorem sg_BM_put_35 {g : Gx} {Q : Int32 → St → Prop} {σ : St} {x1 : Int32} {x2 : Int32} {x3 : Int32} {z0 : Int32}
    (h : (z0 = 0 → (z0 = 0 ∨ z0 = 1) ∧ Q z0 σ) ∧ (¬ z0 = 0 → vp_in x1 3 ∧ (∀ s1 : St, s1 = sai σ 154 (x1).toNatClampNeg (((6 : Int32) * x3) + x2) → (z0 = 0 ∨ z0 = 1) ∧ Q z0 s1))) : S_BM_put_35 g Q σ x1 x2 x3 z0 := by
  show Ax g m_BM_put 0 0 (ZI g Q) SH σ 0 0 35 [(0, .ref (gB g + 151)), (1, .int x1), (2, .int x2), (3, .int x3)] [.int z0]
  refine a_istore (pc := 35) (lv' := [(4, .int z0), (0, .ref (gB g + 151)), (1, .int x1), (2, .int x2), (3, .int x3)]) (Nat.le_of_ble_eq_true rfl) rfl d_BM_put_35 ?_
  refine a_iload (pc := 37) 0 rfl d_BM_put_37 ?_
  refine a_if_eq (pc := 39) 54 (by decide) d_BM_put_39 ⟨fun c0 => ?_, fun c0 => ?_⟩
  · replace h := h.1 c0
    refine a_iload (pc := 54) 0 rfl d_BM_put_54 ?_
    exact b_zret (pc := 56) rfl h.1 d_BM_put_56 h.2
  · replace h := h.2 c0
    refine a_aload_n (pc := 42) 1 rfl rfl d_BM_put_42 ?_
    refine a_getR (pc := 43) fg_BM_16 sx_151 rfl d_BM_put_43 ?_
    refine a_iload_n (pc := 46) 2 rfl rfl d_BM_put_46 ?_
    refine a_bipush (pc := 47) (6 : Int32) (by decide) d_BM_put_47 ?_
    refine a_iload_n (pc := 49) 4 rfl rfl d_BM_put_49 ?_
    refine a_imul (pc := 50) d_BM_put_50 ?_
    refine a_iload_n (pc := 51) 3 rfl rfl d_BM_put_51 ?_
    refine a_iadd (pc := 52) d_BM_put_52 ?_
    obtain ⟨hx, h⟩ := h
    refine a_iast (pc := 53) sx_154 hx d_BM_put_53 ?_
    refine a_nms (fun s1 hs1 => ?_)
    replace h := h s1 hs1
    refine a_iload (pc := 54) 0 rfl d_BM_put_54 ?_
    exact b_zret (pc := 56) rfl h.1 d_BM_put_56 h.2
theorem ko_BM_put {g : Gx}  {x1 : Int32} {x2 : Int32} {x3 : Int32} {σ : St} {Q : Int32 → St → Prop} (h : S_BM_put_0 g Q σ x1 x2 x3) : K_BM_put g x1 x2 x3 σ Q := KI.of (show plainName "BallBoxModel" = true by decide) (Nat.le_of_ble_eq_true rfl) h
theorem d_BM_wall_0 : decode c_BM_wall 0 = .ok (.bipush 6, 2) := by decide +kernel
theorem d_BM_wall_2 : decode c_BM_wall 2 = .ok (.iload_n 2, 1) := by decide +kernel
theorem d_BM_wall_3 : decode c_BM_wall 3 = .ok (.imul, 1) := by decide +kernel
theorem d_BM_wall_4 : decode c_BM_wall 4 = .ok (.iload_n 1, 1) := by decide +kernel
theorem d_BM_wall_5 : decode c_BM_wall 5 = .ok (.iadd, 1) := by decide +kernel
theorem d_BM_wall_6 : decode c_BM_wall 6 = .ok (.istore 4, 2) := by decide +kernel
theorem d_BM_wall_8 : decode c_BM_wall 8 = .ok (.aload_n 0, 1) := by decide +kernel
theorem d_BM_wall_9 : decode c_BM_wall 9 = .ok (.iload_n 1, 1) := by decide +kernel
theorem d_BM_wall_10 : decode c_BM_wall 10 = .ok (.iload_n 2, 1) := by decide +kernel
theorem d_BM_wall_11 : decode c_BM_wall 11 = .ok (.invokevirtual 166, 3) := by decide +kernel
theorem d_BM_wall_14 : decode c_BM_wall 14 = .ok (.ifCond .eq 34, 3) := by decide +kernel
theorem d_BM_wall_17 : decode c_BM_wall 17 = .ok (.iload_n 3, 1) := by decide +kernel
theorem d_BM_wall_18 : decode c_BM_wall 18 = .ok (.ifCond .eq 15, 3) := by decide +kernel
theorem d_BM_wall_21 : decode c_BM_wall 21 = .ok (.aload_n 0, 1) := by decide +kernel
theorem d_BM_wall_22 : decode c_BM_wall 22 = .ok (.iload 4, 2) := by decide +kernel
theorem d_BM_wall_24 : decode c_BM_wall 24 = .ok (.invokevirtual 401, 3) := by decide +kernel
theorem d_BM_wall_27 : decode c_BM_wall 27 = .ok (.ifCond .eq 21, 3) := by decide +kernel
theorem d_BM_wall_30 : decode c_BM_wall 30 = .ok (.goto 14, 3) := by decide +kernel
theorem d_BM_wall_33 : decode c_BM_wall 33 = .ok (.aload_n 0, 1) := by decide +kernel
theorem d_BM_wall_34 : decode c_BM_wall 34 = .ok (.getfield 13, 3) := by decide +kernel
theorem d_BM_wall_37 : decode c_BM_wall 37 = .ok (.iload 4, 2) := by decide +kernel
theorem d_BM_wall_39 : decode c_BM_wall 39 = .ok (.iaload, 1) := by decide +kernel
theorem d_BM_wall_40 : decode c_BM_wall 40 = .ok (.iconst 1, 1) := by decide +kernel
theorem d_BM_wall_41 : decode c_BM_wall 41 = .ok (.if_icmp .ne 7, 3) := by decide +kernel
theorem d_BM_wall_44 : decode c_BM_wall 44 = .ok (.iconst 1, 1) := by decide +kernel
theorem d_BM_wall_45 : decode c_BM_wall 45 = .ok (.goto 4, 3) := by decide +kernel
theorem d_BM_wall_48 : decode c_BM_wall 48 = .ok (.iconst 0, 1) := by decide +kernel
theorem d_BM_wall_49 : decode c_BM_wall 49 = .ok (.istore 5, 2) := by decide +kernel
theorem d_BM_wall_51 : decode c_BM_wall 51 = .ok (.iload 5, 2) := by decide +kernel
theorem d_BM_wall_53 : decode c_BM_wall 53 = .ok (.ifCond .eq 19, 3) := by decide +kernel
theorem d_BM_wall_56 : decode c_BM_wall 56 = .ok (.aload_n 0, 1) := by decide +kernel
theorem d_BM_wall_57 : decode c_BM_wall 57 = .ok (.getfield 13, 3) := by decide +kernel
theorem d_BM_wall_60 : decode c_BM_wall 60 = .ok (.iload 4, 2) := by decide +kernel
theorem d_BM_wall_62 : decode c_BM_wall 62 = .ok (.iload_n 3, 1) := by decide +kernel
theorem d_BM_wall_63 : decode c_BM_wall 63 = .ok (.ifCond .eq 7, 3) := by decide +kernel
theorem d_BM_wall_66 : decode c_BM_wall 66 = .ok (.iconst 1, 1) := by decide +kernel
theorem d_BM_wall_67 : decode c_BM_wall 67 = .ok (.goto 4, 3) := by decide +kernel
theorem d_BM_wall_70 : decode c_BM_wall 70 = .ok (.iconst 0, 1) := by decide +kernel
theorem d_BM_wall_71 : decode c_BM_wall 71 = .ok (.iastore, 1) := by decide +kernel
theorem d_BM_wall_72 : decode c_BM_wall 72 = .ok (.iload 5, 2) := by decide +kernel
theorem d_BM_wall_74 : decode c_BM_wall 74 = .ok (.ireturn, 1) := by decide +kernel
def S_BM_wall_0 (g : Gx) (Q : Int32 → St → Prop) (σ : St) (x1 : Int32) (x2 : Int32) (x3 : Int32) : Prop := Ax g m_BM_wall 0 0 (ZI g Q) SH σ 0 0 0 [(0, .ref (gB g + 151)), (1, .int x1), (2, .int x2), (3, .int x3)] []
def S_BM_wall_49 (g : Gx) (Q : Int32 → St → Prop) (σ : St) (x3 : Int32) (x4 : Int32) (z0 : Int32) : Prop := Ax g m_BM_wall 0 0 (ZI g Q) SH σ 0 0 49 [(0, .ref (gB g + 151)), (3, .int x3), (4, .int x4)] [.int z0]
theorem sg_BM_wall_0 {g : Gx} {Q : Int32 → St → Prop} {σ : St} {x1 : Int32} {x2 : Int32} {x3 : Int32}
    (h : ∀ u1 : Int32, u1 = (((6 : Int32) * x2) + x1) → K_BM_isCell g x1 x2 σ (fun (r3 : Int32) (s2 : St) => (r3 = 0 → S_BM_wall_49 g Q s2 x3 u1 (0 : Int32)) ∧ (¬ r3 = 0 → (x3 = 0 → vp_in u1 36 ∧ ((¬ (ai s2 153 (u1).toNatClampNeg) = (1 : Int32) → S_BM_wall_49 g Q s2 x3 u1 (0 : Int32)) ∧ ((ai s2 153 (u1).toNatClampNeg) = (1 : Int32) → S_BM_wall_49 g Q s2 x3 u1 (1 : Int32)))) ∧ (¬ x3 = 0 → K_BM_isFree g u1 s2 (fun (r5 : Int32) (s4 : St) => (r5 = 0 → S_BM_wall_49 g Q s4 x3 u1 (0 : Int32)) ∧ (¬ r5 = 0 → S_BM_wall_49 g Q s4 x3 u1 (1 : Int32))))))) : S_BM_wall_0 g Q σ x1 x2 x3 := by
  show Ax g m_BM_wall 0 0 (ZI g Q) SH σ 0 0 0 [(0, .ref (gB g + 151)), (1, .int x1), (2, .int x2), (3, .int x3)] []
  refine a_bipush (pc := 0) (6 : Int32) (by decide) d_BM_wall_0 ?_
  refine a_iload_n (pc := 2) 2 rfl rfl d_BM_wall_2 ?_
  refine a_imul (pc := 3) d_BM_wall_3 ?_
  refine a_iload_n (pc := 4) 1 rfl rfl d_BM_wall_4 ?_
  refine a_iadd (pc := 5) d_BM_wall_5 ?_
  refine a_nmi (pc := 6) (fun u1 hu1 => ?_)
  replace h := h u1 hu1
  refine a_istore (pc := 6) (lv' := [(4, .int u1), (0, .ref (gB g + 151)), (1, .int x1), (2, .int x2), (3, .int x3)]) (Nat.le_of_ble_eq_true rfl) rfl d_BM_wall_6 ?_
  refine a_aload_n (pc := 8) 1 rfl rfl d_BM_wall_8 ?_
  refine a_iload_n (pc := 9) 2 rfl rfl d_BM_wall_9 ?_
  refine a_iload_n (pc := 10) 3 rfl rfl d_BM_wall_10 ?_
  refine a_callV (pc := 11) (M' := m_BM_isCell) (As := [.int x1, .int x2]) (st := []) (mc' := 0) (ms' := 0) lk_BM_166 rfl sx_151 rfl (by decide) (by decide) rfl (Nat.le_of_ble_eq_true rfl) (Nat.le_refl 0) (Nat.le_refl 0) d_BM_wall_11 h ?_
  rintro _ _ s2 ⟨r3, rfl, rfl, h⟩ -
  show Ax g m_BM_wall 0 0 (ZI g Q) SH s2 0 0 14 [(4, .int u1), (0, .ref (gB g + 151)), (1, .int x1), (2, .int x2), (3, .int x3)] [.int r3]
  refine a_if_eq (pc := 14) 48 (by decide) d_BM_wall_14 ⟨fun c0 => ?_, fun c0 => ?_⟩
  · replace h := h.1 c0
    refine a_iconst (pc := 48) (0 : Int32) (by decide) d_BM_wall_48 ?_
    refine a_sub (pc := 49) [1, 4, 0] rfl ?_
    exact h
  · replace h := h.2 c0
    refine a_iload_n (pc := 17) 4 rfl rfl d_BM_wall_17 ?_
    refine a_if_eq (pc := 18) 33 (by decide) d_BM_wall_18 ⟨fun c0 => ?_, fun c0 => ?_⟩
    · replace h := h.1 c0
      refine a_aload_n (pc := 33) 1 rfl rfl d_BM_wall_33 ?_
      refine a_getR (pc := 34) fg_BM_13 sx_151 rfl d_BM_wall_34 ?_
      refine a_iload (pc := 37) 0 rfl d_BM_wall_37 ?_
      obtain ⟨hx, h⟩ := h
      refine a_iald (pc := 39) sx_153 hx d_BM_wall_39 ?_
      refine a_iconst (pc := 40) (1 : Int32) (by decide) d_BM_wall_40 ?_
      refine a_icmp_ne (pc := 41) 48 (by decide) d_BM_wall_41 ⟨fun c0 => ?_, fun c0 => ?_⟩
      · replace h := h.1 c0
        refine a_iconst (pc := 48) (0 : Int32) (by decide) d_BM_wall_48 ?_
        refine a_sub (pc := 49) [1, 4, 0] rfl ?_
        exact h
      · replace h := h.2 c0
        refine a_iconst (pc := 44) (1 : Int32) (by decide) d_BM_wall_44 ?_
        refine a_goto (pc := 45) 49 (by decide) d_BM_wall_45 ?_
        refine a_sub (pc := 49) [1, 4, 0] rfl ?_
        exact h
    · replace h := h.2 c0
      refine a_aload_n (pc := 21) 1 rfl rfl d_BM_wall_21 ?_
      refine a_iload (pc := 22) 0 rfl d_BM_wall_22 ?_
      refine a_callV (pc := 24) (M' := m_BM_isFree) (As := [.int u1]) (st := []) (mc' := 0) (ms' := 0) lk_BM_401 rfl sx_151 rfl (by decide) (by decide) rfl (Nat.le_of_ble_eq_true rfl) (Nat.le_refl 0) (Nat.le_refl 0) d_BM_wall_24 h ?_
      rintro _ _ s4 ⟨r5, rfl, rfl, h⟩ -
      show Ax g m_BM_wall 0 0 (ZI g Q) SH s4 0 0 27 [(4, .int u1), (0, .ref (gB g + 151)), (1, .int x1), (2, .int x2), (3, .int x3)] [.int r5]
      refine a_if_eq (pc := 27) 48 (by decide) d_BM_wall_27 ⟨fun c0 => ?_, fun c0 => ?_⟩
      · replace h := h.1 c0
        refine a_iconst (pc := 48) (0 : Int32) (by decide) d_BM_wall_48 ?_
        refine a_sub (pc := 49) [1, 4, 0] rfl ?_
        exact h
      · replace h := h.2 c0
        refine a_goto (pc := 30) 44 (by decide) d_BM_wall_30 ?_
        refine a_iconst (pc := 44) (1 : Int32) (by decide) d_BM_wall_44 ?_
        refine a_goto (pc := 45) 49 (by decide) d_BM_wall_45 ?_
        refine a_sub (pc := 49) [1, 4, 0] rfl ?_
        exact h
theorem sg_BM_wall_49 {g : Gx} {Q : Int32 → St → Prop} {σ : St} {x3 : Int32} {x4 : Int32} {z0 : Int32}
    (h : (z0 = 0 → (z0 = 0 ∨ z0 = 1) ∧ Q z0 σ) ∧ (¬ z0 = 0 → (x3 = 0 → vp_in x4 36 ∧ (∀ s1 : St, s1 = sai σ 153 (x4).toNatClampNeg (0 : Int32) → (z0 = 0 ∨ z0 = 1) ∧ Q z0 s1)) ∧ (¬ x3 = 0 → vp_in x4 36 ∧ (∀ s2 : St, s2 = sai σ 153 (x4).toNatClampNeg (1 : Int32) → (z0 = 0 ∨ z0 = 1) ∧ Q z0 s2)))) : S_BM_wall_49 g Q σ x3 x4 z0 := by
  show Ax g m_BM_wall 0 0 (ZI g Q) SH σ 0 0 49 [(0, .ref (gB g + 151)), (3, .int x3), (4, .int x4)] [.int z0]
  refine a_istore (pc := 49) (lv' := [(5, .int z0), (0, .ref (gB g + 151)), (3, .int x3), (4, .int x4)]) (Nat.le_of_ble_eq_true rfl) rfl d_BM_wall_49 ?_
  refine a_iload (pc := 51) 0 rfl d_BM_wall_51 ?_
  refine a_if_eq (pc := 53) 72 (by decide) d_BM_wall_53 ⟨fun c0 => ?_, fun c0 => ?_⟩
  · replace h := h.1 c0
    refine a_iload (pc := 72) 0 rfl d_BM_wall_72 ?_
    exact b_zret (pc := 74) rfl h.1 d_BM_wall_74 h.2
  · replace h := h.2 c0
    refine a_aload_n (pc := 56) 1 rfl rfl d_BM_wall_56 ?_
    refine a_getR (pc := 57) fg_BM_13 sx_151 rfl d_BM_wall_57 ?_
    refine a_iload (pc := 60) 3 rfl d_BM_wall_60 ?_
    refine a_iload_n (pc := 62) 2 rfl rfl d_BM_wall_62 ?_
    refine a_if_eq (pc := 63) 70 (by decide) d_BM_wall_63 ⟨fun c0 => ?_, fun c0 => ?_⟩
    · replace h := h.1 c0
      refine a_iconst (pc := 70) (0 : Int32) (by decide) d_BM_wall_70 ?_
      obtain ⟨hx, h⟩ := h
      refine a_iast (pc := 71) sx_153 hx d_BM_wall_71 ?_
      refine a_nms (fun s1 hs1 => ?_)
      replace h := h s1 hs1
      refine a_iload (pc := 72) 0 rfl d_BM_wall_72 ?_
      exact b_zret (pc := 74) rfl h.1 d_BM_wall_74 h.2
    · replace h := h.2 c0
      refine a_iconst (pc := 66) (1 : Int32) (by decide) d_BM_wall_66 ?_
      refine a_goto (pc := 67) 71 (by decide) d_BM_wall_67 ?_
      obtain ⟨hx, h⟩ := h
      refine a_iast (pc := 71) sx_153 hx d_BM_wall_71 ?_
      refine a_nms (fun s2 hs2 => ?_)
      replace h := h s2 hs2
      refine a_iload (pc := 72) 0 rfl d_BM_wall_72 ?_
      exact b_zret (pc := 74) rfl h.1 d_BM_wall_74 h.2
theorem ko_BM_wall {g : Gx}  {x1 : Int32} {x2 : Int32} {x3 : Int32} {σ : St} {Q : Int32 → St → Prop} (h : S_BM_wall_0 g Q σ x1 x2 x3) : K_BM_wall g x1 x2 x3 σ Q := KI.of (show plainName "BallBoxModel" = true by decide) (Nat.le_of_ble_eq_true rfl) h
theorem d_BM_press_0 : decode c_BM_press 0 = .ok (.iload_n 1, 1) := by decide +kernel
theorem d_BM_press_1 : decode c_BM_press 1 = .ok (.iconst (-1), 1) := by decide +kernel
theorem d_BM_press_2 : decode c_BM_press 2 = .ok (.if_icmp .ne 12, 3) := by decide +kernel
theorem d_BM_press_5 : decode c_BM_press 5 = .ok (.aload_n 0, 1) := by decide +kernel
theorem d_BM_press_6 : decode c_BM_press 6 = .ok (.getfield 9, 3) := by decide +kernel
theorem d_BM_press_9 : decode c_BM_press 9 = .ok (.iconst 4, 1) := by decide +kernel
theorem d_BM_press_10 : decode c_BM_press 10 = .ok (.iconst 0, 1) := by decide +kernel
theorem d_BM_press_11 : decode c_BM_press 11 = .ok (.iastore, 1) := by decide +kernel
theorem d_BM_press_12 : decode c_BM_press 12 = .ok (.iconst 0, 1) := by decide +kernel
theorem d_BM_press_13 : decode c_BM_press 13 = .ok (.ireturn, 1) := by decide +kernel
theorem d_BM_press_14 : decode c_BM_press 14 = .ok (.aload_n 0, 1) := by decide +kernel
theorem d_BM_press_15 : decode c_BM_press 15 = .ok (.invokevirtual 391, 3) := by decide +kernel
theorem d_BM_press_18 : decode c_BM_press 18 = .ok (.ifCond .eq 26, 3) := by decide +kernel
theorem d_BM_press_21 : decode c_BM_press 21 = .ok (.iload_n 1, 1) := by decide +kernel
theorem d_BM_press_22 : decode c_BM_press 22 = .ok (.i2l, 1) := by decide +kernel
theorem d_BM_press_23 : decode c_BM_press 23 = .ok (.lconst 0, 1) := by decide +kernel
theorem d_BM_press_24 : decode c_BM_press 24 = .ok (.ldc2_w 394, 3) := by decide +kernel
theorem d_BM_press_27 : decode c_BM_press 27 = .ok (.invokestatic 162, 3) := by decide +kernel
theorem d_BM_press_30 : decode c_BM_press 30 = .ok (.ifCond .eq 14, 3) := by decide +kernel
theorem d_BM_press_33 : decode c_BM_press 33 = .ok (.aload_n 0, 1) := by decide +kernel
theorem d_BM_press_34 : decode c_BM_press 34 = .ok (.getfield 9, 3) := by decide +kernel
theorem d_BM_press_37 : decode c_BM_press 37 = .ok (.iconst 4, 1) := by decide +kernel
theorem d_BM_press_38 : decode c_BM_press 38 = .ok (.iaload, 1) := by decide +kernel
theorem d_BM_press_39 : decode c_BM_press 39 = .ok (.bipush 8, 2) := by decide +kernel
theorem d_BM_press_41 : decode c_BM_press 41 = .ok (.if_icmp .ne 6, 3) := by decide +kernel
theorem d_BM_press_44 : decode c_BM_press 44 = .ok (.bipush (-2), 2) := by decide +kernel
theorem d_BM_press_46 : decode c_BM_press 46 = .ok (.ireturn, 1) := by decide +kernel
theorem d_BM_press_47 : decode c_BM_press 47 = .ok (.aload_n 0, 1) := by decide +kernel
theorem d_BM_press_48 : decode c_BM_press 48 = .ok (.getfield 19, 3) := by decide +kernel
theorem d_BM_press_51 : decode c_BM_press 51 = .ok (.aload_n 0, 1) := by decide +kernel
theorem d_BM_press_52 : decode c_BM_press 52 = .ok (.getfield 9, 3) := by decide +kernel
theorem d_BM_press_55 : decode c_BM_press 55 = .ok (.iconst 4, 1) := by decide +kernel
theorem d_BM_press_56 : decode c_BM_press 56 = .ok (.iaload, 1) := by decide +kernel
theorem d_BM_press_57 : decode c_BM_press 57 = .ok (.iload_n 1, 1) := by decide +kernel
theorem d_BM_press_58 : decode c_BM_press 58 = .ok (.iastore, 1) := by decide +kernel
theorem d_BM_press_59 : decode c_BM_press 59 = .ok (.aload_n 0, 1) := by decide +kernel
theorem d_BM_press_60 : decode c_BM_press 60 = .ok (.getfield 9, 3) := by decide +kernel
theorem d_BM_press_63 : decode c_BM_press 63 = .ok (.iconst 4, 1) := by decide +kernel
theorem d_BM_press_64 : decode c_BM_press 64 = .ok (.dup2, 1) := by decide +kernel
theorem d_BM_press_65 : decode c_BM_press 65 = .ok (.iaload, 1) := by decide +kernel
theorem d_BM_press_66 : decode c_BM_press 66 = .ok (.iconst 1, 1) := by decide +kernel
theorem d_BM_press_67 : decode c_BM_press 67 = .ok (.iadd, 1) := by decide +kernel
theorem d_BM_press_68 : decode c_BM_press 68 = .ok (.iastore, 1) := by decide +kernel
theorem d_BM_press_69 : decode c_BM_press 69 = .ok (.aload_n 0, 1) := by decide +kernel
theorem d_BM_press_70 : decode c_BM_press 70 = .ok (.getfield 9, 3) := by decide +kernel
theorem d_BM_press_73 : decode c_BM_press 73 = .ok (.iconst 4, 1) := by decide +kernel
theorem d_BM_press_74 : decode c_BM_press 74 = .ok (.iaload, 1) := by decide +kernel
theorem d_BM_press_75 : decode c_BM_press 75 = .ok (.ireturn, 1) := by decide +kernel
def S_BM_press_0 (g : Gx) (Q : Int32 → St → Prop) (σ : St) (x1 : Int32) : Prop := Ax g m_BM_press 0 0 (ZI g Q) SH σ 0 0 0 [(0, .ref (gB g + 151)), (1, .int x1)] []
theorem sg_BM_press_0 {g : Gx} {Q : Int32 → St → Prop} {σ : St} {x1 : Int32}
    (h : (¬ x1 = (-1 : Int32) → K_BM_isBox g σ (fun (r2 : Int32) (s1 : St) => (r2 = 0 → Q (-2 : Int32) s1) ∧ (¬ r2 = 0 → K_BM_in g ((x1).toInt64) (0 : Int64) (3 : Int64) s1 (fun (r4 : Int32) (s3 : St) => (r4 = 0 → Q (-2 : Int32) s3) ∧ (¬ r4 = 0 → vp_in (4 : Int32) 8 ∧ ((¬ (ai s3 152 ((4 : Int32)).toNatClampNeg) = (8 : Int32) → vp_in (4 : Int32) 8 ∧ (vp_in (ai s3 152 ((4 : Int32)).toNatClampNeg) 8 ∧ (∀ s5 : St, s5 = sai s3 155 ((ai s3 152 ((4 : Int32)).toNatClampNeg)).toNatClampNeg x1 → vp_in (4 : Int32) 8 ∧ (vp_in (4 : Int32) 8 ∧ (∀ s6 : St, s6 = sai s5 152 ((4 : Int32)).toNatClampNeg ((ai s5 152 ((4 : Int32)).toNatClampNeg) + (1 : Int32)) → vp_in (4 : Int32) 8 ∧ (Q (ai s6 152 ((4 : Int32)).toNatClampNeg) s6)))))) ∧ ((ai s3 152 ((4 : Int32)).toNatClampNeg) = (8 : Int32) → Q (-2 : Int32) s3))))))) ∧ (x1 = (-1 : Int32) → vp_in (4 : Int32) 8 ∧ (∀ s7 : St, s7 = sai σ 152 ((4 : Int32)).toNatClampNeg (0 : Int32) → Q (0 : Int32) s7))) : S_BM_press_0 g Q σ x1 := by
  show Ax g m_BM_press 0 0 (ZI g Q) SH σ 0 0 0 [(0, .ref (gB g + 151)), (1, .int x1)] []
  refine a_iload_n (pc := 0) 1 rfl rfl d_BM_press_0 ?_
  refine a_iconst (pc := 1) (-1 : Int32) (by decide) d_BM_press_1 ?_
  refine a_icmp_ne (pc := 2) 14 (by decide) d_BM_press_2 ⟨fun c0 => ?_, fun c0 => ?_⟩
  · replace h := h.1 c0
    refine a_aload_n (pc := 14) 0 rfl rfl d_BM_press_14 ?_
    refine a_callV (pc := 15) (M' := m_BM_isBox) (As := []) (st := []) (mc' := 0) (ms' := 0) lk_BM_391 rfl sx_151 rfl (by decide) (by decide) rfl (Nat.le_of_ble_eq_true rfl) (Nat.le_refl 0) (Nat.le_refl 0) d_BM_press_15 h ?_
    rintro _ _ s1 ⟨r2, rfl, rfl, h⟩ -
    show Ax g m_BM_press 0 0 (ZI g Q) SH s1 0 0 18 [(0, .ref (gB g + 151)), (1, .int x1)] [.int r2]
    refine a_if_eq (pc := 18) 44 (by decide) d_BM_press_18 ⟨fun c0 => ?_, fun c0 => ?_⟩
    · replace h := h.1 c0
      refine a_bipush (pc := 44) (-2 : Int32) (by decide) d_BM_press_44 ?_
      exact b_iret (pc := 46) rfl d_BM_press_46 h
    · replace h := h.2 c0
      refine a_iload_n (pc := 21) 1 rfl rfl d_BM_press_21 ?_
      refine a_i2l (pc := 22) d_BM_press_22 ?_
      refine a_lconst (pc := 23) (0 : Int64) (by decide) d_BM_press_23 ?_
      refine a_ldc2 (pc := 24) tw1644 d_BM_press_24 ?_
      refine a_callS (pc := 27) (M' := m_BM_in) (As := [.long ((x1).toInt64), .long (0 : Int64), .long (3 : Int64)]) (st := []) (mc' := 0) (ms' := 0) lk_BM_162 rfl (by decide) (by decide) rfl (Nat.le_of_ble_eq_true rfl) (Nat.le_refl 0) (Nat.le_refl 0) d_BM_press_27 h ?_
      rintro _ _ s3 ⟨r4, rfl, rfl, h⟩ -
      show Ax g m_BM_press 0 0 (ZI g Q) SH s3 0 0 30 [(0, .ref (gB g + 151)), (1, .int x1)] [.int r4]
      refine a_if_eq (pc := 30) 44 (by decide) d_BM_press_30 ⟨fun c0 => ?_, fun c0 => ?_⟩
      · replace h := h.1 c0
        refine a_bipush (pc := 44) (-2 : Int32) (by decide) d_BM_press_44 ?_
        exact b_iret (pc := 46) rfl d_BM_press_46 h
      · replace h := h.2 c0
        refine a_aload_n (pc := 33) 0 rfl rfl d_BM_press_33 ?_
        refine a_getR (pc := 34) fg_BM_9 sx_151 rfl d_BM_press_34 ?_
        refine a_iconst (pc := 37) (4 : Int32) (by decide) d_BM_press_37 ?_
        obtain ⟨hx, h⟩ := h
        refine a_iald (pc := 38) sx_152 hx d_BM_press_38 ?_
        refine a_bipush (pc := 39) (8 : Int32) (by decide) d_BM_press_39 ?_
        refine a_icmp_ne (pc := 41) 47 (by decide) d_BM_press_41 ⟨fun c0 => ?_, fun c0 => ?_⟩
        · replace h := h.1 c0
          refine a_aload_n (pc := 47) 0 rfl rfl d_BM_press_47 ?_
          refine a_getR (pc := 48) fg_BM_19 sx_151 rfl d_BM_press_48 ?_
          refine a_aload_n (pc := 51) 0 rfl rfl d_BM_press_51 ?_
          refine a_getR (pc := 52) fg_BM_9 sx_151 rfl d_BM_press_52 ?_
          refine a_iconst (pc := 55) (4 : Int32) (by decide) d_BM_press_55 ?_
          obtain ⟨hx, h⟩ := h
          refine a_iald (pc := 56) sx_152 hx d_BM_press_56 ?_
          refine a_iload_n (pc := 57) 1 rfl rfl d_BM_press_57 ?_
          obtain ⟨hx, h⟩ := h
          refine a_iast (pc := 58) sx_155 hx d_BM_press_58 ?_
          refine a_nms (fun s5 hs5 => ?_)
          replace h := h s5 hs5
          refine a_aload_n (pc := 59) 0 rfl rfl d_BM_press_59 ?_
          refine a_getR (pc := 60) fg_BM_9 sx_151 rfl d_BM_press_60 ?_
          refine a_iconst (pc := 63) (4 : Int32) (by decide) d_BM_press_63 ?_
          refine a_dup2_11 (pc := 64) rfl rfl d_BM_press_64 ?_
          obtain ⟨hx, h⟩ := h
          refine a_iald (pc := 65) sx_152 hx d_BM_press_65 ?_
          refine a_iconst (pc := 66) (1 : Int32) (by decide) d_BM_press_66 ?_
          refine a_iadd (pc := 67) d_BM_press_67 ?_
          obtain ⟨hx, h⟩ := h
          refine a_iast (pc := 68) sx_152 hx d_BM_press_68 ?_
          refine a_nms (fun s6 hs6 => ?_)
          replace h := h s6 hs6
          refine a_aload_n (pc := 69) 0 rfl rfl d_BM_press_69 ?_
          refine a_getR (pc := 70) fg_BM_9 sx_151 rfl d_BM_press_70 ?_
          refine a_iconst (pc := 73) (4 : Int32) (by decide) d_BM_press_73 ?_
          obtain ⟨hx, h⟩ := h
          refine a_iald (pc := 74) sx_152 hx d_BM_press_74 ?_
          exact b_iret (pc := 75) rfl d_BM_press_75 h
        · replace h := h.2 c0
          refine a_bipush (pc := 44) (-2 : Int32) (by decide) d_BM_press_44 ?_
          exact b_iret (pc := 46) rfl d_BM_press_46 h
  · replace h := h.2 c0
    refine a_aload_n (pc := 5) 0 rfl rfl d_BM_press_5 ?_
    refine a_getR (pc := 6) fg_BM_9 sx_151 rfl d_BM_press_6 ?_
    refine a_iconst (pc := 9) (4 : Int32) (by decide) d_BM_press_9 ?_
    refine a_iconst (pc := 10) (0 : Int32) (by decide) d_BM_press_10 ?_
    obtain ⟨hx, h⟩ := h
    refine a_iast (pc := 11) sx_152 hx d_BM_press_11 ?_
    refine a_nms (fun s7 hs7 => ?_)
    replace h := h s7 hs7
    refine a_iconst (pc := 12) (0 : Int32) (by decide) d_BM_press_12 ?_
    exact b_iret (pc := 13) rfl d_BM_press_13 h
theorem ko_BM_press {g : Gx}  {x1 : Int32} {σ : St} {Q : Int32 → St → Prop} (h : S_BM_press_0 g Q σ x1) : K_BM_press g x1 σ Q := KI.of (show plainName "BallBoxModel" = true by decide) (Nat.le_of_ble_eq_true rfl) h
theorem d_BM_tipsRow_0 : decode c_BM_tipsRow 0 = .ok (.aload_n 0, 1) := by decide +kernel
theorem d_BM_tipsRow_1 : decode c_BM_tipsRow 1 = .ok (.iconst 0, 1) := by decide +kernel
theorem d_BM_tipsRow_2 : decode c_BM_tipsRow 2 = .ok (.putfield 404, 3) := by decide +kernel
theorem d_BM_tipsRow_5 : decode c_BM_tipsRow 5 = .ok (.aload_n 0, 1) := by decide +kernel
theorem d_BM_tipsRow_6 : decode c_BM_tipsRow 6 = .ok (.iconst 0, 1) := by decide +kernel
theorem d_BM_tipsRow_7 : decode c_BM_tipsRow 7 = .ok (.putfield 407, 3) := by decide +kernel
theorem d_BM_tipsRow_10 : decode c_BM_tipsRow 10 = .ok (.iconst 0, 1) := by decide +kernel
theorem d_BM_tipsRow_11 : decode c_BM_tipsRow 11 = .ok (.istore_n 2, 1) := by decide +kernel
theorem d_BM_tipsRow_12 : decode c_BM_tipsRow 12 = .ok (.iload_n 2, 1) := by decide +kernel
theorem d_BM_tipsRow_13 : decode c_BM_tipsRow 13 = .ok (.aload_n 0, 1) := by decide +kernel
theorem d_BM_tipsRow_14 : decode c_BM_tipsRow 14 = .ok (.getfield 9, 3) := by decide +kernel
theorem d_BM_tipsRow_17 : decode c_BM_tipsRow 17 = .ok (.iconst 4, 1) := by decide +kernel
theorem d_BM_tipsRow_18 : decode c_BM_tipsRow 18 = .ok (.iaload, 1) := by decide +kernel
theorem d_BM_tipsRow_19 : decode c_BM_tipsRow 19 = .ok (.if_icmp .ge 54, 3) := by decide +kernel
theorem d_BM_tipsRow_22 : decode c_BM_tipsRow 22 = .ok (.iload_n 1, 1) := by decide +kernel
theorem d_BM_tipsRow_23 : decode c_BM_tipsRow 23 = .ok (.iload_n 2, 1) := by decide +kernel
theorem d_BM_tipsRow_24 : decode c_BM_tipsRow 24 = .ok (.ishr, 1) := by decide +kernel
theorem d_BM_tipsRow_25 : decode c_BM_tipsRow 25 = .ok (.iconst 1, 1) := by decide +kernel
theorem d_BM_tipsRow_26 : decode c_BM_tipsRow 26 = .ok (.iand, 1) := by decide +kernel
theorem d_BM_tipsRow_27 : decode c_BM_tipsRow 27 = .ok (.iconst 1, 1) := by decide +kernel
theorem d_BM_tipsRow_28 : decode c_BM_tipsRow 28 = .ok (.if_icmp .ne 39, 3) := by decide +kernel
theorem d_BM_tipsRow_31 : decode c_BM_tipsRow 31 = .ok (.aload_n 0, 1) := by decide +kernel
theorem d_BM_tipsRow_32 : decode c_BM_tipsRow 32 = .ok (.aload_n 0, 1) := by decide +kernel
theorem d_BM_tipsRow_33 : decode c_BM_tipsRow 33 = .ok (.getfield 19, 3) := by decide +kernel
theorem d_BM_tipsRow_36 : decode c_BM_tipsRow 36 = .ok (.iload_n 2, 1) := by decide +kernel
theorem d_BM_tipsRow_37 : decode c_BM_tipsRow 37 = .ok (.iaload, 1) := by decide +kernel
theorem d_BM_tipsRow_38 : decode c_BM_tipsRow 38 = .ok (.invokevirtual 396, 3) := by decide +kernel
theorem d_BM_tipsRow_41 : decode c_BM_tipsRow 41 = .ok (.aload_n 0, 1) := by decide +kernel
theorem d_BM_tipsRow_42 : decode c_BM_tipsRow 42 = .ok (.dup, 1) := by decide +kernel
theorem d_BM_tipsRow_43 : decode c_BM_tipsRow 43 = .ok (.getfield 404, 3) := by decide +kernel
theorem d_BM_tipsRow_46 : decode c_BM_tipsRow 46 = .ok (.aload_n 0, 1) := by decide +kernel
theorem d_BM_tipsRow_47 : decode c_BM_tipsRow 47 = .ok (.getfield 385, 3) := by decide +kernel
theorem d_BM_tipsRow_50 : decode c_BM_tipsRow 50 = .ok (.iadd, 1) := by decide +kernel
theorem d_BM_tipsRow_51 : decode c_BM_tipsRow 51 = .ok (.putfield 404, 3) := by decide +kernel
theorem d_BM_tipsRow_54 : decode c_BM_tipsRow 54 = .ok (.aload_n 0, 1) := by decide +kernel
theorem d_BM_tipsRow_55 : decode c_BM_tipsRow 55 = .ok (.dup, 1) := by decide +kernel
theorem d_BM_tipsRow_56 : decode c_BM_tipsRow 56 = .ok (.getfield 407, 3) := by decide +kernel
theorem d_BM_tipsRow_59 : decode c_BM_tipsRow 59 = .ok (.aload_n 0, 1) := by decide +kernel
theorem d_BM_tipsRow_60 : decode c_BM_tipsRow 60 = .ok (.getfield 388, 3) := by decide +kernel
theorem d_BM_tipsRow_63 : decode c_BM_tipsRow 63 = .ok (.iadd, 1) := by decide +kernel
theorem d_BM_tipsRow_64 : decode c_BM_tipsRow 64 = .ok (.putfield 407, 3) := by decide +kernel
theorem d_BM_tipsRow_67 : decode c_BM_tipsRow 67 = .ok (.iinc 2 1, 3) := by decide +kernel
theorem d_BM_tipsRow_70 : decode c_BM_tipsRow 70 = .ok (.goto (-58), 3) := by decide +kernel
theorem d_BM_tipsRow_73 : decode c_BM_tipsRow 73 = .ok (.return_, 1) := by decide +kernel
def S_BM_tipsRow_0 (g : Gx) (Q : St → Prop) (σ : St) (x1 : Int32) : Prop := Ax g m_BM_tipsRow 0 0 (ZV g Q) SH σ 0 0 0 [(0, .ref (gB g + 151)), (1, .int x1)] []
def S_BM_tipsRow_12 (g : Gx) (Q : St → Prop) (σ : St) (x1 : Int32) (x2 : Int32) : Prop := Ax g m_BM_tipsRow 0 0 (ZV g Q) SH σ 0 0 12 [(0, .ref (gB g + 151)), (1, .int x1), (2, .int x2)] []
theorem sg_BM_tipsRow_0 {g : Gx} {Q : St → Prop} {σ : St} {x1 : Int32}
    (h : ∀ s1 : St, s1 = sfi σ 151 38 (0 : Int32) → ∀ s2 : St, s2 = sfi s1 151 39 (0 : Int32) → S_BM_tipsRow_12 g Q s2 x1 (0 : Int32)) : S_BM_tipsRow_0 g Q σ x1 := by
  show Ax g m_BM_tipsRow 0 0 (ZV g Q) SH σ 0 0 0 [(0, .ref (gB g + 151)), (1, .int x1)] []
  refine a_aload_n (pc := 0) 0 rfl rfl d_BM_tipsRow_0 ?_
  refine a_iconst (pc := 1) (0 : Int32) (by decide) d_BM_tipsRow_1 ?_
  refine a_putI (pc := 2) fp_BM_404 sx_151 rfl d_BM_tipsRow_2 ?_
  refine a_nms (fun s1 hs1 => ?_)
  replace h := h s1 hs1
  refine a_aload_n (pc := 5) 0 rfl rfl d_BM_tipsRow_5 ?_
  refine a_iconst (pc := 6) (0 : Int32) (by decide) d_BM_tipsRow_6 ?_
  refine a_putI (pc := 7) fp_BM_407 sx_151 rfl d_BM_tipsRow_7 ?_
  refine a_nms (fun s2 hs2 => ?_)
  replace h := h s2 hs2
  refine a_iconst (pc := 10) (0 : Int32) (by decide) d_BM_tipsRow_10 ?_
  refine a_istore_n (pc := 11) (lv' := [(2, .int (0 : Int32)), (0, .ref (gB g + 151)), (1, .int x1)]) rfl (Nat.le_of_ble_eq_true rfl) rfl d_BM_tipsRow_11 ?_
  refine a_sub (pc := 12) [1, 2, 0] rfl ?_
  exact h
theorem sg_BM_tipsRow_12 {g : Gx} {Q : St → Prop} {σ : St} {x1 : Int32} {x2 : Int32}
    (h : vp_in (4 : Int32) 8 ∧ (((ai σ 152 ((4 : Int32)).toNatClampNeg) ≤ x2 → Q σ) ∧ (¬ (ai σ 152 ((4 : Int32)).toNatClampNeg) ≤ x2 → (¬ ((x1 >>> (x2 &&& 31)) &&& (1 : Int32)) = (1 : Int32) → ∀ u1 : Int32, u1 = x2 + (1 : Int32) → S_BM_tipsRow_12 g Q σ x1 u1) ∧ (((x1 >>> (x2 &&& 31)) &&& (1 : Int32)) = (1 : Int32) → vp_in x2 8 ∧ (K_BM_tips g (ai σ 155 (x2).toNatClampNeg) σ (fun s2 : St => ∀ s3 : St, s3 = sfi s2 151 38 ((fi s2 151 38) + (fi s2 151 35)) → ∀ s4 : St, s4 = sfi s3 151 39 ((fi s3 151 39) + (fi s3 151 36)) → ∀ u5 : Int32, u5 = x2 + (1 : Int32) → S_BM_tipsRow_12 g Q s4 x1 u5)))))) : S_BM_tipsRow_12 g Q σ x1 x2 := by
  show Ax g m_BM_tipsRow 0 0 (ZV g Q) SH σ 0 0 12 [(0, .ref (gB g + 151)), (1, .int x1), (2, .int x2)] []
  refine a_iload_n (pc := 12) 2 rfl rfl d_BM_tipsRow_12 ?_
  refine a_aload_n (pc := 13) 0 rfl rfl d_BM_tipsRow_13 ?_
  refine a_getR (pc := 14) fg_BM_9 sx_151 rfl d_BM_tipsRow_14 ?_
  refine a_iconst (pc := 17) (4 : Int32) (by decide) d_BM_tipsRow_17 ?_
  obtain ⟨hx, h⟩ := h
  refine a_iald (pc := 18) sx_152 hx d_BM_tipsRow_18 ?_
  refine a_icmp_ge (pc := 19) 73 (by decide) d_BM_tipsRow_19 ⟨fun c0 => ?_, fun c0 => ?_⟩
  · replace h := h.1 c0
    exact b_vret (pc := 73) rfl d_BM_tipsRow_73 h
  · replace h := h.2 c0
    refine a_iload_n (pc := 22) 1 rfl rfl d_BM_tipsRow_22 ?_
    refine a_iload_n (pc := 23) 2 rfl rfl d_BM_tipsRow_23 ?_
    refine a_ishr (pc := 24) d_BM_tipsRow_24 ?_
    refine a_iconst (pc := 25) (1 : Int32) (by decide) d_BM_tipsRow_25 ?_
    refine a_iand (pc := 26) d_BM_tipsRow_26 ?_
    refine a_iconst (pc := 27) (1 : Int32) (by decide) d_BM_tipsRow_27 ?_
    refine a_icmp_ne (pc := 28) 67 (by decide) d_BM_tipsRow_28 ⟨fun c0 => ?_, fun c0 => ?_⟩
    · replace h := h.1 c0
      obtain ⟨u1, hu1⟩ : ∃ y : Int32, y = x2 + (1 : Int32) := ⟨_, rfl⟩
      replace h := h u1 hu1
      refine a_iinc (pc := 67) (v := u1) (lv' := [(2, .int u1), (0, .ref (gB g + 151)), (1, .int x1)]) 2 rfl (by rw [hu1]; rfl) (Nat.le_of_ble_eq_true rfl) rfl d_BM_tipsRow_67 ?_
      refine a_goto (pc := 70) 12 (by decide) d_BM_tipsRow_70 ?_
      refine a_sub (pc := 12) [1, 2, 0] rfl ?_
      exact h
    · replace h := h.2 c0
      refine a_aload_n (pc := 31) 0 rfl rfl d_BM_tipsRow_31 ?_
      refine a_aload_n (pc := 32) 0 rfl rfl d_BM_tipsRow_32 ?_
      refine a_getR (pc := 33) fg_BM_19 sx_151 rfl d_BM_tipsRow_33 ?_
      refine a_iload_n (pc := 36) 2 rfl rfl d_BM_tipsRow_36 ?_
      obtain ⟨hx, h⟩ := h
      refine a_iald (pc := 37) sx_155 hx d_BM_tipsRow_37 ?_
      refine a_callV (pc := 38) (M' := m_BM_tips) (As := [.int (ai σ 155 (x2).toNatClampNeg)]) (st := []) (mc' := 0) (ms' := 0) lk_BM_396 rfl sx_151 rfl (by decide) (by decide) rfl (Nat.le_of_ble_eq_true rfl) (Nat.le_refl 0) (Nat.le_refl 0) d_BM_tipsRow_38 h ?_
      rintro _ _ s2 ⟨rfl, rfl, h⟩ -
      show Ax g m_BM_tipsRow 0 0 (ZV g Q) SH s2 0 0 41 [(0, .ref (gB g + 151)), (1, .int x1), (2, .int x2)] []
      refine a_aload_n (pc := 41) 0 rfl rfl d_BM_tipsRow_41 ?_
      refine a_dup (pc := 42) rfl d_BM_tipsRow_42 ?_
      refine a_getI (pc := 43) fg_BM_404 sx_151 rfl d_BM_tipsRow_43 ?_
      refine a_aload_n (pc := 46) 0 rfl rfl d_BM_tipsRow_46 ?_
      refine a_getI (pc := 47) fg_BM_385 sx_151 rfl d_BM_tipsRow_47 ?_
      refine a_iadd (pc := 50) d_BM_tipsRow_50 ?_
      refine a_putI (pc := 51) fp_BM_404 sx_151 rfl d_BM_tipsRow_51 ?_
      refine a_nms (fun s3 hs3 => ?_)
      replace h := h s3 hs3
      refine a_aload_n (pc := 54) 0 rfl rfl d_BM_tipsRow_54 ?_
      refine a_dup (pc := 55) rfl d_BM_tipsRow_55 ?_
      refine a_getI (pc := 56) fg_BM_407 sx_151 rfl d_BM_tipsRow_56 ?_
      refine a_aload_n (pc := 59) 0 rfl rfl d_BM_tipsRow_59 ?_
      refine a_getI (pc := 60) fg_BM_388 sx_151 rfl d_BM_tipsRow_60 ?_
      refine a_iadd (pc := 63) d_BM_tipsRow_63 ?_
      refine a_putI (pc := 64) fp_BM_407 sx_151 rfl d_BM_tipsRow_64 ?_
      refine a_nms (fun s4 hs4 => ?_)
      replace h := h s4 hs4
      obtain ⟨u5, hu5⟩ : ∃ y : Int32, y = x2 + (1 : Int32) := ⟨_, rfl⟩
      replace h := h u5 hu5
      refine a_iinc (pc := 67) (v := u5) (lv' := [(2, .int u5), (0, .ref (gB g + 151)), (1, .int x1)]) 2 rfl (by rw [hu5]; rfl) (Nat.le_of_ble_eq_true rfl) rfl d_BM_tipsRow_67 ?_
      refine a_goto (pc := 70) 12 (by decide) d_BM_tipsRow_70 ?_
      refine a_sub (pc := 12) [1, 2, 0] rfl ?_
      exact h
theorem ko_BM_tipsRow {g : Gx}  {x1 : Int32} {σ : St} {Q : St → Prop} (h : S_BM_tipsRow_0 g Q σ x1) : K_BM_tipsRow g x1 σ Q := KV.of (show plainName "BallBoxModel" = true by decide) (Nat.le_of_ble_eq_true rfl) h
theorem d_BM_would_0 : decode c_BM_would 0 = .ok (.aload_n 0, 1) := by decide +kernel
theorem d_BM_would_1 : decode c_BM_would 1 = .ok (.invokevirtual 391, 3) := by decide +kernel
theorem d_BM_would_4 : decode c_BM_would 4 = .ok (.ifCond .eq 15, 3) := by decide +kernel
theorem d_BM_would_7 : decode c_BM_would 7 = .ok (.iload_n 1, 1) := by decide +kernel
theorem d_BM_would_8 : decode c_BM_would 8 = .ok (.i2l, 1) := by decide +kernel
theorem d_BM_would_9 : decode c_BM_would 9 = .ok (.lconst 0, 1) := by decide +kernel
theorem d_BM_would_10 : decode c_BM_would 10 = .ok (.ldc2_w 394, 3) := by decide +kernel
theorem d_BM_would_13 : decode c_BM_would 13 = .ok (.invokestatic 162, 3) := by decide +kernel
theorem d_BM_would_16 : decode c_BM_would 16 = .ok (.ifCond .ne 5, 3) := by decide +kernel
theorem d_BM_would_19 : decode c_BM_would 19 = .ok (.iconst (-1), 1) := by decide +kernel
theorem d_BM_would_20 : decode c_BM_would 20 = .ok (.ireturn, 1) := by decide +kernel
theorem d_BM_would_21 : decode c_BM_would 21 = .ok (.aload_n 0, 1) := by decide +kernel
theorem d_BM_would_22 : decode c_BM_would 22 = .ok (.getfield 16, 3) := by decide +kernel
theorem d_BM_would_25 : decode c_BM_would 25 = .ok (.aload_n 0, 1) := by decide +kernel
theorem d_BM_would_26 : decode c_BM_would 26 = .ok (.getfield 82, 3) := by decide +kernel
theorem d_BM_would_29 : decode c_BM_would 29 = .ok (.invokestatic 333, 3) := by decide +kernel
theorem d_BM_would_32 : decode c_BM_would 32 = .ok (.aload_n 0, 1) := by decide +kernel
theorem d_BM_would_33 : decode c_BM_would 33 = .ok (.sipush 255, 3) := by decide +kernel
theorem d_BM_would_36 : decode c_BM_would 36 = .ok (.invokevirtual 410, 3) := by decide +kernel
theorem d_BM_would_39 : decode c_BM_would 39 = .ok (.iload_n 1, 1) := by decide +kernel
theorem d_BM_would_40 : decode c_BM_would 40 = .ok (.ifCond .ne 12, 3) := by decide +kernel
theorem d_BM_would_43 : decode c_BM_would 43 = .ok (.aload_n 0, 1) := by decide +kernel
theorem d_BM_would_44 : decode c_BM_would 44 = .ok (.bipush 36, 2) := by decide +kernel
theorem d_BM_would_46 : decode c_BM_would 46 = .ok (.invokevirtual 185, 3) := by decide +kernel
theorem d_BM_would_49 : decode c_BM_would 49 = .ok (.goto 33, 3) := by decide +kernel
theorem d_BM_would_52 : decode c_BM_would 52 = .ok (.iload_n 1, 1) := by decide +kernel
theorem d_BM_would_53 : decode c_BM_would 53 = .ok (.iconst 1, 1) := by decide +kernel
theorem d_BM_would_54 : decode c_BM_would 54 = .ok (.if_icmp .ne 12, 3) := by decide +kernel
theorem d_BM_would_57 : decode c_BM_would 57 = .ok (.aload_n 0, 1) := by decide +kernel
theorem d_BM_would_58 : decode c_BM_would 58 = .ok (.bipush 37, 2) := by decide +kernel
theorem d_BM_would_60 : decode c_BM_would 60 = .ok (.invokevirtual 185, 3) := by decide +kernel
theorem d_BM_would_63 : decode c_BM_would 63 = .ok (.goto 19, 3) := by decide +kernel
theorem d_BM_would_66 : decode c_BM_would 66 = .ok (.iload_n 1, 1) := by decide +kernel
theorem d_BM_would_67 : decode c_BM_would 67 = .ok (.iconst 2, 1) := by decide +kernel
theorem d_BM_would_68 : decode c_BM_would 68 = .ok (.if_icmp .ne 10, 3) := by decide +kernel
theorem d_BM_would_71 : decode c_BM_would 71 = .ok (.aload_n 0, 1) := by decide +kernel
theorem d_BM_would_72 : decode c_BM_would 72 = .ok (.getfield 404, 3) := by decide +kernel
theorem d_BM_would_75 : decode c_BM_would 75 = .ok (.goto 7, 3) := by decide +kernel
theorem d_BM_would_78 : decode c_BM_would 78 = .ok (.aload_n 0, 1) := by decide +kernel
theorem d_BM_would_79 : decode c_BM_would 79 = .ok (.getfield 407, 3) := by decide +kernel
theorem d_BM_would_82 : decode c_BM_would 82 = .ok (.istore_n 2, 1) := by decide +kernel
theorem d_BM_would_83 : decode c_BM_would 83 = .ok (.aload_n 0, 1) := by decide +kernel
theorem d_BM_would_84 : decode c_BM_would 84 = .ok (.getfield 82, 3) := by decide +kernel
theorem d_BM_would_87 : decode c_BM_would 87 = .ok (.aload_n 0, 1) := by decide +kernel
theorem d_BM_would_88 : decode c_BM_would 88 = .ok (.getfield 16, 3) := by decide +kernel
theorem d_BM_would_91 : decode c_BM_would 91 = .ok (.invokestatic 333, 3) := by decide +kernel
theorem d_BM_would_94 : decode c_BM_would 94 = .ok (.iload_n 2, 1) := by decide +kernel
theorem d_BM_would_95 : decode c_BM_would 95 = .ok (.ireturn, 1) := by decide +kernel
def S_BM_would_0 (g : Gx) (Q : Int32 → St → Prop) (σ : St) (x1 : Int32) : Prop := Ax g m_BM_would 0 0 (ZI g Q) SH σ 0 0 0 [(0, .ref (gB g + 151)), (1, .int x1)] []
theorem sg_BM_would_0 {g : Gx} {Q : Int32 → St → Prop} {σ : St} {x1 : Int32}
    (h : K_BM_isBox g σ (fun (r2 : Int32) (s1 : St) => (r2 = 0 → Q (-1 : Int32) s1) ∧ (¬ r2 = 0 → K_BM_in g ((x1).toInt64) (0 : Int64) (3 : Int64) s1 (fun (r4 : Int32) (s3 : St) => (¬ r4 = 0 → K_BM_lay g 154 174 s3 (fun s5 : St => K_BM_tipsRow g (255 : Int32) s5 (fun s6 : St => (¬ x1 = 0 → (¬ x1 = (1 : Int32) → (¬ x1 = (2 : Int32) → ∀ u7 : Int32, u7 = (fi s6 151 39) → K_BM_lay g 174 154 s6 (fun s8 : St => Q u7 s8)) ∧ (x1 = (2 : Int32) → ∀ u9 : Int32, u9 = (fi s6 151 38) → K_BM_lay g 174 154 s6 (fun s10 : St => Q u9 s10))) ∧ (x1 = (1 : Int32) → K_BM_fell g (37 : Int32) s6 (fun (r12 : Int32) (s11 : St) => K_BM_lay g 174 154 s11 (fun s13 : St => Q r12 s13)))) ∧ (x1 = 0 → K_BM_fell g (36 : Int32) s6 (fun (r15 : Int32) (s14 : St) => K_BM_lay g 174 154 s14 (fun s16 : St => Q r15 s16)))))) ∧ (r4 = 0 → Q (-1 : Int32) s3))))) : S_BM_would_0 g Q σ x1 := by
  show Ax g m_BM_would 0 0 (ZI g Q) SH σ 0 0 0 [(0, .ref (gB g + 151)), (1, .int x1)] []
  refine a_aload_n (pc := 0) 0 rfl rfl d_BM_would_0 ?_
  refine a_callV (pc := 1) (M' := m_BM_isBox) (As := []) (st := []) (mc' := 0) (ms' := 0) lk_BM_391 rfl sx_151 rfl (by decide) (by decide) rfl (Nat.le_of_ble_eq_true rfl) (Nat.le_refl 0) (Nat.le_refl 0) d_BM_would_1 h ?_
  rintro _ _ s1 ⟨r2, rfl, rfl, h⟩ -
  show Ax g m_BM_would 0 0 (ZI g Q) SH s1 0 0 4 [(0, .ref (gB g + 151)), (1, .int x1)] [.int r2]
  refine a_if_eq (pc := 4) 19 (by decide) d_BM_would_4 ⟨fun c0 => ?_, fun c0 => ?_⟩
  · replace h := h.1 c0
    refine a_iconst (pc := 19) (-1 : Int32) (by decide) d_BM_would_19 ?_
    exact b_iret (pc := 20) rfl d_BM_would_20 h
  · replace h := h.2 c0
    refine a_iload_n (pc := 7) 1 rfl rfl d_BM_would_7 ?_
    refine a_i2l (pc := 8) d_BM_would_8 ?_
    refine a_lconst (pc := 9) (0 : Int64) (by decide) d_BM_would_9 ?_
    refine a_ldc2 (pc := 10) tw1644 d_BM_would_10 ?_
    refine a_callS (pc := 13) (M' := m_BM_in) (As := [.long ((x1).toInt64), .long (0 : Int64), .long (3 : Int64)]) (st := []) (mc' := 0) (ms' := 0) lk_BM_162 rfl (by decide) (by decide) rfl (Nat.le_of_ble_eq_true rfl) (Nat.le_refl 0) (Nat.le_refl 0) d_BM_would_13 h ?_
    rintro _ _ s3 ⟨r4, rfl, rfl, h⟩ -
    show Ax g m_BM_would 0 0 (ZI g Q) SH s3 0 0 16 [(0, .ref (gB g + 151)), (1, .int x1)] [.int r4]
    refine a_if_ne (pc := 16) 21 (by decide) d_BM_would_16 ⟨fun c0 => ?_, fun c0 => ?_⟩
    · replace h := h.1 c0
      refine a_aload_n (pc := 21) 0 rfl rfl d_BM_would_21 ?_
      refine a_getR (pc := 22) fg_BM_16 sx_151 rfl d_BM_would_22 ?_
      refine a_aload_n (pc := 25) 0 rfl rfl d_BM_would_25 ?_
      refine a_getR (pc := 26) fg_BM_82 sx_151 rfl d_BM_would_26 ?_
      refine a_callS (pc := 29) (M' := m_BM_lay) (As := [.ref (gB g + 154), .ref (gB g + 174)]) (st := []) (mc' := 0) (ms' := 0) lk_BM_333 rfl (by decide) (by decide) rfl (Nat.le_of_ble_eq_true rfl) (Nat.le_refl 0) (Nat.le_refl 0) d_BM_would_29 h ?_
      rintro _ _ s5 ⟨rfl, rfl, h⟩ -
      show Ax g m_BM_would 0 0 (ZI g Q) SH s5 0 0 32 [(0, .ref (gB g + 151)), (1, .int x1)] []
      refine a_aload_n (pc := 32) 0 rfl rfl d_BM_would_32 ?_
      refine a_sipush (pc := 33) (255 : Int32) (by decide) d_BM_would_33 ?_
      refine a_callV (pc := 36) (M' := m_BM_tipsRow) (As := [.int (255 : Int32)]) (st := []) (mc' := 0) (ms' := 0) lk_BM_410 rfl sx_151 rfl (by decide) (by decide) rfl (Nat.le_of_ble_eq_true rfl) (Nat.le_refl 0) (Nat.le_refl 0) d_BM_would_36 h ?_
      rintro _ _ s6 ⟨rfl, rfl, h⟩ -
      show Ax g m_BM_would 0 0 (ZI g Q) SH s6 0 0 39 [(0, .ref (gB g + 151)), (1, .int x1)] []
      refine a_iload_n (pc := 39) 1 rfl rfl d_BM_would_39 ?_
      refine a_if_ne (pc := 40) 52 (by decide) d_BM_would_40 ⟨fun c0 => ?_, fun c0 => ?_⟩
      · replace h := h.1 c0
        refine a_iload_n (pc := 52) 1 rfl rfl d_BM_would_52 ?_
        refine a_iconst (pc := 53) (1 : Int32) (by decide) d_BM_would_53 ?_
        refine a_icmp_ne (pc := 54) 66 (by decide) d_BM_would_54 ⟨fun c0 => ?_, fun c0 => ?_⟩
        · replace h := h.1 c0
          refine a_iload_n (pc := 66) 1 rfl rfl d_BM_would_66 ?_
          refine a_iconst (pc := 67) (2 : Int32) (by decide) d_BM_would_67 ?_
          refine a_icmp_ne (pc := 68) 78 (by decide) d_BM_would_68 ⟨fun c0 => ?_, fun c0 => ?_⟩
          · replace h := h.1 c0
            refine a_aload_n (pc := 78) 0 rfl rfl d_BM_would_78 ?_
            refine a_getI (pc := 79) fg_BM_407 sx_151 rfl d_BM_would_79 ?_
            refine a_nmi (pc := 82) (fun u7 hu7 => ?_)
            replace h := h u7 hu7
            refine a_istore_n (pc := 82) (lv' := [(2, .int u7), (0, .ref (gB g + 151)), (1, .int x1)]) rfl (Nat.le_of_ble_eq_true rfl) rfl d_BM_would_82 ?_
            refine a_aload_n (pc := 83) 1 rfl rfl d_BM_would_83 ?_
            refine a_getR (pc := 84) fg_BM_82 sx_151 rfl d_BM_would_84 ?_
            refine a_aload_n (pc := 87) 1 rfl rfl d_BM_would_87 ?_
            refine a_getR (pc := 88) fg_BM_16 sx_151 rfl d_BM_would_88 ?_
            refine a_callS (pc := 91) (M' := m_BM_lay) (As := [.ref (gB g + 174), .ref (gB g + 154)]) (st := []) (mc' := 0) (ms' := 0) lk_BM_333 rfl (by decide) (by decide) rfl (Nat.le_of_ble_eq_true rfl) (Nat.le_refl 0) (Nat.le_refl 0) d_BM_would_91 h ?_
            rintro _ _ s8 ⟨rfl, rfl, h⟩ -
            show Ax g m_BM_would 0 0 (ZI g Q) SH s8 0 0 94 [(2, .int u7), (0, .ref (gB g + 151)), (1, .int x1)] []
            refine a_iload_n (pc := 94) 0 rfl rfl d_BM_would_94 ?_
            exact b_iret (pc := 95) rfl d_BM_would_95 h
          · replace h := h.2 c0
            refine a_aload_n (pc := 71) 0 rfl rfl d_BM_would_71 ?_
            refine a_getI (pc := 72) fg_BM_404 sx_151 rfl d_BM_would_72 ?_
            refine a_goto (pc := 75) 82 (by decide) d_BM_would_75 ?_
            refine a_nmi (pc := 82) (fun u9 hu9 => ?_)
            replace h := h u9 hu9
            refine a_istore_n (pc := 82) (lv' := [(2, .int u9), (0, .ref (gB g + 151)), (1, .int x1)]) rfl (Nat.le_of_ble_eq_true rfl) rfl d_BM_would_82 ?_
            refine a_aload_n (pc := 83) 1 rfl rfl d_BM_would_83 ?_
            refine a_getR (pc := 84) fg_BM_82 sx_151 rfl d_BM_would_84 ?_
            refine a_aload_n (pc := 87) 1 rfl rfl d_BM_would_87 ?_
            refine a_getR (pc := 88) fg_BM_16 sx_151 rfl d_BM_would_88 ?_
            refine a_callS (pc := 91) (M' := m_BM_lay) (As := [.ref (gB g + 174), .ref (gB g + 154)]) (st := []) (mc' := 0) (ms' := 0) lk_BM_333 rfl (by decide) (by decide) rfl (Nat.le_of_ble_eq_true rfl) (Nat.le_refl 0) (Nat.le_refl 0) d_BM_would_91 h ?_
            rintro _ _ s10 ⟨rfl, rfl, h⟩ -
            show Ax g m_BM_would 0 0 (ZI g Q) SH s10 0 0 94 [(2, .int u9), (0, .ref (gB g + 151)), (1, .int x1)] []
            refine a_iload_n (pc := 94) 0 rfl rfl d_BM_would_94 ?_
            exact b_iret (pc := 95) rfl d_BM_would_95 h
        · replace h := h.2 c0
          refine a_aload_n (pc := 57) 0 rfl rfl d_BM_would_57 ?_
          refine a_bipush (pc := 58) (37 : Int32) (by decide) d_BM_would_58 ?_
          refine a_callV (pc := 60) (M' := m_BM_fell) (As := [.int (37 : Int32)]) (st := []) (mc' := 0) (ms' := 0) lk_BM_185 rfl sx_151 rfl (by decide) (by decide) rfl (Nat.le_of_ble_eq_true rfl) (Nat.le_refl 0) (Nat.le_refl 0) d_BM_would_60 h ?_
          rintro _ _ s11 ⟨r12, rfl, rfl, h⟩ -
          show Ax g m_BM_would 0 0 (ZI g Q) SH s11 0 0 63 [(0, .ref (gB g + 151)), (1, .int x1)] [.int r12]
          refine a_goto (pc := 63) 82 (by decide) d_BM_would_63 ?_
          refine a_istore_n (pc := 82) (lv' := [(2, .int r12), (0, .ref (gB g + 151)), (1, .int x1)]) rfl (Nat.le_of_ble_eq_true rfl) rfl d_BM_would_82 ?_
          refine a_aload_n (pc := 83) 1 rfl rfl d_BM_would_83 ?_
          refine a_getR (pc := 84) fg_BM_82 sx_151 rfl d_BM_would_84 ?_
          refine a_aload_n (pc := 87) 1 rfl rfl d_BM_would_87 ?_
          refine a_getR (pc := 88) fg_BM_16 sx_151 rfl d_BM_would_88 ?_
          refine a_callS (pc := 91) (M' := m_BM_lay) (As := [.ref (gB g + 174), .ref (gB g + 154)]) (st := []) (mc' := 0) (ms' := 0) lk_BM_333 rfl (by decide) (by decide) rfl (Nat.le_of_ble_eq_true rfl) (Nat.le_refl 0) (Nat.le_refl 0) d_BM_would_91 h ?_
          rintro _ _ s13 ⟨rfl, rfl, h⟩ -
          show Ax g m_BM_would 0 0 (ZI g Q) SH s13 0 0 94 [(2, .int r12), (0, .ref (gB g + 151)), (1, .int x1)] []
          refine a_iload_n (pc := 94) 0 rfl rfl d_BM_would_94 ?_
          exact b_iret (pc := 95) rfl d_BM_would_95 h
      · replace h := h.2 c0
        refine a_aload_n (pc := 43) 0 rfl rfl d_BM_would_43 ?_
        refine a_bipush (pc := 44) (36 : Int32) (by decide) d_BM_would_44 ?_
        refine a_callV (pc := 46) (M' := m_BM_fell) (As := [.int (36 : Int32)]) (st := []) (mc' := 0) (ms' := 0) lk_BM_185 rfl sx_151 rfl (by decide) (by decide) rfl (Nat.le_of_ble_eq_true rfl) (Nat.le_refl 0) (Nat.le_refl 0) d_BM_would_46 h ?_
        rintro _ _ s14 ⟨r15, rfl, rfl, h⟩ -
        show Ax g m_BM_would 0 0 (ZI g Q) SH s14 0 0 49 [(0, .ref (gB g + 151)), (1, .int x1)] [.int r15]
        refine a_goto (pc := 49) 82 (by decide) d_BM_would_49 ?_
        refine a_istore_n (pc := 82) (lv' := [(2, .int r15), (0, .ref (gB g + 151)), (1, .int x1)]) rfl (Nat.le_of_ble_eq_true rfl) rfl d_BM_would_82 ?_
        refine a_aload_n (pc := 83) 1 rfl rfl d_BM_would_83 ?_
        refine a_getR (pc := 84) fg_BM_82 sx_151 rfl d_BM_would_84 ?_
        refine a_aload_n (pc := 87) 1 rfl rfl d_BM_would_87 ?_
        refine a_getR (pc := 88) fg_BM_16 sx_151 rfl d_BM_would_88 ?_
        refine a_callS (pc := 91) (M' := m_BM_lay) (As := [.ref (gB g + 174), .ref (gB g + 154)]) (st := []) (mc' := 0) (ms' := 0) lk_BM_333 rfl (by decide) (by decide) rfl (Nat.le_of_ble_eq_true rfl) (Nat.le_refl 0) (Nat.le_refl 0) d_BM_would_91 h ?_
        rintro _ _ s16 ⟨rfl, rfl, h⟩ -
        show Ax g m_BM_would 0 0 (ZI g Q) SH s16 0 0 94 [(2, .int r15), (0, .ref (gB g + 151)), (1, .int x1)] []
        refine a_iload_n (pc := 94) 0 rfl rfl d_BM_would_94 ?_
        exact b_iret (pc := 95) rfl d_BM_would_95 h
    · replace h := h.2 c0
      refine a_iconst (pc := 19) (-1 : Int32) (by decide) d_BM_would_19 ?_
      exact b_iret (pc := 20) rfl d_BM_would_20 h
theorem ko_BM_would {g : Gx}  {x1 : Int32} {σ : St} {Q : Int32 → St → Prop} (h : S_BM_would_0 g Q σ x1) : K_BM_would g x1 σ Q := KI.of (show plainName "BallBoxModel" = true by decide) (Nat.le_of_ble_eq_true rfl) h
theorem d_BM_sure_0 : decode c_BM_sure 0 = .ok (.aload_n 0, 1) := by decide +kernel
theorem d_BM_sure_1 : decode c_BM_sure 1 = .ok (.invokevirtual 391, 3) := by decide +kernel
theorem d_BM_sure_4 : decode c_BM_sure 4 = .ok (.ifCond .eq 25, 3) := by decide +kernel
theorem d_BM_sure_7 : decode c_BM_sure 7 = .ok (.iload_n 1, 1) := by decide +kernel
theorem d_BM_sure_8 : decode c_BM_sure 8 = .ok (.i2l, 1) := by decide +kernel
theorem d_BM_sure_9 : decode c_BM_sure 9 = .ok (.lconst 0, 1) := by decide +kernel
theorem d_BM_sure_10 : decode c_BM_sure 10 = .ok (.ldc2_w 413, 3) := by decide +kernel
theorem d_BM_sure_13 : decode c_BM_sure 13 = .ok (.invokestatic 162, 3) := by decide +kernel
theorem d_BM_sure_16 : decode c_BM_sure 16 = .ok (.ifCond .eq 13, 3) := by decide +kernel
theorem d_BM_sure_19 : decode c_BM_sure 19 = .ok (.iload_n 2, 1) := by decide +kernel
theorem d_BM_sure_20 : decode c_BM_sure 20 = .ok (.i2l, 1) := by decide +kernel
theorem d_BM_sure_21 : decode c_BM_sure 21 = .ok (.lconst 0, 1) := by decide +kernel
theorem d_BM_sure_22 : decode c_BM_sure 22 = .ok (.lconst 1, 1) := by decide +kernel
theorem d_BM_sure_23 : decode c_BM_sure 23 = .ok (.invokestatic 162, 3) := by decide +kernel
theorem d_BM_sure_26 : decode c_BM_sure 26 = .ok (.ifCond .ne 7, 3) := by decide +kernel
theorem d_BM_sure_29 : decode c_BM_sure 29 = .ok (.ldc2_w 353, 3) := by decide +kernel
theorem d_BM_sure_32 : decode c_BM_sure 32 = .ok (.lreturn, 1) := by decide +kernel
theorem d_BM_sure_33 : decode c_BM_sure 33 = .ok (.aload_n 0, 1) := by decide +kernel
theorem d_BM_sure_34 : decode c_BM_sure 34 = .ok (.getfield 9, 3) := by decide +kernel
theorem d_BM_sure_37 : decode c_BM_sure 37 = .ok (.iconst 4, 1) := by decide +kernel
theorem d_BM_sure_38 : decode c_BM_sure 38 = .ok (.iaload, 1) := by decide +kernel
theorem d_BM_sure_39 : decode c_BM_sure 39 = .ok (.istore_n 3, 1) := by decide +kernel
theorem d_BM_sure_40 : decode c_BM_sure 40 = .ok (.lconst 0, 1) := by decide +kernel
theorem d_BM_sure_41 : decode c_BM_sure 41 = .ok (.lstore 4, 2) := by decide +kernel
theorem d_BM_sure_43 : decode c_BM_sure 43 = .ok (.lconst 1, 1) := by decide +kernel
theorem d_BM_sure_44 : decode c_BM_sure 44 = .ok (.lstore 6, 2) := by decide +kernel
theorem d_BM_sure_46 : decode c_BM_sure 46 = .ok (.iconst 0, 1) := by decide +kernel
theorem d_BM_sure_47 : decode c_BM_sure 47 = .ok (.istore 8, 2) := by decide +kernel
theorem d_BM_sure_49 : decode c_BM_sure 49 = .ok (.iload 8, 2) := by decide +kernel
theorem d_BM_sure_51 : decode c_BM_sure 51 = .ok (.iload_n 3, 1) := by decide +kernel
theorem d_BM_sure_52 : decode c_BM_sure 52 = .ok (.if_icmp .ge 17, 3) := by decide +kernel
theorem d_BM_sure_55 : decode c_BM_sure 55 = .ok (.lload 6, 2) := by decide +kernel
theorem d_BM_sure_57 : decode c_BM_sure 57 = .ok (.ldc2_w 413, 3) := by decide +kernel
theorem d_BM_sure_60 : decode c_BM_sure 60 = .ok (.lmul, 1) := by decide +kernel
theorem d_BM_sure_61 : decode c_BM_sure 61 = .ok (.lstore 6, 2) := by decide +kernel
theorem d_BM_sure_63 : decode c_BM_sure 63 = .ok (.iinc 8 1, 3) := by decide +kernel
theorem d_BM_sure_66 : decode c_BM_sure 66 = .ok (.goto (-17), 3) := by decide +kernel
theorem d_BM_sure_69 : decode c_BM_sure 69 = .ok (.aload_n 0, 1) := by decide +kernel
theorem d_BM_sure_70 : decode c_BM_sure 70 = .ok (.getfield 16, 3) := by decide +kernel
theorem d_BM_sure_73 : decode c_BM_sure 73 = .ok (.aload_n 0, 1) := by decide +kernel
theorem d_BM_sure_74 : decode c_BM_sure 74 = .ok (.getfield 82, 3) := by decide +kernel
theorem d_BM_sure_77 : decode c_BM_sure 77 = .ok (.invokestatic 333, 3) := by decide +kernel
theorem d_BM_sure_80 : decode c_BM_sure 80 = .ok (.iconst 0, 1) := by decide +kernel
theorem d_BM_sure_81 : decode c_BM_sure 81 = .ok (.istore 8, 2) := by decide +kernel
theorem d_BM_sure_83 : decode c_BM_sure 83 = .ok (.iload 8, 2) := by decide +kernel
theorem d_BM_sure_85 : decode c_BM_sure 85 = .ok (.iconst 1, 1) := by decide +kernel
theorem d_BM_sure_86 : decode c_BM_sure 86 = .ok (.iload_n 3, 1) := by decide +kernel
theorem d_BM_sure_87 : decode c_BM_sure 87 = .ok (.ishl, 1) := by decide +kernel
theorem d_BM_sure_88 : decode c_BM_sure 88 = .ok (.if_icmp .ge 84, 3) := by decide +kernel
theorem d_BM_sure_91 : decode c_BM_sure 91 = .ok (.aload_n 0, 1) := by decide +kernel
theorem d_BM_sure_92 : decode c_BM_sure 92 = .ok (.iload 8, 2) := by decide +kernel
theorem d_BM_sure_94 : decode c_BM_sure 94 = .ok (.invokevirtual 410, 3) := by decide +kernel
theorem d_BM_sure_97 : decode c_BM_sure 97 = .ok (.aload_n 0, 1) := by decide +kernel
theorem d_BM_sure_98 : decode c_BM_sure 98 = .ok (.invokevirtual 415, 3) := by decide +kernel
theorem d_BM_sure_101 : decode c_BM_sure 101 = .ok (.ifCond .eq 54, 3) := by decide +kernel
theorem d_BM_sure_104 : decode c_BM_sure 104 = .ok (.lconst 1, 1) := by decide +kernel
theorem d_BM_sure_105 : decode c_BM_sure 105 = .ok (.lstore 9, 2) := by decide +kernel
theorem d_BM_sure_107 : decode c_BM_sure 107 = .ok (.iconst 0, 1) := by decide +kernel
theorem d_BM_sure_108 : decode c_BM_sure 108 = .ok (.istore 11, 2) := by decide +kernel
theorem d_BM_sure_110 : decode c_BM_sure 110 = .ok (.iload 11, 2) := by decide +kernel
theorem d_BM_sure_112 : decode c_BM_sure 112 = .ok (.iload_n 3, 1) := by decide +kernel
theorem d_BM_sure_113 : decode c_BM_sure 113 = .ok (.if_icmp .ge 35, 3) := by decide +kernel
theorem d_BM_sure_116 : decode c_BM_sure 116 = .ok (.lload 9, 2) := by decide +kernel
theorem d_BM_sure_118 : decode c_BM_sure 118 = .ok (.iload 8, 2) := by decide +kernel
theorem d_BM_sure_120 : decode c_BM_sure 120 = .ok (.iload 11, 2) := by decide +kernel
theorem d_BM_sure_122 : decode c_BM_sure 122 = .ok (.ishr, 1) := by decide +kernel
theorem d_BM_sure_123 : decode c_BM_sure 123 = .ok (.iconst 1, 1) := by decide +kernel
theorem d_BM_sure_124 : decode c_BM_sure 124 = .ok (.iand, 1) := by decide +kernel
theorem d_BM_sure_125 : decode c_BM_sure 125 = .ok (.iconst 1, 1) := by decide +kernel
theorem d_BM_sure_126 : decode c_BM_sure 126 = .ok (.if_icmp .ne 11, 3) := by decide +kernel
theorem d_BM_sure_129 : decode c_BM_sure 129 = .ok (.bipush 100, 2) := by decide +kernel
theorem d_BM_sure_131 : decode c_BM_sure 131 = .ok (.iload_n 1, 1) := by decide +kernel
theorem d_BM_sure_132 : decode c_BM_sure 132 = .ok (.isub, 1) := by decide +kernel
theorem d_BM_sure_133 : decode c_BM_sure 133 = .ok (.i2l, 1) := by decide +kernel
theorem d_BM_sure_134 : decode c_BM_sure 134 = .ok (.goto 5, 3) := by decide +kernel
theorem d_BM_sure_137 : decode c_BM_sure 137 = .ok (.iload_n 1, 1) := by decide +kernel
theorem d_BM_sure_138 : decode c_BM_sure 138 = .ok (.i2l, 1) := by decide +kernel
theorem d_BM_sure_139 : decode c_BM_sure 139 = .ok (.lmul, 1) := by decide +kernel
theorem d_BM_sure_140 : decode c_BM_sure 140 = .ok (.lstore 9, 2) := by decide +kernel
theorem d_BM_sure_142 : decode c_BM_sure 142 = .ok (.iinc 11 1, 3) := by decide +kernel
theorem d_BM_sure_145 : decode c_BM_sure 145 = .ok (.goto (-35), 3) := by decide +kernel
theorem d_BM_sure_148 : decode c_BM_sure 148 = .ok (.lload 4, 2) := by decide +kernel
theorem d_BM_sure_150 : decode c_BM_sure 150 = .ok (.lload 9, 2) := by decide +kernel
theorem d_BM_sure_152 : decode c_BM_sure 152 = .ok (.ladd, 1) := by decide +kernel
theorem d_BM_sure_153 : decode c_BM_sure 153 = .ok (.lstore 4, 2) := by decide +kernel
theorem d_BM_sure_155 : decode c_BM_sure 155 = .ok (.aload_n 0, 1) := by decide +kernel
theorem d_BM_sure_156 : decode c_BM_sure 156 = .ok (.getfield 82, 3) := by decide +kernel
theorem d_BM_sure_159 : decode c_BM_sure 159 = .ok (.aload_n 0, 1) := by decide +kernel
theorem d_BM_sure_160 : decode c_BM_sure 160 = .ok (.getfield 16, 3) := by decide +kernel
theorem d_BM_sure_163 : decode c_BM_sure 163 = .ok (.invokestatic 333, 3) := by decide +kernel
theorem d_BM_sure_166 : decode c_BM_sure 166 = .ok (.iinc 8 1, 3) := by decide +kernel
theorem d_BM_sure_169 : decode c_BM_sure 169 = .ok (.goto (-86), 3) := by decide +kernel
theorem d_BM_sure_172 : decode c_BM_sure 172 = .ok (.lload 4, 2) := by decide +kernel
theorem d_BM_sure_174 : decode c_BM_sure 174 = .ok (.lload 6, 2) := by decide +kernel
theorem d_BM_sure_176 : decode c_BM_sure 176 = .ok (.invokestatic 418, 3) := by decide +kernel
theorem d_BM_sure_179 : decode c_BM_sure 179 = .ok (.lstore 8, 2) := by decide +kernel
theorem d_BM_sure_181 : decode c_BM_sure 181 = .ok (.iload_n 2, 1) := by decide +kernel
theorem d_BM_sure_182 : decode c_BM_sure 182 = .ok (.ifCond .ne 11, 3) := by decide +kernel
theorem d_BM_sure_185 : decode c_BM_sure 185 = .ok (.lload 4, 2) := by decide +kernel
theorem d_BM_sure_187 : decode c_BM_sure 187 = .ok (.lload 8, 2) := by decide +kernel
theorem d_BM_sure_189 : decode c_BM_sure 189 = .ok (.ldiv, 1) := by decide +kernel
theorem d_BM_sure_190 : decode c_BM_sure 190 = .ok (.goto 8, 3) := by decide +kernel
theorem d_BM_sure_193 : decode c_BM_sure 193 = .ok (.lload 6, 2) := by decide +kernel
theorem d_BM_sure_195 : decode c_BM_sure 195 = .ok (.lload 8, 2) := by decide +kernel
theorem d_BM_sure_197 : decode c_BM_sure 197 = .ok (.ldiv, 1) := by decide +kernel
theorem d_BM_sure_198 : decode c_BM_sure 198 = .ok (.lreturn, 1) := by decide +kernel
def S_BM_sure_0 (g : Gx) (Q : Int64 → St → Prop) (σ : St) (x1 : Int32) (x2 : Int32) : Prop := Ax g m_BM_sure 0 0 (ZJ g Q) SH σ 0 0 0 [(0, .ref (gB g + 151)), (1, .int x1), (2, .int x2)] []
def S_BM_sure_49 (g : Gx) (Q : Int64 → St → Prop) (σ : St) (x1 : Int32) (x2 : Int32) (x3 : Int32) (y4 : Int64) (y6 : Int64) (x8 : Int32) : Prop := Ax g m_BM_sure 0 0 (ZJ g Q) SH σ 0 0 49 [(0, .ref (gB g + 151)), (1, .int x1), (2, .int x2), (3, .int x3), (4, .long y4), (6, .long y6), (8, .int x8)] []
def S_BM_sure_83 (g : Gx) (Q : Int64 → St → Prop) (σ : St) (x1 : Int32) (x2 : Int32) (x3 : Int32) (y4 : Int64) (y6 : Int64) (x8 : Int32) : Prop := Ax g m_BM_sure 0 0 (ZJ g Q) SH σ 0 0 83 [(0, .ref (gB g + 151)), (1, .int x1), (2, .int x2), (3, .int x3), (4, .long y4), (6, .long y6), (8, .int x8)] []
def S_BM_sure_110 (g : Gx) (Q : Int64 → St → Prop) (σ : St) (x1 : Int32) (x2 : Int32) (x3 : Int32) (y4 : Int64) (y6 : Int64) (x8 : Int32) (y9 : Int64) (x11 : Int32) : Prop := Ax g m_BM_sure 0 0 (ZJ g Q) SH σ 0 0 110 [(0, .ref (gB g + 151)), (1, .int x1), (2, .int x2), (3, .int x3), (4, .long y4), (6, .long y6), (8, .int x8), (9, .long y9), (11, .int x11)] []
theorem sg_BM_sure_0 {g : Gx} {Q : Int64 → St → Prop} {σ : St} {x1 : Int32} {x2 : Int32}
    (h : K_BM_isBox g σ (fun (r2 : Int32) (s1 : St) => (r2 = 0 → Q (-1 : Int64) s1) ∧ (¬ r2 = 0 → K_BM_in g ((x1).toInt64) (0 : Int64) (100 : Int64) s1 (fun (r4 : Int32) (s3 : St) => (r4 = 0 → Q (-1 : Int64) s3) ∧ (¬ r4 = 0 → K_BM_in g ((x2).toInt64) (0 : Int64) (1 : Int64) s3 (fun (r6 : Int32) (s5 : St) => (¬ r6 = 0 → vp_in (4 : Int32) 8 ∧ (∀ u7 : Int32, u7 = (ai s5 152 ((4 : Int32)).toNatClampNeg) → S_BM_sure_49 g Q s5 x1 x2 u7 (0 : Int64) (1 : Int64) (0 : Int32))) ∧ (r6 = 0 → Q (-1 : Int64) s5))))))) : S_BM_sure_0 g Q σ x1 x2 := by
  show Ax g m_BM_sure 0 0 (ZJ g Q) SH σ 0 0 0 [(0, .ref (gB g + 151)), (1, .int x1), (2, .int x2)] []
  refine a_aload_n (pc := 0) 0 rfl rfl d_BM_sure_0 ?_
  refine a_callV (pc := 1) (M' := m_BM_isBox) (As := []) (st := []) (mc' := 0) (ms' := 0) lk_BM_391 rfl sx_151 rfl (by decide) (by decide) rfl (Nat.le_of_ble_eq_true rfl) (Nat.le_refl 0) (Nat.le_refl 0) d_BM_sure_1 h ?_
  rintro _ _ s1 ⟨r2, rfl, rfl, h⟩ -
  show Ax g m_BM_sure 0 0 (ZJ g Q) SH s1 0 0 4 [(0, .ref (gB g + 151)), (1, .int x1), (2, .int x2)] [.int r2]
  refine a_if_eq (pc := 4) 29 (by decide) d_BM_sure_4 ⟨fun c0 => ?_, fun c0 => ?_⟩
  · replace h := h.1 c0
    refine a_ldc2 (pc := 29) tw1635 d_BM_sure_29 ?_
    exact b_lret (pc := 32) rfl d_BM_sure_32 h
  · replace h := h.2 c0
    refine a_iload_n (pc := 7) 1 rfl rfl d_BM_sure_7 ?_
    refine a_i2l (pc := 8) d_BM_sure_8 ?_
    refine a_lconst (pc := 9) (0 : Int64) (by decide) d_BM_sure_9 ?_
    refine a_ldc2 (pc := 10) tw1746 d_BM_sure_10 ?_
    refine a_callS (pc := 13) (M' := m_BM_in) (As := [.long ((x1).toInt64), .long (0 : Int64), .long (100 : Int64)]) (st := []) (mc' := 0) (ms' := 0) lk_BM_162 rfl (by decide) (by decide) rfl (Nat.le_of_ble_eq_true rfl) (Nat.le_refl 0) (Nat.le_refl 0) d_BM_sure_13 h ?_
    rintro _ _ s3 ⟨r4, rfl, rfl, h⟩ -
    show Ax g m_BM_sure 0 0 (ZJ g Q) SH s3 0 0 16 [(0, .ref (gB g + 151)), (1, .int x1), (2, .int x2)] [.int r4]
    refine a_if_eq (pc := 16) 29 (by decide) d_BM_sure_16 ⟨fun c0 => ?_, fun c0 => ?_⟩
    · replace h := h.1 c0
      refine a_ldc2 (pc := 29) tw1635 d_BM_sure_29 ?_
      exact b_lret (pc := 32) rfl d_BM_sure_32 h
    · replace h := h.2 c0
      refine a_iload_n (pc := 19) 2 rfl rfl d_BM_sure_19 ?_
      refine a_i2l (pc := 20) d_BM_sure_20 ?_
      refine a_lconst (pc := 21) (0 : Int64) (by decide) d_BM_sure_21 ?_
      refine a_lconst (pc := 22) (1 : Int64) (by decide) d_BM_sure_22 ?_
      refine a_callS (pc := 23) (M' := m_BM_in) (As := [.long ((x2).toInt64), .long (0 : Int64), .long (1 : Int64)]) (st := []) (mc' := 0) (ms' := 0) lk_BM_162 rfl (by decide) (by decide) rfl (Nat.le_of_ble_eq_true rfl) (Nat.le_refl 0) (Nat.le_refl 0) d_BM_sure_23 h ?_
      rintro _ _ s5 ⟨r6, rfl, rfl, h⟩ -
      show Ax g m_BM_sure 0 0 (ZJ g Q) SH s5 0 0 26 [(0, .ref (gB g + 151)), (1, .int x1), (2, .int x2)] [.int r6]
      refine a_if_ne (pc := 26) 33 (by decide) d_BM_sure_26 ⟨fun c0 => ?_, fun c0 => ?_⟩
      · replace h := h.1 c0
        refine a_aload_n (pc := 33) 0 rfl rfl d_BM_sure_33 ?_
        refine a_getR (pc := 34) fg_BM_9 sx_151 rfl d_BM_sure_34 ?_
        refine a_iconst (pc := 37) (4 : Int32) (by decide) d_BM_sure_37 ?_
        obtain ⟨hx, h⟩ := h
        refine a_iald (pc := 38) sx_152 hx d_BM_sure_38 ?_
        refine a_nmi (pc := 39) (fun u7 hu7 => ?_)
        replace h := h u7 hu7
        refine a_istore_n (pc := 39) (lv' := [(3, .int u7), (0, .ref (gB g + 151)), (1, .int x1), (2, .int x2)]) rfl (Nat.le_of_ble_eq_true rfl) rfl d_BM_sure_39 ?_
        refine a_lconst (pc := 40) (0 : Int64) (by decide) d_BM_sure_40 ?_
        refine a_lstore (pc := 41) (lv' := [(4, .long (0 : Int64)), (3, .int u7), (0, .ref (gB g + 151)), (1, .int x1), (2, .int x2)]) (Nat.le_of_ble_eq_true rfl) rfl d_BM_sure_41 ?_
        refine a_lconst (pc := 43) (1 : Int64) (by decide) d_BM_sure_43 ?_
        refine a_lstore (pc := 44) (lv' := [(6, .long (1 : Int64)), (4, .long (0 : Int64)), (3, .int u7), (0, .ref (gB g + 151)), (1, .int x1), (2, .int x2)]) (Nat.le_of_ble_eq_true rfl) rfl d_BM_sure_44 ?_
        refine a_iconst (pc := 46) (0 : Int32) (by decide) d_BM_sure_46 ?_
        refine a_istore (pc := 47) (lv' := [(8, .int (0 : Int32)), (6, .long (1 : Int64)), (4, .long (0 : Int64)), (3, .int u7), (0, .ref (gB g + 151)), (1, .int x1), (2, .int x2)]) (Nat.le_of_ble_eq_true rfl) rfl d_BM_sure_47 ?_
        refine a_sub (pc := 49) [4, 5, 6, 3, 2, 1, 0] rfl ?_
        exact h
      · replace h := h.2 c0
        refine a_ldc2 (pc := 29) tw1635 d_BM_sure_29 ?_
        exact b_lret (pc := 32) rfl d_BM_sure_32 h
theorem sg_BM_sure_49 {g : Gx} {Q : Int64 → St → Prop} {σ : St} {x1 : Int32} {x2 : Int32} {x3 : Int32} {y4 : Int64} {y6 : Int64} {x8 : Int32}
    (h : (x3 ≤ x8 → K_BM_lay g 154 174 σ (fun s1 : St => S_BM_sure_83 g Q s1 x1 x2 x3 y4 y6 (0 : Int32))) ∧ (¬ x3 ≤ x8 → ∀ u2 : Int64, u2 = (y6 * (100 : Int64)) → ∀ u3 : Int32, u3 = x8 + (1 : Int32) → S_BM_sure_49 g Q σ x1 x2 x3 y4 u2 u3)) : S_BM_sure_49 g Q σ x1 x2 x3 y4 y6 x8 := by
  show Ax g m_BM_sure 0 0 (ZJ g Q) SH σ 0 0 49 [(0, .ref (gB g + 151)), (1, .int x1), (2, .int x2), (3, .int x3), (4, .long y4), (6, .long y6), (8, .int x8)] []
  refine a_iload (pc := 49) 6 rfl d_BM_sure_49 ?_
  refine a_iload_n (pc := 51) 3 rfl rfl d_BM_sure_51 ?_
  refine a_icmp_ge (pc := 52) 69 (by decide) d_BM_sure_52 ⟨fun c0 => ?_, fun c0 => ?_⟩
  · replace h := h.1 c0
    refine a_aload_n (pc := 69) 0 rfl rfl d_BM_sure_69 ?_
    refine a_getR (pc := 70) fg_BM_16 sx_151 rfl d_BM_sure_70 ?_
    refine a_aload_n (pc := 73) 0 rfl rfl d_BM_sure_73 ?_
    refine a_getR (pc := 74) fg_BM_82 sx_151 rfl d_BM_sure_74 ?_
    refine a_callS (pc := 77) (M' := m_BM_lay) (As := [.ref (gB g + 154), .ref (gB g + 174)]) (st := []) (mc' := 0) (ms' := 0) lk_BM_333 rfl (by decide) (by decide) rfl (Nat.le_of_ble_eq_true rfl) (Nat.le_refl 0) (Nat.le_refl 0) d_BM_sure_77 h ?_
    rintro _ _ s1 ⟨rfl, rfl, h⟩ -
    show Ax g m_BM_sure 0 0 (ZJ g Q) SH s1 0 0 80 [(0, .ref (gB g + 151)), (1, .int x1), (2, .int x2), (3, .int x3), (4, .long y4), (6, .long y6), (8, .int x8)] []
    refine a_iconst (pc := 80) (0 : Int32) (by decide) d_BM_sure_80 ?_
    refine a_istore (pc := 81) (lv' := [(8, .int (0 : Int32)), (0, .ref (gB g + 151)), (1, .int x1), (2, .int x2), (3, .int x3), (4, .long y4), (6, .long y6)]) (Nat.le_of_ble_eq_true rfl) rfl d_BM_sure_81 ?_
    refine a_sub (pc := 83) [1, 2, 3, 4, 5, 6, 0] rfl ?_
    exact h
  · replace h := h.2 c0
    refine a_lload (pc := 55) 5 rfl d_BM_sure_55 ?_
    refine a_ldc2 (pc := 57) tw1746 d_BM_sure_57 ?_
    refine a_lmul (pc := 60) d_BM_sure_60 ?_
    refine a_nmj (pc := 61) (fun u2 hu2 => ?_)
    replace h := h u2 hu2
    refine a_lstore (pc := 61) (lv' := [(6, .long u2), (0, .ref (gB g + 151)), (1, .int x1), (2, .int x2), (3, .int x3), (4, .long y4), (8, .int x8)]) (Nat.le_of_ble_eq_true rfl) rfl d_BM_sure_61 ?_
    obtain ⟨u3, hu3⟩ : ∃ y : Int32, y = x8 + (1 : Int32) := ⟨_, rfl⟩
    replace h := h u3 hu3
    refine a_iinc (pc := 63) (v := u3) (lv' := [(8, .int u3), (6, .long u2), (0, .ref (gB g + 151)), (1, .int x1), (2, .int x2), (3, .int x3), (4, .long y4)]) 6 rfl (by rw [hu3]; rfl) (Nat.le_of_ble_eq_true rfl) rfl d_BM_sure_63 ?_
    refine a_goto (pc := 66) 49 (by decide) d_BM_sure_66 ?_
    refine a_sub (pc := 49) [2, 3, 4, 5, 6, 1, 0] rfl ?_
    exact h
theorem sg_BM_sure_83 {g : Gx} {Q : Int64 → St → Prop} {σ : St} {x1 : Int32} {x2 : Int32} {x3 : Int32} {y4 : Int64} {y6 : Int64} {x8 : Int32}
    (h : (((1 : Int32) <<< (x3 &&& 31)) ≤ x8 → K_BM_divisor g y4 y6 σ (fun (r2 : Int64) (s1 : St) => (¬ x2 = 0 → ¬ r2 = 0 ∧ (Q (y6 / r2) s1)) ∧ (x2 = 0 → ¬ r2 = 0 ∧ (Q (y4 / r2) s1)))) ∧ (¬ ((1 : Int32) <<< (x3 &&& 31)) ≤ x8 → K_BM_tipsRow g x8 σ (fun s3 : St => K_BM_areHome g s3 (fun (r5 : Int32) (s4 : St) => (r5 = 0 → K_BM_lay g 174 154 s4 (fun s6 : St => ∀ u7 : Int32, u7 = x8 + (1 : Int32) → S_BM_sure_83 g Q s6 x1 x2 x3 y4 y6 u7)) ∧ (¬ r5 = 0 → S_BM_sure_110 g Q s4 x1 x2 x3 y4 y6 x8 (1 : Int64) (0 : Int32)))))) : S_BM_sure_83 g Q σ x1 x2 x3 y4 y6 x8 := by
  show Ax g m_BM_sure 0 0 (ZJ g Q) SH σ 0 0 83 [(0, .ref (gB g + 151)), (1, .int x1), (2, .int x2), (3, .int x3), (4, .long y4), (6, .long y6), (8, .int x8)] []
  refine a_iload (pc := 83) 6 rfl d_BM_sure_83 ?_
  refine a_iconst (pc := 85) (1 : Int32) (by decide) d_BM_sure_85 ?_
  refine a_iload_n (pc := 86) 3 rfl rfl d_BM_sure_86 ?_
  refine a_ishl (pc := 87) d_BM_sure_87 ?_
  refine a_icmp_ge (pc := 88) 172 (by decide) d_BM_sure_88 ⟨fun c0 => ?_, fun c0 => ?_⟩
  · replace h := h.1 c0
    refine a_lload (pc := 172) 4 rfl d_BM_sure_172 ?_
    refine a_lload (pc := 174) 5 rfl d_BM_sure_174 ?_
    refine a_callS (pc := 176) (M' := m_BM_divisor) (As := [.long y4, .long y6]) (st := []) (mc' := 0) (ms' := 0) lk_BM_418 rfl (by decide) (by decide) rfl (Nat.le_of_ble_eq_true rfl) (Nat.le_refl 0) (Nat.le_refl 0) d_BM_sure_176 h ?_
    rintro _ _ s1 ⟨r2, rfl, rfl, h⟩ -
    show Ax g m_BM_sure 0 0 (ZJ g Q) SH s1 0 0 179 [(0, .ref (gB g + 151)), (1, .int x1), (2, .int x2), (3, .int x3), (4, .long y4), (6, .long y6), (8, .int x8)] [.long r2]
    refine a_lstore (pc := 179) (lv' := [(8, .long r2), (0, .ref (gB g + 151)), (1, .int x1), (2, .int x2), (3, .int x3), (4, .long y4), (6, .long y6)]) (Nat.le_of_ble_eq_true rfl) rfl d_BM_sure_179 ?_
    refine a_iload_n (pc := 181) 3 rfl rfl d_BM_sure_181 ?_
    refine a_if_ne (pc := 182) 193 (by decide) d_BM_sure_182 ⟨fun c0 => ?_, fun c0 => ?_⟩
    · replace h := h.1 c0
      refine a_lload (pc := 193) 6 rfl d_BM_sure_193 ?_
      refine a_lload (pc := 195) 0 rfl d_BM_sure_195 ?_
      obtain ⟨hne, h⟩ := h
      refine a_ldiv (pc := 197) hne d_BM_sure_197 ?_
      exact b_lret (pc := 198) rfl d_BM_sure_198 h
    · replace h := h.2 c0
      refine a_lload (pc := 185) 5 rfl d_BM_sure_185 ?_
      refine a_lload (pc := 187) 0 rfl d_BM_sure_187 ?_
      obtain ⟨hne, h⟩ := h
      refine a_ldiv (pc := 189) hne d_BM_sure_189 ?_
      refine a_goto (pc := 190) 198 (by decide) d_BM_sure_190 ?_
      exact b_lret (pc := 198) rfl d_BM_sure_198 h
  · replace h := h.2 c0
    refine a_aload_n (pc := 91) 0 rfl rfl d_BM_sure_91 ?_
    refine a_iload (pc := 92) 6 rfl d_BM_sure_92 ?_
    refine a_callV (pc := 94) (M' := m_BM_tipsRow) (As := [.int x8]) (st := []) (mc' := 0) (ms' := 0) lk_BM_410 rfl sx_151 rfl (by decide) (by decide) rfl (Nat.le_of_ble_eq_true rfl) (Nat.le_refl 0) (Nat.le_refl 0) d_BM_sure_94 h ?_
    rintro _ _ s3 ⟨rfl, rfl, h⟩ -
    show Ax g m_BM_sure 0 0 (ZJ g Q) SH s3 0 0 97 [(0, .ref (gB g + 151)), (1, .int x1), (2, .int x2), (3, .int x3), (4, .long y4), (6, .long y6), (8, .int x8)] []
    refine a_aload_n (pc := 97) 0 rfl rfl d_BM_sure_97 ?_
    refine a_callV (pc := 98) (M' := m_BM_areHome) (As := []) (st := []) (mc' := 0) (ms' := 0) lk_BM_415 rfl sx_151 rfl (by decide) (by decide) rfl (Nat.le_of_ble_eq_true rfl) (Nat.le_refl 0) (Nat.le_refl 0) d_BM_sure_98 h ?_
    rintro _ _ s4 ⟨r5, rfl, rfl, h⟩ -
    show Ax g m_BM_sure 0 0 (ZJ g Q) SH s4 0 0 101 [(0, .ref (gB g + 151)), (1, .int x1), (2, .int x2), (3, .int x3), (4, .long y4), (6, .long y6), (8, .int x8)] [.int r5]
    refine a_if_eq (pc := 101) 155 (by decide) d_BM_sure_101 ⟨fun c0 => ?_, fun c0 => ?_⟩
    · replace h := h.1 c0
      refine a_aload_n (pc := 155) 0 rfl rfl d_BM_sure_155 ?_
      refine a_getR (pc := 156) fg_BM_82 sx_151 rfl d_BM_sure_156 ?_
      refine a_aload_n (pc := 159) 0 rfl rfl d_BM_sure_159 ?_
      refine a_getR (pc := 160) fg_BM_16 sx_151 rfl d_BM_sure_160 ?_
      refine a_callS (pc := 163) (M' := m_BM_lay) (As := [.ref (gB g + 174), .ref (gB g + 154)]) (st := []) (mc' := 0) (ms' := 0) lk_BM_333 rfl (by decide) (by decide) rfl (Nat.le_of_ble_eq_true rfl) (Nat.le_refl 0) (Nat.le_refl 0) d_BM_sure_163 h ?_
      rintro _ _ s6 ⟨rfl, rfl, h⟩ -
      show Ax g m_BM_sure 0 0 (ZJ g Q) SH s6 0 0 166 [(0, .ref (gB g + 151)), (1, .int x1), (2, .int x2), (3, .int x3), (4, .long y4), (6, .long y6), (8, .int x8)] []
      obtain ⟨u7, hu7⟩ : ∃ y : Int32, y = x8 + (1 : Int32) := ⟨_, rfl⟩
      replace h := h u7 hu7
      refine a_iinc (pc := 166) (v := u7) (lv' := [(8, .int u7), (0, .ref (gB g + 151)), (1, .int x1), (2, .int x2), (3, .int x3), (4, .long y4), (6, .long y6)]) 6 rfl (by rw [hu7]; rfl) (Nat.le_of_ble_eq_true rfl) rfl d_BM_sure_166 ?_
      refine a_goto (pc := 169) 83 (by decide) d_BM_sure_169 ?_
      refine a_sub (pc := 83) [1, 2, 3, 4, 5, 6, 0] rfl ?_
      exact h
    · replace h := h.2 c0
      refine a_lconst (pc := 104) (1 : Int64) (by decide) d_BM_sure_104 ?_
      refine a_lstore (pc := 105) (lv' := [(9, .long (1 : Int64)), (0, .ref (gB g + 151)), (1, .int x1), (2, .int x2), (3, .int x3), (4, .long y4), (6, .long y6), (8, .int x8)]) (Nat.le_of_ble_eq_true rfl) rfl d_BM_sure_105 ?_
      refine a_iconst (pc := 107) (0 : Int32) (by decide) d_BM_sure_107 ?_
      refine a_istore (pc := 108) (lv' := [(11, .int (0 : Int32)), (9, .long (1 : Int64)), (0, .ref (gB g + 151)), (1, .int x1), (2, .int x2), (3, .int x3), (4, .long y4), (6, .long y6), (8, .int x8)]) (Nat.le_of_ble_eq_true rfl) rfl d_BM_sure_108 ?_
      refine a_sub (pc := 110) [2, 3, 4, 5, 6, 7, 8, 1, 0] rfl ?_
      exact h
theorem sg_BM_sure_110 {g : Gx} {Q : Int64 → St → Prop} {σ : St} {x1 : Int32} {x2 : Int32} {x3 : Int32} {y4 : Int64} {y6 : Int64} {x8 : Int32} {y9 : Int64} {x11 : Int32}
    (h : (x3 ≤ x11 → ∀ u1 : Int64, u1 = (y4 + y9) → K_BM_lay g 174 154 σ (fun s2 : St => ∀ u3 : Int32, u3 = x8 + (1 : Int32) → S_BM_sure_83 g Q s2 x1 x2 x3 u1 y6 u3)) ∧ (¬ x3 ≤ x11 → (¬ ((x8 >>> (x11 &&& 31)) &&& (1 : Int32)) = (1 : Int32) → ∀ u4 : Int64, u4 = (y9 * (x1).toInt64) → ∀ u5 : Int32, u5 = x11 + (1 : Int32) → S_BM_sure_110 g Q σ x1 x2 x3 y4 y6 x8 u4 u5) ∧ (((x8 >>> (x11 &&& 31)) &&& (1 : Int32)) = (1 : Int32) → ∀ u6 : Int64, u6 = (y9 * (((100 : Int32) - x1)).toInt64) → ∀ u7 : Int32, u7 = x11 + (1 : Int32) → S_BM_sure_110 g Q σ x1 x2 x3 y4 y6 x8 u6 u7))) : S_BM_sure_110 g Q σ x1 x2 x3 y4 y6 x8 y9 x11 := by
  show Ax g m_BM_sure 0 0 (ZJ g Q) SH σ 0 0 110 [(0, .ref (gB g + 151)), (1, .int x1), (2, .int x2), (3, .int x3), (4, .long y4), (6, .long y6), (8, .int x8), (9, .long y9), (11, .int x11)] []
  refine a_iload (pc := 110) 8 rfl d_BM_sure_110 ?_
  refine a_iload_n (pc := 112) 3 rfl rfl d_BM_sure_112 ?_
  refine a_icmp_ge (pc := 113) 148 (by decide) d_BM_sure_113 ⟨fun c0 => ?_, fun c0 => ?_⟩
  · replace h := h.1 c0
    refine a_lload (pc := 148) 4 rfl d_BM_sure_148 ?_
    refine a_lload (pc := 150) 7 rfl d_BM_sure_150 ?_
    refine a_ladd (pc := 152) d_BM_sure_152 ?_
    refine a_nmj (pc := 153) (fun u1 hu1 => ?_)
    replace h := h u1 hu1
    refine a_lstore (pc := 153) (lv' := [(4, .long u1), (0, .ref (gB g + 151)), (1, .int x1), (2, .int x2), (3, .int x3), (6, .long y6), (8, .int x8), (9, .long y9), (11, .int x11)]) (Nat.le_of_ble_eq_true rfl) rfl d_BM_sure_153 ?_
    refine a_aload_n (pc := 155) 1 rfl rfl d_BM_sure_155 ?_
    refine a_getR (pc := 156) fg_BM_82 sx_151 rfl d_BM_sure_156 ?_
    refine a_aload_n (pc := 159) 1 rfl rfl d_BM_sure_159 ?_
    refine a_getR (pc := 160) fg_BM_16 sx_151 rfl d_BM_sure_160 ?_
    refine a_callS (pc := 163) (M' := m_BM_lay) (As := [.ref (gB g + 174), .ref (gB g + 154)]) (st := []) (mc' := 0) (ms' := 0) lk_BM_333 rfl (by decide) (by decide) rfl (Nat.le_of_ble_eq_true rfl) (Nat.le_refl 0) (Nat.le_refl 0) d_BM_sure_163 h ?_
    rintro _ _ s2 ⟨rfl, rfl, h⟩ -
    show Ax g m_BM_sure 0 0 (ZJ g Q) SH s2 0 0 166 [(4, .long u1), (0, .ref (gB g + 151)), (1, .int x1), (2, .int x2), (3, .int x3), (6, .long y6), (8, .int x8), (9, .long y9), (11, .int x11)] []
    obtain ⟨u3, hu3⟩ : ∃ y : Int32, y = x8 + (1 : Int32) := ⟨_, rfl⟩
    replace h := h u3 hu3
    refine a_iinc (pc := 166) (v := u3) (lv' := [(8, .int u3), (4, .long u1), (0, .ref (gB g + 151)), (1, .int x1), (2, .int x2), (3, .int x3), (6, .long y6), (9, .long y9), (11, .int x11)]) 6 rfl (by rw [hu3]; rfl) (Nat.le_of_ble_eq_true rfl) rfl d_BM_sure_166 ?_
    refine a_goto (pc := 169) 83 (by decide) d_BM_sure_169 ?_
    refine a_sub (pc := 83) [2, 3, 4, 5, 1, 6, 0] rfl ?_
    exact h
  · replace h := h.2 c0
    refine a_lload (pc := 116) 7 rfl d_BM_sure_116 ?_
    refine a_iload (pc := 118) 6 rfl d_BM_sure_118 ?_
    refine a_iload (pc := 120) 8 rfl d_BM_sure_120 ?_
    refine a_ishr (pc := 122) d_BM_sure_122 ?_
    refine a_iconst (pc := 123) (1 : Int32) (by decide) d_BM_sure_123 ?_
    refine a_iand (pc := 124) d_BM_sure_124 ?_
    refine a_iconst (pc := 125) (1 : Int32) (by decide) d_BM_sure_125 ?_
    refine a_icmp_ne (pc := 126) 137 (by decide) d_BM_sure_126 ⟨fun c0 => ?_, fun c0 => ?_⟩
    · replace h := h.1 c0
      refine a_iload_n (pc := 137) 1 rfl rfl d_BM_sure_137 ?_
      refine a_i2l (pc := 138) d_BM_sure_138 ?_
      refine a_lmul (pc := 139) d_BM_sure_139 ?_
      refine a_nmj (pc := 140) (fun u4 hu4 => ?_)
      replace h := h u4 hu4
      refine a_lstore (pc := 140) (lv' := [(9, .long u4), (0, .ref (gB g + 151)), (1, .int x1), (2, .int x2), (3, .int x3), (4, .long y4), (6, .long y6), (8, .int x8), (11, .int x11)]) (Nat.le_of_ble_eq_true rfl) rfl d_BM_sure_140 ?_
      obtain ⟨u5, hu5⟩ : ∃ y : Int32, y = x11 + (1 : Int32) := ⟨_, rfl⟩
      replace h := h u5 hu5
      refine a_iinc (pc := 142) (v := u5) (lv' := [(11, .int u5), (9, .long u4), (0, .ref (gB g + 151)), (1, .int x1), (2, .int x2), (3, .int x3), (4, .long y4), (6, .long y6), (8, .int x8)]) 8 rfl (by rw [hu5]; rfl) (Nat.le_of_ble_eq_true rfl) rfl d_BM_sure_142 ?_
      refine a_goto (pc := 145) 110 (by decide) d_BM_sure_145 ?_
      refine a_sub (pc := 110) [2, 3, 4, 5, 6, 7, 8, 1, 0] rfl ?_
      exact h
    · replace h := h.2 c0
      refine a_bipush (pc := 129) (100 : Int32) (by decide) d_BM_sure_129 ?_
      refine a_iload_n (pc := 131) 1 rfl rfl d_BM_sure_131 ?_
      refine a_isub (pc := 132) d_BM_sure_132 ?_
      refine a_i2l (pc := 133) d_BM_sure_133 ?_
      refine a_goto (pc := 134) 139 (by decide) d_BM_sure_134 ?_
      refine a_lmul (pc := 139) d_BM_sure_139 ?_
      refine a_nmj (pc := 140) (fun u6 hu6 => ?_)
      replace h := h u6 hu6
      refine a_lstore (pc := 140) (lv' := [(9, .long u6), (0, .ref (gB g + 151)), (1, .int x1), (2, .int x2), (3, .int x3), (4, .long y4), (6, .long y6), (8, .int x8), (11, .int x11)]) (Nat.le_of_ble_eq_true rfl) rfl d_BM_sure_140 ?_
      obtain ⟨u7, hu7⟩ : ∃ y : Int32, y = x11 + (1 : Int32) := ⟨_, rfl⟩
      replace h := h u7 hu7
      refine a_iinc (pc := 142) (v := u7) (lv' := [(11, .int u7), (9, .long u6), (0, .ref (gB g + 151)), (1, .int x1), (2, .int x2), (3, .int x3), (4, .long y4), (6, .long y6), (8, .int x8)]) 8 rfl (by rw [hu7]; rfl) (Nat.le_of_ble_eq_true rfl) rfl d_BM_sure_142 ?_
      refine a_goto (pc := 145) 110 (by decide) d_BM_sure_145 ?_
      refine a_sub (pc := 110) [2, 3, 4, 5, 6, 7, 8, 1, 0] rfl ?_
      exact h
theorem ko_BM_sure {g : Gx}  {x1 : Int32} {x2 : Int32} {σ : St} {Q : Int64 → St → Prop} (h : S_BM_sure_0 g Q σ x1 x2) : K_BM_sure g x1 x2 σ Q := KJ.of (show plainName "BallBoxModel" = true by decide) (Nat.le_of_ble_eq_true rfl) h
theorem d_BM_situationNow_0 : decode c_BM_situationNow 0 = .ok (.iconst 0, 1) := by decide +kernel
theorem d_BM_situationNow_1 : decode c_BM_situationNow 1 = .ok (.istore_n 1, 1) := by decide +kernel
theorem d_BM_situationNow_2 : decode c_BM_situationNow 2 = .ok (.iconst 2, 1) := by decide +kernel
theorem d_BM_situationNow_3 : decode c_BM_situationNow 3 = .ok (.istore_n 2, 1) := by decide +kernel
theorem d_BM_situationNow_4 : decode c_BM_situationNow 4 = .ok (.iload_n 2, 1) := by decide +kernel
theorem d_BM_situationNow_5 : decode c_BM_situationNow 5 = .ok (.ifCond .lt 35, 3) := by decide +kernel
theorem d_BM_situationNow_8 : decode c_BM_situationNow 8 = .ok (.bipush 38, 2) := by decide +kernel
theorem d_BM_situationNow_10 : decode c_BM_situationNow 10 = .ok (.iload_n 1, 1) := by decide +kernel
theorem d_BM_situationNow_11 : decode c_BM_situationNow 11 = .ok (.imul, 1) := by decide +kernel
theorem d_BM_situationNow_12 : decode c_BM_situationNow 12 = .ok (.iload_n 2, 1) := by decide +kernel
theorem d_BM_situationNow_13 : decode c_BM_situationNow 13 = .ok (.aload_n 0, 1) := by decide +kernel
theorem d_BM_situationNow_14 : decode c_BM_situationNow 14 = .ok (.getfield 9, 3) := by decide +kernel
theorem d_BM_situationNow_17 : decode c_BM_situationNow 17 = .ok (.iconst 2, 1) := by decide +kernel
theorem d_BM_situationNow_18 : decode c_BM_situationNow 18 = .ok (.iaload, 1) := by decide +kernel
theorem d_BM_situationNow_19 : decode c_BM_situationNow 19 = .ok (.if_icmp .ge 12, 3) := by decide +kernel
theorem d_BM_situationNow_22 : decode c_BM_situationNow 22 = .ok (.aload_n 0, 1) := by decide +kernel
theorem d_BM_situationNow_23 : decode c_BM_situationNow 23 = .ok (.getfield 16, 3) := by decide +kernel
theorem d_BM_situationNow_26 : decode c_BM_situationNow 26 = .ok (.iload_n 2, 1) := by decide +kernel
theorem d_BM_situationNow_27 : decode c_BM_situationNow 27 = .ok (.iaload, 1) := by decide +kernel
theorem d_BM_situationNow_28 : decode c_BM_situationNow 28 = .ok (.goto 4, 3) := by decide +kernel
theorem d_BM_situationNow_31 : decode c_BM_situationNow 31 = .ok (.iconst 0, 1) := by decide +kernel
theorem d_BM_situationNow_32 : decode c_BM_situationNow 32 = .ok (.iadd, 1) := by decide +kernel
theorem d_BM_situationNow_33 : decode c_BM_situationNow 33 = .ok (.istore_n 1, 1) := by decide +kernel
theorem d_BM_situationNow_34 : decode c_BM_situationNow 34 = .ok (.iinc 2 (-1), 3) := by decide +kernel
theorem d_BM_situationNow_37 : decode c_BM_situationNow 37 = .ok (.goto (-33), 3) := by decide +kernel
theorem d_BM_situationNow_40 : decode c_BM_situationNow 40 = .ok (.iload_n 1, 1) := by decide +kernel
theorem d_BM_situationNow_41 : decode c_BM_situationNow 41 = .ok (.ireturn, 1) := by decide +kernel
def S_BM_situationNow_0 (g : Gx) (Q : Int32 → St → Prop) (σ : St) : Prop := Ax g m_BM_situationNow 0 0 (ZI g Q) SH σ 0 0 0 [(0, .ref (gB g + 151))] []
def S_BM_situationNow_4 (g : Gx) (Q : Int32 → St → Prop) (σ : St) (x1 : Int32) (x2 : Int32) : Prop := Ax g m_BM_situationNow 0 0 (ZI g Q) SH σ 0 0 4 [(0, .ref (gB g + 151)), (1, .int x1), (2, .int x2)] []
theorem sg_BM_situationNow_0 {g : Gx} {Q : Int32 → St → Prop} {σ : St}
    (h : S_BM_situationNow_4 g Q σ (0 : Int32) (2 : Int32)) : S_BM_situationNow_0 g Q σ := by
  show Ax g m_BM_situationNow 0 0 (ZI g Q) SH σ 0 0 0 [(0, .ref (gB g + 151))] []
  refine a_iconst (pc := 0) (0 : Int32) (by decide) d_BM_situationNow_0 ?_
  refine a_istore_n (pc := 1) (lv' := [(1, .int (0 : Int32)), (0, .ref (gB g + 151))]) rfl (Nat.le_of_ble_eq_true rfl) rfl d_BM_situationNow_1 ?_
  refine a_iconst (pc := 2) (2 : Int32) (by decide) d_BM_situationNow_2 ?_
  refine a_istore_n (pc := 3) (lv' := [(2, .int (2 : Int32)), (1, .int (0 : Int32)), (0, .ref (gB g + 151))]) rfl (Nat.le_of_ble_eq_true rfl) rfl d_BM_situationNow_3 ?_
  refine a_sub (pc := 4) [2, 1, 0] rfl ?_
  exact h
theorem sg_BM_situationNow_4 {g : Gx} {Q : Int32 → St → Prop} {σ : St} {x1 : Int32} {x2 : Int32}
    (h : (x2 < 0 → Q x1 σ) ∧ (¬ x2 < 0 → vp_in (2 : Int32) 8 ∧ (((ai σ 152 ((2 : Int32)).toNatClampNeg) ≤ x2 → ∀ u1 : Int32, u1 = (((38 : Int32) * x1) + (0 : Int32)) → ∀ u2 : Int32, u2 = x2 + (-1 : Int32) → S_BM_situationNow_4 g Q σ u1 u2) ∧ (¬ (ai σ 152 ((2 : Int32)).toNatClampNeg) ≤ x2 → vp_in x2 3 ∧ (∀ u3 : Int32, u3 = (((38 : Int32) * x1) + (ai σ 154 (x2).toNatClampNeg)) → ∀ u4 : Int32, u4 = x2 + (-1 : Int32) → S_BM_situationNow_4 g Q σ u3 u4))))) : S_BM_situationNow_4 g Q σ x1 x2 := by
  show Ax g m_BM_situationNow 0 0 (ZI g Q) SH σ 0 0 4 [(0, .ref (gB g + 151)), (1, .int x1), (2, .int x2)] []
  refine a_iload_n (pc := 4) 2 rfl rfl d_BM_situationNow_4 ?_
  refine a_if_lt (pc := 5) 40 (by decide) d_BM_situationNow_5 ⟨fun c0 => ?_, fun c0 => ?_⟩
  · replace h := h.1 c0
    refine a_iload_n (pc := 40) 1 rfl rfl d_BM_situationNow_40 ?_
    exact b_iret (pc := 41) rfl d_BM_situationNow_41 h
  · replace h := h.2 c0
    refine a_bipush (pc := 8) (38 : Int32) (by decide) d_BM_situationNow_8 ?_
    refine a_iload_n (pc := 10) 1 rfl rfl d_BM_situationNow_10 ?_
    refine a_imul (pc := 11) d_BM_situationNow_11 ?_
    refine a_iload_n (pc := 12) 2 rfl rfl d_BM_situationNow_12 ?_
    refine a_aload_n (pc := 13) 0 rfl rfl d_BM_situationNow_13 ?_
    refine a_getR (pc := 14) fg_BM_9 sx_151 rfl d_BM_situationNow_14 ?_
    refine a_iconst (pc := 17) (2 : Int32) (by decide) d_BM_situationNow_17 ?_
    obtain ⟨hx, h⟩ := h
    refine a_iald (pc := 18) sx_152 hx d_BM_situationNow_18 ?_
    refine a_icmp_ge (pc := 19) 31 (by decide) d_BM_situationNow_19 ⟨fun c0 => ?_, fun c0 => ?_⟩
    · replace h := h.1 c0
      refine a_iconst (pc := 31) (0 : Int32) (by decide) d_BM_situationNow_31 ?_
      refine a_iadd (pc := 32) d_BM_situationNow_32 ?_
      refine a_nmi (pc := 33) (fun u1 hu1 => ?_)
      replace h := h u1 hu1
      refine a_istore_n (pc := 33) (lv' := [(1, .int u1), (0, .ref (gB g + 151)), (2, .int x2)]) rfl (Nat.le_of_ble_eq_true rfl) rfl d_BM_situationNow_33 ?_
      obtain ⟨u2, hu2⟩ : ∃ y : Int32, y = x2 + (-1 : Int32) := ⟨_, rfl⟩
      replace h := h u2 hu2
      refine a_iinc (pc := 34) (v := u2) (lv' := [(2, .int u2), (1, .int u1), (0, .ref (gB g + 151))]) 2 rfl (by rw [hu2]; rfl) (Nat.le_of_ble_eq_true rfl) rfl d_BM_situationNow_34 ?_
      refine a_goto (pc := 37) 4 (by decide) d_BM_situationNow_37 ?_
      refine a_sub (pc := 4) [2, 1, 0] rfl ?_
      exact h
    · replace h := h.2 c0
      refine a_aload_n (pc := 22) 0 rfl rfl d_BM_situationNow_22 ?_
      refine a_getR (pc := 23) fg_BM_16 sx_151 rfl d_BM_situationNow_23 ?_
      refine a_iload_n (pc := 26) 2 rfl rfl d_BM_situationNow_26 ?_
      obtain ⟨hx, h⟩ := h
      refine a_iald (pc := 27) sx_154 hx d_BM_situationNow_27 ?_
      refine a_goto (pc := 28) 32 (by decide) d_BM_situationNow_28 ?_
      refine a_iadd (pc := 32) d_BM_situationNow_32 ?_
      refine a_nmi (pc := 33) (fun u3 hu3 => ?_)
      replace h := h u3 hu3
      refine a_istore_n (pc := 33) (lv' := [(1, .int u3), (0, .ref (gB g + 151)), (2, .int x2)]) rfl (Nat.le_of_ble_eq_true rfl) rfl d_BM_situationNow_33 ?_
      obtain ⟨u4, hu4⟩ : ∃ y : Int32, y = x2 + (-1 : Int32) := ⟨_, rfl⟩
      replace h := h u4 hu4
      refine a_iinc (pc := 34) (v := u4) (lv' := [(2, .int u4), (1, .int u3), (0, .ref (gB g + 151))]) 2 rfl (by rw [hu4]; rfl) (Nat.le_of_ble_eq_true rfl) rfl d_BM_situationNow_34 ?_
      refine a_goto (pc := 37) 4 (by decide) d_BM_situationNow_37 ?_
      refine a_sub (pc := 4) [2, 1, 0] rfl ?_
      exact h
theorem ko_BM_situationNow {g : Gx}  {σ : St} {Q : Int32 → St → Prop} (h : S_BM_situationNow_0 g Q σ) : K_BM_situationNow g  σ Q := KI.of (show plainName "BallBoxModel" = true by decide) (Nat.le_of_ble_eq_true rfl) h
theorem d_BM_laysSituation_0 : decode c_BM_laysSituation 0 = .ok (.iload_n 1, 1) := by decide +kernel
theorem d_BM_laysSituation_1 : decode c_BM_laysSituation 1 = .ok (.istore_n 2, 1) := by decide +kernel
theorem d_BM_laysSituation_2 : decode c_BM_laysSituation 2 = .ok (.iconst 0, 1) := by decide +kernel
theorem d_BM_laysSituation_3 : decode c_BM_laysSituation 3 = .ok (.istore_n 3, 1) := by decide +kernel
theorem d_BM_laysSituation_4 : decode c_BM_laysSituation 4 = .ok (.iload_n 3, 1) := by decide +kernel
theorem d_BM_laysSituation_5 : decode c_BM_laysSituation 5 = .ok (.iconst 3, 1) := by decide +kernel
theorem d_BM_laysSituation_6 : decode c_BM_laysSituation 6 = .ok (.if_icmp .ge 24, 3) := by decide +kernel
theorem d_BM_laysSituation_9 : decode c_BM_laysSituation 9 = .ok (.aload_n 0, 1) := by decide +kernel
theorem d_BM_laysSituation_10 : decode c_BM_laysSituation 10 = .ok (.getfield 16, 3) := by decide +kernel
theorem d_BM_laysSituation_13 : decode c_BM_laysSituation 13 = .ok (.iload_n 3, 1) := by decide +kernel
theorem d_BM_laysSituation_14 : decode c_BM_laysSituation 14 = .ok (.iload_n 2, 1) := by decide +kernel
theorem d_BM_laysSituation_15 : decode c_BM_laysSituation 15 = .ok (.bipush 38, 2) := by decide +kernel
theorem d_BM_laysSituation_17 : decode c_BM_laysSituation 17 = .ok (.irem, 1) := by decide +kernel
theorem d_BM_laysSituation_18 : decode c_BM_laysSituation 18 = .ok (.iastore, 1) := by decide +kernel
theorem d_BM_laysSituation_19 : decode c_BM_laysSituation 19 = .ok (.iload_n 2, 1) := by decide +kernel
theorem d_BM_laysSituation_20 : decode c_BM_laysSituation 20 = .ok (.bipush 38, 2) := by decide +kernel
theorem d_BM_laysSituation_22 : decode c_BM_laysSituation 22 = .ok (.idiv, 1) := by decide +kernel
theorem d_BM_laysSituation_23 : decode c_BM_laysSituation 23 = .ok (.istore_n 2, 1) := by decide +kernel
theorem d_BM_laysSituation_24 : decode c_BM_laysSituation 24 = .ok (.iinc 3 1, 3) := by decide +kernel
theorem d_BM_laysSituation_27 : decode c_BM_laysSituation 27 = .ok (.goto (-23), 3) := by decide +kernel
theorem d_BM_laysSituation_30 : decode c_BM_laysSituation 30 = .ok (.return_, 1) := by decide +kernel
def S_BM_laysSituation_0 (g : Gx) (Q : St → Prop) (σ : St) (x1 : Int32) : Prop := Ax g m_BM_laysSituation 0 0 (ZV g Q) SH σ 0 0 0 [(0, .ref (gB g + 151)), (1, .int x1)] []
def S_BM_laysSituation_4 (g : Gx) (Q : St → Prop) (σ : St) (x2 : Int32) (x3 : Int32) : Prop := Ax g m_BM_laysSituation 0 0 (ZV g Q) SH σ 0 0 4 [(0, .ref (gB g + 151)), (2, .int x2), (3, .int x3)] []
theorem sg_BM_laysSituation_0 {g : Gx} {Q : St → Prop} {σ : St} {x1 : Int32}
    (h : S_BM_laysSituation_4 g Q σ x1 (0 : Int32)) : S_BM_laysSituation_0 g Q σ x1 := by
  show Ax g m_BM_laysSituation 0 0 (ZV g Q) SH σ 0 0 0 [(0, .ref (gB g + 151)), (1, .int x1)] []
  refine a_iload_n (pc := 0) 1 rfl rfl d_BM_laysSituation_0 ?_
  refine a_istore_n (pc := 1) (lv' := [(2, .int x1), (0, .ref (gB g + 151)), (1, .int x1)]) rfl (Nat.le_of_ble_eq_true rfl) rfl d_BM_laysSituation_1 ?_
  refine a_iconst (pc := 2) (0 : Int32) (by decide) d_BM_laysSituation_2 ?_
  refine a_istore_n (pc := 3) (lv' := [(3, .int (0 : Int32)), (2, .int x1), (0, .ref (gB g + 151)), (1, .int x1)]) rfl (Nat.le_of_ble_eq_true rfl) rfl d_BM_laysSituation_3 ?_
  refine a_sub (pc := 4) [2, 1, 0] rfl ?_
  exact h
theorem sg_BM_laysSituation_4 {g : Gx} {Q : St → Prop} {σ : St} {x2 : Int32} {x3 : Int32}
    (h : ((3 : Int32) ≤ x3 → Q σ) ∧ (¬ (3 : Int32) ≤ x3 → vp_in x3 3 ∧ (∀ s1 : St, s1 = sai σ 154 (x3).toNatClampNeg (x2 - x2 / (38 : Int32) * (38 : Int32)) → ∀ u2 : Int32, u2 = (x2 / (38 : Int32)) → ∀ u3 : Int32, u3 = x3 + (1 : Int32) → S_BM_laysSituation_4 g Q s1 u2 u3))) : S_BM_laysSituation_4 g Q σ x2 x3 := by
  show Ax g m_BM_laysSituation 0 0 (ZV g Q) SH σ 0 0 4 [(0, .ref (gB g + 151)), (2, .int x2), (3, .int x3)] []
  refine a_iload_n (pc := 4) 2 rfl rfl d_BM_laysSituation_4 ?_
  refine a_iconst (pc := 5) (3 : Int32) (by decide) d_BM_laysSituation_5 ?_
  refine a_icmp_ge (pc := 6) 30 (by decide) d_BM_laysSituation_6 ⟨fun c0 => ?_, fun c0 => ?_⟩
  · replace h := h.1 c0
    exact b_vret (pc := 30) rfl d_BM_laysSituation_30 h
  · replace h := h.2 c0
    refine a_aload_n (pc := 9) 0 rfl rfl d_BM_laysSituation_9 ?_
    refine a_getR (pc := 10) fg_BM_16 sx_151 rfl d_BM_laysSituation_10 ?_
    refine a_iload_n (pc := 13) 2 rfl rfl d_BM_laysSituation_13 ?_
    refine a_iload_n (pc := 14) 1 rfl rfl d_BM_laysSituation_14 ?_
    refine a_bipush (pc := 15) (38 : Int32) (by decide) d_BM_laysSituation_15 ?_
    refine a_irem (pc := 17) (by decide) d_BM_laysSituation_17 ?_
    obtain ⟨hx, h⟩ := h
    refine a_iast (pc := 18) sx_154 hx d_BM_laysSituation_18 ?_
    refine a_nms (fun s1 hs1 => ?_)
    replace h := h s1 hs1
    refine a_iload_n (pc := 19) 1 rfl rfl d_BM_laysSituation_19 ?_
    refine a_bipush (pc := 20) (38 : Int32) (by decide) d_BM_laysSituation_20 ?_
    refine a_idiv (pc := 22) (by decide) d_BM_laysSituation_22 ?_
    refine a_nmi (pc := 23) (fun u2 hu2 => ?_)
    replace h := h u2 hu2
    refine a_istore_n (pc := 23) (lv' := [(2, .int u2), (0, .ref (gB g + 151)), (3, .int x3)]) rfl (Nat.le_of_ble_eq_true rfl) rfl d_BM_laysSituation_23 ?_
    obtain ⟨u3, hu3⟩ : ∃ y : Int32, y = x3 + (1 : Int32) := ⟨_, rfl⟩
    replace h := h u3 hu3
    refine a_iinc (pc := 24) (v := u3) (lv' := [(3, .int u3), (2, .int u2), (0, .ref (gB g + 151))]) 2 rfl (by rw [hu3]; rfl) (Nat.le_of_ble_eq_true rfl) rfl d_BM_laysSituation_24 ?_
    refine a_goto (pc := 27) 4 (by decide) d_BM_laysSituation_27 ?_
    refine a_sub (pc := 4) [2, 1, 0] rfl ?_
    exact h
theorem ko_BM_laysSituation {g : Gx}  {x1 : Int32} {σ : St} {Q : St → Prop} (h : S_BM_laysSituation_0 g Q σ x1) : K_BM_laysSituation g x1 σ Q := KV.of (show plainName "BallBoxModel" = true by decide) (Nat.le_of_ble_eq_true rfl) h
theorem d_BM_comes_0 : decode c_BM_comes 0 = .ok (.aload_n 0, 1) := by decide +kernel
theorem d_BM_comes_1 : decode c_BM_comes 1 = .ok (.invokevirtual 422, 3) := by decide +kernel
theorem d_BM_comes_4 : decode c_BM_comes 4 = .ok (.istore_n 3, 1) := by decide +kernel
theorem d_BM_comes_5 : decode c_BM_comes 5 = .ok (.aload_n 0, 1) := by decide +kernel
theorem d_BM_comes_6 : decode c_BM_comes 6 = .ok (.getfield 86, 3) := by decide +kernel
theorem d_BM_comes_9 : decode c_BM_comes 9 = .ok (.iload_n 3, 1) := by decide +kernel
theorem d_BM_comes_10 : decode c_BM_comes 10 = .ok (.iaload, 1) := by decide +kernel
theorem d_BM_comes_11 : decode c_BM_comes 11 = .ok (.aload_n 0, 1) := by decide +kernel
theorem d_BM_comes_12 : decode c_BM_comes 12 = .ok (.getfield 425, 3) := by decide +kernel
theorem d_BM_comes_15 : decode c_BM_comes 15 = .ok (.if_icmp .eq 17, 3) := by decide +kernel
theorem d_BM_comes_18 : decode c_BM_comes 18 = .ok (.aload_n 0, 1) := by decide +kernel
theorem d_BM_comes_19 : decode c_BM_comes 19 = .ok (.bipush 37, 2) := by decide +kernel
theorem d_BM_comes_21 : decode c_BM_comes 21 = .ok (.invokevirtual 185, 3) := by decide +kernel
theorem d_BM_comes_24 : decode c_BM_comes 24 = .ok (.ifCond .le 10, 3) := by decide +kernel
theorem d_BM_comes_27 : decode c_BM_comes 27 = .ok (.iload_n 1, 1) := by decide +kernel
theorem d_BM_comes_28 : decode c_BM_comes 28 = .ok (.iconst (-1), 1) := by decide +kernel
theorem d_BM_comes_29 : decode c_BM_comes 29 = .ok (.if_icmp .eq 5, 3) := by decide +kernel
theorem d_BM_comes_32 : decode c_BM_comes 32 = .ok (.iconst 0, 1) := by decide +kernel
theorem d_BM_comes_33 : decode c_BM_comes 33 = .ok (.ireturn, 1) := by decide +kernel
theorem d_BM_comes_34 : decode c_BM_comes 34 = .ok (.aload_n 0, 1) := by decide +kernel
theorem d_BM_comes_35 : decode c_BM_comes 35 = .ok (.getfield 428, 3) := by decide +kernel
theorem d_BM_comes_38 : decode c_BM_comes 38 = .ok (.sipush 4000, 3) := by decide +kernel
theorem d_BM_comes_41 : decode c_BM_comes 41 = .ok (.if_icmp .ne 12, 3) := by decide +kernel
theorem d_BM_comes_44 : decode c_BM_comes 44 = .ok (.aload_n 0, 1) := by decide +kernel
theorem d_BM_comes_45 : decode c_BM_comes 45 = .ok (.invokevirtual 415, 3) := by decide +kernel
theorem d_BM_comes_48 : decode c_BM_comes 48 = .ok (.ifCond .ne 5, 3) := by decide +kernel
theorem d_BM_comes_51 : decode c_BM_comes 51 = .ok (.iconst 1, 1) := by decide +kernel
theorem d_BM_comes_52 : decode c_BM_comes 52 = .ok (.ireturn, 1) := by decide +kernel
theorem d_BM_comes_53 : decode c_BM_comes 53 = .ok (.aload_n 0, 1) := by decide +kernel
theorem d_BM_comes_54 : decode c_BM_comes 54 = .ok (.getfield 86, 3) := by decide +kernel
theorem d_BM_comes_57 : decode c_BM_comes 57 = .ok (.iload_n 3, 1) := by decide +kernel
theorem d_BM_comes_58 : decode c_BM_comes 58 = .ok (.aload_n 0, 1) := by decide +kernel
theorem d_BM_comes_59 : decode c_BM_comes 59 = .ok (.getfield 425, 3) := by decide +kernel
theorem d_BM_comes_62 : decode c_BM_comes 62 = .ok (.iastore, 1) := by decide +kernel
theorem d_BM_comes_63 : decode c_BM_comes 63 = .ok (.aload_n 0, 1) := by decide +kernel
theorem d_BM_comes_64 : decode c_BM_comes 64 = .ok (.getfield 89, 3) := by decide +kernel
theorem d_BM_comes_67 : decode c_BM_comes 67 = .ok (.aload_n 0, 1) := by decide +kernel
theorem d_BM_comes_68 : decode c_BM_comes 68 = .ok (.getfield 428, 3) := by decide +kernel
theorem d_BM_comes_71 : decode c_BM_comes 71 = .ok (.iload_n 3, 1) := by decide +kernel
theorem d_BM_comes_72 : decode c_BM_comes 72 = .ok (.iastore, 1) := by decide +kernel
theorem d_BM_comes_73 : decode c_BM_comes 73 = .ok (.aload_n 0, 1) := by decide +kernel
theorem d_BM_comes_74 : decode c_BM_comes 74 = .ok (.getfield 92, 3) := by decide +kernel
theorem d_BM_comes_77 : decode c_BM_comes 77 = .ok (.aload_n 0, 1) := by decide +kernel
theorem d_BM_comes_78 : decode c_BM_comes 78 = .ok (.getfield 428, 3) := by decide +kernel
theorem d_BM_comes_81 : decode c_BM_comes 81 = .ok (.iload_n 1, 1) := by decide +kernel
theorem d_BM_comes_82 : decode c_BM_comes 82 = .ok (.iastore, 1) := by decide +kernel
theorem d_BM_comes_83 : decode c_BM_comes 83 = .ok (.aload_n 0, 1) := by decide +kernel
theorem d_BM_comes_84 : decode c_BM_comes 84 = .ok (.getfield 95, 3) := by decide +kernel
theorem d_BM_comes_87 : decode c_BM_comes 87 = .ok (.aload_n 0, 1) := by decide +kernel
theorem d_BM_comes_88 : decode c_BM_comes 88 = .ok (.getfield 428, 3) := by decide +kernel
theorem d_BM_comes_91 : decode c_BM_comes 91 = .ok (.iload_n 2, 1) := by decide +kernel
theorem d_BM_comes_92 : decode c_BM_comes 92 = .ok (.iastore, 1) := by decide +kernel
theorem d_BM_comes_93 : decode c_BM_comes 93 = .ok (.aload_n 0, 1) := by decide +kernel
theorem d_BM_comes_94 : decode c_BM_comes 94 = .ok (.aload_n 0, 1) := by decide +kernel
theorem d_BM_comes_95 : decode c_BM_comes 95 = .ok (.invokevirtual 415, 3) := by decide +kernel
theorem d_BM_comes_98 : decode c_BM_comes 98 = .ok (.ifCond .eq 10, 3) := by decide +kernel
theorem d_BM_comes_101 : decode c_BM_comes 101 = .ok (.aload_n 0, 1) := by decide +kernel
theorem d_BM_comes_102 : decode c_BM_comes 102 = .ok (.getfield 428, 3) := by decide +kernel
theorem d_BM_comes_105 : decode c_BM_comes 105 = .ok (.goto 7, 3) := by decide +kernel
theorem d_BM_comes_108 : decode c_BM_comes 108 = .ok (.aload_n 0, 1) := by decide +kernel
theorem d_BM_comes_109 : decode c_BM_comes 109 = .ok (.getfield 431, 3) := by decide +kernel
theorem d_BM_comes_112 : decode c_BM_comes 112 = .ok (.putfield 431, 3) := by decide +kernel
theorem d_BM_comes_115 : decode c_BM_comes 115 = .ok (.aload_n 0, 1) := by decide +kernel
theorem d_BM_comes_116 : decode c_BM_comes 116 = .ok (.dup, 1) := by decide +kernel
theorem d_BM_comes_117 : decode c_BM_comes 117 = .ok (.getfield 428, 3) := by decide +kernel
theorem d_BM_comes_120 : decode c_BM_comes 120 = .ok (.iconst 1, 1) := by decide +kernel
theorem d_BM_comes_121 : decode c_BM_comes 121 = .ok (.iadd, 1) := by decide +kernel
theorem d_BM_comes_122 : decode c_BM_comes 122 = .ok (.putfield 428, 3) := by decide +kernel
theorem d_BM_comes_125 : decode c_BM_comes 125 = .ok (.iconst 0, 1) := by decide +kernel
theorem d_BM_comes_126 : decode c_BM_comes 126 = .ok (.ireturn, 1) := by decide +kernel
def S_BM_comes_0 (g : Gx) (Q : Int32 → St → Prop) (σ : St) (x1 : Int32) (x2 : Int32) : Prop := Ax g m_BM_comes 0 0 (ZI g Q) SH σ 0 0 0 [(0, .ref (gB g + 151)), (1, .int x1), (2, .int x2)] []
def S_BM_comes_53 (g : Gx) (Q : Int32 → St → Prop) (σ : St) (x1 : Int32) (x2 : Int32) (x3 : Int32) : Prop := Ax g m_BM_comes 0 0 (ZI g Q) SH σ 0 0 53 [(0, .ref (gB g + 151)), (1, .int x1), (2, .int x2), (3, .int x3)] []
theorem sg_BM_comes_0 {g : Gx} {Q : Int32 → St → Prop} {σ : St} {x1 : Int32} {x2 : Int32}
    (h : K_BM_situationNow g σ (fun (r2 : Int32) (s1 : St) => vp_in r2 54872 ∧ (((ai s1 175 (r2).toNatClampNeg) = (fi s1 151 44) → Q (0 : Int32) s1) ∧ (¬ (ai s1 175 (r2).toNatClampNeg) = (fi s1 151 44) → K_BM_fell g (37 : Int32) s1 (fun (r4 : Int32) (s3 : St) => (r4 ≤ 0 → (¬ (fi s3 151 45) = (4000 : Int32) → S_BM_comes_53 g Q s3 x1 x2 r2) ∧ ((fi s3 151 45) = (4000 : Int32) → K_BM_areHome g s3 (fun (r6 : Int32) (s5 : St) => (¬ r6 = 0 → S_BM_comes_53 g Q s5 x1 x2 r2) ∧ (r6 = 0 → Q (1 : Int32) s5)))) ∧ (¬ r4 ≤ 0 → (x1 = (-1 : Int32) → (¬ (fi s3 151 45) = (4000 : Int32) → S_BM_comes_53 g Q s3 x1 x2 r2) ∧ ((fi s3 151 45) = (4000 : Int32) → K_BM_areHome g s3 (fun (r8 : Int32) (s7 : St) => (¬ r8 = 0 → S_BM_comes_53 g Q s7 x1 x2 r2) ∧ (r8 = 0 → Q (1 : Int32) s7)))) ∧ (¬ x1 = (-1 : Int32) → Q (0 : Int32) s3))))))) : S_BM_comes_0 g Q σ x1 x2 := by
  show Ax g m_BM_comes 0 0 (ZI g Q) SH σ 0 0 0 [(0, .ref (gB g + 151)), (1, .int x1), (2, .int x2)] []
  refine a_aload_n (pc := 0) 0 rfl rfl d_BM_comes_0 ?_
  refine a_callV (pc := 1) (M' := m_BM_situationNow) (As := []) (st := []) (mc' := 0) (ms' := 0) lk_BM_422 rfl sx_151 rfl (by decide) (by decide) rfl (Nat.le_of_ble_eq_true rfl) (Nat.le_refl 0) (Nat.le_refl 0) d_BM_comes_1 h ?_
  rintro _ _ s1 ⟨r2, rfl, rfl, h⟩ -
  show Ax g m_BM_comes 0 0 (ZI g Q) SH s1 0 0 4 [(0, .ref (gB g + 151)), (1, .int x1), (2, .int x2)] [.int r2]
  refine a_istore_n (pc := 4) (lv' := [(3, .int r2), (0, .ref (gB g + 151)), (1, .int x1), (2, .int x2)]) rfl (Nat.le_of_ble_eq_true rfl) rfl d_BM_comes_4 ?_
  refine a_aload_n (pc := 5) 1 rfl rfl d_BM_comes_5 ?_
  refine a_getR (pc := 6) fg_BM_86 sx_151 rfl d_BM_comes_6 ?_
  refine a_iload_n (pc := 9) 0 rfl rfl d_BM_comes_9 ?_
  obtain ⟨hx, h⟩ := h
  refine a_iald (pc := 10) sx_175 hx d_BM_comes_10 ?_
  refine a_aload_n (pc := 11) 1 rfl rfl d_BM_comes_11 ?_
  refine a_getI (pc := 12) fg_BM_425 sx_151 rfl d_BM_comes_12 ?_
  refine a_icmp_eq (pc := 15) 32 (by decide) d_BM_comes_15 ⟨fun c0 => ?_, fun c0 => ?_⟩
  · replace h := h.1 c0
    refine a_iconst (pc := 32) (0 : Int32) (by decide) d_BM_comes_32 ?_
    exact b_zret (pc := 33) rfl (Or.inl rfl) d_BM_comes_33 h
  · replace h := h.2 c0
    refine a_aload_n (pc := 18) 1 rfl rfl d_BM_comes_18 ?_
    refine a_bipush (pc := 19) (37 : Int32) (by decide) d_BM_comes_19 ?_
    refine a_callV (pc := 21) (M' := m_BM_fell) (As := [.int (37 : Int32)]) (st := []) (mc' := 0) (ms' := 0) lk_BM_185 rfl sx_151 rfl (by decide) (by decide) rfl (Nat.le_of_ble_eq_true rfl) (Nat.le_refl 0) (Nat.le_refl 0) d_BM_comes_21 h ?_
    rintro _ _ s3 ⟨r4, rfl, rfl, h⟩ -
    show Ax g m_BM_comes 0 0 (ZI g Q) SH s3 0 0 24 [(3, .int r2), (0, .ref (gB g + 151)), (1, .int x1), (2, .int x2)] [.int r4]
    refine a_if_le (pc := 24) 34 (by decide) d_BM_comes_24 ⟨fun c0 => ?_, fun c0 => ?_⟩
    · replace h := h.1 c0
      refine a_aload_n (pc := 34) 1 rfl rfl d_BM_comes_34 ?_
      refine a_getI (pc := 35) fg_BM_428 sx_151 rfl d_BM_comes_35 ?_
      refine a_sipush (pc := 38) (4000 : Int32) (by decide) d_BM_comes_38 ?_
      refine a_icmp_ne (pc := 41) 53 (by decide) d_BM_comes_41 ⟨fun c0 => ?_, fun c0 => ?_⟩
      · replace h := h.1 c0
        refine a_sub (pc := 53) [1, 2, 3, 0] rfl ?_
        exact h
      · replace h := h.2 c0
        refine a_aload_n (pc := 44) 1 rfl rfl d_BM_comes_44 ?_
        refine a_callV (pc := 45) (M' := m_BM_areHome) (As := []) (st := []) (mc' := 0) (ms' := 0) lk_BM_415 rfl sx_151 rfl (by decide) (by decide) rfl (Nat.le_of_ble_eq_true rfl) (Nat.le_refl 0) (Nat.le_refl 0) d_BM_comes_45 h ?_
        rintro _ _ s5 ⟨r6, rfl, rfl, h⟩ -
        show Ax g m_BM_comes 0 0 (ZI g Q) SH s5 0 0 48 [(3, .int r2), (0, .ref (gB g + 151)), (1, .int x1), (2, .int x2)] [.int r6]
        refine a_if_ne (pc := 48) 53 (by decide) d_BM_comes_48 ⟨fun c0 => ?_, fun c0 => ?_⟩
        · replace h := h.1 c0
          refine a_sub (pc := 53) [1, 2, 3, 0] rfl ?_
          exact h
        · replace h := h.2 c0
          refine a_iconst (pc := 51) (1 : Int32) (by decide) d_BM_comes_51 ?_
          exact b_zret (pc := 52) rfl (Or.inr rfl) d_BM_comes_52 h
    · replace h := h.2 c0
      refine a_iload_n (pc := 27) 2 rfl rfl d_BM_comes_27 ?_
      refine a_iconst (pc := 28) (-1 : Int32) (by decide) d_BM_comes_28 ?_
      refine a_icmp_eq (pc := 29) 34 (by decide) d_BM_comes_29 ⟨fun c0 => ?_, fun c0 => ?_⟩
      · replace h := h.1 c0
        refine a_aload_n (pc := 34) 1 rfl rfl d_BM_comes_34 ?_
        refine a_getI (pc := 35) fg_BM_428 sx_151 rfl d_BM_comes_35 ?_
        refine a_sipush (pc := 38) (4000 : Int32) (by decide) d_BM_comes_38 ?_
        refine a_icmp_ne (pc := 41) 53 (by decide) d_BM_comes_41 ⟨fun c0 => ?_, fun c0 => ?_⟩
        · replace h := h.1 c0
          refine a_sub (pc := 53) [1, 2, 3, 0] rfl ?_
          exact h
        · replace h := h.2 c0
          refine a_aload_n (pc := 44) 1 rfl rfl d_BM_comes_44 ?_
          refine a_callV (pc := 45) (M' := m_BM_areHome) (As := []) (st := []) (mc' := 0) (ms' := 0) lk_BM_415 rfl sx_151 rfl (by decide) (by decide) rfl (Nat.le_of_ble_eq_true rfl) (Nat.le_refl 0) (Nat.le_refl 0) d_BM_comes_45 h ?_
          rintro _ _ s7 ⟨r8, rfl, rfl, h⟩ -
          show Ax g m_BM_comes 0 0 (ZI g Q) SH s7 0 0 48 [(3, .int r2), (0, .ref (gB g + 151)), (1, .int x1), (2, .int x2)] [.int r8]
          refine a_if_ne (pc := 48) 53 (by decide) d_BM_comes_48 ⟨fun c0 => ?_, fun c0 => ?_⟩
          · replace h := h.1 c0
            refine a_sub (pc := 53) [1, 2, 3, 0] rfl ?_
            exact h
          · replace h := h.2 c0
            refine a_iconst (pc := 51) (1 : Int32) (by decide) d_BM_comes_51 ?_
            exact b_zret (pc := 52) rfl (Or.inr rfl) d_BM_comes_52 h
      · replace h := h.2 c0
        refine a_iconst (pc := 32) (0 : Int32) (by decide) d_BM_comes_32 ?_
        exact b_zret (pc := 33) rfl (Or.inl rfl) d_BM_comes_33 h
theorem sg_BM_comes_53 {g : Gx} {Q : Int32 → St → Prop} {σ : St} {x1 : Int32} {x2 : Int32} {x3 : Int32}
    (h : vp_in x3 54872 ∧ (∀ s1 : St, s1 = sai σ 175 (x3).toNatClampNeg (fi σ 151 44) → vp_in (fi s1 151 45) 4001 ∧ (∀ s2 : St, s2 = sai s1 176 ((fi s1 151 45)).toNatClampNeg x3 → vp_in (fi s2 151 45) 4001 ∧ (∀ s3 : St, s3 = sai s2 177 ((fi s2 151 45)).toNatClampNeg x1 → vp_in (fi s3 151 45) 4001 ∧ (∀ s4 : St, s4 = sai s3 178 ((fi s3 151 45)).toNatClampNeg x2 → K_BM_areHome g s4 (fun (r6 : Int32) (s5 : St) => (r6 = 0 → ∀ s7 : St, s7 = sfi s5 151 46 (fi s5 151 46) → ∀ s8 : St, s8 = sfi s7 151 45 ((fi s7 151 45) + (1 : Int32)) → Q (0 : Int32) s8) ∧ (¬ r6 = 0 → ∀ s9 : St, s9 = sfi s5 151 46 (fi s5 151 45) → ∀ s10 : St, s10 = sfi s9 151 45 ((fi s9 151 45) + (1 : Int32)) → Q (0 : Int32) s10))))))) : S_BM_comes_53 g Q σ x1 x2 x3 := by
  show Ax g m_BM_comes 0 0 (ZI g Q) SH σ 0 0 53 [(0, .ref (gB g + 151)), (1, .int x1), (2, .int x2), (3, .int x3)] []
  refine a_aload_n (pc := 53) 0 rfl rfl d_BM_comes_53 ?_
  refine a_getR (pc := 54) fg_BM_86 sx_151 rfl d_BM_comes_54 ?_
  refine a_iload_n (pc := 57) 3 rfl rfl d_BM_comes_57 ?_
  refine a_aload_n (pc := 58) 0 rfl rfl d_BM_comes_58 ?_
  refine a_getI (pc := 59) fg_BM_425 sx_151 rfl d_BM_comes_59 ?_
  obtain ⟨hx, h⟩ := h
  refine a_iast (pc := 62) sx_175 hx d_BM_comes_62 ?_
  refine a_nms (fun s1 hs1 => ?_)
  replace h := h s1 hs1
  refine a_aload_n (pc := 63) 0 rfl rfl d_BM_comes_63 ?_
  refine a_getR (pc := 64) fg_BM_89 sx_151 rfl d_BM_comes_64 ?_
  refine a_aload_n (pc := 67) 0 rfl rfl d_BM_comes_67 ?_
  refine a_getI (pc := 68) fg_BM_428 sx_151 rfl d_BM_comes_68 ?_
  refine a_iload_n (pc := 71) 3 rfl rfl d_BM_comes_71 ?_
  obtain ⟨hx, h⟩ := h
  refine a_iast (pc := 72) sx_176 hx d_BM_comes_72 ?_
  refine a_nms (fun s2 hs2 => ?_)
  replace h := h s2 hs2
  refine a_aload_n (pc := 73) 0 rfl rfl d_BM_comes_73 ?_
  refine a_getR (pc := 74) fg_BM_92 sx_151 rfl d_BM_comes_74 ?_
  refine a_aload_n (pc := 77) 0 rfl rfl d_BM_comes_77 ?_
  refine a_getI (pc := 78) fg_BM_428 sx_151 rfl d_BM_comes_78 ?_
  refine a_iload_n (pc := 81) 1 rfl rfl d_BM_comes_81 ?_
  obtain ⟨hx, h⟩ := h
  refine a_iast (pc := 82) sx_177 hx d_BM_comes_82 ?_
  refine a_nms (fun s3 hs3 => ?_)
  replace h := h s3 hs3
  refine a_aload_n (pc := 83) 0 rfl rfl d_BM_comes_83 ?_
  refine a_getR (pc := 84) fg_BM_95 sx_151 rfl d_BM_comes_84 ?_
  refine a_aload_n (pc := 87) 0 rfl rfl d_BM_comes_87 ?_
  refine a_getI (pc := 88) fg_BM_428 sx_151 rfl d_BM_comes_88 ?_
  refine a_iload_n (pc := 91) 2 rfl rfl d_BM_comes_91 ?_
  obtain ⟨hx, h⟩ := h
  refine a_iast (pc := 92) sx_178 hx d_BM_comes_92 ?_
  refine a_nms (fun s4 hs4 => ?_)
  replace h := h s4 hs4
  refine a_aload_n (pc := 93) 0 rfl rfl d_BM_comes_93 ?_
  refine a_aload_n (pc := 94) 0 rfl rfl d_BM_comes_94 ?_
  refine a_callV (pc := 95) (M' := m_BM_areHome) (As := []) (st := [.ref (gB g + 151)]) (mc' := 0) (ms' := 0) lk_BM_415 rfl sx_151 rfl (by decide) (by decide) rfl (Nat.le_of_ble_eq_true rfl) (Nat.le_refl 0) (Nat.le_refl 0) d_BM_comes_95 h ?_
  rintro _ _ s5 ⟨r6, rfl, rfl, h⟩ -
  show Ax g m_BM_comes 0 0 (ZI g Q) SH s5 0 0 98 [(0, .ref (gB g + 151)), (1, .int x1), (2, .int x2), (3, .int x3)] [.int r6, .ref (gB g + 151)]
  refine a_if_eq (pc := 98) 108 (by decide) d_BM_comes_98 ⟨fun c0 => ?_, fun c0 => ?_⟩
  · replace h := h.1 c0
    refine a_aload_n (pc := 108) 0 rfl rfl d_BM_comes_108 ?_
    refine a_getI (pc := 109) fg_BM_431 sx_151 rfl d_BM_comes_109 ?_
    refine a_putI (pc := 112) fp_BM_431 sx_151 rfl d_BM_comes_112 ?_
    refine a_nms (fun s7 hs7 => ?_)
    replace h := h s7 hs7
    refine a_aload_n (pc := 115) 0 rfl rfl d_BM_comes_115 ?_
    refine a_dup (pc := 116) rfl d_BM_comes_116 ?_
    refine a_getI (pc := 117) fg_BM_428 sx_151 rfl d_BM_comes_117 ?_
    refine a_iconst (pc := 120) (1 : Int32) (by decide) d_BM_comes_120 ?_
    refine a_iadd (pc := 121) d_BM_comes_121 ?_
    refine a_putI (pc := 122) fp_BM_428 sx_151 rfl d_BM_comes_122 ?_
    refine a_nms (fun s8 hs8 => ?_)
    replace h := h s8 hs8
    refine a_iconst (pc := 125) (0 : Int32) (by decide) d_BM_comes_125 ?_
    exact b_zret (pc := 126) rfl (Or.inl rfl) d_BM_comes_126 h
  · replace h := h.2 c0
    refine a_aload_n (pc := 101) 0 rfl rfl d_BM_comes_101 ?_
    refine a_getI (pc := 102) fg_BM_428 sx_151 rfl d_BM_comes_102 ?_
    refine a_goto (pc := 105) 112 (by decide) d_BM_comes_105 ?_
    refine a_putI (pc := 112) fp_BM_431 sx_151 rfl d_BM_comes_112 ?_
    refine a_nms (fun s9 hs9 => ?_)
    replace h := h s9 hs9
    refine a_aload_n (pc := 115) 0 rfl rfl d_BM_comes_115 ?_
    refine a_dup (pc := 116) rfl d_BM_comes_116 ?_
    refine a_getI (pc := 117) fg_BM_428 sx_151 rfl d_BM_comes_117 ?_
    refine a_iconst (pc := 120) (1 : Int32) (by decide) d_BM_comes_120 ?_
    refine a_iadd (pc := 121) d_BM_comes_121 ?_
    refine a_putI (pc := 122) fp_BM_428 sx_151 rfl d_BM_comes_122 ?_
    refine a_nms (fun s10 hs10 => ?_)
    replace h := h s10 hs10
    refine a_iconst (pc := 125) (0 : Int32) (by decide) d_BM_comes_125 ?_
    exact b_zret (pc := 126) rfl (Or.inl rfl) d_BM_comes_126 h
theorem ko_BM_comes {g : Gx}  {x1 : Int32} {x2 : Int32} {σ : St} {Q : Int32 → St → Prop} (h : S_BM_comes_0 g Q σ x1 x2) : K_BM_comes g x1 x2 σ Q := KI.of (show plainName "BallBoxModel" = true by decide) (Nat.le_of_ble_eq_true rfl) h
theorem d_BM_finds_0 : decode c_BM_finds 0 = .ok (.aload_n 0, 1) := by decide +kernel
theorem d_BM_finds_1 : decode c_BM_finds 1 = .ok (.getfield 16, 3) := by decide +kernel
theorem d_BM_finds_4 : decode c_BM_finds 4 = .ok (.aload_n 0, 1) := by decide +kernel
theorem d_BM_finds_5 : decode c_BM_finds 5 = .ok (.getfield 98, 3) := by decide +kernel
theorem d_BM_finds_8 : decode c_BM_finds 8 = .ok (.invokestatic 333, 3) := by decide +kernel
theorem d_BM_finds_11 : decode c_BM_finds 11 = .ok (.aload_n 0, 1) := by decide +kernel
theorem d_BM_finds_12 : decode c_BM_finds 12 = .ok (.dup, 1) := by decide +kernel
theorem d_BM_finds_13 : decode c_BM_finds 13 = .ok (.getfield 425, 3) := by decide +kernel
theorem d_BM_finds_16 : decode c_BM_finds 16 = .ok (.iconst 1, 1) := by decide +kernel
theorem d_BM_finds_17 : decode c_BM_finds 17 = .ok (.iadd, 1) := by decide +kernel
theorem d_BM_finds_18 : decode c_BM_finds 18 = .ok (.putfield 425, 3) := by decide +kernel
theorem d_BM_finds_21 : decode c_BM_finds 21 = .ok (.aload_n 0, 1) := by decide +kernel
theorem d_BM_finds_22 : decode c_BM_finds 22 = .ok (.iconst 0, 1) := by decide +kernel
theorem d_BM_finds_23 : decode c_BM_finds 23 = .ok (.putfield 428, 3) := by decide +kernel
theorem d_BM_finds_26 : decode c_BM_finds 26 = .ok (.aload_n 0, 1) := by decide +kernel
theorem d_BM_finds_27 : decode c_BM_finds 27 = .ok (.iconst (-1), 1) := by decide +kernel
theorem d_BM_finds_28 : decode c_BM_finds 28 = .ok (.putfield 431, 3) := by decide +kernel
theorem d_BM_finds_31 : decode c_BM_finds 31 = .ok (.aload_n 0, 1) := by decide +kernel
theorem d_BM_finds_32 : decode c_BM_finds 32 = .ok (.iconst (-1), 1) := by decide +kernel
theorem d_BM_finds_33 : decode c_BM_finds 33 = .ok (.iconst (-1), 1) := by decide +kernel
theorem d_BM_finds_34 : decode c_BM_finds 34 = .ok (.invokevirtual 434, 3) := by decide +kernel
theorem d_BM_finds_37 : decode c_BM_finds 37 = .ok (.istore_n 1, 1) := by decide +kernel
theorem d_BM_finds_38 : decode c_BM_finds 38 = .ok (.iconst 0, 1) := by decide +kernel
theorem d_BM_finds_39 : decode c_BM_finds 39 = .ok (.istore_n 2, 1) := by decide +kernel
theorem d_BM_finds_40 : decode c_BM_finds 40 = .ok (.iload_n 2, 1) := by decide +kernel
theorem d_BM_finds_41 : decode c_BM_finds 41 = .ok (.aload_n 0, 1) := by decide +kernel
theorem d_BM_finds_42 : decode c_BM_finds 42 = .ok (.getfield 428, 3) := by decide +kernel
theorem d_BM_finds_45 : decode c_BM_finds 45 = .ok (.if_icmp .ge 75, 3) := by decide +kernel
theorem d_BM_finds_48 : decode c_BM_finds 48 = .ok (.iload_n 2, 1) := by decide +kernel
theorem d_BM_finds_49 : decode c_BM_finds 49 = .ok (.sipush 4000, 3) := by decide +kernel
theorem d_BM_finds_52 : decode c_BM_finds 52 = .ok (.if_icmp .ge 68, 3) := by decide +kernel
theorem d_BM_finds_55 : decode c_BM_finds 55 = .ok (.aload_n 0, 1) := by decide +kernel
theorem d_BM_finds_56 : decode c_BM_finds 56 = .ok (.getfield 431, 3) := by decide +kernel
theorem d_BM_finds_59 : decode c_BM_finds 59 = .ok (.iconst (-1), 1) := by decide +kernel
theorem d_BM_finds_60 : decode c_BM_finds 60 = .ok (.if_icmp .ne 60, 3) := by decide +kernel
theorem d_BM_finds_63 : decode c_BM_finds 63 = .ok (.iload_n 1, 1) := by decide +kernel
theorem d_BM_finds_64 : decode c_BM_finds 64 = .ok (.ifCond .ne 56, 3) := by decide +kernel
theorem d_BM_finds_67 : decode c_BM_finds 67 = .ok (.iconst 0, 1) := by decide +kernel
theorem d_BM_finds_68 : decode c_BM_finds 68 = .ok (.istore_n 3, 1) := by decide +kernel
theorem d_BM_finds_69 : decode c_BM_finds 69 = .ok (.iload_n 3, 1) := by decide +kernel
theorem d_BM_finds_70 : decode c_BM_finds 70 = .ok (.iconst 4, 1) := by decide +kernel
theorem d_BM_finds_71 : decode c_BM_finds 71 = .ok (.if_icmp .ge 43, 3) := by decide +kernel
theorem d_BM_finds_74 : decode c_BM_finds 74 = .ok (.aload_n 0, 1) := by decide +kernel
theorem d_BM_finds_75 : decode c_BM_finds 75 = .ok (.getfield 431, 3) := by decide +kernel
theorem d_BM_finds_78 : decode c_BM_finds 78 = .ok (.iconst (-1), 1) := by decide +kernel
theorem d_BM_finds_79 : decode c_BM_finds 79 = .ok (.if_icmp .ne 35, 3) := by decide +kernel
theorem d_BM_finds_82 : decode c_BM_finds 82 = .ok (.iload_n 1, 1) := by decide +kernel
theorem d_BM_finds_83 : decode c_BM_finds 83 = .ok (.ifCond .ne 31, 3) := by decide +kernel
theorem d_BM_finds_86 : decode c_BM_finds 86 = .ok (.aload_n 0, 1) := by decide +kernel
theorem d_BM_finds_87 : decode c_BM_finds 87 = .ok (.aload_n 0, 1) := by decide +kernel
theorem d_BM_finds_88 : decode c_BM_finds 88 = .ok (.getfield 89, 3) := by decide +kernel
theorem d_BM_finds_91 : decode c_BM_finds 91 = .ok (.iload_n 2, 1) := by decide +kernel
theorem d_BM_finds_92 : decode c_BM_finds 92 = .ok (.iaload, 1) := by decide +kernel
theorem d_BM_finds_93 : decode c_BM_finds 93 = .ok (.invokevirtual 437, 3) := by decide +kernel
theorem d_BM_finds_96 : decode c_BM_finds 96 = .ok (.aload_n 0, 1) := by decide +kernel
theorem d_BM_finds_97 : decode c_BM_finds 97 = .ok (.iload_n 3, 1) := by decide +kernel
theorem d_BM_finds_98 : decode c_BM_finds 98 = .ok (.invokevirtual 396, 3) := by decide +kernel
theorem d_BM_finds_101 : decode c_BM_finds 101 = .ok (.aload_n 0, 1) := by decide +kernel
theorem d_BM_finds_102 : decode c_BM_finds 102 = .ok (.iload_n 2, 1) := by decide +kernel
theorem d_BM_finds_103 : decode c_BM_finds 103 = .ok (.iload_n 3, 1) := by decide +kernel
theorem d_BM_finds_104 : decode c_BM_finds 104 = .ok (.invokevirtual 434, 3) := by decide +kernel
theorem d_BM_finds_107 : decode c_BM_finds 107 = .ok (.istore_n 1, 1) := by decide +kernel
theorem d_BM_finds_108 : decode c_BM_finds 108 = .ok (.iinc 3 1, 3) := by decide +kernel
theorem d_BM_finds_111 : decode c_BM_finds 111 = .ok (.goto (-42), 3) := by decide +kernel
theorem d_BM_finds_114 : decode c_BM_finds 114 = .ok (.iinc 2 1, 3) := by decide +kernel
theorem d_BM_finds_117 : decode c_BM_finds 117 = .ok (.goto (-77), 3) := by decide +kernel
theorem d_BM_finds_120 : decode c_BM_finds 120 = .ok (.aload_n 0, 1) := by decide +kernel
theorem d_BM_finds_121 : decode c_BM_finds 121 = .ok (.getfield 98, 3) := by decide +kernel
theorem d_BM_finds_124 : decode c_BM_finds 124 = .ok (.aload_n 0, 1) := by decide +kernel
theorem d_BM_finds_125 : decode c_BM_finds 125 = .ok (.getfield 16, 3) := by decide +kernel
theorem d_BM_finds_128 : decode c_BM_finds 128 = .ok (.invokestatic 333, 3) := by decide +kernel
theorem d_BM_finds_131 : decode c_BM_finds 131 = .ok (.aload_n 0, 1) := by decide +kernel
theorem d_BM_finds_132 : decode c_BM_finds 132 = .ok (.getfield 431, 3) := by decide +kernel
theorem d_BM_finds_135 : decode c_BM_finds 135 = .ok (.iconst (-1), 1) := by decide +kernel
theorem d_BM_finds_136 : decode c_BM_finds 136 = .ok (.if_icmp .ne 15, 3) := by decide +kernel
theorem d_BM_finds_139 : decode c_BM_finds 139 = .ok (.iload_n 1, 1) := by decide +kernel
theorem d_BM_finds_140 : decode c_BM_finds 140 = .ok (.ifCond .eq 8, 3) := by decide +kernel
theorem d_BM_finds_143 : decode c_BM_finds 143 = .ok (.bipush (-3), 2) := by decide +kernel
theorem d_BM_finds_145 : decode c_BM_finds 145 = .ok (.goto 5, 3) := by decide +kernel
theorem d_BM_finds_148 : decode c_BM_finds 148 = .ok (.bipush (-2), 2) := by decide +kernel
theorem d_BM_finds_150 : decode c_BM_finds 150 = .ok (.ireturn, 1) := by decide +kernel
theorem d_BM_finds_151 : decode c_BM_finds 151 = .ok (.iconst 0, 1) := by decide +kernel
theorem d_BM_finds_152 : decode c_BM_finds 152 = .ok (.istore_n 2, 1) := by decide +kernel
theorem d_BM_finds_153 : decode c_BM_finds 153 = .ok (.aload_n 0, 1) := by decide +kernel
theorem d_BM_finds_154 : decode c_BM_finds 154 = .ok (.getfield 431, 3) := by decide +kernel
theorem d_BM_finds_157 : decode c_BM_finds 157 = .ok (.istore_n 3, 1) := by decide +kernel
theorem d_BM_finds_158 : decode c_BM_finds 158 = .ok (.aload_n 0, 1) := by decide +kernel
theorem d_BM_finds_159 : decode c_BM_finds 159 = .ok (.getfield 92, 3) := by decide +kernel
theorem d_BM_finds_162 : decode c_BM_finds 162 = .ok (.iload_n 3, 1) := by decide +kernel
theorem d_BM_finds_163 : decode c_BM_finds 163 = .ok (.iaload, 1) := by decide +kernel
theorem d_BM_finds_164 : decode c_BM_finds 164 = .ok (.iconst (-1), 1) := by decide +kernel
theorem d_BM_finds_165 : decode c_BM_finds 165 = .ok (.if_icmp .eq 16, 3) := by decide +kernel
theorem d_BM_finds_168 : decode c_BM_finds 168 = .ok (.iinc 2 1, 3) := by decide +kernel
theorem d_BM_finds_171 : decode c_BM_finds 171 = .ok (.aload_n 0, 1) := by decide +kernel
theorem d_BM_finds_172 : decode c_BM_finds 172 = .ok (.getfield 92, 3) := by decide +kernel
theorem d_BM_finds_175 : decode c_BM_finds 175 = .ok (.iload_n 3, 1) := by decide +kernel
theorem d_BM_finds_176 : decode c_BM_finds 176 = .ok (.iaload, 1) := by decide +kernel
theorem d_BM_finds_177 : decode c_BM_finds 177 = .ok (.istore_n 3, 1) := by decide +kernel
theorem d_BM_finds_178 : decode c_BM_finds 178 = .ok (.goto (-20), 3) := by decide +kernel
theorem d_BM_finds_181 : decode c_BM_finds 181 = .ok (.iload_n 2, 1) := by decide +kernel
theorem d_BM_finds_182 : decode c_BM_finds 182 = .ok (.ireturn, 1) := by decide +kernel
def S_BM_finds_0 (g : Gx) (Q : Int32 → St → Prop) (σ : St) : Prop := Ax g m_BM_finds 0 0 (ZI g Q) SH σ 0 0 0 [(0, .ref (gB g + 151))] []
def S_BM_finds_40 (g : Gx) (Q : Int32 → St → Prop) (σ : St) (x1 : Int32) (x2 : Int32) : Prop := Ax g m_BM_finds 0 0 (ZI g Q) SH σ 0 0 40 [(0, .ref (gB g + 151)), (1, .int x1), (2, .int x2)] []
def S_BM_finds_120 (g : Gx) (Q : Int32 → St → Prop) (σ : St) (x1 : Int32) : Prop := Ax g m_BM_finds 0 0 (ZI g Q) SH σ 0 0 120 [(0, .ref (gB g + 151)), (1, .int x1)] []
def S_BM_finds_69 (g : Gx) (Q : Int32 → St → Prop) (σ : St) (x1 : Int32) (x2 : Int32) (x3 : Int32) : Prop := Ax g m_BM_finds 0 0 (ZI g Q) SH σ 0 0 69 [(0, .ref (gB g + 151)), (1, .int x1), (2, .int x2), (3, .int x3)] []
def S_BM_finds_158 (g : Gx) (Q : Int32 → St → Prop) (σ : St) (x2 : Int32) (x3 : Int32) : Prop := Ax g m_BM_finds 0 0 (ZI g Q) SH σ 0 0 158 [(0, .ref (gB g + 151)), (2, .int x2), (3, .int x3)] []
theorem sg_BM_finds_0 {g : Gx} {Q : Int32 → St → Prop} {σ : St}
    (h : K_BM_lay g 154 179 σ (fun s1 : St => ∀ s2 : St, s2 = sfi s1 151 44 ((fi s1 151 44) + (1 : Int32)) → ∀ s3 : St, s3 = sfi s2 151 45 (0 : Int32) → ∀ s4 : St, s4 = sfi s3 151 46 (-1 : Int32) → K_BM_comes g (-1 : Int32) (-1 : Int32) s4 (fun (r6 : Int32) (s5 : St) => S_BM_finds_40 g Q s5 r6 (0 : Int32)))) : S_BM_finds_0 g Q σ := by
  show Ax g m_BM_finds 0 0 (ZI g Q) SH σ 0 0 0 [(0, .ref (gB g + 151))] []
  refine a_aload_n (pc := 0) 0 rfl rfl d_BM_finds_0 ?_
  refine a_getR (pc := 1) fg_BM_16 sx_151 rfl d_BM_finds_1 ?_
  refine a_aload_n (pc := 4) 0 rfl rfl d_BM_finds_4 ?_
  refine a_getR (pc := 5) fg_BM_98 sx_151 rfl d_BM_finds_5 ?_
  refine a_callS (pc := 8) (M' := m_BM_lay) (As := [.ref (gB g + 154), .ref (gB g + 179)]) (st := []) (mc' := 0) (ms' := 0) lk_BM_333 rfl (by decide) (by decide) rfl (Nat.le_of_ble_eq_true rfl) (Nat.le_refl 0) (Nat.le_refl 0) d_BM_finds_8 h ?_
  rintro _ _ s1 ⟨rfl, rfl, h⟩ -
  show Ax g m_BM_finds 0 0 (ZI g Q) SH s1 0 0 11 [(0, .ref (gB g + 151))] []
  refine a_aload_n (pc := 11) 0 rfl rfl d_BM_finds_11 ?_
  refine a_dup (pc := 12) rfl d_BM_finds_12 ?_
  refine a_getI (pc := 13) fg_BM_425 sx_151 rfl d_BM_finds_13 ?_
  refine a_iconst (pc := 16) (1 : Int32) (by decide) d_BM_finds_16 ?_
  refine a_iadd (pc := 17) d_BM_finds_17 ?_
  refine a_putI (pc := 18) fp_BM_425 sx_151 rfl d_BM_finds_18 ?_
  refine a_nms (fun s2 hs2 => ?_)
  replace h := h s2 hs2
  refine a_aload_n (pc := 21) 0 rfl rfl d_BM_finds_21 ?_
  refine a_iconst (pc := 22) (0 : Int32) (by decide) d_BM_finds_22 ?_
  refine a_putI (pc := 23) fp_BM_428 sx_151 rfl d_BM_finds_23 ?_
  refine a_nms (fun s3 hs3 => ?_)
  replace h := h s3 hs3
  refine a_aload_n (pc := 26) 0 rfl rfl d_BM_finds_26 ?_
  refine a_iconst (pc := 27) (-1 : Int32) (by decide) d_BM_finds_27 ?_
  refine a_putI (pc := 28) fp_BM_431 sx_151 rfl d_BM_finds_28 ?_
  refine a_nms (fun s4 hs4 => ?_)
  replace h := h s4 hs4
  refine a_aload_n (pc := 31) 0 rfl rfl d_BM_finds_31 ?_
  refine a_iconst (pc := 32) (-1 : Int32) (by decide) d_BM_finds_32 ?_
  refine a_iconst (pc := 33) (-1 : Int32) (by decide) d_BM_finds_33 ?_
  refine a_callV (pc := 34) (M' := m_BM_comes) (As := [.int (-1 : Int32), .int (-1 : Int32)]) (st := []) (mc' := 0) (ms' := 0) lk_BM_434 rfl sx_151 rfl (by decide) (by decide) rfl (Nat.le_of_ble_eq_true rfl) (Nat.le_refl 0) (Nat.le_refl 0) d_BM_finds_34 h ?_
  rintro _ _ s5 ⟨r6, rfl, rfl, h⟩ -
  show Ax g m_BM_finds 0 0 (ZI g Q) SH s5 0 0 37 [(0, .ref (gB g + 151))] [.int r6]
  refine a_istore_n (pc := 37) (lv' := [(1, .int r6), (0, .ref (gB g + 151))]) rfl (Nat.le_of_ble_eq_true rfl) rfl d_BM_finds_37 ?_
  refine a_iconst (pc := 38) (0 : Int32) (by decide) d_BM_finds_38 ?_
  refine a_istore_n (pc := 39) (lv' := [(2, .int (0 : Int32)), (1, .int r6), (0, .ref (gB g + 151))]) rfl (Nat.le_of_ble_eq_true rfl) rfl d_BM_finds_39 ?_
  refine a_sub (pc := 40) [2, 1, 0] rfl ?_
  exact h
theorem sg_BM_finds_40 {g : Gx} {Q : Int32 → St → Prop} {σ : St} {x1 : Int32} {x2 : Int32}
    (h : ((fi σ 151 45) ≤ x2 → S_BM_finds_120 g Q σ x1) ∧ (¬ (fi σ 151 45) ≤ x2 → ((4000 : Int32) ≤ x2 → S_BM_finds_120 g Q σ x1) ∧ (¬ (4000 : Int32) ≤ x2 → (¬ (fi σ 151 46) = (-1 : Int32) → S_BM_finds_120 g Q σ x1) ∧ ((fi σ 151 46) = (-1 : Int32) → (¬ x1 = 0 → S_BM_finds_120 g Q σ x1) ∧ (x1 = 0 → S_BM_finds_69 g Q σ x1 x2 (0 : Int32)))))) : S_BM_finds_40 g Q σ x1 x2 := by
  show Ax g m_BM_finds 0 0 (ZI g Q) SH σ 0 0 40 [(0, .ref (gB g + 151)), (1, .int x1), (2, .int x2)] []
  refine a_iload_n (pc := 40) 2 rfl rfl d_BM_finds_40 ?_
  refine a_aload_n (pc := 41) 0 rfl rfl d_BM_finds_41 ?_
  refine a_getI (pc := 42) fg_BM_428 sx_151 rfl d_BM_finds_42 ?_
  refine a_icmp_ge (pc := 45) 120 (by decide) d_BM_finds_45 ⟨fun c0 => ?_, fun c0 => ?_⟩
  · replace h := h.1 c0
    refine a_sub (pc := 120) [0, 1] rfl ?_
    exact h
  · replace h := h.2 c0
    refine a_iload_n (pc := 48) 2 rfl rfl d_BM_finds_48 ?_
    refine a_sipush (pc := 49) (4000 : Int32) (by decide) d_BM_finds_49 ?_
    refine a_icmp_ge (pc := 52) 120 (by decide) d_BM_finds_52 ⟨fun c0 => ?_, fun c0 => ?_⟩
    · replace h := h.1 c0
      refine a_sub (pc := 120) [0, 1] rfl ?_
      exact h
    · replace h := h.2 c0
      refine a_aload_n (pc := 55) 0 rfl rfl d_BM_finds_55 ?_
      refine a_getI (pc := 56) fg_BM_431 sx_151 rfl d_BM_finds_56 ?_
      refine a_iconst (pc := 59) (-1 : Int32) (by decide) d_BM_finds_59 ?_
      refine a_icmp_ne (pc := 60) 120 (by decide) d_BM_finds_60 ⟨fun c0 => ?_, fun c0 => ?_⟩
      · replace h := h.1 c0
        refine a_sub (pc := 120) [0, 1] rfl ?_
        exact h
      · replace h := h.2 c0
        refine a_iload_n (pc := 63) 1 rfl rfl d_BM_finds_63 ?_
        refine a_if_ne (pc := 64) 120 (by decide) d_BM_finds_64 ⟨fun c0 => ?_, fun c0 => ?_⟩
        · replace h := h.1 c0
          refine a_sub (pc := 120) [0, 1] rfl ?_
          exact h
        · replace h := h.2 c0
          refine a_iconst (pc := 67) (0 : Int32) (by decide) d_BM_finds_67 ?_
          refine a_istore_n (pc := 68) (lv' := [(3, .int (0 : Int32)), (0, .ref (gB g + 151)), (1, .int x1), (2, .int x2)]) rfl (Nat.le_of_ble_eq_true rfl) rfl d_BM_finds_68 ?_
          refine a_sub (pc := 69) [1, 2, 3, 0] rfl ?_
          exact h
theorem sg_BM_finds_120 {g : Gx} {Q : Int32 → St → Prop} {σ : St} {x1 : Int32}
    (h : K_BM_lay g 179 154 σ (fun s1 : St => (¬ (fi s1 151 46) = (-1 : Int32) → ∀ u2 : Int32, u2 = (fi s1 151 46) → S_BM_finds_158 g Q s1 (0 : Int32) u2) ∧ ((fi s1 151 46) = (-1 : Int32) → (x1 = 0 → Q (-2 : Int32) s1) ∧ (¬ x1 = 0 → Q (-3 : Int32) s1)))) : S_BM_finds_120 g Q σ x1 := by
  show Ax g m_BM_finds 0 0 (ZI g Q) SH σ 0 0 120 [(0, .ref (gB g + 151)), (1, .int x1)] []
  refine a_aload_n (pc := 120) 0 rfl rfl d_BM_finds_120 ?_
  refine a_getR (pc := 121) fg_BM_98 sx_151 rfl d_BM_finds_121 ?_
  refine a_aload_n (pc := 124) 0 rfl rfl d_BM_finds_124 ?_
  refine a_getR (pc := 125) fg_BM_16 sx_151 rfl d_BM_finds_125 ?_
  refine a_callS (pc := 128) (M' := m_BM_lay) (As := [.ref (gB g + 179), .ref (gB g + 154)]) (st := []) (mc' := 0) (ms' := 0) lk_BM_333 rfl (by decide) (by decide) rfl (Nat.le_of_ble_eq_true rfl) (Nat.le_refl 0) (Nat.le_refl 0) d_BM_finds_128 h ?_
  rintro _ _ s1 ⟨rfl, rfl, h⟩ -
  show Ax g m_BM_finds 0 0 (ZI g Q) SH s1 0 0 131 [(0, .ref (gB g + 151)), (1, .int x1)] []
  refine a_aload_n (pc := 131) 0 rfl rfl d_BM_finds_131 ?_
  refine a_getI (pc := 132) fg_BM_431 sx_151 rfl d_BM_finds_132 ?_
  refine a_iconst (pc := 135) (-1 : Int32) (by decide) d_BM_finds_135 ?_
  refine a_icmp_ne (pc := 136) 151 (by decide) d_BM_finds_136 ⟨fun c0 => ?_, fun c0 => ?_⟩
  · replace h := h.1 c0
    refine a_iconst (pc := 151) (0 : Int32) (by decide) d_BM_finds_151 ?_
    refine a_istore_n (pc := 152) (lv' := [(2, .int (0 : Int32)), (0, .ref (gB g + 151)), (1, .int x1)]) rfl (Nat.le_of_ble_eq_true rfl) rfl d_BM_finds_152 ?_
    refine a_aload_n (pc := 153) 1 rfl rfl d_BM_finds_153 ?_
    refine a_getI (pc := 154) fg_BM_431 sx_151 rfl d_BM_finds_154 ?_
    refine a_nmi (pc := 157) (fun u2 hu2 => ?_)
    replace h := h u2 hu2
    refine a_istore_n (pc := 157) (lv' := [(3, .int u2), (2, .int (0 : Int32)), (0, .ref (gB g + 151)), (1, .int x1)]) rfl (Nat.le_of_ble_eq_true rfl) rfl d_BM_finds_157 ?_
    refine a_sub (pc := 158) [2, 1, 0] rfl ?_
    exact h
  · replace h := h.2 c0
    refine a_iload_n (pc := 139) 1 rfl rfl d_BM_finds_139 ?_
    refine a_if_eq (pc := 140) 148 (by decide) d_BM_finds_140 ⟨fun c0 => ?_, fun c0 => ?_⟩
    · replace h := h.1 c0
      refine a_bipush (pc := 148) (-2 : Int32) (by decide) d_BM_finds_148 ?_
      exact b_iret (pc := 150) rfl d_BM_finds_150 h
    · replace h := h.2 c0
      refine a_bipush (pc := 143) (-3 : Int32) (by decide) d_BM_finds_143 ?_
      refine a_goto (pc := 145) 150 (by decide) d_BM_finds_145 ?_
      exact b_iret (pc := 150) rfl d_BM_finds_150 h
theorem sg_BM_finds_69 {g : Gx} {Q : Int32 → St → Prop} {σ : St} {x1 : Int32} {x2 : Int32} {x3 : Int32}
    (h : ((4 : Int32) ≤ x3 → ∀ u1 : Int32, u1 = x2 + (1 : Int32) → S_BM_finds_40 g Q σ x1 u1) ∧ (¬ (4 : Int32) ≤ x3 → (¬ (fi σ 151 46) = (-1 : Int32) → ∀ u2 : Int32, u2 = x2 + (1 : Int32) → S_BM_finds_40 g Q σ x1 u2) ∧ ((fi σ 151 46) = (-1 : Int32) → (¬ x1 = 0 → ∀ u3 : Int32, u3 = x2 + (1 : Int32) → S_BM_finds_40 g Q σ x1 u3) ∧ (x1 = 0 → vp_in x2 4001 ∧ (K_BM_laysSituation g (ai σ 176 (x2).toNatClampNeg) σ (fun s4 : St => K_BM_tips g x3 s4 (fun s5 : St => K_BM_comes g x2 x3 s5 (fun (r7 : Int32) (s6 : St) => ∀ u8 : Int32, u8 = x3 + (1 : Int32) → S_BM_finds_69 g Q s6 r7 x2 u8)))))))) : S_BM_finds_69 g Q σ x1 x2 x3 := by
  show Ax g m_BM_finds 0 0 (ZI g Q) SH σ 0 0 69 [(0, .ref (gB g + 151)), (1, .int x1), (2, .int x2), (3, .int x3)] []
  refine a_iload_n (pc := 69) 3 rfl rfl d_BM_finds_69 ?_
  refine a_iconst (pc := 70) (4 : Int32) (by decide) d_BM_finds_70 ?_
  refine a_icmp_ge (pc := 71) 114 (by decide) d_BM_finds_71 ⟨fun c0 => ?_, fun c0 => ?_⟩
  · replace h := h.1 c0
    obtain ⟨u1, hu1⟩ : ∃ y : Int32, y = x2 + (1 : Int32) := ⟨_, rfl⟩
    replace h := h u1 hu1
    refine a_iinc (pc := 114) (v := u1) (lv' := [(2, .int u1), (0, .ref (gB g + 151)), (1, .int x1), (3, .int x3)]) 2 rfl (by rw [hu1]; rfl) (Nat.le_of_ble_eq_true rfl) rfl d_BM_finds_114 ?_
    refine a_goto (pc := 117) 40 (by decide) d_BM_finds_117 ?_
    refine a_sub (pc := 40) [1, 2, 0] rfl ?_
    exact h
  · replace h := h.2 c0
    refine a_aload_n (pc := 74) 0 rfl rfl d_BM_finds_74 ?_
    refine a_getI (pc := 75) fg_BM_431 sx_151 rfl d_BM_finds_75 ?_
    refine a_iconst (pc := 78) (-1 : Int32) (by decide) d_BM_finds_78 ?_
    refine a_icmp_ne (pc := 79) 114 (by decide) d_BM_finds_79 ⟨fun c0 => ?_, fun c0 => ?_⟩
    · replace h := h.1 c0
      obtain ⟨u2, hu2⟩ : ∃ y : Int32, y = x2 + (1 : Int32) := ⟨_, rfl⟩
      replace h := h u2 hu2
      refine a_iinc (pc := 114) (v := u2) (lv' := [(2, .int u2), (0, .ref (gB g + 151)), (1, .int x1), (3, .int x3)]) 2 rfl (by rw [hu2]; rfl) (Nat.le_of_ble_eq_true rfl) rfl d_BM_finds_114 ?_
      refine a_goto (pc := 117) 40 (by decide) d_BM_finds_117 ?_
      refine a_sub (pc := 40) [1, 2, 0] rfl ?_
      exact h
    · replace h := h.2 c0
      refine a_iload_n (pc := 82) 1 rfl rfl d_BM_finds_82 ?_
      refine a_if_ne (pc := 83) 114 (by decide) d_BM_finds_83 ⟨fun c0 => ?_, fun c0 => ?_⟩
      · replace h := h.1 c0
        obtain ⟨u3, hu3⟩ : ∃ y : Int32, y = x2 + (1 : Int32) := ⟨_, rfl⟩
        replace h := h u3 hu3
        refine a_iinc (pc := 114) (v := u3) (lv' := [(2, .int u3), (0, .ref (gB g + 151)), (1, .int x1), (3, .int x3)]) 2 rfl (by rw [hu3]; rfl) (Nat.le_of_ble_eq_true rfl) rfl d_BM_finds_114 ?_
        refine a_goto (pc := 117) 40 (by decide) d_BM_finds_117 ?_
        refine a_sub (pc := 40) [1, 2, 0] rfl ?_
        exact h
      · replace h := h.2 c0
        refine a_aload_n (pc := 86) 0 rfl rfl d_BM_finds_86 ?_
        refine a_aload_n (pc := 87) 0 rfl rfl d_BM_finds_87 ?_
        refine a_getR (pc := 88) fg_BM_89 sx_151 rfl d_BM_finds_88 ?_
        refine a_iload_n (pc := 91) 2 rfl rfl d_BM_finds_91 ?_
        obtain ⟨hx, h⟩ := h
        refine a_iald (pc := 92) sx_176 hx d_BM_finds_92 ?_
        refine a_callV (pc := 93) (M' := m_BM_laysSituation) (As := [.int (ai σ 176 (x2).toNatClampNeg)]) (st := []) (mc' := 0) (ms' := 0) lk_BM_437 rfl sx_151 rfl (by decide) (by decide) rfl (Nat.le_of_ble_eq_true rfl) (Nat.le_refl 0) (Nat.le_refl 0) d_BM_finds_93 h ?_
        rintro _ _ s4 ⟨rfl, rfl, h⟩ -
        show Ax g m_BM_finds 0 0 (ZI g Q) SH s4 0 0 96 [(0, .ref (gB g + 151)), (1, .int x1), (2, .int x2), (3, .int x3)] []
        refine a_aload_n (pc := 96) 0 rfl rfl d_BM_finds_96 ?_
        refine a_iload_n (pc := 97) 3 rfl rfl d_BM_finds_97 ?_
        refine a_callV (pc := 98) (M' := m_BM_tips) (As := [.int x3]) (st := []) (mc' := 0) (ms' := 0) lk_BM_396 rfl sx_151 rfl (by decide) (by decide) rfl (Nat.le_of_ble_eq_true rfl) (Nat.le_refl 0) (Nat.le_refl 0) d_BM_finds_98 h ?_
        rintro _ _ s5 ⟨rfl, rfl, h⟩ -
        show Ax g m_BM_finds 0 0 (ZI g Q) SH s5 0 0 101 [(0, .ref (gB g + 151)), (1, .int x1), (2, .int x2), (3, .int x3)] []
        refine a_aload_n (pc := 101) 0 rfl rfl d_BM_finds_101 ?_
        refine a_iload_n (pc := 102) 2 rfl rfl d_BM_finds_102 ?_
        refine a_iload_n (pc := 103) 3 rfl rfl d_BM_finds_103 ?_
        refine a_callV (pc := 104) (M' := m_BM_comes) (As := [.int x2, .int x3]) (st := []) (mc' := 0) (ms' := 0) lk_BM_434 rfl sx_151 rfl (by decide) (by decide) rfl (Nat.le_of_ble_eq_true rfl) (Nat.le_refl 0) (Nat.le_refl 0) d_BM_finds_104 h ?_
        rintro _ _ s6 ⟨r7, rfl, rfl, h⟩ -
        show Ax g m_BM_finds 0 0 (ZI g Q) SH s6 0 0 107 [(0, .ref (gB g + 151)), (1, .int x1), (2, .int x2), (3, .int x3)] [.int r7]
        refine a_istore_n (pc := 107) (lv' := [(1, .int r7), (0, .ref (gB g + 151)), (2, .int x2), (3, .int x3)]) rfl (Nat.le_of_ble_eq_true rfl) rfl d_BM_finds_107 ?_
        obtain ⟨u8, hu8⟩ : ∃ y : Int32, y = x3 + (1 : Int32) := ⟨_, rfl⟩
        replace h := h u8 hu8
        refine a_iinc (pc := 108) (v := u8) (lv' := [(3, .int u8), (1, .int r7), (0, .ref (gB g + 151)), (2, .int x2)]) 3 rfl (by rw [hu8]; rfl) (Nat.le_of_ble_eq_true rfl) rfl d_BM_finds_108 ?_
        refine a_goto (pc := 111) 69 (by decide) d_BM_finds_111 ?_
        refine a_sub (pc := 69) [2, 1, 3, 0] rfl ?_
        exact h
theorem sg_BM_finds_158 {g : Gx} {Q : Int32 → St → Prop} {σ : St} {x2 : Int32} {x3 : Int32}
    (h : vp_in x3 4001 ∧ (((ai σ 177 (x3).toNatClampNeg) = (-1 : Int32) → Q x2 σ) ∧ (¬ (ai σ 177 (x3).toNatClampNeg) = (-1 : Int32) → ∀ u1 : Int32, u1 = x2 + (1 : Int32) → vp_in x3 4001 ∧ (∀ u2 : Int32, u2 = (ai σ 177 (x3).toNatClampNeg) → S_BM_finds_158 g Q σ u1 u2)))) : S_BM_finds_158 g Q σ x2 x3 := by
  show Ax g m_BM_finds 0 0 (ZI g Q) SH σ 0 0 158 [(0, .ref (gB g + 151)), (2, .int x2), (3, .int x3)] []
  refine a_aload_n (pc := 158) 0 rfl rfl d_BM_finds_158 ?_
  refine a_getR (pc := 159) fg_BM_92 sx_151 rfl d_BM_finds_159 ?_
  refine a_iload_n (pc := 162) 2 rfl rfl d_BM_finds_162 ?_
  obtain ⟨hx, h⟩ := h
  refine a_iald (pc := 163) sx_177 hx d_BM_finds_163 ?_
  refine a_iconst (pc := 164) (-1 : Int32) (by decide) d_BM_finds_164 ?_
  refine a_icmp_eq (pc := 165) 181 (by decide) d_BM_finds_165 ⟨fun c0 => ?_, fun c0 => ?_⟩
  · replace h := h.1 c0
    refine a_iload_n (pc := 181) 1 rfl rfl d_BM_finds_181 ?_
    exact b_iret (pc := 182) rfl d_BM_finds_182 h
  · replace h := h.2 c0
    obtain ⟨u1, hu1⟩ : ∃ y : Int32, y = x2 + (1 : Int32) := ⟨_, rfl⟩
    replace h := h u1 hu1
    refine a_iinc (pc := 168) (v := u1) (lv' := [(2, .int u1), (0, .ref (gB g + 151)), (3, .int x3)]) 1 rfl (by rw [hu1]; rfl) (Nat.le_of_ble_eq_true rfl) rfl d_BM_finds_168 ?_
    refine a_aload_n (pc := 171) 1 rfl rfl d_BM_finds_171 ?_
    refine a_getR (pc := 172) fg_BM_92 sx_151 rfl d_BM_finds_172 ?_
    refine a_iload_n (pc := 175) 2 rfl rfl d_BM_finds_175 ?_
    obtain ⟨hx, h⟩ := h
    refine a_iald (pc := 176) sx_177 hx d_BM_finds_176 ?_
    refine a_nmi (pc := 177) (fun u2 hu2 => ?_)
    replace h := h u2 hu2
    refine a_istore_n (pc := 177) (lv' := [(3, .int u2), (2, .int u1), (0, .ref (gB g + 151))]) rfl (Nat.le_of_ble_eq_true rfl) rfl d_BM_finds_177 ?_
    refine a_goto (pc := 178) 158 (by decide) d_BM_finds_178 ?_
    refine a_sub (pc := 158) [2, 1, 0] rfl ?_
    exact h
theorem ko_BM_finds {g : Gx}  {σ : St} {Q : Int32 → St → Prop} (h : S_BM_finds_0 g Q σ) : K_BM_finds g  σ Q := KI.of (show plainName "BallBoxModel" = true by decide) (Nat.le_of_ble_eq_true rfl) h
theorem d_BM_fewest_0 : decode c_BM_fewest 0 = .ok (.aload_n 0, 1) := by decide +kernel
theorem d_BM_fewest_1 : decode c_BM_fewest 1 = .ok (.invokevirtual 391, 3) := by decide +kernel
theorem d_BM_fewest_4 : decode c_BM_fewest 4 = .ok (.ifCond .eq 10, 3) := by decide +kernel
theorem d_BM_fewest_7 : decode c_BM_fewest 7 = .ok (.aload_n 0, 1) := by decide +kernel
theorem d_BM_fewest_8 : decode c_BM_fewest 8 = .ok (.invokevirtual 440, 3) := by decide +kernel
theorem d_BM_fewest_11 : decode c_BM_fewest 11 = .ok (.goto 4, 3) := by decide +kernel
theorem d_BM_fewest_14 : decode c_BM_fewest 14 = .ok (.iconst (-1), 1) := by decide +kernel
theorem d_BM_fewest_15 : decode c_BM_fewest 15 = .ok (.ireturn, 1) := by decide +kernel
def S_BM_fewest_0 (g : Gx) (Q : Int32 → St → Prop) (σ : St) : Prop := Ax g m_BM_fewest 0 0 (ZI g Q) SH σ 0 0 0 [(0, .ref (gB g + 151))] []
theorem sg_BM_fewest_0 {g : Gx} {Q : Int32 → St → Prop} {σ : St}
    (h : K_BM_isBox g σ (fun (r2 : Int32) (s1 : St) => (r2 = 0 → Q (-1 : Int32) s1) ∧ (¬ r2 = 0 → K_BM_finds g s1 (fun (r4 : Int32) (s3 : St) => Q r4 s3)))) : S_BM_fewest_0 g Q σ := by
  show Ax g m_BM_fewest 0 0 (ZI g Q) SH σ 0 0 0 [(0, .ref (gB g + 151))] []
  refine a_aload_n (pc := 0) 0 rfl rfl d_BM_fewest_0 ?_
  refine a_callV (pc := 1) (M' := m_BM_isBox) (As := []) (st := []) (mc' := 0) (ms' := 0) lk_BM_391 rfl sx_151 rfl (by decide) (by decide) rfl (Nat.le_of_ble_eq_true rfl) (Nat.le_refl 0) (Nat.le_refl 0) d_BM_fewest_1 h ?_
  rintro _ _ s1 ⟨r2, rfl, rfl, h⟩ -
  show Ax g m_BM_fewest 0 0 (ZI g Q) SH s1 0 0 4 [(0, .ref (gB g + 151))] [.int r2]
  refine a_if_eq (pc := 4) 14 (by decide) d_BM_fewest_4 ⟨fun c0 => ?_, fun c0 => ?_⟩
  · replace h := h.1 c0
    refine a_iconst (pc := 14) (-1 : Int32) (by decide) d_BM_fewest_14 ?_
    exact b_iret (pc := 15) rfl d_BM_fewest_15 h
  · replace h := h.2 c0
    refine a_aload_n (pc := 7) 0 rfl rfl d_BM_fewest_7 ?_
    refine a_callV (pc := 8) (M' := m_BM_finds) (As := []) (st := []) (mc' := 0) (ms' := 0) lk_BM_440 rfl sx_151 rfl (by decide) (by decide) rfl (Nat.le_of_ble_eq_true rfl) (Nat.le_refl 0) (Nat.le_refl 0) d_BM_fewest_8 h ?_
    rintro _ _ s3 ⟨r4, rfl, rfl, h⟩ -
    show Ax g m_BM_fewest 0 0 (ZI g Q) SH s3 0 0 11 [(0, .ref (gB g + 151))] [.int r4]
    refine a_goto (pc := 11) 15 (by decide) d_BM_fewest_11 ?_
    exact b_iret (pc := 15) rfl d_BM_fewest_15 h
theorem ko_BM_fewest {g : Gx}  {σ : St} {Q : Int32 → St → Prop} (h : S_BM_fewest_0 g Q σ) : K_BM_fewest g  σ Q := KI.of (show plainName "BallBoxModel" = true by decide) (Nat.le_of_ble_eq_true rfl) h
theorem d_BM_path_0 : decode c_BM_path 0 = .ok (.aload_n 0, 1) := by decide +kernel
theorem d_BM_path_1 : decode c_BM_path 1 = .ok (.invokevirtual 391, 3) := by decide +kernel
theorem d_BM_path_4 : decode c_BM_path 4 = .ok (.ifCond .eq 7, 3) := by decide +kernel
theorem d_BM_path_7 : decode c_BM_path 7 = .ok (.iload_n 1, 1) := by decide +kernel
theorem d_BM_path_8 : decode c_BM_path 8 = .ok (.ifCond .ge 5, 3) := by decide +kernel
theorem d_BM_path_11 : decode c_BM_path 11 = .ok (.iconst (-1), 1) := by decide +kernel
theorem d_BM_path_12 : decode c_BM_path 12 = .ok (.ireturn, 1) := by decide +kernel
theorem d_BM_path_13 : decode c_BM_path 13 = .ok (.aload_n 0, 1) := by decide +kernel
theorem d_BM_path_14 : decode c_BM_path 14 = .ok (.invokevirtual 440, 3) := by decide +kernel
theorem d_BM_path_17 : decode c_BM_path 17 = .ok (.istore_n 2, 1) := by decide +kernel
theorem d_BM_path_18 : decode c_BM_path 18 = .ok (.iload_n 2, 1) := by decide +kernel
theorem d_BM_path_19 : decode c_BM_path 19 = .ok (.ifCond .ge 5, 3) := by decide +kernel
theorem d_BM_path_22 : decode c_BM_path 22 = .ok (.iload_n 2, 1) := by decide +kernel
theorem d_BM_path_23 : decode c_BM_path 23 = .ok (.ireturn, 1) := by decide +kernel
theorem d_BM_path_24 : decode c_BM_path 24 = .ok (.iload_n 1, 1) := by decide +kernel
theorem d_BM_path_25 : decode c_BM_path 25 = .ok (.iload_n 2, 1) := by decide +kernel
theorem d_BM_path_26 : decode c_BM_path 26 = .ok (.if_icmp .lt 6, 3) := by decide +kernel
theorem d_BM_path_29 : decode c_BM_path 29 = .ok (.bipush (-2), 2) := by decide +kernel
theorem d_BM_path_31 : decode c_BM_path 31 = .ok (.ireturn, 1) := by decide +kernel
theorem d_BM_path_32 : decode c_BM_path 32 = .ok (.aload_n 0, 1) := by decide +kernel
theorem d_BM_path_33 : decode c_BM_path 33 = .ok (.getfield 431, 3) := by decide +kernel
theorem d_BM_path_36 : decode c_BM_path 36 = .ok (.istore_n 3, 1) := by decide +kernel
theorem d_BM_path_37 : decode c_BM_path 37 = .ok (.iload_n 2, 1) := by decide +kernel
theorem d_BM_path_38 : decode c_BM_path 38 = .ok (.iconst 1, 1) := by decide +kernel
theorem d_BM_path_39 : decode c_BM_path 39 = .ok (.isub, 1) := by decide +kernel
theorem d_BM_path_40 : decode c_BM_path 40 = .ok (.istore 4, 2) := by decide +kernel
theorem d_BM_path_42 : decode c_BM_path 42 = .ok (.iload 4, 2) := by decide +kernel
theorem d_BM_path_44 : decode c_BM_path 44 = .ok (.iload_n 1, 1) := by decide +kernel
theorem d_BM_path_45 : decode c_BM_path 45 = .ok (.if_icmp .le 16, 3) := by decide +kernel
theorem d_BM_path_48 : decode c_BM_path 48 = .ok (.aload_n 0, 1) := by decide +kernel
theorem d_BM_path_49 : decode c_BM_path 49 = .ok (.getfield 92, 3) := by decide +kernel
theorem d_BM_path_52 : decode c_BM_path 52 = .ok (.iload_n 3, 1) := by decide +kernel
theorem d_BM_path_53 : decode c_BM_path 53 = .ok (.iaload, 1) := by decide +kernel
theorem d_BM_path_54 : decode c_BM_path 54 = .ok (.istore_n 3, 1) := by decide +kernel
theorem d_BM_path_55 : decode c_BM_path 55 = .ok (.iinc 4 (-1), 3) := by decide +kernel
theorem d_BM_path_58 : decode c_BM_path 58 = .ok (.goto (-16), 3) := by decide +kernel
theorem d_BM_path_61 : decode c_BM_path 61 = .ok (.aload_n 0, 1) := by decide +kernel
theorem d_BM_path_62 : decode c_BM_path 62 = .ok (.getfield 95, 3) := by decide +kernel
theorem d_BM_path_65 : decode c_BM_path 65 = .ok (.iload_n 3, 1) := by decide +kernel
theorem d_BM_path_66 : decode c_BM_path 66 = .ok (.iaload, 1) := by decide +kernel
theorem d_BM_path_67 : decode c_BM_path 67 = .ok (.ireturn, 1) := by decide +kernel
def S_BM_path_0 (g : Gx) (Q : Int32 → St → Prop) (σ : St) (x1 : Int32) : Prop := Ax g m_BM_path 0 0 (ZI g Q) SH σ 0 0 0 [(0, .ref (gB g + 151)), (1, .int x1)] []
def S_BM_path_42 (g : Gx) (Q : Int32 → St → Prop) (σ : St) (x1 : Int32) (x3 : Int32) (x4 : Int32) : Prop := Ax g m_BM_path 0 0 (ZI g Q) SH σ 0 0 42 [(0, .ref (gB g + 151)), (1, .int x1), (3, .int x3), (4, .int x4)] []
theorem sg_BM_path_0 {g : Gx} {Q : Int32 → St → Prop} {σ : St} {x1 : Int32}
    (h : K_BM_isBox g σ (fun (r2 : Int32) (s1 : St) => (r2 = 0 → Q (-1 : Int32) s1) ∧ (¬ r2 = 0 → (0 ≤ x1 → K_BM_finds g s1 (fun (r4 : Int32) (s3 : St) => (0 ≤ r4 → (x1 < r4 → ∀ u5 : Int32, u5 = (fi s3 151 46) → ∀ u6 : Int32, u6 = (r4 - (1 : Int32)) → S_BM_path_42 g Q s3 x1 u5 u6) ∧ (¬ x1 < r4 → Q (-2 : Int32) s3)) ∧ (¬ 0 ≤ r4 → Q r4 s3))) ∧ (¬ 0 ≤ x1 → Q (-1 : Int32) s1)))) : S_BM_path_0 g Q σ x1 := by
  show Ax g m_BM_path 0 0 (ZI g Q) SH σ 0 0 0 [(0, .ref (gB g + 151)), (1, .int x1)] []
  refine a_aload_n (pc := 0) 0 rfl rfl d_BM_path_0 ?_
  refine a_callV (pc := 1) (M' := m_BM_isBox) (As := []) (st := []) (mc' := 0) (ms' := 0) lk_BM_391 rfl sx_151 rfl (by decide) (by decide) rfl (Nat.le_of_ble_eq_true rfl) (Nat.le_refl 0) (Nat.le_refl 0) d_BM_path_1 h ?_
  rintro _ _ s1 ⟨r2, rfl, rfl, h⟩ -
  show Ax g m_BM_path 0 0 (ZI g Q) SH s1 0 0 4 [(0, .ref (gB g + 151)), (1, .int x1)] [.int r2]
  refine a_if_eq (pc := 4) 11 (by decide) d_BM_path_4 ⟨fun c0 => ?_, fun c0 => ?_⟩
  · replace h := h.1 c0
    refine a_iconst (pc := 11) (-1 : Int32) (by decide) d_BM_path_11 ?_
    exact b_iret (pc := 12) rfl d_BM_path_12 h
  · replace h := h.2 c0
    refine a_iload_n (pc := 7) 1 rfl rfl d_BM_path_7 ?_
    refine a_if_ge (pc := 8) 13 (by decide) d_BM_path_8 ⟨fun c0 => ?_, fun c0 => ?_⟩
    · replace h := h.1 c0
      refine a_aload_n (pc := 13) 0 rfl rfl d_BM_path_13 ?_
      refine a_callV (pc := 14) (M' := m_BM_finds) (As := []) (st := []) (mc' := 0) (ms' := 0) lk_BM_440 rfl sx_151 rfl (by decide) (by decide) rfl (Nat.le_of_ble_eq_true rfl) (Nat.le_refl 0) (Nat.le_refl 0) d_BM_path_14 h ?_
      rintro _ _ s3 ⟨r4, rfl, rfl, h⟩ -
      show Ax g m_BM_path 0 0 (ZI g Q) SH s3 0 0 17 [(0, .ref (gB g + 151)), (1, .int x1)] [.int r4]
      refine a_istore_n (pc := 17) (lv' := [(2, .int r4), (0, .ref (gB g + 151)), (1, .int x1)]) rfl (Nat.le_of_ble_eq_true rfl) rfl d_BM_path_17 ?_
      refine a_iload_n (pc := 18) 0 rfl rfl d_BM_path_18 ?_
      refine a_if_ge (pc := 19) 24 (by decide) d_BM_path_19 ⟨fun c0 => ?_, fun c0 => ?_⟩
      · replace h := h.1 c0
        refine a_iload_n (pc := 24) 2 rfl rfl d_BM_path_24 ?_
        refine a_iload_n (pc := 25) 0 rfl rfl d_BM_path_25 ?_
        refine a_icmp_lt (pc := 26) 32 (by decide) d_BM_path_26 ⟨fun c0 => ?_, fun c0 => ?_⟩
        · replace h := h.1 c0
          refine a_aload_n (pc := 32) 1 rfl rfl d_BM_path_32 ?_
          refine a_getI (pc := 33) fg_BM_431 sx_151 rfl d_BM_path_33 ?_
          refine a_nmi (pc := 36) (fun u5 hu5 => ?_)
          replace h := h u5 hu5
          refine a_istore_n (pc := 36) (lv' := [(3, .int u5), (2, .int r4), (0, .ref (gB g + 151)), (1, .int x1)]) rfl (Nat.le_of_ble_eq_true rfl) rfl d_BM_path_36 ?_
          refine a_iload_n (pc := 37) 1 rfl rfl d_BM_path_37 ?_
          refine a_iconst (pc := 38) (1 : Int32) (by decide) d_BM_path_38 ?_
          refine a_isub (pc := 39) d_BM_path_39 ?_
          refine a_nmi (pc := 40) (fun u6 hu6 => ?_)
          replace h := h u6 hu6
          refine a_istore (pc := 40) (lv' := [(4, .int u6), (3, .int u5), (2, .int r4), (0, .ref (gB g + 151)), (1, .int x1)]) (Nat.le_of_ble_eq_true rfl) rfl d_BM_path_40 ?_
          refine a_sub (pc := 42) [3, 4, 1, 0] rfl ?_
          exact h
        · replace h := h.2 c0
          refine a_bipush (pc := 29) (-2 : Int32) (by decide) d_BM_path_29 ?_
          exact b_iret (pc := 31) rfl d_BM_path_31 h
      · replace h := h.2 c0
        refine a_iload_n (pc := 22) 0 rfl rfl d_BM_path_22 ?_
        exact b_iret (pc := 23) rfl d_BM_path_23 h
    · replace h := h.2 c0
      refine a_iconst (pc := 11) (-1 : Int32) (by decide) d_BM_path_11 ?_
      exact b_iret (pc := 12) rfl d_BM_path_12 h
theorem sg_BM_path_42 {g : Gx} {Q : Int32 → St → Prop} {σ : St} {x1 : Int32} {x3 : Int32} {x4 : Int32}
    (h : (x4 ≤ x1 → vp_in x3 4001 ∧ (Q (ai σ 178 (x3).toNatClampNeg) σ)) ∧ (¬ x4 ≤ x1 → vp_in x3 4001 ∧ (∀ u1 : Int32, u1 = (ai σ 177 (x3).toNatClampNeg) → ∀ u2 : Int32, u2 = x4 + (-1 : Int32) → S_BM_path_42 g Q σ x1 u1 u2))) : S_BM_path_42 g Q σ x1 x3 x4 := by
  show Ax g m_BM_path 0 0 (ZI g Q) SH σ 0 0 42 [(0, .ref (gB g + 151)), (1, .int x1), (3, .int x3), (4, .int x4)] []
  refine a_iload (pc := 42) 3 rfl d_BM_path_42 ?_
  refine a_iload_n (pc := 44) 1 rfl rfl d_BM_path_44 ?_
  refine a_icmp_le (pc := 45) 61 (by decide) d_BM_path_45 ⟨fun c0 => ?_, fun c0 => ?_⟩
  · replace h := h.1 c0
    refine a_aload_n (pc := 61) 0 rfl rfl d_BM_path_61 ?_
    refine a_getR (pc := 62) fg_BM_95 sx_151 rfl d_BM_path_62 ?_
    refine a_iload_n (pc := 65) 2 rfl rfl d_BM_path_65 ?_
    obtain ⟨hx, h⟩ := h
    refine a_iald (pc := 66) sx_178 hx d_BM_path_66 ?_
    exact b_iret (pc := 67) rfl d_BM_path_67 h
  · replace h := h.2 c0
    refine a_aload_n (pc := 48) 0 rfl rfl d_BM_path_48 ?_
    refine a_getR (pc := 49) fg_BM_92 sx_151 rfl d_BM_path_49 ?_
    refine a_iload_n (pc := 52) 2 rfl rfl d_BM_path_52 ?_
    obtain ⟨hx, h⟩ := h
    refine a_iald (pc := 53) sx_177 hx d_BM_path_53 ?_
    refine a_nmi (pc := 54) (fun u1 hu1 => ?_)
    replace h := h u1 hu1
    refine a_istore_n (pc := 54) (lv' := [(3, .int u1), (0, .ref (gB g + 151)), (1, .int x1), (4, .int x4)]) rfl (Nat.le_of_ble_eq_true rfl) rfl d_BM_path_54 ?_
    obtain ⟨u2, hu2⟩ : ∃ y : Int32, y = x4 + (-1 : Int32) := ⟨_, rfl⟩
    replace h := h u2 hu2
    refine a_iinc (pc := 55) (v := u2) (lv' := [(4, .int u2), (3, .int u1), (0, .ref (gB g + 151)), (1, .int x1)]) 3 rfl (by rw [hu2]; rfl) (Nat.le_of_ble_eq_true rfl) rfl d_BM_path_55 ?_
    refine a_goto (pc := 58) 42 (by decide) d_BM_path_58 ?_
    refine a_sub (pc := 42) [2, 3, 1, 0] rfl ?_
    exact h
theorem ko_BM_path {g : Gx}  {x1 : Int32} {σ : St} {Q : Int32 → St → Prop} (h : S_BM_path_0 g Q σ x1) : K_BM_path g x1 σ Q := KI.of (show plainName "BallBoxModel" = true by decide) (Nat.le_of_ble_eq_true rfl) h
theorem d_BM_isBeginning_0 : decode c_BM_isBeginning 0 = .ok (.iload_n 1, 1) := by decide +kernel
theorem d_BM_isBeginning_1 : decode c_BM_isBeginning 1 = .ok (.istore_n 3, 1) := by decide +kernel
theorem d_BM_isBeginning_2 : decode c_BM_isBeginning 2 = .ok (.iconst 1, 1) := by decide +kernel
theorem d_BM_isBeginning_3 : decode c_BM_isBeginning 3 = .ok (.istore 4, 2) := by decide +kernel
theorem d_BM_isBeginning_5 : decode c_BM_isBeginning 5 = .ok (.iload_n 2, 1) := by decide +kernel
theorem d_BM_isBeginning_6 : decode c_BM_isBeginning 6 = .ok (.iconst 1, 1) := by decide +kernel
theorem d_BM_isBeginning_7 : decode c_BM_isBeginning 7 = .ok (.isub, 1) := by decide +kernel
theorem d_BM_isBeginning_8 : decode c_BM_isBeginning 8 = .ok (.istore 5, 2) := by decide +kernel
theorem d_BM_isBeginning_10 : decode c_BM_isBeginning 10 = .ok (.iload 5, 2) := by decide +kernel
theorem d_BM_isBeginning_12 : decode c_BM_isBeginning 12 = .ok (.ifCond .lt 113, 3) := by decide +kernel
theorem d_BM_isBeginning_15 : decode c_BM_isBeginning 15 = .ok (.aload_n 0, 1) := by decide +kernel
theorem d_BM_isBeginning_16 : decode c_BM_isBeginning 16 = .ok (.getfield 16, 3) := by decide +kernel
theorem d_BM_isBeginning_19 : decode c_BM_isBeginning 19 = .ok (.iload 5, 2) := by decide +kernel
theorem d_BM_isBeginning_21 : decode c_BM_isBeginning 21 = .ok (.iload_n 3, 1) := by decide +kernel
theorem d_BM_isBeginning_22 : decode c_BM_isBeginning 22 = .ok (.bipush 36, 2) := by decide +kernel
theorem d_BM_isBeginning_24 : decode c_BM_isBeginning 24 = .ok (.irem, 1) := by decide +kernel
theorem d_BM_isBeginning_25 : decode c_BM_isBeginning 25 = .ok (.iastore, 1) := by decide +kernel
theorem d_BM_isBeginning_26 : decode c_BM_isBeginning 26 = .ok (.iload_n 3, 1) := by decide +kernel
theorem d_BM_isBeginning_27 : decode c_BM_isBeginning 27 = .ok (.bipush 36, 2) := by decide +kernel
theorem d_BM_isBeginning_29 : decode c_BM_isBeginning 29 = .ok (.idiv, 1) := by decide +kernel
theorem d_BM_isBeginning_30 : decode c_BM_isBeginning 30 = .ok (.istore_n 3, 1) := by decide +kernel
theorem d_BM_isBeginning_31 : decode c_BM_isBeginning 31 = .ok (.iload 4, 2) := by decide +kernel
theorem d_BM_isBeginning_33 : decode c_BM_isBeginning 33 = .ok (.ifCond .eq 36, 3) := by decide +kernel
theorem d_BM_isBeginning_36 : decode c_BM_isBeginning 36 = .ok (.aload_n 0, 1) := by decide +kernel
theorem d_BM_isBeginning_37 : decode c_BM_isBeginning 37 = .ok (.aload_n 0, 1) := by decide +kernel
theorem d_BM_isBeginning_38 : decode c_BM_isBeginning 38 = .ok (.getfield 16, 3) := by decide +kernel
theorem d_BM_isBeginning_41 : decode c_BM_isBeginning 41 = .ok (.iload 5, 2) := by decide +kernel
theorem d_BM_isBeginning_43 : decode c_BM_isBeginning 43 = .ok (.iaload, 1) := by decide +kernel
theorem d_BM_isBeginning_44 : decode c_BM_isBeginning 44 = .ok (.invokevirtual 170, 3) := by decide +kernel
theorem d_BM_isBeginning_47 : decode c_BM_isBeginning 47 = .ok (.ifCond .eq 22, 3) := by decide +kernel
theorem d_BM_isBeginning_50 : decode c_BM_isBeginning 50 = .ok (.aload_n 0, 1) := by decide +kernel
theorem d_BM_isBeginning_51 : decode c_BM_isBeginning 51 = .ok (.getfield 13, 3) := by decide +kernel
theorem d_BM_isBeginning_54 : decode c_BM_isBeginning 54 = .ok (.aload_n 0, 1) := by decide +kernel
theorem d_BM_isBeginning_55 : decode c_BM_isBeginning 55 = .ok (.getfield 16, 3) := by decide +kernel
theorem d_BM_isBeginning_58 : decode c_BM_isBeginning 58 = .ok (.iload 5, 2) := by decide +kernel
theorem d_BM_isBeginning_60 : decode c_BM_isBeginning 60 = .ok (.iaload, 1) := by decide +kernel
theorem d_BM_isBeginning_61 : decode c_BM_isBeginning 61 = .ok (.iaload, 1) := by decide +kernel
theorem d_BM_isBeginning_62 : decode c_BM_isBeginning 62 = .ok (.ifCond .ne 7, 3) := by decide +kernel
theorem d_BM_isBeginning_65 : decode c_BM_isBeginning 65 = .ok (.iconst 1, 1) := by decide +kernel
theorem d_BM_isBeginning_66 : decode c_BM_isBeginning 66 = .ok (.goto 4, 3) := by decide +kernel
theorem d_BM_isBeginning_69 : decode c_BM_isBeginning 69 = .ok (.iconst 0, 1) := by decide +kernel
theorem d_BM_isBeginning_70 : decode c_BM_isBeginning 70 = .ok (.istore 4, 2) := by decide +kernel
theorem d_BM_isBeginning_72 : decode c_BM_isBeginning 72 = .ok (.iload 5, 2) := by decide +kernel
theorem d_BM_isBeginning_74 : decode c_BM_isBeginning 74 = .ok (.iconst 1, 1) := by decide +kernel
theorem d_BM_isBeginning_75 : decode c_BM_isBeginning 75 = .ok (.iadd, 1) := by decide +kernel
theorem d_BM_isBeginning_76 : decode c_BM_isBeginning 76 = .ok (.istore 6, 2) := by decide +kernel
theorem d_BM_isBeginning_78 : decode c_BM_isBeginning 78 = .ok (.iload 6, 2) := by decide +kernel
theorem d_BM_isBeginning_80 : decode c_BM_isBeginning 80 = .ok (.iload_n 2, 1) := by decide +kernel
theorem d_BM_isBeginning_81 : decode c_BM_isBeginning 81 = .ok (.if_icmp .ge 38, 3) := by decide +kernel
theorem d_BM_isBeginning_84 : decode c_BM_isBeginning 84 = .ok (.iload 4, 2) := by decide +kernel
theorem d_BM_isBeginning_86 : decode c_BM_isBeginning 86 = .ok (.ifCond .eq 24, 3) := by decide +kernel
theorem d_BM_isBeginning_89 : decode c_BM_isBeginning 89 = .ok (.aload_n 0, 1) := by decide +kernel
theorem d_BM_isBeginning_90 : decode c_BM_isBeginning 90 = .ok (.getfield 16, 3) := by decide +kernel
theorem d_BM_isBeginning_93 : decode c_BM_isBeginning 93 = .ok (.iload 6, 2) := by decide +kernel
theorem d_BM_isBeginning_95 : decode c_BM_isBeginning 95 = .ok (.iaload, 1) := by decide +kernel
theorem d_BM_isBeginning_96 : decode c_BM_isBeginning 96 = .ok (.aload_n 0, 1) := by decide +kernel
theorem d_BM_isBeginning_97 : decode c_BM_isBeginning 97 = .ok (.getfield 16, 3) := by decide +kernel
theorem d_BM_isBeginning_100 : decode c_BM_isBeginning 100 = .ok (.iload 5, 2) := by decide +kernel
theorem d_BM_isBeginning_102 : decode c_BM_isBeginning 102 = .ok (.iaload, 1) := by decide +kernel
theorem d_BM_isBeginning_103 : decode c_BM_isBeginning 103 = .ok (.if_icmp .eq 7, 3) := by decide +kernel
theorem d_BM_isBeginning_106 : decode c_BM_isBeginning 106 = .ok (.iconst 1, 1) := by decide +kernel
theorem d_BM_isBeginning_107 : decode c_BM_isBeginning 107 = .ok (.goto 4, 3) := by decide +kernel
theorem d_BM_isBeginning_110 : decode c_BM_isBeginning 110 = .ok (.iconst 0, 1) := by decide +kernel
theorem d_BM_isBeginning_111 : decode c_BM_isBeginning 111 = .ok (.istore 4, 2) := by decide +kernel
theorem d_BM_isBeginning_113 : decode c_BM_isBeginning 113 = .ok (.iinc 6 1, 3) := by decide +kernel
theorem d_BM_isBeginning_116 : decode c_BM_isBeginning 116 = .ok (.goto (-38), 3) := by decide +kernel
theorem d_BM_isBeginning_119 : decode c_BM_isBeginning 119 = .ok (.iinc 5 (-1), 3) := by decide +kernel
theorem d_BM_isBeginning_122 : decode c_BM_isBeginning 122 = .ok (.goto (-112), 3) := by decide +kernel
theorem d_BM_isBeginning_125 : decode c_BM_isBeginning 125 = .ok (.iload 4, 2) := by decide +kernel
theorem d_BM_isBeginning_127 : decode c_BM_isBeginning 127 = .ok (.ireturn, 1) := by decide +kernel
def S_BM_isBeginning_0 (g : Gx) (Q : Int32 → St → Prop) (σ : St) (x1 : Int32) (x2 : Int32) : Prop := Ax g m_BM_isBeginning 0 0 (ZI g Q) SH σ 0 0 0 [(0, .ref (gB g + 151)), (1, .int x1), (2, .int x2)] []
def S_BM_isBeginning_10 (g : Gx) (Q : Int32 → St → Prop) (σ : St) (x2 : Int32) (x3 : Int32) (x4 : Int32) (x5 : Int32) : Prop := Ax g m_BM_isBeginning 0 0 (ZI g Q) SH σ 0 0 10 [(0, .ref (gB g + 151)), (2, .int x2), (3, .int x3), (4, .int x4), (5, .int x5)] []
def S_BM_isBeginning_78 (g : Gx) (Q : Int32 → St → Prop) (σ : St) (x2 : Int32) (x3 : Int32) (x4 : Int32) (x5 : Int32) (x6 : Int32) : Prop := Ax g m_BM_isBeginning 0 0 (ZI g Q) SH σ 0 0 78 [(0, .ref (gB g + 151)), (2, .int x2), (3, .int x3), (4, .int x4), (5, .int x5), (6, .int x6)] []
theorem sg_BM_isBeginning_0 {g : Gx} {Q : Int32 → St → Prop} {σ : St} {x1 : Int32} {x2 : Int32}
    (h : ∀ u1 : Int32, u1 = (x2 - (1 : Int32)) → S_BM_isBeginning_10 g Q σ x2 x1 (1 : Int32) u1) : S_BM_isBeginning_0 g Q σ x1 x2 := by
  show Ax g m_BM_isBeginning 0 0 (ZI g Q) SH σ 0 0 0 [(0, .ref (gB g + 151)), (1, .int x1), (2, .int x2)] []
  refine a_iload_n (pc := 0) 1 rfl rfl d_BM_isBeginning_0 ?_
  refine a_istore_n (pc := 1) (lv' := [(3, .int x1), (0, .ref (gB g + 151)), (1, .int x1), (2, .int x2)]) rfl (Nat.le_of_ble_eq_true rfl) rfl d_BM_isBeginning_1 ?_
  refine a_iconst (pc := 2) (1 : Int32) (by decide) d_BM_isBeginning_2 ?_
  refine a_istore (pc := 3) (lv' := [(4, .int (1 : Int32)), (3, .int x1), (0, .ref (gB g + 151)), (1, .int x1), (2, .int x2)]) (Nat.le_of_ble_eq_true rfl) rfl d_BM_isBeginning_3 ?_
  refine a_iload_n (pc := 5) 4 rfl rfl d_BM_isBeginning_5 ?_
  refine a_iconst (pc := 6) (1 : Int32) (by decide) d_BM_isBeginning_6 ?_
  refine a_isub (pc := 7) d_BM_isBeginning_7 ?_
  refine a_nmi (pc := 8) (fun u1 hu1 => ?_)
  replace h := h u1 hu1
  refine a_istore (pc := 8) (lv' := [(5, .int u1), (4, .int (1 : Int32)), (3, .int x1), (0, .ref (gB g + 151)), (1, .int x1), (2, .int x2)]) (Nat.le_of_ble_eq_true rfl) rfl d_BM_isBeginning_8 ?_
  refine a_sub (pc := 10) [3, 5, 2, 1, 0] rfl ?_
  exact h
theorem sg_BM_isBeginning_10 {g : Gx} {Q : Int32 → St → Prop} {σ : St} {x2 : Int32} {x3 : Int32} {x4 : Int32} {x5 : Int32}
    (h : (x5 < 0 → (x4 = 0 ∨ x4 = 1) ∧ Q x4 σ) ∧ (¬ x5 < 0 → vp_in x5 3 ∧ (∀ s1 : St, s1 = sai σ 154 (x5).toNatClampNeg (x3 - x3 / (36 : Int32) * (36 : Int32)) → ∀ u2 : Int32, u2 = (x3 / (36 : Int32)) → (x4 = 0 → ∀ u3 : Int32, u3 = (x5 + (1 : Int32)) → S_BM_isBeginning_78 g Q s1 x2 u2 (0 : Int32) x5 u3) ∧ (¬ x4 = 0 → vp_in x5 3 ∧ (K_BM_isThere g (ai s1 154 (x5).toNatClampNeg) s1 (fun (r5 : Int32) (s4 : St) => (r5 = 0 → ∀ u6 : Int32, u6 = (x5 + (1 : Int32)) → S_BM_isBeginning_78 g Q s4 x2 u2 (0 : Int32) x5 u6) ∧ (¬ r5 = 0 → vp_in x5 3 ∧ (vp_in (ai s4 154 (x5).toNatClampNeg) 36 ∧ ((¬ (ai s4 153 ((ai s4 154 (x5).toNatClampNeg)).toNatClampNeg) = 0 → ∀ u7 : Int32, u7 = (x5 + (1 : Int32)) → S_BM_isBeginning_78 g Q s4 x2 u2 (0 : Int32) x5 u7) ∧ ((ai s4 153 ((ai s4 154 (x5).toNatClampNeg)).toNatClampNeg) = 0 → ∀ u8 : Int32, u8 = (x5 + (1 : Int32)) → S_BM_isBeginning_78 g Q s4 x2 u2 (1 : Int32) x5 u8)))))))))) : S_BM_isBeginning_10 g Q σ x2 x3 x4 x5 := by
  show Ax g m_BM_isBeginning 0 0 (ZI g Q) SH σ 0 0 10 [(0, .ref (gB g + 151)), (2, .int x2), (3, .int x3), (4, .int x4), (5, .int x5)] []
  refine a_iload (pc := 10) 4 rfl d_BM_isBeginning_10 ?_
  refine a_if_lt (pc := 12) 125 (by decide) d_BM_isBeginning_12 ⟨fun c0 => ?_, fun c0 => ?_⟩
  · replace h := h.1 c0
    refine a_iload (pc := 125) 3 rfl d_BM_isBeginning_125 ?_
    exact b_zret (pc := 127) rfl h.1 d_BM_isBeginning_127 h.2
  · replace h := h.2 c0
    refine a_aload_n (pc := 15) 0 rfl rfl d_BM_isBeginning_15 ?_
    refine a_getR (pc := 16) fg_BM_16 sx_151 rfl d_BM_isBeginning_16 ?_
    refine a_iload (pc := 19) 4 rfl d_BM_isBeginning_19 ?_
    refine a_iload_n (pc := 21) 2 rfl rfl d_BM_isBeginning_21 ?_
    refine a_bipush (pc := 22) (36 : Int32) (by decide) d_BM_isBeginning_22 ?_
    refine a_irem (pc := 24) (by decide) d_BM_isBeginning_24 ?_
    obtain ⟨hx, h⟩ := h
    refine a_iast (pc := 25) sx_154 hx d_BM_isBeginning_25 ?_
    refine a_nms (fun s1 hs1 => ?_)
    replace h := h s1 hs1
    refine a_iload_n (pc := 26) 2 rfl rfl d_BM_isBeginning_26 ?_
    refine a_bipush (pc := 27) (36 : Int32) (by decide) d_BM_isBeginning_27 ?_
    refine a_idiv (pc := 29) (by decide) d_BM_isBeginning_29 ?_
    refine a_nmi (pc := 30) (fun u2 hu2 => ?_)
    replace h := h u2 hu2
    refine a_istore_n (pc := 30) (lv' := [(3, .int u2), (0, .ref (gB g + 151)), (2, .int x2), (4, .int x4), (5, .int x5)]) rfl (Nat.le_of_ble_eq_true rfl) rfl d_BM_isBeginning_30 ?_
    refine a_iload (pc := 31) 3 rfl d_BM_isBeginning_31 ?_
    refine a_if_eq (pc := 33) 69 (by decide) d_BM_isBeginning_33 ⟨fun c0 => ?_, fun c0 => ?_⟩
    · replace h := h.1 c0
      refine a_iconst (pc := 69) (0 : Int32) (by decide) d_BM_isBeginning_69 ?_
      refine a_istore (pc := 70) (lv' := [(4, .int (0 : Int32)), (3, .int u2), (0, .ref (gB g + 151)), (2, .int x2), (5, .int x5)]) (Nat.le_of_ble_eq_true rfl) rfl d_BM_isBeginning_70 ?_
      refine a_iload (pc := 72) 4 rfl d_BM_isBeginning_72 ?_
      refine a_iconst (pc := 74) (1 : Int32) (by decide) d_BM_isBeginning_74 ?_
      refine a_iadd (pc := 75) d_BM_isBeginning_75 ?_
      refine a_nmi (pc := 76) (fun u3 hu3 => ?_)
      replace h := h u3 hu3
      refine a_istore (pc := 76) (lv' := [(6, .int u3), (4, .int (0 : Int32)), (3, .int u2), (0, .ref (gB g + 151)), (2, .int x2), (5, .int x5)]) (Nat.le_of_ble_eq_true rfl) rfl d_BM_isBeginning_76 ?_
      refine a_sub (pc := 78) [3, 4, 2, 1, 5, 0] rfl ?_
      exact h
    · replace h := h.2 c0
      refine a_aload_n (pc := 36) 1 rfl rfl d_BM_isBeginning_36 ?_
      refine a_aload_n (pc := 37) 1 rfl rfl d_BM_isBeginning_37 ?_
      refine a_getR (pc := 38) fg_BM_16 sx_151 rfl d_BM_isBeginning_38 ?_
      refine a_iload (pc := 41) 4 rfl d_BM_isBeginning_41 ?_
      obtain ⟨hx, h⟩ := h
      refine a_iald (pc := 43) sx_154 hx d_BM_isBeginning_43 ?_
      refine a_callV (pc := 44) (M' := m_BM_isThere) (As := [.int (ai s1 154 (x5).toNatClampNeg)]) (st := []) (mc' := 0) (ms' := 0) lk_BM_170 rfl sx_151 rfl (by decide) (by decide) rfl (Nat.le_of_ble_eq_true rfl) (Nat.le_refl 0) (Nat.le_refl 0) d_BM_isBeginning_44 h ?_
      rintro _ _ s4 ⟨r5, rfl, rfl, h⟩ -
      show Ax g m_BM_isBeginning 0 0 (ZI g Q) SH s4 0 0 47 [(3, .int u2), (0, .ref (gB g + 151)), (2, .int x2), (4, .int x4), (5, .int x5)] [.int r5]
      refine a_if_eq (pc := 47) 69 (by decide) d_BM_isBeginning_47 ⟨fun c0 => ?_, fun c0 => ?_⟩
      · replace h := h.1 c0
        refine a_iconst (pc := 69) (0 : Int32) (by decide) d_BM_isBeginning_69 ?_
        refine a_istore (pc := 70) (lv' := [(4, .int (0 : Int32)), (3, .int u2), (0, .ref (gB g + 151)), (2, .int x2), (5, .int x5)]) (Nat.le_of_ble_eq_true rfl) rfl d_BM_isBeginning_70 ?_
        refine a_iload (pc := 72) 4 rfl d_BM_isBeginning_72 ?_
        refine a_iconst (pc := 74) (1 : Int32) (by decide) d_BM_isBeginning_74 ?_
        refine a_iadd (pc := 75) d_BM_isBeginning_75 ?_
        refine a_nmi (pc := 76) (fun u6 hu6 => ?_)
        replace h := h u6 hu6
        refine a_istore (pc := 76) (lv' := [(6, .int u6), (4, .int (0 : Int32)), (3, .int u2), (0, .ref (gB g + 151)), (2, .int x2), (5, .int x5)]) (Nat.le_of_ble_eq_true rfl) rfl d_BM_isBeginning_76 ?_
        refine a_sub (pc := 78) [3, 4, 2, 1, 5, 0] rfl ?_
        exact h
      · replace h := h.2 c0
        refine a_aload_n (pc := 50) 1 rfl rfl d_BM_isBeginning_50 ?_
        refine a_getR (pc := 51) fg_BM_13 sx_151 rfl d_BM_isBeginning_51 ?_
        refine a_aload_n (pc := 54) 1 rfl rfl d_BM_isBeginning_54 ?_
        refine a_getR (pc := 55) fg_BM_16 sx_151 rfl d_BM_isBeginning_55 ?_
        refine a_iload (pc := 58) 4 rfl d_BM_isBeginning_58 ?_
        obtain ⟨hx, h⟩ := h
        refine a_iald (pc := 60) sx_154 hx d_BM_isBeginning_60 ?_
        obtain ⟨hx, h⟩ := h
        refine a_iald (pc := 61) sx_153 hx d_BM_isBeginning_61 ?_
        refine a_if_ne (pc := 62) 69 (by decide) d_BM_isBeginning_62 ⟨fun c0 => ?_, fun c0 => ?_⟩
        · replace h := h.1 c0
          refine a_iconst (pc := 69) (0 : Int32) (by decide) d_BM_isBeginning_69 ?_
          refine a_istore (pc := 70) (lv' := [(4, .int (0 : Int32)), (3, .int u2), (0, .ref (gB g + 151)), (2, .int x2), (5, .int x5)]) (Nat.le_of_ble_eq_true rfl) rfl d_BM_isBeginning_70 ?_
          refine a_iload (pc := 72) 4 rfl d_BM_isBeginning_72 ?_
          refine a_iconst (pc := 74) (1 : Int32) (by decide) d_BM_isBeginning_74 ?_
          refine a_iadd (pc := 75) d_BM_isBeginning_75 ?_
          refine a_nmi (pc := 76) (fun u7 hu7 => ?_)
          replace h := h u7 hu7
          refine a_istore (pc := 76) (lv' := [(6, .int u7), (4, .int (0 : Int32)), (3, .int u2), (0, .ref (gB g + 151)), (2, .int x2), (5, .int x5)]) (Nat.le_of_ble_eq_true rfl) rfl d_BM_isBeginning_76 ?_
          refine a_sub (pc := 78) [3, 4, 2, 1, 5, 0] rfl ?_
          exact h
        · replace h := h.2 c0
          refine a_iconst (pc := 65) (1 : Int32) (by decide) d_BM_isBeginning_65 ?_
          refine a_goto (pc := 66) 70 (by decide) d_BM_isBeginning_66 ?_
          refine a_istore (pc := 70) (lv' := [(4, .int (1 : Int32)), (3, .int u2), (0, .ref (gB g + 151)), (2, .int x2), (5, .int x5)]) (Nat.le_of_ble_eq_true rfl) rfl d_BM_isBeginning_70 ?_
          refine a_iload (pc := 72) 4 rfl d_BM_isBeginning_72 ?_
          refine a_iconst (pc := 74) (1 : Int32) (by decide) d_BM_isBeginning_74 ?_
          refine a_iadd (pc := 75) d_BM_isBeginning_75 ?_
          refine a_nmi (pc := 76) (fun u8 hu8 => ?_)
          replace h := h u8 hu8
          refine a_istore (pc := 76) (lv' := [(6, .int u8), (4, .int (1 : Int32)), (3, .int u2), (0, .ref (gB g + 151)), (2, .int x2), (5, .int x5)]) (Nat.le_of_ble_eq_true rfl) rfl d_BM_isBeginning_76 ?_
          refine a_sub (pc := 78) [3, 4, 2, 1, 5, 0] rfl ?_
          exact h
theorem sg_BM_isBeginning_78 {g : Gx} {Q : Int32 → St → Prop} {σ : St} {x2 : Int32} {x3 : Int32} {x4 : Int32} {x5 : Int32} {x6 : Int32}
    (h : (x2 ≤ x6 → ∀ u1 : Int32, u1 = x5 + (-1 : Int32) → S_BM_isBeginning_10 g Q σ x2 x3 x4 u1) ∧ (¬ x2 ≤ x6 → (x4 = 0 → ∀ u2 : Int32, u2 = x6 + (1 : Int32) → S_BM_isBeginning_78 g Q σ x2 x3 (0 : Int32) x5 u2) ∧ (¬ x4 = 0 → vp_in x6 3 ∧ (vp_in x5 3 ∧ (((ai σ 154 (x6).toNatClampNeg) = (ai σ 154 (x5).toNatClampNeg) → ∀ u3 : Int32, u3 = x6 + (1 : Int32) → S_BM_isBeginning_78 g Q σ x2 x3 (0 : Int32) x5 u3) ∧ (¬ (ai σ 154 (x6).toNatClampNeg) = (ai σ 154 (x5).toNatClampNeg) → ∀ u4 : Int32, u4 = x6 + (1 : Int32) → S_BM_isBeginning_78 g Q σ x2 x3 (1 : Int32) x5 u4)))))) : S_BM_isBeginning_78 g Q σ x2 x3 x4 x5 x6 := by
  show Ax g m_BM_isBeginning 0 0 (ZI g Q) SH σ 0 0 78 [(0, .ref (gB g + 151)), (2, .int x2), (3, .int x3), (4, .int x4), (5, .int x5), (6, .int x6)] []
  refine a_iload (pc := 78) 5 rfl d_BM_isBeginning_78 ?_
  refine a_iload_n (pc := 80) 1 rfl rfl d_BM_isBeginning_80 ?_
  refine a_icmp_ge (pc := 81) 119 (by decide) d_BM_isBeginning_81 ⟨fun c0 => ?_, fun c0 => ?_⟩
  · replace h := h.1 c0
    obtain ⟨u1, hu1⟩ : ∃ y : Int32, y = x5 + (-1 : Int32) := ⟨_, rfl⟩
    replace h := h u1 hu1
    refine a_iinc (pc := 119) (v := u1) (lv' := [(5, .int u1), (0, .ref (gB g + 151)), (2, .int x2), (3, .int x3), (4, .int x4), (6, .int x6)]) 4 rfl (by rw [hu1]; rfl) (Nat.le_of_ble_eq_true rfl) rfl d_BM_isBeginning_119 ?_
    refine a_goto (pc := 122) 10 (by decide) d_BM_isBeginning_122 ?_
    refine a_sub (pc := 10) [1, 2, 3, 4, 0] rfl ?_
    exact h
  · replace h := h.2 c0
    refine a_iload (pc := 84) 3 rfl d_BM_isBeginning_84 ?_
    refine a_if_eq (pc := 86) 110 (by decide) d_BM_isBeginning_86 ⟨fun c0 => ?_, fun c0 => ?_⟩
    · replace h := h.1 c0
      refine a_iconst (pc := 110) (0 : Int32) (by decide) d_BM_isBeginning_110 ?_
      refine a_istore (pc := 111) (lv' := [(4, .int (0 : Int32)), (0, .ref (gB g + 151)), (2, .int x2), (3, .int x3), (5, .int x5), (6, .int x6)]) (Nat.le_of_ble_eq_true rfl) rfl d_BM_isBeginning_111 ?_
      obtain ⟨u2, hu2⟩ : ∃ y : Int32, y = x6 + (1 : Int32) := ⟨_, rfl⟩
      replace h := h u2 hu2
      refine a_iinc (pc := 113) (v := u2) (lv' := [(6, .int u2), (4, .int (0 : Int32)), (0, .ref (gB g + 151)), (2, .int x2), (3, .int x3), (5, .int x5)]) 5 rfl (by rw [hu2]; rfl) (Nat.le_of_ble_eq_true rfl) rfl d_BM_isBeginning_113 ?_
      refine a_goto (pc := 116) 78 (by decide) d_BM_isBeginning_116 ?_
      refine a_sub (pc := 78) [2, 3, 4, 1, 5, 0] rfl ?_
      exact h
    · replace h := h.2 c0
      refine a_aload_n (pc := 89) 0 rfl rfl d_BM_isBeginning_89 ?_
      refine a_getR (pc := 90) fg_BM_16 sx_151 rfl d_BM_isBeginning_90 ?_
      refine a_iload (pc := 93) 5 rfl d_BM_isBeginning_93 ?_
      obtain ⟨hx, h⟩ := h
      refine a_iald (pc := 95) sx_154 hx d_BM_isBeginning_95 ?_
      refine a_aload_n (pc := 96) 0 rfl rfl d_BM_isBeginning_96 ?_
      refine a_getR (pc := 97) fg_BM_16 sx_151 rfl d_BM_isBeginning_97 ?_
      refine a_iload (pc := 100) 4 rfl d_BM_isBeginning_100 ?_
      obtain ⟨hx, h⟩ := h
      refine a_iald (pc := 102) sx_154 hx d_BM_isBeginning_102 ?_
      refine a_icmp_eq (pc := 103) 110 (by decide) d_BM_isBeginning_103 ⟨fun c0 => ?_, fun c0 => ?_⟩
      · replace h := h.1 c0
        refine a_iconst (pc := 110) (0 : Int32) (by decide) d_BM_isBeginning_110 ?_
        refine a_istore (pc := 111) (lv' := [(4, .int (0 : Int32)), (0, .ref (gB g + 151)), (2, .int x2), (3, .int x3), (5, .int x5), (6, .int x6)]) (Nat.le_of_ble_eq_true rfl) rfl d_BM_isBeginning_111 ?_
        obtain ⟨u3, hu3⟩ : ∃ y : Int32, y = x6 + (1 : Int32) := ⟨_, rfl⟩
        replace h := h u3 hu3
        refine a_iinc (pc := 113) (v := u3) (lv' := [(6, .int u3), (4, .int (0 : Int32)), (0, .ref (gB g + 151)), (2, .int x2), (3, .int x3), (5, .int x5)]) 5 rfl (by rw [hu3]; rfl) (Nat.le_of_ble_eq_true rfl) rfl d_BM_isBeginning_113 ?_
        refine a_goto (pc := 116) 78 (by decide) d_BM_isBeginning_116 ?_
        refine a_sub (pc := 78) [2, 3, 4, 1, 5, 0] rfl ?_
        exact h
      · replace h := h.2 c0
        refine a_iconst (pc := 106) (1 : Int32) (by decide) d_BM_isBeginning_106 ?_
        refine a_goto (pc := 107) 111 (by decide) d_BM_isBeginning_107 ?_
        refine a_istore (pc := 111) (lv' := [(4, .int (1 : Int32)), (0, .ref (gB g + 151)), (2, .int x2), (3, .int x3), (5, .int x5), (6, .int x6)]) (Nat.le_of_ble_eq_true rfl) rfl d_BM_isBeginning_111 ?_
        obtain ⟨u4, hu4⟩ : ∃ y : Int32, y = x6 + (1 : Int32) := ⟨_, rfl⟩
        replace h := h u4 hu4
        refine a_iinc (pc := 113) (v := u4) (lv' := [(6, .int u4), (4, .int (1 : Int32)), (0, .ref (gB g + 151)), (2, .int x2), (3, .int x3), (5, .int x5)]) 5 rfl (by rw [hu4]; rfl) (Nat.le_of_ble_eq_true rfl) rfl d_BM_isBeginning_113 ?_
        refine a_goto (pc := 116) 78 (by decide) d_BM_isBeginning_116 ?_
        refine a_sub (pc := 78) [2, 3, 4, 1, 5, 0] rfl ?_
        exact h
theorem ko_BM_isBeginning {g : Gx}  {x1 : Int32} {x2 : Int32} {σ : St} {Q : Int32 → St → Prop} (h : S_BM_isBeginning_0 g Q σ x1 x2) : K_BM_isBeginning g x1 x2 σ Q := KI.of (show plainName "BallBoxModel" = true by decide) (Nat.le_of_ble_eq_true rfl) h
theorem d_BM_codes_0 : decode c_BM_codes 0 = .ok (.iconst 1, 1) := by decide +kernel
theorem d_BM_codes_1 : decode c_BM_codes 1 = .ok (.istore_n 1, 1) := by decide +kernel
theorem d_BM_codes_2 : decode c_BM_codes 2 = .ok (.iconst 0, 1) := by decide +kernel
theorem d_BM_codes_3 : decode c_BM_codes 3 = .ok (.istore_n 2, 1) := by decide +kernel
theorem d_BM_codes_4 : decode c_BM_codes 4 = .ok (.iload_n 2, 1) := by decide +kernel
theorem d_BM_codes_5 : decode c_BM_codes 5 = .ok (.aload_n 0, 1) := by decide +kernel
theorem d_BM_codes_6 : decode c_BM_codes 6 = .ok (.getfield 9, 3) := by decide +kernel
theorem d_BM_codes_9 : decode c_BM_codes 9 = .ok (.iconst 2, 1) := by decide +kernel
theorem d_BM_codes_10 : decode c_BM_codes 10 = .ok (.iaload, 1) := by decide +kernel
theorem d_BM_codes_11 : decode c_BM_codes 11 = .ok (.if_icmp .ge 14, 3) := by decide +kernel
theorem d_BM_codes_14 : decode c_BM_codes 14 = .ok (.iload_n 1, 1) := by decide +kernel
theorem d_BM_codes_15 : decode c_BM_codes 15 = .ok (.bipush 36, 2) := by decide +kernel
theorem d_BM_codes_17 : decode c_BM_codes 17 = .ok (.imul, 1) := by decide +kernel
theorem d_BM_codes_18 : decode c_BM_codes 18 = .ok (.istore_n 1, 1) := by decide +kernel
theorem d_BM_codes_19 : decode c_BM_codes 19 = .ok (.iinc 2 1, 3) := by decide +kernel
theorem d_BM_codes_22 : decode c_BM_codes 22 = .ok (.goto (-18), 3) := by decide +kernel
theorem d_BM_codes_25 : decode c_BM_codes 25 = .ok (.iload_n 1, 1) := by decide +kernel
theorem d_BM_codes_26 : decode c_BM_codes 26 = .ok (.ireturn, 1) := by decide +kernel
def S_BM_codes_0 (g : Gx) (Q : Int32 → St → Prop) (σ : St) : Prop := Ax g m_BM_codes 0 0 (ZI g Q) SH σ 0 0 0 [(0, .ref (gB g + 151))] []
def S_BM_codes_4 (g : Gx) (Q : Int32 → St → Prop) (σ : St) (x1 : Int32) (x2 : Int32) : Prop := Ax g m_BM_codes 0 0 (ZI g Q) SH σ 0 0 4 [(0, .ref (gB g + 151)), (1, .int x1), (2, .int x2)] []
theorem sg_BM_codes_0 {g : Gx} {Q : Int32 → St → Prop} {σ : St}
    (h : S_BM_codes_4 g Q σ (1 : Int32) (0 : Int32)) : S_BM_codes_0 g Q σ := by
  show Ax g m_BM_codes 0 0 (ZI g Q) SH σ 0 0 0 [(0, .ref (gB g + 151))] []
  refine a_iconst (pc := 0) (1 : Int32) (by decide) d_BM_codes_0 ?_
  refine a_istore_n (pc := 1) (lv' := [(1, .int (1 : Int32)), (0, .ref (gB g + 151))]) rfl (Nat.le_of_ble_eq_true rfl) rfl d_BM_codes_1 ?_
  refine a_iconst (pc := 2) (0 : Int32) (by decide) d_BM_codes_2 ?_
  refine a_istore_n (pc := 3) (lv' := [(2, .int (0 : Int32)), (1, .int (1 : Int32)), (0, .ref (gB g + 151))]) rfl (Nat.le_of_ble_eq_true rfl) rfl d_BM_codes_3 ?_
  refine a_sub (pc := 4) [2, 1, 0] rfl ?_
  exact h
theorem sg_BM_codes_4 {g : Gx} {Q : Int32 → St → Prop} {σ : St} {x1 : Int32} {x2 : Int32}
    (h : vp_in (2 : Int32) 8 ∧ (((ai σ 152 ((2 : Int32)).toNatClampNeg) ≤ x2 → Q x1 σ) ∧ (¬ (ai σ 152 ((2 : Int32)).toNatClampNeg) ≤ x2 → ∀ u1 : Int32, u1 = (x1 * (36 : Int32)) → ∀ u2 : Int32, u2 = x2 + (1 : Int32) → S_BM_codes_4 g Q σ u1 u2))) : S_BM_codes_4 g Q σ x1 x2 := by
  show Ax g m_BM_codes 0 0 (ZI g Q) SH σ 0 0 4 [(0, .ref (gB g + 151)), (1, .int x1), (2, .int x2)] []
  refine a_iload_n (pc := 4) 2 rfl rfl d_BM_codes_4 ?_
  refine a_aload_n (pc := 5) 0 rfl rfl d_BM_codes_5 ?_
  refine a_getR (pc := 6) fg_BM_9 sx_151 rfl d_BM_codes_6 ?_
  refine a_iconst (pc := 9) (2 : Int32) (by decide) d_BM_codes_9 ?_
  obtain ⟨hx, h⟩ := h
  refine a_iald (pc := 10) sx_152 hx d_BM_codes_10 ?_
  refine a_icmp_ge (pc := 11) 25 (by decide) d_BM_codes_11 ⟨fun c0 => ?_, fun c0 => ?_⟩
  · replace h := h.1 c0
    refine a_iload_n (pc := 25) 1 rfl rfl d_BM_codes_25 ?_
    exact b_iret (pc := 26) rfl d_BM_codes_26 h
  · replace h := h.2 c0
    refine a_iload_n (pc := 14) 1 rfl rfl d_BM_codes_14 ?_
    refine a_bipush (pc := 15) (36 : Int32) (by decide) d_BM_codes_15 ?_
    refine a_imul (pc := 17) d_BM_codes_17 ?_
    refine a_nmi (pc := 18) (fun u1 hu1 => ?_)
    replace h := h u1 hu1
    refine a_istore_n (pc := 18) (lv' := [(1, .int u1), (0, .ref (gB g + 151)), (2, .int x2)]) rfl (Nat.le_of_ble_eq_true rfl) rfl d_BM_codes_18 ?_
    obtain ⟨u2, hu2⟩ : ∃ y : Int32, y = x2 + (1 : Int32) := ⟨_, rfl⟩
    replace h := h u2 hu2
    refine a_iinc (pc := 19) (v := u2) (lv' := [(2, .int u2), (1, .int u1), (0, .ref (gB g + 151))]) 2 rfl (by rw [hu2]; rfl) (Nat.le_of_ble_eq_true rfl) rfl d_BM_codes_19 ?_
    refine a_goto (pc := 22) 4 (by decide) d_BM_codes_22 ?_
    refine a_sub (pc := 4) [2, 1, 0] rfl ?_
    exact h
theorem ko_BM_codes {g : Gx}  {σ : St} {Q : Int32 → St → Prop} (h : S_BM_codes_0 g Q σ) : K_BM_codes g  σ Q := KI.of (show plainName "BallBoxModel" = true by decide) (Nat.le_of_ble_eq_true rfl) h
theorem d_BM_isWhole_0 : decode c_BM_isWhole 0 = .ok (.iconst 1, 1) := by decide +kernel
theorem d_BM_isWhole_1 : decode c_BM_isWhole 1 = .ok (.istore_n 2, 1) := by decide +kernel
theorem d_BM_isWhole_2 : decode c_BM_isWhole 2 = .ok (.iconst 0, 1) := by decide +kernel
theorem d_BM_isWhole_3 : decode c_BM_isWhole 3 = .ok (.istore_n 3, 1) := by decide +kernel
theorem d_BM_isWhole_4 : decode c_BM_isWhole 4 = .ok (.iload_n 3, 1) := by decide +kernel
theorem d_BM_isWhole_5 : decode c_BM_isWhole 5 = .ok (.aload_n 0, 1) := by decide +kernel
theorem d_BM_isWhole_6 : decode c_BM_isWhole 6 = .ok (.getfield 9, 3) := by decide +kernel
theorem d_BM_isWhole_9 : decode c_BM_isWhole 9 = .ok (.iconst 2, 1) := by decide +kernel
theorem d_BM_isWhole_10 : decode c_BM_isWhole 10 = .ok (.iaload, 1) := by decide +kernel
theorem d_BM_isWhole_11 : decode c_BM_isWhole 11 = .ok (.if_icmp .ge 39, 3) := by decide +kernel
theorem d_BM_isWhole_14 : decode c_BM_isWhole 14 = .ok (.iload_n 2, 1) := by decide +kernel
theorem d_BM_isWhole_15 : decode c_BM_isWhole 15 = .ok (.ifCond .eq 27, 3) := by decide +kernel
theorem d_BM_isWhole_18 : decode c_BM_isWhole 18 = .ok (.iload_n 3, 1) := by decide +kernel
theorem d_BM_isWhole_19 : decode c_BM_isWhole 19 = .ok (.ifCond .ne 10, 3) := by decide +kernel
theorem d_BM_isWhole_22 : decode c_BM_isWhole 22 = .ok (.iload_n 1, 1) := by decide +kernel
theorem d_BM_isWhole_23 : decode c_BM_isWhole 23 = .ok (.bipush 38, 2) := by decide +kernel
theorem d_BM_isWhole_25 : decode c_BM_isWhole 25 = .ok (.irem, 1) := by decide +kernel
theorem d_BM_isWhole_26 : decode c_BM_isWhole 26 = .ok (.goto 7, 3) := by decide +kernel
theorem d_BM_isWhole_29 : decode c_BM_isWhole 29 = .ok (.iload_n 1, 1) := by decide +kernel
theorem d_BM_isWhole_30 : decode c_BM_isWhole 30 = .ok (.bipush 38, 2) := by decide +kernel
theorem d_BM_isWhole_32 : decode c_BM_isWhole 32 = .ok (.idiv, 1) := by decide +kernel
theorem d_BM_isWhole_33 : decode c_BM_isWhole 33 = .ok (.bipush 36, 2) := by decide +kernel
theorem d_BM_isWhole_35 : decode c_BM_isWhole 35 = .ok (.if_icmp .ne 7, 3) := by decide +kernel
theorem d_BM_isWhole_38 : decode c_BM_isWhole 38 = .ok (.iconst 1, 1) := by decide +kernel
theorem d_BM_isWhole_39 : decode c_BM_isWhole 39 = .ok (.goto 4, 3) := by decide +kernel
theorem d_BM_isWhole_42 : decode c_BM_isWhole 42 = .ok (.iconst 0, 1) := by decide +kernel
theorem d_BM_isWhole_43 : decode c_BM_isWhole 43 = .ok (.istore_n 2, 1) := by decide +kernel
theorem d_BM_isWhole_44 : decode c_BM_isWhole 44 = .ok (.iinc 3 1, 3) := by decide +kernel
theorem d_BM_isWhole_47 : decode c_BM_isWhole 47 = .ok (.goto (-43), 3) := by decide +kernel
theorem d_BM_isWhole_50 : decode c_BM_isWhole 50 = .ok (.iload_n 2, 1) := by decide +kernel
theorem d_BM_isWhole_51 : decode c_BM_isWhole 51 = .ok (.ireturn, 1) := by decide +kernel
def S_BM_isWhole_0 (g : Gx) (Q : Int32 → St → Prop) (σ : St) (x1 : Int32) : Prop := Ax g m_BM_isWhole 0 0 (ZI g Q) SH σ 0 0 0 [(0, .ref (gB g + 151)), (1, .int x1)] []
def S_BM_isWhole_4 (g : Gx) (Q : Int32 → St → Prop) (σ : St) (x1 : Int32) (x2 : Int32) (x3 : Int32) : Prop := Ax g m_BM_isWhole 0 0 (ZI g Q) SH σ 0 0 4 [(0, .ref (gB g + 151)), (1, .int x1), (2, .int x2), (3, .int x3)] []
theorem sg_BM_isWhole_0 {g : Gx} {Q : Int32 → St → Prop} {σ : St} {x1 : Int32}
    (h : S_BM_isWhole_4 g Q σ x1 (1 : Int32) (0 : Int32)) : S_BM_isWhole_0 g Q σ x1 := by
  show Ax g m_BM_isWhole 0 0 (ZI g Q) SH σ 0 0 0 [(0, .ref (gB g + 151)), (1, .int x1)] []
  refine a_iconst (pc := 0) (1 : Int32) (by decide) d_BM_isWhole_0 ?_
  refine a_istore_n (pc := 1) (lv' := [(2, .int (1 : Int32)), (0, .ref (gB g + 151)), (1, .int x1)]) rfl (Nat.le_of_ble_eq_true rfl) rfl d_BM_isWhole_1 ?_
  refine a_iconst (pc := 2) (0 : Int32) (by decide) d_BM_isWhole_2 ?_
  refine a_istore_n (pc := 3) (lv' := [(3, .int (0 : Int32)), (2, .int (1 : Int32)), (0, .ref (gB g + 151)), (1, .int x1)]) rfl (Nat.le_of_ble_eq_true rfl) rfl d_BM_isWhole_3 ?_
  refine a_sub (pc := 4) [2, 3, 1, 0] rfl ?_
  exact h
theorem sg_BM_isWhole_4 {g : Gx} {Q : Int32 → St → Prop} {σ : St} {x1 : Int32} {x2 : Int32} {x3 : Int32}
    (h : vp_in (2 : Int32) 8 ∧ (((ai σ 152 ((2 : Int32)).toNatClampNeg) ≤ x3 → (x2 = 0 ∨ x2 = 1) ∧ Q x2 σ) ∧ (¬ (ai σ 152 ((2 : Int32)).toNatClampNeg) ≤ x3 → (x2 = 0 → ∀ u1 : Int32, u1 = x3 + (1 : Int32) → S_BM_isWhole_4 g Q σ x1 (0 : Int32) u1) ∧ (¬ x2 = 0 → (¬ x3 = 0 → (¬ (x1 / (38 : Int32)) = (36 : Int32) → ∀ u2 : Int32, u2 = x3 + (1 : Int32) → S_BM_isWhole_4 g Q σ x1 (0 : Int32) u2) ∧ ((x1 / (38 : Int32)) = (36 : Int32) → ∀ u3 : Int32, u3 = x3 + (1 : Int32) → S_BM_isWhole_4 g Q σ x1 (1 : Int32) u3)) ∧ (x3 = 0 → (¬ (x1 - x1 / (38 : Int32) * (38 : Int32)) = (36 : Int32) → ∀ u4 : Int32, u4 = x3 + (1 : Int32) → S_BM_isWhole_4 g Q σ x1 (0 : Int32) u4) ∧ ((x1 - x1 / (38 : Int32) * (38 : Int32)) = (36 : Int32) → ∀ u5 : Int32, u5 = x3 + (1 : Int32) → S_BM_isWhole_4 g Q σ x1 (1 : Int32) u5)))))) : S_BM_isWhole_4 g Q σ x1 x2 x3 := by
  show Ax g m_BM_isWhole 0 0 (ZI g Q) SH σ 0 0 4 [(0, .ref (gB g + 151)), (1, .int x1), (2, .int x2), (3, .int x3)] []
  refine a_iload_n (pc := 4) 3 rfl rfl d_BM_isWhole_4 ?_
  refine a_aload_n (pc := 5) 0 rfl rfl d_BM_isWhole_5 ?_
  refine a_getR (pc := 6) fg_BM_9 sx_151 rfl d_BM_isWhole_6 ?_
  refine a_iconst (pc := 9) (2 : Int32) (by decide) d_BM_isWhole_9 ?_
  obtain ⟨hx, h⟩ := h
  refine a_iald (pc := 10) sx_152 hx d_BM_isWhole_10 ?_
  refine a_icmp_ge (pc := 11) 50 (by decide) d_BM_isWhole_11 ⟨fun c0 => ?_, fun c0 => ?_⟩
  · replace h := h.1 c0
    refine a_iload_n (pc := 50) 2 rfl rfl d_BM_isWhole_50 ?_
    exact b_zret (pc := 51) rfl h.1 d_BM_isWhole_51 h.2
  · replace h := h.2 c0
    refine a_iload_n (pc := 14) 2 rfl rfl d_BM_isWhole_14 ?_
    refine a_if_eq (pc := 15) 42 (by decide) d_BM_isWhole_15 ⟨fun c0 => ?_, fun c0 => ?_⟩
    · replace h := h.1 c0
      refine a_iconst (pc := 42) (0 : Int32) (by decide) d_BM_isWhole_42 ?_
      refine a_istore_n (pc := 43) (lv' := [(2, .int (0 : Int32)), (0, .ref (gB g + 151)), (1, .int x1), (3, .int x3)]) rfl (Nat.le_of_ble_eq_true rfl) rfl d_BM_isWhole_43 ?_
      obtain ⟨u1, hu1⟩ : ∃ y : Int32, y = x3 + (1 : Int32) := ⟨_, rfl⟩
      replace h := h u1 hu1
      refine a_iinc (pc := 44) (v := u1) (lv' := [(3, .int u1), (2, .int (0 : Int32)), (0, .ref (gB g + 151)), (1, .int x1)]) 3 rfl (by rw [hu1]; rfl) (Nat.le_of_ble_eq_true rfl) rfl d_BM_isWhole_44 ?_
      refine a_goto (pc := 47) 4 (by decide) d_BM_isWhole_47 ?_
      refine a_sub (pc := 4) [2, 3, 1, 0] rfl ?_
      exact h
    · replace h := h.2 c0
      refine a_iload_n (pc := 18) 3 rfl rfl d_BM_isWhole_18 ?_
      refine a_if_ne (pc := 19) 29 (by decide) d_BM_isWhole_19 ⟨fun c0 => ?_, fun c0 => ?_⟩
      · replace h := h.1 c0
        refine a_iload_n (pc := 29) 1 rfl rfl d_BM_isWhole_29 ?_
        refine a_bipush (pc := 30) (38 : Int32) (by decide) d_BM_isWhole_30 ?_
        refine a_idiv (pc := 32) (by decide) d_BM_isWhole_32 ?_
        refine a_bipush (pc := 33) (36 : Int32) (by decide) d_BM_isWhole_33 ?_
        refine a_icmp_ne (pc := 35) 42 (by decide) d_BM_isWhole_35 ⟨fun c0 => ?_, fun c0 => ?_⟩
        · replace h := h.1 c0
          refine a_iconst (pc := 42) (0 : Int32) (by decide) d_BM_isWhole_42 ?_
          refine a_istore_n (pc := 43) (lv' := [(2, .int (0 : Int32)), (0, .ref (gB g + 151)), (1, .int x1), (3, .int x3)]) rfl (Nat.le_of_ble_eq_true rfl) rfl d_BM_isWhole_43 ?_
          obtain ⟨u2, hu2⟩ : ∃ y : Int32, y = x3 + (1 : Int32) := ⟨_, rfl⟩
          replace h := h u2 hu2
          refine a_iinc (pc := 44) (v := u2) (lv' := [(3, .int u2), (2, .int (0 : Int32)), (0, .ref (gB g + 151)), (1, .int x1)]) 3 rfl (by rw [hu2]; rfl) (Nat.le_of_ble_eq_true rfl) rfl d_BM_isWhole_44 ?_
          refine a_goto (pc := 47) 4 (by decide) d_BM_isWhole_47 ?_
          refine a_sub (pc := 4) [2, 3, 1, 0] rfl ?_
          exact h
        · replace h := h.2 c0
          refine a_iconst (pc := 38) (1 : Int32) (by decide) d_BM_isWhole_38 ?_
          refine a_goto (pc := 39) 43 (by decide) d_BM_isWhole_39 ?_
          refine a_istore_n (pc := 43) (lv' := [(2, .int (1 : Int32)), (0, .ref (gB g + 151)), (1, .int x1), (3, .int x3)]) rfl (Nat.le_of_ble_eq_true rfl) rfl d_BM_isWhole_43 ?_
          obtain ⟨u3, hu3⟩ : ∃ y : Int32, y = x3 + (1 : Int32) := ⟨_, rfl⟩
          replace h := h u3 hu3
          refine a_iinc (pc := 44) (v := u3) (lv' := [(3, .int u3), (2, .int (1 : Int32)), (0, .ref (gB g + 151)), (1, .int x1)]) 3 rfl (by rw [hu3]; rfl) (Nat.le_of_ble_eq_true rfl) rfl d_BM_isWhole_44 ?_
          refine a_goto (pc := 47) 4 (by decide) d_BM_isWhole_47 ?_
          refine a_sub (pc := 4) [2, 3, 1, 0] rfl ?_
          exact h
      · replace h := h.2 c0
        refine a_iload_n (pc := 22) 1 rfl rfl d_BM_isWhole_22 ?_
        refine a_bipush (pc := 23) (38 : Int32) (by decide) d_BM_isWhole_23 ?_
        refine a_irem (pc := 25) (by decide) d_BM_isWhole_25 ?_
        refine a_goto (pc := 26) 33 (by decide) d_BM_isWhole_26 ?_
        refine a_bipush (pc := 33) (36 : Int32) (by decide) d_BM_isWhole_33 ?_
        refine a_icmp_ne (pc := 35) 42 (by decide) d_BM_isWhole_35 ⟨fun c0 => ?_, fun c0 => ?_⟩
        · replace h := h.1 c0
          refine a_iconst (pc := 42) (0 : Int32) (by decide) d_BM_isWhole_42 ?_
          refine a_istore_n (pc := 43) (lv' := [(2, .int (0 : Int32)), (0, .ref (gB g + 151)), (1, .int x1), (3, .int x3)]) rfl (Nat.le_of_ble_eq_true rfl) rfl d_BM_isWhole_43 ?_
          obtain ⟨u4, hu4⟩ : ∃ y : Int32, y = x3 + (1 : Int32) := ⟨_, rfl⟩
          replace h := h u4 hu4
          refine a_iinc (pc := 44) (v := u4) (lv' := [(3, .int u4), (2, .int (0 : Int32)), (0, .ref (gB g + 151)), (1, .int x1)]) 3 rfl (by rw [hu4]; rfl) (Nat.le_of_ble_eq_true rfl) rfl d_BM_isWhole_44 ?_
          refine a_goto (pc := 47) 4 (by decide) d_BM_isWhole_47 ?_
          refine a_sub (pc := 4) [2, 3, 1, 0] rfl ?_
          exact h
        · replace h := h.2 c0
          refine a_iconst (pc := 38) (1 : Int32) (by decide) d_BM_isWhole_38 ?_
          refine a_goto (pc := 39) 43 (by decide) d_BM_isWhole_39 ?_
          refine a_istore_n (pc := 43) (lv' := [(2, .int (1 : Int32)), (0, .ref (gB g + 151)), (1, .int x1), (3, .int x3)]) rfl (Nat.le_of_ble_eq_true rfl) rfl d_BM_isWhole_43 ?_
          obtain ⟨u5, hu5⟩ : ∃ y : Int32, y = x3 + (1 : Int32) := ⟨_, rfl⟩
          replace h := h u5 hu5
          refine a_iinc (pc := 44) (v := u5) (lv' := [(3, .int u5), (2, .int (1 : Int32)), (0, .ref (gB g + 151)), (1, .int x1)]) 3 rfl (by rw [hu5]; rfl) (Nat.le_of_ble_eq_true rfl) rfl d_BM_isWhole_44 ?_
          refine a_goto (pc := 47) 4 (by decide) d_BM_isWhole_47 ?_
          refine a_sub (pc := 4) [2, 3, 1, 0] rfl ?_
          exact h
theorem ko_BM_isWhole {g : Gx}  {x1 : Int32} {σ : St} {Q : Int32 → St → Prop} (h : S_BM_isWhole_0 g Q σ x1) : K_BM_isWhole g x1 σ Q := KI.of (show plainName "BallBoxModel" = true by decide) (Nat.le_of_ble_eq_true rfl) h
theorem d_BM_fillsNext_0 : decode c_BM_fillsNext 0 = .ok (.iconst 0, 1) := by decide +kernel
theorem d_BM_fillsNext_1 : decode c_BM_fillsNext 1 = .ok (.istore_n 1, 1) := by decide +kernel
theorem d_BM_fillsNext_2 : decode c_BM_fillsNext 2 = .ok (.iload_n 1, 1) := by decide +kernel
theorem d_BM_fillsNext_3 : decode c_BM_fillsNext 3 = .ok (.sipush 1444, 3) := by decide +kernel
theorem d_BM_fillsNext_6 : decode c_BM_fillsNext 6 = .ok (.if_icmp .ge 108, 3) := by decide +kernel
theorem d_BM_fillsNext_9 : decode c_BM_fillsNext 9 = .ok (.iconst 0, 1) := by decide +kernel
theorem d_BM_fillsNext_10 : decode c_BM_fillsNext 10 = .ok (.istore_n 2, 1) := by decide +kernel
theorem d_BM_fillsNext_11 : decode c_BM_fillsNext 11 = .ok (.iload_n 2, 1) := by decide +kernel
theorem d_BM_fillsNext_12 : decode c_BM_fillsNext 12 = .ok (.iconst 4, 1) := by decide +kernel
theorem d_BM_fillsNext_13 : decode c_BM_fillsNext 13 = .ok (.if_icmp .ge 95, 3) := by decide +kernel
theorem d_BM_fillsNext_16 : decode c_BM_fillsNext 16 = .ok (.aload_n 0, 1) := by decide +kernel
theorem d_BM_fillsNext_17 : decode c_BM_fillsNext 17 = .ok (.iload_n 1, 1) := by decide +kernel
theorem d_BM_fillsNext_18 : decode c_BM_fillsNext 18 = .ok (.invokevirtual 437, 3) := by decide +kernel
theorem d_BM_fillsNext_21 : decode c_BM_fillsNext 21 = .ok (.iconst 1, 1) := by decide +kernel
theorem d_BM_fillsNext_22 : decode c_BM_fillsNext 22 = .ok (.istore_n 3, 1) := by decide +kernel
theorem d_BM_fillsNext_23 : decode c_BM_fillsNext 23 = .ok (.iconst 0, 1) := by decide +kernel
theorem d_BM_fillsNext_24 : decode c_BM_fillsNext 24 = .ok (.istore 4, 2) := by decide +kernel
theorem d_BM_fillsNext_26 : decode c_BM_fillsNext 26 = .ok (.iload 4, 2) := by decide +kernel
theorem d_BM_fillsNext_28 : decode c_BM_fillsNext 28 = .ok (.aload_n 0, 1) := by decide +kernel
theorem d_BM_fillsNext_29 : decode c_BM_fillsNext 29 = .ok (.getfield 9, 3) := by decide +kernel
theorem d_BM_fillsNext_32 : decode c_BM_fillsNext 32 = .ok (.iconst 2, 1) := by decide +kernel
theorem d_BM_fillsNext_33 : decode c_BM_fillsNext 33 = .ok (.iaload, 1) := by decide +kernel
theorem d_BM_fillsNext_34 : decode c_BM_fillsNext 34 = .ok (.if_icmp .ge 45, 3) := by decide +kernel
theorem d_BM_fillsNext_37 : decode c_BM_fillsNext 37 = .ok (.iload_n 3, 1) := by decide +kernel
theorem d_BM_fillsNext_38 : decode c_BM_fillsNext 38 = .ok (.ifCond .eq 33, 3) := by decide +kernel
theorem d_BM_fillsNext_41 : decode c_BM_fillsNext 41 = .ok (.aload_n 0, 1) := by decide +kernel
theorem d_BM_fillsNext_42 : decode c_BM_fillsNext 42 = .ok (.getfield 16, 3) := by decide +kernel
theorem d_BM_fillsNext_45 : decode c_BM_fillsNext 45 = .ok (.iload 4, 2) := by decide +kernel
theorem d_BM_fillsNext_47 : decode c_BM_fillsNext 47 = .ok (.iaload, 1) := by decide +kernel
theorem d_BM_fillsNext_48 : decode c_BM_fillsNext 48 = .ok (.bipush 36, 2) := by decide +kernel
theorem d_BM_fillsNext_50 : decode c_BM_fillsNext 50 = .ok (.if_icmp .ge 17, 3) := by decide +kernel
theorem d_BM_fillsNext_53 : decode c_BM_fillsNext 53 = .ok (.aload_n 0, 1) := by decide +kernel
theorem d_BM_fillsNext_54 : decode c_BM_fillsNext 54 = .ok (.aload_n 0, 1) := by decide +kernel
theorem d_BM_fillsNext_55 : decode c_BM_fillsNext 55 = .ok (.getfield 16, 3) := by decide +kernel
theorem d_BM_fillsNext_58 : decode c_BM_fillsNext 58 = .ok (.iload 4, 2) := by decide +kernel
theorem d_BM_fillsNext_60 : decode c_BM_fillsNext 60 = .ok (.iaload, 1) := by decide +kernel
theorem d_BM_fillsNext_61 : decode c_BM_fillsNext 61 = .ok (.invokevirtual 170, 3) := by decide +kernel
theorem d_BM_fillsNext_64 : decode c_BM_fillsNext 64 = .ok (.ifCond .eq 7, 3) := by decide +kernel
theorem d_BM_fillsNext_67 : decode c_BM_fillsNext 67 = .ok (.iconst 1, 1) := by decide +kernel
theorem d_BM_fillsNext_68 : decode c_BM_fillsNext 68 = .ok (.goto 4, 3) := by decide +kernel
theorem d_BM_fillsNext_71 : decode c_BM_fillsNext 71 = .ok (.iconst 0, 1) := by decide +kernel
theorem d_BM_fillsNext_72 : decode c_BM_fillsNext 72 = .ok (.istore_n 3, 1) := by decide +kernel
theorem d_BM_fillsNext_73 : decode c_BM_fillsNext 73 = .ok (.iinc 4 1, 3) := by decide +kernel
theorem d_BM_fillsNext_76 : decode c_BM_fillsNext 76 = .ok (.goto (-50), 3) := by decide +kernel
theorem d_BM_fillsNext_79 : decode c_BM_fillsNext 79 = .ok (.iload_n 3, 1) := by decide +kernel
theorem d_BM_fillsNext_80 : decode c_BM_fillsNext 80 = .ok (.ifCond .eq 8, 3) := by decide +kernel
theorem d_BM_fillsNext_83 : decode c_BM_fillsNext 83 = .ok (.aload_n 0, 1) := by decide +kernel
theorem d_BM_fillsNext_84 : decode c_BM_fillsNext 84 = .ok (.iload_n 2, 1) := by decide +kernel
theorem d_BM_fillsNext_85 : decode c_BM_fillsNext 85 = .ok (.invokevirtual 396, 3) := by decide +kernel
theorem d_BM_fillsNext_88 : decode c_BM_fillsNext 88 = .ok (.aload_n 0, 1) := by decide +kernel
theorem d_BM_fillsNext_89 : decode c_BM_fillsNext 89 = .ok (.getfield 101, 3) := by decide +kernel
theorem d_BM_fillsNext_92 : decode c_BM_fillsNext 92 = .ok (.iconst 4, 1) := by decide +kernel
theorem d_BM_fillsNext_93 : decode c_BM_fillsNext 93 = .ok (.iload_n 1, 1) := by decide +kernel
theorem d_BM_fillsNext_94 : decode c_BM_fillsNext 94 = .ok (.imul, 1) := by decide +kernel
theorem d_BM_fillsNext_95 : decode c_BM_fillsNext 95 = .ok (.iload_n 2, 1) := by decide +kernel
theorem d_BM_fillsNext_96 : decode c_BM_fillsNext 96 = .ok (.iadd, 1) := by decide +kernel
theorem d_BM_fillsNext_97 : decode c_BM_fillsNext 97 = .ok (.aload_n 0, 1) := by decide +kernel
theorem d_BM_fillsNext_98 : decode c_BM_fillsNext 98 = .ok (.invokevirtual 422, 3) := by decide +kernel
theorem d_BM_fillsNext_101 : decode c_BM_fillsNext 101 = .ok (.iastore, 1) := by decide +kernel
theorem d_BM_fillsNext_102 : decode c_BM_fillsNext 102 = .ok (.iinc 2 1, 3) := by decide +kernel
theorem d_BM_fillsNext_105 : decode c_BM_fillsNext 105 = .ok (.goto (-94), 3) := by decide +kernel
theorem d_BM_fillsNext_108 : decode c_BM_fillsNext 108 = .ok (.iinc 1 1, 3) := by decide +kernel
theorem d_BM_fillsNext_111 : decode c_BM_fillsNext 111 = .ok (.goto (-109), 3) := by decide +kernel
theorem d_BM_fillsNext_114 : decode c_BM_fillsNext 114 = .ok (.return_, 1) := by decide +kernel
def S_BM_fillsNext_0 (g : Gx) (Q : St → Prop) (σ : St) : Prop := Ax g m_BM_fillsNext 0 0 (ZV g Q) SH σ 0 0 0 [(0, .ref (gB g + 151))] []
def S_BM_fillsNext_2 (g : Gx) (Q : St → Prop) (σ : St) (x1 : Int32) : Prop := Ax g m_BM_fillsNext 0 0 (ZV g Q) SH σ 0 0 2 [(0, .ref (gB g + 151)), (1, .int x1)] []
def S_BM_fillsNext_11 (g : Gx) (Q : St → Prop) (σ : St) (x1 : Int32) (x2 : Int32) : Prop := Ax g m_BM_fillsNext 0 0 (ZV g Q) SH σ 0 0 11 [(0, .ref (gB g + 151)), (1, .int x1), (2, .int x2)] []
def S_BM_fillsNext_26 (g : Gx) (Q : St → Prop) (σ : St) (x1 : Int32) (x2 : Int32) (x3 : Int32) (x4 : Int32) : Prop := Ax g m_BM_fillsNext 0 0 (ZV g Q) SH σ 0 0 26 [(0, .ref (gB g + 151)), (1, .int x1), (2, .int x2), (3, .int x3), (4, .int x4)] []
theorem sg_BM_fillsNext_0 {g : Gx} {Q : St → Prop} {σ : St}
    (h : S_BM_fillsNext_2 g Q σ (0 : Int32)) : S_BM_fillsNext_0 g Q σ := by
  show Ax g m_BM_fillsNext 0 0 (ZV g Q) SH σ 0 0 0 [(0, .ref (gB g + 151))] []
  refine a_iconst (pc := 0) (0 : Int32) (by decide) d_BM_fillsNext_0 ?_
  refine a_istore_n (pc := 1) (lv' := [(1, .int (0 : Int32)), (0, .ref (gB g + 151))]) rfl (Nat.le_of_ble_eq_true rfl) rfl d_BM_fillsNext_1 ?_
  refine a_sub (pc := 2) [1, 0] rfl ?_
  exact h
theorem sg_BM_fillsNext_2 {g : Gx} {Q : St → Prop} {σ : St} {x1 : Int32}
    (h : ((1444 : Int32) ≤ x1 → Q σ) ∧ (¬ (1444 : Int32) ≤ x1 → S_BM_fillsNext_11 g Q σ x1 (0 : Int32))) : S_BM_fillsNext_2 g Q σ x1 := by
  show Ax g m_BM_fillsNext 0 0 (ZV g Q) SH σ 0 0 2 [(0, .ref (gB g + 151)), (1, .int x1)] []
  refine a_iload_n (pc := 2) 1 rfl rfl d_BM_fillsNext_2 ?_
  refine a_sipush (pc := 3) (1444 : Int32) (by decide) d_BM_fillsNext_3 ?_
  refine a_icmp_ge (pc := 6) 114 (by decide) d_BM_fillsNext_6 ⟨fun c0 => ?_, fun c0 => ?_⟩
  · replace h := h.1 c0
    exact b_vret (pc := 114) rfl d_BM_fillsNext_114 h
  · replace h := h.2 c0
    refine a_iconst (pc := 9) (0 : Int32) (by decide) d_BM_fillsNext_9 ?_
    refine a_istore_n (pc := 10) (lv' := [(2, .int (0 : Int32)), (0, .ref (gB g + 151)), (1, .int x1)]) rfl (Nat.le_of_ble_eq_true rfl) rfl d_BM_fillsNext_10 ?_
    refine a_sub (pc := 11) [1, 2, 0] rfl ?_
    exact h
theorem sg_BM_fillsNext_11 {g : Gx} {Q : St → Prop} {σ : St} {x1 : Int32} {x2 : Int32}
    (h : ((4 : Int32) ≤ x2 → ∀ u1 : Int32, u1 = x1 + (1 : Int32) → S_BM_fillsNext_2 g Q σ u1) ∧ (¬ (4 : Int32) ≤ x2 → K_BM_laysSituation g x1 σ (fun s2 : St => S_BM_fillsNext_26 g Q s2 x1 x2 (1 : Int32) (0 : Int32)))) : S_BM_fillsNext_11 g Q σ x1 x2 := by
  show Ax g m_BM_fillsNext 0 0 (ZV g Q) SH σ 0 0 11 [(0, .ref (gB g + 151)), (1, .int x1), (2, .int x2)] []
  refine a_iload_n (pc := 11) 2 rfl rfl d_BM_fillsNext_11 ?_
  refine a_iconst (pc := 12) (4 : Int32) (by decide) d_BM_fillsNext_12 ?_
  refine a_icmp_ge (pc := 13) 108 (by decide) d_BM_fillsNext_13 ⟨fun c0 => ?_, fun c0 => ?_⟩
  · replace h := h.1 c0
    obtain ⟨u1, hu1⟩ : ∃ y : Int32, y = x1 + (1 : Int32) := ⟨_, rfl⟩
    replace h := h u1 hu1
    refine a_iinc (pc := 108) (v := u1) (lv' := [(1, .int u1), (0, .ref (gB g + 151)), (2, .int x2)]) 1 rfl (by rw [hu1]; rfl) (Nat.le_of_ble_eq_true rfl) rfl d_BM_fillsNext_108 ?_
    refine a_goto (pc := 111) 2 (by decide) d_BM_fillsNext_111 ?_
    refine a_sub (pc := 2) [1, 0] rfl ?_
    exact h
  · replace h := h.2 c0
    refine a_aload_n (pc := 16) 0 rfl rfl d_BM_fillsNext_16 ?_
    refine a_iload_n (pc := 17) 1 rfl rfl d_BM_fillsNext_17 ?_
    refine a_callV (pc := 18) (M' := m_BM_laysSituation) (As := [.int x1]) (st := []) (mc' := 0) (ms' := 0) lk_BM_437 rfl sx_151 rfl (by decide) (by decide) rfl (Nat.le_of_ble_eq_true rfl) (Nat.le_refl 0) (Nat.le_refl 0) d_BM_fillsNext_18 h ?_
    rintro _ _ s2 ⟨rfl, rfl, h⟩ -
    show Ax g m_BM_fillsNext 0 0 (ZV g Q) SH s2 0 0 21 [(0, .ref (gB g + 151)), (1, .int x1), (2, .int x2)] []
    refine a_iconst (pc := 21) (1 : Int32) (by decide) d_BM_fillsNext_21 ?_
    refine a_istore_n (pc := 22) (lv' := [(3, .int (1 : Int32)), (0, .ref (gB g + 151)), (1, .int x1), (2, .int x2)]) rfl (Nat.le_of_ble_eq_true rfl) rfl d_BM_fillsNext_22 ?_
    refine a_iconst (pc := 23) (0 : Int32) (by decide) d_BM_fillsNext_23 ?_
    refine a_istore (pc := 24) (lv' := [(4, .int (0 : Int32)), (3, .int (1 : Int32)), (0, .ref (gB g + 151)), (1, .int x1), (2, .int x2)]) (Nat.le_of_ble_eq_true rfl) rfl d_BM_fillsNext_24 ?_
    refine a_sub (pc := 26) [2, 3, 4, 1, 0] rfl ?_
    exact h
theorem sg_BM_fillsNext_26 {g : Gx} {Q : St → Prop} {σ : St} {x1 : Int32} {x2 : Int32} {x3 : Int32} {x4 : Int32}
    (h : vp_in (2 : Int32) 8 ∧ (((ai σ 152 ((2 : Int32)).toNatClampNeg) ≤ x4 → (x3 = 0 → K_BM_situationNow g σ (fun (r2 : Int32) (s1 : St) => vp_in (((4 : Int32) * x1) + x2) 5776 ∧ (∀ s3 : St, s3 = sai s1 180 ((((4 : Int32) * x1) + x2)).toNatClampNeg r2 → ∀ u4 : Int32, u4 = x2 + (1 : Int32) → S_BM_fillsNext_11 g Q s3 x1 u4))) ∧ (¬ x3 = 0 → K_BM_tips g x2 σ (fun s5 : St => K_BM_situationNow g s5 (fun (r7 : Int32) (s6 : St) => vp_in (((4 : Int32) * x1) + x2) 5776 ∧ (∀ s8 : St, s8 = sai s6 180 ((((4 : Int32) * x1) + x2)).toNatClampNeg r7 → ∀ u9 : Int32, u9 = x2 + (1 : Int32) → S_BM_fillsNext_11 g Q s8 x1 u9))))) ∧ (¬ (ai σ 152 ((2 : Int32)).toNatClampNeg) ≤ x4 → (x3 = 0 → ∀ u10 : Int32, u10 = x4 + (1 : Int32) → S_BM_fillsNext_26 g Q σ x1 x2 (0 : Int32) u10) ∧ (¬ x3 = 0 → vp_in x4 3 ∧ (((36 : Int32) ≤ (ai σ 154 (x4).toNatClampNeg) → ∀ u11 : Int32, u11 = x4 + (1 : Int32) → S_BM_fillsNext_26 g Q σ x1 x2 (1 : Int32) u11) ∧ (¬ (36 : Int32) ≤ (ai σ 154 (x4).toNatClampNeg) → vp_in x4 3 ∧ (K_BM_isThere g (ai σ 154 (x4).toNatClampNeg) σ (fun (r13 : Int32) (s12 : St) => (r13 = 0 → ∀ u14 : Int32, u14 = x4 + (1 : Int32) → S_BM_fillsNext_26 g Q s12 x1 x2 (0 : Int32) u14) ∧ (¬ r13 = 0 → ∀ u15 : Int32, u15 = x4 + (1 : Int32) → S_BM_fillsNext_26 g Q s12 x1 x2 (1 : Int32) u15))))))))) : S_BM_fillsNext_26 g Q σ x1 x2 x3 x4 := by
  show Ax g m_BM_fillsNext 0 0 (ZV g Q) SH σ 0 0 26 [(0, .ref (gB g + 151)), (1, .int x1), (2, .int x2), (3, .int x3), (4, .int x4)] []
  refine a_iload (pc := 26) 4 rfl d_BM_fillsNext_26 ?_
  refine a_aload_n (pc := 28) 0 rfl rfl d_BM_fillsNext_28 ?_
  refine a_getR (pc := 29) fg_BM_9 sx_151 rfl d_BM_fillsNext_29 ?_
  refine a_iconst (pc := 32) (2 : Int32) (by decide) d_BM_fillsNext_32 ?_
  obtain ⟨hx, h⟩ := h
  refine a_iald (pc := 33) sx_152 hx d_BM_fillsNext_33 ?_
  refine a_icmp_ge (pc := 34) 79 (by decide) d_BM_fillsNext_34 ⟨fun c0 => ?_, fun c0 => ?_⟩
  · replace h := h.1 c0
    refine a_iload_n (pc := 79) 3 rfl rfl d_BM_fillsNext_79 ?_
    refine a_if_eq (pc := 80) 88 (by decide) d_BM_fillsNext_80 ⟨fun c0 => ?_, fun c0 => ?_⟩
    · replace h := h.1 c0
      refine a_aload_n (pc := 88) 0 rfl rfl d_BM_fillsNext_88 ?_
      refine a_getR (pc := 89) fg_BM_101 sx_151 rfl d_BM_fillsNext_89 ?_
      refine a_iconst (pc := 92) (4 : Int32) (by decide) d_BM_fillsNext_92 ?_
      refine a_iload_n (pc := 93) 1 rfl rfl d_BM_fillsNext_93 ?_
      refine a_imul (pc := 94) d_BM_fillsNext_94 ?_
      refine a_iload_n (pc := 95) 2 rfl rfl d_BM_fillsNext_95 ?_
      refine a_iadd (pc := 96) d_BM_fillsNext_96 ?_
      refine a_aload_n (pc := 97) 0 rfl rfl d_BM_fillsNext_97 ?_
      refine a_callV (pc := 98) (M' := m_BM_situationNow) (As := []) (st := [.int (((4 : Int32) * x1) + x2), .ref (gB g + 180)]) (mc' := 0) (ms' := 0) lk_BM_422 rfl sx_151 rfl (by decide) (by decide) rfl (Nat.le_of_ble_eq_true rfl) (Nat.le_refl 0) (Nat.le_refl 0) d_BM_fillsNext_98 h ?_
      rintro _ _ s1 ⟨r2, rfl, rfl, h⟩ -
      show Ax g m_BM_fillsNext 0 0 (ZV g Q) SH s1 0 0 101 [(0, .ref (gB g + 151)), (1, .int x1), (2, .int x2), (3, .int x3), (4, .int x4)] [.int r2, .int (((4 : Int32) * x1) + x2), .ref (gB g + 180)]
      obtain ⟨hx, h⟩ := h
      refine a_iast (pc := 101) sx_180 hx d_BM_fillsNext_101 ?_
      refine a_nms (fun s3 hs3 => ?_)
      replace h := h s3 hs3
      obtain ⟨u4, hu4⟩ : ∃ y : Int32, y = x2 + (1 : Int32) := ⟨_, rfl⟩
      replace h := h u4 hu4
      refine a_iinc (pc := 102) (v := u4) (lv' := [(2, .int u4), (0, .ref (gB g + 151)), (1, .int x1), (3, .int x3), (4, .int x4)]) 2 rfl (by rw [hu4]; rfl) (Nat.le_of_ble_eq_true rfl) rfl d_BM_fillsNext_102 ?_
      refine a_goto (pc := 105) 11 (by decide) d_BM_fillsNext_105 ?_
      refine a_sub (pc := 11) [1, 2, 0] rfl ?_
      exact h
    · replace h := h.2 c0
      refine a_aload_n (pc := 83) 0 rfl rfl d_BM_fillsNext_83 ?_
      refine a_iload_n (pc := 84) 2 rfl rfl d_BM_fillsNext_84 ?_
      refine a_callV (pc := 85) (M' := m_BM_tips) (As := [.int x2]) (st := []) (mc' := 0) (ms' := 0) lk_BM_396 rfl sx_151 rfl (by decide) (by decide) rfl (Nat.le_of_ble_eq_true rfl) (Nat.le_refl 0) (Nat.le_refl 0) d_BM_fillsNext_85 h ?_
      rintro _ _ s5 ⟨rfl, rfl, h⟩ -
      show Ax g m_BM_fillsNext 0 0 (ZV g Q) SH s5 0 0 88 [(0, .ref (gB g + 151)), (1, .int x1), (2, .int x2), (3, .int x3), (4, .int x4)] []
      refine a_aload_n (pc := 88) 0 rfl rfl d_BM_fillsNext_88 ?_
      refine a_getR (pc := 89) fg_BM_101 sx_151 rfl d_BM_fillsNext_89 ?_
      refine a_iconst (pc := 92) (4 : Int32) (by decide) d_BM_fillsNext_92 ?_
      refine a_iload_n (pc := 93) 1 rfl rfl d_BM_fillsNext_93 ?_
      refine a_imul (pc := 94) d_BM_fillsNext_94 ?_
      refine a_iload_n (pc := 95) 2 rfl rfl d_BM_fillsNext_95 ?_
      refine a_iadd (pc := 96) d_BM_fillsNext_96 ?_
      refine a_aload_n (pc := 97) 0 rfl rfl d_BM_fillsNext_97 ?_
      refine a_callV (pc := 98) (M' := m_BM_situationNow) (As := []) (st := [.int (((4 : Int32) * x1) + x2), .ref (gB g + 180)]) (mc' := 0) (ms' := 0) lk_BM_422 rfl sx_151 rfl (by decide) (by decide) rfl (Nat.le_of_ble_eq_true rfl) (Nat.le_refl 0) (Nat.le_refl 0) d_BM_fillsNext_98 h ?_
      rintro _ _ s6 ⟨r7, rfl, rfl, h⟩ -
      show Ax g m_BM_fillsNext 0 0 (ZV g Q) SH s6 0 0 101 [(0, .ref (gB g + 151)), (1, .int x1), (2, .int x2), (3, .int x3), (4, .int x4)] [.int r7, .int (((4 : Int32) * x1) + x2), .ref (gB g + 180)]
      obtain ⟨hx, h⟩ := h
      refine a_iast (pc := 101) sx_180 hx d_BM_fillsNext_101 ?_
      refine a_nms (fun s8 hs8 => ?_)
      replace h := h s8 hs8
      obtain ⟨u9, hu9⟩ : ∃ y : Int32, y = x2 + (1 : Int32) := ⟨_, rfl⟩
      replace h := h u9 hu9
      refine a_iinc (pc := 102) (v := u9) (lv' := [(2, .int u9), (0, .ref (gB g + 151)), (1, .int x1), (3, .int x3), (4, .int x4)]) 2 rfl (by rw [hu9]; rfl) (Nat.le_of_ble_eq_true rfl) rfl d_BM_fillsNext_102 ?_
      refine a_goto (pc := 105) 11 (by decide) d_BM_fillsNext_105 ?_
      refine a_sub (pc := 11) [1, 2, 0] rfl ?_
      exact h
  · replace h := h.2 c0
    refine a_iload_n (pc := 37) 3 rfl rfl d_BM_fillsNext_37 ?_
    refine a_if_eq (pc := 38) 71 (by decide) d_BM_fillsNext_38 ⟨fun c0 => ?_, fun c0 => ?_⟩
    · replace h := h.1 c0
      refine a_iconst (pc := 71) (0 : Int32) (by decide) d_BM_fillsNext_71 ?_
      refine a_istore_n (pc := 72) (lv' := [(3, .int (0 : Int32)), (0, .ref (gB g + 151)), (1, .int x1), (2, .int x2), (4, .int x4)]) rfl (Nat.le_of_ble_eq_true rfl) rfl d_BM_fillsNext_72 ?_
      obtain ⟨u10, hu10⟩ : ∃ y : Int32, y = x4 + (1 : Int32) := ⟨_, rfl⟩
      replace h := h u10 hu10
      refine a_iinc (pc := 73) (v := u10) (lv' := [(4, .int u10), (3, .int (0 : Int32)), (0, .ref (gB g + 151)), (1, .int x1), (2, .int x2)]) 4 rfl (by rw [hu10]; rfl) (Nat.le_of_ble_eq_true rfl) rfl d_BM_fillsNext_73 ?_
      refine a_goto (pc := 76) 26 (by decide) d_BM_fillsNext_76 ?_
      refine a_sub (pc := 26) [2, 3, 4, 1, 0] rfl ?_
      exact h
    · replace h := h.2 c0
      refine a_aload_n (pc := 41) 0 rfl rfl d_BM_fillsNext_41 ?_
      refine a_getR (pc := 42) fg_BM_16 sx_151 rfl d_BM_fillsNext_42 ?_
      refine a_iload (pc := 45) 4 rfl d_BM_fillsNext_45 ?_
      obtain ⟨hx, h⟩ := h
      refine a_iald (pc := 47) sx_154 hx d_BM_fillsNext_47 ?_
      refine a_bipush (pc := 48) (36 : Int32) (by decide) d_BM_fillsNext_48 ?_
      refine a_icmp_ge (pc := 50) 67 (by decide) d_BM_fillsNext_50 ⟨fun c0 => ?_, fun c0 => ?_⟩
      · replace h := h.1 c0
        refine a_iconst (pc := 67) (1 : Int32) (by decide) d_BM_fillsNext_67 ?_
        refine a_goto (pc := 68) 72 (by decide) d_BM_fillsNext_68 ?_
        refine a_istore_n (pc := 72) (lv' := [(3, .int (1 : Int32)), (0, .ref (gB g + 151)), (1, .int x1), (2, .int x2), (4, .int x4)]) rfl (Nat.le_of_ble_eq_true rfl) rfl d_BM_fillsNext_72 ?_
        obtain ⟨u11, hu11⟩ : ∃ y : Int32, y = x4 + (1 : Int32) := ⟨_, rfl⟩
        replace h := h u11 hu11
        refine a_iinc (pc := 73) (v := u11) (lv' := [(4, .int u11), (3, .int (1 : Int32)), (0, .ref (gB g + 151)), (1, .int x1), (2, .int x2)]) 4 rfl (by rw [hu11]; rfl) (Nat.le_of_ble_eq_true rfl) rfl d_BM_fillsNext_73 ?_
        refine a_goto (pc := 76) 26 (by decide) d_BM_fillsNext_76 ?_
        refine a_sub (pc := 26) [2, 3, 4, 1, 0] rfl ?_
        exact h
      · replace h := h.2 c0
        refine a_aload_n (pc := 53) 0 rfl rfl d_BM_fillsNext_53 ?_
        refine a_aload_n (pc := 54) 0 rfl rfl d_BM_fillsNext_54 ?_
        refine a_getR (pc := 55) fg_BM_16 sx_151 rfl d_BM_fillsNext_55 ?_
        refine a_iload (pc := 58) 4 rfl d_BM_fillsNext_58 ?_
        obtain ⟨hx, h⟩ := h
        refine a_iald (pc := 60) sx_154 hx d_BM_fillsNext_60 ?_
        refine a_callV (pc := 61) (M' := m_BM_isThere) (As := [.int (ai σ 154 (x4).toNatClampNeg)]) (st := []) (mc' := 0) (ms' := 0) lk_BM_170 rfl sx_151 rfl (by decide) (by decide) rfl (Nat.le_of_ble_eq_true rfl) (Nat.le_refl 0) (Nat.le_refl 0) d_BM_fillsNext_61 h ?_
        rintro _ _ s12 ⟨r13, rfl, rfl, h⟩ -
        show Ax g m_BM_fillsNext 0 0 (ZV g Q) SH s12 0 0 64 [(0, .ref (gB g + 151)), (1, .int x1), (2, .int x2), (3, .int x3), (4, .int x4)] [.int r13]
        refine a_if_eq (pc := 64) 71 (by decide) d_BM_fillsNext_64 ⟨fun c0 => ?_, fun c0 => ?_⟩
        · replace h := h.1 c0
          refine a_iconst (pc := 71) (0 : Int32) (by decide) d_BM_fillsNext_71 ?_
          refine a_istore_n (pc := 72) (lv' := [(3, .int (0 : Int32)), (0, .ref (gB g + 151)), (1, .int x1), (2, .int x2), (4, .int x4)]) rfl (Nat.le_of_ble_eq_true rfl) rfl d_BM_fillsNext_72 ?_
          obtain ⟨u14, hu14⟩ : ∃ y : Int32, y = x4 + (1 : Int32) := ⟨_, rfl⟩
          replace h := h u14 hu14
          refine a_iinc (pc := 73) (v := u14) (lv' := [(4, .int u14), (3, .int (0 : Int32)), (0, .ref (gB g + 151)), (1, .int x1), (2, .int x2)]) 4 rfl (by rw [hu14]; rfl) (Nat.le_of_ble_eq_true rfl) rfl d_BM_fillsNext_73 ?_
          refine a_goto (pc := 76) 26 (by decide) d_BM_fillsNext_76 ?_
          refine a_sub (pc := 26) [2, 3, 4, 1, 0] rfl ?_
          exact h
        · replace h := h.2 c0
          refine a_iconst (pc := 67) (1 : Int32) (by decide) d_BM_fillsNext_67 ?_
          refine a_goto (pc := 68) 72 (by decide) d_BM_fillsNext_68 ?_
          refine a_istore_n (pc := 72) (lv' := [(3, .int (1 : Int32)), (0, .ref (gB g + 151)), (1, .int x1), (2, .int x2), (4, .int x4)]) rfl (Nat.le_of_ble_eq_true rfl) rfl d_BM_fillsNext_72 ?_
          obtain ⟨u15, hu15⟩ : ∃ y : Int32, y = x4 + (1 : Int32) := ⟨_, rfl⟩
          replace h := h u15 hu15
          refine a_iinc (pc := 73) (v := u15) (lv' := [(4, .int u15), (3, .int (1 : Int32)), (0, .ref (gB g + 151)), (1, .int x1), (2, .int x2)]) 4 rfl (by rw [hu15]; rfl) (Nat.le_of_ble_eq_true rfl) rfl d_BM_fillsNext_73 ?_
          refine a_goto (pc := 76) 26 (by decide) d_BM_fillsNext_76 ?_
          refine a_sub (pc := 26) [2, 3, 4, 1, 0] rfl ?_
          exact h
theorem ko_BM_fillsNext {g : Gx}  {σ : St} {Q : St → Prop} (h : S_BM_fillsNext_0 g Q σ) : K_BM_fillsNext g  σ Q := KV.of (show plainName "BallBoxModel" = true by decide) (Nat.le_of_ble_eq_true rfl) h
