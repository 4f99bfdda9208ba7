theorem d_JA_fill_1_0 : decode c_JA_fill_1 0 = .ok (.iconst 0, 1) := by decide +kernel
theorem d_JA_fill_1_1 : decode c_JA_fill_1 1 = .ok (.istore_n 3, 1) := by decide +kernel
theorem d_JA_fill_1_2 : decode c_JA_fill_1 2 = .ok (.aload_n 0, 1) := by decide +kernel
theorem d_JA_fill_1_3 : decode c_JA_fill_1 3 = .ok (.arraylength, 1) := by decide +kernel
theorem d_JA_fill_1_4 : decode c_JA_fill_1 4 = .ok (.istore 4, 2) := by decide +kernel
theorem d_JA_fill_1_6 : decode c_JA_fill_1 6 = .ok (.iload_n 3, 1) := by decide +kernel
theorem d_JA_fill_1_7 : decode c_JA_fill_1 7 = .ok (.iload 4, 2) := by decide +kernel
theorem d_JA_fill_1_9 : decode c_JA_fill_1 9 = .ok (.if_icmp .ge 13, 3) := by decide +kernel
theorem d_JA_fill_1_12 : decode c_JA_fill_1 12 = .ok (.aload_n 0, 1) := by decide +kernel
theorem d_JA_fill_1_13 : decode c_JA_fill_1 13 = .ok (.iload_n 3, 1) := by decide +kernel
theorem d_JA_fill_1_14 : decode c_JA_fill_1 14 = .ok (.lload_n 1, 1) := by decide +kernel
theorem d_JA_fill_1_15 : decode c_JA_fill_1 15 = .ok (.lastore, 1) := by decide +kernel
theorem d_JA_fill_1_16 : decode c_JA_fill_1 16 = .ok (.iinc 3 1, 3) := by decide +kernel
theorem d_JA_fill_1_19 : decode c_JA_fill_1 19 = .ok (.goto (-13), 3) := by decide +kernel
theorem d_JA_fill_1_22 : decode c_JA_fill_1 22 = .ok (.return_, 1) := by decide +kernel
def S_JA_fill_1_0 (g : Gx) (Q : St → Prop) (σ : St) (a0 : Nat) (y1 : Int64) : Prop := Ax g m_JA_fill_1 0 0 (ZV g Q) SH σ 0 0 0 [(0, .ref (gB g + a0)), (1, .long y1)] []
def S_JA_fill_1_6 (g : Gx) (Q : St → Prop) (σ : St) (a0 : Nat) (y1 : Int64) (x3 : Int32) (x4 : Int32) : Prop := Ax g m_JA_fill_1 0 0 (ZV g Q) SH σ 0 0 6 [(0, .ref (gB g + a0)), (1, .long y1), (3, .int x3), (4, .int x4)] []
theorem sg_JA_fill_1_0 {g : Gx} {Q : St → Prop} {σ : St} {a0 : Nat} {N0 : Nat} {y1 : Int64} (ha0 : SH[a0]? = some (.inr (1, N0, [])))
    (h : ∀ u1 : Int32, u1 = (Int32.ofNat N0) → S_JA_fill_1_6 g Q σ a0 y1 (0 : Int32) u1) : S_JA_fill_1_0 g Q σ a0 y1 := by
  show Ax g m_JA_fill_1 0 0 (ZV g Q) SH σ 0 0 0 [(0, .ref (gB g + a0)), (1, .long y1)] []
  refine a_iconst (pc := 0) (0 : Int32) (by decide) d_JA_fill_1_0 ?_
  refine a_istore_n (pc := 1) (lv' := [(3, .int (0 : Int32)), (0, .ref (gB g + a0)), (1, .long y1)]) rfl (Nat.le_of_ble_eq_true rfl) rfl d_JA_fill_1_1 ?_
  refine a_aload_n (pc := 2) 1 rfl rfl d_JA_fill_1_2 ?_
  refine a_alen (pc := 3) (kd := 1) rfl ha0 d_JA_fill_1_3 ?_
  refine a_nmi (pc := 4) (fun u1 hu1 => ?_)
  replace h := h u1 hu1
  refine a_istore (pc := 4) (lv' := [(4, .int u1), (3, .int (0 : Int32)), (0, .ref (gB g + a0)), (1, .long y1)]) (Nat.le_of_ble_eq_true rfl) rfl d_JA_fill_1_4 ?_
  refine a_sub (pc := 6) [2, 3, 1, 0] rfl ?_
  exact h
theorem sg_JA_fill_1_6 {g : Gx} {Q : St → Prop} {σ : St} {a0 : Nat} {N0 : Nat} {y1 : Int64} {x3 : Int32} {x4 : Int32} (ha0 : SH[a0]? = some (.inr (1, N0, [])))
    (h : (x4 ≤ x3 → Q σ) ∧ (¬ x4 ≤ x3 → vp_in x3 N0 ∧ (∀ s1 : St, s1 = saj σ a0 (x3).toNatClampNeg y1 → ∀ u2 : Int32, u2 = x3 + (1 : Int32) → S_JA_fill_1_6 g Q s1 a0 y1 u2 x4))) : S_JA_fill_1_6 g Q σ a0 y1 x3 x4 := by
  show Ax g m_JA_fill_1 0 0 (ZV g Q) SH σ 0 0 6 [(0, .ref (gB g + a0)), (1, .long y1), (3, .int x3), (4, .int x4)] []
  refine a_iload_n (pc := 6) 2 rfl rfl d_JA_fill_1_6 ?_
  refine a_iload (pc := 7) 3 rfl d_JA_fill_1_7 ?_
  refine a_icmp_ge (pc := 9) 22 (by decide) d_JA_fill_1_9 ⟨fun c0 => ?_, fun c0 => ?_⟩
  · replace h := h.1 c0
    exact b_vret (pc := 22) rfl d_JA_fill_1_22 h
  · replace h := h.2 c0
    refine a_aload_n (pc := 12) 0 rfl rfl d_JA_fill_1_12 ?_
    refine a_iload_n (pc := 13) 2 rfl rfl d_JA_fill_1_13 ?_
    refine a_lload_n (pc := 14) 1 rfl rfl d_JA_fill_1_14 ?_
    obtain ⟨hx, h⟩ := h
    refine a_last (pc := 15) ha0 hx d_JA_fill_1_15 ?_
    refine a_nms (fun s1 hs1 => ?_)
    replace h := h s1 hs1
    obtain ⟨u2, hu2⟩ : ∃ y : Int32, y = x3 + (1 : Int32) := ⟨_, rfl⟩
    replace h := h u2 hu2
    refine a_iinc (pc := 16) (v := u2) (lv' := [(3, .int u2), (0, .ref (gB g + a0)), (1, .long y1), (4, .int x4)]) 2 rfl (by rw [hu2]; rfl) (Nat.le_of_ble_eq_true rfl) rfl d_JA_fill_1_16 ?_
    refine a_goto (pc := 19) 6 (by decide) d_JA_fill_1_19 ?_
    refine a_sub (pc := 6) [1, 2, 0, 3] rfl ?_
    exact h
theorem ko_JA_fill_1 {g : Gx}  {a0 : Nat} {y1 : Int64} {σ : St} {Q : St → Prop} (h : S_JA_fill_1_0 g Q σ a0 y1) : K_JA_fill_1 g a0 y1 σ Q := KV.of (show plainName "java/util/Arrays" = true by decide) (Nat.le_of_ble_eq_true rfl) h
theorem d_JA_fill_0 : decode c_JA_fill 0 = .ok (.iconst 0, 1) := by decide +kernel
theorem d_JA_fill_1 : decode c_JA_fill 1 = .ok (.istore_n 2, 1) := by decide +kernel
theorem d_JA_fill_2 : decode c_JA_fill 2 = .ok (.aload_n 0, 1) := by decide +kernel
theorem d_JA_fill_3 : decode c_JA_fill 3 = .ok (.arraylength, 1) := by decide +kernel
theorem d_JA_fill_4 : decode c_JA_fill 4 = .ok (.istore_n 3, 1) := by decide +kernel
theorem d_JA_fill_5 : decode c_JA_fill 5 = .ok (.iload_n 2, 1) := by decide +kernel
theorem d_JA_fill_6 : decode c_JA_fill 6 = .ok (.iload_n 3, 1) := by decide +kernel
theorem d_JA_fill_7 : decode c_JA_fill 7 = .ok (.if_icmp .ge 13, 3) := by decide +kernel
theorem d_JA_fill_10 : decode c_JA_fill 10 = .ok (.aload_n 0, 1) := by decide +kernel
theorem d_JA_fill_11 : decode c_JA_fill 11 = .ok (.iload_n 2, 1) := by decide +kernel
theorem d_JA_fill_12 : decode c_JA_fill 12 = .ok (.iload_n 1, 1) := by decide +kernel
theorem d_JA_fill_13 : decode c_JA_fill 13 = .ok (.iastore, 1) := by decide +kernel
theorem d_JA_fill_14 : decode c_JA_fill 14 = .ok (.iinc 2 1, 3) := by decide +kernel
theorem d_JA_fill_17 : decode c_JA_fill 17 = .ok (.goto (-12), 3) := by decide +kernel
theorem d_JA_fill_20 : decode c_JA_fill 20 = .ok (.return_, 1) := by decide +kernel
def S_JA_fill_0 (g : Gx) (Q : St → Prop) (σ : St) (a0 : Nat) (x1 : Int32) : Prop := Ax g m_JA_fill 0 0 (ZV g Q) SH σ 0 0 0 [(0, .ref (gB g + a0)), (1, .int x1)] []
def S_JA_fill_5 (g : Gx) (Q : St → Prop) (σ : St) (a0 : Nat) (x1 : Int32) (x2 : Int32) (x3 : Int32) : Prop := Ax g m_JA_fill 0 0 (ZV g Q) SH σ 0 0 5 [(0, .ref (gB g + a0)), (1, .int x1), (2, .int x2), (3, .int x3)] []
theorem sg_JA_fill_0 {g : Gx} {Q : St → Prop} {σ : St} {a0 : Nat} {N0 : Nat} {x1 : Int32} (ha0 : SH[a0]? = some (.inr (0, N0, [])))
    (h : ∀ u1 : Int32, u1 = (Int32.ofNat N0) → S_JA_fill_5 g Q σ a0 x1 (0 : Int32) u1) : S_JA_fill_0 g Q σ a0 x1 := by
  show Ax g m_JA_fill 0 0 (ZV g Q) SH σ 0 0 0 [(0, .ref (gB g + a0)), (1, .int x1)] []
  refine a_iconst (pc := 0) (0 : Int32) (by decide) d_JA_fill_0 ?_
  refine a_istore_n (pc := 1) (lv' := [(2, .int (0 : Int32)), (0, .ref (gB g + a0)), (1, .int x1)]) rfl (Nat.le_of_ble_eq_true rfl) rfl d_JA_fill_1 ?_
  refine a_aload_n (pc := 2) 1 rfl rfl d_JA_fill_2 ?_
  refine a_alen (pc := 3) (kd := 0) rfl ha0 d_JA_fill_3 ?_
  refine a_nmi (pc := 4) (fun u1 hu1 => ?_)
  replace h := h u1 hu1
  refine a_istore_n (pc := 4) (lv' := [(3, .int u1), (2, .int (0 : Int32)), (0, .ref (gB g + a0)), (1, .int x1)]) rfl (Nat.le_of_ble_eq_true rfl) rfl d_JA_fill_4 ?_
  refine a_sub (pc := 5) [2, 3, 1, 0] rfl ?_
  exact h
theorem sg_JA_fill_5 {g : Gx} {Q : St → Prop} {σ : St} {a0 : Nat} {N0 : Nat} {x1 : Int32} {x2 : Int32} {x3 : Int32} (ha0 : SH[a0]? = some (.inr (0, N0, [])))
    (h : (x3 ≤ x2 → Q σ) ∧ (¬ x3 ≤ x2 → vp_in x2 N0 ∧ (∀ s1 : St, s1 = sai σ a0 (x2).toNatClampNeg x1 → ∀ u2 : Int32, u2 = x2 + (1 : Int32) → S_JA_fill_5 g Q s1 a0 x1 u2 x3))) : S_JA_fill_5 g Q σ a0 x1 x2 x3 := by
  show Ax g m_JA_fill 0 0 (ZV g Q) SH σ 0 0 5 [(0, .ref (gB g + a0)), (1, .int x1), (2, .int x2), (3, .int x3)] []
  refine a_iload_n (pc := 5) 2 rfl rfl d_JA_fill_5 ?_
  refine a_iload_n (pc := 6) 3 rfl rfl d_JA_fill_6 ?_
  refine a_icmp_ge (pc := 7) 20 (by decide) d_JA_fill_7 ⟨fun c0 => ?_, fun c0 => ?_⟩
  · replace h := h.1 c0
    exact b_vret (pc := 20) rfl d_JA_fill_20 h
  · replace h := h.2 c0
    refine a_aload_n (pc := 10) 0 rfl rfl d_JA_fill_10 ?_
    refine a_iload_n (pc := 11) 2 rfl rfl d_JA_fill_11 ?_
    refine a_iload_n (pc := 12) 1 rfl rfl d_JA_fill_12 ?_
    obtain ⟨hx, h⟩ := h
    refine a_iast (pc := 13) ha0 hx d_JA_fill_13 ?_
    refine a_nms (fun s1 hs1 => ?_)
    replace h := h s1 hs1
    obtain ⟨u2, hu2⟩ : ∃ y : Int32, y = x2 + (1 : Int32) := ⟨_, rfl⟩
    replace h := h u2 hu2
    refine a_iinc (pc := 14) (v := u2) (lv' := [(2, .int u2), (0, .ref (gB g + a0)), (1, .int x1), (3, .int x3)]) 2 rfl (by rw [hu2]; rfl) (Nat.le_of_ble_eq_true rfl) rfl d_JA_fill_14 ?_
    refine a_goto (pc := 17) 5 (by decide) d_JA_fill_17 ?_
    refine a_sub (pc := 5) [1, 2, 0, 3] rfl ?_
    exact h
theorem ko_JA_fill {g : Gx}  {a0 : Nat} {x1 : Int32} {σ : St} {Q : St → Prop} (h : S_JA_fill_0 g Q σ a0 x1) : K_JA_fill g a0 x1 σ Q := KV.of (show plainName "java/util/Arrays" = true by decide) (Nat.le_of_ble_eq_true rfl) h
