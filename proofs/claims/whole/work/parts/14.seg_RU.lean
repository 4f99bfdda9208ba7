theorem d_RU_clear_0 : decode c_RU_clear 0 = .ok (.aload_n 0, 1) := by decide +kernel
theorem d_RU_clear_1 : decode c_RU_clear 1 = .ok (.iconst 0, 1) := by decide +kernel
theorem d_RU_clear_2 : decode c_RU_clear 2 = .ok (.putfield 25, 3) := by decide +kernel
theorem d_RU_clear_5 : decode c_RU_clear 5 = .ok (.aload_n 0, 1) := by decide +kernel
theorem d_RU_clear_6 : decode c_RU_clear 6 = .ok (.iconst 0, 1) := by decide +kernel
theorem d_RU_clear_7 : decode c_RU_clear 7 = .ok (.putfield 29, 3) := by decide +kernel
theorem d_RU_clear_10 : decode c_RU_clear 10 = .ok (.aload_n 0, 1) := by decide +kernel
theorem d_RU_clear_11 : decode c_RU_clear 11 = .ok (.iconst 0, 1) := by decide +kernel
theorem d_RU_clear_12 : decode c_RU_clear 12 = .ok (.putfield 32, 3) := by decide +kernel
theorem d_RU_clear_15 : decode c_RU_clear 15 = .ok (.return_, 1) := by decide +kernel
def S_RU_clear_0 (g : Gx) (Q : St → Prop) (σ : St) (t : Nat) : Prop := Ax g m_RU_clear 0 0 (ZV g Q) SH σ 0 0 0 [(0, .ref (gB g + t))] []
theorem sg_RU_clear_0 {g : Gx} {Q : St → Prop} {σ : St} {t : Nat} (ht : isRU t)
    (h : ∀ s1 : St, s1 = sfi σ t 4 (0 : Int32) → ∀ s2 : St, s2 = sfi s1 t 5 (0 : Int32) → ∀ s3 : St, s3 = sfi s2 t 6 (0 : Int32) → Q s3) : S_RU_clear_0 g Q σ t := by
  show Ax g m_RU_clear 0 0 (ZV g Q) SH σ 0 0 0 [(0, .ref (gB g + t))] []
  refine a_aload_n (pc := 0) 0 rfl rfl d_RU_clear_0 ?_
  refine a_iconst (pc := 1) (0 : Int32) (by decide) d_RU_clear_1 ?_
  refine a_putI (pc := 2) fp_RU_25 (ru0 ht) rfl d_RU_clear_2 ?_
  refine a_nms (fun s1 hs1 => ?_)
  replace h := h s1 hs1
  refine a_aload_n (pc := 5) 0 rfl rfl d_RU_clear_5 ?_
  refine a_iconst (pc := 6) (0 : Int32) (by decide) d_RU_clear_6 ?_
  refine a_putI (pc := 7) fp_RU_29 (ru0 ht) rfl d_RU_clear_7 ?_
  refine a_nms (fun s2 hs2 => ?_)
  replace h := h s2 hs2
  refine a_aload_n (pc := 10) 0 rfl rfl d_RU_clear_10 ?_
  refine a_iconst (pc := 11) (0 : Int32) (by decide) d_RU_clear_11 ?_
  refine a_putI (pc := 12) fp_RU_32 (ru0 ht) rfl d_RU_clear_12 ?_
  refine a_nms (fun s3 hs3 => ?_)
  replace h := h s3 hs3
  exact b_vret (pc := 15) rfl d_RU_clear_15 h
theorem ko_RU_clear {g : Gx}  {t : Nat} {σ : St} {Q : St → Prop} (h : S_RU_clear_0 g Q σ t) : K_RU_clear g t σ Q := KV.of (show plainName "BallBox$Rule" = true by decide) (Nat.le_of_ble_eq_true rfl) h
theorem d_RU_takeOver_0 : decode c_RU_takeOver 0 = .ok (.aload_n 1, 1) := by decide +kernel
theorem d_RU_takeOver_1 : decode c_RU_takeOver 1 = .ok (.getfield 9, 3) := by decide +kernel
theorem d_RU_takeOver_4 : decode c_RU_takeOver 4 = .ok (.iconst 0, 1) := by decide +kernel
theorem d_RU_takeOver_5 : decode c_RU_takeOver 5 = .ok (.aload_n 0, 1) := by decide +kernel
theorem d_RU_takeOver_6 : decode c_RU_takeOver 6 = .ok (.getfield 9, 3) := by decide +kernel
theorem d_RU_takeOver_9 : decode c_RU_takeOver 9 = .ok (.iconst 0, 1) := by decide +kernel
theorem d_RU_takeOver_10 : decode c_RU_takeOver 10 = .ok (.aload_n 0, 1) := by decide +kernel
theorem d_RU_takeOver_11 : decode c_RU_takeOver 11 = .ok (.getfield 9, 3) := by decide +kernel
theorem d_RU_takeOver_14 : decode c_RU_takeOver 14 = .ok (.arraylength, 1) := by decide +kernel
theorem d_RU_takeOver_15 : decode c_RU_takeOver 15 = .ok (.invokestatic 35, 3) := by decide +kernel
theorem d_RU_takeOver_18 : decode c_RU_takeOver 18 = .ok (.aload_n 1, 1) := by decide +kernel
theorem d_RU_takeOver_19 : decode c_RU_takeOver 19 = .ok (.getfield 15, 3) := by decide +kernel
theorem d_RU_takeOver_22 : decode c_RU_takeOver 22 = .ok (.iconst 0, 1) := by decide +kernel
theorem d_RU_takeOver_23 : decode c_RU_takeOver 23 = .ok (.aload_n 0, 1) := by decide +kernel
theorem d_RU_takeOver_24 : decode c_RU_takeOver 24 = .ok (.getfield 15, 3) := by decide +kernel
theorem d_RU_takeOver_27 : decode c_RU_takeOver 27 = .ok (.iconst 0, 1) := by decide +kernel
theorem d_RU_takeOver_28 : decode c_RU_takeOver 28 = .ok (.bipush 12, 2) := by decide +kernel
theorem d_RU_takeOver_30 : decode c_RU_takeOver 30 = .ok (.invokestatic 35, 3) := by decide +kernel
theorem d_RU_takeOver_33 : decode c_RU_takeOver 33 = .ok (.aload_n 1, 1) := by decide +kernel
theorem d_RU_takeOver_34 : decode c_RU_takeOver 34 = .ok (.getfield 18, 3) := by decide +kernel
theorem d_RU_takeOver_37 : decode c_RU_takeOver 37 = .ok (.iconst 0, 1) := by decide +kernel
theorem d_RU_takeOver_38 : decode c_RU_takeOver 38 = .ok (.aload_n 0, 1) := by decide +kernel
theorem d_RU_takeOver_39 : decode c_RU_takeOver 39 = .ok (.getfield 18, 3) := by decide +kernel
theorem d_RU_takeOver_42 : decode c_RU_takeOver 42 = .ok (.iconst 0, 1) := by decide +kernel
theorem d_RU_takeOver_43 : decode c_RU_takeOver 43 = .ok (.bipush 12, 2) := by decide +kernel
theorem d_RU_takeOver_45 : decode c_RU_takeOver 45 = .ok (.invokestatic 35, 3) := by decide +kernel
theorem d_RU_takeOver_48 : decode c_RU_takeOver 48 = .ok (.aload_n 0, 1) := by decide +kernel
theorem d_RU_takeOver_49 : decode c_RU_takeOver 49 = .ok (.aload_n 1, 1) := by decide +kernel
theorem d_RU_takeOver_50 : decode c_RU_takeOver 50 = .ok (.getfield 25, 3) := by decide +kernel
theorem d_RU_takeOver_53 : decode c_RU_takeOver 53 = .ok (.putfield 25, 3) := by decide +kernel
theorem d_RU_takeOver_56 : decode c_RU_takeOver 56 = .ok (.aload_n 0, 1) := by decide +kernel
theorem d_RU_takeOver_57 : decode c_RU_takeOver 57 = .ok (.aload_n 1, 1) := by decide +kernel
theorem d_RU_takeOver_58 : decode c_RU_takeOver 58 = .ok (.getfield 29, 3) := by decide +kernel
theorem d_RU_takeOver_61 : decode c_RU_takeOver 61 = .ok (.putfield 29, 3) := by decide +kernel
theorem d_RU_takeOver_64 : decode c_RU_takeOver 64 = .ok (.aload_n 0, 1) := by decide +kernel
theorem d_RU_takeOver_65 : decode c_RU_takeOver 65 = .ok (.aload_n 1, 1) := by decide +kernel
theorem d_RU_takeOver_66 : decode c_RU_takeOver 66 = .ok (.getfield 32, 3) := by decide +kernel
theorem d_RU_takeOver_69 : decode c_RU_takeOver 69 = .ok (.putfield 32, 3) := by decide +kernel
theorem d_RU_takeOver_72 : decode c_RU_takeOver 72 = .ok (.return_, 1) := by decide +kernel
def S_RU_takeOver_0 (g : Gx) (Q : St → Prop) (σ : St) (t : Nat) (t1 : Nat) : Prop := Ax g m_RU_takeOver 0 0 (ZV g Q) SH σ 0 0 0 [(0, .ref (gB g + t)), (1, .ref (gB g + t1))] []
theorem sg_RU_takeOver_0 {g : Gx} {Q : St → Prop} {σ : St} {t : Nat} {t1 : Nat} (ht : isRU t) (ht1 : isRU t1)
    (h : ∀ s1 : St, s1 = rai σ (t + 1) (va_cpy (ai σ (t1 + 1)) (ai σ (t + 1)) ((0 : Int32)).toNatClampNeg ((0 : Int32)).toNatClampNeg ((400 : Int32)).toNatClampNeg) → ∀ s2 : St, s2 = rai s1 (t + 2) (va_cpy (ai s1 (t1 + 2)) (ai s1 (t + 2)) ((0 : Int32)).toNatClampNeg ((0 : Int32)).toNatClampNeg ((12 : Int32)).toNatClampNeg) → ∀ s3 : St, s3 = rai s2 (t + 3) (va_cpy (ai s2 (t1 + 3)) (ai s2 (t + 3)) ((0 : Int32)).toNatClampNeg ((0 : Int32)).toNatClampNeg ((12 : Int32)).toNatClampNeg) → ∀ s4 : St, s4 = sfi s3 t 4 (fi s3 t1 4) → ∀ s5 : St, s5 = sfi s4 t 5 (fi s4 t1 5) → ∀ s6 : St, s6 = sfi s5 t 6 (fi s5 t1 6) → Q s6) : S_RU_takeOver_0 g Q σ t t1 := by
  show Ax g m_RU_takeOver 0 0 (ZV g Q) SH σ 0 0 0 [(0, .ref (gB g + t)), (1, .ref (gB g + t1))] []
  refine a_aload_n (pc := 0) 1 rfl rfl d_RU_takeOver_0 ?_
  refine a_getR (pc := 1) fg_RU_9 (ru0 ht1) rfl d_RU_takeOver_1 ?_
  refine a_iconst (pc := 4) (0 : Int32) (by decide) d_RU_takeOver_4 ?_
  refine a_aload_n (pc := 5) 0 rfl rfl d_RU_takeOver_5 ?_
  refine a_getR (pc := 6) fg_RU_9 (ru0 ht) rfl d_RU_takeOver_6 ?_
  refine a_iconst (pc := 9) (0 : Int32) (by decide) d_RU_takeOver_9 ?_
  refine a_aload_n (pc := 10) 0 rfl rfl d_RU_takeOver_10 ?_
  refine a_getR (pc := 11) fg_RU_9 (ru0 ht) rfl d_RU_takeOver_11 ?_
  refine a_alen (pc := 14) (kd := 0) rfl (ru1 ht) d_RU_takeOver_14 ?_
  refine a_copyi (pc := 15) tw818 (ru1 ht1) (ru1 ht) (by decide) (by decide) (by decide) (by decide) (by decide) (by decide) (Nat.le_of_ble_eq_true rfl) d_RU_takeOver_15 ?_
  refine a_nms (fun s1 hs1 => ?_)
  replace h := h s1 hs1
  refine a_aload_n (pc := 18) 1 rfl rfl d_RU_takeOver_18 ?_
  refine a_getR (pc := 19) fg_RU_15 (ru0 ht1) rfl d_RU_takeOver_19 ?_
  refine a_iconst (pc := 22) (0 : Int32) (by decide) d_RU_takeOver_22 ?_
  refine a_aload_n (pc := 23) 0 rfl rfl d_RU_takeOver_23 ?_
  refine a_getR (pc := 24) fg_RU_15 (ru0 ht) rfl d_RU_takeOver_24 ?_
  refine a_iconst (pc := 27) (0 : Int32) (by decide) d_RU_takeOver_27 ?_
  refine a_bipush (pc := 28) (12 : Int32) (by decide) d_RU_takeOver_28 ?_
  refine a_copyi (pc := 30) tw818 (ru2 ht1) (ru2 ht) (by decide) (by decide) (by decide) (by decide) (by decide) (by decide) (Nat.le_of_ble_eq_true rfl) d_RU_takeOver_30 ?_
  refine a_nms (fun s2 hs2 => ?_)
  replace h := h s2 hs2
  refine a_aload_n (pc := 33) 1 rfl rfl d_RU_takeOver_33 ?_
  refine a_getR (pc := 34) fg_RU_18 (ru0 ht1) rfl d_RU_takeOver_34 ?_
  refine a_iconst (pc := 37) (0 : Int32) (by decide) d_RU_takeOver_37 ?_
  refine a_aload_n (pc := 38) 0 rfl rfl d_RU_takeOver_38 ?_
  refine a_getR (pc := 39) fg_RU_18 (ru0 ht) rfl d_RU_takeOver_39 ?_
  refine a_iconst (pc := 42) (0 : Int32) (by decide) d_RU_takeOver_42 ?_
  refine a_bipush (pc := 43) (12 : Int32) (by decide) d_RU_takeOver_43 ?_
  refine a_copyi (pc := 45) tw818 (ru3 ht1) (ru3 ht) (by decide) (by decide) (by decide) (by decide) (by decide) (by decide) (Nat.le_of_ble_eq_true rfl) d_RU_takeOver_45 ?_
  refine a_nms (fun s3 hs3 => ?_)
  replace h := h s3 hs3
  refine a_aload_n (pc := 48) 0 rfl rfl d_RU_takeOver_48 ?_
  refine a_aload_n (pc := 49) 1 rfl rfl d_RU_takeOver_49 ?_
  refine a_getI (pc := 50) fg_RU_25 (ru0 ht1) rfl d_RU_takeOver_50 ?_
  refine a_putI (pc := 53) fp_RU_25 (ru0 ht) rfl d_RU_takeOver_53 ?_
  refine a_nms (fun s4 hs4 => ?_)
  replace h := h s4 hs4
  refine a_aload_n (pc := 56) 0 rfl rfl d_RU_takeOver_56 ?_
  refine a_aload_n (pc := 57) 1 rfl rfl d_RU_takeOver_57 ?_
  refine a_getI (pc := 58) fg_RU_29 (ru0 ht1) rfl d_RU_takeOver_58 ?_
  refine a_putI (pc := 61) fp_RU_29 (ru0 ht) rfl d_RU_takeOver_61 ?_
  refine a_nms (fun s5 hs5 => ?_)
  replace h := h s5 hs5
  refine a_aload_n (pc := 64) 0 rfl rfl d_RU_takeOver_64 ?_
  refine a_aload_n (pc := 65) 1 rfl rfl d_RU_takeOver_65 ?_
  refine a_getI (pc := 66) fg_RU_32 (ru0 ht1) rfl d_RU_takeOver_66 ?_
  refine a_putI (pc := 69) fp_RU_32 (ru0 ht) rfl d_RU_takeOver_69 ?_
  refine a_nms (fun s6 hs6 => ?_)
  replace h := h s6 hs6
  exact b_vret (pc := 72) rfl d_RU_takeOver_72 h
theorem ko_RU_takeOver {g : Gx}  {t : Nat} {t1 : Nat} {σ : St} {Q : St → Prop} (h : S_RU_takeOver_0 g Q σ t t1) : K_RU_takeOver g t t1 σ Q := KV.of (show plainName "BallBox$Rule" = true by decide) (Nat.le_of_ble_eq_true rfl) h
theorem d_RU_uses_0 : decode c_RU_uses 0 = .ok (.aload_n 0, 1) := by decide +kernel
theorem d_RU_uses_1 : decode c_RU_uses 1 = .ok (.getfield 32, 3) := by decide +kernel
theorem d_RU_uses_4 : decode c_RU_uses 4 = .ok (.iload_n 1, 1) := by decide +kernel
theorem d_RU_uses_5 : decode c_RU_uses 5 = .ok (.ishr, 1) := by decide +kernel
theorem d_RU_uses_6 : decode c_RU_uses 6 = .ok (.iconst 1, 1) := by decide +kernel
theorem d_RU_uses_7 : decode c_RU_uses 7 = .ok (.iand, 1) := by decide +kernel
theorem d_RU_uses_8 : decode c_RU_uses 8 = .ok (.ifCond .eq 7, 3) := by decide +kernel
theorem d_RU_uses_11 : decode c_RU_uses 11 = .ok (.iconst 1, 1) := by decide +kernel
theorem d_RU_uses_12 : decode c_RU_uses 12 = .ok (.goto 4, 3) := by decide +kernel
theorem d_RU_uses_15 : decode c_RU_uses 15 = .ok (.iconst 0, 1) := by decide +kernel
theorem d_RU_uses_16 : decode c_RU_uses 16 = .ok (.ireturn, 1) := by decide +kernel
def S_RU_uses_0 (g : Gx) (Q : Int32 → St → Prop) (σ : St) (t : Nat) (x1 : Int32) : Prop := Ax g m_RU_uses 0 0 (ZI g Q) SH σ 0 0 0 [(0, .ref (gB g + t)), (1, .int x1)] []
theorem sg_RU_uses_0 {g : Gx} {Q : Int32 → St → Prop} {σ : St} {t : Nat} {x1 : Int32} (ht : isRU t)
    (h : ((((fi σ t 6) >>> (x1 &&& 31)) &&& (1 : Int32)) = 0 → Q (0 : Int32) σ) ∧ (¬ (((fi σ t 6) >>> (x1 &&& 31)) &&& (1 : Int32)) = 0 → Q (1 : Int32) σ)) : S_RU_uses_0 g Q σ t x1 := by
  show Ax g m_RU_uses 0 0 (ZI g Q) SH σ 0 0 0 [(0, .ref (gB g + t)), (1, .int x1)] []
  refine a_aload_n (pc := 0) 0 rfl rfl d_RU_uses_0 ?_
  refine a_getI (pc := 1) fg_RU_32 (ru0 ht) rfl d_RU_uses_1 ?_
  refine a_iload_n (pc := 4) 1 rfl rfl d_RU_uses_4 ?_
  refine a_ishr (pc := 5) d_RU_uses_5 ?_
  refine a_iconst (pc := 6) (1 : Int32) (by decide) d_RU_uses_6 ?_
  refine a_iand (pc := 7) d_RU_uses_7 ?_
  refine a_if_eq (pc := 8) 15 (by decide) d_RU_uses_8 ⟨fun c0 => ?_, fun c0 => ?_⟩
  · replace h := h.1 c0
    refine a_iconst (pc := 15) (0 : Int32) (by decide) d_RU_uses_15 ?_
    exact b_zret (pc := 16) rfl (Or.inl rfl) d_RU_uses_16 h
  · replace h := h.2 c0
    refine a_iconst (pc := 11) (1 : Int32) (by decide) d_RU_uses_11 ?_
    refine a_goto (pc := 12) 16 (by decide) d_RU_uses_12 ?_
    exact b_zret (pc := 16) rfl (Or.inr rfl) d_RU_uses_16 h
theorem ko_RU_uses {g : Gx}  {t : Nat} {x1 : Int32} {σ : St} {Q : Int32 → St → Prop} (h : S_RU_uses_0 g Q σ t x1) : K_RU_uses g t x1 σ Q := KI.of (show plainName "BallBox$Rule" = true by decide) (Nat.le_of_ble_eq_true rfl) h
theorem d_RU_add_0 : decode c_RU_add 0 = .ok (.aload_n 0, 1) := by decide +kernel
theorem d_RU_add_1 : decode c_RU_add 1 = .ok (.getfield 25, 3) := by decide +kernel
theorem d_RU_add_4 : decode c_RU_add 4 = .ok (.aload_n 0, 1) := by decide +kernel
theorem d_RU_add_5 : decode c_RU_add 5 = .ok (.getfield 9, 3) := by decide +kernel
theorem d_RU_add_8 : decode c_RU_add 8 = .ok (.arraylength, 1) := by decide +kernel
theorem d_RU_add_9 : decode c_RU_add 9 = .ok (.if_icmp .ge 23, 3) := by decide +kernel
theorem d_RU_add_12 : decode c_RU_add 12 = .ok (.aload_n 0, 1) := by decide +kernel
theorem d_RU_add_13 : decode c_RU_add 13 = .ok (.getfield 9, 3) := by decide +kernel
theorem d_RU_add_16 : decode c_RU_add 16 = .ok (.aload_n 0, 1) := by decide +kernel
theorem d_RU_add_17 : decode c_RU_add 17 = .ok (.getfield 25, 3) := by decide +kernel
theorem d_RU_add_20 : decode c_RU_add 20 = .ok (.iload_n 1, 1) := by decide +kernel
theorem d_RU_add_21 : decode c_RU_add 21 = .ok (.iastore, 1) := by decide +kernel
theorem d_RU_add_22 : decode c_RU_add 22 = .ok (.aload_n 0, 1) := by decide +kernel
theorem d_RU_add_23 : decode c_RU_add 23 = .ok (.dup, 1) := by decide +kernel
theorem d_RU_add_24 : decode c_RU_add 24 = .ok (.getfield 25, 3) := by decide +kernel
theorem d_RU_add_27 : decode c_RU_add 27 = .ok (.iconst 1, 1) := by decide +kernel
theorem d_RU_add_28 : decode c_RU_add 28 = .ok (.iadd, 1) := by decide +kernel
theorem d_RU_add_29 : decode c_RU_add 29 = .ok (.putfield 25, 3) := by decide +kernel
theorem d_RU_add_32 : decode c_RU_add 32 = .ok (.iload_n 1, 1) := by decide +kernel
theorem d_RU_add_33 : decode c_RU_add 33 = .ok (.iconst (-1), 1) := by decide +kernel
theorem d_RU_add_34 : decode c_RU_add 34 = .ok (.if_icmp .gt 23, 3) := by decide +kernel
theorem d_RU_add_37 : decode c_RU_add 37 = .ok (.iload_n 1, 1) := by decide +kernel
theorem d_RU_add_38 : decode c_RU_add 38 = .ok (.bipush (-8), 2) := by decide +kernel
theorem d_RU_add_40 : decode c_RU_add 40 = .ok (.if_icmp .lt 17, 3) := by decide +kernel
theorem d_RU_add_43 : decode c_RU_add 43 = .ok (.aload_n 0, 1) := by decide +kernel
theorem d_RU_add_44 : decode c_RU_add 44 = .ok (.dup, 1) := by decide +kernel
theorem d_RU_add_45 : decode c_RU_add 45 = .ok (.getfield 32, 3) := by decide +kernel
theorem d_RU_add_48 : decode c_RU_add 48 = .ok (.iconst 1, 1) := by decide +kernel
theorem d_RU_add_49 : decode c_RU_add 49 = .ok (.iconst (-1), 1) := by decide +kernel
theorem d_RU_add_50 : decode c_RU_add 50 = .ok (.iload_n 1, 1) := by decide +kernel
theorem d_RU_add_51 : decode c_RU_add 51 = .ok (.isub, 1) := by decide +kernel
theorem d_RU_add_52 : decode c_RU_add 52 = .ok (.ishl, 1) := by decide +kernel
theorem d_RU_add_53 : decode c_RU_add 53 = .ok (.ior, 1) := by decide +kernel
theorem d_RU_add_54 : decode c_RU_add 54 = .ok (.putfield 32, 3) := by decide +kernel
theorem d_RU_add_57 : decode c_RU_add 57 = .ok (.return_, 1) := by decide +kernel
def S_RU_add_0 (g : Gx) (Q : St → Prop) (σ : St) (t : Nat) (x1 : Int32) : Prop := Ax g m_RU_add 0 0 (ZV g Q) SH σ 0 0 0 [(0, .ref (gB g + t)), (1, .int x1)] []
def S_RU_add_32 (g : Gx) (Q : St → Prop) (σ : St) (t : Nat) (x1 : Int32) : Prop := Ax g m_RU_add 0 0 (ZV g Q) SH σ 0 0 32 [(0, .ref (gB g + t)), (1, .int x1)] []
theorem sg_RU_add_0 {g : Gx} {Q : St → Prop} {σ : St} {t : Nat} {x1 : Int32} (ht : isRU t)
    (h : ((400 : Int32) ≤ (fi σ t 4) → S_RU_add_32 g Q σ t x1) ∧ (¬ (400 : Int32) ≤ (fi σ t 4) → vp_in (fi σ t 4) 400 ∧ (∀ s1 : St, s1 = sai σ (t + 1) ((fi σ t 4)).toNatClampNeg x1 → ∀ s2 : St, s2 = sfi s1 t 4 ((fi s1 t 4) + (1 : Int32)) → S_RU_add_32 g Q s2 t x1))) : S_RU_add_0 g Q σ t x1 := by
  show Ax g m_RU_add 0 0 (ZV g Q) SH σ 0 0 0 [(0, .ref (gB g + t)), (1, .int x1)] []
  refine a_aload_n (pc := 0) 0 rfl rfl d_RU_add_0 ?_
  refine a_getI (pc := 1) fg_RU_25 (ru0 ht) rfl d_RU_add_1 ?_
  refine a_aload_n (pc := 4) 0 rfl rfl d_RU_add_4 ?_
  refine a_getR (pc := 5) fg_RU_9 (ru0 ht) rfl d_RU_add_5 ?_
  refine a_alen (pc := 8) (kd := 0) rfl (ru1 ht) d_RU_add_8 ?_
  refine a_icmp_ge (pc := 9) 32 (by decide) d_RU_add_9 ⟨fun c0 => ?_, fun c0 => ?_⟩
  · replace h := h.1 c0
    refine a_sub (pc := 32) [0, 1] rfl ?_
    exact h
  · replace h := h.2 c0
    refine a_aload_n (pc := 12) 0 rfl rfl d_RU_add_12 ?_
    refine a_getR (pc := 13) fg_RU_9 (ru0 ht) rfl d_RU_add_13 ?_
    refine a_aload_n (pc := 16) 0 rfl rfl d_RU_add_16 ?_
    refine a_getI (pc := 17) fg_RU_25 (ru0 ht) rfl d_RU_add_17 ?_
    refine a_iload_n (pc := 20) 1 rfl rfl d_RU_add_20 ?_
    obtain ⟨hx, h⟩ := h
    refine a_iast (pc := 21) (ru1 ht) hx d_RU_add_21 ?_
    refine a_nms (fun s1 hs1 => ?_)
    replace h := h s1 hs1
    refine a_aload_n (pc := 22) 0 rfl rfl d_RU_add_22 ?_
    refine a_dup (pc := 23) rfl d_RU_add_23 ?_
    refine a_getI (pc := 24) fg_RU_25 (ru0 ht) rfl d_RU_add_24 ?_
    refine a_iconst (pc := 27) (1 : Int32) (by decide) d_RU_add_27 ?_
    refine a_iadd (pc := 28) d_RU_add_28 ?_
    refine a_putI (pc := 29) fp_RU_25 (ru0 ht) rfl d_RU_add_29 ?_
    refine a_nms (fun s2 hs2 => ?_)
    replace h := h s2 hs2
    refine a_sub (pc := 32) [0, 1] rfl ?_
    exact h
theorem sg_RU_add_32 {g : Gx} {Q : St → Prop} {σ : St} {t : Nat} {x1 : Int32} (ht : isRU t)
    (h : ((-1 : Int32) < x1 → Q σ) ∧ (¬ (-1 : Int32) < x1 → (x1 < (-8 : Int32) → Q σ) ∧ (¬ x1 < (-8 : Int32) → ∀ s1 : St, s1 = sfi σ t 6 ((fi σ t 6) ||| ((1 : Int32) <<< (((-1 : Int32) - x1) &&& 31))) → Q s1))) : S_RU_add_32 g Q σ t x1 := by
  show Ax g m_RU_add 0 0 (ZV g Q) SH σ 0 0 32 [(0, .ref (gB g + t)), (1, .int x1)] []
  refine a_iload_n (pc := 32) 1 rfl rfl d_RU_add_32 ?_
  refine a_iconst (pc := 33) (-1 : Int32) (by decide) d_RU_add_33 ?_
  refine a_icmp_gt (pc := 34) 57 (by decide) d_RU_add_34 ⟨fun c0 => ?_, fun c0 => ?_⟩
  · replace h := h.1 c0
    exact b_vret (pc := 57) rfl d_RU_add_57 h
  · replace h := h.2 c0
    refine a_iload_n (pc := 37) 1 rfl rfl d_RU_add_37 ?_
    refine a_bipush (pc := 38) (-8 : Int32) (by decide) d_RU_add_38 ?_
    refine a_icmp_lt (pc := 40) 57 (by decide) d_RU_add_40 ⟨fun c0 => ?_, fun c0 => ?_⟩
    · replace h := h.1 c0
      exact b_vret (pc := 57) rfl d_RU_add_57 h
    · replace h := h.2 c0
      refine a_aload_n (pc := 43) 0 rfl rfl d_RU_add_43 ?_
      refine a_dup (pc := 44) rfl d_RU_add_44 ?_
      refine a_getI (pc := 45) fg_RU_32 (ru0 ht) rfl d_RU_add_45 ?_
      refine a_iconst (pc := 48) (1 : Int32) (by decide) d_RU_add_48 ?_
      refine a_iconst (pc := 49) (-1 : Int32) (by decide) d_RU_add_49 ?_
      refine a_iload_n (pc := 50) 1 rfl rfl d_RU_add_50 ?_
      refine a_isub (pc := 51) d_RU_add_51 ?_
      refine a_ishl (pc := 52) d_RU_add_52 ?_
      refine a_ior (pc := 53) d_RU_add_53 ?_
      refine a_putI (pc := 54) fp_RU_32 (ru0 ht) rfl d_RU_add_54 ?_
      refine a_nms (fun s1 hs1 => ?_)
      replace h := h s1 hs1
      exact b_vret (pc := 57) rfl d_RU_add_57 h
theorem ko_RU_add {g : Gx}  {t : Nat} {x1 : Int32} {σ : St} {Q : St → Prop} (h : S_RU_add_0 g Q σ t x1) : K_RU_add g t x1 σ Q := KV.of (show plainName "BallBox$Rule" = true by decide) (Nat.le_of_ble_eq_true rfl) h
theorem d_RU_endSum_0 : decode c_RU_endSum 0 = .ok (.aload_n 0, 1) := by decide +kernel
theorem d_RU_endSum_1 : decode c_RU_endSum 1 = .ok (.getfield 29, 3) := by decide +kernel
theorem d_RU_endSum_4 : decode c_RU_endSum 4 = .ok (.bipush 12, 2) := by decide +kernel
theorem d_RU_endSum_6 : decode c_RU_endSum 6 = .ok (.if_icmp .ge 16, 3) := by decide +kernel
theorem d_RU_endSum_9 : decode c_RU_endSum 9 = .ok (.aload_n 0, 1) := by decide +kernel
theorem d_RU_endSum_10 : decode c_RU_endSum 10 = .ok (.getfield 15, 3) := by decide +kernel
theorem d_RU_endSum_13 : decode c_RU_endSum 13 = .ok (.aload_n 0, 1) := by decide +kernel
theorem d_RU_endSum_14 : decode c_RU_endSum 14 = .ok (.getfield 29, 3) := by decide +kernel
theorem d_RU_endSum_17 : decode c_RU_endSum 17 = .ok (.aload_n 0, 1) := by decide +kernel
theorem d_RU_endSum_18 : decode c_RU_endSum 18 = .ok (.getfield 25, 3) := by decide +kernel
theorem d_RU_endSum_21 : decode c_RU_endSum 21 = .ok (.iastore, 1) := by decide +kernel
theorem d_RU_endSum_22 : decode c_RU_endSum 22 = .ok (.return_, 1) := by decide +kernel
def S_RU_endSum_0 (g : Gx) (Q : St → Prop) (σ : St) (t : Nat) : Prop := Ax g m_RU_endSum 0 0 (ZV g Q) SH σ 0 0 0 [(0, .ref (gB g + t))] []
theorem sg_RU_endSum_0 {g : Gx} {Q : St → Prop} {σ : St} {t : Nat} (ht : isRU t)
    (h : ((12 : Int32) ≤ (fi σ t 5) → Q σ) ∧ (¬ (12 : Int32) ≤ (fi σ t 5) → vp_in (fi σ t 5) 12 ∧ (∀ s1 : St, s1 = sai σ (t + 2) ((fi σ t 5)).toNatClampNeg (fi σ t 4) → Q s1))) : S_RU_endSum_0 g Q σ t := by
  show Ax g m_RU_endSum 0 0 (ZV g Q) SH σ 0 0 0 [(0, .ref (gB g + t))] []
  refine a_aload_n (pc := 0) 0 rfl rfl d_RU_endSum_0 ?_
  refine a_getI (pc := 1) fg_RU_29 (ru0 ht) rfl d_RU_endSum_1 ?_
  refine a_bipush (pc := 4) (12 : Int32) (by decide) d_RU_endSum_4 ?_
  refine a_icmp_ge (pc := 6) 22 (by decide) d_RU_endSum_6 ⟨fun c0 => ?_, fun c0 => ?_⟩
  · replace h := h.1 c0
    exact b_vret (pc := 22) rfl d_RU_endSum_22 h
  · replace h := h.2 c0
    refine a_aload_n (pc := 9) 0 rfl rfl d_RU_endSum_9 ?_
    refine a_getR (pc := 10) fg_RU_15 (ru0 ht) rfl d_RU_endSum_10 ?_
    refine a_aload_n (pc := 13) 0 rfl rfl d_RU_endSum_13 ?_
    refine a_getI (pc := 14) fg_RU_29 (ru0 ht) rfl d_RU_endSum_14 ?_
    refine a_aload_n (pc := 17) 0 rfl rfl d_RU_endSum_17 ?_
    refine a_getI (pc := 18) fg_RU_25 (ru0 ht) rfl d_RU_endSum_18 ?_
    obtain ⟨hx, h⟩ := h
    refine a_iast (pc := 21) (ru2 ht) hx d_RU_endSum_21 ?_
    refine a_nms (fun s1 hs1 => ?_)
    replace h := h s1 hs1
    exact b_vret (pc := 22) rfl d_RU_endSum_22 h
theorem ko_RU_endSum {g : Gx}  {t : Nat} {σ : St} {Q : St → Prop} (h : S_RU_endSum_0 g Q σ t) : K_RU_endSum g t σ Q := KV.of (show plainName "BallBox$Rule" = true by decide) (Nat.le_of_ble_eq_true rfl) h
theorem d_RU_endClause_0 : decode c_RU_endClause 0 = .ok (.aload_n 0, 1) := by decide +kernel
theorem d_RU_endClause_1 : decode c_RU_endClause 1 = .ok (.getfield 29, 3) := by decide +kernel
theorem d_RU_endClause_4 : decode c_RU_endClause 4 = .ok (.bipush 12, 2) := by decide +kernel
theorem d_RU_endClause_6 : decode c_RU_endClause 6 = .ok (.if_icmp .ge 26, 3) := by decide +kernel
theorem d_RU_endClause_9 : decode c_RU_endClause 9 = .ok (.aload_n 0, 1) := by decide +kernel
theorem d_RU_endClause_10 : decode c_RU_endClause 10 = .ok (.getfield 18, 3) := by decide +kernel
theorem d_RU_endClause_13 : decode c_RU_endClause 13 = .ok (.aload_n 0, 1) := by decide +kernel
theorem d_RU_endClause_14 : decode c_RU_endClause 14 = .ok (.getfield 29, 3) := by decide +kernel
theorem d_RU_endClause_17 : decode c_RU_endClause 17 = .ok (.aload_n 0, 1) := by decide +kernel
theorem d_RU_endClause_18 : decode c_RU_endClause 18 = .ok (.getfield 25, 3) := by decide +kernel
theorem d_RU_endClause_21 : decode c_RU_endClause 21 = .ok (.iastore, 1) := by decide +kernel
theorem d_RU_endClause_22 : decode c_RU_endClause 22 = .ok (.aload_n 0, 1) := by decide +kernel
theorem d_RU_endClause_23 : decode c_RU_endClause 23 = .ok (.dup, 1) := by decide +kernel
theorem d_RU_endClause_24 : decode c_RU_endClause 24 = .ok (.getfield 29, 3) := by decide +kernel
theorem d_RU_endClause_27 : decode c_RU_endClause 27 = .ok (.iconst 1, 1) := by decide +kernel
theorem d_RU_endClause_28 : decode c_RU_endClause 28 = .ok (.iadd, 1) := by decide +kernel
theorem d_RU_endClause_29 : decode c_RU_endClause 29 = .ok (.putfield 29, 3) := by decide +kernel
theorem d_RU_endClause_32 : decode c_RU_endClause 32 = .ok (.return_, 1) := by decide +kernel
def S_RU_endClause_0 (g : Gx) (Q : St → Prop) (σ : St) (t : Nat) : Prop := Ax g m_RU_endClause 0 0 (ZV g Q) SH σ 0 0 0 [(0, .ref (gB g + t))] []
theorem sg_RU_endClause_0 {g : Gx} {Q : St → Prop} {σ : St} {t : Nat} (ht : isRU t)
    (h : ((12 : Int32) ≤ (fi σ t 5) → Q σ) ∧ (¬ (12 : Int32) ≤ (fi σ t 5) → vp_in (fi σ t 5) 12 ∧ (∀ s1 : St, s1 = sai σ (t + 3) ((fi σ t 5)).toNatClampNeg (fi σ t 4) → ∀ s2 : St, s2 = sfi s1 t 5 ((fi s1 t 5) + (1 : Int32)) → Q s2))) : S_RU_endClause_0 g Q σ t := by
  show Ax g m_RU_endClause 0 0 (ZV g Q) SH σ 0 0 0 [(0, .ref (gB g + t))] []
  refine a_aload_n (pc := 0) 0 rfl rfl d_RU_endClause_0 ?_
  refine a_getI (pc := 1) fg_RU_29 (ru0 ht) rfl d_RU_endClause_1 ?_
  refine a_bipush (pc := 4) (12 : Int32) (by decide) d_RU_endClause_4 ?_
  refine a_icmp_ge (pc := 6) 32 (by decide) d_RU_endClause_6 ⟨fun c0 => ?_, fun c0 => ?_⟩
  · replace h := h.1 c0
    exact b_vret (pc := 32) rfl d_RU_endClause_32 h
  · replace h := h.2 c0
    refine a_aload_n (pc := 9) 0 rfl rfl d_RU_endClause_9 ?_
    refine a_getR (pc := 10) fg_RU_18 (ru0 ht) rfl d_RU_endClause_10 ?_
    refine a_aload_n (pc := 13) 0 rfl rfl d_RU_endClause_13 ?_
    refine a_getI (pc := 14) fg_RU_29 (ru0 ht) rfl d_RU_endClause_14 ?_
    refine a_aload_n (pc := 17) 0 rfl rfl d_RU_endClause_17 ?_
    refine a_getI (pc := 18) fg_RU_25 (ru0 ht) rfl d_RU_endClause_18 ?_
    obtain ⟨hx, h⟩ := h
    refine a_iast (pc := 21) (ru3 ht) hx d_RU_endClause_21 ?_
    refine a_nms (fun s1 hs1 => ?_)
    replace h := h s1 hs1
    refine a_aload_n (pc := 22) 0 rfl rfl d_RU_endClause_22 ?_
    refine a_dup (pc := 23) rfl d_RU_endClause_23 ?_
    refine a_getI (pc := 24) fg_RU_29 (ru0 ht) rfl d_RU_endClause_24 ?_
    refine a_iconst (pc := 27) (1 : Int32) (by decide) d_RU_endClause_27 ?_
    refine a_iadd (pc := 28) d_RU_endClause_28 ?_
    refine a_putI (pc := 29) fp_RU_29 (ru0 ht) rfl d_RU_endClause_29 ?_
    refine a_nms (fun s2 hs2 => ?_)
    replace h := h s2 hs2
    exact b_vret (pc := 32) rfl d_RU_endClause_32 h
theorem ko_RU_endClause {g : Gx}  {t : Nat} {σ : St} {Q : St → Prop} (h : S_RU_endClause_0 g Q σ t) : K_RU_endClause g t σ Q := KV.of (show plainName "BallBox$Rule" = true by decide) (Nat.le_of_ble_eq_true rfl) h
theorem d_RU_keyBy_0 : decode c_RU_keyBy 0 = .ok (.iconst 0, 1) := by decide +kernel
theorem d_RU_keyBy_1 : decode c_RU_keyBy 1 = .ok (.istore_n 2, 1) := by decide +kernel
theorem d_RU_keyBy_2 : decode c_RU_keyBy 2 = .ok (.iconst 0, 1) := by decide +kernel
theorem d_RU_keyBy_3 : decode c_RU_keyBy 3 = .ok (.istore_n 3, 1) := by decide +kernel
theorem d_RU_keyBy_4 : decode c_RU_keyBy 4 = .ok (.iload_n 3, 1) := by decide +kernel
theorem d_RU_keyBy_5 : decode c_RU_keyBy 5 = .ok (.aload_n 0, 1) := by decide +kernel
theorem d_RU_keyBy_6 : decode c_RU_keyBy 6 = .ok (.getfield 29, 3) := by decide +kernel
theorem d_RU_keyBy_9 : decode c_RU_keyBy 9 = .ok (.if_icmp .ge 78, 3) := by decide +kernel
theorem d_RU_keyBy_12 : decode c_RU_keyBy 12 = .ok (.aload_n 0, 1) := by decide +kernel
theorem d_RU_keyBy_13 : decode c_RU_keyBy 13 = .ok (.getfield 15, 3) := by decide +kernel
theorem d_RU_keyBy_16 : decode c_RU_keyBy 16 = .ok (.iload_n 3, 1) := by decide +kernel
theorem d_RU_keyBy_17 : decode c_RU_keyBy 17 = .ok (.iaload, 1) := by decide +kernel
theorem d_RU_keyBy_18 : decode c_RU_keyBy 18 = .ok (.aload_n 0, 1) := by decide +kernel
theorem d_RU_keyBy_19 : decode c_RU_keyBy 19 = .ok (.getfield 18, 3) := by decide +kernel
theorem d_RU_keyBy_22 : decode c_RU_keyBy 22 = .ok (.iload_n 3, 1) := by decide +kernel
theorem d_RU_keyBy_23 : decode c_RU_keyBy 23 = .ok (.iaload, 1) := by decide +kernel
theorem d_RU_keyBy_24 : decode c_RU_keyBy 24 = .ok (.if_icmp .ne 7, 3) := by decide +kernel
theorem d_RU_keyBy_27 : decode c_RU_keyBy 27 = .ok (.iconst 1, 1) := by decide +kernel
theorem d_RU_keyBy_28 : decode c_RU_keyBy 28 = .ok (.goto 4, 3) := by decide +kernel
theorem d_RU_keyBy_31 : decode c_RU_keyBy 31 = .ok (.iconst 0, 1) := by decide +kernel
theorem d_RU_keyBy_32 : decode c_RU_keyBy 32 = .ok (.istore 4, 2) := by decide +kernel
theorem d_RU_keyBy_34 : decode c_RU_keyBy 34 = .ok (.iload 4, 2) := by decide +kernel
theorem d_RU_keyBy_36 : decode c_RU_keyBy 36 = .ok (.ifCond .ne 25, 3) := by decide +kernel
theorem d_RU_keyBy_39 : decode c_RU_keyBy 39 = .ok (.aload_n 0, 1) := by decide +kernel
theorem d_RU_keyBy_40 : decode c_RU_keyBy 40 = .ok (.aload_n 0, 1) := by decide +kernel
theorem d_RU_keyBy_41 : decode c_RU_keyBy 41 = .ok (.getfield 15, 3) := by decide +kernel
theorem d_RU_keyBy_44 : decode c_RU_keyBy 44 = .ok (.iload_n 3, 1) := by decide +kernel
theorem d_RU_keyBy_45 : decode c_RU_keyBy 45 = .ok (.iaload, 1) := by decide +kernel
theorem d_RU_keyBy_46 : decode c_RU_keyBy 46 = .ok (.aload_n 0, 1) := by decide +kernel
theorem d_RU_keyBy_47 : decode c_RU_keyBy 47 = .ok (.getfield 18, 3) := by decide +kernel
theorem d_RU_keyBy_50 : decode c_RU_keyBy 50 = .ok (.iload_n 3, 1) := by decide +kernel
theorem d_RU_keyBy_51 : decode c_RU_keyBy 51 = .ok (.iaload, 1) := by decide +kernel
theorem d_RU_keyBy_52 : decode c_RU_keyBy 52 = .ok (.aload_n 1, 1) := by decide +kernel
theorem d_RU_keyBy_53 : decode c_RU_keyBy 53 = .ok (.invokevirtual 41, 3) := by decide +kernel
theorem d_RU_keyBy_56 : decode c_RU_keyBy 56 = .ok (.lconst 0, 1) := by decide +kernel
theorem d_RU_keyBy_57 : decode c_RU_keyBy 57 = .ok (.lcmp, 1) := by decide +kernel
theorem d_RU_keyBy_58 : decode c_RU_keyBy 58 = .ok (.ifCond .eq 16, 3) := by decide +kernel
theorem d_RU_keyBy_61 : decode c_RU_keyBy 61 = .ok (.aload_n 0, 1) := by decide +kernel
theorem d_RU_keyBy_62 : decode c_RU_keyBy 62 = .ok (.iload_n 2, 1) := by decide +kernel
theorem d_RU_keyBy_63 : decode c_RU_keyBy 63 = .ok (.aload_n 0, 1) := by decide +kernel
theorem d_RU_keyBy_64 : decode c_RU_keyBy 64 = .ok (.getfield 15, 3) := by decide +kernel
theorem d_RU_keyBy_67 : decode c_RU_keyBy 67 = .ok (.iload_n 3, 1) := by decide +kernel
theorem d_RU_keyBy_68 : decode c_RU_keyBy 68 = .ok (.iaload, 1) := by decide +kernel
theorem d_RU_keyBy_69 : decode c_RU_keyBy 69 = .ok (.aload_n 1, 1) := by decide +kernel
theorem d_RU_keyBy_70 : decode c_RU_keyBy 70 = .ok (.invokevirtual 41, 3) := by decide +kernel
theorem d_RU_keyBy_73 : decode c_RU_keyBy 73 = .ok (.lreturn, 1) := by decide +kernel
theorem d_RU_keyBy_74 : decode c_RU_keyBy 74 = .ok (.aload_n 0, 1) := by decide +kernel
theorem d_RU_keyBy_75 : decode c_RU_keyBy 75 = .ok (.getfield 18, 3) := by decide +kernel
theorem d_RU_keyBy_78 : decode c_RU_keyBy 78 = .ok (.iload_n 3, 1) := by decide +kernel
theorem d_RU_keyBy_79 : decode c_RU_keyBy 79 = .ok (.iaload, 1) := by decide +kernel
theorem d_RU_keyBy_80 : decode c_RU_keyBy 80 = .ok (.istore_n 2, 1) := by decide +kernel
theorem d_RU_keyBy_81 : decode c_RU_keyBy 81 = .ok (.iinc 3 1, 3) := by decide +kernel
theorem d_RU_keyBy_84 : decode c_RU_keyBy 84 = .ok (.goto (-80), 3) := by decide +kernel
theorem d_RU_keyBy_87 : decode c_RU_keyBy 87 = .ok (.lconst 0, 1) := by decide +kernel
theorem d_RU_keyBy_88 : decode c_RU_keyBy 88 = .ok (.lreturn, 1) := by decide +kernel
def S_RU_keyBy_0 (g : Gx) (Q : Int64 → St → Prop) (σ : St) (t : Nat) (a1 : Nat) : Prop := Ax g m_RU_keyBy 0 0 (ZJ g Q) SH σ 0 0 0 [(0, .ref (gB g + t)), (1, .ref (gB g + a1))] []
def S_RU_keyBy_4 (g : Gx) (Q : Int64 → St → Prop) (σ : St) (t : Nat) (a1 : Nat) (x2 : Int32) (x3 : Int32) : Prop := Ax g m_RU_keyBy 0 0 (ZJ g Q) SH σ 0 0 4 [(0, .ref (gB g + t)), (1, .ref (gB g + a1)), (2, .int x2), (3, .int x3)] []
def S_RU_keyBy_32 (g : Gx) (Q : Int64 → St → Prop) (σ : St) (t : Nat) (a1 : Nat) (x2 : Int32) (x3 : Int32) (z0 : Int32) : Prop := Ax g m_RU_keyBy 0 0 (ZJ g Q) SH σ 0 0 32 [(0, .ref (gB g + t)), (1, .ref (gB g + a1)), (2, .int x2), (3, .int x3)] [.int z0]
theorem sg_RU_keyBy_0 {g : Gx} {Q : Int64 → St → Prop} {σ : St} {t : Nat} {a1 : Nat} {N1 : Nat} (ht : isRU t) (ha1 : SH[a1]? = some (.inr (1, N1, [])))
    (h : S_RU_keyBy_4 g Q σ t a1 (0 : Int32) (0 : Int32)) : S_RU_keyBy_0 g Q σ t a1 := by
  show Ax g m_RU_keyBy 0 0 (ZJ g Q) SH σ 0 0 0 [(0, .ref (gB g + t)), (1, .ref (gB g + a1))] []
  refine a_iconst (pc := 0) (0 : Int32) (by decide) d_RU_keyBy_0 ?_
  refine a_istore_n (pc := 1) (lv' := [(2, .int (0 : Int32)), (0, .ref (gB g + t)), (1, .ref (gB g + a1))]) rfl (Nat.le_of_ble_eq_true rfl) rfl d_RU_keyBy_1 ?_
  refine a_iconst (pc := 2) (0 : Int32) (by decide) d_RU_keyBy_2 ?_
  refine a_istore_n (pc := 3) (lv' := [(3, .int (0 : Int32)), (2, .int (0 : Int32)), (0, .ref (gB g + t)), (1, .ref (gB g + a1))]) rfl (Nat.le_of_ble_eq_true rfl) rfl d_RU_keyBy_3 ?_
  refine a_sub (pc := 4) [2, 3, 1, 0] rfl ?_
  exact h
theorem sg_RU_keyBy_4 {g : Gx} {Q : Int64 → St → Prop} {σ : St} {t : Nat} {a1 : Nat} {N1 : Nat} {x2 : Int32} {x3 : Int32} (ht : isRU t) (ha1 : SH[a1]? = some (.inr (1, N1, [])))
    (h : ((fi σ t 5) ≤ x3 → Q (0 : Int64) σ) ∧ (¬ (fi σ t 5) ≤ x3 → vp_in x3 12 ∧ (vp_in x3 12 ∧ ((¬ (ai σ (t + 2) (x3).toNatClampNeg) = (ai σ (t + 3) (x3).toNatClampNeg) → S_RU_keyBy_32 g Q σ t a1 x2 x3 (0 : Int32)) ∧ ((ai σ (t + 2) (x3).toNatClampNeg) = (ai σ (t + 3) (x3).toNatClampNeg) → S_RU_keyBy_32 g Q σ t a1 x2 x3 (1 : Int32)))))) : S_RU_keyBy_4 g Q σ t a1 x2 x3 := by
  show Ax g m_RU_keyBy 0 0 (ZJ g Q) SH σ 0 0 4 [(0, .ref (gB g + t)), (1, .ref (gB g + a1)), (2, .int x2), (3, .int x3)] []
  refine a_iload_n (pc := 4) 3 rfl rfl d_RU_keyBy_4 ?_
  refine a_aload_n (pc := 5) 0 rfl rfl d_RU_keyBy_5 ?_
  refine a_getI (pc := 6) fg_RU_29 (ru0 ht) rfl d_RU_keyBy_6 ?_
  refine a_icmp_ge (pc := 9) 87 (by decide) d_RU_keyBy_9 ⟨fun c0 => ?_, fun c0 => ?_⟩
  · replace h := h.1 c0
    refine a_lconst (pc := 87) (0 : Int64) (by decide) d_RU_keyBy_87 ?_
    exact b_lret (pc := 88) rfl d_RU_keyBy_88 h
  · replace h := h.2 c0
    refine a_aload_n (pc := 12) 0 rfl rfl d_RU_keyBy_12 ?_
    refine a_getR (pc := 13) fg_RU_15 (ru0 ht) rfl d_RU_keyBy_13 ?_
    refine a_iload_n (pc := 16) 3 rfl rfl d_RU_keyBy_16 ?_
    obtain ⟨hx, h⟩ := h
    refine a_iald (pc := 17) (ru2 ht) hx d_RU_keyBy_17 ?_
    refine a_aload_n (pc := 18) 0 rfl rfl d_RU_keyBy_18 ?_
    refine a_getR (pc := 19) fg_RU_18 (ru0 ht) rfl d_RU_keyBy_19 ?_
    refine a_iload_n (pc := 22) 3 rfl rfl d_RU_keyBy_22 ?_
    obtain ⟨hx, h⟩ := h
    refine a_iald (pc := 23) (ru3 ht) hx d_RU_keyBy_23 ?_
    refine a_icmp_ne (pc := 24) 31 (by decide) d_RU_keyBy_24 ⟨fun c0 => ?_, fun c0 => ?_⟩
    · replace h := h.1 c0
      refine a_iconst (pc := 31) (0 : Int32) (by decide) d_RU_keyBy_31 ?_
      refine a_sub (pc := 32) [0, 1, 2, 3] rfl ?_
      exact h
    · replace h := h.2 c0
      refine a_iconst (pc := 27) (1 : Int32) (by decide) d_RU_keyBy_27 ?_
      refine a_goto (pc := 28) 32 (by decide) d_RU_keyBy_28 ?_
      refine a_sub (pc := 32) [0, 1, 2, 3] rfl ?_
      exact h
theorem sg_RU_keyBy_32 {g : Gx} {Q : Int64 → St → Prop} {σ : St} {t : Nat} {a1 : Nat} {N1 : Nat} {x2 : Int32} {x3 : Int32} {z0 : Int32} (ht : isRU t) (ha1 : SH[a1]? = some (.inr (1, N1, [])))
    (h : (¬ z0 = 0 → vp_in x3 12 ∧ (K_RU_workedOut g t x2 (ai σ (t + 2) (x3).toNatClampNeg) a1 σ (fun (r2 : Int64) (s1 : St) => Q r2 s1))) ∧ (z0 = 0 → vp_in x3 12 ∧ (vp_in x3 12 ∧ (K_RU_workedOut g t (ai σ (t + 2) (x3).toNatClampNeg) (ai σ (t + 3) (x3).toNatClampNeg) a1 σ (fun (r4 : Int64) (s3 : St) => ((lg_cmp r4 (0 : Int64)) = 0 → vp_in x3 12 ∧ (∀ u5 : Int32, u5 = (ai s3 (t + 3) (x3).toNatClampNeg) → ∀ u6 : Int32, u6 = x3 + (1 : Int32) → S_RU_keyBy_4 g Q s3 t a1 u5 u6)) ∧ (¬ (lg_cmp r4 (0 : Int64)) = 0 → vp_in x3 12 ∧ (K_RU_workedOut g t x2 (ai s3 (t + 2) (x3).toNatClampNeg) a1 s3 (fun (r8 : Int64) (s7 : St) => Q r8 s7)))))))) : S_RU_keyBy_32 g Q σ t a1 x2 x3 z0 := by
  show Ax g m_RU_keyBy 0 0 (ZJ g Q) SH σ 0 0 32 [(0, .ref (gB g + t)), (1, .ref (gB g + a1)), (2, .int x2), (3, .int x3)] [.int z0]
  refine a_istore (pc := 32) (lv' := [(4, .int z0), (0, .ref (gB g + t)), (1, .ref (gB g + a1)), (2, .int x2), (3, .int x3)]) (Nat.le_of_ble_eq_true rfl) rfl d_RU_keyBy_32 ?_
  refine a_iload (pc := 34) 0 rfl d_RU_keyBy_34 ?_
  refine a_if_ne (pc := 36) 61 (by decide) d_RU_keyBy_36 ⟨fun c0 => ?_, fun c0 => ?_⟩
  · replace h := h.1 c0
    refine a_aload_n (pc := 61) 1 rfl rfl d_RU_keyBy_61 ?_
    refine a_iload_n (pc := 62) 3 rfl rfl d_RU_keyBy_62 ?_
    refine a_aload_n (pc := 63) 1 rfl rfl d_RU_keyBy_63 ?_
    refine a_getR (pc := 64) fg_RU_15 (ru0 ht) rfl d_RU_keyBy_64 ?_
    refine a_iload_n (pc := 67) 4 rfl rfl d_RU_keyBy_67 ?_
    obtain ⟨hx, h⟩ := h
    refine a_iald (pc := 68) (ru2 ht) hx d_RU_keyBy_68 ?_
    refine a_aload_n (pc := 69) 2 rfl rfl d_RU_keyBy_69 ?_
    refine a_callV (pc := 70) (M' := m_RU_workedOut) (As := [.int x2, .int (ai σ (t + 2) (x3).toNatClampNeg), .ref (gB g + a1)]) (st := []) (mc' := 0) (ms' := 0) lk_RU_41 rfl (ru0 ht) rfl (by decide) (by decide) rfl (Nat.le_of_ble_eq_true rfl) (Nat.le_refl 0) (Nat.le_refl 0) d_RU_keyBy_70 h ?_
    rintro _ _ s1 ⟨r2, rfl, rfl, h⟩ -
    show Ax g m_RU_keyBy 0 0 (ZJ g Q) SH s1 0 0 73 [(4, .int z0), (0, .ref (gB g + t)), (1, .ref (gB g + a1)), (2, .int x2), (3, .int x3)] [.long r2]
    exact b_lret (pc := 73) rfl d_RU_keyBy_73 h
  · replace h := h.2 c0
    refine a_aload_n (pc := 39) 1 rfl rfl d_RU_keyBy_39 ?_
    refine a_aload_n (pc := 40) 1 rfl rfl d_RU_keyBy_40 ?_
    refine a_getR (pc := 41) fg_RU_15 (ru0 ht) rfl d_RU_keyBy_41 ?_
    refine a_iload_n (pc := 44) 4 rfl rfl d_RU_keyBy_44 ?_
    obtain ⟨hx, h⟩ := h
    refine a_iald (pc := 45) (ru2 ht) hx d_RU_keyBy_45 ?_
    refine a_aload_n (pc := 46) 1 rfl rfl d_RU_keyBy_46 ?_
    refine a_getR (pc := 47) fg_RU_18 (ru0 ht) rfl d_RU_keyBy_47 ?_
    refine a_iload_n (pc := 50) 4 rfl rfl d_RU_keyBy_50 ?_
    obtain ⟨hx, h⟩ := h
    refine a_iald (pc := 51) (ru3 ht) hx d_RU_keyBy_51 ?_
    refine a_aload_n (pc := 52) 2 rfl rfl d_RU_keyBy_52 ?_
    refine a_callV (pc := 53) (M' := m_RU_workedOut) (As := [.int (ai σ (t + 2) (x3).toNatClampNeg), .int (ai σ (t + 3) (x3).toNatClampNeg), .ref (gB g + a1)]) (st := []) (mc' := 0) (ms' := 0) lk_RU_41 rfl (ru0 ht) rfl (by decide) (by decide) rfl (Nat.le_of_ble_eq_true rfl) (Nat.le_refl 0) (Nat.le_refl 0) d_RU_keyBy_53 h ?_
    rintro _ _ s3 ⟨r4, rfl, rfl, h⟩ -
    show Ax g m_RU_keyBy 0 0 (ZJ g Q) SH s3 0 0 56 [(4, .int z0), (0, .ref (gB g + t)), (1, .ref (gB g + a1)), (2, .int x2), (3, .int x3)] [.long r4]
    refine a_lconst (pc := 56) (0 : Int64) (by decide) d_RU_keyBy_56 ?_
    refine a_lcmp (pc := 57) d_RU_keyBy_57 ?_
    refine a_if_eq (pc := 58) 74 (by decide) d_RU_keyBy_58 ⟨fun c0 => ?_, fun c0 => ?_⟩
    · replace h := h.1 c0
      refine a_aload_n (pc := 74) 1 rfl rfl d_RU_keyBy_74 ?_
      refine a_getR (pc := 75) fg_RU_18 (ru0 ht) rfl d_RU_keyBy_75 ?_
      refine a_iload_n (pc := 78) 4 rfl rfl d_RU_keyBy_78 ?_
      obtain ⟨hx, h⟩ := h
      refine a_iald (pc := 79) (ru3 ht) hx d_RU_keyBy_79 ?_
      refine a_nmi (pc := 80) (fun u5 hu5 => ?_)
      replace h := h u5 hu5
      refine a_istore_n (pc := 80) (lv' := [(2, .int u5), (4, .int z0), (0, .ref (gB g + t)), (1, .ref (gB g + a1)), (3, .int x3)]) rfl (Nat.le_of_ble_eq_true rfl) rfl d_RU_keyBy_80 ?_
      obtain ⟨u6, hu6⟩ : ∃ y : Int32, y = x3 + (1 : Int32) := ⟨_, rfl⟩
      replace h := h u6 hu6
      refine a_iinc (pc := 81) (v := u6) (lv' := [(3, .int u6), (2, .int u5), (4, .int z0), (0, .ref (gB g + t)), (1, .ref (gB g + a1))]) 4 rfl (by rw [hu6]; rfl) (Nat.le_of_ble_eq_true rfl) rfl d_RU_keyBy_81 ?_
      refine a_goto (pc := 84) 4 (by decide) d_RU_keyBy_84 ?_
      refine a_sub (pc := 4) [3, 4, 1, 0] rfl ?_
      exact h
    · replace h := h.2 c0
      refine a_aload_n (pc := 61) 1 rfl rfl d_RU_keyBy_61 ?_
      refine a_iload_n (pc := 62) 3 rfl rfl d_RU_keyBy_62 ?_
      refine a_aload_n (pc := 63) 1 rfl rfl d_RU_keyBy_63 ?_
      refine a_getR (pc := 64) fg_RU_15 (ru0 ht) rfl d_RU_keyBy_64 ?_
      refine a_iload_n (pc := 67) 4 rfl rfl d_RU_keyBy_67 ?_
      obtain ⟨hx, h⟩ := h
      refine a_iald (pc := 68) (ru2 ht) hx d_RU_keyBy_68 ?_
      refine a_aload_n (pc := 69) 2 rfl rfl d_RU_keyBy_69 ?_
      refine a_callV (pc := 70) (M' := m_RU_workedOut) (As := [.int x2, .int (ai s3 (t + 2) (x3).toNatClampNeg), .ref (gB g + a1)]) (st := []) (mc' := 0) (ms' := 0) lk_RU_41 rfl (ru0 ht) rfl (by decide) (by decide) rfl (Nat.le_of_ble_eq_true rfl) (Nat.le_refl 0) (Nat.le_refl 0) d_RU_keyBy_70 h ?_
      rintro _ _ s7 ⟨r8, rfl, rfl, h⟩ -
      show Ax g m_RU_keyBy 0 0 (ZJ g Q) SH s7 0 0 73 [(4, .int z0), (0, .ref (gB g + t)), (1, .ref (gB g + a1)), (2, .int x2), (3, .int x3)] [.long r8]
      exact b_lret (pc := 73) rfl d_RU_keyBy_73 h
theorem ko_RU_keyBy {g : Gx}  {t : Nat} {a1 : Nat} {σ : St} {Q : Int64 → St → Prop} (h : S_RU_keyBy_0 g Q σ t a1) : K_RU_keyBy g t a1 σ Q := KJ.of (show plainName "BallBox$Rule" = true by decide) (Nat.le_of_ble_eq_true rfl) h
theorem d_RU_workedOut_0 : decode c_RU_workedOut 0 = .ok (.iconst 0, 1) := by decide +kernel
theorem d_RU_workedOut_1 : decode c_RU_workedOut 1 = .ok (.istore 4, 2) := by decide +kernel
theorem d_RU_workedOut_3 : decode c_RU_workedOut 3 = .ok (.iload_n 1, 1) := by decide +kernel
theorem d_RU_workedOut_4 : decode c_RU_workedOut 4 = .ok (.istore 5, 2) := by decide +kernel
theorem d_RU_workedOut_6 : decode c_RU_workedOut 6 = .ok (.iload 5, 2) := by decide +kernel
theorem d_RU_workedOut_8 : decode c_RU_workedOut 8 = .ok (.iload_n 2, 1) := by decide +kernel
theorem d_RU_workedOut_9 : decode c_RU_workedOut 9 = .ok (.if_icmp .ge 136, 3) := by decide +kernel
theorem d_RU_workedOut_12 : decode c_RU_workedOut 12 = .ok (.aload_n 0, 1) := by decide +kernel
theorem d_RU_workedOut_13 : decode c_RU_workedOut 13 = .ok (.getfield 9, 3) := by decide +kernel
theorem d_RU_workedOut_16 : decode c_RU_workedOut 16 = .ok (.iload 5, 2) := by decide +kernel
theorem d_RU_workedOut_18 : decode c_RU_workedOut 18 = .ok (.iaload, 1) := by decide +kernel
theorem d_RU_workedOut_19 : decode c_RU_workedOut 19 = .ok (.istore 6, 2) := by decide +kernel
theorem d_RU_workedOut_21 : decode c_RU_workedOut 21 = .ok (.iload 6, 2) := by decide +kernel
theorem d_RU_workedOut_23 : decode c_RU_workedOut 23 = .ok (.bipush (-8), 2) := by decide +kernel
theorem d_RU_workedOut_25 : decode c_RU_workedOut 25 = .ok (.if_icmp .lt 40, 3) := by decide +kernel
theorem d_RU_workedOut_28 : decode c_RU_workedOut 28 = .ok (.iload 4, 2) := by decide +kernel
theorem d_RU_workedOut_30 : decode c_RU_workedOut 30 = .ok (.bipush 64, 2) := by decide +kernel
theorem d_RU_workedOut_32 : decode c_RU_workedOut 32 = .ok (.if_icmp .ge 107, 3) := by decide +kernel
theorem d_RU_workedOut_35 : decode c_RU_workedOut 35 = .ok (.aload_n 0, 1) := by decide +kernel
theorem d_RU_workedOut_36 : decode c_RU_workedOut 36 = .ok (.getfield 21, 3) := by decide +kernel
theorem d_RU_workedOut_39 : decode c_RU_workedOut 39 = .ok (.iload 4, 2) := by decide +kernel
theorem d_RU_workedOut_41 : decode c_RU_workedOut 41 = .ok (.iload 6, 2) := by decide +kernel
theorem d_RU_workedOut_43 : decode c_RU_workedOut 43 = .ok (.ifCond .lt 9, 3) := by decide +kernel
theorem d_RU_workedOut_46 : decode c_RU_workedOut 46 = .ok (.iload 6, 2) := by decide +kernel
theorem d_RU_workedOut_48 : decode c_RU_workedOut 48 = .ok (.i2l, 1) := by decide +kernel
theorem d_RU_workedOut_49 : decode c_RU_workedOut 49 = .ok (.goto 9, 3) := by decide +kernel
theorem d_RU_workedOut_52 : decode c_RU_workedOut 52 = .ok (.aload_n 3, 1) := by decide +kernel
theorem d_RU_workedOut_53 : decode c_RU_workedOut 53 = .ok (.iconst (-1), 1) := by decide +kernel
theorem d_RU_workedOut_54 : decode c_RU_workedOut 54 = .ok (.iload 6, 2) := by decide +kernel
theorem d_RU_workedOut_56 : decode c_RU_workedOut 56 = .ok (.isub, 1) := by decide +kernel
theorem d_RU_workedOut_57 : decode c_RU_workedOut 57 = .ok (.laload, 1) := by decide +kernel
theorem d_RU_workedOut_58 : decode c_RU_workedOut 58 = .ok (.lastore, 1) := by decide +kernel
theorem d_RU_workedOut_59 : decode c_RU_workedOut 59 = .ok (.iinc 4 1, 3) := by decide +kernel
theorem d_RU_workedOut_62 : decode c_RU_workedOut 62 = .ok (.goto 77, 3) := by decide +kernel
theorem d_RU_workedOut_65 : decode c_RU_workedOut 65 = .ok (.iload 6, 2) := by decide +kernel
theorem d_RU_workedOut_67 : decode c_RU_workedOut 67 = .ok (.bipush (-9), 2) := by decide +kernel
theorem d_RU_workedOut_69 : decode c_RU_workedOut 69 = .ok (.if_icmp .ne 31, 3) := by decide +kernel
theorem d_RU_workedOut_72 : decode c_RU_workedOut 72 = .ok (.iload 4, 2) := by decide +kernel
theorem d_RU_workedOut_74 : decode c_RU_workedOut 74 = .ok (.ifCond .le 65, 3) := by decide +kernel
theorem d_RU_workedOut_77 : decode c_RU_workedOut 77 = .ok (.aload_n 0, 1) := by decide +kernel
theorem d_RU_workedOut_78 : decode c_RU_workedOut 78 = .ok (.getfield 21, 3) := by decide +kernel
theorem d_RU_workedOut_81 : decode c_RU_workedOut 81 = .ok (.iload 4, 2) := by decide +kernel
theorem d_RU_workedOut_83 : decode c_RU_workedOut 83 = .ok (.iconst 1, 1) := by decide +kernel
theorem d_RU_workedOut_84 : decode c_RU_workedOut 84 = .ok (.isub, 1) := by decide +kernel
theorem d_RU_workedOut_85 : decode c_RU_workedOut 85 = .ok (.lconst 1, 1) := by decide +kernel
theorem d_RU_workedOut_86 : decode c_RU_workedOut 86 = .ok (.aload_n 0, 1) := by decide +kernel
theorem d_RU_workedOut_87 : decode c_RU_workedOut 87 = .ok (.getfield 21, 3) := by decide +kernel
theorem d_RU_workedOut_90 : decode c_RU_workedOut 90 = .ok (.iload 4, 2) := by decide +kernel
theorem d_RU_workedOut_92 : decode c_RU_workedOut 92 = .ok (.iconst 1, 1) := by decide +kernel
theorem d_RU_workedOut_93 : decode c_RU_workedOut 93 = .ok (.isub, 1) := by decide +kernel
theorem d_RU_workedOut_94 : decode c_RU_workedOut 94 = .ok (.laload, 1) := by decide +kernel
theorem d_RU_workedOut_95 : decode c_RU_workedOut 95 = .ok (.lsub, 1) := by decide +kernel
theorem d_RU_workedOut_96 : decode c_RU_workedOut 96 = .ok (.lastore, 1) := by decide +kernel
theorem d_RU_workedOut_97 : decode c_RU_workedOut 97 = .ok (.goto 42, 3) := by decide +kernel
theorem d_RU_workedOut_100 : decode c_RU_workedOut 100 = .ok (.iload 4, 2) := by decide +kernel
theorem d_RU_workedOut_102 : decode c_RU_workedOut 102 = .ok (.iconst 1, 1) := by decide +kernel
theorem d_RU_workedOut_103 : decode c_RU_workedOut 103 = .ok (.if_icmp .le 36, 3) := by decide +kernel
theorem d_RU_workedOut_106 : decode c_RU_workedOut 106 = .ok (.iinc 4 (-1), 3) := by decide +kernel
theorem d_RU_workedOut_109 : decode c_RU_workedOut 109 = .ok (.aload_n 0, 1) := by decide +kernel
theorem d_RU_workedOut_110 : decode c_RU_workedOut 110 = .ok (.getfield 21, 3) := by decide +kernel
theorem d_RU_workedOut_113 : decode c_RU_workedOut 113 = .ok (.iload 4, 2) := by decide +kernel
theorem d_RU_workedOut_115 : decode c_RU_workedOut 115 = .ok (.iconst 1, 1) := by decide +kernel
theorem d_RU_workedOut_116 : decode c_RU_workedOut 116 = .ok (.isub, 1) := by decide +kernel
theorem d_RU_workedOut_117 : decode c_RU_workedOut 117 = .ok (.iload 6, 2) := by decide +kernel
theorem d_RU_workedOut_119 : decode c_RU_workedOut 119 = .ok (.aload_n 0, 1) := by decide +kernel
theorem d_RU_workedOut_120 : decode c_RU_workedOut 120 = .ok (.getfield 21, 3) := by decide +kernel
theorem d_RU_workedOut_123 : decode c_RU_workedOut 123 = .ok (.iload 4, 2) := by decide +kernel
theorem d_RU_workedOut_125 : decode c_RU_workedOut 125 = .ok (.iconst 1, 1) := by decide +kernel
theorem d_RU_workedOut_126 : decode c_RU_workedOut 126 = .ok (.isub, 1) := by decide +kernel
theorem d_RU_workedOut_127 : decode c_RU_workedOut 127 = .ok (.laload, 1) := by decide +kernel
theorem d_RU_workedOut_128 : decode c_RU_workedOut 128 = .ok (.aload_n 0, 1) := by decide +kernel
theorem d_RU_workedOut_129 : decode c_RU_workedOut 129 = .ok (.getfield 21, 3) := by decide +kernel
theorem d_RU_workedOut_132 : decode c_RU_workedOut 132 = .ok (.iload 4, 2) := by decide +kernel
theorem d_RU_workedOut_134 : decode c_RU_workedOut 134 = .ok (.laload, 1) := by decide +kernel
theorem d_RU_workedOut_135 : decode c_RU_workedOut 135 = .ok (.invokestatic 45, 3) := by decide +kernel
theorem d_RU_workedOut_138 : decode c_RU_workedOut 138 = .ok (.lastore, 1) := by decide +kernel
theorem d_RU_workedOut_139 : decode c_RU_workedOut 139 = .ok (.iinc 5 1, 3) := by decide +kernel
theorem d_RU_workedOut_142 : decode c_RU_workedOut 142 = .ok (.goto (-136), 3) := by decide +kernel
theorem d_RU_workedOut_145 : decode c_RU_workedOut 145 = .ok (.iload 4, 2) := by decide +kernel
theorem d_RU_workedOut_147 : decode c_RU_workedOut 147 = .ok (.ifCond .le 15, 3) := by decide +kernel
theorem d_RU_workedOut_150 : decode c_RU_workedOut 150 = .ok (.aload_n 0, 1) := by decide +kernel
theorem d_RU_workedOut_151 : decode c_RU_workedOut 151 = .ok (.getfield 21, 3) := by decide +kernel
theorem d_RU_workedOut_154 : decode c_RU_workedOut 154 = .ok (.iload 4, 2) := by decide +kernel
theorem d_RU_workedOut_156 : decode c_RU_workedOut 156 = .ok (.iconst 1, 1) := by decide +kernel
theorem d_RU_workedOut_157 : decode c_RU_workedOut 157 = .ok (.isub, 1) := by decide +kernel
theorem d_RU_workedOut_158 : decode c_RU_workedOut 158 = .ok (.laload, 1) := by decide +kernel
theorem d_RU_workedOut_159 : decode c_RU_workedOut 159 = .ok (.goto 4, 3) := by decide +kernel
theorem d_RU_workedOut_162 : decode c_RU_workedOut 162 = .ok (.lconst 0, 1) := by decide +kernel
theorem d_RU_workedOut_163 : decode c_RU_workedOut 163 = .ok (.lreturn, 1) := by decide +kernel
def S_RU_workedOut_0 (g : Gx) (Q : Int64 → St → Prop) (σ : St) (t : Nat) (a3 : Nat) (x1 : Int32) (x2 : Int32) : Prop := Ax g m_RU_workedOut 0 0 (ZJ g Q) SH σ 0 0 0 [(0, .ref (gB g + t)), (1, .int x1), (2, .int x2), (3, .ref (gB g + a3))] []
def S_RU_workedOut_6 (g : Gx) (Q : Int64 → St → Prop) (σ : St) (t : Nat) (a3 : Nat) (x2 : Int32) (x4 : Int32) (x5 : Int32) : Prop := Ax g m_RU_workedOut 0 0 (ZJ g Q) SH σ 0 0 6 [(0, .ref (gB g + t)), (2, .int x2), (3, .ref (gB g + a3)), (4, .int x4), (5, .int x5)] []
theorem sg_RU_workedOut_0 {g : Gx} {Q : Int64 → St → Prop} {σ : St} {t : Nat} {a3 : Nat} {N3 : Nat} {x1 : Int32} {x2 : Int32} (ht : isRU t) (ha3 : SH[a3]? = some (.inr (1, N3, [])))
    (h : S_RU_workedOut_6 g Q σ t a3 x2 (0 : Int32) x1) : S_RU_workedOut_0 g Q σ t a3 x1 x2 := by
  show Ax g m_RU_workedOut 0 0 (ZJ g Q) SH σ 0 0 0 [(0, .ref (gB g + t)), (1, .int x1), (2, .int x2), (3, .ref (gB g + a3))] []
  refine a_iconst (pc := 0) (0 : Int32) (by decide) d_RU_workedOut_0 ?_
  refine a_istore (pc := 1) (lv' := [(4, .int (0 : Int32)), (0, .ref (gB g + t)), (1, .int x1), (2, .int x2), (3, .ref (gB g + a3))]) (Nat.le_of_ble_eq_true rfl) rfl d_RU_workedOut_1 ?_
  refine a_iload_n (pc := 3) 2 rfl rfl d_RU_workedOut_3 ?_
  refine a_istore (pc := 4) (lv' := [(5, .int x1), (4, .int (0 : Int32)), (0, .ref (gB g + t)), (1, .int x1), (2, .int x2), (3, .ref (gB g + a3))]) (Nat.le_of_ble_eq_true rfl) rfl d_RU_workedOut_4 ?_
  refine a_sub (pc := 6) [2, 4, 5, 1, 0] rfl ?_
  exact h
theorem sg_RU_workedOut_6 {g : Gx} {Q : Int64 → St → Prop} {σ : St} {t : Nat} {a3 : Nat} {N3 : Nat} {x2 : Int32} {x4 : Int32} {x5 : Int32} (ht : isRU t) (ha3 : SH[a3]? = some (.inr (1, N3, [])))
    (h : (x2 ≤ x5 → (x4 ≤ 0 → Q (0 : Int64) σ) ∧ (¬ x4 ≤ 0 → vp_in (x4 - (1 : Int32)) 64 ∧ (Q (aj σ (t + 4) ((x4 - (1 : Int32))).toNatClampNeg) σ))) ∧ (¬ x2 ≤ x5 → vp_in x5 400 ∧ (∀ u1 : Int32, u1 = (ai σ (t + 1) (x5).toNatClampNeg) → (u1 < (-8 : Int32) → (¬ u1 = (-9 : Int32) → (x4 ≤ (1 : Int32) → ∀ u2 : Int32, u2 = x5 + (1 : Int32) → S_RU_workedOut_6 g Q σ t a3 x2 x4 u2) ∧ (¬ x4 ≤ (1 : Int32) → ∀ u3 : Int32, u3 = x4 + (-1 : Int32) → vp_in (u3 - (1 : Int32)) 64 ∧ (vp_in u3 64 ∧ (K_RU_joined g u1 (aj σ (t + 4) ((u3 - (1 : Int32))).toNatClampNeg) (aj σ (t + 4) (u3).toNatClampNeg) σ (fun (r5 : Int64) (s4 : St) => vp_in (u3 - (1 : Int32)) 64 ∧ (∀ s6 : St, s6 = saj s4 (t + 4) ((u3 - (1 : Int32))).toNatClampNeg r5 → ∀ u7 : Int32, u7 = x5 + (1 : Int32) → S_RU_workedOut_6 g Q s6 t a3 x2 u3 u7)))))) ∧ (u1 = (-9 : Int32) → (x4 ≤ 0 → ∀ u8 : Int32, u8 = x5 + (1 : Int32) → S_RU_workedOut_6 g Q σ t a3 x2 x4 u8) ∧ (¬ x4 ≤ 0 → vp_in (x4 - (1 : Int32)) 64 ∧ (vp_in (x4 - (1 : Int32)) 64 ∧ (∀ s9 : St, s9 = saj σ (t + 4) ((x4 - (1 : Int32))).toNatClampNeg ((1 : Int64) - (aj σ (t + 4) ((x4 - (1 : Int32))).toNatClampNeg)) → ∀ u10 : Int32, u10 = x5 + (1 : Int32) → S_RU_workedOut_6 g Q s9 t a3 x2 x4 u10))))) ∧ (¬ u1 < (-8 : Int32) → ((64 : Int32) ≤ x4 → ∀ u11 : Int32, u11 = x5 + (1 : Int32) → S_RU_workedOut_6 g Q σ t a3 x2 x4 u11) ∧ (¬ (64 : Int32) ≤ x4 → (u1 < 0 → vp_in ((-1 : Int32) - u1) N3 ∧ (vp_in x4 64 ∧ (∀ s12 : St, s12 = saj σ (t + 4) (x4).toNatClampNeg (aj σ a3 (((-1 : Int32) - u1)).toNatClampNeg) → ∀ u13 : Int32, u13 = x4 + (1 : Int32) → ∀ u14 : Int32, u14 = x5 + (1 : Int32) → S_RU_workedOut_6 g Q s12 t a3 x2 u13 u14))) ∧ (¬ u1 < 0 → vp_in x4 64 ∧ (∀ s15 : St, s15 = saj σ (t + 4) (x4).toNatClampNeg ((u1).toInt64) → ∀ u16 : Int32, u16 = x4 + (1 : Int32) → ∀ u17 : Int32, u17 = x5 + (1 : Int32) → S_RU_workedOut_6 g Q s15 t a3 x2 u16 u17))))))) : S_RU_workedOut_6 g Q σ t a3 x2 x4 x5 := by
  show Ax g m_RU_workedOut 0 0 (ZJ g Q) SH σ 0 0 6 [(0, .ref (gB g + t)), (2, .int x2), (3, .ref (gB g + a3)), (4, .int x4), (5, .int x5)] []
  refine a_iload (pc := 6) 4 rfl d_RU_workedOut_6 ?_
  refine a_iload_n (pc := 8) 1 rfl rfl d_RU_workedOut_8 ?_
  refine a_icmp_ge (pc := 9) 145 (by decide) d_RU_workedOut_9 ⟨fun c0 => ?_, fun c0 => ?_⟩
  · replace h := h.1 c0
    refine a_iload (pc := 145) 3 rfl d_RU_workedOut_145 ?_
    refine a_if_le (pc := 147) 162 (by decide) d_RU_workedOut_147 ⟨fun c0 => ?_, fun c0 => ?_⟩
    · replace h := h.1 c0
      refine a_lconst (pc := 162) (0 : Int64) (by decide) d_RU_workedOut_162 ?_
      exact b_lret (pc := 163) rfl d_RU_workedOut_163 h
    · replace h := h.2 c0
      refine a_aload_n (pc := 150) 0 rfl rfl d_RU_workedOut_150 ?_
      refine a_getR (pc := 151) fg_RU_21 (ru0 ht) rfl d_RU_workedOut_151 ?_
      refine a_iload (pc := 154) 3 rfl d_RU_workedOut_154 ?_
      refine a_iconst (pc := 156) (1 : Int32) (by decide) d_RU_workedOut_156 ?_
      refine a_isub (pc := 157) d_RU_workedOut_157 ?_
      obtain ⟨hx, h⟩ := h
      refine a_lald (pc := 158) (ru4 ht) hx d_RU_workedOut_158 ?_
      refine a_goto (pc := 159) 163 (by decide) d_RU_workedOut_159 ?_
      exact b_lret (pc := 163) rfl d_RU_workedOut_163 h
  · replace h := h.2 c0
    refine a_aload_n (pc := 12) 0 rfl rfl d_RU_workedOut_12 ?_
    refine a_getR (pc := 13) fg_RU_9 (ru0 ht) rfl d_RU_workedOut_13 ?_
    refine a_iload (pc := 16) 4 rfl d_RU_workedOut_16 ?_
    obtain ⟨hx, h⟩ := h
    refine a_iald (pc := 18) (ru1 ht) hx d_RU_workedOut_18 ?_
    refine a_nmi (pc := 19) (fun u1 hu1 => ?_)
    replace h := h u1 hu1
    refine a_istore (pc := 19) (lv' := [(6, .int u1), (0, .ref (gB g + t)), (2, .int x2), (3, .ref (gB g + a3)), (4, .int x4), (5, .int x5)]) (Nat.le_of_ble_eq_true rfl) rfl d_RU_workedOut_19 ?_
    refine a_iload (pc := 21) 0 rfl d_RU_workedOut_21 ?_
    refine a_bipush (pc := 23) (-8 : Int32) (by decide) d_RU_workedOut_23 ?_
    refine a_icmp_lt (pc := 25) 65 (by decide) d_RU_workedOut_25 ⟨fun c0 => ?_, fun c0 => ?_⟩
    · replace h := h.1 c0
      refine a_iload (pc := 65) 0 rfl d_RU_workedOut_65 ?_
      refine a_bipush (pc := 67) (-9 : Int32) (by decide) d_RU_workedOut_67 ?_
      refine a_icmp_ne (pc := 69) 100 (by decide) d_RU_workedOut_69 ⟨fun c0 => ?_, fun c0 => ?_⟩
      · replace h := h.1 c0
        refine a_iload (pc := 100) 4 rfl d_RU_workedOut_100 ?_
        refine a_iconst (pc := 102) (1 : Int32) (by decide) d_RU_workedOut_102 ?_
        refine a_icmp_le (pc := 103) 139 (by decide) d_RU_workedOut_103 ⟨fun c0 => ?_, fun c0 => ?_⟩
        · replace h := h.1 c0
          obtain ⟨u2, hu2⟩ : ∃ y : Int32, y = x5 + (1 : Int32) := ⟨_, rfl⟩
          replace h := h u2 hu2
          refine a_iinc (pc := 139) (v := u2) (lv' := [(5, .int u2), (6, .int u1), (0, .ref (gB g + t)), (2, .int x2), (3, .ref (gB g + a3)), (4, .int x4)]) 5 rfl (by rw [hu2]; rfl) (Nat.le_of_ble_eq_true rfl) rfl d_RU_workedOut_139 ?_
          refine a_goto (pc := 142) 6 (by decide) d_RU_workedOut_142 ?_
          refine a_sub (pc := 6) [2, 3, 4, 5, 0] rfl ?_
          exact h
        · replace h := h.2 c0
          obtain ⟨u3, hu3⟩ : ∃ y : Int32, y = x4 + (-1 : Int32) := ⟨_, rfl⟩
          replace h := h u3 hu3
          refine a_iinc (pc := 106) (v := u3) (lv' := [(4, .int u3), (6, .int u1), (0, .ref (gB g + t)), (2, .int x2), (3, .ref (gB g + a3)), (5, .int x5)]) 4 rfl (by rw [hu3]; rfl) (Nat.le_of_ble_eq_true rfl) rfl d_RU_workedOut_106 ?_
          refine a_aload_n (pc := 109) 2 rfl rfl d_RU_workedOut_109 ?_
          refine a_getR (pc := 110) fg_RU_21 (ru0 ht) rfl d_RU_workedOut_110 ?_
          refine a_iload (pc := 113) 0 rfl d_RU_workedOut_113 ?_
          refine a_iconst (pc := 115) (1 : Int32) (by decide) d_RU_workedOut_115 ?_
          refine a_isub (pc := 116) d_RU_workedOut_116 ?_
          refine a_iload (pc := 117) 1 rfl d_RU_workedOut_117 ?_
          refine a_aload_n (pc := 119) 2 rfl rfl d_RU_workedOut_119 ?_
          refine a_getR (pc := 120) fg_RU_21 (ru0 ht) rfl d_RU_workedOut_120 ?_
          refine a_iload (pc := 123) 0 rfl d_RU_workedOut_123 ?_
          refine a_iconst (pc := 125) (1 : Int32) (by decide) d_RU_workedOut_125 ?_
          refine a_isub (pc := 126) d_RU_workedOut_126 ?_
          obtain ⟨hx, h⟩ := h
          refine a_lald (pc := 127) (ru4 ht) hx d_RU_workedOut_127 ?_
          refine a_aload_n (pc := 128) 2 rfl rfl d_RU_workedOut_128 ?_
          refine a_getR (pc := 129) fg_RU_21 (ru0 ht) rfl d_RU_workedOut_129 ?_
          refine a_iload (pc := 132) 0 rfl d_RU_workedOut_132 ?_
          obtain ⟨hx, h⟩ := h
          refine a_lald (pc := 134) (ru4 ht) hx d_RU_workedOut_134 ?_
          refine a_callS (pc := 135) (M' := m_RU_joined) (As := [.int u1, .long (aj σ (t + 4) ((u3 - (1 : Int32))).toNatClampNeg), .long (aj σ (t + 4) (u3).toNatClampNeg)]) (st := [.int (u3 - (1 : Int32)), .ref (gB g + (t + 4))]) (mc' := 0) (ms' := 0) lk_RU_45 rfl (by decide) (by decide) rfl (Nat.le_of_ble_eq_true rfl) (Nat.le_refl 0) (Nat.le_refl 0) d_RU_workedOut_135 h ?_
          rintro _ _ s4 ⟨r5, rfl, rfl, h⟩ -
          show Ax g m_RU_workedOut 0 0 (ZJ g Q) SH s4 0 0 138 [(4, .int u3), (6, .int u1), (0, .ref (gB g + t)), (2, .int x2), (3, .ref (gB g + a3)), (5, .int x5)] [.long r5, .int (u3 - (1 : Int32)), .ref (gB g + (t + 4))]
          obtain ⟨hx, h⟩ := h
          refine a_last (pc := 138) (ru4 ht) hx d_RU_workedOut_138 ?_
          refine a_nms (fun s6 hs6 => ?_)
          replace h := h s6 hs6
          obtain ⟨u7, hu7⟩ : ∃ y : Int32, y = x5 + (1 : Int32) := ⟨_, rfl⟩
          replace h := h u7 hu7
          refine a_iinc (pc := 139) (v := u7) (lv' := [(5, .int u7), (4, .int u3), (6, .int u1), (0, .ref (gB g + t)), (2, .int x2), (3, .ref (gB g + a3))]) 5 rfl (by rw [hu7]; rfl) (Nat.le_of_ble_eq_true rfl) rfl d_RU_workedOut_139 ?_
          refine a_goto (pc := 142) 6 (by decide) d_RU_workedOut_142 ?_
          refine a_sub (pc := 6) [3, 4, 5, 1, 0] rfl ?_
          exact h
      · replace h := h.2 c0
        refine a_iload (pc := 72) 4 rfl d_RU_workedOut_72 ?_
        refine a_if_le (pc := 74) 139 (by decide) d_RU_workedOut_74 ⟨fun c0 => ?_, fun c0 => ?_⟩
        · replace h := h.1 c0
          obtain ⟨u8, hu8⟩ : ∃ y : Int32, y = x5 + (1 : Int32) := ⟨_, rfl⟩
          replace h := h u8 hu8
          refine a_iinc (pc := 139) (v := u8) (lv' := [(5, .int u8), (6, .int u1), (0, .ref (gB g + t)), (2, .int x2), (3, .ref (gB g + a3)), (4, .int x4)]) 5 rfl (by rw [hu8]; rfl) (Nat.le_of_ble_eq_true rfl) rfl d_RU_workedOut_139 ?_
          refine a_goto (pc := 142) 6 (by decide) d_RU_workedOut_142 ?_
          refine a_sub (pc := 6) [2, 3, 4, 5, 0] rfl ?_
          exact h
        · replace h := h.2 c0
          refine a_aload_n (pc := 77) 1 rfl rfl d_RU_workedOut_77 ?_
          refine a_getR (pc := 78) fg_RU_21 (ru0 ht) rfl d_RU_workedOut_78 ?_
          refine a_iload (pc := 81) 4 rfl d_RU_workedOut_81 ?_
          refine a_iconst (pc := 83) (1 : Int32) (by decide) d_RU_workedOut_83 ?_
          refine a_isub (pc := 84) d_RU_workedOut_84 ?_
          refine a_lconst (pc := 85) (1 : Int64) (by decide) d_RU_workedOut_85 ?_
          refine a_aload_n (pc := 86) 1 rfl rfl d_RU_workedOut_86 ?_
          refine a_getR (pc := 87) fg_RU_21 (ru0 ht) rfl d_RU_workedOut_87 ?_
          refine a_iload (pc := 90) 4 rfl d_RU_workedOut_90 ?_
          refine a_iconst (pc := 92) (1 : Int32) (by decide) d_RU_workedOut_92 ?_
          refine a_isub (pc := 93) d_RU_workedOut_93 ?_
          obtain ⟨hx, h⟩ := h
          refine a_lald (pc := 94) (ru4 ht) hx d_RU_workedOut_94 ?_
          refine a_lsub (pc := 95) d_RU_workedOut_95 ?_
          obtain ⟨hx, h⟩ := h
          refine a_last (pc := 96) (ru4 ht) hx d_RU_workedOut_96 ?_
          refine a_nms (fun s9 hs9 => ?_)
          replace h := h s9 hs9
          refine a_goto (pc := 97) 139 (by decide) d_RU_workedOut_97 ?_
          obtain ⟨u10, hu10⟩ : ∃ y : Int32, y = x5 + (1 : Int32) := ⟨_, rfl⟩
          replace h := h u10 hu10
          refine a_iinc (pc := 139) (v := u10) (lv' := [(5, .int u10), (6, .int u1), (0, .ref (gB g + t)), (2, .int x2), (3, .ref (gB g + a3)), (4, .int x4)]) 5 rfl (by rw [hu10]; rfl) (Nat.le_of_ble_eq_true rfl) rfl d_RU_workedOut_139 ?_
          refine a_goto (pc := 142) 6 (by decide) d_RU_workedOut_142 ?_
          refine a_sub (pc := 6) [2, 3, 4, 5, 0] rfl ?_
          exact h
    · replace h := h.2 c0
      refine a_iload (pc := 28) 4 rfl d_RU_workedOut_28 ?_
      refine a_bipush (pc := 30) (64 : Int32) (by decide) d_RU_workedOut_30 ?_
      refine a_icmp_ge (pc := 32) 139 (by decide) d_RU_workedOut_32 ⟨fun c0 => ?_, fun c0 => ?_⟩
      · replace h := h.1 c0
        obtain ⟨u11, hu11⟩ : ∃ y : Int32, y = x5 + (1 : Int32) := ⟨_, rfl⟩
        replace h := h u11 hu11
        refine a_iinc (pc := 139) (v := u11) (lv' := [(5, .int u11), (6, .int u1), (0, .ref (gB g + t)), (2, .int x2), (3, .ref (gB g + a3)), (4, .int x4)]) 5 rfl (by rw [hu11]; rfl) (Nat.le_of_ble_eq_true rfl) rfl d_RU_workedOut_139 ?_
        refine a_goto (pc := 142) 6 (by decide) d_RU_workedOut_142 ?_
        refine a_sub (pc := 6) [2, 3, 4, 5, 0] rfl ?_
        exact h
      · replace h := h.2 c0
        refine a_aload_n (pc := 35) 1 rfl rfl d_RU_workedOut_35 ?_
        refine a_getR (pc := 36) fg_RU_21 (ru0 ht) rfl d_RU_workedOut_36 ?_
        refine a_iload (pc := 39) 4 rfl d_RU_workedOut_39 ?_
        refine a_iload (pc := 41) 0 rfl d_RU_workedOut_41 ?_
        refine a_if_lt (pc := 43) 52 (by decide) d_RU_workedOut_43 ⟨fun c0 => ?_, fun c0 => ?_⟩
        · replace h := h.1 c0
          refine a_aload_n (pc := 52) 3 rfl rfl d_RU_workedOut_52 ?_
          refine a_iconst (pc := 53) (-1 : Int32) (by decide) d_RU_workedOut_53 ?_
          refine a_iload (pc := 54) 0 rfl d_RU_workedOut_54 ?_
          refine a_isub (pc := 56) d_RU_workedOut_56 ?_
          obtain ⟨hx, h⟩ := h
          refine a_lald (pc := 57) ha3 hx d_RU_workedOut_57 ?_
          obtain ⟨hx, h⟩ := h
          refine a_last (pc := 58) (ru4 ht) hx d_RU_workedOut_58 ?_
          refine a_nms (fun s12 hs12 => ?_)
          replace h := h s12 hs12
          obtain ⟨u13, hu13⟩ : ∃ y : Int32, y = x4 + (1 : Int32) := ⟨_, rfl⟩
          replace h := h u13 hu13
          refine a_iinc (pc := 59) (v := u13) (lv' := [(4, .int u13), (6, .int u1), (0, .ref (gB g + t)), (2, .int x2), (3, .ref (gB g + a3)), (5, .int x5)]) 4 rfl (by rw [hu13]; rfl) (Nat.le_of_ble_eq_true rfl) rfl d_RU_workedOut_59 ?_
          refine a_goto (pc := 62) 139 (by decide) d_RU_workedOut_62 ?_
          obtain ⟨u14, hu14⟩ : ∃ y : Int32, y = x5 + (1 : Int32) := ⟨_, rfl⟩
          replace h := h u14 hu14
          refine a_iinc (pc := 139) (v := u14) (lv' := [(5, .int u14), (4, .int u13), (6, .int u1), (0, .ref (gB g + t)), (2, .int x2), (3, .ref (gB g + a3))]) 5 rfl (by rw [hu14]; rfl) (Nat.le_of_ble_eq_true rfl) rfl d_RU_workedOut_139 ?_
          refine a_goto (pc := 142) 6 (by decide) d_RU_workedOut_142 ?_
          refine a_sub (pc := 6) [3, 4, 5, 1, 0] rfl ?_
          exact h
        · replace h := h.2 c0
          refine a_iload (pc := 46) 0 rfl d_RU_workedOut_46 ?_
          refine a_i2l (pc := 48) d_RU_workedOut_48 ?_
          refine a_goto (pc := 49) 58 (by decide) d_RU_workedOut_49 ?_
          obtain ⟨hx, h⟩ := h
          refine a_last (pc := 58) (ru4 ht) hx d_RU_workedOut_58 ?_
          refine a_nms (fun s15 hs15 => ?_)
          replace h := h s15 hs15
          obtain ⟨u16, hu16⟩ : ∃ y : Int32, y = x4 + (1 : Int32) := ⟨_, rfl⟩
          replace h := h u16 hu16
          refine a_iinc (pc := 59) (v := u16) (lv' := [(4, .int u16), (6, .int u1), (0, .ref (gB g + t)), (2, .int x2), (3, .ref (gB g + a3)), (5, .int x5)]) 4 rfl (by rw [hu16]; rfl) (Nat.le_of_ble_eq_true rfl) rfl d_RU_workedOut_59 ?_
          refine a_goto (pc := 62) 139 (by decide) d_RU_workedOut_62 ?_
          obtain ⟨u17, hu17⟩ : ∃ y : Int32, y = x5 + (1 : Int32) := ⟨_, rfl⟩
          replace h := h u17 hu17
          refine a_iinc (pc := 139) (v := u17) (lv' := [(5, .int u17), (4, .int u16), (6, .int u1), (0, .ref (gB g + t)), (2, .int x2), (3, .ref (gB g + a3))]) 5 rfl (by rw [hu17]; rfl) (Nat.le_of_ble_eq_true rfl) rfl d_RU_workedOut_139 ?_
          refine a_goto (pc := 142) 6 (by decide) d_RU_workedOut_142 ?_
          refine a_sub (pc := 6) [3, 4, 5, 1, 0] rfl ?_
          exact h
theorem ko_RU_workedOut {g : Gx}  {t : Nat} {x1 : Int32} {x2 : Int32} {a3 : Nat} {σ : St} {Q : Int64 → St → Prop} (h : S_RU_workedOut_0 g Q σ t a3 x1 x2) : K_RU_workedOut g t x1 x2 a3 σ Q := KJ.of (show plainName "BallBox$Rule" = true by decide) (Nat.le_of_ble_eq_true rfl) h
theorem d_RU_joined_0 : decode c_RU_joined 0 = .ok (.iload_n 0, 1) := by decide +kernel
theorem d_RU_joined_1 : decode c_RU_joined 1 = .ok (.tableswitch 191 (-26) (-10) #[159, 135, 191, 191, 191, 171, 147, 123, 109, 95, 91, 87, 83, 191, 191, 187, 183], 83) := by decide +kernel
theorem d_RU_joined_84 : decode c_RU_joined 84 = .ok (.lload_n 1, 1) := by decide +kernel
theorem d_RU_joined_85 : decode c_RU_joined 85 = .ok (.lload_n 3, 1) := by decide +kernel
theorem d_RU_joined_86 : decode c_RU_joined 86 = .ok (.ladd, 1) := by decide +kernel
theorem d_RU_joined_87 : decode c_RU_joined 87 = .ok (.lreturn, 1) := by decide +kernel
theorem d_RU_joined_88 : decode c_RU_joined 88 = .ok (.lload_n 1, 1) := by decide +kernel
theorem d_RU_joined_89 : decode c_RU_joined 89 = .ok (.lload_n 3, 1) := by decide +kernel
theorem d_RU_joined_90 : decode c_RU_joined 90 = .ok (.lsub, 1) := by decide +kernel
theorem d_RU_joined_91 : decode c_RU_joined 91 = .ok (.lreturn, 1) := by decide +kernel
theorem d_RU_joined_92 : decode c_RU_joined 92 = .ok (.lload_n 1, 1) := by decide +kernel
theorem d_RU_joined_93 : decode c_RU_joined 93 = .ok (.lload_n 3, 1) := by decide +kernel
theorem d_RU_joined_94 : decode c_RU_joined 94 = .ok (.lmul, 1) := by decide +kernel
theorem d_RU_joined_95 : decode c_RU_joined 95 = .ok (.lreturn, 1) := by decide +kernel
theorem d_RU_joined_96 : decode c_RU_joined 96 = .ok (.lload_n 3, 1) := by decide +kernel
theorem d_RU_joined_97 : decode c_RU_joined 97 = .ok (.lconst 0, 1) := by decide +kernel
theorem d_RU_joined_98 : decode c_RU_joined 98 = .ok (.lcmp, 1) := by decide +kernel
theorem d_RU_joined_99 : decode c_RU_joined 99 = .ok (.ifCond .ne 7, 3) := by decide +kernel
theorem d_RU_joined_102 : decode c_RU_joined 102 = .ok (.lconst 0, 1) := by decide +kernel
theorem d_RU_joined_103 : decode c_RU_joined 103 = .ok (.goto 6, 3) := by decide +kernel
theorem d_RU_joined_106 : decode c_RU_joined 106 = .ok (.lload_n 1, 1) := by decide +kernel
theorem d_RU_joined_107 : decode c_RU_joined 107 = .ok (.lload_n 3, 1) := by decide +kernel
theorem d_RU_joined_108 : decode c_RU_joined 108 = .ok (.ldiv, 1) := by decide +kernel
theorem d_RU_joined_109 : decode c_RU_joined 109 = .ok (.lreturn, 1) := by decide +kernel
theorem d_RU_joined_110 : decode c_RU_joined 110 = .ok (.lload_n 3, 1) := by decide +kernel
theorem d_RU_joined_111 : decode c_RU_joined 111 = .ok (.lconst 0, 1) := by decide +kernel
theorem d_RU_joined_112 : decode c_RU_joined 112 = .ok (.lcmp, 1) := by decide +kernel
theorem d_RU_joined_113 : decode c_RU_joined 113 = .ok (.ifCond .ne 7, 3) := by decide +kernel
theorem d_RU_joined_116 : decode c_RU_joined 116 = .ok (.lconst 0, 1) := by decide +kernel
theorem d_RU_joined_117 : decode c_RU_joined 117 = .ok (.goto 6, 3) := by decide +kernel
theorem d_RU_joined_120 : decode c_RU_joined 120 = .ok (.lload_n 1, 1) := by decide +kernel
theorem d_RU_joined_121 : decode c_RU_joined 121 = .ok (.lload_n 3, 1) := by decide +kernel
theorem d_RU_joined_122 : decode c_RU_joined 122 = .ok (.lrem, 1) := by decide +kernel
theorem d_RU_joined_123 : decode c_RU_joined 123 = .ok (.lreturn, 1) := by decide +kernel
theorem d_RU_joined_124 : decode c_RU_joined 124 = .ok (.lload_n 1, 1) := by decide +kernel
theorem d_RU_joined_125 : decode c_RU_joined 125 = .ok (.lload_n 3, 1) := by decide +kernel
theorem d_RU_joined_126 : decode c_RU_joined 126 = .ok (.lcmp, 1) := by decide +kernel
theorem d_RU_joined_127 : decode c_RU_joined 127 = .ok (.ifCond .ge 7, 3) := by decide +kernel
theorem d_RU_joined_130 : decode c_RU_joined 130 = .ok (.lconst 1, 1) := by decide +kernel
theorem d_RU_joined_131 : decode c_RU_joined 131 = .ok (.goto 4, 3) := by decide +kernel
theorem d_RU_joined_134 : decode c_RU_joined 134 = .ok (.lconst 0, 1) := by decide +kernel
theorem d_RU_joined_135 : decode c_RU_joined 135 = .ok (.lreturn, 1) := by decide +kernel
theorem d_RU_joined_136 : decode c_RU_joined 136 = .ok (.lload_n 1, 1) := by decide +kernel
theorem d_RU_joined_137 : decode c_RU_joined 137 = .ok (.lload_n 3, 1) := by decide +kernel
theorem d_RU_joined_138 : decode c_RU_joined 138 = .ok (.lcmp, 1) := by decide +kernel
theorem d_RU_joined_139 : decode c_RU_joined 139 = .ok (.ifCond .gt 7, 3) := by decide +kernel
theorem d_RU_joined_142 : decode c_RU_joined 142 = .ok (.lconst 1, 1) := by decide +kernel
theorem d_RU_joined_143 : decode c_RU_joined 143 = .ok (.goto 4, 3) := by decide +kernel
theorem d_RU_joined_146 : decode c_RU_joined 146 = .ok (.lconst 0, 1) := by decide +kernel
theorem d_RU_joined_147 : decode c_RU_joined 147 = .ok (.lreturn, 1) := by decide +kernel
theorem d_RU_joined_148 : decode c_RU_joined 148 = .ok (.lload_n 1, 1) := by decide +kernel
theorem d_RU_joined_149 : decode c_RU_joined 149 = .ok (.lload_n 3, 1) := by decide +kernel
theorem d_RU_joined_150 : decode c_RU_joined 150 = .ok (.lcmp, 1) := by decide +kernel
theorem d_RU_joined_151 : decode c_RU_joined 151 = .ok (.ifCond .ne 7, 3) := by decide +kernel
theorem d_RU_joined_154 : decode c_RU_joined 154 = .ok (.lconst 1, 1) := by decide +kernel
theorem d_RU_joined_155 : decode c_RU_joined 155 = .ok (.goto 4, 3) := by decide +kernel
theorem d_RU_joined_158 : decode c_RU_joined 158 = .ok (.lconst 0, 1) := by decide +kernel
theorem d_RU_joined_159 : decode c_RU_joined 159 = .ok (.lreturn, 1) := by decide +kernel
theorem d_RU_joined_160 : decode c_RU_joined 160 = .ok (.lload_n 1, 1) := by decide +kernel
theorem d_RU_joined_161 : decode c_RU_joined 161 = .ok (.lload_n 3, 1) := by decide +kernel
theorem d_RU_joined_162 : decode c_RU_joined 162 = .ok (.lcmp, 1) := by decide +kernel
theorem d_RU_joined_163 : decode c_RU_joined 163 = .ok (.ifCond .lt 7, 3) := by decide +kernel
theorem d_RU_joined_166 : decode c_RU_joined 166 = .ok (.lconst 1, 1) := by decide +kernel
theorem d_RU_joined_167 : decode c_RU_joined 167 = .ok (.goto 4, 3) := by decide +kernel
theorem d_RU_joined_170 : decode c_RU_joined 170 = .ok (.lconst 0, 1) := by decide +kernel
theorem d_RU_joined_171 : decode c_RU_joined 171 = .ok (.lreturn, 1) := by decide +kernel
theorem d_RU_joined_172 : decode c_RU_joined 172 = .ok (.lload_n 1, 1) := by decide +kernel
theorem d_RU_joined_173 : decode c_RU_joined 173 = .ok (.lload_n 3, 1) := by decide +kernel
theorem d_RU_joined_174 : decode c_RU_joined 174 = .ok (.lcmp, 1) := by decide +kernel
theorem d_RU_joined_175 : decode c_RU_joined 175 = .ok (.ifCond .le 7, 3) := by decide +kernel
theorem d_RU_joined_178 : decode c_RU_joined 178 = .ok (.lconst 1, 1) := by decide +kernel
theorem d_RU_joined_179 : decode c_RU_joined 179 = .ok (.goto 4, 3) := by decide +kernel
theorem d_RU_joined_182 : decode c_RU_joined 182 = .ok (.lconst 0, 1) := by decide +kernel
theorem d_RU_joined_183 : decode c_RU_joined 183 = .ok (.lreturn, 1) := by decide +kernel
theorem d_RU_joined_184 : decode c_RU_joined 184 = .ok (.lload_n 1, 1) := by decide +kernel
theorem d_RU_joined_185 : decode c_RU_joined 185 = .ok (.lload_n 3, 1) := by decide +kernel
theorem d_RU_joined_186 : decode c_RU_joined 186 = .ok (.land, 1) := by decide +kernel
theorem d_RU_joined_187 : decode c_RU_joined 187 = .ok (.lreturn, 1) := by decide +kernel
theorem d_RU_joined_188 : decode c_RU_joined 188 = .ok (.lload_n 1, 1) := by decide +kernel
theorem d_RU_joined_189 : decode c_RU_joined 189 = .ok (.lload_n 3, 1) := by decide +kernel
theorem d_RU_joined_190 : decode c_RU_joined 190 = .ok (.lor, 1) := by decide +kernel
theorem d_RU_joined_191 : decode c_RU_joined 191 = .ok (.lreturn, 1) := by decide +kernel
theorem d_RU_joined_192 : decode c_RU_joined 192 = .ok (.lconst 0, 1) := by decide +kernel
theorem d_RU_joined_193 : decode c_RU_joined 193 = .ok (.lreturn, 1) := by decide +kernel
def S_RU_joined_0 (g : Gx) (Q : Int64 → St → Prop) (σ : St) (x0 : Int32) (y1 : Int64) (y3 : Int64) : Prop := Ax g m_RU_joined 0 0 (ZJ g Q) SH σ 0 0 0 [(0, .int x0), (1, .long y1), (3, .long y3)] []
theorem sg_RU_joined_0 {g : Gx} {Q : Int64 → St → Prop} {σ : St} {x0 : Int32} {y1 : Int64} {y3 : Int64}
    (h : ((x0 = (-26 : Int32) → ((lg_cmp y1 y3) < 0 → Q (0 : Int64) σ) ∧ (¬ (lg_cmp y1 y3) < 0 → Q (1 : Int64) σ)) ∧ (x0 = (-25 : Int32) → (0 < (lg_cmp y1 y3) → Q (0 : Int64) σ) ∧ (¬ 0 < (lg_cmp y1 y3) → Q (1 : Int64) σ)) ∧ (x0 = (-24 : Int32) → Q (0 : Int64) σ) ∧ (x0 = (-23 : Int32) → Q (0 : Int64) σ) ∧ (x0 = (-22 : Int32) → Q (0 : Int64) σ) ∧ (x0 = (-21 : Int32) → ((lg_cmp y1 y3) ≤ 0 → Q (0 : Int64) σ) ∧ (¬ (lg_cmp y1 y3) ≤ 0 → Q (1 : Int64) σ)) ∧ (x0 = (-20 : Int32) → (¬ (lg_cmp y1 y3) = 0 → Q (0 : Int64) σ) ∧ ((lg_cmp y1 y3) = 0 → Q (1 : Int64) σ)) ∧ (x0 = (-19 : Int32) → (0 ≤ (lg_cmp y1 y3) → Q (0 : Int64) σ) ∧ (¬ 0 ≤ (lg_cmp y1 y3) → Q (1 : Int64) σ)) ∧ (x0 = (-18 : Int32) → (¬ (lg_cmp y3 (0 : Int64)) = 0 → ¬ y3 = 0 ∧ (Q (y1 - y1 / y3 * y3) σ)) ∧ ((lg_cmp y3 (0 : Int64)) = 0 → Q (0 : Int64) σ)) ∧ (x0 = (-17 : Int32) → (¬ (lg_cmp y3 (0 : Int64)) = 0 → ¬ y3 = 0 ∧ (Q (y1 / y3) σ)) ∧ ((lg_cmp y3 (0 : Int64)) = 0 → Q (0 : Int64) σ)) ∧ (x0 = (-16 : Int32) → Q (y1 * y3) σ) ∧ (x0 = (-15 : Int32) → Q (y1 - y3) σ) ∧ (x0 = (-14 : Int32) → Q (y1 + y3) σ) ∧ (x0 = (-13 : Int32) → Q (0 : Int64) σ) ∧ (x0 = (-12 : Int32) → Q (0 : Int64) σ) ∧ (x0 = (-11 : Int32) → Q (y1 ||| y3) σ) ∧ (x0 = (-10 : Int32) → Q (y1 &&& y3) σ) ∧ (¬ x0 = (-26 : Int32) → ¬ x0 = (-25 : Int32) → ¬ x0 = (-24 : Int32) → ¬ x0 = (-23 : Int32) → ¬ x0 = (-22 : Int32) → ¬ x0 = (-21 : Int32) → ¬ x0 = (-20 : Int32) → ¬ x0 = (-19 : Int32) → ¬ x0 = (-18 : Int32) → ¬ x0 = (-17 : Int32) → ¬ x0 = (-16 : Int32) → ¬ x0 = (-15 : Int32) → ¬ x0 = (-14 : Int32) → ¬ x0 = (-13 : Int32) → ¬ x0 = (-12 : Int32) → ¬ x0 = (-11 : Int32) → ¬ x0 = (-10 : Int32) → Q (0 : Int64) σ))) : S_RU_joined_0 g Q σ x0 y1 y3 := by
  show Ax g m_RU_joined 0 0 (ZJ g Q) SH σ 0 0 0 [(0, .int x0), (1, .long y1), (3, .long y3)] []
  refine a_iload_n (pc := 0) 0 rfl rfl d_RU_joined_0 ?_
  by_cases c0 : x0 = (-26 : Int32)
  · replace h := h.1 c0
    refine a_tableIn (pc := 1) 160 (off := 159) (by rw [c0]; decide) (by rw [c0]; decide) (by rw [c0]; rfl) (by decide) d_RU_joined_1 ?_
    refine a_lload_n (pc := 160) 1 rfl rfl d_RU_joined_160 ?_
    refine a_lload_n (pc := 161) 2 rfl rfl d_RU_joined_161 ?_
    refine a_lcmp (pc := 162) d_RU_joined_162 ?_
    refine a_if_lt (pc := 163) 170 (by decide) d_RU_joined_163 ⟨fun c0 => ?_, fun c0 => ?_⟩
    · replace h := h.1 c0
      refine a_lconst (pc := 170) (0 : Int64) (by decide) d_RU_joined_170 ?_
      exact b_lret (pc := 171) rfl d_RU_joined_171 h
    · replace h := h.2 c0
      refine a_lconst (pc := 166) (1 : Int64) (by decide) d_RU_joined_166 ?_
      refine a_goto (pc := 167) 171 (by decide) d_RU_joined_167 ?_
      exact b_lret (pc := 171) rfl d_RU_joined_171 h
  replace h := h.2
  by_cases c1 : x0 = (-25 : Int32)
  · replace h := h.1 c1
    refine a_tableIn (pc := 1) 136 (off := 135) (by rw [c1]; decide) (by rw [c1]; decide) (by rw [c1]; rfl) (by decide) d_RU_joined_1 ?_
    refine a_lload_n (pc := 136) 1 rfl rfl d_RU_joined_136 ?_
    refine a_lload_n (pc := 137) 2 rfl rfl d_RU_joined_137 ?_
    refine a_lcmp (pc := 138) d_RU_joined_138 ?_
    refine a_if_gt (pc := 139) 146 (by decide) d_RU_joined_139 ⟨fun c0 => ?_, fun c0 => ?_⟩
    · replace h := h.1 c0
      refine a_lconst (pc := 146) (0 : Int64) (by decide) d_RU_joined_146 ?_
      exact b_lret (pc := 147) rfl d_RU_joined_147 h
    · replace h := h.2 c0
      refine a_lconst (pc := 142) (1 : Int64) (by decide) d_RU_joined_142 ?_
      refine a_goto (pc := 143) 147 (by decide) d_RU_joined_143 ?_
      exact b_lret (pc := 147) rfl d_RU_joined_147 h
  replace h := h.2
  by_cases c2 : x0 = (-24 : Int32)
  · replace h := h.1 c2
    refine a_tableIn (pc := 1) 192 (off := 191) (by rw [c2]; decide) (by rw [c2]; decide) (by rw [c2]; rfl) (by decide) d_RU_joined_1 ?_
    refine a_lconst (pc := 192) (0 : Int64) (by decide) d_RU_joined_192 ?_
    exact b_lret (pc := 193) rfl d_RU_joined_193 h
  replace h := h.2
  by_cases c3 : x0 = (-23 : Int32)
  · replace h := h.1 c3
    refine a_tableIn (pc := 1) 192 (off := 191) (by rw [c3]; decide) (by rw [c3]; decide) (by rw [c3]; rfl) (by decide) d_RU_joined_1 ?_
    refine a_lconst (pc := 192) (0 : Int64) (by decide) d_RU_joined_192 ?_
    exact b_lret (pc := 193) rfl d_RU_joined_193 h
  replace h := h.2
  by_cases c4 : x0 = (-22 : Int32)
  · replace h := h.1 c4
    refine a_tableIn (pc := 1) 192 (off := 191) (by rw [c4]; decide) (by rw [c4]; decide) (by rw [c4]; rfl) (by decide) d_RU_joined_1 ?_
    refine a_lconst (pc := 192) (0 : Int64) (by decide) d_RU_joined_192 ?_
    exact b_lret (pc := 193) rfl d_RU_joined_193 h
  replace h := h.2
  by_cases c5 : x0 = (-21 : Int32)
  · replace h := h.1 c5
    refine a_tableIn (pc := 1) 172 (off := 171) (by rw [c5]; decide) (by rw [c5]; decide) (by rw [c5]; rfl) (by decide) d_RU_joined_1 ?_
    refine a_lload_n (pc := 172) 1 rfl rfl d_RU_joined_172 ?_
    refine a_lload_n (pc := 173) 2 rfl rfl d_RU_joined_173 ?_
    refine a_lcmp (pc := 174) d_RU_joined_174 ?_
    refine a_if_le (pc := 175) 182 (by decide) d_RU_joined_175 ⟨fun c0 => ?_, fun c0 => ?_⟩
    · replace h := h.1 c0
      refine a_lconst (pc := 182) (0 : Int64) (by decide) d_RU_joined_182 ?_
      exact b_lret (pc := 183) rfl d_RU_joined_183 h
    · replace h := h.2 c0
      refine a_lconst (pc := 178) (1 : Int64) (by decide) d_RU_joined_178 ?_
      refine a_goto (pc := 179) 183 (by decide) d_RU_joined_179 ?_
      exact b_lret (pc := 183) rfl d_RU_joined_183 h
  replace h := h.2
  by_cases c6 : x0 = (-20 : Int32)
  · replace h := h.1 c6
    refine a_tableIn (pc := 1) 148 (off := 147) (by rw [c6]; decide) (by rw [c6]; decide) (by rw [c6]; rfl) (by decide) d_RU_joined_1 ?_
    refine a_lload_n (pc := 148) 1 rfl rfl d_RU_joined_148 ?_
    refine a_lload_n (pc := 149) 2 rfl rfl d_RU_joined_149 ?_
    refine a_lcmp (pc := 150) d_RU_joined_150 ?_
    refine a_if_ne (pc := 151) 158 (by decide) d_RU_joined_151 ⟨fun c0 => ?_, fun c0 => ?_⟩
    · replace h := h.1 c0
      refine a_lconst (pc := 158) (0 : Int64) (by decide) d_RU_joined_158 ?_
      exact b_lret (pc := 159) rfl d_RU_joined_159 h
    · replace h := h.2 c0
      refine a_lconst (pc := 154) (1 : Int64) (by decide) d_RU_joined_154 ?_
      refine a_goto (pc := 155) 159 (by decide) d_RU_joined_155 ?_
      exact b_lret (pc := 159) rfl d_RU_joined_159 h
  replace h := h.2
  by_cases c7 : x0 = (-19 : Int32)
  · replace h := h.1 c7
    refine a_tableIn (pc := 1) 124 (off := 123) (by rw [c7]; decide) (by rw [c7]; decide) (by rw [c7]; rfl) (by decide) d_RU_joined_1 ?_
    refine a_lload_n (pc := 124) 1 rfl rfl d_RU_joined_124 ?_
    refine a_lload_n (pc := 125) 2 rfl rfl d_RU_joined_125 ?_
    refine a_lcmp (pc := 126) d_RU_joined_126 ?_
    refine a_if_ge (pc := 127) 134 (by decide) d_RU_joined_127 ⟨fun c0 => ?_, fun c0 => ?_⟩
    · replace h := h.1 c0
      refine a_lconst (pc := 134) (0 : Int64) (by decide) d_RU_joined_134 ?_
      exact b_lret (pc := 135) rfl d_RU_joined_135 h
    · replace h := h.2 c0
      refine a_lconst (pc := 130) (1 : Int64) (by decide) d_RU_joined_130 ?_
      refine a_goto (pc := 131) 135 (by decide) d_RU_joined_131 ?_
      exact b_lret (pc := 135) rfl d_RU_joined_135 h
  replace h := h.2
  by_cases c8 : x0 = (-18 : Int32)
  · replace h := h.1 c8
    refine a_tableIn (pc := 1) 110 (off := 109) (by rw [c8]; decide) (by rw [c8]; decide) (by rw [c8]; rfl) (by decide) d_RU_joined_1 ?_
    refine a_lload_n (pc := 110) 2 rfl rfl d_RU_joined_110 ?_
    refine a_lconst (pc := 111) (0 : Int64) (by decide) d_RU_joined_111 ?_
    refine a_lcmp (pc := 112) d_RU_joined_112 ?_
    refine a_if_ne (pc := 113) 120 (by decide) d_RU_joined_113 ⟨fun c0 => ?_, fun c0 => ?_⟩
    · replace h := h.1 c0
      refine a_lload_n (pc := 120) 1 rfl rfl d_RU_joined_120 ?_
      refine a_lload_n (pc := 121) 2 rfl rfl d_RU_joined_121 ?_
      obtain ⟨hne, h⟩ := h
      refine a_lrem (pc := 122) hne d_RU_joined_122 ?_
      exact b_lret (pc := 123) rfl d_RU_joined_123 h
    · replace h := h.2 c0
      refine a_lconst (pc := 116) (0 : Int64) (by decide) d_RU_joined_116 ?_
      refine a_goto (pc := 117) 123 (by decide) d_RU_joined_117 ?_
      exact b_lret (pc := 123) rfl d_RU_joined_123 h
  replace h := h.2
  by_cases c9 : x0 = (-17 : Int32)
  · replace h := h.1 c9
    refine a_tableIn (pc := 1) 96 (off := 95) (by rw [c9]; decide) (by rw [c9]; decide) (by rw [c9]; rfl) (by decide) d_RU_joined_1 ?_
    refine a_lload_n (pc := 96) 2 rfl rfl d_RU_joined_96 ?_
    refine a_lconst (pc := 97) (0 : Int64) (by decide) d_RU_joined_97 ?_
    refine a_lcmp (pc := 98) d_RU_joined_98 ?_
    refine a_if_ne (pc := 99) 106 (by decide) d_RU_joined_99 ⟨fun c0 => ?_, fun c0 => ?_⟩
    · replace h := h.1 c0
      refine a_lload_n (pc := 106) 1 rfl rfl d_RU_joined_106 ?_
      refine a_lload_n (pc := 107) 2 rfl rfl d_RU_joined_107 ?_
      obtain ⟨hne, h⟩ := h
      refine a_ldiv (pc := 108) hne d_RU_joined_108 ?_
      exact b_lret (pc := 109) rfl d_RU_joined_109 h
    · replace h := h.2 c0
      refine a_lconst (pc := 102) (0 : Int64) (by decide) d_RU_joined_102 ?_
      refine a_goto (pc := 103) 109 (by decide) d_RU_joined_103 ?_
      exact b_lret (pc := 109) rfl d_RU_joined_109 h
  replace h := h.2
  by_cases c10 : x0 = (-16 : Int32)
  · replace h := h.1 c10
    refine a_tableIn (pc := 1) 92 (off := 91) (by rw [c10]; decide) (by rw [c10]; decide) (by rw [c10]; rfl) (by decide) d_RU_joined_1 ?_
    refine a_lload_n (pc := 92) 1 rfl rfl d_RU_joined_92 ?_
    refine a_lload_n (pc := 93) 2 rfl rfl d_RU_joined_93 ?_
    refine a_lmul (pc := 94) d_RU_joined_94 ?_
    exact b_lret (pc := 95) rfl d_RU_joined_95 h
  replace h := h.2
  by_cases c11 : x0 = (-15 : Int32)
  · replace h := h.1 c11
    refine a_tableIn (pc := 1) 88 (off := 87) (by rw [c11]; decide) (by rw [c11]; decide) (by rw [c11]; rfl) (by decide) d_RU_joined_1 ?_
    refine a_lload_n (pc := 88) 1 rfl rfl d_RU_joined_88 ?_
    refine a_lload_n (pc := 89) 2 rfl rfl d_RU_joined_89 ?_
    refine a_lsub (pc := 90) d_RU_joined_90 ?_
    exact b_lret (pc := 91) rfl d_RU_joined_91 h
  replace h := h.2
  by_cases c12 : x0 = (-14 : Int32)
  · replace h := h.1 c12
    refine a_tableIn (pc := 1) 84 (off := 83) (by rw [c12]; decide) (by rw [c12]; decide) (by rw [c12]; rfl) (by decide) d_RU_joined_1 ?_
    refine a_lload_n (pc := 84) 1 rfl rfl d_RU_joined_84 ?_
    refine a_lload_n (pc := 85) 2 rfl rfl d_RU_joined_85 ?_
    refine a_ladd (pc := 86) d_RU_joined_86 ?_
    exact b_lret (pc := 87) rfl d_RU_joined_87 h
  replace h := h.2
  by_cases c13 : x0 = (-13 : Int32)
  · replace h := h.1 c13
    refine a_tableIn (pc := 1) 192 (off := 191) (by rw [c13]; decide) (by rw [c13]; decide) (by rw [c13]; rfl) (by decide) d_RU_joined_1 ?_
    refine a_lconst (pc := 192) (0 : Int64) (by decide) d_RU_joined_192 ?_
    exact b_lret (pc := 193) rfl d_RU_joined_193 h
  replace h := h.2
  by_cases c14 : x0 = (-12 : Int32)
  · replace h := h.1 c14
    refine a_tableIn (pc := 1) 192 (off := 191) (by rw [c14]; decide) (by rw [c14]; decide) (by rw [c14]; rfl) (by decide) d_RU_joined_1 ?_
    refine a_lconst (pc := 192) (0 : Int64) (by decide) d_RU_joined_192 ?_
    exact b_lret (pc := 193) rfl d_RU_joined_193 h
  replace h := h.2
  by_cases c15 : x0 = (-11 : Int32)
  · replace h := h.1 c15
    refine a_tableIn (pc := 1) 188 (off := 187) (by rw [c15]; decide) (by rw [c15]; decide) (by rw [c15]; rfl) (by decide) d_RU_joined_1 ?_
    refine a_lload_n (pc := 188) 1 rfl rfl d_RU_joined_188 ?_
    refine a_lload_n (pc := 189) 2 rfl rfl d_RU_joined_189 ?_
    refine a_lor (pc := 190) d_RU_joined_190 ?_
    exact b_lret (pc := 191) rfl d_RU_joined_191 h
  replace h := h.2
  by_cases c16 : x0 = (-10 : Int32)
  · replace h := h.1 c16
    refine a_tableIn (pc := 1) 184 (off := 183) (by rw [c16]; decide) (by rw [c16]; decide) (by rw [c16]; rfl) (by decide) d_RU_joined_1 ?_
    refine a_lload_n (pc := 184) 1 rfl rfl d_RU_joined_184 ?_
    refine a_lload_n (pc := 185) 2 rfl rfl d_RU_joined_185 ?_
    refine a_land (pc := 186) d_RU_joined_186 ?_
    exact b_lret (pc := 187) rfl d_RU_joined_187 h
  replace h := h.2
  replace h := h c0 c1 c2 c3 c4 c5 c6 c7 c8 c9 c10 c11 c12 c13 c14 c15 c16
  have e0 := lv_neT (a := -26) c0 rfl
  have e1 := lv_neT (a := -25) c1 rfl
  have e2 := lv_neT (a := -24) c2 rfl
  have e3 := lv_neT (a := -23) c3 rfl
  have e4 := lv_neT (a := -22) c4 rfl
  have e5 := lv_neT (a := -21) c5 rfl
  have e6 := lv_neT (a := -20) c6 rfl
  have e7 := lv_neT (a := -19) c7 rfl
  have e8 := lv_neT (a := -18) c8 rfl
  have e9 := lv_neT (a := -17) c9 rfl
  have e10 := lv_neT (a := -16) c10 rfl
  have e11 := lv_neT (a := -15) c11 rfl
  have e12 := lv_neT (a := -14) c12 rfl
  have e13 := lv_neT (a := -13) c13 rfl
  have e14 := lv_neT (a := -12) c14 rfl
  have e15 := lv_neT (a := -11) c15 rfl
  have e16 := lv_neT (a := -10) c16 rfl
  refine a_tableOut (pc := 1) 192 (by omega) (by decide) d_RU_joined_1 ?_
  refine a_lconst (pc := 192) (0 : Int64) (by decide) d_RU_joined_192 ?_
  exact b_lret (pc := 193) rfl d_RU_joined_193 h
theorem ko_RU_joined {g : Gx}  {x0 : Int32} {y1 : Int64} {y3 : Int64} {σ : St} {Q : Int64 → St → Prop} (h : S_RU_joined_0 g Q σ x0 y1 y3) : K_RU_joined g x0 y1 y3 σ Q := KJ.of (show plainName "BallBox$Rule" = true by decide) (Nat.le_of_ble_eq_true rfl) h
