-- small numbers as places
theorem cl0 : (0 : Int32).toNatClampNeg = 0 := rfl
theorem cl1 : (1 : Int32).toNatClampNeg = 1 := rfl
theorem cl2 : (2 : Int32).toNatClampNeg = 2 := rfl
theorem cl3 : (3 : Int32).toNatClampNeg = 3 := rfl
theorem cl4 : (4 : Int32).toNatClampNeg = 4 := rfl
theorem cl5 : (5 : Int32).toNatClampNeg = 5 := rfl
theorem cl6 : (6 : Int32).toNatClampNeg = 6 := rfl
theorem cl7 : (7 : Int32).toNatClampNeg = 7 := rfl
theorem vin8 {x : Int32} {n : Nat} (h : x = nI n) (hn : n < 8) : vp_in x 8 := h ▸ vp_in_nI hn (by decide)
section
variable {g : Gx} {σ : St}
theorem k_BM_in {Q : Int32 → St → Prop} {x y z : Int64} (h : Q (if y ≤ x ∧ x ≤ z then 1 else 0) σ) : K_BM_in g x y z σ Q := by
  have le : ∀ a b : Int64, a ≤ b ↔ ¬ b < a := fun a b => by rw [Int64.le_iff_toInt_le, Int64.lt_iff_toInt_lt]; omega
  refine ko_BM_in (sg_BM_in_0 ⟨fun c => ?_, fun c => ⟨fun d => ?_, fun d => ?_⟩⟩)
  · rw [if_neg (fun q => (le _ _).mp q.1 ((lg_cmp_lt _ _).mp c))] at h; exact h
  · rw [if_neg (fun q => (le _ _).mp q.2 ((lg_cmp_gt _ _).mp d))] at h; exact h
  · rw [if_pos ⟨(le _ _).mpr (fun q => c ((lg_cmp_lt _ _).mpr q)), (le _ _).mpr (fun q => d ((lg_cmp_gt _ _).mpr q))⟩] at h; exact h
theorem k_BB_isWay {Q : Int32 → St → Prop} {x : Int32} (h : Q (if x < 0 ∨ 3 < x then 0 else 1) σ) : K_BB_isWay g x σ Q := by
  refine ko_BB_isWay (sg_BB_isWay_0 ⟨fun c => ?_, fun c => ⟨fun d => ?_, fun d => ?_⟩⟩)
  · rw [if_pos (Or.inl c)] at h; exact h
  · rw [if_pos (Or.inr d)] at h; exact h
  · rw [if_neg (fun q => q.elim c d)] at h; exact h
theorem k_BM_isBox {Q : Int32 → St → Prop} (h : Q (if ai σ 152 0 ≤ 0 then 0 else 1) σ) : K_BM_isBox g σ Q := by
  refine ko_BM_isBox (sg_BM_isBox_0 ⟨vin8 (n := 0) rfl (by decide), fun c => ?_, fun c => ?_⟩)
  · rw [cl0] at c; rw [if_pos c] at h; exact h
  · rw [cl0] at c; rw [if_neg c] at h; exact h
theorem k_LI_heard {Q : Int32 → St → Prop} {x y : Int32} (h : Q ((x &&& 3) + (4 * (y &&& 3))) σ) : K_LI_heard g x y σ Q := ko_LI_heard (sg_LI_heard_0 h)
theorem k_LI_packed {Q : Int32 → St → Prop} {w x y : Int32} (h : Q (16 * w + ((x &&& 3) + (4 * (y &&& 3)))) σ) : K_LI_packed g w x y σ Q := ko_LI_packed (sg_LI_packed_0 (k_LI_heard h))
-- the tape
/-- the byte of x that takeFour and append take in their turn j -/
def tb4 (x : Int32) (j : Nat) : Int32 := (x.toUInt32 >>> ((nI (24 - 8 * j)).toUInt32 &&& Int32.toUInt32 31)).toInt32 &&& 255
def tm4 (x : Int32) (j : Nat) : Int32 := (x >>> (nI (24 - 8 * j) &&& 31)).toInt8.toInt32
theorem tf_step {Q : St → Prop} {x : Int32} {n j : Nat} (hj : j < 4) (hn : n < 400) (hl : fi σ 1 1 = nI n) (h : S_TA_takeFour_3 g Q (sfi (sai σ 2 n (tb4 x j)) 1 1 (nI (n + 1))) x (nI (24 - 8 * j) + (-8))) : S_TA_takeFour_3 g Q σ x (nI (24 - 8 * j)) := by
  refine sg_TA_takeFour_3 ⟨fun c => absurd c (nI_pos (by omega)), fun _ => ⟨fun c => ?_, fun _ => ⟨?_, ?_⟩⟩⟩
  · rw [hl] at c
    exact absurd c (nI_ge (a := n) (b := 400) hn (by decide))
  · rw [hl]; exact vp_in_nI hn (by decide)
  · rintro s2 rfl s3 rfl u rfl
    rw [hl, nI_clamp (by omega)]
    have e : fi (sai σ 2 n (tb4 x j)) 1 1 + 1 = nI (n + 1) := by rw [show fi (sai σ 2 n (tb4 x j)) 1 1 = fi σ 1 1 from rfl, hl, nI_1]
    show S_TA_takeFour_3 g Q (sfi (sai σ 2 n (tb4 x j)) 1 1 (fi (sai σ 2 n (tb4 x j)) 1 1 + 1)) x _
    rw [e]
    exact h
theorem ap_step {Q : St → Prop} {x : Int32} {n j : Nat} (hj : j < 4) (hn : n < 400) (hl : fi σ 151 11 = nI n) (h : S_BM_append_3 g Q (sfi (sai σ 162 n (tm4 x j)) 151 11 (nI (n + 1))) x (nI (24 - 8 * j) + (-8))) : S_BM_append_3 g Q σ x (nI (24 - 8 * j)) := by
  refine sg_BM_append_3 ⟨fun c => absurd c (nI_pos (by omega)), fun _ => ⟨?_, ?_⟩⟩
  · rw [hl]; exact vp_in_nI hn (by decide)
  · rintro s2 rfl s3 rfl u rfl
    rw [hl, nI_clamp (by omega), pk_vb]
    have e : fi (sai σ 162 n (tm4 x j)) 151 11 + 1 = nI (n + 1) := by rw [show fi (sai σ 162 n (tm4 x j)) 151 11 = fi σ 151 11 from rfl, hl, nI_1]
    show S_BM_append_3 g Q (sfi (sai σ 162 n (tm4 x j)) 151 11 (fi (sai σ 162 n (tm4 x j)) 151 11 + 1)) x _
    rw [e]
    exact h
/-- σ with four bytes more upon the class's tape -/
def tf1 (x : Int32) (n j : Nat) (σ : St) : St := sfi (sai σ 2 (n + j) (tb4 x j)) 1 1 (nI (n + j + 1))
def ap1 (x : Int32) (n j : Nat) (σ : St) : St := sfi (sai σ 162 (n + j) (tm4 x j)) 151 11 (nI (n + j + 1))
theorem k_TA_takeFour {Q : St → Prop} {x : Int32} {n : Nat} (hn : n + 4 ≤ 400) (hl : fi σ 1 1 = nI n) (h : Q (tf1 x n 3 (tf1 x n 2 (tf1 x n 1 (tf1 x n 0 σ))))) : K_TA_takeFour g x σ Q := by
  refine ko_TA_takeFour (sg_TA_takeFour_0 ?_)
  refine tf_step (j := 0) (n := n) (by decide) (by omega) hl ?_
  refine tf_step (j := 1) (n := n + 1) (by decide) (by omega) rfl ?_
  refine tf_step (j := 2) (n := n + 2) (by decide) (by omega) rfl ?_
  refine tf_step (j := 3) (n := n + 3) (by decide) (by omega) rfl ?_
  refine sg_TA_takeFour_3 ⟨fun _ => h, fun c => absurd (by decide) c⟩
theorem k_BM_append {Q : St → Prop} {x : Int32} {n : Nat} (hn : n + 4 ≤ 400) (hl : fi σ 151 11 = nI n) (h : Q (ap1 x n 3 (ap1 x n 2 (ap1 x n 1 (ap1 x n 0 σ))))) : K_BM_append g x σ Q := by
  refine ko_BM_append (sg_BM_append_0 ?_)
  refine ap_step (j := 0) (n := n) (by decide) (by omega) hl ?_
  refine ap_step (j := 1) (n := n + 1) (by decide) (by omega) rfl ?_
  refine ap_step (j := 2) (n := n + 2) (by decide) (by omega) rfl ?_
  refine ap_step (j := 3) (n := n + 3) (by decide) (by omega) rfl ?_
  refine sg_BM_append_3 ⟨fun _ => h, fun c => absurd (by decide) c⟩
end
