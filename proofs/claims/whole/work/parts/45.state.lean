-- State's small functions; a situation is sit e0 e1 e2
def sit (e0 e1 e2 : Nat) : Nat := e0 + 64 * e1 + 4096 * e2
theorem sit_lt {e0 e1 e2 : Nat} (h0 : e0 < 64) (h1 : e1 < 64) (h2 : e2 < 64) : sit e0 e1 e2 < 262144 := by unfold sit; omega
/-- the spot of ball b -/
def spo (S b : Nat) : Nat := S / 64 ^ b % 64
theorem spo_0 {e0 e1 e2 : Nat} (h0 : e0 < 64) : spo (sit e0 e1 e2) 0 = e0 := by unfold spo sit; omega
theorem spo_1 {e0 e1 e2 : Nat} (h0 : e0 < 64) (h1 : e1 < 64) : spo (sit e0 e1 e2) 1 = e1 := by unfold spo sit; omega
theorem spo_2 {e0 e1 e2 : Nat} (h0 : e0 < 64) (h1 : e1 < 64) (h2 : e2 < 64) : spo (sit e0 e1 e2) 2 = e2 := by unfold spo sit; omega
theorem spo_lt (S b : Nat) : spo S b < 64 := Nat.mod_lt _ (by decide)
theorem and63 {n : Nat} (h : n < 2 ^ 32) : nI n &&& 63 = nI (n % 64) := pk_andN h (m := 63) 6 rfl
theorem and7 {n : Nat} (h : n < 2 ^ 32) : nI n &&& 7 = nI (n % 8) := pk_andN h (m := 7) 3 rfl
theorem shr6b {S b : Nat} (hS : S < 2 ^ 31) (hb : b < 3) : nI S >>> ((6 * nI b) &&& 31) = nI (S / 64 ^ b) := by
  rcases (show b = 0 ∨ b = 1 ∨ b = 2 by omega) with rfl | rfl | rfl
  · exact pk_shrN hS _ 0 (by decide)
  · exact pk_shrN hS _ 6 (by decide)
  · exact pk_shrN hS _ 12 (by decide)
theorem spotIn_eq {S b : Nat} (hS : S < 2 ^ 31) (hb : b < 3) : (nI S >>> ((6 * nI b) &&& 31)) &&& 63 = nI (spo S b) := by
  rw [shr6b hS hb, and63 (Nat.lt_of_le_of_lt (Nat.div_le_self _ _) (by omega))]
  rfl
section
variable {g : Gx} {σ : St}
theorem k_SA_spotIn {Q : Int32 → St → Prop} {S b : Nat} (hS : S < 2 ^ 31) (hb : b < 3) (h : Q (nI (spo S b)) σ) : K_SA_spotIn g (nI S) (nI b) σ Q := ko_SA_spotIn (sg_SA_spotIn_0 (by rw [spotIn_eq hS hb]; exact h))
theorem k_SA_columnOf {Q : Int32 → St → Prop} {p : Nat} (hp : p < 64) (h : Q (nI (p % 8) - 1) σ) : K_SA_columnOf g (nI p) σ Q := ko_SA_columnOf (sg_SA_columnOf_0 (by rw [and7 (by omega)]; exact h))
theorem k_SA_rowOf {Q : Int32 → St → Prop} {p : Nat} (hp : p < 64) (h : Q (nI (p / 8) - 1) σ) : K_SA_rowOf g (nI p) σ Q := ko_SA_rowOf (sg_SA_rowOf_0 (by rw [pk_shrN (by omega) _ 3 (by decide)]; exact h))
theorem k_SA_spotOf {Q : Int32 → St → Prop} {u v : Int32} (hin : ∀ x y, x ≤ 5 → y ≤ 5 → u = nI x → v = nI y → Q (nI (8 * y + x + 9)) σ) (hout : (∀ x y, x ≤ 5 → y ≤ 5 → u = nI x → v = nI y → False) → Q (-1) σ) : K_SA_spotOf g u v σ Q := by
  refine ko_SA_spotOf (sg_SA_spotOf_0 ⟨fun c => hout ?_, fun c => ⟨fun d => hout ?_, fun d => ⟨fun e => hout ?_, fun e => ⟨fun f => ?_, fun f => hout ?_⟩⟩⟩⟩)
  · rintro x y hx - rfl -
    exact absurd c (nI_pos (by omega))
  · rintro x y hx - rfl -
    exact absurd d (nI_nlt (a := 5) (by omega) (by omega))
  · rintro x y - hy - rfl
    exact absurd e (nI_pos (by omega))
  · obtain ⟨x, hx, rfl⟩ := nI_of c
    obtain ⟨y, hy, rfl⟩ := nI_of e
    have hx5 : x ≤ 5 := Nat.not_lt.mp (fun q => d (nI_lt (a := 5) q hx))
    have hy5 : y ≤ 5 := (nI_leI hy (by decide : 5 < 2 ^ 31)).mp f
    have := hin x y hx5 hy5 rfl rfl
    have ee : (8 : Int32) * nI y + nI x + 9 = nI (8 * y + x + 9) := by
      show nI 8 * nI y + nI x + nI 9 = _
      rw [pk_mul, nI_add, nI_add]
    rw [ee]
    exact this
  · rintro x y - hy - rfl
    exact absurd (nI_le (b := 5) hy (by decide)) f
theorem k_SA_isFallen {Q : Int32 → St → Prop} {p : Nat} (hp : p < 64) (h : Q (if p = 0 ∨ p = 7 then 1 else 0) σ) : K_SA_isFallen g (nI p) σ Q := by
  refine ko_SA_isFallen (sg_SA_isFallen_0 ⟨fun c => ?_, fun c => ⟨fun d => ?_, fun d => ?_⟩⟩)
  · have : p = 0 := (nI_eq (b := 0) (by omega) (by omega)).mp c
    rw [if_pos (Or.inl this)] at h; exact h
  · have e1 : p ≠ 0 := fun q => c (by rw [q]; rfl)
    have e2 : p ≠ 7 := fun q => d (by rw [q]; rfl)
    rw [if_neg (fun q => q.elim e1 e2)] at h; exact h
  · have : p = 7 := (nI_eq (b := 7) (by omega) (by omega)).mp d
    rw [if_pos (Or.inr this)] at h; exact h
theorem k_SA_kindAt {Q : Int32 → St → Prop} {t p : Nat} (ht : isSA t) (hp : p < 64) (h : Q (ai σ (t + 1) p) σ) : K_SA_kindAt g t (nI p) σ Q := by
  refine ko_SA_kindAt (sg_SA_kindAt_0 ht ⟨fun c => absurd c (nI_pos (by omega)), fun _ => ⟨fun _ => ⟨vp_in_nI hp (by decide), ?_⟩, fun c => absurd (nI_lt (b := 64) hp (by decide)) c⟩⟩)
  rw [nI_clamp (by omega)]
  exact h
theorem k_SA_kindAt_out {Q : Int32 → St → Prop} {t : Nat} (ht : isSA t) (h : Q (-1) σ) : K_SA_kindAt g t (-1) σ Q := ko_SA_kindAt (sg_SA_kindAt_0 ht ⟨fun _ => h, fun c => absurd (by decide) c⟩)
/-- who lies at a spot: the first of the three -/
def who (S p : Nat) : Int32 := if spo S 0 = p then 0 else if spo S 1 = p then 1 else if spo S 2 = p then 2 else -1
theorem k_SA_whoLies {Q : Int32 → St → Prop} {S p : Nat} (hS : S < 2 ^ 31) (hp : p < 64) (h : Q (who S p) σ) : K_SA_whoLies g (nI S) (nI p) σ Q := by
  have ne : ∀ b, nI (spo S b) = nI p ↔ spo S b = p := fun b => nI_eq (by have := spo_lt S b; omega) (by omega)
  refine ko_SA_whoLies (sg_SA_whoLies_0 ?_)
  refine sg_SA_whoLies_2 ⟨fun c => absurd c (by decide), fun _ => k_SA_spotIn (b := 0) hS (by decide) ⟨fun c => ?_, fun c => ?_⟩⟩
  · rw [ne] at c
    rintro u rfl
    refine sg_SA_whoLies_2 ⟨fun c => absurd c (by decide), fun _ => k_SA_spotIn (b := 1) hS (by decide) ⟨fun d => ?_, fun d => ?_⟩⟩
    · rw [ne] at d
      rintro u rfl
      refine sg_SA_whoLies_2 ⟨fun c => absurd c (by decide), fun _ => k_SA_spotIn (b := 2) hS (by decide) ⟨fun e => ?_, fun e => ?_⟩⟩
      · rw [ne] at e
        rintro u rfl
        refine sg_SA_whoLies_2 ⟨fun _ => ?_, fun c => absurd (by decide) c⟩
        rw [who, if_neg c, if_neg d, if_neg e] at h; exact h
      · rw [ne] at e
        rw [who, if_neg c, if_neg d, if_pos e] at h; exact h
    · rw [ne] at d
      rw [who, if_neg c, if_pos d] at h; exact h
  · rw [ne] at c
    rw [who, if_pos c] at h; exact h
theorem k_SA_isBare {Q : Int32 → St → Prop} {t p S : Nat} (ht : isSA t) (hp : p < 64) (hS : S < 2 ^ 31) (hs : fi σ t 5 = nI S) (h : Q (if ai σ (t + 1) p = 0 ∧ who S p = -1 then 1 else 0) σ) : K_SA_isBare g t (nI p) σ Q := by
  refine ko_SA_isBare (sg_SA_isBare_0 ht (k_SA_kindAt ht hp ⟨fun c => ?_, fun c => ?_⟩))
  · rw [if_neg (fun q => c q.1)] at h; exact h
  · rw [hs]
    refine k_SA_whoLies hS hp ⟨fun d => ?_, fun d => ?_⟩
    · rw [if_neg (fun q => d q.2)] at h; exact h
    · rw [if_pos ⟨c, d⟩] at h; exact h
end
