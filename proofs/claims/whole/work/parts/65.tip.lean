-- a tip on both sides
abbrev Cfg : Type := Nat × Nat × Nat × (Nat → Nat) × Int32 × Option RuleT
/-- by what a ball is lined up -/
def keyC (c : Cfg) (P : Nat → Nat) (w b : Nat) : Int64 := match c.2.2.2.2.2 with
  | none => lagM w (P b)
  | some r => keyR r (wdF c.1 c.2.1 c.2.2.1 c.2.2.2.1 c.2.2.2.2.1 P w b)
def tipC (c : Cfg) (w : Nat) (P : Nat → Nat) : (Nat → Nat) × Nat × Nat := tipF c.1 c.2.1 c.2.2.2.1 (keyC c P w) w P
def FoM (σ : St) (f : Option RuleT) : Prop := match f with
  | none => ai σ 152 7 = -1
  | some r => ∃ i, i < 6 ∧ ai σ 152 7 = nI i ∧ RuleWF r ∧ RuM i σ r
def FoC (t : Nat) (σ : St) (f : Option RuleT) : Prop := match f with
  | none => fi σ t 9 = -1
  | some r => ∃ i, i < 6 ∧ fi σ t 9 = nI i ∧ ¬ fi σ 17 5 ≤ nI i ∧ RuleWF r ∧ RuC (22 + 5 * i) σ r
def RefT (σ : St) (c : Cfg) (P : Nat → Nat) : Prop := RefB σ c.1 c.2.1 c.2.2.1 c.2.2.2.1 P ∧ ai σ 152 3 = c.2.2.2.2.1 ∧ FoM σ c.2.2.2.2.2
def ClsT (t : Nat) (σ : St) (c : Cfg) : Prop := ClsB t σ c.1 c.2.1 c.2.2.1 c.2.2.2.1 ∧ fi σ t 6 = c.2.2.2.2.1 ∧ FoC t σ c.2.2.2.2.2
theorem and56 {x y : Nat} (h : x % 64 / 8 = y % 64 / 8) : nI x &&& 56 = nI y &&& 56 := by
  have b56 : ∀ i, i < 32 → bt 56 i = decide (3 ≤ i ∧ i < 6) := by decide +kernel
  have tb : ∀ z i, 3 ≤ i → i < 6 → z.testBit i = (z % 64 / 8).testBit (i - 3) := by
    intro z i h1 h2
    rw [show (8 : Nat) = 2 ^ 3 from rfl, Nat.testBit_div_two_pow, show (64 : Nat) = 2 ^ 6 from rfl, Nat.testBit_mod_two_pow]
    have e : i - 3 + 3 = i := by omega
    rw [e]
    simp [h2]
  apply b_ext
  intro i hi
  rw [b_and, b_and, b56 i hi, bt_nI hi, bt_nI hi]
  by_cases q : 3 ≤ i ∧ i < 6
  · rw [tb x i q.1 q.2, tb y i q.1 q.2, h]
  · simp [q]
section
variable {g : Gx} {σ : St} {C R B : Nat} {K P : Nat → Nat}
theorem k_RO_someMeet {Q : Int32 → St → Prop} {w : Nat} (hw : w < 4) (hp : okW C R B P) (h1 : Q 1 σ) (h0 : (∀ a b, a < 3 → b < 3 → a ≠ b → P a < 36 → P b < 36 → lnW w (P a) ≠ lnW w (P b)) → Q 0 σ) : K_RO_someMeet g (nI (sitP P B)) (nI w) σ Q := by
  have hS : sitP P B < 262144 := sitP_lt
  obtain ⟨S, hSe⟩ : ∃ S, S = sitP P B := ⟨_, rfl⟩
  rw [← hSe] at hS ⊢
  have hsp : ∀ b, b < 3 → P b < 36 → S / 64 ^ b % 64 = spc (P b) := fun b hb h36 => by
    have : spo S b = spc (P b) := by rw [hSe, spo_sitP hb, enB_norm hp.1, enc_c h36]
    exact this
  have go : ∀ m : Int32, (∀ a b, a < 3 → b < 3 → P a < 36 → P b < 36 → lnW w (P a) = lnW w (P b) → nI (S / 64 ^ a) &&& m = nI (S / 64 ^ b) &&& m) → S_RO_someMeet_16 g Q σ (nI S) m := by
    intro m hm
    refine sg_RO_someMeet_16 ?_
    rintro u1 e1 u2 e2 u3 e3
    have s0 : nI S = nI (S / 64 ^ 0) := by rw [Nat.pow_zero, Nat.div_one]
    have s1 : nI S >>> ((6 : Int32) &&& 31) = nI (S / 64 ^ 1) := pk_shrN (by omega) _ 6 (by decide)
    have s2 : nI S >>> ((12 : Int32) &&& 31) = nI (S / 64 ^ 2) := pk_shrN (by omega) _ 12 (by decide)
    rw [s1] at e2
    rw [s2] at e3
    rw [s0] at e1
    refine ⟨fun _ => h1, fun n1 => ⟨fun _ => h1, fun n2 => ⟨fun n3 => h0 ?_, fun _ => h1⟩⟩⟩
    intro a b ha hb hab pa pb e
    have := hm a b ha hb pa pb e
    rcases (show a = 0 ∨ a = 1 ∨ a = 2 by omega) with rfl | rfl | rfl <;> rcases (show b = 0 ∨ b = 1 ∨ b = 2 by omega) with rfl | rfl | rfl
    · exact hab rfl
    · exact n1 (by rw [e1, e2]; exact this)
    · exact n2 (by rw [e1, e3]; exact this)
    · exact n1 (by rw [e1, e2]; exact this.symm)
    · exact hab rfl
    · exact n3 (by rw [e2, e3]; exact this)
    · exact n2 (by rw [e1, e3]; exact this.symm)
    · exact n3 (by rw [e2, e3]; exact this.symm)
    · exact hab rfl
  have lt : ∀ a, a < 3 → S / 64 ^ a < 2 ^ 32 := fun a _ => Nat.lt_of_le_of_lt (Nat.div_le_self _ _) (by omega)
  have g7 : w = 0 ∨ w = 2 → S_RO_someMeet_16 g Q σ (nI S) 7 := fun hw => go 7 (fun a b ha hb pa pb e => by
    have e1 := hsp a ha pa
    have e2 := hsp b hb pb
    rw [and7 (lt a ha), and7 (lt b hb)]
    unfold lnW at e
    rw [if_pos hw, if_pos hw] at e
    unfold spc at e1 e2
    congr 1
    omega)
  have g56 : ¬ (w = 0 ∨ w = 2) → S_RO_someMeet_16 g Q σ (nI S) 56 := fun hw => go 56 (fun a b ha hb pa pb e => by
    have e1 := hsp a ha pa
    have e2 := hsp b hb pb
    apply and56
    rw [e1, e2]
    unfold lnW at e
    rw [if_neg hw, if_neg hw] at e
    unfold spc
    omega)
  refine ko_RO_someMeet (sg_RO_someMeet_0 ?_)
  rcases (show w = 0 ∨ w = 1 ∨ w = 2 ∨ w = 3 by omega) with rfl | rfl | rfl | rfl
  · exact ⟨fun _ => g7 (Or.inl rfl), fun c => absurd rfl c⟩
  · exact ⟨fun c => absurd c (by decide), fun _ => ⟨fun _ => g56 (by decide), fun c => absurd c (by decide)⟩⟩
  · exact ⟨fun c => absurd c (by decide), fun _ => ⟨fun c => absurd rfl c, fun _ => g7 (Or.inr rfl)⟩⟩
  · exact ⟨fun c => absurd c (by decide), fun _ => ⟨fun _ => g56 (by decide), fun c => absurd c (by decide)⟩⟩
theorem w8m {x0 x1 x2 : Int64} : aj (saj (saj (saj σ 170 0 x0) 170 1 x1) 170 2 x2) 170 0 = x0 ∧ aj (saj (saj (saj σ 170 0 x0) 170 1 x1) 170 2 x2) 170 1 = x1 ∧ aj (saj (saj (saj σ 170 0 x0) 170 1 x1) 170 2 x2) 170 2 = x2 := by
  refine ⟨?_, ?_, ?_⟩ <;> simp [fi_sfi, fi_sfj, fi_sai, fi_saj, fi_rai, fj_sfi, fj_sfj, fj_sai, fj_saj, fj_rai, ai_sfi, ai_sfj, ai_sai, ai_saj, ai_raiN, aj_sfi, aj_sfj, aj_sai, aj_saj, aj_rai]
theorem w8n {a b c x y z u v : Int64} {k : Nat} (h : aj σ 170 0 = a ∧ aj σ 170 1 = b ∧ aj σ 170 2 = c) (hk : k < 8) : aj (saj (saj (saj (saj (saj σ 170 3 x) 170 4 y) 170 5 z) 170 6 u) 170 7 v) 170 k = (if k = 0 then a else if k = 1 then b else if k = 2 then c else if k = 3 then x else if k = 4 then y else if k = 5 then z else if k = 6 then u else v) := by
  rcases (show k = 0 ∨ k = 1 ∨ k = 2 ∨ k = 3 ∨ k = 4 ∨ k = 5 ∨ k = 6 ∨ k = 7 by omega) with rfl | rfl | rfl | rfl | rfl | rfl | rfl | rfl <;> simp [fi_sfi, fi_sfj, fi_sai, fi_saj, fi_rai, fj_sfi, fj_sfj, fj_sai, fj_saj, fj_rai, ai_sfi, ai_sfj, ai_sai, ai_saj, ai_raiN, aj_sfi, aj_sfj, aj_sai, aj_saj, aj_rai, h]
end
