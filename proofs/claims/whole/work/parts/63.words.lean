-- how many fell, how far home
def fel (P : Nat → Nat) (B v : Nat) : Nat := (if 0 < B ∧ P 0 = v then 1 else 0) + (if 1 < B ∧ P 1 = v then 1 else 0) + (if 2 < B ∧ P 2 = v then 1 else 0)
def cn3 (P : Nat → Nat) (v : Nat) : Nat := (if P 0 = v then 1 else 0) + (if P 1 = v then 1 else 0) + (if P 2 = v then 1 else 0)
def adf (a b : Nat) : Nat := if b ≤ a then a - b else b - a
def hoG (C R : Nat) (K : Nat → Nat) (b : Nat) : Nat → Nat → Option Nat
  | 0, _ => none
  | n + 1, i => if (i % 6 < C ∧ i / 6 < R) ∧ K i = 2 + b then some i else hoG C R K b n (i + 1)
theorem hoG_some {C R : Nat} {K : Nat → Nat} {b c : Nat} : ∀ {n i : Nat}, hoG C R K b n i = some c → (c % 6 < C ∧ c / 6 < R) ∧ K c = 2 + b
  | 0, _, h => by cases h
  | n + 1, i, h => by
    unfold hoG at h
    split at h
    · rename_i q; cases h; exact q
    · exact hoG_some (n := n) h
theorem hoG_none {C R : Nat} {K : Nat → Nat} {b c : Nat} : ∀ {n i : Nat}, hoG C R K b n i = none → i ≤ c → c < i + n → (c % 6 < C ∧ c / 6 < R) → K c ≠ 2 + b
  | 0, i, _, h1, h2, _ => absurd h2 (by omega)
  | n + 1, i, h, h1, h2, h3 => by
    unfold hoG at h
    split at h
    · cases h
    · rename_i q
      by_cases e : c = i
      · subst e; exact fun z => q ⟨h3, z⟩
      · exact hoG_none (n := n) h (by omega) (by omega) h3
def stF (C R : Nat) (K P : Nat → Nat) (b : Nat) : Option Nat := match hoG C R K b 36 0 with
  | none => none
  | some c => some (adf (c % 6) (P b % 6) + adf (c / 6) (P b / 6))
theorem adf_sub {a b : Nat} (ha : a < 64) (hb : b < 64) : (if 0 ≤ nI a - nI b then nI a - nI b else 0 - (nI a - nI b)) = nI (adf a b) := by
  have e := pk_sub_toInt (a := a) (b := b) (by omega) (by omega)
  have e0 : (0 : Int32).toInt = 0 := by decide
  have en : ∀ n, n < 64 → (nI n).toInt = n := fun n hn => nI_toInt (by omega)
  by_cases h : b ≤ a
  · rw [if_pos (by rw [Int32.le_iff_toInt_le, e, e0]; omega)]
    apply Int32.toInt_inj.mp
    unfold adf
    rw [e, if_pos h, en _ (by omega)]
    omega
  · rw [if_neg (by rw [Int32.le_iff_toInt_le, e, e0]; omega)]
    apply Int32.toInt_inj.mp
    unfold adf
    rw [Int32.toInt_sub, e, e0, if_neg h, en _ (by omega), Int.bmod_def]
    omega
section
variable {g : Gx} {σ : St} {C R B : Nat} {K P : Nat → Nat}
theorem k_BM_apart {Q : Int32 → St → Prop} {a b : Nat} (ha : a < 64) (hb : b < 64) (h : Q (nI (adf a b)) σ) : K_BM_apart g (nI a) (nI b) σ Q := by
  have sub : ∀ x y : Nat, y ≤ x → nI x - nI y = nI (x - y) := fun x y hxy => by
    obtain ⟨z, rfl⟩ : ∃ z, x = y + z := ⟨x - y, by omega⟩
    rw [← nI_add, Int32.add_comm, Int32.add_sub_cancel]
    congr 1
    omega
  refine ko_BM_apart (sg_BM_apart_0 (pk_le b a (fun q => ?_) (fun q => ?_)))
  · unfold adf at h; rw [if_pos q] at h; rw [sub a b q]; exact h
  · unfold adf at h; rw [if_neg (by omega)] at h; rw [sub b a (by omega)]; exact h
theorem k_BM_fell {Q : Int32 → St → Prop} {v : Nat} (hr : RefB σ C R B K P) (hv : v < 64) (h : Q (nI (fel P B v)) σ) : K_BM_fell g (nI v) σ Q := by
  obtain ⟨hd, -, hp, -, hP⟩ := hr
  have hB := hd.2.2.2.2.2
  have step : ∀ b n, b ≤ 3 → (b < B → S_BM_fell_4 g Q σ (nI v) (nI (n + if P b = v then 1 else 0)) (nI (b + 1))) → (B ≤ b → Q (nI n) σ) → S_BM_fell_4 g Q σ (nI v) (nI n) (nI b) := by
    intro b n hb h1 h2
    refine sg_BM_fell_4 ⟨vin8 (n := 2) rfl (by decide), ?_⟩
    rw [cl2, hd.2.2.1]
    refine ⟨fun q => h2 ((nI_leI (by omega) (by omega)).mp q), fun q => ?_⟩
    have hbB : b < B := Nat.not_le.mp (fun z => q (nI_le z (by omega)))
    refine ⟨vp_in_nI (by omega) (by decide), ?_⟩
    rw [nI_clamp (by omega), hp b hbB, nI_eq (by have := (hP b).1; omega) (by omega)]
    have h1' := h1 hbB
    refine ⟨fun z => ?_, fun z => ?_⟩
    · rintro u rfl u2 rfl
      rw [if_neg z] at h1'
      rw [Int32.add_zero, nI_1]; exact h1'
    · rintro u rfl u2 rfl
      rw [if_pos z] at h1'
      rw [nI_1, nI_1]; exact h1'
  refine ko_BM_fell (sg_BM_fell_0 ?_)
  refine step 0 0 (by omega) (fun q0 => step 1 _ (by omega) (fun q1 => step 2 _ (by omega) (fun q2 => step 3 _ (by omega) (fun q => absurd q (by omega)) (fun _ => ?_)) (fun q => ?_)) (fun q => ?_)) (fun q => ?_)
  · unfold fel at h; simpa [q0, q1, q2] using h
  · unfold fel at h; simpa [q0, q1, Nat.not_lt.mpr q] using h
  · unfold fel at h; simpa [q0, Nat.not_lt.mpr q, show ¬ 2 < B by omega] using h
  · unfold fel at h; simpa [Nat.not_lt.mpr q, show ¬ 2 < B by omega, show ¬ 1 < B by omega] using h
theorem k_BM_areHome {Q : Int32 → St → Prop} (hr : RefB σ C R B K P) (h : Q (if fel P B 36 = B then 1 else 0) σ) : K_BM_areHome g σ Q := by
  have hd := hr.1
  have hB := hd.2.2.2.2.2
  have hf : fel P B 36 ≤ 3 := by unfold fel; split <;> split <;> split <;> omega
  refine ko_BM_areHome (sg_BM_areHome_0 (k_BM_fell (v := 36) hr (by decide) ⟨vin8 (n := 2) rfl (by decide), ?_⟩))
  rw [cl2, hd.2.2.1, nI_eq (by omega) (by omega)]
  exact (qif h).symm
theorem k_BM_holeOf {Q : Int32 → St → Prop} {b : Nat} (hr : RefB σ C R B K P) (hb : b < 3) (h : Q (oI (hoG C R K b 36 0)) σ) : K_BM_holeOf g (nI b) σ Q := by
  obtain ⟨hd, hK, hp, -, hP⟩ := hr
  have e2 : (2 : Int32) + nI b = nI (2 + b) := nI_add 2 b
  have go : ∀ n i, i + n = 36 → Q (oI (hoG C R K b n i)) σ → S_BM_holeOf_2 g Q σ (nI b) (nI i) := by
    intro n
    induction n with
    | zero =>
      intro i hi h
      exact sg_BM_holeOf_2 ⟨fun _ => h, fun c => absurd (nI_le (a := 36) (by omega) (by omega)) c⟩
    | succ n ih =>
      intro i hi h
      refine sg_BM_holeOf_2 ⟨fun c => absurd c (nI_ge (b := 36) (by omega) (by decide)), fun _ => k_BM_isThere hd (by omega) ?_⟩
      obtain ⟨k1, k2⟩ := hK i (by omega)
      unfold hoG at h
      by_cases q : i % 6 < C ∧ i / 6 < R
      · rw [if_pos q]
        refine ⟨fun z => absurd z (by decide), fun _ => ⟨vp_in_nI (by omega) (by decide), ?_⟩⟩
        rw [nI_clamp (by omega), k1, e2, nI_eq (by omega) (by omega)]
        refine ⟨fun z => ?_, fun z => ?_⟩
        · rintro u rfl
          rw [if_neg (fun y => z y.2)] at h
          rw [nI_1]; exact ih (i + 1) (by omega) h
        · rw [if_pos ⟨q, z⟩] at h; exact h
      · rw [if_neg q]
        refine ⟨fun _ => ?_, fun z => absurd rfl z⟩
        rintro u rfl
        rw [if_neg (fun y => q y.1)] at h
        rw [nI_1]; exact ih (i + 1) (by omega) h
  exact ko_BM_holeOf (sg_BM_holeOf_0 (go 36 0 rfl h))
theorem k_BM_steps {Q : Int32 → St → Prop} {b : Nat} (hr : RefB σ C R B K P) (hb : b < B) (h : Q (oI (stF C R K P b)) σ) : K_BM_steps g (nI b) σ Q := by
  have hB := hr.1.2.2.2.2.2
  have hC := hr.1.2.2.2.1
  have hR := hr.1.2.2.2.2.1
  refine ko_BM_steps (sg_BM_steps_0 (k_BM_holeOf hr (by omega) ?_))
  unfold stF at h
  cases hh : hoG C R K b 36 0 with
  | none =>
    rw [hh] at h
    exact ⟨fun c => absurd rfl c, fun _ => h⟩
  | some c =>
    rw [hh] at h
    have hc := hoG_some hh
    have hp := hr.2.2.1 b hb
    have hp38 := (hr.2.2.2.2 b).1
    refine ⟨fun _ => ⟨vp_in_nI (by omega) (by decide), ?_⟩, fun q => absurd q.symm (m1_ne (by omega))⟩
    rw [nI_clamp (by omega), hp]
    show K_BM_apart g (nI c - nI c / 6 * 6) _ σ _
    rw [rem6 (by omega), rem6 (by omega)]
    refine k_BM_apart (by omega) (by omega) ⟨vp_in_nI (by omega) (by decide), ?_⟩
    rw [hp]
    show K_BM_apart g (nI c / 6) _ σ _
    rw [div6 (by omega), div6 (by omega)]
    refine k_BM_apart (by omega) (by omega) ?_
    rw [nI_add]
    exact h
end
