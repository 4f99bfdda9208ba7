-- sure
abbrev allH (P : Nat → Nat) : Prop := P 0 = 36 ∧ P 1 = 36 ∧ P 2 = 36
def wtN (s p : Nat) : Nat → Nat
  | 0 => 1
  | i + 1 => wtN s p i * (if s / 2 ^ i % 2 = 1 then 100 - p else p)
theorem wtN_le {s p : Nat} (hp : p ≤ 100) : ∀ i, wtN s p i ≤ 100 ^ i
  | 0 => Nat.le_refl _
  | i + 1 => by
    unfold wtN
    rw [Nat.pow_succ]
    exact Nat.mul_le_mul (wtN_le hp i) (by split <;> omega)
def suS (c : Cfg) (rw : Nat → Nat) (n : Nat) (P : Nat → Nat) (p : Nat) : Nat → Nat
  | 0 => 0
  | s + 1 => suS c rw n P p s + if allH (rowG c rw s P n).1 then wtN s p n else 0
theorem suS_s {c : Cfg} {rw : Nat → Nat} {n : Nat} {P : Nat → Nat} {p s : Nat} : suS c rw n P p (s + 1) = suS c rw n P p s + if allH (rowG c rw s P n).1 then wtN s p n else 0 := rfl
theorem suS_le {c : Cfg} {rw : Nat → Nat} {n : Nat} {P : Nat → Nat} {p : Nat} (hp : p ≤ 100) : ∀ s, suS c rw n P p s ≤ s * 100 ^ n
  | 0 => by simp [suS]
  | s + 1 => by
    have h1 := suS_le (c := c) (rw := rw) (n := n) (P := P) hp s
    have h2 := wtN_le (s := s) hp n
    unfold suS
    rw [Nat.succ_mul]
    split <;> omega
theorem sit0 {C R B : Nat} {P : Nat → Nat} (h : okW C R B P) : sitP P B = 0 ↔ allH P := by
  unfold sitP
  rw [enB_norm h.1, enB_norm h.1, enB_norm h.1]
  have e0 := enc_0 (h.2 0).1
  have e1 := enc_0 (h.2 1).1
  have e2 := enc_0 (h.2 2).1
  unfold sit
  constructor
  · intro q
    exact ⟨e0.mp (by omega), e1.mp (by omega), e2.mp (by omega)⟩
  · rintro ⟨q0, q1, q2⟩
    rw [e0.mpr q0, e1.mpr q1, e2.mpr q2]
theorem felB {C R B : Nat} {P : Nat → Nat} (hB : B ≤ 3) (h : okW C R B P) : fel P B 36 = B ↔ allH P := by
  have e := cn3_home hB h
  unfold cn3 at e
  constructor
  · intro q
    rw [q] at e
    refine ⟨?_, ?_, ?_⟩
    · by_cases z : P 0 = 36
      · exact z
      · rw [if_neg z] at e; split at e <;> split at e <;> omega
    · by_cases z : P 1 = 36
      · exact z
      · rw [if_neg z] at e; split at e <;> split at e <;> omega
    · by_cases z : P 2 = 36
      · exact z
      · rw [if_neg z] at e; split at e <;> split at e <;> omega
  · rintro ⟨q0, q1, q2⟩
    rw [if_pos q0, if_pos q1, if_pos q2] at e
    omega
theorem shl1 {n : Nat} (hn : n ≤ 8) : (1 : Int32) <<< (nI n &&& 31) = nI (2 ^ n) := by
  rcases (show n = 0 ∨ n = 1 ∨ n = 2 ∨ n = 3 ∨ n = 4 ∨ n = 5 ∨ n = 6 ∨ n = 7 ∨ n = 8 by omega) with rfl | rfl | rfl | rfl | rfl | rfl | rfl | rfl | rfl <;> decide
theorem pow8 {n : Nat} (hn : n ≤ 8) : 2 ^ n ≤ 256 ∧ 100 ^ n ≤ 10000000000000000 ∧ 0 < 100 ^ n := by
  rcases (show n = 0 ∨ n = 1 ∨ n = 2 ∨ n = 3 ∨ n = 4 ∨ n = 5 ∨ n = 6 ∨ n = 7 ∨ n = 8 by omega) with rfl | rfl | rfl | rfl | rfl | rfl | rfl | rfl | rfl <;> decide
theorem l100 {p : Nat} (hp : p ≤ 100) : ((100 : Int32) - nI p).toInt64 = lN (100 - p) := by
  have e : (100 : Int32) - nI p = nI (100 - p) := by
    obtain ⟨q, hq⟩ : ∃ q, 100 = p + q := ⟨100 - p, by omega⟩
    show nI 100 - nI p = _
    rw [hq, ← nI_add, Int32.add_comm, Int32.add_sub_cancel]
    congr 1
    omega
  rw [e, nI_l (by omega)]
section
variable {g : Gx} {σ : St}
theorem k_TR_weightOf {Q : Int64 → St → Prop} {s n p : Nat} (hs : s < 2 ^ 31) (hn : n ≤ 8) (hp : p ≤ 100) (h : Q (lN (wtN s p n)) σ) : K_TR_weightOf g (nI s) (nI n) (nI p) σ Q := by
  have go : ∀ m i, i + m = n → S_TR_weightOf_5 g Q σ (nI s) (nI n) (nI p) (lN (wtN s p i)) (nI i) := by
    intro m
    induction m with
    | zero =>
      intro i hi
      have e : i = n := by omega
      subst e
      exact sg_TR_weightOf_5 ⟨fun _ => h, fun q => absurd (nI_le (Nat.le_refl _) (by omega)) q⟩
    | succ m ih =>
      intro i hi
      refine sg_TR_weightOf_5 ⟨fun q => absurd q (nI_ge (by omega) (by omega)), fun _ => ?_⟩
      rw [bit0 hs (by omega), l100 hp, nI_l (by omega)]
      have := ih (i + 1) (by omega)
      unfold wtN at this
      refine ⟨fun q => ?_, fun q => ?_⟩
      · rintro u rfl u2 rfl
        rw [if_pos (Decidable.not_not.mp q)] at this
        rw [lN_mul, nI_1]; exact this
      · rintro u rfl u2 rfl
        rw [if_neg q] at this
        rw [lN_mul, nI_1]; exact this
  exact ko_TR_weightOf (sg_TR_weightOf_0 (go n 0 (Nat.zero_add _)))
theorem gcd_step (G L : Nat) : Nat.gcd L (G % L) = Nat.gcd G L := by rw [Nat.gcd_comm, ← Nat.gcd_rec, Nat.gcd_comm]
theorem k_TR_gcd {Q : Int64 → St → Prop} : ∀ (k G L i : Nat), L < 2 ^ k → k ≤ 62 → G < 2 ^ 63 → i + 2 * k + 1 ≤ 200 → Q (lN (Nat.gcd G L)) σ → S_TR_greatestDivisor_9 g Q σ (lN G) (lN L) (nI i) := by
  intro k
  induction k with
  | zero =>
    intro G L i hL _ hG hi h
    have e : L = 0 := by omega
    subst e
    rw [Nat.gcd_zero_right] at h
    refine sg_TR_greatestDivisor_9 ⟨fun _ => h, fun _ => ⟨fun _ => h, fun q => absurd ?_ q⟩⟩
    rw [lg_cmp_eq]; rfl
  | succ k ih =>
    intro G L i hL hk hG hi h
    have hL63 : L < 2 ^ 63 := Nat.lt_of_lt_of_le hL (Nat.pow_le_pow_right (by decide) (by omega))
    have z : ∀ x, x < 2 ^ 63 → (lN x = 0 ↔ x = 0) := fun x hx => pk_lEQ (b := 0) hx (by decide)
    refine sg_TR_greatestDivisor_9 ⟨fun q => absurd q (nI_ge (b := 200) (by omega) (by decide)), fun _ => ?_⟩
    rw [lg_cmp_eq, z L hL63]
    refine ⟨fun q => ?_, fun q => ⟨q, ?_⟩⟩
    · subst q; rw [Nat.gcd_zero_right] at h; exact h
    · rintro u rfl u2 rfl
      rw [pk_lRem hG (by omega) hL63, nI_1]
      have hr : G % L < L := Nat.mod_lt _ (by omega)
      have hr63 : G % L < 2 ^ 63 := by omega
      rw [← gcd_step G L] at h
      refine sg_TR_greatestDivisor_9 ⟨fun q => absurd q (nI_ge (b := 200) (by omega) (by decide)), fun _ => ?_⟩
      rw [lg_cmp_eq, z (G % L) hr63]
      refine ⟨fun q2 => ?_, fun q2 => ⟨q2, ?_⟩⟩
      · rw [q2, Nat.gcd_zero_right] at h; exact h
      · rintro u rfl u2 rfl
        rw [pk_lRem hL63 (by omega) hr63, nI_1]
        rw [← gcd_step L (G % L)] at h
        refine ih (G % L) (L % (G % L)) (i + 1 + 1) ?_ (by omega) hr63 (by omega) h
        have h2 : L % (G % L) < G % L := Nat.mod_lt _ (by omega)
        have h3 : L % (G % L) + G % L ≤ L := by
          have hd := Nat.div_add_mod L (G % L)
          have hq : 1 ≤ L / (G % L) := Nat.div_pos (by omega) (by omega)
          have : G % L ≤ G % L * (L / (G % L)) := Nat.le_mul_of_pos_right _ hq
          omega
        rw [Nat.pow_succ] at hL
        omega
theorem k_BM_divisor {Q : Int64 → St → Prop} : ∀ (n X Y : Nat), X < n → X < 2 ^ 63 → Y < 2 ^ 63 → Q (lN (Nat.gcd Y X)) σ → S_BM_divisor_6 g Q σ (lN X) (lN Y) := by
  intro n
  induction n with
  | zero => intro X Y h; exact absurd h (by omega)
  | succ n ih =>
    intro X Y hn hX hY h
    have z : (lN X = 0 ↔ X = 0) := pk_lEQ (b := 0) hX (by decide)
    refine sg_BM_divisor_6 ?_
    rw [lg_cmp_eq, z]
    refine ⟨fun q => ?_, fun q => ⟨q, ?_⟩⟩
    · subst q; rw [Nat.gcd_zero_right] at h; exact h
    · rintro u rfl
      rw [pk_lRem hY (by omega) hX]
      have hr : Y % X < X := Nat.mod_lt _ (by omega)
      refine ih (Y % X) X (by omega) (by omega) hX ?_
      rw [gcd_step]
      exact h
end
/-- the weight above, as one number, and what goes into it and 100 to the n -/
def sureV (c : Cfg) (rw : Nat → Nat) (n : Nat) (P : Nat → Nat) (p k : Nat) : Int64 := if k = 0 then lN (suS c rw n P p (2 ^ n) / Nat.gcd (100 ^ n) (suS c rw n P p (2 ^ n))) else lN (100 ^ n / Nat.gcd (100 ^ n) (suS c rw n P p (2 ^ n)))
section
variable {g : Gx} {σ : St} {c : Cfg} {P : Nat → Nat} {t : Nat}
theorem k_TR_bringsHome {Q : Int32 → St → Prop} {rw : Nat → Nat} {n s : Nat} (ht : isSA t) (hc : ClsT t σ c) (hp : okP c.1 c.2.1 c.2.2.1 c.2.2.2.1 P) (h5 : fi σ t 5 = nI (sitP P c.2.2.1)) (h7 : fi σ t 7 = nI n) (hn : n ≤ 8) (hrw : ∀ k, k < n → ai σ (t + 3) k = nI (rw k) ∧ rw k < 4) (hs : s < 2 ^ 31)
    (h : ∀ τ, fr [(17, 4), (17, 6), (17, 7)] [19, 20, 21, 26, 31, 36, 41, 46, 51] σ τ → Q (if allH (rowG c rw s P n).1 then 1 else 0) τ) : K_TR_bringsHome g t (nI s) σ Q := by
  have h17 := (sa_82 ht).2.1
  have h3 := (sa_out ht).2.2.2.1
  have hC := hc.1.2.1.1
  have hR := hc.1.2.1.2.1
  have hok : ∀ i, i ≤ n → okP c.1 c.2.1 c.2.2.1 c.2.2.2.1 (rowG c rw s P i).1 := fun i hi => rowG_ok hC hR hp (fun k hk => (hrw k (by omega)).2)
  have go : ∀ (m i : Nat) (τ : St), i + m = n → fr [(17, 4), (17, 6), (17, 7)] [19, 20, 21, 26, 31, 36, 41, 46, 51] σ τ → S_TR_bringsHome_8 g Q τ t (nI s) (nI (sitP (rowG c rw s P i).1 c.2.2.1)) (nI i) := by
    intro m
    induction m with
    | zero =>
      intro i τ hi hf
      have e : i = n := by omega
      subst e
      refine sg_TR_bringsHome_8 ht ?_
      rw [(hf.1 t 7 (by simp [h17])).1, h7]
      have hz : nI (sitP (rowG c rw s P i).1 c.2.2.1) = 0 ↔ allH (rowG c rw s P i).1 := by
        rw [← sit0 (hok i (Nat.le_refl _)).1]
        exact nI_eq (b := 0) (Nat.lt_trans sitP_lt (by decide)) (by decide)
      refine ⟨fun _ => ?_, fun q => absurd (nI_le (Nat.le_refl _) (by omega)) q⟩
      rw [hz]
      exact (qif (h τ hf)).symm
    | succ m ih =>
      intro i τ hi hf
      obtain ⟨r1, r2⟩ := hrw i (by omega)
      refine sg_TR_bringsHome_8 ht ?_
      rw [(hf.1 t 7 (by simp [h17])).1, h7, bit0 hs (by omega)]
      refine ⟨fun q => absurd q (nI_ge (by omega) (by omega)), fun _ => ⟨fun q => ?_, fun q => ⟨vp_in_nI (by omega) (by decide), ?_⟩⟩⟩
      · rintro u rfl
        rw [nI_1]
        have := ih (i + 1) τ (by omega) hf
        rw [rowG, if_neg q] at this
        exact this
      · rw [nI_clamp (by omega), (hf.2 (t + 3) h3).1, r1]
        refine k_rolled ht r2 (clst_roll ht hc hf) (hok i (by omega)) (fun υ hu a1 a2 => ?_)
        rintro u rfl
        rw [nI_1]
        have := ih (i + 1) υ (by omega) (hf.tr hu)
        rw [rowG, if_pos (Decidable.not_not.mp q)] at this
        exact this
  refine ko_TR_bringsHome (sg_TR_bringsHome_0 ht ?_)
  rintro u rfl
  rw [h5]
  exact go n 0 σ (Nat.zero_add _) fr.rf
theorem k_TR_reckonSure {Q : St → Prop} {rw : Nat → Nat} {n p : Nat} (ht : isSA t) (hc : ClsT t σ c) (hp : okP c.1 c.2.1 c.2.2.1 c.2.2.2.1 P) (h5 : fi σ t 5 = nI (sitP P c.2.2.1)) (h7 : fi σ t 7 = nI n) (hn : n ≤ 8) (hrw : ∀ k, k < n → ai σ (t + 3) k = nI (rw k) ∧ rw k < 4) (hp100 : p ≤ 100)
    (h : ∀ τ, fr [(82, 4), (82, 5), (17, 4), (17, 6), (17, 7)] [19, 20, 21, 26, 31, 36, 41, 46, 51] σ τ → fj τ 82 4 = sureV c rw n P p 0 → fj τ 82 5 = sureV c rw n P p 1 → Q τ) : K_TR_reckonSure g t (nI p) σ Q := by
  have h17 := (sa_82 ht).2.1
  have h82 := (sa_82 ht).1
  have h3 := (sa_out ht).2.2.2.1
  obtain ⟨p1, p2, p3⟩ := pow8 hn
  have fin : ∀ (m s : Nat) (τ : St), s + m = 2 ^ n → fr [(82, 4), (82, 5), (17, 4), (17, 6), (17, 7)] [19, 20, 21, 26, 31, 36, 41, 46, 51] σ τ → fj τ 82 4 = lN (suS c rw n P p s) → fj τ 82 5 = lN (100 ^ n) → S_TR_reckonSure_40 g Q τ t (nI p) (nI s) := by
    intro m
    induction m with
    | zero =>
      intro s τ hi hf e4 e5
      have e : s = 2 ^ n := by omega
      refine sg_TR_reckonSure_40 ht ?_
      rw [(hf.1 t 7 (by simp [h82, h17])).1, h7, shl1 hn]
      refine ⟨fun _ => ?_, fun q => absurd (nI_le (by omega) (by omega)) q⟩
      rw [e4, e5, e]
      obtain ⟨A, hA⟩ : ∃ A, A = suS c rw n P p (2 ^ n) := ⟨_, rfl⟩
      have hA62 : A < 2 ^ 62 := by
        have := suS_le (c := c) (rw := rw) (n := n) (P := P) hp100 (2 ^ n)
        rw [← hA] at this
        have h2 : 2 ^ n * 100 ^ n ≤ 256 * 10000000000000000 := Nat.mul_le_mul p1 p2
        omega
      have hg : 0 < Nat.gcd (100 ^ n) A := Nat.gcd_pos_of_pos_left _ p3
      have hg63 : Nat.gcd (100 ^ n) A < 2 ^ 63 := Nat.lt_of_le_of_lt (Nat.gcd_le_left _ p3) (by omega)
      rw [← hA]
      refine ko_TR_greatestDivisor (sg_TR_greatestDivisor_0 (k_TR_gcd 62 (100 ^ n) A 0 hA62 (by decide) (by omega) (by decide) ?_))
      have ne : ¬ lN (Nat.gcd (100 ^ n) A) = 0 := fun q => by
        have := (pk_lEQ (b := 0) hg63 (by decide)).mp q
        omega
      refine ⟨fun q => absurd ?_ (show ¬ Nat.gcd (100 ^ n) A ≤ 0 by omega), fun _ => ⟨ne, ?_⟩⟩
      · rw [lg_cmp_le] at q
        exact (pk_lLE (b := 0) hg63 (by decide)).mp q
      · rintro s3 rfl
        refine ⟨ne, ?_⟩
        rintro s4 e'
        refine h s4 ?_ ?_ ?_
        · rw [e']; exact hf.tr ((fr_sfj (by decide)).tr (fr_sfj (by decide)))
        · rw [e']
          show fj τ 82 4 / _ = _
          rw [e4, e, ← hA, pk_lDiv (by omega) hg hg63]
          unfold sureV
          rw [if_pos rfl, ← hA]
        · rw [e']
          show fj τ 82 5 / _ = _
          rw [e5, pk_lDiv (by omega) hg hg63]
          unfold sureV
          rw [if_neg (by decide), ← hA]
    | succ m ih =>
      intro s τ hi hf e4 e5
      refine sg_TR_reckonSure_40 ht ?_
      have e7 : fi τ t 7 = nI n := by rw [(hf.1 t 7 (by simp [h82, h17])).1, h7]
      rw [e7, shl1 hn]
      refine ⟨fun q => absurd q (nI_ge (by omega) (by omega)), fun _ => ?_⟩
      refine k_TR_weightOf (by omega) hn hp100 ?_
      have hwt := wtN_le (s := s) hp100 n
      rw [lg_cmp_le]
      have hz : (lN (wtN s p n) ≤ 0) ↔ wtN s p n ≤ 0 := pk_lLE (b := 0) (by omega) (by decide)
      rw [hz]
      have nx := ih (s + 1)
      refine ⟨fun q => ?_, fun q => ?_⟩
      · rintro u rfl
        rw [nI_1]
        refine nx τ (by omega) hf ?_ e5
        have w0 : wtN s p n = 0 := by omega
        rw [e4, suS_s, w0]
        simp
      · refine k_TR_bringsHome ht (trF ht hc (hf.mo (by decide) (by decide))) hp (by rw [(hf.1 t 5 (by simp [h82, h17])).1]; exact h5) e7 hn (fun k hk => ⟨by rw [(hf.2 (t + 3) h3).1]; exact (hrw k hk).1, (hrw k hk).2⟩) (by omega) (fun υ hu => ?_)
        have f4 : fj υ 82 4 = lN (suS c rw n P p s) := by rw [(hu.1 82 4 (by decide)).2]; exact e4
        have f5 : fj υ 82 5 = lN (100 ^ n) := by rw [(hu.1 82 5 (by decide)).2]; exact e5
        have fu := hf.tr (hu.mo (by decide) (by decide))
        by_cases hh : allH (rowG c rw s P n).1
        · rw [if_pos hh]
          refine ⟨fun q => absurd q (by decide), fun _ => ?_⟩
          rintro s11 e11 u rfl
          rw [nI_1]
          refine nx s11 (by omega) (by rw [e11]; exact fu.tr (fr_sfj (by decide))) ?_ (by rw [e11]; exact f5)
          rw [e11]
          show fj υ 82 4 + _ = _
          rw [f4, lN_add, suS_s, if_pos hh]
        · rw [if_neg hh]
          refine ⟨fun _ => ?_, fun q => absurd rfl q⟩
          rintro u rfl
          rw [nI_1]
          refine nx υ (by omega) fu ?_ f5
          rw [f4, suS_s, if_neg hh, Nat.add_zero]
  have beg : ∀ (m i : Nat) (τ : St), i + m = n → fr [(82, 4), (82, 5), (17, 4), (17, 6), (17, 7)] [19, 20, 21, 26, 31, 36, 41, 46, 51] σ τ → fj τ 82 4 = 0 → fj τ 82 5 = lN (100 ^ i) → S_TR_reckonSure_12 g Q τ t (nI p) (nI i) := by
    intro m
    induction m with
    | zero =>
      intro i τ hi hf e4 e5
      have e : i = n := by omega
      subst e
      refine sg_TR_reckonSure_12 ht ?_
      rw [(hf.1 t 7 (by simp [h82, h17])).1, h7]
      exact ⟨fun _ => fin (2 ^ i) 0 τ (Nat.zero_add _) hf e4 e5, fun q => absurd (nI_le (Nat.le_refl _) (by omega)) q⟩
    | succ m ih =>
      intro i τ hi hf e4 e5
      refine sg_TR_reckonSure_12 ht ?_
      rw [(hf.1 t 7 (by simp [h82, h17])).1, h7]
      refine ⟨fun q => absurd q (nI_ge (by omega) (by omega)), fun _ => ?_⟩
      rintro s1 e1 u rfl
      rw [nI_1]
      refine ih (i + 1) s1 (by omega) (by rw [e1]; exact hf.tr (fr_sfj (by decide))) (by rw [e1]; exact e4) ?_
      rw [e1]
      show fj τ 82 5 * 100 = _
      rw [e5, Nat.pow_succ]
      exact lN_mul _ 100
  refine ko_TR_reckonSure (sg_TR_reckonSure_0 ht ?_)
  rintro s1 rfl s2 e2
  exact beg n 0 s2 (Nat.zero_add _) (by rw [e2]; exact (fr_sfj (by decide)).tr (fr_sfj (by decide))) (by rw [e2]; rfl) (by rw [e2]; rfl)
end
