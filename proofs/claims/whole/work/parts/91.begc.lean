-- the beginnings of the class
theorem dig1 (n k : Nat) : digN n 1 k = [k % n] := by simp [digN]
theorem dig2 (n k : Nat) : digN n 2 k = [k / n % n, k % n] := by simp [digN]
theorem dig3 (n k : Nat) : digN n 3 k = [k / n / n % n, k / n % n, k % n] := by
  have e1 : k % n ^ 2 / n = k / n % n := by rw [Nat.pow_two, Nat.mod_mul_right_div_self]
  have e2 : k % n ^ 2 % n = k % n := Nat.mod_mod_of_dvd k (by rw [Nat.pow_two]; exact Nat.dvd_mul_right n n)
  have e3 : k / n ^ 2 = k / n / n := by rw [Nat.pow_two, Nat.div_div_eq_div_mul]
  show [k / n ^ 2 % n, k % n ^ 2 / n ^ 1 % n, k % n ^ 2 % n ^ 1 / n ^ 0 % n] = _
  rw [e3, Nat.pow_one, e1, e2, Nat.pow_zero, Nat.div_one, Nat.mod_mod, Nat.mod_mod]
theorem orN (a b : Nat) : nI a ||| nI b = nI (a ||| b) := by
  apply b_ext
  intro i hi
  rw [b_or, bt_nI hi, bt_nI hi, bt_nI hi, Nat.testBit_or]
theorem sb_ext {a b : Int64} (h : ∀ k, k < 64 → sbit a k = sbit b k) : a = b := by
  apply wb_inj
  apply BitVec.eq_of_getLsbD_eq
  intro k hk
  exact h k hk
section
variable {g : Gx} {σ : St}
theorem k_JA_fill {Q : St → Prop} {a N : Nat} {x : Int32} (ha : SH[a]? = some (.inr (0, N, []))) (hN : N < 2 ^ 31) (h : ∀ τ, fr [] [a] σ τ → (∀ k, k < N → ai τ a k = x) → Q τ) : K_JA_fill g a x σ Q := by
  have go : ∀ (m i : Nat) (τ : St), i + m = N → fr [] [a] σ τ → (∀ k, k < i → ai τ a k = x) → S_JA_fill_5 g Q τ a x (nI i) (nI N) := by
    intro m
    induction m with
    | zero =>
      intro i τ hi hf hx
      have e : i = N := by omega
      subst e
      exact sg_JA_fill_5 ha ⟨fun _ => h τ hf hx, fun c => absurd (nI_le (Nat.le_refl _) (by omega)) c⟩
    | succ m ih =>
      intro i τ hi hf hx
      refine sg_JA_fill_5 ha ⟨fun c => absurd c (nI_ge (by omega) (by omega)), fun _ => ⟨vp_in_nI (by omega) (by omega), ?_⟩⟩
      rintro s rfl u rfl
      rw [nI_clamp (by omega), nI_1]
      refine ih (i + 1) _ (by omega) (hf.tr (fr_sai (by simp))) (fun k hk => ?_)
      rw [ai_sai]
      by_cases e : k = i
      · rw [if_pos ⟨rfl, e⟩]
      · rw [if_neg (fun q => e q.2)]; exact hx k (by omega)
  refine ko_JA_fill (sg_JA_fill_0 ha ?_)
  rintro u rfl
  exact go N 0 σ (Nat.zero_add _) fr.rf (fun k hk => absurd hk (by omega))
theorem k_JA_fill_1 {Q : St → Prop} {a N : Nat} {x : Int64} (ha : SH[a]? = some (.inr (1, N, []))) (hN : N < 2 ^ 31) (h : ∀ τ, fr [] [a] σ τ → (∀ k, k < N → aj τ a k = x) → Q τ) : K_JA_fill_1 g a x σ Q := by
  have go : ∀ (m i : Nat) (τ : St), i + m = N → fr [] [a] σ τ → (∀ k, k < i → aj τ a k = x) → S_JA_fill_1_6 g Q τ a x (nI i) (nI N) := by
    intro m
    induction m with
    | zero =>
      intro i τ hi hf hx
      have e : i = N := by omega
      subst e
      exact sg_JA_fill_1_6 ha ⟨fun _ => h τ hf hx, fun c => absurd (nI_le (Nat.le_refl _) (by omega)) c⟩
    | succ m ih =>
      intro i τ hi hf hx
      refine sg_JA_fill_1_6 ha ⟨fun c => absurd c (nI_ge (by omega) (by omega)), fun _ => ⟨vp_in_nI (by omega) (by omega), ?_⟩⟩
      rintro s rfl u rfl
      rw [nI_clamp (by omega), nI_1]
      refine ih (i + 1) _ (by omega) (hf.tr (fr_saj (by simp))) (fun k hk => ?_)
      rw [aj_saj]
      by_cases e : k = i
      · rw [if_pos ⟨rfl, e⟩]
      · rw [if_neg (fun q => e q.2)]; exact hx k (by omega)
  refine ko_JA_fill_1 (sg_JA_fill_1_0 ha ?_)
  rintro u rfl
  exact go N 0 σ (Nat.zero_add _) fr.rf (fun k hk => absurd hk (by omega))
theorem getD_app {L : List Nat} {x k : Nat} : (L ++ [x]).getD k 0 = if k = L.length then x else L.getD k 0 := by
  by_cases e : k = L.length
  · subst e; simp
  · rw [if_neg e]
    by_cases h : k < L.length
    · simp [List.getD, List.getElem?_append_left h]
    · have h1 : (L ++ [x])[k]? = none := List.getElem?_eq_none (by simp; omega)
      have h2 : L[k]? = none := List.getElem?_eq_none (by omega)
      rw [List.getD_eq_getElem?_getD, List.getD_eq_getElem?_getD, h1, h2]
theorem k_SA_listPlain {Q : Int32 → St → Prop} {t a : Nat} {c : Cfg} (ht : isSA t) (ha : SH[a]? = some (.inr (0, 36, []))) (hta : t + 1 ≠ a) (hc : ClsB t σ c.1 c.2.1 c.2.2.1 c.2.2.2.1) (h : ∀ τ, fr [] [a] σ τ → (∀ k, k < (plnL c).length → ai τ a k = nI (spc ((plnL c).getD k 0))) → Q (nI (plnL c).length) τ) : K_SA_listPlain g t a σ Q := by
  obtain ⟨-, ⟨hC, hR, -⟩, hG, -⟩ := hc
  have hn36 : ∀ p, p ≤ 64 → nSp p ≤ 36 := by
    intro p hp
    unfold nSp
    split
    · omega
    · split
      · omega
      · split
        · omega
        · split <;> omega
  have go : ∀ (m p : Nat) (τ : St), p + m = 64 → fr [] [a] σ τ → (∀ k, k < ((List.range (nSp p)).filter (plnC c)).length → ai τ a k = nI (spc (((List.range (nSp p)).filter (plnC c)).getD k 0))) → S_SA_listPlain_4 g Q τ t a (nI ((List.range (nSp p)).filter (plnC c)).length) (nI p) := by
    intro m
    induction m with
    | zero =>
      intro p τ hp hf hk
      have e : p = 64 := by omega
      subst e
      exact sg_SA_listPlain_4 ht ha ⟨fun _ => h τ hf hk, fun q => absurd (by decide) q⟩
    | succ m ih =>
      intro p τ hp hf hk
      have hp64 : p < 64 := by omega
      have hlen : ((List.range (nSp p)).filter (plnC c)).length ≤ nSp p := by
        have := List.length_filter_le (plnC c) (List.range (nSp p))
        simpa using this
      refine sg_SA_listPlain_4 ht ha ⟨fun q => absurd q (nI_ge (b := 64) hp64 (by decide)), fun _ => ⟨vp_in_nI hp64 (by decide), ?_⟩⟩
      rw [nI_clamp (by omega), (hf.2 (t + 1) (by simp [hta])).1]
      have skip : (List.range (nSp (p + 1))).filter (plnC c) = (List.range (nSp p)).filter (plnC c) → ∀ u : Int32, u = nI p + 1 → S_SA_listPlain_4 g Q τ t a (nI ((List.range (nSp p)).filter (plnC c)).length) u := by
        rintro e u rfl
        rw [nI_1]
        have := ih (p + 1) τ (by omega) hf (by rw [e]; exact hk)
        rw [e] at this
        exact this
      rcases spot_cases hp64 with ⟨x, hx36, ex, n1, n2⟩ | ⟨hno, n1⟩
      · subst ex
        have es : (List.range (nSp (spc x + 1))).filter (plnC c) = (List.range (nSp (spc x))).filter (plnC c) ++ (if plnC c x then [x] else []) := by
          rw [n1, n2, List.range_succ, List.filter_append]
          congr 1
          cases hq : plnC c x <;> simp [hq]
        by_cases hin : x % 6 < c.1 ∧ x / 6 < c.2.1
        · obtain ⟨k1, k2⟩ := hG.1 x hin.1 hin.2
          have e0 : nI (c.2.2.2.1 x) = 0 ↔ c.2.2.2.1 x = 0 := nI_eq (b := 0) (by omega) (by decide)
          rw [k1, e0]
          refine ⟨fun q => skip ?_, fun q => ⟨fun z => ?_, fun _ => ⟨vp_in_nI (by omega) (by decide), ?_⟩⟩⟩
          · have : plnC c x = false := decide_eq_false (fun z => q z.2)
            rw [es, this]; simp
          · have hle := (nI_leI (a := 36) (by decide) (by omega)).mp z
            omega
          · have hpl : plnC c x = true := decide_eq_true ⟨hin, q⟩
            rintro s3 e3 u rfl u2 rfl
            rw [nI_clamp (by omega)] at e3
            rw [nI_1, nI_1]
            rw [hpl] at es
            simp only [if_true] at es
            have := ih (spc x + 1) s3 (by omega) (by rw [e3]; exact hf.tr (fr_sai (by simp))) (fun k hk2 => by
              rw [es] at hk2 ⊢
              rw [e3, ai_sai, getD_app]
              by_cases z : k = ((List.range (nSp (spc x))).filter (plnC c)).length
              · rw [if_pos ⟨rfl, z⟩, if_pos z]
              · rw [if_neg (fun y => z y.2), if_neg z]
                exact hk k (by simp at hk2; omega))
            rw [es, List.length_append] at this
            exact this
        · have hout : ∀ y, y % 6 < c.1 → y / 6 < c.2.1 → spc x ≠ spc y := fun y h1 h2 e => by
            have := spc_inj e hx36 (by omega)
            rw [this] at hin; exact hin ⟨h1, h2⟩
          rw [hG.2 _ (spc_lt hx36) hout]
          refine ⟨fun _ => skip ?_, fun q => absurd q (by decide)⟩
          have : plnC c x = false := decide_eq_false (fun z => hin z.1)
          rw [es, this]; simp
      · rw [hG.2 _ hp64 (fun y h1 h2 => hno y (by omega))]
        refine ⟨fun _ => skip ?_, fun q => absurd q (by decide)⟩
        rw [n1]
  exact ko_SA_listPlain (sg_SA_listPlain_0 ht ha (go 64 0 σ rfl fr.rf (fun k hk => absurd hk (by simp [nSp]))))
theorem k_SA_beginningsEnd {Q : Int32 → St → Prop} {B n : Nat} (hB : B ≤ 3) (h : Q (nI (n ^ B)) σ) : K_SA_beginningsEnd g (nI B) (nI n) σ Q := by
  have go : ∀ (m i : Nat), i + m = B → S_SA_beginningsEnd_4 g Q σ (nI B) (nI n) (nI (n ^ i)) (nI i) := by
    intro m
    induction m with
    | zero =>
      intro i hi
      have e : i = B := by omega
      subst e
      exact sg_SA_beginningsEnd_4 ⟨fun _ => h, fun q => absurd (nI_le (Nat.le_refl _) (by omega)) q⟩
    | succ m ih =>
      intro i hi
      refine sg_SA_beginningsEnd_4 ⟨fun q => absurd q (nI_ge (by omega) (by omega)), fun _ => ?_⟩
      rintro u rfl u2 rfl
      rw [pk_mul, nI_1, ← Nat.pow_succ]
      exact ih (i + 1) (by omega)
  exact ko_SA_beginningsEnd (sg_SA_beginningsEnd_0 (go B 0 (Nat.zero_add _)))
/-- one ball more of a beginning -/
theorem bg_step {Q : Int32 → St → Prop} {a n b r S : Nat} {y : Int64} {f : Nat → Nat} {T : List Nat} (ha : SH[a]? = some (.inr (0, 36, []))) (hn0 : 0 < n) (hn : n ≤ 36) (hb : b < 3) (hr : r < 2 ^ 31) (hf : ∀ k, k < n → ai σ a k = nI (spc (f k)) ∧ f k < 36) (hT : ∀ x, x < 36 → (sbit y (spc x) = true ↔ x ∈ T)) (hS : S % 64 ^ (b + 1) = 0) (hS2 : S < 262144)
    (h1 : f (r % n) ∈ T → Q (-1) σ) (h2 : f (r % n) ∉ T → ∀ y' : Int64, (∀ x, x < 36 → (sbit y' (spc x) = true ↔ x ∈ f (r % n) :: T)) → ∀ u5 : Int32, u5 = nI b + (-1) → S_SA_beginning_32 g Q σ a (nI n) (nI (S + spc (f (r % n)) * 64 ^ b)) (nI (r / n)) y' u5) : S_SA_beginning_32 g Q σ a (nI n) (nI S) (nI r) y (nI b) := by
  have hm : r % n < n := Nat.mod_lt _ hn0
  obtain ⟨e1, e2⟩ := hf _ hm
  have hsp := spc_lt e2
  have er : nI r - nI r / nI n * nI n = nI (r % n) := pk_rem hr hn0 (by omega)
  have ed : nI r / nI n = nI (r / n) := pk_div hr hn0 (by omega)
  have nz : ¬ nI n = 0 := fun z => by have := (nI_eq (b := 0) (by omega) (by decide)).mp z; omega
  refine sg_SA_beginning_32 ha ⟨fun z => absurd z (nI_pos (by omega)), fun _ => ⟨nz, ?_⟩⟩
  rw [er, ed, nI_clamp (by omega), e1]
  refine ⟨vp_in_nI (by omega) (by decide), ?_⟩
  rintro u1 rfl
  refine ⟨nz, ?_⟩
  rintro u2 rfl
  rw [lg_cmp_eq, sb_read hsp]
  have hbit := hT _ e2
  refine ⟨fun z => ?_, fun z => h1 (hbit.mp (by simpa using z))⟩
  rintro u3 rfl u4 rfl u5 e5
  have eS : nI S ||| (nI (spc (f (r % n))) <<< ((6 * nI b) &&& 31)) = nI (S + spc (f (r % n)) * 64 ^ b) := by
    have es : nI (spc (f (r % n))) <<< ((6 * nI b) &&& 31) = nI (spc (f (r % n)) * 64 ^ b) := by
      rcases (show b = 0 ∨ b = 1 ∨ b = 2 by omega) with rfl | rfl | rfl
      · exact pk_shlN _ 0 (by decide) (by omega)
      · exact pk_shlN _ 6 (by decide) (by omega)
      · exact pk_shlN _ 12 (by decide) (by omega)
    rw [es, orN]
    congr 1
    rcases (show b = 0 ∨ b = 1 ∨ b = 2 by omega) with rfl | rfl | rfl
    · have := Nat.two_pow_add_eq_or_of_lt (i := 6) (show spc (f (r % n)) * 64 ^ 0 < 2 ^ 6 by omega) (S / 64)
      rw [show 2 ^ 6 * (S / 64) = S by omega] at this
      exact this.symm
    · have := Nat.two_pow_add_eq_or_of_lt (i := 12) (show spc (f (r % n)) * 64 ^ 1 < 2 ^ 12 by omega) (S / 4096)
      rw [show 2 ^ 12 * (S / 4096) = S by omega] at this
      exact this.symm
    · have := Nat.two_pow_add_eq_or_of_lt (i := 18) (show spc (f (r % n)) * 64 ^ 2 < 2 ^ 18 by omega) (S / 262144)
      rw [show 2 ^ 18 * (S / 262144) = S by omega] at this
      exact this.symm
  rw [eS]
  refine h2 (fun q => by rw [hbit.mpr q] at z; exact absurd z (by decide)) _ (fun x hx => ?_) u5 e5
  rw [sb_set (spc_lt hx) hsp, Bool.or_eq_true, hT x hx, decide_eq_true_iff, List.mem_cons]
  constructor
  · rintro (q | q)
    · exact Or.inr q
    · exact Or.inl (spc_inj q hx e2)
  · rintro (q | q)
    · exact Or.inr (by rw [q])
    · exact Or.inl q
end
