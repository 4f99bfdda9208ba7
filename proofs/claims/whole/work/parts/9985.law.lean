-- the law's loop: call after call, both answer alike
theorem rel_mono {N M : Nat} {σ : St} (h : Rel N σ) (hNM : N ≤ M) : Rel M σ := by
  obtain ⟨X, ch, mp, mk, h1, h2, h3, h4, h5, h6⟩ := h
  exact ⟨X, ch, mp, mk, h1, h2, h3, by omega, by omega, by omega⟩
theorem lg_self (x : Int64) : lg_cmp x x = 0 := by rw [lg_cmp_eq]
section
variable {g : Gx} {N : Nat} {σ : St} {x3 : Int32}
/-- the two answers alike, and the loop goes on -/
def LwQ (g : Gx) (x3 : Int32) (r1 r2 : Int32) (s : St) : Prop := (r1 = r2 → ∀ u : Int32, u = x3 + (6 : Int32) → S_LW_law_18 g s u) ∧ (¬ r1 = r2 → False)
def LwJ (g : Gx) (x3 : Int32) (r1 r2 : Int64) (s : St) : Prop := (lg_cmp r1 r2 = 0 → ∀ u : Int32, u = x3 + (6 : Int32) → S_LW_law_18 g s u) ∧ (¬ lg_cmp r1 r2 = 0 → False)
set_option maxHeartbeats 4000000 in
theorem law_step (hN : N ≤ 600) (hR : Rel N σ) (v0 : vp_in x3 (gXL g)) (v1 : vp_in (x3 + (1 : Int32)) (gXL g)) (v2 : vp_in (x3 + (2 : Int32)) (gXL g)) (v3 : vp_in (x3 + (3 : Int32)) (gXL g)) (v4 : vp_in (x3 + (4 : Int32)) (gXL g)) (v5 : vp_in (x3 + (5 : Int32)) (gXL g))
    (hn : ∀ τ, Rel (N + 1) τ → S_LW_law_18 g τ (x3 + 6)) : S_LW_law_18 g σ x3 := by
  have hq : ∀ (r : Int32) (τ : St), Rel (N + 1) τ → LwQ g x3 r r τ := fun r τ h => ⟨fun _ u e => e ▸ hn τ h, fun c => c rfl⟩
  have hj : ∀ (r : Int64) (τ : St), Rel (N + 1) τ → LwJ g x3 r r τ := fun r τ h => ⟨fun _ u e => e ▸ hn τ h, fun c => c (lg_self r)⟩
  refine sg_LW_law_18 ⟨fun _ => trivial, fun _ => ⟨v0, ?_⟩⟩
  refine ⟨fun _ => ?_, fun _ => ?_, fun _ => ?_, fun _ => ?_, fun _ => ?_, fun _ => ?_, fun _ => ?_, fun _ => ?_, fun _ => ?_, fun _ => ?_, fun _ => ?_, fun _ => ?_, fun _ => ?_, fun _ => ?_, fun _ => ?_, fun _ => ?_, fun _ => ?_, fun _ => ?_, fun _ => ?_, fun _ => ?_, fun _ => ?_, fun _ => ?_, fun _ => ?_, fun _ => ?_, fun _ => ?_, fun _ => ?_, fun _ => ?_, fun _ => ?_, fun _ => ?_, fun _ => ?_, fun _ => ?_, fun _ => ?_, ?_⟩
  · simp only [v1, v2, v3, v4, v5, true_and]
    exact op_feedR (Q := LwQ g x3) hN hR hq
  · simp only [v1, true_and]
    exact op_endR (Q := LwQ g x3) hN hR hq
  · exact op_boxR (Q := LwQ g x3) hN hR hq
  · exact op_ruleR (Q := LwQ g x3) hN hR hq
  · simp only [v1, true_and]
    exact op_forceR (Q := LwQ g x3) hN hR hq
  · simp only [v1, v2, v3, true_and]
    exact op_cellR (Q := LwQ g x3) hN hR hq
  · simp only [v1, v2, true_and]
    exact op_ballR (Q := LwQ g x3) hN hR hq
  · simp only [v1, v2, v3, true_and]
    exact op_putR (Q := LwQ g x3) hN hR hq
  · simp only [v1, v2, v3, true_and]
    refine ⟨fun c => ?_, fun c => ?_⟩
    · simp only [c, true_implies, not_true_eq_false, false_implies, and_true]
      exact op_wallR (Q := LwQ g x3) hN hR hq
    · simp only [c, false_implies, true_implies, not_false_eq_true, true_and]
      exact op_wallR (Q := LwQ g x3) hN hR hq
  · simp only [v1, true_and]
    exact op_tipR (Q := LwQ g x3) hN hR hq
  · simp only [v1, true_and]
    exact op_may (Q := LwQ g x3) hN hR hq
  · simp only [v1, true_and]
    exact op_pressR (Q := LwQ g x3) hN hR hq
  · simp only [v1, true_and]
    exact op_would (Q := LwQ g x3) hN hR hq
  · simp only [v1, v2, true_and]
    exact op_sure (Q := LwJ g x3) hN hR hj
  · exact op_fewest (Q := LwQ g x3) hN hR hq
  · simp only [v1, true_and]
    exact op_path (Q := LwQ g x3) hN hR hq
  · simp only [v1, v2, true_and]
    exact op_blind (Q := LwQ g x3) hN hR hq
  · simp only [v1, true_and]
    exact op_chipped (Q := LwQ g x3) hN hR hq
  · simp only [v1, true_and]
    exact op_walled (Q := LwQ g x3) hN hR hq
  · simp only [v1, true_and]
    exact op_hardest (Q := LwQ g x3) hN hR hq
  · simp only [v1, v2, v3, true_and]
    exact op_soundR (Q := LwQ g x3) hN hR hq
  · simp only [v1, true_and]
    exact op_fits (Q := LwQ g x3) hN hR hq
  · simp only [v1, true_and]
    exact op_where (Q := LwJ g x3) hN hR hj
  · simp only [v1, true_and]
    exact op_tells (Q := LwQ g x3) hN hR hq
  · simp only [v1, v2, true_and]
    exact op_game (Q := LwQ g x3) hN hR hq
  · exact op_bookR (Q := LwQ g x3) hN hR hq
  · simp only [v1, true_and]
    exact op_painR (Q := LwQ g x3) hN hR hq
  · simp only [v1, true_and]
    exact op_seedR (Q := LwQ g x3) hN hR hq
  · simp only [v1, v2, v3, true_and]
    exact op_shaken (Q := LwQ g x3) hN hR hq
  · simp only [v1, true_and]
    exact op_countR (Q := LwQ g x3) hN hR hq
  · simp only [v1, true_and]
    exact op_imageR (Q := LwQ g x3) hN hR hq
  · simp only [v1, true_and]
    exact op_backR (Q := LwQ g x3) hN hR hq
  · intros; subst_vars; exact hn σ (rel_mono hR (Nat.le_succ N))
end
theorem law_go {g : Gx} (hL : gXL g ≤ 3072) : ∀ (f i : Nat) (σ : St), i + f = 513 → 6 * i ≤ gXL g → Rel i σ → S_LW_law_18 g σ (nI (6 * i)) := by
  intro f
  induction f with
  | zero => intro i σ h1 h2 _; omega
  | succ f ih =>
    intro i σ h1 h2 hR
    by_cases c : 6 * i + 6 ≤ gXL g
    · have e : ∀ k, k < 6 → vp_in (nI (6 * i) + nI k) (gXL g) := fun k hk => by rw [nI_add]; exact vp_in_nI (by omega) (by omega)
      refine law_step (N := i) (by omega) hR (vp_in_nI (by omega) (by omega)) (e 1 (by decide)) (e 2 (by decide)) (e 3 (by decide)) (e 4 (by decide)) (e 5 (by decide)) (fun τ h => ?_)
      rw [show nI (6 * i) + (6 : Int32) = nI (6 * (i + 1)) from nI_add (6 * i) 6]
      exact ih (i + 1) τ (by omega) (by omega) h
    · refine sg_LW_law_18 ⟨fun _ => trivial, fun q => absurd ?_ q⟩
      rw [Int32.lt_iff_toInt_lt, nI_lit, show (nI (gXL g)) - (6 : Int32) = nI (gXL g) - nI 6 from rfl, nI_toInt (by omega), Int32.toInt_sub, nI_toInt (by omega), nI_toInt (by decide), Int.bmod_eq_of_le (by omega) (by omega)]
      omega
