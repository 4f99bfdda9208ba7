-- the tape: feed and end
section
variable {g : Gx} {σ : St}
theorem p_takeFour {Q : St → Prop} {x : Int32} {n : Nat} (hn : n + 4 ≤ 400) (hl : fi σ 1 1 = nI n) (h : ∀ τ, fr [(1, 1)] [2] σ τ → fi τ 1 1 = nI (n + 4) → (∀ k, k < n → ai τ 2 k = ai σ 2 k) → (∀ j, j < 4 → ai τ 2 (n + j) = tb4 x j) → Q τ) : K_TA_takeFour g x σ Q := by
  refine k_TA_takeFour hn hl (h _ ?_ rfl ?_ ?_)
  · have st : ∀ (j : Nat) (τ : St), fr [(1, 1)] [2] τ (tf1 x n j τ) := fun j τ => fr.tr (fr_sai (by decide)) (fr_sfi (by decide))
    exact (((st 0 _).tr (st 1 _)).tr (st 2 _)).tr (st 3 _)
  · intro k hk
    have st : ∀ (j : Nat) (τ : St), ai (tf1 x n j τ) 2 k = ai τ 2 k := fun j τ => by
      show ai (sai τ 2 (n + j) (tb4 x j)) 2 k = _
      rw [ai_sai, if_neg (by omega)]
    rw [st, st, st, st]
  · intro j hj
    have st : ∀ (i : Nat) (τ : St), ai (tf1 x n i τ) 2 (n + j) = if j = i then tb4 x i else ai τ 2 (n + j) := fun i τ => by
      show ai (sai τ 2 (n + i) (tb4 x i)) 2 (n + j) = _
      rw [ai_sai]
      by_cases e : j = i
      · rw [if_pos ⟨rfl, by omega⟩, if_pos e]
      · rw [if_neg (by omega), if_neg e]
    rw [st, st, st, st]
    rcases (show j = 0 ∨ j = 1 ∨ j = 2 ∨ j = 3 by omega) with rfl | rfl | rfl | rfl <;> rfl
theorem p_append {Q : St → Prop} {x : Int32} {n : Nat} (hn : n + 4 ≤ 400) (hl : fi σ 151 11 = nI n) (h : ∀ τ, fr [(151, 11)] [162] σ τ → fi τ 151 11 = nI (n + 4) → (∀ k, k < n → ai τ 162 k = ai σ 162 k) → (∀ j, j < 4 → ai τ 162 (n + j) = tm4 x j) → Q τ) : K_BM_append g x σ Q := by
  refine k_BM_append hn hl (h _ ?_ rfl ?_ ?_)
  · have st : ∀ (j : Nat) (τ : St), fr [(151, 11)] [162] τ (ap1 x n j τ) := fun j τ => fr.tr (fr_sai (by decide)) (fr_sfi (by decide))
    exact (((st 0 _).tr (st 1 _)).tr (st 2 _)).tr (st 3 _)
  · intro k hk
    have st : ∀ (j : Nat) (τ : St), ai (ap1 x n j τ) 162 k = ai τ 162 k := fun j τ => by
      show ai (sai τ 162 (n + j) (tm4 x j)) 162 k = _
      rw [ai_sai, if_neg (by omega)]
    rw [st, st, st, st]
  · intro j hj
    have st : ∀ (i : Nat) (τ : St), ai (ap1 x n i τ) 162 (n + j) = if j = i then tm4 x i else ai τ 162 (n + j) := fun i τ => by
      show ai (sai τ 162 (n + i) (tm4 x i)) 162 (n + j) = _
      rw [ai_sai]
      by_cases e : j = i
      · rw [if_pos ⟨rfl, by omega⟩, if_pos e]
      · rw [if_neg (by omega), if_neg e]
    rw [st, st, st, st]
    rcases (show j = 0 ∨ j = 1 ∨ j = 2 ∨ j = 3 by omega) with rfl | rfl | rfl | rfl <;> rfl
/-- four more behind those that stand -/
theorem four_more {r r' : Nat → Int32} {f : Nat → Nat → Int32} {X : Nat → Int32} {b : Int32 → Nat → Int32} {n i : Nat} (h0 : ∀ m, m < 4 * i → r (n + m) = b (X (m / 4)) (m % 4)) (h1 : ∀ k, k < n + 4 * i → r' k = r k) (h2 : ∀ j, j < 4 → r' (n + 4 * i + j) = b (X i) j) : ∀ m, m < 4 * (i + 1) → r' (n + m) = b (X (m / 4)) (m % 4) := by
  intro m hm
  by_cases h : m < 4 * i
  · rw [h1 _ (by omega)]; exact h0 m h
  · have e1 : m / 4 = i := by omega
    have e2 := h2 (m % 4) (by omega)
    rw [show n + 4 * i + m % 4 = n + m by omega] at e2
    rw [e2, e1]
/-- both tapes hold the same bytes: the class's as 0 to 255, the reference's as they are -/
def TapeR (σ : St) : Prop := ∃ n : Nat, n ≤ 400 ∧ fi σ 1 1 = nI n ∧ fi σ 151 11 = nI n ∧ ∀ k, k < n → ∃ z : Int32, ai σ 162 k = z.toInt8.toInt32 ∧ ai σ 2 k = z &&& 255
theorem TapeR.kept {τ : St} (h : TapeR σ) (h1 : fi τ 1 1 = fi σ 1 1) (h2 : fi τ 151 11 = fi σ 151 11) (h3 : ai τ 2 = ai σ 2) (h4 : ai τ 162 = ai σ 162) : TapeR τ := by
  obtain ⟨n, a, b, c, d⟩ := h
  exact ⟨n, a, h1.trans b, h2.trans c, fun k hk => by rw [h3, h4]; exact d k hk⟩
theorem op_end {Q : Int32 → Int32 → St → Prop} {x : Int32} (hT : TapeR σ) (h : ∀ r τ, TapeR τ → fr [(1, 1), (151, 11)] [2, 162] σ τ → Q r r τ) : K_BB_end g x σ (fun r1 s1 => K_BM_end g x s1 (fun r2 s2 => Q r1 r2 s2)) := by
  obtain ⟨n, hn, h1, h2, h3⟩ := hT
  have same : ∀ a b : Int32, Q a a σ → a = b → Q a b σ := fun a b q e => e ▸ q
  refine ko_BB_end (sg_BB_end_0 ⟨fun c => ?_, fun c => ⟨fun d => ?_, fun d => ?_⟩⟩)
  · refine ko_BM_end (sg_BM_end_0 ⟨fun _ => h _ _ ⟨n, hn, h1, h2, h3⟩ fr.rf, fun c' => absurd c c'⟩)
  · rintro s1 rfl
    have e2 : fi (sfi σ 1 1 x) 151 11 = nI n := h2
    refine ko_BM_end (sg_BM_end_0 ⟨fun c' => absurd c' c, fun _ => ⟨fun _ => ?_, fun d' => absurd (by rw [e2, ← h1]; exact d) d'⟩⟩)
    rintro s2 rfl
    obtain ⟨j, hj, rfl⟩ := nI_of c
    rw [h1] at d
    have hjn : j ≤ n := (nI_leI hj (by omega)).mp d
    refine h _ _ ⟨j, by omega, rfl, rfl, fun k hk => h3 k (by omega)⟩ (fr.tr (fr_sfi (by decide)) (fr_sfi (by decide)))
  · refine ko_BM_end (sg_BM_end_0 ⟨fun c' => absurd c' c, fun _ => ⟨fun d' => absurd (by rw [h1, ← h2]; exact d') d, fun _ => h _ _ ⟨n, hn, h1, h2, h3⟩ fr.rf⟩⟩)
end
