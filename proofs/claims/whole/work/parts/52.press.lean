-- press
def RowR (σ : St) : Prop := ∃ n : Nat, n ≤ 8 ∧ fi σ 83 7 = nI n ∧ ai σ 152 4 = nI n ∧ ∀ k, k < n → ∃ w, w < 4 ∧ ai σ 86 k = nI w ∧ ai σ 155 k = nI w
theorem way_iff {x : Int32} : ((0 : Int64) ≤ x.toInt64 ∧ x.toInt64 ≤ 3) ↔ ¬ (x < 0 ∨ 3 < x) := by
  rw [Int64.le_iff_toInt_le, Int64.le_iff_toInt_le, Int32.toInt_toInt64, Int32.lt_iff_toInt_lt, Int32.lt_iff_toInt_lt]
  have a1 : (0 : Int64).toInt = 0 := by decide
  have a2 : (3 : Int64).toInt = 3 := by decide
  have a3 : (0 : Int32).toInt = 0 := by decide
  have a4 : (3 : Int32).toInt = 3 := by decide
  rw [a1, a2, a3, a4]
  omega
theorem way_of {x : Int32} (h : ¬ (x < 0 ∨ 3 < x)) : ∃ w, w < 4 ∧ x = nI w := by
  obtain ⟨j, hj, rfl⟩ := nI_of (fun q => h (Or.inl q))
  exact ⟨j, Nat.not_le.mp (fun q => h (Or.inr (nI_lt (a := 3) (by omega) hj))), rfl⟩
section
variable {g : Gx} {σ : St}
theorem op_press {Q : Int32 → Int32 → St → Prop} {x : Int32} {C : Nat} (hC : C ≤ 6) (hb : fi σ 83 1 = if C = 0 then 0 else 1) (hc : ai σ 152 0 = nI C) (hR : RowR σ) (h : ∀ r τ, RowR τ → fr [(83, 7)] [86, 152, 155] σ τ → (∀ k, k ≠ 4 → ai τ 152 k = ai σ 152 k) → Q r r τ) : K_BB_press g x σ (fun r1 s1 => K_BM_press g x s1 (fun r2 s2 => Q r1 r2 s2)) := by
  obtain ⟨n, hn, r1, r2, r3⟩ := id hR
  have stay : ∀ r, Q r r σ := fun r => h r σ hR fr.rf (fun _ _ => rfl)
  have box : (ai σ 152 0 ≤ 0) ↔ C = 0 := by
    rw [hc]
    constructor
    · intro q
      by_cases e : C = 0
      · exact e
      · exact absurd q (nI_nle (by omega) (by omega))
    · intro q; rw [q]; decide
  refine ko_BB_press (sg_BB_press_0 ⟨fun c => ⟨fun d => ?_, fun d => k_BB_isWay ⟨fun e => ?_, fun e => ⟨fun f => ?_, fun f => ?_⟩⟩⟩, fun c => ?_⟩)
  · have hC0 : C = 0 := by
      by_cases e : C = 0
      · exact e
      · rw [hb, if_neg e] at d; exact absurd d (by decide)
    refine ko_BM_press (sg_BM_press_0 ⟨fun _ => k_BM_isBox ⟨fun _ => stay _, fun q => absurd (by rw [if_pos (box.mpr hC0)]) q⟩, fun q => absurd q c⟩)
  · have hw : x < 0 ∨ 3 < x := by
      by_cases w : x < 0 ∨ 3 < x
      · exact w
      · rw [if_neg w] at e; exact absurd e (by decide)
    refine ko_BM_press (sg_BM_press_0 ⟨fun _ => k_BM_isBox ⟨fun _ => stay _, fun _ => k_BM_in ⟨fun _ => stay _, fun q => absurd (by rw [if_neg (fun z => way_iff.mp z hw)]) q⟩⟩, fun q => absurd q c⟩)
  · have hw : ¬ (x < 0 ∨ 3 < x) := fun w => e (by rw [if_pos w])
    obtain ⟨w, hw4, rfl⟩ := way_of hw
    have hC0 : C ≠ 0 := fun q => d (by rw [hb, if_pos q])
    rw [r1] at f
    have hn8 : n < 8 := (nI_ltI (b := 8) (by omega) (by decide)).mp f
    refine ⟨by rw [r1]; exact vp_in_nI hn8 (by decide), ?_⟩
    rintro s3 rfl s4 rfl
    rw [r1, nI_clamp (by omega)]
    have l1 : fi (sai σ 86 n (nI w)) 83 7 + 1 = nI (n + 1) := by rw [show fi (sai σ 86 n (nI w)) 83 7 = fi σ 83 7 from rfl, r1, nI_1]
    rw [l1]
    obtain ⟨τ, hτ⟩ : ∃ τ, τ = sfi (sai σ 86 n (nI w)) 83 7 (nI (n + 1)) := ⟨_, rfl⟩
    rw [← hτ]
    have t152 : ai τ 152 = ai σ 152 := by rw [hτ]; funext q; rfl
    have t155 : ai τ 155 = ai σ 155 := by rw [hτ]; funext q; rfl
    have a4 : ai τ 152 4 = nI n := by rw [t152]; exact r2
    refine ko_BM_press (sg_BM_press_0 ⟨fun _ => k_BM_isBox ⟨fun q => ?_, fun _ => k_BM_in ⟨fun q => ?_, fun _ => ⟨vin8 (n := 4) rfl (by decide), ?_⟩⟩⟩, fun q => absurd q c⟩)
    · rw [t152, if_neg (fun z => hC0 (box.mp z))] at q; exact absurd q (by decide)
    · rw [if_pos (way_iff.mpr hw)] at q; exact absurd q (by decide)
    rw [cl4, a4]
    refine ⟨fun _ => ⟨vin8 (n := 4) rfl (by decide), vp_in_nI hn8 (by decide), ?_⟩, fun q => absurd ((nI_eq (b := 8) (by omega) (by decide)).mp q) (by omega)⟩
    rintro s5 rfl
    refine ⟨vin8 (n := 4) rfl (by decide), vin8 (n := 4) rfl (by decide), ?_⟩
    rintro s6 rfl
    rw [nI_clamp (by omega)]
    refine ⟨vin8 (n := 4) rfl (by decide), ?_⟩
    have a5 : ai (sai τ 155 n (nI w)) 152 4 + 1 = nI (n + 1) := by rw [show ai (sai τ 155 n (nI w)) 152 4 = ai τ 152 4 from rfl, a4, nI_1]
    rw [a5]
    have a6 : ai (sai (sai τ 155 n (nI w)) 152 4 (nI (n + 1))) 152 4 = nI (n + 1) := rfl
    have a7 : fi τ 83 7 = nI (n + 1) := by rw [hτ]; rfl
    rw [a6, a7]
    refine h _ _ ⟨n + 1, by omega, a7, rfl, fun k hk => ?_⟩ ?_ (fun k hk => ?_)
    · by_cases e1 : k = n
      · subst e1
        refine ⟨w, hw4, ?_, ?_⟩
        · show ai τ 86 k = _
          rw [hτ]
          show ai (sai σ 86 k (nI w)) 86 k = _
          rw [ai_sai, if_pos ⟨rfl, rfl⟩]
        · show ai (sai τ 155 k (nI w)) 155 k = _
          rw [ai_sai, if_pos ⟨rfl, rfl⟩]
      · obtain ⟨v, v4, v1, v2⟩ := r3 k (by omega)
        refine ⟨v, v4, ?_, ?_⟩
        · show ai τ 86 k = _
          rw [hτ]
          show ai (sai σ 86 n (nI w)) 86 k = _
          rw [ai_sai, if_neg (by omega)]
          exact v1
        · show ai (sai τ 155 n (nI w)) 155 k = _
          rw [ai_sai, if_neg (by omega), t155]
          exact v2
    · rw [hτ]
      exact (((fr_sai (by decide)).tr (fr_sfi (by decide))).tr (fr_sai (by decide))).tr (fr_sai (by decide))
    · show ai (sai (sai τ 155 n (nI w)) 152 4 (nI (n + 1))) 152 k = _
      rw [ai_sai, if_neg (fun z => hk z.2), ai_sai, if_neg (by omega), t152]
  · have hw : ¬ (x < 0 ∨ 3 < x) := fun w => e (by rw [if_pos w])
    have hC0 : C ≠ 0 := fun q => d (by rw [hb, if_pos q])
    rw [r1] at f
    have hn8 : n = 8 := by
      have : ¬ n < 8 := fun q => f (nI_lt q (by decide))
      omega
    refine ko_BM_press (sg_BM_press_0 ⟨fun _ => k_BM_isBox ⟨fun q => ?_, fun _ => k_BM_in ⟨fun q => ?_, fun _ => ⟨vin8 (n := 4) rfl (by decide), ?_⟩⟩⟩, fun q => absurd q c⟩)
    · rw [if_neg (fun z => hC0 (box.mp z))] at q; exact absurd q (by decide)
    · rw [if_pos (way_iff.mpr hw)] at q; exact absurd q (by decide)
    rw [cl4, r2, hn8]
    exact ⟨fun q => absurd rfl q, fun _ => stay _⟩
  · rintro s5 rfl
    refine ko_BM_press (sg_BM_press_0 ⟨fun q => absurd c q, fun _ => ⟨vin8 (n := 4) rfl (by decide), ?_⟩⟩)
    rintro s7 rfl
    rw [cl4]
    refine h _ _ ⟨0, by decide, rfl, rfl, fun k hk => absurd hk (by omega)⟩ ((fr_sfi (by decide)).tr (fr_sai (by decide))) (fun k hk => ?_)
    rw [ai_sai, if_neg (fun z => hk z.2)]
    rfl
end
