-- feed, seed
theorem tb_tm (x : Int32) {j : Nat} (hj : j < 4) : tb4 x j = (x >>> (nI (24 - 8 * j) &&& 31)) &&& 255 := by
  apply b_ext
  intro i hi
  unfold tb4
  rw [b_and, b_and, b_255, b_ushr _ (by omega), b_sshr _ (by omega) x hi]
  by_cases h : i < 8
  · rw [if_pos (by omega)]
  · simp [h]
section
variable {g : Gx} {σ : St}
theorem op_feed {Q : Int32 → Int32 → St → Prop} {a b c d e : Int32} (hT : TapeR σ) (h : ∀ r τ, TapeR τ → fr [(1, 1), (151, 11)] [2, 162] σ τ → Q r r τ) : K_BB_feed g a b c d e σ (fun r1 s1 => K_BM_feed g a b c d e s1 (fun r2 s2 => Q r1 r2 s2)) := by
  obtain ⟨n, hn, h1, h2, h3⟩ := id hT
  have e20 : ∀ m, m ≤ 400 → (nI m + 20 ≤ (400 : Int32) ↔ m + 20 ≤ 400) := by
    intro m hm
    show nI m + nI 20 ≤ nI 400 ↔ _
    rw [nI_add, nI_leI (by omega) (by omega)]
  obtain ⟨X, hX⟩ : ∃ X : Nat → Int32, X = fun i => ([a, b, c, d, e] : List Int32).getD i 0 := ⟨_, rfl⟩
  have x0 : X 0 = a := by rw [hX]; rfl
  have x1 : X 1 = b := by rw [hX]; rfl
  have x2 : X 2 = c := by rw [hX]; rfl
  have x3 : X 3 = d := by rw [hX]; rfl
  have x4 : X 4 = e := by rw [hX]; rfl
  refine ko_BB_feed (sg_BB_feed_0 ⟨fun q => ?_, fun q => ?_⟩)
  · rw [h1, e20 n hn] at q
    refine p_takeFour (n := n) (by omega) h1 (fun s1 f1 l1 k1 b1 => ?_)
    refine p_takeFour (n := n + 4) (by omega) l1 (fun s2 f2 l2 k2 b2 => ?_)
    refine p_takeFour (n := n + 8) (by omega) l2 (fun s3 f3 l3 k3 b3 => ?_)
    refine p_takeFour (n := n + 12) (by omega) l3 (fun s4 f4 l4 k4 b4 => ?_)
    refine p_takeFour (n := n + 16) (by omega) l4 (fun s5 f5 l5 k5 b5 => ?_)
    have F : fr [(1, 1)] [2] σ s5 := (((f1.tr f2).tr f3).tr f4).tr f5
    have c1 : ∀ m, m < 4 * 1 → ai s1 2 (n + m) = tb4 (X (m / 4)) (m % 4) := four_more (r := ai σ 2) (f := fun _ _ => 0) (i := 0) (fun m hm => absurd hm (by omega)) (fun k hk => k1 k (by omega)) (fun j hj => by rw [x0]; exact b1 j hj)
    have c2 : ∀ m, m < 4 * 2 → ai s2 2 (n + m) = tb4 (X (m / 4)) (m % 4) := four_more (f := fun _ _ => 0) (i := 1) c1 (fun k hk => k2 k (by omega)) (fun j hj => by rw [x1]; exact b2 j hj)
    have c3 : ∀ m, m < 4 * 3 → ai s3 2 (n + m) = tb4 (X (m / 4)) (m % 4) := four_more (f := fun _ _ => 0) (i := 2) c2 (fun k hk => k3 k (by omega)) (fun j hj => by rw [x2]; exact b3 j hj)
    have c4 : ∀ m, m < 4 * 4 → ai s4 2 (n + m) = tb4 (X (m / 4)) (m % 4) := four_more (f := fun _ _ => 0) (i := 3) c3 (fun k hk => k4 k (by omega)) (fun j hj => by rw [x3]; exact b4 j hj)
    have c5 : ∀ m, m < 4 * 5 → ai s5 2 (n + m) = tb4 (X (m / 4)) (m % 4) := four_more (f := fun _ _ => 0) (i := 4) c4 (fun k hk => k5 k (by omega)) (fun j hj => by rw [x4]; exact b5 j hj)
    have c0 : ∀ k, k < n → ai s5 2 k = ai σ 2 k := fun k hk => by rw [k5 k (by omega), k4 k (by omega), k3 k (by omega), k2 k (by omega), k1 k hk]
    have l0 : fi s5 151 11 = nI n := by rw [(F.1 151 11 (by decide)).1]; exact h2
    refine ko_BM_feed (sg_BM_feed_0 ⟨fun _ => ?_, fun q' => absurd (by rw [l0, e20 n hn]; exact q) q'⟩)
    refine p_append (n := n) (by omega) l0 (fun t1 g1 m1 i1 d1 => ?_)
    refine p_append (n := n + 4) (by omega) m1 (fun t2 g2 m2 i2 d2 => ?_)
    refine p_append (n := n + 8) (by omega) m2 (fun t3 g3 m3 i3 d3 => ?_)
    refine p_append (n := n + 12) (by omega) m3 (fun t4 g4 m4 i4 d4 => ?_)
    refine p_append (n := n + 16) (by omega) m4 (fun t5 g5 m5 i5 d5 => ?_)
    have G : fr [(151, 11)] [162] s5 t5 := (((g1.tr g2).tr g3).tr g4).tr g5
    have w1 : ∀ m, m < 4 * 1 → ai t1 162 (n + m) = tm4 (X (m / 4)) (m % 4) := four_more (r := ai s5 162) (f := fun _ _ => 0) (i := 0) (fun m hm => absurd hm (by omega)) (fun k hk => i1 k (by omega)) (fun j hj => by rw [x0]; exact d1 j hj)
    have w2 : ∀ m, m < 4 * 2 → ai t2 162 (n + m) = tm4 (X (m / 4)) (m % 4) := four_more (f := fun _ _ => 0) (i := 1) w1 (fun k hk => i2 k (by omega)) (fun j hj => by rw [x1]; exact d2 j hj)
    have w3 : ∀ m, m < 4 * 3 → ai t3 162 (n + m) = tm4 (X (m / 4)) (m % 4) := four_more (f := fun _ _ => 0) (i := 2) w2 (fun k hk => i3 k (by omega)) (fun j hj => by rw [x2]; exact d3 j hj)
    have w4 : ∀ m, m < 4 * 4 → ai t4 162 (n + m) = tm4 (X (m / 4)) (m % 4) := four_more (f := fun _ _ => 0) (i := 3) w3 (fun k hk => i4 k (by omega)) (fun j hj => by rw [x3]; exact d4 j hj)
    have w5 : ∀ m, m < 4 * 5 → ai t5 162 (n + m) = tm4 (X (m / 4)) (m % 4) := four_more (f := fun _ _ => 0) (i := 4) w4 (fun k hk => i5 k (by omega)) (fun j hj => by rw [x4]; exact d5 j hj)
    have w0 : ∀ k, k < n → ai t5 162 k = ai s5 162 k := fun k hk => by rw [i5 k (by omega), i4 k (by omega), i3 k (by omega), i2 k (by omega), i1 k hk]
    have lt : fi t5 1 1 = nI (n + 20) := by rw [(G.1 1 1 (by decide)).1]; exact l5
    have ee : Q (fi s5 1 1) (fi t5 151 11) t5 = Q (nI (n + 20)) (nI (n + 20)) t5 := by rw [l5, m5]
    rw [ee]
    refine h _ _ ⟨n + 20, by omega, lt, m5, fun k hk => ?_⟩ ((F.mo (by decide) (by decide)).tr (G.mo (by decide) (by decide)))
    have r2 : ai t5 2 = ai s5 2 := (G.2 2 (by decide)).1
    rw [r2]
    by_cases hk2 : k < n
    · obtain ⟨z, z1, z2⟩ := h3 k hk2
      refine ⟨z, ?_, ?_⟩
      · rw [w0 k hk2, (F.2 162 (by decide)).1]; exact z1
      · rw [c0 k hk2]; exact z2
    · obtain ⟨m, rfl⟩ : ∃ m, k = n + m := ⟨k - n, by omega⟩
      refine ⟨X (m / 4) >>> (nI (24 - 8 * (m % 4)) &&& 31), ?_, ?_⟩
      · rw [w5 m (by omega)]; rfl
      · rw [c5 m (by omega)]; exact tb_tm _ (by omega)
  · refine ko_BM_feed (sg_BM_feed_0 ⟨fun q' => absurd (by rw [h1, ← h2]; exact q') q, fun _ => h _ _ hT fr.rf⟩)
theorem op_seed {Q : Int32 → Int32 → St → Prop} {x : Int32} (hR : fi σ 83 10 = ai σ 152 6) (h : ∀ r τ, ((¬ 0 ≤ x ∧ τ = σ) ∨ (0 ≤ x ∧ τ = sai (sfi σ 83 10 x) 152 6 x)) → Q r r τ) : K_BB_seed g x σ (fun r1 s1 => K_BM_seed g x s1 (fun r2 s2 => Q r1 r2 s2)) := by
  refine ko_BB_seed (sg_BB_seed_0 ⟨fun c => ?_, fun c => ?_⟩)
  · rintro u rfl s rfl
    refine ko_BM_seed (sg_BM_seed_0 ⟨fun _ => ⟨vin8 (n := 6) rfl (by decide), ?_⟩, fun c' => absurd c c'⟩)
    rintro u rfl
    refine ⟨vin8 (n := 6) rfl (by decide), ?_⟩
    rintro s rfl
    rw [cl6]
    have e : ai (sfi σ 83 10 x) 152 6 = fi σ 83 10 := hR.symm
    rw [e]
    exact h _ _ (Or.inr ⟨c, rfl⟩)
  · exact ko_BM_seed (sg_BM_seed_0 ⟨fun c' => absurd c' c, fun _ => h _ _ (Or.inl ⟨c, rfl⟩)⟩)
end
