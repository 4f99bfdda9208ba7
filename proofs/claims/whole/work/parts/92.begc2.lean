-- a beginning, on both sides
theorem sit_1 {x : Nat} (hx : x < 36) : sitP (plL [x]) 1 = spc x := by
  show sit (enc x) 0 0 = _
  rw [enc_c hx]; unfold sit; omega
theorem sit_2 {x y : Nat} (hx : x < 36) (hy : y < 36) : sitP (plL [x, y]) 2 = spc x + 64 * spc y := by
  show sit (enc x) (enc y) 0 = _
  rw [enc_c hx, enc_c hy]; unfold sit; omega
theorem sit_3 {x y z : Nat} (hx : x < 36) (hy : y < 36) (hz : z < 36) : sitP (plL [x, y, z]) 3 = spc x + 64 * spc y + 4096 * spc z := by
  show sit (enc x) (enc y) (enc z) = _
  rw [enc_c hx, enc_c hy, enc_c hz]; unfold sit; omega
section
variable {g : Gx} {σ : St}
theorem k_SA_beginning {Q : Int32 → St → Prop} {a n B k : Nat} {f : Nat → Nat} (ha : SH[a]? = some (.inr (0, 36, []))) (hn : n ≤ 36) (hB : B ≤ 3) (hk : k < n ^ B) (hf : ∀ k, k < n → ai σ a k = nI (spc (f k)) ∧ f k < 36) (h : Q (if ((digN n B k).map f).Nodup then nI (sitP (plL ((digN n B k).map f)) B) else -1) σ) : K_SA_beginning g (nI k) (nI B) a (nI n) σ Q := by
  have h36 : n ^ B ≤ 46656 := by
    have h1 : n ^ B ≤ 36 ^ B := Nat.pow_le_pow_left hn B
    have h2 : 36 ^ B ≤ 36 ^ 3 := Nat.pow_le_pow_right (by decide) hB
    omega
  have bit0 : ∀ x, x < 36 → (sbit (0 : Int64) (spc x) = true ↔ x ∈ ([] : List Nat)) := fun x _ => by rw [sb_0]; simp
  refine ko_SA_beginning (sg_SA_beginning_0 ha ⟨fun q => ?_, fun q => ?_⟩)
  · have hn0 : 0 < n := Nat.pos_of_ne_zero (fun z => by rw [z] at q; exact absurd q (by decide))
    have fl : ∀ r, f (r % n) < 36 := fun r => (hf _ (Nat.mod_lt _ hn0)).2
    rintro u rfl
    rcases (show B = 0 ∨ B = 1 ∨ B = 2 ∨ B = 3 by omega) with rfl | rfl | rfl | rfl
    · refine sg_SA_beginning_32 ha ⟨fun _ => ?_, fun z => absurd (by decide) z⟩
      have e : ((digN n 0 k).map f).Nodup := by simp [digN]
      rw [if_pos e] at h
      exact h
    · rw [dig1] at h
      rw [show nI 1 - 1 = nI 0 from by decide]
      refine bg_step (b := 0) (S := 0) (T := []) ha hn0 hn (by decide) (by omega) hf bit0 (by decide) (by decide) (fun z => by cases z) (fun _ y' hy u5 e5 => ?_)
      have e5 : u5 = -1 := by rw [e5]; decide
      rw [e5]
      refine sg_SA_beginning_32 ha ⟨fun _ => ?_, fun z => absurd (by decide) z⟩
      rw [if_pos (by simp), show [k % n].map f = [f (k % n)] from rfl, sit_1 (fl k)] at h
      rw [show 0 + spc (f (k % n)) * 64 ^ 0 = spc (f (k % n)) by omega]
      exact h
    · rw [dig2] at h
      rw [show nI 2 - 1 = nI 1 from by decide]
      have hl := fl k
      have hsp := spc_lt hl
      refine bg_step (b := 1) (S := 0) (T := []) ha hn0 hn (by decide) (by omega) hf bit0 (by decide) (by decide) (fun z => by cases z) (fun _ y' hy u5 e5 => ?_)
      have e5 : u5 = nI 0 := by rw [e5]; decide
      rw [e5]
      have hdiv : k / n ≤ k := Nat.div_le_self _ _
      refine bg_step (b := 0) (T := [f (k % n)]) ha hn0 hn (by decide) (by omega) hf hy (by omega) (by omega) (fun z => ?_) (fun z y'' hy'' u6 e6 => ?_)
      · have z : f (k / n % n) = f (k % n) := by simpa using z
        rw [if_neg (by simp [z])] at h; exact h
      · have e6 : u6 = -1 := by rw [e6]; decide
        rw [e6]
        refine sg_SA_beginning_32 ha ⟨fun _ => ?_, fun z => absurd (by decide) z⟩
        have z : ¬ f (k / n % n) = f (k % n) := by simpa using z
        rw [if_pos (by simp [z]), show [k / n % n, k % n].map f = [f (k / n % n), f (k % n)] from rfl, sit_2 (fl _) hl] at h
        rw [show 0 + spc (f (k % n)) * 64 ^ 1 + spc (f (k / n % n)) * 64 ^ 0 = spc (f (k / n % n)) + 64 * spc (f (k % n)) by omega]
        exact h
    · rw [dig3] at h
      rw [show nI 3 - 1 = nI 2 from by decide]
      have hl := fl k
      have hsp := spc_lt hl
      have hl1 := fl (k / n)
      have hsp1 := spc_lt hl1
      have hdiv : k / n ≤ k := Nat.div_le_self _ _
      have hdiv2 : k / n / n ≤ k / n := Nat.div_le_self _ _
      refine bg_step (b := 2) (S := 0) (T := []) ha hn0 hn (by decide) (by omega) hf bit0 (by decide) (by decide) (fun z => by cases z) (fun _ y' hy u5 e5 => ?_)
      have e5 : u5 = nI 1 := by rw [e5]; decide
      rw [e5]
      refine bg_step (b := 1) (T := [f (k % n)]) ha hn0 hn (by decide) (by omega) hf hy (by omega) (by omega) (fun z => ?_) (fun z1 y'' hy'' u6 e6 => ?_)
      · have z : f (k / n % n) = f (k % n) := by simpa using z
        rw [if_neg (by simp [z])] at h; exact h
      · have z1 : ¬ f (k / n % n) = f (k % n) := by simpa using z1
        have e6 : u6 = nI 0 := by rw [e6]; decide
        rw [e6]
        refine bg_step (b := 0) (T := [f (k / n % n), f (k % n)]) ha hn0 hn (by decide) (by omega) hf hy'' (by omega) (by omega) (fun z => ?_) (fun z y3 hy3 u7 e7 => ?_)
        · have z : f (k / n / n % n) = f (k / n % n) ∨ f (k / n / n % n) = f (k % n) := by simpa using z
          rw [if_neg (by
            intro hnd
            simp only [List.map_cons, List.map_nil, List.nodup_cons, List.mem_cons, List.not_mem_nil, or_false] at hnd
            exact hnd.1 z)] at h
          exact h
        · have e7 : u7 = -1 := by rw [e7]; decide
          rw [e7]
          refine sg_SA_beginning_32 ha ⟨fun _ => ?_, fun z => absurd (by decide) z⟩
          have z : ¬ (f (k / n / n % n) = f (k / n % n) ∨ f (k / n / n % n) = f (k % n)) := by simpa using z
          rw [if_pos (by
            simp only [List.map_cons, List.map_nil, List.nodup_cons, List.mem_cons, List.not_mem_nil, or_false]
            exact ⟨z, z1, fun q => q, List.nodup_nil⟩), show [k / n / n % n, k / n % n, k % n].map f = [f (k / n / n % n), f (k / n % n), f (k % n)] from rfl, sit_3 (fl _) hl1 hl] at h
          rw [show 0 + spc (f (k % n)) * 64 ^ 2 + spc (f (k / n % n)) * 64 ^ 1 + spc (f (k / n / n % n)) * 64 ^ 0 = spc (f (k / n / n % n)) + 64 * spc (f (k / n % n)) + 4096 * spc (f (k % n)) by omega]
          exact h
  · have hn0 : n = 0 := by
      by_cases z : n = 0
      · exact z
      · exact absurd (nI_lt (a := 0) (by omega) (by omega)) q
    subst hn0
    have hB0 : B = 0 := by
      by_cases z : B = 0
      · exact z
      · rw [Nat.zero_pow (by omega)] at hk; omega
    subst hB0
    have hk0 : k = 0 := by simpa using hk
    subst hk0
    refine ⟨fun z => absurd rfl z, fun _ => ⟨fun z => absurd rfl z, fun _ => ?_⟩⟩
    have e : ((digN 0 0 0).map f).Nodup := by simp [digN]
    rw [if_pos e] at h
    exact h
theorem k_BM_codes {Q : Int32 → St → Prop} {c : Cfg} {P : Nat → Nat} (hr : RefT σ c P) (h : Q (nI (36 ^ c.2.2.1)) σ) : K_BM_codes g σ Q := by
  have hd := hr.1.1
  have hB := hd.2.2.2.2.2
  have go : ∀ (m i : Nat), i + m = c.2.2.1 → S_BM_codes_4 g Q σ (nI (36 ^ i)) (nI i) := by
    intro m
    induction m with
    | zero =>
      intro i hi
      have e : i = c.2.2.1 := by omega
      subst e
      refine sg_BM_codes_4 ⟨pk_in 2 8 (by decide), ?_⟩
      rw [cl2, hd.2.2.1]
      exact ⟨fun _ => h, fun q => absurd (nI_le (Nat.le_refl _) (by omega)) q⟩
    | succ m ih =>
      intro i hi
      refine sg_BM_codes_4 ⟨pk_in 2 8 (by decide), ?_⟩
      rw [cl2, hd.2.2.1]
      refine ⟨fun q => absurd q (nI_ge (by omega) (by omega)), fun _ => ?_⟩
      rintro u rfl u2 rfl
      have := ih (i + 1) (by omega)
      rw [Nat.pow_succ, ← pk_mul] at this
      rw [nI_1]
      exact this
  exact ko_BM_codes (sg_BM_codes_0 (go c.2.2.1 0 (Nat.zero_add _)))
end
