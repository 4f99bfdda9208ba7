-- shaken
def drF (x : Nat) : Nat := (x * 1103515245 + 12345) % 2147483648
/-- behind i tips drawn: the number drawn from, the places, the hits -/
def shT (c : Cfg) (x : Nat) (P : Nat → Nat) (h : Nat) : Nat → Nat × (Nat → Nat) × Nat
  | 0 => (x, P, h)
  | i + 1 => (drF (shT c x P h i).1, (tipC c (drF (shT c x P h i).1 / 65536 % 4) (shT c x P h i).2.1).1, (shT c x P h i).2.2 + (tipC c (drF (shT c x P h i).1 / 65536 % 4) (shT c x P h i).2.1).2.1)
/-- behind j times n tips: the number, how often all were home, the lost, the hits -/
def shO (c : Cfg) (x : Nat) (P : Nat → Nat) (n : Nat) : Nat → Nat × Nat × Nat × Nat
  | 0 => (x, 0, 0, 0)
  | j + 1 => ((shT c (shO c x P n j).1 P (shO c x P n j).2.2.2 n).1, (shO c x P n j).2.1 + (if allH (shT c (shO c x P n j).1 P (shO c x P n j).2.2.2 n).2.1 then 1 else 0), (shO c x P n j).2.2.1 + fel (shT c (shO c x P n j).1 P (shO c x P n j).2.2.2 n).2.1 c.2.2.1 37, (shT c (shO c x P n j).1 P (shO c x P n j).2.2.2 n).2.2)
theorem drF_lt (x : Nat) : drF x < 2147483648 := Nat.mod_lt _ (by decide)
theorem shT_x {c : Cfg} {x : Nat} {P : Nat → Nat} {h : Nat} (hx : x < 2147483648) : ∀ i, (shT c x P h i).1 < 2147483648
  | 0 => hx
  | i + 1 => drF_lt _
theorem shO_x {c : Cfg} {x : Nat} {P : Nat → Nat} {n : Nat} (hx : x < 2147483648) : ∀ j, (shO c x P n j).1 < 2147483648
  | 0 => hx
  | j + 1 => shT_x (shO_x hx j) n
theorem shT_ok {c : Cfg} {x : Nat} {P : Nat → Nat} {h : Nat} (hC : c.1 ≤ 6) (hR : c.2.1 ≤ 6) (hp : okP c.1 c.2.1 c.2.2.1 c.2.2.2.1 P) : ∀ i, okP c.1 c.2.1 c.2.2.1 c.2.2.2.1 (shT c x P h i).2.1
  | 0 => hp
  | i + 1 => tipC_ok hC hR (by omega) (shT_ok hC hR hp i)
theorem drC {x : Nat} (hx : x < 2147483648) : ((lN x * 1103515245) + 12345) &&& 2147483647 = lN (drF x) := by
  have e1 : (lN x * 1103515245 + 12345 : Int64) = lN (x * 1103515245 + 12345) := by
    show lN x * lN 1103515245 + lN 12345 = _
    rw [lN_mul, lN_add]
  rw [e1]
  exact wb_mask (k := 31) (by omega) (by decide)
theorem drM {x : Nat} (hx : x < 2147483648) : (((lN x * 1103515245 + 12345) - (lN x * 1103515245 + 12345) / 2147483648 * 2147483648) : Int64).toInt32 = nI (drF x) := by
  have e1 : (lN x * 1103515245 + 12345 : Int64) = lN (x * 1103515245 + 12345) := by
    show lN x * lN 1103515245 + lN 12345 = _
    rw [lN_mul, lN_add]
  rw [e1]
  have e2 : lN (x * 1103515245 + 12345) - lN (x * 1103515245 + 12345) / 2147483648 * 2147483648 = lN ((x * 1103515245 + 12345) % 2147483648) := pk_lRem (b := 2147483648) (by omega) (by decide) (by decide)
  rw [e2, lN_i]
  rfl
section
variable {g : Gx} {σ : St} {c : Cfg} {P : Nat → Nat} {t : Nat}
theorem k_TR_shake {Q : St → Prop} {x m n : Nat} (ht : isSA t) (hc : ClsT t σ c) (hp : okP c.1 c.2.1 c.2.2.1 c.2.2.2.1 P) (h5 : fi σ t 5 = nI (sitP P c.2.2.1)) (h10 : fi σ t 10 = nI x) (hx : x < 2147483648) (hm : m < 2 ^ 31) (hn : n < 2 ^ 31)
    (h : ∀ τ, fr [(82, 1), (82, 2), (82, 3), (82, 6), (82, 7), (17, 4), (17, 6), (17, 7)] [19, 20, 21, 26, 31, 36, 41, 46, 51] σ τ → fi τ 82 6 = nI (shO c x P n m).2.1 → fi τ 82 7 = nI (shO c x P n m).2.2.1 → fi τ 82 2 = nI (shO c x P n m).2.2.2 → Q τ) : K_TR_shake g t (nI m) (nI n) σ Q := by
  have h17 := (sa_82 ht).2.1
  have h82 := (sa_82 ht).1
  have hC := hc.1.2.1.1
  have hR := hc.1.2.1.2.1
  have hB := hc.1.2.1.2.2
  have out : ∀ (k j : Nat) (τ : St) (ff : Nat), j + k = m → fr [(82, 1), (82, 2), (82, 3), (82, 6), (82, 7), (17, 4), (17, 6), (17, 7)] [19, 20, 21, 26, 31, 36, 41, 46, 51] σ τ → fi τ 82 6 = nI (shO c x P n j).2.1 → fi τ 82 7 = nI (shO c x P n j).2.2.1 → fi τ 82 2 = nI (shO c x P n j).2.2.2 → fi τ 82 3 = nI ff → S_TR_shake_30 g Q τ t (nI m) (nI n) (lN (shO c x P n j).1) (nI j) := by
    intro k
    induction k with
    | zero =>
      intro j τ ff hj hf e6 e7 e2 e3
      have e : j = m := by omega
      subst e
      exact sg_TR_shake_30 ht ⟨fun _ => h τ hf e6 e7 e2, fun q => absurd (nI_le (Nat.le_refl _) (by omega)) q⟩
    | succ k ih =>
      intro j τ ff hj hf e6 e7 e2 e3
      refine sg_TR_shake_30 ht ⟨fun q => absurd q (nI_ge (by omega) (by omega)), fun _ => ?_⟩
      rintro s1 es1
      have f1 : fr [(82, 1), (82, 2), (82, 3), (82, 6), (82, 7), (17, 4), (17, 6), (17, 7)] [19, 20, 21, 26, 31, 36, 41, 46, 51] σ s1 := by rw [es1]; exact hf.tr (fr_sfi (by decide))
      obtain ⟨X, hX⟩ : ∃ X, X = (shO c x P n j).1 := ⟨_, rfl⟩
      obtain ⟨H, hH⟩ : ∃ H, H = (shO c x P n j).2.2.2 := ⟨_, rfl⟩
      have hX31 : X < 2147483648 := by rw [hX]; exact shO_x hx j
      have inn : ∀ (q i : Nat) (υ : St) (f2 : Nat), i + q = n → fr [(82, 1), (82, 2), (82, 3), (82, 6), (82, 7), (17, 4), (17, 6), (17, 7)] [19, 20, 21, 26, 31, 36, 41, 46, 51] σ υ → fi υ 82 6 = nI (shO c x P n j).2.1 → fi υ 82 7 = nI (shO c x P n j).2.2.1 → fi υ 82 1 = nI (sitP (shT c X P H i).2.1 c.2.2.1) → fi υ 82 2 = nI (shT c X P H i).2.2 → fi υ 82 3 = nI f2 → S_TR_shake_47 g Q υ t (nI m) (nI n) (lN (shT c X P H i).1) (nI j) (nI i) := by
        intro q
        induction q with
        | zero =>
          intro i υ f2 hi hfu a6 a7 a1 a2 a3
          have e : i = n := by omega
          subst e
          have hok := shT_ok (x := X) (h := H) hC hR hp i
          have hz : nI (sitP (shT c X P H i).2.1 c.2.2.1) = 0 ↔ allH (shT c X P H i).2.1 := by
            rw [← sit0 hok.1]
            exact nI_eq (b := 0) (Nat.lt_trans sitP_lt (by decide)) (by decide)
          refine sg_TR_shake_47 ht ⟨fun _ => ?_, fun q => absurd (nI_le (Nat.le_refl _) (by omega)) q⟩
          rw [a1, hz]
          have nx := ih (j + 1)
          have eS : shO c x P i (j + 1) = ((shT c X P H i).1, (shO c x P i j).2.1 + (if allH (shT c X P H i).2.1 then 1 else 0), (shO c x P i j).2.2.1 + fel (shT c X P H i).2.1 c.2.2.1 37, (shT c X P H i).2.2) := by rw [hX, hH]; rfl
          have fin : ∀ (z : Nat) (s : St), s = sfi υ 82 6 (nI ((shO c x P i j).2.1 + z)) → (if allH (shT c X P H i).2.1 then 1 else 0) = z → K_SA_howMany g (fi s 82 1) 7 s (fun (r8 : Int32) (s7 : St) => ∀ s9 : St, s9 = sfi s7 82 7 ((fi s 82 7) + r8) → ∀ u10 : Int32, u10 = nI j + 1 → S_TR_shake_30 g Q s9 t (nI m) (nI i) (lN (shT c X P H i).1) u10) := by
            intro z s es ez
            have b1 : fi s 82 1 = nI (sitP (shT c X P H i).2.1 c.2.2.1) := by rw [es]; exact a1
            have b7 : fi s 82 7 = nI (shO c x P i j).2.2.1 := by rw [es]; exact a7
            rw [b1, b7]
            refine k_SA_howMany (p := 7) (Nat.lt_trans sitP_lt (by decide)) (by decide) ?_
            rw [cnS_lost hok.1, cn3_lost hB hok.1]
            rintro s9 e9 u rfl
            rw [nI_1]
            have g9 : fr [(82, 1), (82, 2), (82, 3), (82, 6), (82, 7), (17, 4), (17, 6), (17, 7)] [19, 20, 21, 26, 31, 36, 41, 46, 51] σ s9 := by rw [e9, es]; exact hfu.tr ((fr_sfi (by decide)).tr (fr_sfi (by decide)))
            have := nx s9 f2 (by omega) g9
            rw [eS] at this
            refine this ?_ ?_ ?_ ?_
            · rw [e9, es, ez]; rfl
            · rw [e9]
              show nI (shO c x P i j).2.2.1 + nI _ = _
              rw [nI_add]
            · rw [e9, es]; exact a2
            · rw [e9, es]; exact a3
          refine ⟨fun z => ?_, fun z => ?_⟩
          · rintro s es
            refine fin 0 s ?_ (if_neg z)
            rw [es, a6, Int32.add_zero]
            rfl
          · rintro s es
            refine fin 1 s ?_ (if_pos z)
            rw [es, a6, nI_1]
        | succ q ihq =>
          intro i υ f2 hi hfu a6 a7 a1 a2 a3
          refine sg_TR_shake_47 ht ⟨fun q => absurd q (nI_ge (by omega) (by omega)), fun _ => ?_⟩
          rintro u11 rfl
          have hXi : (shT c X P H i).1 < 2147483648 := shT_x hX31 i
          rw [drC hXi]
          have ew : ((lN (drF (shT c X P H i).1) / 65536 - lN (drF (shT c X P H i).1) / 65536 / 4 * 4) : Int64).toInt32 = nI (drF (shT c X P H i).1 / 65536 % 4) := by
            have hd := drF_lt (shT c X P H i).1
            have e1 : lN (drF (shT c X P H i).1) / 65536 = lN (drF (shT c X P H i).1 / 65536) := pk_lDiv (b := 65536) (by omega) (by decide) (by decide)
            rw [e1]
            have e2 : lN (drF (shT c X P H i).1 / 65536) - lN (drF (shT c X P H i).1 / 65536) / 4 * 4 = lN (drF (shT c X P H i).1 / 65536 % 4) := pk_lRem (b := 4) (by omega) (by decide) (by decide)
            rw [e2, lN_i]
          rw [ew]
          refine k_TR_roll ht (by omega) (trF ht hc (hfu.mo (by decide) (by decide))) (shT_ok hC hR hp i) a1 a2 a3 (fun ξ hx1 b1 b2 b3 => ?_)
          rintro u rfl
          rw [nI_1]
          refine ihq (i + 1) ξ (f2 + (tipC c (drF (shT c X P H i).1 / 65536 % 4) (shT c X P H i).2.1).2.2) (by omega) (hfu.tr (hx1.mo (by decide) (by decide))) ?_ ?_ b1 b2 b3
          · rw [(hx1.1 82 6 (by decide)).1]; exact a6
          · rw [(hx1.1 82 7 (by decide)).1]; exact a7
      rw [← hX]
      refine inn n 0 s1 ff (Nat.zero_add _) f1 (by rw [es1]; exact e6) (by rw [es1]; exact e7) ?_ ?_ (by rw [es1]; exact e3)
      · rw [es1]
        show fi τ t 5 = _
        rw [(hf.1 t 5 (by simp [h82, h17])).1]
        exact h5
      · rw [es1]
        show fi τ 82 2 = nI H
        rw [hH]; exact e2
  refine ko_TR_shake (sg_TR_shake_0 ht ?_)
  rintro u rfl s2 rfl s3 rfl s4 rfl s5 e5
  rw [h10, nI_l (by omega)]
  exact out m 0 s5 0 (Nat.zero_add _) (by rw [e5]; exact (((fr_sfi (by decide)).tr (fr_sfi (by decide))).tr (fr_sfi (by decide))).tr (fr_sfi (by decide))) (by rw [e5]; rfl) (by rw [e5]; rfl) (by rw [e5]; rfl) (by rw [e5]; rfl)
end
