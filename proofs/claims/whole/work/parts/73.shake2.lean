-- shaken on both sides
def shkV (c : Cfg) (x : Nat) (P : Nat → Nat) (m n w : Nat) : Int32 := if w = 0 then nI (shO c x P n m).2.1 else if w = 1 then nI (shO c x P n m).2.2.1 else nI (shO c x P n m).2.2.2
section
variable {g : Gx} {σ : St} {d : Dat} {nr : Nat} {Ru : Nat → RuleT}
theorem rg_of1 {x : Int32} {hi : Nat} (h0 : ¬ x < 1) (h1 : ¬ nI hi < x) (hh : hi < 2 ^ 31) : ∃ n, 1 ≤ n ∧ n ≤ hi ∧ x = nI n := by
  have h00 : ¬ x < 0 := fun q => h0 (Int32.lt_trans q (by decide))
  obtain ⟨n, hn, rfl⟩ := rg_of h00 h1
  exact ⟨n, Nat.pos_of_ne_zero (fun z => h0 (by rw [z]; decide)), hn, rfl⟩
theorem rg_lt1 {x : Int32} (h : x < 1) {n : Nat} (h1 : 1 ≤ n) (hn : n < 2 ^ 31) : x ≠ nI n := fun e => nI_nlt (a := n) (b := 1) h1 hn (e ▸ h)
theorem kB_shaken {Q : Int32 → St → Prop} {x y z : Int32} (hs : ClsS 83 σ d) (ho : OkD nr d) (hr : RulC σ nr Ru) (h0 : (vC d = 0 ∨ (∀ n, 1 ≤ n → n ≤ 20 → x ≠ nI n) ∨ (∀ n, 1 ≤ n → n ≤ 60 → y ≠ nI n) ∨ (∀ n, n ≤ 2 → z ≠ nI n)) → Q (-1) σ) (h1 : ∀ m n w, 1 ≤ m → m ≤ 20 → 1 ≤ n → n ≤ 60 → w ≤ 2 → x = nI m → y = nI n → z = nI w → vC d ≠ 0 → ∀ τ, fr [(82, 1), (82, 2), (82, 3), (82, 6), (82, 7), (17, 4), (17, 6), (17, 7)] [19, 20, 21, 26, 31, 36, 41, 46, 51] σ τ → Q (shkV (cfg Ru d) (vx d) (vP d) m n w) τ) : K_BB_shaken g x y z σ Q := by
  have hT := hs.toT ho hr
  have out : ((∀ n, 1 ≤ n → n ≤ 20 → x ≠ nI n) ∨ (∀ n, 1 ≤ n → n ≤ 60 → y ≠ nI n) ∨ (∀ n, n ≤ 2 → z ≠ nI n)) → S_BB_shaken_36 g Q σ x y z 0 := fun q => sg_BB_shaken_36 ⟨fun _ => h0 (Or.inr q), fun _ => ⟨fun c => absurd rfl c, fun _ => h0 (Or.inr q)⟩⟩
  refine ko_BB_shaken (sg_BB_shaken_0 ⟨fun q => out (Or.inl (fun n a b => rg_lt1 q a (by omega))), fun q1 => ⟨fun q => out (Or.inl (fun n _ b => rg_big (hi := 20) q (by decide) b)), fun q2 => ⟨fun q => out (Or.inr (Or.inl (fun n a b => rg_lt1 q a (by omega)))), fun q3 => ⟨fun q => out (Or.inr (Or.inl (fun n _ b => rg_big (hi := 60) q (by decide) b))), fun q4 => ⟨fun q => out (Or.inr (Or.inr (fun n b => rg_neg q (by omega)))), fun q5 => ⟨fun q => out (Or.inr (Or.inr (fun n b => rg_big (hi := 2) q (by decide) b))), fun q6 => ?_⟩⟩⟩⟩⟩⟩)
  obtain ⟨m, m1, m2, rfl⟩ := rg_of1 (hi := 20) q1 q2 (by decide)
  obtain ⟨n, n1, n2, rfl⟩ := rg_of1 (hi := 60) q3 q4 (by decide)
  obtain ⟨w, w2, rfl⟩ := rg_of (hi := 2) q5 q6
  refine sg_BB_shaken_36 ⟨fun q => h0 (Or.inl (hs.box.mp q)), fun q => ⟨fun _ => ?_, fun c => absurd c (by decide)⟩⟩
  have h1 := h1 m n w m1 m2 n1 n2 w2 rfl rfl rfl (fun z => q (hs.box.mpr z))
  refine k_TR_shake (c := cfg Ru d) (P := vP d) sa_83 hT ho.2.2.1 hs.2.2.1 hs.2.2.2.2.2.2.2.2.2 ho.2.2.2.2.2.2.2.2.1 (by omega) (by omega) (fun τ hf e6 e7 e2 => ?_)
  have h1 := h1 τ hf
  rw [e6, e7, e2]
  unfold shkV at h1
  rcases (show w = 0 ∨ w = 1 ∨ w = 2 by omega) with rfl | rfl | rfl
  · exact ⟨fun c => absurd rfl c, fun _ => h1⟩
  · exact ⟨fun _ => ⟨fun c => absurd rfl c, fun _ => h1⟩, fun c => absurd c (by decide)⟩
  · exact ⟨fun _ => ⟨fun _ => h1, fun c => absurd c (by decide)⟩, fun c => absurd c (by decide)⟩
theorem RefT.dr {c : Cfg} {P : Nat → Nat} {v : Int32} (h : RefT σ c P) : RefT (sai σ 152 6 v) c P := by
  have e : ∀ k, k ≠ 6 → ai (sai σ 152 6 v) 152 k = ai σ 152 k := fun k hk => by rw [ai_sai, if_neg (fun q => hk q.2)]
  obtain ⟨⟨hd, h2, h3, h4⟩, h5, h6⟩ := h
  refine ⟨⟨?_, h2, h3, h4⟩, by rw [e 3 (by decide)]; exact h5, ?_⟩
  · unfold Dim at hd ⊢
    rw [e 0 (by decide), e 1 (by decide), e 2 (by decide)]
    exact hd
  · unfold FoM at h6 ⊢
    rw [e 7 (by decide)]
    cases hq : c.2.2.2.2.2 with
    | none => rw [hq] at h6; exact h6
    | some r =>
      rw [hq] at h6
      obtain ⟨i, hi, ei, hwf, hru⟩ := h6
      exact ⟨i, hi, ei, hwf, hru⟩
theorem k_BM_draws {Q : Int32 → St → Prop} {x : Nat} (h6 : ai σ 152 6 = nI x) (hx : x < 2147483648) (h : Q (nI (drF x / 65536 % 4)) (sai σ 152 6 (nI (drF x)))) : K_BM_draws g 4 σ Q := by
  refine ko_BM_draws (sg_BM_draws_0 ⟨pk_in 6 8 (by decide), pk_in 6 8 (by decide), ?_⟩)
  rintro s rfl
  refine ⟨pk_in 6 8 (by decide), by decide, ?_⟩
  rw [cl6, h6, nI_l (by omega), drM hx]
  have e : ai (sai σ 152 6 (nI (drF x))) 152 6 = nI (drF x) := by rw [ai_sai, if_pos ⟨rfl, rfl⟩]
  rw [e]
  have hd := drF_lt x
  have e1 : nI (drF x) / 65536 = nI (drF x / 65536) := pk_div (d := 65536) (by omega) (by decide) (by decide)
  rw [e1]
  have e2 : nI (drF x / 65536) - nI (drF x / 65536) / 4 * 4 = nI (drF x / 65536 % 4) := pk_rem (d := 4) (by omega) (by decide) (by decide)
  rw [e2]
  exact h
def shkS (o : Nat × Nat × Nat × Nat) (w : Nat) : Nat := if w = 0 then o.2.1 else if w = 1 then o.2.2.1 else o.2.2.2
theorem kM_shaken {Q : Int32 → St → Prop} {x y z : Int32} (hs : CurM σ d) (ho : OkD nr d) (hr : RulM σ nr Ru) (h0 : (vC d = 0 ∨ (∀ n, 1 ≤ n → n ≤ 20 → x ≠ nI n) ∨ (∀ n, 1 ≤ n → n ≤ 60 → y ≠ nI n) ∨ (∀ n, n ≤ 2 → z ≠ nI n)) → Q (-1) σ) (h1 : ∀ m n w, 1 ≤ m → m ≤ 20 → 1 ≤ n → n ≤ 60 → w ≤ 2 → x = nI m → y = nI n → z = nI w → vC d ≠ 0 → ∀ τ, fr [(151, 32), (151, 35), (151, 36)] [152, 154, 170, 171, 172, 173, 174] σ τ → (∀ b, b < vB d → ai τ 154 b = nI (vP d b)) → ai τ 152 = ai σ 152 → Q (shkV (cfg Ru d) (vx d) (vP d) m n w) τ) : K_BM_shaken g x y z σ Q := by
  have hT := hs.toT ho hr
  have hC := ho.1.1
  have hR := ho.1.2.1
  have hB := ho.1.2.2.1
  have hx31 := ho.2.2.2.2.2.2.2.2.1
  have h66 := hs.1.2.2.2.2.2.2.1
  refine ko_BM_shaken (sg_BM_shaken_0 (kM_box hs ho (fun q => ⟨fun _ => h0 (Or.inl q), fun z => absurd rfl z⟩) (fun hC0 => ⟨fun z => absurd z (by decide), fun _ => ?_⟩)))
  refine k_BM_inR 1 20 (by decide) (by decide) (by decide) (fun m m1 m2 em => ⟨fun z => absurd z (by decide), fun _ => ?_⟩) (fun q => ⟨fun _ => h0 (Or.inr (Or.inl q)), fun z => absurd rfl z⟩)
  refine k_BM_inR 1 60 (by decide) (by decide) (by decide) (fun n n1 n2 en => ⟨fun z => absurd z (by decide), fun _ => ?_⟩) (fun q => ⟨fun _ => h0 (Or.inr (Or.inr (Or.inl q))), fun z => absurd rfl z⟩)
  refine k_BM_inR 0 2 (by decide) (by decide) (by decide) (fun w _ w2 ew => ⟨fun _ => ⟨pk_in 6 8 (by decide), ?_⟩, fun z => absurd z (by decide)⟩) (fun q => ⟨fun z => absurd rfl z, fun _ => h0 (Or.inr (Or.inr (Or.inr (fun n hn => q n (Nat.zero_le _) hn))))⟩)
  subst em en ew
  have h1 := h1 m n w m1 m2 n1 n2 w2 rfl rfl rfl hC0
  rintro u rfl
  rw [cl6, h66]
  refine lay_to sh174 (by decide) hB hs.2.2.1 (fun τ1 f1 q1 => ?_)
  have hT1 : RefT τ1 (cfg Ru d) (vP d) := hT.fr f1 (by decide) (by decide) (by decide) (by decide) (by decide) (by decide) (by decide) (by decide) (by decide)
  have out : ∀ (k j : Nat) (τ : St), j + k = m → fr [(151, 32), (151, 35), (151, 36)] [152, 154, 170, 171, 172, 173, 174] σ τ → RefT τ (cfg Ru d) (vP d) → (∀ b, b < vB d → ai τ 174 b = nI (vP d b)) → ai τ 152 6 = nI (shO (cfg Ru d) (vx d) (vP d) n j).1 → (∀ i, i ≠ 6 → ai τ 152 i = ai σ 152 i) → S_BM_shaken_71 g Q τ (nI m) (nI n) (nI w) (nI (vx d)) (nI (shkS (shO (cfg Ru d) (vx d) (vP d) n j) w)) (nI j) := by
    intro k
    induction k with
    | zero =>
      intro j τ hj hf r1 k1 x1 ne
      have e : j = m := by omega
      subst e
      refine sg_BM_shaken_71 ⟨fun _ => ⟨pk_in 6 8 (by decide), ?_⟩, fun q => absurd (nI_le (Nat.le_refl _) (by omega)) q⟩
      rintro s es
      rw [cl6] at es
      have h1 := h1 s (by rw [es]; exact hf.tr (fr_sai (by decide))) (fun b hb => by rw [es, ai_sai, if_neg (by omega)]; exact r1.1.2.2.1 b hb) (by
        funext i
        rw [es, ai_sai]
        by_cases q : i = 6
        · rw [if_pos ⟨rfl, q⟩, q, h66]
        · rw [if_neg (fun z => q z.2)]; exact ne i q)
      unfold shkV at h1
      unfold shkS
      rcases (show w = 0 ∨ w = 1 ∨ w = 2 by omega) with rfl | rfl | rfl
      · exact h1
      · exact h1
      · exact h1
    | succ k ih =>
      intro j τ hj hf r1 k1 x1 ne
      refine sg_BM_shaken_71 ⟨fun q => absurd q (nI_ge (by omega) (by omega)), fun _ => ?_⟩
      obtain ⟨X, hX⟩ : ∃ X, X = (shO (cfg Ru d) (vx d) (vP d) n j).1 := ⟨_, rfl⟩
      obtain ⟨H, hH⟩ : ∃ H, H = (shO (cfg Ru d) (vx d) (vP d) n j).2.2.2 := ⟨_, rfl⟩
      have hX31 : X < 2147483648 := by rw [hX]; exact shO_x hx31 j
      have eS : shO (cfg Ru d) (vx d) (vP d) n (j + 1) = ((shT (cfg Ru d) X (vP d) H n).1, (shO (cfg Ru d) (vx d) (vP d) n j).2.1 + (if allH (shT (cfg Ru d) X (vP d) H n).2.1 then 1 else 0), (shO (cfg Ru d) (vx d) (vP d) n j).2.2.1 + fel (shT (cfg Ru d) X (vP d) H n).2.1 (vB d) 37, (shT (cfg Ru d) X (vP d) H n).2.2) := by rw [hX, hH]; rfl
      have inn : ∀ (q i : Nat) (υ : St), i + q = n → fr [(151, 32), (151, 35), (151, 36)] [152, 154, 170, 171, 172, 173, 174] σ υ → RefT υ (cfg Ru d) (shT (cfg Ru d) X (vP d) H i).2.1 → (∀ b, b < vB d → ai υ 174 b = nI (vP d b)) → ai υ 152 6 = nI (shT (cfg Ru d) X (vP d) H i).1 → (∀ i, i ≠ 6 → ai υ 152 i = ai σ 152 i) → S_BM_shaken_80 g Q υ (nI m) (nI n) (nI w) (nI (vx d)) (nI (if w = 2 then (shT (cfg Ru d) X (vP d) H i).2.2 else shkS (shO (cfg Ru d) (vx d) (vP d) n j) w)) (nI j) (nI i) := by
        intro q
        induction q with
        | zero =>
          intro i υ hi hfu ru ku xu neu
          have e : i = n := by omega
          subst e
          have hok := shT_ok (c := cfg Ru d) (x := X) (h := H) hC hR ho.2.2.1 i
          have fin : ∀ z : Nat, shkS (shO (cfg Ru d) (vx d) (vP d) i (j + 1)) w = z → K_BM_lay g 174 154 υ (fun s2 : St => ∀ u3 : Int32, u3 = nI j + 1 → S_BM_shaken_71 g Q s2 (nI m) (nI i) (nI w) (nI (vx d)) (nI z) u3) := by
            intro z ez
            refine lay_back (P := vP d) sh174 (by decide) ru ku ho.2.2.1.1 (fun τ3 f3 r3 => ?_)
            rintro u rfl
            rw [nI_1, ← ez]
            refine ih (j + 1) τ3 (by omega) (hfu.tr (f3.mo (by simp) (by decide))) r3 (fun b hb => by rw [(f3.2 174 (by decide)).1]; exact ku b hb) ?_ (fun i hi => by rw [(f3.2 152 (by decide)).1]; exact neu i hi)
            rw [(f3.2 152 (by decide)).1, xu, eS]
          refine sg_BM_shaken_80 ⟨fun _ => ?_, fun q => absurd (nI_le (Nat.le_refl _) (by omega)) q⟩
          rcases (show w = 0 ∨ w = 1 ∨ w = 2 by omega) with rfl | rfl | rfl
          · refine ⟨fun c => absurd rfl c, fun _ => k_areH ru ?_⟩
            by_cases hh : allH (shT (cfg Ru d) X (vP d) H i).2.1
            · rw [if_pos hh]
              refine ⟨fun c => absurd c (by decide), fun _ => ?_⟩
              rintro u rfl
              rw [if_neg (by decide), nI_1 (shkS (shO (cfg Ru d) (vx d) (vP d) i j) 0)]
              refine fin _ ?_
              rw [eS, if_pos hh]
              rfl
            · rw [if_neg hh]
              refine ⟨fun _ => sg_BM_shaken_136 ⟨fun _ => ?_, fun c => absurd c (by decide)⟩, fun c => absurd rfl c⟩
              rintro u rfl
              rw [if_neg (by decide), Int32.add_zero]
              refine fin _ ?_
              rw [eS, if_neg hh]
              rfl
          · refine ⟨fun _ => sg_BM_shaken_136 ⟨fun c => absurd rfl c, fun _ => k_BM_fell (v := 37) ru.1 (by decide) ?_⟩, fun c => absurd c (by decide)⟩
            rintro u rfl
            rw [if_neg (by decide), nI_add]
            refine fin _ ?_
            rw [eS]
            rfl
          · refine ⟨fun _ => sg_BM_shaken_136 ⟨fun _ => ?_, fun c => absurd c (by decide)⟩, fun c => absurd c (by decide)⟩
            rintro u rfl
            rw [if_pos rfl, Int32.add_zero]
            refine fin _ ?_
            rw [eS]
            rfl
        | succ q ihq =>
          intro i υ hi hfu ru ku xu neu
          refine sg_BM_shaken_80 ⟨fun q => absurd q (nI_ge (by omega) (by omega)), fun _ => ?_⟩
          have hXi : (shT (cfg Ru d) X (vP d) H i).1 < 2147483648 := shT_x hX31 i
          refine k_BM_draws xu hXi ?_
          refine k_tips (by omega) ru.dr (fun ξ hx1 b1 b2 b3 => ?_)
          have nx := ihq (i + 1) ξ (by omega) (hfu.tr ((fr_sai (by decide)).tr (hx1.mo (by decide) (by decide)))) b1 (fun b hb => by
            rw [(hx1.2 174 (by decide)).1, ai_sai, if_neg (by omega)]
            exact ku b hb) (by rw [(hx1.2 152 (by decide)).1, ai_sai, if_pos ⟨rfl, rfl⟩]; rfl) (fun i hi => by rw [(hx1.2 152 (by decide)).1, ai_sai, if_neg (fun z => hi z.2)]; exact neu i hi)
          rcases (show w = 0 ∨ w = 1 ∨ w = 2 by omega) with rfl | rfl | rfl
          · refine ⟨fun _ => ?_, fun c => absurd c (by decide)⟩
            rintro u rfl u2 rfl
            rw [Int32.add_zero, nI_1]; exact nx
          · refine ⟨fun _ => ?_, fun c => absurd c (by decide)⟩
            rintro u rfl u2 rfl
            rw [Int32.add_zero, nI_1]; exact nx
          · refine ⟨fun c => absurd rfl c, fun _ => ?_⟩
            rintro u rfl u2 rfl
            rw [if_pos rfl, b2, nI_add, nI_1]
            rw [if_pos rfl] at nx
            exact nx
      have := inn n 0 τ (Nat.zero_add _) hf r1 k1 (by rw [x1, ← hX]; rfl) ne
      have es : (if w = 2 then (shT (cfg Ru d) X (vP d) H 0).2.2 else shkS (shO (cfg Ru d) (vx d) (vP d) n j) w) = shkS (shO (cfg Ru d) (vx d) (vP d) n j) w := by
        split
        · rename_i q
          rw [q]
          show H = _
          rw [hH]
          rfl
        · rfl
      rw [es] at this
      exact this
  have := out m 0 τ1 (Nat.zero_add _) (f1.mo (by simp) (by decide)) hT1 q1 (by rw [(f1.2 152 (by decide)).1]; exact h66) (fun i _ => by rw [(f1.2 152 (by decide)).1])
  have e0 : shkS (shO (cfg Ru d) (vx d) (vP d) n 0) w = 0 := by
    unfold shkS shO
    split
    · rfl
    · split <;> rfl
  rw [e0] at this
  exact this
end
