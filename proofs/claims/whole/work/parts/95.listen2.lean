-- the class's Listener
theorem sh79 : SH[79]? = some (.inr (0, 36, [])) := by decide +kernel
theorem sh80 : SH[80]? = some (.inr (1, 3, [])) := by decide +kernel
theorem sh81 : SH[81]? = some (.inr (0, 64, [])) := by decide +kernel
def grW (gr : Nat → Nat) : Nat → Nat → Nat := fun w i => gr (16 * w + i)
def LiF (σ : St) (c : Cfg) (sd : Nat → Nat) (m : Nat) (tl : Bool) : Prop := LiR σ c.2.2.1 tl (lisF c sd m) ∧ (tl = true → fi σ 78 8 = nI (chG (grW (lisF c sd m).2.2.2) 3).1 ∧ fi σ 78 9 = nI (chG (grW (lisF c sd m).2.2.2) 3).2)
/-- what is kept -/
def LiCa (σ : St) (c : Cfg) (sd : Nat → Nat) (m : Nat) : Prop := (fi σ 78 5 = 0 ∨ fi σ 78 5 = 1) ∧ (fi σ 78 4 = fi σ 0 14 → LiF σ c sd m (decide (fi σ 78 5 = 1)))
theorem fold_succ {α β : Type} (dec : Nat → Option α) (F : β → α → β) (b : β) (k : Nat) : ((List.range (k + 1)).filterMap dec).foldl F b = match dec k with
    | none => ((List.range k).filterMap dec).foldl F b
    | some P => F (((List.range k).filterMap dec).foldl F b) P := by
  rw [List.range_succ, List.filterMap_append, List.foldl_append]
  cases h : dec k with
  | none => simp [h]
  | some P => simp [h]
theorem beg_len {c : Cfg} (hB : c.2.2.1 ≤ 3) : (begL c).length ≤ 46656 := by
  rw [← beg_ref c]
  have h1 := List.length_filterMap_le (fun k => if (digN 36 c.2.2.1 k).all (plnC c) ∧ (digN 36 c.2.2.1 k).Nodup then some (plL (digN 36 c.2.2.1 k)) else none) (List.range (36 ^ c.2.2.1))
  have h2 : 36 ^ c.2.2.1 ≤ 46656 := Nat.pow_le_pow_right (n := 36) (by decide) hB
  simp only [List.length_range] at h1
  omega
theorem fold_lsB {c : Cfg} {sd : Nat → Nat} {m : Nat} : ∀ (l : List (Nat → Nat)) (st : LSt) (k : Nat), lsB st k → lsB (l.foldl (lisS c sd m) st) (k + l.length)
  | [], _, _, h => h
  | P :: l, st, k, h => by
    have := fold_lsB (c := c) (sd := sd) (m := m) l (lisS c sd m st P) (k + 1) (lisS_b h)
    rw [List.length_cons, show k + (l.length + 1) = k + 1 + l.length by omega]
    exact this
theorem lisF_b {c : Cfg} {sd : Nat → Nat} {m : Nat} (hB : c.2.2.1 ≤ 3) : lsB (lisF c sd m) 46656 := by
  have h := fold_lsB (c := c) (sd := sd) (m := m) (begL c) ls0 0 ⟨Nat.le_refl _, fun _ => Nat.zero_le _⟩
  have hl := beg_len hB
  exact ⟨by have := h.1; unfold lisF; omega, fun i => by have := h.2 i; unfold lisF; omega⟩
section
variable {g : Gx} {σ : St}
theorem chG_lt {f : Nat → Nat → Nat} : ∀ w, (chG f w).1 ≤ w
  | 0 => Nat.le_refl _
  | w + 1 => by
    unfold chG
    have := chG_lt (f := f) w
    split
    · exact Nat.le_refl _
    · omega
theorem k_LI_chooseWay {Q : St → Prop} {gr : Nat → Nat} (hg : ∀ k, k < 64 → ai σ 81 k = nI (gr k)) (hb : ∀ k, gr k < 2 ^ 31) (h : ∀ τ, fr [(78, 8), (78, 9)] [] σ τ → fi τ 78 8 = nI (chG (grW gr) 3).1 → fi τ 78 9 = nI (chG (grW gr) 3).2 → Q τ) : K_LI_chooseWay g σ Q := by
  have mb : ∀ w i, mxG (grW gr w) i < 2 ^ 31 := by
    intro w i
    have : mxG (grW gr w) i ≤ 2 ^ 31 - 1 := mxG_le (fun j _ => by have := hb (16 * w + j); unfold grW; omega)
    omega
  -- the greatest of one way
  have inn : ∀ (w : Nat) (τ : St), w < 4 → fr [(78, 8), (78, 9)] [] σ τ → (S_LI_chooseWay_16 g Q τ (nI w) (nI (mxG (grW gr w) 16)) (nI 16)) → ∀ (m i : Nat), i + m = 16 → S_LI_chooseWay_16 g Q τ (nI w) (nI (mxG (grW gr w) i)) (nI i) := by
    intro w τ hw hf hq m
    induction m with
    | zero => intro i hi; rw [show i = 16 by omega]; exact hq
    | succ m ih =>
      intro i hi
      refine sg_LI_chooseWay_16 ⟨fun q => absurd q (nI_ge (b := 16) (by omega) (by decide)), fun _ => ?_⟩
      have e16 : (16 : Int32) * nI w + nI i = nI (16 * w + i) := by
        show nI 16 * nI w + nI i = _
        rw [pk_mul, nI_add]
      rw [e16, nI_clamp (by omega), (hf.2 81 (by simp)).1, hg _ (by omega)]
      refine ⟨vp_in_nI (by omega) (by decide), ?_⟩
      rintro u rfl u2 rfl
      rw [nI_1]
      have := ih (i + 1) (by omega)
      unfold mxG at this
      have hlt := nI_ltI (mb w i) (hb (16 * w + i))
      by_cases z : mxG (grW gr w) i < gr (16 * w + i)
      · rw [if_pos (show mxG (grW gr w) i < grW gr w i from z)] at this
        rw [if_pos (hlt.mpr z)]; exact this
      · rw [if_neg (show ¬ mxG (grW gr w) i < grW gr w i from z)] at this
        rw [if_neg (fun y => z (hlt.mp y))]; exact this
  have cb : ∀ w, (chG (grW gr) w).2 < 2 ^ 31 := by
    intro w
    induction w with
    | zero => exact mb 0 16
    | succ w ih => unfold chG; split; · exact mb _ _
                   · exact ih
  have fin : ∀ τ, fr [(78, 8), (78, 9)] [] σ τ → fi τ 78 8 = nI (chG (grW gr) 3).1 → fi τ 78 9 = nI (chG (grW gr) 3).2 → S_LI_chooseWay_7 g Q τ (nI 4) := fun τ hf a b => sg_LI_chooseWay_7 ⟨fun _ => h τ hf a b, fun q => absurd (by decide) q⟩
  have step : ∀ (w : Nat) (τ : St), w + 1 < 4 → fr [(78, 8), (78, 9)] [] σ τ → fi τ 78 8 = nI (chG (grW gr) w).1 → fi τ 78 9 = nI (chG (grW gr) w).2 → (∀ υ, fr [(78, 8), (78, 9)] [] σ υ → fi υ 78 8 = nI (chG (grW gr) (w + 1)).1 → fi υ 78 9 = nI (chG (grW gr) (w + 1)).2 → S_LI_chooseWay_7 g Q υ (nI (w + 2))) → S_LI_chooseWay_7 g Q τ (nI (w + 1)) := by
    intro w τ hw hf a b hq
    refine sg_LI_chooseWay_7 ⟨fun q => absurd q (nI_ge (b := 4) hw (by decide)), fun _ => ?_⟩
    refine inn (w + 1) τ hw hf ?_ 16 0 rfl
    have hcw := chG_lt (f := grW gr) w
    refine sg_LI_chooseWay_16 ⟨fun _ => ?_, fun q => absurd (by decide) q⟩
    rw [a, b]
    refine ⟨fun q => absurd q (nI_pos (by omega)), fun _ => ?_⟩
    have hle := nI_leI (cb w) (mb (w + 1) 16)
    have es : chG (grW gr) (w + 1) = if mxG (grW gr (w + 1)) 16 < (chG (grW gr) w).2 then (w + 1, mxG (grW gr (w + 1)) 16) else chG (grW gr) w := rfl
    refine ⟨fun q => ?_, fun q => ?_⟩
    · rw [hle] at q
      rintro u rfl
      rw [nI_1]
      rw [if_neg (by omega)] at es
      exact hq τ hf (by rw [es]; exact a) (by rw [es]; exact b)
    · rw [hle] at q
      rintro s5 e5 s6 e6 u rfl
      rw [nI_1]
      rw [if_pos (by omega)] at es
      refine hq s6 (by rw [e6, e5]; exact hf.tr ((fr_sfi (by decide)).tr (fr_sfi (by decide)))) ?_ ?_
      · rw [e6, fi_sfi, if_neg (by decide), e5, fi_sfi, if_pos ⟨rfl, rfl⟩, es]
      · rw [e6, fi_sfi, if_pos ⟨rfl, rfl⟩, es]
  refine ko_LI_chooseWay (sg_LI_chooseWay_0 ?_)
  rintro s1 e1
  have f1 : fr [(78, 8), (78, 9)] [] σ s1 := by rw [e1]; exact fr_sfi (by decide)
  refine sg_LI_chooseWay_7 ⟨fun q => absurd q (by decide), fun _ => ?_⟩
  refine inn 0 s1 (by decide) f1 ?_ 16 0 rfl
  refine sg_LI_chooseWay_16 ⟨fun _ => ?_, fun q => absurd (by decide) q⟩
  have e8 : fi s1 78 8 = -1 := by rw [e1]; rfl
  rw [e8]
  refine ⟨fun _ => ?_, fun q => absurd (by decide) q⟩
  rintro s2 e2 s3 e3 u rfl
  rw [nI_1]
  have f3 : fr [(78, 8), (78, 9)] [] σ s3 := by rw [e3, e2]; exact f1.tr ((fr_sfi (by decide)).tr (fr_sfi (by decide)))
  refine step 0 s3 (by decide) f3 (by rw [e3, fi_sfi, if_neg (by decide), e2, fi_sfi, if_pos ⟨rfl, rfl⟩]; rfl) (by rw [e3, fi_sfi, if_pos ⟨rfl, rfl⟩]; rfl) (fun υ1 g1 a1 b1 => step 1 υ1 (by decide) g1 a1 b1 (fun υ2 g2 a2 b2 => step 2 υ2 (by decide) g2 a2 b2 (fun υ3 g3 a3 b3 => fin υ3 g3 a3 b3)))
end
section
variable {g : Gx} {σ : St} {d : Dat} {nr : Nat} {Ru : Nat → RuleT}
theorem li_roll {τ : St} {M : List Nat} {F : List (Nat × Nat)} (hs : ClsS 83 σ d) (hf : fr F M σ τ) (hF : ∀ k, (83, k) ∉ F) (m1 : 84 ∉ M) (m2 : 85 ∉ M) (m3 : 86 ∉ M) (m4 : 87 ∉ M) : ClsS 83 τ d := by
  obtain ⟨a1, a2, a3, a4, a5, a6, a7, a8, a9, a10⟩ := hs
  refine ⟨?_, a2.fr hf (hF 2) (hF 3) (hF 4) m1 m2, ?_, ?_, ?_, ?_, ?_, ?_, ?_, ?_⟩
  · rw [(hf.1 _ _ (hF 1)).1]; exact a1
  · rw [(hf.1 _ _ (hF 5)).1]; exact a3
  · rw [(hf.1 _ _ (hF 6)).1]; exact a4
  · rw [(hf.1 _ _ (hF 7)).1]; exact a5
  · rw [(hf.2 (83 + 3) m3).1]; exact a6
  · rw [(hf.1 _ _ (hF 8)).1]; exact a7
  · rw [(hf.2 (83 + 4) m4).1]; exact a8
  · rw [(hf.1 _ _ (hF 9)).1]; exact a9
  · rw [(hf.1 _ _ (hF 10)).1]; exact a10
theorem k_LI_keepUp {Q : St → Prop} {al : Bool} (hs : ClsS 83 σ d) (ho : OkD nr d) (hr : RulC σ nr Ru) (hca : LiCa σ (cfg Ru d) (vsd d) (vm d))
    (h : ∀ τ tl, fr [(78, 4), (78, 5), (78, 6), (78, 7), (78, 8), (78, 9), (17, 4), (17, 6), (17, 7)] [79, 80, 81, 19, 20, 21, 26, 31, 36, 41, 46, 51] σ τ → LiCa τ (cfg Ru d) (vsd d) (vm d) → LiF τ (cfg Ru d) (vsd d) (vm d) tl → (al = true → tl = true) → (fi τ 78 4 = fi σ 78 4 ∨ fi τ 78 4 = fi σ 0 14) → Q τ) : K_LI_keepUp g 83 (fi σ 0 14) (bI al) σ Q := by
  have hB := ho.1.2.2.1
  have hC := ho.1.1
  have hR := ho.1.2.1
  have start : S_LI_keepUp_20 g Q σ 83 (fi σ 0 14) (bI al) := by
    refine sg_LI_keepUp_20 sa_83 ?_
    rintro s1 e1
    refine ⟨by cases al <;> decide, ?_⟩
    rintro s2 e2 s3 e3
    have f3 : fr [(78, 4), (78, 5), (78, 6)] [] σ s3 := by rw [e3, e2, e1]; exact ((fr_sfi (by decide)).tr (fr_sfi (by decide))).tr (fr_sfi (by decide))
    have v4 : fi s3 78 4 = fi σ 0 14 := by rw [e3, fi_sfi, if_neg (by decide), e2, fi_sfi, if_neg (by decide), e1, fi_sfi, if_pos ⟨rfl, rfl⟩]
    have v5 : fi s3 78 5 = bI al := by rw [e3, fi_sfi, if_neg (by decide), e2, fi_sfi, if_pos ⟨rfl, rfl⟩]
    have v6 : fi s3 78 6 = nI 0 := by rw [e3]; rfl
    refine k_JA_fill_1 sh80 (by decide) (fun s4 f4 z4 => k_JA_fill sh81 (by decide) (fun s5 f5 z5 => ?_))
    have F5 : fr [(78, 4), (78, 5), (78, 6), (78, 7), (78, 8), (78, 9), (17, 4), (17, 6), (17, 7)] [79, 80, 81, 19, 20, 21, 26, 31, 36, 41, 46, 51] σ s5 := (f3.mo (by decide) (by simp)).tr ((f4.mo (by simp) (by decide)).tr (f5.mo (by simp) (by decide)))
    have cs5 : ClsS 83 s5 d := li_roll hs F5 (fun k => by simp) (by decide) (by decide) (by decide) (by decide)
    refine k_SA_listPlain (c := cfg Ru d) sa_83 sh79 (by decide) cs5.2.1 (fun s6 f6 p6 => ?_)
    have F6 := F5.tr (f6.mo (F' := [(78, 4), (78, 5), (78, 6), (78, 7), (78, 8), (78, 9), (17, 4), (17, 6), (17, 7)]) (R' := [79, 80, 81, 19, 20, 21, 26, 31, 36, 41, 46, 51]) (by simp) (by decide))
    have cs6 : ClsS 83 s6 d := li_roll hs F6 (fun k => by simp) (by decide) (by decide) (by decide) (by decide)
    obtain ⟨n, hn⟩ : ∃ n, n = (plnL (cfg Ru d)).length := ⟨_, rfl⟩
    obtain ⟨f, hf⟩ : ∃ f : Nat → Nat, f = fun k => (plnL (cfg Ru d)).getD k 0 := ⟨_, rfl⟩
    have hn36 : n ≤ 36 := by
      rw [hn]
      have := List.length_filter_le (plnC (cfg Ru d)) (List.range 36)
      simpa [plnL] using this
    have hmap : (List.range n).map f = plnL (cfg Ru d) := by
      rw [hf, hn]
      apply List.ext_getElem?
      intro i
      by_cases hi : i < (plnL (cfg Ru d)).length
      · simp [hi, List.getD]
      · simp [hi]
    have hf36 : ∀ k, k < n → f k < 36 := by
      intro k hk
      have : f k ∈ plnL (cfg Ru d) := by rw [← hmap]; exact List.mem_map.mpr ⟨k, by simpa using hk, rfl⟩
      unfold plnL at this
      rw [List.mem_filter] at this
      simpa using this.1
    rw [← hn] at p6 ⊢
    have p6 : ∀ k, k < n → ai s6 79 k = nI (spc (f k)) := fun k hk => by rw [hf]; exact p6 k hk
    have eB : fi s6 83 4 = nI (vB d) := cs6.2.1.1.2.2
    rw [eB]
    refine k_SA_beginningsEnd hB ?_
    have hpow : n ^ vB d ≤ 46656 := by
      have h1 : n ^ vB d ≤ 36 ^ vB d := Nat.pow_le_pow_left hn36 _
      have h2 : 36 ^ vB d ≤ 36 ^ 3 := Nat.pow_le_pow_right (by decide) hB
      omega
    have hdec : (List.range (n ^ vB d)).filterMap (fun k => if ((digN n (vB d) k).map f).Nodup then some (plL ((digN n (vB d) k).map f)) else none) = begL (cfg Ru d) := beg_cls (cfg Ru d) n f hmap
    obtain ⟨dec, hdece⟩ : ∃ dec : Nat → Option (Nat → Nat), dec = fun k => if ((digN n (vB d) k).map f).Nodup then some (plL ((digN n (vB d) k).map f)) else none := ⟨_, rfl⟩
    rw [← hdece] at hdec
    have li6 : LiR s6 (vB d) al ls0 := by
      refine ⟨?_, fun z => absurd rfl z, fun b x hb hx => ?_, fun _ k hk => ?_⟩
      · rw [(f6.1 78 6 (by simp)).1, (f5.1 78 6 (by simp)).1, (f4.1 78 6 (by simp)).1]; exact v6
      · rw [(f6.2 80 (by decide)).2, (f5.2 80 (by decide)).2, z4 b (by omega), sb_0]; rfl
      · rw [(f6.2 81 (by decide)).1, z5 k hk]; rfl
    -- the loop over all beginnings
    have go : ∀ (j k : Nat) (τ : St), k + j = n ^ vB d → fr [(78, 6), (78, 7), (17, 4), (17, 6), (17, 7)] [80, 81, 19, 20, 21, 26, 31, 36, 41, 46, 51] s6 τ → LiR τ (vB d) al (((List.range k).filterMap dec).foldl (lisS (cfg Ru d) (vsd d) (vm d)) ls0) → lsB (((List.range k).filterMap dec).foldl (lisS (cfg Ru d) (vsd d) (vm d)) ls0) k → (al = false → ∀ x, x < 64 → ai τ 81 x = 0) → S_LI_keepUp_75 g Q τ 83 (bI al) (nI n) (nI (n ^ vB d)) (nI k) := by
      intro j
      induction j with
      | zero =>
        intro k τ hkj hfr hli hlb hz
        have e : k = n ^ vB d := by omega
        rw [e, hdec] at hli hlb
        refine sg_LI_keepUp_75 sa_83 ⟨fun _ => ?_, fun q => absurd (nI_le (by omega) (by omega)) q⟩
        obtain ⟨gr, hgr⟩ : ∃ gr : Nat → Nat, gr = if al then (lisF (cfg Ru d) (vsd d) (vm d)).2.2.2 else fun _ => 0 := ⟨_, rfl⟩
        refine k_LI_chooseWay (gr := gr) (fun x hx => ?_) (fun x => ?_) (fun υ fu a8 a9 => ?_)
        · rw [hgr]
          cases al with
          | true => exact hli.2.2.2 rfl x hx
          | false => exact hz rfl x hx
        · rw [hgr]
          cases al with
          | true => have := (lisF_b (c := cfg Ru d) (sd := vsd d) (m := vm d) hB).2 x; show (lisF (cfg Ru d) (vsd d) (vm d)).2.2.2 x < _; omega
          | false => show 0 < _; decide
        · have Fτ : fr [(78, 4), (78, 5), (78, 6), (78, 7), (78, 8), (78, 9), (17, 4), (17, 6), (17, 7)] [79, 80, 81, 19, 20, 21, 26, 31, 36, 41, 46, 51] s6 υ := (hfr.mo (by decide) (by decide)).tr (fu.mo (by decide) (by simp))
          have lf : LiF υ (cfg Ru d) (vsd d) (vm d) al := by
            refine ⟨hli.fr fu (by decide) (by decide) (by simp) (by simp), fun hal => ?_⟩
            rw [hal] at hgr
            simp only [if_true] at hgr
            rw [hgr] at a8 a9
            exact ⟨a8, a9⟩
          have w5 : fi υ 78 5 = bI al := by
            rw [(fu.1 78 5 (by decide)).1, (hfr.1 78 5 (by decide)).1, (f6.1 78 5 (by simp)).1, (f5.1 78 5 (by simp)).1, (f4.1 78 5 (by simp)).1]; exact v5
          refine h υ al (F6.tr Fτ) ⟨by rw [w5]; cases al <;> decide, fun _ => ?_⟩ lf (fun q => q) (Or.inr (by rw [(fu.1 78 4 (by decide)).1, (hfr.1 78 4 (by decide)).1, (f6.1 78 4 (by simp)).1, (f5.1 78 4 (by simp)).1, (f4.1 78 4 (by simp)).1]; exact v4))
          rw [w5]
          have : decide (bI al = 1) = al := by cases al <;> decide
          rw [this]; exact lf
      | succ j ih =>
        intro k τ hkj hfr hli hlb hz
        have hkn : k < n ^ vB d := by omega
        have Fτ := F6.tr (hfr.mo (F' := [(78, 4), (78, 5), (78, 6), (78, 7), (78, 8), (78, 9), (17, 4), (17, 6), (17, 7)]) (R' := [79, 80, 81, 19, 20, 21, 26, 31, 36, 41, 46, 51]) (by decide) (by decide))
        have csτ : ClsS 83 τ d := li_roll hs Fτ (fun k => by simp) (by decide) (by decide) (by decide) (by decide)
        have rτ : RulC τ nr Ru := rulC_fr hr Fτ (by decide) (fun i hi => by simp; omega) (fun i hi => by simp; omega)
        have ctτ : ClsT 83 τ (cfg Ru d) := clsS_toT csτ ho rτ
        refine sg_LI_keepUp_75 sa_83 ⟨fun q => absurd q (nI_ge hkn (by omega)), fun _ => ?_⟩
        have e4 : fi τ 83 4 = nI (vB d) := csτ.2.1.1.2.2
        rw [e4]
        refine k_SA_beginning (f := f) sh79 hn36 hB hkn (fun x hx => ⟨by rw [(hfr.2 79 (by decide)).1]; exact p6 x hx, hf36 x hx⟩) ?_
        have edk : dec k = if ((digN n (vB d) k).map f).Nodup then some (plL ((digN n (vB d) k).map f)) else none := by rw [hdece]
        have efold := fold_succ dec (lisS (cfg Ru d) (vsd d) (vm d)) ls0 k
        obtain ⟨st, hst⟩ : ∃ st, st = ((List.range k).filterMap dec).foldl (lisS (cfg Ru d) (vsd d) (vm d)) ls0 := ⟨_, rfl⟩
        rw [← hst] at hli hlb efold
        -- nothing fits
        have skip : ∀ υ, fr [(78, 6), (78, 7), (17, 4), (17, 6), (17, 7)] [80, 81, 19, 20, 21, 26, 31, 36, 41, 46, 51] τ υ → LiR υ (vB d) al st → (al = false → ∀ x, x < 64 → ai υ 81 x = 0) → ((List.range (k + 1)).filterMap dec).foldl (lisS (cfg Ru d) (vsd d) (vm d)) ls0 = st → ∀ u : Int32, u = nI k + 1 → S_LI_keepUp_75 g Q υ 83 (bI al) (nI n) (nI (n ^ vB d)) u := by
          rintro υ fu lu zu e u rfl
          rw [nI_1]
          exact ih (k + 1) υ (by omega) (hfr.tr fu) (by rw [e]; exact lu) (by rw [e]; exact ⟨by have := hlb.1; omega, fun i => by have := hlb.2 i; omega⟩) zu
        by_cases hnd : ((digN n (vB d) k).map f).Nodup
        · rw [if_pos hnd]
          rw [if_pos hnd] at edk
          rw [edk] at efold
          dsimp only at efold
          obtain ⟨P, hP⟩ : ∃ P, P = plL ((digN n (vB d) k).map f) := ⟨_, rfl⟩
          rw [← hP] at edk efold ⊢
          have hmem : P ∈ begL (cfg Ru d) := by
            rw [← hdec]
            exact List.mem_filterMap.mpr ⟨k, by simpa using hkn, edk⟩
          obtain ⟨okp, -, h36⟩ := begL_ok (c := cfg Ru d) hB hmem
          refine ⟨fun _ => ?_, fun z => absurd (nI_pos' (Nat.lt_trans sitP_lt (by decide))) z⟩
          refine k_LI_behindSounds (c := cfg Ru d) (P := P) (sd := vsd d) (m := vm d) sa_83 ctτ okp csτ.2.2.2.2.2.2.1 ho.2.2.2.2.2.2.1 (fun x hx => ⟨csτ.2.2.2.2.2.2.2.1 x hx, ho.2.2.2.2.2.2.2.1 x hx⟩) (fun N hN υ fu => ?_) (fun hN υ fu => ?_)
          · have eS : lisS (cfg Ru d) (vsd d) (vm d) st P = (st.1 + 1, if st.1 = 0 then P else st.2.1, fun b x => st.2.2.1 b x || decide (P b = x), grS (cfg Ru d) N (grS (cfg Ru d) N (grS (cfg Ru d) N (grS (cfg Ru d) N st.2.2.2 0) 1) 2) 3) := by unfold lisS; rw [hN]
            rw [eS] at efold
            have hNo := sndF_ok (c := cfg Ru d) hC hR okp (fun x hx => ho.2.2.2.2.2.2.2.1 x hx) hN
            have Fu : fr [(78, 6), (78, 7), (17, 4), (17, 6), (17, 7)] [80, 81, 19, 20, 21, 26, 31, 36, 41, 46, 51] τ υ := fu.mo (by decide) (by decide)
            have lu := hli.fr fu (by decide) (by decide) (by decide) (by decide)
            have csu : ClsS 83 υ d := li_roll csτ Fu (fun k => by simp) (by decide) (by decide) (by decide) (by decide)
            have ru : RulC υ nr Ru := rulC_fr rτ Fu (by decide) (fun i hi => by simp; omega) (fun i hi => by simp; omega)
            refine sg_LI_keepUp_115 sa_83 ⟨fun z => absurd z (nI_pos (Nat.lt_trans sitP_lt (by decide))), fun _ => ?_⟩
            rw [show fi υ 83 4 = nI (vB d) from csu.2.1.1.2.2]
            refine k_LI_noteFit (c := cfg Ru d) (P := P) (k := k) hB okp h36 lu hlb (by omega) (fun ξ fx lx => ?_)
            have Fx : fr [(78, 6), (78, 7), (17, 4), (17, 6), (17, 7)] [80, 81, 19, 20, 21, 26, 31, 36, 41, 46, 51] τ ξ := Fu.tr (fx.mo (by decide) (by decide))
            have lb1 : lsB (((List.range (k + 1)).filterMap dec).foldl (lisS (cfg Ru d) (vsd d) (vm d)) ls0) (k + 1) := by
              rw [efold, ← eS]; exact lisS_b hlb
            have ba : bI al = 0 ↔ al = false := bI_0
            rw [ba]
            refine ⟨fun q => ?_, fun q => ?_⟩
            · rintro u rfl
              rw [nI_1]
              refine ih (k + 1) ξ (by omega) (hfr.tr Fx) ?_ lb1 (fun ha x hx => ?_)
              · rw [efold]
                exact ⟨lx.1, lx.2.1, lx.2.2.1, fun z => by rw [q] at z; exact absurd z (by decide)⟩
              · rw [(fx.2 81 (by decide)).1, (fu.2 81 (by decide)).1]; exact hz ha x hx
            · have qt : al = true := by simpa using q
              have csx : ClsS 83 ξ d := li_roll csτ Fx (fun k => by simp) (by decide) (by decide) (by decide) (by decide)
              have rx : RulC ξ nr Ru := rulC_fr rτ Fx (by decide) (fun i hi => by simp; omega) (fun i hi => by simp; omega)
              refine k_LI_listenOn (c := cfg Ru d) (N := N) (gr := st.2.2.2) sa_83 (clsS_toT csx ho rx) hNo (by decide) (lx.2.2.2 qt) (fun ζ fz gz => ?_)
              rintro u rfl
              rw [nI_1]
              refine ih (k + 1) ζ (by omega) (hfr.tr (Fx.tr (fz.mo (by decide) (by decide)))) ?_ lb1 (fun ha => by rw [qt] at ha; exact absurd ha (by decide))
              rw [efold]
              refine ⟨?_, fun z => ?_, fun b x hb hx => ?_, fun _ x hx => gz x hx⟩
              · rw [(fz.1 78 6 (by decide)).1]; exact lx.1
              · rw [(fz.1 78 7 (by decide)).1]; exact lx.2.1 z
              · rw [(fz.2 80 (by decide)).2]; exact lx.2.2.1 b x hb hx
          · have eS : lisS (cfg Ru d) (vsd d) (vm d) st P = st := by unfold lisS; rw [hN]
            rw [eS] at efold
            refine sg_LI_keepUp_115 sa_83 ⟨fun _ => skip υ (fu.mo (by decide) (by decide)) (hli.fr fu (by decide) (by decide) (by decide) (by decide)) (fun ha x hx => by rw [(fu.2 81 (by decide)).1]; exact hz ha x hx) efold, fun z => absurd (by decide) z⟩
        · rw [if_neg hnd]
          rw [if_neg hnd] at edk
          rw [edk] at efold
          refine ⟨fun z => absurd z (by decide), fun _ => sg_LI_keepUp_115 sa_83 ⟨fun _ => skip τ fr.rf hli hz efold, fun z => absurd (by decide) z⟩⟩
    have ini := go (n ^ vB d) 0 s6 (Nat.zero_add _) fr.rf li6 ⟨Nat.le_refl _, fun _ => Nat.zero_le _⟩ (fun _ x hx => by rw [(f6.2 81 (by decide)).1, z5 x hx])
    exact ini
  refine ko_LI_keepUp (sg_LI_keepUp_0 sa_83 ⟨fun _ => start, fun q => ?_⟩)
  have hv := hca.2 q
  rcases hca.1 with e5 | e5
  · refine ⟨fun z => absurd e5 z, fun _ => ⟨fun _ => start, fun z => ?_⟩⟩
    have ha : al = false := bI_0.mp z
    rw [e5] at hv
    exact h σ false fr.rf hca hv (fun y => by rw [ha] at y; exact absurd y (by decide)) (Or.inl rfl)
  · refine ⟨fun _ => ?_, fun z => by rw [e5] at z; exact absurd z (by decide)⟩
    rw [e5] at hv
    exact h σ true fr.rf hca hv (fun _ => rfl) (Or.inl rfl)
end
