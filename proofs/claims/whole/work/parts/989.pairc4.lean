-- the class: listBeginnings
theorem fm_len {α β : Type} {f : α → List β} {n : Nat} : ∀ (l : List α), (∀ a, a ∈ l → (f a).length ≤ n) → (l.flatMap f).length ≤ l.length * n
  | [], _ => by simp
  | a :: l, h => by
    have h1 := h a List.mem_cons_self
    have h2 := fm_len l (fun b hb => h b (List.mem_cons_of_mem _ hb))
    rw [List.flatMap_cons, List.length_append, List.length_cons, Nat.succ_mul]
    omega
theorem tup1 (L : List Nat) : tupF L 1 = L.map (fun x => [x]) := by
  show L.flatMap (fun a => [[a]]) = _
  induction L with
  | nil => rfl
  | cons x L ih => rw [List.flatMap_cons, ih]; rfl
theorem beg_len2 {c : Cfg} (hB : c.2.2.1 ≤ 2) : (begL c).length ≤ 1260 := by
  have hl := pln_len (c := c)
  unfold begL
  rw [List.length_map]
  obtain ⟨L, hL⟩ : ∃ L, L = plnL c := ⟨_, rfl⟩
  rw [← hL] at hl ⊢
  rcases (show c.2.2.1 = 0 ∨ c.2.2.1 = 1 ∨ c.2.2.1 = 2 by omega) with e | e | e
  · rw [e]
    have := List.length_filter_le (fun l => decide l.Nodup) (tupF L 0)
    have e0 : (tupF L 0).length = 1 := rfl
    omega
  · rw [e]
    have := List.length_filter_le (fun l => decide l.Nodup) (tupF L 1)
    have h2 : (tupF L 1).length ≤ L.length * 1 := fm_len L (fun a _ => by rw [List.length_map]; exact Nat.le_refl _)
    omega
  · rw [e]
    have e2 : tupF L 2 = L.flatMap (fun a => (tupF L 1).map (fun l => a :: l)) := rfl
    have e1 : tupF L 1 = L.map (fun x => [x]) := tup1 L
    rw [e2, List.filter_flatMap]
    have key : (L.flatMap (fun a => ((tupF L 1).map (fun l => a :: l)).filter (fun l => decide l.Nodup))).length ≤ L.length * (L.length - 1) := by
      refine fm_len L (fun a ha => ?_)
      rw [e1, List.map_map, List.filter_map, List.length_map]
      have : (List.filter ((fun l => decide l.Nodup) ∘ ((fun l => a :: l) ∘ fun x => [x])) L).length < L.length := by
        rw [List.length_filter_lt_length_iff_exists]
        exact ⟨a, ha, by simp⟩
      omega
    have : L.length * (L.length - 1) ≤ 36 * 35 := Nat.mul_le_mul hl (by omega)
    exact Nat.le_trans key this
theorem beg_dom {c : Cfg} {P : Nat → Nat} (hB : c.2.2.1 ≤ 2) (h : P ∈ begL c) : Dom c P := by
  obtain ⟨ok, ds, h36⟩ := begL_ok (by omega) h
  refine ⟨ok, ds, fun b e => ?_⟩
  by_cases q : b < c.2.2.1
  · have := h36 b q
    omega
  · have := ok.1.1 b (by omega)
    omega
def SbR (σ : St) (c : Cfg) : Prop := ai σ 76 0 = nI (begL c).length ∧ ∀ i P, (begL c)[i]? = some P → ai σ 75 i = nI (sitP P c.2.2.1)
def HaS (σ : St) (B : Nat) : Option ((Nat → Nat) × Nat) → Prop
  | none => fi σ 69 14 = -2
  | some q => fi σ 69 14 = nI q.2 ∧ fi σ 69 15 = nI (sitP q.1 B)
theorem map_getD {L : List Nat} : (List.range L.length).map (fun k => L.getD k 0) = L := by
  apply List.ext_getElem?
  intro i
  by_cases hi : i < L.length
  · simp [hi, List.getD]
  · simp [hi]
theorem sh70 : SH[70]? = some (.inr (0, 36, [])) := by decide +kernel
section
variable {g : Gx} {σ : St} {c : Cfg}
theorem k_PA_listBeginnings {Q : St → Prop} (hB : c.2.2.1 ≤ 2) (hp : ∀ k, k < (plnL c).length → ai σ 70 k = nI (spc ((plnL c).getD k 0))) (hfa : FaR σ c) (h : ∀ τ, fr [(69, 14), (69, 15)] [75, 76] σ τ → SbR τ c → HaS τ c.2.2.1 (hrdF c) → Q τ) : K_PA_listBeginnings g (nI c.2.2.1) (nI (plnL c).length) σ Q := by
  obtain ⟨n, hn⟩ : ∃ n, n = (plnL c).length := ⟨_, rfl⟩
  obtain ⟨f, hf⟩ : ∃ f : Nat → Nat, f = fun k => (plnL c).getD k 0 := ⟨_, rfl⟩
  have hn36 : n ≤ 36 := by rw [hn]; exact pln_len
  have hmap : (List.range n).map f = plnL c := by rw [hf, hn]; exact map_getD
  have hf36 : ∀ k, k < n → f k < 36 := by
    intro k hk
    have : f k ∈ plnL c := by rw [← hmap]; exact List.mem_map.mpr ⟨k, by simpa using hk, rfl⟩
    exact (pln_mem.mp this).1
  rw [← hn] at hp ⊢
  have hp : ∀ k, k < n → ai σ 70 k = nI (spc (f k)) := fun k hk => by rw [hf]; exact hp k hk
  have hpow : n ^ c.2.2.1 ≤ 1296 := by
    have h1 : n ^ c.2.2.1 ≤ 36 ^ c.2.2.1 := Nat.pow_le_pow_left hn36 _
    have h2 : 36 ^ c.2.2.1 ≤ 36 ^ 2 := Nat.pow_le_pow_right (by decide) hB
    omega
  have hdec : (List.range (n ^ c.2.2.1)).filterMap (fun k => if ((digN n c.2.2.1 k).map f).Nodup then some (plL ((digN n c.2.2.1 k).map f)) else none) = begL c := beg_cls c n f hmap
  obtain ⟨dec, hdece⟩ : ∃ dec : Nat → Option (Nat → Nat), dec = fun k => if ((digN n c.2.2.1 k).map f).Nodup then some (plL ((digN n c.2.2.1 k).map f)) else none := ⟨_, rfl⟩
  rw [← hdece] at hdec
  have hlen := beg_len2 (c := c) hB
  have memB : ∀ k N, k < n ^ c.2.2.1 → dec k = some N → N ∈ begL c := fun k N hk e => by
    rw [← hdec]
    exact List.mem_filterMap.mpr ⟨k, by simpa using hk, e⟩
  have hsub : ∀ k, k ≤ n ^ c.2.2.1 → ∀ q, ((List.range k).filterMap dec).foldl (hrdS c) none = some q → q.1 ∈ begL c ∧ farC c q.1 = some q.2 := by
    intro k hk
    refine hrd_inv _ _ (fun P hP => ?_) (fun q hq => by cases hq)
    obtain ⟨i, hi, e⟩ := List.mem_filterMap.mp hP
    exact memB i P (by have := List.mem_range.mp hi; omega) e
  have es : ∀ k, (List.range (k + 1)).filterMap dec = (List.range k).filterMap dec ++ (dec k).toList := by
    intro k
    rw [List.range_succ, List.filterMap_append]
    congr 1
  have hcnt : ∀ j k, k + j = n ^ c.2.2.1 → ((List.range k).filterMap dec).length ≤ (begL c).length := by
    intro j
    induction j with
    | zero => intro k hk; rw [show k = n ^ c.2.2.1 by omega, hdec]; exact Nat.le_refl _
    | succ j ih =>
      intro k hk
      have := ih (k + 1) (by omega)
      rw [es, List.length_append] at this
      omega
  have go : ∀ (j k : Nat) (τ : St), k + j = n ^ c.2.2.1 → fr [(69, 14), (69, 15)] [75, 76] σ τ → ai τ 76 0 = nI ((List.range k).filterMap dec).length → (∀ i P, ((List.range k).filterMap dec)[i]? = some P → ai τ 75 i = nI (sitP P c.2.2.1)) → HaS τ c.2.2.1 (((List.range k).filterMap dec).foldl (hrdS c) none) → S_PA_listBeginnings_27 g Q τ (nI c.2.2.1) (nI n) (nI (n ^ c.2.2.1)) (nI k) := by
    intro j
    induction j with
    | zero =>
      intro k τ hk hfr h0 h1 h2
      have e : k = n ^ c.2.2.1 := by omega
      rw [e, hdec] at h0 h1 h2
      exact sg_PA_listBeginnings_27 ⟨fun _ => h τ hfr ⟨h0, h1⟩ h2, fun q => absurd (nI_le (by omega) (by omega)) q⟩
    | succ j ih =>
      intro k τ hk hfr h0 h1 h2
      have hkn : k < n ^ c.2.2.1 := by omega
      refine sg_PA_listBeginnings_27 ⟨fun q => absurd q (nI_ge hkn (by omega)), fun _ => ?_⟩
      refine k_SA_beginning (f := f) sh70 hn36 (by omega) hkn (fun x hx => ⟨by rw [(hfr.2 70 (by decide)).1]; exact hp x hx, hf36 x hx⟩) ?_
      have edk : dec k = if ((digN n c.2.2.1 k).map f).Nodup then some (plL ((digN n c.2.2.1 k).map f)) else none := by rw [hdece]
      have esk := es k
      by_cases q : ((digN n c.2.2.1 k).map f).Nodup
      · rw [if_pos q] at edk ⊢
        obtain ⟨N, hN⟩ : ∃ N, N = plL ((digN n c.2.2.1 k).map f) := ⟨_, rfl⟩
        rw [← hN] at edk ⊢
        have hm := memB k N hkn edk
        have hD := beg_dom hB hm
        have hsl := sitP_lt2 (P := N) hB
        rw [edk] at esk
        have c1 := hcnt j (k + 1) (by omega)
        rw [esk, List.length_append] at c1
        have c2 : ((List.range k).filterMap dec).length < 1260 := by
          have : (some N).toList.length = 1 := rfl
          omega
        obtain ⟨M, hM⟩ : ∃ M, M = (List.range k).filterMap dec := ⟨_, rfl⟩
        obtain ⟨st, hst⟩ : ∃ st, st = M.foldl (hrdS c) none := ⟨_, rfl⟩
        have hin := hsub k (by omega)
        rw [← hM] at h0 h1 h2 c2 esk hin
        rw [← hst] at h2 hin
        have esf : ((List.range (k + 1)).filterMap dec).foldl (hrdS c) none = hrdS c st N := by
          rw [esk, List.foldl_append, hst]; rfl
        refine ⟨fun z => absurd z (nI_pos (by omega)), fun _ => ⟨fun z => absurd z (nI_ge (b := 4096) hsl (by decide)), fun _ => ⟨pk_in 0 7 (by decide), ?_⟩⟩⟩
        rw [cl0, h0]
        refine ⟨fun z => absurd z (nI_ge (b := 1260) c2 (by decide)), fun _ => ⟨pk_in 0 7 (by decide), vp_in_nI (by omega) (by decide), ?_⟩⟩
        rintro s6 e6
        refine ⟨pk_in 0 7 (by decide), pk_in 0 7 (by decide), ?_⟩
        rintro s7 e7
        rw [nI_clamp (by omega)] at e6
        have a76 : ai s6 76 0 = nI M.length := by rw [e6, ai_sai, if_neg (by omega)]; exact h0
        rw [a76, nI_1] at e7
        have f7 : fr [(69, 14), (69, 15)] [75, 76] τ s7 := by rw [e7, e6]; exact (fr_sai (by decide)).tr (fr_sai (by decide))
        have b76 : ai s7 76 0 = nI (M.length + 1) := by rw [e7, ai_sai, if_pos ⟨rfl, rfl⟩]
        have b75 : ∀ i, ai s7 75 i = if i = M.length then nI (sitP N c.2.2.1) else ai τ 75 i := by
          intro i
          rw [e7, ai_sai, if_neg (by omega), e6, ai_sai]
          by_cases e : i = M.length
          · rw [if_pos ⟨rfl, e⟩, if_pos e]
          · rw [if_neg (fun z => e z.2), if_neg e]
        have b14 : ∀ x, fi s7 69 x = fi τ 69 x := fun x => by rw [e7, fi_sai, e6, fi_sai]
        have b72 : ai s7 72 (sitP N c.2.2.1) = oT (farC c N) := by
          rw [e7, ai_sai, if_neg (by omega), e6, ai_sai, if_neg (by omega), (hfr.2 72 (by decide)).1]; exact (hfa N hD).1
        have next : ∀ υ, fr [(69, 14), (69, 15)] [] s7 υ → HaS υ c.2.2.1 (hrdS c st N) → S_PA_listBeginnings_27 g Q υ (nI c.2.2.1) (nI n) (nI (n ^ c.2.2.1)) (nI (k + 1)) := by
          intro υ fu hu
          refine ih (k + 1) υ (by omega) (hfr.tr (f7.tr (fu.mo (fun _ z => z) (by simp)))) ?_ (fun i P hP => ?_) (by rw [esf]; exact hu)
          · rw [(fu.2 76 (by simp)).1, b76, esk, List.length_append]; rfl
          · rw [(fu.2 75 (by simp)).1, b75]
            rw [esk] at hP
            by_cases e : i = M.length
            · rw [if_pos e]
              rw [e, List.getElem?_append_right (Nat.le_refl _), Nat.sub_self] at hP
              have : N = P := by simpa using hP
              rw [this]
            · rw [if_neg e]
              refine h1 i P ?_
              rcases Nat.lt_or_ge i M.length with q1 | q1
              · rw [List.getElem?_append_left q1] at hP; exact hP
              · rw [List.getElem?_append_right q1] at hP
                have : (Option.some N).toList[i - M.length]? = none := List.getElem?_eq_none (by simp; omega)
                rw [this] at hP
                cases hP
        rw [nI_clamp (by omega), b72, b14 14]
        refine ⟨vp_in_nI (by omega) (by decide), fun z => ?_, fun z => ⟨vp_in_nI (by omega) (by decide), ?_⟩⟩
        · -- not harder
          rintro u rfl
          rw [nI_1]
          refine next s7 fr.rf ?_
          have keep : HaS s7 c.2.2.1 st := by
            cases st with
            | none => show fi s7 69 14 = -2; rw [b14]; exact h2
            | some r => exact ⟨by rw [b14]; exact h2.1, by rw [b14]; exact h2.2⟩
          cases hf : farC c N with
          | none => rw [hrdS_n hf]; exact keep
          | some m =>
            rw [hf] at z
            have hm4 := (hfa N hD).2 m hf
            cases st with
            | none =>
              have h2 : fi τ 69 14 = -2 := h2
              rw [h2] at z
              exact absurd (Int32.le_trans (nI_le (a := 0) (Nat.zero_le m) (by omega)) z) (by decide)
            | some r =>
              obtain ⟨rm, rf⟩ := hin r rfl
              have hr4 := (hfa r.1 (beg_dom hB rm)).2 _ rf
              rw [h2.1] at z
              have hle : m ≤ r.2 := (nI_leI (by omega) (by omega)).mp z
              rw [hrdS_s hf, if_neg (by omega)]; exact keep
        · -- harder
          rintro s9 e9 s10 e10 u rfl
          rw [nI_1]
          have f10 : fr [(69, 14), (69, 15)] [] s7 s10 := by rw [e10, e9]; exact (fr_sfi (by decide)).tr (fr_sfi (by decide))
          refine next s10 f10 ?_
          cases hf : farC c N with
          | none =>
            exfalso
            rw [hf] at z
            cases st with
            | none =>
              have h2 : fi τ 69 14 = -2 := h2
              rw [h2] at z
              exact z (by decide)
            | some r =>
              obtain ⟨rm, rf⟩ := hin r rfl
              have hr4 := (hfa r.1 (beg_dom hB rm)).2 _ rf
              rw [h2.1] at z
              exact z (Int32.le_trans (by decide : (-2 : Int32) ≤ nI 0) (nI_le (Nat.zero_le r.2) (by omega)))
          | some m =>
            have hm4 := (hfa N hD).2 m hf
            have hnew : HaS s10 c.2.2.1 (some (N, m)) := by
              refine ⟨?_, ?_⟩
              · rw [e10, fi_sfi, if_neg (by decide), e9, fi_sfi, if_pos ⟨rfl, rfl⟩, hf]; rfl
              · rw [e10, fi_sfi, if_pos ⟨rfl, rfl⟩]
            cases st with
            | none => rw [hrdS_0 hf]; exact hnew
            | some r =>
              obtain ⟨rm, rf⟩ := hin r rfl
              have hr4 := (hfa r.1 (beg_dom hB rm)).2 _ rf
              rw [hf, h2.1] at z
              have hlt : r.2 < m := Nat.not_le.mp (fun y => z (nI_le y (by omega)))
              rw [hrdS_s hf, if_pos hlt]; exact hnew
      · rw [if_neg q] at edk ⊢
        rw [edk, Option.toList_none, List.append_nil] at esk
        refine ⟨fun _ => ?_, fun z => absurd (by decide) z⟩
        rintro u rfl
        rw [nI_1]
        exact ih (k + 1) τ (by omega) hfr (by rw [esk]; exact h0) (by rw [esk]; exact h1) (by rw [esk]; exact h2)
  refine ko_PA_listBeginnings (sg_PA_listBeginnings_0 ?_)
  rintro s1 e1 s2 e2
  refine ⟨pk_in 0 7 (by decide), ?_⟩
  rintro s3 e3
  have f3 : fr [(69, 14), (69, 15)] [75, 76] σ s3 := by rw [e3, e2, e1]; exact ((fr_sfi (by decide)).tr (fr_sfi (by decide))).tr (fr_sai (by decide))
  refine k_SA_beginningsEnd (by omega) ?_
  refine go (n ^ c.2.2.1) 0 s3 (by omega) f3 ?_ (fun i P hP => by simp at hP) ?_
  · rw [e3, cl0, ai_sai, if_pos ⟨rfl, rfl⟩]; rfl
  · show fi s3 69 14 = -2
    rw [e3, fi_sai, e2, fi_sfi, if_neg (by decide), e1, fi_sfi, if_pos ⟨rfl, rfl⟩]
end
