-- the class's search: what was seen
def sbit (w : Int64) (k : Nat) : Bool := w.toBitVec.getLsbD k
theorem sb_lN {m k : Nat} (hk : k < 64) : sbit (lN m) k = m.testBit k := by
  unfold sbit
  rw [wb_tb, BitVec.getLsbD_ofNat]
  simp [hk]
theorem sb_read {w : Int64} {k : Nat} (hk : k < 64) : ((w.toUInt64 >>> ((nI k).toInt64.toUInt64 &&& Int64.toUInt64 63)).toInt64 &&& 1 = 0) ↔ sbit w k = false := by
  obtain ⟨m, hm, rfl⟩ := wb_of w
  rw [wb_bit hm hk, sb_lN hk, Nat.testBit_eq_decide_div_mod_eq]
  have : lN (m / 2 ^ k % 2) = 0 ↔ m / 2 ^ k % 2 = 0 := pk_lEQ (b := 0) (by omega) (by decide)
  rw [this, decide_eq_false_iff_not]
  omega
theorem sb_set {w : Int64} {j k : Nat} (hj : j < 64) (hk : k < 64) : sbit (w ||| ((1 : Int64) <<< ((nI k).toInt64 &&& 63))) j = (sbit w j || decide (j = k)) := by
  obtain ⟨m, hm, rfl⟩ := wb_of w
  have e : (1 : Int64) <<< ((nI k).toInt64 &&& 63) = lN (2 ^ k) := by
    have := wb_shl 1 hk
    rw [Nat.one_mul] at this
    exact this
  rw [e, wb_or hm (Nat.pow_lt_pow_right (by decide) hk), sb_lN hj, sb_lN hj, Nat.testBit_or, Nat.testBit_two_pow]
  congr 1
  simp [eq_comm]
theorem sb_0 {k : Nat} : sbit 0 k = false := by
  unfold sbit
  show (0 : BitVec 64).getLsbD k = false
  simp
theorem seIx {S : Nat} (hS : S < 262144) : (nI S >>> ((6 : Int32) &&& 31)) &&& 4095 = nI (S / 64) := by
  have e : nI S >>> ((6 : Int32) &&& 31) = nI (S / 64) := pk_shrN (by omega) _ 6 (by decide)
  rw [e]
  have : nI (S / 64) &&& 4095 = nI (S / 64 % 4096) := pk_andN (by omega) (m := 4095) 12 rfl
  rw [this]
  congr 1
  omega
/-- the Search t holds these situations and has seen just these -/
def SeQ (t : Nat) (σ : St) (n : Nat) (F : Nat → Nat) : Prop := n ≤ 4000 ∧ fi σ t 4 = nI n ∧ (∀ i, i < n → ai σ (t + 1) i = nI (F i) ∧ F i < 262144) ∧ ∀ S, S < 262144 → (sbit (aj σ (t + 3) (S / 64)) (S % 64) = true ↔ ∃ i, i < n ∧ F i = S)
theorem se_out {t : Nat} (h : isSE t) : t ≠ 17 ∧ t + 1 ∉ [19, 20, 21, 26, 31, 36, 41, 46, 51] ∧ t + 2 ∉ [19, 20, 21, 26, 31, 36, 41, 46, 51] ∧ t + 3 ∉ [19, 20, 21, 26, 31, 36, 41, 46, 51] := by
  simp only [isSE, List.mem_cons, List.not_mem_nil, or_false] at h
  rcases h with rfl | rfl <;> decide
theorem SeQ.fr {t n : Nat} {σ τ : St} {F : Nat → Nat} {A : List (Nat × Nat)} {M : List Nat} (h : SeQ t σ n F) (hf : fr A M σ τ) (h4 : (t, 4) ∉ A) (h1 : t + 1 ∉ M) (h3 : t + 3 ∉ M) : SeQ t τ n F := by
  unfold SeQ at h ⊢
  rw [(hf.1 _ _ h4).1, (hf.2 _ h1).1, (hf.2 _ h3).2]
  exact h
section
variable {g : Gx} {σ : St} {t n : Nat} {F : Nat → Nat}
theorem k_SE_isSeen {Q : Int32 → St → Prop} {S : Nat} (ht : isSE t) (hq : SeQ t σ n F) (hS : S < 262144) (h1 : (∃ i, i < n ∧ F i = S) → Q 1 σ) (h0 : (¬ ∃ i, i < n ∧ F i = S) → Q 0 σ) : K_SE_isSeen g t (nI S) σ Q := by
  refine ko_SE_isSeen (sg_SE_isSeen_0 ht ?_)
  rw [seIx hS, nI_clamp (by omega), and63 (by omega), lg_cmp_eq, sb_read (by omega)]
  refine ⟨vp_in_nI (by omega) (by decide), fun q => h0 (fun z => ?_), fun q => h1 ?_⟩
  · rw [(hq.2.2.2 S hS).mpr z] at q; exact absurd q (by decide)
  · exact (hq.2.2.2 S hS).mp (by simpa using q)
theorem k_SE_note {Q : St → Prop} {S : Nat} {x : Int32} (ht : isSE t) (hq : SeQ t σ n F) (hn : n < 4000) (hS : S < 262144) (h : ∀ τ, fr [(t, 4)] [t + 1, t + 2, t + 3] σ τ → SeQ t τ (n + 1) (fun i => if i = n then S else F i) → (∀ i, ai τ (t + 2) i = if i = n then x else ai σ (t + 2) i) → Q τ) : K_SE_note g t (nI S) x σ Q := by
  obtain ⟨-, q1, q2, q3⟩ := id hq
  refine ko_SE_note (sg_SE_note_0 ht ?_)
  rw [q1]
  refine ⟨fun q => absurd q (nI_ge (b := 4000) hn (by decide)), fun _ => ⟨vp_in_nI hn (by decide), ?_⟩⟩
  rintro s1 rfl
  have e1 : fi (sai σ (t + 1) (nI n).toNatClampNeg (nI S)) t 4 = nI n := q1
  rw [e1]
  refine ⟨vp_in_nI hn (by decide), ?_⟩
  rintro s2 rfl s3 rfl
  rw [seIx hS, nI_clamp (by omega), nI_clamp (by omega), and63 (by omega)]
  refine ⟨vp_in_nI (by omega) (by decide), vp_in_nI (by omega) (by decide), ?_⟩
  rintro s4 e4
  have fs : fr [(t, 4)] [t + 1, t + 2, t + 3] σ s4 := by
    rw [e4]
    exact (((fr_sai (by simp)).tr (fr_sai (by simp))).tr (fr_sfi (by simp))).tr (fr_saj (by simp))
  refine h s4 fs ⟨by omega, ?_, fun i hi => ?_, fun S' hS' => ?_⟩ (fun i => ?_)
  · rw [e4]
    show (if t = t ∧ 4 = 4 then fi σ t 4 + 1 else _) = _
    rw [if_pos ⟨rfl, rfl⟩, q1, nI_1]
  · have e : ai s4 (t + 1) i = if i = n then nI S else ai σ (t + 1) i := by
      rw [e4]
      show ai (sai (sai σ (t + 1) n (nI S)) (t + 2) n x) (t + 1) i = _
      rw [ai_sai, if_neg (by omega), ai_sai]
      by_cases z : i = n
      · rw [if_pos ⟨rfl, z⟩, if_pos z]
      · rw [if_neg (fun y => z y.2), if_neg z]
    rw [e]
    dsimp only
    by_cases z : i = n
    · rw [if_pos z, if_pos z]; exact ⟨rfl, hS⟩
    · rw [if_neg z, if_neg z]; exact q2 i (by omega)
  · have e : ∀ j, aj s4 (t + 3) j = if j = S / 64 then (aj σ (t + 3) (S / 64) ||| ((1 : Int64) <<< ((nI (S % 64)).toInt64 &&& 63))) else aj σ (t + 3) j := by
      intro j
      rw [e4]
      rw [aj_saj]
      by_cases z : j = S / 64
      · rw [if_pos ⟨rfl, z⟩, if_pos z]; rfl
      · rw [if_neg (fun y => z y.2), if_neg z]; rfl
    rw [e]
    have old := q3 S' hS'
    have key : sbit (if S' / 64 = S / 64 then (aj σ (t + 3) (S / 64) ||| ((1 : Int64) <<< ((nI (S % 64)).toInt64 &&& 63))) else aj σ (t + 3) (S' / 64)) (S' % 64) = (sbit (aj σ (t + 3) (S' / 64)) (S' % 64) || decide (S' = S)) := by
      by_cases z : S' / 64 = S / 64
      · rw [if_pos z, sb_set (by omega) (by omega), z]
        congr 1
        rw [decide_eq_decide]
        omega
      · rw [if_neg z, decide_eq_false (show ¬ S' = S by intro y; exact z (by rw [y])), Bool.or_false]
    rw [key, Bool.or_eq_true, old, decide_eq_true_iff]
    constructor
    · rintro (⟨i, hi, hF⟩ | rfl)
      · exact ⟨i, by omega, by dsimp only; rw [if_neg (by omega)]; exact hF⟩
      · exact ⟨n, by omega, by dsimp only; rw [if_pos rfl]⟩
    · rintro ⟨i, hi, hF⟩
      dsimp only at hF
      by_cases z : i = n
      · rw [if_pos z] at hF; exact Or.inr hF.symm
      · rw [if_neg z] at hF; exact Or.inl ⟨i, by omega, hF⟩
  · rw [e4]
    show ai (sai (sai σ (t + 1) n (nI S)) (t + 2) n x) (t + 2) i = _
    rw [ai_sai]
    by_cases z : i = n
    · rw [if_pos ⟨rfl, z⟩, if_pos z]
    · rw [if_neg (fun y => z y.2), if_neg z, ai_sai, if_neg (by omega)]
theorem k_SE_forget {Q : St → Prop} (ht : isSE t) (hq : SeQ t σ n F) (h : ∀ τ, fr [(t, 4)] [t + 3] σ τ → SeQ t τ 0 F → Q τ) : K_SE_forget g t σ Q := by
  obtain ⟨q0, q1, q2, q3⟩ := id hq
  have go : ∀ (m i : Nat) (τ : St), i + m = n → fr [] [t + 3] σ τ → (∀ S, S < 262144 → (sbit (aj τ (t + 3) (S / 64)) (S % 64) = true → ∃ k, k < n ∧ F k = S ∧ ∀ l, l < i → F l / 64 ≠ S / 64)) → S_SE_forget_2 g Q τ t (nI i) := by
    intro m
    induction m with
    | zero =>
      intro i τ hi hf hs
      have e : i = n := by omega
      subst e
      refine sg_SE_forget_2 ht ?_
      rw [(hf.1 t 4 (by simp)).1, q1]
      refine ⟨fun _ => ?_, fun q => absurd (nI_le (Nat.le_refl _) (by omega)) q⟩
      rintro s1 e1
      refine h s1 (by rw [e1]; exact (hf.mo (by simp) (by simp)).tr (fr_sfi (by simp))) ⟨Nat.zero_le _, ?_, fun i hi => absurd hi (by omega), fun S hS => ⟨fun z => ?_, fun z => ?_⟩⟩
      · rw [e1, fi_sfi, if_pos ⟨rfl, rfl⟩]; rfl
      · rw [e1] at z
        obtain ⟨k, hk, hF, hl⟩ := hs S hS z
        exact absurd (by rw [hF]) (hl k hk)
      · obtain ⟨i, hi, -⟩ := z
        exact absurd hi (by omega)
    | succ m ih =>
      intro i τ hi hf hs
      obtain ⟨a1, a2⟩ := q2 i (by omega)
      refine sg_SE_forget_2 ht ?_
      rw [(hf.1 t 4 (by simp)).1, q1, nI_clamp (by omega), (hf.2 (t + 1) (by simp)).1, a1, seIx a2, nI_clamp (by omega)]
      refine ⟨fun q => absurd q (nI_ge (by omega) (by omega)), fun _ => ⟨vp_in_nI (by omega) (by decide), vp_in_nI (by omega) (by decide), ?_⟩⟩
      rintro s2 e2 u rfl
      rw [nI_1]
      refine ih (i + 1) s2 (by omega) (by rw [e2]; exact hf.tr (fr_saj (by simp))) (fun S hS z => ?_)
      rw [e2, aj_saj] at z
      by_cases y : S / 64 = F i / 64
      · rw [if_pos ⟨rfl, y⟩, sb_0] at z; exact absurd z (by decide)
      · rw [if_neg (fun v => y v.2)] at z
        obtain ⟨k, hk, hF, hl⟩ := hs S hS z
        refine ⟨k, hk, hF, fun l hlt => ?_⟩
        by_cases v : l = i
        · rw [v]; exact fun w => y w.symm
        · exact hl l (by omega)
  exact ko_SE_forget (sg_SE_forget_0 ht (go n 0 σ (Nat.zero_add _) fr.rf (fun S hS z => by
    obtain ⟨k, hk, hF⟩ := (q3 S hS).mp z
    exact ⟨k, hk, hF, fun l hl => absurd hl (by omega)⟩)))
end
