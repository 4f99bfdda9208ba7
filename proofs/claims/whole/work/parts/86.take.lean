-- a State taken over by another; one kind changed; spots and cells
theorem sa_dis {t u : Nat} (ht : isSA t) (hu : isSA u) (h : t ≠ u) : t + 5 ≤ u ∨ u + 5 ≤ t := by
  have k : ∀ t ∈ ([4, 57, 83, 91, 96, 101, 106, 111, 116, 121, 126, 131, 136, 141, 146] : List Nat), ∀ u ∈ ([4, 57, 83, 91, 96, 101, 106, 111, 116, 121, 126, 131, 136, 141, 146] : List Nat), t ≠ u → t + 5 ≤ u ∨ u + 5 ≤ t := by decide
  exact k t ht u hu h
theorem clsS_toT {t : Nat} {σ : St} {d : Dat} {nr : Nat} {Ru : Nat → RuleT} (h : ClsS t σ d) (ho : OkD nr d) (hr : RulC σ nr Ru) : ClsT t σ (cfg Ru d) := by
  refine ⟨h.2.1, h.2.2.2.1, ?_⟩
  have hf := h.2.2.2.2.2.2.2.2.1
  have hv := ho.2.2.2.2.2.2.2.2.2
  unfold cfg FoC
  dsimp only
  cases hq : vf d with
  | none => rw [hq] at hf; exact hf
  | some i =>
    rw [hq] at hf
    have hi := hv i hq
    have h6 := hr.1
    exact ⟨i, by omega, hf, by rw [hr.2.1]; exact nI_ge hi (by omega), (hr.2.2 i hi).1, (hr.2.2 i hi).2⟩
section
variable {g : Gx} {σ : St}
theorem c64 : (64 : Int32).toNatClampNeg = 64 := rfl
theorem c8 : (8 : Int32).toNatClampNeg = 8 := rfl
/-- takeBox: only the box -/
theorem k_SA_takeBox {Q : St → Prop} {t u : Nat} (ht : isSA t) (hu : isSA u) (hne : t ≠ u) (h : ∀ τ, fr [(t, 2), (t, 3), (t, 4), (t, 5)] [t + 1, t + 2] σ τ → fi τ t 2 = fi σ u 2 → fi τ t 3 = fi σ u 3 → fi τ t 4 = fi σ u 4 → fi τ t 5 = fi σ u 5 → (∀ k, k < 64 → ai τ (t + 1) k = ai σ (u + 1) k) → (∀ k, k < 3 → ai τ (t + 2) k = ai σ (u + 2) k) → Q τ) : K_SA_takeBox g t u σ Q := by
  have hd := sa_dis ht hu hne
  refine ko_SA_takeBox (sg_SA_takeBox_0 ht hu ?_)
  rintro s1 e1 s2 e2 s3 e3 s4 e4 s5 e5 s6 e6
  rw [cl0, c64] at e1
  rw [cl0, cl3] at e2
  have f1 : fr [(t, 2), (t, 3), (t, 4), (t, 5)] [t + 1, t + 2] σ s1 := by rw [e1]; exact fr_rai (by simp)
  have f2 : fr [(t, 2), (t, 3), (t, 4), (t, 5)] [t + 1, t + 2] s1 s2 := by rw [e2]; exact fr_rai (by simp)
  have f3 : fr [(t, 2), (t, 3), (t, 4), (t, 5)] [t + 1, t + 2] s2 s3 := by rw [e3]; exact fr_sfi (by simp)
  have f4 : fr [(t, 2), (t, 3), (t, 4), (t, 5)] [t + 1, t + 2] s3 s4 := by rw [e4]; exact fr_sfi (by simp)
  have f5 : fr [(t, 2), (t, 3), (t, 4), (t, 5)] [t + 1, t + 2] s4 s5 := by rw [e5]; exact fr_sfi (by simp)
  have f6 : fr [(t, 2), (t, 3), (t, 4), (t, 5)] [t + 1, t + 2] s5 s6 := by rw [e6]; exact fr_sfi (by simp)
  have nu : ∀ k, (u, k) ∉ [(t, 2), (t, 3), (t, 4), (t, 5)] := fun k => by simp; omega
  refine h s6 (((((f1.tr f2).tr f3).tr f4).tr f5).tr f6) ?_ ?_ ?_ ?_ (fun k hk => ?_) (fun k hk => ?_)
  · rw [e6, fi_sfi, if_neg (by omega), e5, fi_sfi, if_neg (by omega), e4, fi_sfi, if_neg (by omega), e3, fi_sfi, if_pos ⟨rfl, rfl⟩, (f2.1 u 2 (nu 2)).1, (f1.1 u 2 (nu 2)).1]
  · rw [e6, fi_sfi, if_neg (by omega), e5, fi_sfi, if_neg (by omega), e4, fi_sfi, if_pos ⟨rfl, rfl⟩, (f3.1 u 3 (nu 3)).1, (f2.1 u 3 (nu 3)).1, (f1.1 u 3 (nu 3)).1]
  · rw [e6, fi_sfi, if_neg (by omega), e5, fi_sfi, if_pos ⟨rfl, rfl⟩, (f4.1 u 4 (nu 4)).1, (f3.1 u 4 (nu 4)).1, (f2.1 u 4 (nu 4)).1, (f1.1 u 4 (nu 4)).1]
  · rw [e6, fi_sfi, if_pos ⟨rfl, rfl⟩, (f5.1 u 5 (nu 5)).1, (f4.1 u 5 (nu 5)).1, (f3.1 u 5 (nu 5)).1, (f2.1 u 5 (nu 5)).1, (f1.1 u 5 (nu 5)).1]
  · have : ai s6 (t + 1) = ai s2 (t + 1) := by rw [e6, e5, e4, e3]; rfl
    rw [this, e2, ai_raiN, if_neg (by omega), e1, ai_raiN, if_pos rfl]
    exact sb_cpy0 hk
  · have : ai s6 (t + 2) = ai s2 (t + 2) := by rw [e6, e5, e4, e3]; rfl
    rw [this, e2, ai_raiN, if_pos rfl]
    have : va_cpy (ai s1 (u + 2)) (ai s1 (t + 2)) 0 0 3 k = ai s1 (u + 2) k := sb_cpy0 hk
    rw [this, e1, ai_raiN, if_neg (by omega)]
theorem clsB_copy {τ : St} {t u C R B : Nat} {K : Nat → Nat} (h : ClsB u σ C R B K) (h2 : fi τ t 2 = fi σ u 2) (h3 : fi τ t 3 = fi σ u 3) (h4 : fi τ t 4 = fi σ u 4) (hk : ∀ k, k < 64 → ai τ (t + 1) k = ai σ (u + 1) k) (hh : ∀ k, k < 3 → ai τ (t + 2) k = ai σ (u + 2) k) : ClsB t τ C R B K := by
  obtain ⟨⟨a, b, c⟩, hd, ⟨g1, g2⟩, hH⟩ := h
  refine ⟨⟨h2.trans a, h3.trans b, h4.trans c⟩, hd, ⟨fun x hx hy => ?_, fun p hp hno => ?_⟩, fun k hk' => ⟨fun x hx hy e => ?_, fun hno => ?_⟩⟩
  · have hlt := spc_lt (c := x) (by omega)
    rw [hk _ hlt]; exact g1 x hx hy
  · rw [hk _ hp]; exact g2 p hp hno
  · rw [hh _ hk']; exact (hH k hk').1 x hx hy e
  · rw [hh _ hk']; exact (hH k hk').2 hno
theorem k_SA_takeOver {Q : St → Prop} {t u nr : Nat} {d : Dat} (ht : isSA t) (hu : isSA u) (hne : t ≠ u) (hs : ClsS u σ d) (ho : OkD nr d) (h : ∀ τ, fr [(t, 1), (t, 2), (t, 3), (t, 4), (t, 5), (t, 6), (t, 7), (t, 8), (t, 9), (t, 10)] [t + 1, t + 2, t + 3, t + 4] σ τ → ClsS t τ d → Q τ) : K_SA_takeOver g t u σ Q := by
  have hd := sa_dis ht hu hne
  obtain ⟨s1, s2, s3, s4, s5, s6, s7, s8, s9, s10⟩ := id hs
  refine ko_SA_takeOver (sg_SA_takeOver_0 ht hu (k_SA_takeBox ht hu hne (fun τ f0 a2 a3 a4 a5 ak ah => ?_)))
  have nu : ∀ k, (u, k) ∉ [(t, 2), (t, 3), (t, 4), (t, 5)] := fun k => by simp; omega
  have hu1 : fi τ u 1 = if vC d = 0 then 0 else 1 := by rw [(f0.1 u 1 (nu 1)).1]; exact s1
  refine ⟨by rw [hu1]; split <;> simp, ?_⟩
  rintro t2 e2 t3 e3 t4 e4 t5 e5 t6 e6 t7 e7 t8 e8 t9 e9
  rw [cl0, c8] at e8 e9
  have cb : ClsB t τ (vC d) (vR d) (vB d) (vK d) := clsB_copy s2 a2 a3 a4 ak ah
  have f7 : fr [(t, 1), (t, 6), (t, 7), (t, 8), (t, 9), (t, 10)] [] τ t7 := by
    rw [e7, e6, e5, e4, e3, e2]
    exact (((((fr_sfi (by simp)).tr (fr_sfi (by simp))).tr (fr_sfi (by simp))).tr (fr_sfi (by simp))).tr (fr_sfi (by simp))).tr (fr_sfi (by simp))
  have f9 : fr [] [t + 3, t + 4] t7 t9 := by rw [e9, e8]; exact (fr_rai (by simp)).tr (fr_rai (by simp))
  have nu2 : ∀ k, (u, k) ∉ [(t, 1), (t, 6), (t, 7), (t, 8), (t, 9), (t, 10)] := fun k => by simp; omega
  have rd : ∀ k, fi τ u k = fi σ u k := fun k => (f0.1 u k (nu k)).1
  have v1 : fi t7 t 1 = fi σ u 1 := by
    rw [e7, fi_sfi, if_neg (by omega), e6, fi_sfi, if_neg (by omega), e5, fi_sfi, if_neg (by omega), e4, fi_sfi, if_neg (by omega), e3, fi_sfi, if_neg (by omega), e2, fi_sfi, if_pos ⟨rfl, rfl⟩]; exact rd 1
  have v6 : fi t7 t 6 = fi σ u 6 := by
    rw [e7, fi_sfi, if_neg (by omega), e6, fi_sfi, if_neg (by omega), e5, fi_sfi, if_neg (by omega), e4, fi_sfi, if_neg (by omega), e3, fi_sfi, if_pos ⟨rfl, rfl⟩, e2, fi_sfi, if_neg (by omega)]; exact rd 6
  have v7 : fi t7 t 7 = fi σ u 7 := by
    rw [e7, fi_sfi, if_neg (by omega), e6, fi_sfi, if_neg (by omega), e5, fi_sfi, if_neg (by omega), e4, fi_sfi, if_pos ⟨rfl, rfl⟩, e3, fi_sfi, if_neg (by omega), e2, fi_sfi, if_neg (by omega)]; exact rd 7
  have v8 : fi t7 t 8 = fi σ u 8 := by
    rw [e7, fi_sfi, if_neg (by omega), e6, fi_sfi, if_neg (by omega), e5, fi_sfi, if_pos ⟨rfl, rfl⟩, e4, fi_sfi, if_neg (by omega), e3, fi_sfi, if_neg (by omega), e2, fi_sfi, if_neg (by omega)]; exact rd 8
  have v9 : fi t7 t 9 = fi σ u 9 := by
    rw [e7, fi_sfi, if_neg (by omega), e6, fi_sfi, if_pos ⟨rfl, rfl⟩, e5, fi_sfi, if_neg (by omega), e4, fi_sfi, if_neg (by omega), e3, fi_sfi, if_neg (by omega), e2, fi_sfi, if_neg (by omega)]; exact rd 9
  have v10 : fi t7 t 10 = fi σ u 10 := by
    rw [e7, fi_sfi, if_pos ⟨rfl, rfl⟩, e6, fi_sfi, if_neg (by omega), e5, fi_sfi, if_neg (by omega), e4, fi_sfi, if_neg (by omega), e3, fi_sfi, if_neg (by omega), e2, fi_sfi, if_neg (by omega)]; exact rd 10
  have r3 : ∀ k, k < 8 → ai t9 (t + 3) k = ai σ (u + 3) k := fun k hk => by
    rw [e9, ai_raiN, if_neg (by omega), e8, ai_raiN, if_pos rfl]
    have : va_cpy (ai t7 (u + 3)) (ai t7 (t + 3)) 0 0 8 k = ai t7 (u + 3) k := sb_cpy0 hk
    rw [this, (f7.2 (u + 3) (by simp)).1, (f0.2 (u + 3) (by simp; omega)).1]
  have r4 : ∀ k, k < 8 → ai t9 (t + 4) k = ai σ (u + 4) k := fun k hk => by
    rw [e9, ai_raiN, if_pos rfl]
    have : va_cpy (ai t8 (u + 4)) (ai t8 (t + 4)) 0 0 8 k = ai t8 (u + 4) k := sb_cpy0 hk
    rw [this, e8, ai_raiN, if_neg (by omega), (f7.2 (u + 4) (by simp)).1, (f0.2 (u + 4) (by simp; omega)).1]
  have k9 : ∀ k, fi t9 t k = fi t7 t k := fun k => (f9.1 t k (by simp)).1
  have hn8 := ho.2.2.2.2.1
  have hm8 := ho.2.2.2.2.2.2.1
  refine h t9 ((f0.mo (by simp) (by simp)).tr ((f7.mo (by simp) (by simp)).tr (f9.mo (by simp) (by simp)))) ⟨?_, ?_, ?_, ?_, ?_, fun k hk => ?_, ?_, fun k hk => ?_, ?_, ?_⟩
  · rw [k9, v1]; exact s1
  · exact (cb.fr f7 (by simp) (by simp) (by simp) (by simp) (by simp)).fr f9 (by simp) (by simp) (by simp) (by simp) (by simp)
  · rw [k9, (f7.1 t 5 (by simp)).1, a5]; exact s3
  · rw [k9, v6]; exact s4
  · rw [k9, v7]; exact s5
  · rw [r3 k (by omega)]; exact s6 k hk
  · rw [k9, v8]; exact s7
  · rw [r4 k (by omega)]; exact s8 k hk
  · rw [k9, v9]; exact s9
  · rw [k9, v10]; exact s10
/-- one cell made plain or a wall -/
theorem clsB_set {t C R B x v : Nat} {K : Nat → Nat} (h : ClsB t σ C R B K) (hx : x % 6 < C) (hy : x / 6 < R) (hk : K x ≤ 1) (hv : v ≤ 1) : ClsB t (sai σ (t + 1) (spc x) (nI v)) C R B (upP K x v) := by
  obtain ⟨hd, ⟨hC, hR, hB⟩, ⟨g1, g2⟩, hH⟩ := h
  have hx36 : x < 36 := by omega
  refine ⟨hd, ⟨hC, hR, hB⟩, ⟨fun y h1 h2 => ?_, fun p hp hno => ?_⟩, fun k hk' => ⟨fun y h1 h2 e => ?_, fun hno => ?_⟩⟩
  · rw [ai_sai]
    by_cases e : y = x
    · rw [e, if_pos ⟨rfl, rfl⟩, upP_same]; exact ⟨rfl, by omega⟩
    · rw [if_neg (fun q => e (spc_inj q.2 (by omega) hx36)), upP_ne e]; exact g1 y h1 h2
  · rw [ai_sai, if_neg (fun q => hno x hx hy q.2)]; exact g2 p hp hno
  · rw [ai_sai, if_neg (by omega)]
    by_cases z : y = x
    · rw [z, upP_same] at e; omega
    · rw [upP_ne z] at e; exact (hH k hk').1 y h1 h2 e
  · rw [ai_sai, if_neg (by omega)]
    refine (hH k hk').2 (fun y h1 h2 e => hno y h1 h2 ?_)
    by_cases z : y = x
    · rw [z] at e; omega
    · rw [upP_ne z]; exact e
theorem upP_back {K : Nat → Nat} {x v : Nat} : upP (upP K x v) x (K x) = K := by
  funext y
  unfold upP
  split
  · rename_i e; rw [e]
  · rfl
end
/-- how many cells lie before a spot -/
def nSp (p : Nat) : Nat := if p < 8 then 0 else if 56 ≤ p then 36 else 6 * (p / 8 - 1) + (if p % 8 = 0 then 0 else if p % 8 = 7 then 6 else p % 8 - 1)
theorem spot_cases {p : Nat} (hp : p < 64) : (∃ x, x < 36 ∧ spc x = p ∧ nSp p = x ∧ nSp (p + 1) = x + 1) ∨ ((∀ x, x < 36 → p ≠ spc x) ∧ nSp (p + 1) = nSp p) := by
  by_cases q : 8 ≤ p ∧ p < 56 ∧ p % 8 ≠ 0 ∧ p % 8 ≠ 7
  · obtain ⟨h1, h2, h3, h4⟩ := q
    left
    refine ⟨6 * (p / 8 - 1) + (p % 8 - 1), by omega, by unfold spc; omega, ?_, ?_⟩
    · unfold nSp
      rw [if_neg (by omega), if_neg (by omega), if_neg h3, if_neg h4]
    · unfold nSp
      rw [if_neg (by omega)]
      by_cases e : 56 ≤ p + 1
      · omega
      · rw [if_neg e, if_neg (by omega)]
        by_cases e2 : (p + 1) % 8 = 7
        · rw [if_pos e2]; omega
        · rw [if_neg e2]; omega
  · right
    refine ⟨fun x hx e => q (by unfold spc at e; omega), ?_⟩
    unfold nSp
    by_cases a : p + 1 < 8
    · rw [if_pos a, if_pos (by omega)]
    · rw [if_neg a]
      by_cases b : p < 8
      · rw [if_pos b, if_neg (by omega), if_pos (by omega)]; omega
      · rw [if_neg b]
        by_cases c : 56 ≤ p
        · rw [if_pos c, if_pos (by omega)]
        · rw [if_neg c]
          by_cases e : 56 ≤ p + 1
          · rw [if_pos e]
            have : p % 8 = 7 := by omega
            rw [if_neg (by omega), if_pos this]; omega
          · rw [if_neg e]
            by_cases z : p % 8 = 0
            · rw [if_pos z, if_neg (by omega), if_neg (by omega)]; omega
            · have z7 : p % 8 = 7 := by omega
              rw [if_neg z, if_pos z7, if_pos (by omega)]; omega
