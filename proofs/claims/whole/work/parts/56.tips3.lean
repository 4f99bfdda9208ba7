-- the reference's tip, whole
def ordN (k : Nat → Int64) (P : Nat → Nat) : Nat → List Nat
  | 0 => []
  | b + 1 => ordS k P (ordN k P b) b
theorem ordI_len {k : Nat → Int64} {l : List Nat} {b : Nat} (h : l.length ≤ 2) : (ordI k l b).length = l.length + 1 := by
  match l, h with
  | [], _ => rfl
  | [a], _ => simp only [ordI]; split <;> rfl
  | [a, c], _ => simp only [ordI]; split <;> (try split) <;> rfl
  | _ :: _ :: _ :: _, h => exact absurd h (by simp)
theorem ordI_mem {k : Nat → Int64} {l : List Nat} {a b : Nat} (h : a ∈ ordI k l b) : a = b ∨ a ∈ l := by
  match l, h with
  | [], h => simp only [ordI, List.mem_cons, List.not_mem_nil, or_false] at h; exact Or.inl h
  | [c], h =>
    simp only [ordI] at h
    split at h
    · simp only [List.mem_cons, List.not_mem_nil, or_false] at h ⊢; exact h
    · simp only [List.mem_cons, List.not_mem_nil, or_false] at h ⊢; exact h.symm
  | [c, d], h =>
    simp only [ordI] at h
    split at h
    · split at h
      · simp only [List.mem_cons, List.not_mem_nil, or_false] at h ⊢; exact h
      · simp only [List.mem_cons, List.not_mem_nil, or_false] at h ⊢; rcases h with h | h | h
        · exact Or.inr (Or.inl h)
        · exact Or.inl h
        · exact Or.inr (Or.inr h)
    · simp only [List.mem_cons, List.not_mem_nil, or_false] at h ⊢; rcases h with h | h | h
      · exact Or.inr (Or.inl h)
      · exact Or.inr (Or.inr h)
      · exact Or.inl h
  | c :: d :: e :: l, h => exact Or.inr h
theorem ordN_len {k : Nat → Int64} {P : Nat → Nat} : ∀ {b : Nat}, b ≤ 3 → (ordN k P b).length ≤ b := by
  intro b
  induction b with
  | zero => intro _; exact Nat.le_refl _
  | succ b ih =>
    intro hb
    have := ih (by omega)
    unfold ordN ordS
    split
    · rw [ordI_len (by omega)]; omega
    · omega
theorem ordN_mem {k : Nat → Int64} {P : Nat → Nat} : ∀ {b a : Nat}, a ∈ ordN k P b → a < b ∧ P a < 36 := by
  intro b
  induction b with
  | zero => intro a h; cases h
  | succ b ih =>
    intro a h
    unfold ordN ordS at h
    split at h
    · rename_i q
      rcases ordI_mem h with rfl | h
      · exact ⟨Nat.lt_succ_self _, q⟩
      · exact ⟨Nat.lt_succ_of_lt (ih h).1, (ih h).2⟩
    · exact ⟨Nat.lt_succ_of_lt (ih h).1, (ih h).2⟩
theorem ordN_B {k : Nat → Int64} {P : Nat → Nat} {B : Nat} (hB : B ≤ 3) (h : ∀ b, B ≤ b → P b = 36) : ordN k P B = ordL k P := by
  have e3 : ordL k P = ordN k P 3 := rfl
  have st : ∀ b, B ≤ b → ordN k P (b + 1) = ordN k P b := fun b hb => by
    show ordS k P (ordN k P b) b = _
    unfold ordS
    rw [if_neg (by rw [h b hb]; decide)]
  rw [e3]
  rcases (show B = 0 ∨ B = 1 ∨ B = 2 ∨ B = 3 by omega) with rfl | rfl | rfl | rfl
  · rw [st 2 (by omega), st 1 (by omega), st 0 (by omega)]
  · rw [st 2 (by omega), st 1 (by omega)]
  · rw [st 2 (by omega)]
  · rfl
section
variable {g : Gx} {C R B : Nat} {K P : Nat → Nat}
theorem tips4 {Q : St → Prop} {w : Nat} {k : Nat → Int64} {σ : St} (hw : w < 4)
    (hrank : ∀ (τ : St) (b : Nat) (Q' : Int64 → St → Prop), fr [(151, 32)] [170, 171, 172, 173] σ τ → b < B → P b < 36 → (∀ υ, fr [(151, 32)] [170, 171] τ υ → Q' (k b) υ) → K_BM_rankOf g (nI b) (nI w) τ Q')
    (h : ∀ τ, fr [(151, 32), (151, 35), (151, 36)] [154, 170, 171, 172, 173] σ τ → RefB τ C R B K (tipF C R K k w P).1 → fi τ 151 35 = nI (tipF C R K k w P).2.1 → fi τ 151 36 = nI (tipF C R K k w P).2.2 → Q τ) : ∀ (f b : Nat) (τ : St), b + f = B → fr [(151, 32)] [170, 171, 172, 173] σ τ → RefB τ C R B K P → hoA (ai τ 172) 0 (ordN k P b) → (∀ a, a ∈ ordN k P b → aj τ 173 a = k a) → S_BM_tips_4 g Q τ (nI w) (nI (ordN k P b).length) (nI b) := by
  intro f
  induction f with
  | zero =>
    intro b τ hbf hfr hr hl hk
    have e : b = B := by omega
    subst e
    have hB3 := hr.1.2.2.2.2.2
    refine sg_BM_tips_4 ⟨vin8 (n := 2) rfl (by decide), ?_⟩
    rw [cl2, hr.1.2.2.1]
    refine ⟨fun _ => ?_, fun c => absurd (nI_le (Nat.le_refl _) (by omega)) c⟩
    rintro s1 rfl s2 rfl
    rw [ordN_B hB3 hr.2.2.2.1] at hl hk ⊢
    have hlen : (ordL k P).length ≤ 3 := by rw [← ordN_B hB3 hr.2.2.2.1]; have := ordN_len (k := k) (P := P) hB3; omega
    refine tips120 hw hlen (ordL k P) 0 (sfi (sfi τ 151 35 0) 151 36 0) (P, 0, 0) hl (fun x hx => ?_) (ordL_nodup k P) hr rfl rfl (Nat.zero_add _) (fun υ g1 g2 g3 g4 => h υ ?_ g2 g3 g4)
    · rw [← ordN_B hB3 hr.2.2.2.1] at hx
      exact ordN_mem hx
    · exact (hfr.mo (by decide) (by decide)).tr (((fr_sfi (by decide)).tr (fr_sfi (by decide))).tr (g1.mo (by decide) (by decide)))
  | succ f ih =>
    intro b τ hbf hfr hr hl hk
    have hbB : b < B := by omega
    have hB3 := hr.1.2.2.2.2.2
    have hP := hr.2.2.1 b hbB
    have hP38 := (hr.2.2.2.2 b).1
    have hlen := ordN_len (k := k) (P := P) (b := b) (by omega)
    refine sg_BM_tips_4 ⟨vin8 (n := 2) rfl (by decide), ?_⟩
    rw [cl2, hr.1.2.2.1]
    refine ⟨fun c => absurd c (nI_ge hbB (by omega)), fun _ => ⟨vp_in_nI (by omega) (by decide), ?_⟩⟩
    rw [nI_clamp (by omega), hP]
    refine ⟨fun c => ?_, fun c => ?_⟩
    · have h36 : ¬ P b < 36 := fun q => nI_ge (b := 36) q (by decide) c
      rintro u rfl
      rw [nI_1]
      have e : ordN k P (b + 1) = ordN k P b := by
        show ordS k P (ordN k P b) b = _
        unfold ordS
        rw [if_neg h36]
      have := ih (b + 1) τ (by omega) hfr hr (by rw [e]; exact hl) (by rw [e]; exact hk)
      rw [e] at this
      exact this
    · have h36 : P b < 36 := Nat.not_le.mp (fun q => c (nI_le q (by omega)))
      refine hrank τ b _ hfr hbB h36 (fun υ hυ => ⟨vp_in_nI (by omega) (by decide), ?_⟩)
      rintro s rfl
      have e : ordN k P (b + 1) = ordI k (ordN k P b) b := by
        show ordS k P (ordN k P b) b = _
        unfold ordS
        rw [if_pos h36]
      have r172 : ai (saj υ 173 b (k b)) 172 = ai τ 172 := (hυ.2 172 (by decide)).1
      have r173 : ∀ a, aj (saj υ 173 b (k b)) 173 a = if a = b then k b else aj τ 173 a := fun a => by
        rw [aj_saj, (hυ.2 173 (by decide)).2]
        simp
      have hmb : ∀ a, a ∈ ordN k P b → a ≠ b := fun a ha => Nat.ne_of_lt (ordN_mem ha).1
      have fs : fr [(151, 32)] [170, 171, 172, 173] σ (saj υ 173 b (k b)) := hfr.tr ((hυ.mo (by decide) (by decide)).tr (fr_saj (by decide)))
      refine tips_ins (k := k) (by rw [r172]; exact hl) (fun a ha => ⟨by have := (ordN_mem ha).1; omega, by rw [r173, if_neg (hmb a ha)]; exact hk a ha⟩) (by omega) (by rw [r173, if_pos rfl]) (by omega) (fun s2 f2 l2 => ?_)
      have hr0 : RefB υ C R B K P := hr.fr hυ (by decide) (by decide) (by decide)
      have hr1 : RefB s2 C R B K P := RefB.fr (σ := saj υ 173 b (k b)) hr0 f2 (by decide) (by decide) (by decide)
      have := ih (b + 1) s2 (by omega) (fs.tr (f2.mo (by decide) (by decide))) hr1 (by rw [e]; exact l2) (fun a ha => by
        rw [e] at ha
        rw [(f2.2 173 (by decide)).2, r173]
        rcases ordI_mem ha with rfl | ha
        · rw [if_pos rfl]
        · rw [if_neg (hmb a ha)]; exact hk a ha)
      rw [e, ordI_len (by omega)] at this
      exact this
theorem k_BM_tips {Q : St → Prop} {w : Nat} {k : Nat → Int64} {σ : St} (hw : w < 4) (hr : RefB σ C R B K P)
    (hrank : ∀ (τ : St) (b : Nat) (Q' : Int64 → St → Prop), fr [(151, 32)] [170, 171, 172, 173] σ τ → b < B → P b < 36 → (∀ υ, fr [(151, 32)] [170, 171] τ υ → Q' (k b) υ) → K_BM_rankOf g (nI b) (nI w) τ Q')
    (h : ∀ τ, fr [(151, 32), (151, 35), (151, 36)] [154, 170, 171, 172, 173] σ τ → RefB τ C R B K (tipF C R K k w P).1 → fi τ 151 35 = nI (tipF C R K k w P).2.1 → fi τ 151 36 = nI (tipF C R K k w P).2.2 → Q τ) : K_BM_tips g (nI w) σ Q :=
  ko_BM_tips (sg_BM_tips_0 (tips4 hw hrank h B 0 σ (Nat.zero_add _) fr.rf hr trivial (fun a ha => by cases ha)))
end
