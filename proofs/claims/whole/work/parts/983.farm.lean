-- how far each situation is: the reference
noncomputable def cntP (p : Nat → Prop) : Nat → Nat
  | 0 => 0
  | n + 1 => cntP p n + @ite _ (p n) (Classical.propDecidable _) 1 0
theorem cntP_s {p : Nat → Prop} {n : Nat} : cntP p (n + 1) = cntP p n + @ite _ (p n) (Classical.propDecidable _) 1 0 := rfl
theorem cntP_le {p : Nat → Prop} {n : Nat} : cntP p n ≤ n := by
  induction n with
  | zero => exact Nat.le_refl _
  | succ n ih =>
    rw [cntP_s]
    by_cases q : p n
    · rw [@if_pos _ (Classical.propDecidable _) q]; omega
    · rw [@if_neg _ (Classical.propDecidable _) q]; omega
theorem cntP_mono {p q : Nat → Prop} {n : Nat} (h : ∀ i, p i → q i) : cntP p n ≤ cntP q n := by
  induction n with
  | zero => exact Nat.le_refl _
  | succ n ih =>
    rw [cntP_s, cntP_s]
    by_cases z : p n
    · rw [@if_pos _ (Classical.propDecidable _) z, @if_pos _ (Classical.propDecidable _) (h n z)]; omega
    · rw [@if_neg _ (Classical.propDecidable _) z]; omega
theorem cntP_lt {p q : Nat → Prop} {n i : Nat} (h : ∀ i, p i → q i) (hi : i < n) (hn : ¬ p i) (hq : q i) : cntP p n + 1 ≤ cntP q n := by
  induction n with
  | zero => omega
  | succ n ih =>
    rw [cntP_s, cntP_s]
    by_cases e : i = n
    · rw [← e, @if_neg _ (Classical.propDecidable _) hn, @if_pos _ (Classical.propDecidable _) hq]
      have := cntP_mono (n := i) h
      omega
    · have := ih (by omega)
      by_cases z : p n
      · rw [@if_pos _ (Classical.propDecidable _) z, @if_pos _ (Classical.propDecidable _) (h n z)]; omega
      · rw [@if_neg _ (Classical.propDecidable _) z]; omega
theorem pig {Lv : Nat → Nat → Prop} {N : Nat} (hu : ∀ i a b, Lv a i → Lv b i → a = b) (m : Nat) (h : ∀ a, a ≤ m → ∃ i, i < N ∧ Lv a i) : m < N := by
  have go : ∀ k, k ≤ m → k + 1 ≤ cntP (fun i => ∃ a, a ≤ k ∧ Lv a i) N := by
    intro k
    induction k with
    | zero =>
      intro _
      obtain ⟨i, hi, hl⟩ := h 0 (by omega)
      have := cntP_lt (p := fun _ => False) (q := fun i => ∃ a, a ≤ 0 ∧ Lv a i) (n := N) (i := i) (fun _ q => q.elim) hi (fun q => q) ⟨0, Nat.le_refl _, hl⟩
      omega
    | succ k ih =>
      intro hk
      obtain ⟨i, hi, hl⟩ := h (k + 1) hk
      have := cntP_lt (p := fun i => ∃ a, a ≤ k ∧ Lv a i) (q := fun i => ∃ a, a ≤ k + 1 ∧ Lv a i) (n := N) (i := i) (fun _ ⟨a, ha, hl⟩ => ⟨a, by omega, hl⟩) hi (fun ⟨a, ha, hl'⟩ => by have := hu i a (k + 1) hl' hl; omega) ⟨k + 1, Nat.le_refl _, hl⟩
      have := ih (by omega)
      omega
  have := go m (Nat.le_refl _)
  have := cntP_le (p := fun i => ∃ a, a ≤ m ∧ Lv a i) (n := N)
  omega
/-- levels of a graph -/
def Dm {α : Type} (nx : α → Nat → α) (wh : α → Prop) : Nat → α → Prop
  | 0, s => wh s
  | m + 1, s => ∃ w, w < 4 ∧ Dm nx wh m (nx s w)
def Lst {α : Type} (nx : α → Nat → α) (wh : α → Prop) (m : Nat) (s : α) : Prop := Dm nx wh m s ∧ ∀ j, j < m → ¬ Dm nx wh j s
section
variable {α : Type} {nx : α → Nat → α} {wh : α → Prop}
theorem lst_un {s : α} {a b : Nat} (h : Lst nx wh a s) (h' : Lst nx wh b s) : a = b := by
  rcases Nat.lt_trichotomy a b with q | q | q
  · exact absurd h.1 (h'.2 a q)
  · exact q
  · exact absurd h'.1 (h.2 b q)
theorem lst_of {s : α} {m : Nat} (h : Dm nx wh m s) : ∃ j, j ≤ m ∧ Lst nx wh j s := by
  induction m using Nat.strongRecOn with
  | _ m ih =>
    by_cases q : ∃ j, j < m ∧ Dm nx wh j s
    · obtain ⟨j, hj, hd⟩ := q
      obtain ⟨i, hi, hl⟩ := ih j hj hd
      exact ⟨i, by omega, hl⟩
    · exact ⟨m, Nat.le_refl _, h, fun j hj hd => q ⟨j, hj, hd⟩⟩
theorem lst_s {s : α} {m : Nat} (h : Lst nx wh (m + 1) s) : ∃ w, w < 4 ∧ Lst nx wh m (nx s w) := by
  obtain ⟨⟨w, hw, hd⟩, hn⟩ := h
  exact ⟨w, hw, hd, fun j hj hd' => hn (j + 1) (by omega) ⟨w, hw, hd'⟩⟩
theorem lst_down {Dom : α → Prop} (hD : ∀ s w, Dom s → w < 4 → (∃ m, Dm nx wh m (nx s w)) → Dom (nx s w)) {m : Nat} {s : α} (hs : Dom s) (h : Lst nx wh m s) : ∀ j, j ≤ m → ∃ t, Dom t ∧ Lst nx wh j t := by
  induction m generalizing s with
  | zero => intro j hj; exact ⟨s, hs, by rw [show j = 0 by omega]; exact h⟩
  | succ m ih =>
    intro j hj
    by_cases e : j = m + 1
    · exact ⟨s, hs, by rw [e]; exact h⟩
    · obtain ⟨w, hw, hl⟩ := lst_s h
      exact ih (hD s w hs hw ⟨m, hl.1⟩) hl j (by omega)
/-- what the row of distances holds up to a level -/
def fcl (nx : α → Nat → α) (wh : α → Prop) (lv : Nat) (s : α) (v : Int32) : Prop := (∃ m, m ≤ lv ∧ Lst nx wh m s ∧ v = nI m) ∨ ((∀ m, m ≤ lv → ¬ Dm nx wh m s) ∧ v = -2)
theorem fcl_eq {lv n : Nat} {s : α} {v : Int32} (h : fcl nx wh lv s v) (hn : n ≤ lv) (hl : lv < 2 ^ 31) : v = nI n ↔ Lst nx wh n s := by
  rcases h with ⟨m, hm, hL, rfl⟩ | ⟨hN, rfl⟩
  · rw [nI_eq (by omega) (by omega)]
    exact ⟨fun e => e ▸ hL, fun q => lst_un hL q⟩
  · exact ⟨fun e => absurd e.symm (nI_n2 (by omega)), fun q => absurd q.1 (hN n hn)⟩
theorem fcl_2 {lv : Nat} {s : α} {v : Int32} (h : fcl nx wh lv s v) (hl : lv < 2 ^ 31) : v = -2 ↔ ∀ m, m ≤ lv → ¬ Dm nx wh m s := by
  rcases h with ⟨m, hm, hL, rfl⟩ | ⟨hN, rfl⟩
  · exact ⟨fun e => absurd e (nI_n2 (by omega)), fun q => absurd hL.1 (q m hm)⟩
  · exact ⟨fun _ => hN, fun _ => rfl⟩
theorem fcl_up {lv : Nat} {s : α} {v : Int32} (h : fcl nx wh lv s v) (hv : v ≠ -2) : fcl nx wh (lv + 1) s v := by
  rcases h with ⟨m, hm, hL, rfl⟩ | ⟨hN, rfl⟩
  · exact Or.inl ⟨m, by omega, hL, rfl⟩
  · exact absurd rfl hv
theorem fcl_new {lv : Nat} {s : α} {w : Nat} (h : ∀ m, m ≤ lv → ¬ Dm nx wh m s) (hw : w < 4) (hl : Lst nx wh lv (nx s w)) : Lst nx wh (lv + 1) s := ⟨⟨w, hw, hl.1⟩, fun j hj => h j (by omega)⟩
theorem fcl_not {lv : Nat} {s : α} (h : ∀ m, m ≤ lv → ¬ Dm nx wh m s) (hl : ∀ w, w < 4 → ¬ Lst nx wh lv (nx s w)) : ∀ m, m ≤ lv + 1 → ¬ Dm nx wh m s := by
  intro m hm hd
  by_cases e : m = lv + 1
  · subst e
    obtain ⟨w, hw, hd⟩ := hd
    obtain ⟨j, hj, hL⟩ := lst_of hd
    by_cases e : j = lv
    · exact hl w hw (e ▸ hL)
    · exact h (j + 1) (by omega) ⟨w, hw, hL.1⟩
  · exact h m (by omega) hd
end
noncomputable def farO {α : Type} (nx : α → Nat → α) (wh : α → Prop) (s : α) : Option Nat := @dite _ (∃ m, Lst nx wh m s) (Classical.propDecidable _) (fun h => some h.choose) (fun _ => none)
theorem farO_some {α : Type} {nx : α → Nat → α} {wh : α → Prop} {s : α} {m : Nat} : farO nx wh s = some m ↔ Lst nx wh m s := by
  unfold farO
  by_cases h : ∃ m, Lst nx wh m s
  · rw [@dif_pos _ (Classical.propDecidable _) h]
    exact ⟨fun e => by cases e; exact h.choose_spec, fun q => by rw [lst_un h.choose_spec q]⟩
  · rw [@dif_neg _ (Classical.propDecidable _) h]
    exact ⟨fun e => (by cases e), fun q => absurd ⟨m, q⟩ h⟩
theorem farO_none {α : Type} {nx : α → Nat → α} {wh : α → Prop} {s : α} : farO nx wh s = none ↔ ∀ m, ¬ Dm nx wh m s := by
  constructor
  · intro e m hd
    obtain ⟨j, _, hl⟩ := lst_of hd
    rw [farO_some.mpr hl] at e
    cases e
  · intro q
    cases e : farO nx wh s with
    | none => rfl
    | some m => exact absurd (farO_some.mp e).1 (q m)
def oT : Option Nat → Int32
  | some m => nI m
  | none => -2
theorem dm_map {α β : Type} {nx : α → Nat → α} {wh : α → Prop} {nx' : β → Nat → β} {wh' : β → Prop} {f : α → β} {Dom : α → Prop} (hD : ∀ s w, Dom s → w < 4 → Dom (nx s w)) (hw : ∀ s, Dom s → (wh s ↔ wh' (f s))) (hn : ∀ s w, Dom s → w < 4 → nx' (f s) w = f (nx s w)) (m : Nat) : ∀ s, Dom s → (Dm nx wh m s ↔ Dm nx' wh' m (f s)) := by
  induction m with
  | zero => exact hw
  | succ m ih =>
    intro s hs
    constructor
    · rintro ⟨w, h4, hd⟩
      exact ⟨w, h4, by rw [hn s w hs h4]; exact (ih _ (hD s w hs h4)).mp hd⟩
    · rintro ⟨w, h4, hd⟩
      rw [hn s w hs h4] at hd
      exact ⟨w, h4, (ih _ (hD s w hs h4)).mpr hd⟩
theorem farO_map {α β : Type} {nx : α → Nat → α} {wh : α → Prop} {nx' : β → Nat → β} {wh' : β → Prop} {s : α} {t : β} (h : ∀ m, Dm nx wh m s ↔ Dm nx' wh' m t) : farO nx wh s = farO nx' wh' t := by
  cases e : farO nx' wh' t with
  | none => rw [farO_none] at e ⊢; exact fun m q => e m ((h m).mp q)
  | some m =>
    rw [farO_some] at e ⊢
    exact ⟨(h m).mpr e.1, fun j hj q => e.2 j hj ((h j).mp q)⟩
def whS (B s : Nat) : Prop := allH (sdP B s)
def FarM (σ : St) (c : Cfg) : Prop := ∀ s, s < 1444 → ai σ 184 s = oT (farO (nxS c) (whS c.2.2.1) s) ∧ ∀ m, farO (nxS c) (whS c.2.2.1) s = some m → m < 1444
theorem nxS_lt {c : Cfg} {s w : Nat} (hB : c.2.2.1 ≤ 2) (hC : c.1 ≤ 6) (hR : c.2.1 ≤ 6) (hw : w < 4) (hT : ∀ P, okW c.1 c.2.1 c.2.2.1 P → okW c.1 c.2.1 c.2.2.1 (tipC c w P).1) : nxS c s w < 1444 := by
  by_cases q : okW c.1 c.2.1 c.2.2.1 (sdP c.2.2.1 s)
  · rw [nxS_ok q]; exact smP_lt2 hB (fun b => ((hT _ q).2 b).1)
  · rw [nxS_no q]; exact smP_lt2 hB (fun b => sdP_lt)
