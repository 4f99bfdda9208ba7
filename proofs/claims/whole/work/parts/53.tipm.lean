-- a tip in numbers: P b is the cell of ball b (36 home, 37 lost; 36 for a ball that is not there)
def upP (P : Nat → Nat) (b v : Nat) : Nat → Nat := fun i => if i = b then v else P i
def rolF (C R : Nat) (K P : Nat → Nat) (w b : Nat) : Nat × Nat := rollN C R K (fun d => P 0 = d ∨ P 1 = d ∨ P 2 = d) w 6 (P b)
def rol1 (C R : Nat) (K : Nat → Nat) (w : Nat) (st : (Nat → Nat) × Nat × Nat) (b : Nat) : (Nat → Nat) × Nat × Nat :=
  if 2 ≤ K (rolF C R K st.1 w b).2 then (upP st.1 b (if K (rolF C R K st.1 w b).2 = 2 + b then 36 else 37), st.2.1, st.2.2 + 1) else (upP st.1 b (rolF C R K st.1 w b).2, if 0 < (rolF C R K st.1 w b).1 then st.2.1 + 1 else st.2.1, st.2.2)
def ordI (k : Nat → Int64) (l : List Nat) (b : Nat) : List Nat := match l with
  | [] => [b]
  | [a] => if k b < k a then [b, a] else [a, b]
  | [a, c] => if k b < k c then (if k b < k a then [b, a, c] else [a, b, c]) else [a, c, b]
  | l => l
def ordS (k : Nat → Int64) (P : Nat → Nat) (l : List Nat) (b : Nat) : List Nat := if P b < 36 then ordI k l b else l
def ordL (k : Nat → Int64) (P : Nat → Nat) : List Nat := ordS k P (ordS k P (ordS k P [] 0) 1) 2
def tipF (C R : Nat) (K : Nat → Nat) (k : Nat → Int64) (w : Nat) (P : Nat → Nat) : (Nat → Nat) × Nat × Nat := (ordL k P).foldl (rol1 C R K w) (P, 0, 0)
theorem rollN_congr {C R : Nat} {K : Nat → Nat} {o1 o2 : Nat → Prop} [DecidablePred o1] [DecidablePred o2] {w : Nat} {L : Nat → Prop} (hL : ∀ a d, L a → nxt C R a w = some d → L d) (h : ∀ d, L d → (o1 d ↔ o2 d)) : ∀ (f a : Nat), L a → rollN C R K o1 w f a = rollN C R K o2 w f a := by
  intro f
  induction f with
  | zero => intro a _; rfl
  | succ f ih =>
    intro a ha
    rw [rollN, rollN]
    cases hn : nxt C R a w with
    | none => rfl
    | some d =>
      have hd := hL a d ha hn
      simp only [h d hd, ih d hd]
/-- what a ball comes to is a cell of which the kind is known -/
theorem rollN_in {C R : Nat} {K : Nat → Nat} {o1 : Nat → Prop} [DecidablePred o1] {w : Nat} {L : Nat → Prop} (hL : ∀ a d, L a → nxt C R a w = some d → L d) : ∀ (f a : Nat), L a → L (rollN C R K o1 w f a).2 := by
  intro f
  induction f with
  | zero => intro a h; exact h
  | succ f ih =>
    intro a ha
    rw [rollN]
    cases hn : nxt C R a w with
    | none => exact ha
    | some d =>
      have hd := hL a d ha hn
      simp only
      split
      · exact ha
      · split
        · exact hd
        · exact ih d hd
/-- it stays, or it comes to a cell that is free, no wall -/
theorem rollN_to {C R : Nat} {K : Nat → Nat} {o1 : Nat → Prop} [DecidablePred o1] {w : Nat} : ∀ (f a : Nat), (rollN C R K o1 w f a = (0, a)) ∨ (0 < (rollN C R K o1 w f a).1 ∧ K (rollN C R K o1 w f a).2 ≠ 1 ∧ ¬ o1 (rollN C R K o1 w f a).2) := by
  intro f
  induction f with
  | zero => intro a; exact Or.inl rfl
  | succ f ih =>
    intro a
    rw [rollN]
    cases hn : nxt C R a w with
    | none => exact Or.inl rfl
    | some d =>
      simp only
      by_cases h1 : K d = 1 ∨ o1 d
      · rw [if_pos h1]; exact Or.inl rfl
      · rw [if_neg h1]
        by_cases h2 : 2 ≤ K d
        · rw [if_pos h2]; exact Or.inr ⟨Nat.one_pos, fun q => h1 (Or.inl q), fun q => h1 (Or.inr q)⟩
        · rw [if_neg h2]
          refine Or.inr ⟨Nat.succ_pos _, ?_⟩
          rcases ih d with e | e
          · simp only [e]; exact ⟨fun q => h1 (Or.inl q), fun q => h1 (Or.inr q)⟩
          · exact e.2
theorem rollN_le {C R : Nat} {K : Nat → Nat} {o1 : Nat → Prop} [DecidablePred o1] {w : Nat} : ∀ (f a : Nat), (rollN C R K o1 w f a).1 ≤ f := by
  intro f
  induction f with
  | zero => intro a; exact Nat.le_refl _
  | succ f ih =>
    intro a
    rw [rollN]
    cases hn : nxt C R a w with
    | none => exact Nat.zero_le _
    | some d =>
      simp only
      split
      · exact Nat.zero_le _
      · split
        · omega
        · have := ih d; omega
/-- the line in which a cell lies by a way -/
def lnW (w c : Nat) : Nat := if w = 0 ∨ w = 2 then c % 6 else c / 6
theorem nxt_ln {C R w a d : Nat} (hC : C ≤ 6) (hw : w < 4) (h : nxt C R a w = some d) : lnW w d = lnW w a := by
  unfold nxt at h
  unfold lnW
  rcases (show w = 0 ∨ w = 1 ∨ w = 2 ∨ w = 3 by omega) with rfl | rfl | rfl | rfl
  · simp only [if_true] at h ⊢
    by_cases e : a / 6 = 0
    · rw [if_pos e] at h; cases h
    · rw [if_neg e] at h; cases h; simp; omega
  · simp only [if_neg (show ¬ (1 = 0) by decide), if_true] at h
    by_cases e : a % 6 + 1 < C
    · rw [if_pos e] at h; cases h; simp; omega
    · rw [if_neg e] at h; cases h
  · simp only [if_neg (show ¬ (2 = 0) by decide), if_neg (show ¬ (2 = 1) by decide), if_true] at h
    by_cases e : a / 6 + 1 < R
    · rw [if_pos e] at h; cases h; simp
    · rw [if_neg e] at h; cases h
  · simp only [if_neg (show ¬ (3 = 0) by decide), if_neg (show ¬ (3 = 1) by decide), if_neg (show ¬ (3 = 2) by decide)] at h
    by_cases e : a % 6 = 0
    · rw [if_pos e] at h; cases h
    · rw [if_neg e] at h; cases h; simp; omega
def canL (P : Nat → Nat) : List Nat := (if P 0 < 36 then [0] else []) ++ ((if P 1 < 36 then [1] else []) ++ (if P 2 < 36 then [2] else []))
theorem ordL_perm (k : Nat → Int64) (P : Nat → Nat) : (ordL k P).Perm (canL P) := by
  unfold ordL ordS canL
  by_cases h0 : P 0 < 36 <;> by_cases h1 : P 1 < 36 <;> by_cases h2 : P 2 < 36 <;> simp only [h0, h1, h2, if_true, if_false, ordI, List.nil_append, List.append_nil, List.cons_append]
  · by_cases q : k 1 < k 0
    · simp only [q, if_true]
      split
      · split <;> decide
      · decide
    · simp only [q, if_false]
      split
      · split <;> decide
      · decide
  · split <;> decide
  · split <;> decide
  · decide
  · split <;> decide
  · decide
  · decide
  · decide
theorem ordL_congr {k k' : Nat → Int64} {P : Nat → Nat} (h : ∀ a b, a < 3 → b < 3 → P a < 36 → P b < 36 → (k a < k b ↔ k' a < k' b)) : ordL k P = ordL k' P := by
  unfold ordL ordS
  by_cases h0 : P 0 < 36 <;> by_cases h1 : P 1 < 36 <;> by_cases h2 : P 2 < 36 <;> simp only [h0, h1, h2, if_true, if_false, ordI]
  · have e1 := h 1 0 (by decide) (by decide) h1 h0
    have e2 := h 2 0 (by decide) (by decide) h2 h0
    have e3 := h 2 1 (by decide) (by decide) h2 h1
    by_cases q : k' 1 < k' 0
    · simp only [e1, e2, e3, q, if_true]
    · simp only [e1, e2, e3, q, if_false]
  · have e1 := h 1 0 (by decide) (by decide) h1 h0
    simp only [e1]
  · have e2 := h 2 0 (by decide) (by decide) h2 h0
    simp only [e2]
  · have e3 := h 2 1 (by decide) (by decide) h2 h1
    simp only [e3]
theorem ordL_mem {k : Nat → Int64} {P : Nat → Nat} {b : Nat} (h : b ∈ ordL k P) : b < 3 ∧ P b < 36 := by
  have := (ordL_perm k P).mem_iff.mp h
  unfold canL at this
  simp only [List.mem_append] at this
  rcases this with q | q | q
  · split at q
    · rename_i z; simp at q; subst q; exact ⟨by decide, z⟩
    · cases q
  · split at q
    · rename_i z; simp at q; subst q; exact ⟨by decide, z⟩
    · cases q
  · split at q
    · rename_i z; simp at q; subst q; exact ⟨by decide, z⟩
    · cases q
theorem canL_nodup (P : Nat → Nat) : (canL P).Nodup := by
  unfold canL
  by_cases h0 : P 0 < 36 <;> by_cases h1 : P 1 < 36 <;> by_cases h2 : P 2 < 36 <;> simp only [h0, h1, h2, if_true, if_false] <;> decide
theorem ordL_nodup (k : Nat → Int64) (P : Nat → Nat) : (ordL k P).Nodup := (ordL_perm k P).nodup_iff.mpr (canL_nodup P)
section
variable {C R : Nat} {K P : Nat → Nat} {w : Nat}
/-- by itself -/
def solo (C R : Nat) (K P : Nat → Nat) (w b : Nat) : Nat × Nat := rollN C R K (fun d => P b = d) w 6 (P b)
def soloT (C R : Nat) (K P : Nat → Nat) (w b : Nat) : Nat := if 2 ≤ K (solo C R K P w b).2 then (if K (solo C R K P w b).2 = 2 + b then 36 else 37) else (solo C R K P w b).2
theorem fold_solo (hC : C ≤ 6) (hw : w < 4) (hm : ∀ a b, a < 3 → b < 3 → a ≠ b → P a < 36 → P b < 36 → lnW w (P a) ≠ lnW w (P b)) : ∀ (l : List Nat) (Q : Nat → Nat) (h f : Nat), l.Nodup → (∀ b, b ∈ l → b < 3 ∧ P b < 36 ∧ Q b = P b) → (∀ a, a < 3 → 36 ≤ Q a ∨ (P a < 36 ∧ Q a < 36 ∧ lnW w (Q a) = lnW w (P a))) → (∀ c d, c < 36 → nxt C R c w = some d → d < 36) → 
    l.foldl (rol1 C R K w) (Q, h, f) = (fun b => if b ∈ l then soloT C R K P w b else Q b, h + l.countP (fun b => ¬ 2 ≤ K (solo C R K P w b).2 ∧ 0 < (solo C R K P w b).1), f + l.countP (fun b => 2 ≤ K (solo C R K P w b).2)) := by
  intro l
  induction l with
  | nil => intro Q h f _ _ _ _; simp
  | cons b l ih =>
    intro Q h f hnd hl hQ h36
    obtain ⟨hb3, hb36, hQb⟩ := hl b List.mem_cons_self
    have hr : rolF C R K Q w b = solo C R K P w b := by
      unfold rolF solo
      rw [hQb]
      refine rollN_congr (L := fun d => d < 36 ∧ lnW w d = lnW w (P b)) (fun a d ha hn => ⟨h36 a d ha.1 hn, (nxt_ln hC hw hn).trans ha.2⟩) (fun d hd => ?_) 6 (P b) ⟨hb36, rfl⟩
      have key : ∀ a, a < 3 → (Q a = d ↔ (a = b ∧ P b = d)) := by
        intro a ha
        constructor
        · intro e
          by_cases eab : a = b
          · subst eab; exact ⟨rfl, by rw [← hQb]; exact e⟩
          · rcases hQ a ha with q | ⟨q1, q2, q3⟩
            · omega
            · rw [e, hd.2] at q3
              exact absurd q3.symm (hm a b ha hb3 eab q1 hb36)
        · rintro ⟨rfl, e⟩; rw [hQb]; exact e
      rw [key 0 (by decide), key 1 (by decide), key 2 (by decide)]
      rcases (show b = 0 ∨ b = 1 ∨ b = 2 by omega) with rfl | rfl | rfl <;> simp
    have hend : (solo C R K P w b).2 < 36 ∧ lnW w (solo C R K P w b).2 = lnW w (P b) := rollN_in (L := fun d => d < 36 ∧ lnW w d = lnW w (P b)) (fun a d ha hn => ⟨h36 a d ha.1 hn, (nxt_ln hC hw hn).trans ha.2⟩) 6 (P b) ⟨hb36, rfl⟩
    have hstep : rol1 C R K w (Q, h, f) b = (upP Q b (soloT C R K P w b), h + (if ¬ 2 ≤ K (solo C R K P w b).2 ∧ 0 < (solo C R K P w b).1 then 1 else 0), f + (if 2 ≤ K (solo C R K P w b).2 then 1 else 0)) := by
      unfold rol1 soloT
      simp only [hr]
      by_cases q : 2 ≤ K (solo C R K P w b).2
      · simp [q]
      · by_cases q2 : 0 < (solo C R K P w b).1
        · simp [q, q2]
        · simp [q, q2]
    rw [List.foldl_cons, hstep, ih _ _ _ (List.nodup_cons.mp hnd).2]
    · have hbl : b ∉ l := (List.nodup_cons.mp hnd).1
      refine Prod.ext ?_ (Prod.ext ?_ ?_)
      · funext x
        simp only [List.mem_cons, upP]
        by_cases e : x = b
        · subst e; simp [hbl]
        · simp [e]
      · simp only [List.countP_cons]
        simp only [decide_eq_true_eq]
        omega
      · simp only [List.countP_cons]
        simp only [decide_eq_true_eq]
        omega
    · intro x hx
      obtain ⟨a1, a2, a3⟩ := hl x (List.mem_cons_of_mem _ hx)
      refine ⟨a1, a2, ?_⟩
      have : x ≠ b := fun e => (List.nodup_cons.mp hnd).1 (e ▸ hx)
      simp only [upP, if_neg this, a3]
    · intro a ha
      by_cases e : a = b
      · subst e
        simp only [upP, if_true]
        unfold soloT
        split
        · left; split <;> decide
        · right; exact ⟨hb36, hend.1, hend.2⟩
      · simp only [upP, if_neg e]
        exact hQ a ha
    · exact h36
/-- where no two lie in one line, the order is nothing -/
theorem tip_indep {k k' : Nat → Int64} (hC : C ≤ 6) (hw : w < 4) (h36 : ∀ c d, c < 36 → nxt C R c w = some d → d < 36) (hm : ∀ a b, a < 3 → b < 3 → a ≠ b → P a < 36 → P b < 36 → lnW w (P a) ≠ lnW w (P b)) : tipF C R K k w P = tipF C R K k' w P := by
  have go : ∀ k, tipF C R K k w P = (fun b => if b ∈ canL P then soloT C R K P w b else P b, 0 + (canL P).countP (fun b => ¬ 2 ≤ K (solo C R K P w b).2 ∧ 0 < (solo C R K P w b).1), 0 + (canL P).countP (fun b => 2 ≤ K (solo C R K P w b).2)) := by
    intro k
    unfold tipF
    have hp := ordL_perm k P
    rw [fold_solo hC hw hm _ _ _ _ (ordL_nodup k P) (fun b hb => ⟨(ordL_mem hb).1, (ordL_mem hb).2, rfl⟩) (fun a _ => by
      by_cases q : P a < 36
      · exact Or.inr ⟨q, q, rfl⟩
      · exact Or.inl (Nat.not_lt.mp q)) h36]
    simp only [hp.mem_iff, hp.countP_eq]
  rw [go k, go k']
end
theorem nxt36 {C R w c d : Nat} (hC : C ≤ 6) (hR : R ≤ 6) (hw : w < 4) (hc : c < 36) (h : nxt C R c w = some d) : d < 36 := by
  unfold nxt at h
  rcases (show w = 0 ∨ w = 1 ∨ w = 2 ∨ w = 3 by omega) with rfl | rfl | rfl | rfl
  · simp only [if_true] at h
    by_cases e : c / 6 = 0
    · rw [if_pos e] at h; cases h
    · rw [if_neg e] at h; cases h; omega
  · simp only [if_neg (show ¬ (1 = 0) by decide), if_true] at h
    by_cases e : c % 6 + 1 < C
    · rw [if_pos e] at h; cases h; omega
    · rw [if_neg e] at h; cases h
  · simp only [if_neg (show ¬ (2 = 0) by decide), if_neg (show ¬ (2 = 1) by decide), if_true] at h
    by_cases e : c / 6 + 1 < R
    · rw [if_pos e] at h; cases h; omega
    · rw [if_neg e] at h; cases h
  · simp only [if_neg (show ¬ (3 = 0) by decide), if_neg (show ¬ (3 = 1) by decide), if_neg (show ¬ (3 = 2) by decide)] at h
    by_cases e : c % 6 = 0
    · rw [if_pos e] at h; cases h
    · rw [if_neg e] at h; cases h; omega
