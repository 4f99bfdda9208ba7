-- reading what was written
section
variable {σ : St} {i k a b : Nat}
theorem fi_sfi {v : Int32} : fi (sfi σ i k v) a b = if a = i ∧ b = k then v else fi σ a b := rfl
theorem fi_sfj {v : Int64} : fi (sfj σ i k v) = fi σ := rfl
theorem fi_sai {v : Int32} : fi (sai σ i k v) = fi σ := rfl
theorem fi_saj {v : Int64} : fi (saj σ i k v) = fi σ := rfl
theorem fi_rai {f : Nat → Int32} : fi (rai σ i f) = fi σ := rfl
theorem fj_sfi {v : Int32} : fj (sfi σ i k v) = fj σ := rfl
theorem fj_sfj {v : Int64} : fj (sfj σ i k v) a b = if a = i ∧ b = k then v else fj σ a b := rfl
theorem fj_sai {v : Int32} : fj (sai σ i k v) = fj σ := rfl
theorem fj_saj {v : Int64} : fj (saj σ i k v) = fj σ := rfl
theorem fj_rai {f : Nat → Int32} : fj (rai σ i f) = fj σ := rfl
theorem ai_sfi {v : Int32} : ai (sfi σ i k v) = ai σ := rfl
theorem ai_sfj {v : Int64} : ai (sfj σ i k v) = ai σ := rfl
theorem ai_sai {v : Int32} : ai (sai σ i k v) a b = if a = i ∧ b = k then v else ai σ a b := rfl
theorem ai_saj {v : Int64} : ai (saj σ i k v) = ai σ := rfl
theorem ai_raiN {f : Nat → Int32} : ai (rai σ i f) a = if a = i then f else ai σ a := rfl
theorem aj_sfi {v : Int32} : aj (sfi σ i k v) = aj σ := rfl
theorem aj_sfj {v : Int64} : aj (sfj σ i k v) = aj σ := rfl
theorem aj_sai {v : Int32} : aj (sai σ i k v) = aj σ := rfl
theorem aj_saj {v : Int64} : aj (saj σ i k v) a b = if a = i ∧ b = k then v else aj σ a b := rfl
theorem aj_rai {f : Nat → Int32} : aj (rai σ i f) = aj σ := rfl
end
/-- nothing but the fields in F and the rows in R has changed -/
def fr (F : List (Nat × Nat)) (R : List Nat) (σ τ : St) : Prop := (∀ i k, (i, k) ∉ F → fi τ i k = fi σ i k ∧ fj τ i k = fj σ i k) ∧ ∀ i, i ∉ R → ai τ i = ai σ i ∧ aj τ i = aj σ i
theorem fr.rf {F : List (Nat × Nat)} {R : List Nat} {σ : St} : fr F R σ σ := ⟨fun _ _ _ => ⟨rfl, rfl⟩, fun _ _ => ⟨rfl, rfl⟩⟩
theorem fr.tr {F : List (Nat × Nat)} {R : List Nat} {σ τ υ : St} (h1 : fr F R σ τ) (h2 : fr F R τ υ) : fr F R σ υ := ⟨fun i k h => ⟨(h2.1 i k h).1.trans (h1.1 i k h).1, (h2.1 i k h).2.trans (h1.1 i k h).2⟩, fun i h => ⟨(h2.2 i h).1.trans (h1.2 i h).1, (h2.2 i h).2.trans (h1.2 i h).2⟩⟩
theorem fr.mo {F F' : List (Nat × Nat)} {R R' : List Nat} {σ τ : St} (h : fr F R σ τ) (hF : ∀ q ∈ F, q ∈ F') (hR : ∀ q ∈ R, q ∈ R') : fr F' R' σ τ := ⟨fun i k q => h.1 i k (fun z => q (hF _ z)), fun i q => h.2 i (fun z => q (hR _ z))⟩
theorem fr_sfi {F : List (Nat × Nat)} {R : List Nat} {σ : St} {i k : Nat} {v : Int32} (hi : (i, k) ∈ F) : fr F R σ (sfi σ i k v) := ⟨fun a b h => ⟨by rw [fi_sfi, if_neg]; rintro ⟨rfl, rfl⟩; exact h hi, rfl⟩, fun _ _ => ⟨rfl, rfl⟩⟩
theorem fr_sfj {F : List (Nat × Nat)} {R : List Nat} {σ : St} {i k : Nat} {v : Int64} (hi : (i, k) ∈ F) : fr F R σ (sfj σ i k v) := ⟨fun a b h => ⟨rfl, by rw [fj_sfj, if_neg]; rintro ⟨rfl, rfl⟩; exact h hi⟩, fun _ _ => ⟨rfl, rfl⟩⟩
theorem fr_sai {F : List (Nat × Nat)} {R : List Nat} {σ : St} {i k : Nat} {v : Int32} (hi : i ∈ R) : fr F R σ (sai σ i k v) := ⟨fun _ _ _ => ⟨rfl, rfl⟩, fun a h => ⟨by funext b; rw [ai_sai, if_neg]; rintro ⟨rfl, -⟩; exact h hi, rfl⟩⟩
theorem fr_saj {F : List (Nat × Nat)} {R : List Nat} {σ : St} {i k : Nat} {v : Int64} (hi : i ∈ R) : fr F R σ (saj σ i k v) := ⟨fun _ _ _ => ⟨rfl, rfl⟩, fun a h => ⟨rfl, by funext b; rw [aj_saj, if_neg]; rintro ⟨rfl, -⟩; exact h hi⟩⟩
theorem fr_rai {F : List (Nat × Nat)} {R : List Nat} {σ : St} {i : Nat} {f : Nat → Int32} (hi : i ∈ R) : fr F R σ (rai σ i f) := ⟨fun _ _ _ => ⟨rfl, rfl⟩, fun a h => ⟨by rw [ai_raiN, if_neg]; rintro rfl; exact h hi, rfl⟩⟩
/-- numbers -/
theorem nI_pos0 {n : Nat} (h : n < 2 ^ 31) : ¬ nI n < 0 := nI_pos h
theorem nI_lit (n : Nat) : Int32.ofNat n = nI n := rfl
theorem sh_start : RB_BB_init 0 ++ RB_BM_init 151 = SH := by decide +kernel
