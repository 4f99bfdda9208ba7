-- String's methods over the constants
section
variable {g : Gx} {σ : St} {w : Nat}
theorem slen_lt : ∀ i, i < 16 → slen.getD i 0 = (sbyt.getD i []).length ∧ slen.getD i 0 < 2 ^ 31 ∧ slen.getD i 0 ≤ 65 := by decide +kernel
theorem k_JS_coder {Q : Int32 → St → Prop} (hw : w < 16) (h : Q 0 σ) : K_JS_coder g w σ Q := ko_JS_coder (sg_JS_coder_0 hw ⟨rfl, h⟩)
theorem k_JS_length {Q : Int32 → St → Prop} (hw : w < 16) (h : Q (nI (slen.getD w 0)) σ) : K_JS_length g w σ Q := ko_JS_length (sg_JS_length_0 hw (k_JS_coder hw (by
  show Q (nI (slen.getD w 0) >>> ((0 : Int32) &&& 31)) σ
  rw [sb_shr0]
  exact h)))
theorem k_JS_isLatin1 {Q : Int32 → St → Prop} (hw : w < 16) (h : Q 1 σ) : K_JS_isLatin1 g w σ Q := ko_JS_isLatin1 (sg_JS_isLatin1_0 hw h)
theorem k_JP_checkIndex {Q : Int32 → St → Prop} {x y : Int32} {f : Nat} (h0 : ¬ x < 0) (h1 : x < y) (h : Q x σ) : K_JP_checkIndex g x y f σ Q := ko_JP_checkIndex (sg_JP_checkIndex_0 ⟨fun c => absurd c h0, fun _ => ⟨fun _ => h, fun c => absurd h1 c⟩⟩)
theorem k_JP_checkIndexN {Q : Int32 → St → Prop} {x y : Int32} (h0 : ¬ x < 0) (h1 : x < y) (h : Q x σ) : K_JP_checkIndexN g x y σ Q := ko_JP_checkIndexN (sg_JP_checkIndexN_0 ⟨fun c => absurd c h0, fun _ => ⟨fun _ => h, fun c => absurd h1 c⟩⟩)
theorem k_JS_checkIndex {Q : St → Prop} {x y : Int32} (h0 : ¬ x < 0) (h1 : x < y) (h : Q σ) : K_JS_checkIndex g x y σ Q := ko_JS_checkIndex (sg_JS_checkIndex_0 ⟨fun _ => k_JP_checkIndex h0 h1 h, k_JP_checkIndexN h0 h1 h⟩)
theorem k_JL_charAt {Q : Int32 → St → Prop} {k : Nat} (hw : w < 16) (hk : k < slen.getD w 0) (h : Q ((sbyt.getD w []).getD k 0 &&& 255) σ) : K_JL_charAt g w (nI k) σ Q := by
  obtain ⟨e1, e2, -⟩ := slen_lt w hw
  refine ko_JL_charAt (sg_JL_charAt_0 hw (k_JS_checkIndex (nI_pos (by omega)) (nI_lt hk e2) ⟨vp_in_nI hk e2, ?_⟩))
  rw [nI_clamp (by omega), sc_c2]
  exact ⟨sc_nar _, h⟩
theorem k_JS_charAt {Q : Int32 → St → Prop} {k : Nat} (hw : w < 16) (hk : k < slen.getD w 0) (h : Q ((sbyt.getD w []).getD k 0 &&& 255) σ) : K_JS_charAt g w (nI k) σ Q :=
  ko_JS_charAt (sg_JS_charAt_0 hw (k_JS_isLatin1 hw ⟨fun c => absurd c (by decide), fun _ => k_JL_charAt hw hk ⟨sc_nar _, h⟩⟩))
/-- indexOf on what is left of a text -/
def ixF (c : Int32) : List Int32 → Nat → Int32
  | [], _ => -1
  | b :: l, k => if b = c then nI k else ixF c l (k + 1)
theorem s_ixLoop {Q : Int32 → St → Prop} {c : Int32} (hw : w < 16) : ∀ (l : List Int32) (k : Nat), k ≤ slen.getD w 0 → (sbyt.getD w []).drop k = l → Q (ixF c l k) σ → S_JL_indexOfChar_7 g Q σ w (nI (slen.getD w 0)) c (nI k) := by
  obtain ⟨e1, e2, -⟩ := slen_lt w hw
  intro l
  induction l with
  | nil =>
    intro k hk e h
    have q : (sbyt.getD w []).length ≤ k := List.drop_eq_nil_iff.mp e
    refine sg_JL_indexOfChar_7 hw ⟨fun _ => h, fun c0 => absurd (nI_le (by omega) (by omega)) c0⟩
  | cons b l ih =>
    intro k hk e h
    obtain ⟨h1, h2, h3, h4⟩ := sc_dropC e
    refine sg_JL_indexOfChar_7 hw ⟨fun c0 => absurd c0 (nI_ge (by omega) (by omega)), fun _ => ⟨vp_in_nI (by omega) e2, ?_⟩⟩
    rw [nI_clamp (by omega), h2]
    rw [ixF] at h
    refine ⟨fun hc => ?_, fun hc => ?_⟩
    · rw [if_neg hc] at h
      rintro u rfl
      rw [nI_1]
      exact ih (k + 1) (by omega) h3 h
    · rw [if_pos hc] at h
      exact h
theorem k_JS_indexOf {Q : Int32 → St → Prop} {n : Nat} (hw : w < 16) (hn : n < 256) (h0 : 0 < slen.getD w 0) (h : Q (ixF (nI n).toInt8.toInt32 (sbyt.getD w []) 0) σ) : K_JS_indexOf g w (nI n) σ Q := by
  obtain ⟨e1, e2, -⟩ := slen_lt w hw
  refine ko_JS_indexOf (sg_JS_indexOf_0 hw (ko_JS_indexOf_1 (sg_JS_indexOf_1_0 hw (k_JS_isLatin1 hw ⟨fun c => absurd c (by decide), fun _ => k_JS_length hw (ko_JL_indexOf (sg_JL_indexOf_0 hw ?_))⟩))))
  refine ko_JL_canEncode (sg_JL_canEncode_0 ⟨fun c => absurd c (nI_pos (by omega)), fun _ => ⟨fun c => absurd c (nI_nlt (a := 255) (b := n) (by omega) (by omega)), fun _ => ?_⟩⟩)
  refine ⟨fun _ => ?_, fun c => absurd c (by decide)⟩
  rintro u rfl v rfl
  rw [if_neg (by decide)]
  have e3 : (if Int32.ofNat (slen.getD w 0) < nI (slen.getD w 0) then Int32.ofNat (slen.getD w 0) else nI (slen.getD w 0)) = nI (slen.getD w 0) := by split <;> rfl
  rw [e3]
  refine ⟨fun _ => ?_, fun c => absurd (nI_lt h0 e2) c⟩
  refine ko_JL_indexOfChar (sg_JL_indexOfChar_0 hw ?_)
  rintro u rfl
  exact s_ixLoop hw (sbyt.getD w []) 0 (Nat.zero_le _) rfl h
end
