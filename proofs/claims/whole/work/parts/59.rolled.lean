-- the class's tip: the loops of rolled
theorem sa_out {t : Nat} (h : isSA t) : t ≠ 17 ∧ t + 1 ∉ [19, 20, 21, 26, 31, 36, 41, 46, 51] ∧ t + 2 ∉ [19, 20, 21, 26, 31, 36, 41, 46, 51] ∧ t + 3 ∉ [19, 20, 21, 26, 31, 36, 41, 46, 51] ∧ t + 4 ∉ [19, 20, 21, 26, 31, 36, 41, 46, 51] := by
  simp only [isSA, List.mem_cons, List.not_mem_nil, or_false] at h
  rcases h with rfl | rfl | rfl | rfl | rfl | rfl | rfl | rfl | rfl | rfl | rfl | rfl | rfl | rfl | rfl <;> decide
section
variable {g : Gx} {C R B : Nat} {K P : Nat → Nat} {t w : Nat}
theorem clsb_roll {σ τ : St} (ht : isSA t) (h : ClsB t σ C R B K) (hf : fr [(17, 4), (17, 6), (17, 7)] [19, 20, 21, 26, 31, 36, 41, 46, 51] σ τ) : ClsB t τ C R B K := by
  obtain ⟨h0, h1, h2, -, -⟩ := sa_out ht
  have hn : ∀ k, (t, k) ∉ [(17, 4), (17, 6), (17, 7)] := fun k => by simp [h0]
  exact h.fr hf (hn 2) (hn 3) (hn 4) h1 h2
theorem rol1_okP {b : Nat} {st : (Nat → Nat) × Nat × Nat} (hC : C ≤ 6) (hR : R ≤ 6) (hw : w < 4) (hb : b < B) (h : okP C R B K st.1) (hb36 : st.1 b < 36) : okP C R B K (rol1 C R K w st b).1 := by
  refine ⟨rol1_ok hC hR hw hb h.1 hb36, fun x => ?_⟩
  have hto := rollN_to (C := C) (R := R) (K := K) (o1 := fun d => st.1 0 = d ∨ st.1 1 = d ∨ st.1 2 = d) (w := w) 6 (st.1 b)
  change rolF C R K st.1 w b = (0, st.1 b) ∨ (0 < (rolF C R K st.1 w b).1 ∧ K (rolF C R K st.1 w b).2 ≠ 1 ∧ _) at hto
  unfold rol1
  split
  · dsimp only
    unfold upP
    split
    · split <;> (intro q; exact absurd q (by decide))
    · exact h.2 x
  · rename_i hk
    show upP _ _ _ x < 36 → K (upP _ _ _ x) = 0
    unfold upP
    split
    · intro _
      rcases hto with e | e
      · rw [e]; exact h.2 b hb36
      · have := e.2.1; omega
    · exact h.2 x
theorem rolled162 {Q : Int32 → St → Prop} (ht : isSA t) (hw : w < 4) : ∀ (l : List Nat) (i : Nat) (σ : St) (st : (Nat → Nat) × Nat × Nat), hoA (ai σ 21) i l → (∀ b, b ∈ l → b < B ∧ st.1 b < 36) → l.Nodup → ClsB t σ C R B K → okP C R B K st.1 → fi σ 17 6 = nI st.2.1 → fi σ 17 7 = nI st.2.2 → fi σ 17 4 = nI (i + l.length) → i + l.length ≤ 3 →
    (∀ τ, fr [(17, 6), (17, 7)] [] σ τ → fi τ 17 6 = nI (l.foldl (rol1 C R K w) st).2.1 → fi τ 17 7 = nI (l.foldl (rol1 C R K w) st).2.2 → Q (nI (sitP (l.foldl (rol1 C R K w) st).1 B)) τ) → S_RO_rolled_162 g Q σ t (nI w) (nI (sitP st.1 B)) (nI i) := by
  intro l
  induction l with
  | nil =>
    intro i σ st _ _ _ _ _ h6 h7 h4 hi h
    refine sg_RO_rolled_162 ht ⟨fun _ => h σ fr.rf h6 h7, fun c => absurd ?_ c⟩
    rw [h4]
    exact nI_le (by simp) (by simp at hi; omega)
  | cons b l ih =>
    intro i σ st hl hb hnd hc hp h6 h7 h4 hi h
    obtain ⟨hbB, hb36⟩ := hb b List.mem_cons_self
    have hlen : i < i + (b :: l).length := by simp
    refine sg_RO_rolled_162 ht ⟨fun c => ?_, fun _ => ⟨vp_in_nI (by omega) (by decide), vp_in_nI hw (by decide), ?_⟩⟩
    · rw [h4] at c
      exact absurd c (nI_ge hlen (by omega))
    rw [nI_clamp (by omega), nI_clamp (by omega), hl.1]
    obtain ⟨P0, hh, ff⟩ := st
    refine k_RO_rollOne (P := P0) ht hw hc hp hbB hb36 h6 h7 (fun τ f1 e1 e2 => ?_)
    rintro u rfl
    rw [nI_1]
    have hnn : ∀ k, (t, k) ∉ [(17, 6), (17, 7)] := fun k => by have := (sa_out ht).1; simp [this]
    refine ih (i + 1) τ (rol1 C R K w (P0, hh, ff) b) ?_ (fun x hx => ?_) (List.nodup_cons.mp hnd).2 (hc.fr f1 (hnn 2) (hnn 3) (hnn 4) (by simp) (by simp)) (rol1_okP hc.2.1.1 hc.2.1.2.1 hw hbB hp hb36) e1 e2 ?_ ?_ (fun υ g1 g2 g3 => h υ (f1.tr g1) g2 g3)
    · rw [(f1.2 21 (by simp)).1]; exact hl.2
    · obtain ⟨a1, a2⟩ := hb x (List.mem_cons_of_mem _ hx)
      refine ⟨a1, ?_⟩
      rw [rol1_ne (x := x) (b := b) (fun e => (List.nodup_cons.mp hnd).1 (e ▸ hx))]
      exact a2
    · rw [(f1.1 17 4 (by decide)).1, h4]
      simp
      congr 1
      omega
    · simp at hi ⊢
      omega
theorem rolled65 {Q : Int32 → St → Prop} {k : Nat → Int64} {x4 : Int32} {σ : St} (ht : isSA t) (hw : w < 4) (hp : okP C R B K P)
    (hkey : ∀ (τ : St) (b : Nat), fr [(17, 4), (17, 6), (17, 7)] [19, 20, 21, 26, 31, 36, 41, 46, 51] σ τ → b < B → P b < 36 → (∀ υ, fr [] [19, 26, 31, 36, 41, 46, 51] τ υ → K_RO_lineUp g (nI b) (k b) υ (fun s3 => S_RO_rolled_65 g Q s3 t (nI (sitP P B)) (nI w) x4 (nI (b + 1)))) →
      (x4 = 0 → S_RO_rolled_113 g Q τ t (nI (sitP P B)) (nI w) x4 (nI b) (nI (spc (P b)))) ∧ (¬ x4 = 0 → vp_in (fi τ t 9) 6 ∧ (∀ o6 : Nat, o6 = 22 + 5 * ((fi τ t 9)).toNatClampNeg → isRU o6 → K_RO_tellWords g o6 t (nI (sitP P B)) (nI b) (nI w) τ (fun s7 : St => S_RO_rolled_113 g Q s7 t (nI (sitP P B)) (nI w) x4 (nI b) (nI (spc (P b)))))))
    (h : ∀ τ, fr [(17, 4), (17, 6), (17, 7)] [19, 20, 21, 26, 31, 36, 41, 46, 51] σ τ → fi τ 17 6 = nI (tipF C R K k w P).2.1 → fi τ 17 7 = nI (tipF C R K k w P).2.2 → Q (nI (sitP (tipF C R K k w P).1 B)) τ) : ∀ (f b : Nat) (τ : St), b + f = B → fr [(17, 4), (17, 6), (17, 7)] [19, 20, 21, 26, 31, 36, 41, 46, 51] σ τ → ClsB t τ C R B K → fi τ 17 6 = 0 → fi τ 17 7 = 0 → fi τ 17 4 = nI (ordN k P b).length → hoA (ai τ 21) 0 (ordN k P b) → hoK (aj τ 20) k 0 (ordN k P b) → S_RO_rolled_65 g Q τ t (nI (sitP P B)) (nI w) x4 (nI b) := by
  intro f
  induction f with
  | zero =>
    intro b τ hbf hfr hc h6 h7 h4 hl hk
    have e : b = B := by omega
    subst e
    obtain ⟨⟨-, -, c4⟩, ⟨-, -, hB3⟩, -⟩ := id hc
    refine sg_RO_rolled_65 ht ?_
    rw [c4]
    refine ⟨fun _ => ?_, fun c => absurd (nI_le (Nat.le_refl _) (by omega)) c⟩
    rw [ordN_B hB3 hp.1.1] at hl hk h4
    have hlen : (ordL k P).length ≤ 3 := by rw [← ordN_B hB3 hp.1.1]; have := ordN_len (k := k) (P := P) hB3; omega
    refine rolled162 ht hw (ordL k P) 0 τ (P, 0, 0) hl (fun x hx => ?_) (ordL_nodup k P) hc hp h6 h7 (by rw [h4, Nat.zero_add]) (by omega) (fun υ g1 g2 g3 => h υ (hfr.tr (g1.mo (by decide) (by simp))) g2 g3)
    rw [← ordN_B hB3 hp.1.1] at hx
    exact ordN_mem hx
  | succ f ih =>
    intro b τ hbf hfr hc h6 h7 h4 hl hk
    have hbB : b < B := by omega
    obtain ⟨⟨-, -, c4⟩, ⟨-, -, hB3⟩, -⟩ := id hc
    have hlen := ordN_len (k := k) (P := P) (b := b) (by omega)
    have hS : sitP P B < 262144 := sitP_lt
    refine sg_RO_rolled_65 ht ?_
    rw [c4]
    refine ⟨fun c => absurd c (nI_ge hbB (by omega)), fun _ => k_SA_spotIn (by omega) (by omega) ?_⟩
    rw [spo_sitP (by omega), enB_norm hp.1.1]
    refine k_SA_isFallen enc_lt ?_
    by_cases h36 : P b < 36
    · have en : ¬ (enc (P b) = 0 ∨ enc (P b) = 7) := by
        rw [enc_c h36]; unfold spc; omega
      rw [if_neg en, enc_c h36]
      refine ⟨fun c => absurd rfl c, fun _ => ?_⟩
      have e : ordN k P (b + 1) = ordI k (ordN k P b) b := by
        show ordS k P (ordN k P b) b = _
        unfold ordS
        rw [if_pos h36]
      refine hkey τ b hfr hbB h36 (fun υ hυ => ?_)
      refine k_RO_lineUp (k := k) (l := ordN k P b) (by rw [(hυ.2 21 (by decide)).1]; exact hl) (by rw [(hυ.2 20 (by decide)).2]; exact hk) (by rw [(hυ.1 17 4 (by simp)).1]; exact h4) (by omega) (fun s f1 l1 k1 n1 => ?_)
      have F1 : fr [(17, 4), (17, 6), (17, 7)] [19, 20, 21, 26, 31, 36, 41, 46, 51] τ s := (hυ.mo (by simp) (by decide)).tr (f1.mo (by decide) (by decide))
      refine ih (b + 1) s (by omega) (hfr.tr F1) (clsb_roll ht hc F1) ?_ ?_ ?_ (by rw [e]; exact l1) (by rw [e]; exact k1)
      · rw [(f1.1 17 6 (by decide)).1, (hυ.1 17 6 (by simp)).1]; exact h6
      · rw [(f1.1 17 7 (by decide)).1, (hυ.1 17 7 (by simp)).1]; exact h7
      · rw [n1, e, ordI_len (by omega)]
    · have en : enc (P b) = 0 ∨ enc (P b) = 7 := by
        unfold enc
        rw [if_neg h36]
        split
        · exact Or.inl rfl
        · exact Or.inr rfl
      rw [if_pos en]
      refine ⟨fun _ => ?_, fun c => absurd c (by decide)⟩
      rintro u rfl
      rw [nI_1]
      have e : ordN k P (b + 1) = ordN k P b := by
        show ordS k P (ordN k P b) b = _
        unfold ordS
        rw [if_neg h36]
      exact ih (b + 1) τ (by omega) hfr hc h6 h7 (by rw [e]; exact h4) (by rw [e]; exact hl) (by rw [e]; exact hk)
end
-- keys without a rule
def lagM (w c : Nat) : Int64 := (if w = 0 then nI (c / 6) else if w = 1 then -nI (c % 6) else if w = 2 then -nI (c / 6) else nI (c % 6)).toInt64
def lagC (w p : Nat) : Int32 := if w = 0 then nI (p / 8) else if w = 1 then -nI (p % 8) else if w = 2 then -nI (p / 8) else nI (p % 8)
theorem neg_toInt {n : Nat} (h : n < 1000) : (-nI n).toInt = -(n : Int) := by
  have e := nI_toInt (n := n) (by omega)
  rw [Int32.toInt_neg, e]
  rw [Int.bmod_def]
  omega
theorem lag_iff {w c d : Nat} (hw : w < 4) (hc : c < 36) (hd : d < 36) : (lagC w (spc c)).toInt64 < (lagC w (spc d)).toInt64 ↔ lagM w c < lagM w d := by
  unfold lagM lagC spc
  rw [Int64.lt_iff_toInt_lt, Int64.lt_iff_toInt_lt, Int32.toInt_toInt64, Int32.toInt_toInt64, Int32.toInt_toInt64, Int32.toInt_toInt64]
  rcases (show w = 0 ∨ w = 1 ∨ w = 2 ∨ w = 3 by omega) with rfl | rfl | rfl | rfl
  · simp only [if_true]
    rw [nI_toInt (by omega), nI_toInt (by omega), nI_toInt (by omega), nI_toInt (by omega)]
    omega
  · simp only [if_neg (show ¬ (1 = 0) by decide), if_true]
    rw [neg_toInt (by omega), neg_toInt (by omega), neg_toInt (by omega), neg_toInt (by omega)]
    omega
  · simp only [if_neg (show ¬ (2 = 0) by decide), if_neg (show ¬ (2 = 1) by decide), if_true]
    rw [neg_toInt (by omega), neg_toInt (by omega), neg_toInt (by omega), neg_toInt (by omega)]
    omega
  · simp only [if_neg (show ¬ (3 = 0) by decide), if_neg (show ¬ (3 = 1) by decide), if_neg (show ¬ (3 = 2) by decide)]
    rw [nI_toInt (by omega), nI_toInt (by omega), nI_toInt (by omega), nI_toInt (by omega)]
    omega
theorem k_RO_lag {g : Gx} {σ : St} {Q : Int32 → St → Prop} {p w : Nat} (hp : p < 64) (hw : w < 4) (h : Q (lagC w p) σ) : K_RO_lag g (nI p) (nI w) σ Q := by
  have e3 : nI p >>> ((3 : Int32) &&& 31) = nI (p / 8) := pk_shrN (by omega) _ 3 (by decide)
  have e7 : nI p &&& 7 = nI (p % 8) := and7 (by omega)
  refine ko_RO_lag (sg_RO_lag_0 ?_)
  rw [e3, e7]
  unfold lagC at h
  rcases (show w = 0 ∨ w = 1 ∨ w = 2 ∨ w = 3 by omega) with rfl | rfl | rfl | rfl
  · exact ⟨fun _ => h, fun c => absurd c (by decide), fun c => absurd c (by decide), fun c => absurd rfl c⟩
  · exact ⟨fun c => absurd c (by decide), fun _ => h, fun c => absurd c (by decide), fun _ c => absurd rfl c⟩
  · exact ⟨fun c => absurd c (by decide), fun c => absurd c (by decide), fun _ => h, fun _ _ c => absurd rfl c⟩
  · exact ⟨fun c => absurd c (by decide), fun c => absurd c (by decide), fun c => absurd c (by decide), fun _ _ _ => h⟩
