/-! ===== lines: characters are written, side by side ===== -/
def ch (x : Int32) : Int32 := vp_nar .char x
theorem ch_nI (x : Int32) : ch x = nI (x.toBitVec.toNat % 65536) := by
  unfold ch
  rw [vp_nar_char, show x.toUInt32.toUInt16.toUInt32 = x.toUInt32 % 65536 from UInt32.toNat_inj.mp (by simp), pk_char]
theorem ch_small {q : Nat} (h : q < 65536) : ch (nI q) = nI q := by
  unfold ch vp_nar
  rw [(pk_charN h).1]
theorem ch_C (x : Int32) : isC (ch x) := by
  show ch (ch x) = ch x
  rw [ch_nI x, ch_small (Nat.mod_lt _ (by decide))]
theorem gd_app (W : List Int32) (c : Int32) : ∀ j, (W ++ [c]).getD j 0 = if j = W.length then c else W.getD j 0 := by
  induction W with
  | nil =>
    intro j
    cases j with
    | zero => rfl
    | succ j => rw [if_neg (by simp)]; rfl
  | cons a W ih =>
    intro j
    cases j with
    | zero => rw [if_neg (by simp)]; rfl
    | succ j =>
      show (W ++ [c]).getD j 0 = _
      rw [ih j]
      by_cases e : j = W.length
      · rw [if_pos e, if_pos (by simp [e])]
      · rw [if_neg e, if_neg (by simp [e])]; rfl
abbrev cLN : Nat → Prop := fun a => a = 119 ∨ a = 120
def KL (M : KS) (W : List Int32) : Prop := M.1 119 1 = nI W.length ∧ ∀ j, j < W.length → M.1 120 j = W.getD j 0
def NL (N : KS) (W : List Int32) : Prop := N.1 0 24 = nI W.length ∧ ∀ j, j < W.length → N.1 18 j = W.getD j 0
def NLF (N N' : KS) : Prop := (∀ a, a ≠ 0 → a ≠ 18 → N'.1 a = N.1 a) ∧ ∀ j, j ≠ 24 → N'.1 0 j = N.1 0 j
def ALC (W : List Int32) : Prop := ∀ c, c ∈ W → isC c
theorem NLF.rf {N : KS} : NLF N N := ⟨fun _ _ _ => rfl, fun _ _ => rfl⟩
theorem NLF.tr {N N1 N2 : KS} (h : NLF N N1) (k : NLF N1 N2) : NLF N N2 := ⟨fun a h0 h1 => (k.1 a h0 h1).trans (h.1 a h0 h1), fun j hj => (k.2 j hj).trans (h.2 j hj)⟩
theorem ALC.gd {W : List Int32} (h : ALC W) {j : Nat} (hj : j < W.length) : isC (W.getD j 0) := by
  have e : W.getD j 0 = W[j] := by rw [List.getD_eq_getElem?_getD, List.getElem?_eq_getElem hj]; rfl
  rw [e]
  exact h _ (List.getElem_mem hj)
theorem ALC.app {W V : List Int32} (h : ALC W) (k : ALC V) : ALC (W ++ V) := fun c hc => by
  rcases List.mem_append.mp hc with q | q
  · exact h c q
  · exact k c q
theorem ALC.one (x : Int32) : ALC [ch x] := fun c hc => by rw [List.mem_singleton.mp hc]; exact ch_C x
theorem ALC.nil : ALC [] := fun c hc => absurd hc (by simp)
section WRD
variable {M N : KS} {W : List Int32}
theorem kadd1_wp (h : KL M W) (hl : W.length < 24) (x : Int32) : wp (fX4_add M x) (fun M' => KL M' (W ++ [ch x]) ∧ FR cLN M M') := by
  have e1 := h.1
  have ck : (nI W.length).toNatClampNeg = W.length := nI_clamp (by omega)
  unfold fX4_add
  rw [e1]
  refine wp_neg (nI_ge hl (by decide)) (wp_pos ((inb_N (by omega)).mpr hl) (wp_nm (wp_nm (wp_some ?_))))
  rw [ck, kset_nc (show (119 : Nat) ≠ 120 by decide), e1]
  refine ⟨⟨?_, fun j hj => ?_⟩, ((FR.rf (P := cLN)).set (Or.inr rfl)).set (Or.inl rfl)⟩
  · rw [kset_c, if_pos rfl, li1, nI_add, List.length_append]; rfl
  · rw [kset_nc (show (120 : Nat) ≠ 119 by decide), kset_c, gd_app]
    by_cases e : j = W.length
    · rw [if_pos e, if_pos e]; rfl
    · rw [if_neg e, if_neg e]
      rw [List.length_append] at hj
      exact h.2 j (by have : j < W.length + 1 := hj; omega)
theorem says_wp (h : NL N W) (hl : W.length < 40) (x : Int32) : wp (fX10_says N x) (fun N' => NL N' (W ++ [ch x]) ∧ NLF N N') := by
  have e1 := h.1
  have ck : (nI W.length).toNatClampNeg = W.length := nI_clamp (by omega)
  unfold fX10_says
  rw [e1]
  refine wp_pos ((inb_N (by omega)).mpr hl) (wp_nm (wp_nm (wp_some ?_)))
  rw [ck, kset_nc (show (0 : Nat) ≠ 18 by decide), e1]
  refine ⟨⟨?_, fun j hj => ?_⟩, fun a h0 h18 => by rw [kset_nc h0, kset_nc h18], fun j hj => by rw [kset_c, if_neg hj, kset_nc (by decide)]⟩
  · rw [kset_c, if_pos rfl, li1, nI_add, List.length_append]; rfl
  · rw [kset_nc (show (18 : Nat) ≠ 0 by decide), kset_c, gd_app]
    by_cases e : j = W.length
    · rw [if_pos e, if_pos e]; rfl
    · rw [if_neg e, if_neg e]
      rw [List.length_append] at hj
      exact h.2 j (by have : j < W.length + 1 := hj; omega)
def chF (k : Nat) : List Int32 := [ch (ji2c (48 + nI (k / 36)))] ++ [ch (ji2c (97 + nI (k / 6 % 6)))] ++ [ch (ji2c (97 + nI (k % 6)))]
theorem chF_len (k : Nat) : (chF k).length = 3 := rfl
theorem chF_C (k : Nat) : ALC (chF k) := ((ALC.one _).app (ALC.one _)).app (ALC.one _)
theorem len1 (W : List Int32) (c : Int32) : (W ++ [c]).length = W.length + 1 := by rw [List.length_append]; rfl
theorem lenF (W : List Int32) (k : Nat) : (W ++ chF k).length = W.length + 3 := by rw [List.length_append]; rfl
theorem kfact_wp (h : KL M W) (hl : W.length + 3 ≤ 24) {k : Nat} (hk : k < 216) : wp (fX4_addFact M (nI k)) (fun M' => KL M' (W ++ chF k) ∧ FR cLN M M') := by
  have e1 : nI k / 36 = nI (k / 36) := by rw [li36, pk_div (by omega) (by omega) (by omega)]
  have e2 : nI k / 6 = nI (k / 6) := by rw [li6, pk_div (by omega) (by omega) (by omega)]
  have e3 : jrem (nI (k / 6)) 6 = nI (k / 6 % 6) := by rw [li6, jremN (by omega) (by omega) (by omega)]
  have e4 : jrem (nI k) 6 = nI (k % 6) := by rw [li6, jremN (by omega) (by omega) (by omega)]
  unfold fX4_addFact fX4_addNumber
  rw [e1, e2, e3, e4]
  refine wp_bind (wp_bind (wp_mono (kadd1_wp h (by omega) _) ?_))
  intro M1 ⟨h1, f1⟩
  refine wp_some (wp_bind (wp_bind (wp_mono (kadd1_wp h1 (by rw [len1]; omega) _) ?_)))
  intro M2 ⟨h2, f2⟩
  refine wp_some (wp_bind (wp_bind (wp_mono (kadd1_wp h2 (by rw [len1, len1]; omega) _) ?_)))
  intro M3 ⟨h3, f3⟩
  refine wp_some (wp_some ⟨?_, (f1.tr f2).tr f3⟩)
  unfold chF
  rw [← List.append_assoc, ← List.append_assoc]
  exact h3
theorem rfact_wp (h : NL N W) (hl : W.length + 3 ≤ 40) {k : Nat} (hk : k < 216) : wp (fX10_saysFact N (nI k)) (fun N' => NL N' (W ++ chF k) ∧ NLF N N') := by
  have e1 : nI k / 36 = nI (k / 36) := by rw [li36, pk_div (by omega) (by omega) (by omega)]
  have e2 : nI k / 6 = nI (k / 6) := by rw [li6, pk_div (by omega) (by omega) (by omega)]
  have e3 : jrem (nI (k / 6)) 6 = nI (k / 6 % 6) := by rw [li6, jremN (by omega) (by omega) (by omega)]
  have e4 : jrem (nI k) 6 = nI (k % 6) := by rw [li6, jremN (by omega) (by omega) (by omega)]
  unfold fX10_saysFact
  rw [e1, e2, e3, e4]
  refine wp_bind (wp_mono (says_wp h (by omega) _) ?_)
  intro M1 ⟨h1, f1⟩
  refine wp_bind (wp_mono (says_wp h1 (by rw [len1]; omega) _) ?_)
  intro M2 ⟨h2, f2⟩
  refine wp_bind (wp_mono (says_wp h2 (by rw [len1, len1]; omega) _) ?_)
  intro M3 ⟨h3, f3⟩
  refine wp_some ⟨?_, (f1.tr f2).tr f3⟩
  unfold chF
  rw [← List.append_assoc, ← List.append_assoc]
  exact h3
/-! a condition, in a line -/
def cdW (c : Int32) : List Int32 := (if c < 0 then [ch 33] else []) ++ [ch (ji2c (48 + nI (kr c)))] ++ [ch (ji2c (120 + nI (k1 c)))] ++ [ch (ji2c (120 + nI (k2 c)))]
theorem cdW_len (c : Int32) : (cdW c).length ≤ 4 := by unfold cdW; split <;> simp
theorem cdW_C (c : Int32) : ALC (cdW c) := by
  unfold cdW
  refine ((ALC.app ?_ (ALC.one _)).app (ALC.one _)).app (ALC.one _)
  split
  · exact ALC.one _
  · exact ALC.nil
theorem kcond_wp (h : KL M W) (hl : W.length + 4 ≤ 24) {c : Int32} (hc : ka c ≤ 54) (h0 : c ≠ 0) : wp (fX4_addCondition M c) (fun M' => KL M' (W ++ cdW c) ∧ FR cLN M M') := by
  unfold fX4_addCondition
  refine wp_jn ?_
  have key : ∀ M1 V, KL M1 (W ++ V) → V.length ≤ 1 → FR cLN M M1 → V = (if c < 0 then [ch 33] else []) → wp (fX4_addCondition_J10_1 c M1) (fun M' => KL M' (W ++ cdW c) ∧ FR cLN M M') := by
    intro M1 V h1 hV f1 hVe
    unfold fX4_addCondition_J10_1 fX4_addNumber
    rw [kc_rel hc h0, kc_fst hc h0, kc_snd hc h0]
    have hlen : (W ++ V).length ≤ W.length + 1 := by rw [List.length_append]; omega
    refine wp_bind (wp_bind (wp_mono (kadd1_wp h1 (by omega) _) ?_))
    intro M2 ⟨h2, f2⟩
    refine wp_some (wp_bind (wp_some (wp_bind (wp_bind (wp_mono (kadd1_wp h2 (by rw [len1]; omega) _) ?_)))))
    intro M3 ⟨h3, f3⟩
    refine wp_some (wp_bind (wp_bind (wp_mono (kadd1_wp h3 (by rw [len1, len1]; omega) _) ?_)))
    intro M4 ⟨h4, f4⟩
    refine wp_some (wp_some ⟨?_, ((f1.tr f2).tr f3).tr f4⟩)
    unfold cdW
    rw [← hVe, ← List.append_assoc, ← List.append_assoc, ← List.append_assoc]
    exact h4
  by_cases q : c < 0
  · refine wp_neg (c_neg q).2.2 (wp_bind (wp_mono (kadd1_wp h (by omega) _) ?_))
    intro M1 ⟨h1, f1⟩
    exact key M1 [ch 33] h1 (Nat.le_refl _) f1 (if_pos q).symm
  · exact wp_pos (fa_of_nlt q) (key M [] (by rw [List.append_nil]; exact h) (Nat.zero_le _) FR.rf (if_neg q).symm)
end WRD
