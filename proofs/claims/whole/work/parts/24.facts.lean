/-! ===== the class's sets of facts ===== -/
theorem kset_ap (M : KS) (i j : Nat) (v : Int32) (a b : Nat) : (kset M i j v).1 a b = if a = i ∧ b = j then v else M.1 a b := rfl
theorem kset_eq (M : KS) (i j : Nat) (v : Int32) : (kset M i j v).1 i j = v := by rw [kset_ap, if_pos ⟨rfl, rfl⟩]
theorem kset_ne {M : KS} {i j : Nat} {v : Int32} {a b : Nat} (h : a ≠ i ∨ b ≠ j) : (kset M i j v).1 a b = M.1 a b := by
  rw [kset_ap, if_neg (fun z => h.elim (fun q => q z.1) (fun q => q z.2))]
theorem kset_c (M : KS) (i j : Nat) (v : Int32) (b : Nat) : (kset M i j v).1 i b = if b = j then v else M.1 i b := by
  rw [kset_ap]
  by_cases h : b = j
  · rw [if_pos ⟨rfl, h⟩, if_pos h]
  · rw [if_neg (fun z => h z.2), if_neg h]
theorem kset_nc {M : KS} {i j : Nat} {v : Int32} {a : Nat} (h : a ≠ i) : (kset M i j v).1 a = M.1 a := kset_1n h
def FA (M : KS) (o : Nat) (S : Nat → Bool) : Prop := (∀ r, r < 36 → M.1 (iFt o) r = m6 (fun j => S (6 * r + j))) ∧ ∀ r, r < 36 → M.1 (iFf o) r = m6 (fun j => S (36 * (r / 6) + 6 * j + r % 6))
/-- nothing but the cells of P is changed -/
def FR (P : Nat → Prop) (M M' : KS) : Prop := (∀ a, ¬ P a → M'.1 a = M.1 a) ∧ M'.2 = M.2
theorem FR.rf {P : Nat → Prop} {M : KS} : FR P M M := ⟨fun _ _ => rfl, rfl⟩
theorem FR.tr {P : Nat → Prop} {M M1 M2 : KS} (h : FR P M M1) (k : FR P M1 M2) : FR P M M2 := ⟨fun a ha => (k.1 a ha).trans (h.1 a ha), k.2.trans h.2⟩
theorem FR.set {P : Nat → Prop} {M M1 : KS} {i j : Nat} {v : Int32} (h : FR P M M1) (hi : P i) : FR P M (kset M1 i j v) := ⟨fun a ha => (kset_nc (fun z => ha (by rw [z]; exact hi))).trans (h.1 a ha), h.2⟩
theorem FR.wk {P Q : Nat → Prop} {M M1 : KS} (h : FR P M M1) (k : ∀ a, P a → Q a) : FR Q M M1 := ⟨fun a ha => h.1 a (fun z => ha (k a z)), h.2⟩
abbrev cF (o : Nat) : Nat → Prop := fun a => a = iFt o ∨ a = iFf o
theorem FA.keep {M M' : KS} {o : Nat} {S : Nat → Bool} (h : FA M o S) (e1 : M'.1 (iFt o) = M.1 (iFt o)) (e2 : M'.1 (iFf o) = M.1 (iFf o)) : FA M' o S := ⟨fun r hr => by rw [e1]; exact h.1 r hr, fun r hr => by rw [e2]; exact h.2 r hr⟩
theorem FA.fr {M M' : KS} {o : Nat} {S : Nat → Bool} {P : Nat → Prop} (h : FA M o S) (k : FR P M M') (h1 : ¬ P (iFt o)) (h2 : ¬ P (iFf o)) : FA M' o S := h.keep (k.1 _ h1) (k.1 _ h2)
theorem FA.cong {M : KS} {o : Nat} {S S' : Nat → Bool} (h : FA M o S) (e : ∀ k, k < 216 → S k = S' k) : FA M o S' := ⟨fun r hr => by rw [h.1 r hr]; exact m6_cong (fun j hj => e _ (by omega)), fun r hr => by rw [h.2 r hr]; exact m6_cong (fun j hj => e _ (by omega))⟩
section FAR
variable {M : KS} {o o1 : Nat} {S S1 : Nat → Bool}
theorem has_eq (h : FA M o S) {k : Nat} (hk : k < 216) : fX2_has M o (nI k) = some (bI (S k)) := by
  unfold fX2_has
  simp (disch := omega) only [li0, li1, li2, li3, li4, li5, li6, li8, li9, li10, li11, li20, li21, li24, li32, li33, li36, li37, li40, li43, li45, li48, li53, li54, li57, li59, li60, li61, li63, li84, li97, li100, li102, li114, li120, li122, li216, li217, li257, li300, li1296, li1799, li2056, nI_add, pk_mul, nI_subN, pk_div, jremN, nI_leI, nI_ltI, nI_eq, nI_clamp, inb_N, if_pos, if_neg, if_true, if_false, nm, jn, bd2, Option.bind_some]
  rw [h.1 (k / 6) (by omega), m6_test _ (show k % 6 < 6 by omega), show 6 * (k / 6) + k % 6 = k by omega]
  cases S k <;> rfl
theorem to_eq (h : FA M o S) {r x : Nat} (hr : r < 6) (hx : x < 6) : fX2_to M o (nI r) (nI x) = some (m6 (fun j => S (36 * r + 6 * x + j))) := by
  unfold fX2_to
  simp (disch := omega) only [li0, li1, li2, li3, li4, li5, li6, li8, li9, li10, li11, li20, li21, li24, li32, li33, li36, li37, li40, li43, li45, li48, li53, li54, li57, li59, li60, li61, li63, li84, li97, li100, li102, li114, li120, li122, li216, li217, li257, li300, li1296, li1799, li2056, nI_add, pk_mul, nI_subN, pk_div, jremN, nI_leI, nI_ltI, nI_eq, nI_clamp, inb_N, if_pos, if_neg, if_true, if_false, nm, jn, bd2, Option.bind_some]
  rw [h.1 (6 * r + x) (by omega)]
  exact congrArg some (m6_cong (fun j hj => congrArg S (by omega)))
theorem from_eq (h : FA M o S) {r x : Nat} (hr : r < 6) (hx : x < 6) : fX2_from M o (nI r) (nI x) = some (m6 (fun j => S (36 * r + 6 * j + x))) := by
  unfold fX2_from
  simp (disch := omega) only [li0, li1, li2, li3, li4, li5, li6, li8, li9, li10, li11, li20, li21, li24, li32, li33, li36, li37, li40, li43, li45, li48, li53, li54, li57, li59, li60, li61, li63, li84, li97, li100, li102, li114, li120, li122, li216, li217, li257, li300, li1296, li1799, li2056, nI_add, pk_mul, nI_subN, pk_div, jremN, nI_leI, nI_ltI, nI_eq, nI_clamp, inb_N, if_pos, if_neg, if_true, if_false, nm, jn, bd2, Option.bind_some]
  rw [h.2 (6 * r + x) (by omega)]
  exact congrArg some (m6_cong (fun j hj => congrArg S (by omega)))
theorem copy_wp (hF : FA M o1 S) (hne : o ≠ o1) : wp (fX2_copy M o o1) (fun M' => FA M' o S ∧ FR (cF o) M M') := by
  unfold fX2_copy
  refine wp_for 36 (fun i s => s.1 = nI i ∧ (∀ r, r < i → s.2.1 (iFt o) r = M.1 (iFt o1) r ∧ s.2.1 (iFf o) r = M.1 (iFf o1) r) ∧ FR (cF o) M s.2) (fun i s rec hi hI hrec => ?_) (by decide) (Nat.zero_le _) ⟨rfl, fun r h => absurd h (Nat.not_lt_zero _), FR.rf⟩
  obtain ⟨v, M2⟩ := s
  obtain ⟨hv, h1, h2⟩ := hI
  have hv : v = nI i := hv
  subst hv
  rw [fX2_copy_L2_u]
  have n1 : iFt o1 ≠ iFt o := by unfold iFt; omega
  have n2 : iFt o1 ≠ iFf o := by unfold iFt iFf; omega
  have n3 : iFf o1 ≠ iFt o := by unfold iFt iFf; omega
  have n4 : iFf o1 ≠ iFf o := by unfold iFf; omega
  have n5 : iFf o ≠ iFt o := by unfold iFt iFf; omega
  rcases Nat.lt_or_ge i 36 with hlt | hge
  · simp (disch := omega) only [li0, li1, li2, li3, li4, li5, li6, li8, li9, li10, li11, li20, li21, li24, li32, li33, li36, li37, li40, li43, li45, li48, li53, li54, li57, li59, li60, li61, li63, li84, li97, li100, li102, li114, li120, li122, li216, li217, li257, li300, li1296, li1799, li2056, nI_add, pk_mul, nI_subN, pk_div, jremN, nI_leI, nI_ltI, nI_eq, nI_clamp, inb_N, if_pos, if_neg, if_true, if_false, nm, jn, bd2, Option.bind_some]
    have e1 : M2.1 (iFt o1) i = M.1 (iFt o1) i := congrFun (h2.1 _ (fun z => z.elim n1 n2)) i
    have e2 : M2.1 (iFf o1) i = M.1 (iFf o1) i := congrFun (h2.1 _ (fun z => z.elim n3 n4)) i
    refine hrec _ hlt ⟨rfl, fun r hr => ?_, (h2.set (Or.inl rfl)).set (Or.inr rfl)⟩
    show (kset (kset M2 (iFt o) i _) (iFf o) i _).1 (iFt o) r = _ ∧ (kset (kset M2 (iFt o) i _) (iFf o) i _).1 (iFf o) r = _
    rw [kset_ne (Or.inl n5.symm), kset_ap, kset_ap, kset_ne (Or.inl n5), kset_ne (Or.inl n3), e1, e2]
    rcases Nat.lt_or_ge r i with q | q
    · rw [if_neg (by omega), if_neg (by omega)]
      exact h1 r q
    · have : r = i := by omega
      subst this
      rw [if_pos ⟨rfl, rfl⟩, if_pos ⟨rfl, rfl⟩]
      exact ⟨rfl, rfl⟩
  · have : i = 36 := by omega
    subst this
    simp (disch := omega) only [li0, li1, li2, li3, li4, li5, li6, li8, li9, li10, li11, li20, li21, li24, li32, li33, li36, li37, li40, li43, li45, li48, li53, li54, li57, li59, li60, li61, li63, li84, li97, li100, li102, li114, li120, li122, li216, li217, li257, li300, li1296, li1799, li2056, nI_add, pk_mul, nI_subN, pk_div, jremN, nI_leI, nI_ltI, nI_eq, nI_clamp, inb_N, if_pos, if_neg, if_true, if_false, nm, jn, bd2, Option.bind_some, fX2_copy_X2]
    exact wp_some ⟨⟨fun r hr => by rw [(h1 r hr).1]; exact hF.1 r hr, fun r hr => by rw [(h1 r hr).2]; exact hF.2 r hr⟩, h2⟩
theorem put_wp (hF : FA M o S) {k : Nat} (hk : k < 216) : wp (fX2_put M o (nI k)) (fun M' => FA M' o (fun i => S i || i == k) ∧ FR (cF o) M M') := by
  have n5 : iFf o ≠ iFt o := by unfold iFt iFf; omega
  unfold fX2_put
  simp (disch := omega) only [li0, li1, li2, li3, li4, li5, li6, li8, li9, li10, li11, li20, li21, li24, li32, li33, li36, li37, li40, li43, li45, li48, li53, li54, li57, li59, li60, li61, li63, li84, li97, li100, li102, li114, li120, li122, li216, li217, li257, li300, li1296, li1799, li2056, nI_add, pk_mul, nI_subN, pk_div, jremN, nI_leI, nI_ltI, nI_eq, nI_clamp, inb_N, if_pos, if_neg, if_true, if_false, nm, jn, bd2, Option.bind_some]
  refine wp_some ⟨⟨fun r hr => ?_, fun r hr => ?_⟩, (FR.rf.set (Or.inl rfl)).set (Or.inr rfl)⟩
  · rw [kset_ne (Or.inl n5.symm), kset_ap, hF.1 (k / 6) (by omega), m6_one (show k % 6 < 6 by omega), m6_or]
    by_cases q : r = k / 6
    · rw [if_pos ⟨rfl, q⟩]
      subst q
      refine m6_cong fun j hj => ?_
      rw [show (j == k % 6) = (6 * (k / 6) + j == k) by rw [Bool.eq_iff_iff]; simp only [beq_iff_eq]; omega]
    · rw [if_neg (fun z => q z.2), hF.1 r hr]
      refine m6_cong fun j hj => ?_
      show _ = (S (6 * r + j) || (6 * r + j == k))
      rw [show (6 * r + j == k) = false by rw [beq_eq_false_iff_ne]; omega, Bool.or_false]
  · rw [kset_ap, kset_ne (Or.inl n5), hF.2 (k / 36 * 6 + k % 6) (by omega), m6_one (show k / 6 % 6 < 6 by omega), m6_or]
    by_cases q : r = k / 36 * 6 + k % 6
    · rw [if_pos ⟨rfl, q⟩]
      subst q
      refine m6_cong fun j hj => ?_
      rw [show (j == k / 6 % 6) = (36 * ((k / 36 * 6 + k % 6) / 6) + 6 * j + (k / 36 * 6 + k % 6) % 6 == k) by rw [Bool.eq_iff_iff]; simp only [beq_iff_eq]; omega]
    · rw [if_neg (fun z => q z.2), kset_ne (Or.inl n5), hF.2 r hr]
      refine m6_cong fun j hj => ?_
      show _ = (S (36 * (r / 6) + 6 * j + r % 6) || (36 * (r / 6) + 6 * j + r % 6 == k))
      rw [show (36 * (r / 6) + 6 * j + r % 6 == k) = false by rw [beq_eq_false_iff_ne]; omega, Bool.or_false]
theorem take_wp (hF : FA M o S) {k : Nat} (hk : k < 216) : wp (fX2_take M o (nI k)) (fun M' => FA M' o (fun i => S i && !(i == k)) ∧ FR (cF o) M M') := by
  have n5 : iFf o ≠ iFt o := by unfold iFt iFf; omega
  unfold fX2_take
  simp (disch := omega) only [li0, li1, li2, li3, li4, li5, li6, li8, li9, li10, li11, li20, li21, li24, li32, li33, li36, li37, li40, li43, li45, li48, li53, li54, li57, li59, li60, li61, li63, li84, li97, li100, li102, li114, li120, li122, li216, li217, li257, li300, li1296, li1799, li2056, nI_add, pk_mul, nI_subN, pk_div, jremN, nI_leI, nI_ltI, nI_eq, nI_clamp, inb_N, if_pos, if_neg, if_true, if_false, nm, jn, bd2, Option.bind_some]
  refine wp_some ⟨⟨fun r hr => ?_, fun r hr => ?_⟩, (FR.rf.set (Or.inl rfl)).set (Or.inr rfl)⟩
  · rw [kset_ne (Or.inl n5.symm), kset_ap, hF.1 (k / 6) (by omega), m6_one (show k % 6 < 6 by omega), m6_andn]
    by_cases q : r = k / 6
    · rw [if_pos ⟨rfl, q⟩]
      subst q
      refine m6_cong fun j hj => ?_
      rw [show (j == k % 6) = (6 * (k / 6) + j == k) by rw [Bool.eq_iff_iff]; simp only [beq_iff_eq]; omega]
    · rw [if_neg (fun z => q z.2), hF.1 r hr]
      refine m6_cong fun j hj => ?_
      show _ = (S (6 * r + j) && !(6 * r + j == k))
      rw [show (6 * r + j == k) = false by rw [beq_eq_false_iff_ne]; omega, Bool.not_false, Bool.and_true]
  · rw [kset_ap, kset_ne (Or.inl n5), hF.2 (k / 36 * 6 + k % 6) (by omega), m6_one (show k / 6 % 6 < 6 by omega), m6_andn]
    by_cases q : r = k / 36 * 6 + k % 6
    · rw [if_pos ⟨rfl, q⟩]
      subst q
      refine m6_cong fun j hj => ?_
      rw [show (j == k / 6 % 6) = (36 * ((k / 36 * 6 + k % 6) / 6) + 6 * j + (k / 36 * 6 + k % 6) % 6 == k) by rw [Bool.eq_iff_iff]; simp only [beq_iff_eq]; omega]
    · rw [if_neg (fun z => q z.2), kset_ne (Or.inl n5), hF.2 r hr]
      refine m6_cong fun j hj => ?_
      show _ = (S (36 * (r / 6) + 6 * j + r % 6) && !(36 * (r / 6) + 6 * j + r % 6 == k))
      rw [show (36 * (r / 6) + 6 * j + r % 6 == k) = false by rw [beq_eq_false_iff_ne]; omega, Bool.not_false, Bool.and_true]
theorem clear_wp : wp (fX2_clear M o) (fun M' => FA M' o (fun _ => false) ∧ FR (cF o) M M') := by
  have n5 : iFf o ≠ iFt o := by unfold iFt iFf; omega
  unfold fX2_clear
  refine wp_for 36 (fun i s => s.1 = nI i ∧ (∀ r, r < i → s.2.1 (iFt o) r = nI 0 ∧ s.2.1 (iFf o) r = nI 0) ∧ FR (cF o) M s.2) (fun i s rec hi hI hrec => ?_) (by decide) (Nat.zero_le _) ⟨rfl, fun r h => absurd h (Nat.not_lt_zero _), FR.rf⟩
  obtain ⟨v, M2⟩ := s
  obtain ⟨hv, h1, h2⟩ := hI
  have hv : v = nI i := hv
  subst hv
  rw [fX2_clear_L2_u]
  rcases Nat.lt_or_ge i 36 with hlt | hge
  · simp (disch := omega) only [li0, li1, li2, li3, li4, li5, li6, li8, li9, li10, li11, li20, li21, li24, li32, li33, li36, li37, li40, li43, li45, li48, li53, li54, li57, li59, li60, li61, li63, li84, li97, li100, li102, li114, li120, li122, li216, li217, li257, li300, li1296, li1799, li2056, nI_add, pk_mul, nI_subN, pk_div, jremN, nI_leI, nI_ltI, nI_eq, nI_clamp, inb_N, if_pos, if_neg, if_true, if_false, nm, jn, bd2, Option.bind_some]
    refine hrec _ hlt ⟨rfl, fun r hr => ?_, (h2.set (Or.inl rfl)).set (Or.inr rfl)⟩
    show (kset (kset M2 (iFt o) i _) (iFf o) i _).1 (iFt o) r = _ ∧ (kset (kset M2 (iFt o) i _) (iFf o) i _).1 (iFf o) r = _
    rw [kset_ne (Or.inl n5.symm), kset_ap, kset_ap, kset_ne (Or.inl n5)]
    rcases Nat.lt_or_ge r i with q | q
    · rw [if_neg (by omega), if_neg (by omega)]
      exact h1 r q
    · have : r = i := by omega
      subst this
      rw [if_pos ⟨rfl, rfl⟩, if_pos ⟨rfl, rfl⟩]
      exact ⟨rfl, rfl⟩
  · have : i = 36 := by omega
    subst this
    simp (disch := omega) only [li0, li1, li2, li3, li4, li5, li6, li8, li9, li10, li11, li20, li21, li24, li32, li33, li36, li37, li40, li43, li45, li48, li53, li54, li57, li59, li60, li61, li63, li84, li97, li100, li102, li114, li120, li122, li216, li217, li257, li300, li1296, li1799, li2056, nI_add, pk_mul, nI_subN, pk_div, jremN, nI_leI, nI_ltI, nI_eq, nI_clamp, inb_N, if_pos, if_neg, if_true, if_false, nm, jn, bd2, Option.bind_some, fX2_clear_X2]
    exact wp_some ⟨⟨fun r hr => by rw [(h1 r hr).1, m6_zero], fun r hr => by rw [(h1 r hr).2, m6_zero]⟩, h2⟩
theorem join_wp (hF : FA M o S) (hG : FA M o1 S1) (hne : o ≠ o1) : wp (fX2_join M o o1) (fun M' => FA M' o (fun k => S k || S1 k) ∧ FR (cF o) M M') := by
  unfold fX2_join
  refine wp_for 36 (fun i s => s.1 = nI i ∧ (∀ r, s.2.1 (iFt o) r = (if r < i then M.1 (iFt o) r ||| M.1 (iFt o1) r else M.1 (iFt o) r) ∧ s.2.1 (iFf o) r = (if r < i then M.1 (iFf o) r ||| M.1 (iFf o1) r else M.1 (iFf o) r)) ∧ FR (cF o) M s.2) (fun i s rec hi hI hrec => ?_) (by decide) (Nat.zero_le _) ⟨rfl, fun r => ⟨rfl, rfl⟩, FR.rf⟩
  obtain ⟨v, M2⟩ := s
  obtain ⟨hv, h1, h2⟩ := hI
  have hv : v = nI i := hv
  subst hv
  rw [fX2_join_L2_u]
  have n1 : iFt o1 ≠ iFt o := by unfold iFt; omega
  have n2 : iFt o1 ≠ iFf o := by unfold iFt iFf; omega
  have n3 : iFf o1 ≠ iFt o := by unfold iFt iFf; omega
  have n4 : iFf o1 ≠ iFf o := by unfold iFf; omega
  have n5 : iFf o ≠ iFt o := by unfold iFt iFf; omega
  rcases Nat.lt_or_ge i 36 with hlt | hge
  · simp (disch := omega) only [li0, li1, li2, li3, li4, li5, li6, li8, li9, li10, li11, li20, li21, li24, li32, li33, li36, li37, li40, li43, li45, li48, li53, li54, li57, li59, li60, li61, li63, li84, li97, li100, li102, li114, li120, li122, li216, li217, li257, li300, li1296, li1799, li2056, nI_add, pk_mul, nI_subN, pk_div, jremN, nI_leI, nI_ltI, nI_eq, nI_clamp, inb_N, if_pos, if_neg, if_true, if_false, nm, jn, bd2, Option.bind_some]
    have e1 : M2.1 (iFt o1) i = M.1 (iFt o1) i := congrFun (h2.1 _ (fun z => z.elim n1 n2)) i
    have e2 : M2.1 (iFf o1) i = M.1 (iFf o1) i := congrFun (h2.1 _ (fun z => z.elim n3 n4)) i
    have e3 := (h1 i).1
    have e4 := (h1 i).2
    rw [if_neg (Nat.lt_irrefl _)] at e3 e4
    refine hrec _ hlt ⟨rfl, fun r => ?_, (h2.set (Or.inl rfl)).set (Or.inr rfl)⟩
    show (kset (kset M2 (iFt o) i _) (iFf o) i _).1 (iFt o) r = _ ∧ (kset (kset M2 (iFt o) i _) (iFf o) i _).1 (iFf o) r = _
    rw [kset_ne (Or.inl n5.symm), kset_c, kset_c, kset_ne (Or.inl n5), kset_ne (Or.inl n5), kset_ne (Or.inl n3), e1, e2, e3, e4]
    by_cases q : r = i
    · subst q
      have t : r < r + 1 := Nat.lt_succ_self r
      rw [if_pos rfl, if_pos rfl, if_pos t, if_pos t]
      exact ⟨rfl, rfl⟩
    · rw [if_neg q, if_neg q, (h1 r).1, (h1 r).2]
      by_cases q2 : r < i
      · have t : r < i + 1 := by omega
        rw [if_pos q2, if_pos t, if_pos q2, if_pos t]
        exact ⟨rfl, rfl⟩
      · have t : ¬ r < i + 1 := by omega
        rw [if_neg q2, if_neg t, if_neg q2, if_neg t]
        exact ⟨rfl, rfl⟩
  · have : i = 36 := by omega
    subst this
    simp (disch := omega) only [li0, li1, li2, li3, li4, li5, li6, li8, li9, li10, li11, li20, li21, li24, li32, li33, li36, li37, li40, li43, li45, li48, li53, li54, li57, li59, li60, li61, li63, li84, li97, li100, li102, li114, li120, li122, li216, li217, li257, li300, li1296, li1799, li2056, nI_add, pk_mul, nI_subN, pk_div, jremN, nI_leI, nI_ltI, nI_eq, nI_clamp, inb_N, if_pos, if_neg, if_true, if_false, nm, jn, bd2, Option.bind_some, fX2_join_X2]
    exact wp_some ⟨⟨fun r hr => by rw [(h1 r).1, if_pos hr, hF.1 r hr, hG.1 r hr, m6_or], fun r hr => by rw [(h1 r).2, if_pos hr, hF.2 r hr, hG.2 r hr, m6_or]⟩, h2⟩
theorem same_eq (hF : FA M o S) (hG : FA M o1 S) : fX2_isSame M o o1 = some (nI 1) := by
  unfold fX2_isSame
  refine wp_is (wp_for 36 (fun i s => s = nI i) (fun i s rec hi hI hrec => ?_) (by decide) (Nat.zero_le _) rfl)
  subst hI
  unfold fX2_isSame_L2
  rcases Nat.lt_or_ge i 36 with hlt | hge
  · simp (disch := omega) only [li0, li1, li2, li3, li4, li5, li6, li8, li9, li10, li11, li20, li21, li24, li32, li33, li36, li37, li40, li43, li45, li48, li53, li54, li57, li59, li60, li61, li63, li84, li97, li100, li102, li114, li120, li122, li216, li217, li257, li300, li1296, li1799, li2056, nI_add, pk_mul, nI_subN, pk_div, jremN, nI_leI, nI_ltI, nI_eq, nI_clamp, inb_N, if_pos, if_neg, if_true, if_false, nm, jn, bd2, Option.bind_some, hF.1 i hlt, hG.1 i hlt, hF.2 i hlt, hG.2 i hlt]
    exact hrec _ hlt rfl
  · have : i = 36 := by omega
    subst this
    simp (disch := omega) only [li0, li1, li2, li3, li4, li5, li6, li8, li9, li10, li11, li20, li21, li24, li32, li33, li36, li37, li40, li43, li45, li48, li53, li54, li57, li59, li60, li61, li63, li84, li97, li100, li102, li114, li120, li122, li216, li217, li257, li300, li1296, li1799, li2056, nI_add, pk_mul, nI_subN, pk_div, jremN, nI_leI, nI_ltI, nI_eq, nI_clamp, inb_N, if_pos, if_neg, if_true, if_false, nm, jn, bd2, Option.bind_some, fX2_isSame_X2]
    exact wp_some rfl
theorem ct_row (S : Nat → Bool) (a i : Nat) : fb_ct S (a + 6 * i) + fb_ct (fun j => S (a + 6 * i + j)) 6 = fb_ct S (a + 6 * (i + 1)) := by
  rw [show a + 6 * (i + 1) = (a + 6 * i) + 6 by omega, fb_ct_split S (a + 6 * i) 6]
theorem size_eq (hF : FA M o S) : fX2_size M o = some (nI (fb_ct S 216)) := by
  unfold fX2_size
  refine wp_is (wp_for 36 (fun i s => s = (nI (fb_ct S (6 * i)), nI i)) (fun i s rec hi hI hrec => ?_) (by decide) (Nat.zero_le _) rfl)
  subst hI
  rw [fX2_size_L4_u]
  rcases Nat.lt_or_ge i 36 with hlt | hge
  · simp (disch := omega) only [li0, li1, li2, li3, li4, li5, li6, li8, li9, li10, li11, li20, li21, li24, li32, li33, li36, li37, li40, li43, li45, li48, li53, li54, li57, li59, li60, li61, li63, li84, li97, li100, li102, li114, li120, li122, li216, li217, li257, li300, li1296, li1799, li2056, nI_add, pk_mul, nI_subN, pk_div, jremN, nI_leI, nI_ltI, nI_eq, nI_clamp, inb_N, if_pos, if_neg, if_true, if_false, nm, jn, bd2, Option.bind_some, hF.1 i hlt, m6_cnt]
    refine hrec _ hlt ?_
    rw [Prod.mk.injEq]
    refine ⟨congrArg nI ?_, rfl⟩
    have := ct_row S 0 i
    simp only [Nat.zero_add] at this
    exact this
  · have : i = 36 := by omega
    subst this
    simp (disch := omega) only [li0, li1, li2, li3, li4, li5, li6, li8, li9, li10, li11, li20, li21, li24, li32, li33, li36, li37, li40, li43, li45, li48, li53, li54, li57, li59, li60, li61, li63, li84, li97, li100, li102, li114, li120, li122, li216, li217, li257, li300, li1296, li1799, li2056, nI_add, pk_mul, nI_subN, pk_div, jremN, nI_leI, nI_ltI, nI_eq, nI_clamp, inb_N, if_pos, if_neg, if_true, if_false, nm, jn, bd2, Option.bind_some, fX2_size_X4]
    exact wp_some rfl
theorem sizeOf_eq (hF : FA M o S) {r : Nat} (hr : r < 6) : fX2_sizeOf M o (nI r) = some (nI (fb_ct (fun k => S (36 * r + k)) 36)) := by
  unfold fX2_sizeOf
  refine wp_is (wp_for 6 (fun i s => s = (nI (fb_ct (fun k => S (36 * r + k)) (6 * i)), nI i)) (fun i s rec hi hI hrec => ?_) (by decide) (Nat.zero_le _) rfl)
  subst hI
  rw [fX2_sizeOf_L4_u]
  rcases Nat.lt_or_ge i 6 with hlt | hge
  · simp (disch := omega) only [li0, li1, li2, li3, li4, li5, li6, li8, li9, li10, li11, li20, li21, li24, li32, li33, li36, li37, li40, li43, li45, li48, li53, li54, li57, li59, li60, li61, li63, li84, li97, li100, li102, li114, li120, li122, li216, li217, li257, li300, li1296, li1799, li2056, nI_add, pk_mul, nI_subN, pk_div, jremN, nI_leI, nI_ltI, nI_eq, nI_clamp, inb_N, if_pos, if_neg, if_true, if_false, nm, jn, bd2, Option.bind_some, to_eq hF hr hlt, m6_cnt]
    refine hrec _ hlt ?_
    rw [Prod.mk.injEq]
    refine ⟨congrArg nI ?_, rfl⟩
    have := ct_row (fun k => S (36 * r + k)) 0 i
    simp only [Nat.zero_add] at this
    rw [← this]
    congr 1
  · have : i = 6 := by omega
    subst this
    simp (disch := omega) only [li0, li1, li2, li3, li4, li5, li6, li8, li9, li10, li11, li20, li21, li24, li32, li33, li36, li37, li40, li43, li45, li48, li53, li54, li57, li59, li60, li61, li63, li84, li97, li100, li102, li114, li120, li122, li216, li217, li257, li300, li1296, li1799, li2056, nI_add, pk_mul, nI_subN, pk_div, jremN, nI_leI, nI_ltI, nI_eq, nI_clamp, inb_N, if_pos, if_neg, if_true, if_false, nm, jn, bd2, Option.bind_some, fX2_sizeOf_X4]
    exact wp_some rfl
theorem self_eq (hF : FA M o S) {r : Nat} (hr : r < 6) : fX2_toThemselves M o (nI r) = some (m6 (fun j => S (36 * r + 7 * j))) := by
  unfold fX2_toThemselves
  refine wp_is (wp_for 6 (fun i s => s = (m6 (fun j => decide (j < i) && S (36 * r + 7 * j)), nI i)) (fun i s rec hi hI hrec => ?_) (by decide) (Nat.zero_le _) (by rw [Prod.mk.injEq]; exact ⟨m6_zero, rfl⟩))
  subst hI
  rw [fX2_toThemselves_L4_u]
  rcases Nat.lt_or_ge i 6 with hlt | hge
  · simp (disch := omega) only [li0, li1, li2, li3, li4, li5, li6, li8, li9, li10, li11, li20, li21, li24, li32, li33, li36, li37, li40, li43, li45, li48, li53, li54, li57, li59, li60, li61, li63, li84, li97, li100, li102, li114, li120, li122, li216, li217, li257, li300, li1296, li1799, li2056, nI_add, pk_mul, nI_subN, pk_div, jremN, nI_leI, nI_ltI, nI_eq, nI_clamp, inb_N, if_pos, if_neg, if_true, if_false, nm, jn, bd2, Option.bind_some, hF.1 (6 * r + i) (by omega), m6_one hlt, m6_and, m6_or]
    refine hrec _ hlt ?_
    rw [Prod.mk.injEq]
    refine ⟨m6_cong fun j hj => ?_, rfl⟩
    by_cases q : j = i
    · subst q
      rw [decide_eq_false (Nat.lt_irrefl _), decide_eq_true (Nat.lt_succ_self _), show (j == j) = true from beq_self_eq_true j, show 6 * (6 * r + j) + j = 36 * r + 7 * j by omega]
      simp
    · rw [show (j == i) = false from beq_eq_false_iff_ne.mpr q, Bool.and_false, Bool.or_false]
      congr 1
      rw [Bool.eq_iff_iff]
      simp only [decide_eq_true_eq]
      omega
  · have : i = 6 := by omega
    subst this
    simp (disch := omega) only [li0, li1, li2, li3, li4, li5, li6, li8, li9, li10, li11, li20, li21, li24, li32, li33, li36, li37, li40, li43, li45, li48, li53, li54, li57, li59, li60, li61, li63, li84, li97, li100, li102, li114, li120, li122, li216, li217, li257, li300, li1296, li1799, li2056, nI_add, pk_mul, nI_subN, pk_div, jremN, nI_leI, nI_ltI, nI_eq, nI_clamp, inb_N, if_pos, if_neg, if_true, if_false, nm, jn, bd2, Option.bind_some, fX2_toThemselves_X4]
    exact wp_some (m6_cong fun j hj => by rw [decide_eq_true hj, Bool.true_and])
end FAR
