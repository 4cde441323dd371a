/-! ===== the class: what a fact needs, and rests on ===== -/
theorem ite_t {α : Type} {c : Prop} {dec : Decidable c} {a b : α} (hc : c) : @ite α c dec a b = a := if_pos hc
theorem ite_f {α : Type} {c : Prop} {dec : Decidable c} {a b : α} (hc : ¬ c) : @ite α c dec a b = b := if_neg hc
/-- nothing but the int cells of P is changed -/
def FQ (P : Nat → Prop) (M M' : KS) : Prop := ∀ a, ¬ P a → M'.1 a = M.1 a
theorem FQ.rf {P : Nat → Prop} {M : KS} : FQ P M M := fun _ _ => rfl
theorem FQ.tr {P : Nat → Prop} {M M1 M2 : KS} (h : FQ P M M1) (k : FQ P M1 M2) : FQ P M M2 := fun a ha => (k a ha).trans (h a ha)
theorem FQ.set {P : Nat → Prop} {M M1 : KS} {i j : Nat} {v : Int32} (h : FQ P M M1) (hi : P i) : FQ P M (kset M1 i j v) := fun a ha => (kset_nc (fun z => ha (by rw [z]; exact hi))).trans (h a ha)
theorem FQ.setL {P : Nat → Prop} {M M1 : KS} {j : Nat} {v : Int64} (h : FQ P M M1) : FQ P M (ksetL M1 j v) := h
theorem FQ.wk {P Q : Nat → Prop} {M M1 : KS} (h : FQ P M M1) (k : ∀ a, P a → Q a) : FQ Q M M1 := fun a ha => h a (fun z => ha (k a z))
theorem FR.q {P : Nat → Prop} {M M1 : KS} (h : FR P M M1) : FQ P M M1 := h.1
theorem FA.fq {M M' : KS} {o : Nat} {S : Nat → Bool} {P : Nat → Prop} (h : FA M o S) (k : FQ P M M') (h1 : ¬ P (iFt o)) (h2 : ¬ P (iFf o)) : FA M' o S := h.keep (k _ h1) (k _ h2)
theorem RB.fq {M M' : KS} {o m : Nat} {R : RS} {P : Nat → Prop} (h : RB M o m R) (k : FQ P M M') (h1 : ¬ P (iRh o)) (h2 : ¬ P (iRc o)) (h3 : ¬ P (iRa o)) : RB M' o m R := h.keep (k _ h1) (k _ h2) (k _ h3)
theorem RA.fq {M M' : KS} {o : Nat} {R : RS} {P : Nat → Prop} (h : RA M o R) (k : FQ P M M') (h0 : ¬ P (iR o)) (h1 : ¬ P (iRh o)) (h2 : ¬ P (iRc o)) (h3 : ¬ P (iRa o)) : RA M' o R := ⟨by rw [k _ h0]; exact h.1, h.2.fq k h1 h2 h3⟩
theorem LA6.fq {M M' : KS} {y : Nat} {A : Nat → Nat} {P : Nat → Prop} (h : LA6 M y A) (k : FQ P M M') (h1 : ¬ P (iYl y)) : LA6 M' y A := fun q hq => by rw [k _ h1]; exact h q hq
/-- 36 bits for each relation -/
def RT (M : KS) (k : Nat) (f : Nat → Bool) : Prop := ∀ t, t < 6 → ∀ b, b < 64 → (M.2 (6 * k + t)).toBitVec.getLsbD b = (decide (b < 36) && f (36 * t + b))
theorem RT.cong {M : KS} {k : Nat} {f g : Nat → Bool} (h : RT M k f) (e : ∀ m, m < 216 → f m = g m) : RT M k g := fun t ht b hb => by
  rw [h t ht b hb]
  by_cases q : b < 36
  · rw [e _ (by omega)]
  · rw [decide_eq_false q, Bool.false_and, Bool.false_and]
/-- the arrays of a derivation, in the class -/
def KX (M : KS) (X : DX) : Prop := ∀ k, k < 216 → M.1 107 k = nI (X.2.1 k) ∧ M.1 108 k = (if 0 < X.2.1 k then nI (X.2.2.1 k) else -nI 1) ∧ M.1 109 k = (if 0 < X.2.1 k then nI (X.2.2.2.1 k) else -nI 1) ∧ M.1 110 k = nI (X.2.2.2.2.1 k) ∧ RT M k (X.2.2.2.2.2 k)
/-- bounds of a derivation -/
def XB (R : RS) (X : DX) (b : Nat) : Prop := ∀ k, k < 216 → X.2.1 k ≤ 300 ∧ (0 < X.2.1 k → X.1 k = true ∧ X.2.2.1 k < R.1 ∧ X.2.2.2.1 k < 6) ∧ X.2.2.2.2.1 k ≤ b ∧ (X.1 k = false → X.2.2.2.2.1 k = 0 ∧ ∀ m, m < 216 → X.2.2.2.2.2 k m = (m == k))
section KND
variable {M : KS} {o : Nat} {R : RS} {X : DX}
theorem num_eq {r x y : Nat} : fX9_numberOf (nI r) (nI x) (nI y) = nI (36 * r + 6 * x + y) := by
  unfold fX9_numberOf
  simp (disch := omega) only [li0, li1, li2, li3, li4, li5, li6, li8, li9, li10, li11, li20, li21, li24, li32, li33, li36, li37, li40, li43, li45, li48, li53, li54, li57, li59, li60, li61, li63, li84, li97, li100, li102, li114, li120, li122, li216, li217, li257, li300, li1296, li1799, li2056, nI_add, pk_mul, nI_subN, pk_div, jremN, nI_leI, nI_ltI, nI_eq, nI_clamp, inb_N, if_pos, if_neg, if_true, if_false, nm, jn, bd2, Option.bind_some]
theorem per_eq {k l z : Nat} (hk : k < 216) (hl : l < 3) : fX1_person (nI l) (nI k) (nI z) = nI (lt3 l (k / 6 % 6) (k % 6) z) := by
  unfold fX1_person lt3
  match l, hl with
  | 0, _ => simp (disch := omega) only [li0, li1, li2, li3, li4, li5, li6, li8, li9, li10, li11, li20, li21, li24, li32, li33, li36, li37, li40, li43, li45, li48, li53, li54, li57, li59, li60, li61, li63, li84, li97, li100, li102, li114, li120, li122, li216, li217, li257, li300, li1296, li1799, li2056, nI_add, pk_mul, nI_subN, pk_div, jremN, nI_leI, nI_ltI, nI_eq, nI_clamp, inb_N, if_pos, if_neg, if_true, if_false, nm, jn, bd2, Option.bind_some]
  | 1, _ => simp (disch := omega) only [li0, li1, li2, li3, li4, li5, li6, li8, li9, li10, li11, li20, li21, li24, li32, li33, li36, li37, li40, li43, li45, li48, li53, li54, li57, li59, li60, li61, li63, li84, li97, li100, li102, li114, li120, li122, li216, li217, li257, li300, li1296, li1799, li2056, nI_add, pk_mul, nI_subN, pk_div, jremN, nI_leI, nI_ltI, nI_eq, nI_clamp, inb_N, if_pos, if_neg, if_true, if_false, nm, jn, bd2, Option.bind_some]
  | 2, _ => simp (disch := omega) only [li0, li1, li2, li3, li4, li5, li6, li8, li9, li10, li11, li20, li21, li24, li32, li33, li36, li37, li40, li43, li45, li48, li53, li54, li57, li59, li60, li61, li63, li84, li97, li100, li102, li114, li120, li122, li216, li217, li257, li300, li1296, li1799, li2056, nI_add, pk_mul, nI_subN, pk_div, jremN, nI_leI, nI_ltI, nI_eq, nI_clamp, inb_N, if_pos, if_neg, if_true, if_false, nm, jn, bd2, Option.bind_some]
theorem need_raw {k r z j : Nat} (hR : RB M o R.1 R) (hn10 : R.1 ≤ 10) (hO : ∀ r, r < R.1 → OK1 R r) (hk : k < 216) (hr : r < R.1) (hz : z < 6) (hj : j < 3) (h1 : M.1 108 k = nI r) (h2 : M.1 109 k = nI z) : fX1_need M o (nI k) (nI j) = some (if psc R r j then nI (ndc R r k z j) else -nI 1) := by
  unfold fX1_need
  have hc := (hO r hr).2 j hj
  simp (disch := omega) only [li0, li1, li2, li3, li4, li5, li6, li8, li9, li10, li11, li20, li21, li24, li32, li33, li36, li37, li40, li43, li45, li48, li53, li54, li57, li59, li60, li61, li63, li84, li97, li100, li102, li114, li120, li122, li216, li217, li257, li300, li1296, li1799, li2056, nI_add, pk_mul, nI_subN, pk_div, jremN, nI_leI, nI_ltI, nI_eq, nI_clamp, inb_N, if_pos, if_neg, if_true, if_false, nm, jn, bd2, Option.bind_some, h1, code_eq hR hr (show R.1 ≤ 11 by omega) hj]
  unfold psc
  by_cases q : 0 < R.2.2 r j
  · have h0 : R.2.2 r j ≠ 0 := fun z => by rw [z] at q; exact absurd q (by decide)
    rw [decide_eq_true q, if_pos rfl]
    have q' : nI 0 < R.2.2 r j := q
    refine Eq.trans (ite_t q') ?_
    rw [kc_fst hc h0, kc_snd hc h0, kc_rel hc h0]
    simp (disch := omega) only [li0, li1, li2, li3, li4, li5, li6, li8, li9, li10, li11, li20, li21, li24, li32, li33, li36, li37, li40, li43, li45, li48, li53, li54, li57, li59, li60, li61, li63, li84, li97, li100, li102, li114, li120, li122, li216, li217, li257, li300, li1296, li1799, li2056, nI_add, pk_mul, nI_subN, pk_div, jremN, nI_leI, nI_ltI, nI_eq, nI_clamp, inb_N, if_pos, if_neg, if_true, if_false, nm, jn, bd2, Option.bind_some, h2, per_eq hk (kb1_lt (R.2.2 r j)), per_eq hk (kb2_lt (R.2.2 r j)), num_eq]
    rfl
  · have q' : ¬ nI 0 < R.2.2 r j := q
    refine Eq.trans (ite_f q') ?_
    rw [decide_eq_false q, if_neg Bool.false_ne_true]
theorem need_none {k : Nat} {j : Nat} (hk : k < 216) (h1 : M.1 108 k = -nI 1) : fX1_need M o (nI k) (nI j) = some (-nI 1) := by
  unfold fX1_need
  simp (disch := omega) only [li0, li1, li2, li3, li4, li5, li6, li8, li9, li10, li11, li20, li21, li24, li32, li33, li36, li37, li40, li43, li45, li48, li53, li54, li57, li59, li60, li61, li63, li84, li97, li100, li102, li114, li120, li122, li216, li217, li257, li300, li1296, li1799, li2056, nI_add, pk_mul, nI_subN, pk_div, jremN, nI_leI, nI_ltI, nI_eq, nI_clamp, inb_N, if_pos, if_neg, if_true, if_false, nm, jn, bd2, Option.bind_some, h1]
  unfold fX6_code
  rw [if_pos (by decide)]
  rfl
theorem need_eq {k j b : Nat} (hX : KX M X) (hB : XB R X b) (hR : RB M o R.1 R) (hn10 : R.1 ≤ 10) (hO : ∀ r, r < R.1 → OK1 R r) (hk : k < 216) (hj : j < 3) : fX1_need M o (nI k) (nI j) = some (if 0 < X.2.1 k ∧ psc R (X.2.2.1 k) j = true then nI (ndc R (X.2.2.1 k) k (X.2.2.2.1 k) j) else -nI 1) := by
  have h := hX k hk
  have hb := hB k hk
  by_cases q : 0 < X.2.1 k
  · rw [if_pos q, if_pos q] at h
    have hb2 := hb.2.1 q
    rw [need_raw hR hn10 hO hk hb2.2.1 hb2.2.2 hj h.2.1 h.2.2.1]
    cases hp : psc R (X.2.2.1 k) j
    · rw [if_neg (by decide), if_neg (fun z => absurd z.2 (by decide))]
    · rw [if_pos rfl, if_pos ⟨q, rfl⟩]
  · rw [if_neg q] at h
    rw [need_none hk h.2.1, if_neg (fun z => q z.1)]
theorem ndc_lt {r k z j : Nat} (hO : OK1 R r) (hk : k < 216) (hz : z < 6) (hj : j < 3) : ndc R r k z j < 216 := fc_lt (hO.2 j hj) (by omega) (by omega) hz
/-- what a rule needs holds -/
theorem nd_holds {S : Nat → Bool} {r k z j : Nat} (hm : mk S R r (k / 6 % 6) (k % 6) z = true) (hj : j < 3) (hp : psc R r j = true) : S (ndc R r k z j) = true := by
  have hp' : 0 < R.2.2 r j := of_decide_eq_true hp
  have h0 : R.2.2 r j ≠ 0 := fun z => by rw [z] at hp'; exact absurd hp' (by decide)
  have hc : cond S (R.2.2 r j) (k / 6 % 6) (k % 6) z = true := by
    unfold mk at hm
    simp only [Bool.and_eq_true] at hm
    match j, hj with
    | 0, _ => exact hm.1.1
    | 1, _ => exact hm.1.2
    | 2, _ => exact hm.2
  unfold cond at hc
  rw [decide_eq_false h0, Bool.false_or, decide_eq_true hp', beq_iff_eq] at hc
  exact hc
end KND
