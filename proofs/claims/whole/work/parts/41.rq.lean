/-! ===== the reference's questions ===== -/
/-- a row of the reference: what is told, the rules -/
def MD (f : Nat → Int32) (T : Nat → Bool) (R : RS) : Prop := (∀ k, k < 216 → f k = bI (T k)) ∧ f 216 = nI R.1 ∧ MB f R.1 R
section RQ
variable {N : KS} {R : RS} {X : DX} {A : Nat → Nat} {b : Nat} {T S : Nat → Bool}
theorem bI_1 {b : Bool} : bI b = nI 1 ↔ b = true := by cases b <;> decide
theorem szr_p (S : Nat → Bool) (q : Nat) (hq : q < 6) : fb_ct (fun k => S k && decide (k / 36 = q)) 216 = szr S q := by
  have e1 := fb_ct_split (fun k => S k && decide (k / 36 = q)) (36 * q) (216 - 36 * q)
  rw [show 36 * q + (216 - 36 * q) = 216 by omega] at e1
  have e2 := fb_ct_split (fun k => S (36 * q + k) && decide ((36 * q + k) / 36 = q)) 36 (216 - 36 * q - 36)
  rw [show 36 + (216 - 36 * q - 36) = 216 - 36 * q by omega] at e2
  have z1 : fb_ct (fun k => S k && decide (k / 36 = q)) (36 * q) = 0 := fb_ct_zero.mpr (fun k hk => by
    show (S k && decide (k / 36 = q)) = false
    rw [decide_eq_false (by omega), Bool.and_false])
  have z2 : fb_ct (fun k => S (36 * q + (36 + k)) && decide ((36 * q + (36 + k)) / 36 = q)) (216 - 36 * q - 36) = 0 := fb_ct_zero.mpr (fun k hk => by
    show (S (36 * q + (36 + k)) && decide ((36 * q + (36 + k)) / 36 = q)) = false
    rw [decide_eq_false (by omega), Bool.and_false])
  have z3 : fb_ct (fun k => S (36 * q + k) && decide ((36 * q + k) / 36 = q)) 36 = szr S q := fb_ct_cong (fun k hk => by
    show (S (36 * q + k) && decide ((36 * q + k) / 36 = q)) = S (36 * q + k)
    rw [decide_eq_true (by omega), Bool.and_true])
  have e1' : fb_ct (fun k => S k && decide (k / 36 = q)) 216 = fb_ct (fun k => S k && decide (k / 36 = q)) (36 * q) + fb_ct (fun k => S (36 * q + k) && decide ((36 * q + k) / 36 = q)) (216 - 36 * q) := e1
  have e2' : fb_ct (fun k => S (36 * q + k) && decide ((36 * q + k) / 36 = q)) (216 - 36 * q) = fb_ct (fun k => S (36 * q + k) && decide ((36 * q + k) / 36 = q)) 36 + fb_ct (fun k => S (36 * q + (36 + k)) && decide ((36 * q + (36 + k)) / 36 = q)) (216 - 36 * q - 36) := e2
  omega
theorem rhold_eq (hS : STG N S) {q : Nat} (hq : q < 6) : fX10_holding N (nI q) = some (nI (szr S q)) := by
  rw [← szr_p S q hq]
  unfold fX10_holding
  refine lp_run (fun i => (nI (fb_ct (fun k => S k && decide (k / 36 = q)) i), nI i)) (e := 216) (by decide) (fun i rec hi => ?_) (fun rec => ?_)
  · show fX10_holding_L4 N (nI q) rec _ (nI _, nI i) = rec (nI (_ + if (S i && decide (i / 36 = q)) = true then 1 else 0), nI (i + 1))
    rw [fX10_holding_L4_u]
    have hs := (stg_lt hS hi).1
    have hq0 := nI_lt0 (a := q) (by omega)
    cases e : S i
    · have hs' := hs.mpr e
      simp (disch := omega) only [li0, li1, li2, li3, li4, li5, li6, li8, li9, li10, li11, li20, li21, li24, li32, li33, li36, li37, li40, li43, li45, li48, li53, li54, li57, li59, li60, li61, li63, li84, li97, li100, li102, li114, li120, li122, li216, li217, li257, li300, li1296, li1799, li2056, nI_add, pk_mul, nI_subN, pk_div, jremN, nI_leI, nI_ltI, nI_eq, nI_clamp, inb_N, if_pos, if_neg, if_true, if_false, nm, jn, bd2, Option.bind_some, hs', Bool.false_and, Bool.false_eq_true, Nat.add_zero]
    · have hs' : ¬ N.1 6 i < nI 0 := fun z => by rw [hs.mp z] at e; exact absurd e (by decide)
      by_cases e2 : i / 36 = q
      · simp (disch := omega) only [li0, li1, li2, li3, li4, li5, li6, li8, li9, li10, li11, li20, li21, li24, li32, li33, li36, li37, li40, li43, li45, li48, li53, li54, li57, li59, li60, li61, li63, li84, li97, li100, li102, li114, li120, li122, li216, li217, li257, li300, li1296, li1799, li2056, nI_add, pk_mul, nI_subN, pk_div, jremN, nI_leI, nI_ltI, nI_eq, nI_clamp, inb_N, if_pos, if_neg, if_true, if_false, nm, jn, bd2, Option.bind_some, hs', hq0, e2, decide_true, Bool.and_self]
      · simp (disch := omega) only [li0, li1, li2, li3, li4, li5, li6, li8, li9, li10, li11, li20, li21, li24, li32, li33, li36, li37, li40, li43, li45, li48, li53, li54, li57, li59, li60, li61, li63, li84, li97, li100, li102, li114, li120, li122, li216, li217, li257, li300, li1296, li1799, li2056, nI_add, pk_mul, nI_subN, pk_div, jremN, nI_leI, nI_ltI, nI_eq, nI_clamp, inb_N, if_pos, if_neg, if_true, if_false, nm, jn, bd2, Option.bind_some, hs', hq0, e2, decide_false, Bool.and_false, Bool.false_eq_true, Nat.add_zero]
  · show fX10_holding_L4 N (nI q) rec _ (nI _, nI 216) = _
    rw [fX10_holding_L4_u]
    simp (disch := omega) only [li0, li1, li2, li3, li4, li5, li6, li8, li9, li10, li11, li20, li21, li24, li32, li33, li36, li37, li40, li43, li45, li48, li53, li54, li57, li59, li60, li61, li63, li84, li97, li100, li102, li114, li120, li122, li216, li217, li257, li300, li1296, li1799, li2056, nI_add, pk_mul, nI_subN, pk_div, jremN, nI_leI, nI_ltI, nI_eq, nI_clamp, inb_N, if_pos, if_neg, if_true, if_false, nm, jn, bd2, Option.bind_some, fX10_holding_X4]
theorem rholda_eq (hS : STG N S) : fX10_holding N (-1) = some (nI (fb_ct S 216)) := by
  unfold fX10_holding
  refine lp_run (fun i => (nI (fb_ct S i), nI i)) (e := 216) (by decide) (fun i rec hi => ?_) (fun rec => ?_)
  · show fX10_holding_L4 N (-nI 1) rec _ (nI _, nI i) = rec (nI (_ + if S i = true then 1 else 0), nI (i + 1))
    rw [fX10_holding_L4_u]
    have hs := (stg_lt hS hi).1
    cases e : S i
    · have hs' := hs.mpr e
      simp (disch := omega) only [li0, li1, li2, li3, li4, li5, li6, li8, li9, li10, li11, li20, li21, li24, li32, li33, li36, li37, li40, li43, li45, li48, li53, li54, li57, li59, li60, li61, li63, li84, li97, li100, li102, li114, li120, li122, li216, li217, li257, li300, li1296, li1799, li2056, nI_add, pk_mul, nI_subN, pk_div, jremN, nI_leI, nI_ltI, nI_eq, nI_clamp, inb_N, if_pos, if_neg, if_true, if_false, nm, jn, bd2, Option.bind_some, hs', Bool.false_eq_true, Nat.add_zero]
    · have hs' : ¬ N.1 6 i < nI 0 := fun z => by rw [hs.mp z] at e; exact absurd e (by decide)
      simp (disch := omega) only [li0, li1, li2, li3, li4, li5, li6, li8, li9, li10, li11, li20, li21, li24, li32, li33, li36, li37, li40, li43, li45, li48, li53, li54, li57, li59, li60, li61, li63, li84, li97, li100, li102, li114, li120, li122, li216, li217, li257, li300, li1296, li1799, li2056, nI_add, pk_mul, nI_subN, pk_div, jremN, nI_leI, nI_ltI, nI_eq, nI_clamp, inb_N, if_pos, if_neg, if_true, if_false, nm, jn, bd2, Option.bind_some, hs', neg1_lt0]
  · show fX10_holding_L4 N (-nI 1) rec _ (nI _, nI 216) = _
    rw [fX10_holding_L4_u]
    simp (disch := omega) only [li0, li1, li2, li3, li4, li5, li6, li8, li9, li10, li11, li20, li21, li24, li32, li33, li36, li37, li40, li43, li45, li48, li53, li54, li57, li59, li60, li61, li63, li84, li97, li100, li102, li114, li120, li122, li216, li217, li257, li300, li1296, li1799, li2056, nI_add, pk_mul, nI_subN, pk_div, jremN, nI_leI, nI_ltI, nI_eq, nI_clamp, inb_N, if_pos, if_neg, if_true, if_false, nm, jn, bd2, Option.bind_some, fX10_holding_X4]
theorem rtold_eq (hT : ∀ k, k < 216 → N.1 1 k = bI (T k)) {q : Nat} (hq : q < 6) : fX10_toldOf N (nI q) = some (nI (szr T q)) := by
  rw [← szr_p T q hq]
  unfold fX10_toldOf
  refine lp_run (fun i => (nI (fb_ct (fun k => T k && decide (k / 36 = q)) i), nI i)) (e := 216) (by decide) (fun i rec hi => ?_) (fun rec => ?_)
  · show fX10_toldOf_L4 N (nI q) rec _ (nI _, nI i) = rec (nI (_ + if (T i && decide (i / 36 = q)) = true then 1 else 0), nI (i + 1))
    rw [fX10_toldOf_L4_u]
    have hs := hT i hi
    have hq0 := nI_lt0 (a := q) (by omega)
    have h01 : ¬ (nI 0 : Int32) = nI 1 := by decide
    cases e : T i
    · rw [e, bI_f] at hs
      simp (disch := omega) only [li0, li1, li2, li3, li4, li5, li6, li8, li9, li10, li11, li20, li21, li24, li32, li33, li36, li37, li40, li43, li45, li48, li53, li54, li57, li59, li60, li61, li63, li84, li97, li100, li102, li114, li120, li122, li216, li217, li257, li300, li1296, li1799, li2056, nI_add, pk_mul, nI_subN, pk_div, jremN, nI_leI, nI_ltI, nI_eq, nI_clamp, inb_N, if_pos, if_neg, if_true, if_false, nm, jn, bd2, Option.bind_some, Nat.zero_add, hs, h01, Bool.false_and, Bool.false_eq_true, Nat.add_zero]
    · rw [e, bI_t] at hs
      by_cases e2 : i / 36 = q
      · simp (disch := omega) only [li0, li1, li2, li3, li4, li5, li6, li8, li9, li10, li11, li20, li21, li24, li32, li33, li36, li37, li40, li43, li45, li48, li53, li54, li57, li59, li60, li61, li63, li84, li97, li100, li102, li114, li120, li122, li216, li217, li257, li300, li1296, li1799, li2056, nI_add, pk_mul, nI_subN, pk_div, jremN, nI_leI, nI_ltI, nI_eq, nI_clamp, inb_N, if_pos, if_neg, if_true, if_false, nm, jn, bd2, Option.bind_some, Nat.zero_add, hs, hq0, e2, decide_true, Bool.and_self]
      · simp (disch := omega) only [li0, li1, li2, li3, li4, li5, li6, li8, li9, li10, li11, li20, li21, li24, li32, li33, li36, li37, li40, li43, li45, li48, li53, li54, li57, li59, li60, li61, li63, li84, li97, li100, li102, li114, li120, li122, li216, li217, li257, li300, li1296, li1799, li2056, nI_add, pk_mul, nI_subN, pk_div, jremN, nI_leI, nI_ltI, nI_eq, nI_clamp, inb_N, if_pos, if_neg, if_true, if_false, nm, jn, bd2, Option.bind_some, Nat.zero_add, hs, hq0, e2, decide_false, Bool.and_false, Bool.false_eq_true, Nat.add_zero]
  · show fX10_toldOf_L4 N (nI q) rec _ (nI _, nI 216) = _
    rw [fX10_toldOf_L4_u]
    simp (disch := omega) only [li0, li1, li2, li3, li4, li5, li6, li8, li9, li10, li11, li20, li21, li24, li32, li33, li36, li37, li40, li43, li45, li48, li53, li54, li57, li59, li60, li61, li63, li84, li97, li100, li102, li114, li120, li122, li216, li217, li257, li300, li1296, li1799, li2056, nI_add, pk_mul, nI_subN, pk_div, jremN, nI_leI, nI_ltI, nI_eq, nI_clamp, inb_N, if_pos, if_neg, if_true, if_false, nm, jn, bd2, Option.bind_some, fX10_toldOf_X4]
theorem rtolda_eq (hT : ∀ k, k < 216 → N.1 1 k = bI (T k)) : fX10_toldOf N (-1) = some (nI (fb_ct T 216)) := by
  unfold fX10_toldOf
  refine lp_run (fun i => (nI (fb_ct T i), nI i)) (e := 216) (by decide) (fun i rec hi => ?_) (fun rec => ?_)
  · show fX10_toldOf_L4 N (-nI 1) rec _ (nI _, nI i) = rec (nI (_ + if T i = true then 1 else 0), nI (i + 1))
    rw [fX10_toldOf_L4_u]
    have hs := hT i hi
    have h01 : ¬ (nI 0 : Int32) = nI 1 := by decide
    cases e : T i
    · rw [e, bI_f] at hs
      simp (disch := omega) only [li0, li1, li2, li3, li4, li5, li6, li8, li9, li10, li11, li20, li21, li24, li32, li33, li36, li37, li40, li43, li45, li48, li53, li54, li57, li59, li60, li61, li63, li84, li97, li100, li102, li114, li120, li122, li216, li217, li257, li300, li1296, li1799, li2056, nI_add, pk_mul, nI_subN, pk_div, jremN, nI_leI, nI_ltI, nI_eq, nI_clamp, inb_N, if_pos, if_neg, if_true, if_false, nm, jn, bd2, Option.bind_some, Nat.zero_add, hs, h01, Bool.false_eq_true, Nat.add_zero]
    · rw [e, bI_t] at hs
      simp (disch := omega) only [li0, li1, li2, li3, li4, li5, li6, li8, li9, li10, li11, li20, li21, li24, li32, li33, li36, li37, li40, li43, li45, li48, li53, li54, li57, li59, li60, li61, li63, li84, li97, li100, li102, li114, li120, li122, li216, li217, li257, li300, li1296, li1799, li2056, nI_add, pk_mul, nI_subN, pk_div, jremN, nI_leI, nI_ltI, nI_eq, nI_clamp, inb_N, if_pos, if_neg, if_true, if_false, nm, jn, bd2, Option.bind_some, Nat.zero_add, hs, neg1_lt0]
  · show fX10_toldOf_L4 N (-nI 1) rec _ (nI _, nI 216) = _
    rw [fX10_toldOf_L4_u]
    simp (disch := omega) only [li0, li1, li2, li3, li4, li5, li6, li8, li9, li10, li11, li20, li21, li24, li32, li33, li36, li37, li40, li43, li45, li48, li53, li54, li57, li59, li60, li61, li63, li84, li97, li100, li102, li114, li120, li122, li216, li217, li257, li300, li1296, li1799, li2056, nI_add, pk_mul, nI_subN, pk_div, jremN, nI_leI, nI_ltI, nI_eq, nI_clamp, inb_N, if_pos, if_neg, if_true, if_false, nm, jn, bd2, Option.bind_some, fX10_toldOf_X4]
theorem jmaxm {a : Nat} (ha : a < 2 ^ 31) : jmax (nI a) (-nI 1) = nI a := by
  unfold jmax
  rw [if_neg]
  intro z
  rw [fa_lt, nI_toInt ha] at z
  have h4 : (-nI 1 : Int32).toInt = -1 := by decide
  omega
theorem rmaxs_eq (hX : RX N X) (hst : ∀ k, k < 216 → X.1 k = false → X.2.1 k = 0) {q : Nat} (hq : q < 6) : fX10_greatestStage N (nI q) = some (nI (mx6 (fun k => if k / 36 = q then X.2.1 k else 0) 216)) := by
  unfold fX10_greatestStage
  refine lp_run (fun i => (nI (mx6 (fun k => if k / 36 = q then X.2.1 k else 0) i), nI i)) (e := 216) (by decide) (fun i rec hi => ?_) (fun rec => ?_)
  · show fX10_greatestStage_L4 N (nI q) rec _ (nI _, nI i) = rec (nI (max _ (if i / 36 = q then X.2.1 i else 0)), nI (i + 1))
    have h1 := (hX i hi).1
    have h2 := (hX i hi).2.2.2.1
    have h3 : mx6 (fun k => if k / 36 = q then X.2.1 k else 0) i ≤ 300 := mx6_le.mpr (fun k hk => by have := (hX k (by omega)).2.2.2.1; split <;> omega)
    have hq0 := nI_lt0 (a := q) (by omega)
    rw [fX10_greatestStage_L4_u]
    unfold fX10_greatestStage_J23_12
    by_cases e : i / 36 = q
    · cases e2 : X.1 i
      · rw [e2, if_neg (by decide)] at h1
        have h4 := hst i hi e2
        simp (disch := omega) only [li0, li1, li2, li3, li4, li5, li6, li8, li9, li10, li11, li20, li21, li24, li32, li33, li36, li37, li40, li43, li45, li48, li53, li54, li57, li59, li60, li61, li63, li84, li97, li100, li102, li114, li120, li122, li216, li217, li257, li300, li1296, li1799, li2056, nI_add, pk_mul, nI_subN, pk_div, jremN, nI_leI, nI_ltI, nI_eq, nI_clamp, inb_N, if_pos, if_neg, if_true, if_false, nm, jn, bd2, Option.bind_some, hq0, h1, h4, jmaxm, e]
        rw [Nat.max_eq_left (Nat.zero_le _)]
      · rw [e2, if_pos rfl] at h1
        simp (disch := omega) only [li0, li1, li2, li3, li4, li5, li6, li8, li9, li10, li11, li20, li21, li24, li32, li33, li36, li37, li40, li43, li45, li48, li53, li54, li57, li59, li60, li61, li63, li84, li97, li100, li102, li114, li120, li122, li216, li217, li257, li300, li1296, li1799, li2056, nI_add, pk_mul, nI_subN, pk_div, jremN, nI_leI, nI_ltI, nI_eq, nI_clamp, inb_N, if_pos, if_neg, if_true, if_false, nm, jn, bd2, Option.bind_some, hq0, h1, jmaxN, e]
    · simp (disch := omega) only [li0, li1, li2, li3, li4, li5, li6, li8, li9, li10, li11, li20, li21, li24, li32, li33, li36, li37, li40, li43, li45, li48, li53, li54, li57, li59, li60, li61, li63, li84, li97, li100, li102, li114, li120, li122, li216, li217, li257, li300, li1296, li1799, li2056, nI_add, pk_mul, nI_subN, pk_div, jremN, nI_leI, nI_ltI, nI_eq, nI_clamp, inb_N, if_pos, if_neg, if_true, if_false, nm, jn, bd2, Option.bind_some, hq0, e]
      rw [Nat.max_eq_left (Nat.zero_le _)]
  · show fX10_greatestStage_L4 N (nI q) rec _ (nI _, nI 216) = _
    rw [fX10_greatestStage_L4_u]
    simp (disch := omega) only [li0, li1, li2, li3, li4, li5, li6, li8, li9, li10, li11, li20, li21, li24, li32, li33, li36, li37, li40, li43, li45, li48, li53, li54, li57, li59, li60, li61, li63, li84, li97, li100, li102, li114, li120, li122, li216, li217, li257, li300, li1296, li1799, li2056, nI_add, pk_mul, nI_subN, pk_div, jremN, nI_leI, nI_ltI, nI_eq, nI_clamp, inb_N, if_pos, if_neg, if_true, if_false, nm, jn, bd2, Option.bind_some, fX10_greatestStage_X4]
theorem rmaxsa_eq (hX : RX N X) (hst : ∀ k, k < 216 → X.1 k = false → X.2.1 k = 0) : fX10_greatestStage N (-1) = some (nI (mx6 X.2.1 216)) := by
  unfold fX10_greatestStage
  refine lp_run (fun i => (nI (mx6 X.2.1 i), nI i)) (e := 216) (by decide) (fun i rec hi => ?_) (fun rec => ?_)
  · show fX10_greatestStage_L4 N (-nI 1) rec _ (nI _, nI i) = rec (nI (max _ (X.2.1 i)), nI (i + 1))
    have h1 := (hX i hi).1
    have h2 := (hX i hi).2.2.2.1
    have h3 : mx6 X.2.1 i ≤ 300 := mx6_le.mpr (fun k hk => (hX k (by omega)).2.2.2.1)
    rw [fX10_greatestStage_L4_u]
    unfold fX10_greatestStage_J23_12
    cases e2 : X.1 i
    · rw [e2, if_neg (by decide)] at h1
      have h4 := hst i hi e2
      simp (disch := omega) only [li0, li1, li2, li3, li4, li5, li6, li8, li9, li10, li11, li20, li21, li24, li32, li33, li36, li37, li40, li43, li45, li48, li53, li54, li57, li59, li60, li61, li63, li84, li97, li100, li102, li114, li120, li122, li216, li217, li257, li300, li1296, li1799, li2056, nI_add, pk_mul, nI_subN, pk_div, jremN, nI_leI, nI_ltI, nI_eq, nI_clamp, inb_N, if_pos, if_neg, if_true, if_false, nm, jn, bd2, Option.bind_some, neg1_lt0, h1, h4, jmaxm]
      rw [Nat.max_eq_left (Nat.zero_le _)]
    · rw [e2, if_pos rfl] at h1
      simp (disch := omega) only [li0, li1, li2, li3, li4, li5, li6, li8, li9, li10, li11, li20, li21, li24, li32, li33, li36, li37, li40, li43, li45, li48, li53, li54, li57, li59, li60, li61, li63, li84, li97, li100, li102, li114, li120, li122, li216, li217, li257, li300, li1296, li1799, li2056, nI_add, pk_mul, nI_subN, pk_div, jremN, nI_leI, nI_ltI, nI_eq, nI_clamp, inb_N, if_pos, if_neg, if_true, if_false, nm, jn, bd2, Option.bind_some, neg1_lt0, h1, jmaxN]
  · show fX10_greatestStage_L4 N (-nI 1) rec _ (nI _, nI 216) = _
    rw [fX10_greatestStage_L4_u]
    simp (disch := omega) only [li0, li1, li2, li3, li4, li5, li6, li8, li9, li10, li11, li20, li21, li24, li32, li33, li36, li37, li40, li43, li45, li48, li53, li54, li57, li59, li60, li61, li63, li84, li97, li100, li102, li114, li120, li122, li216, li217, li257, li300, li1296, li1799, li2056, nI_add, pk_mul, nI_subN, pk_div, jremN, nI_leI, nI_ltI, nI_eq, nI_clamp, inb_N, if_pos, if_neg, if_true, if_false, nm, jn, bd2, Option.bind_some, fX10_greatestStage_X4]
theorem rncd_eq (hR : MB (N.1 1) R.1 R) (hn10 : R.1 ≤ 10) {r : Nat} (hr : r < R.1) : fX10_conditionMany N (nI r) 0 = some (nI (ncd R r)) := by
  unfold fX10_conditionMany ncd
  refine lp_run (fun j => (nI (fb_ct (fun j => decide (R.2.2 r j ≠ 0)) j), nI j)) (e := 3) (by decide) (fun j rec hj => ?_) (fun rec => ?_)
  · show fX10_conditionMany_L5 N (nI r) 0 rec _ (nI _, nI j) = rec (nI (_ + if decide (R.2.2 r j ≠ 0) = true then 1 else 0), nI (j + 1))
    rw [fX10_conditionMany_L5_u]
    refine Eq.trans (ite_f (nI_ge hj (by decide))) ?_
    rw [rcond_eq hR hr hn10 hj, Option.bind_some]
    refine Eq.trans (ite_t rfl) ?_
    by_cases h0 : R.2.2 r j = 0
    · refine Eq.trans (ite_t h0) ?_
      rw [decide_eq_false (fun z => z h0)]
      simp (disch := omega) only [li0, li1, li2, li3, li4, li5, li6, li8, li9, li10, li11, li20, li21, li24, li32, li33, li36, li37, li40, li43, li45, li48, li53, li54, li57, li59, li60, li61, li63, li84, li97, li100, li102, li114, li120, li122, li216, li217, li257, li300, li1296, li1799, li2056, nI_add, pk_mul, nI_subN, pk_div, jremN, nI_leI, nI_ltI, nI_eq, nI_clamp, inb_N, if_pos, if_neg, if_true, if_false, nm, jn, bd2, Option.bind_some, Bool.false_eq_true, Nat.add_zero]
    · refine Eq.trans (ite_f h0) ?_
      rw [decide_eq_true h0]
      simp (disch := omega) only [li0, li1, li2, li3, li4, li5, li6, li8, li9, li10, li11, li20, li21, li24, li32, li33, li36, li37, li40, li43, li45, li48, li53, li54, li57, li59, li60, li61, li63, li84, li97, li100, li102, li114, li120, li122, li216, li217, li257, li300, li1296, li1799, li2056, nI_add, pk_mul, nI_subN, pk_div, jremN, nI_leI, nI_ltI, nI_eq, nI_clamp, inb_N, if_pos, if_neg, if_true, if_false, nm, jn, bd2, Option.bind_some]
  · show fX10_conditionMany_L5 N (nI r) 0 rec _ (nI _, nI 3) = _
    rw [fX10_conditionMany_L5_u]
    simp (disch := omega) only [li0, li1, li2, li3, li4, li5, li6, li8, li9, li10, li11, li20, li21, li24, li32, li33, li36, li37, li40, li43, li45, li48, li53, li54, li57, li59, li60, li61, li63, li84, li97, li100, li102, li114, li120, li122, li216, li217, li257, li300, li1296, li1799, li2056, nI_add, pk_mul, nI_subN, pk_div, jremN, nI_leI, nI_ltI, nI_eq, nI_clamp, inb_N, if_pos, if_neg, if_true, if_false, nm, jn, bd2, Option.bind_some, fX10_conditionMany_X5]
theorem rngd1_eq (hR : MB (N.1 1) R.1 R) (hn10 : R.1 ≤ 10) {r : Nat} (hr : r < R.1) : fX10_conditionMany N (nI r) 1 = some (nI (ngd R r)) := by
  unfold fX10_conditionMany ngd
  refine lp_run (fun j => (nI (fb_ct (fun j => decide (R.2.2 r j < 0)) j), nI j)) (e := 3) (by decide) (fun j rec hj => ?_) (fun rec => ?_)
  · show fX10_conditionMany_L5 N (nI r) 1 rec _ (nI _, nI j) = rec (nI (_ + if decide (R.2.2 r j < 0) = true then 1 else 0), nI (j + 1))
    rw [fX10_conditionMany_L5_u]
    refine Eq.trans (ite_f (nI_ge hj (by decide))) ?_
    rw [rcond_eq hR hr hn10 hj, Option.bind_some]
    refine Eq.trans (ite_f (by decide)) ?_
    by_cases h0 : R.2.2 r j < 0
    · refine Eq.trans (ite_f (fun z => sgn_lst.mp z h0)) ?_
      rw [decide_eq_true h0]
      simp (disch := omega) only [li0, li1, li2, li3, li4, li5, li6, li8, li9, li10, li11, li20, li21, li24, li32, li33, li36, li37, li40, li43, li45, li48, li53, li54, li57, li59, li60, li61, li63, li84, li97, li100, li102, li114, li120, li122, li216, li217, li257, li300, li1296, li1799, li2056, nI_add, pk_mul, nI_subN, pk_div, jremN, nI_leI, nI_ltI, nI_eq, nI_clamp, inb_N, if_pos, if_neg, if_true, if_false, nm, jn, bd2, Option.bind_some]
    · refine Eq.trans (ite_t (sgn_lst.mpr h0)) ?_
      rw [decide_eq_false h0]
      simp (disch := omega) only [li0, li1, li2, li3, li4, li5, li6, li8, li9, li10, li11, li20, li21, li24, li32, li33, li36, li37, li40, li43, li45, li48, li53, li54, li57, li59, li60, li61, li63, li84, li97, li100, li102, li114, li120, li122, li216, li217, li257, li300, li1296, li1799, li2056, nI_add, pk_mul, nI_subN, pk_div, jremN, nI_leI, nI_ltI, nI_eq, nI_clamp, inb_N, if_pos, if_neg, if_true, if_false, nm, jn, bd2, Option.bind_some, Bool.false_eq_true, Nat.add_zero]
  · show fX10_conditionMany_L5 N (nI r) 1 rec _ (nI _, nI 3) = _
    rw [fX10_conditionMany_L5_u]
    simp (disch := omega) only [li0, li1, li2, li3, li4, li5, li6, li8, li9, li10, li11, li20, li21, li24, li32, li33, li36, li37, li40, li43, li45, li48, li53, li54, li57, li59, li60, li61, li63, li84, li97, li100, li102, li114, li120, li122, li216, li217, li257, li300, li1296, li1799, li2056, nI_add, pk_mul, nI_subN, pk_div, jremN, nI_leI, nI_ltI, nI_eq, nI_clamp, inb_N, if_pos, if_neg, if_true, if_false, nm, jn, bd2, Option.bind_some, fX10_conditionMany_X5]
theorem rngd_eq (hn : N.1 1 216 = nI R.1) (hR : MB (N.1 1) R.1 R) (hn10 : R.1 ≤ 10) : fX10_negatedMany N = some (nI (fb_sm (ngd R) R.1)) := by
  unfold fX10_negatedMany
  refine lp_run (fun i => (nI (fb_sm (ngd R) i), nI i)) (e := R.1) (by omega) (fun i rec hi => ?_) (fun rec => ?_)
  · show fX10_negatedMany_L4 N rec _ (nI _, nI i) = rec (nI (_ + ngd R i), nI (i + 1))
    rw [fX10_negatedMany_L4_u]
    have := rngd1_eq hR hn10 hi
    rw [li1] at this
    simp (disch := omega) only [li0, li1, li2, li3, li4, li5, li6, li8, li9, li10, li11, li20, li21, li24, li32, li33, li36, li37, li40, li43, li45, li48, li53, li54, li57, li59, li60, li61, li63, li84, li97, li100, li102, li114, li120, li122, li216, li217, li257, li300, li1296, li1799, li2056, nI_add, pk_mul, nI_subN, pk_div, jremN, nI_leI, nI_ltI, nI_eq, nI_clamp, inb_N, if_pos, if_neg, if_true, if_false, nm, jn, bd2, Option.bind_some, hn, this]
  · show fX10_negatedMany_L4 N rec _ (nI _, nI R.1) = _
    rw [fX10_negatedMany_L4_u]
    simp (disch := omega) only [li0, li1, li2, li3, li4, li5, li6, li8, li9, li10, li11, li20, li21, li24, li32, li33, li36, li37, li40, li43, li45, li48, li53, li54, li57, li59, li60, li61, li63, li84, li97, li100, li102, li114, li120, li122, li216, li217, li257, li300, li1296, li1799, li2056, nI_add, pk_mul, nI_subN, pk_div, jremN, nI_leI, nI_ltI, nI_eq, nI_clamp, inb_N, if_pos, if_neg, if_true, if_false, nm, jn, bd2, Option.bind_some, hn, fX10_negatedMany_X4]
theorem rhdw_eq (hn : N.1 1 216 = nI R.1) (hR : MB (N.1 1) R.1 R) (hO : OKR R) {q : Nat} (hq : q < 6) : fX10_inRules N (nI q) 1 = some (nI (hdw R q)) := by
  have hn10 := hO.1
  unfold fX10_inRules hdw
  refine lp_run (fun i => (nI (fb_ct (fun r => decide (R.2.1 r = q)) i), nI i)) (e := R.1) (by omega) (fun i rec hi => ?_) (fun rec => ?_)
  · show fX10_inRules_L5 N (nI q) 1 rec _ (nI _, nI i) = rec (nI (_ + if decide (R.2.1 i = q) = true then 1 else 0), nI (i + 1))
    rw [fX10_inRules_L5_u]
    have hh := (hO.ok i hi).1
    have key : ∀ v s : Nat, lp (fX10_inRules_L43 N (nI q) (nI 1) (nI i)) (fX10_inRules_X43 (nI i) rec) 1000000 (nI v, nI 0) = rec (nI v, nI (i + 1)) := fun v s => by
      refine lp_run (fun _ => (nI v, nI 0)) (e := 0) (by decide) (fun j _ hj => absurd hj (Nat.not_lt_zero _)) (fun rec2 => ?_)
      show fX10_inRules_L43 N (nI q) (nI 1) (nI i) rec2 _ (nI v, nI 0) = _
      rw [fX10_inRules_L43_u]
      simp (disch := omega) only [li0, li1, li2, li3, li4, li5, li6, li8, li9, li10, li11, li20, li21, li24, li32, li33, li36, li37, li40, li43, li45, li48, li53, li54, li57, li59, li60, li61, li63, li84, li97, li100, li102, li114, li120, li122, li216, li217, li257, li300, li1296, li1799, li2056, nI_add, pk_mul, nI_subN, pk_div, jremN, nI_leI, nI_ltI, nI_eq, nI_clamp, inb_N, if_pos, if_neg, if_true, if_false, nm, jn, bd2, Option.bind_some, fX10_inRules_X43]
    by_cases e : R.2.1 i = q
    · simp (disch := omega) only [li0, li1, li2, li3, li4, li5, li6, li8, li9, li10, li11, li20, li21, li24, li32, li33, li36, li37, li40, li43, li45, li48, li53, li54, li57, li59, li60, li61, li63, li84, li97, li100, li102, li114, li120, li122, li216, li217, li257, li300, li1296, li1799, li2056, nI_add, pk_mul, nI_subN, pk_div, jremN, nI_leI, nI_ltI, nI_eq, nI_clamp, inb_N, if_pos, if_neg, if_true, if_false, nm, jn, bd2, Option.bind_some, hn, rhead_eq hR hi hn10, e, fX10_inRules_J38_20, key, decide_true]
      exact key _ 0
    · simp (disch := omega) only [li0, li1, li2, li3, li4, li5, li6, li8, li9, li10, li11, li20, li21, li24, li32, li33, li36, li37, li40, li43, li45, li48, li53, li54, li57, li59, li60, li61, li63, li84, li97, li100, li102, li114, li120, li122, li216, li217, li257, li300, li1296, li1799, li2056, nI_add, pk_mul, nI_subN, pk_div, jremN, nI_leI, nI_ltI, nI_eq, nI_clamp, inb_N, if_pos, if_neg, if_true, if_false, nm, jn, bd2, Option.bind_some, hn, rhead_eq hR hi hn10, e, fX10_inRules_J38_20, key, decide_false, Bool.false_eq_true, Nat.add_zero]
      exact key _ 0
  · show fX10_inRules_L5 N (nI q) 1 rec _ (nI _, nI R.1) = _
    rw [fX10_inRules_L5_u]
    simp (disch := omega) only [li0, li1, li2, li3, li4, li5, li6, li8, li9, li10, li11, li20, li21, li24, li32, li33, li36, li37, li40, li43, li45, li48, li53, li54, li57, li59, li60, li61, li63, li84, li97, li100, li102, li114, li120, li122, li216, li217, li257, li300, li1296, li1799, li2056, nI_add, pk_mul, nI_subN, pk_div, jremN, nI_leI, nI_ltI, nI_eq, nI_clamp, inb_N, if_pos, if_neg, if_true, if_false, nm, jn, bd2, Option.bind_some, hn, fX10_inRules_X5]
theorem rcdw_eq (hn : N.1 1 216 = nI R.1) (hR : MB (N.1 1) R.1 R) (hO : OKR R) {q : Nat} (hq : q < 6) : fX10_inRules N (nI q) 0 = some (nI (cdw R q)) := by
  have hn10 := hO.1
  unfold fX10_inRules cdw
  refine lp_run (fun i => (nI (fb_sm (fun r => fb_ct (fun j => decide (R.2.2 r j ≠ 0) && decide (kr (R.2.2 r j) = q)) 3) i), nI i)) (e := R.1) (by omega) (fun i rec hi => ?_) (fun rec => ?_)
  · show fX10_inRules_L5 N (nI q) 0 rec _ (nI _, nI i) = rec (nI (_ + fb_ct (fun j => decide (R.2.2 i j ≠ 0) && decide (kr (R.2.2 i j) = q)) 3), nI (i + 1))
    rw [fX10_inRules_L5_u]
    refine Eq.trans (ite_t (by decide)) ?_
    rw [show (216 : Int32).toNatClampNeg = 216 by decide, hn]
    refine Eq.trans (ite_f (nI_ge hi (by omega))) ?_
    unfold jn
    refine Eq.trans (ite_t rfl) ?_
    unfold fX10_inRules_J38_20
    show lp (fX10_inRules_L43 N (nI q) 0 (nI i)) (fX10_inRules_X43 (nI i) rec) 1000000 (nI _ + nI 0, nI 0) = _
    rw [nI_add]
    refine lp_run (fun j => (nI (fb_sm (fun r => fb_ct (fun j => decide (R.2.2 r j ≠ 0) && decide (kr (R.2.2 r j) = q)) 3) i + fb_ct (fun j => decide (R.2.2 i j ≠ 0) && decide (kr (R.2.2 i j) = q)) j), nI j)) (e := 3) (by decide) (fun j rec2 hj => ?_) (fun rec2 => ?_)
    · show fX10_inRules_L43 N (nI q) 0 (nI i) rec2 _ (nI _, nI j) = rec2 (nI (_ + (_ + if (decide (R.2.2 i j ≠ 0) && decide (kr (R.2.2 i j) = q)) = true then 1 else 0)), nI (j + 1))
      rw [fX10_inRules_L43_u]
      refine Eq.trans (ite_f (nI_ge hj (by decide))) ?_
      refine Eq.trans (ite_t rfl) ?_
      rw [rcond_eq hR hi hn10 hj, Option.bind_some]
      have hc := (hO.ok i hi).2 j hj
      have hr := kr_lt hc
      by_cases h0 : R.2.2 i j = 0
      · refine Eq.trans (ite_t h0) ?_
        rw [decide_eq_false (fun z => z h0), Bool.false_and]
        simp (disch := omega) only [li0, li1, li2, li3, li4, li5, li6, li8, li9, li10, li11, li20, li21, li24, li32, li33, li36, li37, li40, li43, li45, li48, li53, li54, li57, li59, li60, li61, li63, li84, li97, li100, li102, li114, li120, li122, li216, li217, li257, li300, li1296, li1799, li2056, nI_add, pk_mul, nI_subN, pk_div, jremN, nI_leI, nI_ltI, nI_eq, nI_clamp, inb_N, if_pos, if_neg, if_true, if_false, nm, jn, bd2, Option.bind_some, Bool.false_eq_true, Nat.add_zero]
      · refine Eq.trans (ite_f h0) ?_
        rw [decide_eq_true h0, Bool.true_and, rrel_eq hc h0]
        by_cases e : kr (R.2.2 i j) = q
        · simp (disch := omega) only [li0, li1, li2, li3, li4, li5, li6, li8, li9, li10, li11, li20, li21, li24, li32, li33, li36, li37, li40, li43, li45, li48, li53, li54, li57, li59, li60, li61, li63, li84, li97, li100, li102, li114, li120, li122, li216, li217, li257, li300, li1296, li1799, li2056, nI_add, pk_mul, nI_subN, pk_div, jremN, nI_leI, nI_ltI, nI_eq, nI_clamp, inb_N, if_pos, if_neg, if_true, if_false, nm, jn, bd2, Option.bind_some, e, decide_true, Nat.add_assoc]
        · simp (disch := omega) only [li0, li1, li2, li3, li4, li5, li6, li8, li9, li10, li11, li20, li21, li24, li32, li33, li36, li37, li40, li43, li45, li48, li53, li54, li57, li59, li60, li61, li63, li84, li97, li100, li102, li114, li120, li122, li216, li217, li257, li300, li1296, li1799, li2056, nI_add, pk_mul, nI_subN, pk_div, jremN, nI_leI, nI_ltI, nI_eq, nI_clamp, inb_N, if_pos, if_neg, if_true, if_false, nm, jn, bd2, Option.bind_some, e, decide_false, Bool.false_eq_true, Nat.add_zero]
    · show fX10_inRules_L43 N (nI q) 0 (nI i) rec2 _ (nI _, nI 3) = _
      rw [fX10_inRules_L43_u]
      simp (disch := omega) only [li0, li1, li2, li3, li4, li5, li6, li8, li9, li10, li11, li20, li21, li24, li32, li33, li36, li37, li40, li43, li45, li48, li53, li54, li57, li59, li60, li61, li63, li84, li97, li100, li102, li114, li120, li122, li216, li217, li257, li300, li1296, li1799, li2056, nI_add, pk_mul, nI_subN, pk_div, jremN, nI_leI, nI_ltI, nI_eq, nI_clamp, inb_N, if_pos, if_neg, if_true, if_false, nm, jn, bd2, Option.bind_some, fX10_inRules_X43]
  · show fX10_inRules_L5 N (nI q) 0 rec _ (nI _, nI R.1) = _
    rw [fX10_inRules_L5_u]
    simp (disch := omega) only [li0, li1, li2, li3, li4, li5, li6, li8, li9, li10, li11, li20, li21, li24, li32, li33, li36, li37, li40, li43, li45, li48, li53, li54, li57, li59, li60, li61, li63, li84, li97, li100, li102, li114, li120, li122, li216, li217, li257, li300, li1296, li1799, li2056, nI_add, pk_mul, nI_subN, pk_div, jremN, nI_leI, nI_ltI, nI_eq, nI_clamp, inb_N, if_pos, if_neg, if_true, if_false, nm, jn, bd2, Option.bind_some, hn, fX10_inRules_X5]
theorem rrall_eq {f : Nat → Nat} (h : ∀ l, l < 6 → N.1 10 l = nI (f l)) : fX10_roundsOfAll N = some (nI (fb_sm f 6)) := by
  unfold fX10_roundsOfAll
  refine lp_run (fun i => (nI (fb_sm f i), nI i)) (e := 6) (by decide) (fun i rec hi => ?_) (fun rec => ?_)
  · show fX10_roundsOfAll_L4 N rec _ (nI _, nI i) = rec (nI (_ + f i), nI (i + 1))
    rw [fX10_roundsOfAll_L4_u]
    simp (disch := omega) only [li0, li1, li2, li3, li4, li5, li6, li8, li9, li10, li11, li20, li21, li24, li32, li33, li36, li37, li40, li43, li45, li48, li53, li54, li57, li59, li60, li61, li63, li84, li97, li100, li102, li114, li120, li122, li216, li217, li257, li300, li1296, li1799, li2056, nI_add, pk_mul, nI_subN, pk_div, jremN, nI_leI, nI_ltI, nI_eq, nI_clamp, inb_N, if_pos, if_neg, if_true, if_false, nm, jn, bd2, Option.bind_some, h i hi]
  · show fX10_roundsOfAll_L4 N rec _ (nI _, nI 6) = _
    rw [fX10_roundsOfAll_L4_u]
    simp (disch := omega) only [li0, li1, li2, li3, li4, li5, li6, li8, li9, li10, li11, li20, li21, li24, li32, li33, li36, li37, li40, li43, li45, li48, li53, li54, li57, li59, li60, li61, li63, li84, li97, li100, li102, li114, li120, li122, li216, li217, li257, li300, li1296, li1799, li2056, nI_add, pk_mul, nI_subN, pk_div, jremN, nI_leI, nI_ltI, nI_eq, nI_clamp, inb_N, if_pos, if_neg, if_true, if_false, nm, jn, bd2, Option.bind_some, fX10_roundsOfAll_X4]
end RQ
