/-! ===== the class's questions about rules ===== -/
/-- in how many ways a fact is made -/
def wyr (S : Nat → Bool) (R : RS) (k r : Nat) : Nat := if R.2.1 r = k / 36 then fb_ct (fun z => zin R r z && mk S R r (k / 6 % 6) (k % 6) z) 6 else 0
def wy (S : Nat → Bool) (R : RS) (k : Nat) : Nat := fb_sm (wyr S R k) R.1
/-- how many facts a rule makes -/
def mks (S : Nat → Bool) (R : RS) (r : Nat) : Nat := fb_ct (fun p => decide (zl S R r (p / 6) (p % 6) < 6)) 36
def hdw (R : RS) (q : Nat) : Nat := fb_ct (fun r => decide (R.2.1 r = q)) R.1
def cdw (R : RS) (q : Nat) : Nat := fb_sm (fun r => fb_ct (fun j => decide (R.2.2 r j ≠ 0) && decide (kr (R.2.2 r j) = q)) 3) R.1
def ncd (R : RS) (r : Nat) : Nat := fb_ct (fun j => decide (R.2.2 r j ≠ 0)) 3
def ngd (R : RS) (r : Nat) : Nat := fb_ct (fun j => decide (R.2.2 r j < 0)) 3
def nq (R : RS) (X : DX) (k j : Nat) : Bool := decide (0 < X.2.1 k) && psc R (X.2.2.1 k) j
def nv (R : RS) (X : DX) (k j : Nat) : Nat := ndc R (X.2.2.1 k) k (X.2.2.2.1 k) j
/-- how many facts a fact needs -/
def unl (R : RS) (X : DX) (k : Nat) : Nat := (if nq R X k 0 then 1 else 0) + (if nq R X k 1 && !(nq R X k 0 && nv R X k 1 == nv R X k 0) then 1 else 0) + (if nq R X k 2 && !(nq R X k 0 && nv R X k 2 == nv R X k 0) && !(nq R X k 1 && nv R X k 2 == nv R X k 1) then 1 else 0)
/-- how many facts of a relation -/
def szr (S : Nat → Bool) (q : Nat) : Nat := fb_ct (fun k => S (36 * q + k)) 36
def ahd (S : Nat → Bool) (q t : Nat) : Bool := decide (szr S q < szr S t) || (szr S t == szr S q) && decide (t < q)
def rk (S : Nat → Bool) (q : Nat) : Nat := fb_ct (ahd S q) 6
def mtl (S : Nat → Bool) (q : Nat) : Bool := fb_ct (fun k => S (36 * q + k) == S (36 * q + 6 * (k % 6) + k / 6)) 36 == 36
theorem neg1_nI {a : Nat} (ha : a < 2 ^ 31) : (nI a = -nI 1) ↔ False := ⟨fun z => by
  have := congrArg Int32.toInt z
  rw [nI_toInt ha] at this
  have h4 : (-nI 1 : Int32).toInt = -1 := by decide
  omega, fun z => z.elim⟩
theorem neg1_nI' {a : Nat} (ha : a < 2 ^ 31) : (-nI 1 = nI a) ↔ False := ⟨fun z => (neg1_nI ha).mp z.symm, fun z => z.elim⟩
theorem nI_lt0 {a : Nat} (ha : a < 2 ^ 31) : (nI a < nI 0) ↔ False := ⟨fun z => by rw [nI_ltI ha (by decide)] at z; omega, fun z => z.elim⟩
theorem neg1_lt0 : ((-nI 1 : Int32) < nI 0) ↔ True := ⟨fun _ => trivial, fun _ => neg1_lt⟩
theorem ct_more {p q : Nat → Bool} {n k : Nat} (h : ∀ j, j < n → p j = true → q j = true) (hk : k < n) (h1 : p k = false) (h2 : q k = true) : fb_ct p n < fb_ct q n := by
  have e1 := fb_ct_or (p := p) (q := fun j => j == k) (n := n) (fun j hj z => by
    have h3 := beq_iff_eq.mp z.2
    rw [h3, h1] at z
    exact absurd z.1 (by decide))
  have e2 := fb_ct_sub (p := fun j => p j || j == k) (q := q) (n := n) (fun j hj z => by
    simp only [Bool.or_eq_true, beq_iff_eq] at z
    rcases z with z | z
    · exact h j hj z
    · rw [z]; exact h2)
  have e3 : 0 < fb_ct (fun j => j == k) n := fb_ct_pos.mpr ⟨k, hk, beq_self_eq_true k⟩
  omega
theorem rk_lt6 (S : Nat → Bool) {q : Nat} (hq : q < 6) : rk S q < 6 := by
  have h1 : fb_ct (ahd S q) 6 < fb_ct (fun _ => true) 6 := ct_more (fun _ _ _ => rfl) hq (by
    unfold ahd
    rw [decide_eq_false (Nat.lt_irrefl _), decide_eq_false (Nat.lt_irrefl _), Bool.and_false]; rfl) rfl
  have h2 := fb_ct_le (fun _ => true) 6
  unfold rk
  omega
theorem ahd_iff {S : Nat → Bool} {q t : Nat} : ahd S q t = true ↔ szr S q < szr S t ∨ (szr S t = szr S q ∧ t < q) := by
  unfold ahd
  simp only [Bool.or_eq_true, Bool.and_eq_true, decide_eq_true_eq, beq_iff_eq]
theorem rk_lt {S : Nat → Bool} {p q : Nat} (hp : p < 6) (h : ahd S q p = true) : rk S p < rk S q := by
  unfold rk
  refine ct_more (fun j hj hj2 => ?_) hp ?_ h
  · rw [ahd_iff] at h hj2 ⊢
    omega
  · cases e : ahd S p p
    · rfl
    · rw [ahd_iff] at e
      omega
theorem rk_inj {S : Nat → Bool} {p q : Nat} (hp : p < 6) (hq : q < 6) (h : rk S p = rk S q) : p = q := by
  rcases Nat.lt_trichotomy (szr S p) (szr S q) with z | z | z
  · have := rk_lt hq (ahd_iff.mpr (Or.inl z) : ahd S p q = true)
    omega
  · rcases Nat.lt_trichotomy p q with y | y | y
    · have := rk_lt hp (ahd_iff.mpr (Or.inr ⟨z, y⟩) : ahd S q p = true)
      omega
    · exact y
    · have := rk_lt hq (ahd_iff.mpr (Or.inr ⟨z.symm, y⟩) : ahd S p q = true)
      omega
  · have := rk_lt hp (ahd_iff.mpr (Or.inl z) : ahd S q p = true)
    omega
theorem rk_onto (S : Nat → Bool) {y : Nat} (hy : y < 6) : ∃ q, q < 6 ∧ rk S q = y := fb_onto (fun i hi => rk_lt6 S hi) (fun i j hij hj h => by have := rk_inj (by omega) hj h; omega) hy
section KQ2
variable {M : KS} {o : Nat} {R : RS} {X : DX} {A : Nat → Nat} {b : Nat} {T S : Nat → Bool}
theorem kways_eq (hR : RA M 0 R) (hO : OKR R) (hF : FA M o S) {k : Nat} (hk : k < 216) : fX6_waysTo M 0 (nI k) o = some (nI (wy S R k)) := by
  have hn10 := hO.1
  unfold fX6_waysTo
  refine lp_run (fun i => (nI (fb_sm (wyr S R k) i), nI i)) (e := R.1) (by omega) (fun i rec hi => ?_) (fun rec => ?_)
  · show fX6_waysTo_L5 M 0 (nI k) o rec _ (nI _, nI i) = rec (nI (_ + wyr S R k i), nI (i + 1))
    rw [fX6_waysTo_L5_u, hR.1]
    have hO1 := hO.ok i hi
    have hh := hO1.1
    have e1 : nI k / 36 = nI (k / 36) := by rw [li36, pk_div (by omega) (by omega) (by omega)]
    have e2 : nI k / 6 = nI (k / 6) := by rw [li6, pk_div (by omega) (by omega) (by omega)]
    have e3 : jrem (nI (k / 6)) 6 = nI (k / 6 % 6) := by rw [li6, jremN (by omega) (by omega) (by omega)]
    have e4 : jrem (nI k) 6 = nI (k % 6) := by rw [li6, jremN (by omega) (by omega) (by omega)]
    rw [e1, e2, e3, e4]
    have h1 := mkq_eq hR.2 hi (by omega) hO1 (hO.2.1 i hi).2.1 hF (show k / 6 % 6 < 6 by omega) (show k % 6 < 6 by omega)
    unfold wyr
    by_cases e : R.2.1 i = k / 36
    · simp (disch := omega) only [li0, li1, li2, li3, li4, li5, li6, li8, li9, li10, li11, li20, li21, li24, li32, li33, li36, li37, li40, li43, li45, li48, li53, li54, li57, li59, li60, li61, li63, li84, li97, li100, li102, li114, li120, li122, li216, li217, li257, li300, li1296, li1799, li2056, nI_add, pk_mul, nI_subN, pk_div, jremN, nI_leI, nI_ltI, nI_eq, nI_clamp, inb_N, if_pos, if_neg, if_true, if_false, nm, jn, bd2, Option.bind_some, head_eq hR.2 hi, e, h1, m6_cnt]
    · simp (disch := omega) only [li0, li1, li2, li3, li4, li5, li6, li8, li9, li10, li11, li20, li21, li24, li32, li33, li36, li37, li40, li43, li45, li48, li53, li54, li57, li59, li60, li61, li63, li84, li97, li100, li102, li114, li120, li122, li216, li217, li257, li300, li1296, li1799, li2056, nI_add, pk_mul, nI_subN, pk_div, jremN, nI_leI, nI_ltI, nI_eq, nI_clamp, inb_N, if_pos, if_neg, if_true, if_false, nm, jn, bd2, Option.bind_some, head_eq hR.2 hi, e, Nat.add_zero]
  · show fX6_waysTo_L5 M 0 (nI k) o rec _ (nI _, nI R.1) = _
    rw [fX6_waysTo_L5_u, hR.1]
    simp (disch := omega) only [li0, li1, li2, li3, li4, li5, li6, li8, li9, li10, li11, li20, li21, li24, li32, li33, li36, li37, li40, li43, li45, li48, li53, li54, li57, li59, li60, li61, li63, li84, li97, li100, li102, li114, li120, li122, li216, li217, li257, li300, li1296, li1799, li2056, nI_add, pk_mul, nI_subN, pk_div, jremN, nI_leI, nI_ltI, nI_eq, nI_clamp, inb_N, if_pos, if_neg, if_true, if_false, nm, jn, bd2, Option.bind_some, fX6_waysTo_X5]
    rfl
theorem m6_zl {S : Nat → Bool} {r x y : Nat} : m6 (fun z => zin R r z && mk S R r x y z) = nI 0 ↔ ¬ zl S R r x y < 6 := by
  rw [m6_eq0]
  constructor
  · intro h h1
    have h2 := zl_mk h1
    have h3 := h _ h1
    rw [h2.1, h2.2] at h3
    exact absurd h3 (by decide)
  · intro h z hz
    cases h1 : zin R r z
    · rfl
    · cases h2 : mk S R r x y z
      · rfl
      · exact absurd (zl_lt hz h1 h2) h
theorem kmakes_eq (hR : RA M 0 R) (hO : OKR R) (hF : FA M o S) {r : Nat} (hr : r < R.1) : fX6_makes M 0 (nI r) o = some (nI (mks S R r)) := by
  have hn10 := hO.1
  unfold fX6_makes mks
  refine lp_run (fun i => (nI (fb_ct (fun p => decide (zl S R r (p / 6) (p % 6) < 6)) i), nI i)) (e := 36) (by decide) (fun i rec hi => ?_) (fun rec => ?_)
  · show fX6_makes_L5 M 0 (nI r) o rec _ (nI _, nI i) = rec (nI (_ + if decide (zl S R r (i / 6) (i % 6) < 6) = true then 1 else 0), nI (i + 1))
    rw [fX6_makes_L5_u]
    have e2 : nI i / 6 = nI (i / 6) := by rw [li6, pk_div (by omega) (by omega) (by omega)]
    have e4 : jrem (nI i) 6 = nI (i % 6) := by rw [li6, jremN (by omega) (by omega) (by omega)]
    rw [e2, e4]
    have h1 := mkq_eq hR.2 hr (by omega) (hO.ok r hr) (hO.2.1 r hr).2.1 hF (show i / 6 < 6 by omega) (show i % 6 < 6 by omega)
    by_cases e : zl S R r (i / 6) (i % 6) < 6
    · have e' : ¬ m6 (fun z => zin R r z && mk S R r (i / 6) (i % 6) z) = nI 0 := fun z => m6_zl.mp z e
      simp (disch := omega) only [li0, li1, li2, li3, li4, li5, li6, li8, li9, li10, li11, li20, li21, li24, li32, li33, li36, li37, li40, li43, li45, li48, li53, li54, li57, li59, li60, li61, li63, li84, li97, li100, li102, li114, li120, li122, li216, li217, li257, li300, li1296, li1799, li2056, nI_add, pk_mul, nI_subN, pk_div, jremN, nI_leI, nI_ltI, nI_eq, nI_clamp, inb_N, if_pos, if_neg, if_true, if_false, nm, jn, bd2, Option.bind_some, h1, e', decide_eq_true e]
    · have e' := (m6_zl (R := R) (S := S) (r := r) (x := i / 6) (y := i % 6)).mpr e
      simp (disch := omega) only [li0, li1, li2, li3, li4, li5, li6, li8, li9, li10, li11, li20, li21, li24, li32, li33, li36, li37, li40, li43, li45, li48, li53, li54, li57, li59, li60, li61, li63, li84, li97, li100, li102, li114, li120, li122, li216, li217, li257, li300, li1296, li1799, li2056, nI_add, pk_mul, nI_subN, pk_div, jremN, nI_leI, nI_ltI, nI_eq, nI_clamp, inb_N, if_pos, if_neg, if_true, if_false, nm, jn, bd2, Option.bind_some, h1, e', decide_eq_false e, Bool.false_eq_true, Nat.add_zero]
  · show fX6_makes_L5 M 0 (nI r) o rec _ (nI _, nI 36) = _
    rw [fX6_makes_L5_u]
    simp (disch := omega) only [li0, li1, li2, li3, li4, li5, li6, li8, li9, li10, li11, li20, li21, li24, li32, li33, li36, li37, li40, li43, li45, li48, li53, li54, li57, li59, li60, li61, li63, li84, li97, li100, li102, li114, li120, li122, li216, li217, li257, li300, li1296, li1799, li2056, nI_add, pk_mul, nI_subN, pk_div, jremN, nI_leI, nI_ltI, nI_eq, nI_clamp, inb_N, if_pos, if_neg, if_true, if_false, nm, jn, bd2, Option.bind_some, fX6_makes_X5]
theorem khdw_eq (hR : RA M 0 R) (hO : OKR R) {q : Nat} (hq : q < 6) : fX6_headsWith M 0 (nI q) = some (nI (hdw R q)) := by
  have hn10 := hO.1
  unfold fX6_headsWith hdw
  refine lp_run (fun i => (nI (fb_ct (fun r => decide (R.2.1 r = q)) i), nI i)) (e := R.1) (by omega) (fun i rec hi => ?_) (fun rec => ?_)
  · show fX6_headsWith_L4 M 0 (nI q) rec _ (nI _, nI i) = rec (nI (_ + if decide (R.2.1 i = q) = true then 1 else 0), nI (i + 1))
    rw [fX6_headsWith_L4_u, hR.1]
    have hh := (hO.ok i hi).1
    by_cases e : R.2.1 i = q
    · simp (disch := omega) only [li0, li1, li2, li3, li4, li5, li6, li8, li9, li10, li11, li20, li21, li24, li32, li33, li36, li37, li40, li43, li45, li48, li53, li54, li57, li59, li60, li61, li63, li84, li97, li100, li102, li114, li120, li122, li216, li217, li257, li300, li1296, li1799, li2056, nI_add, pk_mul, nI_subN, pk_div, jremN, nI_leI, nI_ltI, nI_eq, nI_clamp, inb_N, if_pos, if_neg, if_true, if_false, nm, jn, bd2, Option.bind_some, head_eq hR.2 hi, e, decide_true]
    · simp (disch := omega) only [li0, li1, li2, li3, li4, li5, li6, li8, li9, li10, li11, li20, li21, li24, li32, li33, li36, li37, li40, li43, li45, li48, li53, li54, li57, li59, li60, li61, li63, li84, li97, li100, li102, li114, li120, li122, li216, li217, li257, li300, li1296, li1799, li2056, nI_add, pk_mul, nI_subN, pk_div, jremN, nI_leI, nI_ltI, nI_eq, nI_clamp, inb_N, if_pos, if_neg, if_true, if_false, nm, jn, bd2, Option.bind_some, head_eq hR.2 hi, e, decide_false, Bool.false_eq_true, Nat.add_zero]
  · show fX6_headsWith_L4 M 0 (nI q) rec _ (nI _, nI R.1) = _
    rw [fX6_headsWith_L4_u, hR.1]
    simp (disch := omega) only [li0, li1, li2, li3, li4, li5, li6, li8, li9, li10, li11, li20, li21, li24, li32, li33, li36, li37, li40, li43, li45, li48, li53, li54, li57, li59, li60, li61, li63, li84, li97, li100, li102, li114, li120, li122, li216, li217, li257, li300, li1296, li1799, li2056, nI_add, pk_mul, nI_subN, pk_div, jremN, nI_leI, nI_ltI, nI_eq, nI_clamp, inb_N, if_pos, if_neg, if_true, if_false, nm, jn, bd2, Option.bind_some, fX6_headsWith_X4]
theorem kcdw_eq (hR : RA M 0 R) (hO : OKR R) {q : Nat} (hq : q < 6) : fX6_conditionsWith M 0 (nI q) = some (nI (cdw R q)) := by
  have hn10 := hO.1
  unfold fX6_conditionsWith cdw
  refine lp_run (fun i => (nI (fb_sm (fun r => fb_ct (fun j => decide (R.2.2 r j ≠ 0) && decide (kr (R.2.2 r j) = q)) 3) i), nI i)) (e := R.1) (by omega) (fun i rec hi => ?_) (fun rec => ?_)
  · show fX6_conditionsWith_L4 M 0 (nI q) rec _ (nI _, nI i) = rec (nI (_ + fb_ct (fun j => decide (R.2.2 i j ≠ 0) && decide (kr (R.2.2 i j) = q)) 3), nI (i + 1))
    rw [fX6_conditionsWith_L4_u, hR.1]
    refine Eq.trans (ite_f (nI_ge hi (by omega))) ?_
    refine lp_run (fun j => (nI (fb_sm (fun r => fb_ct (fun j => decide (R.2.2 r j ≠ 0) && decide (kr (R.2.2 r j) = q)) 3) i + fb_ct (fun j => decide (R.2.2 i j ≠ 0) && decide (kr (R.2.2 i j) = q)) j), nI j)) (e := 3) (by decide) (fun j rec2 hj => ?_) (fun rec2 => ?_)
    · show fX6_conditionsWith_L15 M 0 (nI q) (nI i) rec2 _ (nI _, nI j) = rec2 (nI (_ + (_ + if (decide (R.2.2 i j ≠ 0) && decide (kr (R.2.2 i j) = q)) = true then 1 else 0)), nI (j + 1))
      rw [fX6_conditionsWith_L15_u]
      refine Eq.trans (ite_f (nI_ge hj (by decide))) ?_
      rw [code_eq hR.2 hi (show R.1 ≤ 11 by omega) hj, Option.bind_some]
      have hc := (hO.ok i hi).2 j hj
      have hr := kr_lt hc
      by_cases h0 : R.2.2 i j = 0
      · refine Eq.trans (ite_t h0) ?_
        rw [decide_eq_false (fun z => z h0), Bool.false_and]
        simp (disch := omega) only [li0, li1, li2, li3, li4, li5, li6, li8, li9, li10, li11, li20, li21, li24, li32, li33, li36, li37, li40, li43, li45, li48, li53, li54, li57, li59, li60, li61, li63, li84, li97, li100, li102, li114, li120, li122, li216, li217, li257, li300, li1296, li1799, li2056, nI_add, pk_mul, nI_subN, pk_div, jremN, nI_leI, nI_ltI, nI_eq, nI_clamp, inb_N, if_pos, if_neg, if_true, if_false, nm, jn, bd2, Option.bind_some, Bool.false_eq_true, Nat.add_zero]
      · refine Eq.trans (ite_f h0) ?_
        rw [decide_eq_true h0, Bool.true_and, kc_rel hc h0]
        by_cases e : kr (R.2.2 i j) = q
        · simp (disch := omega) only [li0, li1, li2, li3, li4, li5, li6, li8, li9, li10, li11, li20, li21, li24, li32, li33, li36, li37, li40, li43, li45, li48, li53, li54, li57, li59, li60, li61, li63, li84, li97, li100, li102, li114, li120, li122, li216, li217, li257, li300, li1296, li1799, li2056, nI_add, pk_mul, nI_subN, pk_div, jremN, nI_leI, nI_ltI, nI_eq, nI_clamp, inb_N, if_pos, if_neg, if_true, if_false, nm, jn, bd2, Option.bind_some, e, decide_true, Nat.add_assoc]
        · simp (disch := omega) only [li0, li1, li2, li3, li4, li5, li6, li8, li9, li10, li11, li20, li21, li24, li32, li33, li36, li37, li40, li43, li45, li48, li53, li54, li57, li59, li60, li61, li63, li84, li97, li100, li102, li114, li120, li122, li216, li217, li257, li300, li1296, li1799, li2056, nI_add, pk_mul, nI_subN, pk_div, jremN, nI_leI, nI_ltI, nI_eq, nI_clamp, inb_N, if_pos, if_neg, if_true, if_false, nm, jn, bd2, Option.bind_some, e, decide_false, Bool.false_eq_true, Nat.add_zero]
    · show fX6_conditionsWith_L15 M 0 (nI q) (nI i) rec2 _ (nI _, nI 3) = _
      rw [fX6_conditionsWith_L15_u]
      simp (disch := omega) only [li0, li1, li2, li3, li4, li5, li6, li8, li9, li10, li11, li20, li21, li24, li32, li33, li36, li37, li40, li43, li45, li48, li53, li54, li57, li59, li60, li61, li63, li84, li97, li100, li102, li114, li120, li122, li216, li217, li257, li300, li1296, li1799, li2056, nI_add, pk_mul, nI_subN, pk_div, jremN, nI_leI, nI_ltI, nI_eq, nI_clamp, inb_N, if_pos, if_neg, if_true, if_false, nm, jn, bd2, Option.bind_some, fX6_conditionsWith_X15]
  · show fX6_conditionsWith_L4 M 0 (nI q) rec _ (nI _, nI R.1) = _
    rw [fX6_conditionsWith_L4_u, hR.1]
    simp (disch := omega) only [li0, li1, li2, li3, li4, li5, li6, li8, li9, li10, li11, li20, li21, li24, li32, li33, li36, li37, li40, li43, li45, li48, li53, li54, li57, li59, li60, li61, li63, li84, li97, li100, li102, li114, li120, li122, li216, li217, li257, li300, li1296, li1799, li2056, nI_add, pk_mul, nI_subN, pk_div, jremN, nI_leI, nI_ltI, nI_eq, nI_clamp, inb_N, if_pos, if_neg, if_true, if_false, nm, jn, bd2, Option.bind_some, fX6_conditionsWith_X4]
theorem kncd_eq (hR : RB M o R.1 R) (hn10 : R.1 ≤ 10) {r : Nat} (hr : r < R.1) : fX6_conditionsOf M o (nI r) = some (nI (ncd R r)) := by
  unfold fX6_conditionsOf ncd
  refine lp_run (fun j => (nI (fb_ct (fun j => decide (R.2.2 r j ≠ 0)) j), nI j)) (e := 3) (by decide) (fun j rec hj => ?_) (fun rec => ?_)
  · show fX6_conditionsOf_L4 M o (nI r) rec _ (nI _, nI j) = rec (nI (_ + if decide (R.2.2 r j ≠ 0) = true then 1 else 0), nI (j + 1))
    rw [fX6_conditionsOf_L4_u]
    refine Eq.trans (ite_f (nI_ge hj (by decide))) ?_
    rw [code_eq hR hr (show R.1 ≤ 11 by omega) hj, Option.bind_some]
    by_cases h0 : R.2.2 r j = 0
    · refine Eq.trans (ite_t h0) ?_
      rw [decide_eq_false (fun z => z h0)]
      simp (disch := omega) only [li0, li1, li2, li3, li4, li5, li6, li8, li9, li10, li11, li20, li21, li24, li32, li33, li36, li37, li40, li43, li45, li48, li53, li54, li57, li59, li60, li61, li63, li84, li97, li100, li102, li114, li120, li122, li216, li217, li257, li300, li1296, li1799, li2056, nI_add, pk_mul, nI_subN, pk_div, jremN, nI_leI, nI_ltI, nI_eq, nI_clamp, inb_N, if_pos, if_neg, if_true, if_false, nm, jn, bd2, Option.bind_some, Bool.false_eq_true, Nat.add_zero]
    · refine Eq.trans (ite_f h0) ?_
      rw [decide_eq_true h0]
      simp (disch := omega) only [li0, li1, li2, li3, li4, li5, li6, li8, li9, li10, li11, li20, li21, li24, li32, li33, li36, li37, li40, li43, li45, li48, li53, li54, li57, li59, li60, li61, li63, li84, li97, li100, li102, li114, li120, li122, li216, li217, li257, li300, li1296, li1799, li2056, nI_add, pk_mul, nI_subN, pk_div, jremN, nI_leI, nI_ltI, nI_eq, nI_clamp, inb_N, if_pos, if_neg, if_true, if_false, nm, jn, bd2, Option.bind_some]
  · show fX6_conditionsOf_L4 M o (nI r) rec _ (nI _, nI 3) = _
    rw [fX6_conditionsOf_L4_u]
    simp (disch := omega) only [li0, li1, li2, li3, li4, li5, li6, li8, li9, li10, li11, li20, li21, li24, li32, li33, li36, li37, li40, li43, li45, li48, li53, li54, li57, li59, li60, li61, li63, li84, li97, li100, li102, li114, li120, li122, li216, li217, li257, li300, li1296, li1799, li2056, nI_add, pk_mul, nI_subN, pk_div, jremN, nI_leI, nI_ltI, nI_eq, nI_clamp, inb_N, if_pos, if_neg, if_true, if_false, nm, jn, bd2, Option.bind_some, fX6_conditionsOf_X4]
theorem kngd_eq (hR : RA M 0 R) (hn10 : R.1 ≤ 10) : fX6_negated M 0 = some (nI (fb_sm (ngd R) R.1)) := by
  unfold fX6_negated
  refine lp_run (fun i => (nI (fb_sm (ngd R) i), nI i)) (e := R.1) (by omega) (fun i rec hi => ?_) (fun rec => ?_)
  · show fX6_negated_L4 M 0 rec _ (nI _, nI i) = rec (nI (_ + ngd R i), nI (i + 1))
    rw [fX6_negated_L4_u, hR.1]
    refine Eq.trans (ite_f (nI_ge hi (by omega))) ?_
    refine lp_run (fun j => (nI (fb_sm (ngd R) i + fb_ct (fun j => decide (R.2.2 i j < 0)) j), nI j)) (e := 3) (by decide) (fun j rec2 hj => ?_) (fun rec2 => ?_)
    · show fX6_negated_L14 M 0 (nI i) rec2 _ (nI _, nI j) = rec2 (nI (_ + (_ + if decide (R.2.2 i j < 0) = true then 1 else 0)), nI (j + 1))
      rw [fX6_negated_L14_u]
      refine Eq.trans (ite_f (nI_ge hj (by decide))) ?_
      rw [code_eq hR.2 hi (show R.1 ≤ 11 by omega) hj, Option.bind_some]
      by_cases h0 : R.2.2 i j < 0
      · refine Eq.trans (ite_f (fun z => sgn_lst.mp z h0)) ?_
        rw [decide_eq_true h0]
        simp (disch := omega) only [li0, li1, li2, li3, li4, li5, li6, li8, li9, li10, li11, li20, li21, li24, li32, li33, li36, li37, li40, li43, li45, li48, li53, li54, li57, li59, li60, li61, li63, li84, li97, li100, li102, li114, li120, li122, li216, li217, li257, li300, li1296, li1799, li2056, nI_add, pk_mul, nI_subN, pk_div, jremN, nI_leI, nI_ltI, nI_eq, nI_clamp, inb_N, if_pos, if_neg, if_true, if_false, nm, jn, bd2, Option.bind_some, Nat.add_assoc]
      · refine Eq.trans (ite_t (sgn_lst.mpr h0)) ?_
        rw [decide_eq_false h0]
        simp (disch := omega) only [li0, li1, li2, li3, li4, li5, li6, li8, li9, li10, li11, li20, li21, li24, li32, li33, li36, li37, li40, li43, li45, li48, li53, li54, li57, li59, li60, li61, li63, li84, li97, li100, li102, li114, li120, li122, li216, li217, li257, li300, li1296, li1799, li2056, nI_add, pk_mul, nI_subN, pk_div, jremN, nI_leI, nI_ltI, nI_eq, nI_clamp, inb_N, if_pos, if_neg, if_true, if_false, nm, jn, bd2, Option.bind_some, Bool.false_eq_true, Nat.add_zero]
    · show fX6_negated_L14 M 0 (nI i) rec2 _ (nI _, nI 3) = _
      rw [fX6_negated_L14_u]
      simp (disch := omega) only [li0, li1, li2, li3, li4, li5, li6, li8, li9, li10, li11, li20, li21, li24, li32, li33, li36, li37, li40, li43, li45, li48, li53, li54, li57, li59, li60, li61, li63, li84, li97, li100, li102, li114, li120, li122, li216, li217, li257, li300, li1296, li1799, li2056, nI_add, pk_mul, nI_subN, pk_div, jremN, nI_leI, nI_ltI, nI_eq, nI_clamp, inb_N, if_pos, if_neg, if_true, if_false, nm, jn, bd2, Option.bind_some, fX6_negated_X14]
      rfl
  · show fX6_negated_L4 M 0 rec _ (nI _, nI R.1) = _
    rw [fX6_negated_L4_u, hR.1]
    simp (disch := omega) only [li0, li1, li2, li3, li4, li5, li6, li8, li9, li10, li11, li20, li21, li24, li32, li33, li36, li37, li40, li43, li45, li48, li53, li54, li57, li59, li60, li61, li63, li84, li97, li100, li102, li114, li120, li122, li216, li217, li257, li300, li1296, li1799, li2056, nI_add, pk_mul, nI_subN, pk_div, jremN, nI_leI, nI_ltI, nI_eq, nI_clamp, inb_N, if_pos, if_neg, if_true, if_false, nm, jn, bd2, Option.bind_some, fX6_negated_X4]
theorem kneeds_eq (hX : KX M X) (hB : XB R X b) (hR : RA M 0 R) (hO : OKR R) {k : Nat} (hk : k < 216) : fX1_needs M 0 (nI k) = some (nI (unl R X k)) := by
  have hn10 := hO.1
  unfold fX1_needs
  have h0 := need_eq hX hB hR.2 hn10 hO.ok hk (show 0 < 3 by decide)
  have h1 := need_eq hX hB hR.2 hn10 hO.ok hk (show 1 < 3 by decide)
  have h2 := need_eq hX hB hR.2 hn10 hO.ok hk (show 2 < 3 by decide)
  have e : ∀ j, (if 0 < X.2.1 k ∧ psc R (X.2.2.1 k) j = true then nI (ndc R (X.2.2.1 k) k (X.2.2.2.1 k) j) else -nI 1) = if nq R X k j then nI (nv R X k j) else -nI 1 := by
    intro j
    unfold nq nv
    by_cases q : 0 < X.2.1 k
    · rw [decide_eq_true q, Bool.true_and]
      cases hp : psc R (X.2.2.1 k) j
      · rw [if_neg (fun z => absurd z.2 (by decide)), if_neg (by decide)]
      · rw [if_pos ⟨q, rfl⟩, if_pos rfl]
    · rw [decide_eq_false q, Bool.false_and, if_neg (fun z => q z.1), if_neg (by decide)]
  have hb : ∀ j, j < 3 → nq R X k j = true → nv R X k j < 216 := fun j hj hq => by
    unfold nq at hq
    simp only [Bool.and_eq_true, decide_eq_true_eq] at hq
    have h3 := (hB k hk).2.1 hq.1
    exact ndc_lt (hO.ok _ h3.2.1) hk h3.2.2 hj
  rw [e 0] at h0
  rw [e 1] at h1
  rw [e 2] at h2
  rw [li0, li1, li2, h0, h1, h2]
  have b0 := hb 0 (by decide)
  have b1 := hb 1 (by decide)
  have b2 := hb 2 (by decide)
  unfold unl
  generalize nv R X k 0 = a0 at *
  generalize nv R X k 1 = a1 at *
  generalize nv R X k 2 = a2 at *
  simp only [Option.bind_some, jn, nm, fX1_needs_J35_27, fX1_needs_J51_39]
  cases q0 : nq R X k 0 <;> cases q1 : nq R X k 1 <;> cases q2 : nq R X k 2 <;> simp only [q0, q1, q2, forall_const, Bool.false_eq_true, false_implies, if_true, if_false] at b0 b1 b2 ⊢
  · simp (disch := omega) only [li0, li1, li2, li3, li4, li5, li6, li8, li9, li10, li11, li20, li21, li24, li32, li33, li36, li37, li40, li43, li45, li48, li53, li54, li57, li59, li60, li61, li63, li84, li97, li100, li102, li114, li120, li122, li216, li217, li257, li300, li1296, li1799, li2056, nI_add, pk_mul, nI_subN, pk_div, jremN, nI_leI, nI_ltI, nI_eq, nI_clamp, inb_N, if_pos, if_neg, if_true, if_false, nm, jn, bd2, Option.bind_some, neg1_lt0, Bool.false_and, Nat.add_zero]
    rfl
  · simp (disch := omega) only [li0, li1, li2, li3, li4, li5, li6, li8, li9, li10, li11, li20, li21, li24, li32, li33, li36, li37, li40, li43, li45, li48, li53, li54, li57, li59, li60, li61, li63, li84, li97, li100, li102, li114, li120, li122, li216, li217, li257, li300, li1296, li1799, li2056, nI_add, pk_mul, nI_subN, pk_div, jremN, nI_leI, nI_ltI, nI_eq, nI_clamp, inb_N, if_pos, if_neg, if_true, if_false, nm, jn, bd2, Option.bind_some, neg1_lt0, nI_lt0, neg1_nI, Bool.false_and, Bool.true_and, Bool.not_false, Nat.zero_add]
    rfl
  · simp (disch := omega) only [li0, li1, li2, li3, li4, li5, li6, li8, li9, li10, li11, li20, li21, li24, li32, li33, li36, li37, li40, li43, li45, li48, li53, li54, li57, li59, li60, li61, li63, li84, li97, li100, li102, li114, li120, li122, li216, li217, li257, li300, li1296, li1799, li2056, nI_add, pk_mul, nI_subN, pk_div, jremN, nI_leI, nI_ltI, nI_eq, nI_clamp, inb_N, if_pos, if_neg, if_true, if_false, nm, jn, bd2, Option.bind_some, neg1_lt0, nI_lt0, neg1_nI, Bool.false_and, Bool.true_and, Bool.not_false, Nat.zero_add]
    rfl
  · by_cases z : a2 = a1
    · simp (disch := omega) only [li0, li1, li2, li3, li4, li5, li6, li8, li9, li10, li11, li20, li21, li24, li32, li33, li36, li37, li40, li43, li45, li48, li53, li54, li57, li59, li60, li61, li63, li84, li97, li100, li102, li114, li120, li122, li216, li217, li257, li300, li1296, li1799, li2056, nI_add, pk_mul, nI_subN, pk_div, jremN, nI_leI, nI_ltI, nI_eq, nI_clamp, inb_N, if_pos, if_neg, if_true, if_false, nm, jn, bd2, Option.bind_some, neg1_lt0, nI_lt0, neg1_nI, z, Bool.false_and, Bool.true_and, Bool.not_false, Nat.zero_add, beq_self_eq_true, Bool.not_true, Bool.false_eq_true]
    · simp (disch := omega) only [li0, li1, li2, li3, li4, li5, li6, li8, li9, li10, li11, li20, li21, li24, li32, li33, li36, li37, li40, li43, li45, li48, li53, li54, li57, li59, li60, li61, li63, li84, li97, li100, li102, li114, li120, li122, li216, li217, li257, li300, li1296, li1799, li2056, nI_add, pk_mul, nI_subN, pk_div, jremN, nI_leI, nI_ltI, nI_eq, nI_clamp, inb_N, if_pos, if_neg, if_true, if_false, nm, jn, bd2, Option.bind_some, neg1_lt0, nI_lt0, neg1_nI, z, Bool.false_and, Bool.true_and, Bool.not_false, Nat.zero_add, beq_eq_false_iff_ne.mpr z]
  · simp (disch := omega) only [li0, li1, li2, li3, li4, li5, li6, li8, li9, li10, li11, li20, li21, li24, li32, li33, li36, li37, li40, li43, li45, li48, li53, li54, li57, li59, li60, li61, li63, li84, li97, li100, li102, li114, li120, li122, li216, li217, li257, li300, li1296, li1799, li2056, nI_add, pk_mul, nI_subN, pk_div, jremN, nI_leI, nI_ltI, nI_eq, nI_clamp, inb_N, if_pos, if_neg, if_true, if_false, nm, jn, bd2, Option.bind_some, neg1_lt0, nI_lt0, neg1_nI, Bool.false_and, Nat.add_zero]
    rfl
  · by_cases z : a2 = a0
    · simp (disch := omega) only [li0, li1, li2, li3, li4, li5, li6, li8, li9, li10, li11, li20, li21, li24, li32, li33, li36, li37, li40, li43, li45, li48, li53, li54, li57, li59, li60, li61, li63, li84, li97, li100, li102, li114, li120, li122, li216, li217, li257, li300, li1296, li1799, li2056, nI_add, pk_mul, nI_subN, pk_div, jremN, nI_leI, nI_ltI, nI_eq, nI_clamp, inb_N, if_pos, if_neg, if_true, if_false, nm, jn, bd2, Option.bind_some, neg1_lt0, nI_lt0, neg1_nI, z, Bool.false_and, Bool.true_and, Bool.not_false, Bool.and_false, Nat.add_zero, beq_self_eq_true, Bool.not_true, Bool.false_eq_true]
    · simp (disch := omega) only [li0, li1, li2, li3, li4, li5, li6, li8, li9, li10, li11, li20, li21, li24, li32, li33, li36, li37, li40, li43, li45, li48, li53, li54, li57, li59, li60, li61, li63, li84, li97, li100, li102, li114, li120, li122, li216, li217, li257, li300, li1296, li1799, li2056, nI_add, pk_mul, nI_subN, pk_div, jremN, nI_leI, nI_ltI, nI_eq, nI_clamp, inb_N, if_pos, if_neg, if_true, if_false, nm, jn, bd2, Option.bind_some, neg1_lt0, nI_lt0, neg1_nI, z, Bool.false_and, Bool.true_and, Bool.not_false, Nat.add_zero, beq_eq_false_iff_ne.mpr z]
      rfl
  · by_cases z : a1 = a0
    · simp (disch := omega) only [li0, li1, li2, li3, li4, li5, li6, li8, li9, li10, li11, li20, li21, li24, li32, li33, li36, li37, li40, li43, li45, li48, li53, li54, li57, li59, li60, li61, li63, li84, li97, li100, li102, li114, li120, li122, li216, li217, li257, li300, li1296, li1799, li2056, nI_add, pk_mul, nI_subN, pk_div, jremN, nI_leI, nI_ltI, nI_eq, nI_clamp, inb_N, if_pos, if_neg, if_true, if_false, nm, jn, bd2, Option.bind_some, neg1_lt0, nI_lt0, neg1_nI, z, Bool.false_and, Bool.true_and, Bool.not_false, Bool.and_false, Nat.add_zero, beq_self_eq_true, Bool.not_true, Bool.false_eq_true]
    · simp (disch := omega) only [li0, li1, li2, li3, li4, li5, li6, li8, li9, li10, li11, li20, li21, li24, li32, li33, li36, li37, li40, li43, li45, li48, li53, li54, li57, li59, li60, li61, li63, li84, li97, li100, li102, li114, li120, li122, li216, li217, li257, li300, li1296, li1799, li2056, nI_add, pk_mul, nI_subN, pk_div, jremN, nI_leI, nI_ltI, nI_eq, nI_clamp, inb_N, if_pos, if_neg, if_true, if_false, nm, jn, bd2, Option.bind_some, neg1_lt0, nI_lt0, neg1_nI, z, Bool.false_and, Bool.true_and, Bool.not_false, Nat.add_zero, beq_eq_false_iff_ne.mpr z]
      rfl
  · by_cases z : a1 = a0
    · subst z
      by_cases y : a2 = a1
      · simp (disch := omega) only [li0, li1, li2, li3, li4, li5, li6, li8, li9, li10, li11, li20, li21, li24, li32, li33, li36, li37, li40, li43, li45, li48, li53, li54, li57, li59, li60, li61, li63, li84, li97, li100, li102, li114, li120, li122, li216, li217, li257, li300, li1296, li1799, li2056, nI_add, pk_mul, nI_subN, pk_div, jremN, nI_leI, nI_ltI, nI_eq, nI_clamp, inb_N, if_pos, if_neg, if_true, if_false, nm, jn, bd2, Option.bind_some, neg1_lt0, nI_lt0, neg1_nI, y, Bool.false_and, Bool.true_and, Bool.not_false, Bool.and_false, Nat.add_zero, beq_self_eq_true, Bool.not_true, Bool.false_eq_true, Bool.and_self]
      · simp (disch := omega) only [li0, li1, li2, li3, li4, li5, li6, li8, li9, li10, li11, li20, li21, li24, li32, li33, li36, li37, li40, li43, li45, li48, li53, li54, li57, li59, li60, li61, li63, li84, li97, li100, li102, li114, li120, li122, li216, li217, li257, li300, li1296, li1799, li2056, nI_add, pk_mul, nI_subN, pk_div, jremN, nI_leI, nI_ltI, nI_eq, nI_clamp, inb_N, if_pos, if_neg, if_true, if_false, nm, jn, bd2, Option.bind_some, neg1_lt0, nI_lt0, neg1_nI, y, Bool.false_and, Bool.true_and, Bool.not_false, Nat.add_zero, beq_eq_false_iff_ne.mpr y, beq_self_eq_true, Bool.not_true, Bool.false_eq_true, Bool.and_self]
    · by_cases y : a2 = a0
      · simp (disch := omega) only [li0, li1, li2, li3, li4, li5, li6, li8, li9, li10, li11, li20, li21, li24, li32, li33, li36, li37, li40, li43, li45, li48, li53, li54, li57, li59, li60, li61, li63, li84, li97, li100, li102, li114, li120, li122, li216, li217, li257, li300, li1296, li1799, li2056, nI_add, pk_mul, nI_subN, pk_div, jremN, nI_leI, nI_ltI, nI_eq, nI_clamp, inb_N, if_pos, if_neg, if_true, if_false, nm, jn, bd2, Option.bind_some, neg1_lt0, nI_lt0, neg1_nI, z, y, Bool.false_and, Bool.true_and, Bool.not_false, Bool.and_false, Nat.add_zero, beq_self_eq_true, Bool.not_true, Bool.false_eq_true, Bool.and_self, beq_eq_false_iff_ne.mpr z]
      · by_cases x : a2 = a1
        · simp (disch := omega) only [li0, li1, li2, li3, li4, li5, li6, li8, li9, li10, li11, li20, li21, li24, li32, li33, li36, li37, li40, li43, li45, li48, li53, li54, li57, li59, li60, li61, li63, li84, li97, li100, li102, li114, li120, li122, li216, li217, li257, li300, li1296, li1799, li2056, nI_add, pk_mul, nI_subN, pk_div, jremN, nI_leI, nI_ltI, nI_eq, nI_clamp, inb_N, if_pos, if_neg, if_true, if_false, nm, jn, bd2, Option.bind_some, neg1_lt0, nI_lt0, neg1_nI, z, y, x, Bool.false_and, Bool.true_and, Bool.not_false, Bool.and_false, Nat.add_zero, beq_self_eq_true, Bool.not_true, Bool.false_eq_true, Bool.and_self, beq_eq_false_iff_ne.mpr z, beq_eq_false_iff_ne.mpr y]
        · simp (disch := omega) only [li0, li1, li2, li3, li4, li5, li6, li8, li9, li10, li11, li20, li21, li24, li32, li33, li36, li37, li40, li43, li45, li48, li53, li54, li57, li59, li60, li61, li63, li84, li97, li100, li102, li114, li120, li122, li216, li217, li257, li300, li1296, li1799, li2056, nI_add, pk_mul, nI_subN, pk_div, jremN, nI_leI, nI_ltI, nI_eq, nI_clamp, inb_N, if_pos, if_neg, if_true, if_false, nm, jn, bd2, Option.bind_some, neg1_lt0, nI_lt0, neg1_nI, z, y, x, Bool.false_and, Bool.true_and, Bool.not_false, Nat.add_zero, Bool.and_self, beq_eq_false_iff_ne.mpr z, beq_eq_false_iff_ne.mpr y, beq_eq_false_iff_ne.mpr x]
theorem krank_eq (hF : FA M o S) {q : Nat} (hq : q < 6) : fX9_rankOf M (nI q) o = some (nI (rk S q)) := by
  unfold fX9_rankOf rk
  rw [sizeOf_eq hF hq, Option.bind_some]
  refine lp_run (fun i => (nI (fb_ct (ahd S q) i), nI i)) (e := 6) (by decide) (fun i rec hi => ?_) (fun rec => ?_)
  · show fX9_rankOf_L11 M (nI q) o _ rec _ (nI _, nI i) = rec (nI (_ + if ahd S q i = true then 1 else 0), nI (i + 1))
    rw [fX9_rankOf_L11_u]
    show (if 6 ≤ nI i then _ else (fX2_sizeOf M o (nI i)).bind _) = _
    have h1 : szr S i ≤ 36 := fb_ct_le _ _
    have h2 : szr S q ≤ 36 := fb_ct_le _ _
    have e1 : ∀ t, fb_ct (fun k => S (36 * t + k)) 36 = szr S t := fun _ => rfl
    rw [sizeOf_eq hF hi, e1, e1]
    unfold ahd
    by_cases z : szr S q < szr S i
    · simp (disch := omega) only [li0, li1, li2, li3, li4, li5, li6, li8, li9, li10, li11, li20, li21, li24, li32, li33, li36, li37, li40, li43, li45, li48, li53, li54, li57, li59, li60, li61, li63, li84, li97, li100, li102, li114, li120, li122, li216, li217, li257, li300, li1296, li1799, li2056, nI_add, pk_mul, nI_subN, pk_div, jremN, nI_leI, nI_ltI, nI_eq, nI_clamp, inb_N, if_pos, if_neg, if_true, if_false, nm, jn, bd2, Option.bind_some, z, decide_true, Bool.true_or]
    · by_cases y : szr S i = szr S q
      · by_cases w : i < q
        · simp (disch := omega) only [li0, li1, li2, li3, li4, li5, li6, li8, li9, li10, li11, li20, li21, li24, li32, li33, li36, li37, li40, li43, li45, li48, li53, li54, li57, li59, li60, li61, li63, li84, li97, li100, li102, li114, li120, li122, li216, li217, li257, li300, li1296, li1799, li2056, nI_add, pk_mul, nI_subN, pk_div, jremN, nI_leI, nI_ltI, nI_eq, nI_clamp, inb_N, if_pos, if_neg, if_true, if_false, nm, jn, bd2, Option.bind_some, z, y, Nat.lt_irrefl, show ¬ q ≤ i by omega, decide_false, decide_true, Bool.false_or, w, beq_self_eq_true, Bool.true_and]
        · simp (disch := omega) only [li0, li1, li2, li3, li4, li5, li6, li8, li9, li10, li11, li20, li21, li24, li32, li33, li36, li37, li40, li43, li45, li48, li53, li54, li57, li59, li60, li61, li63, li84, li97, li100, li102, li114, li120, li122, li216, li217, li257, li300, li1296, li1799, li2056, nI_add, pk_mul, nI_subN, pk_div, jremN, nI_leI, nI_ltI, nI_eq, nI_clamp, inb_N, if_pos, if_neg, if_true, if_false, nm, jn, bd2, Option.bind_some, z, y, Nat.lt_irrefl, show q ≤ i by omega, decide_false, decide_true, Bool.false_or, w, beq_self_eq_true, Bool.true_and, Bool.false_eq_true, Nat.add_zero]
      · simp (disch := omega) only [li0, li1, li2, li3, li4, li5, li6, li8, li9, li10, li11, li20, li21, li24, li32, li33, li36, li37, li40, li43, li45, li48, li53, li54, li57, li59, li60, li61, li63, li84, li97, li100, li102, li114, li120, li122, li216, li217, li257, li300, li1296, li1799, li2056, nI_add, pk_mul, nI_subN, pk_div, jremN, nI_leI, nI_ltI, nI_eq, nI_clamp, inb_N, if_pos, if_neg, if_true, if_false, nm, jn, bd2, Option.bind_some, z, y, decide_false, Bool.false_or, beq_eq_false_iff_ne.mpr y, Bool.false_and, Bool.false_eq_true, Nat.add_zero]
  · show fX9_rankOf_L11 M (nI q) o _ rec _ (nI _, nI 6) = _
    rw [fX9_rankOf_L11_u]
    simp (disch := omega) only [li0, li1, li2, li3, li4, li5, li6, li8, li9, li10, li11, li20, li21, li24, li32, li33, li36, li37, li40, li43, li45, li48, li53, li54, li57, li59, li60, li61, li63, li84, li97, li100, li102, li114, li120, li122, li216, li217, li257, li300, li1296, li1799, li2056, nI_add, pk_mul, nI_subN, pk_div, jremN, nI_leI, nI_ltI, nI_eq, nI_clamp, inb_N, if_pos, if_neg, if_true, if_false, nm, jn, bd2, Option.bind_some, fX9_rankOf_X11]
end KQ2
section KQ3
variable {M : KS} {o : Nat} {R : RS} {X : DX} {A : Nat → Nat} {b : Nat} {T S : Nat → Bool}
theorem wy_0 {S : Nat → Bool} {k : Nat} : wy S R k = 0 ↔ ∀ r, r < R.1 → R.2.1 r = k / 36 → ∀ z, z < 6 → zin R r z = true → mk S R r (k / 6 % 6) (k % 6) z = false := by
  unfold wy
  constructor
  · intro h r hr hh z hz h1
    have h2 := fb_sm_zero h r hr
    unfold wyr at h2
    rw [if_pos hh] at h2
    have h3 := fb_ct_zero.mp h2 z hz
    simp only [h1, Bool.true_and] at h3
    exact h3
  · intro h
    have : fb_sm (wyr S R k) R.1 = fb_sm (fun _ => 0) R.1 := fb_sm_cong (fun r hr => by
      unfold wyr
      split
      · rename_i hh
        refine fb_ct_zero.mpr (fun z hz => ?_)
        cases h1 : zin R r z
        · rfl
        · rw [h r hr hh z hz h1]; rfl
      · rfl)
    rw [this, fb_sm_const]; omega
theorem wy_le (S : Nat → Bool) (k : Nat) : wy S R k ≤ 6 * R.1 := by
  unfold wy
  have := fb_sm_bound (f := wyr S R k) (c := 6) (n := R.1) (fun r hr => by
    unfold wyr
    split
    · exact fb_ct_le _ 6
    · omega)
  omega
theorem kclosed_eq (hR : RA M 0 R) (hO : OKR R) (hF : FA M o S) (hC : ∀ k, k < 216 → S k = false → wy S R k = 0) : fX6_areClosed M 0 o = some (nI 1) := by
  have hn10 := hO.1
  unfold fX6_areClosed
  refine lp_run (fun i => nI i) (e := 216) (by decide) (fun i rec hi => ?_) (fun rec => ?_)
  · show fX6_areClosed_L2 M 0 o rec _ (nI i) = rec (nI (i + 1))
    unfold fX6_areClosed_L2
    cases e : S i
    · simp (disch := omega) only [li0, li1, li2, li3, li4, li5, li6, li8, li9, li10, li11, li20, li21, li24, li32, li33, li36, li37, li40, li43, li45, li48, li53, li54, li57, li59, li60, li61, li63, li84, li97, li100, li102, li114, li120, li122, li216, li217, li257, li300, li1296, li1799, li2056, nI_add, pk_mul, nI_subN, pk_div, jremN, nI_leI, nI_ltI, nI_eq, nI_clamp, inb_N, if_pos, if_neg, if_true, if_false, nm, jn, bd2, Option.bind_some, has_eq hF hi, e, bI_f, kways_eq hR hO hF hi, hC i hi e]
    · simp (disch := omega) only [li0, li1, li2, li3, li4, li5, li6, li8, li9, li10, li11, li20, li21, li24, li32, li33, li36, li37, li40, li43, li45, li48, li53, li54, li57, li59, li60, li61, li63, li84, li97, li100, li102, li114, li120, li122, li216, li217, li257, li300, li1296, li1799, li2056, nI_add, pk_mul, nI_subN, pk_div, jremN, nI_leI, nI_ltI, nI_eq, nI_clamp, inb_N, if_pos, if_neg, if_true, if_false, nm, jn, bd2, Option.bind_some, has_eq hF hi, e, bI_t]
  · show fX6_areClosed_L2 M 0 o rec _ (nI 216) = _
    unfold fX6_areClosed_L2
    simp (disch := omega) only [li0, li1, li2, li3, li4, li5, li6, li8, li9, li10, li11, li20, li21, li24, li32, li33, li36, li37, li40, li43, li45, li48, li53, li54, li57, li59, li60, li61, li63, li84, li97, li100, li102, li114, li120, li122, li216, li217, li257, li300, li1296, li1799, li2056, nI_add, pk_mul, nI_subN, pk_div, jremN, nI_leI, nI_ltI, nI_eq, nI_clamp, inb_N, if_pos, if_neg, if_true, if_false, nm, jn, bd2, Option.bind_some, fX6_areClosed_X2]
theorem DV_cl (hK : IsLay R R.1 A) (hA5 : ∀ q, q < 6 → A q ≤ 5) (hO : OKR R) : ∀ k, k < 216 → (DV T R A).1 k = false → wy (DV T R A).1 R k = 0 := fun k hk hs => wy_0.mpr (fun r hr hh z hz h1 => DV_closed hK.1 hO.ok hA5 hk hs hr hh hz h1)
theorem kfound_eq (hK : KD M T R A) (hR : RA M 0 R) (hO : OKR R) (hT : FA M 0 T) : fX1_areFounded M 0 = some (nI 1) := by
  have hn10 := hO.1
  have hw := WI.dend_ (T := T) hK.1.1 hO.ok 6
  rw [← DV_d] at hw
  have hB := XB.DV_ (T := T) (A := A) hO.ok
  unfold fX1_areFounded
  refine lp_run (fun i => nI i) (e := 216) (by decide) (fun i rec hi => ?_) (fun rec => ?_)
  · show fX1_areFounded_L2 M 0 rec _ (nI i) = rec (nI (i + 1))
    unfold fX1_areFounded_L2
    cases e : (DV T R A).1 i
    · simp (disch := omega) only [li0, li1, li2, li3, li4, li5, li6, li8, li9, li10, li11, li20, li21, li24, li32, li33, li36, li37, li40, li43, li45, li48, li53, li54, li57, li59, li60, li61, li63, li84, li97, li100, li102, li114, li120, li122, li216, li217, li257, li300, li1296, li1799, li2056, nI_add, pk_mul, nI_subN, pk_div, jremN, nI_leI, nI_ltI, nI_eq, nI_clamp, inb_N, if_pos, if_neg, if_true, if_false, nm, jn, bd2, Option.bind_some, has_eq hK.2.2.2.1 hi, e, bI_f]
    · cases e2 : T i
      · have h1 := (hw i hi).2.1 e
        rw [e2] at h1
        have h2 := (hw i hi).2.2.1 (h1.resolve_left (by decide))
        have h3 : wy (DV T R A).1 R i ≠ 0 := fun z => by
          have := wy_0.mp z _ h2.2.2.1 h2.2.2.2.2.1 _ h2.2.2.2.1 h2.2.2.2.2.2.1
          rw [h2.2.2.2.2.2.2.1] at this
          exact absurd this (by decide)
        have h4 := wy_le (R := R) (DV T R A).1 i
        refine Eq.trans (ite_f (nI_ge hi (by decide))) ?_
        rw [has_eq hK.2.2.2.1 hi, e, Option.bind_some]
        refine Eq.trans (ite_f (by decide)) ?_
        rw [has_eq hT hi, e2, Option.bind_some]
        refine Eq.trans (ite_t rfl) ?_
        rw [kways_eq hR hO hK.2.2.2.1 hi, Option.bind_some]
        refine Eq.trans (ite_f (fun z => h3 ((nI_eq (by omega) (by decide)).mp z))) ?_
        refine lp_run (fun j => nI j) (e := 3) (by decide) (fun j rec2 hj => ?_) (fun rec2 => ?_)
        · show fX1_areFounded_L53 M 0 (nI i) rec2 _ (nI j) = rec2 (nI (j + 1))
          unfold fX1_areFounded_L53
          refine Eq.trans (ite_f (nI_ge hj (by decide))) ?_
          rw [need_eq hK.2.2.2.2 hB hR.2 hn10 hO.ok hi hj, Option.bind_some]
          by_cases q : 0 < (DV T R A).2.1 i ∧ psc R ((DV T R A).2.2.1 i) j = true
          · rw [if_pos q]
            have h5 := nd_holds h2.2.2.2.2.2.2.1 hj q.2
            have h6 := ndc_lt (j := j) (hO.ok _ h2.2.2.1) hi h2.2.2.2.1 hj
            refine Eq.trans (ite_f (fun z => (nI_lt0 (by omega)).mp z)) ?_
            rw [has_eq hK.2.2.2.1 h6, h5, Option.bind_some]
            refine Eq.trans (ite_f (by decide)) ?_
            simp (disch := omega) only [li0, li1, li2, li3, li4, li5, li6, li8, li9, li10, li11, li20, li21, li24, li32, li33, li36, li37, li40, li43, li45, li48, li53, li54, li57, li59, li60, li61, li63, li84, li97, li100, li102, li114, li120, li122, li216, li217, li257, li300, li1296, li1799, li2056, nI_add, pk_mul, nI_subN, pk_div, jremN, nI_leI, nI_ltI, nI_eq, nI_clamp, inb_N, if_pos, if_neg, if_true, if_false, nm, jn, bd2, Option.bind_some]
          · rw [if_neg q]
            refine Eq.trans (ite_t neg1_lt) ?_
            simp (disch := omega) only [li0, li1, li2, li3, li4, li5, li6, li8, li9, li10, li11, li20, li21, li24, li32, li33, li36, li37, li40, li43, li45, li48, li53, li54, li57, li59, li60, li61, li63, li84, li97, li100, li102, li114, li120, li122, li216, li217, li257, li300, li1296, li1799, li2056, nI_add, pk_mul, nI_subN, pk_div, jremN, nI_leI, nI_ltI, nI_eq, nI_clamp, inb_N, if_pos, if_neg, if_true, if_false, nm, jn, bd2, Option.bind_some]
        · show fX1_areFounded_L53 M 0 (nI i) rec2 _ (nI 3) = _
          unfold fX1_areFounded_L53
          simp (disch := omega) only [li0, li1, li2, li3, li4, li5, li6, li8, li9, li10, li11, li20, li21, li24, li32, li33, li36, li37, li40, li43, li45, li48, li53, li54, li57, li59, li60, li61, li63, li84, li97, li100, li102, li114, li120, li122, li216, li217, li257, li300, li1296, li1799, li2056, nI_add, pk_mul, nI_subN, pk_div, jremN, nI_leI, nI_ltI, nI_eq, nI_clamp, inb_N, if_pos, if_neg, if_true, if_false, nm, jn, bd2, Option.bind_some, fX1_areFounded_X53]
      · simp (disch := omega) only [li0, li1, li2, li3, li4, li5, li6, li8, li9, li10, li11, li20, li21, li24, li32, li33, li36, li37, li40, li43, li45, li48, li53, li54, li57, li59, li60, li61, li63, li84, li97, li100, li102, li114, li120, li122, li216, li217, li257, li300, li1296, li1799, li2056, nI_add, pk_mul, nI_subN, pk_div, jremN, nI_leI, nI_ltI, nI_eq, nI_clamp, inb_N, if_pos, if_neg, if_true, if_false, nm, jn, bd2, Option.bind_some, has_eq hK.2.2.2.1 hi, has_eq hT hi, e, e2, bI_t]
  · show fX1_areFounded_L2 M 0 rec _ (nI 216) = _
    unfold fX1_areFounded_L2
    simp (disch := omega) only [li0, li1, li2, li3, li4, li5, li6, li8, li9, li10, li11, li20, li21, li24, li32, li33, li36, li37, li40, li43, li45, li48, li53, li54, li57, li59, li60, li61, li63, li84, li97, li100, li102, li114, li120, li122, li216, li217, li257, li300, li1296, li1799, li2056, nI_add, pk_mul, nI_subN, pk_div, jremN, nI_leI, nI_ltI, nI_eq, nI_clamp, inb_N, if_pos, if_neg, if_true, if_false, nm, jn, bd2, Option.bind_some, fX1_areFounded_X2]
theorem allb_iff {p : Nat → Bool} {n : Nat} : (fb_ct p n == n) = true ↔ ∀ k, k < n → p k = true := by rw [beq_iff_eq]; exact fb_ct_all
end KQ3
