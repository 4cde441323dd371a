/-! ===== bounds, rounds and stages of a derivation ===== -/
theorem lp_run {σ τ α : Type} {body : (σ → Option α) → (τ → Option α) → σ → Option α} {k : τ → Option α} {o : Option α} (st : Nat → σ) {e N : Nat} (hN : e < N) (h : ∀ i rec, i < e → body rec k (st i) = rec (st (i + 1))) (he : ∀ rec, body rec k (st e) = o) : lp body k N (st 0) = o := by
  have key : ∀ d i N, i + d = e → d < N → lp body k N (st i) = o := by
    intro d
    induction d with
    | zero =>
      intro i N hi hN
      obtain ⟨m, rfl⟩ : ∃ m, N = m + 1 := ⟨N - 1, by omega⟩
      rw [lp_s, show i = e by omega]
      exact he _
    | succ d ih =>
      intro i N hi hN
      obtain ⟨m, rfl⟩ : ∃ m, N = m + 1 := ⟨N - 1, by omega⟩
      rw [lp_s, h i _ (by omega)]
      exact ih (i + 1) m (by omega) (by omega)
  exact key e 0 N (by omega) hN
section STR
variable {R : RS} {A : Nat → Nat} {l i b : Nat} {X : DX} {T : Nat → Bool}
theorem XB.itr_ (h : XB R X b) (hO : ∀ r, r < R.1 → OK1 R r) : ∀ j, j ≤ 300 → XB R (itr R A l X j) (b + j)
  | 0, _ => h
  | j + 1, hj => XB.stp (XB.itr_ h hO j (by omega)) hO hj
theorem XB.dend_ (hO : ∀ r, r < R.1 → OK1 R r) : ∀ l, XB R (dend R A (X0 T) l) (fb_sm (rr R A (X0 T)) l)
  | 0 => XB.z
  | l + 1 => by
    have h1 := nr_le (X := dend R A (X0 T) l) (R := R) (lay := A) (l := l)
    rw [dend_s]
    exact XB.itr_ (XB.dend_ hO l) hO _ (by omega)
theorem rr_216 (l : Nat) : fb_sm (rr R A (X0 T)) l ≤ 216 := by
  have h1 := rr_ct (R := R) (lay := A) (X := X0 T) l
  have h2 := hct_le (X := dend R A (X0 T) l)
  omega
theorem XB.DV_ (hO : ∀ r, r < R.1 → OK1 R r) : XB R (DV T R A) 216 := (XB.dend_ (T := T) (A := A) hO 6).mono (rr_216 6)
theorem itr_hs2 {k : Nat} {i j : Nat} (h : (itr R A l X i).1 k = true) (hij : i ≤ j) : (itr R A l X j).1 k = true := by
  obtain ⟨d, rfl⟩ : ∃ d, j = i + d := ⟨j - i, by omega⟩
  induction d with
  | zero => exact h
  | succ d ih =>
    show ((itr R A l X (i + d)).1 k || _) = true
    rw [ih (by omega), Bool.true_or]
/-- the stage of what comes in a layer -/
theorem itr_stage {k : Nat} (h0 : X.2.1 k = 0) : ∀ j, ((itr R A l X j).2.1 k ≤ j) ∧ ∀ i, i < j → ((itr R A l X j).2.1 k = i + 1 ↔ nw (itr R A l X i).1 R A l k = true)
  | 0 => ⟨by show X.2.1 k ≤ 0; omega, fun i hi => absurd hi (Nat.not_lt_zero _)⟩
  | j + 1 => by
    have ih := itr_stage h0 j
    cases hn : nw (itr R A l X j).1 R A l k
    · have e : (itr R A l X (j + 1)).2.1 k = (itr R A l X j).2.1 k := (stp_old hn).2.1
      rw [e]
      refine ⟨by omega, fun i hi => ?_⟩
      rcases Nat.lt_or_ge i j with q | q
      · exact ih.2 i q
      · have : i = j := by omega
        subst this
        rw [hn]
        exact ⟨fun z => by omega, fun z => absurd z (by decide)⟩
    · have e : (itr R A l X (j + 1)).2.1 k = j + 1 := (stp_new hn).2.1
      rw [e]
      refine ⟨Nat.le_refl _, fun i hi => ?_⟩
      by_cases q : i = j
      · subst q
        rw [hn]
        exact ⟨fun _ => rfl, fun _ => rfl⟩
      · refine ⟨fun z => absurd z (by omega), fun z => ?_⟩
        have h1 : (itr R A l X (i + 1)).1 k = true := (stp_new z).1
        have h2 := itr_hs2 h1 (show i + 1 ≤ j by omega)
        rw [hs_old h2] at hn
        exact absurd hn (by decide)
theorem DV_stage (hS : Sol R R.1 A) (hO : ∀ r, r < R.1 → OK1 R r) (hA5 : ∀ q, q < 6 → A q ≤ 5) {k : Nat} (hk : k < 216) (hl : A (k / 36) = l) : (DV T R A).2.1 k ≤ rr R A (X0 T) l ∧ ∀ i, i < rr R A (X0 T) l → ((DV T R A).2.1 k = i + 1 ↔ nw (itr R A l (dend R A (X0 T) l) i).1 R A l k = true) := by
  have hw := WI.dend_ (T := T) hS hO l k hk
  have h0 : (dend R A (X0 T) l).2.1 k = 0 := by
    rcases Nat.eq_zero_or_pos ((dend R A (X0 T) l).2.1 k) with q | q
    · exact q
    · have := (hw.2.2.1 q).2.1
      omega
  have h5 := hA5 (k / 36) (by omega)
  have e : (DV T R A).2.1 k = (itr R A l (dend R A (X0 T) l) (rr R A (X0 T) l)).2.1 k := by
    have := (dend_off (R := R) (A := A) (X := X0 T) (k := k) (l' := l + 1) (by omega) (5 - l)).2
    rw [show l + 1 + (5 - l) = 6 by omega] at this
    rw [DV_d, this, dend_s]
    unfold rr
    exact Eq.refl _
  rw [e]
  exact itr_stage h0 _
theorem rr_nws {i : Nat} (hi : i < rr R A (X0 T) l) : 0 < nws R A l (itr R A l (dend R A (X0 T) l) i) := nr_pos hi
/-- how many facts come in a round -/
theorem DV_fresh (hS : Sol R R.1 A) (hO : ∀ r, r < R.1 → OK1 R r) (hA5 : ∀ q, q < 6 → A q ≤ 5) {i : Nat} (hi : i < rr R A (X0 T) l) : fb_ct (fun k => decide ((DV T R A).2.1 k = i + 1) && decide (A (k / 36) = l)) 216 = nws R A l (itr R A l (dend R A (X0 T) l) i) := by
  unfold nws
  refine fb_ct_cong (fun k hk => ?_)
  by_cases hl : A (k / 36) = l
  · rw [decide_eq_true hl, Bool.and_true]
    have := (DV_stage (T := T) hS hO hA5 hk hl).2 i hi
    cases hn : nw (itr R A l (dend R A (X0 T) l) i).1 R A l k
    · rw [hn] at this
      rw [decide_eq_false_iff_not]
      exact fun z => absurd (this.mp z) (by decide)
    · rw [hn] at this
      rw [decide_eq_true_eq]
      exact this.mpr rfl
  · rw [decide_eq_false hl, Bool.and_false, nw_no hl]
theorem rr_max (hS : Sol R R.1 A) (hO : ∀ r, r < R.1 → OK1 R r) (hA5 : ∀ q, q < 6 → A q ≤ 5) : mx6 (fun q => if A q = l then mx6 (fun k => if k / 36 = q then (DV T R A).2.1 k else 0) 216 else 0) 6 = rr R A (X0 T) l := by
  apply Nat.le_antisymm
  · rw [mx6_le]
    intro q hq
    split
    · rename_i hl
      rw [mx6_le]
      intro k hk
      split
      · rename_i hkq
        exact (DV_stage hS hO hA5 hk (by rw [hkq]; exact hl)).1
      · exact Nat.zero_le _
    · exact Nat.zero_le _
  · rcases Nat.eq_zero_or_pos (rr R A (X0 T) l) with h0 | hpos
    · omega
    · have h1 := rr_nws (R := R) (A := A) (T := T) (l := l) (i := rr R A (X0 T) l - 1) (by omega)
      obtain ⟨k, hk, hn⟩ := fb_ct_pos.mp h1
      have hl := (nw_lay hn).1
      have h2 := ((DV_stage (T := T) hS hO hA5 hk hl).2 (rr R A (X0 T) l - 1) (by omega)).mpr hn
      have h3 := mx6_le.mp (Nat.le_refl (mx6 (fun q => if A q = l then mx6 (fun k => if k / 36 = q then (DV T R A).2.1 k else 0) 216 else 0) 6)) (k / 36) (by omega)
      simp only [hl, if_true] at h3
      have h4 := mx6_le.mp (Nat.le_refl (mx6 (fun j => if j / 36 = k / 36 then (DV T R A).2.1 j else 0) 216)) k hk
      simp only [if_true] at h4
      omega
theorem rr_no (h : ∀ q, q < 6 → A q ≠ l) : rr R A X l = 0 := itr_no h
end STR
/-! ===== the class's questions about what is derived ===== -/
section KQ
variable {M : KS} {o : Nat} {R : RS} {X : DX} {A : Nat → Nat} {b : Nat} {T : Nat → Bool}
theorem mx_le300 {F : Nat → Nat} {n c : Nat} (h : ∀ k, k < n → F k ≤ c) : mx6 F n ≤ c := mx6_le.mpr h
theorem klast_eq (hX : KX M X) (hB : XB R X b) {q : Nat} (hq : q < 6) : fX1_lastStage M (nI q) = some (nI (mx6 (fun k => if k / 36 = q then X.2.1 k else 0) 216)) := by
  unfold fX1_lastStage
  refine lp_run (fun i => (nI (mx6 (fun k => if k / 36 = q then X.2.1 k else 0) i), nI i)) (e := 216) (by decide) (fun i rec hi => ?_) (fun rec => ?_)
  · show fX1_lastStage_L4 M (nI q) rec _ (nI _, nI i) = rec (nI (max _ (if i / 36 = q then X.2.1 i else 0)), nI (i + 1))
    have h1 := (hX i hi).1
    have h2 := (hB i hi).1
    have h3 : mx6 (fun k => if k / 36 = q then X.2.1 k else 0) i ≤ 300 := mx6_le.mpr (fun k hk => by have := (hB k (by omega)).1; split <;> omega)
    rw [fX1_lastStage_L4_u]
    by_cases e : i / 36 = q
    · simp (disch := omega) only [li0, li1, li2, li3, li4, li5, li6, li8, li9, li10, li11, li20, li21, li24, li32, li33, li36, li37, li40, li43, li45, li48, li53, li54, li57, li59, li60, li61, li63, li84, li97, li100, li102, li114, li120, li122, li216, li217, li257, li300, li1296, li1799, li2056, nI_add, pk_mul, nI_subN, pk_div, jremN, nI_leI, nI_ltI, nI_eq, nI_clamp, inb_N, if_pos, if_neg, if_true, if_false, nm, jn, bd2, Option.bind_some, h1, jmaxN, e]
    · simp (disch := omega) only [li0, li1, li2, li3, li4, li5, li6, li8, li9, li10, li11, li20, li21, li24, li32, li33, li36, li37, li40, li43, li45, li48, li53, li54, li57, li59, li60, li61, li63, li84, li97, li100, li102, li114, li120, li122, li216, li217, li257, li300, li1296, li1799, li2056, nI_add, pk_mul, nI_subN, pk_div, jremN, nI_leI, nI_ltI, nI_eq, nI_clamp, inb_N, if_pos, if_neg, if_true, if_false, nm, jn, bd2, Option.bind_some, h1, jmaxN, e]
      rw [Nat.max_eq_left (Nat.zero_le _)]
  · show fX1_lastStage_L4 M (nI q) rec _ (nI _, nI 216) = _
    rw [fX1_lastStage_L4_u]
    simp (disch := omega) only [li0, li1, li2, li3, li4, li5, li6, li8, li9, li10, li11, li20, li21, li24, li32, li33, li36, li37, li40, li43, li45, li48, li53, li54, li57, li59, li60, li61, li63, li84, li97, li100, li102, li114, li120, li122, li216, li217, li257, li300, li1296, li1799, li2056, nI_add, pk_mul, nI_subN, pk_div, jremN, nI_leI, nI_ltI, nI_eq, nI_clamp, inb_N, if_pos, if_neg, if_true, if_false, nm, jn, bd2, Option.bind_some, fX1_lastStage_X4]
theorem kder_eq (hX : KX M X) (hB : XB R X b) (hn : R.1 ≤ 10) {r : Nat} (hr : r < 10) : fX1_derivationsWith M (nI r) = some (nI (fb_ct (fun k => decide (0 < X.2.1 k) && decide (X.2.2.1 k = r)) 216)) := by
  unfold fX1_derivationsWith
  refine lp_run (fun i => (nI (fb_ct (fun k => decide (0 < X.2.1 k) && decide (X.2.2.1 k = r)) i), nI i)) (e := 216) (by decide) (fun i rec hi => ?_) (fun rec => ?_)
  · show fX1_derivationsWith_L4 M (nI r) rec _ (nI _, nI i) = rec (nI (_ + if (decide (0 < X.2.1 i) && decide (X.2.2.1 i = r)) = true then 1 else 0), nI (i + 1))
    have h1 := (hX i hi).2.1
    have h2 := (hB i hi).2.1
    rw [fX1_derivationsWith_L4_u]
    by_cases e : 0 < X.2.1 i
    · have h3 := (h2 e).2.1
      rw [if_pos e] at h1
      by_cases e2 : X.2.2.1 i = r
      · simp (disch := omega) only [li0, li1, li2, li3, li4, li5, li6, li8, li9, li10, li11, li20, li21, li24, li32, li33, li36, li37, li40, li43, li45, li48, li53, li54, li57, li59, li60, li61, li63, li84, li97, li100, li102, li114, li120, li122, li216, li217, li257, li300, li1296, li1799, li2056, nI_add, pk_mul, nI_subN, pk_div, jremN, nI_leI, nI_ltI, nI_eq, nI_clamp, inb_N, if_pos, if_neg, if_true, if_false, nm, jn, bd2, Option.bind_some, h1, e, e2, decide_true, Bool.and_self]
      · simp (disch := omega) only [li0, li1, li2, li3, li4, li5, li6, li8, li9, li10, li11, li20, li21, li24, li32, li33, li36, li37, li40, li43, li45, li48, li53, li54, li57, li59, li60, li61, li63, li84, li97, li100, li102, li114, li120, li122, li216, li217, li257, li300, li1296, li1799, li2056, nI_add, pk_mul, nI_subN, pk_div, jremN, nI_leI, nI_ltI, nI_eq, nI_clamp, inb_N, if_pos, if_neg, if_true, if_false, nm, jn, bd2, Option.bind_some, h1, e, e2, decide_true, decide_false, Bool.and_false, Bool.false_eq_true, Nat.add_zero]
    · rw [if_neg e] at h1
      have h3 : ¬ (-nI 1 : Int32) = nI r := fun z => by
        have := congrArg Int32.toInt z
        rw [nI_toInt (by omega)] at this
        have h4 : (-nI 1 : Int32).toInt = -1 := by decide
        omega
      simp (disch := omega) only [li0, li1, li2, li3, li4, li5, li6, li8, li9, li10, li11, li20, li21, li24, li32, li33, li36, li37, li40, li43, li45, li48, li53, li54, li57, li59, li60, li61, li63, li84, li97, li100, li102, li114, li120, li122, li216, li217, li257, li300, li1296, li1799, li2056, nI_add, pk_mul, nI_subN, pk_div, jremN, nI_leI, nI_ltI, nI_eq, nI_clamp, inb_N, if_pos, if_neg, if_true, if_false, nm, jn, bd2, Option.bind_some, h1, h3, e, decide_false, Bool.false_and, Bool.false_eq_true, Nat.add_zero]
  · show fX1_derivationsWith_L4 M (nI r) rec _ (nI _, nI 216) = _
    rw [fX1_derivationsWith_L4_u]
    simp (disch := omega) only [li0, li1, li2, li3, li4, li5, li6, li8, li9, li10, li11, li20, li21, li24, li32, li33, li36, li37, li40, li43, li45, li48, li53, li54, li57, li59, li60, li61, li63, li84, li97, li100, li102, li114, li120, li122, li216, li217, li257, li300, li1296, li1799, li2056, nI_add, pk_mul, nI_subN, pk_div, jremN, nI_leI, nI_ltI, nI_eq, nI_clamp, inb_N, if_pos, if_neg, if_true, if_false, nm, jn, bd2, Option.bind_some, fX1_derivationsWith_X4]
theorem kmaxs_eq (hX : KX M X) (hB : XB R X b) : fX1_greatestStage M = some (nI (mx6 X.2.1 216)) := by
  unfold fX1_greatestStage
  refine lp_run (fun i => (nI (mx6 X.2.1 i), nI i)) (e := 216) (by decide) (fun i rec hi => ?_) (fun rec => ?_)
  · show fX1_greatestStage_L4 M rec _ (nI _, nI i) = rec (nI (max _ (X.2.1 i)), nI (i + 1))
    have h1 := (hX i hi).1
    have h2 := (hB i hi).1
    have h3 : mx6 X.2.1 i ≤ 300 := mx6_le.mpr (fun k hk => (hB k (by omega)).1)
    rw [fX1_greatestStage_L4_u]
    simp (disch := omega) only [li0, li1, li2, li3, li4, li5, li6, li8, li9, li10, li11, li20, li21, li24, li32, li33, li36, li37, li40, li43, li45, li48, li53, li54, li57, li59, li60, li61, li63, li84, li97, li100, li102, li114, li120, li122, li216, li217, li257, li300, li1296, li1799, li2056, nI_add, pk_mul, nI_subN, pk_div, jremN, nI_leI, nI_ltI, nI_eq, nI_clamp, inb_N, if_pos, if_neg, if_true, if_false, nm, jn, bd2, Option.bind_some, h1, jmaxN]
  · show fX1_greatestStage_L4 M rec _ (nI _, nI 216) = _
    rw [fX1_greatestStage_L4_u]
    simp (disch := omega) only [li0, li1, li2, li3, li4, li5, li6, li8, li9, li10, li11, li20, li21, li24, li32, li33, li36, li37, li40, li43, li45, li48, li53, li54, li57, li59, li60, li61, li63, li84, li97, li100, li102, li114, li120, li122, li216, li217, li257, li300, li1296, li1799, li2056, nI_add, pk_mul, nI_subN, pk_div, jremN, nI_leI, nI_ltI, nI_eq, nI_clamp, inb_N, if_pos, if_neg, if_true, if_false, nm, jn, bd2, Option.bind_some, fX1_greatestStage_X4]
theorem kmaxd_eq (hX : KX M X) (hB : XB R X b) (hb : b ≤ 300) : fX1_greatestDepth M = some (nI (mx6 X.2.2.2.2.1 216)) := by
  unfold fX1_greatestDepth
  refine lp_run (fun i => (nI (mx6 X.2.2.2.2.1 i), nI i)) (e := 216) (by decide) (fun i rec hi => ?_) (fun rec => ?_)
  · show fX1_greatestDepth_L4 M rec _ (nI _, nI i) = rec (nI (max _ (X.2.2.2.2.1 i)), nI (i + 1))
    have h1 := (hX i hi).2.2.2.1
    have h2 := (hB i hi).2.2.1
    have h3 : mx6 X.2.2.2.2.1 i ≤ 300 := mx6_le.mpr (fun k hk => Nat.le_trans (hB k (by omega)).2.2.1 hb)
    rw [fX1_greatestDepth_L4_u]
    simp (disch := omega) only [li0, li1, li2, li3, li4, li5, li6, li8, li9, li10, li11, li20, li21, li24, li32, li33, li36, li37, li40, li43, li45, li48, li53, li54, li57, li59, li60, li61, li63, li84, li97, li100, li102, li114, li120, li122, li216, li217, li257, li300, li1296, li1799, li2056, nI_add, pk_mul, nI_subN, pk_div, jremN, nI_leI, nI_ltI, nI_eq, nI_clamp, inb_N, if_pos, if_neg, if_true, if_false, nm, jn, bd2, Option.bind_some, h1, jmaxN]
  · show fX1_greatestDepth_L4 M rec _ (nI _, nI 216) = _
    rw [fX1_greatestDepth_L4_u]
    simp (disch := omega) only [li0, li1, li2, li3, li4, li5, li6, li8, li9, li10, li11, li20, li21, li24, li32, li33, li36, li37, li40, li43, li45, li48, li53, li54, li57, li59, li60, li61, li63, li84, li97, li100, li102, li114, li120, li122, li216, li217, li257, li300, li1296, li1799, li2056, nI_add, pk_mul, nI_subN, pk_div, jremN, nI_leI, nI_ltI, nI_eq, nI_clamp, inb_N, if_pos, if_neg, if_true, if_false, nm, jn, bd2, Option.bind_some, fX1_greatestDepth_X4]
theorem ksumd_eq (hX : KX M X) : fX1_allDepths M = some (nI (fb_sm X.2.2.2.2.1 216)) := by
  unfold fX1_allDepths
  refine lp_run (fun i => (nI (fb_sm X.2.2.2.2.1 i), nI i)) (e := 216) (by decide) (fun i rec hi => ?_) (fun rec => ?_)
  · show fX1_allDepths_L4 M rec _ (nI _, nI i) = rec (nI (_ + X.2.2.2.2.1 i), nI (i + 1))
    have h1 := (hX i hi).2.2.2.1
    rw [fX1_allDepths_L4_u]
    simp (disch := omega) only [li0, li1, li2, li3, li4, li5, li6, li8, li9, li10, li11, li20, li21, li24, li32, li33, li36, li37, li40, li43, li45, li48, li53, li54, li57, li59, li60, li61, li63, li84, li97, li100, li102, li114, li120, li122, li216, li217, li257, li300, li1296, li1799, li2056, nI_add, pk_mul, nI_subN, pk_div, jremN, nI_leI, nI_ltI, nI_eq, nI_clamp, inb_N, if_pos, if_neg, if_true, if_false, nm, jn, bd2, Option.bind_some, h1]
  · show fX1_allDepths_L4 M rec _ (nI _, nI 216) = _
    rw [fX1_allDepths_L4_u]
    simp (disch := omega) only [li0, li1, li2, li3, li4, li5, li6, li8, li9, li10, li11, li20, li21, li24, li32, li33, li36, li37, li40, li43, li45, li48, li53, li54, li57, li59, li60, li61, li63, li84, li97, li100, li102, li114, li120, li122, li216, li217, li257, li300, li1296, li1799, li2056, nI_add, pk_mul, nI_subN, pk_div, jremN, nI_leI, nI_ltI, nI_eq, nI_clamp, inb_N, if_pos, if_neg, if_true, if_false, nm, jn, bd2, Option.bind_some, fX1_allDepths_X4]
theorem ksize_eq (hX : KX M X) {k : Nat} (hk : k < 216) : fX1_sizeOf M (nI k) = some (nI (fb_ct (X.2.2.2.2.2 k) 216)) := by
  unfold fX1_sizeOf
  refine Eq.trans (ite_f (nI_pos (by omega))) (Eq.trans (ite_t ((nI_ltI (by omega) (by decide)).mpr hk)) ?_)
  refine lp_run (fun i => (nI (fb_ct (X.2.2.2.2.2 k) (36 * i)), nI i)) (e := 6) (by decide) (fun i rec hi => ?_) (fun rec => ?_)
  · show fX1_sizeOf_L17 M (nI k) rec _ (nI _, nI i) = rec (nI (fb_ct _ (36 * (i + 1))), nI (i + 1))
    have h1 := lbc_eq (f := fun b => X.2.2.2.2.2 k (36 * i + b)) ((hX k hk).2.2.2.2 i hi)
    rw [fX1_sizeOf_L17_u]
    simp (disch := omega) only [li0, li1, li2, li3, li4, li5, li6, li8, li9, li10, li11, li20, li21, li24, li32, li33, li36, li37, li40, li43, li45, li48, li53, li54, li57, li59, li60, li61, li63, li84, li97, li100, li102, li114, li120, li122, li216, li217, li257, li300, li1296, li1799, li2056, nI_add, pk_mul, nI_subN, pk_div, jremN, nI_leI, nI_ltI, nI_eq, nI_clamp, inb_N, if_pos, if_neg, if_true, if_false, nm, jn, bd2, Option.bind_some, h1]
    rw [show 36 * (i + 1) = 36 * i + 36 by omega, fb_ct_split]
  · show fX1_sizeOf_L17 M (nI k) rec _ (nI _, nI 6) = _
    rw [fX1_sizeOf_L17_u]
    simp (disch := omega) only [li0, li1, li2, li3, li4, li5, li6, li8, li9, li10, li11, li20, li21, li24, li32, li33, li36, li37, li40, li43, li45, li48, li53, li54, li57, li59, li60, li61, li63, li84, li97, li100, li102, li114, li120, li122, li216, li217, li257, li300, li1296, li1799, li2056, nI_add, pk_mul, nI_subN, pk_div, jremN, nI_leI, nI_ltI, nI_eq, nI_clamp, inb_N, if_pos, if_neg, if_true, if_false, nm, jn, bd2, Option.bind_some, fX1_sizeOf_X17]
theorem kgsz_eq (hX : KX M X) (hF : FA M 11 X.1) : fX1_greatestSize M = some (nI (mx6 (fun k => if X.1 k then fb_ct (X.2.2.2.2.2 k) 216 else 0) 216)) := by
  unfold fX1_greatestSize
  refine lp_run (fun i => (nI (mx6 (fun k => if X.1 k then fb_ct (X.2.2.2.2.2 k) 216 else 0) i), nI i)) (e := 216) (by decide) (fun i rec hi => ?_) (fun rec => ?_)
  · show fX1_greatestSize_L4 M rec _ (nI _, nI i) = rec (nI (max _ (if X.1 i then fb_ct (X.2.2.2.2.2 i) 216 else 0)), nI (i + 1))
    have h2 := fb_ct_le (X.2.2.2.2.2 i) 216
    have h3 : mx6 (fun k => if X.1 k then fb_ct (X.2.2.2.2.2 k) 216 else 0) i ≤ 216 := mx6_le.mpr (fun k hk => by have := fb_ct_le (X.2.2.2.2.2 k) 216; split <;> omega)
    rw [fX1_greatestSize_L4_u]
    cases e : X.1 i
    · simp (disch := omega) only [li0, li1, li2, li3, li4, li5, li6, li8, li9, li10, li11, li20, li21, li24, li32, li33, li36, li37, li40, li43, li45, li48, li53, li54, li57, li59, li60, li61, li63, li84, li97, li100, li102, li114, li120, li122, li216, li217, li257, li300, li1296, li1799, li2056, nI_add, pk_mul, nI_subN, pk_div, jremN, nI_leI, nI_ltI, nI_eq, nI_clamp, inb_N, if_pos, if_neg, if_true, if_false, nm, jn, bd2, Option.bind_some, has_eq hF hi, e, bI_f, Bool.false_eq_true]
      rw [Nat.max_eq_left (Nat.zero_le _)]
    · simp (disch := omega) only [li0, li1, li2, li3, li4, li5, li6, li8, li9, li10, li11, li20, li21, li24, li32, li33, li36, li37, li40, li43, li45, li48, li53, li54, li57, li59, li60, li61, li63, li84, li97, li100, li102, li114, li120, li122, li216, li217, li257, li300, li1296, li1799, li2056, nI_add, pk_mul, nI_subN, pk_div, jremN, nI_leI, nI_ltI, nI_eq, nI_clamp, inb_N, if_pos, if_neg, if_true, if_false, nm, jn, bd2, Option.bind_some, has_eq hF hi, e, bI_t, ksize_eq hX hi, jmaxN]
  · show fX1_greatestSize_L4 M rec _ (nI _, nI 216) = _
    rw [fX1_greatestSize_L4_u]
    simp (disch := omega) only [li0, li1, li2, li3, li4, li5, li6, li8, li9, li10, li11, li20, li21, li24, li32, li33, li36, li37, li40, li43, li45, li48, li53, li54, li57, li59, li60, li61, li63, li84, li97, li100, li102, li114, li120, li122, li216, li217, li257, li300, li1296, li1799, li2056, nI_add, pk_mul, nI_subN, pk_div, jremN, nI_leI, nI_ltI, nI_eq, nI_clamp, inb_N, if_pos, if_neg, if_true, if_false, nm, jn, bd2, Option.bind_some, fX1_greatestSize_X4]
theorem krounds_eq (hK : KD M T R A) (hO : OKR R) {l : Nat} (hl : l < 6) : fX1_roundsOf M (nI l) = some (nI (rr R A (X0 T) l)) := by
  have hB := XB.DV_ (T := T) (A := A) hO.ok
  rw [← rr_max (T := T) (l := l) hK.1.1 hO.ok hK.2.1]
  unfold fX1_roundsOf
  refine lp_run (fun i => (nI (mx6 (fun q => if A q = l then mx6 (fun k => if k / 36 = q then (DV T R A).2.1 k else 0) 216 else 0) i), nI i)) (e := 6) (by decide) (fun i rec hi => ?_) (fun rec => ?_)
  · show fX1_roundsOf_L4 M (nI l) rec _ (nI _, nI i) = rec (nI (max _ (if A i = l then mx6 (fun k => if k / 36 = i then (DV T R A).2.1 k else 0) 216 else 0)), nI (i + 1))
    have hb : ∀ q, mx6 (fun k => if k / 36 = q then (DV T R A).2.1 k else 0) 216 ≤ 300 := fun q => mx6_le.mpr (fun k hk => by have := (hB k hk).1; split <;> omega)
    have h2 := hb i
    have h3 : mx6 (fun q => if A q = l then mx6 (fun k => if k / 36 = q then (DV T R A).2.1 k else 0) 216 else 0) i ≤ 300 := mx6_le.mpr (fun k hk => by have := hb k; split <;> omega)
    have h4 := hK.2.1 i hi
    rw [fX1_roundsOf_L4_u]
    by_cases e : A i = l
    · simp (disch := omega) only [li0, li1, li2, li3, li4, li5, li6, li8, li9, li10, li11, li20, li21, li24, li32, li33, li36, li37, li40, li43, li45, li48, li53, li54, li57, li59, li60, li61, li63, li84, li97, li100, li102, li114, li120, li122, li216, li217, li257, li300, li1296, li1799, li2056, nI_add, pk_mul, nI_subN, pk_div, jremN, nI_leI, nI_ltI, nI_eq, nI_clamp, inb_N, if_pos, if_neg, if_true, if_false, nm, jn, bd2, Option.bind_some, of_eq hK.2.2.1 hi, e, klast_eq hK.2.2.2.2 hB hi, jmaxN]
    · simp (disch := omega) only [li0, li1, li2, li3, li4, li5, li6, li8, li9, li10, li11, li20, li21, li24, li32, li33, li36, li37, li40, li43, li45, li48, li53, li54, li57, li59, li60, li61, li63, li84, li97, li100, li102, li114, li120, li122, li216, li217, li257, li300, li1296, li1799, li2056, nI_add, pk_mul, nI_subN, pk_div, jremN, nI_leI, nI_ltI, nI_eq, nI_clamp, inb_N, if_pos, if_neg, if_true, if_false, nm, jn, bd2, Option.bind_some, of_eq hK.2.2.1 hi, e, jmaxN]
      rw [Nat.max_eq_left (Nat.zero_le _)]
  · show fX1_roundsOf_L4 M (nI l) rec _ (nI _, nI 6) = _
    rw [fX1_roundsOf_L4_u]
    simp (disch := omega) only [li0, li1, li2, li3, li4, li5, li6, li8, li9, li10, li11, li20, li21, li24, li32, li33, li36, li37, li40, li43, li45, li48, li53, li54, li57, li59, li60, li61, li63, li84, li97, li100, li102, li114, li120, li122, li216, li217, li257, li300, li1296, li1799, li2056, nI_add, pk_mul, nI_subN, pk_div, jremN, nI_leI, nI_ltI, nI_eq, nI_clamp, inb_N, if_pos, if_neg, if_true, if_false, nm, jn, bd2, Option.bind_some, fX1_roundsOf_X4]
theorem kcnt_eq (hK : KD M T R A) : fX3_count M 0 = some (nI (mx6 A 6 + 1)) := cnt_eq hK.2.2.1 (fun q hq => by have := hK.2.1 q hq; omega)
theorem krall_eq (hK : KD M T R A) (hO : OKR R) : fX1_allRounds M = some (nI (fb_sm (rr R A (X0 T)) 6)) := by
  have hm : mx6 A 6 ≤ 5 := mx6_le.mpr hK.2.1
  have e6 : fb_sm (rr R A (X0 T)) 6 = fb_sm (rr R A (X0 T)) (mx6 A 6 + 1) := by
    have : ∀ d, mx6 A 6 + 1 + d ≤ 6 → fb_sm (rr R A (X0 T)) (mx6 A 6 + 1 + d) = fb_sm (rr R A (X0 T)) (mx6 A 6 + 1) := by
      intro d
      induction d with
      | zero => intro _; rfl
      | succ d ih =>
        intro hd
        have h1 := ih (by omega)
        show fb_sm _ (mx6 A 6 + 1 + d) + rr R A (X0 T) (mx6 A 6 + 1 + d) = _
        rw [h1, rr_no (fun q hq => by have := mx6_le.mp (Nat.le_refl (mx6 A 6)) q hq; omega), Nat.add_zero]
    have h2 := this (5 - mx6 A 6) (by omega)
    rw [show mx6 A 6 + 1 + (5 - mx6 A 6) = 6 by omega] at h2
    exact h2
  rw [e6]
  unfold fX1_allRounds
  rw [kcnt_eq hK]
  show lp (fX1_allRounds_L12 M (nI (mx6 A 6 + 1))) _ 1000000 (nI 0, nI 0) = _
  refine lp_run (fun i => (nI (fb_sm (rr R A (X0 T)) i), nI i)) (e := mx6 A 6 + 1) (by omega) (fun i rec hi => ?_) (fun rec => ?_)
  · show fX1_allRounds_L12 M _ rec _ (nI _, nI i) = rec (nI (_ + rr R A (X0 T) i), nI (i + 1))
    rw [fX1_allRounds_L12_u]
    have h2 := krounds_eq hK hO (show i < 6 by omega)
    simp (disch := omega) only [li0, li1, li2, li3, li4, li5, li6, li8, li9, li10, li11, li20, li21, li24, li32, li33, li36, li37, li40, li43, li45, li48, li53, li54, li57, li59, li60, li61, li63, li84, li97, li100, li102, li114, li120, li122, li216, li217, li257, li300, li1296, li1799, li2056, nI_add, pk_mul, nI_subN, pk_div, jremN, nI_leI, nI_ltI, nI_eq, nI_clamp, inb_N, if_pos, if_neg, if_true, if_false, nm, jn, bd2, Option.bind_some, h2]
  · show fX1_allRounds_L12 M _ rec _ (nI _, nI (mx6 A 6 + 1)) = _
    rw [fX1_allRounds_L12_u]
    simp (disch := omega) only [li0, li1, li2, li3, li4, li5, li6, li8, li9, li10, li11, li20, li21, li24, li32, li33, li36, li37, li40, li43, li45, li48, li53, li54, li57, li59, li60, li61, li63, li84, li97, li100, li102, li114, li120, li122, li216, li217, li257, li300, li1296, li1799, li2056, nI_add, pk_mul, nI_subN, pk_div, jremN, nI_leI, nI_ltI, nI_eq, nI_clamp, inb_N, if_pos, if_neg, if_true, if_false, nm, jn, bd2, Option.bind_some, fX1_allRounds_X12]
theorem kfresh_eq (hK : KD M T R A) (hO : OKR R) {l i : Nat} (hl : l < 6) (hi : i < rr R A (X0 T) l) : fX1_freshIn M (nI l) (nI (i + 1)) = some (nI (nws R A l (itr R A l (dend R A (X0 T) l) i))) := by
  have hB := XB.DV_ (T := T) (A := A) hO.ok
  have hrr := nr_le (X := dend R A (X0 T) l) (R := R) (lay := A) (l := l)
  have hi300 : i < 216 := by unfold rr at hi; omega
  rw [← DV_fresh (T := T) hK.1.1 hO.ok hK.2.1 hi]
  unfold fX1_freshIn
  refine lp_run (fun j => (nI (fb_ct (fun k => decide ((DV T R A).2.1 k = i + 1) && decide (A (k / 36) = l)) j), nI j)) (e := 216) (by decide) (fun j rec hj => ?_) (fun rec => ?_)
  · show fX1_freshIn_L5 M (nI l) (nI (i + 1)) rec _ (nI _, nI j) = rec (nI (_ + if (decide ((DV T R A).2.1 j = i + 1) && decide (A (j / 36) = l)) = true then 1 else 0), nI (j + 1))
    have h1 := (hK.2.2.2.2 j hj).1
    have h2 := (hB j hj).1
    have h3 := hK.2.1 (j / 36) (by omega)
    rw [fX1_freshIn_L5_u]
    by_cases e : (DV T R A).2.1 j = i + 1
    · by_cases e2 : A (j / 36) = l
      · simp (disch := omega) only [li0, li1, li2, li3, li4, li5, li6, li8, li9, li10, li11, li20, li21, li24, li32, li33, li36, li37, li40, li43, li45, li48, li53, li54, li57, li59, li60, li61, li63, li84, li97, li100, li102, li114, li120, li122, li216, li217, li257, li300, li1296, li1799, li2056, nI_add, pk_mul, nI_subN, pk_div, jremN, nI_leI, nI_ltI, nI_eq, nI_clamp, inb_N, if_pos, if_neg, if_true, if_false, nm, jn, bd2, Option.bind_some, h1, e, of_eq hK.2.2.1 (show j / 36 < 6 by omega), e2, decide_true, Bool.and_self]
      · simp (disch := omega) only [li0, li1, li2, li3, li4, li5, li6, li8, li9, li10, li11, li20, li21, li24, li32, li33, li36, li37, li40, li43, li45, li48, li53, li54, li57, li59, li60, li61, li63, li84, li97, li100, li102, li114, li120, li122, li216, li217, li257, li300, li1296, li1799, li2056, nI_add, pk_mul, nI_subN, pk_div, jremN, nI_leI, nI_ltI, nI_eq, nI_clamp, inb_N, if_pos, if_neg, if_true, if_false, nm, jn, bd2, Option.bind_some, h1, e, of_eq hK.2.2.1 (show j / 36 < 6 by omega), e2, decide_true, decide_false, Bool.and_false, Bool.false_eq_true, Nat.add_zero]
    · simp (disch := omega) only [li0, li1, li2, li3, li4, li5, li6, li8, li9, li10, li11, li20, li21, li24, li32, li33, li36, li37, li40, li43, li45, li48, li53, li54, li57, li59, li60, li61, li63, li84, li97, li100, li102, li114, li120, li122, li216, li217, li257, li300, li1296, li1799, li2056, nI_add, pk_mul, nI_subN, pk_div, jremN, nI_leI, nI_ltI, nI_eq, nI_clamp, inb_N, if_pos, if_neg, if_true, if_false, nm, jn, bd2, Option.bind_some, h1, e, decide_false, Bool.false_and, Bool.false_eq_true, Nat.add_zero]
  · show fX1_freshIn_L5 M (nI l) (nI (i + 1)) rec _ (nI _, nI 216) = _
    rw [fX1_freshIn_L5_u]
    simp (disch := omega) only [li0, li1, li2, li3, li4, li5, li6, li8, li9, li10, li11, li20, li21, li24, li32, li33, li36, li37, li40, li43, li45, li48, li53, li54, li57, li59, li60, li61, li63, li84, li97, li100, li102, li114, li120, li122, li216, li217, li257, li300, li1296, li1799, li2056, nI_add, pk_mul, nI_subN, pk_div, jremN, nI_leI, nI_ltI, nI_eq, nI_clamp, inb_N, if_pos, if_neg, if_true, if_false, nm, jn, bd2, Option.bind_some, fX1_freshIn_X5]
end KQ
