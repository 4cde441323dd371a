/-! ===== what holds behind all layers ===== -/
section INV
variable {R : RS} {X : DX} {A : Nat → Nat} {l i b : Nat} {S S' : Nat → Bool} {T : Nat → Bool}
theorem fc_36 {c : Int32} {x y z : Nat} (hx : x < 6) (hy : y < 6) (hz : z < 6) : fc c x y z / 36 = kr c := by
  have h2 := lt3_lt (l := k1 c) hx hy hz
  have h3 := lt3_lt (l := k2 c) hx hy hz
  unfold fc
  omega
/-- a rule of a layer up to l goes on making what it makes, if only facts of the layer l come -/
theorem cond_mono {r j x y z : Nat} (hS : Sol R R.1 A) (hr : r < R.1) (hO : OK1 R r) (hj : j < 3) (hl : A (R.2.1 r) ≤ l) (hsub : ∀ k, k < 216 → S k = true → S' k = true) (hoff : ∀ k, k < 216 → A (k / 36) < l → S' k = S k) (hx : x < 6) (hy : y < 6) (hz : z < 6) (h : cond S (R.2.2 r j) x y z = true) : cond S' (R.2.2 r j) x y z = true := by
  have hc := hO.2 j hj
  have hf := fc_lt hc hx hy hz
  unfold cond at h ⊢
  by_cases h0 : R.2.2 r j = 0
  · rw [decide_eq_true h0]; rfl
  · rw [decide_eq_false h0, Bool.false_or, beq_iff_eq] at h ⊢
    by_cases q : 0 < R.2.2 r j
    · rw [decide_eq_true q] at h ⊢
      exact hsub _ hf h
    · rw [decide_eq_false q] at h ⊢
      rw [hoff _ hf ?_]
      · exact h
      · rw [fc_36 hx hy hz]
        have h1 := hS r hr j hj h0
        have h2 : wt (R.2.2 r j) = 1 := by unfold wt; rw [if_pos ((kc_sgn h0).2.mpr q)]
        omega
theorem mk_mono {r x y z : Nat} (hS : Sol R R.1 A) (hr : r < R.1) (hO : OK1 R r) (hl : A (R.2.1 r) ≤ l) (hsub : ∀ k, k < 216 → S k = true → S' k = true) (hoff : ∀ k, k < 216 → A (k / 36) < l → S' k = S k) (hx : x < 6) (hy : y < 6) (hz : z < 6) (h : mk S R r x y z = true) : mk S' R r x y z = true := by
  unfold mk at h ⊢
  simp only [Bool.and_eq_true] at h ⊢
  exact ⟨⟨cond_mono hS hr hO (by decide) hl hsub hoff hx hy hz h.1.1, cond_mono hS hr hO (by decide) hl hsub hoff hx hy hz h.1.2⟩, cond_mono hS hr hO (by decide) hl hsub hoff hx hy hz h.2⟩
def WI (T : Nat → Bool) (R : RS) (A : Nat → Nat) (l : Nat) (X : DX) : Prop := ∀ k, k < 216 →
  (T k = true → X.1 k = true ∧ X.2.1 k = 0) ∧ (X.1 k = true → T k = true ∨ 0 < X.2.1 k) ∧
  (0 < X.2.1 k → X.1 k = true ∧ A (k / 36) < l ∧ X.2.2.1 k < R.1 ∧ X.2.2.2.1 k < 6 ∧ R.2.1 (X.2.2.1 k) = k / 36 ∧ zin R (X.2.2.1 k) (X.2.2.2.1 k) = true ∧ mk X.1 R (X.2.2.1 k) (k / 6 % 6) (k % 6) (X.2.2.2.1 k) = true ∧ X.2.2.2.2.1 k = dpn R X.2.2.2.2.1 (X.2.2.1 k) k (X.2.2.2.1 k) ∧ ∀ m, m < 216 → X.2.2.2.2.2 k m = cln R X.2.2.2.2.2 (X.2.2.1 k) k (X.2.2.2.1 k) m) ∧
  (X.2.1 k = 0 → X.2.2.2.2.1 k = 0 ∧ ∀ m, m < 216 → X.2.2.2.2.2 k m = (m == k))
theorem WI.z : WI T R A 0 (X0 T) := fun _ _ => ⟨fun h => ⟨h, rfl⟩, fun h => Or.inl h, fun h => absurd h (Nat.lt_irrefl _), fun _ => ⟨rfl, fun _ _ => rfl⟩⟩
theorem WI.up {l' : Nat} (h : WI T R A l X) (hl : l ≤ l') : WI T R A l' X := fun k hk => ⟨(h k hk).1, (h k hk).2.1, fun q => ⟨((h k hk).2.2.1 q).1, Nat.lt_of_lt_of_le ((h k hk).2.2.1 q).2.1 hl, ((h k hk).2.2.1 q).2.2⟩, (h k hk).2.2.2⟩
theorem stp_old {k : Nat} (h : nw X.1 R A l k = false) : (stp R A l i X).1 k = X.1 k ∧ (stp R A l i X).2.1 k = X.2.1 k ∧ (stp R A l i X).2.2.1 k = X.2.2.1 k ∧ (stp R A l i X).2.2.2.1 k = X.2.2.2.1 k ∧ (stp R A l i X).2.2.2.2.1 k = X.2.2.2.2.1 k ∧ ∀ m, (stp R A l i X).2.2.2.2.2 k m = X.2.2.2.2.2 k m := by
  unfold stp
  simp only [h, Bool.or_false, Bool.false_eq_true, if_false]
  exact ⟨trivial, trivial, trivial, trivial, trivial, fun _ => trivial⟩
theorem stp_new {k : Nat} (h : nw X.1 R A l k = true) : (stp R A l i X).1 k = true ∧ (stp R A l i X).2.1 k = i ∧ (stp R A l i X).2.2.1 k = nwr X R A l k ∧ (stp R A l i X).2.2.2.1 k = nwz X R A l k ∧ (stp R A l i X).2.2.2.2.1 k = dpn R X.2.2.2.2.1 (nwr X R A l k) k (nwz X R A l k) ∧ ∀ m, (stp R A l i X).2.2.2.2.2 k m = cln R X.2.2.2.2.2 (nwr X R A l k) k (nwz X R A l k) m := by
  unfold stp
  simp only [h, Bool.or_true, if_true]
  exact ⟨trivial, trivial, trivial, trivial, trivial, fun _ => trivial⟩
theorem hs_old {k : Nat} (h : X.1 k = true) : nw X.1 R A l k = false := by unfold nw; rw [h]; rfl
theorem WI.st (h : WI T R A (l + 1) X) (hS : Sol R R.1 A) (hO : ∀ r, r < R.1 → OK1 R r) (hi : 0 < i) : WI T R A (l + 1) (stp R A l i X) := by
  have hsub : ∀ k, k < 216 → X.1 k = true → (stp R A l i X).1 k = true := fun k _ hk => by rw [(stp_old (hs_old hk)).1]; exact hk
  have hoff : ∀ k, k < 216 → A (k / 36) < l → (stp R A l i X).1 k = X.1 k := fun k _ hk => (stp_old (nw_no (by omega))).1
  have nd_old : ∀ r k z, r < R.1 → k < 216 → z < 6 → mk X.1 R r (k / 6 % 6) (k % 6) z = true → ∀ j, j < 3 → psc R r j = true → nw X.1 R A l (ndc R r k z j) = false := fun r k z hr hk hz hm j hj hp => hs_old (nd_holds hm hj hp)
  intro k hk
  have h1 := h k hk
  cases hn : nw X.1 R A l k
  · have e := stp_old (R := R) (A := A) (l := l) (X := X) (i := i) hn
    rw [e.1, e.2.1, e.2.2.1, e.2.2.2.1, e.2.2.2.2.1]
    refine ⟨h1.1, h1.2.1, fun q => ?_, fun q => ⟨(h1.2.2.2 q).1, fun m hm => by rw [e.2.2.2.2.2]; exact (h1.2.2.2 q).2 m hm⟩⟩
    obtain ⟨a1, a2, a3, a4, a5, a6, a7, a8, a9⟩ := h1.2.2.1 q
    refine ⟨a1, a2, a3, a4, a5, a6, mk_mono hS a3 (hO _ a3) (by rw [a5]; omega) hsub hoff (by omega) (by omega) a4 a7, ?_, fun m hm => ?_⟩
    · rw [a8]
      exact dpn_cong (fun j hj hp => ((stp_old (nd_old _ k _ a3 hk a4 a7 j hj hp)).2.2.2.2.1).symm)
    · rw [e.2.2.2.2.2, a9 m hm]
      exact cln_cong (fun j hj hp => ((stp_old (nd_old _ k _ a3 hk a4 a7 j hj hp)).2.2.2.2.2 m).symm)
  · have e := stp_new (R := R) (A := A) (l := l) (X := X) (i := i) hn
    have h3 := nw_lay hn
    have hns : X.1 k = false := by
      unfold nw at hn
      cases hx : X.1 k
      · rfl
      · rw [hx] at hn; exact absurd hn (by simp)
    have hzm := zl_mk (S := X.1) (R := R) (r := nwr X R A l k) h3.2.2.2
    rw [e.1, e.2.1, e.2.2.1, e.2.2.2.1, e.2.2.2.2.1]
    refine ⟨fun ht => ?_, fun _ => Or.inr hi, fun _ => ⟨rfl, by omega, h3.2.1, h3.2.2.2, h3.2.2.1, hzm.1, mk_mono hS h3.2.1 (hO _ h3.2.1) (by show A (R.2.1 (nwr X R A l k)) ≤ l; rw [show R.2.1 (nwr X R A l k) = k / 36 from h3.2.2.1]; omega) hsub hoff (by omega) (by omega) h3.2.2.2 hzm.2, ?_, fun m hm => ?_⟩, fun q => absurd q (by omega)⟩
    · rw [(h1.1 ht).1] at hns
      exact absurd hns (by decide)
    · exact dpn_cong (fun j hj hp => ((stp_old (nd_old _ k _ h3.2.1 hk h3.2.2.2 hzm.2 j hj hp)).2.2.2.2.1).symm)
    · rw [e.2.2.2.2.2]
      exact cln_cong (fun j hj hp => ((stp_old (nd_old _ k _ h3.2.1 hk h3.2.2.2 hzm.2 j hj hp)).2.2.2.2.2 m).symm)
theorem WI.itr_ (h : WI T R A l X) (hS : Sol R R.1 A) (hO : ∀ r, r < R.1 → OK1 R r) : ∀ j, WI T R A (l + 1) (itr R A l X j)
  | 0 => h.up (Nat.le_succ l)
  | j + 1 => (WI.itr_ h hS hO j).st hS hO (Nat.succ_pos j)
theorem WI.dend_ (hS : Sol R R.1 A) (hO : ∀ r, r < R.1 → OK1 R r) : ∀ l, WI T R A l (dend R A (X0 T) l)
  | 0 => WI.z
  | l + 1 => (WI.dend_ hS hO l).itr_ hS hO _
/-- no rule of the layer l makes more -/
def CL (R : RS) (A : Nat → Nat) (l : Nat) (S : Nat → Bool) : Prop := ∀ k, k < 216 → S k = false → A (k / 36) = l → ∀ r, r < R.1 → R.2.1 r = k / 36 → ∀ z, z < 6 → zin R r z = true → mk S R r (k / 6 % 6) (k % 6) z = false
theorem zl_lt {r x y z : Nat} (hz : z < 6) (h1 : zin R r z = true) (h2 : mk S R r x y z = true) : zl S R r x y < 6 := by
  rcases Nat.lt_or_ge (zl S R r x y) 6 with q | q
  · exact q
  · have := fa_first_no (fun z => zin R r z && mk S R r x y z) 6 z (by unfold zl at q; omega)
    simp only [h1, h2] at this
    exact absurd this (by decide)
theorem nw_of {k r z : Nat} (hs : S k = false) (hr : r < R.1) (hh : R.2.1 r = k / 36) (hl : A (k / 36) = l) (hz : z < 6) (h1 : zin R r z = true) (h2 : mk S R r (k / 6 % 6) (k % 6) z = true) : nw S R A l k = true := by
  have hrq : rq S R A l k r = true := by
    unfold rq
    rw [hh, hl, decide_eq_true (zl_lt hz h1 h2), beq_self_eq_true, beq_self_eq_true]; rfl
  have hrl : rl S R A l k ≤ r := by
    rcases Nat.lt_or_ge r (rl S R A l k) with q | q
    · have := fa_first_no (rq S R A l k) R.1 r q
      rw [hrq] at this
      exact absurd this (by decide)
    · exact q
  unfold nw
  rw [hs, decide_eq_true (show rl S R A l k < R.1 by omega)]
  rfl
theorem CL.of (h : nws R A l X = 0) : CL R A l X.1 := fun k hk hs hl r hr hh z hz h1 => by
  cases h2 : mk X.1 R r (k / 6 % 6) (k % 6) z
  · rfl
  · have := nw_of hs hr hh hl hz h1 h2
    rw [nws_0 h hk] at this
    exact absurd this (by decide)
theorem itr_off {k : Nat} (h : A (k / 36) ≠ l) : ∀ j, (itr R A l X j).1 k = X.1 k ∧ (itr R A l X j).2.1 k = X.2.1 k
  | 0 => ⟨rfl, rfl⟩
  | j + 1 => by
    have e := stp_old (R := R) (A := A) (l := l) (X := itr R A l X j) (i := j + 1) (nw_no h)
    exact ⟨e.1.trans (itr_off h j).1, e.2.1.trans (itr_off h j).2⟩
theorem dend_s (j : Nat) : dend R A X (j + 1) = itr R A j (dend R A X j) (nr R A j (dend R A X j)) := rfl
theorem DV_d : DV T R A = dend R A (X0 T) 6 := rfl
theorem dend_off {k l' : Nat} (h : A (k / 36) < l') : ∀ j, (dend R A X (l' + j)).1 k = (dend R A X l').1 k ∧ (dend R A X (l' + j)).2.1 k = (dend R A X l').2.1 k
  | 0 => ⟨rfl, rfl⟩
  | j + 1 => by
    have e := itr_off (R := R) (A := A) (l := l' + j) (X := dend R A X (l' + j)) (k := k) (by omega) (nr R A (l' + j) (dend R A X (l' + j)))
    rw [show l' + (j + 1) = l' + j + 1 from rfl, dend_s, e.1, e.2]
    exact dend_off h j
theorem dend_sub {k : Nat} (h : (dend R A X l).1 k = true) : ∀ j, (dend R A X (l + j)).1 k = true
  | 0 => h
  | j + 1 => by
    rw [show l + (j + 1) = l + j + 1 from rfl, dend_s]
    exact itr_hs (dend_sub h j) _
/-- with what holds at the end, no rule makes more -/
theorem DV_closed (hS : Sol R R.1 A) (hO : ∀ r, r < R.1 → OK1 R r) (hA5 : ∀ q, q < 6 → A q ≤ 5) {k r z : Nat} (hk : k < 216) (hs : (DV T R A).1 k = false) (hr : r < R.1) (hh : R.2.1 r = k / 36) (hz : z < 6) (h1 : zin R r z = true) : mk (DV T R A).1 R r (k / 6 % 6) (k % 6) z = false := by
  have hq := hA5 (k / 36) (by omega)
  obtain ⟨l, hl⟩ : ∃ l, l = A (k / 36) := ⟨_, rfl⟩
  have hc : CL R A l (dend R A (X0 T) (l + 1)).1 := CL.of (nr_end (X := dend R A (X0 T) l) (R := R) (lay := A) (l := l))
  have hsub : ∀ q, q < 216 → (dend R A (X0 T) (l + 1)).1 q = true → (DV T R A).1 q = true := fun q _ hq => by
    have := dend_sub hq (5 - l)
    rw [show l + 1 + (5 - l) = 6 by omega] at this
    rw [DV_d]
    exact this
  have hoff : ∀ q, q < 216 → A (q / 36) < l + 1 → (DV T R A).1 q = (dend R A (X0 T) (l + 1)).1 q := fun q _ hq => by
    have := (dend_off (R := R) (A := A) (X := X0 T) hq (5 - l)).1
    rw [show l + 1 + (5 - l) = 6 by omega] at this
    rw [DV_d]
    exact this
  have hs' : (dend R A (X0 T) (l + 1)).1 k = false := by rw [← hoff k hk (by omega)]; exact hs
  have h3 := hc k hk hs' hl.symm r hr hh z hz h1
  cases hm : mk (DV T R A).1 R r (k / 6 % 6) (k % 6) z
  · rfl
  · -- what it needs lies in layers up to l
    have hback : mk (dend R A (X0 T) (l + 1)).1 R r (k / 6 % 6) (k % 6) z = true := by
      have hcd : ∀ j, j < 3 → cond (DV T R A).1 (R.2.2 r j) (k / 6 % 6) (k % 6) z = true → cond (dend R A (X0 T) (l + 1)).1 (R.2.2 r j) (k / 6 % 6) (k % 6) z = true := by
        intro j hj h
        have hc := (hO r hr).2 j hj
        unfold cond at h ⊢
        by_cases h0 : R.2.2 r j = 0
        · rw [decide_eq_true h0]; rfl
        · rw [decide_eq_false h0, Bool.false_or] at h ⊢
          have hf := fc_lt hc (show k / 6 % 6 < 6 by omega) (show k % 6 < 6 by omega) hz
          have h36 := fc_36 (c := R.2.2 r j) (show k / 6 % 6 < 6 by omega) (show k % 6 < 6 by omega) hz
          have hsol := hS r hr j hj h0
          rw [← hoff _ hf (by rw [h36]; rw [hh] at hsol; omega)]
          exact h
      unfold mk at hm ⊢
      simp only [Bool.and_eq_true] at hm ⊢
      exact ⟨⟨hcd 0 (by decide) hm.1.1, hcd 1 (by decide) hm.1.2⟩, hcd 2 (by decide) hm.2⟩
    rw [h3] at hback
    exact absurd hback (by decide)
/-! a set between two layers' ends -/
theorem btw_mk {H A' : Nat → Bool} (hS : Sol R R.1 A) (hO : ∀ r, r < R.1 → OK1 R r) (hsub : ∀ k, k < 216 → H k = true → A' k = true) (hoff : ∀ k, k < 216 → A (k / 36) ≠ l → A' k = H k) {r x y z : Nat} (hr : r < R.1) (hl : A (R.2.1 r) = l) (hx : x < 6) (hy : y < 6) (hz : z < 6) (h : mk H R r x y z = true) : mk A' R r x y z = true := mk_mono (l := l) hS hr (hO r hr) (by omega) hsub (fun k hk hlt => hoff k hk (by omega)) hx hy hz h
theorem btw_all {A' : Nat → Bool} (hS : Sol R R.1 A) (hO : ∀ r, r < R.1 → OK1 R r) (h0 : ∀ k, k < 216 → X.1 k = true → A' k = true) (hoff : ∀ k, k < 216 → A (k / 36) ≠ l → A' k = X.1 k) (hc : CL R A l A') : ∀ j k, k < 216 → (itr R A l X j).1 k = true → A' k = true
  | 0, k, hk, h => h0 k hk h
  | j + 1, k, hk, h => by
    have ih := btw_all hS hO h0 hoff hc j
    cases hn : nw (itr R A l X j).1 R A l k
    · rw [show (itr R A l X (j + 1)).1 k = (itr R A l X j).1 k from (stp_old hn).1] at h
      exact ih k hk h
    · have h3 := nw_lay hn
      have hzm := zl_mk (S := (itr R A l X j).1) (R := R) (r := rl (itr R A l X j).1 R A l k) h3.2.2.2
      have hm := btw_mk (H := (itr R A l X j).1) (A' := A') hS hO ih (fun q hq hne => by rw [hoff q hq hne, (itr_off hne j).1]) h3.2.1 (by rw [h3.2.2.1]; exact h3.1) (show k / 6 % 6 < 6 by omega) (show k % 6 < 6 by omega) h3.2.2.2 hzm.2
      cases hs : A' k
      · have := hc k hk hs h3.1 _ h3.2.1 h3.2.2.1 _ h3.2.2.2 hzm.1
        rw [hm] at this
        exact absurd this (by decide)
      · rfl
end INV
