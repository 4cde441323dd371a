/-! ===== the class: one round ===== -/
def dn0 (S : Nat → Bool) (R : RS) (A : Nat → Nat) (l r : Nat) (k : Nat) : Bool := nw S R A l k && decide (rl S R A l k < r)
def dnb (S : Nat → Bool) (R : RS) (A : Nat → Nat) (l r c : Nat) (k : Nat) : Bool := nw S R A l k && (decide (rl S R A l k < r) || (rl S R A l k == r && decide (k < c)))
/-- the arrays behind a part of a round -/
def stpd (dn : Nat → Bool) (R : RS) (A : Nat → Nat) (l i : Nat) (X : DX) : DX :=
  (X.1, fun k => if dn k then i else X.2.1 k, fun k => if dn k then nwr X R A l k else X.2.2.1 k, fun k => if dn k then nwz X R A l k else X.2.2.2.1 k,
   fun k => if dn k then dpn R X.2.2.2.2.1 (nwr X R A l k) k (nwz X R A l k) else X.2.2.2.2.1 k, fun k m => if dn k then cln R X.2.2.2.2.2 (nwr X R A l k) k (nwz X R A l k) m else X.2.2.2.2.2 k m)
/-- some recent fact touches what a rule of the layer makes -/
def COV (S S1 : Nat → Bool) (R : RS) (A : Nat → Nat) (l : Nat) : Prop := ∀ k, k < 216 → S k = false → ∀ r, r < R.1 → R.2.1 r = k / 36 → A (k / 36) = l → ∀ z, z < 6 → zin R r z = true → mk S R r (k / 6 % 6) (k % 6) z = true → tch S1 R r (k / 6 % 6) (k % 6) z = true
abbrev cAR : Nat → Prop := fun q => q = iFt 13 ∨ q = iFf 13 ∨ q = 107 ∨ q = 108 ∨ q = 109 ∨ q = 110
section KRO
variable {M : KS} {o : Nat} {R : RS} {X : DX} {A : Nat → Nat} {l : Nat} {S S1 : Nat → Bool}
theorem dpn_cong {dp dp' : Nat → Nat} {r k z : Nat} (h : ∀ j, j < 3 → psc R r j = true → dp (ndc R r k z j) = dp' (ndc R r k z j)) : dpn R dp r k z = dpn R dp' r k z := by
  have e : ∀ j, j < 3 → dpj R dp r k z j = dpj R dp' r k z j := fun j hj => by
    unfold dpj
    cases hp : psc R r j
    · rw [if_neg Bool.false_ne_true, if_neg Bool.false_ne_true]
    · rw [if_pos rfl, if_pos rfl, h j hj hp]
  unfold dpn
  rw [e 0 (by decide), e 1 (by decide), e 2 (by decide)]
theorem cln_cong {cl cl' : Nat → Nat → Bool} {r k z m : Nat} (h : ∀ j, j < 3 → psc R r j = true → cl (ndc R r k z j) m = cl' (ndc R r k z j) m) : cln R cl r k z m = cln R cl' r k z m := by
  have e : ∀ j, j < 3 → clj R cl r k z j m = clj R cl' r k z j m := fun j hj => by
    unfold clj
    cases hp : psc R r j
    · rw [Bool.false_and, Bool.false_and]
    · rw [h j hj hp]
  unfold cln
  rw [e 0 (by decide), e 1 (by decide), e 2 (by decide)]
theorem dnb_s (r k i : Nat) : dnb S R A l r (k + 1) i = (dnb S R A l r k i || (i == k && (nw S R A l k && rl S R A l k == r))) := by
  unfold dnb
  by_cases e : i = k
  · subst e
    rw [decide_eq_true (Nat.lt_succ_self i), decide_eq_false (Nat.lt_irrefl i), beq_self_eq_true]
    cases nw S R A l i <;> simp
  · rw [show (i == k) = false from beq_eq_false_iff_ne.mpr e, Bool.false_and, Bool.or_false]
    by_cases q : i < k
    · rw [decide_eq_true q, decide_eq_true (show i < k + 1 by omega)]
    · rw [decide_eq_false q, decide_eq_false (show ¬ i < k + 1 by omega)]
theorem nw_rl {k : Nat} (h : nw S R A l k = true) (r : Nat) (hr : rl S R A l k = r) : R.2.1 r = k / 36 ∧ A (k / 36) = l := by
  have := nw_lay h
  rw [hr] at this
  exact ⟨this.2.2.1, this.1⟩
theorem dnb_0 (r i : Nat) : dnb S R A l r (36 * R.2.1 r) i = dn0 S R A l r i := by
  unfold dnb dn0
  cases h : nw S R A l i
  · rw [Bool.false_and, Bool.false_and]
  · by_cases e : rl S R A l i = r
    · have h1 := (nw_rl h r e).1
      rw [decide_eq_false (show ¬ i < 36 * R.2.1 r by omega), Bool.and_false, Bool.or_false]
    · rw [show (rl S R A l i == r) = false from beq_eq_false_iff_ne.mpr e, Bool.false_and, Bool.or_false]
theorem dnb_36 (r i : Nat) : dnb S R A l r (36 * R.2.1 r + 36) i = dn0 S R A l (r + 1) i := by
  unfold dnb dn0
  cases h : nw S R A l i
  · rw [Bool.false_and, Bool.false_and]
  · by_cases e : rl S R A l i = r
    · have h1 := (nw_rl h r e).1
      rw [decide_eq_true (show i < 36 * R.2.1 r + 36 by omega), e, beq_self_eq_true, decide_eq_true (Nat.lt_succ_self r)]
      simp
    · rw [show (rl S R A l i == r) = false from beq_eq_false_iff_ne.mpr e, Bool.false_and, Bool.or_false]
      congr 1
      by_cases q : rl S R A l i < r
      · rw [decide_eq_true q, decide_eq_true (show rl S R A l i < r + 1 by omega)]
      · rw [decide_eq_false q, decide_eq_false (show ¬ rl S R A l i < r + 1 by omega)]
theorem dn0_no {r : Nat} (h : A (R.2.1 r) ≠ l) (i : Nat) : dn0 S R A l (r + 1) i = dn0 S R A l r i := by
  unfold dn0
  cases hn : nw S R A l i
  · rw [Bool.false_and, Bool.false_and]
  · have e : rl S R A l i ≠ r := fun e => h (by have := nw_rl hn r e; rw [this.1]; exact this.2)
    congr 1
    by_cases q : rl S R A l i < r
    · rw [decide_eq_true q, decide_eq_true (show rl S R A l i < r + 1 by omega)]
    · rw [decide_eq_false q, decide_eq_false (show ¬ rl S R A l i < r + 1 by omega)]
theorem KX.cong {X X' : DX} (h : KX M X) (e : ∀ k, k < 216 → X.2.1 k = X'.2.1 k ∧ X.2.2.1 k = X'.2.2.1 k ∧ X.2.2.2.1 k = X'.2.2.2.1 k ∧ X.2.2.2.2.1 k = X'.2.2.2.2.1 k ∧ ∀ m, m < 216 → X.2.2.2.2.2 k m = X'.2.2.2.2.2 k m) : KX M X' := fun k hk => by
  have h1 := h k hk
  have h2 := e k hk
  rw [h2.1, h2.2.1, h2.2.2.1, h2.2.2.2.1] at h1
  exact ⟨h1.1, h1.2.1, h1.2.2.1, h1.2.2.2.1, h1.2.2.2.2.cong h2.2.2.2.2⟩
theorem KX.dn {dn dn' : Nat → Bool} {i : Nat} (h : KX M (stpd dn R A l i X)) (e : ∀ k, k < 216 → dn k = dn' k) : KX M (stpd dn' R A l i X) := h.cong (fun k hk => by
  unfold stpd
  simp only [e k hk]
  exact ⟨trivial, trivial, trivial, trivial, fun _ _ => trivial⟩)
/-- k becomes new in a part of a round -/
theorem stpd_k {dn : Nat → Bool} {i k : Nat} : (∀ q, q ≠ k → ∀ m, (stpd (fun x => dn x || x == k) R A l i X).2.1 q = (stpd dn R A l i X).2.1 q ∧ (stpd (fun x => dn x || x == k) R A l i X).2.2.1 q = (stpd dn R A l i X).2.2.1 q ∧ (stpd (fun x => dn x || x == k) R A l i X).2.2.2.1 q = (stpd dn R A l i X).2.2.2.1 q ∧ (stpd (fun x => dn x || x == k) R A l i X).2.2.2.2.1 q = (stpd dn R A l i X).2.2.2.2.1 q ∧ (stpd (fun x => dn x || x == k) R A l i X).2.2.2.2.2 q m = (stpd dn R A l i X).2.2.2.2.2 q m) := by
  intro q hq m
  unfold stpd
  simp only [show (q == k) = false from beq_eq_false_iff_ne.mpr hq, Bool.or_false]
  exact ⟨trivial, trivial, trivial, trivial, trivial⟩
end KRO
