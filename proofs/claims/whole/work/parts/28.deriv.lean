/-! ===== deriving: rounds, layers ===== -/
/-- the lowest person z with which a rule makes a fact, 6 if there is none -/
def zl (S : Nat → Bool) (R : RS) (r x y : Nat) : Nat := fa_first (fun z => zin R r z && mk S R r x y z) 6
/-- whether a rule of the layer l makes the fact k -/
def rq (S : Nat → Bool) (R : RS) (lay : Nat → Nat) (l k r : Nat) : Bool := (R.2.1 r == k / 36) && (lay (k / 36) == l) && decide (zl S R r (k / 6 % 6) (k % 6) < 6)
def rl (S : Nat → Bool) (R : RS) (lay : Nat → Nat) (l k : Nat) : Nat := fa_first (rq S R lay l k) R.1
/-- whether k is new -/
def nw (S : Nat → Bool) (R : RS) (lay : Nat → Nat) (l k : Nat) : Bool := !S k && decide (rl S R lay l k < R.1)
/-- what holds, its stage, rule, person z, depth, and what it rests on -/
abbrev DX : Type := (Nat → Bool) × (Nat → Nat) × (Nat → Nat) × (Nat → Nat) × (Nat → Nat) × (Nat → Nat → Bool)
def ndc (R : RS) (r k z j : Nat) : Nat := fc (R.2.2 r j) (k / 6 % 6) (k % 6) z
def psc (R : RS) (r j : Nat) : Bool := decide (0 < R.2.2 r j)
def dpj (R : RS) (dp : Nat → Nat) (r k z j : Nat) : Nat := if psc R r j then dp (ndc R r k z j) + 1 else 0
def dpn (R : RS) (dp : Nat → Nat) (r k z : Nat) : Nat := max (max (dpj R dp r k z 0) (dpj R dp r k z 1)) (dpj R dp r k z 2)
def clj (R : RS) (cl : Nat → Nat → Bool) (r k z j m : Nat) : Bool := psc R r j && cl (ndc R r k z j) m
def cln (R : RS) (cl : Nat → Nat → Bool) (r k z m : Nat) : Bool := (m == k) || clj R cl r k z 0 m || clj R cl r k z 1 m || clj R cl r k z 2 m
def nwr (X : DX) (R : RS) (lay : Nat → Nat) (l k : Nat) : Nat := rl X.1 R lay l k
def nwz (X : DX) (R : RS) (lay : Nat → Nat) (l k : Nat) : Nat := zl X.1 R (nwr X R lay l k) (k / 6 % 6) (k % 6)
/-- the round i of the layer l -/
def stp (R : RS) (lay : Nat → Nat) (l i : Nat) (X : DX) : DX :=
  (fun k => X.1 k || nw X.1 R lay l k, fun k => if nw X.1 R lay l k then i else X.2.1 k, fun k => if nw X.1 R lay l k then nwr X R lay l k else X.2.2.1 k, fun k => if nw X.1 R lay l k then nwz X R lay l k else X.2.2.2.1 k,
   fun k => if nw X.1 R lay l k then dpn R X.2.2.2.2.1 (nwr X R lay l k) k (nwz X R lay l k) else X.2.2.2.2.1 k, fun k m => if nw X.1 R lay l k then cln R X.2.2.2.2.2 (nwr X R lay l k) k (nwz X R lay l k) m else X.2.2.2.2.2 k m)
def itr (R : RS) (lay : Nat → Nat) (l : Nat) (X : DX) : Nat → DX
  | 0 => X
  | i + 1 => stp R lay l (i + 1) (itr R lay l X i)
def nws (R : RS) (lay : Nat → Nat) (l : Nat) (X : DX) : Nat := fb_ct (nw X.1 R lay l) 216
/-- how many rounds -/
def nr (R : RS) (lay : Nat → Nat) (l : Nat) (X : DX) : Nat := fa_first (fun i => nws R lay l (itr R lay l X i) == 0) 217
def dend (R : RS) (lay : Nat → Nat) (X : DX) : Nat → DX
  | 0 => X
  | l + 1 => itr R lay l (dend R lay X l) (nr R lay l (dend R lay X l))
def X0 (T : Nat → Bool) : DX := (T, fun _ => 0, fun _ => 0, fun _ => 0, fun _ => 0, fun k m => m == k)
/-- all that is derived -/
def DV (T : Nat → Bool) (R : RS) (lay : Nat → Nat) : DX := dend R lay (X0 T) 6
def hct (X : DX) : Nat := fb_ct X.1 216
section DRV
variable {S : Nat → Bool} {R : RS} {lay : Nat → Nat} {l i k : Nat} {X : DX} {T : Nat → Bool}
theorem stp_ct : hct (stp R lay l i X) = hct X + nws R lay l X := by
  unfold hct nws
  exact fb_ct_or (p := X.1) (q := nw X.1 R lay l) (fun k _ h => by
    have h2 := h.2
    unfold nw at h2
    rw [h.1] at h2
    exact absurd h2 (by simp))
theorem itr_ct : ∀ {i : Nat}, i ≤ nr R lay l X → hct X + i ≤ hct (itr R lay l X i)
  | 0, _ => by show hct X + 0 ≤ hct X; omega
  | i + 1, h => by
    have ih := itr_ct (i := i) (by omega)
    have h1 := fa_first_no (fun i => nws R lay l (itr R lay l X i) == 0) 217 i (by unfold nr at h; omega)
    simp only [beq_eq_false_iff_ne] at h1
    show _ ≤ hct (stp R lay l (i + 1) (itr R lay l X i))
    rw [stp_ct]
    omega
theorem nr_pos (h : i < nr R lay l X) : 0 < nws R lay l (itr R lay l X i) := by
  have h1 := fa_first_no (fun i => nws R lay l (itr R lay l X i) == 0) 217 i h
  simp only [beq_eq_false_iff_ne] at h1
  omega
theorem hct_le : hct X ≤ 216 := fb_ct_le _ _
theorem nr_le : hct X + nr R lay l X ≤ 216 := by
  have h1 := itr_ct (X := X) (R := R) (lay := lay) (l := l) (Nat.le_refl _)
  have h2 := hct_le (X := itr R lay l X (nr R lay l X))
  omega
theorem nr_end : nws R lay l (itr R lay l X (nr R lay l X)) = 0 := by
  have h1 := nr_le (X := X) (R := R) (lay := lay) (l := l)
  have h2 := fa_first_yes (fun i => nws R lay l (itr R lay l X i) == 0) 217 (by unfold nr at h1; omega)
  exact beq_iff_eq.mp h2
theorem nr_is (h : ∀ j, j < i → nws R lay l (itr R lay l X j) ≠ 0) (h0 : nws R lay l (itr R lay l X i) = 0) : nr R lay l X = i := by
  have h2 := nr_end (X := X) (R := R) (lay := lay) (l := l)
  rcases Nat.lt_trichotomy (nr R lay l X) i with q | q | q
  · exact absurd h2 (h _ q)
  · exact q
  · have := nr_pos q
    omega
theorem nws_0 (h : nws R lay l X = 0) (hk : k < 216) : nw X.1 R lay l k = false := fb_ct_zero.mp h k hk
theorem nw_lay (h : nw S R lay l k = true) : lay (k / 36) = l ∧ rl S R lay l k < R.1 ∧ R.2.1 (rl S R lay l k) = k / 36 ∧ zl S R (rl S R lay l k) (k / 6 % 6) (k % 6) < 6 := by
  unfold nw at h
  simp only [Bool.and_eq_true, decide_eq_true_eq] at h
  have h1 := fa_first_yes (rq S R lay l k) R.1 h.2
  have h2 : rq S R lay l k (rl S R lay l k) = true := h1
  unfold rq at h2
  simp only [Bool.and_eq_true, beq_iff_eq, decide_eq_true_eq] at h2
  exact ⟨h2.1.2, h.2, h2.1.1, h2.2⟩
theorem zl_mk {r x y : Nat} (h : zl S R r x y < 6) : zin R r (zl S R r x y) = true ∧ mk S R r x y (zl S R r x y) = true := by
  have h1 := fa_first_yes (fun z => zin R r z && mk S R r x y z) 6 h
  have h2 : (zin R r (zl S R r x y) && mk S R r x y (zl S R r x y)) = true := h1
  simp only [Bool.and_eq_true] at h2
  exact h2
theorem nw_no (h : lay (k / 36) ≠ l) : nw S R lay l k = false := by
  cases h1 : nw S R lay l k
  · rfl
  · exact absurd (nw_lay h1).1 h
theorem itr_no (h : ∀ q, q < 6 → lay q ≠ l) : nr R lay l X = 0 := nr_is (fun j hj => absurd hj (Nat.not_lt_zero j)) (fb_ct_zero.mpr (fun k hk => nw_no (h _ (by omega))))
theorem itr_hs (h : X.1 k = true) : ∀ i, (itr R lay l X i).1 k = true
  | 0 => h
  | i + 1 => by
    show ((itr R lay l X i).1 k || _) = true
    rw [itr_hs h i, Bool.true_or]
/-- rounds so far -/
def rr (R : RS) (lay : Nat → Nat) (X : DX) (l : Nat) : Nat := nr R lay l (dend R lay X l)
theorem rr_ct : ∀ l, fb_sm (rr R lay X) l + hct X ≤ hct (dend R lay X l)
  | 0 => by show 0 + hct X ≤ hct X; omega
  | l + 1 => by
    have ih := rr_ct l
    have h1 := itr_ct (R := R) (lay := lay) (l := l) (X := dend R lay X l) (Nat.le_refl _)
    have h2 : fb_sm (rr R lay X) (l + 1) = fb_sm (rr R lay X) l + nr R lay l (dend R lay X l) := rfl
    show _ ≤ hct (itr R lay l (dend R lay X l) (nr R lay l (dend R lay X l)))
    omega
end DRV
