/-! ===== layers: the least numbers, and how a pass finds them ===== -/
def wt (c : Int32) : Nat := if c < 0 then 1 else 0
/-- numbers that fit the first m rules -/
def Sol (R : RS) (m : Nat) (L : Nat → Nat) : Prop := ∀ r, r < m → ∀ j, j < 3 → R.2.2 r j ≠ 0 → L (kr (R.2.2 r j)) + wt (R.2.2 r j) ≤ L (R.2.1 r)
def LYD (R : RS) (m : Nat) : Prop := ∃ L, Sol R m L
def IsLay (R : RS) (m : Nat) (A : Nat → Nat) : Prop := Sol R m A ∧ ∀ L, Sol R m L → ∀ q, q < 6 → A q ≤ L q
theorem wt_le (c : Int32) : wt c ≤ 1 := by unfold wt; split <;> omega
theorem lay_one {R : RS} {m : Nat} {A B : Nat → Nat} (h : IsLay R m A) (k : IsLay R m B) : ∀ q, q < 6 → A q = B q := fun q hq => Nat.le_antisymm (h.2 B k.1 q hq) (k.2 A h.1 q hq)
/-- numbers without gaps -/
def ljp (L : Nat → Nat) (v s : Nat) : Bool := decide (L s < v) && (fa_first (fun t => L t == L s) 6 == s)
def lj (L : Nat → Nat) (q : Nat) : Nat := fb_ct (ljp L (L q)) 6
theorem lj_first {L : Nat → Nat} {q : Nat} (hq : q < 6) : ∃ s, s < 6 ∧ L s = L q ∧ (fa_first (fun t => L t == L s) 6 == s) = true := by
  have hl : fa_first (fun t => L t == L q) 6 < 6 := by
    rcases Nat.lt_or_ge (fa_first (fun t => L t == L q) 6) 6 with h | h
    · exact h
    · have := fa_first_no (fun t => L t == L q) 6 q (by omega)
      simp at this
  have hy := fa_first_yes (fun t => L t == L q) 6 hl
  simp only [beq_iff_eq] at hy
  refine ⟨fa_first (fun t => L t == L q) 6, hl, hy, ?_⟩
  rw [hy, beq_self_eq_true]
theorem lj_le {L : Nat → Nat} {q : Nat} (hq : q < 6) : lj L q ≤ 5 := by
  obtain ⟨s, hs, e, -⟩ := lj_first (L := L) hq
  have h1 := fb_ct_le (ljp L (L q)) 6
  have h2 : fb_ct (ljp L (L q)) 6 ≠ 6 := fun z => by
    have h3 := (fb_ct_all (p := ljp L (L q)) (n := 6)).mp z s hs
    unfold ljp at h3
    rw [e, decide_eq_false (Nat.lt_irrefl _)] at h3
    exact absurd h3 (by simp)
  unfold lj
  omega
theorem lj_mono {L : Nat → Nat} {p q : Nat} (h : L p ≤ L q) : lj L p ≤ lj L q := by
  unfold lj
  refine fb_ct_sub fun k _ hk => ?_
  unfold ljp at hk ⊢
  simp only [Bool.and_eq_true, decide_eq_true_eq] at hk ⊢
  exact ⟨by omega, hk.2⟩
theorem lj_lt {L : Nat → Nat} {p q : Nat} (hp : p < 6) (h : L p < L q) : lj L p + 1 ≤ lj L q := by
  obtain ⟨s, hs, e, e2⟩ := lj_first (L := L) hp
  have h1 := fb_ct_upd (ljp L (L p)) true (i := s) (n := 6) hs
  have h2 : ljp L (L p) s = false := by unfold ljp; rw [e, decide_eq_false (Nat.lt_irrefl _), Bool.false_and]
  rw [h2] at h1
  simp only [Bool.false_eq_true, if_false, if_true] at h1
  have h3 : fb_ct (fun k => if k = s then true else ljp L (L p) k) 6 ≤ fb_ct (ljp L (L q)) 6 := by
    refine fb_ct_sub fun k _ hk => ?_
    by_cases z : k = s
    · subst z
      unfold ljp
      rw [e2, Bool.and_true]
      exact decide_eq_true (by omega)
    · rw [if_neg z] at hk
      unfold ljp at hk ⊢
      simp only [Bool.and_eq_true, decide_eq_true_eq] at hk ⊢
      exact ⟨by omega, hk.2⟩
  unfold lj
  omega
theorem lyd5 {R : RS} {m : Nat} (hO : ∀ r, r < m → OK1 R r) (h : LYD R m) : ∃ L, Sol R m L ∧ ∀ q, q < 6 → L q ≤ 5 := by
  obtain ⟨L, hL⟩ := h
  refine ⟨lj L, fun r hr j hj h0 => ?_, fun q hq => lj_le hq⟩
  have h1 := hL r hr j hj h0
  have h2 := kr_lt ((hO r hr).2 j hj)
  have h3 := wt_le (R.2.2 r j)
  rcases Nat.eq_zero_or_pos (wt (R.2.2 r j)) with q | q
  · rw [q] at h1 ⊢
    exact lj_mono h1
  · have : wt (R.2.2 r j) = 1 := by omega
    rw [this] at h1 ⊢
    exact lj_lt h2 (by omega)
/-- a pass over the conditions below the i-th: from A to A'; fl: whether something was raised, all to at most c -/
def PS (R : RS) (m B c : Nat) (A A' : Nat → Nat) (fl : Bool) (i : Nat) : Prop :=
  (∀ q, q < 6 → A q ≤ A' q ∧ A' q ≤ B + i) ∧ (∀ L, Sol R m L → (∀ q, q < 6 → A q ≤ L q) → ∀ q, q < 6 → A' q ≤ L q) ∧
  (fl = false → (∀ q, q < 6 → A' q = A q) ∧ ∀ r j, 3 * r + j < i → j < 3 → R.2.2 r j ≠ 0 → A (kr (R.2.2 r j)) + wt (R.2.2 r j) ≤ A (R.2.1 r)) ∧
  (fl = true → ∃ q, q < 6 ∧ A q < A' q ∧ A q < c)
theorem PS.z {R : RS} {m B c : Nat} {A : Nat → Nat} (h : ∀ q, q < 6 → A q ≤ B) : PS R m B c A A false 0 :=
  ⟨fun q hq => ⟨Nat.le_refl _, h q hq⟩, fun _ _ h => h, fun _ => ⟨fun _ _ => rfl, fun r j h => absurd h (Nat.not_lt_zero _)⟩, fun h => absurd h (by decide)⟩
/-- the least number that a condition asks for -/
def lst (R : RS) (A : Nat → Nat) (r j : Nat) : Nat := if R.2.2 r j = 0 then 0 else A (kr (R.2.2 r j)) + wt (R.2.2 r j)
def updN (A : Nat → Nat) (k v : Nat) : Nat → Nat := fun q => if q = k then v else A q
theorem PS.keep {R : RS} {m B c : Nat} {A A' : Nat → Nat} {fl : Bool} {r j : Nat} (h : PS R m B c A A' fl (3 * r + j)) (hO : OK1 R r) (hr : r < m) (hj : j < 3) (hl : lst R A' r j ≤ A' (R.2.1 r)) : PS R m B c A A' fl (3 * r + j + 1) := by
  refine ⟨fun q hq => ⟨(h.1 q hq).1, by have := (h.1 q hq).2; omega⟩, h.2.1, fun hf => ⟨(h.2.2.1 hf).1, fun r' j' h1 h2 h0 => ?_⟩, h.2.2.2⟩
  rcases Nat.lt_or_ge (3 * r' + j') (3 * r + j) with q | q
  · exact (h.2.2.1 hf).2 r' j' q h2 h0
  · have e1 : r' = r := by omega
    have e2 : j' = j := by omega
    subst e1; subst e2
    have e3 := (h.2.2.1 hf).1
    unfold lst at hl
    rw [if_neg h0, e3 _ (kr_lt (hO.2 j' h2)), e3 _ hO.1] at hl
    exact hl
theorem PS.raise {R : RS} {m B c : Nat} {A A' : Nat → Nat} {fl : Bool} {r j : Nat} (h : PS R m B c A A' fl (3 * r + j)) (hO : OK1 R r) (hr : r < m) (hj : j < 3) (hl : A' (R.2.1 r) < lst R A' r j) (hc : lst R A' r j ≤ c) : PS R m B c A (updN A' (R.2.1 r) (lst R A' r j)) true (3 * r + j + 1) := by
  have h0 : R.2.2 r j ≠ 0 := fun z => by unfold lst at hl; rw [if_pos z] at hl; omega
  have hk := kr_lt (hO.2 j hj)
  have hv : lst R A' r j = A' (kr (R.2.2 r j)) + wt (R.2.2 r j) := by unfold lst; rw [if_neg h0]
  have hw := wt_le (R.2.2 r j)
  refine ⟨fun q hq => ?_, fun L hL hA q hq => ?_, fun hf => absurd hf (by decide), fun _ => ⟨R.2.1 r, hO.1, ?_, ?_⟩⟩
  · unfold updN
    have h1 := h.1 q hq
    have h2 := h.1 _ hk
    by_cases e : q = R.2.1 r
    · rw [if_pos e]; subst e; omega
    · rw [if_neg e]; omega
  · unfold updN
    by_cases e : q = R.2.1 r
    · rw [if_pos e, e, hv]
      have h1 := h.2.1 L hL hA _ hk
      have h2 := hL r hr j hj h0
      omega
    · rw [if_neg e]; exact h.2.1 L hL hA q hq
  · unfold updN
    rw [if_pos rfl]
    have := (h.1 _ hO.1).1
    omega
  · have := (h.1 _ hO.1).1
    omega
theorem sm6_lt {A A' : Nat → Nat} (h : ∀ q, q < 6 → A q ≤ A' q) {q : Nat} (hq : q < 6) (hl : A q < A' q) : fb_sm A 6 < fb_sm A' 6 := by
  have h0 := h 0 (by decide)
  have h1 := h 1 (by decide)
  have h2 := h 2 (by decide)
  have h3 := h 3 (by decide)
  have h4 := h 4 (by decide)
  have h5 := h 5 (by decide)
  simp only [fb_sm]
  match q, hq with
  | 0, _ => omega
  | 1, _ => omega
  | 2, _ => omega
  | 3, _ => omega
  | 4, _ => omega
  | 5, _ => omega
def mx6 (A : Nat → Nat) : Nat → Nat
  | 0 => 0
  | n + 1 => max (mx6 A n) (A n)
theorem mx6_le {A : Nat → Nat} {b : Nat} : ∀ {n : Nat}, mx6 A n ≤ b ↔ ∀ q, q < n → A q ≤ b
  | 0 => ⟨fun _ q h => absurd h (Nat.not_lt_zero _), fun _ => Nat.zero_le _⟩
  | n + 1 => by
    have ih := mx6_le (A := A) (b := b) (n := n)
    show max (mx6 A n) (A n) ≤ b ↔ _
    constructor
    · intro h q hq
      rcases Nat.lt_or_ge q n with z | z
      · exact ih.mp (by omega) q z
      · have : q = n := by omega
        subst this
        omega
    · intro h
      have h1 := ih.mpr (fun q hq => h q (by omega))
      have h2 := h n (by omega)
      omega
theorem mx6_cong {A A' : Nat → Nat} : ∀ {n : Nat}, (∀ q, q < n → A q = A' q) → mx6 A n = mx6 A' n
  | 0, _ => rfl
  | n + 1, h => by show max (mx6 A n) (A n) = max (mx6 A' n) (A' n); rw [mx6_cong (fun q hq => h q (by omega)), h n (by omega)]
/-! the class's layers -/
def LA6 (M : KS) (y : Nat) (A : Nat → Nat) : Prop := ∀ q, q < 6 → M.1 (iYl y) q = nI (A q)
section LAYR
variable {M : KS} {y o m : Nat} {R : RS} {A : Nat → Nat}
theorem of_eq (h : LA6 M y A) {q : Nat} (hq : q < 6) : fX3_of M y (nI q) = some (nI (A q)) := by
  unfold fX3_of
  simp (disch := omega) only [li0, li1, li2, li3, li4, li5, li6, li8, li9, li10, li11, li20, li21, li24, li32, li33, li36, li37, li40, li43, li45, li48, li53, li54, li57, li59, li60, li61, li63, li84, li97, li100, li102, li114, li120, li122, li216, li217, li257, li300, li1296, li1799, li2056, nI_add, pk_mul, nI_subN, pk_div, jremN, nI_leI, nI_ltI, nI_eq, nI_clamp, inb_N, if_pos, if_neg, if_true, if_false, nm, jn, bd2, Option.bind_some, h q hq]
theorem cnt_eq (h : LA6 M y A) (hb : ∀ q, q < 6 → A q < 1000) : fX3_count M y = some (nI (mx6 A 6 + 1)) := by
  unfold fX3_count
  refine wp_is (wp_for 6 (fun i s => s = (nI (mx6 A i), nI i)) (fun i s rec hi hI hrec => ?_) (by decide) (Nat.zero_le _) rfl)
  subst hI
  rw [fX3_count_L4_u]
  have hm : mx6 A i ≤ 1000 := mx6_le.mpr (fun q hq => by have := hb q (by omega); omega)
  rcases Nat.lt_or_ge i 6 with hlt | hge
  · have := hb i hlt
    simp (disch := omega) only [li0, li1, li2, li3, li4, li5, li6, li8, li9, li10, li11, li20, li21, li24, li32, li33, li36, li37, li40, li43, li45, li48, li53, li54, li57, li59, li60, li61, li63, li84, li97, li100, li102, li114, li120, li122, li216, li217, li257, li300, li1296, li1799, li2056, nI_add, pk_mul, nI_subN, pk_div, jremN, nI_leI, nI_ltI, nI_eq, nI_clamp, inb_N, if_pos, if_neg, if_true, if_false, nm, jn, bd2, Option.bind_some, h i hlt, jmaxN]
    exact hrec _ hlt rfl
  · have : i = 6 := by omega
    subst this
    simp (disch := omega) only [li0, li1, li2, li3, li4, li5, li6, li8, li9, li10, li11, li20, li21, li24, li32, li33, li36, li37, li40, li43, li45, li48, li53, li54, li57, li59, li60, li61, li63, li84, li97, li100, li102, li114, li120, li122, li216, li217, li257, li300, li1296, li1799, li2056, nI_add, pk_mul, nI_subN, pk_div, jremN, nI_leI, nI_ltI, nI_eq, nI_clamp, inb_N, if_pos, if_neg, if_true, if_false, nm, jn, bd2, Option.bind_some, fX3_count_X4]
    exact wp_some rfl
theorem lift_wp (hR : RB M o m R) (hm : m ≤ 11) (hO : ∀ r, r < m → OK1 R r) (hA : LA6 M y A) {B : Nat} (hB : ∀ q, q < 6 → A q ≤ B) (hB2 : B ≤ 500) (hyo : iYl y ≠ iRh o ∧ iYl y ≠ iRc o ∧ iYl y ≠ iRa o) : wp (fX3_lift M y o (nI m)) (fun a => ∃ A' fl, a.1 = bI fl ∧ LA6 a.2 y A' ∧ PS R m B 1000 A A' fl (3 * m) ∧ FR (fun q => q = iYl y) M a.2) := by
  unfold fX3_lift
  refine wp_for m (fun r s => ∃ A' fl, s.1 = bI fl ∧ s.2.1 = nI r ∧ LA6 s.2.2 y A' ∧ PS R m B 1000 A A' fl (3 * r) ∧ FR (fun q => q = iYl y) M s.2.2) (fun r s rec hi hI hrec => ?_) (by omega) (Nat.zero_le _) ⟨A, false, rfl, rfl, hA, PS.z hB, FR.rf⟩
  obtain ⟨v, w, M2⟩ := s
  obtain ⟨A', fl, hv, hw, hA', hP, hF⟩ := hI
  have hv : v = bI fl := hv
  have hw : w = nI r := hw
  have hA' : LA6 M2 y A' := hA'
  have hF : FR (fun q => q = iYl y) M M2 := hF
  subst hv; subst hw
  rw [fX3_lift_L5_u]
  have hR2 : ∀ (M3 : KS), FR (fun q => q = iYl y) M M3 → RB M3 o m R := fun M3 hF3 => hR.fr hF3 hyo.1.symm hyo.2.1.symm hyo.2.2.symm
  rcases Nat.lt_or_ge r m with hlt | hge
  · have hO1 := hO r hlt
    have hh := head_eq (hR2 M2 hF) hlt hm
    simp (disch := omega) only [li0, li1, li2, li3, li4, li5, li6, li8, li9, li10, li11, li20, li21, li24, li32, li33, li36, li37, li40, li43, li45, li48, li53, li54, li57, li59, li60, li61, li63, li84, li97, li100, li102, li114, li120, li122, li216, li217, li257, li300, li1296, li1799, li2056, nI_add, pk_mul, nI_subN, pk_div, jremN, nI_leI, nI_ltI, nI_eq, nI_clamp, inb_N, if_pos, if_neg, if_true, if_false, nm, jn, bd2, Option.bind_some, hh]
    refine wp_for 3 (fun j s => ∃ A' fl, s.1 = bI fl ∧ s.2.1 = nI j ∧ LA6 s.2.2 y A' ∧ PS R m B 1000 A A' fl (3 * r + j) ∧ FR (fun q => q = iYl y) M s.2.2) (fun j s rec2 hj hI hrec2 => ?_) (by decide) (Nat.zero_le _) ⟨A', fl, rfl, rfl, hA', hP, hF⟩
    obtain ⟨v, w, M3⟩ := s
    obtain ⟨A3, fl3, hv, hw, hA3, hP3, hF3⟩ := hI
    have hv : v = bI fl3 := hv
    have hw : w = nI j := hw
    have hA3 : LA6 M3 y A3 := hA3
    have hF3 : FR (fun q => q = iYl y) M M3 := hF3
    subst hv; subst hw
    rw [fX3_lift_L22_u]
    rcases Nat.lt_or_ge j 3 with hjl | hjg
    · have hcode := code_eq (hR2 M3 hF3) hlt hm hjl
      have hb1 := (hP3.1 (R.2.1 r) hO1.1).2
      have key : ∀ v : Int32, v = nI (lst R A3 r j) → lst R A3 r j ≤ 600 → wp (fX3_lift_J67_40 y (nI (R.2.1 r)) (bI fl3) (nI j) M3 rec2 v) (fun a => ∃ A' fl, a.1 = bI fl ∧ LA6 a.2 y A' ∧ PS R m B 1000 A A' fl (3 * m) ∧ FR (fun q => q = iYl y) M a.2) := by
        intro v hv hle
        subst hv
        unfold fX3_lift_J67_40
        simp (disch := omega) only [li0, li1, li2, li3, li4, li5, li6, li8, li9, li10, li11, li20, li21, li24, li32, li33, li36, li37, li40, li43, li45, li48, li53, li54, li57, li59, li60, li61, li63, li84, li97, li100, li102, li114, li120, li122, li216, li217, li257, li300, li1296, li1799, li2056, nI_add, pk_mul, nI_subN, pk_div, jremN, nI_leI, nI_ltI, nI_eq, nI_clamp, inb_N, if_pos, if_neg, if_true, if_false, nm, jn, bd2, Option.bind_some, of_eq hA3 hO1.1]
        by_cases q : lst R A3 r j ≤ A3 (R.2.1 r)
        · rw [if_pos q]
          exact hrec2 _ hjl ⟨A3, fl3, rfl, rfl, hA3, hP3.keep hO1 hlt hjl q, hF3⟩
        · rw [if_neg q]
          unfold fX3_raise
          have := hO1.1
          simp (disch := omega) only [li0, li1, li2, li3, li4, li5, li6, li8, li9, li10, li11, li20, li21, li24, li32, li33, li36, li37, li40, li43, li45, li48, li53, li54, li57, li59, li60, li61, li63, li84, li97, li100, li102, li114, li120, li122, li216, li217, li257, li300, li1296, li1799, li2056, nI_add, pk_mul, nI_subN, pk_div, jremN, nI_leI, nI_ltI, nI_eq, nI_clamp, inb_N, if_pos, if_neg, if_true, if_false, nm, jn, bd2, Option.bind_some]
          refine hrec2 _ hjl ⟨_, true, rfl, rfl, ?_, hP3.raise hO1 hlt hjl (by omega) (by omega), hF3.set rfl⟩
          intro q' hq'
          show (kset M3 (iYl y) _ _).1 (iYl y) q' = _
          rw [kset_c]
          unfold updN
          by_cases e : q' = R.2.1 r
          · rw [if_pos e, if_pos e]
          · rw [if_neg e, if_neg e]; exact hA3 q' hq'
      simp (disch := omega) only [li0, li1, li2, li3, li4, li5, li6, li8, li9, li10, li11, li20, li21, li24, li32, li33, li36, li37, li40, li43, li45, li48, li53, li54, li57, li59, li60, li61, li63, li84, li97, li100, li102, li114, li120, li122, li216, li217, li257, li300, li1296, li1799, li2056, nI_add, pk_mul, nI_subN, pk_div, jremN, nI_leI, nI_ltI, nI_eq, nI_clamp, inb_N, if_pos, if_neg, if_true, if_false, nm, jn, bd2, Option.bind_some, hcode]
      have hk := kr_lt (hO1.2 j hjl)
      by_cases h0 : R.2.2 r j = 0
      · refine wp_pos h0 (key _ ?_ ?_)
        · unfold lst; rw [if_pos h0]
        · unfold lst; rw [if_pos h0]; omega
      · refine wp_neg h0 ?_
        have hb2 := (hP3.1 _ hk).2
        simp (disch := omega) only [li0, li1, li2, li3, li4, li5, li6, li8, li9, li10, li11, li20, li21, li24, li32, li33, li36, li37, li40, li43, li45, li48, li53, li54, li57, li59, li60, li61, li63, li84, li97, li100, li102, li114, li120, li122, li216, li217, li257, li300, li1296, li1799, li2056, nI_add, pk_mul, nI_subN, pk_div, jremN, nI_leI, nI_ltI, nI_eq, nI_clamp, inb_N, if_pos, if_neg, if_true, if_false, nm, jn, bd2, Option.bind_some, kc_rel (hO1.2 j hjl) h0, of_eq hA3 hk]
        by_cases hs : R.2.2 r j < 0
        · refine wp_neg (fun z => ?_) (key _ ?_ ?_)
          · rw [(show nI 0 = 0 from rfl)] at z; simp only [fa_le, fa_lt] at z hs; omega
          · unfold lst wt; rw [if_neg h0, if_pos hs]
          · unfold lst wt; rw [if_neg h0, if_pos hs]; omega
        · refine wp_pos ?_ (key _ ?_ ?_)
          · rw [(show nI 0 = 0 from rfl)]; simp only [fa_le, fa_lt] at hs ⊢; omega
          · unfold lst wt; rw [if_neg h0, if_neg hs]
          · unfold lst wt; rw [if_neg h0, if_neg hs]; omega
    · have : j = 3 := by omega
      subst this
      simp (disch := omega) only [li0, li1, li2, li3, li4, li5, li6, li8, li9, li10, li11, li20, li21, li24, li32, li33, li36, li37, li40, li43, li45, li48, li53, li54, li57, li59, li60, li61, li63, li84, li97, li100, li102, li114, li120, li122, li216, li217, li257, li300, li1296, li1799, li2056, nI_add, pk_mul, nI_subN, pk_div, jremN, nI_leI, nI_ltI, nI_eq, nI_clamp, inb_N, if_pos, if_neg, if_true, if_false, nm, jn, bd2, Option.bind_some, fX3_lift_X22]
      exact hrec _ hlt ⟨A3, fl3, rfl, rfl, hA3, hP3, hF3⟩
  · have : r = m := by omega
    subst this
    simp (disch := omega) only [li0, li1, li2, li3, li4, li5, li6, li8, li9, li10, li11, li20, li21, li24, li32, li33, li36, li37, li40, li43, li45, li48, li53, li54, li57, li59, li60, li61, li63, li84, li97, li100, li102, li114, li120, li122, li216, li217, li257, li300, li1296, li1799, li2056, nI_add, pk_mul, nI_subN, pk_div, jremN, nI_leI, nI_ltI, nI_eq, nI_clamp, inb_N, if_pos, if_neg, if_true, if_false, nm, jn, bd2, Option.bind_some, fX3_lift_X5]
    exact wp_pos (bI_B fl) (wp_some ⟨A', fl, rfl, hA', hP, hF⟩)
end LAYR
section ARRG
variable {M : KS} {y o m : Nat} {R : RS} {A : Nat → Nat}
theorem arr_wp (hR : RB M o m R) (hm : m ≤ 11) (hO : ∀ r, r < m → OK1 R r) (hyo : iYl y ≠ iRh o ∧ iYl y ≠ iRc o ∧ iYl y ≠ iRa o) : wp (fX3_arrange M y o (nI m)) (fun a => ((∃ A, a.1 = nI 1 ∧ LA6 a.2 y A ∧ IsLay R m A ∧ ∀ q, q < 6 → A q ≤ 5) ∨ (a.1 = nI 0 ∧ ¬ LYD R m)) ∧ FR (fun q => q = iYl y) M a.2) := by
  unfold fX3_arrange
  refine wp_for 6 (fun i s => s.1 = nI i ∧ (∀ q, q < i → s.2.1 (iYl y) q = nI 0) ∧ FR (fun q => q = iYl y) M s.2) (fun i s rec hi hI hrec => ?_) (by decide) (Nat.zero_le _) ⟨rfl, fun q h => absurd h (Nat.not_lt_zero _), FR.rf⟩
  obtain ⟨v, M2⟩ := s
  obtain ⟨hv, h1, hF⟩ := hI
  have hv : v = nI i := hv
  have hF : FR (fun q => q = iYl y) M M2 := hF
  subst hv
  rw [fX3_arrange_L2_u]
  rcases Nat.lt_or_ge i 6 with hlt | hge
  · simp (disch := omega) only [li0, li1, li2, li3, li4, li5, li6, li8, li9, li10, li11, li20, li21, li24, li32, li33, li36, li37, li40, li43, li45, li48, li53, li54, li57, li59, li60, li61, li63, li84, li97, li100, li102, li114, li120, li122, li216, li217, li257, li300, li1296, li1799, li2056, nI_add, pk_mul, nI_subN, pk_div, jremN, nI_leI, nI_ltI, nI_eq, nI_clamp, inb_N, if_pos, if_neg, if_true, if_false, nm, jn, bd2, Option.bind_some]
    refine hrec _ hlt ⟨rfl, fun q hq => ?_, hF.set rfl⟩
    show (kset M2 (iYl y) i _).1 (iYl y) q = _
    rw [kset_c]
    by_cases e : q = i
    · rw [if_pos e]
    · rw [if_neg e]; exact h1 q (by omega)
  · have : i = 6 := by omega
    subst this
    simp (disch := omega) only [li0, li1, li2, li3, li4, li5, li6, li8, li9, li10, li11, li20, li21, li24, li32, li33, li36, li37, li40, li43, li45, li48, li53, li54, li57, li59, li60, li61, li63, li84, li97, li100, li102, li114, li120, li122, li216, li217, li257, li300, li1296, li1799, li2056, nI_add, pk_mul, nI_subN, pk_div, jremN, nI_leI, nI_ltI, nI_eq, nI_clamp, inb_N, if_pos, if_neg, if_true, if_false, nm, jn, bd2, Option.bind_some]
    unfold fX3_arrange_X2
    refine wp_for 31 (fun (p : Nat) (s : Int32 × KS) => ∃ A, s.1 = nI p ∧ LA6 s.2 y A ∧ (∀ q, q < 6 → A q ≤ 5) ∧ p ≤ fb_sm A 6 ∧ (∀ L, Sol R m L → ∀ q, q < 6 → A q ≤ L q) ∧ FR (fun q => q = iYl y) M s.2) (fun p s rec2 hp hI hrec2 => ?_) (by decide) (i := 0) (s := ((0 : Int32), M2)) (Nat.zero_le _) ⟨fun _ => 0, rfl, h1, fun _ _ => Nat.zero_le _, Nat.zero_le _, fun _ _ _ _ => Nat.zero_le _, hF⟩
    obtain ⟨v, M3⟩ := s
    obtain ⟨A, hv, hA, hA5, hps, hAL, hF3⟩ := hI
    have hv : v = nI p := hv
    subst hv
    have hA : LA6 M3 y A := hA
    have hF3 : FR (fun q => q = iYl y) M M3 := hF3
    have hs30 : fb_sm A 6 ≤ 30 := fb_sm_bound (c := 5) (n := 6) hA5
    rw [fX3_arrange_L26_u]
    simp (disch := omega) only [li0, li1, li2, li3, li4, li5, li6, li8, li9, li10, li11, li20, li21, li24, li32, li33, li36, li37, li40, li43, li45, li48, li53, li54, li57, li59, li60, li61, li63, li84, li97, li100, li102, li114, li120, li122, li216, li217, li257, li300, li1296, li1799, li2056, nI_add, pk_mul, nI_subN, pk_div, jremN, nI_leI, nI_ltI, nI_eq, nI_clamp, inb_N, if_pos, if_neg, if_true, if_false, nm, jn, bd2, Option.bind_some]
    refine wp_bind (wp_mono (lift_wp (hR.fr hF3 hyo.1.symm hyo.2.1.symm hyo.2.2.symm) hm hO hA hA5 (by decide) hyo) ?_)
    rintro ⟨v, M4⟩ ⟨A', fl, hv, hA', hP, hF4⟩
    have hv : v = bI fl := hv
    subst hv
    have hA' : LA6 M4 y A' := hA'
    have hG4 : FR (fun q => q = iYl y) M M4 := hF3.tr hF4
    simp only []
    cases fl
    · refine wp_pos rfl (wp_some ⟨Or.inl ⟨A, rfl, fun q hq => ?_, ⟨fun r hr j hj h0 => (hP.2.2.1 rfl).2 r j (by omega) hj h0, hAL⟩, hA5⟩, hG4⟩)
      rw [hA' q hq, (hP.2.2.1 rfl).1 q hq]
    · refine wp_neg (by decide) ?_
      obtain ⟨q, hq, hlt, -⟩ := hP.2.2.2 rfl
      have hb : ∀ q, q < 6 → A' q < 1000 := fun q hq => by have := (hP.1 q hq).2; omega
      have hsum := sm6_lt (fun q hq => (hP.1 q hq).1) hq hlt
      have hmx : mx6 A' 6 ≤ 1000 := mx6_le.mpr (fun q hq => by have := hb q hq; omega)
      have hAL' : ∀ L, Sol R m L → ∀ q, q < 6 → A' q ≤ L q := fun L hL => hP.2.1 L hL (hAL L hL)
      simp (disch := omega) only [li0, li1, li2, li3, li4, li5, li6, li8, li9, li10, li11, li20, li21, li24, li32, li33, li36, li37, li40, li43, li45, li48, li53, li54, li57, li59, li60, li61, li63, li84, li97, li100, li102, li114, li120, li122, li216, li217, li257, li300, li1296, li1799, li2056, nI_add, pk_mul, nI_subN, pk_div, jremN, nI_leI, nI_ltI, nI_eq, nI_clamp, inb_N, if_pos, if_neg, if_true, if_false, nm, jn, bd2, Option.bind_some, cnt_eq hA' hb]
      by_cases h5 : mx6 A' 6 + 1 ≤ 6
      · rw [if_pos h5]
        have h5' := mx6_le.mp (show mx6 A' 6 ≤ 5 by omega)
        have hs30' : fb_sm A' 6 ≤ 30 := fb_sm_bound (c := 5) (n := 6) h5'
        exact hrec2 _ (by omega) ⟨A', rfl, hA', h5', by omega, hAL', hG4⟩
      · rw [if_neg h5]
        refine wp_some ⟨Or.inr ⟨rfl, fun hL => ?_⟩, hG4⟩
        obtain ⟨L, hL, hL5⟩ := lyd5 hO hL
        exact h5 (by have := mx6_le.mpr (fun q hq => Nat.le_trans (hAL' L hL q hq) (hL5 q hq)); omega)
end ARRG
