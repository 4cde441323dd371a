/-! ===== the rules: conditions as numbers ===== -/
def ka (c : Int32) : Nat := c.toInt.natAbs
def kr (c : Int32) : Nat := (ka c - 1) / 9
def k1 (c : Int32) : Nat := (ka c - 1) / 3 % 3
def k2 (c : Int32) : Nat := (ka c - 1) % 3
theorem kc_cases {c : Int32} (h : ka c ≤ 54) : ∃ a : Fin 55, c = nI a.val ∨ c = -nI a.val := by
  unfold ka at h
  refine ⟨⟨c.toInt.natAbs, by omega⟩, ?_⟩
  rcases Int.le_total 0 c.toInt with q | q
  · left
    apply Int32.toInt_inj.mp
    rw [nI_toInt (by simp only; omega)]
    simp only
    omega
  · right
    apply Int32.toInt_inj.mp
    rw [fb_negI (by rw [nI_toInt (by simp only; omega)]; omega), nI_toInt (by simp only; omega)]
    simp only
    omega
theorem kc_all {P : Int32 → Prop} (h : ∀ a : Fin 55, P (nI a.val) ∧ P (-nI a.val)) {c : Int32} (hc : ka c ≤ 54) : P c := by
  obtain ⟨a, rfl | rfl⟩ := kc_cases hc
  · exact (h a).1
  · exact (h a).2
theorem kr_lt {c : Int32} (h : ka c ≤ 54) : kr c < 6 := by unfold kr; omega
theorem kb1_lt (c : Int32) : k1 c < 3 := by unfold k1; omega
theorem kb2_lt (c : Int32) : k2 c < 3 := by unfold k2; omega
theorem kc_rel {c : Int32} (h : ka c ≤ 54) (h0 : c ≠ 0) : fX9_relationIn c = nI (kr c) := by
  revert h0
  exact kc_all (P := fun c => c ≠ 0 → fX9_relationIn c = nI (kr c)) (by decide +kernel) h
theorem kc_fst {c : Int32} (h : ka c ≤ 54) (h0 : c ≠ 0) : fX9_firstIn c = some (nI (k1 c)) := by
  revert h0
  exact kc_all (P := fun c => c ≠ 0 → fX9_firstIn c = some (nI (k1 c))) (by decide +kernel) h
theorem kc_snd {c : Int32} (h : ka c ≤ 54) (h0 : c ≠ 0) : fX9_secondIn c = nI (k2 c) := by
  revert h0
  exact kc_all (P := fun c => c ≠ 0 → fX9_secondIn c = nI (k2 c)) (by decide +kernel) h
def hz (c : Int32) : Bool := decide (c ≠ 0) && (k1 c == 2 || k2 c == 2)
theorem kc_hz {c : Int32} (h : ka c ≤ 54) : fX6_hasZ c = some (bI (hz c)) :=
  kc_all (P := fun c => fX6_hasZ c = some (bI (hz c))) (by decide +kernel) h
/-- how many rules, their heads, their conditions -/
abbrev RS : Type := Nat × (Nat → Nat) × (Nat → Nat → Int32)
def zhas (R : RS) (r : Nat) : Bool := hz (R.2.2 r 0) || hz (R.2.2 r 1) || hz (R.2.2 r 2)
def cnd (R : RS) (r : Nat) : Int32 := if zhas R r then nI 63 else nI 1
/-- the first m rules, in the class's rows -/
def RB (M : KS) (o m : Nat) (R : RS) : Prop := ∀ r, r < m → M.1 (iRh o) r = nI (R.2.1 r) ∧ (∀ j, j < 3 → M.1 (iRc o) (3 * r + j) = R.2.2 r j) ∧ M.1 (iRa o) r = cnd R r
def RA (M : KS) (o : Nat) (R : RS) : Prop := M.1 (iR o) 3 = nI R.1 ∧ RB M o R.1 R
/-- what holds of one rule that may be asked -/
def OK1 (R : RS) (r : Nat) : Prop := R.2.1 r < 6 ∧ ∀ j, j < 3 → ka (R.2.2 r j) ≤ 54
abbrev cR (o : Nat) : Nat → Prop := fun a => a = iR o ∨ a = iRh o ∨ a = iRc o ∨ a = iRa o
theorem RB.keep {M M' : KS} {o m : Nat} {R : RS} (h : RB M o m R) (e1 : M'.1 (iRh o) = M.1 (iRh o)) (e2 : M'.1 (iRc o) = M.1 (iRc o)) (e3 : M'.1 (iRa o) = M.1 (iRa o)) : RB M' o m R := fun r hr => by rw [e1, e2, e3]; exact h r hr
theorem RB.fr {M M' : KS} {o m : Nat} {R : RS} {P : Nat → Prop} (h : RB M o m R) (k : FR P M M') (h1 : ¬ P (iRh o)) (h2 : ¬ P (iRc o)) (h3 : ¬ P (iRa o)) : RB M' o m R := h.keep (k.1 _ h1) (k.1 _ h2) (k.1 _ h3)
theorem RA.fr {M M' : KS} {o : Nat} {R : RS} {P : Nat → Prop} (h : RA M o R) (k : FR P M M') (h0 : ¬ P (iR o)) (h1 : ¬ P (iRh o)) (h2 : ¬ P (iRc o)) (h3 : ¬ P (iRa o)) : RA M' o R := ⟨by rw [k.1 _ h0]; exact h.1, h.2.fr k h1 h2 h3⟩
theorem RB.le {M : KS} {o m m' : Nat} {R : RS} (h : RB M o m R) (hm : m' ≤ m) : RB M o m' R := fun r hr => h r (by omega)
section RUL
variable {M : KS} {o m oa ob : Nat} {R : RS} {S S1 : Nat → Bool} {r x y : Nat}
theorem head_eq (h : RB M o m R) (hr : r < m) (hm : m ≤ 11) : fX6_head M o (nI r) = some (nI (R.2.1 r)) := by
  unfold fX6_head
  simp (disch := omega) only [li0, li1, li2, li3, li4, li5, li6, li8, li9, li10, li11, li20, li21, li24, li32, li33, li36, li37, li40, li43, li45, li48, li53, li54, li57, li59, li60, li61, li63, li84, li97, li100, li102, li114, li120, li122, li216, li217, li257, li300, li1296, li1799, li2056, nI_add, pk_mul, nI_subN, pk_div, jremN, nI_leI, nI_ltI, nI_eq, nI_clamp, inb_N, if_pos, if_neg, if_true, if_false, nm, jn, bd2, Option.bind_some, (h r hr).1]
theorem code_eq (h : RB M o m R) (hr : r < m) (hm : m ≤ 11) {j : Nat} (hj : j < 3) : fX6_code M o (nI r) (nI j) = some (R.2.2 r j) := by
  unfold fX6_code
  simp (disch := omega) only [li0, li1, li2, li3, li4, li5, li6, li8, li9, li10, li11, li20, li21, li24, li32, li33, li36, li37, li40, li43, li45, li48, li53, li54, li57, li59, li60, li61, li63, li84, li97, li100, li102, li114, li120, li122, li216, li217, li257, li300, li1296, li1799, li2056, nI_add, pk_mul, nI_subN, pk_div, jremN, nI_leI, nI_ltI, nI_eq, nI_clamp, inb_N, if_pos, if_neg, if_true, if_false, nm, jn, bd2, Option.bind_some, (h r hr).2.1 j hj]
/-- the person of a letter -/
def lt3 (l x y z : Nat) : Nat := if l = 0 then x else if l = 1 then y else z
def fc (c : Int32) (x y z : Nat) : Nat := 36 * kr c + 6 * lt3 (k1 c) x y z + lt3 (k2 c) x y z
/-- a condition is fulfilled, or there is none -/
def cond (S : Nat → Bool) (c : Int32) (x y z : Nat) : Bool := decide (c = 0) || (S (fc c x y z) == decide (0 < c))
theorem lt3_lt {l x y z : Nat} (hx : x < 6) (hy : y < 6) (hz : z < 6) : lt3 l x y z < 6 := by unfold lt3; split; exact hx; split; exact hy; exact hz
theorem fc_lt {c : Int32} {x y z : Nat} (hc : ka c ≤ 54) (hx : x < 6) (hy : y < 6) (hz : z < 6) : fc c x y z < 216 := by
  have h1 := kr_lt hc
  have h2 := lt3_lt (l := k1 c) hx hy hz
  have h3 := lt3_lt (l := k2 c) hx hy hz
  unfold fc
  omega
theorem kc_sgn {c : Int32} (h0 : c ≠ 0) : (0 ≤ c ↔ 0 < c) ∧ (c < 0 ↔ ¬ 0 < c) := by
  have h1 : c.toInt ≠ 0 := fun z => h0 (Int32.toInt_inj.mp (by rw [z]; rfl))
  simp only [fa_le, fa_lt]
  have : (0 : Int32).toInt = 0 := by decide
  omega
theorem ful_eq (hF : FA M o S) {c : Int32} (hc : ka c ≤ 54) (h0 : c ≠ 0) (hx : x < 6) (hy : y < 6) : fX6_fulfilling M c (nI x) (nI y) o = some (m6 (fun z => cond S c x y z)) := by
  have hr := kr_lt hc
  have h1 := kb1_lt c
  have h2 := kb2_lt c
  have hs := (kc_sgn h0).1
  have key : ∀ (f : Nat → Bool), (∀ z, z < 6 → f z = S (fc c x y z)) → fX6_fulfilling_J119_45 c (m6 f) = some (m6 (fun z => cond S c x y z)) := by
    intro f hf
    unfold fX6_fulfilling_J119_45
    by_cases q : 0 < c
    · rw [if_pos (hs.mpr q)]
      refine congrArg some (m6_cong fun z hz => ?_)
      rw [hf z hz]
      unfold cond
      rw [decide_eq_false h0, decide_eq_true q]
      simp
    · rw [if_neg (fun z => q (hs.mp z))]
      show some (nI 63 &&& (m6 f ^^^ (-nI 1))) = _
      rw [m6_63, m6_andn]
      refine congrArg some (m6_cong fun z hz => ?_)
      rw [hf z hz]
      unfold cond
      rw [decide_eq_false h0, decide_eq_false q]
      simp
  have key2 : ∀ a b : Nat, a < 6 → b < 6 → (k1 c ≠ 2 → ∀ z, lt3 (k1 c) x y z = a) → (k2 c ≠ 2 → ∀ z, lt3 (k2 c) x y z = b) → fX6_fulfilling_J40_32 M c o (nI (kr c)) (nI (k1 c)) (nI (k2 c)) (nI a) (nI b) = some (m6 (fun z => cond S c x y z)) := by
    intro a b ha hb e1 e2
    unfold fX6_fulfilling_J40_32
    by_cases p1 : k1 c = 2
    · by_cases p2 : k2 c = 2
      · simp (disch := omega) only [li0, li1, li2, li3, li4, li5, li6, li8, li9, li10, li11, li20, li21, li24, li32, li33, li36, li37, li40, li43, li45, li48, li53, li54, li57, li59, li60, li61, li63, li84, li97, li100, li102, li114, li120, li122, li216, li217, li257, li300, li1296, li1799, li2056, nI_add, pk_mul, nI_subN, pk_div, jremN, nI_leI, nI_ltI, nI_eq, nI_clamp, inb_N, if_pos, if_neg, if_true, if_false, nm, jn, bd2, Option.bind_some, p1, p2, self_eq hF hr]
        refine key _ (fun z hz => congrArg S ?_)
        unfold fc lt3
        rw [p1, p2]
        simp only [if_neg (show ¬ 2 = 0 by decide), if_neg (show ¬ 2 = 1 by decide)]
        omega
      · simp (disch := omega) only [li0, li1, li2, li3, li4, li5, li6, li8, li9, li10, li11, li20, li21, li24, li32, li33, li36, li37, li40, li43, li45, li48, li53, li54, li57, li59, li60, li61, li63, li84, li97, li100, li102, li114, li120, li122, li216, li217, li257, li300, li1296, li1799, li2056, nI_add, pk_mul, nI_subN, pk_div, jremN, nI_leI, nI_ltI, nI_eq, nI_clamp, inb_N, if_pos, if_neg, if_true, if_false, nm, jn, bd2, Option.bind_some, p1, p2, from_eq hF hr hb]
        refine key _ (fun z hz => congrArg S ?_)
        unfold fc
        rw [e2 p2, p1]
        unfold lt3
        simp only [if_neg (show ¬ 2 = 0 by decide), if_neg (show ¬ 2 = 1 by decide)]
    · by_cases p2 : k2 c = 2
      · simp (disch := omega) only [li0, li1, li2, li3, li4, li5, li6, li8, li9, li10, li11, li20, li21, li24, li32, li33, li36, li37, li40, li43, li45, li48, li53, li54, li57, li59, li60, li61, li63, li84, li97, li100, li102, li114, li120, li122, li216, li217, li257, li300, li1296, li1799, li2056, nI_add, pk_mul, nI_subN, pk_div, jremN, nI_leI, nI_ltI, nI_eq, nI_clamp, inb_N, if_pos, if_neg, if_true, if_false, nm, jn, bd2, Option.bind_some, p1, p2, to_eq hF hr ha]
        refine key _ (fun z hz => congrArg S ?_)
        unfold fc
        rw [e1 p1, p2]
        unfold lt3
        simp only [if_neg (show ¬ 2 = 0 by decide), if_neg (show ¬ 2 = 1 by decide)]
      · simp (disch := omega) only [li0, li1, li2, li3, li4, li5, li6, li8, li9, li10, li11, li20, li21, li24, li32, li33, li36, li37, li40, li43, li45, li48, li53, li54, li57, li59, li60, li61, li63, li84, li97, li100, li102, li114, li120, li122, li216, li217, li257, li300, li1296, li1799, li2056, nI_add, pk_mul, nI_subN, pk_div, jremN, nI_leI, nI_ltI, nI_eq, nI_clamp, inb_N, if_pos, if_neg, if_true, if_false, nm, jn, bd2, Option.bind_some, p1, p2, to_eq hF hr ha, m6_test _ hb, if_bI]
        have e : ∀ z, fc c x y z = 36 * kr c + 6 * a + b := fun z => by unfold fc; rw [e1 p1, e2 p2]
        cases hS : S (36 * kr c + 6 * a + b)
        · rw [if_neg (by decide), m6_zero]
          exact key _ (fun z hz => by rw [e z, hS])
        · rw [if_pos rfl, m6_63]
          exact key _ (fun z hz => by rw [e z, hS])
  unfold fX6_fulfilling
  simp (disch := omega) only [li0, li1, li2, li3, li4, li5, li6, li8, li9, li10, li11, li20, li21, li24, li32, li33, li36, li37, li40, li43, li45, li48, li53, li54, li57, li59, li60, li61, li63, li84, li97, li100, li102, li114, li120, li122, li216, li217, li257, li300, li1296, li1799, li2056, nI_add, pk_mul, nI_subN, pk_div, jremN, nI_leI, nI_ltI, nI_eq, nI_clamp, inb_N, if_pos, if_neg, if_true, if_false, nm, jn, bd2, Option.bind_some, kc_rel hc h0, kc_fst hc h0, kc_snd hc h0]
  unfold fX6_fulfilling_J28_20
  simp (disch := omega) only [li0, li1, li2, li3, li4, li5, li6, li8, li9, li10, li11, li20, li21, li24, li32, li33, li36, li37, li40, li43, li45, li48, li53, li54, li57, li59, li60, li61, li63, li84, li97, li100, li102, li114, li120, li122, li216, li217, li257, li300, li1296, li1799, li2056, nI_add, pk_mul, nI_subN, pk_div, jremN, nI_leI, nI_ltI, nI_eq, nI_clamp, inb_N, if_pos, if_neg, if_true, if_false, nm, jn, bd2, Option.bind_some]
  by_cases p1 : k1 c = 0 <;> by_cases p2 : k2 c = 0
  · rw [if_pos p1, if_pos p2]
    exact key2 x x hx hx (fun _ _ => by rw [p1]; rfl) (fun _ _ => by rw [p2]; rfl)
  · rw [if_pos p1, if_neg p2]
    exact key2 x y hx hy (fun _ _ => by rw [p1]; rfl) (fun q _ => by rw [show k2 c = 1 by omega]; rfl)
  · rw [if_neg p1, if_pos p2]
    exact key2 y x hy hx (fun q _ => by rw [show k1 c = 1 by omega]; rfl) (fun _ _ => by rw [p2]; rfl)
  · rw [if_neg p1, if_neg p2]
    exact key2 y y hy hy (fun q _ => by rw [show k1 c = 1 by omega]; rfl) (fun q _ => by rw [show k2 c = 1 by omega]; rfl)
end RUL
/-! ===== which persons z make a fact by a rule ===== -/
/-- all conditions of a rule are fulfilled -/
def mk (S : Nat → Bool) (R : RS) (r x y z : Nat) : Bool := cond S (R.2.2 r 0) x y z && cond S (R.2.2 r 1) x y z && cond S (R.2.2 r 2) x y z
/-- a condition that is not negated is fulfilled -/
def tc1 (S : Nat → Bool) (c : Int32) (x y z : Nat) : Bool := decide (0 < c) && cond S c x y z
def tch (S : Nat → Bool) (R : RS) (r x y z : Nat) : Bool := tc1 S (R.2.2 r 0) x y z || tc1 S (R.2.2 r 1) x y z || tc1 S (R.2.2 r 2) x y z
/-- z is a person that counts for a rule -/
def zin (R : RS) (r z : Nat) : Bool := zhas R r || z == 0
def pmk (S : Nat → Bool) (R : RS) (r x y : Nat) : Nat → Nat → Bool
  | 0, z => zin R r z
  | i + 1, z => pmk S R r x y i z && cond S (R.2.2 r i) x y z
def tmk (S : Nat → Bool) (R : RS) (r x y : Nat) : Nat → Nat → Bool
  | 0, _ => false
  | i + 1, z => tmk S R r x y i z || tc1 S (R.2.2 r i) x y z
section MKO
variable {M : KS} {o m oa ob : Nat} {R : RS} {S S1 : Nat → Bool} {r x y : Nat}
theorem pmk_3 (z : Nat) : pmk S R r x y 3 z = (zin R r z && mk S R r x y z) := by simp only [pmk, mk, Bool.and_assoc]
theorem tmk_3 (z : Nat) : tmk S R r x y 3 z = tch S R r x y z := by simp only [tmk, tch, Bool.false_or]
theorem pmk_no {i z : Nat} (h : pmk S R r x y i z = false) : ∀ k, pmk S R r x y (i + k) z = false
  | 0 => h
  | k + 1 => by
    show (pmk S R r x y (i + k) z && _) = false
    rw [pmk_no h k, Bool.false_and]
theorem cnd_m6 : cnd R r = m6 (fun z => zin R r z) := by
  unfold cnd
  cases h : zhas R r
  · rw [if_neg (by decide), m6_z1]
    exact m6_cong (fun j _ => by unfold zin; rw [h, Bool.false_or])
  · rw [if_pos rfl, m6_63]
    exact m6_cong (fun j _ => by unfold zin; rw [h, Bool.true_or])
theorem cond_0 (z : Nat) : cond S 0 x y z = true := by unfold cond; rw [decide_eq_true rfl, Bool.true_or]
theorem kc_sg2 {c : Int32} : (c ≤ 0 ↔ ¬ 0 < c) := by simp only [fa_le, fa_lt]; omega
theorem mko_eq (hR : RB M o m R) (hr : r < m) (hm : m ≤ 11) (hO : OK1 R r) (hF : FA M oa S) (hG : FA M ob S1) (hx : x < 6) (hy : y < 6) : fX6_makersOf M o (nI r) (nI x) (nI y) oa ob = some (m6 (fun z => zin R r z && mk S R r x y z && tch S1 R r x y z)) := by
  unfold fX6_makersOf
  simp (disch := omega) only [li0, li1, li2, li3, li4, li5, li6, li8, li9, li10, li11, li20, li21, li24, li32, li33, li36, li37, li40, li43, li45, li48, li53, li54, li57, li59, li60, li61, li63, li84, li97, li100, li102, li114, li120, li122, li216, li217, li257, li300, li1296, li1799, li2056, nI_add, pk_mul, nI_subN, pk_div, jremN, nI_leI, nI_ltI, nI_eq, nI_clamp, inb_N, if_pos, if_neg, if_true, if_false, nm, jn, bd2, Option.bind_some, (hR r hr).2.2, cnd_m6]
  refine wp_is (wp_for 3 (fun i s => s = (m6 (pmk S R r x y i), m6 (tmk S1 R r x y i), nI i)) (fun i s rec hi hI hrec => ?_) (by decide) (Nat.zero_le _) (by rw [Prod.mk.injEq, Prod.mk.injEq]; exact ⟨rfl, m6_zero, rfl⟩))
  subst hI
  rw [fX6_makersOf_L29_u]
  rcases Nat.lt_or_ge i 3 with hlt | hge
  · by_cases hp : m6 (pmk S R r x y i) = nI 0
    · simp (disch := omega) only [li0, li1, li2, li3, li4, li5, li6, li8, li9, li10, li11, li20, li21, li24, li32, li33, li36, li37, li40, li43, li45, li48, li53, li54, li57, li59, li60, li61, li63, li84, li97, li100, li102, li114, li120, li122, li216, li217, li257, li300, li1296, li1799, li2056, nI_add, pk_mul, nI_subN, pk_div, jremN, nI_leI, nI_ltI, nI_eq, nI_clamp, inb_N, if_pos, if_neg, if_true, if_false, nm, jn, bd2, Option.bind_some, hp, fX6_makersOf_X29]
      refine wp_some ?_
      rw [m6_zero, m6_and]
      refine m6_cong fun z hz => ?_
      have h1 := pmk_no (m6_eq0.mp hp z hz) (3 - i)
      rw [show i + (3 - i) = 3 by omega, pmk_3] at h1
      rw [h1]
      rfl
    · have hc := hO.2 i hlt
      simp (disch := omega) only [li0, li1, li2, li3, li4, li5, li6, li8, li9, li10, li11, li20, li21, li24, li32, li33, li36, li37, li40, li43, li45, li48, li53, li54, li57, li59, li60, li61, li63, li84, li97, li100, li102, li114, li120, li122, li216, li217, li257, li300, li1296, li1799, li2056, nI_add, pk_mul, nI_subN, pk_div, jremN, nI_leI, nI_ltI, nI_eq, nI_clamp, inb_N, if_pos, if_neg, if_true, if_false, nm, jn, bd2, Option.bind_some, hp, code_eq hR hr hm hlt]
      have key : ∀ v : Int32, v = m6 (pmk S R r x y (i + 1)) → wp (fX6_makersOf_J68_51 M (nI x) (nI y) ob (m6 (tmk S1 R r x y i)) (nI i) rec (R.2.2 r i) v) (fun a => a = m6 (fun z => zin R r z && mk S R r x y z && tch S1 R r x y z)) := by
        intro v hv
        subst hv
        unfold fX6_makersOf_J68_51
        by_cases q : 0 < R.2.2 r i
        · have h0 : R.2.2 r i ≠ 0 := fun z => by rw [z] at q; exact absurd q (by decide)
          rw [if_neg (fun z => kc_sg2.mp z q)]
          simp (disch := omega) only [li0, li1, li2, li3, li4, li5, li6, li8, li9, li10, li11, li20, li21, li24, li32, li33, li36, li37, li40, li43, li45, li48, li53, li54, li57, li59, li60, li61, li63, li84, li97, li100, li102, li114, li120, li122, li216, li217, li257, li300, li1296, li1799, li2056, nI_add, pk_mul, nI_subN, pk_div, jremN, nI_leI, nI_ltI, nI_eq, nI_clamp, inb_N, if_pos, if_neg, if_true, if_false, nm, jn, bd2, Option.bind_some, ful_eq hG hc h0 hx hy, m6_or]
          refine hrec _ hlt ?_
          rw [Prod.mk.injEq, Prod.mk.injEq]
          refine ⟨rfl, m6_cong fun z hz => ?_, rfl⟩
          show _ = (tmk S1 R r x y i z || tc1 S1 (R.2.2 r i) x y z)
          unfold tc1
          rw [decide_eq_true q, Bool.true_and]
        · rw [if_pos (kc_sg2.mpr q)]
          simp (disch := omega) only [li0, li1, li2, li3, li4, li5, li6, li8, li9, li10, li11, li20, li21, li24, li32, li33, li36, li37, li40, li43, li45, li48, li53, li54, li57, li59, li60, li61, li63, li84, li97, li100, li102, li114, li120, li122, li216, li217, li257, li300, li1296, li1799, li2056, nI_add, pk_mul, nI_subN, pk_div, jremN, nI_leI, nI_ltI, nI_eq, nI_clamp, inb_N, if_pos, if_neg, if_true, if_false, nm, jn, bd2, Option.bind_some]
          refine hrec _ hlt ?_
          rw [Prod.mk.injEq, Prod.mk.injEq]
          refine ⟨rfl, m6_cong fun z hz => ?_, rfl⟩
          show _ = (tmk S1 R r x y i z || tc1 S1 (R.2.2 r i) x y z)
          unfold tc1
          rw [decide_eq_false q, Bool.false_and, Bool.or_false]
      by_cases h0 : R.2.2 r i = nI 0
      · refine wp_pos h0 (key _ (m6_cong fun z hz => ?_))
        show _ = (pmk S R r x y i z && cond S (R.2.2 r i) x y z)
        rw [h0, show nI 0 = 0 from rfl, cond_0, Bool.and_true]
      · refine wp_neg h0 ?_
        simp (disch := omega) only [li0, li1, li2, li3, li4, li5, li6, li8, li9, li10, li11, li20, li21, li24, li32, li33, li36, li37, li40, li43, li45, li48, li53, li54, li57, li59, li60, li61, li63, li84, li97, li100, li102, li114, li120, li122, li216, li217, li257, li300, li1296, li1799, li2056, nI_add, pk_mul, nI_subN, pk_div, jremN, nI_leI, nI_ltI, nI_eq, nI_clamp, inb_N, if_pos, if_neg, if_true, if_false, nm, jn, bd2, Option.bind_some, ful_eq hF hc h0 hx hy, m6_and]
        exact key _ (m6_cong fun z hz => rfl)
  · have : i = 3 := by omega
    subst this
    simp (disch := omega) only [li0, li1, li2, li3, li4, li5, li6, li8, li9, li10, li11, li20, li21, li24, li32, li33, li36, li37, li40, li43, li45, li48, li53, li54, li57, li59, li60, li61, li63, li84, li97, li100, li102, li114, li120, li122, li216, li217, li257, li300, li1296, li1799, li2056, nI_add, pk_mul, nI_subN, pk_div, jremN, nI_leI, nI_ltI, nI_eq, nI_clamp, inb_N, if_pos, if_neg, if_true, if_false, nm, jn, bd2, Option.bind_some, fX6_makersOf_X29, m6_and]
    exact wp_some (m6_cong fun z hz => by rw [pmk_3, tmk_3])
/-- with one set of facts, a rule with a condition that is not negated touches it -/
theorem mk_tch (hp : ∃ j, j < 3 ∧ 0 < R.2.2 r j) {z : Nat} (h : mk S R r x y z = true) : tch S R r x y z = true := by
  unfold mk at h
  simp only [Bool.and_eq_true] at h
  unfold tch tc1
  obtain ⟨j, hj, hp⟩ := hp
  match j, hj with
  | 0, _ => rw [decide_eq_true hp, h.1.1]; rfl
  | 1, _ => rw [decide_eq_true hp, h.1.2]; simp
  | 2, _ => rw [decide_eq_true hp, h.2]; simp
theorem mkq_eq (hR : RB M o m R) (hr : r < m) (hm : m ≤ 11) (hO : OK1 R r) (hp : ∃ j, j < 3 ∧ 0 < R.2.2 r j) (hF : FA M oa S) (hx : x < 6) (hy : y < 6) : fX6_makersOf M o (nI r) (nI x) (nI y) oa oa = some (m6 (fun z => zin R r z && mk S R r x y z)) := by
  rw [mko_eq hR hr hm hO hF hF hx hy]
  refine congrArg some (m6_cong fun z hz => ?_)
  cases h : mk S R r x y z
  · simp
  · rw [mk_tch hp h, Bool.and_true]
theorem low_eq (f : Nat → Bool) : fX9_lowestOf (m6 f) = some (if fa_first f 6 < 6 then nI (fa_first f 6) else nI 0) := by
  unfold fX9_lowestOf
  refine wp_is (wp_for 6 (fun i s => s = nI i ∧ i ≤ fa_first f 6) (fun i s rec hi hI hrec => ?_) (by decide) (Nat.zero_le _) ⟨rfl, Nat.zero_le _⟩)
  obtain ⟨rfl, hI⟩ := hI
  have hl := fa_first_le f 6
  unfold fX9_lowestOf_L2
  rcases Nat.lt_or_ge i 6 with hlt | hge
  · simp (disch := omega) only [li0, li1, li2, li3, li4, li5, li6, li8, li9, li10, li11, li20, li21, li24, li32, li33, li36, li37, li40, li43, li45, li48, li53, li54, li57, li59, li60, li61, li63, li84, li97, li100, li102, li114, li120, li122, li216, li217, li257, li300, li1296, li1799, li2056, nI_add, pk_mul, nI_subN, pk_div, jremN, nI_leI, nI_ltI, nI_eq, nI_clamp, inb_N, if_pos, if_neg, if_true, if_false, nm, jn, bd2, Option.bind_some, m6_test f hlt, if_bI]
    cases hf : f i
    · rw [if_neg (by decide)]
      refine hrec _ hlt ⟨rfl, ?_⟩
      rcases Nat.lt_or_ge i (fa_first f 6) with q | q
      · exact q
      · have : fa_first f 6 = i := by omega
        have h2 := fa_first_yes f 6 (by omega)
        rw [this, hf] at h2
        exact absurd h2 (by decide)
    · rw [if_pos rfl]
      refine wp_some ?_
      have : fa_first f 6 = i := by
        rcases Nat.lt_or_ge i (fa_first f 6) with q | q
        · have := fa_first_no f 6 i q
          rw [hf] at this
          exact absurd this (by decide)
        · omega
      rw [this, if_pos hlt]
  · have : i = 6 := by omega
    subst this
    simp (disch := omega) only [li0, li1, li2, li3, li4, li5, li6, li8, li9, li10, li11, li20, li21, li24, li32, li33, li36, li37, li40, li43, li45, li48, li53, li54, li57, li59, li60, li61, li63, li84, li97, li100, li102, li114, li120, li122, li216, li217, li257, li300, li1296, li1799, li2056, nI_add, pk_mul, nI_subN, pk_div, jremN, nI_leI, nI_ltI, nI_eq, nI_clamp, inb_N, if_pos, if_neg, if_true, if_false, nm, jn, bd2, Option.bind_some, fX9_lowestOf_X2]
    exact wp_some rfl
end MKO
