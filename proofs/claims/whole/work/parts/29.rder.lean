/-! ===== the reference's deriving ===== -/
/-- the stages say what holds -/
def STG (N : KS) (S : Nat → Bool) : Prop := ∀ k, k < 216 → ∃ n, n ≤ 300 ∧ N.1 6 k = if S k then nI n else -nI 1
def RX (N : KS) (X : DX) : Prop := ∀ k, k < 216 → N.1 6 k = (if X.1 k then nI (X.2.1 k) else -nI 1) ∧ N.1 7 k = (if 0 < X.2.1 k then nI (X.2.2.1 k) else -nI 1) ∧ N.1 8 k = (if 0 < X.2.1 k then nI (X.2.2.2.1 k) else -nI 1) ∧ X.2.1 k ≤ 300 ∧ (0 < X.2.1 k → X.1 k = true)
theorem RX.stg {N : KS} {X : DX} (h : RX N X) : STG N X.1 := fun k hk => ⟨X.2.1 k, (h k hk).2.2.2.1, (h k hk).1⟩
theorem neg1_lt : (-nI 1 : Int32) < nI 0 := by decide
theorem neg1_le : ¬ (nI 0 ≤ (-nI 1 : Int32)) := by decide
abbrev c11 : Nat → Prop := fun q => q = 11
section RDR
variable {N : KS} {m r x y z : Nat} {R : RS} {S : Nat → Bool}
theorem stg_lt (h : STG N S) {k : Nat} (hk : k < 216) : (N.1 6 k < nI 0 ↔ S k = false) ∧ (nI 0 ≤ N.1 6 k ↔ S k = true) := by
  obtain ⟨n, hn, e⟩ := h k hk
  rw [e]
  cases S k
  · rw [if_neg (by decide)]
    exact ⟨⟨fun _ => rfl, fun _ => neg1_lt⟩, ⟨fun q => absurd q neg1_le, fun q => absurd q (by decide)⟩⟩
  · rw [if_pos rfl, nI_ltI (by omega) (by omega), nI_leI (by omega) (by omega)]
    exact ⟨⟨fun q => absurd q (Nat.not_lt_zero _), fun q => absurd q (by decide)⟩, ⟨fun _ => rfl, fun _ => Nat.zero_le _⟩⟩
theorem lt3_N {c : Int32} (h0 : N.1 11 0 = nI x) (h1 : N.1 11 1 = nI y) (h2 : N.1 11 2 = nI z) : N.1 11 (k1 c) = nI (lt3 (k1 c) x y z) ∧ N.1 11 (k2 c) = nI (lt3 (k2 c) x y z) := by
  have a1 := kb1_lt c
  have a2 := kb2_lt c
  have key : ∀ q, q < 3 → N.1 11 q = nI (lt3 q x y z) := fun q hq => by
    match q, hq with
    | 0, _ => exact h0
    | 1, _ => exact h1
    | 2, _ => exact h2
  exact ⟨key _ a1, key _ a2⟩
theorem foc_eq {c : Int32} (hc : ka c ≤ 54) (hc0 : c ≠ 0) (hx : x < 6) (hy : y < 6) (hz : z < 6) (h0 : N.1 11 0 = nI x) (h1 : N.1 11 1 = nI y) (h2 : N.1 11 2 = nI z) : fX10_factOfCondition N c = some (nI (fc c x y z)) := by
  have a1 := kb1_lt c
  have a2 := kb2_lt c
  have a3 := kr_lt hc
  have a4 := lt3_lt (l := k1 c) hx hy hz
  have a5 := lt3_lt (l := k2 c) hx hy hz
  have e := lt3_N (c := c) h0 h1 h2
  unfold fX10_factOfCondition
  rw [rlet0_eq hc hc0, rlet1_eq hc hc0, rrel_eq hc hc0]
  simp (disch := omega) only [li0, li1, li2, li3, li4, li5, li6, li8, li9, li10, li11, li20, li21, li24, li32, li33, li36, li37, li40, li43, li45, li48, li53, li54, li57, li59, li60, li61, li63, li84, li97, li100, li102, li114, li120, li122, li216, li217, li257, li300, li1296, li1799, li2056, nI_add, pk_mul, nI_subN, pk_div, jremN, nI_leI, nI_ltI, nI_eq, nI_clamp, inb_N, if_pos, if_neg, if_true, if_false, nm, jn, bd2, Option.bind_some, e.1, e.2, fX10_fact]
  rfl
theorem makes_wp (hR : MB (N.1 1) m R) (hr : r < m) (hm : m ≤ 10) (hO : OK1 R r) (hS : STG N S) (hx : x < 6) (hy : y < 6) (hz : z < 6) : wp (fX10_makes N (nI r) (nI x) (nI y) (nI z)) (fun a => a.1 = bI (mk S R r x y z) ∧ FR c11 N a.2) := by
  unfold fX10_makes
  refine wp_pos (by decide) (wp_nm (wp_pos (by decide) (wp_nm (wp_pos (by decide) (wp_nm ?_)))))
  rw [show (0 : Int32).toNatClampNeg = 0 from rfl, show (1 : Int32).toNatClampNeg = 1 from rfl, show (2 : Int32).toNatClampNeg = 2 from rfl]
  generalize hN3 : kset (kset (kset N 11 0 (nI x)) 11 1 (nI y)) 11 2 (nI z) = N3
  have hF : FR c11 N N3 := by rw [← hN3]; exact (((FR.rf (P := c11)).set rfl).set rfl).set rfl
  have l0 : N3.1 11 0 = nI x := by rw [← hN3, kset_c, if_neg (by decide), kset_c, if_neg (by decide), kset_c, if_pos rfl]
  have l1 : N3.1 11 1 = nI y := by rw [← hN3, kset_c, if_neg (by decide), kset_c, if_pos rfl]
  have l2 : N3.1 11 2 = nI z := by rw [← hN3, kset_c, if_pos rfl]
  have hR3 := hR.fr hF (by decide)
  have hS3 : STG N3 S := fun k hk => by rw [hF.1 6 (by decide)]; exact hS k hk
  refine wp_for 3 (fun (i : Nat) (s : Int32 × Int32) => ∃ b, s = (bI b, nI i) ∧ (b = false → mk S R r x y z = false) ∧ (b = true → ∀ j, j < i → cond S (R.2.2 r j) x y z = true)) (fun i s rec hi hI hrec => ?_) (by decide) (Nat.zero_le _) ⟨true, rfl, fun h => absurd h (by decide), fun _ j hj => absurd hj (Nat.not_lt_zero _)⟩
  obtain ⟨b, rfl, hb0, hb1⟩ := hI
  rw [fX10_makes_L28_u]
  rcases Nat.lt_or_ge i 3 with hlt | hge
  · cases b
    · simp (disch := omega) only [li0, li1, li2, li3, li4, li5, li6, li8, li9, li10, li11, li20, li21, li24, li32, li33, li36, li37, li40, li43, li45, li48, li53, li54, li57, li59, li60, li61, li63, li84, li97, li100, li102, li114, li120, li122, li216, li217, li257, li300, li1296, li1799, li2056, nI_add, pk_mul, nI_subN, pk_div, jremN, nI_leI, nI_ltI, nI_eq, nI_clamp, inb_N, if_pos, if_neg, if_true, if_false, nm, jn, bd2, Option.bind_some, bI_f]
      unfold fX10_makes_X28
      exact wp_pos isB_0 (wp_some ⟨by rw [hb0 rfl]; rfl, hF⟩)
    · have hc := hO.2 i hlt
      simp (disch := omega) only [li0, li1, li2, li3, li4, li5, li6, li8, li9, li10, li11, li20, li21, li24, li32, li33, li36, li37, li40, li43, li45, li48, li53, li54, li57, li59, li60, li61, li63, li84, li97, li100, li102, li114, li120, li122, li216, li217, li257, li300, li1296, li1799, li2056, nI_add, pk_mul, nI_subN, pk_div, jremN, nI_leI, nI_ltI, nI_eq, nI_clamp, inb_N, if_pos, if_neg, if_true, if_false, nm, jn, bd2, Option.bind_some, bI_t, rcond_eq hR3 hr hm hlt]
      by_cases h0 : R.2.2 r i = 0
      · refine wp_pos h0 (hrec _ hlt ⟨true, rfl, fun h => absurd h (by decide), fun _ j hj => ?_⟩)
        rcases Nat.lt_or_ge j i with q | q
        · exact hb1 rfl j q
        · have : j = i := by omega
          rw [this, h0, cond_0]
      · refine wp_neg h0 ?_
        have hfl := fc_lt hc hx hy hz
        simp (disch := omega) only [li0, li1, li2, li3, li4, li5, li6, li8, li9, li10, li11, li20, li21, li24, li32, li33, li36, li37, li40, li43, li45, li48, li53, li54, li57, li59, li60, li61, li63, li84, li97, li100, li102, li114, li120, li122, li216, li217, li257, li300, li1296, li1799, li2056, nI_add, pk_mul, nI_subN, pk_div, jremN, nI_leI, nI_ltI, nI_eq, nI_clamp, inb_N, if_pos, if_neg, if_true, if_false, nm, jn, bd2, Option.bind_some, foc_eq hc h0 hx hy hz l0 l1 l2]
        have hsg := kc_sg2 (c := R.2.2 r i)
        have fin : ∀ v10 v11 : Bool, v10 = S (fc (R.2.2 r i) x y z) → v11 = decide (0 < R.2.2 r i) → wp (fX10_makes_J82_74 (nI i) rec (bI v10) (bI v11)) (fun a => a.1 = bI (mk S R r x y z) ∧ FR c11 N a.2) := by
          intro v10 v11 e1 e2
          have hcond : cond S (R.2.2 r i) x y z = (v10 == v11) := by unfold cond; rw [decide_eq_false h0, Bool.false_or, e1, e2]
          unfold fX10_makes_J82_74
          by_cases q : v10 = v11
          · refine wp_pos (congrArg bI q) ?_
            simp (disch := omega) only [li0, li1, li2, li3, li4, li5, li6, li8, li9, li10, li11, li20, li21, li24, li32, li33, li36, li37, li40, li43, li45, li48, li53, li54, li57, li59, li60, li61, li63, li84, li97, li100, li102, li114, li120, li122, li216, li217, li257, li300, li1296, li1799, li2056, nI_add, pk_mul, nI_subN, pk_div, jremN, nI_leI, nI_ltI, nI_eq, nI_clamp, inb_N, if_pos, if_neg, if_true, if_false, nm, jn, bd2, Option.bind_some]
            refine hrec _ hlt ⟨true, rfl, fun h => absurd h (by decide), fun _ j hj => ?_⟩
            rcases Nat.lt_or_ge j i with q2 | q2
            · exact hb1 rfl j q2
            · have : j = i := by omega
              rw [this, hcond, q]
              simp
          · refine wp_neg (fun z => q ?_) ?_
            · revert z; cases v10 <;> cases v11 <;> decide
            simp (disch := omega) only [li0, li1, li2, li3, li4, li5, li6, li8, li9, li10, li11, li20, li21, li24, li32, li33, li36, li37, li40, li43, li45, li48, li53, li54, li57, li59, li60, li61, li63, li84, li97, li100, li102, li114, li120, li122, li216, li217, li257, li300, li1296, li1799, li2056, nI_add, pk_mul, nI_subN, pk_div, jremN, nI_leI, nI_ltI, nI_eq, nI_clamp, inb_N, if_pos, if_neg, if_true, if_false, nm, jn, bd2, Option.bind_some]
            refine hrec _ hlt ⟨false, rfl, fun _ => ?_, fun h => absurd h (by decide)⟩
            have hcf : cond S (R.2.2 r i) x y z = false := by rw [hcond]; exact beq_eq_false_iff_ne.mpr q
            unfold mk
            match i, hlt, hcf with
            | 0, _, hcf => rw [hcf]; rfl
            | 1, _, hcf => rw [hcf]; simp
            | 2, _, hcf => rw [hcf]; simp
        have step : ∀ v10 : Bool, v10 = S (fc (R.2.2 r i) x y z) → wp (fX10_makes_J72_64 (nI i) rec (R.2.2 r i) (bI v10)) (fun a => a.1 = bI (mk S R r x y z) ∧ FR c11 N a.2) := by
          intro v10 e1
          unfold fX10_makes_J72_64
          refine wp_jn ?_
          by_cases q : 0 < R.2.2 r i
          · exact wp_neg (fun z => hsg.mp z q) (fin v10 true e1 (by rw [decide_eq_true q]))
          · exact wp_pos (hsg.mpr q) (fin v10 false e1 (by rw [decide_eq_false q]))
        have hst := stg_lt hS3 hfl
        cases hv : S (fc (R.2.2 r i) x y z)
        · exact wp_pos (hst.1.mpr hv) (step false hv.symm)
        · exact wp_neg (fun z => by rw [hst.1.mp z] at hv; exact absurd hv (by decide)) (step true hv.symm)
  · have : i = 3 := by omega
    subst this
    simp (disch := omega) only [li0, li1, li2, li3, li4, li5, li6, li8, li9, li10, li11, li20, li21, li24, li32, li33, li36, li37, li40, li43, li45, li48, li53, li54, li57, li59, li60, li61, li63, li84, li97, li100, li102, li114, li120, li122, li216, li217, li257, li300, li1296, li1799, li2056, nI_add, pk_mul, nI_subN, pk_div, jremN, nI_leI, nI_ltI, nI_eq, nI_clamp, inb_N, if_pos, if_neg, if_true, if_false, nm, jn, bd2, Option.bind_some]
    unfold fX10_makes_X28
    refine wp_pos (bI_B b) (wp_some ⟨?_, hF⟩)
    cases b
    · show bI false = _
      rw [hb0 rfl]
    · show bI true = _
      have := hb1 rfl
      unfold mk
      rw [this 0 (by decide), this 1 (by decide), this 2 (by decide)]
      rfl
theorem lowest_wp (hR : MB (N.1 1) m R) (hr : r < m) (hm : m ≤ 10) (hO : OK1 R r) (hS : STG N S) (hx : x < 6) (hy : y < 6) : wp (fX10_lowest N (nI r) (nI x) (nI y)) (fun a => a.1 = (if zl S R r x y < 6 then nI (zl S R r x y) else -nI 1) ∧ FR c11 N a.2) := by
  unfold fX10_lowest
  rw [show (2 : Int32) = nI 2 from rfl, rrul_eq hR hr hm hO (by decide), rhl_2]
  refine wp_bind (wp_some ?_)
  refine wp_jn ?_
  have hz6 := fa_first_le (fun z => zin R r z && mk S R r x y z) 6
  have key : ∀ n, n = (if zhas R r then 6 else 1) → wp (fX10_lowest_J15_6 N (nI r) (nI x) (nI y) (nI n)) (fun a => a.1 = (if zl S R r x y < 6 then nI (zl S R r x y) else -nI 1) ∧ FR c11 N a.2) := by
    intro n hn
    have hn6 : n ≤ 6 := by rw [hn]; split <;> omega
    have hzn : ∀ z, z < 6 → (zin R r z = true ↔ z < n) := by
      intro z hz
      unfold zin
      rw [hn]
      cases zhas R r
      · rw [Bool.false_or, beq_iff_eq, if_neg (by decide)]; omega
      · rw [Bool.true_or, if_pos rfl]; exact ⟨fun _ => hz, fun _ => rfl⟩
    unfold fX10_lowest_J15_6
    refine wp_for n (fun (i : Nat) (s : Int32 × KS) => s.1 = nI i ∧ i ≤ zl S R r x y ∧ FR c11 N s.2) (fun i s rec hi hI hrec => ?_) (by omega) (Nat.zero_le _) ⟨rfl, Nat.zero_le _, FR.rf⟩
    obtain ⟨v, N1⟩ := s
    obtain ⟨hv, h1, hF⟩ := hI
    have hv : v = nI i := hv
    subst hv
    have hF1 : FR c11 N N1 := hF
    rw [fX10_lowest_L20_u]
    rcases Nat.lt_or_ge i n with hlt | hge
    · refine wp_neg (nI_ge hlt (by omega)) ?_
      have hS1 : STG N1 S := fun k hk => by rw [hF1.1 6 (by decide)]; exact hS k hk
      refine wp_bd2 (wp_mono (makes_wp (hR.fr hF1 (by decide)) hr hm hO hS1 hx hy (by omega)) ?_)
      rintro ⟨v, N2⟩ ⟨hv, hF2⟩
      have hv : v = bI (mk S R r x y i) := hv
      subst hv
      have hG2 : FR c11 N N2 := hF1.tr hF2
      have hzi := (hzn i (by omega)).mpr hlt
      cases hm : mk S R r x y i
      · refine wp_pos rfl ?_
        simp (disch := omega) only [li0, li1, li2, li3, li4, li5, li6, li8, li9, li10, li11, li20, li21, li24, li32, li33, li36, li37, li40, li43, li45, li48, li53, li54, li57, li59, li60, li61, li63, li84, li97, li100, li102, li114, li120, li122, li216, li217, li257, li300, li1296, li1799, li2056, nI_add, pk_mul, nI_subN, pk_div, jremN, nI_leI, nI_ltI, nI_eq, nI_clamp, inb_N, if_pos, if_neg, if_true, if_false, nm, jn, bd2, Option.bind_some]
        refine hrec _ hlt ⟨rfl, ?_, hG2⟩
        rcases Nat.lt_or_ge i (zl S R r x y) with q | q
        · exact q
        · exfalso
          have e : zl S R r x y = i := by omega
          have h2 := (zl_mk (S := S) (R := R) (r := r) (x := x) (y := y) (by omega)).2
          rw [e, hm] at h2
          exact absurd h2 (by decide)
      · refine wp_neg (show ¬ bI true = 0 by decide) (wp_some ⟨?_, hG2⟩)
        have e : zl S R r x y = i := by
          rcases Nat.lt_or_ge i (zl S R r x y) with q | q
          · have := fa_first_no (fun z => zin R r z && mk S R r x y z) 6 i q
            simp only [hm, hzi] at this
            exact absurd this (by decide)
          · omega
        rw [e, if_pos (by omega)]
    · have : i = n := by omega
      subst this
      refine wp_pos (nI_le (Nat.le_refl _) (by omega)) ?_
      unfold fX10_lowest_X20
      refine wp_some ⟨?_, hF1⟩
      have hzz : ¬ zl S R r x y < 6 := fun hz => by
        have h2 := (hzn _ hz).mp (zl_mk hz).1
        omega
      rw [if_neg hzz]
      rfl
  cases hzh : zhas R r
  · exact wp_pos rfl (key 1 (by rw [hzh]; rfl))
  · exact wp_neg (by decide) (key 6 (by rw [hzh]; rfl))
theorem ff_t {p : Nat → Bool} {n t : Nat} (h : t ≤ fa_first p n) (hp : p t = true) : fa_first p n = t := by
  rcases Nat.lt_or_ge t (fa_first p n) with q | q
  · have := fa_first_no p n t q
    rw [hp] at this
    exact absurd this (by decide)
  · omega
theorem ff_f {p : Nat → Bool} {n t : Nat} (h : t ≤ fa_first p n) (ht : t < n) (hp : p t = false) : t + 1 ≤ fa_first p n := by
  rcases Nat.lt_or_ge t (fa_first p n) with q | q
  · exact q
  · have e : fa_first p n = t := by omega
    have := fa_first_yes p n (by omega)
    rw [e, hp] at this
    exact absurd this (by decide)
abbrev cg : Nat → Prop := fun q => q = 7 ∨ q = 8 ∨ q = 11
/-- what by and with say of k behind the first loop -/
def GK (N N1 : KS) (X : DX) (R : RS) (lay : Nat → Nat) (l k : Nat) : Prop :=
  if X.1 k then N1.1 7 k = N.1 7 k ∧ N1.1 8 k = N.1 8 k
  else if nw X.1 R lay l k then N1.1 7 k = nI (nwr X R lay l k) ∧ N1.1 8 k = nI (nwz X R lay l k)
  else N1.1 7 k = -nI 1 ∧ N1.1 8 k = -nI 1
theorem goes1_wp {X : DX} {A : Nat → Nat} {l : Nat} {P : Int32 × KS → Prop} {k5 : Int32 × KS → Option (Int32 × KS)} (hn : N.1 1 216 = nI R.1) (hn10 : R.1 ≤ 10) (hR : MB (N.1 1) R.1 R) (hO : ∀ r, r < R.1 → OK1 R r) (hA : LR N A) (hA5 : ∀ q, q < 6 → A q ≤ 5) (hl : l < 6) (hX : RX N X)
    (hk : ∀ N1, (∀ k, k < 216 → GK N N1 X R A l k) → FR cg N N1 → wp (k5 (nI (nws R A l X), N1)) P) : wp (lp (fX10_goes_L5 (nI l)) k5 1000000 (0, 0, N)) P := by
  refine wp_for 216 (fun (k : Nat) (s : Int32 × Int32 × KS) => s.1 = nI (fb_ct (nw X.1 R A l) k) ∧ s.2.1 = nI k ∧ (∀ q, q < k → GK N s.2.2 X R A l q) ∧ (∀ q, k ≤ q → s.2.2.1 7 q = N.1 7 q ∧ s.2.2.1 8 q = N.1 8 q) ∧ FR cg N s.2.2) (fun k s rec hk6 hI hrec => ?_) (by decide) (Nat.zero_le _) ⟨rfl, rfl, fun q h => absurd h (Nat.not_lt_zero _), fun _ _ => ⟨rfl, rfl⟩, FR.rf⟩
  obtain ⟨v, w, N1⟩ := s
  obtain ⟨hv, hw, hG, hH, hF⟩ := hI
  have hv : v = nI (fb_ct (nw X.1 R A l) k) := hv
  subst hv
  have hw : w = nI k := hw
  subst hw
  have hF1 : FR cg N N1 := hF
  have hH1 : ∀ q, k ≤ q → N1.1 7 q = N.1 7 q ∧ N1.1 8 q = N.1 8 q := hH
  have hG1 : ∀ q, q < k → GK N N1 X R A l q := hG
  rw [fX10_goes_L5_u]
  rcases Nat.lt_or_ge k 216 with hlt | hge
  · have hXk := hX k hlt
    have hst := stg_lt hX.stg hlt
    have e6 : ∀ N2, FR cg N N2 → N2.1 6 = N.1 6 := fun N2 h => h.1 6 (by decide)
    have e1 : ∀ N2, FR cg N N2 → N2.1 1 = N.1 1 := fun N2 h => h.1 1 (by decide)
    have e5 : ∀ N2, FR cg N N2 → N2.1 5 = N.1 5 := fun N2 h => h.1 5 (by decide)
    have hct : fb_ct (nw X.1 R A l) k ≤ 216 := Nat.le_trans (fb_ct_le _ _) (by omega)
    -- the end of the inner loop
    have fin : ∀ N2, FR cg N N2 → (∀ q, q < k → GK N N2 X R A l q) → (∀ q, k < q → N2.1 7 q = N.1 7 q ∧ N2.1 8 q = N.1 8 q) → GK N N2 X R A l k → wp (fX10_goes_X51 (nI (fb_ct (nw X.1 R A l) k)) (nI k) rec N2) P := by
      intro N2 hF2 hq1 hq2 hgk
      unfold fX10_goes_X51
      simp (disch := omega) only [li0, li1, li2, li3, li4, li5, li6, li8, li9, li10, li11, li20, li21, li24, li32, li33, li36, li37, li40, li43, li45, li48, li53, li54, li57, li59, li60, li61, li63, li84, li97, li100, li102, li114, li120, li122, li216, li217, li257, li300, li1296, li1799, li2056, nI_add, pk_mul, nI_subN, pk_div, jremN, nI_leI, nI_ltI, nI_eq, nI_clamp, inb_N, if_pos, if_neg, if_true, if_false, nm, jn, bd2, Option.bind_some, e6 N2 hF2]
      have hgk2 := hgk
      have hall : ∀ q, q < k + 1 → GK N N2 X R A l q := fun q hq => by
        rcases Nat.lt_or_ge q k with z | z
        · exact hq1 q z
        · have : q = k := by omega
          rw [this]; exact hgk2
      have hrest : ∀ q, k + 1 ≤ q → N2.1 7 q = N.1 7 q ∧ N2.1 8 q = N.1 8 q := fun q hq => hq2 q (by omega)
      unfold GK at hgk
      have hctS : fb_ct (nw X.1 R A l) (k + 1) = fb_ct (nw X.1 R A l) k + (if nw X.1 R A l k then 1 else 0) := rfl
      cases hs : X.1 k
      · rw [hs] at hgk
        simp only [Bool.false_eq_true, if_false] at hgk
        refine wp_neg (fun z => by rw [hst.2.mp z] at hs; exact absurd hs (by decide)) ?_
        cases hw : nw X.1 R A l k
        · rw [hw] at hgk hctS
          simp only [Bool.false_eq_true, if_false] at hgk hctS
          refine wp_pos (by rw [hgk.1]; exact neg1_lt) ?_
          exact hrec _ hlt ⟨by rw [hctS], rfl, hall, hrest, hF2⟩
        · rw [hw] at hgk hctS
          simp only [if_true] at hgk hctS
          have hr := (nw_lay hw).2.1
          refine wp_neg (by rw [hgk.1]; exact nI_pos (show nwr X R A l k < 2 ^ 31 by unfold nwr; omega)) ?_
          exact hrec _ hlt ⟨by rw [hctS], rfl, hall, hrest, hF2⟩
      · refine wp_pos (hst.2.mpr hs) ?_
        have hw : nw X.1 R A l k = false := by unfold nw; rw [hs]; rfl
        rw [hw] at hctS
        exact hrec _ hlt ⟨by rw [hctS]; rfl, rfl, hall, hrest, hF2⟩
    have hb : ∀ v14 : Int32, v14 = N.1 7 k → wp (fX10_goes_J47_33 (nI l) (nI (fb_ct (nw X.1 R A l) k)) (nI k) N1 rec (nI (k / 36)) v14) P := by
      intro v14 hv14
      unfold fX10_goes_J47_33
      refine wp_pos ((inb_N (by omega)).mpr hlt) (wp_nm ?_)
      rw [nI_clamp (by omega)]
      generalize hN2 : kset N1 7 k v14 = N2
      have hF2 : FR cg N N2 := by rw [← hN2]; exact hF1.set (Or.inl rfl)
      have h2k : N2.1 7 k = N.1 7 k ∧ N2.1 8 k = N.1 8 k := by
        rw [← hN2]
        exact ⟨by rw [kset_c, if_pos rfl, hv14], by rw [kset_nc (by decide)]; exact (hH1 k (Nat.le_refl _)).2⟩
      have h2r : ∀ q, k < q → N2.1 7 q = N.1 7 q ∧ N2.1 8 q = N.1 8 q := fun q hq => by
        rw [← hN2, kset_c, if_neg (by omega), kset_nc (by decide)]
        exact hH1 q (by omega)
      have h2g : ∀ q, q < k → GK N N2 X R A l q := fun q hq => by
        have h := hG1 q hq
        unfold GK at h ⊢
        rw [← hN2, kset_c, if_neg (show ¬ q = k by omega), kset_nc (by decide)]
        exact h
      -- the rules, one by one
      refine wp_for R.1 (fun (t : Nat) (s : Int32 × KS) => s.1 = nI t ∧ FR cg N s.2 ∧ (∀ q, q < k → GK N s.2 X R A l q) ∧ (∀ q, k < q → s.2.1 7 q = N.1 7 q ∧ s.2.1 8 q = N.1 8 q) ∧ (if X.1 k then s.2.1 7 k = N.1 7 k ∧ s.2.1 8 k = N.1 8 k else (t ≤ rl X.1 R A l k ∧ s.2.1 7 k = -nI 1 ∧ s.2.1 8 k = -nI 1) ∨ (nw X.1 R A l k = true ∧ s.2.1 7 k = nI (nwr X R A l k) ∧ s.2.1 8 k = nI (nwz X R A l k)))) (fun t s rec2 ht hI hrec2 => ?_) (by omega) (Nat.zero_le _) ⟨rfl, hF2, h2g, h2r, ?_⟩
      · obtain ⟨v, N3⟩ := s
        obtain ⟨hv, hF3, h3g, h3r, h3k⟩ := hI
        have hv : v = nI t := hv
        subst hv
        have hF3' : FR cg N N3 := hF3
        have h3g' : ∀ q, q < k → GK N N3 X R A l q := h3g
        have h3r' : ∀ q, k < q → N3.1 7 q = N.1 7 q ∧ N3.1 8 q = N.1 8 q := h3r
        have h3k' : if X.1 k then N3.1 7 k = N.1 7 k ∧ N3.1 8 k = N.1 8 k else (t ≤ rl X.1 R A l k ∧ N3.1 7 k = -nI 1 ∧ N3.1 8 k = -nI 1) ∨ (nw X.1 R A l k = true ∧ N3.1 7 k = nI (nwr X R A l k) ∧ N3.1 8 k = nI (nwz X R A l k)) := h3k
        rw [fX10_goes_L51_u]
        have hmn : N3.1 1 216 = nI R.1 := by rw [e1 N3 hF3']; exact hn
        refine wp_pos (by decide) ?_
        rw [show (216 : Int32).toNatClampNeg = 216 from rfl, hmn]
        rcases Nat.lt_or_ge t R.1 with htl | htg
        · refine wp_neg (nI_ge htl (by omega)) ?_
          refine wp_pos ((inb_N (by omega)).mpr hlt) ?_
          simp (disch := omega) only [nI_clamp, e6 N3 hF3']
          cases hs : X.1 k
          · rw [hs] at h3k'
            simp only [Bool.false_eq_true, if_false] at h3k'
            refine wp_neg (fun z => by rw [hst.2.mp z] at hs; exact absurd hs (by decide)) ?_
            refine wp_pos ((inb_N (by omega)).mpr hlt) ?_
            rcases h3k' with ⟨hle, h7, h8⟩ | ⟨hnw, h7, h8⟩
            · refine wp_neg (by rw [h7]; exact neg1_le) ?_
              have hO1 := hO t htl
              have hR3 := hR.fr hF3' (by decide)
              rw [rhead_eq hR3 htl hn10]
              refine wp_bind (wp_some ?_)
              have notrq : rq X.1 R A l k t = false → ∀ N4, FR cg N N4 → (∀ q, q < k → GK N N4 X R A l q) → (∀ q, k < q → N4.1 7 q = N.1 7 q ∧ N4.1 8 q = N.1 8 q) → N4.1 7 k = -nI 1 → N4.1 8 k = -nI 1 → wp (rec2 (nI (t + 1), N4)) P := by
                intro hrq N4 hF4 h4g h4r h47 h48
                refine hrec2 _ htl ⟨rfl, hF4, h4g, h4r, ?_⟩
                rw [hs]
                simp only [Bool.false_eq_true, if_false]
                exact Or.inl ⟨ff_f hle htl hrq, h47, h48⟩
              have hhd := hO1.1
              have hk36 : k / 36 < 6 := by omega
              by_cases hh : R.2.1 t = k / 36
              · refine wp_pos (congrArg nI hh) ?_
                refine wp_pos ((inb_N (by omega)).mpr hk36) ?_
                simp (disch := omega) only [nI_clamp, e5 N3 hF3', hA _ hk36]
                have hA5' := hA5 _ hk36
                by_cases hll : A (k / 36) = l
                · refine wp_pos (congrArg nI hll) ?_
                  have hS3 : STG N3 X.1 := fun q hq => by rw [e6 N3 hF3']; exact hX.stg q hq
                  simp (disch := omega) only [li0, li1, li2, li3, li4, li5, li6, li8, li9, li10, li11, li20, li21, li24, li32, li33, li36, li37, li40, li43, li45, li48, li53, li54, li57, li59, li60, li61, li63, li84, li97, li100, li102, li114, li120, li122, li216, li217, li257, li300, li1296, li1799, li2056, nI_add, pk_mul, nI_subN, pk_div, jremN, nI_leI, nI_ltI, nI_eq, nI_clamp, inb_N, if_pos, if_neg, if_true, if_false, nm, jn, bd2, Option.bind_some]
                  refine wp_bind (wp_mono (lowest_wp hR3 htl hn10 hO1 hS3 (show k / 6 % 6 < 6 by omega) (show k % 6 < 6 by omega)) ?_)
                  rintro ⟨v29, N4⟩ ⟨hv29, hF4⟩
                  have hF4' : FR cg N N4 := hF3'.tr (hF4.wk (fun q hq => Or.inr (Or.inr hq)))
                  have hv29 : v29 = _ := hv29
                  have e47 : N4.1 7 = N3.1 7 := hF4.1 7 (by decide)
                  have e48 : N4.1 8 = N3.1 8 := hF4.1 8 (by decide)
                  have step : ∀ v30 : Int32, wp (rec2 (nI (t + 1), kset (kset N4 7 k v30) 8 k v29)) P → wp (fX10_goes_J144_135 (nI k) (nI t) rec2 v29 N4 v30) P := by
                    intro v30 h
                    unfold fX10_goes_J144_135
                    refine wp_pos ((inb_N (by omega)).mpr hlt) (wp_nm (wp_pos ((inb_N (by omega)).mpr hlt) (wp_nm (wp_nm ?_))))
                    rw [nI_clamp (show k < 2 ^ 31 by omega), li1, nI_add]
                    exact h
                  have q7 : ∀ v30 q, q ≠ k → (kset (kset N4 7 k v30) 8 k v29).1 7 q = N3.1 7 q ∧ (kset (kset N4 7 k v30) 8 k v29).1 8 q = N3.1 8 q := by
                    intro v30 q hq
                    rw [kset_nc (by decide), kset_c, if_neg hq, kset_c, if_neg hq, kset_nc (by decide), e47, e48]
                    exact ⟨rfl, rfl⟩
                  have q8 : ∀ v30, (kset (kset N4 7 k v30) 8 k v29).1 7 k = v30 ∧ (kset (kset N4 7 k v30) 8 k v29).1 8 k = v29 := by
                    intro v30
                    rw [kset_nc (by decide), kset_c, if_pos rfl, kset_c, if_pos rfl]
                    exact ⟨rfl, rfl⟩
                  have qg : ∀ v30 q, q < k → GK N (kset (kset N4 7 k v30) 8 k v29) X R A l q := by
                    intro v30 q hq
                    have h := h3g' q hq
                    have h2 := q7 v30 q (by omega)
                    unfold GK at h ⊢
                    rw [h2.1, h2.2]
                    exact h
                  have qr : ∀ v30 q, k < q → (kset (kset N4 7 k v30) 8 k v29).1 7 q = N.1 7 q ∧ (kset (kset N4 7 k v30) 8 k v29).1 8 q = N.1 8 q := by
                    intro v30 q hq
                    have h2 := q7 v30 q (by omega)
                    rw [h2.1, h2.2]
                    exact h3r' q hq
                  have qF : ∀ v30, FR cg N (kset (kset N4 7 k v30) 8 k v29) := fun v30 => (hF4'.set (Or.inl rfl)).set (Or.inr (Or.inl rfl))
                  by_cases hz : zl X.1 R t (k / 6 % 6) (k % 6) < 6
                  · have hrq : rq X.1 R A l k t = true := by
                      unfold rq
                      rw [hh, hll, decide_eq_true hz, beq_self_eq_true, beq_self_eq_true]; rfl
                    have hrl : rl X.1 R A l k = t := ff_t hle hrq
                    have hnw : nw X.1 R A l k = true := by unfold nw; rw [hs, hrl, decide_eq_true htl]; rfl
                    rw [if_pos hz] at hv29
                    refine wp_pos (by rw [hv29]; exact nI_pos' (by omega)) (step _ (hrec2 _ htl ⟨rfl, qF _, qg _, qr _, ?_⟩))
                    rw [hs]
                    simp only [Bool.false_eq_true, if_false]
                    refine Or.inr ⟨hnw, ?_, ?_⟩
                    · show (kset (kset N4 7 k (nI t)) 8 k v29).1 7 k = _
                      rw [(q8 _).1]
                      unfold nwr
                      rw [hrl]
                    · show (kset (kset N4 7 k (nI t)) 8 k v29).1 8 k = _
                      rw [(q8 _).2, hv29]
                      unfold nwz nwr
                      rw [hrl]
                  · have hrq : rq X.1 R A l k t = false := by
                      unfold rq
                      rw [decide_eq_false hz, Bool.and_false]
                    rw [if_neg hz] at hv29
                    refine wp_neg (by rw [hv29]; exact neg1_le) (step _ (notrq hrq _ (qF _) (qg _) (qr _) ?_ ?_))
                    · rw [(q8 _).1]
                    · rw [(q8 _).2, hv29]
                · refine wp_neg (fun z => hll ((nI_eq (by omega) (by omega)).mp z)) ?_
                  simp (disch := omega) only [li0, li1, li2, li3, li4, li5, li6, li8, li9, li10, li11, li20, li21, li24, li32, li33, li36, li37, li40, li43, li45, li48, li53, li54, li57, li59, li60, li61, li63, li84, li97, li100, li102, li114, li120, li122, li216, li217, li257, li300, li1296, li1799, li2056, nI_add, pk_mul, nI_subN, pk_div, jremN, nI_leI, nI_ltI, nI_eq, nI_clamp, inb_N, if_pos, if_neg, if_true, if_false, nm, jn, bd2, Option.bind_some]
                  refine notrq ?_ N3 hF3' h3g' h3r' h7 h8
                  unfold rq
                  rw [show (A (k / 36) == l) = false from beq_eq_false_iff_ne.mpr hll, Bool.and_false, Bool.false_and]
              · refine wp_neg (fun z => hh ((nI_eq (by omega) (by omega)).mp z)) ?_
                simp (disch := omega) only [li0, li1, li2, li3, li4, li5, li6, li8, li9, li10, li11, li20, li21, li24, li32, li33, li36, li37, li40, li43, li45, li48, li53, li54, li57, li59, li60, li61, li63, li84, li97, li100, li102, li114, li120, li122, li216, li217, li257, li300, li1296, li1799, li2056, nI_add, pk_mul, nI_subN, pk_div, jremN, nI_leI, nI_ltI, nI_eq, nI_clamp, inb_N, if_pos, if_neg, if_true, if_false, nm, jn, bd2, Option.bind_some]
                refine notrq ?_ N3 hF3' h3g' h3r' h7 h8
                unfold rq
                rw [show (R.2.1 t == k / 36) = false from beq_eq_false_iff_ne.mpr hh, Bool.false_and, Bool.false_and]
            · have hr := (nw_lay hnw).2.1
              refine wp_pos (by rw [h7]; exact nI_pos' (show nwr X R A l k < 2 ^ 31 by unfold nwr; omega)) (fin N3 hF3' h3g' h3r' ?_)
              unfold GK
              rw [hs, hnw]
              simp only [Bool.false_eq_true, if_false, if_true]
              exact ⟨h7, h8⟩
          · rw [hs] at h3k'
            simp only [if_true] at h3k'
            refine wp_pos (hst.2.mpr hs) (fin N3 hF3' h3g' h3r' ?_)
            unfold GK
            rw [hs, if_pos rfl]
            exact h3k'
        · have : t = R.1 := by omega
          subst this
          refine wp_pos (nI_le (Nat.le_refl _) (by omega)) (fin N3 hF3' h3g' h3r' ?_)
          unfold GK
          cases hs : X.1 k
          · rw [hs] at h3k'
            simp only [Bool.false_eq_true, if_false] at h3k' ⊢
            rcases h3k' with ⟨hle, h78⟩ | ⟨hnw, h78⟩
            · have hnw : nw X.1 R A l k = false := by unfold nw; rw [decide_eq_false (by omega), Bool.and_false]
              rw [hnw]
              simp only [Bool.false_eq_true, if_false]
              exact h78
            · rw [hnw, if_pos rfl]; exact h78
          · rw [hs] at h3k'
            simp only [if_true] at h3k' ⊢
            exact h3k'
      · show if X.1 k then N2.1 7 k = N.1 7 k ∧ N2.1 8 k = N.1 8 k else _
        cases hs : X.1 k
        · simp only [Bool.false_eq_true, if_false]
          have hst0 : ¬ 0 < X.2.1 k := fun z => by rw [hXk.2.2.2.2 z] at hs; exact absurd hs (by decide)
          refine Or.inl ⟨Nat.zero_le _, ?_, ?_⟩
          · show N2.1 7 k = _
            rw [h2k.1, hXk.2.1, if_neg hst0]
          · show N2.1 8 k = _
            rw [h2k.2, hXk.2.2.1, if_neg hst0]
        · simp only [if_true]
          exact h2k
    refine wp_neg (nI_ge hlt (by decide)) (wp_nm ?_)
    simp (disch := omega) only [nI_clamp, li36, pk_div, e6 N1 hF1]
    refine wp_pos ((inb_N (by omega)).mpr hlt) (wp_jn ?_)
    cases hs : X.1 k
    · refine wp_neg (fun z => by rw [hst.2.mp z] at hs; exact absurd hs (by decide)) (hb _ ?_)
      have hst0 : ¬ 0 < X.2.1 k := fun z => by rw [hXk.2.2.2.2 z] at hs; exact absurd hs (by decide)
      rw [hXk.2.1, if_neg hst0]
      rfl
    · exact wp_pos (hst.2.mpr hs) (wp_pos ((inb_N (by omega)).mpr hlt) (hb _ (hH1 k (Nat.le_refl _)).1))
  · have : k = 216 := by omega
    subst this
    exact wp_pos (nI_le (Nat.le_refl _) (by decide)) (hk N1 hG1 hF1)
end RDR
