/-! ===== the reference: ways, what rules make, needs ===== -/
section RQ2
variable {N : KS} {R : RS} {X : DX} {A : Nat → Nat} {b : Nat} {T S : Nat → Bool}
theorem STG.fr {N' : KS} {P : Nat → Prop} (h : STG N S) (k : FR P N N') (h6 : ¬ P 6) : STG N' S := fun q hq => by rw [k.1 6 h6]; exact h q hq
theorem ct_cut {p : Nat → Bool} {n m : Nat} (h : n ≤ m) (h0 : ∀ k, k < m → n ≤ k → p k = false) : fb_ct p m = fb_ct p n := by
  obtain ⟨d, rfl⟩ : ∃ d, m = n + d := ⟨m - n, by omega⟩
  have e := fb_ct_split p n d
  have z : fb_ct (fun k => p (n + k)) d = 0 := fb_ct_zero.mpr (fun k hk => h0 (n + k) (by omega) (by omega))
  omega
theorem rwb_wp (hR : MB (N.1 1) R.1 R) (hO : OKR R) {r x y : Nat} (hr : r < R.1) (hS : STG N S) (hx : x < 6) (hy : y < 6) : wp (fX10_waysBy N (nI r) (nI x) (nI y)) (fun a => a.1 = nI (fb_ct (fun z => zin R r z && mk S R r x y z) 6) ∧ FR c11 N a.2) := by
  have hn10 := hO.1
  have hO1 := hO.ok r hr
  unfold fX10_waysBy
  rw [show (2 : Int32) = nI 2 from rfl, rrul_eq hR hr hn10 hO1 (by decide), rhl_2]
  refine wp_bind (wp_some (wp_jn ?_))
  have key : ∀ n, n = (if zhas R r then 6 else 1) → wp (fX10_waysBy_J18_9 N (nI r) (nI x) (nI y) (nI n)) (fun a => a.1 = nI (fb_ct (fun z => zin R r z && mk S R r x y z) 6) ∧ FR c11 N a.2) := by
    intro n hn
    have hn6 : n ≤ 6 := by rw [hn]; split <;> omega
    have hzn : ∀ z, z < 6 → (zin R r z = true ↔ z < n) := by
      intro z hz
      unfold zin
      rw [hn]
      cases zhas R r
      · rw [Bool.false_or, beq_iff_eq, if_neg (by decide)]; omega
      · rw [Bool.true_or, if_pos rfl]; exact ⟨fun _ => hz, fun _ => rfl⟩
    have e6 : fb_ct (fun z => zin R r z && mk S R r x y z) 6 = fb_ct (fun z => zin R r z && mk S R r x y z) n := ct_cut hn6 (fun z hz hnz => by
      cases h1 : zin R r z
      · rfl
      · have := (hzn z hz).mp h1; omega)
    rw [e6]
    unfold fX10_waysBy_J18_9
    refine wp_for n (fun (i : Nat) (s : Int32 × Int32 × KS) => s.1 = nI (fb_ct (fun z => zin R r z && mk S R r x y z) i) ∧ s.2.1 = nI i ∧ FR c11 N s.2.2) (fun i s rec hi hI hrec => ?_) (by omega) (Nat.zero_le _) ⟨rfl, rfl, FR.rf⟩
    obtain ⟨v, w, N1⟩ := s
    obtain ⟨hv, hw, hF⟩ := hI
    have hv : v = nI (fb_ct (fun z => zin R r z && mk S R r x y z) i) := hv
    subst hv
    have hw : w = nI i := hw
    subst hw
    have hF1 : FR c11 N N1 := hF
    rw [fX10_waysBy_L23_u]
    rcases Nat.lt_or_ge i n with hlt | hge
    · refine wp_neg (nI_ge hlt (by omega)) ?_
      refine wp_bd2 (wp_mono (makes_wp (hR.fr hF1 (by decide)) hr hn10 hO1 (hS.fr hF1 (by decide)) hx hy (show i < 6 by omega)) ?_)
      rintro ⟨v, N2⟩ ⟨hv, hF2⟩
      have hv : v = bI (mk S R r x y i) := hv
      subst hv
      have hG2 : FR c11 N N2 := hF1.tr hF2
      have hzi := (hzn i (by omega)).mpr hlt
      have es : fb_ct (fun z => zin R r z && mk S R r x y z) (i + 1) = fb_ct (fun z => zin R r z && mk S R r x y z) i + (if (zin R r i && mk S R r x y i) = true then 1 else 0) := rfl
      rw [hzi, Bool.true_and] at es
      cases hm : mk S R r x y i
      · rw [hm, if_neg (by decide)] at es
        refine wp_pos rfl (wp_nm (wp_nm ?_))
        rw [li0, li1, nI_add, nI_add, ← es]
        exact hrec _ hlt ⟨rfl, rfl, hG2⟩
      · rw [hm, if_pos rfl] at es
        refine wp_neg (show ¬ bI true = 0 by decide) (wp_nm (wp_nm ?_))
        rw [li1, nI_add, nI_add, ← es]
        exact hrec _ hlt ⟨rfl, rfl, hG2⟩
    · have : i = n := by omega
      subst this
      refine wp_pos (nI_le (Nat.le_refl _) (by omega)) ?_
      unfold fX10_waysBy_X23
      exact wp_some ⟨rfl, hF1⟩
  cases hzh : zhas R r
  · exact wp_pos rfl (key 1 (by rw [hzh]; rfl))
  · exact wp_neg (by decide) (key 6 (by rw [hzh]; rfl))
theorem rways_wp (hn : N.1 1 216 = nI R.1) (hR : MB (N.1 1) R.1 R) (hO : OKR R) (hS : STG N S) {q x y : Nat} (hq : q < 6) (hx : x < 6) (hy : y < 6) : wp (lp (fX10_ways_L37 (nI q) (nI x) (nI y)) fX10_ways_X37 1000000 (0, 0, N)) (fun a => a.1 = nI (wy S R (36 * q + 6 * x + y)) ∧ FR c11 N a.2) := by
  have hn10 := hO.1
  have d1 : (36 * q + 6 * x + y) / 36 = q := by omega
  have d2 : (36 * q + 6 * x + y) / 6 % 6 = x := by omega
  have d3 : (36 * q + 6 * x + y) % 6 = y := by omega
  refine wp_for R.1 (fun (i : Nat) (s : Int32 × Int32 × KS) => s.1 = nI (fb_sm (wyr S R (36 * q + 6 * x + y)) i) ∧ s.2.1 = nI i ∧ FR c11 N s.2.2) (fun i s rec hi hI hrec => ?_) (by omega) (Nat.zero_le _) ⟨rfl, rfl, FR.rf⟩
  obtain ⟨v, w, N1⟩ := s
  obtain ⟨hv, hw, hF⟩ := hI
  have hv : v = nI (fb_sm (wyr S R (36 * q + 6 * x + y)) i) := hv
  subst hv
  have hw : w = nI i := hw
  subst hw
  have hF1 : FR c11 N N1 := hF
  rw [fX10_ways_L37_u]
  refine wp_pos (by decide) ?_
  have hn1 : N1.1 1 216 = nI R.1 := by rw [hF1.1 1 (by decide)]; exact hn
  rw [show (216 : Int32).toNatClampNeg = 216 by decide, hn1]
  rcases Nat.lt_or_ge i R.1 with hlt | hge
  · refine wp_neg (nI_ge hlt (by omega)) ?_
    have hh := (hO.ok i hlt).1
    rw [rhead_eq (hR.fr hF1 (by decide)) hlt hn10]
    refine wp_bind (wp_some ?_)
    have es : fb_sm (wyr S R (36 * q + 6 * x + y)) (i + 1) = fb_sm (wyr S R (36 * q + 6 * x + y)) i + wyr S R (36 * q + 6 * x + y) i := rfl
    have ew : wyr S R (36 * q + 6 * x + y) i = if R.2.1 i = q then fb_ct (fun z => zin R i z && mk S R i x y z) 6 else 0 := by unfold wyr; rw [d1, d2, d3]
    rw [ew] at es
    by_cases e : R.2.1 i = q
    · refine wp_pos (congrArg nI e) ?_
      refine wp_bd2 (wp_mono (rwb_wp (hR.fr hF1 (by decide)) hO hlt (hS.fr hF1 (by decide)) hx hy) ?_)
      rintro ⟨v, N2⟩ ⟨hv, hF2⟩
      have hv : v = nI (fb_ct (fun z => zin R i z && mk S R i x y z) 6) := hv
      subst hv
      refine wp_nm (wp_nm ?_)
      rw [li1, nI_add, nI_add]
      refine hrec _ hlt ⟨?_, rfl, hF1.tr hF2⟩
      rw [if_pos e] at es
      exact (congrArg nI es).symm
    · refine wp_neg (fun z => e ((nI_eq (by omega) (by omega)).mp z)) (wp_nm (wp_nm ?_))
      rw [li0, li1, nI_add, nI_add]
      refine hrec _ hlt ⟨?_, rfl, hF1⟩
      rw [if_neg e] at es
      exact (congrArg nI es).symm
  · have : i = R.1 := by omega
    subst this
    refine wp_pos (nI_le (Nat.le_refl _) (by omega)) ?_
    unfold fX10_ways_X37
    exact wp_some ⟨rfl, hF1⟩
theorem mks_p {r : Nat} (hr : OK1 R r) : fb_ct (fun k => decide (zl S R r (k / 6 % 6) (k % 6) < 6) && decide (k / 36 = R.2.1 r)) 216 = mks S R r := by
  rw [szr_p (fun k => decide (zl S R r (k / 6 % 6) (k % 6) < 6)) (R.2.1 r) hr.1]
  unfold szr mks
  have hh := hr.1
  refine fb_ct_cong (fun k hk => ?_)
  show decide (zl S R r ((36 * R.2.1 r + k) / 6 % 6) ((36 * R.2.1 r + k) % 6) < 6) = _
  rw [show (36 * R.2.1 r + k) / 6 % 6 = k / 6 by omega, show (36 * R.2.1 r + k) % 6 = k % 6 by omega]
theorem rmks_wp (hR : MB (N.1 1) R.1 R) (hO : OKR R) (hS : STG N S) {r : Nat} (hr : r < R.1) : wp (fX10_factsBy N (nI r) 1) (fun a => a.1 = nI (mks S R r) ∧ FR c11 N a.2) := by
  have hn10 := hO.1
  have hO1 := hO.ok r hr
  have hh := hO1.1
  rw [← mks_p (S := S) hO1]
  unfold fX10_factsBy
  refine wp_for 216 (fun (i : Nat) (s : Int32 × Int32 × KS) => s.1 = nI (fb_ct (fun k => decide (zl S R r (k / 6 % 6) (k % 6) < 6) && decide (k / 36 = R.2.1 r)) i) ∧ s.2.1 = nI i ∧ FR c11 N s.2.2) (fun i s rec hi hI hrec => ?_) (by decide) (Nat.zero_le _) ⟨rfl, rfl, FR.rf⟩
  obtain ⟨v, w, N1⟩ := s
  obtain ⟨hv, hw, hF⟩ := hI
  have hv : v = nI (fb_ct (fun k => decide (zl S R r (k / 6 % 6) (k % 6) < 6) && decide (k / 36 = R.2.1 r)) i) := hv
  subst hv
  have hw : w = nI i := hw
  subst hw
  have hF1 : FR c11 N N1 := hF
  rw [fX10_factsBy_L5_u]
  rcases Nat.lt_or_ge i 216 with hlt | hge
  · refine wp_neg (nI_ge hlt (by decide)) ?_
    rw [rhead_eq (hR.fr hF1 (by decide)) hr hn10]
    refine wp_bind (wp_some (wp_jn ?_))
    have e1 : nI i / 36 = nI (i / 36) := by rw [li36, pk_div (by omega) (by omega) (by omega)]
    have e2 : nI i / 6 = nI (i / 6) := by rw [li6, pk_div (by omega) (by omega) (by omega)]
    have e3 : jrem (nI (i / 6)) 6 = nI (i / 6 % 6) := by rw [li6, jremN (by omega) (by omega) (by omega)]
    have e4 : jrem (nI i) 6 = nI (i % 6) := by rw [li6, jremN (by omega) (by omega) (by omega)]
    rw [e1]
    have es : fb_ct (fun k => decide (zl S R r (k / 6 % 6) (k % 6) < 6) && decide (k / 36 = R.2.1 r)) (i + 1) = fb_ct (fun k => decide (zl S R r (k / 6 % 6) (k % 6) < 6) && decide (k / 36 = R.2.1 r)) i + (if (decide (zl S R r (i / 6 % 6) (i % 6) < 6) && decide (i / 36 = R.2.1 r)) = true then 1 else 0) := rfl
    have next : ∀ (b : Bool) N2, FR c11 N N2 → b = (decide (zl S R r (i / 6 % 6) (i % 6) < 6) && decide (i / 36 = R.2.1 r)) → wp (fX10_factsBy_J97_34 (nI (fb_ct (fun k => decide (zl S R r (k / 6 % 6) (k % 6) < 6) && decide (k / 36 = R.2.1 r)) i)) (nI i) rec (bI b, N2)) (fun a => a.1 = nI (fb_ct (fun k => decide (zl S R r (k / 6 % 6) (k % 6) < 6) && decide (k / 36 = R.2.1 r)) 216) ∧ FR c11 N a.2) := by
      intro b N2 hG2 hb
      rw [← hb] at es
      rw [fX10_factsBy_J97_34]
      cases b
      · rw [if_neg (by decide)] at es
        refine wp_pos rfl (wp_nm (wp_nm ?_))
        rw [li0, li1, nI_add, nI_add, ← es]
        exact hrec _ hlt ⟨rfl, rfl, hG2⟩
      · rw [if_pos rfl] at es
        refine wp_neg (show ¬ bI true = 0 by decide) (wp_nm (wp_nm ?_))
        rw [li1, nI_add, nI_add, ← es]
        exact hrec _ hlt ⟨rfl, rfl, hG2⟩
    by_cases e : i / 36 = R.2.1 r
    · refine wp_pos (congrArg nI e) ?_
      unfold fX10_factsBy_J31_23
      refine wp_jn (wp_neg (by decide) (wp_neg (by decide) ?_))
      rw [e2, e3, e4]
      refine wp_bd2 (wp_mono (lowest_wp (hR.fr hF1 (by decide)) hr hn10 hO1 (hS.fr hF1 (by decide)) (show i / 6 % 6 < 6 by omega) (show i % 6 < 6 by omega)) ?_)
      rintro ⟨v, N2⟩ ⟨hv, hF2⟩
      have hv : v = (if zl S R r (i / 6 % 6) (i % 6) < 6 then nI (zl S R r (i / 6 % 6) (i % 6)) else -nI 1) := hv
      subst hv
      by_cases z : zl S R r (i / 6 % 6) (i % 6) < 6
      · rw [if_pos z]
        refine wp_neg (fun h => (nI_lt0 (by omega)).mp h) (next true N2 (hF1.tr hF2) ?_)
        rw [decide_eq_true z, decide_eq_true e]; rfl
      · rw [if_neg z]
        refine wp_pos neg1_lt (next false N2 (hF1.tr hF2) ?_)
        rw [decide_eq_false z]; rfl
    · refine wp_neg (fun z => e ((nI_eq (by omega) (by omega)).mp z)) ?_
      unfold fX10_factsBy_J31_23
      refine wp_jn (wp_neg (by decide) (wp_pos rfl (next false N1 hF1 ?_)))
      rw [decide_eq_false e, Bool.and_false]
  · have : i = 216 := by omega
    subst this
    refine wp_pos (nI_le (Nat.le_refl _) (by decide)) ?_
    unfold fX10_factsBy_X5
    exact wp_some ⟨rfl, hF1⟩
theorem rder_eq (hX : RX N X) (hB : XB R X b) (hR : MB (N.1 1) R.1 R) (hO : OKR R) {r : Nat} (hr : r < R.1) : wp (fX10_factsBy N (nI r) 0) (fun a => a.1 = nI (fb_ct (fun k => decide (0 < X.2.1 k) && decide (X.2.2.1 k = r)) 216) ∧ FR c11 N a.2) := by
  have hn10 := hO.1
  unfold fX10_factsBy
  refine wp_for 216 (fun (i : Nat) (s : Int32 × Int32 × KS) => s.1 = nI (fb_ct (fun k => decide (0 < X.2.1 k) && decide (X.2.2.1 k = r)) i) ∧ s.2.1 = nI i ∧ s.2.2 = N) (fun i s rec hi hI hrec => ?_) (by decide) (Nat.zero_le _) ⟨rfl, rfl, rfl⟩
  obtain ⟨v, w, N1⟩ := s
  obtain ⟨hv, hw, hF⟩ := hI
  have hv : v = nI (fb_ct (fun k => decide (0 < X.2.1 k) && decide (X.2.2.1 k = r)) i) := hv
  subst hv
  have hw : w = nI i := hw
  subst hw
  have hF1 : N1 = N := hF
  subst hF1
  rw [fX10_factsBy_L5_u]
  rcases Nat.lt_or_ge i 216 with hlt | hge
  · refine wp_neg (nI_ge hlt (by decide)) ?_
    rw [rhead_eq hR hr hn10]
    refine wp_bind (wp_some (wp_jn ?_))
    have es : fb_ct (fun k => decide (0 < X.2.1 k) && decide (X.2.2.1 k = r)) (i + 1) = fb_ct (fun k => decide (0 < X.2.1 k) && decide (X.2.2.1 k = r)) i + (if (decide (0 < X.2.1 i) && decide (X.2.2.1 i = r)) = true then 1 else 0) := rfl
    have next : ∀ (b : Bool), b = (decide (0 < X.2.1 i) && decide (X.2.2.1 i = r)) → wp (fX10_factsBy_J97_34 (nI (fb_ct (fun k => decide (0 < X.2.1 k) && decide (X.2.2.1 k = r)) i)) (nI i) rec (bI b, N1)) (fun a => a.1 = nI (fb_ct (fun k => decide (0 < X.2.1 k) && decide (X.2.2.1 k = r)) 216) ∧ FR c11 N1 a.2) := by
      intro b hb
      rw [← hb] at es
      rw [fX10_factsBy_J97_34]
      cases b
      · rw [if_neg (by decide)] at es
        refine wp_pos rfl (wp_nm (wp_nm ?_))
        rw [li0, li1, nI_add, nI_add, ← es]
        exact hrec _ hlt ⟨rfl, rfl, rfl⟩
      · rw [if_pos rfl] at es
        refine wp_neg (show ¬ bI true = 0 by decide) (wp_nm (wp_nm ?_))
        rw [li1, nI_add, nI_add, ← es]
        exact hrec _ hlt ⟨rfl, rfl, rfl⟩
    have key : ∀ v7, wp (fX10_factsBy_J31_23 (nI r) 0 (nI (fb_ct (fun k => decide (0 < X.2.1 k) && decide (X.2.2.1 k = r)) i)) (nI i) N1 rec v7) (fun a => a.1 = nI (fb_ct (fun k => decide (0 < X.2.1 k) && decide (X.2.2.1 k = r)) 216) ∧ FR c11 N1 a.2) := by
      intro v7
      unfold fX10_factsBy_J31_23
      refine wp_jn (wp_pos rfl ?_)
      have h1 := hX i hlt
      have h2 := hB i hlt
      refine wp_pos ((inb_N (by omega)).mpr hlt) ?_
      have ck : (nI i).toNatClampNeg = i := nI_clamp (by omega)
      by_cases e : 0 < X.2.1 i
      · simp only [ck, h1.1, h1.2.1, if_pos (h1.2.2.2.2 e), if_pos e]
        refine wp_neg (nI_nle e (by omega)) ?_
        refine wp_pos ((inb_N (by omega)).mpr hlt) ?_
        have h3 := (h2.2.1 e).2.1
        by_cases e2 : X.2.2.1 i = r
        · refine wp_pos (congrArg nI e2) (next true ?_)
          rw [decide_eq_true e, decide_eq_true e2]; rfl
        · refine wp_neg (fun z => e2 ((nI_eq (by omega) (by omega)).mp z)) (next false ?_)
          rw [decide_eq_false e2, Bool.and_false]
      · refine wp_pos ?_ (next false (by rw [decide_eq_false e]; rfl))
        rw [ck, h1.1, show X.2.1 i = 0 by omega]
        cases X.1 i
        · exact (show (-nI 1 : Int32) ≤ 0 by decide)
        · exact (show (nI 0 : Int32) ≤ 0 by decide)
    exact wp_ite (fun _ => key 1) (fun _ => key 0)
  · have : i = 216 := by omega
    subst this
    refine wp_pos (nI_le (Nat.le_refl _) (by decide)) ?_
    unfold fX10_factsBy_X5
    exact wp_some ⟨rfl, FR.rf⟩
/-! what a fact needs -/
abbrev c12 : Nat → Prop := fun q => q = 11 ∨ q = 12
/-- the needs of a fact, in their order -/
def NDS (N : KS) (R : RS) (X : DX) (k : Nat) : Prop := ∀ j, j < 3 → nq R X k j = true → N.1 12 (fb_ct (nq R X k) j) = nI (nv R X k j)
theorem RX.fr2 {N' : KS} {P : Nat → Prop} (h : RX N X) (k : FR P N N') (h6 : ¬ P 6) (h7 : ¬ P 7) (h8 : ¬ P 8) : RX N' X := h.fr k h6 h7 h8
theorem nq_ct {k j : Nat} (hj : j ≤ 3) : fb_ct (nq R X k) j ≤ j := fb_ct_le _ _
theorem rneeds_wp (hX : RX N X) (hB : XB R X b) (hR : MB (N.1 1) R.1 R) (hO : OKR R) {k : Nat} (hk : k < 216) : wp (fX10_needs N (nI k)) (fun a => a.1 = nI (fb_ct (nq R X k) 3) ∧ NDS a.2 R X k ∧ FR c12 N a.2) := by
  have hn10 := hO.1
  unfold fX10_needs
  refine wp_pos (by decide) (wp_nm (wp_pos (by decide) (wp_nm (wp_pos ((inb_N (by omega)).mpr hk) (wp_pos (by decide) (wp_nm ?_))))))
  have e2 : nI k / 6 = nI (k / 6) := by rw [li6, pk_div (by omega) (by omega) (by omega)]
  have e3 : jrem (nI (k / 6)) 6 = nI (k / 6 % 6) := by rw [li6, jremN (by omega) (by omega) (by omega)]
  have e4 : jrem (nI k) 6 = nI (k % 6) := by rw [li6, jremN (by omega) (by omega) (by omega)]
  rw [show (0 : Int32).toNatClampNeg = 0 from rfl, show (1 : Int32).toNatClampNeg = 1 from rfl, show (2 : Int32).toNatClampNeg = 2 from rfl, nI_clamp (show k < 2 ^ 31 by omega), e2, e3, e4, kset_nc (show (8 : Nat) ≠ 11 by decide), kset_nc (show (8 : Nat) ≠ 11 by decide)]
  generalize hN3 : kset (kset (kset N 11 0 (nI (k / 6 % 6))) 11 1 (nI (k % 6))) 11 2 (N.1 8 k) = N3
  have hF : FR c12 N N3 := by rw [← hN3]; exact (((FR.rf (P := c12)).set (Or.inl rfl)).set (Or.inl rfl)).set (Or.inl rfl)
  have l0 : N3.1 11 0 = nI (k / 6 % 6) := by rw [← hN3, kset_c, if_neg (by decide), kset_c, if_neg (by decide), kset_c, if_pos rfl]
  have l1 : N3.1 11 1 = nI (k % 6) := by rw [← hN3, kset_c, if_neg (by decide), kset_c, if_pos rfl]
  have l2 : N3.1 11 2 = N.1 8 k := by rw [← hN3, kset_c, if_pos rfl]
  have h1 := hX k hk
  have h2 := hB k hk
  by_cases e : 0 < X.2.1 k
  · have h3 := h2.2.1 e
    have l2' : N3.1 11 2 = nI (X.2.2.2.1 k) := by rw [l2, h1.2.2.1, if_pos e]
    have hO1 := hO.ok _ h3.2.1
    have nqe : ∀ j, nq R X k j = psc R (X.2.2.1 k) j := fun j => by unfold nq; rw [decide_eq_true e, Bool.true_and]
    refine wp_for 3 (fun (i : Nat) (s : Int32 × Int32 × KS) => s.1 = nI (fb_ct (nq R X k) i) ∧ s.2.1 = nI i ∧ (∀ j, j < i → nq R X k j = true → s.2.2.1 12 (fb_ct (nq R X k) j) = nI (nv R X k j)) ∧ s.2.2.1 11 = N3.1 11 ∧ FR c12 N s.2.2) (fun i s rec hi hI hrec => ?_) (by decide) (Nat.zero_le _) ⟨rfl, rfl, fun j hj => absurd hj (Nat.not_lt_zero _), rfl, hF⟩
    obtain ⟨v, w, N4⟩ := s
    obtain ⟨hv, hw, hd, he, hF4⟩ := hI
    have hv : v = nI (fb_ct (nq R X k) i) := hv
    subst hv
    have hw : w = nI i := hw
    subst hw
    have hd' : ∀ j, j < i → nq R X k j = true → N4.1 12 (fb_ct (nq R X k) j) = nI (nv R X k j) := hd
    have he' : N4.1 11 = N3.1 11 := he
    have hF4' : FR c12 N N4 := hF4
    rw [fX10_needs_L39_u]
    rcases Nat.lt_or_ge i 3 with hlt | hge
    · refine wp_neg (nI_ge hlt (by decide)) (wp_pos ((inb_N (by omega)).mpr hk) ?_)
      simp only [nI_clamp (show k < 2 ^ 31 by omega), hF4'.1 6 (by decide), hF4'.1 7 (by decide), h1.1, h1.2.1, if_pos h3.1, if_pos e]
      refine wp_neg (nI_nle e (by omega)) (wp_pos ((inb_N (by omega)).mpr hk) ?_)
      rw [rcond_eq (hR.fr hF4' (by decide)) h3.2.1 hn10 hlt]
      refine wp_bind (wp_some ?_)
      have es : fb_ct (nq R X k) (i + 1) = fb_ct (nq R X k) i + (if nq R X k i = true then 1 else 0) := rfl
      have hle := fb_ct_le (nq R X k) i
      by_cases q : 0 < R.2.2 (X.2.2.1 k) i
      · have hq : nq R X k i = true := by rw [nqe]; exact decide_eq_true q
        rw [hq, if_pos rfl] at es
        have h0 : R.2.2 (X.2.2.1 k) i ≠ 0 := fun z => by rw [z] at q; exact absurd q (by decide)
        refine wp_neg (fun z => kc_sg2.mp z q) ?_
        rw [foc_eq (hO1.2 i hlt) h0 (show k / 6 % 6 < 6 by omega) (show k % 6 < 6 by omega) h3.2.2 (by rw [he']; exact l0) (by rw [he']; exact l1) (by rw [he']; exact l2')]
        refine wp_bind (wp_some (wp_pos ((inb_N (by omega)).mpr (by omega)) (wp_nm (wp_nm (wp_nm ?_)))))
        rw [nI_clamp (show fb_ct (nq R X k) i < 2 ^ 31 by omega), li1, nI_add, nI_add, ← es]
        refine hrec _ hlt ⟨rfl, rfl, fun j hj hqj => ?_, ?_, hF4'.set (Or.inr rfl)⟩
        · show (kset N4 12 _ _).1 12 _ = _
          rw [kset_c]
          by_cases ej : j = i
          · subst ej
            rw [if_pos rfl]
            rfl
          · have hlt' : fb_ct (nq R X k) j < fb_ct (nq R X k) i := by
              have m1 : fb_ct (nq R X k) (j + 1) ≤ fb_ct (nq R X k) i := fb_ct_mono _ (by omega)
              have m2 : fb_ct (nq R X k) (j + 1) = fb_ct (nq R X k) j + (if nq R X k j = true then 1 else 0) := rfl
              rw [hqj, if_pos rfl] at m2
              omega
            rw [if_neg (by omega)]
            exact hd' j (by omega) hqj
        · show (kset N4 12 _ _).1 11 = _
          rw [kset_nc (by decide)]
          exact he'
      · have hq : nq R X k i = false := by rw [nqe]; exact decide_eq_false q
        rw [hq, if_neg (by decide)] at es
        refine wp_pos (kc_sg2.mpr q) (wp_nm ?_)
        rw [li1, nI_add]
        refine hrec _ hlt ⟨congrArg nI es.symm, rfl, fun j hj hqj => ?_, he', hF4'⟩
        by_cases ej : j = i
        · rw [ej, hq] at hqj
          exact absurd hqj (by decide)
        · exact hd' j (by omega) hqj
    · have : i = 3 := by omega
      subst this
      refine wp_pos (nI_le (Nat.le_refl _) (by decide)) ?_
      unfold fX10_needs_X39
      exact wp_some ⟨rfl, hd', hF4'⟩
  · have nqe : ∀ j, nq R X k j = false := fun j => by unfold nq; rw [decide_eq_false e, Bool.false_and]
    have z0 : fb_ct (nq R X k) 3 = 0 := fb_ct_zero.mpr (fun j _ => nqe j)
    refine wp_lp (fun n s => s = (nI 0, nI 0, N3)) (fun n s rec hs hrec => ?_) _ 0 _ (by decide) rfl
    subst hs
    rw [fX10_needs_L39_u]
    refine wp_neg (by decide) (wp_pos ((inb_N (by omega)).mpr hk) ?_)
    refine wp_pos ?_ ?_
    · rw [nI_clamp (show k < 2 ^ 31 by omega), hF.1 6 (by decide), h1.1, show X.2.1 k = 0 by omega]
      cases X.1 k
      · exact (show (-nI 1 : Int32) ≤ 0 by decide)
      · exact (show (nI 0 : Int32) ≤ 0 by decide)
    · unfold fX10_needs_X39
      exact wp_some ⟨by rw [z0], fun j _ hq => by rw [nqe] at hq; exact absurd hq (by decide), hF⟩
end RQ2
