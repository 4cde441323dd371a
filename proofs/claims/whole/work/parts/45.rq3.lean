/-! ===== the reference: unlike needs, depths, sizes, ranks ===== -/
section RQ3
variable {N : KS} {R : RS} {X : DX} {A : Nat → Nat} {b : Nat} {T S : Nat → Bool}
def allb (p : Nat → Bool) (n : Nat) : Bool := fb_ct p n == n
theorem allb_0 (p : Nat → Bool) : allb p 0 = true := rfl
theorem allb_s (p : Nat → Bool) (n : Nat) : allb p (n + 1) = (allb p n && p n) := by
  rw [Bool.eq_iff_iff, Bool.and_eq_true]
  unfold allb
  rw [allb_iff, allb_iff]
  constructor
  · intro h
    exact ⟨fun k hk => h k (by omega), h n (by omega)⟩
  · intro h k hk
    rcases Nat.lt_or_ge k n with q | q
    · exact h.1 k q
    · rw [show k = n by omega]; exact h.2
/-- how many of a list are unlike those ahead -/
def dst (L : Nat → Nat) (n : Nat) : Nat := fb_ct (fun j => allb (fun i => !(L i == L j)) j) n
theorem unl_dst {L : Nat → Nat} {k : Nat} (hL : ∀ j, j < 3 → nq R X k j = true → L (fb_ct (nq R X k) j) = nv R X k j) : dst L (fb_ct (nq R X k) 3) = unl R X k := by
  have h0 := hL 0 (by decide)
  have h1 := hL 1 (by decide)
  have h2 := hL 2 (by decide)
  have e0 : fb_ct (nq R X k) 0 = 0 := rfl
  have e1 : fb_ct (nq R X k) 1 = 0 + (if nq R X k 0 = true then 1 else 0) := rfl
  have e2 : fb_ct (nq R X k) 2 = fb_ct (nq R X k) 1 + (if nq R X k 1 = true then 1 else 0) := rfl
  have e3 : fb_ct (nq R X k) 3 = fb_ct (nq R X k) 2 + (if nq R X k 2 = true then 1 else 0) := rfl
  unfold unl
  rw [e0] at h0
  rw [e3]
  rw [e2] at h2 ⊢
  rw [e1] at h1 h2 ⊢
  clear e0 e1 e2 e3
  generalize nv R X k 0 = a0 at *
  generalize nv R X k 1 = a1 at *
  generalize nv R X k 2 = a2 at *
  have sy : ∀ a b : Nat, (a == b) = (b == a) := fun a b => by rw [Bool.eq_iff_iff, beq_iff_eq, beq_iff_eq]; exact eq_comm
  unfold dst
  cases q0 : nq R X k 0 <;> cases q1 : nq R X k 1 <;> cases q2 : nq R X k 2 <;> simp only [q0, q1, q2, if_true, if_false, Bool.false_eq_true, forall_const, false_implies, Nat.zero_add, Nat.add_zero, fb_ct, allb_s, allb_0, Bool.false_and, Bool.true_and, Bool.not_false] at h0 h1 h2 ⊢ <;> simp only [h0, h1, h2, sy a0 a1, sy a0 a2, sy a1 a2, Bool.and_true]
theorem runl_wp (hX : RX N X) (hB : XB R X b) (hS : SX R X) (hR : MB (N.1 1) R.1 R) (hO : OKR R) {k : Nat} (hk : k < 216) : wp (fX10_unlikeNeeds N (nI k)) (fun a => a.1 = nI (unl R X k) ∧ FR c12 N a.2) := by
  unfold fX10_unlikeNeeds
  refine wp_bd2 (wp_mono (rneeds_wp hX hB hR hO hk) ?_)
  rintro ⟨v2, N1⟩ ⟨hv2, hnd, hF1⟩
  have hv2 : v2 = nI (fb_ct (nq R X k) 3) := hv2
  subst hv2
  have hnd' : NDS N1 R X k := hnd
  have hF1' : FR c12 N N1 := hF1
  have hm3 := fb_ct_le (nq R X k) 3
  obtain ⟨L, hL⟩ : ∃ L : Nat → Nat, L = fun p => (N1.1 12 p).toNatClampNeg := ⟨_, rfl⟩
  have hrow : ∀ p, p < fb_ct (nq R X k) 3 → N1.1 12 p = nI (L p) ∧ L p < 216 := fun p hp => by
    obtain ⟨j, hj, hqj, hpj⟩ := fb_ct_kth hp
    have h1 := hnd' j hj hqj
    have h2 := nv_lt hS hO hk hj hqj
    rw [hpj] at h1
    have : L p = nv R X k j := by rw [hL]; show (N1.1 12 p).toNatClampNeg = _; rw [h1]; exact nI_clamp (by omega)
    rw [this]
    exact ⟨h1, h2⟩
  have hLj : ∀ j, j < 3 → nq R X k j = true → L (fb_ct (nq R X k) j) = nv R X k j := fun j hj hqj => by
    have h1 := hnd' j hj hqj
    have h2 := nv_lt hS hO hk hj hqj
    rw [hL]
    show (N1.1 12 _).toNatClampNeg = _
    rw [h1]
    exact nI_clamp (by omega)
  rw [← unl_dst hLj]
  show wp (lp (fX10_unlikeNeeds_L11 (nI (fb_ct (nq R X k) 3)) N1) (fX10_unlikeNeeds_X11 N1) 1000000 (0, 0)) _
  generalize fb_ct (nq R X k) 3 = n at *
  refine wp_eq (a := (nI (dst L n), N1)) (lp_run (fun i => (nI (dst L i), nI i)) (e := n) (by omega) (fun i rec hi => ?_) (fun rec => ?_)) ⟨rfl, hF1'⟩
  · show fX10_unlikeNeeds_L11 (nI n) N1 rec _ (nI _, nI i) = rec (nI (_ + if allb (fun i' => !(L i' == L i)) i = true then 1 else 0), nI (i + 1))
    rw [fX10_unlikeNeeds_L11_u]
    refine Eq.trans (ite_f (nI_ge hi (by omega))) ?_
    refine lp_run (fun p => (bI (allb (fun i' => !(L i' == L i)) p), nI p)) (e := i) (by omega) (fun p rec2 hp => ?_) (fun rec2 => ?_)
    · show fX10_unlikeNeeds_L23 N1 (nI i) rec2 _ (bI _, nI p) = rec2 (bI (allb (fun i' => !(L i' == L i)) (p + 1)), nI (p + 1))
      rw [fX10_unlikeNeeds_L23_u, allb_s]
      refine Eq.trans (ite_f (nI_ge hp (by omega))) ?_
      have r1 := hrow p (by omega)
      have r2 := hrow i hi
      cases allb (fun i' => !(L i' == L i)) p
      · refine Eq.trans (ite_t rfl) ?_
        simp (disch := omega) only [li0, li1, li2, li3, li4, li5, li6, li8, li9, li10, li11, li20, li21, li24, li32, li33, li36, li37, li40, li43, li45, li48, li53, li54, li57, li59, li60, li61, li63, li84, li97, li100, li102, li114, li120, li122, li216, li217, li257, li300, li1296, li1799, li2056, nI_add, pk_mul, nI_subN, pk_div, jremN, nI_leI, nI_ltI, nI_eq, nI_clamp, inb_N, if_pos, if_neg, if_true, if_false, nm, jn, bd2, Option.bind_some, Bool.false_and, bI_f]
      · refine Eq.trans (ite_f (by decide)) ?_
        by_cases e : L p = L i
        · simp (disch := omega) only [li0, li1, li2, li3, li4, li5, li6, li8, li9, li10, li11, li20, li21, li24, li32, li33, li36, li37, li40, li43, li45, li48, li53, li54, li57, li59, li60, li61, li63, li84, li97, li100, li102, li114, li120, li122, li216, li217, li257, li300, li1296, li1799, li2056, nI_add, pk_mul, nI_subN, pk_div, jremN, nI_leI, nI_ltI, nI_eq, nI_clamp, inb_N, if_pos, if_neg, if_true, if_false, nm, jn, bd2, Option.bind_some, r1.1, r2.1, e, beq_self_eq_true, Bool.not_true, Bool.and_false, bI_f]
        · have e' : (!(L p == L i)) = true := by rw [beq_eq_false_iff_ne.mpr e]; rfl
          simp (disch := omega) only [li0, li1, li2, li3, li4, li5, li6, li8, li9, li10, li11, li20, li21, li24, li32, li33, li36, li37, li40, li43, li45, li48, li53, li54, li57, li59, li60, li61, li63, li84, li97, li100, li102, li114, li120, li122, li216, li217, li257, li300, li1296, li1799, li2056, nI_add, pk_mul, nI_subN, pk_div, jremN, nI_leI, nI_ltI, nI_eq, nI_clamp, inb_N, if_pos, if_neg, if_true, if_false, nm, jn, bd2, Option.bind_some, r1.1, r2.1, e, e', Bool.true_and, bI_t]
    · show fX10_unlikeNeeds_L23 N1 (nI i) rec2 _ (bI _, nI i) = _
      rw [fX10_unlikeNeeds_L23_u]
      refine Eq.trans (ite_t (nI_le (Nat.le_refl _) (by omega))) ?_
      unfold fX10_unlikeNeeds_X23
      cases allb (fun i' => !(L i' == L i)) i
      · refine Eq.trans (ite_t rfl) ?_
        simp (disch := omega) only [li0, li1, li2, li3, li4, li5, li6, li8, li9, li10, li11, li20, li21, li24, li32, li33, li36, li37, li40, li43, li45, li48, li53, li54, li57, li59, li60, li61, li63, li84, li97, li100, li102, li114, li120, li122, li216, li217, li257, li300, li1296, li1799, li2056, nI_add, pk_mul, nI_subN, pk_div, jremN, nI_leI, nI_ltI, nI_eq, nI_clamp, inb_N, if_pos, if_neg, if_true, if_false, nm, jn, bd2, Option.bind_some, Bool.false_eq_true, Nat.add_zero]
        rfl
      · refine Eq.trans (ite_f (by decide)) ?_
        simp (disch := omega) only [li0, li1, li2, li3, li4, li5, li6, li8, li9, li10, li11, li20, li21, li24, li32, li33, li36, li37, li40, li43, li45, li48, li53, li54, li57, li59, li60, li61, li63, li84, li97, li100, li102, li114, li120, li122, li216, li217, li257, li300, li1296, li1799, li2056, nI_add, pk_mul, nI_subN, pk_div, jremN, nI_leI, nI_ltI, nI_eq, nI_clamp, inb_N, if_pos, if_neg, if_true, if_false, nm, jn, bd2, Option.bind_some]
        rfl
  · show fX10_unlikeNeeds_L11 (nI n) N1 rec _ (nI _, nI n) = _
    rw [fX10_unlikeNeeds_L11_u]
    refine Eq.trans (ite_t (nI_le (Nat.le_refl _) (by omega))) ?_
    rfl
theorem rdep_wp (hX : RX N X) (hB : XB R X b) (hS : SX R X) (hR : MB (N.1 1) R.1 R) (hO : OKR R) (hb : b ≤ 300) (s : Bool) : wp (fX10_depths N (bI s)) (fun a => a.1 = nI (if s then fb_sm X.2.2.2.2.1 216 else mx6 X.2.2.2.2.1 216) ∧ FR c13 N a.2) := by
  unfold fX10_depths
  refine wp_bind (wp_mono (deepens_wp hX hB hS hR hO hb) ?_)
  intro N1 ⟨hd, hF⟩
  cases s
  · simp only [Bool.false_eq_true, if_false]
    refine wp_eq (a := (nI (mx6 X.2.2.2.2.1 216), N1)) (lp_run (fun i => (nI (mx6 X.2.2.2.2.1 i), nI i)) (e := 216) (by decide) (fun i rec hi => ?_) (fun rec => ?_)) ⟨rfl, hF⟩
    · show fX10_depths_L8 (bI false) N1 rec _ (nI _, nI i) = rec (nI (max _ (X.2.2.2.2.1 i)), nI (i + 1))
      have h1 := hd i hi
      have h2 := (hB i hi).2.2.1
      have h3 : mx6 X.2.2.2.2.1 i ≤ 300 := mx6_le.mpr (fun k hk => Nat.le_trans (hB k (by omega)).2.2.1 hb)
      rw [fX10_depths_L8_u, bI_f]
      simp (disch := omega) only [li0, li1, li2, li3, li4, li5, li6, li8, li9, li10, li11, li20, li21, li24, li32, li33, li36, li37, li40, li43, li45, li48, li53, li54, li57, li59, li60, li61, li63, li84, li97, li100, li102, li114, li120, li122, li216, li217, li257, li300, li1296, li1799, li2056, nI_add, pk_mul, nI_subN, pk_div, jremN, nI_leI, nI_ltI, nI_eq, nI_clamp, inb_N, if_pos, if_neg, if_true, if_false, nm, jn, bd2, Option.bind_some, h1, jmaxN]
    · show fX10_depths_L8 (bI false) N1 rec _ (nI _, nI 216) = _
      rw [fX10_depths_L8_u]
      simp (disch := omega) only [li0, li1, li2, li3, li4, li5, li6, li8, li9, li10, li11, li20, li21, li24, li32, li33, li36, li37, li40, li43, li45, li48, li53, li54, li57, li59, li60, li61, li63, li84, li97, li100, li102, li114, li120, li122, li216, li217, li257, li300, li1296, li1799, li2056, nI_add, pk_mul, nI_subN, pk_div, jremN, nI_leI, nI_ltI, nI_eq, nI_clamp, inb_N, if_pos, if_neg, if_true, if_false, nm, jn, bd2, Option.bind_some, fX10_depths_X8]
  · simp only [if_true]
    refine wp_eq (a := (nI (fb_sm X.2.2.2.2.1 216), N1)) (lp_run (fun i => (nI (fb_sm X.2.2.2.2.1 i), nI i)) (e := 216) (by decide) (fun i rec hi => ?_) (fun rec => ?_)) ⟨rfl, hF⟩
    · show fX10_depths_L8 (bI true) N1 rec _ (nI _, nI i) = rec (nI (_ + X.2.2.2.2.1 i), nI (i + 1))
      have h1 := hd i hi
      rw [fX10_depths_L8_u, bI_t]
      simp (disch := omega) only [li0, li1, li2, li3, li4, li5, li6, li8, li9, li10, li11, li20, li21, li24, li32, li33, li36, li37, li40, li43, li45, li48, li53, li54, li57, li59, li60, li61, li63, li84, li97, li100, li102, li114, li120, li122, li216, li217, li257, li300, li1296, li1799, li2056, nI_add, pk_mul, nI_subN, pk_div, jremN, nI_leI, nI_ltI, nI_eq, nI_clamp, inb_N, if_pos, if_neg, if_true, if_false, nm, jn, bd2, Option.bind_some, h1]
    · show fX10_depths_L8 (bI true) N1 rec _ (nI _, nI 216) = _
      rw [fX10_depths_L8_u]
      simp (disch := omega) only [li0, li1, li2, li3, li4, li5, li6, li8, li9, li10, li11, li20, li21, li24, li32, li33, li36, li37, li40, li43, li45, li48, li53, li54, li57, li59, li60, li61, li63, li84, li97, li100, li102, li114, li120, li122, li216, li217, li257, li300, li1296, li1799, li2056, nI_add, pk_mul, nI_subN, pk_div, jremN, nI_leI, nI_ltI, nI_eq, nI_clamp, inb_N, if_pos, if_neg, if_true, if_false, nm, jn, bd2, Option.bind_some, fX10_depths_X8]
theorem rgsz_wp (hX : RX N X) (hB : XB R X b) (hS : SX R X) (hR : MB (N.1 1) R.1 R) (hO : OKR R) : wp (fX10_greatestSize N) (fun a => a.1 = nI (mx6 (fun k => if X.1 k then fb_ct (X.2.2.2.2.2 k) 216 else 0) 216) ∧ FR c14 N a.2) := by
  unfold fX10_greatestSize
  refine wp_for 216 (fun (i : Nat) (s : Int32 × Int32 × KS) => s.1 = nI (mx6 (fun k => if X.1 k then fb_ct (X.2.2.2.2.2 k) 216 else 0) i) ∧ s.2.1 = nI i ∧ FR c14 N s.2.2) (fun i s rec hi hI hrec => ?_) (by decide) (Nat.zero_le _) ⟨rfl, rfl, FR.rf⟩
  obtain ⟨v, w, N1⟩ := s
  obtain ⟨hv, hw, hF⟩ := hI
  have hv : v = nI (mx6 (fun k => if X.1 k then fb_ct (X.2.2.2.2.2 k) 216 else 0) i) := hv
  subst hv
  have hw : w = nI i := hw
  subst hw
  have hF1 : FR c14 N N1 := hF
  rw [fX10_greatestSize_L4_u]
  have es : mx6 (fun k => if X.1 k then fb_ct (X.2.2.2.2.2 k) 216 else 0) (i + 1) = max (mx6 (fun k => if X.1 k then fb_ct (X.2.2.2.2.2 k) 216 else 0) i) (if X.1 i then fb_ct (X.2.2.2.2.2 i) 216 else 0) := rfl
  have h2 := fb_ct_le (X.2.2.2.2.2 i) 216
  have h3 : mx6 (fun k => if X.1 k then fb_ct (X.2.2.2.2.2 k) 216 else 0) i ≤ 216 := mx6_le.mpr (fun k hk => by have := fb_ct_le (X.2.2.2.2.2 k) 216; split <;> omega)
  rcases Nat.lt_or_ge i 216 with hlt | hge
  · refine wp_neg (nI_ge hlt (by decide)) (wp_pos ((inb_N (by omega)).mpr hlt) ?_)
    have hX1 : RX N1 X := hX.fr hF1 (by decide) (by decide) (by decide)
    have hs := (stg_lt hX1.stg hlt).2
    have ck : (nI i).toNatClampNeg = i := nI_clamp (by omega)
    by_cases e : X.1 i = true
    · rw [if_pos e] at es
      refine wp_pos (by rw [ck]; exact hs.mpr e) ?_
      refine wp_bd2 (wp_mono (size_wp hX1 hB hS (hR.fr hF1 (by decide)) hO hlt) ?_)
      rintro ⟨v, N2⟩ ⟨hv, hF2⟩
      have hv : v = nI (fb_ct (X.2.2.2.2.2 i) 216) := hv
      subst hv
      refine wp_nm (wp_nm ?_)
      rw [jmaxN (by omega) (by omega), li1, nI_add]
      exact hrec _ hlt ⟨congrArg nI es.symm, rfl, hF1.tr hF2⟩
    · rw [if_neg e, Nat.max_eq_left (Nat.zero_le _)] at es
      refine wp_neg (by rw [ck]; exact fun z => e (hs.mp z)) (wp_nm ?_)
      rw [li1, nI_add]
      exact hrec _ hlt ⟨congrArg nI es.symm, rfl, hF1⟩
  · have : i = 216 := by omega
    subst this
    refine wp_pos (nI_le (Nat.le_refl _) (by decide)) ?_
    unfold fX10_greatestSize_X4
    exact wp_some ⟨rfl, hF1⟩
theorem sub_pos {a b : Nat} (ha : a < 2 ^ 30) (hb : b < 2 ^ 30) : (nI 0 < nI a - nI b ↔ b < a) ∧ (nI a - nI b = nI 0 ↔ a = b) := by
  have e : (nI a - nI b).toInt = (a : Int) - b := by
    have h1 := nI_toInt (n := a) (by omega)
    have h2 := nI_toInt (n := b) (by omega)
    rcases Nat.lt_or_ge a b with q | q
    · have : nI a - nI b = -nI (b - a) := by
        have h3 : nI b = nI (b - a) + nI a := by rw [nI_add, Nat.sub_add_cancel (by omega)]
        rw [h3]
        apply Int32.toBitVec_inj.mp
        simp only [Int32.toBitVec_sub, Int32.toBitVec_add, Int32.toBitVec_neg]
        bv_omega
      rw [this, fb_negI (by rw [nI_toInt (by omega)]; omega), nI_toInt (by omega)]
      omega
    · rw [nI_subN q, nI_toInt (by omega)]
      omega
  constructor
  · rw [fa_lt, e, nI_toInt (by decide)]
    omega
  · constructor
    · intro h
      have := congrArg Int32.toInt h
      rw [e, nI_toInt (by decide)] at this
      omega
    · intro h
      apply Int32.toInt_inj.mp
      rw [e, nI_toInt (by decide)]
      omega
theorem rrank_wp (hS : STG N S) {pl qs : Nat} (hpl : pl < 6) (hqs : qs < 6) (hrk : rk S qs = pl) : lp (fX10_ranked_L35 (nI pl) N) (fX10_ranked_X35 N) 1000000 (0, 0) = some (nI qs, N) := by
  have hend : (nI qs, N) = (nI (if qs < 6 then qs else 0), N) := by rw [if_pos hqs]
  rw [hend]
  refine lp_run (fun i => (nI (if qs < i then qs else 0), nI i)) (e := 6) (by decide) (fun i rec hi => ?_) (fun rec => ?_)
  · show fX10_ranked_L35 (nI pl) N rec _ (nI _, nI i) = rec (nI (if qs < i + 1 then qs else 0), nI (i + 1))
    rw [fX10_ranked_L35_u]
    refine Eq.trans (ite_f (nI_ge hi (by decide))) ?_
    refine lp_run (fun t => (nI (fb_ct (ahd S i) t), nI t)) (e := 6) (by decide) (fun t rec2 ht => ?_) (fun rec2 => ?_)
    · show fX10_ranked_L47 N (nI i) rec2 _ (nI _, nI t) = rec2 (nI (_ + if ahd S i t = true then 1 else 0), nI (t + 1))
      rw [fX10_ranked_L47_u]
      refine Eq.trans (ite_f (nI_ge ht (by decide))) ?_
      rw [rhold_eq hS ht, rhold_eq hS hi, Option.bind_some, Option.bind_some]
      have h1 : szr S t ≤ 36 := fb_ct_le _ _
      have h2 : szr S i ≤ 36 := fb_ct_le _ _
      have hsp := sub_pos (a := szr S t) (b := szr S i) (by omega) (by omega)
      unfold nm
      unfold ahd
      by_cases z : szr S i < szr S t
      · refine Eq.trans (ite_t (hsp.1.mpr z)) ?_
        rw [decide_eq_true z, Bool.true_or]
        simp (disch := omega) only [li0, li1, li2, li3, li4, li5, li6, li8, li9, li10, li11, li20, li21, li24, li32, li33, li36, li37, li40, li43, li45, li48, li53, li54, li57, li59, li60, li61, li63, li84, li97, li100, li102, li114, li120, li122, li216, li217, li257, li300, li1296, li1799, li2056, nI_add, pk_mul, nI_subN, pk_div, jremN, nI_leI, nI_ltI, nI_eq, nI_clamp, inb_N, if_pos, if_neg, if_true, if_false, nm, jn, bd2, Option.bind_some]
      · refine Eq.trans (ite_f (fun h => z (hsp.1.mp h))) ?_
        rw [decide_eq_false z, Bool.false_or]
        by_cases y : szr S t = szr S i
        · refine Eq.trans (ite_t (hsp.2.mpr y)) ?_
          rw [y, beq_self_eq_true, Bool.true_and]
          by_cases w : t < i
          · simp (disch := omega) only [li0, li1, li2, li3, li4, li5, li6, li8, li9, li10, li11, li20, li21, li24, li32, li33, li36, li37, li40, li43, li45, li48, li53, li54, li57, li59, li60, li61, li63, li84, li97, li100, li102, li114, li120, li122, li216, li217, li257, li300, li1296, li1799, li2056, nI_add, pk_mul, nI_subN, pk_div, jremN, nI_leI, nI_ltI, nI_eq, nI_clamp, inb_N, if_pos, if_neg, if_true, if_false, nm, jn, bd2, Option.bind_some, show ¬ i ≤ t by omega, decide_eq_true w]
          · simp (disch := omega) only [li0, li1, li2, li3, li4, li5, li6, li8, li9, li10, li11, li20, li21, li24, li32, li33, li36, li37, li40, li43, li45, li48, li53, li54, li57, li59, li60, li61, li63, li84, li97, li100, li102, li114, li120, li122, li216, li217, li257, li300, li1296, li1799, li2056, nI_add, pk_mul, nI_subN, pk_div, jremN, nI_leI, nI_ltI, nI_eq, nI_clamp, inb_N, if_pos, if_neg, if_true, if_false, nm, jn, bd2, Option.bind_some, show i ≤ t by omega, decide_eq_false w, Bool.false_eq_true]
        · refine Eq.trans (ite_f (fun h => y (hsp.2.mp h))) ?_
          rw [beq_eq_false_iff_ne.mpr y, Bool.false_and]
          simp (disch := omega) only [li0, li1, li2, li3, li4, li5, li6, li8, li9, li10, li11, li20, li21, li24, li32, li33, li36, li37, li40, li43, li45, li48, li53, li54, li57, li59, li60, li61, li63, li84, li97, li100, li102, li114, li120, li122, li216, li217, li257, li300, li1296, li1799, li2056, nI_add, pk_mul, nI_subN, pk_div, jremN, nI_leI, nI_ltI, nI_eq, nI_clamp, inb_N, if_pos, if_neg, if_true, if_false, nm, jn, bd2, Option.bind_some, Bool.false_eq_true]
    · show fX10_ranked_L47 N (nI i) rec2 _ (nI _, nI 6) = _
      rw [fX10_ranked_L47_u]
      refine Eq.trans (ite_t (by decide)) ?_
      unfold fX10_ranked_X47
      have h6 := rk_lt6 S hi
      show (if nI (rk S i) = nI pl then _ else _) = _
      by_cases e : rk S i = pl
      · have : qs = i := rk_inj hqs hi (by rw [hrk, e])
        subst this
        simp (disch := omega) only [li0, li1, li2, li3, li4, li5, li6, li8, li9, li10, li11, li20, li21, li24, li32, li33, li36, li37, li40, li43, li45, li48, li53, li54, li57, li59, li60, li61, li63, li84, li97, li100, li102, li114, li120, li122, li216, li217, li257, li300, li1296, li1799, li2056, nI_add, pk_mul, nI_subN, pk_div, jremN, nI_leI, nI_ltI, nI_eq, nI_clamp, inb_N, if_pos, if_neg, if_true, if_false, nm, jn, bd2, Option.bind_some, e, show qs < qs + 1 by omega]
      · have : qs ≠ i := fun z => e (by rw [← z]; exact hrk)
        by_cases w : qs < i
        · simp (disch := omega) only [li0, li1, li2, li3, li4, li5, li6, li8, li9, li10, li11, li20, li21, li24, li32, li33, li36, li37, li40, li43, li45, li48, li53, li54, li57, li59, li60, li61, li63, li84, li97, li100, li102, li114, li120, li122, li216, li217, li257, li300, li1296, li1799, li2056, nI_add, pk_mul, nI_subN, pk_div, jremN, nI_leI, nI_ltI, nI_eq, nI_clamp, inb_N, if_pos, if_neg, if_true, if_false, nm, jn, bd2, Option.bind_some, e, w, show qs < i + 1 by omega]
        · simp (disch := omega) only [li0, li1, li2, li3, li4, li5, li6, li8, li9, li10, li11, li20, li21, li24, li32, li33, li36, li37, li40, li43, li45, li48, li53, li54, li57, li59, li60, li61, li63, li84, li97, li100, li102, li114, li120, li122, li216, li217, li257, li300, li1296, li1799, li2056, nI_add, pk_mul, nI_subN, pk_div, jremN, nI_leI, nI_ltI, nI_eq, nI_clamp, inb_N, if_pos, if_neg, if_true, if_false, nm, jn, bd2, Option.bind_some, e, w, show ¬ qs < i + 1 by omega]
  · show fX10_ranked_L35 (nI pl) N rec _ (nI _, nI 6) = _
    rw [fX10_ranked_L35_u]
    simp (disch := omega) only [li0, li1, li2, li3, li4, li5, li6, li8, li9, li10, li11, li20, li21, li24, li32, li33, li36, li37, li40, li43, li45, li48, li53, li54, li57, li59, li60, li61, li63, li84, li97, li100, li102, li114, li120, li122, li216, li217, li257, li300, li1296, li1799, li2056, nI_add, pk_mul, nI_subN, pk_div, jremN, nI_leI, nI_ltI, nI_eq, nI_clamp, inb_N, if_pos, if_neg, if_true, if_false, nm, jn, bd2, Option.bind_some, fX10_ranked_X35]
theorem rmut_wp (hS : STG N S) {q : Nat} (hq : q < 6) : lp (fX10_isMutual_L33 (nI q) N) (fX10_isMutual_X33 N) 1000000 (1, 0) = some (bI (mtl S q), N) := by
  show lp (fX10_isMutual_L33 (nI q) N) (fX10_isMutual_X33 N) 1000000 (bI (allb (fun k => S (36 * q + k) == S (36 * q + 6 * (k % 6) + k / 6)) 0), nI 0) = some (bI (allb (fun k => S (36 * q + k) == S (36 * q + 6 * (k % 6) + k / 6)) 36), N)
  refine lp_run (fun i => (bI (allb (fun k => S (36 * q + k) == S (36 * q + 6 * (k % 6) + k / 6)) i), nI i)) (e := 36) (by decide) (fun i rec hi => ?_) (fun rec => ?_)
  · show fX10_isMutual_L33 (nI q) N rec _ (bI _, nI i) = rec (bI (allb _ (i + 1)), nI (i + 1))
    rw [fX10_isMutual_L33_u, allb_s]
    refine Eq.trans (ite_f (nI_ge hi (by decide))) ?_
    unfold nm
    cases allb (fun k => S (36 * q + k) == S (36 * q + 6 * (k % 6) + k / 6)) i
    · refine Eq.trans (ite_t rfl) ?_
      simp (disch := omega) only [li0, li1, li2, li3, li4, li5, li6, li8, li9, li10, li11, li20, li21, li24, li32, li33, li36, li37, li40, li43, li45, li48, li53, li54, li57, li59, li60, li61, li63, li84, li97, li100, li102, li114, li120, li122, li216, li217, li257, li300, li1296, li1799, li2056, nI_add, pk_mul, nI_subN, pk_div, jremN, nI_leI, nI_ltI, nI_eq, nI_clamp, inb_N, if_pos, if_neg, if_true, if_false, nm, jn, bd2, Option.bind_some, Bool.false_and, bI_f]
    · refine Eq.trans (ite_f (by decide)) ?_
      have e1 : fX10_fact (nI q) (nI i / 6) (jrem (nI i) 6) = nI (36 * q + i) := by
        unfold fX10_fact
        simp (disch := omega) only [li0, li1, li2, li3, li4, li5, li6, li8, li9, li10, li11, li20, li21, li24, li32, li33, li36, li37, li40, li43, li45, li48, li53, li54, li57, li59, li60, li61, li63, li84, li97, li100, li102, li114, li120, li122, li216, li217, li257, li300, li1296, li1799, li2056, nI_add, pk_mul, nI_subN, pk_div, jremN, nI_leI, nI_ltI, nI_eq, nI_clamp, inb_N, if_pos, if_neg, if_true, if_false, nm, jn, bd2, Option.bind_some]
        omega
      have e2 : fX10_fact (nI q) (jrem (nI i) 6) (nI i / 6) = nI (36 * q + 6 * (i % 6) + i / 6) := by
        unfold fX10_fact
        simp (disch := omega) only [li0, li1, li2, li3, li4, li5, li6, li8, li9, li10, li11, li20, li21, li24, li32, li33, li36, li37, li40, li43, li45, li48, li53, li54, li57, li59, li60, li61, li63, li84, li97, li100, li102, li114, li120, li122, li216, li217, li257, li300, li1296, li1799, li2056, nI_add, pk_mul, nI_subN, pk_div, jremN, nI_leI, nI_ltI, nI_eq, nI_clamp, inb_N, if_pos, if_neg, if_true, if_false, nm, jn, bd2, Option.bind_some]
      unfold jn fX10_isMutual_J76_68 jn fX10_isMutual_J97_89
      have hs1 : N.1 6 (36 * q + i) < 0 ↔ S (36 * q + i) = false := (stg_lt hS (show 36 * q + i < 216 by omega)).1
      have hs2 : N.1 6 (36 * q + 6 * (i % 6) + i / 6) < 0 ↔ S (36 * q + 6 * (i % 6) + i / 6) = false := (stg_lt hS (show 36 * q + 6 * (i % 6) + i / 6 < 216 by omega)).1
      have k1 : (nI (36 * q + i)).toNatClampNeg = 36 * q + i := nI_clamp (by omega)
      have k2 : (nI (36 * q + 6 * (i % 6) + i / 6)).toNatClampNeg = 36 * q + 6 * (i % 6) + i / 6 := nI_clamp (by omega)
      have i1 : inb (nI (36 * q + i)) 216 := (inb_N (by omega)).mpr (by omega)
      have i2 : inb (nI (36 * q + 6 * (i % 6) + i / 6)) 216 := (inb_N (by omega)).mpr (by omega)
      simp only [e1, e2, k1, k2, if_pos i1, if_pos i2, nm]
      rw [show (nI i + 1 : Int32) = nI (i + 1) from nI_add i 1, Bool.true_and]
      cases s1 : S (36 * q + i) <;> cases s2 : S (36 * q + 6 * (i % 6) + i / 6)
      · rw [if_pos (hs1.mpr s1), if_pos (hs2.mpr s2)]; rfl
      · rw [if_pos (hs1.mpr s1), if_neg (fun z => by rw [hs2.mp z] at s2; exact absurd s2 (by decide))]; rfl
      · rw [if_neg (fun z => by rw [hs1.mp z] at s1; exact absurd s1 (by decide)), if_pos (hs2.mpr s2)]; rfl
      · rw [if_neg (fun z => by rw [hs1.mp z] at s1; exact absurd s1 (by decide)), if_neg (fun z => by rw [hs2.mp z] at s2; exact absurd s2 (by decide))]; rfl
  · show fX10_isMutual_L33 (nI q) N rec _ (bI _, nI 36) = _
    rw [fX10_isMutual_L33_u]
    refine Eq.trans (ite_t (by decide)) ?_
    unfold fX10_isMutual_X33
    rw [if_pos (bI_B _)]
theorem rkin_wp (hS : STG N S) (h06 : N.1 0 6 = nI 0) {q x : Nat} (hq : q < 6) (hx : x < 6) : lp (fX10_kin_L39 (nI q) (nI x) N) (fX10_kin_X39 N) 1000000 (0, 0) = some (m6 (fun j => S (36 * q + 6 * x + j)), N) := by
  have e0 : (nI 0 : Int32) = m6 (fun j => decide (j < 0) && S (36 * q + 6 * x + j)) := by rw [m6_zero]; exact m6_cong (fun j _ => rfl)
  have e6 : m6 (fun j => S (36 * q + 6 * x + j)) = m6 (fun j => decide (j < 6) && S (36 * q + 6 * x + j)) := m6_cong (fun j hj => by rw [decide_eq_true hj, Bool.true_and])
  rw [e6]
  show lp (fX10_kin_L39 (nI q) (nI x) N) (fX10_kin_X39 N) 1000000 (nI 0, nI 0) = _
  rw [e0]
  refine lp_run (fun i => (m6 (fun j => decide (j < i) && S (36 * q + 6 * x + j)), nI i)) (e := 6) (by decide) (fun i rec hi => ?_) (fun rec => ?_)
  · show fX10_kin_L39 (nI q) (nI x) N rec _ (m6 _, nI i) = rec (m6 (fun j => decide (j < i + 1) && S (36 * q + 6 * x + j)), nI (i + 1))
    rw [fX10_kin_L39_u]
    refine Eq.trans (ite_f (nI_ge hi (by decide))) ?_
    refine Eq.trans (ite_t h06) ?_
    have e1 : fX10_fact (nI q) (nI x) (nI i) = nI (36 * q + 6 * x + i) := by
      unfold fX10_fact
      simp (disch := omega) only [li0, li1, li2, li3, li4, li5, li6, li8, li9, li10, li11, li20, li21, li24, li32, li33, li36, li37, li40, li43, li45, li48, li53, li54, li57, li59, li60, li61, li63, li84, li97, li100, li102, li114, li120, li122, li216, li217, li257, li300, li1296, li1799, li2056, nI_add, pk_mul, nI_subN, pk_div, jremN, nI_leI, nI_ltI, nI_eq, nI_clamp, inb_N, if_pos, if_neg, if_true, if_false, nm, jn, bd2, Option.bind_some]
    have hs1 : N.1 6 (36 * q + 6 * x + i) < 0 ↔ S (36 * q + 6 * x + i) = false := (stg_lt hS (show 36 * q + 6 * x + i < 216 by omega)).1
    have k1 : (nI (36 * q + 6 * x + i)).toNatClampNeg = 36 * q + 6 * x + i := nI_clamp (by omega)
    have i1 : inb (nI (36 * q + 6 * x + i)) 216 := (inb_N (by omega)).mpr (by omega)
    simp only [e1, k1, if_pos i1, nm]
    rw [show (nI i + 1 : Int32) = nI (i + 1) from nI_add i 1]
    have hor : ∀ bb : Bool, S (36 * q + 6 * x + i) = bb → m6 (fun j => decide (j < i + 1) && S (36 * q + 6 * x + j)) = m6 (fun j => (decide (j < i) && S (36 * q + 6 * x + j)) || (bb && j == i)) := fun bb hb => m6_cong (fun j hj => by
      by_cases e : j = i
      · subst e
        rw [decide_eq_true (Nat.lt_succ_self j), decide_eq_false (Nat.lt_irrefl j), hb, beq_self_eq_true]
        simp
      · rw [show (j == i) = false from beq_eq_false_iff_ne.mpr e, Bool.and_false, Bool.or_false]
        congr 1
        rw [Bool.eq_iff_iff]
        simp only [decide_eq_true_eq]
        omega)
    cases s1 : S (36 * q + 6 * x + i)
    · rw [if_pos (hs1.mpr s1), hor false s1, show (0 : Int32) = nI 0 from rfl, m6_zero, m6_or]
      refine congrArg rec ?_
      rw [Prod.mk.injEq]
      exact ⟨m6_cong (fun j _ => by rw [Bool.false_and]), rfl⟩
    · rw [if_neg (fun z => by rw [hs1.mp z] at s1; exact absurd s1 (by decide)), hor true s1, show (1 : Int32) = nI 1 from rfl, m6_one hi, m6_or]
      refine congrArg rec ?_
      rw [Prod.mk.injEq]
      exact ⟨m6_cong (fun j _ => by rw [Bool.true_and]), rfl⟩
  · show fX10_kin_L39 (nI q) (nI x) N rec _ (m6 _, nI 6) = _
    rw [fX10_kin_L39_u]
    refine Eq.trans (ite_t (by decide)) ?_
    rfl
end RQ3
