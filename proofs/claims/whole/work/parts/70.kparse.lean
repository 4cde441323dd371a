/-! ===== texts: the class reads them ===== -/
theorem nm1l : (-nI 1 : Int32) < 0 := by decide
theorem nm1n : ¬ (-nI 1 : Int32) = 0 := by decide
theorem nm1g : ¬ (0 : Int32) ≤ -nI 1 := by decide
section KPA
variable {t : Nat → Nat} {ln : Nat} {M : KS}
def PK (t : Nat → Nat) (ln : Nat) (M : KS) (a : Nat) : Prop := M.1 115 3 = nI ln ∧ M.1 115 5 = nI a ∧ ∀ j, j < ln → M.1 116 j = nI (t j)
/-- a reading of the order k changes no more than this -/
def KFR (k : Nat) (M M' : KS) : Prop := (∀ a, a ≠ 115 → a ≠ 117 → a ≠ 118 → M'.1 a = M.1 a) ∧ (∀ j, j ≠ 5 → M'.1 115 j = M.1 115 j) ∧ (∀ q, q < k → M'.1 117 q = M.1 117 q) ∧ ∀ q, q < 4 * k → M'.1 118 q = M.1 118 q
theorem KFR.rf {k : Nat} : KFR k M M := ⟨fun _ _ _ _ => rfl, fun _ _ => rfl, fun _ _ => rfl, fun _ _ => rfl⟩
theorem KFR.tr {k : Nat} {M1 M2 : KS} (h : KFR k M M1) (g : KFR k M1 M2) : KFR k M M2 := ⟨fun a h1 h2 h3 => (g.1 a h1 h2 h3).trans (h.1 a h1 h2 h3), fun j hj => (g.2.1 j hj).trans (h.2.1 j hj), fun q hq => (g.2.2.1 q hq).trans (h.2.2.1 q hq), fun q hq => (g.2.2.2 q hq).trans (h.2.2.2 q hq)⟩
/-- a sign is read: nothing but the place is changed -/
def RDF (M M' : KS) : Prop := (∀ a, a ≠ 115 → M'.1 a = M.1 a) ∧ ∀ j, j ≠ 5 → M'.1 115 j = M.1 115 j
theorem RDF.k {k : Nat} {M' : KS} (h : RDF M M') : KFR k M M' := ⟨fun a h1 _ _ => h.1 a h1, h.2, fun q _ => by rw [h.1 117 (by decide)], fun q _ => by rw [h.1 118 (by decide)]⟩
theorem RDF.rf : RDF M M := ⟨fun _ _ => rfl, fun _ _ => rfl⟩
theorem PK.in_ {a j : Nat} {v : Int32} (h : PK t ln M a) {i : Nat} (hi : i = 117 ∨ i = 118) : PK t ln (kset M i j v) a := ⟨by rw [kset_nc (by omega)]; exact h.1, by rw [kset_nc (by omega)]; exact h.2.1, fun q hq => by rw [kset_nc (by omega)]; exact h.2.2 q hq⟩
theorem sub_lt0 {a b : Nat} (h : a < b) (hb : b < 2 ^ 30) : nI a - nI b < 0 := by
  have e : (nI a - nI b : Int32).toInt = (a : Int) - b := by
    rw [Int32.sub_eq_add_neg]
    have e1 : (-(nI b)).toInt = -(b : Int) := by rw [fb_negI (by rw [nI_toInt (by omega)]; omega), nI_toInt (by omega)]
    rw [Int32.toInt_add, nI_toInt (by omega), e1]
    exact Int.bmod_eq_of_le (by omega) (by omega)
  rw [fa_lt, e]
  show (a : Int) - b < 0
  omega
theorem read_c {a lo n : Nat} (h : PK t ln M a) (ha : a ≤ ln) (h60 : ln ≤ 60) (ht : ∀ j, j < ln → t j < 65536) (hlo : lo < 1000) (hn : n < 1000) : wp (fX8_read M (nI lo) (nI n)) (fun b => RDF M b.2 ∧ ((∃ d, d < n ∧ pS t ln lo n a = (a + 1, some d) ∧ t a = lo + d ∧ b.1 = nI d ∧ a < ln ∧ PK t ln b.2 (a + 1)) ∨ (pS t ln lo n a = (a, none) ∧ ¬ (a < ln ∧ lo ≤ t a ∧ t a < lo + n) ∧ b.1 = -nI 1 ∧ PK t ln b.2 a))) := by
  unfold fX8_read
  rw [h.1, h.2.1]
  rcases pS_c (t := t) (ln := ln) lo n a with ⟨d, h1, h2, h3, h4⟩ | ⟨h1, h2⟩
  · have ca : (nI a).toNatClampNeg = a := nI_clamp (by omega)
    have hta := h.2.2 a h2
    refine wp_neg (nI_pos (by omega)) (wp_neg (nI_ge h2 (by omega)) (wp_pos (nI_lt (show a < 60 by omega) (by decide)) (wp_pos ((inb_N (by omega)).mpr (by omega)) (wp_nm ?_))))
    rw [ca, hta, h3, nI_subN (by omega), show lo + d - lo = d by omega]
    refine wp_neg (nI_pos (by omega)) (wp_pos (nI_lt h1 (by omega)) (wp_nm (wp_some ?_)))
    rw [show (nI a + 1 : Int32) = nI (a + 1) by rw [li1, nI_add]]
    refine ⟨⟨fun b hb => kset_nc hb, fun j hj => by rw [kset_c, if_neg hj]⟩, Or.inl ⟨d, h1, h4, rfl, rfl, h2, ?_⟩⟩
    exact ⟨by rw [kset_c, if_neg (by decide)]; exact h.1, by rw [kset_c, if_pos rfl], fun j hj => by rw [kset_nc (by decide)]; exact h.2.2 j hj⟩
  · refine wp_neg (nI_pos (by omega)) ?_
    have bad : wp (some (((-1 : Int32)), M)) (fun b : Int32 × KS => RDF M b.2 ∧ ((∃ d, d < n ∧ pS t ln lo n a = (a + 1, some d) ∧ t a = lo + d ∧ b.1 = nI d ∧ a < ln ∧ PK t ln b.2 (a + 1)) ∨ (pS t ln lo n a = (a, none) ∧ ¬ (a < ln ∧ lo ≤ t a ∧ t a < lo + n) ∧ b.1 = -nI 1 ∧ PK t ln b.2 a))) := wp_some ⟨RDF.rf, Or.inr ⟨h2, h1, rfl, h⟩⟩
    rcases Nat.lt_or_ge a ln with hlt | hge
    · have ca : (nI a).toNatClampNeg = a := nI_clamp (by omega)
      have hta := h.2.2 a hlt
      have htb := ht a hlt
      refine wp_neg (nI_ge hlt (by omega)) (wp_pos (nI_lt (show a < 60 by omega) (by decide)) (wp_pos ((inb_N (by omega)).mpr (by omega)) (wp_nm ?_)))
      rw [ca, hta]
      rcases Nat.lt_or_ge (t a) lo with q | q
      · exact wp_pos (sub_lt0 q (by omega)) bad
      · rw [nI_subN q]
        exact wp_neg (nI_pos (by omega)) (wp_neg (nI_nlt (show n ≤ t a - lo by omega) (by omega)) bad)
    · exact wp_pos (nI_le hge (by omega)) bad
theorem put_eq {k j : Nat} (hk : k < 21) (hj : j < 4) {v : Int32} : fX8_put M (nI k) (nI j) v = some (kset M 118 (4 * k + j) v) := by
  unfold fX8_put
  have e : (4 * nI k + nI j : Int32) = nI (4 * k + j) := by rw [li4, pk_mul, nI_add]
  rw [e]
  refine wp_is (wp_nm (wp_neg (nI_pos (by omega)) (wp_neg (nI_ge (show 4 * k + j < 84 by omega) (by decide)) (wp_pos ((inb_N (by omega)).mpr (by omega)) (wp_nm (wp_some ?_))))))
  rw [nI_clamp (by omega)]
theorem note_eq {k kd : Nat} (hk : k < 21) (hkd : kd < 65536) : fX8_note M (nI k) (nI kd) = some (1, kset M 117 k (nI kd)) := by
  unfold fX8_note
  refine wp_is (wp_neg (nI_pos (by omega)) (wp_pos (nI_lt hk (by decide)) (wp_pos ((inb_N (by omega)).mpr hk) (wp_nm (wp_some ?_)))))
  rw [nI_clamp (by omega), show vp_nar .char (nI kd) = nI kd from ch_small hkd]
/-- an order that the class has written down -/
def KOr (M : KS) (k : Nat) (o : ORD) : Prop := M.1 117 k = nI o.1 ∧ M.1 118 (4 * k) = nI o.2.1 ∧ (o.1 = 43 ∨ o.1 = 45 → M.1 118 (4 * k + 1) = nI o.2.2.1 ∧ M.1 118 (4 * k + 2) = nI o.2.2.2.1) ∧ (o.1 = 114 → ∀ j, j < 3 → M.1 118 (4 * k + 1 + j) = o.2.2.2.2 j)
/-- behind an order -/
def KPO (t : Nat → Nat) (ln k : Nat) (M : KS) (x : PR ORD) (b : Int32 × KS) : Prop := PK t ln b.2 x.1 ∧ KFR k M b.2 ∧ ((x.2 = none ∧ b.1 = 0) ∨ ∃ o, x.2 = some o ∧ b.1 = 1 ∧ KOr b.2 k o)
theorem KFR.s117 {k j : Nat} {v : Int32} {M1 : KS} (h : KFR k M M1) (hj : k ≤ j) : KFR k M (kset M1 117 j v) := ⟨fun a h1 h2 h3 => by rw [kset_nc h2]; exact h.1 a h1 h2 h3, fun q hq => by rw [kset_nc (by decide)]; exact h.2.1 q hq, fun q hq => by rw [kset_c, if_neg (by omega)]; exact h.2.2.1 q hq, fun q hq => by rw [kset_nc (by decide)]; exact h.2.2.2 q hq⟩
theorem KFR.s118 {k j : Nat} {v : Int32} {M1 : KS} (h : KFR k M M1) (hj : 4 * k ≤ j) : KFR k M (kset M1 118 j v) := ⟨fun a h1 h2 h3 => by rw [kset_nc h3]; exact h.1 a h1 h2 h3, fun q hq => by rw [kset_nc (by decide)]; exact h.2.1 q hq, fun q hq => by rw [kset_nc (by decide)]; exact h.2.2.1 q hq, fun q hq => by rw [kset_c, if_neg (by omega)]; exact h.2.2.2 q hq⟩
theorem rnum_c {a lo n k j : Nat} (h : PK t ln M a) (ha : a ≤ ln) (h60 : ln ≤ 60) (ht : ∀ j, j < ln → t j < 65536) (hlo : lo < 1000) (hn : n < 1000) (hk : k < 21) (hj : j < 4) : wp (fX8_readNumber M (nI k) (nI j) (nI lo) (nI n)) (fun b => KFR k M b.2 ∧ (∀ q, q ≠ 4 * k + j → b.2.1 118 q = M.1 118 q) ∧ ((∃ d, d < n ∧ pS t ln lo n a = (a + 1, some d) ∧ b.1 = 1 ∧ b.2.1 118 (4 * k + j) = nI d ∧ a < ln ∧ PK t ln b.2 (a + 1)) ∨ (pS t ln lo n a = (a, none) ∧ b.1 = 0 ∧ PK t ln b.2 a))) := by
  unfold fX8_readNumber
  refine wp_bd2 (wp_mono (read_c h ha h60 ht hlo hn) ?_)
  rintro ⟨v, M1⟩ ⟨f1, h1⟩
  have f1 : RDF M M1 := f1
  have e118 : M1.1 118 = M.1 118 := f1.1 118 (by decide)
  rw [put_eq hk hj]
  refine wp_bind (wp_some ?_)
  have fk : KFR k M (kset M1 118 (4 * k + j) v) := f1.k.s118 (by omega)
  have fq : ∀ q, q ≠ 4 * k + j → (kset M1 118 (4 * k + j) v).1 118 q = M.1 118 q := fun q hq => by rw [kset_c, if_neg hq, e118]
  rcases h1 with ⟨d, d1, d2, d3, d4, d5, d6⟩ | ⟨d1, d2, d3, d4⟩
  · have d4 : v = nI d := d4
    subst d4
    exact wp_neg (nI_pos (by omega)) (wp_some ⟨fk, fq, Or.inl ⟨d, d1, d2, rfl, by rw [kset_c, if_pos rfl], d5, PK.in_ d6 (Or.inr rfl)⟩⟩)
  · have d3 : v = -nI 1 := d3
    subst d3
    exact wp_pos nm1l (wp_some ⟨fk, fq, Or.inr ⟨d1, rfl, PK.in_ d4 (Or.inr rfl)⟩⟩)
theorem kpfact_wp {a k kd : Nat} (h : PK t ln M a) (ha : a ≤ ln) (h60 : ln ≤ 60) (ht : ∀ j, j < ln → t j < 65536) (hk : k < 21) (hkd : kd = 43 ∨ kd = 45) : wp (fX8_readFact M (nI k) (nI kd)) (KPO t ln k M (pFact t ln kd a)) := by
  unfold fX8_readFact
  have bad : ∀ {p : Nat} {M1 : KS}, pq3 t ln a = (p, none) → PK t ln M1 p → KFR k M M1 → wp (some ((0 : Int32), M1)) (KPO t ln k M (pFact t ln kd a)) := fun {p M1} e hP hF => by
    refine wp_some ⟨?_, hF, Or.inl ⟨?_, rfl⟩⟩
    · show PK t ln M1 (pq3 t ln a).1
      rw [e]; exact hP
    · show (pq3 t ln a).2.map _ = none
      rw [e]; rfl
  refine wp_bd2 (wp_mono (rnum_c (lo := 48) (n := 6) (j := 0) h ha h60 ht (by decide) (by decide) hk (by decide)) ?_)
  rintro ⟨v, M1⟩ ⟨f1, g1, h1⟩
  have f1 : KFR k M M1 := f1
  rcases h1 with ⟨r, r1, r2, r3, r4, r5, r6⟩ | ⟨r1, r2, r3⟩
  · have r3 : v = 1 := r3
    subst r3
    have h1 : pq1 t ln a = (a + 1, some r) := r2
    have h2 : pq2 t ln a = pS t ln 97 6 (a + 1) := pb_s h1
    refine wp_neg ni1 (wp_bd2 (wp_mono (rnum_c (lo := 97) (n := 6) (j := 1) r6 r5 h60 ht (by decide) (by decide) hk (by decide)) ?_))
    rintro ⟨v, M3⟩ ⟨f3, g3, h3⟩
    have f3 : KFR k M1 M3 := f3
    have g3 : ∀ q, q ≠ 4 * k + 1 → M3.1 118 q = M1.1 118 q := g3
    rcases h3 with ⟨x, x1, x2, x3, x4, x5, x6⟩ | ⟨x1, x2, x3⟩
    · have x3 : v = 1 := x3
      subst x3
      rw [x2] at h2
      have h3 : pq3 t ln a = pS t ln 97 6 (a + 1 + 1) := pb_s h2
      refine wp_neg ni1 (wp_bd2 (wp_mono (rnum_c (lo := 97) (n := 6) (j := 2) x6 x5 h60 ht (by decide) (by decide) hk (by decide)) ?_))
      rintro ⟨v, M5⟩ ⟨f5, g5, h5⟩
      have f5 : KFR k M3 M5 := f5
      have g5 : ∀ q, q ≠ 4 * k + 2 → M5.1 118 q = M3.1 118 q := g5
      rcases h5 with ⟨y, y1, y2, y3, y4, y5, y6⟩ | ⟨y1, y2, y3⟩
      · have y3 : v = 1 := y3
        subst y3
        rw [y2] at h3
        refine wp_neg ni1 ?_
        rw [note_eq hk (show kd < 65536 by omega)]
        refine wp_bd2 (wp_some (wp_neg ni1 (wp_some ⟨?_, ((f1.tr f3).tr f5).s117 (Nat.le_refl k), Or.inr ⟨(kd, r, x, y, fun _ => 0), ?_, rfl, ?_⟩⟩)))
        · show PK t ln (kset M5 117 k (nI kd)) (pq3 t ln a).1
          rw [h3]
          exact PK.in_ y6 (Or.inl rfl)
        · show (pq3 t ln a).2.map _ = _
          rw [h3, h1, h2]; rfl
        · have e118 : (kset M5 117 k (nI kd)).1 118 = M5.1 118 := kset_nc (by decide)
          refine ⟨by rw [kset_c, if_pos rfl], ?_, fun _ => ⟨?_, ?_⟩, fun z => ?_⟩
          · show (kset M5 117 k (nI kd)).1 118 (4 * k) = nI r
            rw [e118, g5 _ (by omega), g3 _ (by omega)]; exact r4
          · show (kset M5 117 k (nI kd)).1 118 (4 * k + 1) = nI x
            rw [e118, g5 _ (by omega)]; exact x4
          · show (kset M5 117 k (nI kd)).1 118 (4 * k + 2) = nI y
            rw [e118]; exact y4
          · have z' : kd = 114 := z
            omega
      · have y2 : v = 0 := y2
        subst y2
        exact wp_pos rfl (bad (h3.trans y1) y3 ((f1.tr f3).tr f5))
    · have x2 : v = 0 := x2
      subst x2
      exact wp_pos rfl (bad (pb_n (h2.trans x1)) x3 (f1.tr f3))
  · have r2 : v = 0 := r2
    subst r2
    exact wp_pos rfl (bad (pb_n (pb_n r1)) r3 f1)
theorem skip_c {a lo : Nat} (h : PK t ln M a) (ha : a ≤ ln) (h60 : ln ≤ 60) (ht : ∀ j, j < ln → t j < 65536) (hlo : lo < 1000) : wp (fX8_skip M (nI lo)) (fun b => RDF M b.2 ∧ ((pS t ln lo 1 a = (a + 1, some 0) ∧ t a = lo ∧ b.1 = 1 ∧ a < ln ∧ PK t ln b.2 (a + 1)) ∨ (pS t ln lo 1 a = (a, none) ∧ ¬ (a < ln ∧ t a = lo) ∧ b.1 = 0 ∧ PK t ln b.2 a))) := by
  unfold fX8_skip
  refine wp_bd2 (wp_mono (read_c (n := 1) h ha h60 ht hlo (by decide)) ?_)
  rintro ⟨v, M1⟩ ⟨f1, h1⟩
  rcases h1 with ⟨d, d1, d2, d3, d4, d5, d6⟩ | ⟨d1, d2, d3, d4⟩
  · have d4 : v = nI d := d4
    have d0 : d = 0 := by omega
    subst d0
    subst d4
    exact wp_pos rfl (wp_some ⟨f1, Or.inl ⟨d2, d3, rfl, d5, d6⟩⟩)
  · have d3 : v = -nI 1 := d3
    subst d3
    exact wp_neg nm1n (wp_some ⟨f1, Or.inr ⟨d1, fun z => d2 ⟨z.1, by omega, by omega⟩, rfl, d4⟩⟩)
theorem kpcond_wp {a k j : Nat} (h : PK t ln M a) (ha : a ≤ ln) (h60 : ln ≤ 60) (ht : ∀ j, j < ln → t j < 65536) (hk : k < 21) (hj : j < 4) (hj1 : 1 ≤ j) : wp (fX8_readCondition M (nI k) (nI j)) (fun b => KFR k M b.2 ∧ (∀ q, q ≠ 4 * k + j → b.2.1 118 q = M.1 118 q) ∧ PK t ln b.2 (pCond t ln a).1 ∧ (((pCond t ln a).2 = none ∧ b.1 = 0) ∨ ∃ c, (pCond t ln a).2 = some c ∧ b.1 = 1 ∧ b.2.1 118 (4 * k + j) = c)) := by
  unfold fX8_readCondition
  refine wp_bd2 (wp_mono (skip_c (lo := 33) h ha h60 ht (by decide)) ?_)
  rintro ⟨v2, M1⟩ ⟨f1, h1⟩
  have f1 : RDF M M1 := f1
  obtain ⟨ng, hv2, hng, hP1⟩ : ∃ ng, v2 = bI ng ∧ ng = isN t ln a ∧ PK t ln M1 (pe0 t ln a) := by
    rcases h1 with ⟨d1, d2, d3, d4, d5⟩ | ⟨d1, d2, d3, d4⟩
    · have e : isN t ln a = true := decide_eq_true ⟨d4, d2⟩
      refine ⟨true, d3, e.symm, ?_⟩
      unfold pe0
      rw [e, if_pos rfl]
      exact d5
    · have e : isN t ln a = false := decide_eq_false d2
      refine ⟨false, d3, e.symm, ?_⟩
      unfold pe0
      rw [e, if_neg (by decide)]
      exact d4
  subst hv2
  have hb0 := pe0_b (t := t) ha
  have tail : ∀ (p : Nat) (M8 : KS) (v4 v5 v7 : Int32), KFR k M M8 → M8.1 118 = M.1 118 → PK t ln M8 p → ((v7 = -nI 1 ∧ pCond t ln a = (p, none)) ∨ (∃ r f s, r < 6 ∧ f < 3 ∧ s < 3 ∧ v4 = nI r ∧ v5 = nI f ∧ v7 = nI s ∧ pCond t ln a = (p, some (ccd ng r f s)))) → wp (fX8_readCondition_J51_37 (nI k) (nI j) (bI ng) v4 v5 (v7, M8)) (fun b => KFR k M b.2 ∧ (∀ q, q ≠ 4 * k + j → b.2.1 118 q = M.1 118 q) ∧ PK t ln b.2 (pCond t ln a).1 ∧ (((pCond t ln a).2 = none ∧ b.1 = 0) ∨ ∃ c, (pCond t ln a).2 = some c ∧ b.1 = 1 ∧ b.2.1 118 (4 * k + j) = c)) := by
    intro p M8 v4 v5 v7 hF he hP hc
    rw [fX8_readCondition_J51_37_u]
    rcases hc with ⟨e1, e2⟩ | ⟨r, f, s, r1, f1, s1, rfl, rfl, rfl, e2⟩
    · subst e1
      refine wp_neg nm1g (wp_some ⟨hF, fun q _ => by rw [he], ?_, Or.inl ⟨by rw [e2], rfl⟩⟩)
      rw [e2]; exact hP
    · have ecd : fX9_codeOf (nI r) (nI f) (nI s) = nI (1 + 9 * r + 3 * f + s) := by
        unfold fX9_codeOf
        rw [li9, pk_mul, li1, nI_add, li3, pk_mul, nI_add, nI_add]
      refine wp_pos (nI_pos' (by omega)) (wp_nm (wp_jn ?_))
      rw [ecd]
      have fin : ∀ w, w = ccd ng r f s → wp (fX8_readCondition_J86_75 (nI k) (nI j) M8 w) (fun b => KFR k M b.2 ∧ (∀ q, q ≠ 4 * k + j → b.2.1 118 q = M.1 118 q) ∧ PK t ln b.2 (pCond t ln a).1 ∧ (((pCond t ln a).2 = none ∧ b.1 = 0) ∨ ∃ c, (pCond t ln a).2 = some c ∧ b.1 = 1 ∧ b.2.1 118 (4 * k + j) = c)) := by
        intro w hw
        unfold fX8_readCondition_J86_75
        rw [put_eq hk hj]
        refine wp_bind (wp_some (wp_some ⟨hF.s118 (by omega), fun q hq => by rw [kset_c, if_neg hq, he], ?_, Or.inr ⟨w, by rw [e2, hw], rfl, by rw [kset_c, if_pos rfl]⟩⟩))
        rw [e2]
        exact PK.in_ hP (Or.inr rfl)
      cases ng
      · exact wp_pos rfl (fin _ rfl)
      · exact wp_neg nb1 (fin _ rfl)
  refine wp_bd2 (wp_mono (read_c (lo := 48) (n := 6) hP1 hb0.2 h60 ht (by decide) (by decide)) ?_)
  rintro ⟨v4, M3⟩ ⟨f3, h3⟩
  have f3 : RDF M1 M3 := f3
  have f13 : RDF M M3 := ⟨fun q hq => (f3.1 q hq).trans (f1.1 q hq), fun q hq => (f3.2 q hq).trans (f1.2 q hq)⟩
  refine wp_jn ?_
  rcases h3 with ⟨r, r1, r2, r3, r4, r5, r6⟩ | ⟨r1, r2, r3, r4⟩
  · have r4 : v4 = nI r := r4
    subst r4
    have h1 : pe1 t ln a = (pe0 t ln a + 1, some r) := r2
    have h2 : pe2 t ln a = pS t ln 120 3 (pe0 t ln a + 1) := pb_s h1
    refine wp_pos (nI_pos' (by omega)) (wp_bd2 (wp_mono (read_c (lo := 120) (n := 3) r6 r5 h60 ht (by decide) (by decide)) ?_))
    rintro ⟨v5, M6⟩ ⟨f6, h6⟩
    have f6 : RDF M3 M6 := f6
    have f16 : RDF M M6 := ⟨fun q hq => (f6.1 q hq).trans (f13.1 q hq), fun q hq => (f6.2 q hq).trans (f13.2 q hq)⟩
    show wp (fX8_readCondition_J33_19 (nI k) (nI j) (bI ng) (nI r) (v5, M6)) _
    rw [fX8_readCondition_J33_19_u]
    refine wp_jn ?_
    rcases h6 with ⟨f, x1, x2, x3, x4, x5, x6⟩ | ⟨x1, x2, x3, x4⟩
    · have x4 : v5 = nI f := x4
      subst x4
      rw [x2] at h2
      have h3 : pe3 t ln a = pS t ln 120 3 (pe0 t ln a + 1 + 1) := pb_s h2
      refine wp_pos (nI_pos' (by omega)) (wp_bd2 (wp_mono (read_c (lo := 120) (n := 3) x6 x5 h60 ht (by decide) (by decide)) ?_))
      rintro ⟨v7, M8⟩ ⟨f8, h8⟩
      have f8 : RDF M6 M8 := f8
      have f18 : RDF M M8 := ⟨fun q hq => (f8.1 q hq).trans (f16.1 q hq), fun q hq => (f8.2 q hq).trans (f16.2 q hq)⟩
      rcases h8 with ⟨s, y1, y2, y3, y4, y5, y6⟩ | ⟨y1, y2, y3, y4⟩
      · have y4 : v7 = nI s := y4
        subst y4
        rw [y2] at h3
        refine tail _ M8 _ _ _ f18.k (f18.1 118 (by decide)) y6 (Or.inr ⟨r, f, s, r1, x1, y1, rfl, rfl, rfl, ?_⟩)
        unfold pCond
        rw [h3, h1, h2, hng]; rfl
      · have y3 : v7 = -nI 1 := y3
        subst y3
        rw [y1] at h3
        refine tail _ M8 _ _ _ f18.k (f18.1 118 (by decide)) y4 (Or.inl ⟨rfl, ?_⟩)
        unfold pCond
        rw [h3]; rfl
    · have x3 : v5 = -nI 1 := x3
      subst x3
      rw [x1] at h2
      have h3 : pe3 t ln a = (pe0 t ln a + 1, none) := pb_n h2
      refine wp_neg nm1g (tail _ M6 _ _ _ f16.k (f16.1 118 (by decide)) x4 (Or.inl ⟨rfl, ?_⟩))
      unfold pCond
      rw [h3]; rfl
  · have r3 : v4 = -nI 1 := r3
    subst r3
    have h1 : pe1 t ln a = (pe0 t ln a, none) := r1
    have h2 : pe2 t ln a = (pe0 t ln a, none) := pb_n h1
    have h3 : pe3 t ln a = (pe0 t ln a, none) := pb_n h2
    refine wp_neg nm1g ?_
    show wp (fX8_readCondition_J33_19 (nI k) (nI j) (bI ng) (-nI 1) (-1, M3)) _
    rw [fX8_readCondition_J33_19_u]
    refine wp_jn (wp_neg nm1g (tail _ M3 _ _ _ f13.k (f13.1 118 (by decide)) r4 (Or.inl ⟨rfl, ?_⟩)))
    unfold pCond
    rw [h3]; rfl
theorem kstart_eq {a : Nat} (h : PK t ln M a) (ha : a ≤ ln) (h60 : ln ≤ 60) (ht : ∀ j, j < ln → t j < 65536) : fX8_startsCondition M = some (bI (stc t ln a)) := by
  unfold fX8_startsCondition
  rw [h.1, h.2.1]
  refine wp_is (wp_neg (nI_pos (by omega)) ?_)
  rcases Nat.lt_or_ge a ln with hlt | hge
  · have ca : M.1 116 (nI a).toNatClampNeg = nI (t a) := by rw [nI_clamp (by omega)]; exact h.2.2 a hlt
    have htb := ht a hlt
    have ib : inb (nI a) 60 := (inb_N (by omega)).mpr (by omega)
    refine wp_neg (nI_ge hlt (by omega)) (wp_pos (nI_lt (show a < 60 by omega) (by decide)) (wp_pos ib ?_))
    rw [ca]
    have fin : ∀ b : Bool, b = stc t ln a → wp (some (bI b)) (fun z => z = bI (stc t ln a)) := fun b hb => wp_some (by rw [hb])
    by_cases q : t a = 33
    · exact wp_pos (by rw [q]; rfl) (fin true (decide_eq_true ⟨hlt, Or.inl q⟩).symm)
    · refine wp_neg (fun z => q ((nI_eq (b := 33) (by omega) (by decide)).mp z)) (wp_pos ib ?_)
      by_cases q2 : t a < 48
      · exact wp_pos (nI_lt q2 (by decide)) (fin false (decide_eq_false (fun z => by rcases z.2 with z | z; exact q z; omega)).symm)
      · refine wp_neg (nI_nlt (show 48 ≤ t a by omega) (by omega)) (wp_pos ib ?_)
        by_cases q3 : t a < 54
        · exact wp_neg (nI_ge q3 (by decide)) (fin true (decide_eq_true ⟨hlt, Or.inr ⟨by omega, q3⟩⟩).symm)
        · exact wp_pos (nI_le (show 54 ≤ t a by omega) (by omega)) (fin false (decide_eq_false (fun z => by rcases z.2 with z | z; exact q z; exact q3 z.2)).symm)
  · exact wp_pos (nI_le hge (by omega)) (wp_some (congrArg bI (decide_eq_false (fun z => by omega)).symm))
end KPA
