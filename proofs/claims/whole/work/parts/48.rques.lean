/-! ===== the reference answers questions ===== -/
section RQU
variable {N N' : KS} {s : ST} {A A' : Nat → Nat} {P : Nat → Prop}
theorem RD.to {T : Nat → Bool} {R : RS} (h : RD N T R A' 6) (hO : OKR R) (e : ∀ q, q < 6 → A q = A' q) : RD N T R A 6 := by
  refine ⟨fun q hq => by rw [e q hq]; exact h.1 q hq, ?_, ?_, ?_⟩
  · rw [dend_A hO.ok e]; exact h.2.1
  · rw [rr_A hO.ok e]; exact h.2.2.1
  · intro l hl i hi
    rw [rr_A hO.ok e] at hi ⊢
    rw [dend_A hO.ok e, itr_A hO.ok e, nws_A hO.ok e]
    exact h.2.2.2 l hl i hi
theorem MDs.k {v : Int32} (h : MDs (N.1 1) s) : MDs ((kset N 0 6 v).1 1) s := by rw [kset_nc (by decide)]; exact h
theorem rd_wp (hO : OKR s.2) (hM : MDs (N.1 1) s) (hI : IsLay s.2 s.2.1 A) : wp (fX10_derives N) (fun N' => RD N' s.1 s.2 A 6 ∧ FR cdv N N' ∧ MDs (N'.1 1) s) := by
  refine wp_mono (der_wp hM.1 hM.2.1 hO.1 hM.2.2 hO.ok hO.2.2) ?_
  intro N' ⟨A', h1, h2, h3, h4⟩
  exact ⟨h3.to hO (lay_one hI h1), h4, by rw [h4.1 1 (by decide)]; exact hM⟩
theorem rd0_wp (hO : OKR s.2) (hM : MDs (N.1 1) s) (hI : IsLay s.2 s.2.1 A) : wp (fX10_derives (kset N 0 6 0)) (fun N' => RD N' s.1 s.2 A 6 ∧ N'.1 0 6 = 0 ∧ NF N N' ∧ MDs (N'.1 1) s) := by
  refine wp_mono (rd_wp hO hM.k hI) ?_
  intro N' ⟨h1, h2, h3⟩
  exact ⟨h1, by rw [h2.1 0 (by decide), kset_c, if_pos rfl], (NF.t (by decide)).tr (h2.nf (by decide) (by decide) (by decide) (by decide) (by decide)), h3⟩
theorem RD.x {T : Nat → Bool} {R : RS} (h : RD N T R A 6) : RX N (DV T R A) := h.2.1
theorem NQ.ok {v : Int32} (h6 : N'.1 0 6 = 0) (hn : NF N N') (hm : MDs (N'.1 1) s) : NQ N s 0 v (v, N') := ⟨h6, fun _ => rfl, hn, hm⟩
theorem NQ.fr {N4 N5 : KS} {v : Int32} (h6 : N4.1 0 6 = 0) (hn : NF N N4) (hm : MDs (N4.1 1) s) (k : FR P N4 N5) (h0 : ¬ P 0) (h1 : ¬ P 1) (h3 : ¬ P 3) (h4 : ¬ P 4) (h18 : ¬ P 18) (h19 : ¬ P 19) : NQ N s 0 v (v, N5) := ⟨by rw [k.1 0 h0]; exact h6, fun _ => rfl, hn.tr (k.nf h0 h3 h4 h18 h19), by rw [k.1 1 h1]; exact hm⟩
theorem NQ.bad {t v x : Int32} (ht : t ≠ 0) (hm : MDs (N.1 1) s) : NQ N s t v (x, kset N 0 6 t) := ⟨by show (kset N 0 6 t).1 0 6 = t; rw [kset_c, if_pos rfl], fun h => absurd h ht, NF.t (by decide), hm.k⟩
theorem le_1 : ¬ ((1 : Int32) ≤ 0) := by decide
theorem k06 {v : Int32} : (kset N 0 6 v).1 0 6 = v := by rw [kset_c, if_pos rfl]
theorem rq_holds_n {a1 a2 a3 a4 v : Int32} (hb : fX10_isFact a1 a2 a3 = some 0) (hM : MDs (N.1 1) s) : wp (fX10_holds N a1 a2 a3 a4) (NQ N s 1 v) := by
  unfold fX10_holds
  rw [hb]
  refine wp_bind (wp_some (wp_jn (wp_pos rfl ?_)))
  unfold fX10_holds_J15_7
  exact wp_nm (wp_neg (by rw [k06]; decide) (wp_some (NQ.bad (by decide) hM)))
theorem stg6 {X : DX} (h : RX N X) {k : Nat} (hk : k < 216) : (N.1 6 k < 0 ↔ X.1 k = false) ∧ (0 ≤ N.1 6 k ↔ X.1 k = true) := stg_lt h.stg hk
theorem rq_holds (hO : OKR s.2) (hM : MDs (N.1 1) s) (hI : IsLay s.2 s.2.1 A) {r x y : Nat} (hr : r < 6) (hx : x < 6) (hy : y < 6) (a4 : Int32) : wp (fX10_holds N (nI r) (nI x) (nI y) a4) (NQ N s 0 (bI ((DV s.1 s.2 A).1 (36 * r + 6 * x + y)))) := by
  have hk : 36 * r + 6 * x + y < 216 := by omega
  unfold fX10_holds
  rw [(fact_y hr hx hy).2]
  refine wp_bind (wp_some (wp_jn (wp_neg (by decide) ?_)))
  unfold fX10_holds_J15_7
  refine wp_nm (wp_pos (by rw [k06]; decide) ?_)
  refine wp_bind (wp_mono (rd0_wp hO hM hI) ?_)
  intro N4 ⟨h1, h2, h3, h4⟩
  rw [rfact_eq]
  refine wp_pos ((inb_N (by omega)).mpr hk) ?_
  have hcl : (nI (36 * r + 6 * x + y)).toNatClampNeg = 36 * r + 6 * x + y := nI_clamp (by omega)
  have hs := (stg6 h1.x hk).1
  cases e : (DV s.1 s.2 A).1 (36 * r + 6 * x + y)
  · exact wp_pos (by rw [hcl]; exact hs.mpr e) (wp_some (NQ.ok h2 h3 h4))
  · exact wp_neg (by rw [hcl]; exact fun z => by rw [hs.mp z] at e; exact absurd e (by decide)) (wp_some (NQ.ok h2 h3 h4))
theorem rq_told_n {a1 a2 a3 v : Int32} (hb : fX10_isFact a1 a2 a3 = some 0) (hM : MDs (N.1 1) s) : wp (fX10_isTold N a1 a2 a3) (NQ N s 1 v) := by
  unfold fX10_isTold
  rw [hb]
  refine wp_bind (wp_some (wp_jn (wp_pos rfl ?_)))
  unfold fX10_isTold_J15_7
  exact wp_nm (wp_neg (by rw [k06]; decide) (wp_some (NQ.bad (by decide) hM)))
theorem rq_told (hM : MDs (N.1 1) s) {r x y : Nat} (hr : r < 6) (hx : x < 6) (hy : y < 6) : wp (fX10_isTold N (nI r) (nI x) (nI y)) (NQ N s 0 (bI (s.1 (36 * r + 6 * x + y)))) := by
  have hk : 36 * r + 6 * x + y < 216 := by omega
  unfold fX10_isTold
  rw [(fact_y hr hx hy).2]
  refine wp_bind (wp_some (wp_jn (wp_neg (by decide) ?_)))
  unfold fX10_isTold_J15_7
  refine wp_nm (wp_pos (by rw [k06]) ?_)
  have e0 : (0 + fX10_fact (nI r) (nI x) (nI y) : Int32) = nI (36 * r + 6 * x + y) := by rw [rfact_eq, li0, nI_add, Nat.zero_add]
  rw [e0]
  refine wp_pos ((inb_N (by omega)).mpr (by omega)) ?_
  have hcl : (nI (36 * r + 6 * x + y)).toNatClampNeg = 36 * r + 6 * x + y := nI_clamp (by omega)
  have hs : (kset N 0 6 0).1 1 (36 * r + 6 * x + y) = bI (s.1 (36 * r + 6 * x + y)) := hM.k.1 _ hk
  have hm : MDs ((kset N 0 6 0).1 1) s := hM.k
  cases e : s.1 (36 * r + 6 * x + y)
  · exact wp_neg (by rw [hcl, hs, e]; decide) (wp_some (NQ.ok k06 (NF.t (by decide)) hm))
  · exact wp_pos (by rw [hcl, hs, e]; decide) (wp_some (NQ.ok k06 (NF.t (by decide)) hm))
theorem rq_fact_n {a1 a2 a3 a4 v : Int32} (hb : fX10_isFact a1 a2 a3 = some 0) (hM : MDs (N.1 1) s) : wp (fX10_factOf N a1 a2 a3 a4) (NQ N s 1 v) := by
  unfold fX10_factOf
  rw [hb]
  refine wp_bind (wp_some (wp_jn (wp_pos rfl ?_)))
  unfold fX10_factOf_J15_7
  exact wp_nm (wp_neg (by rw [k06]; decide) (wp_some (NQ.bad (by decide) hM)))
theorem RX.k {X : DX} {v : Int32} (h : RX N X) : RX (kset N 0 6 v) X := fun q hq => by
  rw [kset_nc (by decide), kset_nc (by decide), kset_nc (by decide)]
  exact h q hq
theorem rq_fact (hO : OKR s.2) (hM : MDs (N.1 1) s) (hI : IsLay s.2 s.2.1 A) {r x y : Nat} (hr : r < 6) (hx : x < 6) (hy : y < 6) (a4 t v : Int32) (hq : (DV s.1 s.2 A).1 (36 * r + 6 * x + y) = false ∧ t = 2 ∨ (DV s.1 s.2 A).1 (36 * r + 6 * x + y) = true ∧ ((∃ w, w < 6 ∧ a4 = nI w ∧ t = 0 ∧ v = fnum s.2 (DV s.1 s.2 A) (36 * r + 6 * x + y) w) ∨ ((a4 < nI 0 ∨ ¬ a4 < nI 0 ∧ nI 6 ≤ a4) ∧ t = 3))) : wp (fX10_factOf N (nI r) (nI x) (nI y) a4) (NQ N s t v) := by
  have hk : 36 * r + 6 * x + y < 216 := by omega
  unfold fX10_factOf
  rw [(fact_y hr hx hy).2]
  refine wp_bind (wp_some (wp_jn (wp_neg (by decide) ?_)))
  unfold fX10_factOf_J15_7
  refine wp_nm (wp_pos (by rw [k06]; decide) ?_)
  refine wp_bind (wp_mono (rd0_wp hO hM hI) ?_)
  intro N4 ⟨h1, h2, h3, h4⟩
  rw [rfact_eq]
  refine wp_nm (wp_pos ((inb_N (by omega)).mpr hk) (wp_jn ?_))
  have hcl : (nI (36 * r + 6 * x + y)).toNatClampNeg = 36 * r + 6 * x + y := nI_clamp (by omega)
  have hin : inb (nI (36 * r + 6 * x + y)) 216 := (inb_N (by omega)).mpr hk
  have hs := (stg6 h1.x hk).2
  have hB := XB.DV_ (T := s.1) (A := A) hO.ok
  have hSX := SX.DV_ (T := s.1) hI.1 hO.ok
  generalize 36 * r + 6 * x + y = k at *
  have bad : ∀ t : Int32, t ≠ 0 → ¬ t ≤ 0 → wp (fX10_factOf_J69_47 a4 N4 (nI k) t) (NQ N s t v) := fun t ht ht2 => by
    unfold fX10_factOf_J69_47
    refine wp_nm (wp_neg (by rw [k06]; exact ht2) (wp_some ?_))
    exact ⟨k06, fun h => absurd h ht, h3.tr (NF.t (by decide)), h4.k⟩
  rcases hq with ⟨e, rfl⟩ | ⟨e, hq⟩
  · exact wp_neg (by rw [hcl]; exact fun z => by rw [hs.mp z] at e; exact absurd e (by decide)) (bad 2 (by decide) (by decide))
  · refine wp_pos (by rw [hcl]; exact hs.mpr e) ?_
    rcases hq with ⟨w, hw, rfl, rfl, rfl⟩ | ⟨hb, rfl⟩
    · refine wp_neg (by rw [show fX10_in (nI w) 0 5 = 1 from rin_y (n := 5) hw (by decide)]; decide) ?_
      unfold fX10_factOf_J69_47
      refine wp_nm (wp_pos (by rw [k06]; decide) ?_)
      have h1x : RX (kset N4 0 6 0) (DV s.1 s.2 A) := h1.x.k
      have hx := h1x k hk
      have h6 : (kset N4 0 6 0).1 0 6 = 0 := k06
      have hn : NF N (kset N4 0 6 0) := h3.tr (NF.t (by decide))
      have hm : MDs ((kset N4 0 6 0).1 1) s := h4.k
      generalize kset N4 0 6 0 = N5 at *
      have hst : N5.1 6 k = nI ((DV s.1 s.2 A).2.1 k) := by rw [hx.1, if_pos e]
      have hxb := hB k hk
      rcases (show w = 0 ∨ w = 1 ∨ w = 2 ∨ w = 3 ∨ w = 4 ∨ w = 5 by omega) with rfl | rfl | rfl | rfl | rfl | rfl
      · refine wp_pos rfl (wp_pos hin (wp_some ?_))
        rw [hcl, hst, fnum_0]
        exact NQ.ok h6 hn hm
      · refine wp_neg (by decide) (wp_pos rfl (wp_pos hin ?_))
        rw [fnum_1]
        by_cases q : 0 < (DV s.1 s.2 A).2.1 k
        · rw [if_pos q]
          refine wp_neg (by rw [hcl, hst]; exact fun z => by have := (nI_eq (b := 0) (by omega) (by decide)).mp z; omega) (wp_pos hin (wp_some ?_))
          rw [hcl, hx.2.1, if_pos q]
          exact NQ.ok h6 hn hm
        · rw [if_neg q]
          refine wp_pos (by rw [hcl, hst, show (DV s.1 s.2 A).2.1 k = 0 by omega]; rfl) (wp_some ?_)
          exact NQ.ok h6 hn hm
      · refine wp_neg (by decide) (wp_neg (by decide) (wp_pos rfl (wp_pos hin ?_)))
        rw [fnum_2]
        by_cases q : 0 < (DV s.1 s.2 A).2.1 k
        · rw [if_pos q]
          refine wp_neg (by rw [hcl, hst]; exact fun z => by have := (nI_eq (b := 0) (by omega) (by decide)).mp z; omega) (wp_pos hin (wp_some ?_))
          rw [hcl, hx.2.2.1, if_pos q]
          exact NQ.ok h6 hn hm
        · rw [if_neg q]
          refine wp_pos (by rw [hcl, hst, show (DV s.1 s.2 A).2.1 k = 0 by omega]; rfl) (wp_some ?_)
          exact NQ.ok h6 hn hm
      · refine wp_neg (by decide) (wp_neg (by decide) (wp_neg (by decide) (wp_pos rfl ?_)))
        rw [fnum_3]
        refine wp_bind (wp_mono (deepens_wp h1x hB hSX hm.2.2 hO (by decide)) ?_)
        intro N6 ⟨g1, g2⟩
        refine wp_pos hin (wp_some ?_)
        rw [hcl, g1 k hk]
        exact NQ.fr h6 hn hm g2 (by decide) (by decide) (by decide) (by decide) (by decide) (by decide)
      · refine wp_neg (by decide) (wp_neg (by decide) (wp_neg (by decide) (wp_neg (by decide) (wp_pos rfl ?_))))
        rw [fnum_4]
        refine wp_bd2 (wp_mono (size_wp h1x hB hSX hm.2.2 hO hk) ?_)
        rintro ⟨z, N6⟩ ⟨g1, g2⟩
        have g1 : z = nI (fb_ct ((DV s.1 s.2 A).2.2.2.2.2 k) 216) := g1
        subst g1
        exact wp_some (NQ.fr h6 hn hm g2 (by decide) (by decide) (by decide) (by decide) (by decide) (by decide))
      · refine wp_neg (by decide) (wp_neg (by decide) (wp_neg (by decide) (wp_neg (by decide) (wp_neg (by decide) ?_))))
        rw [fnum_5]
        refine wp_bd2 (wp_mono (runl_wp h1x hB hSX hm.2.2 hO hk) ?_)
        rintro ⟨z, N6⟩ ⟨g1, g2⟩
        have g1 : z = nI (unl s.2 (DV s.1 s.2 A) k) := g1
        subst g1
        exact wp_some (NQ.fr h6 hn hm g2 (by decide) (by decide) (by decide) (by decide) (by decide) (by decide))
    · refine wp_pos (by rw [show fX10_in a4 0 5 = 0 from rin_n (n := 5) (by decide) hb]) (bad 3 (by decide) (by decide))
theorem rq_ways_n {a1 a2 a3 v : Int32} (hb : fX10_isFact a1 a2 a3 = some 0) (hM : MDs (N.1 1) s) : wp (fX10_ways N a1 a2 a3) (NQ N s 1 v) := by
  unfold fX10_ways
  rw [hb]
  refine wp_bind (wp_some (wp_jn (wp_pos rfl ?_)))
  unfold fX10_ways_J15_7
  exact wp_nm (wp_neg (by rw [k06]; decide) (wp_some (NQ.bad (by decide) hM)))
theorem rq_ways (hO : OKR s.2) (hM : MDs (N.1 1) s) (hI : IsLay s.2 s.2.1 A) {r x y : Nat} (hr : r < 6) (hx : x < 6) (hy : y < 6) : wp (fX10_ways N (nI r) (nI x) (nI y)) (NQ N s 0 (nI (wy (DV s.1 s.2 A).1 s.2 (36 * r + 6 * x + y)))) := by
  unfold fX10_ways
  rw [(fact_y hr hx hy).2]
  refine wp_bind (wp_some (wp_jn (wp_neg (by decide) ?_)))
  unfold fX10_ways_J15_7
  refine wp_nm (wp_pos (by rw [k06]; decide) ?_)
  refine wp_bind (wp_mono (rd0_wp hO hM hI) ?_)
  intro N4 ⟨h1, h2, h3, h4⟩
  refine wp_mono (rways_wp h4.2.1 h4.2.2 hO h1.x.stg hr hx hy) ?_
  rintro ⟨z, N6⟩ ⟨g1, g2⟩
  have g1 : z = nI (wy (DV s.1 s.2 A).1 s.2 (36 * r + 6 * x + y)) := g1
  subst g1
  exact NQ.fr h2 h3 h4 g2 (by decide) (by decide) (by decide) (by decide) (by decide) (by decide)
theorem rq_would_n {a1 a2 a3 v : Int32} (hb : fX10_isFact a1 a2 a3 = some 0) (hM : MDs (N.1 1) s) : wp (fX10_would N a1 a2 a3) (NQ N s 1 v) := by
  unfold fX10_would
  rw [hb]
  refine wp_bind (wp_some (wp_jn (wp_pos rfl ?_)))
  unfold fX10_would_J15_7
  exact wp_nm (wp_neg (by rw [k06]; decide) (wp_some (NQ.bad (by decide) hM)))
theorem allh_wp (hO : OKR s.2) (hM : MDs (N.1 1) s) (hI : IsLay s.2 s.2.1 A) : wp (fX10_allHolding N) (fun a => a.1 = nI (fb_ct (DV s.1 s.2 A).1 216) ∧ RD a.2 s.1 s.2 A 6 ∧ FR cdv N a.2 ∧ MDs (a.2.1 1) s) := by
  unfold fX10_allHolding
  refine wp_bind (wp_mono (rd_wp hO hM hI) ?_)
  intro N1 ⟨h1, h2, h3⟩
  rw [rholda_eq h1.x.stg]
  exact wp_bind (wp_some (wp_some ⟨rfl, h1, h2, h3⟩))
theorem one_sub (b : Bool) : (1 : Int32) - bI b = bI (!b) := by cases b <;> decide
theorem MDs.tg {k : Nat} (h : MDs (N.1 1) s) (hk : k < 216) : MDs ((kset N 1 k (bI (!s.1 k))).1 1) (tgl s.1 k, s.2) := by
  refine ⟨fun q hq => ?_, ?_, fun r hr => ?_⟩
  · rw [kset_c]
    show _ = bI (if q = k then !s.1 k else s.1 q)
    by_cases e : q = k
    · rw [if_pos e, if_pos e]
    · rw [if_neg e, if_neg e]; exact h.1 q hq
  · rw [kset_c, if_neg (by omega)]; exact h.2.1
  · have h3 := h.2.2 r hr
    rw [kset_c, if_neg (by omega)]
    refine ⟨h3.1, fun j hj => ?_⟩
    rw [kset_c, if_neg (by omega)]
    exact h3.2 j hj
theorem tgl_tgl (T : Nat → Bool) (k : Nat) : tgl (tgl T k) k = T := by
  funext q
  unfold tgl
  by_cases e : q = k
  · rw [if_pos e, if_pos rfl, Bool.not_not, e]
  · rw [if_neg e, if_neg e]
theorem tgl_k (T : Nat → Bool) (k : Nat) : tgl T k k = !T k := by unfold tgl; rw [if_pos rfl]
theorem rq_would (hO : OKR s.2) (hM : MDs (N.1 1) s) (hI : IsLay s.2 s.2.1 A) {r x y : Nat} (hr : r < 6) (hx : x < 6) (hy : y < 6) : wp (fX10_would N (nI r) (nI x) (nI y)) (NQ N s 0 (nI (fb_ct (DV (tgl s.1 (36 * r + 6 * x + y)) s.2 A).1 216) - nI (fb_ct (DV s.1 s.2 A).1 216))) := by
  have hk : 36 * r + 6 * x + y < 216 := by omega
  unfold fX10_would
  rw [(fact_y hr hx hy).2]
  refine wp_bind (wp_some (wp_jn (wp_neg (by decide) ?_)))
  unfold fX10_would_J15_7
  refine wp_nm (wp_pos (by rw [k06]; decide) (wp_nm ?_))
  have e0 : (0 + fX10_fact (nI r) (nI x) (nI y) : Int32) = nI (36 * r + 6 * x + y) := by rw [rfact_eq, li0, nI_add, Nat.zero_add]
  rw [e0]
  have hcl : (nI (36 * r + 6 * x + y)).toNatClampNeg = 36 * r + 6 * x + y := nI_clamp (by omega)
  have hin : inb (nI (36 * r + 6 * x + y)) 257 := (inb_N (by omega)).mpr (by omega)
  simp only [hcl]
  generalize 36 * r + 6 * x + y = k at *
  refine wp_bd2 (wp_mono (allh_wp hO (hM.k (v := 0)) hI) ?_)
  rintro ⟨v6, N5⟩ ⟨g1, g2, g3, g4⟩
  have g1 : v6 = nI (fb_ct (DV s.1 s.2 A).1 216) := g1
  subst g1
  have g3' : FR cdv (kset N 0 6 0) N5 := g3
  have g4' : MDs (N5.1 1) s := g4
  refine wp_pos hin (wp_pos hin (wp_nm ?_))
  show wp (bd2 (fX10_allHolding (kset N5 1 k (1 - N5.1 1 k))) _) _
  rw [g4'.1 k hk, one_sub]
  refine wp_bd2 (wp_mono (allh_wp (s := (tgl s.1 k, s.2)) hO (g4'.tg hk) hI) ?_)
  rintro ⟨v9, N8⟩ ⟨q1, q2, q3, q4⟩
  have q1 : v9 = nI (fb_ct (DV (tgl s.1 k) s.2 A).1 216) := q1
  subst q1
  have q3' : FR cdv (kset N5 1 k (bI !s.1 k)) N8 := q3
  have q4' : MDs (N8.1 1) (tgl s.1 k, s.2) := q4
  refine wp_pos hin (wp_pos hin (wp_nm (wp_some ?_)))
  show NQ N s 0 _ (_, kset N8 1 k (1 - N8.1 1 k))
  have ek : N8.1 1 k = bI (tgl s.1 k k) := q4'.1 k hk
  rw [ek, one_sub]
  have hm := q4'.tg hk
  refine ⟨?_, fun _ => rfl, ?_, ?_⟩
  · show (kset N8 1 k _).1 0 6 = 0
    rw [kset_nc (by decide), q3'.1 0 (by decide), kset_nc (by decide), g3'.1 0 (by decide), k06]
  · refine (NF.t (j := 6) (v := 0) (by decide)).tr ((g3'.nf (by decide) (by decide) (by decide) (by decide) (by decide)).tr ?_)
    have f1 : FR (fun q => q = 1) N5 (kset N5 1 k (bI !s.1 k)) := FR.rf.set rfl
    have f2 : FR (fun q => q = 1) N8 (kset N8 1 k (bI (!tgl s.1 k k))) := FR.rf.set rfl
    exact (f1.nf (by decide) (by decide) (by decide) (by decide) (by decide)).tr ((q3'.nf (by decide) (by decide) (by decide) (by decide) (by decide)).tr (f2.nf (by decide) (by decide) (by decide) (by decide) (by decide)))
  · have : ((tgl (tgl s.1 k, s.2).1 k, (tgl s.1 k, s.2).2) : ST) = s := by
      show (tgl (tgl s.1 k) k, s.2) = s
      rw [tgl_tgl]
    rw [this] at hm
    exact hm
theorem rq_kin (hO : OKR s.2) (hM : MDs (N.1 1) s) (hI : IsLay s.2 s.2.1 A) {r x : Nat} (hr : r < 6) (hx : x < 6) : wp (fX10_kin N (nI r) (nI x)) (NQ N s 0 (m6 (fun j => (DV s.1 s.2 A).1 (36 * r + 6 * x + j)))) := by
  unfold fX10_kin
  rw [(krel_y hr).2.2.1, (krel_y hx).2.2.2]
  refine wp_bind (wp_some (wp_jn (wp_neg (by decide) (wp_bind (wp_some (wp_neg (by decide) ?_))))))
  unfold fX10_kin_J20_5
  refine wp_nm (wp_jn (wp_pos k06 ?_))
  refine wp_bind (wp_mono (rd0_wp hO hM hI) ?_)
  intro N4 ⟨h1, h2, h3, h4⟩
  unfold fX10_kin_J36_29
  exact wp_eq (rkin_wp h1.x.stg h2 hr hx) (NQ.ok h2 h3 h4)
theorem rq_kin_n {a1 a2 v : Int32} (hb : (a1 < nI 0 ∨ ¬ a1 < nI 0 ∧ nI 6 ≤ a1) ∨ ((∃ r, r < 6 ∧ a1 = nI r) ∧ (a2 < nI 0 ∨ ¬ a2 < nI 0 ∧ nI 6 ≤ a2))) (hM : MDs (N.1 1) s) : wp (fX10_kin N a1 a2) (NQ N s 1 v) := by
  have tail : wp (fX10_kin_J20_5 N a1 a2 1) (NQ N s 1 v) := by
    unfold fX10_kin_J20_5
    refine wp_nm (wp_jn (wp_neg (by rw [k06]; decide) ?_))
    unfold fX10_kin_J36_29
    refine wp_lp (fun _ s => s = (nI 0, nI 0)) (fun n s' rec hs _ => ?_) 1000000 0 _ (by decide) rfl
    subst hs
    rw [fX10_kin_L39_u]
    refine wp_neg (by decide) (wp_neg (by rw [k06]; decide) ?_)
    unfold fX10_kin_X39
    exact wp_some (NQ.bad (by decide) hM)
  unfold fX10_kin
  rcases hb with hb | ⟨⟨r, hr, rfl⟩, hb⟩
  · rw [(krel_n hb).2.2.1]
    exact wp_bind (wp_some (wp_jn (wp_pos rfl tail)))
  · rw [(krel_y hr).2.2.1, (krel_n hb).2.2.2]
    exact wp_bind (wp_some (wp_jn (wp_neg (by decide) (wp_bind (wp_some (wp_pos rfl tail))))))
end RQU
