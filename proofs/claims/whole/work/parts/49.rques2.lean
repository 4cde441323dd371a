/-! ===== more questions ===== -/
section RQV
variable {M M' N N' : KS} {s : ST} {A A' : Nat → Nat} {P : Nat → Prop}
theorem rnum_0 {q : Nat} : rnum s A q 0 = nI (szr (DV s.1 s.2 A).1 q) := by unfold rnum; rw [if_pos rfl]
theorem rnum_1 {q : Nat} : rnum s A q 1 = nI (szr s.1 q) := by unfold rnum; rw [if_neg (by decide), if_pos rfl]
theorem rnum_2 {q : Nat} : rnum s A q 2 = nI (A q) := by unfold rnum; rw [if_neg (by decide), if_neg (by decide), if_pos rfl]
theorem rnum_3 {q : Nat} : rnum s A q 3 = nI (hdw s.2 q) := by unfold rnum; rw [if_neg (by decide), if_neg (by decide), if_neg (by decide), if_pos rfl]
theorem rnum_4 {q : Nat} : rnum s A q 4 = nI (cdw s.2 q) := by unfold rnum; rw [if_neg (by decide), if_neg (by decide), if_neg (by decide), if_neg (by decide), if_pos rfl]
theorem rnum_5 {q : Nat} : rnum s A q 5 = nI (mx6 (fun k => if k / 36 = q then (DV s.1 s.2 A).2.1 k else 0) 216) := by unfold rnum; rw [if_neg (by decide), if_neg (by decide), if_neg (by decide), if_neg (by decide), if_neg (by decide)]
theorem rq_rel_n {a1 a2 v : Int32} (hb : a1 < nI 0 ∨ ¬ a1 < nI 0 ∧ nI 6 ≤ a1) (hM : MDs (N.1 1) s) : wp (fX10_relationOf N a1 a2) (NQ N s 1 v) := by
  unfold fX10_relationOf
  rw [(krel_n hb).2.2.1]
  refine wp_bind (wp_some (wp_jn (wp_pos rfl ?_)))
  unfold fX10_relationOf_J26_5
  exact wp_nm (wp_neg (by rw [k06]; decide) (wp_some (NQ.bad (by decide) hM)))
theorem rq_rel (hO : OKR s.2) (hM : MDs (N.1 1) s) (hI : IsLay s.2 s.2.1 A) {r : Nat} (hr : r < 6) (a2 t v : Int32) (hq : (∃ w, w < 6 ∧ a2 = nI w ∧ t = 0 ∧ v = rnum s A r w) ∨ ((a2 < nI 0 ∨ ¬ a2 < nI 0 ∧ nI 6 ≤ a2) ∧ t = 2)) : wp (fX10_relationOf N (nI r) a2) (NQ N s t v) := by
  unfold fX10_relationOf
  rw [(krel_y hr).2.2.1]
  refine wp_bind (wp_some (wp_jn (wp_neg (by decide) ?_)))
  rcases hq with ⟨w, hw, rfl, rfl, rfl⟩ | ⟨hb, rfl⟩
  · refine wp_neg (by rw [show fX10_in (nI w) 0 5 = 1 from rin_y (n := 5) hw (by decide)]; decide) ?_
    unfold fX10_relationOf_J26_5
    refine wp_nm (wp_pos (by rw [k06]; decide) ?_)
    refine wp_bind (wp_mono (rd0_wp hO hM hI) ?_)
    intro N4 ⟨h1, h2, h3, h4⟩
    have hst0 := DV_st0 (T := s.1) hI.1 hO.ok
    rcases (show w = 0 ∨ w = 1 ∨ w = 2 ∨ w = 3 ∨ w = 4 ∨ w = 5 by omega) with rfl | rfl | rfl | rfl | rfl | rfl
    · refine wp_pos rfl ?_
      rw [rhold_eq h1.x.stg hr, rnum_0]
      exact wp_bind (wp_some (wp_some (NQ.ok h2 h3 h4)))
    · refine wp_neg (by decide) (wp_pos rfl ?_)
      rw [rtold_eq h4.1 hr, rnum_1]
      exact wp_bind (wp_some (wp_some (NQ.ok h2 h3 h4)))
    · refine wp_neg (by decide) (wp_neg (by decide) (wp_pos rfl (wp_pos ((inb_N (by omega)).mpr hr) (wp_some ?_))))
      rw [nI_clamp (show r < 2 ^ 31 by omega), h1.1 r hr, rnum_2]
      exact NQ.ok h2 h3 h4
    · refine wp_neg (by decide) (wp_neg (by decide) (wp_neg (by decide) (wp_pos rfl ?_)))
      rw [rhdw_eq h4.2.1 h4.2.2 hO hr, rnum_3]
      exact wp_bind (wp_some (wp_some (NQ.ok h2 h3 h4)))
    · refine wp_neg (by decide) (wp_neg (by decide) (wp_neg (by decide) (wp_neg (by decide) (wp_pos rfl ?_))))
      rw [rcdw_eq h4.2.1 h4.2.2 hO hr, rnum_4]
      exact wp_bind (wp_some (wp_some (NQ.ok h2 h3 h4)))
    · refine wp_neg (by decide) (wp_neg (by decide) (wp_neg (by decide) (wp_neg (by decide) (wp_neg (by decide) ?_))))
      rw [rmaxs_eq h1.x hst0 hr, rnum_5]
      exact wp_bind (wp_some (wp_some (NQ.ok h2 h3 h4)))
  · refine wp_pos (by rw [show fX10_in a2 0 5 = 0 from rin_n (n := 5) (by decide) hb]) ?_
    unfold fX10_relationOf_J26_5
    exact wp_nm (wp_neg (by rw [k06]; decide) (wp_some (NQ.bad (by decide) hM)))
theorem rq_rank (hO : OKR s.2) (hM : MDs (N.1 1) s) (hI : IsLay s.2 s.2.1 A) (a1 t v : Int32) (hq : (∃ pl qs, pl < 6 ∧ qs < 6 ∧ a1 = nI pl ∧ rk (DV s.1 s.2 A).1 qs = pl ∧ t = 0 ∧ v = nI qs) ∨ ((a1 < nI 0 ∨ ¬ a1 < nI 0 ∧ nI 6 ≤ a1) ∧ t = 1)) : wp (fX10_ranked N a1) (NQ N s t v) := by
  unfold fX10_ranked
  refine wp_jn ?_
  rcases hq with ⟨pl, qs, hpl, hqs, rfl, hrk, rfl, rfl⟩ | ⟨hb, rfl⟩
  · refine wp_neg (by rw [show fX10_in (nI pl) 0 5 = 1 from rin_y (n := 5) hpl (by decide)]; decide) ?_
    unfold fX10_ranked_J15_7
    refine wp_nm (wp_pos (by rw [k06]; decide) ?_)
    refine wp_bind (wp_mono (rd0_wp hO hM hI) ?_)
    intro N4 ⟨h1, h2, h3, h4⟩
    exact wp_eq (rrank_wp h1.x.stg hpl hqs hrk) (NQ.ok h2 h3 h4)
  · refine wp_pos (by rw [show fX10_in a1 0 5 = 0 from rin_n (n := 5) (by decide) hb]) ?_
    unfold fX10_ranked_J15_7
    exact wp_nm (wp_neg (by rw [k06]; decide) (wp_some (NQ.bad (by decide) hM)))
theorem rq_mut_n {a1 v : Int32} (hb : a1 < nI 0 ∨ ¬ a1 < nI 0 ∧ nI 6 ≤ a1) (hM : MDs (N.1 1) s) : wp (fX10_isMutual N a1) (NQ N s 1 v) := by
  unfold fX10_isMutual
  rw [(krel_n hb).2.2.1]
  refine wp_bind (wp_some (wp_jn (wp_pos rfl ?_)))
  unfold fX10_isMutual_J13_5
  exact wp_nm (wp_neg (by rw [k06]; decide) (wp_some (NQ.bad (by decide) hM)))
theorem rq_mut (hO : OKR s.2) (hM : MDs (N.1 1) s) (hI : IsLay s.2 s.2.1 A) {r : Nat} (hr : r < 6) : wp (fX10_isMutual N (nI r)) (NQ N s 0 (bI (mtl (DV s.1 s.2 A).1 r))) := by
  unfold fX10_isMutual
  rw [(krel_y hr).2.2.1]
  refine wp_bind (wp_some (wp_jn (wp_neg (by decide) ?_)))
  unfold fX10_isMutual_J13_5
  refine wp_nm (wp_pos (by rw [k06]; decide) ?_)
  refine wp_bind (wp_mono (rd0_wp hO hM hI) ?_)
  intro N4 ⟨h1, h2, h3, h4⟩
  exact wp_eq (rmut_wp h1.x.stg hr) (NQ.ok h2 h3 h4)
theorem ris_y {R : RS} (hn : N.1 1 216 = nI R.1) (hn10 : R.1 ≤ 10) {r : Nat} (hr : r < R.1) : fX10_isRule N (nI r) = some 1 := by
  have e : fX10_in (nI r) 0 (nI R.1 - 1) = 1 := by
    rw [li1, nI_subN (by omega)]
    exact rin_y (by omega) (by omega)
  unfold fX10_isRule
  rw [if_pos (by decide), show (216 : Int32).toNatClampNeg = 216 by decide, hn, e, if_pos (Or.inr rfl)]
theorem ris_n {R : RS} (hn : N.1 1 216 = nI R.1) (hn10 : R.1 ≤ 10) {a : Int32} (h : a < nI 0 ∨ ¬ a < nI 0 ∧ nI R.1 ≤ a) : fX10_isRule N a = some 0 := by
  have e : fX10_in a 0 (nI R.1 - 1) = 0 := by
    rw [li1]
    rcases Nat.eq_zero_or_pos R.1 with q | q
    · rw [q]
      unfold fX10_in
      rcases h with h | ⟨h, h2⟩
      · rw [if_pos (show a < 0 from h)]
      · rw [if_neg (show ¬ a < 0 from h), if_pos]
        rw [q, fa_le] at h2
        rw [fa_lt]
        have h3 : (nI 0 - nI 1 : Int32).toInt = -1 := by decide
        have h4 : (nI 0 : Int32).toInt = 0 := by decide
        omega
    · rw [nI_subN (by omega)]
      refine rin_n (by omega) ?_
      rw [show R.1 - 1 + 1 = R.1 by omega]
      exact h
  unfold fX10_isRule
  rw [if_pos (by decide), show (216 : Int32).toNatClampNeg = 216 by decide, hn, e, if_pos (Or.inl rfl)]
theorem runm_0 {q : Nat} : runm s A q 0 = nI (s.2.2.1 q) := by unfold runm; rw [if_pos rfl]
theorem runm_1 {q : Nat} : runm s A q 1 = nI (ncd s.2 q) := by unfold runm; rw [if_neg (by decide), if_pos rfl]
theorem runm_2 {q : Nat} : runm s A q 2 = nI (fb_ct (fun k => decide (0 < (DV s.1 s.2 A).2.1 k) && decide ((DV s.1 s.2 A).2.2.1 k = q)) 216) := by unfold runm; rw [if_neg (by decide), if_neg (by decide), if_pos rfl]
theorem runm_3 {q : Nat} : runm s A q 3 = nI (mks (DV s.1 s.2 A).1 s.2 q) := by unfold runm; rw [if_neg (by decide), if_neg (by decide), if_neg (by decide)]
theorem rq_rule_n {a1 a2 v : Int32} (hO : OKR s.2) (hb : a1 < nI 0 ∨ ¬ a1 < nI 0 ∧ nI s.2.1 ≤ a1) (hM : MDs (N.1 1) s) : wp (fX10_ruleOf N a1 a2) (NQ N s 1 v) := by
  unfold fX10_ruleOf
  rw [ris_n hM.2.1 hO.1 hb]
  refine wp_bind (wp_some (wp_jn (wp_pos rfl ?_)))
  unfold fX10_ruleOf_J27_6
  exact wp_nm (wp_neg (by rw [k06]; decide) (wp_some (NQ.bad (by decide) hM)))
theorem rq_rule (hO : OKR s.2) (hM : MDs (N.1 1) s) (hI : IsLay s.2 s.2.1 A) {r : Nat} (hr : r < s.2.1) (a2 t v : Int32) (hq : (∃ w, w < 4 ∧ a2 = nI w ∧ t = 0 ∧ v = runm s A r w) ∨ ((a2 < nI 0 ∨ ¬ a2 < nI 0 ∧ nI 4 ≤ a2) ∧ t = 2)) : wp (fX10_ruleOf N (nI r) a2) (NQ N s t v) := by
  unfold fX10_ruleOf
  rw [ris_y hM.2.1 hO.1 hr]
  refine wp_bind (wp_some (wp_jn (wp_neg (by decide) ?_)))
  rcases hq with ⟨w, hw, rfl, rfl, rfl⟩ | ⟨hb, rfl⟩
  · refine wp_neg (by rw [show fX10_in (nI w) 0 3 = 1 from rin_y (n := 3) hw (by decide)]; decide) ?_
    unfold fX10_ruleOf_J27_6
    refine wp_nm (wp_pos (by rw [k06]; decide) ?_)
    refine wp_bind (wp_mono (rd0_wp hO hM hI) ?_)
    intro N4 ⟨h1, h2, h3, h4⟩
    have hB := XB.DV_ (T := s.1) (A := A) hO.ok
    rcases (show w = 0 ∨ w = 1 ∨ w = 2 ∨ w = 3 by omega) with rfl | rfl | rfl | rfl
    · refine wp_pos rfl ?_
      rw [rhead_eq h4.2.2 hr hO.1, runm_0]
      exact wp_bind (wp_some (wp_some (NQ.ok h2 h3 h4)))
    · refine wp_neg (by decide) (wp_pos rfl ?_)
      rw [rncd_eq h4.2.2 hO.1 hr, runm_1]
      exact wp_bind (wp_some (wp_some (NQ.ok h2 h3 h4)))
    · refine wp_neg (by decide) (wp_neg (by decide) (wp_jn (wp_neg (by decide) ?_)))
      unfold fX10_ruleOf_J81_73
      refine wp_bd2 (wp_mono (rder_eq h1.x hB h4.2.2 hO hr) ?_)
      rintro ⟨z, N6⟩ ⟨g1, g2⟩
      rw [runm_2]
      have g1 : z = nI (fb_ct (fun k => decide (0 < (DV s.1 s.2 A).2.1 k) && decide ((DV s.1 s.2 A).2.2.1 k = r)) 216) := g1
      subst g1
      exact wp_some (NQ.fr h2 h3 h4 g2 (by decide) (by decide) (by decide) (by decide) (by decide) (by decide))
    · refine wp_neg (by decide) (wp_neg (by decide) (wp_jn (wp_pos rfl ?_)))
      unfold fX10_ruleOf_J81_73
      refine wp_bd2 (wp_mono (rmks_wp h4.2.2 hO h1.x.stg hr) ?_)
      rintro ⟨z, N6⟩ ⟨g1, g2⟩
      rw [runm_3]
      have g1 : z = nI (mks (DV s.1 s.2 A).1 s.2 r) := g1
      subst g1
      exact wp_some (NQ.fr h2 h3 h4 g2 (by decide) (by decide) (by decide) (by decide) (by decide) (by decide))
  · refine wp_pos (by rw [show fX10_in a2 0 3 = 0 from rin_n (n := 3) (by decide) hb]) ?_
    unfold fX10_ruleOf_J27_6
    exact wp_nm (wp_neg (by rw [k06]; decide) (wp_some (NQ.bad (by decide) hM)))
/-! conditions stand one behind another -/
theorem ncd_iff {R : RS} (hO : OKR R) {r j : Nat} (hr : r < R.1) (hj : j < 3) : R.2.2 r j ≠ 0 ↔ j < ncd R r := by
  have h := (hO.2.1 r hr).2.2
  have e : ncd R r = 0 + (if decide (R.2.2 r 0 ≠ 0) = true then 1 else 0) + (if decide (R.2.2 r 1 ≠ 0) = true then 1 else 0) + (if decide (R.2.2 r 2 ≠ 0) = true then 1 else 0) := rfl
  rw [decide_eq_true h.1, if_pos rfl] at e
  by_cases h1 : R.2.2 r 1 = 0
  · have h2 := h.2 h1
    rw [decide_eq_false (fun z => z h1), decide_eq_false (fun z => z h2), if_neg (by decide)] at e
    rcases (show j = 0 ∨ j = 1 ∨ j = 2 by omega) with rfl | rfl | rfl
    · exact ⟨fun _ => by omega, fun _ => h.1⟩
    · exact ⟨fun z => absurd h1 z, fun z => by omega⟩
    · exact ⟨fun z => absurd h2 z, fun z => by omega⟩
  · rw [decide_eq_true h1, if_pos rfl] at e
    by_cases h2 : R.2.2 r 2 = 0
    · rw [decide_eq_false (fun z => z h2), if_neg (by decide)] at e
      rcases (show j = 0 ∨ j = 1 ∨ j = 2 by omega) with rfl | rfl | rfl
      · exact ⟨fun _ => by omega, fun _ => h.1⟩
      · exact ⟨fun _ => by omega, fun _ => h1⟩
      · exact ⟨fun z => absurd h2 z, fun z => by omega⟩
    · rw [decide_eq_true h2, if_pos rfl] at e
      rcases (show j = 0 ∨ j = 1 ∨ j = 2 by omega) with rfl | rfl | rfl
      · exact ⟨fun _ => by omega, fun _ => h.1⟩
      · exact ⟨fun _ => by omega, fun _ => h1⟩
      · exact ⟨fun _ => by omega, fun _ => h2⟩
theorem ncd_le (R : RS) (r : Nat) : ncd R r ≤ 3 := fb_ct_le _ _
theorem kq_cond (hO : OKR s.2) (hK : KT M 0 s) (hS : SETD M s) {r : Nat} (hr : r < s.2.1) (a2 : Int32) (q : Sum Nat Int32) (hq : (∃ j, j < ncd s.2 r ∧ a2 = nI j ∧ q = .inr (s.2.2.2 r j)) ∨ ((a2 < nI 0 ∨ ¬ a2 < nI 0 ∧ nI (ncd s.2 r) ≤ a2) ∧ q = .inl 2)) : wp (fX9_condition M (nI r) a2) (CQ M s q) := by
  have hn := hO.1
  have hle := ncd_le s.2 r
  unfold fX9_condition
  rw [khas_y hK.2 hn hr]
  refine wp_neg (by decide) ?_
  have zero : fX6_code M 0 (nI r) a2 = some 0 → q = .inl 2 → wp ((fX6_code M 0 (nI r) a2).bind fun v1 => (if v1 = 0 then some (.inl (2, M)) else some (.inr (v1, M)))) (CQ M s q) := fun h1 h2 => by
    rw [h1, h2]
    exact wp_bind (wp_some (wp_pos rfl (wp_some (CQ.inl FQ.rf hS))))
  rcases hq with ⟨j, hj, rfl, rfl⟩ | ⟨hb, rfl⟩
  · rw [code_eq hK.2.2 hr (by omega) (show j < 3 by omega)]
    exact wp_bind (wp_some (wp_neg ((ncd_iff hO hr (by omega)).mpr hj) (wp_some (CQ.inr FQ.rf hS))))
  · refine zero ?_ rfl
    have r1 : ¬ nI r < 0 := fun z => (nI_lt0 (by omega)).mp z
    have r2 : ¬ (11 : Int32) ≤ nI r := fun z => by rw [li11, nI_leI (by decide) (by omega)] at z; omega
    rcases hb with hb | ⟨hb, hb2⟩
    · unfold fX6_code
      rw [if_neg r1, if_neg r2, if_pos (show a2 < 0 from hb)]
    · rcases in_cases a2 3 (by decide) with ⟨j, hj, rfl⟩ | hb3
      · rw [nI_leI (by omega) (by omega)] at hb2
        rw [code_eq hK.2.2 hr (by omega) hj]
        refine congrArg some ?_
        have := not_congr (ncd_iff hO hr hj)
        exact Classical.not_not.mp (this.mpr (by omega))
      · rcases hb3 with hb3 | ⟨_, hb3⟩
        · exact absurd hb3 hb
        · unfold fX6_code
          rw [if_neg r1, if_neg r2, if_neg (show ¬ a2 < 0 from hb), if_neg (show ¬ a2 < 3 from fun z => by rw [fa_le] at hb3; rw [fa_lt] at z; have h4 : (3 : Int32).toInt = (nI 3).toInt := rfl; omega)]
theorem rq_cond_n {a1 a2 v : Int32} (hO : OKR s.2) (hb : a1 < nI 0 ∨ ¬ a1 < nI 0 ∧ nI s.2.1 ≤ a1) (hM : MDs (N.1 1) s) : wp (fX10_condition N a1 a2) (NQ N s 1 v) := by
  unfold fX10_condition
  rw [ris_n hM.2.1 hO.1 hb]
  refine wp_bind (wp_some (wp_jn (wp_pos rfl ?_)))
  unfold fX10_condition_J34_6
  exact wp_nm (wp_neg (by rw [k06]; decide) (wp_some (NQ.bad (by decide) hM)))
theorem rq_cond (hO : OKR s.2) (hM : MDs (N.1 1) s) {r : Nat} (hr : r < s.2.1) (a2 t v : Int32) (hq : (∃ j, j < ncd s.2 r ∧ a2 = nI j ∧ t = 0 ∧ v = s.2.2.2 r j) ∨ ((a2 < nI 0 ∨ ¬ a2 < nI 0 ∧ nI (ncd s.2 r) ≤ a2) ∧ t = 2)) : wp (fX10_condition N (nI r) a2) (NQ N s t v) := by
  have hle := ncd_le s.2 r
  have hpos : 0 < ncd s.2 r := (ncd_iff hO hr (by decide)).mp (hO.2.1 r hr).2.2.1
  unfold fX10_condition
  rw [ris_y hM.2.1 hO.1 hr]
  refine wp_bind (wp_some (wp_jn (wp_neg (by decide) ?_)))
  rw [rncd_eq hM.2.2 hO.1 hr]
  refine wp_bind (wp_some ?_)
  rw [li1, nI_subN (by omega)]
  rcases hq with ⟨j, hj, rfl, rfl, rfl⟩ | ⟨hb, rfl⟩
  · refine wp_neg (by rw [show fX10_in (nI j) 0 (nI (ncd s.2 r - 1)) = 1 from rin_y (by omega) (by omega)]; decide) ?_
    unfold fX10_condition_J34_6
    refine wp_nm (wp_pos (by rw [k06]; decide) ?_)
    rw [rcond_eq (hM.k (v := 0)).2.2 hr hO.1 (show j < 3 by omega)]
    exact wp_bind (wp_some (wp_some (NQ.ok k06 (NF.t (by decide)) hM.k)))
  · refine wp_pos (by rw [show fX10_in a2 0 (nI (ncd s.2 r - 1)) = 0 from rin_n (by omega) (by rw [show ncd s.2 r - 1 + 1 = ncd s.2 r by omega]; exact hb)]) ?_
    unfold fX10_condition_J34_6
    exact wp_nm (wp_neg (by rw [k06]; decide) (wp_some (NQ.bad (by decide) hM)))
/-! layers, rounds, fresh facts -/
theorem lm_wp (hO : OKR s.2) (hM : MDs (N.1 1) s) (hI : IsLay s.2 s.2.1 A) : wp (fX10_layerMany N) (fun a => a.1 = nI (mx6 A 6 + 1) ∧ FR c5 N a.2 ∧ MDs (a.2.1 1) s) := by
  refine wp_mono (rlm_wp hO.1 hO.ok hM.2.2 hM.2.1 hO.2.2) ?_
  intro a ⟨A', h1, h2, h3, h4, h5⟩
  refine ⟨?_, h5, by rw [h5.1 1 (by decide)]; exact hM⟩
  rw [h1, mx6_cong (lay_one h3 hI)]
theorem rq_layers (hO : OKR s.2) (hM : MDs (N.1 1) s) (hI : IsLay s.2 s.2.1 A) : wp (fX10_layers_ N) (NQ N s 0 (nI (mx6 A 6 + 1))) := by
  unfold fX10_layers_
  refine wp_nm (wp_bd2 (wp_mono (lm_wp hO (hM.k (v := 0)) hI) ?_))
  rintro ⟨z, N6⟩ ⟨g1, g2, g3⟩
  have g1 : z = nI (mx6 A 6 + 1) := g1
  subst g1
  exact wp_some (NQ.fr k06 (NF.t (by decide)) hM.k g2 (by decide) (by decide) (by decide) (by decide) (by decide) (by decide))
theorem rq_rounds (hO : OKR s.2) (hM : MDs (N.1 1) s) (hI : IsLay s.2 s.2.1 A) (hA5 : ∀ q, q < 6 → A q ≤ 5) (a1 t v : Int32) (hq : (∃ l, l < mx6 A 6 + 1 ∧ a1 = nI l ∧ t = 0 ∧ v = nI (rr s.2 A (X0 s.1) l)) ∨ ((a1 < nI 0 ∨ ¬ a1 < nI 0 ∧ nI (mx6 A 6 + 1) ≤ a1) ∧ t = 1)) : wp (fX10_rounds N a1) (fun b => NQ N s t v b ∧ (t = 0 → RD b.2 s.1 s.2 A 6)) := by
  have hm : mx6 A 6 ≤ 5 := mx6_le.mpr hA5
  unfold fX10_rounds
  refine wp_bd2 (wp_mono (lm_wp hO hM hI) ?_)
  rintro ⟨z, N6⟩ ⟨g1, g2, g3⟩
  have g1 : z = nI (mx6 A 6 + 1) := g1
  subst g1
  have g2' : FR c5 N N6 := g2
  have g3' : MDs (N6.1 1) s := g3
  have hn6 : NF N N6 := g2'.nf (by decide) (by decide) (by decide) (by decide) (by decide)
  refine wp_jn ?_
  show wp (if fX10_in a1 0 (nI (mx6 A 6 + 1) - 1) = 0 then fX10_rounds_J20_12 a1 N6 1 else fX10_rounds_J20_12 a1 N6 0) _
  rw [li1, nI_subN (by omega), Nat.add_sub_cancel]
  rcases hq with ⟨l, hl, rfl, rfl, rfl⟩ | ⟨hb, rfl⟩
  · refine wp_neg (by rw [show fX10_in (nI l) 0 (nI (mx6 A 6)) = 1 from rin_y (by omega) (by omega)]; decide) ?_
    unfold fX10_rounds_J20_12
    refine wp_nm (wp_pos (by rw [k06]; decide) ?_)
    refine wp_bind (wp_mono (rd0_wp hO g3' hI) ?_)
    intro N4 ⟨h1, h2, h3, h4⟩
    refine wp_pos ((inb_N (by omega)).mpr (by omega)) (wp_some ?_)
    rw [nI_clamp (show l < 2 ^ 31 by omega), h1.2.2.1 l (by omega)]
    exact ⟨NQ.ok h2 (hn6.tr h3) h4, fun _ => h1⟩
  · refine wp_pos (by rw [show fX10_in a1 0 (nI (mx6 A 6)) = 0 from rin_n (by omega) hb]) ?_
    unfold fX10_rounds_J20_12
    refine wp_nm (wp_neg (by rw [k06]; decide) (wp_some ⟨⟨k06, fun h => absurd h (by decide), hn6.tr (NF.t (by decide)), g3'.k⟩, fun h => absurd h (by decide)⟩))
theorem rin1_n {a : Int32} {n : Nat} (h : a < nI 1 ∨ ¬ a < nI 1 ∧ nI n < a) : fX10_in a 1 (nI n) = 0 := by
  unfold fX10_in
  rcases h with h | ⟨h, h2⟩
  · rw [if_pos (show a < 1 from h)]
  · rw [if_neg (show ¬ a < 1 from h), if_pos h2]
theorem rin1_y {k n : Nat} (hk : k < n) (hn : n < 2 ^ 31) : fX10_in (nI (k + 1)) 1 (nI n) = 1 := by
  unfold fX10_in
  rw [li1, if_neg (fun z => by rw [nI_ltI (by omega) (by omega)] at z; omega), if_neg (fun z => by rw [nI_ltI (by omega) (by omega)] at z; omega)]
theorem rq_fresh (hO : OKR s.2) (hM : MDs (N.1 1) s) (hI : IsLay s.2 s.2.1 A) (hA5 : ∀ q, q < 6 → A q ≤ 5) (a1 a2 t v : Int32) (hq : (∃ l i, l < mx6 A 6 + 1 ∧ i < rr s.2 A (X0 s.1) l ∧ a1 = nI l ∧ a2 = nI (i + 1) ∧ t = 0 ∧ v = nI (nws s.2 A l (itr s.2 A l (dend s.2 A (X0 s.1) l) i))) ∨ ((a1 < nI 0 ∨ ¬ a1 < nI 0 ∧ nI (mx6 A 6 + 1) ≤ a1) ∧ t = 1) ∨ (∃ l, l < mx6 A 6 + 1 ∧ a1 = nI l ∧ (a2 < nI 1 ∨ ¬ a2 < nI 1 ∧ nI (rr s.2 A (X0 s.1) l) < a2) ∧ t = 1)) : wp (fX10_fresh N a1 a2) (NQ N s t v) := by
  have hm : mx6 A 6 ≤ 5 := mx6_le.mpr hA5
  have bad : ∀ (N1 : KS) (x y : Int32), NF N N1 → MDs (N1.1 1) s → wp (fX10_fresh_J31_11 x y N1 1) (NQ N s 1 v) := by
    intro N1 x y hn hmd
    unfold fX10_fresh_J31_11
    refine wp_nm (wp_nm ?_)
    refine wp_lp (fun _ s => s = (y - 1, nI 0)) (fun n s' rec hs _ => ?_) 1000000 0 _ (by decide) rfl
    subst hs
    rw [fX10_fresh_L42_u]
    have fin : wp (fX10_fresh_X42 (kset N1 0 6 1) (y - 1)) (NQ N s 1 v) := by
      unfold fX10_fresh_X42
      exact wp_neg (by rw [k06]; decide) (wp_some ⟨k06, fun h => absurd h (by decide), hn.tr (NF.t (by decide)), hmd.k⟩)
    exact wp_ite (fun _ => fin) (fun _ => wp_neg (by rw [k06]; decide) fin)
  unfold fX10_fresh
  rcases hq with ⟨l, i, hl, hi, rfl, rfl, rfl, rfl⟩ | ⟨hb, rfl⟩ | ⟨l, hl, rfl, hb, rfl⟩
  · refine wp_bd2 (wp_mono (rq_rounds hO hM hI hA5 (nI l) 0 (nI (rr s.2 A (X0 s.1) l)) (Or.inl ⟨l, hl, rfl, rfl, rfl⟩)) ?_)
    rintro ⟨z, N6⟩ ⟨⟨g1, g2, g3, g4⟩, g5⟩
    have g2 : z = nI (rr s.2 A (X0 s.1) l) := g2 rfl
    subst g2
    have g1' : N6.1 0 6 = 0 := g1
    have g3' : NF N N6 := g3
    have g4' : MDs (N6.1 1) s := g4
    have g5' : RD N6 s.1 s.2 A 6 := g5 rfl
    have hrr := rr_216 (R := s.2) (A := A) (T := s.1) 6
    have hpart := fb_sm_part (rr s.2 A (X0 s.1)) (show l < 6 by omega)
    refine wp_jn (wp_pos g1' ?_)
    show wp (if fX10_in (nI (i + 1)) 1 (nI (rr s.2 A (X0 s.1) l)) = 0 then fX10_fresh_J31_11 (nI l) (nI (i + 1)) N6 1 else fX10_fresh_J31_11 (nI l) (nI (i + 1)) N6 (N6.1 0 6)) _
    refine wp_neg (by rw [rin1_y hi (by omega)]; decide) ?_
    rw [g1']
    unfold fX10_fresh_J31_11
    refine wp_nm (wp_nm ?_)
    have h6 : (kset N6 0 6 0).1 0 6 = 0 := k06
    have hn : NF N (kset N6 0 6 0) := g3'.tr (NF.t (by decide))
    have hmm : MDs ((kset N6 0 6 0).1 1) s := g4'.k
    have e10 : ∀ q, q < 6 → (kset N6 0 6 0).1 10 q = nI (rr s.2 A (X0 s.1) q) := fun q hq => by rw [kset_nc (by decide)]; exact g5'.2.2.1 q hq
    have e9 : (kset N6 0 6 0).1 9 (fb_sm (rr s.2 A (X0 s.1)) l + i) = nI (nws s.2 A l (itr s.2 A l (dend s.2 A (X0 s.1) l) i)) := by rw [kset_nc (by decide)]; exact g5'.2.2.2 l (by omega) i hi
    generalize kset N6 0 6 0 = N7 at *
    rw [li1, nI_subN (show 1 ≤ i + 1 by omega), Nat.add_sub_cancel]
    have run : lp (fX10_fresh_L42 (nI l) N7) (fX10_fresh_X42 N7) 1000000 (nI (0 + i), nI 0) = some (nI (nws s.2 A l (itr s.2 A l (dend s.2 A (X0 s.1) l) i)), N7) := by
      refine lp_run (fun j => (nI (fb_sm (rr s.2 A (X0 s.1)) j + i), nI j)) (e := l) (by omega) (fun j rec hj => ?_) (fun rec => ?_)
      · show fX10_fresh_L42 (nI l) N7 rec _ (nI _, nI j) = rec (nI (_ + rr s.2 A (X0 s.1) j + i), nI (j + 1))
        rw [fX10_fresh_L42_u]
        have h6' : N7.1 0 6 = nI 0 := h6
        simp (disch := omega) only [li0, li1, li2, li3, li4, li5, li6, li8, li9, li10, li11, li20, li21, li24, li32, li33, li36, li37, li40, li43, li45, li48, li53, li54, li57, li59, li60, li61, li63, li84, li97, li100, li102, li114, li120, li122, li216, li217, li257, li300, li1296, li1799, li2056, nI_add, pk_mul, nI_subN, pk_div, jremN, nI_leI, nI_ltI, nI_eq, nI_clamp, inb_N, if_pos, if_neg, if_true, if_false, nm, jn, bd2, Option.bind_some, h6', e10 j (by omega)]
        rw [show fb_sm (rr s.2 A (X0 s.1)) j + i + rr s.2 A (X0 s.1) j = fb_sm (rr s.2 A (X0 s.1)) j + rr s.2 A (X0 s.1) j + i by omega]
      · show fX10_fresh_L42 (nI l) N7 rec _ (nI _, nI l) = _
        rw [fX10_fresh_L42_u]
        refine Eq.trans (ite_t (nI_le (Nat.le_refl _) (by omega))) ?_
        unfold fX10_fresh_X42
        refine Eq.trans (ite_t (by rw [h6]; decide)) ?_
        refine Eq.trans (ite_t ((inb_N (by omega)).mpr (by omega))) ?_
        rw [nI_clamp (by omega), e9]
    rw [Nat.zero_add] at run
    exact wp_eq run (NQ.ok h6 hn hmm)
  · refine wp_bd2 (wp_mono (rq_rounds hO hM hI hA5 a1 1 0 (Or.inr ⟨hb, rfl⟩)) ?_)
    rintro ⟨z, N6⟩ ⟨⟨g1, g2, g3, g4⟩, g5⟩
    have g1' : N6.1 0 6 = 1 := g1
    refine wp_jn (wp_neg (by show ¬ N6.1 0 6 = 0; rw [g1']; decide) ?_)
    show wp (fX10_fresh_J31_11 a1 a2 N6 (N6.1 0 6)) _
    rw [g1']
    exact bad N6 a1 a2 g3 g4
  · refine wp_bd2 (wp_mono (rq_rounds hO hM hI hA5 (nI l) 0 (nI (rr s.2 A (X0 s.1) l)) (Or.inl ⟨l, hl, rfl, rfl, rfl⟩)) ?_)
    rintro ⟨z, N6⟩ ⟨⟨g1, g2, g3, g4⟩, g5⟩
    have g2 : z = nI (rr s.2 A (X0 s.1) l) := g2 rfl
    subst g2
    have g1' : N6.1 0 6 = 0 := g1
    refine wp_jn (wp_pos g1' ?_)
    exact wp_pos (rin1_n hb) (bad N6 (nI l) a2 g3 g4)
end RQV
