/-! ===== the law's cases: questions ===== -/
section CASQ
variable {α : Type} {P : α → Prop} {G : LST → Option α} {M N : KS} {s : ST} {v : Int64} {d : UInt64} {xs : Nat → Int32} {i : Nat}
theorem sim_in {f : Int32 → Int64} {wrap : Sum (Nat × KS) (Int32 × KS) → Option (Int32 × KS × Int64)} {oK : Option (Sum (Nat × KS) (Int32 × KS))} {oN : Option (Int32 × KS)} {val : Int32} (hO : OKR s.2) (hK : KT M 0 s) (hB : BGR M N) (kK : wp oK (CQ M s (.inr val))) (hw : ∀ M', wrap (.inr (val, M')) = some (0, M', f val)) (kN : wp oN (NQ N s 0 val)) (hG : ∀ M' N' v' d', REL M' N' → wp (G (M', N', v', d')) P) : wp ((oK.bind wrap).bind fun ya1 => oN.bind fun yb2 => (if (fX10_thrown yb2.2) = ya1.1 then (if ya1.1 = 0 then (if ya1.2.2 = f yb2.1 then G (ya1.2.1, yb2.2, ya1.2.2, d) else none) else G (ya1.2.1, yb2.2, ya1.2.2, d)) else none)) P := by
  refine sim f (wp_bind (wp_mono kK ?_)) hG
  intro r hr
  obtain ⟨M', rfl, h1, h2⟩ := hr
  refine wp_eq (hw M') (wp_mono kN ?_)
  intro b hb
  exact ⟨hb.1, fun _ => (congrArg f (hb.2.1 rfl)).symm, REL.q hO hK hB h1 h2 hb.2.2.1 hb.2.2.2⟩
theorem sim_ex {f : Int32 → Int64} {wrap : Sum (Nat × KS) (Int32 × KS) → Option (Int32 × KS × Int64)} {oK : Option (Sum (Nat × KS) (Int32 × KS))} {oN : Option (Int32 × KS)} {e : Nat} {t val : Int32} {v0 : Int64} (hO : OKR s.2) (hK : KT M 0 s) (hB : BGR M N) (kK : wp oK (CQ M s (.inl e))) (hw : ∀ M', wrap (.inl (e, M')) = some (t, M', v0)) (ht : t ≠ 0) (kN : wp oN (NQ N s t val)) (hG : ∀ M' N' v' d', REL M' N' → wp (G (M', N', v', d')) P) : wp ((oK.bind wrap).bind fun ya1 => oN.bind fun yb2 => (if (fX10_thrown yb2.2) = ya1.1 then (if ya1.1 = 0 then (if ya1.2.2 = f yb2.1 then G (ya1.2.1, yb2.2, ya1.2.2, d) else none) else G (ya1.2.1, yb2.2, ya1.2.2, d)) else none)) P := by
  refine sim f (wp_bind (wp_mono kK ?_)) hG
  intro r hr
  obtain ⟨M', rfl, h1, h2⟩ := hr
  refine wp_eq (hw M') (wp_mono kN ?_)
  intro b hb
  exact ⟨hb.1, fun h => absurd h ht, REL.q hO hK hB h1 h2 hb.2.2.1 hb.2.2.2⟩
theorem b01L_b (b : Bool) : b01L (bI b) = if bI b = 0 then 0 else 1 := rfl
theorem g_2 (h : REL M N) (hG : ∀ M' N' v' d', REL M' N' → wp (G (M', N', v', d')) P) : wp (gL_2 xs i (M, N, v, d) G) P := by
  obtain ⟨s, hO, hK, hM, hS, hB⟩ := h
  obtain ⟨A, hI, hA5⟩ := lay_ex hO
  unfold gL_2 fL_holds
  rcases fact_cases (xs (i + 1)) (xs (i + 2)) (xs (i + 3)) with ⟨r, x, y, hr, hx, hy, e1, e2, e3⟩ | ⟨b1, b2⟩
  · rw [e1, e2, e3]
    exact sim_in (f := b01L) hO hK hB (kq_holds hO hK hS hI hr hx hy _) (fun M' => by cases (DV s.1 s.2 A).1 (36 * r + 6 * x + y) <;> rfl) (rq_holds hO hM hI hr hx hy _) hG
  · exact sim_ex (f := b01L) (e := 0) (t := 1) (val := 0) (v0 := v) hO hK hB (by unfold fX9_holds; rw [b1]; exact wp_pos rfl (wp_some (CQ.inl FQ.rf hS))) (fun M' => rfl) (by decide) (rq_holds_n b2 hM) hG
theorem g_3 (h : REL M N) (hG : ∀ M' N' v' d', REL M' N' → wp (G (M', N', v', d')) P) : wp (gL_3 xs i (M, N, v, d) G) P := by
  obtain ⟨s, hO, hK, hM, hS, hB⟩ := h
  unfold gL_3 fL_isTold
  rcases fact_cases (xs (i + 1)) (xs (i + 2)) (xs (i + 3)) with ⟨r, x, y, hr, hx, hy, e1, e2, e3⟩ | ⟨b1, b2⟩
  · rw [e1, e2, e3]
    exact sim_in (f := b01L) hO hK hB (kq_told hK hS hr hx hy) (fun M' => by cases s.1 (36 * r + 6 * x + y) <;> rfl) (rq_told hM hr hx hy) hG
  · exact sim_ex (f := b01L) (e := 0) (t := 1) (val := 0) (v0 := v) hO hK hB (by unfold fX9_isTold; rw [b1]; exact wp_pos rfl (wp_some (CQ.inl FQ.rf hS))) (fun M' => rfl) (by decide) (rq_told_n b2 hM) hG
theorem g_4 (h : REL M N) (hG : ∀ M' N' v' d', REL M' N' → wp (G (M', N', v', d')) P) : wp (gL_4 xs i (M, N, v, d) G) P := by
  obtain ⟨s, hO, hK, hM, hS, hB⟩ := h
  obtain ⟨A, hI, hA5⟩ := lay_ex hO
  unfold gL_4 fL_factOf
  rcases fact_cases (xs (i + 1)) (xs (i + 2)) (xs (i + 3)) with ⟨r, x, y, hr, hx, hy, e1, e2, e3⟩ | ⟨b1, b2⟩
  · rw [e1, e2, e3]
    cases hs : (DV s.1 s.2 A).1 (36 * r + 6 * x + y)
    · exact sim_ex (f := Int32.toInt64) (e := 2) (t := 2) (val := 0) (v0 := v) hO hK hB (kq_fact hO hK hS hI hr hx hy _ _ (Or.inl ⟨hs, rfl⟩)) (fun M' => rfl) (by decide) (rq_fact hO hM hI hr hx hy _ _ _ (Or.inl ⟨hs, rfl⟩)) hG
    · rcases in_cases (xs (i + 4)) 6 (by decide) with ⟨w, hw, e4⟩ | hb
      · exact sim_in (f := Int32.toInt64) hO hK hB (kq_fact hO hK hS hI hr hx hy _ _ (Or.inr ⟨hs, Or.inl ⟨w, hw, e4, rfl⟩⟩)) (fun M' => rfl) (rq_fact hO hM hI hr hx hy _ _ _ (Or.inr ⟨hs, Or.inl ⟨w, hw, e4, rfl, rfl⟩⟩)) hG
      · exact sim_ex (f := Int32.toInt64) (e := 3) (t := 3) (val := 0) (v0 := v) hO hK hB (kq_fact hO hK hS hI hr hx hy _ _ (Or.inr ⟨hs, Or.inr ⟨hb, rfl⟩⟩)) (fun M' => rfl) (by decide) (rq_fact hO hM hI hr hx hy _ _ _ (Or.inr ⟨hs, Or.inr ⟨hb, rfl⟩⟩)) hG
  · exact sim_ex (f := Int32.toInt64) (e := 0) (t := 1) (val := 0) (v0 := v) hO hK hB (by unfold fX9_factOf; rw [b1]; exact wp_pos rfl (wp_some (CQ.inl FQ.rf hS))) (fun M' => rfl) (by decide) (rq_fact_n b2 hM) hG
theorem g_5 (h : REL M N) (hG : ∀ M' N' v' d', REL M' N' → wp (G (M', N', v', d')) P) : wp (gL_5 xs i (M, N, v, d) G) P := by
  obtain ⟨s, hO, hK, hM, hS, hB⟩ := h
  obtain ⟨A, hI, hA5⟩ := lay_ex hO
  unfold gL_5 fL_ways
  rcases fact_cases (xs (i + 1)) (xs (i + 2)) (xs (i + 3)) with ⟨r, x, y, hr, hx, hy, e1, e2, e3⟩ | ⟨b1, b2⟩
  · rw [e1, e2, e3]
    exact sim_in (f := Int32.toInt64) hO hK hB (kq_ways hO hK hS hI hr hx hy) (fun M' => rfl) (rq_ways hO hM hI hr hx hy) hG
  · exact sim_ex (f := Int32.toInt64) (e := 0) (t := 1) (val := 0) (v0 := v) hO hK hB (by unfold fX9_ways; rw [b1]; exact wp_pos rfl (wp_some (CQ.inl FQ.rf hS))) (fun M' => rfl) (by decide) (rq_ways_n b2 hM) hG
theorem g_6 (h : REL M N) (hG : ∀ M' N' v' d', REL M' N' → wp (G (M', N', v', d')) P) : wp (gL_6 xs i (M, N, v, d) G) P := by
  obtain ⟨s, hO, hK, hM, hS, hB⟩ := h
  obtain ⟨A, hI, hA5⟩ := lay_ex hO
  unfold gL_6 fL_would
  rcases fact_cases (xs (i + 1)) (xs (i + 2)) (xs (i + 3)) with ⟨r, x, y, hr, hx, hy, e1, e2, e3⟩ | ⟨b1, b2⟩
  · rw [e1, e2, e3]
    exact sim_in (f := Int32.toInt64) hO hK hB (kq_would hO hK hS hI hr hx hy) (fun M' => rfl) (rq_would hO hM hI hr hx hy) hG
  · exact sim_ex (f := Int32.toInt64) (e := 0) (t := 1) (val := 0) (v0 := v) hO hK hB (by unfold fX9_would; rw [b1]; exact wp_pos rfl (wp_some (CQ.inl FQ.rf hS))) (fun M' => rfl) (by decide) (rq_would_n b2 hM) hG
theorem g_7 (h : REL M N) (hG : ∀ M' N' v' d', REL M' N' → wp (G (M', N', v', d')) P) : wp (gL_7 xs i (M, N, v, d) G) P := by
  obtain ⟨s, hO, hK, hM, hS, hB⟩ := h
  obtain ⟨A, hI, hA5⟩ := lay_ex hO
  unfold gL_7 fL_kin
  rcases in_cases (xs (i + 1)) 6 (by decide) with ⟨r, hr, e1⟩ | hb
  · rcases in_cases (xs (i + 2)) 6 (by decide) with ⟨x, hx, e2⟩ | hb2
    · rw [e1, e2]
      exact sim_in (f := Int32.toInt64) hO hK hB (kq_kin hO hK hS hI hr hx) (fun M' => rfl) (rq_kin hO hM hI hr hx) hG
    · exact sim_ex (f := Int32.toInt64) (e := 0) (t := 1) (val := 0) (v0 := v) hO hK hB (by unfold fX9_kin; rw [e1, (krel_y hr).1, (krel_n hb2).2.1]; exact wp_jn (wp_neg (by decide) (wp_pos rfl (wp_some (CQ.inl FQ.rf hS))))) (fun M' => rfl) (by decide) (rq_kin_n (Or.inr ⟨⟨r, hr, e1⟩, hb2⟩) hM) hG
  · exact sim_ex (f := Int32.toInt64) (e := 0) (t := 1) (val := 0) (v0 := v) hO hK hB (by unfold fX9_kin; rw [(krel_n hb).1]; exact wp_jn (wp_pos rfl (wp_some (CQ.inl FQ.rf hS)))) (fun M' => rfl) (by decide) (rq_kin_n (Or.inl hb) hM) hG
theorem g_8 (h : REL M N) (hG : ∀ M' N' v' d', REL M' N' → wp (G (M', N', v', d')) P) : wp (gL_8 xs i (M, N, v, d) G) P := by
  obtain ⟨s, hO, hK, hM, hS, hB⟩ := h
  obtain ⟨A, hI, hA5⟩ := lay_ex hO
  unfold gL_8 fL_relationOf
  rcases in_cases (xs (i + 1)) 6 (by decide) with ⟨r, hr, e1⟩ | hb
  · rw [e1]
    rcases in_cases (xs (i + 2)) 6 (by decide) with ⟨w, hw, e2⟩ | hb2
    · exact sim_in (f := Int32.toInt64) hO hK hB (kq_rel hO hK hS hI hr _ _ (Or.inl ⟨w, hw, e2, rfl⟩)) (fun M' => rfl) (rq_rel hO hM hI hr _ _ _ (Or.inl ⟨w, hw, e2, rfl, rfl⟩)) hG
    · exact sim_ex (f := Int32.toInt64) (e := 3) (t := 2) (val := 0) (v0 := v) hO hK hB (kq_rel hO hK hS hI hr _ _ (Or.inr ⟨hb2, rfl⟩)) (fun M' => rfl) (by decide) (rq_rel hO hM hI hr _ _ _ (Or.inr ⟨hb2, rfl⟩)) hG
  · exact sim_ex (f := Int32.toInt64) (e := 0) (t := 1) (val := 0) (v0 := v) hO hK hB (by unfold fX9_relationOf; rw [(krel_n hb).1]; exact wp_pos rfl (wp_some (CQ.inl FQ.rf hS))) (fun M' => rfl) (by decide) (rq_rel_n hb hM) hG
theorem g_9 (h : REL M N) (hG : ∀ M' N' v' d', REL M' N' → wp (G (M', N', v', d')) P) : wp (gL_9 xs i (M, N, v, d) G) P := by
  obtain ⟨s, hO, hK, hM, hS, hB⟩ := h
  obtain ⟨A, hI, hA5⟩ := lay_ex hO
  unfold gL_9 fL_ranked
  rcases in_cases (xs (i + 1)) 6 (by decide) with ⟨r, hr, e1⟩ | hb
  · obtain ⟨qs, hqs, hrk⟩ := rk_onto (DV s.1 s.2 A).1 hr
    exact sim_in (f := Int32.toInt64) hO hK hB (kq_rank hO hK hS hI _ _ (Or.inl ⟨r, qs, hr, hqs, e1, hrk, rfl⟩)) (fun M' => rfl) (rq_rank hO hM hI _ _ _ (Or.inl ⟨r, qs, hr, hqs, e1, hrk, rfl, rfl⟩)) hG
  · exact sim_ex (f := Int32.toInt64) (e := 2) (t := 1) (val := 0) (v0 := v) hO hK hB (kq_rank hO hK hS hI _ _ (Or.inr ⟨hb, rfl⟩)) (fun M' => rfl) (by decide) (rq_rank hO hM hI _ _ _ (Or.inr ⟨hb, rfl⟩)) hG
theorem g_10 (h : REL M N) (hG : ∀ M' N' v' d', REL M' N' → wp (G (M', N', v', d')) P) : wp (gL_10 xs i (M, N, v, d) G) P := by
  obtain ⟨s, hO, hK, hM, hS, hB⟩ := h
  obtain ⟨A, hI, hA5⟩ := lay_ex hO
  unfold gL_10 fL_isMutual
  rcases in_cases (xs (i + 1)) 6 (by decide) with ⟨r, hr, e1⟩ | hb
  · rw [e1]
    exact sim_in (f := b01L) hO hK hB (kq_mut hO hK hS hI hr) (fun M' => by cases mtl (DV s.1 s.2 A).1 r <;> rfl) (rq_mut hO hM hI hr) hG
  · exact sim_ex (f := b01L) (e := 0) (t := 1) (val := 0) (v0 := v) hO hK hB (by unfold fX9_isMutual; rw [(krel_n hb).1]; exact wp_pos rfl (wp_some (CQ.inl FQ.rf hS))) (fun M' => rfl) (by decide) (rq_mut_n hb hM) hG
theorem g_13 (h : REL M N) (hG : ∀ M' N' v' d', REL M' N' → wp (G (M', N', v', d')) P) : wp (gL_13 xs i (M, N, v, d) G) P := by
  obtain ⟨s, hO, hK, hM, hS, hB⟩ := h
  obtain ⟨A, hI, hA5⟩ := lay_ex hO
  have hn := hO.1
  unfold gL_13 fL_ruleOf
  rcases in_cases (xs (i + 1)) s.2.1 (by omega) with ⟨r, hr, e1⟩ | hb
  · rw [e1]
    rcases in_cases (xs (i + 2)) 4 (by decide) with ⟨w, hw, e2⟩ | hb2
    · exact sim_in (f := Int32.toInt64) hO hK hB (kq_rule hO hK hS hI hr _ _ (Or.inl ⟨w, hw, e2, rfl⟩)) (fun M' => rfl) (rq_rule hO hM hI hr _ _ _ (Or.inl ⟨w, hw, e2, rfl, rfl⟩)) hG
    · exact sim_ex (f := Int32.toInt64) (e := 0) (t := 2) (val := 0) (v0 := v) hO hK hB (kq_rule hO hK hS hI hr _ _ (Or.inr ⟨hb2, rfl⟩)) (fun M' => rfl) (by decide) (rq_rule hO hM hI hr _ _ _ (Or.inr ⟨hb2, rfl⟩)) hG
  · exact sim_ex (f := Int32.toInt64) (e := 3) (t := 1) (val := 0) (v0 := v) hO hK hB (by unfold fX9_ruleOf; rw [khas_n hK.2 hb]; exact wp_pos rfl (wp_some (CQ.inl FQ.rf hS))) (fun M' => rfl) (by decide) (rq_rule_n hO hb hM) hG
theorem g_14 (h : REL M N) (hG : ∀ M' N' v' d', REL M' N' → wp (G (M', N', v', d')) P) : wp (gL_14 xs i (M, N, v, d) G) P := by
  obtain ⟨s, hO, hK, hM, hS, hB⟩ := h
  have hn := hO.1
  unfold gL_14 fL_condition
  rcases in_cases (xs (i + 1)) s.2.1 (by omega) with ⟨r, hr, e1⟩ | hb
  · rw [e1]
    have hle := ncd_le s.2 r
    rcases in_cases (xs (i + 2)) (ncd s.2 r) (by omega) with ⟨j, hj, e2⟩ | hb2
    · exact sim_in (f := Int32.toInt64) hO hK hB (kq_cond hO hK hS hr _ _ (Or.inl ⟨j, hj, e2, rfl⟩)) (fun M' => rfl) (rq_cond hO hM hr _ _ _ (Or.inl ⟨j, hj, e2, rfl, rfl⟩)) hG
    · exact sim_ex (f := Int32.toInt64) (e := 2) (t := 2) (val := 0) (v0 := v) hO hK hB (kq_cond hO hK hS hr _ _ (Or.inr ⟨hb2, rfl⟩)) (fun M' => rfl) (by decide) (rq_cond hO hM hr _ _ _ (Or.inr ⟨hb2, rfl⟩)) hG
  · exact sim_ex (f := Int32.toInt64) (e := 3) (t := 1) (val := 0) (v0 := v) hO hK hB (by unfold fX9_condition; rw [khas_n hK.2 hb]; exact wp_pos rfl (wp_some (CQ.inl FQ.rf hS))) (fun M' => rfl) (by decide) (rq_cond_n hO hb hM) hG
theorem g_16 (h : REL M N) (hG : ∀ M' N' v' d', REL M' N' → wp (G (M', N', v', d')) P) : wp (gL_16 xs i (M, N, v, d) G) P := by
  obtain ⟨s, hO, hK, hM, hS, hB⟩ := h
  obtain ⟨A, hI, hA5⟩ := lay_ex hO
  unfold gL_16
  refine wp_bind (wp_mono (kq_layers hO hK hS hI) ?_)
  intro ya ⟨h1, h2, h3⟩
  refine wp_bind (wp_mono (rq_layers hO hM hI) ?_)
  intro yb hb
  exact wp_pos (h1.trans (hb.2.1 rfl).symm) (hG _ _ _ _ (REL.q hO hK hB h3 h2 hb.2.2.1 hb.2.2.2))
theorem g_17 (h : REL M N) (hG : ∀ M' N' v' d', REL M' N' → wp (G (M', N', v', d')) P) : wp (gL_17 xs i (M, N, v, d) G) P := by
  obtain ⟨s, hO, hK, hM, hS, hB⟩ := h
  obtain ⟨A, hI, hA5⟩ := lay_ex hO
  have hm : mx6 A 6 ≤ 5 := mx6_le.mpr hA5
  unfold gL_17 fL_rounds
  rcases in_cases (xs (i + 1)) (mx6 A 6 + 1) (by omega) with ⟨l, hl, e1⟩ | hb
  · exact sim_in (f := Int32.toInt64) hO hK hB (kq_rounds hO hK hS hI _ _ (Or.inl ⟨l, hl, e1, rfl⟩)) (fun M' => rfl) (wp_mono (rq_rounds hO hM hI hA5 _ 0 _ (Or.inl ⟨l, hl, e1, rfl, rfl⟩)) (fun b h => h.1)) hG
  · exact sim_ex (f := Int32.toInt64) (e := 2) (t := 1) (val := 0) (v0 := v) hO hK hB (kq_rounds hO hK hS hI _ _ (Or.inr ⟨hb, rfl⟩)) (fun M' => rfl) (by decide) (wp_mono (rq_rounds hO hM hI hA5 _ 1 0 (Or.inr ⟨hb, rfl⟩)) (fun b h => h.1)) hG
theorem in1_cases (a : Int32) (n : Nat) (hn : n + 1 < 2 ^ 31) : (∃ k, k < n ∧ a = nI (k + 1)) ∨ (a < nI 1 ∨ ¬ a < nI 1 ∧ nI n < a) := by
  rcases in_cases a (n + 1) hn with ⟨k, hk, rfl⟩ | h
  · rcases Nat.eq_zero_or_pos k with q | q
    · rw [q]
      exact Or.inr (Or.inl (by decide))
    · exact Or.inl ⟨k - 1, by omega, by rw [show k - 1 + 1 = k by omega]⟩
  · rcases h with h | ⟨h, h2⟩
    · refine Or.inr (Or.inl ?_)
      rw [fa_lt, nI_toInt (by decide)] at h
      rw [fa_lt, nI_toInt (by decide)]
      omega
    · refine Or.inr (Or.inr ⟨?_, le_lt hn h2⟩)
      rw [fa_le, nI_toInt hn] at h2
      rw [fa_lt, nI_toInt (by decide)]
      omega
theorem g_18 (h : REL M N) (hG : ∀ M' N' v' d', REL M' N' → wp (G (M', N', v', d')) P) : wp (gL_18 xs i (M, N, v, d) G) P := by
  obtain ⟨s, hO, hK, hM, hS, hB⟩ := h
  obtain ⟨A, hI, hA5⟩ := lay_ex hO
  have hm : mx6 A 6 ≤ 5 := mx6_le.mpr hA5
  unfold gL_18 fL_fresh
  rcases in_cases (xs (i + 1)) (mx6 A 6 + 1) (by omega) with ⟨l, hl, e1⟩ | hb
  · have hrr := nr_le (X := dend s.2 A (X0 s.1) l) (R := s.2) (lay := A) (l := l)
    have hi2 : rr s.2 A (X0 s.1) l ≤ 216 := by unfold rr; omega
    rcases in1_cases (xs (i + 2)) (rr s.2 A (X0 s.1) l) (by omega) with ⟨j, hj, e2⟩ | hb2
    · exact sim_in (f := Int32.toInt64) hO hK hB (kq_fresh hO hK hS hI _ _ _ (Or.inl ⟨l, j, hl, hj, e1, e2, rfl⟩)) (fun M' => rfl) (rq_fresh hO hM hI hA5 _ _ _ _ (Or.inl ⟨l, j, hl, hj, e1, e2, rfl, rfl⟩)) hG
    · exact sim_ex (f := Int32.toInt64) (e := 2) (t := 1) (val := 0) (v0 := v) hO hK hB (kq_fresh hO hK hS hI _ _ _ (Or.inr (Or.inr ⟨l, hl, e1, hb2, rfl⟩))) (fun M' => rfl) (by decide) (rq_fresh hO hM hI hA5 _ _ _ _ (Or.inr (Or.inr ⟨l, hl, e1, hb2, rfl⟩))) hG
  · exact sim_ex (f := Int32.toInt64) (e := 2) (t := 1) (val := 0) (v0 := v) hO hK hB (kq_fresh hO hK hS hI _ _ _ (Or.inr (Or.inl ⟨hb, rfl⟩))) (fun M' => rfl) (by decide) (rq_fresh hO hM hI hA5 _ _ _ _ (Or.inr (Or.inl ⟨hb, rfl⟩))) hG
theorem g_24 (h : REL M N) (hG : ∀ M' N' v' d', REL M' N' → wp (G (M', N', v', d')) P) : wp (gL_24 xs i (M, N, v, d) G) P := by
  obtain ⟨s, hO, hK, hM, hS, hB⟩ := h
  unfold gL_24 fX10_errorPosition
  refine wp_bind (wp_nm (wp_some (wp_pos ?_ (hG _ _ _ _ (REL.q hO hK hB FQ.rf hS (NF.t (by decide)) hM.k)))))
  show M.1 121 9 = (kset N 0 6 0).1 0 29
  rw [kset_c, if_neg (by decide)]
  exact hB.2.2.2.2.1
theorem g_25 (h : REL M N) (hG : ∀ M' N' v' d', REL M' N' → wp (G (M', N', v', d')) P) : wp (gL_25 xs i (M, N, v, d) G) P := by
  obtain ⟨s, hO, hK, hM, hS, hB⟩ := h
  have hc := hB.2.2.2.2
  unfold gL_25 fL_refusal
  by_cases h0 : M.1 121 10 = 0
  · refine sim_ex (f := Int32.toInt64) (e := 2) (t := 1) (val := 0) (v0 := v) hO hK hB (by unfold fX9_refusal; exact wp_pos h0 (wp_some (CQ.inl FQ.rf hS))) (fun M' => rfl) (by decide) ?_ hG
    unfold fX10_refusal
    refine wp_jn (wp_pos (by rw [← hc.2.1]; exact h0) ?_)
    unfold fX10_refusal_J13_5
    exact wp_nm (wp_neg (by rw [k06]; decide) (wp_some (NQ.bad (by decide) hM)))
  · refine sim_in (f := Int32.toInt64) (val := if b01 (xs (i + 1)) = 0 then M.1 121 10 else M.1 121 11) hO hK hB ?_ (fun M' => rfl) ?_ hG
    · unfold fX9_refusal
      refine wp_neg h0 (wp_ite (fun e => ?_) (fun e => ?_))
      · rw [if_pos e]; exact wp_some (CQ.inr FQ.rf hS)
      · rw [if_neg e]; exact wp_some (CQ.inr FQ.rf hS)
    · unfold fX10_refusal
      refine wp_jn (wp_neg (by rw [← hc.2.1]; exact h0) ?_)
      unfold fX10_refusal_J13_5
      refine wp_nm (wp_pos (by rw [k06]; decide) (wp_ite (fun e => ?_) (fun e => ?_)))
      · rw [if_pos e, kset_c, if_neg (by decide), ← hc.2.1]; exact wp_some (NQ.ok k06 (NF.t (by decide)) hM.k)
      · rw [if_neg e, kset_c, if_neg (by decide), ← hc.2.2]; exact wp_some (NQ.ok k06 (NF.t (by decide)) hM.k)
theorem g_26 (h : REL M N) (hG : ∀ M' N' v' d', REL M' N' → wp (G (M', N', v', d')) P) : wp (gL_26 xs i (M, N, v, d) G) P := by
  obtain ⟨s, hO, hK, hM, hS, hB⟩ := h
  obtain ⟨A, hI, hA5⟩ := lay_ex hO
  have hB' := hB
  obtain ⟨⟨H, c, nx, hp⟩, _, ⟨ln, ht⟩, _, _⟩ := hB'
  unfold gL_26 fL_account
  rcases in_cases (xs (i + 1)) 10 (by decide) with ⟨w, hw, e1⟩ | hb
  · exact sim_in (f := Int32.toInt64) hO hK hB (kq_acc hO hK hS hI _ _ _ ht.2.1 hp.2.2.2.1 _ (Or.inl ⟨w, hw, e1, rfl⟩)) (fun M' => rfl) (rq_acc hO hM hI _ _ _ _ _ ht.2.2.1 hp.2.2.2.2.1 (Or.inl ⟨w, hw, e1, rfl, rfl⟩)) hG
  · exact sim_ex (f := Int32.toInt64) (e := 0) (t := 1) (val := 0) (v0 := v) hO hK hB (kq_acc hO hK hS hI _ _ _ ht.2.1 hp.2.2.2.1 _ (Or.inr ⟨hb, rfl⟩)) (fun M' => rfl) (by decide) (rq_acc hO hM hI _ _ _ _ _ ht.2.2.1 hp.2.2.2.2.1 (Or.inr ⟨hb, rfl⟩)) hG
theorem g_27 (h : REL M N) (hG : ∀ M' N' v' d', REL M' N' → wp (G (M', N', v', d')) P) : wp (gL_27 xs i (M, N, v, d) G) P := by
  obtain ⟨s, hO, hK, hM, hS, hB⟩ := h
  obtain ⟨A, hI, hA5⟩ := lay_ex hO
  unfold gL_27 fX10_isWell
  refine wp_bind (wp_mono (kq_well hO hK hS hI) ?_)
  intro ya ⟨h1, h2, h3⟩
  refine wp_bind (wp_nm (wp_some (wp_pos h1 (hG _ _ _ _ (REL.q hO hK hB h3 h2 (NF.t (by decide)) hM.k)))))
end CASQ
