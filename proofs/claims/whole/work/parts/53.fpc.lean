/-! ===== the law's cases: doubles and floats ===== -/
section CASF
variable {α : Type} {P : α → Prop} {G : LST → Option α} {M N : KS} {s : ST} {v : Int64} {d : UInt64} {xs : Nat → Int32} {i : Nat} {A : Nat → Nat}
theorem kq_mean (hO : OKR s.2) (hK : KT M 0 s) (hS : SETD M s) (hI : IsLay s.2 s.2.1 A) : wp (fX9_meanDepth M) (fun r => ∃ M', FQ cQ M M' ∧ SETD M' s ∧ ((fb_ct (DV s.1 s.2 A).1 216 = 0 ∧ r = .inl (5, M')) ∨ (fb_ct (DV s.1 s.2 A).1 216 ≠ 0 ∧ r = .inr (FP.ddiv (FP.i2d (nI (fb_sm (DV s.1 s.2 A).2.2.2.2.1 216))) (FP.i2d (nI (fb_ct (DV s.1 s.2 A).1 216))), M')))) := by
  have hB := XB.DV_ (T := s.1) (A := A) hO.ok
  have hle := fb_ct_le (DV s.1 s.2 A).1 216
  have hsum : fb_sm (DV s.1 s.2 A).2.2.2.2.1 216 ≤ 216 * 216 := fb_sm_bound (fun k hk => (hB k hk).2.2.1)
  unfold fX9_meanDepth
  refine wp_bind (wp_mono (held_wp hO hK hS hI) ?_)
  intro M1 ⟨h1, h2, h3, h4⟩
  rw [size_eq h1.2.2.2.1]
  refine wp_bind (wp_some ?_)
  by_cases hn : fb_ct (DV s.1 s.2 A).1 216 = 0
  · exact wp_pos (by rw [hn]; rfl) (wp_some ⟨M1, h4, h2, Or.inl ⟨hn, rfl⟩⟩)
  · refine wp_neg (fun z => hn ((nI_eq (by omega) (by decide)).mp z)) ?_
    refine wp_bind (wp_mono (set_wp hO h3 h2 hI) ?_)
    intro M3 ⟨q1, q2, q3, q4⟩
    rw [ksumd_eq q1.2.2.2.2]
    refine wp_bind (wp_some (wp_pos (nn64_n (div64 (by omega) (by omega) hn)) (wp_some ⟨M3, h4.tr q4, q2, Or.inr ⟨hn, rfl⟩⟩)))
theorem kq_share (hO : OKR s.2) (hK : KT M 0 s) (hS : SETD M s) (hI : IsLay s.2 s.2.1 A) : wp (fX9_toldShare M) (fun r => ∃ M', FQ cQ M M' ∧ SETD M' s ∧ ((fb_ct (DV s.1 s.2 A).1 216 = 0 ∧ r = .inl (5, M')) ∨ (fb_ct (DV s.1 s.2 A).1 216 ≠ 0 ∧ r = .inr (FP.fdiv (FP.i2f (nI (fb_ct s.1 216))) (FP.i2f (nI (fb_ct (DV s.1 s.2 A).1 216))), M')))) := by
  have hle := fb_ct_le (DV s.1 s.2 A).1 216
  have hle2 := fb_ct_le s.1 216
  unfold fX9_toldShare
  refine wp_bind (wp_mono (held_wp hO hK hS hI) ?_)
  intro M1 ⟨h1, h2, h3, h4⟩
  rw [size_eq h1.2.2.2.1]
  refine wp_bind (wp_some ?_)
  by_cases hn : fb_ct (DV s.1 s.2 A).1 216 = 0
  · exact wp_pos (by rw [hn]; rfl) (wp_some ⟨M1, h4, h2, Or.inl ⟨hn, rfl⟩⟩)
  · refine wp_neg (fun z => hn ((nI_eq (by omega) (by decide)).mp z)) ?_
    rw [size_eq h3.1]
    exact wp_bind (wp_some (wp_pos (nn32_n (div32 (by omega) (by omega) hn)) (wp_some ⟨M1, h4, h2, Or.inr ⟨hn, rfl⟩⟩)))
theorem rq_mean (hO : OKR s.2) (hM : MDs (N.1 1) s) (hI : IsLay s.2 s.2.1 A) : wp (fX10_meanDepth N) (fun b => NF N b.2 ∧ MDs (b.2.1 1) s ∧ ((fb_ct (DV s.1 s.2 A).1 216 = 0 ∧ b.2.1 0 6 = 1) ∨ (fb_ct (DV s.1 s.2 A).1 216 ≠ 0 ∧ b.2.1 0 6 = 0 ∧ b.1 = FP.ddiv (FP.i2d (nI (fb_sm (DV s.1 s.2 A).2.2.2.2.1 216))) (FP.i2d (nI (fb_ct (DV s.1 s.2 A).1 216)))))) := by
  have hB := XB.DV_ (T := s.1) (A := A) hO.ok
  have hSX := SX.DV_ (T := s.1) hI.1 hO.ok
  have hle := fb_ct_le (DV s.1 s.2 A).1 216
  have hsum : fb_sm (DV s.1 s.2 A).2.2.2.2.1 216 ≤ 216 * 216 := fb_sm_bound (fun k hk => (hB k hk).2.2.1)
  unfold fX10_meanDepth
  refine wp_bd2 (wp_mono (allh_wp hO hM hI) ?_)
  rintro ⟨v2, N1⟩ ⟨g1, g2, g3, g4⟩
  have g1 : v2 = nI (fb_ct (DV s.1 s.2 A).1 216) := g1
  subst g1
  have g2' : RD N1 s.1 s.2 A 6 := g2
  have g3' : FR cdv N N1 := g3
  have g4' : MDs (N1.1 1) s := g4
  have hn1 : NF N N1 := g3'.nf (by decide) (by decide) (by decide) (by decide) (by decide)
  refine wp_jn ?_
  by_cases hn : fb_ct (DV s.1 s.2 A).1 216 = 0
  · refine wp_pos (by show nI (fb_ct (DV s.1 s.2 A).1 216) = 0; rw [hn]; rfl) ?_
    unfold fX10_meanDepth_J15_7
    exact wp_nm (wp_neg (by rw [k06]; decide) (wp_some ⟨hn1.tr (NF.t (by decide)), g4'.k, Or.inl ⟨hn, k06⟩⟩))
  · refine wp_neg (fun z => hn ((nI_eq (by omega) (by decide)).mp z)) ?_
    unfold fX10_meanDepth_J15_7
    refine wp_nm (wp_pos (by rw [k06]; decide) ?_)
    refine wp_bd2 (wp_mono (rdep_wp g2'.x.k hB hSX (MDs.k g4').2.2 hO (by decide) true) ?_)
    rintro ⟨z, N6⟩ ⟨q1, q2⟩
    rw [if_pos rfl] at q1
    have q1 : z = nI (fb_sm (DV s.1 s.2 A).2.2.2.2.1 216) := q1
    subst q1
    have q2' : FR c13 (kset N1 0 6 0) N6 := q2
    refine wp_pos (nn64_n (div64 (by omega) (by omega) hn)) (wp_some ⟨hn1.tr ((NF.t (j := 6) (v := 0) (by decide)).tr (q2'.nf (by decide) (by decide) (by decide) (by decide) (by decide))), ?_, Or.inr ⟨hn, ?_, rfl⟩⟩)
    · show MDs (N6.1 1) s
      rw [q2'.1 1 (by decide)]
      exact MDs.k g4'
    · show N6.1 0 6 = 0
      rw [q2'.1 0 (by decide), k06]
theorem rq_share (hO : OKR s.2) (hM : MDs (N.1 1) s) (hI : IsLay s.2 s.2.1 A) : wp (fX10_toldShare N) (fun b => NF N b.2 ∧ MDs (b.2.1 1) s ∧ ((fb_ct (DV s.1 s.2 A).1 216 = 0 ∧ b.2.1 0 6 = 1) ∨ (fb_ct (DV s.1 s.2 A).1 216 ≠ 0 ∧ b.2.1 0 6 = 0 ∧ b.1 = FP.fdiv (FP.i2f (nI (fb_ct s.1 216))) (FP.i2f (nI (fb_ct (DV s.1 s.2 A).1 216)))))) := by
  have hle := fb_ct_le (DV s.1 s.2 A).1 216
  have hle2 := fb_ct_le s.1 216
  unfold fX10_toldShare
  refine wp_bd2 (wp_mono (allh_wp hO hM hI) ?_)
  rintro ⟨v2, N1⟩ ⟨g1, g2, g3, g4⟩
  have g1 : v2 = nI (fb_ct (DV s.1 s.2 A).1 216) := g1
  subst g1
  have g3' : FR cdv N N1 := g3
  have g4' : MDs (N1.1 1) s := g4
  have hn1 : NF N N1 := g3'.nf (by decide) (by decide) (by decide) (by decide) (by decide)
  refine wp_jn ?_
  by_cases hn : fb_ct (DV s.1 s.2 A).1 216 = 0
  · refine wp_pos (by show nI (fb_ct (DV s.1 s.2 A).1 216) = 0; rw [hn]; rfl) ?_
    unfold fX10_toldShare_J15_7
    exact wp_nm (wp_neg (by rw [k06]; decide) (wp_some ⟨hn1.tr (NF.t (by decide)), g4'.k, Or.inl ⟨hn, k06⟩⟩))
  · refine wp_neg (fun z => hn ((nI_eq (by omega) (by decide)).mp z)) ?_
    unfold fX10_toldShare_J15_7
    refine wp_nm (wp_pos (by rw [k06]; decide) ?_)
    rw [rtolda_eq (MDs.k g4').1]
    exact wp_bind (wp_some (wp_pos (nn32_n (div32 (by omega) (by omega) hn)) (wp_some ⟨hn1.tr (NF.t (by decide)), g4'.k, Or.inr ⟨hn, k06, rfl⟩⟩)))
theorem g_28 (h : REL M N) (hG : ∀ M' N' v' d', REL M' N' → wp (G (M', N', v', d')) P) : wp (gL_28 xs i (M, N, v, d) G) P := by
  obtain ⟨s, hO, hK, hM, hS, hB⟩ := h
  obtain ⟨A, hI, hA5⟩ := lay_ex hO
  have hXB := XB.DV_ (T := s.1) (A := A) hO.ok
  have hle := fb_ct_le (DV s.1 s.2 A).1 216
  have hsum : fb_sm (DV s.1 s.2 A).2.2.2.2.1 216 ≤ 216 * 216 := fb_sm_bound (fun k hk => (hXB k hk).2.2.1)
  unfold gL_28 fL_meanDepth
  refine wp_bind (wp_bind (wp_mono (kq_mean hO hK hS hI) ?_))
  intro r ⟨M', h1, h2, h3⟩
  rcases h3 with ⟨hn, rfl⟩ | ⟨hn, rfl⟩
  · refine wp_pos rfl (wp_some (wp_bind (wp_mono (rq_mean hO hM hI) ?_)))
    intro b ⟨g1, g2, g3⟩
    rcases g3 with ⟨_, g3⟩ | ⟨g3, _⟩
    · exact wp_pos g3 (wp_neg (show ¬ (1 : Int32) = 0 by decide) (hG _ _ _ _ (REL.q hO hK hB h1 h2 g1 g2)))
    · exact absurd hn g3
  · refine wp_some (wp_bind (wp_mono (rq_mean hO hM hI) ?_))
    intro b ⟨g1, g2, g3⟩
    rcases g3 with ⟨g3, _⟩ | ⟨_, g3, g4⟩
    · exact absurd g3 hn
    · refine wp_pos g3 (wp_pos rfl (wp_pos ?_ (hG _ _ _ _ (REL.q hO hK hB h1 h2 g1 g2))))
      rw [g4]
      exact dcmp_s (div64 (by omega) (by omega) hn)
theorem g_29 (h : REL M N) (hG : ∀ M' N' v' d', REL M' N' → wp (G (M', N', v', d')) P) : wp (gL_29 xs i (M, N, v, d) G) P := by
  obtain ⟨s, hO, hK, hM, hS, hB⟩ := h
  obtain ⟨A, hI, hA5⟩ := lay_ex hO
  have hle := fb_ct_le (DV s.1 s.2 A).1 216
  have hle2 := fb_ct_le s.1 216
  unfold gL_29 fL_toldShare
  refine wp_bind (wp_bind (wp_mono (kq_share hO hK hS hI) ?_))
  intro r ⟨M', h1, h2, h3⟩
  rcases h3 with ⟨hn, rfl⟩ | ⟨hn, rfl⟩
  · refine wp_pos rfl (wp_some (wp_bind (wp_mono (rq_share hO hM hI) ?_)))
    intro b ⟨g1, g2, g3⟩
    rcases g3 with ⟨_, g3⟩ | ⟨g3, _⟩
    · exact wp_pos g3 (wp_neg (show ¬ (1 : Int32) = 0 by decide) (hG _ _ _ _ (REL.q hO hK hB h1 h2 g1 g2)))
    · exact absurd hn g3
  · have hd := f2d_le (div32 (a := fb_ct s.1 216) (b := fb_ct (DV s.1 s.2 A).1 216) (by omega) (by omega) hn)
    refine wp_pos (nn64_n hd) (wp_some (wp_bind (wp_mono (rq_share hO hM hI) ?_)))
    intro b ⟨g1, g2, g3⟩
    rcases g3 with ⟨g3, _⟩ | ⟨_, g3, g4⟩
    · exact absurd g3 hn
    · refine wp_pos g3 (wp_pos rfl (wp_pos ?_ (wp_pos ?_ (hG _ _ _ _ (REL.q hO hK hB h1 h2 g1 g2)))))
      · rw [g4]; exact nn64_n hd
      · rw [g4]; exact dcmp_s hd
end CASF
