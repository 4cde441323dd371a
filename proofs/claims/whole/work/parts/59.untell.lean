/-! ===== untell ===== -/
section CASV
variable {α : Type} {P : α → Prop} {G : LST → Option α} {M N : KS} {s : ST} {v : Int64} {d : UInt64} {xs : Nat → Int32} {i : Nat}
theorem g_1 (h : REL M N) (hG : ∀ M' N' v' d', REL M' N' → wp (G (M', N', v', d')) P) : wp (gL_1 xs i (M, N, v, d) G) P := by
  obtain ⟨s, hO, hK, hM, hS, hB⟩ := h
  obtain ⟨A, hI, hA5⟩ := lay_ex hO
  unfold gL_1 fL_untell
  rcases fact_cases (xs (i + 1)) (xs (i + 2)) (xs (i + 3)) with ⟨r, x, y, hr, hx, hy, e1, e2, e3⟩ | ⟨b1, b2⟩
  · rw [e1, e2, e3]
    have hk : 36 * r + 6 * x + y < 216 := by omega
    refine sim Int32.toInt64 (wp_bind ?_) hG
    unfold fX9_untell
    rw [(fact_y hr hx hy).1, num_eq]
    refine wp_neg (by decide) (wp_bind (wp_mono (mark_all hO hK hM hS hB) ?_))
    intro M1 ⟨m1, m2, m3, m4⟩
    refine wp_bd2 (wp_mono (ktak_wp hO m1 m2 hI hk) ?_)
    intro a ha
    rcases ha with ⟨hs, ha⟩ | ⟨hs, ha⟩
    · refine wp_pos ha.1 (wp_some (wp_neg (show ¬ (1 : Nat) = 0 by decide) (wp_pos rfl (wp_some ?_))))
      unfold fX10_untell
      refine wp_bind (wp_mono m4 ?_)
      intro N1 ⟨n1, n2, n3, n4, n5⟩
      refine wp_bd2 (wp_mono (runtell_wp hO n2 hI hr hx hy) ?_)
      intro b hb
      rcases hb with ⟨_, hb⟩ | ⟨hb, _⟩
      · refine wp_bd2 (wp_mono (ref_fin n1 hO ha hb) ?_)
        intro e ⟨q1, q2, q3⟩
        exact wp_some ⟨q1, fun h => absurd h (show ¬ (2 : Int32) = 0 by decide), s, hO, ha.2.1, q2, ha.2.2.1, q3⟩
      · rw [hs] at hb; exact absurd hb (by decide)
    · refine wp_neg (by rw [ha.1]; decide) ?_
      -- the class keeps the change, the reference ends
      have hfin : wp (fX10_keep N) (fun N1 => wp (fX10_doUntell N1 (nI r) (nI x) (nI y)) (fun b => b.1 = nI (fb_ct (DV (takF s (36 * r + 6 * x + y)).1 s.2 A).1 216) ∧ wp (fX5_keep a.2) (fun M4 => KT M4 0 (takF s (36 * r + 6 * x + y)) ∧ SETD M4 (takF s (36 * r + 6 * x + y)) ∧ wp (fX10_ends b.2 b.1) (fun e => e.1 = b.1 ∧ e.2.1 0 6 = 0 ∧ MDs (e.2.1 1) (takF s (36 * r + 6 * x + y)) ∧ BGR M4 e.2)))) := by
        refine wp_mono m4 ?_
        intro N1 ⟨n1, n2, n3, n4, n5⟩
        refine wp_mono (runtell_wp hO n2 hI hr hx hy) ?_
        intro b hb
        rcases hb with ⟨hb, _⟩ | ⟨_, hb⟩
        · rw [hs] at hb; exact absurd hb (by decide)
        · exact ⟨hb.1, done_fin n1 hO n3 ha hb⟩
      obtain ⟨N1, hN1, hfin⟩ := hfin
      obtain ⟨b, hb, hb1, hfin⟩ := hfin
      obtain ⟨M4, hM4, q1, q2, hfin⟩ := hfin
      obtain ⟨e, he, q3, q4, q5, q6⟩ := hfin
      rw [hM4]
      refine wp_bind (wp_some (wp_mono (count_wp (s' := takF s (36 * r + 6 * x + y)) hO q1 q2 hI) ?_))
      rintro rr ⟨M5, rfl, c1, c2⟩
      refine wp_some ?_
      unfold fX10_untell
      rw [hN1]
      refine wp_bind (wp_some ?_)
      rw [hb]
      refine wp_bd2 (wp_some ?_)
      rw [he]
      refine wp_bd2 (wp_some (wp_some ⟨q4, fun _ => ?_, takF s (36 * r + 6 * x + y), hO, KT.cq q1 (by decide) c1, q5, c2, q6.q c1 NF.rf⟩))
      show Int32.toInt64 _ = Int32.toInt64 e.1
      rw [q3, hb1]
      rfl
  · refine sim_ex (f := Int32.toInt64) (e := 0) (t := 1) (val := 0) (v0 := v) hO hK hB (by unfold fX9_untell; rw [b1]; exact wp_pos rfl (wp_some (CQ.inl FQ.rf hS))) (fun M' => rfl) (by decide) ?_ hG
    unfold fX10_untell
    refine wrong_wp hO hM (by decide) (by decide) (fun N1 _ => ?_)
    unfold fX10_doUntell
    rw [b2]
    exact wp_bind (wp_some (wp_pos rfl (wp_bd2 (wp_mono fails_wp (fun b hb => wp_some hb)))))
end CASV
