/-! ===== tell, untell ===== -/
def addF (s : ST) (k : Nat) : ST := (fun i => s.1 i || i == k, s.2)
def takF (s : ST) (k : Nat) : ST := (fun i => s.1 i && !(i == k), s.2)
section TEL
variable {M N : KS} {s : ST} {A : Nat → Nat} {P : Nat → Prop}
theorem RA.c0 {M' : KS} {o : Nat} {R : RS} (h : RA M o R) (k : FR (cF 0) M M') : RA M' o R := h.fr k (fun z => by have := cF_ix z; unfold iR at this; omega) (fun z => by have := cF_ix z; unfold iRh at this; omega) (fun z => by have := cF_ix z; unfold iRc at this; omega) (fun z => by have := cF_ix z; unfold iRa at this; omega)
theorem kadd_wp (hK : KT M 0 s) (hS : SETD M s) {k : Nat} (hk : k < 216) : wp (fX9_addFact M (nI k)) (fun a => (s.1 k = true ∧ KREF M s (nI 2) (nI (szr s.1 (k / 36))) a) ∨ (s.1 k = false ∧ KDONE M (addF s k) a)) := by
  unfold fX9_addFact
  rw [has_eq hK.1 hk]
  refine wp_bind (wp_some ?_)
  cases e : s.1 k
  · refine wp_pos rfl (wp_bind (wp_mono (put_wp hK.1 hk) ?_))
    intro M2 ⟨h1, h2⟩
    refine wp_bind (out_wp (wp_some (Or.inr ⟨rfl, rfl, ?_, SETD.z (by rw [kset_c, if_pos rfl]), ?_⟩)))
    · have f3 : FR (fun a => a = 106) M2 (kset M2 106 9 0) := FR.rf.set rfl
      exact KT.fr (f := 0) (s := addF s k) ⟨h1, hK.2.c0 h2⟩ f3 (fun a ha z => by have := cS_ix ha; have z' : a = 106 := z; omega)
    · exact (h2.q.wk (fun a h => Or.inl (Or.inl h))).set (Or.inr (by decide))
  · refine wp_neg (show ¬ bI true = 0 by decide) ?_
    have e1 : nI k / 36 = nI (k / 36) := by rw [li36, pk_div (by omega) (by omega) (by omega)]
    rw [e1, sizeOf_eq hK.1 (show k / 36 < 6 by omega)]
    refine wp_bind (wp_some (wp_bd2 (wp_mono (krefuse_wp hK hS FQ.rf) ?_)))
    intro a ha
    exact wp_pos (by rw [ha.1]; exact Or.inl rfl) (wp_some (Or.inl ⟨rfl, ha⟩))
theorem ktak_wp (hO : OKR s.2) (hK : KT M 0 s) (hS : SETD M s) (hI : IsLay s.2 s.2.1 A) {k : Nat} (hk : k < 216) : wp (fX9_takeFact M (nI k)) (fun a => (s.1 k = false ∧ KREF M s (nI 3) (bI ((DV s.1 s.2 A).1 k)) a) ∨ (s.1 k = true ∧ KDONE M (takF s k) a)) := by
  unfold fX9_takeFact
  rw [has_eq hK.1 hk]
  refine wp_bind (wp_some ?_)
  cases e : s.1 k
  · refine wp_pos rfl (wp_bind (wp_mono (set_wp hO hK hS hI) ?_))
    intro M1 ⟨h1, h2, h3, h4⟩
    rw [has_eq h1.2.2.2.1 hk]
    refine wp_bind (wp_some (wp_jn ?_))
    have key : ∀ w, w = bI ((DV s.1 s.2 A).1 k) → wp (fX9_takeFact_J42_34 M1 w) (fun a => (false = false ∧ KREF M s (nI 3) (bI ((DV s.1 s.2 A).1 k)) a) ∨ (false = true ∧ KDONE M (takF s k) a)) := fun w hw => by
      rw [hw]
      unfold fX9_takeFact_J42_34
      refine wp_bd2 (wp_mono (krefuse_wp h3 h2 (h4.wk (fun a h => Or.inr h))) ?_)
      intro a ha
      exact wp_pos (by rw [ha.1]; exact Or.inl rfl) (wp_some (Or.inl ⟨rfl, ha⟩))
    by_cases q : (DV s.1 s.2 A).1 k = true
    · exact wp_neg (by rw [q]; decide) (key _ (by rw [q]; rfl))
    · have q' : (DV s.1 s.2 A).1 k = false := by simpa using q
      exact wp_pos (by rw [q']; rfl) (key _ (by rw [q']; rfl))
  · refine wp_neg (show ¬ bI true = 0 by decide) (wp_bind (wp_mono (take_wp hK.1 hk) ?_))
    intro M2 ⟨h1, h2⟩
    refine wp_bind (out_wp (wp_some (Or.inr ⟨rfl, rfl, ?_, SETD.z (by rw [kset_c, if_pos rfl]), ?_⟩)))
    · have f3 : FR (fun a => a = 106) M2 (kset M2 106 9 0) := FR.rf.set rfl
      exact KT.fr (f := 0) (s := takF s k) ⟨h1, hK.2.c0 h2⟩ f3 (fun a ha z => by have := cS_ix ha; have z' : a = 106 := z; omega)
    · exact (h2.q.wk (fun a h => Or.inl (Or.inl h))).set (Or.inr (by decide))
theorem MDs.st {f : Nat → Int32} {s' : ST} {k : Nat} (h : MDs (N.1 1) s) (hk : k < 216) (hR : s'.2 = s.2) (h1 : ∀ q, q < 216 → q ≠ k → s'.1 q = s.1 q) : MDs ((kset N 1 k (bI (s'.1 k))).1 1) s' := by
  refine ⟨fun q hq => ?_, ?_, fun r hr => ?_⟩
  · rw [kset_c]
    by_cases e : q = k
    · rw [if_pos e, e]
    · rw [if_neg e, h1 q hq e]; exact h.1 q hq
  · rw [kset_c, if_neg (by omega), hR]; exact h.2.1
  · rw [hR] at hr ⊢
    have h3 := h.2.2 r hr
    rw [kset_c, if_neg (by omega)]
    refine ⟨h3.1, fun j hj => ?_⟩
    rw [kset_c, if_neg (by omega)]
    exact h3.2 j hj
theorem cdv_6 : ∀ a, rw6 a → ¬ cdv a := fun a h => by omega
theorem rtell_wp (hO : OKR s.2) (hM : MDs (N.1 1) s) (hI : IsLay s.2 s.2.1 A) {r x y : Nat} (hr : r < 6) (hx : x < 6) (hy : y < 6) : wp (fX10_doTell N (nI r) (nI x) (nI y)) (fun b => (s.1 (36 * r + 6 * x + y) = true ∧ NREF N (nI 2) (nI (szr s.1 r)) b) ∨ (s.1 (36 * r + 6 * x + y) = false ∧ NDONE N (addF s (36 * r + 6 * x + y)) (nI (fb_ct (DV (addF s (36 * r + 6 * x + y)).1 s.2 A).1 216)) b)) := by
  have hk : 36 * r + 6 * x + y < 216 := by omega
  unfold fX10_doTell
  rw [(fact_y hr hx hy).2]
  refine wp_bind (wp_some (wp_neg (by decide) ?_))
  have e0 : (0 + fX10_fact (nI r) (nI x) (nI y) : Int32) = nI (36 * r + 6 * x + y) := by rw [rfact_eq, li0, nI_add, Nat.zero_add]
  rw [e0]
  have hcl : (nI (36 * r + 6 * x + y)).toNatClampNeg = 36 * r + 6 * x + y := nI_clamp (by omega)
  have hin : inb (nI (36 * r + 6 * x + y)) 257 := (inb_N (by omega)).mpr (by omega)
  simp only [hcl]
  generalize 36 * r + 6 * x + y = k at *
  refine wp_pos hin ?_
  have hs := hM.1 k hk
  cases e : s.1 k
  · refine wp_neg (by rw [hs, e]; decide) (wp_pos hin (wp_nm ?_))
    have hm : MDs ((kset N 1 k 1).1 1) (addF s k) := by
      have := MDs.st (f := N.1 1) (s' := addF s k) hM hk rfl (fun q _ hne => by show (s.1 q || q == k) = _; rw [show (q == k) = false from beq_eq_false_iff_ne.mpr hne, Bool.or_false])
      rw [show bI ((addF s k).1 k) = 1 by show bI (s.1 k || k == k) = 1; rw [beq_self_eq_true, Bool.or_true]; rfl] at this
      exact this
    refine wp_bd2 (wp_mono (allh_wp (s := addF s k) hO hm hI) ?_)
    rintro ⟨z, N3⟩ ⟨q1, q2, q3, q4⟩
    have q3' : FR cdv (kset N 1 k 1) N3 := q3
    refine wp_some (Or.inr ⟨rfl, q1, q4, fun a ha => ?_, ?_⟩)
    · show N3.1 a = N.1 a
      rw [q3'.1 a (cdv_6 a ha), kset_nc (by omega)]
    · show N3.1 0 = N.1 0
      rw [q3'.1 0 (by decide), kset_nc (by decide)]
  · refine wp_pos (by rw [hs, e]; decide) ?_
    rw [rtold_eq hM.1 hr]
    refine wp_bind (wp_some (wp_bd2 (wp_mono (rrefuse_wp (N := N) (fun _ _ => rfl) rfl) ?_)))
    intro b hb
    exact wp_some (Or.inl ⟨rfl, hb⟩)
theorem runtell_wp (hO : OKR s.2) (hM : MDs (N.1 1) s) (hI : IsLay s.2 s.2.1 A) {r x y : Nat} (hr : r < 6) (hx : x < 6) (hy : y < 6) : wp (fX10_doUntell N (nI r) (nI x) (nI y)) (fun b => (s.1 (36 * r + 6 * x + y) = false ∧ NREF N (nI 3) (bI ((DV s.1 s.2 A).1 (36 * r + 6 * x + y))) b) ∨ (s.1 (36 * r + 6 * x + y) = true ∧ NDONE N (takF s (36 * r + 6 * x + y)) (nI (fb_ct (DV (takF s (36 * r + 6 * x + y)).1 s.2 A).1 216)) b)) := by
  have hk : 36 * r + 6 * x + y < 216 := by omega
  unfold fX10_doUntell
  rw [(fact_y hr hx hy).2]
  refine wp_bind (wp_some (wp_neg (by decide) (wp_nm ?_)))
  have z0 : (0 + nI (36 * r + 6 * x + y) : Int32) = nI (36 * r + 6 * x + y) := by rw [li0, nI_add, Nat.zero_add]
  simp only [rfact_eq, z0]
  have hcl : (nI (36 * r + 6 * x + y)).toNatClampNeg = 36 * r + 6 * x + y := nI_clamp (by omega)
  have hin : inb (nI (36 * r + 6 * x + y)) 257 := (inb_N (by omega)).mpr (by omega)
  have hin2 : inb (nI (36 * r + 6 * x + y)) 216 := (inb_N (by omega)).mpr hk
  simp only [hcl]
  generalize 36 * r + 6 * x + y = k at *
  refine wp_pos hin ?_
  have hs := hM.1 k hk
  cases e : s.1 k
  · refine wp_pos (by rw [hs, e]; rfl) ?_
    refine wp_bind (wp_mono (rd_wp hO hM hI) ?_)
    intro N6 ⟨h1, h2, h3⟩
    refine wp_pos hin2 (wp_jn ?_)
    have hs6 := (stg6 h1.x hk).1
    have key : ∀ w, w = bI ((DV s.1 s.2 A).1 k) → wp (fX10_doUntell_J56_48 N6 w) (fun b => (false = false ∧ NREF N (nI 3) (bI ((DV s.1 s.2 A).1 k)) b) ∨ (false = true ∧ NDONE N (takF s k) (nI (fb_ct (DV (takF s k).1 s.2 A).1 216)) b)) := fun w hw => by
      rw [hw]
      unfold fX10_doUntell_J56_48
      refine wp_bd2 (wp_mono (rrefuse_wp (N := N) (fun a ha => h2.1 a (cdv_6 a ha)) (h2.1 0 (by decide))) ?_)
      intro b hb
      exact wp_some (Or.inl ⟨rfl, hb⟩)
    by_cases q : (DV s.1 s.2 A).1 k = true
    · exact wp_neg (fun z => by rw [hs6.mp z] at q; exact absurd q (by decide)) (key _ (by rw [q]; rfl))
    · have q' : (DV s.1 s.2 A).1 k = false := by simpa using q
      exact wp_pos (hs6.mpr q') (key _ (by rw [q']; rfl))
  · refine wp_neg (by rw [hs, e]; decide) (wp_pos hin (wp_nm ?_))
    have hm : MDs ((kset N 1 k 0).1 1) (takF s k) := by
      have := MDs.st (f := N.1 1) (s' := takF s k) hM hk rfl (fun q _ hne => by show (s.1 q && !(q == k)) = _; rw [show (q == k) = false from beq_eq_false_iff_ne.mpr hne, Bool.not_false, Bool.and_true])
      rw [show bI ((takF s k).1 k) = 0 by show bI (s.1 k && !(k == k)) = 0; rw [beq_self_eq_true, Bool.not_true, Bool.and_false]; rfl] at this
      exact this
    refine wp_bd2 (wp_mono (allh_wp (s := takF s k) hO hm hI) ?_)
    rintro ⟨z, N3⟩ ⟨q1, q2, q3, q4⟩
    have q3' : FR cdv (kset N 1 k 0) N3 := q3
    refine wp_some (Or.inr ⟨rfl, q1, q4, fun a ha => ?_, ?_⟩)
    · show N3.1 a = N.1 a
      rw [q3'.1 a (cdv_6 a ha), kset_nc (by omega)]
    · show N3.1 0 = N.1 0
      rw [q3'.1 0 (by decide), kset_nc (by decide)]
/-- a call that is wrong from the start -/
theorem wrong_wp (hO : OKR s.2) (hM : MDs (N.1 1) s) {t : Int32} (ht : ¬ t ≤ 0) (ht0 : t ≠ 0) {v : Int32} {f : KS → Option (Int32 × KS)} (hf : ∀ N1, (∀ a, a ≠ 0 → a ≠ 2 → N1.1 a = N.1 a) → wp (f N1) (fun b => b.2.1 0 6 = t ∧ (∀ a, a ≠ 0 → a ≠ 1 → b.2.1 a = N1.1 a) ∧ ∀ j, j ≠ 6 → b.2.1 0 j = N1.1 0 j)) : wp ((fX10_keep N).bind fun M1 => bd2 (f M1) fun v3 M2 => bd2 (fX10_ends M2 v3) fun v5 M4 => some (v5, M4)) (NQ N s t v) := by
  refine wp_bind (wp_mono rkeep_wp ?_)
  intro N1 ⟨n1, n2, n3, n4⟩
  refine wp_bd2 (wp_mono (hf N1 n3) ?_)
  intro b ⟨b1, b2, b3⟩
  refine wp_bd2 (wp_mono (rends1_wp b1 ht) ?_)
  intro e ⟨e1, e2, e3⟩
  have f0 : e.2.1 0 = b.2.1 0 := e3 0 (by decide)
  refine wp_some ⟨by show e.2.1 0 6 = t; rw [f0]; exact b1, fun h => absurd h ht0, ⟨fun a ha => ?_, fun j hj => ?_⟩, hM.cong hO.1 (fun k hk => ?_)⟩
  · show e.2.1 a = N.1 a
    rw [e3 a (by omega), b2 a (by omega) (by omega), n3 a (by omega) (by omega)]
  · show e.2.1 0 j = N.1 0 j
    rw [f0, b3 j (by omega), n4 j (by omega)]
  · show N.1 1 k = e.2.1 1 k
    rw [e2 k hk, b2 2 (by decide) (by decide), n2 k hk]
theorem fails_wp {t : Int32} : wp (fX10_fails N t) (fun b => b.2.1 0 6 = t ∧ (∀ a, a ≠ 0 → a ≠ 1 → b.2.1 a = N.1 a) ∧ ∀ j, j ≠ 6 → b.2.1 0 j = N.1 0 j) := by
  unfold fX10_fails
  exact wp_nm (wp_some ⟨k06, fun a h0 _ => kset_nc h0, fun j hj => by show (kset N 0 6 t).1 0 j = _; rw [kset_c, if_neg hj]⟩)
end TEL
section CAST
variable {α : Type} {P : α → Prop} {G : LST → Option α} {M N : KS} {s : ST} {v : Int64} {d : UInt64} {xs : Nat → Int32} {i : Nat}
/-- the end of a call that changes: what holds is counted -/
theorem count_wp {M4 : KS} {s' : ST} {A : Nat → Nat} (hO : OKR s'.2) (hK : KT M4 0 s') (hS : SETD M4 s') (hI : IsLay s'.2 s'.2.1 A) : wp ((fX9_held M4).bind fun M5 => (fX2_size M5 11).bind fun v6 => (some (Sum.inr (v6, M5)) : Option (Sum (Nat × KS) (Int32 × KS)))) (CQ M4 s' (.inr (nI (fb_ct (DV s'.1 s'.2 A).1 216)))) := by
  refine wp_bind (wp_mono (held_wp hO hK hS hI) ?_)
  intro M1 ⟨h1, h2, h3, h4⟩
  rw [size_eq h1.2.2.2.1]
  exact wp_bind (wp_some (wp_some (CQ.inr h4 h2)))
theorem g_0 (h : REL M N) (hG : ∀ M' N' v' d', REL M' N' → wp (G (M', N', v', d')) P) : wp (gL_0 xs i (M, N, v, d) G) P := by
  obtain ⟨s, hO, hK, hM, hS, hB⟩ := h
  obtain ⟨A, hI, hA5⟩ := lay_ex hO
  unfold gL_0 fL_tell
  rcases fact_cases (xs (i + 1)) (xs (i + 2)) (xs (i + 3)) with ⟨r, x, y, hr, hx, hy, e1, e2, e3⟩ | ⟨b1, b2⟩
  · rw [e1, e2, e3]
    have hk : 36 * r + 6 * x + y < 216 := by omega
    refine sim Int32.toInt64 (wp_bind ?_) hG
    unfold fX9_tell
    rw [(fact_y hr hx hy).1, num_eq]
    refine wp_neg (by decide) (wp_bind (wp_mono (mark_all hO hK hM hS hB) ?_))
    intro M1 ⟨m1, m2, m3, m4⟩
    refine wp_bd2 (wp_mono (kadd_wp m1 m2 hk) ?_)
    intro a ha
    rcases ha with ⟨hs, ha⟩ | ⟨hs, ha⟩
    · refine wp_pos ha.1 (wp_some (wp_neg (show ¬ (1 : Nat) = 0 by decide) (wp_pos rfl (wp_some ?_))))
      unfold fX10_tell
      refine wp_bind (wp_mono m4 ?_)
      intro N1 ⟨n1, n2, n3, n4, n5⟩
      refine wp_bd2 (wp_mono (rtell_wp hO n2 hI hr hx hy) ?_)
      intro b hb
      rcases hb with ⟨_, hb⟩ | ⟨hb, _⟩
      · rw [show (36 * r + 6 * x + y) / 36 = r by omega] at ha
        refine wp_bd2 (wp_mono (ref_fin n1 hO ha hb) ?_)
        intro e ⟨q1, q2, q3⟩
        exact wp_some ⟨q1, fun h => absurd h (show ¬ (2 : Int32) = 0 by decide), s, hO, ha.2.1, q2, ha.2.2.1, q3⟩
      · rw [hs] at hb; exact absurd hb (by decide)
    · refine wp_neg (by rw [ha.1]; decide) ?_
      -- the class keeps the change, the reference ends
      have hfin : wp (fX10_keep N) (fun N1 => wp (fX10_doTell N1 (nI r) (nI x) (nI y)) (fun b => b.1 = nI (fb_ct (DV (addF s (36 * r + 6 * x + y)).1 s.2 A).1 216) ∧ wp (fX5_keep a.2) (fun M4 => KT M4 0 (addF s (36 * r + 6 * x + y)) ∧ SETD M4 (addF s (36 * r + 6 * x + y)) ∧ wp (fX10_ends b.2 b.1) (fun e => e.1 = b.1 ∧ e.2.1 0 6 = 0 ∧ MDs (e.2.1 1) (addF s (36 * r + 6 * x + y)) ∧ BGR M4 e.2)))) := by
        refine wp_mono m4 ?_
        intro N1 ⟨n1, n2, n3, n4, n5⟩
        refine wp_mono (rtell_wp hO n2 hI hr hx hy) ?_
        intro b hb
        rcases hb with ⟨hb, _⟩ | ⟨_, hb⟩
        · rw [hs] at hb; exact absurd hb (by decide)
        · exact ⟨hb.1, done_fin n1 hO n3 ha hb⟩
      obtain ⟨N1, hN1, hfin⟩ := hfin
      obtain ⟨b, hb, hb1, hfin⟩ := hfin
      obtain ⟨M4, hM4, q1, q2, hfin⟩ := hfin
      obtain ⟨e, he, q3, q4, q5, q6⟩ := hfin
      rw [hM4]
      refine wp_bind (wp_some (wp_mono (count_wp (s' := addF s (36 * r + 6 * x + y)) hO q1 q2 hI) ?_))
      rintro rr ⟨M5, rfl, c1, c2⟩
      refine wp_some ?_
      unfold fX10_tell
      rw [hN1]
      refine wp_bind (wp_some ?_)
      rw [hb]
      refine wp_bd2 (wp_some ?_)
      rw [he]
      refine wp_bd2 (wp_some (wp_some ⟨q4, fun _ => ?_, addF s (36 * r + 6 * x + y), hO, KT.cq q1 (by decide) c1, q5, c2, q6.q c1 NF.rf⟩))
      show Int32.toInt64 _ = Int32.toInt64 e.1
      rw [q3, hb1]
      rfl
  · refine sim_ex (f := Int32.toInt64) (e := 0) (t := 1) (val := 0) (v0 := v) hO hK hB (by unfold fX9_tell; rw [b1]; exact wp_pos rfl (wp_some (CQ.inl FQ.rf hS))) (fun M' => rfl) (by decide) ?_ hG
    unfold fX10_tell
    refine wrong_wp hO hM (by decide) (by decide) (fun N1 _ => ?_)
    unfold fX10_doTell
    rw [b2]
    exact wp_bind (wp_some (wp_pos rfl (wp_bd2 (wp_mono fails_wp (fun b hb => wp_some hb)))))
end CAST
