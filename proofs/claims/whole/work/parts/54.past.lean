/-! ===== states are copied; the past ===== -/
abbrev cS (o : Nat) : Nat → Prop := fun a => cF o a ∨ cR o a
section PAS
variable {M M' N N' : KS} {s : ST} {o o1 : Nat} {R : RS} {H : Nat → ST} {c nx : Nat}
theorem rcopy_wp (hR : RA M o1 R) (hn : R.1 ≤ 11) (hne : o ≠ o1) : wp (fX6_copy M o o1) (fun M' => RA M' o R ∧ FR (cR o) M M') := by
  have d1 : iR o1 ≠ iR o ∧ iR o1 ≠ iRh o ∧ iR o1 ≠ iRc o ∧ iR o1 ≠ iRa o := by unfold iR iRh iRc iRa; omega
  have d2 : iRh o1 ≠ iR o ∧ iRh o1 ≠ iRh o ∧ iRh o1 ≠ iRc o ∧ iRh o1 ≠ iRa o := by unfold iR iRh iRc iRa; omega
  have d3 : iRc o1 ≠ iR o ∧ iRc o1 ≠ iRh o ∧ iRc o1 ≠ iRc o ∧ iRc o1 ≠ iRa o := by unfold iR iRh iRc iRa; omega
  have d4 : iRa o1 ≠ iR o ∧ iRa o1 ≠ iRh o ∧ iRa o1 ≠ iRc o ∧ iRa o1 ≠ iRa o := by unfold iR iRh iRc iRa; omega
  have d5 : iRh o ≠ iR o ∧ iRc o ≠ iR o ∧ iRa o ≠ iR o ∧ iRh o ≠ iRa o ∧ iRh o ≠ iRc o ∧ iRa o ≠ iRc o := by unfold iR iRh iRc iRa; omega
  unfold fX6_copy
  refine wp_nm ?_
  refine wp_for 11 (fun (i : Nat) (s : Int32 × KS) => s.1 = nI i ∧ (∀ r, r < i → s.2.1 (iRh o) r = M.1 (iRh o1) r ∧ s.2.1 (iRa o) r = M.1 (iRa o1) r) ∧ s.2.1 (iR o) 3 = M.1 (iR o1) 3 ∧ FR (cR o) M s.2) (fun i s rec hi hI hrec => ?_) (by decide) (Nat.zero_le _) ⟨rfl, fun r hr => absurd hr (Nat.not_lt_zero _), by show (kset M (iR o) 3 _).1 (iR o) 3 = _; rw [kset_eq], FR.rf.set (Or.inl rfl)⟩
  obtain ⟨v, M2⟩ := s
  obtain ⟨hv, h1, h2, hF⟩ := hI
  have hv : v = nI i := hv
  subst hv
  have h1' : ∀ r, r < i → M2.1 (iRh o) r = M.1 (iRh o1) r ∧ M2.1 (iRa o) r = M.1 (iRa o1) r := h1
  have h2' : M2.1 (iR o) 3 = M.1 (iR o1) 3 := h2
  have hF2 : FR (cR o) M M2 := hF
  rw [fX6_copy_L10_u]
  have nP : ∀ a, (a ≠ iR o ∧ a ≠ iRh o ∧ a ≠ iRc o ∧ a ≠ iRa o) → ¬ cR o a := fun a h z => by
    rcases z with z | z | z | z
    · exact h.1 z
    · exact h.2.1 z
    · exact h.2.2.1 z
    · exact h.2.2.2 z
  rcases Nat.lt_or_ge i 11 with hlt | hge
  · have ib : inb (nI i) 11 := (inb_N (by omega)).mpr hlt
    have ck : (nI i).toNatClampNeg = i := nI_clamp (by omega)
    refine wp_neg (nI_ge hlt (by decide)) (wp_pos ib (wp_pos ib (wp_nm (wp_pos ib (wp_pos ib (wp_nm (wp_nm ?_)))))))
    rw [ck, li1, nI_add]
    have e1 : M2.1 (iRh o1) i = M.1 (iRh o1) i := congrFun (hF2.1 _ (nP _ d2)) i
    have e2 : M2.1 (iRa o1) i = M.1 (iRa o1) i := congrFun (hF2.1 _ (nP _ d4)) i
    refine hrec _ hlt ⟨rfl, fun r hr => ?_, ?_, (hF2.set (Or.inr (Or.inl rfl))).set (Or.inr (Or.inr (Or.inr rfl)))⟩
    · show (kset (kset M2 (iRh o) i _) (iRa o) i _).1 (iRh o) r = _ ∧ (kset (kset M2 (iRh o) i _) (iRa o) i _).1 (iRa o) r = _
      rw [kset_ne (Or.inl d5.2.2.2.1), kset_c, kset_c, kset_ne (Or.inl d5.2.2.2.1.symm), kset_ne (Or.inl d4.2.1), e1, e2]
      by_cases q : r = i
      · rw [if_pos q, if_pos q, q]
        exact ⟨rfl, rfl⟩
      · rw [if_neg q, if_neg q]
        exact h1' r (by omega)
    · show (kset (kset M2 (iRh o) i _) (iRa o) i _).1 (iR o) 3 = _
      rw [kset_ne (Or.inl d5.2.2.1.symm), kset_ne (Or.inl d5.1.symm)]
      exact h2'
  · have : i = 11 := by omega
    subst this
    refine wp_pos (nI_le (Nat.le_refl _) (by decide)) ?_
    unfold fX6_copy_X10
    refine wp_for 33 (fun (i : Nat) (s : Int32 × KS) => s.1 = nI i ∧ (∀ r, r < i → s.2.1 (iRc o) r = M.1 (iRc o1) r) ∧ (∀ r, r < 11 → s.2.1 (iRh o) r = M.1 (iRh o1) r ∧ s.2.1 (iRa o) r = M.1 (iRa o1) r) ∧ s.2.1 (iR o) 3 = M.1 (iR o1) 3 ∧ FR (cR o) M s.2) (fun i s rec hi hI hrec => ?_) (by decide) (Nat.zero_le _) ⟨rfl, fun r hr => absurd hr (Nat.not_lt_zero _), h1', h2', hF2⟩
    obtain ⟨v, M3⟩ := s
    obtain ⟨hv, g0, g1, g2, gF⟩ := hI
    have hv : v = nI i := hv
    subst hv
    have g0' : ∀ r, r < i → M3.1 (iRc o) r = M.1 (iRc o1) r := g0
    have g1' : ∀ r, r < 11 → M3.1 (iRh o) r = M.1 (iRh o1) r ∧ M3.1 (iRa o) r = M.1 (iRa o1) r := g1
    have g2' : M3.1 (iR o) 3 = M.1 (iR o1) 3 := g2
    have gF' : FR (cR o) M M3 := gF
    rw [fX6_copy_L51_u]
    rcases Nat.lt_or_ge i 33 with hlt | hge
    · have ib : inb (nI i) 33 := (inb_N (by omega)).mpr hlt
      have ck : (nI i).toNatClampNeg = i := nI_clamp (by omega)
      refine wp_neg (nI_ge hlt (by decide)) (wp_pos ib (wp_pos ib (wp_nm (wp_nm ?_))))
      rw [ck, li1, nI_add]
      have e1 : M3.1 (iRc o1) i = M.1 (iRc o1) i := congrFun (gF'.1 _ (nP _ d3)) i
      refine hrec _ hlt ⟨rfl, fun r hr => ?_, fun r hr => ?_, ?_, gF'.set (Or.inr (Or.inr (Or.inl rfl)))⟩
      · show (kset M3 (iRc o) i _).1 (iRc o) r = _
        rw [kset_c, e1]
        by_cases q : r = i
        · rw [if_pos q, q]
        · rw [if_neg q]
          exact g0' r (by omega)
      · show (kset M3 (iRc o) i _).1 (iRh o) r = _ ∧ (kset M3 (iRc o) i _).1 (iRa o) r = _
        rw [kset_ne (Or.inl d5.2.2.2.2.1), kset_ne (Or.inl d5.2.2.2.2.2)]
        exact g1' r hr
      · show (kset M3 (iRc o) i _).1 (iR o) 3 = _
        rw [kset_ne (Or.inl d5.2.1.symm)]
        exact g2'
    · have : i = 33 := by omega
      subst this
      refine wp_pos (nI_le (Nat.le_refl _) (by decide)) ?_
      unfold fX6_copy_X51
      refine wp_some ⟨⟨g2'.trans hR.1, fun r hr => ?_⟩, gF'⟩
      have h3 := hR.2 r hr
      rw [(g1' r (by omega)).1, (g1' r (by omega)).2]
      refine ⟨h3.1, fun j hj => ?_, h3.2.2⟩
      rw [g0' _ (by omega)]
      exact h3.2.1 j hj
theorem cF_ix {a : Nat} (h : cF o a) : a / 3 = o := by rcases h with h | h <;> (rw [h]; simp only [iFt, iFf]; omega)
theorem cR_ix {a : Nat} (h : cR o a) : 45 ≤ a ∧ (a - 45) / 4 = o := by rcases h with h | h | h | h <;> (rw [h]; simp only [iR, iRh, iRc, iRa]; omega)
theorem scopy_wp (hK : KT M o1 s) (hn : s.2.1 ≤ 11) (hne : o ≠ o1) (ho : o ≤ 10) : wp (fX7_copy M o o1) (fun M' => KT M' o s ∧ FR (cS o) M M') := by
  have lo : ∀ a, 45 ≤ a → ¬ cF o a := fun a ha h => by have := cF_ix h; omega
  have hi : ∀ a, a ≤ 32 → ¬ cR o a := fun a ha h => by have := cR_ix h; omega
  unfold fX7_copy
  refine wp_bind (wp_mono (copy_wp hK.1 hne) ?_)
  intro M1 ⟨h1, hF1⟩
  have hR1 : RA M1 o1 s.2 := hK.2.fr hF1 (lo _ (by unfold iR; omega)) (lo _ (by unfold iRh; omega)) (lo _ (by unfold iRc; omega)) (lo _ (by unfold iRa; omega))
  refine wp_bind (wp_mono (rcopy_wp hR1 hn hne) ?_)
  intro M2 ⟨h2, hF2⟩
  exact wp_some ⟨⟨h1.fr hF2 (hi _ (by unfold iFt; omega)) (hi _ (by unfold iFf; omega)), h2⟩, (hF1.wk (fun a h => Or.inl h)).tr (hF2.wk (fun a h => Or.inr h))⟩
theorem cS_ix {a : Nat} (h : cS o a) : (a ≤ 3 * o + 2 ∧ a / 3 = o) ∨ (45 ≤ a ∧ (a - 45) / 4 = o) := by
  rcases h with h | h
  · refine Or.inl ⟨?_, cF_ix h⟩
    have := cF_ix h
    omega
  · exact Or.inr (cR_ix h)
theorem KT.fr {f : Nat} {P : Nat → Prop} (h : KT M f s) (k : FR P M M') (hp : ∀ a, cS f a → ¬ P a) : KT M' f s := ⟨h.1.fr k (hp _ (Or.inl (Or.inl rfl))) (hp _ (Or.inl (Or.inr rfl))), h.2.fr k (hp _ (Or.inr (Or.inl rfl))) (hp _ (Or.inr (Or.inr (Or.inl rfl)))) (hp _ (Or.inr (Or.inr (Or.inr (Or.inl rfl))))) (hp _ (Or.inr (Or.inr (Or.inr (Or.inr rfl)))))⟩
theorem KT.fq2 {f : Nat} {P : Nat → Prop} (h : KT M f s) (k : FQ P M M') (hp : ∀ a, cS f a → ¬ P a) : KT M' f s := ⟨h.1.fq k (hp _ (Or.inl (Or.inl rfl))) (hp _ (Or.inl (Or.inr rfl))), h.2.fq k (hp _ (Or.inr (Or.inl rfl))) (hp _ (Or.inr (Or.inr (Or.inl rfl)))) (hp _ (Or.inr (Or.inr (Or.inr (Or.inl rfl))))) (hp _ (Or.inr (Or.inr (Or.inr (Or.inr rfl)))))⟩
/-- two states' cells are apart -/
theorem cS_ne {f g a : Nat} (hf : f ≤ 10) (hg : g ≤ 10) (hne : f ≠ g) (h : cS f a) : ¬ cS g a := fun k => by
  have h1 := cS_ix h
  have h2 := cS_ix k
  omega
theorem mark_wp (hK : KT M 0 s) (hn : s.2.1 ≤ 11) (h1 : M.1 113 1 = nI nx) (hnx : nx < 9) : wp (fX5_mark M 0) (fun M' => KT M' (2 + nx) s ∧ FR (cS (2 + nx)) M M') := by
  unfold fX5_mark
  rw [h1]
  refine wp_pos ((inb_N (by omega)).mpr hnx) ?_
  rw [nI_clamp (by omega)]
  exact wp_bind (wp_mono (scopy_wp hK hn (by omega) (by omega)) (fun M' h => wp_some h))
theorem give_wp (hK : KT M (2 + nx) s) (hn : s.2.1 ≤ 11) (h1 : M.1 113 1 = nI nx) (hnx : nx < 9) : wp (fX5_giveBack M 0) (fun M' => KT M' 0 s ∧ FR (cS 0) M M') := by
  unfold fX5_giveBack
  rw [h1]
  refine wp_pos ((inb_N (by omega)).mpr hnx) ?_
  rw [nI_clamp (by omega)]
  exact wp_bind (wp_mono (scopy_wp hK hn (by omega) (by decide)) (fun M' h => wp_some h))
abbrev c113 : Nat → Prop := fun a => a = 113
theorem kkeep_wp (h1 : M.1 113 1 = nI nx) (hnx : nx < 9) (h2 : M.1 113 2 = nI c) (hc : c ≤ 8) : wp (fX5_keep M) (fun M' => M'.1 113 1 = nI ((nx + 1) % 9) ∧ M'.1 113 2 = nI (min (c + 1) 8) ∧ FR c113 M M') := by
  unfold fX5_keep
  refine wp_jn ?_
  have key : ∀ v, v = nI ((nx + 1) % 9) → wp (fX5_keep_J20_7 M v) (fun M' => M'.1 113 1 = nI ((nx + 1) % 9) ∧ M'.1 113 2 = nI (min (c + 1) 8) ∧ FR c113 M M') := fun v hv => by
    subst hv
    unfold fX5_keep_J20_7
    refine wp_nm (wp_nm (wp_some ?_))
    have e2 : (kset M 113 1 (nI ((nx + 1) % 9))).1 113 2 = nI c := by rw [kset_c, if_neg (by decide)]; exact h2
    rw [e2, li1, nI_add, li8, jminN (by omega) (by decide)]
    exact ⟨by rw [kset_c, if_neg (by decide), kset_c, if_pos rfl], by rw [kset_c, if_pos rfl], ((FR.rf (P := c113)).set (rfl : c113 113)).set (rfl : c113 113)⟩
  rw [h1]
  rcases Nat.lt_or_ge nx 8 with q | q
  · refine wp_neg (fun z => by rw [li8, nI_leI (by decide) (by omega)] at z; omega) (key _ ?_)
    rw [li1, nI_add, Nat.mod_eq_of_lt (by omega)]
  · refine wp_pos (by rw [li8, nI_leI (by decide) (by omega)]; omega) (key _ ?_)
    rw [show nx = 8 by omega]
    rfl
/-! the reference's past -/
theorem kcpy_eq {i0 i1 b : Nat} {sp dp n : Int32} : (kcpy N i0 i1 sp dp n).1 i1 b = va_cpy (N.1 i0) (N.1 i1) sp.toNatClampNeg dp.toNatClampNeg n.toNatClampNeg b := by
  show (if i1 = i1 then va_cpy (N.1 i0) (N.1 i1) sp.toNatClampNeg dp.toNatClampNeg n.toNatClampNeg b else N.1 i1 b) = _
  rw [if_pos rfl]
theorem kcpy_nc {i0 i1 a : Nat} {sp dp n : Int32} (h : a ≠ i1) : (kcpy N i0 i1 sp dp n).1 a = N.1 a := by
  funext b
  show (if a = i1 then va_cpy (N.1 i0) (N.1 i1) sp.toNatClampNeg dp.toNatClampNeg n.toNatClampNeg b else N.1 a b) = _
  rw [if_neg h]
theorem rkeep_wp : wp (fX10_keep N) (fun N' => N'.1 0 6 = 0 ∧ (∀ k, k < 257 → N'.1 2 k = N.1 1 k) ∧ (∀ a, a ≠ 0 → a ≠ 2 → N'.1 a = N.1 a) ∧ ∀ j, j ≠ 6 → N'.1 0 j = N.1 0 j) := by
  unfold fX10_keep
  refine wp_nm (wp_pos (by decide) (wp_nm (wp_some ?_)))
  have h257 : (257 : Int32).toNatClampNeg = 257 := by decide
  have h0 : (0 : Int32).toNatClampNeg = 0 := by decide
  refine ⟨?_, fun k hk => ?_, fun a h1 h2 => ?_, fun j hj => ?_⟩
  · rw [kcpy_nc (by decide), k06]
  · rw [kcpy_eq, h0, h257, pk_cpy_in (Nat.zero_le _) (by omega), Nat.zero_add, Nat.sub_zero, kset_nc (by decide)]
  · rw [kcpy_nc h2, kset_nc h1]
  · rw [kcpy_nc (by decide), kset_c, if_neg hj]
theorem rends1_wp {v t : Int32} (h6 : N.1 0 6 = t) (ht : ¬ t ≤ 0) : wp (fX10_ends N v) (fun b => b.1 = 0 ∧ (∀ k, k < 257 → b.2.1 1 k = N.1 2 k) ∧ ∀ a, a ≠ 1 → b.2.1 a = N.1 a) := by
  unfold fX10_ends
  rw [h6]
  refine wp_neg ht (wp_pos (by decide) (wp_nm (wp_some ?_)))
  have h257 : (257 : Int32).toNatClampNeg = 257 := by decide
  have h0 : (0 : Int32).toNatClampNeg = 0 := by decide
  refine ⟨rfl, fun k hk => ?_, fun a h1 => ?_⟩
  · show (kcpy N 2 1 0 0 257).1 1 k = _
    rw [kcpy_eq, h0, h257, pk_cpy_in (Nat.zero_le _) (by omega), Nat.zero_add, Nat.sub_zero]
  · exact kcpy_nc h1
/-- where the state i of the new past comes from -/
theorem rends0_wp {v : Int32} (h6 : N.1 0 6 = 0) (h5 : N.1 0 5 = nI c) (hc : c ≤ 8) : wp (fX10_ends N v) (fun b => b.1 = v ∧ b.2.1 0 5 = nI (min (c + 1) 8) ∧ (∀ i, i < min (c + 1) 8 → ∀ k, k < 257 → b.2.1 4 (257 * i + k) = if i + 1 = min (c + 1) 8 then N.1 2 k else N.1 4 (257 * (i + (if c = 8 then 1 else 0)) + k)) ∧ (∀ a, a ≠ 0 → a ≠ 4 → b.2.1 a = N.1 a) ∧ ∀ j, j ≠ 5 → b.2.1 0 j = N.1 0 j) := by
  unfold fX10_ends
  rw [h6]
  refine wp_pos (by decide) (wp_jn ?_)
  have h257 : (257 : Int32).toNatClampNeg = 257 := by decide
  have h0 : (0 : Int32).toNatClampNeg = 0 := by decide
  have tail : ∀ (N1 : KS) (m : Nat), m ≤ 7 → N1.1 0 5 = nI m → wp (fX10_ends_J62_31 v N1) (fun b => b.1 = v ∧ b.2.1 0 5 = nI (m + 1) ∧ (∀ k, k < 257 → b.2.1 4 (257 * m + k) = N1.1 2 k) ∧ (∀ q, q < 257 * m → b.2.1 4 q = N1.1 4 q) ∧ (∀ a, a ≠ 0 → a ≠ 4 → b.2.1 a = N1.1 a) ∧ ∀ j, j ≠ 5 → b.2.1 0 j = N1.1 0 j) := by
    intro N1 m hm hN5
    unfold fX10_ends_J62_31
    have em : (257 : Int32) * N1.1 0 5 = nI (257 * m) := by rw [hN5, li257, pk_mul]
    have ec : (nI (257 * m)).toNatClampNeg = 257 * m := nI_clamp (by omega)
    rw [em]
    refine wp_pos ⟨by decide, fun z => (nI_lt0 (by omega)).mp z, by decide, by decide, by rw [ec, h257]; omega⟩ (wp_nm (wp_nm (wp_some ?_)))
    have n5 : (kcpy N1 2 4 0 (nI (257 * m)) 257).1 0 5 = nI m := by rw [kcpy_nc (by decide)]; exact hN5
    refine ⟨rfl, ?_, fun k hk => ?_, fun q hq => ?_, fun a ha1 ha4 => ?_, fun j hj => ?_⟩
    · show (kset (kcpy N1 2 4 0 (nI (257 * m)) 257) 0 5 ((kcpy N1 2 4 0 (nI (257 * m)) 257).1 0 5 + 1)).1 0 5 = _
      rw [kset_c, if_pos rfl, n5, li1, nI_add]
    · show (kset (kcpy N1 2 4 0 (nI (257 * m)) 257) 0 5 _).1 4 (257 * m + k) = _
      rw [kset_nc (by decide), kcpy_eq, h0, h257, ec, pk_cpy_in (by omega) (by omega), show 0 + (257 * m + k - 257 * m) = k by omega]
    · show (kset (kcpy N1 2 4 0 (nI (257 * m)) 257) 0 5 _).1 4 q = _
      rw [kset_nc (by decide), kcpy_eq, h0, h257, ec, pk_cpy_out (Or.inl hq)]
    · show (kset (kcpy N1 2 4 0 (nI (257 * m)) 257) 0 5 _).1 a = _
      rw [kset_nc ha1, kcpy_nc ha4]
    · show (kset (kcpy N1 2 4 0 (nI (257 * m)) 257) 0 5 _).1 0 j = _
      rw [kset_c, if_neg hj, kcpy_nc (by decide)]
  rcases Nat.lt_or_ge c 8 with hlt | hge
  · refine wp_neg (by rw [h5, li8]; exact fun z => by have := (nI_eq (by omega) (by decide)).mp z; omega) (wp_mono (tail N c (by omega) h5) ?_)
    intro b ⟨q1, q2, q3, q4, q5, q6⟩
    have em : min (c + 1) 8 = c + 1 := by omega
    rw [em]
    refine ⟨q1, q2, fun i hi k hk => ?_, q5, q6⟩
    by_cases e : i + 1 = c + 1
    · rw [if_pos e, show i = c by omega]
      exact q3 k hk
    · rw [if_neg e, if_neg (by omega), Nat.add_zero]
      exact q4 _ (by omega)
  · have hc8 : c = 8 := by omega
    subst hc8
    refine wp_pos (by rw [h5]; rfl) (wp_pos (by decide) (wp_nm (wp_nm ?_)))
    have h1799 : (1799 : Int32).toNatClampNeg = 1799 := by decide
    obtain ⟨N1, hN1⟩ : ∃ N1, N1 = kcpy N 4 4 257 0 1799 := ⟨_, rfl⟩
    have r4 : ∀ q, q < 1799 → N1.1 4 q = N.1 4 (257 + q) := fun q hq => by
      rw [hN1, kcpy_eq, h0, h257, h1799, pk_cpy_in (Nat.zero_le _) (by omega), Nat.sub_zero]
    have ro : ∀ a, a ≠ 4 → N1.1 a = N.1 a := fun a ha => by rw [hN1]; exact kcpy_nc ha
    have e5 : N1.1 0 5 - 1 = nI 7 := by rw [ro 0 (by decide), h5]; decide
    rw [← hN1, e5]
    refine wp_mono (tail (kset N1 0 5 (nI 7)) 7 (by decide) (by rw [kset_c, if_pos rfl])) ?_
    intro b ⟨q1, q2, q3, q4, q5, q6⟩
    rw [show min (8 + 1) 8 = 8 by decide]
    refine ⟨q1, q2, fun i hi k hk => ?_, fun a h1 h4 => ?_, fun j hj => ?_⟩
    · by_cases e : i + 1 = 8
      · rw [if_pos e, show i = 7 by omega, q3 k hk, kset_nc (by decide), ro 2 (by decide)]
      · rw [if_neg e, if_pos rfl, q4 _ (by omega), kset_nc (by decide), r4 _ (by omega), show 257 + (257 * i + k) = 257 * (i + 1) + k by omega]
    · rw [q5 a h1 h4, kset_nc h1, ro a h4]
    · rw [q6 j hj, kset_c, if_neg hj, ro 0 (by decide)]
end PAS
