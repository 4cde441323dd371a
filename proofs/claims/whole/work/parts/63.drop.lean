/-! ===== a rule is dropped ===== -/
def dl (r q : Nat) : Nat := if q < r then q else q + 1
def delR (R : RS) (r : Nat) : RS := (R.1 - 1, fun q => R.2.1 (dl r q), fun q j => R.2.2 (dl r q) j)
theorem dl_lt {r q n : Nat} (hr : r < n) (hq : q < n - 1) : dl r q < n := by
  unfold dl
  split <;> omega
theorem delR_ok {R : RS} (hO : OKR R) {r : Nat} (hr : r < R.1) : OKR (delR R r) := by
  have hn := hO.1
  refine ⟨by show R.1 - 1 ≤ 10; omega, fun q hq => hO.2.1 (dl r q) (dl_lt hr hq), ?_⟩
  obtain ⟨L, hL⟩ := hO.2.2
  exact ⟨L, fun q hq j hj h0 => hL (dl r q) (dl_lt hr hq) j hj h0⟩
section DRO
variable {M N : KS} {s : ST} {R : RS} {A : Nat → Nat} {P : Nat → Prop}
theorem krem_wp (hR : RA M 0 R) (hn : R.1 ≤ 10) {r : Nat} (hr : r < R.1) : wp (fX6_remove M 0 (nI r)) (fun M' => RA M' 0 (delR R r) ∧ FR (cR 0) M M') := by
  have hc0 : M.1 45 3 = nI R.1 := hR.1
  unfold fX6_remove
  refine wp_neg (by rw [khas_y hR hn hr]; decide) (wp_pos (by rw [show M.1 (iR 0) 3 = nI R.1 from hR.1]; exact nI_le hn (by decide)) ?_)
  refine wp_for (R.1 - 1) (fun (i : Nat) (s : Int32 × KS) => s.1 = nI i ∧ r ≤ i ∧ (∀ q, s.2.1 46 q = (if r ≤ q ∧ q < i then M.1 46 (q + 1) else M.1 46 q) ∧ s.2.1 48 q = (if r ≤ q ∧ q < i then M.1 48 (q + 1) else M.1 48 q)) ∧ FR (fun a => a = 46 ∨ a = 48) M s.2) (fun i s rec hi hI hrec => ?_) (by omega) (i := r) (by omega) ⟨rfl, Nat.le_refl _, fun q => ⟨by rw [if_neg (by omega)], by rw [if_neg (by omega)]⟩, FR.rf⟩
  obtain ⟨v, M2⟩ := s
  obtain ⟨hv, hri, h1, hF⟩ := hI
  have hv : v = nI i := hv
  subst hv
  have h1 : ∀ q, M2.1 46 q = (if r ≤ q ∧ q < i then M.1 46 (q + 1) else M.1 46 q) ∧ M2.1 48 q = (if r ≤ q ∧ q < i then M.1 48 (q + 1) else M.1 48 q) := h1
  have hF : FR (fun a => a = 46 ∨ a = 48) M M2 := hF
  have hc2 : M2.1 (iR 0) 3 = nI R.1 := (congrFun (hF.1 45 (by decide)) 3).trans hc0
  rw [fX6_remove_L20_u, hc2]
  have e1 : (nI i + 1 : Int32) = nI (i + 1) := by rw [li1, nI_add]
  rw [e1]
  rcases Nat.lt_or_ge i (R.1 - 1) with hlt | hge
  · have ib : inb (nI i) 11 := (inb_N (by omega)).mpr (by omega)
    have ib1 : inb (nI (i + 1)) 11 := (inb_N (by omega)).mpr (by omega)
    have ck : (nI i).toNatClampNeg = i := nI_clamp (by omega)
    have ck1 : (nI (i + 1)).toNatClampNeg = i + 1 := nI_clamp (by omega)
    refine wp_neg (nI_ge (show i + 1 < R.1 by omega) (by omega)) (wp_pos ib1 (wp_pos ib (wp_nm (wp_pos ib1 (wp_pos ib (wp_nm (wp_nm ?_)))))))
    rw [ck, ck1]
    refine hrec _ hlt ⟨rfl, by omega, fun q => ?_, (hF.set (Or.inl rfl)).set (Or.inr rfl)⟩
    show (kset (kset M2 46 i (M2.1 46 (i + 1))) 48 i ((kset M2 46 i (M2.1 46 (i + 1))).1 48 (i + 1))).1 46 q = _ ∧ (kset (kset M2 46 i (M2.1 46 (i + 1))) 48 i ((kset M2 46 i (M2.1 46 (i + 1))).1 48 (i + 1))).1 48 q = _
    rw [kset_nc (show 46 ≠ 48 by decide), kset_nc (show 48 ≠ 46 by decide), kset_c, kset_c, kset_nc (show 48 ≠ 46 by decide), (h1 (i + 1)).1, (h1 (i + 1)).2, if_neg (show ¬ (r ≤ i + 1 ∧ i + 1 < i) by omega), if_neg (show ¬ (r ≤ i + 1 ∧ i + 1 < i) by omega)]
    by_cases e : q = i
    · subst e
      have t : r ≤ q ∧ q < q + 1 := ⟨hri, by omega⟩
      rw [if_pos rfl, if_pos rfl, if_pos t, if_pos t]
      exact ⟨rfl, rfl⟩
    · rw [if_neg e, if_neg e, (h1 q).1, (h1 q).2]
      by_cases t : r ≤ q ∧ q < i
      · have t2 : r ≤ q ∧ q < i + 1 := ⟨t.1, by omega⟩
        rw [if_pos t, if_pos t, if_pos t2, if_pos t2]
        exact ⟨rfl, rfl⟩
      · have t2 : ¬ (r ≤ q ∧ q < i + 1) := fun z => t ⟨z.1, by omega⟩
        rw [if_neg t, if_neg t, if_neg t2, if_neg t2]
        exact ⟨rfl, rfl⟩
  · have : i = R.1 - 1 := by omega
    subst this
    refine wp_pos (by rw [show R.1 - 1 + 1 = R.1 by omega]; exact nI_le (Nat.le_refl _) (by omega)) ?_
    unfold fX6_remove_X20
    refine wp_nm ?_
    rw [show (3 : Int32) * nI r = nI (3 * r) by rw [li3, pk_mul]]
    refine wp_for (3 * (R.1 - 1)) (fun (i : Nat) (s : Int32 × KS) => s.1 = nI i ∧ 3 * r ≤ i ∧ (∀ q, s.2.1 47 q = (if 3 * r ≤ q ∧ q < i then M.1 47 (q + 3) else M.1 47 q)) ∧ FR (fun a => a = 47) M2 s.2) (fun i s rec2 hi hI hrec2 => ?_) (by omega) (i := 3 * r) (by omega) ⟨rfl, Nat.le_refl _, fun q => ?_, FR.rf⟩
    · obtain ⟨v, M6⟩ := s
      obtain ⟨hv, hri2, h2, hF2⟩ := hI
      have hv : v = nI i := hv
      subst hv
      have h2 : ∀ q, M6.1 47 q = (if 3 * r ≤ q ∧ q < i then M.1 47 (q + 3) else M.1 47 q) := h2
      have hF2 : FR (fun a => a = 47) M2 M6 := hF2
      have hc6 : M6.1 (iR 0) 3 = nI R.1 := (congrFun (hF2.1 45 (by decide)) 3).trans hc2
      rw [fX6_remove_L68_u, hc6, show (nI R.1 - 1 : Int32) = nI (R.1 - 1) by rw [li1, nI_subN (by omega)], show (3 : Int32) * nI (R.1 - 1) = nI (3 * (R.1 - 1)) by rw [li3, pk_mul]]
      rcases Nat.lt_or_ge i (3 * (R.1 - 1)) with hlt | hge
      · have e3 : (nI i + 3 : Int32) = nI (i + 3) := by rw [li3, nI_add]
        have e1 : (nI i + 1 : Int32) = nI (i + 1) := by rw [li1, nI_add]
        have ib : inb (nI i) 33 := (inb_N (by omega)).mpr (by omega)
        have ib3 : inb (nI (i + 3)) 33 := (inb_N (by omega)).mpr (by omega)
        have ck : (nI i).toNatClampNeg = i := nI_clamp (by omega)
        have ck3 : (nI (i + 3)).toNatClampNeg = i + 3 := nI_clamp (by omega)
        rw [e3, e1]
        refine wp_neg (nI_ge hlt (by omega)) (wp_pos ib3 (wp_pos ib (wp_nm (wp_nm ?_))))
        rw [ck, ck3]
        refine hrec2 _ hlt ⟨rfl, by omega, fun q => ?_, hF2.set rfl⟩
        show (kset M6 47 i (M6.1 47 (i + 3))).1 47 q = _
        rw [kset_c, h2 (i + 3), if_neg (show ¬ (3 * r ≤ i + 3 ∧ i + 3 < i) by omega)]
        by_cases e : q = i
        · subst e
          rw [if_pos rfl, if_pos (show 3 * r ≤ q ∧ q < q + 1 by omega)]
        · rw [if_neg e, h2 q]
          by_cases t : 3 * r ≤ q ∧ q < i
          · rw [if_pos t, if_pos (show 3 * r ≤ q ∧ q < i + 1 by omega)]
          · rw [if_neg t, if_neg (show ¬ (3 * r ≤ q ∧ q < i + 1) by omega)]
      · have : i = 3 * (R.1 - 1) := by omega
        subst this
        refine wp_pos (nI_le (Nat.le_refl _) (by omega)) ?_
        unfold fX6_remove_X68
        rw [hc6]
        refine wp_nm (wp_some ⟨⟨?_, fun q hq => ?_⟩, ?_⟩)
        · show (kset M6 45 3 (nI R.1 - 1)).1 45 3 = nI (R.1 - 1)
          rw [kset_c, if_pos rfl, li1, nI_subN (by omega)]
        · have hq : q < R.1 - 1 := hq
          show (kset M6 45 3 _).1 46 q = _ ∧ (∀ j, j < 3 → (kset M6 45 3 _).1 47 (3 * q + j) = _) ∧ (kset M6 45 3 _).1 48 q = _
          rw [kset_nc (by decide), kset_nc (by decide), kset_nc (by decide), hF2.1 46 (by decide), hF2.1 48 (by decide), (h1 q).1, (h1 q).2]
          have h3 := hR.2 (dl r q) (dl_lt hr hq)
          have h46 : M.1 46 (dl r q) = nI (R.2.1 (dl r q)) := h3.1
          have h47 : ∀ j, j < 3 → M.1 47 (3 * dl r q + j) = R.2.2 (dl r q) j := h3.2.1
          have h48 : M.1 48 (dl r q) = cnd R (dl r q) := h3.2.2
          show _ = nI (R.2.1 (dl r q)) ∧ (∀ j, j < 3 → M6.1 47 (3 * q + j) = R.2.2 (dl r q) j) ∧ _ = cnd R (dl r q)
          rw [← h46, ← h48]
          by_cases t : q < r
          · have ed : dl r q = q := by unfold dl; rw [if_pos t]
            rw [if_neg (show ¬ (r ≤ q ∧ q < R.1 - 1) by omega), if_neg (show ¬ (r ≤ q ∧ q < R.1 - 1) by omega), ed]
            refine ⟨rfl, fun j hj => ?_, rfl⟩
            rw [h2, if_neg (show ¬ (3 * r ≤ 3 * q + j ∧ 3 * q + j < 3 * (R.1 - 1)) by omega)]
            have h4 := h47 j hj
            rw [ed] at h4
            exact h4
          · have ed : dl r q = q + 1 := by unfold dl; rw [if_neg t]
            rw [if_pos (show r ≤ q ∧ q < R.1 - 1 by omega), if_pos (show r ≤ q ∧ q < R.1 - 1 by omega), ed]
            refine ⟨rfl, fun j hj => ?_, rfl⟩
            rw [h2, if_pos (show 3 * r ≤ 3 * q + j ∧ 3 * q + j < 3 * (R.1 - 1) by omega)]
            have h4 := h47 j hj
            rw [ed, show 3 * (q + 1) + j = 3 * q + j + 3 by omega] at h4
            exact h4
        · exact ((hF.wk (fun a h => by rcases h with h | h; exact Or.inr (Or.inl h); exact Or.inr (Or.inr (Or.inr h)))).tr (hF2.wk (fun a h => Or.inr (Or.inr (Or.inl h))))).set (Or.inl rfl)
    · show M2.1 47 q = _
      rw [if_neg (by omega), hF.1 47 (by decide)]
theorem ktakeR_wp (hO : OKR s.2) (hK : KT M 0 s) {r : Nat} (hr : r < s.2.1) : wp (fX9_takeRule M (nI r)) (KDONE M (s.1, delR s.2 r)) := by
  unfold fX9_takeRule
  refine wp_neg (by rw [khas_y hK.2 hO.1 hr]; decide) (wp_bind (wp_mono (krem_wp hK.2 hO.1 hr) ?_))
  intro M1 ⟨h1, h2⟩
  refine wp_bind (out_wp (wp_some ⟨rfl, ?_, SETD.z (by rw [kset_c, if_pos rfl]), ?_⟩))
  · have f3 : FR (fun a => a = 106) M1 (kset M1 106 9 0) := FR.rf.set rfl
    exact KT.fr (f := 0) (s := (s.1, delR s.2 r)) ⟨hK.1.fr h2 (fun z => by have := cR_ix z; unfold iFt at this; omega) (fun z => by have := cR_ix z; unfold iFf at this; omega), h1⟩ f3 (fun a ha z => by have := cS_ix ha; have z' : a = 106 := z; omega)
  · exact (h2.q.wk (fun a h => Or.inl (Or.inr h))).set (Or.inr (by decide))
theorem lay_del {R : RS} (hO : OKR R) {r : Nat} (hr : r < R.1) : ∃ A, IsLay (delR R r) (delR R r).1 A ∧ ∀ q, q < 6 → A q ≤ 5 := lay_ex (delR_ok hO hr)
theorem rdrop_wp (hO : OKR s.2) (hM : MDs (N.1 1) s) {r : Nat} (hr : r < s.2.1) (hI : IsLay (delR s.2 r) (delR s.2 r).1 A) : wp (fX10_doDrop N (nI r)) (NDONE N (s.1, delR s.2 r) (nI (fb_ct (DV s.1 (delR s.2 r) A).1 216))) := by
  have hn := hO.1
  have c216 : (216 : Int32).toNatClampNeg = 216 := by decide
  have h216' : N.1 1 216 = nI s.2.1 := hM.2.1
  have h216 : N.1 1 (216 : Int32).toNatClampNeg = nI s.2.1 := by rw [c216]; exact h216'
  unfold fX10_doDrop
  rw [ris_y hM.2.1 hn hr]
  refine wp_bind (wp_some (wp_neg (by decide) (wp_nm (wp_pos (by decide) ?_))))
  have e1 : (217 : Int32) + 4 * (nI r + 1) = nI (217 + 4 * (r + 1)) := by rw [li1, nI_add, li4, pk_mul, li217, nI_add]
  have e2 : (nI (217 + 4 * (r + 1)) - 4 : Int32) = nI (217 + 4 * r) := by rw [li4, nI_subN (by omega), show 217 + 4 * (r + 1) - 4 = 217 + 4 * r by omega]
  have e3 : (4 : Int32) * (nI s.2.1 - nI r - 1) = nI (4 * (s.2.1 - r - 1)) := by rw [nI_subN (by omega), li1, nI_subN (by omega), li4, pk_mul]
  rw [h216, e1, e2, e3]
  have k1 : (nI (217 + 4 * (r + 1))).toNatClampNeg = 217 + 4 * (r + 1) := nI_clamp (by omega)
  have k2 : (nI (217 + 4 * r)).toNatClampNeg = 217 + 4 * r := nI_clamp (by omega)
  have k3 : (nI (4 * (s.2.1 - r - 1))).toNatClampNeg = 4 * (s.2.1 - r - 1) := nI_clamp (by omega)
  refine wp_pos ⟨fun z => (nI_lt0 (by omega)).mp z, fun z => (nI_lt0 (by omega)).mp z, fun z => (nI_lt0 (by omega)).mp z, by rw [k1, k3]; omega, by rw [k2, k3]; omega⟩ (wp_nm (wp_pos (by decide) (wp_pos (by decide) (wp_nm ?_))))
  obtain ⟨N3, h3⟩ : ∃ N3, N3 = kcpy N 1 1 (nI (217 + 4 * (r + 1))) (nI (217 + 4 * r)) (nI (4 * (s.2.1 - r - 1))) := ⟨_, rfl⟩
  rw [← h3, c216]
  have fq : ∀ q, N3.1 1 q = if 217 + 4 * r ≤ q ∧ q < 217 + 4 * (s.2.1 - 1) then N.1 1 (q + 4) else N.1 1 q := fun q => by
    rw [h3, kcpy_eq, k1, k2, k3]
    by_cases t : 217 + 4 * r ≤ q ∧ q < 217 + 4 * (s.2.1 - 1)
    · rw [if_pos t, pk_cpy_in t.1 (by omega), show 217 + 4 * (r + 1) + (q - (217 + 4 * r)) = q + 4 by omega]
    · rw [if_neg t, pk_cpy_out (by omega)]
  have fo : ∀ a, a ≠ 1 → N3.1 a = N.1 a := fun a ha => by rw [h3]; exact kcpy_nc ha
  have e4 : (N3.1 1 216 - 1 : Int32) = nI (s.2.1 - 1) := by rw [fq, if_neg (by omega), h216', li1, nI_subN (by omega)]
  rw [e4]
  obtain ⟨N4, h4⟩ : ∃ N4, N4 = kset N3 1 216 (nI (s.2.1 - 1)) := ⟨_, rfl⟩
  rw [← h4]
  have gq : ∀ q, q ≠ 216 → N4.1 1 q = N3.1 1 q := fun q hq => by rw [h4, kset_c, if_neg hq]
  have hm : MDs (N4.1 1) (s.1, delR s.2 r) := by
    refine ⟨fun k hk => ?_, ?_, fun q hq => ?_⟩
    · rw [gq k (by omega), fq, if_neg (by omega)]
      exact hM.1 k hk
    · rw [h4, kset_c, if_pos rfl]; rfl
    · have hq : q < s.2.1 - 1 := hq
      have h5 := hM.2.2 (dl r q) (dl_lt hr hq)
      show N4.1 1 (217 + 4 * q) = nI (s.2.2.1 (dl r q)) ∧ ∀ j, j < 3 → N4.1 1 (217 + 4 * q + 1 + j) = s.2.2.2 (dl r q) j
      rw [gq _ (by omega), fq, ← h5.1]
      by_cases t : q < r
      · have ed : dl r q = q := by unfold dl; rw [if_pos t]
        rw [ed] at h5 ⊢
        rw [if_neg (by omega)]
        refine ⟨rfl, fun j hj => ?_⟩
        rw [gq _ (by omega), fq, if_neg (by omega)]
        exact h5.2 j hj
      · have ed : dl r q = q + 1 := by unfold dl; rw [if_neg t]
        rw [ed] at h5 ⊢
        rw [if_pos (by omega)]
        refine ⟨by rw [show 217 + 4 * q + 4 = 217 + 4 * (q + 1) by omega], fun j hj => ?_⟩
        rw [gq _ (by omega), fq, if_pos (by omega), show 217 + 4 * q + 1 + j + 4 = 217 + 4 * (q + 1) + 1 + j by omega]
        exact h5.2 j hj
  refine wp_bd2 (wp_mono (allh_wp (s := (s.1, delR s.2 r)) (delR_ok hO hr) hm hI) ?_)
  rintro ⟨z, N5⟩ ⟨q1, q2, q3, q4⟩
  have q3' : FR cdv N4 N5 := q3
  refine wp_some ⟨q1, q4, fun a ha => ?_, ?_⟩
  · show N5.1 a = N.1 a
    rw [q3'.1 a (cdv_6 a ha), h4, kset_nc (by omega), fo a (by omega)]
  · show N5.1 0 = N.1 0
    rw [q3'.1 0 (by decide), h4, kset_nc (by decide), fo 0 (by decide)]
end DRO
section CASD
variable {α : Type} {P : α → Prop} {G : LST → Option α} {M N : KS} {s : ST} {v : Int64} {d : UInt64} {xs : Nat → Int32} {i : Nat}
theorem g_12 (h : REL M N) (hG : ∀ M' N' v' d', REL M' N' → wp (G (M', N', v', d')) P) : wp (gL_12 xs i (M, N, v, d) G) P := by
  obtain ⟨s, hO, hK, hM, hS, hB⟩ := h
  have hn := hO.1
  unfold gL_12 fL_drop
  rcases in_cases (xs (i + 1)) s.2.1 (by omega) with ⟨r, hr, e1⟩ | hb
  · rw [e1]
    obtain ⟨A, hI, _⟩ := lay_del hO hr
    have hO' := delR_ok hO hr
    refine sim Int32.toInt64 (wp_bind ?_) hG
    unfold fX9_drop
    refine wp_neg (by rw [khas_y hK.2 hn hr]; decide) (wp_bind (wp_mono (mark_all hO hK hM hS hB) ?_))
    intro M1 ⟨m1, m2, m3, m4⟩
    refine wp_bd2 (wp_mono (ktakeR_wp hO m1 hr) ?_)
    intro a ha
    have hfin : wp (fX10_keep N) (fun N1 => wp (fX10_doDrop N1 (nI r)) (fun b => b.1 = nI (fb_ct (DV s.1 (delR s.2 r) A).1 216) ∧ wp (fX5_keep a.2) (fun M4 => KT M4 0 (s.1, delR s.2 r) ∧ SETD M4 (s.1, delR s.2 r) ∧ wp (fX10_ends b.2 b.1) (fun e => e.1 = b.1 ∧ e.2.1 0 6 = 0 ∧ MDs (e.2.1 1) (s.1, delR s.2 r) ∧ BGR M4 e.2)))) := by
      refine wp_mono m4 ?_
      intro N1 ⟨n1, n2, n3, n4, n5⟩
      refine wp_mono (rdrop_wp hO n2 hr hI) ?_
      intro b hb
      exact ⟨hb.1, done_fin n1 hO n3 ha hb⟩
    obtain ⟨N1, hN1, hfin⟩ := hfin
    obtain ⟨b, hb, hb1, hfin⟩ := hfin
    obtain ⟨M4, hM4, q1, q2, hfin⟩ := hfin
    obtain ⟨e, he, q3, q4, q5, q6⟩ := hfin
    rw [hM4]
    refine wp_bind (wp_some (wp_mono (count_wp (s' := (s.1, delR s.2 r)) hO' q1 q2 hI) ?_))
    rintro rr ⟨M5, rfl, c1, c2⟩
    refine wp_some ?_
    unfold fX10_drop
    rw [hN1]
    refine wp_bind (wp_some ?_)
    rw [hb]
    refine wp_bd2 (wp_some ?_)
    rw [he]
    refine wp_bd2 (wp_some (wp_some ⟨q4, fun _ => ?_, (s.1, delR s.2 r), hO', KT.cq q1 (by decide) c1, q5, c2, q6.q c1 NF.rf⟩))
    show Int32.toInt64 _ = Int32.toInt64 e.1
    rw [q3, hb1]
  · refine sim_ex (f := Int32.toInt64) (e := 3) (t := 1) (val := 0) (v0 := v) hO hK hB (by unfold fX9_drop; rw [khas_n hK.2 hb]; exact wp_pos rfl (wp_some (CQ.inl FQ.rf hS))) (fun M' => rfl) (by decide) ?_ hG
    unfold fX10_drop
    have hb' := hb
    refine wp_bind (wp_mono rkeep_wp ?_)
    intro N1 ⟨n1, n2, n3, n4⟩
    have e11 : N1.1 1 = N.1 1 := n3 1 (by decide) (by decide)
    unfold fX10_doDrop
    rw [ris_n (R := s.2) (N := N1) (by rw [e11]; exact hM.2.1) hn hb]
    refine wp_bd2 (wp_bind (wp_some (wp_pos rfl (wp_bd2 (wp_mono fails_wp ?_)))))
    intro b ⟨b1, b2, b3⟩
    refine wp_some (wp_bd2 (wp_mono (rends1_wp b1 (by decide)) ?_))
    intro e ⟨e1, e2, e3⟩
    have f0 : e.2.1 0 = b.2.1 0 := e3 0 (by decide)
    refine wp_some ⟨by show e.2.1 0 6 = 1; rw [f0]; exact b1, fun h => absurd h (by decide), ⟨fun a ha => ?_, fun j hj => ?_⟩, hM.cong hn (fun k hk => ?_)⟩
    · show e.2.1 a = N.1 a
      rw [e3 a (by omega), b2 a (by omega) (by omega), n3 a (by omega) (by omega)]
    · show e.2.1 0 j = N.1 0 j
      rw [f0, b3 j (by omega), n4 j (by omega)]
    · show N.1 1 k = e.2.1 1 k
      rw [e2 k hk, b2 2 (by decide) (by decide), n2 k hk]
end CASD
