/-! ===== ruleLine, character, append ===== -/
/-- the conditions of a rule, in a line -/
def rlW (R : RS) (r : Nat) : Nat → List Int32
  | 0 => []
  | i + 1 => rlW R r i ++ cdW (R.2.2 r i)
def rulW (R : RS) (r : Nat) : List Int32 := [ch (ji2c (48 + nI (R.2.1 r)))] ++ [ch 61] ++ rlW R r (ncd R r)
section RLN
variable {M M' N N' : KS} {s : ST} {R : RS} {r : Nat}
theorem rlW_len : ∀ i, (rlW R r i).length ≤ 4 * i
  | 0 => Nat.le_refl _
  | i + 1 => by
    have ih := rlW_len i
    have h := cdW_len (R.2.2 r i)
    show (rlW R r i ++ cdW (R.2.2 r i)).length ≤ _
    rw [List.length_append]
    omega
theorem rlW_C : ∀ i, ALC (rlW R r i)
  | 0 => ALC.nil
  | i + 1 => (rlW_C i).app (cdW_C _)
theorem rulW_len : (rulW R r).length ≤ 24 := by
  unfold rulW
  have h1 := rlW_len (R := R) (r := r) (ncd R r)
  have h2 := ncd_le R r
  rw [List.length_append]
  show 2 + _ ≤ 24
  omega
theorem rulW_C : ALC (rulW R r) := ((ALC.one _).app (ALC.one _)).app (rlW_C _)
theorem krul_wp (hO : OKR R) (hR : RB M 0 R.1 R) (hc : M.1 (iR 0) 3 = nI R.1) (hr : r < R.1) : wp (fX9_ruleLine M (nI r)) (fun a => ∃ M', a = .inr (M'.1 119 1, M') ∧ KL M' (rulW R r) ∧ FR cLN M M') := by
  have hn := hO.1
  have hO1 := hO.ok r hr
  have h6 := hO1.1
  unfold fX9_ruleLine
  rw [khas_y ⟨hc, hR⟩ hn hr]
  have w1 : KL (kset M 119 1 0) [] := ⟨by rw [kset_c, if_pos rfl]; rfl, fun j hj => absurd hj (Nat.not_lt_zero _)⟩
  have f1 : FR cLN M (kset M 119 1 0) := (FR.rf (P := cLN)).set (Or.inl rfl)
  unfold fX4_clear
  refine wp_neg (by decide) (wp_bind (wp_nm (wp_some ?_)))
  have hRf : ∀ M2, FR cLN M M2 → RB M2 0 R.1 R := fun M2 f => hR.fr f (by decide) (by decide) (by decide)
  rw [head_eq (hRf _ f1) hr (by omega)]
  unfold fX4_addNumber
  refine wp_bind (wp_some (wp_bind (wp_bind (wp_mono (kadd1_wp w1 (by decide) _) ?_))))
  intro M3 ⟨w3, f3⟩
  refine wp_some (wp_bind (wp_mono (kadd1_wp w3 (by rw [len1]; decide) _) ?_))
  intro M4 ⟨w4, f4⟩
  have g4 := (f1.tr f3).tr f4
  rw [kncd_eq (hRf _ g4) hn hr]
  refine wp_bind (wp_some ?_)
  have hcl := ncd_le R r
  refine wp_for (ncd R r) (fun (i : Nat) (s : Int32 × KS) => s.1 = nI i ∧ KL s.2 ([ch (ji2c (48 + nI (R.2.1 r)))] ++ [ch 61] ++ rlW R r i) ∧ FR cLN M s.2) (fun i s rec hi hI hrec => ?_) (by omega) (i := 0) (Nat.zero_le _) ⟨rfl, by show KL M4 (_ ++ []); rw [List.append_nil]; exact w4, g4⟩
  obtain ⟨v6, M7⟩ := s
  obtain ⟨hv, hw, hf⟩ := hI
  have hv : v6 = nI i := hv
  subst hv
  have hw : KL M7 ([ch (ji2c (48 + nI (R.2.1 r)))] ++ [ch 61] ++ rlW R r i) := hw
  have hf : FR cLN M M7 := hf
  rw [fX9_ruleLine_L74_u]
  rcases Nat.lt_or_ge i (ncd R r) with hlt | hge
  · have hi3 : i < 3 := by omega
    have e1 : (nI i + 1 : Int32) = nI (i + 1) := by rw [li1, nI_add]
    have hl := rlW_len (R := R) (r := r) i
    rw [code_eq (hRf _ hf) hr (by omega) hi3, e1]
    refine wp_neg (nI_ge hlt (by omega)) (wp_bind (wp_some (wp_bind (wp_mono (kcond_wp hw ?_ (hO1.2 i hi3) ((ncd_iff hO hr hi3).mpr hlt)) ?_))))
    · rw [List.length_append]
      show 2 + _ + 4 ≤ 24
      omega
    · intro M10 ⟨w10, f10⟩
      refine wp_nm (hrec _ hlt ⟨rfl, ?_, hf.tr f10⟩)
      show KL M10 (_ ++ (rlW R r i ++ cdW (R.2.2 r i)))
      rw [← List.append_assoc]
      exact w10
  · have : i = ncd R r := by omega
    subst this
    refine wp_pos (nI_le (Nat.le_refl _) (by omega)) ?_
    unfold fX9_ruleLine_X74
    exact wp_some ⟨M7, rfl, hw, hf⟩
theorem rrul_wp (hO : OKR s.2) (hM : MDs (N.1 1) s) (hr : r < s.2.1) : wp (fX10_ruleLine N (nI r)) (NLQ N s (rulW s.2 r)) := by
  have hn := hO.1
  have hO1 := hO.ok r hr
  have h6 := hO1.1
  unfold fX10_ruleLine
  rw [ris_y hM.2.1 hn hr]
  refine wp_bind (wp_some (wp_jn (wp_neg (by decide) ?_)))
  unfold fX10_ruleLine_J14_6
  refine wp_nm (wp_pos (by rw [k06]; decide) (wp_nm ?_))
  obtain ⟨N4, h4⟩ : ∃ N4, N4 = kset (kset N 0 6 0) 0 24 0 := ⟨_, rfl⟩
  rw [← h4]
  have a4 : ∀ a, a ≠ 0 → N4.1 a = N.1 a := fun a ha => by rw [h4, kset_nc ha, kset_nc ha]
  have j4 : ∀ j, j ≠ 6 → j ≠ 24 → N4.1 0 j = N.1 0 j := fun j h1 h2 => by rw [h4, kset_c, if_neg h2, kset_c, if_neg h1]
  have z4 : N4.1 0 6 = 0 := by rw [h4, kset_c, if_neg (by decide)]; exact k06
  have w4 : NL N4 [] := ⟨by rw [h4, kset_c, if_pos rfl]; rfl, fun j hj => absurd hj (Nat.not_lt_zero _)⟩
  have hR4 : ∀ N5, NLF N4 N5 → MB (N5.1 1) s.2.1 s.2 := fun N5 f => by rw [f.1 1 (by decide) (by decide), a4 1 (by decide)]; exact hM.2.2
  rw [rhead_eq (hR4 N4 NLF.rf) hr hn]
  refine wp_bind (wp_some (wp_bind (wp_mono (says_wp w4 (by decide) _) ?_)))
  intro N6 ⟨w6, f6⟩
  refine wp_bind (wp_mono (says_wp w6 (by rw [len1]; decide) _) ?_)
  intro N7 ⟨w7, f7⟩
  have g7 := f6.tr f7
  have hcl := ncd_le s.2 r
  refine wp_for (ncd s.2 r) (fun (i : Nat) (t : Int32 × KS) => t.1 = nI i ∧ NL t.2 ([ch (ji2c (48 + nI (s.2.2.1 r)))] ++ [ch 61] ++ rlW s.2 r i) ∧ NLF N4 t.2) (fun i t rec hi hI hrec => ?_) (by omega) (i := 0) (Nat.zero_le _) ⟨rfl, by show NL N7 (_ ++ []); rw [List.append_nil]; exact w7, g7⟩
  obtain ⟨v8, N9⟩ := t
  obtain ⟨hv, hw, hf⟩ := hI
  have hv : v8 = nI i := hv
  subst hv
  have hw : NL N9 ([ch (ji2c (48 + nI (s.2.2.1 r)))] ++ [ch 61] ++ rlW s.2 r i) := hw
  have hf : NLF N4 N9 := hf
  rw [fX10_ruleLine_L52_u, rncd_eq (hR4 _ hf) hn hr]
  refine wp_bind (wp_some ?_)
  rcases Nat.lt_or_ge i (ncd s.2 r) with hlt | hge
  · have hi3 : i < 3 := by omega
    have e1 : (nI i + 1 : Int32) = nI (i + 1) := by rw [li1, nI_add]
    have hl := rlW_len (R := s.2) (r := r) i
    have hc := hO1.2 i hi3
    have h0 := (ncd_iff hO hr hi3).mpr hlt
    have hWl : ([ch (ji2c (48 + nI (s.2.2.1 r)))] ++ [ch 61] ++ rlW s.2 r i).length ≤ 2 + 4 * i := by
      rw [List.length_append]
      show 2 + _ ≤ _
      omega
    rw [rcond_eq (hR4 _ hf) hr hn hi3]
    refine wp_neg (nI_ge hlt (by omega)) (wp_bind (wp_some (wp_jn ?_)))
    have key : ∀ N13 V, NL N13 ([ch (ji2c (48 + nI (s.2.2.1 r)))] ++ [ch 61] ++ rlW s.2 r i ++ V) → V.length ≤ 1 → NLF N4 N13 → V = (if s.2.2.2 r i < 0 then [ch 33] else []) → wp (fX10_ruleLine_J79_70 (nI i) rec (s.2.2.2 r i) N13) (NLQ N s (rulW s.2 r)) := by
      intro N13 V w13 hV f13 hVe
      unfold fX10_ruleLine_J79_70
      rw [rrel_eq hc h0, rlet0_eq hc h0, rlet1_eq hc h0, e1]
      have hlen : ([ch (ji2c (48 + nI (s.2.2.1 r)))] ++ [ch 61] ++ rlW s.2 r i ++ V).length ≤ 2 + 4 * i + 1 := by rw [List.length_append]; omega
      refine wp_bind (wp_mono (says_wp w13 (by omega) _) ?_)
      intro N14 ⟨w14, f14⟩
      refine wp_bind (wp_some (wp_bind (wp_mono (says_wp w14 (by rw [len1]; omega) _) ?_)))
      intro N16 ⟨w16, f16⟩
      refine wp_bind (wp_some (wp_bind (wp_mono (says_wp w16 (by rw [len1, len1]; omega) _) ?_)))
      intro N18 ⟨w18, f18⟩
      refine wp_nm (hrec _ hlt ⟨rfl, ?_, ((f13.tr f14).tr f16).tr f18⟩)
      show NL N18 (_ ++ (rlW s.2 r i ++ cdW (s.2.2.2 r i)))
      unfold cdW
      rw [← hVe, ← List.append_assoc, ← List.append_assoc, ← List.append_assoc, ← List.append_assoc]
      exact w18
    by_cases q : s.2.2.2 r i < 0
    · refine wp_neg (c_neg q).2.2 (wp_bind (wp_mono (says_wp hw (by omega) _) ?_))
      intro N20 ⟨w20, f20⟩
      exact key N20 [ch 33] w20 (Nat.le_refl _) (hf.tr f20) (if_pos q).symm
    · exact wp_pos (fa_of_nlt q) (key N9 [] (by rw [List.append_nil]; exact hw) (Nat.zero_le _) hf (if_neg q).symm)
  · have : i = ncd s.2 r := by omega
    subst this
    refine wp_pos (nI_le (Nat.le_refl _) (by omega)) ?_
    unfold fX10_ruleLine_X52
    refine wp_some ⟨hw.1, ?_, hw, ?_, fun a ha => ?_, fun j hj => ?_⟩
    · show N9.1 0 6 = 0
      rw [hf.2 6 (by decide)]; exact z4
    · show MDs (N9.1 1) s
      rw [hf.1 1 (by decide) (by decide), a4 1 (by decide)]; exact hM
    · show N9.1 a = N.1 a
      rw [hf.1 a (by omega) (by omega), a4 a (by omega)]
    · show N9.1 0 j = N.1 0 j
      rw [hf.2 j (by omega), j4 j (by omega) (by omega)]
theorem rlen_y {k n : Nat} (hk : k < n) (hn : n < 2 ^ 31) : fX10_in (nI k) 0 (nI n - 1) = 1 := by
  rw [li1, nI_subN (by omega)]
  exact rin_y (by omega) (by omega)
theorem rlen_n {a : Int32} {n : Nat} (hn : n < 2 ^ 31) (h : a < nI 0 ∨ ¬ a < nI 0 ∧ nI n ≤ a) : fX10_in a 0 (nI n - 1) = 0 := by
  rw [li1]
  rcases Nat.eq_zero_or_pos n with q | q
  · rw [q]
    unfold fX10_in
    rcases h with h | ⟨h, h2⟩
    · rw [if_pos (show a < 0 from h)]
    · rw [if_neg (show ¬ a < 0 from h), if_pos]
      rw [q, fa_le] at h2
      rw [fa_lt]
      have h3 : (nI 0 - nI 1 : Int32).toInt = -1 := by decide
      have h4 : (nI 0 : Int32).toInt = 0 := by decide
      omega
  · rw [nI_subN (by omega)]
    refine rin_n (by omega) ?_
    rw [show n - 1 + 1 = n by omega]
    exact h
end RLN
section CASO
variable {α : Type} {P : α → Prop} {G : LST → Option α} {M N : KS} {s : ST} {v : Int64} {d : UInt64} {xs : Nat → Int32} {i : Nat}
theorem g_20 (h : REL M N) (hG : ∀ M' N' v' d', REL M' N' → wp (G (M', N', v', d')) P) : wp (gL_20 xs i (M, N, v, d) G) P := by
  obtain ⟨s, hO, hK, hM, hS, hB⟩ := h
  have hn := hO.1
  unfold gL_20 fL_ruleLine
  rcases in_cases (xs (i + 1)) s.2.1 (by omega) with ⟨r, hr, e1⟩ | hb
  · rw [e1]
    refine sim Int32.toInt64 (wp_bind (wp_mono (krul_wp hO hK.2.2 hK.2.1 hr) ?_)) hG
    rintro a ⟨M', rfl, k1, k2⟩
    refine wp_some (wp_mono (rrul_wp hO hM hr) ?_)
    intro b ⟨n1, n2, n3, n4, n5, n6⟩
    refine ⟨n2, fun _ => ?_, s, hO, hK.fr k2 (fun a ha => cLN_S (by decide) ha), n4, hS.fr k2 (fun a ha z => by omega), hB.ln (k2.q.wk (fun a h => Or.inr h)) n5 n6 k1 n3 rulW_len rulW_C⟩
    show Int32.toInt64 (M'.1 119 1) = Int32.toInt64 b.1
    rw [n1, k1.1]
  · refine sim_ex (f := Int32.toInt64) (e := 3) (t := 1) (val := 0) (v0 := v) hO hK hB (by unfold fX9_ruleLine; rw [khas_n hK.2 hb]; exact wp_pos rfl (wp_some (CQ.inl FQ.rf hS))) (fun M' => rfl) (by decide) ?_ hG
    unfold fX10_ruleLine
    rw [ris_n hM.2.1 hn hb]
    refine wp_bind (wp_some (wp_jn (wp_pos rfl ?_)))
    unfold fX10_ruleLine_J14_6
    exact wp_nm (wp_neg (by rw [k06]; decide) (wp_some (NQ.bad (by decide) hM)))
theorem g_21 (h : REL M N) (hG : ∀ M' N' v' d', REL M' N' → wp (G (M', N', v', d')) P) : wp (gL_21 xs i (M, N, v, d) G) P := by
  obtain ⟨s, hO, hK, hM, hS, hB⟩ := h
  obtain ⟨ll, hl⟩ := hB.2.2.2.1
  have hll := hl.1
  unfold gL_21 fL_character
  rcases in_cases (xs (i + 1)) ll (by omega) with ⟨j, hj, e1⟩ | hb
  · rw [e1]
    have ck : (nI j).toNatClampNeg = j := nI_clamp (by omega)
    have hcc := hl.2.2.2 j hj
    refine sim_in (f := Int32.toInt64) (val := M.1 120 j) hO hK hB ?_ (fun M' => rfl) ?_ hG
    · unfold fX9_character
      refine wp_jn (wp_neg (nI_pos (by omega)) (wp_neg (by rw [hl.2.1]; exact nI_ge hj (by omega)) (wp_pos (nI_lt (show j < 24 by omega) (by decide)) (wp_pos ((inb_N (by omega)).mpr (by omega)) ?_))))
      rw [ck]
      exact wp_pos hcc.2 (wp_some (CQ.inr FQ.rf hS))
    · unfold fX10_character
      refine wp_jn (wp_neg (by rw [hl.2.2.1, rlen_y hj (by omega)]; decide) ?_)
      unfold fX10_character_J20_12
      refine wp_nm (wp_pos (by rw [k06]; decide) (wp_pos ((inb_N (by omega)).mpr (by omega)) ?_))
      rw [ck, kset_nc (show (18 : Nat) ≠ 0 by decide), hcc.1]
      exact wp_pos hcc.2 (wp_some (NQ.ok k06 (NF.t (by decide)) hM.k))
  · refine sim_ex (f := Int32.toInt64) (e := 3) (t := 1) (val := 0) (v0 := v) hO hK hB ?_ (fun M' => rfl) (by decide) ?_ hG
    · unfold fX9_character
      have key : wp (fX9_character_J21_1 M ()) (CQ M s (.inl 3)) := wp_some (CQ.inl FQ.rf hS)
      refine wp_jn ?_
      rcases hb with hb | ⟨hb, hb2⟩
      · exact wp_pos hb key
      · exact wp_neg hb (wp_pos (by rw [hl.2.1]; exact hb2) key)
    · unfold fX10_character
      refine wp_jn (wp_pos (by rw [hl.2.2.1, rlen_n (by omega) hb]) ?_)
      unfold fX10_character_J20_12
      exact wp_nm (wp_neg (by rw [k06]; decide) (wp_pos (by decide) (wp_some (NQ.bad (by decide) hM))))
theorem g_22 (h : REL M N) (hG : ∀ M' N' v' d', REL M' N' → wp (G (M', N', v', d')) P) : wp (gL_22 xs i (M, N, v, d) G) P := by
  obtain ⟨s, hO, hK, hM, hS, hB⟩ := h
  obtain ⟨⟨H, c, nx, hp⟩, ⟨sv, hv⟩, ⟨ln, ht⟩, ⟨ll, hl⟩, hsc⟩ := hB
  obtain ⟨q, hq, eq⟩ : ∃ q, q < 65536 ∧ ji2c (xs (i + 1)) = nI q := ⟨_, Nat.mod_lt _ (by decide), pk_char (xs (i + 1))⟩
  unfold gL_22 fL_append
  rw [eq]
  have hln := ht.1
  rcases Nat.lt_or_ge ln 60 with hlt | hge
  · have ck : (nI ln).toNatClampNeg = ln := nI_clamp (by omega)
    refine sim Int32.toInt64 (wp_bind ?_) hG
    unfold fX9_append fX8_add
    rw [ht.2.1]
    refine wp_bd2 (wp_pos (nI_lt hlt (by decide)) (wp_pos ((inb_N (by omega)).mpr hlt) (wp_nm (wp_nm (wp_some (wp_neg ni1 (wp_some (wp_some ?_))))))))
    rw [ck, kset_nc (show (115 : Nat) ≠ 116 by decide), ht.2.1, show vp_nar .char (nI q) = nI q from ch_small hq, show (nI ln + 1 : Int32) = nI (ln + 1) by rw [li1, nI_add]]
    obtain ⟨M2, hM2⟩ : ∃ M2, M2 = kset (kset M 116 ln (nI q)) 115 3 (nI (ln + 1)) := ⟨_, rfl⟩
    have fk : FR (fun a => a = 115 ∨ a = 116) M M2 := by
      rw [hM2]
      exact ((FR.rf (P := fun a => a = 115 ∨ a = 116)).set (Or.inr rfl)).set (Or.inl rfl)
    show wp (fX10_append N (nI q)) (fun yb => yb.2.1 0 6 = 0 ∧ ((0 : Int32) = 0 → Int32.toInt64 ((kset (kset M 116 ln (nI q)) 115 3 (nI (ln + 1))).1 115 3) = Int32.toInt64 yb.1) ∧ REL (kset (kset M 116 ln (nI q)) 115 3 (nI (ln + 1))) yb.2)
    rw [← hM2]
    unfold fX10_append
    refine wp_jn (wp_neg (fun z => by rw [ht.2.2.1] at z; have := (nI_eq (b := 60) (by omega) (by decide)).mp z; omega) ?_)
    unfold fX10_append_J15_7
    have n26 : (kset N 0 6 0).1 0 26 = nI ln := by rw [kset_c, if_neg (by decide)]; exact ht.2.2.1
    refine wp_nm (wp_pos (by rw [k06]; decide) ?_)
    rw [n26]
    refine wp_pos ((inb_N (by omega)).mpr hlt) (wp_nm (wp_nm (wp_some ?_)))
    rw [ck, kset_nc (show (0 : Nat) ≠ 19 by decide), n26, show vp_nar .char (nI q) = nI q from ch_small hq, show (nI ln + 1 : Int32) = nI (ln + 1) by rw [li1, nI_add]]
    obtain ⟨N2, hN2⟩ : ∃ N2, N2 = kset (kset (kset N 0 6 0) 19 ln (nI q)) 0 26 (nI (ln + 1)) := ⟨_, rfl⟩
    rw [← hN2]
    have a2 : ∀ a, a ≠ 0 → a ≠ 19 → N2.1 a = N.1 a := fun a h1 h2 => by rw [hN2, kset_nc h1, kset_nc h2, kset_nc h1]
    have j2 : ∀ j, j ≠ 6 → j ≠ 26 → N2.1 0 j = N.1 0 j := fun j h1 h2 => by rw [hN2, kset_c, if_neg h2, kset_nc (by decide), kset_c, if_neg h1]
    have e3 : M2.1 115 3 = nI (ln + 1) := by rw [hM2, kset_c, if_pos rfl]
    have e26 : N2.1 0 26 = nI (ln + 1) := by rw [hN2, kset_c, if_pos rfl]
    have e116 : ∀ j, M2.1 116 j = if j = ln then nI q else M.1 116 j := fun j => by rw [hM2, kset_nc (by decide), kset_c]
    have e19 : ∀ j, N2.1 19 j = if j = ln then nI q else N.1 19 j := fun j => by rw [hN2, kset_nc (by decide), kset_c, kset_nc (by decide)]
    refine ⟨?_, fun _ => ?_, s, hO, hK.fr fk (fun a ha z => by have := cS_ix ha; omega), ?_, hS.fr fk (fun a ha z => by omega), ⟨H, c, nx, hp.fr fk.q (fun k hk a ha z => ?_) (by decide) (a2 4 (by decide) (by decide)) (j2 5 (by decide) (by decide))⟩, ⟨sv, ?_⟩, ⟨ln + 1, by omega, e3, e26, fun j hj => ?_⟩, ⟨ll, hl.1, by rw [fk.1 119 (by decide)]; exact hl.2.1, by rw [j2 24 (by decide) (by decide)]; exact hl.2.2.1, fun j hj => by rw [fk.1 120 (by decide), a2 18 (by decide) (by decide)]; exact hl.2.2.2 j hj⟩, by rw [fk.1 121 (by decide), j2 29 (by decide) (by decide)]; exact hsc.1, by rw [fk.1 121 (by decide), j2 7 (by decide) (by decide)]; exact hsc.2.1, by rw [fk.1 121 (by decide), j2 8 (by decide) (by decide)]; exact hsc.2.2⟩
    · show N2.1 0 6 = 0
      rw [hN2, kset_c, if_neg (by decide), kset_nc (by decide), k06]
    · show Int32.toInt64 (M2.1 115 3) = Int32.toInt64 (N2.1 0 26)
      rw [e3, e26]
    · show MDs (N2.1 1) s
      rw [a2 1 (by decide) (by decide)]; exact hM
    · have h1 := cS_ix ha
      have h2 := pix_le nx c k
      omega
    · rcases hv with hv | hv
      · exact Or.inl ⟨by rw [fk.1 121 (by decide)]; exact hv.1, by rw [j2 3 (by decide) (by decide)]; exact hv.2⟩
      · refine Or.inr ⟨by rw [fk.1 121 (by decide)]; exact hv.1, by rw [j2 3 (by decide) (by decide)]; exact hv.2.1, hv.2.2.1, hv.2.2.2.1.fr fk (fun a ha z => ?_), by rw [a2 3 (by decide) (by decide)]; exact hv.2.2.2.2⟩
        have h1 := cS_ix ha
        omega
    · rw [e116, e19]
      by_cases e : j = ln
      · rw [if_pos e, if_pos e]
        exact ⟨q, hq, rfl, rfl⟩
      · rw [if_neg e, if_neg e]
        exact ht.2.2.2 j (by omega)
  · have e60 : ln = 60 := by omega
    subst e60
    have hB : BGR M N := ⟨⟨H, c, nx, hp⟩, ⟨sv, hv⟩, ⟨60, ht⟩, ⟨ll, hl⟩, hsc⟩
    refine sim_ex (f := Int32.toInt64) (e := 4) (t := 1) (val := 0) (v0 := v) hO hK hB ?_ (fun M' => rfl) (by decide) ?_ hG
    · unfold fX9_append fX8_add
      rw [ht.2.1]
      exact wp_bd2 (wp_neg (by decide) (wp_some (wp_pos rfl (wp_some (CQ.inl FQ.rf hS)))))
    · unfold fX10_append
      refine wp_jn (wp_pos ht.2.2.1 ?_)
      unfold fX10_append_J15_7
      exact wp_nm (wp_neg (by rw [k06]; decide) (wp_some (NQ.bad (by decide) hM)))
end CASO
