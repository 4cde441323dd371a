/-! ===== line ===== -/
/-- what the class writes for the needs below the i-th place -/
def sgW (R : RS) (X : DX) (k : Nat) : Nat → List Int32
  | 0 => []
  | i + 1 => if nq R X k i then sgW R X k i ++ [ch (if fb_ct (nq R X k) i = 0 then 58 else 44)] ++ chF (nv R X k i) else sgW R X k i
/-- what the reference writes for the first j needs -/
def rsW (L : Nat → Nat) : Nat → List Int32
  | 0 => []
  | j + 1 => (if 0 < j then rsW L j ++ [ch 44] else rsW L j) ++ chF (L j)
section LNE
variable {M N : KS} {W : List Int32} {R : RS} {X : DX} {k : Nat}
theorem sgW_len : ∀ i, (sgW R X k i).length ≤ 4 * i
  | 0 => Nat.le_refl _
  | i + 1 => by
    have ih := sgW_len i
    show (if nq R X k i then sgW R X k i ++ [ch (if fb_ct (nq R X k) i = 0 then 58 else 44)] ++ chF (nv R X k i) else sgW R X k i).length ≤ _
    cases nq R X k i
    · rw [if_neg (by decide)]; omega
    · rw [if_pos rfl, lenF, len1]; omega
theorem sgW_C : ∀ i, ALC (sgW R X k i)
  | 0 => ALC.nil
  | i + 1 => by
    have ih := sgW_C i
    show ALC (if nq R X k i then sgW R X k i ++ [ch (if fb_ct (nq R X k) i = 0 then 58 else 44)] ++ chF (nv R X k i) else sgW R X k i)
    cases nq R X k i
    · rw [if_neg (by decide)]; exact ih
    · rw [if_pos rfl]; exact (ih.app (ALC.one _)).app (chF_C _)
theorem rsW_len (L : Nat → Nat) : ∀ j, (rsW L j).length ≤ 4 * j
  | 0 => Nat.le_refl _
  | j + 1 => by
    have ih := rsW_len L j
    show ((if 0 < j then rsW L j ++ [ch 44] else rsW L j) ++ chF (L j)).length ≤ _
    rw [lenF]
    by_cases q : 0 < j
    · rw [if_pos q, len1]; omega
    · rw [if_neg q]; omega
theorem sg_rs {L : Nat → Nat} (hL : ∀ j, j < 3 → nq R X k j = true → L (fb_ct (nq R X k) j) = nv R X k j) : ∀ i, i ≤ 3 → sgW R X k i = if fb_ct (nq R X k) i = 0 then [] else [ch 58] ++ rsW L (fb_ct (nq R X k) i)
  | 0, _ => by
    rw [if_pos (show fb_ct (nq R X k) 0 = 0 from rfl)]
    rfl
  | i + 1, h => by
    have ih := sg_rs hL i (by omega)
    have es : fb_ct (nq R X k) (i + 1) = fb_ct (nq R X k) i + (if nq R X k i then 1 else 0) := rfl
    show (if nq R X k i then sgW R X k i ++ [ch (if fb_ct (nq R X k) i = 0 then 58 else 44)] ++ chF (nv R X k i) else sgW R X k i) = _
    cases hq : nq R X k i
    · rw [hq, if_neg (by decide)] at es
      rw [if_neg (by decide), show fb_ct (nq R X k) (i + 1) = fb_ct (nq R X k) i from es]
      exact ih
    · rw [hq, if_pos rfl] at es
      have hl := hL i (by omega) hq
      rw [if_pos rfl, ih, es, if_neg (show ¬ fb_ct (nq R X k) i + 1 = 0 by omega), ← hl]
      show _ = [ch 58] ++ ((if 0 < fb_ct (nq R X k) i then rsW L (fb_ct (nq R X k) i) ++ [ch 44] else rsW L (fb_ct (nq R X k) i)) ++ chF (L (fb_ct (nq R X k) i)))
      by_cases q : fb_ct (nq R X k) i = 0
      · rw [if_pos q, if_pos q, if_neg (by omega), q]
        rfl
      · rw [if_neg q, if_neg q, if_pos (by omega), List.append_assoc, List.append_assoc, List.append_assoc]
def fctW (T : Nat → Bool) (R : RS) (X : DX) (k : Nat) : List Int32 := if T k then chF k ++ [ch 46] else chF k ++ [ch 60] ++ [ch (ji2c (48 + nI (X.2.2.1 k)))] ++ sgW R X k 3
theorem fctW_len (T : Nat → Bool) : (fctW T R X k).length ≤ 24 := by
  unfold fctW
  have := sgW_len (R := R) (X := X) (k := k) 3
  cases T k
  · rw [if_neg (by decide), List.length_append, len1, len1, chF_len]; omega
  · rw [if_pos rfl, len1, chF_len]; omega
theorem fctW_C (T : Nat → Bool) : ALC (fctW T R X k) := by
  unfold fctW
  cases T k
  · rw [if_neg (by decide)]; exact (((chF_C _).app (ALC.one _)).app (ALC.one _)).app (sgW_C 3)
  · rw [if_pos rfl]; exact (chF_C _).app (ALC.one _)
theorem need_nq {b j : Nat} (hX : KX M X) (hB : XB R X b) (hR : RB M 0 R.1 R) (hO : OKR R) (hk : k < 216) (hj : j < 3) : fX1_need M 0 (nI k) (nI j) = some (if nq R X k j then nI (nv R X k j) else -nI 1) := by
  rw [need_eq hX hB hR hO.1 hO.ok hk hj]
  unfold nq nv
  by_cases q : 0 < X.2.1 k
  · rw [decide_eq_true q, Bool.true_and]
    cases psc R (X.2.2.1 k) j
    · rw [if_neg (fun z => absurd z.2 (by decide)), if_neg (by decide)]
    · rw [if_pos ⟨q, rfl⟩, if_pos rfl]
  · rw [if_neg (fun z => q z.1), decide_eq_false q, Bool.false_and, if_neg (by decide)]
theorem KX.fr {P : Nat → Prop} {M' : KS} (h : KX M X) (k : FR P M M') (hp : ∀ a, 107 ≤ a ∧ a ≤ 110 → ¬ P a) : KX M' X := fun q hq => by
  rw [k.1 107 (hp 107 (by decide)), k.1 108 (hp 108 (by decide)), k.1 109 (hp 109 (by decide)), k.1 110 (hp 110 (by decide))]
  have h2 := h q hq
  exact ⟨h2.1, h2.2.1, h2.2.2.1, h2.2.2.2.1, fun t ht b hb => by rw [k.2]; exact h2.2.2.2.2 t ht b hb⟩
theorem klines_wp {b : Nat} (h : KL M W) (hl : W.length ≤ 12) (hX : KX M X) (hB : XB R X b) (hS : SX R X) (hR : RB M 0 R.1 R) (hO : OKR R) (hk : k < 216) : wp (lp (fX9_writeFact_L80 (nI k)) (fX9_writeFact_X80) 1000000 (58, 0, M)) (fun M' => KL M' (W ++ sgW R X k 3) ∧ FR cLN M M') := by
  refine wp_for 3 (fun (i : Nat) (s : Int32 × Int32 × KS) => s.1 = (if fb_ct (nq R X k) i = 0 then 58 else 44) ∧ s.2.1 = nI i ∧ KL s.2.2 (W ++ sgW R X k i) ∧ FR cLN M s.2.2) (fun i s rec hi hI hrec => ?_) (by decide) (Nat.zero_le _) ⟨rfl, rfl, by show KL M (W ++ []); rw [List.append_nil]; exact h, FR.rf⟩
  obtain ⟨v7, v8, M9⟩ := s
  obtain ⟨hv7, hv8, hW, hF⟩ := hI
  have hv7 : v7 = (if fb_ct (nq R X k) i = 0 then 58 else 44) := hv7
  have hv8 : v8 = nI i := hv8
  subst hv7; subst hv8
  have hW : KL M9 (W ++ sgW R X k i) := hW
  have hF : FR cLN M M9 := hF
  rw [fX9_writeFact_L80_u]
  rcases Nat.lt_or_ge i 3 with hlt | hge
  · have e1 : (nI i + 1 : Int32) = nI (i + 1) := by rw [li1, nI_add]
    have hs := sgW_len (R := R) (X := X) (k := k) i
    have hlen : (W ++ sgW R X k i).length ≤ 12 + 4 * i := by rw [List.length_append]; omega
    have es : fb_ct (nq R X k) (i + 1) = fb_ct (nq R X k) i + (if nq R X k i then 1 else 0) := rfl
    have ew : sgW R X k (i + 1) = if nq R X k i then sgW R X k i ++ [ch (if fb_ct (nq R X k) i = 0 then 58 else 44)] ++ chF (nv R X k i) else sgW R X k i := rfl
    rw [need_nq (hX.fr hF (fun a ha z => by omega)) hB (hR.fr hF (by decide) (by decide) (by decide)) hO hk hlt, e1]
    refine wp_neg (nI_ge hlt (by decide)) (wp_bind (wp_some ?_))
    cases hq : nq R X k i
    · rw [hq, if_neg (by decide)] at es
      have es' : fb_ct (nq R X k) (i + 1) = fb_ct (nq R X k) i := es
      rw [hq, if_neg (by decide)] at ew
      refine wp_pos (by rw [if_neg Bool.false_ne_true]; decide) (wp_nm (hrec _ hlt ⟨?_, rfl, ?_, hF⟩))
      · rw [es']
      · show KL M9 (W ++ sgW R X k (i + 1)); rw [ew]; exact hW
    · rw [hq, if_pos rfl] at es
      rw [hq, if_pos rfl] at ew
      have hnv := nv_lt hS hO hk hlt hq
      refine wp_neg (nI_pos (by omega)) (wp_bind (wp_mono (kadd1_wp hW (by omega) _) ?_))
      intro M13 ⟨h13, f13⟩
      refine wp_bind (wp_mono (kfact_wp h13 (by rw [len1]; omega) hnv) ?_)
      intro M14 ⟨h14, f14⟩
      refine wp_nm (hrec _ hlt ⟨?_, rfl, ?_, (hF.tr f13).tr f14⟩)
      · rw [es, if_neg (by omega)]
      · show KL M14 (W ++ sgW R X k (i + 1))
        rw [ew, ← List.append_assoc, ← List.append_assoc]
        exact h14
  · have : i = 3 := by omega
    subst this
    refine wp_pos (nI_le (Nat.le_refl _) (by decide)) ?_
    unfold fX9_writeFact_X80
    exact wp_some ⟨hW, hF⟩
end LNE
section LNF
variable {M M' N N' : KS} {s : ST} {A : Nat → Nat} {P : Nat → Prop} {k : Nat}
theorem cLN_S {f a : Nat} (hf : f ≤ 10) (ha : cS f a) : ¬ cLN a := fun z => by have := cS_ix ha; omega
theorem told_st (hO : OKR s.2) (hI : IsLay s.2 s.2.1 A) (hk : k < 216) (hh : (DV s.1 s.2 A).1 k = true) : (s.1 k = true → (DV s.1 s.2 A).2.1 k = 0) ∧ (s.1 k = false → 0 < (DV s.1 s.2 A).2.1 k) := by
  have h0 : WI s.1 s.2 A 6 (DV s.1 s.2 A) := WI.dend_ (T := s.1) hI.1 hO.ok 6
  generalize DV s.1 s.2 A = X at *
  have h := h0 k hk
  refine ⟨fun q => (h.1 q).2, fun q => ?_⟩
  rcases h.2.1 hh with z | z
  · rw [q] at z; exact absurd z (by decide)
  · exact z
theorem kline_wp (hO : OKR s.2) (hK : KT M 0 s) (hS : SETD M s) (hI : IsLay s.2 s.2.1 A) (hk : k < 216) (hh : (DV s.1 s.2 A).1 k = true) : wp (fX9_writeFact M (nI k)) (fun M' => KL M' (fctW s.1 s.2 (DV s.1 s.2 A) k) ∧ KT M' 0 s ∧ SETD M' s ∧ FQ (fun a => cQ a ∨ cLN a) M M') := by
  have hB := XB.DV_ (T := s.1) (A := A) hO.ok
  have hts := told_st hO hI hk hh
  unfold fX9_writeFact
  refine wp_bind (wp_mono (set_wp hO hK hS hI) ?_)
  intro M1 ⟨h1, h2, h3, h4⟩
  have f2 : FR cLN M1 (kset M1 119 1 0) := (FR.rf (P := cLN)).set (Or.inl rfl)
  have w2 : KL (kset M1 119 1 0) [] := ⟨by rw [kset_c, if_pos rfl]; rfl, fun j hj => absurd hj (Nat.not_lt_zero _)⟩
  unfold fX4_clear
  refine wp_bind (wp_nm (wp_some (wp_bind (wp_mono (kfact_wp w2 (by decide) hk) ?_))))
  intro M3 ⟨w3, f3⟩
  have w3 : KL M3 (chF k) := w3
  have fin : ∀ M5 W5, KL M5 W5 → FR cLN M3 M5 → W5 = fctW s.1 s.2 (DV s.1 s.2 A) k → KL M5 (fctW s.1 s.2 (DV s.1 s.2 A) k) ∧ KT M5 0 s ∧ SETD M5 s ∧ FQ (fun a => cQ a ∨ cLN a) M M5 := fun M5 W5 hw hf he => by
    have g := (f2.tr f3).tr hf
    exact ⟨he ▸ hw, h3.fr g (fun a ha => cLN_S (by decide) ha), h2.fr g (fun a ha z => by omega), (h4.wk (fun a h => Or.inl h)).tr (g.q.wk (fun a h => Or.inr h))⟩
  have g3 := f2.tr f3
  rw [has_eq (hK.1.fq h4 (by decide) (by decide) |>.fr g3 (by decide) (by decide)) hk]
  refine wp_bind (wp_some ?_)
  cases hT : s.1 k
  · have hst := hts.2 hT
    have hb := (hB k hk).2.1 hst
    have hX3 : KX M3 (DV s.1 s.2 A) := h1.2.2.2.2.fr g3 (fun a ha z => by omega)
    have hk3 := (hX3 k hk).2.1
    rw [if_pos hst] at hk3
    refine wp_pos rfl (wp_bind (wp_mono (kadd1_wp w3 (by rw [chF_len]; decide) _) ?_))
    intro M5 ⟨w5, f5⟩
    have h108 : M5.1 108 (nI k).toNatClampNeg = nI ((DV s.1 s.2 A).2.2.1 k) := by rw [nI_clamp (by omega), f5.1 108 (by decide)]; exact hk3
    unfold fX1_maker
    refine wp_bind (wp_neg (nI_pos (by omega)) (wp_neg (nI_ge hk (by decide)) (wp_pos ((inb_N (by omega)).mpr hk) (wp_some ?_))))
    rw [h108]
    unfold fX4_addNumber
    refine wp_bind (wp_bind (wp_mono (kadd1_wp w5 (by rw [len1, chF_len]; decide) _) ?_))
    intro M6 ⟨w6, f6⟩
    refine wp_some (wp_mono (klines_wp w6 (by rw [len1, len1, chF_len]; decide) (hX3.fr (f5.tr f6) (fun a ha z => by omega)) hB (SX.DV_ hI.1 hO.ok) (h3.2.2.fr ((g3.tr f5).tr f6) (by decide) (by decide) (by decide)) hO hk) ?_)
    intro M7 ⟨w7, f7⟩
    refine fin M7 _ w7 ((f5.tr f6).tr f7) ?_
    unfold fctW
    rw [hT, if_neg (by decide)]
  · refine wp_neg nb1 (wp_bind (wp_mono (kadd1_wp w3 (by rw [chF_len]; decide) _) ?_))
    intro M5 ⟨w5, f5⟩
    refine wp_some (fin M5 _ w5 f5 ?_)
    unfold fctW
    rw [hT, if_pos rfl]
/-- the class's cells of a line, and what questions change -/
theorem BGR.ln (h : BGR M N) (k : FQ (fun a => cQ a ∨ cLN a) M M') (na : ∀ a, (a = 3 ∨ a = 4 ∨ a = 19) → N'.1 a = N.1 a) (nj : ∀ j, (j = 3 ∨ j = 5 ∨ j = 7 ∨ j = 8 ∨ j = 26 ∨ j = 29) → N'.1 0 j = N.1 0 j) {W : List Int32} (w1 : KL M' W) (w2 : NL N' W) (hl : W.length ≤ 24) (hc : ALC W) : BGR M' N' := by
  obtain ⟨⟨H, c, nx, hp⟩, ⟨sv, hv⟩, ⟨ln, ht⟩, _, hsc⟩ := h
  have e115 : M'.1 115 = M.1 115 := k 115 (by decide)
  have e116 : M'.1 116 = M.1 116 := k 116 (by decide)
  have e121 : M'.1 121 = M.1 121 := k 121 (by decide)
  refine ⟨⟨H, c, nx, hp.fr k (fun i hi a ha z => ?_) (by decide) (na 4 (by decide)) (nj 5 (by decide))⟩, ⟨sv, ?_⟩, ⟨ln, ht.1, by rw [e115]; exact ht.2.1, by rw [nj 26 (by decide)]; exact ht.2.2.1, fun j hj => by rw [e116, na 19 (by decide)]; exact ht.2.2.2 j hj⟩, ⟨W.length, hl, w1.1, w2.1, fun j hj => ⟨(w2.2 j hj).trans (w1.2 j hj).symm, by rw [w1.2 j hj]; exact hc.gd hj⟩⟩, by rw [e121, nj 29 (by decide)]; exact hsc.1, by rw [e121, nj 7 (by decide)]; exact hsc.2.1, by rw [e121, nj 8 (by decide)]; exact hsc.2.2⟩
  · have h1 := cS_ix ha
    have h2 := pix_le nx c i
    omega
  · rcases hv with hv | hv
    · exact Or.inl ⟨by rw [e121]; exact hv.1, by rw [nj 3 (by decide)]; exact hv.2⟩
    · refine Or.inr ⟨by rw [e121]; exact hv.1, by rw [nj 3 (by decide)]; exact hv.2.1, hv.2.2.1, hv.2.2.2.1.fq2 k (fun a ha z => ?_), by rw [na 3 (by decide)]; exact hv.2.2.2.2⟩
      have h1 := cS_ix ha
      omega
/-- a line is written in both -/
def NLQ (N : KS) (s : ST) (W : List Int32) (b : Int32 × KS) : Prop := b.1 = nI W.length ∧ b.2.1 0 6 = 0 ∧ NL b.2 W ∧ MDs (b.2.1 1) s ∧ (∀ a, (a = 3 ∨ a = 4 ∨ a = 19) → b.2.1 a = N.1 a) ∧ ∀ j, (j = 3 ∨ j = 5 ∨ j = 7 ∨ j = 8 ∨ j = 26 ∨ j = 29) → b.2.1 0 j = N.1 0 j
theorem NLF.r {N1 : KS} (h : NLF N N1) : (∀ a, 1 ≤ a → a ≠ 18 → N1.1 a = N.1 a) ∧ N1.1 0 6 = N.1 0 6 := ⟨fun a h1 h2 => h.1 a (by omega) h2, h.2 6 (by decide)⟩
theorem rline_wp (hO : OKR s.2) (hM : MDs (N.1 1) s) (hI : IsLay s.2 s.2.1 A) {r x y : Nat} (hr : r < 6) (hx : x < 6) (hy : y < 6) (hh : (DV s.1 s.2 A).1 (36 * r + 6 * x + y) = true) : wp (fX10_line N (nI r) (nI x) (nI y)) (NLQ N s (fctW s.1 s.2 (DV s.1 s.2 A) (36 * r + 6 * x + y))) := by
  have hk : 36 * r + 6 * x + y < 216 := by omega
  unfold fX10_line
  rw [(fact_y hr hx hy).2]
  refine wp_bind (wp_some (wp_jn (wp_neg (by decide) ?_)))
  unfold fX10_line_J15_7
  rw [rfact_eq]
  generalize 36 * r + 6 * x + y = k at *
  have hB := XB.DV_ (T := s.1) (A := A) hO.ok
  have hts := told_st hO hI hk hh
  have hin : inb (nI k) 216 := (inb_N (by omega)).mpr hk
  have ck : (nI k).toNatClampNeg = k := nI_clamp (by omega)
  refine wp_nm (wp_pos (by rw [k06]; decide) (wp_bind (wp_mono (rd0_wp hO hM hI) ?_)))
  intro N4 ⟨h1, h2, h3, h4⟩
  have hx4 := h1.x k hk
  refine wp_nm (wp_pos hin (wp_pos ((stg6 h1.x (by rw [ck]; exact hk)).2.mpr (by rw [ck]; exact hh)) (wp_nm ?_)))
  have w6 : NL (kset N4 0 24 0) [] := ⟨by rw [kset_c, if_pos rfl]; rfl, fun j hj => absurd hj (Nat.not_lt_zero _)⟩
  have f6 : NLF N4 (kset N4 0 24 0) := ⟨fun a h0 _ => kset_nc h0, fun j hj => by rw [kset_c, if_neg hj]⟩
  refine wp_bind (wp_mono (rfact_wp w6 (by decide) hk) ?_)
  intro N7 ⟨w7, f7⟩
  have w7 : NL N7 (chF k) := w7
  have g7 := f6.tr f7
  have hst7 : N7.1 6 (nI k).toNatClampNeg = nI ((DV s.1 s.2 A).2.1 k) := by rw [ck, g7.1 6 (by decide) (by decide), hx4.1, hh, if_pos rfl]
  have hle := hx4.2.2.2.1
  have fin : ∀ N5 W5 v, NL N5 W5 → v = N5.1 0 24 → (∀ a, (a = 1 ∨ a = 3 ∨ a = 4 ∨ a = 19) → N5.1 a = N4.1 a) → (∀ j, j ≠ 24 → N5.1 0 j = N4.1 0 j) → W5 = fctW s.1 s.2 (DV s.1 s.2 A) k → NLQ N s (fctW s.1 s.2 (DV s.1 s.2 A) k) (v, N5) := fun N5 W5 v hw hv ha hj he => by
    refine ⟨?_, ?_, he ▸ hw, ?_, fun a ha' => ?_, fun j hj' => ?_⟩
    · show v = _; rw [hv, hw.1, he]
    · show N5.1 0 6 = 0; rw [hj 6 (by decide)]; exact h2
    · show MDs (N5.1 1) s; rw [ha 1 (by decide)]; exact h4
    · show N5.1 a = N.1 a; rw [ha a (by omega)]; exact h3.1 a (by omega)
    · show N5.1 0 j = N.1 0 j; rw [hj j (by omega)]; exact h3.2 j (by omega)
  refine wp_pos hin ?_
  rw [hst7]
  cases hT : s.1 k
  · have hst := hts.2 hT
    have hb := (hB k hk).2.1 hst
    refine wp_neg (fun z => by have := (nI_eq (b := 0) (by omega) (by decide)).mp z; omega) (wp_bind (wp_mono (says_wp w7 (by rw [chF_len]; decide) _) ?_))
    intro N8 ⟨w8, f8⟩
    have g8 := g7.tr f8
    have h78 : N8.1 7 (nI k).toNatClampNeg = nI ((DV s.1 s.2 A).2.2.1 k) := by rw [ck, g8.1 7 (by decide) (by decide), hx4.2.1, if_pos hst]
    refine wp_pos hin ?_
    rw [h78]
    refine wp_bind (wp_mono (says_wp w8 (by rw [len1, chF_len]; decide) _) ?_)
    intro N9 ⟨w9, f9⟩
    refine wp_bind (wp_mono (says_wp w9 (by rw [len1, len1, chF_len]; decide) _) ?_)
    intro N10 ⟨w10, f10⟩
    have g10 := (g8.tr f9).tr f10
    have hX10 : RX N10 (DV s.1 s.2 A) := fun q hq => by
      rw [g10.1 6 (by decide) (by decide), g10.1 7 (by decide) (by decide), g10.1 8 (by decide) (by decide)]
      exact h1.x q hq
    have hM10 : MDs (N10.1 1) s := by rw [g10.1 1 (by decide) (by decide)]; exact h4
    refine wp_bd2 (wp_mono (rneeds_wp hX10 hB hM10.2.2 hO hk) ?_)
    rintro ⟨v12, N11⟩ ⟨hv12, hnd, hF11⟩
    have hv12 : v12 = nI (fb_ct (nq s.2 (DV s.1 s.2 A) k) 3) := hv12
    subst hv12
    have hnd' : NDS N11 s.2 (DV s.1 s.2 A) k := hnd
    have hF11' : FR c12 N10 N11 := hF11
    have hSX : SX s.2 (DV s.1 s.2 A) := SX.DV_ hI.1 hO.ok
    obtain ⟨L, hL⟩ : ∃ L : Nat → Nat, L = fun p => (N11.1 12 p).toNatClampNeg := ⟨_, rfl⟩
    have hLj : ∀ j, j < 3 → nq s.2 (DV s.1 s.2 A) k j = true → L (fb_ct (nq s.2 (DV s.1 s.2 A) k) j) = nv s.2 (DV s.1 s.2 A) k j := fun j hj hqj => by
      have h1 := hnd' j hj hqj
      have h2 := nv_lt hSX hO hk hj hqj
      rw [hL]
      show (N11.1 12 _).toNatClampNeg = _
      rw [h1]
      exact nI_clamp (by omega)
    have hrow : ∀ p, p < fb_ct (nq s.2 (DV s.1 s.2 A) k) 3 → N11.1 12 p = nI (L p) ∧ L p < 216 := fun p hp => by
      obtain ⟨j, hj, hqj, hpj⟩ := fb_ct_kth hp
      have h1 := hnd' j hj hqj
      have h2 := nv_lt hSX hO hk hj hqj
      rw [hpj] at h1
      have : L p = nv s.2 (DV s.1 s.2 A) k j := by rw [hL]; show (N11.1 12 p).toNatClampNeg = _; rw [h1]; exact nI_clamp (by omega)
      rw [this]
      exact ⟨h1, h2⟩
    have hsg := sg_rs hLj 3 (Nat.le_refl _)
    have hpos : ¬ fb_ct (nq s.2 (DV s.1 s.2 A) k) 3 = 0 := fun z => by
      obtain ⟨j, hj, hp⟩ := (hO.2.1 _ hb.2.1).2.1
      have h5 := fb_ct_zero.mp z j hj
      unfold nq at h5
      rw [decide_eq_true hst, Bool.true_and] at h5
      unfold psc at h5
      rw [decide_eq_true hp] at h5
      exact absurd h5 (by decide)
    rw [if_neg hpos] at hsg
    have hm3 := fb_ct_le (nq s.2 (DV s.1 s.2 A) k) 3
    have w11 : NL N11 (chF k ++ [ch 60] ++ [ch (ji2c (48 + nI ((DV s.1 s.2 A).2.2.1 k)))] ++ [ch 58]) := ⟨by rw [hF11'.1 0 (by decide)]; exact w10.1, fun j hj => by rw [hF11'.1 18 (by decide)]; exact w10.2 j hj⟩
    obtain ⟨W0, hW0⟩ : ∃ W0, W0 = chF k ++ [ch 60] ++ [ch (ji2c (48 + nI ((DV s.1 s.2 A).2.2.1 k)))] ++ [ch 58] := ⟨_, rfl⟩
    have hl0 : W0.length = 6 := by rw [hW0]; rfl
    rw [← hW0] at w11
    have hfct : fctW s.1 s.2 (DV s.1 s.2 A) k = W0 ++ rsW L (fb_ct (nq s.2 (DV s.1 s.2 A) k) 3) := by
      unfold fctW
      rw [hT, if_neg (by decide), hsg, hW0, List.append_assoc _ [ch 58]]
    generalize fb_ct (nq s.2 (DV s.1 s.2 A) k) 3 = n at *
    refine wp_for n (fun (j : Nat) (s : Int32 × KS) => s.1 = nI j ∧ NL s.2 (W0 ++ rsW L j) ∧ NLF N11 s.2) (fun j s rec hj hI' hrec => ?_) (by omega) (i := 0) (Nat.zero_le _) ⟨rfl, by show NL N11 (W0 ++ []); rw [List.append_nil]; exact w11, NLF.rf⟩
    obtain ⟨v13, N14⟩ := s
    obtain ⟨hv13, hw14, hf14⟩ := hI'
    have hv13 : v13 = nI j := hv13
    subst hv13
    have hw14 : NL N14 (W0 ++ rsW L j) := hw14
    have hf14 : NLF N11 N14 := hf14
    rw [fX10_line_L125_u]
    rcases Nat.lt_or_ge j n with hlt | hge
    · have e1 : (nI j + 1 : Int32) = nI (j + 1) := by rw [li1, nI_add]
      have hlen := rsW_len L j
      have hrw := hrow j hlt
      refine wp_neg (nI_ge hlt (by omega)) (wp_jn ?_)
      have key : ∀ N16, NL N16 (W0 ++ (if 0 < j then rsW L j ++ [ch 44] else rsW L j)) → NLF N11 N16 → wp (fX10_line_J143_134 (nI j) rec N16) (NLQ N s (fctW s.1 s.2 (DV s.1 s.2 A) k)) := by
        intro N16 w16 f16
        unfold fX10_line_J143_134
        have h12 : N16.1 12 (nI j).toNatClampNeg = nI (L j) := by rw [nI_clamp (by omega), f16.1 12 (by decide) (by decide)]; exact hrw.1
        refine wp_pos ((inb_N (by omega)).mpr (by omega)) ?_
        rw [h12, e1]
        have hlen2 : (W0 ++ (if 0 < j then rsW L j ++ [ch 44] else rsW L j)).length ≤ 6 + 4 * j + 1 := by
          rw [List.length_append, hl0]
          by_cases q : 0 < j
          · rw [if_pos q, len1]; omega
          · rw [if_neg q]; omega
        refine wp_bind (wp_mono (rfact_wp w16 (by omega) hrw.2) ?_)
        intro N17 ⟨w17, f17⟩
        refine wp_nm (hrec _ hlt ⟨rfl, ?_, f16.tr f17⟩)
        show NL N17 (W0 ++ ((if 0 < j then rsW L j ++ [ch 44] else rsW L j) ++ chF (L j)))
        rw [← List.append_assoc]
        exact w17
      rcases Nat.eq_zero_or_pos j with q | q
      · refine wp_pos (by rw [q]; decide) (key N14 ?_ hf14)
        rw [if_neg (by omega)]
        exact hw14
      · refine wp_neg (nI_nle q (by omega)) (wp_bind (wp_mono (says_wp hw14 (by rw [List.length_append, hl0]; omega) _) ?_))
        intro N19 ⟨w19, f19⟩
        refine key N19 ?_ (hf14.tr f19)
        rw [if_pos q, ← List.append_assoc]
        exact w19
    · have : j = n := by omega
      subst this
      refine wp_pos (nI_le (Nat.le_refl _) (by omega)) ?_
      unfold fX10_line_X125
      have gg : ∀ a, (a = 1 ∨ a = 3 ∨ a = 4 ∨ a = 19) → N14.1 a = N4.1 a := fun a ha => by
        rw [hf14.1 a (by omega) (by omega), hF11'.1 a (by omega), g10.1 a (by omega) (by omega)]
      have g0 : ∀ q, q ≠ 24 → N14.1 0 q = N4.1 0 q := fun q hq => by
        rw [hf14.2 q hq, hF11'.1 0 (by decide), g10.2 q hq]
      exact wp_some (fin N14 _ _ hw14 rfl gg g0 hfct.symm)
  · have hst := hts.1 hT
    refine wp_pos (by rw [hst]; rfl) (wp_bind (wp_mono (says_wp w7 (by rw [chF_len]; decide) _) ?_))
    intro N20 ⟨w20, f20⟩
    have g20 := g7.tr f20
    refine wp_some (fin N20 _ _ w20 rfl (fun a ha => g20.1 a (by omega) (by omega)) (fun j hj => g20.2 j hj) ?_)
    unfold fctW
    rw [hT, if_pos rfl]
end LNF
section CASN
variable {α : Type} {P : α → Prop} {G : LST → Option α} {M N : KS} {s : ST} {v : Int64} {d : UInt64} {xs : Nat → Int32} {i : Nat}
theorem g_19 (h : REL M N) (hG : ∀ M' N' v' d', REL M' N' → wp (G (M', N', v', d')) P) : wp (gL_19 xs i (M, N, v, d) G) P := by
  obtain ⟨s, hO, hK, hM, hS, hB⟩ := h
  obtain ⟨A, hI, hA5⟩ := lay_ex hO
  unfold gL_19 fL_line
  rcases fact_cases (xs (i + 1)) (xs (i + 2)) (xs (i + 3)) with ⟨r, x, y, hr, hx, hy, e1, e2, e3⟩ | ⟨b1, b2⟩
  · rw [e1, e2, e3]
    have hk : 36 * r + 6 * x + y < 216 := by omega
    cases hh : (DV s.1 s.2 A).1 (36 * r + 6 * x + y)
    · refine sim_ex (f := Int32.toInt64) (e := 2) (t := 2) (val := 0) (v0 := v) hO hK hB ?_ (fun M' => rfl) (by decide) ?_ hG
      · unfold fX9_line
        rw [(fact_y hr hx hy).1, num_eq]
        refine wp_neg (by decide) (wp_nm (wp_bind (wp_mono (held_wp hO hK hS hI) ?_)))
        intro M1 ⟨h1, h2, h3, h4⟩
        rw [has_eq h1.2.2.2.1 hk, hh]
        exact wp_bind (wp_some (wp_pos rfl (wp_some (CQ.inl h4 h2))))
      · unfold fX10_line
        rw [(fact_y hr hx hy).2]
        refine wp_bind (wp_some (wp_jn (wp_neg (by decide) ?_)))
        unfold fX10_line_J15_7
        rw [rfact_eq]
        have ck : (nI (36 * r + 6 * x + y)).toNatClampNeg = 36 * r + 6 * x + y := nI_clamp (by omega)
        refine wp_nm (wp_pos (by rw [k06]; decide) (wp_bind (wp_mono (rd0_wp hO hM hI) ?_)))
        intro N4 ⟨h1, h2, h3, h4⟩
        refine wp_nm (wp_pos ((inb_N (by omega)).mpr hk) (wp_neg (fun z => ?_) (wp_bd2 ?_)))
        · have := (stg6 h1.x (by rw [ck]; exact hk)).2.mp z
          rw [ck, hh] at this
          exact absurd this (by decide)
        · unfold fX10_fails
          refine wp_nm (wp_some (wp_some ⟨by show (kset N4 0 6 2).1 0 6 = 2; rw [k06], fun h => absurd h (by decide), h3.tr (NF.t (by decide)), ?_⟩))
          show MDs ((kset N4 0 6 2).1 1) s
          rw [kset_nc (by decide)]
          exact h4
    · refine sim Int32.toInt64 (wp_bind ?_) hG
      unfold fX9_line
      rw [(fact_y hr hx hy).1, num_eq]
      refine wp_neg (by decide) (wp_nm (wp_bind (wp_mono (held_wp hO hK hS hI) ?_)))
      intro M1 ⟨h1, h2, h3, h4⟩
      rw [has_eq h1.2.2.2.1 hk, hh]
      refine wp_bind (wp_some (wp_neg nb1 (wp_bind (wp_mono (kline_wp hO h3 h2 hI hk hh) ?_))))
      intro M4 ⟨k1, k2, k3, k4⟩
      refine wp_some (wp_some (wp_mono (rline_wp hO hM hI hr hx hy hh) ?_))
      intro b ⟨n1, n2, n3, n4, n5, n6⟩
      refine ⟨n2, fun _ => ?_, s, hO, k2, n4, k3, hB.ln ((h4.wk (fun a h => Or.inl h)).tr k4) n5 n6 k1 n3 (fctW_len _) (fctW_C _)⟩
      show Int32.toInt64 (M4.1 119 1) = Int32.toInt64 b.1
      rw [n1, k1.1]
  · refine sim_ex (f := Int32.toInt64) (e := 0) (t := 1) (val := 0) (v0 := v) hO hK hB (by unfold fX9_line; rw [b1]; exact wp_pos rfl (wp_some (CQ.inl FQ.rf hS))) (fun M' => rfl) (by decide) ?_ hG
    unfold fX10_line
    rw [b2]
    refine wp_bind (wp_some (wp_jn (wp_pos rfl ?_)))
    unfold fX10_line_J15_7
    exact wp_nm (wp_neg (by rw [k06]; decide) (wp_some (NQ.bad (by decide) hM)))
end CASN
