/-! ===== the reference's rounds and layers ===== -/
abbrev cgs : Nat → Prop := fun q => q = 6 ∨ q = 7 ∨ q = 8 ∨ q = 11
section RD2
variable {N : KS} {R : RS}
theorem goes_wp {X : DX} {A : Nat → Nat} {l i : Nat} (hi1 : 0 < i) (hi : i ≤ 300) (hn : N.1 1 216 = nI R.1) (hn10 : R.1 ≤ 10) (hR : MB (N.1 1) R.1 R) (hO : ∀ r, r < R.1 → OK1 R r) (hA : LR N A) (hA5 : ∀ q, q < 6 → A q ≤ 5) (hl : l < 6) (hX : RX N X) :
    wp (fX10_goes N (nI l) (nI i)) (fun a => a.1 = nI (nws R A l X) ∧ RX a.2 (stp R A l i X) ∧ FR cgs N a.2) := by
  unfold fX10_goes
  refine goes1_wp hn hn10 hR hO hA hA5 hl hX (fun N1 hG hF1 => ?_)
  unfold fX10_goes_X5
  show wp (lp (fX10_goes_L197 (nI i)) (fX10_goes_X197 (nI (nws R A l X))) 1000000 (0, N1)) _
  refine wp_for 216 (fun (k : Nat) (s : Int32 × KS) => s.1 = nI k ∧ (∀ q, q < k → s.2.1 6 q = (if (stp R A l i X).1 q then nI ((stp R A l i X).2.1 q) else -nI 1)) ∧ (∀ q, k ≤ q → s.2.1 6 q = N.1 6 q) ∧ FR (fun q => q = 6) N1 s.2) (fun k s rec hk6 hI hrec => ?_) (by decide) (Nat.zero_le _) ⟨rfl, fun q h => absurd h (Nat.not_lt_zero _), fun q _ => by rw [hF1.1 6 (by decide)], FR.rf⟩
  obtain ⟨v, N2⟩ := s
  obtain ⟨hv, h1, h2, hF⟩ := hI
  have hv : v = nI k := hv
  subst hv
  have g1 : ∀ q, q < k → N2.1 6 q = (if (stp R A l i X).1 q then nI ((stp R A l i X).2.1 q) else -nI 1) := h1
  have g2 : ∀ q, k ≤ q → N2.1 6 q = N.1 6 q := h2
  have hF2 : FR (fun q => q = 6) N1 N2 := hF
  rw [fX10_goes_L197_u]
  rcases Nat.lt_or_ge k 216 with hlt | hge
  · have hXk := hX k hlt
    have hst := stg_lt hX.stg hlt
    have hGk := hG k hlt
    unfold GK at hGk
    have e7 : N2.1 7 = N1.1 7 := hF2.1 7 (by decide)
    have e6 := g2 k (Nat.le_refl _)
    have step : ∀ w : Int32, w = (if (stp R A l i X).1 k then nI ((stp R A l i X).2.1 k) else -nI 1) → wp (rec (nI (k + 1), kset N2 6 k w)) (fun a => a.1 = nI (nws R A l X) ∧ RX a.2 (stp R A l i X) ∧ FR cgs N a.2) := by
      intro w hw
      refine hrec _ hlt ⟨rfl, fun q hq => ?_, fun q hq => ?_, hF2.set rfl⟩
      · show (kset N2 6 k w).1 6 q = _
        rw [kset_c]
        by_cases e : q = k
        · rw [if_pos e, e, hw]
        · rw [if_neg e]; exact g1 q (by omega)
      · show (kset N2 6 k w).1 6 q = _
        rw [kset_c, if_neg (by omega)]
        exact g2 q (by omega)
    have keep : nw X.1 R A l k = false → wp (fX10_goes_J235_218 (nI k) N2 rec ()) (fun a => a.1 = nI (nws R A l X) ∧ RX a.2 (stp R A l i X) ∧ FR cgs N a.2) := by
      intro hnw
      unfold fX10_goes_J235_218
      refine wp_pos ((inb_N (by omega)).mpr hlt) (wp_pos ((inb_N (by omega)).mpr hlt) (wp_nm (wp_nm ?_)))
      rw [nI_clamp (show k < 2 ^ 31 by omega), li1, nI_add]
      refine step _ ?_
      rw [e6, hXk.1]
      show _ = if (X.1 k || nw X.1 R A l k) then nI (if nw X.1 R A l k then i else X.2.1 k) else -nI 1
      rw [hnw, Bool.or_false]
      simp only [Bool.false_eq_true, if_false]
    refine wp_neg (nI_ge hlt (by decide)) ?_
    refine wp_pos ((inb_N (by omega)).mpr hlt) (wp_jn ?_)
    simp (disch := omega) only [nI_clamp, e6, e7]
    cases hs : X.1 k
    · rw [hs] at hGk
      simp only [Bool.false_eq_true, if_false] at hGk
      refine wp_neg (fun z => by rw [hst.2.mp z] at hs; exact absurd hs (by decide)) ?_
      refine wp_pos ((inb_N (by omega)).mpr hlt) ?_
      cases hnw : nw X.1 R A l k
      · rw [hnw] at hGk
        simp only [Bool.false_eq_true, if_false] at hGk
        exact wp_pos (by rw [hGk.1]; exact neg1_lt) (keep hnw)
      · rw [hnw] at hGk
        simp only [if_true] at hGk
        have hr := (nw_lay hnw).2.1
        refine wp_neg (by rw [hGk.1]; exact nI_pos (show nwr X R A l k < 2 ^ 31 by unfold nwr; omega)) ?_
        refine wp_pos ((inb_N (by omega)).mpr hlt) (wp_nm (wp_nm ?_))
        rw [li1, nI_add]
        refine step _ ?_
        show _ = if (X.1 k || nw X.1 R A l k) then nI (if nw X.1 R A l k then i else X.2.1 k) else -nI 1
        rw [hnw, Bool.or_true, if_pos rfl, if_pos rfl]
    · have hnw : nw X.1 R A l k = false := by unfold nw; rw [hs]; rfl
      exact wp_pos (hst.2.mpr hs) (keep hnw)
  · have : k = 216 := by omega
    subst this
    refine wp_pos (nI_le (Nat.le_refl _) (by decide)) ?_
    unfold fX10_goes_X197
    refine wp_some ⟨rfl, fun q hq => ?_, (hF1.wk (fun a h => by rcases h with h | h | h; exact Or.inr (Or.inl h); exact Or.inr (Or.inr (Or.inl h)); exact Or.inr (Or.inr (Or.inr h)))).tr (hF2.wk (fun a h => Or.inl h))⟩
    have hXq := hX q hq
    have hGq := hG q hq
    unfold GK at hGq
    have e7 : N2.1 7 = N1.1 7 := hF2.1 7 (by decide)
    have e8 : N2.1 8 = N1.1 8 := hF2.1 8 (by decide)
    show N2.1 6 q = _ ∧ N2.1 7 q = _ ∧ N2.1 8 q = _ ∧ _
    rw [e7, e8]
    refine ⟨g1 q hq, ?_⟩
    show N1.1 7 q = (if 0 < (if nw X.1 R A l q then i else X.2.1 q) then nI (if nw X.1 R A l q then nwr X R A l q else X.2.2.1 q) else -nI 1) ∧ N1.1 8 q = (if 0 < (if nw X.1 R A l q then i else X.2.1 q) then nI (if nw X.1 R A l q then nwz X R A l q else X.2.2.2.1 q) else -nI 1) ∧ (if nw X.1 R A l q then i else X.2.1 q) ≤ 300 ∧ (0 < (if nw X.1 R A l q then i else X.2.1 q) → (X.1 q || nw X.1 R A l q) = true)
    cases hs : X.1 q
    · rw [hs] at hGq
      simp only [Bool.false_eq_true, if_false] at hGq
      have hst0 : ¬ 0 < X.2.1 q := fun z => by rw [hXq.2.2.2.2 z] at hs; exact absurd hs (by decide)
      cases hnw : nw X.1 R A l q
      · rw [hnw] at hGq
        simp only [Bool.false_eq_true, if_false] at hGq ⊢
        rw [if_neg hst0, if_neg hst0]
        exact ⟨hGq.1, hGq.2, hXq.2.2.2.1, fun z => absurd z hst0⟩
      · rw [hnw] at hGq
        simp only [if_true] at hGq ⊢
        rw [if_pos hi1, if_pos hi1]
        exact ⟨hGq.1, hGq.2, hi, fun _ => rfl⟩
    · rw [hs] at hGq
      simp only [if_true] at hGq
      have hnw : nw X.1 R A l q = false := by unfold nw; rw [hs]; rfl
      rw [hnw]
      simp only [Bool.false_eq_true, if_false]
      rw [hGq.1, hGq.2]
      exact ⟨hXq.2.1, hXq.2.2.1, hXq.2.2.2.1, fun _ => rfl⟩
theorem RX.none {X : DX} {A : Nat → Nat} {l i : Nat} (h : RX N (stp R A l i X)) (h0 : nws R A l X = 0) : RX N X := fun k hk => by
  have h1 := h k hk
  have hnw := nws_0 h0 hk
  unfold stp at h1
  simp only [hnw, Bool.or_false, Bool.false_eq_true, if_false] at h1
  exact h1
theorem RX.fr {N' : KS} {X : DX} {P : Nat → Prop} (h : RX N X) (k : FR P N N') (h6 : ¬ P 6) (h7 : ¬ P 7) (h8 : ¬ P 8) : RX N' X := fun q hq => by
  rw [k.1 6 h6, k.1 7 h7, k.1 8 h8]
  exact h q hq
theorem LR.fr {N' : KS} {A : Nat → Nat} {P : Nat → Prop} (h : LR N A) (k : FR P N N') (h5 : ¬ P 5) : LR N' A := fun q hq => by
  rw [k.1 5 h5]
  exact h q hq
abbrev cdv : Nat → Prop := fun q => q = 5 ∨ q = 6 ∨ q = 7 ∨ q = 8 ∨ q = 9 ∨ q = 10 ∨ q = 11
/-- what derives leaves behind -/
def RD (N' : KS) (T : Nat → Bool) (R : RS) (A : Nat → Nat) (j : Nat) : Prop :=
  LR N' A ∧ RX N' (dend R A (X0 T) j) ∧ (∀ l, l < j → N'.1 10 l = nI (rr R A (X0 T) l)) ∧ ∀ l, l < j → ∀ i, i < rr R A (X0 T) l → N'.1 9 (fb_sm (rr R A (X0 T)) l + i) = nI (nws R A l (itr R A l (dend R A (X0 T) l) i))
theorem der_wp {T : Nat → Bool} (hT : ∀ k, k < 216 → N.1 1 k = bI (T k)) (hn : N.1 1 216 = nI R.1) (hn10 : R.1 ≤ 10) (hR : MB (N.1 1) R.1 R) (hO : ∀ r, r < R.1 → OK1 R r) (hL : LYD R R.1) :
    wp (fX10_derives N) (fun N' => ∃ A, IsLay R R.1 A ∧ (∀ q, q < 6 → A q ≤ 5) ∧ RD N' T R A 6 ∧ FR cdv N N') := by
  unfold fX10_derives
  refine wp_for 216 (fun (k : Nat) (s : Int32 × KS) => s.1 = nI k ∧ (∀ q, q < k → s.2.1 6 q = (if T q then nI 0 else -nI 1) ∧ s.2.1 7 q = -nI 1 ∧ s.2.1 8 q = -nI 1) ∧ FR (fun q => q = 6 ∨ q = 7 ∨ q = 8) N s.2) (fun k s rec hk6 hI hrec => ?_) (by decide) (Nat.zero_le _) ⟨rfl, fun q h => absurd h (Nat.not_lt_zero _), FR.rf⟩
  obtain ⟨v, N2⟩ := s
  obtain ⟨hv, h1, hF⟩ := hI
  have hv : v = nI k := hv
  subst hv
  have g1 : ∀ q, q < k → N2.1 6 q = (if T q then nI 0 else -nI 1) ∧ N2.1 7 q = -nI 1 ∧ N2.1 8 q = -nI 1 := h1
  have hF2 : FR (fun q => q = 6 ∨ q = 7 ∨ q = 8) N N2 := hF
  rw [fX10_derives_L2_u]
  rcases Nat.lt_or_ge k 216 with hlt | hge
  · refine wp_neg (nI_ge hlt (by decide)) ?_
    have e1 : N2.1 1 k = bI (T k) := by rw [hF2.1 1 (by decide)]; exact hT k hlt
    have step : ∀ w : Int32, w = (if T k then nI 0 else -nI 1) → wp (fX10_derives_J31_23 (nI k) N2 rec w) (fun N' => ∃ A, IsLay R R.1 A ∧ (∀ q, q < 6 → A q ≤ 5) ∧ RD N' T R A 6 ∧ FR cdv N N') := by
      intro w hw
      unfold fX10_derives_J31_23
      refine wp_pos ((inb_N (by omega)).mpr hlt) (wp_nm (wp_pos ((inb_N (by omega)).mpr hlt) (wp_nm (wp_pos ((inb_N (by omega)).mpr hlt) (wp_nm (wp_nm ?_))))))
      rw [nI_clamp (show k < 2 ^ 31 by omega), li1, nI_add]
      refine hrec _ hlt ⟨rfl, fun q hq => ?_, ((hF2.set (Or.inl rfl)).set (Or.inr (Or.inl rfl))).set (Or.inr (Or.inr rfl))⟩
      show (kset (kset (kset N2 6 k w) 7 k (-nI 1)) 8 k (-nI 1)).1 6 q = _ ∧ (kset (kset (kset N2 6 k w) 7 k (-nI 1)) 8 k (-nI 1)).1 7 q = _ ∧ (kset (kset (kset N2 6 k w) 7 k (-nI 1)) 8 k (-nI 1)).1 8 q = _
      rw [kset_c, kset_nc (by decide), kset_nc (by decide), kset_c, kset_nc (by decide), kset_c, kset_nc (by decide), kset_nc (by decide)]
      by_cases e : q = k
      · rw [if_pos e, if_pos e, if_pos e, e]
        exact ⟨hw, rfl, rfl⟩
      · rw [if_neg e, if_neg e, if_neg e]
        exact g1 q (by omega)
    rw [show (0 : Int32) + nI k = nI k by rw [li0, nI_add, Nat.zero_add]]
    refine wp_pos ((inb_N (by omega)).mpr (by omega)) (wp_jn ?_)
    simp (disch := omega) only [nI_clamp, e1]
    cases ht : T k
    · exact wp_neg (by decide) (step _ (by rw [ht]; rfl))
    · exact wp_pos rfl (step _ (by rw [ht]; rfl))
  · have : k = 216 := by omega
    subst this
    refine wp_pos (nI_le (Nat.le_refl _) (by decide)) ?_
    unfold fX10_derives_X2
    have hR2 := hR.fr hF2 (by decide)
    have hn2 : N2.1 1 216 = nI R.1 := by rw [hF2.1 1 (by decide)]; exact hn
    refine wp_bd2 (wp_mono (rlm_wp hn10 hO hR2 hn2 hL) ?_)
    rintro ⟨v5, N3⟩ ⟨A, hv5, hA, hI, hA5, hF3⟩
    have hv5 : v5 = nI (mx6 A 6 + 1) := hv5
    subst hv5
    have hA3 : LR N3 A := hA
    have hF3' : FR c5 N2 N3 := hF3
    have hG3 : FR cdv N N3 := (hF2.wk (fun a h => by rcases h with h | h | h; exact Or.inr (Or.inl h); exact Or.inr (Or.inr (Or.inl h)); exact Or.inr (Or.inr (Or.inr (Or.inl h))))).tr (hF3'.wk (fun a h => Or.inl h))
    have hmx : mx6 A 6 ≤ 5 := mx6_le.mpr hA5
    have hX3 : RX N3 (X0 T) := fun q hq => by
      rw [hF3'.1 6 (by decide), hF3'.1 7 (by decide), hF3'.1 8 (by decide)]
      exact ⟨(g1 q hq).1, (g1 q hq).2.1, (g1 q hq).2.2, Nat.zero_le _, fun z => absurd z (Nat.lt_irrefl _)⟩
    generalize hrr : rr R A (X0 T) = rrf
    have hrl : ∀ l, rr R A (X0 T) l = rrf l := fun l => by rw [← hrr]
    refine wp_for 6 (fun (l : Nat) (s : Int32 × Int32 × KS) => s.1 = nI (fb_sm rrf l) ∧ s.2.1 = nI l ∧ RD s.2.2 T R A l ∧ FR cdv N s.2.2) (fun l s rec2 hl6 hI2 hrec2 => ?_) (by decide) (Nat.zero_le _) ⟨rfl, rfl, ⟨hA3, hX3, fun l h => absurd h (Nat.not_lt_zero _), fun l h => absurd h (Nat.not_lt_zero _)⟩, hG3⟩
    obtain ⟨v, w, N4⟩ := s
    obtain ⟨hv, hw, hD, hF4⟩ := hI2
    have hv : v = nI (fb_sm rrf l) := hv
    subst hv
    have hw : w = nI l := hw
    subst hw
    have hD4 : RD N4 T R A l := hD
    have hG4 : FR cdv N N4 := hF4
    rw [fX10_derives_L61_u]
    rcases Nat.lt_or_ge l 6 with hll | hlg
    · refine wp_neg (nI_ge hll (by decide)) ?_
      refine wp_pos ((inb_N (by omega)).mpr hll) (wp_nm (wp_jn ?_))
      rw [nI_clamp (show l < 2 ^ 31 by omega)]
      generalize hN5 : kset N4 10 l (0 : Int32) = N5
      have h45 : FR (fun q => q = 10) N4 N5 := by rw [← hN5]; exact FR.rf.set rfl
      have h10 : N5.1 10 l = nI 0 := by rw [← hN5, kset_c, if_pos rfl]; rfl
      have h10r : ∀ q, q ≠ l → N5.1 10 q = N4.1 10 q := fun q hq => by rw [← hN5, kset_c, if_neg hq]
      have hG5 : FR cdv N N5 := hG4.tr (h45.wk (fun a h => Or.inr (Or.inr (Or.inr (Or.inr (Or.inr (Or.inl h)))))))
      have hct := rr_ct (R := R) (lay := A) (X := X0 T) l
      have hnr := nr_le (X := dend R A (X0 T) l) (R := R) (lay := A) (l := l)
      rw [hrr] at hct
      have hnr2 : nr R A l (dend R A (X0 T) l) = rrf l := hrl l
      rw [hnr2] at hnr
      -- the end of the layer
      have hend : ∀ N6, FR cdv N N6 → LR N6 A → RX N6 (dend R A (X0 T) (l + 1)) → N6.1 10 l = nI (rrf l) → (∀ q, q < l → N6.1 10 q = N4.1 10 q) → (∀ i, i < rrf l → N6.1 9 (fb_sm rrf l + i) = nI (nws R A l (itr R A l (dend R A (X0 T) l) i))) → (∀ q, q < fb_sm rrf l → N6.1 9 q = N4.1 9 q) → wp (fX10_derives_X91 (nI l) rec2 (nI (fb_sm rrf (l + 1)), N6)) (fun N' => ∃ A, IsLay R R.1 A ∧ (∀ q, q < 6 → A q ≤ 5) ∧ RD N' T R A 6 ∧ FR cdv N N') := by
        intro N6 hG6 hA6 hX6 h10l h10o h9n h9o
        show wp (nm (nI l + 1) fun v18 => rec2 (nI (fb_sm rrf (l + 1)), v18, N6)) _
        refine wp_nm ?_
        rw [li1, nI_add]
        refine hrec2 _ hll ⟨rfl, rfl, ⟨hA6, hX6, fun q hq => ?_, fun q hq i hi => ?_⟩, hG6⟩
        · show N6.1 10 q = _
          rcases Nat.lt_or_ge q l with z | z
          · rw [h10o q z]; exact hD4.2.2.1 q z
          · have : q = l := by omega
            rw [this, h10l, hrl]
        · show N6.1 9 _ = _
          rcases Nat.lt_or_ge q l with z | z
          · have hlt2 : fb_sm (rr R A (X0 T)) q + i < fb_sm rrf l := by
              rw [hrr]
              rw [hrr] at hi
              have := fb_sm_part rrf z
              omega
            rw [h9o _ hlt2]
            exact hD4.2.2.2 q z i hi
          · have : q = l := by omega
            subst this
            rw [hrr] at hi ⊢
            exact h9n i hi
      rcases Nat.lt_or_ge (mx6 A 6) l with hno | hyes
      · have hz : rrf l = 0 := by
          rw [← hrl]
          exact itr_no (fun q hq z => by have := mx6_le.mp (Nat.le_refl (mx6 A 6)) q hq; omega)
        refine wp_pos (nI_le (by omega) (by omega)) ?_
        show wp (lp (fX10_derives_L91 (nI l)) (fX10_derives_X91 (nI l) rec2) 1000000 (nI (fb_sm rrf l), 0, N5)) _
        rw [show (1000000 : Nat) = 999999 + 1 from rfl, lp_s, fX10_derives_L91_u]
        refine wp_pos (by decide) ?_
        have e : fb_sm rrf (l + 1) = fb_sm rrf l := by show fb_sm rrf l + rrf l = _; rw [hz]; rfl
        rw [← e]
        refine hend N5 hG5 (hD4.1.fr h45 (by decide)) ?_ (by rw [hz]; exact h10) (fun q hq => h10r q (by omega)) (fun i hi => by rw [hz] at hi; exact absurd hi (Nat.not_lt_zero _)) (fun q _ => by rw [h45.1 9 (by decide)])
        have : dend R A (X0 T) (l + 1) = dend R A (X0 T) l := by
          show itr R A l (dend R A (X0 T) l) (nr R A l (dend R A (X0 T) l)) = _
          rw [hnr2, hz]
          rfl
        rw [this]
        exact hD4.2.1.fr h45 (by decide) (by decide) (by decide)
      · refine wp_neg (nI_ge (by omega) (by omega)) ?_
        have hR5 := hR.fr hG5 (by decide)
        have hn5 : N5.1 1 216 = nI R.1 := by rw [hG5.1 1 (by decide)]; exact hn
        refine wp_bd2 (wp_mono (goes_wp (i := 1) (by decide) (by decide) hn5 hn10 hR5 hO (hD4.1.fr h45 (by decide)) hA5 hll (hD4.2.1.fr h45 (by decide) (by decide) (by decide))) ?_)
        rintro ⟨v25, N6⟩ ⟨hv25, hX6, hF6⟩
        have hv25 : v25 = nI (nws R A l (dend R A (X0 T) l)) := hv25
        subst hv25
        have hF6' : FR cgs N5 N6 := hF6
        have cgw : ∀ a, cgs a → cdv a := fun a h => by
          rcases h with h | h | h | h
          · exact Or.inr (Or.inl h)
          · exact Or.inr (Or.inr (Or.inl h))
          · exact Or.inr (Or.inr (Or.inr (Or.inl h)))
          · exact Or.inr (Or.inr (Or.inr (Or.inr (Or.inr (Or.inr h)))))
        show wp (lp (fX10_derives_L91 (nI l)) (fX10_derives_X91 (nI l) rec2) 1000000 (nI (fb_sm rrf l), nI (nws R A l (dend R A (X0 T) l)), N6)) _
        refine wp_for (rrf l) (fun (j : Nat) (s : Int32 × Int32 × KS) => s.1 = nI (fb_sm rrf l + j) ∧ s.2.1 = nI (nws R A l (itr R A l (dend R A (X0 T) l) j)) ∧ RX s.2.2 (itr R A l (dend R A (X0 T) l) (j + 1)) ∧ LR s.2.2 A ∧ s.2.2.1 10 l = nI j ∧ (∀ q, q < l → s.2.2.1 10 q = N4.1 10 q) ∧ (∀ i, i < j → s.2.2.1 9 (fb_sm rrf l + i) = nI (nws R A l (itr R A l (dend R A (X0 T) l) i))) ∧ (∀ q, q < fb_sm rrf l → s.2.2.1 9 q = N4.1 9 q) ∧ FR cdv N s.2.2) (fun j s rec3 hj hI3 hrec3 => ?_) (by omega) (Nat.zero_le _) ⟨rfl, rfl, hX6, (hD4.1.fr h45 (by decide)).fr hF6' (by decide), by rw [show (nI (fb_sm rrf l), nI (nws R A l (dend R A (X0 T) l)), N6).2.2 = N6 from rfl, hF6'.1 10 (by decide)]; exact h10, fun q hq => by rw [show (nI (fb_sm rrf l), nI (nws R A l (dend R A (X0 T) l)), N6).2.2 = N6 from rfl, hF6'.1 10 (by decide)]; exact h10r q (by omega), fun i hi => absurd hi (Nat.not_lt_zero _), fun q _ => by rw [show (nI (fb_sm rrf l), nI (nws R A l (dend R A (X0 T) l)), N6).2.2 = N6 from rfl, hF6'.1 9 (by decide), h45.1 9 (by decide)], hG5.tr (hF6'.wk cgw)⟩
        obtain ⟨v, w, N7⟩ := s
        obtain ⟨hv, hw, hX7, hA7, h710, h710o, h79, h79o, hF7⟩ := hI3
        have hv : v = nI (fb_sm rrf l + j) := hv
        subst hv
        have hw : w = nI (nws R A l (itr R A l (dend R A (X0 T) l) j)) := hw
        subst hw
        have hX7' : RX N7 (itr R A l (dend R A (X0 T) l) (j + 1)) := hX7
        have hA7' : LR N7 A := hA7
        have h710' : N7.1 10 l = nI j := h710
        have h710o' : ∀ q, q < l → N7.1 10 q = N4.1 10 q := h710o
        have h79' : ∀ i, i < j → N7.1 9 (fb_sm rrf l + i) = nI (nws R A l (itr R A l (dend R A (X0 T) l) i)) := h79
        have h79o' : ∀ q, q < fb_sm rrf l → N7.1 9 q = N4.1 9 q := h79o
        have hG7 : FR cdv N N7 := hF7
        rw [fX10_derives_L91_u]
        have hnle : nws R A l (itr R A l (dend R A (X0 T) l) j) ≤ 216 := fb_ct_le _ _
        rcases Nat.lt_or_ge j (rrf l) with hjl | hjg
        · have hpos := nr_pos (X := dend R A (X0 T) l) (R := R) (lay := A) (l := l) (i := j) (by rw [hnr2]; exact hjl)
          refine wp_neg (nI_nle hpos (by omega)) ?_
          have hat : fb_sm rrf l + j < 217 := by omega
          refine wp_pos ((inb_N (by omega)).mpr hat) (wp_nm (wp_nm ?_))
          rw [nI_clamp (show fb_sm rrf l + j < 2 ^ 31 by omega), li1, nI_add]
          refine wp_pos ((inb_N (by omega)).mpr hll) (wp_pos ((inb_N (by omega)).mpr hll) (wp_nm (wp_pos ((inb_N (by omega)).mpr hll) ?_)))
          rw [nI_clamp (show l < 2 ^ 31 by omega), kset_nc (show (10 : Nat) ≠ 9 by decide), h710', nI_add, kset_c, if_pos rfl, nI_add]
          generalize hN8 : kset (kset N7 9 (fb_sm rrf l + j) (nI (nws R A l (itr R A l (dend R A (X0 T) l) j)))) 10 l (nI (j + 1)) = N8
          have h78 : FR (fun q => q = 9 ∨ q = 10) N7 N8 := by rw [← hN8]; exact (FR.rf.set (Or.inl rfl)).set (Or.inr rfl)
          have hG8 : FR cdv N N8 := hG7.tr (h78.wk (fun a h => by rcases h with h | h; exact Or.inr (Or.inr (Or.inr (Or.inr (Or.inl h)))); exact Or.inr (Or.inr (Or.inr (Or.inr (Or.inr (Or.inl h)))))))
          have h89 : ∀ q, N8.1 9 q = if q = fb_sm rrf l + j then nI (nws R A l (itr R A l (dend R A (X0 T) l) j)) else N7.1 9 q := fun q => by rw [← hN8, kset_nc (by decide), kset_c]
          have h810 : ∀ q, N8.1 10 q = if q = l then nI (j + 1) else N7.1 10 q := fun q => by rw [← hN8, kset_c, kset_nc (by decide)]
          have hR8 := hR.fr hG8 (by decide)
          have hn8 : N8.1 1 216 = nI R.1 := by rw [hG8.1 1 (by decide)]; exact hn
          refine wp_bd2 (wp_mono (goes_wp (i := j + 1 + 1) (by omega) (by omega) hn8 hn10 hR8 hO (hA7'.fr h78 (by decide)) hA5 hll (hX7'.fr h78 (by decide) (by decide) (by decide))) ?_)
          rintro ⟨v23, N9⟩ ⟨hv23, hX9, hF9⟩
          have hv23 : v23 = nI (nws R A l (itr R A l (dend R A (X0 T) l) (j + 1))) := hv23
          subst hv23
          have hF9' : FR cgs N8 N9 := hF9
          have e9 : N9.1 9 = N8.1 9 := hF9'.1 9 (by decide)
          have e10 : N9.1 10 = N8.1 10 := hF9'.1 10 (by decide)
          refine hrec3 _ hjl ⟨rfl, rfl, hX9, (hA7'.fr h78 (by decide)).fr hF9' (by decide), ?_, fun q hq => ?_, fun i hi => ?_, fun q hq => ?_, hG8.tr (hF9'.wk cgw)⟩
          · show N9.1 10 l = _
            rw [e10, h810, if_pos rfl]
          · show N9.1 10 q = _
            rw [e10, h810, if_neg (by omega)]
            exact h710o' q hq
          · show N9.1 9 _ = _
            rw [e9, h89]
            by_cases e : i = j
            · rw [if_pos (by omega), e]
            · rw [if_neg (by omega)]; exact h79' i (by omega)
          · show N9.1 9 q = _
            rw [e9, h89, if_neg (by omega)]
            exact h79o' q hq
        · have : j = rrf l := by omega
          subst this
          have h0 := nr_end (X := dend R A (X0 T) l) (R := R) (lay := A) (l := l)
          rw [hnr2] at h0
          rw [h0]
          refine wp_pos (by decide) ?_
          refine hend N7 hG7 hA7' ?_ h710' h710o' h79' h79o'
          show RX N7 (itr R A l (dend R A (X0 T) l) (nr R A l (dend R A (X0 T) l)))
          rw [hnr2]
          exact hX7'.none h0
    · have : l = 6 := by omega
      subst this
      refine wp_pos (nI_le (Nat.le_refl _) (by decide)) ?_
      unfold fX10_derives_X61
      exact wp_some ⟨A, hI, hA5, hD4, hG4⟩
end RD2
