/-! ===== the class: all layers ===== -/
/-- rules as they can stand -/
def OKR (R : RS) : Prop := R.1 ≤ 10 ∧ (∀ r, r < R.1 → OK1 R r ∧ (∃ j, j < 3 ∧ 0 < R.2.2 r j) ∧ R.2.2 r 0 ≠ 0 ∧ (R.2.2 r 1 = 0 → R.2.2 r 2 = 0)) ∧ LYD R R.1
theorem OKR.ok {R : RS} (h : OKR R) : ∀ r, r < R.1 → OK1 R r := fun r hr => (h.2.1 r hr).1
section KST
variable {M : KS} {R : RS} {X : DX} {A : Nat → Nat} {l i b : Nat} {S1 : Nat → Bool} {T : Nat → Bool}
theorem XB.stp (h : XB R X b) (hO : ∀ r, r < R.1 → OK1 R r) (hi : i ≤ 300) : XB R (stp R A l i X) (b + 1) := fun k hk => by
  have h1 := h k hk
  show (if nw X.1 R A l k then i else X.2.1 k) ≤ 300 ∧ (0 < (if nw X.1 R A l k then i else X.2.1 k) → (X.1 k || nw X.1 R A l k) = true ∧ (if nw X.1 R A l k then nwr X R A l k else X.2.2.1 k) < R.1 ∧ (if nw X.1 R A l k then nwz X R A l k else X.2.2.2.1 k) < 6) ∧ (if nw X.1 R A l k then dpn R X.2.2.2.2.1 (nwr X R A l k) k (nwz X R A l k) else X.2.2.2.2.1 k) ≤ b + 1 ∧ ((X.1 k || nw X.1 R A l k) = false → (if nw X.1 R A l k then dpn R X.2.2.2.2.1 (nwr X R A l k) k (nwz X R A l k) else X.2.2.2.2.1 k) = 0 ∧ ∀ m, m < 216 → (if nw X.1 R A l k then cln R X.2.2.2.2.2 (nwr X R A l k) k (nwz X R A l k) m else X.2.2.2.2.2 k m) = (m == k))
  cases hn : nw X.1 R A l k
  · rw [Bool.or_false]
    simp only [Bool.false_eq_true, if_false]
    exact ⟨h1.1, h1.2.1, by have := h1.2.2.1; omega, h1.2.2.2⟩
  · rw [Bool.or_true]
    simp only [if_true]
    have h3 := nw_lay hn
    refine ⟨hi, fun _ => ⟨trivial, h3.2.1, h3.2.2.2⟩, ?_, fun z => absurd z (by decide)⟩
    have hjj : ∀ j, j < 3 → dpj R X.2.2.2.2.1 (nwr X R A l k) k (nwz X R A l k) j ≤ b + 1 := fun j hj => by
      unfold dpj
      cases hp : psc R (nwr X R A l k) j
      · rw [if_neg Bool.false_ne_true]; omega
      · rw [if_pos rfl]
        have := (h _ (ndc_lt (hO _ h3.2.1) hk h3.2.2.2 hj)).2.2.1
        unfold nwr nwz nwr
        omega
    have j0 := hjj 0 (by decide)
    have j1 := hjj 1 (by decide)
    have j2 := hjj 2 (by decide)
    unfold dpn
    omega
theorem XB.z : XB R (X0 T) 0 := fun k _ => ⟨Nat.zero_le _, fun z => absurd z (Nat.lt_irrefl _), Nat.le_refl _, fun _ => ⟨rfl, fun _ _ => rfl⟩⟩
theorem COV.first {S : Nat → Bool} (hp : ∀ r, r < R.1 → ∃ j, j < 3 ∧ 0 < R.2.2 r j) : COV S S R A l := fun _ _ _ r hr _ _ _ _ _ hm => mk_tch (hp r hr) hm
theorem COV.next {S : Nat → Bool} : COV (fun k => S k || nw S R A l k) (nw S R A l) R A l := by
  intro k hk hs r hr hh hA z hz hzi hm
  have hs' : (S k || nw S R A l k) = false := hs
  simp only [Bool.or_eq_false_iff] at hs'
  cases ht : tch (nw S R A l) R r (k / 6 % 6) (k % 6) z
  · exfalso
    have hc : ∀ c : Int32, tc1 (nw S R A l) c (k / 6 % 6) (k % 6) z = false → cond (fun k => S k || nw S R A l k) c (k / 6 % 6) (k % 6) z = true → cond S c (k / 6 % 6) (k % 6) z = true := by
      intro c h1 h2
      unfold cond at h2 ⊢
      unfold tc1 cond at h1
      by_cases h0 : c = 0
      · rw [decide_eq_true h0]; rfl
      · rw [decide_eq_false h0, Bool.false_or] at h2 ⊢
        rw [decide_eq_false h0, Bool.false_or] at h1
        by_cases q : 0 < c
        · rw [decide_eq_true q] at h1 h2 ⊢
          simp only [Bool.true_and, beq_eq_false_iff_ne, ne_eq, beq_iff_eq, Bool.or_eq_true] at h1 h2 ⊢
          rcases h2 with h2 | h2
          · exact h2
          · exact absurd h2 h1
        · rw [decide_eq_false q] at h2 ⊢
          simp only [beq_iff_eq, Bool.or_eq_false_iff] at h2 ⊢
          exact h2.1
    unfold tch at ht
    simp only [Bool.or_eq_false_iff] at ht
    unfold mk at hm
    simp only [Bool.and_eq_true] at hm
    have hm2 : mk S R r (k / 6 % 6) (k % 6) z = true := by
      unfold mk
      rw [hc _ ht.1.1 hm.1.1, hc _ ht.1.2 hm.1.2, hc _ ht.2 hm.2]
      rfl
    have hzl : zl S R r (k / 6 % 6) (k % 6) < 6 := by
      rcases Nat.lt_or_ge (zl S R r (k / 6 % 6) (k % 6)) 6 with q | q
      · exact q
      · have := fa_first_no (fun z => zin R r z && mk S R r (k / 6 % 6) (k % 6) z) 6 z (by unfold zl at q; omega)
        simp only [hzi, hm2] at this
        exact absurd this (by decide)
    have hrq : rq S R A l k r = true := by
      unfold rq
      rw [hh, hA, decide_eq_true hzl, beq_self_eq_true, beq_self_eq_true]; rfl
    have hrl : rl S R A l k ≤ r := by
      rcases Nat.lt_or_ge r (rl S R A l k) with q | q
      · have := fa_first_no (rq S R A l k) R.1 r q
        rw [hrq] at this
        exact absurd this (by decide)
      · exact q
    have : nw S R A l k = true := by unfold nw; rw [hs'.1, decide_eq_true (show rl S R A l k < R.1 by omega)]; rfl
    rw [hs'.2] at this
    exact absurd this (by decide)
  · rfl
abbrev cST : Nat → Prop := fun a => (34 ≤ a ∧ a ≤ 41) ∨ a = 101 ∨ (106 ≤ a ∧ a ≤ 110)
theorem cF_ST {o : Nat} (h : o = 11 ∨ o = 12 ∨ o = 13) : ∀ a, cF o a → cST a := fun a ha => by
  rcases h with rfl | rfl | rfl <;> rcases ha with rfl | rfl <;> decide
theorem cAR_ST : ∀ a, cAR a → cST a := fun a ha => by
  rcases ha with h | h | h | h | h | h <;> rw [h] <;> decide
theorem lsh_bits : ∀ (j : Fin 36) (b : Fin 64), (jlshl 1 (nI j.val)).toBitVec.getLsbD b.val = (b.val == j.val) := by decide +kernel
theorem start_wp (hT : FA M 0 T) : wp (fX1_start M 0) (fun M' => FA M' 11 T ∧ KX M' (X0 T) ∧ FQ cST M M') := by
  unfold fX1_start
  refine wp_bind (wp_mono (copy_wp hT (show (11 : Nat) ≠ 0 by decide)) ?_)
  intro M1 ⟨h1, hF1⟩
  have hG1 : FQ cST M M1 := hF1.q.wk (cF_ST (Or.inl rfl))
  refine wp_for 1296 (fun (i : Nat) (s : Int32 × KS) => s.1 = nI i ∧ s.2.1 = M1.1 ∧ ∀ x, x < i → s.2.2 x = 0) (fun i s rec hi hI hrec => ?_) (by decide) (Nat.zero_le _) ⟨rfl, rfl, fun x h => absurd h (Nat.not_lt_zero _)⟩
  obtain ⟨v, M2⟩ := s
  obtain ⟨hv, g1, g2⟩ := hI
  have hv : v = nI i := hv
  subst hv
  have g1' : M2.1 = M1.1 := g1
  have g2' : ∀ x, x < i → M2.2 x = 0 := g2
  rw [fX1_start_L10_u]
  rcases Nat.lt_or_ge i 1296 with hlt | hge
  · refine wp_neg (nI_ge hlt (by decide)) (wp_pos ((inb_N (by omega)).mpr hlt) (wp_nm (wp_nm ?_)))
    rw [li1, nI_add, nI_clamp (show i < 2 ^ 31 by omega)]
    refine hrec _ hlt ⟨rfl, g1', fun x hx => ?_⟩
    show (ksetL M2 i 0).2 x = 0
    rw [ksetL_ap]
    by_cases e : x = i
    · rw [if_pos e]
    · rw [if_neg e]; exact g2' x (by omega)
  · have : i = 1296 := by omega
    subst this
    refine wp_pos (nI_le (Nat.le_refl _) (by decide)) ?_
    unfold fX1_start_X10
    have h2 : FA M2 11 T := h1.keep (by rw [g1']) (by rw [g1'])
    have hG2 : FQ cST M M2 := fun a ha => by rw [g1']; exact hG1 a ha
    refine wp_for 216 (fun (k : Nat) (s : Int32 × KS) => s.1 = nI k ∧ (∀ q, q < k → s.2.1 107 q = nI 0 ∧ s.2.1 108 q = -nI 1 ∧ s.2.1 109 q = -nI 1 ∧ s.2.1 110 q = nI 0 ∧ RT s.2 q (fun m => m == q)) ∧ (∀ x, 6 * k ≤ x → x < 1296 → s.2.2 x = 0) ∧ FQ (fun q => q = 107 ∨ q = 108 ∨ q = 109 ∨ q = 110) M2 s.2) (fun k s rec2 hk hI2 hrec2 => ?_) (by decide) (Nat.zero_le _) ⟨rfl, fun q h => absurd h (Nat.not_lt_zero _), fun x _ hx => g2' x hx, FQ.rf⟩
    obtain ⟨v, M3⟩ := s
    obtain ⟨hv, k1, k2, hF3⟩ := hI2
    have hv : v = nI k := hv
    subst hv
    have k1' : ∀ q, q < k → M3.1 107 q = nI 0 ∧ M3.1 108 q = -nI 1 ∧ M3.1 109 q = -nI 1 ∧ M3.1 110 q = nI 0 ∧ RT M3 q (fun m => m == q) := k1
    have k2' : ∀ x, 6 * k ≤ x → x < 1296 → M3.2 x = 0 := k2
    have hF3' : FQ (fun q => q = 107 ∨ q = 108 ∨ q = 109 ∨ q = 110) M2 M3 := hF3
    rw [fX1_start_L34_u]
    rcases Nat.lt_or_ge k 216 with hkl | hkg
    · refine wp_neg (nI_ge hkl (by decide)) ?_
      refine wp_pos ((inb_N (by omega)).mpr hkl) (wp_nm (wp_pos ((inb_N (by omega)).mpr hkl) (wp_nm (wp_pos ((inb_N (by omega)).mpr hkl) (wp_nm (wp_pos ((inb_N (by omega)).mpr hkl) (wp_nm ?_)))))))
      rw [li6, li36, pk_mul, pk_div (by omega) (by omega) (by omega), nI_add, jremN (by omega) (by omega) (by omega)]
      refine wp_pos ((inb_N (by omega)).mpr (by omega)) (wp_nm (wp_nm ?_))
      rw [li1, nI_add, nI_clamp (show k < 2 ^ 31 by omega), nI_clamp (show 6 * k + k / 36 < 2 ^ 31 by omega)]
      generalize hM4 : kset (kset (kset (kset M3 107 k 0) 108 k (-nI 1)) 109 k (-nI 1)) 110 k 0 = M4
      have e107 : ∀ q, M4.1 107 q = if q = k then nI 0 else M3.1 107 q := fun q => by rw [← hM4, kset_nc (by decide), kset_nc (by decide), kset_nc (by decide), kset_c]; rfl
      have e108 : ∀ q, M4.1 108 q = if q = k then -nI 1 else M3.1 108 q := fun q => by rw [← hM4, kset_nc (by decide), kset_nc (by decide), kset_c, kset_nc (by decide)]
      have e109 : ∀ q, M4.1 109 q = if q = k then -nI 1 else M3.1 109 q := fun q => by rw [← hM4, kset_nc (by decide), kset_c, kset_nc (by decide), kset_nc (by decide)]
      have e110 : ∀ q, M4.1 110 q = if q = k then nI 0 else M3.1 110 q := fun q => by rw [← hM4, kset_c, kset_nc (by decide), kset_nc (by decide), kset_nc (by decide)]; rfl
      have eL : M4.2 = M3.2 := by rw [← hM4]; rfl
      refine hrec2 _ hkl ⟨rfl, fun q hq => ?_, fun x hx hx2 => ?_, ?_⟩
      · show M4.1 107 q = _ ∧ M4.1 108 q = _ ∧ M4.1 109 q = _ ∧ M4.1 110 q = _ ∧ RT (ksetL M4 (6 * k + k / 36) _) q (fun m => m == q)
        rw [e107, e108, e109, e110]
        by_cases e : q = k
        · subst e
          rw [if_pos rfl, if_pos rfl, if_pos rfl, if_pos rfl]
          refine ⟨rfl, rfl, rfl, rfl, fun t ht bb hbb => ?_⟩
          rw [ksetL_ap]
          by_cases et : t = q / 36
          · rw [if_pos (by omega), show (1 : Int64) = 1 from rfl]
            refine (lsh_bits ⟨q % 36, by omega⟩ ⟨bb, hbb⟩).trans ?_
            simp only
            by_cases hb36 : bb < 36
            · rw [decide_eq_true hb36, Bool.true_and, Bool.eq_iff_iff]
              simp only [beq_iff_eq]
              omega
            · rw [decide_eq_false hb36, Bool.false_and, beq_eq_false_iff_ne]
              omega
          · rw [if_neg (by omega), eL, k2' _ (by omega) (by omega)]
            by_cases hb36 : bb < 36
            · show ((0 : Int64).toBitVec.getLsbD bb) = (decide (bb < 36) && (36 * t + bb == q))
              rw [show ((0 : Int64).toBitVec.getLsbD bb) = false from BitVec.getLsbD_zero, show (36 * t + bb == q) = false from beq_eq_false_iff_ne.mpr (by omega), Bool.and_false]
            · rw [show ((0 : Int64).toBitVec.getLsbD bb) = false from BitVec.getLsbD_zero, decide_eq_false hb36, Bool.false_and]
        · rw [if_neg e, if_neg e, if_neg e, if_neg e]
          have hq' := k1' q (by omega)
          refine ⟨hq'.1, hq'.2.1, hq'.2.2.1, hq'.2.2.2.1, fun t ht bb hbb => ?_⟩
          rw [ksetL_ap, if_neg (by omega), eL]
          exact hq'.2.2.2.2 t ht bb hbb
      · show (ksetL M4 (6 * k + k / 36) _).2 x = 0
        rw [ksetL_ap, if_neg (by omega), eL]
        exact k2' x (by omega) hx2
      · show FQ _ M2 (ksetL M4 _ _)
        refine FQ.setL ?_
        rw [← hM4]
        exact (((hF3'.set (Or.inl rfl)).set (Or.inr (Or.inl rfl))).set (Or.inr (Or.inr (Or.inl rfl)))).set (Or.inr (Or.inr (Or.inr rfl)))
    · have : k = 216 := by omega
      subst this
      refine wp_pos (nI_le (Nat.le_refl _) (by decide)) ?_
      unfold fX1_start_X34
      refine wp_some ⟨h2.fq hF3' (by decide) (by decide), fun q hq => ?_, hG2.tr (hF3'.wk (fun a h => by rcases h with h | h | h | h <;> rw [h] <;> decide))⟩
      have hq' := k1' q hq
      exact ⟨hq'.1, hq'.2.1, hq'.2.2.1, hq'.2.2.2.1, hq'.2.2.2.2⟩
/-- a derivation of the class -/
def KD (M : KS) (T : Nat → Bool) (R : RS) (A : Nat → Nat) : Prop := IsLay R R.1 A ∧ (∀ q, q < 6 → A q ≤ 5) ∧ LA6 M 0 A ∧ FA M 11 (DV T R A).1 ∧ KX M (DV T R A)
theorem dend_last {j : Nat} (h : ∀ q, q < 6 → A q < j) : ∀ i, dend R A X (j + i) = dend R A X j
  | 0 => rfl
  | i + 1 => by
    show itr R A (j + i) (dend R A X (j + i)) (nr R A (j + i) (dend R A X (j + i))) = _
    rw [itr_no (fun q hq => by have := h q hq; omega)]
    exact dend_last h i
theorem XB.mono {b' : Nat} (h : XB R X b) (hb : b ≤ b') : XB R X b' := fun k hk => ⟨(h k hk).1, (h k hk).2.1, Nat.le_trans (h k hk).2.2.1 hb, (h k hk).2.2.2⟩
theorem settled_wp (hT : FA M 0 T) (hR : RA M 0 R) (hO : OKR R) (hset : M.1 106 9 = nI 0 ∨ (M.1 106 9 = nI 1 ∧ ∃ A, KD M T R A)) : wp (fX1_settled M 0) (fun M' => (∃ A, KD M' T R A) ∧ M'.1 106 9 = nI 1 ∧ FQ cST M M') := by
  have hn10 := hO.1
  have hOk := hO.ok
  have hp : ∀ r, r < R.1 → ∃ j, j < 3 ∧ 0 < R.2.2 r j := fun r hr => (hO.2.1 r hr).2.1
  unfold fX1_settled
  rcases hset with h0 | ⟨h1, hD⟩
  · refine wp_pos (by rw [h0]; rfl) ?_
    refine wp_bind (wp_mono (start_wp hT) ?_)
    intro M1 ⟨hF11, hKX1, hG1⟩
    have hR1 : RA M1 0 R := hR.fq hG1 (by decide) (by decide) (by decide) (by decide)
    rw [hR1.1]
    refine wp_bd2 (wp_mono (arr_wp (y := 0) hR1.2 (by omega) hOk (by decide)) ?_)
    rintro ⟨v3, M2⟩ ⟨hres, hF2⟩
    have hF2' : FR (fun q => q = iYl 0) M1 M2 := hF2
    rcases hres with ⟨A, -, hA, hI, hA5⟩ | ⟨-, hno⟩
    · have hA2 : LA6 M2 0 A := hA
      have hG2 : FQ cST M M2 := hG1.tr (hF2'.q.wk (fun a h => by rw [h]; decide))
      have hmx : mx6 A 6 ≤ 5 := mx6_le.mpr hA5
      show wp ((fX3_count M2 0).bind fun v4 => lp (fX1_settled_L46 0 v4) fX1_settled_X46 1000000 (0, M2)) _
      rw [cnt_eq hA2 (fun q hq => by have := hA5 q hq; omega)]
      refine wp_bind (wp_some ?_)
      generalize hrr : rr R A (X0 T) = rrf
      have hrl : ∀ l, rr R A (X0 T) l = rrf l := fun l => by rw [← hrr]
      refine wp_for (mx6 A 6 + 1) (fun (l : Nat) (s : Int32 × KS) => s.1 = nI l ∧ FA s.2 11 (dend R A (X0 T) l).1 ∧ KX s.2 (dend R A (X0 T) l) ∧ XB R (dend R A (X0 T) l) (fb_sm rrf l) ∧ LA6 s.2 0 A ∧ FQ cST M s.2) (fun l s rec hl hI2 hrec => ?_) (by omega) (Nat.zero_le _) ⟨rfl, hF11.fr hF2' (by decide) (by decide), fun k hk => by
        have h := hKX1 k hk
        show M2.1 107 k = _ ∧ M2.1 108 k = _ ∧ M2.1 109 k = _ ∧ M2.1 110 k = _ ∧ RT M2 k _
        rw [hF2'.1 107 (by decide), hF2'.1 108 (by decide), hF2'.1 109 (by decide), hF2'.1 110 (by decide)]
        exact ⟨h.1, h.2.1, h.2.2.1, h.2.2.2.1, fun t ht bb hbb => by rw [hF2'.2]; exact h.2.2.2.2 t ht bb hbb⟩, XB.z, hA2, hG2⟩
      obtain ⟨v, M3⟩ := s
      obtain ⟨hv, g1, g2, g3, g4, g5⟩ := hI2
      have hv : v = nI l := hv
      subst hv
      have g1' : FA M3 11 (dend R A (X0 T) l).1 := g1
      have g2' : KX M3 (dend R A (X0 T) l) := g2
      have g4' : LA6 M3 0 A := g4
      have g5' : FQ cST M M3 := g5
      rw [fX1_settled_L46_u]
      rcases Nat.lt_or_ge l (mx6 A 6 + 1) with hll | hlg
      · refine wp_neg (nI_ge hll (by omega)) ?_
        have hl6 : l < 6 := by omega
        have hct := rr_ct (R := R) (lay := A) (X := X0 T) l
        have hnr := nr_le (X := dend R A (X0 T) l) (R := R) (lay := A) (l := l)
        have hnr2 : nr R A l (dend R A (X0 T) l) = rrf l := hrl l
        rw [hrr] at hct
        rw [hnr2] at hnr
        refine wp_bind (wp_mono (copy_wp g1' (show (12 : Nat) ≠ 11 by decide)) ?_)
        intro M4 ⟨h12, hF4⟩
        have hG4 : FQ cST M M4 := g5'.tr (hF4.q.wk (cF_ST (Or.inr (Or.inl rfl))))
        have hend : ∀ M5, FQ cST M M5 → LA6 M5 0 A → FA M5 11 (itr R A l (dend R A (X0 T) l) (rrf l)).1 → KX M5 (itr R A l (dend R A (X0 T) l) (rrf l)) → XB R (itr R A l (dend R A (X0 T) l) (rrf l)) (fb_sm rrf l + rrf l) → wp (fX1_settled_X65 (nI l) rec M5) (fun M' => (∃ A, KD M' T R A) ∧ M'.1 106 9 = nI 1 ∧ FQ cST M M') := by
          intro M5 q1 q2 q3 q4 q5
          unfold fX1_settled_X65
          refine wp_nm ?_
          rw [li1, nI_add]
          have e : dend R A (X0 T) (l + 1) = itr R A l (dend R A (X0 T) l) (rrf l) := by
            show itr R A l (dend R A (X0 T) l) (nr R A l (dend R A (X0 T) l)) = _
            rw [hnr2]
          exact hrec _ hll ⟨rfl, by rw [e]; exact q3, by rw [e]; exact q4, by rw [e]; exact q5, q2, q1⟩
        refine wp_for (rrf l) (fun (j : Nat) (s : Int32 × KS) => s.1 = nI (j + 1) ∧ FA s.2 11 (itr R A l (dend R A (X0 T) l) j).1 ∧ (∃ S1, FA s.2 12 S1 ∧ COV (itr R A l (dend R A (X0 T) l) j).1 S1 R A l) ∧ KX s.2 (itr R A l (dend R A (X0 T) l) j) ∧ XB R (itr R A l (dend R A (X0 T) l) j) (fb_sm rrf l + j) ∧ LA6 s.2 0 A ∧ FQ cST M s.2) (fun j s rec2 hj hI3 hrec2 => ?_) (by omega) (Nat.zero_le _) ⟨rfl, g1'.fr hF4 (by decide) (by decide), ⟨_, h12, COV.first hp⟩, fun k hk => by
          have h := g2' k hk
          show M4.1 107 k = _ ∧ M4.1 108 k = _ ∧ M4.1 109 k = _ ∧ M4.1 110 k = _ ∧ RT M4 k _
          rw [hF4.1 107 (by decide), hF4.1 108 (by decide), hF4.1 109 (by decide), hF4.1 110 (by decide)]
          exact ⟨h.1, h.2.1, h.2.2.1, h.2.2.2.1, fun t ht bb hbb => by rw [hF4.2]; exact h.2.2.2.2 t ht bb hbb⟩, g3, g4'.fq hF4.q (by decide), hG4⟩
        obtain ⟨v, M5⟩ := s
        obtain ⟨hv, k1, ⟨S1, k2, k3⟩, k4, k5, k6, k7⟩ := hI3
        have hv : v = nI (j + 1) := hv
        subst hv
        have k1' : FA M5 11 (itr R A l (dend R A (X0 T) l) j).1 := k1
        have k2' : FA M5 12 S1 := k2
        have k4' : KX M5 (itr R A l (dend R A (X0 T) l) j) := k4
        have k6' : LA6 M5 0 A := k6
        have k7' : FQ cST M M5 := k7
        rw [fX1_settled_L65_u]
        have hj216 : j ≤ 216 := by omega
        by_cases hlim : 216 < j + 1
        · have hjr : j = rrf l := by omega
          refine wp_pos (nI_lt hlim (by omega)) ?_
          subst hjr
          exact hend M5 k7' k6' k1' k4' k5
        · refine wp_neg (nI_nlt (a := 216) (b := j + 1) (by omega) (by decide)) ?_
          refine wp_bind (wp_mono clear_wp ?_)
          intro M6 ⟨h13, hF6⟩
          have hG6 : FQ cST M M6 := k7'.tr (hF6.q.wk (cF_ST (Or.inr (Or.inr rfl))))
          have hR6 : RA M6 0 R := hR.fq hG6 (by decide) (by decide) (by decide) (by decide)
          have hK6 : KX M6 (itr R A l (dend R A (X0 T) l) j) := fun k hk => by
            have h := k4' k hk
            rw [hF6.1 107 (by decide), hF6.1 108 (by decide), hF6.1 109 (by decide), hF6.1 110 (by decide)]
            exact ⟨h.1, h.2.1, h.2.2.1, h.2.2.2.1, fun t ht bb hbb => by rw [hF6.2]; exact h.2.2.2.2 t ht bb hbb⟩
          refine wp_bd2 (wp_mono (addr_wp (i := j + 1) (b := fb_sm rrf l + j) hR6 hn10 hOk (k1'.fr hF6 (by decide) (by decide)) (k2'.fr hF6 (by decide) (by decide)) h13 (k6'.fq hF6.q (by decide)) hA5 hK6 k5 (by omega) (by omega) (by omega) k3 hl6) ?_)
          rintro ⟨v16, M7⟩ ⟨b', hv16, hM7⟩
          have hv16 : v16 = bI b' := hv16
          subst hv16
          have hM7' : MID M6 M7 R (itr R A l (dend R A (X0 T) l) j) A l (j + 1) b' (nw (itr R A l (dend R A (X0 T) l) j).1 R A l) := hM7
          have hG7 : FQ cST M M7 := hG6.tr (hM7'.2.2.2.wk cAR_ST)
          have h7_11 : FA M7 11 (itr R A l (dend R A (X0 T) l) j).1 := (k1'.fr hF6 (by decide) (by decide)).fq hM7'.2.2.2 (by decide) (by decide)
          have h7A : LA6 M7 0 A := (k6'.fq hF6.q (by decide)).fq hM7'.2.2.2 (by decide)
          cases b'
          · refine wp_pos rfl ?_
            have hz : nws R A l (itr R A l (dend R A (X0 T) l) j) = 0 := fb_ct_zero.mpr (fun k hk => by
              cases hn : nw (itr R A l (dend R A (X0 T) l) j).1 R A l k
              · rfl
              · exact absurd (hM7'.1.mpr ⟨k, hk, hn⟩) (by decide))
            have hjr : j = rrf l := by
              rcases Nat.lt_or_ge j (rrf l) with q | q
              · have := nr_pos (X := dend R A (X0 T) l) (R := R) (lay := A) (l := l) (i := j) (by rw [hnr2]; exact q)
                omega
              · omega
            have hK7 : KX M7 (itr R A l (dend R A (X0 T) l) j) := hM7'.2.2.1.cong (fun k hk => by
              unfold stpd
              simp only [nws_0 hz hk, Bool.false_eq_true, if_false]
              exact ⟨trivial, trivial, trivial, trivial, fun _ _ => trivial⟩)
            subst hjr
            exact hend M7 hG7 h7A h7_11 hK7 k5
          · refine wp_neg (show ¬ bI true = 0 by decide) ?_
            have hnz : nws R A l (itr R A l (dend R A (X0 T) l) j) ≠ 0 := fun z => by
              obtain ⟨k, hk, hn⟩ := hM7'.1.mp rfl
              rw [nws_0 z hk] at hn
              exact absurd hn (by decide)
            have hjl : j < rrf l := by
              rcases Nat.lt_or_ge j (rrf l) with q | q
              · exact q
              · have hjr : j = rrf l := by omega
                have := nr_end (X := dend R A (X0 T) l) (R := R) (lay := A) (l := l)
                rw [hnr2, ← hjr] at this
                exact absurd this hnz
            refine wp_bind (wp_mono (join_wp h7_11 hM7'.2.1 (show (11 : Nat) ≠ 13 by decide)) ?_)
            intro M8 ⟨h8_11, hF8⟩
            have h8_13 := hM7'.2.1.fr hF8 (by decide) (by decide)
            refine wp_bind (wp_mono (copy_wp h8_13 (show (12 : Nat) ≠ 13 by decide)) ?_)
            intro M9 ⟨h9_12, hF9⟩
            have hG9 : FQ cST M M9 := (hG7.tr (hF8.q.wk (cF_ST (Or.inl rfl)))).tr (hF9.q.wk (cF_ST (Or.inr (Or.inl rfl))))
            refine wp_nm ?_
            rw [li1, nI_add]
            refine hrec2 _ hjl ⟨rfl, h8_11.fr hF9 (by decide) (by decide), ⟨_, h9_12, COV.next⟩, fun k hk => ?_, ?_, (h7A.fq hF8.q (by decide)).fq hF9.q (by decide), hG9⟩
            · have h := hM7'.2.2.1 k hk
              show M9.1 107 k = _ ∧ M9.1 108 k = _ ∧ M9.1 109 k = _ ∧ M9.1 110 k = _ ∧ RT M9 k _
              rw [hF9.1 107 (by decide), hF9.1 108 (by decide), hF9.1 109 (by decide), hF9.1 110 (by decide), hF8.1 107 (by decide), hF8.1 108 (by decide), hF8.1 109 (by decide), hF8.1 110 (by decide)]
              exact ⟨h.1, h.2.1, h.2.2.1, h.2.2.2.1, fun t ht bb hbb => by rw [hF9.2, hF8.2]; exact h.2.2.2.2 t ht bb hbb⟩
            · show XB R (stp R A l (j + 1) (itr R A l (dend R A (X0 T) l) j)) (fb_sm rrf l + (j + 1))
              exact k5.stp hOk (by omega)
      · have : l = mx6 A 6 + 1 := by omega
        subst this
        refine wp_pos (nI_le (Nat.le_refl _) (by omega)) ?_
        unfold fX1_settled_X46
        have e : DV T R A = dend R A (X0 T) (mx6 A 6 + 1) := by
          have := dend_last (R := R) (A := A) (X := X0 T) (j := mx6 A 6 + 1) (fun q hq => by have := mx6_le.mp (Nat.le_refl (mx6 A 6)) q hq; omega) (5 - mx6 A 6)
          rw [show mx6 A 6 + 1 + (5 - mx6 A 6) = 6 by omega] at this
          exact this
        refine wp_nm (wp_some ⟨⟨A, hI, hA5, g4'.fq (FQ.set (P := fun q => q = 106) FQ.rf rfl) (by decide), by rw [e]; exact g1'.fq (FQ.set (P := fun q => q = 106) FQ.rf rfl) (by decide) (by decide), ?_⟩, by rw [kset_c, if_pos rfl]; rfl, g5'.set (by decide)⟩)
        rw [e]
        intro k hk
        have h := g2' k hk
        rw [kset_nc (by decide), kset_nc (by decide), kset_nc (by decide), kset_nc (by decide)]
        exact ⟨h.1, h.2.1, h.2.2.1, h.2.2.2.1, h.2.2.2.2⟩
    · exact absurd hO.2.2 hno
  · refine wp_neg (by rw [h1]; decide) (wp_some ⟨hD, h1, FQ.rf⟩)
end KST
