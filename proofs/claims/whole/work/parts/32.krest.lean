/-! ===== the class: depth and roots of a new fact ===== -/
theorem ksetL_ap (M : KS) (j : Nat) (v : Int64) (b : Nat) : (ksetL M j v).2 b = if b = j then v else M.2 b := rfl
theorem ksetL_1 (M : KS) (j : Nat) (v : Int64) : (ksetL M j v).1 = M.1 := rfl
def dpi (R : RS) (dp : Nat → Nat) (r k z : Nat) : Nat → Nat
  | 0 => 0
  | i + 1 => max (dpi R dp r k z i) (dpj R dp r k z i)
def cli (R : RS) (cl : Nat → Nat → Bool) (r k z : Nat) : Nat → Nat → Bool
  | 0, m => m == k
  | i + 1, m => cli R cl r k z i m || clj R cl r k z i m
section KRS
variable {M : KS} {o : Nat} {R : RS}
theorem dpi_3 {dp : Nat → Nat} {r k z : Nat} : dpi R dp r k z 3 = dpn R dp r k z := by
  show max (max (max 0 _) _) _ = max (max _ _) _
  rw [Nat.zero_max]
theorem cli_3 {cl : Nat → Nat → Bool} {r k z m : Nat} : cli R cl r k z 3 m = cln R cl r k z m := rfl
theorem rest_wp {k r z b : Nat} {dp : Nat → Nat} {cl : Nat → Nat → Bool} (hR : RB M o R.1 R) (hn10 : R.1 ≤ 10) (hO : ∀ r, r < R.1 → OK1 R r) (hk : k < 216) (hr : r < R.1) (hz : z < 6) (hoc : iRh o ≠ 110 ∧ iRc o ≠ 110 ∧ iRa o ≠ 110) (h1 : M.1 108 k = nI r) (h2 : M.1 109 k = nI z) (hd0 : M.1 110 k = nI 0) (hd : ∀ q, q < 216 → q ≠ k → M.1 110 q = nI (dp q) ∧ RT M q (cl q)) (hc0 : RT M k (fun m => m == k)) (hne : ∀ j, j < 3 → psc R r j = true → ndc R r k z j ≠ k) (hb : ∀ q, q < 216 → dp q ≤ b) (hb3 : b ≤ 300) :
    wp (fX1_rest M o (nI k)) (fun M' => M'.1 110 k = nI (dpn R dp r k z) ∧ RT M' k (cln R cl r k z) ∧ (∀ q, q ≠ k → M'.1 110 q = M.1 110 q) ∧ (∀ x, (x < 6 * k ∨ 6 * k + 6 ≤ x) → M'.2 x = M.2 x) ∧ FQ (fun q => q = 110) M M') := by
  unfold fX1_rest
  have hdb : ∀ i, dpi R dp r k z i ≤ b + 1 ∨ 3 < i := by
    have hj : ∀ j, j < 3 → dpj R dp r k z j ≤ b + 1 := fun j hj => by
      unfold dpj
      cases hp : psc R r j
      · rw [if_neg (by decide)]; omega
      · rw [if_pos rfl]
        have := hb _ (ndc_lt (hO r hr) hk hz hj)
        omega
    intro i
    induction i with
    | zero => left; show (0 : Nat) ≤ _; omega
    | succ i ih =>
      rcases Nat.lt_or_ge i 3 with q | q
      · left
        show max (dpi R dp r k z i) (dpj R dp r k z i) ≤ _
        have := hj i q
        omega
      · right; omega
  refine wp_for 3 (fun (i : Nat) (s : Int32 × KS) => s.1 = nI i ∧ s.2.1 110 k = nI (dpi R dp r k z i) ∧ RT s.2 k (cli R cl r k z i) ∧ (∀ q, q ≠ k → s.2.1 110 q = M.1 110 q) ∧ (∀ x, (x < 6 * k ∨ 6 * k + 6 ≤ x) → s.2.2 x = M.2 x) ∧ FQ (fun q => q = 110) M s.2) (fun i s rec hi hI hrec => ?_) (by decide) (Nat.zero_le _) ⟨rfl, hd0, hc0, fun _ _ => rfl, fun _ _ => rfl, FQ.rf⟩
  obtain ⟨v, M2⟩ := s
  obtain ⟨hv, g1, g2, g3, g4, hF⟩ := hI
  have hv : v = nI i := hv
  subst hv
  have g1' : M2.1 110 k = nI (dpi R dp r k z i) := g1
  have g2' : RT M2 k (cli R cl r k z i) := g2
  have g3' : ∀ q, q ≠ k → M2.1 110 q = M.1 110 q := g3
  have g4' : ∀ x, (x < 6 * k ∨ 6 * k + 6 ≤ x) → M2.2 x = M.2 x := g4
  have hF2 : FQ (fun q => q = 110) M M2 := hF
  rw [fX1_rest_L2_u]
  rcases Nat.lt_or_ge i 3 with hlt | hge
  · refine wp_neg (nI_ge hlt (by decide)) ?_
    rw [need_raw (hR.fq hF2 hoc.1 hoc.2.1 hoc.2.2) hn10 hO hk hr hz hlt (by rw [hF2 108 (by decide)]; exact h1) (by rw [hF2 109 (by decide)]; exact h2)]
    refine wp_bind (wp_some ?_)
    cases hp : psc R r i
    · rw [if_neg Bool.false_ne_true]
      refine wp_neg (nI_pos (by omega)) (wp_neg (nI_ge hk (by decide)) (wp_pos (by decide) (wp_nm ?_)))
      rw [li1, nI_add]
      refine hrec _ hlt ⟨rfl, ?_, ?_, g3', g4', hF2⟩
      · show M2.1 110 k = nI (max (dpi R dp r k z i) (dpj R dp r k z i))
        rw [g1']
        unfold dpj
        rw [hp, if_neg (by decide), Nat.max_zero]
      · refine g2'.cong (fun m _ => ?_)
        show _ = (cli R cl r k z i m || clj R cl r k z i m)
        unfold clj
        rw [hp, Bool.false_and, Bool.or_false]
    · have hnl := ndc_lt (hO r hr) hk hz hlt
      have hnk := hne i hlt hp
      generalize hnd : ndc R r k z i = nd at hnl hnk
      rw [if_pos rfl]
      refine wp_neg (nI_pos (by omega)) (wp_neg (nI_ge hk (by decide)) (wp_neg (nI_pos (by omega)) (wp_pos ((nI_ltI (by omega) (by decide)).mpr hnl) ?_)))
      refine wp_pos ((inb_N (by omega)).mpr hk) (wp_pos ((inb_N (by omega)).mpr hnl) (wp_pos ((inb_N (by omega)).mpr hk) (wp_nm ?_)))
      have hdn := hb nd hnl
      have hdi : dpi R dp r k z i ≤ b + 1 := (hdb i).resolve_right (by omega)
      have hdnd : M2.1 110 nd = nI (dp nd) := by rw [g3' nd hnk]; exact (hd nd hnl hnk).1
      rw [nI_clamp (show k < 2 ^ 31 by omega), nI_clamp (show nd < 2 ^ 31 by omega), g1', hdnd, li1, nI_add, jmaxN (by omega) (by omega)]
      generalize hM3 : kset M2 110 k (nI (max (dpi R dp r k z i) (dp nd + 1))) = M3
      have hF3 : FQ (fun q => q = 110) M M3 := by rw [← hM3]; exact hF2.set rfl
      have e110 : M3.1 110 k = nI (max (dpi R dp r k z i) (dp nd + 1)) := by rw [← hM3, kset_c, if_pos rfl]
      have e110r : ∀ q, q ≠ k → M3.1 110 q = M.1 110 q := fun q hq => by rw [← hM3, kset_c, if_neg hq]; exact g3' q hq
      have e2 : M3.2 = M2.2 := by rw [← hM3]; rfl
      refine wp_for 6 (fun (t : Nat) (s : Int32 × KS) => s.1 = nI t ∧ s.2.1 = M3.1 ∧ (∀ t', t' < 6 → ∀ b, b < 64 → (s.2.2 (6 * k + t')).toBitVec.getLsbD b = (decide (b < 36) && (cli R cl r k z i (36 * t' + b) || (decide (t' < t) && cl nd (36 * t' + b))))) ∧ (∀ x, (x < 6 * k ∨ 6 * k + 6 ≤ x) → s.2.2 x = M.2 x)) (fun t s rec2 ht hI2 hrec2 => ?_) (by decide) (Nat.zero_le _) ⟨rfl, rfl, fun t' ht' b hb => ?_, fun x hx => by show M3.2 x = _; rw [e2]; exact g4' x hx⟩
      · obtain ⟨v, M4⟩ := s
        obtain ⟨hv, k1, k2, k3⟩ := hI2
        have hv : v = nI t := hv
        subst hv
        have k1' : M4.1 = M3.1 := k1
        have k2' : ∀ t', t' < 6 → ∀ b, b < 64 → (M4.2 (6 * k + t')).toBitVec.getLsbD b = (decide (b < 36) && (cli R cl r k z i (36 * t' + b) || (decide (t' < t) && cl nd (36 * t' + b)))) := k2
        have k3' : ∀ x, (x < 6 * k ∨ 6 * k + 6 ≤ x) → M4.2 x = M.2 x := k3
        rw [fX1_rest_L70_u]
        rcases Nat.lt_or_ge t 6 with htl | htg
        · refine wp_neg (nI_ge htl (by decide)) ?_
          rw [li6, pk_mul, nI_add, pk_mul, nI_add]
          refine wp_pos ((inb_N (by omega)).mpr (by omega)) (wp_pos ((inb_N (by omega)).mpr (by omega)) (wp_pos ((inb_N (by omega)).mpr (by omega)) (wp_nm (wp_nm ?_))))
          rw [li1, nI_add, nI_clamp (show 6 * k + t < 2 ^ 31 by omega), nI_clamp (show 6 * nd + t < 2 ^ 31 by omega)]
          refine hrec2 _ htl ⟨rfl, k1', fun t' ht' b hb => ?_, fun x hx => ?_⟩
          · show (((ksetL M4 (6 * k + t) _).2 (6 * k + t')).toBitVec).getLsbD b = _
            rw [ksetL_ap]
            by_cases e : t' = t
            · rw [if_pos (by omega), Int64.toBitVec_or, BitVec.getLsbD_or, k2' t htl b hb, decide_eq_false (Nat.lt_irrefl _), Bool.false_and, Bool.or_false, e, decide_eq_true (Nat.lt_succ_self _), Bool.true_and]
              have hq : (M4.2 (6 * nd + t)).toBitVec.getLsbD b = (decide (b < 36) && cl nd (36 * t + b)) := by
                rw [k3' _ (by omega)]
                exact (hd nd hnl hnk).2 t htl b hb
              rw [hq]
              cases decide (b < 36) <;> simp
            · rw [if_neg (by omega), k2' t' ht' b hb]
              by_cases q : t' < t
              · rw [decide_eq_true q, decide_eq_true (show t' < t + 1 by omega)]
              · rw [decide_eq_false q, decide_eq_false (show ¬ t' < t + 1 by omega)]
          · show (ksetL M4 (6 * k + t) _).2 x = _
            rw [ksetL_ap, if_neg (by omega)]
            exact k3' x hx
        · have : t = 6 := by omega
          subst this
          refine wp_pos (nI_le (Nat.le_refl _) (by decide)) ?_
          unfold fX1_rest_X70
          refine wp_nm ?_
          rw [li1, nI_add]
          refine hrec _ hlt ⟨rfl, ?_, fun t' ht' b hb => ?_, fun q hq => ?_, k3', fun a ha => ?_⟩
          · show M4.1 110 k = nI (max (dpi R dp r k z i) (dpj R dp r k z i))
            rw [k1', e110]
            unfold dpj
            rw [hp, if_pos rfl, hnd]
          · show (M4.2 (6 * k + t')).toBitVec.getLsbD b = (decide (b < 36) && (cli R cl r k z i (36 * t' + b) || clj R cl r k z i (36 * t' + b)))
            rw [k2' t' ht' b hb, decide_eq_true ht', Bool.true_and]
            unfold clj
            rw [hp, Bool.true_and, hnd]
          · show M4.1 110 q = _
            rw [k1']
            exact e110r q hq
          · show M4.1 a = _
            rw [k1']
            exact hF3 a ha
      · show (M3.2 (6 * k + t')).toBitVec.getLsbD b = _
        rw [e2, g2' t' ht' b hb, decide_eq_false (Nat.not_lt_zero _), Bool.false_and, Bool.or_false]
  · have : i = 3 := by omega
    subst this
    refine wp_pos (nI_le (Nat.le_refl _) (by decide)) ?_
    unfold fX1_rest_X2
    exact wp_some ⟨by rw [g1', dpi_3], g2'.cong (fun m _ => cli_3), g3', g4', hF2⟩
end KRS
