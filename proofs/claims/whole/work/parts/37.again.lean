/-! ===== the class: the second way ===== -/
theorem fa_first_cong {p q : Nat → Bool} : ∀ {n : Nat}, (∀ k, k < n → p k = q k) → fa_first p n = fa_first q n
  | 0, _ => rfl
  | n + 1, h => by
    unfold fa_first
    rw [fa_first_cong (fun k hk => h k (by omega)), h n (by omega)]
section LAYA
variable {R : RS} {A B : Nat → Nat} {X : DX} {T : Nat → Bool}
theorem rl_A (hO : ∀ r, r < R.1 → OK1 R r) (h : ∀ q, q < 6 → A q = B q) (S : Nat → Bool) (l k : Nat) : rl S R A l k = rl S R B l k := by
  unfold rl
  refine fa_first_cong (fun r hr => ?_)
  unfold rq
  by_cases e : R.2.1 r = k / 36
  · rw [h (k / 36) (by rw [← e]; exact (hO r hr).1)]
  · rw [show (R.2.1 r == k / 36) = false from beq_eq_false_iff_ne.mpr e, Bool.false_and, Bool.false_and, Bool.false_and, Bool.false_and]
theorem stp_A (hO : ∀ r, r < R.1 → OK1 R r) (h : ∀ q, q < 6 → A q = B q) (l i : Nat) (X : DX) : stp R A l i X = stp R B l i X := by
  unfold stp nwz nwr nw
  simp only [rl_A hO h]
theorem itr_A (hO : ∀ r, r < R.1 → OK1 R r) (h : ∀ q, q < 6 → A q = B q) (l : Nat) (X : DX) : ∀ i, itr R A l X i = itr R B l X i
  | 0 => rfl
  | i + 1 => by
    show stp R A l (i + 1) (itr R A l X i) = stp R B l (i + 1) (itr R B l X i)
    rw [itr_A hO h l X i, stp_A hO h]
theorem nws_A (hO : ∀ r, r < R.1 → OK1 R r) (h : ∀ q, q < 6 → A q = B q) (l : Nat) (X : DX) : nws R A l X = nws R B l X := by
  unfold nws nw
  simp only [rl_A hO h]
theorem nr_A (hO : ∀ r, r < R.1 → OK1 R r) (h : ∀ q, q < 6 → A q = B q) (l : Nat) (X : DX) : nr R A l X = nr R B l X := by
  unfold nr
  simp only [itr_A hO h, nws_A hO h]
theorem dend_A (hO : ∀ r, r < R.1 → OK1 R r) (h : ∀ q, q < 6 → A q = B q) (X : DX) : ∀ l, dend R A X l = dend R B X l
  | 0 => rfl
  | l + 1 => by
    rw [dend_s, dend_s, dend_A hO h X l, nr_A hO h, itr_A hO h]
theorem DV_A (hO : ∀ r, r < R.1 → OK1 R r) (h : ∀ q, q < 6 → A q = B q) : DV T R A = DV T R B := by
  rw [DV_d, DV_d, dend_A hO h]
theorem rr_A (hO : ∀ r, r < R.1 → OK1 R r) (h : ∀ q, q < 6 → A q = B q) (X : DX) : rr R A X = rr R B X := by
  funext l
  unfold rr
  rw [dend_A hO h, nr_A hO h]
end LAYA
theorem LA6.fr2 {M M' : KS} {y : Nat} {A : Nat → Nat} {P : Nat → Prop} (h : LA6 M y A) (k : FR P M M') (h1 : ¬ P (iYl y)) : LA6 M' y A := fun q hq => by rw [k.1 _ h1]; exact h q hq
section AGN
variable {M : KS} {R : RS} {X : DX} {A : Nat → Nat} {l : Nat} {T : Nat → Bool} {B : Nat → Bool}
/-- between the ends of two layers -/
def SW (R : RS) (A : Nat → Nat) (X : DX) (l : Nat) (B : Nat → Bool) : Prop := (∀ k, k < 216 → X.1 k = true → B k = true) ∧ ∀ k, k < 216 → B k = true → (itr R A l X (nr R A l X)).1 k = true
theorem SW.off (h : SW R A X l B) {k : Nat} (hk : k < 216) (hne : A (k / 36) ≠ l) : B k = X.1 k := by
  cases h1 : X.1 k
  · cases h2 : B k
    · rfl
    · have := h.2 k hk h2
      rw [(itr_off hne _).1, h1] at this
      exact absurd this (by decide)
  · exact h.1 k hk h1
theorem SW.put (h : SW R A X l B) (hS : Sol R R.1 A) (hO : ∀ r, r < R.1 → OK1 R r) {k r z : Nat} (hk : k < 216) (hr : r < R.1) (hh : R.2.1 r = k / 36) (hl : A (k / 36) = l) (hz : z < 6) (h1 : zin R r z = true) (h2 : mk B R r (k / 6 % 6) (k % 6) z = true) : SW R A X l (fun i => B i || i == k) := by
  refine ⟨fun q hq hx => by show (B q || _) = true; rw [h.1 q hq hx]; rfl, fun q hq hb => ?_⟩
  simp only [Bool.or_eq_true, beq_iff_eq] at hb
  rcases hb with hb | hb
  · exact h.2 q hq hb
  · subst hb
    have hm := btw_mk (l := l) (H := B) (A' := (itr R A l X (nr R A l X)).1) hS hO h.2 (fun p hp hne => by rw [(itr_off hne _).1, h.off hp hne]) hr (by rw [hh]; exact hl) (show q / 6 % 6 < 6 by omega) (show q % 6 < 6 by omega) hz h2
    cases hs : (itr R A l X (nr R A l X)).1 q
    · have := CL.of (nr_end (X := X) (R := R) (lay := A) (l := l)) q hq hs hl r hr hh z hz h1
      rw [hm] at this
      exact absurd this (by decide)
    · rfl
theorem SW.all (h : SW R A X l B) (hS : Sol R R.1 A) (hO : ∀ r, r < R.1 → OK1 R r) (hc : CL R A l B) : ∀ k, k < 216 → B k = (itr R A l X (nr R A l X)).1 k := fun k hk => by
  cases h1 : (itr R A l X (nr R A l X)).1 k
  · cases h2 : B k
    · rfl
    · rw [h.2 k hk h2] at h1; exact absurd h1 (by decide)
  · exact btw_all hS hO h.1 (fun q hq hne => h.off hq hne) hc _ k hk h1
theorem ct_put {k : Nat} (hk : k < 216) (h : B k = false) : fb_ct B 216 < fb_ct (fun i => B i || i == k) 216 := by
  have h1 := fb_ct_or (p := B) (q := fun i => i == k) (n := 216) (fun i _ hi => by
    have := hi.2
    simp only [beq_iff_eq] at this
    rw [this, h] at hi
    exact absurd hi.1 (by decide))
  have h2 : 0 < fb_ct (fun i => i == k) 216 := fb_ct_pos.mpr ⟨k, hk, by simp⟩
  rw [h1]
  omega
/-- in the middle of a pass: from B to B', below the place c of the rule r -/
def AM (R : RS) (A : Nat → Nat) (X : DX) (l : Nat) (B B' : Nat → Bool) (b : Bool) (r c : Nat) : Prop :=
  SW R A X l B' ∧ (b = false → (∀ k, k < 216 → B' k = B k) ∧ ∀ k, k < 216 → B k = false → A (k / 36) = l → ∀ r', r' < R.1 → R.2.1 r' = k / 36 → (r' < r ∨ (r' = r ∧ k < c)) → ∀ z, z < 6 → zin R r' z = true → mk B R r' (k / 6 % 6) (k % 6) z = false) ∧ (b = true → fb_ct B 216 < fb_ct B' 216) ∧ fb_ct B 216 ≤ fb_ct B' 216
theorem mk_cong {S S' : Nat → Bool} (h : ∀ k, k < 216 → S k = S' k) {r x y z : Nat} (hO : OK1 R r) (hx : x < 6) (hy : y < 6) (hz : z < 6) : mk S R r x y z = mk S' R r x y z := by
  unfold mk cond
  rw [h _ (fc_lt (hO.2 0 (by decide)) hx hy hz), h _ (fc_lt (hO.2 1 (by decide)) hx hy hz), h _ (fc_lt (hO.2 2 (by decide)) hx hy hz)]
theorem more_wp (hR : RA M 0 R) (hO : OKR R) (hS : Sol R R.1 A) (hA : LA6 M 1 A) (hA5 : ∀ q, q < 6 → A q ≤ 5) (hB : FA M 14 B) (hW : SW R A X l B) (hl : l < 6) :
    wp (fX0_makeMore M 0 (nI l)) (fun a => ∃ b B', a.1 = bI b ∧ FA a.2 14 B' ∧ SW R A X l B' ∧ (b = false → CL R A l B ∧ ∀ k, k < 216 → B' k = B k) ∧ (b = true → fb_ct B 216 < fb_ct B' 216) ∧ FR (cF 14) M a.2) := by
  have hn10 := hO.1
  have hOk := hO.ok
  unfold fX0_makeMore
  refine wp_for R.1 (fun (r : Nat) (s : Int32 × Int32 × KS) => ∃ b B', s.1 = bI b ∧ s.2.1 = nI r ∧ FA s.2.2 14 B' ∧ AM R A X l B B' b r 0 ∧ FR (cF 14) M s.2.2) (fun r s rec hr hI hrec => ?_) (by omega) (Nat.zero_le _) ⟨false, B, rfl, rfl, hB, ⟨hW, fun _ => ⟨fun _ _ => rfl, fun k _ _ _ r' _ _ h => by rcases h with h | ⟨_, h⟩; exact absurd h (Nat.not_lt_zero _); exact absurd h (Nat.not_lt_zero _)⟩, fun h => absurd h (by decide), Nat.le_refl _⟩, FR.rf⟩
  obtain ⟨v, w, M1⟩ := s
  obtain ⟨b, B1, hv, hw, hB1, hM1, hF1⟩ := hI
  have hv : v = bI b := hv
  subst hv
  have hw : w = nI r := hw
  subst hw
  have hB1' : FA M1 14 B1 := hB1
  have hF1' : FR (cF 14) M M1 := hF1
  have hR1 : RA M1 0 R := hR.fr hF1' (by decide) (by decide) (by decide) (by decide)
  rw [fX0_makeMore_L5_u, hR1.1]
  rcases Nat.lt_or_ge r R.1 with hlt | hge
  · refine wp_neg (nI_ge hlt (by omega)) ?_
    have hO1 := hOk r hlt
    rw [head_eq hR1.2 hlt (by omega)]
    refine wp_bind (wp_some ?_)
    rw [of_eq (LA6.fr2 hA hF1' (by decide)) hO1.1]
    refine wp_bind (wp_some ?_)
    have hA5' := hA5 _ hO1.1
    have hh := hO1.1
    by_cases hll : A (R.2.1 r) = l
    · refine wp_pos (congrArg nI hll) ?_
      refine wp_for 36 (fun (q : Nat) (s : Int32 × Int32 × KS) => ∃ b B', s.1 = bI b ∧ s.2.1 = nI q ∧ FA s.2.2 14 B' ∧ AM R A X l B B' b r (36 * R.2.1 r + q) ∧ FR (cF 14) M s.2.2) (fun q s rec2 hq hI2 hrec2 => ?_) (by decide) (Nat.zero_le _) ⟨b, B1, rfl, rfl, hB1', ⟨hM1.1, fun hb => ⟨(hM1.2.1 hb).1, fun k hk hs hla r' hr' hh' hc => ?_⟩, hM1.2.2⟩, hF1'⟩
      · obtain ⟨v, w, M2⟩ := s
        obtain ⟨b2, B2, hv, hw, hB2, hM2, hF2⟩ := hI2
        have hv : v = bI b2 := hv
        subst hv
        have hw : w = nI q := hw
        subst hw
        have hB2' : FA M2 14 B2 := hB2
        have hF2' : FR (cF 14) M M2 := hF2
        rw [fX0_makeMore_L41_u]
        rcases Nat.lt_or_ge q 36 with hql | hqg
        · refine wp_neg (nI_ge hql (by decide)) (wp_nm ?_)
          rw [li36, pk_mul, nI_add]
          obtain ⟨k, hkk⟩ : ∃ k, k = 36 * R.2.1 r + q := ⟨_, rfl⟩
          rw [← hkk] at hM2 ⊢
          have hk : k < 216 := by omega
          have hk36 : k / 36 = R.2.1 r := by omega
          have next : ∀ M3 b3 B3, FA M3 14 B3 → AM R A X l B B3 b3 r (k + 1) → FR (cF 14) M M3 → wp (rec2 (bI b3, nI (q + 1), M3)) (fun a => ∃ b B', a.1 = bI b ∧ FA a.2 14 B' ∧ SW R A X l B' ∧ (b = false → CL R A l B ∧ ∀ k, k < 216 → B' k = B k) ∧ (b = true → fb_ct B 216 < fb_ct B' 216) ∧ FR (cF 14) M a.2) := fun M3 b3 B3 h1 h2 h3 => hrec2 _ hql ⟨b3, B3, rfl, rfl, h1, by rw [show 36 * R.2.1 r + (q + 1) = k + 1 by omega]; exact h2, h3⟩
          have same : (B2 k = true ∨ ∀ z, z < 6 → zin R r z = true → mk B2 R r (k / 6 % 6) (k % 6) z = false) → wp (nm (nI q + 1) fun v16 => rec2 (bI b2, v16, M2)) (fun a => ∃ b B', a.1 = bI b ∧ FA a.2 14 B' ∧ SW R A X l B' ∧ (b = false → CL R A l B ∧ ∀ k, k < 216 → B' k = B k) ∧ (b = true → fb_ct B 216 < fb_ct B' 216) ∧ FR (cF 14) M a.2) := by
            intro h
            refine wp_nm ?_
            rw [li1, nI_add]
            refine next M2 b2 B2 hB2' ⟨hM2.1, fun hb => ⟨(hM2.2.1 hb).1, fun k' hk' hs' hla r' hr' hh' hc z hz hz1 => ?_⟩, hM2.2.2⟩ hF2'
            by_cases e : r' = r ∧ k' = k
            · obtain ⟨rfl, rfl⟩ := e
              rcases h with h | h
              · rw [(hM2.2.1 hb).1 k' hk', hs'] at h
                exact absurd h (by decide)
              · rw [← mk_cong (hM2.2.1 hb).1 hO1 (show k' / 6 % 6 < 6 by omega) (show k' % 6 < 6 by omega) hz]
                exact h z hz hz1
            · refine (hM2.2.1 hb).2 k' hk' hs' hla r' hr' hh' ?_ z hz hz1
              rcases hc with hc | ⟨hc, hc2⟩
              · exact Or.inl hc
              · exact Or.inr ⟨hc, by have : k' ≠ k := fun z => e ⟨hc, z⟩; omega⟩
          rw [has_eq hB2' hk]
          refine wp_bind (wp_some ?_)
          cases hs : B2 k
          · refine wp_pos rfl ?_
            have hR2 : RA M2 0 R := hR.fr hF2' (by decide) (by decide) (by decide) (by decide)
            have e1 : nI q / 6 = nI (k / 6 % 6) := by rw [li6, pk_div (by omega) (by omega) (by omega)]; exact congrArg nI (by omega)
            have e2 : jrem (nI q) 6 = nI (k % 6) := by rw [li6, jremN (by omega) (by omega) (by omega)]; exact congrArg nI (by omega)
            rw [e1, e2, mkq_eq hR2.2 hlt (by omega) hO1 (hO.2.1 r hlt).2.1 hB2' (by omega) (by omega)]
            refine wp_bind (wp_some ?_)
            by_cases hm : m6 (fun z => zin R r z && mk B2 R r (k / 6 % 6) (k % 6) z) = nI 0
            · refine wp_pos hm (same (Or.inr (fun z hz hz1 => ?_)))
              have := m6_eq0.mp hm z hz
              rw [hz1, Bool.true_and] at this
              exact this
            · refine wp_neg hm ?_
              obtain ⟨z, hz, hz1, hz2⟩ : ∃ z, z < 6 ∧ zin R r z = true ∧ mk B2 R r (k / 6 % 6) (k % 6) z = true := by
                apply Classical.byContradiction
                intro hno
                refine hm (m6_eq0.mpr (fun z hz => ?_))
                cases h1 : zin R r z
                · rfl
                · cases h2 : mk B2 R r (k / 6 % 6) (k % 6) z
                  · rfl
                  · exact absurd ⟨z, hz, h1, h2⟩ hno
              refine wp_bind (wp_mono (put_wp hB2' hk) ?_)
              intro M3 ⟨p1, p2⟩
              refine wp_nm ?_
              rw [li1, nI_add]
              have hct := ct_put hk hs
              exact next M3 true _ p1 ⟨hM2.1.put hS hOk hk hlt hk36.symm (by rw [hk36]; exact hll) hz hz1 hz2, fun h => absurd h (by decide), fun _ => Nat.lt_of_le_of_lt hM2.2.2.2 hct, Nat.le_of_lt (Nat.lt_of_le_of_lt hM2.2.2.2 hct)⟩ (hF2'.tr p2)
          · exact wp_neg (show ¬ bI true = 0 by decide) (same (Or.inl hs))
        · have : q = 36 := by omega
          subst this
          refine wp_pos (nI_le (Nat.le_refl _) (by decide)) ?_
          unfold fX0_makeMore_X41
          refine wp_nm ?_
          rw [li1, nI_add]
          refine hrec _ hlt ⟨b2, B2, rfl, rfl, hB2', ⟨hM2.1, fun hb => ⟨(hM2.2.1 hb).1, fun k' hk' hs' hla r' hr' hh' hc => (hM2.2.1 hb).2 k' hk' hs' hla r' hr' hh' ?_⟩, hM2.2.2⟩, hF2'⟩
          rcases hc with hc | ⟨_, hc⟩
          · by_cases e : r' = r
            · exact Or.inr ⟨e, by rw [e] at hh'; omega⟩
            · exact Or.inl (by omega)
          · exact absurd hc (Nat.not_lt_zero _)
      · refine (hM1.2.1 hb).2 k hk hs hla r' hr' hh' ?_
        rcases hc with hc | ⟨hc, hc2⟩
        · exact Or.inl hc
        · exfalso
          rw [hc] at hh'
          omega
    · refine wp_neg (fun z => hll ((nI_eq (by omega) (by omega)).mp z)) (wp_nm ?_)
      rw [li1, nI_add]
      refine hrec _ hlt ⟨b, B1, rfl, rfl, hB1', ⟨hM1.1, fun hb => ⟨(hM1.2.1 hb).1, fun k' hk' hs' hla r' hr' hh' hc => (hM1.2.1 hb).2 k' hk' hs' hla r' hr' hh' ?_⟩, hM1.2.2⟩, hF1'⟩
      rcases hc with hc | ⟨_, hc⟩
      · by_cases e : r' = r
        · exfalso
          rw [e] at hh'
          exact hll (by rw [hh']; exact hla)
        · exact Or.inl (by omega)
      · exact absurd hc (Nat.not_lt_zero _)
  · have : r = R.1 := by omega
    subst this
    refine wp_pos (nI_le (Nat.le_refl _) (by omega)) ?_
    unfold fX0_makeMore_X5
    exact wp_pos (bI_B b) (wp_some ⟨b, B1, rfl, hB1', hM1.1, fun hb => ⟨fun k hk hs hla r' hr' hh' => (hM1.2.1 hb).2 k hk hs hla r' hr' hh' (Or.inl hr'), (hM1.2.1 hb).1⟩, hM1.2.2.1, hF1'⟩)
abbrev cAG : Nat → Prop := fun a => a = iFt 14 ∨ a = iFf 14 ∨ a = 103
theorem deriveAll_wp (hR : RA M 0 R) (hO : OKR R) (hT : FA M 14 T) : wp (fX0_deriveAll M 0) (fun M' => ∃ A, IsLay R R.1 A ∧ (∀ q, q < 6 → A q ≤ 5) ∧ FA M' 14 (DV T R A).1 ∧ FR cAG M M') := by
  have hn10 := hO.1
  have hOk := hO.ok
  unfold fX0_deriveAll
  rw [hR.1]
  refine wp_bd2 (wp_mono (arr_wp (y := 1) hR.2 (by omega) hOk (by decide)) ?_)
  rintro ⟨v2, M1⟩ ⟨hres, hF1⟩
  have hF1' : FR (fun q => q = iYl 1) M M1 := hF1
  rcases hres with ⟨A, -, hA, hI, hA5⟩ | ⟨-, hno⟩
  · have hA1 : LA6 M1 1 A := hA
    have hG1 : FR cAG M M1 := hF1'.wk (fun a h => by rw [h]; decide)
    have hmx : mx6 A 6 ≤ 5 := mx6_le.mpr hA5
    show wp ((fX3_count M1 1).bind fun v3 => lp (fX0_deriveAll_L23 0 v3) fX0_deriveAll_X23 1000000 (0, M1)) _
    rw [cnt_eq hA1 (fun q hq => by have := hA5 q hq; omega)]
    refine wp_bind (wp_some ?_)
    refine wp_for (mx6 A 6 + 1) (fun (l : Nat) (s : Int32 × KS) => s.1 = nI l ∧ FA s.2 14 (dend R A (X0 T) l).1 ∧ FR cAG M s.2 ∧ LA6 s.2 1 A) (fun l s rec hl hI2 hrec => ?_) (by omega) (Nat.zero_le _) ⟨rfl, hT.fr hF1' (by decide) (by decide), hG1, hA1⟩
    obtain ⟨v, M2⟩ := s
    obtain ⟨hv, g1, g2, g3⟩ := hI2
    have hv : v = nI l := hv
    subst hv
    have g1' : FA M2 14 (dend R A (X0 T) l).1 := g1
    have g2' : FR cAG M M2 := g2
    have g3' : LA6 M2 1 A := g3
    rw [fX0_deriveAll_L23_u]
    rcases Nat.lt_or_ge l (mx6 A 6 + 1) with hll | hlg
    · refine wp_neg (nI_ge hll (by omega)) ?_
      have hl6 : l < 6 := by omega
      refine wp_for 217 (fun (p : Nat) (s : Int32 × KS) => ∃ B, s.1 = nI p ∧ FA s.2 14 B ∧ SW R A (dend R A (X0 T) l) l B ∧ p ≤ fb_ct B 216 ∧ FR cAG M s.2 ∧ LA6 s.2 1 A) (fun p s rec2 hp hI3 hrec2 => ?_) (by decide) (Nat.zero_le _) ⟨_, rfl, g1', ⟨fun _ _ h => h, fun k _ h => itr_hs h _⟩, Nat.zero_le _, g2', g3'⟩
      obtain ⟨v, M3⟩ := s
      obtain ⟨B, hv, k1, k2, k3, k4, k5⟩ := hI3
      have hv : v = nI p := hv
      subst hv
      have k1' : FA M3 14 B := k1
      have k4' : FR cAG M M3 := k4
      have k5' : LA6 M3 1 A := k5
      have hle := fb_ct_le B 216
      rw [fX0_deriveAll_L31_u]
      refine wp_neg (nI_nlt (a := 216) (b := p) (by omega) (by decide)) ?_
      have hR3 : RA M3 0 R := hR.fr k4' (by decide) (by decide) (by decide) (by decide)
      refine wp_bd2 (wp_mono (more_wp hR3 hO hI.1 k5' hA5 k1' k2 hl6) ?_)
      rintro ⟨v12, M4⟩ ⟨b, B', hv12, q1, q2, q3, q4, q5⟩
      have hv12 : v12 = bI b := hv12
      subst hv12
      have q1' : FA M4 14 B' := q1
      have q5' : FR (cF 14) M3 M4 := q5
      have hG4 : FR cAG M M4 := k4'.tr (q5'.wk (fun a h => by rcases h with h | h; exact Or.inl h; exact Or.inr (Or.inl h)))
      have hA4 : LA6 M4 1 A := LA6.fr2 k5' q5' (by decide)
      cases b
      · refine wp_pos rfl ?_
        unfold fX0_deriveAll_X31
        refine wp_nm ?_
        rw [li1, nI_add]
        refine hrec _ hll ⟨rfl, ?_, hG4, hA4⟩
        refine q1'.cong (fun k hk => ?_)
        rw [dend_s, (q3 rfl).2 k hk]
        exact k2.all hI.1 hOk (q3 rfl).1 k hk
      · refine wp_neg (show ¬ bI true = 0 by decide) (wp_nm ?_)
        rw [li1, nI_add]
        have := q4 rfl
        have hle' := fb_ct_le B' 216
        exact hrec2 _ (by omega) ⟨B', rfl, q1', q2, by omega, hG4, hA4⟩
    · have : l = mx6 A 6 + 1 := by omega
      subst this
      refine wp_pos (nI_le (Nat.le_refl _) (by omega)) ?_
      unfold fX0_deriveAll_X23
      have e : DV T R A = dend R A (X0 T) (mx6 A 6 + 1) := by
        have := dend_last (R := R) (A := A) (X := X0 T) (j := mx6 A 6 + 1) (fun q hq => by have := mx6_le.mp (Nat.le_refl (mx6 A 6)) q hq; omega) (5 - mx6 A 6)
        rw [show mx6 A 6 + 1 + (5 - mx6 A 6) = 6 by omega] at this
        exact this
      exact wp_some ⟨A, hI, hA5, by rw [e]; exact g1', g2'⟩
  · exact absurd hO.2.2 hno
theorem deriveFrom_wp (hR : RA M 0 R) (hO : OKR R) (hT : FA M 0 T) : wp (fX0_deriveFrom M 0 0) (fun M' => ∃ A, IsLay R R.1 A ∧ (∀ q, q < 6 → A q ≤ 5) ∧ FA M' 14 (DV T R A).1 ∧ FR cAG M M') := by
  unfold fX0_deriveFrom
  refine wp_bind (wp_mono (copy_wp hT (show (14 : Nat) ≠ 0 by decide)) ?_)
  intro M1 ⟨h1, hF1⟩
  have hG1 : FR cAG M M1 := hF1.wk (fun a h => by rcases h with h | h; exact Or.inl h; exact Or.inr (Or.inl h))
  have hR1 : RA M1 0 R := hR.fr hG1 (by decide) (by decide) (by decide) (by decide)
  refine wp_bind (wp_mono (deriveAll_wp hR1 hO h1) ?_)
  intro M2 ⟨A, a1, a2, a3, a4⟩
  exact wp_some ⟨A, a1, a2, a3, hG1.tr a4⟩
theorem deriveWithout_wp (hR : RA M 0 R) (hO : OKR R) (hT : FA M 0 T) {k : Nat} (hk : k < 216) : wp (fX0_deriveWithout M (nI k) 0 0) (fun M' => ∃ A, IsLay R R.1 A ∧ (∀ q, q < 6 → A q ≤ 5) ∧ FA M' 14 (DV (fun q => if q = k then !T k else T q) R A).1 ∧ FR cAG M M') := by
  unfold fX0_deriveWithout
  refine wp_bind (wp_mono (copy_wp hT (show (14 : Nat) ≠ 0 by decide)) ?_)
  intro M1 ⟨h1, hF1⟩
  have hG1 : FR cAG M M1 := hF1.wk (fun a h => by rcases h with h | h; exact Or.inl h; exact Or.inr (Or.inl h))
  have hT1 : FA M1 0 T := hT.fr hF1 (by decide) (by decide)
  rw [has_eq hT1 hk]
  refine wp_bind (wp_some (wp_jn ?_))
  have key : ∀ M2, FA M2 14 (fun q => if q = k then !T k else T q) → FR cAG M M2 → wp (fX0_deriveWithout_J35_13 0 M2) (fun M' => ∃ A, IsLay R R.1 A ∧ (∀ q, q < 6 → A q ≤ 5) ∧ FA M' 14 (DV (fun q => if q = k then !T k else T q) R A).1 ∧ FR cAG M M') := by
    intro M2 h2 hG2
    unfold fX0_deriveWithout_J35_13
    have hR2 : RA M2 0 R := hR.fr hG2 (by decide) (by decide) (by decide) (by decide)
    refine wp_bind (wp_mono (deriveAll_wp hR2 hO h2) ?_)
    intro M3 ⟨A, a1, a2, a3, a4⟩
    exact wp_some ⟨A, a1, a2, a3, hG2.tr a4⟩
  have cw : ∀ a, cF 14 a → cAG a := fun a h => by rcases h with h | h; exact Or.inl h; exact Or.inr (Or.inl h)
  by_cases ht : T k = true
  · refine wp_neg (fun z => by rw [ht] at z; exact absurd z (by decide)) (wp_bind (wp_mono (take_wp h1 hk) ?_))
    intro M2 ⟨p1, p2⟩
    have h2 : FA M2 14 (fun q => if q = k then !T k else T q) := p1.cong (fun q _ => by
      by_cases e : q = k
      · rw [if_pos e, e, ht]; simp
      · rw [if_neg e, show (q == k) = false from beq_eq_false_iff_ne.mpr e, Bool.not_false, Bool.and_true])
    exact key M2 h2 (hG1.tr (p2.wk cw))
  · have ht' : T k = false := by simpa using ht
    refine wp_pos (by rw [ht']; rfl) (wp_bind (wp_mono (put_wp h1 hk) ?_))
    intro M2 ⟨p1, p2⟩
    have h2 : FA M2 14 (fun q => if q = k then !T k else T q) := p1.cong (fun q _ => by
      by_cases e : q = k
      · rw [if_pos e, e, ht']; simp
      · rw [if_neg e, show (q == k) = false from beq_eq_false_iff_ne.mpr e, Bool.or_false])
    exact key M2 h2 (hG1.tr (p2.wk cw))
end AGN
