/-! ===== the class: one round, walked ===== -/
def FLG (b : Bool) (dn : Nat → Bool) : Prop := b = true ↔ ∃ k, k < 216 ∧ dn k = true
section KAD
variable {M : KS} {R : RS} {X : DX} {A : Nat → Nat} {l : Nat} {S1 : Nat → Bool}
theorem FLG.cong {b : Bool} {dn dn' : Nat → Bool} (h : FLG b dn) (e : ∀ k, k < 216 → dn k = dn' k) : FLG b dn' := by
  unfold FLG at h ⊢
  rw [h]
  exact ⟨fun ⟨k, hk, hd⟩ => ⟨k, hk, by rw [← e k hk]; exact hd⟩, fun ⟨k, hk, hd⟩ => ⟨k, hk, by rw [e k hk]; exact hd⟩⟩
/-- what holds in the middle of a round -/
def MID (M M1 : KS) (R : RS) (X : DX) (A : Nat → Nat) (l i : Nat) (b : Bool) (dn : Nat → Bool) : Prop := FLG b dn ∧ FA M1 13 dn ∧ KX M1 (stpd dn R A l i X) ∧ FQ cAR M M1
theorem MID.cong {M1 : KS} {i : Nat} {b : Bool} {dn dn' : Nat → Bool} (h : MID M M1 R X A l i b dn) (e : ∀ k, k < 216 → dn k = dn' k) : MID M M1 R X A l i b dn' := ⟨h.1.cong e, h.2.1.cong e, h.2.2.1.dn e, h.2.2.2⟩
theorem addr_wp {b i : Nat} (hR : RA M 0 R) (hn10 : R.1 ≤ 10) (hO : ∀ r, r < R.1 → OK1 R r) (hS : FA M 11 X.1) (hS1 : FA M 12 S1) (h13 : FA M 13 (fun _ => false)) (hA : LA6 M 0 A) (hA5 : ∀ q, q < 6 → A q ≤ 5) (hK : KX M X) (hB : XB R X b) (hb : b + 1 ≤ 300) (hi1 : 0 < i) (hi : i ≤ 300) (hcov : COV X.1 S1 R A l) (hl : l < 6) :
    wp (fX1_addRound M 0 (nI l) (nI i)) (fun a => ∃ b', a.1 = bI b' ∧ MID M a.2 R X A l i b' (nw X.1 R A l)) := by
  unfold fX1_addRound
  refine wp_for R.1 (fun (r : Nat) (s : Int32 × Int32 × KS) => ∃ b', s.1 = bI b' ∧ s.2.1 = nI r ∧ MID M s.2.2 R X A l i b' (dn0 X.1 R A l r)) (fun r s rec hr hI hrec => ?_) (by omega) (Nat.zero_le _) ⟨false, rfl, rfl, ⟨⟨fun h => absurd h (by decide), fun ⟨k, _, h⟩ => by unfold dn0 at h; rw [decide_eq_false (Nat.not_lt_zero _), Bool.and_false] at h; exact absurd h (by decide)⟩, h13.cong (fun k _ => by unfold dn0; rw [decide_eq_false (Nat.not_lt_zero _), Bool.and_false]), ?_, FQ.rf⟩⟩
  · obtain ⟨v, w, M1⟩ := s
    obtain ⟨b', hv, hw, hM⟩ := hI
    have hv : v = bI b' := hv
    subst hv
    have hw : w = nI r := hw
    subst hw
    have hM1 : MID M M1 R X A l i b' (dn0 X.1 R A l r) := hM
    have hF1 := hM1.2.2.2
    have hR1 : RA M1 0 R := hR.fq hF1 (by decide) (by decide) (by decide) (by decide)
    rw [fX1_addRound_L6_u, hR1.1]
    rcases Nat.lt_or_ge r R.1 with hlt | hge
    · refine wp_neg (nI_ge hlt (by omega)) ?_
      have hO1 := hO r hlt
      rw [head_eq hR1.2 hlt (by omega)]
      refine wp_bind (wp_some ?_)
      rw [of_eq (hA.fq hF1 (by decide)) hO1.1]
      refine wp_bind (wp_some ?_)
      have hA5' := hA5 _ hO1.1
      have hh := hO1.1
      by_cases hll : A (R.2.1 r) = l
      · refine wp_pos (congrArg nI hll) ?_
        refine wp_for 36 (fun (q : Nat) (s : Int32 × Int32 × KS) => ∃ b', s.1 = bI b' ∧ s.2.1 = nI q ∧ MID M s.2.2 R X A l i b' (dnb X.1 R A l r (36 * R.2.1 r + q))) (fun q s rec2 hq hI2 hrec2 => ?_) (by decide) (Nat.zero_le _) ⟨b', rfl, rfl, hM1.cong (fun k _ => (dnb_0 r k).symm)⟩
        obtain ⟨v, w, M2⟩ := s
        obtain ⟨b2, hv, hw, hM2⟩ := hI2
        have hv : v = bI b2 := hv
        subst hv
        have hw : w = nI q := hw
        subst hw
        have hM2' : MID M M2 R X A l i b2 (dnb X.1 R A l r (36 * R.2.1 r + q)) := hM2
        have hF2 := hM2'.2.2.2
        rw [fX1_addRound_L42_u]
        rcases Nat.lt_or_ge q 36 with hql | hqg
        · refine wp_neg (nI_ge hql (by decide)) (wp_nm ?_)
          rw [li36, pk_mul, nI_add]
          obtain ⟨k, hkk⟩ : ∃ k, k = 36 * R.2.1 r + q := ⟨_, rfl⟩
          rw [← hkk] at hM2' ⊢
          have hk : k < 216 := by omega
          have hk36 : k / 36 = R.2.1 r := by omega
          have hkx : q / 6 = k / 6 % 6 := by omega
          have hky : q % 6 = k % 6 := by omega
          have hS2 : FA M2 11 X.1 := hS.fq hF2 (by decide) (by decide)
          have next : ∀ M3 b3, MID M M3 R X A l i b3 (dnb X.1 R A l r (k + 1)) → wp (rec2 (bI b3, nI (q + 1), M3)) (fun a => ∃ b', a.1 = bI b' ∧ MID M a.2 R X A l i b' (nw X.1 R A l)) := fun M3 b3 h3 => hrec2 _ hql ⟨b3, rfl, rfl, by
            show MID M M3 R X A l i b3 (dnb X.1 R A l r (36 * R.2.1 r + (q + 1)))
            rw [show 36 * R.2.1 r + (q + 1) = k + 1 by omega]
            exact h3⟩
          have same : (nw X.1 R A l k && rl X.1 R A l k == r) = false ∨ dnb X.1 R A l r k k = true → wp (nm (nI q + 1) fun v16 => rec2 (bI b2, v16, M2)) (fun a => ∃ b', a.1 = bI b' ∧ MID M a.2 R X A l i b' (nw X.1 R A l)) := by
            intro h
            refine wp_nm ?_
            rw [li1, nI_add]
            refine next M2 b2 (hM2'.cong (fun m _ => ?_))
            rw [dnb_s]
            by_cases e : m = k
            · subst e
              rcases h with h | h
              · rw [h, Bool.and_false, Bool.or_false]
              · rw [h, Bool.true_or]
            · rw [show (m == k) = false from beq_eq_false_iff_ne.mpr e, Bool.false_and, Bool.or_false]
          rw [has_eq hS2 hk]
          refine wp_bind (wp_some ?_)
          cases hs : X.1 k
          · refine wp_pos rfl ?_
            rw [has_eq hM2'.2.1 hk]
            refine wp_bind (wp_some ?_)
            cases hd : dnb X.1 R A l r k k
            · refine wp_pos rfl ?_
              have hR2 : RA M2 0 R := hR.fq hF2 (by decide) (by decide) (by decide) (by decide)
              have hxy : k / 6 % 6 < 6 ∧ k % 6 < 6 := ⟨by omega, by omega⟩
              have e1 : nI q / 6 = nI (k / 6 % 6) := by rw [li6, pk_div (by omega) (by omega) (by omega), hkx]
              have e2 : jrem (nI q) 6 = nI (k % 6) := by rw [li6, jremN (by omega) (by omega) (by omega), hky]
              rw [e1, e2, mko_eq hR2.2 hlt (by omega) hO1 hS2 (hS1.fq hF2 (by decide) (by decide)) hxy.1 hxy.2]
              refine wp_bind (wp_some ?_)
              have emask : m6 (fun z => zin R r z && mk X.1 R r (k / 6 % 6) (k % 6) z && tch S1 R r (k / 6 % 6) (k % 6) z) = m6 (fun z => zin R r z && mk X.1 R r (k / 6 % 6) (k % 6) z) := by
                refine m6_cong fun z hz => ?_
                cases h1 : zin R r z
                · rw [Bool.false_and, Bool.false_and]
                · cases h2 : mk X.1 R r (k / 6 % 6) (k % 6) z
                  · rw [Bool.and_false, Bool.false_and]
                  · rw [hcov k hk hs r hlt hk36.symm (by rw [hk36]; exact hll) z hz h1 h2]; rfl
              rw [emask]
              have hzle := fa_first_le (fun z => zin R r z && mk X.1 R r (k / 6 % 6) (k % 6) z) 6
              by_cases hz : zl X.1 R r (k / 6 % 6) (k % 6) < 6
              · have hrq : rq X.1 R A l k r = true := by
                  unfold rq
                  rw [hk36, hll, decide_eq_true hz, beq_self_eq_true, beq_self_eq_true]; rfl
                have hrle : rl X.1 R A l k ≤ r := by
                  rcases Nat.lt_or_ge r (rl X.1 R A l k) with z | z
                  · have := fa_first_no (rq X.1 R A l k) R.1 r z
                    rw [hrq] at this
                    exact absurd this (by decide)
                  · exact z
                have hnw : nw X.1 R A l k = true := by unfold nw; rw [hs, decide_eq_true (show rl X.1 R A l k < R.1 by omega)]; rfl
                have hrl : rl X.1 R A l k = r := by
                  unfold dnb at hd
                  rw [hnw, Bool.true_and, decide_eq_false (Nat.lt_irrefl k), Bool.and_false, Bool.or_false] at hd
                  have := of_decide_eq_false hd
                  omega
                refine wp_neg (fun z0 => ?_) ?_
                · have := m6_eq0.mp z0 _ hz
                  have h2 := zl_mk hz
                  rw [h2.1, h2.2] at this
                  exact absurd this (by decide)
                rw [low_eq]
                refine wp_bind (wp_some (wp_bind ?_))
                unfold fX1_enter
                refine wp_neg (nI_pos (by omega)) (wp_pos ((nI_ltI (by omega) (by decide)).mpr hk) ?_)
                refine wp_pos ((inb_N (by omega)).mpr hk) (wp_nm (wp_pos ((inb_N (by omega)).mpr hk) (wp_nm (wp_pos ((inb_N (by omega)).mpr hk) (wp_nm ?_)))))
                rw [nI_clamp (show k < 2 ^ 31 by omega)]
                have hz' : fa_first (fun z => zin R r z && mk X.1 R r (k / 6 % 6) (k % 6) z) 6 < 6 := hz
                rw [if_pos hz']
                generalize hzz : fa_first (fun z => zin R r z && mk X.1 R r (k / 6 % 6) (k % 6) z) 6 = zz at hz'
                have hzz2 : zl X.1 R r (k / 6 % 6) (k % 6) = zz := hzz
                generalize hM3 : kset (kset (kset M2 107 k (nI i)) 108 k (nI r)) 109 k (nI zz) = M3
                have hF3 : FQ cAR M M3 := by rw [← hM3]; exact ((hF2.set (Or.inr (Or.inr (Or.inl rfl)))).set (Or.inr (Or.inr (Or.inr (Or.inl rfl))))).set (Or.inr (Or.inr (Or.inr (Or.inr (Or.inl rfl)))))
                have g107 : ∀ m, M3.1 107 m = if m = k then nI i else M2.1 107 m := fun m => by rw [← hM3, kset_nc (by decide), kset_nc (by decide), kset_c]
                have g108 : ∀ m, M3.1 108 m = if m = k then nI r else M2.1 108 m := fun m => by rw [← hM3, kset_nc (by decide), kset_c, kset_nc (by decide)]
                have g109 : ∀ m, M3.1 109 m = if m = k then nI zz else M2.1 109 m := fun m => by rw [← hM3, kset_c, kset_nc (by decide), kset_nc (by decide)]
                have g110 : M3.1 110 = M2.1 110 := by rw [← hM3, kset_nc (by decide), kset_nc (by decide), kset_nc (by decide)]
                have gL : M3.2 = M2.2 := by rw [← hM3]; rfl
                have gF : ∀ a, ¬ (a = 107 ∨ a = 108 ∨ a = 109) → M3.1 a = M2.1 a := fun a ha => by
                  rw [← hM3, kset_nc (fun z => ha (Or.inr (Or.inr z))), kset_nc (fun z => ha (Or.inr (Or.inl z))), kset_nc (fun z => ha (Or.inl z))]
                have hR3 : RA M3 0 R := hR.fq hF3 (by decide) (by decide) (by decide) (by decide)
                have hKX2 := hM2'.2.2.1
                obtain ⟨D, hD⟩ : ∃ D, D = stpd (dnb X.1 R A l r k) R A l i X := ⟨_, rfl⟩
                rw [← hD] at hKX2
                have hmkz : mk X.1 R r (k / 6 % 6) (k % 6) zz = true := by rw [← hzz2]; exact (zl_mk hz).2
                have hndS : ∀ j, j < 3 → psc R r j = true → X.1 (ndc R r k zz j) = true := fun j hj hp => nd_holds hmkz hj hp
                have hBk := hB k hk
                have hdpD : ∀ m, m < 216 → D.2.2.2.2.1 m ≤ b + 1 := by
                  intro m hm
                  rw [hD]
                  show (if dnb X.1 R A l r k m then dpn R X.2.2.2.2.1 (nwr X R A l m) m (nwz X R A l m) else X.2.2.2.2.1 m) ≤ b + 1
                  cases hdm : dnb X.1 R A l r k m
                  · rw [if_neg Bool.false_ne_true]
                    have := (hB m hm).2.2.1
                    omega
                  · rw [if_pos rfl]
                    have hnwm : nw X.1 R A l m = true := by unfold dnb at hdm; simp only [Bool.and_eq_true] at hdm; exact hdm.1
                    have h3 := nw_lay hnwm
                    have hjj : ∀ j, j < 3 → dpj R X.2.2.2.2.1 (nwr X R A l m) m (nwz X R A l m) j ≤ b + 1 := fun j hj => by
                      unfold dpj
                      cases hp : psc R (nwr X R A l m) j
                      · rw [if_neg Bool.false_ne_true]; omega
                      · rw [if_pos rfl]
                        have := (hB _ (ndc_lt (hO _ h3.2.1) hm h3.2.2.2 hj)).2.2.1
                        unfold nwr nwz nwr
                        omega
                    have j0 := hjj 0 (by decide)
                    have j1 := hjj 1 (by decide)
                    have j2 := hjj 2 (by decide)
                    unfold dpn
                    omega
                have hDk : D.2.2.2.2.1 k = 0 ∧ ∀ m, m < 216 → D.2.2.2.2.2 k m = (m == k) := by
                  rw [hD]
                  show (if dnb X.1 R A l r k k then _ else X.2.2.2.2.1 k) = 0 ∧ ∀ m, m < 216 → (if dnb X.1 R A l r k k then _ else X.2.2.2.2.2 k m) = (m == k)
                  rw [hd, if_neg Bool.false_ne_true]
                  refine ⟨(hBk.2.2.2 hs).1, fun m hm => ?_⟩
                  rw [if_neg Bool.false_ne_true]
                  exact (hBk.2.2.2 hs).2 m hm
                have h133 : FA M3 13 (dnb X.1 R A l r k) := hM2'.2.1.keep (gF _ (by decide)) (gF _ (by decide))
                refine wp_bind (wp_mono (put_wp h133 hk) ?_)
                intro M4 ⟨p1, p2⟩
                refine wp_some ?_
                have g107 : ∀ m, M4.1 107 m = if m = k then nI i else M2.1 107 m := fun m => by rw [p2.1 107 (by decide)]; exact g107 m
                have g108 : ∀ m, M4.1 108 m = if m = k then nI r else M2.1 108 m := fun m => by rw [p2.1 108 (by decide)]; exact g108 m
                have g109 : ∀ m, M4.1 109 m = if m = k then nI zz else M2.1 109 m := fun m => by rw [p2.1 109 (by decide)]; exact g109 m
                have g110 : M4.1 110 = M2.1 110 := (p2.1 110 (by decide)).trans g110
                have gL : M4.2 = M2.2 := p2.2.trans gL
                have hR4 : RB M4 0 R.1 R := hR3.2.fq p2.q (by decide) (by decide) (by decide)
                refine wp_bind (wp_mono (rest_wp (b := b + 1) (dp := D.2.2.2.2.1) (cl := D.2.2.2.2.2) hR4 hn10 hO hk hlt hz' (by decide) (by rw [g108, if_pos rfl]) (by rw [g109, if_pos rfl]) (by rw [g110, (hKX2 k hk).2.2.2.1, hDk.1]) (fun m hm hmk => ⟨by rw [g110]; exact (hKX2 m hm).2.2.2.1, fun t ht bb hbb => by rw [gL]; exact (hKX2 m hm).2.2.2.2 t ht bb hbb⟩) (fun t ht bb hbb => by rw [gL]; exact ((hKX2 k hk).2.2.2.2.cong hDk.2) t ht bb hbb) (fun j hj hp z => by have := hndS j hj hp; rw [z, hs] at this; exact absurd this (by decide)) hdpD hb) ?_)
                intro M5 ⟨f1, f2, f3, f4, f5⟩
                have hF5 : FQ cAR M M5 := (hF3.tr (p2.q.wk (fun a h => by rcases h with h | h; exact Or.inl h; exact Or.inr (Or.inl h)))).tr (f5.wk (fun a h => Or.inr (Or.inr (Or.inr (Or.inr (Or.inr h))))))
                refine wp_nm ?_
                rw [li1, nI_add]
                have edn : ∀ m, m < 216 → (dnb X.1 R A l r k m || m == k) = dnb X.1 R A l r (k + 1) m := fun m _ => by
                  rw [dnb_s, hnw, hrl, beq_self_eq_true, Bool.and_true]
                  simp
                refine next M5 true (MID.cong (dn := fun m => dnb X.1 R A l r k m || m == k) ⟨⟨fun _ => ⟨k, hk, by simp⟩, fun _ => rfl⟩, p1.fq f5 (by decide) (by decide), ?_, hF5⟩ edn)
                intro m hm
                have x107 : M5.1 107 = M4.1 107 := f5 107 (by decide)
                have x108 : M5.1 108 = M4.1 108 := f5 108 (by decide)
                have x109 : M5.1 109 = M4.1 109 := f5 109 (by decide)
                rw [x107, x108, x109, g107, g108, g109]
                have er : nwr X R A l k = r := hrl
                have ez : nwz X R A l k = zz := by unfold nwz; rw [er]; exact hzz2
                by_cases e : m = k
                · subst e
                  rw [if_pos rfl, if_pos rfl, if_pos rfl, f1]
                  unfold stpd
                  simp only [beq_self_eq_true, Bool.or_true, if_true]
                  rw [if_pos hi1, if_pos hi1, er, ez]
                  refine ⟨trivial, rfl, rfl, congrArg nI (dpn_cong (fun j hj hp => ?_)), ?_⟩
                  · have hnS := hndS j hj hp
                    rw [hD]
                    show (if dnb X.1 R A l r m (ndc R r m zz j) then _ else X.2.2.2.2.1 (ndc R r m zz j)) = _
                    rw [show dnb X.1 R A l r m (ndc R r m zz j) = false by unfold dnb nw; rw [hnS]; rfl, if_neg Bool.false_ne_true]
                  · intro t ht bb hbb
                    refine (f2.cong (g := cln R X.2.2.2.2.2 r m zz) (fun mm _ => cln_cong (fun j hj hp => ?_))) t ht bb hbb
                    have hnS := hndS j hj hp
                    rw [hD]
                    show (if dnb X.1 R A l r m (ndc R r m zz j) then _ else X.2.2.2.2.2 (ndc R r m zz j) mm) = _
                    rw [show dnb X.1 R A l r m (ndc R r m zz j) = false by unfold dnb nw; rw [hnS]; rfl, if_neg Bool.false_ne_true]
                · have hst := stpd_k (R := R) (A := A) (l := l) (X := X) (dn := dnb X.1 R A l r k) (i := i) (k := k) m e
                  have hold := hKX2 m hm
                  rw [hD] at hold
                  rw [if_neg e, if_neg e, if_neg e, f3 m e, g110, (hst 0).1, (hst 0).2.1, (hst 0).2.2.1, (hst 0).2.2.2.1]
                  refine ⟨hold.1, hold.2.1, hold.2.2.1, hold.2.2.2.1, fun t ht bb hbb => ?_⟩
                  rw [f4 _ (by omega), gL]
                  exact (hold.2.2.2.2.cong (fun mm _ => ((hst mm).2.2.2.2).symm)) t ht bb hbb
              · refine wp_pos ?_ (same (Or.inl ?_))
                · refine m6_eq0.mpr (fun z hz6 => ?_)
                  exact fa_first_no (fun z => zin R r z && mk X.1 R r (k / 6 % 6) (k % 6) z) 6 z (by unfold zl at hz; omega)
                · cases hnw : nw X.1 R A l k
                  · rfl
                  · rw [Bool.true_and]
                    refine beq_eq_false_iff_ne.mpr (fun e => ?_)
                    have := (nw_lay hnw).2.2.2
                    rw [e] at this
                    exact hz this
            · exact wp_neg (show ¬ bI true = 0 by decide) (same (Or.inr hd))
          · refine wp_neg (show ¬ bI true = 0 by decide) (same (Or.inl ?_))
            unfold nw
            rw [hs]
            rfl
        · have : q = 36 := by omega
          subst this
          refine wp_pos (nI_le (Nat.le_refl _) (by decide)) ?_
          unfold fX1_addRound_X42
          refine wp_nm ?_
          rw [li1, nI_add]
          exact hrec _ hlt ⟨b2, rfl, rfl, hM2'.cong (fun k _ => dnb_36 r k)⟩
      · refine wp_neg (fun z => hll ((nI_eq (by omega) (by omega)).mp z)) (wp_nm ?_)
        rw [li1, nI_add]
        exact hrec _ hlt ⟨b', rfl, rfl, hM1.cong (fun k _ => (dn0_no hll k).symm)⟩
    · have : r = R.1 := by omega
      subst this
      refine wp_pos (nI_le (Nat.le_refl _) (by omega)) ?_
      unfold fX1_addRound_X6
      refine wp_pos (bI_B b') (wp_some ⟨b', rfl, hM1.cong (fun k _ => ?_)⟩)
      unfold dn0
      cases hn : nw X.1 R A l k
      · rfl
      · rw [decide_eq_true (nw_lay hn).2.1]; rfl
  · refine hK.cong (fun k _ => ?_)
    unfold stpd
    simp only [show dn0 X.1 R A l 0 k = false by unfold dn0; rw [decide_eq_false (Nat.not_lt_zero _), Bool.and_false], Bool.false_eq_true, if_false]
    exact ⟨trivial, trivial, trivial, trivial, fun _ _ => trivial⟩
end KAD
