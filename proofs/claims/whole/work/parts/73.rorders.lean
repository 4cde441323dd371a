/-! ===== texts: the reference reads rules, orders, all of them ===== -/
section ROS
variable {t : Nat → Nat} {ln : Nat} {N : KS}
/-- an order that the reference has written down -/
def NOr (N : KS) (k : Nat) (o : ORD) : Prop := N.1 20 (5 * k) = nI o.1 ∧ N.1 20 (5 * k + 1) = nI o.2.1 ∧ (o.1 = 43 ∨ o.1 = 45 → N.1 20 (5 * k + 2) = nI o.2.2.1 ∧ N.1 20 (5 * k + 3) = nI o.2.2.2.1) ∧ (o.1 = 114 → ∀ j, j < 3 → N.1 20 (5 * k + 2 + j) = o.2.2.2.2 j)
def RFR (k : Nat) (N N' : KS) : Prop := (∀ a, a ≠ 0 → a ≠ 20 → N'.1 a = N.1 a) ∧ (∀ j, j ≠ 27 → j ≠ 28 → j ≠ 31 → N'.1 0 j = N.1 0 j) ∧ ∀ q, q < 5 * k → N'.1 20 q = N.1 20 q
theorem RFR.rf {k : Nat} : RFR k N N := ⟨fun _ _ _ => rfl, fun _ _ _ _ => rfl, fun _ _ => rfl⟩
theorem RFR.tr {k : Nat} {N1 N2 : KS} (h : RFR k N N1) (g : RFR k N1 N2) : RFR k N N2 := ⟨fun a h0 h1 => (g.1 a h0 h1).trans (h.1 a h0 h1), fun j h1 h2 h3 => (g.2.1 j h1 h2 h3).trans (h.2.1 j h1 h2 h3), fun q hq => (g.2.2 q hq).trans (h.2.2 q hq)⟩
theorem SGF.r {k : Nat} {N1 : KS} (h : SGF N N1) : RFR k N N1 := ⟨fun a h0 _ => h.1 a h0, fun j h1 h2 _ => h.2 j h1 h2, fun q _ => by rw [h.1 20 (by decide)]⟩
theorem RFR.s20 {k j : Nat} {v : Int32} {N1 : KS} (h : RFR k N N1) (hj : 5 * k ≤ j) : RFR k N (kset N1 20 j v) := ⟨fun a h0 h1 => by rw [kset_nc h1]; exact h.1 a h0 h1, fun q h1 h2 h3 => by rw [kset_nc (by decide)]; exact h.2.1 q h1 h2 h3, fun q hq => by rw [kset_c, if_neg (by omega)]; exact h.2.2 q hq⟩
/-- behind an order -/
def RPE (t : Nat → Nat) (ln k : Nat) (x : PR ORD) (N' : KS) : Prop := (x.2 = none ∧ QN t ln N' x.1 true) ∨ ∃ o, x.2 = some o ∧ ((QN t ln N' x.1 false ∧ N'.1 0 31 = nI (k + 1) ∧ NOr N' k o) ∨ (QN t ln N' x.1 true ∧ x.1 < ln ∧ t x.1 ≠ 59))
def RPO (t : Nat → Nat) (ln k : Nat) (N : KS) (x : PR ORD) (N' : KS) : Prop := RFR k N N' ∧ RPE t ln k x N'
theorem rz_stop {a i p : Nat} {c : Int32} (h : rz t ln a (i + 1) = (p, some c)) (hs : stc t ln p = false) : ∀ j, rz t ln a (i + 1 + (j + 1)) = (p, some 0)
  | 0 => by
    show pb (rz t ln a (i + 1)) (if i + 1 = 0 then pCond t ln else pCondO t ln) = _
    rw [if_neg (by omega), pb_s h]
    unfold pCondO
    rw [hs, if_neg (by decide)]
  | j + 1 => by
    show pb (rz t ln a (i + 1 + (j + 1))) (if i + 1 + (j + 1) = 0 then pCond t ln else pCondO t ln) = _
    rw [if_neg (by omega), pb_s (rz_stop h hs j)]
    unfold pCondO
    rw [hs, if_neg (by decide)]
theorem rz_le {a : Nat} (ha : a ≤ ln) : ∀ i, (rz t ln a i).1 ≤ ln
  | 0 => by
    show (pr2 t ln a).1 ≤ ln
    exact pb_le (pS_le ha) (fun p hp => pS_le hp)
  | i + 1 => by
    refine pb_le (rz_le ha i) (fun p hp => ?_)
    by_cases q : i = 0
    · rw [if_pos q]; exact (pCond_b hp).2
    · rw [if_neg q]; exact (pCondO_b hp).2
/-- behind the first condition of a rule -/
theorem rtail_wp {a k v3 : Nat} (ha : a ≤ ln) (h60 : ln ≤ 60) (ht : ∀ j, j < ln → t j < 65536) (hk : k < 60) {N0 N23 : KS} {hd : Nat} (hF : RFR k N0 N23) (hq : QX t ln N23 (rz t ln a 1)) (h0 : N23.1 20 (5 * k) = nI 114) (h1 : ∀ d, (pr1 t ln a).2 = some d → N23.1 20 (5 * k + 1) = nI d) (h2 : ∀ c, (rz t ln a 1).2 = some c → N23.1 20 (5 * k + 2) = c) (h3 : N23.1 20 (5 * k + 3) = 0) (h4 : N23.1 20 (5 * k + 4) = 0) (h31 : N23.1 0 31 = nI (k + 1)) : wp (lp (fX10_readOrder_L181 (nI (5 * k))) fX10_readOrder_X181 1000000 (3, N23)) (RPO t ln k N0 (pRule t ln a)) := by
  -- the end, where nothing is wrong
  have good : ∀ (N' : KS) (p : Nat) (c : Int32), RFR k N0 N' → QN t ln N' p false → rz t ln a 3 = (p, some c) → N'.1 0 31 = nI (k + 1) → N'.1 20 (5 * k) = nI 114 → (∀ d, (pr1 t ln a).2 = some d → N'.1 20 (5 * k + 1) = nI d) → (∀ j, j < 3 → N'.1 20 (5 * k + 2 + j) = (rz t ln a (j + 1)).2.getD 0) → RPO t ln k N0 (pRule t ln a) N' := by
    intro N' p c hF' hq' hz h31' h0' h1' hcs
    rw [rz_3] at hz
    obtain ⟨x4, e4⟩ := pb_some (x := pr4 t ln a) (f := pCondO t ln) (v := c) (by show (pr5 t ln a).2 = some c; rw [hz])
    obtain ⟨x3, e3⟩ := pb_some (x := pr3 t ln a) e4
    obtain ⟨x2, e2⟩ := pb_some (x := pr2 t ln a) e3
    obtain ⟨x1, e1⟩ := pb_some (x := pr1 t ln a) e2
    refine ⟨hF', Or.inr ⟨(114, x1, 0, 0, c3 ((pr3 t ln a).2.getD 0) ((pr4 t ln a).2.getD 0) c), ?_, Or.inl ⟨?_, h31', h0', h1' x1 e1, fun z => ?_, fun _ j hj => ?_⟩⟩⟩
    · show (pr5 t ln a).2.map _ = _
      rw [hz, e1]; rfl
    · show QN t ln N' (pr5 t ln a).1 false
      rw [hz]; exact hq'
    · have z' : (114 : Nat) = 43 ∨ (114 : Nat) = 45 := z
      omega
    · show N'.1 20 (5 * k + 2 + j) = c3 ((pr3 t ln a).2.getD 0) ((pr4 t ln a).2.getD 0) c j
      rw [hcs j hj]
      rcases (show j = 0 ∨ j = 1 ∨ j = 2 by omega) with rfl | rfl | rfl
      · rw [rz_1]; rfl
      · rw [rz_2]; rfl
      · rw [rz_3, hz]; rfl
  have wrong : ∀ (N' : KS) (p : Nat), RFR k N0 N' → QN t ln N' p true → rz t ln a 3 = (p, none) → RPO t ln k N0 (pRule t ln a) N' := by
    intro N' p hF' hq' hz
    rw [rz_3] at hz
    refine ⟨hF', Or.inl ⟨?_, ?_⟩⟩
    · show (pr5 t ln a).2.map _ = none
      rw [hz]; rfl
    · show QN t ln N' (pr5 t ln a).1 true
      rw [hz]; exact hq'
  have odd : ∀ (N' : KS) (p : Nat) (c : Int32), RFR k N0 N' → QN t ln N' p true → rz t ln a 3 = (p, some c) → p < ln → t p ≠ 59 → RPO t ln k N0 (pRule t ln a) N' := by
    intro N' p c hF' hq' hz hlt hne
    rw [rz_3] at hz
    refine ⟨hF', Or.inr ⟨(114, (pr1 t ln a).2.getD 0, 0, 0, c3 ((pr3 t ln a).2.getD 0) ((pr4 t ln a).2.getD 0) c), ?_, Or.inr ⟨?_, ?_, ?_⟩⟩⟩
    · show (pr5 t ln a).2.map _ = _
      rw [hz]; rfl
    · show QN t ln N' (pr5 t ln a).1 true
      rw [hz]; exact hq'
    · show (pr5 t ln a).1 < ln
      rw [hz]; exact hlt
    · show t (pr5 t ln a).1 ≠ 59
      rw [hz]; exact hne
  refine wp_for 5 (fun (i : Nat) (s : Int32 × KS) => s.1 = nI i ∧ 3 ≤ i ∧ RFR k N0 s.2 ∧ ((QX t ln s.2 (rz t ln a (i - 2)) ∧ s.2.1 20 (5 * k) = nI 114 ∧ s.2.1 0 31 = nI (k + 1) ∧ (∀ d, (pr1 t ln a).2 = some d → s.2.1 20 (5 * k + 1) = nI d) ∧ (∀ j, j < i - 2 → ∀ c, (rz t ln a (j + 1)).2 = some c → s.2.1 20 (5 * k + 2 + j) = c) ∧ ∀ j, i - 2 ≤ j → j < 3 → s.2.1 20 (5 * k + 2 + j) = 0) ∨ (∃ p c, QN t ln s.2 p true ∧ rz t ln a 3 = (p, some c) ∧ p < ln ∧ t p ≠ 59))) (fun i s rec hi hI hrec => ?_) (by decide) (i := 3) (by decide) ⟨rfl, Nat.le_refl _, hF, Or.inl ⟨hq, h0, h31, h1, fun j hj c hc => ?_, fun j hj hj3 => ?_⟩⟩
  · obtain ⟨v24, N25⟩ := s
    obtain ⟨hv, hi3, hF25, hc⟩ := hI
    have hv : v24 = nI i := hv
    subst hv
    have hF25 : RFR k N0 N25 := hF25
    rw [fX10_readOrder_L181_u]
    have exit_ : ∀ {Q : KS → Prop}, Q N25 → wp (fX10_readOrder_X181 N25) Q := fun hQ => wp_some hQ
    rcases hc with ⟨hq, g0, g31, g1, gc, gz⟩ | ⟨p, c, hq, hz, hlt, hne⟩
    · have hq : QX t ln N25 (rz t ln a (i - 2)) := hq
      have hle := rz_le (t := t) ha (i - 2)
      -- all further places are empty
      have fin : ∀ p c, rz t ln a (i - 2) = (p, some c) → (i < 5 → stc t ln p = false) → RPO t ln k N0 (pRule t ln a) N25 := by
        intro p c hz hst
        have hq' : QN t ln N25 p false := by
          have := hq
          unfold QX at this
          rw [hz] at this
          exact this
        have hall : ∀ j, j < 3 → i - 2 ≤ j → rz t ln a (j + 1) = (p, some 0) := fun j hj hij => by
          have h := rz_stop (i := i - 3) (p := p) (c := c) (by rw [show i - 3 + 1 = i - 2 by omega]; exact hz) (hst (by omega)) (j - (i - 2))
          rw [show i - 3 + 1 + (j - (i - 2) + 1) = j + 1 by omega] at h
          exact h
        obtain ⟨c', hz3⟩ : ∃ c', rz t ln a 3 = (p, some c') := by
          by_cases e : i = 5
          · exact ⟨c, by rw [e] at hz; exact hz⟩
          · exact ⟨0, hall 2 (by decide) (by omega)⟩
        refine good N25 p c' hF25 hq' hz3 g31 g0 g1 (fun j hj => ?_)
        rcases Nat.lt_or_ge j (i - 2) with q | q
        · have hsome : ∃ c1, (rz t ln a (j + 1)).2 = some c1 := by
            have back : ∀ m, ∀ c2, (rz t ln a (j + 1 + m)).2 = some c2 → ∃ c1, (rz t ln a (j + 1)).2 = some c1 := by
              intro m
              induction m with
              | zero => intro c2 h; exact ⟨c2, h⟩
              | succ m ih =>
                intro c2 h
                obtain ⟨u, hu⟩ := pb_some (x := rz t ln a (j + 1 + m)) h
                exact ih u hu
            refine back (i - 2 - (j + 1)) c ?_
            rw [show j + 1 + (i - 2 - (j + 1)) = i - 2 by omega, hz]
          obtain ⟨c1, hc1⟩ := hsome
          rw [gc j q c1 hc1, hc1]; rfl
        · rw [gz j q hj, hall j hj q]; rfl
      rcases Nat.lt_or_ge i 5 with hlt5 | hge5
      · have e1 : (nI i + 1 : Int32) = nI (i + 1) := by rw [li1, nI_add]
        have ei : (nI (5 * k) + nI i : Int32) = nI (5 * k + i) := nI_add _ _
        have ci : (nI (5 * k + i)).toNatClampNeg = 5 * k + i := nI_clamp (by omega)
        refine wp_neg (nI_ge hlt5 (by decide)) ?_
        rcases pr_eta (rz t ln a (i - 2)) with ⟨c, hz⟩ | hz
        · obtain ⟨p, hp⟩ : ∃ p, p = (rz t ln a (i - 2)).1 := ⟨_, rfl⟩
          rw [← hp] at hz hle
          have hq' : QN t ln N25 p false := by
            have := hq
            unfold QX at this
            rw [hz] at this
            exact this
          rw [show (33 : Int32) = nI 33 from rfl, show (48 : Int32) = nI 48 from rfl, show (57 : Int32) = nI 57 from rfl, rhere_eq hq' hle h60 ht (by decide) (by decide), rhere_eq hq' hle h60 ht (by decide) (by decide)]
          have es : rz t ln a (i - 1) = pCondO t ln p := by
            have : rz t ln a (i - 3 + 1 + 1) = pb (rz t ln a (i - 3 + 1)) (if i - 3 + 1 = 0 then pCond t ln else pCondO t ln) := rfl
            rw [show i - 3 + 1 + 1 = i - 1 by omega, show i - 3 + 1 = i - 2 by omega, if_neg (by omega), pb_s hz] at this
            exact this
          have J : (stc t ln p = true ∨ (p < ln ∧ 54 ≤ t p ∧ t p ≤ 57)) → wp (fX10_readOrder_J209_195 (nI (5 * k)) (nI i) N25 rec ()) (RPO t ln k N0 (pRule t ln a)) := by
            intro hJ
            unfold fX10_readOrder_J209_195
            refine wp_bd2 (wp_mono (rcond_q (x := ((p, some ()) : PR Unit)) hq' hle h60 ht) ?_)
            rintro ⟨v29, N28⟩ ⟨f28, q28, g28⟩
            have f28 : SGF N25 N28 := f28
            have q28 : QX t ln N28 (pCond t ln p) := q28
            have g28 : ∀ c, (pCond t ln p).2 = some c → v29 = c := g28
            rw [ei, e1]
            refine wp_pos ((inb_N (by omega)).mpr (by omega)) (wp_nm (wp_nm ?_))
            rw [ci]
            have e20 : ∀ q, N28.1 20 q = N25.1 20 q := fun q => by rw [f28.1 20 (by decide)]
            have hF30 : RFR k N0 (kset N28 20 (5 * k + i) v29) := (hF25.tr f28.r).s20 (by omega)
            refine hrec _ hlt5 ⟨rfl, by omega, hF30, ?_⟩
            rcases hJ with hs | hodd
            · unfold pCondO at es
              rw [hs, if_pos rfl] at es
              refine Or.inl ⟨?_, ?_, ?_, fun d hd => ?_, fun j hj c hc => ?_, fun j hj hj3 => ?_⟩
              · show QX t ln (kset N28 20 (5 * k + i) v29) (rz t ln a (i + 1 - 2))
                rw [show i + 1 - 2 = i - 1 by omega, es]
                exact QN.s20 q28
              · show (kset N28 20 (5 * k + i) v29).1 20 (5 * k) = _
                rw [kset_c, if_neg (by omega), e20]; exact g0
              · show (kset N28 20 (5 * k + i) v29).1 0 31 = _
                rw [kset_nc (by decide), f28.2 31 (by decide) (by decide)]; exact g31
              · show (kset N28 20 (5 * k + i) v29).1 20 (5 * k + 1) = _
                rw [kset_c, if_neg (by omega), e20]; exact g1 d hd
              · show (kset N28 20 (5 * k + i) v29).1 20 (5 * k + 2 + j) = _
                rw [kset_c]
                by_cases q : j = i - 2
                · rw [if_pos (by omega)]
                  rw [q, show i - 2 + 1 = i - 1 by omega, es] at hc
                  exact g28 c hc
                · rw [if_neg (by omega), e20]
                  exact gc j (by omega) c hc
              · show (kset N28 20 (5 * k + i) v29).1 20 (5 * k + 2 + j) = _
                rw [kset_c, if_neg (by omega), e20]
                exact gz j (by omega) hj3
            · have hs : stc t ln p = false := decide_eq_false (fun z => by omega)
              have hpc : pCond t ln p = (p, none) := by
                have hN : isN t ln p = false := decide_eq_false (fun z => by omega)
                have h0 : pe0 t ln p = p := by unfold pe0; rw [hN, if_neg (by decide)]
                have h1 : pe1 t ln p = (p, none) := by
                  unfold pe1
                  rw [h0]
                  rcases pS_c (t := t) (ln := ln) 48 6 p with ⟨d, d1, d2, d3, d4⟩ | ⟨d1, d2⟩
                  · omega
                  · exact d2
                have h2 : pe2 t ln p = (p, none) := pb_n h1
                have h3 : pe3 t ln p = (p, none) := pb_n h2
                unfold pCond
                rw [h3]; rfl
              rw [hpc] at q28
              have hz3 : rz t ln a 3 = (p, some 0) := by
                have h := rz_stop (i := i - 3) (p := p) (c := c) (by rw [show i - 3 + 1 = i - 2 by omega]; exact hz) hs (4 - i)
                rw [show i - 3 + 1 + (4 - i + 1) = 3 by omega] at h
                exact h
              exact Or.inr ⟨p, 0, QN.s20 q28, hz3, hodd.1, by omega⟩
          refine wp_bind (wp_some (wp_jn ?_))
          by_cases q33 : p < ln ∧ t p = 33
          · rw [decide_eq_true (show p < ln ∧ 33 ≤ t p ∧ t p ≤ 33 by omega)]
            exact wp_neg nb1 (J (Or.inl (decide_eq_true ⟨q33.1, Or.inl q33.2⟩)))
          · rw [decide_eq_false (show ¬ (p < ln ∧ 33 ≤ t p ∧ t p ≤ 33) by omega)]
            refine wp_pos rfl (wp_bind (wp_some ?_))
            by_cases q48 : p < ln ∧ 48 ≤ t p ∧ t p ≤ 57
            · rw [decide_eq_true q48]
              refine wp_neg nb1 (J ?_)
              rcases Nat.lt_or_ge (t p) 54 with z | z
              · exact Or.inl (decide_eq_true ⟨q48.1, Or.inr ⟨q48.2.1, z⟩⟩)
              · exact Or.inr ⟨q48.1, z, q48.2.2⟩
            · rw [decide_eq_false q48]
              refine wp_pos rfl (exit_ (fin p c hz (fun _ => decide_eq_false (fun z => ?_))))
              rcases z.2 with z2 | z2
              · exact q33 ⟨z.1, z2⟩
              · exact q48 ⟨z.1, z2.1, by omega⟩
        · obtain ⟨p, hp⟩ : ∃ p, p = (rz t ln a (i - 2)).1 := ⟨_, rfl⟩
          rw [← hp] at hz hle
          have hq' : QN t ln N25 p true := by
            have := hq
            unfold QX at this
            rw [hz] at this
            exact this
          rw [show (33 : Int32) = nI 33 from rfl, show (48 : Int32) = nI 48 from rfl, show (57 : Int32) = nI 57 from rfl, rhere_eq hq' hle h60 ht (by decide) (by decide), rhere_eq hq' hle h60 ht (by decide) (by decide)]
          refine wp_bind (wp_some (wp_jn (wp_pos rfl (wp_bind (wp_some (wp_pos rfl (exit_ ?_)))))))
          have h := rz_none hz (5 - i)
          rw [show i - 2 + (5 - i) = 3 by omega] at h
          exact wrong N25 p hF25 hq' h
      · have hi5 : i = 5 := by omega
        subst hi5
        refine wp_pos (nI_le (Nat.le_refl _) (by decide)) (exit_ ?_)
        rcases pr_eta (rz t ln a 3) with ⟨c, hz⟩ | hz
        · exact fin _ c hz (fun z => by omega)
        · refine wrong N25 _ hF25 ?_ hz
          have := hq
          unfold QX at this
          rw [show 5 - 2 = 3 from rfl, hz] at this
          exact this
    · have hq : QN t ln N25 p true := hq
      have fin := odd N25 p c hF25 hq hz hlt hne
      rcases Nat.lt_or_ge i 5 with hlt5 | hge5
      · rw [show (33 : Int32) = nI 33 from rfl, show (48 : Int32) = nI 48 from rfl, show (57 : Int32) = nI 57 from rfl, rhere_eq hq (by omega) h60 ht (by decide) (by decide), rhere_eq hq (by omega) h60 ht (by decide) (by decide)]
        exact wp_neg (nI_ge hlt5 (by decide)) (wp_bind (wp_some (wp_jn (wp_pos rfl (wp_bind (wp_some (wp_pos rfl (exit_ fin))))))))
      · exact wp_pos (nI_le hge5 (by omega)) (exit_ fin)
  · have hj0 : j = 0 := by omega
    subst hj0
    exact h2 c hc
  · rcases (show j = 1 ∨ j = 2 by omega) with rfl | rfl
    · exact h3
    · exact h4
theorem rpord_wp {a k : Nat} (h : QN t ln N a false) (ha : a ≤ ln) (h60 : ln ≤ 60) (ht : ∀ j, j < ln → t j < 65536) (hk : k < 59) (h31 : N.1 0 31 = nI k) : wp (fX10_readOrder N) (RPO t ln k N (pOrd t ln a)) := by
  unfold fX10_readOrder
  refine wp_pos (by rw [h.2.2.1]; rfl) (wp_jn ?_)
  rw [h.1, h.2.1]
  -- the sign that is read
  have none_ : ∀ v1 : Int32, ¬ v1 = 43 → ¬ v1 = 45 → ¬ v1 = 114 → ¬ v1 = 100 → pOrd t ln a = (a, none) → wp (fX10_readOrder_J32_16 N v1) (RPO t ln k N (pOrd t ln a)) := by
    intro v1 q1 q2 q3 q4 e
    unfold fX10_readOrder_J32_16
    refine wp_jn (wp_neg q1 (wp_neg q2 (wp_neg q3 (wp_neg q4 (wp_nm (wp_some ⟨⟨fun b h0 _ => kset_nc h0, fun j _ h2 _ => by rw [kset_c, if_neg h2], fun q _ => by rw [kset_nc (by decide)]⟩, Or.inl ⟨by rw [e], ?_⟩⟩))))))
    rw [e]
    exact ⟨by rw [kset_c, if_neg (by decide)]; exact h.1, by rw [kset_c, if_neg (by decide)]; exact h.2.1, by rw [kset_c, if_pos rfl]; rfl, fun q hq => by rw [kset_nc (by decide)]; exact h.2.2.2 q hq⟩
  rcases Nat.lt_or_ge a ln with hlt | hge
  · have ca : N.1 19 (nI a).toNatClampNeg = nI (t a) := by rw [nI_clamp (by omega)]; exact h.2.2.2 a hlt
    have hta := ht a hlt
    refine wp_neg (nI_ge hlt (by omega)) (wp_pos ((inb_N (by omega)).mpr (by omega)) ?_)
    rw [ca]
    -- a sign that begins an order
    have go : ∀ kd, (kd = 43 ∨ kd = 45 ∨ kd = 114 ∨ kd = 100) → pOrd t ln a = (if kd = 114 then pRule t ln (a + 1) else if kd = 100 then pDrop t ln (a + 1) else pFact t ln kd (a + 1)) → wp (fX10_readOrder_J63_36 N (nI kd) ()) (RPO t ln k N (pOrd t ln a)) := by
      intro kd hkd ep
      unfold fX10_readOrder_J63_36
      rw [h.2.1, show (nI a + 1 : Int32) = nI (a + 1) by rw [li1, nI_add]]
      have e31 : (kset N 0 27 (nI (a + 1))).1 0 31 = nI k := by rw [kset_c, if_neg (by decide)]; exact h31
      refine wp_nm ?_
      rw [e31, show (5 : Int32) * nI k = nI (5 * k) by rw [li5, pk_mul]]
      refine wp_nm (wp_pos ((inb_N (by omega)).mpr (by omega)) (wp_nm ?_))
      rw [nI_clamp (show 5 * k < 2 ^ 31 by omega), kset_nc (show (0 : Nat) ≠ 20 by decide), e31, show (nI k + 1 : Int32) = nI (k + 1) by rw [li1, nI_add]]
      refine wp_nm (wp_jn ?_)
      obtain ⟨N5, h5⟩ : ∃ N5, N5 = kset (kset (kset N 0 27 (nI (a + 1))) 20 (5 * k) (nI kd)) 0 31 (nI (k + 1)) := ⟨_, rfl⟩
      rw [← h5]
      have q5 : QX t ln N5 ((a + 1, some ()) : PR Unit) := ⟨by rw [h5, kset_c, if_neg (by decide), kset_nc (by decide), kset_c, if_neg (by decide)]; exact h.1, by rw [h5, kset_c, if_neg (by decide), kset_nc (by decide), kset_c, if_pos rfl], by rw [h5, kset_c, if_neg (by decide), kset_nc (by decide), kset_c, if_neg (by decide)]; exact h.2.2.1, fun q hq => by rw [h5, kset_nc (by decide), kset_nc (by decide), kset_nc (by decide)]; exact h.2.2.2 q hq⟩
      have f5 : RFR k N N5 := ⟨fun b h0 h1 => by rw [h5, kset_nc h0, kset_nc h1, kset_nc h0], fun j h1 h2 h3 => by rw [h5, kset_c, if_neg h3, kset_nc (by decide), kset_c, if_neg h1], fun q hq => by rw [h5, kset_nc (by decide), kset_c, if_neg (by omega), kset_nc (by decide)]⟩
      have z5 : N5.1 20 (5 * k) = nI kd := by rw [h5, kset_nc (by decide), kset_c, if_pos rfl]
      have o5 : N5.1 0 31 = nI (k + 1) := by rw [h5, kset_c, if_pos rfl]
      have la : a + 1 ≤ ln := hlt
      -- the number behind it
      have num : ∀ n : Nat, ((kd = 100 ∧ n = 10) ∨ (kd ≠ 100 ∧ n = 6)) → wp (fX10_readOrder_J120_110 (nI kd) (nI (5 * k)) N5 (nI (47 + n))) (RPO t ln k N (pOrd t ln a)) := by
        intro n hn
        unfold fX10_readOrder_J120_110
        refine wp_bd2 (wp_mono (sign_q (lo := 48) (hi := 47 + n) (n := n) q5 la h60 ht (by decide) (by omega) (by omega)) ?_)
        rintro ⟨v8, N7⟩ ⟨f7, q7, g7⟩
        have f7 : SGF N5 N7 := f7
        have q7 : QX t ln N7 (pS t ln 48 n (a + 1)) := q7
        have g7 : ∀ d, (pS t ln 48 n (a + 1)).2 = some d → v8 = nI d := g7
        have ad : ∀ j, (nI (5 * k) + nI j : Int32) = nI (5 * k + j) := fun j => nI_add _ _
        have cl : ∀ j, j < 5 → (nI (5 * k + j)).toNatClampNeg = 5 * k + j := fun j hj => nI_clamp (by omega)
        have ib : ∀ j, j < 5 → inb (nI (5 * k + j)) 300 := fun j hj => (inb_N (by omega)).mpr (by omega)
        rw [show (nI (5 * k) + 1 : Int32) = nI (5 * k + 1) from ad 1, show (nI (5 * k) + 2 : Int32) = nI (5 * k + 2) from ad 2, show (nI (5 * k) + 3 : Int32) = nI (5 * k + 3) from ad 3, show (nI (5 * k) + 4 : Int32) = nI (5 * k + 4) from ad 4]
        refine wp_pos (ib 1 (by decide)) (wp_nm (wp_pos (ib 2 (by decide)) (wp_nm (wp_pos (ib 3 (by decide)) (wp_nm (wp_pos (ib 4 (by decide)) (wp_nm ?_)))))))
        simp only [cl 1 (by decide), cl 2 (by decide), cl 3 (by decide), cl 4 (by decide)]
        obtain ⟨N12, h12⟩ : ∃ N12, N12 = kset (kset (kset (kset N7 20 (5 * k + 1) v8) 20 (5 * k + 2) 0) 20 (5 * k + 3) 0) 20 (5 * k + 4) 0 := ⟨_, rfl⟩
        rw [← h12]
        have q12 : QX t ln N12 (pS t ln 48 n (a + 1)) := by rw [h12]; exact QN.s20 (QN.s20 (QN.s20 (QN.s20 q7)))
        have f12 : RFR k N N12 := by rw [h12]; exact (((((f5.tr f7.r).s20 (by omega)).s20 (by omega)).s20 (by omega)).s20 (by omega))
        have e12 : ∀ q, N12.1 20 q = if q = 5 * k + 4 then 0 else if q = 5 * k + 3 then 0 else if q = 5 * k + 2 then 0 else if q = 5 * k + 1 then v8 else N5.1 20 q := fun q => by rw [h12, kset_c, kset_c, kset_c, kset_c, f7.1 20 (by decide)]
        have o12 : N12.1 0 31 = nI (k + 1) := by rw [h12, kset_nc (by decide), kset_nc (by decide), kset_nc (by decide), kset_nc (by decide), f7.2 31 (by decide) (by decide)]; exact o5
        have z12 : N12.1 20 (5 * k) = nI kd := by rw [e12, if_neg (by omega), if_neg (by omega), if_neg (by omega), if_neg (by omega)]; exact z5
        have v12 : N12.1 20 (5 * k + 1) = v8 := by rw [e12, if_neg (by omega), if_neg (by omega), if_neg (by omega), if_pos rfl]
        have w12 : ∀ j, 2 ≤ j → j < 5 → N12.1 20 (5 * k + j) = 0 := fun j h2 h5 => by
          rw [e12]
          rcases (show j = 2 ∨ j = 3 ∨ j = 4 by omega) with rfl | rfl | rfl
          · rw [if_neg (by omega), if_neg (by omega), if_pos rfl]
          · rw [if_neg (by omega), if_pos rfl]
          · rw [if_pos rfl]
        have l12 : (pS t ln 48 n (a + 1)).1 ≤ ln := pS_le la
        by_cases k114 : kd = 114
        · have hn6 : n = 6 := by omega
          subst k114; subst hn6
          rw [if_pos rfl] at ep
          rw [ep]
          refine wp_pos rfl (wp_bd2 (wp_mono (sign_q (lo := 61) (hi := 61) (n := 1) q12 l12 h60 ht (by decide) (by decide) rfl) ?_))
          rintro ⟨v20, N19⟩ ⟨f19, q19, _⟩
          have f19 : SGF N12 N19 := f19
          have q19 : QX t ln N19 (pr2 t ln (a + 1)) := q19
          have l19 : (pr2 t ln (a + 1)).1 ≤ ln := pb_le l12 (fun p hp => pS_le hp)
          refine wp_bd2 (wp_mono (rcond_q q19 l19 h60 ht) ?_)
          rintro ⟨v22, N21⟩ ⟨f21, q21, g21⟩
          have f21 : SGF N19 N21 := f21
          have q21 : QX t ln N21 (pr3 t ln (a + 1)) := q21
          have g21 : ∀ c, (pr3 t ln (a + 1)).2 = some c → v22 = c := g21
          have f1921 := f19.tr f21
          refine wp_pos (ib 2 (by decide)) (wp_nm ?_)
          have e23 : ∀ q, (kset N21 20 (5 * k + 2) v22).1 20 q = if q = 5 * k + 2 then v22 else N12.1 20 q := fun q => by rw [kset_c, f1921.1 20 (by decide)]
          refine rtail_wp (v3 := 0) (hd := 0) la h60 ht (by omega) ((f12.tr f1921.r).s20 (by omega)) (by rw [rz_1]; exact QN.s20 q21) (by rw [e23, if_neg (by omega)]; exact z12) (fun d hd => by rw [e23, if_neg (by omega), v12]; exact g7 d hd) (fun c hc => by rw [e23, if_pos rfl]; rw [rz_1] at hc; exact g21 c hc) (by rw [e23, if_neg (by omega)]; exact w12 3 (by decide) (by decide)) (by rw [e23, if_neg (by omega)]; exact w12 4 (by decide) (by decide)) (by rw [kset_nc (by decide), f1921.2 31 (by decide) (by decide)]; exact o12)
        · refine wp_neg (fun z => k114 ((nI_eq (b := 114) (by omega) (by decide)).mp z)) ?_
          rw [if_neg k114] at ep
          by_cases k100 : kd = 100
          · have hn10 : n = 10 := by omega
            subst k100; subst hn10
            rw [if_pos rfl] at ep
            rw [ep]
            refine wp_pos rfl (wp_some ⟨f12, ?_⟩)
            rcases pS_c (t := t) (ln := ln) 48 10 (a + 1) with ⟨d, d1, d2, d3, d4⟩ | ⟨d1, d2⟩
            · rw [d4] at q12 g7
              refine Or.inr ⟨(100, d, 0, 0, fun _ => 0), ?_, Or.inl ⟨?_, o12, z12, ?_, fun z => ?_, fun z => ?_⟩⟩
              · show (pS t ln 48 10 (a + 1)).2.map _ = _
                rw [d4]; rfl
              · show QN t ln N12 (pS t ln 48 10 (a + 1)).1 false
                rw [d4]; exact q12
              · show N12.1 20 (5 * k + 1) = nI d
                rw [v12]; exact g7 d rfl
              · have z' : (100 : Nat) = 43 ∨ (100 : Nat) = 45 := z
                omega
              · have z' : (100 : Nat) = 114 := z
                omega
            · rw [d2] at q12
              refine Or.inl ⟨?_, ?_⟩
              · show (pS t ln 48 10 (a + 1)).2.map _ = none
                rw [d2]; rfl
              · show QN t ln N12 (pS t ln 48 10 (a + 1)).1 true
                rw [d2]; exact q12
          · have hn6 : n = 6 := by omega
            subst hn6
            have hkd2 : kd = 43 ∨ kd = 45 := by omega
            rw [if_neg k100] at ep
            rw [ep]
            refine wp_neg (fun z => k100 ((nI_eq (b := 100) (by omega) (by decide)).mp z)) (wp_bd2 (wp_mono (sign_q (lo := 97) (hi := 102) (n := 6) q12 l12 h60 ht (by decide) (by decide) rfl) ?_))
            rintro ⟨v14, N13⟩ ⟨f13, q13, g13⟩
            have f13 : SGF N12 N13 := f13
            have q13 : QX t ln N13 (pq2 t ln (a + 1)) := q13
            have g13 : ∀ d, (pq2 t ln (a + 1)).2 = some d → v14 = nI d := g13
            have l13 : (pq2 t ln (a + 1)).1 ≤ ln := pb_le l12 (fun p hp => pS_le hp)
            refine wp_pos (ib 2 (by decide)) (wp_nm (wp_bd2 (wp_mono (sign_q (lo := 97) (hi := 102) (n := 6) (x := pq2 t ln (a + 1)) (QN.s20 q13) l13 h60 ht (by decide) (by decide) rfl) ?_)))
            rintro ⟨v17, N16⟩ ⟨f16, q16, g16⟩
            have f16 : SGF (kset N13 20 (5 * k + 2) v14) N16 := f16
            have q16 : QX t ln N16 (pq3 t ln (a + 1)) := q16
            have g16 : ∀ d, (pq3 t ln (a + 1)).2 = some d → v17 = nI d := g16
            refine wp_pos (ib 3 (by decide)) (wp_nm (wp_some ?_))
            have e18 : ∀ q, (kset N16 20 (5 * k + 3) v17).1 20 q = if q = 5 * k + 3 then v17 else if q = 5 * k + 2 then v14 else N12.1 20 q := fun q => by rw [kset_c, f16.1 20 (by decide), kset_c, f13.1 20 (by decide)]
            refine ⟨(((f12.tr f13.r).s20 (by omega)).tr f16.r).s20 (by omega), ?_⟩
            have q18 : QX t ln (kset N16 20 (5 * k + 3) v17) (pq3 t ln (a + 1)) := QN.s20 q16
            rcases pr_eta (pq3 t ln (a + 1)) with ⟨y, e3⟩ | e3
            · have e3' : (pq3 t ln (a + 1)).2 = some y := by rw [e3]
              obtain ⟨x, e2⟩ := pb_some (x := pq2 t ln (a + 1)) e3'
              obtain ⟨r, e1⟩ := pb_some (x := pq1 t ln (a + 1)) e2
              refine Or.inr ⟨(kd, r, x, y, fun _ => 0), ?_, Or.inl ⟨?_, ?_, ?_, ?_, fun _ => ⟨?_, ?_⟩, fun z => ?_⟩⟩
              · show (pq3 t ln (a + 1)).2.map _ = _
                rw [e3', e2, e1]; rfl
              · have := QX.m (f := fun _ => (0 : Nat)) q18
                unfold QX at this q18
                rw [e3'] at q18
                exact q18
              · rw [kset_nc (by decide), f16.2 31 (by decide) (by decide), kset_nc (by decide), f13.2 31 (by decide) (by decide)]; exact o12
              · show (kset N16 20 (5 * k + 3) v17).1 20 (5 * k) = nI kd
                rw [e18, if_neg (by omega), if_neg (by omega)]; exact z12
              · show (kset N16 20 (5 * k + 3) v17).1 20 (5 * k + 1) = nI r
                rw [e18, if_neg (by omega), if_neg (by omega), v12]; exact g7 r e1
              · show (kset N16 20 (5 * k + 3) v17).1 20 (5 * k + 2) = nI x
                rw [e18, if_neg (by omega), if_pos rfl]; exact g13 x e2
              · show (kset N16 20 (5 * k + 3) v17).1 20 (5 * k + 3) = nI y
                rw [e18, if_pos rfl]; exact g16 y e3'
              · have z' : kd = 114 := z
                omega
            · have e3' : (pq3 t ln (a + 1)).2 = none := by rw [e3]
              refine Or.inl ⟨?_, ?_⟩
              · show (pq3 t ln (a + 1)).2.map _ = none
                rw [e3']; rfl
              · unfold QX at q18
                rw [e3'] at q18
                exact q18
      by_cases k100 : kd = 100
      · exact wp_pos (by rw [k100]; rfl) (num 10 (Or.inl ⟨k100, rfl⟩))
      · exact wp_neg (fun z => k100 ((nI_eq (b := 100) (by omega) (by decide)).mp z)) (num 6 (Or.inr ⟨k100, rfl⟩))
    by_cases q1 : t a = 43
    · unfold fX10_readOrder_J32_16
      rw [q1]
      refine wp_jn (wp_pos rfl (go 43 (Or.inl rfl) ?_))
      unfold pOrd
      rw [if_pos ⟨hlt, q1⟩, if_neg (by decide), if_neg (by decide)]
    · by_cases q2 : t a = 45
      · unfold fX10_readOrder_J32_16
        rw [q2]
        refine wp_jn (wp_neg (by decide) (wp_pos rfl (go 45 (Or.inr (Or.inl rfl)) ?_)))
        unfold pOrd
        rw [if_neg (fun z => q1 z.2), if_pos ⟨hlt, q2⟩, if_neg (by decide), if_neg (by decide)]
      · by_cases q3 : t a = 114
        · unfold fX10_readOrder_J32_16
          rw [q3]
          refine wp_jn (wp_neg (by decide) (wp_neg (by decide) (wp_pos rfl (go 114 (Or.inr (Or.inr (Or.inl rfl))) ?_))))
          unfold pOrd
          rw [if_neg (fun z => q1 z.2), if_neg (fun z => q2 z.2), if_pos ⟨hlt, q3⟩, if_pos rfl]
        · by_cases q4 : t a = 100
          · unfold fX10_readOrder_J32_16
            rw [q4]
            refine wp_jn (wp_neg (by decide) (wp_neg (by decide) (wp_neg (by decide) (wp_pos rfl (go 100 (Or.inr (Or.inr (Or.inr rfl))) ?_)))))
            unfold pOrd
            rw [if_neg (fun z => q1 z.2), if_neg (fun z => q2 z.2), if_neg (fun z => q3 z.2), if_pos ⟨hlt, q4⟩, if_neg (by decide), if_pos rfl]
          · have ne : ∀ b, b < 2 ^ 31 → ¬ t a = b → ¬ nI (t a) = nI b := fun b hb hne z => hne ((nI_eq (by omega) hb).mp z)
            refine none_ _ (ne 43 (by decide) q1) (ne 45 (by decide) q2) (ne 114 (by decide) q3) (ne 100 (by decide) q4) ?_
            unfold pOrd
            rw [if_neg (fun z => q1 z.2), if_neg (fun z => q2 z.2), if_neg (fun z => q3 z.2), if_neg (fun z => q4 z.2)]
  · refine wp_pos (nI_le hge (by omega)) (none_ 0 (by decide) (by decide) (by decide) (by decide) ?_)
    unfold pOrd
    rw [if_neg (fun z => by omega), if_neg (fun z => by omega), if_neg (fun z => by omega), if_neg (fun z => by omega)]
end ROS
