/-! ===== texts: the reference reads all orders ===== -/
section RAL
variable {t : Nat → Nat} {ln : Nat} {N : KS}
def RFA (N N' : KS) : Prop := (∀ a, a ≠ 0 → a ≠ 20 → N'.1 a = N.1 a) ∧ ∀ j, j ≠ 27 → j ≠ 28 → j ≠ 31 → N'.1 0 j = N.1 0 j
theorem RFA.tr {N1 N2 : KS} (h : RFA N N1) (g : RFA N1 N2) : RFA N N2 := ⟨fun a h0 h1 => (g.1 a h0 h1).trans (h.1 a h0 h1), fun j h1 h2 h3 => (g.2 j h1 h2 h3).trans (h.2 j h1 h2 h3)⟩
theorem RFR.a {k : Nat} {N1 : KS} (h : RFR k N N1) : RFA N N1 := ⟨h.1, h.2.1⟩
theorem RFA.s0 {j : Nat} {v : Int32} {N1 : KS} (h : RFA N N1) (hj : j = 27 ∨ j = 28 ∨ j = 31) : RFA N (kset N1 0 j v) := ⟨fun a h0 h1 => by rw [kset_nc h0]; exact h.1 a h0 h1, fun q h1 h2 h3 => by rw [kset_c, if_neg (by omega)]; exact h.2 q h1 h2 h3⟩
def NOS (N : KS) (os : List ORD) : Prop := ∀ q, q < os.length → NOr N q (os.getD q dO)
theorem NOr.k {k q : Nat} {N1 : KS} {o : ORD} (h : NOr N q o) (f : ∀ j, j < 5 * k → N1.1 20 j = N.1 20 j) (hq : q < k) : NOr N1 q o := by
  refine ⟨by rw [f _ (by omega)]; exact h.1, by rw [f _ (by omega)]; exact h.2.1, fun z => ?_, fun z j hj => ?_⟩
  · rw [f _ (by omega), f _ (by omega)]; exact h.2.2.1 z
  · rw [f _ (by omega)]; exact h.2.2.2 z j hj
theorem rall_wp {Q : Int32 × KS → Prop} (h26 : N.1 0 26 = nI ln) (h19 : ∀ j, j < ln → N.1 19 j = nI (t j)) (h60 : ln ≤ 60) (ht : ∀ j, j < ln → t j < 65536)
    (hE : ∀ e N8, prs t ln 21 0 = .inl e → e ≤ 60 → N8.1 0 28 = 1 → RFA N N8 → wp (fX10_run_J90_79 N8 (nI e)) Q)
    (hD : ∀ os N8, prs t ln 21 0 = .inr os → N8.1 0 28 = 0 → N8.1 0 31 = nI os.length → NOS N8 os → RFA N N8 → wp (fX10_run_J90_79 N8 (-nI 1)) Q) : wp (fX10_run N) Q := by
  unfold fX10_run
  refine wp_nm (wp_nm (wp_nm ?_))
  obtain ⟨N3, h3⟩ : ∃ N3, N3 = kset (kset (kset N 0 27 0) 0 28 0) 0 31 0 := ⟨_, rfl⟩
  rw [← h3]
  have f3 : RFA N N3 := by
    rw [h3]
    have f0 : RFA N N := ⟨fun _ _ _ => rfl, fun _ _ _ _ => rfl⟩
    exact ((f0.s0 (Or.inl rfl)).s0 (Or.inr (Or.inl rfl))).s0 (Or.inr (Or.inr rfl))
  have q3 : QN t ln N3 0 false := ⟨by rw [h3, kset_c, if_neg (by decide), kset_c, if_neg (by decide), kset_c, if_neg (by decide)]; exact h26, by rw [h3, kset_c, if_neg (by decide), kset_c, if_neg (by decide), kset_c, if_pos rfl]; rfl, by rw [h3, kset_c, if_neg (by decide), kset_c, if_pos rfl]; rfl, fun j hj => by rw [h3, kset_nc (by decide), kset_nc (by decide), kset_nc (by decide)]; exact h19 j hj⟩
  have o3 : N3.1 0 31 = nI 0 := by rw [h3, kset_c, if_pos rfl]; rfl
  -- the end
  have endE : ∀ (N6 : KS) (p : Nat) (w : Bool), QN t ln N6 p w → p ≤ ln → (w = true ∨ p < ln) → prs t ln 21 0 = .inl p → RFA N N6 → wp (fX10_run_X19 N6) Q := by
    intro N6 p w hq hp hw hR hF
    unfold fX10_run_X19
    refine wp_jn ?_
    have J : wp (fX10_run_J71_52 N6 1) Q := by
      unfold fX10_run_J71_52
      refine wp_pos (Or.inr rfl) (wp_nm (wp_jn (wp_neg (by rw [kset_c, if_pos rfl]; decide) ?_)))
      rw [show (kset N6 0 28 1).1 0 27 = nI p by rw [kset_c, if_neg (by decide)]; exact hq.2.1]
      exact hE p _ hR (by omega) (by rw [kset_c, if_pos rfl]) (hF.s0 (Or.inr (Or.inl rfl)))
    rw [hq.2.2.1, hq.1, hq.2.1]
    cases w
    · refine wp_pos rfl (wp_neg ?_ J)
      rcases hw with hw | hw
      · exact absurd hw (by decide)
      · exact nI_ge hw (by omega)
    · exact wp_neg nb1 J
  have endD : ∀ (N6 : KS) (p : Nat) (os : List ORD), QN t ln N6 p false → ln ≤ p → p ≤ ln → prs t ln 21 0 = .inr os → N6.1 0 31 = nI os.length → NOS N6 os → RFA N N6 → wp (fX10_run_X19 N6) Q := by
    intro N6 p os hq hp hp2 hR h31 hN hF
    unfold fX10_run_X19
    refine wp_jn ?_
    rw [hq.2.2.1, hq.1, hq.2.1]
    refine wp_pos rfl (wp_pos (nI_le hp (by omega)) ?_)
    unfold fX10_run_J71_52
    refine wp_pos (Or.inl rfl) (wp_nm (wp_jn (wp_pos (by rw [kset_c, if_pos rfl]) ?_)))
    exact hD os _ hR (by rw [kset_c, if_pos rfl]) (by rw [kset_c, if_neg (by decide)]; exact h31) (fun q hq => (hN q hq).k (k := q + 1) (fun j _ => by rw [kset_nc (by decide)]) (Nat.lt_succ_self q)) (hF.s0 (Or.inr (Or.inl rfl)))
  have hb0 := pOrd_v (t := t) (Nat.zero_le ln)
  refine wp_bind (wp_mono (rpord_wp q3 (Nat.zero_le _) h60 ht (by decide) o3) ?_)
  intro N4 ⟨f4, h4⟩
  refine wp_for 21 (fun (k : Nat) (N5 : KS) => RFA N N5 ∧ ((∃ p os, QN t ln N5 p false ∧ p ≤ ln ∧ 3 * k + 2 ≤ p ∧ os.length = k + 1 ∧ N5.1 0 31 = nI (k + 1) ∧ NOS N5 os ∧ prs t ln 21 0 = comb os (aft t ln (20 - k) p)) ∨ (∃ p, QN t ln N5 p true ∧ p ≤ ln ∧ prs t ln 21 0 = .inl p))) (fun k N5 rec hk hI hrec => ?_) (by decide) (i := 0) (Nat.zero_le _) ⟨f3.tr f4.a, ?_⟩
  · obtain ⟨hF, hc⟩ := hI
    unfold fX10_run_L19
    rcases hc with ⟨p, os, hq, hp, h3p, hl, h31, hN, hR⟩ | ⟨p, hq, hp, hR⟩
    · have hk19 : k < 20 := by omega
      rw [show (59 : Int32) = nI 59 from rfl, rhere_eq hq hp h60 ht (by decide) (by decide)]
      refine wp_bind (wp_some ?_)
      unfold aft at hR
      by_cases q : p < ln ∧ t p = 59
      · rw [decide_eq_true (show p < ln ∧ 59 ≤ t p ∧ t p ≤ 59 by omega)]
        rw [if_pos q.1, if_pos q.2, show 20 - k = (19 - k) + 1 by omega] at hR
        refine wp_neg nb1 (wp_nm ?_)
        rw [hq.2.1, show (nI p + 1 : Int32) = nI (p + 1) by rw [li1, nI_add]]
        have q28 : QN t ln (kset N5 0 27 (nI (p + 1))) (p + 1) false := ⟨by rw [kset_c, if_neg (by decide)]; exact hq.1, by rw [kset_c, if_pos rfl], by rw [kset_c, if_neg (by decide)]; exact hq.2.2.1, fun j hj => by rw [kset_nc (by decide)]; exact hq.2.2.2 j hj⟩
        have hb := pOrd_v (t := t) (show p + 1 ≤ ln by omega)
        refine wp_bind (wp_mono (rpord_wp (k := k + 1) q28 (by omega) h60 ht (by omega) (by rw [kset_c, if_neg (by decide)]; exact h31)) ?_)
        intro N29 ⟨f29, h29⟩
        have hF29 : RFA N N29 := (hF.s0 (Or.inl rfl)).tr f29.a
        have hle : (pOrd t ln (p + 1)).1 ≤ ln := hb.1.2
        refine hrec _ (by omega) ⟨hF29, ?_⟩
        rcases h29 with ⟨o1, o2⟩ | ⟨o, o1, o2⟩
        · refine Or.inr ⟨_, o2, hle, ?_⟩
          rw [hR, prs_n (f := 19 - k) (a := p + 1) (p := (pOrd t ln (p + 1)).1) (by rw [← o1])]; rfl
        · have hv := hb.2 o o1
          rw [prs_s (f := 19 - k) (a := p + 1) (p := (pOrd t ln (p + 1)).1) (o := o) (by rw [← o1]), comb_2] at hR
          rcases o2 with ⟨r1, r2, r3⟩ | ⟨r1, r2, r3⟩
          · refine Or.inl ⟨_, os ++ [o], r1, hle, by have := hv.2; omega, by rw [List.length_append, hl]; rfl, r2, fun j hj => ?_, by rw [show 20 - (k + 1) = 19 - k by omega]; exact hR⟩
            rw [List.length_append] at hj
            have hj' : j < os.length + 1 := hj
            rw [gdO_app]
            by_cases e : j = os.length
            · rw [if_pos e, e, hl]; exact r3
            · rw [if_neg e]
              exact (hN j (by omega)).k (k := k + 1) (fun m hm => by rw [f29.2.2 m hm, kset_nc (by decide)]) (by omega)
          · refine Or.inr ⟨_, r1, hle, ?_⟩
            unfold aft at hR
            rw [if_pos r2, if_neg r3] at hR
            exact hR
      · rw [decide_eq_false (show ¬ (p < ln ∧ 59 ≤ t p ∧ t p ≤ 59) by omega)]
        refine wp_pos rfl ?_
        rcases Nat.lt_or_ge p ln with hlt | hge
        · rw [if_pos hlt, if_neg (fun z => q ⟨hlt, z⟩)] at hR
          exact endE N5 p false hq hp (Or.inr hlt) hR hF
        · rw [if_neg (by omega)] at hR
          refine endD N5 p os hq hge hp ?_ (by rw [hl]; exact h31) hN hF
          rw [hR]
          show Sum.inr (os ++ []) = _
          rw [List.append_nil]
    · rw [show (59 : Int32) = nI 59 from rfl, rhere_eq hq hp h60 ht (by decide) (by decide)]
      exact wp_bind (wp_some (wp_pos rfl (endE N5 p true hq hp (Or.inl rfl) hR hF)))
  · rcases h4 with ⟨o1, o2⟩ | ⟨o, o1, o2⟩
    · refine Or.inr ⟨_, o2, hb0.1.2, ?_⟩
      rw [prs_n (p := (pOrd t ln 0).1) (by rw [← o1])]
    · have hv := hb0.2 o o1
      have hR : prs t ln 21 0 = comb [o] (aft t ln 20 (pOrd t ln 0).1) := prs_s (by rw [← o1])
      rcases o2 with ⟨r1, r2, r3⟩ | ⟨r1, r2, r3⟩
      · refine Or.inl ⟨_, [o], r1, hb0.1.2, by have := hv.2; omega, rfl, r2, fun j hj => ?_, hR⟩
        have hj0 : j = 0 := by have : j < 1 := hj; omega
        subst hj0
        exact r3
      · refine Or.inr ⟨_, r1, hb0.1.2, ?_⟩
        unfold aft at hR
        rw [if_pos r2, if_neg r3] at hR
        exact hR
end RAL
/-! ===== an order is carried out, side by side ===== -/
section STP
variable {M N : KS} {s : ST} {A : Nat → Nat} {k : Nat} {o : ORD}
theorem writes_ok {hd : Nat} {cs : Nat → Int32} (hd6 : hd < 6) (hV : VC cs) : ∀ N, fX10_writes N (nI hd) (cs 0) (cs 1) (cs 2) = fX10_writes_J70_60 N (nI hd) (cs 0) (cs 1) (cs 2) () := by
  intro N
  have all : ∀ {c : Int32}, ka c ≤ 54 → fX10_in (jabs c) 0 54 = 1 ∧ (c = 0 ∨ fX10_in (jabs c) 1 54 = 1) := fun {c} hc => kc_all (P := fun c => fX10_in (jabs c) 0 54 = 1 ∧ (c = 0 ∨ fX10_in (jabs c) 1 54 = 1)) (by decide +kernel) hc
  have a0 := (all hV.1).2.resolve_left hV.2.1
  have a1 := (all hV.2.2.1).1
  have a2 := (all hV.2.2.2.1).1
  have kk := krel_y hd6
  have J1 : fX10_writes_J45_10 N (nI hd) (cs 0) (cs 1) (cs 2) 1 = (if cs 1 = 0 then (if cs 2 = 0 then fX10_writes_J70_60 N (nI hd) (cs 0) (cs 1) (cs 2) () else some (0, N)) else fX10_writes_J70_60 N (nI hd) (cs 0) (cs 1) (cs 2) ()) := by
    unfold fX10_writes_J45_10
    rw [kk.2.2.1]
    rfl
  rw [rwr_u, if_neg (by rw [a0]; decide), if_neg (by rw [a1]; decide), if_neg (by rw [a2]; decide), J1]
  by_cases e : cs 1 = 0
  · rw [if_pos e, if_pos (hV.2.2.2.2 e)]
  · rw [if_neg e]
theorem kind_eq {kd : Nat} (hk : k < 21) (hkd : kd < 65536) (h : M.1 117 k = nI kd) : fX8_kind M (nI k) = some (nI kd) := by
  unfold fX8_kind
  have e : M.1 117 (nI k).toNatClampNeg = nI kd := by rw [nI_clamp (by omega)]; exact h
  refine wp_is (wp_neg (nI_pos (by omega)) (wp_neg (nI_ge hk (by decide)) (wp_pos ((inb_N (by omega)).mpr hk) ?_)))
  rw [e]
  exact wp_pos (ch_small hkd) (wp_some rfl)
theorem number_eq {j : Nat} (hk : k < 21) (hj : j < 4) : fX8_number M (nI k) (nI j) = some (M.1 118 (4 * k + j)) := by
  unfold fX8_number
  have e : (4 * nI k + nI j : Int32) = nI (4 * k + j) := by rw [li4, pk_mul, nI_add]
  rw [e]
  refine wp_is (wp_nm (wp_neg (nI_pos (by omega)) (wp_neg (nI_ge (show 4 * k + j < 84 by omega) (by decide)) (wp_pos ((inb_N (by omega)).mpr (by omega)) (wp_some ?_)))))
  rw [nI_clamp (by omega)]
/-- what an order does, in both -/
def STQ (M N : KS) (s : ST) (a : Int32 × KS) (N' : KS) : Prop :=
  (∃ s', OKR s'.2 ∧ a.1 = 0 ∧ KT a.2 0 s' ∧ SETD a.2 s' ∧ FQ cO M a.2 ∧ MDs (N'.1 1) s' ∧ (∀ b, rw6 b → N'.1 b = N.1 b) ∧ N'.1 0 = N.1 0) ∨
  (∃ why w, a.1 = 1 ∧ KREF M s why w (0, a.2) ∧ NREF N why w (0, N')) ∨
  (a.1 = 2 ∧ a.2 = M ∧ N' = kset N 0 6 1)
theorem KREF.z {why w : Int32} {a : Int32 × KS} (h : KREF M s why w a) : KREF M s why w (0, a.2) := ⟨rfl, h.2⟩
theorem NREF.z {why w : Int32} {b : Int32 × KS} (h : NREF N why w b) : NREF N why w (0, b.2) := h
theorem step_wp (hO : OKR s.2) (hK : KT M 0 s) (hS : SETD M s) (hM : MDs (N.1 1) s) (hI : IsLay s.2 s.2.1 A) (hk : k < 21) (hv : OV o) (hko : KOr M k o) (hno : NOr N k o) : wp (fX9_carryOut M (nI k)) (fun a => wp (fX10_does N (nI k)) (STQ M N s a)) := by
  have hn := hO.1
  have ad : ∀ j, ((5 : Int32) * nI k + nI j) = nI (5 * k + j) := fun j => by rw [li5, pk_mul, nI_add]
  have cl : ∀ j, j < 5 → (nI (5 * k + j)).toNatClampNeg = 5 * k + j := fun j hj => nI_clamp (by omega)
  have ib : ∀ j, j < 5 → inb (nI (5 * k + j)) 300 := fun j hj => (inb_N (by omega)).mpr (by omega)
  have e5 : (5 : Int32) * nI k = nI (5 * k) := by rw [li5, pk_mul]
  have c5 : (nI (5 * k)).toNatClampNeg = 5 * k := nI_clamp (by omega)
  have ib0 : inb (nI (5 * k)) 300 := (inb_N (by omega)).mpr (by omega)
  have hkd : o.1 < 65536 := by rcases hv with ⟨h, _⟩ | ⟨h, _⟩ | ⟨h, _⟩ <;> omega
  -- the reference looks at the order
  have rdoes : ∀ {Q : KS → Prop}, wp (if nI o.1 = 43 then bd2 (fX10_doTell N (nI o.2.1) (N.1 20 (5 * k + 2)) (N.1 20 (5 * k + 3))) fun _ M6 => some M6 else (if nI o.1 = 45 then bd2 (fX10_doUntell N (nI o.2.1) (N.1 20 (5 * k + 2)) (N.1 20 (5 * k + 3))) fun _ M8 => some M8 else (if nI o.1 = 114 then bd2 (fX10_doRule N (nI o.2.1) (N.1 20 (5 * k + 2)) (N.1 20 (5 * k + 3)) (N.1 20 (5 * k + 4))) fun _ M10 => some M10 else bd2 (fX10_doDrop N (nI o.2.1)) fun _ M4 => some M4))) Q → wp (fX10_does N (nI k)) Q := by
    intro Q h
    unfold fX10_does
    rw [show ((5 : Int32) * nI k + 1) = nI (5 * k + 1) from ad 1, show ((5 : Int32) * nI k + 2) = nI (5 * k + 2) from ad 2, show ((5 : Int32) * nI k + 3) = nI (5 * k + 3) from ad 3, show ((5 : Int32) * nI k + 4) = nI (5 * k + 4) from ad 4, e5]
    refine wp_pos (ib 1 (by decide)) (wp_nm (wp_pos (ib 2 (by decide)) (wp_nm (wp_pos (ib 3 (by decide)) (wp_nm (wp_pos ib0 ?_))))))
    simp only [cl 1 (by decide), cl 2 (by decide), cl 3 (by decide), cl 4 (by decide), c5, hno.1, hno.2.1, if_pos (ib 4 (by decide))]
    exact h
  unfold fX9_carryOut
  rw [kind_eq hk hkd hko.1, show fX8_number M (nI k) 0 = some (M.1 118 (4 * k + 0)) from number_eq hk (by decide), show fX8_number M (nI k) 1 = some (M.1 118 (4 * k + 1)) from number_eq hk (by decide), show fX8_number M (nI k) 2 = some (M.1 118 (4 * k + 2)) from number_eq hk (by decide), show fX8_number M (nI k) 3 = some (M.1 118 (4 * k + 3)) from number_eq hk (by decide)]
  refine wp_bind (wp_some (wp_bind (wp_some (wp_bind (wp_some (wp_bind (wp_some ?_)))))))
  rw [show M.1 118 (4 * k + 0) = nI o.2.1 from hko.2.1]
  have ne : ∀ b, b < 2 ^ 31 → ¬ o.1 = b → ¬ nI o.1 = nI b := fun b hb hne z => hne ((nI_eq (by omega) hb).mp z)
  rcases hv with ⟨hkk, hr, hx, hy⟩ | ⟨hkk, hd6, hV⟩ | ⟨hkk, hd⟩
  · -- a fact
    have kxy := hko.2.2.1 hkk
    have nxy := hno.2.2.1 hkk
    have n100 := ne 100 (by decide) (by omega)
    have n114 := ne 114 (by decide) (by omega)
    have hkf : 36 * o.2.1 + 6 * o.2.2.1 + o.2.2.2.1 < 216 := by omega
    rw [kxy.1, kxy.2, num_eq]
    refine wp_neg n100 (wp_neg n114 (wp_nm (wp_jn ?_)))
    have fin1 : ∀ (a : Int32 × KS), (∃ s', OKR s'.2 ∧ KDONE M s' a ∧ wp (fX10_does N (nI k)) (fun N' => MDs (N'.1 1) s' ∧ (∀ b, rw6 b → N'.1 b = N.1 b) ∧ N'.1 0 = N.1 0)) ∨ (∃ why w, KREF M s why w a ∧ wp (fX10_does N (nI k)) (fun N' => NREF N why w (0, N'))) → wp (fX9_carryOut_J125_107 (a.1, a.2)) (fun a => wp (fX10_does N (nI k)) (STQ M N s a)) := by
      rintro a (⟨s', h1, h2, h3⟩ | ⟨why, w, h2, h3⟩)
      · rw [fX9_carryOut_J125_107_u]
        refine wp_neg (by rw [h2.1]; exact ni1) (wp_some (wp_mono h3 ?_))
        intro N' h4
        exact Or.inl ⟨s', h1, rfl, h2.2.1, h2.2.2.1, h2.2.2.2, h4.1, h4.2.1, h4.2.2⟩
      · rw [fX9_carryOut_J125_107_u]
        refine wp_pos h2.1 (wp_some (wp_mono h3 ?_))
        intro N' h4
        exact Or.inr (Or.inl ⟨why, w, rfl, h2.z, h4⟩)
    by_cases k43 : o.1 = 43
    · refine wp_pos (by rw [k43]; rfl) (wp_bd2 (wp_mono (kadd_wp hK hS hkf) (fun a ha => fin1 a ?_)))
      rcases ha with ⟨hs, ha⟩ | ⟨hs, ha⟩
      · refine Or.inr ⟨_, _, ha, rdoes (wp_pos (by rw [k43]; rfl) (wp_bd2 ?_))⟩
        rw [nxy.1, nxy.2]
        refine wp_mono (rtell_wp hO hM hI hr hx hy) (fun b hb => wp_some ?_)
        rcases hb with ⟨_, hb⟩ | ⟨hb, _⟩
        · rw [show (36 * o.2.1 + 6 * o.2.2.1 + o.2.2.2.1) / 36 = o.2.1 by omega]
          exact hb.z
        · rw [hs] at hb; exact absurd hb (by decide)
      · refine Or.inl ⟨addF s (36 * o.2.1 + 6 * o.2.2.1 + o.2.2.2.1), hO, ha, rdoes (wp_pos (by rw [k43]; rfl) (wp_bd2 ?_))⟩
        rw [nxy.1, nxy.2]
        refine wp_mono (rtell_wp hO hM hI hr hx hy) (fun b hb => wp_some ?_)
        rcases hb with ⟨hb, _⟩ | ⟨_, hb⟩
        · rw [hs] at hb; exact absurd hb (by decide)
        · exact hb.2
    · have k45 : o.1 = 45 := by omega
      have n43 := ne 43 (by decide) k43
      refine wp_neg n43 (wp_bd2 (wp_mono (ktak_wp hO hK hS hI hkf) (fun a ha => fin1 a ?_)))
      rcases ha with ⟨hs, ha⟩ | ⟨hs, ha⟩
      · refine Or.inr ⟨_, _, ha, rdoes (wp_neg n43 (wp_pos (by rw [k45]; rfl) (wp_bd2 ?_)))⟩
        rw [nxy.1, nxy.2]
        refine wp_mono (runtell_wp hO hM hI hr hx hy) (fun b hb => wp_some ?_)
        rcases hb with ⟨_, hb⟩ | ⟨hb, _⟩
        · exact hb.z
        · rw [hs] at hb; exact absurd hb (by decide)
      · refine Or.inl ⟨takF s (36 * o.2.1 + 6 * o.2.2.1 + o.2.2.2.1), hO, ha, rdoes (wp_neg n43 (wp_pos (by rw [k45]; rfl) (wp_bd2 ?_)))⟩
        rw [nxy.1, nxy.2]
        refine wp_mono (runtell_wp hO hM hI hr hx hy) (fun b hb => wp_some ?_)
        rcases hb with ⟨hb, _⟩ | ⟨_, hb⟩
        · rw [hs] at hb; exact absurd hb (by decide)
        · exact hb.2
  · -- a rule
    have kc := hko.2.2.2 hkk
    have nc := hno.2.2.2 hkk
    have n100 := ne 100 (by decide) (by omega)
    have n43 := ne 43 (by decide) (by omega)
    have n45 := ne 45 (by decide) (by omega)
    rw [show M.1 118 (4 * k + 1) = o.2.2.2.2 0 from kc 0 (by decide), show M.1 118 (4 * k + 2) = o.2.2.2.2 1 from kc 1 (by decide), show M.1 118 (4 * k + 3) = o.2.2.2.2 2 from kc 2 (by decide)]
    refine wp_neg n100 (wp_pos (by rw [hkk]; rfl) (wp_bind (wp_some (wp_bd2 (wp_mono (krule_wp hO hK hS hd6 hV) ?_)))))
    intro a ha
    have rd : ∀ {Q : KS → Prop}, wp (fX10_doRule N (nI o.2.1) (o.2.2.2.2 0) (o.2.2.2.2 1) (o.2.2.2.2 2)) (fun b => Q b.2) → wp (fX10_does N (nI k)) Q := by
      intro Q h
      refine rdoes (wp_neg n43 (wp_neg n45 (wp_pos (by rw [hkk]; rfl) (wp_bd2 ?_))))
      rw [show N.1 20 (5 * k + 2) = o.2.2.2.2 0 from nc 0 (by decide), show N.1 20 (5 * k + 3) = o.2.2.2.2 1 from nc 1 (by decide), show N.1 20 (5 * k + 4) = o.2.2.2.2 2 from nc 2 (by decide)]
      exact wp_mono h (fun b hb => wp_some hb)
    rcases ha with ⟨why, w, hr, ha⟩ | ⟨hr, ha⟩
    · refine wp_pos ha.1 (wp_some (rd (wp_mono (rrule_wp hO hM hd6 hV (writes_ok hd6 hV)) ?_)))
      intro b hb
      rcases hb with ⟨why', w', hr', hb⟩ | ⟨hr', _⟩
      · obtain ⟨q1, q2⟩ := hr.one hr'
        subst q1; subst q2
        exact Or.inr (Or.inl ⟨why, w, rfl, ha.z, hb.z⟩)
      · exact absurd hr' (fun z => hr.no z)
    · refine wp_neg (by rw [ha.1]; exact ni1) (wp_some (rd (wp_mono (rrule_wp hO hM hd6 hV (writes_ok hd6 hV)) ?_)))
      intro b hb
      rcases hb with ⟨_, _, hr', _⟩ | ⟨_, hb⟩
      · exact absurd hr (fun z => hr'.no z)
      · exact Or.inl ⟨(s.1, addR s.2 o.2.1 o.2.2.2.2), addR_ok hO hd6 hV hr, rfl, ha.2.1, ha.2.2.1, ha.2.2.2, hb.2.1, hb.2.2.1, hb.2.2.2⟩
  · -- a rule is dropped
    have n43 := ne 43 (by decide) (by omega)
    have n45 := ne 45 (by decide) (by omega)
    have n114 := ne 114 (by decide) (by omega)
    refine wp_pos (by rw [hkk]; rfl) ?_
    rcases Nat.lt_or_ge o.2.1 s.2.1 with hlt | hge
    · obtain ⟨A', hI', _⟩ := lay_del hO hlt
      refine wp_bd2 (wp_mono (ktakeR_wp hO hK hlt) ?_)
      intro a ha
      refine wp_neg (by rw [ha.1]; exact ni1) (wp_some (rdoes (wp_neg n43 (wp_neg n45 (wp_neg n114 (wp_bd2 (wp_mono (rdrop_wp hO hM hlt hI') ?_)))))))
      intro b hb
      exact wp_some (Or.inl ⟨(s.1, delR s.2 o.2.1), delR_ok hO hlt, rfl, ha.2.1, ha.2.2.1, ha.2.2.2, hb.2.1, hb.2.2.1, hb.2.2.2⟩)
    · have hb' : nI o.2.1 < nI 0 ∨ ¬ nI o.2.1 < nI 0 ∧ nI s.2.1 ≤ nI o.2.1 := Or.inr ⟨nI_pos (by omega), nI_le hge (by omega)⟩
      unfold fX9_takeRule
      rw [khas_n hK.2 hb']
      refine wp_bd2 (wp_pos rfl (wp_some (wp_pos rfl (wp_some (rdoes (wp_neg n43 (wp_neg n45 (wp_neg n114 (wp_bd2 ?_)))))))))
      unfold fX10_doDrop fX10_fails
      rw [ris_n hM.2.1 hn hb']
      exact wp_bind (wp_some (wp_pos rfl (wp_bd2 (wp_nm (wp_some (wp_some (wp_some (Or.inr (Or.inr ⟨rfl, rfl, rfl⟩)))))))))
end STP
