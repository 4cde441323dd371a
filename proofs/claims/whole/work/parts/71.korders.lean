/-! ===== texts: the class reads rules, orders, all of them ===== -/
section KOS
variable {t : Nat → Nat} {ln : Nat} {M : KS}
/-- a rule's conditions, one after the other -/
def rz (t : Nat → Nat) (ln a : Nat) : Nat → PR Int32
  | 0 => ((pr2 t ln a).1, (pr2 t ln a).2.map (fun _ => 0))
  | i + 1 => pb (rz t ln a i) (if i = 0 then pCond t ln else pCondO t ln)
theorem rz_1 (a : Nat) : rz t ln a 1 = pr3 t ln a := by
  show pb ((pr2 t ln a).1, (pr2 t ln a).2.map (fun _ => (0 : Int32))) (pCond t ln) = pb (pr2 t ln a) (pCond t ln)
  rcases pr_eta (pr2 t ln a) with ⟨v, e⟩ | e
  · rw [e]; rfl
  · rw [e]; rfl
theorem rz_2 (a : Nat) : rz t ln a 2 = pr4 t ln a := by
  show pb (rz t ln a 1) (pCondO t ln) = pb (pr3 t ln a) (pCondO t ln)
  rw [rz_1]
theorem rz_3 (a : Nat) : rz t ln a 3 = pr5 t ln a := by
  show pb (rz t ln a 2) (pCondO t ln) = pb (pr4 t ln a) (pCondO t ln)
  rw [rz_2]
theorem rz_none {a i q : Nat} (h : rz t ln a i = (q, none)) : ∀ j, rz t ln a (i + j) = (q, none)
  | 0 => h
  | j + 1 => pb_n (rz_none h j)
theorem kprule_wp {a k : Nat} (h : PK t ln M a) (ha : a ≤ ln) (h60 : ln ≤ 60) (ht : ∀ j, j < ln → t j < 65536) (hk : k < 21) : wp (fX8_readRule M (nI k)) (KPO t ln k M (pRule t ln a)) := by
  unfold fX8_readRule
  have bad : ∀ {p : Nat} {M1 : KS}, rz t ln a 3 = (p, none) → PK t ln M1 p → KFR k M M1 → wp (some ((0 : Int32), M1)) (KPO t ln k M (pRule t ln a)) := fun {p M1} e hP hF => by
    rw [rz_3] at e
    refine wp_some ⟨?_, hF, Or.inl ⟨?_, rfl⟩⟩
    · show PK t ln M1 (pr5 t ln a).1
      rw [e]; exact hP
    · show (pr5 t ln a).2.map _ = none
      rw [e]; rfl
  refine wp_bd2 (wp_mono (rnum_c (lo := 48) (n := 6) (j := 0) h ha h60 ht (by decide) (by decide) hk (by decide)) ?_)
  rintro ⟨v, M1⟩ ⟨f1, g1, h1⟩
  have f1 : KFR k M M1 := f1
  rcases h1 with ⟨hd, r1, r2, r3, r4, r5, r6⟩ | ⟨r1, r2, r3⟩
  · have r3 : v = 1 := r3
    subst r3
    have r4 : M1.1 118 (4 * k) = nI hd := r4
    have h1 : pr1 t ln a = (a + 1, some hd) := r2
    have h2 : pr2 t ln a = pS t ln 61 1 (a + 1) := pb_s h1
    refine wp_neg ni1 (wp_bd2 (wp_mono (skip_c (lo := 61) r6 r5 h60 ht (by decide)) ?_))
    rintro ⟨v, M3⟩ ⟨f3, h3⟩
    have f3 : RDF M1 M3 := f3
    rcases h3 with ⟨x1, x2, x3, x4, x5⟩ | ⟨x1, x2, x3, x4⟩
    · have x3 : v = 1 := x3
      subst x3
      rw [x1] at h2
      have z0 : rz t ln a 0 = (a + 1 + 1, some 0) := by
        show ((pr2 t ln a).1, (pr2 t ln a).2.map (fun _ => (0 : Int32))) = _
        rw [h2]; rfl
      refine wp_neg ni1 ?_
      refine wp_for 3 (fun (i : Nat) (s : Int32 × KS) => s.1 = nI (i + 1) ∧ ∃ p c, rz t ln a i = (p, some c) ∧ PK t ln s.2 p ∧ p ≤ ln ∧ KFR k M s.2 ∧ s.2.1 118 (4 * k) = nI hd ∧ ∀ j, j < i → s.2.1 118 (4 * k + 1 + j) = (rz t ln a (j + 1)).2.getD 0) (fun i s rec hi hI hrec => ?_) (by decide) (i := 0) (Nat.zero_le _) ⟨rfl, a + 1 + 1, 0, z0, x5, x4, f1.tr f3.k, by rw [f3.1 118 (by decide)]; exact r4, fun j hj => absurd hj (Nat.not_lt_zero _)⟩
      obtain ⟨v5, M6⟩ := s
      obtain ⟨hv, p, c, hz, hP, hp, hF, h118, hcs⟩ := hI
      have hv : v5 = nI (i + 1) := hv
      subst hv
      have hP : PK t ln M6 p := hP
      have hF : KFR k M M6 := hF
      have h118 : M6.1 118 (4 * k) = nI hd := h118
      have hcs : ∀ j, j < i → M6.1 118 (4 * k + 1 + j) = (rz t ln a (j + 1)).2.getD 0 := hcs
      rw [fX8_readRule_L26_u]
      rcases Nat.lt_or_ge i 3 with hlt | hge
      · refine wp_neg (nI_nlt (show i + 1 ≤ 3 by omega) (by decide)) (wp_jn ?_)
        have es : rz t ln a (i + 1) = (if i = 0 then pCond t ln else pCondO t ln) p := pb_s hz
        have e1 : (nI (i + 1) + 1 : Int32) = nI (i + 1 + 1) := by rw [li1, nI_add]
        have yes : rz t ln a (i + 1) = pCond t ln p → wp (fX8_readRule_J48_33 (nI k) (nI (i + 1)) M6 rec 1) (KPO t ln k M (pRule t ln a)) := by
          intro e
          unfold fX8_readRule_J48_33
          refine wp_jn (wp_neg ni1 (wp_bd2 (wp_mono (kpcond_wp hP hp h60 ht hk (show i + 1 < 4 by omega) (by omega)) ?_)))
          rintro ⟨v, M15⟩ ⟨f15, g15, hP15, h15⟩
          have f15 : KFR k M6 M15 := f15
          have g15 : ∀ q, q ≠ 4 * k + (i + 1) → M15.1 118 q = M6.1 118 q := g15
          have hP15 : PK t ln M15 (pCond t ln p).1 := hP15
          rcases h15 with ⟨c1, c2⟩ | ⟨c, c1, c2, c3⟩
          · have c2 : v = 0 := c2
            subst c2
            have c1 : (pCond t ln p).2 = none := c1
            have en : rz t ln a (i + 1) = ((pCond t ln p).1, none) := by rw [e, ← c1]
            have en3 := rz_none en (2 - i)
            rw [show i + 1 + (2 - i) = 3 by omega] at en3
            exact wp_pos rfl (bad en3 hP15 (hF.tr f15))
          · have c2 : v = 1 := c2
            subst c2
            have c1 : (pCond t ln p).2 = some c := c1
            have c3 : M15.1 118 (4 * k + (i + 1)) = c := c3
            have en : rz t ln a (i + 1) = ((pCond t ln p).1, some c) := by rw [e, ← c1]
            refine wp_neg ni1 ?_
            unfold fX8_readRule_J64_50
            refine wp_neg ni1 (wp_nm ?_)
            rw [e1]
            refine hrec _ hlt ⟨rfl, (pCond t ln p).1, c, en, hP15, (pCond_b hp).2, hF.tr f15, ?_, fun j hj => ?_⟩
            · show M15.1 118 (4 * k) = _
              rw [g15 _ (by omega)]; exact h118
            · show M15.1 118 (4 * k + 1 + j) = _
              by_cases q : j = i
              · rw [q, show 4 * k + 1 + i = 4 * k + (i + 1) by omega, c3, en]; rfl
              · rw [g15 _ (by omega)]
                exact hcs j (by omega)
        by_cases q : i = 0
        · refine wp_pos (by rw [q]; rfl) (yes ?_)
          rw [es, if_pos q]
        · refine wp_neg (fun z => by have := (nI_eq (b := 1) (by omega) (by decide)).mp z; omega) ?_
          rw [kstart_eq hP hp h60 ht]
          refine wp_bind (wp_some ?_)
          rw [if_neg q] at es
          unfold pCondO at es
          cases hs : stc t ln p
          · rw [hs, if_neg (by decide)] at es
            refine wp_pos rfl ?_
            unfold fX8_readRule_J48_33
            refine wp_jn (wp_pos rfl ?_)
            unfold fX8_readRule_J64_50
            rw [put_eq hk (show i + 1 < 4 by omega)]
            refine wp_pos rfl (wp_bind (wp_some (wp_nm ?_)))
            rw [e1]
            refine hrec _ hlt ⟨rfl, p, 0, es, PK.in_ hP (Or.inr rfl), hp, hF.s118 (by omega), ?_, fun j hj => ?_⟩
            · show (kset M6 118 (4 * k + (i + 1)) 0).1 118 (4 * k) = _
              rw [kset_c, if_neg (by omega)]; exact h118
            · show (kset M6 118 (4 * k + (i + 1)) 0).1 118 (4 * k + 1 + j) = _
              rw [kset_c]
              by_cases q : j = i
              · rw [if_pos (by omega), q, es]; rfl
              · rw [if_neg (by omega)]
                exact hcs j (by omega)
          · rw [hs, if_pos rfl] at es
            exact wp_neg nb1 (yes es)
      · have : i = 3 := by omega
        subst this
        refine wp_pos (nI_lt (by decide) (by decide)) ?_
        unfold fX8_readRule_X26
        rw [show (114 : Int32) = nI 114 from rfl, note_eq hk (show 114 < 65536 by decide)]
        have h5 : pr5 t ln a = (p, some c) := by rw [← rz_3]; exact hz
        refine wp_bd2 (wp_some (wp_pos (Or.inr rfl) (wp_some ⟨?_, hF.s117 (Nat.le_refl k), Or.inr ⟨(114, hd, 0, 0, c3 ((pr3 t ln a).2.getD 0) ((pr4 t ln a).2.getD 0) c), ?_, rfl, ?_⟩⟩)))
        · show PK t ln (kset M6 117 k (nI 114)) (pr5 t ln a).1
          rw [h5]
          exact PK.in_ hP (Or.inl rfl)
        · show (pr5 t ln a).2.map _ = _
          rw [h5, h1]; rfl
        · have e118 : (kset M6 117 k (nI 114)).1 118 = M6.1 118 := kset_nc (by decide)
          refine ⟨by rw [kset_c, if_pos rfl], ?_, fun z => ?_, fun _ j hj => ?_⟩
          · show (kset M6 117 k (nI 114)).1 118 (4 * k) = nI hd
            rw [e118]; exact h118
          · have z' : (114 : Nat) = 43 ∨ (114 : Nat) = 45 := z
            omega
          · show (kset M6 117 k (nI 114)).1 118 (4 * k + 1 + j) = c3 ((pr3 t ln a).2.getD 0) ((pr4 t ln a).2.getD 0) c j
            rw [e118, hcs j hj]
            rcases (show j = 0 ∨ j = 1 ∨ j = 2 by omega) with rfl | rfl | rfl
            · rw [rz_1]; rfl
            · rw [rz_2]; rfl
            · rw [rz_3, h5]; rfl
    · have x3 : v = 0 := x3
      subst x3
      rw [x1] at h2
      have z0 : rz t ln a 0 = (a + 1, none) := by
        show ((pr2 t ln a).1, (pr2 t ln a).2.map (fun _ => (0 : Int32))) = _
        rw [h2]; rfl
      exact wp_pos rfl (bad (rz_none z0 3) x4 (f1.tr f3.k))
  · have r2 : v = 0 := r2
    subst r2
    have h1 : pr1 t ln a = (a, none) := r1
    have h2 : pr2 t ln a = (a, none) := pb_n h1
    have z0 : rz t ln a 0 = (a, none) := by
      show ((pr2 t ln a).1, (pr2 t ln a).2.map (fun _ => (0 : Int32))) = _
      rw [h2]; rfl
    exact wp_pos rfl (bad (rz_none z0 3) r3 f1)
theorem KPO.pre {k : Nat} {M1 : KS} {x : PR ORD} {b : Int32 × KS} (h : KPO t ln k M1 x b) (f : RDF M M1) : KPO t ln k M x b := ⟨h.1, f.k.tr h.2.1, h.2.2⟩
theorem KPO.b {k : Nat} {x : PR ORD} {b : Int32 × KS} (h : KPO t ln k M x b) : isB b.1 := by
  rcases h.2.2 with ⟨_, h⟩ | ⟨_, _, h, _⟩
  · exact Or.inl h
  · exact Or.inr h
theorem RDF.tr {M1 M2 : KS} (h : RDF M M1) (k : RDF M1 M2) : RDF M M2 := ⟨fun a ha => (k.1 a ha).trans (h.1 a ha), fun j hj => (k.2 j hj).trans (h.2 j hj)⟩
theorem kpord_wp {a k : Nat} (h : PK t ln M a) (ha : a ≤ ln) (h60 : ln ≤ 60) (ht : ∀ j, j < ln → t j < 65536) (hk : k < 21) : wp (fX8_readOrder M (nI k)) (KPO t ln k M (pOrd t ln a)) := by
  unfold fX8_readOrder pOrd
  refine wp_bd2 (wp_mono (skip_c (lo := 43) h ha h60 ht (by decide)) ?_)
  rintro ⟨v, M1⟩ ⟨f1, h1⟩
  have f1 : RDF M M1 := f1
  rcases h1 with ⟨d1, d2, d3, d4, d5⟩ | ⟨d1, d2, d3, d4⟩
  · have d3 : v = 1 := d3
    subst d3
    rw [if_pos (show a < ln ∧ t a = 43 from ⟨d4, d2⟩)]
    refine wp_neg ni1 (wp_bd2 (wp_mono (kpfact_wp (kd := 43) d5 d4 h60 ht hk (Or.inl rfl)) (fun b hb => ?_)))
    exact wp_pos hb.b (wp_some (hb.pre f1))
  · have d3 : v = 0 := d3
    subst d3
    have d4 : PK t ln M1 a := d4
    rw [if_neg d2]
    refine wp_pos rfl (wp_bd2 (wp_mono (skip_c (lo := 45) d4 ha h60 ht (by decide)) ?_))
    rintro ⟨v, M3⟩ ⟨f3, h3⟩
    have f3 : RDF M1 M3 := f3
    have g3 := f1.tr f3
    rcases h3 with ⟨x1, x2, x3, x4, x5⟩ | ⟨x1, x2, x3, x4⟩
    · have x3 : v = 1 := x3
      subst x3
      rw [if_pos (show a < ln ∧ t a = 45 from ⟨x4, x2⟩)]
      refine wp_neg ni1 (wp_bd2 (wp_mono (kpfact_wp (kd := 45) x5 x4 h60 ht hk (Or.inr rfl)) (fun b hb => ?_)))
      exact wp_pos hb.b (wp_some (hb.pre g3))
    · have x3 : v = 0 := x3
      subst x3
      have x4 : PK t ln M3 a := x4
      rw [if_neg x2]
      refine wp_pos rfl (wp_bd2 (wp_mono (skip_c (lo := 114) x4 ha h60 ht (by decide)) ?_))
      rintro ⟨v, M5⟩ ⟨f5, h5⟩
      have f5 : RDF M3 M5 := f5
      have g5 := g3.tr f5
      rcases h5 with ⟨y1, y2, y3, y4, y5⟩ | ⟨y1, y2, y3, y4⟩
      · have y3 : v = 1 := y3
        subst y3
        rw [if_pos (show a < ln ∧ t a = 114 from ⟨y4, y2⟩)]
        refine wp_neg ni1 (wp_bd2 (wp_mono (kprule_wp y5 y4 h60 ht hk) (fun b hb => ?_)))
        exact wp_pos hb.b (wp_some (hb.pre g5))
      · have y3 : v = 0 := y3
        subst y3
        have y4 : PK t ln M5 a := y4
        rw [if_neg y2]
        refine wp_pos rfl (wp_bd2 (wp_mono (skip_c (lo := 100) y4 ha h60 ht (by decide)) ?_))
        rintro ⟨v, M7⟩ ⟨f7, h7⟩
        have f7 : RDF M5 M7 := f7
        have g7 := g5.tr f7
        rcases h7 with ⟨z1, z2, z3, z4, z5⟩ | ⟨z1, z2, z3, z4⟩
        · have z3 : v = 1 := z3
          subst z3
          rw [if_pos (show a < ln ∧ t a = 100 from ⟨z4, z2⟩)]
          refine wp_neg ni1 (wp_bd2 (wp_mono (rnum_c (lo := 48) (n := 10) (j := 0) z5 z4 h60 ht (by decide) (by decide) hk (by decide)) ?_))
          rintro ⟨v, M9⟩ ⟨f9, g9, h9⟩
          have f9 : KFR k M7 M9 := f9
          have k9 := g7.k.tr f9
          rcases h9 with ⟨dd, w1, w2, w3, w4, w5, w6⟩ | ⟨w1, w2, w3⟩
          · have w3 : v = 1 := w3
            subst w3
            refine wp_neg ni1 ?_
            rw [show (100 : Int32) = nI 100 from rfl, note_eq hk (show 100 < 65536 by decide)]
            refine wp_bd2 (wp_some (wp_neg ni1 (wp_some ⟨?_, k9.s117 (Nat.le_refl k), Or.inr ⟨(100, dd, 0, 0, fun _ => 0), ?_, rfl, ?_⟩⟩)))
            · show PK t ln (kset M9 117 k (nI 100)) (pS t ln 48 10 (a + 1)).1
              rw [w2]
              exact PK.in_ w6 (Or.inl rfl)
            · show (pS t ln 48 10 (a + 1)).2.map _ = _
              rw [w2]; rfl
            · refine ⟨by rw [kset_c, if_pos rfl], by rw [kset_nc (by decide)]; exact w4, fun z => ?_, fun z => ?_⟩
              · have z' : (100 : Nat) = 43 ∨ (100 : Nat) = 45 := z
                omega
              · have z' : (100 : Nat) = 114 := z
                omega
          · have w2 : v = 0 := w2
            subst w2
            refine wp_pos rfl (wp_some ⟨?_, k9, Or.inl ⟨?_, rfl⟩⟩)
            · show PK t ln M9 (pS t ln 48 10 (a + 1)).1
              rw [w1]; exact w3
            · show (pS t ln 48 10 (a + 1)).2.map _ = none
              rw [w1]; rfl
        · have z3 : v = 0 := z3
          subst z3
          rw [if_neg z2]
          exact wp_pos rfl (wp_some ⟨z4, g7.k, Or.inl ⟨rfl, rfl⟩⟩)
end KOS
/-! all orders of a text -/
def comb (os : List ORD) (r : Sum Nat (List ORD)) : Sum Nat (List ORD) := match r with
  | .inl e => .inl e
  | .inr os' => .inr (os ++ os')
def prs (t : Nat → Nat) (ln : Nat) : Nat → Nat → Sum Nat (List ORD)
  | 0, a => .inl a
  | f + 1, a => match (pOrd t ln a).2 with
    | none => .inl (pOrd t ln a).1
    | some o => if (pOrd t ln a).1 < ln then (if t (pOrd t ln a).1 = 59 then comb [o] (prs t ln f ((pOrd t ln a).1 + 1)) else .inl (pOrd t ln a).1) else .inr [o]
/-- behind an order -/
def aft (t : Nat → Nat) (ln f p : Nat) : Sum Nat (List ORD) := if p < ln then (if t p = 59 then prs t ln f (p + 1) else .inl p) else .inr []
theorem prs_n {t : Nat → Nat} {ln f a p : Nat} (h : pOrd t ln a = (p, none)) : prs t ln (f + 1) a = .inl p := by
  show (match (pOrd t ln a).2 with | none => _ | some o => _) = _
  rw [h]
theorem prs_s {t : Nat → Nat} {ln f a p : Nat} {o : ORD} (h : pOrd t ln a = (p, some o)) : prs t ln (f + 1) a = comb [o] (aft t ln f p) := by
  show (match (pOrd t ln a).2 with | none => _ | some o => _) = _
  rw [h]
  unfold aft
  show (if p < ln then (if t p = 59 then comb [o] (prs t ln f (p + 1)) else .inl p) else .inr [o]) = _
  by_cases q1 : p < ln
  · rw [if_pos q1, if_pos q1]
    by_cases q2 : t p = 59
    · rw [if_pos q2, if_pos q2]
    · rw [if_neg q2, if_neg q2]; rfl
  · rw [if_neg q1, if_neg q1]; rfl
theorem comb_2 (os : List ORD) (o : ORD) (r : Sum Nat (List ORD)) : comb os (comb [o] r) = comb (os ++ [o]) r := by
  cases r with
  | inl e => rfl
  | inr os' =>
    show Sum.inr (os ++ ([o] ++ os')) = Sum.inr ((os ++ [o]) ++ os')
    rw [List.append_assoc]
def dO : ORD := (0, 0, 0, 0, fun _ => 0)
theorem gdO_app (W : List ORD) (c : ORD) : ∀ j, (W ++ [c]).getD j dO = if j = W.length then c else W.getD j dO := by
  induction W with
  | nil =>
    intro j
    cases j with
    | zero => rfl
    | succ j => rw [if_neg (by simp)]; rfl
  | cons a W ih =>
    intro j
    cases j with
    | zero => rw [if_neg (by simp)]; rfl
    | succ j =>
      show (W ++ [c]).getD j dO = _
      rw [ih j]
      by_cases e : j = W.length
      · rw [if_pos e, if_pos (by simp [e])]
      · rw [if_neg e, if_neg (by simp [e])]; rfl
/-- a text's orders, in the class -/
def KOS (M : KS) (os : List ORD) : Prop := ∀ q, q < os.length → OV (os.getD q dO) ∧ KOr M q (os.getD q dO)
/-- reading all changes no more than this -/
def KFA (M M' : KS) : Prop := (∀ a, a ≠ 115 → a ≠ 117 → a ≠ 118 → M'.1 a = M.1 a) ∧ ∀ j, j ≠ 4 → j ≠ 5 → M'.1 115 j = M.1 115 j
section KAL
variable {t : Nat → Nat} {ln : Nat} {M : KS}
theorem KOr.k {k q : Nat} {M1 : KS} {o : ORD} (h : KOr M q o) (f : KFR k M M1) (hq : q < k) : KOr M1 q o := by
  refine ⟨by rw [f.2.2.1 q hq]; exact h.1, by rw [f.2.2.2 _ (by omega)]; exact h.2.1, fun z => ?_, fun z j hj => ?_⟩
  · rw [f.2.2.2 _ (by omega), f.2.2.2 _ (by omega)]; exact h.2.2.1 z
  · rw [f.2.2.2 _ (by omega)]; exact h.2.2.2 z j hj
theorem KOr.s {q j : Nat} {v : Int32} {o : ORD} (h : KOr M q o) : KOr (kset M 115 j v) q o := by
  refine ⟨by rw [kset_nc (by decide)]; exact h.1, by rw [kset_nc (by decide)]; exact h.2.1, fun z => ?_, fun z j hj => ?_⟩
  · rw [kset_nc (by decide)]; exact h.2.2.1 z
  · rw [kset_nc (by decide)]; exact h.2.2.2 z j hj
theorem KOS.r {M1 : KS} {os : List ORD} (h : KOS M os) (f : RDF M M1) : KOS M1 os := fun q hq => ⟨(h q hq).1, (h q hq).2.k (f.k (k := q + 1)) (Nat.lt_succ_self q)⟩
theorem kall_wp (h3 : M.1 115 3 = nI ln) (hx : ∀ j, j < ln → M.1 116 j = nI (t j)) (h60 : ln ≤ 60) (ht : ∀ j, j < ln → t j < 65536) : wp (fX8_readOrders M) (fun b => KFA M b.2 ∧ ((∃ e, prs t ln 21 0 = .inl e ∧ b.1 = nI e ∧ e ≤ 60) ∨ (∃ os, prs t ln 21 0 = .inr os ∧ b.1 = -nI 1 ∧ os.length ≤ 21 ∧ b.2.1 115 4 = nI os.length ∧ KOS b.2 os))) := by
  unfold fX8_readOrders
  refine wp_nm (wp_nm ?_)
  obtain ⟨M2, hM2⟩ : ∃ M2, M2 = kset (kset M 115 5 0) 115 4 0 := ⟨_, rfl⟩
  rw [← hM2]
  have p2 : PK t ln M2 0 := ⟨by rw [hM2, kset_c, if_neg (by decide), kset_c, if_neg (by decide)]; exact h3, by rw [hM2, kset_c, if_neg (by decide), kset_c, if_pos rfl]; rfl, fun j hj => by rw [hM2, kset_nc (by decide), kset_nc (by decide)]; exact hx j hj⟩
  have f2 : KFA M M2 := ⟨fun a h1 h2 h3 => by rw [hM2, kset_nc h1, kset_nc h1], fun j h1 h2 => by rw [hM2, kset_c, if_neg h1, kset_c, if_neg h2]⟩
  have c2 : M2.1 115 4 = nI 0 := by rw [hM2, kset_c, if_pos rfl]; rfl
  refine wp_for 21 (fun (k : Nat) (s : Int32 × KS) => s.1 = nI k ∧ ∃ a os, PK t ln s.2 a ∧ a ≤ ln ∧ 3 * k ≤ a ∧ os.length = k ∧ KOS s.2 os ∧ s.2.1 115 4 = nI k ∧ KFA M s.2 ∧ prs t ln 21 0 = comb os (prs t ln (21 - k) a)) (fun k s rec hk hI hrec => ?_) (by decide) (i := 0) (s := ((0 : Int32), M2)) (Nat.zero_le _) ⟨rfl, 0, [], p2, Nat.zero_le _, Nat.le_refl _, rfl, fun q hq => absurd hq (Nat.not_lt_zero _), c2, f2, ?_⟩
  · obtain ⟨v3, M4⟩ := s
    obtain ⟨hv, a, os, hP, ha, h3a, hos, hK, h4, hF, hR⟩ := hI
    have hv : v3 = nI k := hv
    subst hv
    have hP : PK t ln M4 a := hP
    have hK : KOS M4 os := hK
    have h4 : M4.1 115 4 = nI k := h4
    have hF : KFA M M4 := hF
    have hk21 : k < 21 := by omega
    have e1 : (nI k + 1 : Int32) = nI (k + 1) := by rw [li1, nI_add]
    rw [fX8_readOrders_L12_u]
    refine wp_neg (nI_ge hk21 (by decide)) (wp_bd2 (wp_mono (kpord_wp hP ha h60 ht hk21) ?_))
    rintro ⟨v7, M6⟩ ⟨hP6, f6, h6⟩
    have hP6 : PK t ln M6 (pOrd t ln a).1 := hP6
    have f6 : KFR k M4 M6 := f6
    have hb := pOrd_v (t := t) ha
    have hF6 : KFA M M6 := ⟨fun a h1 h2 h3 => (f6.1 a h1 h2 h3).trans (hF.1 a h1 h2 h3), fun j h1 h2 => (f6.2.1 j h2).trans (hF.2 j h1 h2)⟩
    rcases h6 with ⟨o1, o2⟩ | ⟨o, o1, o2, o3⟩
    · have o2 : v7 = 0 := o2
      subst o2
      have o1 : (pOrd t ln a).2 = none := o1
      refine wp_pos rfl (wp_some ⟨hF6, Or.inl ⟨(pOrd t ln a).1, ?_, hP6.2.1, by have := hb.1.2; omega⟩⟩)
      rw [hR, show 21 - k = (20 - k) + 1 by omega, prs_n (p := (pOrd t ln a).1) (by rw [← o1])]
      rfl
    · have o2 : v7 = 1 := o2
      subst o2
      have o1 : (pOrd t ln a).2 = some o := o1
      have o3 : KOr M6 k o := o3
      have hv := hb.2 o o1
      have hple : (pOrd t ln a).1 ≤ ln := hb.1.2
      have hR2 : prs t ln 21 0 = comb (os ++ [o]) (aft t ln (20 - k) (pOrd t ln a).1) := by
        rw [hR, show 21 - k = (20 - k) + 1 by omega, prs_s (p := (pOrd t ln a).1) (o := o) (by rw [← o1]), comb_2]
      generalize (pOrd t ln a).1 = p at *
      refine wp_neg ni1 (wp_nm ?_)
      have h46 : M6.1 115 4 = nI k := by rw [f6.2.1 4 (by decide)]; exact h4
      rw [h46, e1]
      obtain ⟨M8, hM8⟩ : ∃ M8, M8 = kset M6 115 4 (nI (k + 1)) := ⟨_, rfl⟩
      rw [← hM8]
      have hP8 : PK t ln M8 p := ⟨by rw [hM8, kset_c, if_neg (by decide)]; exact hP6.1, by rw [hM8, kset_c, if_neg (by decide)]; exact hP6.2.1, fun j hj => by rw [hM8, kset_nc (by decide)]; exact hP6.2.2 j hj⟩
      have h48 : M8.1 115 4 = nI (k + 1) := by rw [hM8, kset_c, if_pos rfl]
      have hF8 : KFA M M8 := ⟨fun a h1 h2 h3 => by rw [hM8, kset_nc h1]; exact hF6.1 a h1 h2 h3, fun j h1 h2 => by rw [hM8, kset_c, if_neg h1]; exact hF6.2 j h1 h2⟩
      have hl1 : (os ++ [o]).length = k + 1 := by rw [List.length_append, hos]; rfl
      have hK8 : KOS M8 (os ++ [o]) := fun q hq => by
        rw [gdO_app]
        by_cases e : q = os.length
        · rw [if_pos e, e, hos, hM8]
          exact ⟨hv.1, o3.s⟩
        · rw [if_neg e, hM8]
          have := hK q (by omega)
          exact ⟨this.1, (this.2.k f6 (by omega)).s⟩
      rw [hP8.1, hP8.2.1]
      unfold aft at hR2
      rcases Nat.lt_or_ge p ln with hlt | hge
      · rw [if_pos hlt] at hR2
        refine wp_pos (nI_lt hlt (by omega)) (wp_bd2 (wp_mono (skip_c (lo := 59) hP8 (Nat.le_of_lt hlt) h60 ht (by decide)) ?_))
        rintro ⟨v10, M9⟩ ⟨f9, h9⟩
        have f9 : RDF M8 M9 := f9
        have hF9 : KFA M M9 := ⟨fun a h1 h2 h3 => (f9.1 a h1).trans (hF8.1 a h1 h2 h3), fun j h1 h2 => (f9.2 j h2).trans (hF8.2 j h1 h2)⟩
        rcases h9 with ⟨d1, d2, d3, d4, d5⟩ | ⟨d1, d2, d3, d4⟩
        · have d3 : v10 = 1 := d3
          subst d3
          rw [if_pos d2] at hR2
          refine wp_neg ni1 (wp_nm ?_)
          refine hrec _ hk21 ⟨rfl, p + 1, os ++ [o], d5, d4, by have := hv.2; omega, hl1, hK8.r f9, ?_, hF9, ?_⟩
          · show M9.1 115 4 = _
            rw [f9.2 4 (by decide)]; exact h48
          · rw [show 21 - (k + 1) = 20 - k by omega]; exact hR2
        · have d3 : v10 = 0 := d3
          subst d3
          have d4 : PK t ln M9 p := d4
          rw [if_neg (fun z => d2 ⟨hlt, z⟩)] at hR2
          exact wp_pos rfl (wp_some ⟨hF9, Or.inl ⟨p, hR2, d4.2.1, by omega⟩⟩)
      · rw [if_neg (by omega)] at hR2
        refine wp_neg (nI_nlt hge (by omega)) (wp_some ⟨hF8, Or.inr ⟨os ++ [o], ?_, rfl, by omega, by rw [hl1]; exact h48, hK8⟩⟩)
        rw [hR2]
        show Sum.inr ((os ++ [o]) ++ []) = _
        rw [List.append_nil]
  · show prs t ln 21 0 = comb [] (prs t ln 21 0)
    cases prs t ln 21 0 <;> rfl
end KAL
