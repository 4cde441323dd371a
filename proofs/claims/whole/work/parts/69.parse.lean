/-! ===== texts: how they are read; the class's reading ===== -/
abbrev PR (α : Type) : Type := Nat × Option α
def pb {α β : Type} (x : PR α) (f : Nat → PR β) : PR β := match x.2 with
  | some _ => f x.1
  | none => (x.1, none)
theorem pb_s {α β : Type} {x : PR α} {p : Nat} {v : α} {f : Nat → PR β} (h : x = (p, some v)) : pb x f = f p := by rw [h]; rfl
theorem pb_n {α β : Type} {x : PR α} {p : Nat} {f : Nat → PR β} (h : x = (p, none)) : pb x f = (p, none) := by rw [h]; rfl
/-- an order: its sign, a number, two persons, the conditions -/
abbrev ORD : Type := Nat × Nat × Nat × Nat × (Nat → Int32)
def ccd (neg : Bool) (r f s : Nat) : Int32 := if neg then -(nI (1 + 9 * r + 3 * f + s)) else nI (1 + 9 * r + 3 * f + s)
section PRS
variable (t : Nat → Nat) (ln : Nat)
def pS (lo n at_ : Nat) : PR Nat := if at_ < ln ∧ lo ≤ t at_ ∧ t at_ < lo + n then (at_ + 1, some (t at_ - lo)) else (at_, none)
def pq1 (a : Nat) : PR Nat := pS t ln 48 6 a
def pq2 (a : Nat) : PR Nat := pb (pq1 t ln a) (pS t ln 97 6)
def pq3 (a : Nat) : PR Nat := pb (pq2 t ln a) (pS t ln 97 6)
def pFact (kd a : Nat) : PR ORD := ((pq3 t ln a).1, (pq3 t ln a).2.map (fun y => (kd, (pq1 t ln a).2.getD 0, (pq2 t ln a).2.getD 0, y, fun _ => 0)))
def pDrop (a : Nat) : PR ORD := ((pS t ln 48 10 a).1, (pS t ln 48 10 a).2.map (fun d => (100, d, 0, 0, fun _ => 0)))
def isN (a : Nat) : Bool := decide (a < ln ∧ t a = 33)
def pe0 (a : Nat) : Nat := if isN t ln a then a + 1 else a
def pe1 (a : Nat) : PR Nat := pS t ln 48 6 (pe0 t ln a)
def pe2 (a : Nat) : PR Nat := pb (pe1 t ln a) (pS t ln 120 3)
def pe3 (a : Nat) : PR Nat := pb (pe2 t ln a) (pS t ln 120 3)
def pCond (a : Nat) : PR Int32 := ((pe3 t ln a).1, (pe3 t ln a).2.map (fun s => ccd (isN t ln a) ((pe1 t ln a).2.getD 0) ((pe2 t ln a).2.getD 0) s))
def stc (a : Nat) : Bool := decide (a < ln ∧ (t a = 33 ∨ 48 ≤ t a ∧ t a < 54))
def pCondO (a : Nat) : PR Int32 := if stc t ln a then pCond t ln a else (a, some 0)
def pr1 (a : Nat) : PR Nat := pS t ln 48 6 a
def pr2 (a : Nat) : PR Nat := pb (pr1 t ln a) (pS t ln 61 1)
def pr3 (a : Nat) : PR Int32 := pb (pr2 t ln a) (pCond t ln)
def pr4 (a : Nat) : PR Int32 := pb (pr3 t ln a) (pCondO t ln)
def pr5 (a : Nat) : PR Int32 := pb (pr4 t ln a) (pCondO t ln)
def pRule (a : Nat) : PR ORD := ((pr5 t ln a).1, (pr5 t ln a).2.map (fun c => (114, (pr1 t ln a).2.getD 0, 0, 0, c3 ((pr3 t ln a).2.getD 0) ((pr4 t ln a).2.getD 0) c)))
def pOrd (a : Nat) : PR ORD := if a < ln ∧ t a = 43 then pFact t ln 43 (a + 1) else if a < ln ∧ t a = 45 then pFact t ln 45 (a + 1) else if a < ln ∧ t a = 114 then pRule t ln (a + 1) else if a < ln ∧ t a = 100 then pDrop t ln (a + 1) else (a, none)
end PRS
/-- an order that can be in a text -/
def OV (o : ORD) : Prop := ((o.1 = 43 ∨ o.1 = 45) ∧ o.2.1 < 6 ∧ o.2.2.1 < 6 ∧ o.2.2.2.1 < 6) ∨ (o.1 = 114 ∧ o.2.1 < 6 ∧ VC o.2.2.2.2) ∨ (o.1 = 100 ∧ o.2.1 < 10)
section PRT
variable {t : Nat → Nat} {ln : Nat}
theorem pS_c (lo n a : Nat) : (∃ d, d < n ∧ a < ln ∧ t a = lo + d ∧ pS t ln lo n a = (a + 1, some d)) ∨ (¬ (a < ln ∧ lo ≤ t a ∧ t a < lo + n) ∧ pS t ln lo n a = (a, none)) := by
  unfold pS
  by_cases h : a < ln ∧ lo ≤ t a ∧ t a < lo + n
  · rw [if_pos h]
    exact Or.inl ⟨t a - lo, by omega, h.1, by omega, rfl⟩
  · rw [if_neg h]
    exact Or.inr ⟨h, rfl⟩
/-- where a reading ends -/
def pbd {α : Type} (a ln : Nat) (x : PR α) : Prop := a ≤ x.1 ∧ x.1 ≤ ln
theorem pS_b {lo n a : Nat} (h : a ≤ ln) : pbd a ln (pS t ln lo n a) := by
  rcases pS_c (t := t) (ln := ln) lo n a with ⟨d, h1, h2, h3, h4⟩ | ⟨h1, h2⟩
  · rw [h4]; exact ⟨Nat.le_succ a, h2⟩
  · rw [h2]; exact ⟨Nat.le_refl a, h⟩
theorem pb_b {α β : Type} {a : Nat} {x : PR α} {f : Nat → PR β} (h : pbd a ln x) (k : ∀ p, p ≤ ln → pbd p ln (f p)) : pbd a ln (pb x f) := by
  obtain ⟨p, v⟩ := x
  have h' : a ≤ p ∧ p ≤ ln := h
  cases v with
  | none => exact h
  | some v => exact ⟨Nat.le_trans h'.1 (k p h'.2).1, (k p h'.2).2⟩
theorem pbd.map {α β : Type} {a : Nat} {x : PR α} {o : Option β} (h : pbd a ln x) : pbd a ln ((x.1, o) : PR β) := h
theorem pe0_b {a : Nat} (h : a ≤ ln) : a ≤ pe0 t ln a ∧ pe0 t ln a ≤ ln := by
  unfold pe0 isN
  by_cases q : a < ln ∧ t a = 33
  · rw [decide_eq_true q, if_pos rfl]; omega
  · rw [decide_eq_false q, if_neg (by decide)]; omega
theorem pCond_b {a : Nat} (h : a ≤ ln) : pbd a ln (pCond t ln a) := by
  have h0 := pe0_b (t := t) h
  have h1 : pbd (pe0 t ln a) ln (pe3 t ln a) := pb_b (pb_b (pS_b h0.2) (fun p hp => pS_b hp)) (fun p hp => pS_b hp)
  exact ⟨Nat.le_trans h0.1 h1.1, h1.2⟩
theorem pCondO_b {a : Nat} (h : a ≤ ln) : pbd a ln (pCondO t ln a) := by
  unfold pCondO
  cases stc t ln a
  · rw [if_neg (by decide)]; exact ⟨Nat.le_refl a, h⟩
  · rw [if_pos rfl]; exact pCond_b h
/-- a condition that was read -/
theorem pCond_v {a p : Nat} {c : Int32} (h : pCond t ln a = (p, some c)) : ka c ≤ 54 ∧ c ≠ 0 := by
  have cc : ∀ (neg : Bool) (r f s : Nat), r < 6 → f < 3 → s < 3 → ka (ccd neg r f s) ≤ 54 ∧ ccd neg r f s ≠ 0 := fun neg r f s hr hf hs => by
    have e : (nI (1 + 9 * r + 3 * f + s)).toInt = ((1 + 9 * r + 3 * f + s : Nat) : Int) := nI_toInt (by omega)
    have z0 : (0 : Int32).toInt = 0 := by decide
    have en : (-(nI (1 + 9 * r + 3 * f + s))).toInt = -((1 + 9 * r + 3 * f + s : Nat) : Int) := by rw [fb_negI (by rw [e]; omega), e]
    unfold ccd ka
    cases neg
    · rw [if_neg (by decide), e]
      refine ⟨by omega, fun z => ?_⟩
      have := congrArg Int32.toInt z
      rw [e, z0] at this
      omega
    · rw [if_pos rfl, en]
      refine ⟨by omega, fun z => ?_⟩
      have := congrArg Int32.toInt z
      rw [en, z0] at this
      omega
  unfold pCond at h
  rcases pS_c (t := t) (ln := ln) 48 6 (pe0 t ln a) with ⟨r, r1, r2, r3, r4⟩ | ⟨r1, r2⟩
  · have h1 : pe1 t ln a = (pe0 t ln a + 1, some r) := r4
    have h2 : pe2 t ln a = pS t ln 120 3 (pe0 t ln a + 1) := pb_s h1
    rcases pS_c (t := t) (ln := ln) 120 3 (pe0 t ln a + 1) with ⟨f, f1, f2, f3, f4⟩ | ⟨f1, f2⟩
    · rw [f4] at h2
      have h3 : pe3 t ln a = pS t ln 120 3 (pe0 t ln a + 1 + 1) := pb_s h2
      rcases pS_c (t := t) (ln := ln) 120 3 (pe0 t ln a + 1 + 1) with ⟨s, s1, s2, s3, s4⟩ | ⟨s1, s2⟩
      · rw [s4] at h3
        rw [h3, h1, h2] at h
        have hc : ccd (isN t ln a) r f s = c := Option.some.inj (Prod.mk.inj h).2
        rw [← hc]
        exact cc _ _ _ _ r1 f1 s1
      · rw [s2] at h3
        rw [h3] at h
        exact absurd (Prod.mk.inj h).2 (by simp)
    · rw [f2] at h2
      have h3 : pe3 t ln a = (pe0 t ln a + 1, none) := pb_n h2
      rw [h3] at h
      exact absurd (Prod.mk.inj h).2 (by simp)
  · have h1 : pe1 t ln a = (pe0 t ln a, none) := r2
    have h2 : pe2 t ln a = (pe0 t ln a, none) := pb_n h1
    have h3 : pe3 t ln a = (pe0 t ln a, none) := pb_n h2
    rw [h3] at h
    exact absurd (Prod.mk.inj h).2 (by simp)
theorem pr_eta {α : Type} (x : PR α) : (∃ v, x = (x.1, some v)) ∨ x = (x.1, none) := by
  obtain ⟨p, v⟩ := x
  cases v with
  | none => exact Or.inr rfl
  | some v => exact Or.inl ⟨v, rfl⟩
theorem pOrd_v {a : Nat} (ha : a ≤ ln) : pbd a ln (pOrd t ln a) ∧ ∀ o, (pOrd t ln a).2 = some o → OV o ∧ a + 2 ≤ (pOrd t ln a).1 := by
  have fact : ∀ kd, (kd = 43 ∨ kd = 45) → a < ln → pbd a ln (pFact t ln kd (a + 1)) ∧ ∀ o, (pFact t ln kd (a + 1)).2 = some o → OV o ∧ a + 2 ≤ (pFact t ln kd (a + 1)).1 := by
    intro kd hkd hlt
    have hb : pbd (a + 1) ln (pq3 t ln (a + 1)) := pb_b (pb_b (pS_b hlt) (fun p hp => pS_b hp)) (fun p hp => pS_b hp)
    refine ⟨⟨Nat.le_trans (Nat.le_succ a) hb.1, hb.2⟩, fun o ho => ?_⟩
    have ho' : (pq3 t ln (a + 1)).2.map (fun y => ((kd, (pq1 t ln (a + 1)).2.getD 0, (pq2 t ln (a + 1)).2.getD 0, y, fun _ => 0) : ORD)) = some o := ho
    show OV o ∧ a + 2 ≤ (pq3 t ln (a + 1)).1
    rcases pS_c (t := t) (ln := ln) 48 6 (a + 1) with ⟨r, r1, r2, r3, r4⟩ | ⟨r1, r2⟩
    · have h1 : pq1 t ln (a + 1) = (a + 1 + 1, some r) := r4
      have h2 : pq2 t ln (a + 1) = pS t ln 97 6 (a + 1 + 1) := pb_s h1
      rcases pS_c (t := t) (ln := ln) 97 6 (a + 1 + 1) with ⟨f, f1, f2, f3, f4⟩ | ⟨f1, f2⟩
      · rw [f4] at h2
        have h3 : pq3 t ln (a + 1) = pS t ln 97 6 (a + 1 + 1 + 1) := pb_s h2
        rcases pS_c (t := t) (ln := ln) 97 6 (a + 1 + 1 + 1) with ⟨s, s1, s2, s3, s4⟩ | ⟨s1, s2⟩
        · rw [s4] at h3
          rw [h3, h1, h2] at ho'
          rw [h3]
          have hc := Option.some.inj ho'
          rw [← hc]
          exact ⟨Or.inl ⟨hkd, r1, f1, s1⟩, by show a + 2 ≤ a + 1 + 1 + 1 + 1; omega⟩
        · rw [s2] at h3
          rw [h3] at ho'
          exact absurd ho' (by simp)
      · rw [f2] at h2
        have h3 : pq3 t ln (a + 1) = (a + 1 + 1, none) := pb_n h2
        rw [h3] at ho'
        exact absurd ho' (by simp)
    · have h1 : pq1 t ln (a + 1) = (a + 1, none) := r2
      have h2 : pq2 t ln (a + 1) = (a + 1, none) := pb_n h1
      have h3 : pq3 t ln (a + 1) = (a + 1, none) := pb_n h2
      rw [h3] at ho'
      exact absurd ho' (by simp)
  unfold pOrd
  by_cases q1 : a < ln ∧ t a = 43
  · rw [if_pos q1]; exact fact 43 (Or.inl rfl) q1.1
  · rw [if_neg q1]
    by_cases q2 : a < ln ∧ t a = 45
    · rw [if_pos q2]; exact fact 45 (Or.inr rfl) q2.1
    · rw [if_neg q2]
      by_cases q3 : a < ln ∧ t a = 114
      · rw [if_pos q3]
        have b1 : pbd (a + 1) ln (pr1 t ln (a + 1)) := pS_b q3.1
        have b2 : pbd (a + 1) ln (pr2 t ln (a + 1)) := pb_b b1 (fun p hp => pS_b hp)
        have b3 : pbd (a + 1) ln (pr3 t ln (a + 1)) := pb_b b2 (fun p hp => pCond_b hp)
        have b4 : pbd (a + 1) ln (pr4 t ln (a + 1)) := pb_b b3 (fun p hp => pCondO_b hp)
        have b5 : pbd (a + 1) ln (pr5 t ln (a + 1)) := pb_b b4 (fun p hp => pCondO_b hp)
        refine ⟨⟨Nat.le_trans (Nat.le_succ a) b5.1, b5.2⟩, fun o ho => ?_⟩
        have ho' : (pr5 t ln (a + 1)).2.map (fun c => ((114, (pr1 t ln (a + 1)).2.getD 0, 0, 0, c3 ((pr3 t ln (a + 1)).2.getD 0) ((pr4 t ln (a + 1)).2.getD 0) c) : ORD)) = some o := ho
        show OV o ∧ a + 2 ≤ (pr5 t ln (a + 1)).1
        have no : ∀ {x : PR Int32} {p : Nat}, pr5 t ln (a + 1) = x → x = (p, none) → False := fun {x p} hx hn => by
          rw [hx, hn] at ho'
          exact absurd ho' (by simp)
        rcases pS_c (t := t) (ln := ln) 48 6 (a + 1) with ⟨r, g1, g2, g3, g4⟩ | ⟨g1, g2⟩
        · have h1 : pr1 t ln (a + 1) = (a + 1 + 1, some r) := g4
          rcases pr_eta (pr2 t ln (a + 1)) with ⟨u, e2⟩ | e2
          · have c2 : a + 1 + 1 ≤ (pr2 t ln (a + 1)).1 := by
              have : pr2 t ln (a + 1) = pS t ln 61 1 (a + 1 + 1) := pb_s h1
              rw [this]
              exact (pS_b g2).1
            have h3 : pr3 t ln (a + 1) = pCond t ln (pr2 t ln (a + 1)).1 := pb_s e2
            have c3b : (pr2 t ln (a + 1)).1 ≤ (pr3 t ln (a + 1)).1 := by rw [h3]; exact (pCond_b b2.2).1
            rcases pr_eta (pr3 t ln (a + 1)) with ⟨x1, e3⟩ | e3
            · have v1 := pCond_v (h3 ▸ e3)
              have h4 : pr4 t ln (a + 1) = pCondO t ln (pr3 t ln (a + 1)).1 := pb_s e3
              have c4b : (pr3 t ln (a + 1)).1 ≤ (pr4 t ln (a + 1)).1 := by rw [h4]; exact (pCondO_b b3.2).1
              rcases pr_eta (pr4 t ln (a + 1)) with ⟨x2, e4⟩ | e4
              · have h5 : pr5 t ln (a + 1) = pCondO t ln (pr4 t ln (a + 1)).1 := pb_s e4
                have c5b : (pr4 t ln (a + 1)).1 ≤ (pr5 t ln (a + 1)).1 := by rw [h5]; exact (pCondO_b b4.2).1
                rcases pr_eta (pr5 t ln (a + 1)) with ⟨x3, e5⟩ | e5
                · have cov : ∀ p q c, pCondO t ln p = (q, some c) → ka c ≤ 54 ∧ (c = 0 → q = p ∧ stc t ln p = false) := fun p q c hp => by
                    unfold pCondO at hp
                    cases hs : stc t ln p
                    · rw [hs, if_neg (by decide)] at hp
                      have hc := Option.some.inj (Prod.mk.inj hp).2
                      rw [← hc]
                      exact ⟨by decide, fun _ => ⟨(Prod.mk.inj hp).1.symm, rfl⟩⟩
                    · rw [hs, if_pos rfl] at hp
                      have := pCond_v hp
                      exact ⟨this.1, fun z => absurd z this.2⟩
                  have v2 := cov _ _ _ (h4 ▸ e4)
                  have v3 := cov _ _ _ (h5 ▸ e5)
                  rw [e5, e4, e3, h1] at ho'
                  have hc := Option.some.inj ho'
                  refine ⟨?_, by omega⟩
                  rw [← hc]
                  refine Or.inr (Or.inl ⟨rfl, g1, v1.1, v1.2, v2.1, v3.1, fun z => ?_⟩)
                  have z2 : x2 = 0 := z
                  have z3 := v2.2 z2
                  show x3 = 0
                  have h6 : pCondO t ln (pr4 t ln (a + 1)).1 = ((pr4 t ln (a + 1)).1, some 0) := by
                    have e43 : (pr4 t ln (a + 1)).1 = (pr3 t ln (a + 1)).1 := by rw [h4]; exact z3.1
                    unfold pCondO
                    rw [e43, z3.2, if_neg (by decide)]
                  rw [h5, h6] at e5
                  exact (Option.some.inj (Prod.mk.inj e5).2).symm
                · exact absurd e5 (fun z => no rfl z)
              · have h5 : pr5 t ln (a + 1) = ((pr4 t ln (a + 1)).1, none) := pb_n e4
                exact absurd h5 (fun z => no rfl z)
            · have h4 : pr4 t ln (a + 1) = ((pr3 t ln (a + 1)).1, none) := pb_n e3
              have h5 : pr5 t ln (a + 1) = ((pr3 t ln (a + 1)).1, none) := pb_n h4
              exact absurd h5 (fun z => no rfl z)
          · have h3 : pr3 t ln (a + 1) = ((pr2 t ln (a + 1)).1, none) := pb_n e2
            have h4 : pr4 t ln (a + 1) = ((pr2 t ln (a + 1)).1, none) := pb_n h3
            have h5 : pr5 t ln (a + 1) = ((pr2 t ln (a + 1)).1, none) := pb_n h4
            exact absurd h5 (fun z => no rfl z)
        · have h1 : pr1 t ln (a + 1) = (a + 1, none) := g2
          have h2 : pr2 t ln (a + 1) = (a + 1, none) := pb_n h1
          have h3 : pr3 t ln (a + 1) = (a + 1, none) := pb_n h2
          have h4 : pr4 t ln (a + 1) = (a + 1, none) := pb_n h3
          have h5 : pr5 t ln (a + 1) = (a + 1, none) := pb_n h4
          exact absurd h5 (fun z => no rfl z)
      · rw [if_neg q3]
        by_cases q4 : a < ln ∧ t a = 100
        · rw [if_pos q4]
          have hb : pbd (a + 1) ln (pS t ln 48 10 (a + 1)) := pS_b q4.1
          refine ⟨⟨Nat.le_trans (Nat.le_succ a) hb.1, hb.2⟩, fun o ho => ?_⟩
          have ho' : (pS t ln 48 10 (a + 1)).2.map (fun d => ((100, d, 0, 0, fun _ => 0) : ORD)) = some o := ho
          show OV o ∧ a + 2 ≤ (pS t ln 48 10 (a + 1)).1
          rcases pS_c (t := t) (ln := ln) 48 10 (a + 1) with ⟨r, g1, g2, g3, g4⟩ | ⟨g1, g2⟩
          · rw [g4] at ho' ⊢
            have hc := Option.some.inj ho'
            rw [← hc]
            exact ⟨Or.inr (Or.inr ⟨rfl, g1⟩), by show a + 2 ≤ a + 1 + 1; omega⟩
          · rw [g2] at ho'
            exact absurd ho' (by simp)
        · rw [if_neg q4]
          exact ⟨⟨Nat.le_refl a, ha⟩, fun o ho => absurd ho (by simp)⟩
end PRT
