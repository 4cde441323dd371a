/-! ===== the reference: rules, layers ===== -/
/-- the first m rules, in a row of the reference -/
def MB (f : Nat → Int32) (m : Nat) (R : RS) : Prop := ∀ r, r < m → f (217 + 4 * r) = nI (R.2.1 r) ∧ ∀ j, j < 3 → f (217 + 4 * r + 1 + j) = R.2.2 r j
def hl (c : Int32) (l : Nat) : Bool := decide (c ≠ 0) && (k1 c == l || k2 c == l)
def rhl (R : RS) (r l : Nat) : Bool := hl (R.2.2 r 0) l || hl (R.2.2 r 1) l || hl (R.2.2 r 2) l
theorem rhl_2 (R : RS) (r : Nat) : rhl R r 2 = zhas R r := rfl
section RLA
variable {N : KS} {m r : Nat} {R : RS}
theorem rhead_eq (h : MB (N.1 1) m R) (hr : r < m) (hm : m ≤ 10) : fX10_head N (nI r) = some (nI (R.2.1 r)) := by
  unfold fX10_head
  simp (disch := omega) only [li0, li1, li2, li3, li4, li5, li6, li8, li9, li10, li11, li20, li21, li24, li32, li33, li36, li37, li40, li43, li45, li48, li53, li54, li57, li59, li60, li61, li63, li84, li97, li100, li102, li114, li120, li122, li216, li217, li257, li300, li1296, li1799, li2056, nI_add, pk_mul, nI_subN, pk_div, jremN, nI_leI, nI_ltI, nI_eq, nI_clamp, inb_N, if_pos, if_neg, if_true, if_false, nm, jn, bd2, Option.bind_some, (h r hr).1]
theorem rcond_eq (h : MB (N.1 1) m R) (hr : r < m) (hm : m ≤ 10) {j : Nat} (hj : j < 3) : fX10_conditionOf N (nI r) (nI j) = some (R.2.2 r j) := by
  unfold fX10_conditionOf
  simp (disch := omega) only [li0, li1, li2, li3, li4, li5, li6, li8, li9, li10, li11, li20, li21, li24, li32, li33, li36, li37, li40, li43, li45, li48, li53, li54, li57, li59, li60, li61, li63, li84, li97, li100, li102, li114, li120, li122, li216, li217, li257, li300, li1296, li1799, li2056, nI_add, pk_mul, nI_subN, pk_div, jremN, nI_leI, nI_ltI, nI_eq, nI_clamp, inb_N, if_pos, if_neg, if_true, if_false, nm, jn, bd2, Option.bind_some, (h r hr).2 j hj]
theorem rrel_eq {c : Int32} (h : ka c ≤ 54) (h0 : c ≠ 0) : fX10_relationIn c = nI (kr c) := by
  revert h0
  exact kc_all (P := fun c => c ≠ 0 → fX10_relationIn c = nI (kr c)) (by decide +kernel) h
theorem rlet0_eq {c : Int32} (h : ka c ≤ 54) (h0 : c ≠ 0) : fX10_letterIn c 0 = some (nI (k1 c)) := by
  revert h0
  exact kc_all (P := fun c => c ≠ 0 → fX10_letterIn c 0 = some (nI (k1 c))) (by decide +kernel) h
theorem rlet1_eq {c : Int32} (h : ka c ≤ 54) (h0 : c ≠ 0) : fX10_letterIn c 1 = some (nI (k2 c)) := by
  revert h0
  exact kc_all (P := fun c => c ≠ 0 → fX10_letterIn c 1 = some (nI (k2 c))) (by decide +kernel) h
theorem rhasl_eq {c : Int32} (h : ka c ≤ 54) {l : Nat} (hl' : l < 3) : fX10_hasLetter c (nI l) = some (bI (hl c l)) := by
  match l, hl' with
  | 0, _ => exact kc_all (P := fun c => fX10_hasLetter c (nI 0) = some (bI (hl c 0))) (by decide +kernel) h
  | 1, _ => exact kc_all (P := fun c => fX10_hasLetter c (nI 1) = some (bI (hl c 1))) (by decide +kernel) h
  | 2, _ => exact kc_all (P := fun c => fX10_hasLetter c (nI 2) = some (bI (hl c 2))) (by decide +kernel) h
def orj (f : Nat → Bool) : Nat → Bool
  | 0 => false
  | n + 1 => orj f n || f n
theorem rrul_eq (h : MB (N.1 1) m R) (hr : r < m) (hm : m ≤ 10) (hO : OK1 R r) {l : Nat} (hl' : l < 3) : fX10_ruleHas N (nI r) (nI l) = some (bI (rhl R r l)) := by
  unfold fX10_ruleHas
  refine wp_is (wp_for 3 (fun i s => s = (bI (orj (fun j => hl (R.2.2 r j) l) i), nI i)) (fun i s rec hi hI hrec => ?_) (by decide) (Nat.zero_le _) rfl)
  subst hI
  rw [fX10_ruleHas_L5_u]
  rcases Nat.lt_or_ge i 3 with hlt | hge
  · simp (disch := omega) only [li0, li1, li2, li3, li4, li5, li6, li8, li9, li10, li11, li20, li21, li24, li32, li33, li36, li37, li40, li43, li45, li48, li53, li54, li57, li59, li60, li61, li63, li84, li97, li100, li102, li114, li120, li122, li216, li217, li257, li300, li1296, li1799, li2056, nI_add, pk_mul, nI_subN, pk_div, jremN, nI_leI, nI_ltI, nI_eq, nI_clamp, inb_N, if_pos, if_neg, if_true, if_false, nm, jn, bd2, Option.bind_some, rcond_eq h hr hm hlt, rhasl_eq (hO.2 i hlt) hl', if_bI]
    cases hb : orj (fun j => hl (R.2.2 r j) l) i
    · rw [if_neg (by decide)]
      cases hc : hl (R.2.2 r i) l
      · rw [if_neg (by decide)]
        refine hrec _ hlt ?_
        rw [Prod.mk.injEq]
        refine ⟨?_, rfl⟩
        show nI 0 = bI (orj (fun j => hl (R.2.2 r j) l) i || hl (R.2.2 r i) l)
        rw [hb, hc]; rfl
      · rw [if_pos rfl]
        refine hrec _ hlt ?_
        rw [Prod.mk.injEq]
        refine ⟨?_, rfl⟩
        show nI 1 = bI (orj (fun j => hl (R.2.2 r j) l) i || hl (R.2.2 r i) l)
        rw [hb, hc]; rfl
    · rw [if_pos rfl]
      refine hrec _ hlt ?_
      rw [Prod.mk.injEq]
      refine ⟨?_, rfl⟩
      show nI 1 = bI (orj _ i || _)
      rw [hb]; rfl
  · have : i = 3 := by omega
    subst this
    simp (disch := omega) only [li0, li1, li2, li3, li4, li5, li6, li8, li9, li10, li11, li20, li21, li24, li32, li33, li36, li37, li40, li43, li45, li48, li53, li54, li57, li59, li60, li61, li63, li84, li97, li100, li102, li114, li120, li122, li216, li217, li257, li300, li1296, li1799, li2056, nI_add, pk_mul, nI_subN, pk_div, jremN, nI_leI, nI_ltI, nI_eq, nI_clamp, inb_N, if_pos, if_neg, if_true, if_false, nm, jn, bd2, Option.bind_some, fX10_ruleHas_X5]
    refine wp_pos (bI_B _) (wp_some ?_)
    show bI (((false || _) || _) || _) = _
    rw [Bool.false_or]
    rfl
/-- the reference's layers -/
def LR (N : KS) (A : Nat → Nat) : Prop := ∀ q, q < 6 → N.1 5 q = nI (A q)
abbrev c5 : Nat → Prop := fun q => q = 5
theorem MB.fr {N N' : KS} {P : Nat → Prop} (h : MB (N.1 1) m R) (k : FR P N N') (h1 : ¬ P 1) : MB (N'.1 1) m R := by rw [k.1 _ h1]; exact h
theorem LR.set {N : KS} {A : Nat → Nat} (h : LR N A) {q v : Nat} (hq : q < 6) : LR (kset N 5 q (nI v)) (updN A q v) := fun p hp => by
  rw [kset_c]
  unfold updN
  by_cases e : p = q
  · rw [if_pos e, if_pos e]
  · rw [if_neg e, if_neg e]; exact h p hp
/-- one condition's number, in both of the reference's passes -/
theorem sgn_lst {c : Int32} : (0 ≤ c ↔ ¬ c < 0) := by simp only [fa_le, fa_lt]; omega
theorem rset_wp (hm : m ≤ 10) (hO : ∀ r, r < m → OK1 R r) (A0 : Nat → Nat) {P : Int32 × KS → Prop} {B : Nat} (hB2 : B ≤ 100000) {rec0 : Int32 × KS → Option (Int32 × KS)} {N0 : KS} (hR : MB (N0.1 1) m R) (hA0 : LR N0 A0) (hB : ∀ q, q < 6 → A0 q ≤ B)
    (hz : (¬ LYD R m) → ∀ N', FR c5 N0 N' → P (0, N')) (hAL : ∀ L, Sol R m L → ∀ q, q < 6 → A0 q ≤ L q)
    (hk : ∀ fl A' N', LR N' A' → PS R m B 5 A0 A' fl (3 * m) → FR c5 N0 N' → wp (rec0 (bI (!fl), N')) P) :
    wp (lp (fX10_settles_L10 (nI m)) (fX10_settles_X10 rec0) 1000000 (1, 0, N0)) P := by
  refine wp_for (3 * m) (fun (i : Nat) (s : Int32 × Int32 × KS) => ∃ A' fl, s.1 = bI (!fl) ∧ s.2.1 = nI i ∧ LR s.2.2 A' ∧ PS R m B 5 A0 A' fl i ∧ FR c5 N0 s.2.2) (fun i s rec hi hI hrec => ?_) (by omega) (Nat.zero_le _) ⟨A0, false, rfl, rfl, hA0, PS.z hB, FR.rf⟩
  obtain ⟨v, w, N1⟩ := s
  obtain ⟨A', fl, hv, hw, hA', hP, hF⟩ := hI
  have hv : v = bI (!fl) := hv
  subst hv
  have hw : w = nI i := hw
  subst hw
  have hA1 : LR N1 A' := hA'
  have hG : FR c5 N0 N1 := hF
  have hR1 := hR.fr hG (by decide)
  rw [fX10_settles_L10_u]
  rcases Nat.lt_or_ge i (3 * m) with hlt | hge
  · obtain ⟨r, j, hj, rfl⟩ : ∃ r j, j < 3 ∧ i = 3 * r + j := ⟨i / 3, i % 3, by omega, by omega⟩
    have hrm : r < m := by omega
    have hO1 := hO r hrm
    have e1 : (3 * r + j) / 3 = r := by omega
    have e2 : (3 * r + j) % 3 = j := by omega
    have hh6 := hO1.1
    have hbh := (hP.1 _ hO1.1).2
    simp (disch := omega) only [li0, li1, li2, li3, li4, li5, li6, li8, li9, li10, li11, li20, li21, li24, li32, li33, li36, li37, li40, li43, li45, li48, li53, li54, li57, li59, li60, li61, li63, li84, li97, li100, li102, li114, li120, li122, li216, li217, li257, li300, li1296, li1799, li2056, nI_add, pk_mul, nI_subN, pk_div, jremN, nI_leI, nI_ltI, nI_eq, nI_clamp, inb_N, if_pos, if_neg, if_true, if_false, nm, jn, bd2, Option.bind_some, e1, e2, rcond_eq hR1 hrm hm hj]
    have key : ∀ v : Int32, v = nI (lst R A' r j) → lst R A' r j ≤ 200000 → wp (fX10_settles_J59_31 (bI (!fl)) (nI (3 * r + j)) N1 rec v) P := by
      intro v hv hle
      subst hv
      unfold fX10_settles_J59_31
      have hJ : ∀ fl3 A3 N3, LR N3 A3 → (lst R A' r j ≤ 5 → PS R m B 5 A0 A3 fl3 (3 * r + j + 1)) → FR c5 N0 N3 → wp (fX10_settles_J94_75 (nI (3 * r + j)) rec (nI (lst R A' r j)) (bI (!fl3), N3)) P := by
        intro fl3 A3 N3 hA3 hP3 hF3
        show wp (if nI (lst R A' r j) < 6 then _ else _) P
        simp (disch := omega) only [li0, li1, li2, li3, li4, li5, li6, li8, li9, li10, li11, li20, li21, li24, li32, li33, li36, li37, li40, li43, li45, li48, li53, li54, li57, li59, li60, li61, li63, li84, li97, li100, li102, li114, li120, li122, li216, li217, li257, li300, li1296, li1799, li2056, nI_add, pk_mul, nI_subN, pk_div, jremN, nI_leI, nI_ltI, nI_eq, nI_clamp, inb_N, if_pos, if_neg, if_true, if_false, nm, jn, bd2, Option.bind_some]
        by_cases q : lst R A' r j < 6
        · rw [if_pos q]
          exact hrec _ hlt ⟨A3, fl3, rfl, rfl, hA3, hP3 (by omega), hF3⟩
        · rw [if_neg q]
          refine wp_some (hz (fun hL => ?_) N3 hF3)
          obtain ⟨L, hL, hL5⟩ := lyd5 hO hL
          have h0 : R.2.2 r j ≠ 0 := fun z => by unfold lst at q; rw [if_pos z] at q; exact q (by decide)
          have h1 := hP.2.1 L hL (hAL L hL) _ (kr_lt (hO1.2 j hj))
          have h2 := hL r hrm j hj h0
          have h3 := hL5 _ hO1.1
          unfold lst at q
          rw [if_neg h0] at q
          omega
      simp (disch := omega) only [li0, li1, li2, li3, li4, li5, li6, li8, li9, li10, li11, li20, li21, li24, li32, li33, li36, li37, li40, li43, li45, li48, li53, li54, li57, li59, li60, li61, li63, li84, li97, li100, li102, li114, li120, li122, li216, li217, li257, li300, li1296, li1799, li2056, nI_add, pk_mul, nI_subN, pk_div, jremN, nI_leI, nI_ltI, nI_eq, nI_clamp, inb_N, if_pos, if_neg, if_true, if_false, nm, jn, bd2, Option.bind_some, e1, rhead_eq hR1 hrm hm, hA1 _ hO1.1]
      by_cases q : lst R A' r j ≤ A' (R.2.1 r)
      · rw [if_pos q]
        exact hJ fl A' N1 hA1 (fun _ => hP.keep hO1 hrm hj q) hG
      · rw [if_neg q]
        exact hJ true _ _ (hA1.set hO1.1) (fun h5 => hP.raise hO1 hrm hj (by omega) h5) (hG.set rfl)
    have hk6 := kr_lt (hO1.2 j hj)
    have hbk := (hP.1 _ hk6).2
    by_cases h0 : R.2.2 r j = 0
    · refine wp_pos h0 (key _ ?_ ?_)
      · unfold lst; rw [if_pos h0]
      · unfold lst; rw [if_pos h0]; omega
    · refine wp_neg h0 ?_
      simp (disch := omega) only [li0, li1, li2, li3, li4, li5, li6, li8, li9, li10, li11, li20, li21, li24, li32, li33, li36, li37, li40, li43, li45, li48, li53, li54, li57, li59, li60, li61, li63, li84, li97, li100, li102, li114, li120, li122, li216, li217, li257, li300, li1296, li1799, li2056, nI_add, pk_mul, nI_subN, pk_div, jremN, nI_leI, nI_ltI, nI_eq, nI_clamp, inb_N, if_pos, if_neg, if_true, if_false, nm, jn, bd2, Option.bind_some, rrel_eq (hO1.2 j hj) h0, hA1 _ hk6]
      by_cases hs : R.2.2 r j < 0
      · refine wp_neg (fun z => sgn_lst.mp z hs) (key _ ?_ ?_)
        · unfold lst wt; rw [if_neg h0, if_pos hs]
        · unfold lst wt; rw [if_neg h0, if_pos hs]; omega
      · refine wp_pos (sgn_lst.mpr hs) (key _ ?_ ?_)
        · unfold lst wt; rw [if_neg h0, if_neg hs]
        · unfold lst wt; rw [if_neg h0, if_neg hs]; omega
  · have : i = 3 * m := by omega
    subst this
    simp (disch := omega) only [li0, li1, li2, li3, li4, li5, li6, li8, li9, li10, li11, li20, li21, li24, li32, li33, li36, li37, li40, li43, li45, li48, li53, li54, li57, li59, li60, li61, li63, li84, li97, li100, li102, li114, li120, li122, li216, li217, li257, li300, li1296, li1799, li2056, nI_add, pk_mul, nI_subN, pk_div, jremN, nI_leI, nI_ltI, nI_eq, nI_clamp, inb_N, if_pos, if_neg, if_true, if_false, nm, jn, bd2, Option.bind_some, fX10_settles_X10]
    exact hk fl A' N1 hA1 hP hG
theorem rsettles_wp (hm : m ≤ 10) (hO : ∀ r, r < m → OK1 R r) {A0 : Nat → Nat} (hR : MB (N.1 1) m R) (hA0 : LR N A0) (hB : ∀ q, q < 6 → A0 q ≤ 300) (hAL : ∀ L, Sol R m L → ∀ q, q < 6 → A0 q ≤ L q) : wp (fX10_settles N (nI m)) (fun a => ((∃ A, a.1 = nI 1 ∧ LR a.2 A ∧ IsLay R m A ∧ ∀ q, q < 6 → A q < 2000) ∨ (a.1 = nI 0 ∧ ¬ LYD R m)) ∧ FR c5 N a.2) := by
  unfold fX10_settles
  have h36 : ∀ A : Nat → Nat, fb_sm (fun q => 6 - A q) 6 ≤ 36 := fun A => fb_sm_bound (c := 6) (n := 6) (fun k _ => by omega)
  refine wp_lp (fun (n : Nat) (s : Int32 × KS) => ∃ A, LR s.2 A ∧ (∀ q, q < 6 → A q ≤ 300 + 30 * (40 - n)) ∧ (∀ L, Sol R m L → ∀ q, q < 6 → A q ≤ L q) ∧ FR c5 N s.2 ∧ ((s.1 = nI 0 ∧ n = fb_sm (fun q => 6 - A q) 6 + 1) ∨ (s.1 = nI 1 ∧ n = 0 ∧ Sol R m A))) (fun n s rec hI hrec => ?_) _ (fb_sm (fun q => 6 - A0 q) 6 + 1) _ (by have := h36 A0; omega) ⟨A0, hA0, fun q hq => by have := hB q hq; omega, hAL, FR.rf, Or.inl ⟨rfl, rfl⟩⟩
  obtain ⟨v, N1⟩ := s
  obtain ⟨A, hA, hAB, hAL1, hF, hc⟩ := hI
  have hA1 : LR N1 A := hA
  have hF1 : FR c5 N N1 := hF
  rw [fX10_settles_L2_u]
  rcases hc with ⟨hv, hn⟩ | ⟨hv, hn, hS⟩
  · have hv : v = nI 0 := hv
    subst hv
    have h36' := h36 A
    refine wp_pos rfl (rset_wp (B := 300 + 30 * (40 - n)) hm hO A (by omega) (hR.fr hF1 (by decide)) hA1 hAB (fun hL N' hN' => ⟨Or.inr ⟨rfl, hL⟩, hF1.tr hN'⟩) hAL1 (fun fl A' N' hA' hP hN' => ?_))
    cases fl
    · refine hrec 0 _ (by omega) ⟨A', hA', fun q hq => by rw [(hP.2.2.1 rfl).1 q hq]; have := hAB q hq; omega, fun L hL => hP.2.1 L hL (hAL1 L hL), hF1.tr hN', Or.inr ⟨rfl, rfl, fun r hr j hj h0 => ?_⟩⟩
      have hO1 := hO r hr
      rw [(hP.2.2.1 rfl).1 _ (kr_lt (hO1.2 j hj)), (hP.2.2.1 rfl).1 _ hO1.1]
      exact (hP.2.2.1 rfl).2 r j (by omega) hj h0
    · obtain ⟨q, hq, hlt, h5⟩ := hP.2.2.2 rfl
      have hlt2 := sm6_lt (A := fun q => 6 - A' q) (A' := fun q => 6 - A q) (fun q hq => by have := (hP.1 q hq).1; show 6 - A' q ≤ 6 - A q; omega) hq (by show 6 - A' q < 6 - A q; omega)
      have h36'' := h36 A'
      refine hrec (fb_sm (fun q => 6 - A' q) 6 + 1) _ (by omega) ⟨A', hA', fun q hq => ?_, fun L hL => hP.2.1 L hL (hAL1 L hL), hF1.tr hN', Or.inl ⟨rfl, rfl⟩⟩
      have := (hP.1 q hq).2
      omega
  · have hv : v = nI 1 := hv
    subst hv
    refine wp_neg (by decide) ?_
    exact wp_some ⟨Or.inl ⟨A, rfl, hA1, ⟨hS, hAL1⟩, fun q hq => by have := hAB q hq; omega⟩, hF1⟩
theorem rpass_wp (hm : m ≤ 10) (hO : ∀ r, r < m → OK1 R r) (A0 : Nat → Nat) {P : Int32 × KS → Prop} {B : Nat} (hB2 : B ≤ 500) {v4 : Int32} {rec0 : Int32 × KS → Option (Int32 × KS)} {N0 : KS} (hR : MB (N0.1 1) m R) (hA0 : LR N0 A0) (hB : ∀ q, q < 6 → A0 q ≤ B)
    (hk : ∀ fl A' N', LR N' A' → PS R m B 1000 A0 A' fl (3 * m) → FR c5 N0 N' → wp (fX10_layers_X34 v4 rec0 (bI (!fl), N')) P) :
    wp (lp (fX10_layers_L34 (nI m)) (fX10_layers_X34 v4 rec0) 1000000 (1, 0, N0)) P := by
  refine wp_for (3 * m) (fun (i : Nat) (s : Int32 × Int32 × KS) => ∃ A' fl, s.1 = bI (!fl) ∧ s.2.1 = nI i ∧ LR s.2.2 A' ∧ PS R m B 1000 A0 A' fl i ∧ FR c5 N0 s.2.2) (fun i s rec hi hI hrec => ?_) (by omega) (Nat.zero_le _) ⟨A0, false, rfl, rfl, hA0, PS.z hB, FR.rf⟩
  obtain ⟨v, w, N1⟩ := s
  obtain ⟨A', fl, hv, hw, hA', hP, hF⟩ := hI
  have hv : v = bI (!fl) := hv
  subst hv
  have hw : w = nI i := hw
  subst hw
  have hA1 : LR N1 A' := hA'
  have hG : FR c5 N0 N1 := hF
  have hR1 := hR.fr hG (by decide)
  rw [fX10_layers_L34_u]
  rcases Nat.lt_or_ge i (3 * m) with hlt | hge
  · obtain ⟨r, j, hj, rfl⟩ : ∃ r j, j < 3 ∧ i = 3 * r + j := ⟨i / 3, i % 3, by omega, by omega⟩
    have hrm : r < m := by omega
    have hO1 := hO r hrm
    have e1 : (3 * r + j) / 3 = r := by omega
    have e2 : (3 * r + j) % 3 = j := by omega
    have hh6 := hO1.1
    have hbh := (hP.1 _ hO1.1).2
    simp (disch := omega) only [li0, li1, li2, li3, li4, li5, li6, li8, li9, li10, li11, li20, li21, li24, li32, li33, li36, li37, li40, li43, li45, li48, li53, li54, li57, li59, li60, li61, li63, li84, li97, li100, li102, li114, li120, li122, li216, li217, li257, li300, li1296, li1799, li2056, nI_add, pk_mul, nI_subN, pk_div, jremN, nI_leI, nI_ltI, nI_eq, nI_clamp, inb_N, if_pos, if_neg, if_true, if_false, nm, jn, bd2, Option.bind_some, e1, e2, rcond_eq hR1 hrm hm hj]
    have key : ∀ v : Int32, v = nI (lst R A' r j) → lst R A' r j ≤ 600 → wp (fX10_layers_J86_58 (bI (!fl)) (nI (3 * r + j)) N1 rec v) P := by
      intro v hv hle
      subst hv
      unfold fX10_layers_J86_58
      simp (disch := omega) only [li0, li1, li2, li3, li4, li5, li6, li8, li9, li10, li11, li20, li21, li24, li32, li33, li36, li37, li40, li43, li45, li48, li53, li54, li57, li59, li60, li61, li63, li84, li97, li100, li102, li114, li120, li122, li216, li217, li257, li300, li1296, li1799, li2056, nI_add, pk_mul, nI_subN, pk_div, jremN, nI_leI, nI_ltI, nI_eq, nI_clamp, inb_N, if_pos, if_neg, if_true, if_false, nm, jn, bd2, Option.bind_some, e1, rhead_eq hR1 hrm hm, hA1 _ hO1.1]
      by_cases q : lst R A' r j ≤ A' (R.2.1 r)
      · rw [if_pos q]
        exact hrec _ hlt ⟨A', fl, rfl, rfl, hA1, hP.keep hO1 hrm hj q, hG⟩
      · rw [if_neg q]
        exact hrec _ hlt ⟨_, true, rfl, rfl, hA1.set hO1.1, hP.raise hO1 hrm hj (by omega) (by omega), hG.set rfl⟩
    have hk6 := kr_lt (hO1.2 j hj)
    have hbk := (hP.1 _ hk6).2
    by_cases h0 : R.2.2 r j = 0
    · refine wp_pos h0 (key _ ?_ ?_)
      · unfold lst; rw [if_pos h0]
      · unfold lst; rw [if_pos h0]; omega
    · refine wp_neg h0 ?_
      simp (disch := omega) only [li0, li1, li2, li3, li4, li5, li6, li8, li9, li10, li11, li20, li21, li24, li32, li33, li36, li37, li40, li43, li45, li48, li53, li54, li57, li59, li60, li61, li63, li84, li97, li100, li102, li114, li120, li122, li216, li217, li257, li300, li1296, li1799, li2056, nI_add, pk_mul, nI_subN, pk_div, jremN, nI_leI, nI_ltI, nI_eq, nI_clamp, inb_N, if_pos, if_neg, if_true, if_false, nm, jn, bd2, Option.bind_some, rrel_eq (hO1.2 j hj) h0, hA1 _ hk6]
      by_cases hs : R.2.2 r j < 0
      · refine wp_neg (fun z => sgn_lst.mp z hs) (key _ ?_ ?_)
        · unfold lst wt; rw [if_neg h0, if_pos hs]
        · unfold lst wt; rw [if_neg h0, if_pos hs]; omega
      · refine wp_pos (sgn_lst.mpr hs) (key _ ?_ ?_)
        · unfold lst wt; rw [if_neg h0, if_neg hs]
        · unfold lst wt; rw [if_neg h0, if_neg hs]; omega
  · have : i = 3 * m := by omega
    subst this
    simp (disch := omega) only [li0, li1, li2, li3, li4, li5, li6, li8, li9, li10, li11, li20, li21, li24, li32, li33, li36, li37, li40, li43, li45, li48, li53, li54, li57, li59, li60, li61, li63, li84, li97, li100, li102, li114, li120, li122, li216, li217, li257, li300, li1296, li1799, li2056, nI_add, pk_mul, nI_subN, pk_div, jremN, nI_leI, nI_ltI, nI_eq, nI_clamp, inb_N, if_pos, if_neg, if_true, if_false, nm, jn, bd2, Option.bind_some]
    exact hk fl A' N1 hA1 hP hG
theorem rlay_wp (hm : m ≤ 10) (hO : ∀ r, r < m → OK1 R r) (hR : MB (N.1 1) m R) : wp (fX10_layers N (nI m)) (fun a => ((∃ A, a.1 = nI 1 ∧ LR a.2 A ∧ IsLay R m A ∧ ∀ q, q < 6 → A q < 2000) ∨ (a.1 = nI 0 ∧ ¬ LYD R m)) ∧ FR c5 N a.2) := by
  unfold fX10_layers
  refine wp_for 6 (fun (i : Nat) (s : Int32 × KS) => s.1 = nI i ∧ (∀ q, q < i → s.2.1 5 q = nI 0) ∧ FR c5 N s.2) (fun i s rec hi hI hrec => ?_) (by decide) (Nat.zero_le _) ⟨rfl, fun q h => absurd h (Nat.not_lt_zero _), FR.rf⟩
  obtain ⟨v, N2⟩ := s
  obtain ⟨hv, h1, hF⟩ := hI
  have hv : v = nI i := hv
  subst hv
  have hF2 : FR c5 N N2 := hF
  rw [fX10_layers_L2_u]
  rcases Nat.lt_or_ge i 6 with hlt | hge
  · simp (disch := omega) only [li0, li1, li2, li3, li4, li5, li6, li8, li9, li10, li11, li20, li21, li24, li32, li33, li36, li37, li40, li43, li45, li48, li53, li54, li57, li59, li60, li61, li63, li84, li97, li100, li102, li114, li120, li122, li216, li217, li257, li300, li1296, li1799, li2056, nI_add, pk_mul, nI_subN, pk_div, jremN, nI_leI, nI_ltI, nI_eq, nI_clamp, inb_N, if_pos, if_neg, if_true, if_false, nm, jn, bd2, Option.bind_some]
    refine hrec _ hlt ⟨rfl, fun q hq => ?_, hF2.set rfl⟩
    show (kset N2 5 i _).1 5 q = _
    rw [kset_c]
    by_cases e : q = i
    · rw [if_pos e]
    · rw [if_neg e]; exact h1 q (by omega)
  · have : i = 6 := by omega
    subst this
    simp (disch := omega) only [li0, li1, li2, li3, li4, li5, li6, li8, li9, li10, li11, li20, li21, li24, li32, li33, li36, li37, li40, li43, li45, li48, li53, li54, li57, li59, li60, li61, li63, li84, li97, li100, li102, li114, li120, li122, li216, li217, li257, li300, li1296, li1799, li2056, nI_add, pk_mul, nI_subN, pk_div, jremN, nI_leI, nI_ltI, nI_eq, nI_clamp, inb_N, if_pos, if_neg, if_true, if_false, nm, jn, bd2, Option.bind_some]
    unfold fX10_layers_X2
    refine wp_for 7 (fun (p : Nat) (s : Int32 × KS) => ∃ A, s.1 = nI p ∧ LR s.2 A ∧ (∀ q, q < 6 → A q ≤ 30 * p) ∧ (∀ L, Sol R m L → ∀ q, q < 6 → A q ≤ L q) ∧ FR c5 N s.2) (fun p s rec2 hp hI hrec2 => ?_) (by decide) (i := 0) (s := ((0 : Int32), N2)) (Nat.zero_le _) ⟨fun _ => 0, rfl, fun q hq => h1 q hq, fun _ _ => Nat.zero_le _, fun _ _ _ _ => Nat.zero_le _, hF2⟩
    obtain ⟨v, N3⟩ := s
    obtain ⟨A, hv, hA, hAB, hAL, hF3⟩ := hI
    have hv : v = nI p := hv
    subst hv
    have hA3 : LR N3 A := hA
    have hG3 : FR c5 N N3 := hF3
    have hR3 := hR.fr hG3 (by decide)
    rw [fX10_layers_L23_u]
    rcases Nat.lt_or_ge p 7 with hlt2 | hge2
    · simp (disch := omega) only [li0, li1, li2, li3, li4, li5, li6, li8, li9, li10, li11, li20, li21, li24, li32, li33, li36, li37, li40, li43, li45, li48, li53, li54, li57, li59, li60, li61, li63, li84, li97, li100, li102, li114, li120, li122, li216, li217, li257, li300, li1296, li1799, li2056, nI_add, pk_mul, nI_subN, pk_div, jremN, nI_leI, nI_ltI, nI_eq, nI_clamp, inb_N, if_pos, if_neg, if_true, if_false, nm, jn, bd2, Option.bind_some]
      refine rpass_wp (B := 30 * p) hm hO A (by omega) hR3 hA3 hAB (fun fl A' N' hA' hP hN' => ?_)
      have hAL' : ∀ L, Sol R m L → ∀ q, q < 6 → A' q ≤ L q := fun L hL => hP.2.1 L hL (hAL L hL)
      unfold fX10_layers_X34
      cases fl
      · refine wp_neg (by decide) (wp_some ⟨Or.inl ⟨A', rfl, hA', ⟨fun r hr j hj h0 => ?_, hAL'⟩, fun q hq => by have := (hP.1 q hq).2; omega⟩, hG3.tr hN'⟩)
        have hO1 := hO r hr
        rw [(hP.2.2.1 rfl).1 _ (kr_lt (hO1.2 j hj)), (hP.2.2.1 rfl).1 _ hO1.1]
        exact (hP.2.2.1 rfl).2 r j (by omega) hj h0
      · refine wp_pos rfl ?_
        simp (disch := omega) only [li0, li1, li2, li3, li4, li5, li6, li8, li9, li10, li11, li20, li21, li24, li32, li33, li36, li37, li40, li43, li45, li48, li53, li54, li57, li59, li60, li61, li63, li84, li97, li100, li102, li114, li120, li122, li216, li217, li257, li300, li1296, li1799, li2056, nI_add, pk_mul, nI_subN, pk_div, jremN, nI_leI, nI_ltI, nI_eq, nI_clamp, inb_N, if_pos, if_neg, if_true, if_false, nm, jn, bd2, Option.bind_some]
        exact hrec2 _ hlt2 ⟨A', rfl, hA', fun q hq => by have := (hP.1 q hq).2; omega, hAL', hG3.tr hN'⟩
    · have : p = 7 := by omega
      subst this
      simp (disch := omega) only [li0, li1, li2, li3, li4, li5, li6, li8, li9, li10, li11, li20, li21, li24, li32, li33, li36, li37, li40, li43, li45, li48, li53, li54, li57, li59, li60, li61, li63, li84, li97, li100, li102, li114, li120, li122, li216, li217, li257, li300, li1296, li1799, li2056, nI_add, pk_mul, nI_subN, pk_div, jremN, nI_leI, nI_ltI, nI_eq, nI_clamp, inb_N, if_pos, if_neg, if_true, if_false, nm, jn, bd2, Option.bind_some]
      unfold fX10_layers_X23
      refine wp_bd2 (wp_mono (rsettles_wp hm hO hR3 hA3 (fun q hq => by have := hAB q hq; omega) hAL) ?_)
      rintro ⟨v, N4⟩ ⟨h, hF4⟩
      have hF4 : FR c5 N3 N4 := hF4
      rcases h with ⟨A', hv, hA', h⟩ | ⟨hv, h⟩
      · have hv : v = nI 1 := hv
        subst hv
        exact wp_pos isB_1 (wp_some ⟨Or.inl ⟨A', rfl, hA', h⟩, hG3.tr hF4⟩)
      · have hv : v = nI 0 := hv
        subst hv
        exact wp_pos isB_0 (wp_some ⟨Or.inr ⟨rfl, h⟩, hG3.tr hF4⟩)
/-- the number of layers, of rules that are layered -/
theorem rlm_wp (hm : m ≤ 10) (hO : ∀ r, r < m → OK1 R r) (hR : MB (N.1 1) m R) (hn : N.1 1 216 = nI m) (hL : LYD R m) : wp (fX10_layerMany N) (fun a => ∃ A, a.1 = nI (mx6 A 6 + 1) ∧ LR a.2 A ∧ IsLay R m A ∧ (∀ q, q < 6 → A q ≤ 5) ∧ FR c5 N a.2) := by
  unfold fX10_layerMany
  simp (disch := omega) only [li0, li1, li2, li3, li4, li5, li6, li8, li9, li10, li11, li20, li21, li24, li32, li33, li36, li37, li40, li43, li45, li48, li53, li54, li57, li59, li60, li61, li63, li84, li97, li100, li102, li114, li120, li122, li216, li217, li257, li300, li1296, li1799, li2056, nI_add, pk_mul, nI_subN, pk_div, jremN, nI_leI, nI_ltI, nI_eq, nI_clamp, inb_N, if_pos, if_neg, if_true, if_false, nm, jn, bd2, Option.bind_some, hn]
  refine wp_bind (wp_mono (rlay_wp hm hO hR) ?_)
  rintro ⟨v, N1⟩ ⟨h, hF⟩
  rcases h with ⟨A, hv, hA, hI, -⟩ | ⟨-, h⟩
  · have hA1 : LR N1 A := hA
    obtain ⟨L, hL1, hL5⟩ := lyd5 hO hL
    have h5 : ∀ q, q < 6 → A q ≤ 5 := fun q hq => Nat.le_trans (hI.2 L hL1 q hq) (hL5 q hq)
    show wp (lp (fX10_layerMany_L17 N1) (fX10_layerMany_X17 N1) 1000000 (nI 0, nI 0)) _
    refine wp_for 6 (fun (i : Nat) (s : Int32 × Int32) => s = (nI (mx6 A i), nI i)) (fun i s rec hi hI' hrec => ?_) (by decide) (Nat.zero_le _) rfl
    subst hI'
    rw [fX10_layerMany_L17_u]
    have hmx : mx6 A i ≤ 5 := mx6_le.mpr (fun q hq => h5 q (by omega))
    rcases Nat.lt_or_ge i 6 with hlt | hge
    · have := h5 i hlt
      simp (disch := omega) only [li0, li1, li2, li3, li4, li5, li6, li8, li9, li10, li11, li20, li21, li24, li32, li33, li36, li37, li40, li43, li45, li48, li53, li54, li57, li59, li60, li61, li63, li84, li97, li100, li102, li114, li120, li122, li216, li217, li257, li300, li1296, li1799, li2056, nI_add, pk_mul, nI_subN, pk_div, jremN, nI_leI, nI_ltI, nI_eq, nI_clamp, inb_N, if_pos, if_neg, if_true, if_false, nm, jn, bd2, Option.bind_some, hA1 i hlt, jmaxN]
      exact hrec _ hlt rfl
    · have : i = 6 := by omega
      subst this
      simp (disch := omega) only [li0, li1, li2, li3, li4, li5, li6, li8, li9, li10, li11, li20, li21, li24, li32, li33, li36, li37, li40, li43, li45, li48, li53, li54, li57, li59, li60, li61, li63, li84, li97, li100, li102, li114, li120, li122, li216, li217, li257, li300, li1296, li1799, li2056, nI_add, pk_mul, nI_subN, pk_div, jremN, nI_leI, nI_ltI, nI_eq, nI_clamp, inb_N, if_pos, if_neg, if_true, if_false, nm, jn, bd2, Option.bind_some, fX10_layerMany_X17]
      exact wp_some ⟨A, rfl, hA1, hI, h5, hF⟩
  · exact absurd hL h
end RLA
