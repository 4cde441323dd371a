/-! ===== the reference's deriving ===== -/
/-- the stages say what holds -/
def STG (N : KS) (S : Nat → Bool) : Prop := ∀ k, k < 216 → ∃ n, n ≤ 300 ∧ N.1 6 k = if S k then nI n else -nI 1
def RX (N : KS) (X : DX) : Prop := ∀ k, k < 216 → N.1 6 k = (if X.1 k then nI (X.2.1 k) else -nI 1) ∧ N.1 7 k = (if 0 < X.2.1 k then nI (X.2.2.1 k) else -nI 1) ∧ N.1 8 k = (if 0 < X.2.1 k then nI (X.2.2.2.1 k) else -nI 1) ∧ X.2.1 k ≤ 300 ∧ (0 < X.2.1 k → X.1 k = true)
theorem RX.stg {N : KS} {X : DX} (h : RX N X) : STG N X.1 := fun k hk => ⟨X.2.1 k, (h k hk).2.2.2.1, (h k hk).1⟩
theorem neg1_lt : (-nI 1 : Int32) < nI 0 := by decide
theorem neg1_le : ¬ (nI 0 ≤ (-nI 1 : Int32)) := by decide
abbrev c11 : Nat → Prop := fun q => q = 11
section RDR
variable {N : KS} {m r x y z : Nat} {R : RS} {S : Nat → Bool}
theorem stg_lt (h : STG N S) {k : Nat} (hk : k < 216) : (N.1 6 k < nI 0 ↔ S k = false) ∧ (nI 0 ≤ N.1 6 k ↔ S k = true) := by
  obtain ⟨n, hn, e⟩ := h k hk
  rw [e]
  cases S k
  · rw [if_neg (by decide)]
    exact ⟨⟨fun _ => rfl, fun _ => neg1_lt⟩, ⟨fun q => absurd q neg1_le, fun q => absurd q (by decide)⟩⟩
  · rw [if_pos rfl, nI_ltI (by omega) (by omega), nI_leI (by omega) (by omega)]
    exact ⟨⟨fun q => absurd q (Nat.not_lt_zero _), fun q => absurd q (by decide)⟩, ⟨fun _ => rfl, fun _ => Nat.zero_le _⟩⟩
theorem lt3_N {c : Int32} (h0 : N.1 11 0 = nI x) (h1 : N.1 11 1 = nI y) (h2 : N.1 11 2 = nI z) : N.1 11 (k1 c) = nI (lt3 (k1 c) x y z) ∧ N.1 11 (k2 c) = nI (lt3 (k2 c) x y z) := by
  have a1 := kb1_lt c
  have a2 := kb2_lt c
  have key : ∀ q, q < 3 → N.1 11 q = nI (lt3 q x y z) := fun q hq => by
    match q, hq with
    | 0, _ => exact h0
    | 1, _ => exact h1
    | 2, _ => exact h2
  exact ⟨key _ a1, key _ a2⟩
theorem foc_eq {c : Int32} (hc : ka c ≤ 54) (hc0 : c ≠ 0) (hx : x < 6) (hy : y < 6) (hz : z < 6) (h0 : N.1 11 0 = nI x) (h1 : N.1 11 1 = nI y) (h2 : N.1 11 2 = nI z) : fX10_factOfCondition N c = some (nI (fc c x y z)) := by
  have a1 := kb1_lt c
  have a2 := kb2_lt c
  have a3 := kr_lt hc
  have a4 := lt3_lt (l := k1 c) hx hy hz
  have a5 := lt3_lt (l := k2 c) hx hy hz
  have e := lt3_N (c := c) h0 h1 h2
  unfold fX10_factOfCondition
  rw [rlet0_eq hc hc0, rlet1_eq hc hc0, rrel_eq hc hc0]
  simp (disch := omega) only [li0, li1, li2, li3, li4, li5, li6, li8, li9, li10, li11, li20, li21, li24, li32, li33, li36, li37, li40, li43, li45, li48, li53, li54, li57, li59, li60, li61, li63, li84, li97, li100, li102, li114, li120, li122, li216, li217, li257, li300, li1296, li1799, li2056, nI_add, pk_mul, nI_subN, pk_div, jremN, nI_leI, nI_ltI, nI_eq, nI_clamp, inb_N, if_pos, if_neg, if_true, if_false, nm, jn, bd2, Option.bind_some, e.1, e.2, fX10_fact]
  rfl
theorem makes_wp (hR : MB (N.1 1) m R) (hr : r < m) (hm : m ≤ 10) (hO : OK1 R r) (hS : STG N S) (hx : x < 6) (hy : y < 6) (hz : z < 6) : wp (fX10_makes N (nI r) (nI x) (nI y) (nI z)) (fun a => a.1 = bI (mk S R r x y z) ∧ FR c11 N a.2) := by
  unfold fX10_makes
  refine wp_pos (by decide) (wp_nm (wp_pos (by decide) (wp_nm (wp_pos (by decide) (wp_nm ?_)))))
  rw [show (0 : Int32).toNatClampNeg = 0 from rfl, show (1 : Int32).toNatClampNeg = 1 from rfl, show (2 : Int32).toNatClampNeg = 2 from rfl]
  generalize hN3 : kset (kset (kset N 11 0 (nI x)) 11 1 (nI y)) 11 2 (nI z) = N3
  have hF : FR c11 N N3 := by rw [← hN3]; exact (((FR.rf (P := c11)).set rfl).set rfl).set rfl
  have l0 : N3.1 11 0 = nI x := by rw [← hN3, kset_c, if_neg (by decide), kset_c, if_neg (by decide), kset_c, if_pos rfl]
  have l1 : N3.1 11 1 = nI y := by rw [← hN3, kset_c, if_neg (by decide), kset_c, if_pos rfl]
  have l2 : N3.1 11 2 = nI z := by rw [← hN3, kset_c, if_pos rfl]
  have hR3 := hR.fr hF (by decide)
  have hS3 : STG N3 S := fun k hk => by rw [hF.1 6 (by decide)]; exact hS k hk
  refine wp_for 3 (fun (i : Nat) (s : Int32 × Int32) => ∃ b, s = (bI b, nI i) ∧ (b = false → mk S R r x y z = false) ∧ (b = true → ∀ j, j < i → cond S (R.2.2 r j) x y z = true)) (fun i s rec hi hI hrec => ?_) (by decide) (Nat.zero_le _) ⟨true, rfl, fun h => absurd h (by decide), fun _ j hj => absurd hj (Nat.not_lt_zero _)⟩
  obtain ⟨b, rfl, hb0, hb1⟩ := hI
  rw [fX10_makes_L28_u]
  rcases Nat.lt_or_ge i 3 with hlt | hge
  · cases b
    · simp (disch := omega) only [li0, li1, li2, li3, li4, li5, li6, li8, li9, li10, li11, li20, li21, li24, li32, li33, li36, li37, li40, li43, li45, li48, li53, li54, li57, li59, li60, li61, li63, li84, li97, li100, li102, li114, li120, li122, li216, li217, li257, li300, li1296, li1799, li2056, nI_add, pk_mul, nI_subN, pk_div, jremN, nI_leI, nI_ltI, nI_eq, nI_clamp, inb_N, if_pos, if_neg, if_true, if_false, nm, jn, bd2, Option.bind_some, bI_f]
      unfold fX10_makes_X28
      exact wp_pos isB_0 (wp_some ⟨by rw [hb0 rfl]; rfl, hF⟩)
    · have hc := hO.2 i hlt
      simp (disch := omega) only [li0, li1, li2, li3, li4, li5, li6, li8, li9, li10, li11, li20, li21, li24, li32, li33, li36, li37, li40, li43, li45, li48, li53, li54, li57, li59, li60, li61, li63, li84, li97, li100, li102, li114, li120, li122, li216, li217, li257, li300, li1296, li1799, li2056, nI_add, pk_mul, nI_subN, pk_div, jremN, nI_leI, nI_ltI, nI_eq, nI_clamp, inb_N, if_pos, if_neg, if_true, if_false, nm, jn, bd2, Option.bind_some, bI_t, rcond_eq hR3 hr hm hlt]
      by_cases h0 : R.2.2 r i = 0
      · refine wp_pos h0 (hrec _ hlt ⟨true, rfl, fun h => absurd h (by decide), fun _ j hj => ?_⟩)
        rcases Nat.lt_or_ge j i with q | q
        · exact hb1 rfl j q
        · have : j = i := by omega
          rw [this, h0, cond_0]
      · refine wp_neg h0 ?_
        have hfl := fc_lt hc hx hy hz
        simp (disch := omega) only [li0, li1, li2, li3, li4, li5, li6, li8, li9, li10, li11, li20, li21, li24, li32, li33, li36, li37, li40, li43, li45, li48, li53, li54, li57, li59, li60, li61, li63, li84, li97, li100, li102, li114, li120, li122, li216, li217, li257, li300, li1296, li1799, li2056, nI_add, pk_mul, nI_subN, pk_div, jremN, nI_leI, nI_ltI, nI_eq, nI_clamp, inb_N, if_pos, if_neg, if_true, if_false, nm, jn, bd2, Option.bind_some, foc_eq hc h0 hx hy hz l0 l1 l2]
        have hsg := kc_sg2 (c := R.2.2 r i)
        have fin : ∀ v10 v11 : Bool, v10 = S (fc (R.2.2 r i) x y z) → v11 = decide (0 < R.2.2 r i) → wp (fX10_makes_J82_74 (nI i) rec (bI v10) (bI v11)) (fun a => a.1 = bI (mk S R r x y z) ∧ FR c11 N a.2) := by
          intro v10 v11 e1 e2
          have hcond : cond S (R.2.2 r i) x y z = (v10 == v11) := by unfold cond; rw [decide_eq_false h0, Bool.false_or, e1, e2]
          unfold fX10_makes_J82_74
          by_cases q : v10 = v11
          · refine wp_pos (congrArg bI q) ?_
            simp (disch := omega) only [li0, li1, li2, li3, li4, li5, li6, li8, li9, li10, li11, li20, li21, li24, li32, li33, li36, li37, li40, li43, li45, li48, li53, li54, li57, li59, li60, li61, li63, li84, li97, li100, li102, li114, li120, li122, li216, li217, li257, li300, li1296, li1799, li2056, nI_add, pk_mul, nI_subN, pk_div, jremN, nI_leI, nI_ltI, nI_eq, nI_clamp, inb_N, if_pos, if_neg, if_true, if_false, nm, jn, bd2, Option.bind_some]
            refine hrec _ hlt ⟨true, rfl, fun h => absurd h (by decide), fun _ j hj => ?_⟩
            rcases Nat.lt_or_ge j i with q2 | q2
            · exact hb1 rfl j q2
            · have : j = i := by omega
              rw [this, hcond, q]
              simp
          · refine wp_neg (fun z => q ?_) ?_
            · revert z; cases v10 <;> cases v11 <;> decide
            simp (disch := omega) only [li0, li1, li2, li3, li4, li5, li6, li8, li9, li10, li11, li20, li21, li24, li32, li33, li36, li37, li40, li43, li45, li48, li53, li54, li57, li59, li60, li61, li63, li84, li97, li100, li102, li114, li120, li122, li216, li217, li257, li300, li1296, li1799, li2056, nI_add, pk_mul, nI_subN, pk_div, jremN, nI_leI, nI_ltI, nI_eq, nI_clamp, inb_N, if_pos, if_neg, if_true, if_false, nm, jn, bd2, Option.bind_some]
            refine hrec _ hlt ⟨false, rfl, fun _ => ?_, fun h => absurd h (by decide)⟩
            have hcf : cond S (R.2.2 r i) x y z = false := by rw [hcond]; exact beq_eq_false_iff_ne.mpr q
            unfold mk
            match i, hlt, hcf with
            | 0, _, hcf => rw [hcf]; rfl
            | 1, _, hcf => rw [hcf]; simp
            | 2, _, hcf => rw [hcf]; simp
        have step : ∀ v10 : Bool, v10 = S (fc (R.2.2 r i) x y z) → wp (fX10_makes_J72_64 (nI i) rec (R.2.2 r i) (bI v10)) (fun a => a.1 = bI (mk S R r x y z) ∧ FR c11 N a.2) := by
          intro v10 e1
          unfold fX10_makes_J72_64
          refine wp_jn ?_
          by_cases q : 0 < R.2.2 r i
          · exact wp_neg (fun z => hsg.mp z q) (fin v10 true e1 (by rw [decide_eq_true q]))
          · exact wp_pos (hsg.mpr q) (fin v10 false e1 (by rw [decide_eq_false q]))
        have hst := stg_lt hS3 hfl
        cases hv : S (fc (R.2.2 r i) x y z)
        · exact wp_pos (hst.1.mpr hv) (step false hv.symm)
        · exact wp_neg (fun z => by rw [hst.1.mp z] at hv; exact absurd hv (by decide)) (step true hv.symm)
  · have : i = 3 := by omega
    subst this
    simp (disch := omega) only [li0, li1, li2, li3, li4, li5, li6, li8, li9, li10, li11, li20, li21, li24, li32, li33, li36, li37, li40, li43, li45, li48, li53, li54, li57, li59, li60, li61, li63, li84, li97, li100, li102, li114, li120, li122, li216, li217, li257, li300, li1296, li1799, li2056, nI_add, pk_mul, nI_subN, pk_div, jremN, nI_leI, nI_ltI, nI_eq, nI_clamp, inb_N, if_pos, if_neg, if_true, if_false, nm, jn, bd2, Option.bind_some]
    unfold fX10_makes_X28
    refine wp_pos (bI_B b) (wp_some ⟨?_, hF⟩)
    cases b
    · show bI false = _
      rw [hb0 rfl]
    · show bI true = _
      have := hb1 rfl
      unfold mk
      rw [this 0 (by decide), this 1 (by decide), this 2 (by decide)]
      rfl
end RDR
