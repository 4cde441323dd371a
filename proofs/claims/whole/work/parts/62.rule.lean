/-! ===== a rule is told: its numbers, its refusals ===== -/
theorem code_cases (c : Int32) : (ka c ≤ 54 ∧ fX10_in (jabs c) 0 54 = 1 ∧ ((c = 0 ∧ fX10_in (jabs c) 1 54 = 0 ∧ fX9_isCode c = 0) ∨ (c ≠ 0 ∧ fX10_in (jabs c) 1 54 = 1 ∧ fX9_isCode c = 1))) ∨ (fX10_in (jabs c) 0 54 = 0 ∧ fX10_in (jabs c) 1 54 = 0 ∧ fX9_isCode c = 0 ∧ c ≠ 0) := by
  by_cases h : ka c ≤ 54
  · exact Or.inl ⟨h, kc_all (P := fun c => fX10_in (jabs c) 0 54 = 1 ∧ ((c = 0 ∧ fX10_in (jabs c) 1 54 = 0 ∧ fX9_isCode c = 0) ∨ (c ≠ 0 ∧ fX10_in (jabs c) 1 54 = 1 ∧ fX9_isCode c = 1))) (by decide +kernel) h⟩
  · refine Or.inr ?_
    have z0 : (0 : Int32).toInt = 0 := by decide
    have z1 : (1 : Int32).toInt = 1 := by decide
    have z54 : (54 : Int32).toInt = 54 := by decide
    have m54 : (-54 : Int32).toInt = -54 := by decide
    unfold ka at h
    rcases (show c.toInt < -54 ∨ 54 < c.toInt by omega) with h1 | h1
    · have h0 : ¬ 0 ≤ c := fun z => by rw [fa_le, z0] at z; omega
      have hc0 : c ≠ 0 := fun z => by rw [z] at h0; exact h0 (by decide)
      have hc : fX9_isCode c = 0 := by
        unfold fX9_isCode
        rw [if_neg hc0, if_pos (by rw [fa_lt, m54]; exact h1)]
      by_cases hm : c.toInt = -2147483648
      · have e : c = -2147483648 := Int32.toInt_inj.mp (by rw [hm]; decide)
        subst e
        exact ⟨by decide, by decide, by decide, by decide⟩
      · have hj : (jabs c).toInt = -c.toInt := by
          unfold jabs
          rw [if_neg h0, Int32.zero_sub, fb_negI hm]
        refine ⟨?_, ?_, hc, hc0⟩
        · unfold fX10_in
          rw [if_neg (by rw [fa_lt, hj, z0]; omega), if_pos (by rw [fa_lt, hj, z54]; omega)]
        · unfold fX10_in
          rw [if_neg (by rw [fa_lt, hj, z1]; omega), if_pos (by rw [fa_lt, hj, z54]; omega)]
    · have h0 : 0 ≤ c := by rw [fa_le, z0]; omega
      have hc0 : c ≠ 0 := fun z => by rw [z, z0] at h1; omega
      have hj : jabs c = c := by unfold jabs; rw [if_pos h0]
      rw [hj]
      refine ⟨?_, ?_, ?_, hc0⟩
      · unfold fX10_in
        rw [if_neg (by rw [fa_lt, z0]; omega), if_pos (by rw [fa_lt, z54]; omega)]
      · unfold fX10_in
        rw [if_neg (by rw [fa_lt, z1]; omega), if_pos (by rw [fa_lt, z54]; omega)]
      · unfold fX9_isCode
        rw [if_neg hc0, if_neg (by rw [fa_lt, m54]; omega), if_pos (by rw [fa_lt, z54]; omega)]
theorem rwr_u {N : KS} {a1 a2 a3 a4 : Int32} : fX10_writes N a1 a2 a3 a4 = (if (fX10_in (jabs a2) 1 54) = 0 then fX10_writes_J45_10 N a1 a2 a3 a4 0 else (if (fX10_in (jabs a3) 0 54) = 0 then fX10_writes_J45_10 N a1 a2 a3 a4 0 else (if (fX10_in (jabs a4) 0 54) = 0 then fX10_writes_J45_10 N a1 a2 a3 a4 0 else fX10_writes_J45_10 N a1 a2 a3 a4 1))) := rfl
theorem rule_cases (a1 a2 a3 a4 : Int32) : (∃ hd, hd < 6 ∧ a1 = nI hd ∧ VC (c3 a2 a3 a4) ∧ fX9_isRule a1 a2 a3 a4 = 1 ∧ ∀ N, fX10_writes N a1 a2 a3 a4 = fX10_writes_J70_60 N a1 a2 a3 a4 ()) ∨ (fX9_isRule a1 a2 a3 a4 = 0 ∧ ∀ N, fX10_writes N a1 a2 a3 a4 = some (0, N)) := by
  have n10 : ¬ (1 : Int32) = 0 := by decide
  rcases in_cases a1 6 (by decide) with ⟨hd, hd6, rfl⟩ | h1
  · have k := krel_y hd6
    have J0 : ∀ N, fX10_writes_J45_10 N (nI hd) a2 a3 a4 0 = some (0, N) := fun N => by
      unfold fX10_writes_J45_10
      rw [k.2.2.1]
      rfl
    have J1 : ∀ N, fX10_writes_J45_10 N (nI hd) a2 a3 a4 1 = (if a3 = 0 then (if a4 = 0 then fX10_writes_J70_60 N (nI hd) a2 a3 a4 () else some (0, N)) else fX10_writes_J70_60 N (nI hd) a2 a3 a4 ()) := fun N => by
      unfold fX10_writes_J45_10
      rw [k.2.2.1]
      rfl
    have r1 : ¬ fX9_isRelation (nI hd) = 0 := by rw [k.1]; exact n10
    have bad2 : fX10_in (jabs a2) 1 54 = 0 → fX9_isCode a2 = 0 → fX9_isRule (nI hd) a2 a3 a4 = 0 ∧ ∀ N, fX10_writes N (nI hd) a2 a3 a4 = some (0, N) := fun e1 e2 => by
      refine ⟨?_, fun N => ?_⟩
      · unfold fX9_isRule
        rw [if_neg r1, if_pos e2]
      · rw [rwr_u, if_pos e1]
        exact J0 N
    rcases code_cases a2 with ⟨k2, _, ⟨z2, i2, c2⟩ | ⟨z2, i2, c2⟩⟩ | ⟨_, i2, c2, _⟩
    · exact Or.inr (bad2 i2 c2)
    · have i2' : ¬ fX10_in (jabs a2) 1 54 = 0 := by rw [i2]; exact n10
      have c2' : ¬ fX9_isCode a2 = 0 := by rw [c2]; exact n10
      rcases code_cases a3 with ⟨k3, j3, h3⟩ | ⟨j3, _, c3', z3⟩
      · have j3' : ¬ fX10_in (jabs a3) 0 54 = 0 := by rw [j3]; exact n10
        rcases code_cases a4 with ⟨k4, j4, h4⟩ | ⟨j4, _, c4, z4⟩
        · have j4' : ¬ fX10_in (jabs a4) 0 54 = 0 := by rw [j4]; exact n10
          have W : ∀ N, fX10_writes N (nI hd) a2 a3 a4 = fX10_writes_J45_10 N (nI hd) a2 a3 a4 1 := fun N => by
            rw [rwr_u, if_neg i2', if_neg j3', if_neg j4']
          by_cases e3 : a3 = 0
          · by_cases e4 : a4 = 0
            · refine Or.inl ⟨hd, hd6, rfl, ⟨k2, z2, k3, k4, fun _ => e4⟩, ?_, fun N => ?_⟩
              · unfold fX9_isRule
                rw [if_neg r1, if_neg c2', if_pos e3, if_pos e4]
              · rw [W, J1, if_pos e3, if_pos e4]
            · refine Or.inr ⟨?_, fun N => ?_⟩
              · unfold fX9_isRule
                rw [if_neg r1, if_neg c2', if_pos e3, if_neg e4]
              · rw [W, J1, if_pos e3, if_neg e4]
          · have c3' : ¬ fX9_isCode a3 = 0 := by
              rcases h3 with ⟨h, _⟩ | ⟨_, _, h⟩
              · exact absurd h e3
              · rw [h]; exact n10
            refine Or.inl ⟨hd, hd6, rfl, ⟨k2, z2, k3, k4, fun z => absurd z e3⟩, ?_, fun N => ?_⟩
            · unfold fX9_isRule
              rw [if_neg r1, if_neg c2', if_neg e3, if_neg c3']
              by_cases e4 : a4 = 0
              · rw [if_pos e4]
              · rw [if_neg e4]
                rcases h4 with ⟨h, _⟩ | ⟨_, _, h⟩
                · exact absurd h e4
                · rw [if_neg (by rw [h]; exact n10)]
            · rw [W, J1, if_neg e3]
        · refine Or.inr ⟨?_, fun N => ?_⟩
          · unfold fX9_isRule
            rw [if_neg r1, if_neg c2']
            by_cases e3 : a3 = 0
            · rw [if_pos e3, if_neg z4]
            · have c3' : ¬ fX9_isCode a3 = 0 := by
                rcases h3 with ⟨h, _⟩ | ⟨_, _, h⟩
                · exact absurd h e3
                · rw [h]; exact n10
              rw [if_neg e3, if_neg c3', if_neg z4, if_pos c4]
          · rw [rwr_u, if_neg i2', if_neg j3', if_pos j4]
            exact J0 N
      · refine Or.inr ⟨?_, fun N => ?_⟩
        · unfold fX9_isRule
          rw [if_neg r1, if_neg c2', if_neg z3, if_pos c3']
        · rw [rwr_u, if_neg i2', if_pos j3]
          exact J0 N
    · exact Or.inr (bad2 i2 c2)
  · have k := krel_n h1
    refine Or.inr ⟨?_, fun N => ?_⟩
    · unfold fX9_isRule
      rw [if_pos k.1]
    · have J : ∀ v, fX10_writes_J45_10 N a1 a2 a3 a4 v = some (0, N) := fun v => by
        unfold fX10_writes_J45_10
        rw [k.2.2.1]
        rfl
      rw [rwr_u]
      simp only [J]
      (repeat' split) <;> rfl
/-- a rule is refused, for this reason and with this detail -/
def RV (R : RS) (hd : Nat) (cs : Nat → Int32) (why w : Int32) : Prop :=
  (fa_first (usl cs) 3 < 3 ∧ why = 4 ∧ w = nI (fa_first (usl cs) 3)) ∨
  (¬ fa_first (usl cs) 3 < 3 ∧ fa_first (sqr R hd cs) R.1 < R.1 ∧ why = 6 ∧ w = nI (fa_first (sqr R hd cs) R.1)) ∨
  (¬ fa_first (usl cs) 3 < 3 ∧ ¬ fa_first (sqr R hd cs) R.1 < R.1 ∧ ¬ R.1 < 10 ∧ why = 1 ∧ w = nI 10) ∨
  (¬ fa_first (usl cs) 3 < 3 ∧ ¬ fa_first (sqr R hd cs) R.1 < R.1 ∧ R.1 < 10 ∧ ¬ LYD (addR R hd cs) (R.1 + 1) ∧ why = 5 ∧ w = nI hd)
/-- a rule can be told -/
def RVK (R : RS) (hd : Nat) (cs : Nat → Int32) : Prop := ¬ fa_first (usl cs) 3 < 3 ∧ ¬ fa_first (sqr R hd cs) R.1 < R.1 ∧ R.1 < 10 ∧ LYD (addR R hd cs) (R.1 + 1)
theorem RV.one {R : RS} {hd : Nat} {cs : Nat → Int32} {why w why' w' : Int32} (h : RV R hd cs why w) (k : RV R hd cs why' w') : why = why' ∧ w = w' := by
  rcases h with ⟨a, b, c⟩ | ⟨a, a2, b, c⟩ | ⟨a, a2, a3, b, c⟩ | ⟨a, a2, a3, a4, b, c⟩ <;> rcases k with ⟨a', b', c'⟩ | ⟨a', a2', b', c'⟩ | ⟨a', a2', a3', b', c'⟩ | ⟨a', a2', a3', a4', b', c'⟩ <;> first | exact ⟨b.trans b'.symm, c.trans c'.symm⟩ | (exact absurd a a') | (exact absurd a' a) | (exact absurd a2 a2') | (exact absurd a2' a2) | (exact absurd a3 a3') | (exact absurd a3' a3)
theorem RV.no {R : RS} {hd : Nat} {cs : Nat → Int32} {why w : Int32} (h : RV R hd cs why w) (k : RVK R hd cs) : False := by
  rcases h with ⟨a, b, c⟩ | ⟨a, a2, b, c⟩ | ⟨a, a2, a3, b, c⟩ | ⟨a, a2, a3, a4, b, c⟩
  · exact k.1 a
  · exact k.2.1 a2
  · exact a3 k.2.2.1
  · exact a4 k.2.2.2
theorem ffI_y {p : Nat → Bool} {n : Nat} (h : fa_first p n < n) : ffI p n = nI (fa_first p n) := by unfold ffI; rw [if_pos h]
theorem ffI_n {p : Nat → Bool} {n : Nat} (h : ¬ fa_first p n < n) : ffI p n = -nI 1 := by unfold ffI; rw [if_neg h]
section RUT
variable {M N : KS} {s : ST} {R : RS} {hd : Nat} {cs : Nat → Int32} {A : Nat → Nat} {P : Nat → Prop}
theorem addR_ok1 (hO : ∀ r, r < R.1 → OK1 R r) (hd6 : hd < 6) (hV : VC cs) : ∀ r, r < R.1 + 1 → OK1 (addR R hd cs) r := by
  intro r hr
  by_cases e : r = R.1
  · subst e
    refine ⟨by rw [addR_hi.1]; exact hd6, fun j hj => by rw [addR_hi.2]; exact hV.ka hj⟩
  · have h1 := hO r (by omega)
    have lo := addR_lo (R := R) (hd := hd) (cs := cs) e
    exact ⟨by rw [lo.1]; exact h1.1, fun j hj => by rw [lo.2.1]; exact h1.2 j hj⟩
theorem usl_pos (hu : ¬ fa_first (usl cs) 3 < 3) : ∃ j, j < 3 ∧ 0 < cs j := by
  have h1 := fa_first_no (usl cs) 3 0 (by omega)
  have hw : wnt cs 3 0 = true := by simp [wnt]
  unfold usl at h1
  rw [hw, Bool.true_and, Bool.not_eq_false'] at h1
  have h2 : (((false || (decide (0 < cs 0) && hl (cs 0) 0)) || (decide (0 < cs 1) && hl (cs 1) 0)) || (decide (0 < cs 2) && hl (cs 2) 0)) = true := h1
  simp only [Bool.or_eq_true, Bool.and_eq_true, decide_eq_true_eq, Bool.false_eq_true, false_or] at h2
  rcases h2 with (h2 | h2) | h2
  · exact ⟨0, by decide, h2.1⟩
  · exact ⟨1, by decide, h2.1⟩
  · exact ⟨2, by decide, h2.1⟩
theorem addR_ok (hO : OKR R) (hd6 : hd < 6) (hV : VC cs) (hK : RVK R hd cs) : OKR (addR R hd cs) := by
  refine ⟨by have := hK.2.2.1; show R.1 + 1 ≤ 10; omega, fun r hr => ?_, hK.2.2.2⟩
  have hr' : r < R.1 + 1 := hr
  refine ⟨addR_ok1 hO.ok hd6 hV r hr', ?_⟩
  by_cases e : r = R.1
  · subst e
    obtain ⟨j, hj, hp⟩ := usl_pos hK.1
    refine ⟨⟨j, hj, by rw [addR_hi.2]; exact hp⟩, by rw [addR_hi.2]; exact hV.2.1, ?_⟩
    rw [addR_hi.2, addR_hi.2]
    exact hV.2.2.2.2
  · have h1 := (hO.2.1 r (by omega)).2
    have lo := addR_lo (R := R) (hd := hd) (cs := cs) e
    obtain ⟨j, hj, hp⟩ := h1.1
    refine ⟨⟨j, hj, by rw [lo.2.1]; exact hp⟩, by rw [lo.2.1]; exact h1.2.1, ?_⟩
    rw [lo.2.1, lo.2.1]
    exact h1.2.2
abbrev cW1 : Nat → Prop := fun a => a = 1
theorem rwrites_wp (hM : MDs (N.1 1) s) (hn : s.2.1 ≤ 10) : wp (fX10_writes_J70_60 N (nI hd) (cs 0) (cs 1) (cs 2) ()) (fun b => b.1 = 1 ∧ (s.2.1 < 10 → MB (b.2.1 1) (s.2.1 + 1) (addR s.2 hd cs)) ∧ MDs (b.2.1 1) s ∧ FR cW1 N b.2) := by
  have c216 : (216 : Int32).toNatClampNeg = 216 := by decide
  have h216' : N.1 1 216 = nI s.2.1 := hM.2.1
  have h216 : N.1 1 (216 : Int32).toNatClampNeg = nI s.2.1 := by rw [c216]; exact h216'
  have e3 : (217 : Int32) + 4 * nI s.2.1 = nI (217 + 4 * s.2.1) := by rw [li217, li4, pk_mul, nI_add]
  unfold fX10_writes_J70_60
  rw [h216, e3]
  refine wp_pos (by decide) (wp_nm (wp_pos (by decide) ?_))
  by_cases h10 : s.2.1 < 10
  · have f1 : (nI (217 + 4 * s.2.1) + 1 : Int32) = nI (217 + 4 * s.2.1 + 1) := by rw [li1, nI_add]
    have f2 : (nI (217 + 4 * s.2.1) + 2 : Int32) = nI (217 + 4 * s.2.1 + 2) := by rw [li2, nI_add]
    have f3 : (nI (217 + 4 * s.2.1) + 3 : Int32) = nI (217 + 4 * s.2.1 + 3) := by rw [li3, nI_add]
    rw [f1, f2, f3]
    have g0 : (nI (217 + 4 * s.2.1)).toNatClampNeg = 217 + 4 * s.2.1 := nI_clamp (by omega)
    have g1 : (nI (217 + 4 * s.2.1 + 1)).toNatClampNeg = 217 + 4 * s.2.1 + 1 := nI_clamp (by omega)
    have g2 : (nI (217 + 4 * s.2.1 + 2)).toNatClampNeg = 217 + 4 * s.2.1 + 2 := nI_clamp (by omega)
    have g3 : (nI (217 + 4 * s.2.1 + 3)).toNatClampNeg = 217 + 4 * s.2.1 + 3 := nI_clamp (by omega)
    refine wp_neg (nI_ge h10 (by decide)) (wp_pos ((inb_N (by omega)).mpr (by omega)) (wp_nm (wp_pos ((inb_N (by omega)).mpr (by omega)) (wp_nm (wp_pos ((inb_N (by omega)).mpr (by omega)) (wp_nm (wp_pos ((inb_N (by omega)).mpr (by omega)) (wp_nm ?_))))))))
    rw [g0, g1, g2, g3]
    obtain ⟨N1, hN1⟩ : ∃ N1, N1 = kset (kset (kset (kset N 1 (217 + 4 * s.2.1) (nI hd)) 1 (217 + 4 * s.2.1 + 1) (cs 0)) 1 (217 + 4 * s.2.1 + 2) (cs 1)) 1 (217 + 4 * s.2.1 + 3) (cs 2) := ⟨_, rfl⟩
    rw [← hN1]
    have fq : ∀ q, N1.1 1 q = if q = 217 + 4 * s.2.1 + 3 then cs 2 else if q = 217 + 4 * s.2.1 + 2 then cs 1 else if q = 217 + 4 * s.2.1 + 1 then cs 0 else if q = 217 + 4 * s.2.1 then nI hd else N.1 1 q := fun q => by
      rw [hN1, kset_c, kset_c, kset_c, kset_c]
    have fo : ∀ q, q < 217 + 4 * s.2.1 → N1.1 1 q = N.1 1 q := fun q hq => by
      rw [fq, if_neg (by omega), if_neg (by omega), if_neg (by omega), if_neg (by omega)]
    refine wp_some ⟨rfl, fun _ r hr => ?_, ⟨fun k hk => by show N1.1 1 k = _; rw [fo k (by omega)]; exact hM.1 k hk, by show N1.1 1 216 = _; rw [fo 216 (by omega)]; exact h216', fun r hr => ?_⟩, by show FR cW1 N N1; rw [hN1]; exact ((((FR.rf (P := cW1)).set (rfl : cW1 1)).set (rfl : cW1 1)).set (rfl : cW1 1)).set (rfl : cW1 1)⟩
    · show N1.1 1 (217 + 4 * r) = _ ∧ ∀ j, j < 3 → N1.1 1 (217 + 4 * r + 1 + j) = _
      by_cases e : r = s.2.1
      · subst e
        rw [addR_hi.1]
        refine ⟨by rw [fq, if_neg (by omega), if_neg (by omega), if_neg (by omega), if_pos rfl], fun j hj => ?_⟩
        rw [addR_hi.2, fq]
        rcases (show j = 0 ∨ j = 1 ∨ j = 2 by omega) with rfl | rfl | rfl
        · rw [if_neg (by omega), if_neg (by omega), if_pos (by omega)]
        · rw [if_neg (by omega), if_pos (by omega)]
        · rw [if_pos (by omega)]
      · have lo := addR_lo (R := s.2) (hd := hd) (cs := cs) e
        have h3 := hM.2.2 r (by omega)
        rw [lo.1, fo _ (by omega)]
        refine ⟨h3.1, fun j hj => ?_⟩
        rw [lo.2.1, fo _ (by omega)]
        exact h3.2 j hj
    · show N1.1 1 (217 + 4 * r) = _ ∧ ∀ j, j < 3 → N1.1 1 (217 + 4 * r + 1 + j) = _
      have h3 := hM.2.2 r hr
      rw [fo _ (by omega)]
      refine ⟨h3.1, fun j hj => ?_⟩
      rw [fo _ (by omega)]
      exact h3.2 j hj
  · refine wp_pos (nI_le (show 10 ≤ s.2.1 by omega) (by omega)) (wp_some ⟨rfl, fun h => absurd h h10, hM, FR.rf⟩)
theorem rrule_wp (hO : OKR s.2) (hM : MDs (N.1 1) s) (hd6 : hd < 6) (hV : VC cs) (hW : ∀ N, fX10_writes N (nI hd) (cs 0) (cs 1) (cs 2) = fX10_writes_J70_60 N (nI hd) (cs 0) (cs 1) (cs 2) ()) : wp (fX10_doRule N (nI hd) (cs 0) (cs 1) (cs 2)) (fun b => (∃ why w, RV s.2 hd cs why w ∧ NREF N why w b) ∨ (RVK s.2 hd cs ∧ NDONE N (s.1, addR s.2 hd cs) (nI s.2.1) b)) := by
  have hn := hO.1
  have c216 : (216 : Int32).toNatClampNeg = 216 := by decide
  have z0 : (0 : Int32).toNatClampNeg = 0 := by decide
  have z1 : (1 : Int32).toNatClampNeg = 1 := by decide
  have z2 : (2 : Int32).toNatClampNeg = 2 := by decide
  unfold fX10_doRule
  rw [hW]
  refine wp_bd2 (wp_mono (rwrites_wp hM hn) ?_)
  rintro ⟨v, N1⟩ ⟨hv, hB, hM1, hF⟩
  have hv : v = 1 := hv
  subst hv
  have hB : s.2.1 < 10 → MB (N1.1 1) (s.2.1 + 1) (addR s.2 hd cs) := hB
  have hM1 : MDs (N1.1 1) s := hM1
  have hF : FR cW1 N N1 := hF
  refine wp_neg (show ¬ (1 : Int32) = 0 by decide) (wp_pos (by decide) (wp_nm (wp_pos (by decide) (wp_nm (wp_pos (by decide) (wp_nm (wp_pos (by decide) (wp_nm ?_))))))))
  show wp ((fX10_unsafe (kset (kset (kset N1 15 (0 : Int32).toNatClampNeg (cs 0)) 15 (1 : Int32).toNatClampNeg (cs 1)) 15 (2 : Int32).toNatClampNeg (cs 2))).bind _) _
  simp only [z0, z1, z2, c216]
  rw [show N1.1 1 216 = nI s.2.1 from hM1.2.1]
  obtain ⟨N6, h6⟩ : ∃ N6, N6 = kset (kset (kset N1 15 0 (cs 0)) 15 1 (cs 1)) 15 2 (cs 2) := ⟨_, rfl⟩
  rw [← h6]
  have t15 : ∀ j, j < 3 → N6.1 15 j = cs j := fun j hj => by
    rw [h6, kset_c, kset_c, kset_c]
    rcases (show j = 0 ∨ j = 1 ∨ j = 2 by omega) with rfl | rfl | rfl
    · rw [if_neg (by decide), if_neg (by decide), if_pos rfl]
    · rw [if_neg (by decide), if_pos rfl]
    · rw [if_pos rfl]
  have n1 : N6.1 1 = N1.1 1 := by rw [h6, kset_nc (by decide), kset_nc (by decide), kset_nc (by decide)]
  have hF6 : FR (fun a => a = 1 ∨ a = 15) N N6 := by
    rw [h6]
    have f1 : FR (fun a => a = 1 ∨ a = 15) N N1 := hF.wk (fun a h => Or.inl h)
    exact ((f1.set (Or.inr rfl)).set (Or.inr rfl)).set (Or.inr rfl)
  have hf6 : ∀ a, rw6 a → N6.1 a = N.1 a := fun a ha => hF6.1 a (by omega)
  have h06 : N6.1 0 = N.1 0 := hF6.1 0 (by decide)
  have hM6 : MDs (N6.1 1) s := by rw [n1]; exact hM1
  rw [runs_eq t15 hV]
  refine wp_bind (wp_some ?_)
  by_cases u : fa_first (usl cs) 3 < 3
  · rw [ffI_y u]
    refine wp_neg (nI_pos (by omega)) (wp_bind (wp_some (wp_bd2 (wp_mono (rrefuse_wp hf6 h06) ?_))))
    intro b hb
    exact wp_some (Or.inl ⟨_, _, Or.inl ⟨u, rfl, rfl⟩, hb⟩)
  · rw [ffI_n u]
    refine wp_pos (by decide) ?_
    rw [rlike_eq (R := s.2) t15 hM6.2.2 hM6.2.1 hn hO.ok hd6]
    refine wp_bind (wp_some ?_)
    by_cases q : fa_first (sqr s.2 hd cs) s.2.1 < s.2.1
    · rw [ffI_y q]
      refine wp_neg (nI_pos (by omega)) (wp_bind (wp_some (wp_bd2 (wp_mono (rrefuse_wp hf6 h06) ?_))))
      intro b hb
      exact wp_some (Or.inl ⟨_, _, Or.inr (Or.inl ⟨u, q, rfl, rfl⟩), hb⟩)
    · rw [ffI_n q]
      refine wp_pos (by decide) ?_
      by_cases h10 : s.2.1 < 10
      · refine wp_neg (fun z => by have := (nI_eq (b := 10) (by omega) (by decide)).mp z; omega) ?_
        rw [show (nI s.2.1 + 1 : Int32) = nI (s.2.1 + 1) by rw [li1, nI_add]]
        refine wp_bd2 (wp_mono (rlay_wp (R := addR s.2 hd cs) (m := s.2.1 + 1) (by omega) (addR_ok1 hO.ok hd6 hV) (by rw [n1]; exact hB h10)) ?_)
        rintro ⟨v, N9⟩ ⟨h, hF9⟩
        have hF9 : FR c5 N6 N9 := hF9
        rcases h with ⟨A, hv, _, hI, _⟩ | ⟨hv, hL⟩
        · have hv : v = nI 1 := hv
          subst hv
          refine wp_neg (show ¬ nI 1 = 0 by decide) (wp_pos (by decide) (wp_pos (by decide) (wp_nm (wp_some (Or.inr ⟨⟨u, q, h10, ⟨A, hI.1⟩⟩, rfl, ?_, fun a ha => ?_, ?_⟩)))))
          · show MDs ((kset N9 1 216 (N9.1 1 216 + 1)).1 1) (s.1, addR s.2 hd cs)
            have e91 : N9.1 1 = N1.1 1 := (hF9.1 1 (by decide)).trans n1
            refine ⟨fun k hk => ?_, ?_, fun r hr => ?_⟩
            · rw [kset_c, if_neg (by omega), e91]; exact hM1.1 k hk
            · rw [kset_c, if_pos rfl, e91, show N1.1 1 216 = nI s.2.1 from hM1.2.1, li1, nI_add]; rfl
            · have h3 := hB h10 r hr
              rw [kset_c, if_neg (by omega), e91]
              refine ⟨h3.1, fun j hj => ?_⟩
              rw [kset_c, if_neg (by omega), e91]
              exact h3.2 j hj
          · show (kset N9 1 216 _).1 a = N.1 a
            rw [kset_nc (by omega), hF9.1 a (by omega), hf6 a ha]
          · show (kset N9 1 216 _).1 0 = N.1 0
            rw [kset_nc (by decide), hF9.1 0 (by decide), h06]
        · have hv : v = nI 0 := hv
          subst hv
          refine wp_pos rfl (wp_bd2 (wp_mono (rrefuse_wp (N := N) (fun a ha => by rw [hF9.1 a (by omega), hf6 a ha]) (by rw [hF9.1 0 (by decide), h06])) ?_))
          intro b hb
          exact wp_some (Or.inl ⟨_, _, Or.inr (Or.inr (Or.inr ⟨u, q, h10, hL, rfl, rfl⟩)), hb⟩)
      · refine wp_pos (by rw [show s.2.1 = 10 by omega]; rfl) (wp_bd2 (wp_mono (rrefuse_wp hf6 h06) ?_))
        intro b hb
        exact wp_some (Or.inl ⟨_, _, Or.inr (Or.inr (Or.inl ⟨u, q, h10, rfl, rfl⟩)), hb⟩)
/-- the class's cells of a proposed rule belong to the present state -/
theorem cRx_O : ∀ a, cRx a → cO a := fun a h => by
  rcases h with h | h | h
  · exact Or.inl (Or.inr (Or.inr (Or.inl h)))
  · exact Or.inl (Or.inr (Or.inr (Or.inr (Or.inl h))))
  · exact Or.inl (Or.inr (Or.inr (Or.inr (Or.inr h))))
theorem prop_k (hO : OKR s.2) (hK : KT M 0 s) (hS : SETD M s) (hV : VC cs) : wp (fX6_propose M 0 (nI hd) (cs 0) (cs 1) (cs 2)) (fun M1 => RB M1 0 (s.2.1 + 1) (addR s.2 hd cs) ∧ M1.1 (iR 0) 3 = nI s.2.1 ∧ KT M1 0 s ∧ SETD M1 s ∧ FQ cO M M1) := by
  refine wp_mono (prop_wp hK.2 hO.1 hV) ?_
  intro M1 ⟨h1, h2, h3⟩
  exact ⟨h1, h2, ⟨hK.1.fr h3 (by decide) (by decide), RA.back h1 h2⟩, hS.fr h3 (fun a ha z => by omega), h3.q.wk cRx_O⟩
theorem krule_wp (hO : OKR s.2) (hK : KT M 0 s) (hS : SETD M s) (hd6 : hd < 6) (hV : VC cs) : wp (fX9_addRule M (nI hd) (cs 0) (cs 1) (cs 2)) (fun a => (∃ why w, RV s.2 hd cs why w ∧ KREF M s why w a) ∨ (RVK s.2 hd cs ∧ KDONE M (s.1, addR s.2 hd cs) a)) := by
  have hn := hO.1
  unfold fX9_addRule
  refine wp_bind (wp_mono (prop_k hO hK hS hV) ?_)
  intro M1 ⟨h1, h2, hK1, hS1, q1⟩
  rw [kuns_eq h1 h2 hn hV, ksame_eq h1 h2 hn hO.ok hd6, h2]
  refine wp_bind (wp_some ?_)
  have fin : ∀ {why w : Int32} {a : Int32 × KS}, RV s.2 hd cs why w → KREF M s why w a → wp (if isB a.1 then some (a.1, a.2) else none) (fun a => (∃ why w, RV s.2 hd cs why w ∧ KREF M s why w a) ∨ (RVK s.2 hd cs ∧ KDONE M (s.1, addR s.2 hd cs) a)) := fun hr ha => wp_pos (by rw [ha.1]; exact Or.inl rfl) (wp_some (Or.inl ⟨_, _, hr, ha⟩))
  by_cases u : fa_first (usl cs) 3 < 3
  · rw [ffI_y u]
    exact wp_neg (nI_pos (by omega)) (wp_bd2 (wp_mono (krefuse_wp hK1 hS1 q1) (fun a ha => fin (Or.inl ⟨u, rfl, rfl⟩) ha)))
  · rw [ffI_n u]
    refine wp_pos (by decide) (wp_bind (wp_some ?_))
    by_cases q : fa_first (sqr s.2 hd cs) s.2.1 < s.2.1
    · rw [ffI_y q]
      exact wp_neg (nI_pos (by omega)) (wp_bd2 (wp_mono (krefuse_wp hK1 hS1 q1) (fun a ha => fin (Or.inr (Or.inl ⟨u, q, rfl, rfl⟩)) ha)))
    · rw [ffI_n q]
      refine wp_pos (by decide) ?_
      by_cases h10 : s.2.1 < 10
      · refine wp_pos (nI_lt h10 (by decide)) ?_
        rw [show (nI s.2.1 + 1 : Int32) = nI (s.2.1 + 1) by rw [li1, nI_add]]
        refine wp_bd2 (wp_mono (arr_wp (y := 2) h1 (by omega) (addR_ok1 hO.ok hd6 hV) (by decide)) ?_)
        rintro ⟨v, M4⟩ ⟨h, hF4⟩
        have hF4 : FR (fun q => q = iYl 2) M1 M4 := hF4
        have hY : iYl 2 = 105 := rfl
        have nS : ∀ a, cS 0 a → ¬ a = iYl 2 := fun a ha z => by have := cS_ix ha; omega
        have hK4 : KT M4 0 s := hK1.fr hF4 nS
        have hS4 : SETD M4 s := hS1.fr hF4 (fun a ha z => by omega)
        have q4 : FQ cO M M4 := q1.tr (hF4.q.wk (fun a h => Or.inr (by have h' : a = 105 := h; omega)))
        rcases h with ⟨A, hv, _, hI, _⟩ | ⟨hv, hL⟩
        · have hv : v = nI 1 := hv
          subst hv
          refine wp_neg (show ¬ nI 1 = 0 by decide) ?_
          unfold fX6_accept
          have h45 : M4.1 (iR 0) 3 = nI s.2.1 := hK4.2.1
          rw [h45]
          refine wp_bind (wp_neg (nI_ge h10 (by decide)) (wp_nm (wp_some (wp_bind (out_wp (wp_some (Or.inr ⟨⟨u, q, h10, ⟨A, hI.1⟩⟩, rfl, ?_, SETD.z (by rw [kset_c, if_pos rfl]), ?_⟩)))))))
          · have hb4 : RB M4 0 (s.2.1 + 1) (addR s.2 hd cs) := h1.fr hF4 (by decide) (by decide) (by decide)
            have f6 : FR (fun a => a = 45 ∨ a = 106) M4 (kset (kset M4 (iR 0) 3 (nI s.2.1 + 1)) 106 9 0) := (FR.rf.set (Or.inl rfl)).set (Or.inr rfl)
            refine ⟨hK4.1.fr f6 (by decide) (by decide), ?_, hb4.fr f6 (by decide) (by decide) (by decide)⟩
            show (kset (kset M4 (iR 0) 3 (nI s.2.1 + 1)) 106 9 0).1 (iR 0) 3 = nI (s.2.1 + 1)
            rw [kset_nc (by decide), kset_c, if_pos rfl, li1, nI_add]
          · exact (q4.set (Or.inl (Or.inr (Or.inl rfl)))).set (Or.inr (by decide))
        · have hv : v = nI 0 := hv
          subst hv
          exact wp_pos rfl (wp_bd2 (wp_mono (krefuse_wp hK4 hS4 q4) (fun a ha => fin (Or.inr (Or.inr (Or.inr ⟨u, q, h10, hL, rfl, rfl⟩))) ha)))
      · refine wp_neg (nI_nlt (show 10 ≤ s.2.1 by omega) (by omega)) ?_
        rw [show s.2.1 = 10 by omega]
        exact wp_bd2 (wp_mono (krefuse_wp hK1 hS1 q1) (fun a ha => fin (Or.inr (Or.inr (Or.inl ⟨u, q, h10, rfl, rfl⟩))) ha))
end RUT
section CASW
variable {α : Type} {P : α → Prop} {G : LST → Option α} {M N : KS} {s : ST} {v : Int64} {d : UInt64} {xs : Nat → Int32} {i : Nat}
theorem g_11 (h : REL M N) (hG : ∀ M' N' v' d', REL M' N' → wp (G (M', N', v', d')) P) : wp (gL_11 xs i (M, N, v, d) G) P := by
  obtain ⟨s, hO, hK, hM, hS, hB⟩ := h
  unfold gL_11 fL_rule
  rcases rule_cases (xs (i + 1)) (xs (i + 2)) (xs (i + 3)) (xs (i + 4)) with ⟨hd, hd6, e1, hV, b1, b2⟩ | ⟨b1, b2⟩
  · obtain ⟨cs, hcs⟩ : ∃ cs, cs = c3 (xs (i + 2)) (xs (i + 3)) (xs (i + 4)) := ⟨_, rfl⟩
    have d0 : xs (i + 2) = cs 0 := by rw [hcs]; rfl
    have d1 : xs (i + 3) = cs 1 := by rw [hcs]; rfl
    have d2 : xs (i + 4) = cs 2 := by rw [hcs]; rfl
    rw [← hcs] at hV
    rw [e1, d0, d1, d2] at b1 b2 ⊢
    refine sim Int32.toInt64 (wp_bind ?_) hG
    unfold fX9_rule
    refine wp_neg (by rw [b1]; decide) (wp_bind (wp_mono (mark_all hO hK hM hS hB) ?_))
    intro M1 ⟨m1, m2, m3, m4⟩
    refine wp_bd2 (wp_mono (krule_wp hO m1 m2 hd6 hV) ?_)
    intro a ha
    rcases ha with ⟨why, w, hr, ha⟩ | ⟨hr, ha⟩
    · refine wp_pos ha.1 (wp_some (wp_neg (show ¬ (1 : Nat) = 0 by decide) (wp_pos rfl (wp_some ?_))))
      unfold fX10_rule
      refine wp_bind (wp_mono m4 ?_)
      intro N1 ⟨n1, n2, n3, n4, n5⟩
      refine wp_bd2 (wp_mono (rrule_wp hO n2 hd6 hV b2) ?_)
      intro b hb
      rcases hb with ⟨why', w', hr', hb⟩ | ⟨hr', _⟩
      · obtain ⟨q1, q2⟩ := hr.one hr'
        subst q1; subst q2
        refine wp_bd2 (wp_mono (ref_fin n1 hO ha hb) ?_)
        intro e ⟨q1, q2, q3⟩
        exact wp_some ⟨q1, fun h => absurd h (show ¬ (2 : Int32) = 0 by decide), s, hO, ha.2.1, q2, ha.2.2.1, q3⟩
      · exact absurd hr' (fun z => hr.no z)
    · refine wp_neg (by rw [ha.1]; decide) ?_
      have hfin : wp (fX10_keep N) (fun N1 => wp (fX10_doRule N1 (nI hd) (cs 0) (cs 1) (cs 2)) (fun b => b.1 = nI s.2.1 ∧ wp (fX5_keep a.2) (fun M4 => KT M4 0 (s.1, addR s.2 hd cs) ∧ SETD M4 (s.1, addR s.2 hd cs) ∧ wp (fX10_ends b.2 b.1) (fun e => e.1 = b.1 ∧ e.2.1 0 6 = 0 ∧ MDs (e.2.1 1) (s.1, addR s.2 hd cs) ∧ BGR M4 e.2)))) := by
        refine wp_mono m4 ?_
        intro N1 ⟨n1, n2, n3, n4, n5⟩
        refine wp_mono (rrule_wp hO n2 hd6 hV b2) ?_
        intro b hb
        rcases hb with ⟨_, _, hr', _⟩ | ⟨_, hb⟩
        · exact absurd hr (fun z => hr'.no z)
        · exact ⟨hb.1, done_fin n1 hO n3 ha hb⟩
      obtain ⟨N1, hN1, hfin⟩ := hfin
      obtain ⟨b, hb, hb1, hfin⟩ := hfin
      obtain ⟨M4, hM4, q1, q2, hfin⟩ := hfin
      obtain ⟨e, he, q3, q4, q5, q6⟩ := hfin
      rw [hM4]
      refine wp_bind (wp_some (wp_some (wp_some ?_)))
      unfold fX10_rule
      rw [hN1]
      refine wp_bind (wp_some ?_)
      rw [hb]
      refine wp_bd2 (wp_some ?_)
      rw [he]
      refine wp_bd2 (wp_some (wp_some ⟨q4, fun _ => ?_, (s.1, addR s.2 hd cs), addR_ok hO hd6 hV hr, q1, q5, q2, q6⟩))
      show Int32.toInt64 (M4.1 (iR 0) 3 - 1) = Int32.toInt64 e.1
      rw [q3, hb1, show M4.1 (iR 0) 3 = nI (s.2.1 + 1) from q1.2.1, nI_pred]
  · refine sim_ex (f := Int32.toInt64) (e := 0) (t := 1) (val := 0) (v0 := v) hO hK hB (by unfold fX9_rule; rw [b1]; exact wp_pos rfl (wp_some (CQ.inl FQ.rf hS))) (fun M' => rfl) (by decide) ?_ hG
    unfold fX10_rule
    refine wrong_wp hO hM (by decide) (by decide) (fun N1 _ => ?_)
    unfold fX10_doRule
    rw [b2]
    exact wp_bd2 (wp_some (wp_pos rfl (wp_bd2 (wp_mono fails_wp (fun b hb => wp_some hb)))))
end CASW
