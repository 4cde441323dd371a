/-! ===== a rule is told: is it safe, is there such a one ===== -/
def bnd (cs : Nat → Int32) : Nat → Nat → Bool
  | 0, _ => false
  | i + 1, l => bnd cs i l || (decide (0 < cs i) && hl (cs i) l)
def wnt (cs : Nat → Int32) : Nat → Nat → Bool
  | 0, l => decide (l < 2)
  | i + 1, l => wnt cs i l || (decide (cs i < 0) && hl (cs i) l)
/-- a letter does not stand as it should -/
def usl (cs : Nat → Int32) (l : Nat) : Bool := wnt cs 3 l && !bnd cs 3 l
/-- the first with a property, or -1 -/
def ffI (p : Nat → Bool) (n : Nat) : Int32 := if fa_first p n < n then nI (fa_first p n) else -nI 1
def sqp (R : RS) (hd : Nat) (cs : Nat → Int32) (r : Nat) : Nat → Bool
  | 0 => R.2.1 r == hd
  | k + 1 => sqp R hd cs r k && (R.2.2 r k == cs k)
def sqr (R : RS) (hd : Nat) (cs : Nat → Int32) (r : Nat) : Bool := sqp R hd cs r 3
/-- the last of the highest i numbers below n, going down -/
def dnf (p : Nat → Bool) (n : Nat) : Nat → Int32
  | 0 => -nI 1
  | i + 1 => if p (n - (i + 1)) then nI (n - (i + 1)) else dnf p n i
theorem dnf_is (p : Nat → Bool) (n : Nat) : ∀ i, i ≤ n → ((∀ r, n - i ≤ r → r < n → p r = false) ∧ dnf p n i = -nI 1) ∨ ∃ r, n - i ≤ r ∧ r < n ∧ p r = true ∧ (∀ q, n - i ≤ q → q < r → p q = false) ∧ dnf p n i = nI r
  | 0, _ => Or.inl ⟨fun r h1 h2 => by omega, rfl⟩
  | i + 1, h => by
    have ih := dnf_is p n i (by omega)
    cases hp : p (n - (i + 1))
    · have e : dnf p n (i + 1) = dnf p n i := by show (if p (n - (i + 1)) then _ else _) = _; rw [hp]; rfl
      rw [e]
      have step : ∀ r, n - (i + 1) ≤ r → r < n - i → p r = false := fun r h1 h2 => by
        rw [show r = n - (i + 1) by omega]; exact hp
      rcases ih with ⟨h1, h2⟩ | ⟨r, h1, h2, h3, h4, h5⟩
      · refine Or.inl ⟨fun r ha hb => ?_, h2⟩
        rcases Nat.lt_or_ge r (n - i) with z | z
        · exact step r ha z
        · exact h1 r z hb
      · refine Or.inr ⟨r, by omega, h2, h3, fun q ha hb => ?_, h5⟩
        rcases Nat.lt_or_ge q (n - i) with z | z
        · exact step q ha z
        · exact h4 q z hb
    · have e : dnf p n (i + 1) = nI (n - (i + 1)) := by show (if p (n - (i + 1)) then _ else _) = _; rw [hp]; rfl
      exact Or.inr ⟨n - (i + 1), Nat.le_refl _, by omega, hp, fun q ha hb => by omega, e⟩
theorem dnf_ff (p : Nat → Bool) (n : Nat) : dnf p n n = ffI p n := by
  unfold ffI
  rcases dnf_is p n n (Nat.le_refl _) with ⟨h1, h2⟩ | ⟨r, h1, h2, h3, h4, h5⟩
  · rw [h2, if_neg (fun z => ?_)]
    have := fa_first_yes p n z
    rw [h1 _ (by omega) z] at this
    exact absurd this (by decide)
  · have hle : r ≤ fa_first p n := by
      rcases Nat.lt_or_ge (fa_first p n) r with z | z
      · have := fa_first_yes p n (by omega)
        rw [h4 _ (by omega) z] at this
        exact absurd this (by decide)
      · exact z
    rw [h5, ff_t hle h3, if_pos h2]
theorem m6_one' {j : Nat} (h : j < 6) : jshl 1 (nI j) = m6 (fun i => i == j) := m6_one h
theorem us_test {w b : Nat → Bool} {l : Nat} (h : l < 6) : ((m6 w &&& (m6 b ^^^ (-1))) &&& jshl 1 (nI l)) = 0 ↔ (w l && !b l) = false := by
  rw [show (-1 : Int32) = -nI 1 from rfl, m6_andn, m6_one' h, m6_and]
  show m6 _ = nI 0 ↔ _
  rw [m6_eq0]
  constructor
  · intro h1
    have h2 := h1 l h
    rw [beq_self_eq_true, Bool.and_true] at h2
    exact h2
  · intro h1 j _
    show ((w j && !b j) && (j == l)) = false
    by_cases e : j = l
    · rw [e, h1, Bool.false_and]
    · rw [beq_eq_false_iff_ne.mpr e, Bool.and_false]
theorem beq_sw (a b : Nat) : (a == b) = (b == a) := by rw [Bool.eq_iff_iff, beq_iff_eq, beq_iff_eq]; exact ⟨Eq.symm, Eq.symm⟩
theorem hl_m6 {c : Int32} (h0 : c ≠ 0) : (m6 (fun i => i == k1 c) ||| m6 (fun i => i == k2 c)) = m6 (fun l => hl c l) := by
  rw [m6_or]
  refine m6_cong fun l _ => ?_
  unfold hl
  rw [decide_eq_true h0, Bool.true_and, beq_sw l, beq_sw l]
section SFE
variable {M N : KS} {R : RS} {hd : Nat} {cs : Nat → Int32} {s : ST}
theorem c_pos {c : Int32} (h : 0 < c) : c ≠ 0 ∧ ¬ c < 0 := by
  have h1 : (0 : Int32).toInt = 0 := by decide
  refine ⟨fun z => by rw [z] at h; exact absurd h (by decide), fun z => ?_⟩
  rw [fa_lt, h1] at h z
  omega
theorem c_neg {c : Int32} (h : c < 0) : c ≠ 0 ∧ ¬ 0 < c ∧ ¬ 0 ≤ c := by
  have h1 : (0 : Int32).toInt = 0 := by decide
  refine ⟨fun z => by rw [z] at h; exact absurd h (by decide), fun z => ?_, fun z => ?_⟩
  · rw [fa_lt, h1] at h z
    omega
  · rw [fa_lt, h1] at h
    rw [fa_le, h1] at z
    omega
theorem c_three (c : Int32) : 0 < c ∨ c = 0 ∨ c < 0 := by
  rcases fa_three 0 c with h | h | h
  · exact Or.inl h
  · exact Or.inr (Or.inl h.symm)
  · exact Or.inr (Or.inr h)
theorem bnd_p {i j : Nat} (p : 0 < cs i) : (bnd cs i j || hl (cs i) j) = bnd cs (i + 1) j := by
  show _ = (bnd cs i j || (decide (0 < cs i) && hl (cs i) j))
  rw [decide_eq_true p, Bool.true_and]
theorem bnd_n {i j : Nat} (p : ¬ 0 < cs i) : bnd cs i j = bnd cs (i + 1) j := by
  show _ = (bnd cs i j || (decide (0 < cs i) && hl (cs i) j))
  rw [decide_eq_false p, Bool.false_and, Bool.or_false]
theorem wnt_p {i j : Nat} (p : cs i < 0) : (wnt cs i j || hl (cs i) j) = wnt cs (i + 1) j := by
  show _ = (wnt cs i j || (decide (cs i < 0) && hl (cs i) j))
  rw [decide_eq_true p, Bool.true_and]
theorem wnt_n {i j : Nat} (p : ¬ cs i < 0) : wnt cs i j = wnt cs (i + 1) j := by
  show _ = (wnt cs i j || (decide (cs i < 0) && hl (cs i) j))
  rw [decide_eq_false p, Bool.false_and, Bool.or_false]
theorem kuns_eq (hR : RB M 0 (R.1 + 1) (addR R hd cs)) (h3 : M.1 (iR 0) 3 = nI R.1) (hn : R.1 ≤ 10) (hV : VC cs) : fX6_unsafeLetter M 0 = some (ffI (usl cs) 3) := by
  unfold fX6_unsafeLetter
  refine wp_is (wp_for 3 (fun (i : Nat) (s : Int32 × Int32 × Int32) => s = (m6 (bnd cs i), m6 (wnt cs i), nI i)) (fun i s rec hi hI hrec => ?_) (by decide) (Nat.zero_le _) ?_)
  · subst hI
    rw [fX6_unsafeLetter_L6_u, h3]
    rcases Nat.lt_or_ge i 3 with hlt | hge
    · refine wp_neg (nI_ge hlt (by decide)) ?_
      rw [code_eq hR (Nat.lt_succ_self _) (by omega) hlt, addR_hi.2]
      refine wp_bind (wp_some ?_)
      have hc := hV.ka hlt
      have e1 : (nI i + 1 : Int32) = nI (i + 1) := by rw [li1, nI_add]
      have b1 := kb1_lt (cs i)
      have b2 := kb2_lt (cs i)
      rcases c_three (cs i) with p | p | p
      · have h0 := c_pos p
        refine wp_neg (fun z => kc_sg2.mp z p) ?_
        rw [kc_fst hc h0.1]
        refine wp_bind (wp_some (wp_nm (wp_nm ?_)))
        rw [kc_snd hc h0.1, m6_one' (show k1 (cs i) < 6 by omega), m6_one' (show k2 (cs i) < 6 by omega), hl_m6 h0.1, m6_or, e1, m6_cong (fun j _ => bnd_p p), m6_cong (fun j _ => wnt_n h0.2)]
        exact hrec _ hlt rfl
      · have p0 : ¬ 0 < cs i := fun z => by rw [p] at z; exact absurd z (by decide)
        have p1 : ¬ cs i < 0 := fun z => by rw [p] at z; exact absurd z (by decide)
        refine wp_pos (kc_sg2.mpr p0) (wp_pos (by rw [p]; decide) (wp_nm ?_))
        rw [e1, m6_cong (fun j _ => bnd_n p0), m6_cong (fun j _ => wnt_n p1)]
        exact hrec _ hlt rfl
      · have h0 := c_neg p
        refine wp_pos (kc_sg2.mpr h0.2.1) (wp_neg h0.2.2 ?_)
        rw [kc_fst hc h0.1]
        refine wp_bind (wp_some (wp_nm (wp_nm ?_)))
        rw [kc_snd hc h0.1, m6_one' (show k1 (cs i) < 6 by omega), m6_one' (show k2 (cs i) < 6 by omega), hl_m6 h0.1, m6_or, e1, m6_cong (fun j _ => bnd_n h0.2.1), m6_cong (fun j _ => wnt_p p)]
        exact hrec _ hlt rfl
    · have : i = 3 := by omega
      subst this
      refine wp_pos (nI_le (Nat.le_refl _) (by decide)) ?_
      show wp (lp (fX6_unsafeLetter_L79 (m6 (bnd cs 3)) (m6 (wnt cs 3))) fX6_unsafeLetter_X79 1000000 0) _
      refine wp_for 3 (fun (l : Nat) (s : Int32) => s = nI l ∧ l ≤ fa_first (usl cs) 3) (fun l s rec2 hle hI hrec2 => ?_) (by decide) (i := 0) (s := (0 : Int32)) (Nat.zero_le _) ⟨rfl, Nat.zero_le _⟩
      obtain ⟨rfl, hI⟩ := hI
      unfold fX6_unsafeLetter_L79
      rcases Nat.lt_or_ge l 3 with hlt | hge
      · refine wp_neg (nI_ge hlt (by decide)) ?_
        have ht := us_test (w := wnt cs 3) (b := bnd cs 3) (l := l) (by omega)
        have e1 : (nI l + 1 : Int32) = nI (l + 1) := by rw [li1, nI_add]
        cases hu : usl cs l
        · refine wp_pos (ht.mpr hu) (wp_nm ?_)
          rw [e1]
          exact hrec2 _ hlt ⟨rfl, ff_f hI hlt hu⟩
        · refine wp_neg (fun z => ?_) (wp_some ?_)
          · have hz : usl cs l = false := ht.mp z
            rw [hu] at hz
            exact absurd hz (by decide)
          · show nI l = ffI (usl cs) 3
            unfold ffI
            rw [ff_t hI hu, if_pos hlt]
      · have : l = 3 := by omega
        subst this
        refine wp_pos (nI_le (Nat.le_refl _) (by decide)) (wp_some ?_)
        show (-1 : Int32) = ffI (usl cs) 3
        unfold ffI
        rw [if_neg (by omega)]
        rfl
  · rw [Prod.mk.injEq, Prod.mk.injEq]
    exact ⟨m6_zero, (by decide : (3 : Int32) = m6 (fun l => decide (l < 2))), rfl⟩
theorem ksame_eq (hR : RB M 0 (R.1 + 1) (addR R hd cs)) (h3 : M.1 (iR 0) 3 = nI R.1) (hn : R.1 ≤ 10) (hO : ∀ r, r < R.1 → OK1 R r) (hd6 : hd < 6) : fX6_sameAsProposed M 0 = some (ffI (sqr R hd cs) R.1) := by
  unfold fX6_sameAsProposed
  refine wp_is (wp_for R.1 (fun (i : Nat) (s : Int32) => s = nI i ∧ i ≤ fa_first (sqr R hd cs) R.1) (fun i s rec hi hI hrec => ?_) (by omega) (i := 0) (s := (0 : Int32)) (Nat.zero_le _) ⟨rfl, Nat.zero_le _⟩)
  obtain ⟨rfl, hI⟩ := hI
  unfold fX6_sameAsProposed_L2
  rw [h3]
  rcases Nat.lt_or_ge i R.1 with hlt | hge
  · refine wp_neg (nI_ge hlt (by omega)) ?_
    have lo := addR_lo (R := R) (hd := hd) (cs := cs) (r := i) (by omega)
    have e1 : (nI i + 1 : Int32) = nI (i + 1) := by rw [li1, nI_add]
    have key : sqr R hd cs i = false → wp (nm (nI i + 1) fun v => rec v) (fun b => b = ffI (sqr R hd cs) R.1) := fun hf => wp_nm (by
      show wp (rec (nI i + 1)) _
      rw [e1]
      exact hrec _ hlt ⟨rfl, ff_f hI hlt hf⟩)
    have h6 := (hO i hlt).1
    rw [head_eq hR (show i < R.1 + 1 by omega) (by omega), head_eq hR (Nat.lt_succ_self _) (by omega), addR_hi.1, lo.1]
    refine wp_bind (wp_some (wp_bind (wp_some ?_)))
    have cd : ∀ j, j < 3 → fX6_code M 0 (nI i) (nI j) = some (R.2.2 i j) ∧ fX6_code M 0 (nI R.1) (nI j) = some (cs j) := fun j hj => by
      rw [code_eq hR (show i < R.1 + 1 by omega) (by omega) hj, code_eq hR (Nat.lt_succ_self _) (by omega) hj, addR_hi.2, lo.2.1]
      exact ⟨rfl, rfl⟩
    by_cases q : R.2.1 i = hd
    · refine wp_pos (by rw [q]) ?_
      rw [show (0 : Int32) = nI 0 from rfl, (cd 0 (by decide)).1, (cd 0 (by decide)).2]
      refine wp_bind (wp_some (wp_bind (wp_some ?_)))
      by_cases q0 : R.2.2 i 0 = cs 0
      · refine wp_pos q0 ?_
        rw [show fX6_code M 0 (nI i) 1 = some (R.2.2 i 1) from (cd 1 (by decide)).1, show fX6_code M 0 (nI R.1) 1 = some (cs 1) from (cd 1 (by decide)).2]
        refine wp_bind (wp_some (wp_bind (wp_some ?_)))
        by_cases q1 : R.2.2 i 1 = cs 1
        · refine wp_pos q1 ?_
          rw [show fX6_code M 0 (nI i) 2 = some (R.2.2 i 2) from (cd 2 (by decide)).1, show fX6_code M 0 (nI R.1) 2 = some (cs 2) from (cd 2 (by decide)).2]
          refine wp_bind (wp_some (wp_bind (wp_some ?_)))
          by_cases q2 : R.2.2 i 2 = cs 2
          · refine wp_pos q2 (wp_some ?_)
            have hs : sqr R hd cs i = true := by simp [sqr, sqp, q, q0, q1, q2]
            show nI i = ffI _ _
            unfold ffI
            rw [ff_t hI hs, if_pos hlt]
          · exact wp_neg q2 (key (by simp [sqr, sqp, q2]))
        · exact wp_neg q1 (key (by simp [sqr, sqp, q1]))
      · exact wp_neg q0 (key (by simp [sqr, sqp, q0]))
    · exact wp_neg (fun z => q ((nI_eq (by omega) (by omega)).mp z)) (key (by simp [sqr, sqp, q]))
  · have : i = R.1 := by omega
    refine wp_pos (nI_le (by omega) (by omega)) (wp_some ?_)
    show (-1 : Int32) = ffI _ _
    unfold ffI
    rw [if_neg (by omega)]
    rfl
/-! the reference -/
theorem runs_eq (hT : ∀ j, j < 3 → N.1 15 j = cs j) (hV : VC cs) : fX10_unsafe N = some (ffI (usl cs) 3) := by
  unfold fX10_unsafe
  refine wp_is (wp_for 3 (fun (i : Nat) (s : Int32 × Int32) => s = (dnf (usl cs) 3 i, nI (3 - i) + (-1))) (fun i s rec hi hI hrec => ?_) (by decide) (Nat.zero_le _) ?_)
  · subst hI
    rw [fX10_unsafe_L4_u]
    rcases Nat.lt_or_ge i 3 with hlt | hge
    · have el : (nI (3 - i) + (-1) : Int32) = nI (2 - i) := by rw [show 3 - i = (2 - i) + 1 by omega]; exact pk_m1 _
      rw [el]
      obtain ⟨l, hl3⟩ : ∃ l, l = 2 - i := ⟨_, rfl⟩
      rw [← hl3]
      refine wp_neg (nI_pos (by omega)) (wp_jn ?_)
      have key : ∀ v, v = bI (wnt cs 0 l) → wp (fX10_unsafe_J18_10 N (dnf (usl cs) 3 i) (nI l) rec v) (fun b => b = ffI (usl cs) 3) := by
        intro v hv
        subst hv
        unfold fX10_unsafe_J18_10
        refine wp_for 3 (fun (k : Nat) (s : Int32 × Int32 × Int32) => s = (bI (wnt cs k l), bI (bnd cs k l), nI k)) (fun k s rec2 hk hI hrec2 => ?_) (by decide) (i := 0) (Nat.zero_le _) rfl
        subst hI
        rw [fX10_unsafe_L25_u]
        rcases Nat.lt_or_ge k 3 with hkl | hkg
        · refine wp_neg (nI_ge hkl (by decide)) (wp_jn ?_)
          have ik : inb (nI k) 3 := (inb_N (by omega)).mpr hkl
          have ck : N.1 15 (nI k).toNatClampNeg = cs k := by rw [nI_clamp (by omega)]; exact hT k hkl
          have e1 : (nI k + 1 : Int32) = nI (k + 1) := by rw [li1, nI_add]
          have hc := hV.ka hkl
          have hl' : l < 3 := by omega
          have key2 : ∀ w, w = bI (wnt cs (k + 1) l) → wp (fX10_unsafe_J64_32 N (nI l) (bI (bnd cs k l)) (nI k) rec2 w) (fun b => b = ffI (usl cs) 3) := by
            intro w hw
            subst hw
            unfold fX10_unsafe_J64_32
            rw [ck, e1, rhasl_eq hc hl']
            cases hb : bnd cs k l
            · refine wp_pos rfl (wp_pos ik ?_)
              by_cases p : 0 < cs k
              · refine wp_neg (fun z => kc_sg2.mp z p) (wp_pos ik (wp_bind (wp_some ?_)))
                have e := bnd_p (j := l) p
                rw [hb, Bool.false_or] at e
                cases hh : hl (cs k) l
                · refine wp_pos rfl (wp_nm (hrec2 _ hkl ?_))
                  rw [← e, hh]; rfl
                · refine wp_neg (by decide) (wp_nm (hrec2 _ hkl ?_))
                  rw [← e, hh]; rfl
              · refine wp_pos (kc_sg2.mpr p) (wp_nm (hrec2 _ hkl ?_))
                rw [← bnd_n (j := l) p, hb]; rfl
            · refine wp_neg (by decide) (wp_nm (hrec2 _ hkl ?_))
              have e : bnd cs (k + 1) l = true := by show (bnd cs k l || _) = true; rw [hb, Bool.true_or]
              rw [e]; rfl
          rw [ck, rhasl_eq hc hl']
          cases hw : wnt cs k l
          · refine wp_pos rfl (wp_pos ik ?_)
            rcases c_three (cs k) with p | p | p
            · exact wp_pos (by rw [fa_le]; rw [fa_lt] at p; omega) (key2 _ (by rw [← wnt_n (c_pos p).2, hw]; rfl))
            · have p1 : ¬ cs k < 0 := fun z => by rw [p] at z; exact absurd z (by decide)
              exact wp_pos (by rw [p]; decide) (key2 _ (by rw [← wnt_n p1, hw]; rfl))
            · refine wp_neg (c_neg p).2.2 (wp_pos ik (wp_bind (wp_some ?_)))
              have e := wnt_p (j := l) p
              rw [hw, Bool.false_or] at e
              cases hh : hl (cs k) l
              · exact wp_pos rfl (key2 _ (by rw [← e, hh]; rfl))
              · exact wp_neg (by decide) (key2 _ (by rw [← e, hh]; rfl))
          · refine wp_neg (by decide) (key2 _ ?_)
            have e : wnt cs (k + 1) l = true := by show (wnt cs k l || _) = true; rw [hw, Bool.true_or]
            rw [e]; rfl
        · have : k = 3 := by omega
          subst this
          refine wp_pos (nI_le (Nat.le_refl _) (by decide)) ?_
          rw [fX10_unsafe_X25_u]
          have en : nI (3 - (i + 1)) = nI l := by rw [show 3 - (i + 1) = l by omega]
          have ed : dnf (usl cs) 3 (i + 1) = if usl cs l then nI l else dnf (usl cs) 3 i := by
            show (if usl cs (3 - (i + 1)) then nI (3 - (i + 1)) else _) = _
            rw [show 3 - (i + 1) = l by omega]
          cases hw : wnt cs 3 l
          · refine wp_pos rfl (wp_nm (hrec _ hlt ?_))
            rw [en, ed, show usl cs l = false by unfold usl; rw [hw]; rfl]; rfl
          · refine wp_neg (by decide) ?_
            cases hb : bnd cs 3 l
            · refine wp_pos rfl (wp_nm (hrec _ hlt ?_))
              rw [en, ed, show usl cs l = true by unfold usl; rw [hw, hb]; rfl]; rfl
            · refine wp_neg (by decide) (wp_nm (hrec _ hlt ?_))
              rw [en, ed, show usl cs l = false by unfold usl; rw [hw, hb]; rfl]; rfl
      by_cases q : l = 2
      · exact wp_pos (by rw [q]; decide) (key _ (by rw [q]; rfl))
      · refine wp_neg (nI_ge (show l < 2 by omega) (by decide)) (key _ ?_)
        show (1 : Int32) = bI (decide (l < 2))
        rw [decide_eq_true (show l < 2 by omega)]; rfl
    · have : i = 3 := by omega
      subst this
      refine wp_pos (by decide) (wp_some ?_)
      exact dnf_ff _ _
  · rfl
theorem rlike_eq (hT : ∀ j, j < 3 → N.1 15 j = cs j) (hM : MB (N.1 1) R.1 R) (h216 : N.1 1 216 = nI R.1) (hn : R.1 ≤ 10) (hO : ∀ r, r < R.1 → OK1 R r) (hd6 : hd < 6) : fX10_likeRule N (nI hd) = some (ffI (sqr R hd cs) R.1) := by
  unfold fX10_likeRule
  have c216 : (216 : Int32).toNatClampNeg = 216 := by decide
  refine wp_is (wp_pos (by decide) (wp_nm ?_))
  rw [c216, h216]
  refine wp_for R.1 (fun (i : Nat) (s : Int32 × Int32) => s = (dnf (sqr R hd cs) R.1 i, nI (R.1 - i) + (-1))) (fun i s rec hi hI hrec => ?_) (by omega) (i := 0) (Nat.zero_le _) ?_
  · subst hI
    rw [fX10_likeRule_L13_u]
    rcases Nat.lt_or_ge i R.1 with hlt | hge
    · obtain ⟨r, hr⟩ : ∃ r, r = R.1 - (i + 1) := ⟨_, rfl⟩
      have el : (nI (R.1 - i) + (-1) : Int32) = nI r := by rw [show R.1 - i = r + 1 by omega]; exact pk_m1 _
      have hrn : r < R.1 := by omega
      rw [el]
      refine wp_neg (nI_pos (by omega)) ?_
      rw [rhead_eq hM hrn hn]
      have h6 := (hO r hrn).1
      refine wp_bind (wp_some (wp_jn ?_))
      have key : ∀ v, v = bI (sqp R hd cs r 0) → wp (fX10_likeRule_J31_23 N (dnf (sqr R hd cs) R.1 i) (nI r) rec v) (fun b => b = ffI (sqr R hd cs) R.1) := by
        intro v hv
        subst hv
        unfold fX10_likeRule_J31_23
        refine wp_for 3 (fun (k : Nat) (s : Int32 × Int32) => s = (bI (sqp R hd cs r k), nI k)) (fun k s rec2 hk hI hrec2 => ?_) (by decide) (i := 0) (Nat.zero_le _) rfl
        subst hI
        rw [fX10_likeRule_L36_u]
        rcases Nat.lt_or_ge k 3 with hkl | hkg
        · refine wp_neg (nI_ge hkl (by decide)) ?_
          have ik : inb (nI k) 3 := (inb_N (by omega)).mpr hkl
          have ck : N.1 15 (nI k).toNatClampNeg = cs k := by rw [nI_clamp (by omega)]; exact hT k hkl
          have e1 : (nI k + 1 : Int32) = nI (k + 1) := by rw [li1, nI_add]
          rw [rcond_eq hM hrn hn hkl, ck, e1]
          cases hs : sqp R hd cs r k
          · refine wp_pos rfl (wp_nm (hrec2 _ hkl ?_))
            rw [show sqp R hd cs r (k + 1) = false by show (sqp R hd cs r k && _) = false; rw [hs]; rfl]; rfl
          · refine wp_neg (by decide) (wp_bind (wp_some (wp_pos ik ?_)))
            by_cases q : R.2.2 r k = cs k
            · refine wp_pos q (wp_nm (hrec2 _ hkl ?_))
              rw [show sqp R hd cs r (k + 1) = true by show (sqp R hd cs r k && (R.2.2 r k == cs k)) = true; rw [hs, q, beq_self_eq_true]; rfl]; rfl
            · refine wp_neg q (wp_nm (hrec2 _ hkl ?_))
              rw [show sqp R hd cs r (k + 1) = false by show (sqp R hd cs r k && (R.2.2 r k == cs k)) = false; rw [beq_eq_false_iff_ne.mpr q, Bool.and_false]]; rfl
        · have : k = 3 := by omega
          subst this
          refine wp_pos (nI_le (Nat.le_refl _) (by decide)) ?_
          unfold fX10_likeRule_X36
          have en : nI (R.1 - (i + 1)) = nI r := by rw [hr]
          have ed : dnf (sqr R hd cs) R.1 (i + 1) = if sqr R hd cs r then nI r else dnf (sqr R hd cs) R.1 i := by
            show (if sqr R hd cs (R.1 - (i + 1)) then nI (R.1 - (i + 1)) else _) = _
            rw [← hr]
          cases hs : sqp R hd cs r 3
          · refine wp_pos rfl (wp_nm (hrec _ hlt ?_))
            rw [en, ed, show sqr R hd cs r = false from hs]; rfl
          · refine wp_neg (by decide) (wp_nm (hrec _ hlt ?_))
            rw [en, ed, show sqr R hd cs r = true from hs]; rfl
      by_cases q : R.2.1 r = hd
      · refine wp_pos (by rw [q]) (key _ ?_)
        show (1 : Int32) = bI (R.2.1 r == hd)
        rw [q, beq_self_eq_true]; rfl
      · refine wp_neg (fun z => q ((nI_eq (by omega) (by omega)).mp z)) (key _ ?_)
        show (0 : Int32) = bI (R.2.1 r == hd)
        rw [beq_eq_false_iff_ne.mpr q]; rfl
    · have : i = R.1 := by omega
      subst this
      rw [Nat.sub_self]
      refine wp_pos (by decide) (wp_some ?_)
      exact dnf_ff _ _
  · rw [Prod.mk.injEq, Nat.sub_zero]
    exact ⟨rfl, Int32.sub_eq_add_neg ..⟩
end SFE
