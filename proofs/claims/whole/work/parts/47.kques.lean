/-! ===== the class answers questions ===== -/
theorem lay_ex {R : RS} (hO : OKR R) : ∃ A, IsLay R R.1 A ∧ ∀ q, q < 6 → A q ≤ 5 := by
  obtain ⟨M, hM⟩ : ∃ M : KS, M = (fun a b => if a = 46 then nI (R.2.1 b) else if a = 47 then R.2.2 (b / 3) (b % 3) else if a = 48 then cnd R b else 0, fun _ => 0) := ⟨_, rfl⟩
  have hR : RB M 0 R.1 R := fun r hr => by
    rw [hM]
    refine ⟨rfl, fun j hj => ?_, rfl⟩
    show R.2.2 ((3 * r + j) / 3) ((3 * r + j) % 3) = R.2.2 r j
    rw [show (3 * r + j) / 3 = r by omega, show (3 * r + j) % 3 = j by omega]
  have hn := hO.1
  obtain ⟨a, _, h, _⟩ := arr_wp (y := 0) hR (by omega) hO.ok (by decide)
  rcases h with ⟨A, _, _, h1, h2⟩ | ⟨_, h⟩
  · exact ⟨A, h1, h2⟩
  · exact absurd hO.2.2 h
section KQU
variable {M M' : KS} {s : ST} {A A' : Nat → Nat} {P : Nat → Prop}
theorem KD.to {T : Nat → Bool} {R : RS} (h : KD M T R A') (hI : IsLay R R.1 A) (hO : OKR R) : KD M T R A := by
  have e : ∀ q, q < 6 → A q = A' q := lay_one hI h.1
  refine ⟨hI, fun q hq => by rw [e q hq]; exact h.2.1 q hq, fun q hq => by rw [e q hq]; exact h.2.2.1 q hq, ?_, ?_⟩
  · rw [DV_A hO.ok e]; exact h.2.2.2.1
  · rw [DV_A hO.ok e]; exact h.2.2.2.2
theorem KD.fr {T : Nat → Bool} {R : RS} (h : KD M T R A) (k : FR P M M') (hp : ∀ a, (a = 34 ∨ a = 35 ∨ a = 101 ∨ (106 ≤ a ∧ a ≤ 110)) → ¬ P a) : KD M' T R A := by
  refine ⟨h.1, h.2.1, LA6.fr2 h.2.2.1 k (hp 101 (by decide)), h.2.2.2.1.fr k (hp 34 (by decide)) (hp 35 (by decide)), fun q hq => ?_⟩
  rw [k.1 107 (hp 107 (by decide)), k.1 108 (hp 108 (by decide)), k.1 109 (hp 109 (by decide)), k.1 110 (hp 110 (by decide))]
  have h2 := h.2.2.2.2 q hq
  exact ⟨h2.1, h2.2.1, h2.2.2.1, h2.2.2.2.1, fun t ht b hb => by rw [k.2]; exact h2.2.2.2.2 t ht b hb⟩
theorem SETD.fr (h : SETD M s) (k : FR P M M') (hp : ∀ a, (a = 34 ∨ a = 35 ∨ a = 101 ∨ (106 ≤ a ∧ a ≤ 110)) → ¬ P a) : SETD M' s := by
  unfold SETD
  rw [k.1 106 (hp 106 (by decide))]
  rcases h with h | ⟨h, A, h2⟩
  · exact Or.inl h
  · exact Or.inr ⟨h, A, h2.fr k hp⟩
theorem cST_Q : ∀ a, cST a → cQ a := fun a h => by unfold cQ; omega
theorem cAG_Q : ∀ a, cAG a → cQ a := fun a h => by simp only [cAG, iFt, iFf] at h; simp only [cQ]; omega
theorem cAG_n : ∀ a, (a = 34 ∨ a = 35 ∨ a = 101 ∨ (106 ≤ a ∧ a ≤ 110)) → ¬ cAG a := fun a h => by simp only [cAG, iFt, iFf]; omega
theorem set_wp (hO : OKR s.2) (hK : KT M 0 s) (hS : SETD M s) (hI : IsLay s.2 s.2.1 A) : wp (fX1_settled M 0) (fun M' => KD M' s.1 s.2 A ∧ SETD M' s ∧ KT M' 0 s ∧ FQ cQ M M') := by
  refine wp_mono (settled_wp hK.1 hK.2 hO hS) ?_
  intro M' ⟨⟨A', h1⟩, h2, h3⟩
  have h4 : FQ cQ M M' := h3.wk cST_Q
  exact ⟨h1.to hI hO, Or.inr ⟨h2, A', h1⟩, hK.cq (by decide) h4, h4⟩
theorem held_wp (hO : OKR s.2) (hK : KT M 0 s) (hS : SETD M s) (hI : IsLay s.2 s.2.1 A) : wp (fX9_held M) (fun M' => KD M' s.1 s.2 A ∧ SETD M' s ∧ KT M' 0 s ∧ FQ cQ M M') := by
  unfold fX9_held
  exact wp_bind (wp_mono (set_wp hO hK hS hI) (fun M' h => wp_some h))
theorem kq_holds (hO : OKR s.2) (hK : KT M 0 s) (hS : SETD M s) (hI : IsLay s.2 s.2.1 A) {r x y : Nat} (hr : r < 6) (hx : x < 6) (hy : y < 6) (a4 : Int32) : wp (fX9_holds M (nI r) (nI x) (nI y) a4) (CQ M s (.inr (bI ((DV s.1 s.2 A).1 (36 * r + 6 * x + y))))) := by
  have hk : 36 * r + 6 * x + y < 216 := by omega
  unfold fX9_holds
  rw [(fact_y hr hx hy).1, num_eq]
  refine wp_neg (by decide) (wp_nm (wp_ite (fun _ => ?_) (fun _ => ?_)))
  · refine wp_bind (wp_mono (held_wp hO hK hS hI) ?_)
    intro M1 ⟨h1, h2, h3, h4⟩
    rw [has_eq h1.2.2.2.1 hk]
    exact wp_bind (wp_some (wp_pos (bI_B _) (wp_some (CQ.inr h4 h2))))
  · refine wp_bind (wp_mono (deriveFrom_wp hK.2 hO hK.1) ?_)
    intro M1 ⟨A', h1, h2, h3, h4⟩
    rw [has_eq h3 hk, DV_A hO.ok (lay_one h1 hI)]
    exact wp_bind (wp_some (wp_pos (bI_B _) (wp_some (CQ.inr (h4.q.wk cAG_Q) (hS.fr h4 cAG_n)))))
theorem kq_told (hK : KT M 0 s) (hS : SETD M s) {r x y : Nat} (hr : r < 6) (hx : x < 6) (hy : y < 6) : wp (fX9_isTold M (nI r) (nI x) (nI y)) (CQ M s (.inr (bI (s.1 (36 * r + 6 * x + y))))) := by
  have hk : 36 * r + 6 * x + y < 216 := by omega
  unfold fX9_isTold
  rw [(fact_y hr hx hy).1, num_eq, has_eq hK.1 hk]
  exact wp_neg (by decide) (wp_bind (wp_some (wp_pos (bI_B _) (wp_some (CQ.inr FQ.rf hS)))))
/-- the number of a fact that holds -/
def fnum (R : RS) (X : DX) (k w : Nat) : Int32 := if w = 0 then nI (X.2.1 k) else if w = 1 then (if 0 < X.2.1 k then nI (X.2.2.1 k) else -nI 1) else if w = 2 then (if 0 < X.2.1 k then nI (X.2.2.2.1 k) else -nI 1) else if w = 3 then nI (X.2.2.2.2.1 k) else if w = 4 then nI (fb_ct (X.2.2.2.2.2 k) 216) else nI (unl R X k)
theorem fnum_0 {R : RS} {X : DX} {k : Nat} : fnum R X k 0 = nI (X.2.1 k) := by
  unfold fnum
  rw [if_pos rfl]
theorem fnum_1 {R : RS} {X : DX} {k : Nat} : fnum R X k 1 = (if 0 < X.2.1 k then nI (X.2.2.1 k) else -nI 1) := by
  unfold fnum
  rw [if_neg (by decide), if_pos rfl]
theorem fnum_2 {R : RS} {X : DX} {k : Nat} : fnum R X k 2 = (if 0 < X.2.1 k then nI (X.2.2.2.1 k) else -nI 1) := by
  unfold fnum
  rw [if_neg (by decide), if_neg (by decide), if_pos rfl]
theorem fnum_3 {R : RS} {X : DX} {k : Nat} : fnum R X k 3 = nI (X.2.2.2.2.1 k) := by
  unfold fnum
  rw [if_neg (by decide), if_neg (by decide), if_neg (by decide), if_pos rfl]
theorem fnum_4 {R : RS} {X : DX} {k : Nat} : fnum R X k 4 = nI (fb_ct (X.2.2.2.2.2 k) 216) := by
  unfold fnum
  rw [if_neg (by decide), if_neg (by decide), if_neg (by decide), if_neg (by decide), if_pos rfl]
theorem fnum_5 {R : RS} {X : DX} {k : Nat} : fnum R X k 5 = nI (unl R X k) := by
  unfold fnum
  rw [if_neg (by decide), if_neg (by decide), if_neg (by decide), if_neg (by decide), if_neg (by decide)]
theorem six_ne {a : Int32} (h : a < nI 0 ∨ ¬ a < nI 0 ∧ nI 6 ≤ a) {w : Nat} (hw : w < 6) : a ≠ nI w := fun z => by
  rw [z] at h
  rcases h with h | ⟨_, h⟩
  · exact (nI_lt0 (by omega)).mp h
  · rw [nI_leI (by decide) (by omega)] at h
    omega
theorem kq_fact (hO : OKR s.2) (hK : KT M 0 s) (hS : SETD M s) (hI : IsLay s.2 s.2.1 A) {r x y : Nat} (hr : r < 6) (hx : x < 6) (hy : y < 6) (a4 : Int32) (q : Sum Nat Int32) (hq : (DV s.1 s.2 A).1 (36 * r + 6 * x + y) = false ∧ q = .inl 2 ∨ (DV s.1 s.2 A).1 (36 * r + 6 * x + y) = true ∧ ((∃ w, w < 6 ∧ a4 = nI w ∧ q = .inr (fnum s.2 (DV s.1 s.2 A) (36 * r + 6 * x + y) w)) ∨ ((a4 < nI 0 ∨ ¬ a4 < nI 0 ∧ nI 6 ≤ a4) ∧ q = .inl 3))) : wp (fX9_factOf M (nI r) (nI x) (nI y) a4) (CQ M s q) := by
  have hk : 36 * r + 6 * x + y < 216 := by omega
  unfold fX9_factOf
  rw [(fact_y hr hx hy).1, num_eq]
  refine wp_neg (by decide) (wp_nm ?_)
  refine wp_bind (wp_mono (set_wp hO hK hS hI) ?_)
  intro M1 ⟨h1, h2, h3, h4⟩
  rw [has_eq h1.2.2.2.1 hk]
  refine wp_bind (wp_some ?_)
  have hB := XB.DV_ (T := s.1) (A := A) hO.ok
  have hX := h1.2.2.2.2 _ hk
  have hin : inb (nI (36 * r + 6 * x + y)) 216 := (inb_N (by omega)).mpr hk
  have hcl : (nI (36 * r + 6 * x + y)).toNatClampNeg = 36 * r + 6 * x + y := nI_clamp (by omega)
  rcases hq with ⟨hs, rfl⟩ | ⟨hs, hq⟩
  · rw [hs]
    exact wp_pos rfl (wp_some (CQ.inl h4 h2))
  · rw [hs]
    refine wp_neg (by decide) ?_
    rcases hq with ⟨w, hw, rfl, rfl⟩ | ⟨h6, rfl⟩
    · match w, hw with
      | 0, _ =>
        refine wp_pos rfl (wp_pos hin (wp_some ?_))
        rw [hcl, hX.1]
        exact CQ.inr h4 h2
      | 1, _ =>
        refine wp_neg (by decide) (wp_pos rfl (wp_pos hin (wp_some ?_)))
        rw [hcl, hX.2.1, fnum_1]
        exact CQ.inr h4 h2
      | 2, _ =>
        refine wp_neg (by decide) (wp_neg (by decide) (wp_pos rfl (wp_pos hin (wp_some ?_))))
        rw [hcl, hX.2.2.1, fnum_2]
        exact CQ.inr h4 h2
      | 3, _ =>
        refine wp_neg (by decide) (wp_neg (by decide) (wp_neg (by decide) (wp_pos rfl (wp_pos hin (wp_some ?_)))))
        rw [hcl, hX.2.2.2.1, fnum_3]
        exact CQ.inr h4 h2
      | 4, _ =>
        refine wp_neg (by decide) (wp_neg (by decide) (wp_neg (by decide) (wp_neg (by decide) (wp_pos rfl ?_))))
        rw [ksize_eq h1.2.2.2.2 hk, fnum_4]
        exact wp_bind (wp_some (wp_some (CQ.inr h4 h2)))
      | 5, _ =>
        refine wp_neg (by decide) (wp_neg (by decide) (wp_neg (by decide) (wp_neg (by decide) (wp_neg (by decide) (wp_pos rfl ?_)))))
        rw [kneeds_eq h1.2.2.2.2 hB h3.2 hO hk, fnum_5]
        exact wp_bind (wp_some (wp_some (CQ.inr h4 h2)))
    · exact wp_neg (six_ne h6 (w := 0) (by decide)) (wp_neg (six_ne h6 (w := 1) (by decide)) (wp_neg (six_ne h6 (w := 2) (by decide)) (wp_neg (six_ne h6 (w := 3) (by decide)) (wp_neg (six_ne h6 (w := 4) (by decide)) (wp_neg (six_ne h6 (w := 5) (by decide)) (wp_some (CQ.inl h4 h2)))))))
theorem kq_ways (hO : OKR s.2) (hK : KT M 0 s) (hS : SETD M s) (hI : IsLay s.2 s.2.1 A) {r x y : Nat} (hr : r < 6) (hx : x < 6) (hy : y < 6) : wp (fX9_ways M (nI r) (nI x) (nI y)) (CQ M s (.inr (nI (wy (DV s.1 s.2 A).1 s.2 (36 * r + 6 * x + y))))) := by
  have hk : 36 * r + 6 * x + y < 216 := by omega
  unfold fX9_ways
  rw [(fact_y hr hx hy).1, num_eq]
  refine wp_neg (by decide) ?_
  refine wp_bind (wp_mono (held_wp hO hK hS hI) ?_)
  intro M1 ⟨h1, h2, h3, h4⟩
  rw [kways_eq h3.2 hO h1.2.2.2.1 hk]
  exact wp_bind (wp_some (wp_some (CQ.inr h4 h2)))
/-- the other facts that are told -/
def tgl (T : Nat → Bool) (k : Nat) : Nat → Bool := fun q => if q = k then !T k else T q
theorem kq_would (hO : OKR s.2) (hK : KT M 0 s) (hS : SETD M s) (hI : IsLay s.2 s.2.1 A) {r x y : Nat} (hr : r < 6) (hx : x < 6) (hy : y < 6) : wp (fX9_would M (nI r) (nI x) (nI y)) (CQ M s (.inr (nI (fb_ct (DV (tgl s.1 (36 * r + 6 * x + y)) s.2 A).1 216) - nI (fb_ct (DV s.1 s.2 A).1 216)))) := by
  have hk : 36 * r + 6 * x + y < 216 := by omega
  unfold fX9_would
  rw [(fact_y hr hx hy).1, num_eq]
  refine wp_neg (by decide) ?_
  refine wp_bind (wp_mono (deriveWithout_wp hK.2 hO hK.1 hk) ?_)
  intro M1 ⟨A', a1, a2, a3, a4⟩
  rw [size_eq a3, DV_A hO.ok (lay_one a1 hI)]
  refine wp_bind (wp_some ?_)
  have g : FQ cQ M M1 := a4.q.wk cAG_Q
  refine wp_bind (wp_mono (held_wp hO (hK.cq (by decide) g) (hS.fr a4 cAG_n) hI) ?_)
  intro M2 ⟨h1, h2, h3, h4⟩
  rw [size_eq h1.2.2.2.1]
  exact wp_bind (wp_some (wp_some (CQ.inr (g.tr h4) h2)))
theorem kq_kin (hO : OKR s.2) (hK : KT M 0 s) (hS : SETD M s) (hI : IsLay s.2 s.2.1 A) {r x : Nat} (hr : r < 6) (hx : x < 6) : wp (fX9_kin M (nI r) (nI x)) (CQ M s (.inr (m6 (fun j => (DV s.1 s.2 A).1 (36 * r + 6 * x + j))))) := by
  unfold fX9_kin
  rw [(krel_y hr).1, (krel_y hx).2.1]
  refine wp_jn (wp_neg (by decide) (wp_neg (by decide) ?_))
  refine wp_bind (wp_mono (held_wp hO hK hS hI) ?_)
  intro M1 ⟨h1, h2, h3, h4⟩
  rw [to_eq h1.2.2.2.1 hr hx]
  exact wp_bind (wp_some (wp_some (CQ.inr h4 h2)))
def rnum (s : ST) (A : Nat → Nat) (q w : Nat) : Int32 := if w = 0 then nI (szr (DV s.1 s.2 A).1 q) else if w = 1 then nI (szr s.1 q) else if w = 2 then nI (A q) else if w = 3 then nI (hdw s.2 q) else if w = 4 then nI (cdw s.2 q) else nI (mx6 (fun k => if k / 36 = q then (DV s.1 s.2 A).2.1 k else 0) 216)
theorem kq_rel (hO : OKR s.2) (hK : KT M 0 s) (hS : SETD M s) (hI : IsLay s.2 s.2.1 A) {r : Nat} (hr : r < 6) (a2 : Int32) (q : Sum Nat Int32) (hq : (∃ w, w < 6 ∧ a2 = nI w ∧ q = .inr (rnum s A r w)) ∨ ((a2 < nI 0 ∨ ¬ a2 < nI 0 ∧ nI 6 ≤ a2) ∧ q = .inl 3)) : wp (fX9_relationOf M (nI r) a2) (CQ M s q) := by
  unfold fX9_relationOf
  rw [(krel_y hr).1]
  refine wp_neg (by decide) ?_
  have hB := XB.DV_ (T := s.1) (A := A) hO.ok
  rcases hq with ⟨w, hw, rfl, rfl⟩ | ⟨h6, rfl⟩
  · match w, hw with
    | 0, _ =>
      refine wp_pos rfl (wp_bind (wp_mono (held_wp hO hK hS hI) ?_))
      intro M1 ⟨h1, h2, h3, h4⟩
      rw [sizeOf_eq h1.2.2.2.1 hr]
      exact wp_bind (wp_some (wp_some (CQ.inr h4 h2)))
    | 1, _ =>
      refine wp_neg (by decide) (wp_pos rfl ?_)
      rw [sizeOf_eq hK.1 hr]
      exact wp_bind (wp_some (wp_some (CQ.inr FQ.rf hS)))
    | 2, _ =>
      refine wp_neg (by decide) (wp_neg (by decide) (wp_pos rfl (wp_bind (wp_mono (set_wp hO hK hS hI) ?_))))
      intro M1 ⟨h1, h2, h3, h4⟩
      rw [of_eq h1.2.2.1 hr]
      exact wp_bind (wp_some (wp_some (CQ.inr h4 h2)))
    | 3, _ =>
      refine wp_neg (by decide) (wp_neg (by decide) (wp_neg (by decide) (wp_pos rfl ?_)))
      rw [khdw_eq hK.2 hO hr]
      exact wp_bind (wp_some (wp_some (CQ.inr FQ.rf hS)))
    | 4, _ =>
      refine wp_neg (by decide) (wp_neg (by decide) (wp_neg (by decide) (wp_neg (by decide) (wp_pos rfl ?_))))
      rw [kcdw_eq hK.2 hO hr]
      exact wp_bind (wp_some (wp_some (CQ.inr FQ.rf hS)))
    | 5, _ =>
      refine wp_neg (by decide) (wp_neg (by decide) (wp_neg (by decide) (wp_neg (by decide) (wp_neg (by decide) (wp_pos rfl (wp_bind (wp_mono (set_wp hO hK hS hI) ?_)))))))
      intro M1 ⟨h1, h2, h3, h4⟩
      rw [klast_eq h1.2.2.2.2 hB hr]
      exact wp_bind (wp_some (wp_some (CQ.inr h4 h2)))
  · exact wp_neg (six_ne h6 (w := 0) (by decide)) (wp_neg (six_ne h6 (w := 1) (by decide)) (wp_neg (six_ne h6 (w := 2) (by decide)) (wp_neg (six_ne h6 (w := 3) (by decide)) (wp_neg (six_ne h6 (w := 4) (by decide)) (wp_neg (six_ne h6 (w := 5) (by decide)) (wp_some (CQ.inl FQ.rf hS)))))))
theorem kq_rank (hO : OKR s.2) (hK : KT M 0 s) (hS : SETD M s) (hI : IsLay s.2 s.2.1 A) (a1 : Int32) (q : Sum Nat Int32) (hq : (∃ pl qs, pl < 6 ∧ qs < 6 ∧ a1 = nI pl ∧ rk (DV s.1 s.2 A).1 qs = pl ∧ q = .inr (nI qs)) ∨ ((a1 < nI 0 ∨ ¬ a1 < nI 0 ∧ nI 6 ≤ a1) ∧ q = .inl 2)) : wp (fX9_ranked M a1) (CQ M s q) := by
  unfold fX9_ranked
  refine wp_bind (wp_mono (held_wp hO hK hS hI) ?_)
  intro M1 ⟨h1, h2, h3, h4⟩
  refine wp_for 6 (fun (i : Nat) (v : Int32) => v = nI i ∧ ∀ t, t < i → a1 ≠ nI (rk (DV s.1 s.2 A).1 t)) (fun i v rec hi hI2 hrec => ?_) (by decide) (Nat.zero_le _) ⟨rfl, fun t ht => absurd ht (Nat.not_lt_zero _)⟩
  obtain ⟨rfl, hno⟩ := hI2
  unfold fX9_ranked_L7
  rcases Nat.lt_or_ge i 6 with hlt | hge
  · refine wp_neg (nI_ge hlt (by decide)) ?_
    rw [krank_eq h1.2.2.2.1 hlt]
    refine wp_bind (wp_some ?_)
    have h6 := rk_lt6 (DV s.1 s.2 A).1 hlt
    refine wp_ite (fun e => wp_some ?_) (fun e => wp_nm ?_)
    · rcases hq with ⟨pl, qs, hpl, hqs, rfl, hrk, rfl⟩ | ⟨hb, rfl⟩
      · have : rk (DV s.1 s.2 A).1 i = pl := (nI_eq (by omega) (by omega)).mp e
        have e2 : qs = i := rk_inj hqs hlt (by rw [hrk, this])
        rw [e2]
        exact CQ.inr h4 h2
      · exact absurd e.symm (six_ne hb h6)
    · rw [li1, nI_add]
      refine hrec _ hlt ⟨rfl, fun t ht => ?_⟩
      by_cases e2 : t = i
      · rw [e2]; exact fun z => e z.symm
      · exact hno t (by omega)
  · have : i = 6 := by omega
    subst this
    refine wp_pos (by decide) ?_
    unfold fX9_ranked_X7
    rcases hq with ⟨pl, qs, hpl, hqs, rfl, hrk, rfl⟩ | ⟨hb, rfl⟩
    · exact absurd (congrArg nI hrk).symm (hno qs hqs)
    · exact wp_some (CQ.inl h4 h2)
theorem kq_mut (hO : OKR s.2) (hK : KT M 0 s) (hS : SETD M s) (hI : IsLay s.2 s.2.1 A) {r : Nat} (hr : r < 6) : wp (fX9_isMutual M (nI r)) (CQ M s (.inr (bI (mtl (DV s.1 s.2 A).1 r)))) := by
  unfold fX9_isMutual
  rw [(krel_y hr).1]
  refine wp_neg (by decide) (wp_bind (wp_mono (held_wp hO hK hS hI) ?_))
  intro M1 ⟨h1, h2, h3, h4⟩
  generalize hS' : (DV s.1 s.2 A).1 = S at *
  have hm : mtl S r = true ↔ ∀ k, k < 36 → (S (36 * r + k) == S (36 * r + 6 * (k % 6) + k / 6)) = true := allb_iff
  refine wp_for 6 (fun (i : Nat) (v : Int32) => v = nI i ∧ ∀ t, t < i → ∀ j, j < 6 → S (36 * r + 6 * t + j) = S (36 * r + 6 * j + t)) (fun i v rec hi hI2 hrec => ?_) (by decide) (Nat.zero_le _) ⟨rfl, fun t ht => absurd ht (Nat.not_lt_zero _)⟩
  obtain ⟨rfl, hno⟩ := hI2
  have hF : FA M1 11 S := by rw [← hS']; exact h1.2.2.2.1
  unfold fX9_isMutual_L24
  rcases Nat.lt_or_ge i 6 with hlt | hge
  · refine wp_neg (nI_ge hlt (by decide)) ?_
    rw [to_eq hF hr hlt]
    refine wp_bind (wp_some ?_)
    rw [from_eq hF hr hlt]
    refine wp_bind (wp_some ?_)
    refine wp_ite (fun e => wp_nm ?_) (fun e => wp_some ?_)
    · rw [li1, nI_add]
      refine hrec _ hlt ⟨rfl, fun t ht j hj => ?_⟩
      by_cases e2 : t = i
      · rw [e2]; exact m6_inj.mp e j hj
      · exact hno t (by omega) j hj
    · have : mtl S r = false := by
        cases hh : mtl S r
        · rfl
        · exfalso
          refine e (m6_inj.mpr (fun j hj => ?_))
          have := hm.mp hh (6 * i + j) (by omega)
          rw [beq_iff_eq, show 36 * r + (6 * i + j) = 36 * r + 6 * i + j by omega, show (6 * i + j) % 6 = j by omega, show (6 * i + j) / 6 = i by omega] at this
          exact this
      rw [this]
      exact CQ.inr h4 h2
  · have : i = 6 := by omega
    subst this
    refine wp_pos (by decide) ?_
    unfold fX9_isMutual_X24
    have : mtl S r = true := hm.mpr (fun k hk => by
      rw [beq_iff_eq]
      have := hno (k / 6) (by omega) (k % 6) (by omega)
      rw [show 36 * r + 6 * (k / 6) + k % 6 = 36 * r + k by omega] at this
      exact this)
    rw [this]
    exact wp_some (CQ.inr h4 h2)
theorem khas_y {R : RS} (hR : RA M 0 R) (hn : R.1 ≤ 10) {r : Nat} (hr : r < R.1) : fX6_has M 0 (nI r) = 1 := by
  unfold fX6_has
  rw [hR.1, if_neg (show ¬ nI r < 0 from fun z => (nI_lt0 (by omega)).mp z), if_neg (nI_ge hr (by omega))]
theorem khas_n {R : RS} (hR : RA M 0 R) {a : Int32} (h : a < nI 0 ∨ ¬ a < nI 0 ∧ nI R.1 ≤ a) : fX6_has M 0 a = 0 := by
  unfold fX6_has
  rcases h with h | ⟨h, h2⟩
  · rw [if_pos (show a < 0 from h)]
  · rw [if_neg (show ¬ a < 0 from h), hR.1, if_pos h2]
def runm (s : ST) (A : Nat → Nat) (r w : Nat) : Int32 := if w = 0 then nI (s.2.2.1 r) else if w = 1 then nI (ncd s.2 r) else if w = 2 then nI (fb_ct (fun k => decide (0 < (DV s.1 s.2 A).2.1 k) && decide ((DV s.1 s.2 A).2.2.1 k = r)) 216) else nI (mks (DV s.1 s.2 A).1 s.2 r)
theorem four_ne {a : Int32} {n : Nat} (hn : n < 2 ^ 31) (h : a < nI 0 ∨ ¬ a < nI 0 ∧ nI n ≤ a) {w : Nat} (hw : w < n) : a ≠ nI w := fun z => by
  rw [z] at h
  rcases h with h | ⟨_, h⟩
  · exact (nI_lt0 (by omega)).mp h
  · rw [nI_leI hn (by omega)] at h
    omega
theorem kq_rule (hO : OKR s.2) (hK : KT M 0 s) (hS : SETD M s) (hI : IsLay s.2 s.2.1 A) {r : Nat} (hr : r < s.2.1) (a2 : Int32) (q : Sum Nat Int32) (hq : (∃ w, w < 4 ∧ a2 = nI w ∧ q = .inr (runm s A r w)) ∨ ((a2 < nI 0 ∨ ¬ a2 < nI 0 ∧ nI 4 ≤ a2) ∧ q = .inl 0)) : wp (fX9_ruleOf M (nI r) a2) (CQ M s q) := by
  have hn := hO.1
  unfold fX9_ruleOf
  rw [khas_y hK.2 hn hr]
  refine wp_neg (by decide) ?_
  have hB := XB.DV_ (T := s.1) (A := A) hO.ok
  rcases hq with ⟨w, hw, rfl, rfl⟩ | ⟨h6, rfl⟩
  · match w, hw with
    | 0, _ =>
      refine wp_pos rfl ?_
      rw [head_eq hK.2.2 hr (by omega)]
      exact wp_bind (wp_some (wp_some (CQ.inr FQ.rf hS)))
    | 1, _ =>
      refine wp_neg (by decide) (wp_pos rfl ?_)
      rw [kncd_eq hK.2.2 hn hr]
      exact wp_bind (wp_some (wp_some (CQ.inr FQ.rf hS)))
    | 2, _ =>
      refine wp_neg (by decide) (wp_neg (by decide) (wp_pos rfl (wp_bind (wp_mono (set_wp hO hK hS hI) ?_))))
      intro M1 ⟨h1, h2, h3, h4⟩
      rw [kder_eq h1.2.2.2.2 hB hn (by omega)]
      exact wp_bind (wp_some (wp_some (CQ.inr h4 h2)))
    | 3, _ =>
      refine wp_neg (by decide) (wp_neg (by decide) (wp_neg (by decide) (wp_pos rfl (wp_bind (wp_mono (held_wp hO hK hS hI) ?_)))))
      intro M1 ⟨h1, h2, h3, h4⟩
      rw [kmakes_eq h3.2 hO h1.2.2.2.1 hr]
      exact wp_bind (wp_some (wp_some (CQ.inr h4 h2)))
  · exact wp_neg (four_ne (by decide) h6 (w := 0) (by decide)) (wp_neg (four_ne (by decide) h6 (w := 1) (by decide)) (wp_neg (four_ne (by decide) h6 (w := 2) (by decide)) (wp_neg (four_ne (by decide) h6 (w := 3) (by decide)) (wp_some (CQ.inl FQ.rf hS)))))
theorem kq_layers (hO : OKR s.2) (hK : KT M 0 s) (hS : SETD M s) (hI : IsLay s.2 s.2.1 A) : wp (fX9_layers M) (fun a => a.1 = nI (mx6 A 6 + 1) ∧ SETD a.2 s ∧ FQ cQ M a.2) := by
  unfold fX9_layers
  refine wp_bind (wp_mono (set_wp hO hK hS hI) ?_)
  intro M1 ⟨h1, h2, h3, h4⟩
  rw [kcnt_eq h1]
  exact wp_bind (wp_some (wp_some ⟨rfl, h2, h4⟩))
theorem kq_rounds (hO : OKR s.2) (hK : KT M 0 s) (hS : SETD M s) (hI : IsLay s.2 s.2.1 A) (a1 : Int32) (q : Sum Nat Int32) (hq : (∃ l, l < mx6 A 6 + 1 ∧ a1 = nI l ∧ q = .inr (nI (rr s.2 A (X0 s.1) l))) ∨ ((a1 < nI 0 ∨ ¬ a1 < nI 0 ∧ nI (mx6 A 6 + 1) ≤ a1) ∧ q = .inl 2)) : wp (fX9_rounds M a1) (CQ M s q) := by
  unfold fX9_rounds
  refine wp_bind (wp_mono (set_wp hO hK hS hI) ?_)
  intro M1 ⟨h1, h2, h3, h4⟩
  have hm : mx6 A 6 ≤ 5 := mx6_le.mpr h1.2.1
  refine wp_jn ?_
  rcases hq with ⟨l, hl, rfl, rfl⟩ | ⟨hb, rfl⟩
  · refine wp_neg (fun z => (nI_lt0 (by omega)).mp z) ?_
    rw [kcnt_eq h1]
    refine wp_bind (wp_some (wp_pos ((nI_ltI (by omega) (by omega)).mpr hl) ?_))
    rw [krounds_eq h1 hO (by omega)]
    exact wp_bind (wp_some (wp_some (CQ.inr h4 h2)))
  · rcases hb with hb | ⟨hb, hb2⟩
    · exact wp_pos hb (wp_some (CQ.inl h4 h2))
    · refine wp_neg hb ?_
      rw [kcnt_eq h1]
      refine wp_bind (wp_some (wp_neg (fun z => ?_) (wp_some (CQ.inl h4 h2))))
      rw [fa_lt] at z
      rw [fa_le] at hb2
      omega
theorem kq_fresh (hO : OKR s.2) (hK : KT M 0 s) (hS : SETD M s) (hI : IsLay s.2 s.2.1 A) (a1 a2 : Int32) (q : Sum Nat Int32) (hq : (∃ l i, l < mx6 A 6 + 1 ∧ i < rr s.2 A (X0 s.1) l ∧ a1 = nI l ∧ a2 = nI (i + 1) ∧ q = .inr (nI (nws s.2 A l (itr s.2 A l (dend s.2 A (X0 s.1) l) i)))) ∨ ((a1 < nI 0 ∨ ¬ a1 < nI 0 ∧ nI (mx6 A 6 + 1) ≤ a1) ∧ q = .inl 2) ∨ (∃ l, l < mx6 A 6 + 1 ∧ a1 = nI l ∧ (a2 < nI 1 ∨ ¬ a2 < nI 1 ∧ nI (rr s.2 A (X0 s.1) l) < a2) ∧ q = .inl 2)) : wp (fX9_fresh M a1 a2) (CQ M s q) := by
  unfold fX9_fresh
  refine wp_bind (wp_mono (set_wp hO hK hS hI) ?_)
  intro M1 ⟨h1, h2, h3, h4⟩
  have hm : mx6 A 6 ≤ 5 := mx6_le.mpr h1.2.1
  refine wp_jn ?_
  rcases hq with ⟨l, i, hl, hi, rfl, rfl, rfl⟩ | ⟨hb, rfl⟩ | ⟨l, hl, rfl, hb, rfl⟩
  · have hrr := nr_le (X := dend s.2 A (X0 s.1) l) (R := s.2) (lay := A) (l := l)
    have hi2 : rr s.2 A (X0 s.1) l ≤ 216 := by unfold rr; omega
    refine wp_neg (fun z => (nI_lt0 (by omega)).mp z) ?_
    rw [kcnt_eq h1]
    refine wp_bind (wp_some (wp_pos ((nI_ltI (by omega) (by omega)).mpr hl) (wp_jn ?_)))
    refine wp_neg (fun z => by rw [li1, nI_ltI (by omega) (by decide)] at z; omega) ?_
    rw [krounds_eq h1 hO (by omega)]
    refine wp_bind (wp_some (wp_pos ((nI_leI (by omega) (by omega)).mpr hi) ?_))
    rw [kfresh_eq h1 hO (by omega) hi]
    exact wp_bind (wp_some (wp_some (CQ.inr h4 h2)))
  · rcases hb with hb | ⟨hb, hb2⟩
    · exact wp_pos hb (wp_some (CQ.inl h4 h2))
    · refine wp_neg hb ?_
      rw [kcnt_eq h1]
      refine wp_bind (wp_some (wp_neg (fun z => ?_) (wp_some (CQ.inl h4 h2))))
      rw [fa_lt] at z
      rw [fa_le] at hb2
      omega
  · refine wp_neg (fun z => (nI_lt0 (by omega)).mp z) ?_
    rw [kcnt_eq h1]
    refine wp_bind (wp_some (wp_pos ((nI_ltI (by omega) (by omega)).mpr hl) (wp_jn ?_)))
    rcases hb with hb | ⟨hb, hb2⟩
    · exact wp_pos hb (wp_some (CQ.inl h4 h2))
    · refine wp_neg hb ?_
      rw [krounds_eq h1 hO (by omega)]
      refine wp_bind (wp_some (wp_neg (fun z => ?_) (wp_some (CQ.inl h4 h2))))
      rw [fa_lt] at hb2
      rw [fa_le] at z
      omega
end KQU
