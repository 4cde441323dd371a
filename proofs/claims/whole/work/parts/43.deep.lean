/-! ===== the reference: depths and sizes, looked at again until nothing changes ===== -/
/-- what stands of each derived fact -/
def SX (R : RS) (X : DX) : Prop := ∀ k, k < 216 → (0 < X.2.1 k → X.2.2.1 k < R.1 ∧ X.2.2.2.1 k < 6 ∧ X.2.2.2.2.1 k = dpn R X.2.2.2.2.1 (X.2.2.1 k) k (X.2.2.2.1 k) ∧ ∀ m, m < 216 → X.2.2.2.2.2 k m = cln R X.2.2.2.2.2 (X.2.2.1 k) k (X.2.2.2.1 k) m) ∧ (X.2.1 k = 0 → X.2.2.2.2.1 k = 0 ∧ ∀ m, m < 216 → X.2.2.2.2.2 k m = (m == k))
section DEE
variable {N : KS} {R : RS} {X : DX} {A : Nat → Nat} {b : Nat} {T S : Nat → Bool}
theorem SX.DV_ (hS : Sol R R.1 A) (hO : ∀ r, r < R.1 → OK1 R r) : SX R (DV T R A) := fun k hk => by
  have h := WI.dend_ (T := T) hS hO 6 k hk
  rw [DV_d]
  exact ⟨fun q => ⟨(h.2.2.1 q).2.2.1, (h.2.2.1 q).2.2.2.1, (h.2.2.1 q).2.2.2.2.2.2.2.1, (h.2.2.1 q).2.2.2.2.2.2.2.2⟩, h.2.2.2⟩
theorem DV_st0 (hS : Sol R R.1 A) (hO : ∀ r, r < R.1 → OK1 R r) : ∀ k, k < 216 → (DV T R A).1 k = false → (DV T R A).2.1 k = 0 := fun k hk hs => by
  have h := WI.dend_ (T := T) hS hO 6 k hk
  rw [← DV_d] at h
  rcases Nat.eq_zero_or_pos ((DV T R A).2.1 k) with q | q
  · exact q
  · rw [(h.2.2.1 q).1] at hs
    exact absurd hs (by decide)
theorem nq_st {k j : Nat} (h : nq R X k j = true) : 0 < X.2.1 k ∧ psc R (X.2.2.1 k) j = true := by
  unfold nq at h
  simp only [Bool.and_eq_true, decide_eq_true_eq] at h
  exact h
theorem nv_lt (hX : SX R X) (hO : OKR R) {k j : Nat} (hk : k < 216) (hj : j < 3) (h : nq R X k j = true) : nv R X k j < 216 := by
  have h1 := nq_st h
  have h2 := (hX k hk).1 h1.1
  exact ndc_lt (hO.ok _ h2.1) hk h2.2.1 hj
theorem dp_nv (hX : SX R X) {k j : Nat} (hk : k < 216) (hj : j < 3) (h : nq R X k j = true) : X.2.2.2.2.1 (nv R X k j) + 1 ≤ X.2.2.2.2.1 k := by
  have h1 := nq_st h
  have h2 := (hX k hk).1 h1.1
  have e : dpj R X.2.2.2.2.1 (X.2.2.1 k) k (X.2.2.2.1 k) j = X.2.2.2.2.1 (nv R X k j) + 1 := by
    unfold dpj
    rw [if_pos h1.2]
    rfl
  have h3 := h2.2.2.1
  unfold dpn at h3
  match j, hj with
  | 0, _ => omega
  | 1, _ => omega
  | 2, _ => omega
theorem dp_lub (hX : SX R X) {k v : Nat} (hk : k < 216) (h : ∀ j, j < 3 → nq R X k j = true → X.2.2.2.2.1 (nv R X k j) + 1 ≤ v) : X.2.2.2.2.1 k ≤ v := by
  rcases Nat.eq_zero_or_pos (X.2.1 k) with q | q
  · rw [((hX k hk).2 q).1]
    omega
  · have h2 := (hX k hk).1 q
    have e : ∀ j, j < 3 → dpj R X.2.2.2.2.1 (X.2.2.1 k) k (X.2.2.2.1 k) j ≤ v := fun j hj => by
      unfold dpj
      cases hp : psc R (X.2.2.1 k) j
      · rw [if_neg (by decide)]; omega
      · rw [if_pos rfl]
        exact h j hj (by unfold nq; rw [decide_eq_true q, hp]; rfl)
    have e0 := e 0 (by decide)
    have e1 := e 1 (by decide)
    have e2 := e 2 (by decide)
    have h3 := h2.2.2.1
    unfold dpn at h3
    omega
theorem cl_iff (hX : SX R X) {k m : Nat} (hk : k < 216) (hm : m < 216) : X.2.2.2.2.2 k m = true ↔ m = k ∨ ∃ j, j < 3 ∧ nq R X k j = true ∧ X.2.2.2.2.2 (nv R X k j) m = true := by
  rcases Nat.eq_zero_or_pos (X.2.1 k) with q | q
  · rw [((hX k hk).2 q).2 m hm, beq_iff_eq]
    constructor
    · exact Or.inl
    · rintro (h | ⟨j, _, h, _⟩)
      · exact h
      · have := (nq_st h).1
        omega
  · rw [((hX k hk).1 q).2.2.2 m hm]
    have e : ∀ j, clj R X.2.2.2.2.2 (X.2.2.1 k) k (X.2.2.2.1 k) j m = true ↔ nq R X k j = true ∧ X.2.2.2.2.2 (nv R X k j) m = true := fun j => by
      unfold clj nq
      rw [decide_eq_true q, Bool.true_and, Bool.and_eq_true]
      exact Iff.rfl
    unfold cln
    simp only [Bool.or_eq_true, beq_iff_eq, e]
    constructor
    · rintro (((h | h) | h) | h)
      · exact Or.inl h
      · exact Or.inr ⟨0, by decide, h⟩
      · exact Or.inr ⟨1, by decide, h⟩
      · exact Or.inr ⟨2, by decide, h⟩
    · rintro (h | ⟨j, hj, h⟩)
      · exact Or.inl (Or.inl (Or.inl h))
      · match j, hj with
        | 0, _ => exact Or.inl (Or.inl (Or.inr h))
        | 1, _ => exact Or.inl (Or.inr h)
        | 2, _ => exact Or.inr h
theorem cl_trans (hX : SX R X) (hO : OKR R) : ∀ d f k m, f < 216 → k < 216 → m < 216 → X.2.2.2.2.1 f ≤ d → X.2.2.2.2.2 f k = true → X.2.2.2.2.2 k m = true → X.2.2.2.2.2 f m = true := by
  intro d
  induction d with
  | zero =>
    intro f k m hf hk hm hd h1 h2
    rcases (cl_iff hX hf hk).mp h1 with h | ⟨j, hj, h3, h4⟩
    · rw [← h]; exact h2
    · have := dp_nv hX hf hj h3
      omega
  | succ d ih =>
    intro f k m hf hk hm hd h1 h2
    rcases (cl_iff hX hf hk).mp h1 with h | ⟨j, hj, h3, h4⟩
    · rw [← h]; exact h2
    · have := dp_nv hX hf hj h3
      exact (cl_iff hX hf hm).mpr (Or.inr ⟨j, hj, h3, ih _ k m (nv_lt hX hO hf hj h3) hk hm (by omega) h4 h2⟩)
theorem cl_self (hX : SX R X) {k : Nat} (hk : k < 216) : X.2.2.2.2.2 k k = true := (cl_iff hX hk hk).mpr (Or.inl rfl)
theorem cl_need (hX : SX R X) (hO : OKR R) {f k j : Nat} (hf : f < 216) (hk : k < 216) (hj : j < 3) (h : X.2.2.2.2.2 f k = true) (hq : nq R X k j = true) : X.2.2.2.2.2 f (nv R X k j) = true := by
  have hn := nv_lt hX hO hk hj hq
  exact cl_trans hX hO _ f k _ hf hk hn (Nat.le_refl _) h ((cl_iff hX hk hn).mpr (Or.inr ⟨j, hj, hq, cl_self hX hn⟩))
/-- a set that is closed by needs holds the closure of what it holds -/
theorem cl_least (hX : SX R X) (hO : OKR R) {B : Nat → Bool} (hB : ∀ k, k < 216 → B k = true → ∀ j, j < 3 → nq R X k j = true → B (nv R X k j) = true) : ∀ d f m, f < 216 → m < 216 → X.2.2.2.2.1 f ≤ d → B f = true → X.2.2.2.2.2 f m = true → B m = true := by
  intro d
  induction d with
  | zero =>
    intro f m hf hm hd hb h
    rcases (cl_iff hX hf hm).mp h with h | ⟨j, hj, h3, h4⟩
    · rw [h]; exact hb
    · have := dp_nv hX hf hj h3
      omega
  | succ d ih =>
    intro f m hf hm hd hb h
    rcases (cl_iff hX hf hm).mp h with h | ⟨j, hj, h3, h4⟩
    · rw [h]; exact hb
    · have := dp_nv hX hf hj h3
      exact ih _ m (nv_lt hX hO hf hj h3) hm (by omega) (hB f hf hb j hj h3) h4
/-- depths that are closed by needs are no less -/
theorem dp_least (hX : SX R X) (hO : OKR R) {D : Nat → Nat} (hD : ∀ k, k < 216 → ∀ j, j < 3 → nq R X k j = true → D (nv R X k j) + 1 ≤ D k) : ∀ d k, k < 216 → X.2.2.2.2.1 k ≤ d → X.2.2.2.2.1 k ≤ D k := by
  intro d
  induction d with
  | zero => intro k hk hd; omega
  | succ d ih =>
    intro k hk hd
    refine dp_lub hX hk (fun j hj hq => ?_)
    have h1 := dp_nv hX hk hj hq
    have h2 := ih _ (nv_lt hX hO hk hj hq) (by omega)
    have h3 := hD k hk j hj hq
    omega
theorem sm_lt {D D' : Nat → Nat} {n k : Nat} (h : ∀ q, q < n → D q ≤ D' q) (hk : k < n) (hlt : D k < D' k) : fb_sm D n < fb_sm D' n := by
  have e1 := fb_sm_upd D (D k + 1) hk
  have e2 : fb_sm (fun q => if q = k then D k + 1 else D q) n ≤ fb_sm D' n := fb_sm_le (fun q hq => by
    show (if q = k then D k + 1 else D q) ≤ D' q
    by_cases e : q = k
    · rw [if_pos e, e]; omega
    · rw [if_neg e]; exact h q hq)
  omega
abbrev c13 : Nat → Prop := fun q => q = 11 ∨ q = 12 ∨ q = 13
theorem c12_13 : ∀ a, c12 a → c13 a := fun a h => by rcases h with h | h; exact Or.inl h; exact Or.inr (Or.inl h)
/-- the middle of a pass over depths -/
def DPM (N0 N1 : KS) (R : RS) (X : DX) (D D' : Nat → Nat) (f : Bool) (k p : Nat) : Prop :=
  (∀ q, q < 216 → N1.1 13 q = nI (D' q)) ∧ (∀ q, q < 216 → D q ≤ D' q ∧ D' q ≤ X.2.2.2.2.1 q) ∧ (f = true → fb_sm D 216 < fb_sm D' 216) ∧ (f = false → (∀ q, q < 216 → D' q = D q) ∧ ∀ q, q < 216 → ∀ j, j < 3 → nq R X q j = true → (q < k ∨ (q = k ∧ fb_ct (nq R X q) j < p)) → D (nv R X q j) + 1 ≤ D q) ∧ FR c13 N0 N1
theorem deepens_wp (hX : RX N X) (hB : XB R X b) (hS : SX R X) (hR : MB (N.1 1) R.1 R) (hO : OKR R) (hb : b ≤ 300) : wp (fX10_deepens N) (fun N' => (∀ k, k < 216 → N'.1 13 k = nI (X.2.2.2.2.1 k)) ∧ FR c13 N N') := by
  have hsum : fb_sm X.2.2.2.2.1 216 ≤ 216 * 300 := fb_sm_bound (fun k hk => Nat.le_trans (hB k hk).2.2.1 hb)
  unfold fX10_deepens
  refine wp_for 216 (fun (i : Nat) (s : Int32 × KS) => s.1 = nI i ∧ (∀ q, q < i → s.2.1 13 q = nI 0) ∧ FR c13 N s.2) (fun i s rec hi hI hrec => ?_) (by decide) (Nat.zero_le _) ⟨rfl, fun q hq => absurd hq (Nat.not_lt_zero _), FR.rf⟩
  obtain ⟨v, N1⟩ := s
  obtain ⟨hv, h0, hF⟩ := hI
  have hv : v = nI i := hv
  subst hv
  have h0' : ∀ q, q < i → N1.1 13 q = nI 0 := h0
  have hF1 : FR c13 N N1 := hF
  rw [fX10_deepens_L2_u]
  rcases Nat.lt_or_ge i 216 with hlt | hge
  · refine wp_neg (nI_ge hlt (by decide)) (wp_pos ((inb_N (by omega)).mpr hlt) (wp_nm (wp_nm ?_)))
    rw [nI_clamp (show i < 2 ^ 31 by omega), li1, nI_add]
    refine hrec _ hlt ⟨rfl, fun q hq => ?_, hF1.set (Or.inr (Or.inr rfl))⟩
    show (kset N1 13 i 0).1 13 q = _
    rw [kset_c]
    by_cases e : q = i
    · rw [if_pos e]; rfl
    · rw [if_neg e]; exact h0' q (by omega)
  · have : i = 216 := by omega
    subst this
    refine wp_pos (nI_le (Nat.le_refl _) (by decide)) ?_
    unfold fX10_deepens_X2
    refine wp_lp (fun n (s : Int32 × KS) => ∃ D f, s.1 = bI f ∧ (∀ q, q < 216 → s.2.1 13 q = nI (D q)) ∧ (∀ q, q < 216 → D q ≤ X.2.2.2.2.1 q) ∧ (f = false → ∀ q, q < 216 → ∀ j, j < 3 → nq R X q j = true → D (nv R X q j) + 1 ≤ D q) ∧ FR c13 N s.2 ∧ n = if f then fb_sm X.2.2.2.2.1 216 - fb_sm D 216 + 1 else 0) (fun n s rec hI hrec2 => ?_) 1000000 (fb_sm X.2.2.2.2.1 216 - fb_sm (fun _ => 0) 216 + 1) _ (by omega) ⟨fun _ => 0, true, rfl, fun q hq => h0' q hq, fun q hq => Nat.zero_le _, fun h => absurd h (by decide), hF1, rfl⟩
    obtain ⟨v, N2⟩ := s
    obtain ⟨D, f, hv, hD, hD1, hD2, hF2, hn⟩ := hI
    have hv : v = bI f := hv
    subst hv
    have hD' : ∀ q, q < 216 → N2.1 13 q = nI (D q) := hD
    have hF2' : FR c13 N N2 := hF2
    rw [fX10_deepens_L24_u]
    cases f
    · refine wp_pos rfl ?_
      unfold fX10_deepens_X24
      refine wp_some ⟨fun k hk => ?_, hF2'⟩
      rw [hD' k hk]
      exact congrArg nI (Nat.le_antisymm (hD1 k hk) (dp_least hS hO (hD2 rfl) _ k hk (Nat.le_refl _)))
    · refine wp_neg (show ¬ bI true = 0 by decide) ?_
      have hle0 : fb_sm D 216 ≤ fb_sm X.2.2.2.2.1 216 := fb_sm_le (fun q hq => hD1 q hq)
      rw [if_pos rfl] at hn
      refine wp_for 216 (fun (k : Nat) (s : Int32 × Int32 × KS) => ∃ D' f, s.1 = bI f ∧ s.2.1 = nI k ∧ DPM N s.2.2 R X D D' f k 0) (fun k s rec3 hk hI2 hrec3 => ?_) (by decide) (Nat.zero_le _) ⟨D, false, rfl, rfl, hD', fun q hq => ⟨Nat.le_refl _, hD1 q hq⟩, fun h => absurd h (by decide), fun _ => ⟨fun _ _ => rfl, fun q hq j hj hqj h => by rcases h with h | ⟨_, h⟩; exact absurd h (Nat.not_lt_zero _); exact absurd h (Nat.not_lt_zero _)⟩, hF2'⟩
      obtain ⟨v, w, N3⟩ := s
      obtain ⟨D3, f3, hv, hw, hM3⟩ := hI2
      have hv : v = bI f3 := hv
      subst hv
      have hw : w = nI k := hw
      subst hw
      have hM3' : DPM N N3 R X D D3 f3 k 0 := hM3
      rw [fX10_deepens_L32_u]
      rcases Nat.lt_or_ge k 216 with hkl | hkg
      · refine wp_neg (nI_ge hkl (by decide)) ?_
        have hF3 := hM3'.2.2.2.2
        refine wp_bd2 (wp_mono (rneeds_wp (hX.fr hF3 (by decide) (by decide) (by decide)) hB (hR.fr hF3 (by decide)) hO hkl) ?_)
        rintro ⟨v13, N4⟩ ⟨hv13, hnd, hF4⟩
        have hv13 : v13 = nI (fb_ct (nq R X k) 3) := hv13
        subst hv13
        have hnd' : NDS N4 R X k := hnd
        have hF4' : FR c12 N3 N4 := hF4
        have hm3 := fb_ct_le (nq R X k) 3
        have e13 : N4.1 13 = N3.1 13 := hF4'.1 13 (by decide)
        refine wp_for (fb_ct (nq R X k) 3) (fun (p : Nat) (s : Int32 × Int32 × KS) => ∃ D' f, s.1 = bI f ∧ s.2.1 = nI p ∧ NDS s.2.2 R X k ∧ DPM N s.2.2 R X D D' f k p) (fun p s rec4 hp hI3 hrec4 => ?_) (by omega) (Nat.zero_le _) ⟨D3, f3, rfl, rfl, hnd', fun q hq => by show N4.1 13 q = _; rw [e13]; exact hM3'.1 q hq, hM3'.2.1, hM3'.2.2.1, hM3'.2.2.2.1, hF3.tr (hF4'.wk c12_13)⟩
        obtain ⟨v, w, N5⟩ := s
        obtain ⟨D5, f5, hv, hw, hnd5, hM5⟩ := hI3
        have hv : v = bI f5 := hv
        subst hv
        have hw : w = nI p := hw
        subst hw
        have hnd5' : NDS N5 R X k := hnd5
        have hM5' : DPM N N5 R X D D5 f5 k p := hM5
        rw [fX10_deepens_L48_u]
        rcases Nat.lt_or_ge p (fb_ct (nq R X k) 3) with hpl | hpg
        · refine wp_neg (nI_ge hpl (by omega)) ?_
          obtain ⟨j, hj, hqj, hpj⟩ := fb_ct_kth hpl
          have hnv := nv_lt hS hO hkl hj hqj
          have hd5 := hnd5' j hj hqj
          rw [hpj] at hd5
          have hdn := hM5'.1 _ hnv
          have hdk := hM5'.1 k hkl
          have hbn := hM5'.2.1 _ hnv
          have hbk := hM5'.2.1 k hkl
          have hx1 := (hB _ hnv).2.2.1
          have hx2 := (hB k hkl).2.2.1
          have hdpn := dp_nv hS hkl hj hqj
          have ip : inb (nI p) 3 := (inb_N (by omega)).mpr (by omega)
          have ik : inb (nI k) 216 := (inb_N (by omega)).mpr hkl
          have iv : inb (nI (nv R X k j)) 216 := (inb_N (by omega)).mpr hnv
          have cp : (nI p).toNatClampNeg = p := nI_clamp (by omega)
          have ck : (nI k).toNatClampNeg = k := nI_clamp (by omega)
          have cv : (nI (nv R X k j)).toNatClampNeg = nv R X k j := nI_clamp (by omega)
          simp only [cp, ck, hd5, cv, hdn, hdk]
          refine wp_pos ip (wp_pos iv (wp_pos ik ?_))
          rw [li1, nI_add]
          by_cases hle : D5 (nv R X k j) + 1 ≤ D5 k
          · refine wp_pos ((nI_leI (by omega) (by omega)).mpr hle) (wp_nm ?_)
            rw [nI_add]
            refine hrec4 _ hpl ⟨D5, f5, rfl, rfl, hnd5', hM5'.1, hM5'.2.1, hM5'.2.2.1, fun hf => ⟨(hM5'.2.2.2.1 hf).1, fun q hq j' hj' hqj' h => ?_⟩, hM5'.2.2.2.2⟩
            have hold := hM5'.2.2.2.1 hf
            rcases h with h | ⟨h, h2⟩
            · exact hold.2 q hq j' hj' hqj' (Or.inl h)
            · by_cases e : fb_ct (nq R X q) j' = p
              · subst h
                have : j' = j := fb_ct_kth_one hqj' hqj (by rw [e, hpj])
                subst this
                rw [← hold.1 _ hnv, ← hold.1 q hq]
                exact hle
              · exact hold.2 q hq j' hj' hqj' (Or.inr ⟨h, by omega⟩)
          · refine wp_neg (fun z => hle ((nI_leI (by omega) (by omega)).mp z)) (wp_pos ip (wp_pos iv (wp_pos ik (wp_nm (wp_nm ?_)))))
            rw [nI_add]
            have hnew : ∀ q, q < 216 → D5 q ≤ (if q = k then D5 (nv R X k j) + 1 else D5 q) := fun q hq => by
              by_cases e : q = k
              · rw [if_pos e, e]; omega
              · rw [if_neg e]; exact Nat.le_refl _
            have hsm : fb_sm D 216 < fb_sm (fun q => if q = k then D5 (nv R X k j) + 1 else D5 q) 216 := by
              refine sm_lt (k := k) (fun q hq => Nat.le_trans (hM5'.2.1 q hq).1 (hnew q hq)) hkl ?_
              show D k < if k = k then D5 (nv R X k j) + 1 else D5 k
              rw [if_pos rfl]
              omega
            refine hrec4 _ hpl ⟨fun q => if q = k then D5 (nv R X k j) + 1 else D5 q, true, rfl, rfl, fun j' hj' hqj' => ?_, fun q hq => ?_, fun q hq => ⟨Nat.le_trans (hM5'.2.1 q hq).1 (hnew q hq), ?_⟩, fun _ => hsm, fun h => absurd h (by decide), hM5'.2.2.2.2.set (Or.inr (Or.inr rfl))⟩
            · show (kset N5 13 k _).1 12 _ = _
              rw [kset_nc (by decide)]
              exact hnd5' j' hj' hqj'
            · show (kset N5 13 k _).1 13 q = nI (if q = k then D5 (nv R X k j) + 1 else D5 q)
              rw [kset_c]
              by_cases e : q = k
              · rw [if_pos e, if_pos e]
              · rw [if_neg e, if_neg e]; exact hM5'.1 q hq
            · show (if q = k then D5 (nv R X k j) + 1 else D5 q) ≤ _
              by_cases e : q = k
              · rw [if_pos e, e]; omega
              · rw [if_neg e]; exact (hM5'.2.1 q hq).2
        · have : p = fb_ct (nq R X k) 3 := by omega
          subst this
          refine wp_pos (nI_le (Nat.le_refl _) (by omega)) ?_
          unfold fX10_deepens_X48
          refine wp_nm ?_
          rw [li1, nI_add]
          refine hrec3 _ hkl ⟨D5, f5, rfl, rfl, hM5'.1, hM5'.2.1, hM5'.2.2.1, fun hf => ⟨(hM5'.2.2.2.1 hf).1, fun q hq j' hj' hqj' h => ?_⟩, hM5'.2.2.2.2⟩
          refine (hM5'.2.2.2.1 hf).2 q hq j' hj' hqj' ?_
          rcases h with h | ⟨_, h⟩
          · by_cases e : q = k
            · refine Or.inr ⟨e, ?_⟩
              rw [← e]
              have m1 : fb_ct (nq R X q) (j' + 1) ≤ fb_ct (nq R X q) 3 := fb_ct_mono _ (by omega)
              have m2 : fb_ct (nq R X q) (j' + 1) = fb_ct (nq R X q) j' + (if nq R X q j' = true then 1 else 0) := rfl
              rw [hqj', if_pos rfl] at m2
              omega
            · exact Or.inl (by omega)
          · exact absurd h (Nat.not_lt_zero _)
      · have : k = 216 := by omega
        subst this
        refine wp_pos (nI_le (Nat.le_refl _) (by decide)) ?_
        unfold fX10_deepens_X32
        have hle1 : fb_sm D3 216 ≤ fb_sm X.2.2.2.2.1 216 := fb_sm_le (fun q hq => (hM3'.2.1 q hq).2)
        refine hrec2 (if f3 then fb_sm X.2.2.2.2.1 216 - fb_sm D3 216 + 1 else 0) _ ?_ ⟨D3, f3, rfl, hM3'.1, fun q hq => (hM3'.2.1 q hq).2, fun hf q hq j hj hqj => ?_, hM3'.2.2.2.2, rfl⟩
        · cases f3
          · rw [if_neg (by decide)]; omega
          · rw [if_pos rfl]
            have := hM3'.2.2.1 rfl
            omega
        · have h1 := hM3'.2.2.2.1 hf
          rw [h1.1 _ (nv_lt hS hO hq hj hqj), h1.1 q hq]
          exact h1.2 q hq j hj hqj (Or.inl hq)
end DEE
