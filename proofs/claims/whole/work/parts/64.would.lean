/-! ===== would rules be layered with one more: ways back ===== -/
def nwv (a : Nat) (c : Int32) : Nat := if 0 < a ∧ c < 0 then 2 else a
def CLO (R : RS) (n : Nat) (g : Nat → Nat) : Prop := ∀ r, r < n → ∀ j, j < 3 → R.2.2 r j ≠ 0 → nwv (g (kr (R.2.2 r j))) (R.2.2 r j) ≤ g (R.2.1 r)
def MIN (R : RS) (n hd : Nat) (f : Nat → Nat) : Prop := ∀ g, CLO R n g → 1 ≤ g hd → ∀ q, q < 6 → f q ≤ g q
/-- the relations that are reached: 1, or 2 by a negated condition -/
def RCH (R : RS) (n hd : Nat) (f : Nat → Nat) : Prop := 1 ≤ f hd ∧ CLO R n f ∧ (∀ q, q < 6 → f q ≤ 2) ∧ MIN R n hd f
theorem nwv_le2 {a : Nat} {c : Int32} (h : a ≤ 2) : nwv a c ≤ 2 := by unfold nwv; split <;> omega
theorem nwv_mono {a b : Nat} {c : Int32} (h : a ≤ b) : nwv a c ≤ nwv b c := by
  unfold nwv
  by_cases q : c < 0
  · rcases Nat.eq_zero_or_pos a with h0 | h0
    · rw [if_neg (fun z => by omega), h0]
      exact Nat.zero_le _
    · rw [if_pos ⟨h0, q⟩, if_pos ⟨by omega, q⟩]
      exact Nat.le_refl _
  · rw [if_neg (fun z => q z.2), if_neg (fun z => q z.2)]
    exact h
theorem RCH.one {R : RS} {n hd : Nat} {f g : Nat → Nat} (h : RCH R n hd f) (k : RCH R n hd g) : ∀ q, q < 6 → f q = g q := fun q hq => Nat.le_antisymm (h.2.2.2 g k.2.1 k.1 q hq) (k.2.2.2 f h.2.1 h.1 q hq)
section RCQ
variable {R : RS} {hd : Nat} {cs : Nat → Int32} {f : Nat → Nat} {N : KS} {s : ST}
theorem lyd_add (hO : ∀ r, r < R.1 → OK1 R r) (hd6 : hd < 6) (hV : VC cs) (hL : LYD R R.1) (hf : RCH R R.1 hd f) : LYD (addR R hd cs) (R.1 + 1) ↔ ∀ j, j < 3 → cs j ≠ 0 → f (kr (cs j)) + wt (cs j) ≤ 1 := by
  constructor
  · intro ⟨L, hS⟩ j hj h0
    obtain ⟨g, hg⟩ : ∃ g : Nat → Nat, g = fun q => if L hd + 1 ≤ L q then 2 else if L hd ≤ L q then 1 else 0 := ⟨_, rfl⟩
    have ga : ∀ q, g q = if L hd + 1 ≤ L q then 2 else if L hd ≤ L q then 1 else 0 := fun q => by rw [hg]
    have hc : CLO R R.1 g := by
      intro r hr j hj h0
      have lo := addR_lo (R := R) (hd := hd) (cs := cs) (r := r) (by omega)
      have h1 := hS r (by omega) j hj (by rw [lo.2.1]; exact h0)
      rw [lo.1, lo.2.1] at h1
      rw [ga, ga]
      unfold nwv
      unfold wt at h1
      by_cases q : R.2.2 r j < 0
      · rw [if_pos q] at h1
        by_cases a1 : L hd + 1 ≤ L (kr (R.2.2 r j))
        · rw [if_pos a1, if_pos ⟨by decide, q⟩, if_pos (by omega)]
          exact Nat.le_refl _
        · rw [if_neg a1]
          by_cases a2 : L hd ≤ L (kr (R.2.2 r j))
          · rw [if_pos a2, if_pos ⟨by decide, q⟩, if_pos (by omega)]
            exact Nat.le_refl _
          · rw [if_neg a2, if_neg (fun z => absurd z.1 (by decide))]
            exact Nat.zero_le _
      · rw [if_neg q] at h1
        rw [if_neg (fun z => q z.2)]
        by_cases a1 : L hd + 1 ≤ L (kr (R.2.2 r j))
        · rw [if_pos a1, if_pos (by omega)]
          exact Nat.le_refl _
        · rw [if_neg a1]
          by_cases a2 : L hd ≤ L (kr (R.2.2 r j))
          · rw [if_pos a2]
            by_cases a3 : L hd + 1 ≤ L (R.2.1 r)
            · rw [if_pos a3]; decide
            · rw [if_neg a3, if_pos (by omega)]
              exact Nat.le_refl _
          · rw [if_neg a2]
            exact Nat.zero_le _
    have hm := hf.2.2.2 g hc (by rw [ga, if_neg (by omega), if_pos (Nat.le_refl _)]; exact Nat.le_refl _) (kr (cs j)) (kr_lt (hV.ka hj))
    have h1 := hS R.1 (Nat.lt_succ_self _) j hj (by rw [addR_hi.2]; exact h0)
    rw [addR_hi.1, addR_hi.2] at h1
    have hw := wt_le (cs j)
    rw [ga, if_neg (by omega)] at hm
    by_cases a2 : L hd ≤ L (kr (cs j))
    · rw [if_pos a2] at hm; omega
    · rw [if_neg a2] at hm; omega
  · intro hc
    obtain ⟨L, hS⟩ := hL
    obtain ⟨B, hB⟩ : ∃ B, B = mx6 L 6 + 1 := ⟨_, rfl⟩
    have hLB : ∀ q, q < 6 → L q < B := fun q hq => by
      have := mx6_le.mp (Nat.le_refl (mx6 L 6)) q hq
      omega
    obtain ⟨L', hL'⟩ : ∃ L' : Nat → Nat, L' = fun q => if f q = 0 then L q else if f q = 1 then B else B + 1 + L q := ⟨_, rfl⟩
    have la : ∀ q, L' q = if f q = 0 then L q else if f q = 1 then B else B + 1 + L q := fun q => by rw [hL']
    refine ⟨L', fun r hr j hj h0 => ?_⟩
    by_cases e : r = R.1
    · subst e
      rw [addR_hi.1, addR_hi.2]
      rw [addR_hi.2] at h0
      have h1 := hc j hj h0
      have h2 := hLB _ (kr_lt (hV.ka hj))
      have h3 := hf.1
      have hw := wt_le (cs j)
      rw [la, la, if_neg (show ¬ f hd = 0 by omega)]
      by_cases a0 : f (kr (cs j)) = 0
      · rw [if_pos a0]
        by_cases a1 : f hd = 1
        · rw [if_pos a1]; omega
        · rw [if_neg a1]; omega
      · rw [if_neg a0, if_pos (by omega)]
        by_cases a1 : f hd = 1
        · rw [if_pos a1]; omega
        · rw [if_neg a1]; omega
    · have lo := addR_lo (R := R) (hd := hd) (cs := cs) e
      rw [lo.1, lo.2.1]
      rw [lo.2.1] at h0
      have hr' : r < R.1 := by omega
      have h1 := hf.2.1 r hr' j hj h0
      have h2 := hS r hr' j hj h0
      have h3 := hLB _ (kr_lt ((hO r hr').2 j hj))
      have h4 := hLB _ (hO r hr').1
      have h5 := hf.2.2.1 _ (kr_lt ((hO r hr').2 j hj))
      have h6 := hf.2.2.1 _ (hO r hr').1
      rw [la, la]
      unfold nwv at h1
      unfold wt at h2 ⊢
      by_cases q : R.2.2 r j < 0
      · rw [if_pos q] at h2 ⊢
        by_cases a0 : f (kr (R.2.2 r j)) = 0
        · rw [if_pos a0]
          by_cases b0 : f (R.2.1 r) = 0
          · rw [if_pos b0]; exact h2
          · rw [if_neg b0]
            by_cases b1 : f (R.2.1 r) = 1
            · rw [if_pos b1]; omega
            · rw [if_neg b1]; omega
        · rw [if_pos ⟨by omega, q⟩] at h1
          rw [if_neg a0, if_neg (show ¬ f (R.2.1 r) = 0 by omega), if_neg (show ¬ f (R.2.1 r) = 1 by omega)]
          by_cases a1 : f (kr (R.2.2 r j)) = 1
          · rw [if_pos a1]; omega
          · rw [if_neg a1]; omega
      · rw [if_neg q] at h2 ⊢
        rw [if_neg (fun z => q z.2)] at h1
        by_cases a0 : f (kr (R.2.2 r j)) = 0
        · rw [if_pos a0]
          by_cases b0 : f (R.2.1 r) = 0
          · rw [if_pos b0]; exact h2
          · rw [if_neg b0]
            by_cases b1 : f (R.2.1 r) = 1
            · rw [if_pos b1]; omega
            · rw [if_neg b1]; omega
        · rw [if_neg a0, if_neg (show ¬ f (R.2.1 r) = 0 by omega)]
          by_cases a1 : f (kr (R.2.2 r j)) = 1
          · rw [if_pos a1]
            by_cases b1 : f (R.2.1 r) = 1
            · rw [if_pos b1]; omega
            · rw [if_neg b1]; omega
          · rw [if_neg a1, if_neg (show ¬ f (R.2.1 r) = 1 by omega)]; omega
/-! the reference's search -/
def HR (N : KS) (f : Nat → Nat) : Prop := ∀ q, q < 6 → N.1 17 q = nI (f q)
abbrev c17 : Nat → Prop := fun a => a = 17
def nvz (f : Nat → Nat) (c : Int32) : Nat := if c = 0 then 0 else nwv (f (kr c)) c
/-- a pass over the conditions below the i-th -/
def RPS (R : RS) (hd : Nat) (f f' : Nat → Nat) (fl : Bool) (i : Nat) : Prop :=
  (∀ q, q < 6 → f q ≤ f' q ∧ f' q ≤ 2) ∧ 1 ≤ f' hd ∧ MIN R R.1 hd f' ∧
  (fl = false → (∀ q, q < 6 → f' q = f q) ∧ ∀ r j, 3 * r + j < i → j < 3 → R.2.2 r j ≠ 0 → nwv (f (kr (R.2.2 r j))) (R.2.2 r j) ≤ f (R.2.1 r)) ∧
  (fl = true → ∃ q, q < 6 ∧ f q < f' q)
theorem RPS.keep {f' : Nat → Nat} {fl : Bool} {r j : Nat} (h : RPS R hd f f' fl (3 * r + j)) (hO : OK1 R r) (hj : j < 3) (hl : nvz f' (R.2.2 r j) ≤ f' (R.2.1 r)) : RPS R hd f f' fl (3 * r + j + 1) := by
  refine ⟨h.1, h.2.1, h.2.2.1, fun hf => ⟨(h.2.2.2.1 hf).1, fun r' j' h1 h2 h0 => ?_⟩, h.2.2.2.2⟩
  rcases Nat.lt_or_ge (3 * r' + j') (3 * r + j) with q | q
  · exact (h.2.2.2.1 hf).2 r' j' q h2 h0
  · have e1 : r' = r := by omega
    have e2 : j' = j := by omega
    subst e1; subst e2
    have e3 := (h.2.2.2.1 hf).1
    unfold nvz at hl
    rw [if_neg h0, e3 _ (kr_lt (hO.2 j' h2)), e3 _ hO.1] at hl
    exact hl
theorem nvz_le2 {f' : Nat → Nat} (h : ∀ q, q < 6 → f' q ≤ 2) {c : Int32} (hc : ka c ≤ 54) : nvz f' c ≤ 2 := by
  unfold nvz
  split
  · omega
  · exact nwv_le2 (h _ (kr_lt hc))
theorem RPS.raise {f' : Nat → Nat} {fl : Bool} {r j : Nat} (h : RPS R hd f f' fl (3 * r + j)) (hO : OK1 R r) (hr : r < R.1) (hj : j < 3) (hl : f' (R.2.1 r) < nvz f' (R.2.2 r j)) : RPS R hd f (updN f' (R.2.1 r) (nvz f' (R.2.2 r j))) true (3 * r + j + 1) := by
  have h0 : R.2.2 r j ≠ 0 := fun z => by unfold nvz at hl; rw [if_pos z] at hl; omega
  have hk := kr_lt (hO.2 j hj)
  have hv : nvz f' (R.2.2 r j) = nwv (f' (kr (R.2.2 r j))) (R.2.2 r j) := by unfold nvz; rw [if_neg h0]
  have h2 := nvz_le2 (fun q hq => (h.1 q hq).2) (hO.2 j hj)
  refine ⟨fun q hq => ?_, ?_, fun g hg hgd q hq => ?_, fun z => absurd z (by decide), fun _ => ⟨R.2.1 r, hO.1, ?_⟩⟩
  · unfold updN
    have h1 := h.1 q hq
    by_cases e : q = R.2.1 r
    · rw [if_pos e]; subst e; omega
    · rw [if_neg e]; exact h1
  · unfold updN
    have h1 := h.2.1
    by_cases e : hd = R.2.1 r
    · rw [if_pos e]; subst e; omega
    · rw [if_neg e]; exact h1
  · unfold updN
    by_cases e : q = R.2.1 r
    · rw [if_pos e, e, hv]
      have h3 := hg r hr j hj h0
      have h4 := h.2.2.1 g hg hgd _ hk
      exact Nat.le_trans (nwv_mono h4) h3
    · rw [if_neg e]; exact h.2.2.1 g hg hgd q hq
  · unfold updN
    rw [if_pos rfl]
    have := (h.1 _ hO.1).1
    omega
theorem reaches_wp (hn : N.1 1 216 = nI R.1) (hn10 : R.1 ≤ 10) (hR : MB (N.1 1) R.1 R) (hO : ∀ r, r < R.1 → OK1 R r) (hd6 : hd < 6) {t : Nat} (ht : t < 6) (a3 : Int32) : wp (fX10_reaches N (nI hd) (nI t) a3) (fun a => ∃ f, RCH R R.1 hd f ∧ a.1 = bI (decide ((if a3 = 0 then 1 else 2) ≤ f t)) ∧ FR c17 N a.2) := by
  have c216 : (216 : Int32).toNatClampNeg = 216 := by decide
  unfold fX10_reaches
  refine wp_for 6 (fun (i : Nat) (s : Int32 × KS) => s.1 = nI i ∧ (∀ q, q < i → s.2.1 17 q = nI (if q = hd then 1 else 0)) ∧ FR c17 N s.2) (fun i s rec hi hI hrec => ?_) (by decide) (Nat.zero_le _) ⟨rfl, fun q h => absurd h (Nat.not_lt_zero _), FR.rf⟩
  obtain ⟨v, N2⟩ := s
  obtain ⟨hv, h1, hF⟩ := hI
  have hv : v = nI i := hv
  subst hv
  have h1 : ∀ q, q < i → N2.1 17 q = nI (if q = hd then 1 else 0) := h1
  have hF2 : FR c17 N N2 := hF
  rw [fX10_reaches_L3_u]
  rcases Nat.lt_or_ge i 6 with hlt | hge
  · have ib : inb (nI i) 6 := (inb_N (by omega)).mpr hlt
    have ck : (nI i).toNatClampNeg = i := nI_clamp (by omega)
    have e1 : (nI i + 1 : Int32) = nI (i + 1) := by rw [li1, nI_add]
    refine wp_neg (nI_ge hlt (by decide)) ?_
    by_cases e : i = hd
    · refine wp_pos (by rw [e]) (wp_pos ib (wp_nm (wp_nm ?_)))
      rw [ck, e1]
      refine hrec _ hlt ⟨rfl, fun q hq => ?_, hF2.set rfl⟩
      show (kset N2 17 i 1).1 17 q = _
      rw [kset_c]
      by_cases q' : q = i
      · rw [if_pos q', if_pos (by omega)]; rfl
      · rw [if_neg q']; exact h1 q (by omega)
    · refine wp_neg (fun z => e ((nI_eq (by omega) (by omega)).mp z)) (wp_pos ib (wp_nm (wp_nm ?_)))
      rw [ck, e1]
      refine hrec _ hlt ⟨rfl, fun q hq => ?_, hF2.set rfl⟩
      show (kset N2 17 i 0).1 17 q = _
      rw [kset_c]
      by_cases q' : q = i
      · rw [if_pos q', if_neg (by omega)]; rfl
      · rw [if_neg q']; exact h1 q (by omega)
  · have : i = 6 := by omega
    subst this
    refine wp_pos (nI_le (Nat.le_refl _) (by decide)) ?_
    unfold fX10_reaches_X3
    obtain ⟨f0, hf0⟩ : ∃ f0 : Nat → Nat, f0 = fun q => if q = hd then 1 else 0 := ⟨_, rfl⟩
    have h12 : ∀ g : Nat → Nat, fb_sm (fun q => 2 - g q) 6 ≤ 12 := fun g => fb_sm_bound (c := 2) (n := 6) (fun k _ => by omega)
    have hm0 : MIN R R.1 hd f0 := fun g _ hg q _ => by
      rw [hf0]
      show (if q = hd then 1 else 0) ≤ g q
      by_cases e : q = hd
      · rw [if_pos e, e]; exact hg
      · rw [if_neg e]; exact Nat.zero_le _
    refine wp_lp (fun (n : Nat) (s : Int32 × KS) => ∃ f, HR s.2 f ∧ (∀ q, q < 6 → f q ≤ 2) ∧ 1 ≤ f hd ∧ MIN R R.1 hd f ∧ FR c17 N s.2 ∧ ((s.1 = nI 1 ∧ n = fb_sm (fun q => 2 - f q) 6 + 1) ∨ (s.1 = nI 0 ∧ n = 0 ∧ CLO R R.1 f))) (fun n s rec2 hI hrec2 => ?_) _ (fb_sm (fun q => 2 - f0 q) 6 + 1) (1, N2) (by have := h12 f0; omega) ⟨f0, fun q hq => by rw [hf0]; exact h1 q hq, fun q _ => by rw [hf0]; show (if q = hd then 1 else 0) ≤ 2; split <;> omega, by rw [hf0]; show 1 ≤ if hd = hd then 1 else 0; rw [if_pos rfl]; exact Nat.le_refl _, hm0, hF2, Or.inl ⟨rfl, rfl⟩⟩
    obtain ⟨v, N5⟩ := s
    obtain ⟨f, hH, h2, hfd, hmin, hF, hc⟩ := hI
    have hH : HR N5 f := hH
    have hF5 : FR c17 N N5 := hF
    rw [fX10_reaches_L37_u]
    rcases hc with ⟨hv, hn'⟩ | ⟨hv, hn', hclo⟩
    · have hv : v = nI 1 := hv
      subst hv
      refine wp_neg (by decide) ?_
      refine wp_for (3 * R.1) (fun (i : Nat) (s : Int32 × Int32 × KS) => ∃ f' fl, s.1 = bI fl ∧ s.2.1 = nI i ∧ HR s.2.2 f' ∧ RPS R hd f f' fl i ∧ FR c17 N s.2.2) (fun i s rec3 hi hI hrec3 => ?_) (by omega) (i := 0) (s := ((0 : Int32), (0 : Int32), N5)) (Nat.zero_le _) ⟨f, false, rfl, rfl, hH, ⟨fun q hq => ⟨Nat.le_refl _, h2 q hq⟩, hfd, hmin, fun _ => ⟨fun _ _ => rfl, fun r j h => absurd h (Nat.not_lt_zero _)⟩, fun z => absurd z (by decide)⟩, hF5⟩
      obtain ⟨v8, v9, N10⟩ := s
      obtain ⟨f', fl, hv8, hv9, hH', hP, hF10⟩ := hI
      have hv8 : v8 = bI fl := hv8
      have hv9 : v9 = nI i := hv9
      subst hv8; subst hv9
      have hH' : HR N10 f' := hH'
      have hF10 : FR c17 N N10 := hF10
      have hR10 : MB (N10.1 1) R.1 R := hR.fr hF10 (by decide)
      have hn1 : N10.1 1 (216 : Int32).toNatClampNeg = nI R.1 := by rw [c216, hF10.1 1 (by decide)]; exact hn
      rw [fX10_reaches_L48_u, hn1, show (nI R.1 * 3 : Int32) = nI (3 * R.1) by rw [li3, pk_mul, Nat.mul_comm]]
      refine wp_pos (by decide) ?_
      rcases Nat.lt_or_ge i (3 * R.1) with hlt | hge
      · obtain ⟨r, j, hj, rfl⟩ : ∃ r j, j < 3 ∧ i = 3 * r + j := ⟨i / 3, i % 3, by omega, by omega⟩
        have hrm : r < R.1 := by omega
        have hO1 := hO r hrm
        have d1 : (nI (3 * r + j) / 3 : Int32) = nI r := by rw [li3, pk_div (by omega) (by decide) (by decide), show (3 * r + j) / 3 = r by omega]
        have d2 : jrem (nI (3 * r + j)) 3 = nI j := by rw [li3, jremN (by omega) (by decide) (by decide), show (3 * r + j) % 3 = j by omega]
        have e1 : (nI (3 * r + j) + 1 : Int32) = nI (3 * r + j + 1) := by rw [li1, nI_add]
        have hk6 := kr_lt (hO1.2 j hj)
        have hle2 := nvz_le2 (fun q hq => (hP.1 q hq).2) (hO1.2 j hj)
        rw [d1, d2, rcond_eq hR10 hrm hn10 hj]
        refine wp_neg (nI_ge hlt (by omega)) (wp_bind (wp_some (wp_jn ?_)))
        have key : ∀ w, w = nI (nvz f' (R.2.2 r j)) → wp (fX10_reaches_J114_100 (bI fl) (nI (3 * r + j)) N10 rec3 w) (fun a => ∃ f, RCH R R.1 hd f ∧ a.1 = bI (decide ((if a3 = 0 then 1 else 2) ≤ f t)) ∧ FR c17 N a.2) := by
          intro w hw
          subst hw
          unfold fX10_reaches_J114_100
          have hh6 := hO1.1
          have ih : inb (nI (R.2.1 r)) 6 := (inb_N (by omega)).mpr hh6
          have ch : (nI (R.2.1 r)).toNatClampNeg = R.2.1 r := nI_clamp (by omega)
          have hfh := (hP.1 _ hh6).2
          rw [d1, rhead_eq hR10 hrm hn10, e1]
          refine wp_bind (wp_some (wp_pos ih ?_))
          rw [ch, hH' _ hh6]
          by_cases q : nvz f' (R.2.2 r j) ≤ f' (R.2.1 r)
          · exact wp_pos (nI_le q (by omega)) (wp_nm (hrec3 _ hlt ⟨f', fl, rfl, rfl, hH', hP.keep hO1 hj q, hF10⟩))
          · refine wp_neg (nI_ge (show f' (R.2.1 r) < nvz f' (R.2.2 r j) by omega) (by omega)) (wp_bind (wp_some (wp_pos ih (wp_nm (wp_nm ?_)))))
            rw [ch]
            refine hrec3 _ hlt ⟨_, true, rfl, rfl, fun p hp => ?_, hP.raise hO1 hrm hj (by omega), hF10.set rfl⟩
            show (kset N10 17 (R.2.1 r) (nI (nvz f' (R.2.2 r j)))).1 17 p = _
            rw [kset_c]
            unfold updN
            by_cases e : p = R.2.1 r
            · rw [if_pos e, if_pos e]
            · rw [if_neg e, if_neg e]; exact hH' p hp
        have key2 : ∀ w b, w = nI b → b ≤ 2 → (if 0 < b ∧ R.2.2 r j < 0 then 2 else b) = nvz f' (R.2.2 r j) → wp (fX10_reaches_J96_79 (bI fl) (nI (3 * r + j)) N10 rec3 (R.2.2 r j) w) (fun a => ∃ f, RCH R R.1 hd f ∧ a.1 = bI (decide ((if a3 = 0 then 1 else 2) ≤ f t)) ∧ FR c17 N a.2) := by
          intro w b hw hb2 hb
          subst hw
          unfold fX10_reaches_J96_79
          refine wp_jn ?_
          rcases Nat.eq_zero_or_pos b with b0 | b0
          · refine wp_pos (by rw [b0]; decide) (key _ ?_)
            rw [← hb, if_neg (fun z => by omega)]
          · refine wp_neg (nI_nle b0 (by omega)) ?_
            by_cases q : R.2.2 r j < 0
            · refine wp_neg (c_neg q).2.2 (key _ ?_)
              rw [← hb, if_pos ⟨b0, q⟩]; rfl
            · refine wp_pos (fa_of_nlt q) (key _ ?_)
              rw [← hb, if_neg (fun z => q z.2)]
        by_cases h0 : R.2.2 r j = 0
        · refine wp_pos h0 (key2 _ 0 rfl (by decide) ?_)
          unfold nvz
          rw [if_pos h0]; rfl
        · refine wp_neg h0 ?_
          rw [rrel_eq (hO1.2 j hj) h0]
          refine wp_pos ((inb_N (by omega)).mpr hk6) ?_
          rw [show (nI (kr (R.2.2 r j))).toNatClampNeg = kr (R.2.2 r j) from nI_clamp (by omega)]
          refine key2 _ (f' (kr (R.2.2 r j))) (hH' _ hk6) (hP.1 _ hk6).2 ?_
          unfold nvz nwv
          rw [if_neg h0]
      · have : i = 3 * R.1 := by omega
        subst this
        refine wp_pos (nI_le (Nat.le_refl _) (by omega)) ?_
        rw [fX10_reaches_X48_u]
        have h2' : ∀ q, q < 6 → f' q ≤ 2 := fun q hq => (hP.1 q hq).2
        cases fl
        · refine hrec2 0 _ (by omega) ⟨f', hH', h2', hP.2.1, hP.2.2.1, hF10, Or.inr ⟨rfl, rfl, fun r hr j hj h0 => ?_⟩⟩
          have e3 := (hP.2.2.2.1 rfl).1
          have hO1 := hO r hr
          rw [e3 _ (kr_lt (hO1.2 j hj)), e3 _ hO1.1]
          exact (hP.2.2.2.1 rfl).2 r j (by omega) hj h0
        · obtain ⟨q, hq, hlt⟩ := hP.2.2.2.2 rfl
          have hlt2 := sm6_lt (A := fun q => 2 - f' q) (A' := fun q => 2 - f q) (fun q hq => by have := (hP.1 q hq).1; show 2 - f' q ≤ 2 - f q; omega) hq (by have := (hP.1 q hq).2; show 2 - f' q < 2 - f q; omega)
          exact hrec2 (fb_sm (fun q => 2 - f' q) 6 + 1) _ (by omega) ⟨f', hH', h2', hP.2.1, hP.2.2.1, hF10, Or.inl ⟨rfl, rfl⟩⟩
    · have hv : v = nI 0 := hv
      subst hv
      refine wp_pos rfl ?_
      unfold fX10_reaches_X37
      have ct : (nI t).toNatClampNeg = t := nI_clamp (by omega)
      refine wp_pos ((inb_N (by omega)).mpr ht) (wp_jn ?_)
      have h2t := h2 t ht
      have key : ∀ w b, w = nI b → b ≤ 2 → (if a3 = 0 then 1 else 2) = b → wp (fX10_reaches_J176_168 (nI t) N5 w) (fun a => ∃ f, RCH R R.1 hd f ∧ a.1 = bI (decide ((if a3 = 0 then 1 else 2) ≤ f t)) ∧ FR c17 N a.2) := by
        intro w b hw hb2 hb
        subst hw
        unfold fX10_reaches_J176_168
        rw [ct, hH t ht, hb]
        by_cases q : b ≤ f t
        · refine wp_neg (nI_nlt q (by omega)) (wp_some ⟨f, ⟨hfd, hclo, h2, hmin⟩, ?_, hF5⟩)
          rw [decide_eq_true q]; rfl
        · refine wp_pos (nI_lt (show f t < b by omega) (by omega)) (wp_some ⟨f, ⟨hfd, hclo, h2, hmin⟩, ?_, hF5⟩)
          rw [decide_eq_false q]; rfl
      by_cases e : a3 = 0
      · exact wp_pos e (key _ 1 rfl (by decide) (if_pos e))
      · exact wp_neg e (key _ 2 rfl (by decide) (if_neg e))
end RCQ
