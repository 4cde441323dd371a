/-! ===== the reference: how much a fact rests on; needs that are unlike ===== -/
section SZE
variable {N : KS} {R : RS} {X : DX} {A : Nat → Nat} {b : Nat} {T S : Nat → Bool}
abbrev c14 : Nat → Prop := fun q => q = 11 ∨ q = 12 ∨ q = 14
theorem c12_14 : ∀ a, c12 a → c14 a := fun a h => by rcases h with h | h; exact Or.inl h; exact Or.inr (Or.inl h)
theorem nar1 : vp_nar .boolean 1 = nI 1 := by decide
theorem nar0 : vp_nar .boolean 0 = nI 0 := by decide
/-- the middle of a pass over what a fact rests on -/
def SZM (N0 N1 : KS) (R : RS) (X : DX) (D D' : Nat → Bool) (fa : Nat) (f : Bool) (k p : Nat) : Prop :=
  (∀ q, q < 216 → N1.1 14 q = bI (D' q)) ∧ (∀ q, q < 216 → (D q = true → D' q = true) ∧ (D' q = true → X.2.2.2.2.2 fa q = true)) ∧ (f = true → fb_ct D 216 < fb_ct D' 216) ∧ (f = false → (∀ q, q < 216 → D' q = D q) ∧ ∀ q, q < 216 → D q = true → ∀ j, j < 3 → nq R X q j = true → (q < k ∨ (q = k ∧ fb_ct (nq R X q) j < p)) → D (nv R X q j) = true) ∧ FR c14 N0 N1
theorem size_wp (hX : RX N X) (hB : XB R X b) (hS : SX R X) (hR : MB (N.1 1) R.1 R) (hO : OKR R) {fa : Nat} (hfa : fa < 216) : wp (fX10_sizeOf N (nI fa)) (fun a => a.1 = nI (fb_ct (X.2.2.2.2.2 fa) 216) ∧ FR c14 N a.2) := by
  unfold fX10_sizeOf
  refine wp_for 216 (fun (i : Nat) (s : Int32 × KS) => s.1 = nI i ∧ (∀ q, q < i → s.2.1 14 q = bI (q == fa)) ∧ FR c14 N s.2) (fun i s rec hi hI hrec => ?_) (by decide) (Nat.zero_le _) ⟨rfl, fun q hq => absurd hq (Nat.not_lt_zero _), FR.rf⟩
  obtain ⟨v, N1⟩ := s
  obtain ⟨hv, h0, hF⟩ := hI
  have hv : v = nI i := hv
  subst hv
  have h0' : ∀ q, q < i → N1.1 14 q = bI (q == fa) := h0
  have hF1 : FR c14 N N1 := hF
  rw [fX10_sizeOf_L2_u]
  rcases Nat.lt_or_ge i 216 with hlt | hge
  · refine wp_neg (nI_ge hlt (by decide)) ?_
    have ck : (nI i).toNatClampNeg = i := nI_clamp (by omega)
    have key : ∀ bb : Bool, bb = (i == fa) → wp (rec (nI (i + 1), kset N1 14 i (bI bb))) (fun a => a.1 = nI (fb_ct (X.2.2.2.2.2 fa) 216) ∧ FR c14 N a.2) := fun bb hbb => by
      refine hrec _ hlt ⟨rfl, fun q hq => ?_, hF1.set (Or.inr (Or.inr rfl))⟩
      show (kset N1 14 i _).1 14 q = _
      rw [kset_c]
      by_cases e : q = i
      · rw [if_pos e, e, hbb]
      · rw [if_neg e]; exact h0' q (by omega)
    by_cases e : i = fa
    · refine wp_pos (congrArg nI e) (wp_pos ((inb_N (by omega)).mpr hlt) (wp_nm (wp_nm ?_)))
      rw [ck, nar1, li1, nI_add]
      exact key true (by rw [e]; exact (beq_self_eq_true fa).symm)
    · refine wp_neg (fun z => e ((nI_eq (by omega) (by omega)).mp z)) (wp_pos ((inb_N (by omega)).mpr hlt) (wp_nm (wp_nm ?_)))
      rw [ck, nar0, li1, nI_add]
      exact key false (beq_eq_false_iff_ne.mpr e).symm
  · have : i = 216 := by omega
    subst this
    refine wp_pos (nI_le (Nat.le_refl _) (by decide)) ?_
    unfold fX10_sizeOf_X2
    have hcf : ∀ D : Nat → Bool, fb_ct D 216 ≤ 216 := fun D => fb_ct_le D 216
    refine wp_lp (fun n (s : Int32 × KS) => ∃ D f, s.1 = bI f ∧ (∀ q, q < 216 → s.2.1 14 q = bI (D q)) ∧ (D fa = true ∧ ∀ q, q < 216 → D q = true → X.2.2.2.2.2 fa q = true) ∧ (f = false → ∀ q, q < 216 → D q = true → ∀ j, j < 3 → nq R X q j = true → D (nv R X q j) = true) ∧ FR c14 N s.2 ∧ n = if f then 216 - fb_ct D 216 + 1 else 0) (fun n s rec hI hrec2 => ?_) 1000000 (216 - fb_ct (fun q => q == fa) 216 + 1) _ (by omega) ⟨fun q => q == fa, true, rfl, fun q hq => h0' q hq, ⟨beq_self_eq_true fa, fun q hq h => by rw [beq_iff_eq.mp h]; exact cl_self hS hfa⟩, fun h => absurd h (by decide), hF1, rfl⟩
    obtain ⟨v, N2⟩ := s
    obtain ⟨D, f, hv, hD, hD1, hD2, hF2, hn⟩ := hI
    have hv : v = bI f := hv
    subst hv
    have hD' : ∀ q, q < 216 → N2.1 14 q = bI (D q) := hD
    have hF2' : FR c14 N N2 := hF2
    rw [fX10_sizeOf_L33_u]
    cases f
    · refine wp_pos rfl ?_
      unfold fX10_sizeOf_X33
      have heq : fb_ct (X.2.2.2.2.2 fa) 216 = fb_ct D 216 := fb_ct_cong (fun q hq => by
        cases h1 : D q
        · cases h2 : X.2.2.2.2.2 fa q
          · rfl
          · have := cl_least hS hO (hD2 rfl) _ fa q hfa hq (Nat.le_refl _) hD1.1 h2
            rw [h1] at this
            exact absurd this (by decide)
        · exact hD1.2 q hq h1)
      rw [heq]
      refine wp_eq (a := (nI (fb_ct D 216), N2)) (lp_run (fun i => (nI (fb_ct D i), nI i)) (e := 216) (by decide) (fun i rec hi => ?_) (fun rec => ?_)) ⟨rfl, hF2'⟩
      · show fX10_sizeOf_L136 N2 rec _ (nI _, nI i) = rec (nI (_ + if D i = true then 1 else 0), nI (i + 1))
        rw [fX10_sizeOf_L136_u]
        have h1 := hD' i hi
        cases e : D i
        · rw [e, bI_f] at h1
          simp (disch := omega) only [li0, li1, li2, li3, li4, li5, li6, li8, li9, li10, li11, li20, li21, li24, li32, li33, li36, li37, li40, li43, li45, li48, li53, li54, li57, li59, li60, li61, li63, li84, li97, li100, li102, li114, li120, li122, li216, li217, li257, li300, li1296, li1799, li2056, nI_add, pk_mul, nI_subN, pk_div, jremN, nI_leI, nI_ltI, nI_eq, nI_clamp, inb_N, if_pos, if_neg, if_true, if_false, nm, jn, bd2, Option.bind_some, h1, Bool.false_eq_true, Nat.add_zero]
        · rw [e, bI_t] at h1
          simp (disch := omega) only [li0, li1, li2, li3, li4, li5, li6, li8, li9, li10, li11, li20, li21, li24, li32, li33, li36, li37, li40, li43, li45, li48, li53, li54, li57, li59, li60, li61, li63, li84, li97, li100, li102, li114, li120, li122, li216, li217, li257, li300, li1296, li1799, li2056, nI_add, pk_mul, nI_subN, pk_div, jremN, nI_leI, nI_ltI, nI_eq, nI_clamp, inb_N, if_pos, if_neg, if_true, if_false, nm, jn, bd2, Option.bind_some, h1]
      · show fX10_sizeOf_L136 N2 rec _ (nI _, nI 216) = some (nI _, N2)
        rw [fX10_sizeOf_L136_u]
        simp (disch := omega) only [li0, li1, li2, li3, li4, li5, li6, li8, li9, li10, li11, li20, li21, li24, li32, li33, li36, li37, li40, li43, li45, li48, li53, li54, li57, li59, li60, li61, li63, li84, li97, li100, li102, li114, li120, li122, li216, li217, li257, li300, li1296, li1799, li2056, nI_add, pk_mul, nI_subN, pk_div, jremN, nI_leI, nI_ltI, nI_eq, nI_clamp, inb_N, if_pos, if_neg, if_true, if_false, nm, jn, bd2, Option.bind_some, fX10_sizeOf_X136]
    · refine wp_neg (show ¬ bI true = 0 by decide) ?_
      rw [if_pos rfl] at hn
      refine wp_for 216 (fun (k : Nat) (s : Int32 × Int32 × KS) => ∃ D' f, s.1 = bI f ∧ s.2.1 = nI k ∧ SZM N s.2.2 R X D D' fa f k 0) (fun k s rec3 hk hI2 hrec3 => ?_) (by decide) (Nat.zero_le _) ⟨D, false, rfl, rfl, hD', fun q hq => ⟨fun h => h, hD1.2 q hq⟩, fun h => absurd h (by decide), fun _ => ⟨fun _ _ => rfl, fun q hq _ j hj hqj h => by rcases h with h | ⟨_, h⟩; exact absurd h (Nat.not_lt_zero _); exact absurd h (Nat.not_lt_zero _)⟩, hF2'⟩
      obtain ⟨v, w, N3⟩ := s
      obtain ⟨D3, f3, hv, hw, hM3⟩ := hI2
      have hv : v = bI f3 := hv
      subst hv
      have hw : w = nI k := hw
      subst hw
      have hM3' : SZM N N3 R X D D3 fa f3 k 0 := hM3
      rw [fX10_sizeOf_L41_u]
      rcases Nat.lt_or_ge k 216 with hkl | hkg
      · refine wp_neg (nI_ge hkl (by decide)) (wp_pos ((inb_N (by omega)).mpr hkl) (wp_jn ?_))
        have hF3 := hM3'.2.2.2.2
        have ck : (nI k).toNatClampNeg = k := nI_clamp (by omega)
        have hdk3 := hM3'.1 k hkl
        by_cases hk3 : D3 k = true
        · refine wp_neg (by rw [ck, hdk3, hk3]; decide) ?_
          refine wp_bd2 (wp_mono (rneeds_wp (hX.fr hF3 (by decide) (by decide) (by decide)) hB (hR.fr hF3 (by decide)) hO hkl) ?_)
          rintro ⟨v13, N4⟩ ⟨hv13, hnd, hF4⟩
          have hv13 : v13 = nI (fb_ct (nq R X k) 3) := hv13
          subst hv13
          have hnd' : NDS N4 R X k := hnd
          have hF4' : FR c12 N3 N4 := hF4
          have hm3 := fb_ct_le (nq R X k) 3
          have e14 : N4.1 14 = N3.1 14 := hF4'.1 14 (by decide)
          show wp (fX10_sizeOf_J66_54 (bI f3) (nI k) rec3 (nI (fb_ct (nq R X k) 3), N4)) _
          unfold fX10_sizeOf_J66_54
          refine wp_for (fb_ct (nq R X k) 3) (fun (p : Nat) (s : Int32 × Int32 × KS) => ∃ D' f, s.1 = bI f ∧ s.2.1 = nI p ∧ D' k = true ∧ NDS s.2.2 R X k ∧ SZM N s.2.2 R X D D' fa f k p) (fun p s rec4 hp hI3 hrec4 => ?_) (by omega) (Nat.zero_le _) ⟨D3, f3, rfl, rfl, hk3, hnd', fun q hq => by show N4.1 14 q = _; rw [e14]; exact hM3'.1 q hq, hM3'.2.1, hM3'.2.2.1, hM3'.2.2.2.1, hF3.tr (hF4'.wk c12_14)⟩
          obtain ⟨v, w, N5⟩ := s
          obtain ⟨D5, f5, hv, hw, hk5, hnd5, hM5⟩ := hI3
          have hv : v = bI f5 := hv
          subst hv
          have hw : w = nI p := hw
          subst hw
          have hnd5' : NDS N5 R X k := hnd5
          have hM5' : SZM N N5 R X D D5 fa f5 k p := hM5
          rw [fX10_sizeOf_L71_u]
          rcases Nat.lt_or_ge p (fb_ct (nq R X k) 3) with hpl | hpg
          · refine wp_neg (nI_ge hpl (by omega)) (wp_jn ?_)
            obtain ⟨j, hj, hqj, hpj⟩ := fb_ct_kth hpl
            have hnv := nv_lt hS hO hkl hj hqj
            have hd5 := hnd5' j hj hqj
            rw [hpj] at hd5
            have hdn := hM5'.1 _ hnv
            have ip : inb (nI p) 3 := (inb_N (by omega)).mpr (by omega)
            have iv : inb (nI (nv R X k j)) 216 := (inb_N (by omega)).mpr hnv
            have cp : (nI p).toNatClampNeg = p := nI_clamp (by omega)
            have cv : (nI (nv R X k j)).toNatClampNeg = nv R X k j := nI_clamp (by omega)
            have hcl : X.2.2.2.2.2 fa (nv R X k j) = true := cl_need hS hO hfa hkl hj ((hM5'.2.1 k hkl).2 hk5) hqj
            have key : ∀ f6 : Bool, f6 = (f5 || !D5 (nv R X k j)) → wp (fX10_sizeOf_J102_79 (nI p) N5 rec4 (bI f6)) (fun a => a.1 = nI (fb_ct (X.2.2.2.2.2 fa) 216) ∧ FR c14 N a.2) := by
              intro f6 hf6
              unfold fX10_sizeOf_J102_79
              simp only [cp, hd5, cv]
              refine wp_pos ip (wp_pos iv (wp_nm (wp_nm ?_)))
              rw [nar1, li1, nI_add]
              have hup : ∀ q, D5 q = true → (D5 q || q == nv R X k j) = true := fun q h => by rw [h]; rfl
              refine hrec4 _ hpl ⟨fun q => D5 q || q == nv R X k j, f6, rfl, rfl, hup k hk5, fun j' hj' hqj' => ?_, fun q hq => ?_, fun q hq => ⟨fun h => hup q ((hM5'.2.1 q hq).1 h), fun h => ?_⟩, fun h => ?_, fun h => ?_, hM5'.2.2.2.2.set (Or.inr (Or.inr rfl))⟩
              · show (kset N5 14 _ _).1 12 _ = _
                rw [kset_nc (by decide)]
                exact hnd5' j' hj' hqj'
              · show (kset N5 14 _ _).1 14 q = bI (D5 q || q == nv R X k j)
                rw [kset_c]
                by_cases e : q = nv R X k j
                · rw [if_pos e, e, beq_self_eq_true, Bool.or_true]; rfl
                · rw [if_neg e, show (q == nv R X k j) = false from beq_eq_false_iff_ne.mpr e, Bool.or_false]
                  exact hM5'.1 q hq
              · simp only [Bool.or_eq_true, beq_iff_eq] at h
                rcases h with h | h
                · exact (hM5'.2.1 q hq).2 h
                · rw [h]; exact hcl
              · rw [h] at hf6
                cases f5
                · have hnd0 : D5 (nv R X k j) = false := by
                    cases e : D5 (nv R X k j)
                    · rfl
                    · rw [e] at hf6; exact absurd hf6 (by decide)
                  have h1 := (hM5'.2.2.2.1 rfl).1
                  have h2 : fb_ct D 216 = fb_ct D5 216 := fb_ct_cong (fun q hq => (h1 q hq).symm)
                  rw [h2]
                  exact ct_more (fun q _ h => hup q h) hnv hnd0 (by rw [beq_self_eq_true, Bool.or_true])
                · have h1 := hM5'.2.2.1 rfl
                  have h2 : fb_ct D5 216 ≤ fb_ct (fun q => D5 q || q == nv R X k j) 216 := fb_ct_sub (fun q _ h => hup q h)
                  exact Nat.lt_of_lt_of_le h1 h2
              · rw [h] at hf6
                cases f5
                · have hnd0 : D5 (nv R X k j) = true := by
                    cases e : D5 (nv R X k j)
                    · rw [e] at hf6; exact absurd hf6 (by decide)
                    · rfl
                  have hold := hM5'.2.2.2.1 rfl
                  refine ⟨fun q hq => ?_, fun q hq hDq j' hj' hqj' h => ?_⟩
                  · show (D5 q || q == nv R X k j) = D q
                    rw [← hold.1 q hq]
                    by_cases e : q = nv R X k j
                    · rw [e, hnd0]; rfl
                    · rw [show (q == nv R X k j) = false from beq_eq_false_iff_ne.mpr e, Bool.or_false]
                  · rcases h with h | ⟨h, h2⟩
                    · exact hold.2 q hq hDq j' hj' hqj' (Or.inl h)
                    · by_cases e : fb_ct (nq R X q) j' = p
                      · subst h
                        have : j' = j := fb_ct_kth_one hqj' hqj (by rw [e, hpj])
                        subst this
                        rw [← hold.1 _ hnv]
                        exact hnd0
                      · exact hold.2 q hq hDq j' hj' hqj' (Or.inr ⟨h, by omega⟩)
                · rw [Bool.true_or] at hf6; exact absurd hf6 (by decide)
            cases f5
            · refine wp_pos rfl (wp_pos ip ?_)
              simp only [cp, hd5, cv, hdn]
              refine wp_pos iv ?_
              cases e : D5 (nv R X k j)
              · refine wp_pos rfl (key true (by rw [e]; rfl))
              · refine wp_neg (by decide) (key false (by rw [e]; rfl))
            · exact wp_neg (by decide) (key true (by rw [Bool.true_or]))
          · have : p = fb_ct (nq R X k) 3 := by omega
            subst this
            refine wp_pos (nI_le (Nat.le_refl _) (by omega)) ?_
            unfold fX10_sizeOf_X71
            refine wp_nm ?_
            rw [li1, nI_add]
            refine hrec3 _ hkl ⟨D5, f5, rfl, rfl, hM5'.1, hM5'.2.1, hM5'.2.2.1, fun hf => ⟨(hM5'.2.2.2.1 hf).1, fun q hq hDq j' hj' hqj' h => ?_⟩, hM5'.2.2.2.2⟩
            refine (hM5'.2.2.2.1 hf).2 q hq hDq j' hj' hqj' ?_
            rcases h with h | ⟨_, h⟩
            · by_cases e : q = k
              · refine Or.inr ⟨e, ?_⟩
                rw [← e]
                have m1 : fb_ct (nq R X q) (j' + 1) ≤ fb_ct (nq R X q) 3 := fb_ct_mono _ (by omega)
                have m2 : fb_ct (nq R X q) (j' + 1) = fb_ct (nq R X q) j' + (if nq R X q j' = true then 1 else 0) := rfl
                rw [hqj', if_pos rfl] at m2
                omega
              · exact Or.inl (by omega)
            · exact absurd h (Nat.not_lt_zero _)
        · have hk3' : D3 k = false := by simpa using hk3
          refine wp_pos (by rw [ck, hdk3, hk3']; rfl) ?_
          show wp (fX10_sizeOf_J66_54 (bI f3) (nI k) rec3 (0, N3)) _
          unfold fX10_sizeOf_J66_54
          show wp (lp (fX10_sizeOf_L71 0) (fX10_sizeOf_X71 (nI k) rec3) 1000000 (bI f3, 0, N3)) _
          refine wp_lp (fun _ s => s = (bI f3, nI 0, N3)) (fun n s rec4 hs _ => ?_) _ 0 _ (by decide) rfl
          subst hs
          rw [fX10_sizeOf_L71_u]
          refine wp_pos (by decide) ?_
          unfold fX10_sizeOf_X71
          refine wp_nm ?_
          rw [li1, nI_add]
          refine hrec3 _ hkl ⟨D3, f3, rfl, rfl, hM3'.1, hM3'.2.1, hM3'.2.2.1, fun hf => ⟨(hM3'.2.2.2.1 hf).1, fun q hq hDq j' hj' hqj' h => ?_⟩, hM3'.2.2.2.2⟩
          have h1 := hM3'.2.2.2.1 hf
          rcases h with h | ⟨_, h⟩
          · by_cases e : q = k
            · rw [e, ← h1.1 k hkl, hk3'] at hDq
              exact absurd hDq (by decide)
            · exact h1.2 q hq hDq j' hj' hqj' (Or.inl (by omega))
          · exact absurd h (Nat.not_lt_zero _)
      · have : k = 216 := by omega
        subst this
        refine wp_pos (nI_le (Nat.le_refl _) (by decide)) ?_
        unfold fX10_sizeOf_X41
        have hc3 := hcf D3
        refine hrec2 (if f3 then 216 - fb_ct D3 216 + 1 else 0) _ ?_ ⟨D3, f3, rfl, hM3'.1, ⟨(hM3'.2.1 fa hfa).1 hD1.1, fun q hq => (hM3'.2.1 q hq).2⟩, fun hf q hq hDq j hj hqj => ?_, hM3'.2.2.2.2, rfl⟩
        · cases f3
          · rw [if_neg (by decide)]; omega
          · rw [if_pos rfl]
            have := hM3'.2.2.1 rfl
            omega
        · have h1 := hM3'.2.2.2.1 hf
          rw [h1.1 _ (nv_lt hS hO hq hj hqj)]
          exact h1.2 q hq (by rw [← h1.1 q hq]; exact hDq) j hj hqj (Or.inl hq)
end SZE
