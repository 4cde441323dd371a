/-! ===== ten rules and one more; wouldLayer ===== -/
/-- a condition that lets rules be layered -/
def okc (f : Nat → Nat) (c : Int32) : Bool := decide (c = 0) || decide (f (kr c) + wt c ≤ 1)
def okp (f : Nat → Nat) (cs : Nat → Int32) : Nat → Bool
  | 0 => true
  | k + 1 => okp f cs k && okc f (cs k)
theorem nb1 : ¬ bI true = 0 := by decide
theorem ni1 : ¬ (1 : Int32) = 0 := by decide
section LWI
variable {R : RS} {hd : Nat} {cs : Nat → Int32} {f : Nat → Nat} {N : KS} {s : ST}
theorem okp_3 : okp f cs 3 = true ↔ ∀ j, j < 3 → cs j ≠ 0 → f (kr (cs j)) + wt (cs j) ≤ 1 := by
  have e : okp f cs 3 = (((true && okc f (cs 0)) && okc f (cs 1)) && okc f (cs 2)) := rfl
  rw [e]
  unfold okc
  simp only [Bool.and_eq_true, Bool.or_eq_true, decide_eq_true_eq, true_and]
  constructor
  · intro h j hj h0
    rcases (show j = 0 ∨ j = 1 ∨ j = 2 by omega) with rfl | rfl | rfl
    · exact h.1.1.resolve_left h0
    · exact h.1.2.resolve_left h0
    · exact h.2.resolve_left h0
  · intro h
    have g : ∀ j, j < 3 → cs j = 0 ∨ f (kr (cs j)) + wt (cs j) ≤ 1 := fun j hj => by
      by_cases e : cs j = 0
      · exact Or.inl e
      · exact Or.inr (h j hj e)
    exact ⟨⟨g 0 (by decide), g 1 (by decide)⟩, g 2 (by decide)⟩
/-- one search, with its answer by the relations that are reached -/
theorem reach1_wp (hf : RCH R R.1 hd f) (hn : N.1 1 216 = nI R.1) (hn10 : R.1 ≤ 10) (hR : MB (N.1 1) R.1 R) (hO : ∀ r, r < R.1 → OK1 R r) (hd6 : hd < 6) {t : Nat} (ht : t < 6) (a3 : Int32) : wp (fX10_reaches N (nI hd) (nI t) a3) (fun a => a.1 = bI (decide ((if a3 = 0 then 1 else 2) ≤ f t)) ∧ FR c17 N a.2) := by
  refine wp_mono (reaches_wp hn hn10 hR hO hd6 ht a3) ?_
  rintro a ⟨g, hg, h1, h2⟩
  rw [hf.one hg t ht]
  exact ⟨h1, h2⟩
theorem twice_wp (hf : RCH R R.1 hd f) (hn : N.1 1 216 = nI R.1) (hn10 : R.1 ≤ 10) (hR : MB (N.1 1) R.1 R) (hO : ∀ r, r < R.1 → OK1 R r) (hd6 : hd < 6) (hV : VC cs) {F : Nat → Int32} (hF : ∀ j, j < 3 → F j = cs j) (hok : ∀ j, j < 3 → cs j ≠ 0 → f (kr (cs j)) + wt (cs j) ≤ 1) : wp (fX10_twice N (nI hd) F) (fun a => a.1 = 0 ∧ FR c17 N a.2) := by
  unfold fX10_twice
  refine wp_for 3 (fun (i : Nat) (s : Int32 × Int32 × Int32 × KS) => s.2.1 = 0 ∧ s.2.2.1 = nI i ∧ FR c17 N s.2.2.2) (fun i s rec hi hI hrec => ?_) (by decide) (Nat.zero_le _) ⟨rfl, rfl, FR.rf⟩
  obtain ⟨v1, v2, v3, N4⟩ := s
  obtain ⟨hv2, hv3, hF4⟩ := hI
  have hv2 : v2 = 0 := hv2
  have hv3 : v3 = nI i := hv3
  subst hv2; subst hv3
  have hF4 : FR c17 N N4 := hF4
  rw [fX10_twice_L16_u]
  rcases Nat.lt_or_ge i 3 with hlt | hge
  · have ci : (nI i).toNatClampNeg = i := nI_clamp (by omega)
    have e1 : (nI i + 1 : Int32) = nI (i + 1) := by rw [li1, nI_add]
    refine wp_neg (nI_ge hlt (by decide)) (wp_pos ((inb_N (by omega)).mpr hlt) (wp_nm (wp_jn ?_)))
    rw [ci, hF i hlt]
    have key : ∀ v9 N10, (v9 = 0 ∨ ¬ cs i < 0) → FR c17 N N10 → wp (fX10_twice_J54_32 v1 0 (nI i) rec (cs i) (v9, N10)) (fun a => a.1 = 0 ∧ FR c17 N a.2) := by
      intro v9 N10 h9 hF10
      rw [fX10_twice_J54_32_u]
      refine wp_jn ?_
      have key2 : ∀ v11, wp (fX10_twice_J70_57 0 (nI i) rec (cs i) v9 N10 v11) (fun a => a.1 = 0 ∧ FR c17 N a.2) := by
        intro v11
        unfold fX10_twice_J70_57
        rw [e1]
        refine wp_pos rfl (wp_ite (fun _ => wp_nm (hrec _ hlt ⟨rfl, rfl, hF10⟩)) (fun h0 => wp_ite (fun _ => wp_nm (hrec _ hlt ⟨rfl, rfl, hF10⟩)) (fun hneg => ?_)))
        rcases h9 with h9 | h9
        · exact absurd h9 h0
        · exact absurd (fa_of_nlt h9) hneg
      exact wp_ite (fun _ => wp_ite (fun _ => key2 0) (fun _ => key2 1)) (fun _ => key2 1)
    by_cases h0 : cs i = 0
    · exact wp_pos h0 (key _ _ (Or.inl rfl) hF4)
    · refine wp_neg h0 ?_
      rw [rrel_eq (hV.ka hlt) h0]
      refine wp_bd2 (wp_mono (reach1_wp (N := N4) hf (by rw [hF4.1 1 (by decide)]; exact hn) hn10 (hR.fr hF4 (by decide)) hO hd6 (kr_lt (hV.ka hlt)) 0) ?_)
      rintro ⟨v17, N16⟩ ⟨h17, hF16⟩
      have h17 : v17 = bI (decide (1 ≤ f (kr (cs i)))) := h17
      subst h17
      have hF16 : FR c17 N4 N16 := hF16
      have hk := hok i hlt h0
      by_cases q : 1 ≤ f (kr (cs i))
      · rw [decide_eq_true q]
        refine wp_neg nb1 (key _ _ (Or.inr (fun z => ?_)) (hF4.tr hF16))
        unfold wt at hk
        rw [if_pos z] at hk
        omega
      · rw [decide_eq_false q]
        exact wp_pos rfl (key _ _ (Or.inl rfl) (hF4.tr hF16))
  · have : i = 3 := by omega
    subst this
    refine wp_pos (nI_le (Nat.le_refl _) (by decide)) ?_
    rw [fX10_twice_X16_u]
    exact wp_ite (fun _ => wp_some ⟨rfl, hF4⟩) (fun _ => wp_pos rfl (wp_some ⟨rfl, hF4⟩))
theorem lwith_wp (hf : RCH R R.1 hd f) (hn : N.1 1 216 = nI R.1) (hn10 : R.1 ≤ 10) (hR : MB (N.1 1) R.1 R) (hO : ∀ r, r < R.1 → OK1 R r) (hd6 : hd < 6) (hV : VC cs) {F : Nat → Int32} (hF : ∀ j, j < 3 → F j = cs j) : wp (fX10_layersWith N (nI hd) F) (fun a => a.1 = bI (okp f cs 3) ∧ FR c17 N a.2) := by
  unfold fX10_layersWith
  refine wp_for 3 (fun (i : Nat) (s : Int32 × Int32 × KS) => s.1 = bI (okp f cs i) ∧ s.2.1 = nI i ∧ FR c17 N s.2.2) (fun i s rec hi hI hrec => ?_) (by decide) (Nat.zero_le _) ⟨rfl, rfl, FR.rf⟩
  obtain ⟨v1, v2, N3⟩ := s
  obtain ⟨hv1, hv2, hF3⟩ := hI
  have hv1 : v1 = bI (okp f cs i) := hv1
  have hv2 : v2 = nI i := hv2
  subst hv1; subst hv2
  have hF3 : FR c17 N N3 := hF3
  rw [fX10_layersWith_L13_u]
  rcases Nat.lt_or_ge i 3 with hlt | hge
  · have ci : (nI i).toNatClampNeg = i := nI_clamp (by omega)
    have e1 : (nI i + 1 : Int32) = nI (i + 1) := by rw [li1, nI_add]
    have hs : okp f cs (i + 1) = (okp f cs i && okc f (cs i)) := rfl
    refine wp_neg (nI_ge hlt (by decide)) (wp_pos ((inb_N (by omega)).mpr hlt) (wp_nm ?_))
    rw [ci, hF i hlt, e1]
    by_cases h0 : cs i = 0
    · refine wp_pos h0 (wp_nm (hrec _ hlt ⟨?_, rfl, hF3⟩))
      rw [hs, show okc f (cs i) = true by unfold okc; rw [decide_eq_true h0, Bool.true_or], Bool.and_true]
    · refine wp_neg h0 ?_
      have hk6 := kr_lt (hV.ka hlt)
      have h2 := hf.2.2.1 _ hk6
      have hw := wt_le (cs i)
      have hoc : okc f (cs i) = decide (f (kr (cs i)) + wt (cs i) ≤ 1) := by unfold okc; rw [decide_eq_false h0, Bool.false_or]
      rw [rrel_eq (hV.ka hlt) h0]
      refine wp_bd2 (wp_mono (reach1_wp (N := N3) hf (by rw [hF3.1 1 (by decide)]; exact hn) hn10 (hR.fr hF3 (by decide)) hO hd6 hk6 0) ?_)
      rintro ⟨v11, N10⟩ ⟨h11, hF10⟩
      have h11 : v11 = bI (decide (1 ≤ f (kr (cs i)))) := h11
      subst h11
      have hG10 : FR c17 N N10 := hF3.tr hF10
      refine wp_bd2 (wp_mono (reach1_wp (N := N10) hf (by rw [hG10.1 1 (by decide)]; exact hn) hn10 (hR.fr hG10 (by decide)) hO hd6 hk6 1) ?_)
      rintro ⟨v13, N12⟩ ⟨h13, hF12⟩
      have h13 : v13 = bI (decide (2 ≤ f (kr (cs i)))) := h13
      subst h13
      have hG12 : FR c17 N N12 := hG10.tr hF12
      refine wp_jn ?_
      have fin : ∀ b : Bool, b = okp f cs (i + 1) → wp (rec (bI b, nI (i + 1), N12)) (fun a => a.1 = bI (okp f cs 3) ∧ FR c17 N a.2) := fun b hb => hrec _ hlt ⟨by rw [hb], rfl, hG12⟩
      have k0 : okp f cs (i + 1) = false → wp (fX10_layersWith_J82_59 (nI i) rec (cs i) (bI (decide (1 ≤ f (kr (cs i))))) (bI (decide (2 ≤ f (kr (cs i))))) N12 0) (fun a => a.1 = bI (okp f cs 3) ∧ FR c17 N a.2) := fun h => by
        unfold fX10_layersWith_J82_59
        rw [e1]
        exact wp_pos rfl (wp_nm (fin false h.symm))
      cases hp : okp f cs i
      · exact wp_pos rfl (k0 (by rw [hs, hp]; rfl))
      · refine wp_neg (by decide) ?_
        have hs2 : okp f cs (i + 1) = decide (f (kr (cs i)) + wt (cs i) ≤ 1) := by rw [hs, hp, hoc, Bool.true_and]
        by_cases q2 : 2 ≤ f (kr (cs i))
        · refine wp_neg (by rw [decide_eq_true q2]; exact nb1) (k0 (by rw [hs2, decide_eq_false (by omega)]))
        · refine wp_pos (by rw [decide_eq_false q2]; rfl) ?_
          have k1 : okp f cs (i + 1) = true → wp (fX10_layersWith_J82_59 (nI i) rec (cs i) (bI (decide (1 ≤ f (kr (cs i))))) (bI (decide (2 ≤ f (kr (cs i))))) N12 1) (fun a => a.1 = bI (okp f cs 3) ∧ FR c17 N a.2) := fun h => by
            unfold fX10_layersWith_J82_59
            rw [e1]
            refine wp_neg (by decide) (wp_ite (fun _ => wp_nm (fin true h.symm)) (fun _ => wp_ite (fun _ => wp_nm (fin true h.symm)) (fun _ => wp_pos (by rw [decide_eq_false q2]; rfl) (wp_nm (fin true h.symm)))))
          by_cases q1 : 1 ≤ f (kr (cs i))
          · refine wp_neg (by rw [decide_eq_true q1]; exact nb1) ?_
            by_cases hneg : cs i < 0
            · refine wp_pos hneg (k0 ?_)
              rw [hs2]
              unfold wt
              rw [if_pos hneg, decide_eq_false (by omega)]
            · refine wp_neg hneg (k1 ?_)
              rw [hs2]
              unfold wt
              rw [if_neg hneg, decide_eq_true (by omega)]
          · exact wp_pos (by rw [decide_eq_false q1]; rfl) (k1 (by rw [hs2, decide_eq_true (by omega)]))
  · have : i = 3 := by omega
    subst this
    refine wp_pos (nI_le (Nat.le_refl _) (by decide)) ?_
    rw [fX10_layersWith_X13_u]
    cases hp : okp f cs 3
    · exact wp_pos rfl (wp_some ⟨rfl, hF3⟩)
    · refine wp_neg (by decide) (wp_bd2 (wp_mono (twice_wp (N := N3) hf (by rw [hF3.1 1 (by decide)]; exact hn) hn10 (hR.fr hF3 (by decide)) hO hd6 hV hF (okp_3.mp hp)) ?_))
      rintro ⟨v, N4⟩ ⟨hv, hF4⟩
      have hv : v = 0 := hv
      subst hv
      exact wp_pos rfl (wp_some ⟨rfl, hF3.tr hF4⟩)
/-! wouldLayer, in the reference -/
theorem wl_back {Nx : KS} (h : ∀ k, k < 257 → Nx.1 16 k = N.1 1 k) (h0 : ∀ j, j ≠ 6 → Nx.1 0 j = N.1 0 j) (hf : ∀ a, (a = 3 ∨ a = 4 ∨ a = 18 ∨ a = 19) → Nx.1 a = N.1 a) (hM : MDs (N.1 1) s) (hn : s.2.1 ≤ 10) : NF N (kcpy Nx 16 1 0 0 257) ∧ MDs ((kcpy Nx 16 1 0 0 257).1 1) s ∧ (kcpy Nx 16 1 0 0 257).1 0 6 = Nx.1 0 6 := by
  have h257 : (257 : Int32).toNatClampNeg = 257 := by decide
  have z0 : (0 : Int32).toNatClampNeg = 0 := by decide
  refine ⟨⟨fun a ha => ?_, fun j hj => ?_⟩, hM.cong hn (fun k hk => ?_), ?_⟩
  · rw [kcpy_nc (by omega)]; exact hf a ha
  · rw [kcpy_nc (by decide)]; exact h0 j (by omega)
  · rw [kcpy_eq, z0, h257, pk_cpy_in (Nat.zero_le _) (by omega), Nat.zero_add, Nat.sub_zero]
    exact (h k hk).symm
  · rw [kcpy_nc (by decide)]
theorem rwould_n {a1 a2 a3 a4 v : Int32} (hO : OKR s.2) (hM : MDs (N.1 1) s) (hb : ∀ N, fX10_writes N a1 a2 a3 a4 = some (0, N)) : wp (fX10_wouldLayer N a1 a2 a3 a4) (NQ N s 1 v) := by
  have h257 : (257 : Int32).toNatClampNeg = 257 := by decide
  have z0 : (0 : Int32).toNatClampNeg = 0 := by decide
  unfold fX10_wouldLayer
  refine wp_pos (by decide) (wp_nm ?_)
  rw [hb]
  refine wp_bd2 (wp_some (wp_pos rfl (wp_nm (wp_neg (by show ¬ (kset (kcpy N 1 16 0 0 257) 0 6 1).1 0 6 = 0; rw [k06]; decide) (wp_pos (by decide) (wp_nm (wp_some ?_)))))))
  have hb := wl_back (Nx := kset (kcpy N 1 16 0 0 257) 0 6 1) (fun k hk => by rw [kset_nc (by decide), kcpy_eq, z0, h257, pk_cpy_in (Nat.zero_le _) (by omega), Nat.zero_add, Nat.sub_zero]) (fun j hj => by rw [kset_c, if_neg hj, kcpy_nc (by decide)]) (fun a ha => by rw [kset_nc (by omega), kcpy_nc (by omega)]) hM hO.1
  exact ⟨by show (kcpy _ 16 1 0 0 257).1 0 6 = 1; rw [hb.2.2, k06], fun h => absurd h (by decide), hb.1, hb.2.1⟩
theorem rwould_wp (hO : OKR s.2) (hM : MDs (N.1 1) s) (hd6 : hd < 6) (hV : VC cs) (hW : ∀ N, fX10_writes N (nI hd) (cs 0) (cs 1) (cs 2) = fX10_writes_J70_60 N (nI hd) (cs 0) (cs 1) (cs 2) ()) {b : Bool} (hb : b = true ↔ LYD (addR s.2 hd cs) (s.2.1 + 1)) : wp (fX10_wouldLayer N (nI hd) (cs 0) (cs 1) (cs 2)) (NQ N s 0 (bI b)) := by
  have hn := hO.1
  have h257 : (257 : Int32).toNatClampNeg = 257 := by decide
  have c216 : (216 : Int32).toNatClampNeg = 216 := by decide
  have z0 : (0 : Int32).toNatClampNeg = 0 := by decide
  unfold fX10_wouldLayer
  refine wp_pos (by decide) (wp_nm ?_)
  rw [hW]
  obtain ⟨N1, hN1⟩ : ∃ N1, N1 = kcpy N 1 16 0 0 257 := ⟨_, rfl⟩
  rw [← hN1]
  have h16 : ∀ k, k < 257 → N1.1 16 k = N.1 1 k := fun k hk => by rw [hN1, kcpy_eq, z0, h257, pk_cpy_in (Nat.zero_le _) (by omega), Nat.zero_add, Nat.sub_zero]
  have ho : ∀ a, a ≠ 16 → N1.1 a = N.1 a := fun a ha => by rw [hN1]; exact kcpy_nc ha
  refine wp_bd2 (wp_mono (rwrites_wp (N := N1) (by rw [ho 1 (by decide)]; exact hM) hn) ?_)
  rintro ⟨v, N2⟩ ⟨hv, hB, hM2, hF2⟩
  have hv : v = 1 := hv
  subst hv
  have hB : s.2.1 < 10 → MB (N2.1 1) (s.2.1 + 1) (addR s.2 hd cs) := hB
  have hM2 : MDs (N2.1 1) s := hM2
  have hF2 : FR cW1 N1 N2 := hF2
  refine wp_neg ni1 (wp_nm (wp_pos k06 (wp_pos (by decide) ?_)))
  obtain ⟨N12, h12⟩ : ∃ N12, N12 = kset N2 0 6 0 := ⟨_, rfl⟩
  show wp (if 10 ≤ (kset N2 0 6 0).1 1 (216 : Int32).toNatClampNeg then _ else _) _
  rw [← h12]
  have o12 : ∀ a, a ≠ 0 → N12.1 a = N2.1 a := fun a ha => by rw [h12]; exact kset_nc ha
  have h216 : N12.1 1 216 = nI s.2.1 := by rw [o12 1 (by decide)]; exact hM2.2.1
  have h216' : N12.1 1 (216 : Int32).toNatClampNeg = nI s.2.1 := by rw [c216]; exact h216
  have b16 : ∀ k, k < 257 → N12.1 16 k = N.1 1 k := fun k hk => by rw [o12 16 (by decide), hF2.1 16 (by decide)]; exact h16 k hk
  have b0 : ∀ j, j ≠ 6 → N12.1 0 j = N.1 0 j := fun j hj => by rw [h12, kset_c, if_neg hj, hF2.1 0 (by decide), ho 0 (by decide)]
  have bf : ∀ a, (a = 3 ∨ a = 4 ∨ a = 18 ∨ a = 19) → N12.1 a = N.1 a := fun a ha => by rw [o12 a (by omega), hF2.1 a (by omega), ho a (by omega)]
  have b6 : N12.1 0 6 = 0 := by rw [h12]; exact k06
  rw [h216']
  by_cases h10 : s.2.1 < 10
  · refine wp_neg (nI_ge h10 (by decide)) (wp_pos (by decide) ?_)
    rw [show (nI s.2.1 + 1 : Int32) = nI (s.2.1 + 1) by rw [li1, nI_add]]
    refine wp_bd2 (wp_mono (rlay_wp (R := addR s.2 hd cs) (m := s.2.1 + 1) (by omega) (addR_ok1 hO.ok hd6 hV) (by rw [o12 1 (by decide)]; exact hB h10)) ?_)
    rintro ⟨v, N17⟩ ⟨h, hF⟩
    have hF : FR c5 N12 N17 := hF
    have hk := wl_back (N := N) (Nx := N17) (fun k hk => by rw [hF.1 16 (by decide)]; exact b16 k hk) (fun j hj => by rw [hF.1 0 (by decide)]; exact b0 j hj) (fun a ha => by rw [hF.1 a (by omega)]; exact bf a ha) hM hn
    have hv : v = bI b := by
      rcases h with ⟨A, hv, _, hI, _⟩ | ⟨hv, hL⟩
      · rw [hb.mpr ⟨A, hI.1⟩]; exact hv
      · have : b = false := by
          cases b
          · rfl
          · exact absurd (hb.mp rfl) hL
        rw [this]; exact hv
    subst hv
    refine wp_pos (by decide) (wp_nm (wp_pos (bI_B b) (wp_some ⟨?_, fun _ => rfl, hk.1, hk.2.1⟩)))
    show (kcpy N17 16 1 0 0 257).1 0 6 = 0
    rw [hk.2.2, hF.1 0 (by decide), b6]
  · refine wp_pos (nI_le (show 10 ≤ s.2.1 by omega) (by omega)) ?_
    have hMB : MB (N12.1 1) s.2.1 s.2 := by rw [o12 1 (by decide)]; exact hM2.2.2
    obtain ⟨f, hf⟩ : ∃ f, RCH s.2 s.2.1 hd f := by
      obtain ⟨_, _, f, hf, _⟩ := reaches_wp (t := 0) h216 hn hMB hO.ok hd6 (by decide) 0
      exact ⟨f, hf⟩
    refine wp_bd2 (wp_mono (lwith_wp hf h216 hn hMB hO.ok hd6 hV (fun j hj => ?_)) ?_)
    · rcases (show j = 0 ∨ j = 1 ∨ j = 2 by omega) with rfl | rfl | rfl
      · rfl
      · rfl
      · rfl
    · rintro ⟨v, N14⟩ ⟨hv, hF⟩
      have hF : FR c17 N12 N14 := hF
      have hk := wl_back (N := N) (Nx := N14) (fun k hk => by rw [hF.1 16 (by decide)]; exact b16 k hk) (fun j hj => by rw [hF.1 0 (by decide)]; exact b0 j hj) (fun a ha => by rw [hF.1 a (by omega)]; exact bf a ha) hM hn
      have hv : v = bI (okp f cs 3) := hv
      have hbb : okp f cs 3 = b := by
        have h1 := okp_3 (f := f) (cs := cs)
        have h2 := lyd_add hO.ok hd6 hV hO.2.2 hf
        rw [Bool.eq_iff_iff, h1, hb, h2]
      rw [hbb] at hv
      subst hv
      refine wp_pos (by decide) (wp_nm (wp_pos (bI_B b) (wp_some ⟨?_, fun _ => rfl, hk.1, hk.2.1⟩)))
      show (kcpy N14 16 1 0 0 257).1 0 6 = 0
      rw [hk.2.2, hF.1 0 (by decide), b6]
end LWI
section CASL
variable {α : Type} {P : α → Prop} {G : LST → Option α} {M M' N N' : KS} {s : ST} {v : Int64} {d : UInt64} {xs : Nat → Int32} {i : Nat}
theorem BGR.o (h : BGR M N) (k : FQ cO M M') (n : NF N N') : BGR M' N' := by
  obtain ⟨⟨H, c, nx, hp⟩, hX⟩ := h
  have hX : BGX M N := hX
  refine ⟨⟨H, c, nx, hp.fr k (fun i hi a ha z => ?_) (fun z => ?_) (n.1 4 (by decide)) (n.2 5 (by decide))⟩, hX.fr k (fun a ha z => ?_) n.x⟩
  · have := pix_n ha
    rcases z with z | z
    · exact this.1 z
    · exact this.2.2 z
  · rcases z with z | z
    · have := cS_ix z; omega
    · omega
  · have := bx_n ha
    rcases z with z | z
    · exact this.1 z
    · exact this.2.2 z
theorem kwould_wp {hd : Nat} {cs : Nat → Int32} (hO : OKR s.2) (hK : KT M 0 s) (hS : SETD M s) (hd6 : hd < 6) (hV : VC cs) (b1 : fX9_isRule (nI hd) (cs 0) (cs 1) (cs 2) = 1) {b : Bool} (hb : b = true ↔ LYD (addR s.2 hd cs) (s.2.1 + 1)) : wp (fX9_wouldLayer M (nI hd) (cs 0) (cs 1) (cs 2)) (fun r => ∃ M', r = .inr (bI b, M') ∧ KT M' 0 s ∧ SETD M' s ∧ FQ cO M M') := by
  have hn := hO.1
  unfold fX9_wouldLayer
  refine wp_neg (by rw [b1]; decide) (wp_bind (wp_mono (prop_k hO hK hS hV) ?_))
  intro M1 ⟨h1, h2, hK1, hS1, q1⟩
  rw [h2, show (nI s.2.1 + 1 : Int32) = nI (s.2.1 + 1) by rw [li1, nI_add]]
  refine wp_bd2 (wp_mono (arr_wp (y := 2) h1 (by omega) (addR_ok1 hO.ok hd6 hV) (by decide)) ?_)
  rintro ⟨v, M4⟩ ⟨h, hF4⟩
  have hF4 : FR (fun q => q = iYl 2) M1 M4 := hF4
  have hY : iYl 2 = 105 := rfl
  have nS : ∀ a, cS 0 a → ¬ a = iYl 2 := fun a ha z => by have := cS_ix ha; omega
  have hv : v = bI b := by
    rcases h with ⟨A, hv, _, hI, _⟩ | ⟨hv, hL⟩
    · rw [hb.mpr ⟨A, hI.1⟩]; exact hv
    · have : b = false := by
        cases b
        · rfl
        · exact absurd (hb.mp rfl) hL
      rw [this]; exact hv
  subst hv
  exact wp_pos (bI_B b) (wp_some ⟨M4, rfl, hK1.fr hF4 nS, hS1.fr hF4 (fun a ha z => by omega), q1.tr (hF4.q.wk (fun a h => Or.inr (by have h' : a = 105 := h; omega)))⟩)
theorem g_15 (h : REL M N) (hG : ∀ M' N' v' d', REL M' N' → wp (G (M', N', v', d')) P) : wp (gL_15 xs i (M, N, v, d) G) P := by
  obtain ⟨s, hO, hK, hM, hS, hB⟩ := h
  unfold gL_15 fL_wouldLayer
  rcases rule_cases (xs (i + 1)) (xs (i + 2)) (xs (i + 3)) (xs (i + 4)) with ⟨hd, hd6, e1, hV, b1, b2⟩ | ⟨b1, b2⟩
  · obtain ⟨cs, hcs⟩ : ∃ cs, cs = c3 (xs (i + 2)) (xs (i + 3)) (xs (i + 4)) := ⟨_, rfl⟩
    have d0 : xs (i + 2) = cs 0 := by rw [hcs]; rfl
    have d1 : xs (i + 3) = cs 1 := by rw [hcs]; rfl
    have d2 : xs (i + 4) = cs 2 := by rw [hcs]; rfl
    rw [← hcs] at hV
    rw [e1, d0, d1, d2] at b1 b2 ⊢
    obtain ⟨b, hb⟩ : ∃ b : Bool, b = true ↔ LYD (addR s.2 hd cs) (s.2.1 + 1) := by
      by_cases h : LYD (addR s.2 hd cs) (s.2.1 + 1)
      · exact ⟨true, fun _ => h, fun _ => rfl⟩
      · exact ⟨false, fun z => absurd z (by decide), fun z => absurd z h⟩
    refine sim b01L (wp_bind (wp_mono (kwould_wp hO hK hS hd6 hV b1 hb) ?_)) hG
    rintro r ⟨M', rfl, k1, k2, k3⟩
    have fin : ∀ w : Int64, w = b01L (bI b) → wp (some ((0 : Int32), M', w)) (fun ya => wp (fX10_wouldLayer N (nI hd) (cs 0) (cs 1) (cs 2)) (fun yb => yb.2.1 0 6 = ya.1 ∧ (ya.1 = 0 → ya.2.2 = b01L yb.1) ∧ REL ya.2.1 yb.2)) := fun w hw => by
      refine wp_some (wp_mono (rwould_wp hO hM hd6 hV b2 hb) ?_)
      intro yb ⟨n1, n2, n3, n4⟩
      exact ⟨n1, fun _ => by show w = _; rw [n2 rfl, hw], s, hO, k1, n4, k2, hB.o k3 n3⟩
    cases b
    · exact wp_pos rfl (fin 0 rfl)
    · exact wp_neg (show ¬ bI true = 0 by decide) (fin 1 rfl)
  · refine sim_ex (f := b01L) (e := 0) (t := 1) (val := 0) (v0 := v) hO hK hB (by unfold fX9_wouldLayer; rw [b1]; exact wp_pos rfl (wp_some (CQ.inl FQ.rf hS))) (fun M' => rfl) (by decide) (rwould_n hO hM b2) hG
end CASL
