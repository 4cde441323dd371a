/-! ===== undo, save, restore ===== -/
def BGX (M N : KS) : Prop := (∃ sv, SVD M N sv) ∧ (∃ ln, TXT M N ln) ∧ (∃ ll, LIN M N ll) ∧ SCA M N
abbrev bx (a : Nat) : Prop := cS 1 a ∨ a = 115 ∨ a = 116 ∨ a = 119 ∨ a = 120 ∨ a = 121
abbrev kx (j : Nat) : Prop := j = 3 ∨ j = 7 ∨ j = 8 ∨ j = 24 ∨ j = 26 ∨ j = 29
def NX (N N' : KS) : Prop := (∀ a, (a = 3 ∨ a = 18 ∨ a = 19) → N'.1 a = N.1 a) ∧ ∀ j, kx j → N'.1 0 j = N.1 0 j
section UND
variable {M M' N N' : KS} {s s0 : ST} {H : Nat → ST} {c nx : Nat} {P : Nat → Prop} {A : Nat → Nat}
theorem NX.rf : NX N N := ⟨fun _ _ => rfl, fun _ _ => rfl⟩
theorem NX.tr {N1 : KS} (h : NX N N1) (k : NX N1 N') : NX N N' := ⟨fun a ha => (k.1 a ha).trans (h.1 a ha), fun j hj => (k.2 j hj).trans (h.2 j hj)⟩
theorem NX.of (h1 : ∀ a, (a = 3 ∨ a = 18 ∨ a = 19) → N'.1 a = N.1 a) (h2 : ∀ j, kx j → N'.1 0 j = N.1 0 j) : NX N N' := ⟨h1, h2⟩
theorem NF.x (h : NF N N') : NX N N' := ⟨fun a ha => h.1 a (by omega), fun j hj => h.2 j (by omega)⟩
theorem BGX.fr (h : BGX M N) (k : FQ P M M') (hp : ∀ a, bx a → ¬ P a) (n : NX N N') : BGX M' N' := by
  obtain ⟨⟨sv, hs⟩, ⟨ln, ht⟩, ⟨ll, hl⟩, hc⟩ := h
  have e115 : M'.1 115 = M.1 115 := k 115 (hp 115 (by decide))
  have e116 : M'.1 116 = M.1 116 := k 116 (hp 116 (by decide))
  have e119 : M'.1 119 = M.1 119 := k 119 (hp 119 (by decide))
  have e120 : M'.1 120 = M.1 120 := k 120 (hp 120 (by decide))
  have e121 : M'.1 121 = M.1 121 := k 121 (hp 121 (by decide))
  have n3 := n.1 3 (by decide)
  have n18 := n.1 18 (by decide)
  have n19 := n.1 19 (by decide)
  refine ⟨⟨sv, ?_⟩, ⟨ln, ht.1, by rw [e115]; exact ht.2.1, by rw [n.2 26 (by decide)]; exact ht.2.2.1, fun j hj => by rw [e116, n19]; exact ht.2.2.2 j hj⟩, ⟨ll, hl.1, by rw [e119]; exact hl.2.1, by rw [n.2 24 (by decide)]; exact hl.2.2.1, fun j hj => by rw [e120, n18]; exact hl.2.2.2 j hj⟩, by rw [e121, n.2 29 (by decide)]; exact hc.1, by rw [e121, n.2 7 (by decide)]; exact hc.2.1, by rw [e121, n.2 8 (by decide)]; exact hc.2.2⟩
  rcases hs with hs | hs
  · exact Or.inl ⟨by rw [e121]; exact hs.1, by rw [n.2 3 (by decide)]; exact hs.2⟩
  · exact Or.inr ⟨by rw [e121]; exact hs.1, by rw [n.2 3 (by decide)]; exact hs.2.1, hs.2.2.1, hs.2.2.2.1.fq2 k (fun a ha => hp a (Or.inl ha)), by rw [n3]; exact hs.2.2.2.2⟩
theorem pix_ge (nx c i : Nat) : 2 ≤ pix nx c i := by unfold pix; omega
theorem PST.fr (h : PST M N H c nx) (k : FQ P M M') (hp : ∀ i, i < c → ∀ a, cS (pix nx c i) a → ¬ P a) (h113 : ¬ P 113) (e4 : N'.1 4 = N.1 4) (e5 : N'.1 0 5 = N.1 0 5) : PST M' N' H c nx := by
  have e113 : M'.1 113 = M.1 113 := k 113 h113
  refine ⟨h.1, h.2.1, by rw [e113]; exact h.2.2.1, by rw [e113]; exact h.2.2.2.1, by rw [e5]; exact h.2.2.2.2.1, fun i hi => ?_⟩
  have hh := h.2.2.2.2.2 i hi
  exact ⟨hh.1, hh.2.1.fq2 k (hp i hi), by rw [e4]; exact hh.2.2⟩
/-- a change is kept -/
theorem PST.push (h : PST M N H c nx) (hs : OKR s0.2) (hm : KT M (2 + nx) s0) (hb : MDs (N.1 2) s0) (k1 : M'.1 113 1 = nI ((nx + 1) % 9)) (k2 : M'.1 113 2 = nI (min (c + 1) 8)) (kf : FQ c113 M M') (n5 : N'.1 0 5 = nI (min (c + 1) 8)) (n4 : ∀ i, i < min (c + 1) 8 → ∀ k, k < 257 → N'.1 4 (257 * i + k) = if i + 1 = min (c + 1) 8 then N.1 2 k else N.1 4 (257 * (i + (if c = 8 then 1 else 0)) + k)) : PSE M' N' := by
  have hc := h.1
  have hnx := h.2.1
  have h113 : ∀ f, f ≤ 10 → ∀ a, cS f a → ¬ c113 a := fun f hf a ha z => by have := cS_ix ha; have z' : a = 113 := z; omega
  refine ⟨fun i => if i + 1 = min (c + 1) 8 then s0 else H (i + (if c = 8 then 1 else 0)), min (c + 1) 8, (nx + 1) % 9, by omega, by omega, k1, k2, n5, fun i hi => ?_⟩
  by_cases e : i + 1 = min (c + 1) 8
  · simp only [if_pos e]
    have ep : pix ((nx + 1) % 9) (min (c + 1) 8) i = 2 + nx := by unfold pix; omega
    rw [ep]
    refine ⟨hs, hm.fq2 kf (h113 _ (by omega)), hb.cong hs.1 (fun k hk => ?_)⟩
    rw [n4 i hi k hk, if_pos e]
  · simp only [if_neg e]
    obtain ⟨j, hj⟩ : ∃ j, j = i + (if c = 8 then 1 else 0) := ⟨_, rfl⟩
    have hjc : j < c := by rw [hj]; split <;> omega
    have ep : pix ((nx + 1) % 9) (min (c + 1) 8) i = pix nx c j := by
      unfold pix
      rw [hj]
      split <;> omega
    have hh := h.2.2.2.2.2 j hjc
    rw [ep, ← hj]
    refine ⟨hh.1, hh.2.1.fq2 kf (h113 _ (pix_le _ _ _)), hh.2.2.cong hh.1.1 (fun k hk => ?_)⟩
    rw [n4 i hi k hk, if_neg e, ← hj]
end UND
section CASU
variable {α : Type} {P : α → Prop} {G : LST → Option α} {M N : KS} {s : ST} {v : Int64} {d : UInt64} {xs : Nat → Int32} {i : Nat}
theorem SETD.z {M : KS} {s : ST} (h : M.1 106 9 = 0) : SETD M s := Or.inl h
theorem out_wp {Q : KS → Prop} (h : Q (kset M 106 9 0)) : wp (fX1_outdate M) Q := by unfold fX1_outdate; exact wp_nm (wp_some h)
abbrev cU : Nat → Prop := fun a => a = 113 ∨ cS 0 a ∨ a = 106
theorem kundo_wp {H : Nat → ST} {c nx : Nat} (hp : PST M N H c nx) (hpos : 0 < c) : wp (fX9_undo M) (fun r => ∃ M', r = .inr (nI (c - 1), M') ∧ KT M' 0 (H (c - 1)) ∧ M'.1 106 9 = 0 ∧ M'.1 113 1 = nI ((nx + 8) % 9) ∧ M'.1 113 2 = nI (c - 1) ∧ FQ cU M M') := by
  have hc := hp.1
  have hnx := hp.2.1
  have hh := hp.2.2.2.2.2 (c - 1) (by omega)
  obtain ⟨ny, hny⟩ : ∃ ny, ny = (nx + 8) % 9 := ⟨_, rfl⟩
  have hny9 : ny < 9 := by omega
  have ep : pix nx c (c - 1) = 2 + ny := by unfold pix; omega
  rw [ep] at hh
  rw [← hny]
  unfold fX9_undo
  refine wp_neg (by rw [hp.2.2.2.1]; exact fun z => by have := (nI_eq (b := 0) (by omega) (by decide)).mp z; omega) ?_
  unfold fX5_stepBack
  have key : ∀ w, w = nI ny → wp (fX5_stepBack_J19_5 M 0 w) (fun M' => KT M' 0 (H (c - 1)) ∧ M'.1 113 1 = nI ny ∧ M'.1 113 2 = nI (c - 1) ∧ FQ (fun a => a = 113 ∨ cS 0 a) M M') := by
    intro w hw
    subst hw
    unfold fX5_stepBack_J19_5
    have e2 : (kset M 113 1 (nI ny)).1 113 2 = nI c := by rw [kset_c, if_neg (by decide)]; exact hp.2.2.2.1
    refine wp_nm (wp_nm ?_)
    rw [e2, li1, nI_subN (by omega), li0, jmaxN (by omega) (by omega), Nat.max_eq_left (Nat.zero_le _)]
    obtain ⟨M1, hM1⟩ : ∃ M1, M1 = kset (kset M 113 1 (nI ny)) 113 2 (nI (c - 1)) := ⟨_, rfl⟩
    have f1 : FR c113 M M1 := by rw [hM1]; exact ((FR.rf (P := c113)).set (rfl : c113 113)).set (rfl : c113 113)
    have m1 : M1.1 113 1 = nI ny := by rw [hM1, kset_c, if_neg (by decide), kset_c, if_pos rfl]
    have m2 : M1.1 113 2 = nI (c - 1) := by rw [hM1, kset_c, if_pos rfl]
    have h113 : ∀ f, f ≤ 10 → ∀ a, cS f a → ¬ c113 a := fun f hf a ha z => by have := cS_ix ha; have z' : a = 113 := z; omega
    have hK1 : KT M1 (2 + ny) (H (c - 1)) := hh.2.1.fr f1 (h113 _ (by omega))
    rw [← hM1]
    refine wp_bind (wp_mono (give_wp hK1 (Nat.le_trans hh.1.1 (by decide)) m1 hny9) ?_)
    intro M2 ⟨g1, g2⟩
    have e113 : M2.1 113 = M1.1 113 := g2.1 113 (fun z => by have := cS_ix z; omega)
    exact wp_some ⟨g1, by rw [e113]; exact m1, by rw [e113]; exact m2, (f1.q.wk (fun a h => Or.inl h)).tr (g2.q.wk (fun a h => Or.inr h))⟩
  have key2 : wp (jn (fX5_stepBack_J19_5 M 0) (fun K19_5 => (if (M.1 113 1) ≤ 0 then K19_5 8 else K19_5 ((M.1 113 1) - 1)))) (fun M' => KT M' 0 (H (c - 1)) ∧ M'.1 113 1 = nI ny ∧ M'.1 113 2 = nI (c - 1) ∧ FQ (fun a => a = 113 ∨ cS 0 a) M M') := by
    refine wp_jn ?_
    rw [hp.2.2.1]
    rcases Nat.eq_zero_or_pos nx with q | q
    · refine wp_pos (by rw [q]; decide) (key _ ?_)
      rw [hny, q]
      rfl
    · refine wp_neg (nI_nle q (by omega)) (key _ ?_)
      rw [li1, nI_subN (by omega), hny]
      congr 1
      omega
  refine wp_bind (wp_mono key2 ?_)
  intro M2 ⟨g1, g2, g3, g4⟩
  refine wp_bind (out_wp (wp_some ?_))
  have f3 : FR (fun a => a = 106) M2 (kset M2 106 9 0) := FR.rf.set rfl
  have e113 : (kset M2 106 9 0).1 113 = M2.1 113 := kset_nc (by decide)
  rw [e113, g3]
  exact ⟨_, rfl, g1.fr f3 (fun a ha z => by have := cS_ix ha; have z' : a = 106 := z; omega), by rw [kset_c, if_pos rfl], by rw [e113]; exact g2, by rw [e113]; exact g3, (g4.wk (fun a h => by rcases h with h | h; exact Or.inl h; exact Or.inr (Or.inl h))).tr (f3.q.wk (fun a h => Or.inr (Or.inr h)))⟩
theorem rundo_wp {c : Nat} (h5 : N.1 0 5 = nI c) (hc : c ≤ 8) (hpos : 0 < c) : wp (fX10_undo N) (fun b => b.1 = nI (c - 1) ∧ b.2.1 0 6 = 0 ∧ b.2.1 0 5 = nI (c - 1) ∧ (∀ k, k < 257 → b.2.1 1 k = N.1 4 (257 * (c - 1) + k)) ∧ (∀ a, a ≠ 0 → a ≠ 1 → b.2.1 a = N.1 a) ∧ ∀ j, j ≠ 5 → j ≠ 6 → b.2.1 0 j = N.1 0 j) := by
  unfold fX10_undo
  refine wp_jn (wp_neg (by rw [h5]; exact fun z => by have := (nI_eq (b := 0) (by omega) (by decide)).mp z; omega) ?_)
  unfold fX10_undo_J13_5
  refine wp_nm (wp_pos (by rw [k06]; decide) (wp_nm ?_))
  have n5 : (kset N 0 6 0).1 0 5 = nI c := by rw [kset_c, if_neg (by decide)]; exact h5
  rw [n5, li1, nI_subN (by omega)]
  obtain ⟨N1, hN1⟩ : ∃ N1, N1 = kset (kset N 0 6 0) 0 5 (nI (c - 1)) := ⟨_, rfl⟩
  have q5 : N1.1 0 5 = nI (c - 1) := by rw [hN1, kset_c, if_pos rfl]
  have em : (257 : Int32) * N1.1 0 5 = nI (257 * (c - 1)) := by rw [q5, li257, pk_mul]
  have ec : (nI (257 * (c - 1))).toNatClampNeg = 257 * (c - 1) := nI_clamp (by omega)
  have h257 : (257 : Int32).toNatClampNeg = 257 := by decide
  have h0 : (0 : Int32).toNatClampNeg = 0 := by decide
  rw [← hN1, em]
  refine wp_pos ⟨fun z => (nI_lt0 (by omega)).mp z, by decide, by decide, by rw [ec, h257]; omega, by decide⟩ (wp_nm (wp_some ?_))
  have r0 : (kcpy N1 4 1 (nI (257 * (c - 1))) 0 257).1 0 = N1.1 0 := kcpy_nc (by decide)
  refine ⟨by show (kcpy N1 4 1 (nI (257 * (c - 1))) 0 257).1 0 5 = _; rw [r0, q5], ?_, by show (kcpy N1 4 1 (nI (257 * (c - 1))) 0 257).1 0 5 = _; rw [r0, q5], fun k hk => ?_, fun a h1 h2 => ?_, fun j h1 h2 => ?_⟩
  · show (kcpy N1 4 1 (nI (257 * (c - 1))) 0 257).1 0 6 = 0
    rw [r0, hN1, kset_c, if_neg (by decide), k06]
  · show (kcpy N1 4 1 (nI (257 * (c - 1))) 0 257).1 1 k = _
    rw [kcpy_eq, ec, h0, h257, pk_cpy_in (Nat.zero_le _) (by omega), Nat.sub_zero, hN1, kset_nc (by decide), kset_nc (by decide)]
  · show (kcpy N1 4 1 (nI (257 * (c - 1))) 0 257).1 a = _
    rw [kcpy_nc h2, hN1, kset_nc h1, kset_nc h1]
  · show (kcpy N1 4 1 (nI (257 * (c - 1))) 0 257).1 0 j = _
    rw [r0, hN1, kset_c, if_neg h1, kset_c, if_neg h2]
/-- cells of the background are not touched by what is done to the present state -/
theorem bx_n {a : Nat} (ha : bx a) : ¬ cS 0 a ∧ a ≠ 113 ∧ ¬ cQ a := by
  rcases ha with ha | ha
  · have h1 := cS_ix ha
    refine ⟨fun z => ?_, by omega, by omega⟩
    have := cS_ix z
    omega
  · refine ⟨fun z => ?_, by omega, by omega⟩
    have := cS_ix z
    omega
theorem pix_n {nx c i a : Nat} (ha : cS (pix nx c i) a) : ¬ cS 0 a ∧ a ≠ 113 ∧ ¬ cQ a := by
  have h1 := cS_ix ha
  have h2 := pix_le nx c i
  have h3 := pix_ge nx c i
  refine ⟨fun z => ?_, by omega, by omega⟩
  have := cS_ix z
  omega
theorem g_30 (h : REL M N) (hG : ∀ M' N' v' d', REL M' N' → wp (G (M', N', v', d')) P) : wp (gL_30 xs i (M, N, v, d) G) P := by
  obtain ⟨s, hO, hK, hM, hS, hB⟩ := h
  obtain ⟨⟨H, c, nx, hp⟩, hX⟩ := hB
  have hX : BGX M N := hX
  have hc := hp.1
  have hnx := hp.2.1
  unfold gL_30 fL_undo
  rcases Nat.eq_zero_or_pos c with h0 | hpos
  · subst h0
    refine sim_ex (f := Int32.toInt64) (e := 4) (t := 1) (val := 0) (v0 := v) hO hK ⟨⟨H, 0, nx, hp⟩, hX⟩ (by unfold fX9_undo; exact wp_pos hp.2.2.2.1 (wp_some (CQ.inl FQ.rf hS))) (fun M' => rfl) (by decide) ?_ hG
    unfold fX10_undo
    refine wp_jn (wp_pos hp.2.2.2.2.1 ?_)
    unfold fX10_undo_J13_5
    exact wp_nm (wp_neg (by rw [k06]; decide) (wp_some (NQ.bad (by decide) hM)))
  · have hh := hp.2.2.2.2.2 (c - 1) (by omega)
    refine sim Int32.toInt64 (wp_bind (wp_mono (kundo_wp hp hpos) ?_)) hG
    rintro r ⟨M', rfl, k1, k2, k3, k4, k5⟩
    refine wp_some (wp_mono (rundo_wp hp.2.2.2.2.1 hc hpos) ?_)
    intro b ⟨n1, n2, n3, n4, n5, n6⟩
    refine ⟨n2, fun _ => congrArg Int32.toInt64 n1.symm, H (c - 1), hh.1, k1, hh.2.2.cong hh.1.1 (fun k hk => (n4 k hk).symm), SETD.z k2, ⟨H, c - 1, (nx + 8) % 9, ?_⟩, ?_⟩
    · refine ⟨by omega, by omega, k3, k4, n3, fun j hj => ?_⟩
      have hj' := hp.2.2.2.2.2 j (by omega)
      have epj : pix ((nx + 8) % 9) (c - 1) j = pix nx c j := by unfold pix; omega
      rw [epj]
      refine ⟨hj'.1, hj'.2.1.fq2 k5 (fun a ha z => ?_), by rw [n5 4 (by decide) (by decide)]; exact hj'.2.2⟩
      have := pix_n ha
      rcases z with z | z | z
      · exact this.2.1 z
      · exact this.1 z
      · exact this.2.2 (by rw [z]; decide)
    · refine BGX.fr hX k5 (fun a ha z => ?_) (NX.of (fun a ha => n5 a (by omega) (by omega)) (fun j hj => n6 j (by omega) (by omega)))
      have := bx_n ha
      rcases z with z | z | z
      · exact this.2.1 z
      · exact this.1 z
      · exact this.2.2 (by rw [z]; decide)
theorem g_31 (h : REL M N) (hG : ∀ M' N' v' d', REL M' N' → wp (G (M', N', v', d')) P) : wp (gL_31 xs i (M, N, v, d) G) P := by
  obtain ⟨s, hO, hK, hM, hS, hB⟩ := h
  obtain ⟨⟨H, c, nx, hp⟩, hX⟩ := hB
  have hX : BGX M N := hX
  have hn := hO.1
  unfold gL_31 fX9_save
  refine wp_bind (wp_bind (wp_mono (scopy_wp hK (by omega) (show (1 : Nat) ≠ 0 by decide) (by decide)) ?_))
  intro M1 ⟨g1, g2⟩
  obtain ⟨M2, hM2⟩ : ∃ M2, M2 = kset M1 121 8 1 := ⟨_, rfl⟩
  have f2 : FR (fun a => a = 121) M1 M2 := by rw [hM2]; exact FR.rf.set rfl
  have fk : FR (fun a => cS 1 a ∨ a = 121) M M2 := (g2.wk (fun a h => Or.inl h)).tr (f2.wk (fun a h => Or.inr h))
  have hK2 : KT M2 0 s := hK.fr fk (fun a ha z => by
    have h1 := cS_ix ha
    rcases z with z | z
    · have := cS_ix z; omega
    · omega)
  have g1' : KT M2 1 s := g1.fr f2 (fun a ha z => by have h1 := cS_ix ha; have z' : a = 121 := z; omega)
  refine wp_nm ?_
  rw [← hM2, size_eq hK2.1]
  refine wp_bind (wp_some (wp_some ?_))
  unfold fX10_save
  have h257 : (257 : Int32).toNatClampNeg = 257 := by decide
  have h0 : (0 : Int32).toNatClampNeg = 0 := by decide
  refine wp_bind (wp_nm (wp_pos (by decide) (wp_nm (wp_nm ?_))))
  obtain ⟨N2, hN2⟩ : ∃ N2, N2 = kset (kcpy (kset N 0 6 0) 1 3 0 0 257) 0 3 1 := ⟨_, rfl⟩
  have r3 : ∀ k, k < 257 → N2.1 3 k = N.1 1 k := fun k hk => by rw [hN2, kset_nc (by decide), kcpy_eq, h0, h257, pk_cpy_in (Nat.zero_le _) (by omega), Nat.zero_add, Nat.sub_zero, kset_nc (by decide)]
  have ro : ∀ a, a ≠ 0 → a ≠ 3 → N2.1 a = N.1 a := fun a h1 h2 => by rw [hN2, kset_nc h1, kcpy_nc h2, kset_nc h1]
  have rj : ∀ j, j ≠ 3 → j ≠ 6 → N2.1 0 j = N.1 0 j := fun j h1 h2 => by rw [hN2, kset_c, if_neg h1, kcpy_nc (by decide), kset_c, if_neg h2]
  have r03 : N2.1 0 3 = 1 := by rw [hN2, kset_c, if_pos rfl]
  have hM2' : MDs (N2.1 1) s := by rw [ro 1 (by decide) (by decide)]; exact hM
  rw [← hN2, rtolda_eq hM2'.1]
  refine wp_bind (wp_some (wp_some (wp_pos rfl (hG _ _ _ _ ?_))))
  have e113 : M2.1 113 = M.1 113 := fk.1 113 (fun z => by rcases z with z | z; have := cS_ix z; omega; omega)
  have e1 : ∀ a, 115 ≤ a → a ≠ 121 → M2.1 a = M.1 a := fun a h1 h2 => fk.1 a (fun z => by rcases z with z | z; have := cS_ix z; omega; omega)
  have e121 : ∀ j, j ≠ 8 → M2.1 121 j = M.1 121 j := fun j hj => by
    rw [hM2, kset_c, if_neg hj]
    exact congrFun (g2.1 121 (fun z => by have := cS_ix z; omega)) j
  obtain ⟨_, ⟨ln, ht⟩, ⟨ll, hl⟩, hsc⟩ := hX
  refine ⟨s, hO, hK2, hM2', hS.fr fk (fun a ha z => by rcases z with z | z; have := cS_ix z; omega; omega), ⟨H, c, nx, PST.fr hp fk.q (fun j hj a ha z => ?_) (fun z => by rcases z with z | z; have := cS_ix z; omega; omega) (ro 4 (by decide) (by decide)) (rj 5 (by decide) (by decide))⟩, ⟨s, Or.inr ⟨by rw [hM2, kset_c, if_pos rfl]; rfl, r03, hO, g1', hM.cong hn (fun k hk => (r3 k hk).symm)⟩⟩, ⟨ln, ht.1, by rw [e1 115 (by decide) (by decide)]; exact ht.2.1, by rw [rj 26 (by decide) (by decide)]; exact ht.2.2.1, fun j hj => by rw [e1 116 (by decide) (by decide), ro 19 (by decide) (by decide)]; exact ht.2.2.2 j hj⟩, ⟨ll, hl.1, by rw [e1 119 (by decide) (by decide)]; exact hl.2.1, by rw [rj 24 (by decide) (by decide)]; exact hl.2.2.1, fun j hj => by rw [e1 120 (by decide) (by decide), ro 18 (by decide) (by decide)]; exact hl.2.2.2 j hj⟩, by rw [e121 9 (by decide), rj 29 (by decide) (by decide)]; exact hsc.1, by rw [e121 10 (by decide), rj 7 (by decide) (by decide)]; exact hsc.2.1, by rw [e121 11 (by decide), rj 8 (by decide) (by decide)]; exact hsc.2.2⟩
  have h1 := cS_ix ha
  have h2 := pix_ge nx c j
  have h3 := pix_le nx c j
  rcases z with z | z
  · have := cS_ix z; omega
  · omega
end CASU
