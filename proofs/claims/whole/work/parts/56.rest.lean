/-! ===== restore ===== -/
section CASR
variable {α : Type} {P : α → Prop} {G : LST → Option α} {M N : KS} {s : ST} {v : Int64} {d : UInt64} {xs : Nat → Int32} {i : Nat}
theorem krest_wp {sv : ST} (h1 : M.1 121 8 = nI 1) (hO : OKR sv.2) (hK : KT M 1 sv) : wp (fX9_restore M) (fun r => ∃ M', r = .inr (nI (fb_ct sv.1 216), M') ∧ KT M' 0 sv ∧ M'.1 106 9 = 0 ∧ M'.1 113 1 = M.1 113 1 ∧ M'.1 113 2 = nI 0 ∧ FQ cU M M') := by
  have hn := hO.1
  unfold fX9_restore
  refine wp_neg (by rw [h1]; decide) ?_
  refine wp_bind (wp_mono (scopy_wp hK (by omega) (show (0 : Nat) ≠ 1 by decide) (by decide)) ?_)
  intro M1 ⟨g1, g2⟩
  unfold fX5_forget
  refine wp_bind (wp_nm (wp_some (wp_bind (out_wp ?_))))
  obtain ⟨M3, hM3⟩ : ∃ M3, M3 = kset (kset M1 113 2 0) 106 9 0 := ⟨_, rfl⟩
  have f3 : FR (fun a => a = 113 ∨ a = 106) M1 M3 := by rw [hM3]; exact (FR.rf.set (Or.inl rfl)).set (Or.inr rfl)
  have k3 : KT M3 0 sv := g1.fr f3 (fun a ha z => by have := cS_ix ha; rcases z with z | z <;> omega)
  rw [← hM3, size_eq k3.1]
  refine wp_bind (wp_some (wp_some ⟨M3, rfl, k3, by rw [hM3, kset_c, if_pos rfl], ?_, by rw [hM3, kset_nc (by decide), kset_c, if_pos rfl]; rfl, ?_⟩))
  · rw [hM3, kset_nc (by decide), kset_c, if_neg (by decide), g2.1 113 (fun z => by have := cS_ix z; omega)]
  · exact (g2.q.wk (fun a h => Or.inr (Or.inl h))).tr (f3.q.wk (fun a h => by rcases h with h | h; exact Or.inl h; exact Or.inr (Or.inr h)))
theorem rrest_wp {sv : ST} (h3 : N.1 0 3 = nI 1) (hM : MDs (N.1 3) sv) (hn : sv.2.1 ≤ 10) : wp (fX10_restore N) (fun b => b.1 = nI (fb_ct sv.1 216) ∧ b.2.1 0 6 = 0 ∧ b.2.1 0 5 = nI 0 ∧ MDs (b.2.1 1) sv ∧ (∀ a, a ≠ 0 → a ≠ 1 → b.2.1 a = N.1 a) ∧ ∀ j, j ≠ 5 → j ≠ 6 → b.2.1 0 j = N.1 0 j) := by
  unfold fX10_restore
  refine wp_jn (wp_neg (by rw [h3]; decide) ?_)
  unfold fX10_restore_J13_5
  have h257 : (257 : Int32).toNatClampNeg = 257 := by decide
  have h0 : (0 : Int32).toNatClampNeg = 0 := by decide
  refine wp_nm (wp_pos (by rw [k06]; decide) (wp_pos (by decide) (wp_nm (wp_nm ?_))))
  obtain ⟨N2, hN2⟩ : ∃ N2, N2 = kset (kcpy (kset N 0 6 0) 3 1 0 0 257) 0 5 0 := ⟨_, rfl⟩
  have r1 : ∀ k, k < 257 → N2.1 1 k = N.1 3 k := fun k hk => by rw [hN2, kset_nc (by decide), kcpy_eq, h0, h257, pk_cpy_in (Nat.zero_le _) (by omega), Nat.zero_add, Nat.sub_zero, kset_nc (by decide)]
  have hM2 : MDs (N2.1 1) sv := hM.cong hn (fun k hk => (r1 k hk).symm)
  rw [← hN2, rtolda_eq hM2.1]
  refine wp_bind (wp_some (wp_some ⟨rfl, ?_, ?_, hM2, fun a h1 h2 => ?_, fun j h1 h2 => ?_⟩))
  · show N2.1 0 6 = 0
    rw [hN2, kset_c, if_neg (by decide), kcpy_nc (by decide), k06]
  · show N2.1 0 5 = nI 0
    rw [hN2, kset_c, if_pos rfl]; rfl
  · show N2.1 a = _
    rw [hN2, kset_nc h1, kcpy_nc h2, kset_nc h1]
  · show N2.1 0 j = _
    rw [hN2, kset_c, if_neg h1, kcpy_nc (by decide), kset_c, if_neg h2]
theorem g_32 (h : REL M N) (hG : ∀ M' N' v' d', REL M' N' → wp (G (M', N', v', d')) P) : wp (gL_32 xs i (M, N, v, d) G) P := by
  obtain ⟨s, hO, hK, hM, hS, hB⟩ := h
  have hX : BGX M N := hB.2
  obtain ⟨H, c, nx, hp⟩ := hB.1
  obtain ⟨sv, hv⟩ := hX.1
  unfold gL_32 fL_restore
  rcases hv with hv | hv
  · refine sim_ex (f := Int32.toInt64) (e := 4) (t := 1) (val := 0) (v0 := v) hO hK hB (by unfold fX9_restore; exact wp_pos hv.1 (wp_some (CQ.inl FQ.rf hS))) (fun M' => rfl) (by decide) ?_ hG
    unfold fX10_restore
    refine wp_jn (wp_pos hv.2 ?_)
    unfold fX10_restore_J13_5
    exact wp_nm (wp_neg (by rw [k06]; decide) (wp_some (NQ.bad (by decide) hM)))
  · refine sim Int32.toInt64 (wp_bind (wp_mono (krest_wp hv.1 hv.2.2.1 hv.2.2.2.1) ?_)) hG
    rintro r ⟨M', rfl, k1, k2, k3, k4, k5⟩
    refine wp_some (wp_mono (rrest_wp hv.2.1 hv.2.2.2.2 hv.2.2.1.1) ?_)
    intro b ⟨n1, n2, n3, n4, n5, n6⟩
    refine ⟨n2, fun _ => congrArg Int32.toInt64 n1.symm, sv, hv.2.2.1, k1, n4, SETD.z k2, ⟨H, 0, nx, by omega, hp.2.1, by rw [k3]; exact hp.2.2.1, k4, n3, fun j hj => absurd hj (Nat.not_lt_zero _)⟩, ?_⟩
    refine BGX.fr hX k5 (fun a ha z => ?_) (NX.of (fun a ha => n5 a (by omega) (by omega)) (fun j hj => n6 j (by omega) (by omega)))
    have := bx_n ha
    rcases z with z | z | z
    · exact this.2.1 z
    · exact this.1 z
    · exact this.2.2 (by rw [z]; decide)
end CASR
