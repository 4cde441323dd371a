/-! ===== a change: marked, done or refused, kept ===== -/
abbrev cO : Nat → Prop := fun a => cS 0 a ∨ cQ a
abbrev cOr : Nat → Prop := fun a => cO a ∨ a = 121
def KDONE (M : KS) (s' : ST) (a : Int32 × KS) : Prop := a.1 = 1 ∧ KT a.2 0 s' ∧ SETD a.2 s' ∧ FQ cO M a.2
def KREF (M : KS) (s : ST) (why w : Int32) (a : Int32 × KS) : Prop := a.1 = 0 ∧ KT a.2 0 s ∧ SETD a.2 s ∧ FQ cOr M a.2 ∧ a.2.1 121 10 = why ∧ a.2.1 121 11 = w ∧ ∀ j, j ≠ 10 → j ≠ 11 → a.2.1 121 j = M.1 121 j
abbrev rw6 (a : Nat) : Prop := a = 2 ∨ a = 3 ∨ a = 4 ∨ a = 18 ∨ a = 19 ∨ a = 20
def NDONE (N : KS) (s' : ST) (v : Int32) (b : Int32 × KS) : Prop := b.1 = v ∧ MDs (b.2.1 1) s' ∧ (∀ a, rw6 a → b.2.1 a = N.1 a) ∧ b.2.1 0 = N.1 0
def NREF (N : KS) (why w : Int32) (b : Int32 × KS) : Prop := b.2.1 0 6 = 2 ∧ b.2.1 0 9 = 1 ∧ b.2.1 0 7 = why ∧ b.2.1 0 8 = w ∧ (∀ a, rw6 a → b.2.1 a = N.1 a) ∧ ∀ j, j ≠ 6 → j ≠ 7 → j ≠ 8 → j ≠ 9 → b.2.1 0 j = N.1 0 j
/-- marked: the present state is also that to which one could go back -/
def MKD (M N : KS) (s : ST) : Prop := ∃ H c nx, PST M N H c nx ∧ BGX M N ∧ KT M (2 + nx) s ∧ MDs (N.1 2) s
section CHG
variable {M M1 N N1 : KS} {s s' : ST} {A : Nat → Nat} {P : Nat → Prop}
theorem rrefuse_wp {why w : Int32} (hf : ∀ a, rw6 a → N1.1 a = N.1 a) (h0 : N1.1 0 = N.1 0) : wp (fX10_refuse N1 why w) (NREF N why w) := by
  unfold fX10_refuse
  refine wp_nm (wp_nm (wp_nm (wp_nm (wp_some ⟨?_, ?_, ?_, ?_, fun a ha => ?_, fun j h1 h2 h3 h4 => ?_⟩))))
  · show (kset (kset (kset (kset N1 0 6 2) 0 9 1) 0 7 why) 0 8 w).1 0 6 = 2
    rw [kset_c, if_neg (by decide), kset_c, if_neg (by decide), kset_c, if_neg (by decide), kset_c, if_pos rfl]
  · show (kset (kset (kset (kset N1 0 6 2) 0 9 1) 0 7 why) 0 8 w).1 0 9 = 1
    rw [kset_c, if_neg (by decide), kset_c, if_neg (by decide), kset_c, if_pos rfl]
  · show (kset (kset (kset (kset N1 0 6 2) 0 9 1) 0 7 why) 0 8 w).1 0 7 = why
    rw [kset_c, if_neg (by decide), kset_c, if_pos rfl]
  · show (kset (kset (kset (kset N1 0 6 2) 0 9 1) 0 7 why) 0 8 w).1 0 8 = w
    rw [kset_c, if_pos rfl]
  · show (kset (kset (kset (kset N1 0 6 2) 0 9 1) 0 7 why) 0 8 w).1 a = _
    have h0 : a ≠ 0 := by omega
    rw [kset_nc h0, kset_nc h0, kset_nc h0, kset_nc h0]
    exact hf a ha
  · show (kset (kset (kset (kset N1 0 6 2) 0 9 1) 0 7 why) 0 8 w).1 0 j = _
    rw [kset_c, if_neg h3, kset_c, if_neg h2, kset_c, if_neg h4, kset_c, if_neg h1, h0]
theorem krefuse_wp {why w : Int32} (hK : KT M1 0 s) (hS : SETD M1 s) (k : FQ cO M M1) : wp (fX9_refuse M1 why w) (KREF M s why w) := by
  unfold fX9_refuse
  have f : FR (fun a => a = 121) M1 (kset (kset M1 121 10 why) 121 11 w) := ((FR.rf (P := fun a => a = 121)).set (rfl : (fun a => a = 121) 121)).set (rfl : (fun a => a = 121) 121)
  refine wp_nm (wp_nm (wp_some ⟨rfl, hK.fr f (fun a ha z => by have := cS_ix ha; have z' : a = 121 := z; omega), hS.fr f (fun a ha z => by have z' : a = 121 := z; omega), (k.wk (fun a h => Or.inl h)).tr (f.q.wk (fun a h => Or.inr h)), ?_, ?_, fun j h1 h2 => ?_⟩))
  · show (kset (kset M1 121 10 why) 121 11 w).1 121 10 = why
    rw [kset_c, if_neg (by decide), kset_c, if_pos rfl]
  · show (kset (kset M1 121 10 why) 121 11 w).1 121 11 = w
    rw [kset_c, if_pos rfl]
  · show (kset (kset M1 121 10 why) 121 11 w).1 121 j = _
    rw [kset_c, if_neg h2, kset_c, if_neg h1]
    exact congrFun (k 121 (fun z => by rcases z with z | z; have := cS_ix z; omega; omega)) j
theorem mark_all (hO : OKR s.2) (hK : KT M 0 s) (hM : MDs (N.1 1) s) (hS : SETD M s) (hB : BGR M N) : wp (fX5_mark M 0) (fun M1 => KT M1 0 s ∧ SETD M1 s ∧ (∀ a, 115 ≤ a → M1.1 a = M.1 a) ∧ wp (fX10_keep N) (fun N1 => MKD M1 N1 s ∧ MDs (N1.1 1) s ∧ N1.1 0 6 = 0 ∧ (∀ a, a ≠ 0 → a ≠ 2 → N1.1 a = N.1 a) ∧ ∀ j, j ≠ 6 → N1.1 0 j = N.1 0 j)) := by
  obtain ⟨⟨H, c, nx, hp⟩, hX⟩ := hB
  have hX : BGX M N := hX
  have hnx := hp.2.1
  have hn := hO.1
  refine wp_mono (mark_wp hK (by omega) hp.2.2.1 hp.2.1) ?_
  intro M1 ⟨h1, h2⟩
  refine ⟨hK.fr h2 (fun a ha => cS_ne (by decide) (by omega) (by omega) ha), hS.fr h2 (fun a ha z => by have := cS_ix z; omega), fun a ha => h2.1 a (fun z => by have := cS_ix z; omega), ?_⟩
  refine wp_mono rkeep_wp ?_
  intro N1 ⟨n1, n2, n3, n4⟩
  have e1 : N1.1 1 = N.1 1 := n3 1 (by decide) (by decide)
  refine ⟨⟨H, c, nx, hp.fr h2.q (fun i hi a ha z => ?_) (fun z => by have := cS_ix z; omega) (n3 4 (by decide) (by decide)) (n4 5 (by decide)), hX.fr h2.q (fun a ha z => ?_) (NX.of (fun a ha => n3 a (by omega) (by omega)) (fun j hj => n4 j (by omega))), h1, hM.cong hn (fun k hk => (n2 k hk).symm)⟩, by rw [e1]; exact hM, n1, n3, n4⟩
  · have h3 := cS_ix ha
    have h4 := cS_ix z
    have hc := hp.1
    have h5 : pix nx c i ≠ 2 + nx := by unfold pix; omega
    have h6 := pix_le nx c i
    omega
  · have h4 := cS_ix z
    rcases ha with ha | ha
    · have := cS_ix ha; omega
    · omega
theorem done_fin {v w : Int32} {a : Int32 × KS} {b : Int32 × KS} (h : MKD M N s) (hO : OKR s.2) (h6 : N.1 0 6 = 0) (k : KDONE M s' a) (n : NDONE N s' v b) : wp (fX5_keep a.2) (fun M4 => KT M4 0 s' ∧ SETD M4 s' ∧ wp (fX10_ends b.2 w) (fun e => e.1 = w ∧ e.2.1 0 6 = 0 ∧ MDs (e.2.1 1) s' ∧ BGR M4 e.2)) := by
  obtain ⟨H, c, nx, hp, hX, hm, hb⟩ := h
  obtain ⟨_, k1, k2, k3⟩ := k
  obtain ⟨_, n1, n2, n3⟩ := n
  have hnx := hp.2.1
  have hc := hp.1
  have nO : ∀ i, i < c → ∀ q, cS (pix nx c i) q → ¬ cO q := fun i hi q hq z => by
    have := pix_n hq
    rcases z with z | z
    · exact this.1 z
    · exact this.2.2 z
  have hp2 : PST a.2 b.2 H c nx := hp.fr k3 nO (fun z => by rcases z with z | z; have := cS_ix z; omega; omega) (n2 4 (by decide)) (by rw [n3])
  have hX2 : BGX a.2 b.2 := hX.fr k3 (fun q hq z => by
    have := bx_n hq
    rcases z with z | z
    · exact this.1 z
    · exact this.2.2 z) (NX.of (fun q hq => n2 q (by omega)) (fun j _ => by rw [n3]))
  have hm2 : KT a.2 (2 + nx) s := hm.fq2 k3 (fun q hq z => by
    have h1 := cS_ix hq
    rcases z with z | z
    · have := cS_ix z; omega
    · omega)
  have hb2 : MDs (b.2.1 2) s := by rw [n2 2 (by decide)]; exact hb
  refine wp_mono (kkeep_wp hp2.2.2.1 hnx hp2.2.2.2.1 hc) ?_
  intro M4 ⟨q1, q2, q3⟩
  have h113 : ∀ f, f ≤ 10 → ∀ a, cS f a → ¬ c113 a := fun f hf a ha z => by have := cS_ix ha; have z' : a = 113 := z; omega
  refine ⟨k1.fr q3 (h113 0 (by decide)), k2.fr q3 (fun a ha z => by have z' : a = 113 := z; omega), ?_⟩
  refine wp_mono (rends0_wp (by rw [n3]; exact h6) hp2.2.2.2.2.1 hc) ?_
  intro e ⟨e1, e2, e3, e4, e5⟩
  refine ⟨e1, by rw [e5 6 (by decide), n3]; exact h6, by rw [e4 1 (by decide) (by decide)]; exact n1, hp2.push hO hm2 hb2 q1 q2 q3.q e2 e3, ?_⟩
  exact hX2.fr q3.q (fun q hq z => (bx_n hq).2.1 z) (NX.of (fun q hq => e4 q (by omega) (by omega)) (fun j hj => e5 j (by omega)))
theorem ref_fin {why w x : Int32} {a : Int32 × KS} {b : Int32 × KS} (h : MKD M N s) (hO : OKR s.2) (k : KREF M s why w a) (n : NREF N why w b) : wp (fX10_ends b.2 x) (fun e => e.2.1 0 6 = 2 ∧ MDs (e.2.1 1) s ∧ BGR a.2 e.2) := by
  obtain ⟨H, c, nx, hp, hX, hm, hb⟩ := h
  obtain ⟨_, k1, k2, k3, k4, k5, k6⟩ := k
  obtain ⟨n1, n2, n3, n4, n5, n6⟩ := n
  refine wp_mono (rends1_wp (t := 2) n1 (by decide)) ?_
  intro e ⟨e1, e2, e3⟩
  have f0 : e.2.1 0 = b.2.1 0 := e3 0 (by decide)
  have nO : ∀ q, 115 ≤ q → q ≠ 121 → ¬ cOr q := fun q h1 h2 z => by
    rcases z with (z | z) | z
    · have := cS_ix z; omega
    · omega
    · exact h2 z
  refine ⟨by rw [f0]; exact n1, hb.cong hO.1 (fun q hq => by rw [e2 q hq, n5 2 (by decide)]), ⟨H, c, nx, hp.fr k3 (fun i hi q hq z => ?_) (fun z => ?_) (by rw [e3 4 (by decide), n5 4 (by decide)]) (by rw [f0]; exact n6 5 (by decide) (by decide) (by decide) (by decide))⟩, ?_⟩
  · have := pix_n hq
    rcases z with (z | z) | z
    · exact this.1 z
    · exact this.2.2 z
    · have h1 := cS_ix hq
      have h2 := pix_le nx c i
      omega
  · rcases z with (z | z) | z
    · have := cS_ix z; omega
    · omega
    · omega
  · obtain ⟨⟨sv, hv⟩, ⟨ln, ht⟩, ⟨ll, hl⟩, hsc⟩ := hX
    have r3 : e.2.1 3 = N.1 3 := by rw [e3 3 (by decide), n5 3 (by decide)]
    have r18 : e.2.1 18 = N.1 18 := by rw [e3 18 (by decide), n5 18 (by decide)]
    have r19 : e.2.1 19 = N.1 19 := by rw [e3 19 (by decide), n5 19 (by decide)]
    have rj : ∀ j, j ≠ 6 → j ≠ 7 → j ≠ 8 → j ≠ 9 → e.2.1 0 j = N.1 0 j := fun j h1 h2 h3 h4 => by rw [f0]; exact n6 j h1 h2 h3 h4
    have m115 := k3 115 (nO 115 (by decide) (by decide))
    have m116 := k3 116 (nO 116 (by decide) (by decide))
    have m119 := k3 119 (nO 119 (by decide) (by decide))
    have m120 := k3 120 (nO 120 (by decide) (by decide))
    refine ⟨⟨sv, ?_⟩, ⟨ln, ht.1, by rw [m115]; exact ht.2.1, by rw [rj 26 (by decide) (by decide) (by decide) (by decide)]; exact ht.2.2.1, fun j hj => by rw [m116, r19]; exact ht.2.2.2 j hj⟩, ⟨ll, hl.1, by rw [m119]; exact hl.2.1, by rw [rj 24 (by decide) (by decide) (by decide) (by decide)]; exact hl.2.2.1, fun j hj => by rw [m120, r18]; exact hl.2.2.2 j hj⟩, by rw [k6 9 (by decide) (by decide), rj 29 (by decide) (by decide) (by decide) (by decide)]; exact hsc.1, by rw [k4, f0, n3], by rw [k5, f0, n4]⟩
    rcases hv with hv | hv
    · exact Or.inl ⟨by rw [k6 8 (by decide) (by decide)]; exact hv.1, by rw [rj 3 (by decide) (by decide) (by decide) (by decide)]; exact hv.2⟩
    · refine Or.inr ⟨by rw [k6 8 (by decide) (by decide)]; exact hv.1, by rw [rj 3 (by decide) (by decide) (by decide) (by decide)]; exact hv.2.1, hv.2.2.1, hv.2.2.2.1.fq2 k3 (fun q hq z => ?_), by rw [r3]; exact hv.2.2.2.2⟩
      have h1 := cS_ix hq
      rcases z with (z | z) | z
      · have := cS_ix z; omega
      · omega
      · omega
end CHG
