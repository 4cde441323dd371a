/-! ===== run ===== -/
theorem wp_swap {α β : Type} {o1 : Option α} {o2 : Option β} {P : α → β → Prop} (h : wp o1 (fun a => wp o2 (fun b => P a b))) : wp o2 (fun b => wp o1 (fun a => P a b)) := by
  obtain ⟨a, e1, b, e2, h⟩ := h
  exact ⟨b, e2, a, e1, h⟩
section RUN
variable {M M1 N N1 : KS} {s s' : ST} {A : Nat → Nat} {P : Nat → Prop}
theorem done_fin2 {w : Int32} {a N' : KS} (h : MKD M N s) (hO : OKR s.2) (h6 : N.1 0 6 = 0) (k1 : KT a 0 s') (k2 : SETD a s') (k3 : FQ cO M a) (n1 : MDs (N'.1 1) s') (n2 : ∀ q, rw6 q → N'.1 q = N.1 q) (n3 : ∀ j, j ≠ 9 → N'.1 0 j = N.1 0 j) : wp (fX5_keep a) (fun M4 => KT M4 0 s' ∧ SETD M4 s' ∧ wp (fX10_ends N' w) (fun e => e.1 = w ∧ e.2.1 0 6 = 0 ∧ MDs (e.2.1 1) s' ∧ BGR M4 e.2)) := by
  obtain ⟨H, c, nx, hp, hX, hm, hb⟩ := h
  have hnx := hp.2.1
  have hc := hp.1
  have nO : ∀ i, i < c → ∀ q, cS (pix nx c i) q → ¬ cO q := fun i hi q hq z => by
    have := pix_n hq
    rcases z with z | z
    · exact this.1 z
    · exact this.2.2 z
  have hp2 : PST a N' H c nx := hp.fr k3 nO (fun z => by rcases z with z | z; have := cS_ix z; omega; omega) (n2 4 (by decide)) (n3 5 (by decide))
  have hX2 : BGX a N' := hX.fr k3 (fun q hq z => by
    have := bx_n hq
    rcases z with z | z
    · exact this.1 z
    · exact this.2.2 z) (NX.of (fun q hq => n2 q (by omega)) (fun j hj => n3 j (by omega)))
  have hm2 : KT a (2 + nx) s := hm.fq2 k3 (fun q hq z => by
    have h1 := cS_ix hq
    rcases z with z | z
    · have := cS_ix z; omega
    · omega)
  have hb2 : MDs (N'.1 2) s := by rw [n2 2 (by decide)]; exact hb
  refine wp_mono (kkeep_wp hp2.2.2.1 hnx hp2.2.2.2.1 hc) ?_
  intro M4 ⟨q1, q2, q3⟩
  have h113 : ∀ f, f ≤ 10 → ∀ a, cS f a → ¬ c113 a := fun f hf a ha z => by have := cS_ix ha; have z' : a = 113 := z; omega
  refine ⟨k1.fr q3 (h113 0 (by decide)), k2.fr q3 (fun a ha z => by have z' : a = 113 := z; omega), ?_⟩
  refine wp_mono (rends0_wp (by rw [n3 6 (by decide)]; exact h6) hp2.2.2.2.2.1 hc) ?_
  intro e ⟨e1, e2, e3, e4, e5⟩
  refine ⟨e1, by rw [e5 6 (by decide), n3 6 (by decide)]; exact h6, by rw [e4 1 (by decide) (by decide)]; exact n1, hp2.push hO hm2 hb2 q1 q2 q3.q e2 e3, ?_⟩
  exact hX2.fr q3.q (fun q hq z => (bx_n hq).2.1 z) (NX.of (fun q hq => e4 q (by omega) (by omega)) (fun j hj => e5 j (by omega)))
theorem ref_fin2 {why w x t : Int32} {a N' : KS} (ht : ¬ t ≤ 0) (h : MKD M N s) (hO : OKR s.2) (k : KREF M s why w (0, a)) (n1 : N'.1 0 6 = t) (n3 : N'.1 0 7 = why) (n4 : N'.1 0 8 = w) (n5 : ∀ q, rw6 q → N'.1 q = N.1 q) (n6 : ∀ j, j ≠ 6 → j ≠ 7 → j ≠ 8 → j ≠ 9 → N'.1 0 j = N.1 0 j) : wp (fX10_ends N' x) (fun e => e.2.1 0 6 = t ∧ MDs (e.2.1 1) s ∧ BGR a e.2) := by
  obtain ⟨H, c, nx, hp, hX, hm, hb⟩ := h
  obtain ⟨_, k1, k2, k3, k4, k5, k6⟩ := k
  have k3 : FQ cOr M a := k3
  refine wp_mono (rends1_wp (t := t) n1 ht) ?_
  intro e ⟨e1, e2, e3⟩
  have f0 : e.2.1 0 = N'.1 0 := e3 0 (by decide)
  have nO : ∀ q, 115 ≤ q → q ≠ 121 → ¬ cOr q := fun q h1 h2 z => by
    rcases z with (z | z) | z
    · have := cS_ix z; omega
    · omega
    · exact h2 z
  refine ⟨by rw [f0]; exact n1, hb.cong hO.1 (fun q hq => by rw [e2 q hq, n5 2 (by decide)]), ⟨H, c, nx, hp.fr k3 (fun i hi q hq z => ?_) (fun z => ?_) (by rw [e3 4 (by decide), n5 4 (by decide)]) (by rw [f0]; exact n6 5 (by decide) (by decide) (by decide) (by decide))⟩, ?_⟩
  · have := pix_n hq
    rcases z with (z | z) | z
    · exact this.1 z
    · exact this.2.2 z
    · have h1 := cS_ix hq
      have h2 := pix_le nx c i
      omega
  · rcases z with (z | z) | z
    · have := cS_ix z; omega
    · omega
    · omega
  · obtain ⟨⟨sv, hv⟩, ⟨ln, ht⟩, ⟨ll, hl⟩, hsc⟩ := hX
    have r3 : e.2.1 3 = N.1 3 := by rw [e3 3 (by decide), n5 3 (by decide)]
    have r18 : e.2.1 18 = N.1 18 := by rw [e3 18 (by decide), n5 18 (by decide)]
    have r19 : e.2.1 19 = N.1 19 := by rw [e3 19 (by decide), n5 19 (by decide)]
    have rj : ∀ j, j ≠ 6 → j ≠ 7 → j ≠ 8 → j ≠ 9 → e.2.1 0 j = N.1 0 j := fun j h1 h2 h3 h4 => by rw [f0]; exact n6 j h1 h2 h3 h4
    have m115 := k3 115 (nO 115 (by decide) (by decide))
    have m116 := k3 116 (nO 116 (by decide) (by decide))
    have m119 := k3 119 (nO 119 (by decide) (by decide))
    have m120 := k3 120 (nO 120 (by decide) (by decide))
    have k4 : a.1 121 10 = why := k4
    have k5 : a.1 121 11 = w := k5
    have k6 : ∀ j, j ≠ 10 → j ≠ 11 → a.1 121 j = M.1 121 j := k6
    refine ⟨⟨sv, ?_⟩, ⟨ln, ht.1, by rw [m115]; exact ht.2.1, by rw [rj 26 (by decide) (by decide) (by decide) (by decide)]; exact ht.2.2.1, fun j hj => by rw [m116, r19]; exact ht.2.2.2 j hj⟩, ⟨ll, hl.1, by rw [m119]; exact hl.2.1, by rw [rj 24 (by decide) (by decide) (by decide) (by decide)]; exact hl.2.2.1, fun j hj => by rw [m120, r18]; exact hl.2.2.2 j hj⟩, by rw [k6 9 (by decide) (by decide), rj 29 (by decide) (by decide) (by decide) (by decide)]; exact hsc.1, by rw [k4, f0, n3], by rw [k5, f0, n4]⟩
    rcases hv with hv | hv
    · exact Or.inl ⟨by rw [k6 8 (by decide) (by decide)]; exact hv.1, by rw [rj 3 (by decide) (by decide) (by decide) (by decide)]; exact hv.2⟩
    · refine Or.inr ⟨by rw [k6 8 (by decide) (by decide)]; exact hv.1, by rw [rj 3 (by decide) (by decide) (by decide) (by decide)]; exact hv.2.1, hv.2.2.1, hv.2.2.2.1.fq2 k3 (fun q hq z => ?_), by rw [r3]; exact hv.2.2.2.2⟩
      have h1 := cS_ix hq
      rcases z with (z | z) | z
      · have := cS_ix z; omega
      · omega
      · omega
theorem back_wp {M16 : KS} (h : MKD M N s) (hO : OKR s.2) (hF : FQ cOr M M16) : wp (fX5_giveBack M16 0) (fun M14 => KT (kset M14 106 9 0) 0 s ∧ FQ cOr M (kset M14 106 9 0) ∧ ∀ j, (kset M14 106 9 0).1 121 j = M16.1 121 j) := by
  obtain ⟨H, c, nx, hp, hX, hm, hb⟩ := h
  have hnx := hp.2.1
  have hm2 : KT M16 (2 + nx) s := hm.fq2 hF (fun q hq z => by
    have h1 := cS_ix hq
    rcases z with (z | z) | z
    · have := cS_ix z; omega
    · omega
    · omega)
  have h113 : M16.1 113 1 = nI nx := by
    rw [hF 113 (fun z => by rcases z with (z | z) | z; have := cS_ix z; omega; omega; omega)]
    exact hp.2.2.1
  refine wp_mono (give_wp hm2 (by have := hO.1; omega) h113 hnx) ?_
  intro M14 ⟨g1, g2⟩
  have f3 : FR (fun a => a = 106) M14 (kset M14 106 9 0) := FR.rf.set rfl
  refine ⟨g1.fr f3 (fun a ha z => by have := cS_ix ha; have z' : a = 106 := z; omega), (hF.tr (g2.q.wk (fun a h => Or.inl (Or.inl h)))).set (Or.inl (Or.inr (by decide))), fun j => ?_⟩
  rw [kset_nc (by decide), g2.1 121 (fun z => by have := cS_ix z; omega)]
/-- what run answers, in both -/
def RUNQ (n : Nat) (r : Sum (Nat × KS) (Int32 × KS)) (yb : Int32 × KS) : Prop :=
  (∃ M', r = .inr (nI n, M') ∧ yb.1 = nI n ∧ yb.2.1 0 6 = 0 ∧ REL M' yb.2) ∨
  (∃ M' e, r = .inl (e, M') ∧ ((e = 0 ∧ yb.2.1 0 6 = 1) ∨ (e = 1 ∧ yb.2.1 0 6 = 2)) ∧ REL M' yb.2)
theorem exit_wp {v6 v7 v8 : Int32} {f : Nat} {Q : Sum (Nat × KS) (Int32 × KS) → Prop} (h7 : ¬ v7 = 0) (h : wp (fX9_run_X59 v6 (v7, M)) Q) : wp (lp (fX9_run_L59 v6) (fX9_run_X59 v6) (f + 1) (v7, v8, M)) Q := by
  rw [lp_s, fX9_run_L59_u]
  exact wp_ite (fun _ => h) (fun _ => wp_neg h7 h)
theorem loop_wp {os : List ORD} {n : Nat} {M5 N12 : KS} {s0 : ST} (h : MKD M5 N12 s0) (hO0 : OKR s0.2) (h6 : N12.1 0 6 = 0) (h31 : N12.1 0 31 = nI n) (hn : os.length = n) (hn21 : n ≤ 21) (hK : KOS M5 os) (hN : NOS N12 os) : ∀ m k, k + m = n → ∀ f1 f2, m < f1 → m < f2 → ∀ M9 N14 s, OKR s.2 → KT M9 0 s → SETD M9 s → FQ cO M5 M9 → MDs (N14.1 1) s → (∀ q, rw6 q → N14.1 q = N12.1 q) → (∀ j, j ≠ 9 → N14.1 0 j = N12.1 0 j) → wp (lp (fX9_run_L59 (nI n)) (fX9_run_X59 (nI n)) f1 (0, nI k, M9)) (fun r => wp (lp fX10_run_L117 fX10_run_X117 f2 (nI k, N14)) (RUNQ n r)) := by
  intro m
  induction m with
  | zero =>
    intro k hk f1 f2 hf1 hf2 M9 N14 s hO hKT hS hF hM n2 n3
    obtain ⟨g1, rfl⟩ : ∃ g, f1 = g + 1 := ⟨f1 - 1, by omega⟩
    obtain ⟨g2, rfl⟩ : ∃ g, f2 = g + 1 := ⟨f2 - 1, by omega⟩
    have hkn : k = n := by omega
    subst hkn
    rw [lp_s, fX9_run_L59_u, lp_s, fX10_run_L117_u]
    have e31 : N14.1 0 31 = nI k := by rw [n3 31 (by decide)]; exact h31
    refine wp_pos (nI_le (Nat.le_refl _) (by omega)) ?_
    rw [fX9_run_X59_u]
    refine wp_jn (wp_pos rfl ?_)
    unfold fX9_run_J102_81
    refine wp_neg (by decide) (wp_neg (by decide) (wp_bind (wp_mono (done_fin2 (w := nI k) h hO0 h6 hKT hS hF hM n2 n3) ?_)))
    intro M4 ⟨q1, q2, q3⟩
    refine wp_some (wp_pos (by rw [e31]; exact nI_le (Nat.le_refl _) (by omega)) ?_)
    unfold fX10_run_X117
    rw [e31]
    refine wp_bd2 (wp_mono q3 ?_)
    intro e ⟨e1, e2, e3, e4⟩
    exact wp_some (Or.inl ⟨M4, rfl, e1, e2, s, hO, q1, e3, q2, e4⟩)
  | succ m ih =>
    intro k hk f1 f2 hf1 hf2 M9 N14 s hO hKT hS hF hM n2 n3
    obtain ⟨g1, rfl⟩ : ∃ g, f1 = g + 1 := ⟨f1 - 1, by omega⟩
    obtain ⟨g2, rfl⟩ : ∃ g, f2 = g + 1 := ⟨f2 - 1, by omega⟩
    obtain ⟨A, hI, _⟩ := lay_ex hO
    have hkn : k < n := by omega
    have hko := hK k (by omega)
    have hko9 : KOr M9 k (os.getD k dO) := by
      have e117 : M9.1 117 = M5.1 117 := hF 117 (fun z => by rcases z with z | z; have := cS_ix z; omega; omega)
      have e118 : M9.1 118 = M5.1 118 := hF 118 (fun z => by rcases z with z | z; have := cS_ix z; omega; omega)
      have h1 := hko.2
      unfold KOr at h1 ⊢
      rw [e117, e118]
      exact h1
    have hno : NOr (kset N14 0 9 0) k (os.getD k dO) := (hN k (by omega)).k (k := k + 1) (fun j _ => by rw [kset_nc (by decide), n2 20 (by decide)]) (Nat.lt_succ_self k)
    have hM18 : MDs ((kset N14 0 9 0).1 1) s := by rw [kset_nc (by decide)]; exact hM
    have e31 : N14.1 0 31 = nI n := by rw [n3 31 (by decide)]; exact h31
    have e1 : (nI k + 1 : Int32) = nI (k + 1) := by rw [li1, nI_add]
    obtain ⟨a, hca, N', hdo, hq⟩ := step_wp hO hKT hS hM18 hI (show k < 21 by omega) hko.1 hko9 hno
    have n18 : ∀ q, rw6 q → (kset N14 0 9 0).1 q = N12.1 q := fun q hq => by rw [kset_nc (by omega)]; exact n2 q hq
    have j18 : ∀ j, j ≠ 9 → (kset N14 0 9 0).1 0 j = N12.1 0 j := fun j hj => by rw [kset_c, if_neg hj]; exact n3 j hj
    rw [lp_s, fX9_run_L59_u, lp_s, fX10_run_L117_u, hca, e1]
    refine wp_neg (nI_ge hkn (by omega)) (wp_pos rfl (wp_bd2 (wp_some (wp_nm ?_))))
    -- the reference's side of it
    have rgo : ∀ {r : Sum (Nat × KS) (Int32 × KS)}, wp (if N'.1 0 6 ≤ 0 then nm (nI (k + 1)) fun v20 => (lp fX10_run_L117 fX10_run_X117 g2) (v20, N') else jn (fX10_run_J155_147 N') (fun K155_147 => (if N'.1 0 9 = 0 then K155_147 1 else K155_147 2))) (RUNQ n r) → wp (if N14.1 0 31 ≤ nI k then fX10_run_X117 N14 else nm (kset N14 0 9 0) fun M18 => (fX10_does M18 (nI k)).bind fun M19 => (if M19.1 0 6 ≤ 0 then nm (nI (k + 1)) fun v20 => (lp fX10_run_L117 fX10_run_X117 g2) (v20, M19) else jn (fX10_run_J155_147 M19) (fun K155_147 => (if M19.1 0 9 = 0 then K155_147 1 else K155_147 2)))) (RUNQ n r) := fun hh => by
      refine wp_neg (by rw [e31]; exact nI_ge hkn (by omega)) (wp_nm ?_)
      rw [hdo]
      exact wp_bind (wp_some hh)
    rcases hq with ⟨s', q1, q2, q3, q4, q5, q6, q7, q8⟩ | ⟨why, w, q2, q3, q4⟩ | ⟨q2, q3, q4⟩
    · rw [q2]
      refine wp_mono (ih (k + 1) (by omega) g1 g2 (by omega) (by omega) a.2 N' s' q1 q3 q4 (hF.tr q5) q6 (fun q hq => (q7 q hq).trans (n18 q hq)) (fun j hj => by rw [q8]; exact j18 j hj)) ?_
      intro r hr
      refine rgo (wp_pos (by rw [q8, j18 6 (by decide), h6]; decide) (wp_nm hr))
    · rw [q2]
      obtain ⟨z1, z2, z3, z4, z5, z6, z7⟩ := q3
      obtain ⟨y1, y2, y3, y4, y5, y6⟩ := q4
      have z4 : FQ cOr M9 a.2 := z4
      have z5 : a.2.1 121 10 = why := z5
      have z6 : a.2.1 121 11 = w := z6
      have z7 : ∀ j, j ≠ 10 → j ≠ 11 → a.2.1 121 j = M9.1 121 j := z7
      have hF16 : FQ cOr M5 a.2 := (hF.wk (fun q h => Or.inl h)).tr z4
      obtain ⟨g3, rfl⟩ : ∃ g, g1 = g + 1 := ⟨g1 - 1, by omega⟩
      refine exit_wp ni1 ?_
      rw [fX9_run_X59_u]
      refine wp_jn (wp_neg ni1 (wp_bind (wp_mono (back_wp h hO0 hF16) ?_)))
      intro M14 ⟨b1, b2, b3⟩
      refine wp_bind (out_wp ?_)
      unfold fX9_run_J102_81
      refine wp_neg (by decide) (wp_pos rfl (wp_some (rgo ?_)))
      have y1 : N'.1 0 6 = 2 := y1
      have y2 : N'.1 0 9 = 1 := y2
      refine wp_neg (by rw [y1]; decide) (wp_jn (wp_neg (by rw [y2]; exact ni1) ?_))
      unfold fX10_run_J155_147
      have kr : KREF M5 s0 why w (0, kset M14 106 9 0) := ⟨rfl, b1, SETD.z (by rw [kset_c, if_pos rfl]), b2, by show (kset M14 106 9 0).1 121 10 = why; rw [b3]; exact z5, by show (kset M14 106 9 0).1 121 11 = w; rw [b3]; exact z6, fun j h1 h2 => by show (kset M14 106 9 0).1 121 j = M5.1 121 j; rw [b3, z7 j h1 h2]; exact congrFun (hF 121 (fun z => by rcases z with z | z; have := cS_ix z; omega; omega)) j⟩
      refine wp_nm (wp_bd2 (wp_mono (ref_fin2 (t := 2) (x := 0) (N' := kset N' 0 6 2) (by decide) h hO0 kr k06 (by rw [kset_c, if_neg (by decide)]; exact y3) (by rw [kset_c, if_neg (by decide)]; exact y4) (fun q hq => by rw [kset_nc (by omega)]; exact (y5 q hq).trans (n18 q hq)) (fun j h1 h2 h3 h4 => by rw [kset_c, if_neg h1]; exact (y6 j h1 h2 h3 h4).trans (j18 j h4))) ?_))
      intro e ⟨e1, e2, e3⟩
      exact wp_some (Or.inr ⟨kset M14 106 9 0, 1, rfl, Or.inr ⟨rfl, e1⟩, s0, hO0, b1, e2, SETD.z (by rw [kset_c, if_pos rfl]), e3⟩)
    · rw [q2, q3]
      obtain ⟨g3, rfl⟩ : ∃ g, g1 = g + 1 := ⟨g1 - 1, by omega⟩
      have hF9 : FQ cOr M5 M9 := hF.wk (fun q h => Or.inl h)
      refine exit_wp (by decide) ?_
      rw [fX9_run_X59_u]
      refine wp_jn (wp_neg (by decide) (wp_bind (wp_mono (back_wp h hO0 hF9) ?_)))
      intro M14 ⟨b1, b2, b3⟩
      refine wp_bind (out_wp ?_)
      unfold fX9_run_J102_81
      refine wp_pos rfl (wp_some (rgo ?_))
      have y1 : N'.1 0 6 = 1 := by rw [q4]; exact k06
      have y2 : N'.1 0 9 = 0 := by rw [q4, kset_c, if_neg (by decide), kset_c, if_pos rfl]
      refine wp_neg (by rw [y1]; decide) (wp_jn (wp_pos y2 ?_))
      unfold fX10_run_J155_147
      have e121 : M9.1 121 = M5.1 121 := hF 121 (fun z => by rcases z with z | z; have := cS_ix z; omega; omega)
      have kr : KREF M5 s0 (M5.1 121 10) (M5.1 121 11) (0, kset M14 106 9 0) := ⟨rfl, b1, SETD.z (by rw [kset_c, if_pos rfl]), b2, by show (kset M14 106 9 0).1 121 10 = _; rw [b3, e121], by show (kset M14 106 9 0).1 121 11 = _; rw [b3, e121], fun j h1 h2 => by show (kset M14 106 9 0).1 121 j = M5.1 121 j; rw [b3, e121]⟩
      have hsc : SCA M5 N12 := by
        obtain ⟨_, _, _, _, hX, _, _⟩ := h
        exact hX.2.2.2
      have jn_ : ∀ j, j ≠ 6 → j ≠ 9 → (kset N' 0 6 1).1 0 j = N12.1 0 j := fun j h1 h2 => by rw [kset_c, if_neg h1, q4, kset_c, if_neg h1]; exact j18 j h2
      refine wp_nm (wp_bd2 (wp_mono (ref_fin2 (t := 1) (x := 0) (N' := kset N' 0 6 1) (by decide) h hO0 kr k06 ((jn_ 7 (by decide) (by decide)).trans hsc.2.1.symm) ((jn_ 8 (by decide) (by decide)).trans hsc.2.2.symm) (fun q hq => by rw [kset_nc (by omega), q4, kset_nc (by omega)]; exact n18 q hq) (fun j h1 h2 h3 h4 => jn_ j h1 h4)) ?_))
      intro e ⟨e1, e2, e3⟩
      exact wp_some (Or.inr ⟨kset M14 106 9 0, 0, rfl, Or.inl ⟨rfl, e1⟩, s0, hO0, b1, e2, SETD.z (by rw [kset_c, if_pos rfl]), e3⟩)
/-- the text is read: it is empty, and the place of the error is kept -/
theorem BGR.rd {M' N' : KS} (h : BGR M N) (ka : ∀ a, a ≠ 115 → a ≠ 117 → a ≠ 118 → a ≠ 121 → M'.1 a = M.1 a) (k3 : M'.1 115 3 = 0) (kj : ∀ j, j ≠ 9 → M'.1 121 j = M.1 121 j) (na : ∀ a, (a = 3 ∨ a = 4 ∨ a = 18) → N'.1 a = N.1 a) (nj : ∀ j, (j = 3 ∨ j = 5 ∨ j = 7 ∨ j = 8 ∨ j = 24) → N'.1 0 j = N.1 0 j) (n26 : N'.1 0 26 = 0) (h29 : M'.1 121 9 = N'.1 0 29) : BGR M' N' := by
  obtain ⟨⟨H, c, nx, hp⟩, ⟨sv, hv⟩, _, ⟨ll, hl⟩, hsc⟩ := h
  have k : FQ (fun a => a = 115 ∨ a = 117 ∨ a = 118 ∨ a = 121) M M' := fun a ha => ka a (fun z => ha (Or.inl z)) (fun z => ha (Or.inr (Or.inl z))) (fun z => ha (Or.inr (Or.inr (Or.inl z)))) (fun z => ha (Or.inr (Or.inr (Or.inr z))))
  refine ⟨⟨H, c, nx, hp.fr k (fun i hi a ha z => ?_) (by decide) (na 4 (by decide)) (nj 5 (by decide))⟩, ⟨sv, ?_⟩, ⟨0, Nat.zero_le _, k3, n26, fun j hj => absurd hj (Nat.not_lt_zero _)⟩, ⟨ll, hl.1, by rw [ka 119 (by decide) (by decide) (by decide) (by decide)]; exact hl.2.1, by rw [nj 24 (by decide)]; exact hl.2.2.1, fun j hj => by rw [ka 120 (by decide) (by decide) (by decide) (by decide), na 18 (by decide)]; exact hl.2.2.2 j hj⟩, h29, by rw [kj 10 (by decide), nj 7 (by decide)]; exact hsc.2.1, by rw [kj 11 (by decide), nj 8 (by decide)]; exact hsc.2.2⟩
  · have h1 := cS_ix ha
    have h2 := pix_le nx c i
    omega
  · rcases hv with hv | hv
    · exact Or.inl ⟨by rw [kj 8 (by decide)]; exact hv.1, by rw [nj 3 (by decide)]; exact hv.2⟩
    · refine Or.inr ⟨by rw [kj 8 (by decide)]; exact hv.1, by rw [nj 3 (by decide)]; exact hv.2.1, hv.2.2.1, hv.2.2.2.1.fq2 k (fun a ha z => ?_), by rw [na 3 (by decide)]; exact hv.2.2.2.2⟩
      have h1 := cS_ix ha
      omega
theorem run_wp (hO : OKR s.2) (hK : KT M 0 s) (hM : MDs (N.1 1) s) (hS : SETD M s) (hB : BGR M N) : wp (fX9_run M) (fun r => wp (fX10_run N) (fun yb => ∃ n, RUNQ n r yb)) := by
  obtain ⟨ln, ht⟩ := hB.2.2.1
  obtain ⟨t, hte⟩ : ∃ t : Nat → Nat, t = fun j => (M.1 116 j).toNatClampNeg := ⟨_, rfl⟩
  have htj : ∀ j, j < ln → M.1 116 j = nI (t j) ∧ N.1 19 j = nI (t j) ∧ t j < 65536 := fun j hj => by
    obtain ⟨c, hc, c1, c2⟩ := ht.2.2.2 j hj
    have e : t j = c := by rw [hte]; show (M.1 116 j).toNatClampNeg = c; rw [c1]; exact nI_clamp (by omega)
    rw [e]
    exact ⟨c1, c2, hc⟩
  have h60 := ht.1
  have kall2 : wp (fX8_readOrders M) (fun b => b.2.2 = M.2 ∧ KFA M b.2 ∧ ((∃ e, prs t ln 21 0 = .inl e ∧ b.1 = nI e ∧ e ≤ 60) ∨ (∃ os, prs t ln 21 0 = .inr os ∧ b.1 = -nI 1 ∧ os.length ≤ 21 ∧ b.2.1 115 4 = nI os.length ∧ KOS b.2 os))) := by
    obtain ⟨b, e, hb⟩ := kall_wp (M := M) (t := t) ht.2.1 (fun j hj => (htj j hj).1) h60 (fun j hj => (htj j hj).2.2)
    exact ⟨b, e, l2_orders rfl b e, hb⟩
  -- the class, behind its reading
  have cls : ∀ (M1 : KS) (v : Int32), KFA M M1 → M1.2 = M.2 → ∃ M4, M4 = kset (kset M1 121 9 v) 115 3 0 ∧ (∀ a, a ≠ 115 → a ≠ 117 → a ≠ 118 → a ≠ 121 → M4.1 a = M.1 a) ∧ M4.1 115 3 = 0 ∧ (∀ j, j ≠ 9 → M4.1 121 j = M.1 121 j) ∧ M4.1 121 9 = v ∧ M4.1 117 = M1.1 117 ∧ M4.1 118 = M1.1 118 ∧ M4.1 115 4 = M1.1 115 4 ∧ KT M4 0 s ∧ SETD M4 s := by
    intro M1 v hF hF2
    obtain ⟨M4, hM4⟩ : ∃ M4, M4 = kset (kset M1 121 9 v) 115 3 0 := ⟨_, rfl⟩
    have ka : ∀ a, a ≠ 115 → a ≠ 117 → a ≠ 118 → a ≠ 121 → M4.1 a = M.1 a := fun a h1 h2 h3 h4 => by rw [hM4, kset_nc h1, kset_nc h4]; exact hF.1 a h1 h2 h3
    have k : FQ (fun a => a = 115 ∨ a = 117 ∨ a = 118 ∨ a = 121) M M4 := fun a ha => ka a (fun z => ha (Or.inl z)) (fun z => ha (Or.inr (Or.inl z))) (fun z => ha (Or.inr (Or.inr (Or.inl z)))) (fun z => ha (Or.inr (Or.inr (Or.inr z))))
    refine ⟨M4, hM4, ka, by rw [hM4, kset_c, if_pos rfl], fun j hj => by rw [hM4, kset_nc (by decide), kset_c, if_neg hj, hF.1 121 (by decide) (by decide) (by decide)], by rw [hM4, kset_nc (by decide), kset_c, if_pos rfl], by rw [hM4, kset_nc (by decide), kset_nc (by decide)], by rw [hM4, kset_nc (by decide), kset_nc (by decide)], by rw [hM4, kset_c, if_neg (by decide), kset_nc (by decide)], hK.fq2 k (fun a ha z => by have := cS_ix ha; omega), ?_⟩
    have k2 : FR (fun a => a = 115 ∨ a = 117 ∨ a = 118 ∨ a = 121) M M4 := ⟨k, by rw [hM4]; exact hF2⟩
    exact hS.fr k2 (fun a ha z => by omega)
  refine wp_swap (rall_wp (t := t) ht.2.2.1 (fun j hj => (htj j hj).2.1) h60 (fun j hj => (htj j hj).2.2) ?_ ?_)
  · intro e N8 hR he h28 hF8
    unfold fX10_run_J90_79 fX10_fails
    refine wp_nm (wp_nm (wp_neg (by rw [kset_c, if_neg (by decide), kset_c, if_neg (by decide), h28]; decide) (wp_bd2 (wp_nm (wp_some (wp_some ?_))))))
    unfold fX9_run
    refine wp_bd2 (wp_mono kall2 ?_)
    rintro ⟨v2, M1⟩ ⟨hL1, hF1, h1⟩
    have hF1 : KFA M M1 := hF1
    have hL1 : M1.2 = M.2 := hL1
    rcases h1 with ⟨e', e1, e2, e3⟩ | ⟨os, e1, _⟩
    · rw [hR] at e1
      have ee : e = e' := Sum.inl.inj e1
      subst ee
      have e2 : v2 = nI e := e2
      subst e2
      obtain ⟨M4, hM4, c1, c2, c3, c4, c5, c6, c7, c8, c9⟩ := cls M1 (nI e) hF1 hL1
      unfold fX8_clear
      refine wp_nm (wp_bind (wp_nm (wp_some ?_)))
      show wp (if (kset (kset M1 121 9 (nI e)) 115 3 0).1 121 9 < 0 then _ else some (Sum.inl (0, kset (kset M1 121 9 (nI e)) 115 3 0))) _
      rw [← hM4, c4]
      refine wp_neg (nI_pos (by omega)) (wp_some ⟨0, Or.inr ⟨M4, 0, rfl, Or.inl ⟨rfl, ?_⟩, s, hO, c8, ?_, c9, hB.rd c1 c2 c3 (fun a ha => ?_) (fun j hj => ?_) ?_ ?_⟩⟩)
      · show (kset (kset (kset N8 0 29 (nI e)) 0 26 0) 0 6 1).1 0 6 = 1
        exact k06
      · show MDs ((kset (kset (kset N8 0 29 (nI e)) 0 26 0) 0 6 1).1 1) s
        rw [kset_nc (by decide), kset_nc (by decide), kset_nc (by decide), hF8.1 1 (by decide) (by decide)]
        exact hM
      · show (kset (kset (kset N8 0 29 (nI e)) 0 26 0) 0 6 1).1 a = N.1 a
        rw [kset_nc (by omega), kset_nc (by omega), kset_nc (by omega), hF8.1 a (by omega) (by omega)]
      · show (kset (kset (kset N8 0 29 (nI e)) 0 26 0) 0 6 1).1 0 j = N.1 0 j
        rw [kset_c, if_neg (by omega), kset_c, if_neg (by omega), kset_c, if_neg (by omega), hF8.2 j (by omega) (by omega) (by omega)]
      · show (kset (kset (kset N8 0 29 (nI e)) 0 26 0) 0 6 1).1 0 26 = 0
        rw [kset_c, if_neg (by decide), kset_c, if_pos rfl]
      · show M4.1 121 9 = (kset (kset (kset N8 0 29 (nI e)) 0 26 0) 0 6 1).1 0 29
        rw [c4, kset_c, if_neg (by decide), kset_c, if_neg (by decide), kset_c, if_pos rfl]
    · rw [hR] at e1
      exact absurd e1 (by simp)
  · intro os N8 hR h28 h31 hN hF8
    refine wp_swap ?_
    unfold fX9_run
    refine wp_bd2 (wp_mono kall2 ?_)
    rintro ⟨v2, M1⟩ ⟨hL1, hF1, h1⟩
    have hF1 : KFA M M1 := hF1
    have hL1 : M1.2 = M.2 := hL1
    rcases h1 with ⟨e', e1, _⟩ | ⟨os', e1, e2, e3, e4, e5⟩
    · rw [hR] at e1
      exact absurd e1 (by simp)
    · rw [hR] at e1
      have ee : os = os' := Sum.inr.inj e1
      subst ee
      have e2 : v2 = -nI 1 := e2
      subst e2
      have e4 : M1.1 115 4 = nI os.length := e4
      have e5 : KOS M1 os := e5
      obtain ⟨M4, hM4, c1, c2, c3, c4, c5, c6, c7, c8, c9⟩ := cls M1 (-nI 1) hF1 hL1
      unfold fX8_clear
      refine wp_nm (wp_bind (wp_nm (wp_some ?_)))
      show wp (if (kset (kset M1 121 9 (-nI 1)) 115 3 0).1 121 9 < 0 then (fX5_mark (kset (kset M1 121 9 (-nI 1)) 115 3 0) 0).bind _ else _) _
      rw [← hM4, c4]
      obtain ⟨N11, hN11⟩ : ∃ N11, N11 = kset (kset N8 0 29 (-nI 1)) 0 26 0 := ⟨_, rfl⟩
      have a11 : ∀ a, a ≠ 0 → a ≠ 20 → N11.1 a = N.1 a := fun a h1 h2 => by rw [hN11, kset_nc h1, kset_nc h1]; exact hF8.1 a h1 h2
      have hB4 : BGR M4 N11 := hB.rd c1 c2 c3 (fun a ha => a11 a (by omega) (by omega)) (fun j hj => by rw [hN11, kset_c, if_neg (by omega), kset_c, if_neg (by omega), hF8.2 j (by omega) (by omega) (by omega)]) (by rw [hN11, kset_c, if_pos rfl]) (by rw [c4, hN11, kset_c, if_neg (by decide), kset_c, if_pos rfl])
      have hM11 : MDs (N11.1 1) s := by rw [a11 1 (by decide) (by decide)]; exact hM
      refine wp_pos nm1l (wp_bind (wp_mono (mark_all hO c8 hM11 c9 hB4) ?_))
      intro M5 ⟨m1, m2, m3, m4⟩
      obtain ⟨N12, hN12, n1, n2, n3, n4, n5⟩ := m4
      have e115 : M5.1 115 4 = nI os.length := by rw [m3 115 (by decide), c7]; exact e4
      rw [e115]
      refine wp_nm ?_
      have hK5 : KOS M5 os := fun q hq => by
        have h1 := e5 q hq
        refine ⟨h1.1, ?_⟩
        have h2 := h1.2
        unfold KOr at h2 ⊢
        rw [m3 117 (by decide), m3 118 (by decide), c5, c6]
        exact h2
      have hN5 : NOS N12 os := fun q hq => (hN q hq).k (k := q + 1) (fun j _ => by rw [n4 20 (by decide) (by decide), hN11, kset_nc (by decide), kset_nc (by decide)]) (Nat.lt_succ_self q)
      have hl := loop_wp (os := os) (n := os.length) n1 hO n3 (by rw [n5 31 (by decide), hN11, kset_c, if_neg (by decide), kset_c, if_neg (by decide)]; exact h31) rfl e3 hK5 hN5 os.length 0 (by omega) 1000000 1000000 (by omega) (by omega) M5 N12 s hO m1 m2 FQ.rf n2 (fun _ _ => rfl) (fun _ _ => rfl)
      refine wp_mono hl ?_
      intro r hr
      unfold fX10_run_J90_79
      refine wp_nm (wp_nm (wp_pos (by rw [kset_c, if_neg (by decide), kset_c, if_neg (by decide)]; exact h28) ?_))
      rw [← hN11, hN12]
      exact wp_bind (wp_some (wp_mono hr (fun yb hy => ⟨_, hy⟩)))
end RUN
section CASX
variable {α : Type} {P : α → Prop} {G : LST → Option α} {M N : KS} {s : ST} {v : Int64} {d : UInt64} {xs : Nat → Int32} {i : Nat}
theorem g_23 (h : REL M N) (hG : ∀ M' N' v' d', REL M' N' → wp (G (M', N', v', d')) P) : wp (gL_23 xs i (M, N, v, d) G) P := by
  obtain ⟨s, hO, hK, hM, hS, hB⟩ := h
  unfold gL_23 fL_run
  refine sim Int32.toInt64 (wp_bind (wp_mono (run_wp hO hK hM hS hB) ?_)) hG
  rintro r ⟨yb, hyb, n, hr⟩
  rw [hyb]
  rcases hr with ⟨M', rfl, r1, r2, r3⟩ | ⟨M', e, rfl, r1, r3⟩
  · exact wp_some (wp_some ⟨r2, fun _ => congrArg Int32.toInt64 r1.symm, r3⟩)
  · rcases r1 with ⟨rfl, r1⟩ | ⟨rfl, r1⟩
    · exact wp_pos rfl (wp_some (wp_some ⟨r1, fun h => absurd h (show ¬ (1 : Int32) = 0 by decide), r3⟩))
    · exact wp_neg (show ¬ (1 : Nat) = 0 by decide) (wp_pos rfl (wp_some (wp_some ⟨r1, fun h => absurd h (show ¬ (2 : Int32) = 0 by decide), r3⟩)))
end CASX
