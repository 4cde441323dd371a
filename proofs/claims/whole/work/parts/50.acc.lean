/-! ===== accounts ===== -/
section ACC
variable {M M' N N' : KS} {s : ST} {A A' : Nat → Nat} {P : Nat → Prop}
def anum (s : ST) (A : Nat → Nat) (ln c : Int32) (w : Nat) : Int32 :=
  if w = 0 then nI (fb_ct (DV s.1 s.2 A).1 216) else if w = 1 then nI (fb_ct s.1 216) else if w = 2 then nI s.2.1 else if w = 3 then nI (fb_sm (rr s.2 A (X0 s.1)) 6) else if w = 4 then nI (mx6 (DV s.1 s.2 A).2.1 216) else if w = 5 then nI (mx6 (DV s.1 s.2 A).2.2.2.2.1 216) else if w = 6 then nI (mx6 (fun k => if (DV s.1 s.2 A).1 k then fb_ct ((DV s.1 s.2 A).2.2.2.2.2 k) 216 else 0) 216) else if w = 7 then nI (fb_sm (ngd s.2) s.2.1) else if w = 8 then ln else c
theorem anum_s (ln c : Int32) : anum s A ln c 0 = nI (fb_ct (DV s.1 s.2 A).1 216) ∧ anum s A ln c 1 = nI (fb_ct s.1 216) ∧ anum s A ln c 2 = nI s.2.1 ∧ anum s A ln c 3 = nI (fb_sm (rr s.2 A (X0 s.1)) 6) ∧ anum s A ln c 4 = nI (mx6 (DV s.1 s.2 A).2.1 216) ∧ anum s A ln c 5 = nI (mx6 (DV s.1 s.2 A).2.2.2.2.1 216) ∧ anum s A ln c 6 = nI (mx6 (fun k => if (DV s.1 s.2 A).1 k then fb_ct ((DV s.1 s.2 A).2.2.2.2.2 k) 216 else 0) 216) ∧ anum s A ln c 7 = nI (fb_sm (ngd s.2) s.2.1) ∧ anum s A ln c 8 = ln ∧ anum s A ln c 9 = c := by
  refine ⟨?_, ?_, ?_, ?_, ?_, ?_, ?_, ?_, ?_, ?_⟩ <;> unfold anum <;> (repeat (first | rw [if_pos rfl] | rw [if_neg (by decide)]))
theorem kq_acc (hO : OKR s.2) (hK : KT M 0 s) (hS : SETD M s) (hI : IsLay s.2 s.2.1 A) (a1 ln c : Int32) (hln : M.1 115 3 = ln) (hc : M.1 113 2 = c) (q : Sum Nat Int32) (hq : (∃ w, w < 10 ∧ a1 = nI w ∧ q = .inr (anum s A ln c w)) ∨ ((a1 < nI 0 ∨ ¬ a1 < nI 0 ∧ nI 10 ≤ a1) ∧ q = .inl 0)) : wp (fX9_account M a1) (CQ M s q) := by
  have an := anum_s (s := s) (A := A) ln c
  have hB := XB.DV_ (T := s.1) (A := A) hO.ok
  unfold fX9_account
  rcases hq with ⟨w, hw, rfl, rfl⟩ | ⟨hb, rfl⟩
  · rcases (show w = 0 ∨ w = 1 ∨ w = 2 ∨ w = 3 ∨ w = 4 ∨ w = 5 ∨ w = 6 ∨ w = 7 ∨ w = 8 ∨ w = 9 by omega) with rfl | rfl | rfl | rfl | rfl | rfl | rfl | rfl | rfl | rfl
    · refine wp_pos rfl (wp_bind (wp_mono (held_wp hO hK hS hI) ?_))
      intro M1 ⟨h1, h2, h3, h4⟩
      rw [size_eq h1.2.2.2.1, an.1]
      exact wp_bind (wp_some (wp_some (CQ.inr h4 h2)))
    · refine wp_neg (by decide) (wp_pos rfl ?_)
      rw [size_eq hK.1, an.2.1]
      exact wp_bind (wp_some (wp_some (CQ.inr FQ.rf hS)))
    · refine wp_neg (by decide) (wp_neg (by decide) (wp_pos rfl (wp_some ?_)))
      rw [hK.2.1, an.2.2.1]
      exact CQ.inr FQ.rf hS
    · refine wp_neg (by decide) (wp_neg (by decide) (wp_neg (by decide) (wp_pos rfl (wp_bind (wp_mono (set_wp hO hK hS hI) ?_)))))
      intro M1 ⟨h1, h2, h3, h4⟩
      rw [krall_eq h1 hO, an.2.2.2.1]
      exact wp_bind (wp_some (wp_some (CQ.inr h4 h2)))
    · refine wp_neg (by decide) (wp_neg (by decide) (wp_neg (by decide) (wp_neg (by decide) (wp_pos rfl (wp_bind (wp_mono (set_wp hO hK hS hI) ?_))))))
      intro M1 ⟨h1, h2, h3, h4⟩
      rw [kmaxs_eq h1.2.2.2.2 hB, an.2.2.2.2.1]
      exact wp_bind (wp_some (wp_some (CQ.inr h4 h2)))
    · refine wp_neg (by decide) (wp_neg (by decide) (wp_neg (by decide) (wp_neg (by decide) (wp_neg (by decide) (wp_pos rfl (wp_bind (wp_mono (set_wp hO hK hS hI) ?_)))))))
      intro M1 ⟨h1, h2, h3, h4⟩
      rw [kmaxd_eq h1.2.2.2.2 hB (by decide), an.2.2.2.2.2.1]
      exact wp_bind (wp_some (wp_some (CQ.inr h4 h2)))
    · refine wp_neg (by decide) (wp_neg (by decide) (wp_neg (by decide) (wp_neg (by decide) (wp_neg (by decide) (wp_neg (by decide) (wp_pos rfl (wp_bind (wp_mono (set_wp hO hK hS hI) ?_))))))))
      intro M1 ⟨h1, h2, h3, h4⟩
      rw [kgsz_eq h1.2.2.2.2 h1.2.2.2.1, an.2.2.2.2.2.2.1]
      exact wp_bind (wp_some (wp_some (CQ.inr h4 h2)))
    · refine wp_neg (by decide) (wp_neg (by decide) (wp_neg (by decide) (wp_neg (by decide) (wp_neg (by decide) (wp_neg (by decide) (wp_neg (by decide) (wp_pos rfl ?_)))))))
      rw [kngd_eq hK.2 hO.1, an.2.2.2.2.2.2.2.1]
      exact wp_bind (wp_some (wp_some (CQ.inr FQ.rf hS)))
    · refine wp_neg (by decide) (wp_neg (by decide) (wp_neg (by decide) (wp_neg (by decide) (wp_neg (by decide) (wp_neg (by decide) (wp_neg (by decide) (wp_neg (by decide) (wp_pos rfl (wp_some ?_)))))))))
      rw [hln, an.2.2.2.2.2.2.2.2.1]
      exact CQ.inr FQ.rf hS
    · refine wp_neg (by decide) (wp_neg (by decide) (wp_neg (by decide) (wp_neg (by decide) (wp_neg (by decide) (wp_neg (by decide) (wp_neg (by decide) (wp_neg (by decide) (wp_neg (by decide) (wp_pos rfl (wp_some ?_))))))))))
      rw [hc, an.2.2.2.2.2.2.2.2.2]
      exact CQ.inr FQ.rf hS
  · have ne := fun w (hw : w < 10) => four_ne (by decide) hb hw
    exact wp_neg (ne 0 (by decide)) (wp_neg (ne 1 (by decide)) (wp_neg (ne 2 (by decide)) (wp_neg (ne 3 (by decide)) (wp_neg (ne 4 (by decide)) (wp_neg (ne 5 (by decide)) (wp_neg (ne 6 (by decide)) (wp_neg (ne 7 (by decide)) (wp_neg (ne 8 (by decide)) (wp_neg (ne 9 (by decide)) (wp_some (CQ.inl FQ.rf hS)))))))))))
theorem rq_acc (hO : OKR s.2) (hM : MDs (N.1 1) s) (hI : IsLay s.2 s.2.1 A) (a1 ln c t v : Int32) (hln : N.1 0 26 = ln) (hc : N.1 0 5 = c) (hq : (∃ w, w < 10 ∧ a1 = nI w ∧ t = 0 ∧ v = anum s A ln c w) ∨ ((a1 < nI 0 ∨ ¬ a1 < nI 0 ∧ nI 10 ≤ a1) ∧ t = 1)) : wp (fX10_account N a1) (NQ N s t v) := by
  have an := anum_s (s := s) (A := A) ln c
  have hB := XB.DV_ (T := s.1) (A := A) hO.ok
  have hSX := SX.DV_ (T := s.1) hI.1 hO.ok
  have hst0 := DV_st0 (T := s.1) hI.1 hO.ok
  unfold fX10_account
  refine wp_jn ?_
  rcases hq with ⟨w, hw, rfl, rfl, rfl⟩ | ⟨hb, rfl⟩
  · refine wp_neg (by rw [show fX10_in (nI w) 0 9 = 1 from rin_y (n := 9) hw (by decide)]; decide) ?_
    unfold fX10_account_J16_8
    refine wp_nm (wp_pos (by rw [k06]; decide) ?_)
    refine wp_bind (wp_mono (rd0_wp hO hM hI) ?_)
    intro N4 ⟨h1, h2, h3, h4⟩
    rcases (show w = 0 ∨ w = 1 ∨ w = 2 ∨ w = 3 ∨ w = 4 ∨ w = 5 ∨ w = 6 ∨ w = 7 ∨ w = 8 ∨ w = 9 by omega) with rfl | rfl | rfl | rfl | rfl | rfl | rfl | rfl | rfl | rfl
    · refine wp_pos rfl ?_
      rw [rholda_eq h1.x.stg, an.1]
      exact wp_bind (wp_some (wp_some (NQ.ok h2 h3 h4)))
    · refine wp_neg (by decide) (wp_pos rfl ?_)
      rw [rtolda_eq h4.1, an.2.1]
      exact wp_bind (wp_some (wp_some (NQ.ok h2 h3 h4)))
    · refine wp_neg (by decide) (wp_neg (by decide) (wp_pos rfl (wp_pos (by decide) (wp_some ?_))))
      rw [show (216 : Int32).toNatClampNeg = 216 by decide, h4.2.1, an.2.2.1]
      exact NQ.ok h2 h3 h4
    · refine wp_neg (by decide) (wp_neg (by decide) (wp_neg (by decide) (wp_pos rfl ?_)))
      rw [rrall_eq h1.2.2.1, an.2.2.2.1]
      exact wp_bind (wp_some (wp_some (NQ.ok h2 h3 h4)))
    · refine wp_neg (by decide) (wp_neg (by decide) (wp_neg (by decide) (wp_neg (by decide) (wp_pos rfl ?_))))
      rw [rmaxsa_eq h1.x hst0, an.2.2.2.2.1]
      exact wp_bind (wp_some (wp_some (NQ.ok h2 h3 h4)))
    · refine wp_neg (by decide) (wp_neg (by decide) (wp_neg (by decide) (wp_neg (by decide) (wp_neg (by decide) (wp_pos rfl ?_)))))
      rw [an.2.2.2.2.2.1]
      refine wp_bd2 (wp_mono (rdep_wp h1.x hB hSX h4.2.2 hO (by decide) false) ?_)
      rintro ⟨z, N6⟩ ⟨g1, g2⟩
      rw [if_neg (by decide)] at g1
      have g1 : z = nI (mx6 (DV s.1 s.2 A).2.2.2.2.1 216) := g1
      subst g1
      exact wp_some (NQ.fr h2 h3 h4 g2 (by decide) (by decide) (by decide) (by decide) (by decide) (by decide))
    · refine wp_neg (by decide) (wp_neg (by decide) (wp_neg (by decide) (wp_neg (by decide) (wp_neg (by decide) (wp_neg (by decide) (wp_pos rfl ?_))))))
      rw [an.2.2.2.2.2.2.1]
      refine wp_bd2 (wp_mono (rgsz_wp h1.x hB hSX h4.2.2 hO) ?_)
      rintro ⟨z, N6⟩ ⟨g1, g2⟩
      have g1 : z = nI (mx6 (fun k => if (DV s.1 s.2 A).1 k then fb_ct ((DV s.1 s.2 A).2.2.2.2.2 k) 216 else 0) 216) := g1
      subst g1
      exact wp_some (NQ.fr h2 h3 h4 g2 (by decide) (by decide) (by decide) (by decide) (by decide) (by decide))
    · refine wp_neg (by decide) (wp_neg (by decide) (wp_neg (by decide) (wp_neg (by decide) (wp_neg (by decide) (wp_neg (by decide) (wp_neg (by decide) (wp_pos rfl ?_)))))))
      rw [rngd_eq h4.2.1 h4.2.2 hO.1, an.2.2.2.2.2.2.2.1]
      exact wp_bind (wp_some (wp_some (NQ.ok h2 h3 h4)))
    · refine wp_neg (by decide) (wp_neg (by decide) (wp_neg (by decide) (wp_neg (by decide) (wp_neg (by decide) (wp_neg (by decide) (wp_neg (by decide) (wp_neg (by decide) (wp_pos rfl (wp_some ?_)))))))))
      rw [h3.2 26 (by decide), hln, an.2.2.2.2.2.2.2.2.1]
      exact NQ.ok h2 h3 h4
    · refine wp_neg (by decide) (wp_neg (by decide) (wp_neg (by decide) (wp_neg (by decide) (wp_neg (by decide) (wp_neg (by decide) (wp_neg (by decide) (wp_neg (by decide) (wp_neg (by decide) (wp_some ?_)))))))))
      rw [h3.2 5 (by decide), hc, an.2.2.2.2.2.2.2.2.2]
      exact NQ.ok h2 h3 h4
  · refine wp_pos (by rw [show fX10_in a1 0 9 = 0 from rin_n (n := 9) (by decide) hb]) ?_
    unfold fX10_account_J16_8
    exact wp_nm (wp_neg (by rw [k06]; decide) (wp_some (NQ.bad (by decide) hM)))
theorem kq_well (hO : OKR s.2) (hK : KT M 0 s) (hS : SETD M s) (hI : IsLay s.2 s.2.1 A) : wp (fX9_isWell M) (fun a => a.1 = 1 ∧ SETD a.2 s ∧ FQ cQ M a.2) := by
  unfold fX9_isWell
  refine wp_bind (wp_mono (set_wp hO hK hS hI) ?_)
  intro M1 ⟨h1, h2, h3, h4⟩
  refine wp_bind (wp_mono (deriveFrom_wp h3.2 hO h3.1) ?_)
  intro M2 ⟨A', a1, a2, a3, a4⟩
  have g2 : FQ cQ M1 M2 := a4.q.wk cAG_Q
  have hK2 : KD M2 s.1 s.2 A := h1.fr a4 cAG_n
  have hT2 : KT M2 0 s := h3.cq (by decide) g2
  rw [DV_A hO.ok (lay_one a1 hI)] at a3
  rw [same_eq a3 hK2.2.2.2.1]
  refine wp_bind (wp_some (wp_neg (by decide) ?_))
  rw [kclosed_eq hT2.2 hO hK2.2.2.2.1 (DV_cl hI hK2.2.1 hO)]
  refine wp_bind (wp_some (wp_neg (by decide) ?_))
  rw [kfound_eq hK2 hT2.2 hO hT2.1]
  exact wp_bind (wp_some (wp_neg (by decide) (wp_some ⟨rfl, h2.fr a4 cAG_n, h4.tr g2⟩)))
end ACC
