/-! ===== a rule is proposed ===== -/
def c3 (c0 c1 c2 : Int32) : Nat → Int32 := fun j => if j = 0 then c0 else if j = 1 then c1 else c2
def addR (R : RS) (hd : Nat) (cs : Nat → Int32) : RS := (R.1 + 1, fun r => if r = R.1 then hd else R.2.1 r, fun r j => if r = R.1 then cs j else R.2.2 r j)
abbrev cRx : Nat → Prop := fun a => a = 46 ∨ a = 47 ∨ a = 48
def VC (cs : Nat → Int32) : Prop := ka (cs 0) ≤ 54 ∧ cs 0 ≠ 0 ∧ ka (cs 1) ≤ 54 ∧ ka (cs 2) ≤ 54 ∧ (cs 1 = 0 → cs 2 = 0)
theorem VC.ka {cs : Nat → Int32} (h : VC cs) {j : Nat} (hj : j < 3) : ka (cs j) ≤ 54 := by
  rcases (show j = 0 ∨ j = 1 ∨ j = 2 by omega) with rfl | rfl | rfl
  · exact h.1
  · exact h.2.2.1
  · exact h.2.2.2.1
section PRO
variable {M M1 : KS} {R : RS} {hd : Nat} {cs : Nat → Int32}
theorem addR_lo {r : Nat} (h : r ≠ R.1) : (addR R hd cs).2.1 r = R.2.1 r ∧ (∀ j, (addR R hd cs).2.2 r j = R.2.2 r j) ∧ cnd (addR R hd cs) r = cnd R r := by
  have e : ∀ j, (addR R hd cs).2.2 r j = R.2.2 r j := fun j => by
    show (if r = R.1 then cs j else R.2.2 r j) = _
    rw [if_neg h]
  refine ⟨by show (if r = R.1 then hd else R.2.1 r) = _; rw [if_neg h], e, ?_⟩
  unfold cnd zhas
  rw [e 0, e 1, e 2]
theorem addR_hi : (addR R hd cs).2.1 R.1 = hd ∧ ∀ j, (addR R hd cs).2.2 R.1 j = cs j := ⟨if_pos rfl, fun _ => if_pos rfl⟩
theorem RA.back (h : RB M 0 (R.1 + 1) (addR R hd cs)) (h2 : M.1 (iR 0) 3 = nI R.1) : RA M 0 R := by
  refine ⟨h2, fun r hr => ?_⟩
  have h1 := h r (by omega)
  have e := addR_lo (R := R) (hd := hd) (cs := cs) (r := r) (by omega)
  rw [e.1, e.2.2] at h1
  exact ⟨h1.1, fun j hj => by rw [h1.2.1 j hj, e.2.1], h1.2.2⟩
theorem prop_wp (hR : RA M 0 R) (hn : R.1 ≤ 10) (hV : VC cs) : wp (fX6_propose M 0 (nI hd) (cs 0) (cs 1) (cs 2)) (fun M1 => RB M1 0 (R.1 + 1) (addR R hd cs) ∧ M1.1 (iR 0) 3 = nI R.1 ∧ FR cRx M M1) := by
  have h45 : M.1 45 3 = nI R.1 := hR.1
  have b1 : ¬ M.1 (iR 0) 3 < 0 := by rw [hR.1]; exact fun z => (nI_lt0 (by omega)).mp z
  have b2 : M.1 (iR 0) 3 ≤ 10 := by rw [hR.1, li10, nI_leI (by omega) (by decide)]; exact hn
  have b3 : inb (M.1 (iR 0) 3) 11 := by rw [hR.1]; exact (inb_N (by omega)).mpr (by omega)
  unfold fX6_propose
  refine wp_neg b1 (wp_pos b2 (wp_pos b3 (wp_nm ?_)))
  generalize hMa' : kset M (iRh 0) (M.1 (iR 0) 3).toNatClampNeg (nI hd) = Ma
  have hMa : Ma = kset M 46 (M.1 45 3).toNatClampNeg (nI hd) := hMa'.symm
  have a45 : Ma.1 (iR 0) 3 = nI R.1 := by rw [hMa, kset_nc (by decide)]; exact hR.1
  have e0 : (3 : Int32) * Ma.1 (iR 0) 3 = nI (3 * R.1) := by rw [a45, show (3 : Int32) = nI 3 from rfl, pk_mul]
  refine wp_pos (by rw [e0]; exact (inb_N (by omega)).mpr (by omega)) (wp_nm ?_)
  generalize hMb' : kset Ma (iRc 0) (3 * Ma.1 (iR 0) 3).toNatClampNeg (cs 0) = Mb
  have hMb : Mb = kset Ma 47 (3 * Ma.1 (iR 0) 3).toNatClampNeg (cs 0) := hMb'.symm
  have b45 : Mb.1 (iR 0) 3 = nI R.1 := by rw [hMb, kset_nc (by decide)]; exact a45
  have e1 : (3 : Int32) * Mb.1 (iR 0) 3 + 1 = nI (3 * R.1 + 1) := by rw [b45, show (3 : Int32) = nI 3 from rfl, pk_mul, li1, nI_add]
  refine wp_pos (by rw [e1]; exact (inb_N (by omega)).mpr (by omega)) (wp_nm ?_)
  generalize hMc' : kset Mb (iRc 0) (3 * Mb.1 (iR 0) 3 + 1).toNatClampNeg (cs 1) = Mc
  have hMc : Mc = kset Mb 47 (3 * Mb.1 (iR 0) 3 + 1).toNatClampNeg (cs 1) := hMc'.symm
  have c45 : Mc.1 (iR 0) 3 = nI R.1 := by rw [hMc, kset_nc (by decide)]; exact b45
  have e2 : (3 : Int32) * Mc.1 (iR 0) 3 + 2 = nI (3 * R.1 + 2) := by rw [c45, show (3 : Int32) = nI 3 from rfl, pk_mul, li2, nI_add]
  refine wp_pos (by rw [e2]; exact (inb_N (by omega)).mpr (by omega)) (wp_nm ?_)
  generalize hMd' : kset Mc (iRc 0) (3 * Mc.1 (iR 0) 3 + 2).toNatClampNeg (cs 2) = Md
  have hMd : Md = kset Mc 47 (3 * Mc.1 (iR 0) 3 + 2).toNatClampNeg (cs 2) := hMd'.symm
  have d45 : Md.1 45 3 = nI R.1 := by rw [hMd, kset_nc (by decide)]; exact c45
  have fd : FR cRx M Md := by
    rw [hMd, hMc, hMb, hMa]
    exact ((((FR.rf (P := cRx)).set (by decide)).set (by decide)).set (by decide)).set (by decide)
  have r46 : ∀ r, Md.1 46 r = if r = R.1 then nI hd else M.1 46 r := fun r => by
    rw [hMd, kset_nc (by decide), hMc, kset_nc (by decide), hMb, kset_nc (by decide), hMa, kset_c, h45, nI_clamp (by omega)]
  have r47 : ∀ q, Md.1 47 q = if q = 3 * R.1 + 2 then cs 2 else if q = 3 * R.1 + 1 then cs 1 else if q = 3 * R.1 then cs 0 else M.1 47 q := fun q => by
    rw [hMd, kset_c, e2, nI_clamp (by omega), hMc, kset_c, e1, nI_clamp (by omega), hMb, kset_c, e0, nI_clamp (by omega), hMa, kset_nc (by decide)]
  have r48 : Md.1 48 = M.1 48 := by rw [hMd, kset_nc (by decide), hMc, kset_nc (by decide), hMb, kset_nc (by decide), hMa, kset_nc (by decide)]
  have key : ∀ b : Bool, b = (hz (cs 0) || hz (cs 1) || hz (cs 2)) → wp (fX6_propose_J95_72 0 Md (bI b)) (fun M1 => RB M1 0 (R.1 + 1) (addR R hd cs) ∧ M1.1 (iR 0) 3 = nI R.1 ∧ FR cRx M M1) := by
    intro b hb
    have fin : ∀ w : Int32, w = (if b then nI 63 else nI 1) → (RB (kset Md 48 (Md.1 45 3).toNatClampNeg w) 0 (R.1 + 1) (addR R hd cs) ∧ (kset Md 48 (Md.1 45 3).toNatClampNeg w).1 (iR 0) 3 = nI R.1 ∧ FR cRx M (kset Md 48 (Md.1 45 3).toNatClampNeg w)) := by
      intro w hw
      rw [d45, nI_clamp (by omega)]
      refine ⟨fun r hr => ?_, by show (kset Md 48 R.1 w).1 45 3 = _; rw [kset_nc (by decide)]; exact d45, fd.set (by decide)⟩
      show (kset Md 48 R.1 w).1 46 r = _ ∧ (∀ j, j < 3 → (kset Md 48 R.1 w).1 47 (3 * r + j) = _) ∧ (kset Md 48 R.1 w).1 48 r = _
      rw [kset_nc (by decide), kset_nc (by decide), kset_c, r46, r48]
      by_cases e : r = R.1
      · rw [if_pos e, if_pos e, e]
        refine ⟨congrArg nI addR_hi.1.symm, fun j hj => ?_, ?_⟩
        · rw [r47, addR_hi.2]
          rcases (show j = 0 ∨ j = 1 ∨ j = 2 by omega) with rfl | rfl | rfl
          · rw [if_neg (by omega), if_neg (by omega), if_pos (by omega)]
          · rw [if_neg (by omega), if_pos rfl]
          · rw [if_pos rfl]
        · rw [hw, hb]
          unfold cnd zhas
          rw [addR_hi.2, addR_hi.2, addR_hi.2]
      · have h1 := hR.2 r (by omega)
        have e3 := addR_lo (R := R) (hd := hd) (cs := cs) e
        rw [if_neg e, if_neg e, e3.1, e3.2.2]
        refine ⟨h1.1, fun j hj => ?_, h1.2.2⟩
        rw [r47, if_neg (by omega), if_neg (by omega), if_neg (by omega), e3.2.1]
        exact h1.2.1 j hj
    unfold fX6_propose_J95_72
    have ib : inb (Md.1 (iR 0) 3) 11 := by show inb (Md.1 45 3) 11; rw [d45]; exact (inb_N (by omega)).mpr (by omega)
    cases b
    · exact wp_pos rfl (wp_pos ib (wp_nm (wp_some (fin 1 rfl))))
    · exact wp_neg (by decide) (wp_pos ib (wp_nm (wp_some (fin 63 rfl))))
  rw [kc_hz hV.1]
  refine wp_bind (wp_some (wp_jn ?_))
  by_cases z0 : hz (cs 0) = true
  · exact wp_neg (by rw [z0]; decide) (key true (by rw [z0]; rfl))
  · have z0' : hz (cs 0) = false := by simpa using z0
    refine wp_pos (by rw [z0']; rfl) ?_
    rw [kc_hz hV.2.2.1]
    refine wp_bind (wp_some ?_)
    by_cases z1 : hz (cs 1) = true
    · exact wp_neg (by rw [z1]; decide) (key true (by rw [z0', z1]; rfl))
    · have z1' : hz (cs 1) = false := by simpa using z1
      refine wp_pos (by rw [z1']; rfl) ?_
      rw [kc_hz hV.2.2.2.1]
      refine wp_bind (wp_some ?_)
      by_cases z2 : hz (cs 2) = true
      · exact wp_neg (by rw [z2]; decide) (key true (by rw [z0', z1', z2]; rfl))
      · have z2' : hz (cs 2) = false := by simpa using z2
        exact wp_pos (by rw [z2']; rfl) (key false (by rw [z0', z1', z2']; rfl))
end PRO
