abbrev nn64 (r : UInt64) : Prop := r &&& 0x7fffffffffffffff ≤ 0x7ff0000000000000
abbrev nn32 (r : UInt32) : Prop := r &&& 0x7fffffff ≤ 0x7f800000
theorem k_look3 {x a b c : Int32} {A B C o1 o2 o3 d : Int} (h1 : ¬ x = a) (h2 : ¬ x = b) (h3 : ¬ x = c) (hA : a.toInt = A) (hB : b.toInt = B) (hC : c.toInt = C) : Op.lookupswitch.offset [(A, o1), (B, o2), (C, o3)] d x.toInt = d := by
  have g1 : ¬ A = x.toInt := fun z => h1 (Int32.toInt_inj.mp (z.symm.trans hA.symm))
  have g2 : ¬ B = x.toInt := fun z => h2 (Int32.toInt_inj.mp (z.symm.trans hB.symm))
  have g3 : ¬ C = x.toInt := fun z => h3 (Int32.toInt_inj.mp (z.symm.trans hC.symm))
  simp [Op.lookupswitch.offset, g1, g2, g3]
/-! ===== shapes ===== -/
def iF (f : Nat) : Nat := 3 * f
def iFt (f : Nat) : Nat := 3 * f + 1
def iFf (f : Nat) : Nat := 3 * f + 2
def iR (r : Nat) : Nat := 45 + 4 * r
def iRh (r : Nat) : Nat := 46 + 4 * r
def iRc (r : Nat) : Nat := 47 + 4 * r
def iRa (r : Nat) : Nat := 48 + 4 * r
def iS (s : Nat) : Nat := 89 + s
def iY (y : Nat) : Nat := 100 + 2 * y
def iYl (y : Nat) : Nat := 101 + 2 * y
def kindK (i : Nat) : Nat := if i < 45 then (if i % 3 = 0 then 0 else 1) else if i < 89 then (if (i - 45) % 4 = 0 then 0 else 1) else if i < 100 then 0 else if i < 106 then (if i % 2 = 0 then 0 else 1) else if i = 106 then 0 else if i < 111 then 1 else if i = 111 then 4 else if i < 114 then 0 else if i = 114 then 5 else if i = 115 then 0 else if i < 118 then 2 else if i = 118 then 1 else if i = 119 then 0 else if i = 120 then 2 else 0
def clsK (i : Nat) : Nat := if i < 45 then 4 else if i < 89 then 8 else if i < 100 then 9 else if i < 106 then 5 else if i = 106 then 3 else if i = 112 then 2 else if i = 113 then 7 else if i = 115 then 10 else if i = 119 then 6 else 11
def lenK (i : Nat) : Nat := if i < 45 then (if i % 3 = 0 then 2 else 36) else if i < 89 then (if (i - 45) % 4 = 0 then 4 else if (i - 45) % 4 = 2 then 33 else 11) else if i < 100 then 2 else if i < 106 then (if i % 2 = 0 then 1 else 6) else if i = 106 then 10 else if i < 111 then 216 else if i = 111 then 1296 else if i = 112 then 2 else if i = 113 then 3 else if i = 114 then 9 else if i = 115 then 6 else if i = 116 then 60 else if i = 117 then 21 else if i = 118 then 84 else if i = 119 then 2 else if i = 120 then 24 else 12
def rfK (i k : Nat) : Option Nat := if i < 45 then (if i % 3 = 0 then some (i + 1 + k) else none) else if i < 89 then (if (i - 45) % 4 = 0 ∧ k < 3 then some (i + 1 + k) else none) else if i < 100 then (if k = 0 then some (iF (i - 89)) else some (iR (i - 89))) else if i < 106 then (if i % 2 = 0 then some (i + 1) else none) else if i = 106 then (if k < 3 then some (iF (11 + k)) else if k = 3 then some (iY 0) else if k < 9 then some (103 + k) else none) else if i = 112 then (if k = 0 then some (iF 14) else some (iY 1)) else if i = 113 then (if k = 0 then some 114 else none) else if i = 114 then some (iS (2 + k)) else if i = 115 then (if k < 3 then some (116 + k) else none) else if i = 119 then (if k = 0 then some 120 else none) else if i = 121 then (if k = 0 then some (iS 0) else if k = 1 then some (iS 1) else if k = 2 then some 113 else if k = 3 then some 106 else if k = 4 then some 112 else if k = 5 then some (iY 2) else if k = 6 then some 115 else if k = 7 then some 119 else none) else none
def SK : SH := (122, kindK, clsK, lenK, rfK)
def kindM (i : Nat) : Nat := if i = 1 then 1 else if i = 2 then 1 else if i = 3 then 1 else if i = 4 then 1 else if i = 5 then 1 else if i = 6 then 1 else if i = 7 then 1 else if i = 8 then 1 else if i = 9 then 1 else if i = 10 then 1 else if i = 11 then 1 else if i = 12 then 1 else if i = 13 then 1 else if i = 14 then 3 else if i = 15 then 1 else if i = 16 then 1 else if i = 17 then 1 else if i = 18 then 2 else if i = 19 then 2 else if i = 20 then 1 else 0
def lenM (i : Nat) : Nat := if i = 1 then 257 else if i = 2 then 257 else if i = 3 then 257 else if i = 4 then 2056 else if i = 5 then 6 else if i = 6 then 216 else if i = 7 then 216 else if i = 8 then 216 else if i = 9 then 217 else if i = 10 then 6 else if i = 11 then 3 else if i = 12 then 3 else if i = 13 then 216 else if i = 14 then 216 else if i = 15 then 3 else if i = 16 then 257 else if i = 17 then 6 else if i = 18 then 40 else if i = 19 then 60 else if i = 20 then 300 else 32
def rfM (i k : Nat) : Option Nat := if i = 0 then (if k = 0 then some 1 else if k = 1 then some 2 else if k = 2 then some 3 else if k = 4 then some 4 else if k = 10 then some 5 else if k = 11 then some 6 else if k = 12 then some 7 else if k = 13 then some 8 else if k = 14 then some 9 else if k = 15 then some 10 else if k = 16 then some 11 else if k = 17 then some 12 else if k = 18 then some 13 else if k = 19 then some 14 else if k = 20 then some 15 else if k = 21 then some 16 else if k = 22 then some 17 else if k = 23 then some 18 else if k = 25 then some 19 else if k = 30 then some 20 else none) else none
def SM : SH := (21, kindM, fun _ => 12, lenM, rfM)
theorem oF {f : Nat} (h : f < 15) : OBJ SK (iF f) 4 2 := by
  unfold OBJ
  revert f
  decide +kernel
theorem rF0 {f : Nat} (h : f < 15) : SK.2.2.2.2 (iF f) 0 = some (iFt f) := by
  revert f
  decide +kernel
theorem aF0 {f : Nat} (h : f < 15) : ARR SK (iFt f) 1 36 := by
  unfold ARR
  revert f
  decide +kernel
theorem rF1 {f : Nat} (h : f < 15) : SK.2.2.2.2 (iF f) 1 = some (iFf f) := by
  revert f
  decide +kernel
theorem aF1 {f : Nat} (h : f < 15) : ARR SK (iFf f) 1 36 := by
  unfold ARR
  revert f
  decide +kernel
theorem oR {f : Nat} (h : f < 11) : OBJ SK (iR f) 8 4 := by
  unfold OBJ
  revert f
  decide +kernel
theorem rR0 {f : Nat} (h : f < 11) : SK.2.2.2.2 (iR f) 0 = some (iRh f) := by
  revert f
  decide +kernel
theorem aR0 {f : Nat} (h : f < 11) : ARR SK (iRh f) 1 11 := by
  unfold ARR
  revert f
  decide +kernel
theorem rR1 {f : Nat} (h : f < 11) : SK.2.2.2.2 (iR f) 1 = some (iRc f) := by
  revert f
  decide +kernel
theorem aR1 {f : Nat} (h : f < 11) : ARR SK (iRc f) 1 33 := by
  unfold ARR
  revert f
  decide +kernel
theorem rR2 {f : Nat} (h : f < 11) : SK.2.2.2.2 (iR f) 2 = some (iRa f) := by
  revert f
  decide +kernel
theorem aR2 {f : Nat} (h : f < 11) : ARR SK (iRa f) 1 11 := by
  unfold ARR
  revert f
  decide +kernel
theorem nR3 {f : Nat} (h : f < 11) : SK.2.2.2.2 (iR f) 3 = none := by
  revert f
  decide +kernel
theorem oS {f : Nat} (h : f < 11) : OBJ SK (iS f) 9 2 := by
  unfold OBJ
  revert f
  decide +kernel
theorem rS0 {f : Nat} (h : f < 11) : SK.2.2.2.2 (iS f) 0 = some (iF f) := by
  revert f
  decide +kernel
theorem rS1 {f : Nat} (h : f < 11) : SK.2.2.2.2 (iS f) 1 = some (iR f) := by
  revert f
  decide +kernel
theorem oY {f : Nat} (h : f < 3) : OBJ SK (iY f) 5 1 := by
  unfold OBJ
  revert f
  decide +kernel
theorem rY0 {f : Nat} (h : f < 3) : SK.2.2.2.2 (iY f) 0 = some (iYl f) := by
  revert f
  decide +kernel
theorem aY0 {f : Nat} (h : f < 3) : ARR SK (iYl f) 1 6 := by
  unfold ARR
  revert f
  decide +kernel
theorem oD : OBJ SK 106 3 10 := by
  unfold OBJ
  decide +kernel
theorem rD0 : SK.2.2.2.2 106 0 = some (iF 11) := by decide +kernel
theorem rD1 : SK.2.2.2.2 106 1 = some (iF 12) := by decide +kernel
theorem rD2 : SK.2.2.2.2 106 2 = some (iF 13) := by decide +kernel
theorem rD3 : SK.2.2.2.2 106 3 = some (iY 0) := by decide +kernel
theorem rD4 : SK.2.2.2.2 106 4 = some 107 := by decide +kernel
theorem aD4 : ARR SK 107 1 216 := by
  unfold ARR
  decide +kernel
theorem rD5 : SK.2.2.2.2 106 5 = some 108 := by decide +kernel
theorem aD5 : ARR SK 108 1 216 := by
  unfold ARR
  decide +kernel
theorem rD6 : SK.2.2.2.2 106 6 = some 109 := by decide +kernel
theorem aD6 : ARR SK 109 1 216 := by
  unfold ARR
  decide +kernel
theorem rD7 : SK.2.2.2.2 106 7 = some 110 := by decide +kernel
theorem aD7 : ARR SK 110 1 216 := by
  unfold ARR
  decide +kernel
theorem rD8 : SK.2.2.2.2 106 8 = some 111 := by decide +kernel
theorem aD8 : ARR SK 111 4 1296 := by
  unfold ARR
  decide +kernel
theorem nD9 : SK.2.2.2.2 106 9 = none := by decide +kernel
theorem oA : OBJ SK 112 2 2 := by
  unfold OBJ
  decide +kernel
theorem rA0 : SK.2.2.2.2 112 0 = some (iF 14) := by decide +kernel
theorem rA1 : SK.2.2.2.2 112 1 = some (iY 1) := by decide +kernel
theorem oP : OBJ SK 113 7 3 := by
  unfold OBJ
  decide +kernel
theorem rP0 : SK.2.2.2.2 113 0 = some 114 := by decide +kernel
theorem aP0 : ARR SK 114 5 9 := by
  unfold ARR
  decide +kernel
theorem nP1 : SK.2.2.2.2 113 1 = none := by decide +kernel
theorem nP2 : SK.2.2.2.2 113 2 = none := by decide +kernel
theorem oT : OBJ SK 115 10 6 := by
  unfold OBJ
  decide +kernel
theorem rT0 : SK.2.2.2.2 115 0 = some 116 := by decide +kernel
theorem aT0 : ARR SK 116 2 60 := by
  unfold ARR
  decide +kernel
theorem rT1 : SK.2.2.2.2 115 1 = some 117 := by decide +kernel
theorem aT1 : ARR SK 117 2 21 := by
  unfold ARR
  decide +kernel
theorem rT2 : SK.2.2.2.2 115 2 = some 118 := by decide +kernel
theorem aT2 : ARR SK 118 1 84 := by
  unfold ARR
  decide +kernel
theorem nT3 : SK.2.2.2.2 115 3 = none := by decide +kernel
theorem nT4 : SK.2.2.2.2 115 4 = none := by decide +kernel
theorem nT5 : SK.2.2.2.2 115 5 = none := by decide +kernel
theorem oL : OBJ SK 119 6 2 := by
  unfold OBJ
  decide +kernel
theorem rL0 : SK.2.2.2.2 119 0 = some 120 := by decide +kernel
theorem aL0 : ARR SK 120 2 24 := by
  unfold ARR
  decide +kernel
theorem nL1 : SK.2.2.2.2 119 1 = none := by decide +kernel
theorem oK : OBJ SK 121 11 12 := by
  unfold OBJ
  decide +kernel
theorem rK0 : SK.2.2.2.2 121 0 = some (iS 0) := by decide +kernel
theorem rK1 : SK.2.2.2.2 121 1 = some (iS 1) := by decide +kernel
theorem rK2 : SK.2.2.2.2 121 2 = some 113 := by decide +kernel
theorem rK3 : SK.2.2.2.2 121 3 = some 106 := by decide +kernel
theorem rK4 : SK.2.2.2.2 121 4 = some 112 := by decide +kernel
theorem rK5 : SK.2.2.2.2 121 5 = some (iY 2) := by decide +kernel
theorem rK6 : SK.2.2.2.2 121 6 = some 115 := by decide +kernel
theorem rK7 : SK.2.2.2.2 121 7 = some 119 := by decide +kernel
theorem nK8 : SK.2.2.2.2 121 8 = none := by decide +kernel
theorem nK9 : SK.2.2.2.2 121 9 = none := by decide +kernel
theorem nK10 : SK.2.2.2.2 121 10 = none := by decide +kernel
theorem nK11 : SK.2.2.2.2 121 11 = none := by decide +kernel
theorem oM : OBJ SM 0 12 32 := by
  unfold OBJ
  decide +kernel
theorem rM0 : SM.2.2.2.2 0 0 = some 1 := by decide +kernel
theorem aM0 : ARR SM 1 1 257 := by
  unfold ARR
  decide +kernel
theorem rM1 : SM.2.2.2.2 0 1 = some 2 := by decide +kernel
theorem aM1 : ARR SM 2 1 257 := by
  unfold ARR
  decide +kernel
theorem rM2 : SM.2.2.2.2 0 2 = some 3 := by decide +kernel
theorem aM2 : ARR SM 3 1 257 := by
  unfold ARR
  decide +kernel
theorem nM3 : SM.2.2.2.2 0 3 = none := by decide +kernel
theorem rM4 : SM.2.2.2.2 0 4 = some 4 := by decide +kernel
theorem aM4 : ARR SM 4 1 2056 := by
  unfold ARR
  decide +kernel
theorem nM5 : SM.2.2.2.2 0 5 = none := by decide +kernel
theorem nM6 : SM.2.2.2.2 0 6 = none := by decide +kernel
theorem nM7 : SM.2.2.2.2 0 7 = none := by decide +kernel
theorem nM8 : SM.2.2.2.2 0 8 = none := by decide +kernel
theorem nM9 : SM.2.2.2.2 0 9 = none := by decide +kernel
theorem rM10 : SM.2.2.2.2 0 10 = some 5 := by decide +kernel
theorem aM10 : ARR SM 5 1 6 := by
  unfold ARR
  decide +kernel
theorem rM11 : SM.2.2.2.2 0 11 = some 6 := by decide +kernel
theorem aM11 : ARR SM 6 1 216 := by
  unfold ARR
  decide +kernel
theorem rM12 : SM.2.2.2.2 0 12 = some 7 := by decide +kernel
theorem aM12 : ARR SM 7 1 216 := by
  unfold ARR
  decide +kernel
theorem rM13 : SM.2.2.2.2 0 13 = some 8 := by decide +kernel
theorem aM13 : ARR SM 8 1 216 := by
  unfold ARR
  decide +kernel
theorem rM14 : SM.2.2.2.2 0 14 = some 9 := by decide +kernel
theorem aM14 : ARR SM 9 1 217 := by
  unfold ARR
  decide +kernel
theorem rM15 : SM.2.2.2.2 0 15 = some 10 := by decide +kernel
theorem aM15 : ARR SM 10 1 6 := by
  unfold ARR
  decide +kernel
theorem rM16 : SM.2.2.2.2 0 16 = some 11 := by decide +kernel
theorem aM16 : ARR SM 11 1 3 := by
  unfold ARR
  decide +kernel
theorem rM17 : SM.2.2.2.2 0 17 = some 12 := by decide +kernel
theorem aM17 : ARR SM 12 1 3 := by
  unfold ARR
  decide +kernel
theorem rM18 : SM.2.2.2.2 0 18 = some 13 := by decide +kernel
theorem aM18 : ARR SM 13 1 216 := by
  unfold ARR
  decide +kernel
theorem rM19 : SM.2.2.2.2 0 19 = some 14 := by decide +kernel
theorem aM19 : ARR SM 14 3 216 := by
  unfold ARR
  decide +kernel
theorem rM20 : SM.2.2.2.2 0 20 = some 15 := by decide +kernel
theorem aM20 : ARR SM 15 1 3 := by
  unfold ARR
  decide +kernel
theorem rM21 : SM.2.2.2.2 0 21 = some 16 := by decide +kernel
theorem aM21 : ARR SM 16 1 257 := by
  unfold ARR
  decide +kernel
theorem rM22 : SM.2.2.2.2 0 22 = some 17 := by decide +kernel
theorem aM22 : ARR SM 17 1 6 := by
  unfold ARR
  decide +kernel
theorem rM23 : SM.2.2.2.2 0 23 = some 18 := by decide +kernel
theorem aM23 : ARR SM 18 2 40 := by
  unfold ARR
  decide +kernel
theorem nM24 : SM.2.2.2.2 0 24 = none := by decide +kernel
theorem rM25 : SM.2.2.2.2 0 25 = some 19 := by decide +kernel
theorem aM25 : ARR SM 19 2 60 := by
  unfold ARR
  decide +kernel
theorem nM26 : SM.2.2.2.2 0 26 = none := by decide +kernel
theorem nM27 : SM.2.2.2.2 0 27 = none := by decide +kernel
theorem nM28 : SM.2.2.2.2 0 28 = none := by decide +kernel
theorem nM29 : SM.2.2.2.2 0 29 = none := by decide +kernel
theorem rM30 : SM.2.2.2.2 0 30 = some 20 := by decide +kernel
theorem aM30 : ARR SM 20 1 300 := by
  unfold ARR
  decide +kernel
theorem nM31 : SM.2.2.2.2 0 31 = none := by decide +kernel
theorem qP : ∀ j, j < 9 → SK.2.2.2.2 114 j = some (iS (2 + j)) := by decide +kernel
theorem bP {j : Int32} (h : vp_in j 9) : 2 + j.toNatClampNeg < 11 := by have := Nat.not_le.mp fun q => h (Or.inr q); omega
theorem uD0 : ∀ q, q < 122 → q ≠ 111 → kindK q ≠ 4 := by decide +kernel
theorem uD : ∀ q, q ≠ 111 → SK.2.1 q ≠ 4 := by
  intro q hq
  show kindK q ≠ 4
  by_cases h : q < 122
  · exact uD0 q h hq
  · unfold kindK
    rw [if_neg (by omega), if_neg (by omega), if_neg (by omega), if_neg (by omega), if_neg (by omega), if_neg (by omega), if_neg (by omega), if_neg (by omega), if_neg (by omega), if_neg (by omega), if_neg (by omega), if_neg (by omega), if_neg (by omega), if_neg (by omega)]
    decide
theorem fw_X1_9 : FLW TX1 10 9 .boolean := ⟨⟨tyX1, tyX1_ok⟩, nmX1, rfl, by decide +kernel⟩
theorem fw_X4_1 : FLW TX4 2 1 .int := ⟨⟨tyX4, tyX4_ok⟩, nmX4, rfl, by decide +kernel⟩
theorem fw_X5_1 : FLW TX5 3 1 .int := ⟨⟨tyX5, tyX5_ok⟩, nmX5, rfl, by decide +kernel⟩
theorem fw_X5_2 : FLW TX5 3 2 .int := ⟨⟨tyX5, tyX5_ok⟩, nmX5, rfl, by decide +kernel⟩
theorem fw_X6_3 : FLW TX6 4 3 .int := ⟨⟨tyX6, tyX6_ok⟩, nmX6, rfl, by decide +kernel⟩
theorem fw_X8_3 : FLW TX8 6 3 .int := ⟨⟨tyX8, tyX8_ok⟩, nmX8, rfl, by decide +kernel⟩
theorem fw_X8_4 : FLW TX8 6 4 .int := ⟨⟨tyX8, tyX8_ok⟩, nmX8, rfl, by decide +kernel⟩
theorem fw_X8_5 : FLW TX8 6 5 .int := ⟨⟨tyX8, tyX8_ok⟩, nmX8, rfl, by decide +kernel⟩
theorem fw_X9_10 : FLW TX9 12 10 .int := ⟨⟨tyX9, tyX9_ok⟩, nmX9, rfl, by decide +kernel⟩
theorem fw_X9_11 : FLW TX9 12 11 .int := ⟨⟨tyX9, tyX9_ok⟩, nmX9, rfl, by decide +kernel⟩
theorem fw_X9_8 : FLW TX9 12 8 .boolean := ⟨⟨tyX9, tyX9_ok⟩, nmX9, rfl, by decide +kernel⟩
theorem fw_X9_9 : FLW TX9 12 9 .int := ⟨⟨tyX9, tyX9_ok⟩, nmX9, rfl, by decide +kernel⟩
theorem fw_X10_24 : FLW TX10 32 24 .int := ⟨⟨tyX10, tyX10_ok⟩, nmX10, rfl, by decide +kernel⟩
theorem fw_X10_26 : FLW TX10 32 26 .int := ⟨⟨tyX10, tyX10_ok⟩, nmX10, rfl, by decide +kernel⟩
theorem fw_X10_27 : FLW TX10 32 27 .int := ⟨⟨tyX10, tyX10_ok⟩, nmX10, rfl, by decide +kernel⟩
theorem fw_X10_28 : FLW TX10 32 28 .boolean := ⟨⟨tyX10, tyX10_ok⟩, nmX10, rfl, by decide +kernel⟩
theorem fw_X10_29 : FLW TX10 32 29 .int := ⟨⟨tyX10, tyX10_ok⟩, nmX10, rfl, by decide +kernel⟩
theorem fw_X10_3 : FLW TX10 32 3 .boolean := ⟨⟨tyX10, tyX10_ok⟩, nmX10, rfl, by decide +kernel⟩
theorem fw_X10_31 : FLW TX10 32 31 .int := ⟨⟨tyX10, tyX10_ok⟩, nmX10, rfl, by decide +kernel⟩
theorem fw_X10_5 : FLW TX10 32 5 .int := ⟨⟨tyX10, tyX10_ok⟩, nmX10, rfl, by decide +kernel⟩
theorem fw_X10_6 : FLW TX10 32 6 .int := ⟨⟨tyX10, tyX10_ok⟩, nmX10, rfl, by decide +kernel⟩
theorem fw_X10_7 : FLW TX10 32 7 .int := ⟨⟨tyX10, tyX10_ok⟩, nmX10, rfl, by decide +kernel⟩
theorem fw_X10_8 : FLW TX10 32 8 .int := ⟨⟨tyX10, tyX10_ok⟩, nmX10, rfl, by decide +kernel⟩
theorem fw_X10_9 : FLW TX10 32 9 .boolean := ⟨⟨tyX10, tyX10_ok⟩, nmX10, rfl, by decide +kernel⟩
theorem in_X0 : ∀ w ∈ u_ws RX0 TX0 2, w ∈ TT := by
  intro w hw
  simp only [u_ws, List.mem_map, List.mem_range] at hw
  obtain ⟨k, hk, rfl⟩ := hw
  match k, hk with
  | 0, _ => exact w_1_176
  | 1, _ => exact w_1_178
  | k + 2, hk => exact absurd hk (by omega)
theorem fd_X0_12 : FLD RX0 12 RX0 TX0 2 2 0 := ⟨in_X0, rfl, by decide, w_1_174, rfl⟩
theorem fd_X0_21 : FLD RX0 21 RX0 TX0 2 2 1 := ⟨in_X0, rfl, by decide, w_1_175, rfl⟩
theorem in_X10 : ∀ w ∈ u_ws RX10 TX10 32, w ∈ TT := by
  intro w hw
  simp only [u_ws, List.mem_map, List.mem_range] at hw
  obtain ⟨k, hk, rfl⟩ := hw
  match k, hk with
  | 0, _ => exact w_6_1
  | 1, _ => exact w_6_3
  | 2, _ => exact w_6_5
  | 3, _ => exact w_6_7
  | 4, _ => exact w_6_9
  | 5, _ => exact w_6_11
  | 6, _ => exact w_6_13
  | 7, _ => exact w_6_15
  | 8, _ => exact w_6_17
  | 9, _ => exact w_6_19
  | 10, _ => exact w_6_21
  | 11, _ => exact w_6_23
  | 12, _ => exact w_6_25
  | 13, _ => exact w_6_27
  | 14, _ => exact w_6_29
  | 15, _ => exact w_6_31
  | 16, _ => exact w_6_33
  | 17, _ => exact w_6_35
  | 18, _ => exact w_6_37
  | 19, _ => exact w_6_39
  | 20, _ => exact w_6_41
  | 21, _ => exact w_6_43
  | 22, _ => exact w_6_45
  | 23, _ => exact w_6_47
  | 24, _ => exact w_6_49
  | 25, _ => exact w_6_51
  | 26, _ => exact w_6_53
  | 27, _ => exact w_6_55
  | 28, _ => exact w_6_57
  | 29, _ => exact w_6_59
  | 30, _ => exact w_6_61
  | 31, _ => exact w_6_63
  | k + 32, hk => exact absurd hk (by omega)
theorem fd_X10_13 : FLD RX10 13 RX10 TX10 32 12 1 := ⟨in_X10, rfl, by decide, w_5_210, rfl⟩
theorem fd_X10_16 : FLD RX10 16 RX10 TX10 32 12 2 := ⟨in_X10, rfl, by decide, w_5_211, rfl⟩
theorem fd_X10_19 : FLD RX10 19 RX10 TX10 32 12 4 := ⟨in_X10, rfl, by decide, w_5_213, rfl⟩
theorem fd_X10_22 : FLD RX10 22 RX10 TX10 32 12 10 := ⟨in_X10, rfl, by decide, w_5_219, rfl⟩
theorem fd_X10_25 : FLD RX10 25 RX10 TX10 32 12 11 := ⟨in_X10, rfl, by decide, w_5_220, rfl⟩
theorem fd_X10_259 : FLD RX10 259 RX10 TX10 32 12 24 := ⟨in_X10, rfl, by decide, w_5_233, rfl⟩
theorem fd_X10_270 : FLD RX10 270 RX10 TX10 32 12 26 := ⟨in_X10, rfl, by decide, w_5_235, rfl⟩
theorem fd_X10_273 : FLD RX10 273 RX10 TX10 32 12 28 := ⟨in_X10, rfl, by decide, w_5_237, rfl⟩
theorem fd_X10_276 : FLD RX10 276 RX10 TX10 32 12 27 := ⟨in_X10, rfl, by decide, w_5_236, rfl⟩
theorem fd_X10_28 : FLD RX10 28 RX10 TX10 32 12 12 := ⟨in_X10, rfl, by decide, w_5_221, rfl⟩
theorem fd_X10_287 : FLD RX10 287 RX10 TX10 32 12 31 := ⟨in_X10, rfl, by decide, w_6_0, rfl⟩
theorem fd_X10_31 : FLD RX10 31 RX10 TX10 32 12 13 := ⟨in_X10, rfl, by decide, w_5_222, rfl⟩
theorem fd_X10_312 : FLD RX10 312 RX10 TX10 32 12 3 := ⟨in_X10, rfl, by decide, w_5_212, rfl⟩
theorem fd_X10_34 : FLD RX10 34 RX10 TX10 32 12 14 := ⟨in_X10, rfl, by decide, w_5_223, rfl⟩
theorem fd_X10_37 : FLD RX10 37 RX10 TX10 32 12 15 := ⟨in_X10, rfl, by decide, w_5_224, rfl⟩
theorem fd_X10_40 : FLD RX10 40 RX10 TX10 32 12 16 := ⟨in_X10, rfl, by decide, w_5_225, rfl⟩
theorem fd_X10_43 : FLD RX10 43 RX10 TX10 32 12 17 := ⟨in_X10, rfl, by decide, w_5_226, rfl⟩
theorem fd_X10_46 : FLD RX10 46 RX10 TX10 32 12 18 := ⟨in_X10, rfl, by decide, w_5_227, rfl⟩
theorem fd_X10_49 : FLD RX10 49 RX10 TX10 32 12 19 := ⟨in_X10, rfl, by decide, w_5_228, rfl⟩
theorem fd_X10_53 : FLD RX10 53 RX10 TX10 32 12 20 := ⟨in_X10, rfl, by decide, w_5_229, rfl⟩
theorem fd_X10_56 : FLD RX10 56 RX10 TX10 32 12 21 := ⟨in_X10, rfl, by decide, w_5_230, rfl⟩
theorem fd_X10_59 : FLD RX10 59 RX10 TX10 32 12 22 := ⟨in_X10, rfl, by decide, w_5_231, rfl⟩
theorem fd_X10_62 : FLD RX10 62 RX10 TX10 32 12 23 := ⟨in_X10, rfl, by decide, w_5_232, rfl⟩
theorem fd_X10_66 : FLD RX10 66 RX10 TX10 32 12 25 := ⟨in_X10, rfl, by decide, w_5_234, rfl⟩
theorem fd_X10_69 : FLD RX10 69 RX10 TX10 32 12 29 := ⟨in_X10, rfl, by decide, w_5_238, rfl⟩
theorem fd_X10_73 : FLD RX10 73 RX10 TX10 32 12 30 := ⟨in_X10, rfl, by decide, w_5_239, rfl⟩
theorem fd_X10_76 : FLD RX10 76 RX10 TX10 32 12 6 := ⟨in_X10, rfl, by decide, w_5_215, rfl⟩
theorem fd_X10_85 : FLD RX10 85 RX10 TX10 32 12 5 := ⟨in_X10, rfl, by decide, w_5_214, rfl⟩
theorem fd_X10_88 : FLD RX10 88 RX10 TX10 32 12 9 := ⟨in_X10, rfl, by decide, w_5_218, rfl⟩
theorem fd_X10_9 : FLD RX10 9 RX10 TX10 32 12 0 := ⟨in_X10, rfl, by decide, w_5_209, rfl⟩
theorem fd_X10_92 : FLD RX10 92 RX10 TX10 32 12 7 := ⟨in_X10, rfl, by decide, w_5_216, rfl⟩
theorem fd_X10_95 : FLD RX10 95 RX10 TX10 32 12 8 := ⟨in_X10, rfl, by decide, w_5_217, rfl⟩
theorem in_X1 : ∀ w ∈ u_ws RX1 TX1 10, w ∈ TT := by
  intro w hw
  simp only [u_ws, List.mem_map, List.mem_range] at hw
  obtain ⟨k, hk, rfl⟩ := hw
  match k, hk with
  | 0, _ => exact w_1_142
  | 1, _ => exact w_1_144
  | 2, _ => exact w_1_146
  | 3, _ => exact w_1_148
  | 4, _ => exact w_1_150
  | 5, _ => exact w_1_152
  | 6, _ => exact w_1_154
  | 7, _ => exact w_1_156
  | 8, _ => exact w_1_158
  | 9, _ => exact w_1_160
  | k + 10, hk => exact absurd hk (by omega)
theorem fd_X1_12 : FLD RX1 12 RX1 TX1 10 3 0 := ⟨in_X1, rfl, by decide, w_1_126, rfl⟩
theorem fd_X1_18 : FLD RX1 18 RX1 TX1 10 3 1 := ⟨in_X1, rfl, by decide, w_1_128, rfl⟩
theorem fd_X1_21 : FLD RX1 21 RX1 TX1 10 3 2 := ⟨in_X1, rfl, by decide, w_1_129, rfl⟩
theorem fd_X1_27 : FLD RX1 27 RX1 TX1 10 3 3 := ⟨in_X1, rfl, by decide, w_1_130, rfl⟩
theorem fd_X1_31 : FLD RX1 31 RX1 TX1 10 3 4 := ⟨in_X1, rfl, by decide, w_1_132, rfl⟩
theorem fd_X1_35 : FLD RX1 35 RX1 TX1 10 3 5 := ⟨in_X1, rfl, by decide, w_1_134, rfl⟩
theorem fd_X1_38 : FLD RX1 38 RX1 TX1 10 3 6 := ⟨in_X1, rfl, by decide, w_1_136, rfl⟩
theorem fd_X1_41 : FLD RX1 41 RX1 TX1 10 3 7 := ⟨in_X1, rfl, by decide, w_1_138, rfl⟩
theorem fd_X1_44 : FLD RX1 44 RX1 TX1 10 3 8 := ⟨in_X1, rfl, by decide, w_1_140, rfl⟩
theorem fd_X1_48 : FLD RX1 48 RX1 TX1 10 3 9 := ⟨in_X1, rfl, by decide, w_1_141, rfl⟩
theorem in_X2 : ∀ w ∈ u_ws RX2 TX2 2, w ∈ TT := by
  intro w hw
  simp only [u_ws, List.mem_map, List.mem_range] at hw
  obtain ⟨k, hk, rfl⟩ := hw
  match k, hk with
  | 0, _ => exact w_1_49
  | 1, _ => exact w_1_51
  | k + 2, hk => exact absurd hk (by omega)
theorem fd_X2_15 : FLD RX2 15 RX2 TX2 2 4 1 := ⟨in_X2, rfl, by decide, w_1_48, rfl⟩
theorem fd_X2_9 : FLD RX2 9 RX2 TX2 2 4 0 := ⟨in_X2, rfl, by decide, w_1_47, rfl⟩
theorem in_X3 : ∀ w ∈ u_ws RX3 TX3 1, w ∈ TT := by
  intro w hw
  simp only [u_ws, List.mem_map, List.mem_range] at hw
  obtain ⟨k, hk, rfl⟩ := hw
  match k, hk with
  | 0, _ => exact w_1_123
  | k + 1, hk => exact absurd hk (by omega)
theorem fd_X3_9 : FLD RX3 9 RX3 TX3 1 5 0 := ⟨in_X3, rfl, by decide, w_1_122, rfl⟩
theorem in_X4 : ∀ w ∈ u_ws RX4 TX4 2, w ∈ TT := by
  intro w hw
  simp only [u_ws, List.mem_map, List.mem_range] at hw
  obtain ⟨k, hk, rfl⟩ := hw
  match k, hk with
  | 0, _ => exact w_1_221
  | 1, _ => exact w_1_223
  | k + 2, hk => exact absurd hk (by omega)
theorem fd_X4_15 : FLD RX4 15 RX4 TX4 2 6 1 := ⟨in_X4, rfl, by decide, w_1_219, rfl⟩
theorem fd_X4_9 : FLD RX4 9 RX4 TX4 2 6 0 := ⟨in_X4, rfl, by decide, w_1_217, rfl⟩
theorem in_X5 : ∀ w ∈ u_ws RX5 TX5 3, w ∈ TT := by
  intro w hw
  simp only [u_ws, List.mem_map, List.mem_range] at hw
  obtain ⟨k, hk, rfl⟩ := hw
  match k, hk with
  | 0, _ => exact w_1_101
  | 1, _ => exact w_1_103
  | 2, _ => exact w_1_105
  | k + 3, hk => exact absurd hk (by omega)
theorem fd_X5_11 : FLD RX5 11 RX5 TX5 3 7 0 := ⟨in_X5, rfl, by decide, w_1_97, rfl⟩
theorem fd_X5_17 : FLD RX5 17 RX5 TX5 3 7 1 := ⟨in_X5, rfl, by decide, w_1_98, rfl⟩
theorem fd_X5_21 : FLD RX5 21 RX5 TX5 3 7 2 := ⟨in_X5, rfl, by decide, w_1_99, rfl⟩
theorem in_X6 : ∀ w ∈ u_ws RX6 TX6 4, w ∈ TT := by
  intro w hw
  simp only [u_ws, List.mem_map, List.mem_range] at hw
  obtain ⟨k, hk, rfl⟩ := hw
  match k, hk with
  | 0, _ => exact w_1_68
  | 1, _ => exact w_1_70
  | 2, _ => exact w_1_72
  | 3, _ => exact w_1_74
  | k + 4, hk => exact absurd hk (by omega)
theorem fd_X6_15 : FLD RX6 15 RX6 TX6 4 8 1 := ⟨in_X6, rfl, by decide, w_1_62, rfl⟩
theorem fd_X6_18 : FLD RX6 18 RX6 TX6 4 8 2 := ⟨in_X6, rfl, by decide, w_1_63, rfl⟩
theorem fd_X6_21 : FLD RX6 21 RX6 TX6 4 8 3 := ⟨in_X6, rfl, by decide, w_1_64, rfl⟩
theorem fd_X6_9 : FLD RX6 9 RX6 TX6 4 8 0 := ⟨in_X6, rfl, by decide, w_1_61, rfl⟩
theorem in_X7 : ∀ w ∈ u_ws RX7 TX7 2, w ∈ TT := by
  intro w hw
  simp only [u_ws, List.mem_map, List.mem_range] at hw
  obtain ⟨k, hk, rfl⟩ := hw
  match k, hk with
  | 0, _ => exact w_1_83
  | 1, _ => exact w_1_85
  | k + 2, hk => exact absurd hk (by omega)
theorem fd_X7_10 : FLD RX7 10 RX7 TX7 2 9 0 := ⟨in_X7, rfl, by decide, w_1_77, rfl⟩
theorem fd_X7_19 : FLD RX7 19 RX7 TX7 2 9 1 := ⟨in_X7, rfl, by decide, w_1_80, rfl⟩
theorem in_X8 : ∀ w ∈ u_ws RX8 TX8 6, w ∈ TT := by
  intro w hw
  simp only [u_ws, List.mem_map, List.mem_range] at hw
  obtain ⟨k, hk, rfl⟩ := hw
  match k, hk with
  | 0, _ => exact w_1_197
  | 1, _ => exact w_1_199
  | 2, _ => exact w_1_201
  | 3, _ => exact w_1_203
  | 4, _ => exact w_1_205
  | 5, _ => exact w_1_207
  | k + 6, hk => exact absurd hk (by omega)
theorem fd_X8_15 : FLD RX8 15 RX8 TX8 6 10 1 := ⟨in_X8, rfl, by decide, w_1_190, rfl⟩
theorem fd_X8_18 : FLD RX8 18 RX8 TX8 6 10 2 := ⟨in_X8, rfl, by decide, w_1_191, rfl⟩
theorem fd_X8_22 : FLD RX8 22 RX8 TX8 6 10 3 := ⟨in_X8, rfl, by decide, w_1_192, rfl⟩
theorem fd_X8_26 : FLD RX8 26 RX8 TX8 6 10 4 := ⟨in_X8, rfl, by decide, w_1_194, rfl⟩
theorem fd_X8_29 : FLD RX8 29 RX8 TX8 6 10 5 := ⟨in_X8, rfl, by decide, w_1_196, rfl⟩
theorem fd_X8_9 : FLD RX8 9 RX8 TX8 6 10 0 := ⟨in_X8, rfl, by decide, w_1_189, rfl⟩
theorem in_X9 : ∀ w ∈ u_ws RX9 TX9 12, w ∈ TT := by
  intro w hw
  simp only [u_ws, List.mem_map, List.mem_range] at hw
  obtain ⟨k, hk, rfl⟩ := hw
  match k, hk with
  | 0, _ => exact w_1_238
  | 1, _ => exact w_2_0
  | 2, _ => exact w_2_2
  | 3, _ => exact w_2_4
  | 4, _ => exact w_2_6
  | 5, _ => exact w_2_8
  | 6, _ => exact w_2_10
  | 7, _ => exact w_2_12
  | 8, _ => exact w_2_14
  | 9, _ => exact w_2_16
  | 10, _ => exact w_2_18
  | 11, _ => exact w_2_20
  | k + 12, hk => exact absurd hk (by omega)
theorem fd_X9_10 : FLD RX9 10 RX9 TX9 12 11 0 := ⟨in_X9, rfl, by decide, w_1_226, rfl⟩
theorem fd_X9_16 : FLD RX9 16 RX9 TX9 12 11 1 := ⟨in_X9, rfl, by decide, w_1_227, rfl⟩
theorem fd_X9_22 : FLD RX9 22 RX9 TX9 12 11 2 := ⟨in_X9, rfl, by decide, w_1_228, rfl⟩
theorem fd_X9_29 : FLD RX9 29 RX9 TX9 12 11 3 := ⟨in_X9, rfl, by decide, w_1_229, rfl⟩
theorem fd_X9_36 : FLD RX9 36 RX9 TX9 12 11 4 := ⟨in_X9, rfl, by decide, w_1_230, rfl⟩
theorem fd_X9_43 : FLD RX9 43 RX9 TX9 12 11 5 := ⟨in_X9, rfl, by decide, w_1_231, rfl⟩
theorem fd_X9_50 : FLD RX9 50 RX9 TX9 12 11 6 := ⟨in_X9, rfl, by decide, w_1_232, rfl⟩
theorem fd_X9_57 : FLD RX9 57 RX9 TX9 12 11 7 := ⟨in_X9, rfl, by decide, w_1_233, rfl⟩
theorem fd_X9_61 : FLD RX9 61 RX9 TX9 12 11 8 := ⟨in_X9, rfl, by decide, w_1_234, rfl⟩
theorem fd_X9_65 : FLD RX9 65 RX9 TX9 12 11 9 := ⟨in_X9, rfl, by decide, w_1_235, rfl⟩
theorem fd_X9_69 : FLD RX9 69 RX9 TX9 12 11 10 := ⟨in_X9, rfl, by decide, w_1_236, rfl⟩
theorem fd_X9_72 : FLD RX9 72 RX9 TX9 12 11 11 := ⟨in_X9, rfl, by decide, w_1_237, rfl⟩
theorem fn_X0_44 : FLN RX0 44 RX6 TX6 4 8 3 "KinFacts" := ⟨in_X6, rfl, by decide, w_1_66, rfl⟩
theorem fn_X1_52 : FLN RX1 52 RX7 TX7 2 9 0 "KinFacts" := ⟨in_X7, rfl, by decide, w_1_78, rfl⟩
theorem fn_X1_61 : FLN RX1 61 RX7 TX7 2 9 1 "KinFacts" := ⟨in_X7, rfl, by decide, w_1_81, rfl⟩
theorem fn_X1_65 : FLN RX1 65 RX6 TX6 4 8 3 "KinFacts" := ⟨in_X6, rfl, by decide, w_1_65, rfl⟩
theorem fn_X9_124 : FLN RX9 124 RX7 TX7 2 9 0 "KinFacts" := ⟨in_X7, rfl, by decide, w_1_79, rfl⟩
theorem fn_X9_128 : FLN RX9 128 RX7 TX7 2 9 1 "KinFacts" := ⟨in_X7, rfl, by decide, w_1_82, rfl⟩
theorem fn_X9_140 : FLN RX9 140 RX1 TX1 10 3 0 "KinFacts" := ⟨in_X1, rfl, by decide, w_1_127, rfl⟩
theorem fn_X9_148 : FLN RX9 148 RX1 TX1 10 3 4 "KinFacts" := ⟨in_X1, rfl, by decide, w_1_133, rfl⟩
theorem fn_X9_152 : FLN RX9 152 RX1 TX1 10 3 5 "KinFacts" := ⟨in_X1, rfl, by decide, w_1_135, rfl⟩
theorem fn_X9_155 : FLN RX9 155 RX1 TX1 10 3 6 "KinFacts" := ⟨in_X1, rfl, by decide, w_1_137, rfl⟩
theorem fn_X9_158 : FLN RX9 158 RX1 TX1 10 3 7 "KinFacts" := ⟨in_X1, rfl, by decide, w_1_139, rfl⟩
theorem fn_X9_197 : FLN RX9 197 RX1 TX1 10 3 3 "KinFacts" := ⟨in_X1, rfl, by decide, w_1_131, rfl⟩
theorem fn_X9_233 : FLN RX9 233 RX6 TX6 4 8 3 "KinFacts" := ⟨in_X6, rfl, by decide, w_1_67, rfl⟩
theorem fn_X9_283 : FLN RX9 283 RX4 TX4 2 6 1 "KinFacts" := ⟨in_X4, rfl, by decide, w_1_220, rfl⟩
theorem fn_X9_302 : FLN RX9 302 RX4 TX4 2 6 0 "KinFacts" := ⟨in_X4, rfl, by decide, w_1_218, rfl⟩
theorem fn_X9_314 : FLN RX9 314 RX8 TX8 6 10 3 "KinFacts" := ⟨in_X8, rfl, by decide, w_1_193, rfl⟩
theorem fn_X9_321 : FLN RX9 321 RX8 TX8 6 10 4 "KinFacts" := ⟨in_X8, rfl, by decide, w_1_195, rfl⟩
theorem fn_X9_354 : FLN RX9 354 RX5 TX5 3 7 2 "KinFacts" := ⟨in_X5, rfl, by decide, w_1_100, rfl⟩
theorem lc_yJ13_bitCount_95d88 : LC yJ13_bitCount_95d88 cJ13_bitCount_95d88 2 (some .int) 1 := ⟨⟨w_1_24, w_3_212⟩, by decide +kernel, by decide +kernel, by decide +kernel⟩
theorem lc_yJ6_bitCount_0f7a4 : LC yJ6_bitCount_0f7a4 cJ6_bitCount_0f7a4 1 (some .int) 1 := ⟨⟨w_1_16, w_2_195⟩, by decide +kernel, by decide +kernel, by decide +kernel⟩
theorem lc_yX0_deriveAll : LC yX0_deriveAll cX0_deriveAll 5 none 1 := ⟨⟨w_1_8, w_2_166⟩, by decide +kernel, by decide +kernel, by decide +kernel⟩
theorem lc_yX0_deriveFrom : LC yX0_deriveFrom cX0_deriveFrom 3 (some (.object "KinFacts$Facts")) 2 := ⟨⟨w_1_8, w_2_161⟩, by decide +kernel, by decide +kernel, by decide +kernel⟩
theorem lc_yX0_deriveWithout : LC yX0_deriveWithout cX0_deriveWithout 4 (some (.object "KinFacts$Facts")) 3 := ⟨⟨w_1_8, w_4_11⟩, by decide +kernel, by decide +kernel, by decide +kernel⟩
theorem lc_yX0_makeMore : LC yX0_makeMore cX0_makeMore 8 (some .boolean) 2 := ⟨⟨w_1_8, w_2_172⟩, by decide +kernel, by decide +kernel, by decide +kernel⟩
theorem lc_yX10_allHolding : LC yX10_allHolding cX10_allHolding 1 (some .int) 0 := ⟨⟨w_1_11, w_6_120⟩, by decide +kernel, by decide +kernel, by decide +kernel⟩
theorem lc_yX10_conditionMany : LC yX10_conditionMany cX10_conditionMany 6 (some .int) 2 := ⟨⟨w_1_11, w_7_57⟩, by decide +kernel, by decide +kernel, by decide +kernel⟩
theorem lc_yX10_conditionOf : LC yX10_conditionOf cX10_conditionOf 3 (some .int) 2 := ⟨⟨w_1_11, w_6_136⟩, by decide +kernel, by decide +kernel, by decide +kernel⟩
theorem lc_yX10_deepens : LC yX10_deepens cX10_deepens 5 none 0 := ⟨⟨w_1_11, w_6_209⟩, by decide +kernel, by decide +kernel, by decide +kernel⟩
theorem lc_yX10_depths : LC yX10_depths cX10_depths 4 (some .int) 1 := ⟨⟨w_1_11, w_7_158⟩, by decide +kernel, by decide +kernel, by decide +kernel⟩
theorem lc_yX10_derives : LC yX10_derives cX10_derives 5 none 0 := ⟨⟨w_1_11, w_6_124⟩, by decide +kernel, by decide +kernel, by decide +kernel⟩
theorem lc_yX10_doDrop : LC yX10_doDrop cX10_doDrop 3 (some .int) 1 := ⟨⟨w_1_11, w_7_45⟩, by decide +kernel, by decide +kernel, by decide +kernel⟩
theorem lc_yX10_doRule : LC yX10_doRule cX10_doRule 6 (some .int) 4 := ⟨⟨w_1_11, w_7_25⟩, by decide +kernel, by decide +kernel, by decide +kernel⟩
theorem lc_yX10_doTell : LC yX10_doTell cX10_doTell 4 (some .int) 3 := ⟨⟨w_1_11, w_6_89⟩, by decide +kernel, by decide +kernel, by decide +kernel⟩
theorem lc_yX10_doUntell : LC yX10_doUntell cX10_doUntell 5 (some .int) 3 := ⟨⟨w_1_11, w_6_193⟩, by decide +kernel, by decide +kernel, by decide +kernel⟩
theorem lc_yX10_does : LC yX10_does cX10_does 6 none 1 := ⟨⟨w_1_11, w_7_142⟩, by decide +kernel, by decide +kernel, by decide +kernel⟩
theorem lc_yX10_ends : LC yX10_ends cX10_ends 2 (some .int) 1 := ⟨⟨w_1_11, w_6_185⟩, by decide +kernel, by decide +kernel, by decide +kernel⟩
theorem lc_yX10_fact : LC yX10_fact cX10_fact 3 (some .int) 3 := ⟨⟨w_1_11, w_6_108⟩, by decide +kernel, by decide +kernel, by decide +kernel⟩
theorem lc_yX10_factOfCondition : LC yX10_factOfCondition cX10_factOfCondition 2 (some .int) 1 := ⟨⟨w_1_11, w_6_177⟩, by decide +kernel, by decide +kernel, by decide +kernel⟩
theorem lc_yX10_factsBy : LC yX10_factsBy cX10_factsBy 7 (some .int) 2 := ⟨⟨w_1_11, w_7_61⟩, by decide +kernel, by decide +kernel, by decide +kernel⟩
theorem lc_yX10_fails : LC yX10_fails cX10_fails 2 (some .int) 1 := ⟨⟨w_1_11, w_6_105⟩, by decide +kernel, by decide +kernel, by decide +kernel⟩
theorem lc_yX10_goes : LC yX10_goes cX10_goes 8 (some .int) 2 := ⟨⟨w_1_11, w_6_155⟩, by decide +kernel, by decide +kernel, by decide +kernel⟩
theorem lc_yX10_greatestSize : LC yX10_greatestSize cX10_greatestSize 3 (some .int) 0 := ⟨⟨w_1_11, w_7_162⟩, by decide +kernel, by decide +kernel, by decide +kernel⟩
theorem lc_yX10_greatestStage : LC yX10_greatestStage cX10_greatestStage 4 (some .int) 1 := ⟨⟨w_1_11, w_7_9⟩, by decide +kernel, by decide +kernel, by decide +kernel⟩
theorem lc_yX10_hasLetter : LC yX10_hasLetter cX10_hasLetter 2 (some .boolean) 2 := ⟨⟨w_1_11, w_6_166⟩, by decide +kernel, by decide +kernel, by decide +kernel⟩
theorem lc_yX10_head : LC yX10_head cX10_head 2 (some .int) 1 := ⟨⟨w_1_11, w_6_146⟩, by decide +kernel, by decide +kernel, by decide +kernel⟩
theorem lc_yX10_holding : LC yX10_holding cX10_holding 4 (some .int) 1 := ⟨⟨w_1_11, w_6_181⟩, by decide +kernel, by decide +kernel, by decide +kernel⟩
theorem lc_yX10_in : LC yX10_in cX10_in 3 (some .boolean) 3 := ⟨⟨w_1_11, w_6_98⟩, by decide +kernel, by decide +kernel, by decide +kernel⟩
theorem lc_yX10_inRules : LC yX10_inRules cX10_inRules 7 (some .int) 2 := ⟨⟨w_1_11, w_7_5⟩, by decide +kernel, by decide +kernel, by decide +kernel⟩
theorem lc_yX10_isFact : LC yX10_isFact cX10_isFact 3 (some .boolean) 3 := ⟨⟨w_1_11, w_6_92⟩, by decide +kernel, by decide +kernel, by decide +kernel⟩
theorem lc_yX10_isHere : LC yX10_isHere cX10_isHere 3 (some .boolean) 2 := ⟨⟨w_1_11, w_7_134⟩, by decide +kernel, by decide +kernel, by decide +kernel⟩
theorem lc_yX10_isPerson : LC yX10_isPerson cX10_isPerson 1 (some .boolean) 1 := ⟨⟨w_1_11, w_6_101⟩, by decide +kernel, by decide +kernel, by decide +kernel⟩
theorem lc_yX10_isRelation : LC yX10_isRelation cX10_isRelation 1 (some .boolean) 1 := ⟨⟨w_1_11, w_6_95⟩, by decide +kernel, by decide +kernel, by decide +kernel⟩
theorem lc_yX10_isRule : LC yX10_isRule cX10_isRule 2 (some .boolean) 1 := ⟨⟨w_1_11, w_7_49⟩, by decide +kernel, by decide +kernel, by decide +kernel⟩
theorem lc_yX10_keep : LC yX10_keep cX10_keep 1 none 0 := ⟨⟨w_1_11, w_6_82⟩, by decide +kernel, by decide +kernel, by decide +kernel⟩
theorem lc_yX10_layerMany : LC yX10_layerMany cX10_layerMany 4 (some .int) 0 := ⟨⟨w_1_11, w_6_128⟩, by decide +kernel, by decide +kernel, by decide +kernel⟩
theorem lc_yX10_layers : LC yX10_layers cX10_layers 7 (some .boolean) 1 := ⟨⟨w_1_11, w_6_132⟩, by decide +kernel, by decide +kernel, by decide +kernel⟩
theorem lc_yX10_layersWith : LC yX10_layersWith cX10_layersWith 10 (some .boolean) 2 := ⟨⟨w_1_11, w_7_73⟩, by decide +kernel, by decide +kernel, by decide +kernel⟩
theorem lc_yX10_letterIn : LC yX10_letterIn cX10_letterIn 3 (some .int) 2 := ⟨⟨w_1_11, w_6_169⟩, by decide +kernel, by decide +kernel, by decide +kernel⟩
theorem lc_yX10_likeRule : LC yX10_likeRule cX10_likeRule 6 (some .int) 1 := ⟨⟨w_1_11, w_7_37⟩, by decide +kernel, by decide +kernel, by decide +kernel⟩
theorem lc_yX10_lowest : LC yX10_lowest cX10_lowest 6 (some .int) 3 := ⟨⟨w_1_11, w_6_159⟩, by decide +kernel, by decide +kernel, by decide +kernel⟩
theorem lc_yX10_makes : LC yX10_makes cX10_makes 8 (some .boolean) 4 := ⟨⟨w_1_11, w_6_173⟩, by decide +kernel, by decide +kernel, by decide +kernel⟩
theorem lc_yX10_needs : LC yX10_needs cX10_needs 5 (some .int) 1 := ⟨⟨w_1_11, w_6_213⟩, by decide +kernel, by decide +kernel, by decide +kernel⟩
theorem lc_yX10_negatedMany : LC yX10_negatedMany cX10_negatedMany 3 (some .int) 0 := ⟨⟨w_1_11, w_7_166⟩, by decide +kernel, by decide +kernel, by decide +kernel⟩
theorem lc_yX10_reaches : LC yX10_reaches cX10_reaches 9 (some .boolean) 3 := ⟨⟨w_1_11, w_7_77⟩, by decide +kernel, by decide +kernel, by decide +kernel⟩
theorem lc_yX10_readCondition : LC yX10_readCondition cX10_readCondition 6 (some .int) 0 := ⟨⟨w_1_11, w_7_138⟩, by decide +kernel, by decide +kernel, by decide +kernel⟩
theorem lc_yX10_readOrder : LC yX10_readOrder cX10_readOrder 5 none 0 := ⟨⟨w_1_11, w_7_126⟩, by decide +kernel, by decide +kernel, by decide +kernel⟩
theorem lc_yX10_refuse : LC yX10_refuse cX10_refuse 3 (some .int) 2 := ⟨⟨w_1_11, w_6_116⟩, by decide +kernel, by decide +kernel, by decide +kernel⟩
theorem lc_yX10_relationIn : LC yX10_relationIn cX10_relationIn 1 (some .int) 1 := ⟨⟨w_1_11, w_6_139⟩, by decide +kernel, by decide +kernel, by decide +kernel⟩
theorem lc_yX10_rounds : LC yX10_rounds cX10_rounds 2 (some .int) 1 := ⟨⟨w_1_11, w_7_89⟩, by decide +kernel, by decide +kernel, by decide +kernel⟩
theorem lc_yX10_roundsOfAll : LC yX10_roundsOfAll cX10_roundsOfAll 3 (some .int) 0 := ⟨⟨w_1_11, w_7_154⟩, by decide +kernel, by decide +kernel, by decide +kernel⟩
theorem lc_yX10_ruleHas : LC yX10_ruleHas cX10_ruleHas 5 (some .boolean) 2 := ⟨⟨w_1_11, w_6_163⟩, by decide +kernel, by decide +kernel, by decide +kernel⟩
theorem lc_yX10_says : LC yX10_says cX10_says 2 none 1 := ⟨⟨w_1_11, w_7_106⟩, by decide +kernel, by decide +kernel, by decide +kernel⟩
theorem lc_yX10_saysFact : LC yX10_saysFact cX10_saysFact 2 none 1 := ⟨⟨w_1_11, w_7_102⟩, by decide +kernel, by decide +kernel, by decide +kernel⟩
theorem lc_yX10_settles : LC yX10_settles cX10_settles 6 (some .boolean) 1 := ⟨⟨w_1_11, w_6_150⟩, by decide +kernel, by decide +kernel, by decide +kernel⟩
theorem lc_yX10_sign : LC yX10_sign cX10_sign 3 (some .int) 2 := ⟨⟨w_1_11, w_7_130⟩, by decide +kernel, by decide +kernel, by decide +kernel⟩
theorem lc_yX10_sizeOf : LC yX10_sizeOf cX10_sizeOf 6 (some .int) 1 := ⟨⟨w_1_11, w_6_217⟩, by decide +kernel, by decide +kernel, by decide +kernel⟩
theorem lc_yX10_toldOf : LC yX10_toldOf cX10_toldOf 4 (some .int) 1 := ⟨⟨w_1_11, w_6_112⟩, by decide +kernel, by decide +kernel, by decide +kernel⟩
theorem lc_yX10_twice : LC yX10_twice cX10_twice 10 (some .boolean) 2 := ⟨⟨w_1_11, w_7_81⟩, by decide +kernel, by decide +kernel, by decide +kernel⟩
theorem lc_yX10_unlikeNeeds : LC yX10_unlikeNeeds cX10_unlikeNeeds 7 (some .int) 1 := ⟨⟨w_1_11, w_6_221⟩, by decide +kernel, by decide +kernel, by decide +kernel⟩
theorem lc_yX10_unsafe : LC yX10_unsafe cX10_unsafe 6 (some .int) 0 := ⟨⟨w_1_11, w_7_33⟩, by decide +kernel, by decide +kernel, by decide +kernel⟩
theorem lc_yX10_waysBy : LC yX10_waysBy cX10_waysBy 7 (some .int) 3 := ⟨⟨w_1_11, w_6_229⟩, by decide +kernel, by decide +kernel, by decide +kernel⟩
theorem lc_yX10_writes : LC yX10_writes cX10_writes 7 (some .boolean) 4 := ⟨⟨w_1_11, w_7_29⟩, by decide +kernel, by decide +kernel, by decide +kernel⟩
theorem lc_yX1_addRound : LC yX1_addRound cX1_addRound 10 (some .boolean) 3 := ⟨⟨w_1_6, w_2_81⟩, by decide +kernel, by decide +kernel, by decide +kernel⟩
theorem lc_yX1_allDepths : LC yX1_allDepths cX1_allDepths 3 (some .int) 0 := ⟨⟨w_1_6, w_5_169⟩, by decide +kernel, by decide +kernel, by decide +kernel⟩
theorem lc_yX1_allRounds : LC yX1_allRounds cX1_allRounds 4 (some .int) 0 := ⟨⟨w_1_6, w_5_122⟩, by decide +kernel, by decide +kernel, by decide +kernel⟩
theorem lc_yX1_areFounded : LC yX1_areFounded cX1_areFounded 5 (some .boolean) 1 := ⟨⟨w_1_6, w_2_202⟩, by decide +kernel, by decide +kernel, by decide +kernel⟩
theorem lc_yX1_derivationsWith : LC yX1_derivationsWith cX1_derivationsWith 4 (some .int) 1 := ⟨⟨w_1_6, w_4_137⟩, by decide +kernel, by decide +kernel, by decide +kernel⟩
theorem lc_yX1_enter : LC yX1_enter cX1_enter 5 none 4 := ⟨⟨w_1_6, w_2_121⟩, by decide +kernel, by decide +kernel, by decide +kernel⟩
theorem lc_yX1_freshIn : LC yX1_freshIn cX1_freshIn 5 (some .int) 2 := ⟨⟨w_1_6, w_4_182⟩, by decide +kernel, by decide +kernel, by decide +kernel⟩
theorem lc_yX1_greatestDepth : LC yX1_greatestDepth cX1_greatestDepth 3 (some .int) 0 := ⟨⟨w_1_6, w_5_131⟩, by decide +kernel, by decide +kernel, by decide +kernel⟩
theorem lc_yX1_greatestSize : LC yX1_greatestSize cX1_greatestSize 3 (some .int) 0 := ⟨⟨w_1_6, w_5_135⟩, by decide +kernel, by decide +kernel, by decide +kernel⟩
theorem lc_yX1_greatestStage : LC yX1_greatestStage cX1_greatestStage 3 (some .int) 0 := ⟨⟨w_1_6, w_5_127⟩, by decide +kernel, by decide +kernel, by decide +kernel⟩
theorem lc_yX1_lastStage : LC yX1_lastStage cX1_lastStage 4 (some .int) 1 := ⟨⟨w_1_6, w_4_41⟩, by decide +kernel, by decide +kernel, by decide +kernel⟩
theorem lc_yX1_maker : LC yX1_maker cX1_maker 2 (some .int) 1 := ⟨⟨w_1_6, w_4_214⟩, by decide +kernel, by decide +kernel, by decide +kernel⟩
theorem lc_yX1_need : LC yX1_need cX1_need 7 (some .int) 3 := ⟨⟨w_1_6, w_2_133⟩, by decide +kernel, by decide +kernel, by decide +kernel⟩
theorem lc_yX1_needs : LC yX1_needs cX1_needs 7 (some .int) 2 := ⟨⟨w_1_6, w_3_219⟩, by decide +kernel, by decide +kernel, by decide +kernel⟩
theorem lc_yX1_outdate : LC yX1_outdate cX1_outdate 1 none 0 := ⟨⟨w_1_6, w_3_100⟩, by decide +kernel, by decide +kernel, by decide +kernel⟩
theorem lc_yX1_person : LC yX1_person cX1_person 3 (some .int) 3 := ⟨⟨w_1_6, w_2_138⟩, by decide +kernel, by decide +kernel, by decide +kernel⟩
theorem lc_yX1_rest : LC yX1_rest cX1_rest 6 none 2 := ⟨⟨w_1_6, w_2_129⟩, by decide +kernel, by decide +kernel, by decide +kernel⟩
theorem lc_yX1_roundsOf : LC yX1_roundsOf cX1_roundsOf 4 (some .int) 1 := ⟨⟨w_1_6, w_4_169⟩, by decide +kernel, by decide +kernel, by decide +kernel⟩
theorem lc_yX1_settled : LC yX1_settled cX1_settled 5 (some (.object "KinFacts$Derivation")) 1 := ⟨⟨w_1_6, w_2_30⟩, by decide +kernel, by decide +kernel, by decide +kernel⟩
theorem lc_yX1_sizeOf : LC yX1_sizeOf cX1_sizeOf 4 (some .int) 1 := ⟨⟨w_1_6, w_3_209⟩, by decide +kernel, by decide +kernel, by decide +kernel⟩
theorem lc_yX1_start : LC yX1_start cX1_start 3 none 1 := ⟨⟨w_1_6, w_2_34⟩, by decide +kernel, by decide +kernel, by decide +kernel⟩
theorem lc_yX2_clear : LC yX2_clear cX2_clear 2 none 0 := ⟨⟨w_1_3, w_2_77⟩, by decide +kernel, by decide +kernel, by decide +kernel⟩
theorem lc_yX2_copy : LC yX2_copy cX2_copy 3 none 1 := ⟨⟨w_1_3, w_2_38⟩, by decide +kernel, by decide +kernel, by decide +kernel⟩
theorem lc_yX2_from : LC yX2_from cX2_from 4 (some .int) 2 := ⟨⟨w_1_3, w_2_110⟩, by decide +kernel, by decide +kernel, by decide +kernel⟩
theorem lc_yX2_has : LC yX2_has cX2_has 3 (some .boolean) 1 := ⟨⟨w_1_3, w_2_87⟩, by decide +kernel, by decide +kernel, by decide +kernel⟩
theorem lc_yX2_isSame : LC yX2_isSame cX2_isSame 3 (some .boolean) 1 := ⟨⟨w_1_3, w_2_181⟩, by decide +kernel, by decide +kernel, by decide +kernel⟩
theorem lc_yX2_join : LC yX2_join cX2_join 3 none 1 := ⟨⟨w_1_3, w_2_148⟩, by decide +kernel, by decide +kernel, by decide +kernel⟩
theorem lc_yX2_put : LC yX2_put cX2_put 2 none 1 := ⟨⟨w_1_3, w_2_125⟩, by decide +kernel, by decide +kernel, by decide +kernel⟩
theorem lc_yX2_size : LC yX2_size cX2_size 3 (some .int) 0 := ⟨⟨w_1_3, w_2_220⟩, by decide +kernel, by decide +kernel, by decide +kernel⟩
theorem lc_yX2_sizeOf : LC yX2_sizeOf cX2_sizeOf 4 (some .int) 1 := ⟨⟨w_1_3, w_3_90⟩, by decide +kernel, by decide +kernel, by decide +kernel⟩
theorem lc_yX2_take : LC yX2_take cX2_take 2 none 1 := ⟨⟨w_1_3, w_3_142⟩, by decide +kernel, by decide +kernel, by decide +kernel⟩
theorem lc_yX2_to : LC yX2_to cX2_to 4 (some .int) 2 := ⟨⟨w_1_3, w_2_114⟩, by decide +kernel, by decide +kernel, by decide +kernel⟩
theorem lc_yX2_toThemselves : LC yX2_toThemselves cX2_toThemselves 5 (some .int) 1 := ⟨⟨w_1_3, w_2_106⟩, by decide +kernel, by decide +kernel, by decide +kernel⟩
theorem lc_yX3_arrange : LC yX3_arrange cX3_arrange 4 (some .boolean) 2 := ⟨⟨w_1_7, w_2_42⟩, by decide +kernel, by decide +kernel, by decide +kernel⟩
theorem lc_yX3_count : LC yX3_count cX3_count 3 (some .int) 0 := ⟨⟨w_1_7, w_2_69⟩, by decide +kernel, by decide +kernel, by decide +kernel⟩
theorem lc_yX3_lift : LC yX3_lift cX3_lift 9 (some .boolean) 2 := ⟨⟨w_1_7, w_2_46⟩, by decide +kernel, by decide +kernel, by decide +kernel⟩
theorem lc_yX3_of : LC yX3_of cX3_of 2 (some .int) 1 := ⟨⟨w_1_7, w_2_61⟩, by decide +kernel, by decide +kernel, by decide +kernel⟩
theorem lc_yX3_raise : LC yX3_raise cX3_raise 3 none 2 := ⟨⟨w_1_7, w_2_65⟩, by decide +kernel, by decide +kernel, by decide +kernel⟩
theorem lc_yX4_add : LC yX4_add cX4_add 2 none 1 := ⟨⟨w_1_10, w_4_209⟩, by decide +kernel, by decide +kernel, by decide +kernel⟩
theorem lc_yX4_addCondition : LC yX4_addCondition cX4_addCondition 2 none 1 := ⟨⟨w_1_10, w_4_227⟩, by decide +kernel, by decide +kernel, by decide +kernel⟩
theorem lc_yX4_addFact : LC yX4_addFact cX4_addFact 2 none 1 := ⟨⟨w_1_10, w_4_201⟩, by decide +kernel, by decide +kernel, by decide +kernel⟩
theorem lc_yX4_addNumber : LC yX4_addNumber cX4_addNumber 3 none 2 := ⟨⟨w_1_10, w_4_205⟩, by decide +kernel, by decide +kernel, by decide +kernel⟩
theorem lc_yX4_clear : LC yX4_clear cX4_clear 1 none 0 := ⟨⟨w_1_10, w_4_197⟩, by decide +kernel, by decide +kernel, by decide +kernel⟩
theorem lc_yX5_forget : LC yX5_forget cX5_forget 1 none 0 := ⟨⟨w_1_5, w_5_202⟩, by decide +kernel, by decide +kernel, by decide +kernel⟩
theorem lc_yX5_giveBack : LC yX5_giveBack cX5_giveBack 3 none 1 := ⟨⟨w_1_5, w_5_101⟩, by decide +kernel, by decide +kernel, by decide +kernel⟩
theorem lc_yX5_keep : LC yX5_keep cX5_keep 1 none 0 := ⟨⟨w_1_5, w_3_120⟩, by decide +kernel, by decide +kernel, by decide +kernel⟩
theorem lc_yX5_mark : LC yX5_mark cX5_mark 3 none 1 := ⟨⟨w_1_5, w_3_75⟩, by decide +kernel, by decide +kernel, by decide +kernel⟩
theorem lc_yX5_marked : LC yX5_marked cX5_marked 1 (some (.object "KinFacts$State")) 0 := ⟨⟨w_1_5, w_3_79⟩, by decide +kernel, by decide +kernel, by decide +kernel⟩
theorem lc_yX5_stepBack : LC yX5_stepBack cX5_stepBack 2 none 1 := ⟨⟨w_1_5, w_5_188⟩, by decide +kernel, by decide +kernel, by decide +kernel⟩
theorem lc_yX6_accept : LC yX6_accept cX6_accept 1 none 0 := ⟨⟨w_1_4, w_4_99⟩, by decide +kernel, by decide +kernel, by decide +kernel⟩
theorem lc_yX6_areClosed : LC yX6_areClosed cX6_areClosed 3 (some .boolean) 1 := ⟨⟨w_1_4, w_2_185⟩, by decide +kernel, by decide +kernel, by decide +kernel⟩
theorem lc_yX6_code : LC yX6_code cX6_code 3 (some .int) 2 := ⟨⟨w_1_4, w_2_54⟩, by decide +kernel, by decide +kernel, by decide +kernel⟩
theorem lc_yX6_conditionsOf : LC yX6_conditionsOf cX6_conditionsOf 4 (some .int) 1 := ⟨⟨w_1_4, w_4_133⟩, by decide +kernel, by decide +kernel, by decide +kernel⟩
theorem lc_yX6_conditionsWith : LC yX6_conditionsWith cX6_conditionsWith 6 (some .int) 1 := ⟨⟨w_1_4, w_4_37⟩, by decide +kernel, by decide +kernel, by decide +kernel⟩
theorem lc_yX6_copy : LC yX6_copy cX6_copy 3 none 1 := ⟨⟨w_1_4, w_2_216⟩, by decide +kernel, by decide +kernel, by decide +kernel⟩
theorem lc_yX6_fulfilling : LC yX6_fulfilling cX6_fulfilling 10 (some .int) 4 := ⟨⟨w_1_4, w_2_95⟩, by decide +kernel, by decide +kernel, by decide +kernel⟩
theorem lc_yX6_has : LC yX6_has cX6_has 2 (some .boolean) 1 := ⟨⟨w_1_4, w_4_111⟩, by decide +kernel, by decide +kernel, by decide +kernel⟩
theorem lc_yX6_hasZ : LC yX6_hasZ cX6_hasZ 1 (some .boolean) 1 := ⟨⟨w_1_4, w_4_86⟩, by decide +kernel, by decide +kernel, by decide +kernel⟩
theorem lc_yX6_head : LC yX6_head cX6_head 2 (some .int) 1 := ⟨⟨w_1_4, w_2_50⟩, by decide +kernel, by decide +kernel, by decide +kernel⟩
theorem lc_yX6_headsWith : LC yX6_headsWith cX6_headsWith 4 (some .int) 1 := ⟨⟨w_1_4, w_4_33⟩, by decide +kernel, by decide +kernel, by decide +kernel⟩
theorem lc_yX6_makersOf : LC yX6_makersOf cX6_makersOf 10 (some .int) 5 := ⟨⟨w_1_4, w_2_91⟩, by decide +kernel, by decide +kernel, by decide +kernel⟩
theorem lc_yX6_makes : LC yX6_makes cX6_makes 5 (some .int) 2 := ⟨⟨w_1_4, w_4_141⟩, by decide +kernel, by decide +kernel, by decide +kernel⟩
theorem lc_yX6_negated : LC yX6_negated cX6_negated 4 (some .int) 0 := ⟨⟨w_1_4, w_5_140⟩, by decide +kernel, by decide +kernel, by decide +kernel⟩
theorem lc_yX6_propose : LC yX6_propose cX6_propose 6 none 4 := ⟨⟨w_1_4, w_4_83⟩, by decide +kernel, by decide +kernel, by decide +kernel⟩
theorem lc_yX6_remove : LC yX6_remove cX6_remove 3 none 1 := ⟨⟨w_1_4, w_4_120⟩, by decide +kernel, by decide +kernel, by decide +kernel⟩
theorem lc_yX6_sameAsProposed : LC yX6_sameAsProposed cX6_sameAsProposed 2 (some .int) 0 := ⟨⟨w_1_4, w_4_94⟩, by decide +kernel, by decide +kernel, by decide +kernel⟩
theorem lc_yX6_unsafeLetter : LC yX6_unsafeLetter cX6_unsafeLetter 5 (some .int) 0 := ⟨⟨w_1_4, w_4_90⟩, by decide +kernel, by decide +kernel, by decide +kernel⟩
theorem lc_yX6_waysTo : LC yX6_waysTo cX6_waysTo 6 (some .int) 2 := ⟨⟨w_1_4, w_2_190⟩, by decide +kernel, by decide +kernel, by decide +kernel⟩
theorem lc_yX7_copy : LC yX7_copy cX7_copy 2 none 1 := ⟨⟨w_1_2, w_2_211⟩, by decide +kernel, by decide +kernel, by decide +kernel⟩
theorem lc_yX8_add : LC yX8_add cX8_add 2 (some .boolean) 1 := ⟨⟨w_1_9, w_5_10⟩, by decide +kernel, by decide +kernel, by decide +kernel⟩
theorem lc_yX8_clear : LC yX8_clear cX8_clear 1 none 0 := ⟨⟨w_1_9, w_5_84⟩, by decide +kernel, by decide +kernel, by decide +kernel⟩
theorem lc_yX8_kind : LC yX8_kind cX8_kind 2 (some .char) 1 := ⟨⟨w_1_9, w_5_93⟩, by decide +kernel, by decide +kernel, by decide +kernel⟩
theorem lc_yX8_note : LC yX8_note cX8_note 3 (some .boolean) 2 := ⟨⟨w_1_9, w_5_65⟩, by decide +kernel, by decide +kernel, by decide +kernel⟩
theorem lc_yX8_number : LC yX8_number cX8_number 4 (some .int) 2 := ⟨⟨w_1_9, w_5_97⟩, by decide +kernel, by decide +kernel, by decide +kernel⟩
theorem lc_yX8_put : LC yX8_put cX8_put 5 none 3 := ⟨⟨w_1_9, w_5_61⟩, by decide +kernel, by decide +kernel, by decide +kernel⟩
theorem lc_yX8_read : LC yX8_read cX8_read 4 (some .int) 2 := ⟨⟨w_1_9, w_5_49⟩, by decide +kernel, by decide +kernel, by decide +kernel⟩
theorem lc_yX8_readCondition : LC yX8_readCondition cX8_readCondition 8 (some .boolean) 2 := ⟨⟨w_1_9, w_5_77⟩, by decide +kernel, by decide +kernel, by decide +kernel⟩
theorem lc_yX8_readFact : LC yX8_readFact cX8_readFact 3 (some .boolean) 2 := ⟨⟨w_1_9, w_5_53⟩, by decide +kernel, by decide +kernel, by decide +kernel⟩
theorem lc_yX8_readNumber : LC yX8_readNumber cX8_readNumber 6 (some .boolean) 4 := ⟨⟨w_1_9, w_5_57⟩, by decide +kernel, by decide +kernel, by decide +kernel⟩
theorem lc_yX8_readOrder : LC yX8_readOrder cX8_readOrder 2 (some .boolean) 1 := ⟨⟨w_1_9, w_5_41⟩, by decide +kernel, by decide +kernel, by decide +kernel⟩
theorem lc_yX8_readOrders : LC yX8_readOrders cX8_readOrders 2 (some .int) 0 := ⟨⟨w_1_9, w_5_37⟩, by decide +kernel, by decide +kernel, by decide +kernel⟩
theorem lc_yX8_readRule : LC yX8_readRule cX8_readRule 4 (some .boolean) 1 := ⟨⟨w_1_9, w_5_69⟩, by decide +kernel, by decide +kernel, by decide +kernel⟩
theorem lc_yX8_skip : LC yX8_skip cX8_skip 2 (some .boolean) 1 := ⟨⟨w_1_9, w_5_45⟩, by decide +kernel, by decide +kernel, by decide +kernel⟩
theorem lc_yX8_startsCondition : LC yX8_startsCondition cX8_startsCondition 1 (some .boolean) 0 := ⟨⟨w_1_9, w_5_73⟩, by decide +kernel, by decide +kernel, by decide +kernel⟩
theorem lc_yX9_addFact : LC yX9_addFact cX9_addFact 2 (some .boolean) 1 := ⟨⟨w_1_1, w_3_85⟩, by decide +kernel, by decide +kernel, by decide +kernel⟩
theorem lc_yX9_addRule : LC yX9_addRule cX9_addRule 8 (some .boolean) 4 := ⟨⟨w_1_1, w_4_79⟩, by decide +kernel, by decide +kernel, by decide +kernel⟩
theorem lc_yX9_carryOut : LC yX9_carryOut cX9_carryOut 8 (some .int) 1 := ⟨⟨w_1_1, w_5_89⟩, by decide +kernel, by decide +kernel, by decide +kernel⟩
theorem lc_yX9_codeOf : LC yX9_codeOf cX9_codeOf 3 (some .int) 3 := ⟨⟨w_1_1, w_5_80⟩, by decide +kernel, by decide +kernel, by decide +kernel⟩
theorem lc_yX9_firstIn : LC yX9_firstIn cX9_firstIn 1 (some .int) 1 := ⟨⟨w_1_1, w_2_99⟩, by decide +kernel, by decide +kernel, by decide +kernel⟩
theorem lc_yX9_held : LC yX9_held cX9_held 1 (some (.object "KinFacts$Facts")) 0 := ⟨⟨w_1_1, w_3_127⟩, by decide +kernel, by decide +kernel, by decide +kernel⟩
theorem lc_yX9_isCode : LC yX9_isCode cX9_isCode 1 (some .boolean) 1 := ⟨⟨w_1_1, w_4_74⟩, by decide +kernel, by decide +kernel, by decide +kernel⟩
theorem lc_yX9_isFact : LC yX9_isFact cX9_isFact 3 (some .boolean) 3 := ⟨⟨w_1_1, w_2_233⟩, by decide +kernel, by decide +kernel, by decide +kernel⟩
theorem lc_yX9_isPerson : LC yX9_isPerson cX9_isPerson 1 (some .boolean) 1 := ⟨⟨w_1_1, w_2_239⟩, by decide +kernel, by decide +kernel, by decide +kernel⟩
theorem lc_yX9_isRelation : LC yX9_isRelation cX9_isRelation 1 (some .boolean) 1 := ⟨⟨w_1_1, w_2_236⟩, by decide +kernel, by decide +kernel, by decide +kernel⟩
theorem lc_yX9_isRule : LC yX9_isRule cX9_isRule 4 (some .boolean) 4 := ⟨⟨w_1_1, w_4_71⟩, by decide +kernel, by decide +kernel, by decide +kernel⟩
theorem lc_yX9_lowestOf : LC yX9_lowestOf cX9_lowestOf 2 (some .int) 1 := ⟨⟨w_1_1, w_2_117⟩, by decide +kernel, by decide +kernel, by decide +kernel⟩
theorem lc_yX9_numberOf : LC yX9_numberOf cX9_numberOf 3 (some .int) 3 := ⟨⟨w_1_1, w_2_143⟩, by decide +kernel, by decide +kernel, by decide +kernel⟩
theorem lc_yX9_rankOf : LC yX9_rankOf cX9_rankOf 6 (some .int) 2 := ⟨⟨w_1_1, w_4_52⟩, by decide +kernel, by decide +kernel, by decide +kernel⟩
theorem lc_yX9_refuse : LC yX9_refuse cX9_refuse 3 (some .boolean) 2 := ⟨⟨w_1_1, w_3_95⟩, by decide +kernel, by decide +kernel, by decide +kernel⟩
theorem lc_yX9_relationIn : LC yX9_relationIn cX9_relationIn 1 (some .int) 1 := ⟨⟨w_1_1, w_2_57⟩, by decide +kernel, by decide +kernel, by decide +kernel⟩
theorem lc_yX9_secondIn : LC yX9_secondIn cX9_secondIn 1 (some .int) 1 := ⟨⟨w_1_1, w_2_102⟩, by decide +kernel, by decide +kernel, by decide +kernel⟩
theorem lc_yX9_takeFact : LC yX9_takeFact cX9_takeFact 2 (some .boolean) 1 := ⟨⟨w_1_1, w_3_138⟩, by decide +kernel, by decide +kernel, by decide +kernel⟩
theorem lc_yX9_takeRule : LC yX9_takeRule cX9_takeRule 2 (some .boolean) 1 := ⟨⟨w_1_1, w_4_116⟩, by decide +kernel, by decide +kernel, by decide +kernel⟩
theorem lc_yX9_writeFact : LC yX9_writeFact cX9_writeFact 6 none 1 := ⟨⟨w_1_1, w_4_193⟩, by decide +kernel, by decide +kernel, by decide +kernel⟩
theorem li_yX0_deriveAll : LI yX0_deriveAll 2 := ⟨⟨w_2_165, sel_yX0_deriveAll⟩, TX0, 2, rfl⟩
theorem li_yX0_deriveFrom : LI yX0_deriveFrom 2 := ⟨⟨w_2_159, w_2_160⟩, TX0, 2, rfl⟩
theorem li_yX0_deriveWithout : LI yX0_deriveWithout 2 := ⟨⟨w_4_9, w_4_10⟩, TX0, 2, rfl⟩
theorem li_yX0_makeMore : LI yX0_makeMore 2 := ⟨⟨w_2_171, sel_yX0_makeMore⟩, TX0, 2, rfl⟩
theorem li_yX10_allHolding : LI yX10_allHolding 12 := ⟨⟨w_6_119, sel_yX10_allHolding⟩, TX10, 32, rfl⟩
theorem li_yX10_conditionMany : LI yX10_conditionMany 12 := ⟨⟨w_7_56, sel_yX10_conditionMany⟩, TX10, 32, rfl⟩
theorem li_yX10_conditionOf : LI yX10_conditionOf 12 := ⟨⟨w_6_135, sel_yX10_conditionOf⟩, TX10, 32, rfl⟩
theorem li_yX10_deepens : LI yX10_deepens 12 := ⟨⟨w_6_208, sel_yX10_deepens⟩, TX10, 32, rfl⟩
theorem li_yX10_depths : LI yX10_depths 12 := ⟨⟨w_7_157, sel_yX10_depths⟩, TX10, 32, rfl⟩
theorem li_yX10_derives : LI yX10_derives 12 := ⟨⟨w_6_123, sel_yX10_derives⟩, TX10, 32, rfl⟩
theorem li_yX10_doDrop : LI yX10_doDrop 12 := ⟨⟨w_7_44, sel_yX10_doDrop⟩, TX10, 32, rfl⟩
theorem li_yX10_doRule : LI yX10_doRule 12 := ⟨⟨w_7_24, sel_yX10_doRule⟩, TX10, 32, rfl⟩
theorem li_yX10_doTell : LI yX10_doTell 12 := ⟨⟨w_6_88, sel_yX10_doTell⟩, TX10, 32, rfl⟩
theorem li_yX10_doUntell : LI yX10_doUntell 12 := ⟨⟨w_6_192, sel_yX10_doUntell⟩, TX10, 32, rfl⟩
theorem li_yX10_does : LI yX10_does 12 := ⟨⟨w_7_141, sel_yX10_does⟩, TX10, 32, rfl⟩
theorem li_yX10_ends : LI yX10_ends 12 := ⟨⟨w_6_184, sel_yX10_ends⟩, TX10, 32, rfl⟩
theorem li_yX10_factOfCondition : LI yX10_factOfCondition 12 := ⟨⟨w_6_176, sel_yX10_factOfCondition⟩, TX10, 32, rfl⟩
theorem li_yX10_factsBy : LI yX10_factsBy 12 := ⟨⟨w_7_60, sel_yX10_factsBy⟩, TX10, 32, rfl⟩
theorem li_yX10_fails : LI yX10_fails 12 := ⟨⟨w_6_104, sel_yX10_fails⟩, TX10, 32, rfl⟩
theorem li_yX10_goes : LI yX10_goes 12 := ⟨⟨w_6_154, sel_yX10_goes⟩, TX10, 32, rfl⟩
theorem li_yX10_greatestSize : LI yX10_greatestSize 12 := ⟨⟨w_7_161, sel_yX10_greatestSize⟩, TX10, 32, rfl⟩
theorem li_yX10_greatestStage : LI yX10_greatestStage 12 := ⟨⟨w_7_8, sel_yX10_greatestStage⟩, TX10, 32, rfl⟩
theorem li_yX10_head : LI yX10_head 12 := ⟨⟨w_6_145, sel_yX10_head⟩, TX10, 32, rfl⟩
theorem li_yX10_holding : LI yX10_holding 12 := ⟨⟨w_6_180, sel_yX10_holding⟩, TX10, 32, rfl⟩
theorem li_yX10_inRules : LI yX10_inRules 12 := ⟨⟨w_7_4, sel_yX10_inRules⟩, TX10, 32, rfl⟩
theorem li_yX10_isHere : LI yX10_isHere 12 := ⟨⟨w_7_133, sel_yX10_isHere⟩, TX10, 32, rfl⟩
theorem li_yX10_isRule : LI yX10_isRule 12 := ⟨⟨w_7_48, sel_yX10_isRule⟩, TX10, 32, rfl⟩
theorem li_yX10_keep : LI yX10_keep 12 := ⟨⟨w_6_81, sel_yX10_keep⟩, TX10, 32, rfl⟩
theorem li_yX10_layerMany : LI yX10_layerMany 12 := ⟨⟨w_6_127, sel_yX10_layerMany⟩, TX10, 32, rfl⟩
theorem li_yX10_layers : LI yX10_layers 12 := ⟨⟨w_6_131, sel_yX10_layers⟩, TX10, 32, rfl⟩
theorem li_yX10_layersWith : LI yX10_layersWith 12 := ⟨⟨w_7_72, sel_yX10_layersWith⟩, TX10, 32, rfl⟩
theorem li_yX10_likeRule : LI yX10_likeRule 12 := ⟨⟨w_7_36, sel_yX10_likeRule⟩, TX10, 32, rfl⟩
theorem li_yX10_lowest : LI yX10_lowest 12 := ⟨⟨w_6_158, sel_yX10_lowest⟩, TX10, 32, rfl⟩
theorem li_yX10_makes : LI yX10_makes 12 := ⟨⟨w_6_172, sel_yX10_makes⟩, TX10, 32, rfl⟩
theorem li_yX10_needs : LI yX10_needs 12 := ⟨⟨w_6_212, sel_yX10_needs⟩, TX10, 32, rfl⟩
theorem li_yX10_negatedMany : LI yX10_negatedMany 12 := ⟨⟨w_7_165, sel_yX10_negatedMany⟩, TX10, 32, rfl⟩
theorem li_yX10_reaches : LI yX10_reaches 12 := ⟨⟨w_7_76, sel_yX10_reaches⟩, TX10, 32, rfl⟩
theorem li_yX10_readCondition : LI yX10_readCondition 12 := ⟨⟨w_7_137, sel_yX10_readCondition⟩, TX10, 32, rfl⟩
theorem li_yX10_readOrder : LI yX10_readOrder 12 := ⟨⟨w_7_125, sel_yX10_readOrder⟩, TX10, 32, rfl⟩
theorem li_yX10_refuse : LI yX10_refuse 12 := ⟨⟨w_6_115, sel_yX10_refuse⟩, TX10, 32, rfl⟩
theorem li_yX10_rounds : LI yX10_rounds 12 := ⟨⟨w_7_87, w_7_88⟩, TX10, 32, rfl⟩
theorem li_yX10_roundsOfAll : LI yX10_roundsOfAll 12 := ⟨⟨w_7_153, sel_yX10_roundsOfAll⟩, TX10, 32, rfl⟩
theorem li_yX10_ruleHas : LI yX10_ruleHas 12 := ⟨⟨w_6_162, sel_yX10_ruleHas⟩, TX10, 32, rfl⟩
theorem li_yX10_says : LI yX10_says 12 := ⟨⟨w_7_105, sel_yX10_says⟩, TX10, 32, rfl⟩
theorem li_yX10_saysFact : LI yX10_saysFact 12 := ⟨⟨w_7_101, sel_yX10_saysFact⟩, TX10, 32, rfl⟩
theorem li_yX10_settles : LI yX10_settles 12 := ⟨⟨w_6_149, sel_yX10_settles⟩, TX10, 32, rfl⟩
theorem li_yX10_sign : LI yX10_sign 12 := ⟨⟨w_7_129, sel_yX10_sign⟩, TX10, 32, rfl⟩
theorem li_yX10_sizeOf : LI yX10_sizeOf 12 := ⟨⟨w_6_216, sel_yX10_sizeOf⟩, TX10, 32, rfl⟩
theorem li_yX10_toldOf : LI yX10_toldOf 12 := ⟨⟨w_6_111, sel_yX10_toldOf⟩, TX10, 32, rfl⟩
theorem li_yX10_twice : LI yX10_twice 12 := ⟨⟨w_7_80, sel_yX10_twice⟩, TX10, 32, rfl⟩
theorem li_yX10_unlikeNeeds : LI yX10_unlikeNeeds 12 := ⟨⟨w_6_220, sel_yX10_unlikeNeeds⟩, TX10, 32, rfl⟩
theorem li_yX10_unsafe : LI yX10_unsafe 12 := ⟨⟨w_7_32, sel_yX10_unsafe⟩, TX10, 32, rfl⟩
theorem li_yX10_waysBy : LI yX10_waysBy 12 := ⟨⟨w_6_228, sel_yX10_waysBy⟩, TX10, 32, rfl⟩
theorem li_yX10_writes : LI yX10_writes 12 := ⟨⟨w_7_28, sel_yX10_writes⟩, TX10, 32, rfl⟩
theorem li_yX1_addRound : LI yX1_addRound 3 := ⟨⟨w_2_80, sel_yX1_addRound⟩, TX1, 10, rfl⟩
theorem li_yX1_allDepths : LI yX1_allDepths 3 := ⟨⟨w_5_167, w_5_168⟩, TX1, 10, rfl⟩
theorem li_yX1_allRounds : LI yX1_allRounds 3 := ⟨⟨w_5_120, w_5_121⟩, TX1, 10, rfl⟩
theorem li_yX1_areFounded : LI yX1_areFounded 3 := ⟨⟨w_2_200, w_2_201⟩, TX1, 10, rfl⟩
theorem li_yX1_derivationsWith : LI yX1_derivationsWith 3 := ⟨⟨w_4_135, w_4_136⟩, TX1, 10, rfl⟩
theorem li_yX1_enter : LI yX1_enter 3 := ⟨⟨w_2_120, sel_yX1_enter⟩, TX1, 10, rfl⟩
theorem li_yX1_freshIn : LI yX1_freshIn 3 := ⟨⟨w_4_180, w_4_181⟩, TX1, 10, rfl⟩
theorem li_yX1_greatestDepth : LI yX1_greatestDepth 3 := ⟨⟨w_5_129, w_5_130⟩, TX1, 10, rfl⟩
theorem li_yX1_greatestSize : LI yX1_greatestSize 3 := ⟨⟨w_5_133, w_5_134⟩, TX1, 10, rfl⟩
theorem li_yX1_greatestStage : LI yX1_greatestStage 3 := ⟨⟨w_5_125, w_5_126⟩, TX1, 10, rfl⟩
theorem li_yX1_lastStage : LI yX1_lastStage 3 := ⟨⟨w_4_39, w_4_40⟩, TX1, 10, rfl⟩
theorem li_yX1_maker : LI yX1_maker 3 := ⟨⟨w_4_212, w_4_213⟩, TX1, 10, rfl⟩
theorem li_yX1_need : LI yX1_need 3 := ⟨⟨w_2_131, w_2_132⟩, TX1, 10, rfl⟩
theorem li_yX1_needs : LI yX1_needs 3 := ⟨⟨w_3_217, w_3_218⟩, TX1, 10, rfl⟩
theorem li_yX1_outdate : LI yX1_outdate 3 := ⟨⟨w_3_98, w_3_99⟩, TX1, 10, rfl⟩
theorem li_yX1_rest : LI yX1_rest 3 := ⟨⟨w_2_128, sel_yX1_rest⟩, TX1, 10, rfl⟩
theorem li_yX1_roundsOf : LI yX1_roundsOf 3 := ⟨⟨w_4_167, w_4_168⟩, TX1, 10, rfl⟩
theorem li_yX1_settled : LI yX1_settled 3 := ⟨⟨w_2_28, w_2_29⟩, TX1, 10, rfl⟩
theorem li_yX1_sizeOf : LI yX1_sizeOf 3 := ⟨⟨w_3_207, w_3_208⟩, TX1, 10, rfl⟩
theorem li_yX1_start : LI yX1_start 3 := ⟨⟨w_2_33, sel_yX1_start⟩, TX1, 10, rfl⟩
theorem li_yX2_clear : LI yX2_clear 4 := ⟨⟨w_2_75, w_2_76⟩, TX2, 2, rfl⟩
theorem li_yX2_copy : LI yX2_copy 4 := ⟨⟨w_2_36, w_2_37⟩, TX2, 2, rfl⟩
theorem li_yX2_from : LI yX2_from 4 := ⟨⟨w_2_108, w_2_109⟩, TX2, 2, rfl⟩
theorem li_yX2_has : LI yX2_has 4 := ⟨⟨w_2_85, w_2_86⟩, TX2, 2, rfl⟩
theorem li_yX2_isSame : LI yX2_isSame 4 := ⟨⟨w_2_179, w_2_180⟩, TX2, 2, rfl⟩
theorem li_yX2_join : LI yX2_join 4 := ⟨⟨w_2_146, w_2_147⟩, TX2, 2, rfl⟩
theorem li_yX2_put : LI yX2_put 4 := ⟨⟨w_2_123, w_2_124⟩, TX2, 2, rfl⟩
theorem li_yX2_size : LI yX2_size 4 := ⟨⟨w_2_218, w_2_219⟩, TX2, 2, rfl⟩
theorem li_yX2_sizeOf : LI yX2_sizeOf 4 := ⟨⟨w_3_88, w_3_89⟩, TX2, 2, rfl⟩
theorem li_yX2_take : LI yX2_take 4 := ⟨⟨w_3_140, w_3_141⟩, TX2, 2, rfl⟩
theorem li_yX2_to : LI yX2_to 4 := ⟨⟨w_2_112, w_2_113⟩, TX2, 2, rfl⟩
theorem li_yX2_toThemselves : LI yX2_toThemselves 4 := ⟨⟨w_2_104, w_2_105⟩, TX2, 2, rfl⟩
theorem li_yX3_arrange : LI yX3_arrange 5 := ⟨⟨w_2_40, w_2_41⟩, TX3, 1, rfl⟩
theorem li_yX3_count : LI yX3_count 5 := ⟨⟨w_2_67, w_2_68⟩, TX3, 1, rfl⟩
theorem li_yX3_lift : LI yX3_lift 5 := ⟨⟨w_2_45, sel_yX3_lift⟩, TX3, 1, rfl⟩
theorem li_yX3_of : LI yX3_of 5 := ⟨⟨w_2_59, w_2_60⟩, TX3, 1, rfl⟩
theorem li_yX3_raise : LI yX3_raise 5 := ⟨⟨w_2_64, sel_yX3_raise⟩, TX3, 1, rfl⟩
theorem li_yX4_add : LI yX4_add 6 := ⟨⟨w_4_207, w_4_208⟩, TX4, 2, rfl⟩
theorem li_yX4_addCondition : LI yX4_addCondition 6 := ⟨⟨w_4_225, w_4_226⟩, TX4, 2, rfl⟩
theorem li_yX4_addFact : LI yX4_addFact 6 := ⟨⟨w_4_199, w_4_200⟩, TX4, 2, rfl⟩
theorem li_yX4_addNumber : LI yX4_addNumber 6 := ⟨⟨w_4_203, w_4_204⟩, TX4, 2, rfl⟩
theorem li_yX4_clear : LI yX4_clear 6 := ⟨⟨w_4_195, w_4_196⟩, TX4, 2, rfl⟩
theorem li_yX5_forget : LI yX5_forget 7 := ⟨⟨w_5_200, w_5_201⟩, TX5, 3, rfl⟩
theorem li_yX5_giveBack : LI yX5_giveBack 7 := ⟨⟨w_5_99, w_5_100⟩, TX5, 3, rfl⟩
theorem li_yX5_keep : LI yX5_keep 7 := ⟨⟨w_3_118, w_3_119⟩, TX5, 3, rfl⟩
theorem li_yX5_mark : LI yX5_mark 7 := ⟨⟨w_3_73, w_3_74⟩, TX5, 3, rfl⟩
theorem li_yX5_marked : LI yX5_marked 7 := ⟨⟨w_3_78, sel_yX5_marked⟩, TX5, 3, rfl⟩
theorem li_yX5_stepBack : LI yX5_stepBack 7 := ⟨⟨w_5_186, w_5_187⟩, TX5, 3, rfl⟩
theorem li_yX6_accept : LI yX6_accept 8 := ⟨⟨w_4_97, w_4_98⟩, TX6, 4, rfl⟩
theorem li_yX6_areClosed : LI yX6_areClosed 8 := ⟨⟨w_2_183, w_2_184⟩, TX6, 4, rfl⟩
theorem li_yX6_code : LI yX6_code 8 := ⟨⟨w_2_52, w_2_53⟩, TX6, 4, rfl⟩
theorem li_yX6_conditionsOf : LI yX6_conditionsOf 8 := ⟨⟨w_4_131, w_4_132⟩, TX6, 4, rfl⟩
theorem li_yX6_conditionsWith : LI yX6_conditionsWith 8 := ⟨⟨w_4_35, w_4_36⟩, TX6, 4, rfl⟩
theorem li_yX6_copy : LI yX6_copy 8 := ⟨⟨w_2_214, w_2_215⟩, TX6, 4, rfl⟩
theorem li_yX6_has : LI yX6_has 8 := ⟨⟨w_4_109, w_4_110⟩, TX6, 4, rfl⟩
theorem li_yX6_head : LI yX6_head 8 := ⟨⟨w_2_48, w_2_49⟩, TX6, 4, rfl⟩
theorem li_yX6_headsWith : LI yX6_headsWith 8 := ⟨⟨w_4_31, w_4_32⟩, TX6, 4, rfl⟩
theorem li_yX6_makersOf : LI yX6_makersOf 8 := ⟨⟨w_2_89, w_2_90⟩, TX6, 4, rfl⟩
theorem li_yX6_makes : LI yX6_makes 8 := ⟨⟨w_4_139, w_4_140⟩, TX6, 4, rfl⟩
theorem li_yX6_negated : LI yX6_negated 8 := ⟨⟨w_5_138, w_5_139⟩, TX6, 4, rfl⟩
theorem li_yX6_propose : LI yX6_propose 8 := ⟨⟨w_4_81, w_4_82⟩, TX6, 4, rfl⟩
theorem li_yX6_remove : LI yX6_remove 8 := ⟨⟨w_4_118, w_4_119⟩, TX6, 4, rfl⟩
theorem li_yX6_sameAsProposed : LI yX6_sameAsProposed 8 := ⟨⟨w_4_92, w_4_93⟩, TX6, 4, rfl⟩
theorem li_yX6_unsafeLetter : LI yX6_unsafeLetter 8 := ⟨⟨w_4_88, w_4_89⟩, TX6, 4, rfl⟩
theorem li_yX6_waysTo : LI yX6_waysTo 8 := ⟨⟨w_2_188, w_2_189⟩, TX6, 4, rfl⟩
theorem li_yX7_copy : LI yX7_copy 9 := ⟨⟨w_2_209, w_2_210⟩, TX7, 2, rfl⟩
theorem li_yX8_add : LI yX8_add 10 := ⟨⟨w_5_8, w_5_9⟩, TX8, 6, rfl⟩
theorem li_yX8_clear : LI yX8_clear 10 := ⟨⟨w_5_82, w_5_83⟩, TX8, 6, rfl⟩
theorem li_yX8_kind : LI yX8_kind 10 := ⟨⟨w_5_91, w_5_92⟩, TX8, 6, rfl⟩
theorem li_yX8_note : LI yX8_note 10 := ⟨⟨w_5_64, sel_yX8_note⟩, TX8, 6, rfl⟩
theorem li_yX8_number : LI yX8_number 10 := ⟨⟨w_5_95, w_5_96⟩, TX8, 6, rfl⟩
theorem li_yX8_put : LI yX8_put 10 := ⟨⟨w_5_60, sel_yX8_put⟩, TX8, 6, rfl⟩
theorem li_yX8_read : LI yX8_read 10 := ⟨⟨w_5_48, sel_yX8_read⟩, TX8, 6, rfl⟩
theorem li_yX8_readCondition : LI yX8_readCondition 10 := ⟨⟨w_5_76, sel_yX8_readCondition⟩, TX8, 6, rfl⟩
theorem li_yX8_readFact : LI yX8_readFact 10 := ⟨⟨w_5_52, sel_yX8_readFact⟩, TX8, 6, rfl⟩
theorem li_yX8_readNumber : LI yX8_readNumber 10 := ⟨⟨w_5_56, sel_yX8_readNumber⟩, TX8, 6, rfl⟩
theorem li_yX8_readOrder : LI yX8_readOrder 10 := ⟨⟨w_5_40, sel_yX8_readOrder⟩, TX8, 6, rfl⟩
theorem li_yX8_readOrders : LI yX8_readOrders 10 := ⟨⟨w_5_35, w_5_36⟩, TX8, 6, rfl⟩
theorem li_yX8_readRule : LI yX8_readRule 10 := ⟨⟨w_5_68, sel_yX8_readRule⟩, TX8, 6, rfl⟩
theorem li_yX8_skip : LI yX8_skip 10 := ⟨⟨w_5_44, sel_yX8_skip⟩, TX8, 6, rfl⟩
theorem li_yX8_startsCondition : LI yX8_startsCondition 10 := ⟨⟨w_5_72, sel_yX8_startsCondition⟩, TX8, 6, rfl⟩
theorem li_yX9_addFact : LI yX9_addFact 11 := ⟨⟨w_3_84, sel_yX9_addFact⟩, TX9, 12, rfl⟩
theorem li_yX9_addRule : LI yX9_addRule 11 := ⟨⟨w_4_78, sel_yX9_addRule⟩, TX9, 12, rfl⟩
theorem li_yX9_carryOut : LI yX9_carryOut 11 := ⟨⟨w_5_88, sel_yX9_carryOut⟩, TX9, 12, rfl⟩
theorem li_yX9_held : LI yX9_held 11 := ⟨⟨w_3_126, sel_yX9_held⟩, TX9, 12, rfl⟩
theorem li_yX9_refuse : LI yX9_refuse 11 := ⟨⟨w_3_94, sel_yX9_refuse⟩, TX9, 12, rfl⟩
theorem li_yX9_takeFact : LI yX9_takeFact 11 := ⟨⟨w_3_137, sel_yX9_takeFact⟩, TX9, 12, rfl⟩
theorem li_yX9_takeRule : LI yX9_takeRule 11 := ⟨⟨w_4_115, sel_yX9_takeRule⟩, TX9, 12, rfl⟩
theorem li_yX9_writeFact : LI yX9_writeFact 11 := ⟨⟨w_4_192, sel_yX9_writeFact⟩, TX9, 12, rfl⟩
theorem w_st_yJ13_bitCount_95d88 : Cond.static yJ13_bitCount_95d88 ∈ TT := w_3_211
theorem w_st_yJ6_bitCount_0f7a4 : Cond.static yJ6_bitCount_0f7a4 ∈ TT := w_2_194
theorem w_st_yX10_fact : Cond.static yX10_fact ∈ TT := w_6_107
theorem w_st_yX10_hasLetter : Cond.static yX10_hasLetter ∈ TT := w_6_165
theorem w_st_yX10_in : Cond.static yX10_in ∈ TT := w_6_97
theorem w_st_yX10_isFact : Cond.static yX10_isFact ∈ TT := w_6_91
theorem w_st_yX10_isPerson : Cond.static yX10_isPerson ∈ TT := w_6_100
theorem w_st_yX10_isRelation : Cond.static yX10_isRelation ∈ TT := w_6_94
theorem w_st_yX10_letterIn : Cond.static yX10_letterIn ∈ TT := w_6_168
theorem w_st_yX10_relationIn : Cond.static yX10_relationIn ∈ TT := w_6_138
theorem w_st_yX1_person : Cond.static yX1_person ∈ TT := w_2_137
theorem w_st_yX6_fulfilling : Cond.static yX6_fulfilling ∈ TT := w_2_94
theorem w_st_yX6_hasZ : Cond.static yX6_hasZ ∈ TT := w_4_85
theorem w_st_yX9_codeOf : Cond.static yX9_codeOf ∈ TT := w_5_79
theorem w_st_yX9_firstIn : Cond.static yX9_firstIn ∈ TT := w_2_98
theorem w_st_yX9_isCode : Cond.static yX9_isCode ∈ TT := w_4_73
theorem w_st_yX9_isFact : Cond.static yX9_isFact ∈ TT := w_2_232
theorem w_st_yX9_isPerson : Cond.static yX9_isPerson ∈ TT := w_2_238
theorem w_st_yX9_isRelation : Cond.static yX9_isRelation ∈ TT := w_2_235
theorem w_st_yX9_isRule : Cond.static yX9_isRule ∈ TT := w_4_70
theorem w_st_yX9_lowestOf : Cond.static yX9_lowestOf ∈ TT := w_2_116
theorem w_st_yX9_numberOf : Cond.static yX9_numberOf ∈ TT := w_2_142
theorem w_st_yX9_rankOf : Cond.static yX9_rankOf ∈ TT := w_4_51
theorem w_st_yX9_relationIn : Cond.static yX9_relationIn ∈ TT := w_2_56
theorem w_st_yX9_secondIn : Cond.static yX9_secondIn ∈ TT := w_2_101
