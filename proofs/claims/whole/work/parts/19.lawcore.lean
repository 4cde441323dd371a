def P1 : List Nat := [1, 2, 3, 9, 10, 11, 19, 20, 21, 27, 28, 29, 35, 36, 37, 43, 44, 45, 51, 52, 53, 59, 60, 61, 67, 68, 69, 75, 76, 77, 83, 84, 85, 91, 92, 93, 94, 95, 96, 97, 98, 99, 108, 109, 110, 4, 5, 6, 7, 12, 13, 14, 15, 22, 23, 24, 25, 30, 31, 32, 33, 38, 39, 40, 41, 46, 47, 48, 49, 54, 55, 56, 57, 62, 63, 64, 65, 70, 71, 72, 73, 78, 79, 80, 81, 86, 87, 88, 89, 0, 8, 18, 26, 34, 42, 50, 58, 66, 74, 82, 100, 101, 111, 112, 113, 114, 90, 102, 103, 104, 105, 106, 107, 16, 17, 115, 116, 117, 118, 119, 120]
def a1 (h0 : Nat) : Nat → Nat := fun i => if i = 121 then h0 else h0 + 1 + P1.getD i 0
def a2 (h0 : Nat) : Nat → Nat := fun i => if i = 0 then h0 + 122 else h0 + 123 + (i - 1)
theorem P1_inj : ∀ i, i < 121 → ∀ j, j < 121 → P1.getD i 0 = P1.getD j 0 → i = j := by decide +kernel
theorem P1_lt : ∀ i, i < 121 → P1.getD i 0 < 121 := by decide +kernel
theorem a1_I (h0 : Nat) : KI SK (a1 h0) := fun i j hi hj h => by
  have hi : i < 122 := hi
  have hj : j < 122 := hj
  unfold a1 at h
  by_cases h1 : i = 121 <;> by_cases h2 : j = 121
  · omega
  · rw [if_pos h1, if_neg h2] at h; omega
  · rw [if_neg h1, if_pos h2] at h; omega
  · rw [if_neg h1, if_neg h2] at h
    exact P1_inj i (by omega) j (by omega) (by omega)
theorem a2_I (h0 : Nat) : KI SM (a2 h0) := fun i j hi hj h => by
  unfold a2 at h
  split at h <;> split at h <;> omega
theorem a1_r (h0 : Nat) {i : Nat} (hi : i < 122) : h0 ≤ a1 h0 i ∧ a1 h0 i < h0 + 122 := by
  unfold a1
  by_cases h1 : i = 121
  · rw [if_pos h1]; omega
  · rw [if_neg h1]
    have := P1_lt i (by omega)
    omega
theorem a2_r (h0 : Nat) {i : Nat} (hi : i < 21) : h0 + 122 ≤ a2 h0 i ∧ a2 h0 i < h0 + 143 := by
  unfold a2
  split <;> omega
/-- the data of a new object, and of a new reference -/
def M0 : KS := (fun i => if i = 121 then (fun j => if j = 9 then -1 else 0) else fun _ => 0, fun _ => 0)
def N0 : KS := (fun i => if i = 0 then (fun j => if j = 29 then -1 else 0) else fun _ => 0, fun _ => 0)
def arQ (h0 : Nat) : Nat → Option Nat := va_up (va_up (va_up (va_up (va_up (va_up (va_up (va_up (va_up (fun _ => none) (0 : Int32).toNatClampNeg (some ((h0 + 1) + 18))) (1 : Int32).toNatClampNeg (some ((h0 + 1) + 26))) (2 : Int32).toNatClampNeg (some ((h0 + 1) + 34))) (3 : Int32).toNatClampNeg (some ((h0 + 1) + 42))) (4 : Int32).toNatClampNeg (some ((h0 + 1) + 50))) (5 : Int32).toNatClampNeg (some ((h0 + 1) + 58))) (6 : Int32).toNatClampNeg (some ((h0 + 1) + 66))) (7 : Int32).toNatClampNeg (some ((h0 + 1) + 74))) (8 : Int32).toNatClampNeg (some ((h0 + 1) + 82))
theorem ar_q (h0 : Nat) : ∀ k, k < 9 → arQ h0 k = (SK.2.2.2.2 114 k).map (a1 h0) := fun k hk => match k, hk with
  | 0, _ => rfl
  | 1, _ => rfl
  | 2, _ => rfl
  | 3, _ => rfl
  | 4, _ => rfl
  | 5, _ => rfl
  | 6, _ => rfl
  | 7, _ => rfl
  | 8, _ => rfl
theorem ar_114 {E : KE} {h0 : Nat} {H : Heap} (h : va_at E.1 vwCl (ca h0 (h0 + 1) 18, .inl (E.2.2.2.2.2.1, 9, .inr (.inr (.inr (.inr (arQ h0)))))) H) : va_at E.1 vwCl (a1 h0 114, kcell SK E (a1 h0) M0 114) H := by
  have h1 : H[ca h0 (h0 + 1) 18]? = some (arrV E.2.2.2.2.2.1 9 (fun j => va_rf (arQ h0 j))) := h
  have h2 : arrV E.2.2.2.2.2.1 9 (fun j => va_rf (arQ h0 j)) = arrV E.2.2.2.2.2.1 9 (fun j => va_rf ((SK.2.2.2.2 114 j).map (a1 h0))) :=
    congrArg (fun f : Fin 9 → Value => ({ cls := E.2.2.2.2.2.1, slots := Array.ofFn (n := 9) f, vm := .none } : Cell)) (funext fun j => congrArg va_rf (ar_q h0 j.val j.isLt))
  rw [h2] at h1
  exact h1
theorem ar_0 (E : KE) (h0 : Nat) : (lX9 E h0 (h0 + 1))[2]? = some (kcell SK E (a1 h0) M0 0) := rfl
theorem ar_1 (E : KE) (h0 : Nat) : (lX9 E h0 (h0 + 1))[3]? = some (kcell SK E (a1 h0) M0 1) := rfl
theorem ar_2 (E : KE) (h0 : Nat) : (lX9 E h0 (h0 + 1))[4]? = some (kcell SK E (a1 h0) M0 2) := rfl
theorem ar_3 (E : KE) (h0 : Nat) : (lX9 E h0 (h0 + 1))[10]? = some (kcell SK E (a1 h0) M0 3) := rfl
theorem ar_4 (E : KE) (h0 : Nat) : (lX9 E h0 (h0 + 1))[11]? = some (kcell SK E (a1 h0) M0 4) := rfl
theorem ar_5 (E : KE) (h0 : Nat) : (lX9 E h0 (h0 + 1))[12]? = some (kcell SK E (a1 h0) M0 5) := rfl
theorem ar_6 (E : KE) (h0 : Nat) : (lX9 E h0 (h0 + 1))[20]? = some (kcell SK E (a1 h0) M0 6) := rfl
theorem ar_7 (E : KE) (h0 : Nat) : (lX9 E h0 (h0 + 1))[21]? = some (kcell SK E (a1 h0) M0 7) := rfl
theorem ar_8 (E : KE) (h0 : Nat) : (lX9 E h0 (h0 + 1))[22]? = some (kcell SK E (a1 h0) M0 8) := rfl
theorem ar_9 (E : KE) (h0 : Nat) : (lX9 E h0 (h0 + 1))[28]? = some (kcell SK E (a1 h0) M0 9) := rfl
theorem ar_10 (E : KE) (h0 : Nat) : (lX9 E h0 (h0 + 1))[29]? = some (kcell SK E (a1 h0) M0 10) := rfl
theorem ar_11 (E : KE) (h0 : Nat) : (lX9 E h0 (h0 + 1))[30]? = some (kcell SK E (a1 h0) M0 11) := rfl
theorem ar_12 (E : KE) (h0 : Nat) : (lX9 E h0 (h0 + 1))[36]? = some (kcell SK E (a1 h0) M0 12) := rfl
theorem ar_13 (E : KE) (h0 : Nat) : (lX9 E h0 (h0 + 1))[37]? = some (kcell SK E (a1 h0) M0 13) := rfl
theorem ar_14 (E : KE) (h0 : Nat) : (lX9 E h0 (h0 + 1))[38]? = some (kcell SK E (a1 h0) M0 14) := rfl
theorem ar_15 (E : KE) (h0 : Nat) : (lX9 E h0 (h0 + 1))[44]? = some (kcell SK E (a1 h0) M0 15) := rfl
theorem ar_16 (E : KE) (h0 : Nat) : (lX9 E h0 (h0 + 1))[45]? = some (kcell SK E (a1 h0) M0 16) := rfl
theorem ar_17 (E : KE) (h0 : Nat) : (lX9 E h0 (h0 + 1))[46]? = some (kcell SK E (a1 h0) M0 17) := rfl
theorem ar_18 (E : KE) (h0 : Nat) : (lX9 E h0 (h0 + 1))[52]? = some (kcell SK E (a1 h0) M0 18) := rfl
theorem ar_19 (E : KE) (h0 : Nat) : (lX9 E h0 (h0 + 1))[53]? = some (kcell SK E (a1 h0) M0 19) := rfl
theorem ar_20 (E : KE) (h0 : Nat) : (lX9 E h0 (h0 + 1))[54]? = some (kcell SK E (a1 h0) M0 20) := rfl
theorem ar_21 (E : KE) (h0 : Nat) : (lX9 E h0 (h0 + 1))[60]? = some (kcell SK E (a1 h0) M0 21) := rfl
theorem ar_22 (E : KE) (h0 : Nat) : (lX9 E h0 (h0 + 1))[61]? = some (kcell SK E (a1 h0) M0 22) := rfl
theorem ar_23 (E : KE) (h0 : Nat) : (lX9 E h0 (h0 + 1))[62]? = some (kcell SK E (a1 h0) M0 23) := rfl
theorem ar_24 (E : KE) (h0 : Nat) : (lX9 E h0 (h0 + 1))[68]? = some (kcell SK E (a1 h0) M0 24) := rfl
theorem ar_25 (E : KE) (h0 : Nat) : (lX9 E h0 (h0 + 1))[69]? = some (kcell SK E (a1 h0) M0 25) := rfl
theorem ar_26 (E : KE) (h0 : Nat) : (lX9 E h0 (h0 + 1))[70]? = some (kcell SK E (a1 h0) M0 26) := rfl
theorem ar_27 (E : KE) (h0 : Nat) : (lX9 E h0 (h0 + 1))[76]? = some (kcell SK E (a1 h0) M0 27) := rfl
theorem ar_28 (E : KE) (h0 : Nat) : (lX9 E h0 (h0 + 1))[77]? = some (kcell SK E (a1 h0) M0 28) := rfl
theorem ar_29 (E : KE) (h0 : Nat) : (lX9 E h0 (h0 + 1))[78]? = some (kcell SK E (a1 h0) M0 29) := rfl
theorem ar_30 (E : KE) (h0 : Nat) : (lX9 E h0 (h0 + 1))[84]? = some (kcell SK E (a1 h0) M0 30) := rfl
theorem ar_31 (E : KE) (h0 : Nat) : (lX9 E h0 (h0 + 1))[85]? = some (kcell SK E (a1 h0) M0 31) := rfl
theorem ar_32 (E : KE) (h0 : Nat) : (lX9 E h0 (h0 + 1))[86]? = some (kcell SK E (a1 h0) M0 32) := rfl
theorem ar_33 (E : KE) (h0 : Nat) : (lX9 E h0 (h0 + 1))[92]? = some (kcell SK E (a1 h0) M0 33) := rfl
theorem ar_34 (E : KE) (h0 : Nat) : (lX9 E h0 (h0 + 1))[93]? = some (kcell SK E (a1 h0) M0 34) := rfl
theorem ar_35 (E : KE) (h0 : Nat) : (lX9 E h0 (h0 + 1))[94]? = some (kcell SK E (a1 h0) M0 35) := rfl
theorem ar_36 (E : KE) (h0 : Nat) : (lX9 E h0 (h0 + 1))[95]? = some (kcell SK E (a1 h0) M0 36) := rfl
theorem ar_37 (E : KE) (h0 : Nat) : (lX9 E h0 (h0 + 1))[96]? = some (kcell SK E (a1 h0) M0 37) := rfl
theorem ar_38 (E : KE) (h0 : Nat) : (lX9 E h0 (h0 + 1))[97]? = some (kcell SK E (a1 h0) M0 38) := rfl
theorem ar_39 (E : KE) (h0 : Nat) : (lX9 E h0 (h0 + 1))[98]? = some (kcell SK E (a1 h0) M0 39) := rfl
theorem ar_40 (E : KE) (h0 : Nat) : (lX9 E h0 (h0 + 1))[99]? = some (kcell SK E (a1 h0) M0 40) := rfl
theorem ar_41 (E : KE) (h0 : Nat) : (lX9 E h0 (h0 + 1))[100]? = some (kcell SK E (a1 h0) M0 41) := rfl
theorem ar_42 (E : KE) (h0 : Nat) : (lX9 E h0 (h0 + 1))[109]? = some (kcell SK E (a1 h0) M0 42) := rfl
theorem ar_43 (E : KE) (h0 : Nat) : (lX9 E h0 (h0 + 1))[110]? = some (kcell SK E (a1 h0) M0 43) := rfl
theorem ar_44 (E : KE) (h0 : Nat) : (lX9 E h0 (h0 + 1))[111]? = some (kcell SK E (a1 h0) M0 44) := rfl
theorem ar_45 (E : KE) (h0 : Nat) : (lX9 E h0 (h0 + 1))[5]? = some (kcell SK E (a1 h0) M0 45) := rfl
theorem ar_46 (E : KE) (h0 : Nat) : (lX9 E h0 (h0 + 1))[6]? = some (kcell SK E (a1 h0) M0 46) := rfl
theorem ar_47 (E : KE) (h0 : Nat) : (lX9 E h0 (h0 + 1))[7]? = some (kcell SK E (a1 h0) M0 47) := rfl
theorem ar_48 (E : KE) (h0 : Nat) : (lX9 E h0 (h0 + 1))[8]? = some (kcell SK E (a1 h0) M0 48) := rfl
theorem ar_49 (E : KE) (h0 : Nat) : (lX9 E h0 (h0 + 1))[13]? = some (kcell SK E (a1 h0) M0 49) := rfl
theorem ar_50 (E : KE) (h0 : Nat) : (lX9 E h0 (h0 + 1))[14]? = some (kcell SK E (a1 h0) M0 50) := rfl
theorem ar_51 (E : KE) (h0 : Nat) : (lX9 E h0 (h0 + 1))[15]? = some (kcell SK E (a1 h0) M0 51) := rfl
theorem ar_52 (E : KE) (h0 : Nat) : (lX9 E h0 (h0 + 1))[16]? = some (kcell SK E (a1 h0) M0 52) := rfl
theorem ar_53 (E : KE) (h0 : Nat) : (lX9 E h0 (h0 + 1))[23]? = some (kcell SK E (a1 h0) M0 53) := rfl
theorem ar_54 (E : KE) (h0 : Nat) : (lX9 E h0 (h0 + 1))[24]? = some (kcell SK E (a1 h0) M0 54) := rfl
theorem ar_55 (E : KE) (h0 : Nat) : (lX9 E h0 (h0 + 1))[25]? = some (kcell SK E (a1 h0) M0 55) := rfl
theorem ar_56 (E : KE) (h0 : Nat) : (lX9 E h0 (h0 + 1))[26]? = some (kcell SK E (a1 h0) M0 56) := rfl
theorem ar_57 (E : KE) (h0 : Nat) : (lX9 E h0 (h0 + 1))[31]? = some (kcell SK E (a1 h0) M0 57) := rfl
theorem ar_58 (E : KE) (h0 : Nat) : (lX9 E h0 (h0 + 1))[32]? = some (kcell SK E (a1 h0) M0 58) := rfl
theorem ar_59 (E : KE) (h0 : Nat) : (lX9 E h0 (h0 + 1))[33]? = some (kcell SK E (a1 h0) M0 59) := rfl
theorem ar_60 (E : KE) (h0 : Nat) : (lX9 E h0 (h0 + 1))[34]? = some (kcell SK E (a1 h0) M0 60) := rfl
theorem ar_61 (E : KE) (h0 : Nat) : (lX9 E h0 (h0 + 1))[39]? = some (kcell SK E (a1 h0) M0 61) := rfl
theorem ar_62 (E : KE) (h0 : Nat) : (lX9 E h0 (h0 + 1))[40]? = some (kcell SK E (a1 h0) M0 62) := rfl
theorem ar_63 (E : KE) (h0 : Nat) : (lX9 E h0 (h0 + 1))[41]? = some (kcell SK E (a1 h0) M0 63) := rfl
theorem ar_64 (E : KE) (h0 : Nat) : (lX9 E h0 (h0 + 1))[42]? = some (kcell SK E (a1 h0) M0 64) := rfl
theorem ar_65 (E : KE) (h0 : Nat) : (lX9 E h0 (h0 + 1))[47]? = some (kcell SK E (a1 h0) M0 65) := rfl
theorem ar_66 (E : KE) (h0 : Nat) : (lX9 E h0 (h0 + 1))[48]? = some (kcell SK E (a1 h0) M0 66) := rfl
theorem ar_67 (E : KE) (h0 : Nat) : (lX9 E h0 (h0 + 1))[49]? = some (kcell SK E (a1 h0) M0 67) := rfl
theorem ar_68 (E : KE) (h0 : Nat) : (lX9 E h0 (h0 + 1))[50]? = some (kcell SK E (a1 h0) M0 68) := rfl
theorem ar_69 (E : KE) (h0 : Nat) : (lX9 E h0 (h0 + 1))[55]? = some (kcell SK E (a1 h0) M0 69) := rfl
theorem ar_70 (E : KE) (h0 : Nat) : (lX9 E h0 (h0 + 1))[56]? = some (kcell SK E (a1 h0) M0 70) := rfl
theorem ar_71 (E : KE) (h0 : Nat) : (lX9 E h0 (h0 + 1))[57]? = some (kcell SK E (a1 h0) M0 71) := rfl
theorem ar_72 (E : KE) (h0 : Nat) : (lX9 E h0 (h0 + 1))[58]? = some (kcell SK E (a1 h0) M0 72) := rfl
theorem ar_73 (E : KE) (h0 : Nat) : (lX9 E h0 (h0 + 1))[63]? = some (kcell SK E (a1 h0) M0 73) := rfl
theorem ar_74 (E : KE) (h0 : Nat) : (lX9 E h0 (h0 + 1))[64]? = some (kcell SK E (a1 h0) M0 74) := rfl
theorem ar_75 (E : KE) (h0 : Nat) : (lX9 E h0 (h0 + 1))[65]? = some (kcell SK E (a1 h0) M0 75) := rfl
theorem ar_76 (E : KE) (h0 : Nat) : (lX9 E h0 (h0 + 1))[66]? = some (kcell SK E (a1 h0) M0 76) := rfl
theorem ar_77 (E : KE) (h0 : Nat) : (lX9 E h0 (h0 + 1))[71]? = some (kcell SK E (a1 h0) M0 77) := rfl
theorem ar_78 (E : KE) (h0 : Nat) : (lX9 E h0 (h0 + 1))[72]? = some (kcell SK E (a1 h0) M0 78) := rfl
theorem ar_79 (E : KE) (h0 : Nat) : (lX9 E h0 (h0 + 1))[73]? = some (kcell SK E (a1 h0) M0 79) := rfl
theorem ar_80 (E : KE) (h0 : Nat) : (lX9 E h0 (h0 + 1))[74]? = some (kcell SK E (a1 h0) M0 80) := rfl
theorem ar_81 (E : KE) (h0 : Nat) : (lX9 E h0 (h0 + 1))[79]? = some (kcell SK E (a1 h0) M0 81) := rfl
theorem ar_82 (E : KE) (h0 : Nat) : (lX9 E h0 (h0 + 1))[80]? = some (kcell SK E (a1 h0) M0 82) := rfl
theorem ar_83 (E : KE) (h0 : Nat) : (lX9 E h0 (h0 + 1))[81]? = some (kcell SK E (a1 h0) M0 83) := rfl
theorem ar_84 (E : KE) (h0 : Nat) : (lX9 E h0 (h0 + 1))[82]? = some (kcell SK E (a1 h0) M0 84) := rfl
theorem ar_85 (E : KE) (h0 : Nat) : (lX9 E h0 (h0 + 1))[87]? = some (kcell SK E (a1 h0) M0 85) := rfl
theorem ar_86 (E : KE) (h0 : Nat) : (lX9 E h0 (h0 + 1))[88]? = some (kcell SK E (a1 h0) M0 86) := rfl
theorem ar_87 (E : KE) (h0 : Nat) : (lX9 E h0 (h0 + 1))[89]? = some (kcell SK E (a1 h0) M0 87) := rfl
theorem ar_88 (E : KE) (h0 : Nat) : (lX9 E h0 (h0 + 1))[90]? = some (kcell SK E (a1 h0) M0 88) := rfl
theorem ar_89 (E : KE) (h0 : Nat) : (lX9 E h0 (h0 + 1))[1]? = some (kcell SK E (a1 h0) M0 89) := rfl
theorem ar_90 (E : KE) (h0 : Nat) : (lX9 E h0 (h0 + 1))[9]? = some (kcell SK E (a1 h0) M0 90) := rfl
theorem ar_91 (E : KE) (h0 : Nat) : (lX9 E h0 (h0 + 1))[19]? = some (kcell SK E (a1 h0) M0 91) := rfl
theorem ar_92 (E : KE) (h0 : Nat) : (lX9 E h0 (h0 + 1))[27]? = some (kcell SK E (a1 h0) M0 92) := rfl
theorem ar_93 (E : KE) (h0 : Nat) : (lX9 E h0 (h0 + 1))[35]? = some (kcell SK E (a1 h0) M0 93) := rfl
theorem ar_94 (E : KE) (h0 : Nat) : (lX9 E h0 (h0 + 1))[43]? = some (kcell SK E (a1 h0) M0 94) := rfl
theorem ar_95 (E : KE) (h0 : Nat) : (lX9 E h0 (h0 + 1))[51]? = some (kcell SK E (a1 h0) M0 95) := rfl
theorem ar_96 (E : KE) (h0 : Nat) : (lX9 E h0 (h0 + 1))[59]? = some (kcell SK E (a1 h0) M0 96) := rfl
theorem ar_97 (E : KE) (h0 : Nat) : (lX9 E h0 (h0 + 1))[67]? = some (kcell SK E (a1 h0) M0 97) := rfl
theorem ar_98 (E : KE) (h0 : Nat) : (lX9 E h0 (h0 + 1))[75]? = some (kcell SK E (a1 h0) M0 98) := rfl
theorem ar_99 (E : KE) (h0 : Nat) : (lX9 E h0 (h0 + 1))[83]? = some (kcell SK E (a1 h0) M0 99) := rfl
theorem ar_100 (E : KE) (h0 : Nat) : (lX9 E h0 (h0 + 1))[101]? = some (kcell SK E (a1 h0) M0 100) := rfl
theorem ar_101 (E : KE) (h0 : Nat) : (lX9 E h0 (h0 + 1))[102]? = some (kcell SK E (a1 h0) M0 101) := rfl
theorem ar_102 (E : KE) (h0 : Nat) : (lX9 E h0 (h0 + 1))[112]? = some (kcell SK E (a1 h0) M0 102) := rfl
theorem ar_103 (E : KE) (h0 : Nat) : (lX9 E h0 (h0 + 1))[113]? = some (kcell SK E (a1 h0) M0 103) := rfl
theorem ar_104 (E : KE) (h0 : Nat) : (lX9 E h0 (h0 + 1))[114]? = some (kcell SK E (a1 h0) M0 104) := rfl
theorem ar_105 (E : KE) (h0 : Nat) : (lX9 E h0 (h0 + 1))[115]? = some (kcell SK E (a1 h0) M0 105) := rfl
theorem ar_106 (E : KE) (h0 : Nat) : (lX9 E h0 (h0 + 1))[91]? = some (kcell SK E (a1 h0) M0 106) := rfl
theorem ar_107 (E : KE) (h0 : Nat) : (lX9 E h0 (h0 + 1))[103]? = some (kcell SK E (a1 h0) M0 107) := rfl
theorem ar_108 (E : KE) (h0 : Nat) : (lX9 E h0 (h0 + 1))[104]? = some (kcell SK E (a1 h0) M0 108) := rfl
theorem ar_109 (E : KE) (h0 : Nat) : (lX9 E h0 (h0 + 1))[105]? = some (kcell SK E (a1 h0) M0 109) := rfl
theorem ar_110 (E : KE) (h0 : Nat) : (lX9 E h0 (h0 + 1))[106]? = some (kcell SK E (a1 h0) M0 110) := rfl
theorem ar_111 (E : KE) (h0 : Nat) : (lX9 E h0 (h0 + 1))[107]? = some (kcell SK E (a1 h0) M0 111) := rfl
theorem ar_112 (E : KE) (h0 : Nat) : (lX9 E h0 (h0 + 1))[108]? = some (kcell SK E (a1 h0) M0 112) := rfl
theorem ar_113 (E : KE) (h0 : Nat) : (lX9 E h0 (h0 + 1))[17]? = some (kcell SK E (a1 h0) M0 113) := rfl
theorem ar_115 (E : KE) (h0 : Nat) : (lX9 E h0 (h0 + 1))[116]? = some (kcell SK E (a1 h0) M0 115) := rfl
theorem ar_116 (E : KE) (h0 : Nat) : (lX9 E h0 (h0 + 1))[117]? = some (kcell SK E (a1 h0) M0 116) := rfl
theorem ar_117 (E : KE) (h0 : Nat) : (lX9 E h0 (h0 + 1))[118]? = some (kcell SK E (a1 h0) M0 117) := rfl
theorem ar_118 (E : KE) (h0 : Nat) : (lX9 E h0 (h0 + 1))[119]? = some (kcell SK E (a1 h0) M0 118) := rfl
theorem ar_119 (E : KE) (h0 : Nat) : (lX9 E h0 (h0 + 1))[120]? = some (kcell SK E (a1 h0) M0 119) := rfl
theorem ar_120 (E : KE) (h0 : Nat) : (lX9 E h0 (h0 + 1))[121]? = some (kcell SK E (a1 h0) M0 120) := rfl
theorem ar_121 (E : KE) (h0 : Nat) : (lX9 E h0 (h0 + 1))[0]? = some (kcell SK E (a1 h0) M0 121) := rfl
theorem ar_K {E : KE} {h0 : Nat} {H : Heap} (h : va_P E.1 vwCl (cw h0 (h0 + 1) (lX9 E h0 (h0 + 1))) H) : KW SK E (a1 h0) M0 H := by
  have key : ∀ k i e, (lX9 E h0 (h0 + 1))[k]? = some e → ca h0 (h0 + 1) k = a1 h0 i → kcell SK E (a1 h0) M0 i = e → va_at E.1 vwCl (a1 h0 i, kcell SK E (a1 h0) M0 i) H := fun k i e h1 h2 h3 => by
    have := h k _ (cw_get h1)
    rw [h2] at this
    rw [h3]
    exact this
  intro i q hq
  obtain ⟨hi, rfl⟩ := kws_lt hq
  have hi : i < 122 := hi
  match i, hi with
  | 0, _ => exact key 2 0 _ (ar_0 E h0) rfl rfl
  | 1, _ => exact key 3 1 _ (ar_1 E h0) rfl rfl
  | 2, _ => exact key 4 2 _ (ar_2 E h0) rfl rfl
  | 3, _ => exact key 10 3 _ (ar_3 E h0) rfl rfl
  | 4, _ => exact key 11 4 _ (ar_4 E h0) rfl rfl
  | 5, _ => exact key 12 5 _ (ar_5 E h0) rfl rfl
  | 6, _ => exact key 20 6 _ (ar_6 E h0) rfl rfl
  | 7, _ => exact key 21 7 _ (ar_7 E h0) rfl rfl
  | 8, _ => exact key 22 8 _ (ar_8 E h0) rfl rfl
  | 9, _ => exact key 28 9 _ (ar_9 E h0) rfl rfl
  | 10, _ => exact key 29 10 _ (ar_10 E h0) rfl rfl
  | 11, _ => exact key 30 11 _ (ar_11 E h0) rfl rfl
  | 12, _ => exact key 36 12 _ (ar_12 E h0) rfl rfl
  | 13, _ => exact key 37 13 _ (ar_13 E h0) rfl rfl
  | 14, _ => exact key 38 14 _ (ar_14 E h0) rfl rfl
  | 15, _ => exact key 44 15 _ (ar_15 E h0) rfl rfl
  | 16, _ => exact key 45 16 _ (ar_16 E h0) rfl rfl
  | 17, _ => exact key 46 17 _ (ar_17 E h0) rfl rfl
  | 18, _ => exact key 52 18 _ (ar_18 E h0) rfl rfl
  | 19, _ => exact key 53 19 _ (ar_19 E h0) rfl rfl
  | 20, _ => exact key 54 20 _ (ar_20 E h0) rfl rfl
  | 21, _ => exact key 60 21 _ (ar_21 E h0) rfl rfl
  | 22, _ => exact key 61 22 _ (ar_22 E h0) rfl rfl
  | 23, _ => exact key 62 23 _ (ar_23 E h0) rfl rfl
  | 24, _ => exact key 68 24 _ (ar_24 E h0) rfl rfl
  | 25, _ => exact key 69 25 _ (ar_25 E h0) rfl rfl
  | 26, _ => exact key 70 26 _ (ar_26 E h0) rfl rfl
  | 27, _ => exact key 76 27 _ (ar_27 E h0) rfl rfl
  | 28, _ => exact key 77 28 _ (ar_28 E h0) rfl rfl
  | 29, _ => exact key 78 29 _ (ar_29 E h0) rfl rfl
  | 30, _ => exact key 84 30 _ (ar_30 E h0) rfl rfl
  | 31, _ => exact key 85 31 _ (ar_31 E h0) rfl rfl
  | 32, _ => exact key 86 32 _ (ar_32 E h0) rfl rfl
  | 33, _ => exact key 92 33 _ (ar_33 E h0) rfl rfl
  | 34, _ => exact key 93 34 _ (ar_34 E h0) rfl rfl
  | 35, _ => exact key 94 35 _ (ar_35 E h0) rfl rfl
  | 36, _ => exact key 95 36 _ (ar_36 E h0) rfl rfl
  | 37, _ => exact key 96 37 _ (ar_37 E h0) rfl rfl
  | 38, _ => exact key 97 38 _ (ar_38 E h0) rfl rfl
  | 39, _ => exact key 98 39 _ (ar_39 E h0) rfl rfl
  | 40, _ => exact key 99 40 _ (ar_40 E h0) rfl rfl
  | 41, _ => exact key 100 41 _ (ar_41 E h0) rfl rfl
  | 42, _ => exact key 109 42 _ (ar_42 E h0) rfl rfl
  | 43, _ => exact key 110 43 _ (ar_43 E h0) rfl rfl
  | 44, _ => exact key 111 44 _ (ar_44 E h0) rfl rfl
  | 45, _ => exact key 5 45 _ (ar_45 E h0) rfl rfl
  | 46, _ => exact key 6 46 _ (ar_46 E h0) rfl rfl
  | 47, _ => exact key 7 47 _ (ar_47 E h0) rfl rfl
  | 48, _ => exact key 8 48 _ (ar_48 E h0) rfl rfl
  | 49, _ => exact key 13 49 _ (ar_49 E h0) rfl rfl
  | 50, _ => exact key 14 50 _ (ar_50 E h0) rfl rfl
  | 51, _ => exact key 15 51 _ (ar_51 E h0) rfl rfl
  | 52, _ => exact key 16 52 _ (ar_52 E h0) rfl rfl
  | 53, _ => exact key 23 53 _ (ar_53 E h0) rfl rfl
  | 54, _ => exact key 24 54 _ (ar_54 E h0) rfl rfl
  | 55, _ => exact key 25 55 _ (ar_55 E h0) rfl rfl
  | 56, _ => exact key 26 56 _ (ar_56 E h0) rfl rfl
  | 57, _ => exact key 31 57 _ (ar_57 E h0) rfl rfl
  | 58, _ => exact key 32 58 _ (ar_58 E h0) rfl rfl
  | 59, _ => exact key 33 59 _ (ar_59 E h0) rfl rfl
  | 60, _ => exact key 34 60 _ (ar_60 E h0) rfl rfl
  | 61, _ => exact key 39 61 _ (ar_61 E h0) rfl rfl
  | 62, _ => exact key 40 62 _ (ar_62 E h0) rfl rfl
  | 63, _ => exact key 41 63 _ (ar_63 E h0) rfl rfl
  | 64, _ => exact key 42 64 _ (ar_64 E h0) rfl rfl
  | 65, _ => exact key 47 65 _ (ar_65 E h0) rfl rfl
  | 66, _ => exact key 48 66 _ (ar_66 E h0) rfl rfl
  | 67, _ => exact key 49 67 _ (ar_67 E h0) rfl rfl
  | 68, _ => exact key 50 68 _ (ar_68 E h0) rfl rfl
  | 69, _ => exact key 55 69 _ (ar_69 E h0) rfl rfl
  | 70, _ => exact key 56 70 _ (ar_70 E h0) rfl rfl
  | 71, _ => exact key 57 71 _ (ar_71 E h0) rfl rfl
  | 72, _ => exact key 58 72 _ (ar_72 E h0) rfl rfl
  | 73, _ => exact key 63 73 _ (ar_73 E h0) rfl rfl
  | 74, _ => exact key 64 74 _ (ar_74 E h0) rfl rfl
  | 75, _ => exact key 65 75 _ (ar_75 E h0) rfl rfl
  | 76, _ => exact key 66 76 _ (ar_76 E h0) rfl rfl
  | 77, _ => exact key 71 77 _ (ar_77 E h0) rfl rfl
  | 78, _ => exact key 72 78 _ (ar_78 E h0) rfl rfl
  | 79, _ => exact key 73 79 _ (ar_79 E h0) rfl rfl
  | 80, _ => exact key 74 80 _ (ar_80 E h0) rfl rfl
  | 81, _ => exact key 79 81 _ (ar_81 E h0) rfl rfl
  | 82, _ => exact key 80 82 _ (ar_82 E h0) rfl rfl
  | 83, _ => exact key 81 83 _ (ar_83 E h0) rfl rfl
  | 84, _ => exact key 82 84 _ (ar_84 E h0) rfl rfl
  | 85, _ => exact key 87 85 _ (ar_85 E h0) rfl rfl
  | 86, _ => exact key 88 86 _ (ar_86 E h0) rfl rfl
  | 87, _ => exact key 89 87 _ (ar_87 E h0) rfl rfl
  | 88, _ => exact key 90 88 _ (ar_88 E h0) rfl rfl
  | 89, _ => exact key 1 89 _ (ar_89 E h0) rfl rfl
  | 90, _ => exact key 9 90 _ (ar_90 E h0) rfl rfl
  | 91, _ => exact key 19 91 _ (ar_91 E h0) rfl rfl
  | 92, _ => exact key 27 92 _ (ar_92 E h0) rfl rfl
  | 93, _ => exact key 35 93 _ (ar_93 E h0) rfl rfl
  | 94, _ => exact key 43 94 _ (ar_94 E h0) rfl rfl
  | 95, _ => exact key 51 95 _ (ar_95 E h0) rfl rfl
  | 96, _ => exact key 59 96 _ (ar_96 E h0) rfl rfl
  | 97, _ => exact key 67 97 _ (ar_97 E h0) rfl rfl
  | 98, _ => exact key 75 98 _ (ar_98 E h0) rfl rfl
  | 99, _ => exact key 83 99 _ (ar_99 E h0) rfl rfl
  | 100, _ => exact key 101 100 _ (ar_100 E h0) rfl rfl
  | 101, _ => exact key 102 101 _ (ar_101 E h0) rfl rfl
  | 102, _ => exact key 112 102 _ (ar_102 E h0) rfl rfl
  | 103, _ => exact key 113 103 _ (ar_103 E h0) rfl rfl
  | 104, _ => exact key 114 104 _ (ar_104 E h0) rfl rfl
  | 105, _ => exact key 115 105 _ (ar_105 E h0) rfl rfl
  | 106, _ => exact key 91 106 _ (ar_106 E h0) rfl rfl
  | 107, _ => exact key 103 107 _ (ar_107 E h0) rfl rfl
  | 108, _ => exact key 104 108 _ (ar_108 E h0) rfl rfl
  | 109, _ => exact key 105 109 _ (ar_109 E h0) rfl rfl
  | 110, _ => exact key 106 110 _ (ar_110 E h0) rfl rfl
  | 111, _ => exact key 107 111 _ (ar_111 E h0) rfl rfl
  | 112, _ => exact key 108 112 _ (ar_112 E h0) rfl rfl
  | 113, _ => exact key 17 113 _ (ar_113 E h0) rfl rfl
  | 114, _ => exact ar_114 (h 18 _ (cw_get rfl))
  | 115, _ => exact key 116 115 _ (ar_115 E h0) rfl rfl
  | 116, _ => exact key 117 116 _ (ar_116 E h0) rfl rfl
  | 117, _ => exact key 118 117 _ (ar_117 E h0) rfl rfl
  | 118, _ => exact key 119 118 _ (ar_118 E h0) rfl rfl
  | 119, _ => exact key 120 119 _ (ar_119 E h0) rfl rfl
  | 120, _ => exact key 121 120 _ (ar_120 E h0) rfl rfl
  | 121, _ => exact key 0 121 _ (ar_121 E h0) rfl rfl
theorem br_0 (E : KE) (h0 : Nat) : (lX10 E (h0 + 122) (h0 + 123))[0]? = some (kcell SM E (a2 h0) N0 0) := rfl
theorem br_1 (E : KE) (h0 : Nat) : (lX10 E (h0 + 122) (h0 + 123))[1]? = some (kcell SM E (a2 h0) N0 1) := rfl
theorem br_2 (E : KE) (h0 : Nat) : (lX10 E (h0 + 122) (h0 + 123))[2]? = some (kcell SM E (a2 h0) N0 2) := rfl
theorem br_3 (E : KE) (h0 : Nat) : (lX10 E (h0 + 122) (h0 + 123))[3]? = some (kcell SM E (a2 h0) N0 3) := rfl
theorem br_4 (E : KE) (h0 : Nat) : (lX10 E (h0 + 122) (h0 + 123))[4]? = some (kcell SM E (a2 h0) N0 4) := rfl
theorem br_5 (E : KE) (h0 : Nat) : (lX10 E (h0 + 122) (h0 + 123))[5]? = some (kcell SM E (a2 h0) N0 5) := rfl
theorem br_6 (E : KE) (h0 : Nat) : (lX10 E (h0 + 122) (h0 + 123))[6]? = some (kcell SM E (a2 h0) N0 6) := rfl
theorem br_7 (E : KE) (h0 : Nat) : (lX10 E (h0 + 122) (h0 + 123))[7]? = some (kcell SM E (a2 h0) N0 7) := rfl
theorem br_8 (E : KE) (h0 : Nat) : (lX10 E (h0 + 122) (h0 + 123))[8]? = some (kcell SM E (a2 h0) N0 8) := rfl
theorem br_9 (E : KE) (h0 : Nat) : (lX10 E (h0 + 122) (h0 + 123))[9]? = some (kcell SM E (a2 h0) N0 9) := rfl
theorem br_10 (E : KE) (h0 : Nat) : (lX10 E (h0 + 122) (h0 + 123))[10]? = some (kcell SM E (a2 h0) N0 10) := rfl
theorem br_11 (E : KE) (h0 : Nat) : (lX10 E (h0 + 122) (h0 + 123))[11]? = some (kcell SM E (a2 h0) N0 11) := rfl
theorem br_12 (E : KE) (h0 : Nat) : (lX10 E (h0 + 122) (h0 + 123))[12]? = some (kcell SM E (a2 h0) N0 12) := rfl
theorem br_13 (E : KE) (h0 : Nat) : (lX10 E (h0 + 122) (h0 + 123))[13]? = some (kcell SM E (a2 h0) N0 13) := rfl
theorem br_14 (E : KE) (h0 : Nat) : (lX10 E (h0 + 122) (h0 + 123))[14]? = some (kcell SM E (a2 h0) N0 14) := rfl
theorem br_15 (E : KE) (h0 : Nat) : (lX10 E (h0 + 122) (h0 + 123))[15]? = some (kcell SM E (a2 h0) N0 15) := rfl
theorem br_16 (E : KE) (h0 : Nat) : (lX10 E (h0 + 122) (h0 + 123))[16]? = some (kcell SM E (a2 h0) N0 16) := rfl
theorem br_17 (E : KE) (h0 : Nat) : (lX10 E (h0 + 122) (h0 + 123))[17]? = some (kcell SM E (a2 h0) N0 17) := rfl
theorem br_18 (E : KE) (h0 : Nat) : (lX10 E (h0 + 122) (h0 + 123))[18]? = some (kcell SM E (a2 h0) N0 18) := rfl
theorem br_19 (E : KE) (h0 : Nat) : (lX10 E (h0 + 122) (h0 + 123))[19]? = some (kcell SM E (a2 h0) N0 19) := rfl
theorem br_20 (E : KE) (h0 : Nat) : (lX10 E (h0 + 122) (h0 + 123))[20]? = some (kcell SM E (a2 h0) N0 20) := rfl
theorem ar_M {E : KE} {h0 : Nat} {H : Heap} (h : va_P E.1 vwCl (cw (h0 + 122) (h0 + 123) (lX10 E (h0 + 122) (h0 + 123))) H) : KW SM E (a2 h0) N0 H := by
  intro i q hq
  obtain ⟨hi, rfl⟩ := kws_lt hq
  have hi : i < 21 := hi
  match i, hi with
  | 0, _ => exact h 0 _ (cw_get (br_0 E h0))
  | 1, _ => exact h 1 _ (cw_get (br_1 E h0))
  | 2, _ => exact h 2 _ (cw_get (br_2 E h0))
  | 3, _ => exact h 3 _ (cw_get (br_3 E h0))
  | 4, _ => exact h 4 _ (cw_get (br_4 E h0))
  | 5, _ => exact h 5 _ (cw_get (br_5 E h0))
  | 6, _ => exact h 6 _ (cw_get (br_6 E h0))
  | 7, _ => exact h 7 _ (cw_get (br_7 E h0))
  | 8, _ => exact h 8 _ (cw_get (br_8 E h0))
  | 9, _ => exact h 9 _ (cw_get (br_9 E h0))
  | 10, _ => exact h 10 _ (cw_get (br_10 E h0))
  | 11, _ => exact h 11 _ (cw_get (br_11 E h0))
  | 12, _ => exact h 12 _ (cw_get (br_12 E h0))
  | 13, _ => exact h 13 _ (cw_get (br_13 E h0))
  | 14, _ => exact h 14 _ (cw_get (br_14 E h0))
  | 15, _ => exact h 15 _ (cw_get (br_15 E h0))
  | 16, _ => exact h 16 _ (cw_get (br_16 E h0))
  | 17, _ => exact h 17 _ (cw_get (br_17 E h0))
  | 18, _ => exact h 18 _ (cw_get (br_18 E h0))
  | 19, _ => exact h 19 _ (cw_get (br_19 E h0))
  | 20, _ => exact h 20 _ (cw_get (br_20 E h0))
/-! the law's frame -/
def LA (s : State) : Nat → Prop := fun q => s.heap.size ≤ q
def XPL (s : State) : Prop := (vx_Zq Bundle.tN "UNASSIGNED_STACK" Bundle.steD (LA s) s s.heap ∧ vx_Zq Bundle.tN "SUPPRESSED_SENTINEL" Bundle.listD (LA s) s s.heap) ∧ (∀ q ∈ XST, ∃ a, vk_R "KinFacts" q.1 q.2 a s) ∧ ∀ w ∈ XNG, va_Nw w s
def LB (p : Program) (s : State) (m : MethodId) (c : Code) (args : Array Value) (meth : Method) (E : KE) (h0 : Nat) : Prop :=
  (CallFix p m c cL_law 9 s args TT "KinFactsLaw" ∧ meth.locks = false) ∧ (va_K E.1 vwCl (tyE E) s ∧ NWs s) ∧ XPL s ∧ NC s ∧ s.heap.size = h0
abbrev LST : Type := KS × KS × Int64 × UInt64
def LH (E : KE) (h0 : Nat) (x : LST) (s : State) (H : Heap) (locs : List Loc) : Prop := (KW SK E (a1 h0) x.1 H ∧ KW SM E (a2 h0) x.2.1 H) ∧ (WOL E (h0 + 143) x.2.2.1 H ∧ WOD E (h0 + 144) x.2.2.2 H) ∧ va_S (LA s) s.heap H locs
theorem XPL.to {s U : State} {H : Heap} {locs : List Loc} {S : SH} {ad : Nat → Nat} (h : XPL s) (hS : va_S (LA s) s.heap H locs) (hA : ∀ q, KA S ad H.size q → LA s q) (hU : U.heap = H) (hW : s.WarmedH U.vm) : XP S ad H.size U := by
  refine ⟨⟨?_, ?_⟩, fun q hq => ?_, fun w hw => XNG_warm hw hW (h.2.2 w hw)⟩
  · rw [hU]; exact vx_Zq.moved hW.alike ((h.1.1.kept hS.2.1).narrow hA)
  · rw [hU]; exact vx_Zq.moved hW.alike ((h.1.2.kept hS.2.1).narrow hA)
  · obtain ⟨a, ha⟩ := h.2.1 q hq
    exact ⟨a, vk_R.warm hW ha⟩
theorem NC.moved {s U : State} (h : NC s) (hW : s.WarmedH U.vm) : NC U := fun x hx y hy hxy => va_Nc.moved hW.alike (h x hx y hy hxy)
theorem KA1_LA {s : State} {h0 n : Nat} (hs : s.heap.size = h0) (hn : h0 ≤ n) {q : Nat} (h : KA SK (a1 h0) n q) : LA s q := by
  rcases h with ⟨i, hi, rfl⟩ | h
  · show s.heap.size ≤ _; rw [hs]; exact (a1_r h0 hi).1
  · show s.heap.size ≤ _; rw [hs]; exact Nat.le_trans hn h
theorem KA2_LA {s : State} {h0 n : Nat} (hs : s.heap.size = h0) (hn : h0 ≤ n) {q : Nat} (h : KA SM (a2 h0) n q) : LA s q := by
  rcases h with ⟨i, hi, rfl⟩ | h
  · show s.heap.size ≤ _; rw [hs]; have := (a2_r h0 hi).1; omega
  · show s.heap.size ≤ _; rw [hs]; exact Nat.le_trans hn h
theorem WPreL.blind {E : KE} {ad : Nat → Nat} {M : KS} {sz qo : Nat} {v : Int64} {av : List Value} : FrameBlind (va_Pc av (WPreL E ad M sz qo v)) := fun a U g mk q => by
  obtain ⟨q0, q1, q2, q3, q4⟩ := q
  obtain ⟨-, z1⟩ := XPre.blind (av := av) a U g mk ⟨q0, q1⟩
  exact ⟨q0, z1, fun x hx y hy hxy => va_Nc.moved (u := U) (U := U.calling g mk a) (Vm.Alike.refl U.vm) (q2 x hx y hy hxy), q3, q4⟩
theorem WPreD.blind {E : KE} {ad : Nat → Nat} {M : KS} {sz qo : Nat} {v : UInt64} {av : List Value} : FrameBlind (va_Pc av (WPreD E ad M sz qo v)) := fun a U g mk q => by
  obtain ⟨q0, q1, q2, q3, q4⟩ := q
  obtain ⟨-, z1⟩ := XPre.blind (av := av) a U g mk ⟨q0, q1⟩
  exact ⟨q0, z1, fun x hx y hy hxy => va_Nc.moved (u := U) (U := U.calling g mk a) (Vm.Alike.refl U.vm) (q2 x hx y hy hxy), q3, q4⟩
/-- words of a catching method -/
def LCW (y : MethodName) (cc : ByteArray) (mL : Nat) (hh : List (Nat × Nat × Nat × Nat)) (n : Nat) : Prop := (y.cls = "KinFactsLaw" ∧ Cond.static y ∈ TT ∧ Cond.codeWith y cc mL (some .int) hh ∈ TT) ∧ (parseMethodDescriptor y.desc).map (fun d => d.parameters.length) = some n
section LROWS
variable {p : Program} {l : Launch} {e : Env} {R : Room} {s : State} {m : MethodId} {args : Array Value} {below : List Frame} {meth : Method} {c : Code} {H : Heap} {locs : List Loc} {cells slots : Nat} {Q : State → Prop}
variable {E : KE} {h0 : Nat} {x : LST} {pc : Nat} {ls : Array Slot} {rest st0 : List Value}
theorem LH.ge (C : LB p s m c args meth E h0) (hH : LH E h0 x s H locs) : h0 ≤ H.size := by rw [← C.2.2.2.2]; exact hH.2.2.1
theorem lr_pre1 (C : LB p s m c args meth E h0) (hH : LH E h0 x s H locs) {U : State} (hU : U.heap = H) (hW : s.WarmedH U.vm) : KPre SK E (a1 h0) x.1 H.size U := ⟨by rw [hU], by rw [hU]; exact hH.1.1, va_K.moved hW.alike C.2.1.1, NWs.warm hW C.2.1.2, a1_I h0⟩
theorem lr_pre2 (C : LB p s m c args meth E h0) (hH : LH E h0 x s H locs) {U : State} (hU : U.heap = H) (hW : s.WarmedH U.vm) : KPre SM E (a2 h0) x.2.1 H.size U := ⟨by rw [hU], by rw [hU]; exact hH.1.2, va_K.moved hW.alike C.2.1.1, NWs.warm hW C.2.1.2, a2_I h0⟩
/-- behind a call on the object -/
theorem LH.k1 (C : LB p s m c args meth E h0) (hH : LH E h0 x s H locs) {M : KS} {H1 : Heap} {locs1 : List Loc} (hK : KW SK E (a1 h0) M H1) (hk : ∀ q : Nat, q < H.size → ¬ KA SK (a1 h0) H.size q → H1[q]? = H[q]?) (hS : va_S (LA s) s.heap H1 locs1) : LH E h0 (M, x.2.1, x.2.2.1, x.2.2.2) s H1 locs1 := by
  have key : ∀ q, h0 + 122 ≤ q → q < H.size → H1[q]? = H[q]? := fun q h1 h2 => hk q h2 (by
    rintro (⟨i, hi, h3⟩ | h3)
    · have := (a1_r h0 hi).2; omega
    · omega)
  exact ⟨⟨hK, KW_keep hH.1.2 (fun i hi => key _ (a2_r h0 hi).1 (KW_lt hH.1.2 hi))⟩, ⟨hH.2.1.1.keep (key _ (by omega) hH.2.1.1.lt), hH.2.1.2.keep (key _ (by omega) hH.2.1.2.lt)⟩, hS⟩
theorem LH.k2 (C : LB p s m c args meth E h0) (hH : LH E h0 x s H locs) {M : KS} {H1 : Heap} {locs1 : List Loc} (hK : KW SM E (a2 h0) M H1) (hk : ∀ q : Nat, q < H.size → ¬ KA SM (a2 h0) H.size q → H1[q]? = H[q]?) (hS : va_S (LA s) s.heap H1 locs1) : LH E h0 (x.1, M, x.2.2.1, x.2.2.2) s H1 locs1 := by
  have key : ∀ q, q < h0 + 122 ∨ h0 + 143 ≤ q → q < H.size → H1[q]? = H[q]? := fun q h1 h2 => hk q h2 (by
    rintro (⟨i, hi, h3⟩ | h3)
    · have := a2_r h0 hi; omega
    · omega)
  exact ⟨⟨KW_keep hH.1.1 (fun i hi => key _ (Or.inl (a1_r h0 hi).2) (KW_lt hH.1.1 hi)), hK⟩, ⟨hH.2.1.1.keep (key _ (by omega) hH.2.1.1.lt), hH.2.1.2.keep (key _ (by omega) hH.2.1.2.lt)⟩, hS⟩
theorem LH.kL (C : LB p s m c args meth E h0) (hH : LH E h0 x s H locs) {M : KS} {v : Int64} {H1 : Heap} {locs1 : List Loc} (hK : KW SK E (a1 h0) M H1) (hO : WOL E (h0 + 143) v H1) (hk : ∀ q : Nat, q < H.size → ¬ WA (a1 h0) H.size (h0 + 143) q → H1[q]? = H[q]?) (hS : va_S (LA s) s.heap H1 locs1) : LH E h0 (M, x.2.1, v, x.2.2.2) s H1 locs1 := by
  have key : ∀ q, h0 + 122 ≤ q → q ≠ h0 + 143 → q < H.size → H1[q]? = H[q]? := fun q h1 h4 h2 => hk q h2 (by
    rintro ((⟨i, hi, h3⟩ | h3) | h3)
    · have := (a1_r h0 hi).2; omega
    · omega
    · exact h4 h3)
  exact ⟨⟨hK, KW_keep hH.1.2 (fun i hi => key _ (a2_r h0 hi).1 (by have := (a2_r h0 hi).2; omega) (KW_lt hH.1.2 hi))⟩, ⟨hO, hH.2.1.2.keep (key _ (by omega) (by omega) hH.2.1.2.lt)⟩, hS⟩
theorem LH.kD (C : LB p s m c args meth E h0) (hH : LH E h0 x s H locs) {M : KS} {v : UInt64} {H1 : Heap} {locs1 : List Loc} (hK : KW SK E (a1 h0) M H1) (hO : WOD E (h0 + 144) v H1) (hk : ∀ q : Nat, q < H.size → ¬ WA (a1 h0) H.size (h0 + 144) q → H1[q]? = H[q]?) (hS : va_S (LA s) s.heap H1 locs1) : LH E h0 (M, x.2.1, x.2.2.1, v) s H1 locs1 := by
  have key : ∀ q, h0 + 122 ≤ q → q ≠ h0 + 144 → q < H.size → H1[q]? = H[q]? := fun q h1 h4 h2 => hk q h2 (by
    rintro ((⟨i, hi, h3⟩ | h3) | h3)
    · have := (a1_r h0 hi).2; omega
    · omega
    · exact h4 h3)
  exact ⟨⟨hK, KW_keep hH.1.2 (fun i hi => key _ (a2_r h0 hi).1 (by have := (a2_r h0 hi).2; omega) (KW_lt hH.1.2 hi))⟩, ⟨hH.2.1.1.keep (key _ (by omega) (by omega) hH.2.1.1.lt), hO⟩, hS⟩
theorem WA1_LA {n qo : Nat} (hs : s.heap.size = h0) (hn : h0 ≤ n) (hq : h0 ≤ qo) {q : Nat} (h : WA (a1 h0) n qo q) : LA s q := by
  rcases h with h | rfl
  · exact KA1_LA hs hn h
  · show s.heap.size ≤ _; rw [hs]; exact hq
theorem lr_wL {α : Type} {f : α → State → Prop} (C : LB p s m c args meth E h0) (hH : LH E h0 x s H locs) {y : MethodName} {cc9 : ByteArray} {mL9 n idx : Nat} {hh : List (Nat × Nat × Nat × Nat)} {rm9 : Room} {As : List Value} {o9 : Option (Int32 × KS × Int64)} {g : Int32 × KS × Int64 → Option α} (hct : CWL l y cc9 mL9 hh rm9 E (a1 h0) As x.1 (h0 + 143) x.2.2.1 o9) (lk : Cond.methodLink "KinFactsLaw" idx y ∈ TT) (lc : LCW y cc9 mL9 hh n) (hrm : rm9.cells = 1 ∧ rm9.slots = 6) (hst : st0 = As.reverse ++ rest) (hdg : decode cL_law pc = .ok (.invokestatic idx, 3)) (hn : As.length = n) (hls : ls.size = 9) (hcat : (rest.map fun v => v.category).sum ≤ 8) (hR : rm9.frames + 1 ≤ R.frames ∧ 8 + (mL9 + 11) + rm9.locals ≤ R.locals) (hcap : cells + 1 ≤ R.cells ∧ slots + 6 ≤ R.slots)
    (kk : ∀ (a : Int32 × KS × Int64) (H : Heap) (locs : List Loc), LH E h0 (a.2.1, x.2.1, a.2.2, x.2.2.2) s H locs → W p l e R s m args below meth c H locs (cells + 1) (slots + 6) (Qn f (g a)) (F0 m (pc + 3) ls (.int a.1 :: rest))) : W p l e R s m args below meth c H locs cells slots (Qn f (o9.bind g)) (F0 m pc ls st0) := by
  cases ho : o9 with
  | none => exact W_none
  | some a =>
    have hge := LH.ge C hH
    have hin : GoodIn TT (va_wsS "KinFactsLaw" idx y (Cond.codeWith y cc9 mL9 (some .int) hh :: TT)) := by
      intro w hw
      have h1 : w ∈ TT := by
        unfold va_wsS at hw
        simp only [List.mem_append, List.mem_cons, List.not_mem_nil, or_false] at hw
        rcases hw with h | h
        · rcases h with rfl | rfl | rfl
          · exact lk
          · exact lc.1.2.1
          · rw [lc.1.1]; exact w_1_0
        · rcases h with rfl | h
          · exact lc.1.2.2
          · exact h
      exact ⟨h1, TT_good w h1⟩
    refine va_calli (a := As.toArray) (post := fun r u => r = a.1 ∧ u = a.2) (vx_runSW (Ts := TT) C.1.1 (hct H.size a ho) (vx_cwSW n C.1.1.2.2.2.2 hin rfl hrm.1 hrm.2 ⟨by rw [lc.1.1]; decide, by rw [lc.1.1]; decide, lc.2⟩ hR) ⟨WPreL.blind, fun U hU hW => ⟨rfl, ⟨lr_pre1 C hH hU hW, C.2.2.1.to hH.2.2 (fun q h => KA1_LA C.2.2.2.2 hge h) hU hW⟩, NC.moved C.2.2.2.1 hW, fun i hi => by have := (a1_r h0 hi).2; omega, by rw [hU]; exact hH.2.1.1⟩⟩ rfl hn hls hst (lv_room hcat) hdg hcap) hH.2.2 (fun q _ h => WA1_LA C.2.2.2.2 hge (Nat.le_add_right _ _) h) (fun q h => WA1_LA C.2.2.2.2 hge (Nat.le_add_right _ _) h) (fun r u t H1 locs1 ht _ hp hB _ hk hS => ?_)
    obtain ⟨rfl, rfl⟩ := hp
    exact kk a H1 locs1 (LH.kL C hH (by rw [← ht]; exact hB.1) (by rw [← ht]; exact hB.2) hk hS)
theorem lr_wD {α : Type} {f : α → State → Prop} (C : LB p s m c args meth E h0) (hH : LH E h0 x s H locs) {y : MethodName} {cc9 : ByteArray} {mL9 n idx : Nat} {hh : List (Nat × Nat × Nat × Nat)} {rm9 : Room} {As : List Value} {o9 : Option (Int32 × KS × UInt64)} {g : Int32 × KS × UInt64 → Option α} (hct : CWD l y cc9 mL9 hh rm9 E (a1 h0) As x.1 (h0 + 144) x.2.2.2 o9) (lk : Cond.methodLink "KinFactsLaw" idx y ∈ TT) (lc : LCW y cc9 mL9 hh n) (hrm : rm9.cells = 1 ∧ rm9.slots = 6) (hst : st0 = As.reverse ++ rest) (hdg : decode cL_law pc = .ok (.invokestatic idx, 3)) (hn : As.length = n) (hls : ls.size = 9) (hcat : (rest.map fun v => v.category).sum ≤ 8) (hR : rm9.frames + 1 ≤ R.frames ∧ 8 + (mL9 + 11) + rm9.locals ≤ R.locals) (hcap : cells + 1 ≤ R.cells ∧ slots + 6 ≤ R.slots)
    (kk : ∀ (a : Int32 × KS × UInt64) (H : Heap) (locs : List Loc), LH E h0 (a.2.1, x.2.1, x.2.2.1, a.2.2) s H locs → W p l e R s m args below meth c H locs (cells + 1) (slots + 6) (Qn f (g a)) (F0 m (pc + 3) ls (.int a.1 :: rest))) : W p l e R s m args below meth c H locs cells slots (Qn f (o9.bind g)) (F0 m pc ls st0) := by
  cases ho : o9 with
  | none => exact W_none
  | some a =>
    have hge := LH.ge C hH
    have hin : GoodIn TT (va_wsS "KinFactsLaw" idx y (Cond.codeWith y cc9 mL9 (some .int) hh :: TT)) := by
      intro w hw
      have h1 : w ∈ TT := by
        unfold va_wsS at hw
        simp only [List.mem_append, List.mem_cons, List.not_mem_nil, or_false] at hw
        rcases hw with h | h
        · rcases h with rfl | rfl | rfl
          · exact lk
          · exact lc.1.2.1
          · rw [lc.1.1]; exact w_1_0
        · rcases h with rfl | h
          · exact lc.1.2.2
          · exact h
      exact ⟨h1, TT_good w h1⟩
    refine va_calli (a := As.toArray) (post := fun r u => r = a.1 ∧ u = a.2) (vx_runSW (Ts := TT) C.1.1 (hct H.size a ho) (vx_cwSW n C.1.1.2.2.2.2 hin rfl hrm.1 hrm.2 ⟨by rw [lc.1.1]; decide, by rw [lc.1.1]; decide, lc.2⟩ hR) ⟨WPreD.blind, fun U hU hW => ⟨rfl, ⟨lr_pre1 C hH hU hW, C.2.2.1.to hH.2.2 (fun q h => KA1_LA C.2.2.2.2 hge h) hU hW⟩, NC.moved C.2.2.2.1 hW, fun i hi => by have := (a1_r h0 hi).2; omega, by rw [hU]; exact hH.2.1.2⟩⟩ rfl hn hls hst (lv_room hcat) hdg hcap) hH.2.2 (fun q _ h => WA1_LA C.2.2.2.2 hge (Nat.le_add_right _ _) h) (fun q h => WA1_LA C.2.2.2.2 hge (Nat.le_add_right _ _) h) (fun r u t H1 locs1 ht _ hp hB _ hk hS => ?_)
    obtain ⟨rfl, rfl⟩ := hp
    exact kk a H1 locs1 (LH.kD C hH (by rw [← ht]; exact hB.1) (by rw [← ht]; exact hB.2) hk hS)
theorem lr_run1 (C : LB p s m c args meth E h0) (hH : LH E h0 x s H locs) {β : Type} {y : MethodName} {cc9 : ByteArray} {mL9 n idx : Nat} {ret9 : Option FieldType} {rm9 : Room} {Q9 : Nat → β → Array Value → State → Outcome → State → Prop} {o9 : Option β} {As : List Value} (lk : Cond.methodLink "KinFactsLaw" idx y ∈ TT) (lc : LC y cc9 mL9 ret9 n) (li : LI y 11) (hct : CT l y cc9 mL9 ret9 rm9 SK E (a1 h0) (.ref ((a1 h0) 121) :: As) x.1 Q9 o9) (hst : st0 = As.reverse ++ .ref ((a1 h0) 121) :: rest) (hdg : decode cL_law pc = .ok (.invokevirtual idx, 3)) (hn : As.length = n) (hls : ls.size = 9) (hcat : (rest.map fun v => v.category).sum ≤ 8) (hR : rm9.frames + 1 ≤ R.frames ∧ 8 + (mL9 + 11) + rm9.locals ≤ R.locals) (hcap : cells + rm9.cells ≤ R.cells ∧ slots + rm9.slots ≤ R.slots) :
    ∀ a, o9 = some a → va_Run p l e R s m args below meth c H locs cells slots rm9.cells rm9.slots (F0 m pc ls st0) rest (Q9 H.size a (.ref ((a1 h0) 121) :: As).toArray) (KA SK (a1 h0) H.size) := by
  intro a ha
  obtain ⟨T, N, hci⟩ := li.2
  refine va_runV (Ts := TT) C.1.1 (hct H.size a ha) (cwV n C.1.1.2.2.2.2 ?_ rfl rfl rfl ⟨rfl, lc.2.1, lc.2.2.1, lc.2.2.2⟩ hR) ⟨KPre.blind, va_recv C.2.1.1 hH.1.1 (ci := 11) (q0 := 121) hci (by rw [kws_at oK.1, kcell_obj oK]), fun U hU hW => ⟨rfl, lr_pre1 C hH hU hW⟩⟩ rfl hn hls hst (lv_room hcat) hdg hcap
  refine TT_app (ws := [.methodLink "KinFactsLaw" idx y, .instanceMethod y, .selects y.cls y y, .initialized y.cls, .code y cc9 mL9 ret9]) ?_
  intro w hw
  simp only [List.mem_cons, List.not_mem_nil, or_false] at hw
  rcases hw with rfl | rfl | rfl | rfl | rfl
  · exact lk
  · exact li.1.1
  · exact li.1.2
  · exact lc.1.1
  · exact lc.1.2
theorem lr_i1 {α β : Type} {f : α → State → Prop} {h : β → Int32 × KS} (C : LB p s m c args meth E h0) (hH : LH E h0 x s H locs) {o9 : Option β} {g : β → Option α} {mc ms : Nat} {av : Array Value}
    (hr : ∀ a, o9 = some a → va_Run p l e R s m args below meth c H locs cells slots mc ms (F0 m pc ls st0) rest (QI SK E (a1 h0) H.size (h a) av) (KA SK (a1 h0) H.size))
    (kk : ∀ (a : β) (H : Heap) (locs : List Loc), LH E h0 ((h a).2, x.2.1, x.2.2.1, x.2.2.2) s H locs → W p l e R s m args below meth c H locs (cells + mc) (slots + ms) (Qn f (g a)) (F0 m (pc + 3) ls (.int (h a).1 :: rest))) : W p l e R s m args below meth c H locs cells slots (Qn f (o9.bind g)) (F0 m pc ls st0) := by
  cases ho : o9 with
  | none => exact W_none
  | some a =>
    have hge := LH.ge C hH
    refine va_calli (a := av) (post := fun r u => r = (h a).1 ∧ u = (h a).2) (hr a ho) hH.2.2 (fun q _ z => KA1_LA C.2.2.2.2 hge z) (fun q z => KA1_LA C.2.2.2.2 hge z) (fun r u t H1 locs1 ht _ hp hB _ hk hS => ?_)
    obtain ⟨rfl, rfl⟩ := hp
    exact kk a H1 locs1 (LH.k1 C hH (by rw [← ht]; exact hB) hk hS)
theorem lr_run2 (C : LB p s m c args meth E h0) (hH : LH E h0 x s H locs) {β : Type} {y : MethodName} {cc9 : ByteArray} {mL9 n idx : Nat} {ret9 : Option FieldType} {rm9 : Room} {Q9 : Nat → β → Array Value → State → Outcome → State → Prop} {o9 : Option β} {As : List Value} (lk : Cond.methodLink "KinFactsLaw" idx y ∈ TT) (lc : LC y cc9 mL9 ret9 n) (li : LI y 12) (hct : CT l y cc9 mL9 ret9 rm9 SM E (a2 h0) (.ref ((a2 h0) 0) :: As) x.2.1 Q9 o9) (hst : st0 = As.reverse ++ .ref ((a2 h0) 0) :: rest) (hdg : decode cL_law pc = .ok (.invokevirtual idx, 3)) (hn : As.length = n) (hls : ls.size = 9) (hcat : (rest.map fun v => v.category).sum ≤ 8) (hR : rm9.frames + 1 ≤ R.frames ∧ 8 + (mL9 + 11) + rm9.locals ≤ R.locals) (hcap : cells + rm9.cells ≤ R.cells ∧ slots + rm9.slots ≤ R.slots) :
    ∀ a, o9 = some a → va_Run p l e R s m args below meth c H locs cells slots rm9.cells rm9.slots (F0 m pc ls st0) rest (Q9 H.size a (.ref ((a2 h0) 0) :: As).toArray) (KA SM (a2 h0) H.size) := by
  intro a ha
  obtain ⟨T, N, hci⟩ := li.2
  refine va_runV (Ts := TT) C.1.1 (hct H.size a ha) (cwV n C.1.1.2.2.2.2 ?_ rfl rfl rfl ⟨rfl, lc.2.1, lc.2.2.1, lc.2.2.2⟩ hR) ⟨KPre.blind, va_recv C.2.1.1 hH.1.2 (ci := 12) (q0 := 0) hci (by rw [kws_at oM.1, kcell_obj oM]), fun U hU hW => ⟨rfl, lr_pre2 C hH hU hW⟩⟩ rfl hn hls hst (lv_room hcat) hdg hcap
  refine TT_app (ws := [.methodLink "KinFactsLaw" idx y, .instanceMethod y, .selects y.cls y y, .initialized y.cls, .code y cc9 mL9 ret9]) ?_
  intro w hw
  simp only [List.mem_cons, List.not_mem_nil, or_false] at hw
  rcases hw with rfl | rfl | rfl | rfl | rfl
  · exact lk
  · exact li.1.1
  · exact li.1.2
  · exact lc.1.1
  · exact lc.1.2
theorem lr_i2 {α β : Type} {f : α → State → Prop} {h : β → Int32 × KS} (C : LB p s m c args meth E h0) (hH : LH E h0 x s H locs) {o9 : Option β} {g : β → Option α} {mc ms : Nat} {av : Array Value}
    (hr : ∀ a, o9 = some a → va_Run p l e R s m args below meth c H locs cells slots mc ms (F0 m pc ls st0) rest (QI SM E (a2 h0) H.size (h a) av) (KA SM (a2 h0) H.size))
    (kk : ∀ (a : β) (H : Heap) (locs : List Loc), LH E h0 (x.1, (h a).2, x.2.2.1, x.2.2.2) s H locs → W p l e R s m args below meth c H locs (cells + mc) (slots + ms) (Qn f (g a)) (F0 m (pc + 3) ls (.int (h a).1 :: rest))) : W p l e R s m args below meth c H locs cells slots (Qn f (o9.bind g)) (F0 m pc ls st0) := by
  cases ho : o9 with
  | none => exact W_none
  | some a =>
    have hge := LH.ge C hH
    refine va_calli (a := av) (post := fun r u => r = (h a).1 ∧ u = (h a).2) (hr a ho) hH.2.2 (fun q _ z => KA2_LA C.2.2.2.2 hge z) (fun q z => KA2_LA C.2.2.2.2 hge z) (fun r u t H1 locs1 ht _ hp hB _ hk hS => ?_)
    obtain ⟨rfl, rfl⟩ := hp
    exact kk a H1 locs1 (LH.k2 C hH (by rw [← ht]; exact hB) hk hS)
theorem lr_d2 {α β : Type} {f : α → State → Prop} {h : β → UInt64 × KS} (C : LB p s m c args meth E h0) (hH : LH E h0 x s H locs) {o9 : Option β} {g : β → Option α} {mc ms : Nat} {av : Array Value}
    (hr : ∀ a, o9 = some a → va_Run p l e R s m args below meth c H locs cells slots mc ms (F0 m pc ls st0) rest (QD SM E (a2 h0) H.size (h a) av) (KA SM (a2 h0) H.size))
    (kk : ∀ (a : β) (H : Heap) (locs : List Loc), LH E h0 (x.1, (h a).2, x.2.2.1, x.2.2.2) s H locs → W p l e R s m args below meth c H locs (cells + mc) (slots + ms) (Qn f (g a)) (F0 m (pc + 3) ls (.double (h a).1 :: rest))) : W p l e R s m args below meth c H locs cells slots (Qn f (o9.bind g)) (F0 m pc ls st0) := by
  cases ho : o9 with
  | none => exact W_none
  | some a =>
    have hge := LH.ge C hH
    refine va_calld (a := av) (post := fun r u => r = (h a).1 ∧ u = (h a).2) (hr a ho) hH.2.2 (fun q _ z => KA2_LA C.2.2.2.2 hge z) (fun q z => KA2_LA C.2.2.2.2 hge z) (fun r u t H1 locs1 ht _ hp hB _ hk hS => ?_)
    obtain ⟨rfl, rfl⟩ := hp
    exact kk a H1 locs1 (LH.k2 C hH (by rw [← ht]; exact hB) hk hS)
theorem lr_f2 {α β : Type} {f : α → State → Prop} {h : β → UInt32 × KS} (C : LB p s m c args meth E h0) (hH : LH E h0 x s H locs) {o9 : Option β} {g : β → Option α} {mc ms : Nat} {av : Array Value}
    (hr : ∀ a, o9 = some a → va_Run p l e R s m args below meth c H locs cells slots mc ms (F0 m pc ls st0) rest (QF SM E (a2 h0) H.size (h a) av) (KA SM (a2 h0) H.size))
    (kk : ∀ (a : β) (H : Heap) (locs : List Loc), LH E h0 (x.1, (h a).2, x.2.2.1, x.2.2.2) s H locs → W p l e R s m args below meth c H locs (cells + mc) (slots + ms) (Qn f (g a)) (F0 m (pc + 3) ls (.float (h a).1 :: rest))) : W p l e R s m args below meth c H locs cells slots (Qn f (o9.bind g)) (F0 m pc ls st0) := by
  cases ho : o9 with
  | none => exact W_none
  | some a =>
    have hge := LH.ge C hH
    refine va_callf (a := av) (post := fun r u => r = (h a).1 ∧ u = (h a).2) (hr a ho) hH.2.2 (fun q _ z => KA2_LA C.2.2.2.2 hge z) (fun q z => KA2_LA C.2.2.2.2 hge z) (fun r u t H1 locs1 ht _ hp hB _ hk hS => ?_)
    obtain ⟨rfl, rfl⟩ := hp
    exact kk a H1 locs1 (LH.k2 C hH (by rw [← ht]; exact hB) hk hS)
theorem l_sld (C : LB p s m c args meth E h0) (hH : LH E h0 x s H locs) {b L : Nat} {xs : Nat → Int32} (hX : va_X b L xs s s.heap) (hbl : b < s.heap.size) {i v : Int32} (hin : vp_in i L ∧ xs i.toNatClampNeg = v) (hdg : decode cL_law pc = .ok (.iaload, 1))
    (kk : W p l e R s m args below meth c H locs cells slots Q (F0 m (pc + 1) ls (.int v :: rest))) : W p l e R s m args below meth c H locs cells slots Q (F0 m pc ls (.int i :: .ref b :: rest)) := by
  have h := va_sld (l := l) (e := e) (R := R) (m := m) (args := args) (below := below) (meth := meth) (cells := cells) (slots := slots) (Q := Q) (ls := ls) (rest := rest) C.1.1.1 C.1.1.2.1 hX hbl (A := LA s) (Nat.not_le.mpr hbl) hH.2.2 hin.1 hdg
  rw [hin.2] at h
  exact h kk
theorem l_lald (C : LB p s m c args meth E h0) (hH : LH E h0 x s H locs) (hdg : decode cL_law pc = .ok (.laload, 1))
    (kk : W p l e R s m args below meth c H locs cells slots Q (F0 m (pc + 1) ls (.long x.2.2.1 :: rest))) : W p l e R s m args below meth c H locs cells slots Q (F0 m pc ls (.int 0 :: .ref (h0 + 143) :: rest)) := by
  obtain ⟨f, h1, h2⟩ := hH.2.1.1
  rw [← h1] at kk
  exact va_lald (D := E.1) C.1.1.1 C.1.1.2.1 C.2.1.1 h2 0 3 rfl rfl (by unfold vp_in; decide) hdg kk
theorem l_dald (C : LB p s m c args meth E h0) (hH : LH E h0 x s H locs) (hdg : decode cL_law pc = .ok (.daload, 1))
    (kk : W p l e R s m args below meth c H locs cells slots Q (F0 m (pc + 1) ls (.double x.2.2.2 :: rest))) : W p l e R s m args below meth c H locs cells slots Q (F0 m pc ls (.int 0 :: .ref (h0 + 144) :: rest)) := by
  obtain ⟨f, h1, h2⟩ := hH.2.1.2
  rw [← h1] at kk
  exact va_dald (D := E.1) C.1.1.1 C.1.1.2.1 C.2.1.1 h2 0 5 rfl rfl (by unfold vp_in; decide) hdg kk
theorem l_lcmp {α : Type} {f : α → State → Prop} {o : Option α} {cc : ByteArray} (hx : p.tables.exec = Jvm.exec) (hb : c.code = cc) {y z : Int64} {off : Int} {tgt : Nat} (hdg : decode cc pc = .ok (.lcmp, 1)) (hd2 : decode cc (pc + 1) = .ok (.ifCond .eq off, 3)) (ht : ((pc + 1 : Nat) : Int) + off = (tgt : Int))
    (kk : W p l e R s m args below meth c H locs cells slots (Qn f o) (F0 m tgt ls rest)) : W p l e R s m args below meth c H locs cells slots (Qn f (if y = z then o else none)) (F0 m pc ls (.long z :: .long y :: rest)) := by
  refine W_if (fun hyz => W.lcmp hx hb hdg ?_)
  have h0 : lg_cmp y z = 0 := by subst hyz; unfold lg_cmp; rw [if_neg (by simp), if_pos rfl]
  rw [h0]
  exact lv_if_eq hx hb hd2 ht (fun _ => kk) (fun h => absurd rfl h)
theorem l_dcmp {α : Type} {f : α → State → Prop} {o : Option α} {cc : ByteArray} (hx : p.tables.exec = Jvm.exec) (hb : c.code = cc) {y z : UInt64} {op : CmpOp} {off : Int} {tgt : Nat} (hdg : decode cc pc = .ok (.dcmp op, 1)) (hd2 : decode cc (pc + 1) = .ok (.ifCond .eq off, 3)) (ht : ((pc + 1 : Nat) : Int) + off = (tgt : Int))
    (kk : W p l e R s m args below meth c H locs cells slots (Qn f o) (F0 m tgt ls rest)) : W p l e R s m args below meth c H locs cells slots (Qn f (if Op.cmpValue (FP.dcmp y z) op = 0 then o else none)) (F0 m pc ls (.double z :: .double y :: rest)) := by
  refine W_if (fun hyz => lv_dcmp hx hb hdg ?_)
  rw [hyz]
  exact lv_if_eq hx hb hd2 ht (fun _ => kk) (fun h => absurd rfl h)
end LROWS
