/-! ===== doubles and floats ===== -/
theorem fc64 : FP.Core.b64.tails = 4503599627370496 ∧ FP.Core.b64.exps = 2048 ∧ FP.Core.b64.qmin = -1074 ∧ FP.Core.b64.qmax = 971 ∧ 2 ^ FP.Core.b64.p = 9007199254740992 := by decide +kernel
theorem asm64 (e t : Nat) : FP.Core.assemble FP.Core.b64 false e t = e * 4503599627370496 + t := by
  unfold FP.Core.assemble
  rw [fc64.1, fc64.2.1]
  show (0 * 2048 + e) * 4503599627370496 + t = _
  rw [Nat.zero_mul, Nat.zero_add]
theorem encf64 {c : Nat} {q : Int} (hc : c < 9007199254740992) (h1 : -1074 ≤ q) (h2 : q ≤ 971) : FP.Core.encode FP.Core.b64 (.fin false c q) < 9218868437227405312 := by
  show (if c < FP.Core.b64.tails then FP.Core.assemble FP.Core.b64 false 0 c else FP.Core.assemble FP.Core.b64 false ((q - FP.Core.b64.qmin).toNat + 1) (c - FP.Core.b64.tails)) < _
  rw [fc64.1, fc64.2.2.1, asm64, asm64]
  split <;> omega
theorem enci64 : FP.Core.encode FP.Core.b64 (.inf false) = 9218868437227405312 := by decide +kernel
theorem encb64 {c : Nat} {q : Int} (hc : c < 9007199254740992) (h1 : -1074 ≤ q) : FP.Core.encode FP.Core.b64 (FP.Core.bound FP.Core.b64 false c q) ≤ 9218868437227405312 ∧ (q ≤ 971 → FP.Core.encode FP.Core.b64 (FP.Core.bound FP.Core.b64 false c q) < 9218868437227405312) := by
  unfold FP.Core.bound
  rw [fc64.2.2.2.1]
  by_cases h : q ≤ 971
  · rw [if_pos h]
    have := encf64 hc h1 h
    exact ⟨by omega, fun _ => this⟩
  · rw [if_neg h, enci64]
    exact ⟨Nat.le_refl _, fun z => absurd z h⟩
theorem encs64 {c : Nat} {q : Int} (h1 : -1074 ≤ q) : FP.Core.encode FP.Core.b64 (FP.Core.settle FP.Core.b64 false c q) ≤ 9218868437227405312 ∧ (q + 1 ≤ 971 → FP.Core.encode FP.Core.b64 (FP.Core.settle FP.Core.b64 false c q) < 9218868437227405312) := by
  unfold FP.Core.settle
  rw [fc64.2.2.2.2, fc64.1]
  by_cases h : c < 9007199254740992
  · rw [if_pos h]
    have := encb64 h h1
    exact ⟨this.1, fun z => this.2 (by omega)⟩
  · rw [if_neg h]
    have := encb64 (c := 4503599627370496) (q := q + 1) (by decide) (by omega)
    exact ⟨this.1, fun z => this.2 z⟩
theorem encr64 (num den : Nat) (e : Int) : FP.Core.encode FP.Core.b64 (FP.Core.roundRatio FP.Core.b64 false num den e) ≤ 9218868437227405312 ∧ (FP.Core.quantum FP.Core.b64 num den e + 1 ≤ 971 → FP.Core.encode FP.Core.b64 (FP.Core.roundRatio FP.Core.b64 false num den e) < 9218868437227405312) := by
  unfold FP.Core.roundRatio
  by_cases h : num = 0
  · rw [if_pos h, fc64.2.2.1]
    have := encf64 (c := 0) (q := -1074) (by decide) (by decide) (by decide)
    exact ⟨by omega, fun _ => this⟩
  · rw [if_neg h]
    unfold FP.Core.roundAt
    have hq : -1074 ≤ FP.Core.quantum FP.Core.b64 num den e := by
      unfold FP.Core.quantum
      rw [fc64.2.2.1]
      exact Int.le_max_left _ _
    exact encs64 hq
theorem dec64 {n : Nat} (h : n ≤ 9218868437227405312) : (∃ c q, FP.Core.decode FP.Core.b64 n = .fin false c q) ∨ (n = 9218868437227405312 ∧ FP.Core.decode FP.Core.b64 n = .inf false) := by
  have hs : FP.Core.fieldS FP.Core.b64 n = false := by
    unfold FP.Core.fieldS
    rw [fc64.1, fc64.2.1, beq_eq_false_iff_ne]
    omega
  unfold FP.Core.decode
  rw [hs]
  have hE : FP.Core.fieldE FP.Core.b64 n = n / 4503599627370496 % 2048 := by unfold FP.Core.fieldE; rw [fc64.1, fc64.2.1]
  have hT : FP.Core.fieldT FP.Core.b64 n = n % 4503599627370496 := by unfold FP.Core.fieldT; rw [fc64.1]
  rw [hE, hT, fc64.2.1]
  by_cases h1 : n / 4503599627370496 % 2048 = 2048 - 1
  · rw [if_pos h1, if_pos (by omega)]
    exact Or.inr ⟨by omega, rfl⟩
  · rw [if_neg h1]
    refine Or.inl ?_
    split
    · exact ⟨_, _, rfl⟩
    · exact ⟨_, _, rfl⟩
theorem nn64_n {r : UInt64} (h : r.toNat ≤ 9218868437227405312) : nn64 r := by
  show (r &&& 9223372036854775807) ≤ 9218868437227405312
  rw [UInt64.le_iff_toNat_le, UInt64.toNat_and]
  refine Nat.le_trans ?_ h
  exact Nat.and_le_left
theorem of64 {n : Nat} (h : n ≤ 9218868437227405312) : (UInt64.ofNat n).toNat = n := by
  rw [UInt64.toNat_ofNat']
  omega

theorem fc32 : FP.Core.b32.tails = 8388608 ∧ FP.Core.b32.exps = 256 ∧ FP.Core.b32.qmin = -149 ∧ FP.Core.b32.qmax = 104 ∧ 2 ^ FP.Core.b32.p = 16777216 := by decide +kernel
theorem asm32 (e t : Nat) : FP.Core.assemble FP.Core.b32 false e t = e * 8388608 + t := by
  unfold FP.Core.assemble
  rw [fc32.1, fc32.2.1]
  show (0 * 256 + e) * 8388608 + t = _
  rw [Nat.zero_mul, Nat.zero_add]
theorem encf32 {c : Nat} {q : Int} (hc : c < 16777216) (h1 : -149 ≤ q) (h2 : q ≤ 104) : FP.Core.encode FP.Core.b32 (.fin false c q) < 2139095040 := by
  show (if c < FP.Core.b32.tails then FP.Core.assemble FP.Core.b32 false 0 c else FP.Core.assemble FP.Core.b32 false ((q - FP.Core.b32.qmin).toNat + 1) (c - FP.Core.b32.tails)) < _
  rw [fc32.1, fc32.2.2.1, asm32, asm32]
  split <;> omega
theorem enci32 : FP.Core.encode FP.Core.b32 (.inf false) = 2139095040 := by decide +kernel
theorem encb32 {c : Nat} {q : Int} (hc : c < 16777216) (h1 : -149 ≤ q) : FP.Core.encode FP.Core.b32 (FP.Core.bound FP.Core.b32 false c q) ≤ 2139095040 ∧ (q ≤ 104 → FP.Core.encode FP.Core.b32 (FP.Core.bound FP.Core.b32 false c q) < 2139095040) := by
  unfold FP.Core.bound
  rw [fc32.2.2.2.1]
  by_cases h : q ≤ 104
  · rw [if_pos h]
    have := encf32 hc h1 h
    exact ⟨by omega, fun _ => this⟩
  · rw [if_neg h, enci32]
    exact ⟨Nat.le_refl _, fun z => absurd z h⟩
theorem encs32 {c : Nat} {q : Int} (h1 : -149 ≤ q) : FP.Core.encode FP.Core.b32 (FP.Core.settle FP.Core.b32 false c q) ≤ 2139095040 ∧ (q + 1 ≤ 104 → FP.Core.encode FP.Core.b32 (FP.Core.settle FP.Core.b32 false c q) < 2139095040) := by
  unfold FP.Core.settle
  rw [fc32.2.2.2.2, fc32.1]
  by_cases h : c < 16777216
  · rw [if_pos h]
    have := encb32 h h1
    exact ⟨this.1, fun z => this.2 (by omega)⟩
  · rw [if_neg h]
    have := encb32 (c := 8388608) (q := q + 1) (by decide) (by omega)
    exact ⟨this.1, fun z => this.2 z⟩
theorem encr32 (num den : Nat) (e : Int) : FP.Core.encode FP.Core.b32 (FP.Core.roundRatio FP.Core.b32 false num den e) ≤ 2139095040 ∧ (FP.Core.quantum FP.Core.b32 num den e + 1 ≤ 104 → FP.Core.encode FP.Core.b32 (FP.Core.roundRatio FP.Core.b32 false num den e) < 2139095040) := by
  unfold FP.Core.roundRatio
  by_cases h : num = 0
  · rw [if_pos h, fc32.2.2.1]
    have := encf32 (c := 0) (q := -149) (by decide) (by decide) (by decide)
    exact ⟨by omega, fun _ => this⟩
  · rw [if_neg h]
    unfold FP.Core.roundAt
    have hq : -149 ≤ FP.Core.quantum FP.Core.b32 num den e := by
      unfold FP.Core.quantum
      rw [fc32.2.2.1]
      exact Int.le_max_left _ _
    exact encs32 hq
theorem dec32 {n : Nat} (h : n ≤ 2139095040) : (∃ c q, FP.Core.decode FP.Core.b32 n = .fin false c q) ∨ (n = 2139095040 ∧ FP.Core.decode FP.Core.b32 n = .inf false) := by
  have hs : FP.Core.fieldS FP.Core.b32 n = false := by
    unfold FP.Core.fieldS
    rw [fc32.1, fc32.2.1, beq_eq_false_iff_ne]
    omega
  unfold FP.Core.decode
  rw [hs]
  have hE : FP.Core.fieldE FP.Core.b32 n = n / 8388608 % 256 := by unfold FP.Core.fieldE; rw [fc32.1, fc32.2.1]
  have hT : FP.Core.fieldT FP.Core.b32 n = n % 8388608 := by unfold FP.Core.fieldT; rw [fc32.1]
  rw [hE, hT, fc32.2.1]
  by_cases h1 : n / 8388608 % 256 = 256 - 1
  · rw [if_pos h1, if_pos (by omega)]
    exact Or.inr ⟨by omega, rfl⟩
  · rw [if_neg h1]
    refine Or.inl ?_
    split
    · exact ⟨_, _, rfl⟩
    · exact ⟨_, _, rfl⟩
theorem nn32_n {r : UInt32} (h : r.toNat ≤ 2139095040) : nn32 r := by
  show (r &&& 2147483647) ≤ 2139095040
  rw [UInt32.le_iff_toNat_le, UInt32.toNat_and]
  refine Nat.le_trans ?_ h
  exact Nat.and_le_left
theorem of32 {n : Nat} (h : n ≤ 2139095040) : (UInt32.ofNat n).toNat = n := by
  rw [UInt32.toNat_ofNat']
  omega

/-- a number of a known sign -/
def isF (d : FP.Core.Datum) (z : Bool) : Bool := match d with
  | .fin false c _ => z || c != 0
  | _ => false
theorem isF_d {d : FP.Core.Datum} {z : Bool} (h : isF d z = true) : ∃ c q, d = .fin false c q ∧ (z = false → c ≠ 0) := by
  match d, h with
  | .fin false c q, h =>
    refine ⟨c, q, rfl, fun hz => ?_⟩
    rw [hz] at h
    have h2 : (false || c != 0) = true := h
    rw [Bool.false_or, bne_iff_ne] at h2
    exact h2
  | .fin true c q, h => exact absurd (show false = true from h) (by decide)
  | .inf _, h => exact absurd (show false = true from h) (by decide)
  | .nan, h => exact absurd (show false = true from h) (by decide)
theorem i64_216 : ∀ j : Fin 217, isF (FP.Core.decode FP.Core.b64 (FP.i2d (nI j.val)).toNat) (j.val == 0) = true := by decide +kernel
theorem i32_216 : ∀ j : Fin 217, isF (FP.Core.decode FP.Core.b32 (FP.i2f (nI j.val)).toNat) (j.val == 0) = true := by decide +kernel
theorem i64_all {a : Nat} (ha : a < 2 ^ 31) : ∃ c q, FP.Core.decode FP.Core.b64 (FP.i2d (nI a)).toNat = .fin false c q := by
  have h0 : FP.i2d (nI a) = UInt64.ofNat (FP.Core.encode FP.Core.b64 (FP.Core.roundRatio FP.Core.b64 false a 1 0)) := by
    show UInt64.ofNat (FP.Core.encode FP.Core.b64 (FP.Core.roundRatio FP.Core.b64 (decide ((nI a).toInt < 0)) (nI a).toInt.natAbs 1 0)) = _
    rw [nI_toInt (by omega), decide_eq_false (by omega)]
    rfl
  have hl : a.log2 ≤ 30 := by
    rcases Nat.eq_zero_or_pos a with q | q
    · rw [q]; decide
    · have := (Nat.log2_lt (by omega)).mpr ha
      omega
  have hq : FP.Core.quantum FP.Core.b64 a 1 0 + 1 ≤ 971 := by
    unfold FP.Core.quantum FP.Core.leading
    rw [fc64.2.2.1]
    have l1 : (1 : Nat).log2 = 0 := by decide
    have hp : (FP.Core.b64.p : Int) = 53 := rfl
    rw [l1, hp]
    simp only
    split <;> omega
  have h1 := (encr64 a 1 0).2 hq
  rw [h0, of64 (by omega)]
  rcases dec64 (n := FP.Core.encode FP.Core.b64 (FP.Core.roundRatio FP.Core.b64 false a 1 0)) (by omega) with h | h
  · exact h
  · omega
theorem div64 {a b : Nat} (ha : a < 2 ^ 31) (hb : b < 217) (hb0 : b ≠ 0) : (FP.ddiv (FP.i2d (nI a)) (FP.i2d (nI b))).toNat ≤ 9218868437227405312 := by
  obtain ⟨c, q, h1⟩ := i64_all ha
  obtain ⟨d, r, h2, h3⟩ := isF_d (i64_216 ⟨b, hb⟩)
  have hd := h3 (beq_eq_false_iff_ne.mpr hb0)
  have e : FP.ddiv (FP.i2d (nI a)) (FP.i2d (nI b)) = UInt64.ofNat (FP.Core.encode FP.Core.b64 (FP.Core.roundRatio FP.Core.b64 false c d (q - r))) := by
    show UInt64.ofNat (FP.Core.encode FP.Core.b64 (FP.Core.quotient FP.Core.b64 (FP.Core.decode FP.Core.b64 (FP.i2d (nI a)).toNat) (FP.Core.decode FP.Core.b64 (FP.i2d (nI b)).toNat))) = _
    rw [h1, show FP.Core.decode FP.Core.b64 (FP.i2d (nI b)).toNat = .fin false d r from h2]
    show UInt64.ofNat (FP.Core.encode FP.Core.b64 (if d = 0 then (if c = 0 then .nan else .inf (false != false)) else FP.Core.roundRatio FP.Core.b64 (false != false) c d (q - r))) = _
    rw [if_neg hd]
    rfl
  have h4 := (encr64 c d (q - r)).1
  rw [e, of64 h4]
  exact h4
theorem div32 {a b : Nat} (ha : a < 217) (hb : b < 217) (hb0 : b ≠ 0) : (FP.fdiv (FP.i2f (nI a)) (FP.i2f (nI b))).toNat ≤ 2139095040 := by
  obtain ⟨c, q, h1, _⟩ := isF_d (i32_216 ⟨a, ha⟩)
  obtain ⟨d, r, h2, h3⟩ := isF_d (i32_216 ⟨b, hb⟩)
  have hd := h3 (beq_eq_false_iff_ne.mpr hb0)
  have e : FP.fdiv (FP.i2f (nI a)) (FP.i2f (nI b)) = UInt32.ofNat (FP.Core.encode FP.Core.b32 (FP.Core.roundRatio FP.Core.b32 false c d (q - r))) := by
    show UInt32.ofNat (FP.Core.encode FP.Core.b32 (FP.Core.quotient FP.Core.b32 (FP.Core.decode FP.Core.b32 (FP.i2f (nI a)).toNat) (FP.Core.decode FP.Core.b32 (FP.i2f (nI b)).toNat))) = _
    rw [show FP.Core.decode FP.Core.b32 (FP.i2f (nI a)).toNat = .fin false c q from h1, show FP.Core.decode FP.Core.b32 (FP.i2f (nI b)).toNat = .fin false d r from h2]
    show UInt32.ofNat (FP.Core.encode FP.Core.b32 (if d = 0 then (if c = 0 then .nan else .inf (false != false)) else FP.Core.roundRatio FP.Core.b32 (false != false) c d (q - r))) = _
    rw [if_neg hd]
    rfl
  have h4 := (encr32 c d (q - r)).1
  rw [e, of32 h4]
  exact h4
theorem f2d_le {r : UInt32} (h : r.toNat ≤ 2139095040) : (FP.f2d r).toNat ≤ 9218868437227405312 := by
  have key : ∀ x, FP.Core.decode FP.Core.b32 r.toNat = x → ((∃ c q, x = .fin false c q) ∨ x = .inf false) → (FP.f2d r).toNat ≤ 9218868437227405312 := by
    intro x hx hc
    have hn : FP.Core.fIsNaN r = false := by
      show decide (FP.Core.decode FP.Core.b32 r.toNat = .nan) = false
      rw [hx, decide_eq_false_iff_not]
      rcases hc with ⟨c, q, rfl⟩ | rfl
      · exact FP.Core.Datum.noConfusion
      · exact FP.Core.Datum.noConfusion
    have e : FP.f2d r = UInt64.ofNat (FP.Core.encode FP.Core.b64 (FP.Core.round FP.Core.b64 x)) := by
      unfold FP.f2d
      rw [hn, if_neg (by decide), ← hx]
      rfl
    have hle : FP.Core.encode FP.Core.b64 (FP.Core.round FP.Core.b64 x) ≤ 9218868437227405312 := by
      rcases hc with ⟨c, q, rfl⟩ | rfl
      · exact (encr64 c 1 q).1
      · exact Nat.le_of_eq enci64
    rw [e, of64 hle]
    exact hle
  rcases dec32 h with ⟨c, q, h1⟩ | ⟨_, h1⟩
  · exact key _ h1 (Or.inl ⟨c, q, rfl⟩)
  · exact key _ h1 (Or.inr rfl)
theorem cmp_i (a : Int) : compare a a = Ordering.eq := by
  show compareOfLessAndEq a a = _
  unfold compareOfLessAndEq
  rw [if_neg (Int.lt_irrefl a), if_pos rfl]
theorem dcmp_s {r : UInt64} (h : r.toNat ≤ 9218868437227405312) : Op.cmpValue (FP.dcmp r r) DOP = 0 := by
  have e : FP.dcmp r r = some .eq := by
    show FP.Core.order (FP.Core.decode FP.Core.b64 r.toNat) (FP.Core.decode FP.Core.b64 r.toNat) = _
    rcases dec64 h with ⟨c, q, h1⟩ | ⟨_, h1⟩
    · rw [h1]
      exact congrArg some (cmp_i _)
    · rw [h1]
      exact congrArg some (cmp_i _)
  rw [e]
  rfl
