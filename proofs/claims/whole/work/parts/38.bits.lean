/-! ===== how many bits a long has ===== -/
def bv8 : List Nat → Nat
  | [] => 0
  | b :: bs => b + 256 * bv8 bs
theorem and_256 {a c p q : Nat} (ha : a < 256) (hc : c < 256) : (a + 256 * p) &&& (c + 256 * q) = (a &&& c) + 256 * (p &&& q) := by
  apply Nat.eq_of_testBit_eq
  intro i
  have h1 : a &&& c < 2 ^ 8 := Nat.lt_of_le_of_lt Nat.and_le_left ha
  rw [Nat.testBit_and, Nat.add_comm a, Nat.add_comm c, Nat.add_comm (a &&& c), show (256 : Nat) = 2 ^ 8 from rfl, Nat.testBit_two_pow_mul_add _ (show a < 2 ^ 8 from ha), Nat.testBit_two_pow_mul_add _ (show c < 2 ^ 8 from hc), Nat.testBit_two_pow_mul_add _ h1]
  by_cases h : i < 8
  · simp only [if_pos h, Nat.testBit_and]
  · simp only [if_neg h, Nat.testBit_and]
def lt8 (bs : List Nat) : Prop := ∀ b ∈ bs, b < 256
theorem bit55 : ∀ (b : Fin 256) (e : Fin 2), (b.val / 2 + 128 * e.val) &&& 85 = (b.val / 2) &&& 85 := by decide +kernel
theorem bit33 : ∀ (b : Fin 256) (e : Fin 4), (b.val / 4 + 64 * e.val) &&& 51 = (b.val / 4) &&& 51 := by decide +kernel
theorem le55 : ∀ b : Fin 256, (b.val / 2) &&& 85 ≤ b.val := by decide +kernel
def b1 (b : Nat) : Nat := b - ((b / 2) &&& 85)
def b2 (b : Nat) : Nat := (b &&& 51) + ((b / 4) &&& 51)
def b3 (b : Nat) : Nat := (b + b / 16) &&& 15
theorem step1 : ∀ (bs : List Nat) (k : Nat), lt8 bs → bs.length ≤ k → (bv8 bs / 2) &&& bv8 (List.replicate k 85) = bv8 (bs.map (fun b => (b / 2) &&& 85))
  | [], k, _, _ => by show (0 / 2) &&& _ = 0; rw [Nat.zero_div, Nat.zero_and]
  | b :: bs, 0, _, h => absurd h (by simp)
  | b :: bs, k + 1, hl, h => by
    have hb : b < 256 := hl b List.mem_cons_self
    have ih := step1 bs k (fun x hx => hl x (List.mem_cons_of_mem _ hx)) (by simpa using h)
    show ((b + 256 * bv8 bs) / 2) &&& (85 + 256 * bv8 (List.replicate k 85)) = ((b / 2) &&& 85) + 256 * bv8 (bs.map _)
    rw [show (b + 256 * bv8 bs) / 2 = (b / 2 + 128 * (bv8 bs % 2)) + 256 * (bv8 bs / 2) by omega, and_256 (by omega) (by decide), ih, bit55 ⟨b, hb⟩ ⟨bv8 bs % 2, by omega⟩]
theorem sub1 : ∀ bs : List Nat, lt8 bs → bv8 (bs.map (fun b => (b / 2) &&& 85)) ≤ bv8 bs ∧ bv8 bs - bv8 (bs.map (fun b => (b / 2) &&& 85)) = bv8 (bs.map b1)
  | [], _ => ⟨Nat.le_refl _, rfl⟩
  | b :: bs, hl => by
    have ih := sub1 bs (fun x hx => hl x (List.mem_cons_of_mem _ hx))
    have h1 := le55 ⟨b, hl b List.mem_cons_self⟩
    simp only at h1
    show ((b / 2) &&& 85) + 256 * bv8 (bs.map _) ≤ b + 256 * bv8 bs ∧ (b + 256 * bv8 bs) - (((b / 2) &&& 85) + 256 * bv8 (bs.map _)) = (b - ((b / 2) &&& 85)) + 256 * bv8 (bs.map b1)
    rw [← ih.2]
    omega
theorem and1 (m : Nat) (hm : m < 256) : ∀ (bs : List Nat) (k : Nat), lt8 bs → bs.length ≤ k → bv8 bs &&& bv8 (List.replicate k m) = bv8 (bs.map (fun b => b &&& m))
  | [], k, _, _ => by show 0 &&& _ = 0; rw [Nat.zero_and]
  | b :: bs, 0, _, h => absurd h (by simp)
  | b :: bs, k + 1, hl, h => by
    have hb : b < 256 := hl b List.mem_cons_self
    have ih := and1 m hm bs k (fun x hx => hl x (List.mem_cons_of_mem _ hx)) (by simpa using h)
    show (b + 256 * bv8 bs) &&& (m + 256 * bv8 (List.replicate k m)) = (b &&& m) + 256 * bv8 (bs.map _)
    rw [and_256 hb hm, ih]
theorem step2 : ∀ (bs : List Nat) (k : Nat), lt8 bs → bs.length ≤ k → (bv8 bs / 4) &&& bv8 (List.replicate k 51) = bv8 (bs.map (fun b => (b / 4) &&& 51))
  | [], k, _, _ => by show (0 / 4) &&& _ = 0; rw [Nat.zero_div, Nat.zero_and]
  | b :: bs, 0, _, h => absurd h (by simp)
  | b :: bs, k + 1, hl, h => by
    have hb : b < 256 := hl b List.mem_cons_self
    have ih := step2 bs k (fun x hx => hl x (List.mem_cons_of_mem _ hx)) (by simpa using h)
    show ((b + 256 * bv8 bs) / 4) &&& (51 + 256 * bv8 (List.replicate k 51)) = ((b / 4) &&& 51) + 256 * bv8 (bs.map _)
    rw [show (b + 256 * bv8 bs) / 4 = (b / 4 + 64 * (bv8 bs % 4)) + 256 * (bv8 bs / 4) by omega, and_256 (by omega) (by decide), ih, bit33 ⟨b, hb⟩ ⟨bv8 bs % 4, by omega⟩]
theorem add2 (f g : Nat → Nat) : ∀ bs : List Nat, bv8 (bs.map f) + bv8 (bs.map g) = bv8 (bs.map (fun b => f b + g b))
  | [] => rfl
  | b :: bs => by
    have ih := add2 f g bs
    show (f b + 256 * bv8 (bs.map f)) + (g b + 256 * bv8 (bs.map g)) = (f b + g b) + 256 * bv8 (bs.map _)
    rw [← ih]
    omega
/-- a byte of two small halves -/
def nib (b : Nat) : Prop := b % 16 ≤ 4 ∧ b / 16 ≤ 4
theorem and_15 (a : Nat) : a &&& 15 = a % 16 := Nat.and_two_pow_sub_one_eq_mod a 4
theorem bv8_nib : ∀ bs : List Nat, (∀ b ∈ bs, nib b) → bv8 bs % 16 ≤ 4
  | [], _ => Nat.zero_le _
  | b :: bs, h => by
    have := (h b List.mem_cons_self).1
    show (b + 256 * bv8 bs) % 16 ≤ 4
    omega
theorem step3 : ∀ (bs : List Nat) (k : Nat), (∀ b ∈ bs, nib b) → bs.length ≤ k → (bv8 bs + bv8 bs / 16) &&& bv8 (List.replicate k 15) = bv8 (bs.map b3)
  | [], k, _, _ => by show (0 + 0 / 16) &&& _ = 0; rw [Nat.zero_div, Nat.zero_add, Nat.zero_and]
  | b :: bs, 0, _, h => absurd h (by simp)
  | b :: bs, k + 1, hl, h => by
    have hb := hl b List.mem_cons_self
    have ih := step3 bs k (fun x hx => hl x (List.mem_cons_of_mem _ hx)) (by simpa using h)
    have hn := bv8_nib bs (fun x hx => hl x (List.mem_cons_of_mem _ hx))
    unfold nib at hb
    show ((b + 256 * bv8 bs) + (b + 256 * bv8 bs) / 16) &&& (15 + 256 * bv8 (List.replicate k 15)) = ((b + b / 16) &&& 15) + 256 * bv8 (bs.map b3)
    rw [show (b + 256 * bv8 bs) + (b + 256 * bv8 bs) / 16 = (b + b / 16 + 16 * (bv8 bs % 16)) + 256 * (bv8 bs + bv8 bs / 16) by omega, and_256 (by omega) (by decide), ih, and_15, and_15]
    omega
def by8 (f : Nat → Bool) (i : Nat) : Nat := (f (8 * i)).toNat + 2 * (f (8 * i + 1)).toNat + 4 * (f (8 * i + 2)).toNat + 8 * (f (8 * i + 3)).toNat + 16 * (f (8 * i + 4)).toNat + 32 * (f (8 * i + 5)).toNat + 64 * (f (8 * i + 6)).toNat + 128 * (f (8 * i + 7)).toNat
theorem by8_all : ∀ a b c d e f g h : Bool, (let n := a.toNat + 2 * b.toNat + 4 * c.toNat + 8 * d.toNat + 16 * e.toNat + 32 * f.toNat + 64 * g.toNat + 128 * h.toNat; n < 256 ∧ b1 n < 256 ∧ (b2 (b1 n) % 16 ≤ 4 ∧ b2 (b1 n) / 16 ≤ 4) ∧ b3 (b2 (b1 n)) = a.toNat + b.toNat + c.toNat + d.toNat + e.toNat + f.toNat + g.toNat + h.toNat) := by decide +kernel
theorem by8_bit : ∀ (a b c d e f g h : Bool) (i : Fin 8), (a.toNat + 2 * b.toNat + 4 * c.toNat + 8 * d.toNat + 16 * e.toNat + 32 * f.toNat + 64 * g.toNat + 128 * h.toNat).testBit i.val = match i.val with | 0 => a | 1 => b | 2 => c | 3 => d | 4 => e | 5 => f | 6 => g | _ => h := by decide +kernel
theorem by8_lt (f : Nat → Bool) (i : Nat) : by8 f i < 256 := (by8_all _ _ _ _ _ _ _ _).1
theorem by8_tb (f : Nat → Bool) (i : Nat) {j : Nat} (hj : j < 8) : (by8 f i).testBit j = f (8 * i + j) := by
  refine (by8_bit _ _ _ _ _ _ _ _ ⟨j, hj⟩).trans ?_
  match j, hj with
  | 0, _ => rfl
  | 1, _ => rfl
  | 2, _ => rfl
  | 3, _ => rfl
  | 4, _ => rfl
  | 5, _ => rfl
  | 6, _ => rfl
  | 7, _ => rfl
def by40 (f : Nat → Bool) : List Nat := [by8 f 0, by8 f 1, by8 f 2, by8 f 3, by8 f 4]
theorem bv8_tb (b : Nat) (bs : List Nat) (hb : b < 256) (i : Nat) : (bv8 (b :: bs)).testBit i = if i < 8 then b.testBit i else (bv8 bs).testBit (i - 8) := by
  show (b + 256 * bv8 bs).testBit i = _
  rw [Nat.add_comm, show (256 : Nat) = 2 ^ 8 from rfl, Nat.testBit_two_pow_mul_add _ (show b < 2 ^ 8 from hb)]
theorem by40_tb (f : Nat → Bool) (i : Nat) : (bv8 (by40 f)).testBit i = (decide (i < 40) && f i) := by
  unfold by40
  rw [bv8_tb _ _ (by8_lt f 0), bv8_tb _ _ (by8_lt f 1), bv8_tb _ _ (by8_lt f 2), bv8_tb _ _ (by8_lt f 3), bv8_tb _ _ (by8_lt f 4)]
  by_cases h0 : i < 8
  · rw [if_pos h0, by8_tb f 0 h0, decide_eq_true (show i < 40 by omega), Bool.true_and]; congr 1; omega
  · rw [if_neg h0]
    by_cases h1 : i - 8 < 8
    · rw [if_pos h1, by8_tb f 1 h1, decide_eq_true (show i < 40 by omega), Bool.true_and]; congr 1; omega
    · rw [if_neg h1]
      by_cases h2 : i - 8 - 8 < 8
      · rw [if_pos h2, by8_tb f 2 h2, decide_eq_true (show i < 40 by omega), Bool.true_and]; congr 1; omega
      · rw [if_neg h2]
        by_cases h3 : i - 8 - 8 - 8 < 8
        · rw [if_pos h3, by8_tb f 3 h3, decide_eq_true (show i < 40 by omega), Bool.true_and]; congr 1; omega
        · rw [if_neg h3]
          by_cases h4 : i - 8 - 8 - 8 - 8 < 8
          · rw [if_pos h4, by8_tb f 4 h4, decide_eq_true (show i < 40 by omega), Bool.true_and]; congr 1; omega
          · rw [if_neg h4, decide_eq_false (by omega), Bool.false_and]
            exact Nat.zero_testBit _
theorem jlu {n k : Nat} (hn : n < 2 ^ 64) (hk : k < 64) : jlushr (lN n) (nI k) = lN (n / 2 ^ k) := wb_shr hn hk
theorem fold5 {p0 p1 p2 p3 p4 : Nat} (h0 : p0 ≤ 8) (h1 : p1 ≤ 8) (h2 : p2 ≤ 8) (h3 : p3 ≤ 8) (h4 : p4 ≤ 8) : ∀ n3 m1 m2, n3 = p0 + 256 * (p1 + 256 * (p2 + 256 * (p3 + 256 * (p4 + 256 * 0)))) → m1 = n3 + n3 / 256 → m2 = m1 + m1 / 65536 → (m2 + m2 / 4294967296) % 128 = p0 + p1 + p2 + p3 + p4 := by
  intro n3 m1 m2 e0 e1 e2
  have f1 : n3 / 256 = p1 + 256 * (p2 + 256 * (p3 + 256 * p4)) := by omega
  have g1 : m1 = (p0 + p1) + 256 * ((p1 + p2) + 256 * ((p2 + p3) + 256 * ((p3 + p4) + 256 * p4))) := by omega
  have f2 : m1 / 65536 = (p2 + p3) + 256 * ((p3 + p4) + 256 * p4) := by omega
  have g2 : m2 = (p0 + p1 + p2 + p3) + 256 * ((p1 + p2 + p3 + p4) + 256 * ((p2 + p3 + p4) + 256 * ((p3 + p4) + 256 * p4))) := by omega
  have f3 : m2 / 4294967296 = p4 := by omega
  rw [f3, g2]
  omega
theorem lbc_eq {x : Int64} {f : Nat → Bool} (h : ∀ b, b < 64 → x.toBitVec.getLsbD b = (decide (b < 36) && f b)) : fJ13_bitCount_95d88 x = nI (fb_ct f 36) := by
  obtain ⟨g, hg⟩ : ∃ g : Nat → Bool, g = fun b => decide (b < 36) && f b := ⟨_, rfl⟩
  have hx : x = lN (bv8 (by40 g)) := by
    apply Int64.toBitVec_inj.mp
    apply BitVec.eq_of_getLsbD_eq
    intro i hi
    rw [h i hi, lN_bv, BitVec.getLsbD_ofNat, decide_eq_true hi, Bool.true_and, by40_tb, hg]
    by_cases q : i < 36
    · rw [decide_eq_true (show i < 40 by omega)]
      simp [q]
    · simp [q]
  have a0 := by8_all (g 0) (g 1) (g 2) (g 3) (g 4) (g 5) (g 6) (g 7)
  have a1 := by8_all (g 8) (g 9) (g 10) (g 11) (g 12) (g 13) (g 14) (g 15)
  have a2 := by8_all (g 16) (g 17) (g 18) (g 19) (g 20) (g 21) (g 22) (g 23)
  have a3 := by8_all (g 24) (g 25) (g 26) (g 27) (g 28) (g 29) (g 30) (g 31)
  have a4 := by8_all (g 32) (g 33) (g 34) (g 35) (g 36) (g 37) (g 38) (g 39)
  obtain ⟨n, hn⟩ : ∃ n, n = bv8 (by40 g) := ⟨_, rfl⟩
  obtain ⟨c0, hc0⟩ : ∃ c, c = by8 g 0 := ⟨_, rfl⟩
  obtain ⟨c1, hc1⟩ : ∃ c, c = by8 g 1 := ⟨_, rfl⟩
  obtain ⟨c2, hc2⟩ : ∃ c, c = by8 g 2 := ⟨_, rfl⟩
  obtain ⟨c3, hc3⟩ : ∃ c, c = by8 g 3 := ⟨_, rfl⟩
  obtain ⟨c4, hc4⟩ : ∃ c, c = by8 g 4 := ⟨_, rfl⟩
  have z0 : c0 < 256 ∧ b1 c0 < 256 ∧ nib (b2 (b1 c0)) ∧ b3 (b2 (b1 c0)) = (g 0).toNat + (g 1).toNat + (g 2).toNat + (g 3).toNat + (g 4).toNat + (g 5).toNat + (g 6).toNat + (g 7).toNat := by rw [hc0]; exact a0
  have z1 : c1 < 256 ∧ b1 c1 < 256 ∧ nib (b2 (b1 c1)) ∧ b3 (b2 (b1 c1)) = (g 8).toNat + (g 9).toNat + (g 10).toNat + (g 11).toNat + (g 12).toNat + (g 13).toNat + (g 14).toNat + (g 15).toNat := by rw [hc1]; exact a1
  have z2 : c2 < 256 ∧ b1 c2 < 256 ∧ nib (b2 (b1 c2)) ∧ b3 (b2 (b1 c2)) = (g 16).toNat + (g 17).toNat + (g 18).toNat + (g 19).toNat + (g 20).toNat + (g 21).toNat + (g 22).toNat + (g 23).toNat := by rw [hc2]; exact a2
  have z3 : c3 < 256 ∧ b1 c3 < 256 ∧ nib (b2 (b1 c3)) ∧ b3 (b2 (b1 c3)) = (g 24).toNat + (g 25).toNat + (g 26).toNat + (g 27).toNat + (g 28).toNat + (g 29).toNat + (g 30).toNat + (g 31).toNat := by rw [hc3]; exact a3
  have z4 : c4 < 256 ∧ b1 c4 < 256 ∧ nib (b2 (b1 c4)) ∧ b3 (b2 (b1 c4)) = (g 32).toNat + (g 33).toNat + (g 34).toNat + (g 35).toNat + (g 36).toNat + (g 37).toNat + (g 38).toNat + (g 39).toNat := by rw [hc4]; exact a4
  have hby : by40 g = [c0, c1, c2, c3, c4] := by rw [hc0, hc1, hc2, hc3, hc4]; rfl
  rw [hby] at hn
  have hL0 : lt8 [c0, c1, c2, c3, c4] := by
    intro b hb
    simp only [List.mem_cons, List.not_mem_nil, or_false] at hb
    rcases hb with rfl | rfl | rfl | rfl | rfl
    · exact z0.1
    · exact z1.1
    · exact z2.1
    · exact z3.1
    · exact z4.1
  have hL1 : lt8 ([c0, c1, c2, c3, c4].map b1) := by
    intro b hb
    simp only [List.map_cons, List.map_nil, List.mem_cons, List.not_mem_nil, or_false] at hb
    rcases hb with rfl | rfl | rfl | rfl | rfl
    · exact z0.2.1
    · exact z1.2.1
    · exact z2.2.1
    · exact z3.2.1
    · exact z4.2.1
  have hL2 : ∀ b ∈ ([c0, c1, c2, c3, c4].map b1).map b2, nib b := by
    intro b hb
    simp only [List.map_cons, List.map_nil, List.mem_cons, List.not_mem_nil, or_false] at hb
    rcases hb with rfl | rfl | rfl | rfl | rfl
    · exact z0.2.2.1
    · exact z1.2.2.1
    · exact z2.2.2.1
    · exact z3.2.2.1
    · exact z4.2.2.1
  have m55 : (6148914691236517205 : Int64) = lN (bv8 (List.replicate 8 85)) := by decide +kernel
  have m33 : (3689348814741910323 : Int64) = lN (bv8 (List.replicate 8 51)) := by decide +kernel
  have m0f : (1085102592571150095 : Int64) = lN (bv8 (List.replicate 8 15)) := by decide +kernel
  have v0 : bv8 [c0, c1, c2, c3, c4] = c0 + 256 * (c1 + 256 * (c2 + 256 * (c3 + 256 * (c4 + 256 * 0)))) := rfl
  have y0 := z0.1
  have y1 := z1.1
  have y2 := z2.1
  have y3 := z3.1
  have y4 := z4.1
  have s1 := step1 [c0, c1, c2, c3, c4] 8 hL0 (show (5:Nat) ≤ 8 by decide)
  have s1b := sub1 [c0, c1, c2, c3, c4] hL0
  obtain ⟨n1, hn1⟩ : ∃ n, n = bv8 ([c0, c1, c2, c3, c4].map b1) := ⟨_, rfl⟩
  have v1 : bv8 ([c0, c1, c2, c3, c4].map b1) = b1 c0 + 256 * (b1 c1 + 256 * (b1 c2 + 256 * (b1 c3 + 256 * (b1 c4 + 256 * 0)))) := rfl
  have x0 := z0.2.1
  have x1 := z1.2.1
  have x2 := z2.2.1
  have x3 := z3.2.1
  have x4 := z4.2.1
  have s2a := and1 51 (by decide) ([c0, c1, c2, c3, c4].map b1) 8 hL1 (show (5:Nat) ≤ 8 by decide)
  have s2b := step2 ([c0, c1, c2, c3, c4].map b1) 8 hL1 (show (5:Nat) ≤ 8 by decide)
  have s2c := add2 (fun b => b &&& 51) (fun b => (b / 4) &&& 51) ([c0, c1, c2, c3, c4].map b1)
  obtain ⟨n2, hn2⟩ : ∃ n, n = bv8 (([c0, c1, c2, c3, c4].map b1).map b2) := ⟨_, rfl⟩
  have s2d : bv8 (([c0, c1, c2, c3, c4].map b1).map (fun b => (b &&& 51) + ((b / 4) &&& 51))) = n2 := by rw [hn2]; rfl
  have v2 : bv8 (([c0, c1, c2, c3, c4].map b1).map b2) = b2 (b1 c0) + 256 * (b2 (b1 c1) + 256 * (b2 (b1 c2) + 256 * (b2 (b1 c3) + 256 * (b2 (b1 c4) + 256 * 0)))) := rfl
  have w0 := z0.2.2.1
  have w1 := z1.2.2.1
  have w2 := z2.2.2.1
  have w3 := z3.2.2.1
  have w4 := z4.2.2.1
  unfold nib at w0 w1 w2 w3 w4
  have s3 := step3 (([c0, c1, c2, c3, c4].map b1).map b2) 8 hL2 (show (5:Nat) ≤ 8 by decide)
  have v3 : bv8 ((([c0, c1, c2, c3, c4].map b1).map b2).map b3) = b3 (b2 (b1 c0)) + 256 * (b3 (b2 (b1 c1)) + 256 * (b3 (b2 (b1 c2)) + 256 * (b3 (b2 (b1 c3)) + 256 * (b3 (b2 (b1 c4)) + 256 * 0)))) := rfl
  have hfin : fJ13_bitCount_95d88 (lN n) = nI (b3 (b2 (b1 c0)) + b3 (b2 (b1 c1)) + b3 (b2 (b1 c2)) + b3 (b2 (b1 c3)) + b3 (b2 (b1 c4))) := by
    obtain ⟨p0, hp0⟩ : ∃ p, p = b3 (b2 (b1 c0)) := ⟨_, rfl⟩
    obtain ⟨p1, hp1⟩ : ∃ p, p = b3 (b2 (b1 c1)) := ⟨_, rfl⟩
    obtain ⟨p2, hp2⟩ : ∃ p, p = b3 (b2 (b1 c2)) := ⟨_, rfl⟩
    obtain ⟨p3, hp3⟩ : ∃ p, p = b3 (b2 (b1 c3)) := ⟨_, rfl⟩
    obtain ⟨p4, hp4⟩ : ∃ p, p = b3 (b2 (b1 c4)) := ⟨_, rfl⟩
    have le15 : ∀ b, b3 b < 16 := fun b => by unfold b3; rw [and_15]; omega
    have q8 : ∀ a b c d e f g h : Bool, a.toNat + b.toNat + c.toNat + d.toNat + e.toNat + f.toNat + g.toNat + h.toNat ≤ 8 := by decide +kernel
    have h0 : p0 ≤ 8 := by rw [hp0, z0.2.2.2]; exact q8 _ _ _ _ _ _ _ _
    have h1 : p1 ≤ 8 := by rw [hp1, z1.2.2.2]; exact q8 _ _ _ _ _ _ _ _
    have h2 : p2 ≤ 8 := by rw [hp2, z2.2.2.2]; exact q8 _ _ _ _ _ _ _ _
    have h3 : p3 ≤ 8 := by rw [hp3, z3.2.2.2]; exact q8 _ _ _ _ _ _ _ _
    have h4 : p4 ≤ 8 := by rw [hp4, z4.2.2.2]; exact q8 _ _ _ _ _ _ _ _
    rw [← hp0, ← hp1, ← hp2, ← hp3, ← hp4] at v3 ⊢
    have hn64 : n < 2 ^ 64 := by rw [hn, v0]; omega
    have e1 : lN n - (jlushr (lN n) 1 &&& 6148914691236517205) = lN n1 := by
      rw [li1, jlu hn64 (by decide), m55, fb_andL, Nat.pow_one, hn, s1, lN_sub s1b.1, s1b.2, hn1]
    have hn1_64 : n1 < 2 ^ 64 := by rw [hn1, v1]; omega
    have e2 : (lN n1 &&& 3689348814741910323) + (jlushr (lN n1) 2 &&& 3689348814741910323) = lN n2 := by
      rw [li2, jlu hn1_64 (by decide), m33, fb_andL, fb_andL, show (2 : Nat) ^ 2 = 4 from rfl, hn1, s2a, s2b, lN_add, s2c, s2d]
    have hn2_64 : n2 < 2 ^ 64 := by rw [hn2, v2]; omega
    have e3 : (lN n2 + jlushr (lN n2) 4) &&& 1085102592571150095 = lN (p0 + 256 * (p1 + 256 * (p2 + 256 * (p3 + 256 * (p4 + 256 * 0))))) := by
      rw [li4, jlu hn2_64 (by decide), m0f, lN_add, fb_andL, show (2 : Nat) ^ 4 = 16 from rfl, hn2, s3, v3]
    unfold fJ13_bitCount_95d88
    simp only [e1, e2, e3]
    obtain ⟨n3, hn3⟩ : ∃ n, n = p0 + 256 * (p1 + 256 * (p2 + 256 * (p3 + 256 * (p4 + 256 * 0)))) := ⟨_, rfl⟩
    rw [← hn3, li8, jlu (by omega) (by decide), lN_add, show (16 : Int32) = nI 16 from rfl, jlu (by omega) (by decide), lN_add, show (32 : Int32) = nI 32 from rfl, jlu (by omega) (by decide), lN_add, lN_i, show (127 : Int32) = nI (2 ^ 7 - 1) from rfl, fa_mask]
    refine congrArg nI ?_
    rw [show (2 : Nat) ^ 8 = 256 from rfl, show (2 : Nat) ^ 16 = 65536 from rfl, show (2 : Nat) ^ 32 = 4294967296 from rfl, show (2 : Nat) ^ 7 = 128 from rfl]
    exact fold5 h0 h1 h2 h3 h4 _ _ _ hn3 rfl rfl
  rw [hx, hby, ← hn, hfin, z0.2.2.2, z1.2.2.2, z2.2.2.2, z3.2.2.2, z4.2.2.2]
  refine congrArg nI ?_
  have hct : fb_ct f 36 = fb_ct g 40 := by
    have e1 : fb_ct g 40 = fb_ct g 36 + fb_ct (fun k => g (36 + k)) 4 := fb_ct_split g 36 4
    have e2 : fb_ct (fun k => g (36 + k)) 4 = 0 := fb_ct_zero.mpr (fun k _ => by rw [hg]; simp; intro q; omega)
    have e3 : fb_ct f 36 = fb_ct g 36 := fb_ct_cong (fun k hk => by rw [hg]; simp [hk])
    omega
  have tn : ∀ b : Bool, (if b = true then 1 else 0) = b.toNat := by decide
  rw [hct]
  simp only [fb_ct, tn]
  omega
