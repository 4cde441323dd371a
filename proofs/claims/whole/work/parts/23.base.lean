/-! ===== the pure proof: ends of partial functions, loops ===== -/
def wp {α : Type} (o : Option α) (P : α → Prop) : Prop := ∃ a, o = some a ∧ P a
section WPR
variable {α β σ τ : Type} {P Q : α → Prop} {o o1 o2 : Option α}
theorem wp_some {a : α} (h : P a) : wp (some a) P := ⟨a, rfl, h⟩
theorem wp_eq {a : α} (e : o = some a) (h : P a) : wp o P := ⟨a, e, h⟩
theorem wp_is {a : α} (h : wp o (fun b => b = a)) : o = some a := by obtain ⟨b, e, rfl⟩ := h; exact e
theorem wp_q (e : o = o1) (h : wp o1 P) : wp o P := by rw [e]; exact h
theorem wp_bind {q : Option β} {g : β → Option α} (h : wp q (fun b => wp (g b) P)) : wp (q.bind g) P := by
  obtain ⟨b, rfl, h⟩ := h; exact h
theorem wp_bd2 {q : Option (β × KS)} {g : β → KS → Option α} (h : wp q (fun b => wp (g b.1 b.2) P)) : wp (bd2 q g) P := by
  obtain ⟨b, rfl, h⟩ := h; exact h
theorem wp_nm {v : β} {g : β → Option α} (h : wp (g v) P) : wp (nm v g) P := h
theorem wp_jn {K : β → Option α} {B : (β → Option α) → Option α} (h : wp (B K) P) : wp (jn K B) P := h
theorem wp_mono (h : wp o P) (k : ∀ a, P a → Q a) : wp o Q := by obtain ⟨a, e, h⟩ := h; exact ⟨a, e, k a h⟩
theorem wp_pos {c : Prop} {dec : Decidable c} (hc : c) (h : wp o1 P) : wp (@ite _ c dec o1 o2) P := by rw [if_pos hc]; exact h
theorem wp_neg {c : Prop} {dec : Decidable c} (hc : ¬ c) (h : wp o2 P) : wp (@ite _ c dec o1 o2) P := by rw [if_neg hc]; exact h
theorem wp_ite {c : Prop} {dec : Decidable c} (h1 : c → wp o1 P) (h2 : ¬ c → wp o2 P) : wp (@ite _ c dec o1 o2) P := by
  by_cases hc : c
  · rw [if_pos hc]; exact h1 hc
  · rw [if_neg hc]; exact h2 hc
/-- a loop by a measure that falls -/
theorem wp_lp {body : (σ → Option α) → (τ → Option α) → σ → Option α} {k : τ → Option α} (I : Nat → σ → Prop) (h : ∀ n s (rec : σ → Option α), I n s → (∀ m s', m < n → I m s' → wp (rec s') P) → wp (body rec k s) P) : ∀ (N n : Nat) (s : σ), n < N → I n s → wp (lp body k N s) P := by
  intro N
  induction N with
  | zero => intro n s hn; exact absurd hn (Nat.not_lt_zero _)
  | succ N ih =>
    intro n s hn hI
    rw [lp_s]
    exact h n s _ hI (fun m s' hm hI' => ih m s' (by omega) hI')
/-- a loop that counts up to e -/
theorem wp_for {body : (σ → Option α) → (τ → Option α) → σ → Option α} {k : τ → Option α} (e : Nat) (I : Nat → σ → Prop) (h : ∀ i s (rec : σ → Option α), i ≤ e → I i s → (∀ s', i < e → I (i + 1) s' → wp (rec s') P) → wp (body rec k s) P) {N i : Nat} (hN : e < N) {s : σ} (hi : i ≤ e) (h0 : I i s) : wp (lp body k N s) P := by
  refine wp_lp (fun n s => ∃ i, i ≤ e ∧ n + i = e ∧ I i s) (fun n s rec hI hrec => ?_) N (e - i) s (by omega) ⟨i, hi, by omega, h0⟩
  obtain ⟨i, hi, hn, hI⟩ := hI
  exact h i s rec hi hI (fun s' hlt hI' => hrec (n - 1) s' (by omega) ⟨i + 1, by omega, by omega, hI'⟩)
end WPR
/-! ===== numbers ===== -/
theorem li0 : (0 : Int32) = nI 0 := rfl
theorem li1 : (1 : Int32) = nI 1 := rfl
theorem li2 : (2 : Int32) = nI 2 := rfl
theorem li3 : (3 : Int32) = nI 3 := rfl
theorem li4 : (4 : Int32) = nI 4 := rfl
theorem li5 : (5 : Int32) = nI 5 := rfl
theorem li6 : (6 : Int32) = nI 6 := rfl
theorem li8 : (8 : Int32) = nI 8 := rfl
theorem li9 : (9 : Int32) = nI 9 := rfl
theorem li10 : (10 : Int32) = nI 10 := rfl
theorem li11 : (11 : Int32) = nI 11 := rfl
theorem li20 : (20 : Int32) = nI 20 := rfl
theorem li21 : (21 : Int32) = nI 21 := rfl
theorem li24 : (24 : Int32) = nI 24 := rfl
theorem li32 : (32 : Int32) = nI 32 := rfl
theorem li33 : (33 : Int32) = nI 33 := rfl
theorem li36 : (36 : Int32) = nI 36 := rfl
theorem li37 : (37 : Int32) = nI 37 := rfl
theorem li40 : (40 : Int32) = nI 40 := rfl
theorem li43 : (43 : Int32) = nI 43 := rfl
theorem li45 : (45 : Int32) = nI 45 := rfl
theorem li48 : (48 : Int32) = nI 48 := rfl
theorem li53 : (53 : Int32) = nI 53 := rfl
theorem li54 : (54 : Int32) = nI 54 := rfl
theorem li57 : (57 : Int32) = nI 57 := rfl
theorem li59 : (59 : Int32) = nI 59 := rfl
theorem li60 : (60 : Int32) = nI 60 := rfl
theorem li61 : (61 : Int32) = nI 61 := rfl
theorem li63 : (63 : Int32) = nI 63 := rfl
theorem li84 : (84 : Int32) = nI 84 := rfl
theorem li97 : (97 : Int32) = nI 97 := rfl
theorem li100 : (100 : Int32) = nI 100 := rfl
theorem li102 : (102 : Int32) = nI 102 := rfl
theorem li114 : (114 : Int32) = nI 114 := rfl
theorem li120 : (120 : Int32) = nI 120 := rfl
theorem li122 : (122 : Int32) = nI 122 := rfl
theorem li216 : (216 : Int32) = nI 216 := rfl
theorem li217 : (217 : Int32) = nI 217 := rfl
theorem li257 : (257 : Int32) = nI 257 := rfl
theorem li300 : (300 : Int32) = nI 300 := rfl
theorem li1296 : (1296 : Int32) = nI 1296 := rfl
theorem li1799 : (1799 : Int32) = nI 1799 := rfl
theorem li2056 : (2056 : Int32) = nI 2056 := rfl
theorem nI_subN {a b : Nat} (h : b ≤ a) : nI a - nI b = nI (a - b) := by
  have : nI a = nI (a - b) + nI b := by rw [nI_add, Nat.sub_add_cancel h]
  rw [this, Int32.add_sub_cancel]
theorem jremN {a b : Nat} (ha : a < 2 ^ 31) (h0 : 0 < b) (hb : b < 2 ^ 31) : jrem (nI a) (nI b) = nI (a % b) := pk_rem ha h0 hb
theorem inb_N {i n : Nat} (hi : i < 2 ^ 31) : inb (nI i) n ↔ i < n := by
  have h0 := nI_pos hi
  unfold inb
  rw [nI_clamp hi]
  constructor
  · intro h
    exact Nat.not_le.mp (fun z => h (Or.inr z))
  · intro h z
    rcases z with z | z
    · exact h0 z
    · omega
def bI (b : Bool) : Int32 := if b then nI 1 else nI 0
theorem bI_t : bI true = nI 1 := rfl
theorem bI_f : bI false = nI 0 := rfl
theorem bI_0 {b : Bool} : bI b = nI 0 ↔ b = false := by cases b <;> decide
theorem bI_B (b : Bool) : isB (bI b) := by cases b <;> decide
theorem bI_N (b : Bool) : bI b = nI b.toNat := by cases b <;> rfl
theorem isB_0 : isB (nI 0) := Or.inl rfl
theorem isB_1 : isB (nI 1) := Or.inr rfl
theorem jmaxN {a b : Nat} (ha : a < 2 ^ 31) (hb : b < 2 ^ 31) : jmax (nI a) (nI b) = nI (max a b) := by
  unfold jmax
  by_cases h : a < b
  · rw [if_pos ((nI_ltI ha hb).mpr h), Nat.max_eq_right (by omega)]
  · rw [if_neg (fun z => h ((nI_ltI ha hb).mp z)), Nat.max_eq_left (by omega)]
theorem jminN {a b : Nat} (ha : a < 2 ^ 31) (hb : b < 2 ^ 31) : jmin (nI a) (nI b) = nI (min a b) := by
  unfold jmin
  by_cases h : b < a
  · rw [if_pos ((nI_ltI hb ha).mpr h), Nat.min_eq_right (by omega)]
  · rw [if_neg (fun z => h ((nI_ltI hb ha).mp z)), Nat.min_eq_left (by omega)]
theorem if_bI {b : Bool} {α : Type} {x y : α} : (if bI b = nI 0 then x else y) = if b then y else x := by cases b <;> rfl
/-! ===== six bits ===== -/
def m6n (f : Nat → Bool) : Nat := (f 0).toNat + 2 * (f 1).toNat + 4 * (f 2).toNat + 8 * (f 3).toNat + 16 * (f 4).toNat + 32 * (f 5).toNat
def m6 (f : Nat → Bool) : Int32 := nI (m6n f)
def m6b (a b c d e g : Bool) : Int32 := nI (a.toNat + 2 * b.toNat + 4 * c.toNat + 8 * d.toNat + 16 * e.toNat + 32 * g.toNat)
theorem m6_b (f : Nat → Bool) : m6 f = m6b (f 0) (f 1) (f 2) (f 3) (f 4) (f 5) := rfl
theorem m6_cong {f g : Nat → Bool} (h : ∀ j, j < 6 → f j = g j) : m6 f = m6 g := by
  rw [m6_b, m6_b, h 0 (by decide), h 1 (by decide), h 2 (by decide), h 3 (by decide), h 4 (by decide), h 5 (by decide)]
theorem m6_bt0 : ∀ (a b c d e g : Bool) (i : Fin 32), bt (m6b a b c d e g) i.val = match i.val with | 0 => a | 1 => b | 2 => c | 3 => d | 4 => e | 5 => g | _ => false := by decide +kernel
theorem m6_bt (f : Nat → Bool) {i : Nat} (hi : i < 32) : bt (m6 f) i = (decide (i < 6) && f i) := by
  rw [m6_b, m6_bt0 _ _ _ _ _ _ ⟨i, hi⟩]
  match i, hi with
  | 0, _ => rfl
  | 1, _ => rfl
  | 2, _ => rfl
  | 3, _ => rfl
  | 4, _ => rfl
  | 5, _ => rfl
  | i + 6, _ =>
    rw [decide_eq_false (by omega)]
    rfl
theorem m6_inj {f g : Nat → Bool} : m6 f = m6 g ↔ ∀ j, j < 6 → f j = g j := by
  refine ⟨fun h j hj => ?_, m6_cong⟩
  have h1 := congrArg (fun x => bt x j) h
  simp only [m6_bt f (show j < 32 by omega), m6_bt g (show j < 32 by omega), decide_eq_true hj, Bool.true_and] at h1
  exact h1
theorem m6_or (f g : Nat → Bool) : m6 f ||| m6 g = m6 (fun j => f j || g j) := by
  refine b_ext fun i hi => ?_
  rw [b_or, m6_bt _ hi, m6_bt _ hi, m6_bt _ hi]
  cases decide (i < 6) <;> simp
theorem m6_and (f g : Nat → Bool) : m6 f &&& m6 g = m6 (fun j => f j && g j) := by
  refine b_ext fun i hi => ?_
  rw [b_and, m6_bt _ hi, m6_bt _ hi, m6_bt _ hi]
  cases decide (i < 6) <;> simp
theorem m6_andn (f g : Nat → Bool) : m6 f &&& (m6 g ^^^ (-nI 1)) = m6 (fun j => f j && !g j) := by
  refine b_ext fun i hi => ?_
  rw [b_and, b_xor, show bt (-nI 1) i = true from b_m1 i hi, m6_bt _ hi, m6_bt _ hi, m6_bt _ hi]
  cases decide (i < 6) <;> simp
theorem m6_1 : ∀ j : Fin 6, jshl (nI 1) (nI j.val) = m6 (fun i => i == j.val) := by decide +kernel
theorem m6_one {j : Nat} (h : j < 6) : jshl (nI 1) (nI j) = m6 (fun i => i == j) := m6_1 ⟨j, h⟩
theorem m6_63 : nI 63 = m6 (fun _ => true) := by decide
theorem m6_zero : nI 0 = m6 (fun _ => false) := by decide
theorem m6_z1 : nI 1 = m6 (fun j => j == 0) := by decide
theorem m6_eq0 {f : Nat → Bool} : m6 f = nI 0 ↔ ∀ j, j < 6 → f j = false := by rw [m6_zero, m6_inj]
theorem m6_t0 : ∀ (a b c d e g : Bool) (i : Fin 6), (jshr (m6b a b c d e g) (nI i.val) &&& nI 1) = bI (match i.val with | 0 => a | 1 => b | 2 => c | 3 => d | 4 => e | _ => g) := by decide +kernel
theorem m6_test (f : Nat → Bool) {j : Nat} (h : j < 6) : (jshr (m6 f) (nI j) &&& nI 1) = bI (f j) := by
  rw [m6_b, m6_t0 _ _ _ _ _ _ ⟨j, h⟩]
  match j, h with
  | 0, _ => rfl
  | 1, _ => rfl
  | 2, _ => rfl
  | 3, _ => rfl
  | 4, _ => rfl
  | 5, _ => rfl
theorem m6_c0 : ∀ (a b c d e g : Bool), fJ6_bitCount_0f7a4 (m6b a b c d e g) = nI (0 + (if a then 1 else 0) + (if b then 1 else 0) + (if c then 1 else 0) + (if d then 1 else 0) + (if e then 1 else 0) + (if g then 1 else 0)) := by decide +kernel
theorem m6_cnt (f : Nat → Bool) : fJ6_bitCount_0f7a4 (m6 f) = nI (fb_ct f 6) := by
  rw [m6_b, m6_c0]
  rfl
