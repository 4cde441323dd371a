/-! ===== class and reference side by side ===== -/
abbrev ST : Type := (Nat → Bool) × RS
/-- a state in the class, in a row of the reference -/
def KT (M : KS) (f : Nat) (s : ST) : Prop := FA M f s.1 ∧ RA M f s.2
def MDs (f : Nat → Int32) (s : ST) : Prop := MD f s.1 s.2
def SETD (M : KS) (s : ST) : Prop := M.1 106 9 = nI 0 ∨ (M.1 106 9 = nI 1 ∧ ∃ A, KD M s.1 s.2 A)
def pix (nx c i : Nat) : Nat := 2 + (nx + 9 - (c - i)) % 9
def PST (M N : KS) (H : Nat → ST) (c nx : Nat) : Prop := c ≤ 8 ∧ nx < 9 ∧ M.1 113 1 = nI nx ∧ M.1 113 2 = nI c ∧ N.1 0 5 = nI c ∧ ∀ i, i < c → OKR (H i).2 ∧ KT M (pix nx c i) (H i) ∧ MDs (fun k => N.1 4 (257 * i + k)) (H i)
def SVD (M N : KS) (sv : ST) : Prop := (M.1 121 8 = nI 0 ∧ N.1 0 3 = nI 0) ∨ (M.1 121 8 = nI 1 ∧ N.1 0 3 = nI 1 ∧ OKR sv.2 ∧ KT M 1 sv ∧ MDs (N.1 3) sv)
def TXT (M N : KS) (ln : Nat) : Prop := ln ≤ 60 ∧ M.1 115 3 = nI ln ∧ N.1 0 26 = nI ln ∧ ∀ j, j < ln → ∃ c, c < 65536 ∧ M.1 116 j = nI c ∧ N.1 19 j = nI c
def LIN (M N : KS) (ll : Nat) : Prop := ll ≤ 24 ∧ M.1 119 1 = nI ll ∧ N.1 0 24 = nI ll ∧ ∀ j, j < ll → N.1 18 j = M.1 120 j ∧ isC (M.1 120 j)
def SCA (M N : KS) : Prop := M.1 121 9 = N.1 0 29 ∧ M.1 121 10 = N.1 0 7 ∧ M.1 121 11 = N.1 0 8
def PSE (M N : KS) : Prop := ∃ H c nx, PST M N H c nx
def BGR (M N : KS) : Prop := PSE M N ∧ (∃ sv, SVD M N sv) ∧ (∃ ln, TXT M N ln) ∧ (∃ ll, LIN M N ll) ∧ SCA M N
def REL (M N : KS) : Prop := ∃ s : ST, OKR s.2 ∧ KT M 0 s ∧ MDs (N.1 1) s ∧ SETD M s ∧ BGR M N
/-- what questions may change -/
abbrev cQ : Nat → Prop := fun a => (34 ≤ a ∧ a ≤ 44) ∨ (100 ≤ a ∧ a ≤ 110)
abbrev kp (j : Nat) : Prop := j = 3 ∨ j = 5 ∨ j = 7 ∨ j = 8 ∨ j = 24 ∨ j = 26 ∨ j = 29
def NF (N N' : KS) : Prop := (∀ a, (a = 3 ∨ a = 4 ∨ a = 18 ∨ a = 19) → N'.1 a = N.1 a) ∧ ∀ j, kp j → N'.1 0 j = N.1 0 j
theorem NF.rf {N : KS} : NF N N := ⟨fun _ _ => rfl, fun _ _ => rfl⟩
theorem NF.tr {N N1 N2 : KS} (h : NF N N1) (k : NF N1 N2) : NF N N2 := ⟨fun a ha => (k.1 a ha).trans (h.1 a ha), fun j hj => (k.2 j hj).trans (h.2 j hj)⟩
theorem FR.nf {P : Nat → Prop} {N N' : KS} (h : FR P N N') (h0 : ¬ P 0) (h3 : ¬ P 3) (h4 : ¬ P 4) (h18 : ¬ P 18) (h19 : ¬ P 19) : NF N N' := ⟨fun a ha => h.1 a (by rcases ha with rfl | rfl | rfl | rfl <;> assumption), fun j _ => congrFun (h.1 0 h0) j⟩
theorem NF.t {N : KS} {j : Nat} {v : Int32} (hj : ¬ kp j) : NF N (kset N 0 j v) := ⟨fun a ha => kset_nc (by rcases ha with rfl | rfl | rfl | rfl <;> decide), fun q hq => by rw [kset_c, if_neg (fun z => hj (by rw [← z]; exact hq))]⟩
section REL1
variable {M M' N N' : KS} {s : ST} {P : Nat → Prop}
theorem KT.fq {f : Nat} (h : KT M f s) (k : FQ P M M') (h1 : ¬ P (iFt f)) (h2 : ¬ P (iFf f)) (h3 : ¬ P (iR f)) (h4 : ¬ P (iRh f)) (h5 : ¬ P (iRc f)) (h6 : ¬ P (iRa f)) : KT M' f s := ⟨h.1.fq k h1 h2, h.2.fq k h3 h4 h5 h6⟩
theorem KT.cq {f : Nat} (h : KT M f s) (hf : f ≤ 10) (k : FQ cQ M M') : KT M' f s := h.fq k (by unfold iFt; omega) (by unfold iFf; omega) (by unfold iR; omega) (by unfold iRh; omega) (by unfold iRc; omega) (by unfold iRa; omega)
theorem pix_le (nx c i : Nat) : pix nx c i ≤ 10 := by unfold pix; omega
theorem MDs.cong {f g : Nat → Int32} (h : MDs f s) (hn : s.2.1 ≤ 10) (e : ∀ k, k < 257 → f k = g k) : MDs g s := by
  refine ⟨fun k hk => by rw [← e k (by omega)]; exact h.1 k hk, by rw [← e 216 (by decide)]; exact h.2.1, fun r hr => ?_⟩
  have h3 := h.2.2 r hr
  rw [← e _ (by omega)]
  refine ⟨h3.1, fun j hj => ?_⟩
  rw [← e _ (by omega)]
  exact h3.2 j hj
theorem BGR.q (h : BGR M N) (k : FQ cQ M M') (n : NF N N') : BGR M' N' := by
  obtain ⟨⟨H, c, nx, hp⟩, ⟨sv, hs⟩, ⟨ln, ht⟩, ⟨ll, hl⟩, hc⟩ := h
  have e113 : M'.1 113 = M.1 113 := k 113 (by decide)
  have e115 : M'.1 115 = M.1 115 := k 115 (by decide)
  have e116 : M'.1 116 = M.1 116 := k 116 (by decide)
  have e119 : M'.1 119 = M.1 119 := k 119 (by decide)
  have e120 : M'.1 120 = M.1 120 := k 120 (by decide)
  have e121 : M'.1 121 = M.1 121 := k 121 (by decide)
  have n3 := n.1 3 (by decide)
  have n4 := n.1 4 (by decide)
  have n18 := n.1 18 (by decide)
  have n19 := n.1 19 (by decide)
  refine ⟨⟨H, c, nx, hp.1, hp.2.1, by rw [e113]; exact hp.2.2.1, by rw [e113]; exact hp.2.2.2.1, by rw [n.2 5 (by decide)]; exact hp.2.2.2.2.1, fun i hi => ?_⟩, ⟨sv, ?_⟩, ⟨ln, ht.1, by rw [e115]; exact ht.2.1, by rw [n.2 26 (by decide)]; exact ht.2.2.1, fun j hj => by rw [e116, n19]; exact ht.2.2.2 j hj⟩, ⟨ll, hl.1, by rw [e119]; exact hl.2.1, by rw [n.2 24 (by decide)]; exact hl.2.2.1, fun j hj => by rw [e120, n18]; exact hl.2.2.2 j hj⟩, by rw [e121, n.2 29 (by decide)]; exact hc.1, by rw [e121, n.2 7 (by decide)]; exact hc.2.1, by rw [e121, n.2 8 (by decide)]; exact hc.2.2⟩
  · have hh := hp.2.2.2.2.2 i hi
    refine ⟨hh.1, hh.2.1.cq (pix_le _ _ _) k, ?_⟩
    rw [n4]
    exact hh.2.2
  · rcases hs with hs | hs
    · exact Or.inl ⟨by rw [e121]; exact hs.1, by rw [n.2 3 (by decide)]; exact hs.2⟩
    · exact Or.inr ⟨by rw [e121]; exact hs.1, by rw [n.2 3 (by decide)]; exact hs.2.1, hs.2.2.1, hs.2.2.2.1.cq (by decide) k, by rw [n3]; exact hs.2.2.2.2⟩
theorem REL.q (h1 : OKR s.2) (h2 : KT M 0 s) (h5 : BGR M N) (k : FQ cQ M M') (h4 : SETD M' s) (n : NF N N') (h3 : MDs (N'.1 1) s) : REL M' N' := ⟨s, h1, h2.cq (by decide) k, h3, h4, h5.q k n⟩
end REL1
/-! a step of the law -/
section SIM
variable {α : Type} {P : α → Prop} {G : LST → Option α}
theorem sim (f : Int32 → Int64) {oK : Option (Int32 × KS × Int64)} {oN : Option (Int32 × KS)} {d : UInt64} (h : wp oK (fun ya => wp oN (fun yb => yb.2.1 0 6 = ya.1 ∧ (ya.1 = 0 → ya.2.2 = f yb.1) ∧ REL ya.2.1 yb.2))) (hG : ∀ M' N' v' d', REL M' N' → wp (G (M', N', v', d')) P) : wp (oK.bind fun ya1 => oN.bind fun yb2 => (if (fX10_thrown yb2.2) = ya1.1 then (if ya1.1 = 0 then (if ya1.2.2 = f yb2.1 then G (ya1.2.1, yb2.2, ya1.2.2, d) else none) else G (ya1.2.1, yb2.2, ya1.2.2, d)) else none)) P := by
  refine wp_bind (wp_mono h ?_)
  intro ya hya
  refine wp_bind (wp_mono hya ?_)
  intro yb ⟨h1, h2, h3⟩
  refine wp_pos h1 ?_
  by_cases h0 : ya.1 = 0
  · exact wp_pos h0 (wp_pos (h2 h0) (hG _ _ _ _ h3))
  · exact wp_neg h0 (hG _ _ _ _ h3)
/-- a question's answer in the class: a code of an exception, or a value -/
def CQ (M : KS) (s : ST) (q : Sum Nat Int32) (r : Sum (Nat × KS) (Int32 × KS)) : Prop := match q with
  | .inl e => ∃ M', r = .inl (e, M') ∧ FQ cQ M M' ∧ SETD M' s
  | .inr v => ∃ M', r = .inr (v, M') ∧ FQ cQ M M' ∧ SETD M' s
/-- a question's answer in the reference -/
def NQ (N : KS) (s : ST) (t : Int32) (v : Int32) (b : Int32 × KS) : Prop := b.2.1 0 6 = t ∧ (t = 0 → b.1 = v) ∧ NF N b.2 ∧ MDs (b.2.1 1) s
theorem CQ.inl {M M' : KS} {s : ST} {e : Nat} (h : FQ cQ M M') (k : SETD M' s) : CQ M s (.inl e) (.inl (e, M')) := ⟨M', rfl, h, k⟩
theorem CQ.inr {M M' : KS} {s : ST} {v : Int32} (h : FQ cQ M M') (k : SETD M' s) : CQ M s (.inr v) (.inr (v, M')) := ⟨M', rfl, h, k⟩
end SIM
/-! numbers of facts, relations -/
theorem i32_nat {a : Int32} (h : 0 ≤ a.toInt) : a = nI a.toInt.toNat ∧ a.toInt.toNat < 2 ^ 31 := by
  have h2 := Int32.toInt_lt a
  refine ⟨?_, by omega⟩
  apply Int32.toInt_inj.mp
  rw [nI_toInt (by omega)]
  omega
theorem in_cases (a : Int32) (n : Nat) (hn : n < 2 ^ 31) : (∃ k, k < n ∧ a = nI k) ∨ (a < nI 0 ∨ ¬ a < nI 0 ∧ nI n ≤ a) := by
  by_cases h : 0 ≤ a.toInt
  · have h1 := i32_nat h
    rcases Nat.lt_or_ge a.toInt.toNat n with q | q
    · exact Or.inl ⟨_, q, h1.1⟩
    · refine Or.inr (Or.inr ⟨?_, ?_⟩)
      · rw [fa_lt, nI_toInt (by decide)]; omega
      · rw [fa_le, nI_toInt hn]; omega
  · refine Or.inr (Or.inl ?_)
    rw [fa_lt, nI_toInt (by decide)]; omega
theorem le_lt {a : Int32} {n : Nat} (hn : n + 1 < 2 ^ 31) (h : nI (n + 1) ≤ a) : nI n < a := by
  rw [fa_le, nI_toInt hn] at h
  rw [fa_lt, nI_toInt (by omega)]
  omega
theorem rin_y {k n : Nat} (hk : k < n + 1) (hn : n + 1 < 2 ^ 31) : fX10_in (nI k) (nI 0) (nI n) = 1 := by
  unfold fX10_in
  rw [if_neg (fun z => (nI_lt0 (by omega)).mp z), if_neg (fun z => by rw [nI_ltI (by omega) (by omega)] at z; omega)]
theorem rin_n {a : Int32} {n : Nat} (hn : n + 1 < 2 ^ 31) (h : a < nI 0 ∨ ¬ a < nI 0 ∧ nI (n + 1) ≤ a) : fX10_in a (nI 0) (nI n) = 0 := by
  unfold fX10_in
  rcases h with h | ⟨h, h2⟩
  · rw [if_pos h]
  · rw [if_neg h, if_pos (le_lt hn h2)]
theorem krel_y {k : Nat} (hk : k < 6) : fX9_isRelation (nI k) = 1 ∧ fX9_isPerson (nI k) = 1 ∧ fX10_isRelation (nI k) = some 1 ∧ fX10_isPerson (nI k) = some 1 := by
  have h1 : ¬ (nI k < 0) := fun z => (nI_lt0 (by omega)).mp z
  have h2 : ¬ (6 ≤ nI k) := fun z => by rw [li6, nI_leI (by decide) (by omega)] at z; omega
  have h3 : fX10_in (nI k) 0 5 = 1 := rin_y (n := 5) hk (by decide)
  unfold fX9_isRelation fX9_isPerson fX10_isRelation fX10_isPerson
  rw [if_neg h1, if_neg h2, h3, if_pos (show isB 1 from Or.inr rfl)]
  exact ⟨rfl, rfl, rfl, rfl⟩
theorem krel_n {a : Int32} (h : a < nI 0 ∨ ¬ a < nI 0 ∧ nI 6 ≤ a) : fX9_isRelation a = 0 ∧ fX9_isPerson a = 0 ∧ fX10_isRelation a = some 0 ∧ fX10_isPerson a = some 0 := by
  have h3 : fX10_in a 0 5 = 0 := rin_n (n := 5) (by decide) h
  unfold fX9_isRelation fX9_isPerson fX10_isRelation fX10_isPerson
  rw [h3, if_pos (show isB 0 from Or.inl rfl)]
  rcases h with h | ⟨h, h2⟩
  · rw [if_pos (show a < 0 from h)]
    exact ⟨rfl, rfl, rfl, rfl⟩
  · rw [if_neg (show ¬ a < 0 from h), if_pos (show 6 ≤ a from h2)]
    exact ⟨rfl, rfl, rfl, rfl⟩
theorem fact_cases (a1 a2 a3 : Int32) : (∃ r x y, r < 6 ∧ x < 6 ∧ y < 6 ∧ a1 = nI r ∧ a2 = nI x ∧ a3 = nI y) ∨ (fX9_isFact a1 a2 a3 = 0 ∧ fX10_isFact a1 a2 a3 = some 0) := by
  unfold fX9_isFact fX10_isFact
  rcases in_cases a1 6 (by decide) with ⟨r, hr, rfl⟩ | h1
  · rcases in_cases a2 6 (by decide) with ⟨x, hx, rfl⟩ | h2
    · rcases in_cases a3 6 (by decide) with ⟨y, hy, rfl⟩ | h3
      · exact Or.inl ⟨r, x, y, hr, hx, hy, rfl, rfl, rfl⟩
      · have k1 := krel_y hr
        have k2 := krel_y hx
        have k3 := krel_n h3
        refine Or.inr ?_
        rw [k1.1, k2.2.1, k3.2.1, k1.2.2.1, k2.2.2.2, k3.2.2.2]
        exact ⟨rfl, rfl⟩
    · have k1 := krel_y hr
      have k2 := krel_n h2
      refine Or.inr ?_
      rw [k1.1, k2.2.1, k1.2.2.1, k2.2.2.2]
      exact ⟨rfl, rfl⟩
  · have k1 := krel_n h1
    refine Or.inr ?_
    rw [k1.1, k1.2.2.1]
    exact ⟨rfl, rfl⟩
theorem fact_y {r x y : Nat} (hr : r < 6) (hx : x < 6) (hy : y < 6) : fX9_isFact (nI r) (nI x) (nI y) = 1 ∧ fX10_isFact (nI r) (nI x) (nI y) = some 1 := by
  have k1 := krel_y hr
  have k2 := krel_y hx
  have k3 := krel_y hy
  unfold fX9_isFact fX10_isFact
  rw [k1.1, k2.2.1, k3.2.1, k1.2.2.1, k2.2.2.2, k3.2.2.2]
  exact ⟨rfl, rfl⟩
theorem rfact_eq {r x y : Nat} : fX10_fact (nI r) (nI x) (nI y) = nI (36 * r + 6 * x + y) := by
  unfold fX10_fact
  simp (disch := omega) only [li0, li1, li2, li3, li4, li5, li6, li8, li9, li10, li11, li20, li21, li24, li32, li33, li36, li37, li40, li43, li45, li48, li53, li54, li57, li59, li60, li61, li63, li84, li97, li100, li102, li114, li120, li122, li216, li217, li257, li300, li1296, li1799, li2056, nI_add, pk_mul, nI_subN, pk_div, jremN, nI_leI, nI_ltI, nI_eq, nI_clamp, inb_N, if_pos, if_neg, if_true, if_false, nm, jn, bd2, Option.bind_some]
