/-! ===== texts: the reference reads them ===== -/
section RPA
variable {t : Nat → Nat} {ln : Nat} {N : KS}
def QN (t : Nat → Nat) (ln : Nat) (N : KS) (p : Nat) (w : Bool) : Prop := N.1 0 26 = nI ln ∧ N.1 0 27 = nI p ∧ N.1 0 28 = bI w ∧ ∀ j, j < ln → N.1 19 j = nI (t j)
def QX {α : Type} (t : Nat → Nat) (ln : Nat) (N : KS) (x : PR α) : Prop := QN t ln N x.1 x.2.isNone
def SGF (N N' : KS) : Prop := (∀ a, a ≠ 0 → N'.1 a = N.1 a) ∧ ∀ j, j ≠ 27 → j ≠ 28 → N'.1 0 j = N.1 0 j
theorem SGF.rf : SGF N N := ⟨fun _ _ => rfl, fun _ _ _ => rfl⟩
theorem SGF.tr {N1 N2 : KS} (h : SGF N N1) (k : SGF N1 N2) : SGF N N2 := ⟨fun a ha => (k.1 a ha).trans (h.1 a ha), fun j h1 h2 => (k.2 j h1 h2).trans (h.2 j h1 h2)⟩
theorem QN.s20 {p j : Nat} {w : Bool} {v : Int32} (h : QN t ln N p w) : QN t ln (kset N 20 j v) p w := ⟨by rw [kset_nc (by decide)]; exact h.1, by rw [kset_nc (by decide)]; exact h.2.1, by rw [kset_nc (by decide)]; exact h.2.2.1, fun q hq => by rw [kset_nc (by decide)]; exact h.2.2.2 q hq⟩
theorem rhere_eq {p lo hi : Nat} {w : Bool} (h : QN t ln N p w) (hp : p ≤ ln) (h60 : ln ≤ 60) (ht : ∀ j, j < ln → t j < 65536) (hlo : lo < 1000) (hhi : hi < 1000) : fX10_isHere N (nI lo) (nI hi) = some (bI (!w && decide (p < ln ∧ lo ≤ t p ∧ t p ≤ hi))) := by
  unfold fX10_isHere
  rw [h.1, h.2.1, h.2.2.1]
  cases w
  · refine wp_is (wp_pos rfl ?_)
    rcases Nat.lt_or_ge p ln with hlt | hge
    · have cp : N.1 19 (nI p).toNatClampNeg = nI (t p) := by rw [nI_clamp (by omega)]; exact h.2.2.2 p hlt
      have htb := ht p hlt
      refine wp_neg (nI_ge hlt (by omega)) (wp_pos ((inb_N (by omega)).mpr (by omega)) ?_)
      rw [cp]
      unfold fX10_in
      by_cases q1 : t p < lo
      · rw [if_pos (nI_lt q1 (by omega))]
        refine wp_pos rfl (wp_some ?_)
        rw [decide_eq_false (by omega)]; rfl
      · rw [if_neg (nI_nlt (show lo ≤ t p by omega) (by omega))]
        by_cases q2 : t p ≤ hi
        · rw [if_neg (nI_nlt q2 (by omega))]
          refine wp_neg ni1 (wp_some ?_)
          rw [decide_eq_true (by omega)]; rfl
        · rw [if_pos (nI_lt (show hi < t p by omega) (by omega))]
          refine wp_pos rfl (wp_some ?_)
          rw [decide_eq_false (by omega)]; rfl
    · refine wp_pos (nI_le hge (by omega)) (wp_some ?_)
      rw [decide_eq_false (by omega)]; rfl
  · rw [if_neg nb1]
    rfl
theorem sign_x {p lo hi n : Nat} {w : Bool} (h : QN t ln N p w) (hp : p ≤ ln) (h60 : ln ≤ 60) (ht : ∀ j, j < ln → t j < 65536) (hlo : lo < 1000) (hhi : hi < 1000) (hn : hi + 1 = lo + n) : wp (fX10_sign N (nI lo) (nI hi)) (fun b => SGF N b.2 ∧ ((w = false ∧ ∃ d, pS t ln lo n p = (p + 1, some d) ∧ b.1 = nI d ∧ QN t ln b.2 (p + 1) false) ∨ ((w = true ∨ pS t ln lo n p = (p, none)) ∧ QN t ln b.2 p true))) := by
  unfold fX10_sign
  rw [rhere_eq h hp h60 ht hlo hhi, h.2.2.1]
  refine wp_jn ?_
  have bad : (w = true ∨ pS t ln lo n p = (p, none)) → wp (fX10_sign_J22_5 N (nI lo) 1) (fun b => SGF N b.2 ∧ ((w = false ∧ ∃ d, pS t ln lo n p = (p + 1, some d) ∧ b.1 = nI d ∧ QN t ln b.2 (p + 1) false) ∨ ((w = true ∨ pS t ln lo n p = (p, none)) ∧ QN t ln b.2 p true))) := by
    intro hw
    unfold fX10_sign_J22_5
    refine wp_pos (Or.inr rfl) (wp_nm (wp_neg (by rw [kset_c, if_pos rfl]; decide) (wp_some ⟨⟨fun a ha => kset_nc ha, fun j h1 h2 => by rw [kset_c, if_neg h2]⟩, Or.inr ⟨hw, ?_⟩⟩)))
    exact ⟨by rw [kset_c, if_neg (by decide)]; exact h.1, by rw [kset_c, if_neg (by decide)]; exact h.2.1, by rw [kset_c, if_pos rfl]; rfl, fun q hq => by rw [kset_nc (by decide)]; exact h.2.2.2 q hq⟩
  cases w
  · refine wp_pos rfl (wp_bind (wp_some ?_))
    rcases pS_c (t := t) (ln := ln) lo n p with ⟨d, d1, d2, d3, d4⟩ | ⟨d1, d2⟩
    · rw [decide_eq_true (show p < ln ∧ lo ≤ t p ∧ t p ≤ hi by omega)]
      refine wp_neg nb1 ?_
      unfold fX10_sign_J22_5
      refine wp_pos (Or.inl rfl) (wp_nm (wp_pos (by rw [kset_c, if_pos rfl]) (wp_nm ?_)))
      have e27 : (kset N 0 28 0).1 0 27 = nI p := by rw [kset_c, if_neg (by decide)]; exact h.2.1
      rw [e27, show (nI p + 1 : Int32) = nI (p + 1) by rw [li1, nI_add]]
      have e27' : (kset (kset N 0 28 0) 0 27 (nI (p + 1))).1 0 27 = nI (p + 1) := by rw [kset_c, if_pos rfl]
      rw [e27', nI_pred]
      refine wp_pos ((inb_N (by omega)).mpr (by omega)) (wp_some ⟨⟨fun a ha => by rw [kset_nc ha, kset_nc ha], fun j h1 h2 => by rw [kset_c, if_neg h1, kset_c, if_neg h2]⟩, Or.inl ⟨rfl, d, d4, ?_, ?_⟩⟩)
      · show (kset (kset N 0 28 0) 0 27 (nI (p + 1))).1 19 (nI p).toNatClampNeg - nI lo = nI d
        rw [kset_nc (by decide), kset_nc (by decide), nI_clamp (by omega), h.2.2.2 p d2, d3, nI_subN (by omega), show lo + d - lo = d by omega]
      · exact ⟨by rw [kset_c, if_neg (by decide), kset_c, if_neg (by decide)]; exact h.1, e27', by rw [kset_c, if_neg (by decide), kset_c, if_pos rfl]; rfl, fun q hq => by rw [kset_nc (by decide), kset_nc (by decide)]; exact h.2.2.2 q hq⟩
    · rw [decide_eq_false (show ¬ (p < ln ∧ lo ≤ t p ∧ t p ≤ hi) by omega)]
      exact wp_pos rfl (bad (Or.inr d2))
  · exact wp_neg nb1 (bad (Or.inl rfl))
theorem sign_q {α : Type} {x : PR α} {lo hi n : Nat} (h : QX t ln N x) (hp : x.1 ≤ ln) (h60 : ln ≤ 60) (ht : ∀ j, j < ln → t j < 65536) (hlo : lo < 1000) (hhi : hi < 1000) (hn : hi + 1 = lo + n) : wp (fX10_sign N (nI lo) (nI hi)) (fun b => SGF N b.2 ∧ QX t ln b.2 (pb x (pS t ln lo n)) ∧ ∀ d, (pb x (pS t ln lo n)).2 = some d → b.1 = nI d) := by
  refine wp_mono (sign_x h hp h60 ht hlo hhi hn) ?_
  intro b ⟨h1, h2⟩
  refine ⟨h1, ?_⟩
  obtain ⟨p, v⟩ := x
  cases v with
  | none =>
    rcases h2 with ⟨z, _⟩ | ⟨_, h2⟩
    · exact absurd z (show ¬ true = false by decide)
    · exact ⟨h2, fun d hd => absurd hd (by show ¬ none = some d; simp)⟩
  | some v =>
    show QX t ln b.2 (pS t ln lo n p) ∧ ∀ d, (pS t ln lo n p).2 = some d → b.1 = nI d
    rcases h2 with ⟨_, d, d1, d2, d3⟩ | ⟨z, h2⟩
    · have d1 : pS t ln lo n p = (p + 1, some d) := d1
      rw [d1]
      exact ⟨d3, fun d' hd => by rw [d2, Option.some.inj hd]⟩
    · rcases z with z | z
      · exact absurd z (show ¬ false = true by decide)
      · have z : pS t ln lo n p = (p, none) := z
        rw [z]
        exact ⟨h2, fun d hd => absurd hd (by simp)⟩
theorem pb_le {α β : Type} {x : PR α} {f : Nat → PR β} (h : x.1 ≤ ln) (k : ∀ p, p ≤ ln → (f p).1 ≤ ln) : (pb x f).1 ≤ ln := by
  obtain ⟨p, v⟩ := x
  cases v with
  | none => exact h
  | some v => exact k p h
theorem pS_le {lo n p : Nat} (h : p ≤ ln) : (pS t ln lo n p).1 ≤ ln := (pS_b h).2
theorem pb_some {α β : Type} {x : PR α} {f : Nat → PR β} {v : β} (h : (pb x f).2 = some v) : ∃ u, x.2 = some u := by
  obtain ⟨p, w⟩ := x
  cases w with
  | none => exact absurd h (by show ¬ none = some v; simp)
  | some w => exact ⟨w, rfl⟩
theorem QX.m {α β : Type} {x : PR α} {f : α → β} (h : QX t ln N x) : QX t ln N ((x.1, x.2.map f) : PR β) := by
  obtain ⟨p, v⟩ := x
  cases v <;> exact h
theorem rcond_q {α : Type} {x : PR α} (h : QX t ln N x) (hp : x.1 ≤ ln) (h60 : ln ≤ 60) (ht : ∀ j, j < ln → t j < 65536) : wp (fX10_readCondition N) (fun b => SGF N b.2 ∧ QX t ln b.2 (pb x (pCond t ln)) ∧ ∀ c, (pb x (pCond t ln)).2 = some c → b.1 = c) := by
  unfold fX10_readCondition
  have tail : ∀ {ng : Bool} {v2 : Int32} {N3 : KS} {y : PR Unit}, SGF N N3 → QX t ln N3 y → y.1 ≤ ln → (∀ b3 v5 v7 v9, QX t ln b3 (pb (pb (pb y (pS t ln 48 6)) (pS t ln 120 3)) (pS t ln 120 3)) → (∀ d, (pb y (pS t ln 48 6)).2 = some d → v5 = nI d) → (∀ d, (pb (pb y (pS t ln 48 6)) (pS t ln 120 3)).2 = some d → v7 = nI d) → (∀ d, (pb (pb (pb y (pS t ln 48 6)) (pS t ln 120 3)) (pS t ln 120 3)).2 = some d → v9 = nI d) → QX t ln b3 (pb x (pCond t ln)) ∧ ∀ c, (pb x (pCond t ln)).2 = some c → (if ng then -(1 + 9 * v5 + 3 * v7 + v9) else 1 + 9 * v5 + 3 * v7 + v9) = c) → wp (fX10_readCondition_J25_10 (bI ng) (v2, N3)) (fun b => SGF N b.2 ∧ QX t ln b.2 (pb x (pCond t ln)) ∧ ∀ c, (pb x (pCond t ln)).2 = some c → b.1 = c) := by
    intro ng v2 N3 y hF hy hle fin
    rw [fX10_readCondition_J25_10_u]
    refine wp_bd2 (wp_mono (sign_q (lo := 48) (hi := 53) (n := 6) hy hle h60 ht (by decide) (by decide) rfl) ?_)
    rintro ⟨v5, N4⟩ ⟨f4, q4, g4⟩
    have f4 : SGF N3 N4 := f4
    have l4 := pb_le (f := pS t ln 48 6) hle (fun p hp => pS_le hp)
    refine wp_bd2 (wp_mono (sign_q (lo := 120) (hi := 122) (n := 3) q4 l4 h60 ht (by decide) (by decide) rfl) ?_)
    rintro ⟨v7, N6⟩ ⟨f6, q6, g6⟩
    have f6 : SGF N4 N6 := f6
    have l6 := pb_le (f := pS t ln 120 3) l4 (fun p hp => pS_le hp)
    refine wp_bd2 (wp_mono (sign_q (lo := 120) (hi := 122) (n := 3) q6 l6 h60 ht (by decide) (by decide) rfl) ?_)
    rintro ⟨v9, N8⟩ ⟨f8, q8, g8⟩
    have f8 : SGF N6 N8 := f8
    have hfin := fin N8 v5 v7 v9 q8 g4 g6 g8
    refine wp_nm ?_
    cases ng
    · exact wp_pos rfl (wp_some ⟨((hF.tr f4).tr f6).tr f8, hfin.1, hfin.2⟩)
    · exact wp_neg nb1 (wp_some ⟨((hF.tr f4).tr f6).tr f8, hfin.1, hfin.2⟩)
  obtain ⟨p, v⟩ := x
  have hp : p ≤ ln := hp
  cases v with
  | none =>
    have h : QN t ln N p true := h
    rw [show (33 : Int32) = nI 33 from rfl, rhere_eq h hp h60 ht (by decide) (by decide)]
    refine wp_bind (wp_some (wp_jn (wp_pos rfl ?_)))
    refine tail (ng := false) (y := (p, none)) SGF.rf h hp (fun b3 v5 v7 v9 q3 _ _ _ => ⟨q3, fun c hc => absurd hc (by show ¬ none = some c; simp)⟩)
  | some v =>
    have h : QN t ln N p false := h
    have fin : ∀ b3 v5 v7 v9, QX t ln b3 (pe3 t ln p) → (∀ d, (pe1 t ln p).2 = some d → v5 = nI d) → (∀ d, (pe2 t ln p).2 = some d → v7 = nI d) → (∀ d, (pe3 t ln p).2 = some d → v9 = nI d) → QX t ln b3 (pb (p, some v) (pCond t ln)) ∧ ∀ c, (pb (p, some v) (pCond t ln)).2 = some c → (if isN t ln p then -(1 + 9 * v5 + 3 * v7 + v9) else 1 + 9 * v5 + 3 * v7 + v9) = c := by
      intro b3 v5 v7 v9 q3 g5 g7 g9
      refine ⟨QX.m q3, fun c hc => ?_⟩
      have hc : (pe3 t ln p).2.map (fun s => ccd (isN t ln p) ((pe1 t ln p).2.getD 0) ((pe2 t ln p).2.getD 0) s) = some c := hc
      cases e3 : (pe3 t ln p).2 with
      | none => rw [e3] at hc; exact absurd hc (by simp)
      | some s =>
        rw [e3] at hc
        obtain ⟨f, e2⟩ := pb_some (x := pe2 t ln p) e3
        obtain ⟨r, e1⟩ := pb_some (x := pe1 t ln p) e2
        rw [e2, e1] at hc
        rw [g5 r e1, g7 f e2, g9 s e3, ← Option.some.inj hc]
        show _ = ccd (isN t ln p) r f s
        unfold ccd
        rw [li9, pk_mul, li1, nI_add, li3, pk_mul, nI_add, nI_add]
    rw [show (33 : Int32) = nI 33 from rfl, rhere_eq h hp h60 ht (by decide) (by decide)]
    refine wp_bind (wp_some (wp_jn ?_))
    by_cases q : p < ln ∧ t p = 33
    · have hN : isN t ln p = true := decide_eq_true q
      rw [hN] at fin
      have h0 : pe0 t ln p = p + 1 := by unfold pe0; rw [hN, if_pos rfl]
      rw [decide_eq_true (show p < ln ∧ 33 ≤ t p ∧ t p ≤ 33 by omega)]
      refine wp_neg nb1 (wp_bd2 (wp_mono (sign_x (lo := 33) (hi := 33) (n := 1) h hp h60 ht (by decide) (by decide) rfl) ?_))
      rintro ⟨v12, N11⟩ ⟨f11, h11⟩
      have f11 : SGF N N11 := f11
      rcases h11 with ⟨_, d, d1, d2, d3⟩ | ⟨z, _⟩
      · refine tail (ng := true) (y := (p + 1, some ())) f11 d3 (show p + 1 ≤ ln by omega) ?_
        have hh : ∀ b3 v5 v7 v9, QX t ln b3 (pe3 t ln p) → (∀ d, (pe1 t ln p).2 = some d → v5 = nI d) → (∀ d, (pe2 t ln p).2 = some d → v7 = nI d) → (∀ d, (pe3 t ln p).2 = some d → v9 = nI d) → _ := fin
        unfold pe3 pe2 pe1 at hh
        rw [h0] at hh
        exact hh
      · rcases z with z | z
        · exact absurd z (by decide)
        · rcases pS_c (t := t) (ln := ln) 33 1 p with ⟨d, d1, d2, d3, d4⟩ | ⟨d1, d2⟩
          · rw [d4] at z; exact absurd (Prod.mk.inj z).2 (by simp)
          · omega
    · have hN : isN t ln p = false := decide_eq_false q
      rw [hN] at fin
      have h0 : pe0 t ln p = p := by unfold pe0; rw [hN, if_neg (by decide)]
      rw [decide_eq_false (show ¬ (p < ln ∧ 33 ≤ t p ∧ t p ≤ 33) by omega)]
      refine wp_pos rfl (tail (ng := false) (y := (p, some ())) SGF.rf h hp ?_)
      have hh : ∀ b3 v5 v7 v9, QX t ln b3 (pe3 t ln p) → (∀ d, (pe1 t ln p).2 = some d → v5 = nI d) → (∀ d, (pe2 t ln p).2 = some d → v7 = nI d) → (∀ d, (pe3 t ln p).2 = some d → v9 = nI d) → _ := fin
      unfold pe3 pe2 pe1 at hh
      rw [h0] at hh
      exact hh
end RPA
