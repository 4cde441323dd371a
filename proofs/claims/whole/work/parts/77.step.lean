/-! ===== the law's loop: law_ok ===== -/
section GLP
variable {α : Type} {P : α → Prop} {G : LST → Option α} {M N : KS} {v : Int64} {d : UInt64} {xs : Nat → Int32} {i : Nat}
theorem g_step (h : REL M N) (hG : ∀ M' N' v' d', REL M' N' → wp (G (M', N', v', d')) P) : wp (gStep xs i (M, N, v, d) G) P := by
  unfold gStep
  exact wp_ite (fun _ => g_0 h hG) (fun _ => wp_ite (fun _ => g_1 h hG) (fun _ => wp_ite (fun _ => g_2 h hG) (fun _ => wp_ite (fun _ => g_3 h hG) (fun _ => wp_ite (fun _ => g_4 h hG) (fun _ => wp_ite (fun _ => g_5 h hG) (fun _ => wp_ite (fun _ => g_6 h hG) (fun _ => wp_ite (fun _ => g_7 h hG) (fun _ => wp_ite (fun _ => g_8 h hG) (fun _ => wp_ite (fun _ => g_9 h hG) (fun _ => wp_ite (fun _ => g_10 h hG) (fun _ => wp_ite (fun _ => g_11 h hG) (fun _ => wp_ite (fun _ => g_12 h hG) (fun _ => wp_ite (fun _ => g_13 h hG) (fun _ => wp_ite (fun _ => g_14 h hG) (fun _ => wp_ite (fun _ => g_15 h hG) (fun _ => wp_ite (fun _ => g_16 h hG) (fun _ => wp_ite (fun _ => g_17 h hG) (fun _ => wp_ite (fun _ => g_18 h hG) (fun _ => wp_ite (fun _ => g_19 h hG) (fun _ => wp_ite (fun _ => g_20 h hG) (fun _ => wp_ite (fun _ => g_21 h hG) (fun _ => wp_ite (fun _ => g_22 h hG) (fun _ => wp_ite (fun _ => g_23 h hG) (fun _ => wp_ite (fun _ => g_24 h hG) (fun _ => wp_ite (fun _ => g_25 h hG) (fun _ => wp_ite (fun _ => g_26 h hG) (fun _ => wp_ite (fun _ => g_27 h hG) (fun _ => wp_ite (fun _ => g_28 h hG) (fun _ => wp_ite (fun _ => g_29 h hG) (fun _ => wp_ite (fun _ => g_30 h hG) (fun _ => wp_ite (fun _ => g_31 h hG) (fun _ => wp_ite (fun _ => g_32 h hG) (fun _ => hG _ _ _ _ h)))))))))))))))))))))))))))))))))
theorem g_loop {L : Nat} : ∀ (n i : Nat) (M N : KS) (v : Int64) (d : UInt64), REL M N → L < i + 5 * (n + 1) → wp (gLoop xs L (n + 1) i (M, N, v, d)) (fun u => u = ())
  | 0, i, M, N, v, d, _, h0 => by
    show wp (if i + 5 ≤ L then gStep xs i (M, N, v, d) (fun y => gLoop xs L 0 (i + 5) y) else some ()) _
    exact wp_neg (by omega) (wp_some rfl)
  | n + 1, i, M, N, v, d, h, h0 => by
    show wp (if i + 5 ≤ L then gStep xs i (M, N, v, d) (fun y => gLoop xs L (n + 1) (i + 5) y) else some ()) _
    exact wp_ite (fun _ => g_step h (fun M' N' v' d' h' => g_loop n (i + 5) M' N' v' d' h' (by omega))) (fun _ => wp_some rfl)
end GLP
/-- the empty state -/
def s00 : ST := (fun _ => false, (0, fun _ => 0, fun _ _ => 0))
theorem rel_0 : REL M0 N0 := by
  have hm : ∀ a, a ≠ 121 → M0.1 a = fun _ => 0 := fun a ha => by
    show (if a = 121 then _ else fun _ => (0 : Int32)) = _
    rw [if_neg ha]
  have hn : ∀ a, a ≠ 0 → N0.1 a = fun _ => 0 := fun a ha => by
    show (if a = 0 then _ else fun _ => (0 : Int32)) = _
    rw [if_neg ha]
  have m121 : ∀ j, j ≠ 9 → M0.1 121 j = 0 := fun j hj => by
    show (if j = 9 then (-1 : Int32) else 0) = 0
    rw [if_neg hj]
  have n0 : ∀ j, j ≠ 29 → N0.1 0 j = 0 := fun j hj => by
    show (if j = 29 then (-1 : Int32) else 0) = 0
    rw [if_neg hj]
  refine ⟨s00, ⟨Nat.zero_le _, fun r hr => absurd hr (Nat.not_lt_zero _), ⟨fun _ => 0, fun r hr => absurd hr (Nat.not_lt_zero _)⟩⟩, ⟨⟨fun r hr => ?_, fun r hr => ?_⟩, ?_, fun r hr => absurd hr (Nat.not_lt_zero _)⟩, ⟨fun k hk => ?_, ?_, fun r hr => absurd hr (Nat.not_lt_zero _)⟩, Or.inl ?_, ⟨fun _ => s00, 0, 0, Nat.zero_le _, by decide, ?_, ?_, ?_, fun j hj => absurd hj (Nat.not_lt_zero _)⟩, ⟨s00, Or.inl ⟨?_, ?_⟩⟩, ⟨0, Nat.zero_le _, ?_, ?_, fun j hj => absurd hj (Nat.not_lt_zero _)⟩, ⟨0, Nat.zero_le _, ?_, ?_, fun j hj => absurd hj (Nat.not_lt_zero _)⟩, ?_, ?_, ?_⟩
  · rw [hm _ (by decide)]
    exact m6_zero
  · rw [hm _ (by decide)]
    exact m6_zero
  · rw [hm _ (by decide)]; rfl
  · rw [hn 1 (by decide)]; rfl
  · rw [hn 1 (by decide)]; rfl
  · rw [hm 106 (by decide)]; rfl
  · rw [hm 113 (by decide)]; rfl
  · rw [hm 113 (by decide)]; rfl
  · rw [n0 5 (by decide)]; rfl
  · rw [m121 8 (by decide)]; rfl
  · rw [n0 3 (by decide)]; rfl
  · rw [hm 115 (by decide)]; rfl
  · rw [n0 26 (by decide)]; rfl
  · rw [hm 119 (by decide)]; rfl
  · rw [n0 24 (by decide)]; rfl
  · rfl
  · rw [m121 10 (by decide), n0 7 (by decide)]
  · rw [m121 11 (by decide), n0 8 (by decide)]
theorem law_ok (xs : Nat → Int32) {L : Nat} (hL : L ≤ 2560) : gLoop xs L 513 0 (M0, N0, 0, 0) = some () := wp_is (g_loop 512 0 M0 N0 0 0 rel_0 (by omega))
