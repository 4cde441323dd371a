/-! ===== what is read of a text changes no long ===== -/
def L2 {α : Type} (c : Nat → Int64) (o : Option (α × KS)) : Prop := ∀ b, o = some b → b.2.2 = c
section LNG
variable {α β σ τ : Type} {c : Nat → Int64} {M : KS}
theorem L2_n : L2 c (none : Option (α × KS)) := fun _ h => absurd h (by simp)
theorem L2_s {v : α} (h : M.2 = c) : L2 c (some (v, M)) := fun b hb => by rw [← Option.some.inj hb]; exact h
theorem L2_ite {p : Prop} {dec : Decidable p} {x y : Option (α × KS)} (h : L2 c x) (k : L2 c y) : L2 c (@ite _ p dec x y) := by
  by_cases q : p
  · rw [if_pos q]; exact h
  · rw [if_neg q]; exact k
theorem L2_nm {v : β} {g : β → Option (α × KS)} (h : L2 c (g v)) : L2 c (nm v g) := h
theorem L2_jn {K : β → Option (α × KS)} {B : (β → Option (α × KS)) → Option (α × KS)} (h : L2 c (B K)) : L2 c (jn K B) := h
theorem L2_bd2 {q : Option (β × KS)} {g : β → KS → Option (α × KS)} (h : L2 c q) (k : ∀ v M', M'.2 = c → L2 c (g v M')) : L2 c (bd2 q g) := by
  intro b hb
  cases e : q with
  | none => rw [e] at hb; exact absurd hb (by show ¬ none = some b; simp)
  | some a =>
    rw [e] at hb
    exact k a.1 a.2 (h a e) b hb
theorem L2_bind {q : Option β} {g : β → Option (α × KS)} (k : ∀ v, L2 c (g v)) : L2 c (q.bind g) := by
  intro b hb
  cases e : q with
  | none => rw [e] at hb; exact absurd hb (by show ¬ none = some b; simp)
  | some a =>
    rw [e] at hb
    exact k a b hb
theorem L2_lp {body : (σ → Option (α × KS)) → (τ → Option (α × KS)) → σ → Option (α × KS)} {k : τ → Option (α × KS)} (I : σ → Prop) (h : ∀ s rec, I s → (∀ s', I s' → L2 c (rec s')) → L2 c (body rec k s)) : ∀ (N : Nat) (s : σ), I s → L2 c (lp body k N s)
  | 0, s, _ => by intro b hb; exact absurd hb (by show ¬ none = some b; simp)
  | N + 1, s, hs => by rw [lp_s]; exact h s _ hs (fun s' hs' => L2_lp I h N s' hs')
theorem l2_read {a b : Int32} (h : M.2 = c) : L2 c (fX8_read M a b) := by
  unfold fX8_read
  repeat' (first | exact L2_n | exact L2_s h | refine L2_ite ?_ ?_ | refine L2_nm ?_)
theorem l2_skip {a : Int32} (h : M.2 = c) : L2 c (fX8_skip M a) := L2_bd2 (l2_read h) (fun _ _ h1 => L2_ite (L2_s h1) (L2_s h1))
theorem l2_put {a b v : Int32} {g : KS → Option (α × KS)} (h : M.2 = c) (k : ∀ M', M'.2 = c → L2 c (g M')) : L2 c ((fX8_put M a b v).bind g) := by
  unfold fX8_put
  show L2 c (Option.bind (if (4 * a + b) < 0 then _ else _) g)
  by_cases q1 : (4 * a + b) < 0
  · rw [if_pos q1]; exact k _ h
  · rw [if_neg q1]
    by_cases q2 : 84 ≤ (4 * a + b)
    · rw [if_pos q2]; exact k _ h
    · rw [if_neg q2]
      by_cases q3 : inb (4 * a + b) 84
      · rw [if_pos q3]; exact k _ h
      · rw [if_neg q3]; exact L2_n
theorem l2_note {a b : Int32} (h : M.2 = c) : L2 c (fX8_note M a b) := by
  unfold fX8_note
  repeat' (first | exact L2_n | exact L2_s h | refine L2_ite ?_ ?_ | refine L2_nm ?_)
theorem l2_num {a b v w : Int32} (h : M.2 = c) : L2 c (fX8_readNumber M a b v w) := L2_bd2 (l2_read h) (fun _ _ h1 => l2_put h1 (fun _ h2 => L2_ite (L2_s h2) (L2_s h2)))
theorem l2_fact {a b : Int32} (h : M.2 = c) : L2 c (fX8_readFact M a b) := L2_bd2 (l2_num h) (fun _ _ h1 => L2_ite (L2_s h1) (L2_bd2 (l2_num h1) (fun _ _ h2 => L2_ite (L2_s h2) (L2_bd2 (l2_num h2) (fun _ _ h3 => L2_ite (L2_s h3) (L2_bd2 (l2_note h3) (fun _ _ h4 => L2_ite (L2_s h4) (L2_s h4))))))))
theorem l2_cond {a b : Int32} (h : M.2 = c) : L2 c (fX8_readCondition M a b) := by
  have t3 : ∀ M8 v10, M8.2 = c → L2 c (fX8_readCondition_J86_75 a b M8 v10) := fun M8 v10 h8 => l2_put h8 (fun _ h9 => L2_s h9)
  have t2 : ∀ v2 v4 v5 v7 M8, M8.2 = c → L2 c (fX8_readCondition_J51_37 a b v2 v4 v5 (v7, M8)) := fun v2 v4 v5 v7 M8 h8 => L2_ite (L2_nm (L2_jn (L2_ite (t3 M8 _ h8) (t3 M8 _ h8)))) (L2_s h8)
  have t1 : ∀ v2 v4 v5 M6, M6.2 = c → L2 c (fX8_readCondition_J33_19 a b v2 v4 (v5, M6)) := fun v2 v4 v5 M6 h6 => by
    rw [fX8_readCondition_J33_19_u]
    exact L2_jn (L2_ite (L2_bd2 (l2_read h6) (fun v M' h' => t2 v2 v4 v5 v M' h')) (t2 v2 v4 v5 _ M6 h6))
  exact L2_bd2 (l2_skip h) (fun v2 M1 h1 => L2_bd2 (l2_read h1) (fun v4 M3 h3 => L2_jn (L2_ite (L2_bd2 (l2_read h3) (fun v M' h' => t1 v2 v4 v M' h')) (t1 v2 v4 _ M3 h3))))
theorem l2_rule {a : Int32} (h : M.2 = c) : L2 c (fX8_readRule M a) := by
  refine L2_bd2 (l2_num h) (fun _ _ h1 => L2_ite (L2_s h1) (L2_bd2 (l2_skip h1) (fun _ M3 h3 => L2_ite (L2_s h3) ?_)))
  refine L2_lp (fun s => s.2.2 = c) (fun s rec hs hrec => ?_) _ _ h3
  obtain ⟨v5, M6⟩ := s
  have hs : M6.2 = c := hs
  have t2 : ∀ v10 M11, M11.2 = c → L2 c (fX8_readRule_J64_50 a v5 rec v10 M11) := fun v10 M11 h11 => L2_ite (l2_put h11 (fun M' h' => L2_nm (hrec (_, M') h'))) (L2_nm (hrec (_, M11) h11))
  have t1 : ∀ v10, L2 c (fX8_readRule_J48_33 a v5 M6 rec v10) := fun v10 => L2_jn (L2_ite (t2 v10 M6 hs) (L2_bd2 (l2_cond hs) (fun _ M15 h15 => L2_ite (L2_s h15) (t2 v10 M15 h15))))
  exact L2_ite (L2_bd2 (l2_note hs) (fun _ _ h' => L2_ite (L2_s h') L2_n)) (L2_jn (L2_ite (t1 _) (L2_bind (fun _ => L2_ite (t1 _) (t1 _)))))
theorem l2_order {a : Int32} (h : M.2 = c) : L2 c (fX8_readOrder M a) := by
  refine L2_bd2 (l2_skip h) (fun _ _ h1 => L2_ite ?_ (L2_bd2 (l2_fact h1) (fun _ _ h' => L2_ite (L2_s h') L2_n)))
  refine L2_bd2 (l2_skip h1) (fun _ _ h3 => L2_ite ?_ (L2_bd2 (l2_fact h3) (fun _ _ h' => L2_ite (L2_s h') L2_n)))
  refine L2_bd2 (l2_skip h3) (fun _ _ h5 => L2_ite ?_ (L2_bd2 (l2_rule h5) (fun _ _ h' => L2_ite (L2_s h') L2_n)))
  exact L2_bd2 (l2_skip h5) (fun _ _ h7 => L2_ite (L2_s h7) (L2_bd2 (l2_num h7) (fun _ _ h9 => L2_ite (L2_s h9) (L2_bd2 (l2_note h9) (fun _ _ h' => L2_ite (L2_s h') (L2_s h'))))))
theorem l2_orders (h : M.2 = c) : L2 c (fX8_readOrders M) := by
  refine L2_nm (L2_nm (L2_lp (fun s => s.2.2 = c) (fun s rec hs hrec => ?_) _ _ h))
  obtain ⟨v3, M4⟩ := s
  have hs : M4.2 = c := hs
  refine L2_ite (L2_s hs) (L2_bd2 (l2_order hs) (fun v7 M6 h6 => L2_ite (L2_s h6) (L2_nm (L2_ite (L2_bd2 (l2_skip h6) (fun _ M9 h9 => L2_ite (L2_s h9) (L2_nm (hrec (_, M9) h9)))) (L2_s h6)))))
end LNG
