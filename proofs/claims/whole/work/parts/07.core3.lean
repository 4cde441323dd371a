def bd2 {β α : Type} (o : Option (β × KS)) (g : β → KS → Option α) : Option α := o.bind (fun a => g a.1 a.2)
abbrev jcp (sp : Int32) (n0 : Nat) (dp : Int32) (n1 : Nat) (n : Int32) : Prop := ¬ sp < 0 ∧ ¬ dp < 0 ∧ ¬ n < 0 ∧ sp.toNatClampNeg + n.toNatClampNeg ≤ n0 ∧ dp.toNatClampNeg + n.toNatClampNeg ≤ n1
def kcpy (M : KS) (i0 i1 : Nat) (sp dp n : Int32) : KS := (fun a b => if a = i1 then va_cpy (M.1 i0) (M.1 i1) sp.toNatClampNeg dp.toNatClampNeg n.toNatClampNeg b else M.1 a b, M.2)
section KROWS3
variable {p : Program} {l : Launch} {e : Env} {R : Room} {s : State} {m : MethodId} {args : Array Value} {below : List Frame} {meth : Method} {c : Code} {H : Heap} {locs : List Loc} {cells slots : Nat} {Q : State → Prop}
variable {cc : ByteArray} {nL : Nat} {own : String} {S : SH} {E : KE} {ad : Nat → Nat} {sz : Nat} {M : KS} {pc : Nat} {ls : Array Slot} {rest st0 : List Value}
theorem W_ite {α : Type} {f : α → State → Prop} {g : JFrame} {o1 o2 : Option α} {b : Prop} {dec : Decidable b} (k1 : b → W p l e R s m args below meth c H locs cells slots (Qn f o1) g) (k2 : ¬ b → W p l e R s m args below meth c H locs cells slots (Qn f o2) g) : W p l e R s m args below meth c H locs cells slots (Qn f (@ite _ b dec o1 o2)) g := by
  by_cases hb : b
  · rw [if_pos hb]; exact k1 hb
  · rw [if_neg hb]; exact k2 hb
theorem k_mmax (C : KB p s m c cc nL args own meth S E ad sz) {idx : Nat} (lk : Cond.methodLink own idx yJ9_max_7cf53 ∈ TT) (hls : ls.size = nL) (hfr : 1 ≤ R.frames) (hlo : (rest.map fun v => v.category).sum + 13 ≤ R.locals) (hcap : cells ≤ R.cells ∧ slots ≤ R.slots) {x y : Int32} (hdg : decode cc pc = .ok (.invokestatic idx, 3))
    (kk : W p l e R s m args below meth c H locs cells slots Q (F0 m (pc + 3) ls (.int (jmax x y) :: rest))) : W p l e R s m args below meth c H locs cells slots Q (F0 m pc ls (.int y :: .int x :: rest)) :=
  va_mmax C.1.1 C.1.2.1 (C.1.2.2.1.trans hls.symm) C.1.2.2.2.1 (C.1.2.2.2.2 _ lk) (C.1.2.2.2.2 _ w_2_71) (C.1.2.2.2.2 _ w_1_18) (C.1.2.2.2.2 _ w_2_72) hfr hlo hcap.1 hcap.2 hdg kk
theorem k_mmin (C : KB p s m c cc nL args own meth S E ad sz) {idx : Nat} (lk : Cond.methodLink own idx yJ9_min_7cf53 ∈ TT) (hls : ls.size = nL) (hfr : 1 ≤ R.frames) (hlo : (rest.map fun v => v.category).sum + 13 ≤ R.locals) (hcap : cells ≤ R.cells ∧ slots ≤ R.slots) {x y : Int32} (hdg : decode cc pc = .ok (.invokestatic idx, 3))
    (kk : W p l e R s m args below meth c H locs cells slots Q (F0 m (pc + 3) ls (.int (jmin x y) :: rest))) : W p l e R s m args below meth c H locs cells slots Q (F0 m pc ls (.int y :: .int x :: rest)) :=
  va_mmin C.1.1 C.1.2.1 (C.1.2.2.1.trans hls.symm) C.1.2.2.2.1 (C.1.2.2.2.2 _ lk) (C.1.2.2.2.2 _ w_3_122) (C.1.2.2.2.2 _ w_1_18) (C.1.2.2.2.2 _ w_3_123) hfr hlo hcap.1 hcap.2 hdg kk
theorem k_mabs (C : KB p s m c cc nL args own meth S E ad sz) {idx : Nat} (lk : Cond.methodLink own idx yJ9_abs_0f7a4 ∈ TT) (hls : ls.size = nL) (hfr : 1 ≤ R.frames) (hlo : (rest.map fun v => v.category).sum + 13 ≤ R.locals) (hcap : cells ≤ R.cells ∧ slots ≤ R.slots) {x : Int32} (hdg : decode cc pc = .ok (.invokestatic idx, 3))
    (kk : W p l e R s m args below meth c H locs cells slots Q (F0 m (pc + 3) ls (.int (jabs x) :: rest))) : W p l e R s m args below meth c H locs cells slots Q (F0 m pc ls (.int x :: rest)) :=
  va_mabs C.1.1 C.1.2.1 (C.1.2.2.1.trans hls.symm) C.1.2.2.2.1 (C.1.2.2.2.2 _ lk) (C.1.2.2.2.2 _ w_6_141) (C.1.2.2.2.2 _ w_1_18) (C.1.2.2.2.2 _ w_6_142) hfr hlo hcap.1 hcap.2 hdg kk
theorem k_acopy {α : Type} {f : α → State → Prop} {g : KS → Option α} (C : KB p s m c cc nL args own meth S E ad sz) (hH : KH S E ad sz M s.heap H locs) {i0 i1 n0 n1 : Nat} (h0 : ARR S i0 1 n0) (h1 : ARR S i1 1 n1) {idx : Nat} (lk : Cond.methodLink own idx arraycopyName ∈ TT) (hls : ls.size = nL) (hfr : 1 ≤ R.frames) (hlo : (rest.map fun v => v.category).sum + (nativeFrameWords "java/lang/System" "arraycopy" 5 + 11) ≤ R.locals) {sp dp n : Int32} (hdg : decode cc pc = .ok (.invokestatic idx, 3))
    (kk : ∀ (M1 : KS) (H : Heap) (locs : List Loc), KH S E ad sz M1 s.heap H locs → W p l e R s m args below meth c H locs cells slots (Qn f (g M1)) (F0 m (pc + 3) ls rest)) : W p l e R s m args below meth c H locs cells slots (Qn f (if jcp sp n0 dp n1 n then nm (kcpy M i0 i1 sp dp n) g else none)) (F0 m pc ls (.int n :: .int dp :: .ref (ad i1) :: .int sp :: .ref (ad i0) :: rest)) := by
  refine W_if (fun hj => ?_)
  obtain ⟨j1, j2, j3, j4, j5⟩ := hj
  refine va_copyi (D := E.1) (ty := .int) (f := M.1 i0) (g := M.1 i1) C.1.1 C.1.2.1 (C.1.2.2.1.trans hls.symm) C.1.2.2.2.1 (C.1.2.2.2.2 _ lk) (C.1.2.2.2.2 _ w_6_85) (C.1.2.2.2.2 _ w_6_84) (C.1.2.2.2.2 _ w_1_19) C.2.2.1 hH.1 (kD C.2.2.2.2.1) hH.2 i0 i1 0 0 (by rw [kws_at h0.1, kcell_i h0]) (by rw [kws_at h1.1, kcell_i h1]) rfl rfl rfl j1 j2 j3 j4 j5 (fun _ _ => rfl) hfr hlo hdg (fun H1 locs1 hP hD hS => kk _ H1 locs1 ⟨?_, hS⟩)
  rw [kws_set (M := M) (M' := kcpy M i0 i1 sp dp n) h1.1 (by rw [kcell_i h1]; simp [kcpy]) (fun q hq => kcell_n (M := M) (M' := kcpy M i0 i1 sp dp n) (by funext b; simp [kcpy, hq]) (Or.inl rfl))] at hP
  exact hP
theorem k_tab4 {x : Int32} (h0 : ¬ x = 0) (h1 : ¬ x = 1) (h2 : ¬ x = 2) (h3 : ¬ x = 3) : x.toInt < 0 ∨ 3 < x.toInt := by
  have g0 : x.toInt ≠ 0 := fun z => h0 (Int32.toInt_inj.mp (z.trans rfl))
  have g1 : x.toInt ≠ 1 := fun z => h1 (Int32.toInt_inj.mp (z.trans rfl))
  have g2 : x.toInt ≠ 2 := fun z => h2 (Int32.toInt_inj.mp (z.trans rfl))
  have g3 : x.toInt ≠ 3 := fun z => h3 (Int32.toInt_inj.mp (z.trans rfl))
  omega
theorem k_tab5 {x : Int32} (h0 : ¬ x = 0) (h1 : ¬ x = 1) (h2 : ¬ x = 2) (h3 : ¬ x = 3) (h4 : ¬ x = 4) : x.toInt < 0 ∨ 4 < x.toInt := by
  have g0 : x.toInt ≠ 0 := fun z => h0 (Int32.toInt_inj.mp (z.trans rfl))
  have g1 : x.toInt ≠ 1 := fun z => h1 (Int32.toInt_inj.mp (z.trans rfl))
  have g2 : x.toInt ≠ 2 := fun z => h2 (Int32.toInt_inj.mp (z.trans rfl))
  have g3 : x.toInt ≠ 3 := fun z => h3 (Int32.toInt_inj.mp (z.trans rfl))
  have g4 : x.toInt ≠ 4 := fun z => h4 (Int32.toInt_inj.mp (z.trans rfl))
  omega
theorem k_tab6 {x : Int32} (h0 : ¬ x = 0) (h1 : ¬ x = 1) (h2 : ¬ x = 2) (h3 : ¬ x = 3) (h4 : ¬ x = 4) (h5 : ¬ x = 5) : x.toInt < 0 ∨ 5 < x.toInt := by
  have g0 : x.toInt ≠ 0 := fun z => h0 (Int32.toInt_inj.mp (z.trans rfl))
  have g1 : x.toInt ≠ 1 := fun z => h1 (Int32.toInt_inj.mp (z.trans rfl))
  have g2 : x.toInt ≠ 2 := fun z => h2 (Int32.toInt_inj.mp (z.trans rfl))
  have g3 : x.toInt ≠ 3 := fun z => h3 (Int32.toInt_inj.mp (z.trans rfl))
  have g4 : x.toInt ≠ 4 := fun z => h4 (Int32.toInt_inj.mp (z.trans rfl))
  have g5 : x.toInt ≠ 5 := fun z => h5 (Int32.toInt_inj.mp (z.trans rfl))
  omega
theorem k_tab9 {x : Int32} (h0 : ¬ x = 0) (h1 : ¬ x = 1) (h2 : ¬ x = 2) (h3 : ¬ x = 3) (h4 : ¬ x = 4) (h5 : ¬ x = 5) (h6 : ¬ x = 6) (h7 : ¬ x = 7) (h8 : ¬ x = 8) : x.toInt < 0 ∨ 8 < x.toInt := by
  have g0 : x.toInt ≠ 0 := fun z => h0 (Int32.toInt_inj.mp (z.trans rfl))
  have g1 : x.toInt ≠ 1 := fun z => h1 (Int32.toInt_inj.mp (z.trans rfl))
  have g2 : x.toInt ≠ 2 := fun z => h2 (Int32.toInt_inj.mp (z.trans rfl))
  have g3 : x.toInt ≠ 3 := fun z => h3 (Int32.toInt_inj.mp (z.trans rfl))
  have g4 : x.toInt ≠ 4 := fun z => h4 (Int32.toInt_inj.mp (z.trans rfl))
  have g5 : x.toInt ≠ 5 := fun z => h5 (Int32.toInt_inj.mp (z.trans rfl))
  have g6 : x.toInt ≠ 6 := fun z => h6 (Int32.toInt_inj.mp (z.trans rfl))
  have g7 : x.toInt ≠ 7 := fun z => h7 (Int32.toInt_inj.mp (z.trans rfl))
  have g8 : x.toInt ≠ 8 := fun z => h8 (Int32.toInt_inj.mp (z.trans rfl))
  omega
theorem k_tab10 {x : Int32} (h0 : ¬ x = 0) (h1 : ¬ x = 1) (h2 : ¬ x = 2) (h3 : ¬ x = 3) (h4 : ¬ x = 4) (h5 : ¬ x = 5) (h6 : ¬ x = 6) (h7 : ¬ x = 7) (h8 : ¬ x = 8) (h9 : ¬ x = 9) : x.toInt < 0 ∨ 9 < x.toInt := by
  have g0 : x.toInt ≠ 0 := fun z => h0 (Int32.toInt_inj.mp (z.trans rfl))
  have g1 : x.toInt ≠ 1 := fun z => h1 (Int32.toInt_inj.mp (z.trans rfl))
  have g2 : x.toInt ≠ 2 := fun z => h2 (Int32.toInt_inj.mp (z.trans rfl))
  have g3 : x.toInt ≠ 3 := fun z => h3 (Int32.toInt_inj.mp (z.trans rfl))
  have g4 : x.toInt ≠ 4 := fun z => h4 (Int32.toInt_inj.mp (z.trans rfl))
  have g5 : x.toInt ≠ 5 := fun z => h5 (Int32.toInt_inj.mp (z.trans rfl))
  have g6 : x.toInt ≠ 6 := fun z => h6 (Int32.toInt_inj.mp (z.trans rfl))
  have g7 : x.toInt ≠ 7 := fun z => h7 (Int32.toInt_inj.mp (z.trans rfl))
  have g8 : x.toInt ≠ 8 := fun z => h8 (Int32.toInt_inj.mp (z.trans rfl))
  have g9 : x.toInt ≠ 9 := fun z => h9 (Int32.toInt_inj.mp (z.trans rfl))
  omega
theorem k_tab33 {x : Int32} (h0 : ¬ x = 0) (h1 : ¬ x = 1) (h2 : ¬ x = 2) (h3 : ¬ x = 3) (h4 : ¬ x = 4) (h5 : ¬ x = 5) (h6 : ¬ x = 6) (h7 : ¬ x = 7) (h8 : ¬ x = 8) (h9 : ¬ x = 9) (h10 : ¬ x = 10) (h11 : ¬ x = 11) (h12 : ¬ x = 12) (h13 : ¬ x = 13) (h14 : ¬ x = 14) (h15 : ¬ x = 15) (h16 : ¬ x = 16) (h17 : ¬ x = 17) (h18 : ¬ x = 18) (h19 : ¬ x = 19) (h20 : ¬ x = 20) (h21 : ¬ x = 21) (h22 : ¬ x = 22) (h23 : ¬ x = 23) (h24 : ¬ x = 24) (h25 : ¬ x = 25) (h26 : ¬ x = 26) (h27 : ¬ x = 27) (h28 : ¬ x = 28) (h29 : ¬ x = 29) (h30 : ¬ x = 30) (h31 : ¬ x = 31) (h32 : ¬ x = 32) : x.toInt < 0 ∨ 32 < x.toInt := by
  have g0 : x.toInt ≠ 0 := fun z => h0 (Int32.toInt_inj.mp (z.trans rfl))
  have g1 : x.toInt ≠ 1 := fun z => h1 (Int32.toInt_inj.mp (z.trans rfl))
  have g2 : x.toInt ≠ 2 := fun z => h2 (Int32.toInt_inj.mp (z.trans rfl))
  have g3 : x.toInt ≠ 3 := fun z => h3 (Int32.toInt_inj.mp (z.trans rfl))
  have g4 : x.toInt ≠ 4 := fun z => h4 (Int32.toInt_inj.mp (z.trans rfl))
  have g5 : x.toInt ≠ 5 := fun z => h5 (Int32.toInt_inj.mp (z.trans rfl))
  have g6 : x.toInt ≠ 6 := fun z => h6 (Int32.toInt_inj.mp (z.trans rfl))
  have g7 : x.toInt ≠ 7 := fun z => h7 (Int32.toInt_inj.mp (z.trans rfl))
  have g8 : x.toInt ≠ 8 := fun z => h8 (Int32.toInt_inj.mp (z.trans rfl))
  have g9 : x.toInt ≠ 9 := fun z => h9 (Int32.toInt_inj.mp (z.trans rfl))
  have g10 : x.toInt ≠ 10 := fun z => h10 (Int32.toInt_inj.mp (z.trans rfl))
  have g11 : x.toInt ≠ 11 := fun z => h11 (Int32.toInt_inj.mp (z.trans rfl))
  have g12 : x.toInt ≠ 12 := fun z => h12 (Int32.toInt_inj.mp (z.trans rfl))
  have g13 : x.toInt ≠ 13 := fun z => h13 (Int32.toInt_inj.mp (z.trans rfl))
  have g14 : x.toInt ≠ 14 := fun z => h14 (Int32.toInt_inj.mp (z.trans rfl))
  have g15 : x.toInt ≠ 15 := fun z => h15 (Int32.toInt_inj.mp (z.trans rfl))
  have g16 : x.toInt ≠ 16 := fun z => h16 (Int32.toInt_inj.mp (z.trans rfl))
  have g17 : x.toInt ≠ 17 := fun z => h17 (Int32.toInt_inj.mp (z.trans rfl))
  have g18 : x.toInt ≠ 18 := fun z => h18 (Int32.toInt_inj.mp (z.trans rfl))
  have g19 : x.toInt ≠ 19 := fun z => h19 (Int32.toInt_inj.mp (z.trans rfl))
  have g20 : x.toInt ≠ 20 := fun z => h20 (Int32.toInt_inj.mp (z.trans rfl))
  have g21 : x.toInt ≠ 21 := fun z => h21 (Int32.toInt_inj.mp (z.trans rfl))
  have g22 : x.toInt ≠ 22 := fun z => h22 (Int32.toInt_inj.mp (z.trans rfl))
  have g23 : x.toInt ≠ 23 := fun z => h23 (Int32.toInt_inj.mp (z.trans rfl))
  have g24 : x.toInt ≠ 24 := fun z => h24 (Int32.toInt_inj.mp (z.trans rfl))
  have g25 : x.toInt ≠ 25 := fun z => h25 (Int32.toInt_inj.mp (z.trans rfl))
  have g26 : x.toInt ≠ 26 := fun z => h26 (Int32.toInt_inj.mp (z.trans rfl))
  have g27 : x.toInt ≠ 27 := fun z => h27 (Int32.toInt_inj.mp (z.trans rfl))
  have g28 : x.toInt ≠ 28 := fun z => h28 (Int32.toInt_inj.mp (z.trans rfl))
  have g29 : x.toInt ≠ 29 := fun z => h29 (Int32.toInt_inj.mp (z.trans rfl))
  have g30 : x.toInt ≠ 30 := fun z => h30 (Int32.toInt_inj.mp (z.trans rfl))
  have g31 : x.toInt ≠ 31 := fun z => h31 (Int32.toInt_inj.mp (z.trans rfl))
  have g32 : x.toInt ≠ 32 := fun z => h32 (Int32.toInt_inj.mp (z.trans rfl))
  omega
theorem kg_ib {α : Type} {f : α → State → Prop} (C : KB p s m c cc nL args own meth S E ad sz) (hH : KH S E ad sz M s.heap H locs) {rm9 : Room} {av9 : Array Value} {o9 : Option (Int32 × KS)} {g : Int32 → KS → Option α} (hr : ∀ a, o9 = some a → va_Run p l e R s m args below meth c H locs cells slots rm9.cells rm9.slots (F0 m pc ls st0) rest (QI S E ad H.size a av9) (KA S ad H.size)) (hz : rm9.cells = 0 ∧ rm9.slots = 0)
    (kk : ∀ (r : Int32) (M1 : KS) (H : Heap) (locs : List Loc), KH S E ad sz M1 s.heap H locs → W p l e R s m args below meth c H locs cells slots (Qn f (g r M1)) (F0 m (pc + 3) ls (.int r :: rest))) : W p l e R s m args below meth c H locs cells slots (Qn f (bd2 o9 g)) (F0 m pc ls st0) :=
  kg_i (g := fun a => g a.1 a.2) C hH hr hz (fun a => kk a.1 a.2)
end KROWS3
