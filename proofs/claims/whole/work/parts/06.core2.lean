abbrev inb (i : Int32) (n : Nat) : Prop := ¬ (i < 0 ∨ n ≤ i.toNatClampNeg)
def nm {β α : Type} (v : β) (g : β → Option α) : Option α := g v
def jn {β α : Type} (K : β → Option α) (B : (β → Option α) → Option α) : Option α := B K
def lp {σ τ α : Type} (body : (σ → Option α) → (τ → Option α) → σ → Option α) (k : τ → Option α) : Nat → σ → Option α
  | 0 => fun _ => none
  | n + 1 => fun x => body (lp body k n) k x
theorem lp_s {σ τ α : Type} (body : (σ → Option α) → (τ → Option α) → σ → Option α) (k : τ → Option α) (n : Nat) (x : σ) : lp body k (n + 1) x = body (lp body k n) k x := rfl
def jrem (x y : Int32) : Int32 := x - x / y * y
def jshl (x y : Int32) : Int32 := x <<< (y &&& 31)
def jshr (x y : Int32) : Int32 := x >>> (y &&& 31)
def jushr (x y : Int32) : Int32 := (x.toUInt32 >>> (y.toUInt32 &&& Int32.toUInt32 31)).toInt32
def ji2c (x : Int32) : Int32 := (x.toUInt32 % 65536).toInt32
def jlshl (x : Int64) (y : Int32) : Int64 := x <<< (y.toInt64 &&& 63)
def jlushr (x : Int64) (y : Int32) : Int64 := (x.toUInt64 >>> (y.toInt64.toUInt64 &&& Int64.toUInt64 63)).toInt64
def jmax (x y : Int32) : Int32 := if x < y then y else x
def jmin (x y : Int32) : Int32 := if y < x then y else x
def jabs (x : Int32) : Int32 := if 0 ≤ x then x else 0 - x
section KROWS2
variable {p : Program} {l : Launch} {e : Env} {R : Room} {s : State} {m : MethodId} {args : Array Value} {below : List Frame} {meth : Method} {c : Code} {H : Heap} {locs : List Loc} {cells slots : Nat} {Q : State → Prop}
variable {cc : ByteArray} {nL : Nat} {own : String} {S : SH} {E : KE} {ad : Nat → Nat} {sz : Nat} {M : KS} {pc : Nat} {ls : Array Slot} {rest st0 : List Value}
theorem W_nm {β α : Type} {f : α → State → Prop} {g : JFrame} {v : β} {G : β → Option α} (k : ∀ x : β, x = v → W p l e R s m args below meth c H locs cells slots (Qn f (G x)) g) : W p l e R s m args below meth c H locs cells slots (Qn f (nm v G)) g := k v rfl
theorem W_nmi {α : Type} {f : α → State → Prop} {v : Int32} {G : Int32 → Option α} (k : ∀ x : Int32, W p l e R s m args below meth c H locs cells slots (Qn f (G x)) (F0 m pc ls (.int x :: rest))) : W p l e R s m args below meth c H locs cells slots (Qn f (nm v G)) (F0 m pc ls (.int v :: rest)) := k v
theorem W_nml {α : Type} {f : α → State → Prop} {v : Int64} {G : Int64 → Option α} (k : ∀ x : Int64, W p l e R s m args below meth c H locs cells slots (Qn f (G x)) (F0 m pc ls (.long x :: rest))) : W p l e R s m args below meth c H locs cells slots (Qn f (nm v G)) (F0 m pc ls (.long v :: rest)) := k v
theorem W_jn {β α : Type} {f : α → State → Prop} {K : β → Option α} {B : (β → Option α) → Option α} {g : JFrame} (HJ : β → Heap → List Loc → Prop) (lJ : β → Array Slot → Prop) (gJ : β → Array Slot → JFrame)
    (j : ∀ (x : β) (H : Heap) (locs : List Loc) (ls : Array Slot), HJ x H locs → lJ x ls → W p l e R s m args below meth c H locs cells slots (Qn f (K x)) (gJ x ls))
    (k : ∀ K' : β → Option α, (∀ (x : β) (H : Heap) (locs : List Loc) (ls : Array Slot), HJ x H locs → lJ x ls → W p l e R s m args below meth c H locs cells slots (Qn f (K' x)) (gJ x ls)) → W p l e R s m args below meth c H locs cells slots (Qn f (B K')) g) : W p l e R s m args below meth c H locs cells slots (Qn f (jn K B)) g := k K j
theorem W_lp {σ τ α : Type} {f : α → State → Prop} {body : (σ → Option α) → (τ → Option α) → σ → Option α} {k : τ → Option α} (HI : σ → Heap → List Loc → Prop) (lI : σ → Array Slot → Prop) (gI : σ → Array Slot → JFrame) (HX : τ → Heap → List Loc → Prop) (lX : τ → Array Slot → Prop) (gX : τ → Array Slot → JFrame)
    (jx : ∀ (y : τ) (H : Heap) (locs : List Loc) (ls : Array Slot), HX y H locs → lX y ls → W p l e R s m args below meth c H locs cells slots (Qn f (k y)) (gX y ls))
    (jb : ∀ (rec : σ → Option α) (k' : τ → Option α), (∀ (x : σ) (H : Heap) (locs : List Loc) (ls : Array Slot), HI x H locs → lI x ls → W p l e R s m args below meth c H locs cells slots (Qn f (rec x)) (gI x ls)) → (∀ (y : τ) (H : Heap) (locs : List Loc) (ls : Array Slot), HX y H locs → lX y ls → W p l e R s m args below meth c H locs cells slots (Qn f (k' y)) (gX y ls)) →
      ∀ (x : σ) (H : Heap) (locs : List Loc) (ls : Array Slot), HI x H locs → lI x ls → W p l e R s m args below meth c H locs cells slots (Qn f (body rec k' x)) (gI x ls))
    {n : Nat} {x : σ} (h1 : HI x H locs) (h2 : lI x ls) : W p l e R s m args below meth c H locs cells slots (Qn f (lp body k n x)) (gI x ls) := by
  have key : ∀ (n : Nat) (x : σ) (H : Heap) (locs : List Loc) (ls : Array Slot), HI x H locs → lI x ls → W p l e R s m args below meth c H locs cells slots (Qn f (lp body k n x)) (gI x ls) := by
    intro n
    induction n with
    | zero => intro x H locs ls _ _; exact W_none
    | succ n ih => intro x H locs ls h1 h2; exact jb (lp body k n) k ih jx x H locs ls h1 h2
  exact key n x H locs ls h1 h2
theorem k_irem (hx : p.tables.exec = Jvm.exec) (hb : c.code = cc) {x y : Int32} (hdg : decode cc pc = .ok (.irem, 1)) (hne : ¬ y = 0) (k : W p l e R s m args below meth c H locs cells slots Q (F0 m (pc + 1) ls (.int (jrem x y) :: rest))) : W p l e R s m args below meth c H locs cells slots Q (F0 m pc ls (.int y :: .int x :: rest)) := lv_irem hx hb hdg hne k
theorem k_ishl (hx : p.tables.exec = Jvm.exec) (hb : c.code = cc) {x y : Int32} (hdg : decode cc pc = .ok (.ishl, 1)) (k : W p l e R s m args below meth c H locs cells slots Q (F0 m (pc + 1) ls (.int (jshl x y) :: rest))) : W p l e R s m args below meth c H locs cells slots Q (F0 m pc ls (.int y :: .int x :: rest)) := lv_ishl hx hb hdg k
theorem k_ishr (hx : p.tables.exec = Jvm.exec) (hb : c.code = cc) {x y : Int32} (hdg : decode cc pc = .ok (.ishr, 1)) (k : W p l e R s m args below meth c H locs cells slots Q (F0 m (pc + 1) ls (.int (jshr x y) :: rest))) : W p l e R s m args below meth c H locs cells slots Q (F0 m pc ls (.int y :: .int x :: rest)) := lv_ishr hx hb hdg k
theorem k_iald {α : Type} {f : α → State → Prop} {o : Option α} (C : KB p s m c cc nL args own meth S E ad sz) (hH : KH S E ad sz M s.heap H locs) {i n : Nat} (ha : ARR S i 1 n) {j : Int32} (hdg : decode cc pc = .ok (.iaload, 1))
    (kk : W p l e R s m args below meth c H locs cells slots (Qn f o) (F0 m (pc + 1) ls (.int (M.1 i j.toNatClampNeg) :: rest))) : W p l e R s m args below meth c H locs cells slots (Qn f (if inb j n then o else none)) (F0 m pc ls (.int j :: .ref (ad i) :: rest)) :=
  W_if (fun hin => va_iald (D := E.1) C.1.1 C.1.2.1 C.2.2.1 hH.1 i 0 (by rw [kws_at ha.1, kcell_i ha]) rfl hin hdg kk)
theorem k_cald {α : Type} {f : α → State → Prop} {o : Option α} (C : KB p s m c cc nL args own meth S E ad sz) (hH : KH S E ad sz M s.heap H locs) {i n : Nat} (ha : ARR S i 2 n) {j : Int32} (hdg : decode cc pc = .ok (.caload, 1))
    (kk : W p l e R s m args below meth c H locs cells slots (Qn f o) (F0 m (pc + 1) ls (.int (M.1 i j.toNatClampNeg) :: rest))) : W p l e R s m args below meth c H locs cells slots (Qn f (if inb j n then o else none)) (F0 m pc ls (.int j :: .ref (ad i) :: rest)) :=
  W_if (fun hin => va_cald (D := E.1) C.1.1 C.1.2.1 C.2.2.1 hH.1 i 1 (by rw [kws_at ha.1, kcell_c ha]) rfl hin hdg kk)
theorem k_zald {α : Type} {f : α → State → Prop} {o : Option α} (C : KB p s m c cc nL args own meth S E ad sz) (hH : KH S E ad sz M s.heap H locs) {i n : Nat} (ha : ARR S i 3 n) {j : Int32} (hdg : decode cc pc = .ok (.baload, 1))
    (kk : W p l e R s m args below meth c H locs cells slots (Qn f o) (F0 m (pc + 1) ls (.int (M.1 i j.toNatClampNeg) :: rest))) : W p l e R s m args below meth c H locs cells slots (Qn f (if inb j n then o else none)) (F0 m pc ls (.int j :: .ref (ad i) :: rest)) :=
  W_if (fun hin => va_zald (D := E.1) C.1.1 C.1.2.1 C.2.2.1 hH.1 i 2 (by rw [kws_at ha.1, kcell_z ha]) rfl hin hdg kk)
theorem k_lald {α : Type} {f : α → State → Prop} {o : Option α} (C : KB p s m c cc nL args own meth S E ad sz) (hH : KH S E ad sz M s.heap H locs) {i n : Nat} (ha : ARR S i 4 n) {j : Int32} (hdg : decode cc pc = .ok (.laload, 1))
    (kk : W p l e R s m args below meth c H locs cells slots (Qn f o) (F0 m (pc + 1) ls (.long (M.2 j.toNatClampNeg) :: rest))) : W p l e R s m args below meth c H locs cells slots (Qn f (if inb j n then o else none)) (F0 m pc ls (.int j :: .ref (ad i) :: rest)) :=
  W_if (fun hin => va_lald (D := E.1) C.1.1 C.1.2.1 C.2.2.1 hH.1 i 3 (by rw [kws_at ha.1, kcell_l ha]) rfl hin hdg kk)
theorem k_aald {α : Type} {f : α → State → Prop} {o : Option α} (C : KB p s m c cc nL args own meth S E ad sz) (hH : KH S E ad sz M s.heap H locs) {i n : Nat} (ha : ARR S i 5 n) {r : Nat → Nat} (hr : ∀ j, j < n → S.2.2.2.2 i j = some (r j)) {j : Int32} (hdg : decode cc pc = .ok (.aaload, 1))
    (kk : vp_in j n → W p l e R s m args below meth c H locs cells slots (Qn f o) (F0 m (pc + 1) ls (.ref (ad (r j.toNatClampNeg)) :: rest))) : W p l e R s m args below meth c H locs cells slots (Qn f (if inb j n then o else none)) (F0 m pc ls (.int j :: .ref (ad i) :: rest)) := by
  refine W_if (fun hin => va_aldq (D := E.1) (C := "KinFacts$State") C.1.1 C.1.2.1 C.2.2.1 hH.1 i 4 (by rw [kws_at ha.1, kcell_q ha]) rfl hin hdg ?_)
  rw [hr _ (Nat.not_le.mp fun q => hin (Or.inr q))]
  exact kk hin
theorem k_ilen (C : KB p s m c cc nL args own meth S E ad sz) (hH : KH S E ad sz M s.heap H locs) {i n : Nat} (ha : ARR S i 1 n) {v : Int32} (hv : Int32.ofNat n = v) (hdg : decode cc pc = .ok (.arraylength, 1))
    (kk : W p l e R s m args below meth c H locs cells slots Q (F0 m (pc + 1) ls (.int v :: rest))) : W p l e R s m args below meth c H locs cells slots Q (F0 m pc ls (.ref (ad i) :: rest)) :=
  va_alen (D := E.1) C.1.1 C.1.2.1 C.2.2.1 hH.1 i 0 (by rw [kws_at ha.1, kcell_i ha]) rfl hv hdg kk
theorem k_clen (C : KB p s m c cc nL args own meth S E ad sz) (hH : KH S E ad sz M s.heap H locs) {i n : Nat} (ha : ARR S i 2 n) {v : Int32} (hv : Int32.ofNat n = v) (hdg : decode cc pc = .ok (.arraylength, 1))
    (kk : W p l e R s m args below meth c H locs cells slots Q (F0 m (pc + 1) ls (.int v :: rest))) : W p l e R s m args below meth c H locs cells slots Q (F0 m pc ls (.ref (ad i) :: rest)) :=
  va_alen (D := E.1) C.1.1 C.1.2.1 C.2.2.1 hH.1 i 1 (by rw [kws_at ha.1, kcell_c ha]) rfl hv hdg kk
theorem k_zlen (C : KB p s m c cc nL args own meth S E ad sz) (hH : KH S E ad sz M s.heap H locs) {i n : Nat} (ha : ARR S i 3 n) {v : Int32} (hv : Int32.ofNat n = v) (hdg : decode cc pc = .ok (.arraylength, 1))
    (kk : W p l e R s m args below meth c H locs cells slots Q (F0 m (pc + 1) ls (.int v :: rest))) : W p l e R s m args below meth c H locs cells slots Q (F0 m pc ls (.ref (ad i) :: rest)) :=
  va_alen (D := E.1) C.1.1 C.1.2.1 C.2.2.1 hH.1 i 2 (by rw [kws_at ha.1, kcell_z ha]) rfl hv hdg kk
theorem k_llen (C : KB p s m c cc nL args own meth S E ad sz) (hH : KH S E ad sz M s.heap H locs) {i n : Nat} (ha : ARR S i 4 n) {v : Int32} (hv : Int32.ofNat n = v) (hdg : decode cc pc = .ok (.arraylength, 1))
    (kk : W p l e R s m args below meth c H locs cells slots Q (F0 m (pc + 1) ls (.int v :: rest))) : W p l e R s m args below meth c H locs cells slots Q (F0 m pc ls (.ref (ad i) :: rest)) :=
  va_alen (D := E.1) C.1.1 C.1.2.1 C.2.2.1 hH.1 i 3 (by rw [kws_at ha.1, kcell_l ha]) rfl hv hdg kk
theorem k_qlen (C : KB p s m c cc nL args own meth S E ad sz) (hH : KH S E ad sz M s.heap H locs) {i n : Nat} (ha : ARR S i 5 n) {v : Int32} (hv : Int32.ofNat n = v) (hdg : decode cc pc = .ok (.arraylength, 1))
    (kk : W p l e R s m args below meth c H locs cells slots Q (F0 m (pc + 1) ls (.int v :: rest))) : W p l e R s m args below meth c H locs cells slots Q (F0 m pc ls (.ref (ad i) :: rest)) :=
  va_alen (D := E.1) C.1.1 C.1.2.1 C.2.2.1 hH.1 i 4 (by rw [kws_at ha.1, kcell_q ha]) rfl hv hdg kk
theorem k_iast {α : Type} {f : α → State → Prop} {g : KS → Option α} (C : KB p s m c cc nL args own meth S E ad sz) (hH : KH S E ad sz M s.heap H locs) {i n : Nat} (ha : ARR S i 1 n) {j x : Int32} (hdg : decode cc pc = .ok (.iastore, 1))
    (kk : ∀ (M1 : KS) (H : Heap) (locs : List Loc), KH S E ad sz M1 s.heap H locs → W p l e R s m args below meth c H locs cells slots (Qn f (g M1)) (F0 m (pc + 1) ls rest)) : W p l e R s m args below meth c H locs cells slots (Qn f (if inb j n then nm (kset M i j.toNatClampNeg x) g else none)) (F0 m pc ls (.int x :: .int j :: .ref (ad i) :: rest)) := by
  refine W_if (fun hin => va_iast (D := E.1) C.1.1 C.1.2.1 C.2.2.1 hH.1 (kD C.2.2.2.2.1) hH.2 i 0 (by rw [kws_at ha.1, kcell_i ha]) rfl hin hdg (fun H1 locs1 hP hD hS => kk _ H1 locs1 ⟨?_, hS⟩))
  rw [kws_set (M' := kset M i j.toNatClampNeg x) ha.1 (by rw [kcell_i ha, kset_1]) (fun q hq => kcell_n (kset_1n hq) (Or.inl rfl))] at hP
  exact hP
theorem k_cast {α : Type} {f : α → State → Prop} {g : KS → Option α} (C : KB p s m c cc nL args own meth S E ad sz) (hH : KH S E ad sz M s.heap H locs) {i n : Nat} (ha : ARR S i 2 n) {j x : Int32} (hdg : decode cc pc = .ok (.castore, 1))
    (kk : ∀ (M1 : KS) (H : Heap) (locs : List Loc), KH S E ad sz M1 s.heap H locs → W p l e R s m args below meth c H locs cells slots (Qn f (g M1)) (F0 m (pc + 1) ls rest)) : W p l e R s m args below meth c H locs cells slots (Qn f (if inb j n then nm (kset M i j.toNatClampNeg (vp_nar .char x)) g else none)) (F0 m pc ls (.int x :: .int j :: .ref (ad i) :: rest)) := by
  refine W_if (fun hin => va_cast (D := E.1) C.1.1 C.1.2.1 C.2.2.1 hH.1 (kD C.2.2.2.2.1) hH.2 i 1 (by rw [kws_at ha.1, kcell_c ha]) rfl hin hdg (fun H1 locs1 hP hD hS => kk _ H1 locs1 ⟨?_, hS⟩))
  rw [kws_set (M' := kset M i j.toNatClampNeg (vp_nar .char x)) ha.1 (by rw [kcell_c ha, kset_1]) (fun q hq => kcell_n (kset_1n hq) (Or.inl rfl))] at hP
  exact hP
theorem k_zast {α : Type} {f : α → State → Prop} {g : KS → Option α} (C : KB p s m c cc nL args own meth S E ad sz) (hH : KH S E ad sz M s.heap H locs) {i n : Nat} (ha : ARR S i 3 n) {j x : Int32} (hdg : decode cc pc = .ok (.bastore, 1))
    (kk : ∀ (M1 : KS) (H : Heap) (locs : List Loc), KH S E ad sz M1 s.heap H locs → W p l e R s m args below meth c H locs cells slots (Qn f (g M1)) (F0 m (pc + 1) ls rest)) : W p l e R s m args below meth c H locs cells slots (Qn f (if inb j n then nm (kset M i j.toNatClampNeg (vp_nar .boolean x)) g else none)) (F0 m pc ls (.int x :: .int j :: .ref (ad i) :: rest)) := by
  refine W_if (fun hin => va_zast (D := E.1) C.1.1 C.1.2.1 C.2.2.1 hH.1 (kD C.2.2.2.2.1) hH.2 i 2 (by rw [kws_at ha.1, kcell_z ha]) rfl hin hdg (fun H1 locs1 hP hD hS => kk _ H1 locs1 ⟨?_, hS⟩))
  rw [kws_set (M' := kset M i j.toNatClampNeg (vp_nar .boolean x)) ha.1 (by rw [kcell_z ha, kset_1]) (fun q hq => kcell_n (kset_1n hq) (Or.inl rfl))] at hP
  exact hP
theorem ksetL_2 (M : KS) (k : Nat) (v : Int64) : (ksetL M k v).2 = vp_updL M.2 k v := by
  funext b
  simp [ksetL, vp_updL]
theorem k_last {α : Type} {f : α → State → Prop} {g : KS → Option α} (C : KB p s m c cc nL args own meth S E ad sz) (hH : KH S E ad sz M s.heap H locs) {i n : Nat} (ha : ARR S i 4 n) (h1 : ∀ q, q ≠ i → S.2.1 q ≠ 4) {j : Int32} {x : Int64} (hdg : decode cc pc = .ok (.lastore, 1))
    (kk : ∀ (M1 : KS) (H : Heap) (locs : List Loc), KH S E ad sz M1 s.heap H locs → W p l e R s m args below meth c H locs cells slots (Qn f (g M1)) (F0 m (pc + 1) ls rest)) : W p l e R s m args below meth c H locs cells slots (Qn f (if inb j n then nm (ksetL M j.toNatClampNeg x) g else none)) (F0 m pc ls (.long x :: .int j :: .ref (ad i) :: rest)) := by
  refine W_if (fun hin => va_last (D := E.1) C.1.1 C.1.2.1 C.2.2.1 hH.1 (kD C.2.2.2.2.1) hH.2 i 3 (by rw [kws_at ha.1, kcell_l ha]) rfl hin hdg (fun H1 locs1 hP hD hS => kk _ H1 locs1 ⟨?_, hS⟩))
  rw [kws_set (M' := ksetL M j.toNatClampNeg x) ha.1 (by rw [kcell_l ha, ksetL_2]) (fun q hq => kcell_n (M := M) (M' := ksetL M j.toNatClampNeg x) rfl (Or.inr (h1 q hq)))] at hP
  exact hP
theorem kb_icmp_eq {α : Type} {f : α → State → Prop} {o1 o2 : Option α} (hx : p.tables.exec = Jvm.exec) (hb : c.code = cc) {x y : Int32} {off : Int} {tgt : Nat} (hdg : decode cc pc = .ok (.if_icmp .eq off, 3)) (ht : (pc : Int) + off = (tgt : Int))
    (kt : x = y → W p l e R s m args below meth c H locs cells slots (Qn f o1) (F0 m tgt ls rest)) (kf : ¬ x = y → W p l e R s m args below meth c H locs cells slots (Qn f o2) (F0 m (pc + 3) ls rest)) : W p l e R s m args below meth c H locs cells slots (Qn f (if x = y then o1 else o2)) (F0 m pc ls (.int y :: .int x :: rest)) :=
  lv_icmp_eq hx hb hdg ht (fun h => by rw [if_pos h]; exact kt h) (fun h => by rw [if_neg h]; exact kf h)
theorem kb_icmp_ne {α : Type} {f : α → State → Prop} {o1 o2 : Option α} (hx : p.tables.exec = Jvm.exec) (hb : c.code = cc) {x y : Int32} {off : Int} {tgt : Nat} (hdg : decode cc pc = .ok (.if_icmp .ne off, 3)) (ht : (pc : Int) + off = (tgt : Int))
    (kt : ¬ x = y → W p l e R s m args below meth c H locs cells slots (Qn f o1) (F0 m tgt ls rest)) (kf : x = y → W p l e R s m args below meth c H locs cells slots (Qn f o2) (F0 m (pc + 3) ls rest)) : W p l e R s m args below meth c H locs cells slots (Qn f (if x = y then o2 else o1)) (F0 m pc ls (.int y :: .int x :: rest)) :=
  lv_icmp_ne hx hb hdg ht (fun h => by rw [if_neg h]; exact kt h) (fun h => by rw [if_pos h]; exact kf h)
theorem kb_icmp_lt {α : Type} {f : α → State → Prop} {o1 o2 : Option α} (hx : p.tables.exec = Jvm.exec) (hb : c.code = cc) {x y : Int32} {off : Int} {tgt : Nat} (hdg : decode cc pc = .ok (.if_icmp .lt off, 3)) (ht : (pc : Int) + off = (tgt : Int))
    (kt : x < y → W p l e R s m args below meth c H locs cells slots (Qn f o1) (F0 m tgt ls rest)) (kf : ¬ x < y → W p l e R s m args below meth c H locs cells slots (Qn f o2) (F0 m (pc + 3) ls rest)) : W p l e R s m args below meth c H locs cells slots (Qn f (if x < y then o1 else o2)) (F0 m pc ls (.int y :: .int x :: rest)) :=
  lv_icmp_lt hx hb hdg ht (fun h => by rw [if_pos h]; exact kt h) (fun h => by rw [if_neg h]; exact kf h)
theorem kb_icmp_ge {α : Type} {f : α → State → Prop} {o1 o2 : Option α} (hx : p.tables.exec = Jvm.exec) (hb : c.code = cc) {x y : Int32} {off : Int} {tgt : Nat} (hdg : decode cc pc = .ok (.if_icmp .ge off, 3)) (ht : (pc : Int) + off = (tgt : Int))
    (kt : y ≤ x → W p l e R s m args below meth c H locs cells slots (Qn f o1) (F0 m tgt ls rest)) (kf : ¬ y ≤ x → W p l e R s m args below meth c H locs cells slots (Qn f o2) (F0 m (pc + 3) ls rest)) : W p l e R s m args below meth c H locs cells slots (Qn f (if y ≤ x then o1 else o2)) (F0 m pc ls (.int y :: .int x :: rest)) :=
  lv_icmp_ge hx hb hdg ht (fun h => by rw [if_pos h]; exact kt h) (fun h => by rw [if_neg h]; exact kf h)
theorem kb_icmp_gt {α : Type} {f : α → State → Prop} {o1 o2 : Option α} (hx : p.tables.exec = Jvm.exec) (hb : c.code = cc) {x y : Int32} {off : Int} {tgt : Nat} (hdg : decode cc pc = .ok (.if_icmp .gt off, 3)) (ht : (pc : Int) + off = (tgt : Int))
    (kt : y < x → W p l e R s m args below meth c H locs cells slots (Qn f o1) (F0 m tgt ls rest)) (kf : ¬ y < x → W p l e R s m args below meth c H locs cells slots (Qn f o2) (F0 m (pc + 3) ls rest)) : W p l e R s m args below meth c H locs cells slots (Qn f (if y < x then o1 else o2)) (F0 m pc ls (.int y :: .int x :: rest)) :=
  lv_icmp_gt hx hb hdg ht (fun h => by rw [if_pos h]; exact kt h) (fun h => by rw [if_neg h]; exact kf h)
theorem kb_icmp_le {α : Type} {f : α → State → Prop} {o1 o2 : Option α} (hx : p.tables.exec = Jvm.exec) (hb : c.code = cc) {x y : Int32} {off : Int} {tgt : Nat} (hdg : decode cc pc = .ok (.if_icmp .le off, 3)) (ht : (pc : Int) + off = (tgt : Int))
    (kt : x ≤ y → W p l e R s m args below meth c H locs cells slots (Qn f o1) (F0 m tgt ls rest)) (kf : ¬ x ≤ y → W p l e R s m args below meth c H locs cells slots (Qn f o2) (F0 m (pc + 3) ls rest)) : W p l e R s m args below meth c H locs cells slots (Qn f (if x ≤ y then o1 else o2)) (F0 m pc ls (.int y :: .int x :: rest)) :=
  lv_icmp_le hx hb hdg ht (fun h => by rw [if_pos h]; exact kt h) (fun h => by rw [if_neg h]; exact kf h)
theorem kb_if_eq {α : Type} {f : α → State → Prop} {o1 o2 : Option α} (hx : p.tables.exec = Jvm.exec) (hb : c.code = cc) {x : Int32} {off : Int} {tgt : Nat} (hdg : decode cc pc = .ok (.ifCond .eq off, 3)) (ht : (pc : Int) + off = (tgt : Int))
    (kt : x = 0 → W p l e R s m args below meth c H locs cells slots (Qn f o1) (F0 m tgt ls rest)) (kf : ¬ x = 0 → W p l e R s m args below meth c H locs cells slots (Qn f o2) (F0 m (pc + 3) ls rest)) : W p l e R s m args below meth c H locs cells slots (Qn f (if x = 0 then o1 else o2)) (F0 m pc ls (.int x :: rest)) :=
  lv_if_eq hx hb hdg ht (fun h => by rw [if_pos h]; exact kt h) (fun h => by rw [if_neg h]; exact kf h)
theorem kb_if_ne {α : Type} {f : α → State → Prop} {o1 o2 : Option α} (hx : p.tables.exec = Jvm.exec) (hb : c.code = cc) {x : Int32} {off : Int} {tgt : Nat} (hdg : decode cc pc = .ok (.ifCond .ne off, 3)) (ht : (pc : Int) + off = (tgt : Int))
    (kt : ¬ x = 0 → W p l e R s m args below meth c H locs cells slots (Qn f o1) (F0 m tgt ls rest)) (kf : x = 0 → W p l e R s m args below meth c H locs cells slots (Qn f o2) (F0 m (pc + 3) ls rest)) : W p l e R s m args below meth c H locs cells slots (Qn f (if x = 0 then o2 else o1)) (F0 m pc ls (.int x :: rest)) :=
  lv_if_ne hx hb hdg ht (fun h => by rw [if_neg h]; exact kt h) (fun h => by rw [if_pos h]; exact kf h)
theorem kb_if_lt {α : Type} {f : α → State → Prop} {o1 o2 : Option α} (hx : p.tables.exec = Jvm.exec) (hb : c.code = cc) {x : Int32} {off : Int} {tgt : Nat} (hdg : decode cc pc = .ok (.ifCond .lt off, 3)) (ht : (pc : Int) + off = (tgt : Int))
    (kt : x < 0 → W p l e R s m args below meth c H locs cells slots (Qn f o1) (F0 m tgt ls rest)) (kf : ¬ x < 0 → W p l e R s m args below meth c H locs cells slots (Qn f o2) (F0 m (pc + 3) ls rest)) : W p l e R s m args below meth c H locs cells slots (Qn f (if x < 0 then o1 else o2)) (F0 m pc ls (.int x :: rest)) :=
  lv_if_lt hx hb hdg ht (fun h => by rw [if_pos h]; exact kt h) (fun h => by rw [if_neg h]; exact kf h)
theorem kb_if_ge {α : Type} {f : α → State → Prop} {o1 o2 : Option α} (hx : p.tables.exec = Jvm.exec) (hb : c.code = cc) {x : Int32} {off : Int} {tgt : Nat} (hdg : decode cc pc = .ok (.ifCond .ge off, 3)) (ht : (pc : Int) + off = (tgt : Int))
    (kt : 0 ≤ x → W p l e R s m args below meth c H locs cells slots (Qn f o1) (F0 m tgt ls rest)) (kf : ¬ 0 ≤ x → W p l e R s m args below meth c H locs cells slots (Qn f o2) (F0 m (pc + 3) ls rest)) : W p l e R s m args below meth c H locs cells slots (Qn f (if 0 ≤ x then o1 else o2)) (F0 m pc ls (.int x :: rest)) :=
  lv_if_ge hx hb hdg ht (fun h => by rw [if_pos h]; exact kt h) (fun h => by rw [if_neg h]; exact kf h)
theorem kb_if_gt {α : Type} {f : α → State → Prop} {o1 o2 : Option α} (hx : p.tables.exec = Jvm.exec) (hb : c.code = cc) {x : Int32} {off : Int} {tgt : Nat} (hdg : decode cc pc = .ok (.ifCond .gt off, 3)) (ht : (pc : Int) + off = (tgt : Int))
    (kt : 0 < x → W p l e R s m args below meth c H locs cells slots (Qn f o1) (F0 m tgt ls rest)) (kf : ¬ 0 < x → W p l e R s m args below meth c H locs cells slots (Qn f o2) (F0 m (pc + 3) ls rest)) : W p l e R s m args below meth c H locs cells slots (Qn f (if 0 < x then o1 else o2)) (F0 m pc ls (.int x :: rest)) :=
  lv_if_gt hx hb hdg ht (fun h => by rw [if_pos h]; exact kt h) (fun h => by rw [if_neg h]; exact kf h)
theorem kb_if_le {α : Type} {f : α → State → Prop} {o1 o2 : Option α} (hx : p.tables.exec = Jvm.exec) (hb : c.code = cc) {x : Int32} {off : Int} {tgt : Nat} (hdg : decode cc pc = .ok (.ifCond .le off, 3)) (ht : (pc : Int) + off = (tgt : Int))
    (kt : x ≤ 0 → W p l e R s m args below meth c H locs cells slots (Qn f o1) (F0 m tgt ls rest)) (kf : ¬ x ≤ 0 → W p l e R s m args below meth c H locs cells slots (Qn f o2) (F0 m (pc + 3) ls rest)) : W p l e R s m args below meth c H locs cells slots (Qn f (if x ≤ 0 then o1 else o2)) (F0 m pc ls (.int x :: rest)) :=
  lv_if_le hx hb hdg ht (fun h => by rw [if_pos h]; exact kt h) (fun h => by rw [if_neg h]; exact kf h)
theorem ke_i {β : Type} {F : β → State → Prop} {b : β} (C : KB p s m c cc nL args own meth S E ad sz) (hH : KH S E ad sz M s.heap H locs) (hr : meth.sig.returnType = some .int) {mc ms : Nat} (h1 : cells ≤ mc) (h2 : slots ≤ ms) {v : Int32} (hF : F b = MQ below (QI S E ad sz (v, M)) args s mc ms (KA S ad sz)) (hdg : decode cc pc = .ok (.ireturn, 1)) :
    W p l e R s m args below meth c H locs cells slots (Qn F (some b)) (F0 m pc ls [.int v]) := by
  show W p l e R s m args below meth c H locs cells slots (F b) (F0 m pc ls [.int v])
  rw [hF]
  exact W.widen h1 h2 (W.iret (Qc := QI S E ad sz (v, M)) C.1.1 C.1.2.1 hr (fun t ht hW => ⟨⟨v, M, rfl, ⟨rfl, rfl⟩, by show KW S E ad M t.heap; rw [ht]; exact hH.1⟩, hH.2.F ht⟩) hH.2.2.2 hdg C.2.1)
abbrev isB (v : Int32) : Prop := v = 0 ∨ v = 1
theorem isB_nar {v : Int32} (h : isB v) : narrow .boolean (.int v) = .int v := by rcases h with rfl | rfl <;> rfl
theorem isB_fit {v : Int32} (h : isB v) : fits .boolean (.int v) = true := by rcases h with rfl | rfl <;> rfl
abbrev isC (v : Int32) : Prop := vp_nar .char v = v
theorem ke_z {β : Type} {F : β → State → Prop} {b : β} (C : KB p s m c cc nL args own meth S E ad sz) (hH : KH S E ad sz M s.heap H locs) (hr : meth.sig.returnType = some .boolean) {mc ms : Nat} (h1 : cells ≤ mc) (h2 : slots ≤ ms) {v : Int32} (hF : F b = MQ below (QI S E ad sz (v, M)) args s mc ms (KA S ad sz)) (hn : isB v) (hdg : decode cc pc = .ok (.ireturn, 1)) :
    W p l e R s m args below meth c H locs cells slots (Qn F (some b)) (F0 m pc ls [.int v]) := by
  show W p l e R s m args below meth c H locs cells slots (F b) (F0 m pc ls [.int v])
  rw [hF]
  exact W.widen h1 h2 (W.zret (Qc := QI S E ad sz (v, M)) C.1.1 C.1.2.1 hr (isB_nar hn) (fun t ht hW => ⟨⟨v, M, rfl, ⟨rfl, rfl⟩, by show KW S E ad M t.heap; rw [ht]; exact hH.1⟩, hH.2.F ht⟩) hH.2.2.2 hdg C.2.1)
theorem ke_zg {β : Type} {F : β → State → Prop} {b : β} (C : KB p s m c cc nL args own meth S E ad sz) (hH : KH S E ad sz M s.heap H locs) (hr : meth.sig.returnType = some .boolean) {mc ms : Nat} (h1 : cells ≤ mc) (h2 : slots ≤ ms) {v : Int32} (hF : F b = MQ below (QI S E ad sz (v, M)) args s mc ms (KA S ad sz)) (hdg : decode cc pc = .ok (.ireturn, 1)) :
    W p l e R s m args below meth c H locs cells slots (Qn F (if isB v then some b else none)) (F0 m pc ls [.int v]) :=
  W_if (fun hn => ke_z C hH hr h1 h2 hF hn hdg)
theorem ke_cg {β : Type} {F : β → State → Prop} {b : β} (C : KB p s m c cc nL args own meth S E ad sz) (hH : KH S E ad sz M s.heap H locs) (hr : meth.sig.returnType = some .char) {mc ms : Nat} (h1 : cells ≤ mc) (h2 : slots ≤ ms) {v : Int32} (hF : F b = MQ below (QI S E ad sz (v, M)) args s mc ms (KA S ad sz)) (hdg : decode cc pc = .ok (.ireturn, 1)) :
    W p l e R s m args below meth c H locs cells slots (Qn F (if isC v then some b else none)) (F0 m pc ls [.int v]) :=
  W_if (fun hn => by
    show W p l e R s m args below meth c H locs cells slots (F b) (F0 m pc ls [.int v])
    rw [hF]
    exact W.widen h1 h2 (W.zret (Qc := QI S E ad sz (v, M)) C.1.1 C.1.2.1 hr (by unfold isC vp_nar at hn; revert hn; simp [narrow]) (fun t ht hW => ⟨⟨v, M, rfl, ⟨rfl, rfl⟩, by show KW S E ad M t.heap; rw [ht]; exact hH.1⟩, hH.2.F ht⟩) hH.2.2.2 hdg C.2.1))
theorem ke_v {β : Type} {F : β → State → Prop} {b : β} (C : KB p s m c cc nL args own meth S E ad sz) (hH : KH S E ad sz M s.heap H locs) (hr : meth.sig.returnType = none) {mc ms : Nat} (h1 : cells ≤ mc) (h2 : slots ≤ ms) (hF : F b = MQ below (QV S E ad sz M) args s mc ms (KA S ad sz)) (hdg : decode cc pc = .ok (.return_, 1)) :
    W p l e R s m args below meth c H locs cells slots (Qn F (some b)) (F0 m pc ls []) := by
  show W p l e R s m args below meth c H locs cells slots (F b) (F0 m pc ls [])
  rw [hF]
  exact W.widen h1 h2 (W.vret (Qc := QV S E ad sz M) C.1.1 C.1.2.1 hr (fun t ht hW => ⟨⟨M, rfl, rfl, by show KW S E ad M t.heap; rw [ht]; exact hH.1⟩, hH.2.F ht⟩) hH.2.2.2 hdg C.2.1)
theorem ke_r {β : Type} {F : β → State → Prop} {b : β} (C : KB p s m c cc nL args own meth S E ad sz) (hH : KH S E ad sz M s.heap H locs) {rt : FieldType} (hr : meth.sig.returnType = some rt) (hrt : (∃ n, rt = FieldType.object n) ∨ ∃ t, rt = FieldType.array t) {mc ms : Nat} (h1 : cells ≤ mc) (h2 : slots ≤ ms) {i : Nat} (hF : F b = MQ below (QR S E ad i sz M) args s mc ms (KA S ad sz)) (hdg : decode cc pc = .ok (.areturn, 1)) :
    W p l e R s m args below meth c H locs cells slots (Qn F (some b)) (F0 m pc ls [.ref (ad i)]) := by
  show W p l e R s m args below meth c H locs cells slots (F b) (F0 m pc ls [.ref (ad i)])
  rw [hF]
  exact W.widen h1 h2 (W.aret (Qc := QR S E ad i sz M) C.1.1 C.1.2.1 hr hrt (Or.inr ⟨_, rfl⟩) (fun t ht hW => ⟨⟨M, ad i, rfl, rfl, rfl, by show KW S E ad M t.heap; rw [ht]; exact hH.1⟩, hH.2.F ht⟩) hH.2.2.2 hdg C.2.1)
theorem ke_d {β : Type} {F : β → State → Prop} {b : β} (C : KB p s m c cc nL args own meth S E ad sz) (hH : KH S E ad sz M s.heap H locs) (hr : meth.sig.returnType = some .double) {mc ms : Nat} (h1 : cells ≤ mc) (h2 : slots ≤ ms) {v : UInt64} (hF : F b = MQ below (QD S E ad sz (v, M)) args s mc ms (KA S ad sz)) (hdg : decode cc pc = .ok (.dreturn, 1)) :
    W p l e R s m args below meth c H locs cells slots (Qn F (some b)) (F0 m pc ls [.double v]) := by
  show W p l e R s m args below meth c H locs cells slots (F b) (F0 m pc ls [.double v])
  rw [hF]
  exact W.widen h1 h2 (W.dret (Qc := QD S E ad sz (v, M)) C.1.1 C.1.2.1 hr (fun t ht hW => ⟨⟨v, M, rfl, ⟨rfl, rfl⟩, by show KW S E ad M t.heap; rw [ht]; exact hH.1⟩, hH.2.F ht⟩) hH.2.2.2 hdg C.2.1)
theorem ke_f {β : Type} {F : β → State → Prop} {b : β} (C : KB p s m c cc nL args own meth S E ad sz) (hH : KH S E ad sz M s.heap H locs) (hr : meth.sig.returnType = some .float) {mc ms : Nat} (h1 : cells ≤ mc) (h2 : slots ≤ ms) {v : UInt32} (hF : F b = MQ below (QF S E ad sz (v, M)) args s mc ms (KA S ad sz)) (hdg : decode cc pc = .ok (.freturn, 1)) :
    W p l e R s m args below meth c H locs cells slots (Qn F (some b)) (F0 m pc ls [.float v]) := by
  show W p l e R s m args below meth c H locs cells slots (F b) (F0 m pc ls [.float v])
  rw [hF]
  exact W.widen h1 h2 (W.fret (Qc := QF S E ad sz (v, M)) C.1.1 C.1.2.1 hr (fun t ht hW => ⟨⟨v, M, rfl, ⟨rfl, rfl⟩, by show KW S E ad M t.heap; rw [ht]; exact hH.1⟩, hH.2.F ht⟩) hH.2.2.2 hdg C.2.1)
/-- links of calls -/
def LC (y : MethodName) (cc : ByteArray) (mL : Nat) (ret : Option FieldType) (n : Nat) : Prop := (Cond.initialized y.cls ∈ TT ∧ Cond.code y cc mL ret ∈ TT) ∧ y.cls ≠ "java/lang/invoke/MethodHandle" ∧ y.cls ≠ "java/lang/invoke/VarHandle" ∧ (parseMethodDescriptor y.desc).map (fun d => d.parameters.length) = some n
def LI (y : MethodName) (ci : Nat) : Prop := (Cond.instanceMethod y ∈ TT ∧ Cond.selects y.cls y y ∈ TT) ∧ ∃ (T : u_T) (N : Nat), vwCl[ci]? = some (y.cls, T, N)
theorem TT_app {ws : List Cond} (h : ∀ w ∈ ws, w ∈ TT) : GoodIn TT (ws ++ TT) := fun w hw => by
  have h1 : w ∈ TT := (List.mem_append.mp hw).elim (h w) id
  exact ⟨h1, TT_good w h1⟩
theorem KA_le {S : SH} {ad : Nat → Nat} {a b q : Nat} (h : a ≤ b) (hq : KA S ad b q) : KA S ad a q := hq.elim Or.inl (fun z => Or.inr (Nat.le_trans h z))
theorem KPre.blind {S : SH} {E : KE} {ad : Nat → Nat} {M : KS} {sz : Nat} {av : List Value} : FrameBlind (va_Pc av (KPre S E ad M sz)) := fun a U g mk q => by
  obtain ⟨q0, q1, q2, q3, q4, q5⟩ := q
  exact ⟨q0, q1, q2, va_K.moved (u := U) (U := U.calling g mk a) (Vm.Alike.refl U.vm) q3, NWs.same (u := U) (U := U.calling g mk a) rfl q4, q5⟩
theorem KPre.at {s U : State} {H : Heap} {locs : List Loc} {S : SH} {E : KE} {ad : Nat → Nat} {M : KS} {sz : Nat} (hK : va_K E.1 vwCl (tyE E) s) (hN : NWs s) (hI : KI S ad) (hH : KH S E ad sz M s.heap H locs) (hU : U.heap = H) (hW : s.WarmedH U.vm) : KPre S E ad M H.size U := ⟨by rw [hU], by rw [hU]; exact hH.1, va_K.moved hW.alike hK, NWs.warm hW hN, hI⟩

theorem kc_V (C : KB p s m c cc nL args own meth S E ad sz) (hH : KH S E ad sz M s.heap H locs) {β : Type} {y : MethodName} {cc9 : ByteArray} {mL9 n idx : Nat} {ret9 : Option FieldType} {rm9 : Room} {Q9 : Nat → β → Array Value → State → Outcome → State → Prop} {o9 : Option β} {As : List Value} (lk : Cond.methodLink own idx y ∈ TT) (lc : LC y cc9 mL9 ret9 n) {b ci nf : Nat} (li : LI y ci) (ob : OBJ S b ci nf) (hct : CT l y cc9 mL9 ret9 rm9 S E ad (.ref (ad b) :: As) M Q9 o9) (hst : st0 = As.reverse ++ .ref (ad b) :: rest) (hdg : decode cc pc = .ok (.invokevirtual idx, 3)) (hn : As.length = n) (hls : ls.size = nL) (hcat : (rest.map fun v => v.category).sum ≤ 8) (hR : rm9.frames + 1 ≤ R.frames ∧ 8 + (mL9 + 11) + rm9.locals ≤ R.locals) (hcap : cells + rm9.cells ≤ R.cells ∧ slots + rm9.slots ≤ R.slots) :
    ∀ a, o9 = some a → va_Run p l e R s m args below meth c H locs cells slots rm9.cells rm9.slots (F0 m pc ls st0) rest (Q9 H.size a (.ref (ad b) :: As).toArray) (KA S ad H.size) := by
  intro a ha
  obtain ⟨T, N, hci⟩ := li.2
  refine va_runV (Ts := TT) C.1 (hct H.size a ha) (cwV n C.1.2.2.2.2 ?_ rfl rfl rfl ⟨rfl, lc.2.1, lc.2.2.1, lc.2.2.2⟩ hR) ⟨KPre.blind, va_recv C.2.2.1 hH.1 (ci := ci) (q0 := b) hci (by rw [kws_at ob.1, kcell_obj ob]), fun U hU hW => ⟨rfl, KPre.at C.2.2.1 C.2.2.2.1 C.2.2.2.2.1 hH hU hW⟩⟩ rfl hn hls hst (lv_room hcat) hdg hcap
  refine TT_app (ws := [.methodLink own idx y, .instanceMethod y, .selects y.cls y y, .initialized y.cls, .code y cc9 mL9 ret9]) ?_
  intro w hw
  simp only [List.mem_cons, List.not_mem_nil, or_false] at hw
  rcases hw with rfl | rfl | rfl | rfl | rfl
  · exact lk
  · exact li.1.1
  · exact li.1.2
  · exact lc.1.1
  · exact lc.1.2
theorem kc_VN (C : KB p s m c cc nL args own meth S E ad sz) (hH : KH S E ad sz M s.heap H locs) {β : Type} {y : MethodName} {cc9 : ByteArray} {mL9 n idx : Nat} {ret9 : Option FieldType} {rm9 : Room} {Q9 : Nat → β → Array Value → State → Outcome → State → Prop} {o9 : Option β} {As : List Value} {host : String} (lk : Cond.methodLinkNest own idx y host ∈ NW) (lc : LC y cc9 mL9 ret9 n) {b ci nf : Nat} (li : LI y ci) (ob : OBJ S b ci nf) (hct : CT l y cc9 mL9 ret9 rm9 S E ad (.ref (ad b) :: As) M Q9 o9) (hst : st0 = As.reverse ++ .ref (ad b) :: rest) (hdg : decode cc pc = .ok (.invokevirtual idx, 3)) (hn : As.length = n) (hls : ls.size = nL) (hcat : (rest.map fun v => v.category).sum ≤ 8) (hR : rm9.frames + 1 ≤ R.frames ∧ 8 + (mL9 + 11) + rm9.locals ≤ R.locals) (hcap : cells + rm9.cells ≤ R.cells ∧ slots + rm9.slots ≤ R.slots) :
    ∀ a, o9 = some a → va_Run p l e R s m args below meth c H locs cells slots rm9.cells rm9.slots (F0 m pc ls st0) rest (Q9 H.size a (.ref (ad b) :: As).toArray) (KA S ad H.size) := by
  intro a ha
  obtain ⟨T, N, hci⟩ := li.2
  refine va_runVN (Ts := TT) (host := host) C.1 (hct H.size a ha) ⟨va_cnB n C.1.2.2.2.2 ?_ rfl rfl rfl (C.2.2.2.1 _ lk) (C.1.2.2.2.2 _ lc.1.1) ⟨lc.2.1, lc.2.2.1, lc.2.2.2⟩ hR, C.1.2.2.2.2 _ li.1.1, C.1.2.2.2.2 _ li.1.2⟩ ⟨KPre.blind, va_recv C.2.2.1 hH.1 (ci := ci) (q0 := b) hci (by rw [kws_at ob.1, kcell_obj ob]), fun U hU hW => ⟨rfl, KPre.at C.2.2.1 C.2.2.2.1 C.2.2.2.2.1 hH hU hW⟩⟩ rfl hn hls hst (lv_room hcat) hdg hcap
  refine TT_app (ws := [.code y cc9 mL9 ret9]) ?_
  intro w hw
  simp only [List.mem_cons, List.not_mem_nil, or_false] at hw
  subst hw
  exact lc.1.2
theorem kc_S (C : KB p s m c cc nL args own meth S E ad sz) (hH : KH S E ad sz M s.heap H locs) {β : Type} {y : MethodName} {cc9 : ByteArray} {mL9 n idx : Nat} {ret9 : Option FieldType} {rm9 : Room} {Q9 : Nat → β → Array Value → State → Outcome → State → Prop} {o9 : Option β} {As : List Value} (lk : Cond.methodLink own idx y ∈ TT) (hys : Cond.static y ∈ TT) (hyo : y.cls = own) (lc : LC y cc9 mL9 ret9 n) (hct : CT l y cc9 mL9 ret9 rm9 S E ad As M Q9 o9) (hst : st0 = As.reverse ++ rest) (hdg : decode cc pc = .ok (.invokestatic idx, 3)) (hn : As.length = n) (hls : ls.size = nL) (hcat : (rest.map fun v => v.category).sum ≤ 8) (hR : rm9.frames + 1 ≤ R.frames ∧ 8 + (mL9 + 11) + rm9.locals ≤ R.locals) (hcap : cells + rm9.cells ≤ R.cells ∧ slots + rm9.slots ≤ R.slots) :
    ∀ a, o9 = some a → va_Run p l e R s m args below meth c H locs cells slots rm9.cells rm9.slots (F0 m pc ls st0) rest (Q9 H.size a (As).toArray) (KA S ad H.size) := by
  intro a ha
  refine va_runS (Ts := TT) C.1 (hct H.size a ha) (cwS n C.1.2.2.2.2 ?_ rfl rfl rfl ⟨hyo, lc.2.1, lc.2.2.1, lc.2.2.2⟩ hR) ⟨KPre.blind, fun U hU hW => ⟨rfl, KPre.at C.2.2.1 C.2.2.2.1 C.2.2.2.2.1 hH hU hW⟩⟩ rfl hn hls hst (lv_room hcat) hdg hcap
  refine TT_app (ws := [.methodLink own idx y, .static y, .initialized own, .code y cc9 mL9 ret9]) ?_
  intro w hw
  simp only [List.mem_cons, List.not_mem_nil, or_false] at hw
  rcases hw with rfl | rfl | rfl | rfl
  · exact lk
  · exact hys
  · rw [← hyo]; exact lc.1.1
  · exact lc.1.2
theorem kc_S2 (C : KB p s m c cc nL args own meth S E ad sz) (hH : KH S E ad sz M s.heap H locs) {β : Type} {y : MethodName} {cc9 : ByteArray} {mL9 n idx : Nat} {ret9 : Option FieldType} {rm9 : Room} {Q9 : Nat → β → Array Value → State → Outcome → State → Prop} {o9 : Option β} {As : List Value} (lk : Cond.methodLink own idx y ∈ TT) (hys : Cond.static y ∈ TT) (lc : LC y cc9 mL9 ret9 n) (hct : CT l y cc9 mL9 ret9 rm9 S E ad As M Q9 o9) (hst : st0 = As.reverse ++ rest) (hdg : decode cc pc = .ok (.invokestatic idx, 3)) (hn : As.length = n) (hls : ls.size = nL) (hcat : (rest.map fun v => v.category).sum ≤ 8) (hR : rm9.frames + 1 ≤ R.frames ∧ 8 + (mL9 + 11) + rm9.locals ≤ R.locals) (hcap : cells + rm9.cells ≤ R.cells ∧ slots + rm9.slots ≤ R.slots) :
    ∀ a, o9 = some a → va_Run p l e R s m args below meth c H locs cells slots rm9.cells rm9.slots (F0 m pc ls st0) rest (Q9 H.size a (As).toArray) (KA S ad H.size) := by
  intro a ha
  refine va_runS (Ts := TT) C.1 (hct H.size a ha) ⟨callB_of n C.1.2.2.2.2 ?_ rfl rfl rfl (C.1.2.2.2.2 _ lc.1.1) (C.1.2.2.2.2 _ lk) ⟨lc.2.1, lc.2.2.1, lc.2.2.2⟩ hR, C.1.2.2.2.2 _ hys⟩ ⟨KPre.blind, fun U hU hW => ⟨rfl, KPre.at C.2.2.1 C.2.2.2.1 C.2.2.2.2.1 hH hU hW⟩⟩ rfl hn hls hst (lv_room hcat) hdg hcap
  refine TT_app (ws := [.code y cc9 mL9 ret9]) ?_
  intro w hw
  simp only [List.mem_cons, List.not_mem_nil, or_false] at hw
  subst hw
  exact lc.1.2
theorem kc_SN (C : KB p s m c cc nL args own meth S E ad sz) (hH : KH S E ad sz M s.heap H locs) {β : Type} {y : MethodName} {cc9 : ByteArray} {mL9 n idx : Nat} {ret9 : Option FieldType} {rm9 : Room} {Q9 : Nat → β → Array Value → State → Outcome → State → Prop} {o9 : Option β} {As : List Value} {host : String} (lk : Cond.methodLinkNest own idx y host ∈ NW) (hys : Cond.static y ∈ TT) (lc : LC y cc9 mL9 ret9 n) (hct : CT l y cc9 mL9 ret9 rm9 S E ad As M Q9 o9) (hst : st0 = As.reverse ++ rest) (hdg : decode cc pc = .ok (.invokestatic idx, 3)) (hn : As.length = n) (hls : ls.size = nL) (hcat : (rest.map fun v => v.category).sum ≤ 8) (hR : rm9.frames + 1 ≤ R.frames ∧ 8 + (mL9 + 11) + rm9.locals ≤ R.locals) (hcap : cells + rm9.cells ≤ R.cells ∧ slots + rm9.slots ≤ R.slots) :
    ∀ a, o9 = some a → va_Run p l e R s m args below meth c H locs cells slots rm9.cells rm9.slots (F0 m pc ls st0) rest (Q9 H.size a (As).toArray) (KA S ad H.size) := by
  intro a ha
  refine va_runSN (Ts := TT) (host := host) C.1 (hct H.size a ha) ⟨va_cnB n C.1.2.2.2.2 ?_ rfl rfl rfl (C.2.2.2.1 _ lk) (C.1.2.2.2.2 _ lc.1.1) ⟨lc.2.1, lc.2.2.1, lc.2.2.2⟩ hR, C.1.2.2.2.2 _ hys, trivial⟩ ⟨KPre.blind, fun U hU hW => ⟨rfl, KPre.at C.2.2.1 C.2.2.2.1 C.2.2.2.2.1 hH hU hW⟩⟩ rfl hn hls hst (lv_room hcat) hdg hcap
  refine TT_app (ws := [.code y cc9 mL9 ret9]) ?_
  intro w hw
  simp only [List.mem_cons, List.not_mem_nil, or_false] at hw
  subst hw
  exact lc.1.2
theorem kg_i {α : Type} {f : α → State → Prop} (C : KB p s m c cc nL args own meth S E ad sz) (hH : KH S E ad sz M s.heap H locs) {rm9 : Room} {av9 : Array Value}  {o9 : Option (Int32 × KS)} {g : Int32 × KS → Option α} (hr : ∀ a, o9 = some a → va_Run p l e R s m args below meth c H locs cells slots rm9.cells rm9.slots (F0 m pc ls st0) rest (QI S E ad H.size a av9) (KA S ad H.size)) (hz : rm9.cells = 0 ∧ rm9.slots = 0)
    (kk : ∀ (a : Int32 × KS) (H : Heap) (locs : List Loc), KH S E ad sz (a.2) s.heap H locs → W p l e R s m args below meth c H locs cells slots (Qn f (g a)) (F0 m (pc + 3) ls (.int a.1 :: rest))) : W p l e R s m args below meth c H locs cells slots (Qn f (o9.bind g)) (F0 m pc ls st0) := by
  cases ho : o9 with
  | none => exact W_none
  | some a =>
    have hle : sz ≤ H.size := by rw [← C.2.2.2.2.2]; exact hH.2.1
    refine va_calli (hr a ho) hH.2 (fun q _ h => KA_le hle h) (fun q h => KA_le hle h) (fun r u t H1 locs1 ht _ hp hB _ _ hS1 => ?_)
    refine W.cs (cells' := cells) (slots' := slots) (by rw [hz.1]; rfl) (by rw [hz.2]; rfl) ?_
    obtain ⟨rfl, rfl⟩ := hp
    exact kk a H1 locs1 ⟨by rw [← ht]; exact hB, hS1⟩
theorem kg_io {α : Type} {f : α → State → Prop} (C : KB p s m c cc nL args own meth S E ad sz) (hH : KH S E ad sz M s.heap H locs) {rm9 : Room} {av9 : Array Value}  {o9 : Option (Int32)} {g : Int32 → Option α} (hr : ∀ a, o9 = some a → va_Run p l e R s m args below meth c H locs cells slots rm9.cells rm9.slots (F0 m pc ls st0) rest (QI S E ad H.size (a, M) av9) (KA S ad H.size)) (hz : rm9.cells = 0 ∧ rm9.slots = 0)
    (kk : ∀ (a : Int32) (H : Heap) (locs : List Loc), KH S E ad sz (M) s.heap H locs → W p l e R s m args below meth c H locs cells slots (Qn f (g a)) (F0 m (pc + 3) ls (.int a :: rest))) : W p l e R s m args below meth c H locs cells slots (Qn f (o9.bind g)) (F0 m pc ls st0) := by
  cases ho : o9 with
  | none => exact W_none
  | some a =>
    have hle : sz ≤ H.size := by rw [← C.2.2.2.2.2]; exact hH.2.1
    refine va_calli (hr a ho) hH.2 (fun q _ h => KA_le hle h) (fun q h => KA_le hle h) (fun r u t H1 locs1 ht _ hp hB _ _ hS1 => ?_)
    refine W.cs (cells' := cells) (slots' := slots) (by rw [hz.1]; rfl) (by rw [hz.2]; rfl) ?_
    obtain ⟨rfl, rfl⟩ := hp
    exact kk r H1 locs1 ⟨by rw [← ht]; exact hB, hS1⟩
theorem kg_v {α : Type} {f : α → State → Prop} (C : KB p s m c cc nL args own meth S E ad sz) (hH : KH S E ad sz M s.heap H locs) {rm9 : Room} {av9 : Array Value}  {o9 : Option (KS)} {g : KS → Option α} (hr : ∀ a, o9 = some a → va_Run p l e R s m args below meth c H locs cells slots rm9.cells rm9.slots (F0 m pc ls st0) rest (QV S E ad H.size a av9) (KA S ad H.size)) (hz : rm9.cells = 0 ∧ rm9.slots = 0)
    (kk : ∀ (a : KS) (H : Heap) (locs : List Loc), KH S E ad sz (a) s.heap H locs → W p l e R s m args below meth c H locs cells slots (Qn f (g a)) (F0 m (pc + 3) ls (rest))) : W p l e R s m args below meth c H locs cells slots (Qn f (o9.bind g)) (F0 m pc ls st0) := by
  cases ho : o9 with
  | none => exact W_none
  | some a =>
    have hle : sz ≤ H.size := by rw [← C.2.2.2.2.2]; exact hH.2.1
    refine va_callv (hr a ho) hH.2 (fun q _ h => KA_le hle h) (fun q h => KA_le hle h) (fun u t H1 locs1 ht _ hp hB _ _ hS1 => ?_)
    refine W.cs (cells' := cells) (slots' := slots) (by rw [hz.1]; rfl) (by rw [hz.2]; rfl) ?_
    subst hp
    exact kk u H1 locs1 ⟨by rw [← ht]; exact hB, hS1⟩
theorem kg_r {α : Type} {f : α → State → Prop} (C : KB p s m c cc nL args own meth S E ad sz) (hH : KH S E ad sz M s.heap H locs) {rm9 : Room} {av9 : Array Value} {i9 : Nat} {o9 : Option (KS)} {g : KS → Option α} (hr : ∀ a, o9 = some a → va_Run p l e R s m args below meth c H locs cells slots rm9.cells rm9.slots (F0 m pc ls st0) rest (QR S E ad i9 H.size a av9) (KA S ad H.size)) (hz : rm9.cells = 0 ∧ rm9.slots = 0)
    (kk : ∀ (a : KS) (H : Heap) (locs : List Loc), KH S E ad sz (a) s.heap H locs → W p l e R s m args below meth c H locs cells slots (Qn f (g a)) (F0 m (pc + 3) ls (.ref (ad i9) :: rest))) : W p l e R s m args below meth c H locs cells slots (Qn f (o9.bind g)) (F0 m pc ls st0) := by
  cases ho : o9 with
  | none => exact W_none
  | some a =>
    have hle : sz ≤ H.size := by rw [← C.2.2.2.2.2]; exact hH.2.1
    refine va_callr (hr a ho) hH.2 (fun q _ h => KA_le hle h) (fun q h => KA_le hle h) (fun u ra t H1 locs1 ht _ hp hB _ _ hS1 => ?_)
    refine W.cs (cells' := cells) (slots' := slots) (by rw [hz.1]; rfl) (by rw [hz.2]; rfl) ?_
    obtain ⟨hq, hB⟩ := hB
    subst hp hq
    exact kk u H1 locs1 ⟨by rw [← ht]; exact hB, hS1⟩
theorem kg_d {α : Type} {f : α → State → Prop} (C : KB p s m c cc nL args own meth S E ad sz) (hH : KH S E ad sz M s.heap H locs) {rm9 : Room} {av9 : Array Value}  {o9 : Option (UInt64 × KS)} {g : UInt64 × KS → Option α} (hr : ∀ a, o9 = some a → va_Run p l e R s m args below meth c H locs cells slots rm9.cells rm9.slots (F0 m pc ls st0) rest (QD S E ad H.size a av9) (KA S ad H.size)) (hz : rm9.cells = 0 ∧ rm9.slots = 0)
    (kk : ∀ (a : UInt64 × KS) (H : Heap) (locs : List Loc), KH S E ad sz (a.2) s.heap H locs → W p l e R s m args below meth c H locs cells slots (Qn f (g a)) (F0 m (pc + 3) ls (.double a.1 :: rest))) : W p l e R s m args below meth c H locs cells slots (Qn f (o9.bind g)) (F0 m pc ls st0) := by
  cases ho : o9 with
  | none => exact W_none
  | some a =>
    have hle : sz ≤ H.size := by rw [← C.2.2.2.2.2]; exact hH.2.1
    refine va_calld (hr a ho) hH.2 (fun q _ h => KA_le hle h) (fun q h => KA_le hle h) (fun r u t H1 locs1 ht _ hp hB _ _ hS1 => ?_)
    refine W.cs (cells' := cells) (slots' := slots) (by rw [hz.1]; rfl) (by rw [hz.2]; rfl) ?_
    obtain ⟨rfl, rfl⟩ := hp
    exact kk a H1 locs1 ⟨by rw [← ht]; exact hB, hS1⟩
theorem kg_f {α : Type} {f : α → State → Prop} (C : KB p s m c cc nL args own meth S E ad sz) (hH : KH S E ad sz M s.heap H locs) {rm9 : Room} {av9 : Array Value}  {o9 : Option (UInt32 × KS)} {g : UInt32 × KS → Option α} (hr : ∀ a, o9 = some a → va_Run p l e R s m args below meth c H locs cells slots rm9.cells rm9.slots (F0 m pc ls st0) rest (QF S E ad H.size a av9) (KA S ad H.size)) (hz : rm9.cells = 0 ∧ rm9.slots = 0)
    (kk : ∀ (a : UInt32 × KS) (H : Heap) (locs : List Loc), KH S E ad sz (a.2) s.heap H locs → W p l e R s m args below meth c H locs cells slots (Qn f (g a)) (F0 m (pc + 3) ls (.float a.1 :: rest))) : W p l e R s m args below meth c H locs cells slots (Qn f (o9.bind g)) (F0 m pc ls st0) := by
  cases ho : o9 with
  | none => exact W_none
  | some a =>
    have hle : sz ≤ H.size := by rw [← C.2.2.2.2.2]; exact hH.2.1
    refine va_callf (hr a ho) hH.2 (fun q _ h => KA_le hle h) (fun q h => KA_le hle h) (fun r u t H1 locs1 ht _ hp hB _ _ hS1 => ?_)
    refine W.cs (cells' := cells) (slots' := slots) (by rw [hz.1]; rfl) (by rw [hz.2]; rfl) ?_
    obtain ⟨rfl, rfl⟩ := hp
    exact kk a H1 locs1 ⟨by rw [← ht]; exact hB, hS1⟩
theorem kg_ip {α : Type} {f : α → State → Prop} (C : KB p s m c cc nL args own meth S E ad sz) (hH : KH S E ad sz M s.heap H locs) {rm9 : Room} {av9 : Array Value} {v : Int32} {o : Option α} (hr : ∀ a : Unit, some () = some a → va_Run p l e R s m args below meth c H locs cells slots rm9.cells rm9.slots (F0 m pc ls st0) rest (QI S E ad H.size (v, M) av9) (KA S ad H.size)) (hz : rm9.cells = 0 ∧ rm9.slots = 0)
    (kk : ∀ (H : Heap) (locs : List Loc), KH S E ad sz M s.heap H locs → W p l e R s m args below meth c H locs cells slots (Qn f o) (F0 m (pc + 3) ls (.int v :: rest))) : W p l e R s m args below meth c H locs cells slots (Qn f o) (F0 m pc ls st0) := by
  have hle : sz ≤ H.size := by rw [← C.2.2.2.2.2]; exact hH.2.1
  refine va_calli (hr () rfl) hH.2 (fun q _ h => KA_le hle h) (fun q h => KA_le hle h) (fun r u t H1 locs1 ht _ hp hB _ _ hS1 => ?_)
  refine W.cs (cells' := cells) (slots' := slots) (by rw [hz.1]; rfl) (by rw [hz.2]; rfl) ?_
  obtain ⟨rfl, rfl⟩ := hp
  exact kk H1 locs1 ⟨by rw [← ht]; exact hB, hS1⟩
/-- a total function's contract out of a partial one's -/
theorem CT.pure {l : Launch} {y : MethodName} {cc : ByteArray} {maxL : Nat} {ret : Option FieldType} {rm : Room} {S : SH} {E : KE} {ad : Nat → Nat} {av : List Value} {M : KS} {o : Option Int32} {v : Int32} (h : CT l y cc maxL ret rm S E ad av M (fun sz a => QI S E ad sz (a, M)) o) (ho : o = some v) : CT l y cc maxL ret rm S E ad av M (fun sz (_ : Unit) => QI S E ad sz (v, M)) (some ()) := fun sz _ _ => h sz v ho
theorem k_put1 {α : Type} {f : α → State → Prop} {g : KS → Option α} (C : KB p s m c cc nL args own meth S E ad sz) (hH : KH S E ad sz M s.heap H locs) {i ci N k idx : Nat} {Cn : String} {T : u_T} {ty : FieldType} (fl : FLD own idx Cn T N ci k) (fw : FLW T N k ty) (o : OBJ S i ci N) (hr : S.2.2.2.2 i k = none) {v : Int32} (hn : narrow ty (.int v) = .int v) (hf : fits ty (.int v) = true) (hdg : decode cc pc = .ok (.putfield idx, 3))
    (kk : ∀ (M1 : KS) (H : Heap) (locs : List Loc), KH S E ad sz M1 s.heap H locs → W p l e R s m args below meth c H locs cells slots (Qn f (g M1)) (F0 m (pc + 3) ls rest)) : W p l e R s m args below meth c H locs cells slots (Qn f (nm (kset M i k v) g)) (F0 m pc ls (.int v :: .ref (ad i) :: rest)) := k_put C hH fl fw o hr hn hf hdg (kk _)
theorem k_put1N {α : Type} {f : α → State → Prop} {g : KS → Option α} (C : KB p s m c cc nL args own meth S E ad sz) (hH : KH S E ad sz M s.heap H locs) {i ci N k idx : Nat} {Cn host : String} {T : u_T} {ty : FieldType} (fl : FLN own idx Cn T N ci k host) (fw : FLW T N k ty) (o : OBJ S i ci N) (hr : S.2.2.2.2 i k = none) {v : Int32} (hn : narrow ty (.int v) = .int v) (hf : fits ty (.int v) = true) (hdg : decode cc pc = .ok (.putfield idx, 3))
    (kk : ∀ (M1 : KS) (H : Heap) (locs : List Loc), KH S E ad sz M1 s.heap H locs → W p l e R s m args below meth c H locs cells slots (Qn f (g M1)) (F0 m (pc + 3) ls rest)) : W p l e R s m args below meth c H locs cells slots (Qn f (nm (kset M i k v) g)) (F0 m pc ls (.int v :: .ref (ad i) :: rest)) := k_putN C hH fl fw o hr hn hf hdg (kk _)
end KROWS2
