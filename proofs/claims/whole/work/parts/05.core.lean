/-! ===== the core: a system of cells at fixed addresses, its data as one value, methods as partial functions of it ===== -/
/-- data: place j of cell i (int, boolean, char fields and elements), and the one row of longs -/
abbrev KS : Type := (Nat → Nat → Int32) × (Nat → Int64)
def kset (M : KS) (i j : Nat) (v : Int32) : KS := (fun a b => if a = i ∧ b = j then v else M.1 a b, M.2)
def ksetL (M : KS) (j : Nat) (v : Int64) : KS := (M.1, fun b => if b = j then v else M.2 b)
/-- what the tables say: classes, fields' slots, array classes -/
abbrev KE : Type := va_G × (ClassId × ClassId × ClassId × ClassId × ClassId × ClassId)
def tyE (E : KE) : List (ClassId × FieldType) := [(E.2.1, .int), (E.2.2.1, .char), (E.2.2.2.1, .boolean), (E.2.2.2.2.1, .long), (E.2.2.2.2.2.1, .object "KinFacts$State"), (E.2.2.2.2.2.2, .double)]
/-- a shape: how many cells; of each its kind (0 object, 1 ints, 2 chars, 3 booleans, 4 longs, 5 references), class, length, references -/
abbrev SH : Type := Nat × (Nat → Nat) × (Nat → Nat) × (Nat → Nat) × (Nat → Nat → Option Nat)
def kcell (S : SH) (E : KE) (ad : Nat → Nat) (M : KS) (i : Nat) : va_E :=
  if S.2.1 i = 0 then .inr (S.2.2.1 i, (List.range (S.2.2.2.1 i)).map (fun k => match S.2.2.2.2 i k with | some r => Value.ref (ad r) | none => Value.int (M.1 i k)))
  else if S.2.1 i = 1 then .inl (E.2.1, S.2.2.2.1 i, .inl (M.1 i))
  else if S.2.1 i = 2 then .inl (E.2.2.1, S.2.2.2.1 i, .inl (M.1 i))
  else if S.2.1 i = 3 then .inl (E.2.2.2.1, S.2.2.2.1 i, .inl (M.1 i))
  else if S.2.1 i = 4 then .inl (E.2.2.2.2.1, S.2.2.2.1 i, .inr (.inl M.2))
  else .inl (E.2.2.2.2.2.1, S.2.2.2.1 i, .inr (.inr (.inr (.inr (fun k => (S.2.2.2.2 i k).map ad)))))
def kws (S : SH) (E : KE) (ad : Nat → Nat) (M : KS) : va_W := (List.range S.1).map (fun i => (ad i, kcell S E ad M i))
theorem kws_at {S : SH} {E : KE} {ad : Nat → Nat} {M : KS} {i : Nat} (h : i < S.1) : (kws S E ad M)[i]? = some (ad i, kcell S E ad M i) := by
  simp [kws, h]
theorem kws_set {S : SH} {E : KE} {ad : Nat → Nat} {M M' : KS} {i : Nat} {x : va_E} (h : i < S.1) (he : kcell S E ad M' i = x) (ho : ∀ j, j ≠ i → kcell S E ad M' j = kcell S E ad M j) : (kws S E ad M).set i (ad i, x) = kws S E ad M' := by
  apply List.ext_getElem?
  intro j
  rw [List.getElem?_set]
  by_cases hj : i = j
  · subst hj
    rw [if_pos rfl, kws_at h, he]
    simp [kws, h]
  · rw [if_neg hj]
    by_cases hl : j < S.1
    · rw [kws_at hl, kws_at hl, ho j (fun z => hj z.symm)]
    · rw [List.getElem?_eq_none (by simp [kws]; omega), List.getElem?_eq_none (by simp [kws]; omega)]
theorem kset_1 (M : KS) (i k : Nat) (v : Int32) : (kset M i k v).1 i = upd (M.1 i) k v := by
  funext b
  simp [kset, upd]
theorem kset_1n {M : KS} {i j k : Nat} {v : Int32} (h : j ≠ i) : (kset M i k v).1 j = M.1 j := by
  funext b
  simp [kset, h]
theorem kset_2 (M : KS) (i k : Nat) (v : Int32) : (kset M i k v).2 = M.2 := rfl
theorem kcell_n {S : SH} {E : KE} {ad : Nat → Nat} {M M' : KS} {j : Nat} (h1 : M'.1 j = M.1 j) (h2 : M'.2 = M.2 ∨ S.2.1 j ≠ 4) : kcell S E ad M' j = kcell S E ad M j := by
  unfold kcell
  rw [h1]
  by_cases h4 : S.2.1 j = 4
  · have h3 := h2.resolve_right (fun z => z h4)
    rw [h3]
  · rw [if_neg h4, if_neg h4]
/-- an object of the shape -/
def OBJ (S : SH) (i ci n : Nat) : Prop := i < S.1 ∧ S.2.1 i = 0 ∧ S.2.2.1 i = ci ∧ S.2.2.2.1 i = n
/-- an array of the shape -/
def ARR (S : SH) (i kd n : Nat) : Prop := i < S.1 ∧ S.2.1 i = kd ∧ S.2.2.2.1 i = n
theorem kcell_obj {S : SH} {E : KE} {ad : Nat → Nat} {M : KS} {i ci n : Nat} (h : OBJ S i ci n) : kcell S E ad M i = .inr (ci, (List.range n).map (fun k => match S.2.2.2.2 i k with | some r => Value.ref (ad r) | none => Value.int (M.1 i k))) := by
  unfold kcell
  rw [if_pos h.2.1, h.2.2.1, h.2.2.2]
theorem kcell_i {S : SH} {E : KE} {ad : Nat → Nat} {M : KS} {i n : Nat} (h : ARR S i 1 n) : kcell S E ad M i = .inl (E.2.1, n, .inl (M.1 i)) := by
  simp [kcell, h.2.1, h.2.2]
theorem kcell_c {S : SH} {E : KE} {ad : Nat → Nat} {M : KS} {i n : Nat} (h : ARR S i 2 n) : kcell S E ad M i = .inl (E.2.2.1, n, .inl (M.1 i)) := by
  simp [kcell, h.2.1, h.2.2]
theorem kcell_z {S : SH} {E : KE} {ad : Nat → Nat} {M : KS} {i n : Nat} (h : ARR S i 3 n) : kcell S E ad M i = .inl (E.2.2.2.1, n, .inl (M.1 i)) := by
  simp [kcell, h.2.1, h.2.2]
theorem kcell_l {S : SH} {E : KE} {ad : Nat → Nat} {M : KS} {i n : Nat} (h : ARR S i 4 n) : kcell S E ad M i = .inl (E.2.2.2.2.1, n, .inr (.inl M.2)) := by
  simp [kcell, h.2.1, h.2.2]
theorem kcell_q {S : SH} {E : KE} {ad : Nat → Nat} {M : KS} {i n : Nat} (h : ARR S i 5 n) : kcell S E ad M i = .inl (E.2.2.2.2.2.1, n, .inr (.inr (.inr (.inr (fun k => (S.2.2.2.2 i k).map ad))))) := by
  simp [kcell, h.2.1, h.2.2]
def NWs (U : State) : Prop := ∀ w ∈ NW, va_Nw w U
theorem NWs.same {u U : State} (h : u.vm = U.vm) (hZ : NWs u) : NWs U := fun w hw => by
  have h1 := (List.mem_filter.mp hw).2
  have h2 := hZ w hw
  cases w <;> first | exact va_Nw.same rfl h h2 | exact absurd h1 (by simp [isNest])
theorem NWs.warm {u U : State} (hW : u.WarmedH U.vm) (hZ : NWs u) : NWs U := fun w hw => by
  have h1 := (List.mem_filter.mp hw).2
  have h2 := hZ w hw
  cases w <;> first | exact va_Nw.warmF hW h2 | exact va_Nw.warmM hW h2 | exact absurd h1 (by simp [isNest])
theorem NWs.of {A : Array Value} {U : State} (h : ∀ w ∈ lw_tbl, w.before A U = true) : NWs U := fun w hw => by
  have h1 := (List.mem_filter.mp hw).2
  have h2 := h w (List.mem_filter.mp hw).1
  cases w <;> first | exact va_Nw.of rfl h2 | exact absurd h1 (by simp [isNest])
/-- the system's cells hold M -/
def KW (S : SH) (E : KE) (ad : Nat → Nat) (M : KS) (H : Heap) : Prop := va_P E.1 vwCl (kws S E ad M) H
/-- the system's cells, and new ones -/
def KA (S : SH) (ad : Nat → Nat) (sz : Nat) : Nat → Prop := fun q => (∃ i, i < S.1 ∧ q = ad i) ∨ sz ≤ q
def KI (S : SH) (ad : Nat → Nat) : Prop := ∀ i j, i < S.1 → j < S.1 → ad i = ad j → i = j
theorem kws_lt {S : SH} {E : KE} {ad : Nat → Nat} {M : KS} {k : Nat} {q : Nat × va_E} (h : (kws S E ad M)[k]? = some q) : k < S.1 ∧ q = (ad k, kcell S E ad M k) := by
  have hl : k < S.1 := by
    have := (List.getElem?_eq_some_iff.mp h).1
    simpa [kws] using this
  rw [kws_at hl] at h
  exact ⟨hl, (Option.some.inj h).symm⟩
theorem kD {S : SH} {E : KE} {ad : Nat → Nat} {M : KS} {sz : Nat} (h : KI S ad) : va_D (KA S ad sz) (kws S E ad M) := by
  refine ⟨fun i j p q hi hj hpq => ?_, fun k q hk => ?_⟩
  · obtain ⟨h1, rfl⟩ := kws_lt hi
    obtain ⟨h2, rfl⟩ := kws_lt hj
    exact h i j h1 h2 hpq
  · obtain ⟨h1, rfl⟩ := kws_lt hk
    exact Or.inl ⟨k, h1, rfl⟩
/-- what stays with a frame -/
def KB (p : Program) (s : State) (m : MethodId) (c : Code) (cc : ByteArray) (nL : Nat) (args : Array Value) (own : String) (meth : Method) (S : SH) (E : KE) (ad : Nat → Nat) (sz : Nat) : Prop :=
  CallFix p m c cc nL s args TT own ∧ meth.locks = false ∧ va_K E.1 vwCl (tyE E) s ∧ NWs s ∧ KI S ad ∧ s.heap.size = sz
/-- what moves with a frame -/
def KH (S : SH) (E : KE) (ad : Nat → Nat) (sz : Nat) (M : KS) (H0 H : Heap) (locs : List Loc) : Prop := KW S E ad M H ∧ va_S (KA S ad sz) H0 H locs
def KPre (S : SH) (E : KE) (ad : Nat → Nat) (M : KS) (sz : Nat) (U : State) : Prop := U.heap.size = sz ∧ KW S E ad M U.heap ∧ va_K E.1 vwCl (tyE E) U ∧ NWs U ∧ KI S ad
def KPo (S : SH) (E : KE) (ad : Nat → Nat) (u : KS) (t : State) : Prop := KW S E ad u t.heap
/-- the end of a walk, told by a partial function -/
def Qn {α : Type} (f : α → State → Prop) (o : Option α) : State → Prop := fun t => match o with | none => True | some a => f a t
/-- ends: an int with the data, the data, a cell of the system with the data, a double, a float -/
def QI (S : SH) (E : KE) (ad : Nat → Nat) (sz : Nat) (a : Int32 × KS) : Array Value → State → Outcome → State → Prop := va_Qi (fun r u => r = a.1 ∧ u = a.2) (KPo S E ad) (KA S ad sz)
def QV (S : SH) (E : KE) (ad : Nat → Nat) (sz : Nat) (a : KS) : Array Value → State → Outcome → State → Prop := va_Qv (fun u => u = a) (KPo S E ad) (KA S ad sz)
def QR (S : SH) (E : KE) (ad : Nat → Nat) (i : Nat) (sz : Nat) (a : KS) : Array Value → State → Outcome → State → Prop := va_Qr (fun u => u = a) (fun u q t => q = ad i ∧ KPo S E ad u t) (KA S ad sz)
def QD (S : SH) (E : KE) (ad : Nat → Nat) (sz : Nat) (a : UInt64 × KS) : Array Value → State → Outcome → State → Prop := va_Qd (fun r u => r = a.1 ∧ u = a.2) (KPo S E ad) (KA S ad sz)
def QF (S : SH) (E : KE) (ad : Nat → Nat) (sz : Nat) (a : UInt32 × KS) : Array Value → State → Outcome → State → Prop := va_Qf (fun r u => r = a.1 ∧ u = a.2) (KPo S E ad) (KA S ad sz)
/-- a method's contract: where the function has a value, the method ends so -/
def CT {α : Type} (l : Launch) (y : MethodName) (cc : ByteArray) (maxL : Nat) (ret : Option FieldType) (rm : Room) (S : SH) (E : KE) (ad : Nat → Nat) (av : List Value) (M : KS) (Q : Nat → α → Array Value → State → Outcome → State → Prop) (o : Option α) : Prop :=
  ∀ (sz : Nat) (a : α), o = some a → Met l y (.code y cc maxL ret :: TT) rm (va_Pc av (KPre S E ad M sz)) (Q sz a) rm.cells rm.slots (KA S ad sz)
theorem CT.ofW {α : Type} {l : Launch} {y : MethodName} {cc : ByteArray} {maxL : Nat} {ret : Option FieldType} {rm : Room} {S : SH} {E : KE} {ad : Nat → Nat} {av : List Value} {M : KS} {Q : Nat → α → Array Value → State → Outcome → State → Prop} {o : Option α}
    (hy : plainName y.cls = true) (hn : (lg_sl av).length ≤ maxL)
    (body : ∀ (sz : Nat) (p : Program) (e : Env) (s : State) (m : MethodId) (args : Array Value) (below : List Frame) (meth : Method) (c : Code), KB p s m c cc maxL args y.cls meth S E ad sz → meth.sig.returnType = ret → KH S E ad sz M s.heap s.heap [] → ∀ ls : Array Slot, lv_has ls maxL (lv_args 0 av) →
      W p l e rm s m args below meth c s.heap [] 0 0 (Qn (fun a => MQ below (Q sz a) args s rm.cells rm.slots (KA S ad sz)) o) (F0 m 0 ls [])) : CT l y cc maxL ret rm S E ad av M Q o := by
  intro sz a ho
  refine Met.ofW (cc := cc) (maxL := maxL) (ret := ret) hy rfl ?_
  intro p e s m args below meth c s₁ B hml hv
  obtain ⟨rfl, hsz, hW, hK, hN, hI⟩ := hv
  have hts := atoms_spec (ws := .code y cc maxL ret :: TT) B.pre
  have hl := lv_entry av (n := maxL) hn
  rw [lg_entry_eq]
  generalize (lg_sl av ++ List.replicate (maxL - (lg_sl av).length) Slot.unset).toArray = ls at hl ⊢
  have h := body sz p e s m av.toArray below meth c ⟨⟨B.exec, B.bytes, hml, findClass_of_methodNamed B.named, fun w hw => hts w (List.mem_cons_of_mem _ hw)⟩, B.notSynchronized, hK, hN, hI, hsz⟩ B.returns ⟨hW, va_S.rf⟩ ls hl
  rw [ho] at h
  exact h
section KROWS
variable {p : Program} {l : Launch} {e : Env} {R : Room} {s : State} {m : MethodId} {args : Array Value} {below : List Frame} {meth : Method} {c : Code} {H : Heap} {locs : List Loc} {cells slots : Nat} {Q : State → Prop}
variable {cc : ByteArray} {nL : Nat} {own : String} {S : SH} {E : KE} {ad : Nat → Nat} {sz : Nat} {M : KS} {pc : Nat} {ls : Array Slot} {rest : List Value}
theorem W_none {α : Type} {f : α → State → Prop} {g : JFrame} : W p l e R s m args below meth c H locs cells slots (Qn f none) g := fun T _ _ => ⟨T.setTop g, Steps.refl _, trivial⟩
theorem W_q {α : Type} {f : α → State → Prop} {g : JFrame} {o o' : Option α} (h : o = o') (k : W p l e R s m args below meth c H locs cells slots (Qn f o') g) : W p l e R s m args below meth c H locs cells slots (Qn f o) g := by rw [h]; exact k
theorem W_if {α : Type} {f : α → State → Prop} {g : JFrame} {o : Option α} {b : Prop} {dec : Decidable b} (k : b → W p l e R s m args below meth c H locs cells slots (Qn f o) g) : W p l e R s m args below meth c H locs cells slots (Qn f (@ite _ b dec o none)) g := by
  by_cases hb : b
  · rw [if_pos hb]; exact k hb
  · rw [if_neg hb]; exact W_none
/-- a field's link -/
def FLD (own : String) (idx : Nat) (C : String) (T : u_T) (N ci k : Nat) : Prop := (∀ w ∈ u_ws C T N, w ∈ TT) ∧ vwCl[ci]? = some (C, T, N) ∧ k < N ∧ Cond.fieldLink own idx C (T k).2.1 (T k).2.2.1 ∈ TT ∧ (T k).1 = C
def FLN (own : String) (idx : Nat) (C : String) (T : u_T) (N ci k : Nat) (host : String) : Prop := (∀ w ∈ u_ws C T N, w ∈ TT) ∧ vwCl[ci]? = some (C, T, N) ∧ k < N ∧ Cond.fieldLinkNest own idx C (T k).2.1 (T k).2.2.1 host ∈ NW ∧ (T k).1 = C
/-- a field that may be written -/
def FLW (T : u_T) (N k : Nat) (ty : FieldType) : Prop := (∃ ty0 : Nat → FieldType, ∀ k, k < N → parseFieldDescriptor (T k).2.2.1 = some (ty0 k)) ∧ (∀ a, a < N → ∀ b, b < N → a ≠ b → (T a).2.1 ≠ (T b).2.1) ∧ (T k).2.2.2 = false ∧ parseFieldDescriptor (T k).2.2.1 = some ty
theorem k_fs {i ci n k : Nat} (h : k < n) : ((List.range n).map (fun k => match S.2.2.2.2 i k with | some r => Value.ref (ad r) | none => Value.int (M.1 i k)))[k]? = some (match S.2.2.2.2 i k with | some r => Value.ref (ad r) | none => Value.int (M.1 i k)) := by
  simp [h]
theorem k_get (C : KB p s m c cc nL args own meth S E ad sz) (hH : KH S E ad sz M s.heap H locs) {i ci N k idx : Nat} {Cn : String} {T : u_T} (f : FLD own idx Cn T N ci k) (o : OBJ S i ci N) {v : Value} (hv : (match S.2.2.2.2 i k with | some r => Value.ref (ad r) | none => Value.int (M.1 i k)) = v) (hdg : decode cc pc = .ok (.getfield idx, 3))
    (kk : W p l e R s m args below meth c H locs cells slots Q (F0 m (pc + 3) ls (v :: rest))) : W p l e R s m args below meth c H locs cells slots Q (F0 m pc ls (.ref (ad i) :: rest)) := by
  obtain ⟨⟨hx, hb, hml, hown, hts⟩, -, hK, -⟩ := C
  obtain ⟨f1, f2, f3, f4, f5⟩ := f
  subst hv
  refine va_get (D := E.1) (ci := ci) (k := k) (C := Cn) (T := T) (N := N) (ref := Cn) hx hb hts f1 hown hK hH.1 i (by rw [kws_at o.1, kcell_obj o]) f2 f3 (hts _ f4) ?_ (k_fs (ci := ci) f3) hdg kk
  intro x h
  rw [f5] at h
  exact h
theorem k_getN (C : KB p s m c cc nL args own meth S E ad sz) (hH : KH S E ad sz M s.heap H locs) {i ci N k idx : Nat} {Cn host : String} {T : u_T} (f : FLN own idx Cn T N ci k host) (o : OBJ S i ci N) {v : Value} (hv : (match S.2.2.2.2 i k with | some r => Value.ref (ad r) | none => Value.int (M.1 i k)) = v) (hdg : decode cc pc = .ok (.getfield idx, 3))
    (kk : W p l e R s m args below meth c H locs cells slots Q (F0 m (pc + 3) ls (v :: rest))) : W p l e R s m args below meth c H locs cells slots Q (F0 m pc ls (.ref (ad i) :: rest)) := by
  obtain ⟨⟨hx, hb, hml, hown, hts⟩, -, hK, hN, -⟩ := C
  obtain ⟨f1, f2, f3, f4, f5⟩ := f
  subst hv
  refine va_getN (D := E.1) (ci := ci) (k := k) (C := Cn) (T := T) (N := N) (ref := Cn) (host := host) hx hb hts f1 hown hK hH.1 i (by rw [kws_at o.1, kcell_obj o]) f2 f3 (va_Nw.use rfl (hN _ f4)) ?_ (k_fs (ci := ci) f3) hdg kk
  intro x h
  rw [f5] at h
  exact h
theorem k_ref {i k r : Nat} (h : S.2.2.2.2 i k = some r) : (match S.2.2.2.2 i k with | some r => Value.ref (ad r) | none => Value.int (M.1 i k)) = .ref (ad r) := by rw [h]
theorem k_int {i k : Nat} (h : S.2.2.2.2 i k = none) : (match S.2.2.2.2 i k with | some r => Value.ref (ad r) | none => Value.int (M.1 i k)) = .int (M.1 i k) := by rw [h]
theorem k_putc {i ci N k : Nat} {v : Int32} (o : OBJ S i ci N) (hk : k < N) (hr : S.2.2.2.2 i k = none) : (kws S E ad M).set i (ad i, .inr (ci, ((List.range N).map (fun k => match S.2.2.2.2 i k with | some r => Value.ref (ad r) | none => Value.int (M.1 i k))).set k (.int v))) = kws S E ad (kset M i k v) := by
  refine kws_set o.1 ?_ (fun j hj => kcell_n (kset_1n hj) (Or.inl rfl))
  rw [kcell_obj o]
  congr 2
  apply List.ext_getElem?
  intro j
  rw [List.getElem?_set]
  by_cases hj : k = j
  · subst hj
    rw [if_pos rfl]
    simp [hk, hr, kset]
  · rw [if_neg hj]
    by_cases hl : j < N
    · simp [hl, kset, Ne.symm hj]
    · rw [List.getElem?_eq_none (by simp; omega), List.getElem?_eq_none (by simp; omega)]
theorem k_put (C : KB p s m c cc nL args own meth S E ad sz) (hH : KH S E ad sz M s.heap H locs) {i ci N k idx : Nat} {Cn : String} {T : u_T} {ty : FieldType} (f : FLD own idx Cn T N ci k) (fw : FLW T N k ty) (o : OBJ S i ci N) (hr : S.2.2.2.2 i k = none) {v : Int32} (hn : narrow ty (.int v) = .int v) (hf : fits ty (.int v) = true) (hdg : decode cc pc = .ok (.putfield idx, 3))
    (kk : ∀ (H : Heap) (locs : List Loc), KH S E ad sz (kset M i k v) s.heap H locs → W p l e R s m args below meth c H locs cells slots Q (F0 m (pc + 3) ls rest)) : W p l e R s m args below meth c H locs cells slots Q (F0 m pc ls (.int v :: .ref (ad i) :: rest)) := by
  obtain ⟨⟨hx, hb, hml, hown, hts⟩, -, hK, -, hI, hsz⟩ := C
  obtain ⟨f1, f2, f3, f4, f5⟩ := f
  obtain ⟨⟨ty0, g1⟩, g2, g3, g4⟩ := fw
  refine va_put (D := E.1) (ci := ci) (k := k) (C := Cn) (T := T) (N := N) (ref := Cn) (v := .int v) (ty := ty) hx hb hts f1 ty0 g1 g2 hown hK hH.1 (kD hI) hH.2 i (by rw [kws_at o.1, kcell_obj o]) f2 f3 (hts _ f4) ?_ g3 g4 hn hf (by simp; exact f3) hdg (fun H1 locs1 hP hD hS => kk H1 locs1 ⟨?_, hS⟩)
  · intro x h
    rw [f5] at h
    exact h
  · rw [k_putc o f3 hr] at hP
    exact hP
theorem k_putN (C : KB p s m c cc nL args own meth S E ad sz) (hH : KH S E ad sz M s.heap H locs) {i ci N k idx : Nat} {Cn host : String} {T : u_T} {ty : FieldType} (f : FLN own idx Cn T N ci k host) (fw : FLW T N k ty) (o : OBJ S i ci N) (hr : S.2.2.2.2 i k = none) {v : Int32} (hn : narrow ty (.int v) = .int v) (hf : fits ty (.int v) = true) (hdg : decode cc pc = .ok (.putfield idx, 3))
    (kk : ∀ (H : Heap) (locs : List Loc), KH S E ad sz (kset M i k v) s.heap H locs → W p l e R s m args below meth c H locs cells slots Q (F0 m (pc + 3) ls rest)) : W p l e R s m args below meth c H locs cells slots Q (F0 m pc ls (.int v :: .ref (ad i) :: rest)) := by
  obtain ⟨⟨hx, hb, hml, hown, hts⟩, -, hK, hN, hI, hsz⟩ := C
  obtain ⟨f1, f2, f3, f4, f5⟩ := f
  obtain ⟨⟨ty0, g1⟩, g2, g3, g4⟩ := fw
  refine va_putN (D := E.1) (ci := ci) (k := k) (C := Cn) (T := T) (N := N) (ref := Cn) (host := host) (v := .int v) (ty := ty) hx hb hts f1 ty0 g1 g2 hown hK hH.1 (kD hI) hH.2 i (by rw [kws_at o.1, kcell_obj o]) f2 f3 (va_Nw.use rfl (hN _ f4)) ?_ g3 g4 hn hf (by simp; exact f3) hdg (fun H1 locs1 hP hD hS => kk H1 locs1 ⟨?_, hS⟩)
  · intro x h
    rw [f5] at h
    exact h
  · rw [k_putc o f3 hr] at hP
    exact hP
end KROWS
