/-! constructors: the object that is made lies at b, all that it makes behind sz -/
def ca (b sz k : Nat) : Nat := if k = 0 then b else sz + (k - 1)
def cw (b sz : Nat) (L : List va_E) : va_W := L.mapIdx (fun k e => (ca b sz k, e))
def CA (b sz : Nat) : Nat → Prop := fun q => q = b ∨ sz ≤ q
theorem cw_at {b sz : Nat} {L : List va_E} (k : Nat) : (cw b sz L)[k]? = (L[k]?).map (fun e => (ca b sz k, e)) := by simp [cw]
theorem cw_get {b sz : Nat} {L : List va_E} {k : Nat} {e : va_E} (h : L[k]? = some e) : (cw b sz L)[k]? = some (ca b sz k, e) := by rw [cw_at, h]; rfl
theorem cw_of {b sz : Nat} {L : List va_E} {k : Nat} {q : Nat × va_E} (h : (cw b sz L)[k]? = some q) : ∃ e, L[k]? = some e ∧ q = (ca b sz k, e) := by
  rw [cw_at] at h
  cases hk : L[k]? with
  | none => rw [hk] at h; cases h
  | some e => rw [hk] at h; cases h; exact ⟨e, rfl, rfl⟩
theorem ca_inj {b sz i j : Nat} (hb : b < sz) (h : ca b sz i = ca b sz j) : i = j := by
  unfold ca at h
  split at h <;> split at h <;> omega
theorem ca_A {b sz k : Nat} : CA b sz (ca b sz k) := by
  unfold ca CA
  split
  · exact Or.inl rfl
  · exact Or.inr (Nat.le_add_right _ _)
theorem cw_D {b sz : Nat} {L : List va_E} (hb : b < sz) : va_D (CA b sz) (cw b sz L) := by
  refine ⟨fun i j p q hi hj h => ?_, fun k q hk => ?_⟩
  · obtain ⟨e, -, rfl⟩ := cw_of hi
    obtain ⟨f, -, rfl⟩ := cw_of hj
    exact ca_inj hb h
  · obtain ⟨e, -, rfl⟩ := cw_of hk
    exact ca_A
theorem cw_set {b sz k : Nat} {L : List va_E} {e : va_E} : (cw b sz L).set k (ca b sz k, e) = cw b sz (L.set k e) := by
  apply List.ext_getElem?
  intro i
  rw [cw_at, List.getElem?_set, List.getElem?_set]
  have hlen : (cw b sz L).length = L.length := by simp [cw]
  by_cases h : k = i
  · subst h
    simp only [if_true, hlen]
    split <;> rfl
  · simp only [if_neg h, cw_at]
theorem cw_app {b sz : Nat} {L : List va_E} {e : va_E} : cw b sz (L ++ [e]) = cw b sz L ++ [(ca b sz L.length, e)] := by simp [cw, List.mapIdx_append]
/-- what moves in a constructor -/
def CH (E : KE) (b sz : Nat) (L : List va_E) (H0 H : Heap) (locs : List Loc) : Prop := va_P E.1 vwCl (cw b sz L) H ∧ (H.size + 1 = sz + L.length ∧ 0 < L.length) ∧ va_S (CA b sz) H0 H locs
/-- what stays -/
def CB (p : Program) (s : State) (m : MethodId) (c : Code) (cc : ByteArray) (nL : Nat) (args : Array Value) (own : String) (meth : Method) (E : KE) (b sz : Nat) : Prop :=
  CallFix p m c cc nL s args TT own ∧ (meth.locks = false ∧ meth.name = "<init>") ∧ va_K E.1 vwCl (tyE E) s ∧ (NWs s ∧ va_AO "KinFacts$State" s) ∧ s.heap.size = sz ∧ b < sz
def CPre (E : KE) (ci : Nat) (fs0 : List Value) (b sz : Nat) (U : State) : Prop := (U.heap.size = sz ∧ va_at E.1 vwCl (b, .inr (ci, fs0)) U.heap) ∧ va_K E.1 vwCl (tyE E) U ∧ NWs U ∧ va_AO "KinFacts$State" U
def QC (E : KE) (b sz : Nat) (L : List va_E) : Array Value → State → Outcome → State → Prop := va_Qv (S := Unit) (fun _ => True) (fun _ t => va_P E.1 vwCl (cw b sz L) t.heap ∧ t.heap.size + 1 = sz + L.length) (CA b sz)
/-- the contract of a constructor -/
def CI (l : Launch) (y : MethodName) (cc : ByteArray) (maxL : Nat) (rm : Room) (E : KE) (ci : Nat) (fs0 : List Value) (LX : Nat → Nat → List va_E) : Prop :=
  ∀ b sz, b < sz → Met l y (.code y cc maxL none :: TT) rm (va_Pc [.ref b] (CPre E ci fs0 b sz)) (QC E b sz (LX b sz)) rm.cells rm.slots (CA b sz)
theorem CI.ofW {l : Launch} {y : MethodName} {cc : ByteArray} {maxL : Nat} {rm : Room} {E : KE} {ci : Nat} {fs0 : List Value} {LX : Nat → Nat → List va_E}
    (hy : plainName y.cls = true) (hyn : y.name = "<init>") (hn : 1 ≤ maxL)
    (body : ∀ (b sz : Nat) (p : Program) (e : Env) (s : State) (m : MethodId) (args : Array Value) (below : List Frame) (meth : Method) (c : Code), CB p s m c cc maxL args y.cls meth E b sz → meth.sig.returnType = none → CH E b sz [.inr (ci, fs0)] s.heap s.heap [] → ∀ ls : Array Slot, lv_has ls maxL [(0, .ref b)] →
      W p l e rm s m args below meth c s.heap [] 0 0 (MQ below (QC E b sz (LX b sz)) args s rm.cells rm.slots (CA b sz)) (F0 m 0 ls [])) : CI l y cc maxL rm E ci fs0 LX := by
  intro b sz hbs
  refine Met.ofW (cc := cc) (maxL := maxL) (ret := none) hy rfl ?_
  intro p e s m args below meth c s₁ B hml hv
  obtain ⟨rfl, ⟨hsz, hat⟩, hK, hN, hO⟩ := hv
  have hts := atoms_spec (ws := .code y cc maxL none :: TT) B.pre
  have hl := lv_entry [.ref b] (n := maxL) hn
  rw [lg_entry_eq]
  generalize (lg_sl [.ref b] ++ List.replicate (maxL - (lg_sl [.ref b]).length) Slot.unset).toArray = ls at hl ⊢
  refine body b sz p e s m _ below meth c ⟨⟨B.exec, B.bytes, hml, findClass_of_methodNamed B.named, fun w hw => hts w (List.mem_cons_of_mem _ hw)⟩, ⟨B.notSynchronized, (name_of_methodNamed B.named B.method).1.trans hyn⟩, hK, ⟨hN, hO⟩, hsz, hbs⟩ B.returns ⟨?_, ⟨by show s.heap.size + 1 = sz + 1; rw [hsz], Nat.zero_lt_one⟩, va_S.rf⟩ ls hl
  intro k q hk
  obtain ⟨e9, h1, rfl⟩ := cw_of hk
  rcases k with _ | k
  · cases h1; exact hat
  · cases h1
def FLF (own : String) (T : u_T) (N k : Nat) (ty : FieldType) : Prop := (∃ ty0 : Nat → FieldType, ∀ k, k < N → parseFieldDescriptor (T k).2.2.1 = some (ty0 k)) ∧ (∀ a, a < N → ∀ b, b < N → a ≠ b → (T a).2.1 ≠ (T b).2.1) ∧ (T k).2.2.2 = true ∧ parseFieldDescriptor (T k).2.2.1 = some ty ∧ (T k).1 = own
/-- a class that can be made -/
def LN (own : String) (idx : Nat) (C : String) (T : u_T) (N ci : Nat) (fs0 : List Value) : Prop := (∀ w ∈ u_ws C T N, w ∈ TT) ∧ (∃ ty0 : Nat → FieldType, (∀ k, k < N → parseFieldDescriptor (T k).2.2.1 = some (ty0 k)) ∧ ∀ j, j < N → defaultValue (ty0 j) = vp_V fs0 j) ∧ (Cond.classLink own idx C ∈ TT ∧ Cond.instantiable C N ∈ TT ∧ Cond.initialized C ∈ TT) ∧ vwCl[ci]? = some (C, T, N)
section CROWS
variable {p : Program} {l : Launch} {e : Env} {R : Room} {s : State} {m : MethodId} {args : Array Value} {below : List Frame} {meth : Method} {c : Code} {H : Heap} {locs : List Loc} {cells slots : Nat} {Q : State → Prop}
variable {cc : ByteArray} {nL : Nat} {own : String} {E : KE} {b sz : Nat} {L : List va_E} {pc : Nat} {ls : Array Slot} {rest st0 : List Value}
theorem CH.push (hH : CH E b sz L s.heap H locs) (hsz : s.heap.size = sz) {H1 : Heap} {e1 : va_E} (z1 : H1.size = H.size + 1) (o1 : ∀ q : Nat, q < H.size → H1[q]? = H[q]?) (he : va_at E.1 vwCl (H.size, e1) H1) : CH E b sz (L ++ [e1]) s.heap H1 locs := by
  obtain ⟨hP, ⟨hz, hp⟩, hS⟩ := hH
  refine ⟨?_, ⟨by rw [z1, List.length_append]; simp; omega, by simp⟩, ⟨by rw [z1]; exact Nat.le_trans hS.1 (Nat.le_succ _), fun q h1 h2 => (o1 q (Nat.lt_of_lt_of_le h1 hS.1)).trans (hS.2.1 q h1 h2), hS.2.2⟩⟩
  rw [cw_app]
  refine va_P.app (va_P.kept hP (fun k q hk => o1 q.1 (va_at.lt (hP k q hk)))) (fun k q hk => ?_)
  rcases k with _ | k
  · cases hk
    have hca : ca b sz L.length = H.size := by unfold ca; rw [if_neg (by omega)]; omega
    rw [hca]; exact he
  · cases hk
theorem c_addr (hH : CH E b sz L s.heap H locs) : H.size = ca b sz L.length := by
  obtain ⟨-, ⟨hz, hp⟩, -⟩ := hH
  unfold ca; rw [if_neg (by omega)]; omega
theorem c_new (C : CB p s m c cc nL args own meth E b sz) (hH : CH E b sz L s.heap H locs) {Cn : String} {T : u_T} {N ci idx q : Nat} {fs0 : List Value} (ln : LN own idx Cn T N ci fs0) (hq : ca b sz L.length = q) (hcells : cells + 1 ≤ R.cells) (hslots : slots + N ≤ R.slots) (hdg : decode cc pc = .ok (.new idx, 3)) {L1 : List va_E} (hL : L ++ [.inr (ci, fs0)] = L1)
    (kk : ∀ H1 : Heap, CH E b sz L1 s.heap H1 locs → W p l e R s m args below meth c H1 locs (cells + 1) (slots + N) Q (F0 m (pc + 3) ls (.ref q :: rest))) : W p l e R s m args below meth c H locs cells slots Q (F0 m pc ls rest) := by
  obtain ⟨hin, ⟨ty0, hty, hfs⟩, ⟨w1, w2, w3⟩, hc⟩ := ln
  have hKn := C.2.2.1.1 ci _ hc
  subst hL
  refine W.newcK C.1.1 C.1.2.1 C.1.2.2.2.1 (C.1.2.2.2.2 _ w1) (C.1.2.2.2.2 _ w2) (C.1.2.2.2.2 _ w3) rfl hdg hcells hslots hKn.2.1 rfl fun H1 kC hkC e1 z1 o1 => ?_
  have h := kk H1 (hH.push C.2.2.2.2.1 z1 o1 ⟨_, hc, (u_born ty0 C.1.2.2.2.2 hin hKn hkC e1 hty).to hfs⟩)
  rw [← hq, ← c_addr hH] at h
  exact h
theorem c_arr {atype : ArrayType} (C : CB p s m c cc nL args own meth E b sz) (hH : CH E b sz L s.heap H locs) (har : Cond.arrayClass (newarray.typeOf atype) ∈ TT) {t0 : Nat} {cA : ClassId} (ht : (tyE E)[t0]? = some (cA, newarray.typeOf atype)) {a0 : vp_A} {n : Int32} {N' q : Nat} (ha : vp_cell cA a0 = arrV cA N' (fun _ => defaultValue (newarray.typeOf atype))) (hn : ¬ n < 0) (hN : n.toNatClampNeg = N') (hbytes : N' * componentBytes (newarray.typeOf atype) ≤ 536870912) (hq : ca b sz L.length = q) (hcells : cells + 1 ≤ R.cells) (hslots : slots + N' ≤ R.slots) (hdg : decode cc pc = .ok (.newarray atype, 2)) {L1 : List va_E} (hL : L ++ [.inl (cA, a0)] = L1)
    (kk : ∀ H1 : Heap, CH E b sz L1 s.heap H1 locs → W p l e R s m args below meth c H1 locs (cells + 1) (slots + N') Q (F0 m (pc + 2) ls (.ref q :: rest))) : W p l e R s m args below meth c H locs cells slots Q (F0 m pc ls (.int n :: rest)) := by
  subst hL
  refine va_newaK C.1.1 C.1.2.1 (C.1.2.2.2.2 _ har) rfl hdg rfl hn hN hbytes hcells hslots rfl fun H1 cA1 e1 z1 o1 hAr hNm => ?_
  have hcA : cA1 = cA := by
    have h1 := (C.2.2.1.2 t0 _ ht).2
    have h2 : s.vm.findClass ("[" ++ (newarray.typeOf atype).toString) = some cA := by cases atype <;> exact h1
    exact Option.some.inj (hNm.symm.trans h2)
  subst hcA
  have h := kk H1 (hH.push C.2.2.2.2.1 z1 o1 (by show H1[H.size]? = some (vp_cell _ _); rw [ha]; exact e1))
  rw [← hq, ← c_addr hH] at h
  exact h
theorem c_anew (C : CB p s m c cc nL args own meth E b sz) (hH : CH E b sz L s.heap H locs) {idx : Nat} (w1 : Cond.classLink own idx "KinFacts$State" ∈ TT) {n : Int32} {N' q : Nat} (hn : ¬ n < 0) (hN : n.toNatClampNeg = N') (hbytes : n.toNatClampNeg * 4 ≤ 536870912) (hq : ca b sz L.length = q) (hcells : cells + 1 ≤ R.cells) (hslots : slots + n.toNatClampNeg ≤ R.slots) (hdg : decode cc pc = .ok (.anewarray idx, 3)) {L1 : List va_E} (hL : L ++ [.inl (E.2.2.2.2.2.1, N', .inr (.inr (.inr (.inr (fun _ => none)))))] = L1)
    (kk : ∀ H1 : Heap, CH E b sz L1 s.heap H1 locs → W p l e R s m args below meth c H1 locs (cells + 1) (slots + n.toNatClampNeg) Q (F0 m (pc + 3) ls (.ref q :: rest))) : W p l e R s m args below meth c H locs cells slots Q (F0 m pc ls (.int n :: rest)) := by
  subst hL
  subst hN
  refine W.anew C.1.1 C.1.2.1 C.1.2.2.2.1 (C.1.2.2.2.2 _ w1) (va_AO.use C.2.2.2.1.2) rfl hdg rfl hn hbytes hcells hslots fun cA kA comp f1 f2 f3 f4 => ?_
  have hcA : cA = E.2.2.2.2.2.1 := by
    obtain ⟨kA9, comp9, g1, g2, g3, g4⟩ := (C.2.2.1.2 4 _ rfl).2
    exact Option.some.inj (f1.symm.trans g4)
  subst hcA
  generalize hH1 : H.push ({ cls := E.2.2.2.2.2.1, slots := Array.replicate n.toNatClampNeg .null, vm := .none } : Cell) = H1
  have z1 : H1.size = H.size + 1 := by rw [← hH1, Array.size_push]
  have e1 : H1[H.size]? = some (arrV E.2.2.2.2.2.1 n.toNatClampNeg (fun _ => .null)) := by rw [← hH1, Array.getElem?_push_size, ← arrV_new]
  have o1 : ∀ q : Nat, q < H.size → H1[q]? = H[q]? := fun q hq => by rw [← hH1, Array.getElem?_push, if_neg (Nat.ne_of_lt hq)]
  have h := kk H1 (hH.push C.2.2.2.2.1 z1 o1 e1)
  rw [← hq, ← c_addr hH] at h
  exact h
theorem c_obj (C : CB p s m c cc nL args own meth E b sz) {idx : Nat} {q : Nat} (w1 : Cond.methodLink own idx Lib.objectInit ∈ TT) (w2 : Cond.instanceMethod Lib.objectInit ∈ TT) (w3 : Cond.code Lib.objectInit ⟨#[0xb1]⟩ 1 none ∈ TT) (hls : ls.size = nL) (hdg : decode cc pc = .ok (.invokespecial idx, 3)) (hR : 1 ≤ R.frames ∧ 12 ≤ R.locals)
    (kk : W p l e R s m args below meth c H locs cells slots Q (F0 m (pc + 3) ls [])) : W p l e R s m args below meth c H locs cells slots Q (F0 m pc ls [.ref q]) :=
  W.objInit C.1.1 C.1.2.1 C.1.2.2.2.1 (C.1.2.2.2.2 _ w1) (C.1.2.2.2.2 _ w2) (C.1.2.2.2.2 _ w3) rfl (hls.trans C.1.2.2.1.symm) rfl hdg hR.1 hR.2 kk
theorem CH.put (hH : CH E b sz L s.heap H locs) (hbs : b < sz) {k a j : Nat} {e0 e1 : va_E} (h0 : L[k]? = some e0) (ha : ca b sz k = a) {H1 : Heap} (z1 : H1.size = H.size) (o1 : ∀ q : Nat, q ≠ a → H1[q]? = H[q]?) (he : va_at E.1 vwCl (a, e1) H1) {L1 : List va_E} (hL : L.set k e1 = L1) : CH E b sz L1 s.heap H1 (locs ++ [⟨a, j⟩]) := by
  subst hL; subst ha
  obtain ⟨hP, ⟨hz, hp⟩, hS⟩ := hH
  refine ⟨?_, ⟨by rw [z1, List.length_set]; exact hz, by rw [List.length_set]; exact hp⟩, hS.put z1 o1 ca_A⟩
  rw [← cw_set]
  exact hP.set (cw_D hbs) (cw_get h0) he o1
theorem c_put (C : CB p s m c cc nL args own meth E b sz) {ci : Nat} {fs : List Value} {L0 : List va_E} (hH : CH E b sz (.inr (ci, fs) :: L0) s.heap H locs) {N k idx : Nat} {Cn : String} {T : u_T} {ty : FieldType} (f : FLD own idx Cn T N ci k) (fw : FLW T N k ty) {v : Value} (hn : narrow ty v = v) (hf : fits ty v = true) (hl : k < fs.length) {fs1 : List Value} (hfs : fs.set k v = fs1) (hdg : decode cc pc = .ok (.putfield idx, 3))
    (kk : ∀ (H : Heap) (locs : List Loc), CH E b sz (.inr (ci, fs1) :: L0) s.heap H locs → W p l e R s m args below meth c H locs cells slots Q (F0 m (pc + 3) ls rest)) : W p l e R s m args below meth c H locs cells slots Q (F0 m pc ls (v :: .ref b :: rest)) := by
  subst hfs
  obtain ⟨⟨hx, hb, hml, hown, hts⟩, -, hK, -, hsz, hbs⟩ := C
  obtain ⟨hin, hc, hk, f4, f5⟩ := f
  obtain ⟨⟨ty0, hty⟩, hnm, hfin, hd⟩ := fw
  have hap := va_apart (own := own) hts hin ty0 hty hnm hK hc
  obtain ⟨r, h1, cell, q1, q2, q3, q4⟩ := hH.1 0 _ (cw_get (k := 0) rfl)
  have hr : r = (Cn, T, N) := Option.some.inj (h1.symm.trans hc)
  subst hr
  obtain ⟨hS, hfc, kC, hkC, hkind⟩ := hK.1 ci _ hc
  obtain ⟨cf, kf, fi, f, hi, hsl⟩ := hS k hk
  have hlay := hts _ (hin _ (u_in_lay hk))
  unfold u_lay at hlay
  rw [if_neg (by rw [hfin]; decide)] at hlay
  have hst := (u_facts hfc hkC (u_lays hts hin hk) hi).1
  have h6 := u_store hfc hkC hkind hlay hi hd hn hf
  refine W.putK hx hb (f := f) ⟨hown, hts _ f4, ⟨_, _, _, by rw [f5] at hi; exact hi⟩, hst⟩ (by rw [q2]; exact h6) q1 q3 (by rw [hsl]; exact k2_hasslot (q4 k hk)) rfl rfl hdg fun H' e1 e2 e3 => ?_
  rw [hsl] at e1 ⊢
  exact kk H' _ (hH.put hbs (k := 0) (e1 := .inr (ci, fs.set k v)) rfl rfl e2 e3 ⟨_, hc, t_OB.to (V := updV (vp_V fs) k v) ⟨_, e1, q2, q3, t_set q4 hap hk v⟩ (fun j _ => vp_updV_set hl v j)⟩ rfl)
theorem c_putF (C : CB p s m c cc nL args own meth E b sz) {ci : Nat} {fs : List Value} {L0 : List va_E} (hH : CH E b sz (.inr (ci, fs) :: L0) s.heap H locs) {N k idx : Nat} {Cn : String} {T : u_T} {ty : FieldType} (f : FLD own idx Cn T N ci k) (fw : FLF own T N k ty) {v : Value} (hn : narrow ty v = v) (hf : fits ty v = true) (hl : k < fs.length) {fs1 : List Value} (hfs : fs.set k v = fs1) (hdg : decode cc pc = .ok (.putfield idx, 3))
    (kk : ∀ (H : Heap) (locs : List Loc), CH E b sz (.inr (ci, fs1) :: L0) s.heap H locs → W p l e R s m args below meth c H locs cells slots Q (F0 m (pc + 3) ls rest)) : W p l e R s m args below meth c H locs cells slots Q (F0 m pc ls (v :: .ref b :: rest)) := by
  subst hfs
  obtain ⟨⟨hx, hb, hml, hown, hts⟩, ⟨-, hin2⟩, hK, -, hsz, hbs⟩ := C
  obtain ⟨hin, hc, hk, f4, f5⟩ := f
  obtain ⟨⟨ty0, hty⟩, hnm, hfin, hd, hdecl⟩ := fw
  have hap := va_apart (own := own) hts hin ty0 hty hnm hK hc
  obtain ⟨r, h1, cell, q1, q2, q3, q4⟩ := hH.1 0 _ (cw_get (k := 0) rfl)
  have hr : r = (Cn, T, N) := Option.some.inj (h1.symm.trans hc)
  subst hr
  obtain ⟨hS, hfc, kC, hkC, hkind⟩ := hK.1 ci _ hc
  obtain ⟨cf, kf, fi, f, hi, hsl⟩ := hS k hk
  have hlay := hts _ (hin _ (u_in_lay hk))
  unfold u_lay at hlay
  rw [if_pos hfin] at hlay
  have hst := (u_facts hfc hkC (u_lays hts hin hk) hi).1
  have hcf : m.cls = cf := by
    obtain ⟨_, _, c', _, _, _, -, -, hf', -, -, -, hown2, -⟩ := Cond.laysFinal_spec hlay
    have e1 : c' = cf := by have := hi.symm.trans hf'; simp at this; exact this.1.symm
    rw [hdecl] at hown2
    rw [← e1]; exact Option.some.inj (hown.symm.trans hown2)
  have h6 := u_fits hfc hkC hkind (Or.inr hlay) hi hd hn hf
  refine W.putFinK hx hb hown (hts _ f4) (by rw [f5] at hi; exact hi) hst hcf hin2 (by rw [q2]; exact h6) q1 q3 (by rw [hsl]; exact k2_hasslot (q4 k hk)) rfl rfl hdg fun H' e1 e2 e3 => ?_
  rw [hsl] at e1 ⊢
  exact kk H' _ (hH.put hbs (k := 0) (e1 := .inr (ci, fs.set k v)) rfl rfl e2 e3 ⟨_, hc, t_OB.to (V := updV (vp_V fs) k v) ⟨_, e1, q2, q3, t_set q4 hap hk v⟩ (fun j _ => vp_updV_set hl v j)⟩ rfl)
theorem c_getf (C : CB p s m c cc nL args own meth E b sz) {ci : Nat} {fs : List Value} {L0 : List va_E} (hH : CH E b sz (.inr (ci, fs) :: L0) s.heap H locs) {N k idx : Nat} {Cn : String} {T : u_T} (f : FLD own idx Cn T N ci k) {v : Value} (hv : fs[k]? = some v) (hdg : decode cc pc = .ok (.getfield idx, 3))
    (kk : W p l e R s m args below meth c H locs cells slots Q (F0 m (pc + 3) ls (v :: rest))) : W p l e R s m args below meth c H locs cells slots Q (F0 m pc ls (.ref b :: rest)) := by
  obtain ⟨⟨hx, hb, hml, hown, hts⟩, -, hK, -⟩ := C
  obtain ⟨f1, f2, f3, f4, f5⟩ := f
  refine va_get (D := E.1) (ci := ci) (k := k) (C := Cn) (T := T) (N := N) (ref := Cn) hx hb hts f1 hown hK hH.1 0 (cw_get (k := 0) rfl) f2 f3 (hts _ f4) ?_ hv hdg kk
  intro x h
  rw [f5] at h
  exact h
theorem c_alen (C : CB p s m c cc nL args own meth E b sz) (hH : CH E b sz L s.heap H locs) {i q t0 : Nat} {cA : ClassId} {x : vp_A} {ty : FieldType} (hi : L[i]? = some (.inl (cA, x))) (hq : ca b sz i = q) (ht : (tyE E)[t0]? = some (cA, ty)) {v : Int32} (hv : Int32.ofNat x.1 = v) (hdg : decode cc pc = .ok (.arraylength, 1))
    (kk : W p l e R s m args below meth c H locs cells slots Q (F0 m (pc + 1) ls (.int v :: rest))) : W p l e R s m args below meth c H locs cells slots Q (F0 m pc ls (.ref q :: rest)) := by
  subst hq
  exact va_alen (D := E.1) C.1.1 C.1.2.1 C.2.2.1 hH.1 i t0 (cw_get hi) ht hv hdg kk
theorem c_aast (C : CB p s m c cc nL args own meth E b sz) (hH : CH E b sz L s.heap H locs) {i q k v : Nat} {n : Nat} {f : Nat → Option Nat} {vs : List Value} (hi : L[i]? = some (.inl (E.2.2.2.2.2.1, n, .inr (.inr (.inr (.inr f)))))) (hq : ca b sz i = q) (hk : L[k]? = some (.inr (9, vs))) (hv : ca b sz k = v) {j : Int32} (hin : vp_in j n) (hdg : decode cc pc = .ok (.aastore, 1)) {L1 : List va_E} (hL : L.set i (.inl (E.2.2.2.2.2.1, n, .inr (.inr (.inr (.inr (va_up f j.toNatClampNeg (some v))))))) = L1)
    (kk : ∀ (H : Heap) (locs : List Loc), CH E b sz L1 s.heap H locs → W p l e R s m args below meth c H locs cells slots Q (F0 m (pc + 1) ls rest)) : W p l e R s m args below meth c H locs cells slots Q (F0 m pc ls (.ref v :: .int j :: .ref q :: rest)) := by
  have hq0 := hq
  subst hq; subst hv
  have hlt : j.toNatClampNeg < n := Nat.not_le.mp fun q => hin (Or.inr q)
  have h0 : ¬ j < 0 := fun q => hin (Or.inl q)
  obtain ⟨r', hr', cellV, g1, g2, g3, -⟩ := hH.1 k _ (cw_get hk)
  have hcls := (C.2.2.1.1 9 (RX7, TX7, 2) rfl).2
  obtain ⟨kA, comp, k1, k2, k3, -⟩ := (C.2.2.1.2 4 _ rfl).2
  have hcomp : comp = E.1.1 9 := Option.some.inj (k3.symm.trans hcls.1)
  subst hcomp
  obtain ⟨kC, hkC, -⟩ := hcls.2
  refine W.aast C.1.1 C.1.2.1 (hH.1 i _ (cw_get hi)) (fun q h => by cases h) (fun h => by cases h) k1 k2 rfl hkC ⟨h0, by show _ < (arrV _ _ _).slots.size; rw [arrV_size]; exact hlt⟩ g1 (fun q h => by rw [g3] at h; cases h) (by rw [g2]; exact hkC) (by rw [g2]; exact va_assign hcls) rfl rfl hdg fun H1 e z oq => ?_
  refine kk H1 _ (hH.put C.2.2.2.2.2 hi rfl z oq ?_ hL)
  show H1[ca b sz i]? = some (vp_cell _ _)
  rw [e]
  rw [vp_cell_q, vp_cell_q, arrV_store]
  congr 2
  funext q
  by_cases hq : q = j.toNatClampNeg
  · subst hq
    simp [updV, va_up, va_rf]
  · simp [updV, va_up, hq]
theorem CPre.blind {ci : Nat} {fs0 : List Value} {av : List Value} : FrameBlind (va_Pc av (CPre E ci fs0 b sz)) := fun a U g mk q => by
  obtain ⟨q0, ⟨q1, q2⟩, q3, q4, q5⟩ := q
  exact ⟨q0, ⟨q1, q2⟩, va_K.moved (u := U) (U := U.calling g mk a) (Vm.Alike.refl U.vm) q3, NWs.same (u := U) (U := U.calling g mk a) rfl q4, va_AO.moved (u := U) (U := U.calling g mk a) (Vm.Alike.refl U.vm) q5⟩
/-- behind a constructor's call -/
theorem CH.join (hH : CH E b sz L s.heap H locs) (hbs : b < sz) {i q sz1 : Nat} {e9 : va_E} (hi : L[i]? = some e9) (hq : ca b sz i = q) (hsz : sz + L.length = sz1 + 1) {e0 : va_E} {L2 : List va_E} {H1 : Heap} {locs1 : List Loc} (hP : va_P E.1 vwCl (cw q sz1 (e0 :: L2)) H1) (hz : H1.size + 1 = sz1 + (e0 :: L2).length) (hk : ∀ a : Nat, a < H.size → ¬ CA q H.size a → H1[a]? = H[a]?) (hS : va_S (CA b sz) s.heap H1 locs1) : CH E b sz (L.set i e0 ++ L2) s.heap H1 locs1 := by
  subst hq
  have hH2 := hH.2.1
  have hil : i < L.length := (List.getElem?_eq_some_iff.mp hi).1
  simp only [List.length_cons] at hz
  have hHs : H.size = sz1 := by omega
  refine ⟨fun k z hkz => ?_, ⟨by simp only [List.length_append, List.length_set]; omega, by simp only [List.length_append, List.length_set]; omega⟩, hS⟩
  obtain ⟨e, h1, rfl⟩ := cw_of hkz
  by_cases hkl : k < L.length
  · rw [List.getElem?_append_left (by rw [List.length_set]; exact hkl), List.getElem?_set] at h1
    by_cases hki : i = k
    · subst hki
      rw [if_pos rfl, if_pos hil] at h1
      cases h1
      have h2 := hP 0 _ (cw_get (k := 0) rfl)
      exact h2
    · rw [if_neg hki] at h1
      have h2 := hH.1 k _ (cw_get h1)
      refine va_at.kept h2 (hk _ (va_at.lt h2) ?_)
      rintro (h3 | h3)
      · exact hki (ca_inj hbs h3.symm)
      · exact absurd (va_at.lt h2) (Nat.not_lt.mpr h3)
  · rw [List.getElem?_append_right (by rw [List.length_set]; omega), List.length_set] at h1
    have h2 := hP (k - L.length + 1) _ (cw_get (k := k - L.length + 1) (by rw [List.getElem?_cons_succ]; exact h1))
    have h3 : ca (ca b sz i) sz1 (k - L.length + 1) = ca b sz k := by
      have e1 : ca (ca b sz i) sz1 (k - L.length + 1) = sz1 + (k - L.length) := by unfold ca; rw [if_neg (Nat.succ_ne_zero _), Nat.add_sub_cancel]
      have e2 : ca b sz k = sz + (k - 1) := by unfold ca; rw [if_neg (by omega)]
      rw [e1, e2]; omega
    rw [h3] at h2
    exact h2
theorem CA_sub {i q sz1 : Nat} (hq : ca b sz i = q) (hle : sz ≤ sz1) {a : Nat} (h : CA q sz1 a) : CA b sz a := by
  subst hq
  rcases h with h | h
  · rw [h]; exact ca_A
  · exact Or.inr (Nat.le_trans hle h)
/-- the words of a constructor that is called -/
def LK (y : MethodName) (cc : ByteArray) (mL : Nat) : Prop := (Cond.initialized y.cls ∈ TT ∧ Cond.code y cc mL none ∈ TT ∧ Cond.instanceMethod y ∈ TT) ∧ y.name = "<init>" ∧ y.cls ≠ "java/lang/invoke/MethodHandle" ∧ y.cls ≠ "java/lang/invoke/VarHandle" ∧ (parseMethodDescriptor y.desc).map (fun d => d.parameters.length) = some 0
theorem TT_code {y : MethodName} {cc : ByteArray} {mL : Nat} (h : Cond.code y cc mL none ∈ TT) : GoodIn TT (Cond.code y cc mL none :: TT) := fun w hw => by
  have h1 : w ∈ TT := by rcases List.mem_cons.mp hw with rfl | h2; exact h; exact h2
  exact ⟨h1, TT_good w h1⟩
theorem CPre.at (C : CB p s m c cc nL args own meth E b sz) (hH : CH E b sz L s.heap H locs) {i q ci : Nat} {fs0 : List Value} (hi : L[i]? = some (.inr (ci, fs0))) (hq : ca b sz i = q) {U : State} (hU : U.heap = H) (hW : s.WarmedH U.vm) : CPre E ci fs0 q H.size U := by
  subst hq
  refine ⟨⟨by rw [hU], by rw [hU]; exact hH.1 i _ (cw_get hi)⟩, va_K.moved hW.alike C.2.2.1, NWs.warm hW C.2.2.2.1.1, va_AO.moved hW.alike C.2.2.2.1.2⟩
theorem c_call (C : CB p s m c cc nL args own meth E b sz) (hH : CH E b sz L s.heap H locs) {y : MethodName} {cc9 : ByteArray} {mL9 idx : Nat} {rm9 : Room} {ci i q sz1 : Nat} {fs0 : List Value} {LX : Nat → Nat → List va_E} (nest : Bool) {host : String} (lk : nest = false ∧ Cond.methodLink own idx y ∈ TT ∨ nest = true ∧ Cond.methodLinkNest own idx y host ∈ NW) (lc : LK y cc9 mL9) (hct : CI l y cc9 mL9 rm9 E ci fs0 LX) (hi : L[i]? = some (.inr (ci, fs0))) (hq : ca b sz i = q) (hsz : sz + L.length = sz1 + 1) {e0 : va_E} {L2 : List va_E} (hX : LX q sz1 = e0 :: L2) (hdg : decode cc pc = .ok (.invokespecial idx, 3)) (hls : ls.size = nL) (hcat : (rest.map fun v => v.category).sum ≤ 8) (hR : rm9.frames + 1 ≤ R.frames ∧ 8 + (mL9 + 11) + rm9.locals ≤ R.locals) (hcap : cells + rm9.cells ≤ R.cells ∧ slots + rm9.slots ≤ R.slots) {L1 : List va_E} (hL : L.set i e0 ++ L2 = L1)
    (kk : ∀ (H : Heap) (locs : List Loc), CH E b sz L1 s.heap H locs → W p l e R s m args below meth c H locs (cells + rm9.cells) (slots + rm9.slots) Q (F0 m (pc + 3) ls rest)) : W p l e R s m args below meth c H locs cells slots Q (F0 m pc ls (.ref q :: rest)) := by
  subst hL
  have hHs : H.size = sz1 := by have := hH.2.1; omega
  have hle : sz ≤ sz1 := by have := hH.2.1; omega
  have hqs : q < sz1 := by
    have h1 := va_at.lt (hH.1 i _ (cw_get hi))
    rw [hq, hHs] at h1
    exact h1
  have hM := hct q sz1 hqs
  have hrun : va_Run p l e R s m args below meth c H locs cells slots rm9.cells rm9.slots (F0 m pc ls (.ref q :: rest)) rest (QC E q sz1 (LX q sz1) ((Value.ref q :: []).toArray)) (CA q sz1) := by
    have hpre : PreS s H (va_Pc [.ref q] (CPre E ci fs0 q sz1)) (.ref q :: []) := ⟨CPre.blind, fun U hU hW => ⟨rfl, by have h := CPre.at C hH hi hq hU hW; rw [hHs] at h; exact h⟩⟩
    rcases lk with ⟨-, lk⟩ | ⟨-, lk⟩
    · exact va_runI (Ts := TT) (As := []) C.1 hM (cwI 0 C.1.2.2.2.2 (TT_code lc.1.2.1) rfl rfl rfl (C.1.2.2.2.2 _ lc.1.1) (C.1.2.2.2.2 _ lk) (C.1.2.2.2.2 _ lc.1.2.2) lc.2.1 ⟨lc.2.2.1, lc.2.2.2.1, lc.2.2.2.2⟩ hR) hpre rfl rfl hls rfl (lv_room hcat) hdg hcap
    · exact va_runIN (Ts := TT) (As := []) C.1 hM ⟨va_cnB 0 C.1.2.2.2.2 (TT_code lc.1.2.1) rfl rfl rfl (C.2.2.2.1.1 _ lk) (C.1.2.2.2.2 _ lc.1.1) ⟨lc.2.2.1, lc.2.2.2.1, lc.2.2.2.2⟩ hR, lc.2.1, C.1.2.2.2.2 _ lc.1.2.2⟩ hpre rfl rfl hls rfl (lv_room hcat) hdg hcap
  refine va_callv hrun hH.2.2 (fun a _ h => CA_sub hq hle h) (fun a h => CA_sub hq hle h) (fun u t H1 locs1 ht _ _ hB _ hk hS => kk H1 locs1 ?_)
  rw [hX, ht] at hB
  refine hH.join C.2.2.2.2.2 hi hq hsz hB.1 hB.2 (fun a h1 h2 => hk a h1 ?_) hS
  rw [hHs] at h2
  exact h2
theorem c_ret (C : CB p s m c cc nL args own meth E b sz) (hH : CH E b sz L s.heap H locs) (hr : meth.sig.returnType = none) {mc ms : Nat} (h1 : cells ≤ mc) (h2 : slots ≤ ms) {L1 : List va_E} (hL : L = L1) (hdg : decode cc pc = .ok (.return_, 1)) : W p l e R s m args below meth c H locs cells slots (MQ below (QC E b sz L1) args s mc ms (CA b sz)) (F0 m pc ls []) := by
  subst hL
  exact W.widen h1 h2 (W.vret (Qc := QC E b sz L) C.1.1 C.1.2.1 hr (fun t ht hW => ⟨⟨(), rfl, trivial, by rw [ht]; exact hH.1, by rw [ht]; exact hH.2.1.1⟩, hH.2.2.F ht⟩) hH.2.2.2.2 hdg C.2.1.1)
end CROWS
