/-- exceptions by number -/
def xN : Nat → String
  | 0 => "java/lang/IllegalArgumentException"
  | 1 => "java/lang/UnsupportedOperationException"
  | 2 => "java/util/NoSuchElementException"
  | 3 => "java/lang/IndexOutOfBoundsException"
  | 4 => "java/lang/IllegalStateException"
  | _ => "java/lang/ArithmeticException"
/-- a constructor with a text that hands it on: by which entry of its class -/
def xIx : Nat → Nat
  | 2 => 13
  | _ => 7
def xRx : Nat → ByteArray
  | 2 => .mk #[0x2a, 0x2b, 0xb7, 0x00, 0x0d, 0xb1]
  | _ => Bundle.six
abbrev xNS : List String := ["java/lang/RuntimeException", "java/lang/Exception"]
def XST : List (Nat × String) := [(81, "no such relation or person"), (100, "the fact is told"), (119, "the fact is not told"), (145, "the fact does not hold"), (171, "no such number of a fact"), (194, "no such relation"), (212, "no such number of a relation"), (217, "no such place"), (226, "no such relation or condition"), (231, "the rule is refused"), (237, "no such rule"), (254, "no such number of a rule"), (269, "no such layer"), (274, "no such round"), (300, "no such index"), (311, "the input is full"), (319, "the text has an error"), (333, "there is no such rule"), (335, "an order is refused"), (337, "nothing was refused"), (355, "no such account"), (370, "no fact holds"), (376, "no change can be undone"), (384, "there is no snapshot")]
/-- the words of a throwable made with a text -/
def nx_at (ic x : Nat) : List Cond :=
  Bundle.throwableAtoms ++ Bundle.throwableSAtoms ++ (Bundle.passSAtoms (xN x) "java/lang/RuntimeException" (xIx x) (xRx x) ++ Bundle.chainSAtoms "java/lang/RuntimeException" ["java/lang/Exception"]) ++
  [.methodLink "KinFacts" ic (Bundle.initS (xN x)), .instantiable (xN x) 6, .castable (xN x) (xN x), .selects (xN x) Bundle.tFill0 Bundle.tFill0, .selects (xN x) Bundle.tFill Bundle.tFill,
   .lays (xN x) Bundle.tN "cause" "Ljava/lang/Throwable;", .lays (xN x) Bundle.tN "stackTrace" Bundle.steD, .lays (xN x) Bundle.tN "suppressedExceptions" Bundle.listD, .lays (xN x) Bundle.tN "detailMessage" "Ljava/lang/String;",
   .isRef (.static Bundle.tN "UNASSIGNED_STACK" Bundle.steD), .isRef (.static Bundle.tN "SUPPRESSED_SENTINEL" Bundle.listD),
   .fieldLink Bundle.tN 198 Bundle.tN "backtrace" "Ljava/lang/Object;", .lays Bundle.tN Bundle.tN "backtrace" "Ljava/lang/Object;", .lays (xN x) Bundle.tN "backtrace" "Ljava/lang/Object;"]
def XNG : List Cond := (List.range 6).map (fun x => .castable (xN x) (xN x)) ++ [.declares (Bundle.initS "java/lang/RuntimeException"), .declares (Bundle.initS "java/lang/Exception"), .declares (Bundle.initS Bundle.tN)]
theorem XNG_on : ∀ w ∈ XNG, w.onTables = true := by decide +kernel
/-- what a method that throws needs of its start: the two statics of a throwable, the texts -/
def XP (S : SH) (ad : Nat → Nat) (sz : Nat) (U : State) : Prop := (vx_Zq Bundle.tN "UNASSIGNED_STACK" Bundle.steD (KA S ad sz) U U.heap ∧ vx_Zq Bundle.tN "SUPPRESSED_SENTINEL" Bundle.listD (KA S ad sz) U U.heap) ∧ (∀ q ∈ XST, ∃ a, vk_R "KinFacts" q.1 q.2 a U) ∧ ∀ w ∈ XNG, va_Nw w U
def XK (x ik ic : Nat) : Prop := (Bundle.fit (xN x) = true ∧ x < 6) ∧ (Cond.classLink "KinFacts" ik (xN x) ∈ TT ∧ Cond.initialized (xN x) ∈ TT) ∧ ∀ w ∈ (nx_at ic x).filter vx_no, w ∈ TT ∨ w ∈ XNG
theorem xk_of {x ik ic : Nat} (h1 : Bundle.fit (xN x) = true ∧ x < 6) (h2 : Cond.classLink "KinFacts" ik (xN x) ∈ TT ∧ Cond.initialized (xN x) ∈ TT) (h3 : ∀ w ∈ ((nx_at ic x).filter vx_no).filter goodWord, w ∈ lw_tbl) (h4 : ∀ w ∈ (nx_at ic x).filter vx_no, goodWord w = true ∨ w ∈ XNG) : XK x ik ic := ⟨h1, h2, fun w hw => (h4 w hw).imp (fun h => List.mem_filter.mpr ⟨h3 w (List.mem_filter.mpr ⟨hw, h⟩), h⟩) id⟩
set_option maxRecDepth 20000 in
theorem xk_0 : XK 0 79 83 := xk_of ⟨by decide +kernel, by decide⟩ ⟨w_3_0, w_1_15⟩ (by decide +kernel) (by decide +kernel)
set_option maxRecDepth 20000 in
theorem xk_1 : XK 1 98 102 := xk_of ⟨by decide +kernel, by decide⟩ ⟨w_3_101, w_1_17⟩ (by decide +kernel) (by decide +kernel)
set_option maxRecDepth 20000 in
theorem xk_2 : XK 2 143 147 := xk_of ⟨by decide +kernel, by decide⟩ ⟨w_3_190, w_1_23⟩ (by decide +kernel) (by decide +kernel)
set_option maxRecDepth 20000 in
theorem xk_3 : XK 3 169 173 := xk_of ⟨by decide +kernel, by decide⟩ ⟨w_3_220, w_1_20⟩ (by decide +kernel) (by decide +kernel)
set_option maxRecDepth 20000 in
theorem xk_4 : XK 4 309 313 := xk_of ⟨by decide +kernel, by decide⟩ ⟨w_5_11, w_1_25⟩ (by decide +kernel) (by decide +kernel)
set_option maxRecDepth 20000 in
theorem xk_5 : XK 5 368 372 := xk_of ⟨by decide +kernel, by decide⟩ ⟨w_5_163, w_1_26⟩ (by decide +kernel) (by decide +kernel)
theorem xRx_d : ∀ x, (decode (xRx x) 0 = .ok (.aload_n 0, 1) ∧ decode (xRx x) 1 = .ok (.aload_n 1, 1)) ∧ decode (xRx x) 2 = .ok (.invokespecial (xIx x), 3) ∧ decode (xRx x) 5 = .ok (.return_, 1)
  | 0 => by decide +kernel
  | 1 => by decide +kernel
  | 2 => by decide +kernel
  | (n + 3) => (by decide +kernel : (decode Bundle.six 0 = .ok (.aload_n 0, 1) ∧ decode Bundle.six 1 = .ok (.aload_n 1, 1)) ∧ decode Bundle.six 2 = .ok (.invokespecial 7, 3) ∧ decode Bundle.six 5 = .ok (.return_, 1))
section NX
variable {p : Program} {l : Launch} {e : Env} {R : Room} {s : State} {m₀ : MethodId} {args : Array Value} {below : List Frame} {meth : Method} {c : Code} {W : State} {locs : List Loc} {cells slots : Nat}
set_option maxHeartbeats 1000000 in
/-- as the library's row for classes whose constructor has entry 7, with any entry -/
theorem nx_ctor (X : Stand p l e R s m₀ args below meth c W locs cells slots) (hexec : p.tables.exec = Jvm.exec) (htr : e.platform.stackTraces = false) {x ic : Nat}
    (hown : s.vm.findClass "KinFacts" = some m₀.cls) (hcls : Bundle.fit (xN x) = true)
    (h : ∀ a ∈ nx_at ic x, a.before args s = true)
    (hlocs : ∀ x ∈ locs, ∀ cell, s.heap[x.base]? = some cell → cell.vm.isStatics = false)
    {a : Addr} {cX : ClassId} {kX : Class} (hfoundX : s.vm.findClass (xN x) = some cX) (hkX : s.vm.classes[cX]? = some kX) (hcell : W.heap[a]? = some (freshCell cX kX)) (hnew : s.heap.size ≤ a)
    {msg : Value} (hmsg : msg.isRef = true)
    {g : JFrame} (hg : g.method = m₀) (hsize : g.locals.size = c.maxLocals) (hlocked : g.locked = none) (hentered : g.entered = []) {rest : List Value} (hstack : g.stack = msg :: .ref a :: .ref a :: rest)
    (hd6 : decode c.code g.pc = .ok (.invokespecial ic, 3)) (hd9 : decode c.code (g.pc + 3) = .ok (.athrow, 1)) (hout : ∀ x ∈ c.exceptionTable.toList, covers x (g.pc + 3) = false)
    (hRframes : 2 + 3 < R.frames) (hRlocals : 2 * g.monitorRoom + ((Value.ref a :: rest).map fun v => v.category).sum + (13 * (2 + 1) + 42) ≤ R.locals) (hlocks : meth.locks = false) :
    ∃ U : State, Steps p.tables e below (W.setTop g) U ∧ U.status = .running ∧ Ended U below (.threw a) ∧ s.WarmedH U.vm ∧ s.sameButNew ({ U with vm := s.vm } : State) locs cells slots ∧
      ∃ ce, U.heap[a]? = some ce ∧ ce.vm = .none ∧ s.vm.findClass (xN x) = some ce.cls := by
  have howns : e.platform.frameOwnsMonitors = true := by rw [X.admits.platform]
  have hfin : e.platform.finalization = false := by rw [X.admits.platform]
  have hpl : e.platform.magicAccessors = ({} : Platform).magicAccessors := by rw [X.admits.platform]
  have a' : ∀ w, w ∈ nx_at ic x → w.holds args s none s [] = true := fun w hw => h w hw
  obtain ⟨T, Z0, L, -, Y⟩ := ThrowableC.of_atoms (args := args) howns hfin hpl (fun w hw => h w (by simp [nx_at, hw]))
  obtain ⟨Z, M, LZ, LM, hnZ⟩ := Init0T.ofS_atoms (args := args) hpl L Y (fun w hw => h w (by simp [nx_at, hw]))
  obtain ⟨⟨r0, r1⟩, r2, r5⟩ := xRx_d x
  obtain ⟨P1, L1, hP1m, hs1⟩ := PassC.ofS_atoms (args := args) (s := s) hpl (X := xN x) (Y := "java/lang/RuntimeException") (Bundle.fit_spec hcls).1 (by decide) r0 r1 r2 r5 (fun w hw => h w (by simp [nx_at, hw]))
  obtain ⟨P2, Ps, hlen, L2, hL, hP2m, hlink2, hlink⟩ := Bundle.chainS (args := args) hpl hnZ ["java/lang/Exception"] "java/lang/RuntimeException" (by decide +kernel) (by decide +kernel) (fun w hw => h w (by simp [nx_at, hw]))
  have hsup1 : P1.sup = P2.m := Option.some.inj (hs1.symm.trans hP2m)
  have hfound : s.vm.findClass (xN x) = some P1.m.cls := findClass_of_methodNamed hP1m
  cases Option.some.inj (hfoundX.symm.trans hfound)
  obtain ⟨c1, kX', hc1, hk, hord, -, -, hn6⟩ := Cond.instantiable_spec (a' (.instantiable (xN x) 6) (by simp [nx_at]))
  cases Option.some.inj (hc1.symm.trans hfound)
  cases Option.some.inj (hkX.symm.trans hk)
  have hsel0 : selectMethod e.platform s.vm P1.m.cls T.fill0 = .method T.fill0 := by
    obtain ⟨c2, r2, m2, q1, q2, q3, q4, -⟩ := Cond.selects_spec (a' (.selects (xN x) Bundle.tFill0 Bundle.tFill0) (by simp [nx_at]))
    cases Option.some.inj (q1.symm.trans hfound)
    cases Option.some.inj (q2.symm.trans (State.methodFound?_of_named Y.fill0 (by decide)))
    cases Option.some.inj (q3.symm.trans Y.fill0)
    rw [Launch.admits_selectMethod X.admits]; exact q4
  have hselF : selectMethod e.platform s.vm P1.m.cls T.fill = .method T.fill := by
    obtain ⟨c2, r2, m2, q1, q2, q3, q4, -⟩ := Cond.selects_spec (a' (.selects (xN x) Bundle.tFill Bundle.tFill) (by simp [nx_at]))
    cases Option.some.inj (q1.symm.trans hfound)
    cases Option.some.inj (q2.symm.trans (State.methodFound?_of_named Y.fill (by decide)))
    cases Option.some.inj (q3.symm.trans Y.fill)
    rw [Launch.admits_selectMethod X.admits]; exact q4
  obtain ⟨cellS0, hcS0, hiss⟩ := Y.statics
  obtain ⟨u0, hu0⟩ := Cond.staticRefV Y.unassigned L.unassignedStatic L.statics hcS0 hiss (a' (.isRef (.static Bundle.tN "UNASSIGNED_STACK" Bundle.steD)) (by simp [nx_at]))
  obtain ⟨sen, hsen⟩ := Cond.staticRefV Y.sentinel L.sentinelStatic L.statics hcS0 hiss (a' (.isRef (.static Bundle.tN "SUPPRESSED_SENTINEL" Bundle.listD)) (by simp [nx_at]))
  obtain ⟨ci198, i198, fB, hk198, hg198, ha198, hsB, -, hnB, htB, hffB⟩ := Cond.ownField (t := .object "java/lang/Object") Y.found L.cls (by decide +kernel) (a' (.fieldLink Bundle.tN 198 Bundle.tN "backtrace" "Ljava/lang/Object;") (by simp [nx_at])) (a' (.lays Bundle.tN Bundle.tN "backtrace" "Ljava/lang/Object;") (by simp [nx_at])) e.platform hpl
  obtain ⟨cellS, hcS', heS, -, hkeep⟩ := X.same.2.2.2.2.2 T.aS cellS0 hcS0
  have hcellS : W.heap[T.aS]? = some cellS := hcS'
  have hout' : ∀ i, (⟨T.aS, i⟩ : Loc) ∉ locs := fun i hmem => by
    have := hlocs _ hmem cellS0 hcS0
    rw [hiss] at this; cases this
  have hknownS : cellS.vm ≠ .unknown := by
    rw [heS]; intro hu
    rw [show cellS0.vm = .unknown from hu] at hiss
    cases hiss
  have hneS : T.aS ≠ a := Nat.ne_of_lt (Nat.lt_of_lt_of_le (Array.getElem?_eq_some_iff.mp hcS0).1 hnew)
  obtain ⟨iM, hffM⟩ := Y.msg
  obtain ⟨tyC, dC, hdC, hdnC⟩ := Cond.laysAt hfound hk Y.cause (a' (.lays (xN x) Bundle.tN "cause" "Ljava/lang/Throwable;") (by simp [nx_at]))
  obtain ⟨tyS, dS, hdS, hdnS⟩ := Cond.laysAt hfound hk Y.stack (a' (.lays (xN x) Bundle.tN "stackTrace" Bundle.steD) (by simp [nx_at]))
  obtain ⟨tyP, dP, hdP, hdnP⟩ := Cond.laysAt hfound hk Y.supp (a' (.lays (xN x) Bundle.tN "suppressedExceptions" Bundle.listD) (by simp [nx_at]))
  obtain ⟨tyM, dM, hdM, hdnM⟩ := Cond.laysAt hfound hk hffM (a' (.lays (xN x) Bundle.tN "detailMessage" "Ljava/lang/String;") (by simp [nx_at]))
  obtain ⟨tyB, dB, hdB, hdnB⟩ := Cond.laysAt hfound hk hffB (a' (.lays (xN x) Bundle.tN "backtrace" "Ljava/lang/Object;") (by simp [nx_at]))
  have bC := Cond.laysApart hdB hdC hdnB hdnC (by rw [hnB, Y.causeName]; decide)
  have bS := Cond.laysApart hdB hdS hdnB hdnS (by rw [hnB, Y.stackName]; decide)
  have bP := Cond.laysApart hdB hdP hdnB hdnP (by rw [hnB, Y.suppName]; decide)
  have hskip : SkipFacts T e.platform s (fun u => u) u0 ((preparedCellV T.toThrowableT (freshCell P1.m.cls kX) a u0 sen).withEntry W.cur) :=
    ⟨{ ci198 := ci198, i198 := i198, fBack := fB }, ⟨hk198, hg198, ha198, hsB⟩, by
      have := fresh_default (c := P1.m.cls) tyB
      rw [htB] at this
      simpa [preparedCellV, Cell.setSlot, Cell.withEntry, Array.getElem?_setIfInBounds, bC, bS, bP, bC.symm, bS.symm, bP.symm, defaultValue] using this, fun _ _ => rfl⟩
  obtain ⟨tm, methC, cdC, kC, vm₁, hnC, -, -, -, -, -, -, -, hW₁, st1⟩ := Steps.initColdS (tb := p.tables) (e := e) (below := below) (s := s) (U := W) X.here hexec X.warmed hpl hown (t := Bundle.initS (xN x)) rfl rfl (Bundle.fit_spec hcls).2
    (a' (.methodLink "KinFacts" ic (Bundle.initS (xN x))) (by simp [nx_at])) (h (.instanceMethod (Bundle.initS (xN x))) (by simp [nx_at, Bundle.passSAtoms])) (bytes := xRx x) (maxL := 2) (h (.code (Bundle.initS (xN x)) (xRx x) 2 none) (by simp [nx_at, Bundle.passSAtoms]))
    (f := g) hg (a := a) (msg := msg) (rest := .ref a :: rest) hstack hd6
  cases Option.some.inj (hnC.symm.trans hP1m)
  have X₁ := X.noted hW₁
  obtain ⟨vm₂, X₂, st2⟩ := X₁.ctorMessageOffV hexec (g := { g with stack := .ref a :: rest }) hg hsize T L Z LZ M LM (P1 :: P2 :: Ps)
    (fun P hP => by rcases List.mem_cons.mp hP with rfl | hP; exact L1; rcases List.mem_cons.mp hP with rfl | hP; exact L2; exact hL P hP) ⟨hsup1, hlink2, hlink⟩ (u0 := u0) (sen := sen) (self := a) hmsg (cell := freshCell P1.m.cls kX) (cellS := cellS)
    hcell (fun _ => by simp) (by simp) rfl rfl hsel0 hselF hcellS hneS hknownS (by rw [hkeep _ (hout' _)]; exact hu0) (by rw [hkeep _ (hout' _)]; exact hsen)
    (Takes.of_laid hk hord tyC (by rw [Y.causeType]; rfl)) (Takes.of_laid hk hord tyS (by rw [Y.stackType]; exact fits_refV_array _ u0)) (Takes.of_laid hk hord tyP (by rw [Y.suppType]; exact fits_refV_object _ sen))
    (Takes.of_laid hk hord tyM (by rw [Y.msgType]; exact fits_refV_object _ ⟨msg, hmsg⟩)) Y.objLocals hskip htr [] hd6
    (by simp only [List.length_cons, List.length_nil] at hlen ⊢; omega) (by simp only [List.length_cons, List.length_nil] at hlen ⊢; rw [hlen]; exact hRlocals)
  obtain ⟨hwalk, hrun, hended, hWU, hsame⟩ := X₂.athrowLeaves hexec (g := { g with stack := .ref a :: rest, pc := g.pc + 3 }) hg hlocked hentered hout (a := a) (rest := rest) rfl hd9
  have hlt : a < ((W.setVm vm₁).setVm vm₂).heap.size := (Array.getElem?_eq_some_iff.mp hcell).1
  have hU := heapAt_setCell_self (s := (W.setVm vm₁).setVm vm₂) (plainBareV T.toThrowableT (freshCell P1.m.cls kX) a u0 sen msg) hlt
  refine ⟨_, st1 _ (fun acts => ?_), hrun, hended, hWU, hsame.weaken (fun y hy hlt' => ?_) (Nat.le_refl _) (Nat.le_refl _), _, hU, rfl, hfound⟩
  · rw [doInvoke_state]
    exact st2 _ hwalk
  · rcases List.mem_append.mp hy with h1 | h1
    · exact h1
    · exfalso
      have hb : y.base = a := by
        simp only [List.mem_cons, List.not_mem_nil, or_false] at h1
        rcases h1 with rfl | rfl | rfl | rfl | rfl <;> rfl
      rw [hb] at hlt'
      exact Nat.not_lt.mpr hnew hlt'
end NX
def xQ {α : Type} (S : SH) (E : KE) (ad : Nat → Nat) (Q : Nat → α → Array Value → State → Outcome → State → Prop) (sz : Nat) (r : Sum (Nat × KS) α) : Array Value → State → Outcome → State → Prop := match r with
  | .inl _ => va_Qv (S := KS) (fun _ => False) (KPo S E ad) (KA S ad sz)
  | .inr a => Q sz a
def xX {α : Type} (S : SH) (E : KE) (ad : Nat → Nat) (sz : Nat) (r : Sum (Nat × KS) α) : String → State → State → Prop := match r with
  | .inl q => vx_X (S := KS) (fun u => u = q.2) (fun X u t => X = xN q.1 ∧ KPo S E ad u t) (KA S ad sz)
  | .inr _ => vx_X (S := KS) (fun _ => False) (fun _ u t => KPo S E ad u t) (KA S ad sz)
/-- the contract of a method that may throw -/
def CX {α : Type} (l : Launch) (y : MethodName) (cc : ByteArray) (maxL : Nat) (ret : Option FieldType) (rm : Room) (S : SH) (E : KE) (ad : Nat → Nat) (av : List Value) (M : KS) (Q : Nat → α → Array Value → State → Outcome → State → Prop) (o : Option (Sum (Nat × KS) α)) : Prop :=
  ∀ (sz : Nat) (r : Sum (Nat × KS) α), o = some r → vx_Met l y (.code y cc maxL ret :: TT) rm (va_Pc av (fun U => KPre S E ad M sz U ∧ XP S ad sz U)) (xQ S E ad Q sz r) (xX S E ad sz r) 1 6 (KA S ad sz)
theorem CX.ofW {α : Type} {l : Launch} {y : MethodName} {cc : ByteArray} {maxL : Nat} {ret : Option FieldType} {rm : Room} {S : SH} {E : KE} {ad : Nat → Nat} {av : List Value} {M : KS} {Q : Nat → α → Array Value → State → Outcome → State → Prop} {o : Option (Sum (Nat × KS) α)}
    (hy : plainName y.cls = true) (hn : (lg_sl av).length ≤ maxL)
    (body : ∀ (sz : Nat) (p : Program) (e : Env) (s : State) (m : MethodId) (args : Array Value) (below : List Frame) (meth : Method) (c : Code), KB p s m c cc maxL args y.cls meth S E ad sz → XP S ad sz s → (∀ x ∈ c.exceptionTable.toList, False) → meth.sig.returnType = ret → KH S E ad sz M s.heap s.heap [] → ∀ ls : Array Slot, lv_has ls maxL (lv_args 0 av) →
      W p l e rm s m args below meth c s.heap [] 0 0 (Qn (fun r => vx_MQ below (xQ S E ad Q sz r) (xX S E ad sz r) args s 1 6 (KA S ad sz)) o) (F0 m 0 ls [])) : CX l y cc maxL ret rm S E ad av M Q o := by
  intro sz r ho
  refine vx_ofW (cc := cc) (maxL := maxL) (ret := ret) hy rfl ?_
  intro p e s m args below meth c s₁ B hml h0 hv
  obtain ⟨rfl, ⟨hsz, hW, hK, hN, hI⟩, hX⟩ := hv
  have hts := atoms_spec (ws := .code y cc maxL ret :: TT) B.pre
  have hl := lv_entry av (n := maxL) hn
  rw [lg_entry_eq]
  generalize (lg_sl av ++ List.replicate (maxL - (lg_sl av).length) Slot.unset).toArray = ls at hl ⊢
  have h := body sz p e s m av.toArray below meth c ⟨⟨B.exec, B.bytes, hml, findClass_of_methodNamed B.named, fun w hw => hts w (List.mem_cons_of_mem _ hw)⟩, B.notSynchronized, hK, hN, hI, hsz⟩ hX h0 B.returns ⟨hW, va_S.rf⟩ ls hl
  rw [ho] at h
  exact h
section XROWS
variable {p : Program} {l : Launch} {e : Env} {R : Room} {s : State} {m : MethodId} {args : Array Value} {below : List Frame} {meth : Method} {c : Code} {H : Heap} {locs : List Loc} {cells slots : Nat} {Q : State → Prop}
variable {cc : ByteArray} {nL : Nat} {own : String} {S : SH} {E : KE} {ad : Nat → Nat} {sz : Nat} {M : KS} {pc : Nat} {ls : Array Slot} {rest : List Value}
theorem xe {β : Type} {F : β → State → Prop} {b : β} {Qc : Array Value → State → Outcome → State → Prop} {XC : String → State → State → Prop} {mc ms : Nat} {free : Addr → Prop} {g : JFrame} (hF : F b = vx_MQ below Qc XC args s mc ms free) (k : W p l e R s m args below meth c H locs cells slots (Qn (fun (_ : Unit) => MQ below Qc args s mc ms free) (some ())) g) : W p l e R s m args below meth c H locs cells slots (Qn F (some b)) g := by
  show W p l e R s m args below meth c H locs cells slots (F b) g
  rw [hF]
  exact vx_ret k
theorem ke_c {β : Type} {F : β → State → Prop} {b : β} (C : KB p s m c cc nL args own meth S E ad sz) (hH : KH S E ad sz M s.heap H locs) (hr : meth.sig.returnType = some .char) {mc ms : Nat} (h1 : cells ≤ mc) (h2 : slots ≤ ms) {v : Int32} (hF : F b = MQ below (QI S E ad sz (v, M)) args s mc ms (KA S ad sz)) (hn : isC v) (hdg : decode cc pc = .ok (.ireturn, 1)) :
    W p l e R s m args below meth c H locs cells slots (Qn F (some b)) (F0 m pc ls [.int v]) := by
  have h := ke_cg (l := l) (e := e) (R := R) (ls := ls) C hH hr h1 h2 hF hdg
  rw [if_pos hn] at h
  exact h
theorem xt0 (C : KB p s m c cc nL args "KinFacts" meth S E ad sz) (h0 : ∀ x ∈ c.exceptionTable.toList, False) (hH : KH S E ad sz M s.heap H locs) {x : Nat} {t : State} (h1 : s.vm.Alike t.vm) (h2 : H.size ≤ t.heap.size) (h3 : ∀ q : Nat, q < H.size → t.heap[q]? = H[q]?) : xX (α := Unit) S E ad sz (.inl (x, M)) (xN x) s t :=
  ⟨M, rfl, ⟨rfl, fun k q hk => by
    have hk1 := hH.1 k q hk
    exact va_at.kept hk1 (h3 q.1 (va_at.lt hk1))⟩, ⟨Nat.le_trans hH.2.1 h2, fun q h4 h5 => (h3 q (Nat.lt_of_lt_of_le h4 hH.2.1)).trans (hH.2.2.1 q h4 h5)⟩⟩

theorem xt_hyp (C : KB p s m c cc nL args "KinFacts" meth S E ad sz) (hX : XP S ad sz s) {x ik ic : Nat} (hk : XK x ik ic) : ((Cond.classLink "KinFacts" ik (xN x)).before args s = true ∧ (Cond.initialized (xN x)).before args s = true) ∧ (∀ w ∈ (nx_at ic x).filter vx_no, w.before args s = true) ∧ ∀ w ∈ Cond.classLink "KinFacts" ik (xN x) :: Cond.initialized (xN x) :: (nx_at ic x).filter vx_no, vx_ot w = true := by
  have hg : ∀ w ∈ TT, vx_ot w = true := fun w hw => by
    have := (List.mem_filter.mp hw).2
    unfold vx_ot
    rw [this]
    exact Bool.or_true _
  refine ⟨⟨C.1.2.2.2.2 _ hk.2.1.1, C.1.2.2.2.2 _ hk.2.1.2⟩, fun w hw => ?_, ?_⟩
  · rcases hk.2.2 w hw with h | h
    · exact C.1.2.2.2.2 _ h
    · exact va_Nw.use (XNG_on w h) (hX.2.2 w h)
  · refine List.forall_mem_cons.mpr ⟨hg _ hk.2.1.1, List.forall_mem_cons.mpr ⟨hg _ hk.2.1.2, fun w hw => ?_⟩⟩
    rcases hk.2.2 w hw with h | h
    · exact hg _ h
    · unfold vx_ot; rw [XNG_on w h]; rfl
theorem xt {β : Type} {F : β → State → Prop} {b : β} (C : KB p s m c cc nL args "KinFacts" meth S E ad sz) (hl : l.stackTraces = false) (hX : XP S ad sz s) (h0 : ∀ x ∈ c.exceptionTable.toList, False) (hH : KH S E ad sz M s.heap H locs) {x ik ic is : Nat} {text : String} (hk : XK x ik ic) (hq : (is, text) ∈ XST) (hsize : ls.size = nL)
    {Qc : Array Value → State → Outcome → State → Prop} (hF : F b = vx_MQ below Qc (xX (α := Unit) S E ad sz (.inl (x, M))) args s 1 6 (KA S ad sz))
    (d0 : decode cc pc = .ok (.new ik, 3)) (d3 : decode cc (pc + 3) = .ok (.dup, 1)) (d4 : decode cc (pc + 4) = .ok (.ldc is, 2)) (d6 : decode cc (pc + 6) = .ok (.invokespecial ic, 3)) (d9 : decode cc (pc + 9) = .ok (.athrow, 1))
    (hR : 6 ≤ R.frames ∧ 82 ≤ R.locals ∧ 1 ≤ R.cells ∧ 6 ≤ R.slots) : W p l e R s m args below meth c H locs 0 0 (Qn F (some b)) (F0 m pc ls []) := by
  show W p l e R s m args below meth c H locs 0 0 (F b) (F0 m pc ls [])
  rw [hF]
  obtain ⟨⟨hk0, hini⟩, hat, hgood⟩ := xt_hyp C hX hk
  obtain ⟨sa, hstr⟩ := hX.2.1 _ hq
  have hexec := C.1.1
  have hb := C.1.2.1
  intro T hT X
  have htr : e.platform.stackTraces = false := (show e.platform.stackTraces = l.stackTraces by rw [X.admits.platform]).trans hl
  have Y := vx_rebase X (R' := { frames := R.frames, locals := R.locals, cells := 1, slots := 6 }) (Nat.le_refl _) (Nat.le_refl _) (by show 0 + 1 ≤ R.cells; omega) (by show 0 + 6 ≤ R.slots; omega)
  obtain ⟨s', hA⟩ : ∃ z, z = (T.setVm s.vm).setFrames (.invoking m args :: below) := ⟨_, rfl⟩
  rw [← hA] at Y
  have hvm : s'.vm = s.vm := by rw [hA]; rfl
  have hhp : s'.heap = H := by rw [hA]; exact hT
  have hW0 : s.WarmedH s'.vm := by rw [hvm]; exact State.WarmedH.refl s
  have hat' : ∀ w ∈ (nx_at ic x).filter vx_no, w.before args s' = true := fun w hw => vx_ot_at hW0 hvm.symm (hgood w (List.mem_cons_of_mem _ (List.mem_cons_of_mem _ hw))) (hat w hw)
  have hk' : (Cond.classLink "KinFacts" ik (xN x)).before args s' = true := vx_ot_at hW0 hvm.symm (hgood _ List.mem_cons_self) hk0
  have hini' : (Cond.initialized (xN x)).before args s' = true := vx_ot_at hW0 hvm.symm (hgood _ (List.mem_cons_of_mem _ List.mem_cons_self)) hini
  have hU' : vx_Zq Bundle.tN "UNASSIGNED_STACK" Bundle.steD (KA S ad sz) s' s'.heap := by rw [hhp]; exact vx_Zq.moved hW0.alike (hX.1.1.kept hH.2.2.1)
  have hN' : vx_Zq Bundle.tN "SUPPRESSED_SENTINEL" Bundle.listD (KA S ad sz) s' s'.heap := by rw [hhp]; exact vx_Zq.moved hW0.alike (hX.1.2.kept hH.2.2.1)
  have h : ∀ w ∈ nx_at ic x, w.before args s' = true := vx_own hat' (vx_isRefq hU'.1) (vx_isRefq hN'.1) hU'.2.word hN'.2.word
  have hown' : s'.vm.findClass "KinFacts" = some m.cls := by rw [hvm]; exact C.1.2.2.2.1
  have hins : (Cond.instantiable (xN x) 6).before args s' = true := h _ (by simp [nx_at])
  obtain ⟨vm₁, cX, kX, hfX, hkX, -, -, X₁, st1⟩ := Y.newCold hexec (own := "KinFacts") (C := xN x) (index := ik) (n := 6) hown' hk' hins hini'
    (g := F0 m pc ls []) rfl (by rw [hb]; exact d0) (Nat.le_refl _) (Nat.le_refl _)
  generalize hT1 : (T.setVm vm₁).pushCell { cls := cX, slots := kX.instanceTypes.map defaultValue, vm := .none } = T1 at X₁ st1
  have hcat : (Value.ref T.heap.size).category = 1 := rfl
  have hcellA : T1.heap[T.heap.size]? = some (freshCell cX kX) := by rw [← hT1]; exact State.heap_pushCell_size _ _
  have d3' : decode c.code (pc + 3) = .ok (.dup, 1) := by rw [hb]; exact d3
  have d4' : decode c.code (pc + 4) = .ok (.ldc is, 2) := by rw [hb]; exact d4
  have hstr' : vk_R "KinFacts" is text sa s' := vk_R.warm hW0 hstr
  obtain ⟨U, hsteps, hrun, hend, hW, hsame, ce, hce, hvm9, hO⟩ := nx_ctor X₁ hexec htr (x := x) (ic := ic) hown' hk.1.1 h (fun x hx => nomatch hx) hfX hkX hcellA (by rw [hhp, hT]; exact Nat.le_refl _) (msg := .ref sa) rfl
    (g := { method := m, pc := pc + 6, locals := ls, stack := .ref sa :: .ref T.heap.size :: .ref T.heap.size :: [], locked := none }) rfl (hsize.trans C.1.2.2.1.symm) rfl rfl (rest := []) rfl
    (by rw [hb]; exact d6) (by rw [hb]; exact d9) (fun x hx => absurd (h0 x hx) id) hR.1 (by simp only [List.map_cons, List.sum_cons, hcat]; exact hR.2.1) C.2.1
  obtain ⟨f1, f2⟩ := vx_frame hsame
  rw [hhp] at f1 f2
  have hWs : s.WarmedH U.vm := State.WarmedH.trans hW0 hW
  have hcl : s.vm.findClass (xN x) = some ce.cls := by rw [hvm] at hO; exact hO
  have hall : s.sameButNew ({ U with vm := s.vm } : State) locs 1 6 := by
    subst hA
    obtain ⟨e1, e2⟩ := hsame
    rw [State.setFrames_setFrames] at e1
    have h2 : (T.setVm s.vm).sameButNew ({ U with vm := s.vm } : State) [] (0 + 1) (0 + 6) := ⟨e1, e2⟩
    have h3 := X.same.trans h2
    rw [List.append_nil] at h3
    exact h3.mono (Nat.le_refl _) (Nat.le_refl _)
  refine ⟨U, ?_, .threw T.heap.size, hrun, hend, Or.inr ⟨T.heap.size, rfl, xN x, ce, locs, xt0 C h0 hH hWs.alike f1 (fun q hq => f2 q hq (fun z hz => nomatch hz)), hce, hvm9, hcl, hWs, hall, hH.2.2.2⟩⟩
  refine st1 _ ?_
  show Steps p.tables e below (T1.setTop { method := m, pc := pc + 3, locals := ls, stack := .ref T.heap.size :: [], locked := none }) _
  jvm_step X₁.here [X₁.here.top, hexec, d3', Value.category]
  exact X₁.ldcString hexec (own := "KinFacts") (text := text) (index := is) (a := sa) hown' hstr'.1 hstr'.2
    (g := { method := m, pc := pc + 4, locals := ls, stack := .ref T.heap.size :: .ref T.heap.size :: [], locked := none }) rfl d4' _ hsteps
theorem xtw {β : Type} {F : β → State → Prop} {b : β} (C : KB p s m c cc nL args "KinFacts" meth S E ad sz) (hl : l.stackTraces = false) (hX : XP S ad sz s) (h0 : ∀ x ∈ c.exceptionTable.toList, False) (hH : KH S E ad sz M s.heap H locs) {x ik ic is : Nat} {text : String} (hk : XK x ik ic) (hq : (is, text) ∈ XST) (hsize : ls.size = nL)
    {Qc : Array Value → State → Outcome → State → Prop} (hF : F b = vx_MQ below Qc (xX (α := Unit) S E ad sz (.inl (x, M))) args s 1 6 (KA S ad sz))
    (d0 : decode cc pc = .ok (.new ik, 3)) (d3 : decode cc (pc + 3) = .ok (.dup, 1)) (d4 : decode cc (pc + 4) = .ok (.ldc_w is, 3)) (d6 : decode cc (pc + 7) = .ok (.invokespecial ic, 3)) (d9 : decode cc (pc + 10) = .ok (.athrow, 1))
    (hR : 6 ≤ R.frames ∧ 82 ≤ R.locals ∧ 1 ≤ R.cells ∧ 6 ≤ R.slots) : W p l e R s m args below meth c H locs 0 0 (Qn F (some b)) (F0 m pc ls []) := by
  show W p l e R s m args below meth c H locs 0 0 (F b) (F0 m pc ls [])
  rw [hF]
  obtain ⟨⟨hk0, hini⟩, hat, hgood⟩ := xt_hyp C hX hk
  obtain ⟨sa, hstr⟩ := hX.2.1 _ hq
  have hexec := C.1.1
  have hb := C.1.2.1
  intro T hT X
  have htr : e.platform.stackTraces = false := (show e.platform.stackTraces = l.stackTraces by rw [X.admits.platform]).trans hl
  have Y := vx_rebase X (R' := { frames := R.frames, locals := R.locals, cells := 1, slots := 6 }) (Nat.le_refl _) (Nat.le_refl _) (by show 0 + 1 ≤ R.cells; omega) (by show 0 + 6 ≤ R.slots; omega)
  obtain ⟨s', hA⟩ : ∃ z, z = (T.setVm s.vm).setFrames (.invoking m args :: below) := ⟨_, rfl⟩
  rw [← hA] at Y
  have hvm : s'.vm = s.vm := by rw [hA]; rfl
  have hhp : s'.heap = H := by rw [hA]; exact hT
  have hW0 : s.WarmedH s'.vm := by rw [hvm]; exact State.WarmedH.refl s
  have hat' : ∀ w ∈ (nx_at ic x).filter vx_no, w.before args s' = true := fun w hw => vx_ot_at hW0 hvm.symm (hgood w (List.mem_cons_of_mem _ (List.mem_cons_of_mem _ hw))) (hat w hw)
  have hk' : (Cond.classLink "KinFacts" ik (xN x)).before args s' = true := vx_ot_at hW0 hvm.symm (hgood _ List.mem_cons_self) hk0
  have hini' : (Cond.initialized (xN x)).before args s' = true := vx_ot_at hW0 hvm.symm (hgood _ (List.mem_cons_of_mem _ List.mem_cons_self)) hini
  have hU' : vx_Zq Bundle.tN "UNASSIGNED_STACK" Bundle.steD (KA S ad sz) s' s'.heap := by rw [hhp]; exact vx_Zq.moved hW0.alike (hX.1.1.kept hH.2.2.1)
  have hN' : vx_Zq Bundle.tN "SUPPRESSED_SENTINEL" Bundle.listD (KA S ad sz) s' s'.heap := by rw [hhp]; exact vx_Zq.moved hW0.alike (hX.1.2.kept hH.2.2.1)
  have h : ∀ w ∈ nx_at ic x, w.before args s' = true := vx_own hat' (vx_isRefq hU'.1) (vx_isRefq hN'.1) hU'.2.word hN'.2.word
  have hown' : s'.vm.findClass "KinFacts" = some m.cls := by rw [hvm]; exact C.1.2.2.2.1
  have hins : (Cond.instantiable (xN x) 6).before args s' = true := h _ (by simp [nx_at])
  obtain ⟨vm₁, cX, kX, hfX, hkX, -, -, X₁, st1⟩ := Y.newCold hexec (own := "KinFacts") (C := xN x) (index := ik) (n := 6) hown' hk' hins hini'
    (g := F0 m pc ls []) rfl (by rw [hb]; exact d0) (Nat.le_refl _) (Nat.le_refl _)
  generalize hT1 : (T.setVm vm₁).pushCell { cls := cX, slots := kX.instanceTypes.map defaultValue, vm := .none } = T1 at X₁ st1
  have hcat : (Value.ref T.heap.size).category = 1 := rfl
  have hcellA : T1.heap[T.heap.size]? = some (freshCell cX kX) := by rw [← hT1]; exact State.heap_pushCell_size _ _
  have d3' : decode c.code (pc + 3) = .ok (.dup, 1) := by rw [hb]; exact d3
  have d4' : decode c.code (pc + 4) = .ok (.ldc_w is, 3) := by rw [hb]; exact d4
  have hstr' : vk_R "KinFacts" is text sa s' := vk_R.warm hW0 hstr
  obtain ⟨U, hsteps, hrun, hend, hW, hsame, ce, hce, hvm9, hO⟩ := nx_ctor X₁ hexec htr (x := x) (ic := ic) hown' hk.1.1 h (fun x hx => nomatch hx) hfX hkX hcellA (by rw [hhp, hT]; exact Nat.le_refl _) (msg := .ref sa) rfl
    (g := { method := m, pc := pc + 7, locals := ls, stack := .ref sa :: .ref T.heap.size :: .ref T.heap.size :: [], locked := none }) rfl (hsize.trans C.1.2.2.1.symm) rfl rfl (rest := []) rfl
    (by rw [hb]; exact d6) (by rw [hb]; exact d9) (fun x hx => absurd (h0 x hx) id) hR.1 (by simp only [List.map_cons, List.sum_cons, hcat]; exact hR.2.1) C.2.1
  obtain ⟨f1, f2⟩ := vx_frame hsame
  rw [hhp] at f1 f2
  have hWs : s.WarmedH U.vm := State.WarmedH.trans hW0 hW
  have hcl : s.vm.findClass (xN x) = some ce.cls := by rw [hvm] at hO; exact hO
  have hall : s.sameButNew ({ U with vm := s.vm } : State) locs 1 6 := by
    subst hA
    obtain ⟨e1, e2⟩ := hsame
    rw [State.setFrames_setFrames] at e1
    have h2 : (T.setVm s.vm).sameButNew ({ U with vm := s.vm } : State) [] (0 + 1) (0 + 6) := ⟨e1, e2⟩
    have h3 := X.same.trans h2
    rw [List.append_nil] at h3
    exact h3.mono (Nat.le_refl _) (Nat.le_refl _)
  refine ⟨U, ?_, .threw T.heap.size, hrun, hend, Or.inr ⟨T.heap.size, rfl, xN x, ce, locs, xt0 C h0 hH hWs.alike f1 (fun q hq => f2 q hq (fun z hz => nomatch hz)), hce, hvm9, hcl, hWs, hall, hH.2.2.2⟩⟩
  refine st1 _ ?_
  show Steps p.tables e below (T1.setTop { method := m, pc := pc + 3, locals := ls, stack := .ref T.heap.size :: [], locked := none }) _
  jvm_step X₁.here [X₁.here.top, hexec, d3', Value.category]
  exact X₁.ldcStringW hexec (own := "KinFacts") (text := text) (index := is) (a := sa) hown' hstr'.1 hstr'.2
    (g := { method := m, pc := pc + 4, locals := ls, stack := .ref T.heap.size :: .ref T.heap.size :: [], locked := none }) rfl d4' _ hsteps
end XROWS
