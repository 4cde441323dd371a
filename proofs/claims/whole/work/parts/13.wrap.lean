/-- pairs of exceptions, one not the other -/
def NC (U : State) : Prop := ∀ x, x < 6 → ∀ y, y < 6 → x ≠ y → va_Nc (xN x) (xN y) U
/-- the law's answer cells: one long, one double -/
def WOL (E : KE) (qo : Nat) (v : Int64) (H : Heap) : Prop := ∃ f : Nat → Int64, f 0 = v ∧ va_P E.1 vwCl [(qo, .inl (E.2.2.2.2.1, 1, .inr (.inl f)))] H
def WOD (E : KE) (qo : Nat) (v : UInt64) (H : Heap) : Prop := ∃ f : Nat → UInt64, f 0 = v ∧ va_P E.1 vwCl [(qo, .inl (E.2.2.2.2.2.2, 1, .inr (.inr (.inr (.inl f)))))] H
def WA (ad : Nat → Nat) (sz qo : Nat) : Nat → Prop := fun q => KA SK ad sz q ∨ q = qo
theorem XNG_warm {w : Cond} (hw : w ∈ XNG) {s U : State} (hW : s.WarmedH U.vm) (h : va_Nw w s) : va_Nw w U := by
  have key : ∀ w ∈ XNG, (∃ a b, w = .castable a b) ∨ ∃ x, w = .declares x := by
    intro w hw
    simp only [XNG, List.mem_append, List.mem_map, List.mem_cons, List.not_mem_nil, or_false] at hw
    rcases hw with ⟨x, -, rfl⟩ | rfl | rfl | rfl
    · exact Or.inl ⟨_, _, rfl⟩
    · exact Or.inr ⟨_, rfl⟩
    · exact Or.inr ⟨_, rfl⟩
    · exact Or.inr ⟨_, rfl⟩
  rcases key w hw with ⟨a, b, rfl⟩ | ⟨x, rfl⟩
  · exact va_Nw.warmC hW h
  · exact va_tabs rfl (rfl : (s.setVm U.vm).vm = U.vm) (by rw [Cond.declares_setVm hW.alike]; exact h)
theorem XP.at {S : SH} {ad : Nat → Nat} {sz : Nat} {s U : State} (h : XP S ad sz s) (hU : U.heap = s.heap) (hW : s.WarmedH U.vm) : XP S ad sz U := by
  refine ⟨⟨?_, ?_⟩, fun q hq => ?_, fun w hw => XNG_warm hw hW (h.2.2 w hw)⟩
  · rw [hU]; exact vx_Zq.moved hW.alike h.1.1
  · rw [hU]; exact vx_Zq.moved hW.alike h.1.2
  · obtain ⟨a, ha⟩ := h.2.1 q hq
    exact ⟨a, vk_R.warm hW ha⟩
theorem XP.call {S : SH} {ad : Nat → Nat} {sz : Nat} {U : State} {g : JFrame} {mk : MethodId} {a : Array Value} (h : XP S ad sz U) : XP S ad sz (U.calling g mk a) := by
  refine ⟨⟨vx_Zq.moved (u := U) (Vm.Alike.refl U.vm) h.1.1, vx_Zq.moved (u := U) (Vm.Alike.refl U.vm) h.1.2⟩, fun q hq => ?_, fun w hw => va_Nw.same (XNG_on w hw) (u := U) rfl (h.2.2 w hw)⟩
  obtain ⟨b, hb⟩ := h.2.1 q hq
  exact ⟨b, vk_R.same (u := U) rfl hb⟩
theorem XPre.blind {S : SH} {E : KE} {ad : Nat → Nat} {M : KS} {sz : Nat} {av : List Value} : FrameBlind (va_Pc av (fun U => KPre S E ad M sz U ∧ XP S ad sz U)) := fun a U g mk q => by
  obtain ⟨q0, q1, q2⟩ := q
  obtain ⟨z0, z1⟩ := KPre.blind (av := av) a U g mk ⟨q0, q1⟩
  exact ⟨q0, z1, q2.call⟩
theorem KW_keep {S : SH} {E : KE} {ad : Nat → Nat} {M : KS} {H H1 : Heap} (h : KW S E ad M H) (hq : ∀ i, i < S.1 → H1[ad i]? = H[ad i]?) : KW S E ad M H1 := va_P.kept h (fun k q hk => by
  obtain ⟨h1, h2⟩ := kws_lt hk
  rw [h2]
  exact hq k h1)
theorem KW_lt {S : SH} {E : KE} {ad : Nat → Nat} {M : KS} {H : Heap} (h : KW S E ad M H) {i : Nat} (hi : i < S.1) : ad i < H.size := vx_lt h (kws_at hi)
theorem one_keep {E : KE} {q : Nat × va_E} {H H1 : Heap} (h : va_P E.1 vwCl [q] H) (hq : H1[q.1]? = H[q.1]?) : va_P E.1 vwCl [q] H1 := va_P.kept h (fun k z hk => by
  rcases k with _ | k
  · cases hk; exact hq
  · cases hk)
theorem WOL.keep {E : KE} {qo : Nat} {v : Int64} {H H1 : Heap} (h : WOL E qo v H) (hq : H1[qo]? = H[qo]?) : WOL E qo v H1 := by
  obtain ⟨f, h1, h2⟩ := h
  exact ⟨f, h1, one_keep h2 hq⟩
theorem WOD.keep {E : KE} {qo : Nat} {v : UInt64} {H H1 : Heap} (h : WOD E qo v H) (hq : H1[qo]? = H[qo]?) : WOD E qo v H1 := by
  obtain ⟨f, h1, h2⟩ := h
  exact ⟨f, h1, one_keep h2 hq⟩
theorem WOL.lt {E : KE} {qo : Nat} {v : Int64} {H : Heap} (h : WOL E qo v H) : qo < H.size := by
  obtain ⟨f, -, h2⟩ := h
  exact vx_lt h2 (k := 0) rfl
theorem WOD.lt {E : KE} {qo : Nat} {v : UInt64} {H : Heap} (h : WOD E qo v H) : qo < H.size := by
  obtain ⟨f, -, h2⟩ := h
  exact vx_lt h2 (k := 0) rfl
/-- what a catching method needs of its start -/
def WPreL (E : KE) (ad : Nat → Nat) (M : KS) (sz qo : Nat) (v : Int64) (U : State) : Prop := (KPre SK E ad M sz U ∧ XP SK ad sz U) ∧ NC U ∧ (∀ i, i < 122 → ad i ≠ qo) ∧ WOL E qo v U.heap
def QWL (E : KE) (ad : Nat → Nat) (qo sz : Nat) (a : Int32 × KS × Int64) : Array Value → State → Outcome → State → Prop := va_Qi (fun r u => r = a.1 ∧ u = a.2) (fun u t => KW SK E ad u.1 t.heap ∧ WOL E qo u.2 t.heap) (WA ad sz qo)
def CWL (l : Launch) (y : MethodName) (cc : ByteArray) (maxL : Nat) (hh : List (Nat × Nat × Nat × Nat)) (rm : Room) (E : KE) (ad : Nat → Nat) (av : List Value) (M : KS) (qo : Nat) (v : Int64) (o : Option (Int32 × KS × Int64)) : Prop :=
  ∀ (sz : Nat) (a : Int32 × KS × Int64), o = some a → Met l y (.codeWith y cc maxL (some .int) hh :: TT) rm (va_Pc av (WPreL E ad M sz qo v)) (QWL E ad qo sz a) 1 6 (WA ad sz qo)
/-- what stays with such a frame -/
def WBL (p : Program) (s : State) (m : MethodId) (c : Code) (cc : ByteArray) (nL : Nat) (args : Array Value) (meth : Method) (E : KE) (ad : Nat → Nat) (sz qo : Nat) (hh : List (Nat × Nat × Nat × Nat)) : Prop :=
  (KB p s m c cc nL args "KinFactsLaw" meth SK E ad sz ∧ XP SK ad sz s) ∧ NC s ∧ (∀ i, i < 122 → ad i ≠ qo) ∧ c.exceptionTable.toList = tableOf hh
/-- what moves -/
def WHL (E : KE) (ad : Nat → Nat) (sz qo : Nat) (M : KS) (v : Int64) (H0 H : Heap) (locs : List Loc) : Prop := KW SK E ad M H ∧ WOL E qo v H ∧ va_S (WA ad sz qo) H0 H locs
theorem CWL.ofW {l : Launch} {y : MethodName} {cc : ByteArray} {maxL : Nat} {hh : List (Nat × Nat × Nat × Nat)} {rm : Room} {E : KE} {ad : Nat → Nat} {av : List Value} {M : KS} {qo : Nat} {v : Int64} {o : Option (Int32 × KS × Int64)}
    (hy : y.cls = "KinFactsLaw") (hn : (lg_sl av).length ≤ maxL)
    (body : ∀ (sz : Nat) (p : Program) (e : Env) (s : State) (m : MethodId) (args : Array Value) (below : List Frame) (meth : Method) (c : Code), WBL p s m c cc maxL args meth E ad sz qo hh → meth.sig.returnType = some .int → WHL E ad sz qo M v s.heap s.heap [] → ∀ ls : Array Slot, lv_has ls maxL (lv_args 0 av) →
      W p l e rm s m args below meth c s.heap [] 0 0 (Qn (fun a => MQ below (QWL E ad qo sz a) args s 1 6 (WA ad sz qo)) o) (F0 m 0 ls [])) : CWL l y cc maxL hh rm E ad av M qo v o := by
  intro sz a ho
  refine MetFree.of_bodyS (code := cc) (maxLocals := maxL) (ret := some .int) (by rw [hy]; decide) ?_ ?_
  · intro args s m h hn
    obtain ⟨m9, meth, c, hn9, h1, h2, h3, h4, -, h5, h6, -⟩ := Cond.codeWith_spec (atoms_spec (ws := .codeWith y cc maxL (some .int) hh :: TT) h _ List.mem_cons_self)
    cases hn.symm.trans hn9
    exact ⟨meth, c, h1, h2, h3, h4, h5, h6⟩
  · intro p e s m args below meth c s₁ B hml hv _
    have hh0 : s₁.heap = s.heap := by rw [B.state]; rfl
    obtain ⟨rfl, ⟨⟨hsz, hW, hK, hN, hI⟩, hX⟩, hC, hq, hO⟩ := hv
    have hts := atoms_spec (ws := .codeWith y cc maxL (some .int) hh :: TT) B.pre
    have hl := lv_entry av (n := maxL) hn
    have k : W p l e rm s m av.toArray below meth c s.heap [] 0 0 (MQ below (QWL E ad qo sz a) av.toArray s 1 6 (WA ad sz qo)) (entryFrame m av.toArray maxL) := by
      rw [lg_entry_eq]
      generalize (lg_sl av ++ List.replicate (maxL - (lg_sl av).length) Slot.unset).toArray = ls at hl ⊢
      have h := body sz p e s m av.toArray below meth c ⟨⟨⟨⟨B.exec, B.bytes, hml, hy ▸ findClass_of_methodNamed B.named, fun w hw => hts w (List.mem_cons_of_mem _ hw)⟩, B.notSynchronized, hK, hN, hI, hsz⟩, hX⟩, hC, hq, vx_table (x := y) B (hts _ List.mem_cons_self)⟩ B.returns ⟨hW, hO, va_S.rf⟩ ls hl
      rw [ho] at h
      exact h
    obtain ⟨t, a1, o9, b1, b2, b3⟩ := k s₁ hh0 (Stand.of_body B)
    exact ⟨t, o9, a1, b1, b2, ⟨b3.1, b3.2⟩⟩
/-- what a catching method needs of its start -/
def WPreD (E : KE) (ad : Nat → Nat) (M : KS) (sz qo : Nat) (v : UInt64) (U : State) : Prop := (KPre SK E ad M sz U ∧ XP SK ad sz U) ∧ NC U ∧ (∀ i, i < 122 → ad i ≠ qo) ∧ WOD E qo v U.heap
def QWD (E : KE) (ad : Nat → Nat) (qo sz : Nat) (a : Int32 × KS × UInt64) : Array Value → State → Outcome → State → Prop := va_Qi (fun r u => r = a.1 ∧ u = a.2) (fun u t => KW SK E ad u.1 t.heap ∧ WOD E qo u.2 t.heap) (WA ad sz qo)
def CWD (l : Launch) (y : MethodName) (cc : ByteArray) (maxL : Nat) (hh : List (Nat × Nat × Nat × Nat)) (rm : Room) (E : KE) (ad : Nat → Nat) (av : List Value) (M : KS) (qo : Nat) (v : UInt64) (o : Option (Int32 × KS × UInt64)) : Prop :=
  ∀ (sz : Nat) (a : Int32 × KS × UInt64), o = some a → Met l y (.codeWith y cc maxL (some .int) hh :: TT) rm (va_Pc av (WPreD E ad M sz qo v)) (QWD E ad qo sz a) 1 6 (WA ad sz qo)
/-- what stays with such a frame -/
def WBD (p : Program) (s : State) (m : MethodId) (c : Code) (cc : ByteArray) (nL : Nat) (args : Array Value) (meth : Method) (E : KE) (ad : Nat → Nat) (sz qo : Nat) (hh : List (Nat × Nat × Nat × Nat)) : Prop :=
  (KB p s m c cc nL args "KinFactsLaw" meth SK E ad sz ∧ XP SK ad sz s) ∧ NC s ∧ (∀ i, i < 122 → ad i ≠ qo) ∧ c.exceptionTable.toList = tableOf hh
/-- what moves -/
def WHD (E : KE) (ad : Nat → Nat) (sz qo : Nat) (M : KS) (v : UInt64) (H0 H : Heap) (locs : List Loc) : Prop := KW SK E ad M H ∧ WOD E qo v H ∧ va_S (WA ad sz qo) H0 H locs
theorem CWD.ofW {l : Launch} {y : MethodName} {cc : ByteArray} {maxL : Nat} {hh : List (Nat × Nat × Nat × Nat)} {rm : Room} {E : KE} {ad : Nat → Nat} {av : List Value} {M : KS} {qo : Nat} {v : UInt64} {o : Option (Int32 × KS × UInt64)}
    (hy : y.cls = "KinFactsLaw") (hn : (lg_sl av).length ≤ maxL)
    (body : ∀ (sz : Nat) (p : Program) (e : Env) (s : State) (m : MethodId) (args : Array Value) (below : List Frame) (meth : Method) (c : Code), WBD p s m c cc maxL args meth E ad sz qo hh → meth.sig.returnType = some .int → WHD E ad sz qo M v s.heap s.heap [] → ∀ ls : Array Slot, lv_has ls maxL (lv_args 0 av) →
      W p l e rm s m args below meth c s.heap [] 0 0 (Qn (fun a => MQ below (QWD E ad qo sz a) args s 1 6 (WA ad sz qo)) o) (F0 m 0 ls [])) : CWD l y cc maxL hh rm E ad av M qo v o := by
  intro sz a ho
  refine MetFree.of_bodyS (code := cc) (maxLocals := maxL) (ret := some .int) (by rw [hy]; decide) ?_ ?_
  · intro args s m h hn
    obtain ⟨m9, meth, c, hn9, h1, h2, h3, h4, -, h5, h6, -⟩ := Cond.codeWith_spec (atoms_spec (ws := .codeWith y cc maxL (some .int) hh :: TT) h _ List.mem_cons_self)
    cases hn.symm.trans hn9
    exact ⟨meth, c, h1, h2, h3, h4, h5, h6⟩
  · intro p e s m args below meth c s₁ B hml hv _
    have hh0 : s₁.heap = s.heap := by rw [B.state]; rfl
    obtain ⟨rfl, ⟨⟨hsz, hW, hK, hN, hI⟩, hX⟩, hC, hq, hO⟩ := hv
    have hts := atoms_spec (ws := .codeWith y cc maxL (some .int) hh :: TT) B.pre
    have hl := lv_entry av (n := maxL) hn
    have k : W p l e rm s m av.toArray below meth c s.heap [] 0 0 (MQ below (QWD E ad qo sz a) av.toArray s 1 6 (WA ad sz qo)) (entryFrame m av.toArray maxL) := by
      rw [lg_entry_eq]
      generalize (lg_sl av ++ List.replicate (maxL - (lg_sl av).length) Slot.unset).toArray = ls at hl ⊢
      have h := body sz p e s m av.toArray below meth c ⟨⟨⟨⟨B.exec, B.bytes, hml, hy ▸ findClass_of_methodNamed B.named, fun w hw => hts w (List.mem_cons_of_mem _ hw)⟩, B.notSynchronized, hK, hN, hI, hsz⟩, hX⟩, hC, hq, vx_table (x := y) B (hts _ List.mem_cons_self)⟩ B.returns ⟨hW, hO, va_S.rf⟩ ls hl
      rw [ho] at h
      exact h
    obtain ⟨t, a1, o9, b1, b2, b3⟩ := k s₁ hh0 (Stand.of_body B)
    exact ⟨t, o9, a1, b1, b2, ⟨b3.1, b3.2⟩⟩
section WROWS
variable {p : Program} {l : Launch} {e : Env} {R : Room} {s : State} {m : MethodId} {args : Array Value} {below : List Frame} {meth : Method} {c : Code} {H : Heap} {locs : List Loc} {cells slots : Nat} {Q : State → Prop}
variable {cc : ByteArray} {nL : Nat} {E : KE} {ad : Nat → Nat} {sz qo : Nat} {M : KS} {pc : Nat} {ls : Array Slot} {rest st0 : List Value} {hh : List (Nat × Nat × Nat × Nat)}
theorem vx_none {α : Type} {f : α → State → Prop} {g : JFrame} {q : Addr} : vx_W p l e R s m args below meth c H locs cells slots (Qn f none) g q := fun T _ _ => ⟨_, Steps.refl _, trivial⟩
theorem vx_ite {α : Type} {f : α → State → Prop} {g : JFrame} {q : Addr} {b : Prop} {dec : Decidable b} {o1 o2 : Option α} (h1 : b → vx_W p l e R s m args below meth c H locs cells slots (Qn f o1) g q) (h2 : ¬ b → vx_W p l e R s m args below meth c H locs cells slots (Qn f o2) g q) : vx_W p l e R s m args below meth c H locs cells slots (Qn f (@ite _ b dec o1 o2)) g q := by
  by_cases hb : b
  · rw [if_pos hb]; exact h1 hb
  · rw [if_neg hb]; exact h2 hb
theorem kx_V (C : KB p s m c cc nL args "KinFactsLaw" meth SK E ad sz) (hX : XP SK ad sz s) (hW : KW SK E ad M s.heap) {β : Type} {y : MethodName} {cc9 : ByteArray} {mL9 n idx : Nat} {ret9 : Option FieldType} {rm9 : Room} {Q9 : Nat → β → Array Value → State → Outcome → State → Prop} {o9 : Option (Sum (Nat × KS) β)} {As : List Value} (lk : Cond.methodLink "KinFactsLaw" idx y ∈ TT) (lc : LC y cc9 mL9 ret9 n) (li : LI y 11) (hct : CX l y cc9 mL9 ret9 rm9 SK E ad (.ref (ad 121) :: As) M Q9 o9) (hst : st0 = As.reverse ++ .ref (ad 121) :: rest) (hdg : decode cc pc = .ok (.invokevirtual idx, 3)) (hn : As.length = n) (hls : ls.size = nL) (hcat : (rest.map fun v => v.category).sum ≤ 8) (hrm : rm9.cells = 1 ∧ rm9.slots = 6) (hR : rm9.frames + 1 ≤ R.frames ∧ 8 + (mL9 + 11) + rm9.locals ≤ R.locals) (hcap : 0 + 1 ≤ R.cells ∧ 0 + 6 ≤ R.slots) :
    ∀ r, o9 = some r → vx_Run p l e R s m args below meth c s.heap [] 0 0 1 6 (F0 m pc ls st0) rest (xQ SK E ad Q9 sz r (.ref (ad 121) :: As).toArray) (xX SK E ad sz r) (KA SK ad sz) := by
  intro r hr
  obtain ⟨T, N, hci⟩ := li.2
  refine vx_runV (Ts := TT) C.1 (hct sz r hr) (cwV n C.1.2.2.2.2 ?_ rfl hrm.1 hrm.2 ⟨rfl, lc.2.1, lc.2.2.1, lc.2.2.2⟩ hR) ⟨XPre.blind, va_recv C.2.2.1 hW (ci := 11) (q0 := 121) hci (by rw [kws_at oK.1, kcell_obj oK]), fun U hU hWm => ⟨rfl, ?_, hX.at hU hWm⟩⟩ rfl hn hls hst (lv_room hcat) hdg hcap
  · refine TT_app (ws := [.methodLink "KinFactsLaw" idx y, .instanceMethod y, .selects y.cls y y, .initialized y.cls, .code y cc9 mL9 ret9]) ?_
    intro w hw
    simp only [List.mem_cons, List.not_mem_nil, or_false] at hw
    rcases hw with rfl | rfl | rfl | rfl | rfl
    · exact lk
    · exact li.1.1
    · exact li.1.2
    · exact lc.1.1
    · exact lc.1.2
  · have h := KPre.at (M := M) C.2.2.1 C.2.2.2.1 C.2.2.2.2.1 (sz := sz) (locs := []) ⟨hW, va_S.rf⟩ hU hWm
    rw [C.2.2.2.2.2] at h
    exact h
theorem WA_le {q : Nat} (h : KA SK ad sz q) : WA ad sz qo q := Or.inl h
theorem WBL.keep {v : Int64} (C : WBL p s m c cc nL args meth E ad sz qo hh) (hO : WOL E qo v s.heap) {H1 : Heap} (hq : ∀ q : Nat, q < s.heap.size → ¬ KA SK ad sz q → H1[q]? = s.heap[q]?) : WOL E qo v H1 := by
  refine hO.keep (hq qo hO.lt ?_)
  rintro (⟨i, h1, h2⟩ | h)
  · exact C.2.2.1 i h1 h2.symm
  · have h3 := hO.lt
    rw [C.1.1.2.2.2.2.2] at h3
    omega
theorem wr_astL {v : Int64} (C : WBL p s m c cc nL args meth E ad sz qo hh) (hW : WHL E ad sz qo M v s.heap H locs) {x : Int64} (hdg : decode cc pc = .ok (.lastore, 1))
    (kk : ∀ (H1 : Heap) (locs1 : List Loc), WHL E ad sz qo M x s.heap H1 locs1 → W p l e R s m args below meth c H1 locs1 cells slots Q (F0 m (pc + 1) ls rest)) : W p l e R s m args below meth c H locs cells slots Q (F0 m pc ls (.long x :: .int 0 :: .ref qo :: rest)) := by
  obtain ⟨hP, ⟨f, hf, hO⟩, hS⟩ := hW
  have hlen : (kws SK E ad M).length = 122 := by simp [kws]; rfl
  have hD : va_D (WA ad sz qo) (kws SK E ad M ++ [(qo, .inl (E.2.2.2.2.1, 1, .inr (.inl f)))]) := by
    refine va_D.app ⟨(kD C.1.1.2.2.2.2.1 (sz := sz)).1, fun k q hk => WA_le ((kD C.1.1.2.2.2.2.1 (sz := sz)).2 k q hk)⟩ ⟨fun i j a b hi hj _ => ?_, fun k q hk => ?_⟩ (fun i j a b hi hj => ?_)
    · rcases i with _ | i <;> rcases j with _ | j <;> first | rfl | (exfalso; simp at hi; done) | (exfalso; simp at hj; done)
    · rcases k with _ | k
      · cases hk; exact Or.inr rfl
      · cases hk
    · rcases j with _ | j
      · cases hj
        obtain ⟨h1, h2⟩ := kws_lt hi
        rw [h2]; exact C.2.2.1 i h1
      · cases hj
  refine va_last C.1.1.1.1 C.1.1.1.2.1 C.1.1.2.2.1 (va_P.app hP hO) hD hS 122 3 (n := 1) (f := f) (by rw [List.getElem?_append_right (by omega), hlen]; rfl) rfl (by unfold vp_in; decide) hdg (fun H1 locs1 hP1 _ hS1 => kk H1 locs1 ⟨?_, ?_, hS1⟩)
  · rw [List.set_append_right _ _ (by omega)] at hP1
    intro k q hk
    exact hP1 k q (by rw [List.getElem?_append_left (List.getElem?_eq_some_iff.mp hk).1]; exact hk)
  · rw [List.set_append_right _ _ (by omega)] at hP1
    refine ⟨_, ?_, fun k q hk => hP1 (122 + k) q (by rw [List.getElem?_append_right (by omega), hlen, Nat.add_sub_cancel_left]; exact hk)⟩
    rfl
theorem we_iL {v : Int64} {β : Type} {F : β → State → Prop} {b : β} (C : WBL p s m c cc nL args meth E ad sz qo hh) (hW : WHL E ad sz qo M v s.heap H locs) (hr : meth.sig.returnType = some .int) {k : Int32} (hF : F b = MQ below (QWL E ad qo sz (k, M, v)) args s 1 6 (WA ad sz qo)) (hdg : decode cc pc = .ok (.ireturn, 1)) :
    W p l e R s m args below meth c H locs 1 6 (Qn F (some b)) (F0 m pc ls [.int k]) := by
  show W p l e R s m args below meth c H locs 1 6 (F b) (F0 m pc ls [.int k])
  rw [hF]
  exact W.iret (Qc := QWL E ad qo sz (k, M, v)) C.1.1.1.1 C.1.1.1.2.1 hr (fun t ht hWm => ⟨⟨k, (M, v), rfl, ⟨rfl, rfl⟩, by rw [ht]; exact hW.1, by rw [ht]; exact hW.2.1⟩, hW.2.2.F ht⟩) hW.2.2.2.2 hdg C.1.1.2.1
theorem wr_xL {v : Int64} {α β : Type} {F : α → State → Prop} (C : WBL p s m c cc nL args meth E ad sz qo hh) (hO : WOL E qo v s.heap) {Q9 : Nat → β → Array Value → State → Outcome → State → Prop} {x : Nat} {M1 : KS} {av : Array Value} {o1 : Option α}
    (hr : vx_Run p l e R s m args below meth c s.heap [] 0 0 1 6 (F0 m pc ls st0) rest (xQ SK E ad Q9 sz (.inl (x, M1)) av) (xX (α := β) SK E ad sz (.inl (x, M1))) (KA SK ad sz))
    (kx : ∀ (H1 : Heap) (locs1 : List Loc) (q : Nat) (ce : Cell), WHL E ad sz qo M1 v s.heap H1 locs1 → H1[q]? = some ce → ce.vm = .none → s.vm.findClass (xN x) = some ce.cls → vx_W p l e R s m args below meth c H1 locs1 1 6 (Qn F o1) (F0 m pc ls rest) q) :
    W p l e R s m args below meth c s.heap [] 0 0 (Qn F o1) (F0 m pc ls st0) := by
  refine vx_callv (a := av) (S := KS) (SX := KS) (A0 := WA ad sz qo) hr va_S.rf (fun q _ h => WA_le h) (fun q h => WA_le h) (fun q _ h => WA_le h) (fun X ce q u t H1 locs1 ht _ hp hB _ hk hS hce hcv hcl => ?_) (fun u t H1 locs1 _ _ hp => absurd hp id)
  obtain ⟨hX, hB⟩ := hB
  subst hX; subst hp
  exact kx H1 locs1 q ce ⟨by rw [← ht]; exact hB, C.keep hO hk, hS⟩ hce hcv hcl
theorem wr_iL {v : Int64} {α : Type} {F : α → State → Prop} (C : WBL p s m c cc nL args meth E ad sz qo hh) (hO : WOL E qo v s.heap) {o9 : Option (Sum (Nat × KS) (Int32 × KS))} {g : Sum (Nat × KS) (Int32 × KS) → Option α} {av : Array Value}
    (hr : ∀ r, o9 = some r → vx_Run p l e R s m args below meth c s.heap [] 0 0 1 6 (F0 m pc ls st0) rest (xQ SK E ad (QI SK E ad) sz r av) (xX SK E ad sz r) (KA SK ad sz))
    (kk : ∀ (a : Int32) (M1 : KS) (H1 : Heap) (locs1 : List Loc), WHL E ad sz qo M1 v s.heap H1 locs1 → W p l e R s m args below meth c H1 locs1 1 6 (Qn F (g (.inr (a, M1)))) (F0 m (pc + 3) ls (.int a :: rest)))
    (kx : ∀ (x : Nat) (M1 : KS) (H1 : Heap) (locs1 : List Loc) (q : Nat) (ce : Cell), WHL E ad sz qo M1 v s.heap H1 locs1 → H1[q]? = some ce → ce.vm = .none → s.vm.findClass (xN x) = some ce.cls → vx_W p l e R s m args below meth c H1 locs1 1 6 (Qn F (g (.inl (x, M1)))) (F0 m pc ls rest) q) :
    W p l e R s m args below meth c s.heap [] 0 0 (Qn F (o9.bind g)) (F0 m pc ls st0) := by
  cases ho : o9 with
  | none => exact W_none
  | some r =>
    have h := hr r ho
    rcases r with ⟨x, M1⟩ | ⟨a, M1⟩
    · exact wr_xL C hO h (fun H1 locs1 q ce => kx x M1 H1 locs1 q ce)
    · refine vx_calli (a := av) (S := KS) (SX := KS) (A0 := WA ad sz qo) h va_S.rf (fun q _ h => WA_le h) (fun q h => WA_le h) (fun q _ h => WA_le h) (fun X ce q u t H1 locs1 _ _ hp => absurd hp id) (fun r u t H1 locs1 ht _ hp hB _ hk hS => ?_)
      obtain ⟨rfl, rfl⟩ := hp
      exact kk _ _ H1 locs1 ⟨by rw [← ht]; exact hB, C.keep hO hk, hS⟩
theorem WBD.keep {v : UInt64} (C : WBD p s m c cc nL args meth E ad sz qo hh) (hO : WOD E qo v s.heap) {H1 : Heap} (hq : ∀ q : Nat, q < s.heap.size → ¬ KA SK ad sz q → H1[q]? = s.heap[q]?) : WOD E qo v H1 := by
  refine hO.keep (hq qo hO.lt ?_)
  rintro (⟨i, h1, h2⟩ | h)
  · exact C.2.2.1 i h1 h2.symm
  · have h3 := hO.lt
    rw [C.1.1.2.2.2.2.2] at h3
    omega
theorem wr_astD {v : UInt64} (C : WBD p s m c cc nL args meth E ad sz qo hh) (hW : WHD E ad sz qo M v s.heap H locs) {x : UInt64} (hdg : decode cc pc = .ok (.dastore, 1))
    (kk : ∀ (H1 : Heap) (locs1 : List Loc), WHD E ad sz qo M x s.heap H1 locs1 → W p l e R s m args below meth c H1 locs1 cells slots Q (F0 m (pc + 1) ls rest)) : W p l e R s m args below meth c H locs cells slots Q (F0 m pc ls (.double x :: .int 0 :: .ref qo :: rest)) := by
  obtain ⟨hP, ⟨f, hf, hO⟩, hS⟩ := hW
  have hlen : (kws SK E ad M).length = 122 := by simp [kws]; rfl
  have hD : va_D (WA ad sz qo) (kws SK E ad M ++ [(qo, .inl (E.2.2.2.2.2.2, 1, .inr (.inr (.inr (.inl f)))))]) := by
    refine va_D.app ⟨(kD C.1.1.2.2.2.2.1 (sz := sz)).1, fun k q hk => WA_le ((kD C.1.1.2.2.2.2.1 (sz := sz)).2 k q hk)⟩ ⟨fun i j a b hi hj _ => ?_, fun k q hk => ?_⟩ (fun i j a b hi hj => ?_)
    · rcases i with _ | i <;> rcases j with _ | j <;> first | rfl | (exfalso; simp at hi; done) | (exfalso; simp at hj; done)
    · rcases k with _ | k
      · cases hk; exact Or.inr rfl
      · cases hk
    · rcases j with _ | j
      · cases hj
        obtain ⟨h1, h2⟩ := kws_lt hi
        rw [h2]; exact C.2.2.1 i h1
      · cases hj
  refine va_dast C.1.1.1.1 C.1.1.1.2.1 C.1.1.2.2.1 (va_P.app hP hO) hD hS 122 5 (n := 1) (f := f) (by rw [List.getElem?_append_right (by omega), hlen]; rfl) rfl (by unfold vp_in; decide) hdg (fun H1 locs1 hP1 _ hS1 => kk H1 locs1 ⟨?_, ?_, hS1⟩)
  · rw [List.set_append_right _ _ (by omega)] at hP1
    intro k q hk
    exact hP1 k q (by rw [List.getElem?_append_left (List.getElem?_eq_some_iff.mp hk).1]; exact hk)
  · rw [List.set_append_right _ _ (by omega)] at hP1
    refine ⟨_, ?_, fun k q hk => hP1 (122 + k) q (by rw [List.getElem?_append_right (by omega), hlen, Nat.add_sub_cancel_left]; exact hk)⟩
    rfl
theorem we_iD {v : UInt64} {β : Type} {F : β → State → Prop} {b : β} (C : WBD p s m c cc nL args meth E ad sz qo hh) (hW : WHD E ad sz qo M v s.heap H locs) (hr : meth.sig.returnType = some .int) {k : Int32} (hF : F b = MQ below (QWD E ad qo sz (k, M, v)) args s 1 6 (WA ad sz qo)) (hdg : decode cc pc = .ok (.ireturn, 1)) :
    W p l e R s m args below meth c H locs 1 6 (Qn F (some b)) (F0 m pc ls [.int k]) := by
  show W p l e R s m args below meth c H locs 1 6 (F b) (F0 m pc ls [.int k])
  rw [hF]
  exact W.iret (Qc := QWD E ad qo sz (k, M, v)) C.1.1.1.1 C.1.1.1.2.1 hr (fun t ht hWm => ⟨⟨k, (M, v), rfl, ⟨rfl, rfl⟩, by rw [ht]; exact hW.1, by rw [ht]; exact hW.2.1⟩, hW.2.2.F ht⟩) hW.2.2.2.2 hdg C.1.1.2.1
theorem wr_xD {v : UInt64} {α β : Type} {F : α → State → Prop} (C : WBD p s m c cc nL args meth E ad sz qo hh) (hO : WOD E qo v s.heap) {Q9 : Nat → β → Array Value → State → Outcome → State → Prop} {x : Nat} {M1 : KS} {av : Array Value} {o1 : Option α}
    (hr : vx_Run p l e R s m args below meth c s.heap [] 0 0 1 6 (F0 m pc ls st0) rest (xQ SK E ad Q9 sz (.inl (x, M1)) av) (xX (α := β) SK E ad sz (.inl (x, M1))) (KA SK ad sz))
    (kx : ∀ (H1 : Heap) (locs1 : List Loc) (q : Nat) (ce : Cell), WHD E ad sz qo M1 v s.heap H1 locs1 → H1[q]? = some ce → ce.vm = .none → s.vm.findClass (xN x) = some ce.cls → vx_W p l e R s m args below meth c H1 locs1 1 6 (Qn F o1) (F0 m pc ls rest) q) :
    W p l e R s m args below meth c s.heap [] 0 0 (Qn F o1) (F0 m pc ls st0) := by
  refine vx_callv (a := av) (S := KS) (SX := KS) (A0 := WA ad sz qo) hr va_S.rf (fun q _ h => WA_le h) (fun q h => WA_le h) (fun q _ h => WA_le h) (fun X ce q u t H1 locs1 ht _ hp hB _ hk hS hce hcv hcl => ?_) (fun u t H1 locs1 _ _ hp => absurd hp id)
  obtain ⟨hX, hB⟩ := hB
  subst hX; subst hp
  exact kx H1 locs1 q ce ⟨by rw [← ht]; exact hB, C.keep hO hk, hS⟩ hce hcv hcl
theorem wr_dD {v : UInt64} {α : Type} {F : α → State → Prop} (C : WBD p s m c cc nL args meth E ad sz qo hh) (hO : WOD E qo v s.heap) {o9 : Option (Sum (Nat × KS) (UInt64 × KS))} {g : Sum (Nat × KS) (UInt64 × KS) → Option α} {av : Array Value}
    (hr : ∀ r, o9 = some r → vx_Run p l e R s m args below meth c s.heap [] 0 0 1 6 (F0 m pc ls st0) rest (xQ SK E ad (QD SK E ad) sz r av) (xX SK E ad sz r) (KA SK ad sz))
    (kk : ∀ (a : UInt64) (M1 : KS) (H1 : Heap) (locs1 : List Loc), WHD E ad sz qo M1 v s.heap H1 locs1 → W p l e R s m args below meth c H1 locs1 1 6 (Qn F (g (.inr (a, M1)))) (F0 m (pc + 3) ls (.double a :: rest)))
    (kx : ∀ (x : Nat) (M1 : KS) (H1 : Heap) (locs1 : List Loc) (q : Nat) (ce : Cell), WHD E ad sz qo M1 v s.heap H1 locs1 → H1[q]? = some ce → ce.vm = .none → s.vm.findClass (xN x) = some ce.cls → vx_W p l e R s m args below meth c H1 locs1 1 6 (Qn F (g (.inl (x, M1)))) (F0 m pc ls rest) q) :
    W p l e R s m args below meth c s.heap [] 0 0 (Qn F (o9.bind g)) (F0 m pc ls st0) := by
  cases ho : o9 with
  | none => exact W_none
  | some r =>
    have h := hr r ho
    rcases r with ⟨x, M1⟩ | ⟨a, M1⟩
    · exact wr_xD C hO h (fun H1 locs1 q ce => kx x M1 H1 locs1 q ce)
    · refine vx_calld (a := av) (S := KS) (SX := KS) (A0 := WA ad sz qo) h va_S.rf (fun q _ h => WA_le h) (fun q h => WA_le h) (fun q _ h => WA_le h) (fun X ce q u t H1 locs1 _ _ hp => absurd hp id) (fun r u t H1 locs1 ht _ hp hB _ hk hS => ?_)
      obtain ⟨rfl, rfl⟩ := hp
      exact kk _ _ H1 locs1 ⟨by rw [← ht]; exact hB, C.keep hO hk, hS⟩
theorem wr_fD {v : UInt64} {α : Type} {F : α → State → Prop} (C : WBD p s m c cc nL args meth E ad sz qo hh) (hO : WOD E qo v s.heap) {o9 : Option (Sum (Nat × KS) (UInt32 × KS))} {g : Sum (Nat × KS) (UInt32 × KS) → Option α} {av : Array Value}
    (hr : ∀ r, o9 = some r → vx_Run p l e R s m args below meth c s.heap [] 0 0 1 6 (F0 m pc ls st0) rest (xQ SK E ad (QF SK E ad) sz r av) (xX SK E ad sz r) (KA SK ad sz))
    (kk : ∀ (a : UInt32) (M1 : KS) (H1 : Heap) (locs1 : List Loc), WHD E ad sz qo M1 v s.heap H1 locs1 → W p l e R s m args below meth c H1 locs1 1 6 (Qn F (g (.inr (a, M1)))) (F0 m (pc + 3) ls (.float a :: rest)))
    (kx : ∀ (x : Nat) (M1 : KS) (H1 : Heap) (locs1 : List Loc) (q : Nat) (ce : Cell), WHD E ad sz qo M1 v s.heap H1 locs1 → H1[q]? = some ce → ce.vm = .none → s.vm.findClass (xN x) = some ce.cls → vx_W p l e R s m args below meth c H1 locs1 1 6 (Qn F (g (.inl (x, M1)))) (F0 m pc ls rest) q) :
    W p l e R s m args below meth c s.heap [] 0 0 (Qn F (o9.bind g)) (F0 m pc ls st0) := by
  cases ho : o9 with
  | none => exact W_none
  | some r =>
    have h := hr r ho
    rcases r with ⟨x, M1⟩ | ⟨a, M1⟩
    · exact wr_xD C hO h (fun H1 locs1 q ce => kx x M1 H1 locs1 q ce)
    · refine vx_callf (a := av) (S := KS) (SX := KS) (A0 := WA ad sz qo) h va_S.rf (fun q _ h => WA_le h) (fun q h => WA_le h) (fun q _ h => WA_le h) (fun X ce q u t H1 locs1 _ _ hp => absurd hp id) (fun r u t H1 locs1 ht _ hp hB _ hk hS => ?_)
      obtain ⟨rfl, rfl⟩ := hp
      exact kk _ _ H1 locs1 ⟨by rw [← ht]; exact hB, C.keep hO hk, hS⟩
end WROWS
