/-- the contract of a method that reads an array of three ints beside its world -/
def CY {α : Type} (q : Nat) (f3 : Nat → Int32) (l : Launch) (y : MethodName) (cc : ByteArray) (maxL : Nat) (ret : Option FieldType) (rm : Room) (S : SH) (E : KE) (ad : Nat → Nat) (av : List Value) (M : KS) (Q : Nat → α → Array Value → State → Outcome → State → Prop) (o : Option α) : Prop :=
  ∀ (sz : Nat) (a : α), o = some a → Met l y (.code y cc maxL ret :: TT) rm (va_Pc av (fun U => KPre S E ad M sz U ∧ va_X q 3 f3 U U.heap ∧ ¬ KA S ad sz q)) (Q sz a) rm.cells rm.slots (KA S ad sz)
theorem CY.ofW {α : Type} {q : Nat} {f3 : Nat → Int32} {l : Launch} {y : MethodName} {cc : ByteArray} {maxL : Nat} {ret : Option FieldType} {rm : Room} {S : SH} {E : KE} {ad : Nat → Nat} {av : List Value} {M : KS} {Q : Nat → α → Array Value → State → Outcome → State → Prop} {o : Option α}
    (hy : plainName y.cls = true) (hn : (lg_sl av).length ≤ maxL)
    (body : ∀ (sz : Nat) (p : Program) (e : Env) (s : State) (m : MethodId) (args : Array Value) (below : List Frame) (meth : Method) (c : Code), KB p s m c cc maxL args y.cls meth S E ad sz → va_X q 3 f3 s s.heap → ¬ KA S ad sz q → meth.sig.returnType = ret → KH S E ad sz M s.heap s.heap [] → ∀ ls : Array Slot, lv_has ls maxL (lv_args 0 av) →
      W p l e rm s m args below meth c s.heap [] 0 0 (Qn (fun a => MQ below (Q sz a) args s rm.cells rm.slots (KA S ad sz)) o) (F0 m 0 ls [])) : CY q f3 l y cc maxL ret rm S E ad av M Q o := by
  intro sz a ho
  refine Met.ofW (cc := cc) (maxL := maxL) (ret := ret) hy rfl ?_
  intro p e s m args below meth c s₁ B hml hv
  obtain ⟨rfl, ⟨hsz, hW, hK, hN, hI⟩, hX, hq⟩ := hv
  have hts := atoms_spec (ws := .code y cc maxL ret :: TT) B.pre
  have hl := lv_entry av (n := maxL) hn
  rw [lg_entry_eq]
  generalize (lg_sl av ++ List.replicate (maxL - (lg_sl av).length) Slot.unset).toArray = ls at hl ⊢
  have h := body sz p e s m av.toArray below meth c ⟨⟨B.exec, B.bytes, hml, findClass_of_methodNamed B.named, fun w hw => hts w (List.mem_cons_of_mem _ hw)⟩, B.notSynchronized, hK, hN, hI, hsz⟩ hX hq B.returns ⟨hW, va_S.rf⟩ ls hl
  rw [ho] at h
  exact h
theorem YPre.blind {S : SH} {E : KE} {ad : Nat → Nat} {M : KS} {sz q : Nat} {f3 : Nat → Int32} {av : List Value} : FrameBlind (va_Pc av (fun U => KPre S E ad M sz U ∧ va_X q 3 f3 U U.heap ∧ ¬ KA S ad sz q)) := fun a U g mk h => by
  obtain ⟨q0, q1, q2, q3⟩ := h
  obtain ⟨z0, z1⟩ := KPre.blind (av := av) a U g mk ⟨q0, q1⟩
  exact ⟨q0, z1, va_X.moved (u := U) (Vm.Alike.refl U.vm) q2, q3⟩
section AROWS
variable {p : Program} {l : Launch} {e : Env} {R : Room} {s : State} {m : MethodId} {args : Array Value} {below : List Frame} {meth : Method} {c : Code} {H : Heap} {locs : List Loc} {cells slots : Nat} {Q : State → Prop}
variable {cc : ByteArray} {nL : Nat} {own : String} {S : SH} {E : KE} {ad : Nat → Nat} {sz : Nat} {M : KS} {pc : Nat} {ls : Array Slot} {rest st0 : List Value} {q : Nat} {f3 : Nat → Int32}
theorem kx_lt {U : State} (hX : va_X q 3 f3 U H) : q < H.size := by
  obtain ⟨scr, h1, -⟩ := hX
  exact (Array.getElem?_eq_some_iff.mp h1).1
theorem kx_at (hH : KH S E ad sz M s.heap H locs) (hX : va_X q 3 f3 s s.heap) (hq : ¬ KA S ad sz q) : va_X q 3 f3 s H := hX.kept (hH.2.2.1 q (kx_lt hX) hq)
theorem kx_no (C : KB p s m c cc nL args own meth S E ad sz) (hH : KH S E ad sz M s.heap H locs) (hq : ¬ KA S ad sz q) : ¬ KA S ad H.size q := fun h => hq (KA_le (by rw [← C.2.2.2.2.2]; exact hH.2.1) h)
theorem k_xlen (C : KB p s m c cc nL args own meth S E ad sz) (hH : KH S E ad sz M s.heap H locs) (hX : va_X q 3 f3 s s.heap) (hq : ¬ KA S ad sz q) (hdg : decode cc pc = .ok (.arraylength, 1))
    (kk : W p l e R s m args below meth c H locs cells slots Q (F0 m (pc + 1) ls (.int 3 :: rest))) : W p l e R s m args below meth c H locs cells slots Q (F0 m pc ls (.ref q :: rest)) :=
  va_slen C.1.1 C.1.2.1 hX (kx_lt hX) hq hH.2 hdg kk
theorem k_xld {α : Type} {f : α → State → Prop} {o : Option α} (C : KB p s m c cc nL args own meth S E ad sz) (hH : KH S E ad sz M s.heap H locs) (hX : va_X q 3 f3 s s.heap) (hq : ¬ KA S ad sz q) {j : Int32} (hdg : decode cc pc = .ok (.iaload, 1))
    (kk : W p l e R s m args below meth c H locs cells slots (Qn f o) (F0 m (pc + 1) ls (.int (f3 j.toNatClampNeg) :: rest))) : W p l e R s m args below meth c H locs cells slots (Qn f (if inb j 3 then o else none)) (F0 m pc ls (.int j :: .ref q :: rest)) :=
  W_if (fun hin => va_sld C.1.1 C.1.2.1 hX (kx_lt hX) hq hH.2 hin hdg kk)
/-- the world with a new array of three ints behind it -/
def KN (S : SH) (E : KE) (ad : Nat → Nat) (sz : Nat) (M : KS) (q cA : Nat) (f3 : Nat → Int32) (H0 H : Heap) (locs : List Loc) : Prop :=
  va_P E.1 vwCl (kws S E ad M ++ [(q, .inl (cA, 3, .inl f3))]) H ∧ va_D (KA S ad sz) (kws S E ad M ++ [(q, .inl (cA, 3, .inl f3))]) ∧ va_S (KA S ad sz) H0 H locs
theorem kws_len : (kws S E ad M).length = S.1 := by simp [kws]
theorem kn_new (C : KB p s m c cc nL args own meth S E ad sz) (hH : KH S E ad sz M s.heap H locs) (har : Cond.arrayClass .int ∈ TT) (hdg : decode cc pc = .ok (.newarray .int, 2)) (hcells : cells + 1 ≤ R.cells) (hslots : slots + 3 ≤ R.slots)
    (kk : ∀ (q : Nat) (cA : ClassId) (H1 : Heap), KN S E ad sz M q cA (fun _ => 0) s.heap H1 locs → va_K E.1 vwCl (tyE E ++ [(cA, .int)]) s → W p l e R s m args below meth c H1 locs (cells + 1) (slots + 3) Q (F0 m (pc + 2) ls (.ref q :: rest))) : W p l e R s m args below meth c H locs cells slots Q (F0 m pc ls (.int 3 :: rest)) := by
  refine va_newa (atype := .int) (ty := .int) (N' := 3) (a0 := (3, .inl (fun _ => 0))) C.1.1 C.1.2.1 (C.1.2.2.2.2 _ har) rfl C.2.2.1 hH.1 (kD C.2.2.2.2.1) hH.2 (fun q h => Or.inr (by rw [← C.2.2.2.2.2]; exact h)) (fun cA => rfl) (by decide) rfl (by decide) hcells hslots hdg (fun q cA H1 hK hP hD hS => kk q cA H1 ⟨hP, hD, hS⟩ hK)
theorem kn_st (C : KB p s m c cc nL args own meth S E ad sz) {cA : Nat} (hK : va_K E.1 vwCl (tyE E ++ [(cA, .int)]) s) (hN : KN S E ad sz M q cA f3 s.heap H locs) {j x : Int32} (hin : vp_in j 3) (hdg : decode cc pc = .ok (.iastore, 1))
    (kk : ∀ (H1 : Heap) (locs1 : List Loc), KN S E ad sz M q cA (upd f3 j.toNatClampNeg x) s.heap H1 locs1 → W p l e R s m args below meth c H1 locs1 cells slots Q (F0 m (pc + 1) ls rest)) : W p l e R s m args below meth c H locs cells slots Q (F0 m pc ls (.int x :: .int j :: .ref q :: rest)) := by
  refine va_iast C.1.1 C.1.2.1 hK hN.1 hN.2.1 hN.2.2 S.1 6 (by rw [List.getElem?_append_right (by rw [kws_len]; exact Nat.le_refl _), kws_len, Nat.sub_self]; rfl) rfl hin hdg (fun H1 locs1 hP hD hS => kk H1 locs1 ⟨?_, ?_, hS⟩)
  · rw [List.set_append_right _ _ (by rw [kws_len]; exact Nat.le_refl _), kws_len, Nat.sub_self] at hP
    exact hP
  · rw [List.set_append_right _ _ (by rw [kws_len]; exact Nat.le_refl _), kws_len, Nat.sub_self] at hD
    exact hD
theorem kn_end (C : KB p s m c cc nL args own meth S E ad sz) {cA : Nat} (hK : va_K E.1 vwCl (tyE E ++ [(cA, .int)]) s) (hN : KN S E ad sz M q cA f3 s.heap H locs) : KH S E ad sz M s.heap H locs ∧ va_X q 3 f3 s H ∧ ¬ KA S ad H.size q := by
  have h1 : (kws S E ad M ++ [(q, (.inl (cA, 3, .inl f3) : va_E))])[S.1]? = some (q, .inl (cA, 3, .inl f3)) := by rw [List.getElem?_append_right (by rw [kws_len]; exact Nat.le_refl _), kws_len, Nat.sub_self]; rfl
  have h2 := hN.1 S.1 _ h1
  have h3 : q < H.size := va_at.lt h2
  have h4 : H[q]? = some (arrV cA 3 (fun j => .int (f3 j))) := h2
  refine ⟨⟨fun k z hk => hN.1 k z (by rw [List.getElem?_append_left (List.getElem?_eq_some_iff.mp hk).1]; exact hk), hN.2.2⟩, ⟨_, h4, (hK.2 6 _ rfl).1 3 (fun j => .int (f3 j)), (fun z => by cases z), arrV_size _ _ _, fun j hj => ?_⟩, ?_⟩
  · exact arrV_read _ _ hj
  · rintro (⟨i, h5, h6⟩ | h)
    · have h7 := kws_at (S := S) (E := E) (ad := ad) (M := M) h5
      have h8 := hN.2.1.1 i S.1 (ad i, kcell S E ad M i) _ (by rw [List.getElem?_append_left (by rw [kws_len]; exact h5)]; exact h7) h1 h6.symm
      omega
    · omega
theorem kc_VX (C : KB p s m c cc nL args own meth S E ad sz) (hH : KH S E ad sz M s.heap H locs) (hX : va_X q 3 f3 s H) (hq : ¬ KA S ad H.size q) {β : Type} {y : MethodName} {cc9 : ByteArray} {mL9 n idx : Nat} {ret9 : Option FieldType} {rm9 : Room} {Q9 : Nat → β → Array Value → State → Outcome → State → Prop} {o9 : Option β} {As : List Value} (lk : Cond.methodLink own idx y ∈ TT) (lc : LC y cc9 mL9 ret9 n) {b ci nf : Nat} (li : LI y ci) (ob : OBJ S b ci nf) (hct : CY q f3 l y cc9 mL9 ret9 rm9 S E ad (.ref (ad b) :: As) M Q9 o9) (hst : st0 = As.reverse ++ .ref (ad b) :: rest) (hdg : decode cc pc = .ok (.invokevirtual idx, 3)) (hn : As.length = n) (hls : ls.size = nL) (hcat : (rest.map fun v => v.category).sum ≤ 8) (hR : rm9.frames + 1 ≤ R.frames ∧ 8 + (mL9 + 11) + rm9.locals ≤ R.locals) (hcap : cells + rm9.cells ≤ R.cells ∧ slots + rm9.slots ≤ R.slots) :
    ∀ a, o9 = some a → va_Run p l e R s m args below meth c H locs cells slots rm9.cells rm9.slots (F0 m pc ls st0) rest (Q9 H.size a (.ref (ad b) :: As).toArray) (KA S ad H.size) := by
  intro a ha
  obtain ⟨T, N, hci⟩ := li.2
  refine va_runV (Ts := TT) C.1 (hct H.size a ha) (cwV n C.1.2.2.2.2 ?_ rfl rfl rfl ⟨rfl, lc.2.1, lc.2.2.1, lc.2.2.2⟩ hR) ⟨YPre.blind, va_recv C.2.2.1 hH.1 (ci := ci) (q0 := b) hci (by rw [kws_at ob.1, kcell_obj ob]), fun U hU hW => ⟨rfl, KPre.at C.2.2.1 C.2.2.2.1 C.2.2.2.2.1 hH hU hW, va_X.moved hW.alike (by rw [hU]; exact hX), hq⟩⟩ rfl hn hls hst (lv_room hcat) hdg hcap
  refine TT_app (ws := [.methodLink own idx y, .instanceMethod y, .selects y.cls y y, .initialized y.cls, .code y cc9 mL9 ret9]) ?_
  intro w hw
  simp only [List.mem_cons, List.not_mem_nil, or_false] at hw
  rcases hw with rfl | rfl | rfl | rfl | rfl
  · exact lk
  · exact li.1.1
  · exact li.1.2
  · exact lc.1.1
  · exact lc.1.2
end AROWS
