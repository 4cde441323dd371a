def R_law : String := "KinFactsLaw"
def lw_P (b : Addr) (xs : List Int32) (args : Array Value) (s : State) : Prop := args = #[.ref b] ∧ s.IntsAt b xs ∧ xs.length ≤ 2560 ∧ (Jvm.Cond.and given_1 narrow_1).before args s = true
/-- what a walk over the start with the record d0 says of its end, said of the start itself -/
theorem lw_closed {s t : State} {o : Outcome} {d0 : Drawn} {L : List Loc} {k n : Nat} (hd0 : s.drawn.sameBut d0 lw_cs) (hv : ∃ v, o = .returned v) (hW : (s.setDrawn d0).WarmedH t.vm) (hs : (s.setDrawn d0).sameButNew ({ t with vm := s.vm } : State) L k n) : State.butDraws s t lw_cs (fun t1 => Framed s o t1 L k n) := by
  have h2 : t.drawn = d0 := congrArg State.drawn hs.1
  refine ⟨⟨hv, hW, State.sameButNew.setDrawn hs s.drawn⟩, ?_, by decide⟩
  rw [h2]
  exact hd0
def lw_Q (_ : Array Value) (s : State) (o : Outcome) (t : State) : Prop := o = .returned (some (.int 1)) ∧ State.butDraws s t lw_cs (fun t1 => Framed s o t1 [] 603072 7211114)
def lw_Z (below : List Frame) (a : Array Value) (s : State) : State → Prop := fun t => ∃ o, t.status = .running ∧ Ended t below o ∧ lw_Q a s o t
/-- the law's own end, with 1 on the stack, nothing written that was there before, its room as the claim has it; d0: the record of draws at this point (at the entry s.drawn: begin with 'refine W.base ?_' and 'have hd0 := Drawn.sameBut.refl s.drawn lw_cs') -/
theorem lw_ret {p : Program} {l : Launch} {e : Env} {s : State} {m : MethodId} {below : List Frame} {meth : Method} {c : Code} {b : Nat} {d0 : Drawn} (hd0 : s.drawn.sameBut d0 lw_cs) (hx : p.tables.exec = Jvm.exec) (hb : c.code = code) (hr : meth.sig.returnType = ret) (hlocks : meth.locks = false) {pc : Nat} {H : Heap} {ls : Array Slot} (hdg : decode code pc = .ok (.ireturn, 1)) : W p l e room_1 (s.setDrawn d0) m #[Value.ref b] below meth c H [] 603072 7211114 (lw_Z below #[Value.ref b] s) (F0 m pc ls [.int 1]) := by
  intro T hT X
  obtain ⟨fs, hret, hrun, hended, hW, hframe⟩ := X.leave (v := some (.int 1)) (hlocks := hlocks) (fun h => by rw [hr] at h; cases h)
  have hmeth' : T.vm.method? m = some meth := X.method'
  refine ⟨T.setFrames fs, ?_, .returned (some (.int 1)), hrun, hended, rfl, lw_closed hd0 ⟨_, rfl⟩ hW hframe⟩
  jvm_step X.here [X.here.top, hx, hb, hdg, hmeth', hr, ret, narrow_b1]
  (try refine ⟨rfl, ?_⟩); (try refine ⟨rfl, ?_⟩)
  first | (intro acts; rw [hret _ acts rfl rfl rfl]) | rw [hret _ _ rfl rfl rfl]
  exact Steps.refl _
/-- what holds at the law's entry: the machine, the code, the tables' words (any of lw_tbl by 'hts w (by decide +kernel)'), the script of L ints xs at the cell b, what the Statement gives of the start (any of its parts by flat_of_before) -/
def lw_At (p : Program) (s : State) (m : MethodId) (meth : Method) (c : Code) (b L : Nat) (xs : Nat → Int32) : Prop :=
  p.tables.exec = Jvm.exec ∧ c.code = code ∧ meth.sig.returnType = ret ∧ c.maxLocals = 9 ∧ s.vm.findClass R_law = some m.cls ∧ (∀ w ∈ lw_tbl, w.before #[Value.ref b] s = true) ∧ va_X b L xs s s.heap ∧ b < s.heap.size ∧ meth.locks = false ∧ (Jvm.Cond.and given_1 narrow_1).before #[Value.ref b] s = true
/-- one call of the script -/
def gStep {α : Type} (xs : Nat → Int32) (i : Nat) (x : LST) (G : LST → Option α) : Option α := (if xs i &&& 63 = 0 then gL_0 xs i x G else (if xs i &&& 63 = 1 then gL_1 xs i x G else (if xs i &&& 63 = 2 then gL_2 xs i x G else (if xs i &&& 63 = 3 then gL_3 xs i x G else (if xs i &&& 63 = 4 then gL_4 xs i x G else (if xs i &&& 63 = 5 then gL_5 xs i x G else (if xs i &&& 63 = 6 then gL_6 xs i x G else (if xs i &&& 63 = 7 then gL_7 xs i x G else (if xs i &&& 63 = 8 then gL_8 xs i x G else (if xs i &&& 63 = 9 then gL_9 xs i x G else (if xs i &&& 63 = 10 then gL_10 xs i x G else (if xs i &&& 63 = 11 then gL_11 xs i x G else (if xs i &&& 63 = 12 then gL_12 xs i x G else (if xs i &&& 63 = 13 then gL_13 xs i x G else (if xs i &&& 63 = 14 then gL_14 xs i x G else (if xs i &&& 63 = 15 then gL_15 xs i x G else (if xs i &&& 63 = 16 then gL_16 xs i x G else (if xs i &&& 63 = 17 then gL_17 xs i x G else (if xs i &&& 63 = 18 then gL_18 xs i x G else (if xs i &&& 63 = 19 then gL_19 xs i x G else (if xs i &&& 63 = 20 then gL_20 xs i x G else (if xs i &&& 63 = 21 then gL_21 xs i x G else (if xs i &&& 63 = 22 then gL_22 xs i x G else (if xs i &&& 63 = 23 then gL_23 xs i x G else (if xs i &&& 63 = 24 then gL_24 xs i x G else (if xs i &&& 63 = 25 then gL_25 xs i x G else (if xs i &&& 63 = 26 then gL_26 xs i x G else (if xs i &&& 63 = 27 then gL_27 xs i x G else (if xs i &&& 63 = 28 then gL_28 xs i x G else (if xs i &&& 63 = 29 then gL_29 xs i x G else (if xs i &&& 63 = 30 then gL_30 xs i x G else (if xs i &&& 63 = 31 then gL_31 xs i x G else (if xs i &&& 63 = 32 then gL_32 xs i x G else G x)))))))))))))))))))))))))))))))))
def gLoop (xs : Nat → Int32) (L : Nat) : Nat → Nat → LST → Option Unit
  | 0, _, _ => none
  | n + 1, i, x => if i + 5 ≤ L then gStep xs i x (fun y => gLoop xs L n (i + 5) y) else some ()
theorem l_tab {v : Int32} (e0 : ¬ v = 0) (e1 : ¬ v = 1) (e2 : ¬ v = 2) (e3 : ¬ v = 3) (e4 : ¬ v = 4) (e5 : ¬ v = 5) (e6 : ¬ v = 6) (e7 : ¬ v = 7) (e8 : ¬ v = 8) (e9 : ¬ v = 9) (e10 : ¬ v = 10) (e11 : ¬ v = 11) (e12 : ¬ v = 12) (e13 : ¬ v = 13) (e14 : ¬ v = 14) (e15 : ¬ v = 15) (e16 : ¬ v = 16) (e17 : ¬ v = 17) (e18 : ¬ v = 18) (e19 : ¬ v = 19) (e20 : ¬ v = 20) (e21 : ¬ v = 21) (e22 : ¬ v = 22) (e23 : ¬ v = 23) (e24 : ¬ v = 24) (e25 : ¬ v = 25) (e26 : ¬ v = 26) (e27 : ¬ v = 27) (e28 : ¬ v = 28) (e29 : ¬ v = 29) (e30 : ¬ v = 30) (e31 : ¬ v = 31) (e32 : ¬ v = 32) : v.toInt < 0 ∨ 32 < v.toInt := by
  have key : ∀ k : Nat, k ≤ 32 → ¬ v = nI k := fun k hk => by
    match k, hk with
    | 0, _ => exact e0
    | 1, _ => exact e1
    | 2, _ => exact e2
    | 3, _ => exact e3
    | 4, _ => exact e4
    | 5, _ => exact e5
    | 6, _ => exact e6
    | 7, _ => exact e7
    | 8, _ => exact e8
    | 9, _ => exact e9
    | 10, _ => exact e10
    | 11, _ => exact e11
    | 12, _ => exact e12
    | 13, _ => exact e13
    | 14, _ => exact e14
    | 15, _ => exact e15
    | 16, _ => exact e16
    | 17, _ => exact e17
    | 18, _ => exact e18
    | 19, _ => exact e19
    | 20, _ => exact e20
    | 21, _ => exact e21
    | 22, _ => exact e22
    | 23, _ => exact e23
    | 24, _ => exact e24
    | 25, _ => exact e25
    | 26, _ => exact e26
    | 27, _ => exact e27
    | 28, _ => exact e28
    | 29, _ => exact e29
    | 30, _ => exact e30
    | 31, _ => exact e31
    | 32, _ => exact e32
    | k + 33, hk => exact absurd hk (by omega)
  rcases Int.lt_or_le v.toInt 0 with h | h
  · exact Or.inl h
  · rcases Int.lt_or_le 32 v.toInt with h3 | h3
    · exact Or.inr h3
    · exfalso
      refine key v.toInt.toNat (by omega) (Int32.toInt_inj.mp ?_)
      rw [nI_toInt (by omega)]
      omega
set_option maxHeartbeats 4000000 in
set_option maxRecDepth 100000 in
theorem kc_step {p : Program} {l : Launch} (hl9 : l.stackTraces = false) {e : Env} {s : State} {m : MethodId} {args : Array Value} {below : List Frame} {meth : Method} {c : Code} {E : KE} {h0 b L : Nat} {xs : Nat → Int32} (C : LB p s m c args meth E h0) (hX : va_X b L xs s s.heap) (hbl : b < s.heap.size) {x : LST} {H : Heap} {locs : List Loc} {cells slots : Nat} (hH : LH E h0 x s H locs) {i : Nat} (hi : i + 5 ≤ L) (hL : L ≤ 2560) {n : Int32} (hn : n = nI i) {ls : Array Slot} (hl : lv_has ls 9 (lv9 b h0 n)) {α : Type} {f : α → State → Prop} {G : LST → Option α} (hcap : cells + 2 ≤ 603072 ∧ slots + 9 ≤ 7211114)
    (kk : ∀ (x : LST) (H : Heap) (locs : List Loc) (ls : Array Slot), LH E h0 x s H locs → lv_has ls 9 (lv9 b h0 n) → W p l e room_1 s m args below meth c H locs (cells + 2) (slots + 9) (Qn f (G x)) (F0 m 2261 ls [])) : W p l e room_1 s m args below meth c H locs cells slots (Qn f (gStep xs i x G)) (F0 m 37 ls []) := by
  have hx := C.1.1.1
  have hb := C.1.1.2.1
  have q0 : vp_in n L ∧ xs n.toNatClampNeg = xs i := by
    subst hn
    exact ⟨vp_in_nI (by omega) (by omega), by rw [nI_clamp (by omega)]⟩
  refine lv_aload_n hx hb dL_law_37 rfl (lv_at hl 0 rfl) ?_
  refine lv_iload hx hb dL_law_38 (lv_at hl 5 rfl) ?_
  refine l_sld C hH hX hbl q0 dL_law_40 ?_
  refine lv_bipush (v := 63) hx hb dL_law_41 (by decide) ?_
  refine lv_iand hx hb dL_law_43 ?_
  unfold gStep
  refine W_ite (fun hs0 => ?_) (fun hs0 => ?_)
  · refine lv_tableIn (tgt := 192) hx hb dL_law_44 (by rw [hs0]; decide) (by rw [hs0]; decide) (by rw [hs0]; rfl) (by decide) ?_
    exact kc_0 hl9 C hX hbl hH hi hL hn hl hcap kk
  refine W_ite (fun hs1 => ?_) (fun hs1 => ?_)
  · refine lv_tableIn (tgt := 272) hx hb dL_law_44 (by rw [hs1]; decide) (by rw [hs1]; decide) (by rw [hs1]; rfl) (by decide) ?_
    exact kc_1 hl9 C hX hbl hH hi hL hn hl hcap kk
  refine W_ite (fun hs2 => ?_) (fun hs2 => ?_)
  · refine lv_tableIn (tgt := 352) hx hb dL_law_44 (by rw [hs2]; decide) (by rw [hs2]; decide) (by rw [hs2]; rfl) (by decide) ?_
    exact kc_2 hl9 C hX hbl hH hi hL hn hl hcap kk
  refine W_ite (fun hs3 => ?_) (fun hs3 => ?_)
  · refine lv_tableIn (tgt := 467) hx hb dL_law_44 (by rw [hs3]; decide) (by rw [hs3]; decide) (by rw [hs3]; rfl) (by decide) ?_
    exact kc_3 hl9 C hX hbl hH hi hL hn hl hcap kk
  refine W_ite (fun hs4 => ?_) (fun hs4 => ?_)
  · refine lv_tableIn (tgt := 554) hx hb dL_law_44 (by rw [hs4]; decide) (by rw [hs4]; decide) (by rw [hs4]; rfl) (by decide) ?_
    exact kc_4 hl9 C hX hbl hH hi hL hn hl hcap kk
  refine W_ite (fun hs5 => ?_) (fun hs5 => ?_)
  · refine lv_tableIn (tgt := 646) hx hb dL_law_44 (by rw [hs5]; decide) (by rw [hs5]; decide) (by rw [hs5]; rfl) (by decide) ?_
    exact kc_5 hl9 C hX hbl hH hi hL hn hl hcap kk
  refine W_ite (fun hs6 => ?_) (fun hs6 => ?_)
  · refine lv_tableIn (tgt := 726) hx hb dL_law_44 (by rw [hs6]; decide) (by rw [hs6]; decide) (by rw [hs6]; rfl) (by decide) ?_
    exact kc_6 hl9 C hX hbl hH hi hL hn hl hcap kk
  refine W_ite (fun hs7 => ?_) (fun hs7 => ?_)
  · refine lv_tableIn (tgt := 806) hx hb dL_law_44 (by rw [hs7]; decide) (by rw [hs7]; decide) (by rw [hs7]; rfl) (by decide) ?_
    exact kc_7 hl9 C hX hbl hH hi hL hn hl hcap kk
  refine W_ite (fun hs8 => ?_) (fun hs8 => ?_)
  · refine lv_tableIn (tgt := 874) hx hb dL_law_44 (by rw [hs8]; decide) (by rw [hs8]; decide) (by rw [hs8]; rfl) (by decide) ?_
    exact kc_8 hl9 C hX hbl hH hi hL hn hl hcap kk
  refine W_ite (fun hs9 => ?_) (fun hs9 => ?_)
  · refine lv_tableIn (tgt := 942) hx hb dL_law_44 (by rw [hs9]; decide) (by rw [hs9]; decide) (by rw [hs9]; rfl) (by decide) ?_
    exact kc_9 hl9 C hX hbl hH hi hL hn hl hcap kk
  refine W_ite (fun hs10 => ?_) (fun hs10 => ?_)
  · refine lv_tableIn (tgt := 998) hx hb dL_law_44 (by rw [hs10]; decide) (by rw [hs10]; decide) (by rw [hs10]; rfl) (by decide) ?_
    exact kc_10 hl9 C hX hbl hH hi hL hn hl hcap kk
  refine W_ite (fun hs11 => ?_) (fun hs11 => ?_)
  · refine lv_tableIn (tgt := 1061) hx hb dL_law_44 (by rw [hs11]; decide) (by rw [hs11]; decide) (by rw [hs11]; rfl) (by decide) ?_
    exact kc_11 hl9 C hX hbl hH hi hL hn hl hcap kk
  refine W_ite (fun hs12 => ?_) (fun hs12 => ?_)
  · refine lv_tableIn (tgt := 1153) hx hb dL_law_44 (by rw [hs12]; decide) (by rw [hs12]; decide) (by rw [hs12]; rfl) (by decide) ?_
    exact kc_12 hl9 C hX hbl hH hi hL hn hl hcap kk
  refine W_ite (fun hs13 => ?_) (fun hs13 => ?_)
  · refine lv_tableIn (tgt := 1209) hx hb dL_law_44 (by rw [hs13]; decide) (by rw [hs13]; decide) (by rw [hs13]; rfl) (by decide) ?_
    exact kc_13 hl9 C hX hbl hH hi hL hn hl hcap kk
  refine W_ite (fun hs14 => ?_) (fun hs14 => ?_)
  · refine lv_tableIn (tgt := 1277) hx hb dL_law_44 (by rw [hs14]; decide) (by rw [hs14]; decide) (by rw [hs14]; rfl) (by decide) ?_
    exact kc_14 hl9 C hX hbl hH hi hL hn hl hcap kk
  refine W_ite (fun hs15 => ?_) (fun hs15 => ?_)
  · refine lv_tableIn (tgt := 1345) hx hb dL_law_44 (by rw [hs15]; decide) (by rw [hs15]; decide) (by rw [hs15]; rfl) (by decide) ?_
    exact kc_15 hl9 C hX hbl hH hi hL hn hl hcap kk
  refine W_ite (fun hs16 => ?_) (fun hs16 => ?_)
  · refine lv_tableIn (tgt := 1444) hx hb dL_law_44 (by rw [hs16]; decide) (by rw [hs16]; decide) (by rw [hs16]; rfl) (by decide) ?_
    exact kc_16 hl9 C hX hbl hH hi hL hn hl hcap kk
  refine W_ite (fun hs17 => ?_) (fun hs17 => ?_)
  · refine lv_tableIn (tgt := 1457) hx hb dL_law_44 (by rw [hs17]; decide) (by rw [hs17]; decide) (by rw [hs17]; rfl) (by decide) ?_
    exact kc_17 hl9 C hX hbl hH hi hL hn hl hcap kk
  refine W_ite (fun hs18 => ?_) (fun hs18 => ?_)
  · refine lv_tableIn (tgt := 1513) hx hb dL_law_44 (by rw [hs18]; decide) (by rw [hs18]; decide) (by rw [hs18]; rfl) (by decide) ?_
    exact kc_18 hl9 C hX hbl hH hi hL hn hl hcap kk
  refine W_ite (fun hs19 => ?_) (fun hs19 => ?_)
  · refine lv_tableIn (tgt := 1581) hx hb dL_law_44 (by rw [hs19]; decide) (by rw [hs19]; decide) (by rw [hs19]; rfl) (by decide) ?_
    exact kc_19 hl9 C hX hbl hH hi hL hn hl hcap kk
  refine W_ite (fun hs20 => ?_) (fun hs20 => ?_)
  · refine lv_tableIn (tgt := 1661) hx hb dL_law_44 (by rw [hs20]; decide) (by rw [hs20]; decide) (by rw [hs20]; rfl) (by decide) ?_
    exact kc_20 hl9 C hX hbl hH hi hL hn hl hcap kk
  refine W_ite (fun hs21 => ?_) (fun hs21 => ?_)
  · refine lv_tableIn (tgt := 1717) hx hb dL_law_44 (by rw [hs21]; decide) (by rw [hs21]; decide) (by rw [hs21]; rfl) (by decide) ?_
    exact kc_21 hl9 C hX hbl hH hi hL hn hl hcap kk
  refine W_ite (fun hs22 => ?_) (fun hs22 => ?_)
  · refine lv_tableIn (tgt := 1773) hx hb dL_law_44 (by rw [hs22]; decide) (by rw [hs22]; decide) (by rw [hs22]; rfl) (by decide) ?_
    exact kc_22 hl9 C hX hbl hH hi hL hn hl hcap kk
  refine W_ite (fun hs23 => ?_) (fun hs23 => ?_)
  · refine lv_tableIn (tgt := 1831) hx hb dL_law_44 (by rw [hs23]; decide) (by rw [hs23]; decide) (by rw [hs23]; rfl) (by decide) ?_
    exact kc_23 hl9 C hX hbl hH hi hL hn hl hcap kk
  refine W_ite (fun hs24 => ?_) (fun hs24 => ?_)
  · refine lv_tableIn (tgt := 1875) hx hb dL_law_44 (by rw [hs24]; decide) (by rw [hs24]; decide) (by rw [hs24]; rfl) (by decide) ?_
    exact kc_24 hl9 C hX hbl hH hi hL hn hl hcap kk
  refine W_ite (fun hs25 => ?_) (fun hs25 => ?_)
  · refine lv_tableIn (tgt := 1888) hx hb dL_law_44 (by rw [hs25]; decide) (by rw [hs25]; decide) (by rw [hs25]; rfl) (by decide) ?_
    exact kc_25 hl9 C hX hbl hH hi hL hn hl hcap kk
  refine W_ite (fun hs26 => ?_) (fun hs26 => ?_)
  · refine lv_tableIn (tgt := 1960) hx hb dL_law_44 (by rw [hs26]; decide) (by rw [hs26]; decide) (by rw [hs26]; rfl) (by decide) ?_
    exact kc_26 hl9 C hX hbl hH hi hL hn hl hcap kk
  refine W_ite (fun hs27 => ?_) (fun hs27 => ?_)
  · refine lv_tableIn (tgt := 2016) hx hb dL_law_44 (by rw [hs27]; decide) (by rw [hs27]; decide) (by rw [hs27]; rfl) (by decide) ?_
    exact kc_27 hl9 C hX hbl hH hi hL hn hl hcap kk
  refine W_ite (fun hs28 => ?_) (fun hs28 => ?_)
  · refine lv_tableIn (tgt := 2029) hx hb dL_law_44 (by rw [hs28]; decide) (by rw [hs28]; decide) (by rw [hs28]; rfl) (by decide) ?_
    exact kc_28 hl9 C hX hbl hH hi hL hn hl hcap kk
  refine W_ite (fun hs29 => ?_) (fun hs29 => ?_)
  · refine lv_tableIn (tgt := 2094) hx hb dL_law_44 (by rw [hs29]; decide) (by rw [hs29]; decide) (by rw [hs29]; rfl) (by decide) ?_
    exact kc_29 hl9 C hX hbl hH hi hL hn hl hcap kk
  refine W_ite (fun hs30 => ?_) (fun hs30 => ?_)
  · refine lv_tableIn (tgt := 2160) hx hb dL_law_44 (by rw [hs30]; decide) (by rw [hs30]; decide) (by rw [hs30]; rfl) (by decide) ?_
    exact kc_30 hl9 C hX hbl hH hi hL hn hl hcap kk
  refine W_ite (fun hs31 => ?_) (fun hs31 => ?_)
  · refine lv_tableIn (tgt := 2204) hx hb dL_law_44 (by rw [hs31]; decide) (by rw [hs31]; decide) (by rw [hs31]; rfl) (by decide) ?_
    exact kc_31 hl9 C hX hbl hH hi hL hn hl hcap kk
  refine W_ite (fun hs32 => ?_) (fun hs32 => ?_)
  · refine lv_tableIn (tgt := 2217) hx hb dL_law_44 (by rw [hs32]; decide) (by rw [hs32]; decide) (by rw [hs32]; rfl) (by decide) ?_
    exact kc_32 hl9 C hX hbl hH hi hL hn hl hcap kk
  refine lv_tableOut (tgt := 2261) hx hb dL_law_44 (l_tab hs0 hs1 hs2 hs3 hs4 hs5 hs6 hs7 hs8 hs9 hs10 hs11 hs12 hs13 hs14 hs15 hs16 hs17 hs18 hs19 hs20 hs21 hs22 hs23 hs24 hs25 hs26 hs27 hs28 hs29 hs30 hs31 hs32) (by decide) ?_
  exact W.widen (k := cells + 2) (n := slots + 9) (Nat.le_add_right _ _) (Nat.le_add_right _ _) (kk _ H locs ls hH hl)
set_option maxHeartbeats 4000000 in
set_option maxRecDepth 100000 in
theorem kc_loop {p : Program} {l : Launch} (hl9 : l.stackTraces = false) {e : Env} {s : State} {m : MethodId} {below : List Frame} {meth : Method} {c : Code} {E : KE} {h0 b L : Nat} {xs : Nat → Int32} (C : LB p s m c #[Value.ref b] meth E h0) (hr : meth.sig.returnType = ret) (hX : va_X b L xs s s.heap) (hbl : b < s.heap.size) (hL : L ≤ 2560) : ∀ (k i : Nat) (x : LST) (H : Heap) (locs : List Loc) (cells slots : Nat) (n : Int32) (ls : Array Slot), LH E h0 x s H locs → i ≤ 2560 → n = nI i → lv_has ls 9 (lv9 b h0 n) → cells + 2 * k ≤ 603072 → slots + 9 * k ≤ 7211114 → W p l e room_1 s m #[Value.ref b] below meth c H locs cells slots (Qn (fun (_ : Unit) => lw_Z below #[Value.ref b] s) (gLoop xs L k i x)) (F0 m 28 ls []) := by
  have hx := C.1.1.1
  have hb := C.1.1.2.1
  intro k
  induction k with
  | zero => intro i x H locs cells slots n ls _ _ _ _ _ _; exact W_none
  | succ k ih =>
    intro i x H locs cells slots n ls hH hi5 hn hl h1 h2
    refine lv_iload hx hb dL_law_28 (lv_at hl 5 rfl) ?_
    refine lv_aload_n hx hb dL_law_30 rfl (lv_at hl 0 rfl) ?_
    refine va_slen (A := LA s) hx hb hX hbl (Nat.not_le.mpr hbl) hH.2.2 dL_law_31 ?_
    refine lv_iconst (v := 5) hx hb dL_law_32 (by decide) ?_
    refine lv_isub hx hb dL_law_33 ?_
    have hsub : (Int32.ofNat L - 5).toInt = (L : Int) - 5 := by
      have h5 : (5 : Int32).toInt = 5 := by decide
      have hLn : (Int32.ofNat L).toInt = L := nI_toInt (by omega)
      rw [Int32.toInt_sub, hLn, h5, Int.bmod_def]
      omega
    have hni : n.toInt = i := by rw [hn]; exact nI_toInt (by omega)
    unfold gLoop
    refine lv_icmp_gt (tgt := 2267) hx hb dL_law_34 (by decide) (fun hgt => ?_) (fun hgt => ?_)
    · have hc : ¬ i + 5 ≤ L := by rw [Int32.lt_iff_toInt_lt, hsub, hni] at hgt; omega
      rw [if_neg hc]
      refine lv_iconst (v := 1) hx hb dL_law_2267 (by decide) ?_
      refine va_forget (fun q hq => hH.2.2.2.2 q hq) ?_
      refine W.widen (k := 603072) (n := 7211114) (by omega) (by omega) ?_
      exact W.base (lw_ret (Drawn.sameBut.refl s.drawn lw_cs) hx hb hr C.1.2 dL_law_2268)
    · have hc : i + 5 ≤ L := by rw [Int32.lt_iff_toInt_lt, hsub, hni] at hgt; omega
      rw [if_pos hc]
      refine kc_step hl9 C hX hbl hH hc hL hn hl ⟨by omega, by omega⟩ (fun x H locs ls hH hl => ?_)
      obtain ⟨n9, en9⟩ : ∃ y : Int32, y = n + 5 := ⟨_, rfl⟩
      refine lv_iinc (v := n9) (lv' := [(5, .int n9), (0, .ref b), (1, .ref (a1 h0 121)), (2, .ref (a2 h0 0)), (3, .ref (h0 + 143)), (4, .ref (h0 + 144))]) hx hb dL_law_2261 hl (k := 5) rfl (by rw [en9]; rfl) (by decide) rfl (fun ls hl => ?_)
      refine lv_goto (tgt := 28) hx hb dL_law_2264 (by decide) ?_
      exact ih (i + 5) x H locs (cells + 2) (slots + 9) n9 ls hH (by omega) (by rw [en9, hn]; exact nI_add i 5) (lv_sub hl [1, 2, 3, 4, 5, 0] rfl) (by omega) (by omega)
theorem l_pa {s : State} {args : Array Value} {at0 : ArrayType} (h : (Cond.arrayClass (newarray.typeOf at0)).before args s = true) : ∃ cA : ClassId, ArrOfT s cA (newarray.typeOf at0) ∧ va_RA s cA (newarray.typeOf at0) := by
  obtain ⟨c, k, comp, h1, h2, h3⟩ := Cond.arrayClass_spec h
  refine ⟨c, fun n z => ⟨fun k h => (by cases h), k, h2, comp, h3⟩, ?_⟩
  cases at0 <;> exact h1
theorem l_oa {s : State} {args : Array Value} {C : String} (h : (Cond.arrayOver (.object C)).before args s = true) : ∃ cA : ClassId, ArrOfT s cA (.object C) ∧ va_RA s cA (.object C) := by
  obtain ⟨comp, c, k, h1, h2, h3, h4, h5⟩ := Cond.arrayOver_spec h
  exact ⟨c, fun n z => ⟨fun k h => (by cases h), k, h3, comp, h4⟩, k, comp, h3, h4, h1, h5⟩
theorem l_str {s : State} {args : Array Value} {own tx : String} {k : Nat} (h : (Cond.stringRef own k tx).before args s = true) : ∃ a, vk_R own k tx a s := by
  have h9 := h
  simp only [Cond.before, Cond.holds, Cond.value] at h
  cases hf : s.vm.findClass own with
  | none => simp [hf] at h
  | some cl =>
    cases hr : s.resolvedAt? own k with
    | none => simp [hf, hr] at h
    | some r =>
      cases r with
      | string a =>
        refine ⟨a, vk_R.of (A := args) h9 ?_⟩
        simp only [State.resolvedAt?] at hr
        simp only [Term.eval]
        revert hr
        cases hcl : s.vm.classes[cl]? with
        | none => simp [hf, hcl]
        | some kc =>
          simp only [hf, hcl]
          intro hr
          simp_all
      | _ => simp [hf, hr] at h
theorem inJ0w : ∀ w ∈ wsJ00, w ∈ lw_tbl := by decide +kernel
theorem inJxw : ∀ w ∈ wsJx000600, w ∈ lw_tbl := by decide +kernel
set_option maxRecDepth 100000 in
theorem l_E {s : State} {args : Array Value} (hts : ∀ w ∈ lw_tbl, w.before args s = true) : ∃ E : KE, va_K E.1 vwCl (tyE E) s := by
  obtain ⟨c0, i0, k0⟩ := u_known (C := RJ0) (T := TJ0) (N := 2) hts inJ0w (hts (.instantiable "java/lang/String" 4) (by decide +kernel))
  obtain ⟨c1, i1, k1⟩ := u_known (C := RJx00060) (T := TJx00060) (N := 6) hts inJxw (hts (.instantiable "java/lang/ArrayIndexOutOfBoundsException" 6) (by decide +kernel))
  obtain ⟨c2, i2, k2⟩ := u_known (C := RX0) (T := TX0) (N := 2) hts (fun w h => TT_in w (in_X0 w h)) (hts (.instantiable "KinFacts$Again" 2) (by decide +kernel))
  obtain ⟨c3, i3, k3⟩ := u_known (C := RX1) (T := TX1) (N := 10) hts (fun w h => TT_in w (in_X1 w h)) (hts (.instantiable "KinFacts$Derivation" 10) (by decide +kernel))
  obtain ⟨c4, i4, k4⟩ := u_known (C := RX2) (T := TX2) (N := 2) hts (fun w h => TT_in w (in_X2 w h)) (hts (.instantiable "KinFacts$Facts" 2) (by decide +kernel))
  obtain ⟨c5, i5, k5⟩ := u_known (C := RX3) (T := TX3) (N := 1) hts (fun w h => TT_in w (in_X3 w h)) (hts (.instantiable "KinFacts$Layers" 1) (by decide +kernel))
  obtain ⟨c6, i6, k6⟩ := u_known (C := RX4) (T := TX4) (N := 2) hts (fun w h => TT_in w (in_X4 w h)) (hts (.instantiable "KinFacts$Line" 2) (by decide +kernel))
  obtain ⟨c7, i7, k7⟩ := u_known (C := RX5) (T := TX5) (N := 3) hts (fun w h => TT_in w (in_X5 w h)) (hts (.instantiable "KinFacts$Past" 3) (by decide +kernel))
  obtain ⟨c8, i8, k8⟩ := u_known (C := RX6) (T := TX6) (N := 4) hts (fun w h => TT_in w (in_X6 w h)) (hts (.instantiable "KinFacts$Rules" 4) (by decide +kernel))
  obtain ⟨c9, i9, k9⟩ := u_known (C := RX7) (T := TX7) (N := 2) hts (fun w h => TT_in w (in_X7 w h)) (hts (.instantiable "KinFacts$State" 2) (by decide +kernel))
  obtain ⟨c10, i10, k10⟩ := u_known (C := RX8) (T := TX8) (N := 6) hts (fun w h => TT_in w (in_X8 w h)) (hts (.instantiable "KinFacts$Text" 6) (by decide +kernel))
  obtain ⟨c11, i11, k11⟩ := u_known (C := RX9) (T := TX9) (N := 12) hts (fun w h => TT_in w (in_X9 w h)) (hts (.instantiable "KinFacts" 12) (by decide +kernel))
  obtain ⟨c12, i12, k12⟩ := u_known (C := RX10) (T := TX10) (N := 32) hts (fun w h => TT_in w (in_X10 w h)) (hts (.instantiable "KinFactsModel" 32) (by decide +kernel))
  obtain ⟨D, hD⟩ : ∃ D : va_G, ∀ (k : Nat) (q : vw_C), vwCl[k]? = some q → u_Kn s q.1 q.2.1 q.2.2 (D.1 k) (D.2 k) := by
    refine ⟨(fun k => match k with | 0 => c0 | 1 => c1 | 2 => c2 | 3 => c3 | 4 => c4 | 5 => c5 | 6 => c6 | 7 => c7 | 8 => c8 | 9 => c9 | 10 => c10 | 11 => c11 | _ => c12, fun k => match k with | 0 => i0 | 1 => i1 | 2 => i2 | 3 => i3 | 4 => i4 | 5 => i5 | 6 => i6 | 7 => i7 | 8 => i8 | 9 => i9 | 10 => i10 | 11 => i11 | _ => i12), ?_⟩
    intro k q hq
    match k, hq with
    | 0, hq => cases hq; exact k0
    | 1, hq => cases hq; exact k1
    | 2, hq => cases hq; exact k2
    | 3, hq => cases hq; exact k3
    | 4, hq => cases hq; exact k4
    | 5, hq => cases hq; exact k5
    | 6, hq => cases hq; exact k6
    | 7, hq => cases hq; exact k7
    | 8, hq => cases hq; exact k8
    | 9, hq => cases hq; exact k9
    | 10, hq => cases hq; exact k10
    | 11, hq => cases hq; exact k11
    | 12, hq => cases hq; exact k12
    | k + 13, hq => simp [vwCl] at hq
  obtain ⟨a_int, ha_int⟩ := l_pa (at0 := .int) (hts (.arrayClass .int) (by decide +kernel))
  obtain ⟨a_char, ha_char⟩ := l_pa (at0 := .char) (hts (.arrayClass .char) (by decide +kernel))
  obtain ⟨a_boolean, ha_boolean⟩ := l_pa (at0 := .boolean) (hts (.arrayClass .boolean) (by decide +kernel))
  obtain ⟨a_long, ha_long⟩ := l_pa (at0 := .long) (hts (.arrayClass .long) (by decide +kernel))
  obtain ⟨a_double, ha_double⟩ := l_pa (at0 := .double) (hts (.arrayClass .double) (by decide +kernel))
  obtain ⟨a_q, ha_q⟩ := l_oa (hts (.arrayOver (.object "KinFacts$State")) (by decide +kernel))
  refine ⟨(D, a_int, a_char, a_boolean, a_long, a_q, a_double), hD, ?_⟩
  intro k q hq
  match k, hq with
  | 0, hq => cases hq; exact ha_int
  | 1, hq => cases hq; exact ha_char
  | 2, hq => cases hq; exact ha_boolean
  | 3, hq => cases hq; exact ha_long
  | 4, hq => cases hq; exact ha_q
  | 5, hq => cases hq; exact ha_double
  | k + 6, hq => simp [tyE] at hq
theorem l_LB {p : Program} {s : State} {m : MethodId} {meth : Method} {c : Code} {b L : Nat} {xs : Nat → Int32} {E : KE} (C0 : lw_At p s m meth c b L xs) (hK : va_K E.1 vwCl (tyE E) s) : LB p s m c #[Value.ref b] meth E s.heap.size := by
  obtain ⟨hx, hb, hr, hml, hown, hts, hX, hbl, hlocks, hgv⟩ := C0
  have hfl := flat_of_before _ hgv
  refine ⟨⟨⟨hx, hb, hml, hown, fun w hw => hts w (TT_in w hw)⟩, hlocks⟩, ⟨hK, NWs.of hts⟩, ⟨⟨?_, ?_⟩, ?_, ?_⟩, ?_, rfl⟩
  · exact vx_Zqof (hts (.laysStatic "java/lang/Throwable" "UNASSIGNED_STACK" "[Ljava/lang/StackTraceElement;") (by decide +kernel)) (hts (.initialized "java/lang/Throwable") (by decide +kernel)) (hfl (.isRef (.static "java/lang/Throwable" "UNASSIGNED_STACK" "[Ljava/lang/StackTraceElement;")) (by decide +kernel)) (fun a h1 h2 => absurd h1 (Nat.not_lt.mpr h2))
  · exact vx_Zqof (hts (.laysStatic "java/lang/Throwable" "SUPPRESSED_SENTINEL" "Ljava/util/List;") (by decide +kernel)) (hts (.initialized "java/lang/Throwable") (by decide +kernel)) (hfl (.isRef (.static "java/lang/Throwable" "SUPPRESSED_SENTINEL" "Ljava/util/List;")) (by decide +kernel)) (fun a h1 h2 => absurd h1 (Nat.not_lt.mpr h2))
  · intro q hq
    have key : ∀ q ∈ XST, Cond.stringRef "KinFacts" q.1 q.2 ∈ lw_tbl := by decide +kernel
    exact l_str (hts _ (key q hq))
  · intro w hw
    have key : ∀ w ∈ XNG, w ∈ lw_tbl ∧ w.onTables = true := by decide +kernel
    exact va_Nw.of (key w hw).2 (hts w (key w hw).1)
  · intro x hx6 y hy6 hxy
    have key : ∀ x, x < 6 → ∀ y, y < 6 → x ≠ y → Cond.not (.castable (xN x) (xN y)) ∈ flatC (Jvm.Cond.and given_1 narrow_1) := by decide +kernel
    exact va_Nc.of (hfl _ (key x hx6 y hy6 hxy))
theorem lnL_X9 : LN "KinFactsLaw" 8 RX9 TX9 12 11 [.null, .null, .null, .null, .null, .null, .null, .null, .int 0, .int 0, .int 0, .int 0] := ⟨in_X9, ⟨tyX9, tyX9_ok, by intro j hj; exact match j, hj with | 0, _ => rfl | 1, _ => rfl | 2, _ => rfl | 3, _ => rfl | 4, _ => rfl | 5, _ => rfl | 6, _ => rfl | 7, _ => rfl | 8, _ => rfl | 9, _ => rfl | 10, _ => rfl | 11, _ => rfl⟩, ⟨w_1_27, w_1_28, w_1_1⟩, rfl⟩
theorem lnL_X10 : LN "KinFactsLaw" 123 RX10 TX10 32 12 [.null, .null, .null, .int 0, .null, .int 0, .int 0, .int 0, .int 0, .int 0, .null, .null, .null, .null, .null, .null, .null, .null, .null, .null, .null, .null, .null, .null, .int 0, .null, .int 0, .int 0, .int 0, .int 0, .null, .int 0] := ⟨in_X10, ⟨tyX10, tyX10_ok, by intro j hj; exact match j, hj with | 0, _ => rfl | 1, _ => rfl | 2, _ => rfl | 3, _ => rfl | 4, _ => rfl | 5, _ => rfl | 6, _ => rfl | 7, _ => rfl | 8, _ => rfl | 9, _ => rfl | 10, _ => rfl | 11, _ => rfl | 12, _ => rfl | 13, _ => rfl | 14, _ => rfl | 15, _ => rfl | 16, _ => rfl | 17, _ => rfl | 18, _ => rfl | 19, _ => rfl | 20, _ => rfl | 21, _ => rfl | 22, _ => rfl | 23, _ => rfl | 24, _ => rfl | 25, _ => rfl | 26, _ => rfl | 27, _ => rfl | 28, _ => rfl | 29, _ => rfl | 30, _ => rfl | 31, _ => rfl | k + 32, hk => absurd hk (by omega)⟩, ⟨w_5_203, w_5_204, w_1_11⟩, rfl⟩
section LENT
variable {p : Program} {l : Launch} {e : Env} {s : State} {m : MethodId} {args : Array Value} {below : List Frame} {meth : Method} {c : Code} {H : Heap} {locs : List Loc} {cells slots : Nat} {Q : State → Prop} {E : KE} {pc : Nat} {ls : Array Slot} {rest : List Value}
/-- a new object and its constructor, in the law -/
theorem l_make (C : LB p s m c args meth E s.heap.size) (hAO : va_AO "KinFacts$State" s) (hS : va_S (LA s) s.heap H locs) {idx idi x ci N : Nat} {Cn : String} {T : u_T} {fs0 : List Value} (ln : LN "KinFactsLaw" idx Cn T N ci fs0) {y : MethodName} {cc9 : ByteArray} {mL9 : Nat} {rm9 : Room} {LX : Nat → Nat → List va_E} (lk : Cond.methodLink "KinFactsLaw" idi y ∈ TT) (lc : LK y cc9 mL9) (hct : CI l y cc9 mL9 rm9 E ci fs0 LX) (hdg : decode cL_law pc = .ok (.new idx, 3)) (hd2 : decode cL_law (pc + 3) = .ok (.dup, 1)) (hd3 : decode cL_law (pc + 3 + 1) = .ok (.invokespecial idi, 3)) (hls : ls.size = 9) (hx9 : H.size = x) (hR : rm9.frames + 1 ≤ 21 ∧ 8 + (mL9 + 11) + rm9.locals ≤ 10912) (hcap : cells + 1 + rm9.cells ≤ 603072 ∧ slots + N + rm9.slots ≤ 7211114)
    (kk : ∀ (H1 : Heap) (locs : List Loc), va_P E.1 vwCl (cw x (x + 1) (LX x (x + 1))) H1 → H1.size + 1 = x + 1 + (LX x (x + 1)).length → (∀ q : Nat, q < x → H1[q]? = H[q]?) → va_S (LA s) s.heap H1 locs → W p l e room_1 s m args below meth c H1 locs (cells + 1 + rm9.cells) (slots + N + rm9.slots) Q (F0 m (pc + 3 + 1 + 3) ls [.ref x])) : W p l e room_1 s m args below meth c H locs cells slots Q (F0 m pc ls []) := by
  subst hx9
  obtain ⟨hin, ⟨ty0, hty, hfs⟩, ⟨w1, w2, w3⟩, hc⟩ := ln
  have hx := C.1.1.1
  have hb := C.1.1.2.1
  have hown := C.1.1.2.2.2.1
  have hts := C.1.1.2.2.2.2
  have hKn := C.2.1.1.1 ci _ hc
  refine W.newcK hx hb hown (hts _ w1) (hts _ w2) (hts _ w3) rfl hdg (by show cells + 1 ≤ 603072; omega) (by show slots + N ≤ 7211114; omega) hKn.2.1 rfl fun H1 kC hkC e1 z1 o1 => ?_
  have hat : va_at E.1 vwCl (H.size, .inr (ci, fs0)) H1 := ⟨_, hc, (u_born ty0 hts hin hKn hkC e1 hty).to hfs⟩
  refine lv_dup hx hb hd2 rfl ?_
  have hS1 : va_S (LA s) s.heap H1 locs := ⟨by rw [z1]; exact Nat.le_trans hS.1 (Nat.le_succ _), fun q h1 h2 => (o1 q (Nat.lt_of_lt_of_le h1 hS.1)).trans (hS.2.1 q h1 h2), hS.2.2⟩
  have hM := hct H.size (H.size + 1) (Nat.lt_succ_self _)
  have hpre : PreS s H1 (va_Pc [.ref H.size] (CPre E ci fs0 H.size (H.size + 1))) (.ref H.size :: []) := ⟨CPre.blind, fun U hU hW => ⟨rfl, ⟨by rw [hU, z1], by rw [hU]; exact hat⟩, va_K.moved hW.alike C.2.1.1, NWs.warm hW C.2.1.2, va_AO.moved hW.alike hAO⟩⟩
  have hrun : va_Run p l e room_1 s m args below meth c H1 locs (cells + 1) (slots + N) rm9.cells rm9.slots (F0 m (pc + 3 + 1) ls (.ref H.size :: [.ref H.size])) [.ref H.size] (QC E H.size (H.size + 1) (LX H.size (H.size + 1)) ((Value.ref H.size :: []).toArray)) (CA H.size (H.size + 1)) :=
    va_runI (Ts := TT) (As := []) C.1.1 hM (cwI 0 hts (TT_code lc.1.2.1) rfl rfl rfl (hts _ lc.1.1) (hts _ lk) (hts _ lc.1.2.2) lc.2.1 ⟨lc.2.2.1, lc.2.2.2.1, lc.2.2.2.2⟩ hR) hpre rfl rfl hls rfl (lv_room (Nat.le_of_ble_eq_true rfl)) hd3 hcap
  have hLA : ∀ a, CA H.size (H.size + 1) a → LA s a := fun a h => by
    rcases h with h | h
    · show s.heap.size ≤ a; rw [h]; exact hS.1
    · exact Nat.le_trans hS.1 (Nat.le_trans (Nat.le_succ _) h)
  refine va_callv hrun hS1 (fun a _ h => hLA a h) (fun a h => hLA a h) (fun u t H2 locs2 ht _ _ hB _ hk hS2 => kk H2 locs2 (by rw [← ht]; exact hB.1) (by rw [← ht]; exact hB.2) (fun q hq => ?_) hS2)
  rw [hk q (by rw [z1]; omega) ?_, o1 q hq]
  rintro (h | h) <;> omega
end LENT
set_option maxHeartbeats 4000000 in
set_option maxRecDepth 100000 in
theorem l_entry {p : Program} {e : Env} {s : State} {m : MethodId} {below : List Frame} {meth : Method} {c : Code} (l : Launch) (hflags : l.flags = flags0) {b L : Nat} {xs : Nat → Int32} (hL : L ≤ 2560) (C0 : lw_At p s m meth c b L xs) (hok : gLoop xs L 513 0 (M0, N0, 0, 0) = some ()) : W p l e room_1 s m #[Value.ref b] below meth c s.heap [] 0 0 (lw_Z below #[Value.ref b] s) (entryFrame m ([Value.ref b] : List Value).toArray 9) := by
  have hl9 : l.stackTraces = false := by
    first
      | (unfold Launch.stackTraces; rw [hflags]; decide)
      | (simp only [Launch.stackTraces, hflags]; decide)
  have hts := C0.2.2.2.2.2.1
  obtain ⟨E, hK⟩ := l_E hts
  have C := l_LB C0 hK
  obtain ⟨hx, hb, hr, hml, hown, -, hX, hbl, hlocks, hgv⟩ := C0
  have hAO : va_AO "KinFacts$State" s := va_AO.of (hts (.arrayOver (.object "KinFacts$State")) (by decide +kernel))
  have hl := lv_entry [.ref b] (n := 9) (Nat.le_of_ble_eq_true rfl)
  rw [lg_entry_eq]
  generalize (lg_sl [.ref b] ++ List.replicate (9 - (lg_sl [.ref b]).length) Slot.unset).toArray = ls at hl ⊢
  have hl : lv_has ls 9 [(0, .ref b)] := hl
  generalize hh0 : s.heap.size = h0 at C
  refine l_make (x := h0) (rm9 := { frames := 4, cells := 121, slots := 4183, locals := 73 }) (by rw [← hh0] at C; exact C) hAO va_S.rf lnL_X9 w_1_29 lk_X9 (kX9_init l E) dL_law_0 dL_law_3 dL_law_4 hl.1 hh0 ⟨Nat.le_of_ble_eq_true rfl, Nat.le_of_ble_eq_true rfl⟩ ⟨Nat.le_of_ble_eq_true rfl, Nat.le_of_ble_eq_true rfl⟩ (fun H1 locs1 hP1 z1 o1 hS1 => ?_)
  have z1 : H1.size = h0 + 122 := by
    have : (lX9 E h0 (h0 + 1)).length = 122 := rfl
    omega
  have K1 := ar_K hP1
  refine lv_astore_n (lv' := [(1, .ref (a1 h0 121)), (0, .ref b)]) hx hb dL_law_7 rfl hl (by decide) rfl (fun ls hl => ?_)
  refine l_make (x := h0 + 122) (rm9 := { frames := 1, cells := 20, slots := 4808, locals := 12 }) (by rw [← hh0] at C; exact C) hAO hS1 lnL_X10 w_5_205 lk_X10 (kX10_init l E) dL_law_8 dL_law_11 dL_law_12 hl.1 z1 ⟨Nat.le_of_ble_eq_true rfl, Nat.le_of_ble_eq_true rfl⟩ ⟨Nat.le_of_ble_eq_true rfl, Nat.le_of_ble_eq_true rfl⟩ (fun H2 locs2 hP2 z2 o2 hS2 => ?_)
  have z2 : H2.size = h0 + 143 := by
    have : (lX10 E (h0 + 122) (h0 + 122 + 1)).length = 21 := rfl
    omega
  have K2 := ar_M hP2
  have K1 := KW_keep K1 (fun i hi => o2 _ (a1_r h0 hi).2)
  refine lv_astore_n (lv' := [(2, .ref (a2 h0 0)), (1, .ref (a1 h0 121)), (0, .ref b)]) hx hb dL_law_15 rfl hl (by decide) rfl (fun ls hl => ?_)
  refine lv_iconst (v := 1) hx hb dL_law_16 (by decide) ?_
  refine va_newaK (atype := .long) hx hb (hts (.arrayClass .long) (by decide +kernel)) rfl dL_law_17 rfl (by decide) (N := 1) rfl (Nat.le_of_ble_eq_true rfl) (Nat.le_of_ble_eq_true rfl) (Nat.le_of_ble_eq_true rfl) z2 (fun H3 cL e3 z3 o3 _ nm3 => ?_)
  have hcL : cL = E.2.2.2.2.1 := Option.some.inj (nm3.symm.trans (hK.2 3 _ rfl).2)
  subst hcL
  have K1 := KW_keep K1 (H1 := H3) (fun i hi => o3 _ (by have := (a1_r h0 hi).2; omega))
  have K2 := KW_keep K2 (H1 := H3) (fun i hi => o3 _ (by have := (a2_r h0 hi).2; omega))
  have WL : WOL E (h0 + 143) 0 H3 := ⟨fun _ => 0, rfl, fun k q hk => by
    rcases k with _ | k
    · cases hk; exact e3
    · cases hk⟩
  have hS3 : va_S (LA s) s.heap H3 locs2 := ⟨by rw [z3]; have := hS2.1; omega, fun q h1 h2 => (o3 q (by have := hS2.1; omega)).trans (hS2.2.1 q h1 h2), hS2.2.2⟩
  refine lv_astore_n (lv' := [(3, .ref (h0 + 143)), (2, .ref (a2 h0 0)), (1, .ref (a1 h0 121)), (0, .ref b)]) hx hb dL_law_19 rfl hl (by decide) rfl (fun ls hl => ?_)
  refine lv_iconst (v := 1) hx hb dL_law_20 (by decide) ?_
  refine va_newaK (atype := .double) hx hb (hts (.arrayClass .double) (by decide +kernel)) rfl dL_law_21 rfl (by decide) (N := 1) rfl (Nat.le_of_ble_eq_true rfl) (Nat.le_of_ble_eq_true rfl) (Nat.le_of_ble_eq_true rfl) z3 (fun H4 cD e4 z4 o4 _ nm4 => ?_)
  have hcD : cD = E.2.2.2.2.2.2 := Option.some.inj (nm4.symm.trans (hK.2 5 _ rfl).2)
  subst hcD
  have K1 := KW_keep K1 (H1 := H4) (fun i hi => o4 _ (by have := (a1_r h0 hi).2; omega))
  have K2 := KW_keep K2 (H1 := H4) (fun i hi => o4 _ (by have := (a2_r h0 hi).2; omega))
  have WL := WL.keep (H1 := H4) (o4 _ (by omega))
  have WD : WOD E (h0 + 144) 0 H4 := ⟨fun _ => 0, rfl, fun k q hk => by
    rcases k with _ | k
    · cases hk; exact e4
    · cases hk⟩
  have hS4 : va_S (LA s) s.heap H4 locs2 := ⟨by rw [z4]; have := hS3.1; omega, fun q h1 h2 => (o4 q (by have := hS3.1; omega)).trans (hS3.2.1 q h1 h2), hS3.2.2⟩
  refine lv_astore (lv' := [(4, .ref (h0 + 144)), (3, .ref (h0 + 143)), (2, .ref (a2 h0 0)), (1, .ref (a1 h0 121)), (0, .ref b)]) hx hb dL_law_23 hl (by decide) rfl (fun ls hl => ?_)
  refine lv_iconst (v := 0) hx hb dL_law_25 (by decide) ?_
  refine lv_istore (lv' := [(5, .int 0), (4, .ref (h0 + 144)), (3, .ref (h0 + 143)), (2, .ref (a2 h0 0)), (1, .ref (a1 h0 121)), (0, .ref b)]) hx hb dL_law_26 hl (by decide) rfl (fun ls hl => ?_)
  have h := kc_loop (below := below) (e := e) hl9 C hr hX hbl hL 513 0 (M0, N0, 0, 0) H4 locs2 145 9037 0 ls ⟨⟨K1, K2⟩, ⟨WL, WD⟩, hS4⟩ (Nat.zero_le _) rfl (lv_sub hl [5, 4, 3, 2, 1, 0] rfl) (Nat.le_of_ble_eq_true rfl) (Nat.le_of_ble_eq_true rfl)
  rw [hok] at h
  exact h
