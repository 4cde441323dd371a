def fJ6_bitCount_0f7a4_o (a0 : Int32) : Option (Int32) := nm ((a0 - ((jushr a0 1) &&& 1431655765))) fun v1 => nm (((v1 &&& 858993459) + ((jushr v1 2) &&& 858993459))) fun v2 => nm (((v2 + (jushr v2 4)) &&& 252645135)) fun v3 => nm ((v3 + (jushr v3 8))) fun v4 => nm ((v4 + (jushr v4 16))) fun v5 => some (v5 &&& 63)
def fJ6_bitCount_0f7a4 (a0 : Int32) : Int32 := let v1 := (a0 - ((jushr a0 1) &&& 1431655765)); let v2 := ((v1 &&& 858993459) + ((jushr v1 2) &&& 858993459)); let v3 := ((v2 + (jushr v2 4)) &&& 252645135); let v4 := (v3 + (jushr v3 8)); let v5 := (v4 + (jushr v4 16)); (v5 &&& 63)
theorem fJ6_bitCount_0f7a4_s {a0 : Int32} : fJ6_bitCount_0f7a4_o a0 = some (fJ6_bitCount_0f7a4 a0) := by
  unfold fJ6_bitCount_0f7a4_o fJ6_bitCount_0f7a4
  (repeat' split) <;> rfl
set_option maxHeartbeats 4000000 in
set_option maxRecDepth 100000 in
theorem kJ6_bitCount_0f7a4_o (l : Launch) (E : KE) (ad : Nat → Nat) (M : KS) (a0 : Int32) : CT l yJ6_bitCount_0f7a4 cJ6_bitCount_0f7a4 1 (some .int) { frames := 0, cells := 0, slots := 0, locals := 0 } SK E ad [.int a0] M (fun sz a => QI SK E ad sz (a, M)) (fJ6_bitCount_0f7a4_o a0) := by
  refine CT.ofW (by decide) (Nat.le_of_ble_eq_true rfl) (fun sz p e s m args below meth c C hr hH ls hl => ?_)
  have hx := C.1.1
  have hb := C.1.2.1
  have hl : lv_has ls 1 [(0, .int a0)] := hl
  unfold fJ6_bitCount_0f7a4_o
  refine lv_iload_n hx hb dJ6_bitCount_0f7a4_0 rfl (lv_at hl 0 rfl) ?_
  refine lv_iload_n hx hb dJ6_bitCount_0f7a4_1 rfl (lv_at hl 0 rfl) ?_
  refine lv_iconst (v := 1) hx hb dJ6_bitCount_0f7a4_2 (by decide) ?_
  refine lv_iushr (v := (jushr a0 1)) hx hb dJ6_bitCount_0f7a4_3 rfl ?_
  refine lv_ldcw hx hb (own := RJ6) C.1.2.2.2.1 (C.1.2.2.2.2 _ w_2_196) dJ6_bitCount_0f7a4_4 ?_
  refine lv_iand hx hb dJ6_bitCount_0f7a4_7 ?_
  refine lv_isub hx hb dJ6_bitCount_0f7a4_8 ?_
  refine W_nmi (fun v1 => ?_)
  refine lv_istore_n (lv' := [(0, .int v1)]) hx hb dJ6_bitCount_0f7a4_9 rfl hl (by decide) rfl (fun ls hl => ?_)
  refine lv_iload_n hx hb dJ6_bitCount_0f7a4_10 rfl (lv_at hl 0 rfl) ?_
  refine lv_ldcw hx hb (own := RJ6) C.1.2.2.2.1 (C.1.2.2.2.2 _ w_2_197) dJ6_bitCount_0f7a4_11 ?_
  refine lv_iand hx hb dJ6_bitCount_0f7a4_14 ?_
  refine lv_iload_n hx hb dJ6_bitCount_0f7a4_15 rfl (lv_at hl 0 rfl) ?_
  refine lv_iconst (v := 2) hx hb dJ6_bitCount_0f7a4_16 (by decide) ?_
  refine lv_iushr (v := (jushr v1 2)) hx hb dJ6_bitCount_0f7a4_17 rfl ?_
  refine lv_ldcw hx hb (own := RJ6) C.1.2.2.2.1 (C.1.2.2.2.2 _ w_2_197) dJ6_bitCount_0f7a4_18 ?_
  refine lv_iand hx hb dJ6_bitCount_0f7a4_21 ?_
  refine lv_iadd hx hb dJ6_bitCount_0f7a4_22 ?_
  refine W_nmi (fun v2 => ?_)
  refine lv_istore_n (lv' := [(0, .int v2)]) hx hb dJ6_bitCount_0f7a4_23 rfl hl (by decide) rfl (fun ls hl => ?_)
  refine lv_iload_n hx hb dJ6_bitCount_0f7a4_24 rfl (lv_at hl 0 rfl) ?_
  refine lv_iload_n hx hb dJ6_bitCount_0f7a4_25 rfl (lv_at hl 0 rfl) ?_
  refine lv_iconst (v := 4) hx hb dJ6_bitCount_0f7a4_26 (by decide) ?_
  refine lv_iushr (v := (jushr v2 4)) hx hb dJ6_bitCount_0f7a4_27 rfl ?_
  refine lv_iadd hx hb dJ6_bitCount_0f7a4_28 ?_
  refine lv_ldcw hx hb (own := RJ6) C.1.2.2.2.1 (C.1.2.2.2.2 _ w_2_198) dJ6_bitCount_0f7a4_29 ?_
  refine lv_iand hx hb dJ6_bitCount_0f7a4_32 ?_
  refine W_nmi (fun v3 => ?_)
  refine lv_istore_n (lv' := [(0, .int v3)]) hx hb dJ6_bitCount_0f7a4_33 rfl hl (by decide) rfl (fun ls hl => ?_)
  refine lv_iload_n hx hb dJ6_bitCount_0f7a4_34 rfl (lv_at hl 0 rfl) ?_
  refine lv_iload_n hx hb dJ6_bitCount_0f7a4_35 rfl (lv_at hl 0 rfl) ?_
  refine lv_bipush (v := 8) hx hb dJ6_bitCount_0f7a4_36 (by decide) ?_
  refine lv_iushr (v := (jushr v3 8)) hx hb dJ6_bitCount_0f7a4_38 rfl ?_
  refine lv_iadd hx hb dJ6_bitCount_0f7a4_39 ?_
  refine W_nmi (fun v4 => ?_)
  refine lv_istore_n (lv' := [(0, .int v4)]) hx hb dJ6_bitCount_0f7a4_40 rfl hl (by decide) rfl (fun ls hl => ?_)
  refine lv_iload_n hx hb dJ6_bitCount_0f7a4_41 rfl (lv_at hl 0 rfl) ?_
  refine lv_iload_n hx hb dJ6_bitCount_0f7a4_42 rfl (lv_at hl 0 rfl) ?_
  refine lv_bipush (v := 16) hx hb dJ6_bitCount_0f7a4_43 (by decide) ?_
  refine lv_iushr (v := (jushr v4 16)) hx hb dJ6_bitCount_0f7a4_45 rfl ?_
  refine lv_iadd hx hb dJ6_bitCount_0f7a4_46 ?_
  refine W_nmi (fun v5 => ?_)
  refine lv_istore_n (lv' := [(0, .int v5)]) hx hb dJ6_bitCount_0f7a4_47 rfl hl (by decide) rfl (fun ls hl => ?_)
  refine lv_iload_n hx hb dJ6_bitCount_0f7a4_48 rfl (lv_at hl 0 rfl) ?_
  refine lv_bipush (v := 63) hx hb dJ6_bitCount_0f7a4_49 (by decide) ?_
  refine lv_iand hx hb dJ6_bitCount_0f7a4_51 ?_
  exact ke_i C hH hr (Nat.le_refl _) (Nat.le_refl _) rfl dJ6_bitCount_0f7a4_52
theorem kJ6_bitCount_0f7a4 (l : Launch) (E : KE) (ad : Nat → Nat) (M : KS) (a0 : Int32) : CT l yJ6_bitCount_0f7a4 cJ6_bitCount_0f7a4 1 (some .int) { frames := 0, cells := 0, slots := 0, locals := 0 } SK E ad [.int a0] M (fun sz (_ : Unit) => QI SK E ad sz (fJ6_bitCount_0f7a4 a0, M)) (some ()) := CT.pure (kJ6_bitCount_0f7a4_o l E ad M a0) fJ6_bitCount_0f7a4_s
def fJ13_bitCount_95d88_o (a0 : Int64) : Option (Int32) := nm ((a0 - ((jlushr a0 1) &&& 6148914691236517205))) fun v1 => nm (((v1 &&& 3689348814741910323) + ((jlushr v1 2) &&& 3689348814741910323))) fun v2 => nm (((v2 + (jlushr v2 4)) &&& 1085102592571150095)) fun v3 => nm ((v3 + (jlushr v3 8))) fun v4 => nm ((v4 + (jlushr v4 16))) fun v5 => nm ((v5 + (jlushr v5 32))) fun v6 => some ((Int64.toInt32 v6) &&& 127)
def fJ13_bitCount_95d88 (a0 : Int64) : Int32 := let v1 := (a0 - ((jlushr a0 1) &&& 6148914691236517205)); let v2 := ((v1 &&& 3689348814741910323) + ((jlushr v1 2) &&& 3689348814741910323)); let v3 := ((v2 + (jlushr v2 4)) &&& 1085102592571150095); let v4 := (v3 + (jlushr v3 8)); let v5 := (v4 + (jlushr v4 16)); let v6 := (v5 + (jlushr v5 32)); ((Int64.toInt32 v6) &&& 127)
theorem fJ13_bitCount_95d88_s {a0 : Int64} : fJ13_bitCount_95d88_o a0 = some (fJ13_bitCount_95d88 a0) := by
  unfold fJ13_bitCount_95d88_o fJ13_bitCount_95d88
  (repeat' split) <;> rfl
set_option maxHeartbeats 4000000 in
set_option maxRecDepth 100000 in
theorem kJ13_bitCount_95d88_o (l : Launch) (E : KE) (ad : Nat → Nat) (M : KS) (a0 : Int64) : CT l yJ13_bitCount_95d88 cJ13_bitCount_95d88 2 (some .int) { frames := 0, cells := 0, slots := 0, locals := 0 } SK E ad [.long a0] M (fun sz a => QI SK E ad sz (a, M)) (fJ13_bitCount_95d88_o a0) := by
  refine CT.ofW (by decide) (Nat.le_of_ble_eq_true rfl) (fun sz p e s m args below meth c C hr hH ls hl => ?_)
  have hx := C.1.1
  have hb := C.1.2.1
  have hl : lv_has ls 2 [(0, .long a0)] := hl
  unfold fJ13_bitCount_95d88_o
  refine lv_lload_n hx hb dJ13_bitCount_95d88_0 rfl (lv_at hl 0 rfl) ?_
  refine lv_lload_n hx hb dJ13_bitCount_95d88_1 rfl (lv_at hl 0 rfl) ?_
  refine lv_iconst (v := 1) hx hb dJ13_bitCount_95d88_2 (by decide) ?_
  refine lv_lushr (v := (jlushr a0 1)) hx hb dJ13_bitCount_95d88_3 rfl ?_
  refine lv_ldc2 hx hb (own := RJ13) C.1.2.2.2.1 (C.1.2.2.2.2 _ w_3_213) dJ13_bitCount_95d88_4 ?_
  refine lv_land hx hb dJ13_bitCount_95d88_7 ?_
  refine lv_lsub hx hb dJ13_bitCount_95d88_8 ?_
  refine W_nml (fun v1 => ?_)
  refine lv_lstore_n (lv' := [(0, .long v1)]) hx hb dJ13_bitCount_95d88_9 rfl hl (by decide) rfl (fun ls hl => ?_)
  refine lv_lload_n hx hb dJ13_bitCount_95d88_10 rfl (lv_at hl 0 rfl) ?_
  refine lv_ldc2 hx hb (own := RJ13) C.1.2.2.2.1 (C.1.2.2.2.2 _ w_3_214) dJ13_bitCount_95d88_11 ?_
  refine lv_land hx hb dJ13_bitCount_95d88_14 ?_
  refine lv_lload_n hx hb dJ13_bitCount_95d88_15 rfl (lv_at hl 0 rfl) ?_
  refine lv_iconst (v := 2) hx hb dJ13_bitCount_95d88_16 (by decide) ?_
  refine lv_lushr (v := (jlushr v1 2)) hx hb dJ13_bitCount_95d88_17 rfl ?_
  refine lv_ldc2 hx hb (own := RJ13) C.1.2.2.2.1 (C.1.2.2.2.2 _ w_3_214) dJ13_bitCount_95d88_18 ?_
  refine lv_land hx hb dJ13_bitCount_95d88_21 ?_
  refine lv_ladd hx hb dJ13_bitCount_95d88_22 ?_
  refine W_nml (fun v2 => ?_)
  refine lv_lstore_n (lv' := [(0, .long v2)]) hx hb dJ13_bitCount_95d88_23 rfl hl (by decide) rfl (fun ls hl => ?_)
  refine lv_lload_n hx hb dJ13_bitCount_95d88_24 rfl (lv_at hl 0 rfl) ?_
  refine lv_lload_n hx hb dJ13_bitCount_95d88_25 rfl (lv_at hl 0 rfl) ?_
  refine lv_iconst (v := 4) hx hb dJ13_bitCount_95d88_26 (by decide) ?_
  refine lv_lushr (v := (jlushr v2 4)) hx hb dJ13_bitCount_95d88_27 rfl ?_
  refine lv_ladd hx hb dJ13_bitCount_95d88_28 ?_
  refine lv_ldc2 hx hb (own := RJ13) C.1.2.2.2.1 (C.1.2.2.2.2 _ w_3_215) dJ13_bitCount_95d88_29 ?_
  refine lv_land hx hb dJ13_bitCount_95d88_32 ?_
  refine W_nml (fun v3 => ?_)
  refine lv_lstore_n (lv' := [(0, .long v3)]) hx hb dJ13_bitCount_95d88_33 rfl hl (by decide) rfl (fun ls hl => ?_)
  refine lv_lload_n hx hb dJ13_bitCount_95d88_34 rfl (lv_at hl 0 rfl) ?_
  refine lv_lload_n hx hb dJ13_bitCount_95d88_35 rfl (lv_at hl 0 rfl) ?_
  refine lv_bipush (v := 8) hx hb dJ13_bitCount_95d88_36 (by decide) ?_
  refine lv_lushr (v := (jlushr v3 8)) hx hb dJ13_bitCount_95d88_38 rfl ?_
  refine lv_ladd hx hb dJ13_bitCount_95d88_39 ?_
  refine W_nml (fun v4 => ?_)
  refine lv_lstore_n (lv' := [(0, .long v4)]) hx hb dJ13_bitCount_95d88_40 rfl hl (by decide) rfl (fun ls hl => ?_)
  refine lv_lload_n hx hb dJ13_bitCount_95d88_41 rfl (lv_at hl 0 rfl) ?_
  refine lv_lload_n hx hb dJ13_bitCount_95d88_42 rfl (lv_at hl 0 rfl) ?_
  refine lv_bipush (v := 16) hx hb dJ13_bitCount_95d88_43 (by decide) ?_
  refine lv_lushr (v := (jlushr v4 16)) hx hb dJ13_bitCount_95d88_45 rfl ?_
  refine lv_ladd hx hb dJ13_bitCount_95d88_46 ?_
  refine W_nml (fun v5 => ?_)
  refine lv_lstore_n (lv' := [(0, .long v5)]) hx hb dJ13_bitCount_95d88_47 rfl hl (by decide) rfl (fun ls hl => ?_)
  refine lv_lload_n hx hb dJ13_bitCount_95d88_48 rfl (lv_at hl 0 rfl) ?_
  refine lv_lload_n hx hb dJ13_bitCount_95d88_49 rfl (lv_at hl 0 rfl) ?_
  refine lv_bipush (v := 32) hx hb dJ13_bitCount_95d88_50 (by decide) ?_
  refine lv_lushr (v := (jlushr v5 32)) hx hb dJ13_bitCount_95d88_52 rfl ?_
  refine lv_ladd hx hb dJ13_bitCount_95d88_53 ?_
  refine W_nml (fun v6 => ?_)
  refine lv_lstore_n (lv' := [(0, .long v6)]) hx hb dJ13_bitCount_95d88_54 rfl hl (by decide) rfl (fun ls hl => ?_)
  refine lv_lload_n hx hb dJ13_bitCount_95d88_55 rfl (lv_at hl 0 rfl) ?_
  refine lv_l2i (v := (Int64.toInt32 v6)) hx hb dJ13_bitCount_95d88_56 rfl ?_
  refine lv_bipush (v := 127) hx hb dJ13_bitCount_95d88_57 (by decide) ?_
  refine lv_iand hx hb dJ13_bitCount_95d88_59 ?_
  exact ke_i C hH hr (Nat.le_refl _) (Nat.le_refl _) rfl dJ13_bitCount_95d88_60
theorem kJ13_bitCount_95d88 (l : Launch) (E : KE) (ad : Nat → Nat) (M : KS) (a0 : Int64) : CT l yJ13_bitCount_95d88 cJ13_bitCount_95d88 2 (some .int) { frames := 0, cells := 0, slots := 0, locals := 0 } SK E ad [.long a0] M (fun sz (_ : Unit) => QI SK E ad sz (fJ13_bitCount_95d88 a0, M)) (some ()) := CT.pure (kJ13_bitCount_95d88_o l E ad M a0) fJ13_bitCount_95d88_s
def fX9_isRelation_o (a0 : Int32) : Option (Int32) := (if a0 < 0 then some 0 else (if 6 ≤ a0 then some 0 else some 1))
def fX9_isRelation (a0 : Int32) : Int32 := (if a0 < 0 then 0 else (if 6 ≤ a0 then 0 else 1))
theorem fX9_isRelation_s {a0 : Int32} : fX9_isRelation_o a0 = some (fX9_isRelation a0) := by
  unfold fX9_isRelation_o fX9_isRelation
  (repeat' split) <;> rfl
set_option maxHeartbeats 4000000 in
set_option maxRecDepth 100000 in
theorem kX9_isRelation_o (l : Launch) (E : KE) (ad : Nat → Nat) (M : KS) (a0 : Int32) : CT l yX9_isRelation cX9_isRelation 1 (some .boolean) { frames := 0, cells := 0, slots := 0, locals := 0 } SK E ad [.int a0] M (fun sz a => QI SK E ad sz (a, M)) (fX9_isRelation_o a0) := by
  refine CT.ofW (by decide) (Nat.le_of_ble_eq_true rfl) (fun sz p e s m args below meth c C hr hH ls hl => ?_)
  have hx := C.1.1
  have hb := C.1.2.1
  have hl : lv_has ls 1 [(0, .int a0)] := hl
  unfold fX9_isRelation_o
  refine lv_iload_n hx hb dX9_isRelation_0 rfl (lv_at hl 0 rfl) ?_
  refine kb_if_lt (tgt := 14) hx hb dX9_isRelation_1 (by decide) (fun _ => ?_) (fun _ => ?_)
  · refine lv_iconst (v := 0) hx hb dX9_isRelation_14 (by decide) ?_
    exact ke_z C hH hr (Nat.le_refl _) (Nat.le_refl _) rfl (Or.inl rfl) dX9_isRelation_15
  · refine lv_iload_n hx hb dX9_isRelation_4 rfl (lv_at hl 0 rfl) ?_
    refine lv_bipush (v := 6) hx hb dX9_isRelation_5 (by decide) ?_
    refine kb_icmp_ge (tgt := 14) hx hb dX9_isRelation_7 (by decide) (fun _ => ?_) (fun _ => ?_)
    · refine lv_iconst (v := 0) hx hb dX9_isRelation_14 (by decide) ?_
      exact ke_z C hH hr (Nat.le_refl _) (Nat.le_refl _) rfl (Or.inl rfl) dX9_isRelation_15
    · refine lv_iconst (v := 1) hx hb dX9_isRelation_10 (by decide) ?_
      refine lv_goto (tgt := 15) hx hb dX9_isRelation_11 (by decide) ?_
      exact ke_z C hH hr (Nat.le_refl _) (Nat.le_refl _) rfl (Or.inr rfl) dX9_isRelation_15
theorem kX9_isRelation (l : Launch) (E : KE) (ad : Nat → Nat) (M : KS) (a0 : Int32) : CT l yX9_isRelation cX9_isRelation 1 (some .boolean) { frames := 0, cells := 0, slots := 0, locals := 0 } SK E ad [.int a0] M (fun sz (_ : Unit) => QI SK E ad sz (fX9_isRelation a0, M)) (some ()) := CT.pure (kX9_isRelation_o l E ad M a0) fX9_isRelation_s
def fX9_isPerson_o (a0 : Int32) : Option (Int32) := (if a0 < 0 then some 0 else (if 6 ≤ a0 then some 0 else some 1))
def fX9_isPerson (a0 : Int32) : Int32 := (if a0 < 0 then 0 else (if 6 ≤ a0 then 0 else 1))
theorem fX9_isPerson_s {a0 : Int32} : fX9_isPerson_o a0 = some (fX9_isPerson a0) := by
  unfold fX9_isPerson_o fX9_isPerson
  (repeat' split) <;> rfl
set_option maxHeartbeats 4000000 in
set_option maxRecDepth 100000 in
theorem kX9_isPerson_o (l : Launch) (E : KE) (ad : Nat → Nat) (M : KS) (a0 : Int32) : CT l yX9_isPerson cX9_isPerson 1 (some .boolean) { frames := 0, cells := 0, slots := 0, locals := 0 } SK E ad [.int a0] M (fun sz a => QI SK E ad sz (a, M)) (fX9_isPerson_o a0) := by
  refine CT.ofW (by decide) (Nat.le_of_ble_eq_true rfl) (fun sz p e s m args below meth c C hr hH ls hl => ?_)
  have hx := C.1.1
  have hb := C.1.2.1
  have hl : lv_has ls 1 [(0, .int a0)] := hl
  unfold fX9_isPerson_o
  refine lv_iload_n hx hb dX9_isPerson_0 rfl (lv_at hl 0 rfl) ?_
  refine kb_if_lt (tgt := 14) hx hb dX9_isPerson_1 (by decide) (fun _ => ?_) (fun _ => ?_)
  · refine lv_iconst (v := 0) hx hb dX9_isPerson_14 (by decide) ?_
    exact ke_z C hH hr (Nat.le_refl _) (Nat.le_refl _) rfl (Or.inl rfl) dX9_isPerson_15
  · refine lv_iload_n hx hb dX9_isPerson_4 rfl (lv_at hl 0 rfl) ?_
    refine lv_bipush (v := 6) hx hb dX9_isPerson_5 (by decide) ?_
    refine kb_icmp_ge (tgt := 14) hx hb dX9_isPerson_7 (by decide) (fun _ => ?_) (fun _ => ?_)
    · refine lv_iconst (v := 0) hx hb dX9_isPerson_14 (by decide) ?_
      exact ke_z C hH hr (Nat.le_refl _) (Nat.le_refl _) rfl (Or.inl rfl) dX9_isPerson_15
    · refine lv_iconst (v := 1) hx hb dX9_isPerson_10 (by decide) ?_
      refine lv_goto (tgt := 15) hx hb dX9_isPerson_11 (by decide) ?_
      exact ke_z C hH hr (Nat.le_refl _) (Nat.le_refl _) rfl (Or.inr rfl) dX9_isPerson_15
theorem kX9_isPerson (l : Launch) (E : KE) (ad : Nat → Nat) (M : KS) (a0 : Int32) : CT l yX9_isPerson cX9_isPerson 1 (some .boolean) { frames := 0, cells := 0, slots := 0, locals := 0 } SK E ad [.int a0] M (fun sz (_ : Unit) => QI SK E ad sz (fX9_isPerson a0, M)) (some ()) := CT.pure (kX9_isPerson_o l E ad M a0) fX9_isPerson_s
def fX9_isFact_o (a0 : Int32) (a1 : Int32) (a2 : Int32) : Option (Int32) := (if (fX9_isRelation a0) = 0 then some 0 else (if (fX9_isPerson a1) = 0 then some 0 else (if (fX9_isPerson a2) = 0 then some 0 else some 1)))
def fX9_isFact (a0 : Int32) (a1 : Int32) (a2 : Int32) : Int32 := (if (fX9_isRelation a0) = 0 then 0 else (if (fX9_isPerson a1) = 0 then 0 else (if (fX9_isPerson a2) = 0 then 0 else 1)))
theorem fX9_isFact_s {a0 : Int32} {a1 : Int32} {a2 : Int32} : fX9_isFact_o a0 a1 a2 = some (fX9_isFact a0 a1 a2) := by
  unfold fX9_isFact_o fX9_isFact
  (repeat' split) <;> rfl
set_option maxHeartbeats 4000000 in
set_option maxRecDepth 100000 in
theorem kX9_isFact_o (l : Launch) (E : KE) (ad : Nat → Nat) (M : KS) (a0 : Int32) (a1 : Int32) (a2 : Int32) : CT l yX9_isFact cX9_isFact 3 (some .boolean) { frames := 1, cells := 0, slots := 0, locals := 20 } SK E ad [.int a0, .int a1, .int a2] M (fun sz a => QI SK E ad sz (a, M)) (fX9_isFact_o a0 a1 a2) := by
  refine CT.ofW (by decide) (Nat.le_of_ble_eq_true rfl) (fun sz p e s m args below meth c C hr hH ls hl => ?_)
  have hx := C.1.1
  have hb := C.1.2.1
  have hl : lv_has ls 3 [(0, .int a0), (1, .int a1), (2, .int a2)] := hl
  unfold fX9_isFact_o
  refine lv_iload_n hx hb dX9_isFact_0 rfl (lv_at hl 0 rfl) ?_
  refine kg_ip C hH (kc_S C hH w_2_234 w_st_yX9_isRelation rfl lc_yX9_isRelation (kX9_isRelation l E ad M a0) (As := [.int a0]) rfl dX9_isFact_1 rfl hl.1 (Nat.le_of_ble_eq_true rfl) ⟨Nat.le_of_ble_eq_true rfl, Nat.le_of_ble_eq_true rfl⟩ ⟨Nat.le_of_ble_eq_true rfl, Nat.le_of_ble_eq_true rfl⟩) ⟨rfl, rfl⟩ (fun H locs hH => ?_)
  refine kb_if_eq (tgt := 25) hx hb dX9_isFact_4 (by decide) (fun _ => ?_) (fun _ => ?_)
  · refine lv_iconst (v := 0) hx hb dX9_isFact_25 (by decide) ?_
    exact ke_z C hH hr (Nat.le_refl _) (Nat.le_refl _) rfl (Or.inl rfl) dX9_isFact_26
  · refine lv_iload_n hx hb dX9_isFact_7 rfl (lv_at hl 1 rfl) ?_
    refine kg_ip C hH (kc_S C hH w_2_237 w_st_yX9_isPerson rfl lc_yX9_isPerson (kX9_isPerson l E ad M a1) (As := [.int a1]) rfl dX9_isFact_8 rfl hl.1 (Nat.le_of_ble_eq_true rfl) ⟨Nat.le_of_ble_eq_true rfl, Nat.le_of_ble_eq_true rfl⟩ ⟨Nat.le_of_ble_eq_true rfl, Nat.le_of_ble_eq_true rfl⟩) ⟨rfl, rfl⟩ (fun H locs hH => ?_)
    refine kb_if_eq (tgt := 25) hx hb dX9_isFact_11 (by decide) (fun _ => ?_) (fun _ => ?_)
    · refine lv_iconst (v := 0) hx hb dX9_isFact_25 (by decide) ?_
      exact ke_z C hH hr (Nat.le_refl _) (Nat.le_refl _) rfl (Or.inl rfl) dX9_isFact_26
    · refine lv_iload_n hx hb dX9_isFact_14 rfl (lv_at hl 2 rfl) ?_
      refine kg_ip C hH (kc_S C hH w_2_237 w_st_yX9_isPerson rfl lc_yX9_isPerson (kX9_isPerson l E ad M a2) (As := [.int a2]) rfl dX9_isFact_15 rfl hl.1 (Nat.le_of_ble_eq_true rfl) ⟨Nat.le_of_ble_eq_true rfl, Nat.le_of_ble_eq_true rfl⟩ ⟨Nat.le_of_ble_eq_true rfl, Nat.le_of_ble_eq_true rfl⟩) ⟨rfl, rfl⟩ (fun H locs hH => ?_)
      refine kb_if_eq (tgt := 25) hx hb dX9_isFact_18 (by decide) (fun _ => ?_) (fun _ => ?_)
      · refine lv_iconst (v := 0) hx hb dX9_isFact_25 (by decide) ?_
        exact ke_z C hH hr (Nat.le_refl _) (Nat.le_refl _) rfl (Or.inl rfl) dX9_isFact_26
      · refine lv_iconst (v := 1) hx hb dX9_isFact_21 (by decide) ?_
        refine lv_goto (tgt := 26) hx hb dX9_isFact_22 (by decide) ?_
        exact ke_z C hH hr (Nat.le_refl _) (Nat.le_refl _) rfl (Or.inr rfl) dX9_isFact_26
theorem kX9_isFact (l : Launch) (E : KE) (ad : Nat → Nat) (M : KS) (a0 : Int32) (a1 : Int32) (a2 : Int32) : CT l yX9_isFact cX9_isFact 3 (some .boolean) { frames := 1, cells := 0, slots := 0, locals := 20 } SK E ad [.int a0, .int a1, .int a2] M (fun sz (_ : Unit) => QI SK E ad sz (fX9_isFact a0 a1 a2, M)) (some ()) := CT.pure (kX9_isFact_o l E ad M a0 a1 a2) fX9_isFact_s
theorem fX5_marked_ge {x : Int32} (h : inb x 9) (g : (9 : Int32) ≤ x) : False := by
  refine h (Or.inr ?_)
  have q := Int32.le_iff_toInt_le.mp g
  have q9 : (9 : Int) ≤ x.toInt := q
  show 9 ≤ x.toInt.toNat
  omega
def fX5_marked (M : KS) : Option (KS) := if inb (M.1 113 1) 9 then some M else none
set_option maxHeartbeats 4000000 in
set_option maxRecDepth 100000 in
theorem kX5_marked (l : Launch) (E : KE) (ad : Nat → Nat) (M : KS)  : CT l yX5_marked cX5_marked 1 (some (.object "KinFacts$State")) { frames := 0, cells := 0, slots := 0, locals := 0 } SK E ad [.ref (ad 113)] M (QR SK E ad (iS (2 + (M.1 113 1).toNatClampNeg))) (fX5_marked M) := by
  refine CT.ofW (by decide) (Nat.le_of_ble_eq_true rfl) (fun sz p e s m args below meth c C hr hH ls hl => ?_)
  have hx := C.1.1
  have hb := C.1.2.1
  have hl : lv_has ls 1 [(0, .ref (ad 113))] := hl
  unfold fX5_marked
  refine W_if (fun hi9 => ?_)
  refine lv_aload_n hx hb dX5_marked_0 rfl (lv_at hl 0 rfl) ?_
  refine k_get C hH fd_X5_17 oP (k_int (M := M) (ad := ad) nP1) dX5_marked_1 ?_
  refine lv_if_lt (tgt := 31) hx hb dX5_marked_4 (by decide) (fun h9 => absurd (Or.inl h9) hi9) (fun _ => ?_)
  refine lv_aload_n hx hb dX5_marked_7 rfl (lv_at hl 0 rfl) ?_
  refine k_get C hH fd_X5_17 oP (k_int (M := M) (ad := ad) nP1) dX5_marked_8 ?_
  refine lv_aload_n hx hb dX5_marked_11 rfl (lv_at hl 0 rfl) ?_
  refine k_get C hH fd_X5_11 oP (k_ref (M := M) (ad := ad) rP0) dX5_marked_12 ?_
  refine k_qlen C hH aP0 (v := 9) rfl dX5_marked_15 ?_
  refine lv_icmp_ge (tgt := 31) hx hb dX5_marked_16 (by decide) (fun h9 => absurd (fX5_marked_ge hi9 h9) id) (fun _ => ?_)
  refine lv_aload_n hx hb dX5_marked_19 rfl (lv_at hl 0 rfl) ?_
  refine k_get C hH fd_X5_11 oP (k_ref (M := M) (ad := ad) rP0) dX5_marked_20 ?_
  refine lv_aload_n hx hb dX5_marked_23 rfl (lv_at hl 0 rfl) ?_
  refine k_get C hH fd_X5_17 oP (k_int (M := M) (ad := ad) nP1) dX5_marked_24 ?_
  refine W_q (show some M = (if inb (M.1 113 1) 9 then some M else none) from (if_pos hi9).symm) ?_
  refine k_aald C hH aP0 qP dX5_marked_27 (fun hi1 => ?_)
  refine lv_goto (tgt := 32) hx hb dX5_marked_28 (by decide) ?_
  exact ke_r C hH hr (Or.inl ⟨_, rfl⟩) (Nat.zero_le _) (Nat.zero_le _) rfl dX5_marked_32
def fX2_copy_X2 (M3 : KS) : Option (KS) := some M3
theorem fX2_copy_X2_u {M3 : KS} : fX2_copy_X2 M3 = some M3 := rfl
def fX2_copy_L2 (o0 : Nat) (o1 : Nat) (rec2 : (Int32 × KS) → Option (KS)) (k2 : (KS) → Option (KS)) (x : Int32 × KS) : Option (KS) := match x with | (v1, M2) => (if 36 ≤ v1 then k2 M2 else if inb v1 36 then if inb v1 36 then nm (kset M2 (iFt o0) v1.toNatClampNeg (M2.1 (iFt o1) v1.toNatClampNeg)) fun M4 => if inb v1 36 then if inb v1 36 then nm (kset M4 (iFf o0) v1.toNatClampNeg (M4.1 (iFf o1) v1.toNatClampNeg)) fun M5 => nm (v1 + 1) fun v6 => rec2 (v6, M5) else none else none else none else none)
theorem fX2_copy_L2_u {o0 : Nat} {o1 : Nat} {rec2 : (Int32 × KS) → Option (KS)} {k2 : (KS) → Option (KS)} {v1 : Int32} {M2 : KS} : fX2_copy_L2 o0 o1 rec2 k2 (v1, M2) = (if 36 ≤ v1 then k2 M2 else if inb v1 36 then if inb v1 36 then nm (kset M2 (iFt o0) v1.toNatClampNeg (M2.1 (iFt o1) v1.toNatClampNeg)) fun M4 => if inb v1 36 then if inb v1 36 then nm (kset M4 (iFf o0) v1.toNatClampNeg (M4.1 (iFf o1) v1.toNatClampNeg)) fun M5 => nm (v1 + 1) fun v6 => rec2 (v6, M5) else none else none else none else none) := rfl
def fX2_copy (M : KS) (o0 : Nat) (o1 : Nat) : Option (KS) := lp (fX2_copy_L2 o0 o1) (fX2_copy_X2) 1000000 (0, M)
set_option maxHeartbeats 4000000 in
set_option maxRecDepth 100000 in
theorem kX2_copy (l : Launch) (E : KE) (ad : Nat → Nat) (M : KS) (o0 : Nat) (ho0 : o0 < 15) (o1 : Nat) (ho1 : o1 < 15) : CT l yX2_copy cX2_copy 3 none { frames := 0, cells := 0, slots := 0, locals := 0 } SK E ad [.ref (ad (iF o0)), .ref (ad (iF o1))] M (QV SK E ad) (fX2_copy M o0 o1) := by
  refine CT.ofW (by decide) (Nat.le_of_ble_eq_true rfl) (fun sz p e s m args below meth c C hr hH ls hl => ?_)
  have hx := C.1.1
  have hb := C.1.2.1
  have hl : lv_has ls 3 [(0, .ref (ad (iF o0))), (1, .ref (ad (iF o1)))] := hl
  unfold fX2_copy
  refine lv_iconst (v := 0) hx hb dX2_copy_0 (by decide) ?_
  refine lv_istore_n (lv' := [(2, .int 0), (0, .ref (ad (iF o0))), (1, .ref (ad (iF o1)))]) hx hb dX2_copy_1 rfl hl (by decide) rfl (fun ls hl => ?_)
  refine W_lp (fun (x : Int32 × KS) H locs => KH SK E ad sz x.2 s.heap H locs) (fun x ls => lv_has ls 3 [(0, .ref (ad (iF o0))), (1, .ref (ad (iF o1))), (2, .int x.1)]) (fun _ ls => F0 m 2 ls []) (fun (x : KS) H locs => KH SK E ad sz x s.heap H locs) (fun x ls => lv_has ls 3 []) (fun _ ls => F0 m 41 ls []) ?_ ?_ hH (lv_sub hl [1, 2, 0] rfl)
  · intro M3 H locs ls hH hl
    have hH : KH SK E ad sz M3 s.heap H locs := hH
    have hl : lv_has ls 3 [] := hl
    refine W_q fX2_copy_X2_u ?_
    exact ke_v C hH hr (Nat.le_refl _) (Nat.le_refl _) rfl dX2_copy_41
  · intro rec2 k2 hrec2 hk2 ⟨v1, M2⟩ H locs ls hH hl
    have hH : KH SK E ad sz M2 s.heap H locs := hH
    have hl : lv_has ls 3 [(0, .ref (ad (iF o0))), (1, .ref (ad (iF o1))), (2, .int v1)] := hl
    refine W_q fX2_copy_L2_u ?_
    refine lv_iload_n hx hb dX2_copy_2 rfl (lv_at hl 2 rfl) ?_
    refine lv_aload_n hx hb dX2_copy_3 rfl (lv_at hl 0 rfl) ?_
    refine k_get C hH fd_X2_9 (oF (f := o0) ho0) (k_ref (M := M2) (ad := ad) (rF0 (f := o0) ho0)) dX2_copy_4 ?_
    refine k_ilen C hH (aF0 (f := o0) ho0) (v := 36) rfl dX2_copy_7 ?_
    refine kb_icmp_ge (tgt := 41) hx hb dX2_copy_8 (by decide) (fun _ => ?_) (fun _ => ?_)
    · exact hk2 M2 _ _ _ hH (lv_sub hl [] rfl)
    · refine lv_aload_n hx hb dX2_copy_11 rfl (lv_at hl 0 rfl) ?_
      refine k_get C hH fd_X2_9 (oF (f := o0) ho0) (k_ref (M := M2) (ad := ad) (rF0 (f := o0) ho0)) dX2_copy_12 ?_
      refine lv_iload_n hx hb dX2_copy_15 rfl (lv_at hl 2 rfl) ?_
      refine lv_aload_n hx hb dX2_copy_16 rfl (lv_at hl 1 rfl) ?_
      refine k_get C hH fd_X2_9 (oF (f := o1) ho1) (k_ref (M := M2) (ad := ad) (rF0 (f := o1) ho1)) dX2_copy_17 ?_
      refine lv_iload_n hx hb dX2_copy_20 rfl (lv_at hl 2 rfl) ?_
      refine k_iald C hH (aF0 (f := o1) ho1) dX2_copy_21 ?_
      refine k_iast C hH (aF0 (f := o0) ho0) dX2_copy_22 (fun M4 H locs hH => ?_)
      refine lv_aload_n hx hb dX2_copy_23 rfl (lv_at hl 0 rfl) ?_
      refine k_get C hH fd_X2_15 (oF (f := o0) ho0) (k_ref (M := M4) (ad := ad) (rF1 (f := o0) ho0)) dX2_copy_24 ?_
      refine lv_iload_n hx hb dX2_copy_27 rfl (lv_at hl 2 rfl) ?_
      refine lv_aload_n hx hb dX2_copy_28 rfl (lv_at hl 1 rfl) ?_
      refine k_get C hH fd_X2_15 (oF (f := o1) ho1) (k_ref (M := M4) (ad := ad) (rF1 (f := o1) ho1)) dX2_copy_29 ?_
      refine lv_iload_n hx hb dX2_copy_32 rfl (lv_at hl 2 rfl) ?_
      refine k_iald C hH (aF1 (f := o1) ho1) dX2_copy_33 ?_
      refine k_iast C hH (aF1 (f := o0) ho0) dX2_copy_34 (fun M5 H locs hH => ?_)
      refine W_nm (fun v6 ev6 => ?_)
      refine lv_iinc (v := v6) (lv' := [(2, .int v6), (0, .ref (ad (iF o0))), (1, .ref (ad (iF o1)))]) hx hb dX2_copy_35 hl (k := 2) rfl (by rw [ev6]; rfl) (by decide) rfl (fun ls hl => ?_)
      refine lv_goto (tgt := 2) hx hb dX2_copy_38 (by decide) ?_
      exact hrec2 (v6, M5) _ _ _ hH (lv_sub hl [1, 2, 0] rfl)
def fX6_copy_X51 (M7 : KS) : Option (KS) := some M7
theorem fX6_copy_X51_u {M7 : KS} : fX6_copy_X51 M7 = some M7 := rfl
def fX6_copy_L51 (o0 : Nat) (o1 : Nat) (rec51 : (Int32 × KS) → Option (KS)) (k51 : (KS) → Option (KS)) (x : Int32 × KS) : Option (KS) := match x with | (v5, M6) => (if 33 ≤ v5 then k51 M6 else if inb v5 33 then if inb v5 33 then nm (kset M6 (iRc o0) v5.toNatClampNeg (M6.1 (iRc o1) v5.toNatClampNeg)) fun M8 => nm (v5 + 1) fun v9 => rec51 (v9, M8) else none else none)
theorem fX6_copy_L51_u {o0 : Nat} {o1 : Nat} {rec51 : (Int32 × KS) → Option (KS)} {k51 : (KS) → Option (KS)} {v5 : Int32} {M6 : KS} : fX6_copy_L51 o0 o1 rec51 k51 (v5, M6) = (if 33 ≤ v5 then k51 M6 else if inb v5 33 then if inb v5 33 then nm (kset M6 (iRc o0) v5.toNatClampNeg (M6.1 (iRc o1) v5.toNatClampNeg)) fun M8 => nm (v5 + 1) fun v9 => rec51 (v9, M8) else none else none) := rfl
def fX6_copy_X10 (o0 : Nat) (o1 : Nat) (M4 : KS) : Option (KS) := lp (fX6_copy_L51 o0 o1) (fX6_copy_X51) 1000000 (0, M4)
theorem fX6_copy_X10_u {o0 : Nat} {o1 : Nat} {M4 : KS} : fX6_copy_X10 o0 o1 M4 = lp (fX6_copy_L51 o0 o1) (fX6_copy_X51) 1000000 (0, M4) := rfl
def fX6_copy_L10 (o0 : Nat) (o1 : Nat) (rec10 : (Int32 × KS) → Option (KS)) (k10 : (KS) → Option (KS)) (x : Int32 × KS) : Option (KS) := match x with | (v2, M3) => (if 11 ≤ v2 then k10 M3 else if inb v2 11 then if inb v2 11 then nm (kset M3 (iRh o0) v2.toNatClampNeg (M3.1 (iRh o1) v2.toNatClampNeg)) fun M10 => if inb v2 11 then if inb v2 11 then nm (kset M10 (iRa o0) v2.toNatClampNeg (M10.1 (iRa o1) v2.toNatClampNeg)) fun M11 => nm (v2 + 1) fun v12 => rec10 (v12, M11) else none else none else none else none)
theorem fX6_copy_L10_u {o0 : Nat} {o1 : Nat} {rec10 : (Int32 × KS) → Option (KS)} {k10 : (KS) → Option (KS)} {v2 : Int32} {M3 : KS} : fX6_copy_L10 o0 o1 rec10 k10 (v2, M3) = (if 11 ≤ v2 then k10 M3 else if inb v2 11 then if inb v2 11 then nm (kset M3 (iRh o0) v2.toNatClampNeg (M3.1 (iRh o1) v2.toNatClampNeg)) fun M10 => if inb v2 11 then if inb v2 11 then nm (kset M10 (iRa o0) v2.toNatClampNeg (M10.1 (iRa o1) v2.toNatClampNeg)) fun M11 => nm (v2 + 1) fun v12 => rec10 (v12, M11) else none else none else none else none) := rfl
def fX6_copy (M : KS) (o0 : Nat) (o1 : Nat) : Option (KS) := nm (kset M (iR o0) 3 (M.1 (iR o1) 3)) fun M1 => lp (fX6_copy_L10 o0 o1) (fX6_copy_X10 o0 o1) 1000000 (0, M1)
set_option maxHeartbeats 4000000 in
set_option maxRecDepth 100000 in
theorem kX6_copy (l : Launch) (E : KE) (ad : Nat → Nat) (M : KS) (o0 : Nat) (ho0 : o0 < 11) (o1 : Nat) (ho1 : o1 < 11) : CT l yX6_copy cX6_copy 3 none { frames := 0, cells := 0, slots := 0, locals := 0 } SK E ad [.ref (ad (iR o0)), .ref (ad (iR o1))] M (QV SK E ad) (fX6_copy M o0 o1) := by
  refine CT.ofW (by decide) (Nat.le_of_ble_eq_true rfl) (fun sz p e s m args below meth c C hr hH ls hl => ?_)
  have hx := C.1.1
  have hb := C.1.2.1
  have hl : lv_has ls 3 [(0, .ref (ad (iR o0))), (1, .ref (ad (iR o1)))] := hl
  unfold fX6_copy
  refine lv_aload_n hx hb dX6_copy_0 rfl (lv_at hl 0 rfl) ?_
  refine lv_aload_n hx hb dX6_copy_1 rfl (lv_at hl 1 rfl) ?_
  refine k_get C hH fd_X6_21 (oR (f := o1) ho1) (k_int (M := M) (ad := ad) (nR3 (f := o1) ho1)) dX6_copy_2 ?_
  refine k_put1 C hH fd_X6_21 fw_X6_3 (oR (f := o0) ho0) (nR3 (f := o0) ho0) rfl rfl dX6_copy_5 (fun M1 H locs hH => ?_)
  refine lv_iconst (v := 0) hx hb dX6_copy_8 (by decide) ?_
  refine lv_istore_n (lv' := [(2, .int 0), (0, .ref (ad (iR o0))), (1, .ref (ad (iR o1)))]) hx hb dX6_copy_9 rfl hl (by decide) rfl (fun ls hl => ?_)
  refine W_lp (fun (x : Int32 × KS) H locs => KH SK E ad sz x.2 s.heap H locs) (fun x ls => lv_has ls 3 [(0, .ref (ad (iR o0))), (1, .ref (ad (iR o1))), (2, .int x.1)]) (fun _ ls => F0 m 10 ls []) (fun (x : KS) H locs => KH SK E ad sz x s.heap H locs) (fun x ls => lv_has ls 3 [(0, .ref (ad (iR o0))), (1, .ref (ad (iR o1)))]) (fun _ ls => F0 m 49 ls []) ?_ ?_ hH (lv_sub hl [1, 2, 0] rfl)
  · intro M4 H locs ls hH hl
    have hH : KH SK E ad sz M4 s.heap H locs := hH
    have hl : lv_has ls 3 [(0, .ref (ad (iR o0))), (1, .ref (ad (iR o1)))] := hl
    refine W_q fX6_copy_X10_u ?_
    refine lv_iconst (v := 0) hx hb dX6_copy_49 (by decide) ?_
    refine lv_istore_n (lv' := [(2, .int 0), (0, .ref (ad (iR o0))), (1, .ref (ad (iR o1)))]) hx hb dX6_copy_50 rfl hl (by decide) rfl (fun ls hl => ?_)
    refine W_lp (fun (x : Int32 × KS) H locs => KH SK E ad sz x.2 s.heap H locs) (fun x ls => lv_has ls 3 [(0, .ref (ad (iR o0))), (1, .ref (ad (iR o1))), (2, .int x.1)]) (fun _ ls => F0 m 51 ls []) (fun (x : KS) H locs => KH SK E ad sz x s.heap H locs) (fun x ls => lv_has ls 3 []) (fun _ ls => F0 m 78 ls []) ?_ ?_ hH (lv_sub hl [1, 2, 0] rfl)
    · intro M7 H locs ls hH hl
      have hH : KH SK E ad sz M7 s.heap H locs := hH
      have hl : lv_has ls 3 [] := hl
      refine W_q fX6_copy_X51_u ?_
      exact ke_v C hH hr (Nat.le_refl _) (Nat.le_refl _) rfl dX6_copy_78
    · intro rec51 k51 hrec51 hk51 ⟨v5, M6⟩ H locs ls hH hl
      have hH : KH SK E ad sz M6 s.heap H locs := hH
      have hl : lv_has ls 3 [(0, .ref (ad (iR o0))), (1, .ref (ad (iR o1))), (2, .int v5)] := hl
      refine W_q fX6_copy_L51_u ?_
      refine lv_iload_n hx hb dX6_copy_51 rfl (lv_at hl 2 rfl) ?_
      refine lv_aload_n hx hb dX6_copy_52 rfl (lv_at hl 0 rfl) ?_
      refine k_get C hH fd_X6_15 (oR (f := o0) ho0) (k_ref (M := M6) (ad := ad) (rR1 (f := o0) ho0)) dX6_copy_53 ?_
      refine k_ilen C hH (aR1 (f := o0) ho0) (v := 33) rfl dX6_copy_56 ?_
      refine kb_icmp_ge (tgt := 78) hx hb dX6_copy_57 (by decide) (fun _ => ?_) (fun _ => ?_)
      · exact hk51 M6 _ _ _ hH (lv_sub hl [] rfl)
      · refine lv_aload_n hx hb dX6_copy_60 rfl (lv_at hl 0 rfl) ?_
        refine k_get C hH fd_X6_15 (oR (f := o0) ho0) (k_ref (M := M6) (ad := ad) (rR1 (f := o0) ho0)) dX6_copy_61 ?_
        refine lv_iload_n hx hb dX6_copy_64 rfl (lv_at hl 2 rfl) ?_
        refine lv_aload_n hx hb dX6_copy_65 rfl (lv_at hl 1 rfl) ?_
        refine k_get C hH fd_X6_15 (oR (f := o1) ho1) (k_ref (M := M6) (ad := ad) (rR1 (f := o1) ho1)) dX6_copy_66 ?_
        refine lv_iload_n hx hb dX6_copy_69 rfl (lv_at hl 2 rfl) ?_
        refine k_iald C hH (aR1 (f := o1) ho1) dX6_copy_70 ?_
        refine k_iast C hH (aR1 (f := o0) ho0) dX6_copy_71 (fun M8 H locs hH => ?_)
        refine W_nm (fun v9 ev9 => ?_)
        refine lv_iinc (v := v9) (lv' := [(2, .int v9), (0, .ref (ad (iR o0))), (1, .ref (ad (iR o1)))]) hx hb dX6_copy_72 hl (k := 2) rfl (by rw [ev9]; rfl) (by decide) rfl (fun ls hl => ?_)
        refine lv_goto (tgt := 51) hx hb dX6_copy_75 (by decide) ?_
        exact hrec51 (v9, M8) _ _ _ hH (lv_sub hl [1, 2, 0] rfl)
  · intro rec10 k10 hrec10 hk10 ⟨v2, M3⟩ H locs ls hH hl
    have hH : KH SK E ad sz M3 s.heap H locs := hH
    have hl : lv_has ls 3 [(0, .ref (ad (iR o0))), (1, .ref (ad (iR o1))), (2, .int v2)] := hl
    refine W_q fX6_copy_L10_u ?_
    refine lv_iload_n hx hb dX6_copy_10 rfl (lv_at hl 2 rfl) ?_
    refine lv_aload_n hx hb dX6_copy_11 rfl (lv_at hl 0 rfl) ?_
    refine k_get C hH fd_X6_9 (oR (f := o0) ho0) (k_ref (M := M3) (ad := ad) (rR0 (f := o0) ho0)) dX6_copy_12 ?_
    refine k_ilen C hH (aR0 (f := o0) ho0) (v := 11) rfl dX6_copy_15 ?_
    refine kb_icmp_ge (tgt := 49) hx hb dX6_copy_16 (by decide) (fun _ => ?_) (fun _ => ?_)
    · exact hk10 M3 _ _ _ hH (lv_sub hl [0, 1] rfl)
    · refine lv_aload_n hx hb dX6_copy_19 rfl (lv_at hl 0 rfl) ?_
      refine k_get C hH fd_X6_9 (oR (f := o0) ho0) (k_ref (M := M3) (ad := ad) (rR0 (f := o0) ho0)) dX6_copy_20 ?_
      refine lv_iload_n hx hb dX6_copy_23 rfl (lv_at hl 2 rfl) ?_
      refine lv_aload_n hx hb dX6_copy_24 rfl (lv_at hl 1 rfl) ?_
      refine k_get C hH fd_X6_9 (oR (f := o1) ho1) (k_ref (M := M3) (ad := ad) (rR0 (f := o1) ho1)) dX6_copy_25 ?_
      refine lv_iload_n hx hb dX6_copy_28 rfl (lv_at hl 2 rfl) ?_
      refine k_iald C hH (aR0 (f := o1) ho1) dX6_copy_29 ?_
      refine k_iast C hH (aR0 (f := o0) ho0) dX6_copy_30 (fun M10 H locs hH => ?_)
      refine lv_aload_n hx hb dX6_copy_31 rfl (lv_at hl 0 rfl) ?_
      refine k_get C hH fd_X6_18 (oR (f := o0) ho0) (k_ref (M := M10) (ad := ad) (rR2 (f := o0) ho0)) dX6_copy_32 ?_
      refine lv_iload_n hx hb dX6_copy_35 rfl (lv_at hl 2 rfl) ?_
      refine lv_aload_n hx hb dX6_copy_36 rfl (lv_at hl 1 rfl) ?_
      refine k_get C hH fd_X6_18 (oR (f := o1) ho1) (k_ref (M := M10) (ad := ad) (rR2 (f := o1) ho1)) dX6_copy_37 ?_
      refine lv_iload_n hx hb dX6_copy_40 rfl (lv_at hl 2 rfl) ?_
      refine k_iald C hH (aR2 (f := o1) ho1) dX6_copy_41 ?_
      refine k_iast C hH (aR2 (f := o0) ho0) dX6_copy_42 (fun M11 H locs hH => ?_)
      refine W_nm (fun v12 ev12 => ?_)
      refine lv_iinc (v := v12) (lv' := [(2, .int v12), (0, .ref (ad (iR o0))), (1, .ref (ad (iR o1)))]) hx hb dX6_copy_43 hl (k := 2) rfl (by rw [ev12]; rfl) (by decide) rfl (fun ls hl => ?_)
      refine lv_goto (tgt := 10) hx hb dX6_copy_46 (by decide) ?_
      exact hrec10 (v12, M11) _ _ _ hH (lv_sub hl [1, 2, 0] rfl)
def fX7_copy (M : KS) (o0 : Nat) (o1 : Nat) : Option (KS) := (fX2_copy M o0 o1).bind fun M1 => (fX6_copy M1 o0 o1).bind fun M2 => some M2
set_option maxHeartbeats 4000000 in
set_option maxRecDepth 100000 in
theorem kX7_copy (l : Launch) (E : KE) (ad : Nat → Nat) (M : KS) (o0 : Nat) (ho0 : o0 < 11) (o1 : Nat) (ho1 : o1 < 11) : CT l yX7_copy cX7_copy 2 none { frames := 1, cells := 0, slots := 0, locals := 22 } SK E ad [.ref (ad (iS o0)), .ref (ad (iS o1))] M (QV SK E ad) (fX7_copy M o0 o1) := by
  refine CT.ofW (by decide) (Nat.le_of_ble_eq_true rfl) (fun sz p e s m args below meth c C hr hH ls hl => ?_)
  have hx := C.1.1
  have hb := C.1.2.1
  have hl : lv_has ls 2 [(0, .ref (ad (iS o0))), (1, .ref (ad (iS o1)))] := hl
  unfold fX7_copy
  refine lv_aload_n hx hb dX7_copy_0 rfl (lv_at hl 0 rfl) ?_
  refine k_get C hH fd_X7_10 (oS (f := o0) ho0) (k_ref (M := M) (ad := ad) (rS0 (f := o0) ho0)) dX7_copy_1 ?_
  refine lv_aload_n hx hb dX7_copy_4 rfl (lv_at hl 1 rfl) ?_
  refine k_get C hH fd_X7_10 (oS (f := o1) ho1) (k_ref (M := M) (ad := ad) (rS0 (f := o1) ho1)) dX7_copy_5 ?_
  refine kg_v C hH (kc_V C hH w_2_212 lc_yX2_copy li_yX2_copy (oF (f := o0) (Nat.lt_of_lt_of_le ho0 (by decide))) (kX2_copy l E ad M o0 (Nat.lt_of_lt_of_le ho0 (by decide)) o1 (Nat.lt_of_lt_of_le ho1 (by decide))) (As := [.ref (ad (iF o1))]) rfl dX7_copy_8 rfl hl.1 (Nat.le_of_ble_eq_true rfl) ⟨Nat.le_of_ble_eq_true rfl, Nat.le_of_ble_eq_true rfl⟩ ⟨Nat.le_of_ble_eq_true rfl, Nat.le_of_ble_eq_true rfl⟩) ⟨rfl, rfl⟩ (fun M1 H locs hH => ?_)
  refine lv_aload_n hx hb dX7_copy_11 rfl (lv_at hl 0 rfl) ?_
  refine k_get C hH fd_X7_19 (oS (f := o0) ho0) (k_ref (M := M1) (ad := ad) (rS1 (f := o0) ho0)) dX7_copy_12 ?_
  refine lv_aload_n hx hb dX7_copy_15 rfl (lv_at hl 1 rfl) ?_
  refine k_get C hH fd_X7_19 (oS (f := o1) ho1) (k_ref (M := M1) (ad := ad) (rS1 (f := o1) ho1)) dX7_copy_16 ?_
  refine kg_v C hH (kc_V C hH w_2_213 lc_yX6_copy li_yX6_copy (oR (f := o0) ho0) (kX6_copy l E ad M1 o0 ho0 o1 ho1) (As := [.ref (ad (iR o1))]) rfl dX7_copy_19 rfl hl.1 (Nat.le_of_ble_eq_true rfl) ⟨Nat.le_of_ble_eq_true rfl, Nat.le_of_ble_eq_true rfl⟩ ⟨Nat.le_of_ble_eq_true rfl, Nat.le_of_ble_eq_true rfl⟩) ⟨rfl, rfl⟩ (fun M2 H locs hH => ?_)
  exact ke_v C hH hr (Nat.le_refl _) (Nat.le_refl _) rfl dX7_copy_22
def fX5_mark (M : KS) (o1 : Nat) : Option (KS) := if inb (M.1 113 1) 9 then (fX7_copy M (2 + (M.1 113 1).toNatClampNeg) o1).bind fun M2 => some M2 else none
set_option maxHeartbeats 4000000 in
set_option maxRecDepth 100000 in
theorem kX5_mark (l : Launch) (E : KE) (ad : Nat → Nat) (M : KS) (o1 : Nat) (ho1 : o1 < 11) : CT l yX5_mark cX5_mark 3 none { frames := 2, cells := 0, slots := 0, locals := 43 } SK E ad [.ref (ad 113), .ref (ad (iS o1))] M (QV SK E ad) (fX5_mark M o1) := by
  refine CT.ofW (by decide) (Nat.le_of_ble_eq_true rfl) (fun sz p e s m args below meth c C hr hH ls hl => ?_)
  have hx := C.1.1
  have hb := C.1.2.1
  have hl : lv_has ls 3 [(0, .ref (ad 113)), (1, .ref (ad (iS o1)))] := hl
  unfold fX5_mark
  refine W_if (fun hi1 => ?_)
  refine W_q (show (fX7_copy M (2 + (M.1 113 1).toNatClampNeg) o1).bind (fun M2 => some M2) = (fX5_marked M).bind (fun M1 => (fX7_copy M1 (2 + (M.1 113 1).toNatClampNeg) o1).bind (fun M2 => some M2)) from by unfold fX5_marked; rw [if_pos hi1, Option.bind_some]) ?_
  refine lv_aload_n hx hb dX5_mark_0 rfl (lv_at hl 0 rfl) ?_
  refine kg_r C hH (kc_V C hH w_3_76 lc_yX5_marked li_yX5_marked oP (kX5_marked l E ad M) (As := []) rfl dX5_mark_1 rfl hl.1 (Nat.le_of_ble_eq_true rfl) ⟨Nat.le_of_ble_eq_true rfl, Nat.le_of_ble_eq_true rfl⟩ ⟨Nat.le_of_ble_eq_true rfl, Nat.le_of_ble_eq_true rfl⟩) ⟨rfl, rfl⟩ (fun M1 H locs hH => ?_)
  refine lv_astore_n (lv' := [(2, .ref (ad (iS (2 + (M.1 113 1).toNatClampNeg)))), (0, .ref (ad 113)), (1, .ref (ad (iS o1)))]) hx hb dX5_mark_4 rfl hl (by decide) rfl (fun ls hl => ?_)
  refine lv_aload_n hx hb dX5_mark_5 rfl (lv_at hl 0 rfl) ?_
  refine lv_ifnull hx hb dX5_mark_6 ?_
  refine lv_aload_n hx hb dX5_mark_9 rfl (lv_at hl 0 rfl) ?_
  refine lv_aload_n hx hb dX5_mark_10 rfl (lv_at hl 2 rfl) ?_
  refine kg_v C hH (kc_V C hH w_3_80 lc_yX7_copy li_yX7_copy (oS (f := (2 + (M.1 113 1).toNatClampNeg)) (bP hi1)) (kX7_copy l E ad M1 (2 + (M.1 113 1).toNatClampNeg) (bP hi1) o1 ho1) (As := [.ref (ad (iS o1))]) rfl dX5_mark_11 rfl hl.1 (Nat.le_of_ble_eq_true rfl) ⟨Nat.le_of_ble_eq_true rfl, Nat.le_of_ble_eq_true rfl⟩ ⟨Nat.le_of_ble_eq_true rfl, Nat.le_of_ble_eq_true rfl⟩) ⟨rfl, rfl⟩ (fun M2 H locs hH => ?_)
  exact ke_v C hH hr (Nat.zero_le _) (Nat.zero_le _) rfl dX5_mark_14
def fX9_numberOf_o (a0 : Int32) (a1 : Int32) (a2 : Int32) : Option (Int32) := some (((36 * a0) + (6 * a1)) + a2)
def fX9_numberOf (a0 : Int32) (a1 : Int32) (a2 : Int32) : Int32 := (((36 * a0) + (6 * a1)) + a2)
theorem fX9_numberOf_s {a0 : Int32} {a1 : Int32} {a2 : Int32} : fX9_numberOf_o a0 a1 a2 = some (fX9_numberOf a0 a1 a2) := by
  unfold fX9_numberOf_o fX9_numberOf
  (repeat' split) <;> rfl
set_option maxHeartbeats 4000000 in
set_option maxRecDepth 100000 in
theorem kX9_numberOf_o (l : Launch) (E : KE) (ad : Nat → Nat) (M : KS) (a0 : Int32) (a1 : Int32) (a2 : Int32) : CT l yX9_numberOf cX9_numberOf 3 (some .int) { frames := 0, cells := 0, slots := 0, locals := 0 } SK E ad [.int a0, .int a1, .int a2] M (fun sz a => QI SK E ad sz (a, M)) (fX9_numberOf_o a0 a1 a2) := by
  refine CT.ofW (by decide) (Nat.le_of_ble_eq_true rfl) (fun sz p e s m args below meth c C hr hH ls hl => ?_)
  have hx := C.1.1
  have hb := C.1.2.1
  have hl : lv_has ls 3 [(0, .int a0), (1, .int a1), (2, .int a2)] := hl
  unfold fX9_numberOf_o
  refine lv_bipush (v := 36) hx hb dX9_numberOf_0 (by decide) ?_
  refine lv_iload_n hx hb dX9_numberOf_2 rfl (lv_at hl 0 rfl) ?_
  refine lv_imul hx hb dX9_numberOf_3 ?_
  refine lv_bipush (v := 6) hx hb dX9_numberOf_4 (by decide) ?_
  refine lv_iload_n hx hb dX9_numberOf_6 rfl (lv_at hl 1 rfl) ?_
  refine lv_imul hx hb dX9_numberOf_7 ?_
  refine lv_iadd hx hb dX9_numberOf_8 ?_
  refine lv_iload_n hx hb dX9_numberOf_9 rfl (lv_at hl 2 rfl) ?_
  refine lv_iadd hx hb dX9_numberOf_10 ?_
  exact ke_i C hH hr (Nat.le_refl _) (Nat.le_refl _) rfl dX9_numberOf_11
theorem kX9_numberOf (l : Launch) (E : KE) (ad : Nat → Nat) (M : KS) (a0 : Int32) (a1 : Int32) (a2 : Int32) : CT l yX9_numberOf cX9_numberOf 3 (some .int) { frames := 0, cells := 0, slots := 0, locals := 0 } SK E ad [.int a0, .int a1, .int a2] M (fun sz (_ : Unit) => QI SK E ad sz (fX9_numberOf a0 a1 a2, M)) (some ()) := CT.pure (kX9_numberOf_o l E ad M a0 a1 a2) fX9_numberOf_s
def fX2_has (M : KS) (o0 : Nat) (a1 : Int32) : Option (Int32) := nm ((a1 / 6)) fun v1 => (if a1 < 0 then some 0 else (if 36 ≤ v1 then some 0 else if inb v1 36 then (if ((jshr (M.1 (iFt o0) v1.toNatClampNeg) (jrem a1 6)) &&& 1) = 0 then some 0 else some 1) else none))
set_option maxHeartbeats 4000000 in
set_option maxRecDepth 100000 in
theorem kX2_has (l : Launch) (E : KE) (ad : Nat → Nat) (M : KS) (o0 : Nat) (ho0 : o0 < 15) (a1 : Int32) : CT l yX2_has cX2_has 3 (some .boolean) { frames := 0, cells := 0, slots := 0, locals := 0 } SK E ad [.ref (ad (iF o0)), .int a1] M (fun sz a => QI SK E ad sz (a, M)) (fX2_has M o0 a1) := by
  refine CT.ofW (by decide) (Nat.le_of_ble_eq_true rfl) (fun sz p e s m args below meth c C hr hH ls hl => ?_)
  have hx := C.1.1
  have hb := C.1.2.1
  have hl : lv_has ls 3 [(0, .ref (ad (iF o0))), (1, .int a1)] := hl
  unfold fX2_has
  refine lv_iload_n hx hb dX2_has_0 rfl (lv_at hl 1 rfl) ?_
  refine lv_bipush (v := 6) hx hb dX2_has_1 (by decide) ?_
  refine lv_idiv hx hb dX2_has_3 (by decide) ?_
  refine W_nmi (fun v1 => ?_)
  refine lv_istore_n (lv' := [(2, .int v1), (0, .ref (ad (iF o0))), (1, .int a1)]) hx hb dX2_has_4 rfl hl (by decide) rfl (fun ls hl => ?_)
  refine lv_iload_n hx hb dX2_has_5 rfl (lv_at hl 2 rfl) ?_
  refine kb_if_lt (tgt := 38) hx hb dX2_has_6 (by decide) (fun _ => ?_) (fun _ => ?_)
  · refine lv_iconst (v := 0) hx hb dX2_has_38 (by decide) ?_
    exact ke_z C hH hr (Nat.le_refl _) (Nat.le_refl _) rfl (Or.inl rfl) dX2_has_39
  · refine lv_iload_n hx hb dX2_has_9 rfl (lv_at hl 0 rfl) ?_
    refine lv_aload_n hx hb dX2_has_10 rfl (lv_at hl 1 rfl) ?_
    refine k_get C hH fd_X2_9 (oF (f := o0) ho0) (k_ref (M := M) (ad := ad) (rF0 (f := o0) ho0)) dX2_has_11 ?_
    refine k_ilen C hH (aF0 (f := o0) ho0) (v := 36) rfl dX2_has_14 ?_
    refine kb_icmp_ge (tgt := 38) hx hb dX2_has_15 (by decide) (fun _ => ?_) (fun _ => ?_)
    · refine lv_iconst (v := 0) hx hb dX2_has_38 (by decide) ?_
      exact ke_z C hH hr (Nat.le_refl _) (Nat.le_refl _) rfl (Or.inl rfl) dX2_has_39
    · refine lv_aload_n hx hb dX2_has_18 rfl (lv_at hl 1 rfl) ?_
      refine k_get C hH fd_X2_9 (oF (f := o0) ho0) (k_ref (M := M) (ad := ad) (rF0 (f := o0) ho0)) dX2_has_19 ?_
      refine lv_iload_n hx hb dX2_has_22 rfl (lv_at hl 0 rfl) ?_
      refine k_iald C hH (aF0 (f := o0) ho0) dX2_has_23 ?_
      refine lv_iload_n hx hb dX2_has_24 rfl (lv_at hl 2 rfl) ?_
      refine lv_bipush (v := 6) hx hb dX2_has_25 (by decide) ?_
      refine k_irem hx hb dX2_has_27 (by decide) ?_
      refine k_ishr hx hb dX2_has_28 ?_
      refine lv_iconst (v := 1) hx hb dX2_has_29 (by decide) ?_
      refine lv_iand hx hb dX2_has_30 ?_
      refine kb_if_eq (tgt := 38) hx hb dX2_has_31 (by decide) (fun _ => ?_) (fun _ => ?_)
      · refine lv_iconst (v := 0) hx hb dX2_has_38 (by decide) ?_
        exact ke_z C hH hr (Nat.le_refl _) (Nat.le_refl _) rfl (Or.inl rfl) dX2_has_39
      · refine lv_iconst (v := 1) hx hb dX2_has_34 (by decide) ?_
        refine lv_goto (tgt := 39) hx hb dX2_has_35 (by decide) ?_
        exact ke_z C hH hr (Nat.le_refl _) (Nat.le_refl _) rfl (Or.inr rfl) dX2_has_39
def fX2_to (M : KS) (o0 : Nat) (a1 : Int32) (a2 : Int32) : Option (Int32) := nm (((6 * a1) + a2)) fun v1 => (if v1 < 0 then some 0 else (if 36 ≤ v1 then some 0 else if inb v1 36 then some (M.1 (iFt o0) v1.toNatClampNeg) else none))
set_option maxHeartbeats 4000000 in
set_option maxRecDepth 100000 in
theorem kX2_to (l : Launch) (E : KE) (ad : Nat → Nat) (M : KS) (o0 : Nat) (ho0 : o0 < 15) (a1 : Int32) (a2 : Int32) : CT l yX2_to cX2_to 4 (some .int) { frames := 0, cells := 0, slots := 0, locals := 0 } SK E ad [.ref (ad (iF o0)), .int a1, .int a2] M (fun sz a => QI SK E ad sz (a, M)) (fX2_to M o0 a1 a2) := by
  refine CT.ofW (by decide) (Nat.le_of_ble_eq_true rfl) (fun sz p e s m args below meth c C hr hH ls hl => ?_)
  have hx := C.1.1
  have hb := C.1.2.1
  have hl : lv_has ls 4 [(0, .ref (ad (iF o0))), (1, .int a1), (2, .int a2)] := hl
  unfold fX2_to
  refine lv_bipush (v := 6) hx hb dX2_to_0 (by decide) ?_
  refine lv_iload_n hx hb dX2_to_2 rfl (lv_at hl 1 rfl) ?_
  refine lv_imul hx hb dX2_to_3 ?_
  refine lv_iload_n hx hb dX2_to_4 rfl (lv_at hl 2 rfl) ?_
  refine lv_iadd hx hb dX2_to_5 ?_
  refine W_nmi (fun v1 => ?_)
  refine lv_istore_n (lv' := [(3, .int v1), (0, .ref (ad (iF o0))), (1, .int a1), (2, .int a2)]) hx hb dX2_to_6 rfl hl (by decide) rfl (fun ls hl => ?_)
  refine lv_iload_n hx hb dX2_to_7 rfl (lv_at hl 0 rfl) ?_
  refine kb_if_lt (tgt := 29) hx hb dX2_to_8 (by decide) (fun _ => ?_) (fun _ => ?_)
  · refine lv_iconst (v := 0) hx hb dX2_to_29 (by decide) ?_
    exact ke_i C hH hr (Nat.le_refl _) (Nat.le_refl _) rfl dX2_to_30
  · refine lv_iload_n hx hb dX2_to_11 rfl (lv_at hl 0 rfl) ?_
    refine lv_aload_n hx hb dX2_to_12 rfl (lv_at hl 1 rfl) ?_
    refine k_get C hH fd_X2_9 (oF (f := o0) ho0) (k_ref (M := M) (ad := ad) (rF0 (f := o0) ho0)) dX2_to_13 ?_
    refine k_ilen C hH (aF0 (f := o0) ho0) (v := 36) rfl dX2_to_16 ?_
    refine kb_icmp_ge (tgt := 29) hx hb dX2_to_17 (by decide) (fun _ => ?_) (fun _ => ?_)
    · refine lv_iconst (v := 0) hx hb dX2_to_29 (by decide) ?_
      exact ke_i C hH hr (Nat.le_refl _) (Nat.le_refl _) rfl dX2_to_30
    · refine lv_aload_n hx hb dX2_to_20 rfl (lv_at hl 1 rfl) ?_
      refine k_get C hH fd_X2_9 (oF (f := o0) ho0) (k_ref (M := M) (ad := ad) (rF0 (f := o0) ho0)) dX2_to_21 ?_
      refine lv_iload_n hx hb dX2_to_24 rfl (lv_at hl 0 rfl) ?_
      refine k_iald C hH (aF0 (f := o0) ho0) dX2_to_25 ?_
      refine lv_goto (tgt := 30) hx hb dX2_to_26 (by decide) ?_
      exact ke_i C hH hr (Nat.le_refl _) (Nat.le_refl _) rfl dX2_to_30
def fX2_sizeOf_X4 (v3 : Int32) : Option (Int32) := some v3
theorem fX2_sizeOf_X4_u {v3 : Int32} : fX2_sizeOf_X4 v3 = some v3 := rfl
def fX2_sizeOf_L4 (M : KS) (o0 : Nat) (a1 : Int32) (rec4 : (Int32 × Int32) → Option (Int32)) (k4 : (Int32) → Option (Int32)) (x : Int32 × Int32) : Option (Int32) := match x with | (v1, v2) => (if 6 ≤ v2 then k4 v1 else (fX2_to M o0 a1 v2).bind fun v4 => nm ((v1 + (fJ6_bitCount_0f7a4 v4))) fun v5 => nm (v2 + 1) fun v6 => rec4 (v5, v6))
theorem fX2_sizeOf_L4_u {M : KS} {o0 : Nat} {a1 : Int32} {rec4 : (Int32 × Int32) → Option (Int32)} {k4 : (Int32) → Option (Int32)} {v1 : Int32} {v2 : Int32} : fX2_sizeOf_L4 M o0 a1 rec4 k4 (v1, v2) = (if 6 ≤ v2 then k4 v1 else (fX2_to M o0 a1 v2).bind fun v4 => nm ((v1 + (fJ6_bitCount_0f7a4 v4))) fun v5 => nm (v2 + 1) fun v6 => rec4 (v5, v6)) := rfl
def fX2_sizeOf (M : KS) (o0 : Nat) (a1 : Int32) : Option (Int32) := lp (fX2_sizeOf_L4 M o0 a1) (fX2_sizeOf_X4) 1000000 (0, 0)
set_option maxHeartbeats 4000000 in
set_option maxRecDepth 100000 in
theorem kX2_sizeOf (l : Launch) (E : KE) (ad : Nat → Nat) (M : KS) (o0 : Nat) (ho0 : o0 < 15) (a1 : Int32) : CT l yX2_sizeOf cX2_sizeOf 4 (some .int) { frames := 1, cells := 0, slots := 0, locals := 23 } SK E ad [.ref (ad (iF o0)), .int a1] M (fun sz a => QI SK E ad sz (a, M)) (fX2_sizeOf M o0 a1) := by
  refine CT.ofW (by decide) (Nat.le_of_ble_eq_true rfl) (fun sz p e s m args below meth c C hr hH ls hl => ?_)
  have hx := C.1.1
  have hb := C.1.2.1
  have hl : lv_has ls 4 [(0, .ref (ad (iF o0))), (1, .int a1)] := hl
  unfold fX2_sizeOf
  refine lv_iconst (v := 0) hx hb dX2_sizeOf_0 (by decide) ?_
  refine lv_istore_n (lv' := [(2, .int 0), (0, .ref (ad (iF o0))), (1, .int a1)]) hx hb dX2_sizeOf_1 rfl hl (by decide) rfl (fun ls hl => ?_)
  refine lv_iconst (v := 0) hx hb dX2_sizeOf_2 (by decide) ?_
  refine lv_istore_n (lv' := [(3, .int 0), (2, .int 0), (0, .ref (ad (iF o0))), (1, .int a1)]) hx hb dX2_sizeOf_3 rfl hl (by decide) rfl (fun ls hl => ?_)
  refine W_lp (fun (x : Int32 × Int32) H locs => KH SK E ad sz M s.heap H locs) (fun x ls => lv_has ls 4 [(0, .ref (ad (iF o0))), (1, .int a1), (2, .int x.1), (3, .int x.2)]) (fun _ ls => F0 m 4 ls []) (fun (x : Int32) H locs => KH SK E ad sz M s.heap H locs) (fun x ls => lv_has ls 4 [(2, .int x)]) (fun _ ls => F0 m 28 ls []) ?_ ?_ hH (lv_sub hl [2, 3, 1, 0] rfl)
  · intro v3 H locs ls hH hl
    have hH : KH SK E ad sz M s.heap H locs := hH
    have hl : lv_has ls 4 [(2, .int v3)] := hl
    refine W_q fX2_sizeOf_X4_u ?_
    refine lv_iload_n hx hb dX2_sizeOf_28 rfl (lv_at hl 0 rfl) ?_
    exact ke_i C hH hr (Nat.le_refl _) (Nat.le_refl _) rfl dX2_sizeOf_29
  · intro rec4 k4 hrec4 hk4 ⟨v1, v2⟩ H locs ls hH hl
    have hH : KH SK E ad sz M s.heap H locs := hH
    have hl : lv_has ls 4 [(0, .ref (ad (iF o0))), (1, .int a1), (2, .int v1), (3, .int v2)] := hl
    refine W_q fX2_sizeOf_L4_u ?_
    refine lv_iload_n hx hb dX2_sizeOf_4 rfl (lv_at hl 3 rfl) ?_
    refine lv_bipush (v := 6) hx hb dX2_sizeOf_5 (by decide) ?_
    refine kb_icmp_ge (tgt := 28) hx hb dX2_sizeOf_7 (by decide) (fun _ => ?_) (fun _ => ?_)
    · exact hk4 v1 _ _ _ hH (lv_sub hl [2] rfl)
    · refine lv_iload_n hx hb dX2_sizeOf_10 rfl (lv_at hl 2 rfl) ?_
      refine lv_aload_n hx hb dX2_sizeOf_11 rfl (lv_at hl 0 rfl) ?_
      refine lv_iload_n hx hb dX2_sizeOf_12 rfl (lv_at hl 1 rfl) ?_
      refine lv_iload_n hx hb dX2_sizeOf_13 rfl (lv_at hl 3 rfl) ?_
      refine kg_io C hH (kc_V C hH w_3_91 lc_yX2_to li_yX2_to (oF (f := o0) ho0) (kX2_to l E ad M o0 ho0 a1 v2) (As := [.int a1, .int v2]) rfl dX2_sizeOf_14 rfl hl.1 (Nat.le_of_ble_eq_true rfl) ⟨Nat.le_of_ble_eq_true rfl, Nat.le_of_ble_eq_true rfl⟩ ⟨Nat.le_of_ble_eq_true rfl, Nat.le_of_ble_eq_true rfl⟩) ⟨rfl, rfl⟩ (fun v4 H locs hH => ?_)
      refine kg_ip C hH (kc_S2 C hH w_2_221 w_st_yJ6_bitCount_0f7a4 lc_yJ6_bitCount_0f7a4 (kJ6_bitCount_0f7a4 l E ad M v4) (As := [.int v4]) rfl dX2_sizeOf_17 rfl hl.1 (Nat.le_of_ble_eq_true rfl) ⟨Nat.le_of_ble_eq_true rfl, Nat.le_of_ble_eq_true rfl⟩ ⟨Nat.le_of_ble_eq_true rfl, Nat.le_of_ble_eq_true rfl⟩) ⟨rfl, rfl⟩ (fun H locs hH => ?_)
      refine lv_iadd hx hb dX2_sizeOf_20 ?_
      refine W_nmi (fun v5 => ?_)
      refine lv_istore_n (lv' := [(2, .int v5), (0, .ref (ad (iF o0))), (1, .int a1), (3, .int v2)]) hx hb dX2_sizeOf_21 rfl hl (by decide) rfl (fun ls hl => ?_)
      refine W_nm (fun v6 ev6 => ?_)
      refine lv_iinc (v := v6) (lv' := [(3, .int v6), (2, .int v5), (0, .ref (ad (iF o0))), (1, .int a1)]) hx hb dX2_sizeOf_22 hl (k := 3) rfl (by rw [ev6]; rfl) (by decide) rfl (fun ls hl => ?_)
      refine lv_goto (tgt := 4) hx hb dX2_sizeOf_25 (by decide) ?_
      exact hrec4 (v5, v6) _ _ _ hH (lv_sub hl [2, 3, 1, 0] rfl)
