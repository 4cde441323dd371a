def fJ6_bitCount_0f7a4_o (a0 : Int32) : Option (Int32) := nm ((a0 - ((jushr a0 1) &&& 1431655765))) fun v1 => nm (((v1 &&& 858993459) + ((jushr v1 2) &&& 858993459))) fun v2 => nm (((v2 + (jushr v2 4)) &&& 252645135)) fun v3 => nm ((v3 + (jushr v3 8))) fun v4 => nm ((v4 + (jushr v4 16))) fun v5 => some (v5 &&& 63)
def fJ6_bitCount_0f7a4 (a0 : Int32) : Int32 := let v1 := (a0 - ((jushr a0 1) &&& 1431655765)); let v2 := ((v1 &&& 858993459) + ((jushr v1 2) &&& 858993459)); let v3 := ((v2 + (jushr v2 4)) &&& 252645135); let v4 := (v3 + (jushr v3 8)); let v5 := (v4 + (jushr v4 16)); (v5 &&& 63)
theorem fJ6_bitCount_0f7a4_s {a0 : Int32} : fJ6_bitCount_0f7a4_o a0 = some (fJ6_bitCount_0f7a4 a0) := by
  unfold fJ6_bitCount_0f7a4_o fJ6_bitCount_0f7a4
  (repeat' split) <;> rfl
set_option maxHeartbeats 4000000 in
set_option maxRecDepth 100000 in
theorem kJ6_bitCount_0f7a4_o (l : Launch) (E : KE) (ad : Nat → Nat) (M : KS) (a0 : Int32) : CT l yJ6_bitCount_0f7a4 cJ6_bitCount_0f7a4 1 (some .int) { frames := 0, cells := 0, slots := 0, locals := 0 } SK E ad [.int a0] M (fun sz a => QI SK E ad sz (a, M)) (fJ6_bitCount_0f7a4_o a0) := by
  refine CT.ofW (by decide) (Nat.le_of_ble_eq_true rfl) (fun sz p e s m args below meth c C hr hH ls hl => ?_)
  have hx := C.1.1
  have hb := C.1.2.1
  have hl : lv_has ls 1 [(0, .int a0)] := hl
  unfold fJ6_bitCount_0f7a4_o
  refine lv_iload_n hx hb dJ6_bitCount_0f7a4_0 rfl (lv_at hl 0 rfl) ?_
  refine lv_iload_n hx hb dJ6_bitCount_0f7a4_1 rfl (lv_at hl 0 rfl) ?_
  refine lv_iconst (v := 1) hx hb dJ6_bitCount_0f7a4_2 (by decide) ?_
  refine lv_iushr (v := (jushr a0 1)) hx hb dJ6_bitCount_0f7a4_3 rfl ?_
  refine lv_ldcw hx hb (own := RJ6) C.1.2.2.2.1 (C.1.2.2.2.2 _ w_2_196) dJ6_bitCount_0f7a4_4 ?_
  refine lv_iand hx hb dJ6_bitCount_0f7a4_7 ?_
  refine lv_isub hx hb dJ6_bitCount_0f7a4_8 ?_
  refine W_nmi (fun v1 => ?_)
  refine lv_istore_n (lv' := [(0, .int v1)]) hx hb dJ6_bitCount_0f7a4_9 rfl hl (by decide) rfl (fun ls hl => ?_)
  refine lv_iload_n hx hb dJ6_bitCount_0f7a4_10 rfl (lv_at hl 0 rfl) ?_
  refine lv_ldcw hx hb (own := RJ6) C.1.2.2.2.1 (C.1.2.2.2.2 _ w_2_197) dJ6_bitCount_0f7a4_11 ?_
  refine lv_iand hx hb dJ6_bitCount_0f7a4_14 ?_
  refine lv_iload_n hx hb dJ6_bitCount_0f7a4_15 rfl (lv_at hl 0 rfl) ?_
  refine lv_iconst (v := 2) hx hb dJ6_bitCount_0f7a4_16 (by decide) ?_
  refine lv_iushr (v := (jushr v1 2)) hx hb dJ6_bitCount_0f7a4_17 rfl ?_
  refine lv_ldcw hx hb (own := RJ6) C.1.2.2.2.1 (C.1.2.2.2.2 _ w_2_197) dJ6_bitCount_0f7a4_18 ?_
  refine lv_iand hx hb dJ6_bitCount_0f7a4_21 ?_
  refine lv_iadd hx hb dJ6_bitCount_0f7a4_22 ?_
  refine W_nmi (fun v2 => ?_)
  refine lv_istore_n (lv' := [(0, .int v2)]) hx hb dJ6_bitCount_0f7a4_23 rfl hl (by decide) rfl (fun ls hl => ?_)
  refine lv_iload_n hx hb dJ6_bitCount_0f7a4_24 rfl (lv_at hl 0 rfl) ?_
  refine lv_iload_n hx hb dJ6_bitCount_0f7a4_25 rfl (lv_at hl 0 rfl) ?_
  refine lv_iconst (v := 4) hx hb dJ6_bitCount_0f7a4_26 (by decide) ?_
  refine lv_iushr (v := (jushr v2 4)) hx hb dJ6_bitCount_0f7a4_27 rfl ?_
  refine lv_iadd hx hb dJ6_bitCount_0f7a4_28 ?_
  refine lv_ldcw hx hb (own := RJ6) C.1.2.2.2.1 (C.1.2.2.2.2 _ w_2_198) dJ6_bitCount_0f7a4_29 ?_
  refine lv_iand hx hb dJ6_bitCount_0f7a4_32 ?_
  refine W_nmi (fun v3 => ?_)
  refine lv_istore_n (lv' := [(0, .int v3)]) hx hb dJ6_bitCount_0f7a4_33 rfl hl (by decide) rfl (fun ls hl => ?_)
  refine lv_iload_n hx hb dJ6_bitCount_0f7a4_34 rfl (lv_at hl 0 rfl) ?_
  refine lv_iload_n hx hb dJ6_bitCount_0f7a4_35 rfl (lv_at hl 0 rfl) ?_
  refine lv_bipush (v := 8) hx hb dJ6_bitCount_0f7a4_36 (by decide) ?_
  refine lv_iushr (v := (jushr v3 8)) hx hb dJ6_bitCount_0f7a4_38 rfl ?_
  refine lv_iadd hx hb dJ6_bitCount_0f7a4_39 ?_
  refine W_nmi (fun v4 => ?_)
  refine lv_istore_n (lv' := [(0, .int v4)]) hx hb dJ6_bitCount_0f7a4_40 rfl hl (by decide) rfl (fun ls hl => ?_)
  refine lv_iload_n hx hb dJ6_bitCount_0f7a4_41 rfl (lv_at hl 0 rfl) ?_
  refine lv_iload_n hx hb dJ6_bitCount_0f7a4_42 rfl (lv_at hl 0 rfl) ?_
  refine lv_bipush (v := 16) hx hb dJ6_bitCount_0f7a4_43 (by decide) ?_
  refine lv_iushr (v := (jushr v4 16)) hx hb dJ6_bitCount_0f7a4_45 rfl ?_
  refine lv_iadd hx hb dJ6_bitCount_0f7a4_46 ?_
  refine W_nmi (fun v5 => ?_)
  refine lv_istore_n (lv' := [(0, .int v5)]) hx hb dJ6_bitCount_0f7a4_47 rfl hl (by decide) rfl (fun ls hl => ?_)
  refine lv_iload_n hx hb dJ6_bitCount_0f7a4_48 rfl (lv_at hl 0 rfl) ?_
  refine lv_bipush (v := 63) hx hb dJ6_bitCount_0f7a4_49 (by decide) ?_
  refine lv_iand hx hb dJ6_bitCount_0f7a4_51 ?_
  exact ke_i C hH hr (Nat.le_refl _) (Nat.le_refl _) rfl dJ6_bitCount_0f7a4_52
theorem kJ6_bitCount_0f7a4 (l : Launch) (E : KE) (ad : Nat → Nat) (M : KS) (a0 : Int32) : CT l yJ6_bitCount_0f7a4 cJ6_bitCount_0f7a4 1 (some .int) { frames := 0, cells := 0, slots := 0, locals := 0 } SK E ad [.int a0] M (fun sz (_ : Unit) => QI SK E ad sz (fJ6_bitCount_0f7a4 a0, M)) (some ()) := CT.pure (kJ6_bitCount_0f7a4_o l E ad M a0) fJ6_bitCount_0f7a4_s
def fJ13_bitCount_95d88_o (a0 : Int64) : Option (Int32) := nm ((a0 - ((jlushr a0 1) &&& 6148914691236517205))) fun v1 => nm (((v1 &&& 3689348814741910323) + ((jlushr v1 2) &&& 3689348814741910323))) fun v2 => nm (((v2 + (jlushr v2 4)) &&& 1085102592571150095)) fun v3 => nm ((v3 + (jlushr v3 8))) fun v4 => nm ((v4 + (jlushr v4 16))) fun v5 => nm ((v5 + (jlushr v5 32))) fun v6 => some ((Int64.toInt32 v6) &&& 127)
def fJ13_bitCount_95d88 (a0 : Int64) : Int32 := let v1 := (a0 - ((jlushr a0 1) &&& 6148914691236517205)); let v2 := ((v1 &&& 3689348814741910323) + ((jlushr v1 2) &&& 3689348814741910323)); let v3 := ((v2 + (jlushr v2 4)) &&& 1085102592571150095); let v4 := (v3 + (jlushr v3 8)); let v5 := (v4 + (jlushr v4 16)); let v6 := (v5 + (jlushr v5 32)); ((Int64.toInt32 v6) &&& 127)
theorem fJ13_bitCount_95d88_s {a0 : Int64} : fJ13_bitCount_95d88_o a0 = some (fJ13_bitCount_95d88 a0) := by
  unfold fJ13_bitCount_95d88_o fJ13_bitCount_95d88
  (repeat' split) <;> rfl
set_option maxHeartbeats 4000000 in
set_option maxRecDepth 100000 in
theorem kJ13_bitCount_95d88_o (l : Launch) (E : KE) (ad : Nat → Nat) (M : KS) (a0 : Int64) : CT l yJ13_bitCount_95d88 cJ13_bitCount_95d88 2 (some .int) { frames := 0, cells := 0, slots := 0, locals := 0 } SK E ad [.long a0] M (fun sz a => QI SK E ad sz (a, M)) (fJ13_bitCount_95d88_o a0) := by
  refine CT.ofW (by decide) (Nat.le_of_ble_eq_true rfl) (fun sz p e s m args below meth c C hr hH ls hl => ?_)
  have hx := C.1.1
  have hb := C.1.2.1
  have hl : lv_has ls 2 [(0, .long a0)] := hl
  unfold fJ13_bitCount_95d88_o
  refine lv_lload_n hx hb dJ13_bitCount_95d88_0 rfl (lv_at hl 0 rfl) ?_
  refine lv_lload_n hx hb dJ13_bitCount_95d88_1 rfl (lv_at hl 0 rfl) ?_
  refine lv_iconst (v := 1) hx hb dJ13_bitCount_95d88_2 (by decide) ?_
  refine lv_lushr (v := (jlushr a0 1)) hx hb dJ13_bitCount_95d88_3 rfl ?_
  refine lv_ldc2 hx hb (own := RJ13) C.1.2.2.2.1 (C.1.2.2.2.2 _ w_3_213) dJ13_bitCount_95d88_4 ?_
  refine lv_land hx hb dJ13_bitCount_95d88_7 ?_
  refine lv_lsub hx hb dJ13_bitCount_95d88_8 ?_
  refine W_nml (fun v1 => ?_)
  refine lv_lstore_n (lv' := [(0, .long v1)]) hx hb dJ13_bitCount_95d88_9 rfl hl (by decide) rfl (fun ls hl => ?_)
  refine lv_lload_n hx hb dJ13_bitCount_95d88_10 rfl (lv_at hl 0 rfl) ?_
  refine lv_ldc2 hx hb (own := RJ13) C.1.2.2.2.1 (C.1.2.2.2.2 _ w_3_214) dJ13_bitCount_95d88_11 ?_
  refine lv_land hx hb dJ13_bitCount_95d88_14 ?_
  refine lv_lload_n hx hb dJ13_bitCount_95d88_15 rfl (lv_at hl 0 rfl) ?_
  refine lv_iconst (v := 2) hx hb dJ13_bitCount_95d88_16 (by decide) ?_
  refine lv_lushr (v := (jlushr v1 2)) hx hb dJ13_bitCount_95d88_17 rfl ?_
  refine lv_ldc2 hx hb (own := RJ13) C.1.2.2.2.1 (C.1.2.2.2.2 _ w_3_214) dJ13_bitCount_95d88_18 ?_
  refine lv_land hx hb dJ13_bitCount_95d88_21 ?_
  refine lv_ladd hx hb dJ13_bitCount_95d88_22 ?_
  refine W_nml (fun v2 => ?_)
  refine lv_lstore_n (lv' := [(0, .long v2)]) hx hb dJ13_bitCount_95d88_23 rfl hl (by decide) rfl (fun ls hl => ?_)
  refine lv_lload_n hx hb dJ13_bitCount_95d88_24 rfl (lv_at hl 0 rfl) ?_
  refine lv_lload_n hx hb dJ13_bitCount_95d88_25 rfl (lv_at hl 0 rfl) ?_
  refine lv_iconst (v := 4) hx hb dJ13_bitCount_95d88_26 (by decide) ?_
  refine lv_lushr (v := (jlushr v2 4)) hx hb dJ13_bitCount_95d88_27 rfl ?_
  refine lv_ladd hx hb dJ13_bitCount_95d88_28 ?_
  refine lv_ldc2 hx hb (own := RJ13) C.1.2.2.2.1 (C.1.2.2.2.2 _ w_3_215) dJ13_bitCount_95d88_29 ?_
  refine lv_land hx hb dJ13_bitCount_95d88_32 ?_
  refine W_nml (fun v3 => ?_)
  refine lv_lstore_n (lv' := [(0, .long v3)]) hx hb dJ13_bitCount_95d88_33 rfl hl (by decide) rfl (fun ls hl => ?_)
  refine lv_lload_n hx hb dJ13_bitCount_95d88_34 rfl (lv_at hl 0 rfl) ?_
  refine lv_lload_n hx hb dJ13_bitCount_95d88_35 rfl (lv_at hl 0 rfl) ?_
  refine lv_bipush (v := 8) hx hb dJ13_bitCount_95d88_36 (by decide) ?_
  refine lv_lushr (v := (jlushr v3 8)) hx hb dJ13_bitCount_95d88_38 rfl ?_
  refine lv_ladd hx hb dJ13_bitCount_95d88_39 ?_
  refine W_nml (fun v4 => ?_)
  refine lv_lstore_n (lv' := [(0, .long v4)]) hx hb dJ13_bitCount_95d88_40 rfl hl (by decide) rfl (fun ls hl => ?_)
  refine lv_lload_n hx hb dJ13_bitCount_95d88_41 rfl (lv_at hl 0 rfl) ?_
  refine lv_lload_n hx hb dJ13_bitCount_95d88_42 rfl (lv_at hl 0 rfl) ?_
  refine lv_bipush (v := 16) hx hb dJ13_bitCount_95d88_43 (by decide) ?_
  refine lv_lushr (v := (jlushr v4 16)) hx hb dJ13_bitCount_95d88_45 rfl ?_
  refine lv_ladd hx hb dJ13_bitCount_95d88_46 ?_
  refine W_nml (fun v5 => ?_)
  refine lv_lstore_n (lv' := [(0, .long v5)]) hx hb dJ13_bitCount_95d88_47 rfl hl (by decide) rfl (fun ls hl => ?_)
  refine lv_lload_n hx hb dJ13_bitCount_95d88_48 rfl (lv_at hl 0 rfl) ?_
  refine lv_lload_n hx hb dJ13_bitCount_95d88_49 rfl (lv_at hl 0 rfl) ?_
  refine lv_bipush (v := 32) hx hb dJ13_bitCount_95d88_50 (by decide) ?_
  refine lv_lushr (v := (jlushr v5 32)) hx hb dJ13_bitCount_95d88_52 rfl ?_
  refine lv_ladd hx hb dJ13_bitCount_95d88_53 ?_
  refine W_nml (fun v6 => ?_)
  refine lv_lstore_n (lv' := [(0, .long v6)]) hx hb dJ13_bitCount_95d88_54 rfl hl (by decide) rfl (fun ls hl => ?_)
  refine lv_lload_n hx hb dJ13_bitCount_95d88_55 rfl (lv_at hl 0 rfl) ?_
  refine lv_l2i (v := (Int64.toInt32 v6)) hx hb dJ13_bitCount_95d88_56 rfl ?_
  refine lv_bipush (v := 127) hx hb dJ13_bitCount_95d88_57 (by decide) ?_
  refine lv_iand hx hb dJ13_bitCount_95d88_59 ?_
  exact ke_i C hH hr (Nat.le_refl _) (Nat.le_refl _) rfl dJ13_bitCount_95d88_60
theorem kJ13_bitCount_95d88 (l : Launch) (E : KE) (ad : Nat → Nat) (M : KS) (a0 : Int64) : CT l yJ13_bitCount_95d88 cJ13_bitCount_95d88 2 (some .int) { frames := 0, cells := 0, slots := 0, locals := 0 } SK E ad [.long a0] M (fun sz (_ : Unit) => QI SK E ad sz (fJ13_bitCount_95d88 a0, M)) (some ()) := CT.pure (kJ13_bitCount_95d88_o l E ad M a0) fJ13_bitCount_95d88_s
def fX9_isRelation_o (a0 : Int32) : Option (Int32) := (if a0 < 0 then some 0 else (if 6 ≤ a0 then some 0 else some 1))
def fX9_isRelation (a0 : Int32) : Int32 := (if a0 < 0 then 0 else (if 6 ≤ a0 then 0 else 1))
theorem fX9_isRelation_s {a0 : Int32} : fX9_isRelation_o a0 = some (fX9_isRelation a0) := by
  unfold fX9_isRelation_o fX9_isRelation
  (repeat' split) <;> rfl
set_option maxHeartbeats 4000000 in
set_option maxRecDepth 100000 in
theorem kX9_isRelation_o (l : Launch) (E : KE) (ad : Nat → Nat) (M : KS) (a0 : Int32) : CT l yX9_isRelation cX9_isRelation 1 (some .boolean) { frames := 0, cells := 0, slots := 0, locals := 0 } SK E ad [.int a0] M (fun sz a => QI SK E ad sz (a, M)) (fX9_isRelation_o a0) := by
  refine CT.ofW (by decide) (Nat.le_of_ble_eq_true rfl) (fun sz p e s m args below meth c C hr hH ls hl => ?_)
  have hx := C.1.1
  have hb := C.1.2.1
  have hl : lv_has ls 1 [(0, .int a0)] := hl
  unfold fX9_isRelation_o
  refine lv_iload_n hx hb dX9_isRelation_0 rfl (lv_at hl 0 rfl) ?_
  refine kb_if_lt (tgt := 14) hx hb dX9_isRelation_1 (by decide) (fun _ => ?_) (fun _ => ?_)
  · refine lv_iconst (v := 0) hx hb dX9_isRelation_14 (by decide) ?_
    exact ke_z C hH hr (Nat.le_refl _) (Nat.le_refl _) rfl (Or.inl rfl) dX9_isRelation_15
  · refine lv_iload_n hx hb dX9_isRelation_4 rfl (lv_at hl 0 rfl) ?_
    refine lv_bipush (v := 6) hx hb dX9_isRelation_5 (by decide) ?_
    refine kb_icmp_ge (tgt := 14) hx hb dX9_isRelation_7 (by decide) (fun _ => ?_) (fun _ => ?_)
    · refine lv_iconst (v := 0) hx hb dX9_isRelation_14 (by decide) ?_
      exact ke_z C hH hr (Nat.le_refl _) (Nat.le_refl _) rfl (Or.inl rfl) dX9_isRelation_15
    · refine lv_iconst (v := 1) hx hb dX9_isRelation_10 (by decide) ?_
      refine lv_goto (tgt := 15) hx hb dX9_isRelation_11 (by decide) ?_
      exact ke_z C hH hr (Nat.le_refl _) (Nat.le_refl _) rfl (Or.inr rfl) dX9_isRelation_15
theorem kX9_isRelation (l : Launch) (E : KE) (ad : Nat → Nat) (M : KS) (a0 : Int32) : CT l yX9_isRelation cX9_isRelation 1 (some .boolean) { frames := 0, cells := 0, slots := 0, locals := 0 } SK E ad [.int a0] M (fun sz (_ : Unit) => QI SK E ad sz (fX9_isRelation a0, M)) (some ()) := CT.pure (kX9_isRelation_o l E ad M a0) fX9_isRelation_s
def fX9_isPerson_o (a0 : Int32) : Option (Int32) := (if a0 < 0 then some 0 else (if 6 ≤ a0 then some 0 else some 1))
def fX9_isPerson (a0 : Int32) : Int32 := (if a0 < 0 then 0 else (if 6 ≤ a0 then 0 else 1))
theorem fX9_isPerson_s {a0 : Int32} : fX9_isPerson_o a0 = some (fX9_isPerson a0) := by
  unfold fX9_isPerson_o fX9_isPerson
  (repeat' split) <;> rfl
set_option maxHeartbeats 4000000 in
set_option maxRecDepth 100000 in
theorem kX9_isPerson_o (l : Launch) (E : KE) (ad : Nat → Nat) (M : KS) (a0 : Int32) : CT l yX9_isPerson cX9_isPerson 1 (some .boolean) { frames := 0, cells := 0, slots := 0, locals := 0 } SK E ad [.int a0] M (fun sz a => QI SK E ad sz (a, M)) (fX9_isPerson_o a0) := by
  refine CT.ofW (by decide) (Nat.le_of_ble_eq_true rfl) (fun sz p e s m args below meth c C hr hH ls hl => ?_)
  have hx := C.1.1
  have hb := C.1.2.1
  have hl : lv_has ls 1 [(0, .int a0)] := hl
  unfold fX9_isPerson_o
  refine lv_iload_n hx hb dX9_isPerson_0 rfl (lv_at hl 0 rfl) ?_
  refine kb_if_lt (tgt := 14) hx hb dX9_isPerson_1 (by decide) (fun _ => ?_) (fun _ => ?_)
  · refine lv_iconst (v := 0) hx hb dX9_isPerson_14 (by decide) ?_
    exact ke_z C hH hr (Nat.le_refl _) (Nat.le_refl _) rfl (Or.inl rfl) dX9_isPerson_15
  · refine lv_iload_n hx hb dX9_isPerson_4 rfl (lv_at hl 0 rfl) ?_
    refine lv_bipush (v := 6) hx hb dX9_isPerson_5 (by decide) ?_
    refine kb_icmp_ge (tgt := 14) hx hb dX9_isPerson_7 (by decide) (fun _ => ?_) (fun _ => ?_)
    · refine lv_iconst (v := 0) hx hb dX9_isPerson_14 (by decide) ?_
      exact ke_z C hH hr (Nat.le_refl _) (Nat.le_refl _) rfl (Or.inl rfl) dX9_isPerson_15
    · refine lv_iconst (v := 1) hx hb dX9_isPerson_10 (by decide) ?_
      refine lv_goto (tgt := 15) hx hb dX9_isPerson_11 (by decide) ?_
      exact ke_z C hH hr (Nat.le_refl _) (Nat.le_refl _) rfl (Or.inr rfl) dX9_isPerson_15
theorem kX9_isPerson (l : Launch) (E : KE) (ad : Nat → Nat) (M : KS) (a0 : Int32) : CT l yX9_isPerson cX9_isPerson 1 (some .boolean) { frames := 0, cells := 0, slots := 0, locals := 0 } SK E ad [.int a0] M (fun sz (_ : Unit) => QI SK E ad sz (fX9_isPerson a0, M)) (some ()) := CT.pure (kX9_isPerson_o l E ad M a0) fX9_isPerson_s
def fX9_isFact_o (a0 : Int32) (a1 : Int32) (a2 : Int32) : Option (Int32) := (if (fX9_isRelation a0) = 0 then some 0 else (if (fX9_isPerson a1) = 0 then some 0 else (if (fX9_isPerson a2) = 0 then some 0 else some 1)))
def fX9_isFact (a0 : Int32) (a1 : Int32) (a2 : Int32) : Int32 := (if (fX9_isRelation a0) = 0 then 0 else (if (fX9_isPerson a1) = 0 then 0 else (if (fX9_isPerson a2) = 0 then 0 else 1)))
theorem fX9_isFact_s {a0 : Int32} {a1 : Int32} {a2 : Int32} : fX9_isFact_o a0 a1 a2 = some (fX9_isFact a0 a1 a2) := by
  unfold fX9_isFact_o fX9_isFact
  (repeat' split) <;> rfl
set_option maxHeartbeats 4000000 in
set_option maxRecDepth 100000 in
theorem kX9_isFact_o (l : Launch) (E : KE) (ad : Nat → Nat) (M : KS) (a0 : Int32) (a1 : Int32) (a2 : Int32) : CT l yX9_isFact cX9_isFact 3 (some .boolean) { frames := 1, cells := 0, slots := 0, locals := 20 } SK E ad [.int a0, .int a1, .int a2] M (fun sz a => QI SK E ad sz (a, M)) (fX9_isFact_o a0 a1 a2) := by
  refine CT.ofW (by decide) (Nat.le_of_ble_eq_true rfl) (fun sz p e s m args below meth c C hr hH ls hl => ?_)
  have hx := C.1.1
  have hb := C.1.2.1
  have hl : lv_has ls 3 [(0, .int a0), (1, .int a1), (2, .int a2)] := hl
  unfold fX9_isFact_o
  refine lv_iload_n hx hb dX9_isFact_0 rfl (lv_at hl 0 rfl) ?_
  refine kg_ip C hH (kc_S C hH w_2_234 w_st_yX9_isRelation rfl lc_yX9_isRelation (kX9_isRelation l E ad M a0) (As := [.int a0]) rfl dX9_isFact_1 rfl hl.1 (Nat.le_of_ble_eq_true rfl) ⟨Nat.le_of_ble_eq_true rfl, Nat.le_of_ble_eq_true rfl⟩ ⟨Nat.le_of_ble_eq_true rfl, Nat.le_of_ble_eq_true rfl⟩) ⟨rfl, rfl⟩ (fun H locs hH => ?_)
  refine kb_if_eq (tgt := 25) hx hb dX9_isFact_4 (by decide) (fun _ => ?_) (fun _ => ?_)
  · refine lv_iconst (v := 0) hx hb dX9_isFact_25 (by decide) ?_
    exact ke_z C hH hr (Nat.le_refl _) (Nat.le_refl _) rfl (Or.inl rfl) dX9_isFact_26
  · refine lv_iload_n hx hb dX9_isFact_7 rfl (lv_at hl 1 rfl) ?_
    refine kg_ip C hH (kc_S C hH w_2_237 w_st_yX9_isPerson rfl lc_yX9_isPerson (kX9_isPerson l E ad M a1) (As := [.int a1]) rfl dX9_isFact_8 rfl hl.1 (Nat.le_of_ble_eq_true rfl) ⟨Nat.le_of_ble_eq_true rfl, Nat.le_of_ble_eq_true rfl⟩ ⟨Nat.le_of_ble_eq_true rfl, Nat.le_of_ble_eq_true rfl⟩) ⟨rfl, rfl⟩ (fun H locs hH => ?_)
    refine kb_if_eq (tgt := 25) hx hb dX9_isFact_11 (by decide) (fun _ => ?_) (fun _ => ?_)
    · refine lv_iconst (v := 0) hx hb dX9_isFact_25 (by decide) ?_
      exact ke_z C hH hr (Nat.le_refl _) (Nat.le_refl _) rfl (Or.inl rfl) dX9_isFact_26
    · refine lv_iload_n hx hb dX9_isFact_14 rfl (lv_at hl 2 rfl) ?_
      refine kg_ip C hH (kc_S C hH w_2_237 w_st_yX9_isPerson rfl lc_yX9_isPerson (kX9_isPerson l E ad M a2) (As := [.int a2]) rfl dX9_isFact_15 rfl hl.1 (Nat.le_of_ble_eq_true rfl) ⟨Nat.le_of_ble_eq_true rfl, Nat.le_of_ble_eq_true rfl⟩ ⟨Nat.le_of_ble_eq_true rfl, Nat.le_of_ble_eq_true rfl⟩) ⟨rfl, rfl⟩ (fun H locs hH => ?_)
      refine kb_if_eq (tgt := 25) hx hb dX9_isFact_18 (by decide) (fun _ => ?_) (fun _ => ?_)
      · refine lv_iconst (v := 0) hx hb dX9_isFact_25 (by decide) ?_
        exact ke_z C hH hr (Nat.le_refl _) (Nat.le_refl _) rfl (Or.inl rfl) dX9_isFact_26
      · refine lv_iconst (v := 1) hx hb dX9_isFact_21 (by decide) ?_
        refine lv_goto (tgt := 26) hx hb dX9_isFact_22 (by decide) ?_
        exact ke_z C hH hr (Nat.le_refl _) (Nat.le_refl _) rfl (Or.inr rfl) dX9_isFact_26
theorem kX9_isFact (l : Launch) (E : KE) (ad : Nat → Nat) (M : KS) (a0 : Int32) (a1 : Int32) (a2 : Int32) : CT l yX9_isFact cX9_isFact 3 (some .boolean) { frames := 1, cells := 0, slots := 0, locals := 20 } SK E ad [.int a0, .int a1, .int a2] M (fun sz (_ : Unit) => QI SK E ad sz (fX9_isFact a0 a1 a2, M)) (some ()) := CT.pure (kX9_isFact_o l E ad M a0 a1 a2) fX9_isFact_s
theorem fX5_marked_ge {x : Int32} (h : inb x 9) (g : (9 : Int32) ≤ x) : False := by
  refine h (Or.inr ?_)
  have q := Int32.le_iff_toInt_le.mp g
  have q9 : (9 : Int) ≤ x.toInt := q
  show 9 ≤ x.toInt.toNat
  omega
def fX5_marked (M : KS) : Option (KS) := if inb (M.1 113 1) 9 then some M else none
set_option maxHeartbeats 4000000 in
set_option maxRecDepth 100000 in
theorem kX5_marked (l : Launch) (E : KE) (ad : Nat → Nat) (M : KS)  : CT l yX5_marked cX5_marked 1 (some (.object "KinFacts$State")) { frames := 0, cells := 0, slots := 0, locals := 0 } SK E ad [.ref (ad 113)] M (QR SK E ad (iS (2 + (M.1 113 1).toNatClampNeg))) (fX5_marked M) := by
  refine CT.ofW (by decide) (Nat.le_of_ble_eq_true rfl) (fun sz p e s m args below meth c C hr hH ls hl => ?_)
  have hx := C.1.1
  have hb := C.1.2.1
  have hl : lv_has ls 1 [(0, .ref (ad 113))] := hl
  unfold fX5_marked
  refine W_if (fun hi9 => ?_)
  refine lv_aload_n hx hb dX5_marked_0 rfl (lv_at hl 0 rfl) ?_
  refine k_get C hH fd_X5_17 oP (k_int (M := M) (ad := ad) nP1) dX5_marked_1 ?_
  refine lv_if_lt (tgt := 31) hx hb dX5_marked_4 (by decide) (fun h9 => absurd (Or.inl h9) hi9) (fun _ => ?_)
  refine lv_aload_n hx hb dX5_marked_7 rfl (lv_at hl 0 rfl) ?_
  refine k_get C hH fd_X5_17 oP (k_int (M := M) (ad := ad) nP1) dX5_marked_8 ?_
  refine lv_aload_n hx hb dX5_marked_11 rfl (lv_at hl 0 rfl) ?_
  refine k_get C hH fd_X5_11 oP (k_ref (M := M) (ad := ad) rP0) dX5_marked_12 ?_
  refine k_qlen C hH aP0 (v := 9) rfl dX5_marked_15 ?_
  refine lv_icmp_ge (tgt := 31) hx hb dX5_marked_16 (by decide) (fun h9 => absurd (fX5_marked_ge hi9 h9) id) (fun _ => ?_)
  refine lv_aload_n hx hb dX5_marked_19 rfl (lv_at hl 0 rfl) ?_
  refine k_get C hH fd_X5_11 oP (k_ref (M := M) (ad := ad) rP0) dX5_marked_20 ?_
  refine lv_aload_n hx hb dX5_marked_23 rfl (lv_at hl 0 rfl) ?_
  refine k_get C hH fd_X5_17 oP (k_int (M := M) (ad := ad) nP1) dX5_marked_24 ?_
  refine W_q (if_pos hi9).symm ?_
  refine k_aald C hH aP0 qP dX5_marked_27 (fun hi1 => ?_)
  refine lv_goto (tgt := 32) hx hb dX5_marked_28 (by decide) ?_
  exact ke_r C hH hr (Or.inl ⟨_, rfl⟩) (Nat.zero_le _) (Nat.zero_le _) rfl dX5_marked_32
def fX2_copy_X2 (M3 : KS) : Option (KS) := some M3
theorem fX2_copy_X2_u {M3 : KS} : fX2_copy_X2 M3 = some M3 := rfl
def fX2_copy_L2 (o0 : Nat) (o1 : Nat) (rec2 : (Int32 × KS) → Option (KS)) (k2 : (KS) → Option (KS)) (x : Int32 × KS) : Option (KS) := match x with | (v1, M2) => (if 36 ≤ v1 then k2 M2 else if inb v1 36 then if inb v1 36 then nm (kset M2 (iFt o0) v1.toNatClampNeg (M2.1 (iFt o1) v1.toNatClampNeg)) fun M4 => if inb v1 36 then if inb v1 36 then nm (kset M4 (iFf o0) v1.toNatClampNeg (M4.1 (iFf o1) v1.toNatClampNeg)) fun M5 => nm (v1 + 1) fun v6 => rec2 (v6, M5) else none else none else none else none)
theorem fX2_copy_L2_u {o0 : Nat} {o1 : Nat} {rec2 : (Int32 × KS) → Option (KS)} {k2 : (KS) → Option (KS)} {v1 : Int32} {M2 : KS} : fX2_copy_L2 o0 o1 rec2 k2 (v1, M2) = (if 36 ≤ v1 then k2 M2 else if inb v1 36 then if inb v1 36 then nm (kset M2 (iFt o0) v1.toNatClampNeg (M2.1 (iFt o1) v1.toNatClampNeg)) fun M4 => if inb v1 36 then if inb v1 36 then nm (kset M4 (iFf o0) v1.toNatClampNeg (M4.1 (iFf o1) v1.toNatClampNeg)) fun M5 => nm (v1 + 1) fun v6 => rec2 (v6, M5) else none else none else none else none) := rfl
def fX2_copy (M : KS) (o0 : Nat) (o1 : Nat) : Option (KS) := lp (fX2_copy_L2 o0 o1) (fX2_copy_X2) 1000000 (0, M)
set_option maxHeartbeats 4000000 in
set_option maxRecDepth 100000 in
theorem kX2_copy (l : Launch) (E : KE) (ad : Nat → Nat) (M : KS) (o0 : Nat) (ho0 : o0 < 15) (o1 : Nat) (ho1 : o1 < 15) : CT l yX2_copy cX2_copy 3 none { frames := 0, cells := 0, slots := 0, locals := 0 } SK E ad [.ref (ad (iF o0)), .ref (ad (iF o1))] M (QV SK E ad) (fX2_copy M o0 o1) := by
  refine CT.ofW (by decide) (Nat.le_of_ble_eq_true rfl) (fun sz p e s m args below meth c C hr hH ls hl => ?_)
  have hx := C.1.1
  have hb := C.1.2.1
  have hl : lv_has ls 3 [(0, .ref (ad (iF o0))), (1, .ref (ad (iF o1)))] := hl
  unfold fX2_copy
  refine lv_iconst (v := 0) hx hb dX2_copy_0 (by decide) ?_
  refine lv_istore_n (lv' := [(2, .int 0), (0, .ref (ad (iF o0))), (1, .ref (ad (iF o1)))]) hx hb dX2_copy_1 rfl hl (by decide) rfl (fun ls hl => ?_)
  refine W_lp (fun (x : Int32 × KS) H locs => KH SK E ad sz x.2 s.heap H locs) (fun x ls => lv_has ls 3 [(0, .ref (ad (iF o0))), (1, .ref (ad (iF o1))), (2, .int x.1)]) (fun _ ls => F0 m 2 ls []) (fun (x : KS) H locs => KH SK E ad sz x s.heap H locs) (fun x ls => lv_has ls 3 []) (fun _ ls => F0 m 41 ls []) ?_ ?_ hH (lv_sub hl [1, 2, 0] rfl)
  · intro M3 H locs ls hH hl
    have hH : KH SK E ad sz M3 s.heap H locs := hH
    have hl : lv_has ls 3 [] := hl
    refine W_q fX2_copy_X2_u ?_
    exact ke_v C hH hr (Nat.le_refl _) (Nat.le_refl _) rfl dX2_copy_41
  · intro rec2 k2 hrec2 hk2 ⟨v1, M2⟩ H locs ls hH hl
    have hH : KH SK E ad sz M2 s.heap H locs := hH
    have hl : lv_has ls 3 [(0, .ref (ad (iF o0))), (1, .ref (ad (iF o1))), (2, .int v1)] := hl
    refine W_q fX2_copy_L2_u ?_
    refine lv_iload_n hx hb dX2_copy_2 rfl (lv_at hl 2 rfl) ?_
    refine lv_aload_n hx hb dX2_copy_3 rfl (lv_at hl 0 rfl) ?_
    refine k_get C hH fd_X2_9 (oF (f := o0) ho0) (k_ref (M := M2) (ad := ad) (rF0 (f := o0) ho0)) dX2_copy_4 ?_
    refine k_ilen C hH (aF0 (f := o0) ho0) (v := 36) rfl dX2_copy_7 ?_
    refine kb_icmp_ge (tgt := 41) hx hb dX2_copy_8 (by decide) (fun _ => ?_) (fun _ => ?_)
    · exact hk2 M2 _ _ _ hH (lv_sub hl [] rfl)
    · refine lv_aload_n hx hb dX2_copy_11 rfl (lv_at hl 0 rfl) ?_
      refine k_get C hH fd_X2_9 (oF (f := o0) ho0) (k_ref (M := M2) (ad := ad) (rF0 (f := o0) ho0)) dX2_copy_12 ?_
      refine lv_iload_n hx hb dX2_copy_15 rfl (lv_at hl 2 rfl) ?_
      refine lv_aload_n hx hb dX2_copy_16 rfl (lv_at hl 1 rfl) ?_
      refine k_get C hH fd_X2_9 (oF (f := o1) ho1) (k_ref (M := M2) (ad := ad) (rF0 (f := o1) ho1)) dX2_copy_17 ?_
      refine lv_iload_n hx hb dX2_copy_20 rfl (lv_at hl 2 rfl) ?_
      refine k_iald C hH (aF0 (f := o1) ho1) dX2_copy_21 ?_
      refine k_iast C hH (aF0 (f := o0) ho0) dX2_copy_22 (fun M4 H locs hH => ?_)
      refine lv_aload_n hx hb dX2_copy_23 rfl (lv_at hl 0 rfl) ?_
      refine k_get C hH fd_X2_15 (oF (f := o0) ho0) (k_ref (M := M4) (ad := ad) (rF1 (f := o0) ho0)) dX2_copy_24 ?_
      refine lv_iload_n hx hb dX2_copy_27 rfl (lv_at hl 2 rfl) ?_
      refine lv_aload_n hx hb dX2_copy_28 rfl (lv_at hl 1 rfl) ?_
      refine k_get C hH fd_X2_15 (oF (f := o1) ho1) (k_ref (M := M4) (ad := ad) (rF1 (f := o1) ho1)) dX2_copy_29 ?_
      refine lv_iload_n hx hb dX2_copy_32 rfl (lv_at hl 2 rfl) ?_
      refine k_iald C hH (aF1 (f := o1) ho1) dX2_copy_33 ?_
      refine k_iast C hH (aF1 (f := o0) ho0) dX2_copy_34 (fun M5 H locs hH => ?_)
      refine W_nm (fun v6 ev6 => ?_)
      refine lv_iinc (v := v6) (lv' := [(2, .int v6), (0, .ref (ad (iF o0))), (1, .ref (ad (iF o1)))]) hx hb dX2_copy_35 hl (k := 2) rfl (by rw [ev6]; rfl) (by decide) rfl (fun ls hl => ?_)
      refine lv_goto (tgt := 2) hx hb dX2_copy_38 (by decide) ?_
      exact hrec2 (v6, M5) _ _ _ hH (lv_sub hl [1, 2, 0] rfl)
def fX6_copy_X51 (M7 : KS) : Option (KS) := some M7
theorem fX6_copy_X51_u {M7 : KS} : fX6_copy_X51 M7 = some M7 := rfl
def fX6_copy_L51 (o0 : Nat) (o1 : Nat) (rec51 : (Int32 × KS) → Option (KS)) (k51 : (KS) → Option (KS)) (x : Int32 × KS) : Option (KS) := match x with | (v5, M6) => (if 33 ≤ v5 then k51 M6 else if inb v5 33 then if inb v5 33 then nm (kset M6 (iRc o0) v5.toNatClampNeg (M6.1 (iRc o1) v5.toNatClampNeg)) fun M8 => nm (v5 + 1) fun v9 => rec51 (v9, M8) else none else none)
theorem fX6_copy_L51_u {o0 : Nat} {o1 : Nat} {rec51 : (Int32 × KS) → Option (KS)} {k51 : (KS) → Option (KS)} {v5 : Int32} {M6 : KS} : fX6_copy_L51 o0 o1 rec51 k51 (v5, M6) = (if 33 ≤ v5 then k51 M6 else if inb v5 33 then if inb v5 33 then nm (kset M6 (iRc o0) v5.toNatClampNeg (M6.1 (iRc o1) v5.toNatClampNeg)) fun M8 => nm (v5 + 1) fun v9 => rec51 (v9, M8) else none else none) := rfl
def fX6_copy_X10 (o0 : Nat) (o1 : Nat) (M4 : KS) : Option (KS) := lp (fX6_copy_L51 o0 o1) (fX6_copy_X51) 1000000 (0, M4)
theorem fX6_copy_X10_u {o0 : Nat} {o1 : Nat} {M4 : KS} : fX6_copy_X10 o0 o1 M4 = lp (fX6_copy_L51 o0 o1) (fX6_copy_X51) 1000000 (0, M4) := rfl
def fX6_copy_L10 (o0 : Nat) (o1 : Nat) (rec10 : (Int32 × KS) → Option (KS)) (k10 : (KS) → Option (KS)) (x : Int32 × KS) : Option (KS) := match x with | (v2, M3) => (if 11 ≤ v2 then k10 M3 else if inb v2 11 then if inb v2 11 then nm (kset M3 (iRh o0) v2.toNatClampNeg (M3.1 (iRh o1) v2.toNatClampNeg)) fun M10 => if inb v2 11 then if inb v2 11 then nm (kset M10 (iRa o0) v2.toNatClampNeg (M10.1 (iRa o1) v2.toNatClampNeg)) fun M11 => nm (v2 + 1) fun v12 => rec10 (v12, M11) else none else none else none else none)
theorem fX6_copy_L10_u {o0 : Nat} {o1 : Nat} {rec10 : (Int32 × KS) → Option (KS)} {k10 : (KS) → Option (KS)} {v2 : Int32} {M3 : KS} : fX6_copy_L10 o0 o1 rec10 k10 (v2, M3) = (if 11 ≤ v2 then k10 M3 else if inb v2 11 then if inb v2 11 then nm (kset M3 (iRh o0) v2.toNatClampNeg (M3.1 (iRh o1) v2.toNatClampNeg)) fun M10 => if inb v2 11 then if inb v2 11 then nm (kset M10 (iRa o0) v2.toNatClampNeg (M10.1 (iRa o1) v2.toNatClampNeg)) fun M11 => nm (v2 + 1) fun v12 => rec10 (v12, M11) else none else none else none else none) := rfl
def fX6_copy (M : KS) (o0 : Nat) (o1 : Nat) : Option (KS) := nm (kset M (iR o0) 3 (M.1 (iR o1) 3)) fun M1 => lp (fX6_copy_L10 o0 o1) (fX6_copy_X10 o0 o1) 1000000 (0, M1)
set_option maxHeartbeats 4000000 in
set_option maxRecDepth 100000 in
theorem kX6_copy (l : Launch) (E : KE) (ad : Nat → Nat) (M : KS) (o0 : Nat) (ho0 : o0 < 11) (o1 : Nat) (ho1 : o1 < 11) : CT l yX6_copy cX6_copy 3 none { frames := 0, cells := 0, slots := 0, locals := 0 } SK E ad [.ref (ad (iR o0)), .ref (ad (iR o1))] M (QV SK E ad) (fX6_copy M o0 o1) := by
  refine CT.ofW (by decide) (Nat.le_of_ble_eq_true rfl) (fun sz p e s m args below meth c C hr hH ls hl => ?_)
  have hx := C.1.1
  have hb := C.1.2.1
  have hl : lv_has ls 3 [(0, .ref (ad (iR o0))), (1, .ref (ad (iR o1)))] := hl
  unfold fX6_copy
  refine lv_aload_n hx hb dX6_copy_0 rfl (lv_at hl 0 rfl) ?_
  refine lv_aload_n hx hb dX6_copy_1 rfl (lv_at hl 1 rfl) ?_
  refine k_get C hH fd_X6_21 (oR (f := o1) ho1) (k_int (M := M) (ad := ad) (nR3 (f := o1) ho1)) dX6_copy_2 ?_
  refine k_put1 C hH fd_X6_21 fw_X6_3 (oR (f := o0) ho0) (nR3 (f := o0) ho0) rfl rfl dX6_copy_5 (fun M1 H locs hH => ?_)
  refine lv_iconst (v := 0) hx hb dX6_copy_8 (by decide) ?_
  refine lv_istore_n (lv' := [(2, .int 0), (0, .ref (ad (iR o0))), (1, .ref (ad (iR o1)))]) hx hb dX6_copy_9 rfl hl (by decide) rfl (fun ls hl => ?_)
  refine W_lp (fun (x : Int32 × KS) H locs => KH SK E ad sz x.2 s.heap H locs) (fun x ls => lv_has ls 3 [(0, .ref (ad (iR o0))), (1, .ref (ad (iR o1))), (2, .int x.1)]) (fun _ ls => F0 m 10 ls []) (fun (x : KS) H locs => KH SK E ad sz x s.heap H locs) (fun x ls => lv_has ls 3 [(0, .ref (ad (iR o0))), (1, .ref (ad (iR o1)))]) (fun _ ls => F0 m 49 ls []) ?_ ?_ hH (lv_sub hl [1, 2, 0] rfl)
  · intro M4 H locs ls hH hl
    have hH : KH SK E ad sz M4 s.heap H locs := hH
    have hl : lv_has ls 3 [(0, .ref (ad (iR o0))), (1, .ref (ad (iR o1)))] := hl
    refine W_q fX6_copy_X10_u ?_
    refine lv_iconst (v := 0) hx hb dX6_copy_49 (by decide) ?_
    refine lv_istore_n (lv' := [(2, .int 0), (0, .ref (ad (iR o0))), (1, .ref (ad (iR o1)))]) hx hb dX6_copy_50 rfl hl (by decide) rfl (fun ls hl => ?_)
    refine W_lp (fun (x : Int32 × KS) H locs => KH SK E ad sz x.2 s.heap H locs) (fun x ls => lv_has ls 3 [(0, .ref (ad (iR o0))), (1, .ref (ad (iR o1))), (2, .int x.1)]) (fun _ ls => F0 m 51 ls []) (fun (x : KS) H locs => KH SK E ad sz x s.heap H locs) (fun x ls => lv_has ls 3 []) (fun _ ls => F0 m 78 ls []) ?_ ?_ hH (lv_sub hl [1, 2, 0] rfl)
    · intro M7 H locs ls hH hl
      have hH : KH SK E ad sz M7 s.heap H locs := hH
      have hl : lv_has ls 3 [] := hl
      refine W_q fX6_copy_X51_u ?_
      exact ke_v C hH hr (Nat.le_refl _) (Nat.le_refl _) rfl dX6_copy_78
    · intro rec51 k51 hrec51 hk51 ⟨v5, M6⟩ H locs ls hH hl
      have hH : KH SK E ad sz M6 s.heap H locs := hH
      have hl : lv_has ls 3 [(0, .ref (ad (iR o0))), (1, .ref (ad (iR o1))), (2, .int v5)] := hl
      refine W_q fX6_copy_L51_u ?_
      refine lv_iload_n hx hb dX6_copy_51 rfl (lv_at hl 2 rfl) ?_
      refine lv_aload_n hx hb dX6_copy_52 rfl (lv_at hl 0 rfl) ?_
      refine k_get C hH fd_X6_15 (oR (f := o0) ho0) (k_ref (M := M6) (ad := ad) (rR1 (f := o0) ho0)) dX6_copy_53 ?_
      refine k_ilen C hH (aR1 (f := o0) ho0) (v := 33) rfl dX6_copy_56 ?_
      refine kb_icmp_ge (tgt := 78) hx hb dX6_copy_57 (by decide) (fun _ => ?_) (fun _ => ?_)
      · exact hk51 M6 _ _ _ hH (lv_sub hl [] rfl)
      · refine lv_aload_n hx hb dX6_copy_60 rfl (lv_at hl 0 rfl) ?_
        refine k_get C hH fd_X6_15 (oR (f := o0) ho0) (k_ref (M := M6) (ad := ad) (rR1 (f := o0) ho0)) dX6_copy_61 ?_
        refine lv_iload_n hx hb dX6_copy_64 rfl (lv_at hl 2 rfl) ?_
        refine lv_aload_n hx hb dX6_copy_65 rfl (lv_at hl 1 rfl) ?_
        refine k_get C hH fd_X6_15 (oR (f := o1) ho1) (k_ref (M := M6) (ad := ad) (rR1 (f := o1) ho1)) dX6_copy_66 ?_
        refine lv_iload_n hx hb dX6_copy_69 rfl (lv_at hl 2 rfl) ?_
        refine k_iald C hH (aR1 (f := o1) ho1) dX6_copy_70 ?_
        refine k_iast C hH (aR1 (f := o0) ho0) dX6_copy_71 (fun M8 H locs hH => ?_)
        refine W_nm (fun v9 ev9 => ?_)
        refine lv_iinc (v := v9) (lv' := [(2, .int v9), (0, .ref (ad (iR o0))), (1, .ref (ad (iR o1)))]) hx hb dX6_copy_72 hl (k := 2) rfl (by rw [ev9]; rfl) (by decide) rfl (fun ls hl => ?_)
        refine lv_goto (tgt := 51) hx hb dX6_copy_75 (by decide) ?_
        exact hrec51 (v9, M8) _ _ _ hH (lv_sub hl [1, 2, 0] rfl)
  · intro rec10 k10 hrec10 hk10 ⟨v2, M3⟩ H locs ls hH hl
    have hH : KH SK E ad sz M3 s.heap H locs := hH
    have hl : lv_has ls 3 [(0, .ref (ad (iR o0))), (1, .ref (ad (iR o1))), (2, .int v2)] := hl
    refine W_q fX6_copy_L10_u ?_
    refine lv_iload_n hx hb dX6_copy_10 rfl (lv_at hl 2 rfl) ?_
    refine lv_aload_n hx hb dX6_copy_11 rfl (lv_at hl 0 rfl) ?_
    refine k_get C hH fd_X6_9 (oR (f := o0) ho0) (k_ref (M := M3) (ad := ad) (rR0 (f := o0) ho0)) dX6_copy_12 ?_
    refine k_ilen C hH (aR0 (f := o0) ho0) (v := 11) rfl dX6_copy_15 ?_
    refine kb_icmp_ge (tgt := 49) hx hb dX6_copy_16 (by decide) (fun _ => ?_) (fun _ => ?_)
    · exact hk10 M3 _ _ _ hH (lv_sub hl [0, 1] rfl)
    · refine lv_aload_n hx hb dX6_copy_19 rfl (lv_at hl 0 rfl) ?_
      refine k_get C hH fd_X6_9 (oR (f := o0) ho0) (k_ref (M := M3) (ad := ad) (rR0 (f := o0) ho0)) dX6_copy_20 ?_
      refine lv_iload_n hx hb dX6_copy_23 rfl (lv_at hl 2 rfl) ?_
      refine lv_aload_n hx hb dX6_copy_24 rfl (lv_at hl 1 rfl) ?_
      refine k_get C hH fd_X6_9 (oR (f := o1) ho1) (k_ref (M := M3) (ad := ad) (rR0 (f := o1) ho1)) dX6_copy_25 ?_
      refine lv_iload_n hx hb dX6_copy_28 rfl (lv_at hl 2 rfl) ?_
      refine k_iald C hH (aR0 (f := o1) ho1) dX6_copy_29 ?_
      refine k_iast C hH (aR0 (f := o0) ho0) dX6_copy_30 (fun M10 H locs hH => ?_)
      refine lv_aload_n hx hb dX6_copy_31 rfl (lv_at hl 0 rfl) ?_
      refine k_get C hH fd_X6_18 (oR (f := o0) ho0) (k_ref (M := M10) (ad := ad) (rR2 (f := o0) ho0)) dX6_copy_32 ?_
      refine lv_iload_n hx hb dX6_copy_35 rfl (lv_at hl 2 rfl) ?_
      refine lv_aload_n hx hb dX6_copy_36 rfl (lv_at hl 1 rfl) ?_
      refine k_get C hH fd_X6_18 (oR (f := o1) ho1) (k_ref (M := M10) (ad := ad) (rR2 (f := o1) ho1)) dX6_copy_37 ?_
      refine lv_iload_n hx hb dX6_copy_40 rfl (lv_at hl 2 rfl) ?_
      refine k_iald C hH (aR2 (f := o1) ho1) dX6_copy_41 ?_
      refine k_iast C hH (aR2 (f := o0) ho0) dX6_copy_42 (fun M11 H locs hH => ?_)
      refine W_nm (fun v12 ev12 => ?_)
      refine lv_iinc (v := v12) (lv' := [(2, .int v12), (0, .ref (ad (iR o0))), (1, .ref (ad (iR o1)))]) hx hb dX6_copy_43 hl (k := 2) rfl (by rw [ev12]; rfl) (by decide) rfl (fun ls hl => ?_)
      refine lv_goto (tgt := 10) hx hb dX6_copy_46 (by decide) ?_
      exact hrec10 (v12, M11) _ _ _ hH (lv_sub hl [1, 2, 0] rfl)
def fX7_copy (M : KS) (o0 : Nat) (o1 : Nat) : Option (KS) := (fX2_copy M o0 o1).bind fun M1 => (fX6_copy M1 o0 o1).bind fun M2 => some M2
set_option maxHeartbeats 4000000 in
set_option maxRecDepth 100000 in
theorem kX7_copy (l : Launch) (E : KE) (ad : Nat → Nat) (M : KS) (o0 : Nat) (ho0 : o0 < 11) (o1 : Nat) (ho1 : o1 < 11) : CT l yX7_copy cX7_copy 2 none { frames := 1, cells := 0, slots := 0, locals := 22 } SK E ad [.ref (ad (iS o0)), .ref (ad (iS o1))] M (QV SK E ad) (fX7_copy M o0 o1) := by
  refine CT.ofW (by decide) (Nat.le_of_ble_eq_true rfl) (fun sz p e s m args below meth c C hr hH ls hl => ?_)
  have hx := C.1.1
  have hb := C.1.2.1
  have hl : lv_has ls 2 [(0, .ref (ad (iS o0))), (1, .ref (ad (iS o1)))] := hl
  unfold fX7_copy
  refine lv_aload_n hx hb dX7_copy_0 rfl (lv_at hl 0 rfl) ?_
  refine k_get C hH fd_X7_10 (oS (f := o0) ho0) (k_ref (M := M) (ad := ad) (rS0 (f := o0) ho0)) dX7_copy_1 ?_
  refine lv_aload_n hx hb dX7_copy_4 rfl (lv_at hl 1 rfl) ?_
  refine k_get C hH fd_X7_10 (oS (f := o1) ho1) (k_ref (M := M) (ad := ad) (rS0 (f := o1) ho1)) dX7_copy_5 ?_
  refine kg_v C hH (kc_V C hH w_2_212 lc_yX2_copy li_yX2_copy (oF (f := o0) (Nat.lt_of_lt_of_le ho0 (by decide))) (kX2_copy l E ad M o0 (Nat.lt_of_lt_of_le ho0 (by decide)) o1 (Nat.lt_of_lt_of_le ho1 (by decide))) (As := [.ref (ad (iF o1))]) rfl dX7_copy_8 rfl hl.1 (Nat.le_of_ble_eq_true rfl) ⟨Nat.le_of_ble_eq_true rfl, Nat.le_of_ble_eq_true rfl⟩ ⟨Nat.le_of_ble_eq_true rfl, Nat.le_of_ble_eq_true rfl⟩) ⟨rfl, rfl⟩ (fun M1 H locs hH => ?_)
  refine lv_aload_n hx hb dX7_copy_11 rfl (lv_at hl 0 rfl) ?_
  refine k_get C hH fd_X7_19 (oS (f := o0) ho0) (k_ref (M := M1) (ad := ad) (rS1 (f := o0) ho0)) dX7_copy_12 ?_
  refine lv_aload_n hx hb dX7_copy_15 rfl (lv_at hl 1 rfl) ?_
  refine k_get C hH fd_X7_19 (oS (f := o1) ho1) (k_ref (M := M1) (ad := ad) (rS1 (f := o1) ho1)) dX7_copy_16 ?_
  refine kg_v C hH (kc_V C hH w_2_213 lc_yX6_copy li_yX6_copy (oR (f := o0) ho0) (kX6_copy l E ad M1 o0 ho0 o1 ho1) (As := [.ref (ad (iR o1))]) rfl dX7_copy_19 rfl hl.1 (Nat.le_of_ble_eq_true rfl) ⟨Nat.le_of_ble_eq_true rfl, Nat.le_of_ble_eq_true rfl⟩ ⟨Nat.le_of_ble_eq_true rfl, Nat.le_of_ble_eq_true rfl⟩) ⟨rfl, rfl⟩ (fun M2 H locs hH => ?_)
  exact ke_v C hH hr (Nat.le_refl _) (Nat.le_refl _) rfl dX7_copy_22
def fX5_mark (M : KS) (o1 : Nat) : Option (KS) := if inb (M.1 113 1) 9 then (fX7_copy M (2 + (M.1 113 1).toNatClampNeg) o1).bind fun M2 => some M2 else none
set_option maxHeartbeats 4000000 in
set_option maxRecDepth 100000 in
theorem kX5_mark (l : Launch) (E : KE) (ad : Nat → Nat) (M : KS) (o1 : Nat) (ho1 : o1 < 11) : CT l yX5_mark cX5_mark 3 none { frames := 2, cells := 0, slots := 0, locals := 43 } SK E ad [.ref (ad 113), .ref (ad (iS o1))] M (QV SK E ad) (fX5_mark M o1) := by
  refine CT.ofW (by decide) (Nat.le_of_ble_eq_true rfl) (fun sz p e s m args below meth c C hr hH ls hl => ?_)
  have hx := C.1.1
  have hb := C.1.2.1
  have hl : lv_has ls 3 [(0, .ref (ad 113)), (1, .ref (ad (iS o1)))] := hl
  unfold fX5_mark
  refine W_if (fun hi1 => ?_)
  refine W_q (show (fX7_copy M (2 + (M.1 113 1).toNatClampNeg) o1).bind (fun M2 => some M2) = (fX5_marked M).bind (fun M1 => (fX7_copy M1 (2 + (M.1 113 1).toNatClampNeg) o1).bind (fun M2 => some M2)) from by unfold fX5_marked; rw [if_pos hi1]; rfl) ?_
  refine lv_aload_n hx hb dX5_mark_0 rfl (lv_at hl 0 rfl) ?_
  refine kg_r C hH (kc_V C hH w_3_76 lc_yX5_marked li_yX5_marked oP (kX5_marked l E ad M) (As := []) rfl dX5_mark_1 rfl hl.1 (Nat.le_of_ble_eq_true rfl) ⟨Nat.le_of_ble_eq_true rfl, Nat.le_of_ble_eq_true rfl⟩ ⟨Nat.le_of_ble_eq_true rfl, Nat.le_of_ble_eq_true rfl⟩) ⟨rfl, rfl⟩ (fun M1 H locs hH => ?_)
  refine lv_astore_n (lv' := [(2, .ref (ad (iS (2 + (M.1 113 1).toNatClampNeg)))), (0, .ref (ad 113)), (1, .ref (ad (iS o1)))]) hx hb dX5_mark_4 rfl hl (by decide) rfl (fun ls hl => ?_)
  refine lv_aload_n hx hb dX5_mark_5 rfl (lv_at hl 0 rfl) ?_
  refine lv_ifnull hx hb dX5_mark_6 ?_
  refine lv_aload_n hx hb dX5_mark_9 rfl (lv_at hl 0 rfl) ?_
  refine lv_aload_n hx hb dX5_mark_10 rfl (lv_at hl 2 rfl) ?_
  refine kg_v C hH (kc_V C hH w_3_80 lc_yX7_copy li_yX7_copy (oS (f := (2 + (M.1 113 1).toNatClampNeg)) (bP hi1)) (kX7_copy l E ad M1 (2 + (M.1 113 1).toNatClampNeg) (bP hi1) o1 ho1) (As := [.ref (ad (iS o1))]) rfl dX5_mark_11 rfl hl.1 (Nat.le_of_ble_eq_true rfl) ⟨Nat.le_of_ble_eq_true rfl, Nat.le_of_ble_eq_true rfl⟩ ⟨Nat.le_of_ble_eq_true rfl, Nat.le_of_ble_eq_true rfl⟩) ⟨rfl, rfl⟩ (fun M2 H locs hH => ?_)
  exact ke_v C hH hr (Nat.zero_le _) (Nat.zero_le _) rfl dX5_mark_14
def fX9_numberOf_o (a0 : Int32) (a1 : Int32) (a2 : Int32) : Option (Int32) := some (((36 * a0) + (6 * a1)) + a2)
def fX9_numberOf (a0 : Int32) (a1 : Int32) (a2 : Int32) : Int32 := (((36 * a0) + (6 * a1)) + a2)
theorem fX9_numberOf_s {a0 : Int32} {a1 : Int32} {a2 : Int32} : fX9_numberOf_o a0 a1 a2 = some (fX9_numberOf a0 a1 a2) := by
  unfold fX9_numberOf_o fX9_numberOf
  (repeat' split) <;> rfl
set_option maxHeartbeats 4000000 in
set_option maxRecDepth 100000 in
theorem kX9_numberOf_o (l : Launch) (E : KE) (ad : Nat → Nat) (M : KS) (a0 : Int32) (a1 : Int32) (a2 : Int32) : CT l yX9_numberOf cX9_numberOf 3 (some .int) { frames := 0, cells := 0, slots := 0, locals := 0 } SK E ad [.int a0, .int a1, .int a2] M (fun sz a => QI SK E ad sz (a, M)) (fX9_numberOf_o a0 a1 a2) := by
  refine CT.ofW (by decide) (Nat.le_of_ble_eq_true rfl) (fun sz p e s m args below meth c C hr hH ls hl => ?_)
  have hx := C.1.1
  have hb := C.1.2.1
  have hl : lv_has ls 3 [(0, .int a0), (1, .int a1), (2, .int a2)] := hl
  unfold fX9_numberOf_o
  refine lv_bipush (v := 36) hx hb dX9_numberOf_0 (by decide) ?_
  refine lv_iload_n hx hb dX9_numberOf_2 rfl (lv_at hl 0 rfl) ?_
  refine lv_imul hx hb dX9_numberOf_3 ?_
  refine lv_bipush (v := 6) hx hb dX9_numberOf_4 (by decide) ?_
  refine lv_iload_n hx hb dX9_numberOf_6 rfl (lv_at hl 1 rfl) ?_
  refine lv_imul hx hb dX9_numberOf_7 ?_
  refine lv_iadd hx hb dX9_numberOf_8 ?_
  refine lv_iload_n hx hb dX9_numberOf_9 rfl (lv_at hl 2 rfl) ?_
  refine lv_iadd hx hb dX9_numberOf_10 ?_
  exact ke_i C hH hr (Nat.le_refl _) (Nat.le_refl _) rfl dX9_numberOf_11
theorem kX9_numberOf (l : Launch) (E : KE) (ad : Nat → Nat) (M : KS) (a0 : Int32) (a1 : Int32) (a2 : Int32) : CT l yX9_numberOf cX9_numberOf 3 (some .int) { frames := 0, cells := 0, slots := 0, locals := 0 } SK E ad [.int a0, .int a1, .int a2] M (fun sz (_ : Unit) => QI SK E ad sz (fX9_numberOf a0 a1 a2, M)) (some ()) := CT.pure (kX9_numberOf_o l E ad M a0 a1 a2) fX9_numberOf_s
def fX2_has (M : KS) (o0 : Nat) (a1 : Int32) : Option (Int32) := nm ((a1 / 6)) fun v1 => (if a1 < 0 then some 0 else (if 36 ≤ v1 then some 0 else if inb v1 36 then (if ((jshr (M.1 (iFt o0) v1.toNatClampNeg) (jrem a1 6)) &&& 1) = 0 then some 0 else some 1) else none))
set_option maxHeartbeats 4000000 in
set_option maxRecDepth 100000 in
theorem kX2_has (l : Launch) (E : KE) (ad : Nat → Nat) (M : KS) (o0 : Nat) (ho0 : o0 < 15) (a1 : Int32) : CT l yX2_has cX2_has 3 (some .boolean) { frames := 0, cells := 0, slots := 0, locals := 0 } SK E ad [.ref (ad (iF o0)), .int a1] M (fun sz a => QI SK E ad sz (a, M)) (fX2_has M o0 a1) := by
  refine CT.ofW (by decide) (Nat.le_of_ble_eq_true rfl) (fun sz p e s m args below meth c C hr hH ls hl => ?_)
  have hx := C.1.1
  have hb := C.1.2.1
  have hl : lv_has ls 3 [(0, .ref (ad (iF o0))), (1, .int a1)] := hl
  unfold fX2_has
  refine lv_iload_n hx hb dX2_has_0 rfl (lv_at hl 1 rfl) ?_
  refine lv_bipush (v := 6) hx hb dX2_has_1 (by decide) ?_
  refine lv_idiv hx hb dX2_has_3 (by decide) ?_
  refine W_nmi (fun v1 => ?_)
  refine lv_istore_n (lv' := [(2, .int v1), (0, .ref (ad (iF o0))), (1, .int a1)]) hx hb dX2_has_4 rfl hl (by decide) rfl (fun ls hl => ?_)
  refine lv_iload_n hx hb dX2_has_5 rfl (lv_at hl 2 rfl) ?_
  refine kb_if_lt (tgt := 38) hx hb dX2_has_6 (by decide) (fun _ => ?_) (fun _ => ?_)
  · refine lv_iconst (v := 0) hx hb dX2_has_38 (by decide) ?_
    exact ke_z C hH hr (Nat.le_refl _) (Nat.le_refl _) rfl (Or.inl rfl) dX2_has_39
  · refine lv_iload_n hx hb dX2_has_9 rfl (lv_at hl 0 rfl) ?_
    refine lv_aload_n hx hb dX2_has_10 rfl (lv_at hl 1 rfl) ?_
    refine k_get C hH fd_X2_9 (oF (f := o0) ho0) (k_ref (M := M) (ad := ad) (rF0 (f := o0) ho0)) dX2_has_11 ?_
    refine k_ilen C hH (aF0 (f := o0) ho0) (v := 36) rfl dX2_has_14 ?_
    refine kb_icmp_ge (tgt := 38) hx hb dX2_has_15 (by decide) (fun _ => ?_) (fun _ => ?_)
    · refine lv_iconst (v := 0) hx hb dX2_has_38 (by decide) ?_
      exact ke_z C hH hr (Nat.le_refl _) (Nat.le_refl _) rfl (Or.inl rfl) dX2_has_39
    · refine lv_aload_n hx hb dX2_has_18 rfl (lv_at hl 1 rfl) ?_
      refine k_get C hH fd_X2_9 (oF (f := o0) ho0) (k_ref (M := M) (ad := ad) (rF0 (f := o0) ho0)) dX2_has_19 ?_
      refine lv_iload_n hx hb dX2_has_22 rfl (lv_at hl 0 rfl) ?_
      refine k_iald C hH (aF0 (f := o0) ho0) dX2_has_23 ?_
      refine lv_iload_n hx hb dX2_has_24 rfl (lv_at hl 2 rfl) ?_
      refine lv_bipush (v := 6) hx hb dX2_has_25 (by decide) ?_
      refine k_irem hx hb dX2_has_27 (by decide) ?_
      refine k_ishr hx hb dX2_has_28 ?_
      refine lv_iconst (v := 1) hx hb dX2_has_29 (by decide) ?_
      refine lv_iand hx hb dX2_has_30 ?_
      refine kb_if_eq (tgt := 38) hx hb dX2_has_31 (by decide) (fun _ => ?_) (fun _ => ?_)
      · refine lv_iconst (v := 0) hx hb dX2_has_38 (by decide) ?_
        exact ke_z C hH hr (Nat.le_refl _) (Nat.le_refl _) rfl (Or.inl rfl) dX2_has_39
      · refine lv_iconst (v := 1) hx hb dX2_has_34 (by decide) ?_
        refine lv_goto (tgt := 39) hx hb dX2_has_35 (by decide) ?_
        exact ke_z C hH hr (Nat.le_refl _) (Nat.le_refl _) rfl (Or.inr rfl) dX2_has_39
def fX2_to (M : KS) (o0 : Nat) (a1 : Int32) (a2 : Int32) : Option (Int32) := nm (((6 * a1) + a2)) fun v1 => (if v1 < 0 then some 0 else (if 36 ≤ v1 then some 0 else if inb v1 36 then some (M.1 (iFt o0) v1.toNatClampNeg) else none))
set_option maxHeartbeats 4000000 in
set_option maxRecDepth 100000 in
theorem kX2_to (l : Launch) (E : KE) (ad : Nat → Nat) (M : KS) (o0 : Nat) (ho0 : o0 < 15) (a1 : Int32) (a2 : Int32) : CT l yX2_to cX2_to 4 (some .int) { frames := 0, cells := 0, slots := 0, locals := 0 } SK E ad [.ref (ad (iF o0)), .int a1, .int a2] M (fun sz a => QI SK E ad sz (a, M)) (fX2_to M o0 a1 a2) := by
  refine CT.ofW (by decide) (Nat.le_of_ble_eq_true rfl) (fun sz p e s m args below meth c C hr hH ls hl => ?_)
  have hx := C.1.1
  have hb := C.1.2.1
  have hl : lv_has ls 4 [(0, .ref (ad (iF o0))), (1, .int a1), (2, .int a2)] := hl
  unfold fX2_to
  refine lv_bipush (v := 6) hx hb dX2_to_0 (by decide) ?_
  refine lv_iload_n hx hb dX2_to_2 rfl (lv_at hl 1 rfl) ?_
  refine lv_imul hx hb dX2_to_3 ?_
  refine lv_iload_n hx hb dX2_to_4 rfl (lv_at hl 2 rfl) ?_
  refine lv_iadd hx hb dX2_to_5 ?_
  refine W_nmi (fun v1 => ?_)
  refine lv_istore_n (lv' := [(3, .int v1), (0, .ref (ad (iF o0))), (1, .int a1), (2, .int a2)]) hx hb dX2_to_6 rfl hl (by decide) rfl (fun ls hl => ?_)
  refine lv_iload_n hx hb dX2_to_7 rfl (lv_at hl 0 rfl) ?_
  refine kb_if_lt (tgt := 29) hx hb dX2_to_8 (by decide) (fun _ => ?_) (fun _ => ?_)
  · refine lv_iconst (v := 0) hx hb dX2_to_29 (by decide) ?_
    exact ke_i C hH hr (Nat.le_refl _) (Nat.le_refl _) rfl dX2_to_30
  · refine lv_iload_n hx hb dX2_to_11 rfl (lv_at hl 0 rfl) ?_
    refine lv_aload_n hx hb dX2_to_12 rfl (lv_at hl 1 rfl) ?_
    refine k_get C hH fd_X2_9 (oF (f := o0) ho0) (k_ref (M := M) (ad := ad) (rF0 (f := o0) ho0)) dX2_to_13 ?_
    refine k_ilen C hH (aF0 (f := o0) ho0) (v := 36) rfl dX2_to_16 ?_
    refine kb_icmp_ge (tgt := 29) hx hb dX2_to_17 (by decide) (fun _ => ?_) (fun _ => ?_)
    · refine lv_iconst (v := 0) hx hb dX2_to_29 (by decide) ?_
      exact ke_i C hH hr (Nat.le_refl _) (Nat.le_refl _) rfl dX2_to_30
    · refine lv_aload_n hx hb dX2_to_20 rfl (lv_at hl 1 rfl) ?_
      refine k_get C hH fd_X2_9 (oF (f := o0) ho0) (k_ref (M := M) (ad := ad) (rF0 (f := o0) ho0)) dX2_to_21 ?_
      refine lv_iload_n hx hb dX2_to_24 rfl (lv_at hl 0 rfl) ?_
      refine k_iald C hH (aF0 (f := o0) ho0) dX2_to_25 ?_
      refine lv_goto (tgt := 30) hx hb dX2_to_26 (by decide) ?_
      exact ke_i C hH hr (Nat.le_refl _) (Nat.le_refl _) rfl dX2_to_30
def fX2_sizeOf_X4 (v3 : Int32) : Option (Int32) := some v3
theorem fX2_sizeOf_X4_u {v3 : Int32} : fX2_sizeOf_X4 v3 = some v3 := rfl
def fX2_sizeOf_L4 (M : KS) (o0 : Nat) (a1 : Int32) (rec4 : (Int32 × Int32) → Option (Int32)) (k4 : (Int32) → Option (Int32)) (x : Int32 × Int32) : Option (Int32) := match x with | (v1, v2) => (if 6 ≤ v2 then k4 v1 else (fX2_to M o0 a1 v2).bind fun v4 => nm ((v1 + (fJ6_bitCount_0f7a4 v4))) fun v5 => nm (v2 + 1) fun v6 => rec4 (v5, v6))
theorem fX2_sizeOf_L4_u {M : KS} {o0 : Nat} {a1 : Int32} {rec4 : (Int32 × Int32) → Option (Int32)} {k4 : (Int32) → Option (Int32)} {v1 : Int32} {v2 : Int32} : fX2_sizeOf_L4 M o0 a1 rec4 k4 (v1, v2) = (if 6 ≤ v2 then k4 v1 else (fX2_to M o0 a1 v2).bind fun v4 => nm ((v1 + (fJ6_bitCount_0f7a4 v4))) fun v5 => nm (v2 + 1) fun v6 => rec4 (v5, v6)) := rfl
def fX2_sizeOf (M : KS) (o0 : Nat) (a1 : Int32) : Option (Int32) := lp (fX2_sizeOf_L4 M o0 a1) (fX2_sizeOf_X4) 1000000 (0, 0)
set_option maxHeartbeats 4000000 in
set_option maxRecDepth 100000 in
theorem kX2_sizeOf (l : Launch) (E : KE) (ad : Nat → Nat) (M : KS) (o0 : Nat) (ho0 : o0 < 15) (a1 : Int32) : CT l yX2_sizeOf cX2_sizeOf 4 (some .int) { frames := 1, cells := 0, slots := 0, locals := 23 } SK E ad [.ref (ad (iF o0)), .int a1] M (fun sz a => QI SK E ad sz (a, M)) (fX2_sizeOf M o0 a1) := by
  refine CT.ofW (by decide) (Nat.le_of_ble_eq_true rfl) (fun sz p e s m args below meth c C hr hH ls hl => ?_)
  have hx := C.1.1
  have hb := C.1.2.1
  have hl : lv_has ls 4 [(0, .ref (ad (iF o0))), (1, .int a1)] := hl
  unfold fX2_sizeOf
  refine lv_iconst (v := 0) hx hb dX2_sizeOf_0 (by decide) ?_
  refine lv_istore_n (lv' := [(2, .int 0), (0, .ref (ad (iF o0))), (1, .int a1)]) hx hb dX2_sizeOf_1 rfl hl (by decide) rfl (fun ls hl => ?_)
  refine lv_iconst (v := 0) hx hb dX2_sizeOf_2 (by decide) ?_
  refine lv_istore_n (lv' := [(3, .int 0), (2, .int 0), (0, .ref (ad (iF o0))), (1, .int a1)]) hx hb dX2_sizeOf_3 rfl hl (by decide) rfl (fun ls hl => ?_)
  refine W_lp (fun (x : Int32 × Int32) H locs => KH SK E ad sz M s.heap H locs) (fun x ls => lv_has ls 4 [(0, .ref (ad (iF o0))), (1, .int a1), (2, .int x.1), (3, .int x.2)]) (fun _ ls => F0 m 4 ls []) (fun (x : Int32) H locs => KH SK E ad sz M s.heap H locs) (fun x ls => lv_has ls 4 [(2, .int x)]) (fun _ ls => F0 m 28 ls []) ?_ ?_ hH (lv_sub hl [2, 3, 1, 0] rfl)
  · intro v3 H locs ls hH hl
    have hH : KH SK E ad sz M s.heap H locs := hH
    have hl : lv_has ls 4 [(2, .int v3)] := hl
    refine W_q fX2_sizeOf_X4_u ?_
    refine lv_iload_n hx hb dX2_sizeOf_28 rfl (lv_at hl 0 rfl) ?_
    exact ke_i C hH hr (Nat.le_refl _) (Nat.le_refl _) rfl dX2_sizeOf_29
  · intro rec4 k4 hrec4 hk4 ⟨v1, v2⟩ H locs ls hH hl
    have hH : KH SK E ad sz M s.heap H locs := hH
    have hl : lv_has ls 4 [(0, .ref (ad (iF o0))), (1, .int a1), (2, .int v1), (3, .int v2)] := hl
    refine W_q fX2_sizeOf_L4_u ?_
    refine lv_iload_n hx hb dX2_sizeOf_4 rfl (lv_at hl 3 rfl) ?_
    refine lv_bipush (v := 6) hx hb dX2_sizeOf_5 (by decide) ?_
    refine kb_icmp_ge (tgt := 28) hx hb dX2_sizeOf_7 (by decide) (fun _ => ?_) (fun _ => ?_)
    · exact hk4 v1 _ _ _ hH (lv_sub hl [2] rfl)
    · refine lv_iload_n hx hb dX2_sizeOf_10 rfl (lv_at hl 2 rfl) ?_
      refine lv_aload_n hx hb dX2_sizeOf_11 rfl (lv_at hl 0 rfl) ?_
      refine lv_iload_n hx hb dX2_sizeOf_12 rfl (lv_at hl 1 rfl) ?_
      refine lv_iload_n hx hb dX2_sizeOf_13 rfl (lv_at hl 3 rfl) ?_
      refine kg_io C hH (kc_V C hH w_3_91 lc_yX2_to li_yX2_to (oF (f := o0) ho0) (kX2_to l E ad M o0 ho0 a1 v2) (As := [.int a1, .int v2]) rfl dX2_sizeOf_14 rfl hl.1 (Nat.le_of_ble_eq_true rfl) ⟨Nat.le_of_ble_eq_true rfl, Nat.le_of_ble_eq_true rfl⟩ ⟨Nat.le_of_ble_eq_true rfl, Nat.le_of_ble_eq_true rfl⟩) ⟨rfl, rfl⟩ (fun v4 H locs hH => ?_)
      refine kg_ip C hH (kc_S2 C hH w_2_221 w_st_yJ6_bitCount_0f7a4 lc_yJ6_bitCount_0f7a4 (kJ6_bitCount_0f7a4 l E ad M v4) (As := [.int v4]) rfl dX2_sizeOf_17 rfl hl.1 (Nat.le_of_ble_eq_true rfl) ⟨Nat.le_of_ble_eq_true rfl, Nat.le_of_ble_eq_true rfl⟩ ⟨Nat.le_of_ble_eq_true rfl, Nat.le_of_ble_eq_true rfl⟩) ⟨rfl, rfl⟩ (fun H locs hH => ?_)
      refine lv_iadd hx hb dX2_sizeOf_20 ?_
      refine W_nmi (fun v5 => ?_)
      refine lv_istore_n (lv' := [(2, .int v5), (0, .ref (ad (iF o0))), (1, .int a1), (3, .int v2)]) hx hb dX2_sizeOf_21 rfl hl (by decide) rfl (fun ls hl => ?_)
      refine W_nm (fun v6 ev6 => ?_)
      refine lv_iinc (v := v6) (lv' := [(3, .int v6), (2, .int v5), (0, .ref (ad (iF o0))), (1, .int a1)]) hx hb dX2_sizeOf_22 hl (k := 3) rfl (by rw [ev6]; rfl) (by decide) rfl (fun ls hl => ?_)
      refine lv_goto (tgt := 4) hx hb dX2_sizeOf_25 (by decide) ?_
      exact hrec4 (v5, v6) _ _ _ hH (lv_sub hl [2, 3, 1, 0] rfl)
def fX9_refuse (M : KS) (a1 : Int32) (a2 : Int32) : Option (Int32 × KS) := nm (kset M 121 10 a1) fun M1 => nm (kset M1 121 11 a2) fun M2 => some (0, M2)
set_option maxHeartbeats 4000000 in
set_option maxRecDepth 100000 in
theorem kX9_refuse (l : Launch) (E : KE) (ad : Nat → Nat) (M : KS) (a1 : Int32) (a2 : Int32) : CT l yX9_refuse cX9_refuse 3 (some .boolean) { frames := 0, cells := 0, slots := 0, locals := 0 } SK E ad [.ref (ad 121), .int a1, .int a2] M (QI SK E ad) (fX9_refuse M a1 a2) := by
  refine CT.ofW (by decide) (Nat.le_of_ble_eq_true rfl) (fun sz p e s m args below meth c C hr hH ls hl => ?_)
  have hx := C.1.1
  have hb := C.1.2.1
  have hl : lv_has ls 3 [(0, .ref (ad 121)), (1, .int a1), (2, .int a2)] := hl
  unfold fX9_refuse
  refine lv_aload_n hx hb dX9_refuse_0 rfl (lv_at hl 0 rfl) ?_
  refine lv_iload_n hx hb dX9_refuse_1 rfl (lv_at hl 1 rfl) ?_
  refine k_put1 C hH fd_X9_69 fw_X9_10 oK nK10 rfl rfl dX9_refuse_2 (fun M1 H locs hH => ?_)
  refine lv_aload_n hx hb dX9_refuse_5 rfl (lv_at hl 0 rfl) ?_
  refine lv_iload_n hx hb dX9_refuse_6 rfl (lv_at hl 2 rfl) ?_
  refine k_put1 C hH fd_X9_72 fw_X9_11 oK nK11 rfl rfl dX9_refuse_7 (fun M2 H locs hH => ?_)
  refine lv_iconst (v := 0) hx hb dX9_refuse_10 (by decide) ?_
  exact ke_z C hH hr (Nat.le_refl _) (Nat.le_refl _) rfl (Or.inl rfl) dX9_refuse_11
def fX2_put (M : KS) (o0 : Nat) (a1 : Int32) : Option (KS) := (if a1 < 0 then some M else (if a1 < 216 then if inb (a1 / 6) 36 then if inb (a1 / 6) 36 then nm (kset M (iFt o0) (a1 / 6).toNatClampNeg ((M.1 (iFt o0) (a1 / 6).toNatClampNeg) ||| (jshl 1 (jrem a1 6)))) fun M1 => if inb (((a1 / 36) * 6) + (jrem a1 6)) 36 then if inb (((a1 / 36) * 6) + (jrem a1 6)) 36 then nm (kset M1 (iFf o0) (((a1 / 36) * 6) + (jrem a1 6)).toNatClampNeg ((M1.1 (iFf o0) (((a1 / 36) * 6) + (jrem a1 6)).toNatClampNeg) ||| (jshl 1 (jrem (a1 / 6) 6)))) fun M2 => some M2 else none else none else none else none else some M))
set_option maxHeartbeats 4000000 in
set_option maxRecDepth 100000 in
theorem kX2_put (l : Launch) (E : KE) (ad : Nat → Nat) (M : KS) (o0 : Nat) (ho0 : o0 < 15) (a1 : Int32) : CT l yX2_put cX2_put 2 none { frames := 0, cells := 0, slots := 0, locals := 0 } SK E ad [.ref (ad (iF o0)), .int a1] M (QV SK E ad) (fX2_put M o0 a1) := by
  refine CT.ofW (by decide) (Nat.le_of_ble_eq_true rfl) (fun sz p e s m args below meth c C hr hH ls hl => ?_)
  have hx := C.1.1
  have hb := C.1.2.1
  have hl : lv_has ls 2 [(0, .ref (ad (iF o0))), (1, .int a1)] := hl
  unfold fX2_put
  refine lv_iload_n hx hb dX2_put_0 rfl (lv_at hl 1 rfl) ?_
  refine kb_if_lt (tgt := 11) hx hb dX2_put_1 (by decide) (fun _ => ?_) (fun _ => ?_)
  · exact ke_v C hH hr (Nat.le_refl _) (Nat.le_refl _) rfl dX2_put_11
  · refine lv_iload_n hx hb dX2_put_4 rfl (lv_at hl 1 rfl) ?_
    refine lv_sipush (v := 216) hx hb dX2_put_5 (by decide) ?_
    refine kb_icmp_lt (tgt := 12) hx hb dX2_put_8 (by decide) (fun _ => ?_) (fun _ => ?_)
    · refine lv_aload_n hx hb dX2_put_12 rfl (lv_at hl 0 rfl) ?_
      refine k_get C hH fd_X2_9 (oF (f := o0) ho0) (k_ref (M := M) (ad := ad) (rF0 (f := o0) ho0)) dX2_put_13 ?_
      refine lv_iload_n hx hb dX2_put_16 rfl (lv_at hl 1 rfl) ?_
      refine lv_bipush (v := 6) hx hb dX2_put_17 (by decide) ?_
      refine lv_idiv hx hb dX2_put_19 (by decide) ?_
      refine lv_dup2_11 hx hb dX2_put_20 rfl rfl ?_
      refine k_iald C hH (aF0 (f := o0) ho0) dX2_put_21 ?_
      refine lv_iconst (v := 1) hx hb dX2_put_22 (by decide) ?_
      refine lv_iload_n hx hb dX2_put_23 rfl (lv_at hl 1 rfl) ?_
      refine lv_bipush (v := 6) hx hb dX2_put_24 (by decide) ?_
      refine k_irem hx hb dX2_put_26 (by decide) ?_
      refine k_ishl hx hb dX2_put_27 ?_
      refine lv_ior hx hb dX2_put_28 ?_
      refine k_iast C hH (aF0 (f := o0) ho0) dX2_put_29 (fun M1 H locs hH => ?_)
      refine lv_aload_n hx hb dX2_put_30 rfl (lv_at hl 0 rfl) ?_
      refine k_get C hH fd_X2_15 (oF (f := o0) ho0) (k_ref (M := M1) (ad := ad) (rF1 (f := o0) ho0)) dX2_put_31 ?_
      refine lv_iload_n hx hb dX2_put_34 rfl (lv_at hl 1 rfl) ?_
      refine lv_bipush (v := 36) hx hb dX2_put_35 (by decide) ?_
      refine lv_idiv hx hb dX2_put_37 (by decide) ?_
      refine lv_bipush (v := 6) hx hb dX2_put_38 (by decide) ?_
      refine lv_imul hx hb dX2_put_40 ?_
      refine lv_iload_n hx hb dX2_put_41 rfl (lv_at hl 1 rfl) ?_
      refine lv_bipush (v := 6) hx hb dX2_put_42 (by decide) ?_
      refine k_irem hx hb dX2_put_44 (by decide) ?_
      refine lv_iadd hx hb dX2_put_45 ?_
      refine lv_dup2_11 hx hb dX2_put_46 rfl rfl ?_
      refine k_iald C hH (aF1 (f := o0) ho0) dX2_put_47 ?_
      refine lv_iconst (v := 1) hx hb dX2_put_48 (by decide) ?_
      refine lv_iload_n hx hb dX2_put_49 rfl (lv_at hl 1 rfl) ?_
      refine lv_bipush (v := 6) hx hb dX2_put_50 (by decide) ?_
      refine lv_idiv hx hb dX2_put_52 (by decide) ?_
      refine lv_bipush (v := 6) hx hb dX2_put_53 (by decide) ?_
      refine k_irem hx hb dX2_put_55 (by decide) ?_
      refine k_ishl hx hb dX2_put_56 ?_
      refine lv_ior hx hb dX2_put_57 ?_
      refine k_iast C hH (aF1 (f := o0) ho0) dX2_put_58 (fun M2 H locs hH => ?_)
      exact ke_v C hH hr (Nat.le_refl _) (Nat.le_refl _) rfl dX2_put_59
    · exact ke_v C hH hr (Nat.le_refl _) (Nat.le_refl _) rfl dX2_put_11
def fX1_outdate (M : KS)  : Option (KS) := nm (kset M 106 9 0) fun M1 => some M1
set_option maxHeartbeats 4000000 in
set_option maxRecDepth 100000 in
theorem kX1_outdate (l : Launch) (E : KE) (ad : Nat → Nat) (M : KS)  : CT l yX1_outdate cX1_outdate 1 none { frames := 0, cells := 0, slots := 0, locals := 0 } SK E ad [.ref (ad 106)] M (QV SK E ad) (fX1_outdate M) := by
  refine CT.ofW (by decide) (Nat.le_of_ble_eq_true rfl) (fun sz p e s m args below meth c C hr hH ls hl => ?_)
  have hx := C.1.1
  have hb := C.1.2.1
  have hl : lv_has ls 1 [(0, .ref (ad 106))] := hl
  unfold fX1_outdate
  refine lv_aload_n hx hb dX1_outdate_0 rfl (lv_at hl 0 rfl) ?_
  refine lv_iconst (v := 0) hx hb dX1_outdate_1 (by decide) ?_
  refine k_put1 C hH fd_X1_48 fw_X1_9 oD nD9 rfl rfl dX1_outdate_2 (fun M1 H locs hH => ?_)
  exact ke_v C hH hr (Nat.le_refl _) (Nat.le_refl _) rfl dX1_outdate_5
def fX9_addFact (M : KS) (a1 : Int32) : Option (Int32 × KS) := (fX2_has M 0 a1).bind fun v1 => (if v1 = 0 then (fX2_put M 0 a1).bind fun M2 => (fX1_outdate M2).bind fun M3 => some (1, M3) else (fX2_sizeOf M 0 (a1 / 36)).bind fun v4 => bd2 (fX9_refuse M 2 v4) fun v6 M5 => if isB v6 then some (v6, M5) else none)
set_option maxHeartbeats 4000000 in
set_option maxRecDepth 100000 in
theorem kX9_addFact (l : Launch) (E : KE) (ad : Nat → Nat) (M : KS) (a1 : Int32) : CT l yX9_addFact cX9_addFact 2 (some .boolean) { frames := 2, cells := 0, slots := 0, locals := 46 } SK E ad [.ref (ad 121), .int a1] M (QI SK E ad) (fX9_addFact M a1) := by
  refine CT.ofW (by decide) (Nat.le_of_ble_eq_true rfl) (fun sz p e s m args below meth c C hr hH ls hl => ?_)
  have hx := C.1.1
  have hb := C.1.2.1
  have hl : lv_has ls 2 [(0, .ref (ad 121)), (1, .int a1)] := hl
  unfold fX9_addFact
  refine lv_aload_n hx hb dX9_addFact_0 rfl (lv_at hl 0 rfl) ?_
  refine k_get C hH fd_X9_10 oK (k_ref (M := M) (ad := ad) rK0) dX9_addFact_1 ?_
  refine k_getN C hH fn_X9_124 (oS (f := 0) (by decide)) (k_ref (M := M) (ad := ad) (rS0 (f := 0) (by decide))) dX9_addFact_4 ?_
  refine lv_iload_n hx hb dX9_addFact_7 rfl (lv_at hl 1 rfl) ?_
  refine kg_io C hH (kc_V C hH w_3_86 lc_yX2_has li_yX2_has (oF (f := 0) (by decide)) (kX2_has l E ad M 0 (by decide) a1) (As := [.int a1]) rfl dX9_addFact_8 rfl hl.1 (Nat.le_of_ble_eq_true rfl) ⟨Nat.le_of_ble_eq_true rfl, Nat.le_of_ble_eq_true rfl⟩ ⟨Nat.le_of_ble_eq_true rfl, Nat.le_of_ble_eq_true rfl⟩) ⟨rfl, rfl⟩ (fun v1 H locs hH => ?_)
  refine kb_if_eq (tgt := 34) hx hb dX9_addFact_11 (by decide) (fun _ => ?_) (fun _ => ?_)
  · refine lv_aload_n hx hb dX9_addFact_34 rfl (lv_at hl 0 rfl) ?_
    refine k_get C hH fd_X9_10 oK (k_ref (M := M) (ad := ad) rK0) dX9_addFact_35 ?_
    refine k_getN C hH fn_X9_124 (oS (f := 0) (by decide)) (k_ref (M := M) (ad := ad) (rS0 (f := 0) (by decide))) dX9_addFact_38 ?_
    refine lv_iload_n hx hb dX9_addFact_41 rfl (lv_at hl 1 rfl) ?_
    refine kg_v C hH (kc_V C hH w_3_96 lc_yX2_put li_yX2_put (oF (f := 0) (by decide)) (kX2_put l E ad M 0 (by decide) a1) (As := [.int a1]) rfl dX9_addFact_42 rfl hl.1 (Nat.le_of_ble_eq_true rfl) ⟨Nat.le_of_ble_eq_true rfl, Nat.le_of_ble_eq_true rfl⟩ ⟨Nat.le_of_ble_eq_true rfl, Nat.le_of_ble_eq_true rfl⟩) ⟨rfl, rfl⟩ (fun M2 H locs hH => ?_)
    refine lv_aload_n hx hb dX9_addFact_45 rfl (lv_at hl 0 rfl) ?_
    refine k_get C hH fd_X9_29 oK (k_ref (M := M2) (ad := ad) rK3) dX9_addFact_46 ?_
    refine kg_v C hH (kc_V C hH w_3_97 lc_yX1_outdate li_yX1_outdate oD (kX1_outdate l E ad M2) (As := []) rfl dX9_addFact_49 rfl hl.1 (Nat.le_of_ble_eq_true rfl) ⟨Nat.le_of_ble_eq_true rfl, Nat.le_of_ble_eq_true rfl⟩ ⟨Nat.le_of_ble_eq_true rfl, Nat.le_of_ble_eq_true rfl⟩) ⟨rfl, rfl⟩ (fun M3 H locs hH => ?_)
    refine lv_iconst (v := 1) hx hb dX9_addFact_52 (by decide) ?_
    exact ke_z C hH hr (Nat.le_refl _) (Nat.le_refl _) rfl (Or.inr rfl) dX9_addFact_53
  · refine lv_aload_n hx hb dX9_addFact_14 rfl (lv_at hl 0 rfl) ?_
    refine lv_iconst (v := 2) hx hb dX9_addFact_15 (by decide) ?_
    refine lv_aload_n hx hb dX9_addFact_16 rfl (lv_at hl 0 rfl) ?_
    refine k_get C hH fd_X9_10 oK (k_ref (M := M) (ad := ad) rK0) dX9_addFact_17 ?_
    refine k_getN C hH fn_X9_124 (oS (f := 0) (by decide)) (k_ref (M := M) (ad := ad) (rS0 (f := 0) (by decide))) dX9_addFact_20 ?_
    refine lv_iload_n hx hb dX9_addFact_23 rfl (lv_at hl 1 rfl) ?_
    refine lv_bipush (v := 36) hx hb dX9_addFact_24 (by decide) ?_
    refine lv_idiv hx hb dX9_addFact_26 (by decide) ?_
    refine kg_io C hH (kc_V C hH w_3_87 lc_yX2_sizeOf li_yX2_sizeOf (oF (f := 0) (by decide)) (kX2_sizeOf l E ad M 0 (by decide) (a1 / 36)) (As := [.int (a1 / 36)]) rfl dX9_addFact_27 rfl hl.1 (Nat.le_of_ble_eq_true rfl) ⟨Nat.le_of_ble_eq_true rfl, Nat.le_of_ble_eq_true rfl⟩ ⟨Nat.le_of_ble_eq_true rfl, Nat.le_of_ble_eq_true rfl⟩) ⟨rfl, rfl⟩ (fun v4 H locs hH => ?_)
    refine kg_ib C hH (kc_V C hH w_3_92 lc_yX9_refuse li_yX9_refuse oK (kX9_refuse l E ad M 2 v4) (As := [.int 2, .int v4]) rfl dX9_addFact_30 rfl hl.1 (Nat.le_of_ble_eq_true rfl) ⟨Nat.le_of_ble_eq_true rfl, Nat.le_of_ble_eq_true rfl⟩ ⟨Nat.le_of_ble_eq_true rfl, Nat.le_of_ble_eq_true rfl⟩) ⟨rfl, rfl⟩ (fun v6 M5 H locs hH => ?_)
    exact ke_zg C hH hr (Nat.le_refl _) (Nat.le_refl _) rfl dX9_addFact_33
def fX5_keep_J20_7 (M : KS) (v1 : Int32) : Option (KS) := nm (kset M 113 1 v1) fun M2 => nm (kset M2 113 2 (jmin ((M2.1 113 2) + 1) 8)) fun M3 => some M3
theorem fX5_keep_J20_7_u {M : KS} {v1 : Int32} : fX5_keep_J20_7 M v1 = nm (kset M 113 1 v1) fun M2 => nm (kset M2 113 2 (jmin ((M2.1 113 2) + 1) 8)) fun M3 => some M3 := rfl
def fX5_keep (M : KS)  : Option (KS) := jn (fX5_keep_J20_7 M) (fun K20_7 => (if 8 ≤ (M.1 113 1) then K20_7 0 else K20_7 ((M.1 113 1) + 1)))
set_option maxHeartbeats 4000000 in
set_option maxRecDepth 100000 in
theorem kX5_keep (l : Launch) (E : KE) (ad : Nat → Nat) (M : KS)  : CT l yX5_keep cX5_keep 1 none { frames := 1, cells := 0, slots := 0, locals := 24 } SK E ad [.ref (ad 113)] M (QV SK E ad) (fX5_keep M) := by
  refine CT.ofW (by decide) (Nat.le_of_ble_eq_true rfl) (fun sz p e s m args below meth c C hr hH ls hl => ?_)
  have hx := C.1.1
  have hb := C.1.2.1
  have hl : lv_has ls 1 [(0, .ref (ad 113))] := hl
  unfold fX5_keep
  refine lv_aload_n hx hb dX5_keep_0 rfl (lv_at hl 0 rfl) ?_
  refine lv_aload_n hx hb dX5_keep_1 rfl (lv_at hl 0 rfl) ?_
  refine k_get C hH fd_X5_17 oP (k_int (M := M) (ad := ad) nP1) dX5_keep_2 ?_
  refine lv_bipush (v := 8) hx hb dX5_keep_5 (by decide) ?_
  refine W_jn (fun (x : Int32) H locs => KH SK E ad sz M s.heap H locs) (fun x ls => lv_has ls 1 [(0, .ref (ad 113))]) (fun x ls => F0 m 20 ls [.int x, .ref (ad 113)]) ?_ (fun K20_7 hK20_7 => ?_)
  · intro v1 H locs ls hH hl
    have hH : KH SK E ad sz M s.heap H locs := hH
    have hl : lv_has ls 1 [(0, .ref (ad 113))] := hl
    refine W_q fX5_keep_J20_7_u ?_
    refine k_put1 C hH fd_X5_17 fw_X5_1 oP nP1 rfl rfl dX5_keep_20 (fun M2 H locs hH => ?_)
    refine lv_aload_n hx hb dX5_keep_23 rfl (lv_at hl 0 rfl) ?_
    refine lv_aload_n hx hb dX5_keep_24 rfl (lv_at hl 0 rfl) ?_
    refine k_get C hH fd_X5_21 oP (k_int (M := M2) (ad := ad) nP2) dX5_keep_25 ?_
    refine lv_iconst (v := 1) hx hb dX5_keep_28 (by decide) ?_
    refine lv_iadd hx hb dX5_keep_29 ?_
    refine lv_bipush (v := 8) hx hb dX5_keep_30 (by decide) ?_
    refine k_mmin C w_3_121 hl.1 (Nat.le_of_ble_eq_true rfl) (Nat.le_of_ble_eq_true rfl) ⟨Nat.zero_le _, Nat.zero_le _⟩ dX5_keep_32 ?_
    refine k_put1 C hH fd_X5_21 fw_X5_2 oP nP2 rfl rfl dX5_keep_35 (fun M3 H locs hH => ?_)
    exact ke_v C hH hr (Nat.le_refl _) (Nat.le_refl _) rfl dX5_keep_38
  · refine kb_icmp_ge (tgt := 19) hx hb dX5_keep_7 (by decide) (fun _ => ?_) (fun _ => ?_)
    · refine lv_iconst (v := 0) hx hb dX5_keep_19 (by decide) ?_
      exact hK20_7 0 _ _ _ hH (lv_sub hl [0] rfl)
    · refine lv_aload_n hx hb dX5_keep_10 rfl (lv_at hl 0 rfl) ?_
      refine k_get C hH fd_X5_17 oP (k_int (M := M) (ad := ad) nP1) dX5_keep_11 ?_
      refine lv_iconst (v := 1) hx hb dX5_keep_14 (by decide) ?_
      refine lv_iadd hx hb dX5_keep_15 ?_
      refine lv_goto (tgt := 20) hx hb dX5_keep_16 (by decide) ?_
      exact hK20_7 ((M.1 113 1) + 1) _ _ _ hH (lv_sub hl [0] rfl)
def fX1_start_X34 (M7 : KS) : Option (KS) := some M7
theorem fX1_start_X34_u {M7 : KS} : fX1_start_X34 M7 = some M7 := rfl
def fX1_start_L34 (rec34 : (Int32 × KS) → Option (KS)) (k34 : (KS) → Option (KS)) (x : Int32 × KS) : Option (KS) := match x with | (v5, M6) => (if 216 ≤ v5 then k34 M6 else if inb v5 216 then nm (kset M6 107 v5.toNatClampNeg 0) fun M8 => if inb v5 216 then nm (kset M8 108 v5.toNatClampNeg (-1)) fun M9 => if inb v5 216 then nm (kset M9 109 v5.toNatClampNeg (-1)) fun M10 => if inb v5 216 then nm (kset M10 110 v5.toNatClampNeg 0) fun M11 => if inb ((6 * v5) + (v5 / 36)) 1296 then nm (ksetL M11 ((6 * v5) + (v5 / 36)).toNatClampNeg (jlshl 1 (jrem v5 36))) fun M12 => nm (v5 + 1) fun v13 => rec34 (v13, M12) else none else none else none else none else none)
theorem fX1_start_L34_u {rec34 : (Int32 × KS) → Option (KS)} {k34 : (KS) → Option (KS)} {v5 : Int32} {M6 : KS} : fX1_start_L34 rec34 k34 (v5, M6) = (if 216 ≤ v5 then k34 M6 else if inb v5 216 then nm (kset M6 107 v5.toNatClampNeg 0) fun M8 => if inb v5 216 then nm (kset M8 108 v5.toNatClampNeg (-1)) fun M9 => if inb v5 216 then nm (kset M9 109 v5.toNatClampNeg (-1)) fun M10 => if inb v5 216 then nm (kset M10 110 v5.toNatClampNeg 0) fun M11 => if inb ((6 * v5) + (v5 / 36)) 1296 then nm (ksetL M11 ((6 * v5) + (v5 / 36)).toNatClampNeg (jlshl 1 (jrem v5 36))) fun M12 => nm (v5 + 1) fun v13 => rec34 (v13, M12) else none else none else none else none else none) := rfl
def fX1_start_X10 (M4 : KS) : Option (KS) := lp (fX1_start_L34) (fX1_start_X34) 1000000 (0, M4)
theorem fX1_start_X10_u {M4 : KS} : fX1_start_X10 M4 = lp (fX1_start_L34) (fX1_start_X34) 1000000 (0, M4) := rfl
def fX1_start_L10 (rec10 : (Int32 × KS) → Option (KS)) (k10 : (KS) → Option (KS)) (x : Int32 × KS) : Option (KS) := match x with | (v2, M3) => (if 1296 ≤ v2 then k10 M3 else if inb v2 1296 then nm (ksetL M3 v2.toNatClampNeg 0) fun M14 => nm (v2 + 1) fun v15 => rec10 (v15, M14) else none)
theorem fX1_start_L10_u {rec10 : (Int32 × KS) → Option (KS)} {k10 : (KS) → Option (KS)} {v2 : Int32} {M3 : KS} : fX1_start_L10 rec10 k10 (v2, M3) = (if 1296 ≤ v2 then k10 M3 else if inb v2 1296 then nm (ksetL M3 v2.toNatClampNeg 0) fun M14 => nm (v2 + 1) fun v15 => rec10 (v15, M14) else none) := rfl
def fX1_start (M : KS) (o1 : Nat) : Option (KS) := (fX2_copy M 11 o1).bind fun M1 => lp (fX1_start_L10) (fX1_start_X10) 1000000 (0, M1)
set_option maxHeartbeats 4000000 in
set_option maxRecDepth 100000 in
theorem kX1_start (l : Launch) (E : KE) (ad : Nat → Nat) (M : KS) (o1 : Nat) (ho1 : o1 < 15) : CT l yX1_start cX1_start 3 none { frames := 1, cells := 0, slots := 0, locals := 22 } SK E ad [.ref (ad 106), .ref (ad (iF o1))] M (QV SK E ad) (fX1_start M o1) := by
  refine CT.ofW (by decide) (Nat.le_of_ble_eq_true rfl) (fun sz p e s m args below meth c C hr hH ls hl => ?_)
  have hx := C.1.1
  have hb := C.1.2.1
  have hl : lv_has ls 3 [(0, .ref (ad 106)), (1, .ref (ad (iF o1)))] := hl
  unfold fX1_start
  refine lv_aload_n hx hb dX1_start_0 rfl (lv_at hl 0 rfl) ?_
  refine k_get C hH fd_X1_12 oD (k_ref (M := M) (ad := ad) rD0) dX1_start_1 ?_
  refine lv_aload_n hx hb dX1_start_4 rfl (lv_at hl 1 rfl) ?_
  refine kg_v C hH (kc_V C hH w_2_35 lc_yX2_copy li_yX2_copy (oF (f := 11) (by decide)) (kX2_copy l E ad M 11 (by decide) o1 ho1) (As := [.ref (ad (iF o1))]) rfl dX1_start_5 rfl hl.1 (Nat.le_of_ble_eq_true rfl) ⟨Nat.le_of_ble_eq_true rfl, Nat.le_of_ble_eq_true rfl⟩ ⟨Nat.le_of_ble_eq_true rfl, Nat.le_of_ble_eq_true rfl⟩) ⟨rfl, rfl⟩ (fun M1 H locs hH => ?_)
  refine lv_iconst (v := 0) hx hb dX1_start_8 (by decide) ?_
  refine lv_istore_n (lv' := [(2, .int 0), (0, .ref (ad 106)), (1, .ref (ad (iF o1)))]) hx hb dX1_start_9 rfl hl (by decide) rfl (fun ls hl => ?_)
  refine W_lp (fun (x : Int32 × KS) H locs => KH SK E ad sz x.2 s.heap H locs) (fun x ls => lv_has ls 3 [(0, .ref (ad 106)), (2, .int x.1)]) (fun _ ls => F0 m 10 ls []) (fun (x : KS) H locs => KH SK E ad sz x s.heap H locs) (fun x ls => lv_has ls 3 [(0, .ref (ad 106))]) (fun _ ls => F0 m 32 ls []) ?_ ?_ hH (lv_sub hl [1, 0] rfl)
  · intro M4 H locs ls hH hl
    have hH : KH SK E ad sz M4 s.heap H locs := hH
    have hl : lv_has ls 3 [(0, .ref (ad 106))] := hl
    refine W_q fX1_start_X10_u ?_
    refine lv_iconst (v := 0) hx hb dX1_start_32 (by decide) ?_
    refine lv_istore_n (lv' := [(2, .int 0), (0, .ref (ad 106))]) hx hb dX1_start_33 rfl hl (by decide) rfl (fun ls hl => ?_)
    refine W_lp (fun (x : Int32 × KS) H locs => KH SK E ad sz x.2 s.heap H locs) (fun x ls => lv_has ls 3 [(0, .ref (ad 106)), (2, .int x.1)]) (fun _ ls => F0 m 34 ls []) (fun (x : KS) H locs => KH SK E ad sz x s.heap H locs) (fun x ls => lv_has ls 3 []) (fun _ ls => F0 m 95 ls []) ?_ ?_ hH (lv_sub hl [1, 0] rfl)
    · intro M7 H locs ls hH hl
      have hH : KH SK E ad sz M7 s.heap H locs := hH
      have hl : lv_has ls 3 [] := hl
      refine W_q fX1_start_X34_u ?_
      exact ke_v C hH hr (Nat.le_refl _) (Nat.le_refl _) rfl dX1_start_95
    · intro rec34 k34 hrec34 hk34 ⟨v5, M6⟩ H locs ls hH hl
      have hH : KH SK E ad sz M6 s.heap H locs := hH
      have hl : lv_has ls 3 [(0, .ref (ad 106)), (2, .int v5)] := hl
      refine W_q fX1_start_L34_u ?_
      refine lv_iload_n hx hb dX1_start_34 rfl (lv_at hl 1 rfl) ?_
      refine lv_sipush (v := 216) hx hb dX1_start_35 (by decide) ?_
      refine kb_icmp_ge (tgt := 95) hx hb dX1_start_38 (by decide) (fun _ => ?_) (fun _ => ?_)
      · exact hk34 M6 _ _ _ hH (lv_sub hl [] rfl)
      · refine lv_aload_n hx hb dX1_start_41 rfl (lv_at hl 0 rfl) ?_
        refine k_get C hH fd_X1_31 oD (k_ref (M := M6) (ad := ad) rD4) dX1_start_42 ?_
        refine lv_iload_n hx hb dX1_start_45 rfl (lv_at hl 1 rfl) ?_
        refine lv_iconst (v := 0) hx hb dX1_start_46 (by decide) ?_
        refine k_iast C hH aD4 dX1_start_47 (fun M8 H locs hH => ?_)
        refine lv_aload_n hx hb dX1_start_48 rfl (lv_at hl 0 rfl) ?_
        refine k_get C hH fd_X1_35 oD (k_ref (M := M8) (ad := ad) rD5) dX1_start_49 ?_
        refine lv_iload_n hx hb dX1_start_52 rfl (lv_at hl 1 rfl) ?_
        refine lv_iconst (v := (-1)) hx hb dX1_start_53 (by decide) ?_
        refine k_iast C hH aD5 dX1_start_54 (fun M9 H locs hH => ?_)
        refine lv_aload_n hx hb dX1_start_55 rfl (lv_at hl 0 rfl) ?_
        refine k_get C hH fd_X1_38 oD (k_ref (M := M9) (ad := ad) rD6) dX1_start_56 ?_
        refine lv_iload_n hx hb dX1_start_59 rfl (lv_at hl 1 rfl) ?_
        refine lv_iconst (v := (-1)) hx hb dX1_start_60 (by decide) ?_
        refine k_iast C hH aD6 dX1_start_61 (fun M10 H locs hH => ?_)
        refine lv_aload_n hx hb dX1_start_62 rfl (lv_at hl 0 rfl) ?_
        refine k_get C hH fd_X1_41 oD (k_ref (M := M10) (ad := ad) rD7) dX1_start_63 ?_
        refine lv_iload_n hx hb dX1_start_66 rfl (lv_at hl 1 rfl) ?_
        refine lv_iconst (v := 0) hx hb dX1_start_67 (by decide) ?_
        refine k_iast C hH aD7 dX1_start_68 (fun M11 H locs hH => ?_)
        refine lv_aload_n hx hb dX1_start_69 rfl (lv_at hl 0 rfl) ?_
        refine k_get C hH fd_X1_44 oD (k_ref (M := M11) (ad := ad) rD8) dX1_start_70 ?_
        refine lv_bipush (v := 6) hx hb dX1_start_73 (by decide) ?_
        refine lv_iload_n hx hb dX1_start_75 rfl (lv_at hl 1 rfl) ?_
        refine lv_imul hx hb dX1_start_76 ?_
        refine lv_iload_n hx hb dX1_start_77 rfl (lv_at hl 1 rfl) ?_
        refine lv_bipush (v := 36) hx hb dX1_start_78 (by decide) ?_
        refine lv_idiv hx hb dX1_start_80 (by decide) ?_
        refine lv_iadd hx hb dX1_start_81 ?_
        refine lv_lconst (v := 1) hx hb dX1_start_82 (by decide) ?_
        refine lv_iload_n hx hb dX1_start_83 rfl (lv_at hl 1 rfl) ?_
        refine lv_bipush (v := 36) hx hb dX1_start_84 (by decide) ?_
        refine k_irem hx hb dX1_start_86 (by decide) ?_
        refine lv_lshl (v := (jlshl 1 (jrem v5 36))) hx hb dX1_start_87 rfl ?_
        refine k_last C hH aD8 uD dX1_start_88 (fun M12 H locs hH => ?_)
        refine W_nm (fun v13 ev13 => ?_)
        refine lv_iinc (v := v13) (lv' := [(2, .int v13), (0, .ref (ad 106))]) hx hb dX1_start_89 hl (k := 1) rfl (by rw [ev13]; rfl) (by decide) rfl (fun ls hl => ?_)
        refine lv_goto (tgt := 34) hx hb dX1_start_92 (by decide) ?_
        exact hrec34 (v13, M12) _ _ _ hH (lv_sub hl [1, 0] rfl)
  · intro rec10 k10 hrec10 hk10 ⟨v2, M3⟩ H locs ls hH hl
    have hH : KH SK E ad sz M3 s.heap H locs := hH
    have hl : lv_has ls 3 [(0, .ref (ad 106)), (2, .int v2)] := hl
    refine W_q fX1_start_L10_u ?_
    refine lv_iload_n hx hb dX1_start_10 rfl (lv_at hl 1 rfl) ?_
    refine lv_aload_n hx hb dX1_start_11 rfl (lv_at hl 0 rfl) ?_
    refine k_get C hH fd_X1_44 oD (k_ref (M := M3) (ad := ad) rD8) dX1_start_12 ?_
    refine k_llen C hH aD8 (v := 1296) rfl dX1_start_15 ?_
    refine kb_icmp_ge (tgt := 32) hx hb dX1_start_16 (by decide) (fun _ => ?_) (fun _ => ?_)
    · exact hk10 M3 _ _ _ hH (lv_sub hl [0] rfl)
    · refine lv_aload_n hx hb dX1_start_19 rfl (lv_at hl 0 rfl) ?_
      refine k_get C hH fd_X1_44 oD (k_ref (M := M3) (ad := ad) rD8) dX1_start_20 ?_
      refine lv_iload_n hx hb dX1_start_23 rfl (lv_at hl 1 rfl) ?_
      refine lv_lconst (v := 0) hx hb dX1_start_24 (by decide) ?_
      refine k_last C hH aD8 uD dX1_start_25 (fun M14 H locs hH => ?_)
      refine W_nm (fun v15 ev15 => ?_)
      refine lv_iinc (v := v15) (lv' := [(2, .int v15), (0, .ref (ad 106))]) hx hb dX1_start_26 hl (k := 1) rfl (by rw [ev15]; rfl) (by decide) rfl (fun ls hl => ?_)
      refine lv_goto (tgt := 10) hx hb dX1_start_29 (by decide) ?_
      exact hrec10 (v15, M14) _ _ _ hH (lv_sub hl [1, 0] rfl)
def fX6_head (M : KS) (o0 : Nat) (a1 : Int32) : Option (Int32) := (if a1 < 0 then some 0 else (if 11 ≤ a1 then some 0 else if inb a1 11 then some (M.1 (iRh o0) a1.toNatClampNeg) else none))
set_option maxHeartbeats 4000000 in
set_option maxRecDepth 100000 in
theorem kX6_head (l : Launch) (E : KE) (ad : Nat → Nat) (M : KS) (o0 : Nat) (ho0 : o0 < 11) (a1 : Int32) : CT l yX6_head cX6_head 2 (some .int) { frames := 0, cells := 0, slots := 0, locals := 0 } SK E ad [.ref (ad (iR o0)), .int a1] M (fun sz a => QI SK E ad sz (a, M)) (fX6_head M o0 a1) := by
  refine CT.ofW (by decide) (Nat.le_of_ble_eq_true rfl) (fun sz p e s m args below meth c C hr hH ls hl => ?_)
  have hx := C.1.1
  have hb := C.1.2.1
  have hl : lv_has ls 2 [(0, .ref (ad (iR o0))), (1, .int a1)] := hl
  unfold fX6_head
  refine lv_iload_n hx hb dX6_head_0 rfl (lv_at hl 1 rfl) ?_
  refine kb_if_lt (tgt := 22) hx hb dX6_head_1 (by decide) (fun _ => ?_) (fun _ => ?_)
  · refine lv_iconst (v := 0) hx hb dX6_head_22 (by decide) ?_
    exact ke_i C hH hr (Nat.le_refl _) (Nat.le_refl _) rfl dX6_head_23
  · refine lv_iload_n hx hb dX6_head_4 rfl (lv_at hl 1 rfl) ?_
    refine lv_aload_n hx hb dX6_head_5 rfl (lv_at hl 0 rfl) ?_
    refine k_get C hH fd_X6_9 (oR (f := o0) ho0) (k_ref (M := M) (ad := ad) (rR0 (f := o0) ho0)) dX6_head_6 ?_
    refine k_ilen C hH (aR0 (f := o0) ho0) (v := 11) rfl dX6_head_9 ?_
    refine kb_icmp_ge (tgt := 22) hx hb dX6_head_10 (by decide) (fun _ => ?_) (fun _ => ?_)
    · refine lv_iconst (v := 0) hx hb dX6_head_22 (by decide) ?_
      exact ke_i C hH hr (Nat.le_refl _) (Nat.le_refl _) rfl dX6_head_23
    · refine lv_aload_n hx hb dX6_head_13 rfl (lv_at hl 0 rfl) ?_
      refine k_get C hH fd_X6_9 (oR (f := o0) ho0) (k_ref (M := M) (ad := ad) (rR0 (f := o0) ho0)) dX6_head_14 ?_
      refine lv_iload_n hx hb dX6_head_17 rfl (lv_at hl 1 rfl) ?_
      refine k_iald C hH (aR0 (f := o0) ho0) dX6_head_18 ?_
      refine lv_goto (tgt := 23) hx hb dX6_head_19 (by decide) ?_
      exact ke_i C hH hr (Nat.le_refl _) (Nat.le_refl _) rfl dX6_head_23
def fX6_code (M : KS) (o0 : Nat) (a1 : Int32) (a2 : Int32) : Option (Int32) := (if a1 < 0 then some 0 else (if 11 ≤ a1 then some 0 else (if a2 < 0 then some 0 else (if a2 < 3 then if inb ((3 * a1) + a2) 33 then some (M.1 (iRc o0) ((3 * a1) + a2).toNatClampNeg) else none else some 0))))
set_option maxHeartbeats 4000000 in
set_option maxRecDepth 100000 in
theorem kX6_code (l : Launch) (E : KE) (ad : Nat → Nat) (M : KS) (o0 : Nat) (ho0 : o0 < 11) (a1 : Int32) (a2 : Int32) : CT l yX6_code cX6_code 3 (some .int) { frames := 0, cells := 0, slots := 0, locals := 0 } SK E ad [.ref (ad (iR o0)), .int a1, .int a2] M (fun sz a => QI SK E ad sz (a, M)) (fX6_code M o0 a1 a2) := by
  refine CT.ofW (by decide) (Nat.le_of_ble_eq_true rfl) (fun sz p e s m args below meth c C hr hH ls hl => ?_)
  have hx := C.1.1
  have hb := C.1.2.1
  have hl : lv_has ls 3 [(0, .ref (ad (iR o0))), (1, .int a1), (2, .int a2)] := hl
  unfold fX6_code
  refine lv_iload_n hx hb dX6_code_0 rfl (lv_at hl 1 rfl) ?_
  refine kb_if_lt (tgt := 22) hx hb dX6_code_1 (by decide) (fun _ => ?_) (fun _ => ?_)
  · refine lv_iconst (v := 0) hx hb dX6_code_22 (by decide) ?_
    exact ke_i C hH hr (Nat.le_refl _) (Nat.le_refl _) rfl dX6_code_23
  · refine lv_iload_n hx hb dX6_code_4 rfl (lv_at hl 1 rfl) ?_
    refine lv_aload_n hx hb dX6_code_5 rfl (lv_at hl 0 rfl) ?_
    refine k_get C hH fd_X6_9 (oR (f := o0) ho0) (k_ref (M := M) (ad := ad) (rR0 (f := o0) ho0)) dX6_code_6 ?_
    refine k_ilen C hH (aR0 (f := o0) ho0) (v := 11) rfl dX6_code_9 ?_
    refine kb_icmp_ge (tgt := 22) hx hb dX6_code_10 (by decide) (fun _ => ?_) (fun _ => ?_)
    · refine lv_iconst (v := 0) hx hb dX6_code_22 (by decide) ?_
      exact ke_i C hH hr (Nat.le_refl _) (Nat.le_refl _) rfl dX6_code_23
    · refine lv_iload_n hx hb dX6_code_13 rfl (lv_at hl 2 rfl) ?_
      refine kb_if_lt (tgt := 22) hx hb dX6_code_14 (by decide) (fun _ => ?_) (fun _ => ?_)
      · refine lv_iconst (v := 0) hx hb dX6_code_22 (by decide) ?_
        exact ke_i C hH hr (Nat.le_refl _) (Nat.le_refl _) rfl dX6_code_23
      · refine lv_iload_n hx hb dX6_code_17 rfl (lv_at hl 2 rfl) ?_
        refine lv_iconst (v := 3) hx hb dX6_code_18 (by decide) ?_
        refine kb_icmp_lt (tgt := 24) hx hb dX6_code_19 (by decide) (fun _ => ?_) (fun _ => ?_)
        · refine lv_aload_n hx hb dX6_code_24 rfl (lv_at hl 0 rfl) ?_
          refine k_get C hH fd_X6_15 (oR (f := o0) ho0) (k_ref (M := M) (ad := ad) (rR1 (f := o0) ho0)) dX6_code_25 ?_
          refine lv_iconst (v := 3) hx hb dX6_code_28 (by decide) ?_
          refine lv_iload_n hx hb dX6_code_29 rfl (lv_at hl 1 rfl) ?_
          refine lv_imul hx hb dX6_code_30 ?_
          refine lv_iload_n hx hb dX6_code_31 rfl (lv_at hl 2 rfl) ?_
          refine lv_iadd hx hb dX6_code_32 ?_
          refine k_iald C hH (aR1 (f := o0) ho0) dX6_code_33 ?_
          exact ke_i C hH hr (Nat.le_refl _) (Nat.le_refl _) rfl dX6_code_34
        · refine lv_iconst (v := 0) hx hb dX6_code_22 (by decide) ?_
          exact ke_i C hH hr (Nat.le_refl _) (Nat.le_refl _) rfl dX6_code_23
def fX9_relationIn_o (a0 : Int32) : Option (Int32) := (if 0 ≤ a0 then some ((a0 - 1) / 9) else some (((-a0) - 1) / 9))
def fX9_relationIn (a0 : Int32) : Int32 := (if 0 ≤ a0 then ((a0 - 1) / 9) else (((-a0) - 1) / 9))
theorem fX9_relationIn_s {a0 : Int32} : fX9_relationIn_o a0 = some (fX9_relationIn a0) := by
  unfold fX9_relationIn_o fX9_relationIn
  (repeat' split) <;> rfl
set_option maxHeartbeats 4000000 in
set_option maxRecDepth 100000 in
theorem kX9_relationIn_o (l : Launch) (E : KE) (ad : Nat → Nat) (M : KS) (a0 : Int32) : CT l yX9_relationIn cX9_relationIn 1 (some .int) { frames := 0, cells := 0, slots := 0, locals := 0 } SK E ad [.int a0] M (fun sz a => QI SK E ad sz (a, M)) (fX9_relationIn_o a0) := by
  refine CT.ofW (by decide) (Nat.le_of_ble_eq_true rfl) (fun sz p e s m args below meth c C hr hH ls hl => ?_)
  have hx := C.1.1
  have hb := C.1.2.1
  have hl : lv_has ls 1 [(0, .int a0)] := hl
  unfold fX9_relationIn_o
  refine lv_iload_n hx hb dX9_relationIn_0 rfl (lv_at hl 0 rfl) ?_
  refine kb_if_ge (tgt := 9) hx hb dX9_relationIn_1 (by decide) (fun _ => ?_) (fun _ => ?_)
  · refine lv_iload_n hx hb dX9_relationIn_9 rfl (lv_at hl 0 rfl) ?_
    refine lv_iconst (v := 1) hx hb dX9_relationIn_10 (by decide) ?_
    refine lv_isub hx hb dX9_relationIn_11 ?_
    refine lv_bipush (v := 9) hx hb dX9_relationIn_12 (by decide) ?_
    refine lv_idiv hx hb dX9_relationIn_14 (by decide) ?_
    exact ke_i C hH hr (Nat.le_refl _) (Nat.le_refl _) rfl dX9_relationIn_15
  · refine lv_iload_n hx hb dX9_relationIn_4 rfl (lv_at hl 0 rfl) ?_
    refine lv_ineg hx hb dX9_relationIn_5 ?_
    refine lv_goto (tgt := 10) hx hb dX9_relationIn_6 (by decide) ?_
    refine lv_iconst (v := 1) hx hb dX9_relationIn_10 (by decide) ?_
    refine lv_isub hx hb dX9_relationIn_11 ?_
    refine lv_bipush (v := 9) hx hb dX9_relationIn_12 (by decide) ?_
    refine lv_idiv hx hb dX9_relationIn_14 (by decide) ?_
    exact ke_i C hH hr (Nat.le_refl _) (Nat.le_refl _) rfl dX9_relationIn_15
theorem kX9_relationIn (l : Launch) (E : KE) (ad : Nat → Nat) (M : KS) (a0 : Int32) : CT l yX9_relationIn cX9_relationIn 1 (some .int) { frames := 0, cells := 0, slots := 0, locals := 0 } SK E ad [.int a0] M (fun sz (_ : Unit) => QI SK E ad sz (fX9_relationIn a0, M)) (some ()) := CT.pure (kX9_relationIn_o l E ad M a0) fX9_relationIn_s
def fX3_of (M : KS) (o0 : Nat) (a1 : Int32) : Option (Int32) := (if a1 < 0 then some 0 else (if 6 ≤ a1 then some 0 else if inb a1 6 then some (M.1 (iYl o0) a1.toNatClampNeg) else none))
set_option maxHeartbeats 4000000 in
set_option maxRecDepth 100000 in
theorem kX3_of (l : Launch) (E : KE) (ad : Nat → Nat) (M : KS) (o0 : Nat) (ho0 : o0 < 3) (a1 : Int32) : CT l yX3_of cX3_of 2 (some .int) { frames := 0, cells := 0, slots := 0, locals := 0 } SK E ad [.ref (ad (iY o0)), .int a1] M (fun sz a => QI SK E ad sz (a, M)) (fX3_of M o0 a1) := by
  refine CT.ofW (by decide) (Nat.le_of_ble_eq_true rfl) (fun sz p e s m args below meth c C hr hH ls hl => ?_)
  have hx := C.1.1
  have hb := C.1.2.1
  have hl : lv_has ls 2 [(0, .ref (ad (iY o0))), (1, .int a1)] := hl
  unfold fX3_of
  refine lv_iload_n hx hb dX3_of_0 rfl (lv_at hl 1 rfl) ?_
  refine kb_if_lt (tgt := 22) hx hb dX3_of_1 (by decide) (fun _ => ?_) (fun _ => ?_)
  · refine lv_iconst (v := 0) hx hb dX3_of_22 (by decide) ?_
    exact ke_i C hH hr (Nat.le_refl _) (Nat.le_refl _) rfl dX3_of_23
  · refine lv_iload_n hx hb dX3_of_4 rfl (lv_at hl 1 rfl) ?_
    refine lv_aload_n hx hb dX3_of_5 rfl (lv_at hl 0 rfl) ?_
    refine k_get C hH fd_X3_9 (oY (f := o0) ho0) (k_ref (M := M) (ad := ad) (rY0 (f := o0) ho0)) dX3_of_6 ?_
    refine k_ilen C hH (aY0 (f := o0) ho0) (v := 6) rfl dX3_of_9 ?_
    refine kb_icmp_ge (tgt := 22) hx hb dX3_of_10 (by decide) (fun _ => ?_) (fun _ => ?_)
    · refine lv_iconst (v := 0) hx hb dX3_of_22 (by decide) ?_
      exact ke_i C hH hr (Nat.le_refl _) (Nat.le_refl _) rfl dX3_of_23
    · refine lv_aload_n hx hb dX3_of_13 rfl (lv_at hl 0 rfl) ?_
      refine k_get C hH fd_X3_9 (oY (f := o0) ho0) (k_ref (M := M) (ad := ad) (rY0 (f := o0) ho0)) dX3_of_14 ?_
      refine lv_iload_n hx hb dX3_of_17 rfl (lv_at hl 1 rfl) ?_
      refine k_iald C hH (aY0 (f := o0) ho0) dX3_of_18 ?_
      refine lv_goto (tgt := 23) hx hb dX3_of_19 (by decide) ?_
      exact ke_i C hH hr (Nat.le_refl _) (Nat.le_refl _) rfl dX3_of_23
def fX3_raise (M : KS) (o0 : Nat) (a1 : Int32) (a2 : Int32) : Option (KS) := (if a1 < 0 then some M else (if 6 ≤ a1 then some M else if inb a1 6 then nm (kset M (iYl o0) a1.toNatClampNeg a2) fun M1 => some M1 else none))
set_option maxHeartbeats 4000000 in
set_option maxRecDepth 100000 in
theorem kX3_raise (l : Launch) (E : KE) (ad : Nat → Nat) (M : KS) (o0 : Nat) (ho0 : o0 < 3) (a1 : Int32) (a2 : Int32) : CT l yX3_raise cX3_raise 3 none { frames := 0, cells := 0, slots := 0, locals := 0 } SK E ad [.ref (ad (iY o0)), .int a1, .int a2] M (QV SK E ad) (fX3_raise M o0 a1 a2) := by
  refine CT.ofW (by decide) (Nat.le_of_ble_eq_true rfl) (fun sz p e s m args below meth c C hr hH ls hl => ?_)
  have hx := C.1.1
  have hb := C.1.2.1
  have hl : lv_has ls 3 [(0, .ref (ad (iY o0))), (1, .int a1), (2, .int a2)] := hl
  unfold fX3_raise
  refine lv_iload_n hx hb dX3_raise_0 rfl (lv_at hl 1 rfl) ?_
  refine kb_if_lt (tgt := 20) hx hb dX3_raise_1 (by decide) (fun _ => ?_) (fun _ => ?_)
  · exact ke_v C hH hr (Nat.le_refl _) (Nat.le_refl _) rfl dX3_raise_20
  · refine lv_iload_n hx hb dX3_raise_4 rfl (lv_at hl 1 rfl) ?_
    refine lv_aload_n hx hb dX3_raise_5 rfl (lv_at hl 0 rfl) ?_
    refine k_get C hH fd_X3_9 (oY (f := o0) ho0) (k_ref (M := M) (ad := ad) (rY0 (f := o0) ho0)) dX3_raise_6 ?_
    refine k_ilen C hH (aY0 (f := o0) ho0) (v := 6) rfl dX3_raise_9 ?_
    refine kb_icmp_ge (tgt := 20) hx hb dX3_raise_10 (by decide) (fun _ => ?_) (fun _ => ?_)
    · exact ke_v C hH hr (Nat.le_refl _) (Nat.le_refl _) rfl dX3_raise_20
    · refine lv_aload_n hx hb dX3_raise_13 rfl (lv_at hl 0 rfl) ?_
      refine k_get C hH fd_X3_9 (oY (f := o0) ho0) (k_ref (M := M) (ad := ad) (rY0 (f := o0) ho0)) dX3_raise_14 ?_
      refine lv_iload_n hx hb dX3_raise_17 rfl (lv_at hl 1 rfl) ?_
      refine lv_iload_n hx hb dX3_raise_18 rfl (lv_at hl 2 rfl) ?_
      refine k_iast C hH (aY0 (f := o0) ho0) dX3_raise_19 (fun M1 H locs hH => ?_)
      exact ke_v C hH hr (Nat.le_refl _) (Nat.le_refl _) rfl dX3_raise_20
def fX3_lift_X5 (x : Int32 × KS) : Option (Int32 × KS) := match x with | (v4, M5) => if isB v4 then some (v4, M5) else none
theorem fX3_lift_X5_u {v4 : Int32} {M5 : KS} : fX3_lift_X5 (v4, M5) = if isB v4 then some (v4, M5) else none := rfl
def fX3_lift_X22 (v2 : Int32) (rec5 : (Int32 × Int32 × KS) → Option (Int32 × KS)) (x : Int32 × KS) : Option (Int32 × KS) := match x with | (v10, M11) => nm (v2 + 1) fun v12 => rec5 (v10, v12, M11)
theorem fX3_lift_X22_u {v2 : Int32} {rec5 : (Int32 × Int32 × KS) → Option (Int32 × KS)} {v10 : Int32} {M11 : KS} : fX3_lift_X22 v2 rec5 (v10, M11) = nm (v2 + 1) fun v12 => rec5 (v10, v12, M11) := rfl
def fX3_lift_J67_40 (o0 : Nat) (v6 : Int32) (v7 : Int32) (v8 : Int32) (M9 : KS) (rec22 : (Int32 × Int32 × KS) → Option (Int32 × KS)) (v14 : Int32) : Option (Int32 × KS) := (fX3_of M9 o0 v6).bind fun v15 => (if v14 ≤ v15 then nm (v8 + 1) fun v16 => rec22 (v7, v16, M9) else (fX3_raise M9 o0 v6 v14).bind fun M17 => nm (v8 + 1) fun v18 => rec22 (1, v18, M17))
theorem fX3_lift_J67_40_u {o0 : Nat} {v6 : Int32} {v7 : Int32} {v8 : Int32} {M9 : KS} {rec22 : (Int32 × Int32 × KS) → Option (Int32 × KS)} {v14 : Int32} : fX3_lift_J67_40 o0 v6 v7 v8 M9 rec22 v14 = (fX3_of M9 o0 v6).bind fun v15 => (if v14 ≤ v15 then nm (v8 + 1) fun v16 => rec22 (v7, v16, M9) else (fX3_raise M9 o0 v6 v14).bind fun M17 => nm (v8 + 1) fun v18 => rec22 (1, v18, M17)) := rfl
def fX3_lift_L22 (o0 : Nat) (o1 : Nat) (v2 : Int32) (v6 : Int32) (rec22 : (Int32 × Int32 × KS) → Option (Int32 × KS)) (k22 : (Int32 × KS) → Option (Int32 × KS)) (x : Int32 × Int32 × KS) : Option (Int32 × KS) := match x with | (v7, v8, M9) => (if 3 ≤ v8 then k22 (v7, M9) else (fX6_code M9 o1 v2 v8).bind fun v13 => jn (fX3_lift_J67_40 o0 v6 v7 v8 M9 rec22) (fun K67_40 => (if v13 = 0 then K67_40 0 else (fX3_of M9 o0 (fX9_relationIn v13)).bind fun v19 => (if 0 ≤ v13 then K67_40 (v19 + 0) else K67_40 (v19 + 1)))))
theorem fX3_lift_L22_u {o0 : Nat} {o1 : Nat} {v2 : Int32} {v6 : Int32} {rec22 : (Int32 × Int32 × KS) → Option (Int32 × KS)} {k22 : (Int32 × KS) → Option (Int32 × KS)} {v7 : Int32} {v8 : Int32} {M9 : KS} : fX3_lift_L22 o0 o1 v2 v6 rec22 k22 (v7, v8, M9) = (if 3 ≤ v8 then k22 (v7, M9) else (fX6_code M9 o1 v2 v8).bind fun v13 => jn (fX3_lift_J67_40 o0 v6 v7 v8 M9 rec22) (fun K67_40 => (if v13 = 0 then K67_40 0 else (fX3_of M9 o0 (fX9_relationIn v13)).bind fun v19 => (if 0 ≤ v13 then K67_40 (v19 + 0) else K67_40 (v19 + 1))))) := rfl
def fX3_lift_L5 (o0 : Nat) (o1 : Nat) (a2 : Int32) (rec5 : (Int32 × Int32 × KS) → Option (Int32 × KS)) (k5 : (Int32 × KS) → Option (Int32 × KS)) (x : Int32 × Int32 × KS) : Option (Int32 × KS) := match x with | (v1, v2, M3) => (if a2 ≤ v2 then k5 (v1, M3) else (fX6_head M3 o1 v2).bind fun v6 => lp (fX3_lift_L22 o0 o1 v2 v6) (fX3_lift_X22 v2 rec5) 1000000 (v1, 0, M3))
theorem fX3_lift_L5_u {o0 : Nat} {o1 : Nat} {a2 : Int32} {rec5 : (Int32 × Int32 × KS) → Option (Int32 × KS)} {k5 : (Int32 × KS) → Option (Int32 × KS)} {v1 : Int32} {v2 : Int32} {M3 : KS} : fX3_lift_L5 o0 o1 a2 rec5 k5 (v1, v2, M3) = (if a2 ≤ v2 then k5 (v1, M3) else (fX6_head M3 o1 v2).bind fun v6 => lp (fX3_lift_L22 o0 o1 v2 v6) (fX3_lift_X22 v2 rec5) 1000000 (v1, 0, M3)) := rfl
def fX3_lift (M : KS) (o0 : Nat) (o1 : Nat) (a2 : Int32) : Option (Int32 × KS) := lp (fX3_lift_L5 o0 o1 a2) (fX3_lift_X5) 1000000 (0, 0, M)
set_option maxHeartbeats 4000000 in
set_option maxRecDepth 100000 in
theorem kX3_lift (l : Launch) (E : KE) (ad : Nat → Nat) (M : KS) (o0 : Nat) (ho0 : o0 < 3) (o1 : Nat) (ho1 : o1 < 11) (a2 : Int32) : CT l yX3_lift cX3_lift 9 (some .boolean) { frames := 1, cells := 0, slots := 0, locals := 22 } SK E ad [.ref (ad (iY o0)), .ref (ad (iR o1)), .int a2] M (QI SK E ad) (fX3_lift M o0 o1 a2) := by
  refine CT.ofW (by decide) (Nat.le_of_ble_eq_true rfl) (fun sz p e s m args below meth c C hr hH ls hl => ?_)
  have hx := C.1.1
  have hb := C.1.2.1
  have hl : lv_has ls 9 [(0, .ref (ad (iY o0))), (1, .ref (ad (iR o1))), (2, .int a2)] := hl
  unfold fX3_lift
  refine lv_iconst (v := 0) hx hb dX3_lift_0 (by decide) ?_
  refine lv_istore_n (lv' := [(3, .int 0), (0, .ref (ad (iY o0))), (1, .ref (ad (iR o1))), (2, .int a2)]) hx hb dX3_lift_1 rfl hl (by decide) rfl (fun ls hl => ?_)
  refine lv_iconst (v := 0) hx hb dX3_lift_2 (by decide) ?_
  refine lv_istore (lv' := [(4, .int 0), (3, .int 0), (0, .ref (ad (iY o0))), (1, .ref (ad (iR o1))), (2, .int a2)]) hx hb dX3_lift_3 hl (by decide) rfl (fun ls hl => ?_)
  refine W_lp (fun (x : Int32 × Int32 × KS) H locs => KH SK E ad sz x.2.2 s.heap H locs) (fun x ls => lv_has ls 9 [(0, .ref (ad (iY o0))), (1, .ref (ad (iR o1))), (2, .int a2), (3, .int x.1), (4, .int x.2.1)]) (fun _ ls => F0 m 5 ls []) (fun (x : Int32 × KS) H locs => KH SK E ad sz x.2 s.heap H locs) (fun x ls => lv_has ls 9 [(3, .int x.1)]) (fun _ ls => F0 m 102 ls []) ?_ ?_ hH (lv_sub hl [2, 3, 4, 1, 0] rfl)
  · intro ⟨v4, M5⟩ H locs ls hH hl
    have hH : KH SK E ad sz M5 s.heap H locs := hH
    have hl : lv_has ls 9 [(3, .int v4)] := hl
    refine W_q fX3_lift_X5_u ?_
    refine lv_iload_n hx hb dX3_lift_102 rfl (lv_at hl 0 rfl) ?_
    exact ke_zg C hH hr (Nat.le_refl _) (Nat.le_refl _) rfl dX3_lift_103
  · intro rec5 k5 hrec5 hk5 ⟨v1, v2, M3⟩ H locs ls hH hl
    have hH : KH SK E ad sz M3 s.heap H locs := hH
    have hl : lv_has ls 9 [(0, .ref (ad (iY o0))), (1, .ref (ad (iR o1))), (2, .int a2), (3, .int v1), (4, .int v2)] := hl
    refine W_q fX3_lift_L5_u ?_
    refine lv_iload hx hb dX3_lift_5 (lv_at hl 4 rfl) ?_
    refine lv_iload_n hx hb dX3_lift_7 rfl (lv_at hl 2 rfl) ?_
    refine kb_icmp_ge (tgt := 102) hx hb dX3_lift_8 (by decide) (fun _ => ?_) (fun _ => ?_)
    · exact hk5 (v1, M3) _ _ _ hH (lv_sub hl [3] rfl)
    · refine lv_aload_n hx hb dX3_lift_11 rfl (lv_at hl 1 rfl) ?_
      refine lv_iload hx hb dX3_lift_12 (lv_at hl 4 rfl) ?_
      refine kg_io C hH (kc_V C hH w_2_47 lc_yX6_head li_yX6_head (oR (f := o1) ho1) (kX6_head l E ad M3 o1 ho1 v2) (As := [.int v2]) rfl dX3_lift_14 rfl hl.1 (Nat.le_of_ble_eq_true rfl) ⟨Nat.le_of_ble_eq_true rfl, Nat.le_of_ble_eq_true rfl⟩ ⟨Nat.le_of_ble_eq_true rfl, Nat.le_of_ble_eq_true rfl⟩) ⟨rfl, rfl⟩ (fun v6 H locs hH => ?_)
      refine lv_istore (lv' := [(5, .int v6), (0, .ref (ad (iY o0))), (1, .ref (ad (iR o1))), (2, .int a2), (3, .int v1), (4, .int v2)]) hx hb dX3_lift_17 hl (by decide) rfl (fun ls hl => ?_)
      refine lv_iconst (v := 0) hx hb dX3_lift_19 (by decide) ?_
      refine lv_istore (lv' := [(6, .int 0), (5, .int v6), (0, .ref (ad (iY o0))), (1, .ref (ad (iR o1))), (2, .int a2), (3, .int v1), (4, .int v2)]) hx hb dX3_lift_20 hl (by decide) rfl (fun ls hl => ?_)
      refine W_lp (fun (x : Int32 × Int32 × KS) H locs => KH SK E ad sz x.2.2 s.heap H locs) (fun x ls => lv_has ls 9 [(5, .int v6), (0, .ref (ad (iY o0))), (1, .ref (ad (iR o1))), (2, .int a2), (4, .int v2), (3, .int x.1), (6, .int x.2.1)]) (fun _ ls => F0 m 22 ls []) (fun (x : Int32 × KS) H locs => KH SK E ad sz x.2 s.heap H locs) (fun x ls => lv_has ls 9 [(0, .ref (ad (iY o0))), (1, .ref (ad (iR o1))), (2, .int a2), (4, .int v2), (3, .int x.1)]) (fun _ ls => F0 m 96 ls []) ?_ ?_ hH (lv_sub hl [1, 2, 3, 4, 6, 5, 0] rfl)
      · intro ⟨v10, M11⟩ H locs ls hH hl
        have hH : KH SK E ad sz M11 s.heap H locs := hH
        have hl : lv_has ls 9 [(0, .ref (ad (iY o0))), (1, .ref (ad (iR o1))), (2, .int a2), (4, .int v2), (3, .int v10)] := hl
        refine W_q fX3_lift_X22_u ?_
        refine W_nm (fun v12 ev12 => ?_)
        refine lv_iinc (v := v12) (lv' := [(4, .int v12), (0, .ref (ad (iY o0))), (1, .ref (ad (iR o1))), (2, .int a2), (3, .int v10)]) hx hb dX3_lift_96 hl (k := 3) rfl (by rw [ev12]; rfl) (by decide) rfl (fun ls hl => ?_)
        refine lv_goto (tgt := 5) hx hb dX3_lift_99 (by decide) ?_
        exact hrec5 (v10, v12, M11) _ _ _ hH (lv_sub hl [1, 2, 3, 4, 0] rfl)
      · intro rec22 k22 hrec22 hk22 ⟨v7, v8, M9⟩ H locs ls hH hl
        have hH : KH SK E ad sz M9 s.heap H locs := hH
        have hl : lv_has ls 9 [(5, .int v6), (0, .ref (ad (iY o0))), (1, .ref (ad (iR o1))), (2, .int a2), (4, .int v2), (3, .int v7), (6, .int v8)] := hl
        refine W_q fX3_lift_L22_u ?_
        refine lv_iload hx hb dX3_lift_22 (lv_at hl 6 rfl) ?_
        refine lv_iconst (v := 3) hx hb dX3_lift_24 (by decide) ?_
        refine kb_icmp_ge (tgt := 96) hx hb dX3_lift_25 (by decide) (fun _ => ?_) (fun _ => ?_)
        · exact hk22 (v7, M9) _ _ _ hH (lv_sub hl [1, 2, 3, 4, 5] rfl)
        · refine lv_aload_n hx hb dX3_lift_28 rfl (lv_at hl 2 rfl) ?_
          refine lv_iload hx hb dX3_lift_29 (lv_at hl 4 rfl) ?_
          refine lv_iload hx hb dX3_lift_31 (lv_at hl 6 rfl) ?_
          refine kg_io C hH (kc_V C hH w_2_51 lc_yX6_code li_yX6_code (oR (f := o1) ho1) (kX6_code l E ad M9 o1 ho1 v2 v8) (As := [.int v2, .int v8]) rfl dX3_lift_33 rfl hl.1 (Nat.le_of_ble_eq_true rfl) ⟨Nat.le_of_ble_eq_true rfl, Nat.le_of_ble_eq_true rfl⟩ ⟨Nat.le_of_ble_eq_true rfl, Nat.le_of_ble_eq_true rfl⟩) ⟨rfl, rfl⟩ (fun v13 H locs hH => ?_)
          refine lv_istore (lv' := [(7, .int v13), (5, .int v6), (0, .ref (ad (iY o0))), (1, .ref (ad (iR o1))), (2, .int a2), (4, .int v2), (3, .int v7), (6, .int v8)]) hx hb dX3_lift_36 hl (by decide) rfl (fun ls hl => ?_)
          refine lv_iload hx hb dX3_lift_38 (lv_at hl 0 rfl) ?_
          refine W_jn (fun (x : Int32) H locs => KH SK E ad sz M9 s.heap H locs) (fun x ls => lv_has ls 9 [(5, .int v6), (0, .ref (ad (iY o0))), (1, .ref (ad (iR o1))), (2, .int a2), (4, .int v2), (3, .int v7), (6, .int v8)]) (fun x ls => F0 m 67 ls [.int x]) ?_ (fun K67_40 hK67_40 => ?_)
          · intro v14 H locs ls hH hl
            have hH : KH SK E ad sz M9 s.heap H locs := hH
            have hl : lv_has ls 9 [(5, .int v6), (0, .ref (ad (iY o0))), (1, .ref (ad (iR o1))), (2, .int a2), (4, .int v2), (3, .int v7), (6, .int v8)] := hl
            refine W_q fX3_lift_J67_40_u ?_
            refine lv_istore (lv' := [(8, .int v14), (5, .int v6), (0, .ref (ad (iY o0))), (1, .ref (ad (iR o1))), (2, .int a2), (4, .int v2), (3, .int v7), (6, .int v8)]) hx hb dX3_lift_67 hl (by decide) rfl (fun ls hl => ?_)
            refine lv_aload_n hx hb dX3_lift_69 rfl (lv_at hl 2 rfl) ?_
            refine lv_iload hx hb dX3_lift_70 (lv_at hl 1 rfl) ?_
            refine kg_io C hH (kc_V C hH w_2_58 lc_yX3_of li_yX3_of (oY (f := o0) ho0) (kX3_of l E ad M9 o0 ho0 v6) (As := [.int v6]) rfl dX3_lift_72 rfl hl.1 (Nat.le_of_ble_eq_true rfl) ⟨Nat.le_of_ble_eq_true rfl, Nat.le_of_ble_eq_true rfl⟩ ⟨Nat.le_of_ble_eq_true rfl, Nat.le_of_ble_eq_true rfl⟩) ⟨rfl, rfl⟩ (fun v15 H locs hH => ?_)
            refine lv_iload hx hb dX3_lift_75 (lv_at hl 0 rfl) ?_
            refine kb_icmp_ge (tgt := 90) hx hb dX3_lift_77 (by decide) (fun _ => ?_) (fun _ => ?_)
            · refine W_nm (fun v16 ev16 => ?_)
              refine lv_iinc (v := v16) (lv' := [(6, .int v16), (8, .int v14), (5, .int v6), (0, .ref (ad (iY o0))), (1, .ref (ad (iR o1))), (2, .int a2), (4, .int v2), (3, .int v7)]) hx hb dX3_lift_90 hl (k := 7) rfl (by rw [ev16]; rfl) (by decide) rfl (fun ls hl => ?_)
              refine lv_goto (tgt := 22) hx hb dX3_lift_93 (by decide) ?_
              exact hrec22 (v7, v16, M9) _ _ _ hH (lv_sub hl [2, 3, 4, 5, 6, 7, 0] rfl)
            · refine lv_aload_n hx hb dX3_lift_80 rfl (lv_at hl 2 rfl) ?_
              refine lv_iload hx hb dX3_lift_81 (lv_at hl 1 rfl) ?_
              refine lv_iload hx hb dX3_lift_83 (lv_at hl 0 rfl) ?_
              refine kg_v C hH (kc_V C hH w_2_62 lc_yX3_raise li_yX3_raise (oY (f := o0) ho0) (kX3_raise l E ad M9 o0 ho0 v6 v14) (As := [.int v6, .int v14]) rfl dX3_lift_85 rfl hl.1 (Nat.le_of_ble_eq_true rfl) ⟨Nat.le_of_ble_eq_true rfl, Nat.le_of_ble_eq_true rfl⟩ ⟨Nat.le_of_ble_eq_true rfl, Nat.le_of_ble_eq_true rfl⟩) ⟨rfl, rfl⟩ (fun M17 H locs hH => ?_)
              refine lv_iconst (v := 1) hx hb dX3_lift_88 (by decide) ?_
              refine lv_istore_n (lv' := [(3, .int 1), (8, .int v14), (5, .int v6), (0, .ref (ad (iY o0))), (1, .ref (ad (iR o1))), (2, .int a2), (4, .int v2), (6, .int v8)]) hx hb dX3_lift_89 rfl hl (by decide) rfl (fun ls hl => ?_)
              refine W_nm (fun v18 ev18 => ?_)
              refine lv_iinc (v := v18) (lv' := [(6, .int v18), (3, .int 1), (8, .int v14), (5, .int v6), (0, .ref (ad (iY o0))), (1, .ref (ad (iR o1))), (2, .int a2), (4, .int v2)]) hx hb dX3_lift_90 hl (k := 7) rfl (by rw [ev18]; rfl) (by decide) rfl (fun ls hl => ?_)
              refine lv_goto (tgt := 22) hx hb dX3_lift_93 (by decide) ?_
              exact hrec22 (1, v18, M17) _ _ _ hH (lv_sub hl [3, 4, 5, 6, 7, 1, 0] rfl)
          · refine kb_if_ne (tgt := 47) hx hb dX3_lift_40 (by decide) (fun _ => ?_) (fun _ => ?_)
            · refine lv_aload_n hx hb dX3_lift_47 rfl (lv_at hl 2 rfl) ?_
              refine lv_iload hx hb dX3_lift_48 (lv_at hl 0 rfl) ?_
              refine kg_ip C hH (kc_SN C hH w_2_55 w_st_yX9_relationIn lc_yX9_relationIn (kX9_relationIn l E ad M9 v13) (As := [.int v13]) rfl dX3_lift_50 rfl hl.1 (Nat.le_of_ble_eq_true rfl) ⟨Nat.le_of_ble_eq_true rfl, Nat.le_of_ble_eq_true rfl⟩ ⟨Nat.le_of_ble_eq_true rfl, Nat.le_of_ble_eq_true rfl⟩) ⟨rfl, rfl⟩ (fun H locs hH => ?_)
              refine kg_io C hH (kc_V C hH w_2_58 lc_yX3_of li_yX3_of (oY (f := o0) ho0) (kX3_of l E ad M9 o0 ho0 (fX9_relationIn v13)) (As := [.int (fX9_relationIn v13)]) rfl dX3_lift_53 rfl hl.1 (Nat.le_of_ble_eq_true rfl) ⟨Nat.le_of_ble_eq_true rfl, Nat.le_of_ble_eq_true rfl⟩ ⟨Nat.le_of_ble_eq_true rfl, Nat.le_of_ble_eq_true rfl⟩) ⟨rfl, rfl⟩ (fun v19 H locs hH => ?_)
              refine lv_iload hx hb dX3_lift_56 (lv_at hl 0 rfl) ?_
              refine kb_if_ge (tgt := 65) hx hb dX3_lift_58 (by decide) (fun _ => ?_) (fun _ => ?_)
              · refine lv_iconst (v := 0) hx hb dX3_lift_65 (by decide) ?_
                refine lv_iadd hx hb dX3_lift_66 ?_
                exact hK67_40 (v19 + 0) _ _ _ hH (lv_sub hl [1, 2, 3, 4, 5, 6, 7] rfl)
              · refine lv_iconst (v := 1) hx hb dX3_lift_61 (by decide) ?_
                refine lv_goto (tgt := 66) hx hb dX3_lift_62 (by decide) ?_
                refine lv_iadd hx hb dX3_lift_66 ?_
                exact hK67_40 (v19 + 1) _ _ _ hH (lv_sub hl [1, 2, 3, 4, 5, 6, 7] rfl)
            · refine lv_iconst (v := 0) hx hb dX3_lift_43 (by decide) ?_
              refine lv_goto (tgt := 67) hx hb dX3_lift_44 (by decide) ?_
              exact hK67_40 0 _ _ _ hH (lv_sub hl [1, 2, 3, 4, 5, 6, 7] rfl)
def fX3_count_X4 (v3 : Int32) : Option (Int32) := some (v3 + 1)
theorem fX3_count_X4_u {v3 : Int32} : fX3_count_X4 v3 = some (v3 + 1) := rfl
def fX3_count_L4 (M : KS) (o0 : Nat) (rec4 : (Int32 × Int32) → Option (Int32)) (k4 : (Int32) → Option (Int32)) (x : Int32 × Int32) : Option (Int32) := match x with | (v1, v2) => (if 6 ≤ v2 then k4 v1 else if inb v2 6 then nm ((jmax v1 (M.1 (iYl o0) v2.toNatClampNeg))) fun v4 => nm (v2 + 1) fun v5 => rec4 (v4, v5) else none)
theorem fX3_count_L4_u {M : KS} {o0 : Nat} {rec4 : (Int32 × Int32) → Option (Int32)} {k4 : (Int32) → Option (Int32)} {v1 : Int32} {v2 : Int32} : fX3_count_L4 M o0 rec4 k4 (v1, v2) = (if 6 ≤ v2 then k4 v1 else if inb v2 6 then nm ((jmax v1 (M.1 (iYl o0) v2.toNatClampNeg))) fun v4 => nm (v2 + 1) fun v5 => rec4 (v4, v5) else none) := rfl
def fX3_count (M : KS) (o0 : Nat) : Option (Int32) := lp (fX3_count_L4 M o0) (fX3_count_X4) 1000000 (0, 0)
set_option maxHeartbeats 4000000 in
set_option maxRecDepth 100000 in
theorem kX3_count (l : Launch) (E : KE) (ad : Nat → Nat) (M : KS) (o0 : Nat) (ho0 : o0 < 3) : CT l yX3_count cX3_count 3 (some .int) { frames := 1, cells := 0, slots := 0, locals := 24 } SK E ad [.ref (ad (iY o0))] M (fun sz a => QI SK E ad sz (a, M)) (fX3_count M o0) := by
  refine CT.ofW (by decide) (Nat.le_of_ble_eq_true rfl) (fun sz p e s m args below meth c C hr hH ls hl => ?_)
  have hx := C.1.1
  have hb := C.1.2.1
  have hl : lv_has ls 3 [(0, .ref (ad (iY o0)))] := hl
  unfold fX3_count
  refine lv_iconst (v := 0) hx hb dX3_count_0 (by decide) ?_
  refine lv_istore_n (lv' := [(1, .int 0), (0, .ref (ad (iY o0)))]) hx hb dX3_count_1 rfl hl (by decide) rfl (fun ls hl => ?_)
  refine lv_iconst (v := 0) hx hb dX3_count_2 (by decide) ?_
  refine lv_istore_n (lv' := [(2, .int 0), (1, .int 0), (0, .ref (ad (iY o0)))]) hx hb dX3_count_3 rfl hl (by decide) rfl (fun ls hl => ?_)
  refine W_lp (fun (x : Int32 × Int32) H locs => KH SK E ad sz M s.heap H locs) (fun x ls => lv_has ls 3 [(0, .ref (ad (iY o0))), (1, .int x.1), (2, .int x.2)]) (fun _ ls => F0 m 4 ls []) (fun (x : Int32) H locs => KH SK E ad sz M s.heap H locs) (fun x ls => lv_has ls 3 [(1, .int x)]) (fun _ ls => F0 m 30 ls []) ?_ ?_ hH (lv_sub hl [2, 1, 0] rfl)
  · intro v3 H locs ls hH hl
    have hH : KH SK E ad sz M s.heap H locs := hH
    have hl : lv_has ls 3 [(1, .int v3)] := hl
    refine W_q fX3_count_X4_u ?_
    refine lv_iload_n hx hb dX3_count_30 rfl (lv_at hl 0 rfl) ?_
    refine lv_iconst (v := 1) hx hb dX3_count_31 (by decide) ?_
    refine lv_iadd hx hb dX3_count_32 ?_
    exact ke_i C hH hr (Nat.le_refl _) (Nat.le_refl _) rfl dX3_count_33
  · intro rec4 k4 hrec4 hk4 ⟨v1, v2⟩ H locs ls hH hl
    have hH : KH SK E ad sz M s.heap H locs := hH
    have hl : lv_has ls 3 [(0, .ref (ad (iY o0))), (1, .int v1), (2, .int v2)] := hl
    refine W_q fX3_count_L4_u ?_
    refine lv_iload_n hx hb dX3_count_4 rfl (lv_at hl 2 rfl) ?_
    refine lv_aload_n hx hb dX3_count_5 rfl (lv_at hl 0 rfl) ?_
    refine k_get C hH fd_X3_9 (oY (f := o0) ho0) (k_ref (M := M) (ad := ad) (rY0 (f := o0) ho0)) dX3_count_6 ?_
    refine k_ilen C hH (aY0 (f := o0) ho0) (v := 6) rfl dX3_count_9 ?_
    refine kb_icmp_ge (tgt := 30) hx hb dX3_count_10 (by decide) (fun _ => ?_) (fun _ => ?_)
    · exact hk4 v1 _ _ _ hH (lv_sub hl [1] rfl)
    · refine lv_iload_n hx hb dX3_count_13 rfl (lv_at hl 1 rfl) ?_
      refine lv_aload_n hx hb dX3_count_14 rfl (lv_at hl 0 rfl) ?_
      refine k_get C hH fd_X3_9 (oY (f := o0) ho0) (k_ref (M := M) (ad := ad) (rY0 (f := o0) ho0)) dX3_count_15 ?_
      refine lv_iload_n hx hb dX3_count_18 rfl (lv_at hl 2 rfl) ?_
      refine k_iald C hH (aY0 (f := o0) ho0) dX3_count_19 ?_
      refine k_mmax C w_2_70 hl.1 (Nat.le_of_ble_eq_true rfl) (Nat.le_of_ble_eq_true rfl) ⟨Nat.zero_le _, Nat.zero_le _⟩ dX3_count_20 ?_
      refine W_nmi (fun v4 => ?_)
      refine lv_istore_n (lv' := [(1, .int v4), (0, .ref (ad (iY o0))), (2, .int v2)]) hx hb dX3_count_23 rfl hl (by decide) rfl (fun ls hl => ?_)
      refine W_nm (fun v5 ev5 => ?_)
      refine lv_iinc (v := v5) (lv' := [(2, .int v5), (1, .int v4), (0, .ref (ad (iY o0)))]) hx hb dX3_count_24 hl (k := 2) rfl (by rw [ev5]; rfl) (by decide) rfl (fun ls hl => ?_)
      refine lv_goto (tgt := 4) hx hb dX3_count_27 (by decide) ?_
      exact hrec4 (v4, v5) _ _ _ hH (lv_sub hl [2, 1, 0] rfl)
def fX3_arrange_X26 (M6 : KS) : Option (Int32 × KS) := some (0, M6)
theorem fX3_arrange_X26_u {M6 : KS} : fX3_arrange_X26 M6 = some (0, M6) := rfl
def fX3_arrange_L26 (o0 : Nat) (o1 : Nat) (a2 : Int32) (rec26 : (Int32 × KS) → Option (Int32 × KS)) (k26 : (KS) → Option (Int32 × KS)) (x : Int32 × KS) : Option (Int32 × KS) := match x with | (v4, M5) => (if 36 < v4 then k26 M5 else bd2 (fX3_lift M5 o0 o1 a2) fun v8 M7 => (if v8 = 0 then some (1, M7) else (fX3_count M7 o0).bind fun v9 => (if v9 ≤ 6 then nm (v4 + 1) fun v10 => rec26 (v10, M7) else some (0, M7))))
theorem fX3_arrange_L26_u {o0 : Nat} {o1 : Nat} {a2 : Int32} {rec26 : (Int32 × KS) → Option (Int32 × KS)} {k26 : (KS) → Option (Int32 × KS)} {v4 : Int32} {M5 : KS} : fX3_arrange_L26 o0 o1 a2 rec26 k26 (v4, M5) = (if 36 < v4 then k26 M5 else bd2 (fX3_lift M5 o0 o1 a2) fun v8 M7 => (if v8 = 0 then some (1, M7) else (fX3_count M7 o0).bind fun v9 => (if v9 ≤ 6 then nm (v4 + 1) fun v10 => rec26 (v10, M7) else some (0, M7)))) := rfl
def fX3_arrange_X2 (o0 : Nat) (o1 : Nat) (a2 : Int32) (M3 : KS) : Option (Int32 × KS) := lp (fX3_arrange_L26 o0 o1 a2) (fX3_arrange_X26) 1000000 (0, M3)
theorem fX3_arrange_X2_u {o0 : Nat} {o1 : Nat} {a2 : Int32} {M3 : KS} : fX3_arrange_X2 o0 o1 a2 M3 = lp (fX3_arrange_L26 o0 o1 a2) (fX3_arrange_X26) 1000000 (0, M3) := rfl
def fX3_arrange_L2 (o0 : Nat) (rec2 : (Int32 × KS) → Option (Int32 × KS)) (k2 : (KS) → Option (Int32 × KS)) (x : Int32 × KS) : Option (Int32 × KS) := match x with | (v1, M2) => (if 6 ≤ v1 then k2 M2 else if inb v1 6 then nm (kset M2 (iYl o0) v1.toNatClampNeg 0) fun M11 => nm (v1 + 1) fun v12 => rec2 (v12, M11) else none)
theorem fX3_arrange_L2_u {o0 : Nat} {rec2 : (Int32 × KS) → Option (Int32 × KS)} {k2 : (KS) → Option (Int32 × KS)} {v1 : Int32} {M2 : KS} : fX3_arrange_L2 o0 rec2 k2 (v1, M2) = (if 6 ≤ v1 then k2 M2 else if inb v1 6 then nm (kset M2 (iYl o0) v1.toNatClampNeg 0) fun M11 => nm (v1 + 1) fun v12 => rec2 (v12, M11) else none) := rfl
def fX3_arrange (M : KS) (o0 : Nat) (o1 : Nat) (a2 : Int32) : Option (Int32 × KS) := lp (fX3_arrange_L2 o0) (fX3_arrange_X2 o0 o1 a2) 1000000 (0, M)
set_option maxHeartbeats 4000000 in
set_option maxRecDepth 100000 in
theorem kX3_arrange (l : Launch) (E : KE) (ad : Nat → Nat) (M : KS) (o0 : Nat) (ho0 : o0 < 3) (o1 : Nat) (ho1 : o1 < 11) (a2 : Int32) : CT l yX3_arrange cX3_arrange 4 (some .boolean) { frames := 2, cells := 0, slots := 0, locals := 50 } SK E ad [.ref (ad (iY o0)), .ref (ad (iR o1)), .int a2] M (QI SK E ad) (fX3_arrange M o0 o1 a2) := by
  refine CT.ofW (by decide) (Nat.le_of_ble_eq_true rfl) (fun sz p e s m args below meth c C hr hH ls hl => ?_)
  have hx := C.1.1
  have hb := C.1.2.1
  have hl : lv_has ls 4 [(0, .ref (ad (iY o0))), (1, .ref (ad (iR o1))), (2, .int a2)] := hl
  unfold fX3_arrange
  refine lv_iconst (v := 0) hx hb dX3_arrange_0 (by decide) ?_
  refine lv_istore_n (lv' := [(3, .int 0), (0, .ref (ad (iY o0))), (1, .ref (ad (iR o1))), (2, .int a2)]) hx hb dX3_arrange_1 rfl hl (by decide) rfl (fun ls hl => ?_)
  refine W_lp (fun (x : Int32 × KS) H locs => KH SK E ad sz x.2 s.heap H locs) (fun x ls => lv_has ls 4 [(0, .ref (ad (iY o0))), (1, .ref (ad (iR o1))), (2, .int a2), (3, .int x.1)]) (fun _ ls => F0 m 2 ls []) (fun (x : KS) H locs => KH SK E ad sz x s.heap H locs) (fun x ls => lv_has ls 4 [(0, .ref (ad (iY o0))), (1, .ref (ad (iR o1))), (2, .int a2)]) (fun _ ls => F0 m 24 ls []) ?_ ?_ hH (lv_sub hl [1, 2, 3, 0] rfl)
  · intro M3 H locs ls hH hl
    have hH : KH SK E ad sz M3 s.heap H locs := hH
    have hl : lv_has ls 4 [(0, .ref (ad (iY o0))), (1, .ref (ad (iR o1))), (2, .int a2)] := hl
    refine W_q fX3_arrange_X2_u ?_
    refine lv_iconst (v := 0) hx hb dX3_arrange_24 (by decide) ?_
    refine lv_istore_n (lv' := [(3, .int 0), (0, .ref (ad (iY o0))), (1, .ref (ad (iR o1))), (2, .int a2)]) hx hb dX3_arrange_25 rfl hl (by decide) rfl (fun ls hl => ?_)
    refine W_lp (fun (x : Int32 × KS) H locs => KH SK E ad sz x.2 s.heap H locs) (fun x ls => lv_has ls 4 [(0, .ref (ad (iY o0))), (1, .ref (ad (iR o1))), (2, .int a2), (3, .int x.1)]) (fun _ ls => F0 m 26 ls []) (fun (x : KS) H locs => KH SK E ad sz x s.heap H locs) (fun x ls => lv_has ls 4 []) (fun _ ls => F0 m 60 ls []) ?_ ?_ hH (lv_sub hl [1, 2, 3, 0] rfl)
    · intro M6 H locs ls hH hl
      have hH : KH SK E ad sz M6 s.heap H locs := hH
      have hl : lv_has ls 4 [] := hl
      refine W_q fX3_arrange_X26_u ?_
      refine lv_iconst (v := 0) hx hb dX3_arrange_60 (by decide) ?_
      exact ke_z C hH hr (Nat.le_refl _) (Nat.le_refl _) rfl (Or.inl rfl) dX3_arrange_61
    · intro rec26 k26 hrec26 hk26 ⟨v4, M5⟩ H locs ls hH hl
      have hH : KH SK E ad sz M5 s.heap H locs := hH
      have hl : lv_has ls 4 [(0, .ref (ad (iY o0))), (1, .ref (ad (iR o1))), (2, .int a2), (3, .int v4)] := hl
      refine W_q fX3_arrange_L26_u ?_
      refine lv_iload_n hx hb dX3_arrange_26 rfl (lv_at hl 3 rfl) ?_
      refine lv_bipush (v := 36) hx hb dX3_arrange_27 (by decide) ?_
      refine kb_icmp_gt (tgt := 60) hx hb dX3_arrange_29 (by decide) (fun _ => ?_) (fun _ => ?_)
      · exact hk26 M5 _ _ _ hH (lv_sub hl [] rfl)
      · refine lv_aload_n hx hb dX3_arrange_32 rfl (lv_at hl 0 rfl) ?_
        refine lv_aload_n hx hb dX3_arrange_33 rfl (lv_at hl 1 rfl) ?_
        refine lv_iload_n hx hb dX3_arrange_34 rfl (lv_at hl 2 rfl) ?_
        refine kg_ib C hH (kc_V C hH w_2_43 lc_yX3_lift li_yX3_lift (oY (f := o0) ho0) (kX3_lift l E ad M5 o0 ho0 o1 ho1 a2) (As := [.ref (ad (iR o1)), .int a2]) rfl dX3_arrange_35 rfl hl.1 (Nat.le_of_ble_eq_true rfl) ⟨Nat.le_of_ble_eq_true rfl, Nat.le_of_ble_eq_true rfl⟩ ⟨Nat.le_of_ble_eq_true rfl, Nat.le_of_ble_eq_true rfl⟩) ⟨rfl, rfl⟩ (fun v8 M7 H locs hH => ?_)
        refine kb_if_ne (tgt := 43) hx hb dX3_arrange_38 (by decide) (fun _ => ?_) (fun _ => ?_)
        · refine lv_aload_n hx hb dX3_arrange_43 rfl (lv_at hl 0 rfl) ?_
          refine kg_io C hH (kc_V C hH w_2_66 lc_yX3_count li_yX3_count (oY (f := o0) ho0) (kX3_count l E ad M7 o0 ho0) (As := []) rfl dX3_arrange_44 rfl hl.1 (Nat.le_of_ble_eq_true rfl) ⟨Nat.le_of_ble_eq_true rfl, Nat.le_of_ble_eq_true rfl⟩ ⟨Nat.le_of_ble_eq_true rfl, Nat.le_of_ble_eq_true rfl⟩) ⟨rfl, rfl⟩ (fun v9 H locs hH => ?_)
          refine lv_bipush (v := 6) hx hb dX3_arrange_47 (by decide) ?_
          refine kb_icmp_le (tgt := 54) hx hb dX3_arrange_49 (by decide) (fun _ => ?_) (fun _ => ?_)
          · refine W_nm (fun v10 ev10 => ?_)
            refine lv_iinc (v := v10) (lv' := [(3, .int v10), (0, .ref (ad (iY o0))), (1, .ref (ad (iR o1))), (2, .int a2)]) hx hb dX3_arrange_54 hl (k := 3) rfl (by rw [ev10]; rfl) (by decide) rfl (fun ls hl => ?_)
            refine lv_goto (tgt := 26) hx hb dX3_arrange_57 (by decide) ?_
            exact hrec26 (v10, M7) _ _ _ hH (lv_sub hl [1, 2, 3, 0] rfl)
          · refine lv_iconst (v := 0) hx hb dX3_arrange_52 (by decide) ?_
            exact ke_z C hH hr (Nat.le_refl _) (Nat.le_refl _) rfl (Or.inl rfl) dX3_arrange_53
        · refine lv_iconst (v := 1) hx hb dX3_arrange_41 (by decide) ?_
          exact ke_z C hH hr (Nat.le_refl _) (Nat.le_refl _) rfl (Or.inr rfl) dX3_arrange_42
  · intro rec2 k2 hrec2 hk2 ⟨v1, M2⟩ H locs ls hH hl
    have hH : KH SK E ad sz M2 s.heap H locs := hH
    have hl : lv_has ls 4 [(0, .ref (ad (iY o0))), (1, .ref (ad (iR o1))), (2, .int a2), (3, .int v1)] := hl
    refine W_q fX3_arrange_L2_u ?_
    refine lv_iload_n hx hb dX3_arrange_2 rfl (lv_at hl 3 rfl) ?_
    refine lv_aload_n hx hb dX3_arrange_3 rfl (lv_at hl 0 rfl) ?_
    refine k_get C hH fd_X3_9 (oY (f := o0) ho0) (k_ref (M := M2) (ad := ad) (rY0 (f := o0) ho0)) dX3_arrange_4 ?_
    refine k_ilen C hH (aY0 (f := o0) ho0) (v := 6) rfl dX3_arrange_7 ?_
    refine kb_icmp_ge (tgt := 24) hx hb dX3_arrange_8 (by decide) (fun _ => ?_) (fun _ => ?_)
    · exact hk2 M2 _ _ _ hH (lv_sub hl [0, 1, 2] rfl)
    · refine lv_aload_n hx hb dX3_arrange_11 rfl (lv_at hl 0 rfl) ?_
      refine k_get C hH fd_X3_9 (oY (f := o0) ho0) (k_ref (M := M2) (ad := ad) (rY0 (f := o0) ho0)) dX3_arrange_12 ?_
      refine lv_iload_n hx hb dX3_arrange_15 rfl (lv_at hl 3 rfl) ?_
      refine lv_iconst (v := 0) hx hb dX3_arrange_16 (by decide) ?_
      refine k_iast C hH (aY0 (f := o0) ho0) dX3_arrange_17 (fun M11 H locs hH => ?_)
      refine W_nm (fun v12 ev12 => ?_)
      refine lv_iinc (v := v12) (lv' := [(3, .int v12), (0, .ref (ad (iY o0))), (1, .ref (ad (iR o1))), (2, .int a2)]) hx hb dX3_arrange_18 hl (k := 3) rfl (by rw [ev12]; rfl) (by decide) rfl (fun ls hl => ?_)
      refine lv_goto (tgt := 2) hx hb dX3_arrange_21 (by decide) ?_
      exact hrec2 (v12, M11) _ _ _ hH (lv_sub hl [1, 2, 3, 0] rfl)
def fX2_clear_X2 (M3 : KS) : Option (KS) := some M3
theorem fX2_clear_X2_u {M3 : KS} : fX2_clear_X2 M3 = some M3 := rfl
def fX2_clear_L2 (o0 : Nat) (rec2 : (Int32 × KS) → Option (KS)) (k2 : (KS) → Option (KS)) (x : Int32 × KS) : Option (KS) := match x with | (v1, M2) => (if 36 ≤ v1 then k2 M2 else if inb v1 36 then nm (kset M2 (iFt o0) v1.toNatClampNeg 0) fun M4 => if inb v1 36 then nm (kset M4 (iFf o0) v1.toNatClampNeg 0) fun M5 => nm (v1 + 1) fun v6 => rec2 (v6, M5) else none else none)
theorem fX2_clear_L2_u {o0 : Nat} {rec2 : (Int32 × KS) → Option (KS)} {k2 : (KS) → Option (KS)} {v1 : Int32} {M2 : KS} : fX2_clear_L2 o0 rec2 k2 (v1, M2) = (if 36 ≤ v1 then k2 M2 else if inb v1 36 then nm (kset M2 (iFt o0) v1.toNatClampNeg 0) fun M4 => if inb v1 36 then nm (kset M4 (iFf o0) v1.toNatClampNeg 0) fun M5 => nm (v1 + 1) fun v6 => rec2 (v6, M5) else none else none) := rfl
def fX2_clear (M : KS) (o0 : Nat) : Option (KS) := lp (fX2_clear_L2 o0) (fX2_clear_X2) 1000000 (0, M)
set_option maxHeartbeats 4000000 in
set_option maxRecDepth 100000 in
theorem kX2_clear (l : Launch) (E : KE) (ad : Nat → Nat) (M : KS) (o0 : Nat) (ho0 : o0 < 15) : CT l yX2_clear cX2_clear 2 none { frames := 0, cells := 0, slots := 0, locals := 0 } SK E ad [.ref (ad (iF o0))] M (QV SK E ad) (fX2_clear M o0) := by
  refine CT.ofW (by decide) (Nat.le_of_ble_eq_true rfl) (fun sz p e s m args below meth c C hr hH ls hl => ?_)
  have hx := C.1.1
  have hb := C.1.2.1
  have hl : lv_has ls 2 [(0, .ref (ad (iF o0)))] := hl
  unfold fX2_clear
  refine lv_iconst (v := 0) hx hb dX2_clear_0 (by decide) ?_
  refine lv_istore_n (lv' := [(1, .int 0), (0, .ref (ad (iF o0)))]) hx hb dX2_clear_1 rfl hl (by decide) rfl (fun ls hl => ?_)
  refine W_lp (fun (x : Int32 × KS) H locs => KH SK E ad sz x.2 s.heap H locs) (fun x ls => lv_has ls 2 [(0, .ref (ad (iF o0))), (1, .int x.1)]) (fun _ ls => F0 m 2 ls []) (fun (x : KS) H locs => KH SK E ad sz x s.heap H locs) (fun x ls => lv_has ls 2 []) (fun _ ls => F0 m 31 ls []) ?_ ?_ hH (lv_sub hl [1, 0] rfl)
  · intro M3 H locs ls hH hl
    have hH : KH SK E ad sz M3 s.heap H locs := hH
    have hl : lv_has ls 2 [] := hl
    refine W_q fX2_clear_X2_u ?_
    exact ke_v C hH hr (Nat.le_refl _) (Nat.le_refl _) rfl dX2_clear_31
  · intro rec2 k2 hrec2 hk2 ⟨v1, M2⟩ H locs ls hH hl
    have hH : KH SK E ad sz M2 s.heap H locs := hH
    have hl : lv_has ls 2 [(0, .ref (ad (iF o0))), (1, .int v1)] := hl
    refine W_q fX2_clear_L2_u ?_
    refine lv_iload_n hx hb dX2_clear_2 rfl (lv_at hl 1 rfl) ?_
    refine lv_aload_n hx hb dX2_clear_3 rfl (lv_at hl 0 rfl) ?_
    refine k_get C hH fd_X2_9 (oF (f := o0) ho0) (k_ref (M := M2) (ad := ad) (rF0 (f := o0) ho0)) dX2_clear_4 ?_
    refine k_ilen C hH (aF0 (f := o0) ho0) (v := 36) rfl dX2_clear_7 ?_
    refine kb_icmp_ge (tgt := 31) hx hb dX2_clear_8 (by decide) (fun _ => ?_) (fun _ => ?_)
    · exact hk2 M2 _ _ _ hH (lv_sub hl [] rfl)
    · refine lv_aload_n hx hb dX2_clear_11 rfl (lv_at hl 0 rfl) ?_
      refine k_get C hH fd_X2_9 (oF (f := o0) ho0) (k_ref (M := M2) (ad := ad) (rF0 (f := o0) ho0)) dX2_clear_12 ?_
      refine lv_iload_n hx hb dX2_clear_15 rfl (lv_at hl 1 rfl) ?_
      refine lv_iconst (v := 0) hx hb dX2_clear_16 (by decide) ?_
      refine k_iast C hH (aF0 (f := o0) ho0) dX2_clear_17 (fun M4 H locs hH => ?_)
      refine lv_aload_n hx hb dX2_clear_18 rfl (lv_at hl 0 rfl) ?_
      refine k_get C hH fd_X2_15 (oF (f := o0) ho0) (k_ref (M := M4) (ad := ad) (rF1 (f := o0) ho0)) dX2_clear_19 ?_
      refine lv_iload_n hx hb dX2_clear_22 rfl (lv_at hl 1 rfl) ?_
      refine lv_iconst (v := 0) hx hb dX2_clear_23 (by decide) ?_
      refine k_iast C hH (aF1 (f := o0) ho0) dX2_clear_24 (fun M5 H locs hH => ?_)
      refine W_nm (fun v6 ev6 => ?_)
      refine lv_iinc (v := v6) (lv' := [(1, .int v6), (0, .ref (ad (iF o0)))]) hx hb dX2_clear_25 hl (k := 1) rfl (by rw [ev6]; rfl) (by decide) rfl (fun ls hl => ?_)
      refine lv_goto (tgt := 2) hx hb dX2_clear_28 (by decide) ?_
      exact hrec2 (v6, M5) _ _ _ hH (lv_sub hl [1, 0] rfl)
def fX9_firstIn_J10_1 (v1 : Int32) : Option (Int32) := some (jrem ((v1 - 1) / 3) 3)
theorem fX9_firstIn_J10_1_u {v1 : Int32} : fX9_firstIn_J10_1 v1 = some (jrem ((v1 - 1) / 3) 3) := rfl
def fX9_firstIn (a0 : Int32) : Option (Int32) := jn (fX9_firstIn_J10_1) (fun K10_1 => (if 0 ≤ a0 then K10_1 a0 else K10_1 (-a0)))
set_option maxHeartbeats 4000000 in
set_option maxRecDepth 100000 in
theorem kX9_firstIn (l : Launch) (E : KE) (ad : Nat → Nat) (M : KS) (a0 : Int32) : CT l yX9_firstIn cX9_firstIn 1 (some .int) { frames := 0, cells := 0, slots := 0, locals := 0 } SK E ad [.int a0] M (fun sz a => QI SK E ad sz (a, M)) (fX9_firstIn a0) := by
  refine CT.ofW (by decide) (Nat.le_of_ble_eq_true rfl) (fun sz p e s m args below meth c C hr hH ls hl => ?_)
  have hx := C.1.1
  have hb := C.1.2.1
  have hl : lv_has ls 1 [(0, .int a0)] := hl
  unfold fX9_firstIn
  refine lv_iload_n hx hb dX9_firstIn_0 rfl (lv_at hl 0 rfl) ?_
  refine W_jn (fun (x : Int32) H locs => KH SK E ad sz M s.heap H locs) (fun x ls => lv_has ls 1 []) (fun x ls => F0 m 10 ls [.int x]) ?_ (fun K10_1 hK10_1 => ?_)
  · intro v1 H locs ls hH hl
    have hH : KH SK E ad sz M s.heap H locs := hH
    have hl : lv_has ls 1 [] := hl
    refine W_q fX9_firstIn_J10_1_u ?_
    refine lv_iconst (v := 1) hx hb dX9_firstIn_10 (by decide) ?_
    refine lv_isub hx hb dX9_firstIn_11 ?_
    refine lv_iconst (v := 3) hx hb dX9_firstIn_12 (by decide) ?_
    refine lv_idiv hx hb dX9_firstIn_13 (by decide) ?_
    refine lv_iconst (v := 3) hx hb dX9_firstIn_14 (by decide) ?_
    refine k_irem hx hb dX9_firstIn_15 (by decide) ?_
    exact ke_i C hH hr (Nat.le_refl _) (Nat.le_refl _) rfl dX9_firstIn_16
  · refine kb_if_ge (tgt := 9) hx hb dX9_firstIn_1 (by decide) (fun _ => ?_) (fun _ => ?_)
    · refine lv_iload_n hx hb dX9_firstIn_9 rfl (lv_at hl 0 rfl) ?_
      exact hK10_1 a0 _ _ _ hH (lv_sub hl [] rfl)
    · refine lv_iload_n hx hb dX9_firstIn_4 rfl (lv_at hl 0 rfl) ?_
      refine lv_ineg hx hb dX9_firstIn_5 ?_
      refine lv_goto (tgt := 10) hx hb dX9_firstIn_6 (by decide) ?_
      exact hK10_1 (-a0) _ _ _ hH (lv_sub hl [] rfl)
def fX9_secondIn_o (a0 : Int32) : Option (Int32) := (if 0 ≤ a0 then some (jrem (a0 - 1) 3) else some (jrem ((-a0) - 1) 3))
def fX9_secondIn (a0 : Int32) : Int32 := (if 0 ≤ a0 then (jrem (a0 - 1) 3) else (jrem ((-a0) - 1) 3))
theorem fX9_secondIn_s {a0 : Int32} : fX9_secondIn_o a0 = some (fX9_secondIn a0) := by
  unfold fX9_secondIn_o fX9_secondIn
  (repeat' split) <;> rfl
set_option maxHeartbeats 4000000 in
set_option maxRecDepth 100000 in
theorem kX9_secondIn_o (l : Launch) (E : KE) (ad : Nat → Nat) (M : KS) (a0 : Int32) : CT l yX9_secondIn cX9_secondIn 1 (some .int) { frames := 0, cells := 0, slots := 0, locals := 0 } SK E ad [.int a0] M (fun sz a => QI SK E ad sz (a, M)) (fX9_secondIn_o a0) := by
  refine CT.ofW (by decide) (Nat.le_of_ble_eq_true rfl) (fun sz p e s m args below meth c C hr hH ls hl => ?_)
  have hx := C.1.1
  have hb := C.1.2.1
  have hl : lv_has ls 1 [(0, .int a0)] := hl
  unfold fX9_secondIn_o
  refine lv_iload_n hx hb dX9_secondIn_0 rfl (lv_at hl 0 rfl) ?_
  refine kb_if_ge (tgt := 9) hx hb dX9_secondIn_1 (by decide) (fun _ => ?_) (fun _ => ?_)
  · refine lv_iload_n hx hb dX9_secondIn_9 rfl (lv_at hl 0 rfl) ?_
    refine lv_iconst (v := 1) hx hb dX9_secondIn_10 (by decide) ?_
    refine lv_isub hx hb dX9_secondIn_11 ?_
    refine lv_iconst (v := 3) hx hb dX9_secondIn_12 (by decide) ?_
    refine k_irem hx hb dX9_secondIn_13 (by decide) ?_
    exact ke_i C hH hr (Nat.le_refl _) (Nat.le_refl _) rfl dX9_secondIn_14
  · refine lv_iload_n hx hb dX9_secondIn_4 rfl (lv_at hl 0 rfl) ?_
    refine lv_ineg hx hb dX9_secondIn_5 ?_
    refine lv_goto (tgt := 10) hx hb dX9_secondIn_6 (by decide) ?_
    refine lv_iconst (v := 1) hx hb dX9_secondIn_10 (by decide) ?_
    refine lv_isub hx hb dX9_secondIn_11 ?_
    refine lv_iconst (v := 3) hx hb dX9_secondIn_12 (by decide) ?_
    refine k_irem hx hb dX9_secondIn_13 (by decide) ?_
    exact ke_i C hH hr (Nat.le_refl _) (Nat.le_refl _) rfl dX9_secondIn_14
theorem kX9_secondIn (l : Launch) (E : KE) (ad : Nat → Nat) (M : KS) (a0 : Int32) : CT l yX9_secondIn cX9_secondIn 1 (some .int) { frames := 0, cells := 0, slots := 0, locals := 0 } SK E ad [.int a0] M (fun sz (_ : Unit) => QI SK E ad sz (fX9_secondIn a0, M)) (some ()) := CT.pure (kX9_secondIn_o l E ad M a0) fX9_secondIn_s
def fX2_toThemselves_X4 (v3 : Int32) : Option (Int32) := some v3
theorem fX2_toThemselves_X4_u {v3 : Int32} : fX2_toThemselves_X4 v3 = some v3 := rfl
def fX2_toThemselves_L4 (M : KS) (o0 : Nat) (a1 : Int32) (rec4 : (Int32 × Int32) → Option (Int32)) (k4 : (Int32) → Option (Int32)) (x : Int32 × Int32) : Option (Int32) := match x with | (v1, v2) => (if 6 ≤ v2 then k4 v1 else nm (((6 * a1) + v2)) fun v4 => (if v4 < 0 then nm (v2 + 1) fun v5 => rec4 (v1, v5) else (if 36 ≤ v4 then nm (v2 + 1) fun v6 => rec4 (v1, v6) else if inb v4 36 then nm ((v1 ||| ((M.1 (iFt o0) v4.toNatClampNeg) &&& (jshl 1 v2)))) fun v7 => nm (v2 + 1) fun v8 => rec4 (v7, v8) else none)))
theorem fX2_toThemselves_L4_u {M : KS} {o0 : Nat} {a1 : Int32} {rec4 : (Int32 × Int32) → Option (Int32)} {k4 : (Int32) → Option (Int32)} {v1 : Int32} {v2 : Int32} : fX2_toThemselves_L4 M o0 a1 rec4 k4 (v1, v2) = (if 6 ≤ v2 then k4 v1 else nm (((6 * a1) + v2)) fun v4 => (if v4 < 0 then nm (v2 + 1) fun v5 => rec4 (v1, v5) else (if 36 ≤ v4 then nm (v2 + 1) fun v6 => rec4 (v1, v6) else if inb v4 36 then nm ((v1 ||| ((M.1 (iFt o0) v4.toNatClampNeg) &&& (jshl 1 v2)))) fun v7 => nm (v2 + 1) fun v8 => rec4 (v7, v8) else none))) := rfl
def fX2_toThemselves (M : KS) (o0 : Nat) (a1 : Int32) : Option (Int32) := lp (fX2_toThemselves_L4 M o0 a1) (fX2_toThemselves_X4) 1000000 (0, 0)
set_option maxHeartbeats 4000000 in
set_option maxRecDepth 100000 in
theorem kX2_toThemselves (l : Launch) (E : KE) (ad : Nat → Nat) (M : KS) (o0 : Nat) (ho0 : o0 < 15) (a1 : Int32) : CT l yX2_toThemselves cX2_toThemselves 5 (some .int) { frames := 0, cells := 0, slots := 0, locals := 0 } SK E ad [.ref (ad (iF o0)), .int a1] M (fun sz a => QI SK E ad sz (a, M)) (fX2_toThemselves M o0 a1) := by
  refine CT.ofW (by decide) (Nat.le_of_ble_eq_true rfl) (fun sz p e s m args below meth c C hr hH ls hl => ?_)
  have hx := C.1.1
  have hb := C.1.2.1
  have hl : lv_has ls 5 [(0, .ref (ad (iF o0))), (1, .int a1)] := hl
  unfold fX2_toThemselves
  refine lv_iconst (v := 0) hx hb dX2_toThemselves_0 (by decide) ?_
  refine lv_istore_n (lv' := [(2, .int 0), (0, .ref (ad (iF o0))), (1, .int a1)]) hx hb dX2_toThemselves_1 rfl hl (by decide) rfl (fun ls hl => ?_)
  refine lv_iconst (v := 0) hx hb dX2_toThemselves_2 (by decide) ?_
  refine lv_istore_n (lv' := [(3, .int 0), (2, .int 0), (0, .ref (ad (iF o0))), (1, .int a1)]) hx hb dX2_toThemselves_3 rfl hl (by decide) rfl (fun ls hl => ?_)
  refine W_lp (fun (x : Int32 × Int32) H locs => KH SK E ad sz M s.heap H locs) (fun x ls => lv_has ls 5 [(0, .ref (ad (iF o0))), (1, .int a1), (2, .int x.1), (3, .int x.2)]) (fun _ ls => F0 m 4 ls []) (fun (x : Int32) H locs => KH SK E ad sz M s.heap H locs) (fun x ls => lv_has ls 5 [(2, .int x)]) (fun _ ls => F0 m 53 ls []) ?_ ?_ hH (lv_sub hl [2, 3, 1, 0] rfl)
  · intro v3 H locs ls hH hl
    have hH : KH SK E ad sz M s.heap H locs := hH
    have hl : lv_has ls 5 [(2, .int v3)] := hl
    refine W_q fX2_toThemselves_X4_u ?_
    refine lv_iload_n hx hb dX2_toThemselves_53 rfl (lv_at hl 0 rfl) ?_
    exact ke_i C hH hr (Nat.le_refl _) (Nat.le_refl _) rfl dX2_toThemselves_54
  · intro rec4 k4 hrec4 hk4 ⟨v1, v2⟩ H locs ls hH hl
    have hH : KH SK E ad sz M s.heap H locs := hH
    have hl : lv_has ls 5 [(0, .ref (ad (iF o0))), (1, .int a1), (2, .int v1), (3, .int v2)] := hl
    refine W_q fX2_toThemselves_L4_u ?_
    refine lv_iload_n hx hb dX2_toThemselves_4 rfl (lv_at hl 3 rfl) ?_
    refine lv_bipush (v := 6) hx hb dX2_toThemselves_5 (by decide) ?_
    refine kb_icmp_ge (tgt := 53) hx hb dX2_toThemselves_7 (by decide) (fun _ => ?_) (fun _ => ?_)
    · exact hk4 v1 _ _ _ hH (lv_sub hl [2] rfl)
    · refine lv_bipush (v := 6) hx hb dX2_toThemselves_10 (by decide) ?_
      refine lv_iload_n hx hb dX2_toThemselves_12 rfl (lv_at hl 1 rfl) ?_
      refine lv_imul hx hb dX2_toThemselves_13 ?_
      refine lv_iload_n hx hb dX2_toThemselves_14 rfl (lv_at hl 3 rfl) ?_
      refine lv_iadd hx hb dX2_toThemselves_15 ?_
      refine W_nmi (fun v4 => ?_)
      refine lv_istore (lv' := [(4, .int v4), (0, .ref (ad (iF o0))), (1, .int a1), (2, .int v1), (3, .int v2)]) hx hb dX2_toThemselves_16 hl (by decide) rfl (fun ls hl => ?_)
      refine lv_iload hx hb dX2_toThemselves_18 (lv_at hl 0 rfl) ?_
      refine kb_if_lt (tgt := 47) hx hb dX2_toThemselves_20 (by decide) (fun _ => ?_) (fun _ => ?_)
      · refine W_nm (fun v5 ev5 => ?_)
        refine lv_iinc (v := v5) (lv' := [(3, .int v5), (4, .int v4), (0, .ref (ad (iF o0))), (1, .int a1), (2, .int v1)]) hx hb dX2_toThemselves_47 hl (k := 4) rfl (by rw [ev5]; rfl) (by decide) rfl (fun ls hl => ?_)
        refine lv_goto (tgt := 4) hx hb dX2_toThemselves_50 (by decide) ?_
        exact hrec4 (v1, v5) _ _ _ hH (lv_sub hl [2, 3, 4, 0] rfl)
      · refine lv_iload hx hb dX2_toThemselves_23 (lv_at hl 0 rfl) ?_
        refine lv_aload_n hx hb dX2_toThemselves_25 rfl (lv_at hl 1 rfl) ?_
        refine k_get C hH fd_X2_9 (oF (f := o0) ho0) (k_ref (M := M) (ad := ad) (rF0 (f := o0) ho0)) dX2_toThemselves_26 ?_
        refine k_ilen C hH (aF0 (f := o0) ho0) (v := 36) rfl dX2_toThemselves_29 ?_
        refine kb_icmp_ge (tgt := 47) hx hb dX2_toThemselves_30 (by decide) (fun _ => ?_) (fun _ => ?_)
        · refine W_nm (fun v6 ev6 => ?_)
          refine lv_iinc (v := v6) (lv' := [(3, .int v6), (4, .int v4), (0, .ref (ad (iF o0))), (1, .int a1), (2, .int v1)]) hx hb dX2_toThemselves_47 hl (k := 4) rfl (by rw [ev6]; rfl) (by decide) rfl (fun ls hl => ?_)
          refine lv_goto (tgt := 4) hx hb dX2_toThemselves_50 (by decide) ?_
          exact hrec4 (v1, v6) _ _ _ hH (lv_sub hl [2, 3, 4, 0] rfl)
        · refine lv_iload_n hx hb dX2_toThemselves_33 rfl (lv_at hl 3 rfl) ?_
          refine lv_aload_n hx hb dX2_toThemselves_34 rfl (lv_at hl 1 rfl) ?_
          refine k_get C hH fd_X2_9 (oF (f := o0) ho0) (k_ref (M := M) (ad := ad) (rF0 (f := o0) ho0)) dX2_toThemselves_35 ?_
          refine lv_iload hx hb dX2_toThemselves_38 (lv_at hl 0 rfl) ?_
          refine k_iald C hH (aF0 (f := o0) ho0) dX2_toThemselves_40 ?_
          refine lv_iconst (v := 1) hx hb dX2_toThemselves_41 (by decide) ?_
          refine lv_iload_n hx hb dX2_toThemselves_42 rfl (lv_at hl 4 rfl) ?_
          refine k_ishl hx hb dX2_toThemselves_43 ?_
          refine lv_iand hx hb dX2_toThemselves_44 ?_
          refine lv_ior hx hb dX2_toThemselves_45 ?_
          refine W_nmi (fun v7 => ?_)
          refine lv_istore_n (lv' := [(2, .int v7), (4, .int v4), (0, .ref (ad (iF o0))), (1, .int a1), (3, .int v2)]) hx hb dX2_toThemselves_46 rfl hl (by decide) rfl (fun ls hl => ?_)
          refine W_nm (fun v8 ev8 => ?_)
          refine lv_iinc (v := v8) (lv' := [(3, .int v8), (2, .int v7), (4, .int v4), (0, .ref (ad (iF o0))), (1, .int a1)]) hx hb dX2_toThemselves_47 hl (k := 4) rfl (by rw [ev8]; rfl) (by decide) rfl (fun ls hl => ?_)
          refine lv_goto (tgt := 4) hx hb dX2_toThemselves_50 (by decide) ?_
          exact hrec4 (v7, v8) _ _ _ hH (lv_sub hl [3, 4, 1, 0] rfl)
def fX2_from (M : KS) (o0 : Nat) (a1 : Int32) (a2 : Int32) : Option (Int32) := nm (((6 * a1) + a2)) fun v1 => (if v1 < 0 then some 0 else (if 36 ≤ v1 then some 0 else if inb v1 36 then some (M.1 (iFf o0) v1.toNatClampNeg) else none))
set_option maxHeartbeats 4000000 in
set_option maxRecDepth 100000 in
theorem kX2_from (l : Launch) (E : KE) (ad : Nat → Nat) (M : KS) (o0 : Nat) (ho0 : o0 < 15) (a1 : Int32) (a2 : Int32) : CT l yX2_from cX2_from 4 (some .int) { frames := 0, cells := 0, slots := 0, locals := 0 } SK E ad [.ref (ad (iF o0)), .int a1, .int a2] M (fun sz a => QI SK E ad sz (a, M)) (fX2_from M o0 a1 a2) := by
  refine CT.ofW (by decide) (Nat.le_of_ble_eq_true rfl) (fun sz p e s m args below meth c C hr hH ls hl => ?_)
  have hx := C.1.1
  have hb := C.1.2.1
  have hl : lv_has ls 4 [(0, .ref (ad (iF o0))), (1, .int a1), (2, .int a2)] := hl
  unfold fX2_from
  refine lv_bipush (v := 6) hx hb dX2_from_0 (by decide) ?_
  refine lv_iload_n hx hb dX2_from_2 rfl (lv_at hl 1 rfl) ?_
  refine lv_imul hx hb dX2_from_3 ?_
  refine lv_iload_n hx hb dX2_from_4 rfl (lv_at hl 2 rfl) ?_
  refine lv_iadd hx hb dX2_from_5 ?_
  refine W_nmi (fun v1 => ?_)
  refine lv_istore_n (lv' := [(3, .int v1), (0, .ref (ad (iF o0))), (1, .int a1), (2, .int a2)]) hx hb dX2_from_6 rfl hl (by decide) rfl (fun ls hl => ?_)
  refine lv_iload_n hx hb dX2_from_7 rfl (lv_at hl 0 rfl) ?_
  refine kb_if_lt (tgt := 29) hx hb dX2_from_8 (by decide) (fun _ => ?_) (fun _ => ?_)
  · refine lv_iconst (v := 0) hx hb dX2_from_29 (by decide) ?_
    exact ke_i C hH hr (Nat.le_refl _) (Nat.le_refl _) rfl dX2_from_30
  · refine lv_iload_n hx hb dX2_from_11 rfl (lv_at hl 0 rfl) ?_
    refine lv_aload_n hx hb dX2_from_12 rfl (lv_at hl 1 rfl) ?_
    refine k_get C hH fd_X2_15 (oF (f := o0) ho0) (k_ref (M := M) (ad := ad) (rF1 (f := o0) ho0)) dX2_from_13 ?_
    refine k_ilen C hH (aF1 (f := o0) ho0) (v := 36) rfl dX2_from_16 ?_
    refine kb_icmp_ge (tgt := 29) hx hb dX2_from_17 (by decide) (fun _ => ?_) (fun _ => ?_)
    · refine lv_iconst (v := 0) hx hb dX2_from_29 (by decide) ?_
      exact ke_i C hH hr (Nat.le_refl _) (Nat.le_refl _) rfl dX2_from_30
    · refine lv_aload_n hx hb dX2_from_20 rfl (lv_at hl 1 rfl) ?_
      refine k_get C hH fd_X2_15 (oF (f := o0) ho0) (k_ref (M := M) (ad := ad) (rF1 (f := o0) ho0)) dX2_from_21 ?_
      refine lv_iload_n hx hb dX2_from_24 rfl (lv_at hl 0 rfl) ?_
      refine k_iald C hH (aF1 (f := o0) ho0) dX2_from_25 ?_
      refine lv_goto (tgt := 30) hx hb dX2_from_26 (by decide) ?_
      exact ke_i C hH hr (Nat.le_refl _) (Nat.le_refl _) rfl dX2_from_30
def fX6_fulfilling_J119_45 (a0 : Int32) (v6 : Int32) : Option (Int32) := (if 0 ≤ a0 then some v6 else some (63 &&& (v6 ^^^ (-1))))
theorem fX6_fulfilling_J119_45_u {a0 : Int32} {v6 : Int32} : fX6_fulfilling_J119_45 a0 v6 = (if 0 ≤ a0 then some v6 else some (63 &&& (v6 ^^^ (-1)))) := rfl
def fX6_fulfilling_J40_32 (M : KS) (a0 : Int32) (o3 : Nat) (v1 : Int32) (v2 : Int32) (v3 : Int32) (v4 : Int32) (v5 : Int32) : Option (Int32) := jn (fX6_fulfilling_J119_45 a0) (fun K119_45 => (if v2 = 2 then (if v3 = 2 then (fX2_toThemselves M o3 v1).bind fun v10 => K119_45 v10 else (fX2_from M o3 v1 v5).bind fun v9 => K119_45 v9) else (if v3 = 2 then (fX2_to M o3 v1 v4).bind fun v8 => K119_45 v8 else (fX2_to M o3 v1 v4).bind fun v7 => (if ((jshr v7 v5) &&& 1) = 0 then K119_45 0 else K119_45 63))))
theorem fX6_fulfilling_J40_32_u {M : KS} {a0 : Int32} {o3 : Nat} {v1 : Int32} {v2 : Int32} {v3 : Int32} {v4 : Int32} {v5 : Int32} : fX6_fulfilling_J40_32 M a0 o3 v1 v2 v3 v4 v5 = jn (fX6_fulfilling_J119_45 a0) (fun K119_45 => (if v2 = 2 then (if v3 = 2 then (fX2_toThemselves M o3 v1).bind fun v10 => K119_45 v10 else (fX2_from M o3 v1 v5).bind fun v9 => K119_45 v9) else (if v3 = 2 then (fX2_to M o3 v1 v4).bind fun v8 => K119_45 v8 else (fX2_to M o3 v1 v4).bind fun v7 => (if ((jshr v7 v5) &&& 1) = 0 then K119_45 0 else K119_45 63)))) := rfl
def fX6_fulfilling_J28_20 (M : KS) (a0 : Int32) (a1 : Int32) (a2 : Int32) (o3 : Nat) (v1 : Int32) (v2 : Int32) (v3 : Int32) (v4 : Int32) : Option (Int32) := jn (fX6_fulfilling_J40_32 M a0 o3 v1 v2 v3 v4) (fun K40_32 => (if v3 = 0 then K40_32 a1 else K40_32 a2))
theorem fX6_fulfilling_J28_20_u {M : KS} {a0 : Int32} {a1 : Int32} {a2 : Int32} {o3 : Nat} {v1 : Int32} {v2 : Int32} {v3 : Int32} {v4 : Int32} : fX6_fulfilling_J28_20 M a0 a1 a2 o3 v1 v2 v3 v4 = jn (fX6_fulfilling_J40_32 M a0 o3 v1 v2 v3 v4) (fun K40_32 => (if v3 = 0 then K40_32 a1 else K40_32 a2)) := rfl
def fX6_fulfilling (M : KS) (a0 : Int32) (a1 : Int32) (a2 : Int32) (o3 : Nat) : Option (Int32) := nm ((fX9_relationIn a0)) fun v1 => (fX9_firstIn a0).bind fun v2 => nm ((fX9_secondIn a0)) fun v3 => jn (fX6_fulfilling_J28_20 M a0 a1 a2 o3 v1 v2 v3) (fun K28_20 => (if v2 = 0 then K28_20 a1 else K28_20 a2))
set_option maxHeartbeats 4000000 in
set_option maxRecDepth 100000 in
theorem kX6_fulfilling (l : Launch) (E : KE) (ad : Nat → Nat) (M : KS) (a0 : Int32) (a1 : Int32) (a2 : Int32) (o3 : Nat) (ho3 : o3 < 15) : CT l yX6_fulfilling cX6_fulfilling 10 (some .int) { frames := 1, cells := 0, slots := 0, locals := 24 } SK E ad [.int a0, .int a1, .int a2, .ref (ad (iF o3))] M (fun sz a => QI SK E ad sz (a, M)) (fX6_fulfilling M a0 a1 a2 o3) := by
  refine CT.ofW (by decide) (Nat.le_of_ble_eq_true rfl) (fun sz p e s m args below meth c C hr hH ls hl => ?_)
  have hx := C.1.1
  have hb := C.1.2.1
  have hl : lv_has ls 10 [(0, .int a0), (1, .int a1), (2, .int a2), (3, .ref (ad (iF o3)))] := hl
  unfold fX6_fulfilling
  refine lv_iload_n hx hb dX6_fulfilling_0 rfl (lv_at hl 0 rfl) ?_
  refine kg_ip C hH (kc_SN C hH w_2_96 w_st_yX9_relationIn lc_yX9_relationIn (kX9_relationIn l E ad M a0) (As := [.int a0]) rfl dX6_fulfilling_1 rfl hl.1 (Nat.le_of_ble_eq_true rfl) ⟨Nat.le_of_ble_eq_true rfl, Nat.le_of_ble_eq_true rfl⟩ ⟨Nat.le_of_ble_eq_true rfl, Nat.le_of_ble_eq_true rfl⟩) ⟨rfl, rfl⟩ (fun H locs hH => ?_)
  refine W_nmi (fun v1 => ?_)
  refine lv_istore (lv' := [(4, .int v1), (0, .int a0), (1, .int a1), (2, .int a2), (3, .ref (ad (iF o3)))]) hx hb dX6_fulfilling_4 hl (by decide) rfl (fun ls hl => ?_)
  refine lv_iload_n hx hb dX6_fulfilling_6 rfl (lv_at hl 1 rfl) ?_
  refine kg_io C hH (kc_SN C hH w_2_97 w_st_yX9_firstIn lc_yX9_firstIn (kX9_firstIn l E ad M a0) (As := [.int a0]) rfl dX6_fulfilling_7 rfl hl.1 (Nat.le_of_ble_eq_true rfl) ⟨Nat.le_of_ble_eq_true rfl, Nat.le_of_ble_eq_true rfl⟩ ⟨Nat.le_of_ble_eq_true rfl, Nat.le_of_ble_eq_true rfl⟩) ⟨rfl, rfl⟩ (fun v2 H locs hH => ?_)
  refine lv_istore (lv' := [(5, .int v2), (4, .int v1), (0, .int a0), (1, .int a1), (2, .int a2), (3, .ref (ad (iF o3)))]) hx hb dX6_fulfilling_10 hl (by decide) rfl (fun ls hl => ?_)
  refine lv_iload_n hx hb dX6_fulfilling_12 rfl (lv_at hl 2 rfl) ?_
  refine kg_ip C hH (kc_SN C hH w_2_100 w_st_yX9_secondIn lc_yX9_secondIn (kX9_secondIn l E ad M a0) (As := [.int a0]) rfl dX6_fulfilling_13 rfl hl.1 (Nat.le_of_ble_eq_true rfl) ⟨Nat.le_of_ble_eq_true rfl, Nat.le_of_ble_eq_true rfl⟩ ⟨Nat.le_of_ble_eq_true rfl, Nat.le_of_ble_eq_true rfl⟩) ⟨rfl, rfl⟩ (fun H locs hH => ?_)
  refine W_nmi (fun v3 => ?_)
  refine lv_istore (lv' := [(6, .int v3), (5, .int v2), (4, .int v1), (0, .int a0), (1, .int a1), (2, .int a2), (3, .ref (ad (iF o3)))]) hx hb dX6_fulfilling_16 hl (by decide) rfl (fun ls hl => ?_)
  refine lv_iload hx hb dX6_fulfilling_18 (lv_at hl 1 rfl) ?_
  refine W_jn (fun (x : Int32) H locs => KH SK E ad sz M s.heap H locs) (fun x ls => lv_has ls 10 [(6, .int v3), (5, .int v2), (4, .int v1), (0, .int a0), (1, .int a1), (2, .int a2), (3, .ref (ad (iF o3)))]) (fun x ls => F0 m 28 ls [.int x]) ?_ (fun K28_20 hK28_20 => ?_)
  · intro v4 H locs ls hH hl
    have hH : KH SK E ad sz M s.heap H locs := hH
    have hl : lv_has ls 10 [(6, .int v3), (5, .int v2), (4, .int v1), (0, .int a0), (1, .int a1), (2, .int a2), (3, .ref (ad (iF o3)))] := hl
    refine W_q fX6_fulfilling_J28_20_u ?_
    refine lv_istore (lv' := [(7, .int v4), (6, .int v3), (5, .int v2), (4, .int v1), (0, .int a0), (1, .int a1), (2, .int a2), (3, .ref (ad (iF o3)))]) hx hb dX6_fulfilling_28 hl (by decide) rfl (fun ls hl => ?_)
    refine lv_iload hx hb dX6_fulfilling_30 (lv_at hl 1 rfl) ?_
    refine W_jn (fun (x : Int32) H locs => KH SK E ad sz M s.heap H locs) (fun x ls => lv_has ls 10 [(7, .int v4), (6, .int v3), (5, .int v2), (4, .int v1), (0, .int a0), (3, .ref (ad (iF o3)))]) (fun x ls => F0 m 40 ls [.int x]) ?_ (fun K40_32 hK40_32 => ?_)
    · intro v5 H locs ls hH hl
      have hH : KH SK E ad sz M s.heap H locs := hH
      have hl : lv_has ls 10 [(7, .int v4), (6, .int v3), (5, .int v2), (4, .int v1), (0, .int a0), (3, .ref (ad (iF o3)))] := hl
      refine W_q fX6_fulfilling_J40_32_u ?_
      refine lv_istore (lv' := [(8, .int v5), (7, .int v4), (6, .int v3), (5, .int v2), (4, .int v1), (0, .int a0), (3, .ref (ad (iF o3)))]) hx hb dX6_fulfilling_40 hl (by decide) rfl (fun ls hl => ?_)
      refine lv_iload hx hb dX6_fulfilling_42 (lv_at hl 3 rfl) ?_
      refine lv_iconst (v := 2) hx hb dX6_fulfilling_44 (by decide) ?_
      refine W_jn (fun (x : Int32) H locs => KH SK E ad sz M s.heap H locs) (fun x ls => lv_has ls 10 [(0, .int a0), (9, .int x)]) (fun x ls => F0 m 119 ls []) ?_ (fun K119_45 hK119_45 => ?_)
      · intro v6 H locs ls hH hl
        have hH : KH SK E ad sz M s.heap H locs := hH
        have hl : lv_has ls 10 [(0, .int a0), (9, .int v6)] := hl
        refine W_q fX6_fulfilling_J119_45_u ?_
        refine lv_iload_n hx hb dX6_fulfilling_119 rfl (lv_at hl 0 rfl) ?_
        refine kb_if_ge (tgt := 133) hx hb dX6_fulfilling_120 (by decide) (fun _ => ?_) (fun _ => ?_)
        · refine lv_iload hx hb dX6_fulfilling_133 (lv_at hl 1 rfl) ?_
          exact ke_i C hH hr (Nat.le_refl _) (Nat.le_refl _) rfl dX6_fulfilling_135
        · refine lv_bipush (v := 63) hx hb dX6_fulfilling_123 (by decide) ?_
          refine lv_iload hx hb dX6_fulfilling_125 (lv_at hl 1 rfl) ?_
          refine lv_iconst (v := (-1)) hx hb dX6_fulfilling_127 (by decide) ?_
          refine lv_ixor hx hb dX6_fulfilling_128 ?_
          refine lv_iand hx hb dX6_fulfilling_129 ?_
          refine lv_goto (tgt := 135) hx hb dX6_fulfilling_130 (by decide) ?_
          exact ke_i C hH hr (Nat.le_refl _) (Nat.le_refl _) rfl dX6_fulfilling_135
      · refine kb_icmp_ne (tgt := 76) hx hb dX6_fulfilling_45 (by decide) (fun _ => ?_) (fun _ => ?_)
        · refine lv_iload hx hb dX6_fulfilling_76 (lv_at hl 2 rfl) ?_
          refine lv_iconst (v := 2) hx hb dX6_fulfilling_78 (by decide) ?_
          refine kb_icmp_ne (tgt := 95) hx hb dX6_fulfilling_79 (by decide) (fun _ => ?_) (fun _ => ?_)
          · refine lv_aload_n hx hb dX6_fulfilling_95 rfl (lv_at hl 6 rfl) ?_
            refine lv_iload hx hb dX6_fulfilling_96 (lv_at hl 4 rfl) ?_
            refine lv_iload hx hb dX6_fulfilling_98 (lv_at hl 1 rfl) ?_
            refine kg_io C hH (kc_V C hH w_2_111 lc_yX2_to li_yX2_to (oF (f := o3) ho3) (kX2_to l E ad M o3 ho3 v1 v4) (As := [.int v1, .int v4]) rfl dX6_fulfilling_100 rfl hl.1 (Nat.le_of_ble_eq_true rfl) ⟨Nat.le_of_ble_eq_true rfl, Nat.le_of_ble_eq_true rfl⟩ ⟨Nat.le_of_ble_eq_true rfl, Nat.le_of_ble_eq_true rfl⟩) ⟨rfl, rfl⟩ (fun v7 H locs hH => ?_)
            refine lv_iload hx hb dX6_fulfilling_103 (lv_at hl 0 rfl) ?_
            refine k_ishr hx hb dX6_fulfilling_105 ?_
            refine lv_iconst (v := 1) hx hb dX6_fulfilling_106 (by decide) ?_
            refine lv_iand hx hb dX6_fulfilling_107 ?_
            refine kb_if_eq (tgt := 116) hx hb dX6_fulfilling_108 (by decide) (fun _ => ?_) (fun _ => ?_)
            · refine lv_iconst (v := 0) hx hb dX6_fulfilling_116 (by decide) ?_
              refine lv_istore (lv' := [(9, .int 0), (8, .int v5), (7, .int v4), (6, .int v3), (5, .int v2), (4, .int v1), (0, .int a0), (3, .ref (ad (iF o3)))]) hx hb dX6_fulfilling_117 hl (by decide) rfl (fun ls hl => ?_)
              exact hK119_45 0 _ _ _ hH (lv_sub hl [6, 0] rfl)
            · refine lv_bipush (v := 63) hx hb dX6_fulfilling_111 (by decide) ?_
              refine lv_goto (tgt := 117) hx hb dX6_fulfilling_113 (by decide) ?_
              refine lv_istore (lv' := [(9, .int 63), (8, .int v5), (7, .int v4), (6, .int v3), (5, .int v2), (4, .int v1), (0, .int a0), (3, .ref (ad (iF o3)))]) hx hb dX6_fulfilling_117 hl (by decide) rfl (fun ls hl => ?_)
              exact hK119_45 63 _ _ _ hH (lv_sub hl [6, 0] rfl)
          · refine lv_aload_n hx hb dX6_fulfilling_82 rfl (lv_at hl 6 rfl) ?_
            refine lv_iload hx hb dX6_fulfilling_83 (lv_at hl 4 rfl) ?_
            refine lv_iload hx hb dX6_fulfilling_85 (lv_at hl 1 rfl) ?_
            refine kg_io C hH (kc_V C hH w_2_111 lc_yX2_to li_yX2_to (oF (f := o3) ho3) (kX2_to l E ad M o3 ho3 v1 v4) (As := [.int v1, .int v4]) rfl dX6_fulfilling_87 rfl hl.1 (Nat.le_of_ble_eq_true rfl) ⟨Nat.le_of_ble_eq_true rfl, Nat.le_of_ble_eq_true rfl⟩ ⟨Nat.le_of_ble_eq_true rfl, Nat.le_of_ble_eq_true rfl⟩) ⟨rfl, rfl⟩ (fun v8 H locs hH => ?_)
            refine lv_istore (lv' := [(9, .int v8), (8, .int v5), (7, .int v4), (6, .int v3), (5, .int v2), (4, .int v1), (0, .int a0), (3, .ref (ad (iF o3)))]) hx hb dX6_fulfilling_90 hl (by decide) rfl (fun ls hl => ?_)
            refine lv_goto (tgt := 119) hx hb dX6_fulfilling_92 (by decide) ?_
            exact hK119_45 v8 _ _ _ hH (lv_sub hl [6, 0] rfl)
        · refine lv_iload hx hb dX6_fulfilling_48 (lv_at hl 2 rfl) ?_
          refine lv_iconst (v := 2) hx hb dX6_fulfilling_50 (by decide) ?_
          refine kb_icmp_ne (tgt := 63) hx hb dX6_fulfilling_51 (by decide) (fun _ => ?_) (fun _ => ?_)
          · refine lv_aload_n hx hb dX6_fulfilling_63 rfl (lv_at hl 6 rfl) ?_
            refine lv_iload hx hb dX6_fulfilling_64 (lv_at hl 4 rfl) ?_
            refine lv_iload hx hb dX6_fulfilling_66 (lv_at hl 0 rfl) ?_
            refine kg_io C hH (kc_V C hH w_2_107 lc_yX2_from li_yX2_from (oF (f := o3) ho3) (kX2_from l E ad M o3 ho3 v1 v5) (As := [.int v1, .int v5]) rfl dX6_fulfilling_68 rfl hl.1 (Nat.le_of_ble_eq_true rfl) ⟨Nat.le_of_ble_eq_true rfl, Nat.le_of_ble_eq_true rfl⟩ ⟨Nat.le_of_ble_eq_true rfl, Nat.le_of_ble_eq_true rfl⟩) ⟨rfl, rfl⟩ (fun v9 H locs hH => ?_)
            refine lv_istore (lv' := [(9, .int v9), (8, .int v5), (7, .int v4), (6, .int v3), (5, .int v2), (4, .int v1), (0, .int a0), (3, .ref (ad (iF o3)))]) hx hb dX6_fulfilling_71 hl (by decide) rfl (fun ls hl => ?_)
            refine lv_goto (tgt := 119) hx hb dX6_fulfilling_73 (by decide) ?_
            exact hK119_45 v9 _ _ _ hH (lv_sub hl [6, 0] rfl)
          · refine lv_aload_n hx hb dX6_fulfilling_54 rfl (lv_at hl 6 rfl) ?_
            refine lv_iload hx hb dX6_fulfilling_55 (lv_at hl 4 rfl) ?_
            refine kg_io C hH (kc_V C hH w_2_103 lc_yX2_toThemselves li_yX2_toThemselves (oF (f := o3) ho3) (kX2_toThemselves l E ad M o3 ho3 v1) (As := [.int v1]) rfl dX6_fulfilling_57 rfl hl.1 (Nat.le_of_ble_eq_true rfl) ⟨Nat.le_of_ble_eq_true rfl, Nat.le_of_ble_eq_true rfl⟩ ⟨Nat.le_of_ble_eq_true rfl, Nat.le_of_ble_eq_true rfl⟩) ⟨rfl, rfl⟩ (fun v10 H locs hH => ?_)
            refine lv_goto (tgt := 71) hx hb dX6_fulfilling_60 (by decide) ?_
            refine lv_istore (lv' := [(9, .int v10), (8, .int v5), (7, .int v4), (6, .int v3), (5, .int v2), (4, .int v1), (0, .int a0), (3, .ref (ad (iF o3)))]) hx hb dX6_fulfilling_71 hl (by decide) rfl (fun ls hl => ?_)
            refine lv_goto (tgt := 119) hx hb dX6_fulfilling_73 (by decide) ?_
            exact hK119_45 v10 _ _ _ hH (lv_sub hl [6, 0] rfl)
    · refine kb_if_ne (tgt := 39) hx hb dX6_fulfilling_32 (by decide) (fun _ => ?_) (fun _ => ?_)
      · refine lv_iload_n hx hb dX6_fulfilling_39 rfl (lv_at hl 6 rfl) ?_
        exact hK40_32 a2 _ _ _ hH (lv_sub hl [0, 1, 2, 3, 4, 7] rfl)
      · refine lv_iload_n hx hb dX6_fulfilling_35 rfl (lv_at hl 5 rfl) ?_
        refine lv_goto (tgt := 40) hx hb dX6_fulfilling_36 (by decide) ?_
        exact hK40_32 a1 _ _ _ hH (lv_sub hl [0, 1, 2, 3, 4, 7] rfl)
  · refine kb_if_ne (tgt := 27) hx hb dX6_fulfilling_20 (by decide) (fun _ => ?_) (fun _ => ?_)
    · refine lv_iload_n hx hb dX6_fulfilling_27 rfl (lv_at hl 5 rfl) ?_
      exact hK28_20 a2 _ _ _ hH (lv_sub hl [0, 1, 2, 3, 4, 5, 6] rfl)
    · refine lv_iload_n hx hb dX6_fulfilling_23 rfl (lv_at hl 4 rfl) ?_
      refine lv_goto (tgt := 28) hx hb dX6_fulfilling_24 (by decide) ?_
      exact hK28_20 a1 _ _ _ hH (lv_sub hl [0, 1, 2, 3, 4, 5, 6] rfl)
def fX6_makersOf_X29 (x : Int32 × Int32) : Option (Int32) := match x with | (v5, v6) => some (v5 &&& v6)
theorem fX6_makersOf_X29_u {v5 : Int32} {v6 : Int32} : fX6_makersOf_X29 (v5, v6) = some (v5 &&& v6) := rfl
def fX6_makersOf_J68_51 (M : KS) (a2 : Int32) (a3 : Int32) (o5 : Nat) (v3 : Int32) (v4 : Int32) (rec29 : (Int32 × Int32 × Int32) → Option (Int32)) (v7 : Int32) (v8 : Int32) : Option (Int32) := (if v7 ≤ 0 then nm (v4 + 1) fun v9 => rec29 (v8, v3, v9) else (fX6_fulfilling M v7 a2 a3 o5).bind fun v10 => nm ((v3 ||| v10)) fun v11 => nm (v4 + 1) fun v12 => rec29 (v8, v11, v12))
theorem fX6_makersOf_J68_51_u {M : KS} {a2 : Int32} {a3 : Int32} {o5 : Nat} {v3 : Int32} {v4 : Int32} {rec29 : (Int32 × Int32 × Int32) → Option (Int32)} {v7 : Int32} {v8 : Int32} : fX6_makersOf_J68_51 M a2 a3 o5 v3 v4 rec29 v7 v8 = (if v7 ≤ 0 then nm (v4 + 1) fun v9 => rec29 (v8, v3, v9) else (fX6_fulfilling M v7 a2 a3 o5).bind fun v10 => nm ((v3 ||| v10)) fun v11 => nm (v4 + 1) fun v12 => rec29 (v8, v11, v12)) := rfl
def fX6_makersOf_L29 (M : KS) (o0 : Nat) (a1 : Int32) (a2 : Int32) (a3 : Int32) (o4 : Nat) (o5 : Nat) (rec29 : (Int32 × Int32 × Int32) → Option (Int32)) (k29 : (Int32 × Int32) → Option (Int32)) (x : Int32 × Int32 × Int32) : Option (Int32) := match x with | (v2, v3, v4) => (if 3 ≤ v4 then k29 (v2, v3) else (if v2 = 0 then k29 (v2, v3) else (fX6_code M o0 a1 v4).bind fun v7 => jn (fX6_makersOf_J68_51 M a2 a3 o5 v3 v4 rec29 v7) (fun K68_51 => (if v7 = 0 then K68_51 v2 else (fX6_fulfilling M v7 a2 a3 o4).bind fun v13 => nm ((v2 &&& v13)) fun v14 => K68_51 v14))))
theorem fX6_makersOf_L29_u {M : KS} {o0 : Nat} {a1 : Int32} {a2 : Int32} {a3 : Int32} {o4 : Nat} {o5 : Nat} {rec29 : (Int32 × Int32 × Int32) → Option (Int32)} {k29 : (Int32 × Int32) → Option (Int32)} {v2 : Int32} {v3 : Int32} {v4 : Int32} : fX6_makersOf_L29 M o0 a1 a2 a3 o4 o5 rec29 k29 (v2, v3, v4) = (if 3 ≤ v4 then k29 (v2, v3) else (if v2 = 0 then k29 (v2, v3) else (fX6_code M o0 a1 v4).bind fun v7 => jn (fX6_makersOf_J68_51 M a2 a3 o5 v3 v4 rec29 v7) (fun K68_51 => (if v7 = 0 then K68_51 v2 else (fX6_fulfilling M v7 a2 a3 o4).bind fun v13 => nm ((v2 &&& v13)) fun v14 => K68_51 v14)))) := rfl
def fX6_makersOf (M : KS) (o0 : Nat) (a1 : Int32) (a2 : Int32) (a3 : Int32) (o4 : Nat) (o5 : Nat) : Option (Int32) := (if a1 < 0 then some 0 else (if a1 < 11 then if inb a1 11 then nm ((M.1 (iRa o0) a1.toNatClampNeg)) fun v1 => lp (fX6_makersOf_L29 M o0 a1 a2 a3 o4 o5) (fX6_makersOf_X29) 1000000 (v1, 0, 0) else none else some 0))
set_option maxHeartbeats 4000000 in
set_option maxRecDepth 100000 in
theorem kX6_makersOf (l : Launch) (E : KE) (ad : Nat → Nat) (M : KS) (o0 : Nat) (ho0 : o0 < 11) (a1 : Int32) (a2 : Int32) (a3 : Int32) (o4 : Nat) (ho4 : o4 < 15) (o5 : Nat) (ho5 : o5 < 15) : CT l yX6_makersOf cX6_makersOf 10 (some .int) { frames := 2, cells := 0, slots := 0, locals := 53 } SK E ad [.ref (ad (iR o0)), .int a1, .int a2, .int a3, .ref (ad (iF o4)), .ref (ad (iF o5))] M (fun sz a => QI SK E ad sz (a, M)) (fX6_makersOf M o0 a1 a2 a3 o4 o5) := by
  refine CT.ofW (by decide) (Nat.le_of_ble_eq_true rfl) (fun sz p e s m args below meth c C hr hH ls hl => ?_)
  have hx := C.1.1
  have hb := C.1.2.1
  have hl : lv_has ls 10 [(0, .ref (ad (iR o0))), (1, .int a1), (2, .int a2), (3, .int a3), (4, .ref (ad (iF o4))), (5, .ref (ad (iF o5)))] := hl
  unfold fX6_makersOf
  refine lv_iload_n hx hb dX6_makersOf_0 rfl (lv_at hl 1 rfl) ?_
  refine kb_if_lt (tgt := 13) hx hb dX6_makersOf_1 (by decide) (fun _ => ?_) (fun _ => ?_)
  · refine lv_iconst (v := 0) hx hb dX6_makersOf_13 (by decide) ?_
    exact ke_i C hH hr (Nat.le_refl _) (Nat.le_refl _) rfl dX6_makersOf_14
  · refine lv_iload_n hx hb dX6_makersOf_4 rfl (lv_at hl 1 rfl) ?_
    refine lv_aload_n hx hb dX6_makersOf_5 rfl (lv_at hl 0 rfl) ?_
    refine k_get C hH fd_X6_9 (oR (f := o0) ho0) (k_ref (M := M) (ad := ad) (rR0 (f := o0) ho0)) dX6_makersOf_6 ?_
    refine k_ilen C hH (aR0 (f := o0) ho0) (v := 11) rfl dX6_makersOf_9 ?_
    refine kb_icmp_lt (tgt := 15) hx hb dX6_makersOf_10 (by decide) (fun _ => ?_) (fun _ => ?_)
    · refine lv_aload_n hx hb dX6_makersOf_15 rfl (lv_at hl 0 rfl) ?_
      refine k_get C hH fd_X6_18 (oR (f := o0) ho0) (k_ref (M := M) (ad := ad) (rR2 (f := o0) ho0)) dX6_makersOf_16 ?_
      refine lv_iload_n hx hb dX6_makersOf_19 rfl (lv_at hl 1 rfl) ?_
      refine k_iald C hH (aR2 (f := o0) ho0) dX6_makersOf_20 ?_
      refine W_nmi (fun v1 => ?_)
      refine lv_istore (lv' := [(6, .int v1), (0, .ref (ad (iR o0))), (1, .int a1), (2, .int a2), (3, .int a3), (4, .ref (ad (iF o4))), (5, .ref (ad (iF o5)))]) hx hb dX6_makersOf_21 hl (by decide) rfl (fun ls hl => ?_)
      refine lv_iconst (v := 0) hx hb dX6_makersOf_23 (by decide) ?_
      refine lv_istore (lv' := [(7, .int 0), (6, .int v1), (0, .ref (ad (iR o0))), (1, .int a1), (2, .int a2), (3, .int a3), (4, .ref (ad (iF o4))), (5, .ref (ad (iF o5)))]) hx hb dX6_makersOf_24 hl (by decide) rfl (fun ls hl => ?_)
      refine lv_iconst (v := 0) hx hb dX6_makersOf_26 (by decide) ?_
      refine lv_istore (lv' := [(8, .int 0), (7, .int 0), (6, .int v1), (0, .ref (ad (iR o0))), (1, .int a1), (2, .int a2), (3, .int a3), (4, .ref (ad (iF o4))), (5, .ref (ad (iF o5)))]) hx hb dX6_makersOf_27 hl (by decide) rfl (fun ls hl => ?_)
      refine W_lp (fun (x : Int32 × Int32 × Int32) H locs => KH SK E ad sz M s.heap H locs) (fun x ls => lv_has ls 10 [(0, .ref (ad (iR o0))), (1, .int a1), (2, .int a2), (3, .int a3), (4, .ref (ad (iF o4))), (5, .ref (ad (iF o5))), (6, .int x.1), (7, .int x.2.1), (8, .int x.2.2)]) (fun _ ls => F0 m 29 ls []) (fun (x : Int32 × Int32) H locs => KH SK E ad sz M s.heap H locs) (fun x ls => lv_has ls 10 [(6, .int x.1), (7, .int x.2)]) (fun _ ls => F0 m 93 ls []) ?_ ?_ hH (lv_sub hl [3, 4, 5, 6, 7, 8, 2, 1, 0] rfl)
      · intro ⟨v5, v6⟩ H locs ls hH hl
        have hH : KH SK E ad sz M s.heap H locs := hH
        have hl : lv_has ls 10 [(6, .int v5), (7, .int v6)] := hl
        refine W_q fX6_makersOf_X29_u ?_
        refine lv_iload hx hb dX6_makersOf_93 (lv_at hl 0 rfl) ?_
        refine lv_iload hx hb dX6_makersOf_95 (lv_at hl 1 rfl) ?_
        refine lv_iand hx hb dX6_makersOf_97 ?_
        exact ke_i C hH hr (Nat.le_refl _) (Nat.le_refl _) rfl dX6_makersOf_98
      · intro rec29 k29 hrec29 hk29 ⟨v2, v3, v4⟩ H locs ls hH hl
        have hH : KH SK E ad sz M s.heap H locs := hH
        have hl : lv_has ls 10 [(0, .ref (ad (iR o0))), (1, .int a1), (2, .int a2), (3, .int a3), (4, .ref (ad (iF o4))), (5, .ref (ad (iF o5))), (6, .int v2), (7, .int v3), (8, .int v4)] := hl
        refine W_q fX6_makersOf_L29_u ?_
        refine lv_iload hx hb dX6_makersOf_29 (lv_at hl 8 rfl) ?_
        refine lv_iconst (v := 3) hx hb dX6_makersOf_31 (by decide) ?_
        refine kb_icmp_ge (tgt := 93) hx hb dX6_makersOf_32 (by decide) (fun _ => ?_) (fun _ => ?_)
        · exact hk29 (v2, v3) _ _ _ hH (lv_sub hl [6, 7] rfl)
        · refine lv_iload hx hb dX6_makersOf_35 (lv_at hl 6 rfl) ?_
          refine kb_if_eq (tgt := 93) hx hb dX6_makersOf_37 (by decide) (fun _ => ?_) (fun _ => ?_)
          · exact hk29 (v2, v3) _ _ _ hH (lv_sub hl [6, 7] rfl)
          · refine lv_aload_n hx hb dX6_makersOf_40 rfl (lv_at hl 0 rfl) ?_
            refine lv_iload_n hx hb dX6_makersOf_41 rfl (lv_at hl 1 rfl) ?_
            refine lv_iload hx hb dX6_makersOf_42 (lv_at hl 8 rfl) ?_
            refine kg_io C hH (kc_V C hH w_2_92 lc_yX6_code li_yX6_code (oR (f := o0) ho0) (kX6_code l E ad M o0 ho0 a1 v4) (As := [.int a1, .int v4]) rfl dX6_makersOf_44 rfl hl.1 (Nat.le_of_ble_eq_true rfl) ⟨Nat.le_of_ble_eq_true rfl, Nat.le_of_ble_eq_true rfl⟩ ⟨Nat.le_of_ble_eq_true rfl, Nat.le_of_ble_eq_true rfl⟩) ⟨rfl, rfl⟩ (fun v7 H locs hH => ?_)
            refine lv_istore (lv' := [(9, .int v7), (0, .ref (ad (iR o0))), (1, .int a1), (2, .int a2), (3, .int a3), (4, .ref (ad (iF o4))), (5, .ref (ad (iF o5))), (6, .int v2), (7, .int v3), (8, .int v4)]) hx hb dX6_makersOf_47 hl (by decide) rfl (fun ls hl => ?_)
            refine lv_iload hx hb dX6_makersOf_49 (lv_at hl 0 rfl) ?_
            refine W_jn (fun (x : Int32) H locs => KH SK E ad sz M s.heap H locs) (fun x ls => lv_has ls 10 [(9, .int v7), (0, .ref (ad (iR o0))), (1, .int a1), (2, .int a2), (3, .int a3), (4, .ref (ad (iF o4))), (5, .ref (ad (iF o5))), (7, .int v3), (8, .int v4), (6, .int x)]) (fun x ls => F0 m 68 ls []) ?_ (fun K68_51 hK68_51 => ?_)
            · intro v8 H locs ls hH hl
              have hH : KH SK E ad sz M s.heap H locs := hH
              have hl : lv_has ls 10 [(9, .int v7), (0, .ref (ad (iR o0))), (1, .int a1), (2, .int a2), (3, .int a3), (4, .ref (ad (iF o4))), (5, .ref (ad (iF o5))), (7, .int v3), (8, .int v4), (6, .int v8)] := hl
              refine W_q fX6_makersOf_J68_51_u ?_
              refine lv_iload hx hb dX6_makersOf_68 (lv_at hl 0 rfl) ?_
              refine kb_if_le (tgt := 87) hx hb dX6_makersOf_70 (by decide) (fun _ => ?_) (fun _ => ?_)
              · refine W_nm (fun v9 ev9 => ?_)
                refine lv_iinc (v := v9) (lv' := [(8, .int v9), (9, .int v7), (0, .ref (ad (iR o0))), (1, .int a1), (2, .int a2), (3, .int a3), (4, .ref (ad (iF o4))), (5, .ref (ad (iF o5))), (7, .int v3), (6, .int v8)]) hx hb dX6_makersOf_87 hl (k := 8) rfl (by rw [ev9]; rfl) (by decide) rfl (fun ls hl => ?_)
                refine lv_goto (tgt := 29) hx hb dX6_makersOf_90 (by decide) ?_
                exact hrec29 (v8, v3, v9) _ _ _ hH (lv_sub hl [2, 3, 4, 5, 6, 7, 9, 8, 0] rfl)
              · refine lv_iload hx hb dX6_makersOf_73 (lv_at hl 7 rfl) ?_
                refine lv_iload hx hb dX6_makersOf_75 (lv_at hl 0 rfl) ?_
                refine lv_iload_n hx hb dX6_makersOf_77 rfl (lv_at hl 3 rfl) ?_
                refine lv_iload_n hx hb dX6_makersOf_78 rfl (lv_at hl 4 rfl) ?_
                refine lv_aload hx hb dX6_makersOf_79 (lv_at hl 6 rfl) ?_
                refine kg_io C hH (kc_S C hH w_2_93 w_st_yX6_fulfilling rfl lc_yX6_fulfilling (kX6_fulfilling l E ad M v7 a2 a3 o5 ho5) (As := [.int v7, .int a2, .int a3, .ref (ad (iF o5))]) rfl dX6_makersOf_81 rfl hl.1 (Nat.le_of_ble_eq_true rfl) ⟨Nat.le_of_ble_eq_true rfl, Nat.le_of_ble_eq_true rfl⟩ ⟨Nat.le_of_ble_eq_true rfl, Nat.le_of_ble_eq_true rfl⟩) ⟨rfl, rfl⟩ (fun v10 H locs hH => ?_)
                refine lv_ior hx hb dX6_makersOf_84 ?_
                refine W_nmi (fun v11 => ?_)
                refine lv_istore (lv' := [(7, .int v11), (9, .int v7), (0, .ref (ad (iR o0))), (1, .int a1), (2, .int a2), (3, .int a3), (4, .ref (ad (iF o4))), (5, .ref (ad (iF o5))), (8, .int v4), (6, .int v8)]) hx hb dX6_makersOf_85 hl (by decide) rfl (fun ls hl => ?_)
                refine W_nm (fun v12 ev12 => ?_)
                refine lv_iinc (v := v12) (lv' := [(8, .int v12), (7, .int v11), (9, .int v7), (0, .ref (ad (iR o0))), (1, .int a1), (2, .int a2), (3, .int a3), (4, .ref (ad (iF o4))), (5, .ref (ad (iF o5))), (6, .int v8)]) hx hb dX6_makersOf_87 hl (k := 8) rfl (by rw [ev12]; rfl) (by decide) rfl (fun ls hl => ?_)
                refine lv_goto (tgt := 29) hx hb dX6_makersOf_90 (by decide) ?_
                exact hrec29 (v8, v11, v12) _ _ _ hH (lv_sub hl [3, 4, 5, 6, 7, 8, 9, 1, 0] rfl)
            · refine kb_if_eq (tgt := 68) hx hb dX6_makersOf_51 (by decide) (fun _ => ?_) (fun _ => ?_)
              · exact hK68_51 v2 _ _ _ hH (lv_sub hl [0, 1, 2, 3, 4, 5, 6, 8, 9, 7] rfl)
              · refine lv_iload hx hb dX6_makersOf_54 (lv_at hl 7 rfl) ?_
                refine lv_iload hx hb dX6_makersOf_56 (lv_at hl 0 rfl) ?_
                refine lv_iload_n hx hb dX6_makersOf_58 rfl (lv_at hl 3 rfl) ?_
                refine lv_iload_n hx hb dX6_makersOf_59 rfl (lv_at hl 4 rfl) ?_
                refine lv_aload hx hb dX6_makersOf_60 (lv_at hl 5 rfl) ?_
                refine kg_io C hH (kc_S C hH w_2_93 w_st_yX6_fulfilling rfl lc_yX6_fulfilling (kX6_fulfilling l E ad M v7 a2 a3 o4 ho4) (As := [.int v7, .int a2, .int a3, .ref (ad (iF o4))]) rfl dX6_makersOf_62 rfl hl.1 (Nat.le_of_ble_eq_true rfl) ⟨Nat.le_of_ble_eq_true rfl, Nat.le_of_ble_eq_true rfl⟩ ⟨Nat.le_of_ble_eq_true rfl, Nat.le_of_ble_eq_true rfl⟩) ⟨rfl, rfl⟩ (fun v13 H locs hH => ?_)
                refine lv_iand hx hb dX6_makersOf_65 ?_
                refine W_nmi (fun v14 => ?_)
                refine lv_istore (lv' := [(6, .int v14), (9, .int v7), (0, .ref (ad (iR o0))), (1, .int a1), (2, .int a2), (3, .int a3), (4, .ref (ad (iF o4))), (5, .ref (ad (iF o5))), (7, .int v3), (8, .int v4)]) hx hb dX6_makersOf_66 hl (by decide) rfl (fun ls hl => ?_)
                exact hK68_51 v14 _ _ _ hH (lv_sub hl [1, 2, 3, 4, 5, 6, 7, 8, 9, 0] rfl)
    · refine lv_iconst (v := 0) hx hb dX6_makersOf_13 (by decide) ?_
      exact ke_i C hH hr (Nat.le_refl _) (Nat.le_refl _) rfl dX6_makersOf_14
def fX9_lowestOf_X2 (_ : Unit) : Option (Int32) := some 0
theorem fX9_lowestOf_X2_u {u : Unit} : fX9_lowestOf_X2 u = some 0 := rfl
def fX9_lowestOf_L2 (a0 : Int32) (rec2 : (Int32) → Option (Int32)) (k2 : (Unit) → Option (Int32)) (v1 : Int32) : Option (Int32) := (if 6 ≤ v1 then k2 () else (if ((jshr a0 v1) &&& 1) = 0 then nm (v1 + 1) fun v2 => rec2 v2 else some v1))
theorem fX9_lowestOf_L2_u {a0 : Int32} {rec2 : (Int32) → Option (Int32)} {k2 : (Unit) → Option (Int32)} {v1 : Int32} : fX9_lowestOf_L2 a0 rec2 k2 v1 = (if 6 ≤ v1 then k2 () else (if ((jshr a0 v1) &&& 1) = 0 then nm (v1 + 1) fun v2 => rec2 v2 else some v1)) := rfl
def fX9_lowestOf (a0 : Int32) : Option (Int32) := lp (fX9_lowestOf_L2 a0) (fX9_lowestOf_X2) 1000000 0
set_option maxHeartbeats 4000000 in
set_option maxRecDepth 100000 in
theorem kX9_lowestOf (l : Launch) (E : KE) (ad : Nat → Nat) (M : KS) (a0 : Int32) : CT l yX9_lowestOf cX9_lowestOf 2 (some .int) { frames := 0, cells := 0, slots := 0, locals := 0 } SK E ad [.int a0] M (fun sz a => QI SK E ad sz (a, M)) (fX9_lowestOf a0) := by
  refine CT.ofW (by decide) (Nat.le_of_ble_eq_true rfl) (fun sz p e s m args below meth c C hr hH ls hl => ?_)
  have hx := C.1.1
  have hb := C.1.2.1
  have hl : lv_has ls 2 [(0, .int a0)] := hl
  unfold fX9_lowestOf
  refine lv_iconst (v := 0) hx hb dX9_lowestOf_0 (by decide) ?_
  refine lv_istore_n (lv' := [(1, .int 0), (0, .int a0)]) hx hb dX9_lowestOf_1 rfl hl (by decide) rfl (fun ls hl => ?_)
  refine W_lp (fun (x : Int32) H locs => KH SK E ad sz M s.heap H locs) (fun x ls => lv_has ls 2 [(0, .int a0), (1, .int x)]) (fun _ ls => F0 m 2 ls []) (fun (x : Unit) H locs => KH SK E ad sz M s.heap H locs) (fun x ls => lv_has ls 2 []) (fun _ ls => F0 m 24 ls []) ?_ ?_ hH (lv_sub hl [1, 0] rfl)
  · intro _ H locs ls hH hl
    have hH : KH SK E ad sz M s.heap H locs := hH
    have hl : lv_has ls 2 [] := hl
    refine W_q fX9_lowestOf_X2_u ?_
    refine lv_iconst (v := 0) hx hb dX9_lowestOf_24 (by decide) ?_
    exact ke_i C hH hr (Nat.le_refl _) (Nat.le_refl _) rfl dX9_lowestOf_25
  · intro rec2 k2 hrec2 hk2 v1 H locs ls hH hl
    have hH : KH SK E ad sz M s.heap H locs := hH
    have hl : lv_has ls 2 [(0, .int a0), (1, .int v1)] := hl
    refine W_q fX9_lowestOf_L2_u ?_
    refine lv_iload_n hx hb dX9_lowestOf_2 rfl (lv_at hl 1 rfl) ?_
    refine lv_bipush (v := 6) hx hb dX9_lowestOf_3 (by decide) ?_
    refine kb_icmp_ge (tgt := 24) hx hb dX9_lowestOf_5 (by decide) (fun _ => ?_) (fun _ => ?_)
    · exact hk2 () _ _ _ hH (lv_sub hl [] rfl)
    · refine lv_iload_n hx hb dX9_lowestOf_8 rfl (lv_at hl 0 rfl) ?_
      refine lv_iload_n hx hb dX9_lowestOf_9 rfl (lv_at hl 1 rfl) ?_
      refine k_ishr hx hb dX9_lowestOf_10 ?_
      refine lv_iconst (v := 1) hx hb dX9_lowestOf_11 (by decide) ?_
      refine lv_iand hx hb dX9_lowestOf_12 ?_
      refine kb_if_eq (tgt := 18) hx hb dX9_lowestOf_13 (by decide) (fun _ => ?_) (fun _ => ?_)
      · refine W_nm (fun v2 ev2 => ?_)
        refine lv_iinc (v := v2) (lv' := [(1, .int v2), (0, .int a0)]) hx hb dX9_lowestOf_18 hl (k := 1) rfl (by rw [ev2]; rfl) (by decide) rfl (fun ls hl => ?_)
        refine lv_goto (tgt := 2) hx hb dX9_lowestOf_21 (by decide) ?_
        exact hrec2 v2 _ _ _ hH (lv_sub hl [1, 0] rfl)
      · refine lv_iload_n hx hb dX9_lowestOf_16 rfl (lv_at hl 1 rfl) ?_
        exact ke_i C hH hr (Nat.le_refl _) (Nat.le_refl _) rfl dX9_lowestOf_17
def fX1_enter (M : KS) (a1 : Int32) (a2 : Int32) (a3 : Int32) (a4 : Int32) : Option (KS) := (if a1 < 0 then some M else (if a1 < 216 then if inb a1 216 then nm (kset M 107 a1.toNatClampNeg a2) fun M1 => if inb a1 216 then nm (kset M1 108 a1.toNatClampNeg a3) fun M2 => if inb a1 216 then nm (kset M2 109 a1.toNatClampNeg a4) fun M3 => (fX2_put M3 13 a1).bind fun M4 => some M4 else none else none else none else some M))
set_option maxHeartbeats 4000000 in
set_option maxRecDepth 100000 in
theorem kX1_enter (l : Launch) (E : KE) (ad : Nat → Nat) (M : KS) (a1 : Int32) (a2 : Int32) (a3 : Int32) (a4 : Int32) : CT l yX1_enter cX1_enter 5 none { frames := 1, cells := 0, slots := 0, locals := 21 } SK E ad [.ref (ad 106), .int a1, .int a2, .int a3, .int a4] M (QV SK E ad) (fX1_enter M a1 a2 a3 a4) := by
  refine CT.ofW (by decide) (Nat.le_of_ble_eq_true rfl) (fun sz p e s m args below meth c C hr hH ls hl => ?_)
  have hx := C.1.1
  have hb := C.1.2.1
  have hl : lv_has ls 5 [(0, .ref (ad 106)), (1, .int a1), (2, .int a2), (3, .int a3), (4, .int a4)] := hl
  unfold fX1_enter
  refine lv_iload_n hx hb dX1_enter_0 rfl (lv_at hl 1 rfl) ?_
  refine kb_if_lt (tgt := 11) hx hb dX1_enter_1 (by decide) (fun _ => ?_) (fun _ => ?_)
  · exact ke_v C hH hr (Nat.le_refl _) (Nat.le_refl _) rfl dX1_enter_11
  · refine lv_iload_n hx hb dX1_enter_4 rfl (lv_at hl 1 rfl) ?_
    refine lv_sipush (v := 216) hx hb dX1_enter_5 (by decide) ?_
    refine kb_icmp_lt (tgt := 12) hx hb dX1_enter_8 (by decide) (fun _ => ?_) (fun _ => ?_)
    · refine lv_aload_n hx hb dX1_enter_12 rfl (lv_at hl 0 rfl) ?_
      refine k_get C hH fd_X1_31 oD (k_ref (M := M) (ad := ad) rD4) dX1_enter_13 ?_
      refine lv_iload_n hx hb dX1_enter_16 rfl (lv_at hl 1 rfl) ?_
      refine lv_iload_n hx hb dX1_enter_17 rfl (lv_at hl 2 rfl) ?_
      refine k_iast C hH aD4 dX1_enter_18 (fun M1 H locs hH => ?_)
      refine lv_aload_n hx hb dX1_enter_19 rfl (lv_at hl 0 rfl) ?_
      refine k_get C hH fd_X1_35 oD (k_ref (M := M1) (ad := ad) rD5) dX1_enter_20 ?_
      refine lv_iload_n hx hb dX1_enter_23 rfl (lv_at hl 1 rfl) ?_
      refine lv_iload_n hx hb dX1_enter_24 rfl (lv_at hl 3 rfl) ?_
      refine k_iast C hH aD5 dX1_enter_25 (fun M2 H locs hH => ?_)
      refine lv_aload_n hx hb dX1_enter_26 rfl (lv_at hl 0 rfl) ?_
      refine k_get C hH fd_X1_38 oD (k_ref (M := M2) (ad := ad) rD6) dX1_enter_27 ?_
      refine lv_iload_n hx hb dX1_enter_30 rfl (lv_at hl 1 rfl) ?_
      refine lv_iload hx hb dX1_enter_31 (lv_at hl 4 rfl) ?_
      refine k_iast C hH aD6 dX1_enter_33 (fun M3 H locs hH => ?_)
      refine lv_aload_n hx hb dX1_enter_34 rfl (lv_at hl 0 rfl) ?_
      refine k_get C hH fd_X1_21 oD (k_ref (M := M3) (ad := ad) rD2) dX1_enter_35 ?_
      refine lv_iload_n hx hb dX1_enter_38 rfl (lv_at hl 1 rfl) ?_
      refine kg_v C hH (kc_V C hH w_2_122 lc_yX2_put li_yX2_put (oF (f := 13) (by decide)) (kX2_put l E ad M3 13 (by decide) a1) (As := [.int a1]) rfl dX1_enter_39 rfl hl.1 (Nat.le_of_ble_eq_true rfl) ⟨Nat.le_of_ble_eq_true rfl, Nat.le_of_ble_eq_true rfl⟩ ⟨Nat.le_of_ble_eq_true rfl, Nat.le_of_ble_eq_true rfl⟩) ⟨rfl, rfl⟩ (fun M4 H locs hH => ?_)
      exact ke_v C hH hr (Nat.le_refl _) (Nat.le_refl _) rfl dX1_enter_42
    · exact ke_v C hH hr (Nat.le_refl _) (Nat.le_refl _) rfl dX1_enter_11
def fX1_person_o (a0 : Int32) (a1 : Int32) (a2 : Int32) : Option (Int32) := (if a0 = 2 then some a2 else (if a0 = 0 then some (jrem (a1 / 6) 6) else some (jrem a1 6)))
def fX1_person (a0 : Int32) (a1 : Int32) (a2 : Int32) : Int32 := (if a0 = 2 then a2 else (if a0 = 0 then (jrem (a1 / 6) 6) else (jrem a1 6)))
theorem fX1_person_s {a0 : Int32} {a1 : Int32} {a2 : Int32} : fX1_person_o a0 a1 a2 = some (fX1_person a0 a1 a2) := by
  unfold fX1_person_o fX1_person
  (repeat' split) <;> rfl
set_option maxHeartbeats 4000000 in
set_option maxRecDepth 100000 in
theorem kX1_person_o (l : Launch) (E : KE) (ad : Nat → Nat) (M : KS) (a0 : Int32) (a1 : Int32) (a2 : Int32) : CT l yX1_person cX1_person 3 (some .int) { frames := 0, cells := 0, slots := 0, locals := 0 } SK E ad [.int a0, .int a1, .int a2] M (fun sz a => QI SK E ad sz (a, M)) (fX1_person_o a0 a1 a2) := by
  refine CT.ofW (by decide) (Nat.le_of_ble_eq_true rfl) (fun sz p e s m args below meth c C hr hH ls hl => ?_)
  have hx := C.1.1
  have hb := C.1.2.1
  have hl : lv_has ls 3 [(0, .int a0), (1, .int a1), (2, .int a2)] := hl
  unfold fX1_person_o
  refine lv_iload_n hx hb dX1_person_0 rfl (lv_at hl 0 rfl) ?_
  refine lv_iconst (v := 2) hx hb dX1_person_1 (by decide) ?_
  refine kb_icmp_ne (tgt := 7) hx hb dX1_person_2 (by decide) (fun _ => ?_) (fun _ => ?_)
  · refine lv_iload_n hx hb dX1_person_7 rfl (lv_at hl 0 rfl) ?_
    refine kb_if_ne (tgt := 21) hx hb dX1_person_8 (by decide) (fun _ => ?_) (fun _ => ?_)
    · refine lv_iload_n hx hb dX1_person_21 rfl (lv_at hl 1 rfl) ?_
      refine lv_bipush (v := 6) hx hb dX1_person_22 (by decide) ?_
      refine k_irem hx hb dX1_person_24 (by decide) ?_
      exact ke_i C hH hr (Nat.le_refl _) (Nat.le_refl _) rfl dX1_person_25
    · refine lv_iload_n hx hb dX1_person_11 rfl (lv_at hl 1 rfl) ?_
      refine lv_bipush (v := 6) hx hb dX1_person_12 (by decide) ?_
      refine lv_idiv hx hb dX1_person_14 (by decide) ?_
      refine lv_bipush (v := 6) hx hb dX1_person_15 (by decide) ?_
      refine k_irem hx hb dX1_person_17 (by decide) ?_
      refine lv_goto (tgt := 25) hx hb dX1_person_18 (by decide) ?_
      exact ke_i C hH hr (Nat.le_refl _) (Nat.le_refl _) rfl dX1_person_25
  · refine lv_iload_n hx hb dX1_person_5 rfl (lv_at hl 2 rfl) ?_
    exact ke_i C hH hr (Nat.le_refl _) (Nat.le_refl _) rfl dX1_person_6
theorem kX1_person (l : Launch) (E : KE) (ad : Nat → Nat) (M : KS) (a0 : Int32) (a1 : Int32) (a2 : Int32) : CT l yX1_person cX1_person 3 (some .int) { frames := 0, cells := 0, slots := 0, locals := 0 } SK E ad [.int a0, .int a1, .int a2] M (fun sz (_ : Unit) => QI SK E ad sz (fX1_person a0 a1 a2, M)) (some ()) := CT.pure (kX1_person_o l E ad M a0 a1 a2) fX1_person_s
def fX1_need (M : KS) (o1 : Nat) (a2 : Int32) (a3 : Int32) : Option (Int32) := (if a2 < 0 then some (-1) else (if a2 < 216 then if inb a2 216 then (fX6_code M o1 (M.1 108 a2.toNatClampNeg) a3).bind fun v1 => (if 0 < v1 then (fX9_firstIn v1).bind fun v2 => if inb a2 216 then nm ((fX1_person v2 a2 (M.1 109 a2.toNatClampNeg))) fun v3 => if inb a2 216 then nm ((fX1_person (fX9_secondIn v1) a2 (M.1 109 a2.toNatClampNeg))) fun v4 => some (fX9_numberOf (fX9_relationIn v1) v3 v4) else none else none else some (-1)) else none else some (-1)))
set_option maxHeartbeats 4000000 in
set_option maxRecDepth 100000 in
theorem kX1_need (l : Launch) (E : KE) (ad : Nat → Nat) (M : KS) (o1 : Nat) (ho1 : o1 < 11) (a2 : Int32) (a3 : Int32) : CT l yX1_need cX1_need 7 (some .int) { frames := 1, cells := 0, slots := 0, locals := 22 } SK E ad [.ref (ad 106), .ref (ad (iR o1)), .int a2, .int a3] M (fun sz a => QI SK E ad sz (a, M)) (fX1_need M o1 a2 a3) := by
  refine CT.ofW (by decide) (Nat.le_of_ble_eq_true rfl) (fun sz p e s m args below meth c C hr hH ls hl => ?_)
  have hx := C.1.1
  have hb := C.1.2.1
  have hl : lv_has ls 7 [(0, .ref (ad 106)), (1, .ref (ad (iR o1))), (2, .int a2), (3, .int a3)] := hl
  unfold fX1_need
  refine lv_iload_n hx hb dX1_need_0 rfl (lv_at hl 2 rfl) ?_
  refine kb_if_lt (tgt := 11) hx hb dX1_need_1 (by decide) (fun _ => ?_) (fun _ => ?_)
  · refine lv_iconst (v := (-1)) hx hb dX1_need_11 (by decide) ?_
    exact ke_i C hH hr (Nat.le_refl _) (Nat.le_refl _) rfl dX1_need_12
  · refine lv_iload_n hx hb dX1_need_4 rfl (lv_at hl 2 rfl) ?_
    refine lv_sipush (v := 216) hx hb dX1_need_5 (by decide) ?_
    refine kb_icmp_lt (tgt := 13) hx hb dX1_need_8 (by decide) (fun _ => ?_) (fun _ => ?_)
    · refine lv_aload_n hx hb dX1_need_13 rfl (lv_at hl 1 rfl) ?_
      refine lv_aload_n hx hb dX1_need_14 rfl (lv_at hl 0 rfl) ?_
      refine k_get C hH fd_X1_35 oD (k_ref (M := M) (ad := ad) rD5) dX1_need_15 ?_
      refine lv_iload_n hx hb dX1_need_18 rfl (lv_at hl 2 rfl) ?_
      refine k_iald C hH aD5 dX1_need_19 ?_
      refine lv_iload_n hx hb dX1_need_20 rfl (lv_at hl 3 rfl) ?_
      refine kg_io C hH (kc_V C hH w_2_134 lc_yX6_code li_yX6_code (oR (f := o1) ho1) (kX6_code l E ad M o1 ho1 (M.1 108 a2.toNatClampNeg) a3) (As := [.int (M.1 108 a2.toNatClampNeg), .int a3]) rfl dX1_need_21 rfl hl.1 (Nat.le_of_ble_eq_true rfl) ⟨Nat.le_of_ble_eq_true rfl, Nat.le_of_ble_eq_true rfl⟩ ⟨Nat.le_of_ble_eq_true rfl, Nat.le_of_ble_eq_true rfl⟩) ⟨rfl, rfl⟩ (fun v1 H locs hH => ?_)
      refine lv_istore (lv' := [(4, .int v1), (0, .ref (ad 106)), (1, .ref (ad (iR o1))), (2, .int a2), (3, .int a3)]) hx hb dX1_need_24 hl (by decide) rfl (fun ls hl => ?_)
      refine lv_iload hx hb dX1_need_26 (lv_at hl 0 rfl) ?_
      refine kb_if_gt (tgt := 33) hx hb dX1_need_28 (by decide) (fun _ => ?_) (fun _ => ?_)
      · refine lv_iload hx hb dX1_need_33 (lv_at hl 0 rfl) ?_
        refine kg_io C hH (kc_SN C hH w_2_135 w_st_yX9_firstIn lc_yX9_firstIn (kX9_firstIn l E ad M v1) (As := [.int v1]) rfl dX1_need_35 rfl hl.1 (Nat.le_of_ble_eq_true rfl) ⟨Nat.le_of_ble_eq_true rfl, Nat.le_of_ble_eq_true rfl⟩ ⟨Nat.le_of_ble_eq_true rfl, Nat.le_of_ble_eq_true rfl⟩) ⟨rfl, rfl⟩ (fun v2 H locs hH => ?_)
        refine lv_iload_n hx hb dX1_need_38 rfl (lv_at hl 3 rfl) ?_
        refine lv_aload_n hx hb dX1_need_39 rfl (lv_at hl 1 rfl) ?_
        refine k_get C hH fd_X1_38 oD (k_ref (M := M) (ad := ad) rD6) dX1_need_40 ?_
        refine lv_iload_n hx hb dX1_need_43 rfl (lv_at hl 3 rfl) ?_
        refine k_iald C hH aD6 dX1_need_44 ?_
        refine kg_ip C hH (kc_S C hH w_2_136 w_st_yX1_person rfl lc_yX1_person (kX1_person l E ad M v2 a2 (M.1 109 a2.toNatClampNeg)) (As := [.int v2, .int a2, .int (M.1 109 a2.toNatClampNeg)]) rfl dX1_need_45 rfl hl.1 (Nat.le_of_ble_eq_true rfl) ⟨Nat.le_of_ble_eq_true rfl, Nat.le_of_ble_eq_true rfl⟩ ⟨Nat.le_of_ble_eq_true rfl, Nat.le_of_ble_eq_true rfl⟩) ⟨rfl, rfl⟩ (fun H locs hH => ?_)
        refine W_nmi (fun v3 => ?_)
        refine lv_istore (lv' := [(5, .int v3), (4, .int v1), (0, .ref (ad 106)), (1, .ref (ad (iR o1))), (2, .int a2), (3, .int a3)]) hx hb dX1_need_48 hl (by decide) rfl (fun ls hl => ?_)
        refine lv_iload hx hb dX1_need_50 (lv_at hl 1 rfl) ?_
        refine kg_ip C hH (kc_SN C hH w_2_139 w_st_yX9_secondIn lc_yX9_secondIn (kX9_secondIn l E ad M v1) (As := [.int v1]) rfl dX1_need_52 rfl hl.1 (Nat.le_of_ble_eq_true rfl) ⟨Nat.le_of_ble_eq_true rfl, Nat.le_of_ble_eq_true rfl⟩ ⟨Nat.le_of_ble_eq_true rfl, Nat.le_of_ble_eq_true rfl⟩) ⟨rfl, rfl⟩ (fun H locs hH => ?_)
        refine lv_iload_n hx hb dX1_need_55 rfl (lv_at hl 4 rfl) ?_
        refine lv_aload_n hx hb dX1_need_56 rfl (lv_at hl 2 rfl) ?_
        refine k_get C hH fd_X1_38 oD (k_ref (M := M) (ad := ad) rD6) dX1_need_57 ?_
        refine lv_iload_n hx hb dX1_need_60 rfl (lv_at hl 4 rfl) ?_
        refine k_iald C hH aD6 dX1_need_61 ?_
        refine kg_ip C hH (kc_S C hH w_2_136 w_st_yX1_person rfl lc_yX1_person (kX1_person l E ad M (fX9_secondIn v1) a2 (M.1 109 a2.toNatClampNeg)) (As := [.int (fX9_secondIn v1), .int a2, .int (M.1 109 a2.toNatClampNeg)]) rfl dX1_need_62 rfl hl.1 (Nat.le_of_ble_eq_true rfl) ⟨Nat.le_of_ble_eq_true rfl, Nat.le_of_ble_eq_true rfl⟩ ⟨Nat.le_of_ble_eq_true rfl, Nat.le_of_ble_eq_true rfl⟩) ⟨rfl, rfl⟩ (fun H locs hH => ?_)
        refine W_nmi (fun v4 => ?_)
        refine lv_istore (lv' := [(6, .int v4), (5, .int v3), (4, .int v1), (0, .ref (ad 106)), (1, .ref (ad (iR o1))), (2, .int a2), (3, .int a3)]) hx hb dX1_need_65 hl (by decide) rfl (fun ls hl => ?_)
        refine lv_iload hx hb dX1_need_67 (lv_at hl 2 rfl) ?_
        refine kg_ip C hH (kc_SN C hH w_2_140 w_st_yX9_relationIn lc_yX9_relationIn (kX9_relationIn l E ad M v1) (As := [.int v1]) rfl dX1_need_69 rfl hl.1 (Nat.le_of_ble_eq_true rfl) ⟨Nat.le_of_ble_eq_true rfl, Nat.le_of_ble_eq_true rfl⟩ ⟨Nat.le_of_ble_eq_true rfl, Nat.le_of_ble_eq_true rfl⟩) ⟨rfl, rfl⟩ (fun H locs hH => ?_)
        refine lv_iload hx hb dX1_need_72 (lv_at hl 1 rfl) ?_
        refine lv_iload hx hb dX1_need_74 (lv_at hl 0 rfl) ?_
        refine kg_ip C hH (kc_SN C hH w_2_141 w_st_yX9_numberOf lc_yX9_numberOf (kX9_numberOf l E ad M (fX9_relationIn v1) v3 v4) (As := [.int (fX9_relationIn v1), .int v3, .int v4]) rfl dX1_need_76 rfl hl.1 (Nat.le_of_ble_eq_true rfl) ⟨Nat.le_of_ble_eq_true rfl, Nat.le_of_ble_eq_true rfl⟩ ⟨Nat.le_of_ble_eq_true rfl, Nat.le_of_ble_eq_true rfl⟩) ⟨rfl, rfl⟩ (fun H locs hH => ?_)
        exact ke_i C hH hr (Nat.le_refl _) (Nat.le_refl _) rfl dX1_need_79
      · refine lv_iconst (v := (-1)) hx hb dX1_need_31 (by decide) ?_
        exact ke_i C hH hr (Nat.le_refl _) (Nat.le_refl _) rfl dX1_need_32
    · refine lv_iconst (v := (-1)) hx hb dX1_need_11 (by decide) ?_
      exact ke_i C hH hr (Nat.le_refl _) (Nat.le_refl _) rfl dX1_need_12
def fX1_rest_X2 (M3 : KS) : Option (KS) := some M3
theorem fX1_rest_X2_u {M3 : KS} : fX1_rest_X2 M3 = some M3 := rfl
def fX1_rest_X70 (v1 : Int32) (rec2 : (Int32 × KS) → Option (KS)) (M11 : KS) : Option (KS) := nm (v1 + 1) fun v12 => rec2 (v12, M11)
theorem fX1_rest_X70_u {v1 : Int32} {rec2 : (Int32 × KS) → Option (KS)} {M11 : KS} : fX1_rest_X70 v1 rec2 M11 = nm (v1 + 1) fun v12 => rec2 (v12, M11) := rfl
def fX1_rest_L70 (a2 : Int32) (v4 : Int32) (rec70 : (Int32 × KS) → Option (KS)) (k70 : (KS) → Option (KS)) (x : Int32 × KS) : Option (KS) := match x with | (v9, M10) => (if 6 ≤ v9 then k70 M10 else if inb ((6 * a2) + v9) 1296 then if inb ((6 * v4) + v9) 1296 then if inb ((6 * a2) + v9) 1296 then nm (ksetL M10 ((6 * a2) + v9).toNatClampNeg ((M10.2 ((6 * a2) + v9).toNatClampNeg) ||| (M10.2 ((6 * v4) + v9).toNatClampNeg))) fun M13 => nm (v9 + 1) fun v14 => rec70 (v14, M13) else none else none else none)
theorem fX1_rest_L70_u {a2 : Int32} {v4 : Int32} {rec70 : (Int32 × KS) → Option (KS)} {k70 : (KS) → Option (KS)} {v9 : Int32} {M10 : KS} : fX1_rest_L70 a2 v4 rec70 k70 (v9, M10) = (if 6 ≤ v9 then k70 M10 else if inb ((6 * a2) + v9) 1296 then if inb ((6 * v4) + v9) 1296 then if inb ((6 * a2) + v9) 1296 then nm (ksetL M10 ((6 * a2) + v9).toNatClampNeg ((M10.2 ((6 * a2) + v9).toNatClampNeg) ||| (M10.2 ((6 * v4) + v9).toNatClampNeg))) fun M13 => nm (v9 + 1) fun v14 => rec70 (v14, M13) else none else none else none) := rfl
def fX1_rest_L2 (o1 : Nat) (a2 : Int32) (rec2 : (Int32 × KS) → Option (KS)) (k2 : (KS) → Option (KS)) (x : Int32 × KS) : Option (KS) := match x with | (v1, M2) => (if 3 ≤ v1 then k2 M2 else (fX1_need M2 o1 a2 v1).bind fun v4 => (if a2 < 0 then nm (v1 + 1) fun v5 => rec2 (v5, M2) else (if 216 ≤ a2 then nm (v1 + 1) fun v6 => rec2 (v6, M2) else (if v4 < 0 then nm (v1 + 1) fun v7 => rec2 (v7, M2) else (if v4 < 216 then if inb a2 216 then if inb v4 216 then if inb a2 216 then nm (kset M2 110 a2.toNatClampNeg (jmax (M2.1 110 a2.toNatClampNeg) ((M2.1 110 v4.toNatClampNeg) + 1))) fun M8 => lp (fX1_rest_L70 a2 v4) (fX1_rest_X70 v1 rec2) 1000000 (0, M8) else none else none else none else nm (v1 + 1) fun v15 => rec2 (v15, M2))))))
theorem fX1_rest_L2_u {o1 : Nat} {a2 : Int32} {rec2 : (Int32 × KS) → Option (KS)} {k2 : (KS) → Option (KS)} {v1 : Int32} {M2 : KS} : fX1_rest_L2 o1 a2 rec2 k2 (v1, M2) = (if 3 ≤ v1 then k2 M2 else (fX1_need M2 o1 a2 v1).bind fun v4 => (if a2 < 0 then nm (v1 + 1) fun v5 => rec2 (v5, M2) else (if 216 ≤ a2 then nm (v1 + 1) fun v6 => rec2 (v6, M2) else (if v4 < 0 then nm (v1 + 1) fun v7 => rec2 (v7, M2) else (if v4 < 216 then if inb a2 216 then if inb v4 216 then if inb a2 216 then nm (kset M2 110 a2.toNatClampNeg (jmax (M2.1 110 a2.toNatClampNeg) ((M2.1 110 v4.toNatClampNeg) + 1))) fun M8 => lp (fX1_rest_L70 a2 v4) (fX1_rest_X70 v1 rec2) 1000000 (0, M8) else none else none else none else nm (v1 + 1) fun v15 => rec2 (v15, M2)))))) := rfl
def fX1_rest (M : KS) (o1 : Nat) (a2 : Int32) : Option (KS) := lp (fX1_rest_L2 o1 a2) (fX1_rest_X2) 1000000 (0, M)
set_option maxHeartbeats 4000000 in
set_option maxRecDepth 100000 in
theorem kX1_rest (l : Launch) (E : KE) (ad : Nat → Nat) (M : KS) (o1 : Nat) (ho1 : o1 < 11) (a2 : Int32) : CT l yX1_rest cX1_rest 6 none { frames := 2, cells := 0, slots := 0, locals := 48 } SK E ad [.ref (ad 106), .ref (ad (iR o1)), .int a2] M (QV SK E ad) (fX1_rest M o1 a2) := by
  refine CT.ofW (by decide) (Nat.le_of_ble_eq_true rfl) (fun sz p e s m args below meth c C hr hH ls hl => ?_)
  have hx := C.1.1
  have hb := C.1.2.1
  have hl : lv_has ls 6 [(0, .ref (ad 106)), (1, .ref (ad (iR o1))), (2, .int a2)] := hl
  unfold fX1_rest
  refine lv_iconst (v := 0) hx hb dX1_rest_0 (by decide) ?_
  refine lv_istore_n (lv' := [(3, .int 0), (0, .ref (ad 106)), (1, .ref (ad (iR o1))), (2, .int a2)]) hx hb dX1_rest_1 rfl hl (by decide) rfl (fun ls hl => ?_)
  refine W_lp (fun (x : Int32 × KS) H locs => KH SK E ad sz x.2 s.heap H locs) (fun x ls => lv_has ls 6 [(0, .ref (ad 106)), (1, .ref (ad (iR o1))), (2, .int a2), (3, .int x.1)]) (fun _ ls => F0 m 2 ls []) (fun (x : KS) H locs => KH SK E ad sz x s.heap H locs) (fun x ls => lv_has ls 6 []) (fun _ ls => F0 m 117 ls []) ?_ ?_ hH (lv_sub hl [1, 2, 3, 0] rfl)
  · intro M3 H locs ls hH hl
    have hH : KH SK E ad sz M3 s.heap H locs := hH
    have hl : lv_has ls 6 [] := hl
    refine W_q fX1_rest_X2_u ?_
    exact ke_v C hH hr (Nat.le_refl _) (Nat.le_refl _) rfl dX1_rest_117
  · intro rec2 k2 hrec2 hk2 ⟨v1, M2⟩ H locs ls hH hl
    have hH : KH SK E ad sz M2 s.heap H locs := hH
    have hl : lv_has ls 6 [(0, .ref (ad 106)), (1, .ref (ad (iR o1))), (2, .int a2), (3, .int v1)] := hl
    refine W_q fX1_rest_L2_u ?_
    refine lv_iload_n hx hb dX1_rest_2 rfl (lv_at hl 3 rfl) ?_
    refine lv_iconst (v := 3) hx hb dX1_rest_3 (by decide) ?_
    refine kb_icmp_ge (tgt := 117) hx hb dX1_rest_4 (by decide) (fun _ => ?_) (fun _ => ?_)
    · exact hk2 M2 _ _ _ hH (lv_sub hl [] rfl)
    · refine lv_aload_n hx hb dX1_rest_7 rfl (lv_at hl 0 rfl) ?_
      refine lv_aload_n hx hb dX1_rest_8 rfl (lv_at hl 1 rfl) ?_
      refine lv_iload_n hx hb dX1_rest_9 rfl (lv_at hl 2 rfl) ?_
      refine lv_iload_n hx hb dX1_rest_10 rfl (lv_at hl 3 rfl) ?_
      refine kg_io C hH (kc_V C hH w_2_130 lc_yX1_need li_yX1_need oD (kX1_need l E ad M2 o1 ho1 a2 v1) (As := [.ref (ad (iR o1)), .int a2, .int v1]) rfl dX1_rest_11 rfl hl.1 (Nat.le_of_ble_eq_true rfl) ⟨Nat.le_of_ble_eq_true rfl, Nat.le_of_ble_eq_true rfl⟩ ⟨Nat.le_of_ble_eq_true rfl, Nat.le_of_ble_eq_true rfl⟩) ⟨rfl, rfl⟩ (fun v4 H locs hH => ?_)
      refine lv_istore (lv' := [(4, .int v4), (0, .ref (ad 106)), (1, .ref (ad (iR o1))), (2, .int a2), (3, .int v1)]) hx hb dX1_rest_14 hl (by decide) rfl (fun ls hl => ?_)
      refine lv_iload_n hx hb dX1_rest_16 rfl (lv_at hl 3 rfl) ?_
      refine kb_if_lt (tgt := 111) hx hb dX1_rest_17 (by decide) (fun _ => ?_) (fun _ => ?_)
      · refine W_nm (fun v5 ev5 => ?_)
        refine lv_iinc (v := v5) (lv' := [(3, .int v5), (4, .int v4), (0, .ref (ad 106)), (1, .ref (ad (iR o1))), (2, .int a2)]) hx hb dX1_rest_111 hl (k := 4) rfl (by rw [ev5]; rfl) (by decide) rfl (fun ls hl => ?_)
        refine lv_goto (tgt := 2) hx hb dX1_rest_114 (by decide) ?_
        exact hrec2 (v5, M2) _ _ _ hH (lv_sub hl [2, 3, 4, 0] rfl)
      · refine lv_iload_n hx hb dX1_rest_20 rfl (lv_at hl 3 rfl) ?_
        refine lv_sipush (v := 216) hx hb dX1_rest_21 (by decide) ?_
        refine kb_icmp_ge (tgt := 111) hx hb dX1_rest_24 (by decide) (fun _ => ?_) (fun _ => ?_)
        · refine W_nm (fun v6 ev6 => ?_)
          refine lv_iinc (v := v6) (lv' := [(3, .int v6), (4, .int v4), (0, .ref (ad 106)), (1, .ref (ad (iR o1))), (2, .int a2)]) hx hb dX1_rest_111 hl (k := 4) rfl (by rw [ev6]; rfl) (by decide) rfl (fun ls hl => ?_)
          refine lv_goto (tgt := 2) hx hb dX1_rest_114 (by decide) ?_
          exact hrec2 (v6, M2) _ _ _ hH (lv_sub hl [2, 3, 4, 0] rfl)
        · refine lv_iload hx hb dX1_rest_27 (lv_at hl 0 rfl) ?_
          refine kb_if_lt (tgt := 111) hx hb dX1_rest_29 (by decide) (fun _ => ?_) (fun _ => ?_)
          · refine W_nm (fun v7 ev7 => ?_)
            refine lv_iinc (v := v7) (lv' := [(3, .int v7), (4, .int v4), (0, .ref (ad 106)), (1, .ref (ad (iR o1))), (2, .int a2)]) hx hb dX1_rest_111 hl (k := 4) rfl (by rw [ev7]; rfl) (by decide) rfl (fun ls hl => ?_)
            refine lv_goto (tgt := 2) hx hb dX1_rest_114 (by decide) ?_
            exact hrec2 (v7, M2) _ _ _ hH (lv_sub hl [2, 3, 4, 0] rfl)
          · refine lv_iload hx hb dX1_rest_32 (lv_at hl 0 rfl) ?_
            refine lv_sipush (v := 216) hx hb dX1_rest_34 (by decide) ?_
            refine kb_icmp_lt (tgt := 43) hx hb dX1_rest_37 (by decide) (fun _ => ?_) (fun _ => ?_)
            · refine lv_aload_n hx hb dX1_rest_43 rfl (lv_at hl 1 rfl) ?_
              refine k_get C hH fd_X1_41 oD (k_ref (M := M2) (ad := ad) rD7) dX1_rest_44 ?_
              refine lv_iload_n hx hb dX1_rest_47 rfl (lv_at hl 3 rfl) ?_
              refine lv_aload_n hx hb dX1_rest_48 rfl (lv_at hl 1 rfl) ?_
              refine k_get C hH fd_X1_41 oD (k_ref (M := M2) (ad := ad) rD7) dX1_rest_49 ?_
              refine lv_iload_n hx hb dX1_rest_52 rfl (lv_at hl 3 rfl) ?_
              refine k_iald C hH aD7 dX1_rest_53 ?_
              refine lv_aload_n hx hb dX1_rest_54 rfl (lv_at hl 1 rfl) ?_
              refine k_get C hH fd_X1_41 oD (k_ref (M := M2) (ad := ad) rD7) dX1_rest_55 ?_
              refine lv_iload hx hb dX1_rest_58 (lv_at hl 0 rfl) ?_
              refine k_iald C hH aD7 dX1_rest_60 ?_
              refine lv_iconst (v := 1) hx hb dX1_rest_61 (by decide) ?_
              refine lv_iadd hx hb dX1_rest_62 ?_
              refine k_mmax C w_2_144 hl.1 (Nat.le_of_ble_eq_true rfl) (Nat.le_of_ble_eq_true rfl) ⟨Nat.zero_le _, Nat.zero_le _⟩ dX1_rest_63 ?_
              refine k_iast C hH aD7 dX1_rest_66 (fun M8 H locs hH => ?_)
              refine lv_iconst (v := 0) hx hb dX1_rest_67 (by decide) ?_
              refine lv_istore (lv' := [(5, .int 0), (4, .int v4), (0, .ref (ad 106)), (1, .ref (ad (iR o1))), (2, .int a2), (3, .int v1)]) hx hb dX1_rest_68 hl (by decide) rfl (fun ls hl => ?_)
              refine W_lp (fun (x : Int32 × KS) H locs => KH SK E ad sz x.2 s.heap H locs) (fun x ls => lv_has ls 6 [(4, .int v4), (0, .ref (ad 106)), (1, .ref (ad (iR o1))), (2, .int a2), (3, .int v1), (5, .int x.1)]) (fun _ ls => F0 m 70 ls []) (fun (x : KS) H locs => KH SK E ad sz x s.heap H locs) (fun x ls => lv_has ls 6 [(0, .ref (ad 106)), (1, .ref (ad (iR o1))), (2, .int a2), (3, .int v1)]) (fun _ ls => F0 m 111 ls []) ?_ ?_ hH (lv_sub hl [1, 2, 3, 4, 5, 0] rfl)
              · intro M11 H locs ls hH hl
                have hH : KH SK E ad sz M11 s.heap H locs := hH
                have hl : lv_has ls 6 [(0, .ref (ad 106)), (1, .ref (ad (iR o1))), (2, .int a2), (3, .int v1)] := hl
                refine W_q fX1_rest_X70_u ?_
                refine W_nm (fun v12 ev12 => ?_)
                refine lv_iinc (v := v12) (lv' := [(3, .int v12), (0, .ref (ad 106)), (1, .ref (ad (iR o1))), (2, .int a2)]) hx hb dX1_rest_111 hl (k := 3) rfl (by rw [ev12]; rfl) (by decide) rfl (fun ls hl => ?_)
                refine lv_goto (tgt := 2) hx hb dX1_rest_114 (by decide) ?_
                exact hrec2 (v12, M11) _ _ _ hH (lv_sub hl [1, 2, 3, 0] rfl)
              · intro rec70 k70 hrec70 hk70 ⟨v9, M10⟩ H locs ls hH hl
                have hH : KH SK E ad sz M10 s.heap H locs := hH
                have hl : lv_has ls 6 [(4, .int v4), (0, .ref (ad 106)), (1, .ref (ad (iR o1))), (2, .int a2), (3, .int v1), (5, .int v9)] := hl
                refine W_q fX1_rest_L70_u ?_
                refine lv_iload hx hb dX1_rest_70 (lv_at hl 5 rfl) ?_
                refine lv_bipush (v := 6) hx hb dX1_rest_72 (by decide) ?_
                refine kb_icmp_ge (tgt := 111) hx hb dX1_rest_74 (by decide) (fun _ => ?_) (fun _ => ?_)
                · exact hk70 M10 _ _ _ hH (lv_sub hl [1, 2, 3, 4] rfl)
                · refine lv_aload_n hx hb dX1_rest_77 rfl (lv_at hl 1 rfl) ?_
                  refine k_get C hH fd_X1_44 oD (k_ref (M := M10) (ad := ad) rD8) dX1_rest_78 ?_
                  refine lv_bipush (v := 6) hx hb dX1_rest_81 (by decide) ?_
                  refine lv_iload_n hx hb dX1_rest_83 rfl (lv_at hl 3 rfl) ?_
                  refine lv_imul hx hb dX1_rest_84 ?_
                  refine lv_iload hx hb dX1_rest_85 (lv_at hl 5 rfl) ?_
                  refine lv_iadd hx hb dX1_rest_87 ?_
                  refine lv_dup2_11 hx hb dX1_rest_88 rfl rfl ?_
                  refine k_lald C hH aD8 dX1_rest_89 ?_
                  refine lv_aload_n hx hb dX1_rest_90 rfl (lv_at hl 1 rfl) ?_
                  refine k_get C hH fd_X1_44 oD (k_ref (M := M10) (ad := ad) rD8) dX1_rest_91 ?_
                  refine lv_bipush (v := 6) hx hb dX1_rest_94 (by decide) ?_
                  refine lv_iload hx hb dX1_rest_96 (lv_at hl 0 rfl) ?_
                  refine lv_imul hx hb dX1_rest_98 ?_
                  refine lv_iload hx hb dX1_rest_99 (lv_at hl 5 rfl) ?_
                  refine lv_iadd hx hb dX1_rest_101 ?_
                  refine k_lald C hH aD8 dX1_rest_102 ?_
                  refine lv_lor hx hb dX1_rest_103 ?_
                  refine k_last C hH aD8 uD dX1_rest_104 (fun M13 H locs hH => ?_)
                  refine W_nm (fun v14 ev14 => ?_)
                  refine lv_iinc (v := v14) (lv' := [(5, .int v14), (4, .int v4), (0, .ref (ad 106)), (1, .ref (ad (iR o1))), (2, .int a2), (3, .int v1)]) hx hb dX1_rest_105 hl (k := 5) rfl (by rw [ev14]; rfl) (by decide) rfl (fun ls hl => ?_)
                  refine lv_goto (tgt := 70) hx hb dX1_rest_108 (by decide) ?_
                  exact hrec70 (v14, M13) _ _ _ hH (lv_sub hl [1, 2, 3, 4, 5, 0] rfl)
            · refine lv_goto (tgt := 111) hx hb dX1_rest_40 (by decide) ?_
              refine W_nm (fun v15 ev15 => ?_)
              refine lv_iinc (v := v15) (lv' := [(3, .int v15), (4, .int v4), (0, .ref (ad 106)), (1, .ref (ad (iR o1))), (2, .int a2)]) hx hb dX1_rest_111 hl (k := 4) rfl (by rw [ev15]; rfl) (by decide) rfl (fun ls hl => ?_)
              refine lv_goto (tgt := 2) hx hb dX1_rest_114 (by decide) ?_
              exact hrec2 (v15, M2) _ _ _ hH (lv_sub hl [2, 3, 4, 0] rfl)
def fX1_addRound_X6 (x : Int32 × KS) : Option (Int32 × KS) := match x with | (v4, M5) => if isB v4 then some (v4, M5) else none
theorem fX1_addRound_X6_u {v4 : Int32} {M5 : KS} : fX1_addRound_X6 (v4, M5) = if isB v4 then some (v4, M5) else none := rfl
def fX1_addRound_X42 (v2 : Int32) (rec6 : (Int32 × Int32 × KS) → Option (Int32 × KS)) (x : Int32 × KS) : Option (Int32 × KS) := match x with | (v11, M12) => nm (v2 + 1) fun v13 => rec6 (v11, v13, M12)
theorem fX1_addRound_X42_u {v2 : Int32} {rec6 : (Int32 × Int32 × KS) → Option (Int32 × KS)} {v11 : Int32} {M12 : KS} : fX1_addRound_X42 v2 rec6 (v11, M12) = nm (v2 + 1) fun v13 => rec6 (v11, v13, M12) := rfl
def fX1_addRound_L42 (o1 : Nat) (a3 : Int32) (v2 : Int32) (v6 : Int32) (rec42 : (Int32 × Int32 × KS) → Option (Int32 × KS)) (k42 : (Int32 × KS) → Option (Int32 × KS)) (x : Int32 × Int32 × KS) : Option (Int32 × KS) := match x with | (v8, v9, M10) => (if 36 ≤ v9 then k42 (v8, M10) else nm (((36 * v6) + v9)) fun v14 => (fX2_has M10 11 v14).bind fun v15 => (if v15 = 0 then (fX2_has M10 13 v14).bind fun v17 => (if v17 = 0 then (fX6_makersOf M10 o1 v2 (v9 / 6) (jrem v9 6) 11 12).bind fun v18 => (if v18 = 0 then nm (v9 + 1) fun v19 => rec42 (v8, v19, M10) else (fX9_lowestOf v18).bind fun v20 => (fX1_enter M10 v14 a3 v2 v20).bind fun M21 => (fX1_rest M21 o1 v14).bind fun M22 => nm (v9 + 1) fun v23 => rec42 (1, v23, M22)) else nm (v9 + 1) fun v24 => rec42 (v8, v24, M10)) else nm (v9 + 1) fun v16 => rec42 (v8, v16, M10)))
theorem fX1_addRound_L42_u {o1 : Nat} {a3 : Int32} {v2 : Int32} {v6 : Int32} {rec42 : (Int32 × Int32 × KS) → Option (Int32 × KS)} {k42 : (Int32 × KS) → Option (Int32 × KS)} {v8 : Int32} {v9 : Int32} {M10 : KS} : fX1_addRound_L42 o1 a3 v2 v6 rec42 k42 (v8, v9, M10) = (if 36 ≤ v9 then k42 (v8, M10) else nm (((36 * v6) + v9)) fun v14 => (fX2_has M10 11 v14).bind fun v15 => (if v15 = 0 then (fX2_has M10 13 v14).bind fun v17 => (if v17 = 0 then (fX6_makersOf M10 o1 v2 (v9 / 6) (jrem v9 6) 11 12).bind fun v18 => (if v18 = 0 then nm (v9 + 1) fun v19 => rec42 (v8, v19, M10) else (fX9_lowestOf v18).bind fun v20 => (fX1_enter M10 v14 a3 v2 v20).bind fun M21 => (fX1_rest M21 o1 v14).bind fun M22 => nm (v9 + 1) fun v23 => rec42 (1, v23, M22)) else nm (v9 + 1) fun v24 => rec42 (v8, v24, M10)) else nm (v9 + 1) fun v16 => rec42 (v8, v16, M10))) := rfl
def fX1_addRound_L6 (o1 : Nat) (a2 : Int32) (a3 : Int32) (rec6 : (Int32 × Int32 × KS) → Option (Int32 × KS)) (k6 : (Int32 × KS) → Option (Int32 × KS)) (x : Int32 × Int32 × KS) : Option (Int32 × KS) := match x with | (v1, v2, M3) => (if (M3.1 (iR o1) 3) ≤ v2 then k6 (v1, M3) else (fX6_head M3 o1 v2).bind fun v6 => (fX3_of M3 0 v6).bind fun v7 => (if v7 = a2 then lp (fX1_addRound_L42 o1 a3 v2 v6) (fX1_addRound_X42 v2 rec6) 1000000 (v1, 0, M3) else nm (v2 + 1) fun v25 => rec6 (v1, v25, M3)))
theorem fX1_addRound_L6_u {o1 : Nat} {a2 : Int32} {a3 : Int32} {rec6 : (Int32 × Int32 × KS) → Option (Int32 × KS)} {k6 : (Int32 × KS) → Option (Int32 × KS)} {v1 : Int32} {v2 : Int32} {M3 : KS} : fX1_addRound_L6 o1 a2 a3 rec6 k6 (v1, v2, M3) = (if (M3.1 (iR o1) 3) ≤ v2 then k6 (v1, M3) else (fX6_head M3 o1 v2).bind fun v6 => (fX3_of M3 0 v6).bind fun v7 => (if v7 = a2 then lp (fX1_addRound_L42 o1 a3 v2 v6) (fX1_addRound_X42 v2 rec6) 1000000 (v1, 0, M3) else nm (v2 + 1) fun v25 => rec6 (v1, v25, M3))) := rfl
def fX1_addRound (M : KS) (o1 : Nat) (a2 : Int32) (a3 : Int32) : Option (Int32 × KS) := lp (fX1_addRound_L6 o1 a2 a3) (fX1_addRound_X6) 1000000 (0, 0, M)
set_option maxHeartbeats 4000000 in
set_option maxRecDepth 100000 in
theorem kX1_addRound (l : Launch) (E : KE) (ad : Nat → Nat) (M : KS) (o1 : Nat) (ho1 : o1 < 11) (a2 : Int32) (a3 : Int32) : CT l yX1_addRound cX1_addRound 10 (some .boolean) { frames := 3, cells := 0, slots := 0, locals := 82 } SK E ad [.ref (ad 106), .ref (ad (iR o1)), .int a2, .int a3] M (QI SK E ad) (fX1_addRound M o1 a2 a3) := by
  refine CT.ofW (by decide) (Nat.le_of_ble_eq_true rfl) (fun sz p e s m args below meth c C hr hH ls hl => ?_)
  have hx := C.1.1
  have hb := C.1.2.1
  have hl : lv_has ls 10 [(0, .ref (ad 106)), (1, .ref (ad (iR o1))), (2, .int a2), (3, .int a3)] := hl
  unfold fX1_addRound
  refine lv_iconst (v := 0) hx hb dX1_addRound_0 (by decide) ?_
  refine lv_istore (lv' := [(4, .int 0), (0, .ref (ad 106)), (1, .ref (ad (iR o1))), (2, .int a2), (3, .int a3)]) hx hb dX1_addRound_1 hl (by decide) rfl (fun ls hl => ?_)
  refine lv_iconst (v := 0) hx hb dX1_addRound_3 (by decide) ?_
  refine lv_istore (lv' := [(5, .int 0), (4, .int 0), (0, .ref (ad 106)), (1, .ref (ad (iR o1))), (2, .int a2), (3, .int a3)]) hx hb dX1_addRound_4 hl (by decide) rfl (fun ls hl => ?_)
  refine W_lp (fun (x : Int32 × Int32 × KS) H locs => KH SK E ad sz x.2.2 s.heap H locs) (fun x ls => lv_has ls 10 [(0, .ref (ad 106)), (1, .ref (ad (iR o1))), (2, .int a2), (3, .int a3), (4, .int x.1), (5, .int x.2.1)]) (fun _ ls => F0 m 6 ls []) (fun (x : Int32 × KS) H locs => KH SK E ad sz x.2 s.heap H locs) (fun x ls => lv_has ls 10 [(4, .int x.1)]) (fun _ ls => F0 m 153 ls []) ?_ ?_ hH (lv_sub hl [2, 3, 4, 5, 1, 0] rfl)
  · intro ⟨v4, M5⟩ H locs ls hH hl
    have hH : KH SK E ad sz M5 s.heap H locs := hH
    have hl : lv_has ls 10 [(4, .int v4)] := hl
    refine W_q fX1_addRound_X6_u ?_
    refine lv_iload hx hb dX1_addRound_153 (lv_at hl 0 rfl) ?_
    exact ke_zg C hH hr (Nat.le_refl _) (Nat.le_refl _) rfl dX1_addRound_155
  · intro rec6 k6 hrec6 hk6 ⟨v1, v2, M3⟩ H locs ls hH hl
    have hH : KH SK E ad sz M3 s.heap H locs := hH
    have hl : lv_has ls 10 [(0, .ref (ad 106)), (1, .ref (ad (iR o1))), (2, .int a2), (3, .int a3), (4, .int v1), (5, .int v2)] := hl
    refine W_q fX1_addRound_L6_u ?_
    refine lv_iload hx hb dX1_addRound_6 (lv_at hl 5 rfl) ?_
    refine lv_aload_n hx hb dX1_addRound_8 rfl (lv_at hl 1 rfl) ?_
    refine k_getN C hH fn_X1_65 (oR (f := o1) ho1) (k_int (M := M3) (ad := ad) (nR3 (f := o1) ho1)) dX1_addRound_9 ?_
    refine kb_icmp_ge (tgt := 153) hx hb dX1_addRound_12 (by decide) (fun _ => ?_) (fun _ => ?_)
    · exact hk6 (v1, M3) _ _ _ hH (lv_sub hl [4] rfl)
    · refine lv_aload_n hx hb dX1_addRound_15 rfl (lv_at hl 1 rfl) ?_
      refine lv_iload hx hb dX1_addRound_16 (lv_at hl 5 rfl) ?_
      refine kg_io C hH (kc_V C hH w_2_82 lc_yX6_head li_yX6_head (oR (f := o1) ho1) (kX6_head l E ad M3 o1 ho1 v2) (As := [.int v2]) rfl dX1_addRound_18 rfl hl.1 (Nat.le_of_ble_eq_true rfl) ⟨Nat.le_of_ble_eq_true rfl, Nat.le_of_ble_eq_true rfl⟩ ⟨Nat.le_of_ble_eq_true rfl, Nat.le_of_ble_eq_true rfl⟩) ⟨rfl, rfl⟩ (fun v6 H locs hH => ?_)
      refine lv_istore (lv' := [(6, .int v6), (0, .ref (ad 106)), (1, .ref (ad (iR o1))), (2, .int a2), (3, .int a3), (4, .int v1), (5, .int v2)]) hx hb dX1_addRound_21 hl (by decide) rfl (fun ls hl => ?_)
      refine lv_aload_n hx hb dX1_addRound_23 rfl (lv_at hl 1 rfl) ?_
      refine k_get C hH fd_X1_27 oD (k_ref (M := M3) (ad := ad) rD3) dX1_addRound_24 ?_
      refine lv_iload hx hb dX1_addRound_27 (lv_at hl 0 rfl) ?_
      refine kg_io C hH (kc_V C hH w_2_83 lc_yX3_of li_yX3_of (oY (f := 0) (by decide)) (kX3_of l E ad M3 0 (by decide) v6) (As := [.int v6]) rfl dX1_addRound_29 rfl hl.1 (Nat.le_of_ble_eq_true rfl) ⟨Nat.le_of_ble_eq_true rfl, Nat.le_of_ble_eq_true rfl⟩ ⟨Nat.le_of_ble_eq_true rfl, Nat.le_of_ble_eq_true rfl⟩) ⟨rfl, rfl⟩ (fun v7 H locs hH => ?_)
      refine lv_iload_n hx hb dX1_addRound_32 rfl (lv_at hl 3 rfl) ?_
      refine kb_icmp_eq (tgt := 39) hx hb dX1_addRound_33 (by decide) (fun _ => ?_) (fun _ => ?_)
      · refine lv_iconst (v := 0) hx hb dX1_addRound_39 (by decide) ?_
        refine lv_istore (lv' := [(7, .int 0), (6, .int v6), (0, .ref (ad 106)), (1, .ref (ad (iR o1))), (2, .int a2), (3, .int a3), (4, .int v1), (5, .int v2)]) hx hb dX1_addRound_40 hl (by decide) rfl (fun ls hl => ?_)
        refine W_lp (fun (x : Int32 × Int32 × KS) H locs => KH SK E ad sz x.2.2 s.heap H locs) (fun x ls => lv_has ls 10 [(6, .int v6), (0, .ref (ad 106)), (1, .ref (ad (iR o1))), (2, .int a2), (3, .int a3), (5, .int v2), (4, .int x.1), (7, .int x.2.1)]) (fun _ ls => F0 m 42 ls []) (fun (x : Int32 × KS) H locs => KH SK E ad sz x.2 s.heap H locs) (fun x ls => lv_has ls 10 [(0, .ref (ad 106)), (1, .ref (ad (iR o1))), (2, .int a2), (3, .int a3), (5, .int v2), (4, .int x.1)]) (fun _ ls => F0 m 147 ls []) ?_ ?_ hH (lv_sub hl [1, 2, 3, 4, 5, 7, 6, 0] rfl)
        · intro ⟨v11, M12⟩ H locs ls hH hl
          have hH : KH SK E ad sz M12 s.heap H locs := hH
          have hl : lv_has ls 10 [(0, .ref (ad 106)), (1, .ref (ad (iR o1))), (2, .int a2), (3, .int a3), (5, .int v2), (4, .int v11)] := hl
          refine W_q fX1_addRound_X42_u ?_
          refine W_nm (fun v13 ev13 => ?_)
          refine lv_iinc (v := v13) (lv' := [(5, .int v13), (0, .ref (ad 106)), (1, .ref (ad (iR o1))), (2, .int a2), (3, .int a3), (4, .int v11)]) hx hb dX1_addRound_147 hl (k := 4) rfl (by rw [ev13]; rfl) (by decide) rfl (fun ls hl => ?_)
          refine lv_goto (tgt := 6) hx hb dX1_addRound_150 (by decide) ?_
          exact hrec6 (v11, v13, M12) _ _ _ hH (lv_sub hl [1, 2, 3, 4, 5, 0] rfl)
        · intro rec42 k42 hrec42 hk42 ⟨v8, v9, M10⟩ H locs ls hH hl
          have hH : KH SK E ad sz M10 s.heap H locs := hH
          have hl : lv_has ls 10 [(6, .int v6), (0, .ref (ad 106)), (1, .ref (ad (iR o1))), (2, .int a2), (3, .int a3), (5, .int v2), (4, .int v8), (7, .int v9)] := hl
          refine W_q fX1_addRound_L42_u ?_
          refine lv_iload hx hb dX1_addRound_42 (lv_at hl 7 rfl) ?_
          refine lv_bipush (v := 36) hx hb dX1_addRound_44 (by decide) ?_
          refine kb_icmp_ge (tgt := 147) hx hb dX1_addRound_46 (by decide) (fun _ => ?_) (fun _ => ?_)
          · exact hk42 (v8, M10) _ _ _ hH (lv_sub hl [1, 2, 3, 4, 5, 6] rfl)
          · refine lv_bipush (v := 36) hx hb dX1_addRound_49 (by decide) ?_
            refine lv_iload hx hb dX1_addRound_51 (lv_at hl 0 rfl) ?_
            refine lv_imul hx hb dX1_addRound_53 ?_
            refine lv_iload hx hb dX1_addRound_54 (lv_at hl 7 rfl) ?_
            refine lv_iadd hx hb dX1_addRound_56 ?_
            refine W_nmi (fun v14 => ?_)
            refine lv_istore (lv' := [(8, .int v14), (6, .int v6), (0, .ref (ad 106)), (1, .ref (ad (iR o1))), (2, .int a2), (3, .int a3), (5, .int v2), (4, .int v8), (7, .int v9)]) hx hb dX1_addRound_57 hl (by decide) rfl (fun ls hl => ?_)
            refine lv_aload_n hx hb dX1_addRound_59 rfl (lv_at hl 2 rfl) ?_
            refine k_get C hH fd_X1_12 oD (k_ref (M := M10) (ad := ad) rD0) dX1_addRound_60 ?_
            refine lv_iload hx hb dX1_addRound_63 (lv_at hl 0 rfl) ?_
            refine kg_io C hH (kc_V C hH w_2_84 lc_yX2_has li_yX2_has (oF (f := 11) (by decide)) (kX2_has l E ad M10 11 (by decide) v14) (As := [.int v14]) rfl dX1_addRound_65 rfl hl.1 (Nat.le_of_ble_eq_true rfl) ⟨Nat.le_of_ble_eq_true rfl, Nat.le_of_ble_eq_true rfl⟩ ⟨Nat.le_of_ble_eq_true rfl, Nat.le_of_ble_eq_true rfl⟩) ⟨rfl, rfl⟩ (fun v15 H locs hH => ?_)
            refine kb_if_ne (tgt := 141) hx hb dX1_addRound_68 (by decide) (fun _ => ?_) (fun _ => ?_)
            · refine W_nm (fun v16 ev16 => ?_)
              refine lv_iinc (v := v16) (lv' := [(7, .int v16), (8, .int v14), (6, .int v6), (0, .ref (ad 106)), (1, .ref (ad (iR o1))), (2, .int a2), (3, .int a3), (5, .int v2), (4, .int v8)]) hx hb dX1_addRound_141 hl (k := 8) rfl (by rw [ev16]; rfl) (by decide) rfl (fun ls hl => ?_)
              refine lv_goto (tgt := 42) hx hb dX1_addRound_144 (by decide) ?_
              exact hrec42 (v8, v16, M10) _ _ _ hH (lv_sub hl [2, 3, 4, 5, 6, 7, 8, 0] rfl)
            · refine lv_aload_n hx hb dX1_addRound_71 rfl (lv_at hl 2 rfl) ?_
              refine k_get C hH fd_X1_21 oD (k_ref (M := M10) (ad := ad) rD2) dX1_addRound_72 ?_
              refine lv_iload hx hb dX1_addRound_75 (lv_at hl 0 rfl) ?_
              refine kg_io C hH (kc_V C hH w_2_84 lc_yX2_has li_yX2_has (oF (f := 13) (by decide)) (kX2_has l E ad M10 13 (by decide) v14) (As := [.int v14]) rfl dX1_addRound_77 rfl hl.1 (Nat.le_of_ble_eq_true rfl) ⟨Nat.le_of_ble_eq_true rfl, Nat.le_of_ble_eq_true rfl⟩ ⟨Nat.le_of_ble_eq_true rfl, Nat.le_of_ble_eq_true rfl⟩) ⟨rfl, rfl⟩ (fun v17 H locs hH => ?_)
              refine kb_if_eq (tgt := 86) hx hb dX1_addRound_80 (by decide) (fun _ => ?_) (fun _ => ?_)
              · refine lv_aload_n hx hb dX1_addRound_86 rfl (lv_at hl 3 rfl) ?_
                refine lv_iload hx hb dX1_addRound_87 (lv_at hl 6 rfl) ?_
                refine lv_iload hx hb dX1_addRound_89 (lv_at hl 8 rfl) ?_
                refine lv_bipush (v := 6) hx hb dX1_addRound_91 (by decide) ?_
                refine lv_idiv hx hb dX1_addRound_93 (by decide) ?_
                refine lv_iload hx hb dX1_addRound_94 (lv_at hl 8 rfl) ?_
                refine lv_bipush (v := 6) hx hb dX1_addRound_96 (by decide) ?_
                refine k_irem hx hb dX1_addRound_98 (by decide) ?_
                refine lv_aload_n hx hb dX1_addRound_99 rfl (lv_at hl 2 rfl) ?_
                refine k_get C hH fd_X1_12 oD (k_ref (M := M10) (ad := ad) rD0) dX1_addRound_100 ?_
                refine lv_aload_n hx hb dX1_addRound_103 rfl (lv_at hl 2 rfl) ?_
                refine k_get C hH fd_X1_18 oD (k_ref (M := M10) (ad := ad) rD1) dX1_addRound_104 ?_
                refine kg_io C hH (kc_V C hH w_2_88 lc_yX6_makersOf li_yX6_makersOf (oR (f := o1) ho1) (kX6_makersOf l E ad M10 o1 ho1 v2 (v9 / 6) (jrem v9 6) 11 (by decide) 12 (by decide)) (As := [.int v2, .int (v9 / 6), .int (jrem v9 6), .ref (ad (iF 11)), .ref (ad (iF 12))]) rfl dX1_addRound_107 rfl hl.1 (Nat.le_of_ble_eq_true rfl) ⟨Nat.le_of_ble_eq_true rfl, Nat.le_of_ble_eq_true rfl⟩ ⟨Nat.le_of_ble_eq_true rfl, Nat.le_of_ble_eq_true rfl⟩) ⟨rfl, rfl⟩ (fun v18 H locs hH => ?_)
                refine lv_istore (lv' := [(9, .int v18), (8, .int v14), (6, .int v6), (0, .ref (ad 106)), (1, .ref (ad (iR o1))), (2, .int a2), (3, .int a3), (5, .int v2), (4, .int v8), (7, .int v9)]) hx hb dX1_addRound_110 hl (by decide) rfl (fun ls hl => ?_)
                refine lv_iload hx hb dX1_addRound_112 (lv_at hl 0 rfl) ?_
                refine kb_if_eq (tgt := 141) hx hb dX1_addRound_114 (by decide) (fun _ => ?_) (fun _ => ?_)
                · refine W_nm (fun v19 ev19 => ?_)
                  refine lv_iinc (v := v19) (lv' := [(7, .int v19), (9, .int v18), (8, .int v14), (6, .int v6), (0, .ref (ad 106)), (1, .ref (ad (iR o1))), (2, .int a2), (3, .int a3), (5, .int v2), (4, .int v8)]) hx hb dX1_addRound_141 hl (k := 9) rfl (by rw [ev19]; rfl) (by decide) rfl (fun ls hl => ?_)
                  refine lv_goto (tgt := 42) hx hb dX1_addRound_144 (by decide) ?_
                  exact hrec42 (v8, v19, M10) _ _ _ hH (lv_sub hl [3, 4, 5, 6, 7, 8, 9, 0] rfl)
                · refine lv_aload_n hx hb dX1_addRound_117 rfl (lv_at hl 3 rfl) ?_
                  refine lv_iload hx hb dX1_addRound_118 (lv_at hl 1 rfl) ?_
                  refine lv_iload_n hx hb dX1_addRound_120 rfl (lv_at hl 6 rfl) ?_
                  refine lv_iload hx hb dX1_addRound_121 (lv_at hl 7 rfl) ?_
                  refine lv_iload hx hb dX1_addRound_123 (lv_at hl 0 rfl) ?_
                  refine kg_io C hH (kc_SN C hH w_2_115 w_st_yX9_lowestOf lc_yX9_lowestOf (kX9_lowestOf l E ad M10 v18) (As := [.int v18]) rfl dX1_addRound_125 rfl hl.1 (Nat.le_of_ble_eq_true rfl) ⟨Nat.le_of_ble_eq_true rfl, Nat.le_of_ble_eq_true rfl⟩ ⟨Nat.le_of_ble_eq_true rfl, Nat.le_of_ble_eq_true rfl⟩) ⟨rfl, rfl⟩ (fun v20 H locs hH => ?_)
                  refine kg_v C hH (kc_V C hH w_2_118 lc_yX1_enter li_yX1_enter oD (kX1_enter l E ad M10 v14 a3 v2 v20) (As := [.int v14, .int a3, .int v2, .int v20]) rfl dX1_addRound_128 rfl hl.1 (Nat.le_of_ble_eq_true rfl) ⟨Nat.le_of_ble_eq_true rfl, Nat.le_of_ble_eq_true rfl⟩ ⟨Nat.le_of_ble_eq_true rfl, Nat.le_of_ble_eq_true rfl⟩) ⟨rfl, rfl⟩ (fun M21 H locs hH => ?_)
                  refine lv_aload_n hx hb dX1_addRound_131 rfl (lv_at hl 3 rfl) ?_
                  refine lv_aload_n hx hb dX1_addRound_132 rfl (lv_at hl 4 rfl) ?_
                  refine lv_iload hx hb dX1_addRound_133 (lv_at hl 1 rfl) ?_
                  refine kg_v C hH (kc_V C hH w_2_126 lc_yX1_rest li_yX1_rest oD (kX1_rest l E ad M21 o1 ho1 v14) (As := [.ref (ad (iR o1)), .int v14]) rfl dX1_addRound_135 rfl hl.1 (Nat.le_of_ble_eq_true rfl) ⟨Nat.le_of_ble_eq_true rfl, Nat.le_of_ble_eq_true rfl⟩ ⟨Nat.le_of_ble_eq_true rfl, Nat.le_of_ble_eq_true rfl⟩) ⟨rfl, rfl⟩ (fun M22 H locs hH => ?_)
                  refine lv_iconst (v := 1) hx hb dX1_addRound_138 (by decide) ?_
                  refine lv_istore (lv' := [(4, .int 1), (9, .int v18), (8, .int v14), (6, .int v6), (0, .ref (ad 106)), (1, .ref (ad (iR o1))), (2, .int a2), (3, .int a3), (5, .int v2), (7, .int v9)]) hx hb dX1_addRound_139 hl (by decide) rfl (fun ls hl => ?_)
                  refine W_nm (fun v23 ev23 => ?_)
                  refine lv_iinc (v := v23) (lv' := [(7, .int v23), (4, .int 1), (9, .int v18), (8, .int v14), (6, .int v6), (0, .ref (ad 106)), (1, .ref (ad (iR o1))), (2, .int a2), (3, .int a3), (5, .int v2)]) hx hb dX1_addRound_141 hl (k := 9) rfl (by rw [ev23]; rfl) (by decide) rfl (fun ls hl => ?_)
                  refine lv_goto (tgt := 42) hx hb dX1_addRound_144 (by decide) ?_
                  exact hrec42 (1, v23, M22) _ _ _ hH (lv_sub hl [4, 5, 6, 7, 8, 9, 1, 0] rfl)
              · refine lv_goto (tgt := 141) hx hb dX1_addRound_83 (by decide) ?_
                refine W_nm (fun v24 ev24 => ?_)
                refine lv_iinc (v := v24) (lv' := [(7, .int v24), (8, .int v14), (6, .int v6), (0, .ref (ad 106)), (1, .ref (ad (iR o1))), (2, .int a2), (3, .int a3), (5, .int v2), (4, .int v8)]) hx hb dX1_addRound_141 hl (k := 8) rfl (by rw [ev24]; rfl) (by decide) rfl (fun ls hl => ?_)
                refine lv_goto (tgt := 42) hx hb dX1_addRound_144 (by decide) ?_
                exact hrec42 (v8, v24, M10) _ _ _ hH (lv_sub hl [2, 3, 4, 5, 6, 7, 8, 0] rfl)
      · refine lv_goto (tgt := 147) hx hb dX1_addRound_36 (by decide) ?_
        refine W_nm (fun v25 ev25 => ?_)
        refine lv_iinc (v := v25) (lv' := [(5, .int v25), (6, .int v6), (0, .ref (ad 106)), (1, .ref (ad (iR o1))), (2, .int a2), (3, .int a3), (4, .int v1)]) hx hb dX1_addRound_147 hl (k := 6) rfl (by rw [ev25]; rfl) (by decide) rfl (fun ls hl => ?_)
        refine lv_goto (tgt := 6) hx hb dX1_addRound_150 (by decide) ?_
        exact hrec6 (v1, v25, M3) _ _ _ hH (lv_sub hl [2, 3, 4, 5, 6, 0] rfl)
def fX2_join_X2 (M3 : KS) : Option (KS) := some M3
theorem fX2_join_X2_u {M3 : KS} : fX2_join_X2 M3 = some M3 := rfl
def fX2_join_L2 (o0 : Nat) (o1 : Nat) (rec2 : (Int32 × KS) → Option (KS)) (k2 : (KS) → Option (KS)) (x : Int32 × KS) : Option (KS) := match x with | (v1, M2) => (if 36 ≤ v1 then k2 M2 else if inb v1 36 then if inb v1 36 then if inb v1 36 then nm (kset M2 (iFt o0) v1.toNatClampNeg ((M2.1 (iFt o0) v1.toNatClampNeg) ||| (M2.1 (iFt o1) v1.toNatClampNeg))) fun M4 => if inb v1 36 then if inb v1 36 then if inb v1 36 then nm (kset M4 (iFf o0) v1.toNatClampNeg ((M4.1 (iFf o0) v1.toNatClampNeg) ||| (M4.1 (iFf o1) v1.toNatClampNeg))) fun M5 => nm (v1 + 1) fun v6 => rec2 (v6, M5) else none else none else none else none else none else none)
theorem fX2_join_L2_u {o0 : Nat} {o1 : Nat} {rec2 : (Int32 × KS) → Option (KS)} {k2 : (KS) → Option (KS)} {v1 : Int32} {M2 : KS} : fX2_join_L2 o0 o1 rec2 k2 (v1, M2) = (if 36 ≤ v1 then k2 M2 else if inb v1 36 then if inb v1 36 then if inb v1 36 then nm (kset M2 (iFt o0) v1.toNatClampNeg ((M2.1 (iFt o0) v1.toNatClampNeg) ||| (M2.1 (iFt o1) v1.toNatClampNeg))) fun M4 => if inb v1 36 then if inb v1 36 then if inb v1 36 then nm (kset M4 (iFf o0) v1.toNatClampNeg ((M4.1 (iFf o0) v1.toNatClampNeg) ||| (M4.1 (iFf o1) v1.toNatClampNeg))) fun M5 => nm (v1 + 1) fun v6 => rec2 (v6, M5) else none else none else none else none else none else none) := rfl
def fX2_join (M : KS) (o0 : Nat) (o1 : Nat) : Option (KS) := lp (fX2_join_L2 o0 o1) (fX2_join_X2) 1000000 (0, M)
set_option maxHeartbeats 4000000 in
set_option maxRecDepth 100000 in
theorem kX2_join (l : Launch) (E : KE) (ad : Nat → Nat) (M : KS) (o0 : Nat) (ho0 : o0 < 15) (o1 : Nat) (ho1 : o1 < 15) : CT l yX2_join cX2_join 3 none { frames := 0, cells := 0, slots := 0, locals := 0 } SK E ad [.ref (ad (iF o0)), .ref (ad (iF o1))] M (QV SK E ad) (fX2_join M o0 o1) := by
  refine CT.ofW (by decide) (Nat.le_of_ble_eq_true rfl) (fun sz p e s m args below meth c C hr hH ls hl => ?_)
  have hx := C.1.1
  have hb := C.1.2.1
  have hl : lv_has ls 3 [(0, .ref (ad (iF o0))), (1, .ref (ad (iF o1)))] := hl
  unfold fX2_join
  refine lv_iconst (v := 0) hx hb dX2_join_0 (by decide) ?_
  refine lv_istore_n (lv' := [(2, .int 0), (0, .ref (ad (iF o0))), (1, .ref (ad (iF o1)))]) hx hb dX2_join_1 rfl hl (by decide) rfl (fun ls hl => ?_)
  refine W_lp (fun (x : Int32 × KS) H locs => KH SK E ad sz x.2 s.heap H locs) (fun x ls => lv_has ls 3 [(0, .ref (ad (iF o0))), (1, .ref (ad (iF o1))), (2, .int x.1)]) (fun _ ls => F0 m 2 ls []) (fun (x : KS) H locs => KH SK E ad sz x s.heap H locs) (fun x ls => lv_has ls 3 []) (fun _ ls => F0 m 47 ls []) ?_ ?_ hH (lv_sub hl [1, 2, 0] rfl)
  · intro M3 H locs ls hH hl
    have hH : KH SK E ad sz M3 s.heap H locs := hH
    have hl : lv_has ls 3 [] := hl
    refine W_q fX2_join_X2_u ?_
    exact ke_v C hH hr (Nat.le_refl _) (Nat.le_refl _) rfl dX2_join_47
  · intro rec2 k2 hrec2 hk2 ⟨v1, M2⟩ H locs ls hH hl
    have hH : KH SK E ad sz M2 s.heap H locs := hH
    have hl : lv_has ls 3 [(0, .ref (ad (iF o0))), (1, .ref (ad (iF o1))), (2, .int v1)] := hl
    refine W_q fX2_join_L2_u ?_
    refine lv_iload_n hx hb dX2_join_2 rfl (lv_at hl 2 rfl) ?_
    refine lv_aload_n hx hb dX2_join_3 rfl (lv_at hl 0 rfl) ?_
    refine k_get C hH fd_X2_9 (oF (f := o0) ho0) (k_ref (M := M2) (ad := ad) (rF0 (f := o0) ho0)) dX2_join_4 ?_
    refine k_ilen C hH (aF0 (f := o0) ho0) (v := 36) rfl dX2_join_7 ?_
    refine kb_icmp_ge (tgt := 47) hx hb dX2_join_8 (by decide) (fun _ => ?_) (fun _ => ?_)
    · exact hk2 M2 _ _ _ hH (lv_sub hl [] rfl)
    · refine lv_aload_n hx hb dX2_join_11 rfl (lv_at hl 0 rfl) ?_
      refine k_get C hH fd_X2_9 (oF (f := o0) ho0) (k_ref (M := M2) (ad := ad) (rF0 (f := o0) ho0)) dX2_join_12 ?_
      refine lv_iload_n hx hb dX2_join_15 rfl (lv_at hl 2 rfl) ?_
      refine lv_dup2_11 hx hb dX2_join_16 rfl rfl ?_
      refine k_iald C hH (aF0 (f := o0) ho0) dX2_join_17 ?_
      refine lv_aload_n hx hb dX2_join_18 rfl (lv_at hl 1 rfl) ?_
      refine k_get C hH fd_X2_9 (oF (f := o1) ho1) (k_ref (M := M2) (ad := ad) (rF0 (f := o1) ho1)) dX2_join_19 ?_
      refine lv_iload_n hx hb dX2_join_22 rfl (lv_at hl 2 rfl) ?_
      refine k_iald C hH (aF0 (f := o1) ho1) dX2_join_23 ?_
      refine lv_ior hx hb dX2_join_24 ?_
      refine k_iast C hH (aF0 (f := o0) ho0) dX2_join_25 (fun M4 H locs hH => ?_)
      refine lv_aload_n hx hb dX2_join_26 rfl (lv_at hl 0 rfl) ?_
      refine k_get C hH fd_X2_15 (oF (f := o0) ho0) (k_ref (M := M4) (ad := ad) (rF1 (f := o0) ho0)) dX2_join_27 ?_
      refine lv_iload_n hx hb dX2_join_30 rfl (lv_at hl 2 rfl) ?_
      refine lv_dup2_11 hx hb dX2_join_31 rfl rfl ?_
      refine k_iald C hH (aF1 (f := o0) ho0) dX2_join_32 ?_
      refine lv_aload_n hx hb dX2_join_33 rfl (lv_at hl 1 rfl) ?_
      refine k_get C hH fd_X2_15 (oF (f := o1) ho1) (k_ref (M := M4) (ad := ad) (rF1 (f := o1) ho1)) dX2_join_34 ?_
      refine lv_iload_n hx hb dX2_join_37 rfl (lv_at hl 2 rfl) ?_
      refine k_iald C hH (aF1 (f := o1) ho1) dX2_join_38 ?_
      refine lv_ior hx hb dX2_join_39 ?_
      refine k_iast C hH (aF1 (f := o0) ho0) dX2_join_40 (fun M5 H locs hH => ?_)
      refine W_nm (fun v6 ev6 => ?_)
      refine lv_iinc (v := v6) (lv' := [(2, .int v6), (0, .ref (ad (iF o0))), (1, .ref (ad (iF o1)))]) hx hb dX2_join_41 hl (k := 2) rfl (by rw [ev6]; rfl) (by decide) rfl (fun ls hl => ?_)
      refine lv_goto (tgt := 2) hx hb dX2_join_44 (by decide) ?_
      exact hrec2 (v6, M5) _ _ _ hH (lv_sub hl [1, 2, 0] rfl)
def fX1_settled_X46 (M7 : KS) : Option (KS) := nm (kset M7 106 9 1) fun M8 => some M8
theorem fX1_settled_X46_u {M7 : KS} : fX1_settled_X46 M7 = nm (kset M7 106 9 1) fun M8 => some M8 := rfl
def fX1_settled_X65 (v5 : Int32) (rec46 : (Int32 × KS) → Option (KS)) (M12 : KS) : Option (KS) := nm (v5 + 1) fun v13 => rec46 (v13, M12)
theorem fX1_settled_X65_u {v5 : Int32} {rec46 : (Int32 × KS) → Option (KS)} {M12 : KS} : fX1_settled_X65 v5 rec46 M12 = nm (v5 + 1) fun v13 => rec46 (v13, M12) := rfl
def fX1_settled_L65 (o1 : Nat) (v5 : Int32) (rec65 : (Int32 × KS) → Option (KS)) (k65 : (KS) → Option (KS)) (x : Int32 × KS) : Option (KS) := match x with | (v10, M11) => (if 216 < v10 then k65 M11 else (fX2_clear M11 13).bind fun M14 => bd2 (fX1_addRound M14 o1 v5 v10) fun v16 M15 => (if v16 = 0 then k65 M15 else (fX2_join M15 11 13).bind fun M17 => (fX2_copy M17 12 13).bind fun M18 => nm (v10 + 1) fun v19 => rec65 (v19, M18)))
theorem fX1_settled_L65_u {o1 : Nat} {v5 : Int32} {rec65 : (Int32 × KS) → Option (KS)} {k65 : (KS) → Option (KS)} {v10 : Int32} {M11 : KS} : fX1_settled_L65 o1 v5 rec65 k65 (v10, M11) = (if 216 < v10 then k65 M11 else (fX2_clear M11 13).bind fun M14 => bd2 (fX1_addRound M14 o1 v5 v10) fun v16 M15 => (if v16 = 0 then k65 M15 else (fX2_join M15 11 13).bind fun M17 => (fX2_copy M17 12 13).bind fun M18 => nm (v10 + 1) fun v19 => rec65 (v19, M18))) := rfl
def fX1_settled_L46 (o1 : Nat) (v4 : Int32) (rec46 : (Int32 × KS) → Option (KS)) (k46 : (KS) → Option (KS)) (x : Int32 × KS) : Option (KS) := match x with | (v5, M6) => (if v4 ≤ v5 then k46 M6 else (fX2_copy M6 12 11).bind fun M9 => lp (fX1_settled_L65 o1 v5) (fX1_settled_X65 v5 rec46) 1000000 (1, M9))
theorem fX1_settled_L46_u {o1 : Nat} {v4 : Int32} {rec46 : (Int32 × KS) → Option (KS)} {k46 : (KS) → Option (KS)} {v5 : Int32} {M6 : KS} : fX1_settled_L46 o1 v4 rec46 k46 (v5, M6) = (if v4 ≤ v5 then k46 M6 else (fX2_copy M6 12 11).bind fun M9 => lp (fX1_settled_L65 o1 v5) (fX1_settled_X65 v5 rec46) 1000000 (1, M9)) := rfl
def fX1_settled (M : KS) (o1 : Nat) : Option (KS) := (if (M.1 106 9) = 0 then (fX1_start M o1).bind fun M1 => bd2 (fX3_arrange M1 0 o1 (M1.1 (iR o1) 3)) fun v3 M2 => (fX3_count M2 0).bind fun v4 => lp (fX1_settled_L46 o1 v4) (fX1_settled_X46) 1000000 (0, M2) else some M)
set_option maxHeartbeats 4000000 in
set_option maxRecDepth 100000 in
theorem kX1_settled (l : Launch) (E : KE) (ad : Nat → Nat) (M : KS) (o1 : Nat) (ho1 : o1 < 11) : CT l yX1_settled cX1_settled 5 (some (.object "KinFacts$Derivation")) { frames := 4, cells := 0, slots := 0, locals := 111 } SK E ad [.ref (ad 106), .ref (ad (iS o1))] M (QR SK E ad 106) (fX1_settled M o1) := by
  refine CT.ofW (by decide) (Nat.le_of_ble_eq_true rfl) (fun sz p e s m args below meth c C hr hH ls hl => ?_)
  have hx := C.1.1
  have hb := C.1.2.1
  have hl : lv_has ls 5 [(0, .ref (ad 106)), (1, .ref (ad (iS o1)))] := hl
  unfold fX1_settled
  refine lv_aload_n hx hb dX1_settled_0 rfl (lv_at hl 0 rfl) ?_
  refine k_get C hH fd_X1_48 oD (k_int (M := M) (ad := ad) nD9) dX1_settled_1 ?_
  refine kb_if_eq (tgt := 9) hx hb dX1_settled_4 (by decide) (fun _ => ?_) (fun _ => ?_)
  · refine lv_aload_n hx hb dX1_settled_9 rfl (lv_at hl 0 rfl) ?_
    refine lv_aload_n hx hb dX1_settled_10 rfl (lv_at hl 1 rfl) ?_
    refine k_getN C hH fn_X1_52 (oS (f := o1) ho1) (k_ref (M := M) (ad := ad) (rS0 (f := o1) ho1)) dX1_settled_11 ?_
    refine kg_v C hH (kc_V C hH w_2_31 lc_yX1_start li_yX1_start oD (kX1_start l E ad M o1 (Nat.lt_of_lt_of_le ho1 (by decide))) (As := [.ref (ad (iF o1))]) rfl dX1_settled_14 rfl hl.1 (Nat.le_of_ble_eq_true rfl) ⟨Nat.le_of_ble_eq_true rfl, Nat.le_of_ble_eq_true rfl⟩ ⟨Nat.le_of_ble_eq_true rfl, Nat.le_of_ble_eq_true rfl⟩) ⟨rfl, rfl⟩ (fun M1 H locs hH => ?_)
    refine lv_aload_n hx hb dX1_settled_17 rfl (lv_at hl 0 rfl) ?_
    refine k_get C hH fd_X1_27 oD (k_ref (M := M1) (ad := ad) rD3) dX1_settled_18 ?_
    refine lv_aload_n hx hb dX1_settled_21 rfl (lv_at hl 1 rfl) ?_
    refine k_getN C hH fn_X1_61 (oS (f := o1) ho1) (k_ref (M := M1) (ad := ad) (rS1 (f := o1) ho1)) dX1_settled_22 ?_
    refine lv_aload_n hx hb dX1_settled_25 rfl (lv_at hl 1 rfl) ?_
    refine k_getN C hH fn_X1_61 (oS (f := o1) ho1) (k_ref (M := M1) (ad := ad) (rS1 (f := o1) ho1)) dX1_settled_26 ?_
    refine k_getN C hH fn_X1_65 (oR (f := o1) ho1) (k_int (M := M1) (ad := ad) (nR3 (f := o1) ho1)) dX1_settled_29 ?_
    refine kg_ib C hH (kc_V C hH w_2_39 lc_yX3_arrange li_yX3_arrange (oY (f := 0) (by decide)) (kX3_arrange l E ad M1 0 (by decide) o1 ho1 (M1.1 (iR o1) 3)) (As := [.ref (ad (iR o1)), .int (M1.1 (iR o1) 3)]) rfl dX1_settled_32 rfl hl.1 (Nat.le_of_ble_eq_true rfl) ⟨Nat.le_of_ble_eq_true rfl, Nat.le_of_ble_eq_true rfl⟩ ⟨Nat.le_of_ble_eq_true rfl, Nat.le_of_ble_eq_true rfl⟩) ⟨rfl, rfl⟩ (fun v3 M2 H locs hH => ?_)
    refine lv_pop hx hb dX1_settled_35 rfl ?_
    refine lv_aload_n hx hb dX1_settled_36 rfl (lv_at hl 0 rfl) ?_
    refine k_get C hH fd_X1_27 oD (k_ref (M := M2) (ad := ad) rD3) dX1_settled_37 ?_
    refine kg_io C hH (kc_V C hH w_2_73 lc_yX3_count li_yX3_count (oY (f := 0) (by decide)) (kX3_count l E ad M2 0 (by decide)) (As := []) rfl dX1_settled_40 rfl hl.1 (Nat.le_of_ble_eq_true rfl) ⟨Nat.le_of_ble_eq_true rfl, Nat.le_of_ble_eq_true rfl⟩ ⟨Nat.le_of_ble_eq_true rfl, Nat.le_of_ble_eq_true rfl⟩) ⟨rfl, rfl⟩ (fun v4 H locs hH => ?_)
    refine lv_istore_n (lv' := [(2, .int v4), (0, .ref (ad 106)), (1, .ref (ad (iS o1)))]) hx hb dX1_settled_43 rfl hl (by decide) rfl (fun ls hl => ?_)
    refine lv_iconst (v := 0) hx hb dX1_settled_44 (by decide) ?_
    refine lv_istore_n (lv' := [(3, .int 0), (2, .int v4), (0, .ref (ad 106)), (1, .ref (ad (iS o1)))]) hx hb dX1_settled_45 rfl hl (by decide) rfl (fun ls hl => ?_)
    refine W_lp (fun (x : Int32 × KS) H locs => KH SK E ad sz x.2 s.heap H locs) (fun x ls => lv_has ls 5 [(2, .int v4), (0, .ref (ad 106)), (1, .ref (ad (iS o1))), (3, .int x.1)]) (fun _ ls => F0 m 46 ls []) (fun (x : KS) H locs => KH SK E ad sz x s.heap H locs) (fun x ls => lv_has ls 5 [(0, .ref (ad 106))]) (fun _ ls => F0 m 131 ls []) ?_ ?_ hH (lv_sub hl [1, 2, 3, 0] rfl)
    · intro M7 H locs ls hH hl
      have hH : KH SK E ad sz M7 s.heap H locs := hH
      have hl : lv_has ls 5 [(0, .ref (ad 106))] := hl
      refine W_q fX1_settled_X46_u ?_
      refine lv_aload_n hx hb dX1_settled_131 rfl (lv_at hl 0 rfl) ?_
      refine lv_iconst (v := 1) hx hb dX1_settled_132 (by decide) ?_
      refine k_put1 C hH fd_X1_48 fw_X1_9 oD nD9 rfl rfl dX1_settled_133 (fun M8 H locs hH => ?_)
      refine lv_aload_n hx hb dX1_settled_136 rfl (lv_at hl 0 rfl) ?_
      exact ke_r C hH hr (Or.inl ⟨_, rfl⟩) (Nat.le_refl _) (Nat.le_refl _) rfl dX1_settled_137
    · intro rec46 k46 hrec46 hk46 ⟨v5, M6⟩ H locs ls hH hl
      have hH : KH SK E ad sz M6 s.heap H locs := hH
      have hl : lv_has ls 5 [(2, .int v4), (0, .ref (ad 106)), (1, .ref (ad (iS o1))), (3, .int v5)] := hl
      refine W_q fX1_settled_L46_u ?_
      refine lv_iload_n hx hb dX1_settled_46 rfl (lv_at hl 3 rfl) ?_
      refine lv_iload_n hx hb dX1_settled_47 rfl (lv_at hl 0 rfl) ?_
      refine kb_icmp_ge (tgt := 131) hx hb dX1_settled_48 (by decide) (fun _ => ?_) (fun _ => ?_)
      · exact hk46 M6 _ _ _ hH (lv_sub hl [1] rfl)
      · refine lv_aload_n hx hb dX1_settled_51 rfl (lv_at hl 1 rfl) ?_
        refine k_get C hH fd_X1_18 oD (k_ref (M := M6) (ad := ad) rD1) dX1_settled_52 ?_
        refine lv_aload_n hx hb dX1_settled_55 rfl (lv_at hl 1 rfl) ?_
        refine k_get C hH fd_X1_12 oD (k_ref (M := M6) (ad := ad) rD0) dX1_settled_56 ?_
        refine kg_v C hH (kc_V C hH w_2_35 lc_yX2_copy li_yX2_copy (oF (f := 12) (by decide)) (kX2_copy l E ad M6 12 (by decide) 11 (by decide)) (As := [.ref (ad (iF 11))]) rfl dX1_settled_59 rfl hl.1 (Nat.le_of_ble_eq_true rfl) ⟨Nat.le_of_ble_eq_true rfl, Nat.le_of_ble_eq_true rfl⟩ ⟨Nat.le_of_ble_eq_true rfl, Nat.le_of_ble_eq_true rfl⟩) ⟨rfl, rfl⟩ (fun M9 H locs hH => ?_)
        refine lv_iconst (v := 1) hx hb dX1_settled_62 (by decide) ?_
        refine lv_istore (lv' := [(4, .int 1), (2, .int v4), (0, .ref (ad 106)), (1, .ref (ad (iS o1))), (3, .int v5)]) hx hb dX1_settled_63 hl (by decide) rfl (fun ls hl => ?_)
        refine W_lp (fun (x : Int32 × KS) H locs => KH SK E ad sz x.2 s.heap H locs) (fun x ls => lv_has ls 5 [(2, .int v4), (0, .ref (ad 106)), (1, .ref (ad (iS o1))), (3, .int v5), (4, .int x.1)]) (fun _ ls => F0 m 65 ls []) (fun (x : KS) H locs => KH SK E ad sz x s.heap H locs) (fun x ls => lv_has ls 5 [(2, .int v4), (0, .ref (ad 106)), (1, .ref (ad (iS o1))), (3, .int v5)]) (fun _ ls => F0 m 125 ls []) ?_ ?_ hH (lv_sub hl [1, 2, 3, 4, 0] rfl)
        · intro M12 H locs ls hH hl
          have hH : KH SK E ad sz M12 s.heap H locs := hH
          have hl : lv_has ls 5 [(2, .int v4), (0, .ref (ad 106)), (1, .ref (ad (iS o1))), (3, .int v5)] := hl
          refine W_q fX1_settled_X65_u ?_
          refine W_nm (fun v13 ev13 => ?_)
          refine lv_iinc (v := v13) (lv' := [(3, .int v13), (2, .int v4), (0, .ref (ad 106)), (1, .ref (ad (iS o1)))]) hx hb dX1_settled_125 hl (k := 3) rfl (by rw [ev13]; rfl) (by decide) rfl (fun ls hl => ?_)
          refine lv_goto (tgt := 46) hx hb dX1_settled_128 (by decide) ?_
          exact hrec46 (v13, M12) _ _ _ hH (lv_sub hl [1, 2, 3, 0] rfl)
        · intro rec65 k65 hrec65 hk65 ⟨v10, M11⟩ H locs ls hH hl
          have hH : KH SK E ad sz M11 s.heap H locs := hH
          have hl : lv_has ls 5 [(2, .int v4), (0, .ref (ad 106)), (1, .ref (ad (iS o1))), (3, .int v5), (4, .int v10)] := hl
          refine W_q fX1_settled_L65_u ?_
          refine lv_iload hx hb dX1_settled_65 (lv_at hl 4 rfl) ?_
          refine lv_sipush (v := 216) hx hb dX1_settled_67 (by decide) ?_
          refine kb_icmp_gt (tgt := 125) hx hb dX1_settled_70 (by decide) (fun _ => ?_) (fun _ => ?_)
          · exact hk65 M11 _ _ _ hH (lv_sub hl [0, 1, 2, 3] rfl)
          · refine lv_aload_n hx hb dX1_settled_73 rfl (lv_at hl 1 rfl) ?_
            refine k_get C hH fd_X1_21 oD (k_ref (M := M11) (ad := ad) rD2) dX1_settled_74 ?_
            refine kg_v C hH (kc_V C hH w_2_74 lc_yX2_clear li_yX2_clear (oF (f := 13) (by decide)) (kX2_clear l E ad M11 13 (by decide)) (As := []) rfl dX1_settled_77 rfl hl.1 (Nat.le_of_ble_eq_true rfl) ⟨Nat.le_of_ble_eq_true rfl, Nat.le_of_ble_eq_true rfl⟩ ⟨Nat.le_of_ble_eq_true rfl, Nat.le_of_ble_eq_true rfl⟩) ⟨rfl, rfl⟩ (fun M14 H locs hH => ?_)
            refine lv_aload_n hx hb dX1_settled_80 rfl (lv_at hl 1 rfl) ?_
            refine lv_aload_n hx hb dX1_settled_81 rfl (lv_at hl 2 rfl) ?_
            refine k_getN C hH fn_X1_61 (oS (f := o1) ho1) (k_ref (M := M14) (ad := ad) (rS1 (f := o1) ho1)) dX1_settled_82 ?_
            refine lv_iload_n hx hb dX1_settled_85 rfl (lv_at hl 3 rfl) ?_
            refine lv_iload hx hb dX1_settled_86 (lv_at hl 4 rfl) ?_
            refine kg_ib C hH (kc_V C hH w_2_78 lc_yX1_addRound li_yX1_addRound oD (kX1_addRound l E ad M14 o1 ho1 v5 v10) (As := [.ref (ad (iR o1)), .int v5, .int v10]) rfl dX1_settled_88 rfl hl.1 (Nat.le_of_ble_eq_true rfl) ⟨Nat.le_of_ble_eq_true rfl, Nat.le_of_ble_eq_true rfl⟩ ⟨Nat.le_of_ble_eq_true rfl, Nat.le_of_ble_eq_true rfl⟩) ⟨rfl, rfl⟩ (fun v16 M15 H locs hH => ?_)
            refine kb_if_ne (tgt := 97) hx hb dX1_settled_91 (by decide) (fun _ => ?_) (fun _ => ?_)
            · refine lv_aload_n hx hb dX1_settled_97 rfl (lv_at hl 1 rfl) ?_
              refine k_get C hH fd_X1_12 oD (k_ref (M := M15) (ad := ad) rD0) dX1_settled_98 ?_
              refine lv_aload_n hx hb dX1_settled_101 rfl (lv_at hl 1 rfl) ?_
              refine k_get C hH fd_X1_21 oD (k_ref (M := M15) (ad := ad) rD2) dX1_settled_102 ?_
              refine kg_v C hH (kc_V C hH w_2_145 lc_yX2_join li_yX2_join (oF (f := 11) (by decide)) (kX2_join l E ad M15 11 (by decide) 13 (by decide)) (As := [.ref (ad (iF 13))]) rfl dX1_settled_105 rfl hl.1 (Nat.le_of_ble_eq_true rfl) ⟨Nat.le_of_ble_eq_true rfl, Nat.le_of_ble_eq_true rfl⟩ ⟨Nat.le_of_ble_eq_true rfl, Nat.le_of_ble_eq_true rfl⟩) ⟨rfl, rfl⟩ (fun M17 H locs hH => ?_)
              refine lv_aload_n hx hb dX1_settled_108 rfl (lv_at hl 1 rfl) ?_
              refine k_get C hH fd_X1_18 oD (k_ref (M := M17) (ad := ad) rD1) dX1_settled_109 ?_
              refine lv_aload_n hx hb dX1_settled_112 rfl (lv_at hl 1 rfl) ?_
              refine k_get C hH fd_X1_21 oD (k_ref (M := M17) (ad := ad) rD2) dX1_settled_113 ?_
              refine kg_v C hH (kc_V C hH w_2_35 lc_yX2_copy li_yX2_copy (oF (f := 12) (by decide)) (kX2_copy l E ad M17 12 (by decide) 13 (by decide)) (As := [.ref (ad (iF 13))]) rfl dX1_settled_116 rfl hl.1 (Nat.le_of_ble_eq_true rfl) ⟨Nat.le_of_ble_eq_true rfl, Nat.le_of_ble_eq_true rfl⟩ ⟨Nat.le_of_ble_eq_true rfl, Nat.le_of_ble_eq_true rfl⟩) ⟨rfl, rfl⟩ (fun M18 H locs hH => ?_)
              refine W_nm (fun v19 ev19 => ?_)
              refine lv_iinc (v := v19) (lv' := [(4, .int v19), (2, .int v4), (0, .ref (ad 106)), (1, .ref (ad (iS o1))), (3, .int v5)]) hx hb dX1_settled_119 hl (k := 4) rfl (by rw [ev19]; rfl) (by decide) rfl (fun ls hl => ?_)
              refine lv_goto (tgt := 65) hx hb dX1_settled_122 (by decide) ?_
              exact hrec65 (v19, M18) _ _ _ hH (lv_sub hl [1, 2, 3, 4, 0] rfl)
            · refine lv_goto (tgt := 125) hx hb dX1_settled_94 (by decide) ?_
              exact hk65 M15 _ _ _ hH (lv_sub hl [0, 1, 2, 3] rfl)
  · refine lv_aload_n hx hb dX1_settled_7 rfl (lv_at hl 0 rfl) ?_
    exact ke_r C hH hr (Or.inl ⟨_, rfl⟩) (Nat.le_refl _) (Nat.le_refl _) rfl dX1_settled_8
def fX9_held (M : KS)  : Option (KS) := (fX1_settled M 0).bind fun M1 => some M1
set_option maxHeartbeats 4000000 in
set_option maxRecDepth 100000 in
theorem kX9_held (l : Launch) (E : KE) (ad : Nat → Nat) (M : KS)  : CT l yX9_held cX9_held 1 (some (.object "KinFacts$Facts")) { frames := 5, cells := 0, slots := 0, locals := 135 } SK E ad [.ref (ad 121)] M (QR SK E ad (iF 11)) (fX9_held M) := by
  refine CT.ofW (by decide) (Nat.le_of_ble_eq_true rfl) (fun sz p e s m args below meth c C hr hH ls hl => ?_)
  have hx := C.1.1
  have hb := C.1.2.1
  have hl : lv_has ls 1 [(0, .ref (ad 121))] := hl
  unfold fX9_held
  refine lv_aload_n hx hb dX9_held_0 rfl (lv_at hl 0 rfl) ?_
  refine k_get C hH fd_X9_29 oK (k_ref (M := M) (ad := ad) rK3) dX9_held_1 ?_
  refine lv_aload_n hx hb dX9_held_4 rfl (lv_at hl 0 rfl) ?_
  refine k_get C hH fd_X9_10 oK (k_ref (M := M) (ad := ad) rK0) dX9_held_5 ?_
  refine kg_r C hH (kc_V C hH w_2_27 lc_yX1_settled li_yX1_settled oD (kX1_settled l E ad M 0 (by decide)) (As := [.ref (ad (iS 0))]) rfl dX9_held_8 rfl hl.1 (Nat.le_of_ble_eq_true rfl) ⟨Nat.le_of_ble_eq_true rfl, Nat.le_of_ble_eq_true rfl⟩ ⟨Nat.le_of_ble_eq_true rfl, Nat.le_of_ble_eq_true rfl⟩) ⟨rfl, rfl⟩ (fun M1 H locs hH => ?_)
  refine k_getN C hH fn_X9_140 oD (k_ref (M := M1) (ad := ad) rD0) dX9_held_11 ?_
  exact ke_r C hH hr (Or.inl ⟨_, rfl⟩) (Nat.le_refl _) (Nat.le_refl _) rfl dX9_held_14
def fX2_size_X4 (v3 : Int32) : Option (Int32) := some v3
theorem fX2_size_X4_u {v3 : Int32} : fX2_size_X4 v3 = some v3 := rfl
def fX2_size_L4 (M : KS) (o0 : Nat) (rec4 : (Int32 × Int32) → Option (Int32)) (k4 : (Int32) → Option (Int32)) (x : Int32 × Int32) : Option (Int32) := match x with | (v1, v2) => (if 36 ≤ v2 then k4 v1 else if inb v2 36 then nm ((v1 + (fJ6_bitCount_0f7a4 (M.1 (iFt o0) v2.toNatClampNeg)))) fun v4 => nm (v2 + 1) fun v5 => rec4 (v4, v5) else none)
theorem fX2_size_L4_u {M : KS} {o0 : Nat} {rec4 : (Int32 × Int32) → Option (Int32)} {k4 : (Int32) → Option (Int32)} {v1 : Int32} {v2 : Int32} : fX2_size_L4 M o0 rec4 k4 (v1, v2) = (if 36 ≤ v2 then k4 v1 else if inb v2 36 then nm ((v1 + (fJ6_bitCount_0f7a4 (M.1 (iFt o0) v2.toNatClampNeg)))) fun v4 => nm (v2 + 1) fun v5 => rec4 (v4, v5) else none) := rfl
def fX2_size (M : KS) (o0 : Nat) : Option (Int32) := lp (fX2_size_L4 M o0) (fX2_size_X4) 1000000 (0, 0)
set_option maxHeartbeats 4000000 in
set_option maxRecDepth 100000 in
theorem kX2_size (l : Launch) (E : KE) (ad : Nat → Nat) (M : KS) (o0 : Nat) (ho0 : o0 < 15) : CT l yX2_size cX2_size 3 (some .int) { frames := 1, cells := 0, slots := 0, locals := 20 } SK E ad [.ref (ad (iF o0))] M (fun sz a => QI SK E ad sz (a, M)) (fX2_size M o0) := by
  refine CT.ofW (by decide) (Nat.le_of_ble_eq_true rfl) (fun sz p e s m args below meth c C hr hH ls hl => ?_)
  have hx := C.1.1
  have hb := C.1.2.1
  have hl : lv_has ls 3 [(0, .ref (ad (iF o0)))] := hl
  unfold fX2_size
  refine lv_iconst (v := 0) hx hb dX2_size_0 (by decide) ?_
  refine lv_istore_n (lv' := [(1, .int 0), (0, .ref (ad (iF o0)))]) hx hb dX2_size_1 rfl hl (by decide) rfl (fun ls hl => ?_)
  refine lv_iconst (v := 0) hx hb dX2_size_2 (by decide) ?_
  refine lv_istore_n (lv' := [(2, .int 0), (1, .int 0), (0, .ref (ad (iF o0)))]) hx hb dX2_size_3 rfl hl (by decide) rfl (fun ls hl => ?_)
  refine W_lp (fun (x : Int32 × Int32) H locs => KH SK E ad sz M s.heap H locs) (fun x ls => lv_has ls 3 [(0, .ref (ad (iF o0))), (1, .int x.1), (2, .int x.2)]) (fun _ ls => F0 m 4 ls []) (fun (x : Int32) H locs => KH SK E ad sz M s.heap H locs) (fun x ls => lv_has ls 3 [(1, .int x)]) (fun _ ls => F0 m 31 ls []) ?_ ?_ hH (lv_sub hl [2, 1, 0] rfl)
  · intro v3 H locs ls hH hl
    have hH : KH SK E ad sz M s.heap H locs := hH
    have hl : lv_has ls 3 [(1, .int v3)] := hl
    refine W_q fX2_size_X4_u ?_
    refine lv_iload_n hx hb dX2_size_31 rfl (lv_at hl 0 rfl) ?_
    exact ke_i C hH hr (Nat.le_refl _) (Nat.le_refl _) rfl dX2_size_32
  · intro rec4 k4 hrec4 hk4 ⟨v1, v2⟩ H locs ls hH hl
    have hH : KH SK E ad sz M s.heap H locs := hH
    have hl : lv_has ls 3 [(0, .ref (ad (iF o0))), (1, .int v1), (2, .int v2)] := hl
    refine W_q fX2_size_L4_u ?_
    refine lv_iload_n hx hb dX2_size_4 rfl (lv_at hl 2 rfl) ?_
    refine lv_aload_n hx hb dX2_size_5 rfl (lv_at hl 0 rfl) ?_
    refine k_get C hH fd_X2_9 (oF (f := o0) ho0) (k_ref (M := M) (ad := ad) (rF0 (f := o0) ho0)) dX2_size_6 ?_
    refine k_ilen C hH (aF0 (f := o0) ho0) (v := 36) rfl dX2_size_9 ?_
    refine kb_icmp_ge (tgt := 31) hx hb dX2_size_10 (by decide) (fun _ => ?_) (fun _ => ?_)
    · exact hk4 v1 _ _ _ hH (lv_sub hl [1] rfl)
    · refine lv_iload_n hx hb dX2_size_13 rfl (lv_at hl 1 rfl) ?_
      refine lv_aload_n hx hb dX2_size_14 rfl (lv_at hl 0 rfl) ?_
      refine k_get C hH fd_X2_9 (oF (f := o0) ho0) (k_ref (M := M) (ad := ad) (rF0 (f := o0) ho0)) dX2_size_15 ?_
      refine lv_iload_n hx hb dX2_size_18 rfl (lv_at hl 2 rfl) ?_
      refine k_iald C hH (aF0 (f := o0) ho0) dX2_size_19 ?_
      refine kg_ip C hH (kc_S2 C hH w_2_221 w_st_yJ6_bitCount_0f7a4 lc_yJ6_bitCount_0f7a4 (kJ6_bitCount_0f7a4 l E ad M (M.1 (iFt o0) v2.toNatClampNeg)) (As := [.int (M.1 (iFt o0) v2.toNatClampNeg)]) rfl dX2_size_20 rfl hl.1 (Nat.le_of_ble_eq_true rfl) ⟨Nat.le_of_ble_eq_true rfl, Nat.le_of_ble_eq_true rfl⟩ ⟨Nat.le_of_ble_eq_true rfl, Nat.le_of_ble_eq_true rfl⟩) ⟨rfl, rfl⟩ (fun H locs hH => ?_)
      refine lv_iadd hx hb dX2_size_23 ?_
      refine W_nmi (fun v4 => ?_)
      refine lv_istore_n (lv' := [(1, .int v4), (0, .ref (ad (iF o0))), (2, .int v2)]) hx hb dX2_size_24 rfl hl (by decide) rfl (fun ls hl => ?_)
      refine W_nm (fun v5 ev5 => ?_)
      refine lv_iinc (v := v5) (lv' := [(2, .int v5), (1, .int v4), (0, .ref (ad (iF o0)))]) hx hb dX2_size_25 hl (k := 2) rfl (by rw [ev5]; rfl) (by decide) rfl (fun ls hl => ?_)
      refine lv_goto (tgt := 4) hx hb dX2_size_28 (by decide) ?_
      exact hrec4 (v4, v5) _ _ _ hH (lv_sub hl [2, 1, 0] rfl)
def fX2_take (M : KS) (o0 : Nat) (a1 : Int32) : Option (KS) := (if a1 < 0 then some M else (if a1 < 216 then if inb (a1 / 6) 36 then if inb (a1 / 6) 36 then nm (kset M (iFt o0) (a1 / 6).toNatClampNeg ((M.1 (iFt o0) (a1 / 6).toNatClampNeg) &&& ((jshl 1 (jrem a1 6)) ^^^ (-1)))) fun M1 => if inb (((a1 / 36) * 6) + (jrem a1 6)) 36 then if inb (((a1 / 36) * 6) + (jrem a1 6)) 36 then nm (kset M1 (iFf o0) (((a1 / 36) * 6) + (jrem a1 6)).toNatClampNeg ((M1.1 (iFf o0) (((a1 / 36) * 6) + (jrem a1 6)).toNatClampNeg) &&& ((jshl 1 (jrem (a1 / 6) 6)) ^^^ (-1)))) fun M2 => some M2 else none else none else none else none else some M))
set_option maxHeartbeats 4000000 in
set_option maxRecDepth 100000 in
theorem kX2_take (l : Launch) (E : KE) (ad : Nat → Nat) (M : KS) (o0 : Nat) (ho0 : o0 < 15) (a1 : Int32) : CT l yX2_take cX2_take 2 none { frames := 0, cells := 0, slots := 0, locals := 0 } SK E ad [.ref (ad (iF o0)), .int a1] M (QV SK E ad) (fX2_take M o0 a1) := by
  refine CT.ofW (by decide) (Nat.le_of_ble_eq_true rfl) (fun sz p e s m args below meth c C hr hH ls hl => ?_)
  have hx := C.1.1
  have hb := C.1.2.1
  have hl : lv_has ls 2 [(0, .ref (ad (iF o0))), (1, .int a1)] := hl
  unfold fX2_take
  refine lv_iload_n hx hb dX2_take_0 rfl (lv_at hl 1 rfl) ?_
  refine kb_if_lt (tgt := 11) hx hb dX2_take_1 (by decide) (fun _ => ?_) (fun _ => ?_)
  · exact ke_v C hH hr (Nat.le_refl _) (Nat.le_refl _) rfl dX2_take_11
  · refine lv_iload_n hx hb dX2_take_4 rfl (lv_at hl 1 rfl) ?_
    refine lv_sipush (v := 216) hx hb dX2_take_5 (by decide) ?_
    refine kb_icmp_lt (tgt := 12) hx hb dX2_take_8 (by decide) (fun _ => ?_) (fun _ => ?_)
    · refine lv_aload_n hx hb dX2_take_12 rfl (lv_at hl 0 rfl) ?_
      refine k_get C hH fd_X2_9 (oF (f := o0) ho0) (k_ref (M := M) (ad := ad) (rF0 (f := o0) ho0)) dX2_take_13 ?_
      refine lv_iload_n hx hb dX2_take_16 rfl (lv_at hl 1 rfl) ?_
      refine lv_bipush (v := 6) hx hb dX2_take_17 (by decide) ?_
      refine lv_idiv hx hb dX2_take_19 (by decide) ?_
      refine lv_dup2_11 hx hb dX2_take_20 rfl rfl ?_
      refine k_iald C hH (aF0 (f := o0) ho0) dX2_take_21 ?_
      refine lv_iconst (v := 1) hx hb dX2_take_22 (by decide) ?_
      refine lv_iload_n hx hb dX2_take_23 rfl (lv_at hl 1 rfl) ?_
      refine lv_bipush (v := 6) hx hb dX2_take_24 (by decide) ?_
      refine k_irem hx hb dX2_take_26 (by decide) ?_
      refine k_ishl hx hb dX2_take_27 ?_
      refine lv_iconst (v := (-1)) hx hb dX2_take_28 (by decide) ?_
      refine lv_ixor hx hb dX2_take_29 ?_
      refine lv_iand hx hb dX2_take_30 ?_
      refine k_iast C hH (aF0 (f := o0) ho0) dX2_take_31 (fun M1 H locs hH => ?_)
      refine lv_aload_n hx hb dX2_take_32 rfl (lv_at hl 0 rfl) ?_
      refine k_get C hH fd_X2_15 (oF (f := o0) ho0) (k_ref (M := M1) (ad := ad) (rF1 (f := o0) ho0)) dX2_take_33 ?_
      refine lv_iload_n hx hb dX2_take_36 rfl (lv_at hl 1 rfl) ?_
      refine lv_bipush (v := 36) hx hb dX2_take_37 (by decide) ?_
      refine lv_idiv hx hb dX2_take_39 (by decide) ?_
      refine lv_bipush (v := 6) hx hb dX2_take_40 (by decide) ?_
      refine lv_imul hx hb dX2_take_42 ?_
      refine lv_iload_n hx hb dX2_take_43 rfl (lv_at hl 1 rfl) ?_
      refine lv_bipush (v := 6) hx hb dX2_take_44 (by decide) ?_
      refine k_irem hx hb dX2_take_46 (by decide) ?_
      refine lv_iadd hx hb dX2_take_47 ?_
      refine lv_dup2_11 hx hb dX2_take_48 rfl rfl ?_
      refine k_iald C hH (aF1 (f := o0) ho0) dX2_take_49 ?_
      refine lv_iconst (v := 1) hx hb dX2_take_50 (by decide) ?_
      refine lv_iload_n hx hb dX2_take_51 rfl (lv_at hl 1 rfl) ?_
      refine lv_bipush (v := 6) hx hb dX2_take_52 (by decide) ?_
      refine lv_idiv hx hb dX2_take_54 (by decide) ?_
      refine lv_bipush (v := 6) hx hb dX2_take_55 (by decide) ?_
      refine k_irem hx hb dX2_take_57 (by decide) ?_
      refine k_ishl hx hb dX2_take_58 ?_
      refine lv_iconst (v := (-1)) hx hb dX2_take_59 (by decide) ?_
      refine lv_ixor hx hb dX2_take_60 ?_
      refine lv_iand hx hb dX2_take_61 ?_
      refine k_iast C hH (aF1 (f := o0) ho0) dX2_take_62 (fun M2 H locs hH => ?_)
      exact ke_v C hH hr (Nat.le_refl _) (Nat.le_refl _) rfl dX2_take_63
    · exact ke_v C hH hr (Nat.le_refl _) (Nat.le_refl _) rfl dX2_take_11
def fX9_takeFact_J42_34 (M4 : KS) (v6 : Int32) : Option (Int32 × KS) := bd2 (fX9_refuse M4 3 v6) fun v8 M7 => if isB v8 then some (v8, M7) else none
theorem fX9_takeFact_J42_34_u {M4 : KS} {v6 : Int32} : fX9_takeFact_J42_34 M4 v6 = bd2 (fX9_refuse M4 3 v6) fun v8 M7 => if isB v8 then some (v8, M7) else none := rfl
def fX9_takeFact (M : KS) (a1 : Int32) : Option (Int32 × KS) := (fX2_has M 0 a1).bind fun v1 => (if v1 = 0 then (fX1_settled M 0).bind fun M4 => (fX2_has M4 11 a1).bind fun v5 => jn (fX9_takeFact_J42_34 M4) (fun K42_34 => (if v5 = 0 then K42_34 0 else K42_34 1)) else (fX2_take M 0 a1).bind fun M2 => (fX1_outdate M2).bind fun M3 => some (1, M3))
set_option maxHeartbeats 4000000 in
set_option maxRecDepth 100000 in
theorem kX9_takeFact (l : Launch) (E : KE) (ad : Nat → Nat) (M : KS) (a1 : Int32) : CT l yX9_takeFact cX9_takeFact 2 (some .boolean) { frames := 5, cells := 0, slots := 0, locals := 135 } SK E ad [.ref (ad 121), .int a1] M (QI SK E ad) (fX9_takeFact M a1) := by
  refine CT.ofW (by decide) (Nat.le_of_ble_eq_true rfl) (fun sz p e s m args below meth c C hr hH ls hl => ?_)
  have hx := C.1.1
  have hb := C.1.2.1
  have hl : lv_has ls 2 [(0, .ref (ad 121)), (1, .int a1)] := hl
  unfold fX9_takeFact
  refine lv_aload_n hx hb dX9_takeFact_0 rfl (lv_at hl 0 rfl) ?_
  refine k_get C hH fd_X9_10 oK (k_ref (M := M) (ad := ad) rK0) dX9_takeFact_1 ?_
  refine k_getN C hH fn_X9_124 (oS (f := 0) (by decide)) (k_ref (M := M) (ad := ad) (rS0 (f := 0) (by decide))) dX9_takeFact_4 ?_
  refine lv_iload_n hx hb dX9_takeFact_7 rfl (lv_at hl 1 rfl) ?_
  refine kg_io C hH (kc_V C hH w_3_86 lc_yX2_has li_yX2_has (oF (f := 0) (by decide)) (kX2_has l E ad M 0 (by decide) a1) (As := [.int a1]) rfl dX9_takeFact_8 rfl hl.1 (Nat.le_of_ble_eq_true rfl) ⟨Nat.le_of_ble_eq_true rfl, Nat.le_of_ble_eq_true rfl⟩ ⟨Nat.le_of_ble_eq_true rfl, Nat.le_of_ble_eq_true rfl⟩) ⟨rfl, rfl⟩ (fun v1 H locs hH => ?_)
  refine kb_if_ne (tgt := 46) hx hb dX9_takeFact_11 (by decide) (fun _ => ?_) (fun _ => ?_)
  · refine lv_aload_n hx hb dX9_takeFact_46 rfl (lv_at hl 0 rfl) ?_
    refine k_get C hH fd_X9_10 oK (k_ref (M := M) (ad := ad) rK0) dX9_takeFact_47 ?_
    refine k_getN C hH fn_X9_124 (oS (f := 0) (by decide)) (k_ref (M := M) (ad := ad) (rS0 (f := 0) (by decide))) dX9_takeFact_50 ?_
    refine lv_iload_n hx hb dX9_takeFact_53 rfl (lv_at hl 1 rfl) ?_
    refine kg_v C hH (kc_V C hH w_3_139 lc_yX2_take li_yX2_take (oF (f := 0) (by decide)) (kX2_take l E ad M 0 (by decide) a1) (As := [.int a1]) rfl dX9_takeFact_54 rfl hl.1 (Nat.le_of_ble_eq_true rfl) ⟨Nat.le_of_ble_eq_true rfl, Nat.le_of_ble_eq_true rfl⟩ ⟨Nat.le_of_ble_eq_true rfl, Nat.le_of_ble_eq_true rfl⟩) ⟨rfl, rfl⟩ (fun M2 H locs hH => ?_)
    refine lv_aload_n hx hb dX9_takeFact_57 rfl (lv_at hl 0 rfl) ?_
    refine k_get C hH fd_X9_29 oK (k_ref (M := M2) (ad := ad) rK3) dX9_takeFact_58 ?_
    refine kg_v C hH (kc_V C hH w_3_97 lc_yX1_outdate li_yX1_outdate oD (kX1_outdate l E ad M2) (As := []) rfl dX9_takeFact_61 rfl hl.1 (Nat.le_of_ble_eq_true rfl) ⟨Nat.le_of_ble_eq_true rfl, Nat.le_of_ble_eq_true rfl⟩ ⟨Nat.le_of_ble_eq_true rfl, Nat.le_of_ble_eq_true rfl⟩) ⟨rfl, rfl⟩ (fun M3 H locs hH => ?_)
    refine lv_iconst (v := 1) hx hb dX9_takeFact_64 (by decide) ?_
    exact ke_z C hH hr (Nat.le_refl _) (Nat.le_refl _) rfl (Or.inr rfl) dX9_takeFact_65
  · refine lv_aload_n hx hb dX9_takeFact_14 rfl (lv_at hl 0 rfl) ?_
    refine lv_iconst (v := 3) hx hb dX9_takeFact_15 (by decide) ?_
    refine lv_aload_n hx hb dX9_takeFact_16 rfl (lv_at hl 0 rfl) ?_
    refine k_get C hH fd_X9_29 oK (k_ref (M := M) (ad := ad) rK3) dX9_takeFact_17 ?_
    refine lv_aload_n hx hb dX9_takeFact_20 rfl (lv_at hl 0 rfl) ?_
    refine k_get C hH fd_X9_10 oK (k_ref (M := M) (ad := ad) rK0) dX9_takeFact_21 ?_
    refine kg_r C hH (kc_V C hH w_2_27 lc_yX1_settled li_yX1_settled oD (kX1_settled l E ad M 0 (by decide)) (As := [.ref (ad (iS 0))]) rfl dX9_takeFact_24 rfl hl.1 (Nat.le_of_ble_eq_true rfl) ⟨Nat.le_of_ble_eq_true rfl, Nat.le_of_ble_eq_true rfl⟩ ⟨Nat.le_of_ble_eq_true rfl, Nat.le_of_ble_eq_true rfl⟩) ⟨rfl, rfl⟩ (fun M4 H locs hH => ?_)
    refine k_getN C hH fn_X9_140 oD (k_ref (M := M4) (ad := ad) rD0) dX9_takeFact_27 ?_
    refine lv_iload_n hx hb dX9_takeFact_30 rfl (lv_at hl 1 rfl) ?_
    refine kg_io C hH (kc_V C hH w_3_86 lc_yX2_has li_yX2_has (oF (f := 11) (by decide)) (kX2_has l E ad M4 11 (by decide) a1) (As := [.int a1]) rfl dX9_takeFact_31 rfl hl.1 (Nat.le_of_ble_eq_true rfl) ⟨Nat.le_of_ble_eq_true rfl, Nat.le_of_ble_eq_true rfl⟩ ⟨Nat.le_of_ble_eq_true rfl, Nat.le_of_ble_eq_true rfl⟩) ⟨rfl, rfl⟩ (fun v5 H locs hH => ?_)
    refine W_jn (fun (x : Int32) H locs => KH SK E ad sz M4 s.heap H locs) (fun x ls => lv_has ls 2 []) (fun x ls => F0 m 42 ls [.int x, .int 3, .ref (ad 121)]) ?_ (fun K42_34 hK42_34 => ?_)
    · intro v6 H locs ls hH hl
      have hH : KH SK E ad sz M4 s.heap H locs := hH
      have hl : lv_has ls 2 [] := hl
      refine W_q fX9_takeFact_J42_34_u ?_
      refine kg_ib C hH (kc_V C hH w_3_92 lc_yX9_refuse li_yX9_refuse oK (kX9_refuse l E ad M4 3 v6) (As := [.int 3, .int v6]) rfl dX9_takeFact_42 rfl hl.1 (Nat.le_of_ble_eq_true rfl) ⟨Nat.le_of_ble_eq_true rfl, Nat.le_of_ble_eq_true rfl⟩ ⟨Nat.le_of_ble_eq_true rfl, Nat.le_of_ble_eq_true rfl⟩) ⟨rfl, rfl⟩ (fun v8 M7 H locs hH => ?_)
      exact ke_zg C hH hr (Nat.le_refl _) (Nat.le_refl _) rfl dX9_takeFact_45
    · refine kb_if_eq (tgt := 41) hx hb dX9_takeFact_34 (by decide) (fun _ => ?_) (fun _ => ?_)
      · refine lv_iconst (v := 0) hx hb dX9_takeFact_41 (by decide) ?_
        exact hK42_34 0 _ _ _ hH (lv_sub hl [] rfl)
      · refine lv_iconst (v := 1) hx hb dX9_takeFact_37 (by decide) ?_
        refine lv_goto (tgt := 42) hx hb dX9_takeFact_38 (by decide) ?_
        exact hK42_34 1 _ _ _ hH (lv_sub hl [] rfl)
def fX0_makeMore_X5 (x : Int32 × KS) : Option (Int32 × KS) := match x with | (v4, M5) => if isB v4 then some (v4, M5) else none
theorem fX0_makeMore_X5_u {v4 : Int32} {M5 : KS} : fX0_makeMore_X5 (v4, M5) = if isB v4 then some (v4, M5) else none := rfl
def fX0_makeMore_X41 (v2 : Int32) (rec5 : (Int32 × Int32 × KS) → Option (Int32 × KS)) (x : Int32 × KS) : Option (Int32 × KS) := match x with | (v11, M12) => nm (v2 + 1) fun v13 => rec5 (v11, v13, M12)
theorem fX0_makeMore_X41_u {v2 : Int32} {rec5 : (Int32 × Int32 × KS) → Option (Int32 × KS)} {v11 : Int32} {M12 : KS} : fX0_makeMore_X41 v2 rec5 (v11, M12) = nm (v2 + 1) fun v13 => rec5 (v11, v13, M12) := rfl
def fX0_makeMore_L41 (o1 : Nat) (v2 : Int32) (v6 : Int32) (rec41 : (Int32 × Int32 × KS) → Option (Int32 × KS)) (k41 : (Int32 × KS) → Option (Int32 × KS)) (x : Int32 × Int32 × KS) : Option (Int32 × KS) := match x with | (v8, v9, M10) => (if 36 ≤ v9 then k41 (v8, M10) else nm (((36 * v6) + v9)) fun v14 => (fX2_has M10 14 v14).bind fun v15 => (if v15 = 0 then (fX6_makersOf M10 o1 v2 (v9 / 6) (jrem v9 6) 14 14).bind fun v17 => (if v17 = 0 then nm (v9 + 1) fun v18 => rec41 (v8, v18, M10) else (fX2_put M10 14 v14).bind fun M19 => nm (v9 + 1) fun v20 => rec41 (1, v20, M19)) else nm (v9 + 1) fun v16 => rec41 (v8, v16, M10)))
theorem fX0_makeMore_L41_u {o1 : Nat} {v2 : Int32} {v6 : Int32} {rec41 : (Int32 × Int32 × KS) → Option (Int32 × KS)} {k41 : (Int32 × KS) → Option (Int32 × KS)} {v8 : Int32} {v9 : Int32} {M10 : KS} : fX0_makeMore_L41 o1 v2 v6 rec41 k41 (v8, v9, M10) = (if 36 ≤ v9 then k41 (v8, M10) else nm (((36 * v6) + v9)) fun v14 => (fX2_has M10 14 v14).bind fun v15 => (if v15 = 0 then (fX6_makersOf M10 o1 v2 (v9 / 6) (jrem v9 6) 14 14).bind fun v17 => (if v17 = 0 then nm (v9 + 1) fun v18 => rec41 (v8, v18, M10) else (fX2_put M10 14 v14).bind fun M19 => nm (v9 + 1) fun v20 => rec41 (1, v20, M19)) else nm (v9 + 1) fun v16 => rec41 (v8, v16, M10))) := rfl
def fX0_makeMore_L5 (o1 : Nat) (a2 : Int32) (rec5 : (Int32 × Int32 × KS) → Option (Int32 × KS)) (k5 : (Int32 × KS) → Option (Int32 × KS)) (x : Int32 × Int32 × KS) : Option (Int32 × KS) := match x with | (v1, v2, M3) => (if (M3.1 (iR o1) 3) ≤ v2 then k5 (v1, M3) else (fX6_head M3 o1 v2).bind fun v6 => (fX3_of M3 1 v6).bind fun v7 => (if v7 = a2 then lp (fX0_makeMore_L41 o1 v2 v6) (fX0_makeMore_X41 v2 rec5) 1000000 (v1, 0, M3) else nm (v2 + 1) fun v21 => rec5 (v1, v21, M3)))
theorem fX0_makeMore_L5_u {o1 : Nat} {a2 : Int32} {rec5 : (Int32 × Int32 × KS) → Option (Int32 × KS)} {k5 : (Int32 × KS) → Option (Int32 × KS)} {v1 : Int32} {v2 : Int32} {M3 : KS} : fX0_makeMore_L5 o1 a2 rec5 k5 (v1, v2, M3) = (if (M3.1 (iR o1) 3) ≤ v2 then k5 (v1, M3) else (fX6_head M3 o1 v2).bind fun v6 => (fX3_of M3 1 v6).bind fun v7 => (if v7 = a2 then lp (fX0_makeMore_L41 o1 v2 v6) (fX0_makeMore_X41 v2 rec5) 1000000 (v1, 0, M3) else nm (v2 + 1) fun v21 => rec5 (v1, v21, M3))) := rfl
def fX0_makeMore (M : KS) (o1 : Nat) (a2 : Int32) : Option (Int32 × KS) := lp (fX0_makeMore_L5 o1 a2) (fX0_makeMore_X5) 1000000 (0, 0, M)
set_option maxHeartbeats 4000000 in
set_option maxRecDepth 100000 in
theorem kX0_makeMore (l : Launch) (E : KE) (ad : Nat → Nat) (M : KS) (o1 : Nat) (ho1 : o1 < 11) (a2 : Int32) : CT l yX0_makeMore cX0_makeMore 8 (some .boolean) { frames := 3, cells := 0, slots := 0, locals := 82 } SK E ad [.ref (ad 112), .ref (ad (iR o1)), .int a2] M (QI SK E ad) (fX0_makeMore M o1 a2) := by
  refine CT.ofW (by decide) (Nat.le_of_ble_eq_true rfl) (fun sz p e s m args below meth c C hr hH ls hl => ?_)
  have hx := C.1.1
  have hb := C.1.2.1
  have hl : lv_has ls 8 [(0, .ref (ad 112)), (1, .ref (ad (iR o1))), (2, .int a2)] := hl
  unfold fX0_makeMore
  refine lv_iconst (v := 0) hx hb dX0_makeMore_0 (by decide) ?_
  refine lv_istore_n (lv' := [(3, .int 0), (0, .ref (ad 112)), (1, .ref (ad (iR o1))), (2, .int a2)]) hx hb dX0_makeMore_1 rfl hl (by decide) rfl (fun ls hl => ?_)
  refine lv_iconst (v := 0) hx hb dX0_makeMore_2 (by decide) ?_
  refine lv_istore (lv' := [(4, .int 0), (3, .int 0), (0, .ref (ad 112)), (1, .ref (ad (iR o1))), (2, .int a2)]) hx hb dX0_makeMore_3 hl (by decide) rfl (fun ls hl => ?_)
  refine W_lp (fun (x : Int32 × Int32 × KS) H locs => KH SK E ad sz x.2.2 s.heap H locs) (fun x ls => lv_has ls 8 [(0, .ref (ad 112)), (1, .ref (ad (iR o1))), (2, .int a2), (3, .int x.1), (4, .int x.2.1)]) (fun _ ls => F0 m 5 ls []) (fun (x : Int32 × KS) H locs => KH SK E ad sz x.2 s.heap H locs) (fun x ls => lv_has ls 8 [(3, .int x.1)]) (fun _ ls => F0 m 120 ls []) ?_ ?_ hH (lv_sub hl [2, 3, 4, 1, 0] rfl)
  · intro ⟨v4, M5⟩ H locs ls hH hl
    have hH : KH SK E ad sz M5 s.heap H locs := hH
    have hl : lv_has ls 8 [(3, .int v4)] := hl
    refine W_q fX0_makeMore_X5_u ?_
    refine lv_iload_n hx hb dX0_makeMore_120 rfl (lv_at hl 0 rfl) ?_
    exact ke_zg C hH hr (Nat.le_refl _) (Nat.le_refl _) rfl dX0_makeMore_121
  · intro rec5 k5 hrec5 hk5 ⟨v1, v2, M3⟩ H locs ls hH hl
    have hH : KH SK E ad sz M3 s.heap H locs := hH
    have hl : lv_has ls 8 [(0, .ref (ad 112)), (1, .ref (ad (iR o1))), (2, .int a2), (3, .int v1), (4, .int v2)] := hl
    refine W_q fX0_makeMore_L5_u ?_
    refine lv_iload hx hb dX0_makeMore_5 (lv_at hl 4 rfl) ?_
    refine lv_aload_n hx hb dX0_makeMore_7 rfl (lv_at hl 1 rfl) ?_
    refine k_getN C hH fn_X0_44 (oR (f := o1) ho1) (k_int (M := M3) (ad := ad) (nR3 (f := o1) ho1)) dX0_makeMore_8 ?_
    refine kb_icmp_ge (tgt := 120) hx hb dX0_makeMore_11 (by decide) (fun _ => ?_) (fun _ => ?_)
    · exact hk5 (v1, M3) _ _ _ hH (lv_sub hl [3] rfl)
    · refine lv_aload_n hx hb dX0_makeMore_14 rfl (lv_at hl 1 rfl) ?_
      refine lv_iload hx hb dX0_makeMore_15 (lv_at hl 4 rfl) ?_
      refine kg_io C hH (kc_V C hH w_2_173 lc_yX6_head li_yX6_head (oR (f := o1) ho1) (kX6_head l E ad M3 o1 ho1 v2) (As := [.int v2]) rfl dX0_makeMore_17 rfl hl.1 (Nat.le_of_ble_eq_true rfl) ⟨Nat.le_of_ble_eq_true rfl, Nat.le_of_ble_eq_true rfl⟩ ⟨Nat.le_of_ble_eq_true rfl, Nat.le_of_ble_eq_true rfl⟩) ⟨rfl, rfl⟩ (fun v6 H locs hH => ?_)
      refine lv_istore (lv' := [(5, .int v6), (0, .ref (ad 112)), (1, .ref (ad (iR o1))), (2, .int a2), (3, .int v1), (4, .int v2)]) hx hb dX0_makeMore_20 hl (by decide) rfl (fun ls hl => ?_)
      refine lv_aload_n hx hb dX0_makeMore_22 rfl (lv_at hl 1 rfl) ?_
      refine k_get C hH fd_X0_21 oA (k_ref (M := M3) (ad := ad) rA1) dX0_makeMore_23 ?_
      refine lv_iload hx hb dX0_makeMore_26 (lv_at hl 0 rfl) ?_
      refine kg_io C hH (kc_V C hH w_2_174 lc_yX3_of li_yX3_of (oY (f := 1) (by decide)) (kX3_of l E ad M3 1 (by decide) v6) (As := [.int v6]) rfl dX0_makeMore_28 rfl hl.1 (Nat.le_of_ble_eq_true rfl) ⟨Nat.le_of_ble_eq_true rfl, Nat.le_of_ble_eq_true rfl⟩ ⟨Nat.le_of_ble_eq_true rfl, Nat.le_of_ble_eq_true rfl⟩) ⟨rfl, rfl⟩ (fun v7 H locs hH => ?_)
      refine lv_iload_n hx hb dX0_makeMore_31 rfl (lv_at hl 3 rfl) ?_
      refine kb_icmp_eq (tgt := 38) hx hb dX0_makeMore_32 (by decide) (fun _ => ?_) (fun _ => ?_)
      · refine lv_iconst (v := 0) hx hb dX0_makeMore_38 (by decide) ?_
        refine lv_istore (lv' := [(6, .int 0), (5, .int v6), (0, .ref (ad 112)), (1, .ref (ad (iR o1))), (2, .int a2), (3, .int v1), (4, .int v2)]) hx hb dX0_makeMore_39 hl (by decide) rfl (fun ls hl => ?_)
        refine W_lp (fun (x : Int32 × Int32 × KS) H locs => KH SK E ad sz x.2.2 s.heap H locs) (fun x ls => lv_has ls 8 [(5, .int v6), (0, .ref (ad 112)), (1, .ref (ad (iR o1))), (2, .int a2), (4, .int v2), (3, .int x.1), (6, .int x.2.1)]) (fun _ ls => F0 m 41 ls []) (fun (x : Int32 × KS) H locs => KH SK E ad sz x.2 s.heap H locs) (fun x ls => lv_has ls 8 [(0, .ref (ad 112)), (1, .ref (ad (iR o1))), (2, .int a2), (4, .int v2), (3, .int x.1)]) (fun _ ls => F0 m 114 ls []) ?_ ?_ hH (lv_sub hl [1, 2, 3, 4, 6, 5, 0] rfl)
        · intro ⟨v11, M12⟩ H locs ls hH hl
          have hH : KH SK E ad sz M12 s.heap H locs := hH
          have hl : lv_has ls 8 [(0, .ref (ad 112)), (1, .ref (ad (iR o1))), (2, .int a2), (4, .int v2), (3, .int v11)] := hl
          refine W_q fX0_makeMore_X41_u ?_
          refine W_nm (fun v13 ev13 => ?_)
          refine lv_iinc (v := v13) (lv' := [(4, .int v13), (0, .ref (ad 112)), (1, .ref (ad (iR o1))), (2, .int a2), (3, .int v11)]) hx hb dX0_makeMore_114 hl (k := 3) rfl (by rw [ev13]; rfl) (by decide) rfl (fun ls hl => ?_)
          refine lv_goto (tgt := 5) hx hb dX0_makeMore_117 (by decide) ?_
          exact hrec5 (v11, v13, M12) _ _ _ hH (lv_sub hl [1, 2, 3, 4, 0] rfl)
        · intro rec41 k41 hrec41 hk41 ⟨v8, v9, M10⟩ H locs ls hH hl
          have hH : KH SK E ad sz M10 s.heap H locs := hH
          have hl : lv_has ls 8 [(5, .int v6), (0, .ref (ad 112)), (1, .ref (ad (iR o1))), (2, .int a2), (4, .int v2), (3, .int v8), (6, .int v9)] := hl
          refine W_q fX0_makeMore_L41_u ?_
          refine lv_iload hx hb dX0_makeMore_41 (lv_at hl 6 rfl) ?_
          refine lv_bipush (v := 36) hx hb dX0_makeMore_43 (by decide) ?_
          refine kb_icmp_ge (tgt := 114) hx hb dX0_makeMore_45 (by decide) (fun _ => ?_) (fun _ => ?_)
          · exact hk41 (v8, M10) _ _ _ hH (lv_sub hl [1, 2, 3, 4, 5] rfl)
          · refine lv_bipush (v := 36) hx hb dX0_makeMore_48 (by decide) ?_
            refine lv_iload hx hb dX0_makeMore_50 (lv_at hl 0 rfl) ?_
            refine lv_imul hx hb dX0_makeMore_52 ?_
            refine lv_iload hx hb dX0_makeMore_53 (lv_at hl 6 rfl) ?_
            refine lv_iadd hx hb dX0_makeMore_55 ?_
            refine W_nmi (fun v14 => ?_)
            refine lv_istore (lv' := [(7, .int v14), (5, .int v6), (0, .ref (ad 112)), (1, .ref (ad (iR o1))), (2, .int a2), (4, .int v2), (3, .int v8), (6, .int v9)]) hx hb dX0_makeMore_56 hl (by decide) rfl (fun ls hl => ?_)
            refine lv_aload_n hx hb dX0_makeMore_58 rfl (lv_at hl 2 rfl) ?_
            refine k_get C hH fd_X0_12 oA (k_ref (M := M10) (ad := ad) rA0) dX0_makeMore_59 ?_
            refine lv_iload hx hb dX0_makeMore_62 (lv_at hl 0 rfl) ?_
            refine kg_io C hH (kc_V C hH w_2_175 lc_yX2_has li_yX2_has (oF (f := 14) (by decide)) (kX2_has l E ad M10 14 (by decide) v14) (As := [.int v14]) rfl dX0_makeMore_64 rfl hl.1 (Nat.le_of_ble_eq_true rfl) ⟨Nat.le_of_ble_eq_true rfl, Nat.le_of_ble_eq_true rfl⟩ ⟨Nat.le_of_ble_eq_true rfl, Nat.le_of_ble_eq_true rfl⟩) ⟨rfl, rfl⟩ (fun v15 H locs hH => ?_)
            refine kb_if_ne (tgt := 108) hx hb dX0_makeMore_67 (by decide) (fun _ => ?_) (fun _ => ?_)
            · refine W_nm (fun v16 ev16 => ?_)
              refine lv_iinc (v := v16) (lv' := [(6, .int v16), (7, .int v14), (5, .int v6), (0, .ref (ad 112)), (1, .ref (ad (iR o1))), (2, .int a2), (4, .int v2), (3, .int v8)]) hx hb dX0_makeMore_108 hl (k := 7) rfl (by rw [ev16]; rfl) (by decide) rfl (fun ls hl => ?_)
              refine lv_goto (tgt := 41) hx hb dX0_makeMore_111 (by decide) ?_
              exact hrec41 (v8, v16, M10) _ _ _ hH (lv_sub hl [2, 3, 4, 5, 6, 7, 0] rfl)
            · refine lv_aload_n hx hb dX0_makeMore_70 rfl (lv_at hl 3 rfl) ?_
              refine lv_iload hx hb dX0_makeMore_71 (lv_at hl 5 rfl) ?_
              refine lv_iload hx hb dX0_makeMore_73 (lv_at hl 7 rfl) ?_
              refine lv_bipush (v := 6) hx hb dX0_makeMore_75 (by decide) ?_
              refine lv_idiv hx hb dX0_makeMore_77 (by decide) ?_
              refine lv_iload hx hb dX0_makeMore_78 (lv_at hl 7 rfl) ?_
              refine lv_bipush (v := 6) hx hb dX0_makeMore_80 (by decide) ?_
              refine k_irem hx hb dX0_makeMore_82 (by decide) ?_
              refine lv_aload_n hx hb dX0_makeMore_83 rfl (lv_at hl 2 rfl) ?_
              refine k_get C hH fd_X0_12 oA (k_ref (M := M10) (ad := ad) rA0) dX0_makeMore_84 ?_
              refine lv_aload_n hx hb dX0_makeMore_87 rfl (lv_at hl 2 rfl) ?_
              refine k_get C hH fd_X0_12 oA (k_ref (M := M10) (ad := ad) rA0) dX0_makeMore_88 ?_
              refine kg_io C hH (kc_V C hH w_2_176 lc_yX6_makersOf li_yX6_makersOf (oR (f := o1) ho1) (kX6_makersOf l E ad M10 o1 ho1 v2 (v9 / 6) (jrem v9 6) 14 (by decide) 14 (by decide)) (As := [.int v2, .int (v9 / 6), .int (jrem v9 6), .ref (ad (iF 14)), .ref (ad (iF 14))]) rfl dX0_makeMore_91 rfl hl.1 (Nat.le_of_ble_eq_true rfl) ⟨Nat.le_of_ble_eq_true rfl, Nat.le_of_ble_eq_true rfl⟩ ⟨Nat.le_of_ble_eq_true rfl, Nat.le_of_ble_eq_true rfl⟩) ⟨rfl, rfl⟩ (fun v17 H locs hH => ?_)
              refine kb_if_eq (tgt := 108) hx hb dX0_makeMore_94 (by decide) (fun _ => ?_) (fun _ => ?_)
              · refine W_nm (fun v18 ev18 => ?_)
                refine lv_iinc (v := v18) (lv' := [(6, .int v18), (7, .int v14), (5, .int v6), (0, .ref (ad 112)), (1, .ref (ad (iR o1))), (2, .int a2), (4, .int v2), (3, .int v8)]) hx hb dX0_makeMore_108 hl (k := 7) rfl (by rw [ev18]; rfl) (by decide) rfl (fun ls hl => ?_)
                refine lv_goto (tgt := 41) hx hb dX0_makeMore_111 (by decide) ?_
                exact hrec41 (v8, v18, M10) _ _ _ hH (lv_sub hl [2, 3, 4, 5, 6, 7, 0] rfl)
              · refine lv_aload_n hx hb dX0_makeMore_97 rfl (lv_at hl 2 rfl) ?_
                refine k_get C hH fd_X0_12 oA (k_ref (M := M10) (ad := ad) rA0) dX0_makeMore_98 ?_
                refine lv_iload hx hb dX0_makeMore_101 (lv_at hl 0 rfl) ?_
                refine kg_v C hH (kc_V C hH w_2_177 lc_yX2_put li_yX2_put (oF (f := 14) (by decide)) (kX2_put l E ad M10 14 (by decide) v14) (As := [.int v14]) rfl dX0_makeMore_103 rfl hl.1 (Nat.le_of_ble_eq_true rfl) ⟨Nat.le_of_ble_eq_true rfl, Nat.le_of_ble_eq_true rfl⟩ ⟨Nat.le_of_ble_eq_true rfl, Nat.le_of_ble_eq_true rfl⟩) ⟨rfl, rfl⟩ (fun M19 H locs hH => ?_)
                refine lv_iconst (v := 1) hx hb dX0_makeMore_106 (by decide) ?_
                refine lv_istore_n (lv' := [(3, .int 1), (7, .int v14), (5, .int v6), (0, .ref (ad 112)), (1, .ref (ad (iR o1))), (2, .int a2), (4, .int v2), (6, .int v9)]) hx hb dX0_makeMore_107 rfl hl (by decide) rfl (fun ls hl => ?_)
                refine W_nm (fun v20 ev20 => ?_)
                refine lv_iinc (v := v20) (lv' := [(6, .int v20), (3, .int 1), (7, .int v14), (5, .int v6), (0, .ref (ad 112)), (1, .ref (ad (iR o1))), (2, .int a2), (4, .int v2)]) hx hb dX0_makeMore_108 hl (k := 7) rfl (by rw [ev20]; rfl) (by decide) rfl (fun ls hl => ?_)
                refine lv_goto (tgt := 41) hx hb dX0_makeMore_111 (by decide) ?_
                exact hrec41 (1, v20, M19) _ _ _ hH (lv_sub hl [3, 4, 5, 6, 7, 1, 0] rfl)
      · refine lv_goto (tgt := 114) hx hb dX0_makeMore_35 (by decide) ?_
        refine W_nm (fun v21 ev21 => ?_)
        refine lv_iinc (v := v21) (lv' := [(4, .int v21), (5, .int v6), (0, .ref (ad 112)), (1, .ref (ad (iR o1))), (2, .int a2), (3, .int v1)]) hx hb dX0_makeMore_114 hl (k := 5) rfl (by rw [ev21]; rfl) (by decide) rfl (fun ls hl => ?_)
        refine lv_goto (tgt := 5) hx hb dX0_makeMore_117 (by decide) ?_
        exact hrec5 (v1, v21, M3) _ _ _ hH (lv_sub hl [2, 3, 4, 5, 0] rfl)
def fX0_deriveAll_X23 (M6 : KS) : Option (KS) := some M6
theorem fX0_deriveAll_X23_u {M6 : KS} : fX0_deriveAll_X23 M6 = some M6 := rfl
def fX0_deriveAll_X31 (v4 : Int32) (rec23 : (Int32 × KS) → Option (KS)) (M9 : KS) : Option (KS) := nm (v4 + 1) fun v10 => rec23 (v10, M9)
theorem fX0_deriveAll_X31_u {v4 : Int32} {rec23 : (Int32 × KS) → Option (KS)} {M9 : KS} : fX0_deriveAll_X31 v4 rec23 M9 = nm (v4 + 1) fun v10 => rec23 (v10, M9) := rfl
def fX0_deriveAll_L31 (o1 : Nat) (v4 : Int32) (rec31 : (Int32 × KS) → Option (KS)) (k31 : (KS) → Option (KS)) (x : Int32 × KS) : Option (KS) := match x with | (v7, M8) => (if 216 < v7 then k31 M8 else bd2 (fX0_makeMore M8 o1 v4) fun v12 M11 => (if v12 = 0 then k31 M11 else nm (v7 + 1) fun v13 => rec31 (v13, M11)))
theorem fX0_deriveAll_L31_u {o1 : Nat} {v4 : Int32} {rec31 : (Int32 × KS) → Option (KS)} {k31 : (KS) → Option (KS)} {v7 : Int32} {M8 : KS} : fX0_deriveAll_L31 o1 v4 rec31 k31 (v7, M8) = (if 216 < v7 then k31 M8 else bd2 (fX0_makeMore M8 o1 v4) fun v12 M11 => (if v12 = 0 then k31 M11 else nm (v7 + 1) fun v13 => rec31 (v13, M11))) := rfl
def fX0_deriveAll_L23 (o1 : Nat) (v3 : Int32) (rec23 : (Int32 × KS) → Option (KS)) (k23 : (KS) → Option (KS)) (x : Int32 × KS) : Option (KS) := match x with | (v4, M5) => (if v3 ≤ v4 then k23 M5 else lp (fX0_deriveAll_L31 o1 v4) (fX0_deriveAll_X31 v4 rec23) 1000000 (0, M5))
theorem fX0_deriveAll_L23_u {o1 : Nat} {v3 : Int32} {rec23 : (Int32 × KS) → Option (KS)} {k23 : (KS) → Option (KS)} {v4 : Int32} {M5 : KS} : fX0_deriveAll_L23 o1 v3 rec23 k23 (v4, M5) = (if v3 ≤ v4 then k23 M5 else lp (fX0_deriveAll_L31 o1 v4) (fX0_deriveAll_X31 v4 rec23) 1000000 (0, M5)) := rfl
def fX0_deriveAll (M : KS) (o1 : Nat) : Option (KS) := bd2 (fX3_arrange M 1 o1 (M.1 (iR o1) 3)) fun v2 M1 => (fX3_count M1 1).bind fun v3 => lp (fX0_deriveAll_L23 o1 v3) (fX0_deriveAll_X23) 1000000 (0, M1)
set_option maxHeartbeats 4000000 in
set_option maxRecDepth 100000 in
theorem kX0_deriveAll (l : Launch) (E : KE) (ad : Nat → Nat) (M : KS) (o1 : Nat) (ho1 : o1 < 11) : CT l yX0_deriveAll cX0_deriveAll 5 none { frames := 4, cells := 0, slots := 0, locals := 109 } SK E ad [.ref (ad 112), .ref (ad (iR o1))] M (QV SK E ad) (fX0_deriveAll M o1) := by
  refine CT.ofW (by decide) (Nat.le_of_ble_eq_true rfl) (fun sz p e s m args below meth c C hr hH ls hl => ?_)
  have hx := C.1.1
  have hb := C.1.2.1
  have hl : lv_has ls 5 [(0, .ref (ad 112)), (1, .ref (ad (iR o1)))] := hl
  unfold fX0_deriveAll
  refine lv_aload_n hx hb dX0_deriveAll_0 rfl (lv_at hl 0 rfl) ?_
  refine k_get C hH fd_X0_21 oA (k_ref (M := M) (ad := ad) rA1) dX0_deriveAll_1 ?_
  refine lv_aload_n hx hb dX0_deriveAll_4 rfl (lv_at hl 1 rfl) ?_
  refine lv_aload_n hx hb dX0_deriveAll_5 rfl (lv_at hl 1 rfl) ?_
  refine k_getN C hH fn_X0_44 (oR (f := o1) ho1) (k_int (M := M) (ad := ad) (nR3 (f := o1) ho1)) dX0_deriveAll_6 ?_
  refine kg_ib C hH (kc_V C hH w_2_167 lc_yX3_arrange li_yX3_arrange (oY (f := 1) (by decide)) (kX3_arrange l E ad M 1 (by decide) o1 ho1 (M.1 (iR o1) 3)) (As := [.ref (ad (iR o1)), .int (M.1 (iR o1) 3)]) rfl dX0_deriveAll_9 rfl hl.1 (Nat.le_of_ble_eq_true rfl) ⟨Nat.le_of_ble_eq_true rfl, Nat.le_of_ble_eq_true rfl⟩ ⟨Nat.le_of_ble_eq_true rfl, Nat.le_of_ble_eq_true rfl⟩) ⟨rfl, rfl⟩ (fun v2 M1 H locs hH => ?_)
  refine lv_pop hx hb dX0_deriveAll_12 rfl ?_
  refine lv_aload_n hx hb dX0_deriveAll_13 rfl (lv_at hl 0 rfl) ?_
  refine k_get C hH fd_X0_21 oA (k_ref (M := M1) (ad := ad) rA1) dX0_deriveAll_14 ?_
  refine kg_io C hH (kc_V C hH w_2_168 lc_yX3_count li_yX3_count (oY (f := 1) (by decide)) (kX3_count l E ad M1 1 (by decide)) (As := []) rfl dX0_deriveAll_17 rfl hl.1 (Nat.le_of_ble_eq_true rfl) ⟨Nat.le_of_ble_eq_true rfl, Nat.le_of_ble_eq_true rfl⟩ ⟨Nat.le_of_ble_eq_true rfl, Nat.le_of_ble_eq_true rfl⟩) ⟨rfl, rfl⟩ (fun v3 H locs hH => ?_)
  refine lv_istore_n (lv' := [(2, .int v3), (0, .ref (ad 112)), (1, .ref (ad (iR o1)))]) hx hb dX0_deriveAll_20 rfl hl (by decide) rfl (fun ls hl => ?_)
  refine lv_iconst (v := 0) hx hb dX0_deriveAll_21 (by decide) ?_
  refine lv_istore_n (lv' := [(3, .int 0), (2, .int v3), (0, .ref (ad 112)), (1, .ref (ad (iR o1)))]) hx hb dX0_deriveAll_22 rfl hl (by decide) rfl (fun ls hl => ?_)
  refine W_lp (fun (x : Int32 × KS) H locs => KH SK E ad sz x.2 s.heap H locs) (fun x ls => lv_has ls 5 [(2, .int v3), (0, .ref (ad 112)), (1, .ref (ad (iR o1))), (3, .int x.1)]) (fun _ ls => F0 m 23 ls []) (fun (x : KS) H locs => KH SK E ad sz x s.heap H locs) (fun x ls => lv_has ls 5 []) (fun _ ls => F0 m 63 ls []) ?_ ?_ hH (lv_sub hl [1, 2, 3, 0] rfl)
  · intro M6 H locs ls hH hl
    have hH : KH SK E ad sz M6 s.heap H locs := hH
    have hl : lv_has ls 5 [] := hl
    refine W_q fX0_deriveAll_X23_u ?_
    exact ke_v C hH hr (Nat.le_refl _) (Nat.le_refl _) rfl dX0_deriveAll_63
  · intro rec23 k23 hrec23 hk23 ⟨v4, M5⟩ H locs ls hH hl
    have hH : KH SK E ad sz M5 s.heap H locs := hH
    have hl : lv_has ls 5 [(2, .int v3), (0, .ref (ad 112)), (1, .ref (ad (iR o1))), (3, .int v4)] := hl
    refine W_q fX0_deriveAll_L23_u ?_
    refine lv_iload_n hx hb dX0_deriveAll_23 rfl (lv_at hl 3 rfl) ?_
    refine lv_iload_n hx hb dX0_deriveAll_24 rfl (lv_at hl 0 rfl) ?_
    refine kb_icmp_ge (tgt := 63) hx hb dX0_deriveAll_25 (by decide) (fun _ => ?_) (fun _ => ?_)
    · exact hk23 M5 _ _ _ hH (lv_sub hl [] rfl)
    · refine lv_iconst (v := 0) hx hb dX0_deriveAll_28 (by decide) ?_
      refine lv_istore (lv' := [(4, .int 0), (2, .int v3), (0, .ref (ad 112)), (1, .ref (ad (iR o1))), (3, .int v4)]) hx hb dX0_deriveAll_29 hl (by decide) rfl (fun ls hl => ?_)
      refine W_lp (fun (x : Int32 × KS) H locs => KH SK E ad sz x.2 s.heap H locs) (fun x ls => lv_has ls 5 [(2, .int v3), (0, .ref (ad 112)), (1, .ref (ad (iR o1))), (3, .int v4), (4, .int x.1)]) (fun _ ls => F0 m 31 ls []) (fun (x : KS) H locs => KH SK E ad sz x s.heap H locs) (fun x ls => lv_has ls 5 [(2, .int v3), (0, .ref (ad 112)), (1, .ref (ad (iR o1))), (3, .int v4)]) (fun _ ls => F0 m 57 ls []) ?_ ?_ hH (lv_sub hl [1, 2, 3, 4, 0] rfl)
      · intro M9 H locs ls hH hl
        have hH : KH SK E ad sz M9 s.heap H locs := hH
        have hl : lv_has ls 5 [(2, .int v3), (0, .ref (ad 112)), (1, .ref (ad (iR o1))), (3, .int v4)] := hl
        refine W_q fX0_deriveAll_X31_u ?_
        refine W_nm (fun v10 ev10 => ?_)
        refine lv_iinc (v := v10) (lv' := [(3, .int v10), (2, .int v3), (0, .ref (ad 112)), (1, .ref (ad (iR o1)))]) hx hb dX0_deriveAll_57 hl (k := 3) rfl (by rw [ev10]; rfl) (by decide) rfl (fun ls hl => ?_)
        refine lv_goto (tgt := 23) hx hb dX0_deriveAll_60 (by decide) ?_
        exact hrec23 (v10, M9) _ _ _ hH (lv_sub hl [1, 2, 3, 0] rfl)
      · intro rec31 k31 hrec31 hk31 ⟨v7, M8⟩ H locs ls hH hl
        have hH : KH SK E ad sz M8 s.heap H locs := hH
        have hl : lv_has ls 5 [(2, .int v3), (0, .ref (ad 112)), (1, .ref (ad (iR o1))), (3, .int v4), (4, .int v7)] := hl
        refine W_q fX0_deriveAll_L31_u ?_
        refine lv_iload hx hb dX0_deriveAll_31 (lv_at hl 4 rfl) ?_
        refine lv_sipush (v := 216) hx hb dX0_deriveAll_33 (by decide) ?_
        refine kb_icmp_gt (tgt := 57) hx hb dX0_deriveAll_36 (by decide) (fun _ => ?_) (fun _ => ?_)
        · exact hk31 M8 _ _ _ hH (lv_sub hl [0, 1, 2, 3] rfl)
        · refine lv_aload_n hx hb dX0_deriveAll_39 rfl (lv_at hl 1 rfl) ?_
          refine lv_aload_n hx hb dX0_deriveAll_40 rfl (lv_at hl 2 rfl) ?_
          refine lv_iload_n hx hb dX0_deriveAll_41 rfl (lv_at hl 3 rfl) ?_
          refine kg_ib C hH (kc_V C hH w_2_169 lc_yX0_makeMore li_yX0_makeMore oA (kX0_makeMore l E ad M8 o1 ho1 v4) (As := [.ref (ad (iR o1)), .int v4]) rfl dX0_deriveAll_42 rfl hl.1 (Nat.le_of_ble_eq_true rfl) ⟨Nat.le_of_ble_eq_true rfl, Nat.le_of_ble_eq_true rfl⟩ ⟨Nat.le_of_ble_eq_true rfl, Nat.le_of_ble_eq_true rfl⟩) ⟨rfl, rfl⟩ (fun v12 M11 H locs hH => ?_)
          refine kb_if_ne (tgt := 51) hx hb dX0_deriveAll_45 (by decide) (fun _ => ?_) (fun _ => ?_)
          · refine W_nm (fun v13 ev13 => ?_)
            refine lv_iinc (v := v13) (lv' := [(4, .int v13), (2, .int v3), (0, .ref (ad 112)), (1, .ref (ad (iR o1))), (3, .int v4)]) hx hb dX0_deriveAll_51 hl (k := 4) rfl (by rw [ev13]; rfl) (by decide) rfl (fun ls hl => ?_)
            refine lv_goto (tgt := 31) hx hb dX0_deriveAll_54 (by decide) ?_
            exact hrec31 (v13, M11) _ _ _ hH (lv_sub hl [1, 2, 3, 4, 0] rfl)
          · refine lv_goto (tgt := 57) hx hb dX0_deriveAll_48 (by decide) ?_
            exact hk31 M11 _ _ _ hH (lv_sub hl [0, 1, 2, 3] rfl)
def fX0_deriveFrom (M : KS) (o1 : Nat) (o2 : Nat) : Option (KS) := (fX2_copy M 14 o1).bind fun M1 => (fX0_deriveAll M1 o2).bind fun M2 => some M2
set_option maxHeartbeats 4000000 in
set_option maxRecDepth 100000 in
theorem kX0_deriveFrom (l : Launch) (E : KE) (ad : Nat → Nat) (M : KS) (o1 : Nat) (ho1 : o1 < 15) (o2 : Nat) (ho2 : o2 < 11) : CT l yX0_deriveFrom cX0_deriveFrom 3 (some (.object "KinFacts$Facts")) { frames := 5, cells := 0, slots := 0, locals := 133 } SK E ad [.ref (ad 112), .ref (ad (iF o1)), .ref (ad (iR o2))] M (QR SK E ad (iF 14)) (fX0_deriveFrom M o1 o2) := by
  refine CT.ofW (by decide) (Nat.le_of_ble_eq_true rfl) (fun sz p e s m args below meth c C hr hH ls hl => ?_)
  have hx := C.1.1
  have hb := C.1.2.1
  have hl : lv_has ls 3 [(0, .ref (ad 112)), (1, .ref (ad (iF o1))), (2, .ref (ad (iR o2)))] := hl
  unfold fX0_deriveFrom
  refine lv_aload_n hx hb dX0_deriveFrom_0 rfl (lv_at hl 0 rfl) ?_
  refine k_get C hH fd_X0_12 oA (k_ref (M := M) (ad := ad) rA0) dX0_deriveFrom_1 ?_
  refine lv_aload_n hx hb dX0_deriveFrom_4 rfl (lv_at hl 1 rfl) ?_
  refine kg_v C hH (kc_V C hH w_2_162 lc_yX2_copy li_yX2_copy (oF (f := 14) (by decide)) (kX2_copy l E ad M 14 (by decide) o1 ho1) (As := [.ref (ad (iF o1))]) rfl dX0_deriveFrom_5 rfl hl.1 (Nat.le_of_ble_eq_true rfl) ⟨Nat.le_of_ble_eq_true rfl, Nat.le_of_ble_eq_true rfl⟩ ⟨Nat.le_of_ble_eq_true rfl, Nat.le_of_ble_eq_true rfl⟩) ⟨rfl, rfl⟩ (fun M1 H locs hH => ?_)
  refine lv_aload_n hx hb dX0_deriveFrom_8 rfl (lv_at hl 0 rfl) ?_
  refine lv_aload_n hx hb dX0_deriveFrom_9 rfl (lv_at hl 2 rfl) ?_
  refine kg_v C hH (kc_V C hH w_2_163 lc_yX0_deriveAll li_yX0_deriveAll oA (kX0_deriveAll l E ad M1 o2 ho2) (As := [.ref (ad (iR o2))]) rfl dX0_deriveFrom_10 rfl hl.1 (Nat.le_of_ble_eq_true rfl) ⟨Nat.le_of_ble_eq_true rfl, Nat.le_of_ble_eq_true rfl⟩ ⟨Nat.le_of_ble_eq_true rfl, Nat.le_of_ble_eq_true rfl⟩) ⟨rfl, rfl⟩ (fun M2 H locs hH => ?_)
  refine lv_aload_n hx hb dX0_deriveFrom_13 rfl (lv_at hl 0 rfl) ?_
  refine k_get C hH fd_X0_12 oA (k_ref (M := M2) (ad := ad) rA0) dX0_deriveFrom_14 ?_
  exact ke_r C hH hr (Or.inl ⟨_, rfl⟩) (Nat.le_refl _) (Nat.le_refl _) rfl dX0_deriveFrom_17
def fX1_sizeOf_X17 (v3 : Int32) : Option (Int32) := some v3
theorem fX1_sizeOf_X17_u {v3 : Int32} : fX1_sizeOf_X17 v3 = some v3 := rfl
def fX1_sizeOf_L17 (M : KS) (a1 : Int32) (rec17 : (Int32 × Int32) → Option (Int32)) (k17 : (Int32) → Option (Int32)) (x : Int32 × Int32) : Option (Int32) := match x with | (v1, v2) => (if 6 ≤ v2 then k17 v1 else if inb ((6 * a1) + v2) 1296 then nm ((v1 + (fJ13_bitCount_95d88 (M.2 ((6 * a1) + v2).toNatClampNeg)))) fun v4 => nm (v2 + 1) fun v5 => rec17 (v4, v5) else none)
theorem fX1_sizeOf_L17_u {M : KS} {a1 : Int32} {rec17 : (Int32 × Int32) → Option (Int32)} {k17 : (Int32) → Option (Int32)} {v1 : Int32} {v2 : Int32} : fX1_sizeOf_L17 M a1 rec17 k17 (v1, v2) = (if 6 ≤ v2 then k17 v1 else if inb ((6 * a1) + v2) 1296 then nm ((v1 + (fJ13_bitCount_95d88 (M.2 ((6 * a1) + v2).toNatClampNeg)))) fun v4 => nm (v2 + 1) fun v5 => rec17 (v4, v5) else none) := rfl
def fX1_sizeOf (M : KS) (a1 : Int32) : Option (Int32) := (if a1 < 0 then some 0 else (if a1 < 216 then lp (fX1_sizeOf_L17 M a1) (fX1_sizeOf_X17) 1000000 (0, 0) else some 0))
set_option maxHeartbeats 4000000 in
set_option maxRecDepth 100000 in
theorem kX1_sizeOf (l : Launch) (E : KE) (ad : Nat → Nat) (M : KS) (a1 : Int32) : CT l yX1_sizeOf cX1_sizeOf 4 (some .int) { frames := 1, cells := 0, slots := 0, locals := 21 } SK E ad [.ref (ad 106), .int a1] M (fun sz a => QI SK E ad sz (a, M)) (fX1_sizeOf M a1) := by
  refine CT.ofW (by decide) (Nat.le_of_ble_eq_true rfl) (fun sz p e s m args below meth c C hr hH ls hl => ?_)
  have hx := C.1.1
  have hb := C.1.2.1
  have hl : lv_has ls 4 [(0, .ref (ad 106)), (1, .int a1)] := hl
  unfold fX1_sizeOf
  refine lv_iload_n hx hb dX1_sizeOf_0 rfl (lv_at hl 1 rfl) ?_
  refine kb_if_lt (tgt := 11) hx hb dX1_sizeOf_1 (by decide) (fun _ => ?_) (fun _ => ?_)
  · refine lv_iconst (v := 0) hx hb dX1_sizeOf_11 (by decide) ?_
    exact ke_i C hH hr (Nat.le_refl _) (Nat.le_refl _) rfl dX1_sizeOf_12
  · refine lv_iload_n hx hb dX1_sizeOf_4 rfl (lv_at hl 1 rfl) ?_
    refine lv_sipush (v := 216) hx hb dX1_sizeOf_5 (by decide) ?_
    refine kb_icmp_lt (tgt := 13) hx hb dX1_sizeOf_8 (by decide) (fun _ => ?_) (fun _ => ?_)
    · refine lv_iconst (v := 0) hx hb dX1_sizeOf_13 (by decide) ?_
      refine lv_istore_n (lv' := [(2, .int 0), (0, .ref (ad 106)), (1, .int a1)]) hx hb dX1_sizeOf_14 rfl hl (by decide) rfl (fun ls hl => ?_)
      refine lv_iconst (v := 0) hx hb dX1_sizeOf_15 (by decide) ?_
      refine lv_istore_n (lv' := [(3, .int 0), (2, .int 0), (0, .ref (ad 106)), (1, .int a1)]) hx hb dX1_sizeOf_16 rfl hl (by decide) rfl (fun ls hl => ?_)
      refine W_lp (fun (x : Int32 × Int32) H locs => KH SK E ad sz M s.heap H locs) (fun x ls => lv_has ls 4 [(0, .ref (ad 106)), (1, .int a1), (2, .int x.1), (3, .int x.2)]) (fun _ ls => F0 m 17 ls []) (fun (x : Int32) H locs => KH SK E ad sz M s.heap H locs) (fun x ls => lv_has ls 4 [(2, .int x)]) (fun _ ls => F0 m 46 ls []) ?_ ?_ hH (lv_sub hl [2, 3, 1, 0] rfl)
      · intro v3 H locs ls hH hl
        have hH : KH SK E ad sz M s.heap H locs := hH
        have hl : lv_has ls 4 [(2, .int v3)] := hl
        refine W_q fX1_sizeOf_X17_u ?_
        refine lv_iload_n hx hb dX1_sizeOf_46 rfl (lv_at hl 0 rfl) ?_
        exact ke_i C hH hr (Nat.le_refl _) (Nat.le_refl _) rfl dX1_sizeOf_47
      · intro rec17 k17 hrec17 hk17 ⟨v1, v2⟩ H locs ls hH hl
        have hH : KH SK E ad sz M s.heap H locs := hH
        have hl : lv_has ls 4 [(0, .ref (ad 106)), (1, .int a1), (2, .int v1), (3, .int v2)] := hl
        refine W_q fX1_sizeOf_L17_u ?_
        refine lv_iload_n hx hb dX1_sizeOf_17 rfl (lv_at hl 3 rfl) ?_
        refine lv_bipush (v := 6) hx hb dX1_sizeOf_18 (by decide) ?_
        refine kb_icmp_ge (tgt := 46) hx hb dX1_sizeOf_20 (by decide) (fun _ => ?_) (fun _ => ?_)
        · exact hk17 v1 _ _ _ hH (lv_sub hl [2] rfl)
        · refine lv_iload_n hx hb dX1_sizeOf_23 rfl (lv_at hl 2 rfl) ?_
          refine lv_aload_n hx hb dX1_sizeOf_24 rfl (lv_at hl 0 rfl) ?_
          refine k_get C hH fd_X1_44 oD (k_ref (M := M) (ad := ad) rD8) dX1_sizeOf_25 ?_
          refine lv_bipush (v := 6) hx hb dX1_sizeOf_28 (by decide) ?_
          refine lv_iload_n hx hb dX1_sizeOf_30 rfl (lv_at hl 1 rfl) ?_
          refine lv_imul hx hb dX1_sizeOf_31 ?_
          refine lv_iload_n hx hb dX1_sizeOf_32 rfl (lv_at hl 3 rfl) ?_
          refine lv_iadd hx hb dX1_sizeOf_33 ?_
          refine k_lald C hH aD8 dX1_sizeOf_34 ?_
          refine kg_ip C hH (kc_S2 C hH w_3_210 w_st_yJ13_bitCount_95d88 lc_yJ13_bitCount_95d88 (kJ13_bitCount_95d88 l E ad M (M.2 ((6 * a1) + v2).toNatClampNeg)) (As := [.long (M.2 ((6 * a1) + v2).toNatClampNeg)]) rfl dX1_sizeOf_35 rfl hl.1 (Nat.le_of_ble_eq_true rfl) ⟨Nat.le_of_ble_eq_true rfl, Nat.le_of_ble_eq_true rfl⟩ ⟨Nat.le_of_ble_eq_true rfl, Nat.le_of_ble_eq_true rfl⟩) ⟨rfl, rfl⟩ (fun H locs hH => ?_)
          refine lv_iadd hx hb dX1_sizeOf_38 ?_
          refine W_nmi (fun v4 => ?_)
          refine lv_istore_n (lv' := [(2, .int v4), (0, .ref (ad 106)), (1, .int a1), (3, .int v2)]) hx hb dX1_sizeOf_39 rfl hl (by decide) rfl (fun ls hl => ?_)
          refine W_nm (fun v5 ev5 => ?_)
          refine lv_iinc (v := v5) (lv' := [(3, .int v5), (2, .int v4), (0, .ref (ad 106)), (1, .int a1)]) hx hb dX1_sizeOf_40 hl (k := 3) rfl (by rw [ev5]; rfl) (by decide) rfl (fun ls hl => ?_)
          refine lv_goto (tgt := 17) hx hb dX1_sizeOf_43 (by decide) ?_
          exact hrec17 (v4, v5) _ _ _ hH (lv_sub hl [2, 3, 1, 0] rfl)
    · refine lv_iconst (v := 0) hx hb dX1_sizeOf_11 (by decide) ?_
      exact ke_i C hH hr (Nat.le_refl _) (Nat.le_refl _) rfl dX1_sizeOf_12
def fX1_needs_J51_39 (v1 : Int32) (v2 : Int32) (v3 : Int32) (v5 : Int32) : Option (Int32) := (if v3 < 0 then some v5 else (if v3 = v1 then some v5 else (if v3 = v2 then some v5 else nm (v5 + 1) fun v6 => some v6)))
theorem fX1_needs_J51_39_u {v1 : Int32} {v2 : Int32} {v3 : Int32} {v5 : Int32} : fX1_needs_J51_39 v1 v2 v3 v5 = (if v3 < 0 then some v5 else (if v3 = v1 then some v5 else (if v3 = v2 then some v5 else nm (v5 + 1) fun v6 => some v6))) := rfl
def fX1_needs_J35_27 (v1 : Int32) (v2 : Int32) (v3 : Int32) (v4 : Int32) : Option (Int32) := jn (fX1_needs_J51_39 v1 v2 v3) (fun K51_39 => (if v2 < 0 then K51_39 v4 else (if v2 = v1 then K51_39 v4 else nm (v4 + 1) fun v7 => K51_39 v7)))
theorem fX1_needs_J35_27_u {v1 : Int32} {v2 : Int32} {v3 : Int32} {v4 : Int32} : fX1_needs_J35_27 v1 v2 v3 v4 = jn (fX1_needs_J51_39 v1 v2 v3) (fun K51_39 => (if v2 < 0 then K51_39 v4 else (if v2 = v1 then K51_39 v4 else nm (v4 + 1) fun v7 => K51_39 v7))) := rfl
def fX1_needs (M : KS) (o1 : Nat) (a2 : Int32) : Option (Int32) := (fX1_need M o1 a2 0).bind fun v1 => (fX1_need M o1 a2 1).bind fun v2 => (fX1_need M o1 a2 2).bind fun v3 => jn (fX1_needs_J35_27 v1 v2 v3) (fun K35_27 => (if v1 < 0 then K35_27 0 else K35_27 1))
set_option maxHeartbeats 4000000 in
set_option maxRecDepth 100000 in
theorem kX1_needs (l : Launch) (E : KE) (ad : Nat → Nat) (M : KS) (o1 : Nat) (ho1 : o1 < 11) (a2 : Int32) : CT l yX1_needs cX1_needs 7 (some .int) { frames := 2, cells := 0, slots := 0, locals := 48 } SK E ad [.ref (ad 106), .ref (ad (iR o1)), .int a2] M (fun sz a => QI SK E ad sz (a, M)) (fX1_needs M o1 a2) := by
  refine CT.ofW (by decide) (Nat.le_of_ble_eq_true rfl) (fun sz p e s m args below meth c C hr hH ls hl => ?_)
  have hx := C.1.1
  have hb := C.1.2.1
  have hl : lv_has ls 7 [(0, .ref (ad 106)), (1, .ref (ad (iR o1))), (2, .int a2)] := hl
  unfold fX1_needs
  refine lv_aload_n hx hb dX1_needs_0 rfl (lv_at hl 0 rfl) ?_
  refine lv_aload_n hx hb dX1_needs_1 rfl (lv_at hl 1 rfl) ?_
  refine lv_iload_n hx hb dX1_needs_2 rfl (lv_at hl 2 rfl) ?_
  refine lv_iconst (v := 0) hx hb dX1_needs_3 (by decide) ?_
  refine kg_io C hH (kc_V C hH w_2_130 lc_yX1_need li_yX1_need oD (kX1_need l E ad M o1 ho1 a2 0) (As := [.ref (ad (iR o1)), .int a2, .int 0]) rfl dX1_needs_4 rfl hl.1 (Nat.le_of_ble_eq_true rfl) ⟨Nat.le_of_ble_eq_true rfl, Nat.le_of_ble_eq_true rfl⟩ ⟨Nat.le_of_ble_eq_true rfl, Nat.le_of_ble_eq_true rfl⟩) ⟨rfl, rfl⟩ (fun v1 H locs hH => ?_)
  refine lv_istore_n (lv' := [(3, .int v1), (0, .ref (ad 106)), (1, .ref (ad (iR o1))), (2, .int a2)]) hx hb dX1_needs_7 rfl hl (by decide) rfl (fun ls hl => ?_)
  refine lv_aload_n hx hb dX1_needs_8 rfl (lv_at hl 1 rfl) ?_
  refine lv_aload_n hx hb dX1_needs_9 rfl (lv_at hl 2 rfl) ?_
  refine lv_iload_n hx hb dX1_needs_10 rfl (lv_at hl 3 rfl) ?_
  refine lv_iconst (v := 1) hx hb dX1_needs_11 (by decide) ?_
  refine kg_io C hH (kc_V C hH w_2_130 lc_yX1_need li_yX1_need oD (kX1_need l E ad M o1 ho1 a2 1) (As := [.ref (ad (iR o1)), .int a2, .int 1]) rfl dX1_needs_12 rfl hl.1 (Nat.le_of_ble_eq_true rfl) ⟨Nat.le_of_ble_eq_true rfl, Nat.le_of_ble_eq_true rfl⟩ ⟨Nat.le_of_ble_eq_true rfl, Nat.le_of_ble_eq_true rfl⟩) ⟨rfl, rfl⟩ (fun v2 H locs hH => ?_)
  refine lv_istore (lv' := [(4, .int v2), (3, .int v1), (0, .ref (ad 106)), (1, .ref (ad (iR o1))), (2, .int a2)]) hx hb dX1_needs_15 hl (by decide) rfl (fun ls hl => ?_)
  refine lv_aload_n hx hb dX1_needs_17 rfl (lv_at hl 2 rfl) ?_
  refine lv_aload_n hx hb dX1_needs_18 rfl (lv_at hl 3 rfl) ?_
  refine lv_iload_n hx hb dX1_needs_19 rfl (lv_at hl 4 rfl) ?_
  refine lv_iconst (v := 2) hx hb dX1_needs_20 (by decide) ?_
  refine kg_io C hH (kc_V C hH w_2_130 lc_yX1_need li_yX1_need oD (kX1_need l E ad M o1 ho1 a2 2) (As := [.ref (ad (iR o1)), .int a2, .int 2]) rfl dX1_needs_21 rfl hl.1 (Nat.le_of_ble_eq_true rfl) ⟨Nat.le_of_ble_eq_true rfl, Nat.le_of_ble_eq_true rfl⟩ ⟨Nat.le_of_ble_eq_true rfl, Nat.le_of_ble_eq_true rfl⟩) ⟨rfl, rfl⟩ (fun v3 H locs hH => ?_)
  refine lv_istore (lv' := [(5, .int v3), (4, .int v2), (3, .int v1), (0, .ref (ad 106)), (1, .ref (ad (iR o1))), (2, .int a2)]) hx hb dX1_needs_24 hl (by decide) rfl (fun ls hl => ?_)
  refine lv_iload_n hx hb dX1_needs_26 rfl (lv_at hl 2 rfl) ?_
  refine W_jn (fun (x : Int32) H locs => KH SK E ad sz M s.heap H locs) (fun x ls => lv_has ls 7 [(5, .int v3), (4, .int v2), (3, .int v1)]) (fun x ls => F0 m 35 ls [.int x]) ?_ (fun K35_27 hK35_27 => ?_)
  · intro v4 H locs ls hH hl
    have hH : KH SK E ad sz M s.heap H locs := hH
    have hl : lv_has ls 7 [(5, .int v3), (4, .int v2), (3, .int v1)] := hl
    refine W_q fX1_needs_J35_27_u ?_
    refine lv_istore (lv' := [(6, .int v4), (5, .int v3), (4, .int v2), (3, .int v1)]) hx hb dX1_needs_35 hl (by decide) rfl (fun ls hl => ?_)
    refine lv_iload hx hb dX1_needs_37 (lv_at hl 2 rfl) ?_
    refine W_jn (fun (x : Int32) H locs => KH SK E ad sz M s.heap H locs) (fun x ls => lv_has ls 7 [(5, .int v3), (4, .int v2), (3, .int v1), (6, .int x)]) (fun x ls => F0 m 51 ls []) ?_ (fun K51_39 hK51_39 => ?_)
    · intro v5 H locs ls hH hl
      have hH : KH SK E ad sz M s.heap H locs := hH
      have hl : lv_has ls 7 [(5, .int v3), (4, .int v2), (3, .int v1), (6, .int v5)] := hl
      refine W_q fX1_needs_J51_39_u ?_
      refine lv_iload hx hb dX1_needs_51 (lv_at hl 0 rfl) ?_
      refine kb_if_lt (tgt := 72) hx hb dX1_needs_53 (by decide) (fun _ => ?_) (fun _ => ?_)
      · refine lv_iload hx hb dX1_needs_72 (lv_at hl 3 rfl) ?_
        exact ke_i C hH hr (Nat.le_refl _) (Nat.le_refl _) rfl dX1_needs_74
      · refine lv_iload hx hb dX1_needs_56 (lv_at hl 0 rfl) ?_
        refine lv_iload_n hx hb dX1_needs_58 rfl (lv_at hl 2 rfl) ?_
        refine kb_icmp_eq (tgt := 72) hx hb dX1_needs_59 (by decide) (fun _ => ?_) (fun _ => ?_)
        · refine lv_iload hx hb dX1_needs_72 (lv_at hl 3 rfl) ?_
          exact ke_i C hH hr (Nat.le_refl _) (Nat.le_refl _) rfl dX1_needs_74
        · refine lv_iload hx hb dX1_needs_62 (lv_at hl 0 rfl) ?_
          refine lv_iload hx hb dX1_needs_64 (lv_at hl 1 rfl) ?_
          refine kb_icmp_eq (tgt := 72) hx hb dX1_needs_66 (by decide) (fun _ => ?_) (fun _ => ?_)
          · refine lv_iload hx hb dX1_needs_72 (lv_at hl 3 rfl) ?_
            exact ke_i C hH hr (Nat.le_refl _) (Nat.le_refl _) rfl dX1_needs_74
          · refine W_nm (fun v6 ev6 => ?_)
            refine lv_iinc (v := v6) (lv' := [(6, .int v6), (5, .int v3), (4, .int v2), (3, .int v1)]) hx hb dX1_needs_69 hl (k := 3) rfl (by rw [ev6]; rfl) (by decide) rfl (fun ls hl => ?_)
            refine lv_iload hx hb dX1_needs_72 (lv_at hl 0 rfl) ?_
            exact ke_i C hH hr (Nat.le_refl _) (Nat.le_refl _) rfl dX1_needs_74
    · refine kb_if_lt (tgt := 51) hx hb dX1_needs_39 (by decide) (fun _ => ?_) (fun _ => ?_)
      · exact hK51_39 v4 _ _ _ hH (lv_sub hl [1, 2, 3, 0] rfl)
      · refine lv_iload hx hb dX1_needs_42 (lv_at hl 2 rfl) ?_
        refine lv_iload_n hx hb dX1_needs_44 rfl (lv_at hl 3 rfl) ?_
        refine kb_icmp_eq (tgt := 51) hx hb dX1_needs_45 (by decide) (fun _ => ?_) (fun _ => ?_)
        · exact hK51_39 v4 _ _ _ hH (lv_sub hl [1, 2, 3, 0] rfl)
        · refine W_nm (fun v7 ev7 => ?_)
          refine lv_iinc (v := v7) (lv' := [(6, .int v7), (5, .int v3), (4, .int v2), (3, .int v1)]) hx hb dX1_needs_48 hl (k := 0) rfl (by rw [ev7]; rfl) (by decide) rfl (fun ls hl => ?_)
          exact hK51_39 v7 _ _ _ hH (lv_sub hl [1, 2, 3, 0] rfl)
  · refine kb_if_lt (tgt := 34) hx hb dX1_needs_27 (by decide) (fun _ => ?_) (fun _ => ?_)
    · refine lv_iconst (v := 0) hx hb dX1_needs_34 (by decide) ?_
      exact hK35_27 0 _ _ _ hH (lv_sub hl [0, 1, 2] rfl)
    · refine lv_iconst (v := 1) hx hb dX1_needs_30 (by decide) ?_
      refine lv_goto (tgt := 35) hx hb dX1_needs_31 (by decide) ?_
      exact hK35_27 1 _ _ _ hH (lv_sub hl [0, 1, 2] rfl)
def fX6_waysTo_X5 (v3 : Int32) : Option (Int32) := some v3
theorem fX6_waysTo_X5_u {v3 : Int32} : fX6_waysTo_X5 v3 = some v3 := rfl
def fX6_waysTo_L5 (M : KS) (o0 : Nat) (a1 : Int32) (o2 : Nat) (rec5 : (Int32 × Int32) → Option (Int32)) (k5 : (Int32) → Option (Int32)) (x : Int32 × Int32) : Option (Int32) := match x with | (v1, v2) => (if (M.1 (iR o0) 3) ≤ v2 then k5 v1 else (fX6_head M o0 v2).bind fun v4 => (if v4 = (a1 / 36) then (fX6_makersOf M o0 v2 (jrem (a1 / 6) 6) (jrem a1 6) o2 o2).bind fun v6 => nm ((v1 + (fJ6_bitCount_0f7a4 v6))) fun v7 => nm (v2 + 1) fun v8 => rec5 (v7, v8) else nm (v2 + 1) fun v5 => rec5 (v1, v5)))
theorem fX6_waysTo_L5_u {M : KS} {o0 : Nat} {a1 : Int32} {o2 : Nat} {rec5 : (Int32 × Int32) → Option (Int32)} {k5 : (Int32) → Option (Int32)} {v1 : Int32} {v2 : Int32} : fX6_waysTo_L5 M o0 a1 o2 rec5 k5 (v1, v2) = (if (M.1 (iR o0) 3) ≤ v2 then k5 v1 else (fX6_head M o0 v2).bind fun v4 => (if v4 = (a1 / 36) then (fX6_makersOf M o0 v2 (jrem (a1 / 6) 6) (jrem a1 6) o2 o2).bind fun v6 => nm ((v1 + (fJ6_bitCount_0f7a4 v6))) fun v7 => nm (v2 + 1) fun v8 => rec5 (v7, v8) else nm (v2 + 1) fun v5 => rec5 (v1, v5))) := rfl
def fX6_waysTo (M : KS) (o0 : Nat) (a1 : Int32) (o2 : Nat) : Option (Int32) := lp (fX6_waysTo_L5 M o0 a1 o2) (fX6_waysTo_X5) 1000000 (0, 0)
set_option maxHeartbeats 4000000 in
set_option maxRecDepth 100000 in
theorem kX6_waysTo (l : Launch) (E : KE) (ad : Nat → Nat) (M : KS) (o0 : Nat) (ho0 : o0 < 11) (a1 : Int32) (o2 : Nat) (ho2 : o2 < 15) : CT l yX6_waysTo cX6_waysTo 6 (some .int) { frames := 3, cells := 0, slots := 0, locals := 82 } SK E ad [.ref (ad (iR o0)), .int a1, .ref (ad (iF o2))] M (fun sz a => QI SK E ad sz (a, M)) (fX6_waysTo M o0 a1 o2) := by
  refine CT.ofW (by decide) (Nat.le_of_ble_eq_true rfl) (fun sz p e s m args below meth c C hr hH ls hl => ?_)
  have hx := C.1.1
  have hb := C.1.2.1
  have hl : lv_has ls 6 [(0, .ref (ad (iR o0))), (1, .int a1), (2, .ref (ad (iF o2)))] := hl
  unfold fX6_waysTo
  refine lv_iconst (v := 0) hx hb dX6_waysTo_0 (by decide) ?_
  refine lv_istore_n (lv' := [(3, .int 0), (0, .ref (ad (iR o0))), (1, .int a1), (2, .ref (ad (iF o2)))]) hx hb dX6_waysTo_1 rfl hl (by decide) rfl (fun ls hl => ?_)
  refine lv_iconst (v := 0) hx hb dX6_waysTo_2 (by decide) ?_
  refine lv_istore (lv' := [(4, .int 0), (3, .int 0), (0, .ref (ad (iR o0))), (1, .int a1), (2, .ref (ad (iF o2)))]) hx hb dX6_waysTo_3 hl (by decide) rfl (fun ls hl => ?_)
  refine W_lp (fun (x : Int32 × Int32) H locs => KH SK E ad sz M s.heap H locs) (fun x ls => lv_has ls 6 [(0, .ref (ad (iR o0))), (1, .int a1), (2, .ref (ad (iF o2))), (3, .int x.1), (4, .int x.2)]) (fun _ ls => F0 m 5 ls []) (fun (x : Int32) H locs => KH SK E ad sz M s.heap H locs) (fun x ls => lv_has ls 6 [(3, .int x)]) (fun _ ls => F0 m 62 ls []) ?_ ?_ hH (lv_sub hl [2, 3, 4, 1, 0] rfl)
  · intro v3 H locs ls hH hl
    have hH : KH SK E ad sz M s.heap H locs := hH
    have hl : lv_has ls 6 [(3, .int v3)] := hl
    refine W_q fX6_waysTo_X5_u ?_
    refine lv_iload_n hx hb dX6_waysTo_62 rfl (lv_at hl 0 rfl) ?_
    exact ke_i C hH hr (Nat.le_refl _) (Nat.le_refl _) rfl dX6_waysTo_63
  · intro rec5 k5 hrec5 hk5 ⟨v1, v2⟩ H locs ls hH hl
    have hH : KH SK E ad sz M s.heap H locs := hH
    have hl : lv_has ls 6 [(0, .ref (ad (iR o0))), (1, .int a1), (2, .ref (ad (iF o2))), (3, .int v1), (4, .int v2)] := hl
    refine W_q fX6_waysTo_L5_u ?_
    refine lv_iload hx hb dX6_waysTo_5 (lv_at hl 4 rfl) ?_
    refine lv_aload_n hx hb dX6_waysTo_7 rfl (lv_at hl 0 rfl) ?_
    refine k_get C hH fd_X6_21 (oR (f := o0) ho0) (k_int (M := M) (ad := ad) (nR3 (f := o0) ho0)) dX6_waysTo_8 ?_
    refine kb_icmp_ge (tgt := 62) hx hb dX6_waysTo_11 (by decide) (fun _ => ?_) (fun _ => ?_)
    · exact hk5 v1 _ _ _ hH (lv_sub hl [3] rfl)
    · refine lv_aload_n hx hb dX6_waysTo_14 rfl (lv_at hl 0 rfl) ?_
      refine lv_iload hx hb dX6_waysTo_15 (lv_at hl 4 rfl) ?_
      refine kg_io C hH (kc_V C hH w_2_191 lc_yX6_head li_yX6_head (oR (f := o0) ho0) (kX6_head l E ad M o0 ho0 v2) (As := [.int v2]) rfl dX6_waysTo_17 rfl hl.1 (Nat.le_of_ble_eq_true rfl) ⟨Nat.le_of_ble_eq_true rfl, Nat.le_of_ble_eq_true rfl⟩ ⟨Nat.le_of_ble_eq_true rfl, Nat.le_of_ble_eq_true rfl⟩) ⟨rfl, rfl⟩ (fun v4 H locs hH => ?_)
      refine lv_iload_n hx hb dX6_waysTo_20 rfl (lv_at hl 1 rfl) ?_
      refine lv_bipush (v := 36) hx hb dX6_waysTo_21 (by decide) ?_
      refine lv_idiv hx hb dX6_waysTo_23 (by decide) ?_
      refine kb_icmp_ne (tgt := 56) hx hb dX6_waysTo_24 (by decide) (fun _ => ?_) (fun _ => ?_)
      · refine W_nm (fun v5 ev5 => ?_)
        refine lv_iinc (v := v5) (lv' := [(4, .int v5), (0, .ref (ad (iR o0))), (1, .int a1), (2, .ref (ad (iF o2))), (3, .int v1)]) hx hb dX6_waysTo_56 hl (k := 4) rfl (by rw [ev5]; rfl) (by decide) rfl (fun ls hl => ?_)
        refine lv_goto (tgt := 5) hx hb dX6_waysTo_59 (by decide) ?_
        exact hrec5 (v1, v5) _ _ _ hH (lv_sub hl [1, 2, 3, 4, 0] rfl)
      · refine lv_aload_n hx hb dX6_waysTo_27 rfl (lv_at hl 0 rfl) ?_
        refine lv_iload hx hb dX6_waysTo_28 (lv_at hl 4 rfl) ?_
        refine lv_iload_n hx hb dX6_waysTo_30 rfl (lv_at hl 1 rfl) ?_
        refine lv_bipush (v := 6) hx hb dX6_waysTo_31 (by decide) ?_
        refine lv_idiv hx hb dX6_waysTo_33 (by decide) ?_
        refine lv_bipush (v := 6) hx hb dX6_waysTo_34 (by decide) ?_
        refine k_irem hx hb dX6_waysTo_36 (by decide) ?_
        refine lv_iload_n hx hb dX6_waysTo_37 rfl (lv_at hl 1 rfl) ?_
        refine lv_bipush (v := 6) hx hb dX6_waysTo_38 (by decide) ?_
        refine k_irem hx hb dX6_waysTo_40 (by decide) ?_
        refine lv_aload_n hx hb dX6_waysTo_41 rfl (lv_at hl 2 rfl) ?_
        refine lv_aload_n hx hb dX6_waysTo_42 rfl (lv_at hl 2 rfl) ?_
        refine kg_io C hH (kc_V C hH w_2_192 lc_yX6_makersOf li_yX6_makersOf (oR (f := o0) ho0) (kX6_makersOf l E ad M o0 ho0 v2 (jrem (a1 / 6) 6) (jrem a1 6) o2 ho2 o2 ho2) (As := [.int v2, .int (jrem (a1 / 6) 6), .int (jrem a1 6), .ref (ad (iF o2)), .ref (ad (iF o2))]) rfl dX6_waysTo_43 rfl hl.1 (Nat.le_of_ble_eq_true rfl) ⟨Nat.le_of_ble_eq_true rfl, Nat.le_of_ble_eq_true rfl⟩ ⟨Nat.le_of_ble_eq_true rfl, Nat.le_of_ble_eq_true rfl⟩) ⟨rfl, rfl⟩ (fun v6 H locs hH => ?_)
        refine lv_istore (lv' := [(5, .int v6), (0, .ref (ad (iR o0))), (1, .int a1), (2, .ref (ad (iF o2))), (3, .int v1), (4, .int v2)]) hx hb dX6_waysTo_46 hl (by decide) rfl (fun ls hl => ?_)
        refine lv_iload_n hx hb dX6_waysTo_48 rfl (lv_at hl 4 rfl) ?_
        refine lv_iload hx hb dX6_waysTo_49 (lv_at hl 0 rfl) ?_
        refine kg_ip C hH (kc_S2 C hH w_2_193 w_st_yJ6_bitCount_0f7a4 lc_yJ6_bitCount_0f7a4 (kJ6_bitCount_0f7a4 l E ad M v6) (As := [.int v6]) rfl dX6_waysTo_51 rfl hl.1 (Nat.le_of_ble_eq_true rfl) ⟨Nat.le_of_ble_eq_true rfl, Nat.le_of_ble_eq_true rfl⟩ ⟨Nat.le_of_ble_eq_true rfl, Nat.le_of_ble_eq_true rfl⟩) ⟨rfl, rfl⟩ (fun H locs hH => ?_)
        refine lv_iadd hx hb dX6_waysTo_54 ?_
        refine W_nmi (fun v7 => ?_)
        refine lv_istore_n (lv' := [(3, .int v7), (5, .int v6), (0, .ref (ad (iR o0))), (1, .int a1), (2, .ref (ad (iF o2))), (4, .int v2)]) hx hb dX6_waysTo_55 rfl hl (by decide) rfl (fun ls hl => ?_)
        refine W_nm (fun v8 ev8 => ?_)
        refine lv_iinc (v := v8) (lv' := [(4, .int v8), (3, .int v7), (5, .int v6), (0, .ref (ad (iR o0))), (1, .int a1), (2, .ref (ad (iF o2)))]) hx hb dX6_waysTo_56 hl (k := 5) rfl (by rw [ev8]; rfl) (by decide) rfl (fun ls hl => ?_)
        refine lv_goto (tgt := 5) hx hb dX6_waysTo_59 (by decide) ?_
        exact hrec5 (v7, v8) _ _ _ hH (lv_sub hl [3, 4, 5, 1, 0] rfl)
def fX0_deriveWithout_J35_13 (o3 : Nat) (M3 : KS) : Option (KS) := (fX0_deriveAll M3 o3).bind fun M4 => some M4
theorem fX0_deriveWithout_J35_13_u {o3 : Nat} {M3 : KS} : fX0_deriveWithout_J35_13 o3 M3 = (fX0_deriveAll M3 o3).bind fun M4 => some M4 := rfl
def fX0_deriveWithout (M : KS) (a1 : Int32) (o2 : Nat) (o3 : Nat) : Option (KS) := (fX2_copy M 14 o2).bind fun M1 => (fX2_has M1 o2 a1).bind fun v2 => jn (fX0_deriveWithout_J35_13 o3) (fun K35_13 => (if v2 = 0 then (fX2_put M1 14 a1).bind fun M5 => K35_13 M5 else (fX2_take M1 14 a1).bind fun M6 => K35_13 M6))
set_option maxHeartbeats 4000000 in
set_option maxRecDepth 100000 in
theorem kX0_deriveWithout (l : Launch) (E : KE) (ad : Nat → Nat) (M : KS) (a1 : Int32) (o2 : Nat) (ho2 : o2 < 15) (o3 : Nat) (ho3 : o3 < 11) : CT l yX0_deriveWithout cX0_deriveWithout 4 (some (.object "KinFacts$Facts")) { frames := 5, cells := 0, slots := 0, locals := 133 } SK E ad [.ref (ad 112), .int a1, .ref (ad (iF o2)), .ref (ad (iR o3))] M (QR SK E ad (iF 14)) (fX0_deriveWithout M a1 o2 o3) := by
  refine CT.ofW (by decide) (Nat.le_of_ble_eq_true rfl) (fun sz p e s m args below meth c C hr hH ls hl => ?_)
  have hx := C.1.1
  have hb := C.1.2.1
  have hl : lv_has ls 4 [(0, .ref (ad 112)), (1, .int a1), (2, .ref (ad (iF o2))), (3, .ref (ad (iR o3)))] := hl
  unfold fX0_deriveWithout
  refine lv_aload_n hx hb dX0_deriveWithout_0 rfl (lv_at hl 0 rfl) ?_
  refine k_get C hH fd_X0_12 oA (k_ref (M := M) (ad := ad) rA0) dX0_deriveWithout_1 ?_
  refine lv_aload_n hx hb dX0_deriveWithout_4 rfl (lv_at hl 2 rfl) ?_
  refine kg_v C hH (kc_V C hH w_2_162 lc_yX2_copy li_yX2_copy (oF (f := 14) (by decide)) (kX2_copy l E ad M 14 (by decide) o2 ho2) (As := [.ref (ad (iF o2))]) rfl dX0_deriveWithout_5 rfl hl.1 (Nat.le_of_ble_eq_true rfl) ⟨Nat.le_of_ble_eq_true rfl, Nat.le_of_ble_eq_true rfl⟩ ⟨Nat.le_of_ble_eq_true rfl, Nat.le_of_ble_eq_true rfl⟩) ⟨rfl, rfl⟩ (fun M1 H locs hH => ?_)
  refine lv_aload_n hx hb dX0_deriveWithout_8 rfl (lv_at hl 2 rfl) ?_
  refine lv_iload_n hx hb dX0_deriveWithout_9 rfl (lv_at hl 1 rfl) ?_
  refine kg_io C hH (kc_V C hH w_2_175 lc_yX2_has li_yX2_has (oF (f := o2) ho2) (kX2_has l E ad M1 o2 ho2 a1) (As := [.int a1]) rfl dX0_deriveWithout_10 rfl hl.1 (Nat.le_of_ble_eq_true rfl) ⟨Nat.le_of_ble_eq_true rfl, Nat.le_of_ble_eq_true rfl⟩ ⟨Nat.le_of_ble_eq_true rfl, Nat.le_of_ble_eq_true rfl⟩) ⟨rfl, rfl⟩ (fun v2 H locs hH => ?_)
  refine W_jn (fun (x : KS) H locs => KH SK E ad sz x s.heap H locs) (fun x ls => lv_has ls 4 [(0, .ref (ad 112)), (3, .ref (ad (iR o3)))]) (fun x ls => F0 m 35 ls []) ?_ (fun K35_13 hK35_13 => ?_)
  · intro M3 H locs ls hH hl
    have hH : KH SK E ad sz M3 s.heap H locs := hH
    have hl : lv_has ls 4 [(0, .ref (ad 112)), (3, .ref (ad (iR o3)))] := hl
    refine W_q fX0_deriveWithout_J35_13_u ?_
    refine lv_aload_n hx hb dX0_deriveWithout_35 rfl (lv_at hl 0 rfl) ?_
    refine lv_aload_n hx hb dX0_deriveWithout_36 rfl (lv_at hl 1 rfl) ?_
    refine kg_v C hH (kc_V C hH w_2_163 lc_yX0_deriveAll li_yX0_deriveAll oA (kX0_deriveAll l E ad M3 o3 ho3) (As := [.ref (ad (iR o3))]) rfl dX0_deriveWithout_37 rfl hl.1 (Nat.le_of_ble_eq_true rfl) ⟨Nat.le_of_ble_eq_true rfl, Nat.le_of_ble_eq_true rfl⟩ ⟨Nat.le_of_ble_eq_true rfl, Nat.le_of_ble_eq_true rfl⟩) ⟨rfl, rfl⟩ (fun M4 H locs hH => ?_)
    refine lv_aload_n hx hb dX0_deriveWithout_40 rfl (lv_at hl 0 rfl) ?_
    refine k_get C hH fd_X0_12 oA (k_ref (M := M4) (ad := ad) rA0) dX0_deriveWithout_41 ?_
    exact ke_r C hH hr (Or.inl ⟨_, rfl⟩) (Nat.le_refl _) (Nat.le_refl _) rfl dX0_deriveWithout_44
  · refine kb_if_eq (tgt := 27) hx hb dX0_deriveWithout_13 (by decide) (fun _ => ?_) (fun _ => ?_)
    · refine lv_aload_n hx hb dX0_deriveWithout_27 rfl (lv_at hl 0 rfl) ?_
      refine k_get C hH fd_X0_12 oA (k_ref (M := M1) (ad := ad) rA0) dX0_deriveWithout_28 ?_
      refine lv_iload_n hx hb dX0_deriveWithout_31 rfl (lv_at hl 1 rfl) ?_
      refine kg_v C hH (kc_V C hH w_2_177 lc_yX2_put li_yX2_put (oF (f := 14) (by decide)) (kX2_put l E ad M1 14 (by decide) a1) (As := [.int a1]) rfl dX0_deriveWithout_32 rfl hl.1 (Nat.le_of_ble_eq_true rfl) ⟨Nat.le_of_ble_eq_true rfl, Nat.le_of_ble_eq_true rfl⟩ ⟨Nat.le_of_ble_eq_true rfl, Nat.le_of_ble_eq_true rfl⟩) ⟨rfl, rfl⟩ (fun M5 H locs hH => ?_)
      exact hK35_13 M5 _ _ _ hH (lv_sub hl [0, 3] rfl)
    · refine lv_aload_n hx hb dX0_deriveWithout_16 rfl (lv_at hl 0 rfl) ?_
      refine k_get C hH fd_X0_12 oA (k_ref (M := M1) (ad := ad) rA0) dX0_deriveWithout_17 ?_
      refine lv_iload_n hx hb dX0_deriveWithout_20 rfl (lv_at hl 1 rfl) ?_
      refine kg_v C hH (kc_V C hH w_4_12 lc_yX2_take li_yX2_take (oF (f := 14) (by decide)) (kX2_take l E ad M1 14 (by decide) a1) (As := [.int a1]) rfl dX0_deriveWithout_21 rfl hl.1 (Nat.le_of_ble_eq_true rfl) ⟨Nat.le_of_ble_eq_true rfl, Nat.le_of_ble_eq_true rfl⟩ ⟨Nat.le_of_ble_eq_true rfl, Nat.le_of_ble_eq_true rfl⟩) ⟨rfl, rfl⟩ (fun M6 H locs hH => ?_)
      refine lv_goto (tgt := 35) hx hb dX0_deriveWithout_24 (by decide) ?_
      exact hK35_13 M6 _ _ _ hH (lv_sub hl [0, 3] rfl)
def fX6_headsWith_X4 (v3 : Int32) : Option (Int32) := some v3
theorem fX6_headsWith_X4_u {v3 : Int32} : fX6_headsWith_X4 v3 = some v3 := rfl
def fX6_headsWith_L4 (M : KS) (o0 : Nat) (a1 : Int32) (rec4 : (Int32 × Int32) → Option (Int32)) (k4 : (Int32) → Option (Int32)) (x : Int32 × Int32) : Option (Int32) := match x with | (v1, v2) => (if (M.1 (iR o0) 3) ≤ v2 then k4 v1 else (fX6_head M o0 v2).bind fun v4 => (if v4 = a1 then nm (v1 + 1) fun v6 => nm (v2 + 1) fun v7 => rec4 (v6, v7) else nm (v2 + 1) fun v5 => rec4 (v1, v5)))
theorem fX6_headsWith_L4_u {M : KS} {o0 : Nat} {a1 : Int32} {rec4 : (Int32 × Int32) → Option (Int32)} {k4 : (Int32) → Option (Int32)} {v1 : Int32} {v2 : Int32} : fX6_headsWith_L4 M o0 a1 rec4 k4 (v1, v2) = (if (M.1 (iR o0) 3) ≤ v2 then k4 v1 else (fX6_head M o0 v2).bind fun v4 => (if v4 = a1 then nm (v1 + 1) fun v6 => nm (v2 + 1) fun v7 => rec4 (v6, v7) else nm (v2 + 1) fun v5 => rec4 (v1, v5))) := rfl
def fX6_headsWith (M : KS) (o0 : Nat) (a1 : Int32) : Option (Int32) := lp (fX6_headsWith_L4 M o0 a1) (fX6_headsWith_X4) 1000000 (0, 0)
set_option maxHeartbeats 4000000 in
set_option maxRecDepth 100000 in
theorem kX6_headsWith (l : Launch) (E : KE) (ad : Nat → Nat) (M : KS) (o0 : Nat) (ho0 : o0 < 11) (a1 : Int32) : CT l yX6_headsWith cX6_headsWith 4 (some .int) { frames := 1, cells := 0, slots := 0, locals := 21 } SK E ad [.ref (ad (iR o0)), .int a1] M (fun sz a => QI SK E ad sz (a, M)) (fX6_headsWith M o0 a1) := by
  refine CT.ofW (by decide) (Nat.le_of_ble_eq_true rfl) (fun sz p e s m args below meth c C hr hH ls hl => ?_)
  have hx := C.1.1
  have hb := C.1.2.1
  have hl : lv_has ls 4 [(0, .ref (ad (iR o0))), (1, .int a1)] := hl
  unfold fX6_headsWith
  refine lv_iconst (v := 0) hx hb dX6_headsWith_0 (by decide) ?_
  refine lv_istore_n (lv' := [(2, .int 0), (0, .ref (ad (iR o0))), (1, .int a1)]) hx hb dX6_headsWith_1 rfl hl (by decide) rfl (fun ls hl => ?_)
  refine lv_iconst (v := 0) hx hb dX6_headsWith_2 (by decide) ?_
  refine lv_istore_n (lv' := [(3, .int 0), (2, .int 0), (0, .ref (ad (iR o0))), (1, .int a1)]) hx hb dX6_headsWith_3 rfl hl (by decide) rfl (fun ls hl => ?_)
  refine W_lp (fun (x : Int32 × Int32) H locs => KH SK E ad sz M s.heap H locs) (fun x ls => lv_has ls 4 [(0, .ref (ad (iR o0))), (1, .int a1), (2, .int x.1), (3, .int x.2)]) (fun _ ls => F0 m 4 ls []) (fun (x : Int32) H locs => KH SK E ad sz M s.heap H locs) (fun x ls => lv_has ls 4 [(2, .int x)]) (fun _ ls => F0 m 30 ls []) ?_ ?_ hH (lv_sub hl [2, 3, 1, 0] rfl)
  · intro v3 H locs ls hH hl
    have hH : KH SK E ad sz M s.heap H locs := hH
    have hl : lv_has ls 4 [(2, .int v3)] := hl
    refine W_q fX6_headsWith_X4_u ?_
    refine lv_iload_n hx hb dX6_headsWith_30 rfl (lv_at hl 0 rfl) ?_
    exact ke_i C hH hr (Nat.le_refl _) (Nat.le_refl _) rfl dX6_headsWith_31
  · intro rec4 k4 hrec4 hk4 ⟨v1, v2⟩ H locs ls hH hl
    have hH : KH SK E ad sz M s.heap H locs := hH
    have hl : lv_has ls 4 [(0, .ref (ad (iR o0))), (1, .int a1), (2, .int v1), (3, .int v2)] := hl
    refine W_q fX6_headsWith_L4_u ?_
    refine lv_iload_n hx hb dX6_headsWith_4 rfl (lv_at hl 3 rfl) ?_
    refine lv_aload_n hx hb dX6_headsWith_5 rfl (lv_at hl 0 rfl) ?_
    refine k_get C hH fd_X6_21 (oR (f := o0) ho0) (k_int (M := M) (ad := ad) (nR3 (f := o0) ho0)) dX6_headsWith_6 ?_
    refine kb_icmp_ge (tgt := 30) hx hb dX6_headsWith_9 (by decide) (fun _ => ?_) (fun _ => ?_)
    · exact hk4 v1 _ _ _ hH (lv_sub hl [2] rfl)
    · refine lv_aload_n hx hb dX6_headsWith_12 rfl (lv_at hl 0 rfl) ?_
      refine lv_iload_n hx hb dX6_headsWith_13 rfl (lv_at hl 3 rfl) ?_
      refine kg_io C hH (kc_V C hH w_2_191 lc_yX6_head li_yX6_head (oR (f := o0) ho0) (kX6_head l E ad M o0 ho0 v2) (As := [.int v2]) rfl dX6_headsWith_14 rfl hl.1 (Nat.le_of_ble_eq_true rfl) ⟨Nat.le_of_ble_eq_true rfl, Nat.le_of_ble_eq_true rfl⟩ ⟨Nat.le_of_ble_eq_true rfl, Nat.le_of_ble_eq_true rfl⟩) ⟨rfl, rfl⟩ (fun v4 H locs hH => ?_)
      refine lv_iload_n hx hb dX6_headsWith_17 rfl (lv_at hl 1 rfl) ?_
      refine kb_icmp_ne (tgt := 24) hx hb dX6_headsWith_18 (by decide) (fun _ => ?_) (fun _ => ?_)
      · refine W_nm (fun v5 ev5 => ?_)
        refine lv_iinc (v := v5) (lv' := [(3, .int v5), (0, .ref (ad (iR o0))), (1, .int a1), (2, .int v1)]) hx hb dX6_headsWith_24 hl (k := 3) rfl (by rw [ev5]; rfl) (by decide) rfl (fun ls hl => ?_)
        refine lv_goto (tgt := 4) hx hb dX6_headsWith_27 (by decide) ?_
        exact hrec4 (v1, v5) _ _ _ hH (lv_sub hl [1, 2, 3, 0] rfl)
      · refine W_nm (fun v6 ev6 => ?_)
        refine lv_iinc (v := v6) (lv' := [(2, .int v6), (0, .ref (ad (iR o0))), (1, .int a1), (3, .int v2)]) hx hb dX6_headsWith_21 hl (k := 2) rfl (by rw [ev6]; rfl) (by decide) rfl (fun ls hl => ?_)
        refine W_nm (fun v7 ev7 => ?_)
        refine lv_iinc (v := v7) (lv' := [(3, .int v7), (2, .int v6), (0, .ref (ad (iR o0))), (1, .int a1)]) hx hb dX6_headsWith_24 hl (k := 3) rfl (by rw [ev7]; rfl) (by decide) rfl (fun ls hl => ?_)
        refine lv_goto (tgt := 4) hx hb dX6_headsWith_27 (by decide) ?_
        exact hrec4 (v6, v7) _ _ _ hH (lv_sub hl [2, 3, 1, 0] rfl)
def fX6_conditionsWith_X4 (v3 : Int32) : Option (Int32) := some v3
theorem fX6_conditionsWith_X4_u {v3 : Int32} : fX6_conditionsWith_X4 v3 = some v3 := rfl
def fX6_conditionsWith_X15 (v2 : Int32) (rec4 : (Int32 × Int32) → Option (Int32)) (v6 : Int32) : Option (Int32) := nm (v2 + 1) fun v7 => rec4 (v6, v7)
theorem fX6_conditionsWith_X15_u {v2 : Int32} {rec4 : (Int32 × Int32) → Option (Int32)} {v6 : Int32} : fX6_conditionsWith_X15 v2 rec4 v6 = nm (v2 + 1) fun v7 => rec4 (v6, v7) := rfl
def fX6_conditionsWith_L15 (M : KS) (o0 : Nat) (a1 : Int32) (v2 : Int32) (rec15 : (Int32 × Int32) → Option (Int32)) (k15 : (Int32) → Option (Int32)) (x : Int32 × Int32) : Option (Int32) := match x with | (v4, v5) => (if 3 ≤ v5 then k15 v4 else (fX6_code M o0 v2 v5).bind fun v8 => (if v8 = 0 then nm (v5 + 1) fun v9 => rec15 (v4, v9) else (if (fX9_relationIn v8) = a1 then nm (v4 + 1) fun v11 => nm (v5 + 1) fun v12 => rec15 (v11, v12) else nm (v5 + 1) fun v10 => rec15 (v4, v10))))
theorem fX6_conditionsWith_L15_u {M : KS} {o0 : Nat} {a1 : Int32} {v2 : Int32} {rec15 : (Int32 × Int32) → Option (Int32)} {k15 : (Int32) → Option (Int32)} {v4 : Int32} {v5 : Int32} : fX6_conditionsWith_L15 M o0 a1 v2 rec15 k15 (v4, v5) = (if 3 ≤ v5 then k15 v4 else (fX6_code M o0 v2 v5).bind fun v8 => (if v8 = 0 then nm (v5 + 1) fun v9 => rec15 (v4, v9) else (if (fX9_relationIn v8) = a1 then nm (v4 + 1) fun v11 => nm (v5 + 1) fun v12 => rec15 (v11, v12) else nm (v5 + 1) fun v10 => rec15 (v4, v10)))) := rfl
def fX6_conditionsWith_L4 (M : KS) (o0 : Nat) (a1 : Int32) (rec4 : (Int32 × Int32) → Option (Int32)) (k4 : (Int32) → Option (Int32)) (x : Int32 × Int32) : Option (Int32) := match x with | (v1, v2) => (if (M.1 (iR o0) 3) ≤ v2 then k4 v1 else lp (fX6_conditionsWith_L15 M o0 a1 v2) (fX6_conditionsWith_X15 v2 rec4) 1000000 (v1, 0))
theorem fX6_conditionsWith_L4_u {M : KS} {o0 : Nat} {a1 : Int32} {rec4 : (Int32 × Int32) → Option (Int32)} {k4 : (Int32) → Option (Int32)} {v1 : Int32} {v2 : Int32} : fX6_conditionsWith_L4 M o0 a1 rec4 k4 (v1, v2) = (if (M.1 (iR o0) 3) ≤ v2 then k4 v1 else lp (fX6_conditionsWith_L15 M o0 a1 v2) (fX6_conditionsWith_X15 v2 rec4) 1000000 (v1, 0)) := rfl
def fX6_conditionsWith (M : KS) (o0 : Nat) (a1 : Int32) : Option (Int32) := lp (fX6_conditionsWith_L4 M o0 a1) (fX6_conditionsWith_X4) 1000000 (0, 0)
set_option maxHeartbeats 4000000 in
set_option maxRecDepth 100000 in
theorem kX6_conditionsWith (l : Launch) (E : KE) (ad : Nat → Nat) (M : KS) (o0 : Nat) (ho0 : o0 < 11) (a1 : Int32) : CT l yX6_conditionsWith cX6_conditionsWith 6 (some .int) { frames := 1, cells := 0, slots := 0, locals := 22 } SK E ad [.ref (ad (iR o0)), .int a1] M (fun sz a => QI SK E ad sz (a, M)) (fX6_conditionsWith M o0 a1) := by
  refine CT.ofW (by decide) (Nat.le_of_ble_eq_true rfl) (fun sz p e s m args below meth c C hr hH ls hl => ?_)
  have hx := C.1.1
  have hb := C.1.2.1
  have hl : lv_has ls 6 [(0, .ref (ad (iR o0))), (1, .int a1)] := hl
  unfold fX6_conditionsWith
  refine lv_iconst (v := 0) hx hb dX6_conditionsWith_0 (by decide) ?_
  refine lv_istore_n (lv' := [(2, .int 0), (0, .ref (ad (iR o0))), (1, .int a1)]) hx hb dX6_conditionsWith_1 rfl hl (by decide) rfl (fun ls hl => ?_)
  refine lv_iconst (v := 0) hx hb dX6_conditionsWith_2 (by decide) ?_
  refine lv_istore_n (lv' := [(3, .int 0), (2, .int 0), (0, .ref (ad (iR o0))), (1, .int a1)]) hx hb dX6_conditionsWith_3 rfl hl (by decide) rfl (fun ls hl => ?_)
  refine W_lp (fun (x : Int32 × Int32) H locs => KH SK E ad sz M s.heap H locs) (fun x ls => lv_has ls 6 [(0, .ref (ad (iR o0))), (1, .int a1), (2, .int x.1), (3, .int x.2)]) (fun _ ls => F0 m 4 ls []) (fun (x : Int32) H locs => KH SK E ad sz M s.heap H locs) (fun x ls => lv_has ls 6 [(2, .int x)]) (fun _ ls => F0 m 59 ls []) ?_ ?_ hH (lv_sub hl [2, 3, 1, 0] rfl)
  · intro v3 H locs ls hH hl
    have hH : KH SK E ad sz M s.heap H locs := hH
    have hl : lv_has ls 6 [(2, .int v3)] := hl
    refine W_q fX6_conditionsWith_X4_u ?_
    refine lv_iload_n hx hb dX6_conditionsWith_59 rfl (lv_at hl 0 rfl) ?_
    exact ke_i C hH hr (Nat.le_refl _) (Nat.le_refl _) rfl dX6_conditionsWith_60
  · intro rec4 k4 hrec4 hk4 ⟨v1, v2⟩ H locs ls hH hl
    have hH : KH SK E ad sz M s.heap H locs := hH
    have hl : lv_has ls 6 [(0, .ref (ad (iR o0))), (1, .int a1), (2, .int v1), (3, .int v2)] := hl
    refine W_q fX6_conditionsWith_L4_u ?_
    refine lv_iload_n hx hb dX6_conditionsWith_4 rfl (lv_at hl 3 rfl) ?_
    refine lv_aload_n hx hb dX6_conditionsWith_5 rfl (lv_at hl 0 rfl) ?_
    refine k_get C hH fd_X6_21 (oR (f := o0) ho0) (k_int (M := M) (ad := ad) (nR3 (f := o0) ho0)) dX6_conditionsWith_6 ?_
    refine kb_icmp_ge (tgt := 59) hx hb dX6_conditionsWith_9 (by decide) (fun _ => ?_) (fun _ => ?_)
    · exact hk4 v1 _ _ _ hH (lv_sub hl [2] rfl)
    · refine lv_iconst (v := 0) hx hb dX6_conditionsWith_12 (by decide) ?_
      refine lv_istore (lv' := [(4, .int 0), (0, .ref (ad (iR o0))), (1, .int a1), (2, .int v1), (3, .int v2)]) hx hb dX6_conditionsWith_13 hl (by decide) rfl (fun ls hl => ?_)
      refine W_lp (fun (x : Int32 × Int32) H locs => KH SK E ad sz M s.heap H locs) (fun x ls => lv_has ls 6 [(0, .ref (ad (iR o0))), (1, .int a1), (3, .int v2), (2, .int x.1), (4, .int x.2)]) (fun _ ls => F0 m 15 ls []) (fun (x : Int32) H locs => KH SK E ad sz M s.heap H locs) (fun x ls => lv_has ls 6 [(0, .ref (ad (iR o0))), (1, .int a1), (3, .int v2), (2, .int x)]) (fun _ ls => F0 m 53 ls []) ?_ ?_ hH (lv_sub hl [1, 2, 4, 3, 0] rfl)
      · intro v6 H locs ls hH hl
        have hH : KH SK E ad sz M s.heap H locs := hH
        have hl : lv_has ls 6 [(0, .ref (ad (iR o0))), (1, .int a1), (3, .int v2), (2, .int v6)] := hl
        refine W_q fX6_conditionsWith_X15_u ?_
        refine W_nm (fun v7 ev7 => ?_)
        refine lv_iinc (v := v7) (lv' := [(3, .int v7), (0, .ref (ad (iR o0))), (1, .int a1), (2, .int v6)]) hx hb dX6_conditionsWith_53 hl (k := 2) rfl (by rw [ev7]; rfl) (by decide) rfl (fun ls hl => ?_)
        refine lv_goto (tgt := 4) hx hb dX6_conditionsWith_56 (by decide) ?_
        exact hrec4 (v6, v7) _ _ _ hH (lv_sub hl [1, 2, 3, 0] rfl)
      · intro rec15 k15 hrec15 hk15 ⟨v4, v5⟩ H locs ls hH hl
        have hH : KH SK E ad sz M s.heap H locs := hH
        have hl : lv_has ls 6 [(0, .ref (ad (iR o0))), (1, .int a1), (3, .int v2), (2, .int v4), (4, .int v5)] := hl
        refine W_q fX6_conditionsWith_L15_u ?_
        refine lv_iload hx hb dX6_conditionsWith_15 (lv_at hl 4 rfl) ?_
        refine lv_iconst (v := 3) hx hb dX6_conditionsWith_17 (by decide) ?_
        refine kb_icmp_ge (tgt := 53) hx hb dX6_conditionsWith_18 (by decide) (fun _ => ?_) (fun _ => ?_)
        · exact hk15 v4 _ _ _ hH (lv_sub hl [0, 1, 2, 3] rfl)
        · refine lv_aload_n hx hb dX6_conditionsWith_21 rfl (lv_at hl 0 rfl) ?_
          refine lv_iload_n hx hb dX6_conditionsWith_22 rfl (lv_at hl 2 rfl) ?_
          refine lv_iload hx hb dX6_conditionsWith_23 (lv_at hl 4 rfl) ?_
          refine kg_io C hH (kc_V C hH w_2_92 lc_yX6_code li_yX6_code (oR (f := o0) ho0) (kX6_code l E ad M o0 ho0 v2 v5) (As := [.int v2, .int v5]) rfl dX6_conditionsWith_25 rfl hl.1 (Nat.le_of_ble_eq_true rfl) ⟨Nat.le_of_ble_eq_true rfl, Nat.le_of_ble_eq_true rfl⟩ ⟨Nat.le_of_ble_eq_true rfl, Nat.le_of_ble_eq_true rfl⟩) ⟨rfl, rfl⟩ (fun v8 H locs hH => ?_)
          refine lv_istore (lv' := [(5, .int v8), (0, .ref (ad (iR o0))), (1, .int a1), (3, .int v2), (2, .int v4), (4, .int v5)]) hx hb dX6_conditionsWith_28 hl (by decide) rfl (fun ls hl => ?_)
          refine lv_iload hx hb dX6_conditionsWith_30 (lv_at hl 0 rfl) ?_
          refine kb_if_eq (tgt := 47) hx hb dX6_conditionsWith_32 (by decide) (fun _ => ?_) (fun _ => ?_)
          · refine W_nm (fun v9 ev9 => ?_)
            refine lv_iinc (v := v9) (lv' := [(4, .int v9), (5, .int v8), (0, .ref (ad (iR o0))), (1, .int a1), (3, .int v2), (2, .int v4)]) hx hb dX6_conditionsWith_47 hl (k := 5) rfl (by rw [ev9]; rfl) (by decide) rfl (fun ls hl => ?_)
            refine lv_goto (tgt := 15) hx hb dX6_conditionsWith_50 (by decide) ?_
            exact hrec15 (v4, v9) _ _ _ hH (lv_sub hl [2, 3, 4, 5, 0] rfl)
          · refine lv_iload hx hb dX6_conditionsWith_35 (lv_at hl 0 rfl) ?_
            refine kg_ip C hH (kc_SN C hH w_2_96 w_st_yX9_relationIn lc_yX9_relationIn (kX9_relationIn l E ad M v8) (As := [.int v8]) rfl dX6_conditionsWith_37 rfl hl.1 (Nat.le_of_ble_eq_true rfl) ⟨Nat.le_of_ble_eq_true rfl, Nat.le_of_ble_eq_true rfl⟩ ⟨Nat.le_of_ble_eq_true rfl, Nat.le_of_ble_eq_true rfl⟩) ⟨rfl, rfl⟩ (fun H locs hH => ?_)
            refine lv_iload_n hx hb dX6_conditionsWith_40 rfl (lv_at hl 2 rfl) ?_
            refine kb_icmp_ne (tgt := 47) hx hb dX6_conditionsWith_41 (by decide) (fun _ => ?_) (fun _ => ?_)
            · refine W_nm (fun v10 ev10 => ?_)
              refine lv_iinc (v := v10) (lv' := [(4, .int v10), (5, .int v8), (0, .ref (ad (iR o0))), (1, .int a1), (3, .int v2), (2, .int v4)]) hx hb dX6_conditionsWith_47 hl (k := 5) rfl (by rw [ev10]; rfl) (by decide) rfl (fun ls hl => ?_)
              refine lv_goto (tgt := 15) hx hb dX6_conditionsWith_50 (by decide) ?_
              exact hrec15 (v4, v10) _ _ _ hH (lv_sub hl [2, 3, 4, 5, 0] rfl)
            · refine W_nm (fun v11 ev11 => ?_)
              refine lv_iinc (v := v11) (lv' := [(2, .int v11), (5, .int v8), (0, .ref (ad (iR o0))), (1, .int a1), (3, .int v2), (4, .int v5)]) hx hb dX6_conditionsWith_44 hl (k := 4) rfl (by rw [ev11]; rfl) (by decide) rfl (fun ls hl => ?_)
              refine W_nm (fun v12 ev12 => ?_)
              refine lv_iinc (v := v12) (lv' := [(4, .int v12), (2, .int v11), (5, .int v8), (0, .ref (ad (iR o0))), (1, .int a1), (3, .int v2)]) hx hb dX6_conditionsWith_47 hl (k := 5) rfl (by rw [ev12]; rfl) (by decide) rfl (fun ls hl => ?_)
              refine lv_goto (tgt := 15) hx hb dX6_conditionsWith_50 (by decide) ?_
              exact hrec15 (v11, v12) _ _ _ hH (lv_sub hl [3, 4, 5, 1, 0] rfl)
def fX1_lastStage_X4 (v3 : Int32) : Option (Int32) := some v3
theorem fX1_lastStage_X4_u {v3 : Int32} : fX1_lastStage_X4 v3 = some v3 := rfl
def fX1_lastStage_L4 (M : KS) (a1 : Int32) (rec4 : (Int32 × Int32) → Option (Int32)) (k4 : (Int32) → Option (Int32)) (x : Int32 × Int32) : Option (Int32) := match x with | (v1, v2) => (if 216 ≤ v2 then k4 v1 else (if (v2 / 36) = a1 then if inb v2 216 then nm ((jmax v1 (M.1 107 v2.toNatClampNeg))) fun v5 => nm (v2 + 1) fun v6 => rec4 (v5, v6) else none else nm (v2 + 1) fun v4 => rec4 (v1, v4)))
theorem fX1_lastStage_L4_u {M : KS} {a1 : Int32} {rec4 : (Int32 × Int32) → Option (Int32)} {k4 : (Int32) → Option (Int32)} {v1 : Int32} {v2 : Int32} : fX1_lastStage_L4 M a1 rec4 k4 (v1, v2) = (if 216 ≤ v2 then k4 v1 else (if (v2 / 36) = a1 then if inb v2 216 then nm ((jmax v1 (M.1 107 v2.toNatClampNeg))) fun v5 => nm (v2 + 1) fun v6 => rec4 (v5, v6) else none else nm (v2 + 1) fun v4 => rec4 (v1, v4))) := rfl
def fX1_lastStage (M : KS) (a1 : Int32) : Option (Int32) := lp (fX1_lastStage_L4 M a1) (fX1_lastStage_X4) 1000000 (0, 0)
set_option maxHeartbeats 4000000 in
set_option maxRecDepth 100000 in
theorem kX1_lastStage (l : Launch) (E : KE) (ad : Nat → Nat) (M : KS) (a1 : Int32) : CT l yX1_lastStage cX1_lastStage 4 (some .int) { frames := 1, cells := 0, slots := 0, locals := 24 } SK E ad [.ref (ad 106), .int a1] M (fun sz a => QI SK E ad sz (a, M)) (fX1_lastStage M a1) := by
  refine CT.ofW (by decide) (Nat.le_of_ble_eq_true rfl) (fun sz p e s m args below meth c C hr hH ls hl => ?_)
  have hx := C.1.1
  have hb := C.1.2.1
  have hl : lv_has ls 4 [(0, .ref (ad 106)), (1, .int a1)] := hl
  unfold fX1_lastStage
  refine lv_iconst (v := 0) hx hb dX1_lastStage_0 (by decide) ?_
  refine lv_istore_n (lv' := [(2, .int 0), (0, .ref (ad 106)), (1, .int a1)]) hx hb dX1_lastStage_1 rfl hl (by decide) rfl (fun ls hl => ?_)
  refine lv_iconst (v := 0) hx hb dX1_lastStage_2 (by decide) ?_
  refine lv_istore_n (lv' := [(3, .int 0), (2, .int 0), (0, .ref (ad 106)), (1, .int a1)]) hx hb dX1_lastStage_3 rfl hl (by decide) rfl (fun ls hl => ?_)
  refine W_lp (fun (x : Int32 × Int32) H locs => KH SK E ad sz M s.heap H locs) (fun x ls => lv_has ls 4 [(0, .ref (ad 106)), (1, .int a1), (2, .int x.1), (3, .int x.2)]) (fun _ ls => F0 m 4 ls []) (fun (x : Int32) H locs => KH SK E ad sz M s.heap H locs) (fun x ls => lv_has ls 4 [(2, .int x)]) (fun _ ls => F0 m 36 ls []) ?_ ?_ hH (lv_sub hl [2, 3, 1, 0] rfl)
  · intro v3 H locs ls hH hl
    have hH : KH SK E ad sz M s.heap H locs := hH
    have hl : lv_has ls 4 [(2, .int v3)] := hl
    refine W_q fX1_lastStage_X4_u ?_
    refine lv_iload_n hx hb dX1_lastStage_36 rfl (lv_at hl 0 rfl) ?_
    exact ke_i C hH hr (Nat.le_refl _) (Nat.le_refl _) rfl dX1_lastStage_37
  · intro rec4 k4 hrec4 hk4 ⟨v1, v2⟩ H locs ls hH hl
    have hH : KH SK E ad sz M s.heap H locs := hH
    have hl : lv_has ls 4 [(0, .ref (ad 106)), (1, .int a1), (2, .int v1), (3, .int v2)] := hl
    refine W_q fX1_lastStage_L4_u ?_
    refine lv_iload_n hx hb dX1_lastStage_4 rfl (lv_at hl 3 rfl) ?_
    refine lv_sipush (v := 216) hx hb dX1_lastStage_5 (by decide) ?_
    refine kb_icmp_ge (tgt := 36) hx hb dX1_lastStage_8 (by decide) (fun _ => ?_) (fun _ => ?_)
    · exact hk4 v1 _ _ _ hH (lv_sub hl [2] rfl)
    · refine lv_iload_n hx hb dX1_lastStage_11 rfl (lv_at hl 3 rfl) ?_
      refine lv_bipush (v := 36) hx hb dX1_lastStage_12 (by decide) ?_
      refine lv_idiv hx hb dX1_lastStage_14 (by decide) ?_
      refine lv_iload_n hx hb dX1_lastStage_15 rfl (lv_at hl 1 rfl) ?_
      refine kb_icmp_ne (tgt := 30) hx hb dX1_lastStage_16 (by decide) (fun _ => ?_) (fun _ => ?_)
      · refine W_nm (fun v4 ev4 => ?_)
        refine lv_iinc (v := v4) (lv' := [(3, .int v4), (0, .ref (ad 106)), (1, .int a1), (2, .int v1)]) hx hb dX1_lastStage_30 hl (k := 3) rfl (by rw [ev4]; rfl) (by decide) rfl (fun ls hl => ?_)
        refine lv_goto (tgt := 4) hx hb dX1_lastStage_33 (by decide) ?_
        exact hrec4 (v1, v4) _ _ _ hH (lv_sub hl [1, 2, 3, 0] rfl)
      · refine lv_iload_n hx hb dX1_lastStage_19 rfl (lv_at hl 2 rfl) ?_
        refine lv_aload_n hx hb dX1_lastStage_20 rfl (lv_at hl 0 rfl) ?_
        refine k_get C hH fd_X1_31 oD (k_ref (M := M) (ad := ad) rD4) dX1_lastStage_21 ?_
        refine lv_iload_n hx hb dX1_lastStage_24 rfl (lv_at hl 3 rfl) ?_
        refine k_iald C hH aD4 dX1_lastStage_25 ?_
        refine k_mmax C w_2_144 hl.1 (Nat.le_of_ble_eq_true rfl) (Nat.le_of_ble_eq_true rfl) ⟨Nat.zero_le _, Nat.zero_le _⟩ dX1_lastStage_26 ?_
        refine W_nmi (fun v5 => ?_)
        refine lv_istore_n (lv' := [(2, .int v5), (0, .ref (ad 106)), (1, .int a1), (3, .int v2)]) hx hb dX1_lastStage_29 rfl hl (by decide) rfl (fun ls hl => ?_)
        refine W_nm (fun v6 ev6 => ?_)
        refine lv_iinc (v := v6) (lv' := [(3, .int v6), (2, .int v5), (0, .ref (ad 106)), (1, .int a1)]) hx hb dX1_lastStage_30 hl (k := 3) rfl (by rw [ev6]; rfl) (by decide) rfl (fun ls hl => ?_)
        refine lv_goto (tgt := 4) hx hb dX1_lastStage_33 (by decide) ?_
        exact hrec4 (v5, v6) _ _ _ hH (lv_sub hl [2, 3, 1, 0] rfl)
def fX9_rankOf_X11 (v4 : Int32) : Option (Int32) := some v4
theorem fX9_rankOf_X11_u {v4 : Int32} : fX9_rankOf_X11 v4 = some v4 := rfl
def fX9_rankOf_L11 (M : KS) (a0 : Int32) (o1 : Nat) (v1 : Int32) (rec11 : (Int32 × Int32) → Option (Int32)) (k11 : (Int32) → Option (Int32)) (x : Int32 × Int32) : Option (Int32) := match x with | (v2, v3) => (if 6 ≤ v3 then k11 v2 else (fX2_sizeOf M o1 v3).bind fun v5 => (if v1 < v5 then nm (v2 + 1) fun v6 => nm (v3 + 1) fun v7 => rec11 (v6, v7) else (if v5 = v1 then (if a0 ≤ v3 then nm (v3 + 1) fun v9 => rec11 (v2, v9) else nm (v2 + 1) fun v10 => nm (v3 + 1) fun v11 => rec11 (v10, v11)) else nm (v3 + 1) fun v8 => rec11 (v2, v8))))
theorem fX9_rankOf_L11_u {M : KS} {a0 : Int32} {o1 : Nat} {v1 : Int32} {rec11 : (Int32 × Int32) → Option (Int32)} {k11 : (Int32) → Option (Int32)} {v2 : Int32} {v3 : Int32} : fX9_rankOf_L11 M a0 o1 v1 rec11 k11 (v2, v3) = (if 6 ≤ v3 then k11 v2 else (fX2_sizeOf M o1 v3).bind fun v5 => (if v1 < v5 then nm (v2 + 1) fun v6 => nm (v3 + 1) fun v7 => rec11 (v6, v7) else (if v5 = v1 then (if a0 ≤ v3 then nm (v3 + 1) fun v9 => rec11 (v2, v9) else nm (v2 + 1) fun v10 => nm (v3 + 1) fun v11 => rec11 (v10, v11)) else nm (v3 + 1) fun v8 => rec11 (v2, v8)))) := rfl
def fX9_rankOf (M : KS) (a0 : Int32) (o1 : Nat) : Option (Int32) := (fX2_sizeOf M o1 a0).bind fun v1 => lp (fX9_rankOf_L11 M a0 o1 v1) (fX9_rankOf_X11) 1000000 (0, 0)
set_option maxHeartbeats 4000000 in
set_option maxRecDepth 100000 in
theorem kX9_rankOf (l : Launch) (E : KE) (ad : Nat → Nat) (M : KS) (a0 : Int32) (o1 : Nat) (ho1 : o1 < 15) : CT l yX9_rankOf cX9_rankOf 6 (some .int) { frames := 2, cells := 0, slots := 0, locals := 46 } SK E ad [.int a0, .ref (ad (iF o1))] M (fun sz a => QI SK E ad sz (a, M)) (fX9_rankOf M a0 o1) := by
  refine CT.ofW (by decide) (Nat.le_of_ble_eq_true rfl) (fun sz p e s m args below meth c C hr hH ls hl => ?_)
  have hx := C.1.1
  have hb := C.1.2.1
  have hl : lv_has ls 6 [(0, .int a0), (1, .ref (ad (iF o1)))] := hl
  unfold fX9_rankOf
  refine lv_aload_n hx hb dX9_rankOf_0 rfl (lv_at hl 1 rfl) ?_
  refine lv_iload_n hx hb dX9_rankOf_1 rfl (lv_at hl 0 rfl) ?_
  refine kg_io C hH (kc_V C hH w_3_87 lc_yX2_sizeOf li_yX2_sizeOf (oF (f := o1) ho1) (kX2_sizeOf l E ad M o1 ho1 a0) (As := [.int a0]) rfl dX9_rankOf_2 rfl hl.1 (Nat.le_of_ble_eq_true rfl) ⟨Nat.le_of_ble_eq_true rfl, Nat.le_of_ble_eq_true rfl⟩ ⟨Nat.le_of_ble_eq_true rfl, Nat.le_of_ble_eq_true rfl⟩) ⟨rfl, rfl⟩ (fun v1 H locs hH => ?_)
  refine lv_istore_n (lv' := [(2, .int v1), (0, .int a0), (1, .ref (ad (iF o1)))]) hx hb dX9_rankOf_5 rfl hl (by decide) rfl (fun ls hl => ?_)
  refine lv_iconst (v := 0) hx hb dX9_rankOf_6 (by decide) ?_
  refine lv_istore_n (lv' := [(3, .int 0), (2, .int v1), (0, .int a0), (1, .ref (ad (iF o1)))]) hx hb dX9_rankOf_7 rfl hl (by decide) rfl (fun ls hl => ?_)
  refine lv_iconst (v := 0) hx hb dX9_rankOf_8 (by decide) ?_
  refine lv_istore (lv' := [(4, .int 0), (3, .int 0), (2, .int v1), (0, .int a0), (1, .ref (ad (iF o1)))]) hx hb dX9_rankOf_9 hl (by decide) rfl (fun ls hl => ?_)
  refine W_lp (fun (x : Int32 × Int32) H locs => KH SK E ad sz M s.heap H locs) (fun x ls => lv_has ls 6 [(2, .int v1), (0, .int a0), (1, .ref (ad (iF o1))), (3, .int x.1), (4, .int x.2)]) (fun _ ls => F0 m 11 ls []) (fun (x : Int32) H locs => KH SK E ad sz M s.heap H locs) (fun x ls => lv_has ls 6 [(3, .int x)]) (fun _ ls => F0 m 53 ls []) ?_ ?_ hH (lv_sub hl [2, 3, 4, 1, 0] rfl)
  · intro v4 H locs ls hH hl
    have hH : KH SK E ad sz M s.heap H locs := hH
    have hl : lv_has ls 6 [(3, .int v4)] := hl
    refine W_q fX9_rankOf_X11_u ?_
    refine lv_iload_n hx hb dX9_rankOf_53 rfl (lv_at hl 0 rfl) ?_
    exact ke_i C hH hr (Nat.le_refl _) (Nat.le_refl _) rfl dX9_rankOf_54
  · intro rec11 k11 hrec11 hk11 ⟨v2, v3⟩ H locs ls hH hl
    have hH : KH SK E ad sz M s.heap H locs := hH
    have hl : lv_has ls 6 [(2, .int v1), (0, .int a0), (1, .ref (ad (iF o1))), (3, .int v2), (4, .int v3)] := hl
    refine W_q fX9_rankOf_L11_u ?_
    refine lv_iload hx hb dX9_rankOf_11 (lv_at hl 4 rfl) ?_
    refine lv_bipush (v := 6) hx hb dX9_rankOf_13 (by decide) ?_
    refine kb_icmp_ge (tgt := 53) hx hb dX9_rankOf_15 (by decide) (fun _ => ?_) (fun _ => ?_)
    · exact hk11 v2 _ _ _ hH (lv_sub hl [3] rfl)
    · refine lv_aload_n hx hb dX9_rankOf_18 rfl (lv_at hl 2 rfl) ?_
      refine lv_iload hx hb dX9_rankOf_19 (lv_at hl 4 rfl) ?_
      refine kg_io C hH (kc_V C hH w_3_87 lc_yX2_sizeOf li_yX2_sizeOf (oF (f := o1) ho1) (kX2_sizeOf l E ad M o1 ho1 v3) (As := [.int v3]) rfl dX9_rankOf_21 rfl hl.1 (Nat.le_of_ble_eq_true rfl) ⟨Nat.le_of_ble_eq_true rfl, Nat.le_of_ble_eq_true rfl⟩ ⟨Nat.le_of_ble_eq_true rfl, Nat.le_of_ble_eq_true rfl⟩) ⟨rfl, rfl⟩ (fun v5 H locs hH => ?_)
      refine lv_istore (lv' := [(5, .int v5), (2, .int v1), (0, .int a0), (1, .ref (ad (iF o1))), (3, .int v2), (4, .int v3)]) hx hb dX9_rankOf_24 hl (by decide) rfl (fun ls hl => ?_)
      refine lv_iload hx hb dX9_rankOf_26 (lv_at hl 0 rfl) ?_
      refine lv_iload_n hx hb dX9_rankOf_28 rfl (lv_at hl 1 rfl) ?_
      refine kb_icmp_gt (tgt := 44) hx hb dX9_rankOf_29 (by decide) (fun _ => ?_) (fun _ => ?_)
      · refine W_nm (fun v6 ev6 => ?_)
        refine lv_iinc (v := v6) (lv' := [(3, .int v6), (5, .int v5), (2, .int v1), (0, .int a0), (1, .ref (ad (iF o1))), (4, .int v3)]) hx hb dX9_rankOf_44 hl (k := 4) rfl (by rw [ev6]; rfl) (by decide) rfl (fun ls hl => ?_)
        refine W_nm (fun v7 ev7 => ?_)
        refine lv_iinc (v := v7) (lv' := [(4, .int v7), (3, .int v6), (5, .int v5), (2, .int v1), (0, .int a0), (1, .ref (ad (iF o1)))]) hx hb dX9_rankOf_47 hl (k := 5) rfl (by rw [ev7]; rfl) (by decide) rfl (fun ls hl => ?_)
        refine lv_goto (tgt := 11) hx hb dX9_rankOf_50 (by decide) ?_
        exact hrec11 (v6, v7) _ _ _ hH (lv_sub hl [3, 4, 5, 1, 0] rfl)
      · refine lv_iload hx hb dX9_rankOf_32 (lv_at hl 0 rfl) ?_
        refine lv_iload_n hx hb dX9_rankOf_34 rfl (lv_at hl 1 rfl) ?_
        refine kb_icmp_ne (tgt := 47) hx hb dX9_rankOf_35 (by decide) (fun _ => ?_) (fun _ => ?_)
        · refine W_nm (fun v8 ev8 => ?_)
          refine lv_iinc (v := v8) (lv' := [(4, .int v8), (5, .int v5), (2, .int v1), (0, .int a0), (1, .ref (ad (iF o1))), (3, .int v2)]) hx hb dX9_rankOf_47 hl (k := 5) rfl (by rw [ev8]; rfl) (by decide) rfl (fun ls hl => ?_)
          refine lv_goto (tgt := 11) hx hb dX9_rankOf_50 (by decide) ?_
          exact hrec11 (v2, v8) _ _ _ hH (lv_sub hl [2, 3, 4, 5, 0] rfl)
        · refine lv_iload hx hb dX9_rankOf_38 (lv_at hl 5 rfl) ?_
          refine lv_iload_n hx hb dX9_rankOf_40 rfl (lv_at hl 2 rfl) ?_
          refine kb_icmp_ge (tgt := 47) hx hb dX9_rankOf_41 (by decide) (fun _ => ?_) (fun _ => ?_)
          · refine W_nm (fun v9 ev9 => ?_)
            refine lv_iinc (v := v9) (lv' := [(4, .int v9), (5, .int v5), (2, .int v1), (0, .int a0), (1, .ref (ad (iF o1))), (3, .int v2)]) hx hb dX9_rankOf_47 hl (k := 5) rfl (by rw [ev9]; rfl) (by decide) rfl (fun ls hl => ?_)
            refine lv_goto (tgt := 11) hx hb dX9_rankOf_50 (by decide) ?_
            exact hrec11 (v2, v9) _ _ _ hH (lv_sub hl [2, 3, 4, 5, 0] rfl)
          · refine W_nm (fun v10 ev10 => ?_)
            refine lv_iinc (v := v10) (lv' := [(3, .int v10), (5, .int v5), (2, .int v1), (0, .int a0), (1, .ref (ad (iF o1))), (4, .int v3)]) hx hb dX9_rankOf_44 hl (k := 4) rfl (by rw [ev10]; rfl) (by decide) rfl (fun ls hl => ?_)
            refine W_nm (fun v11 ev11 => ?_)
            refine lv_iinc (v := v11) (lv' := [(4, .int v11), (3, .int v10), (5, .int v5), (2, .int v1), (0, .int a0), (1, .ref (ad (iF o1)))]) hx hb dX9_rankOf_47 hl (k := 5) rfl (by rw [ev11]; rfl) (by decide) rfl (fun ls hl => ?_)
            refine lv_goto (tgt := 11) hx hb dX9_rankOf_50 (by decide) ?_
            exact hrec11 (v10, v11) _ _ _ hH (lv_sub hl [3, 4, 5, 1, 0] rfl)
def fX9_isCode_o (a0 : Int32) : Option (Int32) := (if a0 = 0 then some 0 else (if a0 < (-54) then some 0 else (if 54 < a0 then some 0 else some 1)))
def fX9_isCode (a0 : Int32) : Int32 := (if a0 = 0 then 0 else (if a0 < (-54) then 0 else (if 54 < a0 then 0 else 1)))
theorem fX9_isCode_s {a0 : Int32} : fX9_isCode_o a0 = some (fX9_isCode a0) := by
  unfold fX9_isCode_o fX9_isCode
  (repeat' split) <;> rfl
set_option maxHeartbeats 4000000 in
set_option maxRecDepth 100000 in
theorem kX9_isCode_o (l : Launch) (E : KE) (ad : Nat → Nat) (M : KS) (a0 : Int32) : CT l yX9_isCode cX9_isCode 1 (some .boolean) { frames := 0, cells := 0, slots := 0, locals := 0 } SK E ad [.int a0] M (fun sz a => QI SK E ad sz (a, M)) (fX9_isCode_o a0) := by
  refine CT.ofW (by decide) (Nat.le_of_ble_eq_true rfl) (fun sz p e s m args below meth c C hr hH ls hl => ?_)
  have hx := C.1.1
  have hb := C.1.2.1
  have hl : lv_has ls 1 [(0, .int a0)] := hl
  unfold fX9_isCode_o
  refine lv_iload_n hx hb dX9_isCode_0 rfl (lv_at hl 0 rfl) ?_
  refine kb_if_eq (tgt := 20) hx hb dX9_isCode_1 (by decide) (fun _ => ?_) (fun _ => ?_)
  · refine lv_iconst (v := 0) hx hb dX9_isCode_20 (by decide) ?_
    exact ke_z C hH hr (Nat.le_refl _) (Nat.le_refl _) rfl (Or.inl rfl) dX9_isCode_21
  · refine lv_iload_n hx hb dX9_isCode_4 rfl (lv_at hl 0 rfl) ?_
    refine lv_bipush (v := (-54)) hx hb dX9_isCode_5 (by decide) ?_
    refine kb_icmp_lt (tgt := 20) hx hb dX9_isCode_7 (by decide) (fun _ => ?_) (fun _ => ?_)
    · refine lv_iconst (v := 0) hx hb dX9_isCode_20 (by decide) ?_
      exact ke_z C hH hr (Nat.le_refl _) (Nat.le_refl _) rfl (Or.inl rfl) dX9_isCode_21
    · refine lv_iload_n hx hb dX9_isCode_10 rfl (lv_at hl 0 rfl) ?_
      refine lv_bipush (v := 54) hx hb dX9_isCode_11 (by decide) ?_
      refine kb_icmp_gt (tgt := 20) hx hb dX9_isCode_13 (by decide) (fun _ => ?_) (fun _ => ?_)
      · refine lv_iconst (v := 0) hx hb dX9_isCode_20 (by decide) ?_
        exact ke_z C hH hr (Nat.le_refl _) (Nat.le_refl _) rfl (Or.inl rfl) dX9_isCode_21
      · refine lv_iconst (v := 1) hx hb dX9_isCode_16 (by decide) ?_
        refine lv_goto (tgt := 21) hx hb dX9_isCode_17 (by decide) ?_
        exact ke_z C hH hr (Nat.le_refl _) (Nat.le_refl _) rfl (Or.inr rfl) dX9_isCode_21
theorem kX9_isCode (l : Launch) (E : KE) (ad : Nat → Nat) (M : KS) (a0 : Int32) : CT l yX9_isCode cX9_isCode 1 (some .boolean) { frames := 0, cells := 0, slots := 0, locals := 0 } SK E ad [.int a0] M (fun sz (_ : Unit) => QI SK E ad sz (fX9_isCode a0, M)) (some ()) := CT.pure (kX9_isCode_o l E ad M a0) fX9_isCode_s
def fX9_isRule_o (a0 : Int32) (a1 : Int32) (a2 : Int32) (a3 : Int32) : Option (Int32) := (if (fX9_isRelation a0) = 0 then some 0 else (if (fX9_isCode a1) = 0 then some 0 else (if a2 = 0 then (if a3 = 0 then some 1 else some 0) else (if (fX9_isCode a2) = 0 then some 0 else (if a3 = 0 then some 1 else (if (fX9_isCode a3) = 0 then some 0 else some 1))))))
def fX9_isRule (a0 : Int32) (a1 : Int32) (a2 : Int32) (a3 : Int32) : Int32 := (if (fX9_isRelation a0) = 0 then 0 else (if (fX9_isCode a1) = 0 then 0 else (if a2 = 0 then (if a3 = 0 then 1 else 0) else (if (fX9_isCode a2) = 0 then 0 else (if a3 = 0 then 1 else (if (fX9_isCode a3) = 0 then 0 else 1))))))
theorem fX9_isRule_s {a0 : Int32} {a1 : Int32} {a2 : Int32} {a3 : Int32} : fX9_isRule_o a0 a1 a2 a3 = some (fX9_isRule a0 a1 a2 a3) := by
  unfold fX9_isRule_o fX9_isRule
  (repeat' split) <;> rfl
set_option maxHeartbeats 4000000 in
set_option maxRecDepth 100000 in
theorem kX9_isRule_o (l : Launch) (E : KE) (ad : Nat → Nat) (M : KS) (a0 : Int32) (a1 : Int32) (a2 : Int32) (a3 : Int32) : CT l yX9_isRule cX9_isRule 4 (some .boolean) { frames := 1, cells := 0, slots := 0, locals := 20 } SK E ad [.int a0, .int a1, .int a2, .int a3] M (fun sz a => QI SK E ad sz (a, M)) (fX9_isRule_o a0 a1 a2 a3) := by
  refine CT.ofW (by decide) (Nat.le_of_ble_eq_true rfl) (fun sz p e s m args below meth c C hr hH ls hl => ?_)
  have hx := C.1.1
  have hb := C.1.2.1
  have hl : lv_has ls 4 [(0, .int a0), (1, .int a1), (2, .int a2), (3, .int a3)] := hl
  unfold fX9_isRule_o
  refine lv_iload_n hx hb dX9_isRule_0 rfl (lv_at hl 0 rfl) ?_
  refine kg_ip C hH (kc_S C hH w_2_234 w_st_yX9_isRelation rfl lc_yX9_isRelation (kX9_isRelation l E ad M a0) (As := [.int a0]) rfl dX9_isRule_1 rfl hl.1 (Nat.le_of_ble_eq_true rfl) ⟨Nat.le_of_ble_eq_true rfl, Nat.le_of_ble_eq_true rfl⟩ ⟨Nat.le_of_ble_eq_true rfl, Nat.le_of_ble_eq_true rfl⟩) ⟨rfl, rfl⟩ (fun H locs hH => ?_)
  refine kb_if_eq (tgt := 14) hx hb dX9_isRule_4 (by decide) (fun _ => ?_) (fun _ => ?_)
  · refine lv_iconst (v := 0) hx hb dX9_isRule_14 (by decide) ?_
    exact ke_z C hH hr (Nat.le_refl _) (Nat.le_refl _) rfl (Or.inl rfl) dX9_isRule_15
  · refine lv_iload_n hx hb dX9_isRule_7 rfl (lv_at hl 1 rfl) ?_
    refine kg_ip C hH (kc_S C hH w_4_72 w_st_yX9_isCode rfl lc_yX9_isCode (kX9_isCode l E ad M a1) (As := [.int a1]) rfl dX9_isRule_8 rfl hl.1 (Nat.le_of_ble_eq_true rfl) ⟨Nat.le_of_ble_eq_true rfl, Nat.le_of_ble_eq_true rfl⟩ ⟨Nat.le_of_ble_eq_true rfl, Nat.le_of_ble_eq_true rfl⟩) ⟨rfl, rfl⟩ (fun H locs hH => ?_)
    refine kb_if_ne (tgt := 16) hx hb dX9_isRule_11 (by decide) (fun _ => ?_) (fun _ => ?_)
    · refine lv_iload_n hx hb dX9_isRule_16 rfl (lv_at hl 2 rfl) ?_
      refine kb_if_ne (tgt := 30) hx hb dX9_isRule_17 (by decide) (fun _ => ?_) (fun _ => ?_)
      · refine lv_iload_n hx hb dX9_isRule_30 rfl (lv_at hl 2 rfl) ?_
        refine kg_ip C hH (kc_S C hH w_4_72 w_st_yX9_isCode rfl lc_yX9_isCode (kX9_isCode l E ad M a2) (As := [.int a2]) rfl dX9_isRule_31 rfl hl.1 (Nat.le_of_ble_eq_true rfl) ⟨Nat.le_of_ble_eq_true rfl, Nat.le_of_ble_eq_true rfl⟩ ⟨Nat.le_of_ble_eq_true rfl, Nat.le_of_ble_eq_true rfl⟩) ⟨rfl, rfl⟩ (fun H locs hH => ?_)
        refine kb_if_eq (tgt := 52) hx hb dX9_isRule_34 (by decide) (fun _ => ?_) (fun _ => ?_)
        · refine lv_iconst (v := 0) hx hb dX9_isRule_52 (by decide) ?_
          exact ke_z C hH hr (Nat.le_refl _) (Nat.le_refl _) rfl (Or.inl rfl) dX9_isRule_53
        · refine lv_iload_n hx hb dX9_isRule_37 rfl (lv_at hl 3 rfl) ?_
          refine kb_if_eq (tgt := 48) hx hb dX9_isRule_38 (by decide) (fun _ => ?_) (fun _ => ?_)
          · refine lv_iconst (v := 1) hx hb dX9_isRule_48 (by decide) ?_
            refine lv_goto (tgt := 53) hx hb dX9_isRule_49 (by decide) ?_
            exact ke_z C hH hr (Nat.le_refl _) (Nat.le_refl _) rfl (Or.inr rfl) dX9_isRule_53
          · refine lv_iload_n hx hb dX9_isRule_41 rfl (lv_at hl 3 rfl) ?_
            refine kg_ip C hH (kc_S C hH w_4_72 w_st_yX9_isCode rfl lc_yX9_isCode (kX9_isCode l E ad M a3) (As := [.int a3]) rfl dX9_isRule_42 rfl hl.1 (Nat.le_of_ble_eq_true rfl) ⟨Nat.le_of_ble_eq_true rfl, Nat.le_of_ble_eq_true rfl⟩ ⟨Nat.le_of_ble_eq_true rfl, Nat.le_of_ble_eq_true rfl⟩) ⟨rfl, rfl⟩ (fun H locs hH => ?_)
            refine kb_if_eq (tgt := 52) hx hb dX9_isRule_45 (by decide) (fun _ => ?_) (fun _ => ?_)
            · refine lv_iconst (v := 0) hx hb dX9_isRule_52 (by decide) ?_
              exact ke_z C hH hr (Nat.le_refl _) (Nat.le_refl _) rfl (Or.inl rfl) dX9_isRule_53
            · refine lv_iconst (v := 1) hx hb dX9_isRule_48 (by decide) ?_
              refine lv_goto (tgt := 53) hx hb dX9_isRule_49 (by decide) ?_
              exact ke_z C hH hr (Nat.le_refl _) (Nat.le_refl _) rfl (Or.inr rfl) dX9_isRule_53
      · refine lv_iload_n hx hb dX9_isRule_20 rfl (lv_at hl 3 rfl) ?_
        refine kb_if_ne (tgt := 28) hx hb dX9_isRule_21 (by decide) (fun _ => ?_) (fun _ => ?_)
        · refine lv_iconst (v := 0) hx hb dX9_isRule_28 (by decide) ?_
          exact ke_z C hH hr (Nat.le_refl _) (Nat.le_refl _) rfl (Or.inl rfl) dX9_isRule_29
        · refine lv_iconst (v := 1) hx hb dX9_isRule_24 (by decide) ?_
          refine lv_goto (tgt := 29) hx hb dX9_isRule_25 (by decide) ?_
          exact ke_z C hH hr (Nat.le_refl _) (Nat.le_refl _) rfl (Or.inr rfl) dX9_isRule_29
    · refine lv_iconst (v := 0) hx hb dX9_isRule_14 (by decide) ?_
      exact ke_z C hH hr (Nat.le_refl _) (Nat.le_refl _) rfl (Or.inl rfl) dX9_isRule_15
theorem kX9_isRule (l : Launch) (E : KE) (ad : Nat → Nat) (M : KS) (a0 : Int32) (a1 : Int32) (a2 : Int32) (a3 : Int32) : CT l yX9_isRule cX9_isRule 4 (some .boolean) { frames := 1, cells := 0, slots := 0, locals := 20 } SK E ad [.int a0, .int a1, .int a2, .int a3] M (fun sz (_ : Unit) => QI SK E ad sz (fX9_isRule a0 a1 a2 a3, M)) (some ()) := CT.pure (kX9_isRule_o l E ad M a0 a1 a2 a3) fX9_isRule_s
def fX6_hasZ (a0 : Int32) : Option (Int32) := (if a0 = 0 then some 0 else (fX9_firstIn a0).bind fun v1 => (if v1 = 2 then some 1 else (if (fX9_secondIn a0) = 2 then some 1 else some 0)))
set_option maxHeartbeats 4000000 in
set_option maxRecDepth 100000 in
theorem kX6_hasZ (l : Launch) (E : KE) (ad : Nat → Nat) (M : KS) (a0 : Int32) : CT l yX6_hasZ cX6_hasZ 1 (some .boolean) { frames := 1, cells := 0, slots := 0, locals := 20 } SK E ad [.int a0] M (fun sz a => QI SK E ad sz (a, M)) (fX6_hasZ a0) := by
  refine CT.ofW (by decide) (Nat.le_of_ble_eq_true rfl) (fun sz p e s m args below meth c C hr hH ls hl => ?_)
  have hx := C.1.1
  have hb := C.1.2.1
  have hl : lv_has ls 1 [(0, .int a0)] := hl
  unfold fX6_hasZ
  refine lv_iload_n hx hb dX6_hasZ_0 rfl (lv_at hl 0 rfl) ?_
  refine kb_if_eq (tgt := 24) hx hb dX6_hasZ_1 (by decide) (fun _ => ?_) (fun _ => ?_)
  · refine lv_iconst (v := 0) hx hb dX6_hasZ_24 (by decide) ?_
    exact ke_z C hH hr (Nat.le_refl _) (Nat.le_refl _) rfl (Or.inl rfl) dX6_hasZ_25
  · refine lv_iload_n hx hb dX6_hasZ_4 rfl (lv_at hl 0 rfl) ?_
    refine kg_io C hH (kc_SN C hH w_2_97 w_st_yX9_firstIn lc_yX9_firstIn (kX9_firstIn l E ad M a0) (As := [.int a0]) rfl dX6_hasZ_5 rfl hl.1 (Nat.le_of_ble_eq_true rfl) ⟨Nat.le_of_ble_eq_true rfl, Nat.le_of_ble_eq_true rfl⟩ ⟨Nat.le_of_ble_eq_true rfl, Nat.le_of_ble_eq_true rfl⟩) ⟨rfl, rfl⟩ (fun v1 H locs hH => ?_)
    refine lv_iconst (v := 2) hx hb dX6_hasZ_8 (by decide) ?_
    refine kb_icmp_eq (tgt := 20) hx hb dX6_hasZ_9 (by decide) (fun _ => ?_) (fun _ => ?_)
    · refine lv_iconst (v := 1) hx hb dX6_hasZ_20 (by decide) ?_
      refine lv_goto (tgt := 25) hx hb dX6_hasZ_21 (by decide) ?_
      exact ke_z C hH hr (Nat.le_refl _) (Nat.le_refl _) rfl (Or.inr rfl) dX6_hasZ_25
    · refine lv_iload_n hx hb dX6_hasZ_12 rfl (lv_at hl 0 rfl) ?_
      refine kg_ip C hH (kc_SN C hH w_2_100 w_st_yX9_secondIn lc_yX9_secondIn (kX9_secondIn l E ad M a0) (As := [.int a0]) rfl dX6_hasZ_13 rfl hl.1 (Nat.le_of_ble_eq_true rfl) ⟨Nat.le_of_ble_eq_true rfl, Nat.le_of_ble_eq_true rfl⟩ ⟨Nat.le_of_ble_eq_true rfl, Nat.le_of_ble_eq_true rfl⟩) ⟨rfl, rfl⟩ (fun H locs hH => ?_)
      refine lv_iconst (v := 2) hx hb dX6_hasZ_16 (by decide) ?_
      refine kb_icmp_ne (tgt := 24) hx hb dX6_hasZ_17 (by decide) (fun _ => ?_) (fun _ => ?_)
      · refine lv_iconst (v := 0) hx hb dX6_hasZ_24 (by decide) ?_
        exact ke_z C hH hr (Nat.le_refl _) (Nat.le_refl _) rfl (Or.inl rfl) dX6_hasZ_25
      · refine lv_iconst (v := 1) hx hb dX6_hasZ_20 (by decide) ?_
        refine lv_goto (tgt := 25) hx hb dX6_hasZ_21 (by decide) ?_
        exact ke_z C hH hr (Nat.le_refl _) (Nat.le_refl _) rfl (Or.inr rfl) dX6_hasZ_25
def fX6_propose_J95_72 (o0 : Nat) (M4 : KS) (v6 : Int32) : Option (KS) := (if v6 = 0 then if inb (M4.1 (iR o0) 3) 11 then nm (kset M4 (iRa o0) (M4.1 (iR o0) 3).toNatClampNeg 1) fun M7 => some M7 else none else if inb (M4.1 (iR o0) 3) 11 then nm (kset M4 (iRa o0) (M4.1 (iR o0) 3).toNatClampNeg 63) fun M8 => some M8 else none)
theorem fX6_propose_J95_72_u {o0 : Nat} {M4 : KS} {v6 : Int32} : fX6_propose_J95_72 o0 M4 v6 = (if v6 = 0 then if inb (M4.1 (iR o0) 3) 11 then nm (kset M4 (iRa o0) (M4.1 (iR o0) 3).toNatClampNeg 1) fun M7 => some M7 else none else if inb (M4.1 (iR o0) 3) 11 then nm (kset M4 (iRa o0) (M4.1 (iR o0) 3).toNatClampNeg 63) fun M8 => some M8 else none) := rfl
def fX6_propose (M : KS) (o0 : Nat) (a1 : Int32) (a2 : Int32) (a3 : Int32) (a4 : Int32) : Option (KS) := (if (M.1 (iR o0) 3) < 0 then some M else (if (M.1 (iR o0) 3) ≤ 10 then if inb (M.1 (iR o0) 3) 11 then nm (kset M (iRh o0) (M.1 (iR o0) 3).toNatClampNeg a1) fun M1 => if inb (3 * (M1.1 (iR o0) 3)) 33 then nm (kset M1 (iRc o0) (3 * (M1.1 (iR o0) 3)).toNatClampNeg a2) fun M2 => if inb ((3 * (M2.1 (iR o0) 3)) + 1) 33 then nm (kset M2 (iRc o0) ((3 * (M2.1 (iR o0) 3)) + 1).toNatClampNeg a3) fun M3 => if inb ((3 * (M3.1 (iR o0) 3)) + 2) 33 then nm (kset M3 (iRc o0) ((3 * (M3.1 (iR o0) 3)) + 2).toNatClampNeg a4) fun M4 => (fX6_hasZ a2).bind fun v5 => jn (fX6_propose_J95_72 o0 M4) (fun K95_72 => (if v5 = 0 then (fX6_hasZ a3).bind fun v9 => (if v9 = 0 then (fX6_hasZ a4).bind fun v10 => (if v10 = 0 then K95_72 0 else K95_72 1) else K95_72 1) else K95_72 1)) else none else none else none else none else some M))
set_option maxHeartbeats 4000000 in
set_option maxRecDepth 100000 in
theorem kX6_propose (l : Launch) (E : KE) (ad : Nat → Nat) (M : KS) (o0 : Nat) (ho0 : o0 < 11) (a1 : Int32) (a2 : Int32) (a3 : Int32) (a4 : Int32) : CT l yX6_propose cX6_propose 6 none { frames := 2, cells := 0, slots := 0, locals := 40 } SK E ad [.ref (ad (iR o0)), .int a1, .int a2, .int a3, .int a4] M (QV SK E ad) (fX6_propose M o0 a1 a2 a3 a4) := by
  refine CT.ofW (by decide) (Nat.le_of_ble_eq_true rfl) (fun sz p e s m args below meth c C hr hH ls hl => ?_)
  have hx := C.1.1
  have hb := C.1.2.1
  have hl : lv_has ls 6 [(0, .ref (ad (iR o0))), (1, .int a1), (2, .int a2), (3, .int a3), (4, .int a4)] := hl
  unfold fX6_propose
  refine lv_aload_n hx hb dX6_propose_0 rfl (lv_at hl 0 rfl) ?_
  refine k_get C hH fd_X6_21 (oR (f := o0) ho0) (k_int (M := M) (ad := ad) (nR3 (f := o0) ho0)) dX6_propose_1 ?_
  refine kb_if_lt (tgt := 16) hx hb dX6_propose_4 (by decide) (fun _ => ?_) (fun _ => ?_)
  · exact ke_v C hH hr (Nat.le_refl _) (Nat.le_refl _) rfl dX6_propose_16
  · refine lv_aload_n hx hb dX6_propose_7 rfl (lv_at hl 0 rfl) ?_
    refine k_get C hH fd_X6_21 (oR (f := o0) ho0) (k_int (M := M) (ad := ad) (nR3 (f := o0) ho0)) dX6_propose_8 ?_
    refine lv_bipush (v := 10) hx hb dX6_propose_11 (by decide) ?_
    refine kb_icmp_le (tgt := 17) hx hb dX6_propose_13 (by decide) (fun _ => ?_) (fun _ => ?_)
    · refine lv_aload_n hx hb dX6_propose_17 rfl (lv_at hl 0 rfl) ?_
      refine k_get C hH fd_X6_9 (oR (f := o0) ho0) (k_ref (M := M) (ad := ad) (rR0 (f := o0) ho0)) dX6_propose_18 ?_
      refine lv_aload_n hx hb dX6_propose_21 rfl (lv_at hl 0 rfl) ?_
      refine k_get C hH fd_X6_21 (oR (f := o0) ho0) (k_int (M := M) (ad := ad) (nR3 (f := o0) ho0)) dX6_propose_22 ?_
      refine lv_iload_n hx hb dX6_propose_25 rfl (lv_at hl 1 rfl) ?_
      refine k_iast C hH (aR0 (f := o0) ho0) dX6_propose_26 (fun M1 H locs hH => ?_)
      refine lv_aload_n hx hb dX6_propose_27 rfl (lv_at hl 0 rfl) ?_
      refine k_get C hH fd_X6_15 (oR (f := o0) ho0) (k_ref (M := M1) (ad := ad) (rR1 (f := o0) ho0)) dX6_propose_28 ?_
      refine lv_iconst (v := 3) hx hb dX6_propose_31 (by decide) ?_
      refine lv_aload_n hx hb dX6_propose_32 rfl (lv_at hl 0 rfl) ?_
      refine k_get C hH fd_X6_21 (oR (f := o0) ho0) (k_int (M := M1) (ad := ad) (nR3 (f := o0) ho0)) dX6_propose_33 ?_
      refine lv_imul hx hb dX6_propose_36 ?_
      refine lv_iload_n hx hb dX6_propose_37 rfl (lv_at hl 2 rfl) ?_
      refine k_iast C hH (aR1 (f := o0) ho0) dX6_propose_38 (fun M2 H locs hH => ?_)
      refine lv_aload_n hx hb dX6_propose_39 rfl (lv_at hl 0 rfl) ?_
      refine k_get C hH fd_X6_15 (oR (f := o0) ho0) (k_ref (M := M2) (ad := ad) (rR1 (f := o0) ho0)) dX6_propose_40 ?_
      refine lv_iconst (v := 3) hx hb dX6_propose_43 (by decide) ?_
      refine lv_aload_n hx hb dX6_propose_44 rfl (lv_at hl 0 rfl) ?_
      refine k_get C hH fd_X6_21 (oR (f := o0) ho0) (k_int (M := M2) (ad := ad) (nR3 (f := o0) ho0)) dX6_propose_45 ?_
      refine lv_imul hx hb dX6_propose_48 ?_
      refine lv_iconst (v := 1) hx hb dX6_propose_49 (by decide) ?_
      refine lv_iadd hx hb dX6_propose_50 ?_
      refine lv_iload_n hx hb dX6_propose_51 rfl (lv_at hl 3 rfl) ?_
      refine k_iast C hH (aR1 (f := o0) ho0) dX6_propose_52 (fun M3 H locs hH => ?_)
      refine lv_aload_n hx hb dX6_propose_53 rfl (lv_at hl 0 rfl) ?_
      refine k_get C hH fd_X6_15 (oR (f := o0) ho0) (k_ref (M := M3) (ad := ad) (rR1 (f := o0) ho0)) dX6_propose_54 ?_
      refine lv_iconst (v := 3) hx hb dX6_propose_57 (by decide) ?_
      refine lv_aload_n hx hb dX6_propose_58 rfl (lv_at hl 0 rfl) ?_
      refine k_get C hH fd_X6_21 (oR (f := o0) ho0) (k_int (M := M3) (ad := ad) (nR3 (f := o0) ho0)) dX6_propose_59 ?_
      refine lv_imul hx hb dX6_propose_62 ?_
      refine lv_iconst (v := 2) hx hb dX6_propose_63 (by decide) ?_
      refine lv_iadd hx hb dX6_propose_64 ?_
      refine lv_iload hx hb dX6_propose_65 (lv_at hl 4 rfl) ?_
      refine k_iast C hH (aR1 (f := o0) ho0) dX6_propose_67 (fun M4 H locs hH => ?_)
      refine lv_iload_n hx hb dX6_propose_68 rfl (lv_at hl 2 rfl) ?_
      refine kg_io C hH (kc_S C hH w_4_84 w_st_yX6_hasZ rfl lc_yX6_hasZ (kX6_hasZ l E ad M4 a2) (As := [.int a2]) rfl dX6_propose_69 rfl hl.1 (Nat.le_of_ble_eq_true rfl) ⟨Nat.le_of_ble_eq_true rfl, Nat.le_of_ble_eq_true rfl⟩ ⟨Nat.le_of_ble_eq_true rfl, Nat.le_of_ble_eq_true rfl⟩) ⟨rfl, rfl⟩ (fun v5 H locs hH => ?_)
      refine W_jn (fun (x : Int32) H locs => KH SK E ad sz M4 s.heap H locs) (fun x ls => lv_has ls 6 [(0, .ref (ad (iR o0)))]) (fun x ls => F0 m 95 ls [.int x]) ?_ (fun K95_72 hK95_72 => ?_)
      · intro v6 H locs ls hH hl
        have hH : KH SK E ad sz M4 s.heap H locs := hH
        have hl : lv_has ls 6 [(0, .ref (ad (iR o0)))] := hl
        refine W_q fX6_propose_J95_72_u ?_
        refine lv_istore (lv' := [(5, .int v6), (0, .ref (ad (iR o0)))]) hx hb dX6_propose_95 hl (by decide) rfl (fun ls hl => ?_)
        refine lv_aload_n hx hb dX6_propose_97 rfl (lv_at hl 1 rfl) ?_
        refine k_get C hH fd_X6_18 (oR (f := o0) ho0) (k_ref (M := M4) (ad := ad) (rR2 (f := o0) ho0)) dX6_propose_98 ?_
        refine lv_aload_n hx hb dX6_propose_101 rfl (lv_at hl 1 rfl) ?_
        refine k_get C hH fd_X6_21 (oR (f := o0) ho0) (k_int (M := M4) (ad := ad) (nR3 (f := o0) ho0)) dX6_propose_102 ?_
        refine lv_iload hx hb dX6_propose_105 (lv_at hl 0 rfl) ?_
        refine kb_if_eq (tgt := 115) hx hb dX6_propose_107 (by decide) (fun _ => ?_) (fun _ => ?_)
        · refine lv_iconst (v := 1) hx hb dX6_propose_115 (by decide) ?_
          refine k_iast C hH (aR2 (f := o0) ho0) dX6_propose_116 (fun M7 H locs hH => ?_)
          exact ke_v C hH hr (Nat.le_refl _) (Nat.le_refl _) rfl dX6_propose_117
        · refine lv_bipush (v := 63) hx hb dX6_propose_110 (by decide) ?_
          refine lv_goto (tgt := 116) hx hb dX6_propose_112 (by decide) ?_
          refine k_iast C hH (aR2 (f := o0) ho0) dX6_propose_116 (fun M8 H locs hH => ?_)
          exact ke_v C hH hr (Nat.le_refl _) (Nat.le_refl _) rfl dX6_propose_117
      · refine kb_if_ne (tgt := 90) hx hb dX6_propose_72 (by decide) (fun _ => ?_) (fun _ => ?_)
        · refine lv_iconst (v := 1) hx hb dX6_propose_90 (by decide) ?_
          refine lv_goto (tgt := 95) hx hb dX6_propose_91 (by decide) ?_
          exact hK95_72 1 _ _ _ hH (lv_sub hl [0] rfl)
        · refine lv_iload_n hx hb dX6_propose_75 rfl (lv_at hl 3 rfl) ?_
          refine kg_io C hH (kc_S C hH w_4_84 w_st_yX6_hasZ rfl lc_yX6_hasZ (kX6_hasZ l E ad M4 a3) (As := [.int a3]) rfl dX6_propose_76 rfl hl.1 (Nat.le_of_ble_eq_true rfl) ⟨Nat.le_of_ble_eq_true rfl, Nat.le_of_ble_eq_true rfl⟩ ⟨Nat.le_of_ble_eq_true rfl, Nat.le_of_ble_eq_true rfl⟩) ⟨rfl, rfl⟩ (fun v9 H locs hH => ?_)
          refine kb_if_ne (tgt := 90) hx hb dX6_propose_79 (by decide) (fun _ => ?_) (fun _ => ?_)
          · refine lv_iconst (v := 1) hx hb dX6_propose_90 (by decide) ?_
            refine lv_goto (tgt := 95) hx hb dX6_propose_91 (by decide) ?_
            exact hK95_72 1 _ _ _ hH (lv_sub hl [0] rfl)
          · refine lv_iload hx hb dX6_propose_82 (lv_at hl 4 rfl) ?_
            refine kg_io C hH (kc_S C hH w_4_84 w_st_yX6_hasZ rfl lc_yX6_hasZ (kX6_hasZ l E ad M4 a4) (As := [.int a4]) rfl dX6_propose_84 rfl hl.1 (Nat.le_of_ble_eq_true rfl) ⟨Nat.le_of_ble_eq_true rfl, Nat.le_of_ble_eq_true rfl⟩ ⟨Nat.le_of_ble_eq_true rfl, Nat.le_of_ble_eq_true rfl⟩) ⟨rfl, rfl⟩ (fun v10 H locs hH => ?_)
            refine kb_if_eq (tgt := 94) hx hb dX6_propose_87 (by decide) (fun _ => ?_) (fun _ => ?_)
            · refine lv_iconst (v := 0) hx hb dX6_propose_94 (by decide) ?_
              exact hK95_72 0 _ _ _ hH (lv_sub hl [0] rfl)
            · refine lv_iconst (v := 1) hx hb dX6_propose_90 (by decide) ?_
              refine lv_goto (tgt := 95) hx hb dX6_propose_91 (by decide) ?_
              exact hK95_72 1 _ _ _ hH (lv_sub hl [0] rfl)
    · exact ke_v C hH hr (Nat.le_refl _) (Nat.le_refl _) rfl dX6_propose_16
def fX6_unsafeLetter_X79 (_ : Unit) : Option (Int32) := some (-1)
theorem fX6_unsafeLetter_X79_u {u : Unit} : fX6_unsafeLetter_X79 u = some (-1) := rfl
def fX6_unsafeLetter_L79 (v4 : Int32) (v5 : Int32) (rec79 : (Int32) → Option (Int32)) (k79 : (Unit) → Option (Int32)) (v6 : Int32) : Option (Int32) := (if 3 ≤ v6 then k79 () else (if ((v5 &&& (v4 ^^^ (-1))) &&& (jshl 1 v6)) = 0 then nm (v6 + 1) fun v7 => rec79 v7 else some v6))
theorem fX6_unsafeLetter_L79_u {v4 : Int32} {v5 : Int32} {rec79 : (Int32) → Option (Int32)} {k79 : (Unit) → Option (Int32)} {v6 : Int32} : fX6_unsafeLetter_L79 v4 v5 rec79 k79 v6 = (if 3 ≤ v6 then k79 () else (if ((v5 &&& (v4 ^^^ (-1))) &&& (jshl 1 v6)) = 0 then nm (v6 + 1) fun v7 => rec79 v7 else some v6)) := rfl
def fX6_unsafeLetter_X6 (x : Int32 × Int32) : Option (Int32) := match x with | (v4, v5) => lp (fX6_unsafeLetter_L79 v4 v5) (fX6_unsafeLetter_X79) 1000000 0
theorem fX6_unsafeLetter_X6_u {v4 : Int32} {v5 : Int32} : fX6_unsafeLetter_X6 (v4, v5) = lp (fX6_unsafeLetter_L79 v4 v5) (fX6_unsafeLetter_X79) 1000000 0 := rfl
def fX6_unsafeLetter_L6 (M : KS) (o0 : Nat) (rec6 : (Int32 × Int32 × Int32) → Option (Int32)) (k6 : (Int32 × Int32) → Option (Int32)) (x : Int32 × Int32 × Int32) : Option (Int32) := match x with | (v1, v2, v3) => (if 3 ≤ v3 then k6 (v1, v2) else (fX6_code M o0 (M.1 (iR o0) 3) v3).bind fun v8 => (if v8 ≤ 0 then (if 0 ≤ v8 then nm (v3 + 1) fun v9 => rec6 (v1, v2, v9) else (fX9_firstIn v8).bind fun v10 => nm ((v2 ||| ((jshl 1 v10) ||| (jshl 1 (fX9_secondIn v8))))) fun v11 => nm (v3 + 1) fun v12 => rec6 (v1, v11, v12)) else (fX9_firstIn v8).bind fun v13 => nm ((v1 ||| ((jshl 1 v13) ||| (jshl 1 (fX9_secondIn v8))))) fun v14 => nm (v3 + 1) fun v15 => rec6 (v14, v2, v15)))
theorem fX6_unsafeLetter_L6_u {M : KS} {o0 : Nat} {rec6 : (Int32 × Int32 × Int32) → Option (Int32)} {k6 : (Int32 × Int32) → Option (Int32)} {v1 : Int32} {v2 : Int32} {v3 : Int32} : fX6_unsafeLetter_L6 M o0 rec6 k6 (v1, v2, v3) = (if 3 ≤ v3 then k6 (v1, v2) else (fX6_code M o0 (M.1 (iR o0) 3) v3).bind fun v8 => (if v8 ≤ 0 then (if 0 ≤ v8 then nm (v3 + 1) fun v9 => rec6 (v1, v2, v9) else (fX9_firstIn v8).bind fun v10 => nm ((v2 ||| ((jshl 1 v10) ||| (jshl 1 (fX9_secondIn v8))))) fun v11 => nm (v3 + 1) fun v12 => rec6 (v1, v11, v12)) else (fX9_firstIn v8).bind fun v13 => nm ((v1 ||| ((jshl 1 v13) ||| (jshl 1 (fX9_secondIn v8))))) fun v14 => nm (v3 + 1) fun v15 => rec6 (v14, v2, v15))) := rfl
def fX6_unsafeLetter (M : KS) (o0 : Nat) : Option (Int32) := lp (fX6_unsafeLetter_L6 M o0) (fX6_unsafeLetter_X6) 1000000 (0, 3, 0)
set_option maxHeartbeats 4000000 in
set_option maxRecDepth 100000 in
theorem kX6_unsafeLetter (l : Launch) (E : KE) (ad : Nat → Nat) (M : KS) (o0 : Nat) (ho0 : o0 < 11) : CT l yX6_unsafeLetter cX6_unsafeLetter 5 (some .int) { frames := 1, cells := 0, slots := 0, locals := 22 } SK E ad [.ref (ad (iR o0))] M (fun sz a => QI SK E ad sz (a, M)) (fX6_unsafeLetter M o0) := by
  refine CT.ofW (by decide) (Nat.le_of_ble_eq_true rfl) (fun sz p e s m args below meth c C hr hH ls hl => ?_)
  have hx := C.1.1
  have hb := C.1.2.1
  have hl : lv_has ls 5 [(0, .ref (ad (iR o0)))] := hl
  unfold fX6_unsafeLetter
  refine lv_iconst (v := 0) hx hb dX6_unsafeLetter_0 (by decide) ?_
  refine lv_istore_n (lv' := [(1, .int 0), (0, .ref (ad (iR o0)))]) hx hb dX6_unsafeLetter_1 rfl hl (by decide) rfl (fun ls hl => ?_)
  refine lv_iconst (v := 3) hx hb dX6_unsafeLetter_2 (by decide) ?_
  refine lv_istore_n (lv' := [(2, .int 3), (1, .int 0), (0, .ref (ad (iR o0)))]) hx hb dX6_unsafeLetter_3 rfl hl (by decide) rfl (fun ls hl => ?_)
  refine lv_iconst (v := 0) hx hb dX6_unsafeLetter_4 (by decide) ?_
  refine lv_istore_n (lv' := [(3, .int 0), (2, .int 3), (1, .int 0), (0, .ref (ad (iR o0)))]) hx hb dX6_unsafeLetter_5 rfl hl (by decide) rfl (fun ls hl => ?_)
  refine W_lp (fun (x : Int32 × Int32 × Int32) H locs => KH SK E ad sz M s.heap H locs) (fun x ls => lv_has ls 5 [(0, .ref (ad (iR o0))), (1, .int x.1), (2, .int x.2.1), (3, .int x.2.2)]) (fun _ ls => F0 m 6 ls []) (fun (x : Int32 × Int32) H locs => KH SK E ad sz M s.heap H locs) (fun x ls => lv_has ls 5 [(1, .int x.1), (2, .int x.2)]) (fun _ ls => F0 m 77 ls []) ?_ ?_ hH (lv_sub hl [3, 2, 1, 0] rfl)
  · intro ⟨v4, v5⟩ H locs ls hH hl
    have hH : KH SK E ad sz M s.heap H locs := hH
    have hl : lv_has ls 5 [(1, .int v4), (2, .int v5)] := hl
    refine W_q fX6_unsafeLetter_X6_u ?_
    refine lv_iconst (v := 0) hx hb dX6_unsafeLetter_77 (by decide) ?_
    refine lv_istore_n (lv' := [(3, .int 0), (1, .int v4), (2, .int v5)]) hx hb dX6_unsafeLetter_78 rfl hl (by decide) rfl (fun ls hl => ?_)
    refine W_lp (fun (x : Int32) H locs => KH SK E ad sz M s.heap H locs) (fun x ls => lv_has ls 5 [(1, .int v4), (2, .int v5), (3, .int x)]) (fun _ ls => F0 m 79 ls []) (fun (x : Unit) H locs => KH SK E ad sz M s.heap H locs) (fun x ls => lv_has ls 5 []) (fun _ ls => F0 m 104 ls []) ?_ ?_ hH (lv_sub hl [1, 2, 0] rfl)
    · intro _ H locs ls hH hl
      have hH : KH SK E ad sz M s.heap H locs := hH
      have hl : lv_has ls 5 [] := hl
      refine W_q fX6_unsafeLetter_X79_u ?_
      refine lv_iconst (v := (-1)) hx hb dX6_unsafeLetter_104 (by decide) ?_
      exact ke_i C hH hr (Nat.le_refl _) (Nat.le_refl _) rfl dX6_unsafeLetter_105
    · intro rec79 k79 hrec79 hk79 v6 H locs ls hH hl
      have hH : KH SK E ad sz M s.heap H locs := hH
      have hl : lv_has ls 5 [(1, .int v4), (2, .int v5), (3, .int v6)] := hl
      refine W_q fX6_unsafeLetter_L79_u ?_
      refine lv_iload_n hx hb dX6_unsafeLetter_79 rfl (lv_at hl 2 rfl) ?_
      refine lv_iconst (v := 3) hx hb dX6_unsafeLetter_80 (by decide) ?_
      refine kb_icmp_ge (tgt := 104) hx hb dX6_unsafeLetter_81 (by decide) (fun _ => ?_) (fun _ => ?_)
      · exact hk79 () _ _ _ hH (lv_sub hl [] rfl)
      · refine lv_iload_n hx hb dX6_unsafeLetter_84 rfl (lv_at hl 1 rfl) ?_
        refine lv_iload_n hx hb dX6_unsafeLetter_85 rfl (lv_at hl 0 rfl) ?_
        refine lv_iconst (v := (-1)) hx hb dX6_unsafeLetter_86 (by decide) ?_
        refine lv_ixor hx hb dX6_unsafeLetter_87 ?_
        refine lv_iand hx hb dX6_unsafeLetter_88 ?_
        refine lv_iconst (v := 1) hx hb dX6_unsafeLetter_89 (by decide) ?_
        refine lv_iload_n hx hb dX6_unsafeLetter_90 rfl (lv_at hl 2 rfl) ?_
        refine k_ishl hx hb dX6_unsafeLetter_91 ?_
        refine lv_iand hx hb dX6_unsafeLetter_92 ?_
        refine kb_if_eq (tgt := 98) hx hb dX6_unsafeLetter_93 (by decide) (fun _ => ?_) (fun _ => ?_)
        · refine W_nm (fun v7 ev7 => ?_)
          refine lv_iinc (v := v7) (lv' := [(3, .int v7), (1, .int v4), (2, .int v5)]) hx hb dX6_unsafeLetter_98 hl (k := 2) rfl (by rw [ev7]; rfl) (by decide) rfl (fun ls hl => ?_)
          refine lv_goto (tgt := 79) hx hb dX6_unsafeLetter_101 (by decide) ?_
          exact hrec79 v7 _ _ _ hH (lv_sub hl [1, 2, 0] rfl)
        · refine lv_iload_n hx hb dX6_unsafeLetter_96 rfl (lv_at hl 2 rfl) ?_
          exact ke_i C hH hr (Nat.le_refl _) (Nat.le_refl _) rfl dX6_unsafeLetter_97
  · intro rec6 k6 hrec6 hk6 ⟨v1, v2, v3⟩ H locs ls hH hl
    have hH : KH SK E ad sz M s.heap H locs := hH
    have hl : lv_has ls 5 [(0, .ref (ad (iR o0))), (1, .int v1), (2, .int v2), (3, .int v3)] := hl
    refine W_q fX6_unsafeLetter_L6_u ?_
    refine lv_iload_n hx hb dX6_unsafeLetter_6 rfl (lv_at hl 3 rfl) ?_
    refine lv_iconst (v := 3) hx hb dX6_unsafeLetter_7 (by decide) ?_
    refine kb_icmp_ge (tgt := 77) hx hb dX6_unsafeLetter_8 (by decide) (fun _ => ?_) (fun _ => ?_)
    · exact hk6 (v1, v2) _ _ _ hH (lv_sub hl [1, 2] rfl)
    · refine lv_aload_n hx hb dX6_unsafeLetter_11 rfl (lv_at hl 0 rfl) ?_
      refine lv_aload_n hx hb dX6_unsafeLetter_12 rfl (lv_at hl 0 rfl) ?_
      refine k_get C hH fd_X6_21 (oR (f := o0) ho0) (k_int (M := M) (ad := ad) (nR3 (f := o0) ho0)) dX6_unsafeLetter_13 ?_
      refine lv_iload_n hx hb dX6_unsafeLetter_16 rfl (lv_at hl 3 rfl) ?_
      refine kg_io C hH (kc_V C hH w_2_92 lc_yX6_code li_yX6_code (oR (f := o0) ho0) (kX6_code l E ad M o0 ho0 (M.1 (iR o0) 3) v3) (As := [.int (M.1 (iR o0) 3), .int v3]) rfl dX6_unsafeLetter_17 rfl hl.1 (Nat.le_of_ble_eq_true rfl) ⟨Nat.le_of_ble_eq_true rfl, Nat.le_of_ble_eq_true rfl⟩ ⟨Nat.le_of_ble_eq_true rfl, Nat.le_of_ble_eq_true rfl⟩) ⟨rfl, rfl⟩ (fun v8 H locs hH => ?_)
      refine lv_istore (lv' := [(4, .int v8), (0, .ref (ad (iR o0))), (1, .int v1), (2, .int v2), (3, .int v3)]) hx hb dX6_unsafeLetter_20 hl (by decide) rfl (fun ls hl => ?_)
      refine lv_iload hx hb dX6_unsafeLetter_22 (lv_at hl 0 rfl) ?_
      refine kb_if_le (tgt := 48) hx hb dX6_unsafeLetter_24 (by decide) (fun _ => ?_) (fun _ => ?_)
      · refine lv_iload hx hb dX6_unsafeLetter_48 (lv_at hl 0 rfl) ?_
        refine kb_if_ge (tgt := 71) hx hb dX6_unsafeLetter_50 (by decide) (fun _ => ?_) (fun _ => ?_)
        · refine W_nm (fun v9 ev9 => ?_)
          refine lv_iinc (v := v9) (lv' := [(3, .int v9), (4, .int v8), (0, .ref (ad (iR o0))), (1, .int v1), (2, .int v2)]) hx hb dX6_unsafeLetter_71 hl (k := 4) rfl (by rw [ev9]; rfl) (by decide) rfl (fun ls hl => ?_)
          refine lv_goto (tgt := 6) hx hb dX6_unsafeLetter_74 (by decide) ?_
          exact hrec6 (v1, v2, v9) _ _ _ hH (lv_sub hl [2, 3, 4, 0] rfl)
        · refine lv_iload_n hx hb dX6_unsafeLetter_53 rfl (lv_at hl 3 rfl) ?_
          refine lv_iconst (v := 1) hx hb dX6_unsafeLetter_54 (by decide) ?_
          refine lv_iload hx hb dX6_unsafeLetter_55 (lv_at hl 0 rfl) ?_
          refine kg_io C hH (kc_SN C hH w_2_97 w_st_yX9_firstIn lc_yX9_firstIn (kX9_firstIn l E ad M v8) (As := [.int v8]) rfl dX6_unsafeLetter_57 rfl hl.1 (Nat.le_of_ble_eq_true rfl) ⟨Nat.le_of_ble_eq_true rfl, Nat.le_of_ble_eq_true rfl⟩ ⟨Nat.le_of_ble_eq_true rfl, Nat.le_of_ble_eq_true rfl⟩) ⟨rfl, rfl⟩ (fun v10 H locs hH => ?_)
          refine k_ishl hx hb dX6_unsafeLetter_60 ?_
          refine lv_iconst (v := 1) hx hb dX6_unsafeLetter_61 (by decide) ?_
          refine lv_iload hx hb dX6_unsafeLetter_62 (lv_at hl 0 rfl) ?_
          refine kg_ip C hH (kc_SN C hH w_2_100 w_st_yX9_secondIn lc_yX9_secondIn (kX9_secondIn l E ad M v8) (As := [.int v8]) rfl dX6_unsafeLetter_64 rfl hl.1 (Nat.le_of_ble_eq_true rfl) ⟨Nat.le_of_ble_eq_true rfl, Nat.le_of_ble_eq_true rfl⟩ ⟨Nat.le_of_ble_eq_true rfl, Nat.le_of_ble_eq_true rfl⟩) ⟨rfl, rfl⟩ (fun H locs hH => ?_)
          refine k_ishl hx hb dX6_unsafeLetter_67 ?_
          refine lv_ior hx hb dX6_unsafeLetter_68 ?_
          refine lv_ior hx hb dX6_unsafeLetter_69 ?_
          refine W_nmi (fun v11 => ?_)
          refine lv_istore_n (lv' := [(2, .int v11), (4, .int v8), (0, .ref (ad (iR o0))), (1, .int v1), (3, .int v3)]) hx hb dX6_unsafeLetter_70 rfl hl (by decide) rfl (fun ls hl => ?_)
          refine W_nm (fun v12 ev12 => ?_)
          refine lv_iinc (v := v12) (lv' := [(3, .int v12), (2, .int v11), (4, .int v8), (0, .ref (ad (iR o0))), (1, .int v1)]) hx hb dX6_unsafeLetter_71 hl (k := 4) rfl (by rw [ev12]; rfl) (by decide) rfl (fun ls hl => ?_)
          refine lv_goto (tgt := 6) hx hb dX6_unsafeLetter_74 (by decide) ?_
          exact hrec6 (v1, v11, v12) _ _ _ hH (lv_sub hl [3, 4, 1, 0] rfl)
      · refine lv_iload_n hx hb dX6_unsafeLetter_27 rfl (lv_at hl 2 rfl) ?_
        refine lv_iconst (v := 1) hx hb dX6_unsafeLetter_28 (by decide) ?_
        refine lv_iload hx hb dX6_unsafeLetter_29 (lv_at hl 0 rfl) ?_
        refine kg_io C hH (kc_SN C hH w_2_97 w_st_yX9_firstIn lc_yX9_firstIn (kX9_firstIn l E ad M v8) (As := [.int v8]) rfl dX6_unsafeLetter_31 rfl hl.1 (Nat.le_of_ble_eq_true rfl) ⟨Nat.le_of_ble_eq_true rfl, Nat.le_of_ble_eq_true rfl⟩ ⟨Nat.le_of_ble_eq_true rfl, Nat.le_of_ble_eq_true rfl⟩) ⟨rfl, rfl⟩ (fun v13 H locs hH => ?_)
        refine k_ishl hx hb dX6_unsafeLetter_34 ?_
        refine lv_iconst (v := 1) hx hb dX6_unsafeLetter_35 (by decide) ?_
        refine lv_iload hx hb dX6_unsafeLetter_36 (lv_at hl 0 rfl) ?_
        refine kg_ip C hH (kc_SN C hH w_2_100 w_st_yX9_secondIn lc_yX9_secondIn (kX9_secondIn l E ad M v8) (As := [.int v8]) rfl dX6_unsafeLetter_38 rfl hl.1 (Nat.le_of_ble_eq_true rfl) ⟨Nat.le_of_ble_eq_true rfl, Nat.le_of_ble_eq_true rfl⟩ ⟨Nat.le_of_ble_eq_true rfl, Nat.le_of_ble_eq_true rfl⟩) ⟨rfl, rfl⟩ (fun H locs hH => ?_)
        refine k_ishl hx hb dX6_unsafeLetter_41 ?_
        refine lv_ior hx hb dX6_unsafeLetter_42 ?_
        refine lv_ior hx hb dX6_unsafeLetter_43 ?_
        refine W_nmi (fun v14 => ?_)
        refine lv_istore_n (lv' := [(1, .int v14), (4, .int v8), (0, .ref (ad (iR o0))), (2, .int v2), (3, .int v3)]) hx hb dX6_unsafeLetter_44 rfl hl (by decide) rfl (fun ls hl => ?_)
        refine lv_goto (tgt := 71) hx hb dX6_unsafeLetter_45 (by decide) ?_
        refine W_nm (fun v15 ev15 => ?_)
        refine lv_iinc (v := v15) (lv' := [(3, .int v15), (1, .int v14), (4, .int v8), (0, .ref (ad (iR o0))), (2, .int v2)]) hx hb dX6_unsafeLetter_71 hl (k := 4) rfl (by rw [ev15]; rfl) (by decide) rfl (fun ls hl => ?_)
        refine lv_goto (tgt := 6) hx hb dX6_unsafeLetter_74 (by decide) ?_
        exact hrec6 (v14, v2, v15) _ _ _ hH (lv_sub hl [3, 1, 4, 0] rfl)
def fX6_sameAsProposed_X2 (_ : Unit) : Option (Int32) := some (-1)
theorem fX6_sameAsProposed_X2_u {u : Unit} : fX6_sameAsProposed_X2 u = some (-1) := rfl
def fX6_sameAsProposed_L2 (M : KS) (o0 : Nat) (rec2 : (Int32) → Option (Int32)) (k2 : (Unit) → Option (Int32)) (v1 : Int32) : Option (Int32) := (if (M.1 (iR o0) 3) ≤ v1 then k2 () else (fX6_head M o0 v1).bind fun v2 => (fX6_head M o0 (M.1 (iR o0) 3)).bind fun v3 => (if v2 = v3 then (fX6_code M o0 v1 0).bind fun v5 => (fX6_code M o0 (M.1 (iR o0) 3) 0).bind fun v6 => (if v5 = v6 then (fX6_code M o0 v1 1).bind fun v8 => (fX6_code M o0 (M.1 (iR o0) 3) 1).bind fun v9 => (if v8 = v9 then (fX6_code M o0 v1 2).bind fun v11 => (fX6_code M o0 (M.1 (iR o0) 3) 2).bind fun v12 => (if v11 = v12 then some v1 else nm (v1 + 1) fun v13 => rec2 v13) else nm (v1 + 1) fun v10 => rec2 v10) else nm (v1 + 1) fun v7 => rec2 v7) else nm (v1 + 1) fun v4 => rec2 v4))
theorem fX6_sameAsProposed_L2_u {M : KS} {o0 : Nat} {rec2 : (Int32) → Option (Int32)} {k2 : (Unit) → Option (Int32)} {v1 : Int32} : fX6_sameAsProposed_L2 M o0 rec2 k2 v1 = (if (M.1 (iR o0) 3) ≤ v1 then k2 () else (fX6_head M o0 v1).bind fun v2 => (fX6_head M o0 (M.1 (iR o0) 3)).bind fun v3 => (if v2 = v3 then (fX6_code M o0 v1 0).bind fun v5 => (fX6_code M o0 (M.1 (iR o0) 3) 0).bind fun v6 => (if v5 = v6 then (fX6_code M o0 v1 1).bind fun v8 => (fX6_code M o0 (M.1 (iR o0) 3) 1).bind fun v9 => (if v8 = v9 then (fX6_code M o0 v1 2).bind fun v11 => (fX6_code M o0 (M.1 (iR o0) 3) 2).bind fun v12 => (if v11 = v12 then some v1 else nm (v1 + 1) fun v13 => rec2 v13) else nm (v1 + 1) fun v10 => rec2 v10) else nm (v1 + 1) fun v7 => rec2 v7) else nm (v1 + 1) fun v4 => rec2 v4)) := rfl
def fX6_sameAsProposed (M : KS) (o0 : Nat) : Option (Int32) := lp (fX6_sameAsProposed_L2 M o0) (fX6_sameAsProposed_X2) 1000000 0
set_option maxHeartbeats 4000000 in
set_option maxRecDepth 100000 in
theorem kX6_sameAsProposed (l : Launch) (E : KE) (ad : Nat → Nat) (M : KS) (o0 : Nat) (ho0 : o0 < 11) : CT l yX6_sameAsProposed cX6_sameAsProposed 2 (some .int) { frames := 1, cells := 0, slots := 0, locals := 22 } SK E ad [.ref (ad (iR o0))] M (fun sz a => QI SK E ad sz (a, M)) (fX6_sameAsProposed M o0) := by
  refine CT.ofW (by decide) (Nat.le_of_ble_eq_true rfl) (fun sz p e s m args below meth c C hr hH ls hl => ?_)
  have hx := C.1.1
  have hb := C.1.2.1
  have hl : lv_has ls 2 [(0, .ref (ad (iR o0)))] := hl
  unfold fX6_sameAsProposed
  refine lv_iconst (v := 0) hx hb dX6_sameAsProposed_0 (by decide) ?_
  refine lv_istore_n (lv' := [(1, .int 0), (0, .ref (ad (iR o0)))]) hx hb dX6_sameAsProposed_1 rfl hl (by decide) rfl (fun ls hl => ?_)
  refine W_lp (fun (x : Int32) H locs => KH SK E ad sz M s.heap H locs) (fun x ls => lv_has ls 2 [(0, .ref (ad (iR o0))), (1, .int x)]) (fun _ ls => F0 m 2 ls []) (fun (x : Unit) H locs => KH SK E ad sz M s.heap H locs) (fun x ls => lv_has ls 2 []) (fun _ ls => F0 m 88 ls []) ?_ ?_ hH (lv_sub hl [1, 0] rfl)
  · intro _ H locs ls hH hl
    have hH : KH SK E ad sz M s.heap H locs := hH
    have hl : lv_has ls 2 [] := hl
    refine W_q fX6_sameAsProposed_X2_u ?_
    refine lv_iconst (v := (-1)) hx hb dX6_sameAsProposed_88 (by decide) ?_
    exact ke_i C hH hr (Nat.le_refl _) (Nat.le_refl _) rfl dX6_sameAsProposed_89
  · intro rec2 k2 hrec2 hk2 v1 H locs ls hH hl
    have hH : KH SK E ad sz M s.heap H locs := hH
    have hl : lv_has ls 2 [(0, .ref (ad (iR o0))), (1, .int v1)] := hl
    refine W_q fX6_sameAsProposed_L2_u ?_
    refine lv_iload_n hx hb dX6_sameAsProposed_2 rfl (lv_at hl 1 rfl) ?_
    refine lv_aload_n hx hb dX6_sameAsProposed_3 rfl (lv_at hl 0 rfl) ?_
    refine k_get C hH fd_X6_21 (oR (f := o0) ho0) (k_int (M := M) (ad := ad) (nR3 (f := o0) ho0)) dX6_sameAsProposed_4 ?_
    refine kb_icmp_ge (tgt := 88) hx hb dX6_sameAsProposed_7 (by decide) (fun _ => ?_) (fun _ => ?_)
    · exact hk2 () _ _ _ hH (lv_sub hl [] rfl)
    · refine lv_aload_n hx hb dX6_sameAsProposed_10 rfl (lv_at hl 0 rfl) ?_
      refine lv_iload_n hx hb dX6_sameAsProposed_11 rfl (lv_at hl 1 rfl) ?_
      refine kg_io C hH (kc_V C hH w_2_191 lc_yX6_head li_yX6_head (oR (f := o0) ho0) (kX6_head l E ad M o0 ho0 v1) (As := [.int v1]) rfl dX6_sameAsProposed_12 rfl hl.1 (Nat.le_of_ble_eq_true rfl) ⟨Nat.le_of_ble_eq_true rfl, Nat.le_of_ble_eq_true rfl⟩ ⟨Nat.le_of_ble_eq_true rfl, Nat.le_of_ble_eq_true rfl⟩) ⟨rfl, rfl⟩ (fun v2 H locs hH => ?_)
      refine lv_aload_n hx hb dX6_sameAsProposed_15 rfl (lv_at hl 0 rfl) ?_
      refine lv_aload_n hx hb dX6_sameAsProposed_16 rfl (lv_at hl 0 rfl) ?_
      refine k_get C hH fd_X6_21 (oR (f := o0) ho0) (k_int (M := M) (ad := ad) (nR3 (f := o0) ho0)) dX6_sameAsProposed_17 ?_
      refine kg_io C hH (kc_V C hH w_2_191 lc_yX6_head li_yX6_head (oR (f := o0) ho0) (kX6_head l E ad M o0 ho0 (M.1 (iR o0) 3)) (As := [.int (M.1 (iR o0) 3)]) rfl dX6_sameAsProposed_20 rfl hl.1 (Nat.le_of_ble_eq_true rfl) ⟨Nat.le_of_ble_eq_true rfl, Nat.le_of_ble_eq_true rfl⟩ ⟨Nat.le_of_ble_eq_true rfl, Nat.le_of_ble_eq_true rfl⟩) ⟨rfl, rfl⟩ (fun v3 H locs hH => ?_)
      refine kb_icmp_ne (tgt := 82) hx hb dX6_sameAsProposed_23 (by decide) (fun _ => ?_) (fun _ => ?_)
      · refine W_nm (fun v4 ev4 => ?_)
        refine lv_iinc (v := v4) (lv' := [(1, .int v4), (0, .ref (ad (iR o0)))]) hx hb dX6_sameAsProposed_82 hl (k := 1) rfl (by rw [ev4]; rfl) (by decide) rfl (fun ls hl => ?_)
        refine lv_goto (tgt := 2) hx hb dX6_sameAsProposed_85 (by decide) ?_
        exact hrec2 v4 _ _ _ hH (lv_sub hl [1, 0] rfl)
      · refine lv_aload_n hx hb dX6_sameAsProposed_26 rfl (lv_at hl 0 rfl) ?_
        refine lv_iload_n hx hb dX6_sameAsProposed_27 rfl (lv_at hl 1 rfl) ?_
        refine lv_iconst (v := 0) hx hb dX6_sameAsProposed_28 (by decide) ?_
        refine kg_io C hH (kc_V C hH w_2_92 lc_yX6_code li_yX6_code (oR (f := o0) ho0) (kX6_code l E ad M o0 ho0 v1 0) (As := [.int v1, .int 0]) rfl dX6_sameAsProposed_29 rfl hl.1 (Nat.le_of_ble_eq_true rfl) ⟨Nat.le_of_ble_eq_true rfl, Nat.le_of_ble_eq_true rfl⟩ ⟨Nat.le_of_ble_eq_true rfl, Nat.le_of_ble_eq_true rfl⟩) ⟨rfl, rfl⟩ (fun v5 H locs hH => ?_)
        refine lv_aload_n hx hb dX6_sameAsProposed_32 rfl (lv_at hl 0 rfl) ?_
        refine lv_aload_n hx hb dX6_sameAsProposed_33 rfl (lv_at hl 0 rfl) ?_
        refine k_get C hH fd_X6_21 (oR (f := o0) ho0) (k_int (M := M) (ad := ad) (nR3 (f := o0) ho0)) dX6_sameAsProposed_34 ?_
        refine lv_iconst (v := 0) hx hb dX6_sameAsProposed_37 (by decide) ?_
        refine kg_io C hH (kc_V C hH w_2_92 lc_yX6_code li_yX6_code (oR (f := o0) ho0) (kX6_code l E ad M o0 ho0 (M.1 (iR o0) 3) 0) (As := [.int (M.1 (iR o0) 3), .int 0]) rfl dX6_sameAsProposed_38 rfl hl.1 (Nat.le_of_ble_eq_true rfl) ⟨Nat.le_of_ble_eq_true rfl, Nat.le_of_ble_eq_true rfl⟩ ⟨Nat.le_of_ble_eq_true rfl, Nat.le_of_ble_eq_true rfl⟩) ⟨rfl, rfl⟩ (fun v6 H locs hH => ?_)
        refine kb_icmp_ne (tgt := 82) hx hb dX6_sameAsProposed_41 (by decide) (fun _ => ?_) (fun _ => ?_)
        · refine W_nm (fun v7 ev7 => ?_)
          refine lv_iinc (v := v7) (lv' := [(1, .int v7), (0, .ref (ad (iR o0)))]) hx hb dX6_sameAsProposed_82 hl (k := 1) rfl (by rw [ev7]; rfl) (by decide) rfl (fun ls hl => ?_)
          refine lv_goto (tgt := 2) hx hb dX6_sameAsProposed_85 (by decide) ?_
          exact hrec2 v7 _ _ _ hH (lv_sub hl [1, 0] rfl)
        · refine lv_aload_n hx hb dX6_sameAsProposed_44 rfl (lv_at hl 0 rfl) ?_
          refine lv_iload_n hx hb dX6_sameAsProposed_45 rfl (lv_at hl 1 rfl) ?_
          refine lv_iconst (v := 1) hx hb dX6_sameAsProposed_46 (by decide) ?_
          refine kg_io C hH (kc_V C hH w_2_92 lc_yX6_code li_yX6_code (oR (f := o0) ho0) (kX6_code l E ad M o0 ho0 v1 1) (As := [.int v1, .int 1]) rfl dX6_sameAsProposed_47 rfl hl.1 (Nat.le_of_ble_eq_true rfl) ⟨Nat.le_of_ble_eq_true rfl, Nat.le_of_ble_eq_true rfl⟩ ⟨Nat.le_of_ble_eq_true rfl, Nat.le_of_ble_eq_true rfl⟩) ⟨rfl, rfl⟩ (fun v8 H locs hH => ?_)
          refine lv_aload_n hx hb dX6_sameAsProposed_50 rfl (lv_at hl 0 rfl) ?_
          refine lv_aload_n hx hb dX6_sameAsProposed_51 rfl (lv_at hl 0 rfl) ?_
          refine k_get C hH fd_X6_21 (oR (f := o0) ho0) (k_int (M := M) (ad := ad) (nR3 (f := o0) ho0)) dX6_sameAsProposed_52 ?_
          refine lv_iconst (v := 1) hx hb dX6_sameAsProposed_55 (by decide) ?_
          refine kg_io C hH (kc_V C hH w_2_92 lc_yX6_code li_yX6_code (oR (f := o0) ho0) (kX6_code l E ad M o0 ho0 (M.1 (iR o0) 3) 1) (As := [.int (M.1 (iR o0) 3), .int 1]) rfl dX6_sameAsProposed_56 rfl hl.1 (Nat.le_of_ble_eq_true rfl) ⟨Nat.le_of_ble_eq_true rfl, Nat.le_of_ble_eq_true rfl⟩ ⟨Nat.le_of_ble_eq_true rfl, Nat.le_of_ble_eq_true rfl⟩) ⟨rfl, rfl⟩ (fun v9 H locs hH => ?_)
          refine kb_icmp_ne (tgt := 82) hx hb dX6_sameAsProposed_59 (by decide) (fun _ => ?_) (fun _ => ?_)
          · refine W_nm (fun v10 ev10 => ?_)
            refine lv_iinc (v := v10) (lv' := [(1, .int v10), (0, .ref (ad (iR o0)))]) hx hb dX6_sameAsProposed_82 hl (k := 1) rfl (by rw [ev10]; rfl) (by decide) rfl (fun ls hl => ?_)
            refine lv_goto (tgt := 2) hx hb dX6_sameAsProposed_85 (by decide) ?_
            exact hrec2 v10 _ _ _ hH (lv_sub hl [1, 0] rfl)
          · refine lv_aload_n hx hb dX6_sameAsProposed_62 rfl (lv_at hl 0 rfl) ?_
            refine lv_iload_n hx hb dX6_sameAsProposed_63 rfl (lv_at hl 1 rfl) ?_
            refine lv_iconst (v := 2) hx hb dX6_sameAsProposed_64 (by decide) ?_
            refine kg_io C hH (kc_V C hH w_2_92 lc_yX6_code li_yX6_code (oR (f := o0) ho0) (kX6_code l E ad M o0 ho0 v1 2) (As := [.int v1, .int 2]) rfl dX6_sameAsProposed_65 rfl hl.1 (Nat.le_of_ble_eq_true rfl) ⟨Nat.le_of_ble_eq_true rfl, Nat.le_of_ble_eq_true rfl⟩ ⟨Nat.le_of_ble_eq_true rfl, Nat.le_of_ble_eq_true rfl⟩) ⟨rfl, rfl⟩ (fun v11 H locs hH => ?_)
            refine lv_aload_n hx hb dX6_sameAsProposed_68 rfl (lv_at hl 0 rfl) ?_
            refine lv_aload_n hx hb dX6_sameAsProposed_69 rfl (lv_at hl 0 rfl) ?_
            refine k_get C hH fd_X6_21 (oR (f := o0) ho0) (k_int (M := M) (ad := ad) (nR3 (f := o0) ho0)) dX6_sameAsProposed_70 ?_
            refine lv_iconst (v := 2) hx hb dX6_sameAsProposed_73 (by decide) ?_
            refine kg_io C hH (kc_V C hH w_2_92 lc_yX6_code li_yX6_code (oR (f := o0) ho0) (kX6_code l E ad M o0 ho0 (M.1 (iR o0) 3) 2) (As := [.int (M.1 (iR o0) 3), .int 2]) rfl dX6_sameAsProposed_74 rfl hl.1 (Nat.le_of_ble_eq_true rfl) ⟨Nat.le_of_ble_eq_true rfl, Nat.le_of_ble_eq_true rfl⟩ ⟨Nat.le_of_ble_eq_true rfl, Nat.le_of_ble_eq_true rfl⟩) ⟨rfl, rfl⟩ (fun v12 H locs hH => ?_)
            refine kb_icmp_ne (tgt := 82) hx hb dX6_sameAsProposed_77 (by decide) (fun _ => ?_) (fun _ => ?_)
            · refine W_nm (fun v13 ev13 => ?_)
              refine lv_iinc (v := v13) (lv' := [(1, .int v13), (0, .ref (ad (iR o0)))]) hx hb dX6_sameAsProposed_82 hl (k := 1) rfl (by rw [ev13]; rfl) (by decide) rfl (fun ls hl => ?_)
              refine lv_goto (tgt := 2) hx hb dX6_sameAsProposed_85 (by decide) ?_
              exact hrec2 v13 _ _ _ hH (lv_sub hl [1, 0] rfl)
            · refine lv_iload_n hx hb dX6_sameAsProposed_80 rfl (lv_at hl 1 rfl) ?_
              exact ke_i C hH hr (Nat.le_refl _) (Nat.le_refl _) rfl dX6_sameAsProposed_81
def fX6_accept (M : KS) (o0 : Nat) : Option (KS) := (if 10 ≤ (M.1 (iR o0) 3) then some M else nm (kset M (iR o0) 3 ((M.1 (iR o0) 3) + 1)) fun M1 => some M1)
set_option maxHeartbeats 4000000 in
set_option maxRecDepth 100000 in
theorem kX6_accept (l : Launch) (E : KE) (ad : Nat → Nat) (M : KS) (o0 : Nat) (ho0 : o0 < 11) : CT l yX6_accept cX6_accept 1 none { frames := 0, cells := 0, slots := 0, locals := 0 } SK E ad [.ref (ad (iR o0))] M (QV SK E ad) (fX6_accept M o0) := by
  refine CT.ofW (by decide) (Nat.le_of_ble_eq_true rfl) (fun sz p e s m args below meth c C hr hH ls hl => ?_)
  have hx := C.1.1
  have hb := C.1.2.1
  have hl : lv_has ls 1 [(0, .ref (ad (iR o0)))] := hl
  unfold fX6_accept
  refine lv_aload_n hx hb dX6_accept_0 rfl (lv_at hl 0 rfl) ?_
  refine k_get C hH fd_X6_21 (oR (f := o0) ho0) (k_int (M := M) (ad := ad) (nR3 (f := o0) ho0)) dX6_accept_1 ?_
  refine lv_bipush (v := 10) hx hb dX6_accept_4 (by decide) ?_
  refine kb_icmp_ge (tgt := 19) hx hb dX6_accept_6 (by decide) (fun _ => ?_) (fun _ => ?_)
  · exact ke_v C hH hr (Nat.le_refl _) (Nat.le_refl _) rfl dX6_accept_19
  · refine lv_aload_n hx hb dX6_accept_9 rfl (lv_at hl 0 rfl) ?_
    refine lv_dup hx hb dX6_accept_10 rfl ?_
    refine k_get C hH fd_X6_21 (oR (f := o0) ho0) (k_int (M := M) (ad := ad) (nR3 (f := o0) ho0)) dX6_accept_11 ?_
    refine lv_iconst (v := 1) hx hb dX6_accept_14 (by decide) ?_
    refine lv_iadd hx hb dX6_accept_15 ?_
    refine k_put1 C hH fd_X6_21 fw_X6_3 (oR (f := o0) ho0) (nR3 (f := o0) ho0) rfl rfl dX6_accept_16 (fun M1 H locs hH => ?_)
    exact ke_v C hH hr (Nat.le_refl _) (Nat.le_refl _) rfl dX6_accept_19
def fX9_addRule (M : KS) (a1 : Int32) (a2 : Int32) (a3 : Int32) (a4 : Int32) : Option (Int32 × KS) := (fX6_propose M 0 a1 a2 a3 a4).bind fun M1 => (fX6_unsafeLetter M1 0).bind fun v2 => (if v2 < 0 then (fX6_sameAsProposed M1 0).bind fun v3 => (if v3 < 0 then (if (M1.1 (iR 0) 3) < 10 then bd2 (fX3_arrange M1 2 0 ((M1.1 (iR 0) 3) + 1)) fun v5 M4 => (if v5 = 0 then bd2 (fX9_refuse M4 5 a1) fun v9 M8 => if isB v9 then some (v9, M8) else none else (fX6_accept M4 0).bind fun M6 => (fX1_outdate M6).bind fun M7 => some (1, M7)) else bd2 (fX9_refuse M1 1 (M1.1 (iR 0) 3)) fun v11 M10 => if isB v11 then some (v11, M10) else none) else bd2 (fX9_refuse M1 6 v3) fun v13 M12 => if isB v13 then some (v13, M12) else none) else bd2 (fX9_refuse M1 4 v2) fun v15 M14 => if isB v15 then some (v15, M14) else none)
set_option maxHeartbeats 4000000 in
set_option maxRecDepth 100000 in
theorem kX9_addRule (l : Launch) (E : KE) (ad : Nat → Nat) (M : KS) (a1 : Int32) (a2 : Int32) (a3 : Int32) (a4 : Int32) : CT l yX9_addRule cX9_addRule 8 (some .boolean) { frames := 3, cells := 0, slots := 0, locals := 73 } SK E ad [.ref (ad 121), .int a1, .int a2, .int a3, .int a4] M (QI SK E ad) (fX9_addRule M a1 a2 a3 a4) := by
  refine CT.ofW (by decide) (Nat.le_of_ble_eq_true rfl) (fun sz p e s m args below meth c C hr hH ls hl => ?_)
  have hx := C.1.1
  have hb := C.1.2.1
  have hl : lv_has ls 8 [(0, .ref (ad 121)), (1, .int a1), (2, .int a2), (3, .int a3), (4, .int a4)] := hl
  unfold fX9_addRule
  refine lv_aload_n hx hb dX9_addRule_0 rfl (lv_at hl 0 rfl) ?_
  refine k_get C hH fd_X9_10 oK (k_ref (M := M) (ad := ad) rK0) dX9_addRule_1 ?_
  refine k_getN C hH fn_X9_128 (oS (f := 0) (by decide)) (k_ref (M := M) (ad := ad) (rS1 (f := 0) (by decide))) dX9_addRule_4 ?_
  refine lv_astore (lv' := [(5, .ref (ad (iR 0))), (0, .ref (ad 121)), (1, .int a1), (2, .int a2), (3, .int a3), (4, .int a4)]) hx hb dX9_addRule_7 hl (by decide) rfl (fun ls hl => ?_)
  refine lv_aload hx hb dX9_addRule_9 (lv_at hl 0 rfl) ?_
  refine lv_iload_n hx hb dX9_addRule_11 rfl (lv_at hl 2 rfl) ?_
  refine lv_iload_n hx hb dX9_addRule_12 rfl (lv_at hl 3 rfl) ?_
  refine lv_iload_n hx hb dX9_addRule_13 rfl (lv_at hl 4 rfl) ?_
  refine lv_iload hx hb dX9_addRule_14 (lv_at hl 5 rfl) ?_
  refine kg_v C hH (kc_V C hH w_4_80 lc_yX6_propose li_yX6_propose (oR (f := 0) (by decide)) (kX6_propose l E ad M 0 (by decide) a1 a2 a3 a4) (As := [.int a1, .int a2, .int a3, .int a4]) rfl dX9_addRule_16 rfl hl.1 (Nat.le_of_ble_eq_true rfl) ⟨Nat.le_of_ble_eq_true rfl, Nat.le_of_ble_eq_true rfl⟩ ⟨Nat.le_of_ble_eq_true rfl, Nat.le_of_ble_eq_true rfl⟩) ⟨rfl, rfl⟩ (fun M1 H locs hH => ?_)
  refine lv_aload hx hb dX9_addRule_19 (lv_at hl 0 rfl) ?_
  refine kg_io C hH (kc_V C hH w_4_87 lc_yX6_unsafeLetter li_yX6_unsafeLetter (oR (f := 0) (by decide)) (kX6_unsafeLetter l E ad M1 0 (by decide)) (As := []) rfl dX9_addRule_21 rfl hl.1 (Nat.le_of_ble_eq_true rfl) ⟨Nat.le_of_ble_eq_true rfl, Nat.le_of_ble_eq_true rfl⟩ ⟨Nat.le_of_ble_eq_true rfl, Nat.le_of_ble_eq_true rfl⟩) ⟨rfl, rfl⟩ (fun v2 H locs hH => ?_)
  refine lv_istore (lv' := [(6, .int v2), (5, .ref (ad (iR 0))), (0, .ref (ad 121)), (1, .int a1), (2, .int a2), (3, .int a3), (4, .int a4)]) hx hb dX9_addRule_24 hl (by decide) rfl (fun ls hl => ?_)
  refine lv_iload hx hb dX9_addRule_26 (lv_at hl 0 rfl) ?_
  refine kb_if_lt (tgt := 39) hx hb dX9_addRule_28 (by decide) (fun _ => ?_) (fun _ => ?_)
  · refine lv_aload hx hb dX9_addRule_39 (lv_at hl 1 rfl) ?_
    refine kg_io C hH (kc_V C hH w_4_91 lc_yX6_sameAsProposed li_yX6_sameAsProposed (oR (f := 0) (by decide)) (kX6_sameAsProposed l E ad M1 0 (by decide)) (As := []) rfl dX9_addRule_41 rfl hl.1 (Nat.le_of_ble_eq_true rfl) ⟨Nat.le_of_ble_eq_true rfl, Nat.le_of_ble_eq_true rfl⟩ ⟨Nat.le_of_ble_eq_true rfl, Nat.le_of_ble_eq_true rfl⟩) ⟨rfl, rfl⟩ (fun v3 H locs hH => ?_)
    refine lv_istore (lv' := [(7, .int v3), (6, .int v2), (5, .ref (ad (iR 0))), (0, .ref (ad 121)), (1, .int a1), (2, .int a2), (3, .int a3), (4, .int a4)]) hx hb dX9_addRule_44 hl (by decide) rfl (fun ls hl => ?_)
    refine lv_iload hx hb dX9_addRule_46 (lv_at hl 0 rfl) ?_
    refine kb_if_lt (tgt := 60) hx hb dX9_addRule_48 (by decide) (fun _ => ?_) (fun _ => ?_)
    · refine lv_aload hx hb dX9_addRule_60 (lv_at hl 2 rfl) ?_
      refine k_getN C hH fn_X9_233 (oR (f := 0) (by decide)) (k_int (M := M1) (ad := ad) (nR3 (f := 0) (by decide))) dX9_addRule_62 ?_
      refine lv_bipush (v := 10) hx hb dX9_addRule_65 (by decide) ?_
      refine kb_icmp_lt (tgt := 81) hx hb dX9_addRule_67 (by decide) (fun _ => ?_) (fun _ => ?_)
      · refine lv_aload_n hx hb dX9_addRule_81 rfl (lv_at hl 3 rfl) ?_
        refine k_get C hH fd_X9_43 oK (k_ref (M := M1) (ad := ad) rK5) dX9_addRule_82 ?_
        refine lv_aload hx hb dX9_addRule_85 (lv_at hl 2 rfl) ?_
        refine lv_aload hx hb dX9_addRule_87 (lv_at hl 2 rfl) ?_
        refine k_getN C hH fn_X9_233 (oR (f := 0) (by decide)) (k_int (M := M1) (ad := ad) (nR3 (f := 0) (by decide))) dX9_addRule_89 ?_
        refine lv_iconst (v := 1) hx hb dX9_addRule_92 (by decide) ?_
        refine lv_iadd hx hb dX9_addRule_93 ?_
        refine kg_ib C hH (kc_V C hH w_4_95 lc_yX3_arrange li_yX3_arrange (oY (f := 2) (by decide)) (kX3_arrange l E ad M1 2 (by decide) 0 (by decide) ((M1.1 (iR 0) 3) + 1)) (As := [.ref (ad (iR 0)), .int ((M1.1 (iR 0) 3) + 1)]) rfl dX9_addRule_94 rfl hl.1 (Nat.le_of_ble_eq_true rfl) ⟨Nat.le_of_ble_eq_true rfl, Nat.le_of_ble_eq_true rfl⟩ ⟨Nat.le_of_ble_eq_true rfl, Nat.le_of_ble_eq_true rfl⟩) ⟨rfl, rfl⟩ (fun v5 M4 H locs hH => ?_)
        refine kb_if_ne (tgt := 107) hx hb dX9_addRule_97 (by decide) (fun _ => ?_) (fun _ => ?_)
        · refine lv_aload hx hb dX9_addRule_107 (lv_at hl 2 rfl) ?_
          refine kg_v C hH (kc_V C hH w_4_96 lc_yX6_accept li_yX6_accept (oR (f := 0) (by decide)) (kX6_accept l E ad M4 0 (by decide)) (As := []) rfl dX9_addRule_109 rfl hl.1 (Nat.le_of_ble_eq_true rfl) ⟨Nat.le_of_ble_eq_true rfl, Nat.le_of_ble_eq_true rfl⟩ ⟨Nat.le_of_ble_eq_true rfl, Nat.le_of_ble_eq_true rfl⟩) ⟨rfl, rfl⟩ (fun M6 H locs hH => ?_)
          refine lv_aload_n hx hb dX9_addRule_112 rfl (lv_at hl 3 rfl) ?_
          refine k_get C hH fd_X9_29 oK (k_ref (M := M6) (ad := ad) rK3) dX9_addRule_113 ?_
          refine kg_v C hH (kc_V C hH w_3_97 lc_yX1_outdate li_yX1_outdate oD (kX1_outdate l E ad M6) (As := []) rfl dX9_addRule_116 rfl hl.1 (Nat.le_of_ble_eq_true rfl) ⟨Nat.le_of_ble_eq_true rfl, Nat.le_of_ble_eq_true rfl⟩ ⟨Nat.le_of_ble_eq_true rfl, Nat.le_of_ble_eq_true rfl⟩) ⟨rfl, rfl⟩ (fun M7 H locs hH => ?_)
          refine lv_iconst (v := 1) hx hb dX9_addRule_119 (by decide) ?_
          exact ke_z C hH hr (Nat.le_refl _) (Nat.le_refl _) rfl (Or.inr rfl) dX9_addRule_120
        · refine lv_aload_n hx hb dX9_addRule_100 rfl (lv_at hl 3 rfl) ?_
          refine lv_iconst (v := 5) hx hb dX9_addRule_101 (by decide) ?_
          refine lv_iload_n hx hb dX9_addRule_102 rfl (lv_at hl 4 rfl) ?_
          refine kg_ib C hH (kc_V C hH w_3_92 lc_yX9_refuse li_yX9_refuse oK (kX9_refuse l E ad M4 5 a1) (As := [.int 5, .int a1]) rfl dX9_addRule_103 rfl hl.1 (Nat.le_of_ble_eq_true rfl) ⟨Nat.le_of_ble_eq_true rfl, Nat.le_of_ble_eq_true rfl⟩ ⟨Nat.le_of_ble_eq_true rfl, Nat.le_of_ble_eq_true rfl⟩) ⟨rfl, rfl⟩ (fun v9 M8 H locs hH => ?_)
          exact ke_zg C hH hr (Nat.le_refl _) (Nat.le_refl _) rfl dX9_addRule_106
      · refine lv_aload_n hx hb dX9_addRule_70 rfl (lv_at hl 3 rfl) ?_
        refine lv_iconst (v := 1) hx hb dX9_addRule_71 (by decide) ?_
        refine lv_aload hx hb dX9_addRule_72 (lv_at hl 2 rfl) ?_
        refine k_getN C hH fn_X9_233 (oR (f := 0) (by decide)) (k_int (M := M1) (ad := ad) (nR3 (f := 0) (by decide))) dX9_addRule_74 ?_
        refine kg_ib C hH (kc_V C hH w_3_92 lc_yX9_refuse li_yX9_refuse oK (kX9_refuse l E ad M1 1 (M1.1 (iR 0) 3)) (As := [.int 1, .int (M1.1 (iR 0) 3)]) rfl dX9_addRule_77 rfl hl.1 (Nat.le_of_ble_eq_true rfl) ⟨Nat.le_of_ble_eq_true rfl, Nat.le_of_ble_eq_true rfl⟩ ⟨Nat.le_of_ble_eq_true rfl, Nat.le_of_ble_eq_true rfl⟩) ⟨rfl, rfl⟩ (fun v11 M10 H locs hH => ?_)
        exact ke_zg C hH hr (Nat.le_refl _) (Nat.le_refl _) rfl dX9_addRule_80
    · refine lv_aload_n hx hb dX9_addRule_51 rfl (lv_at hl 3 rfl) ?_
      refine lv_bipush (v := 6) hx hb dX9_addRule_52 (by decide) ?_
      refine lv_iload hx hb dX9_addRule_54 (lv_at hl 0 rfl) ?_
      refine kg_ib C hH (kc_V C hH w_3_92 lc_yX9_refuse li_yX9_refuse oK (kX9_refuse l E ad M1 6 v3) (As := [.int 6, .int v3]) rfl dX9_addRule_56 rfl hl.1 (Nat.le_of_ble_eq_true rfl) ⟨Nat.le_of_ble_eq_true rfl, Nat.le_of_ble_eq_true rfl⟩ ⟨Nat.le_of_ble_eq_true rfl, Nat.le_of_ble_eq_true rfl⟩) ⟨rfl, rfl⟩ (fun v13 M12 H locs hH => ?_)
      exact ke_zg C hH hr (Nat.le_refl _) (Nat.le_refl _) rfl dX9_addRule_59
  · refine lv_aload_n hx hb dX9_addRule_31 rfl (lv_at hl 2 rfl) ?_
    refine lv_iconst (v := 4) hx hb dX9_addRule_32 (by decide) ?_
    refine lv_iload hx hb dX9_addRule_33 (lv_at hl 0 rfl) ?_
    refine kg_ib C hH (kc_V C hH w_3_92 lc_yX9_refuse li_yX9_refuse oK (kX9_refuse l E ad M1 4 v2) (As := [.int 4, .int v2]) rfl dX9_addRule_35 rfl hl.1 (Nat.le_of_ble_eq_true rfl) ⟨Nat.le_of_ble_eq_true rfl, Nat.le_of_ble_eq_true rfl⟩ ⟨Nat.le_of_ble_eq_true rfl, Nat.le_of_ble_eq_true rfl⟩) ⟨rfl, rfl⟩ (fun v15 M14 H locs hH => ?_)
    exact ke_zg C hH hr (Nat.le_refl _) (Nat.le_refl _) rfl dX9_addRule_38
def fX6_has_o (M : KS) (o0 : Nat) (a1 : Int32) : Option (Int32) := (if a1 < 0 then some 0 else (if (M.1 (iR o0) 3) ≤ a1 then some 0 else some 1))
def fX6_has (M : KS) (o0 : Nat) (a1 : Int32) : Int32 := (if a1 < 0 then 0 else (if (M.1 (iR o0) 3) ≤ a1 then 0 else 1))
theorem fX6_has_s {M : KS} {o0 : Nat} {a1 : Int32} : fX6_has_o M o0 a1 = some (fX6_has M o0 a1) := by
  unfold fX6_has_o fX6_has
  (repeat' split) <;> rfl
set_option maxHeartbeats 4000000 in
set_option maxRecDepth 100000 in
theorem kX6_has_o (l : Launch) (E : KE) (ad : Nat → Nat) (M : KS) (o0 : Nat) (ho0 : o0 < 11) (a1 : Int32) : CT l yX6_has cX6_has 2 (some .boolean) { frames := 0, cells := 0, slots := 0, locals := 0 } SK E ad [.ref (ad (iR o0)), .int a1] M (fun sz a => QI SK E ad sz (a, M)) (fX6_has_o M o0 a1) := by
  refine CT.ofW (by decide) (Nat.le_of_ble_eq_true rfl) (fun sz p e s m args below meth c C hr hH ls hl => ?_)
  have hx := C.1.1
  have hb := C.1.2.1
  have hl : lv_has ls 2 [(0, .ref (ad (iR o0))), (1, .int a1)] := hl
  unfold fX6_has_o
  refine lv_iload_n hx hb dX6_has_0 rfl (lv_at hl 1 rfl) ?_
  refine kb_if_lt (tgt := 16) hx hb dX6_has_1 (by decide) (fun _ => ?_) (fun _ => ?_)
  · refine lv_iconst (v := 0) hx hb dX6_has_16 (by decide) ?_
    exact ke_z C hH hr (Nat.le_refl _) (Nat.le_refl _) rfl (Or.inl rfl) dX6_has_17
  · refine lv_iload_n hx hb dX6_has_4 rfl (lv_at hl 1 rfl) ?_
    refine lv_aload_n hx hb dX6_has_5 rfl (lv_at hl 0 rfl) ?_
    refine k_get C hH fd_X6_21 (oR (f := o0) ho0) (k_int (M := M) (ad := ad) (nR3 (f := o0) ho0)) dX6_has_6 ?_
    refine kb_icmp_ge (tgt := 16) hx hb dX6_has_9 (by decide) (fun _ => ?_) (fun _ => ?_)
    · refine lv_iconst (v := 0) hx hb dX6_has_16 (by decide) ?_
      exact ke_z C hH hr (Nat.le_refl _) (Nat.le_refl _) rfl (Or.inl rfl) dX6_has_17
    · refine lv_iconst (v := 1) hx hb dX6_has_12 (by decide) ?_
      refine lv_goto (tgt := 17) hx hb dX6_has_13 (by decide) ?_
      exact ke_z C hH hr (Nat.le_refl _) (Nat.le_refl _) rfl (Or.inr rfl) dX6_has_17
theorem kX6_has (l : Launch) (E : KE) (ad : Nat → Nat) (M : KS) (o0 : Nat) (ho0 : o0 < 11) (a1 : Int32) : CT l yX6_has cX6_has 2 (some .boolean) { frames := 0, cells := 0, slots := 0, locals := 0 } SK E ad [.ref (ad (iR o0)), .int a1] M (fun sz (_ : Unit) => QI SK E ad sz (fX6_has M o0 a1, M)) (some ()) := CT.pure (kX6_has_o l E ad M o0 ho0 a1) fX6_has_s
def fX6_remove_X68 (o0 : Nat) (M7 : KS) : Option (KS) := nm (kset M7 (iR o0) 3 ((M7.1 (iR o0) 3) - 1)) fun M8 => some M8
theorem fX6_remove_X68_u {o0 : Nat} {M7 : KS} : fX6_remove_X68 o0 M7 = nm (kset M7 (iR o0) 3 ((M7.1 (iR o0) 3) - 1)) fun M8 => some M8 := rfl
def fX6_remove_L68 (o0 : Nat) (rec68 : (Int32 × KS) → Option (KS)) (k68 : (KS) → Option (KS)) (x : Int32 × KS) : Option (KS) := match x with | (v5, M6) => (if (3 * ((M6.1 (iR o0) 3) - 1)) ≤ v5 then k68 M6 else if inb (v5 + 3) 33 then if inb v5 33 then nm (kset M6 (iRc o0) v5.toNatClampNeg (M6.1 (iRc o0) (v5 + 3).toNatClampNeg)) fun M9 => nm (v5 + 1) fun v10 => rec68 (v10, M9) else none else none)
theorem fX6_remove_L68_u {o0 : Nat} {rec68 : (Int32 × KS) → Option (KS)} {k68 : (KS) → Option (KS)} {v5 : Int32} {M6 : KS} : fX6_remove_L68 o0 rec68 k68 (v5, M6) = (if (3 * ((M6.1 (iR o0) 3) - 1)) ≤ v5 then k68 M6 else if inb (v5 + 3) 33 then if inb v5 33 then nm (kset M6 (iRc o0) v5.toNatClampNeg (M6.1 (iRc o0) (v5 + 3).toNatClampNeg)) fun M9 => nm (v5 + 1) fun v10 => rec68 (v10, M9) else none else none) := rfl
def fX6_remove_X20 (o0 : Nat) (a1 : Int32) (M3 : KS) : Option (KS) := nm ((3 * a1)) fun v4 => lp (fX6_remove_L68 o0) (fX6_remove_X68 o0) 1000000 (v4, M3)
theorem fX6_remove_X20_u {o0 : Nat} {a1 : Int32} {M3 : KS} : fX6_remove_X20 o0 a1 M3 = nm ((3 * a1)) fun v4 => lp (fX6_remove_L68 o0) (fX6_remove_X68 o0) 1000000 (v4, M3) := rfl
def fX6_remove_L20 (o0 : Nat) (rec20 : (Int32 × KS) → Option (KS)) (k20 : (KS) → Option (KS)) (x : Int32 × KS) : Option (KS) := match x with | (v1, M2) => (if (M2.1 (iR o0) 3) ≤ (v1 + 1) then k20 M2 else if inb (v1 + 1) 11 then if inb v1 11 then nm (kset M2 (iRh o0) v1.toNatClampNeg (M2.1 (iRh o0) (v1 + 1).toNatClampNeg)) fun M11 => if inb (v1 + 1) 11 then if inb v1 11 then nm (kset M11 (iRa o0) v1.toNatClampNeg (M11.1 (iRa o0) (v1 + 1).toNatClampNeg)) fun M12 => nm (v1 + 1) fun v13 => rec20 (v13, M12) else none else none else none else none)
theorem fX6_remove_L20_u {o0 : Nat} {rec20 : (Int32 × KS) → Option (KS)} {k20 : (KS) → Option (KS)} {v1 : Int32} {M2 : KS} : fX6_remove_L20 o0 rec20 k20 (v1, M2) = (if (M2.1 (iR o0) 3) ≤ (v1 + 1) then k20 M2 else if inb (v1 + 1) 11 then if inb v1 11 then nm (kset M2 (iRh o0) v1.toNatClampNeg (M2.1 (iRh o0) (v1 + 1).toNatClampNeg)) fun M11 => if inb (v1 + 1) 11 then if inb v1 11 then nm (kset M11 (iRa o0) v1.toNatClampNeg (M11.1 (iRa o0) (v1 + 1).toNatClampNeg)) fun M12 => nm (v1 + 1) fun v13 => rec20 (v13, M12) else none else none else none else none) := rfl
def fX6_remove (M : KS) (o0 : Nat) (a1 : Int32) : Option (KS) := (if (fX6_has M o0 a1) = 0 then some M else (if (M.1 (iR o0) 3) ≤ 10 then lp (fX6_remove_L20 o0) (fX6_remove_X20 o0 a1) 1000000 (a1, M) else some M))
set_option maxHeartbeats 4000000 in
set_option maxRecDepth 100000 in
theorem kX6_remove (l : Launch) (E : KE) (ad : Nat → Nat) (M : KS) (o0 : Nat) (ho0 : o0 < 11) (a1 : Int32) : CT l yX6_remove cX6_remove 3 none { frames := 1, cells := 0, slots := 0, locals := 21 } SK E ad [.ref (ad (iR o0)), .int a1] M (QV SK E ad) (fX6_remove M o0 a1) := by
  refine CT.ofW (by decide) (Nat.le_of_ble_eq_true rfl) (fun sz p e s m args below meth c C hr hH ls hl => ?_)
  have hx := C.1.1
  have hb := C.1.2.1
  have hl : lv_has ls 3 [(0, .ref (ad (iR o0))), (1, .int a1)] := hl
  unfold fX6_remove
  refine lv_aload_n hx hb dX6_remove_0 rfl (lv_at hl 0 rfl) ?_
  refine lv_iload_n hx hb dX6_remove_1 rfl (lv_at hl 1 rfl) ?_
  refine kg_ip C hH (kc_V C hH w_4_121 lc_yX6_has li_yX6_has (oR (f := o0) ho0) (kX6_has l E ad M o0 ho0 a1) (As := [.int a1]) rfl dX6_remove_2 rfl hl.1 (Nat.le_of_ble_eq_true rfl) ⟨Nat.le_of_ble_eq_true rfl, Nat.le_of_ble_eq_true rfl⟩ ⟨Nat.le_of_ble_eq_true rfl, Nat.le_of_ble_eq_true rfl⟩) ⟨rfl, rfl⟩ (fun H locs hH => ?_)
  refine kb_if_eq (tgt := 17) hx hb dX6_remove_5 (by decide) (fun _ => ?_) (fun _ => ?_)
  · exact ke_v C hH hr (Nat.le_refl _) (Nat.le_refl _) rfl dX6_remove_17
  · refine lv_aload_n hx hb dX6_remove_8 rfl (lv_at hl 0 rfl) ?_
    refine k_get C hH fd_X6_21 (oR (f := o0) ho0) (k_int (M := M) (ad := ad) (nR3 (f := o0) ho0)) dX6_remove_9 ?_
    refine lv_bipush (v := 10) hx hb dX6_remove_12 (by decide) ?_
    refine kb_icmp_le (tgt := 18) hx hb dX6_remove_14 (by decide) (fun _ => ?_) (fun _ => ?_)
    · refine lv_iload_n hx hb dX6_remove_18 rfl (lv_at hl 1 rfl) ?_
      refine lv_istore_n (lv' := [(2, .int a1), (0, .ref (ad (iR o0))), (1, .int a1)]) hx hb dX6_remove_19 rfl hl (by decide) rfl (fun ls hl => ?_)
      refine W_lp (fun (x : Int32 × KS) H locs => KH SK E ad sz x.2 s.heap H locs) (fun x ls => lv_has ls 3 [(0, .ref (ad (iR o0))), (1, .int a1), (2, .int x.1)]) (fun _ ls => F0 m 20 ls []) (fun (x : KS) H locs => KH SK E ad sz x s.heap H locs) (fun x ls => lv_has ls 3 [(0, .ref (ad (iR o0))), (1, .int a1)]) (fun _ ls => F0 m 64 ls []) ?_ ?_ hH (lv_sub hl [1, 2, 0] rfl)
      · intro M3 H locs ls hH hl
        have hH : KH SK E ad sz M3 s.heap H locs := hH
        have hl : lv_has ls 3 [(0, .ref (ad (iR o0))), (1, .int a1)] := hl
        refine W_q fX6_remove_X20_u ?_
        refine lv_iconst (v := 3) hx hb dX6_remove_64 (by decide) ?_
        refine lv_iload_n hx hb dX6_remove_65 rfl (lv_at hl 1 rfl) ?_
        refine lv_imul hx hb dX6_remove_66 ?_
        refine W_nmi (fun v4 => ?_)
        refine lv_istore_n (lv' := [(2, .int v4), (0, .ref (ad (iR o0))), (1, .int a1)]) hx hb dX6_remove_67 rfl hl (by decide) rfl (fun ls hl => ?_)
        refine W_lp (fun (x : Int32 × KS) H locs => KH SK E ad sz x.2 s.heap H locs) (fun x ls => lv_has ls 3 [(0, .ref (ad (iR o0))), (2, .int x.1)]) (fun _ ls => F0 m 68 ls []) (fun (x : KS) H locs => KH SK E ad sz x s.heap H locs) (fun x ls => lv_has ls 3 [(0, .ref (ad (iR o0)))]) (fun _ ls => F0 m 100 ls []) ?_ ?_ hH (lv_sub hl [1, 0] rfl)
        · intro M7 H locs ls hH hl
          have hH : KH SK E ad sz M7 s.heap H locs := hH
          have hl : lv_has ls 3 [(0, .ref (ad (iR o0)))] := hl
          refine W_q fX6_remove_X68_u ?_
          refine lv_aload_n hx hb dX6_remove_100 rfl (lv_at hl 0 rfl) ?_
          refine lv_dup hx hb dX6_remove_101 rfl ?_
          refine k_get C hH fd_X6_21 (oR (f := o0) ho0) (k_int (M := M7) (ad := ad) (nR3 (f := o0) ho0)) dX6_remove_102 ?_
          refine lv_iconst (v := 1) hx hb dX6_remove_105 (by decide) ?_
          refine lv_isub hx hb dX6_remove_106 ?_
          refine k_put1 C hH fd_X6_21 fw_X6_3 (oR (f := o0) ho0) (nR3 (f := o0) ho0) rfl rfl dX6_remove_107 (fun M8 H locs hH => ?_)
          exact ke_v C hH hr (Nat.le_refl _) (Nat.le_refl _) rfl dX6_remove_110
        · intro rec68 k68 hrec68 hk68 ⟨v5, M6⟩ H locs ls hH hl
          have hH : KH SK E ad sz M6 s.heap H locs := hH
          have hl : lv_has ls 3 [(0, .ref (ad (iR o0))), (2, .int v5)] := hl
          refine W_q fX6_remove_L68_u ?_
          refine lv_iload_n hx hb dX6_remove_68 rfl (lv_at hl 1 rfl) ?_
          refine lv_iconst (v := 3) hx hb dX6_remove_69 (by decide) ?_
          refine lv_aload_n hx hb dX6_remove_70 rfl (lv_at hl 0 rfl) ?_
          refine k_get C hH fd_X6_21 (oR (f := o0) ho0) (k_int (M := M6) (ad := ad) (nR3 (f := o0) ho0)) dX6_remove_71 ?_
          refine lv_iconst (v := 1) hx hb dX6_remove_74 (by decide) ?_
          refine lv_isub hx hb dX6_remove_75 ?_
          refine lv_imul hx hb dX6_remove_76 ?_
          refine kb_icmp_ge (tgt := 100) hx hb dX6_remove_77 (by decide) (fun _ => ?_) (fun _ => ?_)
          · exact hk68 M6 _ _ _ hH (lv_sub hl [0] rfl)
          · refine lv_aload_n hx hb dX6_remove_80 rfl (lv_at hl 0 rfl) ?_
            refine k_get C hH fd_X6_15 (oR (f := o0) ho0) (k_ref (M := M6) (ad := ad) (rR1 (f := o0) ho0)) dX6_remove_81 ?_
            refine lv_iload_n hx hb dX6_remove_84 rfl (lv_at hl 1 rfl) ?_
            refine lv_aload_n hx hb dX6_remove_85 rfl (lv_at hl 0 rfl) ?_
            refine k_get C hH fd_X6_15 (oR (f := o0) ho0) (k_ref (M := M6) (ad := ad) (rR1 (f := o0) ho0)) dX6_remove_86 ?_
            refine lv_iload_n hx hb dX6_remove_89 rfl (lv_at hl 1 rfl) ?_
            refine lv_iconst (v := 3) hx hb dX6_remove_90 (by decide) ?_
            refine lv_iadd hx hb dX6_remove_91 ?_
            refine k_iald C hH (aR1 (f := o0) ho0) dX6_remove_92 ?_
            refine k_iast C hH (aR1 (f := o0) ho0) dX6_remove_93 (fun M9 H locs hH => ?_)
            refine W_nm (fun v10 ev10 => ?_)
            refine lv_iinc (v := v10) (lv' := [(2, .int v10), (0, .ref (ad (iR o0)))]) hx hb dX6_remove_94 hl (k := 1) rfl (by rw [ev10]; rfl) (by decide) rfl (fun ls hl => ?_)
            refine lv_goto (tgt := 68) hx hb dX6_remove_97 (by decide) ?_
            exact hrec68 (v10, M9) _ _ _ hH (lv_sub hl [1, 0] rfl)
      · intro rec20 k20 hrec20 hk20 ⟨v1, M2⟩ H locs ls hH hl
        have hH : KH SK E ad sz M2 s.heap H locs := hH
        have hl : lv_has ls 3 [(0, .ref (ad (iR o0))), (1, .int a1), (2, .int v1)] := hl
        refine W_q fX6_remove_L20_u ?_
        refine lv_iload_n hx hb dX6_remove_20 rfl (lv_at hl 2 rfl) ?_
        refine lv_iconst (v := 1) hx hb dX6_remove_21 (by decide) ?_
        refine lv_iadd hx hb dX6_remove_22 ?_
        refine lv_aload_n hx hb dX6_remove_23 rfl (lv_at hl 0 rfl) ?_
        refine k_get C hH fd_X6_21 (oR (f := o0) ho0) (k_int (M := M2) (ad := ad) (nR3 (f := o0) ho0)) dX6_remove_24 ?_
        refine kb_icmp_ge (tgt := 64) hx hb dX6_remove_27 (by decide) (fun _ => ?_) (fun _ => ?_)
        · exact hk20 M2 _ _ _ hH (lv_sub hl [0, 1] rfl)
        · refine lv_aload_n hx hb dX6_remove_30 rfl (lv_at hl 0 rfl) ?_
          refine k_get C hH fd_X6_9 (oR (f := o0) ho0) (k_ref (M := M2) (ad := ad) (rR0 (f := o0) ho0)) dX6_remove_31 ?_
          refine lv_iload_n hx hb dX6_remove_34 rfl (lv_at hl 2 rfl) ?_
          refine lv_aload_n hx hb dX6_remove_35 rfl (lv_at hl 0 rfl) ?_
          refine k_get C hH fd_X6_9 (oR (f := o0) ho0) (k_ref (M := M2) (ad := ad) (rR0 (f := o0) ho0)) dX6_remove_36 ?_
          refine lv_iload_n hx hb dX6_remove_39 rfl (lv_at hl 2 rfl) ?_
          refine lv_iconst (v := 1) hx hb dX6_remove_40 (by decide) ?_
          refine lv_iadd hx hb dX6_remove_41 ?_
          refine k_iald C hH (aR0 (f := o0) ho0) dX6_remove_42 ?_
          refine k_iast C hH (aR0 (f := o0) ho0) dX6_remove_43 (fun M11 H locs hH => ?_)
          refine lv_aload_n hx hb dX6_remove_44 rfl (lv_at hl 0 rfl) ?_
          refine k_get C hH fd_X6_18 (oR (f := o0) ho0) (k_ref (M := M11) (ad := ad) (rR2 (f := o0) ho0)) dX6_remove_45 ?_
          refine lv_iload_n hx hb dX6_remove_48 rfl (lv_at hl 2 rfl) ?_
          refine lv_aload_n hx hb dX6_remove_49 rfl (lv_at hl 0 rfl) ?_
          refine k_get C hH fd_X6_18 (oR (f := o0) ho0) (k_ref (M := M11) (ad := ad) (rR2 (f := o0) ho0)) dX6_remove_50 ?_
          refine lv_iload_n hx hb dX6_remove_53 rfl (lv_at hl 2 rfl) ?_
          refine lv_iconst (v := 1) hx hb dX6_remove_54 (by decide) ?_
          refine lv_iadd hx hb dX6_remove_55 ?_
          refine k_iald C hH (aR2 (f := o0) ho0) dX6_remove_56 ?_
          refine k_iast C hH (aR2 (f := o0) ho0) dX6_remove_57 (fun M12 H locs hH => ?_)
          refine W_nm (fun v13 ev13 => ?_)
          refine lv_iinc (v := v13) (lv' := [(2, .int v13), (0, .ref (ad (iR o0))), (1, .int a1)]) hx hb dX6_remove_58 hl (k := 2) rfl (by rw [ev13]; rfl) (by decide) rfl (fun ls hl => ?_)
          refine lv_goto (tgt := 20) hx hb dX6_remove_61 (by decide) ?_
          exact hrec20 (v13, M12) _ _ _ hH (lv_sub hl [1, 2, 0] rfl)
    · exact ke_v C hH hr (Nat.le_refl _) (Nat.le_refl _) rfl dX6_remove_17
def fX9_takeRule (M : KS) (a1 : Int32) : Option (Int32 × KS) := (if (fX6_has M 0 a1) = 0 then some (0, M) else (fX6_remove M 0 a1).bind fun M1 => (fX1_outdate M1).bind fun M2 => some (1, M2))
set_option maxHeartbeats 4000000 in
set_option maxRecDepth 100000 in
theorem kX9_takeRule (l : Launch) (E : KE) (ad : Nat → Nat) (M : KS) (a1 : Int32) : CT l yX9_takeRule cX9_takeRule 2 (some .boolean) { frames := 2, cells := 0, slots := 0, locals := 43 } SK E ad [.ref (ad 121), .int a1] M (QI SK E ad) (fX9_takeRule M a1) := by
  refine CT.ofW (by decide) (Nat.le_of_ble_eq_true rfl) (fun sz p e s m args below meth c C hr hH ls hl => ?_)
  have hx := C.1.1
  have hb := C.1.2.1
  have hl : lv_has ls 2 [(0, .ref (ad 121)), (1, .int a1)] := hl
  unfold fX9_takeRule
  refine lv_aload_n hx hb dX9_takeRule_0 rfl (lv_at hl 0 rfl) ?_
  refine k_get C hH fd_X9_10 oK (k_ref (M := M) (ad := ad) rK0) dX9_takeRule_1 ?_
  refine k_getN C hH fn_X9_128 (oS (f := 0) (by decide)) (k_ref (M := M) (ad := ad) (rS1 (f := 0) (by decide))) dX9_takeRule_4 ?_
  refine lv_iload_n hx hb dX9_takeRule_7 rfl (lv_at hl 1 rfl) ?_
  refine kg_ip C hH (kc_V C hH w_4_108 lc_yX6_has li_yX6_has (oR (f := 0) (by decide)) (kX6_has l E ad M 0 (by decide) a1) (As := [.int a1]) rfl dX9_takeRule_8 rfl hl.1 (Nat.le_of_ble_eq_true rfl) ⟨Nat.le_of_ble_eq_true rfl, Nat.le_of_ble_eq_true rfl⟩ ⟨Nat.le_of_ble_eq_true rfl, Nat.le_of_ble_eq_true rfl⟩) ⟨rfl, rfl⟩ (fun H locs hH => ?_)
  refine kb_if_ne (tgt := 16) hx hb dX9_takeRule_11 (by decide) (fun _ => ?_) (fun _ => ?_)
  · refine lv_aload_n hx hb dX9_takeRule_16 rfl (lv_at hl 0 rfl) ?_
    refine k_get C hH fd_X9_10 oK (k_ref (M := M) (ad := ad) rK0) dX9_takeRule_17 ?_
    refine k_getN C hH fn_X9_128 (oS (f := 0) (by decide)) (k_ref (M := M) (ad := ad) (rS1 (f := 0) (by decide))) dX9_takeRule_20 ?_
    refine lv_iload_n hx hb dX9_takeRule_23 rfl (lv_at hl 1 rfl) ?_
    refine kg_v C hH (kc_V C hH w_4_117 lc_yX6_remove li_yX6_remove (oR (f := 0) (by decide)) (kX6_remove l E ad M 0 (by decide) a1) (As := [.int a1]) rfl dX9_takeRule_24 rfl hl.1 (Nat.le_of_ble_eq_true rfl) ⟨Nat.le_of_ble_eq_true rfl, Nat.le_of_ble_eq_true rfl⟩ ⟨Nat.le_of_ble_eq_true rfl, Nat.le_of_ble_eq_true rfl⟩) ⟨rfl, rfl⟩ (fun M1 H locs hH => ?_)
    refine lv_aload_n hx hb dX9_takeRule_27 rfl (lv_at hl 0 rfl) ?_
    refine k_get C hH fd_X9_29 oK (k_ref (M := M1) (ad := ad) rK3) dX9_takeRule_28 ?_
    refine kg_v C hH (kc_V C hH w_3_97 lc_yX1_outdate li_yX1_outdate oD (kX1_outdate l E ad M1) (As := []) rfl dX9_takeRule_31 rfl hl.1 (Nat.le_of_ble_eq_true rfl) ⟨Nat.le_of_ble_eq_true rfl, Nat.le_of_ble_eq_true rfl⟩ ⟨Nat.le_of_ble_eq_true rfl, Nat.le_of_ble_eq_true rfl⟩) ⟨rfl, rfl⟩ (fun M2 H locs hH => ?_)
    refine lv_iconst (v := 1) hx hb dX9_takeRule_34 (by decide) ?_
    exact ke_z C hH hr (Nat.le_refl _) (Nat.le_refl _) rfl (Or.inr rfl) dX9_takeRule_35
  · refine lv_iconst (v := 0) hx hb dX9_takeRule_14 (by decide) ?_
    exact ke_z C hH hr (Nat.le_refl _) (Nat.le_refl _) rfl (Or.inl rfl) dX9_takeRule_15
def fX6_conditionsOf_X4 (v3 : Int32) : Option (Int32) := some v3
theorem fX6_conditionsOf_X4_u {v3 : Int32} : fX6_conditionsOf_X4 v3 = some v3 := rfl
def fX6_conditionsOf_L4 (M : KS) (o0 : Nat) (a1 : Int32) (rec4 : (Int32 × Int32) → Option (Int32)) (k4 : (Int32) → Option (Int32)) (x : Int32 × Int32) : Option (Int32) := match x with | (v1, v2) => (if 3 ≤ v2 then k4 v1 else (fX6_code M o0 a1 v2).bind fun v4 => (if v4 = 0 then nm (v2 + 1) fun v5 => rec4 (v1, v5) else nm (v1 + 1) fun v6 => nm (v2 + 1) fun v7 => rec4 (v6, v7)))
theorem fX6_conditionsOf_L4_u {M : KS} {o0 : Nat} {a1 : Int32} {rec4 : (Int32 × Int32) → Option (Int32)} {k4 : (Int32) → Option (Int32)} {v1 : Int32} {v2 : Int32} : fX6_conditionsOf_L4 M o0 a1 rec4 k4 (v1, v2) = (if 3 ≤ v2 then k4 v1 else (fX6_code M o0 a1 v2).bind fun v4 => (if v4 = 0 then nm (v2 + 1) fun v5 => rec4 (v1, v5) else nm (v1 + 1) fun v6 => nm (v2 + 1) fun v7 => rec4 (v6, v7))) := rfl
def fX6_conditionsOf (M : KS) (o0 : Nat) (a1 : Int32) : Option (Int32) := lp (fX6_conditionsOf_L4 M o0 a1) (fX6_conditionsOf_X4) 1000000 (0, 0)
set_option maxHeartbeats 4000000 in
set_option maxRecDepth 100000 in
theorem kX6_conditionsOf (l : Launch) (E : KE) (ad : Nat → Nat) (M : KS) (o0 : Nat) (ho0 : o0 < 11) (a1 : Int32) : CT l yX6_conditionsOf cX6_conditionsOf 4 (some .int) { frames := 1, cells := 0, slots := 0, locals := 22 } SK E ad [.ref (ad (iR o0)), .int a1] M (fun sz a => QI SK E ad sz (a, M)) (fX6_conditionsOf M o0 a1) := by
  refine CT.ofW (by decide) (Nat.le_of_ble_eq_true rfl) (fun sz p e s m args below meth c C hr hH ls hl => ?_)
  have hx := C.1.1
  have hb := C.1.2.1
  have hl : lv_has ls 4 [(0, .ref (ad (iR o0))), (1, .int a1)] := hl
  unfold fX6_conditionsOf
  refine lv_iconst (v := 0) hx hb dX6_conditionsOf_0 (by decide) ?_
  refine lv_istore_n (lv' := [(2, .int 0), (0, .ref (ad (iR o0))), (1, .int a1)]) hx hb dX6_conditionsOf_1 rfl hl (by decide) rfl (fun ls hl => ?_)
  refine lv_iconst (v := 0) hx hb dX6_conditionsOf_2 (by decide) ?_
  refine lv_istore_n (lv' := [(3, .int 0), (2, .int 0), (0, .ref (ad (iR o0))), (1, .int a1)]) hx hb dX6_conditionsOf_3 rfl hl (by decide) rfl (fun ls hl => ?_)
  refine W_lp (fun (x : Int32 × Int32) H locs => KH SK E ad sz M s.heap H locs) (fun x ls => lv_has ls 4 [(0, .ref (ad (iR o0))), (1, .int a1), (2, .int x.1), (3, .int x.2)]) (fun _ ls => F0 m 4 ls []) (fun (x : Int32) H locs => KH SK E ad sz M s.heap H locs) (fun x ls => lv_has ls 4 [(2, .int x)]) (fun _ ls => F0 m 27 ls []) ?_ ?_ hH (lv_sub hl [2, 3, 1, 0] rfl)
  · intro v3 H locs ls hH hl
    have hH : KH SK E ad sz M s.heap H locs := hH
    have hl : lv_has ls 4 [(2, .int v3)] := hl
    refine W_q fX6_conditionsOf_X4_u ?_
    refine lv_iload_n hx hb dX6_conditionsOf_27 rfl (lv_at hl 0 rfl) ?_
    exact ke_i C hH hr (Nat.le_refl _) (Nat.le_refl _) rfl dX6_conditionsOf_28
  · intro rec4 k4 hrec4 hk4 ⟨v1, v2⟩ H locs ls hH hl
    have hH : KH SK E ad sz M s.heap H locs := hH
    have hl : lv_has ls 4 [(0, .ref (ad (iR o0))), (1, .int a1), (2, .int v1), (3, .int v2)] := hl
    refine W_q fX6_conditionsOf_L4_u ?_
    refine lv_iload_n hx hb dX6_conditionsOf_4 rfl (lv_at hl 3 rfl) ?_
    refine lv_iconst (v := 3) hx hb dX6_conditionsOf_5 (by decide) ?_
    refine kb_icmp_ge (tgt := 27) hx hb dX6_conditionsOf_6 (by decide) (fun _ => ?_) (fun _ => ?_)
    · exact hk4 v1 _ _ _ hH (lv_sub hl [2] rfl)
    · refine lv_aload_n hx hb dX6_conditionsOf_9 rfl (lv_at hl 0 rfl) ?_
      refine lv_iload_n hx hb dX6_conditionsOf_10 rfl (lv_at hl 1 rfl) ?_
      refine lv_iload_n hx hb dX6_conditionsOf_11 rfl (lv_at hl 3 rfl) ?_
      refine kg_io C hH (kc_V C hH w_2_92 lc_yX6_code li_yX6_code (oR (f := o0) ho0) (kX6_code l E ad M o0 ho0 a1 v2) (As := [.int a1, .int v2]) rfl dX6_conditionsOf_12 rfl hl.1 (Nat.le_of_ble_eq_true rfl) ⟨Nat.le_of_ble_eq_true rfl, Nat.le_of_ble_eq_true rfl⟩ ⟨Nat.le_of_ble_eq_true rfl, Nat.le_of_ble_eq_true rfl⟩) ⟨rfl, rfl⟩ (fun v4 H locs hH => ?_)
      refine kb_if_eq (tgt := 21) hx hb dX6_conditionsOf_15 (by decide) (fun _ => ?_) (fun _ => ?_)
      · refine W_nm (fun v5 ev5 => ?_)
        refine lv_iinc (v := v5) (lv' := [(3, .int v5), (0, .ref (ad (iR o0))), (1, .int a1), (2, .int v1)]) hx hb dX6_conditionsOf_21 hl (k := 3) rfl (by rw [ev5]; rfl) (by decide) rfl (fun ls hl => ?_)
        refine lv_goto (tgt := 4) hx hb dX6_conditionsOf_24 (by decide) ?_
        exact hrec4 (v1, v5) _ _ _ hH (lv_sub hl [1, 2, 3, 0] rfl)
      · refine W_nm (fun v6 ev6 => ?_)
        refine lv_iinc (v := v6) (lv' := [(2, .int v6), (0, .ref (ad (iR o0))), (1, .int a1), (3, .int v2)]) hx hb dX6_conditionsOf_18 hl (k := 2) rfl (by rw [ev6]; rfl) (by decide) rfl (fun ls hl => ?_)
        refine W_nm (fun v7 ev7 => ?_)
        refine lv_iinc (v := v7) (lv' := [(3, .int v7), (2, .int v6), (0, .ref (ad (iR o0))), (1, .int a1)]) hx hb dX6_conditionsOf_21 hl (k := 3) rfl (by rw [ev7]; rfl) (by decide) rfl (fun ls hl => ?_)
        refine lv_goto (tgt := 4) hx hb dX6_conditionsOf_24 (by decide) ?_
        exact hrec4 (v6, v7) _ _ _ hH (lv_sub hl [2, 3, 1, 0] rfl)
def fX1_derivationsWith_X4 (v3 : Int32) : Option (Int32) := some v3
theorem fX1_derivationsWith_X4_u {v3 : Int32} : fX1_derivationsWith_X4 v3 = some v3 := rfl
def fX1_derivationsWith_L4 (M : KS) (a1 : Int32) (rec4 : (Int32 × Int32) → Option (Int32)) (k4 : (Int32) → Option (Int32)) (x : Int32 × Int32) : Option (Int32) := match x with | (v1, v2) => (if 216 ≤ v2 then k4 v1 else if inb v2 216 then (if (M.1 108 v2.toNatClampNeg) = a1 then nm (v1 + 1) fun v5 => nm (v2 + 1) fun v6 => rec4 (v5, v6) else nm (v2 + 1) fun v4 => rec4 (v1, v4)) else none)
theorem fX1_derivationsWith_L4_u {M : KS} {a1 : Int32} {rec4 : (Int32 × Int32) → Option (Int32)} {k4 : (Int32) → Option (Int32)} {v1 : Int32} {v2 : Int32} : fX1_derivationsWith_L4 M a1 rec4 k4 (v1, v2) = (if 216 ≤ v2 then k4 v1 else if inb v2 216 then (if (M.1 108 v2.toNatClampNeg) = a1 then nm (v1 + 1) fun v5 => nm (v2 + 1) fun v6 => rec4 (v5, v6) else nm (v2 + 1) fun v4 => rec4 (v1, v4)) else none) := rfl
def fX1_derivationsWith (M : KS) (a1 : Int32) : Option (Int32) := lp (fX1_derivationsWith_L4 M a1) (fX1_derivationsWith_X4) 1000000 (0, 0)
set_option maxHeartbeats 4000000 in
set_option maxRecDepth 100000 in
theorem kX1_derivationsWith (l : Launch) (E : KE) (ad : Nat → Nat) (M : KS) (a1 : Int32) : CT l yX1_derivationsWith cX1_derivationsWith 4 (some .int) { frames := 0, cells := 0, slots := 0, locals := 0 } SK E ad [.ref (ad 106), .int a1] M (fun sz a => QI SK E ad sz (a, M)) (fX1_derivationsWith M a1) := by
  refine CT.ofW (by decide) (Nat.le_of_ble_eq_true rfl) (fun sz p e s m args below meth c C hr hH ls hl => ?_)
  have hx := C.1.1
  have hb := C.1.2.1
  have hl : lv_has ls 4 [(0, .ref (ad 106)), (1, .int a1)] := hl
  unfold fX1_derivationsWith
  refine lv_iconst (v := 0) hx hb dX1_derivationsWith_0 (by decide) ?_
  refine lv_istore_n (lv' := [(2, .int 0), (0, .ref (ad 106)), (1, .int a1)]) hx hb dX1_derivationsWith_1 rfl hl (by decide) rfl (fun ls hl => ?_)
  refine lv_iconst (v := 0) hx hb dX1_derivationsWith_2 (by decide) ?_
  refine lv_istore_n (lv' := [(3, .int 0), (2, .int 0), (0, .ref (ad 106)), (1, .int a1)]) hx hb dX1_derivationsWith_3 rfl hl (by decide) rfl (fun ls hl => ?_)
  refine W_lp (fun (x : Int32 × Int32) H locs => KH SK E ad sz M s.heap H locs) (fun x ls => lv_has ls 4 [(0, .ref (ad 106)), (1, .int a1), (2, .int x.1), (3, .int x.2)]) (fun _ ls => F0 m 4 ls []) (fun (x : Int32) H locs => KH SK E ad sz M s.heap H locs) (fun x ls => lv_has ls 4 [(2, .int x)]) (fun _ ls => F0 m 30 ls []) ?_ ?_ hH (lv_sub hl [2, 3, 1, 0] rfl)
  · intro v3 H locs ls hH hl
    have hH : KH SK E ad sz M s.heap H locs := hH
    have hl : lv_has ls 4 [(2, .int v3)] := hl
    refine W_q fX1_derivationsWith_X4_u ?_
    refine lv_iload_n hx hb dX1_derivationsWith_30 rfl (lv_at hl 0 rfl) ?_
    exact ke_i C hH hr (Nat.le_refl _) (Nat.le_refl _) rfl dX1_derivationsWith_31
  · intro rec4 k4 hrec4 hk4 ⟨v1, v2⟩ H locs ls hH hl
    have hH : KH SK E ad sz M s.heap H locs := hH
    have hl : lv_has ls 4 [(0, .ref (ad 106)), (1, .int a1), (2, .int v1), (3, .int v2)] := hl
    refine W_q fX1_derivationsWith_L4_u ?_
    refine lv_iload_n hx hb dX1_derivationsWith_4 rfl (lv_at hl 3 rfl) ?_
    refine lv_sipush (v := 216) hx hb dX1_derivationsWith_5 (by decide) ?_
    refine kb_icmp_ge (tgt := 30) hx hb dX1_derivationsWith_8 (by decide) (fun _ => ?_) (fun _ => ?_)
    · exact hk4 v1 _ _ _ hH (lv_sub hl [2] rfl)
    · refine lv_aload_n hx hb dX1_derivationsWith_11 rfl (lv_at hl 0 rfl) ?_
      refine k_get C hH fd_X1_35 oD (k_ref (M := M) (ad := ad) rD5) dX1_derivationsWith_12 ?_
      refine lv_iload_n hx hb dX1_derivationsWith_15 rfl (lv_at hl 3 rfl) ?_
      refine k_iald C hH aD5 dX1_derivationsWith_16 ?_
      refine lv_iload_n hx hb dX1_derivationsWith_17 rfl (lv_at hl 1 rfl) ?_
      refine kb_icmp_ne (tgt := 24) hx hb dX1_derivationsWith_18 (by decide) (fun _ => ?_) (fun _ => ?_)
      · refine W_nm (fun v4 ev4 => ?_)
        refine lv_iinc (v := v4) (lv' := [(3, .int v4), (0, .ref (ad 106)), (1, .int a1), (2, .int v1)]) hx hb dX1_derivationsWith_24 hl (k := 3) rfl (by rw [ev4]; rfl) (by decide) rfl (fun ls hl => ?_)
        refine lv_goto (tgt := 4) hx hb dX1_derivationsWith_27 (by decide) ?_
        exact hrec4 (v1, v4) _ _ _ hH (lv_sub hl [1, 2, 3, 0] rfl)
      · refine W_nm (fun v5 ev5 => ?_)
        refine lv_iinc (v := v5) (lv' := [(2, .int v5), (0, .ref (ad 106)), (1, .int a1), (3, .int v2)]) hx hb dX1_derivationsWith_21 hl (k := 2) rfl (by rw [ev5]; rfl) (by decide) rfl (fun ls hl => ?_)
        refine W_nm (fun v6 ev6 => ?_)
        refine lv_iinc (v := v6) (lv' := [(3, .int v6), (2, .int v5), (0, .ref (ad 106)), (1, .int a1)]) hx hb dX1_derivationsWith_24 hl (k := 3) rfl (by rw [ev6]; rfl) (by decide) rfl (fun ls hl => ?_)
        refine lv_goto (tgt := 4) hx hb dX1_derivationsWith_27 (by decide) ?_
        exact hrec4 (v5, v6) _ _ _ hH (lv_sub hl [2, 3, 1, 0] rfl)
def fX6_makes_X5 (v3 : Int32) : Option (Int32) := some v3
theorem fX6_makes_X5_u {v3 : Int32} : fX6_makes_X5 v3 = some v3 := rfl
def fX6_makes_L5 (M : KS) (o0 : Nat) (a1 : Int32) (o2 : Nat) (rec5 : (Int32 × Int32) → Option (Int32)) (k5 : (Int32) → Option (Int32)) (x : Int32 × Int32) : Option (Int32) := match x with | (v1, v2) => (if 36 ≤ v2 then k5 v1 else (fX6_makersOf M o0 a1 (v2 / 6) (jrem v2 6) o2 o2).bind fun v4 => (if v4 = 0 then nm (v2 + 1) fun v5 => rec5 (v1, v5) else nm (v1 + 1) fun v6 => nm (v2 + 1) fun v7 => rec5 (v6, v7)))
theorem fX6_makes_L5_u {M : KS} {o0 : Nat} {a1 : Int32} {o2 : Nat} {rec5 : (Int32 × Int32) → Option (Int32)} {k5 : (Int32) → Option (Int32)} {v1 : Int32} {v2 : Int32} : fX6_makes_L5 M o0 a1 o2 rec5 k5 (v1, v2) = (if 36 ≤ v2 then k5 v1 else (fX6_makersOf M o0 a1 (v2 / 6) (jrem v2 6) o2 o2).bind fun v4 => (if v4 = 0 then nm (v2 + 1) fun v5 => rec5 (v1, v5) else nm (v1 + 1) fun v6 => nm (v2 + 1) fun v7 => rec5 (v6, v7))) := rfl
def fX6_makes (M : KS) (o0 : Nat) (a1 : Int32) (o2 : Nat) : Option (Int32) := lp (fX6_makes_L5 M o0 a1 o2) (fX6_makes_X5) 1000000 (0, 0)
set_option maxHeartbeats 4000000 in
set_option maxRecDepth 100000 in
theorem kX6_makes (l : Launch) (E : KE) (ad : Nat → Nat) (M : KS) (o0 : Nat) (ho0 : o0 < 11) (a1 : Int32) (o2 : Nat) (ho2 : o2 < 15) : CT l yX6_makes cX6_makes 5 (some .int) { frames := 3, cells := 0, slots := 0, locals := 82 } SK E ad [.ref (ad (iR o0)), .int a1, .ref (ad (iF o2))] M (fun sz a => QI SK E ad sz (a, M)) (fX6_makes M o0 a1 o2) := by
  refine CT.ofW (by decide) (Nat.le_of_ble_eq_true rfl) (fun sz p e s m args below meth c C hr hH ls hl => ?_)
  have hx := C.1.1
  have hb := C.1.2.1
  have hl : lv_has ls 5 [(0, .ref (ad (iR o0))), (1, .int a1), (2, .ref (ad (iF o2)))] := hl
  unfold fX6_makes
  refine lv_iconst (v := 0) hx hb dX6_makes_0 (by decide) ?_
  refine lv_istore_n (lv' := [(3, .int 0), (0, .ref (ad (iR o0))), (1, .int a1), (2, .ref (ad (iF o2)))]) hx hb dX6_makes_1 rfl hl (by decide) rfl (fun ls hl => ?_)
  refine lv_iconst (v := 0) hx hb dX6_makes_2 (by decide) ?_
  refine lv_istore (lv' := [(4, .int 0), (3, .int 0), (0, .ref (ad (iR o0))), (1, .int a1), (2, .ref (ad (iF o2)))]) hx hb dX6_makes_3 hl (by decide) rfl (fun ls hl => ?_)
  refine W_lp (fun (x : Int32 × Int32) H locs => KH SK E ad sz M s.heap H locs) (fun x ls => lv_has ls 5 [(0, .ref (ad (iR o0))), (1, .int a1), (2, .ref (ad (iF o2))), (3, .int x.1), (4, .int x.2)]) (fun _ ls => F0 m 5 ls []) (fun (x : Int32) H locs => KH SK E ad sz M s.heap H locs) (fun x ls => lv_has ls 5 [(3, .int x)]) (fun _ ls => F0 m 41 ls []) ?_ ?_ hH (lv_sub hl [2, 3, 4, 1, 0] rfl)
  · intro v3 H locs ls hH hl
    have hH : KH SK E ad sz M s.heap H locs := hH
    have hl : lv_has ls 5 [(3, .int v3)] := hl
    refine W_q fX6_makes_X5_u ?_
    refine lv_iload_n hx hb dX6_makes_41 rfl (lv_at hl 0 rfl) ?_
    exact ke_i C hH hr (Nat.le_refl _) (Nat.le_refl _) rfl dX6_makes_42
  · intro rec5 k5 hrec5 hk5 ⟨v1, v2⟩ H locs ls hH hl
    have hH : KH SK E ad sz M s.heap H locs := hH
    have hl : lv_has ls 5 [(0, .ref (ad (iR o0))), (1, .int a1), (2, .ref (ad (iF o2))), (3, .int v1), (4, .int v2)] := hl
    refine W_q fX6_makes_L5_u ?_
    refine lv_iload hx hb dX6_makes_5 (lv_at hl 4 rfl) ?_
    refine lv_bipush (v := 36) hx hb dX6_makes_7 (by decide) ?_
    refine kb_icmp_ge (tgt := 41) hx hb dX6_makes_9 (by decide) (fun _ => ?_) (fun _ => ?_)
    · exact hk5 v1 _ _ _ hH (lv_sub hl [3] rfl)
    · refine lv_aload_n hx hb dX6_makes_12 rfl (lv_at hl 0 rfl) ?_
      refine lv_iload_n hx hb dX6_makes_13 rfl (lv_at hl 1 rfl) ?_
      refine lv_iload hx hb dX6_makes_14 (lv_at hl 4 rfl) ?_
      refine lv_bipush (v := 6) hx hb dX6_makes_16 (by decide) ?_
      refine lv_idiv hx hb dX6_makes_18 (by decide) ?_
      refine lv_iload hx hb dX6_makes_19 (lv_at hl 4 rfl) ?_
      refine lv_bipush (v := 6) hx hb dX6_makes_21 (by decide) ?_
      refine k_irem hx hb dX6_makes_23 (by decide) ?_
      refine lv_aload_n hx hb dX6_makes_24 rfl (lv_at hl 2 rfl) ?_
      refine lv_aload_n hx hb dX6_makes_25 rfl (lv_at hl 2 rfl) ?_
      refine kg_io C hH (kc_V C hH w_2_192 lc_yX6_makersOf li_yX6_makersOf (oR (f := o0) ho0) (kX6_makersOf l E ad M o0 ho0 a1 (v2 / 6) (jrem v2 6) o2 ho2 o2 ho2) (As := [.int a1, .int (v2 / 6), .int (jrem v2 6), .ref (ad (iF o2)), .ref (ad (iF o2))]) rfl dX6_makes_26 rfl hl.1 (Nat.le_of_ble_eq_true rfl) ⟨Nat.le_of_ble_eq_true rfl, Nat.le_of_ble_eq_true rfl⟩ ⟨Nat.le_of_ble_eq_true rfl, Nat.le_of_ble_eq_true rfl⟩) ⟨rfl, rfl⟩ (fun v4 H locs hH => ?_)
      refine kb_if_eq (tgt := 35) hx hb dX6_makes_29 (by decide) (fun _ => ?_) (fun _ => ?_)
      · refine W_nm (fun v5 ev5 => ?_)
        refine lv_iinc (v := v5) (lv' := [(4, .int v5), (0, .ref (ad (iR o0))), (1, .int a1), (2, .ref (ad (iF o2))), (3, .int v1)]) hx hb dX6_makes_35 hl (k := 4) rfl (by rw [ev5]; rfl) (by decide) rfl (fun ls hl => ?_)
        refine lv_goto (tgt := 5) hx hb dX6_makes_38 (by decide) ?_
        exact hrec5 (v1, v5) _ _ _ hH (lv_sub hl [1, 2, 3, 4, 0] rfl)
      · refine W_nm (fun v6 ev6 => ?_)
        refine lv_iinc (v := v6) (lv' := [(3, .int v6), (0, .ref (ad (iR o0))), (1, .int a1), (2, .ref (ad (iF o2))), (4, .int v2)]) hx hb dX6_makes_32 hl (k := 3) rfl (by rw [ev6]; rfl) (by decide) rfl (fun ls hl => ?_)
        refine W_nm (fun v7 ev7 => ?_)
        refine lv_iinc (v := v7) (lv' := [(4, .int v7), (3, .int v6), (0, .ref (ad (iR o0))), (1, .int a1), (2, .ref (ad (iF o2)))]) hx hb dX6_makes_35 hl (k := 4) rfl (by rw [ev7]; rfl) (by decide) rfl (fun ls hl => ?_)
        refine lv_goto (tgt := 5) hx hb dX6_makes_38 (by decide) ?_
        exact hrec5 (v6, v7) _ _ _ hH (lv_sub hl [2, 3, 4, 1, 0] rfl)
def fX9_layers (M : KS)  : Option (Int32 × KS) := (fX1_settled M 0).bind fun M1 => (fX3_count M1 0).bind fun v2 => some (v2, M1)
set_option maxHeartbeats 4000000 in
set_option maxRecDepth 100000 in
theorem kX9_layers (l : Launch) (E : KE) (ad : Nat → Nat) (M : KS)  : CT l yX9_layers cX9_layers 1 (some .int) { frames := 5, cells := 0, slots := 0, locals := 135 } SK E ad [.ref (ad 121)] M (QI SK E ad) (fX9_layers M) := by
  refine CT.ofW (by decide) (Nat.le_of_ble_eq_true rfl) (fun sz p e s m args below meth c C hr hH ls hl => ?_)
  have hx := C.1.1
  have hb := C.1.2.1
  have hl : lv_has ls 1 [(0, .ref (ad 121))] := hl
  unfold fX9_layers
  refine lv_aload_n hx hb dX9_layers_0 rfl (lv_at hl 0 rfl) ?_
  refine k_get C hH fd_X9_29 oK (k_ref (M := M) (ad := ad) rK3) dX9_layers_1 ?_
  refine lv_aload_n hx hb dX9_layers_4 rfl (lv_at hl 0 rfl) ?_
  refine k_get C hH fd_X9_10 oK (k_ref (M := M) (ad := ad) rK0) dX9_layers_5 ?_
  refine kg_r C hH (kc_V C hH w_2_27 lc_yX1_settled li_yX1_settled oD (kX1_settled l E ad M 0 (by decide)) (As := [.ref (ad (iS 0))]) rfl dX9_layers_8 rfl hl.1 (Nat.le_of_ble_eq_true rfl) ⟨Nat.le_of_ble_eq_true rfl, Nat.le_of_ble_eq_true rfl⟩ ⟨Nat.le_of_ble_eq_true rfl, Nat.le_of_ble_eq_true rfl⟩) ⟨rfl, rfl⟩ (fun M1 H locs hH => ?_)
  refine k_getN C hH fn_X9_197 oD (k_ref (M := M1) (ad := ad) rD3) dX9_layers_11 ?_
  refine kg_io C hH (kc_V C hH w_2_149 lc_yX3_count li_yX3_count (oY (f := 0) (by decide)) (kX3_count l E ad M1 0 (by decide)) (As := []) rfl dX9_layers_14 rfl hl.1 (Nat.le_of_ble_eq_true rfl) ⟨Nat.le_of_ble_eq_true rfl, Nat.le_of_ble_eq_true rfl⟩ ⟨Nat.le_of_ble_eq_true rfl, Nat.le_of_ble_eq_true rfl⟩) ⟨rfl, rfl⟩ (fun v2 H locs hH => ?_)
  exact ke_i C hH hr (Nat.le_refl _) (Nat.le_refl _) rfl dX9_layers_17
def fX1_roundsOf_X4 (v3 : Int32) : Option (Int32) := some v3
theorem fX1_roundsOf_X4_u {v3 : Int32} : fX1_roundsOf_X4 v3 = some v3 := rfl
def fX1_roundsOf_L4 (M : KS) (a1 : Int32) (rec4 : (Int32 × Int32) → Option (Int32)) (k4 : (Int32) → Option (Int32)) (x : Int32 × Int32) : Option (Int32) := match x with | (v1, v2) => (if 6 ≤ v2 then k4 v1 else (fX3_of M 0 v2).bind fun v4 => (if v4 = a1 then (fX1_lastStage M v2).bind fun v6 => nm ((jmax v1 v6)) fun v7 => nm (v2 + 1) fun v8 => rec4 (v7, v8) else nm (v2 + 1) fun v5 => rec4 (v1, v5)))
theorem fX1_roundsOf_L4_u {M : KS} {a1 : Int32} {rec4 : (Int32 × Int32) → Option (Int32)} {k4 : (Int32) → Option (Int32)} {v1 : Int32} {v2 : Int32} : fX1_roundsOf_L4 M a1 rec4 k4 (v1, v2) = (if 6 ≤ v2 then k4 v1 else (fX3_of M 0 v2).bind fun v4 => (if v4 = a1 then (fX1_lastStage M v2).bind fun v6 => nm ((jmax v1 v6)) fun v7 => nm (v2 + 1) fun v8 => rec4 (v7, v8) else nm (v2 + 1) fun v5 => rec4 (v1, v5))) := rfl
def fX1_roundsOf (M : KS) (a1 : Int32) : Option (Int32) := lp (fX1_roundsOf_L4 M a1) (fX1_roundsOf_X4) 1000000 (0, 0)
set_option maxHeartbeats 4000000 in
set_option maxRecDepth 100000 in
theorem kX1_roundsOf (l : Launch) (E : KE) (ad : Nat → Nat) (M : KS) (a1 : Int32) : CT l yX1_roundsOf cX1_roundsOf 4 (some .int) { frames := 2, cells := 0, slots := 0, locals := 47 } SK E ad [.ref (ad 106), .int a1] M (fun sz a => QI SK E ad sz (a, M)) (fX1_roundsOf M a1) := by
  refine CT.ofW (by decide) (Nat.le_of_ble_eq_true rfl) (fun sz p e s m args below meth c C hr hH ls hl => ?_)
  have hx := C.1.1
  have hb := C.1.2.1
  have hl : lv_has ls 4 [(0, .ref (ad 106)), (1, .int a1)] := hl
  unfold fX1_roundsOf
  refine lv_iconst (v := 0) hx hb dX1_roundsOf_0 (by decide) ?_
  refine lv_istore_n (lv' := [(2, .int 0), (0, .ref (ad 106)), (1, .int a1)]) hx hb dX1_roundsOf_1 rfl hl (by decide) rfl (fun ls hl => ?_)
  refine lv_iconst (v := 0) hx hb dX1_roundsOf_2 (by decide) ?_
  refine lv_istore_n (lv' := [(3, .int 0), (2, .int 0), (0, .ref (ad 106)), (1, .int a1)]) hx hb dX1_roundsOf_3 rfl hl (by decide) rfl (fun ls hl => ?_)
  refine W_lp (fun (x : Int32 × Int32) H locs => KH SK E ad sz M s.heap H locs) (fun x ls => lv_has ls 4 [(0, .ref (ad 106)), (1, .int a1), (2, .int x.1), (3, .int x.2)]) (fun _ ls => F0 m 4 ls []) (fun (x : Int32) H locs => KH SK E ad sz M s.heap H locs) (fun x ls => lv_has ls 4 [(2, .int x)]) (fun _ ls => F0 m 38 ls []) ?_ ?_ hH (lv_sub hl [2, 3, 1, 0] rfl)
  · intro v3 H locs ls hH hl
    have hH : KH SK E ad sz M s.heap H locs := hH
    have hl : lv_has ls 4 [(2, .int v3)] := hl
    refine W_q fX1_roundsOf_X4_u ?_
    refine lv_iload_n hx hb dX1_roundsOf_38 rfl (lv_at hl 0 rfl) ?_
    exact ke_i C hH hr (Nat.le_refl _) (Nat.le_refl _) rfl dX1_roundsOf_39
  · intro rec4 k4 hrec4 hk4 ⟨v1, v2⟩ H locs ls hH hl
    have hH : KH SK E ad sz M s.heap H locs := hH
    have hl : lv_has ls 4 [(0, .ref (ad 106)), (1, .int a1), (2, .int v1), (3, .int v2)] := hl
    refine W_q fX1_roundsOf_L4_u ?_
    refine lv_iload_n hx hb dX1_roundsOf_4 rfl (lv_at hl 3 rfl) ?_
    refine lv_bipush (v := 6) hx hb dX1_roundsOf_5 (by decide) ?_
    refine kb_icmp_ge (tgt := 38) hx hb dX1_roundsOf_7 (by decide) (fun _ => ?_) (fun _ => ?_)
    · exact hk4 v1 _ _ _ hH (lv_sub hl [2] rfl)
    · refine lv_aload_n hx hb dX1_roundsOf_10 rfl (lv_at hl 0 rfl) ?_
      refine k_get C hH fd_X1_27 oD (k_ref (M := M) (ad := ad) rD3) dX1_roundsOf_11 ?_
      refine lv_iload_n hx hb dX1_roundsOf_14 rfl (lv_at hl 3 rfl) ?_
      refine kg_io C hH (kc_V C hH w_2_83 lc_yX3_of li_yX3_of (oY (f := 0) (by decide)) (kX3_of l E ad M 0 (by decide) v2) (As := [.int v2]) rfl dX1_roundsOf_15 rfl hl.1 (Nat.le_of_ble_eq_true rfl) ⟨Nat.le_of_ble_eq_true rfl, Nat.le_of_ble_eq_true rfl⟩ ⟨Nat.le_of_ble_eq_true rfl, Nat.le_of_ble_eq_true rfl⟩) ⟨rfl, rfl⟩ (fun v4 H locs hH => ?_)
      refine lv_iload_n hx hb dX1_roundsOf_18 rfl (lv_at hl 1 rfl) ?_
      refine kb_icmp_ne (tgt := 32) hx hb dX1_roundsOf_19 (by decide) (fun _ => ?_) (fun _ => ?_)
      · refine W_nm (fun v5 ev5 => ?_)
        refine lv_iinc (v := v5) (lv' := [(3, .int v5), (0, .ref (ad 106)), (1, .int a1), (2, .int v1)]) hx hb dX1_roundsOf_32 hl (k := 3) rfl (by rw [ev5]; rfl) (by decide) rfl (fun ls hl => ?_)
        refine lv_goto (tgt := 4) hx hb dX1_roundsOf_35 (by decide) ?_
        exact hrec4 (v1, v5) _ _ _ hH (lv_sub hl [1, 2, 3, 0] rfl)
      · refine lv_iload_n hx hb dX1_roundsOf_22 rfl (lv_at hl 2 rfl) ?_
        refine lv_aload_n hx hb dX1_roundsOf_23 rfl (lv_at hl 0 rfl) ?_
        refine lv_iload_n hx hb dX1_roundsOf_24 rfl (lv_at hl 3 rfl) ?_
        refine kg_io C hH (kc_V C hH w_4_170 lc_yX1_lastStage li_yX1_lastStage oD (kX1_lastStage l E ad M v2) (As := [.int v2]) rfl dX1_roundsOf_25 rfl hl.1 (Nat.le_of_ble_eq_true rfl) ⟨Nat.le_of_ble_eq_true rfl, Nat.le_of_ble_eq_true rfl⟩ ⟨Nat.le_of_ble_eq_true rfl, Nat.le_of_ble_eq_true rfl⟩) ⟨rfl, rfl⟩ (fun v6 H locs hH => ?_)
        refine k_mmax C w_2_144 hl.1 (Nat.le_of_ble_eq_true rfl) (Nat.le_of_ble_eq_true rfl) ⟨Nat.zero_le _, Nat.zero_le _⟩ dX1_roundsOf_28 ?_
        refine W_nmi (fun v7 => ?_)
        refine lv_istore_n (lv' := [(2, .int v7), (0, .ref (ad 106)), (1, .int a1), (3, .int v2)]) hx hb dX1_roundsOf_31 rfl hl (by decide) rfl (fun ls hl => ?_)
        refine W_nm (fun v8 ev8 => ?_)
        refine lv_iinc (v := v8) (lv' := [(3, .int v8), (2, .int v7), (0, .ref (ad 106)), (1, .int a1)]) hx hb dX1_roundsOf_32 hl (k := 3) rfl (by rw [ev8]; rfl) (by decide) rfl (fun ls hl => ?_)
        refine lv_goto (tgt := 4) hx hb dX1_roundsOf_35 (by decide) ?_
        exact hrec4 (v7, v8) _ _ _ hH (lv_sub hl [2, 3, 1, 0] rfl)
def fX1_freshIn_X5 (v3 : Int32) : Option (Int32) := some v3
theorem fX1_freshIn_X5_u {v3 : Int32} : fX1_freshIn_X5 v3 = some v3 := rfl
def fX1_freshIn_L5 (M : KS) (a1 : Int32) (a2 : Int32) (rec5 : (Int32 × Int32) → Option (Int32)) (k5 : (Int32) → Option (Int32)) (x : Int32 × Int32) : Option (Int32) := match x with | (v1, v2) => (if 216 ≤ v2 then k5 v1 else if inb v2 216 then (if (M.1 107 v2.toNatClampNeg) = a2 then (fX3_of M 0 (v2 / 36)).bind fun v5 => (if v5 = a1 then nm (v1 + 1) fun v7 => nm (v2 + 1) fun v8 => rec5 (v7, v8) else nm (v2 + 1) fun v6 => rec5 (v1, v6)) else nm (v2 + 1) fun v4 => rec5 (v1, v4)) else none)
theorem fX1_freshIn_L5_u {M : KS} {a1 : Int32} {a2 : Int32} {rec5 : (Int32 × Int32) → Option (Int32)} {k5 : (Int32) → Option (Int32)} {v1 : Int32} {v2 : Int32} : fX1_freshIn_L5 M a1 a2 rec5 k5 (v1, v2) = (if 216 ≤ v2 then k5 v1 else if inb v2 216 then (if (M.1 107 v2.toNatClampNeg) = a2 then (fX3_of M 0 (v2 / 36)).bind fun v5 => (if v5 = a1 then nm (v1 + 1) fun v7 => nm (v2 + 1) fun v8 => rec5 (v7, v8) else nm (v2 + 1) fun v6 => rec5 (v1, v6)) else nm (v2 + 1) fun v4 => rec5 (v1, v4)) else none) := rfl
def fX1_freshIn (M : KS) (a1 : Int32) (a2 : Int32) : Option (Int32) := lp (fX1_freshIn_L5 M a1 a2) (fX1_freshIn_X5) 1000000 (0, 0)
set_option maxHeartbeats 4000000 in
set_option maxRecDepth 100000 in
theorem kX1_freshIn (l : Launch) (E : KE) (ad : Nat → Nat) (M : KS) (a1 : Int32) (a2 : Int32) : CT l yX1_freshIn cX1_freshIn 5 (some .int) { frames := 1, cells := 0, slots := 0, locals := 21 } SK E ad [.ref (ad 106), .int a1, .int a2] M (fun sz a => QI SK E ad sz (a, M)) (fX1_freshIn M a1 a2) := by
  refine CT.ofW (by decide) (Nat.le_of_ble_eq_true rfl) (fun sz p e s m args below meth c C hr hH ls hl => ?_)
  have hx := C.1.1
  have hb := C.1.2.1
  have hl : lv_has ls 5 [(0, .ref (ad 106)), (1, .int a1), (2, .int a2)] := hl
  unfold fX1_freshIn
  refine lv_iconst (v := 0) hx hb dX1_freshIn_0 (by decide) ?_
  refine lv_istore_n (lv' := [(3, .int 0), (0, .ref (ad 106)), (1, .int a1), (2, .int a2)]) hx hb dX1_freshIn_1 rfl hl (by decide) rfl (fun ls hl => ?_)
  refine lv_iconst (v := 0) hx hb dX1_freshIn_2 (by decide) ?_
  refine lv_istore (lv' := [(4, .int 0), (3, .int 0), (0, .ref (ad 106)), (1, .int a1), (2, .int a2)]) hx hb dX1_freshIn_3 hl (by decide) rfl (fun ls hl => ?_)
  refine W_lp (fun (x : Int32 × Int32) H locs => KH SK E ad sz M s.heap H locs) (fun x ls => lv_has ls 5 [(0, .ref (ad 106)), (1, .int a1), (2, .int a2), (3, .int x.1), (4, .int x.2)]) (fun _ ls => F0 m 5 ls []) (fun (x : Int32) H locs => KH SK E ad sz M s.heap H locs) (fun x ls => lv_has ls 5 [(3, .int x)]) (fun _ ls => F0 m 49 ls []) ?_ ?_ hH (lv_sub hl [2, 3, 4, 1, 0] rfl)
  · intro v3 H locs ls hH hl
    have hH : KH SK E ad sz M s.heap H locs := hH
    have hl : lv_has ls 5 [(3, .int v3)] := hl
    refine W_q fX1_freshIn_X5_u ?_
    refine lv_iload_n hx hb dX1_freshIn_49 rfl (lv_at hl 0 rfl) ?_
    exact ke_i C hH hr (Nat.le_refl _) (Nat.le_refl _) rfl dX1_freshIn_50
  · intro rec5 k5 hrec5 hk5 ⟨v1, v2⟩ H locs ls hH hl
    have hH : KH SK E ad sz M s.heap H locs := hH
    have hl : lv_has ls 5 [(0, .ref (ad 106)), (1, .int a1), (2, .int a2), (3, .int v1), (4, .int v2)] := hl
    refine W_q fX1_freshIn_L5_u ?_
    refine lv_iload hx hb dX1_freshIn_5 (lv_at hl 4 rfl) ?_
    refine lv_sipush (v := 216) hx hb dX1_freshIn_7 (by decide) ?_
    refine kb_icmp_ge (tgt := 49) hx hb dX1_freshIn_10 (by decide) (fun _ => ?_) (fun _ => ?_)
    · exact hk5 v1 _ _ _ hH (lv_sub hl [3] rfl)
    · refine lv_aload_n hx hb dX1_freshIn_13 rfl (lv_at hl 0 rfl) ?_
      refine k_get C hH fd_X1_31 oD (k_ref (M := M) (ad := ad) rD4) dX1_freshIn_14 ?_
      refine lv_iload hx hb dX1_freshIn_17 (lv_at hl 4 rfl) ?_
      refine k_iald C hH aD4 dX1_freshIn_19 ?_
      refine lv_iload_n hx hb dX1_freshIn_20 rfl (lv_at hl 2 rfl) ?_
      refine kb_icmp_ne (tgt := 43) hx hb dX1_freshIn_21 (by decide) (fun _ => ?_) (fun _ => ?_)
      · refine W_nm (fun v4 ev4 => ?_)
        refine lv_iinc (v := v4) (lv' := [(4, .int v4), (0, .ref (ad 106)), (1, .int a1), (2, .int a2), (3, .int v1)]) hx hb dX1_freshIn_43 hl (k := 4) rfl (by rw [ev4]; rfl) (by decide) rfl (fun ls hl => ?_)
        refine lv_goto (tgt := 5) hx hb dX1_freshIn_46 (by decide) ?_
        exact hrec5 (v1, v4) _ _ _ hH (lv_sub hl [1, 2, 3, 4, 0] rfl)
      · refine lv_aload_n hx hb dX1_freshIn_24 rfl (lv_at hl 0 rfl) ?_
        refine k_get C hH fd_X1_27 oD (k_ref (M := M) (ad := ad) rD3) dX1_freshIn_25 ?_
        refine lv_iload hx hb dX1_freshIn_28 (lv_at hl 4 rfl) ?_
        refine lv_bipush (v := 36) hx hb dX1_freshIn_30 (by decide) ?_
        refine lv_idiv hx hb dX1_freshIn_32 (by decide) ?_
        refine kg_io C hH (kc_V C hH w_2_83 lc_yX3_of li_yX3_of (oY (f := 0) (by decide)) (kX3_of l E ad M 0 (by decide) (v2 / 36)) (As := [.int (v2 / 36)]) rfl dX1_freshIn_33 rfl hl.1 (Nat.le_of_ble_eq_true rfl) ⟨Nat.le_of_ble_eq_true rfl, Nat.le_of_ble_eq_true rfl⟩ ⟨Nat.le_of_ble_eq_true rfl, Nat.le_of_ble_eq_true rfl⟩) ⟨rfl, rfl⟩ (fun v5 H locs hH => ?_)
        refine lv_iload_n hx hb dX1_freshIn_36 rfl (lv_at hl 1 rfl) ?_
        refine kb_icmp_ne (tgt := 43) hx hb dX1_freshIn_37 (by decide) (fun _ => ?_) (fun _ => ?_)
        · refine W_nm (fun v6 ev6 => ?_)
          refine lv_iinc (v := v6) (lv' := [(4, .int v6), (0, .ref (ad 106)), (1, .int a1), (2, .int a2), (3, .int v1)]) hx hb dX1_freshIn_43 hl (k := 4) rfl (by rw [ev6]; rfl) (by decide) rfl (fun ls hl => ?_)
          refine lv_goto (tgt := 5) hx hb dX1_freshIn_46 (by decide) ?_
          exact hrec5 (v1, v6) _ _ _ hH (lv_sub hl [1, 2, 3, 4, 0] rfl)
        · refine W_nm (fun v7 ev7 => ?_)
          refine lv_iinc (v := v7) (lv' := [(3, .int v7), (0, .ref (ad 106)), (1, .int a1), (2, .int a2), (4, .int v2)]) hx hb dX1_freshIn_40 hl (k := 3) rfl (by rw [ev7]; rfl) (by decide) rfl (fun ls hl => ?_)
          refine W_nm (fun v8 ev8 => ?_)
          refine lv_iinc (v := v8) (lv' := [(4, .int v8), (3, .int v7), (0, .ref (ad 106)), (1, .int a1), (2, .int a2)]) hx hb dX1_freshIn_43 hl (k := 4) rfl (by rw [ev8]; rfl) (by decide) rfl (fun ls hl => ?_)
          refine lv_goto (tgt := 5) hx hb dX1_freshIn_46 (by decide) ?_
          exact hrec5 (v7, v8) _ _ _ hH (lv_sub hl [2, 3, 4, 1, 0] rfl)
def fX4_clear (M : KS)  : Option (KS) := nm (kset M 119 1 0) fun M1 => some M1
set_option maxHeartbeats 4000000 in
set_option maxRecDepth 100000 in
theorem kX4_clear (l : Launch) (E : KE) (ad : Nat → Nat) (M : KS)  : CT l yX4_clear cX4_clear 1 none { frames := 0, cells := 0, slots := 0, locals := 0 } SK E ad [.ref (ad 119)] M (QV SK E ad) (fX4_clear M) := by
  refine CT.ofW (by decide) (Nat.le_of_ble_eq_true rfl) (fun sz p e s m args below meth c C hr hH ls hl => ?_)
  have hx := C.1.1
  have hb := C.1.2.1
  have hl : lv_has ls 1 [(0, .ref (ad 119))] := hl
  unfold fX4_clear
  refine lv_aload_n hx hb dX4_clear_0 rfl (lv_at hl 0 rfl) ?_
  refine lv_iconst (v := 0) hx hb dX4_clear_1 (by decide) ?_
  refine k_put1 C hH fd_X4_15 fw_X4_1 oL nL1 rfl rfl dX4_clear_2 (fun M1 H locs hH => ?_)
  exact ke_v C hH hr (Nat.le_refl _) (Nat.le_refl _) rfl dX4_clear_5
def fX4_add (M : KS) (a1 : Int32) : Option (KS) := (if 24 ≤ (M.1 119 1) then some M else if inb (M.1 119 1) 24 then nm (kset M 120 (M.1 119 1).toNatClampNeg (vp_nar .char a1)) fun M1 => nm (kset M1 119 1 ((M1.1 119 1) + 1)) fun M2 => some M2 else none)
set_option maxHeartbeats 4000000 in
set_option maxRecDepth 100000 in
theorem kX4_add (l : Launch) (E : KE) (ad : Nat → Nat) (M : KS) (a1 : Int32) : CT l yX4_add cX4_add 2 none { frames := 0, cells := 0, slots := 0, locals := 0 } SK E ad [.ref (ad 119), .int a1] M (QV SK E ad) (fX4_add M a1) := by
  refine CT.ofW (by decide) (Nat.le_of_ble_eq_true rfl) (fun sz p e s m args below meth c C hr hH ls hl => ?_)
  have hx := C.1.1
  have hb := C.1.2.1
  have hl : lv_has ls 2 [(0, .ref (ad 119)), (1, .int a1)] := hl
  unfold fX4_add
  refine lv_aload_n hx hb dX4_add_0 rfl (lv_at hl 0 rfl) ?_
  refine k_get C hH fd_X4_15 oL (k_int (M := M) (ad := ad) nL1) dX4_add_1 ?_
  refine lv_aload_n hx hb dX4_add_4 rfl (lv_at hl 0 rfl) ?_
  refine k_get C hH fd_X4_9 oL (k_ref (M := M) (ad := ad) rL0) dX4_add_5 ?_
  refine k_clen C hH aL0 (v := 24) rfl dX4_add_8 ?_
  refine kb_icmp_ge (tgt := 32) hx hb dX4_add_9 (by decide) (fun _ => ?_) (fun _ => ?_)
  · exact ke_v C hH hr (Nat.le_refl _) (Nat.le_refl _) rfl dX4_add_32
  · refine lv_aload_n hx hb dX4_add_12 rfl (lv_at hl 0 rfl) ?_
    refine k_get C hH fd_X4_9 oL (k_ref (M := M) (ad := ad) rL0) dX4_add_13 ?_
    refine lv_aload_n hx hb dX4_add_16 rfl (lv_at hl 0 rfl) ?_
    refine k_get C hH fd_X4_15 oL (k_int (M := M) (ad := ad) nL1) dX4_add_17 ?_
    refine lv_iload_n hx hb dX4_add_20 rfl (lv_at hl 1 rfl) ?_
    refine k_cast C hH aL0 dX4_add_21 (fun M1 H locs hH => ?_)
    refine lv_aload_n hx hb dX4_add_22 rfl (lv_at hl 0 rfl) ?_
    refine lv_dup hx hb dX4_add_23 rfl ?_
    refine k_get C hH fd_X4_15 oL (k_int (M := M1) (ad := ad) nL1) dX4_add_24 ?_
    refine lv_iconst (v := 1) hx hb dX4_add_27 (by decide) ?_
    refine lv_iadd hx hb dX4_add_28 ?_
    refine k_put1 C hH fd_X4_15 fw_X4_1 oL nL1 rfl rfl dX4_add_29 (fun M2 H locs hH => ?_)
    exact ke_v C hH hr (Nat.le_refl _) (Nat.le_refl _) rfl dX4_add_32
def fX4_addNumber (M : KS) (a1 : Int32) (a2 : Int32) : Option (KS) := (fX4_add M (ji2c (a1 + a2))).bind fun M1 => some M1
set_option maxHeartbeats 4000000 in
set_option maxRecDepth 100000 in
theorem kX4_addNumber (l : Launch) (E : KE) (ad : Nat → Nat) (M : KS) (a1 : Int32) (a2 : Int32) : CT l yX4_addNumber cX4_addNumber 3 none { frames := 1, cells := 0, slots := 0, locals := 21 } SK E ad [.ref (ad 119), .int a1, .int a2] M (QV SK E ad) (fX4_addNumber M a1 a2) := by
  refine CT.ofW (by decide) (Nat.le_of_ble_eq_true rfl) (fun sz p e s m args below meth c C hr hH ls hl => ?_)
  have hx := C.1.1
  have hb := C.1.2.1
  have hl : lv_has ls 3 [(0, .ref (ad 119)), (1, .int a1), (2, .int a2)] := hl
  unfold fX4_addNumber
  refine lv_aload_n hx hb dX4_addNumber_0 rfl (lv_at hl 0 rfl) ?_
  refine lv_iload_n hx hb dX4_addNumber_1 rfl (lv_at hl 1 rfl) ?_
  refine lv_iload_n hx hb dX4_addNumber_2 rfl (lv_at hl 2 rfl) ?_
  refine lv_iadd hx hb dX4_addNumber_3 ?_
  refine lv_i2c (v := (ji2c (a1 + a2))) hx hb dX4_addNumber_4 rfl ?_
  refine kg_v C hH (kc_V C hH w_4_206 lc_yX4_add li_yX4_add oL (kX4_add l E ad M (ji2c (a1 + a2))) (As := [.int (ji2c (a1 + a2))]) rfl dX4_addNumber_5 rfl hl.1 (Nat.le_of_ble_eq_true rfl) ⟨Nat.le_of_ble_eq_true rfl, Nat.le_of_ble_eq_true rfl⟩ ⟨Nat.le_of_ble_eq_true rfl, Nat.le_of_ble_eq_true rfl⟩) ⟨rfl, rfl⟩ (fun M1 H locs hH => ?_)
  exact ke_v C hH hr (Nat.le_refl _) (Nat.le_refl _) rfl dX4_addNumber_8
def fX4_addFact (M : KS) (a1 : Int32) : Option (KS) := (fX4_addNumber M 48 (a1 / 36)).bind fun M1 => (fX4_addNumber M1 97 (jrem (a1 / 6) 6)).bind fun M2 => (fX4_addNumber M2 97 (jrem a1 6)).bind fun M3 => some M3
set_option maxHeartbeats 4000000 in
set_option maxRecDepth 100000 in
theorem kX4_addFact (l : Launch) (E : KE) (ad : Nat → Nat) (M : KS) (a1 : Int32) : CT l yX4_addFact cX4_addFact 2 none { frames := 2, cells := 0, slots := 0, locals := 43 } SK E ad [.ref (ad 119), .int a1] M (QV SK E ad) (fX4_addFact M a1) := by
  refine CT.ofW (by decide) (Nat.le_of_ble_eq_true rfl) (fun sz p e s m args below meth c C hr hH ls hl => ?_)
  have hx := C.1.1
  have hb := C.1.2.1
  have hl : lv_has ls 2 [(0, .ref (ad 119)), (1, .int a1)] := hl
  unfold fX4_addFact
  refine lv_aload_n hx hb dX4_addFact_0 rfl (lv_at hl 0 rfl) ?_
  refine lv_bipush (v := 48) hx hb dX4_addFact_1 (by decide) ?_
  refine lv_iload_n hx hb dX4_addFact_3 rfl (lv_at hl 1 rfl) ?_
  refine lv_bipush (v := 36) hx hb dX4_addFact_4 (by decide) ?_
  refine lv_idiv hx hb dX4_addFact_6 (by decide) ?_
  refine kg_v C hH (kc_V C hH w_4_202 lc_yX4_addNumber li_yX4_addNumber oL (kX4_addNumber l E ad M 48 (a1 / 36)) (As := [.int 48, .int (a1 / 36)]) rfl dX4_addFact_7 rfl hl.1 (Nat.le_of_ble_eq_true rfl) ⟨Nat.le_of_ble_eq_true rfl, Nat.le_of_ble_eq_true rfl⟩ ⟨Nat.le_of_ble_eq_true rfl, Nat.le_of_ble_eq_true rfl⟩) ⟨rfl, rfl⟩ (fun M1 H locs hH => ?_)
  refine lv_aload_n hx hb dX4_addFact_10 rfl (lv_at hl 0 rfl) ?_
  refine lv_bipush (v := 97) hx hb dX4_addFact_11 (by decide) ?_
  refine lv_iload_n hx hb dX4_addFact_13 rfl (lv_at hl 1 rfl) ?_
  refine lv_bipush (v := 6) hx hb dX4_addFact_14 (by decide) ?_
  refine lv_idiv hx hb dX4_addFact_16 (by decide) ?_
  refine lv_bipush (v := 6) hx hb dX4_addFact_17 (by decide) ?_
  refine k_irem hx hb dX4_addFact_19 (by decide) ?_
  refine kg_v C hH (kc_V C hH w_4_202 lc_yX4_addNumber li_yX4_addNumber oL (kX4_addNumber l E ad M1 97 (jrem (a1 / 6) 6)) (As := [.int 97, .int (jrem (a1 / 6) 6)]) rfl dX4_addFact_20 rfl hl.1 (Nat.le_of_ble_eq_true rfl) ⟨Nat.le_of_ble_eq_true rfl, Nat.le_of_ble_eq_true rfl⟩ ⟨Nat.le_of_ble_eq_true rfl, Nat.le_of_ble_eq_true rfl⟩) ⟨rfl, rfl⟩ (fun M2 H locs hH => ?_)
  refine lv_aload_n hx hb dX4_addFact_23 rfl (lv_at hl 0 rfl) ?_
  refine lv_bipush (v := 97) hx hb dX4_addFact_24 (by decide) ?_
  refine lv_iload_n hx hb dX4_addFact_26 rfl (lv_at hl 1 rfl) ?_
  refine lv_bipush (v := 6) hx hb dX4_addFact_27 (by decide) ?_
  refine k_irem hx hb dX4_addFact_29 (by decide) ?_
  refine kg_v C hH (kc_V C hH w_4_202 lc_yX4_addNumber li_yX4_addNumber oL (kX4_addNumber l E ad M2 97 (jrem a1 6)) (As := [.int 97, .int (jrem a1 6)]) rfl dX4_addFact_30 rfl hl.1 (Nat.le_of_ble_eq_true rfl) ⟨Nat.le_of_ble_eq_true rfl, Nat.le_of_ble_eq_true rfl⟩ ⟨Nat.le_of_ble_eq_true rfl, Nat.le_of_ble_eq_true rfl⟩) ⟨rfl, rfl⟩ (fun M3 H locs hH => ?_)
  exact ke_v C hH hr (Nat.le_refl _) (Nat.le_refl _) rfl dX4_addFact_33
def fX1_maker (M : KS) (a1 : Int32) : Option (Int32) := (if a1 < 0 then some (-1) else (if 216 ≤ a1 then some (-1) else if inb a1 216 then some (M.1 108 a1.toNatClampNeg) else none))
set_option maxHeartbeats 4000000 in
set_option maxRecDepth 100000 in
theorem kX1_maker (l : Launch) (E : KE) (ad : Nat → Nat) (M : KS) (a1 : Int32) : CT l yX1_maker cX1_maker 2 (some .int) { frames := 0, cells := 0, slots := 0, locals := 0 } SK E ad [.ref (ad 106), .int a1] M (fun sz a => QI SK E ad sz (a, M)) (fX1_maker M a1) := by
  refine CT.ofW (by decide) (Nat.le_of_ble_eq_true rfl) (fun sz p e s m args below meth c C hr hH ls hl => ?_)
  have hx := C.1.1
  have hb := C.1.2.1
  have hl : lv_has ls 2 [(0, .ref (ad 106)), (1, .int a1)] := hl
  unfold fX1_maker
  refine lv_iload_n hx hb dX1_maker_0 rfl (lv_at hl 1 rfl) ?_
  refine kb_if_lt (tgt := 22) hx hb dX1_maker_1 (by decide) (fun _ => ?_) (fun _ => ?_)
  · refine lv_iconst (v := (-1)) hx hb dX1_maker_22 (by decide) ?_
    exact ke_i C hH hr (Nat.le_refl _) (Nat.le_refl _) rfl dX1_maker_23
  · refine lv_iload_n hx hb dX1_maker_4 rfl (lv_at hl 1 rfl) ?_
    refine lv_aload_n hx hb dX1_maker_5 rfl (lv_at hl 0 rfl) ?_
    refine k_get C hH fd_X1_35 oD (k_ref (M := M) (ad := ad) rD5) dX1_maker_6 ?_
    refine k_ilen C hH aD5 (v := 216) rfl dX1_maker_9 ?_
    refine kb_icmp_ge (tgt := 22) hx hb dX1_maker_10 (by decide) (fun _ => ?_) (fun _ => ?_)
    · refine lv_iconst (v := (-1)) hx hb dX1_maker_22 (by decide) ?_
      exact ke_i C hH hr (Nat.le_refl _) (Nat.le_refl _) rfl dX1_maker_23
    · refine lv_aload_n hx hb dX1_maker_13 rfl (lv_at hl 0 rfl) ?_
      refine k_get C hH fd_X1_35 oD (k_ref (M := M) (ad := ad) rD5) dX1_maker_14 ?_
      refine lv_iload_n hx hb dX1_maker_17 rfl (lv_at hl 1 rfl) ?_
      refine k_iald C hH aD5 dX1_maker_18 ?_
      refine lv_goto (tgt := 23) hx hb dX1_maker_19 (by decide) ?_
      exact ke_i C hH hr (Nat.le_refl _) (Nat.le_refl _) rfl dX1_maker_23
def fX9_writeFact_X80 (M11 : KS) : Option (KS) := some M11
theorem fX9_writeFact_X80_u {M11 : KS} : fX9_writeFact_X80 M11 = some M11 := rfl
def fX9_writeFact_L80 (a1 : Int32) (rec80 : (Int32 × Int32 × KS) → Option (KS)) (k80 : (KS) → Option (KS)) (x : Int32 × Int32 × KS) : Option (KS) := match x with | (v8, v9, M10) => (if 3 ≤ v9 then k80 M10 else (fX1_need M10 0 a1 v9).bind fun v12 => (if v12 < 0 then nm (v9 + 1) fun v13 => rec80 (v8, v13, M10) else (fX4_add M10 v8).bind fun M14 => (fX4_addFact M14 v12).bind fun M15 => nm (v9 + 1) fun v16 => rec80 (44, v16, M15)))
theorem fX9_writeFact_L80_u {a1 : Int32} {rec80 : (Int32 × Int32 × KS) → Option (KS)} {k80 : (KS) → Option (KS)} {v8 : Int32} {v9 : Int32} {M10 : KS} : fX9_writeFact_L80 a1 rec80 k80 (v8, v9, M10) = (if 3 ≤ v9 then k80 M10 else (fX1_need M10 0 a1 v9).bind fun v12 => (if v12 < 0 then nm (v9 + 1) fun v13 => rec80 (v8, v13, M10) else (fX4_add M10 v8).bind fun M14 => (fX4_addFact M14 v12).bind fun M15 => nm (v9 + 1) fun v16 => rec80 (44, v16, M15))) := rfl
def fX9_writeFact (M : KS) (a1 : Int32) : Option (KS) := (fX1_settled M 0).bind fun M1 => (fX4_clear M1).bind fun M2 => (fX4_addFact M2 a1).bind fun M3 => (fX2_has M3 0 a1).bind fun v4 => (if v4 = 0 then (fX4_add M3 60).bind fun M5 => (fX1_maker M5 a1).bind fun v6 => (fX4_addNumber M5 48 v6).bind fun M7 => lp (fX9_writeFact_L80 a1) (fX9_writeFact_X80) 1000000 (58, 0, M7) else (fX4_add M3 46).bind fun M17 => some M17)
set_option maxHeartbeats 4000000 in
set_option maxRecDepth 100000 in
theorem kX9_writeFact (l : Launch) (E : KE) (ad : Nat → Nat) (M : KS) (a1 : Int32) : CT l yX9_writeFact cX9_writeFact 6 none { frames := 5, cells := 0, slots := 0, locals := 135 } SK E ad [.ref (ad 121), .int a1] M (QV SK E ad) (fX9_writeFact M a1) := by
  refine CT.ofW (by decide) (Nat.le_of_ble_eq_true rfl) (fun sz p e s m args below meth c C hr hH ls hl => ?_)
  have hx := C.1.1
  have hb := C.1.2.1
  have hl : lv_has ls 6 [(0, .ref (ad 121)), (1, .int a1)] := hl
  unfold fX9_writeFact
  refine lv_aload_n hx hb dX9_writeFact_0 rfl (lv_at hl 0 rfl) ?_
  refine k_get C hH fd_X9_29 oK (k_ref (M := M) (ad := ad) rK3) dX9_writeFact_1 ?_
  refine lv_aload_n hx hb dX9_writeFact_4 rfl (lv_at hl 0 rfl) ?_
  refine k_get C hH fd_X9_10 oK (k_ref (M := M) (ad := ad) rK0) dX9_writeFact_5 ?_
  refine kg_r C hH (kc_V C hH w_2_27 lc_yX1_settled li_yX1_settled oD (kX1_settled l E ad M 0 (by decide)) (As := [.ref (ad (iS 0))]) rfl dX9_writeFact_8 rfl hl.1 (Nat.le_of_ble_eq_true rfl) ⟨Nat.le_of_ble_eq_true rfl, Nat.le_of_ble_eq_true rfl⟩ ⟨Nat.le_of_ble_eq_true rfl, Nat.le_of_ble_eq_true rfl⟩) ⟨rfl, rfl⟩ (fun M1 H locs hH => ?_)
  refine lv_astore_n (lv' := [(2, .ref (ad 106)), (0, .ref (ad 121)), (1, .int a1)]) hx hb dX9_writeFact_11 rfl hl (by decide) rfl (fun ls hl => ?_)
  refine lv_aload_n hx hb dX9_writeFact_12 rfl (lv_at hl 1 rfl) ?_
  refine k_get C hH fd_X9_57 oK (k_ref (M := M1) (ad := ad) rK7) dX9_writeFact_13 ?_
  refine kg_v C hH (kc_V C hH w_4_194 lc_yX4_clear li_yX4_clear oL (kX4_clear l E ad M1) (As := []) rfl dX9_writeFact_16 rfl hl.1 (Nat.le_of_ble_eq_true rfl) ⟨Nat.le_of_ble_eq_true rfl, Nat.le_of_ble_eq_true rfl⟩ ⟨Nat.le_of_ble_eq_true rfl, Nat.le_of_ble_eq_true rfl⟩) ⟨rfl, rfl⟩ (fun M2 H locs hH => ?_)
  refine lv_aload_n hx hb dX9_writeFact_19 rfl (lv_at hl 1 rfl) ?_
  refine k_get C hH fd_X9_57 oK (k_ref (M := M2) (ad := ad) rK7) dX9_writeFact_20 ?_
  refine lv_iload_n hx hb dX9_writeFact_23 rfl (lv_at hl 2 rfl) ?_
  refine kg_v C hH (kc_V C hH w_4_198 lc_yX4_addFact li_yX4_addFact oL (kX4_addFact l E ad M2 a1) (As := [.int a1]) rfl dX9_writeFact_24 rfl hl.1 (Nat.le_of_ble_eq_true rfl) ⟨Nat.le_of_ble_eq_true rfl, Nat.le_of_ble_eq_true rfl⟩ ⟨Nat.le_of_ble_eq_true rfl, Nat.le_of_ble_eq_true rfl⟩) ⟨rfl, rfl⟩ (fun M3 H locs hH => ?_)
  refine lv_aload_n hx hb dX9_writeFact_27 rfl (lv_at hl 1 rfl) ?_
  refine k_get C hH fd_X9_10 oK (k_ref (M := M3) (ad := ad) rK0) dX9_writeFact_28 ?_
  refine k_getN C hH fn_X9_124 (oS (f := 0) (by decide)) (k_ref (M := M3) (ad := ad) (rS0 (f := 0) (by decide))) dX9_writeFact_31 ?_
  refine lv_iload_n hx hb dX9_writeFact_34 rfl (lv_at hl 2 rfl) ?_
  refine kg_io C hH (kc_V C hH w_3_86 lc_yX2_has li_yX2_has (oF (f := 0) (by decide)) (kX2_has l E ad M3 0 (by decide) a1) (As := [.int a1]) rfl dX9_writeFact_35 rfl hl.1 (Nat.le_of_ble_eq_true rfl) ⟨Nat.le_of_ble_eq_true rfl, Nat.le_of_ble_eq_true rfl⟩ ⟨Nat.le_of_ble_eq_true rfl, Nat.le_of_ble_eq_true rfl⟩) ⟨rfl, rfl⟩ (fun v4 H locs hH => ?_)
  refine kb_if_eq (tgt := 51) hx hb dX9_writeFact_38 (by decide) (fun _ => ?_) (fun _ => ?_)
  · refine lv_aload_n hx hb dX9_writeFact_51 rfl (lv_at hl 1 rfl) ?_
    refine k_get C hH fd_X9_57 oK (k_ref (M := M3) (ad := ad) rK7) dX9_writeFact_52 ?_
    refine lv_bipush (v := 60) hx hb dX9_writeFact_55 (by decide) ?_
    refine kg_v C hH (kc_V C hH w_4_210 lc_yX4_add li_yX4_add oL (kX4_add l E ad M3 60) (As := [.int 60]) rfl dX9_writeFact_57 rfl hl.1 (Nat.le_of_ble_eq_true rfl) ⟨Nat.le_of_ble_eq_true rfl, Nat.le_of_ble_eq_true rfl⟩ ⟨Nat.le_of_ble_eq_true rfl, Nat.le_of_ble_eq_true rfl⟩) ⟨rfl, rfl⟩ (fun M5 H locs hH => ?_)
    refine lv_aload_n hx hb dX9_writeFact_60 rfl (lv_at hl 1 rfl) ?_
    refine k_get C hH fd_X9_57 oK (k_ref (M := M5) (ad := ad) rK7) dX9_writeFact_61 ?_
    refine lv_bipush (v := 48) hx hb dX9_writeFact_64 (by decide) ?_
    refine lv_aload_n hx hb dX9_writeFact_66 rfl (lv_at hl 0 rfl) ?_
    refine lv_iload_n hx hb dX9_writeFact_67 rfl (lv_at hl 2 rfl) ?_
    refine kg_io C hH (kc_V C hH w_4_211 lc_yX1_maker li_yX1_maker oD (kX1_maker l E ad M5 a1) (As := [.int a1]) rfl dX9_writeFact_68 rfl hl.1 (Nat.le_of_ble_eq_true rfl) ⟨Nat.le_of_ble_eq_true rfl, Nat.le_of_ble_eq_true rfl⟩ ⟨Nat.le_of_ble_eq_true rfl, Nat.le_of_ble_eq_true rfl⟩) ⟨rfl, rfl⟩ (fun v6 H locs hH => ?_)
    refine kg_v C hH (kc_V C hH w_4_215 lc_yX4_addNumber li_yX4_addNumber oL (kX4_addNumber l E ad M5 48 v6) (As := [.int 48, .int v6]) rfl dX9_writeFact_71 rfl hl.1 (Nat.le_of_ble_eq_true rfl) ⟨Nat.le_of_ble_eq_true rfl, Nat.le_of_ble_eq_true rfl⟩ ⟨Nat.le_of_ble_eq_true rfl, Nat.le_of_ble_eq_true rfl⟩) ⟨rfl, rfl⟩ (fun M7 H locs hH => ?_)
    refine lv_bipush (v := 58) hx hb dX9_writeFact_74 (by decide) ?_
    refine lv_istore_n (lv' := [(3, .int 58), (2, .ref (ad 106)), (0, .ref (ad 121)), (1, .int a1)]) hx hb dX9_writeFact_76 rfl hl (by decide) rfl (fun ls hl => ?_)
    refine lv_iconst (v := 0) hx hb dX9_writeFact_77 (by decide) ?_
    refine lv_istore (lv' := [(4, .int 0), (3, .int 58), (2, .ref (ad 106)), (0, .ref (ad 121)), (1, .int a1)]) hx hb dX9_writeFact_78 hl (by decide) rfl (fun ls hl => ?_)
    refine W_lp (fun (x : Int32 × Int32 × KS) H locs => KH SK E ad sz x.2.2 s.heap H locs) (fun x ls => lv_has ls 6 [(2, .ref (ad 106)), (0, .ref (ad 121)), (1, .int a1), (3, .int x.1), (4, .int x.2.1)]) (fun _ ls => F0 m 80 ls []) (fun (x : KS) H locs => KH SK E ad sz x s.heap H locs) (fun x ls => lv_has ls 6 []) (fun _ ls => F0 m 133 ls []) ?_ ?_ hH (lv_sub hl [2, 3, 4, 1, 0] rfl)
    · intro M11 H locs ls hH hl
      have hH : KH SK E ad sz M11 s.heap H locs := hH
      have hl : lv_has ls 6 [] := hl
      refine W_q fX9_writeFact_X80_u ?_
      exact ke_v C hH hr (Nat.le_refl _) (Nat.le_refl _) rfl dX9_writeFact_133
    · intro rec80 k80 hrec80 hk80 ⟨v8, v9, M10⟩ H locs ls hH hl
      have hH : KH SK E ad sz M10 s.heap H locs := hH
      have hl : lv_has ls 6 [(2, .ref (ad 106)), (0, .ref (ad 121)), (1, .int a1), (3, .int v8), (4, .int v9)] := hl
      refine W_q fX9_writeFact_L80_u ?_
      refine lv_iload hx hb dX9_writeFact_80 (lv_at hl 4 rfl) ?_
      refine lv_iconst (v := 3) hx hb dX9_writeFact_82 (by decide) ?_
      refine kb_icmp_ge (tgt := 133) hx hb dX9_writeFact_83 (by decide) (fun _ => ?_) (fun _ => ?_)
      · exact hk80 M10 _ _ _ hH (lv_sub hl [] rfl)
      · refine lv_aload_n hx hb dX9_writeFact_86 rfl (lv_at hl 0 rfl) ?_
        refine lv_aload_n hx hb dX9_writeFact_87 rfl (lv_at hl 1 rfl) ?_
        refine k_get C hH fd_X9_10 oK (k_ref (M := M10) (ad := ad) rK0) dX9_writeFact_88 ?_
        refine k_getN C hH fn_X9_128 (oS (f := 0) (by decide)) (k_ref (M := M10) (ad := ad) (rS1 (f := 0) (by decide))) dX9_writeFact_91 ?_
        refine lv_iload_n hx hb dX9_writeFact_94 rfl (lv_at hl 2 rfl) ?_
        refine lv_iload hx hb dX9_writeFact_95 (lv_at hl 4 rfl) ?_
        refine kg_io C hH (kc_V C hH w_4_216 lc_yX1_need li_yX1_need oD (kX1_need l E ad M10 0 (by decide) a1 v9) (As := [.ref (ad (iR 0)), .int a1, .int v9]) rfl dX9_writeFact_97 rfl hl.1 (Nat.le_of_ble_eq_true rfl) ⟨Nat.le_of_ble_eq_true rfl, Nat.le_of_ble_eq_true rfl⟩ ⟨Nat.le_of_ble_eq_true rfl, Nat.le_of_ble_eq_true rfl⟩) ⟨rfl, rfl⟩ (fun v12 H locs hH => ?_)
        refine lv_istore (lv' := [(5, .int v12), (2, .ref (ad 106)), (0, .ref (ad 121)), (1, .int a1), (3, .int v8), (4, .int v9)]) hx hb dX9_writeFact_100 hl (by decide) rfl (fun ls hl => ?_)
        refine lv_iload hx hb dX9_writeFact_102 (lv_at hl 0 rfl) ?_
        refine kb_if_lt (tgt := 127) hx hb dX9_writeFact_104 (by decide) (fun _ => ?_) (fun _ => ?_)
        · refine W_nm (fun v13 ev13 => ?_)
          refine lv_iinc (v := v13) (lv' := [(4, .int v13), (5, .int v12), (2, .ref (ad 106)), (0, .ref (ad 121)), (1, .int a1), (3, .int v8)]) hx hb dX9_writeFact_127 hl (k := 5) rfl (by rw [ev13]; rfl) (by decide) rfl (fun ls hl => ?_)
          refine lv_goto (tgt := 80) hx hb dX9_writeFact_130 (by decide) ?_
          exact hrec80 (v8, v13, M10) _ _ _ hH (lv_sub hl [2, 3, 4, 5, 0] rfl)
        · refine lv_aload_n hx hb dX9_writeFact_107 rfl (lv_at hl 2 rfl) ?_
          refine k_get C hH fd_X9_57 oK (k_ref (M := M10) (ad := ad) rK7) dX9_writeFact_108 ?_
          refine lv_iload_n hx hb dX9_writeFact_111 rfl (lv_at hl 4 rfl) ?_
          refine kg_v C hH (kc_V C hH w_4_210 lc_yX4_add li_yX4_add oL (kX4_add l E ad M10 v8) (As := [.int v8]) rfl dX9_writeFact_112 rfl hl.1 (Nat.le_of_ble_eq_true rfl) ⟨Nat.le_of_ble_eq_true rfl, Nat.le_of_ble_eq_true rfl⟩ ⟨Nat.le_of_ble_eq_true rfl, Nat.le_of_ble_eq_true rfl⟩) ⟨rfl, rfl⟩ (fun M14 H locs hH => ?_)
          refine lv_aload_n hx hb dX9_writeFact_115 rfl (lv_at hl 2 rfl) ?_
          refine k_get C hH fd_X9_57 oK (k_ref (M := M14) (ad := ad) rK7) dX9_writeFact_116 ?_
          refine lv_iload hx hb dX9_writeFact_119 (lv_at hl 0 rfl) ?_
          refine kg_v C hH (kc_V C hH w_4_198 lc_yX4_addFact li_yX4_addFact oL (kX4_addFact l E ad M14 v12) (As := [.int v12]) rfl dX9_writeFact_121 rfl hl.1 (Nat.le_of_ble_eq_true rfl) ⟨Nat.le_of_ble_eq_true rfl, Nat.le_of_ble_eq_true rfl⟩ ⟨Nat.le_of_ble_eq_true rfl, Nat.le_of_ble_eq_true rfl⟩) ⟨rfl, rfl⟩ (fun M15 H locs hH => ?_)
          refine lv_bipush (v := 44) hx hb dX9_writeFact_124 (by decide) ?_
          refine lv_istore_n (lv' := [(3, .int 44), (5, .int v12), (2, .ref (ad 106)), (0, .ref (ad 121)), (1, .int a1), (4, .int v9)]) hx hb dX9_writeFact_126 rfl hl (by decide) rfl (fun ls hl => ?_)
          refine W_nm (fun v16 ev16 => ?_)
          refine lv_iinc (v := v16) (lv' := [(4, .int v16), (3, .int 44), (5, .int v12), (2, .ref (ad 106)), (0, .ref (ad 121)), (1, .int a1)]) hx hb dX9_writeFact_127 hl (k := 5) rfl (by rw [ev16]; rfl) (by decide) rfl (fun ls hl => ?_)
          refine lv_goto (tgt := 80) hx hb dX9_writeFact_130 (by decide) ?_
          exact hrec80 (44, v16, M15) _ _ _ hH (lv_sub hl [3, 4, 5, 1, 0] rfl)
  · refine lv_aload_n hx hb dX9_writeFact_41 rfl (lv_at hl 1 rfl) ?_
    refine k_get C hH fd_X9_57 oK (k_ref (M := M3) (ad := ad) rK7) dX9_writeFact_42 ?_
    refine lv_bipush (v := 46) hx hb dX9_writeFact_45 (by decide) ?_
    refine kg_v C hH (kc_V C hH w_4_210 lc_yX4_add li_yX4_add oL (kX4_add l E ad M3 46) (As := [.int 46]) rfl dX9_writeFact_47 rfl hl.1 (Nat.le_of_ble_eq_true rfl) ⟨Nat.le_of_ble_eq_true rfl, Nat.le_of_ble_eq_true rfl⟩ ⟨Nat.le_of_ble_eq_true rfl, Nat.le_of_ble_eq_true rfl⟩) ⟨rfl, rfl⟩ (fun M17 H locs hH => ?_)
    exact ke_v C hH hr (Nat.le_refl _) (Nat.le_refl _) rfl dX9_writeFact_50
def fX4_addCondition_J10_1 (a1 : Int32) (M1 : KS) : Option (KS) := (fX4_addNumber M1 48 (fX9_relationIn a1)).bind fun M2 => (fX9_firstIn a1).bind fun v3 => (fX4_addNumber M2 120 v3).bind fun M4 => (fX4_addNumber M4 120 (fX9_secondIn a1)).bind fun M5 => some M5
theorem fX4_addCondition_J10_1_u {a1 : Int32} {M1 : KS} : fX4_addCondition_J10_1 a1 M1 = (fX4_addNumber M1 48 (fX9_relationIn a1)).bind fun M2 => (fX9_firstIn a1).bind fun v3 => (fX4_addNumber M2 120 v3).bind fun M4 => (fX4_addNumber M4 120 (fX9_secondIn a1)).bind fun M5 => some M5 := rfl
def fX4_addCondition (M : KS) (a1 : Int32) : Option (KS) := jn (fX4_addCondition_J10_1 a1) (fun K10_1 => (if 0 ≤ a1 then K10_1 M else (fX4_add M 33).bind fun M6 => K10_1 M6))
set_option maxHeartbeats 4000000 in
set_option maxRecDepth 100000 in
theorem kX4_addCondition (l : Launch) (E : KE) (ad : Nat → Nat) (M : KS) (a1 : Int32) : CT l yX4_addCondition cX4_addCondition 2 none { frames := 2, cells := 0, slots := 0, locals := 43 } SK E ad [.ref (ad 119), .int a1] M (QV SK E ad) (fX4_addCondition M a1) := by
  refine CT.ofW (by decide) (Nat.le_of_ble_eq_true rfl) (fun sz p e s m args below meth c C hr hH ls hl => ?_)
  have hx := C.1.1
  have hb := C.1.2.1
  have hl : lv_has ls 2 [(0, .ref (ad 119)), (1, .int a1)] := hl
  unfold fX4_addCondition
  refine lv_iload_n hx hb dX4_addCondition_0 rfl (lv_at hl 1 rfl) ?_
  refine W_jn (fun (x : KS) H locs => KH SK E ad sz x s.heap H locs) (fun x ls => lv_has ls 2 [(0, .ref (ad 119)), (1, .int a1)]) (fun x ls => F0 m 10 ls []) ?_ (fun K10_1 hK10_1 => ?_)
  · intro M1 H locs ls hH hl
    have hH : KH SK E ad sz M1 s.heap H locs := hH
    have hl : lv_has ls 2 [(0, .ref (ad 119)), (1, .int a1)] := hl
    refine W_q fX4_addCondition_J10_1_u ?_
    refine lv_aload_n hx hb dX4_addCondition_10 rfl (lv_at hl 0 rfl) ?_
    refine lv_bipush (v := 48) hx hb dX4_addCondition_11 (by decide) ?_
    refine lv_iload_n hx hb dX4_addCondition_13 rfl (lv_at hl 1 rfl) ?_
    refine kg_ip C hH (kc_SN C hH w_4_228 w_st_yX9_relationIn lc_yX9_relationIn (kX9_relationIn l E ad M1 a1) (As := [.int a1]) rfl dX4_addCondition_14 rfl hl.1 (Nat.le_of_ble_eq_true rfl) ⟨Nat.le_of_ble_eq_true rfl, Nat.le_of_ble_eq_true rfl⟩ ⟨Nat.le_of_ble_eq_true rfl, Nat.le_of_ble_eq_true rfl⟩) ⟨rfl, rfl⟩ (fun H locs hH => ?_)
    refine kg_v C hH (kc_V C hH w_4_202 lc_yX4_addNumber li_yX4_addNumber oL (kX4_addNumber l E ad M1 48 (fX9_relationIn a1)) (As := [.int 48, .int (fX9_relationIn a1)]) rfl dX4_addCondition_17 rfl hl.1 (Nat.le_of_ble_eq_true rfl) ⟨Nat.le_of_ble_eq_true rfl, Nat.le_of_ble_eq_true rfl⟩ ⟨Nat.le_of_ble_eq_true rfl, Nat.le_of_ble_eq_true rfl⟩) ⟨rfl, rfl⟩ (fun M2 H locs hH => ?_)
    refine lv_aload_n hx hb dX4_addCondition_20 rfl (lv_at hl 0 rfl) ?_
    refine lv_bipush (v := 120) hx hb dX4_addCondition_21 (by decide) ?_
    refine lv_iload_n hx hb dX4_addCondition_23 rfl (lv_at hl 1 rfl) ?_
    refine kg_io C hH (kc_SN C hH w_4_229 w_st_yX9_firstIn lc_yX9_firstIn (kX9_firstIn l E ad M2 a1) (As := [.int a1]) rfl dX4_addCondition_24 rfl hl.1 (Nat.le_of_ble_eq_true rfl) ⟨Nat.le_of_ble_eq_true rfl, Nat.le_of_ble_eq_true rfl⟩ ⟨Nat.le_of_ble_eq_true rfl, Nat.le_of_ble_eq_true rfl⟩) ⟨rfl, rfl⟩ (fun v3 H locs hH => ?_)
    refine kg_v C hH (kc_V C hH w_4_202 lc_yX4_addNumber li_yX4_addNumber oL (kX4_addNumber l E ad M2 120 v3) (As := [.int 120, .int v3]) rfl dX4_addCondition_27 rfl hl.1 (Nat.le_of_ble_eq_true rfl) ⟨Nat.le_of_ble_eq_true rfl, Nat.le_of_ble_eq_true rfl⟩ ⟨Nat.le_of_ble_eq_true rfl, Nat.le_of_ble_eq_true rfl⟩) ⟨rfl, rfl⟩ (fun M4 H locs hH => ?_)
    refine lv_aload_n hx hb dX4_addCondition_30 rfl (lv_at hl 0 rfl) ?_
    refine lv_bipush (v := 120) hx hb dX4_addCondition_31 (by decide) ?_
    refine lv_iload_n hx hb dX4_addCondition_33 rfl (lv_at hl 1 rfl) ?_
    refine kg_ip C hH (kc_SN C hH w_4_230 w_st_yX9_secondIn lc_yX9_secondIn (kX9_secondIn l E ad M4 a1) (As := [.int a1]) rfl dX4_addCondition_34 rfl hl.1 (Nat.le_of_ble_eq_true rfl) ⟨Nat.le_of_ble_eq_true rfl, Nat.le_of_ble_eq_true rfl⟩ ⟨Nat.le_of_ble_eq_true rfl, Nat.le_of_ble_eq_true rfl⟩) ⟨rfl, rfl⟩ (fun H locs hH => ?_)
    refine kg_v C hH (kc_V C hH w_4_202 lc_yX4_addNumber li_yX4_addNumber oL (kX4_addNumber l E ad M4 120 (fX9_secondIn a1)) (As := [.int 120, .int (fX9_secondIn a1)]) rfl dX4_addCondition_37 rfl hl.1 (Nat.le_of_ble_eq_true rfl) ⟨Nat.le_of_ble_eq_true rfl, Nat.le_of_ble_eq_true rfl⟩ ⟨Nat.le_of_ble_eq_true rfl, Nat.le_of_ble_eq_true rfl⟩) ⟨rfl, rfl⟩ (fun M5 H locs hH => ?_)
    exact ke_v C hH hr (Nat.le_refl _) (Nat.le_refl _) rfl dX4_addCondition_40
  · refine kb_if_ge (tgt := 10) hx hb dX4_addCondition_1 (by decide) (fun _ => ?_) (fun _ => ?_)
    · exact hK10_1 M _ _ _ hH (lv_sub hl [0, 1] rfl)
    · refine lv_aload_n hx hb dX4_addCondition_4 rfl (lv_at hl 0 rfl) ?_
      refine lv_bipush (v := 33) hx hb dX4_addCondition_5 (by decide) ?_
      refine kg_v C hH (kc_V C hH w_4_206 lc_yX4_add li_yX4_add oL (kX4_add l E ad M 33) (As := [.int 33]) rfl dX4_addCondition_7 rfl hl.1 (Nat.le_of_ble_eq_true rfl) ⟨Nat.le_of_ble_eq_true rfl, Nat.le_of_ble_eq_true rfl⟩ ⟨Nat.le_of_ble_eq_true rfl, Nat.le_of_ble_eq_true rfl⟩) ⟨rfl, rfl⟩ (fun M6 H locs hH => ?_)
      exact hK10_1 M6 _ _ _ hH (lv_sub hl [0, 1] rfl)
def fX8_add (M : KS) (a1 : Int32) : Option (Int32 × KS) := (if (M.1 115 3) < 60 then if inb (M.1 115 3) 60 then nm (kset M 116 (M.1 115 3).toNatClampNeg (vp_nar .char a1)) fun M1 => nm (kset M1 115 3 ((M1.1 115 3) + 1)) fun M2 => some (1, M2) else none else some (0, M))
set_option maxHeartbeats 4000000 in
set_option maxRecDepth 100000 in
theorem kX8_add (l : Launch) (E : KE) (ad : Nat → Nat) (M : KS) (a1 : Int32) : CT l yX8_add cX8_add 2 (some .boolean) { frames := 0, cells := 0, slots := 0, locals := 0 } SK E ad [.ref (ad 115), .int a1] M (QI SK E ad) (fX8_add M a1) := by
  refine CT.ofW (by decide) (Nat.le_of_ble_eq_true rfl) (fun sz p e s m args below meth c C hr hH ls hl => ?_)
  have hx := C.1.1
  have hb := C.1.2.1
  have hl : lv_has ls 2 [(0, .ref (ad 115)), (1, .int a1)] := hl
  unfold fX8_add
  refine lv_aload_n hx hb dX8_add_0 rfl (lv_at hl 0 rfl) ?_
  refine k_get C hH fd_X8_22 oT (k_int (M := M) (ad := ad) nT3) dX8_add_1 ?_
  refine lv_aload_n hx hb dX8_add_4 rfl (lv_at hl 0 rfl) ?_
  refine k_get C hH fd_X8_9 oT (k_ref (M := M) (ad := ad) rT0) dX8_add_5 ?_
  refine k_clen C hH aT0 (v := 60) rfl dX8_add_8 ?_
  refine kb_icmp_lt (tgt := 14) hx hb dX8_add_9 (by decide) (fun _ => ?_) (fun _ => ?_)
  · refine lv_aload_n hx hb dX8_add_14 rfl (lv_at hl 0 rfl) ?_
    refine k_get C hH fd_X8_9 oT (k_ref (M := M) (ad := ad) rT0) dX8_add_15 ?_
    refine lv_aload_n hx hb dX8_add_18 rfl (lv_at hl 0 rfl) ?_
    refine k_get C hH fd_X8_22 oT (k_int (M := M) (ad := ad) nT3) dX8_add_19 ?_
    refine lv_iload_n hx hb dX8_add_22 rfl (lv_at hl 1 rfl) ?_
    refine k_cast C hH aT0 dX8_add_23 (fun M1 H locs hH => ?_)
    refine lv_aload_n hx hb dX8_add_24 rfl (lv_at hl 0 rfl) ?_
    refine lv_dup hx hb dX8_add_25 rfl ?_
    refine k_get C hH fd_X8_22 oT (k_int (M := M1) (ad := ad) nT3) dX8_add_26 ?_
    refine lv_iconst (v := 1) hx hb dX8_add_29 (by decide) ?_
    refine lv_iadd hx hb dX8_add_30 ?_
    refine k_put1 C hH fd_X8_22 fw_X8_3 oT nT3 rfl rfl dX8_add_31 (fun M2 H locs hH => ?_)
    refine lv_iconst (v := 1) hx hb dX8_add_34 (by decide) ?_
    exact ke_z C hH hr (Nat.le_refl _) (Nat.le_refl _) rfl (Or.inr rfl) dX8_add_35
  · refine lv_iconst (v := 0) hx hb dX8_add_12 (by decide) ?_
    exact ke_z C hH hr (Nat.le_refl _) (Nat.le_refl _) rfl (Or.inl rfl) dX8_add_13
def fX8_read (M : KS) (a1 : Int32) (a2 : Int32) : Option (Int32 × KS) := (if (M.1 115 5) < 0 then some ((-1), M) else (if (M.1 115 3) ≤ (M.1 115 5) then some ((-1), M) else (if (M.1 115 5) < 60 then if inb (M.1 115 5) 60 then nm (((M.1 116 (M.1 115 5).toNatClampNeg) - a1)) fun v1 => (if v1 < 0 then some ((-1), M) else (if v1 < a2 then nm (kset M 115 5 ((M.1 115 5) + 1)) fun M2 => some (v1, M2) else some ((-1), M))) else none else some ((-1), M))))
set_option maxHeartbeats 4000000 in
set_option maxRecDepth 100000 in
theorem kX8_read (l : Launch) (E : KE) (ad : Nat → Nat) (M : KS) (a1 : Int32) (a2 : Int32) : CT l yX8_read cX8_read 4 (some .int) { frames := 0, cells := 0, slots := 0, locals := 0 } SK E ad [.ref (ad 115), .int a1, .int a2] M (QI SK E ad) (fX8_read M a1 a2) := by
  refine CT.ofW (by decide) (Nat.le_of_ble_eq_true rfl) (fun sz p e s m args below meth c C hr hH ls hl => ?_)
  have hx := C.1.1
  have hb := C.1.2.1
  have hl : lv_has ls 4 [(0, .ref (ad 115)), (1, .int a1), (2, .int a2)] := hl
  unfold fX8_read
  refine lv_aload_n hx hb dX8_read_0 rfl (lv_at hl 0 rfl) ?_
  refine k_get C hH fd_X8_29 oT (k_int (M := M) (ad := ad) nT5) dX8_read_1 ?_
  refine kb_if_lt (tgt := 30) hx hb dX8_read_4 (by decide) (fun _ => ?_) (fun _ => ?_)
  · refine lv_iconst (v := (-1)) hx hb dX8_read_30 (by decide) ?_
    exact ke_i C hH hr (Nat.le_refl _) (Nat.le_refl _) rfl dX8_read_31
  · refine lv_aload_n hx hb dX8_read_7 rfl (lv_at hl 0 rfl) ?_
    refine k_get C hH fd_X8_29 oT (k_int (M := M) (ad := ad) nT5) dX8_read_8 ?_
    refine lv_aload_n hx hb dX8_read_11 rfl (lv_at hl 0 rfl) ?_
    refine k_get C hH fd_X8_22 oT (k_int (M := M) (ad := ad) nT3) dX8_read_12 ?_
    refine kb_icmp_ge (tgt := 30) hx hb dX8_read_15 (by decide) (fun _ => ?_) (fun _ => ?_)
    · refine lv_iconst (v := (-1)) hx hb dX8_read_30 (by decide) ?_
      exact ke_i C hH hr (Nat.le_refl _) (Nat.le_refl _) rfl dX8_read_31
    · refine lv_aload_n hx hb dX8_read_18 rfl (lv_at hl 0 rfl) ?_
      refine k_get C hH fd_X8_29 oT (k_int (M := M) (ad := ad) nT5) dX8_read_19 ?_
      refine lv_aload_n hx hb dX8_read_22 rfl (lv_at hl 0 rfl) ?_
      refine k_get C hH fd_X8_9 oT (k_ref (M := M) (ad := ad) rT0) dX8_read_23 ?_
      refine k_clen C hH aT0 (v := 60) rfl dX8_read_26 ?_
      refine kb_icmp_lt (tgt := 32) hx hb dX8_read_27 (by decide) (fun _ => ?_) (fun _ => ?_)
      · refine lv_aload_n hx hb dX8_read_32 rfl (lv_at hl 0 rfl) ?_
        refine k_get C hH fd_X8_9 oT (k_ref (M := M) (ad := ad) rT0) dX8_read_33 ?_
        refine lv_aload_n hx hb dX8_read_36 rfl (lv_at hl 0 rfl) ?_
        refine k_get C hH fd_X8_29 oT (k_int (M := M) (ad := ad) nT5) dX8_read_37 ?_
        refine k_cald C hH aT0 dX8_read_40 ?_
        refine lv_iload_n hx hb dX8_read_41 rfl (lv_at hl 1 rfl) ?_
        refine lv_isub hx hb dX8_read_42 ?_
        refine W_nmi (fun v1 => ?_)
        refine lv_istore_n (lv' := [(3, .int v1), (0, .ref (ad 115)), (1, .int a1), (2, .int a2)]) hx hb dX8_read_43 rfl hl (by decide) rfl (fun ls hl => ?_)
        refine lv_iload_n hx hb dX8_read_44 rfl (lv_at hl 0 rfl) ?_
        refine kb_if_lt (tgt := 53) hx hb dX8_read_45 (by decide) (fun _ => ?_) (fun _ => ?_)
        · refine lv_iconst (v := (-1)) hx hb dX8_read_53 (by decide) ?_
          exact ke_i C hH hr (Nat.le_refl _) (Nat.le_refl _) rfl dX8_read_54
        · refine lv_iload_n hx hb dX8_read_48 rfl (lv_at hl 0 rfl) ?_
          refine lv_iload_n hx hb dX8_read_49 rfl (lv_at hl 3 rfl) ?_
          refine kb_icmp_lt (tgt := 55) hx hb dX8_read_50 (by decide) (fun _ => ?_) (fun _ => ?_)
          · refine lv_aload_n hx hb dX8_read_55 rfl (lv_at hl 1 rfl) ?_
            refine lv_dup hx hb dX8_read_56 rfl ?_
            refine k_get C hH fd_X8_29 oT (k_int (M := M) (ad := ad) nT5) dX8_read_57 ?_
            refine lv_iconst (v := 1) hx hb dX8_read_60 (by decide) ?_
            refine lv_iadd hx hb dX8_read_61 ?_
            refine k_put1 C hH fd_X8_29 fw_X8_5 oT nT5 rfl rfl dX8_read_62 (fun M2 H locs hH => ?_)
            refine lv_iload_n hx hb dX8_read_65 rfl (lv_at hl 0 rfl) ?_
            exact ke_i C hH hr (Nat.le_refl _) (Nat.le_refl _) rfl dX8_read_66
          · refine lv_iconst (v := (-1)) hx hb dX8_read_53 (by decide) ?_
            exact ke_i C hH hr (Nat.le_refl _) (Nat.le_refl _) rfl dX8_read_54
      · refine lv_iconst (v := (-1)) hx hb dX8_read_30 (by decide) ?_
        exact ke_i C hH hr (Nat.le_refl _) (Nat.le_refl _) rfl dX8_read_31
def fX8_skip (M : KS) (a1 : Int32) : Option (Int32 × KS) := bd2 (fX8_read M a1 1) fun v2 M1 => (if v2 = 0 then some (1, M1) else some (0, M1))
set_option maxHeartbeats 4000000 in
set_option maxRecDepth 100000 in
theorem kX8_skip (l : Launch) (E : KE) (ad : Nat → Nat) (M : KS) (a1 : Int32) : CT l yX8_skip cX8_skip 2 (some .boolean) { frames := 1, cells := 0, slots := 0, locals := 23 } SK E ad [.ref (ad 115), .int a1] M (QI SK E ad) (fX8_skip M a1) := by
  refine CT.ofW (by decide) (Nat.le_of_ble_eq_true rfl) (fun sz p e s m args below meth c C hr hH ls hl => ?_)
  have hx := C.1.1
  have hb := C.1.2.1
  have hl : lv_has ls 2 [(0, .ref (ad 115)), (1, .int a1)] := hl
  unfold fX8_skip
  refine lv_aload_n hx hb dX8_skip_0 rfl (lv_at hl 0 rfl) ?_
  refine lv_iload_n hx hb dX8_skip_1 rfl (lv_at hl 1 rfl) ?_
  refine lv_iconst (v := 1) hx hb dX8_skip_2 (by decide) ?_
  refine kg_ib C hH (kc_V C hH w_5_46 lc_yX8_read li_yX8_read oT (kX8_read l E ad M a1 1) (As := [.int a1, .int 1]) rfl dX8_skip_3 rfl hl.1 (Nat.le_of_ble_eq_true rfl) ⟨Nat.le_of_ble_eq_true rfl, Nat.le_of_ble_eq_true rfl⟩ ⟨Nat.le_of_ble_eq_true rfl, Nat.le_of_ble_eq_true rfl⟩) ⟨rfl, rfl⟩ (fun v2 M1 H locs hH => ?_)
  refine kb_if_ne (tgt := 13) hx hb dX8_skip_6 (by decide) (fun _ => ?_) (fun _ => ?_)
  · refine lv_iconst (v := 0) hx hb dX8_skip_13 (by decide) ?_
    exact ke_z C hH hr (Nat.le_refl _) (Nat.le_refl _) rfl (Or.inl rfl) dX8_skip_14
  · refine lv_iconst (v := 1) hx hb dX8_skip_9 (by decide) ?_
    refine lv_goto (tgt := 14) hx hb dX8_skip_10 (by decide) ?_
    exact ke_z C hH hr (Nat.le_refl _) (Nat.le_refl _) rfl (Or.inr rfl) dX8_skip_14
def fX8_put (M : KS) (a1 : Int32) (a2 : Int32) (a3 : Int32) : Option (KS) := nm (((4 * a1) + a2)) fun v1 => (if v1 < 0 then some M else (if 84 ≤ v1 then some M else if inb v1 84 then nm (kset M 118 v1.toNatClampNeg a3) fun M2 => some M2 else none))
set_option maxHeartbeats 4000000 in
set_option maxRecDepth 100000 in
theorem kX8_put (l : Launch) (E : KE) (ad : Nat → Nat) (M : KS) (a1 : Int32) (a2 : Int32) (a3 : Int32) : CT l yX8_put cX8_put 5 none { frames := 0, cells := 0, slots := 0, locals := 0 } SK E ad [.ref (ad 115), .int a1, .int a2, .int a3] M (QV SK E ad) (fX8_put M a1 a2 a3) := by
  refine CT.ofW (by decide) (Nat.le_of_ble_eq_true rfl) (fun sz p e s m args below meth c C hr hH ls hl => ?_)
  have hx := C.1.1
  have hb := C.1.2.1
  have hl : lv_has ls 5 [(0, .ref (ad 115)), (1, .int a1), (2, .int a2), (3, .int a3)] := hl
  unfold fX8_put
  refine lv_iconst (v := 4) hx hb dX8_put_0 (by decide) ?_
  refine lv_iload_n hx hb dX8_put_1 rfl (lv_at hl 1 rfl) ?_
  refine lv_imul hx hb dX8_put_2 ?_
  refine lv_iload_n hx hb dX8_put_3 rfl (lv_at hl 2 rfl) ?_
  refine lv_iadd hx hb dX8_put_4 ?_
  refine W_nmi (fun v1 => ?_)
  refine lv_istore (lv' := [(4, .int v1), (0, .ref (ad 115)), (1, .int a1), (2, .int a2), (3, .int a3)]) hx hb dX8_put_5 hl (by decide) rfl (fun ls hl => ?_)
  refine lv_iload hx hb dX8_put_7 (lv_at hl 0 rfl) ?_
  refine kb_if_lt (tgt := 30) hx hb dX8_put_9 (by decide) (fun _ => ?_) (fun _ => ?_)
  · exact ke_v C hH hr (Nat.le_refl _) (Nat.le_refl _) rfl dX8_put_30
  · refine lv_iload hx hb dX8_put_12 (lv_at hl 0 rfl) ?_
    refine lv_aload_n hx hb dX8_put_14 rfl (lv_at hl 1 rfl) ?_
    refine k_get C hH fd_X8_18 oT (k_ref (M := M) (ad := ad) rT2) dX8_put_15 ?_
    refine k_ilen C hH aT2 (v := 84) rfl dX8_put_18 ?_
    refine kb_icmp_ge (tgt := 30) hx hb dX8_put_19 (by decide) (fun _ => ?_) (fun _ => ?_)
    · exact ke_v C hH hr (Nat.le_refl _) (Nat.le_refl _) rfl dX8_put_30
    · refine lv_aload_n hx hb dX8_put_22 rfl (lv_at hl 1 rfl) ?_
      refine k_get C hH fd_X8_18 oT (k_ref (M := M) (ad := ad) rT2) dX8_put_23 ?_
      refine lv_iload hx hb dX8_put_26 (lv_at hl 0 rfl) ?_
      refine lv_iload_n hx hb dX8_put_28 rfl (lv_at hl 4 rfl) ?_
      refine k_iast C hH aT2 dX8_put_29 (fun M2 H locs hH => ?_)
      exact ke_v C hH hr (Nat.le_refl _) (Nat.le_refl _) rfl dX8_put_30
def fX8_readNumber (M : KS) (a1 : Int32) (a2 : Int32) (a3 : Int32) (a4 : Int32) : Option (Int32 × KS) := bd2 (fX8_read M a3 a4) fun v2 M1 => (fX8_put M1 a1 a2 v2).bind fun M3 => (if v2 < 0 then some (0, M3) else some (1, M3))
set_option maxHeartbeats 4000000 in
set_option maxRecDepth 100000 in
theorem kX8_readNumber (l : Launch) (E : KE) (ad : Nat → Nat) (M : KS) (a1 : Int32) (a2 : Int32) (a3 : Int32) (a4 : Int32) : CT l yX8_readNumber cX8_readNumber 6 (some .boolean) { frames := 1, cells := 0, slots := 0, locals := 24 } SK E ad [.ref (ad 115), .int a1, .int a2, .int a3, .int a4] M (QI SK E ad) (fX8_readNumber M a1 a2 a3 a4) := by
  refine CT.ofW (by decide) (Nat.le_of_ble_eq_true rfl) (fun sz p e s m args below meth c C hr hH ls hl => ?_)
  have hx := C.1.1
  have hb := C.1.2.1
  have hl : lv_has ls 6 [(0, .ref (ad 115)), (1, .int a1), (2, .int a2), (3, .int a3), (4, .int a4)] := hl
  unfold fX8_readNumber
  refine lv_aload_n hx hb dX8_readNumber_0 rfl (lv_at hl 0 rfl) ?_
  refine lv_iload_n hx hb dX8_readNumber_1 rfl (lv_at hl 3 rfl) ?_
  refine lv_iload hx hb dX8_readNumber_2 (lv_at hl 4 rfl) ?_
  refine kg_ib C hH (kc_V C hH w_5_46 lc_yX8_read li_yX8_read oT (kX8_read l E ad M a3 a4) (As := [.int a3, .int a4]) rfl dX8_readNumber_4 rfl hl.1 (Nat.le_of_ble_eq_true rfl) ⟨Nat.le_of_ble_eq_true rfl, Nat.le_of_ble_eq_true rfl⟩ ⟨Nat.le_of_ble_eq_true rfl, Nat.le_of_ble_eq_true rfl⟩) ⟨rfl, rfl⟩ (fun v2 M1 H locs hH => ?_)
  refine lv_istore (lv' := [(5, .int v2), (0, .ref (ad 115)), (1, .int a1), (2, .int a2), (3, .int a3), (4, .int a4)]) hx hb dX8_readNumber_7 hl (by decide) rfl (fun ls hl => ?_)
  refine lv_aload_n hx hb dX8_readNumber_9 rfl (lv_at hl 1 rfl) ?_
  refine lv_iload_n hx hb dX8_readNumber_10 rfl (lv_at hl 2 rfl) ?_
  refine lv_iload_n hx hb dX8_readNumber_11 rfl (lv_at hl 3 rfl) ?_
  refine lv_iload hx hb dX8_readNumber_12 (lv_at hl 0 rfl) ?_
  refine kg_v C hH (kc_V C hH w_5_58 lc_yX8_put li_yX8_put oT (kX8_put l E ad M1 a1 a2 v2) (As := [.int a1, .int a2, .int v2]) rfl dX8_readNumber_14 rfl hl.1 (Nat.le_of_ble_eq_true rfl) ⟨Nat.le_of_ble_eq_true rfl, Nat.le_of_ble_eq_true rfl⟩ ⟨Nat.le_of_ble_eq_true rfl, Nat.le_of_ble_eq_true rfl⟩) ⟨rfl, rfl⟩ (fun M3 H locs hH => ?_)
  refine lv_iload hx hb dX8_readNumber_17 (lv_at hl 0 rfl) ?_
  refine kb_if_lt (tgt := 26) hx hb dX8_readNumber_19 (by decide) (fun _ => ?_) (fun _ => ?_)
  · refine lv_iconst (v := 0) hx hb dX8_readNumber_26 (by decide) ?_
    exact ke_z C hH hr (Nat.le_refl _) (Nat.le_refl _) rfl (Or.inl rfl) dX8_readNumber_27
  · refine lv_iconst (v := 1) hx hb dX8_readNumber_22 (by decide) ?_
    refine lv_goto (tgt := 27) hx hb dX8_readNumber_23 (by decide) ?_
    exact ke_z C hH hr (Nat.le_refl _) (Nat.le_refl _) rfl (Or.inr rfl) dX8_readNumber_27
def fX8_note (M : KS) (a1 : Int32) (a2 : Int32) : Option (Int32 × KS) := (if a1 < 0 then some (0, M) else (if a1 < 21 then if inb a1 21 then nm (kset M 117 a1.toNatClampNeg (vp_nar .char a2)) fun M1 => some (1, M1) else none else some (0, M)))
set_option maxHeartbeats 4000000 in
set_option maxRecDepth 100000 in
theorem kX8_note (l : Launch) (E : KE) (ad : Nat → Nat) (M : KS) (a1 : Int32) (a2 : Int32) : CT l yX8_note cX8_note 3 (some .boolean) { frames := 0, cells := 0, slots := 0, locals := 0 } SK E ad [.ref (ad 115), .int a1, .int a2] M (QI SK E ad) (fX8_note M a1 a2) := by
  refine CT.ofW (by decide) (Nat.le_of_ble_eq_true rfl) (fun sz p e s m args below meth c C hr hH ls hl => ?_)
  have hx := C.1.1
  have hb := C.1.2.1
  have hl : lv_has ls 3 [(0, .ref (ad 115)), (1, .int a1), (2, .int a2)] := hl
  unfold fX8_note
  refine lv_iload_n hx hb dX8_note_0 rfl (lv_at hl 1 rfl) ?_
  refine kb_if_lt (tgt := 13) hx hb dX8_note_1 (by decide) (fun _ => ?_) (fun _ => ?_)
  · refine lv_iconst (v := 0) hx hb dX8_note_13 (by decide) ?_
    exact ke_z C hH hr (Nat.le_refl _) (Nat.le_refl _) rfl (Or.inl rfl) dX8_note_14
  · refine lv_iload_n hx hb dX8_note_4 rfl (lv_at hl 1 rfl) ?_
    refine lv_aload_n hx hb dX8_note_5 rfl (lv_at hl 0 rfl) ?_
    refine k_get C hH fd_X8_15 oT (k_ref (M := M) (ad := ad) rT1) dX8_note_6 ?_
    refine k_clen C hH aT1 (v := 21) rfl dX8_note_9 ?_
    refine kb_icmp_lt (tgt := 15) hx hb dX8_note_10 (by decide) (fun _ => ?_) (fun _ => ?_)
    · refine lv_aload_n hx hb dX8_note_15 rfl (lv_at hl 0 rfl) ?_
      refine k_get C hH fd_X8_15 oT (k_ref (M := M) (ad := ad) rT1) dX8_note_16 ?_
      refine lv_iload_n hx hb dX8_note_19 rfl (lv_at hl 1 rfl) ?_
      refine lv_iload_n hx hb dX8_note_20 rfl (lv_at hl 2 rfl) ?_
      refine k_cast C hH aT1 dX8_note_21 (fun M1 H locs hH => ?_)
      refine lv_iconst (v := 1) hx hb dX8_note_22 (by decide) ?_
      exact ke_z C hH hr (Nat.le_refl _) (Nat.le_refl _) rfl (Or.inr rfl) dX8_note_23
    · refine lv_iconst (v := 0) hx hb dX8_note_13 (by decide) ?_
      exact ke_z C hH hr (Nat.le_refl _) (Nat.le_refl _) rfl (Or.inl rfl) dX8_note_14
def fX8_readFact (M : KS) (a1 : Int32) (a2 : Int32) : Option (Int32 × KS) := bd2 (fX8_readNumber M a1 0 48 6) fun v2 M1 => (if v2 = 0 then some (0, M1) else bd2 (fX8_readNumber M1 a1 1 97 6) fun v4 M3 => (if v4 = 0 then some (0, M3) else bd2 (fX8_readNumber M3 a1 2 97 6) fun v6 M5 => (if v6 = 0 then some (0, M5) else bd2 (fX8_note M5 a1 a2) fun v8 M7 => (if v8 = 0 then some (0, M7) else some (1, M7)))))
set_option maxHeartbeats 4000000 in
set_option maxRecDepth 100000 in
theorem kX8_readFact (l : Launch) (E : KE) (ad : Nat → Nat) (M : KS) (a1 : Int32) (a2 : Int32) : CT l yX8_readFact cX8_readFact 3 (some .boolean) { frames := 2, cells := 0, slots := 0, locals := 49 } SK E ad [.ref (ad 115), .int a1, .int a2] M (QI SK E ad) (fX8_readFact M a1 a2) := by
  refine CT.ofW (by decide) (Nat.le_of_ble_eq_true rfl) (fun sz p e s m args below meth c C hr hH ls hl => ?_)
  have hx := C.1.1
  have hb := C.1.2.1
  have hl : lv_has ls 3 [(0, .ref (ad 115)), (1, .int a1), (2, .int a2)] := hl
  unfold fX8_readFact
  refine lv_aload_n hx hb dX8_readFact_0 rfl (lv_at hl 0 rfl) ?_
  refine lv_iload_n hx hb dX8_readFact_1 rfl (lv_at hl 1 rfl) ?_
  refine lv_iconst (v := 0) hx hb dX8_readFact_2 (by decide) ?_
  refine lv_bipush (v := 48) hx hb dX8_readFact_3 (by decide) ?_
  refine lv_bipush (v := 6) hx hb dX8_readFact_5 (by decide) ?_
  refine kg_ib C hH (kc_V C hH w_5_54 lc_yX8_readNumber li_yX8_readNumber oT (kX8_readNumber l E ad M a1 0 48 6) (As := [.int a1, .int 0, .int 48, .int 6]) rfl dX8_readFact_7 rfl hl.1 (Nat.le_of_ble_eq_true rfl) ⟨Nat.le_of_ble_eq_true rfl, Nat.le_of_ble_eq_true rfl⟩ ⟨Nat.le_of_ble_eq_true rfl, Nat.le_of_ble_eq_true rfl⟩) ⟨rfl, rfl⟩ (fun v2 M1 H locs hH => ?_)
  refine kb_if_eq (tgt := 52) hx hb dX8_readFact_10 (by decide) (fun _ => ?_) (fun _ => ?_)
  · refine lv_iconst (v := 0) hx hb dX8_readFact_52 (by decide) ?_
    exact ke_z C hH hr (Nat.le_refl _) (Nat.le_refl _) rfl (Or.inl rfl) dX8_readFact_53
  · refine lv_aload_n hx hb dX8_readFact_13 rfl (lv_at hl 0 rfl) ?_
    refine lv_iload_n hx hb dX8_readFact_14 rfl (lv_at hl 1 rfl) ?_
    refine lv_iconst (v := 1) hx hb dX8_readFact_15 (by decide) ?_
    refine lv_bipush (v := 97) hx hb dX8_readFact_16 (by decide) ?_
    refine lv_bipush (v := 6) hx hb dX8_readFact_18 (by decide) ?_
    refine kg_ib C hH (kc_V C hH w_5_54 lc_yX8_readNumber li_yX8_readNumber oT (kX8_readNumber l E ad M1 a1 1 97 6) (As := [.int a1, .int 1, .int 97, .int 6]) rfl dX8_readFact_20 rfl hl.1 (Nat.le_of_ble_eq_true rfl) ⟨Nat.le_of_ble_eq_true rfl, Nat.le_of_ble_eq_true rfl⟩ ⟨Nat.le_of_ble_eq_true rfl, Nat.le_of_ble_eq_true rfl⟩) ⟨rfl, rfl⟩ (fun v4 M3 H locs hH => ?_)
    refine kb_if_eq (tgt := 52) hx hb dX8_readFact_23 (by decide) (fun _ => ?_) (fun _ => ?_)
    · refine lv_iconst (v := 0) hx hb dX8_readFact_52 (by decide) ?_
      exact ke_z C hH hr (Nat.le_refl _) (Nat.le_refl _) rfl (Or.inl rfl) dX8_readFact_53
    · refine lv_aload_n hx hb dX8_readFact_26 rfl (lv_at hl 0 rfl) ?_
      refine lv_iload_n hx hb dX8_readFact_27 rfl (lv_at hl 1 rfl) ?_
      refine lv_iconst (v := 2) hx hb dX8_readFact_28 (by decide) ?_
      refine lv_bipush (v := 97) hx hb dX8_readFact_29 (by decide) ?_
      refine lv_bipush (v := 6) hx hb dX8_readFact_31 (by decide) ?_
      refine kg_ib C hH (kc_V C hH w_5_54 lc_yX8_readNumber li_yX8_readNumber oT (kX8_readNumber l E ad M3 a1 2 97 6) (As := [.int a1, .int 2, .int 97, .int 6]) rfl dX8_readFact_33 rfl hl.1 (Nat.le_of_ble_eq_true rfl) ⟨Nat.le_of_ble_eq_true rfl, Nat.le_of_ble_eq_true rfl⟩ ⟨Nat.le_of_ble_eq_true rfl, Nat.le_of_ble_eq_true rfl⟩) ⟨rfl, rfl⟩ (fun v6 M5 H locs hH => ?_)
      refine kb_if_eq (tgt := 52) hx hb dX8_readFact_36 (by decide) (fun _ => ?_) (fun _ => ?_)
      · refine lv_iconst (v := 0) hx hb dX8_readFact_52 (by decide) ?_
        exact ke_z C hH hr (Nat.le_refl _) (Nat.le_refl _) rfl (Or.inl rfl) dX8_readFact_53
      · refine lv_aload_n hx hb dX8_readFact_39 rfl (lv_at hl 0 rfl) ?_
        refine lv_iload_n hx hb dX8_readFact_40 rfl (lv_at hl 1 rfl) ?_
        refine lv_iload_n hx hb dX8_readFact_41 rfl (lv_at hl 2 rfl) ?_
        refine kg_ib C hH (kc_V C hH w_5_62 lc_yX8_note li_yX8_note oT (kX8_note l E ad M5 a1 a2) (As := [.int a1, .int a2]) rfl dX8_readFact_42 rfl hl.1 (Nat.le_of_ble_eq_true rfl) ⟨Nat.le_of_ble_eq_true rfl, Nat.le_of_ble_eq_true rfl⟩ ⟨Nat.le_of_ble_eq_true rfl, Nat.le_of_ble_eq_true rfl⟩) ⟨rfl, rfl⟩ (fun v8 M7 H locs hH => ?_)
        refine kb_if_eq (tgt := 52) hx hb dX8_readFact_45 (by decide) (fun _ => ?_) (fun _ => ?_)
        · refine lv_iconst (v := 0) hx hb dX8_readFact_52 (by decide) ?_
          exact ke_z C hH hr (Nat.le_refl _) (Nat.le_refl _) rfl (Or.inl rfl) dX8_readFact_53
        · refine lv_iconst (v := 1) hx hb dX8_readFact_48 (by decide) ?_
          refine lv_goto (tgt := 53) hx hb dX8_readFact_49 (by decide) ?_
          exact ke_z C hH hr (Nat.le_refl _) (Nat.le_refl _) rfl (Or.inr rfl) dX8_readFact_53
def fX8_startsCondition (M : KS)  : Option (Int32) := (if (M.1 115 5) < 0 then some 0 else (if (M.1 115 3) ≤ (M.1 115 5) then some 0 else (if (M.1 115 5) < 60 then if inb (M.1 115 5) 60 then (if (M.1 116 (M.1 115 5).toNatClampNeg) = 33 then some 1 else if inb (M.1 115 5) 60 then (if (M.1 116 (M.1 115 5).toNatClampNeg) < 48 then some 0 else if inb (M.1 115 5) 60 then (if 54 ≤ (M.1 116 (M.1 115 5).toNatClampNeg) then some 0 else some 1) else none) else none) else none else some 0)))
set_option maxHeartbeats 4000000 in
set_option maxRecDepth 100000 in
theorem kX8_startsCondition (l : Launch) (E : KE) (ad : Nat → Nat) (M : KS)  : CT l yX8_startsCondition cX8_startsCondition 1 (some .boolean) { frames := 0, cells := 0, slots := 0, locals := 0 } SK E ad [.ref (ad 115)] M (fun sz a => QI SK E ad sz (a, M)) (fX8_startsCondition M) := by
  refine CT.ofW (by decide) (Nat.le_of_ble_eq_true rfl) (fun sz p e s m args below meth c C hr hH ls hl => ?_)
  have hx := C.1.1
  have hb := C.1.2.1
  have hl : lv_has ls 1 [(0, .ref (ad 115))] := hl
  unfold fX8_startsCondition
  refine lv_aload_n hx hb dX8_startsCondition_0 rfl (lv_at hl 0 rfl) ?_
  refine k_get C hH fd_X8_29 oT (k_int (M := M) (ad := ad) nT5) dX8_startsCondition_1 ?_
  refine kb_if_lt (tgt := 30) hx hb dX8_startsCondition_4 (by decide) (fun _ => ?_) (fun _ => ?_)
  · refine lv_iconst (v := 0) hx hb dX8_startsCondition_30 (by decide) ?_
    exact ke_z C hH hr (Nat.le_refl _) (Nat.le_refl _) rfl (Or.inl rfl) dX8_startsCondition_31
  · refine lv_aload_n hx hb dX8_startsCondition_7 rfl (lv_at hl 0 rfl) ?_
    refine k_get C hH fd_X8_29 oT (k_int (M := M) (ad := ad) nT5) dX8_startsCondition_8 ?_
    refine lv_aload_n hx hb dX8_startsCondition_11 rfl (lv_at hl 0 rfl) ?_
    refine k_get C hH fd_X8_22 oT (k_int (M := M) (ad := ad) nT3) dX8_startsCondition_12 ?_
    refine kb_icmp_ge (tgt := 30) hx hb dX8_startsCondition_15 (by decide) (fun _ => ?_) (fun _ => ?_)
    · refine lv_iconst (v := 0) hx hb dX8_startsCondition_30 (by decide) ?_
      exact ke_z C hH hr (Nat.le_refl _) (Nat.le_refl _) rfl (Or.inl rfl) dX8_startsCondition_31
    · refine lv_aload_n hx hb dX8_startsCondition_18 rfl (lv_at hl 0 rfl) ?_
      refine k_get C hH fd_X8_29 oT (k_int (M := M) (ad := ad) nT5) dX8_startsCondition_19 ?_
      refine lv_aload_n hx hb dX8_startsCondition_22 rfl (lv_at hl 0 rfl) ?_
      refine k_get C hH fd_X8_9 oT (k_ref (M := M) (ad := ad) rT0) dX8_startsCondition_23 ?_
      refine k_clen C hH aT0 (v := 60) rfl dX8_startsCondition_26 ?_
      refine kb_icmp_lt (tgt := 32) hx hb dX8_startsCondition_27 (by decide) (fun _ => ?_) (fun _ => ?_)
      · refine lv_aload_n hx hb dX8_startsCondition_32 rfl (lv_at hl 0 rfl) ?_
        refine k_get C hH fd_X8_9 oT (k_ref (M := M) (ad := ad) rT0) dX8_startsCondition_33 ?_
        refine lv_aload_n hx hb dX8_startsCondition_36 rfl (lv_at hl 0 rfl) ?_
        refine k_get C hH fd_X8_29 oT (k_int (M := M) (ad := ad) nT5) dX8_startsCondition_37 ?_
        refine k_cald C hH aT0 dX8_startsCondition_40 ?_
        refine lv_bipush (v := 33) hx hb dX8_startsCondition_41 (by decide) ?_
        refine kb_icmp_eq (tgt := 74) hx hb dX8_startsCondition_43 (by decide) (fun _ => ?_) (fun _ => ?_)
        · refine lv_iconst (v := 1) hx hb dX8_startsCondition_74 (by decide) ?_
          refine lv_goto (tgt := 79) hx hb dX8_startsCondition_75 (by decide) ?_
          exact ke_z C hH hr (Nat.le_refl _) (Nat.le_refl _) rfl (Or.inr rfl) dX8_startsCondition_79
        · refine lv_aload_n hx hb dX8_startsCondition_46 rfl (lv_at hl 0 rfl) ?_
          refine k_get C hH fd_X8_9 oT (k_ref (M := M) (ad := ad) rT0) dX8_startsCondition_47 ?_
          refine lv_aload_n hx hb dX8_startsCondition_50 rfl (lv_at hl 0 rfl) ?_
          refine k_get C hH fd_X8_29 oT (k_int (M := M) (ad := ad) nT5) dX8_startsCondition_51 ?_
          refine k_cald C hH aT0 dX8_startsCondition_54 ?_
          refine lv_bipush (v := 48) hx hb dX8_startsCondition_55 (by decide) ?_
          refine kb_icmp_lt (tgt := 78) hx hb dX8_startsCondition_57 (by decide) (fun _ => ?_) (fun _ => ?_)
          · refine lv_iconst (v := 0) hx hb dX8_startsCondition_78 (by decide) ?_
            exact ke_z C hH hr (Nat.le_refl _) (Nat.le_refl _) rfl (Or.inl rfl) dX8_startsCondition_79
          · refine lv_aload_n hx hb dX8_startsCondition_60 rfl (lv_at hl 0 rfl) ?_
            refine k_get C hH fd_X8_9 oT (k_ref (M := M) (ad := ad) rT0) dX8_startsCondition_61 ?_
            refine lv_aload_n hx hb dX8_startsCondition_64 rfl (lv_at hl 0 rfl) ?_
            refine k_get C hH fd_X8_29 oT (k_int (M := M) (ad := ad) nT5) dX8_startsCondition_65 ?_
            refine k_cald C hH aT0 dX8_startsCondition_68 ?_
            refine lv_bipush (v := 54) hx hb dX8_startsCondition_69 (by decide) ?_
            refine kb_icmp_ge (tgt := 78) hx hb dX8_startsCondition_71 (by decide) (fun _ => ?_) (fun _ => ?_)
            · refine lv_iconst (v := 0) hx hb dX8_startsCondition_78 (by decide) ?_
              exact ke_z C hH hr (Nat.le_refl _) (Nat.le_refl _) rfl (Or.inl rfl) dX8_startsCondition_79
            · refine lv_iconst (v := 1) hx hb dX8_startsCondition_74 (by decide) ?_
              refine lv_goto (tgt := 79) hx hb dX8_startsCondition_75 (by decide) ?_
              exact ke_z C hH hr (Nat.le_refl _) (Nat.le_refl _) rfl (Or.inr rfl) dX8_startsCondition_79
      · refine lv_iconst (v := 0) hx hb dX8_startsCondition_30 (by decide) ?_
        exact ke_z C hH hr (Nat.le_refl _) (Nat.le_refl _) rfl (Or.inl rfl) dX8_startsCondition_31
def fX9_codeOf_o (a0 : Int32) (a1 : Int32) (a2 : Int32) : Option (Int32) := some (((1 + (9 * a0)) + (3 * a1)) + a2)
def fX9_codeOf (a0 : Int32) (a1 : Int32) (a2 : Int32) : Int32 := (((1 + (9 * a0)) + (3 * a1)) + a2)
theorem fX9_codeOf_s {a0 : Int32} {a1 : Int32} {a2 : Int32} : fX9_codeOf_o a0 a1 a2 = some (fX9_codeOf a0 a1 a2) := by
  unfold fX9_codeOf_o fX9_codeOf
  (repeat' split) <;> rfl
set_option maxHeartbeats 4000000 in
set_option maxRecDepth 100000 in
theorem kX9_codeOf_o (l : Launch) (E : KE) (ad : Nat → Nat) (M : KS) (a0 : Int32) (a1 : Int32) (a2 : Int32) : CT l yX9_codeOf cX9_codeOf 3 (some .int) { frames := 0, cells := 0, slots := 0, locals := 0 } SK E ad [.int a0, .int a1, .int a2] M (fun sz a => QI SK E ad sz (a, M)) (fX9_codeOf_o a0 a1 a2) := by
  refine CT.ofW (by decide) (Nat.le_of_ble_eq_true rfl) (fun sz p e s m args below meth c C hr hH ls hl => ?_)
  have hx := C.1.1
  have hb := C.1.2.1
  have hl : lv_has ls 3 [(0, .int a0), (1, .int a1), (2, .int a2)] := hl
  unfold fX9_codeOf_o
  refine lv_iconst (v := 1) hx hb dX9_codeOf_0 (by decide) ?_
  refine lv_bipush (v := 9) hx hb dX9_codeOf_1 (by decide) ?_
  refine lv_iload_n hx hb dX9_codeOf_3 rfl (lv_at hl 0 rfl) ?_
  refine lv_imul hx hb dX9_codeOf_4 ?_
  refine lv_iadd hx hb dX9_codeOf_5 ?_
  refine lv_iconst (v := 3) hx hb dX9_codeOf_6 (by decide) ?_
  refine lv_iload_n hx hb dX9_codeOf_7 rfl (lv_at hl 1 rfl) ?_
  refine lv_imul hx hb dX9_codeOf_8 ?_
  refine lv_iadd hx hb dX9_codeOf_9 ?_
  refine lv_iload_n hx hb dX9_codeOf_10 rfl (lv_at hl 2 rfl) ?_
  refine lv_iadd hx hb dX9_codeOf_11 ?_
  exact ke_i C hH hr (Nat.le_refl _) (Nat.le_refl _) rfl dX9_codeOf_12
theorem kX9_codeOf (l : Launch) (E : KE) (ad : Nat → Nat) (M : KS) (a0 : Int32) (a1 : Int32) (a2 : Int32) : CT l yX9_codeOf cX9_codeOf 3 (some .int) { frames := 0, cells := 0, slots := 0, locals := 0 } SK E ad [.int a0, .int a1, .int a2] M (fun sz (_ : Unit) => QI SK E ad sz (fX9_codeOf a0 a1 a2, M)) (some ()) := CT.pure (kX9_codeOf_o l E ad M a0 a1 a2) fX9_codeOf_s
def fX8_readCondition_J86_75 (a1 : Int32) (a2 : Int32) (M8 : KS) (v10 : Int32) : Option (Int32 × KS) := (fX8_put M8 a1 a2 v10).bind fun M11 => some (1, M11)
theorem fX8_readCondition_J86_75_u {a1 : Int32} {a2 : Int32} {M8 : KS} {v10 : Int32} : fX8_readCondition_J86_75 a1 a2 M8 v10 = (fX8_put M8 a1 a2 v10).bind fun M11 => some (1, M11) := rfl
def fX8_readCondition_J51_37 (a1 : Int32) (a2 : Int32) (v2 : Int32) (v4 : Int32) (v5 : Int32) (x : Int32 × KS) : Option (Int32 × KS) := match x with | (v7, M8) => (if 0 ≤ v7 then nm ((fX9_codeOf v4 v5 v7)) fun v9 => jn (fX8_readCondition_J86_75 a1 a2 M8) (fun K86_75 => (if v2 = 0 then K86_75 v9 else K86_75 (-v9))) else some (0, M8))
theorem fX8_readCondition_J51_37_u {a1 : Int32} {a2 : Int32} {v2 : Int32} {v4 : Int32} {v5 : Int32} {v7 : Int32} {M8 : KS} : fX8_readCondition_J51_37 a1 a2 v2 v4 v5 (v7, M8) = (if 0 ≤ v7 then nm ((fX9_codeOf v4 v5 v7)) fun v9 => jn (fX8_readCondition_J86_75 a1 a2 M8) (fun K86_75 => (if v2 = 0 then K86_75 v9 else K86_75 (-v9))) else some (0, M8)) := rfl
def fX8_readCondition_J33_19 (a1 : Int32) (a2 : Int32) (v2 : Int32) (v4 : Int32) (x : Int32 × KS) : Option (Int32 × KS) := match x with | (v5, M6) => jn (fX8_readCondition_J51_37 a1 a2 v2 v4 v5) (fun K51_37 => (if 0 ≤ v5 then bd2 (fX8_read M6 120 3) fun v13 M12 => K51_37 (v13, M12) else K51_37 ((-1), M6)))
theorem fX8_readCondition_J33_19_u {a1 : Int32} {a2 : Int32} {v2 : Int32} {v4 : Int32} {v5 : Int32} {M6 : KS} : fX8_readCondition_J33_19 a1 a2 v2 v4 (v5, M6) = jn (fX8_readCondition_J51_37 a1 a2 v2 v4 v5) (fun K51_37 => (if 0 ≤ v5 then bd2 (fX8_read M6 120 3) fun v13 M12 => K51_37 (v13, M12) else K51_37 ((-1), M6))) := rfl
def fX8_readCondition (M : KS) (a1 : Int32) (a2 : Int32) : Option (Int32 × KS) := bd2 (fX8_skip M 33) fun v2 M1 => bd2 (fX8_read M1 48 6) fun v4 M3 => jn (fX8_readCondition_J33_19 a1 a2 v2 v4) (fun K33_19 => (if 0 ≤ v4 then bd2 (fX8_read M3 120 3) fun v15 M14 => K33_19 (v15, M14) else K33_19 ((-1), M3)))
set_option maxHeartbeats 4000000 in
set_option maxRecDepth 100000 in
theorem kX8_readCondition (l : Launch) (E : KE) (ad : Nat → Nat) (M : KS) (a1 : Int32) (a2 : Int32) : CT l yX8_readCondition cX8_readCondition 8 (some .boolean) { frames := 2, cells := 0, slots := 0, locals := 44 } SK E ad [.ref (ad 115), .int a1, .int a2] M (QI SK E ad) (fX8_readCondition M a1 a2) := by
  refine CT.ofW (by decide) (Nat.le_of_ble_eq_true rfl) (fun sz p e s m args below meth c C hr hH ls hl => ?_)
  have hx := C.1.1
  have hb := C.1.2.1
  have hl : lv_has ls 8 [(0, .ref (ad 115)), (1, .int a1), (2, .int a2)] := hl
  unfold fX8_readCondition
  refine lv_aload_n hx hb dX8_readCondition_0 rfl (lv_at hl 0 rfl) ?_
  refine lv_bipush (v := 33) hx hb dX8_readCondition_1 (by decide) ?_
  refine kg_ib C hH (kc_V C hH w_5_42 lc_yX8_skip li_yX8_skip oT (kX8_skip l E ad M 33) (As := [.int 33]) rfl dX8_readCondition_3 rfl hl.1 (Nat.le_of_ble_eq_true rfl) ⟨Nat.le_of_ble_eq_true rfl, Nat.le_of_ble_eq_true rfl⟩ ⟨Nat.le_of_ble_eq_true rfl, Nat.le_of_ble_eq_true rfl⟩) ⟨rfl, rfl⟩ (fun v2 M1 H locs hH => ?_)
  refine lv_istore_n (lv' := [(3, .int v2), (0, .ref (ad 115)), (1, .int a1), (2, .int a2)]) hx hb dX8_readCondition_6 rfl hl (by decide) rfl (fun ls hl => ?_)
  refine lv_aload_n hx hb dX8_readCondition_7 rfl (lv_at hl 1 rfl) ?_
  refine lv_bipush (v := 48) hx hb dX8_readCondition_8 (by decide) ?_
  refine lv_bipush (v := 6) hx hb dX8_readCondition_10 (by decide) ?_
  refine kg_ib C hH (kc_V C hH w_5_46 lc_yX8_read li_yX8_read oT (kX8_read l E ad M1 48 6) (As := [.int 48, .int 6]) rfl dX8_readCondition_12 rfl hl.1 (Nat.le_of_ble_eq_true rfl) ⟨Nat.le_of_ble_eq_true rfl, Nat.le_of_ble_eq_true rfl⟩ ⟨Nat.le_of_ble_eq_true rfl, Nat.le_of_ble_eq_true rfl⟩) ⟨rfl, rfl⟩ (fun v4 M3 H locs hH => ?_)
  refine lv_istore (lv' := [(4, .int v4), (3, .int v2), (0, .ref (ad 115)), (1, .int a1), (2, .int a2)]) hx hb dX8_readCondition_15 hl (by decide) rfl (fun ls hl => ?_)
  refine lv_iload hx hb dX8_readCondition_17 (lv_at hl 0 rfl) ?_
  refine W_jn (fun (x : Int32 × KS) H locs => KH SK E ad sz x.2 s.heap H locs) (fun x ls => lv_has ls 8 [(4, .int v4), (3, .int v2), (0, .ref (ad 115)), (1, .int a1), (2, .int a2)]) (fun x ls => F0 m 33 ls [.int x.1]) ?_ (fun K33_19 hK33_19 => ?_)
  · intro ⟨v5, M6⟩ H locs ls hH hl
    have hH : KH SK E ad sz M6 s.heap H locs := hH
    have hl : lv_has ls 8 [(4, .int v4), (3, .int v2), (0, .ref (ad 115)), (1, .int a1), (2, .int a2)] := hl
    refine W_q fX8_readCondition_J33_19_u ?_
    refine lv_istore (lv' := [(5, .int v5), (4, .int v4), (3, .int v2), (0, .ref (ad 115)), (1, .int a1), (2, .int a2)]) hx hb dX8_readCondition_33 hl (by decide) rfl (fun ls hl => ?_)
    refine lv_iload hx hb dX8_readCondition_35 (lv_at hl 0 rfl) ?_
    refine W_jn (fun (x : Int32 × KS) H locs => KH SK E ad sz x.2 s.heap H locs) (fun x ls => lv_has ls 8 [(5, .int v5), (4, .int v4), (3, .int v2), (0, .ref (ad 115)), (1, .int a1), (2, .int a2)]) (fun x ls => F0 m 51 ls [.int x.1]) ?_ (fun K51_37 hK51_37 => ?_)
    · intro ⟨v7, M8⟩ H locs ls hH hl
      have hH : KH SK E ad sz M8 s.heap H locs := hH
      have hl : lv_has ls 8 [(5, .int v5), (4, .int v4), (3, .int v2), (0, .ref (ad 115)), (1, .int a1), (2, .int a2)] := hl
      refine W_q fX8_readCondition_J51_37_u ?_
      refine lv_istore (lv' := [(6, .int v7), (5, .int v5), (4, .int v4), (3, .int v2), (0, .ref (ad 115)), (1, .int a1), (2, .int a2)]) hx hb dX8_readCondition_51 hl (by decide) rfl (fun ls hl => ?_)
      refine lv_iload hx hb dX8_readCondition_53 (lv_at hl 0 rfl) ?_
      refine kb_if_ge (tgt := 60) hx hb dX8_readCondition_55 (by decide) (fun _ => ?_) (fun _ => ?_)
      · refine lv_iload hx hb dX8_readCondition_60 (lv_at hl 2 rfl) ?_
        refine lv_iload hx hb dX8_readCondition_62 (lv_at hl 1 rfl) ?_
        refine lv_iload hx hb dX8_readCondition_64 (lv_at hl 0 rfl) ?_
        refine kg_ip C hH (kc_SN C hH w_5_78 w_st_yX9_codeOf lc_yX9_codeOf (kX9_codeOf l E ad M8 v4 v5 v7) (As := [.int v4, .int v5, .int v7]) rfl dX8_readCondition_66 rfl hl.1 (Nat.le_of_ble_eq_true rfl) ⟨Nat.le_of_ble_eq_true rfl, Nat.le_of_ble_eq_true rfl⟩ ⟨Nat.le_of_ble_eq_true rfl, Nat.le_of_ble_eq_true rfl⟩) ⟨rfl, rfl⟩ (fun H locs hH => ?_)
        refine W_nmi (fun v9 => ?_)
        refine lv_istore (lv' := [(7, .int v9), (6, .int v7), (5, .int v5), (4, .int v4), (3, .int v2), (0, .ref (ad 115)), (1, .int a1), (2, .int a2)]) hx hb dX8_readCondition_69 hl (by decide) rfl (fun ls hl => ?_)
        refine lv_aload_n hx hb dX8_readCondition_71 rfl (lv_at hl 5 rfl) ?_
        refine lv_iload_n hx hb dX8_readCondition_72 rfl (lv_at hl 6 rfl) ?_
        refine lv_iload_n hx hb dX8_readCondition_73 rfl (lv_at hl 7 rfl) ?_
        refine lv_iload_n hx hb dX8_readCondition_74 rfl (lv_at hl 4 rfl) ?_
        refine W_jn (fun (x : Int32) H locs => KH SK E ad sz M8 s.heap H locs) (fun x ls => lv_has ls 8 []) (fun x ls => F0 m 86 ls [.int x, .int a2, .int a1, .ref (ad 115)]) ?_ (fun K86_75 hK86_75 => ?_)
        · intro v10 H locs ls hH hl
          have hH : KH SK E ad sz M8 s.heap H locs := hH
          have hl : lv_has ls 8 [] := hl
          refine W_q fX8_readCondition_J86_75_u ?_
          refine kg_v C hH (kc_V C hH w_5_58 lc_yX8_put li_yX8_put oT (kX8_put l E ad M8 a1 a2 v10) (As := [.int a1, .int a2, .int v10]) rfl dX8_readCondition_86 rfl hl.1 (Nat.le_of_ble_eq_true rfl) ⟨Nat.le_of_ble_eq_true rfl, Nat.le_of_ble_eq_true rfl⟩ ⟨Nat.le_of_ble_eq_true rfl, Nat.le_of_ble_eq_true rfl⟩) ⟨rfl, rfl⟩ (fun M11 H locs hH => ?_)
          refine lv_iconst (v := 1) hx hb dX8_readCondition_89 (by decide) ?_
          exact ke_z C hH hr (Nat.le_refl _) (Nat.le_refl _) rfl (Or.inr rfl) dX8_readCondition_90
        · refine kb_if_eq (tgt := 84) hx hb dX8_readCondition_75 (by decide) (fun _ => ?_) (fun _ => ?_)
          · refine lv_iload hx hb dX8_readCondition_84 (lv_at hl 0 rfl) ?_
            exact hK86_75 v9 _ _ _ hH (lv_sub hl [] rfl)
          · refine lv_iload hx hb dX8_readCondition_78 (lv_at hl 0 rfl) ?_
            refine lv_ineg hx hb dX8_readCondition_80 ?_
            refine lv_goto (tgt := 86) hx hb dX8_readCondition_81 (by decide) ?_
            exact hK86_75 (-v9) _ _ _ hH (lv_sub hl [] rfl)
      · refine lv_iconst (v := 0) hx hb dX8_readCondition_58 (by decide) ?_
        exact ke_z C hH hr (Nat.le_refl _) (Nat.le_refl _) rfl (Or.inl rfl) dX8_readCondition_59
    · refine kb_if_ge (tgt := 44) hx hb dX8_readCondition_37 (by decide) (fun _ => ?_) (fun _ => ?_)
      · refine lv_aload_n hx hb dX8_readCondition_44 rfl (lv_at hl 3 rfl) ?_
        refine lv_bipush (v := 120) hx hb dX8_readCondition_45 (by decide) ?_
        refine lv_iconst (v := 3) hx hb dX8_readCondition_47 (by decide) ?_
        refine kg_ib C hH (kc_V C hH w_5_46 lc_yX8_read li_yX8_read oT (kX8_read l E ad M6 120 3) (As := [.int 120, .int 3]) rfl dX8_readCondition_48 rfl hl.1 (Nat.le_of_ble_eq_true rfl) ⟨Nat.le_of_ble_eq_true rfl, Nat.le_of_ble_eq_true rfl⟩ ⟨Nat.le_of_ble_eq_true rfl, Nat.le_of_ble_eq_true rfl⟩) ⟨rfl, rfl⟩ (fun v13 M12 H locs hH => ?_)
        exact hK51_37 (v13, M12) _ _ _ hH (lv_sub hl [0, 1, 2, 3, 4, 5] rfl)
      · refine lv_iconst (v := (-1)) hx hb dX8_readCondition_40 (by decide) ?_
        refine lv_goto (tgt := 51) hx hb dX8_readCondition_41 (by decide) ?_
        exact hK51_37 ((-1), M6) _ _ _ hH (lv_sub hl [0, 1, 2, 3, 4, 5] rfl)
  · refine kb_if_ge (tgt := 26) hx hb dX8_readCondition_19 (by decide) (fun _ => ?_) (fun _ => ?_)
    · refine lv_aload_n hx hb dX8_readCondition_26 rfl (lv_at hl 2 rfl) ?_
      refine lv_bipush (v := 120) hx hb dX8_readCondition_27 (by decide) ?_
      refine lv_iconst (v := 3) hx hb dX8_readCondition_29 (by decide) ?_
      refine kg_ib C hH (kc_V C hH w_5_46 lc_yX8_read li_yX8_read oT (kX8_read l E ad M3 120 3) (As := [.int 120, .int 3]) rfl dX8_readCondition_30 rfl hl.1 (Nat.le_of_ble_eq_true rfl) ⟨Nat.le_of_ble_eq_true rfl, Nat.le_of_ble_eq_true rfl⟩ ⟨Nat.le_of_ble_eq_true rfl, Nat.le_of_ble_eq_true rfl⟩) ⟨rfl, rfl⟩ (fun v15 M14 H locs hH => ?_)
      exact hK33_19 (v15, M14) _ _ _ hH (lv_sub hl [0, 1, 2, 3, 4] rfl)
    · refine lv_iconst (v := (-1)) hx hb dX8_readCondition_22 (by decide) ?_
      refine lv_goto (tgt := 33) hx hb dX8_readCondition_23 (by decide) ?_
      exact hK33_19 ((-1), M3) _ _ _ hH (lv_sub hl [0, 1, 2, 3, 4] rfl)
def fX8_readRule_X26 (a1 : Int32) (M7 : KS) : Option (Int32 × KS) := bd2 (fX8_note M7 a1 114) fun v9 M8 => if isB v9 then some (v9, M8) else none
theorem fX8_readRule_X26_u {a1 : Int32} {M7 : KS} : fX8_readRule_X26 a1 M7 = bd2 (fX8_note M7 a1 114) fun v9 M8 => if isB v9 then some (v9, M8) else none := rfl
def fX8_readRule_J64_50 (a1 : Int32) (v5 : Int32) (rec26 : (Int32 × KS) → Option (Int32 × KS)) (v10 : Int32) (M11 : KS) : Option (Int32 × KS) := (if v10 = 0 then (fX8_put M11 a1 v5 0).bind fun M13 => nm (v5 + 1) fun v14 => rec26 (v14, M13) else nm (v5 + 1) fun v12 => rec26 (v12, M11))
theorem fX8_readRule_J64_50_u {a1 : Int32} {v5 : Int32} {rec26 : (Int32 × KS) → Option (Int32 × KS)} {v10 : Int32} {M11 : KS} : fX8_readRule_J64_50 a1 v5 rec26 v10 M11 = (if v10 = 0 then (fX8_put M11 a1 v5 0).bind fun M13 => nm (v5 + 1) fun v14 => rec26 (v14, M13) else nm (v5 + 1) fun v12 => rec26 (v12, M11)) := rfl
def fX8_readRule_J48_33 (a1 : Int32) (v5 : Int32) (M6 : KS) (rec26 : (Int32 × KS) → Option (Int32 × KS)) (v10 : Int32) : Option (Int32 × KS) := jn (fX8_readRule_J64_50 a1 v5 rec26 v10) (fun K64_50 => (if v10 = 0 then K64_50 M6 else bd2 (fX8_readCondition M6 a1 v5) fun v16 M15 => (if v16 = 0 then some (0, M15) else K64_50 M15)))
theorem fX8_readRule_J48_33_u {a1 : Int32} {v5 : Int32} {M6 : KS} {rec26 : (Int32 × KS) → Option (Int32 × KS)} {v10 : Int32} : fX8_readRule_J48_33 a1 v5 M6 rec26 v10 = jn (fX8_readRule_J64_50 a1 v5 rec26 v10) (fun K64_50 => (if v10 = 0 then K64_50 M6 else bd2 (fX8_readCondition M6 a1 v5) fun v16 M15 => (if v16 = 0 then some (0, M15) else K64_50 M15))) := rfl
def fX8_readRule_L26 (a1 : Int32) (rec26 : (Int32 × KS) → Option (Int32 × KS)) (k26 : (KS) → Option (Int32 × KS)) (x : Int32 × KS) : Option (Int32 × KS) := match x with | (v5, M6) => (if 3 < v5 then k26 M6 else jn (fX8_readRule_J48_33 a1 v5 M6 rec26) (fun K48_33 => (if v5 = 1 then K48_33 1 else (fX8_startsCondition M6).bind fun v17 => (if v17 = 0 then K48_33 0 else K48_33 1))))
theorem fX8_readRule_L26_u {a1 : Int32} {rec26 : (Int32 × KS) → Option (Int32 × KS)} {k26 : (KS) → Option (Int32 × KS)} {v5 : Int32} {M6 : KS} : fX8_readRule_L26 a1 rec26 k26 (v5, M6) = (if 3 < v5 then k26 M6 else jn (fX8_readRule_J48_33 a1 v5 M6 rec26) (fun K48_33 => (if v5 = 1 then K48_33 1 else (fX8_startsCondition M6).bind fun v17 => (if v17 = 0 then K48_33 0 else K48_33 1)))) := rfl
def fX8_readRule (M : KS) (a1 : Int32) : Option (Int32 × KS) := bd2 (fX8_readNumber M a1 0 48 6) fun v2 M1 => (if v2 = 0 then some (0, M1) else bd2 (fX8_skip M1 61) fun v4 M3 => (if v4 = 0 then some (0, M3) else lp (fX8_readRule_L26 a1) (fX8_readRule_X26 a1) 1000000 (1, M3)))
set_option maxHeartbeats 4000000 in
set_option maxRecDepth 100000 in
theorem kX8_readRule (l : Launch) (E : KE) (ad : Nat → Nat) (M : KS) (a1 : Int32) : CT l yX8_readRule cX8_readRule 4 (some .boolean) { frames := 3, cells := 0, slots := 0, locals := 71 } SK E ad [.ref (ad 115), .int a1] M (QI SK E ad) (fX8_readRule M a1) := by
  refine CT.ofW (by decide) (Nat.le_of_ble_eq_true rfl) (fun sz p e s m args below meth c C hr hH ls hl => ?_)
  have hx := C.1.1
  have hb := C.1.2.1
  have hl : lv_has ls 4 [(0, .ref (ad 115)), (1, .int a1)] := hl
  unfold fX8_readRule
  refine lv_aload_n hx hb dX8_readRule_0 rfl (lv_at hl 0 rfl) ?_
  refine lv_iload_n hx hb dX8_readRule_1 rfl (lv_at hl 1 rfl) ?_
  refine lv_iconst (v := 0) hx hb dX8_readRule_2 (by decide) ?_
  refine lv_bipush (v := 48) hx hb dX8_readRule_3 (by decide) ?_
  refine lv_bipush (v := 6) hx hb dX8_readRule_5 (by decide) ?_
  refine kg_ib C hH (kc_V C hH w_5_54 lc_yX8_readNumber li_yX8_readNumber oT (kX8_readNumber l E ad M a1 0 48 6) (As := [.int a1, .int 0, .int 48, .int 6]) rfl dX8_readRule_7 rfl hl.1 (Nat.le_of_ble_eq_true rfl) ⟨Nat.le_of_ble_eq_true rfl, Nat.le_of_ble_eq_true rfl⟩ ⟨Nat.le_of_ble_eq_true rfl, Nat.le_of_ble_eq_true rfl⟩) ⟨rfl, rfl⟩ (fun v2 M1 H locs hH => ?_)
  refine kb_if_eq (tgt := 22) hx hb dX8_readRule_10 (by decide) (fun _ => ?_) (fun _ => ?_)
  · refine lv_iconst (v := 0) hx hb dX8_readRule_22 (by decide) ?_
    exact ke_z C hH hr (Nat.le_refl _) (Nat.le_refl _) rfl (Or.inl rfl) dX8_readRule_23
  · refine lv_aload_n hx hb dX8_readRule_13 rfl (lv_at hl 0 rfl) ?_
    refine lv_bipush (v := 61) hx hb dX8_readRule_14 (by decide) ?_
    refine kg_ib C hH (kc_V C hH w_5_42 lc_yX8_skip li_yX8_skip oT (kX8_skip l E ad M1 61) (As := [.int 61]) rfl dX8_readRule_16 rfl hl.1 (Nat.le_of_ble_eq_true rfl) ⟨Nat.le_of_ble_eq_true rfl, Nat.le_of_ble_eq_true rfl⟩ ⟨Nat.le_of_ble_eq_true rfl, Nat.le_of_ble_eq_true rfl⟩) ⟨rfl, rfl⟩ (fun v4 M3 H locs hH => ?_)
    refine kb_if_ne (tgt := 24) hx hb dX8_readRule_19 (by decide) (fun _ => ?_) (fun _ => ?_)
    · refine lv_iconst (v := 1) hx hb dX8_readRule_24 (by decide) ?_
      refine lv_istore_n (lv' := [(2, .int 1), (0, .ref (ad 115)), (1, .int a1)]) hx hb dX8_readRule_25 rfl hl (by decide) rfl (fun ls hl => ?_)
      refine W_lp (fun (x : Int32 × KS) H locs => KH SK E ad sz x.2 s.heap H locs) (fun x ls => lv_has ls 4 [(0, .ref (ad 115)), (1, .int a1), (2, .int x.1)]) (fun _ ls => F0 m 26 ls []) (fun (x : KS) H locs => KH SK E ad sz x s.heap H locs) (fun x ls => lv_has ls 4 [(0, .ref (ad 115)), (1, .int a1)]) (fun _ ls => F0 m 81 ls []) ?_ ?_ hH (lv_sub hl [1, 2, 0] rfl)
      · intro M7 H locs ls hH hl
        have hH : KH SK E ad sz M7 s.heap H locs := hH
        have hl : lv_has ls 4 [(0, .ref (ad 115)), (1, .int a1)] := hl
        refine W_q fX8_readRule_X26_u ?_
        refine lv_aload_n hx hb dX8_readRule_81 rfl (lv_at hl 0 rfl) ?_
        refine lv_iload_n hx hb dX8_readRule_82 rfl (lv_at hl 1 rfl) ?_
        refine lv_bipush (v := 114) hx hb dX8_readRule_83 (by decide) ?_
        refine kg_ib C hH (kc_V C hH w_5_62 lc_yX8_note li_yX8_note oT (kX8_note l E ad M7 a1 114) (As := [.int a1, .int 114]) rfl dX8_readRule_85 rfl hl.1 (Nat.le_of_ble_eq_true rfl) ⟨Nat.le_of_ble_eq_true rfl, Nat.le_of_ble_eq_true rfl⟩ ⟨Nat.le_of_ble_eq_true rfl, Nat.le_of_ble_eq_true rfl⟩) ⟨rfl, rfl⟩ (fun v9 M8 H locs hH => ?_)
        exact ke_zg C hH hr (Nat.le_refl _) (Nat.le_refl _) rfl dX8_readRule_88
      · intro rec26 k26 hrec26 hk26 ⟨v5, M6⟩ H locs ls hH hl
        have hH : KH SK E ad sz M6 s.heap H locs := hH
        have hl : lv_has ls 4 [(0, .ref (ad 115)), (1, .int a1), (2, .int v5)] := hl
        refine W_q fX8_readRule_L26_u ?_
        refine lv_iload_n hx hb dX8_readRule_26 rfl (lv_at hl 2 rfl) ?_
        refine lv_iconst (v := 3) hx hb dX8_readRule_27 (by decide) ?_
        refine kb_icmp_gt (tgt := 81) hx hb dX8_readRule_28 (by decide) (fun _ => ?_) (fun _ => ?_)
        · exact hk26 M6 _ _ _ hH (lv_sub hl [0, 1] rfl)
        · refine lv_iload_n hx hb dX8_readRule_31 rfl (lv_at hl 2 rfl) ?_
          refine lv_iconst (v := 1) hx hb dX8_readRule_32 (by decide) ?_
          refine W_jn (fun (x : Int32) H locs => KH SK E ad sz M6 s.heap H locs) (fun x ls => lv_has ls 4 [(0, .ref (ad 115)), (1, .int a1), (2, .int v5)]) (fun x ls => F0 m 48 ls [.int x]) ?_ (fun K48_33 hK48_33 => ?_)
          · intro v10 H locs ls hH hl
            have hH : KH SK E ad sz M6 s.heap H locs := hH
            have hl : lv_has ls 4 [(0, .ref (ad 115)), (1, .int a1), (2, .int v5)] := hl
            refine W_q fX8_readRule_J48_33_u ?_
            refine lv_istore_n (lv' := [(3, .int v10), (0, .ref (ad 115)), (1, .int a1), (2, .int v5)]) hx hb dX8_readRule_48 rfl hl (by decide) rfl (fun ls hl => ?_)
            refine lv_iload_n hx hb dX8_readRule_49 rfl (lv_at hl 0 rfl) ?_
            refine W_jn (fun (x : KS) H locs => KH SK E ad sz x s.heap H locs) (fun x ls => lv_has ls 4 [(3, .int v10), (0, .ref (ad 115)), (1, .int a1), (2, .int v5)]) (fun x ls => F0 m 64 ls []) ?_ (fun K64_50 hK64_50 => ?_)
            · intro M11 H locs ls hH hl
              have hH : KH SK E ad sz M11 s.heap H locs := hH
              have hl : lv_has ls 4 [(3, .int v10), (0, .ref (ad 115)), (1, .int a1), (2, .int v5)] := hl
              refine W_q fX8_readRule_J64_50_u ?_
              refine lv_iload_n hx hb dX8_readRule_64 rfl (lv_at hl 0 rfl) ?_
              refine kb_if_ne (tgt := 75) hx hb dX8_readRule_65 (by decide) (fun _ => ?_) (fun _ => ?_)
              · refine W_nm (fun v12 ev12 => ?_)
                refine lv_iinc (v := v12) (lv' := [(2, .int v12), (3, .int v10), (0, .ref (ad 115)), (1, .int a1)]) hx hb dX8_readRule_75 hl (k := 3) rfl (by rw [ev12]; rfl) (by decide) rfl (fun ls hl => ?_)
                refine lv_goto (tgt := 26) hx hb dX8_readRule_78 (by decide) ?_
                exact hrec26 (v12, M11) _ _ _ hH (lv_sub hl [2, 3, 0] rfl)
              · refine lv_aload_n hx hb dX8_readRule_68 rfl (lv_at hl 1 rfl) ?_
                refine lv_iload_n hx hb dX8_readRule_69 rfl (lv_at hl 2 rfl) ?_
                refine lv_iload_n hx hb dX8_readRule_70 rfl (lv_at hl 3 rfl) ?_
                refine lv_iconst (v := 0) hx hb dX8_readRule_71 (by decide) ?_
                refine kg_v C hH (kc_V C hH w_5_58 lc_yX8_put li_yX8_put oT (kX8_put l E ad M11 a1 v5 0) (As := [.int a1, .int v5, .int 0]) rfl dX8_readRule_72 rfl hl.1 (Nat.le_of_ble_eq_true rfl) ⟨Nat.le_of_ble_eq_true rfl, Nat.le_of_ble_eq_true rfl⟩ ⟨Nat.le_of_ble_eq_true rfl, Nat.le_of_ble_eq_true rfl⟩) ⟨rfl, rfl⟩ (fun M13 H locs hH => ?_)
                refine W_nm (fun v14 ev14 => ?_)
                refine lv_iinc (v := v14) (lv' := [(2, .int v14), (3, .int v10), (0, .ref (ad 115)), (1, .int a1)]) hx hb dX8_readRule_75 hl (k := 3) rfl (by rw [ev14]; rfl) (by decide) rfl (fun ls hl => ?_)
                refine lv_goto (tgt := 26) hx hb dX8_readRule_78 (by decide) ?_
                exact hrec26 (v14, M13) _ _ _ hH (lv_sub hl [2, 3, 0] rfl)
            · refine kb_if_eq (tgt := 64) hx hb dX8_readRule_50 (by decide) (fun _ => ?_) (fun _ => ?_)
              · exact hK64_50 M6 _ _ _ hH (lv_sub hl [0, 1, 2, 3] rfl)
              · refine lv_aload_n hx hb dX8_readRule_53 rfl (lv_at hl 1 rfl) ?_
                refine lv_iload_n hx hb dX8_readRule_54 rfl (lv_at hl 2 rfl) ?_
                refine lv_iload_n hx hb dX8_readRule_55 rfl (lv_at hl 3 rfl) ?_
                refine kg_ib C hH (kc_V C hH w_5_74 lc_yX8_readCondition li_yX8_readCondition oT (kX8_readCondition l E ad M6 a1 v5) (As := [.int a1, .int v5]) rfl dX8_readRule_56 rfl hl.1 (Nat.le_of_ble_eq_true rfl) ⟨Nat.le_of_ble_eq_true rfl, Nat.le_of_ble_eq_true rfl⟩ ⟨Nat.le_of_ble_eq_true rfl, Nat.le_of_ble_eq_true rfl⟩) ⟨rfl, rfl⟩ (fun v16 M15 H locs hH => ?_)
                refine kb_if_ne (tgt := 64) hx hb dX8_readRule_59 (by decide) (fun _ => ?_) (fun _ => ?_)
                · exact hK64_50 M15 _ _ _ hH (lv_sub hl [0, 1, 2, 3] rfl)
                · refine lv_iconst (v := 0) hx hb dX8_readRule_62 (by decide) ?_
                  exact ke_z C hH hr (Nat.le_refl _) (Nat.le_refl _) rfl (Or.inl rfl) dX8_readRule_63
          · refine kb_icmp_eq (tgt := 43) hx hb dX8_readRule_33 (by decide) (fun _ => ?_) (fun _ => ?_)
            · refine lv_iconst (v := 1) hx hb dX8_readRule_43 (by decide) ?_
              refine lv_goto (tgt := 48) hx hb dX8_readRule_44 (by decide) ?_
              exact hK48_33 1 _ _ _ hH (lv_sub hl [0, 1, 2] rfl)
            · refine lv_aload_n hx hb dX8_readRule_36 rfl (lv_at hl 0 rfl) ?_
              refine kg_io C hH (kc_V C hH w_5_70 lc_yX8_startsCondition li_yX8_startsCondition oT (kX8_startsCondition l E ad M6) (As := []) rfl dX8_readRule_37 rfl hl.1 (Nat.le_of_ble_eq_true rfl) ⟨Nat.le_of_ble_eq_true rfl, Nat.le_of_ble_eq_true rfl⟩ ⟨Nat.le_of_ble_eq_true rfl, Nat.le_of_ble_eq_true rfl⟩) ⟨rfl, rfl⟩ (fun v17 H locs hH => ?_)
              refine kb_if_eq (tgt := 47) hx hb dX8_readRule_40 (by decide) (fun _ => ?_) (fun _ => ?_)
              · refine lv_iconst (v := 0) hx hb dX8_readRule_47 (by decide) ?_
                exact hK48_33 0 _ _ _ hH (lv_sub hl [0, 1, 2] rfl)
              · refine lv_iconst (v := 1) hx hb dX8_readRule_43 (by decide) ?_
                refine lv_goto (tgt := 48) hx hb dX8_readRule_44 (by decide) ?_
                exact hK48_33 1 _ _ _ hH (lv_sub hl [0, 1, 2] rfl)
    · refine lv_iconst (v := 0) hx hb dX8_readRule_22 (by decide) ?_
      exact ke_z C hH hr (Nat.le_refl _) (Nat.le_refl _) rfl (Or.inl rfl) dX8_readRule_23
def fX8_readOrder (M : KS) (a1 : Int32) : Option (Int32 × KS) := bd2 (fX8_skip M 43) fun v2 M1 => (if v2 = 0 then bd2 (fX8_skip M1 45) fun v4 M3 => (if v4 = 0 then bd2 (fX8_skip M3 114) fun v6 M5 => (if v6 = 0 then bd2 (fX8_skip M5 100) fun v8 M7 => (if v8 = 0 then some (0, M7) else bd2 (fX8_readNumber M7 a1 0 48 10) fun v10 M9 => (if v10 = 0 then some (0, M9) else bd2 (fX8_note M9 a1 100) fun v12 M11 => (if v12 = 0 then some (0, M11) else some (1, M11)))) else bd2 (fX8_readRule M5 a1) fun v14 M13 => if isB v14 then some (v14, M13) else none) else bd2 (fX8_readFact M3 a1 45) fun v16 M15 => if isB v16 then some (v16, M15) else none) else bd2 (fX8_readFact M1 a1 43) fun v18 M17 => if isB v18 then some (v18, M17) else none)
set_option maxHeartbeats 4000000 in
set_option maxRecDepth 100000 in
theorem kX8_readOrder (l : Launch) (E : KE) (ad : Nat → Nat) (M : KS) (a1 : Int32) : CT l yX8_readOrder cX8_readOrder 2 (some .boolean) { frames := 4, cells := 0, slots := 0, locals := 94 } SK E ad [.ref (ad 115), .int a1] M (QI SK E ad) (fX8_readOrder M a1) := by
  refine CT.ofW (by decide) (Nat.le_of_ble_eq_true rfl) (fun sz p e s m args below meth c C hr hH ls hl => ?_)
  have hx := C.1.1
  have hb := C.1.2.1
  have hl : lv_has ls 2 [(0, .ref (ad 115)), (1, .int a1)] := hl
  unfold fX8_readOrder
  refine lv_aload_n hx hb dX8_readOrder_0 rfl (lv_at hl 0 rfl) ?_
  refine lv_bipush (v := 43) hx hb dX8_readOrder_1 (by decide) ?_
  refine kg_ib C hH (kc_V C hH w_5_42 lc_yX8_skip li_yX8_skip oT (kX8_skip l E ad M 43) (As := [.int 43]) rfl dX8_readOrder_3 rfl hl.1 (Nat.le_of_ble_eq_true rfl) ⟨Nat.le_of_ble_eq_true rfl, Nat.le_of_ble_eq_true rfl⟩ ⟨Nat.le_of_ble_eq_true rfl, Nat.le_of_ble_eq_true rfl⟩) ⟨rfl, rfl⟩ (fun v2 M1 H locs hH => ?_)
  refine kb_if_eq (tgt := 17) hx hb dX8_readOrder_6 (by decide) (fun _ => ?_) (fun _ => ?_)
  · refine lv_aload_n hx hb dX8_readOrder_17 rfl (lv_at hl 0 rfl) ?_
    refine lv_bipush (v := 45) hx hb dX8_readOrder_18 (by decide) ?_
    refine kg_ib C hH (kc_V C hH w_5_42 lc_yX8_skip li_yX8_skip oT (kX8_skip l E ad M1 45) (As := [.int 45]) rfl dX8_readOrder_20 rfl hl.1 (Nat.le_of_ble_eq_true rfl) ⟨Nat.le_of_ble_eq_true rfl, Nat.le_of_ble_eq_true rfl⟩ ⟨Nat.le_of_ble_eq_true rfl, Nat.le_of_ble_eq_true rfl⟩) ⟨rfl, rfl⟩ (fun v4 M3 H locs hH => ?_)
    refine kb_if_eq (tgt := 34) hx hb dX8_readOrder_23 (by decide) (fun _ => ?_) (fun _ => ?_)
    · refine lv_aload_n hx hb dX8_readOrder_34 rfl (lv_at hl 0 rfl) ?_
      refine lv_bipush (v := 114) hx hb dX8_readOrder_35 (by decide) ?_
      refine kg_ib C hH (kc_V C hH w_5_42 lc_yX8_skip li_yX8_skip oT (kX8_skip l E ad M3 114) (As := [.int 114]) rfl dX8_readOrder_37 rfl hl.1 (Nat.le_of_ble_eq_true rfl) ⟨Nat.le_of_ble_eq_true rfl, Nat.le_of_ble_eq_true rfl⟩ ⟨Nat.le_of_ble_eq_true rfl, Nat.le_of_ble_eq_true rfl⟩) ⟨rfl, rfl⟩ (fun v6 M5 H locs hH => ?_)
      refine kb_if_eq (tgt := 49) hx hb dX8_readOrder_40 (by decide) (fun _ => ?_) (fun _ => ?_)
      · refine lv_aload_n hx hb dX8_readOrder_49 rfl (lv_at hl 0 rfl) ?_
        refine lv_bipush (v := 100) hx hb dX8_readOrder_50 (by decide) ?_
        refine kg_ib C hH (kc_V C hH w_5_42 lc_yX8_skip li_yX8_skip oT (kX8_skip l E ad M5 100) (As := [.int 100]) rfl dX8_readOrder_52 rfl hl.1 (Nat.le_of_ble_eq_true rfl) ⟨Nat.le_of_ble_eq_true rfl, Nat.le_of_ble_eq_true rfl⟩ ⟨Nat.le_of_ble_eq_true rfl, Nat.le_of_ble_eq_true rfl⟩) ⟨rfl, rfl⟩ (fun v8 M7 H locs hH => ?_)
        refine kb_if_eq (tgt := 85) hx hb dX8_readOrder_55 (by decide) (fun _ => ?_) (fun _ => ?_)
        · refine lv_iconst (v := 0) hx hb dX8_readOrder_85 (by decide) ?_
          exact ke_z C hH hr (Nat.le_refl _) (Nat.le_refl _) rfl (Or.inl rfl) dX8_readOrder_86
        · refine lv_aload_n hx hb dX8_readOrder_58 rfl (lv_at hl 0 rfl) ?_
          refine lv_iload_n hx hb dX8_readOrder_59 rfl (lv_at hl 1 rfl) ?_
          refine lv_iconst (v := 0) hx hb dX8_readOrder_60 (by decide) ?_
          refine lv_bipush (v := 48) hx hb dX8_readOrder_61 (by decide) ?_
          refine lv_bipush (v := 10) hx hb dX8_readOrder_63 (by decide) ?_
          refine kg_ib C hH (kc_V C hH w_5_54 lc_yX8_readNumber li_yX8_readNumber oT (kX8_readNumber l E ad M7 a1 0 48 10) (As := [.int a1, .int 0, .int 48, .int 10]) rfl dX8_readOrder_65 rfl hl.1 (Nat.le_of_ble_eq_true rfl) ⟨Nat.le_of_ble_eq_true rfl, Nat.le_of_ble_eq_true rfl⟩ ⟨Nat.le_of_ble_eq_true rfl, Nat.le_of_ble_eq_true rfl⟩) ⟨rfl, rfl⟩ (fun v10 M9 H locs hH => ?_)
          refine kb_if_eq (tgt := 85) hx hb dX8_readOrder_68 (by decide) (fun _ => ?_) (fun _ => ?_)
          · refine lv_iconst (v := 0) hx hb dX8_readOrder_85 (by decide) ?_
            exact ke_z C hH hr (Nat.le_refl _) (Nat.le_refl _) rfl (Or.inl rfl) dX8_readOrder_86
          · refine lv_aload_n hx hb dX8_readOrder_71 rfl (lv_at hl 0 rfl) ?_
            refine lv_iload_n hx hb dX8_readOrder_72 rfl (lv_at hl 1 rfl) ?_
            refine lv_bipush (v := 100) hx hb dX8_readOrder_73 (by decide) ?_
            refine kg_ib C hH (kc_V C hH w_5_62 lc_yX8_note li_yX8_note oT (kX8_note l E ad M9 a1 100) (As := [.int a1, .int 100]) rfl dX8_readOrder_75 rfl hl.1 (Nat.le_of_ble_eq_true rfl) ⟨Nat.le_of_ble_eq_true rfl, Nat.le_of_ble_eq_true rfl⟩ ⟨Nat.le_of_ble_eq_true rfl, Nat.le_of_ble_eq_true rfl⟩) ⟨rfl, rfl⟩ (fun v12 M11 H locs hH => ?_)
            refine kb_if_eq (tgt := 85) hx hb dX8_readOrder_78 (by decide) (fun _ => ?_) (fun _ => ?_)
            · refine lv_iconst (v := 0) hx hb dX8_readOrder_85 (by decide) ?_
              exact ke_z C hH hr (Nat.le_refl _) (Nat.le_refl _) rfl (Or.inl rfl) dX8_readOrder_86
            · refine lv_iconst (v := 1) hx hb dX8_readOrder_81 (by decide) ?_
              refine lv_goto (tgt := 86) hx hb dX8_readOrder_82 (by decide) ?_
              exact ke_z C hH hr (Nat.le_refl _) (Nat.le_refl _) rfl (Or.inr rfl) dX8_readOrder_86
      · refine lv_aload_n hx hb dX8_readOrder_43 rfl (lv_at hl 0 rfl) ?_
        refine lv_iload_n hx hb dX8_readOrder_44 rfl (lv_at hl 1 rfl) ?_
        refine kg_ib C hH (kc_V C hH w_5_66 lc_yX8_readRule li_yX8_readRule oT (kX8_readRule l E ad M5 a1) (As := [.int a1]) rfl dX8_readOrder_45 rfl hl.1 (Nat.le_of_ble_eq_true rfl) ⟨Nat.le_of_ble_eq_true rfl, Nat.le_of_ble_eq_true rfl⟩ ⟨Nat.le_of_ble_eq_true rfl, Nat.le_of_ble_eq_true rfl⟩) ⟨rfl, rfl⟩ (fun v14 M13 H locs hH => ?_)
        exact ke_zg C hH hr (Nat.le_refl _) (Nat.le_refl _) rfl dX8_readOrder_48
    · refine lv_aload_n hx hb dX8_readOrder_26 rfl (lv_at hl 0 rfl) ?_
      refine lv_iload_n hx hb dX8_readOrder_27 rfl (lv_at hl 1 rfl) ?_
      refine lv_bipush (v := 45) hx hb dX8_readOrder_28 (by decide) ?_
      refine kg_ib C hH (kc_V C hH w_5_50 lc_yX8_readFact li_yX8_readFact oT (kX8_readFact l E ad M3 a1 45) (As := [.int a1, .int 45]) rfl dX8_readOrder_30 rfl hl.1 (Nat.le_of_ble_eq_true rfl) ⟨Nat.le_of_ble_eq_true rfl, Nat.le_of_ble_eq_true rfl⟩ ⟨Nat.le_of_ble_eq_true rfl, Nat.le_of_ble_eq_true rfl⟩) ⟨rfl, rfl⟩ (fun v16 M15 H locs hH => ?_)
      exact ke_zg C hH hr (Nat.le_refl _) (Nat.le_refl _) rfl dX8_readOrder_33
  · refine lv_aload_n hx hb dX8_readOrder_9 rfl (lv_at hl 0 rfl) ?_
    refine lv_iload_n hx hb dX8_readOrder_10 rfl (lv_at hl 1 rfl) ?_
    refine lv_bipush (v := 43) hx hb dX8_readOrder_11 (by decide) ?_
    refine kg_ib C hH (kc_V C hH w_5_50 lc_yX8_readFact li_yX8_readFact oT (kX8_readFact l E ad M1 a1 43) (As := [.int a1, .int 43]) rfl dX8_readOrder_13 rfl hl.1 (Nat.le_of_ble_eq_true rfl) ⟨Nat.le_of_ble_eq_true rfl, Nat.le_of_ble_eq_true rfl⟩ ⟨Nat.le_of_ble_eq_true rfl, Nat.le_of_ble_eq_true rfl⟩) ⟨rfl, rfl⟩ (fun v18 M17 H locs hH => ?_)
    exact ke_zg C hH hr (Nat.le_refl _) (Nat.le_refl _) rfl dX8_readOrder_16
def fX8_readOrders_X12 (M5 : KS) : Option (Int32 × KS) := some ((M5.1 115 5), M5)
theorem fX8_readOrders_X12_u {M5 : KS} : fX8_readOrders_X12 M5 = some ((M5.1 115 5), M5) := rfl
def fX8_readOrders_L12 (rec12 : (Int32 × KS) → Option (Int32 × KS)) (k12 : (KS) → Option (Int32 × KS)) (x : Int32 × KS) : Option (Int32 × KS) := match x with | (v3, M4) => (if 21 ≤ v3 then k12 M4 else bd2 (fX8_readOrder M4 v3) fun v7 M6 => (if v7 = 0 then some ((M6.1 115 5), M6) else nm (kset M6 115 4 ((M6.1 115 4) + 1)) fun M8 => (if (M8.1 115 5) < (M8.1 115 3) then bd2 (fX8_skip M8 59) fun v10 M9 => (if v10 = 0 then some ((M9.1 115 5), M9) else nm (v3 + 1) fun v11 => rec12 (v11, M9)) else some ((-1), M8))))
theorem fX8_readOrders_L12_u {rec12 : (Int32 × KS) → Option (Int32 × KS)} {k12 : (KS) → Option (Int32 × KS)} {v3 : Int32} {M4 : KS} : fX8_readOrders_L12 rec12 k12 (v3, M4) = (if 21 ≤ v3 then k12 M4 else bd2 (fX8_readOrder M4 v3) fun v7 M6 => (if v7 = 0 then some ((M6.1 115 5), M6) else nm (kset M6 115 4 ((M6.1 115 4) + 1)) fun M8 => (if (M8.1 115 5) < (M8.1 115 3) then bd2 (fX8_skip M8 59) fun v10 M9 => (if v10 = 0 then some ((M9.1 115 5), M9) else nm (v3 + 1) fun v11 => rec12 (v11, M9)) else some ((-1), M8)))) := rfl
def fX8_readOrders (M : KS)  : Option (Int32 × KS) := nm (kset M 115 5 0) fun M1 => nm (kset M1 115 4 0) fun M2 => lp (fX8_readOrders_L12) (fX8_readOrders_X12) 1000000 (0, M2)
set_option maxHeartbeats 4000000 in
set_option maxRecDepth 100000 in
theorem kX8_readOrders (l : Launch) (E : KE) (ad : Nat → Nat) (M : KS)  : CT l yX8_readOrders cX8_readOrders 2 (some .int) { frames := 5, cells := 0, slots := 0, locals := 115 } SK E ad [.ref (ad 115)] M (QI SK E ad) (fX8_readOrders M) := by
  refine CT.ofW (by decide) (Nat.le_of_ble_eq_true rfl) (fun sz p e s m args below meth c C hr hH ls hl => ?_)
  have hx := C.1.1
  have hb := C.1.2.1
  have hl : lv_has ls 2 [(0, .ref (ad 115))] := hl
  unfold fX8_readOrders
  refine lv_aload_n hx hb dX8_readOrders_0 rfl (lv_at hl 0 rfl) ?_
  refine lv_iconst (v := 0) hx hb dX8_readOrders_1 (by decide) ?_
  refine k_put1 C hH fd_X8_29 fw_X8_5 oT nT5 rfl rfl dX8_readOrders_2 (fun M1 H locs hH => ?_)
  refine lv_aload_n hx hb dX8_readOrders_5 rfl (lv_at hl 0 rfl) ?_
  refine lv_iconst (v := 0) hx hb dX8_readOrders_6 (by decide) ?_
  refine k_put1 C hH fd_X8_26 fw_X8_4 oT nT4 rfl rfl dX8_readOrders_7 (fun M2 H locs hH => ?_)
  refine lv_iconst (v := 0) hx hb dX8_readOrders_10 (by decide) ?_
  refine lv_istore_n (lv' := [(1, .int 0), (0, .ref (ad 115))]) hx hb dX8_readOrders_11 rfl hl (by decide) rfl (fun ls hl => ?_)
  refine W_lp (fun (x : Int32 × KS) H locs => KH SK E ad sz x.2 s.heap H locs) (fun x ls => lv_has ls 2 [(0, .ref (ad 115)), (1, .int x.1)]) (fun _ ls => F0 m 12 ls []) (fun (x : KS) H locs => KH SK E ad sz x s.heap H locs) (fun x ls => lv_has ls 2 [(0, .ref (ad 115))]) (fun _ ls => F0 m 74 ls []) ?_ ?_ hH (lv_sub hl [1, 0] rfl)
  · intro M5 H locs ls hH hl
    have hH : KH SK E ad sz M5 s.heap H locs := hH
    have hl : lv_has ls 2 [(0, .ref (ad 115))] := hl
    refine W_q fX8_readOrders_X12_u ?_
    refine lv_aload_n hx hb dX8_readOrders_74 rfl (lv_at hl 0 rfl) ?_
    refine k_get C hH fd_X8_29 oT (k_int (M := M5) (ad := ad) nT5) dX8_readOrders_75 ?_
    exact ke_i C hH hr (Nat.le_refl _) (Nat.le_refl _) rfl dX8_readOrders_78
  · intro rec12 k12 hrec12 hk12 ⟨v3, M4⟩ H locs ls hH hl
    have hH : KH SK E ad sz M4 s.heap H locs := hH
    have hl : lv_has ls 2 [(0, .ref (ad 115)), (1, .int v3)] := hl
    refine W_q fX8_readOrders_L12_u ?_
    refine lv_iload_n hx hb dX8_readOrders_12 rfl (lv_at hl 1 rfl) ?_
    refine lv_bipush (v := 21) hx hb dX8_readOrders_13 (by decide) ?_
    refine kb_icmp_ge (tgt := 74) hx hb dX8_readOrders_15 (by decide) (fun _ => ?_) (fun _ => ?_)
    · exact hk12 M4 _ _ _ hH (lv_sub hl [0] rfl)
    · refine lv_aload_n hx hb dX8_readOrders_18 rfl (lv_at hl 0 rfl) ?_
      refine lv_iload_n hx hb dX8_readOrders_19 rfl (lv_at hl 1 rfl) ?_
      refine kg_ib C hH (kc_V C hH w_5_38 lc_yX8_readOrder li_yX8_readOrder oT (kX8_readOrder l E ad M4 v3) (As := [.int v3]) rfl dX8_readOrders_20 rfl hl.1 (Nat.le_of_ble_eq_true rfl) ⟨Nat.le_of_ble_eq_true rfl, Nat.le_of_ble_eq_true rfl⟩ ⟨Nat.le_of_ble_eq_true rfl, Nat.le_of_ble_eq_true rfl⟩) ⟨rfl, rfl⟩ (fun v7 M6 H locs hH => ?_)
      refine kb_if_ne (tgt := 31) hx hb dX8_readOrders_23 (by decide) (fun _ => ?_) (fun _ => ?_)
      · refine lv_aload_n hx hb dX8_readOrders_31 rfl (lv_at hl 0 rfl) ?_
        refine lv_dup hx hb dX8_readOrders_32 rfl ?_
        refine k_get C hH fd_X8_26 oT (k_int (M := M6) (ad := ad) nT4) dX8_readOrders_33 ?_
        refine lv_iconst (v := 1) hx hb dX8_readOrders_36 (by decide) ?_
        refine lv_iadd hx hb dX8_readOrders_37 ?_
        refine k_put1 C hH fd_X8_26 fw_X8_4 oT nT4 rfl rfl dX8_readOrders_38 (fun M8 H locs hH => ?_)
        refine lv_aload_n hx hb dX8_readOrders_41 rfl (lv_at hl 0 rfl) ?_
        refine k_get C hH fd_X8_29 oT (k_int (M := M8) (ad := ad) nT5) dX8_readOrders_42 ?_
        refine lv_aload_n hx hb dX8_readOrders_45 rfl (lv_at hl 0 rfl) ?_
        refine k_get C hH fd_X8_22 oT (k_int (M := M8) (ad := ad) nT3) dX8_readOrders_46 ?_
        refine kb_icmp_lt (tgt := 54) hx hb dX8_readOrders_49 (by decide) (fun _ => ?_) (fun _ => ?_)
        · refine lv_aload_n hx hb dX8_readOrders_54 rfl (lv_at hl 0 rfl) ?_
          refine lv_bipush (v := 59) hx hb dX8_readOrders_55 (by decide) ?_
          refine kg_ib C hH (kc_V C hH w_5_42 lc_yX8_skip li_yX8_skip oT (kX8_skip l E ad M8 59) (As := [.int 59]) rfl dX8_readOrders_57 rfl hl.1 (Nat.le_of_ble_eq_true rfl) ⟨Nat.le_of_ble_eq_true rfl, Nat.le_of_ble_eq_true rfl⟩ ⟨Nat.le_of_ble_eq_true rfl, Nat.le_of_ble_eq_true rfl⟩) ⟨rfl, rfl⟩ (fun v10 M9 H locs hH => ?_)
          refine kb_if_ne (tgt := 68) hx hb dX8_readOrders_60 (by decide) (fun _ => ?_) (fun _ => ?_)
          · refine W_nm (fun v11 ev11 => ?_)
            refine lv_iinc (v := v11) (lv' := [(1, .int v11), (0, .ref (ad 115))]) hx hb dX8_readOrders_68 hl (k := 1) rfl (by rw [ev11]; rfl) (by decide) rfl (fun ls hl => ?_)
            refine lv_goto (tgt := 12) hx hb dX8_readOrders_71 (by decide) ?_
            exact hrec12 (v11, M9) _ _ _ hH (lv_sub hl [1, 0] rfl)
          · refine lv_aload_n hx hb dX8_readOrders_63 rfl (lv_at hl 0 rfl) ?_
            refine k_get C hH fd_X8_29 oT (k_int (M := M9) (ad := ad) nT5) dX8_readOrders_64 ?_
            exact ke_i C hH hr (Nat.le_refl _) (Nat.le_refl _) rfl dX8_readOrders_67
        · refine lv_iconst (v := (-1)) hx hb dX8_readOrders_52 (by decide) ?_
          exact ke_i C hH hr (Nat.le_refl _) (Nat.le_refl _) rfl dX8_readOrders_53
      · refine lv_aload_n hx hb dX8_readOrders_26 rfl (lv_at hl 0 rfl) ?_
        refine k_get C hH fd_X8_29 oT (k_int (M := M6) (ad := ad) nT5) dX8_readOrders_27 ?_
        exact ke_i C hH hr (Nat.le_refl _) (Nat.le_refl _) rfl dX8_readOrders_30
def fX8_clear (M : KS)  : Option (KS) := nm (kset M 115 3 0) fun M1 => some M1
set_option maxHeartbeats 4000000 in
set_option maxRecDepth 100000 in
theorem kX8_clear (l : Launch) (E : KE) (ad : Nat → Nat) (M : KS)  : CT l yX8_clear cX8_clear 1 none { frames := 0, cells := 0, slots := 0, locals := 0 } SK E ad [.ref (ad 115)] M (QV SK E ad) (fX8_clear M) := by
  refine CT.ofW (by decide) (Nat.le_of_ble_eq_true rfl) (fun sz p e s m args below meth c C hr hH ls hl => ?_)
  have hx := C.1.1
  have hb := C.1.2.1
  have hl : lv_has ls 1 [(0, .ref (ad 115))] := hl
  unfold fX8_clear
  refine lv_aload_n hx hb dX8_clear_0 rfl (lv_at hl 0 rfl) ?_
  refine lv_iconst (v := 0) hx hb dX8_clear_1 (by decide) ?_
  refine k_put1 C hH fd_X8_22 fw_X8_3 oT nT3 rfl rfl dX8_clear_2 (fun M1 H locs hH => ?_)
  exact ke_v C hH hr (Nat.le_refl _) (Nat.le_refl _) rfl dX8_clear_5
def fX8_kind (M : KS) (a1 : Int32) : Option (Int32) := (if a1 < 0 then if isC 32 then some 32 else none else (if 21 ≤ a1 then if isC 32 then some 32 else none else if inb a1 21 then if isC (M.1 117 a1.toNatClampNeg) then some (M.1 117 a1.toNatClampNeg) else none else none))
set_option maxHeartbeats 4000000 in
set_option maxRecDepth 100000 in
theorem kX8_kind (l : Launch) (E : KE) (ad : Nat → Nat) (M : KS) (a1 : Int32) : CT l yX8_kind cX8_kind 2 (some .char) { frames := 0, cells := 0, slots := 0, locals := 0 } SK E ad [.ref (ad 115), .int a1] M (fun sz a => QI SK E ad sz (a, M)) (fX8_kind M a1) := by
  refine CT.ofW (by decide) (Nat.le_of_ble_eq_true rfl) (fun sz p e s m args below meth c C hr hH ls hl => ?_)
  have hx := C.1.1
  have hb := C.1.2.1
  have hl : lv_has ls 2 [(0, .ref (ad 115)), (1, .int a1)] := hl
  unfold fX8_kind
  refine lv_iload_n hx hb dX8_kind_0 rfl (lv_at hl 1 rfl) ?_
  refine kb_if_lt (tgt := 22) hx hb dX8_kind_1 (by decide) (fun _ => ?_) (fun _ => ?_)
  · refine lv_bipush (v := 32) hx hb dX8_kind_22 (by decide) ?_
    exact ke_cg C hH hr (Nat.le_refl _) (Nat.le_refl _) rfl dX8_kind_24
  · refine lv_iload_n hx hb dX8_kind_4 rfl (lv_at hl 1 rfl) ?_
    refine lv_aload_n hx hb dX8_kind_5 rfl (lv_at hl 0 rfl) ?_
    refine k_get C hH fd_X8_15 oT (k_ref (M := M) (ad := ad) rT1) dX8_kind_6 ?_
    refine k_clen C hH aT1 (v := 21) rfl dX8_kind_9 ?_
    refine kb_icmp_ge (tgt := 22) hx hb dX8_kind_10 (by decide) (fun _ => ?_) (fun _ => ?_)
    · refine lv_bipush (v := 32) hx hb dX8_kind_22 (by decide) ?_
      exact ke_cg C hH hr (Nat.le_refl _) (Nat.le_refl _) rfl dX8_kind_24
    · refine lv_aload_n hx hb dX8_kind_13 rfl (lv_at hl 0 rfl) ?_
      refine k_get C hH fd_X8_15 oT (k_ref (M := M) (ad := ad) rT1) dX8_kind_14 ?_
      refine lv_iload_n hx hb dX8_kind_17 rfl (lv_at hl 1 rfl) ?_
      refine k_cald C hH aT1 dX8_kind_18 ?_
      refine lv_goto (tgt := 24) hx hb dX8_kind_19 (by decide) ?_
      exact ke_cg C hH hr (Nat.le_refl _) (Nat.le_refl _) rfl dX8_kind_24
def fX8_number (M : KS) (a1 : Int32) (a2 : Int32) : Option (Int32) := nm (((4 * a1) + a2)) fun v1 => (if v1 < 0 then some 0 else (if 84 ≤ v1 then some 0 else if inb v1 84 then some (M.1 118 v1.toNatClampNeg) else none))
set_option maxHeartbeats 4000000 in
set_option maxRecDepth 100000 in
theorem kX8_number (l : Launch) (E : KE) (ad : Nat → Nat) (M : KS) (a1 : Int32) (a2 : Int32) : CT l yX8_number cX8_number 4 (some .int) { frames := 0, cells := 0, slots := 0, locals := 0 } SK E ad [.ref (ad 115), .int a1, .int a2] M (fun sz a => QI SK E ad sz (a, M)) (fX8_number M a1 a2) := by
  refine CT.ofW (by decide) (Nat.le_of_ble_eq_true rfl) (fun sz p e s m args below meth c C hr hH ls hl => ?_)
  have hx := C.1.1
  have hb := C.1.2.1
  have hl : lv_has ls 4 [(0, .ref (ad 115)), (1, .int a1), (2, .int a2)] := hl
  unfold fX8_number
  refine lv_iconst (v := 4) hx hb dX8_number_0 (by decide) ?_
  refine lv_iload_n hx hb dX8_number_1 rfl (lv_at hl 1 rfl) ?_
  refine lv_imul hx hb dX8_number_2 ?_
  refine lv_iload_n hx hb dX8_number_3 rfl (lv_at hl 2 rfl) ?_
  refine lv_iadd hx hb dX8_number_4 ?_
  refine W_nmi (fun v1 => ?_)
  refine lv_istore_n (lv' := [(3, .int v1), (0, .ref (ad 115)), (1, .int a1), (2, .int a2)]) hx hb dX8_number_5 rfl hl (by decide) rfl (fun ls hl => ?_)
  refine lv_iload_n hx hb dX8_number_6 rfl (lv_at hl 0 rfl) ?_
  refine kb_if_lt (tgt := 28) hx hb dX8_number_7 (by decide) (fun _ => ?_) (fun _ => ?_)
  · refine lv_iconst (v := 0) hx hb dX8_number_28 (by decide) ?_
    exact ke_i C hH hr (Nat.le_refl _) (Nat.le_refl _) rfl dX8_number_29
  · refine lv_iload_n hx hb dX8_number_10 rfl (lv_at hl 0 rfl) ?_
    refine lv_aload_n hx hb dX8_number_11 rfl (lv_at hl 1 rfl) ?_
    refine k_get C hH fd_X8_18 oT (k_ref (M := M) (ad := ad) rT2) dX8_number_12 ?_
    refine k_ilen C hH aT2 (v := 84) rfl dX8_number_15 ?_
    refine kb_icmp_ge (tgt := 28) hx hb dX8_number_16 (by decide) (fun _ => ?_) (fun _ => ?_)
    · refine lv_iconst (v := 0) hx hb dX8_number_28 (by decide) ?_
      exact ke_i C hH hr (Nat.le_refl _) (Nat.le_refl _) rfl dX8_number_29
    · refine lv_aload_n hx hb dX8_number_19 rfl (lv_at hl 1 rfl) ?_
      refine k_get C hH fd_X8_18 oT (k_ref (M := M) (ad := ad) rT2) dX8_number_20 ?_
      refine lv_iload_n hx hb dX8_number_23 rfl (lv_at hl 0 rfl) ?_
      refine k_iald C hH aT2 dX8_number_24 ?_
      refine lv_goto (tgt := 29) hx hb dX8_number_25 (by decide) ?_
      exact ke_i C hH hr (Nat.le_refl _) (Nat.le_refl _) rfl dX8_number_29
def fX9_carryOut_J125_107 (x : Int32 × KS) : Option (Int32 × KS) := match x with | (v6, M7) => (if v6 = 0 then some (1, M7) else some (0, M7))
theorem fX9_carryOut_J125_107_u {v6 : Int32} {M7 : KS} : fX9_carryOut_J125_107 (v6, M7) = (if v6 = 0 then some (1, M7) else some (0, M7)) := rfl
def fX9_carryOut (M : KS) (a1 : Int32) : Option (Int32 × KS) := (fX8_kind M a1).bind fun v1 => (fX8_number M a1 0).bind fun v2 => (fX8_number M a1 1).bind fun v3 => (fX8_number M a1 2).bind fun v4 => (if v1 = 100 then bd2 (fX9_takeRule M v2) fun v16 M15 => (if v16 = 0 then some (2, M15) else some (0, M15)) else (if v1 = 114 then (fX8_number M a1 3).bind fun v12 => bd2 (fX9_addRule M v2 v3 v4 v12) fun v14 M13 => (if v14 = 0 then some (1, M13) else some (0, M13)) else nm ((fX9_numberOf v2 v3 v4)) fun v5 => jn (fX9_carryOut_J125_107) (fun K125_107 => (if v1 = 43 then bd2 (fX9_addFact M v5) fun v11 M10 => K125_107 (v11, M10) else bd2 (fX9_takeFact M v5) fun v9 M8 => K125_107 (v9, M8)))))
set_option maxHeartbeats 4000000 in
set_option maxRecDepth 100000 in
theorem kX9_carryOut (l : Launch) (E : KE) (ad : Nat → Nat) (M : KS) (a1 : Int32) : CT l yX9_carryOut cX9_carryOut 8 (some .int) { frames := 6, cells := 0, slots := 0, locals := 156 } SK E ad [.ref (ad 121), .int a1] M (QI SK E ad) (fX9_carryOut M a1) := by
  refine CT.ofW (by decide) (Nat.le_of_ble_eq_true rfl) (fun sz p e s m args below meth c C hr hH ls hl => ?_)
  have hx := C.1.1
  have hb := C.1.2.1
  have hl : lv_has ls 8 [(0, .ref (ad 121)), (1, .int a1)] := hl
  unfold fX9_carryOut
  refine lv_aload_n hx hb dX9_carryOut_0 rfl (lv_at hl 0 rfl) ?_
  refine k_get C hH fd_X9_50 oK (k_ref (M := M) (ad := ad) rK6) dX9_carryOut_1 ?_
  refine lv_iload_n hx hb dX9_carryOut_4 rfl (lv_at hl 1 rfl) ?_
  refine kg_io C hH (kc_V C hH w_5_90 lc_yX8_kind li_yX8_kind oT (kX8_kind l E ad M a1) (As := [.int a1]) rfl dX9_carryOut_5 rfl hl.1 (Nat.le_of_ble_eq_true rfl) ⟨Nat.le_of_ble_eq_true rfl, Nat.le_of_ble_eq_true rfl⟩ ⟨Nat.le_of_ble_eq_true rfl, Nat.le_of_ble_eq_true rfl⟩) ⟨rfl, rfl⟩ (fun v1 H locs hH => ?_)
  refine lv_istore_n (lv' := [(2, .int v1), (0, .ref (ad 121)), (1, .int a1)]) hx hb dX9_carryOut_8 rfl hl (by decide) rfl (fun ls hl => ?_)
  refine lv_aload_n hx hb dX9_carryOut_9 rfl (lv_at hl 1 rfl) ?_
  refine k_get C hH fd_X9_50 oK (k_ref (M := M) (ad := ad) rK6) dX9_carryOut_10 ?_
  refine lv_iload_n hx hb dX9_carryOut_13 rfl (lv_at hl 2 rfl) ?_
  refine lv_iconst (v := 0) hx hb dX9_carryOut_14 (by decide) ?_
  refine kg_io C hH (kc_V C hH w_5_94 lc_yX8_number li_yX8_number oT (kX8_number l E ad M a1 0) (As := [.int a1, .int 0]) rfl dX9_carryOut_15 rfl hl.1 (Nat.le_of_ble_eq_true rfl) ⟨Nat.le_of_ble_eq_true rfl, Nat.le_of_ble_eq_true rfl⟩ ⟨Nat.le_of_ble_eq_true rfl, Nat.le_of_ble_eq_true rfl⟩) ⟨rfl, rfl⟩ (fun v2 H locs hH => ?_)
  refine lv_istore_n (lv' := [(3, .int v2), (2, .int v1), (0, .ref (ad 121)), (1, .int a1)]) hx hb dX9_carryOut_18 rfl hl (by decide) rfl (fun ls hl => ?_)
  refine lv_aload_n hx hb dX9_carryOut_19 rfl (lv_at hl 2 rfl) ?_
  refine k_get C hH fd_X9_50 oK (k_ref (M := M) (ad := ad) rK6) dX9_carryOut_20 ?_
  refine lv_iload_n hx hb dX9_carryOut_23 rfl (lv_at hl 3 rfl) ?_
  refine lv_iconst (v := 1) hx hb dX9_carryOut_24 (by decide) ?_
  refine kg_io C hH (kc_V C hH w_5_94 lc_yX8_number li_yX8_number oT (kX8_number l E ad M a1 1) (As := [.int a1, .int 1]) rfl dX9_carryOut_25 rfl hl.1 (Nat.le_of_ble_eq_true rfl) ⟨Nat.le_of_ble_eq_true rfl, Nat.le_of_ble_eq_true rfl⟩ ⟨Nat.le_of_ble_eq_true rfl, Nat.le_of_ble_eq_true rfl⟩) ⟨rfl, rfl⟩ (fun v3 H locs hH => ?_)
  refine lv_istore (lv' := [(4, .int v3), (3, .int v2), (2, .int v1), (0, .ref (ad 121)), (1, .int a1)]) hx hb dX9_carryOut_28 hl (by decide) rfl (fun ls hl => ?_)
  refine lv_aload_n hx hb dX9_carryOut_30 rfl (lv_at hl 3 rfl) ?_
  refine k_get C hH fd_X9_50 oK (k_ref (M := M) (ad := ad) rK6) dX9_carryOut_31 ?_
  refine lv_iload_n hx hb dX9_carryOut_34 rfl (lv_at hl 4 rfl) ?_
  refine lv_iconst (v := 2) hx hb dX9_carryOut_35 (by decide) ?_
  refine kg_io C hH (kc_V C hH w_5_94 lc_yX8_number li_yX8_number oT (kX8_number l E ad M a1 2) (As := [.int a1, .int 2]) rfl dX9_carryOut_36 rfl hl.1 (Nat.le_of_ble_eq_true rfl) ⟨Nat.le_of_ble_eq_true rfl, Nat.le_of_ble_eq_true rfl⟩ ⟨Nat.le_of_ble_eq_true rfl, Nat.le_of_ble_eq_true rfl⟩) ⟨rfl, rfl⟩ (fun v4 H locs hH => ?_)
  refine lv_istore (lv' := [(5, .int v4), (4, .int v3), (3, .int v2), (2, .int v1), (0, .ref (ad 121)), (1, .int a1)]) hx hb dX9_carryOut_39 hl (by decide) rfl (fun ls hl => ?_)
  refine lv_iload_n hx hb dX9_carryOut_41 rfl (lv_at hl 3 rfl) ?_
  refine lv_bipush (v := 100) hx hb dX9_carryOut_42 (by decide) ?_
  refine kb_icmp_ne (tgt := 61) hx hb dX9_carryOut_44 (by decide) (fun _ => ?_) (fun _ => ?_)
  · refine lv_iload_n hx hb dX9_carryOut_61 rfl (lv_at hl 3 rfl) ?_
    refine lv_bipush (v := 114) hx hb dX9_carryOut_62 (by decide) ?_
    refine kb_icmp_ne (tgt := 94) hx hb dX9_carryOut_64 (by decide) (fun _ => ?_) (fun _ => ?_)
    · refine lv_iload_n hx hb dX9_carryOut_94 rfl (lv_at hl 2 rfl) ?_
      refine lv_iload hx hb dX9_carryOut_95 (lv_at hl 1 rfl) ?_
      refine lv_iload hx hb dX9_carryOut_97 (lv_at hl 0 rfl) ?_
      refine kg_ip C hH (kc_S C hH w_3_81 w_st_yX9_numberOf rfl lc_yX9_numberOf (kX9_numberOf l E ad M v2 v3 v4) (As := [.int v2, .int v3, .int v4]) rfl dX9_carryOut_99 rfl hl.1 (Nat.le_of_ble_eq_true rfl) ⟨Nat.le_of_ble_eq_true rfl, Nat.le_of_ble_eq_true rfl⟩ ⟨Nat.le_of_ble_eq_true rfl, Nat.le_of_ble_eq_true rfl⟩) ⟨rfl, rfl⟩ (fun H locs hH => ?_)
      refine W_nmi (fun v5 => ?_)
      refine lv_istore (lv' := [(6, .int v5), (5, .int v4), (4, .int v3), (3, .int v2), (2, .int v1), (0, .ref (ad 121)), (1, .int a1)]) hx hb dX9_carryOut_102 hl (by decide) rfl (fun ls hl => ?_)
      refine lv_iload_n hx hb dX9_carryOut_104 rfl (lv_at hl 4 rfl) ?_
      refine lv_bipush (v := 43) hx hb dX9_carryOut_105 (by decide) ?_
      refine W_jn (fun (x : Int32 × KS) H locs => KH SK E ad sz x.2 s.heap H locs) (fun x ls => lv_has ls 8 []) (fun x ls => F0 m 125 ls [.int x.1]) ?_ (fun K125_107 hK125_107 => ?_)
      · intro ⟨v6, M7⟩ H locs ls hH hl
        have hH : KH SK E ad sz M7 s.heap H locs := hH
        have hl : lv_has ls 8 [] := hl
        refine W_q fX9_carryOut_J125_107_u ?_
        refine lv_istore (lv' := [(7, .int v6)]) hx hb dX9_carryOut_125 hl (by decide) rfl (fun ls hl => ?_)
        refine lv_iload hx hb dX9_carryOut_127 (lv_at hl 0 rfl) ?_
        refine kb_if_eq (tgt := 136) hx hb dX9_carryOut_129 (by decide) (fun _ => ?_) (fun _ => ?_)
        · refine lv_iconst (v := 1) hx hb dX9_carryOut_136 (by decide) ?_
          exact ke_i C hH hr (Nat.le_refl _) (Nat.le_refl _) rfl dX9_carryOut_137
        · refine lv_iconst (v := 0) hx hb dX9_carryOut_132 (by decide) ?_
          refine lv_goto (tgt := 137) hx hb dX9_carryOut_133 (by decide) ?_
          exact ke_i C hH hr (Nat.le_refl _) (Nat.le_refl _) rfl dX9_carryOut_137
      · refine kb_icmp_ne (tgt := 119) hx hb dX9_carryOut_107 (by decide) (fun _ => ?_) (fun _ => ?_)
        · refine lv_aload_n hx hb dX9_carryOut_119 rfl (lv_at hl 5 rfl) ?_
          refine lv_iload hx hb dX9_carryOut_120 (lv_at hl 0 rfl) ?_
          refine kg_ib C hH (kc_V C hH w_3_135 lc_yX9_takeFact li_yX9_takeFact oK (kX9_takeFact l E ad M v5) (As := [.int v5]) rfl dX9_carryOut_122 rfl hl.1 (Nat.le_of_ble_eq_true rfl) ⟨Nat.le_of_ble_eq_true rfl, Nat.le_of_ble_eq_true rfl⟩ ⟨Nat.le_of_ble_eq_true rfl, Nat.le_of_ble_eq_true rfl⟩) ⟨rfl, rfl⟩ (fun v9 M8 H locs hH => ?_)
          exact hK125_107 (v9, M8) _ _ _ hH (lv_sub hl [] rfl)
        · refine lv_aload_n hx hb dX9_carryOut_110 rfl (lv_at hl 5 rfl) ?_
          refine lv_iload hx hb dX9_carryOut_111 (lv_at hl 0 rfl) ?_
          refine kg_ib C hH (kc_V C hH w_3_82 lc_yX9_addFact li_yX9_addFact oK (kX9_addFact l E ad M v5) (As := [.int v5]) rfl dX9_carryOut_113 rfl hl.1 (Nat.le_of_ble_eq_true rfl) ⟨Nat.le_of_ble_eq_true rfl, Nat.le_of_ble_eq_true rfl⟩ ⟨Nat.le_of_ble_eq_true rfl, Nat.le_of_ble_eq_true rfl⟩) ⟨rfl, rfl⟩ (fun v11 M10 H locs hH => ?_)
          refine lv_goto (tgt := 125) hx hb dX9_carryOut_116 (by decide) ?_
          exact hK125_107 (v11, M10) _ _ _ hH (lv_sub hl [] rfl)
    · refine lv_aload_n hx hb dX9_carryOut_67 rfl (lv_at hl 4 rfl) ?_
      refine lv_iload_n hx hb dX9_carryOut_68 rfl (lv_at hl 2 rfl) ?_
      refine lv_iload hx hb dX9_carryOut_69 (lv_at hl 1 rfl) ?_
      refine lv_iload hx hb dX9_carryOut_71 (lv_at hl 0 rfl) ?_
      refine lv_aload_n hx hb dX9_carryOut_73 rfl (lv_at hl 4 rfl) ?_
      refine k_get C hH fd_X9_50 oK (k_ref (M := M) (ad := ad) rK6) dX9_carryOut_74 ?_
      refine lv_iload_n hx hb dX9_carryOut_77 rfl (lv_at hl 5 rfl) ?_
      refine lv_iconst (v := 3) hx hb dX9_carryOut_78 (by decide) ?_
      refine kg_io C hH (kc_V C hH w_5_94 lc_yX8_number li_yX8_number oT (kX8_number l E ad M a1 3) (As := [.int a1, .int 3]) rfl dX9_carryOut_79 rfl hl.1 (Nat.le_of_ble_eq_true rfl) ⟨Nat.le_of_ble_eq_true rfl, Nat.le_of_ble_eq_true rfl⟩ ⟨Nat.le_of_ble_eq_true rfl, Nat.le_of_ble_eq_true rfl⟩) ⟨rfl, rfl⟩ (fun v12 H locs hH => ?_)
      refine kg_ib C hH (kc_V C hH w_4_76 lc_yX9_addRule li_yX9_addRule oK (kX9_addRule l E ad M v2 v3 v4 v12) (As := [.int v2, .int v3, .int v4, .int v12]) rfl dX9_carryOut_82 rfl hl.1 (Nat.le_of_ble_eq_true rfl) ⟨Nat.le_of_ble_eq_true rfl, Nat.le_of_ble_eq_true rfl⟩ ⟨Nat.le_of_ble_eq_true rfl, Nat.le_of_ble_eq_true rfl⟩) ⟨rfl, rfl⟩ (fun v14 M13 H locs hH => ?_)
      refine kb_if_eq (tgt := 92) hx hb dX9_carryOut_85 (by decide) (fun _ => ?_) (fun _ => ?_)
      · refine lv_iconst (v := 1) hx hb dX9_carryOut_92 (by decide) ?_
        exact ke_i C hH hr (Nat.le_refl _) (Nat.le_refl _) rfl dX9_carryOut_93
      · refine lv_iconst (v := 0) hx hb dX9_carryOut_88 (by decide) ?_
        refine lv_goto (tgt := 93) hx hb dX9_carryOut_89 (by decide) ?_
        exact ke_i C hH hr (Nat.le_refl _) (Nat.le_refl _) rfl dX9_carryOut_93
  · refine lv_aload_n hx hb dX9_carryOut_47 rfl (lv_at hl 4 rfl) ?_
    refine lv_iload_n hx hb dX9_carryOut_48 rfl (lv_at hl 2 rfl) ?_
    refine kg_ib C hH (kc_V C hH w_4_113 lc_yX9_takeRule li_yX9_takeRule oK (kX9_takeRule l E ad M v2) (As := [.int v2]) rfl dX9_carryOut_49 rfl hl.1 (Nat.le_of_ble_eq_true rfl) ⟨Nat.le_of_ble_eq_true rfl, Nat.le_of_ble_eq_true rfl⟩ ⟨Nat.le_of_ble_eq_true rfl, Nat.le_of_ble_eq_true rfl⟩) ⟨rfl, rfl⟩ (fun v16 M15 H locs hH => ?_)
    refine kb_if_eq (tgt := 59) hx hb dX9_carryOut_52 (by decide) (fun _ => ?_) (fun _ => ?_)
    · refine lv_iconst (v := 2) hx hb dX9_carryOut_59 (by decide) ?_
      exact ke_i C hH hr (Nat.le_refl _) (Nat.le_refl _) rfl dX9_carryOut_60
    · refine lv_iconst (v := 0) hx hb dX9_carryOut_55 (by decide) ?_
      refine lv_goto (tgt := 60) hx hb dX9_carryOut_56 (by decide) ?_
      exact ke_i C hH hr (Nat.le_refl _) (Nat.le_refl _) rfl dX9_carryOut_60
def fX5_giveBack (M : KS) (o1 : Nat) : Option (KS) := if inb (M.1 113 1) 9 then (fX7_copy M o1 (2 + (M.1 113 1).toNatClampNeg)).bind fun M2 => some M2 else none
set_option maxHeartbeats 4000000 in
set_option maxRecDepth 100000 in
theorem kX5_giveBack (l : Launch) (E : KE) (ad : Nat → Nat) (M : KS) (o1 : Nat) (ho1 : o1 < 11) : CT l yX5_giveBack cX5_giveBack 3 none { frames := 2, cells := 0, slots := 0, locals := 43 } SK E ad [.ref (ad 113), .ref (ad (iS o1))] M (QV SK E ad) (fX5_giveBack M o1) := by
  refine CT.ofW (by decide) (Nat.le_of_ble_eq_true rfl) (fun sz p e s m args below meth c C hr hH ls hl => ?_)
  have hx := C.1.1
  have hb := C.1.2.1
  have hl : lv_has ls 3 [(0, .ref (ad 113)), (1, .ref (ad (iS o1)))] := hl
  unfold fX5_giveBack
  refine W_if (fun hi1 => ?_)
  refine W_q (show (fX7_copy M o1 (2 + (M.1 113 1).toNatClampNeg)).bind (fun M2 => some M2) = (fX5_marked M).bind (fun M1 => (fX7_copy M1 o1 (2 + (M.1 113 1).toNatClampNeg)).bind (fun M2 => some M2)) from by unfold fX5_marked; rw [if_pos hi1]; rfl) ?_
  refine lv_aload_n hx hb dX5_giveBack_0 rfl (lv_at hl 0 rfl) ?_
  refine kg_r C hH (kc_V C hH w_3_76 lc_yX5_marked li_yX5_marked oP (kX5_marked l E ad M) (As := []) rfl dX5_giveBack_1 rfl hl.1 (Nat.le_of_ble_eq_true rfl) ⟨Nat.le_of_ble_eq_true rfl, Nat.le_of_ble_eq_true rfl⟩ ⟨Nat.le_of_ble_eq_true rfl, Nat.le_of_ble_eq_true rfl⟩) ⟨rfl, rfl⟩ (fun M1 H locs hH => ?_)
  refine lv_astore_n (lv' := [(2, .ref (ad (iS (2 + (M.1 113 1).toNatClampNeg)))), (0, .ref (ad 113)), (1, .ref (ad (iS o1)))]) hx hb dX5_giveBack_4 rfl hl (by decide) rfl (fun ls hl => ?_)
  refine lv_aload_n hx hb dX5_giveBack_5 rfl (lv_at hl 0 rfl) ?_
  refine lv_ifnull hx hb dX5_giveBack_6 ?_
  refine lv_aload_n hx hb dX5_giveBack_9 rfl (lv_at hl 2 rfl) ?_
  refine lv_aload_n hx hb dX5_giveBack_10 rfl (lv_at hl 0 rfl) ?_
  refine kg_v C hH (kc_V C hH w_3_80 lc_yX7_copy li_yX7_copy (oS (f := o1) ho1) (kX7_copy l E ad M1 o1 ho1 (2 + (M.1 113 1).toNatClampNeg) (bP hi1)) (As := [.ref (ad (iS (2 + (M.1 113 1).toNatClampNeg)))]) rfl dX5_giveBack_11 rfl hl.1 (Nat.le_of_ble_eq_true rfl) ⟨Nat.le_of_ble_eq_true rfl, Nat.le_of_ble_eq_true rfl⟩ ⟨Nat.le_of_ble_eq_true rfl, Nat.le_of_ble_eq_true rfl⟩) ⟨rfl, rfl⟩ (fun M2 H locs hH => ?_)
  exact ke_v C hH hr (Nat.zero_le _) (Nat.zero_le _) rfl dX5_giveBack_14
def fX9_errorPosition_o (M : KS)  : Option (Int32) := some (M.1 121 9)
def fX9_errorPosition (M : KS)  : Int32 := (M.1 121 9)
theorem fX9_errorPosition_s {M : KS}  : fX9_errorPosition_o M = some (fX9_errorPosition M) := by
  unfold fX9_errorPosition_o fX9_errorPosition
  (repeat' split) <;> rfl
set_option maxHeartbeats 4000000 in
set_option maxRecDepth 100000 in
theorem kX9_errorPosition_o (l : Launch) (E : KE) (ad : Nat → Nat) (M : KS)  : CT l yX9_errorPosition cX9_errorPosition 1 (some .int) { frames := 0, cells := 0, slots := 0, locals := 0 } SK E ad [.ref (ad 121)] M (fun sz a => QI SK E ad sz (a, M)) (fX9_errorPosition_o M) := by
  refine CT.ofW (by decide) (Nat.le_of_ble_eq_true rfl) (fun sz p e s m args below meth c C hr hH ls hl => ?_)
  have hx := C.1.1
  have hb := C.1.2.1
  have hl : lv_has ls 1 [(0, .ref (ad 121))] := hl
  unfold fX9_errorPosition_o
  refine lv_aload_n hx hb dX9_errorPosition_0 rfl (lv_at hl 0 rfl) ?_
  refine k_get C hH fd_X9_65 oK (k_int (M := M) (ad := ad) nK9) dX9_errorPosition_1 ?_
  exact ke_i C hH hr (Nat.le_refl _) (Nat.le_refl _) rfl dX9_errorPosition_4
theorem kX9_errorPosition (l : Launch) (E : KE) (ad : Nat → Nat) (M : KS)  : CT l yX9_errorPosition cX9_errorPosition 1 (some .int) { frames := 0, cells := 0, slots := 0, locals := 0 } SK E ad [.ref (ad 121)] M (fun sz (_ : Unit) => QI SK E ad sz (fX9_errorPosition M, M)) (some ()) := CT.pure (kX9_errorPosition_o l E ad M ) fX9_errorPosition_s
def fX1_allRounds_X12 (v4 : Int32) : Option (Int32) := some v4
theorem fX1_allRounds_X12_u {v4 : Int32} : fX1_allRounds_X12 v4 = some v4 := rfl
def fX1_allRounds_L12 (M : KS) (v1 : Int32) (rec12 : (Int32 × Int32) → Option (Int32)) (k12 : (Int32) → Option (Int32)) (x : Int32 × Int32) : Option (Int32) := match x with | (v2, v3) => (if v1 ≤ v3 then k12 v2 else (fX1_roundsOf M v3).bind fun v5 => nm ((v2 + v5)) fun v6 => nm (v3 + 1) fun v7 => rec12 (v6, v7))
theorem fX1_allRounds_L12_u {M : KS} {v1 : Int32} {rec12 : (Int32 × Int32) → Option (Int32)} {k12 : (Int32) → Option (Int32)} {v2 : Int32} {v3 : Int32} : fX1_allRounds_L12 M v1 rec12 k12 (v2, v3) = (if v1 ≤ v3 then k12 v2 else (fX1_roundsOf M v3).bind fun v5 => nm ((v2 + v5)) fun v6 => nm (v3 + 1) fun v7 => rec12 (v6, v7)) := rfl
def fX1_allRounds (M : KS)  : Option (Int32) := (fX3_count M 0).bind fun v1 => lp (fX1_allRounds_L12 M v1) (fX1_allRounds_X12) 1000000 (0, 0)
set_option maxHeartbeats 4000000 in
set_option maxRecDepth 100000 in
theorem kX1_allRounds (l : Launch) (E : KE) (ad : Nat → Nat) (M : KS)  : CT l yX1_allRounds cX1_allRounds 4 (some .int) { frames := 3, cells := 0, slots := 0, locals := 70 } SK E ad [.ref (ad 106)] M (fun sz a => QI SK E ad sz (a, M)) (fX1_allRounds M) := by
  refine CT.ofW (by decide) (Nat.le_of_ble_eq_true rfl) (fun sz p e s m args below meth c C hr hH ls hl => ?_)
  have hx := C.1.1
  have hb := C.1.2.1
  have hl : lv_has ls 4 [(0, .ref (ad 106))] := hl
  unfold fX1_allRounds
  refine lv_iconst (v := 0) hx hb dX1_allRounds_0 (by decide) ?_
  refine lv_istore_n (lv' := [(1, .int 0), (0, .ref (ad 106))]) hx hb dX1_allRounds_1 rfl hl (by decide) rfl (fun ls hl => ?_)
  refine lv_aload_n hx hb dX1_allRounds_2 rfl (lv_at hl 1 rfl) ?_
  refine k_get C hH fd_X1_27 oD (k_ref (M := M) (ad := ad) rD3) dX1_allRounds_3 ?_
  refine kg_io C hH (kc_V C hH w_2_73 lc_yX3_count li_yX3_count (oY (f := 0) (by decide)) (kX3_count l E ad M 0 (by decide)) (As := []) rfl dX1_allRounds_6 rfl hl.1 (Nat.le_of_ble_eq_true rfl) ⟨Nat.le_of_ble_eq_true rfl, Nat.le_of_ble_eq_true rfl⟩ ⟨Nat.le_of_ble_eq_true rfl, Nat.le_of_ble_eq_true rfl⟩) ⟨rfl, rfl⟩ (fun v1 H locs hH => ?_)
  refine lv_istore_n (lv' := [(2, .int v1), (1, .int 0), (0, .ref (ad 106))]) hx hb dX1_allRounds_9 rfl hl (by decide) rfl (fun ls hl => ?_)
  refine lv_iconst (v := 0) hx hb dX1_allRounds_10 (by decide) ?_
  refine lv_istore_n (lv' := [(3, .int 0), (2, .int v1), (1, .int 0), (0, .ref (ad 106))]) hx hb dX1_allRounds_11 rfl hl (by decide) rfl (fun ls hl => ?_)
  refine W_lp (fun (x : Int32 × Int32) H locs => KH SK E ad sz M s.heap H locs) (fun x ls => lv_has ls 4 [(2, .int v1), (0, .ref (ad 106)), (1, .int x.1), (3, .int x.2)]) (fun _ ls => F0 m 12 ls []) (fun (x : Int32) H locs => KH SK E ad sz M s.heap H locs) (fun x ls => lv_has ls 4 [(1, .int x)]) (fun _ ls => F0 m 31 ls []) ?_ ?_ hH (lv_sub hl [1, 3, 2, 0] rfl)
  · intro v4 H locs ls hH hl
    have hH : KH SK E ad sz M s.heap H locs := hH
    have hl : lv_has ls 4 [(1, .int v4)] := hl
    refine W_q fX1_allRounds_X12_u ?_
    refine lv_iload_n hx hb dX1_allRounds_31 rfl (lv_at hl 0 rfl) ?_
    exact ke_i C hH hr (Nat.le_refl _) (Nat.le_refl _) rfl dX1_allRounds_32
  · intro rec12 k12 hrec12 hk12 ⟨v2, v3⟩ H locs ls hH hl
    have hH : KH SK E ad sz M s.heap H locs := hH
    have hl : lv_has ls 4 [(2, .int v1), (0, .ref (ad 106)), (1, .int v2), (3, .int v3)] := hl
    refine W_q fX1_allRounds_L12_u ?_
    refine lv_iload_n hx hb dX1_allRounds_12 rfl (lv_at hl 3 rfl) ?_
    refine lv_iload_n hx hb dX1_allRounds_13 rfl (lv_at hl 0 rfl) ?_
    refine kb_icmp_ge (tgt := 31) hx hb dX1_allRounds_14 (by decide) (fun _ => ?_) (fun _ => ?_)
    · exact hk12 v2 _ _ _ hH (lv_sub hl [2] rfl)
    · refine lv_iload_n hx hb dX1_allRounds_17 rfl (lv_at hl 2 rfl) ?_
      refine lv_aload_n hx hb dX1_allRounds_18 rfl (lv_at hl 1 rfl) ?_
      refine lv_iload_n hx hb dX1_allRounds_19 rfl (lv_at hl 3 rfl) ?_
      refine kg_io C hH (kc_V C hH w_5_123 lc_yX1_roundsOf li_yX1_roundsOf oD (kX1_roundsOf l E ad M v3) (As := [.int v3]) rfl dX1_allRounds_20 rfl hl.1 (Nat.le_of_ble_eq_true rfl) ⟨Nat.le_of_ble_eq_true rfl, Nat.le_of_ble_eq_true rfl⟩ ⟨Nat.le_of_ble_eq_true rfl, Nat.le_of_ble_eq_true rfl⟩) ⟨rfl, rfl⟩ (fun v5 H locs hH => ?_)
      refine lv_iadd hx hb dX1_allRounds_23 ?_
      refine W_nmi (fun v6 => ?_)
      refine lv_istore_n (lv' := [(1, .int v6), (2, .int v1), (0, .ref (ad 106)), (3, .int v3)]) hx hb dX1_allRounds_24 rfl hl (by decide) rfl (fun ls hl => ?_)
      refine W_nm (fun v7 ev7 => ?_)
      refine lv_iinc (v := v7) (lv' := [(3, .int v7), (1, .int v6), (2, .int v1), (0, .ref (ad 106))]) hx hb dX1_allRounds_25 hl (k := 3) rfl (by rw [ev7]; rfl) (by decide) rfl (fun ls hl => ?_)
      refine lv_goto (tgt := 12) hx hb dX1_allRounds_28 (by decide) ?_
      exact hrec12 (v6, v7) _ _ _ hH (lv_sub hl [2, 3, 1, 0] rfl)
def fX1_greatestStage_X4 (v3 : Int32) : Option (Int32) := some v3
theorem fX1_greatestStage_X4_u {v3 : Int32} : fX1_greatestStage_X4 v3 = some v3 := rfl
def fX1_greatestStage_L4 (M : KS) (rec4 : (Int32 × Int32) → Option (Int32)) (k4 : (Int32) → Option (Int32)) (x : Int32 × Int32) : Option (Int32) := match x with | (v1, v2) => (if 216 ≤ v2 then k4 v1 else if inb v2 216 then nm ((jmax v1 (M.1 107 v2.toNatClampNeg))) fun v4 => nm (v2 + 1) fun v5 => rec4 (v4, v5) else none)
theorem fX1_greatestStage_L4_u {M : KS} {rec4 : (Int32 × Int32) → Option (Int32)} {k4 : (Int32) → Option (Int32)} {v1 : Int32} {v2 : Int32} : fX1_greatestStage_L4 M rec4 k4 (v1, v2) = (if 216 ≤ v2 then k4 v1 else if inb v2 216 then nm ((jmax v1 (M.1 107 v2.toNatClampNeg))) fun v4 => nm (v2 + 1) fun v5 => rec4 (v4, v5) else none) := rfl
def fX1_greatestStage (M : KS)  : Option (Int32) := lp (fX1_greatestStage_L4 M) (fX1_greatestStage_X4) 1000000 (0, 0)
set_option maxHeartbeats 4000000 in
set_option maxRecDepth 100000 in
theorem kX1_greatestStage (l : Launch) (E : KE) (ad : Nat → Nat) (M : KS)  : CT l yX1_greatestStage cX1_greatestStage 3 (some .int) { frames := 1, cells := 0, slots := 0, locals := 24 } SK E ad [.ref (ad 106)] M (fun sz a => QI SK E ad sz (a, M)) (fX1_greatestStage M) := by
  refine CT.ofW (by decide) (Nat.le_of_ble_eq_true rfl) (fun sz p e s m args below meth c C hr hH ls hl => ?_)
  have hx := C.1.1
  have hb := C.1.2.1
  have hl : lv_has ls 3 [(0, .ref (ad 106))] := hl
  unfold fX1_greatestStage
  refine lv_iconst (v := 0) hx hb dX1_greatestStage_0 (by decide) ?_
  refine lv_istore_n (lv' := [(1, .int 0), (0, .ref (ad 106))]) hx hb dX1_greatestStage_1 rfl hl (by decide) rfl (fun ls hl => ?_)
  refine lv_iconst (v := 0) hx hb dX1_greatestStage_2 (by decide) ?_
  refine lv_istore_n (lv' := [(2, .int 0), (1, .int 0), (0, .ref (ad 106))]) hx hb dX1_greatestStage_3 rfl hl (by decide) rfl (fun ls hl => ?_)
  refine W_lp (fun (x : Int32 × Int32) H locs => KH SK E ad sz M s.heap H locs) (fun x ls => lv_has ls 3 [(0, .ref (ad 106)), (1, .int x.1), (2, .int x.2)]) (fun _ ls => F0 m 4 ls []) (fun (x : Int32) H locs => KH SK E ad sz M s.heap H locs) (fun x ls => lv_has ls 3 [(1, .int x)]) (fun _ ls => F0 m 28 ls []) ?_ ?_ hH (lv_sub hl [2, 1, 0] rfl)
  · intro v3 H locs ls hH hl
    have hH : KH SK E ad sz M s.heap H locs := hH
    have hl : lv_has ls 3 [(1, .int v3)] := hl
    refine W_q fX1_greatestStage_X4_u ?_
    refine lv_iload_n hx hb dX1_greatestStage_28 rfl (lv_at hl 0 rfl) ?_
    exact ke_i C hH hr (Nat.le_refl _) (Nat.le_refl _) rfl dX1_greatestStage_29
  · intro rec4 k4 hrec4 hk4 ⟨v1, v2⟩ H locs ls hH hl
    have hH : KH SK E ad sz M s.heap H locs := hH
    have hl : lv_has ls 3 [(0, .ref (ad 106)), (1, .int v1), (2, .int v2)] := hl
    refine W_q fX1_greatestStage_L4_u ?_
    refine lv_iload_n hx hb dX1_greatestStage_4 rfl (lv_at hl 2 rfl) ?_
    refine lv_sipush (v := 216) hx hb dX1_greatestStage_5 (by decide) ?_
    refine kb_icmp_ge (tgt := 28) hx hb dX1_greatestStage_8 (by decide) (fun _ => ?_) (fun _ => ?_)
    · exact hk4 v1 _ _ _ hH (lv_sub hl [1] rfl)
    · refine lv_iload_n hx hb dX1_greatestStage_11 rfl (lv_at hl 1 rfl) ?_
      refine lv_aload_n hx hb dX1_greatestStage_12 rfl (lv_at hl 0 rfl) ?_
      refine k_get C hH fd_X1_31 oD (k_ref (M := M) (ad := ad) rD4) dX1_greatestStage_13 ?_
      refine lv_iload_n hx hb dX1_greatestStage_16 rfl (lv_at hl 2 rfl) ?_
      refine k_iald C hH aD4 dX1_greatestStage_17 ?_
      refine k_mmax C w_2_144 hl.1 (Nat.le_of_ble_eq_true rfl) (Nat.le_of_ble_eq_true rfl) ⟨Nat.zero_le _, Nat.zero_le _⟩ dX1_greatestStage_18 ?_
      refine W_nmi (fun v4 => ?_)
      refine lv_istore_n (lv' := [(1, .int v4), (0, .ref (ad 106)), (2, .int v2)]) hx hb dX1_greatestStage_21 rfl hl (by decide) rfl (fun ls hl => ?_)
      refine W_nm (fun v5 ev5 => ?_)
      refine lv_iinc (v := v5) (lv' := [(2, .int v5), (1, .int v4), (0, .ref (ad 106))]) hx hb dX1_greatestStage_22 hl (k := 2) rfl (by rw [ev5]; rfl) (by decide) rfl (fun ls hl => ?_)
      refine lv_goto (tgt := 4) hx hb dX1_greatestStage_25 (by decide) ?_
      exact hrec4 (v4, v5) _ _ _ hH (lv_sub hl [2, 1, 0] rfl)
