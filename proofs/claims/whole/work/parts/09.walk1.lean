def fX9_refuse (M : KS) (a1 : Int32) (a2 : Int32) : Option (Int32 × KS) := nm (kset M 121 10 a1) fun M1 => nm (kset M1 121 11 a2) fun M2 => some (0, M2)
set_option maxHeartbeats 4000000 in
set_option maxRecDepth 100000 in
theorem kX9_refuse (l : Launch) (E : KE) (ad : Nat → Nat) (M : KS) (a1 : Int32) (a2 : Int32) : CT l yX9_refuse cX9_refuse 3 (some .boolean) { frames := 0, cells := 0, slots := 0, locals := 0 } SK E ad [.ref (ad 121), .int a1, .int a2] M (QI SK E ad) (fX9_refuse M a1 a2) := by
  refine CT.ofW (by decide) (Nat.le_of_ble_eq_true rfl) (fun sz p e s m args below meth c C hr hH ls hl => ?_)
  have hx := C.1.1
  have hb := C.1.2.1
  have hl : lv_has ls 3 [(0, .ref (ad 121)), (1, .int a1), (2, .int a2)] := hl
  unfold fX9_refuse
  refine lv_aload_n hx hb dX9_refuse_0 rfl (lv_at hl 0 rfl) ?_
  refine lv_iload_n hx hb dX9_refuse_1 rfl (lv_at hl 1 rfl) ?_
  refine k_put1 C hH fd_X9_69 fw_X9_10 oK nK10 rfl rfl dX9_refuse_2 (fun M1 H locs hH => ?_)
  refine lv_aload_n hx hb dX9_refuse_5 rfl (lv_at hl 0 rfl) ?_
  refine lv_iload_n hx hb dX9_refuse_6 rfl (lv_at hl 2 rfl) ?_
  refine k_put1 C hH fd_X9_72 fw_X9_11 oK nK11 rfl rfl dX9_refuse_7 (fun M2 H locs hH => ?_)
  refine lv_iconst (v := 0) hx hb dX9_refuse_10 (by decide) ?_
  exact ke_z C hH hr (Nat.le_refl _) (Nat.le_refl _) rfl (Or.inl rfl) dX9_refuse_11
def fX2_put (M : KS) (o0 : Nat) (a1 : Int32) : Option (KS) := (if a1 < 0 then some M else (if a1 < 216 then if inb (a1 / 6) 36 then if inb (a1 / 6) 36 then nm (kset M (iFt o0) (a1 / 6).toNatClampNeg ((M.1 (iFt o0) (a1 / 6).toNatClampNeg) ||| (jshl 1 (jrem a1 6)))) fun M1 => if inb (((a1 / 36) * 6) + (jrem a1 6)) 36 then if inb (((a1 / 36) * 6) + (jrem a1 6)) 36 then nm (kset M1 (iFf o0) (((a1 / 36) * 6) + (jrem a1 6)).toNatClampNeg ((M1.1 (iFf o0) (((a1 / 36) * 6) + (jrem a1 6)).toNatClampNeg) ||| (jshl 1 (jrem (a1 / 6) 6)))) fun M2 => some M2 else none else none else none else none else some M))
set_option maxHeartbeats 4000000 in
set_option maxRecDepth 100000 in
theorem kX2_put (l : Launch) (E : KE) (ad : Nat → Nat) (M : KS) (o0 : Nat) (ho0 : o0 < 15) (a1 : Int32) : CT l yX2_put cX2_put 2 none { frames := 0, cells := 0, slots := 0, locals := 0 } SK E ad [.ref (ad (iF o0)), .int a1] M (QV SK E ad) (fX2_put M o0 a1) := by
  refine CT.ofW (by decide) (Nat.le_of_ble_eq_true rfl) (fun sz p e s m args below meth c C hr hH ls hl => ?_)
  have hx := C.1.1
  have hb := C.1.2.1
  have hl : lv_has ls 2 [(0, .ref (ad (iF o0))), (1, .int a1)] := hl
  unfold fX2_put
  refine lv_iload_n hx hb dX2_put_0 rfl (lv_at hl 1 rfl) ?_
  refine kb_if_lt (tgt := 11) hx hb dX2_put_1 (by decide) (fun _ => ?_) (fun _ => ?_)
  · exact ke_v C hH hr (Nat.le_refl _) (Nat.le_refl _) rfl dX2_put_11
  · refine lv_iload_n hx hb dX2_put_4 rfl (lv_at hl 1 rfl) ?_
    refine lv_sipush (v := 216) hx hb dX2_put_5 (by decide) ?_
    refine kb_icmp_lt (tgt := 12) hx hb dX2_put_8 (by decide) (fun _ => ?_) (fun _ => ?_)
    · refine lv_aload_n hx hb dX2_put_12 rfl (lv_at hl 0 rfl) ?_
      refine k_get C hH fd_X2_9 (oF (f := o0) ho0) (k_ref (M := M) (ad := ad) (rF0 (f := o0) ho0)) dX2_put_13 ?_
      refine lv_iload_n hx hb dX2_put_16 rfl (lv_at hl 1 rfl) ?_
      refine lv_bipush (v := 6) hx hb dX2_put_17 (by decide) ?_
      refine lv_idiv hx hb dX2_put_19 (by decide) ?_
      refine lv_dup2_11 hx hb dX2_put_20 rfl rfl ?_
      refine k_iald C hH (aF0 (f := o0) ho0) dX2_put_21 ?_
      refine lv_iconst (v := 1) hx hb dX2_put_22 (by decide) ?_
      refine lv_iload_n hx hb dX2_put_23 rfl (lv_at hl 1 rfl) ?_
      refine lv_bipush (v := 6) hx hb dX2_put_24 (by decide) ?_
      refine k_irem hx hb dX2_put_26 (by decide) ?_
      refine k_ishl hx hb dX2_put_27 ?_
      refine lv_ior hx hb dX2_put_28 ?_
      refine k_iast C hH (aF0 (f := o0) ho0) dX2_put_29 (fun M1 H locs hH => ?_)
      refine lv_aload_n hx hb dX2_put_30 rfl (lv_at hl 0 rfl) ?_
      refine k_get C hH fd_X2_15 (oF (f := o0) ho0) (k_ref (M := M1) (ad := ad) (rF1 (f := o0) ho0)) dX2_put_31 ?_
      refine lv_iload_n hx hb dX2_put_34 rfl (lv_at hl 1 rfl) ?_
      refine lv_bipush (v := 36) hx hb dX2_put_35 (by decide) ?_
      refine lv_idiv hx hb dX2_put_37 (by decide) ?_
      refine lv_bipush (v := 6) hx hb dX2_put_38 (by decide) ?_
      refine lv_imul hx hb dX2_put_40 ?_
      refine lv_iload_n hx hb dX2_put_41 rfl (lv_at hl 1 rfl) ?_
      refine lv_bipush (v := 6) hx hb dX2_put_42 (by decide) ?_
      refine k_irem hx hb dX2_put_44 (by decide) ?_
      refine lv_iadd hx hb dX2_put_45 ?_
      refine lv_dup2_11 hx hb dX2_put_46 rfl rfl ?_
      refine k_iald C hH (aF1 (f := o0) ho0) dX2_put_47 ?_
      refine lv_iconst (v := 1) hx hb dX2_put_48 (by decide) ?_
      refine lv_iload_n hx hb dX2_put_49 rfl (lv_at hl 1 rfl) ?_
      refine lv_bipush (v := 6) hx hb dX2_put_50 (by decide) ?_
      refine lv_idiv hx hb dX2_put_52 (by decide) ?_
      refine lv_bipush (v := 6) hx hb dX2_put_53 (by decide) ?_
      refine k_irem hx hb dX2_put_55 (by decide) ?_
      refine k_ishl hx hb dX2_put_56 ?_
      refine lv_ior hx hb dX2_put_57 ?_
      refine k_iast C hH (aF1 (f := o0) ho0) dX2_put_58 (fun M2 H locs hH => ?_)
      exact ke_v C hH hr (Nat.le_refl _) (Nat.le_refl _) rfl dX2_put_59
    · exact ke_v C hH hr (Nat.le_refl _) (Nat.le_refl _) rfl dX2_put_11
def fX1_outdate (M : KS)  : Option (KS) := nm (kset M 106 9 0) fun M1 => some M1
set_option maxHeartbeats 4000000 in
set_option maxRecDepth 100000 in
theorem kX1_outdate (l : Launch) (E : KE) (ad : Nat → Nat) (M : KS)  : CT l yX1_outdate cX1_outdate 1 none { frames := 0, cells := 0, slots := 0, locals := 0 } SK E ad [.ref (ad 106)] M (QV SK E ad) (fX1_outdate M) := by
  refine CT.ofW (by decide) (Nat.le_of_ble_eq_true rfl) (fun sz p e s m args below meth c C hr hH ls hl => ?_)
  have hx := C.1.1
  have hb := C.1.2.1
  have hl : lv_has ls 1 [(0, .ref (ad 106))] := hl
  unfold fX1_outdate
  refine lv_aload_n hx hb dX1_outdate_0 rfl (lv_at hl 0 rfl) ?_
  refine lv_iconst (v := 0) hx hb dX1_outdate_1 (by decide) ?_
  refine k_put1 C hH fd_X1_48 fw_X1_9 oD nD9 rfl rfl dX1_outdate_2 (fun M1 H locs hH => ?_)
  exact ke_v C hH hr (Nat.le_refl _) (Nat.le_refl _) rfl dX1_outdate_5
def fX9_addFact (M : KS) (a1 : Int32) : Option (Int32 × KS) := (fX2_has M 0 a1).bind fun v1 => (if v1 = 0 then (fX2_put M 0 a1).bind fun M2 => (fX1_outdate M2).bind fun M3 => some (1, M3) else (fX2_sizeOf M 0 (a1 / 36)).bind fun v4 => bd2 (fX9_refuse M 2 v4) fun v6 M5 => if isB v6 then some (v6, M5) else none)
set_option maxHeartbeats 4000000 in
set_option maxRecDepth 100000 in
theorem kX9_addFact (l : Launch) (E : KE) (ad : Nat → Nat) (M : KS) (a1 : Int32) : CT l yX9_addFact cX9_addFact 2 (some .boolean) { frames := 2, cells := 0, slots := 0, locals := 46 } SK E ad [.ref (ad 121), .int a1] M (QI SK E ad) (fX9_addFact M a1) := by
  refine CT.ofW (by decide) (Nat.le_of_ble_eq_true rfl) (fun sz p e s m args below meth c C hr hH ls hl => ?_)
  have hx := C.1.1
  have hb := C.1.2.1
  have hl : lv_has ls 2 [(0, .ref (ad 121)), (1, .int a1)] := hl
  unfold fX9_addFact
  refine lv_aload_n hx hb dX9_addFact_0 rfl (lv_at hl 0 rfl) ?_
  refine k_get C hH fd_X9_10 oK (k_ref (M := M) (ad := ad) rK0) dX9_addFact_1 ?_
  refine k_getN C hH fn_X9_124 (oS (f := 0) (by decide)) (k_ref (M := M) (ad := ad) (rS0 (f := 0) (by decide))) dX9_addFact_4 ?_
  refine lv_iload_n hx hb dX9_addFact_7 rfl (lv_at hl 1 rfl) ?_
  refine kg_io C hH (kc_V C hH w_3_86 lc_yX2_has li_yX2_has (oF (f := 0) (by decide)) (kX2_has l E ad M 0 (by decide) a1) (As := [.int a1]) rfl dX9_addFact_8 rfl hl.1 (Nat.le_of_ble_eq_true rfl) ⟨Nat.le_of_ble_eq_true rfl, Nat.le_of_ble_eq_true rfl⟩ ⟨Nat.le_of_ble_eq_true rfl, Nat.le_of_ble_eq_true rfl⟩) ⟨rfl, rfl⟩ (fun v1 H locs hH => ?_)
  refine kb_if_eq (tgt := 34) hx hb dX9_addFact_11 (by decide) (fun _ => ?_) (fun _ => ?_)
  · refine lv_aload_n hx hb dX9_addFact_34 rfl (lv_at hl 0 rfl) ?_
    refine k_get C hH fd_X9_10 oK (k_ref (M := M) (ad := ad) rK0) dX9_addFact_35 ?_
    refine k_getN C hH fn_X9_124 (oS (f := 0) (by decide)) (k_ref (M := M) (ad := ad) (rS0 (f := 0) (by decide))) dX9_addFact_38 ?_
    refine lv_iload_n hx hb dX9_addFact_41 rfl (lv_at hl 1 rfl) ?_
    refine kg_v C hH (kc_V C hH w_3_96 lc_yX2_put li_yX2_put (oF (f := 0) (by decide)) (kX2_put l E ad M 0 (by decide) a1) (As := [.int a1]) rfl dX9_addFact_42 rfl hl.1 (Nat.le_of_ble_eq_true rfl) ⟨Nat.le_of_ble_eq_true rfl, Nat.le_of_ble_eq_true rfl⟩ ⟨Nat.le_of_ble_eq_true rfl, Nat.le_of_ble_eq_true rfl⟩) ⟨rfl, rfl⟩ (fun M2 H locs hH => ?_)
    refine lv_aload_n hx hb dX9_addFact_45 rfl (lv_at hl 0 rfl) ?_
    refine k_get C hH fd_X9_29 oK (k_ref (M := M2) (ad := ad) rK3) dX9_addFact_46 ?_
    refine kg_v C hH (kc_V C hH w_3_97 lc_yX1_outdate li_yX1_outdate oD (kX1_outdate l E ad M2) (As := []) rfl dX9_addFact_49 rfl hl.1 (Nat.le_of_ble_eq_true rfl) ⟨Nat.le_of_ble_eq_true rfl, Nat.le_of_ble_eq_true rfl⟩ ⟨Nat.le_of_ble_eq_true rfl, Nat.le_of_ble_eq_true rfl⟩) ⟨rfl, rfl⟩ (fun M3 H locs hH => ?_)
    refine lv_iconst (v := 1) hx hb dX9_addFact_52 (by decide) ?_
    exact ke_z C hH hr (Nat.le_refl _) (Nat.le_refl _) rfl (Or.inr rfl) dX9_addFact_53
  · refine lv_aload_n hx hb dX9_addFact_14 rfl (lv_at hl 0 rfl) ?_
    refine lv_iconst (v := 2) hx hb dX9_addFact_15 (by decide) ?_
    refine lv_aload_n hx hb dX9_addFact_16 rfl (lv_at hl 0 rfl) ?_
    refine k_get C hH fd_X9_10 oK (k_ref (M := M) (ad := ad) rK0) dX9_addFact_17 ?_
    refine k_getN C hH fn_X9_124 (oS (f := 0) (by decide)) (k_ref (M := M) (ad := ad) (rS0 (f := 0) (by decide))) dX9_addFact_20 ?_
    refine lv_iload_n hx hb dX9_addFact_23 rfl (lv_at hl 1 rfl) ?_
    refine lv_bipush (v := 36) hx hb dX9_addFact_24 (by decide) ?_
    refine lv_idiv hx hb dX9_addFact_26 (by decide) ?_
    refine kg_io C hH (kc_V C hH w_3_87 lc_yX2_sizeOf li_yX2_sizeOf (oF (f := 0) (by decide)) (kX2_sizeOf l E ad M 0 (by decide) (a1 / 36)) (As := [.int (a1 / 36)]) rfl dX9_addFact_27 rfl hl.1 (Nat.le_of_ble_eq_true rfl) ⟨Nat.le_of_ble_eq_true rfl, Nat.le_of_ble_eq_true rfl⟩ ⟨Nat.le_of_ble_eq_true rfl, Nat.le_of_ble_eq_true rfl⟩) ⟨rfl, rfl⟩ (fun v4 H locs hH => ?_)
    refine kg_ib C hH (kc_V C hH w_3_92 lc_yX9_refuse li_yX9_refuse oK (kX9_refuse l E ad M 2 v4) (As := [.int 2, .int v4]) rfl dX9_addFact_30 rfl hl.1 (Nat.le_of_ble_eq_true rfl) ⟨Nat.le_of_ble_eq_true rfl, Nat.le_of_ble_eq_true rfl⟩ ⟨Nat.le_of_ble_eq_true rfl, Nat.le_of_ble_eq_true rfl⟩) ⟨rfl, rfl⟩ (fun v6 M5 H locs hH => ?_)
    exact ke_zg C hH hr (Nat.le_refl _) (Nat.le_refl _) rfl dX9_addFact_33
def fX5_keep_J20_7 (M : KS) (v1 : Int32) : Option (KS) := nm (kset M 113 1 v1) fun M2 => nm (kset M2 113 2 (jmin ((M2.1 113 2) + 1) 8)) fun M3 => some M3
theorem fX5_keep_J20_7_u {M : KS} {v1 : Int32} : fX5_keep_J20_7 M v1 = nm (kset M 113 1 v1) fun M2 => nm (kset M2 113 2 (jmin ((M2.1 113 2) + 1) 8)) fun M3 => some M3 := rfl
def fX5_keep (M : KS)  : Option (KS) := jn (fX5_keep_J20_7 M) (fun K20_7 => (if 8 ≤ (M.1 113 1) then K20_7 0 else K20_7 ((M.1 113 1) + 1)))
set_option maxHeartbeats 4000000 in
set_option maxRecDepth 100000 in
theorem kX5_keep (l : Launch) (E : KE) (ad : Nat → Nat) (M : KS)  : CT l yX5_keep cX5_keep 1 none { frames := 1, cells := 0, slots := 0, locals := 24 } SK E ad [.ref (ad 113)] M (QV SK E ad) (fX5_keep M) := by
  refine CT.ofW (by decide) (Nat.le_of_ble_eq_true rfl) (fun sz p e s m args below meth c C hr hH ls hl => ?_)
  have hx := C.1.1
  have hb := C.1.2.1
  have hl : lv_has ls 1 [(0, .ref (ad 113))] := hl
  unfold fX5_keep
  refine lv_aload_n hx hb dX5_keep_0 rfl (lv_at hl 0 rfl) ?_
  refine lv_aload_n hx hb dX5_keep_1 rfl (lv_at hl 0 rfl) ?_
  refine k_get C hH fd_X5_17 oP (k_int (M := M) (ad := ad) nP1) dX5_keep_2 ?_
  refine lv_bipush (v := 8) hx hb dX5_keep_5 (by decide) ?_
  refine W_jn (fun (x : Int32) H locs => KH SK E ad sz M s.heap H locs) (fun x ls => lv_has ls 1 [(0, .ref (ad 113))]) (fun x ls => F0 m 20 ls [.int x, .ref (ad 113)]) ?_ (fun K20_7 hK20_7 => ?_)
  · intro v1 H locs ls hH hl
    have hH : KH SK E ad sz M s.heap H locs := hH
    have hl : lv_has ls 1 [(0, .ref (ad 113))] := hl
    refine W_q fX5_keep_J20_7_u ?_
    refine k_put1 C hH fd_X5_17 fw_X5_1 oP nP1 rfl rfl dX5_keep_20 (fun M2 H locs hH => ?_)
    refine lv_aload_n hx hb dX5_keep_23 rfl (lv_at hl 0 rfl) ?_
    refine lv_aload_n hx hb dX5_keep_24 rfl (lv_at hl 0 rfl) ?_
    refine k_get C hH fd_X5_21 oP (k_int (M := M2) (ad := ad) nP2) dX5_keep_25 ?_
    refine lv_iconst (v := 1) hx hb dX5_keep_28 (by decide) ?_
    refine lv_iadd hx hb dX5_keep_29 ?_
    refine lv_bipush (v := 8) hx hb dX5_keep_30 (by decide) ?_
    refine k_mmin C w_3_121 hl.1 (Nat.le_of_ble_eq_true rfl) (Nat.le_of_ble_eq_true rfl) ⟨Nat.zero_le _, Nat.zero_le _⟩ dX5_keep_32 ?_
    refine k_put1 C hH fd_X5_21 fw_X5_2 oP nP2 rfl rfl dX5_keep_35 (fun M3 H locs hH => ?_)
    exact ke_v C hH hr (Nat.le_refl _) (Nat.le_refl _) rfl dX5_keep_38
  · refine kb_icmp_ge (tgt := 19) hx hb dX5_keep_7 (by decide) (fun _ => ?_) (fun _ => ?_)
    · refine lv_iconst (v := 0) hx hb dX5_keep_19 (by decide) ?_
      exact hK20_7 0 _ _ _ hH (lv_sub hl [0] rfl)
    · refine lv_aload_n hx hb dX5_keep_10 rfl (lv_at hl 0 rfl) ?_
      refine k_get C hH fd_X5_17 oP (k_int (M := M) (ad := ad) nP1) dX5_keep_11 ?_
      refine lv_iconst (v := 1) hx hb dX5_keep_14 (by decide) ?_
      refine lv_iadd hx hb dX5_keep_15 ?_
      refine lv_goto (tgt := 20) hx hb dX5_keep_16 (by decide) ?_
      exact hK20_7 ((M.1 113 1) + 1) _ _ _ hH (lv_sub hl [0] rfl)
def fX1_start_X34 (M7 : KS) : Option (KS) := some M7
theorem fX1_start_X34_u {M7 : KS} : fX1_start_X34 M7 = some M7 := rfl
def fX1_start_L34 (rec34 : (Int32 × KS) → Option (KS)) (k34 : (KS) → Option (KS)) (x : Int32 × KS) : Option (KS) := match x with | (v5, M6) => (if 216 ≤ v5 then k34 M6 else if inb v5 216 then nm (kset M6 107 v5.toNatClampNeg 0) fun M8 => if inb v5 216 then nm (kset M8 108 v5.toNatClampNeg (-1)) fun M9 => if inb v5 216 then nm (kset M9 109 v5.toNatClampNeg (-1)) fun M10 => if inb v5 216 then nm (kset M10 110 v5.toNatClampNeg 0) fun M11 => if inb ((6 * v5) + (v5 / 36)) 1296 then nm (ksetL M11 ((6 * v5) + (v5 / 36)).toNatClampNeg (jlshl 1 (jrem v5 36))) fun M12 => nm (v5 + 1) fun v13 => rec34 (v13, M12) else none else none else none else none else none)
theorem fX1_start_L34_u {rec34 : (Int32 × KS) → Option (KS)} {k34 : (KS) → Option (KS)} {v5 : Int32} {M6 : KS} : fX1_start_L34 rec34 k34 (v5, M6) = (if 216 ≤ v5 then k34 M6 else if inb v5 216 then nm (kset M6 107 v5.toNatClampNeg 0) fun M8 => if inb v5 216 then nm (kset M8 108 v5.toNatClampNeg (-1)) fun M9 => if inb v5 216 then nm (kset M9 109 v5.toNatClampNeg (-1)) fun M10 => if inb v5 216 then nm (kset M10 110 v5.toNatClampNeg 0) fun M11 => if inb ((6 * v5) + (v5 / 36)) 1296 then nm (ksetL M11 ((6 * v5) + (v5 / 36)).toNatClampNeg (jlshl 1 (jrem v5 36))) fun M12 => nm (v5 + 1) fun v13 => rec34 (v13, M12) else none else none else none else none else none) := rfl
def fX1_start_X10 (M4 : KS) : Option (KS) := lp (fX1_start_L34) (fX1_start_X34) 1000000 (0, M4)
theorem fX1_start_X10_u {M4 : KS} : fX1_start_X10 M4 = lp (fX1_start_L34) (fX1_start_X34) 1000000 (0, M4) := rfl
def fX1_start_L10 (rec10 : (Int32 × KS) → Option (KS)) (k10 : (KS) → Option (KS)) (x : Int32 × KS) : Option (KS) := match x with | (v2, M3) => (if 1296 ≤ v2 then k10 M3 else if inb v2 1296 then nm (ksetL M3 v2.toNatClampNeg 0) fun M14 => nm (v2 + 1) fun v15 => rec10 (v15, M14) else none)
theorem fX1_start_L10_u {rec10 : (Int32 × KS) → Option (KS)} {k10 : (KS) → Option (KS)} {v2 : Int32} {M3 : KS} : fX1_start_L10 rec10 k10 (v2, M3) = (if 1296 ≤ v2 then k10 M3 else if inb v2 1296 then nm (ksetL M3 v2.toNatClampNeg 0) fun M14 => nm (v2 + 1) fun v15 => rec10 (v15, M14) else none) := rfl
def fX1_start (M : KS) (o1 : Nat) : Option (KS) := (fX2_copy M 11 o1).bind fun M1 => lp (fX1_start_L10) (fX1_start_X10) 1000000 (0, M1)
set_option maxHeartbeats 4000000 in
set_option maxRecDepth 100000 in
theorem kX1_start (l : Launch) (E : KE) (ad : Nat → Nat) (M : KS) (o1 : Nat) (ho1 : o1 < 15) : CT l yX1_start cX1_start 3 none { frames := 1, cells := 0, slots := 0, locals := 22 } SK E ad [.ref (ad 106), .ref (ad (iF o1))] M (QV SK E ad) (fX1_start M o1) := by
  refine CT.ofW (by decide) (Nat.le_of_ble_eq_true rfl) (fun sz p e s m args below meth c C hr hH ls hl => ?_)
  have hx := C.1.1
  have hb := C.1.2.1
  have hl : lv_has ls 3 [(0, .ref (ad 106)), (1, .ref (ad (iF o1)))] := hl
  unfold fX1_start
  refine lv_aload_n hx hb dX1_start_0 rfl (lv_at hl 0 rfl) ?_
  refine k_get C hH fd_X1_12 oD (k_ref (M := M) (ad := ad) rD0) dX1_start_1 ?_
  refine lv_aload_n hx hb dX1_start_4 rfl (lv_at hl 1 rfl) ?_
  refine kg_v C hH (kc_V C hH w_2_35 lc_yX2_copy li_yX2_copy (oF (f := 11) (by decide)) (kX2_copy l E ad M 11 (by decide) o1 ho1) (As := [.ref (ad (iF o1))]) rfl dX1_start_5 rfl hl.1 (Nat.le_of_ble_eq_true rfl) ⟨Nat.le_of_ble_eq_true rfl, Nat.le_of_ble_eq_true rfl⟩ ⟨Nat.le_of_ble_eq_true rfl, Nat.le_of_ble_eq_true rfl⟩) ⟨rfl, rfl⟩ (fun M1 H locs hH => ?_)
  refine lv_iconst (v := 0) hx hb dX1_start_8 (by decide) ?_
  refine lv_istore_n (lv' := [(2, .int 0), (0, .ref (ad 106)), (1, .ref (ad (iF o1)))]) hx hb dX1_start_9 rfl hl (by decide) rfl (fun ls hl => ?_)
  refine W_lp (fun (x : Int32 × KS) H locs => KH SK E ad sz x.2 s.heap H locs) (fun x ls => lv_has ls 3 [(0, .ref (ad 106)), (2, .int x.1)]) (fun _ ls => F0 m 10 ls []) (fun (x : KS) H locs => KH SK E ad sz x s.heap H locs) (fun x ls => lv_has ls 3 [(0, .ref (ad 106))]) (fun _ ls => F0 m 32 ls []) ?_ ?_ hH (lv_sub hl [1, 0] rfl)
  · intro M4 H locs ls hH hl
    have hH : KH SK E ad sz M4 s.heap H locs := hH
    have hl : lv_has ls 3 [(0, .ref (ad 106))] := hl
    refine W_q fX1_start_X10_u ?_
    refine lv_iconst (v := 0) hx hb dX1_start_32 (by decide) ?_
    refine lv_istore_n (lv' := [(2, .int 0), (0, .ref (ad 106))]) hx hb dX1_start_33 rfl hl (by decide) rfl (fun ls hl => ?_)
    refine W_lp (fun (x : Int32 × KS) H locs => KH SK E ad sz x.2 s.heap H locs) (fun x ls => lv_has ls 3 [(0, .ref (ad 106)), (2, .int x.1)]) (fun _ ls => F0 m 34 ls []) (fun (x : KS) H locs => KH SK E ad sz x s.heap H locs) (fun x ls => lv_has ls 3 []) (fun _ ls => F0 m 95 ls []) ?_ ?_ hH (lv_sub hl [1, 0] rfl)
    · intro M7 H locs ls hH hl
      have hH : KH SK E ad sz M7 s.heap H locs := hH
      have hl : lv_has ls 3 [] := hl
      refine W_q fX1_start_X34_u ?_
      exact ke_v C hH hr (Nat.le_refl _) (Nat.le_refl _) rfl dX1_start_95
    · intro rec34 k34 hrec34 hk34 ⟨v5, M6⟩ H locs ls hH hl
      have hH : KH SK E ad sz M6 s.heap H locs := hH
      have hl : lv_has ls 3 [(0, .ref (ad 106)), (2, .int v5)] := hl
      refine W_q fX1_start_L34_u ?_
      refine lv_iload_n hx hb dX1_start_34 rfl (lv_at hl 1 rfl) ?_
      refine lv_sipush (v := 216) hx hb dX1_start_35 (by decide) ?_
      refine kb_icmp_ge (tgt := 95) hx hb dX1_start_38 (by decide) (fun _ => ?_) (fun _ => ?_)
      · exact hk34 M6 _ _ _ hH (lv_sub hl [] rfl)
      · refine lv_aload_n hx hb dX1_start_41 rfl (lv_at hl 0 rfl) ?_
        refine k_get C hH fd_X1_31 oD (k_ref (M := M6) (ad := ad) rD4) dX1_start_42 ?_
        refine lv_iload_n hx hb dX1_start_45 rfl (lv_at hl 1 rfl) ?_
        refine lv_iconst (v := 0) hx hb dX1_start_46 (by decide) ?_
        refine k_iast C hH aD4 dX1_start_47 (fun M8 H locs hH => ?_)
        refine lv_aload_n hx hb dX1_start_48 rfl (lv_at hl 0 rfl) ?_
        refine k_get C hH fd_X1_35 oD (k_ref (M := M8) (ad := ad) rD5) dX1_start_49 ?_
        refine lv_iload_n hx hb dX1_start_52 rfl (lv_at hl 1 rfl) ?_
        refine lv_iconst (v := (-1)) hx hb dX1_start_53 (by decide) ?_
        refine k_iast C hH aD5 dX1_start_54 (fun M9 H locs hH => ?_)
        refine lv_aload_n hx hb dX1_start_55 rfl (lv_at hl 0 rfl) ?_
        refine k_get C hH fd_X1_38 oD (k_ref (M := M9) (ad := ad) rD6) dX1_start_56 ?_
        refine lv_iload_n hx hb dX1_start_59 rfl (lv_at hl 1 rfl) ?_
        refine lv_iconst (v := (-1)) hx hb dX1_start_60 (by decide) ?_
        refine k_iast C hH aD6 dX1_start_61 (fun M10 H locs hH => ?_)
        refine lv_aload_n hx hb dX1_start_62 rfl (lv_at hl 0 rfl) ?_
        refine k_get C hH fd_X1_41 oD (k_ref (M := M10) (ad := ad) rD7) dX1_start_63 ?_
        refine lv_iload_n hx hb dX1_start_66 rfl (lv_at hl 1 rfl) ?_
        refine lv_iconst (v := 0) hx hb dX1_start_67 (by decide) ?_
        refine k_iast C hH aD7 dX1_start_68 (fun M11 H locs hH => ?_)
        refine lv_aload_n hx hb dX1_start_69 rfl (lv_at hl 0 rfl) ?_
        refine k_get C hH fd_X1_44 oD (k_ref (M := M11) (ad := ad) rD8) dX1_start_70 ?_
        refine lv_bipush (v := 6) hx hb dX1_start_73 (by decide) ?_
        refine lv_iload_n hx hb dX1_start_75 rfl (lv_at hl 1 rfl) ?_
        refine lv_imul hx hb dX1_start_76 ?_
        refine lv_iload_n hx hb dX1_start_77 rfl (lv_at hl 1 rfl) ?_
        refine lv_bipush (v := 36) hx hb dX1_start_78 (by decide) ?_
        refine lv_idiv hx hb dX1_start_80 (by decide) ?_
        refine lv_iadd hx hb dX1_start_81 ?_
        refine lv_lconst (v := 1) hx hb dX1_start_82 (by decide) ?_
        refine lv_iload_n hx hb dX1_start_83 rfl (lv_at hl 1 rfl) ?_
        refine lv_bipush (v := 36) hx hb dX1_start_84 (by decide) ?_
        refine k_irem hx hb dX1_start_86 (by decide) ?_
        refine lv_lshl (v := (jlshl 1 (jrem v5 36))) hx hb dX1_start_87 rfl ?_
        refine k_last C hH aD8 uD dX1_start_88 (fun M12 H locs hH => ?_)
        refine W_nm (fun v13 ev13 => ?_)
        refine lv_iinc (v := v13) (lv' := [(2, .int v13), (0, .ref (ad 106))]) hx hb dX1_start_89 hl (k := 1) rfl (by rw [ev13]; rfl) (by decide) rfl (fun ls hl => ?_)
        refine lv_goto (tgt := 34) hx hb dX1_start_92 (by decide) ?_
        exact hrec34 (v13, M12) _ _ _ hH (lv_sub hl [1, 0] rfl)
  · intro rec10 k10 hrec10 hk10 ⟨v2, M3⟩ H locs ls hH hl
    have hH : KH SK E ad sz M3 s.heap H locs := hH
    have hl : lv_has ls 3 [(0, .ref (ad 106)), (2, .int v2)] := hl
    refine W_q fX1_start_L10_u ?_
    refine lv_iload_n hx hb dX1_start_10 rfl (lv_at hl 1 rfl) ?_
    refine lv_aload_n hx hb dX1_start_11 rfl (lv_at hl 0 rfl) ?_
    refine k_get C hH fd_X1_44 oD (k_ref (M := M3) (ad := ad) rD8) dX1_start_12 ?_
    refine k_llen C hH aD8 (v := 1296) rfl dX1_start_15 ?_
    refine kb_icmp_ge (tgt := 32) hx hb dX1_start_16 (by decide) (fun _ => ?_) (fun _ => ?_)
    · exact hk10 M3 _ _ _ hH (lv_sub hl [0] rfl)
    · refine lv_aload_n hx hb dX1_start_19 rfl (lv_at hl 0 rfl) ?_
      refine k_get C hH fd_X1_44 oD (k_ref (M := M3) (ad := ad) rD8) dX1_start_20 ?_
      refine lv_iload_n hx hb dX1_start_23 rfl (lv_at hl 1 rfl) ?_
      refine lv_lconst (v := 0) hx hb dX1_start_24 (by decide) ?_
      refine k_last C hH aD8 uD dX1_start_25 (fun M14 H locs hH => ?_)
      refine W_nm (fun v15 ev15 => ?_)
      refine lv_iinc (v := v15) (lv' := [(2, .int v15), (0, .ref (ad 106))]) hx hb dX1_start_26 hl (k := 1) rfl (by rw [ev15]; rfl) (by decide) rfl (fun ls hl => ?_)
      refine lv_goto (tgt := 10) hx hb dX1_start_29 (by decide) ?_
      exact hrec10 (v15, M14) _ _ _ hH (lv_sub hl [1, 0] rfl)
def fX6_head (M : KS) (o0 : Nat) (a1 : Int32) : Option (Int32) := (if a1 < 0 then some 0 else (if 11 ≤ a1 then some 0 else if inb a1 11 then some (M.1 (iRh o0) a1.toNatClampNeg) else none))
set_option maxHeartbeats 4000000 in
set_option maxRecDepth 100000 in
theorem kX6_head (l : Launch) (E : KE) (ad : Nat → Nat) (M : KS) (o0 : Nat) (ho0 : o0 < 11) (a1 : Int32) : CT l yX6_head cX6_head 2 (some .int) { frames := 0, cells := 0, slots := 0, locals := 0 } SK E ad [.ref (ad (iR o0)), .int a1] M (fun sz a => QI SK E ad sz (a, M)) (fX6_head M o0 a1) := by
  refine CT.ofW (by decide) (Nat.le_of_ble_eq_true rfl) (fun sz p e s m args below meth c C hr hH ls hl => ?_)
  have hx := C.1.1
  have hb := C.1.2.1
  have hl : lv_has ls 2 [(0, .ref (ad (iR o0))), (1, .int a1)] := hl
  unfold fX6_head
  refine lv_iload_n hx hb dX6_head_0 rfl (lv_at hl 1 rfl) ?_
  refine kb_if_lt (tgt := 22) hx hb dX6_head_1 (by decide) (fun _ => ?_) (fun _ => ?_)
  · refine lv_iconst (v := 0) hx hb dX6_head_22 (by decide) ?_
    exact ke_i C hH hr (Nat.le_refl _) (Nat.le_refl _) rfl dX6_head_23
  · refine lv_iload_n hx hb dX6_head_4 rfl (lv_at hl 1 rfl) ?_
    refine lv_aload_n hx hb dX6_head_5 rfl (lv_at hl 0 rfl) ?_
    refine k_get C hH fd_X6_9 (oR (f := o0) ho0) (k_ref (M := M) (ad := ad) (rR0 (f := o0) ho0)) dX6_head_6 ?_
    refine k_ilen C hH (aR0 (f := o0) ho0) (v := 11) rfl dX6_head_9 ?_
    refine kb_icmp_ge (tgt := 22) hx hb dX6_head_10 (by decide) (fun _ => ?_) (fun _ => ?_)
    · refine lv_iconst (v := 0) hx hb dX6_head_22 (by decide) ?_
      exact ke_i C hH hr (Nat.le_refl _) (Nat.le_refl _) rfl dX6_head_23
    · refine lv_aload_n hx hb dX6_head_13 rfl (lv_at hl 0 rfl) ?_
      refine k_get C hH fd_X6_9 (oR (f := o0) ho0) (k_ref (M := M) (ad := ad) (rR0 (f := o0) ho0)) dX6_head_14 ?_
      refine lv_iload_n hx hb dX6_head_17 rfl (lv_at hl 1 rfl) ?_
      refine k_iald C hH (aR0 (f := o0) ho0) dX6_head_18 ?_
      refine lv_goto (tgt := 23) hx hb dX6_head_19 (by decide) ?_
      exact ke_i C hH hr (Nat.le_refl _) (Nat.le_refl _) rfl dX6_head_23
def fX6_code (M : KS) (o0 : Nat) (a1 : Int32) (a2 : Int32) : Option (Int32) := (if a1 < 0 then some 0 else (if 11 ≤ a1 then some 0 else (if a2 < 0 then some 0 else (if a2 < 3 then if inb ((3 * a1) + a2) 33 then some (M.1 (iRc o0) ((3 * a1) + a2).toNatClampNeg) else none else some 0))))
set_option maxHeartbeats 4000000 in
set_option maxRecDepth 100000 in
theorem kX6_code (l : Launch) (E : KE) (ad : Nat → Nat) (M : KS) (o0 : Nat) (ho0 : o0 < 11) (a1 : Int32) (a2 : Int32) : CT l yX6_code cX6_code 3 (some .int) { frames := 0, cells := 0, slots := 0, locals := 0 } SK E ad [.ref (ad (iR o0)), .int a1, .int a2] M (fun sz a => QI SK E ad sz (a, M)) (fX6_code M o0 a1 a2) := by
  refine CT.ofW (by decide) (Nat.le_of_ble_eq_true rfl) (fun sz p e s m args below meth c C hr hH ls hl => ?_)
  have hx := C.1.1
  have hb := C.1.2.1
  have hl : lv_has ls 3 [(0, .ref (ad (iR o0))), (1, .int a1), (2, .int a2)] := hl
  unfold fX6_code
  refine lv_iload_n hx hb dX6_code_0 rfl (lv_at hl 1 rfl) ?_
  refine kb_if_lt (tgt := 22) hx hb dX6_code_1 (by decide) (fun _ => ?_) (fun _ => ?_)
  · refine lv_iconst (v := 0) hx hb dX6_code_22 (by decide) ?_
    exact ke_i C hH hr (Nat.le_refl _) (Nat.le_refl _) rfl dX6_code_23
  · refine lv_iload_n hx hb dX6_code_4 rfl (lv_at hl 1 rfl) ?_
    refine lv_aload_n hx hb dX6_code_5 rfl (lv_at hl 0 rfl) ?_
    refine k_get C hH fd_X6_9 (oR (f := o0) ho0) (k_ref (M := M) (ad := ad) (rR0 (f := o0) ho0)) dX6_code_6 ?_
    refine k_ilen C hH (aR0 (f := o0) ho0) (v := 11) rfl dX6_code_9 ?_
    refine kb_icmp_ge (tgt := 22) hx hb dX6_code_10 (by decide) (fun _ => ?_) (fun _ => ?_)
    · refine lv_iconst (v := 0) hx hb dX6_code_22 (by decide) ?_
      exact ke_i C hH hr (Nat.le_refl _) (Nat.le_refl _) rfl dX6_code_23
    · refine lv_iload_n hx hb dX6_code_13 rfl (lv_at hl 2 rfl) ?_
      refine kb_if_lt (tgt := 22) hx hb dX6_code_14 (by decide) (fun _ => ?_) (fun _ => ?_)
      · refine lv_iconst (v := 0) hx hb dX6_code_22 (by decide) ?_
        exact ke_i C hH hr (Nat.le_refl _) (Nat.le_refl _) rfl dX6_code_23
      · refine lv_iload_n hx hb dX6_code_17 rfl (lv_at hl 2 rfl) ?_
        refine lv_iconst (v := 3) hx hb dX6_code_18 (by decide) ?_
        refine kb_icmp_lt (tgt := 24) hx hb dX6_code_19 (by decide) (fun _ => ?_) (fun _ => ?_)
        · refine lv_aload_n hx hb dX6_code_24 rfl (lv_at hl 0 rfl) ?_
          refine k_get C hH fd_X6_15 (oR (f := o0) ho0) (k_ref (M := M) (ad := ad) (rR1 (f := o0) ho0)) dX6_code_25 ?_
          refine lv_iconst (v := 3) hx hb dX6_code_28 (by decide) ?_
          refine lv_iload_n hx hb dX6_code_29 rfl (lv_at hl 1 rfl) ?_
          refine lv_imul hx hb dX6_code_30 ?_
          refine lv_iload_n hx hb dX6_code_31 rfl (lv_at hl 2 rfl) ?_
          refine lv_iadd hx hb dX6_code_32 ?_
          refine k_iald C hH (aR1 (f := o0) ho0) dX6_code_33 ?_
          exact ke_i C hH hr (Nat.le_refl _) (Nat.le_refl _) rfl dX6_code_34
        · refine lv_iconst (v := 0) hx hb dX6_code_22 (by decide) ?_
          exact ke_i C hH hr (Nat.le_refl _) (Nat.le_refl _) rfl dX6_code_23
def fX9_relationIn_o (a0 : Int32) : Option (Int32) := (if 0 ≤ a0 then some ((a0 - 1) / 9) else some (((-a0) - 1) / 9))
def fX9_relationIn (a0 : Int32) : Int32 := (if 0 ≤ a0 then ((a0 - 1) / 9) else (((-a0) - 1) / 9))
theorem fX9_relationIn_s {a0 : Int32} : fX9_relationIn_o a0 = some (fX9_relationIn a0) := by
  unfold fX9_relationIn_o fX9_relationIn
  (repeat' split) <;> rfl
set_option maxHeartbeats 4000000 in
set_option maxRecDepth 100000 in
theorem kX9_relationIn_o (l : Launch) (E : KE) (ad : Nat → Nat) (M : KS) (a0 : Int32) : CT l yX9_relationIn cX9_relationIn 1 (some .int) { frames := 0, cells := 0, slots := 0, locals := 0 } SK E ad [.int a0] M (fun sz a => QI SK E ad sz (a, M)) (fX9_relationIn_o a0) := by
  refine CT.ofW (by decide) (Nat.le_of_ble_eq_true rfl) (fun sz p e s m args below meth c C hr hH ls hl => ?_)
  have hx := C.1.1
  have hb := C.1.2.1
  have hl : lv_has ls 1 [(0, .int a0)] := hl
  unfold fX9_relationIn_o
  refine lv_iload_n hx hb dX9_relationIn_0 rfl (lv_at hl 0 rfl) ?_
  refine kb_if_ge (tgt := 9) hx hb dX9_relationIn_1 (by decide) (fun _ => ?_) (fun _ => ?_)
  · refine lv_iload_n hx hb dX9_relationIn_9 rfl (lv_at hl 0 rfl) ?_
    refine lv_iconst (v := 1) hx hb dX9_relationIn_10 (by decide) ?_
    refine lv_isub hx hb dX9_relationIn_11 ?_
    refine lv_bipush (v := 9) hx hb dX9_relationIn_12 (by decide) ?_
    refine lv_idiv hx hb dX9_relationIn_14 (by decide) ?_
    exact ke_i C hH hr (Nat.le_refl _) (Nat.le_refl _) rfl dX9_relationIn_15
  · refine lv_iload_n hx hb dX9_relationIn_4 rfl (lv_at hl 0 rfl) ?_
    refine lv_ineg hx hb dX9_relationIn_5 ?_
    refine lv_goto (tgt := 10) hx hb dX9_relationIn_6 (by decide) ?_
    refine lv_iconst (v := 1) hx hb dX9_relationIn_10 (by decide) ?_
    refine lv_isub hx hb dX9_relationIn_11 ?_
    refine lv_bipush (v := 9) hx hb dX9_relationIn_12 (by decide) ?_
    refine lv_idiv hx hb dX9_relationIn_14 (by decide) ?_
    exact ke_i C hH hr (Nat.le_refl _) (Nat.le_refl _) rfl dX9_relationIn_15
theorem kX9_relationIn (l : Launch) (E : KE) (ad : Nat → Nat) (M : KS) (a0 : Int32) : CT l yX9_relationIn cX9_relationIn 1 (some .int) { frames := 0, cells := 0, slots := 0, locals := 0 } SK E ad [.int a0] M (fun sz (_ : Unit) => QI SK E ad sz (fX9_relationIn a0, M)) (some ()) := CT.pure (kX9_relationIn_o l E ad M a0) fX9_relationIn_s
def fX3_of (M : KS) (o0 : Nat) (a1 : Int32) : Option (Int32) := (if a1 < 0 then some 0 else (if 6 ≤ a1 then some 0 else if inb a1 6 then some (M.1 (iYl o0) a1.toNatClampNeg) else none))
set_option maxHeartbeats 4000000 in
set_option maxRecDepth 100000 in
theorem kX3_of (l : Launch) (E : KE) (ad : Nat → Nat) (M : KS) (o0 : Nat) (ho0 : o0 < 3) (a1 : Int32) : CT l yX3_of cX3_of 2 (some .int) { frames := 0, cells := 0, slots := 0, locals := 0 } SK E ad [.ref (ad (iY o0)), .int a1] M (fun sz a => QI SK E ad sz (a, M)) (fX3_of M o0 a1) := by
  refine CT.ofW (by decide) (Nat.le_of_ble_eq_true rfl) (fun sz p e s m args below meth c C hr hH ls hl => ?_)
  have hx := C.1.1
  have hb := C.1.2.1
  have hl : lv_has ls 2 [(0, .ref (ad (iY o0))), (1, .int a1)] := hl
  unfold fX3_of
  refine lv_iload_n hx hb dX3_of_0 rfl (lv_at hl 1 rfl) ?_
  refine kb_if_lt (tgt := 22) hx hb dX3_of_1 (by decide) (fun _ => ?_) (fun _ => ?_)
  · refine lv_iconst (v := 0) hx hb dX3_of_22 (by decide) ?_
    exact ke_i C hH hr (Nat.le_refl _) (Nat.le_refl _) rfl dX3_of_23
  · refine lv_iload_n hx hb dX3_of_4 rfl (lv_at hl 1 rfl) ?_
    refine lv_aload_n hx hb dX3_of_5 rfl (lv_at hl 0 rfl) ?_
    refine k_get C hH fd_X3_9 (oY (f := o0) ho0) (k_ref (M := M) (ad := ad) (rY0 (f := o0) ho0)) dX3_of_6 ?_
    refine k_ilen C hH (aY0 (f := o0) ho0) (v := 6) rfl dX3_of_9 ?_
    refine kb_icmp_ge (tgt := 22) hx hb dX3_of_10 (by decide) (fun _ => ?_) (fun _ => ?_)
    · refine lv_iconst (v := 0) hx hb dX3_of_22 (by decide) ?_
      exact ke_i C hH hr (Nat.le_refl _) (Nat.le_refl _) rfl dX3_of_23
    · refine lv_aload_n hx hb dX3_of_13 rfl (lv_at hl 0 rfl) ?_
      refine k_get C hH fd_X3_9 (oY (f := o0) ho0) (k_ref (M := M) (ad := ad) (rY0 (f := o0) ho0)) dX3_of_14 ?_
      refine lv_iload_n hx hb dX3_of_17 rfl (lv_at hl 1 rfl) ?_
      refine k_iald C hH (aY0 (f := o0) ho0) dX3_of_18 ?_
      refine lv_goto (tgt := 23) hx hb dX3_of_19 (by decide) ?_
      exact ke_i C hH hr (Nat.le_refl _) (Nat.le_refl _) rfl dX3_of_23
def fX3_raise (M : KS) (o0 : Nat) (a1 : Int32) (a2 : Int32) : Option (KS) := (if a1 < 0 then some M else (if 6 ≤ a1 then some M else if inb a1 6 then nm (kset M (iYl o0) a1.toNatClampNeg a2) fun M1 => some M1 else none))
set_option maxHeartbeats 4000000 in
set_option maxRecDepth 100000 in
theorem kX3_raise (l : Launch) (E : KE) (ad : Nat → Nat) (M : KS) (o0 : Nat) (ho0 : o0 < 3) (a1 : Int32) (a2 : Int32) : CT l yX3_raise cX3_raise 3 none { frames := 0, cells := 0, slots := 0, locals := 0 } SK E ad [.ref (ad (iY o0)), .int a1, .int a2] M (QV SK E ad) (fX3_raise M o0 a1 a2) := by
  refine CT.ofW (by decide) (Nat.le_of_ble_eq_true rfl) (fun sz p e s m args below meth c C hr hH ls hl => ?_)
  have hx := C.1.1
  have hb := C.1.2.1
  have hl : lv_has ls 3 [(0, .ref (ad (iY o0))), (1, .int a1), (2, .int a2)] := hl
  unfold fX3_raise
  refine lv_iload_n hx hb dX3_raise_0 rfl (lv_at hl 1 rfl) ?_
  refine kb_if_lt (tgt := 20) hx hb dX3_raise_1 (by decide) (fun _ => ?_) (fun _ => ?_)
  · exact ke_v C hH hr (Nat.le_refl _) (Nat.le_refl _) rfl dX3_raise_20
  · refine lv_iload_n hx hb dX3_raise_4 rfl (lv_at hl 1 rfl) ?_
    refine lv_aload_n hx hb dX3_raise_5 rfl (lv_at hl 0 rfl) ?_
    refine k_get C hH fd_X3_9 (oY (f := o0) ho0) (k_ref (M := M) (ad := ad) (rY0 (f := o0) ho0)) dX3_raise_6 ?_
    refine k_ilen C hH (aY0 (f := o0) ho0) (v := 6) rfl dX3_raise_9 ?_
    refine kb_icmp_ge (tgt := 20) hx hb dX3_raise_10 (by decide) (fun _ => ?_) (fun _ => ?_)
    · exact ke_v C hH hr (Nat.le_refl _) (Nat.le_refl _) rfl dX3_raise_20
    · refine lv_aload_n hx hb dX3_raise_13 rfl (lv_at hl 0 rfl) ?_
      refine k_get C hH fd_X3_9 (oY (f := o0) ho0) (k_ref (M := M) (ad := ad) (rY0 (f := o0) ho0)) dX3_raise_14 ?_
      refine lv_iload_n hx hb dX3_raise_17 rfl (lv_at hl 1 rfl) ?_
      refine lv_iload_n hx hb dX3_raise_18 rfl (lv_at hl 2 rfl) ?_
      refine k_iast C hH (aY0 (f := o0) ho0) dX3_raise_19 (fun M1 H locs hH => ?_)
      exact ke_v C hH hr (Nat.le_refl _) (Nat.le_refl _) rfl dX3_raise_20
def fX3_lift_X5 (x : Int32 × KS) : Option (Int32 × KS) := match x with | (v4, M5) => if isB v4 then some (v4, M5) else none
theorem fX3_lift_X5_u {v4 : Int32} {M5 : KS} : fX3_lift_X5 (v4, M5) = if isB v4 then some (v4, M5) else none := rfl
def fX3_lift_X22 (v2 : Int32) (rec5 : (Int32 × Int32 × KS) → Option (Int32 × KS)) (x : Int32 × KS) : Option (Int32 × KS) := match x with | (v10, M11) => nm (v2 + 1) fun v12 => rec5 (v10, v12, M11)
theorem fX3_lift_X22_u {v2 : Int32} {rec5 : (Int32 × Int32 × KS) → Option (Int32 × KS)} {v10 : Int32} {M11 : KS} : fX3_lift_X22 v2 rec5 (v10, M11) = nm (v2 + 1) fun v12 => rec5 (v10, v12, M11) := rfl
def fX3_lift_J67_40 (o0 : Nat) (v6 : Int32) (v7 : Int32) (v8 : Int32) (M9 : KS) (rec22 : (Int32 × Int32 × KS) → Option (Int32 × KS)) (v14 : Int32) : Option (Int32 × KS) := (fX3_of M9 o0 v6).bind fun v15 => (if v14 ≤ v15 then nm (v8 + 1) fun v16 => rec22 (v7, v16, M9) else (fX3_raise M9 o0 v6 v14).bind fun M17 => nm (v8 + 1) fun v18 => rec22 (1, v18, M17))
theorem fX3_lift_J67_40_u {o0 : Nat} {v6 : Int32} {v7 : Int32} {v8 : Int32} {M9 : KS} {rec22 : (Int32 × Int32 × KS) → Option (Int32 × KS)} {v14 : Int32} : fX3_lift_J67_40 o0 v6 v7 v8 M9 rec22 v14 = (fX3_of M9 o0 v6).bind fun v15 => (if v14 ≤ v15 then nm (v8 + 1) fun v16 => rec22 (v7, v16, M9) else (fX3_raise M9 o0 v6 v14).bind fun M17 => nm (v8 + 1) fun v18 => rec22 (1, v18, M17)) := rfl
def fX3_lift_L22 (o0 : Nat) (o1 : Nat) (v2 : Int32) (v6 : Int32) (rec22 : (Int32 × Int32 × KS) → Option (Int32 × KS)) (k22 : (Int32 × KS) → Option (Int32 × KS)) (x : Int32 × Int32 × KS) : Option (Int32 × KS) := match x with | (v7, v8, M9) => (if 3 ≤ v8 then k22 (v7, M9) else (fX6_code M9 o1 v2 v8).bind fun v13 => jn (fX3_lift_J67_40 o0 v6 v7 v8 M9 rec22) (fun K67_40 => (if v13 = 0 then K67_40 0 else (fX3_of M9 o0 (fX9_relationIn v13)).bind fun v19 => (if 0 ≤ v13 then K67_40 (v19 + 0) else K67_40 (v19 + 1)))))
theorem fX3_lift_L22_u {o0 : Nat} {o1 : Nat} {v2 : Int32} {v6 : Int32} {rec22 : (Int32 × Int32 × KS) → Option (Int32 × KS)} {k22 : (Int32 × KS) → Option (Int32 × KS)} {v7 : Int32} {v8 : Int32} {M9 : KS} : fX3_lift_L22 o0 o1 v2 v6 rec22 k22 (v7, v8, M9) = (if 3 ≤ v8 then k22 (v7, M9) else (fX6_code M9 o1 v2 v8).bind fun v13 => jn (fX3_lift_J67_40 o0 v6 v7 v8 M9 rec22) (fun K67_40 => (if v13 = 0 then K67_40 0 else (fX3_of M9 o0 (fX9_relationIn v13)).bind fun v19 => (if 0 ≤ v13 then K67_40 (v19 + 0) else K67_40 (v19 + 1))))) := rfl
def fX3_lift_L5 (o0 : Nat) (o1 : Nat) (a2 : Int32) (rec5 : (Int32 × Int32 × KS) → Option (Int32 × KS)) (k5 : (Int32 × KS) → Option (Int32 × KS)) (x : Int32 × Int32 × KS) : Option (Int32 × KS) := match x with | (v1, v2, M3) => (if a2 ≤ v2 then k5 (v1, M3) else (fX6_head M3 o1 v2).bind fun v6 => lp (fX3_lift_L22 o0 o1 v2 v6) (fX3_lift_X22 v2 rec5) 1000000 (v1, 0, M3))
theorem fX3_lift_L5_u {o0 : Nat} {o1 : Nat} {a2 : Int32} {rec5 : (Int32 × Int32 × KS) → Option (Int32 × KS)} {k5 : (Int32 × KS) → Option (Int32 × KS)} {v1 : Int32} {v2 : Int32} {M3 : KS} : fX3_lift_L5 o0 o1 a2 rec5 k5 (v1, v2, M3) = (if a2 ≤ v2 then k5 (v1, M3) else (fX6_head M3 o1 v2).bind fun v6 => lp (fX3_lift_L22 o0 o1 v2 v6) (fX3_lift_X22 v2 rec5) 1000000 (v1, 0, M3)) := rfl
def fX3_lift (M : KS) (o0 : Nat) (o1 : Nat) (a2 : Int32) : Option (Int32 × KS) := lp (fX3_lift_L5 o0 o1 a2) (fX3_lift_X5) 1000000 (0, 0, M)
set_option maxHeartbeats 4000000 in
set_option maxRecDepth 100000 in
theorem kX3_lift (l : Launch) (E : KE) (ad : Nat → Nat) (M : KS) (o0 : Nat) (ho0 : o0 < 3) (o1 : Nat) (ho1 : o1 < 11) (a2 : Int32) : CT l yX3_lift cX3_lift 9 (some .boolean) { frames := 1, cells := 0, slots := 0, locals := 22 } SK E ad [.ref (ad (iY o0)), .ref (ad (iR o1)), .int a2] M (QI SK E ad) (fX3_lift M o0 o1 a2) := by
  refine CT.ofW (by decide) (Nat.le_of_ble_eq_true rfl) (fun sz p e s m args below meth c C hr hH ls hl => ?_)
  have hx := C.1.1
  have hb := C.1.2.1
  have hl : lv_has ls 9 [(0, .ref (ad (iY o0))), (1, .ref (ad (iR o1))), (2, .int a2)] := hl
  unfold fX3_lift
  refine lv_iconst (v := 0) hx hb dX3_lift_0 (by decide) ?_
  refine lv_istore_n (lv' := [(3, .int 0), (0, .ref (ad (iY o0))), (1, .ref (ad (iR o1))), (2, .int a2)]) hx hb dX3_lift_1 rfl hl (by decide) rfl (fun ls hl => ?_)
  refine lv_iconst (v := 0) hx hb dX3_lift_2 (by decide) ?_
  refine lv_istore (lv' := [(4, .int 0), (3, .int 0), (0, .ref (ad (iY o0))), (1, .ref (ad (iR o1))), (2, .int a2)]) hx hb dX3_lift_3 hl (by decide) rfl (fun ls hl => ?_)
  refine W_lp (fun (x : Int32 × Int32 × KS) H locs => KH SK E ad sz x.2.2 s.heap H locs) (fun x ls => lv_has ls 9 [(0, .ref (ad (iY o0))), (1, .ref (ad (iR o1))), (2, .int a2), (3, .int x.1), (4, .int x.2.1)]) (fun _ ls => F0 m 5 ls []) (fun (x : Int32 × KS) H locs => KH SK E ad sz x.2 s.heap H locs) (fun x ls => lv_has ls 9 [(3, .int x.1)]) (fun _ ls => F0 m 102 ls []) ?_ ?_ hH (lv_sub hl [2, 3, 4, 1, 0] rfl)
  · intro ⟨v4, M5⟩ H locs ls hH hl
    have hH : KH SK E ad sz M5 s.heap H locs := hH
    have hl : lv_has ls 9 [(3, .int v4)] := hl
    refine W_q fX3_lift_X5_u ?_
    refine lv_iload_n hx hb dX3_lift_102 rfl (lv_at hl 0 rfl) ?_
    exact ke_zg C hH hr (Nat.le_refl _) (Nat.le_refl _) rfl dX3_lift_103
  · intro rec5 k5 hrec5 hk5 ⟨v1, v2, M3⟩ H locs ls hH hl
    have hH : KH SK E ad sz M3 s.heap H locs := hH
    have hl : lv_has ls 9 [(0, .ref (ad (iY o0))), (1, .ref (ad (iR o1))), (2, .int a2), (3, .int v1), (4, .int v2)] := hl
    refine W_q fX3_lift_L5_u ?_
    refine lv_iload hx hb dX3_lift_5 (lv_at hl 4 rfl) ?_
    refine lv_iload_n hx hb dX3_lift_7 rfl (lv_at hl 2 rfl) ?_
    refine kb_icmp_ge (tgt := 102) hx hb dX3_lift_8 (by decide) (fun _ => ?_) (fun _ => ?_)
    · exact hk5 (v1, M3) _ _ _ hH (lv_sub hl [3] rfl)
    · refine lv_aload_n hx hb dX3_lift_11 rfl (lv_at hl 1 rfl) ?_
      refine lv_iload hx hb dX3_lift_12 (lv_at hl 4 rfl) ?_
      refine kg_io C hH (kc_V C hH w_2_47 lc_yX6_head li_yX6_head (oR (f := o1) ho1) (kX6_head l E ad M3 o1 ho1 v2) (As := [.int v2]) rfl dX3_lift_14 rfl hl.1 (Nat.le_of_ble_eq_true rfl) ⟨Nat.le_of_ble_eq_true rfl, Nat.le_of_ble_eq_true rfl⟩ ⟨Nat.le_of_ble_eq_true rfl, Nat.le_of_ble_eq_true rfl⟩) ⟨rfl, rfl⟩ (fun v6 H locs hH => ?_)
      refine lv_istore (lv' := [(5, .int v6), (0, .ref (ad (iY o0))), (1, .ref (ad (iR o1))), (2, .int a2), (3, .int v1), (4, .int v2)]) hx hb dX3_lift_17 hl (by decide) rfl (fun ls hl => ?_)
      refine lv_iconst (v := 0) hx hb dX3_lift_19 (by decide) ?_
      refine lv_istore (lv' := [(6, .int 0), (5, .int v6), (0, .ref (ad (iY o0))), (1, .ref (ad (iR o1))), (2, .int a2), (3, .int v1), (4, .int v2)]) hx hb dX3_lift_20 hl (by decide) rfl (fun ls hl => ?_)
      refine W_lp (fun (x : Int32 × Int32 × KS) H locs => KH SK E ad sz x.2.2 s.heap H locs) (fun x ls => lv_has ls 9 [(5, .int v6), (0, .ref (ad (iY o0))), (1, .ref (ad (iR o1))), (2, .int a2), (4, .int v2), (3, .int x.1), (6, .int x.2.1)]) (fun _ ls => F0 m 22 ls []) (fun (x : Int32 × KS) H locs => KH SK E ad sz x.2 s.heap H locs) (fun x ls => lv_has ls 9 [(0, .ref (ad (iY o0))), (1, .ref (ad (iR o1))), (2, .int a2), (4, .int v2), (3, .int x.1)]) (fun _ ls => F0 m 96 ls []) ?_ ?_ hH (lv_sub hl [1, 2, 3, 4, 6, 5, 0] rfl)
      · intro ⟨v10, M11⟩ H locs ls hH hl
        have hH : KH SK E ad sz M11 s.heap H locs := hH
        have hl : lv_has ls 9 [(0, .ref (ad (iY o0))), (1, .ref (ad (iR o1))), (2, .int a2), (4, .int v2), (3, .int v10)] := hl
        refine W_q fX3_lift_X22_u ?_
        refine W_nm (fun v12 ev12 => ?_)
        refine lv_iinc (v := v12) (lv' := [(4, .int v12), (0, .ref (ad (iY o0))), (1, .ref (ad (iR o1))), (2, .int a2), (3, .int v10)]) hx hb dX3_lift_96 hl (k := 3) rfl (by rw [ev12]; rfl) (by decide) rfl (fun ls hl => ?_)
        refine lv_goto (tgt := 5) hx hb dX3_lift_99 (by decide) ?_
        exact hrec5 (v10, v12, M11) _ _ _ hH (lv_sub hl [1, 2, 3, 4, 0] rfl)
      · intro rec22 k22 hrec22 hk22 ⟨v7, v8, M9⟩ H locs ls hH hl
        have hH : KH SK E ad sz M9 s.heap H locs := hH
        have hl : lv_has ls 9 [(5, .int v6), (0, .ref (ad (iY o0))), (1, .ref (ad (iR o1))), (2, .int a2), (4, .int v2), (3, .int v7), (6, .int v8)] := hl
        refine W_q fX3_lift_L22_u ?_
        refine lv_iload hx hb dX3_lift_22 (lv_at hl 6 rfl) ?_
        refine lv_iconst (v := 3) hx hb dX3_lift_24 (by decide) ?_
        refine kb_icmp_ge (tgt := 96) hx hb dX3_lift_25 (by decide) (fun _ => ?_) (fun _ => ?_)
        · exact hk22 (v7, M9) _ _ _ hH (lv_sub hl [1, 2, 3, 4, 5] rfl)
        · refine lv_aload_n hx hb dX3_lift_28 rfl (lv_at hl 2 rfl) ?_
          refine lv_iload hx hb dX3_lift_29 (lv_at hl 4 rfl) ?_
          refine lv_iload hx hb dX3_lift_31 (lv_at hl 6 rfl) ?_
          refine kg_io C hH (kc_V C hH w_2_51 lc_yX6_code li_yX6_code (oR (f := o1) ho1) (kX6_code l E ad M9 o1 ho1 v2 v8) (As := [.int v2, .int v8]) rfl dX3_lift_33 rfl hl.1 (Nat.le_of_ble_eq_true rfl) ⟨Nat.le_of_ble_eq_true rfl, Nat.le_of_ble_eq_true rfl⟩ ⟨Nat.le_of_ble_eq_true rfl, Nat.le_of_ble_eq_true rfl⟩) ⟨rfl, rfl⟩ (fun v13 H locs hH => ?_)
          refine lv_istore (lv' := [(7, .int v13), (5, .int v6), (0, .ref (ad (iY o0))), (1, .ref (ad (iR o1))), (2, .int a2), (4, .int v2), (3, .int v7), (6, .int v8)]) hx hb dX3_lift_36 hl (by decide) rfl (fun ls hl => ?_)
          refine lv_iload hx hb dX3_lift_38 (lv_at hl 0 rfl) ?_
          refine W_jn (fun (x : Int32) H locs => KH SK E ad sz M9 s.heap H locs) (fun x ls => lv_has ls 9 [(5, .int v6), (0, .ref (ad (iY o0))), (1, .ref (ad (iR o1))), (2, .int a2), (4, .int v2), (3, .int v7), (6, .int v8)]) (fun x ls => F0 m 67 ls [.int x]) ?_ (fun K67_40 hK67_40 => ?_)
          · intro v14 H locs ls hH hl
            have hH : KH SK E ad sz M9 s.heap H locs := hH
            have hl : lv_has ls 9 [(5, .int v6), (0, .ref (ad (iY o0))), (1, .ref (ad (iR o1))), (2, .int a2), (4, .int v2), (3, .int v7), (6, .int v8)] := hl
            refine W_q fX3_lift_J67_40_u ?_
            refine lv_istore (lv' := [(8, .int v14), (5, .int v6), (0, .ref (ad (iY o0))), (1, .ref (ad (iR o1))), (2, .int a2), (4, .int v2), (3, .int v7), (6, .int v8)]) hx hb dX3_lift_67 hl (by decide) rfl (fun ls hl => ?_)
            refine lv_aload_n hx hb dX3_lift_69 rfl (lv_at hl 2 rfl) ?_
            refine lv_iload hx hb dX3_lift_70 (lv_at hl 1 rfl) ?_
            refine kg_io C hH (kc_V C hH w_2_58 lc_yX3_of li_yX3_of (oY (f := o0) ho0) (kX3_of l E ad M9 o0 ho0 v6) (As := [.int v6]) rfl dX3_lift_72 rfl hl.1 (Nat.le_of_ble_eq_true rfl) ⟨Nat.le_of_ble_eq_true rfl, Nat.le_of_ble_eq_true rfl⟩ ⟨Nat.le_of_ble_eq_true rfl, Nat.le_of_ble_eq_true rfl⟩) ⟨rfl, rfl⟩ (fun v15 H locs hH => ?_)
            refine lv_iload hx hb dX3_lift_75 (lv_at hl 0 rfl) ?_
            refine kb_icmp_ge (tgt := 90) hx hb dX3_lift_77 (by decide) (fun _ => ?_) (fun _ => ?_)
            · refine W_nm (fun v16 ev16 => ?_)
              refine lv_iinc (v := v16) (lv' := [(6, .int v16), (8, .int v14), (5, .int v6), (0, .ref (ad (iY o0))), (1, .ref (ad (iR o1))), (2, .int a2), (4, .int v2), (3, .int v7)]) hx hb dX3_lift_90 hl (k := 7) rfl (by rw [ev16]; rfl) (by decide) rfl (fun ls hl => ?_)
              refine lv_goto (tgt := 22) hx hb dX3_lift_93 (by decide) ?_
              exact hrec22 (v7, v16, M9) _ _ _ hH (lv_sub hl [2, 3, 4, 5, 6, 7, 0] rfl)
            · refine lv_aload_n hx hb dX3_lift_80 rfl (lv_at hl 2 rfl) ?_
              refine lv_iload hx hb dX3_lift_81 (lv_at hl 1 rfl) ?_
              refine lv_iload hx hb dX3_lift_83 (lv_at hl 0 rfl) ?_
              refine kg_v C hH (kc_V C hH w_2_62 lc_yX3_raise li_yX3_raise (oY (f := o0) ho0) (kX3_raise l E ad M9 o0 ho0 v6 v14) (As := [.int v6, .int v14]) rfl dX3_lift_85 rfl hl.1 (Nat.le_of_ble_eq_true rfl) ⟨Nat.le_of_ble_eq_true rfl, Nat.le_of_ble_eq_true rfl⟩ ⟨Nat.le_of_ble_eq_true rfl, Nat.le_of_ble_eq_true rfl⟩) ⟨rfl, rfl⟩ (fun M17 H locs hH => ?_)
              refine lv_iconst (v := 1) hx hb dX3_lift_88 (by decide) ?_
              refine lv_istore_n (lv' := [(3, .int 1), (8, .int v14), (5, .int v6), (0, .ref (ad (iY o0))), (1, .ref (ad (iR o1))), (2, .int a2), (4, .int v2), (6, .int v8)]) hx hb dX3_lift_89 rfl hl (by decide) rfl (fun ls hl => ?_)
              refine W_nm (fun v18 ev18 => ?_)
              refine lv_iinc (v := v18) (lv' := [(6, .int v18), (3, .int 1), (8, .int v14), (5, .int v6), (0, .ref (ad (iY o0))), (1, .ref (ad (iR o1))), (2, .int a2), (4, .int v2)]) hx hb dX3_lift_90 hl (k := 7) rfl (by rw [ev18]; rfl) (by decide) rfl (fun ls hl => ?_)
              refine lv_goto (tgt := 22) hx hb dX3_lift_93 (by decide) ?_
              exact hrec22 (1, v18, M17) _ _ _ hH (lv_sub hl [3, 4, 5, 6, 7, 1, 0] rfl)
          · refine kb_if_ne (tgt := 47) hx hb dX3_lift_40 (by decide) (fun _ => ?_) (fun _ => ?_)
            · refine lv_aload_n hx hb dX3_lift_47 rfl (lv_at hl 2 rfl) ?_
              refine lv_iload hx hb dX3_lift_48 (lv_at hl 0 rfl) ?_
              refine kg_ip C hH (kc_SN C hH w_2_55 w_st_yX9_relationIn lc_yX9_relationIn (kX9_relationIn l E ad M9 v13) (As := [.int v13]) rfl dX3_lift_50 rfl hl.1 (Nat.le_of_ble_eq_true rfl) ⟨Nat.le_of_ble_eq_true rfl, Nat.le_of_ble_eq_true rfl⟩ ⟨Nat.le_of_ble_eq_true rfl, Nat.le_of_ble_eq_true rfl⟩) ⟨rfl, rfl⟩ (fun H locs hH => ?_)
              refine kg_io C hH (kc_V C hH w_2_58 lc_yX3_of li_yX3_of (oY (f := o0) ho0) (kX3_of l E ad M9 o0 ho0 (fX9_relationIn v13)) (As := [.int (fX9_relationIn v13)]) rfl dX3_lift_53 rfl hl.1 (Nat.le_of_ble_eq_true rfl) ⟨Nat.le_of_ble_eq_true rfl, Nat.le_of_ble_eq_true rfl⟩ ⟨Nat.le_of_ble_eq_true rfl, Nat.le_of_ble_eq_true rfl⟩) ⟨rfl, rfl⟩ (fun v19 H locs hH => ?_)
              refine lv_iload hx hb dX3_lift_56 (lv_at hl 0 rfl) ?_
              refine kb_if_ge (tgt := 65) hx hb dX3_lift_58 (by decide) (fun _ => ?_) (fun _ => ?_)
              · refine lv_iconst (v := 0) hx hb dX3_lift_65 (by decide) ?_
                refine lv_iadd hx hb dX3_lift_66 ?_
                exact hK67_40 (v19 + 0) _ _ _ hH (lv_sub hl [1, 2, 3, 4, 5, 6, 7] rfl)
              · refine lv_iconst (v := 1) hx hb dX3_lift_61 (by decide) ?_
                refine lv_goto (tgt := 66) hx hb dX3_lift_62 (by decide) ?_
                refine lv_iadd hx hb dX3_lift_66 ?_
                exact hK67_40 (v19 + 1) _ _ _ hH (lv_sub hl [1, 2, 3, 4, 5, 6, 7] rfl)
            · refine lv_iconst (v := 0) hx hb dX3_lift_43 (by decide) ?_
              refine lv_goto (tgt := 67) hx hb dX3_lift_44 (by decide) ?_
              exact hK67_40 0 _ _ _ hH (lv_sub hl [1, 2, 3, 4, 5, 6, 7] rfl)
def fX3_count_X4 (v3 : Int32) : Option (Int32) := some (v3 + 1)
theorem fX3_count_X4_u {v3 : Int32} : fX3_count_X4 v3 = some (v3 + 1) := rfl
def fX3_count_L4 (M : KS) (o0 : Nat) (rec4 : (Int32 × Int32) → Option (Int32)) (k4 : (Int32) → Option (Int32)) (x : Int32 × Int32) : Option (Int32) := match x with | (v1, v2) => (if 6 ≤ v2 then k4 v1 else if inb v2 6 then nm ((jmax v1 (M.1 (iYl o0) v2.toNatClampNeg))) fun v4 => nm (v2 + 1) fun v5 => rec4 (v4, v5) else none)
theorem fX3_count_L4_u {M : KS} {o0 : Nat} {rec4 : (Int32 × Int32) → Option (Int32)} {k4 : (Int32) → Option (Int32)} {v1 : Int32} {v2 : Int32} : fX3_count_L4 M o0 rec4 k4 (v1, v2) = (if 6 ≤ v2 then k4 v1 else if inb v2 6 then nm ((jmax v1 (M.1 (iYl o0) v2.toNatClampNeg))) fun v4 => nm (v2 + 1) fun v5 => rec4 (v4, v5) else none) := rfl
def fX3_count (M : KS) (o0 : Nat) : Option (Int32) := lp (fX3_count_L4 M o0) (fX3_count_X4) 1000000 (0, 0)
set_option maxHeartbeats 4000000 in
set_option maxRecDepth 100000 in
theorem kX3_count (l : Launch) (E : KE) (ad : Nat → Nat) (M : KS) (o0 : Nat) (ho0 : o0 < 3) : CT l yX3_count cX3_count 3 (some .int) { frames := 1, cells := 0, slots := 0, locals := 24 } SK E ad [.ref (ad (iY o0))] M (fun sz a => QI SK E ad sz (a, M)) (fX3_count M o0) := by
  refine CT.ofW (by decide) (Nat.le_of_ble_eq_true rfl) (fun sz p e s m args below meth c C hr hH ls hl => ?_)
  have hx := C.1.1
  have hb := C.1.2.1
  have hl : lv_has ls 3 [(0, .ref (ad (iY o0)))] := hl
  unfold fX3_count
  refine lv_iconst (v := 0) hx hb dX3_count_0 (by decide) ?_
  refine lv_istore_n (lv' := [(1, .int 0), (0, .ref (ad (iY o0)))]) hx hb dX3_count_1 rfl hl (by decide) rfl (fun ls hl => ?_)
  refine lv_iconst (v := 0) hx hb dX3_count_2 (by decide) ?_
  refine lv_istore_n (lv' := [(2, .int 0), (1, .int 0), (0, .ref (ad (iY o0)))]) hx hb dX3_count_3 rfl hl (by decide) rfl (fun ls hl => ?_)
  refine W_lp (fun (x : Int32 × Int32) H locs => KH SK E ad sz M s.heap H locs) (fun x ls => lv_has ls 3 [(0, .ref (ad (iY o0))), (1, .int x.1), (2, .int x.2)]) (fun _ ls => F0 m 4 ls []) (fun (x : Int32) H locs => KH SK E ad sz M s.heap H locs) (fun x ls => lv_has ls 3 [(1, .int x)]) (fun _ ls => F0 m 30 ls []) ?_ ?_ hH (lv_sub hl [2, 1, 0] rfl)
  · intro v3 H locs ls hH hl
    have hH : KH SK E ad sz M s.heap H locs := hH
    have hl : lv_has ls 3 [(1, .int v3)] := hl
    refine W_q fX3_count_X4_u ?_
    refine lv_iload_n hx hb dX3_count_30 rfl (lv_at hl 0 rfl) ?_
    refine lv_iconst (v := 1) hx hb dX3_count_31 (by decide) ?_
    refine lv_iadd hx hb dX3_count_32 ?_
    exact ke_i C hH hr (Nat.le_refl _) (Nat.le_refl _) rfl dX3_count_33
  · intro rec4 k4 hrec4 hk4 ⟨v1, v2⟩ H locs ls hH hl
    have hH : KH SK E ad sz M s.heap H locs := hH
    have hl : lv_has ls 3 [(0, .ref (ad (iY o0))), (1, .int v1), (2, .int v2)] := hl
    refine W_q fX3_count_L4_u ?_
    refine lv_iload_n hx hb dX3_count_4 rfl (lv_at hl 2 rfl) ?_
    refine lv_aload_n hx hb dX3_count_5 rfl (lv_at hl 0 rfl) ?_
    refine k_get C hH fd_X3_9 (oY (f := o0) ho0) (k_ref (M := M) (ad := ad) (rY0 (f := o0) ho0)) dX3_count_6 ?_
    refine k_ilen C hH (aY0 (f := o0) ho0) (v := 6) rfl dX3_count_9 ?_
    refine kb_icmp_ge (tgt := 30) hx hb dX3_count_10 (by decide) (fun _ => ?_) (fun _ => ?_)
    · exact hk4 v1 _ _ _ hH (lv_sub hl [1] rfl)
    · refine lv_iload_n hx hb dX3_count_13 rfl (lv_at hl 1 rfl) ?_
      refine lv_aload_n hx hb dX3_count_14 rfl (lv_at hl 0 rfl) ?_
      refine k_get C hH fd_X3_9 (oY (f := o0) ho0) (k_ref (M := M) (ad := ad) (rY0 (f := o0) ho0)) dX3_count_15 ?_
      refine lv_iload_n hx hb dX3_count_18 rfl (lv_at hl 2 rfl) ?_
      refine k_iald C hH (aY0 (f := o0) ho0) dX3_count_19 ?_
      refine k_mmax C w_2_70 hl.1 (Nat.le_of_ble_eq_true rfl) (Nat.le_of_ble_eq_true rfl) ⟨Nat.zero_le _, Nat.zero_le _⟩ dX3_count_20 ?_
      refine W_nmi (fun v4 => ?_)
      refine lv_istore_n (lv' := [(1, .int v4), (0, .ref (ad (iY o0))), (2, .int v2)]) hx hb dX3_count_23 rfl hl (by decide) rfl (fun ls hl => ?_)
      refine W_nm (fun v5 ev5 => ?_)
      refine lv_iinc (v := v5) (lv' := [(2, .int v5), (1, .int v4), (0, .ref (ad (iY o0)))]) hx hb dX3_count_24 hl (k := 2) rfl (by rw [ev5]; rfl) (by decide) rfl (fun ls hl => ?_)
      refine lv_goto (tgt := 4) hx hb dX3_count_27 (by decide) ?_
      exact hrec4 (v4, v5) _ _ _ hH (lv_sub hl [2, 1, 0] rfl)
def fX3_arrange_X26 (M6 : KS) : Option (Int32 × KS) := some (0, M6)
theorem fX3_arrange_X26_u {M6 : KS} : fX3_arrange_X26 M6 = some (0, M6) := rfl
def fX3_arrange_L26 (o0 : Nat) (o1 : Nat) (a2 : Int32) (rec26 : (Int32 × KS) → Option (Int32 × KS)) (k26 : (KS) → Option (Int32 × KS)) (x : Int32 × KS) : Option (Int32 × KS) := match x with | (v4, M5) => (if 36 < v4 then k26 M5 else bd2 (fX3_lift M5 o0 o1 a2) fun v8 M7 => (if v8 = 0 then some (1, M7) else (fX3_count M7 o0).bind fun v9 => (if v9 ≤ 6 then nm (v4 + 1) fun v10 => rec26 (v10, M7) else some (0, M7))))
theorem fX3_arrange_L26_u {o0 : Nat} {o1 : Nat} {a2 : Int32} {rec26 : (Int32 × KS) → Option (Int32 × KS)} {k26 : (KS) → Option (Int32 × KS)} {v4 : Int32} {M5 : KS} : fX3_arrange_L26 o0 o1 a2 rec26 k26 (v4, M5) = (if 36 < v4 then k26 M5 else bd2 (fX3_lift M5 o0 o1 a2) fun v8 M7 => (if v8 = 0 then some (1, M7) else (fX3_count M7 o0).bind fun v9 => (if v9 ≤ 6 then nm (v4 + 1) fun v10 => rec26 (v10, M7) else some (0, M7)))) := rfl
def fX3_arrange_X2 (o0 : Nat) (o1 : Nat) (a2 : Int32) (M3 : KS) : Option (Int32 × KS) := lp (fX3_arrange_L26 o0 o1 a2) (fX3_arrange_X26) 1000000 (0, M3)
theorem fX3_arrange_X2_u {o0 : Nat} {o1 : Nat} {a2 : Int32} {M3 : KS} : fX3_arrange_X2 o0 o1 a2 M3 = lp (fX3_arrange_L26 o0 o1 a2) (fX3_arrange_X26) 1000000 (0, M3) := rfl
def fX3_arrange_L2 (o0 : Nat) (rec2 : (Int32 × KS) → Option (Int32 × KS)) (k2 : (KS) → Option (Int32 × KS)) (x : Int32 × KS) : Option (Int32 × KS) := match x with | (v1, M2) => (if 6 ≤ v1 then k2 M2 else if inb v1 6 then nm (kset M2 (iYl o0) v1.toNatClampNeg 0) fun M11 => nm (v1 + 1) fun v12 => rec2 (v12, M11) else none)
theorem fX3_arrange_L2_u {o0 : Nat} {rec2 : (Int32 × KS) → Option (Int32 × KS)} {k2 : (KS) → Option (Int32 × KS)} {v1 : Int32} {M2 : KS} : fX3_arrange_L2 o0 rec2 k2 (v1, M2) = (if 6 ≤ v1 then k2 M2 else if inb v1 6 then nm (kset M2 (iYl o0) v1.toNatClampNeg 0) fun M11 => nm (v1 + 1) fun v12 => rec2 (v12, M11) else none) := rfl
def fX3_arrange (M : KS) (o0 : Nat) (o1 : Nat) (a2 : Int32) : Option (Int32 × KS) := lp (fX3_arrange_L2 o0) (fX3_arrange_X2 o0 o1 a2) 1000000 (0, M)
set_option maxHeartbeats 4000000 in
set_option maxRecDepth 100000 in
theorem kX3_arrange (l : Launch) (E : KE) (ad : Nat → Nat) (M : KS) (o0 : Nat) (ho0 : o0 < 3) (o1 : Nat) (ho1 : o1 < 11) (a2 : Int32) : CT l yX3_arrange cX3_arrange 4 (some .boolean) { frames := 2, cells := 0, slots := 0, locals := 50 } SK E ad [.ref (ad (iY o0)), .ref (ad (iR o1)), .int a2] M (QI SK E ad) (fX3_arrange M o0 o1 a2) := by
  refine CT.ofW (by decide) (Nat.le_of_ble_eq_true rfl) (fun sz p e s m args below meth c C hr hH ls hl => ?_)
  have hx := C.1.1
  have hb := C.1.2.1
  have hl : lv_has ls 4 [(0, .ref (ad (iY o0))), (1, .ref (ad (iR o1))), (2, .int a2)] := hl
  unfold fX3_arrange
  refine lv_iconst (v := 0) hx hb dX3_arrange_0 (by decide) ?_
  refine lv_istore_n (lv' := [(3, .int 0), (0, .ref (ad (iY o0))), (1, .ref (ad (iR o1))), (2, .int a2)]) hx hb dX3_arrange_1 rfl hl (by decide) rfl (fun ls hl => ?_)
  refine W_lp (fun (x : Int32 × KS) H locs => KH SK E ad sz x.2 s.heap H locs) (fun x ls => lv_has ls 4 [(0, .ref (ad (iY o0))), (1, .ref (ad (iR o1))), (2, .int a2), (3, .int x.1)]) (fun _ ls => F0 m 2 ls []) (fun (x : KS) H locs => KH SK E ad sz x s.heap H locs) (fun x ls => lv_has ls 4 [(0, .ref (ad (iY o0))), (1, .ref (ad (iR o1))), (2, .int a2)]) (fun _ ls => F0 m 24 ls []) ?_ ?_ hH (lv_sub hl [1, 2, 3, 0] rfl)
  · intro M3 H locs ls hH hl
    have hH : KH SK E ad sz M3 s.heap H locs := hH
    have hl : lv_has ls 4 [(0, .ref (ad (iY o0))), (1, .ref (ad (iR o1))), (2, .int a2)] := hl
    refine W_q fX3_arrange_X2_u ?_
    refine lv_iconst (v := 0) hx hb dX3_arrange_24 (by decide) ?_
    refine lv_istore_n (lv' := [(3, .int 0), (0, .ref (ad (iY o0))), (1, .ref (ad (iR o1))), (2, .int a2)]) hx hb dX3_arrange_25 rfl hl (by decide) rfl (fun ls hl => ?_)
    refine W_lp (fun (x : Int32 × KS) H locs => KH SK E ad sz x.2 s.heap H locs) (fun x ls => lv_has ls 4 [(0, .ref (ad (iY o0))), (1, .ref (ad (iR o1))), (2, .int a2), (3, .int x.1)]) (fun _ ls => F0 m 26 ls []) (fun (x : KS) H locs => KH SK E ad sz x s.heap H locs) (fun x ls => lv_has ls 4 []) (fun _ ls => F0 m 60 ls []) ?_ ?_ hH (lv_sub hl [1, 2, 3, 0] rfl)
    · intro M6 H locs ls hH hl
      have hH : KH SK E ad sz M6 s.heap H locs := hH
      have hl : lv_has ls 4 [] := hl
      refine W_q fX3_arrange_X26_u ?_
      refine lv_iconst (v := 0) hx hb dX3_arrange_60 (by decide) ?_
      exact ke_z C hH hr (Nat.le_refl _) (Nat.le_refl _) rfl (Or.inl rfl) dX3_arrange_61
    · intro rec26 k26 hrec26 hk26 ⟨v4, M5⟩ H locs ls hH hl
      have hH : KH SK E ad sz M5 s.heap H locs := hH
      have hl : lv_has ls 4 [(0, .ref (ad (iY o0))), (1, .ref (ad (iR o1))), (2, .int a2), (3, .int v4)] := hl
      refine W_q fX3_arrange_L26_u ?_
      refine lv_iload_n hx hb dX3_arrange_26 rfl (lv_at hl 3 rfl) ?_
      refine lv_bipush (v := 36) hx hb dX3_arrange_27 (by decide) ?_
      refine kb_icmp_gt (tgt := 60) hx hb dX3_arrange_29 (by decide) (fun _ => ?_) (fun _ => ?_)
      · exact hk26 M5 _ _ _ hH (lv_sub hl [] rfl)
      · refine lv_aload_n hx hb dX3_arrange_32 rfl (lv_at hl 0 rfl) ?_
        refine lv_aload_n hx hb dX3_arrange_33 rfl (lv_at hl 1 rfl) ?_
        refine lv_iload_n hx hb dX3_arrange_34 rfl (lv_at hl 2 rfl) ?_
        refine kg_ib C hH (kc_V C hH w_2_43 lc_yX3_lift li_yX3_lift (oY (f := o0) ho0) (kX3_lift l E ad M5 o0 ho0 o1 ho1 a2) (As := [.ref (ad (iR o1)), .int a2]) rfl dX3_arrange_35 rfl hl.1 (Nat.le_of_ble_eq_true rfl) ⟨Nat.le_of_ble_eq_true rfl, Nat.le_of_ble_eq_true rfl⟩ ⟨Nat.le_of_ble_eq_true rfl, Nat.le_of_ble_eq_true rfl⟩) ⟨rfl, rfl⟩ (fun v8 M7 H locs hH => ?_)
        refine kb_if_ne (tgt := 43) hx hb dX3_arrange_38 (by decide) (fun _ => ?_) (fun _ => ?_)
        · refine lv_aload_n hx hb dX3_arrange_43 rfl (lv_at hl 0 rfl) ?_
          refine kg_io C hH (kc_V C hH w_2_66 lc_yX3_count li_yX3_count (oY (f := o0) ho0) (kX3_count l E ad M7 o0 ho0) (As := []) rfl dX3_arrange_44 rfl hl.1 (Nat.le_of_ble_eq_true rfl) ⟨Nat.le_of_ble_eq_true rfl, Nat.le_of_ble_eq_true rfl⟩ ⟨Nat.le_of_ble_eq_true rfl, Nat.le_of_ble_eq_true rfl⟩) ⟨rfl, rfl⟩ (fun v9 H locs hH => ?_)
          refine lv_bipush (v := 6) hx hb dX3_arrange_47 (by decide) ?_
          refine kb_icmp_le (tgt := 54) hx hb dX3_arrange_49 (by decide) (fun _ => ?_) (fun _ => ?_)
          · refine W_nm (fun v10 ev10 => ?_)
            refine lv_iinc (v := v10) (lv' := [(3, .int v10), (0, .ref (ad (iY o0))), (1, .ref (ad (iR o1))), (2, .int a2)]) hx hb dX3_arrange_54 hl (k := 3) rfl (by rw [ev10]; rfl) (by decide) rfl (fun ls hl => ?_)
            refine lv_goto (tgt := 26) hx hb dX3_arrange_57 (by decide) ?_
            exact hrec26 (v10, M7) _ _ _ hH (lv_sub hl [1, 2, 3, 0] rfl)
          · refine lv_iconst (v := 0) hx hb dX3_arrange_52 (by decide) ?_
            exact ke_z C hH hr (Nat.le_refl _) (Nat.le_refl _) rfl (Or.inl rfl) dX3_arrange_53
        · refine lv_iconst (v := 1) hx hb dX3_arrange_41 (by decide) ?_
          exact ke_z C hH hr (Nat.le_refl _) (Nat.le_refl _) rfl (Or.inr rfl) dX3_arrange_42
  · intro rec2 k2 hrec2 hk2 ⟨v1, M2⟩ H locs ls hH hl
    have hH : KH SK E ad sz M2 s.heap H locs := hH
    have hl : lv_has ls 4 [(0, .ref (ad (iY o0))), (1, .ref (ad (iR o1))), (2, .int a2), (3, .int v1)] := hl
    refine W_q fX3_arrange_L2_u ?_
    refine lv_iload_n hx hb dX3_arrange_2 rfl (lv_at hl 3 rfl) ?_
    refine lv_aload_n hx hb dX3_arrange_3 rfl (lv_at hl 0 rfl) ?_
    refine k_get C hH fd_X3_9 (oY (f := o0) ho0) (k_ref (M := M2) (ad := ad) (rY0 (f := o0) ho0)) dX3_arrange_4 ?_
    refine k_ilen C hH (aY0 (f := o0) ho0) (v := 6) rfl dX3_arrange_7 ?_
    refine kb_icmp_ge (tgt := 24) hx hb dX3_arrange_8 (by decide) (fun _ => ?_) (fun _ => ?_)
    · exact hk2 M2 _ _ _ hH (lv_sub hl [0, 1, 2] rfl)
    · refine lv_aload_n hx hb dX3_arrange_11 rfl (lv_at hl 0 rfl) ?_
      refine k_get C hH fd_X3_9 (oY (f := o0) ho0) (k_ref (M := M2) (ad := ad) (rY0 (f := o0) ho0)) dX3_arrange_12 ?_
      refine lv_iload_n hx hb dX3_arrange_15 rfl (lv_at hl 3 rfl) ?_
      refine lv_iconst (v := 0) hx hb dX3_arrange_16 (by decide) ?_
      refine k_iast C hH (aY0 (f := o0) ho0) dX3_arrange_17 (fun M11 H locs hH => ?_)
      refine W_nm (fun v12 ev12 => ?_)
      refine lv_iinc (v := v12) (lv' := [(3, .int v12), (0, .ref (ad (iY o0))), (1, .ref (ad (iR o1))), (2, .int a2)]) hx hb dX3_arrange_18 hl (k := 3) rfl (by rw [ev12]; rfl) (by decide) rfl (fun ls hl => ?_)
      refine lv_goto (tgt := 2) hx hb dX3_arrange_21 (by decide) ?_
      exact hrec2 (v12, M11) _ _ _ hH (lv_sub hl [1, 2, 3, 0] rfl)
def fX2_clear_X2 (M3 : KS) : Option (KS) := some M3
theorem fX2_clear_X2_u {M3 : KS} : fX2_clear_X2 M3 = some M3 := rfl
def fX2_clear_L2 (o0 : Nat) (rec2 : (Int32 × KS) → Option (KS)) (k2 : (KS) → Option (KS)) (x : Int32 × KS) : Option (KS) := match x with | (v1, M2) => (if 36 ≤ v1 then k2 M2 else if inb v1 36 then nm (kset M2 (iFt o0) v1.toNatClampNeg 0) fun M4 => if inb v1 36 then nm (kset M4 (iFf o0) v1.toNatClampNeg 0) fun M5 => nm (v1 + 1) fun v6 => rec2 (v6, M5) else none else none)
theorem fX2_clear_L2_u {o0 : Nat} {rec2 : (Int32 × KS) → Option (KS)} {k2 : (KS) → Option (KS)} {v1 : Int32} {M2 : KS} : fX2_clear_L2 o0 rec2 k2 (v1, M2) = (if 36 ≤ v1 then k2 M2 else if inb v1 36 then nm (kset M2 (iFt o0) v1.toNatClampNeg 0) fun M4 => if inb v1 36 then nm (kset M4 (iFf o0) v1.toNatClampNeg 0) fun M5 => nm (v1 + 1) fun v6 => rec2 (v6, M5) else none else none) := rfl
def fX2_clear (M : KS) (o0 : Nat) : Option (KS) := lp (fX2_clear_L2 o0) (fX2_clear_X2) 1000000 (0, M)
set_option maxHeartbeats 4000000 in
set_option maxRecDepth 100000 in
theorem kX2_clear (l : Launch) (E : KE) (ad : Nat → Nat) (M : KS) (o0 : Nat) (ho0 : o0 < 15) : CT l yX2_clear cX2_clear 2 none { frames := 0, cells := 0, slots := 0, locals := 0 } SK E ad [.ref (ad (iF o0))] M (QV SK E ad) (fX2_clear M o0) := by
  refine CT.ofW (by decide) (Nat.le_of_ble_eq_true rfl) (fun sz p e s m args below meth c C hr hH ls hl => ?_)
  have hx := C.1.1
  have hb := C.1.2.1
  have hl : lv_has ls 2 [(0, .ref (ad (iF o0)))] := hl
  unfold fX2_clear
  refine lv_iconst (v := 0) hx hb dX2_clear_0 (by decide) ?_
  refine lv_istore_n (lv' := [(1, .int 0), (0, .ref (ad (iF o0)))]) hx hb dX2_clear_1 rfl hl (by decide) rfl (fun ls hl => ?_)
  refine W_lp (fun (x : Int32 × KS) H locs => KH SK E ad sz x.2 s.heap H locs) (fun x ls => lv_has ls 2 [(0, .ref (ad (iF o0))), (1, .int x.1)]) (fun _ ls => F0 m 2 ls []) (fun (x : KS) H locs => KH SK E ad sz x s.heap H locs) (fun x ls => lv_has ls 2 []) (fun _ ls => F0 m 31 ls []) ?_ ?_ hH (lv_sub hl [1, 0] rfl)
  · intro M3 H locs ls hH hl
    have hH : KH SK E ad sz M3 s.heap H locs := hH
    have hl : lv_has ls 2 [] := hl
    refine W_q fX2_clear_X2_u ?_
    exact ke_v C hH hr (Nat.le_refl _) (Nat.le_refl _) rfl dX2_clear_31
  · intro rec2 k2 hrec2 hk2 ⟨v1, M2⟩ H locs ls hH hl
    have hH : KH SK E ad sz M2 s.heap H locs := hH
    have hl : lv_has ls 2 [(0, .ref (ad (iF o0))), (1, .int v1)] := hl
    refine W_q fX2_clear_L2_u ?_
    refine lv_iload_n hx hb dX2_clear_2 rfl (lv_at hl 1 rfl) ?_
    refine lv_aload_n hx hb dX2_clear_3 rfl (lv_at hl 0 rfl) ?_
    refine k_get C hH fd_X2_9 (oF (f := o0) ho0) (k_ref (M := M2) (ad := ad) (rF0 (f := o0) ho0)) dX2_clear_4 ?_
    refine k_ilen C hH (aF0 (f := o0) ho0) (v := 36) rfl dX2_clear_7 ?_
    refine kb_icmp_ge (tgt := 31) hx hb dX2_clear_8 (by decide) (fun _ => ?_) (fun _ => ?_)
    · exact hk2 M2 _ _ _ hH (lv_sub hl [] rfl)
    · refine lv_aload_n hx hb dX2_clear_11 rfl (lv_at hl 0 rfl) ?_
      refine k_get C hH fd_X2_9 (oF (f := o0) ho0) (k_ref (M := M2) (ad := ad) (rF0 (f := o0) ho0)) dX2_clear_12 ?_
      refine lv_iload_n hx hb dX2_clear_15 rfl (lv_at hl 1 rfl) ?_
      refine lv_iconst (v := 0) hx hb dX2_clear_16 (by decide) ?_
      refine k_iast C hH (aF0 (f := o0) ho0) dX2_clear_17 (fun M4 H locs hH => ?_)
      refine lv_aload_n hx hb dX2_clear_18 rfl (lv_at hl 0 rfl) ?_
      refine k_get C hH fd_X2_15 (oF (f := o0) ho0) (k_ref (M := M4) (ad := ad) (rF1 (f := o0) ho0)) dX2_clear_19 ?_
      refine lv_iload_n hx hb dX2_clear_22 rfl (lv_at hl 1 rfl) ?_
      refine lv_iconst (v := 0) hx hb dX2_clear_23 (by decide) ?_
      refine k_iast C hH (aF1 (f := o0) ho0) dX2_clear_24 (fun M5 H locs hH => ?_)
      refine W_nm (fun v6 ev6 => ?_)
      refine lv_iinc (v := v6) (lv' := [(1, .int v6), (0, .ref (ad (iF o0)))]) hx hb dX2_clear_25 hl (k := 1) rfl (by rw [ev6]; rfl) (by decide) rfl (fun ls hl => ?_)
      refine lv_goto (tgt := 2) hx hb dX2_clear_28 (by decide) ?_
      exact hrec2 (v6, M5) _ _ _ hH (lv_sub hl [1, 0] rfl)
def fX9_firstIn_J10_1 (v1 : Int32) : Option (Int32) := some (jrem ((v1 - 1) / 3) 3)
theorem fX9_firstIn_J10_1_u {v1 : Int32} : fX9_firstIn_J10_1 v1 = some (jrem ((v1 - 1) / 3) 3) := rfl
def fX9_firstIn (a0 : Int32) : Option (Int32) := jn (fX9_firstIn_J10_1) (fun K10_1 => (if 0 ≤ a0 then K10_1 a0 else K10_1 (-a0)))
set_option maxHeartbeats 4000000 in
set_option maxRecDepth 100000 in
theorem kX9_firstIn (l : Launch) (E : KE) (ad : Nat → Nat) (M : KS) (a0 : Int32) : CT l yX9_firstIn cX9_firstIn 1 (some .int) { frames := 0, cells := 0, slots := 0, locals := 0 } SK E ad [.int a0] M (fun sz a => QI SK E ad sz (a, M)) (fX9_firstIn a0) := by
  refine CT.ofW (by decide) (Nat.le_of_ble_eq_true rfl) (fun sz p e s m args below meth c C hr hH ls hl => ?_)
  have hx := C.1.1
  have hb := C.1.2.1
  have hl : lv_has ls 1 [(0, .int a0)] := hl
  unfold fX9_firstIn
  refine lv_iload_n hx hb dX9_firstIn_0 rfl (lv_at hl 0 rfl) ?_
  refine W_jn (fun (x : Int32) H locs => KH SK E ad sz M s.heap H locs) (fun x ls => lv_has ls 1 []) (fun x ls => F0 m 10 ls [.int x]) ?_ (fun K10_1 hK10_1 => ?_)
  · intro v1 H locs ls hH hl
    have hH : KH SK E ad sz M s.heap H locs := hH
    have hl : lv_has ls 1 [] := hl
    refine W_q fX9_firstIn_J10_1_u ?_
    refine lv_iconst (v := 1) hx hb dX9_firstIn_10 (by decide) ?_
    refine lv_isub hx hb dX9_firstIn_11 ?_
    refine lv_iconst (v := 3) hx hb dX9_firstIn_12 (by decide) ?_
    refine lv_idiv hx hb dX9_firstIn_13 (by decide) ?_
    refine lv_iconst (v := 3) hx hb dX9_firstIn_14 (by decide) ?_
    refine k_irem hx hb dX9_firstIn_15 (by decide) ?_
    exact ke_i C hH hr (Nat.le_refl _) (Nat.le_refl _) rfl dX9_firstIn_16
  · refine kb_if_ge (tgt := 9) hx hb dX9_firstIn_1 (by decide) (fun _ => ?_) (fun _ => ?_)
    · refine lv_iload_n hx hb dX9_firstIn_9 rfl (lv_at hl 0 rfl) ?_
      exact hK10_1 a0 _ _ _ hH (lv_sub hl [] rfl)
    · refine lv_iload_n hx hb dX9_firstIn_4 rfl (lv_at hl 0 rfl) ?_
      refine lv_ineg hx hb dX9_firstIn_5 ?_
      refine lv_goto (tgt := 10) hx hb dX9_firstIn_6 (by decide) ?_
      exact hK10_1 (-a0) _ _ _ hH (lv_sub hl [] rfl)
def fX9_secondIn_o (a0 : Int32) : Option (Int32) := (if 0 ≤ a0 then some (jrem (a0 - 1) 3) else some (jrem ((-a0) - 1) 3))
def fX9_secondIn (a0 : Int32) : Int32 := (if 0 ≤ a0 then (jrem (a0 - 1) 3) else (jrem ((-a0) - 1) 3))
theorem fX9_secondIn_s {a0 : Int32} : fX9_secondIn_o a0 = some (fX9_secondIn a0) := by
  unfold fX9_secondIn_o fX9_secondIn
  (repeat' split) <;> rfl
set_option maxHeartbeats 4000000 in
set_option maxRecDepth 100000 in
theorem kX9_secondIn_o (l : Launch) (E : KE) (ad : Nat → Nat) (M : KS) (a0 : Int32) : CT l yX9_secondIn cX9_secondIn 1 (some .int) { frames := 0, cells := 0, slots := 0, locals := 0 } SK E ad [.int a0] M (fun sz a => QI SK E ad sz (a, M)) (fX9_secondIn_o a0) := by
  refine CT.ofW (by decide) (Nat.le_of_ble_eq_true rfl) (fun sz p e s m args below meth c C hr hH ls hl => ?_)
  have hx := C.1.1
  have hb := C.1.2.1
  have hl : lv_has ls 1 [(0, .int a0)] := hl
  unfold fX9_secondIn_o
  refine lv_iload_n hx hb dX9_secondIn_0 rfl (lv_at hl 0 rfl) ?_
  refine kb_if_ge (tgt := 9) hx hb dX9_secondIn_1 (by decide) (fun _ => ?_) (fun _ => ?_)
  · refine lv_iload_n hx hb dX9_secondIn_9 rfl (lv_at hl 0 rfl) ?_
    refine lv_iconst (v := 1) hx hb dX9_secondIn_10 (by decide) ?_
    refine lv_isub hx hb dX9_secondIn_11 ?_
    refine lv_iconst (v := 3) hx hb dX9_secondIn_12 (by decide) ?_
    refine k_irem hx hb dX9_secondIn_13 (by decide) ?_
    exact ke_i C hH hr (Nat.le_refl _) (Nat.le_refl _) rfl dX9_secondIn_14
  · refine lv_iload_n hx hb dX9_secondIn_4 rfl (lv_at hl 0 rfl) ?_
    refine lv_ineg hx hb dX9_secondIn_5 ?_
    refine lv_goto (tgt := 10) hx hb dX9_secondIn_6 (by decide) ?_
    refine lv_iconst (v := 1) hx hb dX9_secondIn_10 (by decide) ?_
    refine lv_isub hx hb dX9_secondIn_11 ?_
    refine lv_iconst (v := 3) hx hb dX9_secondIn_12 (by decide) ?_
    refine k_irem hx hb dX9_secondIn_13 (by decide) ?_
    exact ke_i C hH hr (Nat.le_refl _) (Nat.le_refl _) rfl dX9_secondIn_14
theorem kX9_secondIn (l : Launch) (E : KE) (ad : Nat → Nat) (M : KS) (a0 : Int32) : CT l yX9_secondIn cX9_secondIn 1 (some .int) { frames := 0, cells := 0, slots := 0, locals := 0 } SK E ad [.int a0] M (fun sz (_ : Unit) => QI SK E ad sz (fX9_secondIn a0, M)) (some ()) := CT.pure (kX9_secondIn_o l E ad M a0) fX9_secondIn_s
def fX2_toThemselves_X4 (v3 : Int32) : Option (Int32) := some v3
theorem fX2_toThemselves_X4_u {v3 : Int32} : fX2_toThemselves_X4 v3 = some v3 := rfl
def fX2_toThemselves_L4 (M : KS) (o0 : Nat) (a1 : Int32) (rec4 : (Int32 × Int32) → Option (Int32)) (k4 : (Int32) → Option (Int32)) (x : Int32 × Int32) : Option (Int32) := match x with | (v1, v2) => (if 6 ≤ v2 then k4 v1 else nm (((6 * a1) + v2)) fun v4 => (if v4 < 0 then nm (v2 + 1) fun v5 => rec4 (v1, v5) else (if 36 ≤ v4 then nm (v2 + 1) fun v6 => rec4 (v1, v6) else if inb v4 36 then nm ((v1 ||| ((M.1 (iFt o0) v4.toNatClampNeg) &&& (jshl 1 v2)))) fun v7 => nm (v2 + 1) fun v8 => rec4 (v7, v8) else none)))
theorem fX2_toThemselves_L4_u {M : KS} {o0 : Nat} {a1 : Int32} {rec4 : (Int32 × Int32) → Option (Int32)} {k4 : (Int32) → Option (Int32)} {v1 : Int32} {v2 : Int32} : fX2_toThemselves_L4 M o0 a1 rec4 k4 (v1, v2) = (if 6 ≤ v2 then k4 v1 else nm (((6 * a1) + v2)) fun v4 => (if v4 < 0 then nm (v2 + 1) fun v5 => rec4 (v1, v5) else (if 36 ≤ v4 then nm (v2 + 1) fun v6 => rec4 (v1, v6) else if inb v4 36 then nm ((v1 ||| ((M.1 (iFt o0) v4.toNatClampNeg) &&& (jshl 1 v2)))) fun v7 => nm (v2 + 1) fun v8 => rec4 (v7, v8) else none))) := rfl
def fX2_toThemselves (M : KS) (o0 : Nat) (a1 : Int32) : Option (Int32) := lp (fX2_toThemselves_L4 M o0 a1) (fX2_toThemselves_X4) 1000000 (0, 0)
set_option maxHeartbeats 4000000 in
set_option maxRecDepth 100000 in
theorem kX2_toThemselves (l : Launch) (E : KE) (ad : Nat → Nat) (M : KS) (o0 : Nat) (ho0 : o0 < 15) (a1 : Int32) : CT l yX2_toThemselves cX2_toThemselves 5 (some .int) { frames := 0, cells := 0, slots := 0, locals := 0 } SK E ad [.ref (ad (iF o0)), .int a1] M (fun sz a => QI SK E ad sz (a, M)) (fX2_toThemselves M o0 a1) := by
  refine CT.ofW (by decide) (Nat.le_of_ble_eq_true rfl) (fun sz p e s m args below meth c C hr hH ls hl => ?_)
  have hx := C.1.1
  have hb := C.1.2.1
  have hl : lv_has ls 5 [(0, .ref (ad (iF o0))), (1, .int a1)] := hl
  unfold fX2_toThemselves
  refine lv_iconst (v := 0) hx hb dX2_toThemselves_0 (by decide) ?_
  refine lv_istore_n (lv' := [(2, .int 0), (0, .ref (ad (iF o0))), (1, .int a1)]) hx hb dX2_toThemselves_1 rfl hl (by decide) rfl (fun ls hl => ?_)
  refine lv_iconst (v := 0) hx hb dX2_toThemselves_2 (by decide) ?_
  refine lv_istore_n (lv' := [(3, .int 0), (2, .int 0), (0, .ref (ad (iF o0))), (1, .int a1)]) hx hb dX2_toThemselves_3 rfl hl (by decide) rfl (fun ls hl => ?_)
  refine W_lp (fun (x : Int32 × Int32) H locs => KH SK E ad sz M s.heap H locs) (fun x ls => lv_has ls 5 [(0, .ref (ad (iF o0))), (1, .int a1), (2, .int x.1), (3, .int x.2)]) (fun _ ls => F0 m 4 ls []) (fun (x : Int32) H locs => KH SK E ad sz M s.heap H locs) (fun x ls => lv_has ls 5 [(2, .int x)]) (fun _ ls => F0 m 53 ls []) ?_ ?_ hH (lv_sub hl [2, 3, 1, 0] rfl)
  · intro v3 H locs ls hH hl
    have hH : KH SK E ad sz M s.heap H locs := hH
    have hl : lv_has ls 5 [(2, .int v3)] := hl
    refine W_q fX2_toThemselves_X4_u ?_
    refine lv_iload_n hx hb dX2_toThemselves_53 rfl (lv_at hl 0 rfl) ?_
    exact ke_i C hH hr (Nat.le_refl _) (Nat.le_refl _) rfl dX2_toThemselves_54
  · intro rec4 k4 hrec4 hk4 ⟨v1, v2⟩ H locs ls hH hl
    have hH : KH SK E ad sz M s.heap H locs := hH
    have hl : lv_has ls 5 [(0, .ref (ad (iF o0))), (1, .int a1), (2, .int v1), (3, .int v2)] := hl
    refine W_q fX2_toThemselves_L4_u ?_
    refine lv_iload_n hx hb dX2_toThemselves_4 rfl (lv_at hl 3 rfl) ?_
    refine lv_bipush (v := 6) hx hb dX2_toThemselves_5 (by decide) ?_
    refine kb_icmp_ge (tgt := 53) hx hb dX2_toThemselves_7 (by decide) (fun _ => ?_) (fun _ => ?_)
    · exact hk4 v1 _ _ _ hH (lv_sub hl [2] rfl)
    · refine lv_bipush (v := 6) hx hb dX2_toThemselves_10 (by decide) ?_
      refine lv_iload_n hx hb dX2_toThemselves_12 rfl (lv_at hl 1 rfl) ?_
      refine lv_imul hx hb dX2_toThemselves_13 ?_
      refine lv_iload_n hx hb dX2_toThemselves_14 rfl (lv_at hl 3 rfl) ?_
      refine lv_iadd hx hb dX2_toThemselves_15 ?_
      refine W_nmi (fun v4 => ?_)
      refine lv_istore (lv' := [(4, .int v4), (0, .ref (ad (iF o0))), (1, .int a1), (2, .int v1), (3, .int v2)]) hx hb dX2_toThemselves_16 hl (by decide) rfl (fun ls hl => ?_)
      refine lv_iload hx hb dX2_toThemselves_18 (lv_at hl 0 rfl) ?_
      refine kb_if_lt (tgt := 47) hx hb dX2_toThemselves_20 (by decide) (fun _ => ?_) (fun _ => ?_)
      · refine W_nm (fun v5 ev5 => ?_)
        refine lv_iinc (v := v5) (lv' := [(3, .int v5), (4, .int v4), (0, .ref (ad (iF o0))), (1, .int a1), (2, .int v1)]) hx hb dX2_toThemselves_47 hl (k := 4) rfl (by rw [ev5]; rfl) (by decide) rfl (fun ls hl => ?_)
        refine lv_goto (tgt := 4) hx hb dX2_toThemselves_50 (by decide) ?_
        exact hrec4 (v1, v5) _ _ _ hH (lv_sub hl [2, 3, 4, 0] rfl)
      · refine lv_iload hx hb dX2_toThemselves_23 (lv_at hl 0 rfl) ?_
        refine lv_aload_n hx hb dX2_toThemselves_25 rfl (lv_at hl 1 rfl) ?_
        refine k_get C hH fd_X2_9 (oF (f := o0) ho0) (k_ref (M := M) (ad := ad) (rF0 (f := o0) ho0)) dX2_toThemselves_26 ?_
        refine k_ilen C hH (aF0 (f := o0) ho0) (v := 36) rfl dX2_toThemselves_29 ?_
        refine kb_icmp_ge (tgt := 47) hx hb dX2_toThemselves_30 (by decide) (fun _ => ?_) (fun _ => ?_)
        · refine W_nm (fun v6 ev6 => ?_)
          refine lv_iinc (v := v6) (lv' := [(3, .int v6), (4, .int v4), (0, .ref (ad (iF o0))), (1, .int a1), (2, .int v1)]) hx hb dX2_toThemselves_47 hl (k := 4) rfl (by rw [ev6]; rfl) (by decide) rfl (fun ls hl => ?_)
          refine lv_goto (tgt := 4) hx hb dX2_toThemselves_50 (by decide) ?_
          exact hrec4 (v1, v6) _ _ _ hH (lv_sub hl [2, 3, 4, 0] rfl)
        · refine lv_iload_n hx hb dX2_toThemselves_33 rfl (lv_at hl 3 rfl) ?_
          refine lv_aload_n hx hb dX2_toThemselves_34 rfl (lv_at hl 1 rfl) ?_
          refine k_get C hH fd_X2_9 (oF (f := o0) ho0) (k_ref (M := M) (ad := ad) (rF0 (f := o0) ho0)) dX2_toThemselves_35 ?_
          refine lv_iload hx hb dX2_toThemselves_38 (lv_at hl 0 rfl) ?_
          refine k_iald C hH (aF0 (f := o0) ho0) dX2_toThemselves_40 ?_
          refine lv_iconst (v := 1) hx hb dX2_toThemselves_41 (by decide) ?_
          refine lv_iload_n hx hb dX2_toThemselves_42 rfl (lv_at hl 4 rfl) ?_
          refine k_ishl hx hb dX2_toThemselves_43 ?_
          refine lv_iand hx hb dX2_toThemselves_44 ?_
          refine lv_ior hx hb dX2_toThemselves_45 ?_
          refine W_nmi (fun v7 => ?_)
          refine lv_istore_n (lv' := [(2, .int v7), (4, .int v4), (0, .ref (ad (iF o0))), (1, .int a1), (3, .int v2)]) hx hb dX2_toThemselves_46 rfl hl (by decide) rfl (fun ls hl => ?_)
          refine W_nm (fun v8 ev8 => ?_)
          refine lv_iinc (v := v8) (lv' := [(3, .int v8), (2, .int v7), (4, .int v4), (0, .ref (ad (iF o0))), (1, .int a1)]) hx hb dX2_toThemselves_47 hl (k := 4) rfl (by rw [ev8]; rfl) (by decide) rfl (fun ls hl => ?_)
          refine lv_goto (tgt := 4) hx hb dX2_toThemselves_50 (by decide) ?_
          exact hrec4 (v7, v8) _ _ _ hH (lv_sub hl [3, 4, 1, 0] rfl)
def fX2_from (M : KS) (o0 : Nat) (a1 : Int32) (a2 : Int32) : Option (Int32) := nm (((6 * a1) + a2)) fun v1 => (if v1 < 0 then some 0 else (if 36 ≤ v1 then some 0 else if inb v1 36 then some (M.1 (iFf o0) v1.toNatClampNeg) else none))
set_option maxHeartbeats 4000000 in
set_option maxRecDepth 100000 in
theorem kX2_from (l : Launch) (E : KE) (ad : Nat → Nat) (M : KS) (o0 : Nat) (ho0 : o0 < 15) (a1 : Int32) (a2 : Int32) : CT l yX2_from cX2_from 4 (some .int) { frames := 0, cells := 0, slots := 0, locals := 0 } SK E ad [.ref (ad (iF o0)), .int a1, .int a2] M (fun sz a => QI SK E ad sz (a, M)) (fX2_from M o0 a1 a2) := by
  refine CT.ofW (by decide) (Nat.le_of_ble_eq_true rfl) (fun sz p e s m args below meth c C hr hH ls hl => ?_)
  have hx := C.1.1
  have hb := C.1.2.1
  have hl : lv_has ls 4 [(0, .ref (ad (iF o0))), (1, .int a1), (2, .int a2)] := hl
  unfold fX2_from
  refine lv_bipush (v := 6) hx hb dX2_from_0 (by decide) ?_
  refine lv_iload_n hx hb dX2_from_2 rfl (lv_at hl 1 rfl) ?_
  refine lv_imul hx hb dX2_from_3 ?_
  refine lv_iload_n hx hb dX2_from_4 rfl (lv_at hl 2 rfl) ?_
  refine lv_iadd hx hb dX2_from_5 ?_
  refine W_nmi (fun v1 => ?_)
  refine lv_istore_n (lv' := [(3, .int v1), (0, .ref (ad (iF o0))), (1, .int a1), (2, .int a2)]) hx hb dX2_from_6 rfl hl (by decide) rfl (fun ls hl => ?_)
  refine lv_iload_n hx hb dX2_from_7 rfl (lv_at hl 0 rfl) ?_
  refine kb_if_lt (tgt := 29) hx hb dX2_from_8 (by decide) (fun _ => ?_) (fun _ => ?_)
  · refine lv_iconst (v := 0) hx hb dX2_from_29 (by decide) ?_
    exact ke_i C hH hr (Nat.le_refl _) (Nat.le_refl _) rfl dX2_from_30
  · refine lv_iload_n hx hb dX2_from_11 rfl (lv_at hl 0 rfl) ?_
    refine lv_aload_n hx hb dX2_from_12 rfl (lv_at hl 1 rfl) ?_
    refine k_get C hH fd_X2_15 (oF (f := o0) ho0) (k_ref (M := M) (ad := ad) (rF1 (f := o0) ho0)) dX2_from_13 ?_
    refine k_ilen C hH (aF1 (f := o0) ho0) (v := 36) rfl dX2_from_16 ?_
    refine kb_icmp_ge (tgt := 29) hx hb dX2_from_17 (by decide) (fun _ => ?_) (fun _ => ?_)
    · refine lv_iconst (v := 0) hx hb dX2_from_29 (by decide) ?_
      exact ke_i C hH hr (Nat.le_refl _) (Nat.le_refl _) rfl dX2_from_30
    · refine lv_aload_n hx hb dX2_from_20 rfl (lv_at hl 1 rfl) ?_
      refine k_get C hH fd_X2_15 (oF (f := o0) ho0) (k_ref (M := M) (ad := ad) (rF1 (f := o0) ho0)) dX2_from_21 ?_
      refine lv_iload_n hx hb dX2_from_24 rfl (lv_at hl 0 rfl) ?_
      refine k_iald C hH (aF1 (f := o0) ho0) dX2_from_25 ?_
      refine lv_goto (tgt := 30) hx hb dX2_from_26 (by decide) ?_
      exact ke_i C hH hr (Nat.le_refl _) (Nat.le_refl _) rfl dX2_from_30
def fX6_fulfilling_J119_45 (a0 : Int32) (v6 : Int32) : Option (Int32) := (if 0 ≤ a0 then some v6 else some (63 &&& (v6 ^^^ (-1))))
theorem fX6_fulfilling_J119_45_u {a0 : Int32} {v6 : Int32} : fX6_fulfilling_J119_45 a0 v6 = (if 0 ≤ a0 then some v6 else some (63 &&& (v6 ^^^ (-1)))) := rfl
def fX6_fulfilling_J40_32 (M : KS) (a0 : Int32) (o3 : Nat) (v1 : Int32) (v2 : Int32) (v3 : Int32) (v4 : Int32) (v5 : Int32) : Option (Int32) := jn (fX6_fulfilling_J119_45 a0) (fun K119_45 => (if v2 = 2 then (if v3 = 2 then (fX2_toThemselves M o3 v1).bind fun v10 => K119_45 v10 else (fX2_from M o3 v1 v5).bind fun v9 => K119_45 v9) else (if v3 = 2 then (fX2_to M o3 v1 v4).bind fun v8 => K119_45 v8 else (fX2_to M o3 v1 v4).bind fun v7 => (if ((jshr v7 v5) &&& 1) = 0 then K119_45 0 else K119_45 63))))
theorem fX6_fulfilling_J40_32_u {M : KS} {a0 : Int32} {o3 : Nat} {v1 : Int32} {v2 : Int32} {v3 : Int32} {v4 : Int32} {v5 : Int32} : fX6_fulfilling_J40_32 M a0 o3 v1 v2 v3 v4 v5 = jn (fX6_fulfilling_J119_45 a0) (fun K119_45 => (if v2 = 2 then (if v3 = 2 then (fX2_toThemselves M o3 v1).bind fun v10 => K119_45 v10 else (fX2_from M o3 v1 v5).bind fun v9 => K119_45 v9) else (if v3 = 2 then (fX2_to M o3 v1 v4).bind fun v8 => K119_45 v8 else (fX2_to M o3 v1 v4).bind fun v7 => (if ((jshr v7 v5) &&& 1) = 0 then K119_45 0 else K119_45 63)))) := rfl
def fX6_fulfilling_J28_20 (M : KS) (a0 : Int32) (a1 : Int32) (a2 : Int32) (o3 : Nat) (v1 : Int32) (v2 : Int32) (v3 : Int32) (v4 : Int32) : Option (Int32) := jn (fX6_fulfilling_J40_32 M a0 o3 v1 v2 v3 v4) (fun K40_32 => (if v3 = 0 then K40_32 a1 else K40_32 a2))
theorem fX6_fulfilling_J28_20_u {M : KS} {a0 : Int32} {a1 : Int32} {a2 : Int32} {o3 : Nat} {v1 : Int32} {v2 : Int32} {v3 : Int32} {v4 : Int32} : fX6_fulfilling_J28_20 M a0 a1 a2 o3 v1 v2 v3 v4 = jn (fX6_fulfilling_J40_32 M a0 o3 v1 v2 v3 v4) (fun K40_32 => (if v3 = 0 then K40_32 a1 else K40_32 a2)) := rfl
def fX6_fulfilling (M : KS) (a0 : Int32) (a1 : Int32) (a2 : Int32) (o3 : Nat) : Option (Int32) := nm ((fX9_relationIn a0)) fun v1 => (fX9_firstIn a0).bind fun v2 => nm ((fX9_secondIn a0)) fun v3 => jn (fX6_fulfilling_J28_20 M a0 a1 a2 o3 v1 v2 v3) (fun K28_20 => (if v2 = 0 then K28_20 a1 else K28_20 a2))
set_option maxHeartbeats 4000000 in
set_option maxRecDepth 100000 in
theorem kX6_fulfilling (l : Launch) (E : KE) (ad : Nat → Nat) (M : KS) (a0 : Int32) (a1 : Int32) (a2 : Int32) (o3 : Nat) (ho3 : o3 < 15) : CT l yX6_fulfilling cX6_fulfilling 10 (some .int) { frames := 1, cells := 0, slots := 0, locals := 24 } SK E ad [.int a0, .int a1, .int a2, .ref (ad (iF o3))] M (fun sz a => QI SK E ad sz (a, M)) (fX6_fulfilling M a0 a1 a2 o3) := by
  refine CT.ofW (by decide) (Nat.le_of_ble_eq_true rfl) (fun sz p e s m args below meth c C hr hH ls hl => ?_)
  have hx := C.1.1
  have hb := C.1.2.1
  have hl : lv_has ls 10 [(0, .int a0), (1, .int a1), (2, .int a2), (3, .ref (ad (iF o3)))] := hl
  unfold fX6_fulfilling
  refine lv_iload_n hx hb dX6_fulfilling_0 rfl (lv_at hl 0 rfl) ?_
  refine kg_ip C hH (kc_SN C hH w_2_96 w_st_yX9_relationIn lc_yX9_relationIn (kX9_relationIn l E ad M a0) (As := [.int a0]) rfl dX6_fulfilling_1 rfl hl.1 (Nat.le_of_ble_eq_true rfl) ⟨Nat.le_of_ble_eq_true rfl, Nat.le_of_ble_eq_true rfl⟩ ⟨Nat.le_of_ble_eq_true rfl, Nat.le_of_ble_eq_true rfl⟩) ⟨rfl, rfl⟩ (fun H locs hH => ?_)
  refine W_nmi (fun v1 => ?_)
  refine lv_istore (lv' := [(4, .int v1), (0, .int a0), (1, .int a1), (2, .int a2), (3, .ref (ad (iF o3)))]) hx hb dX6_fulfilling_4 hl (by decide) rfl (fun ls hl => ?_)
  refine lv_iload_n hx hb dX6_fulfilling_6 rfl (lv_at hl 1 rfl) ?_
  refine kg_io C hH (kc_SN C hH w_2_97 w_st_yX9_firstIn lc_yX9_firstIn (kX9_firstIn l E ad M a0) (As := [.int a0]) rfl dX6_fulfilling_7 rfl hl.1 (Nat.le_of_ble_eq_true rfl) ⟨Nat.le_of_ble_eq_true rfl, Nat.le_of_ble_eq_true rfl⟩ ⟨Nat.le_of_ble_eq_true rfl, Nat.le_of_ble_eq_true rfl⟩) ⟨rfl, rfl⟩ (fun v2 H locs hH => ?_)
  refine lv_istore (lv' := [(5, .int v2), (4, .int v1), (0, .int a0), (1, .int a1), (2, .int a2), (3, .ref (ad (iF o3)))]) hx hb dX6_fulfilling_10 hl (by decide) rfl (fun ls hl => ?_)
  refine lv_iload_n hx hb dX6_fulfilling_12 rfl (lv_at hl 2 rfl) ?_
  refine kg_ip C hH (kc_SN C hH w_2_100 w_st_yX9_secondIn lc_yX9_secondIn (kX9_secondIn l E ad M a0) (As := [.int a0]) rfl dX6_fulfilling_13 rfl hl.1 (Nat.le_of_ble_eq_true rfl) ⟨Nat.le_of_ble_eq_true rfl, Nat.le_of_ble_eq_true rfl⟩ ⟨Nat.le_of_ble_eq_true rfl, Nat.le_of_ble_eq_true rfl⟩) ⟨rfl, rfl⟩ (fun H locs hH => ?_)
  refine W_nmi (fun v3 => ?_)
  refine lv_istore (lv' := [(6, .int v3), (5, .int v2), (4, .int v1), (0, .int a0), (1, .int a1), (2, .int a2), (3, .ref (ad (iF o3)))]) hx hb dX6_fulfilling_16 hl (by decide) rfl (fun ls hl => ?_)
  refine lv_iload hx hb dX6_fulfilling_18 (lv_at hl 1 rfl) ?_
  refine W_jn (fun (x : Int32) H locs => KH SK E ad sz M s.heap H locs) (fun x ls => lv_has ls 10 [(6, .int v3), (5, .int v2), (4, .int v1), (0, .int a0), (1, .int a1), (2, .int a2), (3, .ref (ad (iF o3)))]) (fun x ls => F0 m 28 ls [.int x]) ?_ (fun K28_20 hK28_20 => ?_)
  · intro v4 H locs ls hH hl
    have hH : KH SK E ad sz M s.heap H locs := hH
    have hl : lv_has ls 10 [(6, .int v3), (5, .int v2), (4, .int v1), (0, .int a0), (1, .int a1), (2, .int a2), (3, .ref (ad (iF o3)))] := hl
    refine W_q fX6_fulfilling_J28_20_u ?_
    refine lv_istore (lv' := [(7, .int v4), (6, .int v3), (5, .int v2), (4, .int v1), (0, .int a0), (1, .int a1), (2, .int a2), (3, .ref (ad (iF o3)))]) hx hb dX6_fulfilling_28 hl (by decide) rfl (fun ls hl => ?_)
    refine lv_iload hx hb dX6_fulfilling_30 (lv_at hl 1 rfl) ?_
    refine W_jn (fun (x : Int32) H locs => KH SK E ad sz M s.heap H locs) (fun x ls => lv_has ls 10 [(7, .int v4), (6, .int v3), (5, .int v2), (4, .int v1), (0, .int a0), (3, .ref (ad (iF o3)))]) (fun x ls => F0 m 40 ls [.int x]) ?_ (fun K40_32 hK40_32 => ?_)
    · intro v5 H locs ls hH hl
      have hH : KH SK E ad sz M s.heap H locs := hH
      have hl : lv_has ls 10 [(7, .int v4), (6, .int v3), (5, .int v2), (4, .int v1), (0, .int a0), (3, .ref (ad (iF o3)))] := hl
      refine W_q fX6_fulfilling_J40_32_u ?_
      refine lv_istore (lv' := [(8, .int v5), (7, .int v4), (6, .int v3), (5, .int v2), (4, .int v1), (0, .int a0), (3, .ref (ad (iF o3)))]) hx hb dX6_fulfilling_40 hl (by decide) rfl (fun ls hl => ?_)
      refine lv_iload hx hb dX6_fulfilling_42 (lv_at hl 3 rfl) ?_
      refine lv_iconst (v := 2) hx hb dX6_fulfilling_44 (by decide) ?_
      refine W_jn (fun (x : Int32) H locs => KH SK E ad sz M s.heap H locs) (fun x ls => lv_has ls 10 [(0, .int a0), (9, .int x)]) (fun x ls => F0 m 119 ls []) ?_ (fun K119_45 hK119_45 => ?_)
      · intro v6 H locs ls hH hl
        have hH : KH SK E ad sz M s.heap H locs := hH
        have hl : lv_has ls 10 [(0, .int a0), (9, .int v6)] := hl
        refine W_q fX6_fulfilling_J119_45_u ?_
        refine lv_iload_n hx hb dX6_fulfilling_119 rfl (lv_at hl 0 rfl) ?_
        refine kb_if_ge (tgt := 133) hx hb dX6_fulfilling_120 (by decide) (fun _ => ?_) (fun _ => ?_)
        · refine lv_iload hx hb dX6_fulfilling_133 (lv_at hl 1 rfl) ?_
          exact ke_i C hH hr (Nat.le_refl _) (Nat.le_refl _) rfl dX6_fulfilling_135
        · refine lv_bipush (v := 63) hx hb dX6_fulfilling_123 (by decide) ?_
          refine lv_iload hx hb dX6_fulfilling_125 (lv_at hl 1 rfl) ?_
          refine lv_iconst (v := (-1)) hx hb dX6_fulfilling_127 (by decide) ?_
          refine lv_ixor hx hb dX6_fulfilling_128 ?_
          refine lv_iand hx hb dX6_fulfilling_129 ?_
          refine lv_goto (tgt := 135) hx hb dX6_fulfilling_130 (by decide) ?_
          exact ke_i C hH hr (Nat.le_refl _) (Nat.le_refl _) rfl dX6_fulfilling_135
      · refine kb_icmp_ne (tgt := 76) hx hb dX6_fulfilling_45 (by decide) (fun _ => ?_) (fun _ => ?_)
        · refine lv_iload hx hb dX6_fulfilling_76 (lv_at hl 2 rfl) ?_
          refine lv_iconst (v := 2) hx hb dX6_fulfilling_78 (by decide) ?_
          refine kb_icmp_ne (tgt := 95) hx hb dX6_fulfilling_79 (by decide) (fun _ => ?_) (fun _ => ?_)
          · refine lv_aload_n hx hb dX6_fulfilling_95 rfl (lv_at hl 6 rfl) ?_
            refine lv_iload hx hb dX6_fulfilling_96 (lv_at hl 4 rfl) ?_
            refine lv_iload hx hb dX6_fulfilling_98 (lv_at hl 1 rfl) ?_
            refine kg_io C hH (kc_V C hH w_2_111 lc_yX2_to li_yX2_to (oF (f := o3) ho3) (kX2_to l E ad M o3 ho3 v1 v4) (As := [.int v1, .int v4]) rfl dX6_fulfilling_100 rfl hl.1 (Nat.le_of_ble_eq_true rfl) ⟨Nat.le_of_ble_eq_true rfl, Nat.le_of_ble_eq_true rfl⟩ ⟨Nat.le_of_ble_eq_true rfl, Nat.le_of_ble_eq_true rfl⟩) ⟨rfl, rfl⟩ (fun v7 H locs hH => ?_)
            refine lv_iload hx hb dX6_fulfilling_103 (lv_at hl 0 rfl) ?_
            refine k_ishr hx hb dX6_fulfilling_105 ?_
            refine lv_iconst (v := 1) hx hb dX6_fulfilling_106 (by decide) ?_
            refine lv_iand hx hb dX6_fulfilling_107 ?_
            refine kb_if_eq (tgt := 116) hx hb dX6_fulfilling_108 (by decide) (fun _ => ?_) (fun _ => ?_)
            · refine lv_iconst (v := 0) hx hb dX6_fulfilling_116 (by decide) ?_
              refine lv_istore (lv' := [(9, .int 0), (8, .int v5), (7, .int v4), (6, .int v3), (5, .int v2), (4, .int v1), (0, .int a0), (3, .ref (ad (iF o3)))]) hx hb dX6_fulfilling_117 hl (by decide) rfl (fun ls hl => ?_)
              exact hK119_45 0 _ _ _ hH (lv_sub hl [6, 0] rfl)
            · refine lv_bipush (v := 63) hx hb dX6_fulfilling_111 (by decide) ?_
              refine lv_goto (tgt := 117) hx hb dX6_fulfilling_113 (by decide) ?_
              refine lv_istore (lv' := [(9, .int 63), (8, .int v5), (7, .int v4), (6, .int v3), (5, .int v2), (4, .int v1), (0, .int a0), (3, .ref (ad (iF o3)))]) hx hb dX6_fulfilling_117 hl (by decide) rfl (fun ls hl => ?_)
              exact hK119_45 63 _ _ _ hH (lv_sub hl [6, 0] rfl)
          · refine lv_aload_n hx hb dX6_fulfilling_82 rfl (lv_at hl 6 rfl) ?_
            refine lv_iload hx hb dX6_fulfilling_83 (lv_at hl 4 rfl) ?_
            refine lv_iload hx hb dX6_fulfilling_85 (lv_at hl 1 rfl) ?_
            refine kg_io C hH (kc_V C hH w_2_111 lc_yX2_to li_yX2_to (oF (f := o3) ho3) (kX2_to l E ad M o3 ho3 v1 v4) (As := [.int v1, .int v4]) rfl dX6_fulfilling_87 rfl hl.1 (Nat.le_of_ble_eq_true rfl) ⟨Nat.le_of_ble_eq_true rfl, Nat.le_of_ble_eq_true rfl⟩ ⟨Nat.le_of_ble_eq_true rfl, Nat.le_of_ble_eq_true rfl⟩) ⟨rfl, rfl⟩ (fun v8 H locs hH => ?_)
            refine lv_istore (lv' := [(9, .int v8), (8, .int v5), (7, .int v4), (6, .int v3), (5, .int v2), (4, .int v1), (0, .int a0), (3, .ref (ad (iF o3)))]) hx hb dX6_fulfilling_90 hl (by decide) rfl (fun ls hl => ?_)
            refine lv_goto (tgt := 119) hx hb dX6_fulfilling_92 (by decide) ?_
            exact hK119_45 v8 _ _ _ hH (lv_sub hl [6, 0] rfl)
        · refine lv_iload hx hb dX6_fulfilling_48 (lv_at hl 2 rfl) ?_
          refine lv_iconst (v := 2) hx hb dX6_fulfilling_50 (by decide) ?_
          refine kb_icmp_ne (tgt := 63) hx hb dX6_fulfilling_51 (by decide) (fun _ => ?_) (fun _ => ?_)
          · refine lv_aload_n hx hb dX6_fulfilling_63 rfl (lv_at hl 6 rfl) ?_
            refine lv_iload hx hb dX6_fulfilling_64 (lv_at hl 4 rfl) ?_
            refine lv_iload hx hb dX6_fulfilling_66 (lv_at hl 0 rfl) ?_
            refine kg_io C hH (kc_V C hH w_2_107 lc_yX2_from li_yX2_from (oF (f := o3) ho3) (kX2_from l E ad M o3 ho3 v1 v5) (As := [.int v1, .int v5]) rfl dX6_fulfilling_68 rfl hl.1 (Nat.le_of_ble_eq_true rfl) ⟨Nat.le_of_ble_eq_true rfl, Nat.le_of_ble_eq_true rfl⟩ ⟨Nat.le_of_ble_eq_true rfl, Nat.le_of_ble_eq_true rfl⟩) ⟨rfl, rfl⟩ (fun v9 H locs hH => ?_)
            refine lv_istore (lv' := [(9, .int v9), (8, .int v5), (7, .int v4), (6, .int v3), (5, .int v2), (4, .int v1), (0, .int a0), (3, .ref (ad (iF o3)))]) hx hb dX6_fulfilling_71 hl (by decide) rfl (fun ls hl => ?_)
            refine lv_goto (tgt := 119) hx hb dX6_fulfilling_73 (by decide) ?_
            exact hK119_45 v9 _ _ _ hH (lv_sub hl [6, 0] rfl)
          · refine lv_aload_n hx hb dX6_fulfilling_54 rfl (lv_at hl 6 rfl) ?_
            refine lv_iload hx hb dX6_fulfilling_55 (lv_at hl 4 rfl) ?_
            refine kg_io C hH (kc_V C hH w_2_103 lc_yX2_toThemselves li_yX2_toThemselves (oF (f := o3) ho3) (kX2_toThemselves l E ad M o3 ho3 v1) (As := [.int v1]) rfl dX6_fulfilling_57 rfl hl.1 (Nat.le_of_ble_eq_true rfl) ⟨Nat.le_of_ble_eq_true rfl, Nat.le_of_ble_eq_true rfl⟩ ⟨Nat.le_of_ble_eq_true rfl, Nat.le_of_ble_eq_true rfl⟩) ⟨rfl, rfl⟩ (fun v10 H locs hH => ?_)
            refine lv_goto (tgt := 71) hx hb dX6_fulfilling_60 (by decide) ?_
            refine lv_istore (lv' := [(9, .int v10), (8, .int v5), (7, .int v4), (6, .int v3), (5, .int v2), (4, .int v1), (0, .int a0), (3, .ref (ad (iF o3)))]) hx hb dX6_fulfilling_71 hl (by decide) rfl (fun ls hl => ?_)
            refine lv_goto (tgt := 119) hx hb dX6_fulfilling_73 (by decide) ?_
            exact hK119_45 v10 _ _ _ hH (lv_sub hl [6, 0] rfl)
    · refine kb_if_ne (tgt := 39) hx hb dX6_fulfilling_32 (by decide) (fun _ => ?_) (fun _ => ?_)
      · refine lv_iload_n hx hb dX6_fulfilling_39 rfl (lv_at hl 6 rfl) ?_
        exact hK40_32 a2 _ _ _ hH (lv_sub hl [0, 1, 2, 3, 4, 7] rfl)
      · refine lv_iload_n hx hb dX6_fulfilling_35 rfl (lv_at hl 5 rfl) ?_
        refine lv_goto (tgt := 40) hx hb dX6_fulfilling_36 (by decide) ?_
        exact hK40_32 a1 _ _ _ hH (lv_sub hl [0, 1, 2, 3, 4, 7] rfl)
  · refine kb_if_ne (tgt := 27) hx hb dX6_fulfilling_20 (by decide) (fun _ => ?_) (fun _ => ?_)
    · refine lv_iload_n hx hb dX6_fulfilling_27 rfl (lv_at hl 5 rfl) ?_
      exact hK28_20 a2 _ _ _ hH (lv_sub hl [0, 1, 2, 3, 4, 5, 6] rfl)
    · refine lv_iload_n hx hb dX6_fulfilling_23 rfl (lv_at hl 4 rfl) ?_
      refine lv_goto (tgt := 28) hx hb dX6_fulfilling_24 (by decide) ?_
      exact hK28_20 a1 _ _ _ hH (lv_sub hl [0, 1, 2, 3, 4, 5, 6] rfl)
def fX6_makersOf_X29 (x : Int32 × Int32) : Option (Int32) := match x with | (v5, v6) => some (v5 &&& v6)
theorem fX6_makersOf_X29_u {v5 : Int32} {v6 : Int32} : fX6_makersOf_X29 (v5, v6) = some (v5 &&& v6) := rfl
def fX6_makersOf_J68_51 (M : KS) (a2 : Int32) (a3 : Int32) (o5 : Nat) (v3 : Int32) (v4 : Int32) (rec29 : (Int32 × Int32 × Int32) → Option (Int32)) (v7 : Int32) (v8 : Int32) : Option (Int32) := (if v7 ≤ 0 then nm (v4 + 1) fun v9 => rec29 (v8, v3, v9) else (fX6_fulfilling M v7 a2 a3 o5).bind fun v10 => nm ((v3 ||| v10)) fun v11 => nm (v4 + 1) fun v12 => rec29 (v8, v11, v12))
theorem fX6_makersOf_J68_51_u {M : KS} {a2 : Int32} {a3 : Int32} {o5 : Nat} {v3 : Int32} {v4 : Int32} {rec29 : (Int32 × Int32 × Int32) → Option (Int32)} {v7 : Int32} {v8 : Int32} : fX6_makersOf_J68_51 M a2 a3 o5 v3 v4 rec29 v7 v8 = (if v7 ≤ 0 then nm (v4 + 1) fun v9 => rec29 (v8, v3, v9) else (fX6_fulfilling M v7 a2 a3 o5).bind fun v10 => nm ((v3 ||| v10)) fun v11 => nm (v4 + 1) fun v12 => rec29 (v8, v11, v12)) := rfl
def fX6_makersOf_L29 (M : KS) (o0 : Nat) (a1 : Int32) (a2 : Int32) (a3 : Int32) (o4 : Nat) (o5 : Nat) (rec29 : (Int32 × Int32 × Int32) → Option (Int32)) (k29 : (Int32 × Int32) → Option (Int32)) (x : Int32 × Int32 × Int32) : Option (Int32) := match x with | (v2, v3, v4) => (if 3 ≤ v4 then k29 (v2, v3) else (if v2 = 0 then k29 (v2, v3) else (fX6_code M o0 a1 v4).bind fun v7 => jn (fX6_makersOf_J68_51 M a2 a3 o5 v3 v4 rec29 v7) (fun K68_51 => (if v7 = 0 then K68_51 v2 else (fX6_fulfilling M v7 a2 a3 o4).bind fun v13 => nm ((v2 &&& v13)) fun v14 => K68_51 v14))))
theorem fX6_makersOf_L29_u {M : KS} {o0 : Nat} {a1 : Int32} {a2 : Int32} {a3 : Int32} {o4 : Nat} {o5 : Nat} {rec29 : (Int32 × Int32 × Int32) → Option (Int32)} {k29 : (Int32 × Int32) → Option (Int32)} {v2 : Int32} {v3 : Int32} {v4 : Int32} : fX6_makersOf_L29 M o0 a1 a2 a3 o4 o5 rec29 k29 (v2, v3, v4) = (if 3 ≤ v4 then k29 (v2, v3) else (if v2 = 0 then k29 (v2, v3) else (fX6_code M o0 a1 v4).bind fun v7 => jn (fX6_makersOf_J68_51 M a2 a3 o5 v3 v4 rec29 v7) (fun K68_51 => (if v7 = 0 then K68_51 v2 else (fX6_fulfilling M v7 a2 a3 o4).bind fun v13 => nm ((v2 &&& v13)) fun v14 => K68_51 v14)))) := rfl
def fX6_makersOf (M : KS) (o0 : Nat) (a1 : Int32) (a2 : Int32) (a3 : Int32) (o4 : Nat) (o5 : Nat) : Option (Int32) := (if a1 < 0 then some 0 else (if a1 < 11 then if inb a1 11 then nm ((M.1 (iRa o0) a1.toNatClampNeg)) fun v1 => lp (fX6_makersOf_L29 M o0 a1 a2 a3 o4 o5) (fX6_makersOf_X29) 1000000 (v1, 0, 0) else none else some 0))
set_option maxHeartbeats 4000000 in
set_option maxRecDepth 100000 in
theorem kX6_makersOf (l : Launch) (E : KE) (ad : Nat → Nat) (M : KS) (o0 : Nat) (ho0 : o0 < 11) (a1 : Int32) (a2 : Int32) (a3 : Int32) (o4 : Nat) (ho4 : o4 < 15) (o5 : Nat) (ho5 : o5 < 15) : CT l yX6_makersOf cX6_makersOf 10 (some .int) { frames := 2, cells := 0, slots := 0, locals := 53 } SK E ad [.ref (ad (iR o0)), .int a1, .int a2, .int a3, .ref (ad (iF o4)), .ref (ad (iF o5))] M (fun sz a => QI SK E ad sz (a, M)) (fX6_makersOf M o0 a1 a2 a3 o4 o5) := by
  refine CT.ofW (by decide) (Nat.le_of_ble_eq_true rfl) (fun sz p e s m args below meth c C hr hH ls hl => ?_)
  have hx := C.1.1
  have hb := C.1.2.1
  have hl : lv_has ls 10 [(0, .ref (ad (iR o0))), (1, .int a1), (2, .int a2), (3, .int a3), (4, .ref (ad (iF o4))), (5, .ref (ad (iF o5)))] := hl
  unfold fX6_makersOf
  refine lv_iload_n hx hb dX6_makersOf_0 rfl (lv_at hl 1 rfl) ?_
  refine kb_if_lt (tgt := 13) hx hb dX6_makersOf_1 (by decide) (fun _ => ?_) (fun _ => ?_)
  · refine lv_iconst (v := 0) hx hb dX6_makersOf_13 (by decide) ?_
    exact ke_i C hH hr (Nat.le_refl _) (Nat.le_refl _) rfl dX6_makersOf_14
  · refine lv_iload_n hx hb dX6_makersOf_4 rfl (lv_at hl 1 rfl) ?_
    refine lv_aload_n hx hb dX6_makersOf_5 rfl (lv_at hl 0 rfl) ?_
    refine k_get C hH fd_X6_9 (oR (f := o0) ho0) (k_ref (M := M) (ad := ad) (rR0 (f := o0) ho0)) dX6_makersOf_6 ?_
    refine k_ilen C hH (aR0 (f := o0) ho0) (v := 11) rfl dX6_makersOf_9 ?_
    refine kb_icmp_lt (tgt := 15) hx hb dX6_makersOf_10 (by decide) (fun _ => ?_) (fun _ => ?_)
    · refine lv_aload_n hx hb dX6_makersOf_15 rfl (lv_at hl 0 rfl) ?_
      refine k_get C hH fd_X6_18 (oR (f := o0) ho0) (k_ref (M := M) (ad := ad) (rR2 (f := o0) ho0)) dX6_makersOf_16 ?_
      refine lv_iload_n hx hb dX6_makersOf_19 rfl (lv_at hl 1 rfl) ?_
      refine k_iald C hH (aR2 (f := o0) ho0) dX6_makersOf_20 ?_
      refine W_nmi (fun v1 => ?_)
      refine lv_istore (lv' := [(6, .int v1), (0, .ref (ad (iR o0))), (1, .int a1), (2, .int a2), (3, .int a3), (4, .ref (ad (iF o4))), (5, .ref (ad (iF o5)))]) hx hb dX6_makersOf_21 hl (by decide) rfl (fun ls hl => ?_)
      refine lv_iconst (v := 0) hx hb dX6_makersOf_23 (by decide) ?_
      refine lv_istore (lv' := [(7, .int 0), (6, .int v1), (0, .ref (ad (iR o0))), (1, .int a1), (2, .int a2), (3, .int a3), (4, .ref (ad (iF o4))), (5, .ref (ad (iF o5)))]) hx hb dX6_makersOf_24 hl (by decide) rfl (fun ls hl => ?_)
      refine lv_iconst (v := 0) hx hb dX6_makersOf_26 (by decide) ?_
      refine lv_istore (lv' := [(8, .int 0), (7, .int 0), (6, .int v1), (0, .ref (ad (iR o0))), (1, .int a1), (2, .int a2), (3, .int a3), (4, .ref (ad (iF o4))), (5, .ref (ad (iF o5)))]) hx hb dX6_makersOf_27 hl (by decide) rfl (fun ls hl => ?_)
      refine W_lp (fun (x : Int32 × Int32 × Int32) H locs => KH SK E ad sz M s.heap H locs) (fun x ls => lv_has ls 10 [(0, .ref (ad (iR o0))), (1, .int a1), (2, .int a2), (3, .int a3), (4, .ref (ad (iF o4))), (5, .ref (ad (iF o5))), (6, .int x.1), (7, .int x.2.1), (8, .int x.2.2)]) (fun _ ls => F0 m 29 ls []) (fun (x : Int32 × Int32) H locs => KH SK E ad sz M s.heap H locs) (fun x ls => lv_has ls 10 [(6, .int x.1), (7, .int x.2)]) (fun _ ls => F0 m 93 ls []) ?_ ?_ hH (lv_sub hl [3, 4, 5, 6, 7, 8, 2, 1, 0] rfl)
      · intro ⟨v5, v6⟩ H locs ls hH hl
        have hH : KH SK E ad sz M s.heap H locs := hH
        have hl : lv_has ls 10 [(6, .int v5), (7, .int v6)] := hl
        refine W_q fX6_makersOf_X29_u ?_
        refine lv_iload hx hb dX6_makersOf_93 (lv_at hl 0 rfl) ?_
        refine lv_iload hx hb dX6_makersOf_95 (lv_at hl 1 rfl) ?_
        refine lv_iand hx hb dX6_makersOf_97 ?_
        exact ke_i C hH hr (Nat.le_refl _) (Nat.le_refl _) rfl dX6_makersOf_98
      · intro rec29 k29 hrec29 hk29 ⟨v2, v3, v4⟩ H locs ls hH hl
        have hH : KH SK E ad sz M s.heap H locs := hH
        have hl : lv_has ls 10 [(0, .ref (ad (iR o0))), (1, .int a1), (2, .int a2), (3, .int a3), (4, .ref (ad (iF o4))), (5, .ref (ad (iF o5))), (6, .int v2), (7, .int v3), (8, .int v4)] := hl
        refine W_q fX6_makersOf_L29_u ?_
        refine lv_iload hx hb dX6_makersOf_29 (lv_at hl 8 rfl) ?_
        refine lv_iconst (v := 3) hx hb dX6_makersOf_31 (by decide) ?_
        refine kb_icmp_ge (tgt := 93) hx hb dX6_makersOf_32 (by decide) (fun _ => ?_) (fun _ => ?_)
        · exact hk29 (v2, v3) _ _ _ hH (lv_sub hl [6, 7] rfl)
        · refine lv_iload hx hb dX6_makersOf_35 (lv_at hl 6 rfl) ?_
          refine kb_if_eq (tgt := 93) hx hb dX6_makersOf_37 (by decide) (fun _ => ?_) (fun _ => ?_)
          · exact hk29 (v2, v3) _ _ _ hH (lv_sub hl [6, 7] rfl)
          · refine lv_aload_n hx hb dX6_makersOf_40 rfl (lv_at hl 0 rfl) ?_
            refine lv_iload_n hx hb dX6_makersOf_41 rfl (lv_at hl 1 rfl) ?_
            refine lv_iload hx hb dX6_makersOf_42 (lv_at hl 8 rfl) ?_
            refine kg_io C hH (kc_V C hH w_2_92 lc_yX6_code li_yX6_code (oR (f := o0) ho0) (kX6_code l E ad M o0 ho0 a1 v4) (As := [.int a1, .int v4]) rfl dX6_makersOf_44 rfl hl.1 (Nat.le_of_ble_eq_true rfl) ⟨Nat.le_of_ble_eq_true rfl, Nat.le_of_ble_eq_true rfl⟩ ⟨Nat.le_of_ble_eq_true rfl, Nat.le_of_ble_eq_true rfl⟩) ⟨rfl, rfl⟩ (fun v7 H locs hH => ?_)
            refine lv_istore (lv' := [(9, .int v7), (0, .ref (ad (iR o0))), (1, .int a1), (2, .int a2), (3, .int a3), (4, .ref (ad (iF o4))), (5, .ref (ad (iF o5))), (6, .int v2), (7, .int v3), (8, .int v4)]) hx hb dX6_makersOf_47 hl (by decide) rfl (fun ls hl => ?_)
            refine lv_iload hx hb dX6_makersOf_49 (lv_at hl 0 rfl) ?_
            refine W_jn (fun (x : Int32) H locs => KH SK E ad sz M s.heap H locs) (fun x ls => lv_has ls 10 [(9, .int v7), (0, .ref (ad (iR o0))), (1, .int a1), (2, .int a2), (3, .int a3), (4, .ref (ad (iF o4))), (5, .ref (ad (iF o5))), (7, .int v3), (8, .int v4), (6, .int x)]) (fun x ls => F0 m 68 ls []) ?_ (fun K68_51 hK68_51 => ?_)
            · intro v8 H locs ls hH hl
              have hH : KH SK E ad sz M s.heap H locs := hH
              have hl : lv_has ls 10 [(9, .int v7), (0, .ref (ad (iR o0))), (1, .int a1), (2, .int a2), (3, .int a3), (4, .ref (ad (iF o4))), (5, .ref (ad (iF o5))), (7, .int v3), (8, .int v4), (6, .int v8)] := hl
              refine W_q fX6_makersOf_J68_51_u ?_
              refine lv_iload hx hb dX6_makersOf_68 (lv_at hl 0 rfl) ?_
              refine kb_if_le (tgt := 87) hx hb dX6_makersOf_70 (by decide) (fun _ => ?_) (fun _ => ?_)
              · refine W_nm (fun v9 ev9 => ?_)
                refine lv_iinc (v := v9) (lv' := [(8, .int v9), (9, .int v7), (0, .ref (ad (iR o0))), (1, .int a1), (2, .int a2), (3, .int a3), (4, .ref (ad (iF o4))), (5, .ref (ad (iF o5))), (7, .int v3), (6, .int v8)]) hx hb dX6_makersOf_87 hl (k := 8) rfl (by rw [ev9]; rfl) (by decide) rfl (fun ls hl => ?_)
                refine lv_goto (tgt := 29) hx hb dX6_makersOf_90 (by decide) ?_
                exact hrec29 (v8, v3, v9) _ _ _ hH (lv_sub hl [2, 3, 4, 5, 6, 7, 9, 8, 0] rfl)
              · refine lv_iload hx hb dX6_makersOf_73 (lv_at hl 7 rfl) ?_
                refine lv_iload hx hb dX6_makersOf_75 (lv_at hl 0 rfl) ?_
                refine lv_iload_n hx hb dX6_makersOf_77 rfl (lv_at hl 3 rfl) ?_
                refine lv_iload_n hx hb dX6_makersOf_78 rfl (lv_at hl 4 rfl) ?_
                refine lv_aload hx hb dX6_makersOf_79 (lv_at hl 6 rfl) ?_
                refine kg_io C hH (kc_S C hH w_2_93 w_st_yX6_fulfilling rfl lc_yX6_fulfilling (kX6_fulfilling l E ad M v7 a2 a3 o5 ho5) (As := [.int v7, .int a2, .int a3, .ref (ad (iF o5))]) rfl dX6_makersOf_81 rfl hl.1 (Nat.le_of_ble_eq_true rfl) ⟨Nat.le_of_ble_eq_true rfl, Nat.le_of_ble_eq_true rfl⟩ ⟨Nat.le_of_ble_eq_true rfl, Nat.le_of_ble_eq_true rfl⟩) ⟨rfl, rfl⟩ (fun v10 H locs hH => ?_)
                refine lv_ior hx hb dX6_makersOf_84 ?_
                refine W_nmi (fun v11 => ?_)
                refine lv_istore (lv' := [(7, .int v11), (9, .int v7), (0, .ref (ad (iR o0))), (1, .int a1), (2, .int a2), (3, .int a3), (4, .ref (ad (iF o4))), (5, .ref (ad (iF o5))), (8, .int v4), (6, .int v8)]) hx hb dX6_makersOf_85 hl (by decide) rfl (fun ls hl => ?_)
                refine W_nm (fun v12 ev12 => ?_)
                refine lv_iinc (v := v12) (lv' := [(8, .int v12), (7, .int v11), (9, .int v7), (0, .ref (ad (iR o0))), (1, .int a1), (2, .int a2), (3, .int a3), (4, .ref (ad (iF o4))), (5, .ref (ad (iF o5))), (6, .int v8)]) hx hb dX6_makersOf_87 hl (k := 8) rfl (by rw [ev12]; rfl) (by decide) rfl (fun ls hl => ?_)
                refine lv_goto (tgt := 29) hx hb dX6_makersOf_90 (by decide) ?_
                exact hrec29 (v8, v11, v12) _ _ _ hH (lv_sub hl [3, 4, 5, 6, 7, 8, 9, 1, 0] rfl)
            · refine kb_if_eq (tgt := 68) hx hb dX6_makersOf_51 (by decide) (fun _ => ?_) (fun _ => ?_)
              · exact hK68_51 v2 _ _ _ hH (lv_sub hl [0, 1, 2, 3, 4, 5, 6, 8, 9, 7] rfl)
              · refine lv_iload hx hb dX6_makersOf_54 (lv_at hl 7 rfl) ?_
                refine lv_iload hx hb dX6_makersOf_56 (lv_at hl 0 rfl) ?_
                refine lv_iload_n hx hb dX6_makersOf_58 rfl (lv_at hl 3 rfl) ?_
                refine lv_iload_n hx hb dX6_makersOf_59 rfl (lv_at hl 4 rfl) ?_
                refine lv_aload hx hb dX6_makersOf_60 (lv_at hl 5 rfl) ?_
                refine kg_io C hH (kc_S C hH w_2_93 w_st_yX6_fulfilling rfl lc_yX6_fulfilling (kX6_fulfilling l E ad M v7 a2 a3 o4 ho4) (As := [.int v7, .int a2, .int a3, .ref (ad (iF o4))]) rfl dX6_makersOf_62 rfl hl.1 (Nat.le_of_ble_eq_true rfl) ⟨Nat.le_of_ble_eq_true rfl, Nat.le_of_ble_eq_true rfl⟩ ⟨Nat.le_of_ble_eq_true rfl, Nat.le_of_ble_eq_true rfl⟩) ⟨rfl, rfl⟩ (fun v13 H locs hH => ?_)
                refine lv_iand hx hb dX6_makersOf_65 ?_
                refine W_nmi (fun v14 => ?_)
                refine lv_istore (lv' := [(6, .int v14), (9, .int v7), (0, .ref (ad (iR o0))), (1, .int a1), (2, .int a2), (3, .int a3), (4, .ref (ad (iF o4))), (5, .ref (ad (iF o5))), (7, .int v3), (8, .int v4)]) hx hb dX6_makersOf_66 hl (by decide) rfl (fun ls hl => ?_)
                exact hK68_51 v14 _ _ _ hH (lv_sub hl [1, 2, 3, 4, 5, 6, 7, 8, 9, 0] rfl)
    · refine lv_iconst (v := 0) hx hb dX6_makersOf_13 (by decide) ?_
      exact ke_i C hH hr (Nat.le_refl _) (Nat.le_refl _) rfl dX6_makersOf_14
def fX9_lowestOf_X2 (_ : Unit) : Option (Int32) := some 0
theorem fX9_lowestOf_X2_u {u : Unit} : fX9_lowestOf_X2 u = some 0 := rfl
def fX9_lowestOf_L2 (a0 : Int32) (rec2 : (Int32) → Option (Int32)) (k2 : (Unit) → Option (Int32)) (v1 : Int32) : Option (Int32) := (if 6 ≤ v1 then k2 () else (if ((jshr a0 v1) &&& 1) = 0 then nm (v1 + 1) fun v2 => rec2 v2 else some v1))
theorem fX9_lowestOf_L2_u {a0 : Int32} {rec2 : (Int32) → Option (Int32)} {k2 : (Unit) → Option (Int32)} {v1 : Int32} : fX9_lowestOf_L2 a0 rec2 k2 v1 = (if 6 ≤ v1 then k2 () else (if ((jshr a0 v1) &&& 1) = 0 then nm (v1 + 1) fun v2 => rec2 v2 else some v1)) := rfl
def fX9_lowestOf (a0 : Int32) : Option (Int32) := lp (fX9_lowestOf_L2 a0) (fX9_lowestOf_X2) 1000000 0
set_option maxHeartbeats 4000000 in
set_option maxRecDepth 100000 in
theorem kX9_lowestOf (l : Launch) (E : KE) (ad : Nat → Nat) (M : KS) (a0 : Int32) : CT l yX9_lowestOf cX9_lowestOf 2 (some .int) { frames := 0, cells := 0, slots := 0, locals := 0 } SK E ad [.int a0] M (fun sz a => QI SK E ad sz (a, M)) (fX9_lowestOf a0) := by
  refine CT.ofW (by decide) (Nat.le_of_ble_eq_true rfl) (fun sz p e s m args below meth c C hr hH ls hl => ?_)
  have hx := C.1.1
  have hb := C.1.2.1
  have hl : lv_has ls 2 [(0, .int a0)] := hl
  unfold fX9_lowestOf
  refine lv_iconst (v := 0) hx hb dX9_lowestOf_0 (by decide) ?_
  refine lv_istore_n (lv' := [(1, .int 0), (0, .int a0)]) hx hb dX9_lowestOf_1 rfl hl (by decide) rfl (fun ls hl => ?_)
  refine W_lp (fun (x : Int32) H locs => KH SK E ad sz M s.heap H locs) (fun x ls => lv_has ls 2 [(0, .int a0), (1, .int x)]) (fun _ ls => F0 m 2 ls []) (fun (x : Unit) H locs => KH SK E ad sz M s.heap H locs) (fun x ls => lv_has ls 2 []) (fun _ ls => F0 m 24 ls []) ?_ ?_ hH (lv_sub hl [1, 0] rfl)
  · intro _ H locs ls hH hl
    have hH : KH SK E ad sz M s.heap H locs := hH
    have hl : lv_has ls 2 [] := hl
    refine W_q fX9_lowestOf_X2_u ?_
    refine lv_iconst (v := 0) hx hb dX9_lowestOf_24 (by decide) ?_
    exact ke_i C hH hr (Nat.le_refl _) (Nat.le_refl _) rfl dX9_lowestOf_25
  · intro rec2 k2 hrec2 hk2 v1 H locs ls hH hl
    have hH : KH SK E ad sz M s.heap H locs := hH
    have hl : lv_has ls 2 [(0, .int a0), (1, .int v1)] := hl
    refine W_q fX9_lowestOf_L2_u ?_
    refine lv_iload_n hx hb dX9_lowestOf_2 rfl (lv_at hl 1 rfl) ?_
    refine lv_bipush (v := 6) hx hb dX9_lowestOf_3 (by decide) ?_
    refine kb_icmp_ge (tgt := 24) hx hb dX9_lowestOf_5 (by decide) (fun _ => ?_) (fun _ => ?_)
    · exact hk2 () _ _ _ hH (lv_sub hl [] rfl)
    · refine lv_iload_n hx hb dX9_lowestOf_8 rfl (lv_at hl 0 rfl) ?_
      refine lv_iload_n hx hb dX9_lowestOf_9 rfl (lv_at hl 1 rfl) ?_
      refine k_ishr hx hb dX9_lowestOf_10 ?_
      refine lv_iconst (v := 1) hx hb dX9_lowestOf_11 (by decide) ?_
      refine lv_iand hx hb dX9_lowestOf_12 ?_
      refine kb_if_eq (tgt := 18) hx hb dX9_lowestOf_13 (by decide) (fun _ => ?_) (fun _ => ?_)
      · refine W_nm (fun v2 ev2 => ?_)
        refine lv_iinc (v := v2) (lv' := [(1, .int v2), (0, .int a0)]) hx hb dX9_lowestOf_18 hl (k := 1) rfl (by rw [ev2]; rfl) (by decide) rfl (fun ls hl => ?_)
        refine lv_goto (tgt := 2) hx hb dX9_lowestOf_21 (by decide) ?_
        exact hrec2 v2 _ _ _ hH (lv_sub hl [1, 0] rfl)
      · refine lv_iload_n hx hb dX9_lowestOf_16 rfl (lv_at hl 1 rfl) ?_
        exact ke_i C hH hr (Nat.le_refl _) (Nat.le_refl _) rfl dX9_lowestOf_17
def fX1_enter (M : KS) (a1 : Int32) (a2 : Int32) (a3 : Int32) (a4 : Int32) : Option (KS) := (if a1 < 0 then some M else (if a1 < 216 then if inb a1 216 then nm (kset M 107 a1.toNatClampNeg a2) fun M1 => if inb a1 216 then nm (kset M1 108 a1.toNatClampNeg a3) fun M2 => if inb a1 216 then nm (kset M2 109 a1.toNatClampNeg a4) fun M3 => (fX2_put M3 13 a1).bind fun M4 => some M4 else none else none else none else some M))
set_option maxHeartbeats 4000000 in
set_option maxRecDepth 100000 in
theorem kX1_enter (l : Launch) (E : KE) (ad : Nat → Nat) (M : KS) (a1 : Int32) (a2 : Int32) (a3 : Int32) (a4 : Int32) : CT l yX1_enter cX1_enter 5 none { frames := 1, cells := 0, slots := 0, locals := 21 } SK E ad [.ref (ad 106), .int a1, .int a2, .int a3, .int a4] M (QV SK E ad) (fX1_enter M a1 a2 a3 a4) := by
  refine CT.ofW (by decide) (Nat.le_of_ble_eq_true rfl) (fun sz p e s m args below meth c C hr hH ls hl => ?_)
  have hx := C.1.1
  have hb := C.1.2.1
  have hl : lv_has ls 5 [(0, .ref (ad 106)), (1, .int a1), (2, .int a2), (3, .int a3), (4, .int a4)] := hl
  unfold fX1_enter
  refine lv_iload_n hx hb dX1_enter_0 rfl (lv_at hl 1 rfl) ?_
  refine kb_if_lt (tgt := 11) hx hb dX1_enter_1 (by decide) (fun _ => ?_) (fun _ => ?_)
  · exact ke_v C hH hr (Nat.le_refl _) (Nat.le_refl _) rfl dX1_enter_11
  · refine lv_iload_n hx hb dX1_enter_4 rfl (lv_at hl 1 rfl) ?_
    refine lv_sipush (v := 216) hx hb dX1_enter_5 (by decide) ?_
    refine kb_icmp_lt (tgt := 12) hx hb dX1_enter_8 (by decide) (fun _ => ?_) (fun _ => ?_)
    · refine lv_aload_n hx hb dX1_enter_12 rfl (lv_at hl 0 rfl) ?_
      refine k_get C hH fd_X1_31 oD (k_ref (M := M) (ad := ad) rD4) dX1_enter_13 ?_
      refine lv_iload_n hx hb dX1_enter_16 rfl (lv_at hl 1 rfl) ?_
      refine lv_iload_n hx hb dX1_enter_17 rfl (lv_at hl 2 rfl) ?_
      refine k_iast C hH aD4 dX1_enter_18 (fun M1 H locs hH => ?_)
      refine lv_aload_n hx hb dX1_enter_19 rfl (lv_at hl 0 rfl) ?_
      refine k_get C hH fd_X1_35 oD (k_ref (M := M1) (ad := ad) rD5) dX1_enter_20 ?_
      refine lv_iload_n hx hb dX1_enter_23 rfl (lv_at hl 1 rfl) ?_
      refine lv_iload_n hx hb dX1_enter_24 rfl (lv_at hl 3 rfl) ?_
      refine k_iast C hH aD5 dX1_enter_25 (fun M2 H locs hH => ?_)
      refine lv_aload_n hx hb dX1_enter_26 rfl (lv_at hl 0 rfl) ?_
      refine k_get C hH fd_X1_38 oD (k_ref (M := M2) (ad := ad) rD6) dX1_enter_27 ?_
      refine lv_iload_n hx hb dX1_enter_30 rfl (lv_at hl 1 rfl) ?_
      refine lv_iload hx hb dX1_enter_31 (lv_at hl 4 rfl) ?_
      refine k_iast C hH aD6 dX1_enter_33 (fun M3 H locs hH => ?_)
      refine lv_aload_n hx hb dX1_enter_34 rfl (lv_at hl 0 rfl) ?_
      refine k_get C hH fd_X1_21 oD (k_ref (M := M3) (ad := ad) rD2) dX1_enter_35 ?_
      refine lv_iload_n hx hb dX1_enter_38 rfl (lv_at hl 1 rfl) ?_
      refine kg_v C hH (kc_V C hH w_2_122 lc_yX2_put li_yX2_put (oF (f := 13) (by decide)) (kX2_put l E ad M3 13 (by decide) a1) (As := [.int a1]) rfl dX1_enter_39 rfl hl.1 (Nat.le_of_ble_eq_true rfl) ⟨Nat.le_of_ble_eq_true rfl, Nat.le_of_ble_eq_true rfl⟩ ⟨Nat.le_of_ble_eq_true rfl, Nat.le_of_ble_eq_true rfl⟩) ⟨rfl, rfl⟩ (fun M4 H locs hH => ?_)
      exact ke_v C hH hr (Nat.le_refl _) (Nat.le_refl _) rfl dX1_enter_42
    · exact ke_v C hH hr (Nat.le_refl _) (Nat.le_refl _) rfl dX1_enter_11
def fX1_person_o (a0 : Int32) (a1 : Int32) (a2 : Int32) : Option (Int32) := (if a0 = 2 then some a2 else (if a0 = 0 then some (jrem (a1 / 6) 6) else some (jrem a1 6)))
def fX1_person (a0 : Int32) (a1 : Int32) (a2 : Int32) : Int32 := (if a0 = 2 then a2 else (if a0 = 0 then (jrem (a1 / 6) 6) else (jrem a1 6)))
theorem fX1_person_s {a0 : Int32} {a1 : Int32} {a2 : Int32} : fX1_person_o a0 a1 a2 = some (fX1_person a0 a1 a2) := by
  unfold fX1_person_o fX1_person
  (repeat' split) <;> rfl
set_option maxHeartbeats 4000000 in
set_option maxRecDepth 100000 in
theorem kX1_person_o (l : Launch) (E : KE) (ad : Nat → Nat) (M : KS) (a0 : Int32) (a1 : Int32) (a2 : Int32) : CT l yX1_person cX1_person 3 (some .int) { frames := 0, cells := 0, slots := 0, locals := 0 } SK E ad [.int a0, .int a1, .int a2] M (fun sz a => QI SK E ad sz (a, M)) (fX1_person_o a0 a1 a2) := by
  refine CT.ofW (by decide) (Nat.le_of_ble_eq_true rfl) (fun sz p e s m args below meth c C hr hH ls hl => ?_)
  have hx := C.1.1
  have hb := C.1.2.1
  have hl : lv_has ls 3 [(0, .int a0), (1, .int a1), (2, .int a2)] := hl
  unfold fX1_person_o
  refine lv_iload_n hx hb dX1_person_0 rfl (lv_at hl 0 rfl) ?_
  refine lv_iconst (v := 2) hx hb dX1_person_1 (by decide) ?_
  refine kb_icmp_ne (tgt := 7) hx hb dX1_person_2 (by decide) (fun _ => ?_) (fun _ => ?_)
  · refine lv_iload_n hx hb dX1_person_7 rfl (lv_at hl 0 rfl) ?_
    refine kb_if_ne (tgt := 21) hx hb dX1_person_8 (by decide) (fun _ => ?_) (fun _ => ?_)
    · refine lv_iload_n hx hb dX1_person_21 rfl (lv_at hl 1 rfl) ?_
      refine lv_bipush (v := 6) hx hb dX1_person_22 (by decide) ?_
      refine k_irem hx hb dX1_person_24 (by decide) ?_
      exact ke_i C hH hr (Nat.le_refl _) (Nat.le_refl _) rfl dX1_person_25
    · refine lv_iload_n hx hb dX1_person_11 rfl (lv_at hl 1 rfl) ?_
      refine lv_bipush (v := 6) hx hb dX1_person_12 (by decide) ?_
      refine lv_idiv hx hb dX1_person_14 (by decide) ?_
      refine lv_bipush (v := 6) hx hb dX1_person_15 (by decide) ?_
      refine k_irem hx hb dX1_person_17 (by decide) ?_
      refine lv_goto (tgt := 25) hx hb dX1_person_18 (by decide) ?_
      exact ke_i C hH hr (Nat.le_refl _) (Nat.le_refl _) rfl dX1_person_25
  · refine lv_iload_n hx hb dX1_person_5 rfl (lv_at hl 2 rfl) ?_
    exact ke_i C hH hr (Nat.le_refl _) (Nat.le_refl _) rfl dX1_person_6
theorem kX1_person (l : Launch) (E : KE) (ad : Nat → Nat) (M : KS) (a0 : Int32) (a1 : Int32) (a2 : Int32) : CT l yX1_person cX1_person 3 (some .int) { frames := 0, cells := 0, slots := 0, locals := 0 } SK E ad [.int a0, .int a1, .int a2] M (fun sz (_ : Unit) => QI SK E ad sz (fX1_person a0 a1 a2, M)) (some ()) := CT.pure (kX1_person_o l E ad M a0 a1 a2) fX1_person_s
def fX1_need (M : KS) (o1 : Nat) (a2 : Int32) (a3 : Int32) : Option (Int32) := (if a2 < 0 then some (-1) else (if a2 < 216 then if inb a2 216 then (fX6_code M o1 (M.1 108 a2.toNatClampNeg) a3).bind fun v1 => (if 0 < v1 then (fX9_firstIn v1).bind fun v2 => if inb a2 216 then nm ((fX1_person v2 a2 (M.1 109 a2.toNatClampNeg))) fun v3 => if inb a2 216 then nm ((fX1_person (fX9_secondIn v1) a2 (M.1 109 a2.toNatClampNeg))) fun v4 => some (fX9_numberOf (fX9_relationIn v1) v3 v4) else none else none else some (-1)) else none else some (-1)))
set_option maxHeartbeats 4000000 in
set_option maxRecDepth 100000 in
theorem kX1_need (l : Launch) (E : KE) (ad : Nat → Nat) (M : KS) (o1 : Nat) (ho1 : o1 < 11) (a2 : Int32) (a3 : Int32) : CT l yX1_need cX1_need 7 (some .int) { frames := 1, cells := 0, slots := 0, locals := 22 } SK E ad [.ref (ad 106), .ref (ad (iR o1)), .int a2, .int a3] M (fun sz a => QI SK E ad sz (a, M)) (fX1_need M o1 a2 a3) := by
  refine CT.ofW (by decide) (Nat.le_of_ble_eq_true rfl) (fun sz p e s m args below meth c C hr hH ls hl => ?_)
  have hx := C.1.1
  have hb := C.1.2.1
  have hl : lv_has ls 7 [(0, .ref (ad 106)), (1, .ref (ad (iR o1))), (2, .int a2), (3, .int a3)] := hl
  unfold fX1_need
  refine lv_iload_n hx hb dX1_need_0 rfl (lv_at hl 2 rfl) ?_
  refine kb_if_lt (tgt := 11) hx hb dX1_need_1 (by decide) (fun _ => ?_) (fun _ => ?_)
  · refine lv_iconst (v := (-1)) hx hb dX1_need_11 (by decide) ?_
    exact ke_i C hH hr (Nat.le_refl _) (Nat.le_refl _) rfl dX1_need_12
  · refine lv_iload_n hx hb dX1_need_4 rfl (lv_at hl 2 rfl) ?_
    refine lv_sipush (v := 216) hx hb dX1_need_5 (by decide) ?_
    refine kb_icmp_lt (tgt := 13) hx hb dX1_need_8 (by decide) (fun _ => ?_) (fun _ => ?_)
    · refine lv_aload_n hx hb dX1_need_13 rfl (lv_at hl 1 rfl) ?_
      refine lv_aload_n hx hb dX1_need_14 rfl (lv_at hl 0 rfl) ?_
      refine k_get C hH fd_X1_35 oD (k_ref (M := M) (ad := ad) rD5) dX1_need_15 ?_
      refine lv_iload_n hx hb dX1_need_18 rfl (lv_at hl 2 rfl) ?_
      refine k_iald C hH aD5 dX1_need_19 ?_
      refine lv_iload_n hx hb dX1_need_20 rfl (lv_at hl 3 rfl) ?_
      refine kg_io C hH (kc_V C hH w_2_134 lc_yX6_code li_yX6_code (oR (f := o1) ho1) (kX6_code l E ad M o1 ho1 (M.1 108 a2.toNatClampNeg) a3) (As := [.int (M.1 108 a2.toNatClampNeg), .int a3]) rfl dX1_need_21 rfl hl.1 (Nat.le_of_ble_eq_true rfl) ⟨Nat.le_of_ble_eq_true rfl, Nat.le_of_ble_eq_true rfl⟩ ⟨Nat.le_of_ble_eq_true rfl, Nat.le_of_ble_eq_true rfl⟩) ⟨rfl, rfl⟩ (fun v1 H locs hH => ?_)
      refine lv_istore (lv' := [(4, .int v1), (0, .ref (ad 106)), (1, .ref (ad (iR o1))), (2, .int a2), (3, .int a3)]) hx hb dX1_need_24 hl (by decide) rfl (fun ls hl => ?_)
      refine lv_iload hx hb dX1_need_26 (lv_at hl 0 rfl) ?_
      refine kb_if_gt (tgt := 33) hx hb dX1_need_28 (by decide) (fun _ => ?_) (fun _ => ?_)
      · refine lv_iload hx hb dX1_need_33 (lv_at hl 0 rfl) ?_
        refine kg_io C hH (kc_SN C hH w_2_135 w_st_yX9_firstIn lc_yX9_firstIn (kX9_firstIn l E ad M v1) (As := [.int v1]) rfl dX1_need_35 rfl hl.1 (Nat.le_of_ble_eq_true rfl) ⟨Nat.le_of_ble_eq_true rfl, Nat.le_of_ble_eq_true rfl⟩ ⟨Nat.le_of_ble_eq_true rfl, Nat.le_of_ble_eq_true rfl⟩) ⟨rfl, rfl⟩ (fun v2 H locs hH => ?_)
        refine lv_iload_n hx hb dX1_need_38 rfl (lv_at hl 3 rfl) ?_
        refine lv_aload_n hx hb dX1_need_39 rfl (lv_at hl 1 rfl) ?_
        refine k_get C hH fd_X1_38 oD (k_ref (M := M) (ad := ad) rD6) dX1_need_40 ?_
        refine lv_iload_n hx hb dX1_need_43 rfl (lv_at hl 3 rfl) ?_
        refine k_iald C hH aD6 dX1_need_44 ?_
        refine kg_ip C hH (kc_S C hH w_2_136 w_st_yX1_person rfl lc_yX1_person (kX1_person l E ad M v2 a2 (M.1 109 a2.toNatClampNeg)) (As := [.int v2, .int a2, .int (M.1 109 a2.toNatClampNeg)]) rfl dX1_need_45 rfl hl.1 (Nat.le_of_ble_eq_true rfl) ⟨Nat.le_of_ble_eq_true rfl, Nat.le_of_ble_eq_true rfl⟩ ⟨Nat.le_of_ble_eq_true rfl, Nat.le_of_ble_eq_true rfl⟩) ⟨rfl, rfl⟩ (fun H locs hH => ?_)
        refine W_nmi (fun v3 => ?_)
        refine lv_istore (lv' := [(5, .int v3), (4, .int v1), (0, .ref (ad 106)), (1, .ref (ad (iR o1))), (2, .int a2), (3, .int a3)]) hx hb dX1_need_48 hl (by decide) rfl (fun ls hl => ?_)
        refine lv_iload hx hb dX1_need_50 (lv_at hl 1 rfl) ?_
        refine kg_ip C hH (kc_SN C hH w_2_139 w_st_yX9_secondIn lc_yX9_secondIn (kX9_secondIn l E ad M v1) (As := [.int v1]) rfl dX1_need_52 rfl hl.1 (Nat.le_of_ble_eq_true rfl) ⟨Nat.le_of_ble_eq_true rfl, Nat.le_of_ble_eq_true rfl⟩ ⟨Nat.le_of_ble_eq_true rfl, Nat.le_of_ble_eq_true rfl⟩) ⟨rfl, rfl⟩ (fun H locs hH => ?_)
        refine lv_iload_n hx hb dX1_need_55 rfl (lv_at hl 4 rfl) ?_
        refine lv_aload_n hx hb dX1_need_56 rfl (lv_at hl 2 rfl) ?_
        refine k_get C hH fd_X1_38 oD (k_ref (M := M) (ad := ad) rD6) dX1_need_57 ?_
        refine lv_iload_n hx hb dX1_need_60 rfl (lv_at hl 4 rfl) ?_
        refine k_iald C hH aD6 dX1_need_61 ?_
        refine kg_ip C hH (kc_S C hH w_2_136 w_st_yX1_person rfl lc_yX1_person (kX1_person l E ad M (fX9_secondIn v1) a2 (M.1 109 a2.toNatClampNeg)) (As := [.int (fX9_secondIn v1), .int a2, .int (M.1 109 a2.toNatClampNeg)]) rfl dX1_need_62 rfl hl.1 (Nat.le_of_ble_eq_true rfl) ⟨Nat.le_of_ble_eq_true rfl, Nat.le_of_ble_eq_true rfl⟩ ⟨Nat.le_of_ble_eq_true rfl, Nat.le_of_ble_eq_true rfl⟩) ⟨rfl, rfl⟩ (fun H locs hH => ?_)
        refine W_nmi (fun v4 => ?_)
        refine lv_istore (lv' := [(6, .int v4), (5, .int v3), (4, .int v1), (0, .ref (ad 106)), (1, .ref (ad (iR o1))), (2, .int a2), (3, .int a3)]) hx hb dX1_need_65 hl (by decide) rfl (fun ls hl => ?_)
        refine lv_iload hx hb dX1_need_67 (lv_at hl 2 rfl) ?_
        refine kg_ip C hH (kc_SN C hH w_2_140 w_st_yX9_relationIn lc_yX9_relationIn (kX9_relationIn l E ad M v1) (As := [.int v1]) rfl dX1_need_69 rfl hl.1 (Nat.le_of_ble_eq_true rfl) ⟨Nat.le_of_ble_eq_true rfl, Nat.le_of_ble_eq_true rfl⟩ ⟨Nat.le_of_ble_eq_true rfl, Nat.le_of_ble_eq_true rfl⟩) ⟨rfl, rfl⟩ (fun H locs hH => ?_)
        refine lv_iload hx hb dX1_need_72 (lv_at hl 1 rfl) ?_
        refine lv_iload hx hb dX1_need_74 (lv_at hl 0 rfl) ?_
        refine kg_ip C hH (kc_SN C hH w_2_141 w_st_yX9_numberOf lc_yX9_numberOf (kX9_numberOf l E ad M (fX9_relationIn v1) v3 v4) (As := [.int (fX9_relationIn v1), .int v3, .int v4]) rfl dX1_need_76 rfl hl.1 (Nat.le_of_ble_eq_true rfl) ⟨Nat.le_of_ble_eq_true rfl, Nat.le_of_ble_eq_true rfl⟩ ⟨Nat.le_of_ble_eq_true rfl, Nat.le_of_ble_eq_true rfl⟩) ⟨rfl, rfl⟩ (fun H locs hH => ?_)
        exact ke_i C hH hr (Nat.le_refl _) (Nat.le_refl _) rfl dX1_need_79
      · refine lv_iconst (v := (-1)) hx hb dX1_need_31 (by decide) ?_
        exact ke_i C hH hr (Nat.le_refl _) (Nat.le_refl _) rfl dX1_need_32
    · refine lv_iconst (v := (-1)) hx hb dX1_need_11 (by decide) ?_
      exact ke_i C hH hr (Nat.le_refl _) (Nat.le_refl _) rfl dX1_need_12
def fX1_rest_X2 (M3 : KS) : Option (KS) := some M3
theorem fX1_rest_X2_u {M3 : KS} : fX1_rest_X2 M3 = some M3 := rfl
def fX1_rest_X70 (v1 : Int32) (rec2 : (Int32 × KS) → Option (KS)) (M11 : KS) : Option (KS) := nm (v1 + 1) fun v12 => rec2 (v12, M11)
theorem fX1_rest_X70_u {v1 : Int32} {rec2 : (Int32 × KS) → Option (KS)} {M11 : KS} : fX1_rest_X70 v1 rec2 M11 = nm (v1 + 1) fun v12 => rec2 (v12, M11) := rfl
def fX1_rest_L70 (a2 : Int32) (v4 : Int32) (rec70 : (Int32 × KS) → Option (KS)) (k70 : (KS) → Option (KS)) (x : Int32 × KS) : Option (KS) := match x with | (v9, M10) => (if 6 ≤ v9 then k70 M10 else if inb ((6 * a2) + v9) 1296 then if inb ((6 * v4) + v9) 1296 then if inb ((6 * a2) + v9) 1296 then nm (ksetL M10 ((6 * a2) + v9).toNatClampNeg ((M10.2 ((6 * a2) + v9).toNatClampNeg) ||| (M10.2 ((6 * v4) + v9).toNatClampNeg))) fun M13 => nm (v9 + 1) fun v14 => rec70 (v14, M13) else none else none else none)
theorem fX1_rest_L70_u {a2 : Int32} {v4 : Int32} {rec70 : (Int32 × KS) → Option (KS)} {k70 : (KS) → Option (KS)} {v9 : Int32} {M10 : KS} : fX1_rest_L70 a2 v4 rec70 k70 (v9, M10) = (if 6 ≤ v9 then k70 M10 else if inb ((6 * a2) + v9) 1296 then if inb ((6 * v4) + v9) 1296 then if inb ((6 * a2) + v9) 1296 then nm (ksetL M10 ((6 * a2) + v9).toNatClampNeg ((M10.2 ((6 * a2) + v9).toNatClampNeg) ||| (M10.2 ((6 * v4) + v9).toNatClampNeg))) fun M13 => nm (v9 + 1) fun v14 => rec70 (v14, M13) else none else none else none) := rfl
def fX1_rest_L2 (o1 : Nat) (a2 : Int32) (rec2 : (Int32 × KS) → Option (KS)) (k2 : (KS) → Option (KS)) (x : Int32 × KS) : Option (KS) := match x with | (v1, M2) => (if 3 ≤ v1 then k2 M2 else (fX1_need M2 o1 a2 v1).bind fun v4 => (if a2 < 0 then nm (v1 + 1) fun v5 => rec2 (v5, M2) else (if 216 ≤ a2 then nm (v1 + 1) fun v6 => rec2 (v6, M2) else (if v4 < 0 then nm (v1 + 1) fun v7 => rec2 (v7, M2) else (if v4 < 216 then if inb a2 216 then if inb v4 216 then if inb a2 216 then nm (kset M2 110 a2.toNatClampNeg (jmax (M2.1 110 a2.toNatClampNeg) ((M2.1 110 v4.toNatClampNeg) + 1))) fun M8 => lp (fX1_rest_L70 a2 v4) (fX1_rest_X70 v1 rec2) 1000000 (0, M8) else none else none else none else nm (v1 + 1) fun v15 => rec2 (v15, M2))))))
theorem fX1_rest_L2_u {o1 : Nat} {a2 : Int32} {rec2 : (Int32 × KS) → Option (KS)} {k2 : (KS) → Option (KS)} {v1 : Int32} {M2 : KS} : fX1_rest_L2 o1 a2 rec2 k2 (v1, M2) = (if 3 ≤ v1 then k2 M2 else (fX1_need M2 o1 a2 v1).bind fun v4 => (if a2 < 0 then nm (v1 + 1) fun v5 => rec2 (v5, M2) else (if 216 ≤ a2 then nm (v1 + 1) fun v6 => rec2 (v6, M2) else (if v4 < 0 then nm (v1 + 1) fun v7 => rec2 (v7, M2) else (if v4 < 216 then if inb a2 216 then if inb v4 216 then if inb a2 216 then nm (kset M2 110 a2.toNatClampNeg (jmax (M2.1 110 a2.toNatClampNeg) ((M2.1 110 v4.toNatClampNeg) + 1))) fun M8 => lp (fX1_rest_L70 a2 v4) (fX1_rest_X70 v1 rec2) 1000000 (0, M8) else none else none else none else nm (v1 + 1) fun v15 => rec2 (v15, M2)))))) := rfl
def fX1_rest (M : KS) (o1 : Nat) (a2 : Int32) : Option (KS) := lp (fX1_rest_L2 o1 a2) (fX1_rest_X2) 1000000 (0, M)
set_option maxHeartbeats 4000000 in
set_option maxRecDepth 100000 in
theorem kX1_rest (l : Launch) (E : KE) (ad : Nat → Nat) (M : KS) (o1 : Nat) (ho1 : o1 < 11) (a2 : Int32) : CT l yX1_rest cX1_rest 6 none { frames := 2, cells := 0, slots := 0, locals := 48 } SK E ad [.ref (ad 106), .ref (ad (iR o1)), .int a2] M (QV SK E ad) (fX1_rest M o1 a2) := by
  refine CT.ofW (by decide) (Nat.le_of_ble_eq_true rfl) (fun sz p e s m args below meth c C hr hH ls hl => ?_)
  have hx := C.1.1
  have hb := C.1.2.1
  have hl : lv_has ls 6 [(0, .ref (ad 106)), (1, .ref (ad (iR o1))), (2, .int a2)] := hl
  unfold fX1_rest
  refine lv_iconst (v := 0) hx hb dX1_rest_0 (by decide) ?_
  refine lv_istore_n (lv' := [(3, .int 0), (0, .ref (ad 106)), (1, .ref (ad (iR o1))), (2, .int a2)]) hx hb dX1_rest_1 rfl hl (by decide) rfl (fun ls hl => ?_)
  refine W_lp (fun (x : Int32 × KS) H locs => KH SK E ad sz x.2 s.heap H locs) (fun x ls => lv_has ls 6 [(0, .ref (ad 106)), (1, .ref (ad (iR o1))), (2, .int a2), (3, .int x.1)]) (fun _ ls => F0 m 2 ls []) (fun (x : KS) H locs => KH SK E ad sz x s.heap H locs) (fun x ls => lv_has ls 6 []) (fun _ ls => F0 m 117 ls []) ?_ ?_ hH (lv_sub hl [1, 2, 3, 0] rfl)
  · intro M3 H locs ls hH hl
    have hH : KH SK E ad sz M3 s.heap H locs := hH
    have hl : lv_has ls 6 [] := hl
    refine W_q fX1_rest_X2_u ?_
    exact ke_v C hH hr (Nat.le_refl _) (Nat.le_refl _) rfl dX1_rest_117
  · intro rec2 k2 hrec2 hk2 ⟨v1, M2⟩ H locs ls hH hl
    have hH : KH SK E ad sz M2 s.heap H locs := hH
    have hl : lv_has ls 6 [(0, .ref (ad 106)), (1, .ref (ad (iR o1))), (2, .int a2), (3, .int v1)] := hl
    refine W_q fX1_rest_L2_u ?_
    refine lv_iload_n hx hb dX1_rest_2 rfl (lv_at hl 3 rfl) ?_
    refine lv_iconst (v := 3) hx hb dX1_rest_3 (by decide) ?_
    refine kb_icmp_ge (tgt := 117) hx hb dX1_rest_4 (by decide) (fun _ => ?_) (fun _ => ?_)
    · exact hk2 M2 _ _ _ hH (lv_sub hl [] rfl)
    · refine lv_aload_n hx hb dX1_rest_7 rfl (lv_at hl 0 rfl) ?_
      refine lv_aload_n hx hb dX1_rest_8 rfl (lv_at hl 1 rfl) ?_
      refine lv_iload_n hx hb dX1_rest_9 rfl (lv_at hl 2 rfl) ?_
      refine lv_iload_n hx hb dX1_rest_10 rfl (lv_at hl 3 rfl) ?_
      refine kg_io C hH (kc_V C hH w_2_130 lc_yX1_need li_yX1_need oD (kX1_need l E ad M2 o1 ho1 a2 v1) (As := [.ref (ad (iR o1)), .int a2, .int v1]) rfl dX1_rest_11 rfl hl.1 (Nat.le_of_ble_eq_true rfl) ⟨Nat.le_of_ble_eq_true rfl, Nat.le_of_ble_eq_true rfl⟩ ⟨Nat.le_of_ble_eq_true rfl, Nat.le_of_ble_eq_true rfl⟩) ⟨rfl, rfl⟩ (fun v4 H locs hH => ?_)
      refine lv_istore (lv' := [(4, .int v4), (0, .ref (ad 106)), (1, .ref (ad (iR o1))), (2, .int a2), (3, .int v1)]) hx hb dX1_rest_14 hl (by decide) rfl (fun ls hl => ?_)
      refine lv_iload_n hx hb dX1_rest_16 rfl (lv_at hl 3 rfl) ?_
      refine kb_if_lt (tgt := 111) hx hb dX1_rest_17 (by decide) (fun _ => ?_) (fun _ => ?_)
      · refine W_nm (fun v5 ev5 => ?_)
        refine lv_iinc (v := v5) (lv' := [(3, .int v5), (4, .int v4), (0, .ref (ad 106)), (1, .ref (ad (iR o1))), (2, .int a2)]) hx hb dX1_rest_111 hl (k := 4) rfl (by rw [ev5]; rfl) (by decide) rfl (fun ls hl => ?_)
        refine lv_goto (tgt := 2) hx hb dX1_rest_114 (by decide) ?_
        exact hrec2 (v5, M2) _ _ _ hH (lv_sub hl [2, 3, 4, 0] rfl)
      · refine lv_iload_n hx hb dX1_rest_20 rfl (lv_at hl 3 rfl) ?_
        refine lv_sipush (v := 216) hx hb dX1_rest_21 (by decide) ?_
        refine kb_icmp_ge (tgt := 111) hx hb dX1_rest_24 (by decide) (fun _ => ?_) (fun _ => ?_)
        · refine W_nm (fun v6 ev6 => ?_)
          refine lv_iinc (v := v6) (lv' := [(3, .int v6), (4, .int v4), (0, .ref (ad 106)), (1, .ref (ad (iR o1))), (2, .int a2)]) hx hb dX1_rest_111 hl (k := 4) rfl (by rw [ev6]; rfl) (by decide) rfl (fun ls hl => ?_)
          refine lv_goto (tgt := 2) hx hb dX1_rest_114 (by decide) ?_
          exact hrec2 (v6, M2) _ _ _ hH (lv_sub hl [2, 3, 4, 0] rfl)
        · refine lv_iload hx hb dX1_rest_27 (lv_at hl 0 rfl) ?_
          refine kb_if_lt (tgt := 111) hx hb dX1_rest_29 (by decide) (fun _ => ?_) (fun _ => ?_)
          · refine W_nm (fun v7 ev7 => ?_)
            refine lv_iinc (v := v7) (lv' := [(3, .int v7), (4, .int v4), (0, .ref (ad 106)), (1, .ref (ad (iR o1))), (2, .int a2)]) hx hb dX1_rest_111 hl (k := 4) rfl (by rw [ev7]; rfl) (by decide) rfl (fun ls hl => ?_)
            refine lv_goto (tgt := 2) hx hb dX1_rest_114 (by decide) ?_
            exact hrec2 (v7, M2) _ _ _ hH (lv_sub hl [2, 3, 4, 0] rfl)
          · refine lv_iload hx hb dX1_rest_32 (lv_at hl 0 rfl) ?_
            refine lv_sipush (v := 216) hx hb dX1_rest_34 (by decide) ?_
            refine kb_icmp_lt (tgt := 43) hx hb dX1_rest_37 (by decide) (fun _ => ?_) (fun _ => ?_)
            · refine lv_aload_n hx hb dX1_rest_43 rfl (lv_at hl 1 rfl) ?_
              refine k_get C hH fd_X1_41 oD (k_ref (M := M2) (ad := ad) rD7) dX1_rest_44 ?_
              refine lv_iload_n hx hb dX1_rest_47 rfl (lv_at hl 3 rfl) ?_
              refine lv_aload_n hx hb dX1_rest_48 rfl (lv_at hl 1 rfl) ?_
              refine k_get C hH fd_X1_41 oD (k_ref (M := M2) (ad := ad) rD7) dX1_rest_49 ?_
              refine lv_iload_n hx hb dX1_rest_52 rfl (lv_at hl 3 rfl) ?_
              refine k_iald C hH aD7 dX1_rest_53 ?_
              refine lv_aload_n hx hb dX1_rest_54 rfl (lv_at hl 1 rfl) ?_
              refine k_get C hH fd_X1_41 oD (k_ref (M := M2) (ad := ad) rD7) dX1_rest_55 ?_
              refine lv_iload hx hb dX1_rest_58 (lv_at hl 0 rfl) ?_
              refine k_iald C hH aD7 dX1_rest_60 ?_
              refine lv_iconst (v := 1) hx hb dX1_rest_61 (by decide) ?_
              refine lv_iadd hx hb dX1_rest_62 ?_
              refine k_mmax C w_2_144 hl.1 (Nat.le_of_ble_eq_true rfl) (Nat.le_of_ble_eq_true rfl) ⟨Nat.zero_le _, Nat.zero_le _⟩ dX1_rest_63 ?_
              refine k_iast C hH aD7 dX1_rest_66 (fun M8 H locs hH => ?_)
              refine lv_iconst (v := 0) hx hb dX1_rest_67 (by decide) ?_
              refine lv_istore (lv' := [(5, .int 0), (4, .int v4), (0, .ref (ad 106)), (1, .ref (ad (iR o1))), (2, .int a2), (3, .int v1)]) hx hb dX1_rest_68 hl (by decide) rfl (fun ls hl => ?_)
              refine W_lp (fun (x : Int32 × KS) H locs => KH SK E ad sz x.2 s.heap H locs) (fun x ls => lv_has ls 6 [(4, .int v4), (0, .ref (ad 106)), (1, .ref (ad (iR o1))), (2, .int a2), (3, .int v1), (5, .int x.1)]) (fun _ ls => F0 m 70 ls []) (fun (x : KS) H locs => KH SK E ad sz x s.heap H locs) (fun x ls => lv_has ls 6 [(0, .ref (ad 106)), (1, .ref (ad (iR o1))), (2, .int a2), (3, .int v1)]) (fun _ ls => F0 m 111 ls []) ?_ ?_ hH (lv_sub hl [1, 2, 3, 4, 5, 0] rfl)
              · intro M11 H locs ls hH hl
                have hH : KH SK E ad sz M11 s.heap H locs := hH
                have hl : lv_has ls 6 [(0, .ref (ad 106)), (1, .ref (ad (iR o1))), (2, .int a2), (3, .int v1)] := hl
                refine W_q fX1_rest_X70_u ?_
                refine W_nm (fun v12 ev12 => ?_)
                refine lv_iinc (v := v12) (lv' := [(3, .int v12), (0, .ref (ad 106)), (1, .ref (ad (iR o1))), (2, .int a2)]) hx hb dX1_rest_111 hl (k := 3) rfl (by rw [ev12]; rfl) (by decide) rfl (fun ls hl => ?_)
                refine lv_goto (tgt := 2) hx hb dX1_rest_114 (by decide) ?_
                exact hrec2 (v12, M11) _ _ _ hH (lv_sub hl [1, 2, 3, 0] rfl)
              · intro rec70 k70 hrec70 hk70 ⟨v9, M10⟩ H locs ls hH hl
                have hH : KH SK E ad sz M10 s.heap H locs := hH
                have hl : lv_has ls 6 [(4, .int v4), (0, .ref (ad 106)), (1, .ref (ad (iR o1))), (2, .int a2), (3, .int v1), (5, .int v9)] := hl
                refine W_q fX1_rest_L70_u ?_
                refine lv_iload hx hb dX1_rest_70 (lv_at hl 5 rfl) ?_
                refine lv_bipush (v := 6) hx hb dX1_rest_72 (by decide) ?_
                refine kb_icmp_ge (tgt := 111) hx hb dX1_rest_74 (by decide) (fun _ => ?_) (fun _ => ?_)
                · exact hk70 M10 _ _ _ hH (lv_sub hl [1, 2, 3, 4] rfl)
                · refine lv_aload_n hx hb dX1_rest_77 rfl (lv_at hl 1 rfl) ?_
                  refine k_get C hH fd_X1_44 oD (k_ref (M := M10) (ad := ad) rD8) dX1_rest_78 ?_
                  refine lv_bipush (v := 6) hx hb dX1_rest_81 (by decide) ?_
                  refine lv_iload_n hx hb dX1_rest_83 rfl (lv_at hl 3 rfl) ?_
                  refine lv_imul hx hb dX1_rest_84 ?_
                  refine lv_iload hx hb dX1_rest_85 (lv_at hl 5 rfl) ?_
                  refine lv_iadd hx hb dX1_rest_87 ?_
                  refine lv_dup2_11 hx hb dX1_rest_88 rfl rfl ?_
                  refine k_lald C hH aD8 dX1_rest_89 ?_
                  refine lv_aload_n hx hb dX1_rest_90 rfl (lv_at hl 1 rfl) ?_
                  refine k_get C hH fd_X1_44 oD (k_ref (M := M10) (ad := ad) rD8) dX1_rest_91 ?_
                  refine lv_bipush (v := 6) hx hb dX1_rest_94 (by decide) ?_
                  refine lv_iload hx hb dX1_rest_96 (lv_at hl 0 rfl) ?_
                  refine lv_imul hx hb dX1_rest_98 ?_
                  refine lv_iload hx hb dX1_rest_99 (lv_at hl 5 rfl) ?_
                  refine lv_iadd hx hb dX1_rest_101 ?_
                  refine k_lald C hH aD8 dX1_rest_102 ?_
                  refine lv_lor hx hb dX1_rest_103 ?_
                  refine k_last C hH aD8 uD dX1_rest_104 (fun M13 H locs hH => ?_)
                  refine W_nm (fun v14 ev14 => ?_)
                  refine lv_iinc (v := v14) (lv' := [(5, .int v14), (4, .int v4), (0, .ref (ad 106)), (1, .ref (ad (iR o1))), (2, .int a2), (3, .int v1)]) hx hb dX1_rest_105 hl (k := 5) rfl (by rw [ev14]; rfl) (by decide) rfl (fun ls hl => ?_)
                  refine lv_goto (tgt := 70) hx hb dX1_rest_108 (by decide) ?_
                  exact hrec70 (v14, M13) _ _ _ hH (lv_sub hl [1, 2, 3, 4, 5, 0] rfl)
            · refine lv_goto (tgt := 111) hx hb dX1_rest_40 (by decide) ?_
              refine W_nm (fun v15 ev15 => ?_)
              refine lv_iinc (v := v15) (lv' := [(3, .int v15), (4, .int v4), (0, .ref (ad 106)), (1, .ref (ad (iR o1))), (2, .int a2)]) hx hb dX1_rest_111 hl (k := 4) rfl (by rw [ev15]; rfl) (by decide) rfl (fun ls hl => ?_)
              refine lv_goto (tgt := 2) hx hb dX1_rest_114 (by decide) ?_
              exact hrec2 (v15, M2) _ _ _ hH (lv_sub hl [2, 3, 4, 0] rfl)
def fX1_addRound_X6 (x : Int32 × KS) : Option (Int32 × KS) := match x with | (v4, M5) => if isB v4 then some (v4, M5) else none
theorem fX1_addRound_X6_u {v4 : Int32} {M5 : KS} : fX1_addRound_X6 (v4, M5) = if isB v4 then some (v4, M5) else none := rfl
def fX1_addRound_X42 (v2 : Int32) (rec6 : (Int32 × Int32 × KS) → Option (Int32 × KS)) (x : Int32 × KS) : Option (Int32 × KS) := match x with | (v11, M12) => nm (v2 + 1) fun v13 => rec6 (v11, v13, M12)
theorem fX1_addRound_X42_u {v2 : Int32} {rec6 : (Int32 × Int32 × KS) → Option (Int32 × KS)} {v11 : Int32} {M12 : KS} : fX1_addRound_X42 v2 rec6 (v11, M12) = nm (v2 + 1) fun v13 => rec6 (v11, v13, M12) := rfl
def fX1_addRound_L42 (o1 : Nat) (a3 : Int32) (v2 : Int32) (v6 : Int32) (rec42 : (Int32 × Int32 × KS) → Option (Int32 × KS)) (k42 : (Int32 × KS) → Option (Int32 × KS)) (x : Int32 × Int32 × KS) : Option (Int32 × KS) := match x with | (v8, v9, M10) => (if 36 ≤ v9 then k42 (v8, M10) else nm (((36 * v6) + v9)) fun v14 => (fX2_has M10 11 v14).bind fun v15 => (if v15 = 0 then (fX2_has M10 13 v14).bind fun v17 => (if v17 = 0 then (fX6_makersOf M10 o1 v2 (v9 / 6) (jrem v9 6) 11 12).bind fun v18 => (if v18 = 0 then nm (v9 + 1) fun v19 => rec42 (v8, v19, M10) else (fX9_lowestOf v18).bind fun v20 => (fX1_enter M10 v14 a3 v2 v20).bind fun M21 => (fX1_rest M21 o1 v14).bind fun M22 => nm (v9 + 1) fun v23 => rec42 (1, v23, M22)) else nm (v9 + 1) fun v24 => rec42 (v8, v24, M10)) else nm (v9 + 1) fun v16 => rec42 (v8, v16, M10)))
theorem fX1_addRound_L42_u {o1 : Nat} {a3 : Int32} {v2 : Int32} {v6 : Int32} {rec42 : (Int32 × Int32 × KS) → Option (Int32 × KS)} {k42 : (Int32 × KS) → Option (Int32 × KS)} {v8 : Int32} {v9 : Int32} {M10 : KS} : fX1_addRound_L42 o1 a3 v2 v6 rec42 k42 (v8, v9, M10) = (if 36 ≤ v9 then k42 (v8, M10) else nm (((36 * v6) + v9)) fun v14 => (fX2_has M10 11 v14).bind fun v15 => (if v15 = 0 then (fX2_has M10 13 v14).bind fun v17 => (if v17 = 0 then (fX6_makersOf M10 o1 v2 (v9 / 6) (jrem v9 6) 11 12).bind fun v18 => (if v18 = 0 then nm (v9 + 1) fun v19 => rec42 (v8, v19, M10) else (fX9_lowestOf v18).bind fun v20 => (fX1_enter M10 v14 a3 v2 v20).bind fun M21 => (fX1_rest M21 o1 v14).bind fun M22 => nm (v9 + 1) fun v23 => rec42 (1, v23, M22)) else nm (v9 + 1) fun v24 => rec42 (v8, v24, M10)) else nm (v9 + 1) fun v16 => rec42 (v8, v16, M10))) := rfl
def fX1_addRound_L6 (o1 : Nat) (a2 : Int32) (a3 : Int32) (rec6 : (Int32 × Int32 × KS) → Option (Int32 × KS)) (k6 : (Int32 × KS) → Option (Int32 × KS)) (x : Int32 × Int32 × KS) : Option (Int32 × KS) := match x with | (v1, v2, M3) => (if (M3.1 (iR o1) 3) ≤ v2 then k6 (v1, M3) else (fX6_head M3 o1 v2).bind fun v6 => (fX3_of M3 0 v6).bind fun v7 => (if v7 = a2 then lp (fX1_addRound_L42 o1 a3 v2 v6) (fX1_addRound_X42 v2 rec6) 1000000 (v1, 0, M3) else nm (v2 + 1) fun v25 => rec6 (v1, v25, M3)))
theorem fX1_addRound_L6_u {o1 : Nat} {a2 : Int32} {a3 : Int32} {rec6 : (Int32 × Int32 × KS) → Option (Int32 × KS)} {k6 : (Int32 × KS) → Option (Int32 × KS)} {v1 : Int32} {v2 : Int32} {M3 : KS} : fX1_addRound_L6 o1 a2 a3 rec6 k6 (v1, v2, M3) = (if (M3.1 (iR o1) 3) ≤ v2 then k6 (v1, M3) else (fX6_head M3 o1 v2).bind fun v6 => (fX3_of M3 0 v6).bind fun v7 => (if v7 = a2 then lp (fX1_addRound_L42 o1 a3 v2 v6) (fX1_addRound_X42 v2 rec6) 1000000 (v1, 0, M3) else nm (v2 + 1) fun v25 => rec6 (v1, v25, M3))) := rfl
def fX1_addRound (M : KS) (o1 : Nat) (a2 : Int32) (a3 : Int32) : Option (Int32 × KS) := lp (fX1_addRound_L6 o1 a2 a3) (fX1_addRound_X6) 1000000 (0, 0, M)
set_option maxHeartbeats 4000000 in
set_option maxRecDepth 100000 in
theorem kX1_addRound (l : Launch) (E : KE) (ad : Nat → Nat) (M : KS) (o1 : Nat) (ho1 : o1 < 11) (a2 : Int32) (a3 : Int32) : CT l yX1_addRound cX1_addRound 10 (some .boolean) { frames := 3, cells := 0, slots := 0, locals := 82 } SK E ad [.ref (ad 106), .ref (ad (iR o1)), .int a2, .int a3] M (QI SK E ad) (fX1_addRound M o1 a2 a3) := by
  refine CT.ofW (by decide) (Nat.le_of_ble_eq_true rfl) (fun sz p e s m args below meth c C hr hH ls hl => ?_)
  have hx := C.1.1
  have hb := C.1.2.1
  have hl : lv_has ls 10 [(0, .ref (ad 106)), (1, .ref (ad (iR o1))), (2, .int a2), (3, .int a3)] := hl
  unfold fX1_addRound
  refine lv_iconst (v := 0) hx hb dX1_addRound_0 (by decide) ?_
  refine lv_istore (lv' := [(4, .int 0), (0, .ref (ad 106)), (1, .ref (ad (iR o1))), (2, .int a2), (3, .int a3)]) hx hb dX1_addRound_1 hl (by decide) rfl (fun ls hl => ?_)
  refine lv_iconst (v := 0) hx hb dX1_addRound_3 (by decide) ?_
  refine lv_istore (lv' := [(5, .int 0), (4, .int 0), (0, .ref (ad 106)), (1, .ref (ad (iR o1))), (2, .int a2), (3, .int a3)]) hx hb dX1_addRound_4 hl (by decide) rfl (fun ls hl => ?_)
  refine W_lp (fun (x : Int32 × Int32 × KS) H locs => KH SK E ad sz x.2.2 s.heap H locs) (fun x ls => lv_has ls 10 [(0, .ref (ad 106)), (1, .ref (ad (iR o1))), (2, .int a2), (3, .int a3), (4, .int x.1), (5, .int x.2.1)]) (fun _ ls => F0 m 6 ls []) (fun (x : Int32 × KS) H locs => KH SK E ad sz x.2 s.heap H locs) (fun x ls => lv_has ls 10 [(4, .int x.1)]) (fun _ ls => F0 m 153 ls []) ?_ ?_ hH (lv_sub hl [2, 3, 4, 5, 1, 0] rfl)
  · intro ⟨v4, M5⟩ H locs ls hH hl
    have hH : KH SK E ad sz M5 s.heap H locs := hH
    have hl : lv_has ls 10 [(4, .int v4)] := hl
    refine W_q fX1_addRound_X6_u ?_
    refine lv_iload hx hb dX1_addRound_153 (lv_at hl 0 rfl) ?_
    exact ke_zg C hH hr (Nat.le_refl _) (Nat.le_refl _) rfl dX1_addRound_155
  · intro rec6 k6 hrec6 hk6 ⟨v1, v2, M3⟩ H locs ls hH hl
    have hH : KH SK E ad sz M3 s.heap H locs := hH
    have hl : lv_has ls 10 [(0, .ref (ad 106)), (1, .ref (ad (iR o1))), (2, .int a2), (3, .int a3), (4, .int v1), (5, .int v2)] := hl
    refine W_q fX1_addRound_L6_u ?_
    refine lv_iload hx hb dX1_addRound_6 (lv_at hl 5 rfl) ?_
    refine lv_aload_n hx hb dX1_addRound_8 rfl (lv_at hl 1 rfl) ?_
    refine k_getN C hH fn_X1_65 (oR (f := o1) ho1) (k_int (M := M3) (ad := ad) (nR3 (f := o1) ho1)) dX1_addRound_9 ?_
    refine kb_icmp_ge (tgt := 153) hx hb dX1_addRound_12 (by decide) (fun _ => ?_) (fun _ => ?_)
    · exact hk6 (v1, M3) _ _ _ hH (lv_sub hl [4] rfl)
    · refine lv_aload_n hx hb dX1_addRound_15 rfl (lv_at hl 1 rfl) ?_
      refine lv_iload hx hb dX1_addRound_16 (lv_at hl 5 rfl) ?_
      refine kg_io C hH (kc_V C hH w_2_82 lc_yX6_head li_yX6_head (oR (f := o1) ho1) (kX6_head l E ad M3 o1 ho1 v2) (As := [.int v2]) rfl dX1_addRound_18 rfl hl.1 (Nat.le_of_ble_eq_true rfl) ⟨Nat.le_of_ble_eq_true rfl, Nat.le_of_ble_eq_true rfl⟩ ⟨Nat.le_of_ble_eq_true rfl, Nat.le_of_ble_eq_true rfl⟩) ⟨rfl, rfl⟩ (fun v6 H locs hH => ?_)
      refine lv_istore (lv' := [(6, .int v6), (0, .ref (ad 106)), (1, .ref (ad (iR o1))), (2, .int a2), (3, .int a3), (4, .int v1), (5, .int v2)]) hx hb dX1_addRound_21 hl (by decide) rfl (fun ls hl => ?_)
      refine lv_aload_n hx hb dX1_addRound_23 rfl (lv_at hl 1 rfl) ?_
      refine k_get C hH fd_X1_27 oD (k_ref (M := M3) (ad := ad) rD3) dX1_addRound_24 ?_
      refine lv_iload hx hb dX1_addRound_27 (lv_at hl 0 rfl) ?_
      refine kg_io C hH (kc_V C hH w_2_83 lc_yX3_of li_yX3_of (oY (f := 0) (by decide)) (kX3_of l E ad M3 0 (by decide) v6) (As := [.int v6]) rfl dX1_addRound_29 rfl hl.1 (Nat.le_of_ble_eq_true rfl) ⟨Nat.le_of_ble_eq_true rfl, Nat.le_of_ble_eq_true rfl⟩ ⟨Nat.le_of_ble_eq_true rfl, Nat.le_of_ble_eq_true rfl⟩) ⟨rfl, rfl⟩ (fun v7 H locs hH => ?_)
      refine lv_iload_n hx hb dX1_addRound_32 rfl (lv_at hl 3 rfl) ?_
      refine kb_icmp_eq (tgt := 39) hx hb dX1_addRound_33 (by decide) (fun _ => ?_) (fun _ => ?_)
      · refine lv_iconst (v := 0) hx hb dX1_addRound_39 (by decide) ?_
        refine lv_istore (lv' := [(7, .int 0), (6, .int v6), (0, .ref (ad 106)), (1, .ref (ad (iR o1))), (2, .int a2), (3, .int a3), (4, .int v1), (5, .int v2)]) hx hb dX1_addRound_40 hl (by decide) rfl (fun ls hl => ?_)
        refine W_lp (fun (x : Int32 × Int32 × KS) H locs => KH SK E ad sz x.2.2 s.heap H locs) (fun x ls => lv_has ls 10 [(6, .int v6), (0, .ref (ad 106)), (1, .ref (ad (iR o1))), (2, .int a2), (3, .int a3), (5, .int v2), (4, .int x.1), (7, .int x.2.1)]) (fun _ ls => F0 m 42 ls []) (fun (x : Int32 × KS) H locs => KH SK E ad sz x.2 s.heap H locs) (fun x ls => lv_has ls 10 [(0, .ref (ad 106)), (1, .ref (ad (iR o1))), (2, .int a2), (3, .int a3), (5, .int v2), (4, .int x.1)]) (fun _ ls => F0 m 147 ls []) ?_ ?_ hH (lv_sub hl [1, 2, 3, 4, 5, 7, 6, 0] rfl)
        · intro ⟨v11, M12⟩ H locs ls hH hl
          have hH : KH SK E ad sz M12 s.heap H locs := hH
          have hl : lv_has ls 10 [(0, .ref (ad 106)), (1, .ref (ad (iR o1))), (2, .int a2), (3, .int a3), (5, .int v2), (4, .int v11)] := hl
          refine W_q fX1_addRound_X42_u ?_
          refine W_nm (fun v13 ev13 => ?_)
          refine lv_iinc (v := v13) (lv' := [(5, .int v13), (0, .ref (ad 106)), (1, .ref (ad (iR o1))), (2, .int a2), (3, .int a3), (4, .int v11)]) hx hb dX1_addRound_147 hl (k := 4) rfl (by rw [ev13]; rfl) (by decide) rfl (fun ls hl => ?_)
          refine lv_goto (tgt := 6) hx hb dX1_addRound_150 (by decide) ?_
          exact hrec6 (v11, v13, M12) _ _ _ hH (lv_sub hl [1, 2, 3, 4, 5, 0] rfl)
        · intro rec42 k42 hrec42 hk42 ⟨v8, v9, M10⟩ H locs ls hH hl
          have hH : KH SK E ad sz M10 s.heap H locs := hH
          have hl : lv_has ls 10 [(6, .int v6), (0, .ref (ad 106)), (1, .ref (ad (iR o1))), (2, .int a2), (3, .int a3), (5, .int v2), (4, .int v8), (7, .int v9)] := hl
          refine W_q fX1_addRound_L42_u ?_
          refine lv_iload hx hb dX1_addRound_42 (lv_at hl 7 rfl) ?_
          refine lv_bipush (v := 36) hx hb dX1_addRound_44 (by decide) ?_
          refine kb_icmp_ge (tgt := 147) hx hb dX1_addRound_46 (by decide) (fun _ => ?_) (fun _ => ?_)
          · exact hk42 (v8, M10) _ _ _ hH (lv_sub hl [1, 2, 3, 4, 5, 6] rfl)
          · refine lv_bipush (v := 36) hx hb dX1_addRound_49 (by decide) ?_
            refine lv_iload hx hb dX1_addRound_51 (lv_at hl 0 rfl) ?_
            refine lv_imul hx hb dX1_addRound_53 ?_
            refine lv_iload hx hb dX1_addRound_54 (lv_at hl 7 rfl) ?_
            refine lv_iadd hx hb dX1_addRound_56 ?_
            refine W_nmi (fun v14 => ?_)
            refine lv_istore (lv' := [(8, .int v14), (6, .int v6), (0, .ref (ad 106)), (1, .ref (ad (iR o1))), (2, .int a2), (3, .int a3), (5, .int v2), (4, .int v8), (7, .int v9)]) hx hb dX1_addRound_57 hl (by decide) rfl (fun ls hl => ?_)
            refine lv_aload_n hx hb dX1_addRound_59 rfl (lv_at hl 2 rfl) ?_
            refine k_get C hH fd_X1_12 oD (k_ref (M := M10) (ad := ad) rD0) dX1_addRound_60 ?_
            refine lv_iload hx hb dX1_addRound_63 (lv_at hl 0 rfl) ?_
            refine kg_io C hH (kc_V C hH w_2_84 lc_yX2_has li_yX2_has (oF (f := 11) (by decide)) (kX2_has l E ad M10 11 (by decide) v14) (As := [.int v14]) rfl dX1_addRound_65 rfl hl.1 (Nat.le_of_ble_eq_true rfl) ⟨Nat.le_of_ble_eq_true rfl, Nat.le_of_ble_eq_true rfl⟩ ⟨Nat.le_of_ble_eq_true rfl, Nat.le_of_ble_eq_true rfl⟩) ⟨rfl, rfl⟩ (fun v15 H locs hH => ?_)
            refine kb_if_ne (tgt := 141) hx hb dX1_addRound_68 (by decide) (fun _ => ?_) (fun _ => ?_)
            · refine W_nm (fun v16 ev16 => ?_)
              refine lv_iinc (v := v16) (lv' := [(7, .int v16), (8, .int v14), (6, .int v6), (0, .ref (ad 106)), (1, .ref (ad (iR o1))), (2, .int a2), (3, .int a3), (5, .int v2), (4, .int v8)]) hx hb dX1_addRound_141 hl (k := 8) rfl (by rw [ev16]; rfl) (by decide) rfl (fun ls hl => ?_)
              refine lv_goto (tgt := 42) hx hb dX1_addRound_144 (by decide) ?_
              exact hrec42 (v8, v16, M10) _ _ _ hH (lv_sub hl [2, 3, 4, 5, 6, 7, 8, 0] rfl)
            · refine lv_aload_n hx hb dX1_addRound_71 rfl (lv_at hl 2 rfl) ?_
              refine k_get C hH fd_X1_21 oD (k_ref (M := M10) (ad := ad) rD2) dX1_addRound_72 ?_
              refine lv_iload hx hb dX1_addRound_75 (lv_at hl 0 rfl) ?_
              refine kg_io C hH (kc_V C hH w_2_84 lc_yX2_has li_yX2_has (oF (f := 13) (by decide)) (kX2_has l E ad M10 13 (by decide) v14) (As := [.int v14]) rfl dX1_addRound_77 rfl hl.1 (Nat.le_of_ble_eq_true rfl) ⟨Nat.le_of_ble_eq_true rfl, Nat.le_of_ble_eq_true rfl⟩ ⟨Nat.le_of_ble_eq_true rfl, Nat.le_of_ble_eq_true rfl⟩) ⟨rfl, rfl⟩ (fun v17 H locs hH => ?_)
              refine kb_if_eq (tgt := 86) hx hb dX1_addRound_80 (by decide) (fun _ => ?_) (fun _ => ?_)
              · refine lv_aload_n hx hb dX1_addRound_86 rfl (lv_at hl 3 rfl) ?_
                refine lv_iload hx hb dX1_addRound_87 (lv_at hl 6 rfl) ?_
                refine lv_iload hx hb dX1_addRound_89 (lv_at hl 8 rfl) ?_
                refine lv_bipush (v := 6) hx hb dX1_addRound_91 (by decide) ?_
                refine lv_idiv hx hb dX1_addRound_93 (by decide) ?_
                refine lv_iload hx hb dX1_addRound_94 (lv_at hl 8 rfl) ?_
                refine lv_bipush (v := 6) hx hb dX1_addRound_96 (by decide) ?_
                refine k_irem hx hb dX1_addRound_98 (by decide) ?_
                refine lv_aload_n hx hb dX1_addRound_99 rfl (lv_at hl 2 rfl) ?_
                refine k_get C hH fd_X1_12 oD (k_ref (M := M10) (ad := ad) rD0) dX1_addRound_100 ?_
                refine lv_aload_n hx hb dX1_addRound_103 rfl (lv_at hl 2 rfl) ?_
                refine k_get C hH fd_X1_18 oD (k_ref (M := M10) (ad := ad) rD1) dX1_addRound_104 ?_
                refine kg_io C hH (kc_V C hH w_2_88 lc_yX6_makersOf li_yX6_makersOf (oR (f := o1) ho1) (kX6_makersOf l E ad M10 o1 ho1 v2 (v9 / 6) (jrem v9 6) 11 (by decide) 12 (by decide)) (As := [.int v2, .int (v9 / 6), .int (jrem v9 6), .ref (ad (iF 11)), .ref (ad (iF 12))]) rfl dX1_addRound_107 rfl hl.1 (Nat.le_of_ble_eq_true rfl) ⟨Nat.le_of_ble_eq_true rfl, Nat.le_of_ble_eq_true rfl⟩ ⟨Nat.le_of_ble_eq_true rfl, Nat.le_of_ble_eq_true rfl⟩) ⟨rfl, rfl⟩ (fun v18 H locs hH => ?_)
                refine lv_istore (lv' := [(9, .int v18), (8, .int v14), (6, .int v6), (0, .ref (ad 106)), (1, .ref (ad (iR o1))), (2, .int a2), (3, .int a3), (5, .int v2), (4, .int v8), (7, .int v9)]) hx hb dX1_addRound_110 hl (by decide) rfl (fun ls hl => ?_)
                refine lv_iload hx hb dX1_addRound_112 (lv_at hl 0 rfl) ?_
                refine kb_if_eq (tgt := 141) hx hb dX1_addRound_114 (by decide) (fun _ => ?_) (fun _ => ?_)
                · refine W_nm (fun v19 ev19 => ?_)
                  refine lv_iinc (v := v19) (lv' := [(7, .int v19), (9, .int v18), (8, .int v14), (6, .int v6), (0, .ref (ad 106)), (1, .ref (ad (iR o1))), (2, .int a2), (3, .int a3), (5, .int v2), (4, .int v8)]) hx hb dX1_addRound_141 hl (k := 9) rfl (by rw [ev19]; rfl) (by decide) rfl (fun ls hl => ?_)
                  refine lv_goto (tgt := 42) hx hb dX1_addRound_144 (by decide) ?_
                  exact hrec42 (v8, v19, M10) _ _ _ hH (lv_sub hl [3, 4, 5, 6, 7, 8, 9, 0] rfl)
                · refine lv_aload_n hx hb dX1_addRound_117 rfl (lv_at hl 3 rfl) ?_
                  refine lv_iload hx hb dX1_addRound_118 (lv_at hl 1 rfl) ?_
                  refine lv_iload_n hx hb dX1_addRound_120 rfl (lv_at hl 6 rfl) ?_
                  refine lv_iload hx hb dX1_addRound_121 (lv_at hl 7 rfl) ?_
                  refine lv_iload hx hb dX1_addRound_123 (lv_at hl 0 rfl) ?_
                  refine kg_io C hH (kc_SN C hH w_2_115 w_st_yX9_lowestOf lc_yX9_lowestOf (kX9_lowestOf l E ad M10 v18) (As := [.int v18]) rfl dX1_addRound_125 rfl hl.1 (Nat.le_of_ble_eq_true rfl) ⟨Nat.le_of_ble_eq_true rfl, Nat.le_of_ble_eq_true rfl⟩ ⟨Nat.le_of_ble_eq_true rfl, Nat.le_of_ble_eq_true rfl⟩) ⟨rfl, rfl⟩ (fun v20 H locs hH => ?_)
                  refine kg_v C hH (kc_V C hH w_2_118 lc_yX1_enter li_yX1_enter oD (kX1_enter l E ad M10 v14 a3 v2 v20) (As := [.int v14, .int a3, .int v2, .int v20]) rfl dX1_addRound_128 rfl hl.1 (Nat.le_of_ble_eq_true rfl) ⟨Nat.le_of_ble_eq_true rfl, Nat.le_of_ble_eq_true rfl⟩ ⟨Nat.le_of_ble_eq_true rfl, Nat.le_of_ble_eq_true rfl⟩) ⟨rfl, rfl⟩ (fun M21 H locs hH => ?_)
                  refine lv_aload_n hx hb dX1_addRound_131 rfl (lv_at hl 3 rfl) ?_
                  refine lv_aload_n hx hb dX1_addRound_132 rfl (lv_at hl 4 rfl) ?_
                  refine lv_iload hx hb dX1_addRound_133 (lv_at hl 1 rfl) ?_
                  refine kg_v C hH (kc_V C hH w_2_126 lc_yX1_rest li_yX1_rest oD (kX1_rest l E ad M21 o1 ho1 v14) (As := [.ref (ad (iR o1)), .int v14]) rfl dX1_addRound_135 rfl hl.1 (Nat.le_of_ble_eq_true rfl) ⟨Nat.le_of_ble_eq_true rfl, Nat.le_of_ble_eq_true rfl⟩ ⟨Nat.le_of_ble_eq_true rfl, Nat.le_of_ble_eq_true rfl⟩) ⟨rfl, rfl⟩ (fun M22 H locs hH => ?_)
                  refine lv_iconst (v := 1) hx hb dX1_addRound_138 (by decide) ?_
                  refine lv_istore (lv' := [(4, .int 1), (9, .int v18), (8, .int v14), (6, .int v6), (0, .ref (ad 106)), (1, .ref (ad (iR o1))), (2, .int a2), (3, .int a3), (5, .int v2), (7, .int v9)]) hx hb dX1_addRound_139 hl (by decide) rfl (fun ls hl => ?_)
                  refine W_nm (fun v23 ev23 => ?_)
                  refine lv_iinc (v := v23) (lv' := [(7, .int v23), (4, .int 1), (9, .int v18), (8, .int v14), (6, .int v6), (0, .ref (ad 106)), (1, .ref (ad (iR o1))), (2, .int a2), (3, .int a3), (5, .int v2)]) hx hb dX1_addRound_141 hl (k := 9) rfl (by rw [ev23]; rfl) (by decide) rfl (fun ls hl => ?_)
                  refine lv_goto (tgt := 42) hx hb dX1_addRound_144 (by decide) ?_
                  exact hrec42 (1, v23, M22) _ _ _ hH (lv_sub hl [4, 5, 6, 7, 8, 9, 1, 0] rfl)
              · refine lv_goto (tgt := 141) hx hb dX1_addRound_83 (by decide) ?_
                refine W_nm (fun v24 ev24 => ?_)
                refine lv_iinc (v := v24) (lv' := [(7, .int v24), (8, .int v14), (6, .int v6), (0, .ref (ad 106)), (1, .ref (ad (iR o1))), (2, .int a2), (3, .int a3), (5, .int v2), (4, .int v8)]) hx hb dX1_addRound_141 hl (k := 8) rfl (by rw [ev24]; rfl) (by decide) rfl (fun ls hl => ?_)
                refine lv_goto (tgt := 42) hx hb dX1_addRound_144 (by decide) ?_
                exact hrec42 (v8, v24, M10) _ _ _ hH (lv_sub hl [2, 3, 4, 5, 6, 7, 8, 0] rfl)
      · refine lv_goto (tgt := 147) hx hb dX1_addRound_36 (by decide) ?_
        refine W_nm (fun v25 ev25 => ?_)
        refine lv_iinc (v := v25) (lv' := [(5, .int v25), (6, .int v6), (0, .ref (ad 106)), (1, .ref (ad (iR o1))), (2, .int a2), (3, .int a3), (4, .int v1)]) hx hb dX1_addRound_147 hl (k := 6) rfl (by rw [ev25]; rfl) (by decide) rfl (fun ls hl => ?_)
        refine lv_goto (tgt := 6) hx hb dX1_addRound_150 (by decide) ?_
        exact hrec6 (v1, v25, M3) _ _ _ hH (lv_sub hl [2, 3, 4, 5, 6, 0] rfl)
def fX2_join_X2 (M3 : KS) : Option (KS) := some M3
theorem fX2_join_X2_u {M3 : KS} : fX2_join_X2 M3 = some M3 := rfl
def fX2_join_L2 (o0 : Nat) (o1 : Nat) (rec2 : (Int32 × KS) → Option (KS)) (k2 : (KS) → Option (KS)) (x : Int32 × KS) : Option (KS) := match x with | (v1, M2) => (if 36 ≤ v1 then k2 M2 else if inb v1 36 then if inb v1 36 then if inb v1 36 then nm (kset M2 (iFt o0) v1.toNatClampNeg ((M2.1 (iFt o0) v1.toNatClampNeg) ||| (M2.1 (iFt o1) v1.toNatClampNeg))) fun M4 => if inb v1 36 then if inb v1 36 then if inb v1 36 then nm (kset M4 (iFf o0) v1.toNatClampNeg ((M4.1 (iFf o0) v1.toNatClampNeg) ||| (M4.1 (iFf o1) v1.toNatClampNeg))) fun M5 => nm (v1 + 1) fun v6 => rec2 (v6, M5) else none else none else none else none else none else none)
theorem fX2_join_L2_u {o0 : Nat} {o1 : Nat} {rec2 : (Int32 × KS) → Option (KS)} {k2 : (KS) → Option (KS)} {v1 : Int32} {M2 : KS} : fX2_join_L2 o0 o1 rec2 k2 (v1, M2) = (if 36 ≤ v1 then k2 M2 else if inb v1 36 then if inb v1 36 then if inb v1 36 then nm (kset M2 (iFt o0) v1.toNatClampNeg ((M2.1 (iFt o0) v1.toNatClampNeg) ||| (M2.1 (iFt o1) v1.toNatClampNeg))) fun M4 => if inb v1 36 then if inb v1 36 then if inb v1 36 then nm (kset M4 (iFf o0) v1.toNatClampNeg ((M4.1 (iFf o0) v1.toNatClampNeg) ||| (M4.1 (iFf o1) v1.toNatClampNeg))) fun M5 => nm (v1 + 1) fun v6 => rec2 (v6, M5) else none else none else none else none else none else none) := rfl
def fX2_join (M : KS) (o0 : Nat) (o1 : Nat) : Option (KS) := lp (fX2_join_L2 o0 o1) (fX2_join_X2) 1000000 (0, M)
set_option maxHeartbeats 4000000 in
set_option maxRecDepth 100000 in
theorem kX2_join (l : Launch) (E : KE) (ad : Nat → Nat) (M : KS) (o0 : Nat) (ho0 : o0 < 15) (o1 : Nat) (ho1 : o1 < 15) : CT l yX2_join cX2_join 3 none { frames := 0, cells := 0, slots := 0, locals := 0 } SK E ad [.ref (ad (iF o0)), .ref (ad (iF o1))] M (QV SK E ad) (fX2_join M o0 o1) := by
  refine CT.ofW (by decide) (Nat.le_of_ble_eq_true rfl) (fun sz p e s m args below meth c C hr hH ls hl => ?_)
  have hx := C.1.1
  have hb := C.1.2.1
  have hl : lv_has ls 3 [(0, .ref (ad (iF o0))), (1, .ref (ad (iF o1)))] := hl
  unfold fX2_join
  refine lv_iconst (v := 0) hx hb dX2_join_0 (by decide) ?_
  refine lv_istore_n (lv' := [(2, .int 0), (0, .ref (ad (iF o0))), (1, .ref (ad (iF o1)))]) hx hb dX2_join_1 rfl hl (by decide) rfl (fun ls hl => ?_)
  refine W_lp (fun (x : Int32 × KS) H locs => KH SK E ad sz x.2 s.heap H locs) (fun x ls => lv_has ls 3 [(0, .ref (ad (iF o0))), (1, .ref (ad (iF o1))), (2, .int x.1)]) (fun _ ls => F0 m 2 ls []) (fun (x : KS) H locs => KH SK E ad sz x s.heap H locs) (fun x ls => lv_has ls 3 []) (fun _ ls => F0 m 47 ls []) ?_ ?_ hH (lv_sub hl [1, 2, 0] rfl)
  · intro M3 H locs ls hH hl
    have hH : KH SK E ad sz M3 s.heap H locs := hH
    have hl : lv_has ls 3 [] := hl
    refine W_q fX2_join_X2_u ?_
    exact ke_v C hH hr (Nat.le_refl _) (Nat.le_refl _) rfl dX2_join_47
  · intro rec2 k2 hrec2 hk2 ⟨v1, M2⟩ H locs ls hH hl
    have hH : KH SK E ad sz M2 s.heap H locs := hH
    have hl : lv_has ls 3 [(0, .ref (ad (iF o0))), (1, .ref (ad (iF o1))), (2, .int v1)] := hl
    refine W_q fX2_join_L2_u ?_
    refine lv_iload_n hx hb dX2_join_2 rfl (lv_at hl 2 rfl) ?_
    refine lv_aload_n hx hb dX2_join_3 rfl (lv_at hl 0 rfl) ?_
    refine k_get C hH fd_X2_9 (oF (f := o0) ho0) (k_ref (M := M2) (ad := ad) (rF0 (f := o0) ho0)) dX2_join_4 ?_
    refine k_ilen C hH (aF0 (f := o0) ho0) (v := 36) rfl dX2_join_7 ?_
    refine kb_icmp_ge (tgt := 47) hx hb dX2_join_8 (by decide) (fun _ => ?_) (fun _ => ?_)
    · exact hk2 M2 _ _ _ hH (lv_sub hl [] rfl)
    · refine lv_aload_n hx hb dX2_join_11 rfl (lv_at hl 0 rfl) ?_
      refine k_get C hH fd_X2_9 (oF (f := o0) ho0) (k_ref (M := M2) (ad := ad) (rF0 (f := o0) ho0)) dX2_join_12 ?_
      refine lv_iload_n hx hb dX2_join_15 rfl (lv_at hl 2 rfl) ?_
      refine lv_dup2_11 hx hb dX2_join_16 rfl rfl ?_
      refine k_iald C hH (aF0 (f := o0) ho0) dX2_join_17 ?_
      refine lv_aload_n hx hb dX2_join_18 rfl (lv_at hl 1 rfl) ?_
      refine k_get C hH fd_X2_9 (oF (f := o1) ho1) (k_ref (M := M2) (ad := ad) (rF0 (f := o1) ho1)) dX2_join_19 ?_
      refine lv_iload_n hx hb dX2_join_22 rfl (lv_at hl 2 rfl) ?_
      refine k_iald C hH (aF0 (f := o1) ho1) dX2_join_23 ?_
      refine lv_ior hx hb dX2_join_24 ?_
      refine k_iast C hH (aF0 (f := o0) ho0) dX2_join_25 (fun M4 H locs hH => ?_)
      refine lv_aload_n hx hb dX2_join_26 rfl (lv_at hl 0 rfl) ?_
      refine k_get C hH fd_X2_15 (oF (f := o0) ho0) (k_ref (M := M4) (ad := ad) (rF1 (f := o0) ho0)) dX2_join_27 ?_
      refine lv_iload_n hx hb dX2_join_30 rfl (lv_at hl 2 rfl) ?_
      refine lv_dup2_11 hx hb dX2_join_31 rfl rfl ?_
      refine k_iald C hH (aF1 (f := o0) ho0) dX2_join_32 ?_
      refine lv_aload_n hx hb dX2_join_33 rfl (lv_at hl 1 rfl) ?_
      refine k_get C hH fd_X2_15 (oF (f := o1) ho1) (k_ref (M := M4) (ad := ad) (rF1 (f := o1) ho1)) dX2_join_34 ?_
      refine lv_iload_n hx hb dX2_join_37 rfl (lv_at hl 2 rfl) ?_
      refine k_iald C hH (aF1 (f := o1) ho1) dX2_join_38 ?_
      refine lv_ior hx hb dX2_join_39 ?_
      refine k_iast C hH (aF1 (f := o0) ho0) dX2_join_40 (fun M5 H locs hH => ?_)
      refine W_nm (fun v6 ev6 => ?_)
      refine lv_iinc (v := v6) (lv' := [(2, .int v6), (0, .ref (ad (iF o0))), (1, .ref (ad (iF o1)))]) hx hb dX2_join_41 hl (k := 2) rfl (by rw [ev6]; rfl) (by decide) rfl (fun ls hl => ?_)
      refine lv_goto (tgt := 2) hx hb dX2_join_44 (by decide) ?_
      exact hrec2 (v6, M5) _ _ _ hH (lv_sub hl [1, 2, 0] rfl)
def fX1_settled_X46 (M7 : KS) : Option (KS) := nm (kset M7 106 9 1) fun M8 => some M8
theorem fX1_settled_X46_u {M7 : KS} : fX1_settled_X46 M7 = nm (kset M7 106 9 1) fun M8 => some M8 := rfl
def fX1_settled_X65 (v5 : Int32) (rec46 : (Int32 × KS) → Option (KS)) (M12 : KS) : Option (KS) := nm (v5 + 1) fun v13 => rec46 (v13, M12)
theorem fX1_settled_X65_u {v5 : Int32} {rec46 : (Int32 × KS) → Option (KS)} {M12 : KS} : fX1_settled_X65 v5 rec46 M12 = nm (v5 + 1) fun v13 => rec46 (v13, M12) := rfl
def fX1_settled_L65 (o1 : Nat) (v5 : Int32) (rec65 : (Int32 × KS) → Option (KS)) (k65 : (KS) → Option (KS)) (x : Int32 × KS) : Option (KS) := match x with | (v10, M11) => (if 216 < v10 then k65 M11 else (fX2_clear M11 13).bind fun M14 => bd2 (fX1_addRound M14 o1 v5 v10) fun v16 M15 => (if v16 = 0 then k65 M15 else (fX2_join M15 11 13).bind fun M17 => (fX2_copy M17 12 13).bind fun M18 => nm (v10 + 1) fun v19 => rec65 (v19, M18)))
theorem fX1_settled_L65_u {o1 : Nat} {v5 : Int32} {rec65 : (Int32 × KS) → Option (KS)} {k65 : (KS) → Option (KS)} {v10 : Int32} {M11 : KS} : fX1_settled_L65 o1 v5 rec65 k65 (v10, M11) = (if 216 < v10 then k65 M11 else (fX2_clear M11 13).bind fun M14 => bd2 (fX1_addRound M14 o1 v5 v10) fun v16 M15 => (if v16 = 0 then k65 M15 else (fX2_join M15 11 13).bind fun M17 => (fX2_copy M17 12 13).bind fun M18 => nm (v10 + 1) fun v19 => rec65 (v19, M18))) := rfl
def fX1_settled_L46 (o1 : Nat) (v4 : Int32) (rec46 : (Int32 × KS) → Option (KS)) (k46 : (KS) → Option (KS)) (x : Int32 × KS) : Option (KS) := match x with | (v5, M6) => (if v4 ≤ v5 then k46 M6 else (fX2_copy M6 12 11).bind fun M9 => lp (fX1_settled_L65 o1 v5) (fX1_settled_X65 v5 rec46) 1000000 (1, M9))
theorem fX1_settled_L46_u {o1 : Nat} {v4 : Int32} {rec46 : (Int32 × KS) → Option (KS)} {k46 : (KS) → Option (KS)} {v5 : Int32} {M6 : KS} : fX1_settled_L46 o1 v4 rec46 k46 (v5, M6) = (if v4 ≤ v5 then k46 M6 else (fX2_copy M6 12 11).bind fun M9 => lp (fX1_settled_L65 o1 v5) (fX1_settled_X65 v5 rec46) 1000000 (1, M9)) := rfl
def fX1_settled (M : KS) (o1 : Nat) : Option (KS) := (if (M.1 106 9) = 0 then (fX1_start M o1).bind fun M1 => bd2 (fX3_arrange M1 0 o1 (M1.1 (iR o1) 3)) fun v3 M2 => (fX3_count M2 0).bind fun v4 => lp (fX1_settled_L46 o1 v4) (fX1_settled_X46) 1000000 (0, M2) else some M)
set_option maxHeartbeats 4000000 in
set_option maxRecDepth 100000 in
theorem kX1_settled (l : Launch) (E : KE) (ad : Nat → Nat) (M : KS) (o1 : Nat) (ho1 : o1 < 11) : CT l yX1_settled cX1_settled 5 (some (.object "KinFacts$Derivation")) { frames := 4, cells := 0, slots := 0, locals := 111 } SK E ad [.ref (ad 106), .ref (ad (iS o1))] M (QR SK E ad 106) (fX1_settled M o1) := by
  refine CT.ofW (by decide) (Nat.le_of_ble_eq_true rfl) (fun sz p e s m args below meth c C hr hH ls hl => ?_)
  have hx := C.1.1
  have hb := C.1.2.1
  have hl : lv_has ls 5 [(0, .ref (ad 106)), (1, .ref (ad (iS o1)))] := hl
  unfold fX1_settled
  refine lv_aload_n hx hb dX1_settled_0 rfl (lv_at hl 0 rfl) ?_
  refine k_get C hH fd_X1_48 oD (k_int (M := M) (ad := ad) nD9) dX1_settled_1 ?_
  refine kb_if_eq (tgt := 9) hx hb dX1_settled_4 (by decide) (fun _ => ?_) (fun _ => ?_)
  · refine lv_aload_n hx hb dX1_settled_9 rfl (lv_at hl 0 rfl) ?_
    refine lv_aload_n hx hb dX1_settled_10 rfl (lv_at hl 1 rfl) ?_
    refine k_getN C hH fn_X1_52 (oS (f := o1) ho1) (k_ref (M := M) (ad := ad) (rS0 (f := o1) ho1)) dX1_settled_11 ?_
    refine kg_v C hH (kc_V C hH w_2_31 lc_yX1_start li_yX1_start oD (kX1_start l E ad M o1 (Nat.lt_of_lt_of_le ho1 (by decide))) (As := [.ref (ad (iF o1))]) rfl dX1_settled_14 rfl hl.1 (Nat.le_of_ble_eq_true rfl) ⟨Nat.le_of_ble_eq_true rfl, Nat.le_of_ble_eq_true rfl⟩ ⟨Nat.le_of_ble_eq_true rfl, Nat.le_of_ble_eq_true rfl⟩) ⟨rfl, rfl⟩ (fun M1 H locs hH => ?_)
    refine lv_aload_n hx hb dX1_settled_17 rfl (lv_at hl 0 rfl) ?_
    refine k_get C hH fd_X1_27 oD (k_ref (M := M1) (ad := ad) rD3) dX1_settled_18 ?_
    refine lv_aload_n hx hb dX1_settled_21 rfl (lv_at hl 1 rfl) ?_
    refine k_getN C hH fn_X1_61 (oS (f := o1) ho1) (k_ref (M := M1) (ad := ad) (rS1 (f := o1) ho1)) dX1_settled_22 ?_
    refine lv_aload_n hx hb dX1_settled_25 rfl (lv_at hl 1 rfl) ?_
    refine k_getN C hH fn_X1_61 (oS (f := o1) ho1) (k_ref (M := M1) (ad := ad) (rS1 (f := o1) ho1)) dX1_settled_26 ?_
    refine k_getN C hH fn_X1_65 (oR (f := o1) ho1) (k_int (M := M1) (ad := ad) (nR3 (f := o1) ho1)) dX1_settled_29 ?_
    refine kg_ib C hH (kc_V C hH w_2_39 lc_yX3_arrange li_yX3_arrange (oY (f := 0) (by decide)) (kX3_arrange l E ad M1 0 (by decide) o1 ho1 (M1.1 (iR o1) 3)) (As := [.ref (ad (iR o1)), .int (M1.1 (iR o1) 3)]) rfl dX1_settled_32 rfl hl.1 (Nat.le_of_ble_eq_true rfl) ⟨Nat.le_of_ble_eq_true rfl, Nat.le_of_ble_eq_true rfl⟩ ⟨Nat.le_of_ble_eq_true rfl, Nat.le_of_ble_eq_true rfl⟩) ⟨rfl, rfl⟩ (fun v3 M2 H locs hH => ?_)
    refine lv_pop hx hb dX1_settled_35 rfl ?_
    refine lv_aload_n hx hb dX1_settled_36 rfl (lv_at hl 0 rfl) ?_
    refine k_get C hH fd_X1_27 oD (k_ref (M := M2) (ad := ad) rD3) dX1_settled_37 ?_
    refine kg_io C hH (kc_V C hH w_2_73 lc_yX3_count li_yX3_count (oY (f := 0) (by decide)) (kX3_count l E ad M2 0 (by decide)) (As := []) rfl dX1_settled_40 rfl hl.1 (Nat.le_of_ble_eq_true rfl) ⟨Nat.le_of_ble_eq_true rfl, Nat.le_of_ble_eq_true rfl⟩ ⟨Nat.le_of_ble_eq_true rfl, Nat.le_of_ble_eq_true rfl⟩) ⟨rfl, rfl⟩ (fun v4 H locs hH => ?_)
    refine lv_istore_n (lv' := [(2, .int v4), (0, .ref (ad 106)), (1, .ref (ad (iS o1)))]) hx hb dX1_settled_43 rfl hl (by decide) rfl (fun ls hl => ?_)
    refine lv_iconst (v := 0) hx hb dX1_settled_44 (by decide) ?_
    refine lv_istore_n (lv' := [(3, .int 0), (2, .int v4), (0, .ref (ad 106)), (1, .ref (ad (iS o1)))]) hx hb dX1_settled_45 rfl hl (by decide) rfl (fun ls hl => ?_)
    refine W_lp (fun (x : Int32 × KS) H locs => KH SK E ad sz x.2 s.heap H locs) (fun x ls => lv_has ls 5 [(2, .int v4), (0, .ref (ad 106)), (1, .ref (ad (iS o1))), (3, .int x.1)]) (fun _ ls => F0 m 46 ls []) (fun (x : KS) H locs => KH SK E ad sz x s.heap H locs) (fun x ls => lv_has ls 5 [(0, .ref (ad 106))]) (fun _ ls => F0 m 131 ls []) ?_ ?_ hH (lv_sub hl [1, 2, 3, 0] rfl)
    · intro M7 H locs ls hH hl
      have hH : KH SK E ad sz M7 s.heap H locs := hH
      have hl : lv_has ls 5 [(0, .ref (ad 106))] := hl
      refine W_q fX1_settled_X46_u ?_
      refine lv_aload_n hx hb dX1_settled_131 rfl (lv_at hl 0 rfl) ?_
      refine lv_iconst (v := 1) hx hb dX1_settled_132 (by decide) ?_
      refine k_put1 C hH fd_X1_48 fw_X1_9 oD nD9 rfl rfl dX1_settled_133 (fun M8 H locs hH => ?_)
      refine lv_aload_n hx hb dX1_settled_136 rfl (lv_at hl 0 rfl) ?_
      exact ke_r C hH hr (Or.inl ⟨_, rfl⟩) (Nat.le_refl _) (Nat.le_refl _) rfl dX1_settled_137
    · intro rec46 k46 hrec46 hk46 ⟨v5, M6⟩ H locs ls hH hl
      have hH : KH SK E ad sz M6 s.heap H locs := hH
      have hl : lv_has ls 5 [(2, .int v4), (0, .ref (ad 106)), (1, .ref (ad (iS o1))), (3, .int v5)] := hl
      refine W_q fX1_settled_L46_u ?_
      refine lv_iload_n hx hb dX1_settled_46 rfl (lv_at hl 3 rfl) ?_
      refine lv_iload_n hx hb dX1_settled_47 rfl (lv_at hl 0 rfl) ?_
      refine kb_icmp_ge (tgt := 131) hx hb dX1_settled_48 (by decide) (fun _ => ?_) (fun _ => ?_)
      · exact hk46 M6 _ _ _ hH (lv_sub hl [1] rfl)
      · refine lv_aload_n hx hb dX1_settled_51 rfl (lv_at hl 1 rfl) ?_
        refine k_get C hH fd_X1_18 oD (k_ref (M := M6) (ad := ad) rD1) dX1_settled_52 ?_
        refine lv_aload_n hx hb dX1_settled_55 rfl (lv_at hl 1 rfl) ?_
        refine k_get C hH fd_X1_12 oD (k_ref (M := M6) (ad := ad) rD0) dX1_settled_56 ?_
        refine kg_v C hH (kc_V C hH w_2_35 lc_yX2_copy li_yX2_copy (oF (f := 12) (by decide)) (kX2_copy l E ad M6 12 (by decide) 11 (by decide)) (As := [.ref (ad (iF 11))]) rfl dX1_settled_59 rfl hl.1 (Nat.le_of_ble_eq_true rfl) ⟨Nat.le_of_ble_eq_true rfl, Nat.le_of_ble_eq_true rfl⟩ ⟨Nat.le_of_ble_eq_true rfl, Nat.le_of_ble_eq_true rfl⟩) ⟨rfl, rfl⟩ (fun M9 H locs hH => ?_)
        refine lv_iconst (v := 1) hx hb dX1_settled_62 (by decide) ?_
        refine lv_istore (lv' := [(4, .int 1), (2, .int v4), (0, .ref (ad 106)), (1, .ref (ad (iS o1))), (3, .int v5)]) hx hb dX1_settled_63 hl (by decide) rfl (fun ls hl => ?_)
        refine W_lp (fun (x : Int32 × KS) H locs => KH SK E ad sz x.2 s.heap H locs) (fun x ls => lv_has ls 5 [(2, .int v4), (0, .ref (ad 106)), (1, .ref (ad (iS o1))), (3, .int v5), (4, .int x.1)]) (fun _ ls => F0 m 65 ls []) (fun (x : KS) H locs => KH SK E ad sz x s.heap H locs) (fun x ls => lv_has ls 5 [(2, .int v4), (0, .ref (ad 106)), (1, .ref (ad (iS o1))), (3, .int v5)]) (fun _ ls => F0 m 125 ls []) ?_ ?_ hH (lv_sub hl [1, 2, 3, 4, 0] rfl)
        · intro M12 H locs ls hH hl
          have hH : KH SK E ad sz M12 s.heap H locs := hH
          have hl : lv_has ls 5 [(2, .int v4), (0, .ref (ad 106)), (1, .ref (ad (iS o1))), (3, .int v5)] := hl
          refine W_q fX1_settled_X65_u ?_
          refine W_nm (fun v13 ev13 => ?_)
          refine lv_iinc (v := v13) (lv' := [(3, .int v13), (2, .int v4), (0, .ref (ad 106)), (1, .ref (ad (iS o1)))]) hx hb dX1_settled_125 hl (k := 3) rfl (by rw [ev13]; rfl) (by decide) rfl (fun ls hl => ?_)
          refine lv_goto (tgt := 46) hx hb dX1_settled_128 (by decide) ?_
          exact hrec46 (v13, M12) _ _ _ hH (lv_sub hl [1, 2, 3, 0] rfl)
        · intro rec65 k65 hrec65 hk65 ⟨v10, M11⟩ H locs ls hH hl
          have hH : KH SK E ad sz M11 s.heap H locs := hH
          have hl : lv_has ls 5 [(2, .int v4), (0, .ref (ad 106)), (1, .ref (ad (iS o1))), (3, .int v5), (4, .int v10)] := hl
          refine W_q fX1_settled_L65_u ?_
          refine lv_iload hx hb dX1_settled_65 (lv_at hl 4 rfl) ?_
          refine lv_sipush (v := 216) hx hb dX1_settled_67 (by decide) ?_
          refine kb_icmp_gt (tgt := 125) hx hb dX1_settled_70 (by decide) (fun _ => ?_) (fun _ => ?_)
          · exact hk65 M11 _ _ _ hH (lv_sub hl [0, 1, 2, 3] rfl)
          · refine lv_aload_n hx hb dX1_settled_73 rfl (lv_at hl 1 rfl) ?_
            refine k_get C hH fd_X1_21 oD (k_ref (M := M11) (ad := ad) rD2) dX1_settled_74 ?_
            refine kg_v C hH (kc_V C hH w_2_74 lc_yX2_clear li_yX2_clear (oF (f := 13) (by decide)) (kX2_clear l E ad M11 13 (by decide)) (As := []) rfl dX1_settled_77 rfl hl.1 (Nat.le_of_ble_eq_true rfl) ⟨Nat.le_of_ble_eq_true rfl, Nat.le_of_ble_eq_true rfl⟩ ⟨Nat.le_of_ble_eq_true rfl, Nat.le_of_ble_eq_true rfl⟩) ⟨rfl, rfl⟩ (fun M14 H locs hH => ?_)
            refine lv_aload_n hx hb dX1_settled_80 rfl (lv_at hl 1 rfl) ?_
            refine lv_aload_n hx hb dX1_settled_81 rfl (lv_at hl 2 rfl) ?_
            refine k_getN C hH fn_X1_61 (oS (f := o1) ho1) (k_ref (M := M14) (ad := ad) (rS1 (f := o1) ho1)) dX1_settled_82 ?_
            refine lv_iload_n hx hb dX1_settled_85 rfl (lv_at hl 3 rfl) ?_
            refine lv_iload hx hb dX1_settled_86 (lv_at hl 4 rfl) ?_
            refine kg_ib C hH (kc_V C hH w_2_78 lc_yX1_addRound li_yX1_addRound oD (kX1_addRound l E ad M14 o1 ho1 v5 v10) (As := [.ref (ad (iR o1)), .int v5, .int v10]) rfl dX1_settled_88 rfl hl.1 (Nat.le_of_ble_eq_true rfl) ⟨Nat.le_of_ble_eq_true rfl, Nat.le_of_ble_eq_true rfl⟩ ⟨Nat.le_of_ble_eq_true rfl, Nat.le_of_ble_eq_true rfl⟩) ⟨rfl, rfl⟩ (fun v16 M15 H locs hH => ?_)
            refine kb_if_ne (tgt := 97) hx hb dX1_settled_91 (by decide) (fun _ => ?_) (fun _ => ?_)
            · refine lv_aload_n hx hb dX1_settled_97 rfl (lv_at hl 1 rfl) ?_
              refine k_get C hH fd_X1_12 oD (k_ref (M := M15) (ad := ad) rD0) dX1_settled_98 ?_
              refine lv_aload_n hx hb dX1_settled_101 rfl (lv_at hl 1 rfl) ?_
              refine k_get C hH fd_X1_21 oD (k_ref (M := M15) (ad := ad) rD2) dX1_settled_102 ?_
              refine kg_v C hH (kc_V C hH w_2_145 lc_yX2_join li_yX2_join (oF (f := 11) (by decide)) (kX2_join l E ad M15 11 (by decide) 13 (by decide)) (As := [.ref (ad (iF 13))]) rfl dX1_settled_105 rfl hl.1 (Nat.le_of_ble_eq_true rfl) ⟨Nat.le_of_ble_eq_true rfl, Nat.le_of_ble_eq_true rfl⟩ ⟨Nat.le_of_ble_eq_true rfl, Nat.le_of_ble_eq_true rfl⟩) ⟨rfl, rfl⟩ (fun M17 H locs hH => ?_)
              refine lv_aload_n hx hb dX1_settled_108 rfl (lv_at hl 1 rfl) ?_
              refine k_get C hH fd_X1_18 oD (k_ref (M := M17) (ad := ad) rD1) dX1_settled_109 ?_
              refine lv_aload_n hx hb dX1_settled_112 rfl (lv_at hl 1 rfl) ?_
              refine k_get C hH fd_X1_21 oD (k_ref (M := M17) (ad := ad) rD2) dX1_settled_113 ?_
              refine kg_v C hH (kc_V C hH w_2_35 lc_yX2_copy li_yX2_copy (oF (f := 12) (by decide)) (kX2_copy l E ad M17 12 (by decide) 13 (by decide)) (As := [.ref (ad (iF 13))]) rfl dX1_settled_116 rfl hl.1 (Nat.le_of_ble_eq_true rfl) ⟨Nat.le_of_ble_eq_true rfl, Nat.le_of_ble_eq_true rfl⟩ ⟨Nat.le_of_ble_eq_true rfl, Nat.le_of_ble_eq_true rfl⟩) ⟨rfl, rfl⟩ (fun M18 H locs hH => ?_)
              refine W_nm (fun v19 ev19 => ?_)
              refine lv_iinc (v := v19) (lv' := [(4, .int v19), (2, .int v4), (0, .ref (ad 106)), (1, .ref (ad (iS o1))), (3, .int v5)]) hx hb dX1_settled_119 hl (k := 4) rfl (by rw [ev19]; rfl) (by decide) rfl (fun ls hl => ?_)
              refine lv_goto (tgt := 65) hx hb dX1_settled_122 (by decide) ?_
              exact hrec65 (v19, M18) _ _ _ hH (lv_sub hl [1, 2, 3, 4, 0] rfl)
            · refine lv_goto (tgt := 125) hx hb dX1_settled_94 (by decide) ?_
              exact hk65 M15 _ _ _ hH (lv_sub hl [0, 1, 2, 3] rfl)
  · refine lv_aload_n hx hb dX1_settled_7 rfl (lv_at hl 0 rfl) ?_
    exact ke_r C hH hr (Or.inl ⟨_, rfl⟩) (Nat.le_refl _) (Nat.le_refl _) rfl dX1_settled_8
def fX9_held (M : KS)  : Option (KS) := (fX1_settled M 0).bind fun M1 => some M1
set_option maxHeartbeats 4000000 in
set_option maxRecDepth 100000 in
theorem kX9_held (l : Launch) (E : KE) (ad : Nat → Nat) (M : KS)  : CT l yX9_held cX9_held 1 (some (.object "KinFacts$Facts")) { frames := 5, cells := 0, slots := 0, locals := 135 } SK E ad [.ref (ad 121)] M (QR SK E ad (iF 11)) (fX9_held M) := by
  refine CT.ofW (by decide) (Nat.le_of_ble_eq_true rfl) (fun sz p e s m args below meth c C hr hH ls hl => ?_)
  have hx := C.1.1
  have hb := C.1.2.1
  have hl : lv_has ls 1 [(0, .ref (ad 121))] := hl
  unfold fX9_held
  refine lv_aload_n hx hb dX9_held_0 rfl (lv_at hl 0 rfl) ?_
  refine k_get C hH fd_X9_29 oK (k_ref (M := M) (ad := ad) rK3) dX9_held_1 ?_
  refine lv_aload_n hx hb dX9_held_4 rfl (lv_at hl 0 rfl) ?_
  refine k_get C hH fd_X9_10 oK (k_ref (M := M) (ad := ad) rK0) dX9_held_5 ?_
  refine kg_r C hH (kc_V C hH w_2_27 lc_yX1_settled li_yX1_settled oD (kX1_settled l E ad M 0 (by decide)) (As := [.ref (ad (iS 0))]) rfl dX9_held_8 rfl hl.1 (Nat.le_of_ble_eq_true rfl) ⟨Nat.le_of_ble_eq_true rfl, Nat.le_of_ble_eq_true rfl⟩ ⟨Nat.le_of_ble_eq_true rfl, Nat.le_of_ble_eq_true rfl⟩) ⟨rfl, rfl⟩ (fun M1 H locs hH => ?_)
  refine k_getN C hH fn_X9_140 oD (k_ref (M := M1) (ad := ad) rD0) dX9_held_11 ?_
  exact ke_r C hH hr (Or.inl ⟨_, rfl⟩) (Nat.le_refl _) (Nat.le_refl _) rfl dX9_held_14
def fX2_size_X4 (v3 : Int32) : Option (Int32) := some v3
theorem fX2_size_X4_u {v3 : Int32} : fX2_size_X4 v3 = some v3 := rfl
def fX2_size_L4 (M : KS) (o0 : Nat) (rec4 : (Int32 × Int32) → Option (Int32)) (k4 : (Int32) → Option (Int32)) (x : Int32 × Int32) : Option (Int32) := match x with | (v1, v2) => (if 36 ≤ v2 then k4 v1 else if inb v2 36 then nm ((v1 + (fJ6_bitCount_0f7a4 (M.1 (iFt o0) v2.toNatClampNeg)))) fun v4 => nm (v2 + 1) fun v5 => rec4 (v4, v5) else none)
theorem fX2_size_L4_u {M : KS} {o0 : Nat} {rec4 : (Int32 × Int32) → Option (Int32)} {k4 : (Int32) → Option (Int32)} {v1 : Int32} {v2 : Int32} : fX2_size_L4 M o0 rec4 k4 (v1, v2) = (if 36 ≤ v2 then k4 v1 else if inb v2 36 then nm ((v1 + (fJ6_bitCount_0f7a4 (M.1 (iFt o0) v2.toNatClampNeg)))) fun v4 => nm (v2 + 1) fun v5 => rec4 (v4, v5) else none) := rfl
def fX2_size (M : KS) (o0 : Nat) : Option (Int32) := lp (fX2_size_L4 M o0) (fX2_size_X4) 1000000 (0, 0)
set_option maxHeartbeats 4000000 in
set_option maxRecDepth 100000 in
theorem kX2_size (l : Launch) (E : KE) (ad : Nat → Nat) (M : KS) (o0 : Nat) (ho0 : o0 < 15) : CT l yX2_size cX2_size 3 (some .int) { frames := 1, cells := 0, slots := 0, locals := 20 } SK E ad [.ref (ad (iF o0))] M (fun sz a => QI SK E ad sz (a, M)) (fX2_size M o0) := by
  refine CT.ofW (by decide) (Nat.le_of_ble_eq_true rfl) (fun sz p e s m args below meth c C hr hH ls hl => ?_)
  have hx := C.1.1
  have hb := C.1.2.1
  have hl : lv_has ls 3 [(0, .ref (ad (iF o0)))] := hl
  unfold fX2_size
  refine lv_iconst (v := 0) hx hb dX2_size_0 (by decide) ?_
  refine lv_istore_n (lv' := [(1, .int 0), (0, .ref (ad (iF o0)))]) hx hb dX2_size_1 rfl hl (by decide) rfl (fun ls hl => ?_)
  refine lv_iconst (v := 0) hx hb dX2_size_2 (by decide) ?_
  refine lv_istore_n (lv' := [(2, .int 0), (1, .int 0), (0, .ref (ad (iF o0)))]) hx hb dX2_size_3 rfl hl (by decide) rfl (fun ls hl => ?_)
  refine W_lp (fun (x : Int32 × Int32) H locs => KH SK E ad sz M s.heap H locs) (fun x ls => lv_has ls 3 [(0, .ref (ad (iF o0))), (1, .int x.1), (2, .int x.2)]) (fun _ ls => F0 m 4 ls []) (fun (x : Int32) H locs => KH SK E ad sz M s.heap H locs) (fun x ls => lv_has ls 3 [(1, .int x)]) (fun _ ls => F0 m 31 ls []) ?_ ?_ hH (lv_sub hl [2, 1, 0] rfl)
  · intro v3 H locs ls hH hl
    have hH : KH SK E ad sz M s.heap H locs := hH
    have hl : lv_has ls 3 [(1, .int v3)] := hl
    refine W_q fX2_size_X4_u ?_
    refine lv_iload_n hx hb dX2_size_31 rfl (lv_at hl 0 rfl) ?_
    exact ke_i C hH hr (Nat.le_refl _) (Nat.le_refl _) rfl dX2_size_32
  · intro rec4 k4 hrec4 hk4 ⟨v1, v2⟩ H locs ls hH hl
    have hH : KH SK E ad sz M s.heap H locs := hH
    have hl : lv_has ls 3 [(0, .ref (ad (iF o0))), (1, .int v1), (2, .int v2)] := hl
    refine W_q fX2_size_L4_u ?_
    refine lv_iload_n hx hb dX2_size_4 rfl (lv_at hl 2 rfl) ?_
    refine lv_aload_n hx hb dX2_size_5 rfl (lv_at hl 0 rfl) ?_
    refine k_get C hH fd_X2_9 (oF (f := o0) ho0) (k_ref (M := M) (ad := ad) (rF0 (f := o0) ho0)) dX2_size_6 ?_
    refine k_ilen C hH (aF0 (f := o0) ho0) (v := 36) rfl dX2_size_9 ?_
    refine kb_icmp_ge (tgt := 31) hx hb dX2_size_10 (by decide) (fun _ => ?_) (fun _ => ?_)
    · exact hk4 v1 _ _ _ hH (lv_sub hl [1] rfl)
    · refine lv_iload_n hx hb dX2_size_13 rfl (lv_at hl 1 rfl) ?_
      refine lv_aload_n hx hb dX2_size_14 rfl (lv_at hl 0 rfl) ?_
      refine k_get C hH fd_X2_9 (oF (f := o0) ho0) (k_ref (M := M) (ad := ad) (rF0 (f := o0) ho0)) dX2_size_15 ?_
      refine lv_iload_n hx hb dX2_size_18 rfl (lv_at hl 2 rfl) ?_
      refine k_iald C hH (aF0 (f := o0) ho0) dX2_size_19 ?_
      refine kg_ip C hH (kc_S2 C hH w_2_221 w_st_yJ6_bitCount_0f7a4 lc_yJ6_bitCount_0f7a4 (kJ6_bitCount_0f7a4 l E ad M (M.1 (iFt o0) v2.toNatClampNeg)) (As := [.int (M.1 (iFt o0) v2.toNatClampNeg)]) rfl dX2_size_20 rfl hl.1 (Nat.le_of_ble_eq_true rfl) ⟨Nat.le_of_ble_eq_true rfl, Nat.le_of_ble_eq_true rfl⟩ ⟨Nat.le_of_ble_eq_true rfl, Nat.le_of_ble_eq_true rfl⟩) ⟨rfl, rfl⟩ (fun H locs hH => ?_)
      refine lv_iadd hx hb dX2_size_23 ?_
      refine W_nmi (fun v4 => ?_)
      refine lv_istore_n (lv' := [(1, .int v4), (0, .ref (ad (iF o0))), (2, .int v2)]) hx hb dX2_size_24 rfl hl (by decide) rfl (fun ls hl => ?_)
      refine W_nm (fun v5 ev5 => ?_)
      refine lv_iinc (v := v5) (lv' := [(2, .int v5), (1, .int v4), (0, .ref (ad (iF o0)))]) hx hb dX2_size_25 hl (k := 2) rfl (by rw [ev5]; rfl) (by decide) rfl (fun ls hl => ?_)
      refine lv_goto (tgt := 4) hx hb dX2_size_28 (by decide) ?_
      exact hrec4 (v4, v5) _ _ _ hH (lv_sub hl [2, 1, 0] rfl)
def fX2_take (M : KS) (o0 : Nat) (a1 : Int32) : Option (KS) := (if a1 < 0 then some M else (if a1 < 216 then if inb (a1 / 6) 36 then if inb (a1 / 6) 36 then nm (kset M (iFt o0) (a1 / 6).toNatClampNeg ((M.1 (iFt o0) (a1 / 6).toNatClampNeg) &&& ((jshl 1 (jrem a1 6)) ^^^ (-1)))) fun M1 => if inb (((a1 / 36) * 6) + (jrem a1 6)) 36 then if inb (((a1 / 36) * 6) + (jrem a1 6)) 36 then nm (kset M1 (iFf o0) (((a1 / 36) * 6) + (jrem a1 6)).toNatClampNeg ((M1.1 (iFf o0) (((a1 / 36) * 6) + (jrem a1 6)).toNatClampNeg) &&& ((jshl 1 (jrem (a1 / 6) 6)) ^^^ (-1)))) fun M2 => some M2 else none else none else none else none else some M))
set_option maxHeartbeats 4000000 in
set_option maxRecDepth 100000 in
theorem kX2_take (l : Launch) (E : KE) (ad : Nat → Nat) (M : KS) (o0 : Nat) (ho0 : o0 < 15) (a1 : Int32) : CT l yX2_take cX2_take 2 none { frames := 0, cells := 0, slots := 0, locals := 0 } SK E ad [.ref (ad (iF o0)), .int a1] M (QV SK E ad) (fX2_take M o0 a1) := by
  refine CT.ofW (by decide) (Nat.le_of_ble_eq_true rfl) (fun sz p e s m args below meth c C hr hH ls hl => ?_)
  have hx := C.1.1
  have hb := C.1.2.1
  have hl : lv_has ls 2 [(0, .ref (ad (iF o0))), (1, .int a1)] := hl
  unfold fX2_take
  refine lv_iload_n hx hb dX2_take_0 rfl (lv_at hl 1 rfl) ?_
  refine kb_if_lt (tgt := 11) hx hb dX2_take_1 (by decide) (fun _ => ?_) (fun _ => ?_)
  · exact ke_v C hH hr (Nat.le_refl _) (Nat.le_refl _) rfl dX2_take_11
  · refine lv_iload_n hx hb dX2_take_4 rfl (lv_at hl 1 rfl) ?_
    refine lv_sipush (v := 216) hx hb dX2_take_5 (by decide) ?_
    refine kb_icmp_lt (tgt := 12) hx hb dX2_take_8 (by decide) (fun _ => ?_) (fun _ => ?_)
    · refine lv_aload_n hx hb dX2_take_12 rfl (lv_at hl 0 rfl) ?_
      refine k_get C hH fd_X2_9 (oF (f := o0) ho0) (k_ref (M := M) (ad := ad) (rF0 (f := o0) ho0)) dX2_take_13 ?_
      refine lv_iload_n hx hb dX2_take_16 rfl (lv_at hl 1 rfl) ?_
      refine lv_bipush (v := 6) hx hb dX2_take_17 (by decide) ?_
      refine lv_idiv hx hb dX2_take_19 (by decide) ?_
      refine lv_dup2_11 hx hb dX2_take_20 rfl rfl ?_
      refine k_iald C hH (aF0 (f := o0) ho0) dX2_take_21 ?_
      refine lv_iconst (v := 1) hx hb dX2_take_22 (by decide) ?_
      refine lv_iload_n hx hb dX2_take_23 rfl (lv_at hl 1 rfl) ?_
      refine lv_bipush (v := 6) hx hb dX2_take_24 (by decide) ?_
      refine k_irem hx hb dX2_take_26 (by decide) ?_
      refine k_ishl hx hb dX2_take_27 ?_
      refine lv_iconst (v := (-1)) hx hb dX2_take_28 (by decide) ?_
      refine lv_ixor hx hb dX2_take_29 ?_
      refine lv_iand hx hb dX2_take_30 ?_
      refine k_iast C hH (aF0 (f := o0) ho0) dX2_take_31 (fun M1 H locs hH => ?_)
      refine lv_aload_n hx hb dX2_take_32 rfl (lv_at hl 0 rfl) ?_
      refine k_get C hH fd_X2_15 (oF (f := o0) ho0) (k_ref (M := M1) (ad := ad) (rF1 (f := o0) ho0)) dX2_take_33 ?_
      refine lv_iload_n hx hb dX2_take_36 rfl (lv_at hl 1 rfl) ?_
      refine lv_bipush (v := 36) hx hb dX2_take_37 (by decide) ?_
      refine lv_idiv hx hb dX2_take_39 (by decide) ?_
      refine lv_bipush (v := 6) hx hb dX2_take_40 (by decide) ?_
      refine lv_imul hx hb dX2_take_42 ?_
      refine lv_iload_n hx hb dX2_take_43 rfl (lv_at hl 1 rfl) ?_
      refine lv_bipush (v := 6) hx hb dX2_take_44 (by decide) ?_
      refine k_irem hx hb dX2_take_46 (by decide) ?_
      refine lv_iadd hx hb dX2_take_47 ?_
      refine lv_dup2_11 hx hb dX2_take_48 rfl rfl ?_
      refine k_iald C hH (aF1 (f := o0) ho0) dX2_take_49 ?_
      refine lv_iconst (v := 1) hx hb dX2_take_50 (by decide) ?_
      refine lv_iload_n hx hb dX2_take_51 rfl (lv_at hl 1 rfl) ?_
      refine lv_bipush (v := 6) hx hb dX2_take_52 (by decide) ?_
      refine lv_idiv hx hb dX2_take_54 (by decide) ?_
      refine lv_bipush (v := 6) hx hb dX2_take_55 (by decide) ?_
      refine k_irem hx hb dX2_take_57 (by decide) ?_
      refine k_ishl hx hb dX2_take_58 ?_
      refine lv_iconst (v := (-1)) hx hb dX2_take_59 (by decide) ?_
      refine lv_ixor hx hb dX2_take_60 ?_
      refine lv_iand hx hb dX2_take_61 ?_
      refine k_iast C hH (aF1 (f := o0) ho0) dX2_take_62 (fun M2 H locs hH => ?_)
      exact ke_v C hH hr (Nat.le_refl _) (Nat.le_refl _) rfl dX2_take_63
    · exact ke_v C hH hr (Nat.le_refl _) (Nat.le_refl _) rfl dX2_take_11
def fX9_takeFact_J42_34 (M4 : KS) (v6 : Int32) : Option (Int32 × KS) := bd2 (fX9_refuse M4 3 v6) fun v8 M7 => if isB v8 then some (v8, M7) else none
theorem fX9_takeFact_J42_34_u {M4 : KS} {v6 : Int32} : fX9_takeFact_J42_34 M4 v6 = bd2 (fX9_refuse M4 3 v6) fun v8 M7 => if isB v8 then some (v8, M7) else none := rfl
def fX9_takeFact (M : KS) (a1 : Int32) : Option (Int32 × KS) := (fX2_has M 0 a1).bind fun v1 => (if v1 = 0 then (fX1_settled M 0).bind fun M4 => (fX2_has M4 11 a1).bind fun v5 => jn (fX9_takeFact_J42_34 M4) (fun K42_34 => (if v5 = 0 then K42_34 0 else K42_34 1)) else (fX2_take M 0 a1).bind fun M2 => (fX1_outdate M2).bind fun M3 => some (1, M3))
set_option maxHeartbeats 4000000 in
set_option maxRecDepth 100000 in
theorem kX9_takeFact (l : Launch) (E : KE) (ad : Nat → Nat) (M : KS) (a1 : Int32) : CT l yX9_takeFact cX9_takeFact 2 (some .boolean) { frames := 5, cells := 0, slots := 0, locals := 135 } SK E ad [.ref (ad 121), .int a1] M (QI SK E ad) (fX9_takeFact M a1) := by
  refine CT.ofW (by decide) (Nat.le_of_ble_eq_true rfl) (fun sz p e s m args below meth c C hr hH ls hl => ?_)
  have hx := C.1.1
  have hb := C.1.2.1
  have hl : lv_has ls 2 [(0, .ref (ad 121)), (1, .int a1)] := hl
  unfold fX9_takeFact
  refine lv_aload_n hx hb dX9_takeFact_0 rfl (lv_at hl 0 rfl) ?_
  refine k_get C hH fd_X9_10 oK (k_ref (M := M) (ad := ad) rK0) dX9_takeFact_1 ?_
  refine k_getN C hH fn_X9_124 (oS (f := 0) (by decide)) (k_ref (M := M) (ad := ad) (rS0 (f := 0) (by decide))) dX9_takeFact_4 ?_
  refine lv_iload_n hx hb dX9_takeFact_7 rfl (lv_at hl 1 rfl) ?_
  refine kg_io C hH (kc_V C hH w_3_86 lc_yX2_has li_yX2_has (oF (f := 0) (by decide)) (kX2_has l E ad M 0 (by decide) a1) (As := [.int a1]) rfl dX9_takeFact_8 rfl hl.1 (Nat.le_of_ble_eq_true rfl) ⟨Nat.le_of_ble_eq_true rfl, Nat.le_of_ble_eq_true rfl⟩ ⟨Nat.le_of_ble_eq_true rfl, Nat.le_of_ble_eq_true rfl⟩) ⟨rfl, rfl⟩ (fun v1 H locs hH => ?_)
  refine kb_if_ne (tgt := 46) hx hb dX9_takeFact_11 (by decide) (fun _ => ?_) (fun _ => ?_)
  · refine lv_aload_n hx hb dX9_takeFact_46 rfl (lv_at hl 0 rfl) ?_
    refine k_get C hH fd_X9_10 oK (k_ref (M := M) (ad := ad) rK0) dX9_takeFact_47 ?_
    refine k_getN C hH fn_X9_124 (oS (f := 0) (by decide)) (k_ref (M := M) (ad := ad) (rS0 (f := 0) (by decide))) dX9_takeFact_50 ?_
    refine lv_iload_n hx hb dX9_takeFact_53 rfl (lv_at hl 1 rfl) ?_
    refine kg_v C hH (kc_V C hH w_3_139 lc_yX2_take li_yX2_take (oF (f := 0) (by decide)) (kX2_take l E ad M 0 (by decide) a1) (As := [.int a1]) rfl dX9_takeFact_54 rfl hl.1 (Nat.le_of_ble_eq_true rfl) ⟨Nat.le_of_ble_eq_true rfl, Nat.le_of_ble_eq_true rfl⟩ ⟨Nat.le_of_ble_eq_true rfl, Nat.le_of_ble_eq_true rfl⟩) ⟨rfl, rfl⟩ (fun M2 H locs hH => ?_)
    refine lv_aload_n hx hb dX9_takeFact_57 rfl (lv_at hl 0 rfl) ?_
    refine k_get C hH fd_X9_29 oK (k_ref (M := M2) (ad := ad) rK3) dX9_takeFact_58 ?_
    refine kg_v C hH (kc_V C hH w_3_97 lc_yX1_outdate li_yX1_outdate oD (kX1_outdate l E ad M2) (As := []) rfl dX9_takeFact_61 rfl hl.1 (Nat.le_of_ble_eq_true rfl) ⟨Nat.le_of_ble_eq_true rfl, Nat.le_of_ble_eq_true rfl⟩ ⟨Nat.le_of_ble_eq_true rfl, Nat.le_of_ble_eq_true rfl⟩) ⟨rfl, rfl⟩ (fun M3 H locs hH => ?_)
    refine lv_iconst (v := 1) hx hb dX9_takeFact_64 (by decide) ?_
    exact ke_z C hH hr (Nat.le_refl _) (Nat.le_refl _) rfl (Or.inr rfl) dX9_takeFact_65
  · refine lv_aload_n hx hb dX9_takeFact_14 rfl (lv_at hl 0 rfl) ?_
    refine lv_iconst (v := 3) hx hb dX9_takeFact_15 (by decide) ?_
    refine lv_aload_n hx hb dX9_takeFact_16 rfl (lv_at hl 0 rfl) ?_
    refine k_get C hH fd_X9_29 oK (k_ref (M := M) (ad := ad) rK3) dX9_takeFact_17 ?_
    refine lv_aload_n hx hb dX9_takeFact_20 rfl (lv_at hl 0 rfl) ?_
    refine k_get C hH fd_X9_10 oK (k_ref (M := M) (ad := ad) rK0) dX9_takeFact_21 ?_
    refine kg_r C hH (kc_V C hH w_2_27 lc_yX1_settled li_yX1_settled oD (kX1_settled l E ad M 0 (by decide)) (As := [.ref (ad (iS 0))]) rfl dX9_takeFact_24 rfl hl.1 (Nat.le_of_ble_eq_true rfl) ⟨Nat.le_of_ble_eq_true rfl, Nat.le_of_ble_eq_true rfl⟩ ⟨Nat.le_of_ble_eq_true rfl, Nat.le_of_ble_eq_true rfl⟩) ⟨rfl, rfl⟩ (fun M4 H locs hH => ?_)
    refine k_getN C hH fn_X9_140 oD (k_ref (M := M4) (ad := ad) rD0) dX9_takeFact_27 ?_
    refine lv_iload_n hx hb dX9_takeFact_30 rfl (lv_at hl 1 rfl) ?_
    refine kg_io C hH (kc_V C hH w_3_86 lc_yX2_has li_yX2_has (oF (f := 11) (by decide)) (kX2_has l E ad M4 11 (by decide) a1) (As := [.int a1]) rfl dX9_takeFact_31 rfl hl.1 (Nat.le_of_ble_eq_true rfl) ⟨Nat.le_of_ble_eq_true rfl, Nat.le_of_ble_eq_true rfl⟩ ⟨Nat.le_of_ble_eq_true rfl, Nat.le_of_ble_eq_true rfl⟩) ⟨rfl, rfl⟩ (fun v5 H locs hH => ?_)
    refine W_jn (fun (x : Int32) H locs => KH SK E ad sz M4 s.heap H locs) (fun x ls => lv_has ls 2 []) (fun x ls => F0 m 42 ls [.int x, .int 3, .ref (ad 121)]) ?_ (fun K42_34 hK42_34 => ?_)
    · intro v6 H locs ls hH hl
      have hH : KH SK E ad sz M4 s.heap H locs := hH
      have hl : lv_has ls 2 [] := hl
      refine W_q fX9_takeFact_J42_34_u ?_
      refine kg_ib C hH (kc_V C hH w_3_92 lc_yX9_refuse li_yX9_refuse oK (kX9_refuse l E ad M4 3 v6) (As := [.int 3, .int v6]) rfl dX9_takeFact_42 rfl hl.1 (Nat.le_of_ble_eq_true rfl) ⟨Nat.le_of_ble_eq_true rfl, Nat.le_of_ble_eq_true rfl⟩ ⟨Nat.le_of_ble_eq_true rfl, Nat.le_of_ble_eq_true rfl⟩) ⟨rfl, rfl⟩ (fun v8 M7 H locs hH => ?_)
      exact ke_zg C hH hr (Nat.le_refl _) (Nat.le_refl _) rfl dX9_takeFact_45
    · refine kb_if_eq (tgt := 41) hx hb dX9_takeFact_34 (by decide) (fun _ => ?_) (fun _ => ?_)
      · refine lv_iconst (v := 0) hx hb dX9_takeFact_41 (by decide) ?_
        exact hK42_34 0 _ _ _ hH (lv_sub hl [] rfl)
      · refine lv_iconst (v := 1) hx hb dX9_takeFact_37 (by decide) ?_
        refine lv_goto (tgt := 42) hx hb dX9_takeFact_38 (by decide) ?_
        exact hK42_34 1 _ _ _ hH (lv_sub hl [] rfl)
def fX0_makeMore_X5 (x : Int32 × KS) : Option (Int32 × KS) := match x with | (v4, M5) => if isB v4 then some (v4, M5) else none
theorem fX0_makeMore_X5_u {v4 : Int32} {M5 : KS} : fX0_makeMore_X5 (v4, M5) = if isB v4 then some (v4, M5) else none := rfl
def fX0_makeMore_X41 (v2 : Int32) (rec5 : (Int32 × Int32 × KS) → Option (Int32 × KS)) (x : Int32 × KS) : Option (Int32 × KS) := match x with | (v11, M12) => nm (v2 + 1) fun v13 => rec5 (v11, v13, M12)
theorem fX0_makeMore_X41_u {v2 : Int32} {rec5 : (Int32 × Int32 × KS) → Option (Int32 × KS)} {v11 : Int32} {M12 : KS} : fX0_makeMore_X41 v2 rec5 (v11, M12) = nm (v2 + 1) fun v13 => rec5 (v11, v13, M12) := rfl
def fX0_makeMore_L41 (o1 : Nat) (v2 : Int32) (v6 : Int32) (rec41 : (Int32 × Int32 × KS) → Option (Int32 × KS)) (k41 : (Int32 × KS) → Option (Int32 × KS)) (x : Int32 × Int32 × KS) : Option (Int32 × KS) := match x with | (v8, v9, M10) => (if 36 ≤ v9 then k41 (v8, M10) else nm (((36 * v6) + v9)) fun v14 => (fX2_has M10 14 v14).bind fun v15 => (if v15 = 0 then (fX6_makersOf M10 o1 v2 (v9 / 6) (jrem v9 6) 14 14).bind fun v17 => (if v17 = 0 then nm (v9 + 1) fun v18 => rec41 (v8, v18, M10) else (fX2_put M10 14 v14).bind fun M19 => nm (v9 + 1) fun v20 => rec41 (1, v20, M19)) else nm (v9 + 1) fun v16 => rec41 (v8, v16, M10)))
theorem fX0_makeMore_L41_u {o1 : Nat} {v2 : Int32} {v6 : Int32} {rec41 : (Int32 × Int32 × KS) → Option (Int32 × KS)} {k41 : (Int32 × KS) → Option (Int32 × KS)} {v8 : Int32} {v9 : Int32} {M10 : KS} : fX0_makeMore_L41 o1 v2 v6 rec41 k41 (v8, v9, M10) = (if 36 ≤ v9 then k41 (v8, M10) else nm (((36 * v6) + v9)) fun v14 => (fX2_has M10 14 v14).bind fun v15 => (if v15 = 0 then (fX6_makersOf M10 o1 v2 (v9 / 6) (jrem v9 6) 14 14).bind fun v17 => (if v17 = 0 then nm (v9 + 1) fun v18 => rec41 (v8, v18, M10) else (fX2_put M10 14 v14).bind fun M19 => nm (v9 + 1) fun v20 => rec41 (1, v20, M19)) else nm (v9 + 1) fun v16 => rec41 (v8, v16, M10))) := rfl
def fX0_makeMore_L5 (o1 : Nat) (a2 : Int32) (rec5 : (Int32 × Int32 × KS) → Option (Int32 × KS)) (k5 : (Int32 × KS) → Option (Int32 × KS)) (x : Int32 × Int32 × KS) : Option (Int32 × KS) := match x with | (v1, v2, M3) => (if (M3.1 (iR o1) 3) ≤ v2 then k5 (v1, M3) else (fX6_head M3 o1 v2).bind fun v6 => (fX3_of M3 1 v6).bind fun v7 => (if v7 = a2 then lp (fX0_makeMore_L41 o1 v2 v6) (fX0_makeMore_X41 v2 rec5) 1000000 (v1, 0, M3) else nm (v2 + 1) fun v21 => rec5 (v1, v21, M3)))
theorem fX0_makeMore_L5_u {o1 : Nat} {a2 : Int32} {rec5 : (Int32 × Int32 × KS) → Option (Int32 × KS)} {k5 : (Int32 × KS) → Option (Int32 × KS)} {v1 : Int32} {v2 : Int32} {M3 : KS} : fX0_makeMore_L5 o1 a2 rec5 k5 (v1, v2, M3) = (if (M3.1 (iR o1) 3) ≤ v2 then k5 (v1, M3) else (fX6_head M3 o1 v2).bind fun v6 => (fX3_of M3 1 v6).bind fun v7 => (if v7 = a2 then lp (fX0_makeMore_L41 o1 v2 v6) (fX0_makeMore_X41 v2 rec5) 1000000 (v1, 0, M3) else nm (v2 + 1) fun v21 => rec5 (v1, v21, M3))) := rfl
def fX0_makeMore (M : KS) (o1 : Nat) (a2 : Int32) : Option (Int32 × KS) := lp (fX0_makeMore_L5 o1 a2) (fX0_makeMore_X5) 1000000 (0, 0, M)
set_option maxHeartbeats 4000000 in
set_option maxRecDepth 100000 in
theorem kX0_makeMore (l : Launch) (E : KE) (ad : Nat → Nat) (M : KS) (o1 : Nat) (ho1 : o1 < 11) (a2 : Int32) : CT l yX0_makeMore cX0_makeMore 8 (some .boolean) { frames := 3, cells := 0, slots := 0, locals := 82 } SK E ad [.ref (ad 112), .ref (ad (iR o1)), .int a2] M (QI SK E ad) (fX0_makeMore M o1 a2) := by
  refine CT.ofW (by decide) (Nat.le_of_ble_eq_true rfl) (fun sz p e s m args below meth c C hr hH ls hl => ?_)
  have hx := C.1.1
  have hb := C.1.2.1
  have hl : lv_has ls 8 [(0, .ref (ad 112)), (1, .ref (ad (iR o1))), (2, .int a2)] := hl
  unfold fX0_makeMore
  refine lv_iconst (v := 0) hx hb dX0_makeMore_0 (by decide) ?_
  refine lv_istore_n (lv' := [(3, .int 0), (0, .ref (ad 112)), (1, .ref (ad (iR o1))), (2, .int a2)]) hx hb dX0_makeMore_1 rfl hl (by decide) rfl (fun ls hl => ?_)
  refine lv_iconst (v := 0) hx hb dX0_makeMore_2 (by decide) ?_
  refine lv_istore (lv' := [(4, .int 0), (3, .int 0), (0, .ref (ad 112)), (1, .ref (ad (iR o1))), (2, .int a2)]) hx hb dX0_makeMore_3 hl (by decide) rfl (fun ls hl => ?_)
  refine W_lp (fun (x : Int32 × Int32 × KS) H locs => KH SK E ad sz x.2.2 s.heap H locs) (fun x ls => lv_has ls 8 [(0, .ref (ad 112)), (1, .ref (ad (iR o1))), (2, .int a2), (3, .int x.1), (4, .int x.2.1)]) (fun _ ls => F0 m 5 ls []) (fun (x : Int32 × KS) H locs => KH SK E ad sz x.2 s.heap H locs) (fun x ls => lv_has ls 8 [(3, .int x.1)]) (fun _ ls => F0 m 120 ls []) ?_ ?_ hH (lv_sub hl [2, 3, 4, 1, 0] rfl)
  · intro ⟨v4, M5⟩ H locs ls hH hl
    have hH : KH SK E ad sz M5 s.heap H locs := hH
    have hl : lv_has ls 8 [(3, .int v4)] := hl
    refine W_q fX0_makeMore_X5_u ?_
    refine lv_iload_n hx hb dX0_makeMore_120 rfl (lv_at hl 0 rfl) ?_
    exact ke_zg C hH hr (Nat.le_refl _) (Nat.le_refl _) rfl dX0_makeMore_121
  · intro rec5 k5 hrec5 hk5 ⟨v1, v2, M3⟩ H locs ls hH hl
    have hH : KH SK E ad sz M3 s.heap H locs := hH
    have hl : lv_has ls 8 [(0, .ref (ad 112)), (1, .ref (ad (iR o1))), (2, .int a2), (3, .int v1), (4, .int v2)] := hl
    refine W_q fX0_makeMore_L5_u ?_
    refine lv_iload hx hb dX0_makeMore_5 (lv_at hl 4 rfl) ?_
    refine lv_aload_n hx hb dX0_makeMore_7 rfl (lv_at hl 1 rfl) ?_
    refine k_getN C hH fn_X0_44 (oR (f := o1) ho1) (k_int (M := M3) (ad := ad) (nR3 (f := o1) ho1)) dX0_makeMore_8 ?_
    refine kb_icmp_ge (tgt := 120) hx hb dX0_makeMore_11 (by decide) (fun _ => ?_) (fun _ => ?_)
    · exact hk5 (v1, M3) _ _ _ hH (lv_sub hl [3] rfl)
    · refine lv_aload_n hx hb dX0_makeMore_14 rfl (lv_at hl 1 rfl) ?_
      refine lv_iload hx hb dX0_makeMore_15 (lv_at hl 4 rfl) ?_
      refine kg_io C hH (kc_V C hH w_2_173 lc_yX6_head li_yX6_head (oR (f := o1) ho1) (kX6_head l E ad M3 o1 ho1 v2) (As := [.int v2]) rfl dX0_makeMore_17 rfl hl.1 (Nat.le_of_ble_eq_true rfl) ⟨Nat.le_of_ble_eq_true rfl, Nat.le_of_ble_eq_true rfl⟩ ⟨Nat.le_of_ble_eq_true rfl, Nat.le_of_ble_eq_true rfl⟩) ⟨rfl, rfl⟩ (fun v6 H locs hH => ?_)
      refine lv_istore (lv' := [(5, .int v6), (0, .ref (ad 112)), (1, .ref (ad (iR o1))), (2, .int a2), (3, .int v1), (4, .int v2)]) hx hb dX0_makeMore_20 hl (by decide) rfl (fun ls hl => ?_)
      refine lv_aload_n hx hb dX0_makeMore_22 rfl (lv_at hl 1 rfl) ?_
      refine k_get C hH fd_X0_21 oA (k_ref (M := M3) (ad := ad) rA1) dX0_makeMore_23 ?_
      refine lv_iload hx hb dX0_makeMore_26 (lv_at hl 0 rfl) ?_
      refine kg_io C hH (kc_V C hH w_2_174 lc_yX3_of li_yX3_of (oY (f := 1) (by decide)) (kX3_of l E ad M3 1 (by decide) v6) (As := [.int v6]) rfl dX0_makeMore_28 rfl hl.1 (Nat.le_of_ble_eq_true rfl) ⟨Nat.le_of_ble_eq_true rfl, Nat.le_of_ble_eq_true rfl⟩ ⟨Nat.le_of_ble_eq_true rfl, Nat.le_of_ble_eq_true rfl⟩) ⟨rfl, rfl⟩ (fun v7 H locs hH => ?_)
      refine lv_iload_n hx hb dX0_makeMore_31 rfl (lv_at hl 3 rfl) ?_
      refine kb_icmp_eq (tgt := 38) hx hb dX0_makeMore_32 (by decide) (fun _ => ?_) (fun _ => ?_)
      · refine lv_iconst (v := 0) hx hb dX0_makeMore_38 (by decide) ?_
        refine lv_istore (lv' := [(6, .int 0), (5, .int v6), (0, .ref (ad 112)), (1, .ref (ad (iR o1))), (2, .int a2), (3, .int v1), (4, .int v2)]) hx hb dX0_makeMore_39 hl (by decide) rfl (fun ls hl => ?_)
        refine W_lp (fun (x : Int32 × Int32 × KS) H locs => KH SK E ad sz x.2.2 s.heap H locs) (fun x ls => lv_has ls 8 [(5, .int v6), (0, .ref (ad 112)), (1, .ref (ad (iR o1))), (2, .int a2), (4, .int v2), (3, .int x.1), (6, .int x.2.1)]) (fun _ ls => F0 m 41 ls []) (fun (x : Int32 × KS) H locs => KH SK E ad sz x.2 s.heap H locs) (fun x ls => lv_has ls 8 [(0, .ref (ad 112)), (1, .ref (ad (iR o1))), (2, .int a2), (4, .int v2), (3, .int x.1)]) (fun _ ls => F0 m 114 ls []) ?_ ?_ hH (lv_sub hl [1, 2, 3, 4, 6, 5, 0] rfl)
        · intro ⟨v11, M12⟩ H locs ls hH hl
          have hH : KH SK E ad sz M12 s.heap H locs := hH
          have hl : lv_has ls 8 [(0, .ref (ad 112)), (1, .ref (ad (iR o1))), (2, .int a2), (4, .int v2), (3, .int v11)] := hl
          refine W_q fX0_makeMore_X41_u ?_
          refine W_nm (fun v13 ev13 => ?_)
          refine lv_iinc (v := v13) (lv' := [(4, .int v13), (0, .ref (ad 112)), (1, .ref (ad (iR o1))), (2, .int a2), (3, .int v11)]) hx hb dX0_makeMore_114 hl (k := 3) rfl (by rw [ev13]; rfl) (by decide) rfl (fun ls hl => ?_)
          refine lv_goto (tgt := 5) hx hb dX0_makeMore_117 (by decide) ?_
          exact hrec5 (v11, v13, M12) _ _ _ hH (lv_sub hl [1, 2, 3, 4, 0] rfl)
        · intro rec41 k41 hrec41 hk41 ⟨v8, v9, M10⟩ H locs ls hH hl
          have hH : KH SK E ad sz M10 s.heap H locs := hH
          have hl : lv_has ls 8 [(5, .int v6), (0, .ref (ad 112)), (1, .ref (ad (iR o1))), (2, .int a2), (4, .int v2), (3, .int v8), (6, .int v9)] := hl
          refine W_q fX0_makeMore_L41_u ?_
          refine lv_iload hx hb dX0_makeMore_41 (lv_at hl 6 rfl) ?_
          refine lv_bipush (v := 36) hx hb dX0_makeMore_43 (by decide) ?_
          refine kb_icmp_ge (tgt := 114) hx hb dX0_makeMore_45 (by decide) (fun _ => ?_) (fun _ => ?_)
          · exact hk41 (v8, M10) _ _ _ hH (lv_sub hl [1, 2, 3, 4, 5] rfl)
          · refine lv_bipush (v := 36) hx hb dX0_makeMore_48 (by decide) ?_
            refine lv_iload hx hb dX0_makeMore_50 (lv_at hl 0 rfl) ?_
            refine lv_imul hx hb dX0_makeMore_52 ?_
            refine lv_iload hx hb dX0_makeMore_53 (lv_at hl 6 rfl) ?_
            refine lv_iadd hx hb dX0_makeMore_55 ?_
            refine W_nmi (fun v14 => ?_)
            refine lv_istore (lv' := [(7, .int v14), (5, .int v6), (0, .ref (ad 112)), (1, .ref (ad (iR o1))), (2, .int a2), (4, .int v2), (3, .int v8), (6, .int v9)]) hx hb dX0_makeMore_56 hl (by decide) rfl (fun ls hl => ?_)
            refine lv_aload_n hx hb dX0_makeMore_58 rfl (lv_at hl 2 rfl) ?_
            refine k_get C hH fd_X0_12 oA (k_ref (M := M10) (ad := ad) rA0) dX0_makeMore_59 ?_
            refine lv_iload hx hb dX0_makeMore_62 (lv_at hl 0 rfl) ?_
            refine kg_io C hH (kc_V C hH w_2_175 lc_yX2_has li_yX2_has (oF (f := 14) (by decide)) (kX2_has l E ad M10 14 (by decide) v14) (As := [.int v14]) rfl dX0_makeMore_64 rfl hl.1 (Nat.le_of_ble_eq_true rfl) ⟨Nat.le_of_ble_eq_true rfl, Nat.le_of_ble_eq_true rfl⟩ ⟨Nat.le_of_ble_eq_true rfl, Nat.le_of_ble_eq_true rfl⟩) ⟨rfl, rfl⟩ (fun v15 H locs hH => ?_)
            refine kb_if_ne (tgt := 108) hx hb dX0_makeMore_67 (by decide) (fun _ => ?_) (fun _ => ?_)
            · refine W_nm (fun v16 ev16 => ?_)
              refine lv_iinc (v := v16) (lv' := [(6, .int v16), (7, .int v14), (5, .int v6), (0, .ref (ad 112)), (1, .ref (ad (iR o1))), (2, .int a2), (4, .int v2), (3, .int v8)]) hx hb dX0_makeMore_108 hl (k := 7) rfl (by rw [ev16]; rfl) (by decide) rfl (fun ls hl => ?_)
              refine lv_goto (tgt := 41) hx hb dX0_makeMore_111 (by decide) ?_
              exact hrec41 (v8, v16, M10) _ _ _ hH (lv_sub hl [2, 3, 4, 5, 6, 7, 0] rfl)
            · refine lv_aload_n hx hb dX0_makeMore_70 rfl (lv_at hl 3 rfl) ?_
              refine lv_iload hx hb dX0_makeMore_71 (lv_at hl 5 rfl) ?_
              refine lv_iload hx hb dX0_makeMore_73 (lv_at hl 7 rfl) ?_
              refine lv_bipush (v := 6) hx hb dX0_makeMore_75 (by decide) ?_
              refine lv_idiv hx hb dX0_makeMore_77 (by decide) ?_
              refine lv_iload hx hb dX0_makeMore_78 (lv_at hl 7 rfl) ?_
              refine lv_bipush (v := 6) hx hb dX0_makeMore_80 (by decide) ?_
              refine k_irem hx hb dX0_makeMore_82 (by decide) ?_
              refine lv_aload_n hx hb dX0_makeMore_83 rfl (lv_at hl 2 rfl) ?_
              refine k_get C hH fd_X0_12 oA (k_ref (M := M10) (ad := ad) rA0) dX0_makeMore_84 ?_
              refine lv_aload_n hx hb dX0_makeMore_87 rfl (lv_at hl 2 rfl) ?_
              refine k_get C hH fd_X0_12 oA (k_ref (M := M10) (ad := ad) rA0) dX0_makeMore_88 ?_
              refine kg_io C hH (kc_V C hH w_2_176 lc_yX6_makersOf li_yX6_makersOf (oR (f := o1) ho1) (kX6_makersOf l E ad M10 o1 ho1 v2 (v9 / 6) (jrem v9 6) 14 (by decide) 14 (by decide)) (As := [.int v2, .int (v9 / 6), .int (jrem v9 6), .ref (ad (iF 14)), .ref (ad (iF 14))]) rfl dX0_makeMore_91 rfl hl.1 (Nat.le_of_ble_eq_true rfl) ⟨Nat.le_of_ble_eq_true rfl, Nat.le_of_ble_eq_true rfl⟩ ⟨Nat.le_of_ble_eq_true rfl, Nat.le_of_ble_eq_true rfl⟩) ⟨rfl, rfl⟩ (fun v17 H locs hH => ?_)
              refine kb_if_eq (tgt := 108) hx hb dX0_makeMore_94 (by decide) (fun _ => ?_) (fun _ => ?_)
              · refine W_nm (fun v18 ev18 => ?_)
                refine lv_iinc (v := v18) (lv' := [(6, .int v18), (7, .int v14), (5, .int v6), (0, .ref (ad 112)), (1, .ref (ad (iR o1))), (2, .int a2), (4, .int v2), (3, .int v8)]) hx hb dX0_makeMore_108 hl (k := 7) rfl (by rw [ev18]; rfl) (by decide) rfl (fun ls hl => ?_)
                refine lv_goto (tgt := 41) hx hb dX0_makeMore_111 (by decide) ?_
                exact hrec41 (v8, v18, M10) _ _ _ hH (lv_sub hl [2, 3, 4, 5, 6, 7, 0] rfl)
              · refine lv_aload_n hx hb dX0_makeMore_97 rfl (lv_at hl 2 rfl) ?_
                refine k_get C hH fd_X0_12 oA (k_ref (M := M10) (ad := ad) rA0) dX0_makeMore_98 ?_
                refine lv_iload hx hb dX0_makeMore_101 (lv_at hl 0 rfl) ?_
                refine kg_v C hH (kc_V C hH w_2_177 lc_yX2_put li_yX2_put (oF (f := 14) (by decide)) (kX2_put l E ad M10 14 (by decide) v14) (As := [.int v14]) rfl dX0_makeMore_103 rfl hl.1 (Nat.le_of_ble_eq_true rfl) ⟨Nat.le_of_ble_eq_true rfl, Nat.le_of_ble_eq_true rfl⟩ ⟨Nat.le_of_ble_eq_true rfl, Nat.le_of_ble_eq_true rfl⟩) ⟨rfl, rfl⟩ (fun M19 H locs hH => ?_)
                refine lv_iconst (v := 1) hx hb dX0_makeMore_106 (by decide) ?_
                refine lv_istore_n (lv' := [(3, .int 1), (7, .int v14), (5, .int v6), (0, .ref (ad 112)), (1, .ref (ad (iR o1))), (2, .int a2), (4, .int v2), (6, .int v9)]) hx hb dX0_makeMore_107 rfl hl (by decide) rfl (fun ls hl => ?_)
                refine W_nm (fun v20 ev20 => ?_)
                refine lv_iinc (v := v20) (lv' := [(6, .int v20), (3, .int 1), (7, .int v14), (5, .int v6), (0, .ref (ad 112)), (1, .ref (ad (iR o1))), (2, .int a2), (4, .int v2)]) hx hb dX0_makeMore_108 hl (k := 7) rfl (by rw [ev20]; rfl) (by decide) rfl (fun ls hl => ?_)
                refine lv_goto (tgt := 41) hx hb dX0_makeMore_111 (by decide) ?_
                exact hrec41 (1, v20, M19) _ _ _ hH (lv_sub hl [3, 4, 5, 6, 7, 1, 0] rfl)
      · refine lv_goto (tgt := 114) hx hb dX0_makeMore_35 (by decide) ?_
        refine W_nm (fun v21 ev21 => ?_)
        refine lv_iinc (v := v21) (lv' := [(4, .int v21), (5, .int v6), (0, .ref (ad 112)), (1, .ref (ad (iR o1))), (2, .int a2), (3, .int v1)]) hx hb dX0_makeMore_114 hl (k := 5) rfl (by rw [ev21]; rfl) (by decide) rfl (fun ls hl => ?_)
        refine lv_goto (tgt := 5) hx hb dX0_makeMore_117 (by decide) ?_
        exact hrec5 (v1, v21, M3) _ _ _ hH (lv_sub hl [2, 3, 4, 5, 0] rfl)
def fX0_deriveAll_X23 (M6 : KS) : Option (KS) := some M6
theorem fX0_deriveAll_X23_u {M6 : KS} : fX0_deriveAll_X23 M6 = some M6 := rfl
def fX0_deriveAll_X31 (v4 : Int32) (rec23 : (Int32 × KS) → Option (KS)) (M9 : KS) : Option (KS) := nm (v4 + 1) fun v10 => rec23 (v10, M9)
theorem fX0_deriveAll_X31_u {v4 : Int32} {rec23 : (Int32 × KS) → Option (KS)} {M9 : KS} : fX0_deriveAll_X31 v4 rec23 M9 = nm (v4 + 1) fun v10 => rec23 (v10, M9) := rfl
def fX0_deriveAll_L31 (o1 : Nat) (v4 : Int32) (rec31 : (Int32 × KS) → Option (KS)) (k31 : (KS) → Option (KS)) (x : Int32 × KS) : Option (KS) := match x with | (v7, M8) => (if 216 < v7 then k31 M8 else bd2 (fX0_makeMore M8 o1 v4) fun v12 M11 => (if v12 = 0 then k31 M11 else nm (v7 + 1) fun v13 => rec31 (v13, M11)))
theorem fX0_deriveAll_L31_u {o1 : Nat} {v4 : Int32} {rec31 : (Int32 × KS) → Option (KS)} {k31 : (KS) → Option (KS)} {v7 : Int32} {M8 : KS} : fX0_deriveAll_L31 o1 v4 rec31 k31 (v7, M8) = (if 216 < v7 then k31 M8 else bd2 (fX0_makeMore M8 o1 v4) fun v12 M11 => (if v12 = 0 then k31 M11 else nm (v7 + 1) fun v13 => rec31 (v13, M11))) := rfl
def fX0_deriveAll_L23 (o1 : Nat) (v3 : Int32) (rec23 : (Int32 × KS) → Option (KS)) (k23 : (KS) → Option (KS)) (x : Int32 × KS) : Option (KS) := match x with | (v4, M5) => (if v3 ≤ v4 then k23 M5 else lp (fX0_deriveAll_L31 o1 v4) (fX0_deriveAll_X31 v4 rec23) 1000000 (0, M5))
theorem fX0_deriveAll_L23_u {o1 : Nat} {v3 : Int32} {rec23 : (Int32 × KS) → Option (KS)} {k23 : (KS) → Option (KS)} {v4 : Int32} {M5 : KS} : fX0_deriveAll_L23 o1 v3 rec23 k23 (v4, M5) = (if v3 ≤ v4 then k23 M5 else lp (fX0_deriveAll_L31 o1 v4) (fX0_deriveAll_X31 v4 rec23) 1000000 (0, M5)) := rfl
def fX0_deriveAll (M : KS) (o1 : Nat) : Option (KS) := bd2 (fX3_arrange M 1 o1 (M.1 (iR o1) 3)) fun v2 M1 => (fX3_count M1 1).bind fun v3 => lp (fX0_deriveAll_L23 o1 v3) (fX0_deriveAll_X23) 1000000 (0, M1)
set_option maxHeartbeats 4000000 in
set_option maxRecDepth 100000 in
theorem kX0_deriveAll (l : Launch) (E : KE) (ad : Nat → Nat) (M : KS) (o1 : Nat) (ho1 : o1 < 11) : CT l yX0_deriveAll cX0_deriveAll 5 none { frames := 4, cells := 0, slots := 0, locals := 109 } SK E ad [.ref (ad 112), .ref (ad (iR o1))] M (QV SK E ad) (fX0_deriveAll M o1) := by
  refine CT.ofW (by decide) (Nat.le_of_ble_eq_true rfl) (fun sz p e s m args below meth c C hr hH ls hl => ?_)
  have hx := C.1.1
  have hb := C.1.2.1
  have hl : lv_has ls 5 [(0, .ref (ad 112)), (1, .ref (ad (iR o1)))] := hl
  unfold fX0_deriveAll
  refine lv_aload_n hx hb dX0_deriveAll_0 rfl (lv_at hl 0 rfl) ?_
  refine k_get C hH fd_X0_21 oA (k_ref (M := M) (ad := ad) rA1) dX0_deriveAll_1 ?_
  refine lv_aload_n hx hb dX0_deriveAll_4 rfl (lv_at hl 1 rfl) ?_
  refine lv_aload_n hx hb dX0_deriveAll_5 rfl (lv_at hl 1 rfl) ?_
  refine k_getN C hH fn_X0_44 (oR (f := o1) ho1) (k_int (M := M) (ad := ad) (nR3 (f := o1) ho1)) dX0_deriveAll_6 ?_
  refine kg_ib C hH (kc_V C hH w_2_167 lc_yX3_arrange li_yX3_arrange (oY (f := 1) (by decide)) (kX3_arrange l E ad M 1 (by decide) o1 ho1 (M.1 (iR o1) 3)) (As := [.ref (ad (iR o1)), .int (M.1 (iR o1) 3)]) rfl dX0_deriveAll_9 rfl hl.1 (Nat.le_of_ble_eq_true rfl) ⟨Nat.le_of_ble_eq_true rfl, Nat.le_of_ble_eq_true rfl⟩ ⟨Nat.le_of_ble_eq_true rfl, Nat.le_of_ble_eq_true rfl⟩) ⟨rfl, rfl⟩ (fun v2 M1 H locs hH => ?_)
  refine lv_pop hx hb dX0_deriveAll_12 rfl ?_
  refine lv_aload_n hx hb dX0_deriveAll_13 rfl (lv_at hl 0 rfl) ?_
  refine k_get C hH fd_X0_21 oA (k_ref (M := M1) (ad := ad) rA1) dX0_deriveAll_14 ?_
  refine kg_io C hH (kc_V C hH w_2_168 lc_yX3_count li_yX3_count (oY (f := 1) (by decide)) (kX3_count l E ad M1 1 (by decide)) (As := []) rfl dX0_deriveAll_17 rfl hl.1 (Nat.le_of_ble_eq_true rfl) ⟨Nat.le_of_ble_eq_true rfl, Nat.le_of_ble_eq_true rfl⟩ ⟨Nat.le_of_ble_eq_true rfl, Nat.le_of_ble_eq_true rfl⟩) ⟨rfl, rfl⟩ (fun v3 H locs hH => ?_)
  refine lv_istore_n (lv' := [(2, .int v3), (0, .ref (ad 112)), (1, .ref (ad (iR o1)))]) hx hb dX0_deriveAll_20 rfl hl (by decide) rfl (fun ls hl => ?_)
  refine lv_iconst (v := 0) hx hb dX0_deriveAll_21 (by decide) ?_
  refine lv_istore_n (lv' := [(3, .int 0), (2, .int v3), (0, .ref (ad 112)), (1, .ref (ad (iR o1)))]) hx hb dX0_deriveAll_22 rfl hl (by decide) rfl (fun ls hl => ?_)
  refine W_lp (fun (x : Int32 × KS) H locs => KH SK E ad sz x.2 s.heap H locs) (fun x ls => lv_has ls 5 [(2, .int v3), (0, .ref (ad 112)), (1, .ref (ad (iR o1))), (3, .int x.1)]) (fun _ ls => F0 m 23 ls []) (fun (x : KS) H locs => KH SK E ad sz x s.heap H locs) (fun x ls => lv_has ls 5 []) (fun _ ls => F0 m 63 ls []) ?_ ?_ hH (lv_sub hl [1, 2, 3, 0] rfl)
  · intro M6 H locs ls hH hl
    have hH : KH SK E ad sz M6 s.heap H locs := hH
    have hl : lv_has ls 5 [] := hl
    refine W_q fX0_deriveAll_X23_u ?_
    exact ke_v C hH hr (Nat.le_refl _) (Nat.le_refl _) rfl dX0_deriveAll_63
  · intro rec23 k23 hrec23 hk23 ⟨v4, M5⟩ H locs ls hH hl
    have hH : KH SK E ad sz M5 s.heap H locs := hH
    have hl : lv_has ls 5 [(2, .int v3), (0, .ref (ad 112)), (1, .ref (ad (iR o1))), (3, .int v4)] := hl
    refine W_q fX0_deriveAll_L23_u ?_
    refine lv_iload_n hx hb dX0_deriveAll_23 rfl (lv_at hl 3 rfl) ?_
    refine lv_iload_n hx hb dX0_deriveAll_24 rfl (lv_at hl 0 rfl) ?_
    refine kb_icmp_ge (tgt := 63) hx hb dX0_deriveAll_25 (by decide) (fun _ => ?_) (fun _ => ?_)
    · exact hk23 M5 _ _ _ hH (lv_sub hl [] rfl)
    · refine lv_iconst (v := 0) hx hb dX0_deriveAll_28 (by decide) ?_
      refine lv_istore (lv' := [(4, .int 0), (2, .int v3), (0, .ref (ad 112)), (1, .ref (ad (iR o1))), (3, .int v4)]) hx hb dX0_deriveAll_29 hl (by decide) rfl (fun ls hl => ?_)
      refine W_lp (fun (x : Int32 × KS) H locs => KH SK E ad sz x.2 s.heap H locs) (fun x ls => lv_has ls 5 [(2, .int v3), (0, .ref (ad 112)), (1, .ref (ad (iR o1))), (3, .int v4), (4, .int x.1)]) (fun _ ls => F0 m 31 ls []) (fun (x : KS) H locs => KH SK E ad sz x s.heap H locs) (fun x ls => lv_has ls 5 [(2, .int v3), (0, .ref (ad 112)), (1, .ref (ad (iR o1))), (3, .int v4)]) (fun _ ls => F0 m 57 ls []) ?_ ?_ hH (lv_sub hl [1, 2, 3, 4, 0] rfl)
      · intro M9 H locs ls hH hl
        have hH : KH SK E ad sz M9 s.heap H locs := hH
        have hl : lv_has ls 5 [(2, .int v3), (0, .ref (ad 112)), (1, .ref (ad (iR o1))), (3, .int v4)] := hl
        refine W_q fX0_deriveAll_X31_u ?_
        refine W_nm (fun v10 ev10 => ?_)
        refine lv_iinc (v := v10) (lv' := [(3, .int v10), (2, .int v3), (0, .ref (ad 112)), (1, .ref (ad (iR o1)))]) hx hb dX0_deriveAll_57 hl (k := 3) rfl (by rw [ev10]; rfl) (by decide) rfl (fun ls hl => ?_)
        refine lv_goto (tgt := 23) hx hb dX0_deriveAll_60 (by decide) ?_
        exact hrec23 (v10, M9) _ _ _ hH (lv_sub hl [1, 2, 3, 0] rfl)
      · intro rec31 k31 hrec31 hk31 ⟨v7, M8⟩ H locs ls hH hl
        have hH : KH SK E ad sz M8 s.heap H locs := hH
        have hl : lv_has ls 5 [(2, .int v3), (0, .ref (ad 112)), (1, .ref (ad (iR o1))), (3, .int v4), (4, .int v7)] := hl
        refine W_q fX0_deriveAll_L31_u ?_
        refine lv_iload hx hb dX0_deriveAll_31 (lv_at hl 4 rfl) ?_
        refine lv_sipush (v := 216) hx hb dX0_deriveAll_33 (by decide) ?_
        refine kb_icmp_gt (tgt := 57) hx hb dX0_deriveAll_36 (by decide) (fun _ => ?_) (fun _ => ?_)
        · exact hk31 M8 _ _ _ hH (lv_sub hl [0, 1, 2, 3] rfl)
        · refine lv_aload_n hx hb dX0_deriveAll_39 rfl (lv_at hl 1 rfl) ?_
          refine lv_aload_n hx hb dX0_deriveAll_40 rfl (lv_at hl 2 rfl) ?_
          refine lv_iload_n hx hb dX0_deriveAll_41 rfl (lv_at hl 3 rfl) ?_
          refine kg_ib C hH (kc_V C hH w_2_169 lc_yX0_makeMore li_yX0_makeMore oA (kX0_makeMore l E ad M8 o1 ho1 v4) (As := [.ref (ad (iR o1)), .int v4]) rfl dX0_deriveAll_42 rfl hl.1 (Nat.le_of_ble_eq_true rfl) ⟨Nat.le_of_ble_eq_true rfl, Nat.le_of_ble_eq_true rfl⟩ ⟨Nat.le_of_ble_eq_true rfl, Nat.le_of_ble_eq_true rfl⟩) ⟨rfl, rfl⟩ (fun v12 M11 H locs hH => ?_)
          refine kb_if_ne (tgt := 51) hx hb dX0_deriveAll_45 (by decide) (fun _ => ?_) (fun _ => ?_)
          · refine W_nm (fun v13 ev13 => ?_)
            refine lv_iinc (v := v13) (lv' := [(4, .int v13), (2, .int v3), (0, .ref (ad 112)), (1, .ref (ad (iR o1))), (3, .int v4)]) hx hb dX0_deriveAll_51 hl (k := 4) rfl (by rw [ev13]; rfl) (by decide) rfl (fun ls hl => ?_)
            refine lv_goto (tgt := 31) hx hb dX0_deriveAll_54 (by decide) ?_
            exact hrec31 (v13, M11) _ _ _ hH (lv_sub hl [1, 2, 3, 4, 0] rfl)
          · refine lv_goto (tgt := 57) hx hb dX0_deriveAll_48 (by decide) ?_
            exact hk31 M11 _ _ _ hH (lv_sub hl [0, 1, 2, 3] rfl)
def fX0_deriveFrom (M : KS) (o1 : Nat) (o2 : Nat) : Option (KS) := (fX2_copy M 14 o1).bind fun M1 => (fX0_deriveAll M1 o2).bind fun M2 => some M2
set_option maxHeartbeats 4000000 in
set_option maxRecDepth 100000 in
theorem kX0_deriveFrom (l : Launch) (E : KE) (ad : Nat → Nat) (M : KS) (o1 : Nat) (ho1 : o1 < 15) (o2 : Nat) (ho2 : o2 < 11) : CT l yX0_deriveFrom cX0_deriveFrom 3 (some (.object "KinFacts$Facts")) { frames := 5, cells := 0, slots := 0, locals := 133 } SK E ad [.ref (ad 112), .ref (ad (iF o1)), .ref (ad (iR o2))] M (QR SK E ad (iF 14)) (fX0_deriveFrom M o1 o2) := by
  refine CT.ofW (by decide) (Nat.le_of_ble_eq_true rfl) (fun sz p e s m args below meth c C hr hH ls hl => ?_)
  have hx := C.1.1
  have hb := C.1.2.1
  have hl : lv_has ls 3 [(0, .ref (ad 112)), (1, .ref (ad (iF o1))), (2, .ref (ad (iR o2)))] := hl
  unfold fX0_deriveFrom
  refine lv_aload_n hx hb dX0_deriveFrom_0 rfl (lv_at hl 0 rfl) ?_
  refine k_get C hH fd_X0_12 oA (k_ref (M := M) (ad := ad) rA0) dX0_deriveFrom_1 ?_
  refine lv_aload_n hx hb dX0_deriveFrom_4 rfl (lv_at hl 1 rfl) ?_
  refine kg_v C hH (kc_V C hH w_2_162 lc_yX2_copy li_yX2_copy (oF (f := 14) (by decide)) (kX2_copy l E ad M 14 (by decide) o1 ho1) (As := [.ref (ad (iF o1))]) rfl dX0_deriveFrom_5 rfl hl.1 (Nat.le_of_ble_eq_true rfl) ⟨Nat.le_of_ble_eq_true rfl, Nat.le_of_ble_eq_true rfl⟩ ⟨Nat.le_of_ble_eq_true rfl, Nat.le_of_ble_eq_true rfl⟩) ⟨rfl, rfl⟩ (fun M1 H locs hH => ?_)
  refine lv_aload_n hx hb dX0_deriveFrom_8 rfl (lv_at hl 0 rfl) ?_
  refine lv_aload_n hx hb dX0_deriveFrom_9 rfl (lv_at hl 2 rfl) ?_
  refine kg_v C hH (kc_V C hH w_2_163 lc_yX0_deriveAll li_yX0_deriveAll oA (kX0_deriveAll l E ad M1 o2 ho2) (As := [.ref (ad (iR o2))]) rfl dX0_deriveFrom_10 rfl hl.1 (Nat.le_of_ble_eq_true rfl) ⟨Nat.le_of_ble_eq_true rfl, Nat.le_of_ble_eq_true rfl⟩ ⟨Nat.le_of_ble_eq_true rfl, Nat.le_of_ble_eq_true rfl⟩) ⟨rfl, rfl⟩ (fun M2 H locs hH => ?_)
  refine lv_aload_n hx hb dX0_deriveFrom_13 rfl (lv_at hl 0 rfl) ?_
  refine k_get C hH fd_X0_12 oA (k_ref (M := M2) (ad := ad) rA0) dX0_deriveFrom_14 ?_
  exact ke_r C hH hr (Or.inl ⟨_, rfl⟩) (Nat.le_refl _) (Nat.le_refl _) rfl dX0_deriveFrom_17
def fX1_sizeOf_X17 (v3 : Int32) : Option (Int32) := some v3
theorem fX1_sizeOf_X17_u {v3 : Int32} : fX1_sizeOf_X17 v3 = some v3 := rfl
def fX1_sizeOf_L17 (M : KS) (a1 : Int32) (rec17 : (Int32 × Int32) → Option (Int32)) (k17 : (Int32) → Option (Int32)) (x : Int32 × Int32) : Option (Int32) := match x with | (v1, v2) => (if 6 ≤ v2 then k17 v1 else if inb ((6 * a1) + v2) 1296 then nm ((v1 + (fJ13_bitCount_95d88 (M.2 ((6 * a1) + v2).toNatClampNeg)))) fun v4 => nm (v2 + 1) fun v5 => rec17 (v4, v5) else none)
theorem fX1_sizeOf_L17_u {M : KS} {a1 : Int32} {rec17 : (Int32 × Int32) → Option (Int32)} {k17 : (Int32) → Option (Int32)} {v1 : Int32} {v2 : Int32} : fX1_sizeOf_L17 M a1 rec17 k17 (v1, v2) = (if 6 ≤ v2 then k17 v1 else if inb ((6 * a1) + v2) 1296 then nm ((v1 + (fJ13_bitCount_95d88 (M.2 ((6 * a1) + v2).toNatClampNeg)))) fun v4 => nm (v2 + 1) fun v5 => rec17 (v4, v5) else none) := rfl
def fX1_sizeOf (M : KS) (a1 : Int32) : Option (Int32) := (if a1 < 0 then some 0 else (if a1 < 216 then lp (fX1_sizeOf_L17 M a1) (fX1_sizeOf_X17) 1000000 (0, 0) else some 0))
set_option maxHeartbeats 4000000 in
set_option maxRecDepth 100000 in
theorem kX1_sizeOf (l : Launch) (E : KE) (ad : Nat → Nat) (M : KS) (a1 : Int32) : CT l yX1_sizeOf cX1_sizeOf 4 (some .int) { frames := 1, cells := 0, slots := 0, locals := 21 } SK E ad [.ref (ad 106), .int a1] M (fun sz a => QI SK E ad sz (a, M)) (fX1_sizeOf M a1) := by
  refine CT.ofW (by decide) (Nat.le_of_ble_eq_true rfl) (fun sz p e s m args below meth c C hr hH ls hl => ?_)
  have hx := C.1.1
  have hb := C.1.2.1
  have hl : lv_has ls 4 [(0, .ref (ad 106)), (1, .int a1)] := hl
  unfold fX1_sizeOf
  refine lv_iload_n hx hb dX1_sizeOf_0 rfl (lv_at hl 1 rfl) ?_
  refine kb_if_lt (tgt := 11) hx hb dX1_sizeOf_1 (by decide) (fun _ => ?_) (fun _ => ?_)
  · refine lv_iconst (v := 0) hx hb dX1_sizeOf_11 (by decide) ?_
    exact ke_i C hH hr (Nat.le_refl _) (Nat.le_refl _) rfl dX1_sizeOf_12
  · refine lv_iload_n hx hb dX1_sizeOf_4 rfl (lv_at hl 1 rfl) ?_
    refine lv_sipush (v := 216) hx hb dX1_sizeOf_5 (by decide) ?_
    refine kb_icmp_lt (tgt := 13) hx hb dX1_sizeOf_8 (by decide) (fun _ => ?_) (fun _ => ?_)
    · refine lv_iconst (v := 0) hx hb dX1_sizeOf_13 (by decide) ?_
      refine lv_istore_n (lv' := [(2, .int 0), (0, .ref (ad 106)), (1, .int a1)]) hx hb dX1_sizeOf_14 rfl hl (by decide) rfl (fun ls hl => ?_)
      refine lv_iconst (v := 0) hx hb dX1_sizeOf_15 (by decide) ?_
      refine lv_istore_n (lv' := [(3, .int 0), (2, .int 0), (0, .ref (ad 106)), (1, .int a1)]) hx hb dX1_sizeOf_16 rfl hl (by decide) rfl (fun ls hl => ?_)
      refine W_lp (fun (x : Int32 × Int32) H locs => KH SK E ad sz M s.heap H locs) (fun x ls => lv_has ls 4 [(0, .ref (ad 106)), (1, .int a1), (2, .int x.1), (3, .int x.2)]) (fun _ ls => F0 m 17 ls []) (fun (x : Int32) H locs => KH SK E ad sz M s.heap H locs) (fun x ls => lv_has ls 4 [(2, .int x)]) (fun _ ls => F0 m 46 ls []) ?_ ?_ hH (lv_sub hl [2, 3, 1, 0] rfl)
      · intro v3 H locs ls hH hl
        have hH : KH SK E ad sz M s.heap H locs := hH
        have hl : lv_has ls 4 [(2, .int v3)] := hl
        refine W_q fX1_sizeOf_X17_u ?_
        refine lv_iload_n hx hb dX1_sizeOf_46 rfl (lv_at hl 0 rfl) ?_
        exact ke_i C hH hr (Nat.le_refl _) (Nat.le_refl _) rfl dX1_sizeOf_47
      · intro rec17 k17 hrec17 hk17 ⟨v1, v2⟩ H locs ls hH hl
        have hH : KH SK E ad sz M s.heap H locs := hH
        have hl : lv_has ls 4 [(0, .ref (ad 106)), (1, .int a1), (2, .int v1), (3, .int v2)] := hl
        refine W_q fX1_sizeOf_L17_u ?_
        refine lv_iload_n hx hb dX1_sizeOf_17 rfl (lv_at hl 3 rfl) ?_
        refine lv_bipush (v := 6) hx hb dX1_sizeOf_18 (by decide) ?_
        refine kb_icmp_ge (tgt := 46) hx hb dX1_sizeOf_20 (by decide) (fun _ => ?_) (fun _ => ?_)
        · exact hk17 v1 _ _ _ hH (lv_sub hl [2] rfl)
        · refine lv_iload_n hx hb dX1_sizeOf_23 rfl (lv_at hl 2 rfl) ?_
          refine lv_aload_n hx hb dX1_sizeOf_24 rfl (lv_at hl 0 rfl) ?_
          refine k_get C hH fd_X1_44 oD (k_ref (M := M) (ad := ad) rD8) dX1_sizeOf_25 ?_
          refine lv_bipush (v := 6) hx hb dX1_sizeOf_28 (by decide) ?_
          refine lv_iload_n hx hb dX1_sizeOf_30 rfl (lv_at hl 1 rfl) ?_
          refine lv_imul hx hb dX1_sizeOf_31 ?_
          refine lv_iload_n hx hb dX1_sizeOf_32 rfl (lv_at hl 3 rfl) ?_
          refine lv_iadd hx hb dX1_sizeOf_33 ?_
          refine k_lald C hH aD8 dX1_sizeOf_34 ?_
          refine kg_ip C hH (kc_S2 C hH w_3_210 w_st_yJ13_bitCount_95d88 lc_yJ13_bitCount_95d88 (kJ13_bitCount_95d88 l E ad M (M.2 ((6 * a1) + v2).toNatClampNeg)) (As := [.long (M.2 ((6 * a1) + v2).toNatClampNeg)]) rfl dX1_sizeOf_35 rfl hl.1 (Nat.le_of_ble_eq_true rfl) ⟨Nat.le_of_ble_eq_true rfl, Nat.le_of_ble_eq_true rfl⟩ ⟨Nat.le_of_ble_eq_true rfl, Nat.le_of_ble_eq_true rfl⟩) ⟨rfl, rfl⟩ (fun H locs hH => ?_)
          refine lv_iadd hx hb dX1_sizeOf_38 ?_
          refine W_nmi (fun v4 => ?_)
          refine lv_istore_n (lv' := [(2, .int v4), (0, .ref (ad 106)), (1, .int a1), (3, .int v2)]) hx hb dX1_sizeOf_39 rfl hl (by decide) rfl (fun ls hl => ?_)
          refine W_nm (fun v5 ev5 => ?_)
          refine lv_iinc (v := v5) (lv' := [(3, .int v5), (2, .int v4), (0, .ref (ad 106)), (1, .int a1)]) hx hb dX1_sizeOf_40 hl (k := 3) rfl (by rw [ev5]; rfl) (by decide) rfl (fun ls hl => ?_)
          refine lv_goto (tgt := 17) hx hb dX1_sizeOf_43 (by decide) ?_
          exact hrec17 (v4, v5) _ _ _ hH (lv_sub hl [2, 3, 1, 0] rfl)
    · refine lv_iconst (v := 0) hx hb dX1_sizeOf_11 (by decide) ?_
      exact ke_i C hH hr (Nat.le_refl _) (Nat.le_refl _) rfl dX1_sizeOf_12
def fX1_needs_J51_39 (v1 : Int32) (v2 : Int32) (v3 : Int32) (v5 : Int32) : Option (Int32) := (if v3 < 0 then some v5 else (if v3 = v1 then some v5 else (if v3 = v2 then some v5 else nm (v5 + 1) fun v6 => some v6)))
theorem fX1_needs_J51_39_u {v1 : Int32} {v2 : Int32} {v3 : Int32} {v5 : Int32} : fX1_needs_J51_39 v1 v2 v3 v5 = (if v3 < 0 then some v5 else (if v3 = v1 then some v5 else (if v3 = v2 then some v5 else nm (v5 + 1) fun v6 => some v6))) := rfl
def fX1_needs_J35_27 (v1 : Int32) (v2 : Int32) (v3 : Int32) (v4 : Int32) : Option (Int32) := jn (fX1_needs_J51_39 v1 v2 v3) (fun K51_39 => (if v2 < 0 then K51_39 v4 else (if v2 = v1 then K51_39 v4 else nm (v4 + 1) fun v7 => K51_39 v7)))
theorem fX1_needs_J35_27_u {v1 : Int32} {v2 : Int32} {v3 : Int32} {v4 : Int32} : fX1_needs_J35_27 v1 v2 v3 v4 = jn (fX1_needs_J51_39 v1 v2 v3) (fun K51_39 => (if v2 < 0 then K51_39 v4 else (if v2 = v1 then K51_39 v4 else nm (v4 + 1) fun v7 => K51_39 v7))) := rfl
def fX1_needs (M : KS) (o1 : Nat) (a2 : Int32) : Option (Int32) := (fX1_need M o1 a2 0).bind fun v1 => (fX1_need M o1 a2 1).bind fun v2 => (fX1_need M o1 a2 2).bind fun v3 => jn (fX1_needs_J35_27 v1 v2 v3) (fun K35_27 => (if v1 < 0 then K35_27 0 else K35_27 1))
set_option maxHeartbeats 4000000 in
set_option maxRecDepth 100000 in
theorem kX1_needs (l : Launch) (E : KE) (ad : Nat → Nat) (M : KS) (o1 : Nat) (ho1 : o1 < 11) (a2 : Int32) : CT l yX1_needs cX1_needs 7 (some .int) { frames := 2, cells := 0, slots := 0, locals := 48 } SK E ad [.ref (ad 106), .ref (ad (iR o1)), .int a2] M (fun sz a => QI SK E ad sz (a, M)) (fX1_needs M o1 a2) := by
  refine CT.ofW (by decide) (Nat.le_of_ble_eq_true rfl) (fun sz p e s m args below meth c C hr hH ls hl => ?_)
  have hx := C.1.1
  have hb := C.1.2.1
  have hl : lv_has ls 7 [(0, .ref (ad 106)), (1, .ref (ad (iR o1))), (2, .int a2)] := hl
  unfold fX1_needs
  refine lv_aload_n hx hb dX1_needs_0 rfl (lv_at hl 0 rfl) ?_
  refine lv_aload_n hx hb dX1_needs_1 rfl (lv_at hl 1 rfl) ?_
  refine lv_iload_n hx hb dX1_needs_2 rfl (lv_at hl 2 rfl) ?_
  refine lv_iconst (v := 0) hx hb dX1_needs_3 (by decide) ?_
  refine kg_io C hH (kc_V C hH w_2_130 lc_yX1_need li_yX1_need oD (kX1_need l E ad M o1 ho1 a2 0) (As := [.ref (ad (iR o1)), .int a2, .int 0]) rfl dX1_needs_4 rfl hl.1 (Nat.le_of_ble_eq_true rfl) ⟨Nat.le_of_ble_eq_true rfl, Nat.le_of_ble_eq_true rfl⟩ ⟨Nat.le_of_ble_eq_true rfl, Nat.le_of_ble_eq_true rfl⟩) ⟨rfl, rfl⟩ (fun v1 H locs hH => ?_)
  refine lv_istore_n (lv' := [(3, .int v1), (0, .ref (ad 106)), (1, .ref (ad (iR o1))), (2, .int a2)]) hx hb dX1_needs_7 rfl hl (by decide) rfl (fun ls hl => ?_)
  refine lv_aload_n hx hb dX1_needs_8 rfl (lv_at hl 1 rfl) ?_
  refine lv_aload_n hx hb dX1_needs_9 rfl (lv_at hl 2 rfl) ?_
  refine lv_iload_n hx hb dX1_needs_10 rfl (lv_at hl 3 rfl) ?_
  refine lv_iconst (v := 1) hx hb dX1_needs_11 (by decide) ?_
  refine kg_io C hH (kc_V C hH w_2_130 lc_yX1_need li_yX1_need oD (kX1_need l E ad M o1 ho1 a2 1) (As := [.ref (ad (iR o1)), .int a2, .int 1]) rfl dX1_needs_12 rfl hl.1 (Nat.le_of_ble_eq_true rfl) ⟨Nat.le_of_ble_eq_true rfl, Nat.le_of_ble_eq_true rfl⟩ ⟨Nat.le_of_ble_eq_true rfl, Nat.le_of_ble_eq_true rfl⟩) ⟨rfl, rfl⟩ (fun v2 H locs hH => ?_)
  refine lv_istore (lv' := [(4, .int v2), (3, .int v1), (0, .ref (ad 106)), (1, .ref (ad (iR o1))), (2, .int a2)]) hx hb dX1_needs_15 hl (by decide) rfl (fun ls hl => ?_)
  refine lv_aload_n hx hb dX1_needs_17 rfl (lv_at hl 2 rfl) ?_
  refine lv_aload_n hx hb dX1_needs_18 rfl (lv_at hl 3 rfl) ?_
  refine lv_iload_n hx hb dX1_needs_19 rfl (lv_at hl 4 rfl) ?_
  refine lv_iconst (v := 2) hx hb dX1_needs_20 (by decide) ?_
  refine kg_io C hH (kc_V C hH w_2_130 lc_yX1_need li_yX1_need oD (kX1_need l E ad M o1 ho1 a2 2) (As := [.ref (ad (iR o1)), .int a2, .int 2]) rfl dX1_needs_21 rfl hl.1 (Nat.le_of_ble_eq_true rfl) ⟨Nat.le_of_ble_eq_true rfl, Nat.le_of_ble_eq_true rfl⟩ ⟨Nat.le_of_ble_eq_true rfl, Nat.le_of_ble_eq_true rfl⟩) ⟨rfl, rfl⟩ (fun v3 H locs hH => ?_)
  refine lv_istore (lv' := [(5, .int v3), (4, .int v2), (3, .int v1), (0, .ref (ad 106)), (1, .ref (ad (iR o1))), (2, .int a2)]) hx hb dX1_needs_24 hl (by decide) rfl (fun ls hl => ?_)
  refine lv_iload_n hx hb dX1_needs_26 rfl (lv_at hl 2 rfl) ?_
  refine W_jn (fun (x : Int32) H locs => KH SK E ad sz M s.heap H locs) (fun x ls => lv_has ls 7 [(5, .int v3), (4, .int v2), (3, .int v1)]) (fun x ls => F0 m 35 ls [.int x]) ?_ (fun K35_27 hK35_27 => ?_)
  · intro v4 H locs ls hH hl
    have hH : KH SK E ad sz M s.heap H locs := hH
    have hl : lv_has ls 7 [(5, .int v3), (4, .int v2), (3, .int v1)] := hl
    refine W_q fX1_needs_J35_27_u ?_
    refine lv_istore (lv' := [(6, .int v4), (5, .int v3), (4, .int v2), (3, .int v1)]) hx hb dX1_needs_35 hl (by decide) rfl (fun ls hl => ?_)
    refine lv_iload hx hb dX1_needs_37 (lv_at hl 2 rfl) ?_
    refine W_jn (fun (x : Int32) H locs => KH SK E ad sz M s.heap H locs) (fun x ls => lv_has ls 7 [(5, .int v3), (4, .int v2), (3, .int v1), (6, .int x)]) (fun x ls => F0 m 51 ls []) ?_ (fun K51_39 hK51_39 => ?_)
    · intro v5 H locs ls hH hl
      have hH : KH SK E ad sz M s.heap H locs := hH
      have hl : lv_has ls 7 [(5, .int v3), (4, .int v2), (3, .int v1), (6, .int v5)] := hl
      refine W_q fX1_needs_J51_39_u ?_
      refine lv_iload hx hb dX1_needs_51 (lv_at hl 0 rfl) ?_
      refine kb_if_lt (tgt := 72) hx hb dX1_needs_53 (by decide) (fun _ => ?_) (fun _ => ?_)
      · refine lv_iload hx hb dX1_needs_72 (lv_at hl 3 rfl) ?_
        exact ke_i C hH hr (Nat.le_refl _) (Nat.le_refl _) rfl dX1_needs_74
      · refine lv_iload hx hb dX1_needs_56 (lv_at hl 0 rfl) ?_
        refine lv_iload_n hx hb dX1_needs_58 rfl (lv_at hl 2 rfl) ?_
        refine kb_icmp_eq (tgt := 72) hx hb dX1_needs_59 (by decide) (fun _ => ?_) (fun _ => ?_)
        · refine lv_iload hx hb dX1_needs_72 (lv_at hl 3 rfl) ?_
          exact ke_i C hH hr (Nat.le_refl _) (Nat.le_refl _) rfl dX1_needs_74
        · refine lv_iload hx hb dX1_needs_62 (lv_at hl 0 rfl) ?_
          refine lv_iload hx hb dX1_needs_64 (lv_at hl 1 rfl) ?_
          refine kb_icmp_eq (tgt := 72) hx hb dX1_needs_66 (by decide) (fun _ => ?_) (fun _ => ?_)
          · refine lv_iload hx hb dX1_needs_72 (lv_at hl 3 rfl) ?_
            exact ke_i C hH hr (Nat.le_refl _) (Nat.le_refl _) rfl dX1_needs_74
          · refine W_nm (fun v6 ev6 => ?_)
            refine lv_iinc (v := v6) (lv' := [(6, .int v6), (5, .int v3), (4, .int v2), (3, .int v1)]) hx hb dX1_needs_69 hl (k := 3) rfl (by rw [ev6]; rfl) (by decide) rfl (fun ls hl => ?_)
            refine lv_iload hx hb dX1_needs_72 (lv_at hl 0 rfl) ?_
            exact ke_i C hH hr (Nat.le_refl _) (Nat.le_refl _) rfl dX1_needs_74
    · refine kb_if_lt (tgt := 51) hx hb dX1_needs_39 (by decide) (fun _ => ?_) (fun _ => ?_)
      · exact hK51_39 v4 _ _ _ hH (lv_sub hl [1, 2, 3, 0] rfl)
      · refine lv_iload hx hb dX1_needs_42 (lv_at hl 2 rfl) ?_
        refine lv_iload_n hx hb dX1_needs_44 rfl (lv_at hl 3 rfl) ?_
        refine kb_icmp_eq (tgt := 51) hx hb dX1_needs_45 (by decide) (fun _ => ?_) (fun _ => ?_)
        · exact hK51_39 v4 _ _ _ hH (lv_sub hl [1, 2, 3, 0] rfl)
        · refine W_nm (fun v7 ev7 => ?_)
          refine lv_iinc (v := v7) (lv' := [(6, .int v7), (5, .int v3), (4, .int v2), (3, .int v1)]) hx hb dX1_needs_48 hl (k := 0) rfl (by rw [ev7]; rfl) (by decide) rfl (fun ls hl => ?_)
          exact hK51_39 v7 _ _ _ hH (lv_sub hl [1, 2, 3, 0] rfl)
  · refine kb_if_lt (tgt := 34) hx hb dX1_needs_27 (by decide) (fun _ => ?_) (fun _ => ?_)
    · refine lv_iconst (v := 0) hx hb dX1_needs_34 (by decide) ?_
      exact hK35_27 0 _ _ _ hH (lv_sub hl [0, 1, 2] rfl)
    · refine lv_iconst (v := 1) hx hb dX1_needs_30 (by decide) ?_
      refine lv_goto (tgt := 35) hx hb dX1_needs_31 (by decide) ?_
      exact hK35_27 1 _ _ _ hH (lv_sub hl [0, 1, 2] rfl)
def fX6_waysTo_X5 (v3 : Int32) : Option (Int32) := some v3
theorem fX6_waysTo_X5_u {v3 : Int32} : fX6_waysTo_X5 v3 = some v3 := rfl
def fX6_waysTo_L5 (M : KS) (o0 : Nat) (a1 : Int32) (o2 : Nat) (rec5 : (Int32 × Int32) → Option (Int32)) (k5 : (Int32) → Option (Int32)) (x : Int32 × Int32) : Option (Int32) := match x with | (v1, v2) => (if (M.1 (iR o0) 3) ≤ v2 then k5 v1 else (fX6_head M o0 v2).bind fun v4 => (if v4 = (a1 / 36) then (fX6_makersOf M o0 v2 (jrem (a1 / 6) 6) (jrem a1 6) o2 o2).bind fun v6 => nm ((v1 + (fJ6_bitCount_0f7a4 v6))) fun v7 => nm (v2 + 1) fun v8 => rec5 (v7, v8) else nm (v2 + 1) fun v5 => rec5 (v1, v5)))
theorem fX6_waysTo_L5_u {M : KS} {o0 : Nat} {a1 : Int32} {o2 : Nat} {rec5 : (Int32 × Int32) → Option (Int32)} {k5 : (Int32) → Option (Int32)} {v1 : Int32} {v2 : Int32} : fX6_waysTo_L5 M o0 a1 o2 rec5 k5 (v1, v2) = (if (M.1 (iR o0) 3) ≤ v2 then k5 v1 else (fX6_head M o0 v2).bind fun v4 => (if v4 = (a1 / 36) then (fX6_makersOf M o0 v2 (jrem (a1 / 6) 6) (jrem a1 6) o2 o2).bind fun v6 => nm ((v1 + (fJ6_bitCount_0f7a4 v6))) fun v7 => nm (v2 + 1) fun v8 => rec5 (v7, v8) else nm (v2 + 1) fun v5 => rec5 (v1, v5))) := rfl
def fX6_waysTo (M : KS) (o0 : Nat) (a1 : Int32) (o2 : Nat) : Option (Int32) := lp (fX6_waysTo_L5 M o0 a1 o2) (fX6_waysTo_X5) 1000000 (0, 0)
set_option maxHeartbeats 4000000 in
set_option maxRecDepth 100000 in
theorem kX6_waysTo (l : Launch) (E : KE) (ad : Nat → Nat) (M : KS) (o0 : Nat) (ho0 : o0 < 11) (a1 : Int32) (o2 : Nat) (ho2 : o2 < 15) : CT l yX6_waysTo cX6_waysTo 6 (some .int) { frames := 3, cells := 0, slots := 0, locals := 82 } SK E ad [.ref (ad (iR o0)), .int a1, .ref (ad (iF o2))] M (fun sz a => QI SK E ad sz (a, M)) (fX6_waysTo M o0 a1 o2) := by
  refine CT.ofW (by decide) (Nat.le_of_ble_eq_true rfl) (fun sz p e s m args below meth c C hr hH ls hl => ?_)
  have hx := C.1.1
  have hb := C.1.2.1
  have hl : lv_has ls 6 [(0, .ref (ad (iR o0))), (1, .int a1), (2, .ref (ad (iF o2)))] := hl
  unfold fX6_waysTo
  refine lv_iconst (v := 0) hx hb dX6_waysTo_0 (by decide) ?_
  refine lv_istore_n (lv' := [(3, .int 0), (0, .ref (ad (iR o0))), (1, .int a1), (2, .ref (ad (iF o2)))]) hx hb dX6_waysTo_1 rfl hl (by decide) rfl (fun ls hl => ?_)
  refine lv_iconst (v := 0) hx hb dX6_waysTo_2 (by decide) ?_
  refine lv_istore (lv' := [(4, .int 0), (3, .int 0), (0, .ref (ad (iR o0))), (1, .int a1), (2, .ref (ad (iF o2)))]) hx hb dX6_waysTo_3 hl (by decide) rfl (fun ls hl => ?_)
  refine W_lp (fun (x : Int32 × Int32) H locs => KH SK E ad sz M s.heap H locs) (fun x ls => lv_has ls 6 [(0, .ref (ad (iR o0))), (1, .int a1), (2, .ref (ad (iF o2))), (3, .int x.1), (4, .int x.2)]) (fun _ ls => F0 m 5 ls []) (fun (x : Int32) H locs => KH SK E ad sz M s.heap H locs) (fun x ls => lv_has ls 6 [(3, .int x)]) (fun _ ls => F0 m 62 ls []) ?_ ?_ hH (lv_sub hl [2, 3, 4, 1, 0] rfl)
  · intro v3 H locs ls hH hl
    have hH : KH SK E ad sz M s.heap H locs := hH
    have hl : lv_has ls 6 [(3, .int v3)] := hl
    refine W_q fX6_waysTo_X5_u ?_
    refine lv_iload_n hx hb dX6_waysTo_62 rfl (lv_at hl 0 rfl) ?_
    exact ke_i C hH hr (Nat.le_refl _) (Nat.le_refl _) rfl dX6_waysTo_63
  · intro rec5 k5 hrec5 hk5 ⟨v1, v2⟩ H locs ls hH hl
    have hH : KH SK E ad sz M s.heap H locs := hH
    have hl : lv_has ls 6 [(0, .ref (ad (iR o0))), (1, .int a1), (2, .ref (ad (iF o2))), (3, .int v1), (4, .int v2)] := hl
    refine W_q fX6_waysTo_L5_u ?_
    refine lv_iload hx hb dX6_waysTo_5 (lv_at hl 4 rfl) ?_
    refine lv_aload_n hx hb dX6_waysTo_7 rfl (lv_at hl 0 rfl) ?_
    refine k_get C hH fd_X6_21 (oR (f := o0) ho0) (k_int (M := M) (ad := ad) (nR3 (f := o0) ho0)) dX6_waysTo_8 ?_
    refine kb_icmp_ge (tgt := 62) hx hb dX6_waysTo_11 (by decide) (fun _ => ?_) (fun _ => ?_)
    · exact hk5 v1 _ _ _ hH (lv_sub hl [3] rfl)
    · refine lv_aload_n hx hb dX6_waysTo_14 rfl (lv_at hl 0 rfl) ?_
      refine lv_iload hx hb dX6_waysTo_15 (lv_at hl 4 rfl) ?_
      refine kg_io C hH (kc_V C hH w_2_191 lc_yX6_head li_yX6_head (oR (f := o0) ho0) (kX6_head l E ad M o0 ho0 v2) (As := [.int v2]) rfl dX6_waysTo_17 rfl hl.1 (Nat.le_of_ble_eq_true rfl) ⟨Nat.le_of_ble_eq_true rfl, Nat.le_of_ble_eq_true rfl⟩ ⟨Nat.le_of_ble_eq_true rfl, Nat.le_of_ble_eq_true rfl⟩) ⟨rfl, rfl⟩ (fun v4 H locs hH => ?_)
      refine lv_iload_n hx hb dX6_waysTo_20 rfl (lv_at hl 1 rfl) ?_
      refine lv_bipush (v := 36) hx hb dX6_waysTo_21 (by decide) ?_
      refine lv_idiv hx hb dX6_waysTo_23 (by decide) ?_
      refine kb_icmp_ne (tgt := 56) hx hb dX6_waysTo_24 (by decide) (fun _ => ?_) (fun _ => ?_)
      · refine W_nm (fun v5 ev5 => ?_)
        refine lv_iinc (v := v5) (lv' := [(4, .int v5), (0, .ref (ad (iR o0))), (1, .int a1), (2, .ref (ad (iF o2))), (3, .int v1)]) hx hb dX6_waysTo_56 hl (k := 4) rfl (by rw [ev5]; rfl) (by decide) rfl (fun ls hl => ?_)
        refine lv_goto (tgt := 5) hx hb dX6_waysTo_59 (by decide) ?_
        exact hrec5 (v1, v5) _ _ _ hH (lv_sub hl [1, 2, 3, 4, 0] rfl)
      · refine lv_aload_n hx hb dX6_waysTo_27 rfl (lv_at hl 0 rfl) ?_
        refine lv_iload hx hb dX6_waysTo_28 (lv_at hl 4 rfl) ?_
        refine lv_iload_n hx hb dX6_waysTo_30 rfl (lv_at hl 1 rfl) ?_
        refine lv_bipush (v := 6) hx hb dX6_waysTo_31 (by decide) ?_
        refine lv_idiv hx hb dX6_waysTo_33 (by decide) ?_
        refine lv_bipush (v := 6) hx hb dX6_waysTo_34 (by decide) ?_
        refine k_irem hx hb dX6_waysTo_36 (by decide) ?_
        refine lv_iload_n hx hb dX6_waysTo_37 rfl (lv_at hl 1 rfl) ?_
        refine lv_bipush (v := 6) hx hb dX6_waysTo_38 (by decide) ?_
        refine k_irem hx hb dX6_waysTo_40 (by decide) ?_
        refine lv_aload_n hx hb dX6_waysTo_41 rfl (lv_at hl 2 rfl) ?_
        refine lv_aload_n hx hb dX6_waysTo_42 rfl (lv_at hl 2 rfl) ?_
        refine kg_io C hH (kc_V C hH w_2_192 lc_yX6_makersOf li_yX6_makersOf (oR (f := o0) ho0) (kX6_makersOf l E ad M o0 ho0 v2 (jrem (a1 / 6) 6) (jrem a1 6) o2 ho2 o2 ho2) (As := [.int v2, .int (jrem (a1 / 6) 6), .int (jrem a1 6), .ref (ad (iF o2)), .ref (ad (iF o2))]) rfl dX6_waysTo_43 rfl hl.1 (Nat.le_of_ble_eq_true rfl) ⟨Nat.le_of_ble_eq_true rfl, Nat.le_of_ble_eq_true rfl⟩ ⟨Nat.le_of_ble_eq_true rfl, Nat.le_of_ble_eq_true rfl⟩) ⟨rfl, rfl⟩ (fun v6 H locs hH => ?_)
        refine lv_istore (lv' := [(5, .int v6), (0, .ref (ad (iR o0))), (1, .int a1), (2, .ref (ad (iF o2))), (3, .int v1), (4, .int v2)]) hx hb dX6_waysTo_46 hl (by decide) rfl (fun ls hl => ?_)
        refine lv_iload_n hx hb dX6_waysTo_48 rfl (lv_at hl 4 rfl) ?_
        refine lv_iload hx hb dX6_waysTo_49 (lv_at hl 0 rfl) ?_
        refine kg_ip C hH (kc_S2 C hH w_2_193 w_st_yJ6_bitCount_0f7a4 lc_yJ6_bitCount_0f7a4 (kJ6_bitCount_0f7a4 l E ad M v6) (As := [.int v6]) rfl dX6_waysTo_51 rfl hl.1 (Nat.le_of_ble_eq_true rfl) ⟨Nat.le_of_ble_eq_true rfl, Nat.le_of_ble_eq_true rfl⟩ ⟨Nat.le_of_ble_eq_true rfl, Nat.le_of_ble_eq_true rfl⟩) ⟨rfl, rfl⟩ (fun H locs hH => ?_)
        refine lv_iadd hx hb dX6_waysTo_54 ?_
        refine W_nmi (fun v7 => ?_)
        refine lv_istore_n (lv' := [(3, .int v7), (5, .int v6), (0, .ref (ad (iR o0))), (1, .int a1), (2, .ref (ad (iF o2))), (4, .int v2)]) hx hb dX6_waysTo_55 rfl hl (by decide) rfl (fun ls hl => ?_)
        refine W_nm (fun v8 ev8 => ?_)
        refine lv_iinc (v := v8) (lv' := [(4, .int v8), (3, .int v7), (5, .int v6), (0, .ref (ad (iR o0))), (1, .int a1), (2, .ref (ad (iF o2)))]) hx hb dX6_waysTo_56 hl (k := 5) rfl (by rw [ev8]; rfl) (by decide) rfl (fun ls hl => ?_)
        refine lv_goto (tgt := 5) hx hb dX6_waysTo_59 (by decide) ?_
        exact hrec5 (v7, v8) _ _ _ hH (lv_sub hl [3, 4, 5, 1, 0] rfl)
def fX0_deriveWithout_J35_13 (o3 : Nat) (M3 : KS) : Option (KS) := (fX0_deriveAll M3 o3).bind fun M4 => some M4
theorem fX0_deriveWithout_J35_13_u {o3 : Nat} {M3 : KS} : fX0_deriveWithout_J35_13 o3 M3 = (fX0_deriveAll M3 o3).bind fun M4 => some M4 := rfl
def fX0_deriveWithout (M : KS) (a1 : Int32) (o2 : Nat) (o3 : Nat) : Option (KS) := (fX2_copy M 14 o2).bind fun M1 => (fX2_has M1 o2 a1).bind fun v2 => jn (fX0_deriveWithout_J35_13 o3) (fun K35_13 => (if v2 = 0 then (fX2_put M1 14 a1).bind fun M5 => K35_13 M5 else (fX2_take M1 14 a1).bind fun M6 => K35_13 M6))
set_option maxHeartbeats 4000000 in
set_option maxRecDepth 100000 in
theorem kX0_deriveWithout (l : Launch) (E : KE) (ad : Nat → Nat) (M : KS) (a1 : Int32) (o2 : Nat) (ho2 : o2 < 15) (o3 : Nat) (ho3 : o3 < 11) : CT l yX0_deriveWithout cX0_deriveWithout 4 (some (.object "KinFacts$Facts")) { frames := 5, cells := 0, slots := 0, locals := 133 } SK E ad [.ref (ad 112), .int a1, .ref (ad (iF o2)), .ref (ad (iR o3))] M (QR SK E ad (iF 14)) (fX0_deriveWithout M a1 o2 o3) := by
  refine CT.ofW (by decide) (Nat.le_of_ble_eq_true rfl) (fun sz p e s m args below meth c C hr hH ls hl => ?_)
  have hx := C.1.1
  have hb := C.1.2.1
  have hl : lv_has ls 4 [(0, .ref (ad 112)), (1, .int a1), (2, .ref (ad (iF o2))), (3, .ref (ad (iR o3)))] := hl
  unfold fX0_deriveWithout
  refine lv_aload_n hx hb dX0_deriveWithout_0 rfl (lv_at hl 0 rfl) ?_
  refine k_get C hH fd_X0_12 oA (k_ref (M := M) (ad := ad) rA0) dX0_deriveWithout_1 ?_
  refine lv_aload_n hx hb dX0_deriveWithout_4 rfl (lv_at hl 2 rfl) ?_
  refine kg_v C hH (kc_V C hH w_2_162 lc_yX2_copy li_yX2_copy (oF (f := 14) (by decide)) (kX2_copy l E ad M 14 (by decide) o2 ho2) (As := [.ref (ad (iF o2))]) rfl dX0_deriveWithout_5 rfl hl.1 (Nat.le_of_ble_eq_true rfl) ⟨Nat.le_of_ble_eq_true rfl, Nat.le_of_ble_eq_true rfl⟩ ⟨Nat.le_of_ble_eq_true rfl, Nat.le_of_ble_eq_true rfl⟩) ⟨rfl, rfl⟩ (fun M1 H locs hH => ?_)
  refine lv_aload_n hx hb dX0_deriveWithout_8 rfl (lv_at hl 2 rfl) ?_
  refine lv_iload_n hx hb dX0_deriveWithout_9 rfl (lv_at hl 1 rfl) ?_
  refine kg_io C hH (kc_V C hH w_2_175 lc_yX2_has li_yX2_has (oF (f := o2) ho2) (kX2_has l E ad M1 o2 ho2 a1) (As := [.int a1]) rfl dX0_deriveWithout_10 rfl hl.1 (Nat.le_of_ble_eq_true rfl) ⟨Nat.le_of_ble_eq_true rfl, Nat.le_of_ble_eq_true rfl⟩ ⟨Nat.le_of_ble_eq_true rfl, Nat.le_of_ble_eq_true rfl⟩) ⟨rfl, rfl⟩ (fun v2 H locs hH => ?_)
  refine W_jn (fun (x : KS) H locs => KH SK E ad sz x s.heap H locs) (fun x ls => lv_has ls 4 [(0, .ref (ad 112)), (3, .ref (ad (iR o3)))]) (fun x ls => F0 m 35 ls []) ?_ (fun K35_13 hK35_13 => ?_)
  · intro M3 H locs ls hH hl
    have hH : KH SK E ad sz M3 s.heap H locs := hH
    have hl : lv_has ls 4 [(0, .ref (ad 112)), (3, .ref (ad (iR o3)))] := hl
    refine W_q fX0_deriveWithout_J35_13_u ?_
    refine lv_aload_n hx hb dX0_deriveWithout_35 rfl (lv_at hl 0 rfl) ?_
    refine lv_aload_n hx hb dX0_deriveWithout_36 rfl (lv_at hl 1 rfl) ?_
    refine kg_v C hH (kc_V C hH w_2_163 lc_yX0_deriveAll li_yX0_deriveAll oA (kX0_deriveAll l E ad M3 o3 ho3) (As := [.ref (ad (iR o3))]) rfl dX0_deriveWithout_37 rfl hl.1 (Nat.le_of_ble_eq_true rfl) ⟨Nat.le_of_ble_eq_true rfl, Nat.le_of_ble_eq_true rfl⟩ ⟨Nat.le_of_ble_eq_true rfl, Nat.le_of_ble_eq_true rfl⟩) ⟨rfl, rfl⟩ (fun M4 H locs hH => ?_)
    refine lv_aload_n hx hb dX0_deriveWithout_40 rfl (lv_at hl 0 rfl) ?_
    refine k_get C hH fd_X0_12 oA (k_ref (M := M4) (ad := ad) rA0) dX0_deriveWithout_41 ?_
    exact ke_r C hH hr (Or.inl ⟨_, rfl⟩) (Nat.le_refl _) (Nat.le_refl _) rfl dX0_deriveWithout_44
  · refine kb_if_eq (tgt := 27) hx hb dX0_deriveWithout_13 (by decide) (fun _ => ?_) (fun _ => ?_)
    · refine lv_aload_n hx hb dX0_deriveWithout_27 rfl (lv_at hl 0 rfl) ?_
      refine k_get C hH fd_X0_12 oA (k_ref (M := M1) (ad := ad) rA0) dX0_deriveWithout_28 ?_
      refine lv_iload_n hx hb dX0_deriveWithout_31 rfl (lv_at hl 1 rfl) ?_
      refine kg_v C hH (kc_V C hH w_2_177 lc_yX2_put li_yX2_put (oF (f := 14) (by decide)) (kX2_put l E ad M1 14 (by decide) a1) (As := [.int a1]) rfl dX0_deriveWithout_32 rfl hl.1 (Nat.le_of_ble_eq_true rfl) ⟨Nat.le_of_ble_eq_true rfl, Nat.le_of_ble_eq_true rfl⟩ ⟨Nat.le_of_ble_eq_true rfl, Nat.le_of_ble_eq_true rfl⟩) ⟨rfl, rfl⟩ (fun M5 H locs hH => ?_)
      exact hK35_13 M5 _ _ _ hH (lv_sub hl [0, 3] rfl)
    · refine lv_aload_n hx hb dX0_deriveWithout_16 rfl (lv_at hl 0 rfl) ?_
      refine k_get C hH fd_X0_12 oA (k_ref (M := M1) (ad := ad) rA0) dX0_deriveWithout_17 ?_
      refine lv_iload_n hx hb dX0_deriveWithout_20 rfl (lv_at hl 1 rfl) ?_
      refine kg_v C hH (kc_V C hH w_4_12 lc_yX2_take li_yX2_take (oF (f := 14) (by decide)) (kX2_take l E ad M1 14 (by decide) a1) (As := [.int a1]) rfl dX0_deriveWithout_21 rfl hl.1 (Nat.le_of_ble_eq_true rfl) ⟨Nat.le_of_ble_eq_true rfl, Nat.le_of_ble_eq_true rfl⟩ ⟨Nat.le_of_ble_eq_true rfl, Nat.le_of_ble_eq_true rfl⟩) ⟨rfl, rfl⟩ (fun M6 H locs hH => ?_)
      refine lv_goto (tgt := 35) hx hb dX0_deriveWithout_24 (by decide) ?_
      exact hK35_13 M6 _ _ _ hH (lv_sub hl [0, 3] rfl)
def fX6_headsWith_X4 (v3 : Int32) : Option (Int32) := some v3
theorem fX6_headsWith_X4_u {v3 : Int32} : fX6_headsWith_X4 v3 = some v3 := rfl
def fX6_headsWith_L4 (M : KS) (o0 : Nat) (a1 : Int32) (rec4 : (Int32 × Int32) → Option (Int32)) (k4 : (Int32) → Option (Int32)) (x : Int32 × Int32) : Option (Int32) := match x with | (v1, v2) => (if (M.1 (iR o0) 3) ≤ v2 then k4 v1 else (fX6_head M o0 v2).bind fun v4 => (if v4 = a1 then nm (v1 + 1) fun v6 => nm (v2 + 1) fun v7 => rec4 (v6, v7) else nm (v2 + 1) fun v5 => rec4 (v1, v5)))
theorem fX6_headsWith_L4_u {M : KS} {o0 : Nat} {a1 : Int32} {rec4 : (Int32 × Int32) → Option (Int32)} {k4 : (Int32) → Option (Int32)} {v1 : Int32} {v2 : Int32} : fX6_headsWith_L4 M o0 a1 rec4 k4 (v1, v2) = (if (M.1 (iR o0) 3) ≤ v2 then k4 v1 else (fX6_head M o0 v2).bind fun v4 => (if v4 = a1 then nm (v1 + 1) fun v6 => nm (v2 + 1) fun v7 => rec4 (v6, v7) else nm (v2 + 1) fun v5 => rec4 (v1, v5))) := rfl
def fX6_headsWith (M : KS) (o0 : Nat) (a1 : Int32) : Option (Int32) := lp (fX6_headsWith_L4 M o0 a1) (fX6_headsWith_X4) 1000000 (0, 0)
set_option maxHeartbeats 4000000 in
set_option maxRecDepth 100000 in
theorem kX6_headsWith (l : Launch) (E : KE) (ad : Nat → Nat) (M : KS) (o0 : Nat) (ho0 : o0 < 11) (a1 : Int32) : CT l yX6_headsWith cX6_headsWith 4 (some .int) { frames := 1, cells := 0, slots := 0, locals := 21 } SK E ad [.ref (ad (iR o0)), .int a1] M (fun sz a => QI SK E ad sz (a, M)) (fX6_headsWith M o0 a1) := by
  refine CT.ofW (by decide) (Nat.le_of_ble_eq_true rfl) (fun sz p e s m args below meth c C hr hH ls hl => ?_)
  have hx := C.1.1
  have hb := C.1.2.1
  have hl : lv_has ls 4 [(0, .ref (ad (iR o0))), (1, .int a1)] := hl
  unfold fX6_headsWith
  refine lv_iconst (v := 0) hx hb dX6_headsWith_0 (by decide) ?_
  refine lv_istore_n (lv' := [(2, .int 0), (0, .ref (ad (iR o0))), (1, .int a1)]) hx hb dX6_headsWith_1 rfl hl (by decide) rfl (fun ls hl => ?_)
  refine lv_iconst (v := 0) hx hb dX6_headsWith_2 (by decide) ?_
  refine lv_istore_n (lv' := [(3, .int 0), (2, .int 0), (0, .ref (ad (iR o0))), (1, .int a1)]) hx hb dX6_headsWith_3 rfl hl (by decide) rfl (fun ls hl => ?_)
  refine W_lp (fun (x : Int32 × Int32) H locs => KH SK E ad sz M s.heap H locs) (fun x ls => lv_has ls 4 [(0, .ref (ad (iR o0))), (1, .int a1), (2, .int x.1), (3, .int x.2)]) (fun _ ls => F0 m 4 ls []) (fun (x : Int32) H locs => KH SK E ad sz M s.heap H locs) (fun x ls => lv_has ls 4 [(2, .int x)]) (fun _ ls => F0 m 30 ls []) ?_ ?_ hH (lv_sub hl [2, 3, 1, 0] rfl)
  · intro v3 H locs ls hH hl
    have hH : KH SK E ad sz M s.heap H locs := hH
    have hl : lv_has ls 4 [(2, .int v3)] := hl
    refine W_q fX6_headsWith_X4_u ?_
    refine lv_iload_n hx hb dX6_headsWith_30 rfl (lv_at hl 0 rfl) ?_
    exact ke_i C hH hr (Nat.le_refl _) (Nat.le_refl _) rfl dX6_headsWith_31
  · intro rec4 k4 hrec4 hk4 ⟨v1, v2⟩ H locs ls hH hl
    have hH : KH SK E ad sz M s.heap H locs := hH
    have hl : lv_has ls 4 [(0, .ref (ad (iR o0))), (1, .int a1), (2, .int v1), (3, .int v2)] := hl
    refine W_q fX6_headsWith_L4_u ?_
    refine lv_iload_n hx hb dX6_headsWith_4 rfl (lv_at hl 3 rfl) ?_
    refine lv_aload_n hx hb dX6_headsWith_5 rfl (lv_at hl 0 rfl) ?_
    refine k_get C hH fd_X6_21 (oR (f := o0) ho0) (k_int (M := M) (ad := ad) (nR3 (f := o0) ho0)) dX6_headsWith_6 ?_
    refine kb_icmp_ge (tgt := 30) hx hb dX6_headsWith_9 (by decide) (fun _ => ?_) (fun _ => ?_)
    · exact hk4 v1 _ _ _ hH (lv_sub hl [2] rfl)
    · refine lv_aload_n hx hb dX6_headsWith_12 rfl (lv_at hl 0 rfl) ?_
      refine lv_iload_n hx hb dX6_headsWith_13 rfl (lv_at hl 3 rfl) ?_
      refine kg_io C hH (kc_V C hH w_2_191 lc_yX6_head li_yX6_head (oR (f := o0) ho0) (kX6_head l E ad M o0 ho0 v2) (As := [.int v2]) rfl dX6_headsWith_14 rfl hl.1 (Nat.le_of_ble_eq_true rfl) ⟨Nat.le_of_ble_eq_true rfl, Nat.le_of_ble_eq_true rfl⟩ ⟨Nat.le_of_ble_eq_true rfl, Nat.le_of_ble_eq_true rfl⟩) ⟨rfl, rfl⟩ (fun v4 H locs hH => ?_)
      refine lv_iload_n hx hb dX6_headsWith_17 rfl (lv_at hl 1 rfl) ?_
      refine kb_icmp_ne (tgt := 24) hx hb dX6_headsWith_18 (by decide) (fun _ => ?_) (fun _ => ?_)
      · refine W_nm (fun v5 ev5 => ?_)
        refine lv_iinc (v := v5) (lv' := [(3, .int v5), (0, .ref (ad (iR o0))), (1, .int a1), (2, .int v1)]) hx hb dX6_headsWith_24 hl (k := 3) rfl (by rw [ev5]; rfl) (by decide) rfl (fun ls hl => ?_)
        refine lv_goto (tgt := 4) hx hb dX6_headsWith_27 (by decide) ?_
        exact hrec4 (v1, v5) _ _ _ hH (lv_sub hl [1, 2, 3, 0] rfl)
      · refine W_nm (fun v6 ev6 => ?_)
        refine lv_iinc (v := v6) (lv' := [(2, .int v6), (0, .ref (ad (iR o0))), (1, .int a1), (3, .int v2)]) hx hb dX6_headsWith_21 hl (k := 2) rfl (by rw [ev6]; rfl) (by decide) rfl (fun ls hl => ?_)
        refine W_nm (fun v7 ev7 => ?_)
        refine lv_iinc (v := v7) (lv' := [(3, .int v7), (2, .int v6), (0, .ref (ad (iR o0))), (1, .int a1)]) hx hb dX6_headsWith_24 hl (k := 3) rfl (by rw [ev7]; rfl) (by decide) rfl (fun ls hl => ?_)
        refine lv_goto (tgt := 4) hx hb dX6_headsWith_27 (by decide) ?_
        exact hrec4 (v6, v7) _ _ _ hH (lv_sub hl [2, 3, 1, 0] rfl)
def fX6_conditionsWith_X4 (v3 : Int32) : Option (Int32) := some v3
theorem fX6_conditionsWith_X4_u {v3 : Int32} : fX6_conditionsWith_X4 v3 = some v3 := rfl
def fX6_conditionsWith_X15 (v2 : Int32) (rec4 : (Int32 × Int32) → Option (Int32)) (v6 : Int32) : Option (Int32) := nm (v2 + 1) fun v7 => rec4 (v6, v7)
theorem fX6_conditionsWith_X15_u {v2 : Int32} {rec4 : (Int32 × Int32) → Option (Int32)} {v6 : Int32} : fX6_conditionsWith_X15 v2 rec4 v6 = nm (v2 + 1) fun v7 => rec4 (v6, v7) := rfl
def fX6_conditionsWith_L15 (M : KS) (o0 : Nat) (a1 : Int32) (v2 : Int32) (rec15 : (Int32 × Int32) → Option (Int32)) (k15 : (Int32) → Option (Int32)) (x : Int32 × Int32) : Option (Int32) := match x with | (v4, v5) => (if 3 ≤ v5 then k15 v4 else (fX6_code M o0 v2 v5).bind fun v8 => (if v8 = 0 then nm (v5 + 1) fun v9 => rec15 (v4, v9) else (if (fX9_relationIn v8) = a1 then nm (v4 + 1) fun v11 => nm (v5 + 1) fun v12 => rec15 (v11, v12) else nm (v5 + 1) fun v10 => rec15 (v4, v10))))
theorem fX6_conditionsWith_L15_u {M : KS} {o0 : Nat} {a1 : Int32} {v2 : Int32} {rec15 : (Int32 × Int32) → Option (Int32)} {k15 : (Int32) → Option (Int32)} {v4 : Int32} {v5 : Int32} : fX6_conditionsWith_L15 M o0 a1 v2 rec15 k15 (v4, v5) = (if 3 ≤ v5 then k15 v4 else (fX6_code M o0 v2 v5).bind fun v8 => (if v8 = 0 then nm (v5 + 1) fun v9 => rec15 (v4, v9) else (if (fX9_relationIn v8) = a1 then nm (v4 + 1) fun v11 => nm (v5 + 1) fun v12 => rec15 (v11, v12) else nm (v5 + 1) fun v10 => rec15 (v4, v10)))) := rfl
def fX6_conditionsWith_L4 (M : KS) (o0 : Nat) (a1 : Int32) (rec4 : (Int32 × Int32) → Option (Int32)) (k4 : (Int32) → Option (Int32)) (x : Int32 × Int32) : Option (Int32) := match x with | (v1, v2) => (if (M.1 (iR o0) 3) ≤ v2 then k4 v1 else lp (fX6_conditionsWith_L15 M o0 a1 v2) (fX6_conditionsWith_X15 v2 rec4) 1000000 (v1, 0))
theorem fX6_conditionsWith_L4_u {M : KS} {o0 : Nat} {a1 : Int32} {rec4 : (Int32 × Int32) → Option (Int32)} {k4 : (Int32) → Option (Int32)} {v1 : Int32} {v2 : Int32} : fX6_conditionsWith_L4 M o0 a1 rec4 k4 (v1, v2) = (if (M.1 (iR o0) 3) ≤ v2 then k4 v1 else lp (fX6_conditionsWith_L15 M o0 a1 v2) (fX6_conditionsWith_X15 v2 rec4) 1000000 (v1, 0)) := rfl
def fX6_conditionsWith (M : KS) (o0 : Nat) (a1 : Int32) : Option (Int32) := lp (fX6_conditionsWith_L4 M o0 a1) (fX6_conditionsWith_X4) 1000000 (0, 0)
set_option maxHeartbeats 4000000 in
set_option maxRecDepth 100000 in
theorem kX6_conditionsWith (l : Launch) (E : KE) (ad : Nat → Nat) (M : KS) (o0 : Nat) (ho0 : o0 < 11) (a1 : Int32) : CT l yX6_conditionsWith cX6_conditionsWith 6 (some .int) { frames := 1, cells := 0, slots := 0, locals := 22 } SK E ad [.ref (ad (iR o0)), .int a1] M (fun sz a => QI SK E ad sz (a, M)) (fX6_conditionsWith M o0 a1) := by
  refine CT.ofW (by decide) (Nat.le_of_ble_eq_true rfl) (fun sz p e s m args below meth c C hr hH ls hl => ?_)
  have hx := C.1.1
  have hb := C.1.2.1
  have hl : lv_has ls 6 [(0, .ref (ad (iR o0))), (1, .int a1)] := hl
  unfold fX6_conditionsWith
  refine lv_iconst (v := 0) hx hb dX6_conditionsWith_0 (by decide) ?_
  refine lv_istore_n (lv' := [(2, .int 0), (0, .ref (ad (iR o0))), (1, .int a1)]) hx hb dX6_conditionsWith_1 rfl hl (by decide) rfl (fun ls hl => ?_)
  refine lv_iconst (v := 0) hx hb dX6_conditionsWith_2 (by decide) ?_
  refine lv_istore_n (lv' := [(3, .int 0), (2, .int 0), (0, .ref (ad (iR o0))), (1, .int a1)]) hx hb dX6_conditionsWith_3 rfl hl (by decide) rfl (fun ls hl => ?_)
  refine W_lp (fun (x : Int32 × Int32) H locs => KH SK E ad sz M s.heap H locs) (fun x ls => lv_has ls 6 [(0, .ref (ad (iR o0))), (1, .int a1), (2, .int x.1), (3, .int x.2)]) (fun _ ls => F0 m 4 ls []) (fun (x : Int32) H locs => KH SK E ad sz M s.heap H locs) (fun x ls => lv_has ls 6 [(2, .int x)]) (fun _ ls => F0 m 59 ls []) ?_ ?_ hH (lv_sub hl [2, 3, 1, 0] rfl)
  · intro v3 H locs ls hH hl
    have hH : KH SK E ad sz M s.heap H locs := hH
    have hl : lv_has ls 6 [(2, .int v3)] := hl
    refine W_q fX6_conditionsWith_X4_u ?_
    refine lv_iload_n hx hb dX6_conditionsWith_59 rfl (lv_at hl 0 rfl) ?_
    exact ke_i C hH hr (Nat.le_refl _) (Nat.le_refl _) rfl dX6_conditionsWith_60
  · intro rec4 k4 hrec4 hk4 ⟨v1, v2⟩ H locs ls hH hl
    have hH : KH SK E ad sz M s.heap H locs := hH
    have hl : lv_has ls 6 [(0, .ref (ad (iR o0))), (1, .int a1), (2, .int v1), (3, .int v2)] := hl
    refine W_q fX6_conditionsWith_L4_u ?_
    refine lv_iload_n hx hb dX6_conditionsWith_4 rfl (lv_at hl 3 rfl) ?_
    refine lv_aload_n hx hb dX6_conditionsWith_5 rfl (lv_at hl 0 rfl) ?_
    refine k_get C hH fd_X6_21 (oR (f := o0) ho0) (k_int (M := M) (ad := ad) (nR3 (f := o0) ho0)) dX6_conditionsWith_6 ?_
    refine kb_icmp_ge (tgt := 59) hx hb dX6_conditionsWith_9 (by decide) (fun _ => ?_) (fun _ => ?_)
    · exact hk4 v1 _ _ _ hH (lv_sub hl [2] rfl)
    · refine lv_iconst (v := 0) hx hb dX6_conditionsWith_12 (by decide) ?_
      refine lv_istore (lv' := [(4, .int 0), (0, .ref (ad (iR o0))), (1, .int a1), (2, .int v1), (3, .int v2)]) hx hb dX6_conditionsWith_13 hl (by decide) rfl (fun ls hl => ?_)
      refine W_lp (fun (x : Int32 × Int32) H locs => KH SK E ad sz M s.heap H locs) (fun x ls => lv_has ls 6 [(0, .ref (ad (iR o0))), (1, .int a1), (3, .int v2), (2, .int x.1), (4, .int x.2)]) (fun _ ls => F0 m 15 ls []) (fun (x : Int32) H locs => KH SK E ad sz M s.heap H locs) (fun x ls => lv_has ls 6 [(0, .ref (ad (iR o0))), (1, .int a1), (3, .int v2), (2, .int x)]) (fun _ ls => F0 m 53 ls []) ?_ ?_ hH (lv_sub hl [1, 2, 4, 3, 0] rfl)
      · intro v6 H locs ls hH hl
        have hH : KH SK E ad sz M s.heap H locs := hH
        have hl : lv_has ls 6 [(0, .ref (ad (iR o0))), (1, .int a1), (3, .int v2), (2, .int v6)] := hl
        refine W_q fX6_conditionsWith_X15_u ?_
        refine W_nm (fun v7 ev7 => ?_)
        refine lv_iinc (v := v7) (lv' := [(3, .int v7), (0, .ref (ad (iR o0))), (1, .int a1), (2, .int v6)]) hx hb dX6_conditionsWith_53 hl (k := 2) rfl (by rw [ev7]; rfl) (by decide) rfl (fun ls hl => ?_)
        refine lv_goto (tgt := 4) hx hb dX6_conditionsWith_56 (by decide) ?_
        exact hrec4 (v6, v7) _ _ _ hH (lv_sub hl [1, 2, 3, 0] rfl)
      · intro rec15 k15 hrec15 hk15 ⟨v4, v5⟩ H locs ls hH hl
        have hH : KH SK E ad sz M s.heap H locs := hH
        have hl : lv_has ls 6 [(0, .ref (ad (iR o0))), (1, .int a1), (3, .int v2), (2, .int v4), (4, .int v5)] := hl
        refine W_q fX6_conditionsWith_L15_u ?_
        refine lv_iload hx hb dX6_conditionsWith_15 (lv_at hl 4 rfl) ?_
        refine lv_iconst (v := 3) hx hb dX6_conditionsWith_17 (by decide) ?_
        refine kb_icmp_ge (tgt := 53) hx hb dX6_conditionsWith_18 (by decide) (fun _ => ?_) (fun _ => ?_)
        · exact hk15 v4 _ _ _ hH (lv_sub hl [0, 1, 2, 3] rfl)
        · refine lv_aload_n hx hb dX6_conditionsWith_21 rfl (lv_at hl 0 rfl) ?_
          refine lv_iload_n hx hb dX6_conditionsWith_22 rfl (lv_at hl 2 rfl) ?_
          refine lv_iload hx hb dX6_conditionsWith_23 (lv_at hl 4 rfl) ?_
          refine kg_io C hH (kc_V C hH w_2_92 lc_yX6_code li_yX6_code (oR (f := o0) ho0) (kX6_code l E ad M o0 ho0 v2 v5) (As := [.int v2, .int v5]) rfl dX6_conditionsWith_25 rfl hl.1 (Nat.le_of_ble_eq_true rfl) ⟨Nat.le_of_ble_eq_true rfl, Nat.le_of_ble_eq_true rfl⟩ ⟨Nat.le_of_ble_eq_true rfl, Nat.le_of_ble_eq_true rfl⟩) ⟨rfl, rfl⟩ (fun v8 H locs hH => ?_)
          refine lv_istore (lv' := [(5, .int v8), (0, .ref (ad (iR o0))), (1, .int a1), (3, .int v2), (2, .int v4), (4, .int v5)]) hx hb dX6_conditionsWith_28 hl (by decide) rfl (fun ls hl => ?_)
          refine lv_iload hx hb dX6_conditionsWith_30 (lv_at hl 0 rfl) ?_
          refine kb_if_eq (tgt := 47) hx hb dX6_conditionsWith_32 (by decide) (fun _ => ?_) (fun _ => ?_)
          · refine W_nm (fun v9 ev9 => ?_)
            refine lv_iinc (v := v9) (lv' := [(4, .int v9), (5, .int v8), (0, .ref (ad (iR o0))), (1, .int a1), (3, .int v2), (2, .int v4)]) hx hb dX6_conditionsWith_47 hl (k := 5) rfl (by rw [ev9]; rfl) (by decide) rfl (fun ls hl => ?_)
            refine lv_goto (tgt := 15) hx hb dX6_conditionsWith_50 (by decide) ?_
            exact hrec15 (v4, v9) _ _ _ hH (lv_sub hl [2, 3, 4, 5, 0] rfl)
          · refine lv_iload hx hb dX6_conditionsWith_35 (lv_at hl 0 rfl) ?_
            refine kg_ip C hH (kc_SN C hH w_2_96 w_st_yX9_relationIn lc_yX9_relationIn (kX9_relationIn l E ad M v8) (As := [.int v8]) rfl dX6_conditionsWith_37 rfl hl.1 (Nat.le_of_ble_eq_true rfl) ⟨Nat.le_of_ble_eq_true rfl, Nat.le_of_ble_eq_true rfl⟩ ⟨Nat.le_of_ble_eq_true rfl, Nat.le_of_ble_eq_true rfl⟩) ⟨rfl, rfl⟩ (fun H locs hH => ?_)
            refine lv_iload_n hx hb dX6_conditionsWith_40 rfl (lv_at hl 2 rfl) ?_
            refine kb_icmp_ne (tgt := 47) hx hb dX6_conditionsWith_41 (by decide) (fun _ => ?_) (fun _ => ?_)
            · refine W_nm (fun v10 ev10 => ?_)
              refine lv_iinc (v := v10) (lv' := [(4, .int v10), (5, .int v8), (0, .ref (ad (iR o0))), (1, .int a1), (3, .int v2), (2, .int v4)]) hx hb dX6_conditionsWith_47 hl (k := 5) rfl (by rw [ev10]; rfl) (by decide) rfl (fun ls hl => ?_)
              refine lv_goto (tgt := 15) hx hb dX6_conditionsWith_50 (by decide) ?_
              exact hrec15 (v4, v10) _ _ _ hH (lv_sub hl [2, 3, 4, 5, 0] rfl)
            · refine W_nm (fun v11 ev11 => ?_)
              refine lv_iinc (v := v11) (lv' := [(2, .int v11), (5, .int v8), (0, .ref (ad (iR o0))), (1, .int a1), (3, .int v2), (4, .int v5)]) hx hb dX6_conditionsWith_44 hl (k := 4) rfl (by rw [ev11]; rfl) (by decide) rfl (fun ls hl => ?_)
              refine W_nm (fun v12 ev12 => ?_)
              refine lv_iinc (v := v12) (lv' := [(4, .int v12), (2, .int v11), (5, .int v8), (0, .ref (ad (iR o0))), (1, .int a1), (3, .int v2)]) hx hb dX6_conditionsWith_47 hl (k := 5) rfl (by rw [ev12]; rfl) (by decide) rfl (fun ls hl => ?_)
              refine lv_goto (tgt := 15) hx hb dX6_conditionsWith_50 (by decide) ?_
              exact hrec15 (v11, v12) _ _ _ hH (lv_sub hl [3, 4, 5, 1, 0] rfl)
def fX1_lastStage_X4 (v3 : Int32) : Option (Int32) := some v3
theorem fX1_lastStage_X4_u {v3 : Int32} : fX1_lastStage_X4 v3 = some v3 := rfl
def fX1_lastStage_L4 (M : KS) (a1 : Int32) (rec4 : (Int32 × Int32) → Option (Int32)) (k4 : (Int32) → Option (Int32)) (x : Int32 × Int32) : Option (Int32) := match x with | (v1, v2) => (if 216 ≤ v2 then k4 v1 else (if (v2 / 36) = a1 then if inb v2 216 then nm ((jmax v1 (M.1 107 v2.toNatClampNeg))) fun v5 => nm (v2 + 1) fun v6 => rec4 (v5, v6) else none else nm (v2 + 1) fun v4 => rec4 (v1, v4)))
theorem fX1_lastStage_L4_u {M : KS} {a1 : Int32} {rec4 : (Int32 × Int32) → Option (Int32)} {k4 : (Int32) → Option (Int32)} {v1 : Int32} {v2 : Int32} : fX1_lastStage_L4 M a1 rec4 k4 (v1, v2) = (if 216 ≤ v2 then k4 v1 else (if (v2 / 36) = a1 then if inb v2 216 then nm ((jmax v1 (M.1 107 v2.toNatClampNeg))) fun v5 => nm (v2 + 1) fun v6 => rec4 (v5, v6) else none else nm (v2 + 1) fun v4 => rec4 (v1, v4))) := rfl
def fX1_lastStage (M : KS) (a1 : Int32) : Option (Int32) := lp (fX1_lastStage_L4 M a1) (fX1_lastStage_X4) 1000000 (0, 0)
set_option maxHeartbeats 4000000 in
set_option maxRecDepth 100000 in
theorem kX1_lastStage (l : Launch) (E : KE) (ad : Nat → Nat) (M : KS) (a1 : Int32) : CT l yX1_lastStage cX1_lastStage 4 (some .int) { frames := 1, cells := 0, slots := 0, locals := 24 } SK E ad [.ref (ad 106), .int a1] M (fun sz a => QI SK E ad sz (a, M)) (fX1_lastStage M a1) := by
  refine CT.ofW (by decide) (Nat.le_of_ble_eq_true rfl) (fun sz p e s m args below meth c C hr hH ls hl => ?_)
  have hx := C.1.1
  have hb := C.1.2.1
  have hl : lv_has ls 4 [(0, .ref (ad 106)), (1, .int a1)] := hl
  unfold fX1_lastStage
  refine lv_iconst (v := 0) hx hb dX1_lastStage_0 (by decide) ?_
  refine lv_istore_n (lv' := [(2, .int 0), (0, .ref (ad 106)), (1, .int a1)]) hx hb dX1_lastStage_1 rfl hl (by decide) rfl (fun ls hl => ?_)
  refine lv_iconst (v := 0) hx hb dX1_lastStage_2 (by decide) ?_
  refine lv_istore_n (lv' := [(3, .int 0), (2, .int 0), (0, .ref (ad 106)), (1, .int a1)]) hx hb dX1_lastStage_3 rfl hl (by decide) rfl (fun ls hl => ?_)
  refine W_lp (fun (x : Int32 × Int32) H locs => KH SK E ad sz M s.heap H locs) (fun x ls => lv_has ls 4 [(0, .ref (ad 106)), (1, .int a1), (2, .int x.1), (3, .int x.2)]) (fun _ ls => F0 m 4 ls []) (fun (x : Int32) H locs => KH SK E ad sz M s.heap H locs) (fun x ls => lv_has ls 4 [(2, .int x)]) (fun _ ls => F0 m 36 ls []) ?_ ?_ hH (lv_sub hl [2, 3, 1, 0] rfl)
  · intro v3 H locs ls hH hl
    have hH : KH SK E ad sz M s.heap H locs := hH
    have hl : lv_has ls 4 [(2, .int v3)] := hl
    refine W_q fX1_lastStage_X4_u ?_
    refine lv_iload_n hx hb dX1_lastStage_36 rfl (lv_at hl 0 rfl) ?_
    exact ke_i C hH hr (Nat.le_refl _) (Nat.le_refl _) rfl dX1_lastStage_37
  · intro rec4 k4 hrec4 hk4 ⟨v1, v2⟩ H locs ls hH hl
    have hH : KH SK E ad sz M s.heap H locs := hH
    have hl : lv_has ls 4 [(0, .ref (ad 106)), (1, .int a1), (2, .int v1), (3, .int v2)] := hl
    refine W_q fX1_lastStage_L4_u ?_
    refine lv_iload_n hx hb dX1_lastStage_4 rfl (lv_at hl 3 rfl) ?_
    refine lv_sipush (v := 216) hx hb dX1_lastStage_5 (by decide) ?_
    refine kb_icmp_ge (tgt := 36) hx hb dX1_lastStage_8 (by decide) (fun _ => ?_) (fun _ => ?_)
    · exact hk4 v1 _ _ _ hH (lv_sub hl [2] rfl)
    · refine lv_iload_n hx hb dX1_lastStage_11 rfl (lv_at hl 3 rfl) ?_
      refine lv_bipush (v := 36) hx hb dX1_lastStage_12 (by decide) ?_
      refine lv_idiv hx hb dX1_lastStage_14 (by decide) ?_
      refine lv_iload_n hx hb dX1_lastStage_15 rfl (lv_at hl 1 rfl) ?_
      refine kb_icmp_ne (tgt := 30) hx hb dX1_lastStage_16 (by decide) (fun _ => ?_) (fun _ => ?_)
      · refine W_nm (fun v4 ev4 => ?_)
        refine lv_iinc (v := v4) (lv' := [(3, .int v4), (0, .ref (ad 106)), (1, .int a1), (2, .int v1)]) hx hb dX1_lastStage_30 hl (k := 3) rfl (by rw [ev4]; rfl) (by decide) rfl (fun ls hl => ?_)
        refine lv_goto (tgt := 4) hx hb dX1_lastStage_33 (by decide) ?_
        exact hrec4 (v1, v4) _ _ _ hH (lv_sub hl [1, 2, 3, 0] rfl)
      · refine lv_iload_n hx hb dX1_lastStage_19 rfl (lv_at hl 2 rfl) ?_
        refine lv_aload_n hx hb dX1_lastStage_20 rfl (lv_at hl 0 rfl) ?_
        refine k_get C hH fd_X1_31 oD (k_ref (M := M) (ad := ad) rD4) dX1_lastStage_21 ?_
        refine lv_iload_n hx hb dX1_lastStage_24 rfl (lv_at hl 3 rfl) ?_
        refine k_iald C hH aD4 dX1_lastStage_25 ?_
        refine k_mmax C w_2_144 hl.1 (Nat.le_of_ble_eq_true rfl) (Nat.le_of_ble_eq_true rfl) ⟨Nat.zero_le _, Nat.zero_le _⟩ dX1_lastStage_26 ?_
        refine W_nmi (fun v5 => ?_)
        refine lv_istore_n (lv' := [(2, .int v5), (0, .ref (ad 106)), (1, .int a1), (3, .int v2)]) hx hb dX1_lastStage_29 rfl hl (by decide) rfl (fun ls hl => ?_)
        refine W_nm (fun v6 ev6 => ?_)
        refine lv_iinc (v := v6) (lv' := [(3, .int v6), (2, .int v5), (0, .ref (ad 106)), (1, .int a1)]) hx hb dX1_lastStage_30 hl (k := 3) rfl (by rw [ev6]; rfl) (by decide) rfl (fun ls hl => ?_)
        refine lv_goto (tgt := 4) hx hb dX1_lastStage_33 (by decide) ?_
        exact hrec4 (v5, v6) _ _ _ hH (lv_sub hl [2, 3, 1, 0] rfl)
def fX9_rankOf_X11 (v4 : Int32) : Option (Int32) := some v4
theorem fX9_rankOf_X11_u {v4 : Int32} : fX9_rankOf_X11 v4 = some v4 := rfl
def fX9_rankOf_L11 (M : KS) (a0 : Int32) (o1 : Nat) (v1 : Int32) (rec11 : (Int32 × Int32) → Option (Int32)) (k11 : (Int32) → Option (Int32)) (x : Int32 × Int32) : Option (Int32) := match x with | (v2, v3) => (if 6 ≤ v3 then k11 v2 else (fX2_sizeOf M o1 v3).bind fun v5 => (if v1 < v5 then nm (v2 + 1) fun v6 => nm (v3 + 1) fun v7 => rec11 (v6, v7) else (if v5 = v1 then (if a0 ≤ v3 then nm (v3 + 1) fun v9 => rec11 (v2, v9) else nm (v2 + 1) fun v10 => nm (v3 + 1) fun v11 => rec11 (v10, v11)) else nm (v3 + 1) fun v8 => rec11 (v2, v8))))
theorem fX9_rankOf_L11_u {M : KS} {a0 : Int32} {o1 : Nat} {v1 : Int32} {rec11 : (Int32 × Int32) → Option (Int32)} {k11 : (Int32) → Option (Int32)} {v2 : Int32} {v3 : Int32} : fX9_rankOf_L11 M a0 o1 v1 rec11 k11 (v2, v3) = (if 6 ≤ v3 then k11 v2 else (fX2_sizeOf M o1 v3).bind fun v5 => (if v1 < v5 then nm (v2 + 1) fun v6 => nm (v3 + 1) fun v7 => rec11 (v6, v7) else (if v5 = v1 then (if a0 ≤ v3 then nm (v3 + 1) fun v9 => rec11 (v2, v9) else nm (v2 + 1) fun v10 => nm (v3 + 1) fun v11 => rec11 (v10, v11)) else nm (v3 + 1) fun v8 => rec11 (v2, v8)))) := rfl
def fX9_rankOf (M : KS) (a0 : Int32) (o1 : Nat) : Option (Int32) := (fX2_sizeOf M o1 a0).bind fun v1 => lp (fX9_rankOf_L11 M a0 o1 v1) (fX9_rankOf_X11) 1000000 (0, 0)
set_option maxHeartbeats 4000000 in
set_option maxRecDepth 100000 in
theorem kX9_rankOf (l : Launch) (E : KE) (ad : Nat → Nat) (M : KS) (a0 : Int32) (o1 : Nat) (ho1 : o1 < 15) : CT l yX9_rankOf cX9_rankOf 6 (some .int) { frames := 2, cells := 0, slots := 0, locals := 46 } SK E ad [.int a0, .ref (ad (iF o1))] M (fun sz a => QI SK E ad sz (a, M)) (fX9_rankOf M a0 o1) := by
  refine CT.ofW (by decide) (Nat.le_of_ble_eq_true rfl) (fun sz p e s m args below meth c C hr hH ls hl => ?_)
  have hx := C.1.1
  have hb := C.1.2.1
  have hl : lv_has ls 6 [(0, .int a0), (1, .ref (ad (iF o1)))] := hl
  unfold fX9_rankOf
  refine lv_aload_n hx hb dX9_rankOf_0 rfl (lv_at hl 1 rfl) ?_
  refine lv_iload_n hx hb dX9_rankOf_1 rfl (lv_at hl 0 rfl) ?_
  refine kg_io C hH (kc_V C hH w_3_87 lc_yX2_sizeOf li_yX2_sizeOf (oF (f := o1) ho1) (kX2_sizeOf l E ad M o1 ho1 a0) (As := [.int a0]) rfl dX9_rankOf_2 rfl hl.1 (Nat.le_of_ble_eq_true rfl) ⟨Nat.le_of_ble_eq_true rfl, Nat.le_of_ble_eq_true rfl⟩ ⟨Nat.le_of_ble_eq_true rfl, Nat.le_of_ble_eq_true rfl⟩) ⟨rfl, rfl⟩ (fun v1 H locs hH => ?_)
  refine lv_istore_n (lv' := [(2, .int v1), (0, .int a0), (1, .ref (ad (iF o1)))]) hx hb dX9_rankOf_5 rfl hl (by decide) rfl (fun ls hl => ?_)
  refine lv_iconst (v := 0) hx hb dX9_rankOf_6 (by decide) ?_
  refine lv_istore_n (lv' := [(3, .int 0), (2, .int v1), (0, .int a0), (1, .ref (ad (iF o1)))]) hx hb dX9_rankOf_7 rfl hl (by decide) rfl (fun ls hl => ?_)
  refine lv_iconst (v := 0) hx hb dX9_rankOf_8 (by decide) ?_
  refine lv_istore (lv' := [(4, .int 0), (3, .int 0), (2, .int v1), (0, .int a0), (1, .ref (ad (iF o1)))]) hx hb dX9_rankOf_9 hl (by decide) rfl (fun ls hl => ?_)
  refine W_lp (fun (x : Int32 × Int32) H locs => KH SK E ad sz M s.heap H locs) (fun x ls => lv_has ls 6 [(2, .int v1), (0, .int a0), (1, .ref (ad (iF o1))), (3, .int x.1), (4, .int x.2)]) (fun _ ls => F0 m 11 ls []) (fun (x : Int32) H locs => KH SK E ad sz M s.heap H locs) (fun x ls => lv_has ls 6 [(3, .int x)]) (fun _ ls => F0 m 53 ls []) ?_ ?_ hH (lv_sub hl [2, 3, 4, 1, 0] rfl)
  · intro v4 H locs ls hH hl
    have hH : KH SK E ad sz M s.heap H locs := hH
    have hl : lv_has ls 6 [(3, .int v4)] := hl
    refine W_q fX9_rankOf_X11_u ?_
    refine lv_iload_n hx hb dX9_rankOf_53 rfl (lv_at hl 0 rfl) ?_
    exact ke_i C hH hr (Nat.le_refl _) (Nat.le_refl _) rfl dX9_rankOf_54
  · intro rec11 k11 hrec11 hk11 ⟨v2, v3⟩ H locs ls hH hl
    have hH : KH SK E ad sz M s.heap H locs := hH
    have hl : lv_has ls 6 [(2, .int v1), (0, .int a0), (1, .ref (ad (iF o1))), (3, .int v2), (4, .int v3)] := hl
    refine W_q fX9_rankOf_L11_u ?_
    refine lv_iload hx hb dX9_rankOf_11 (lv_at hl 4 rfl) ?_
    refine lv_bipush (v := 6) hx hb dX9_rankOf_13 (by decide) ?_
    refine kb_icmp_ge (tgt := 53) hx hb dX9_rankOf_15 (by decide) (fun _ => ?_) (fun _ => ?_)
    · exact hk11 v2 _ _ _ hH (lv_sub hl [3] rfl)
    · refine lv_aload_n hx hb dX9_rankOf_18 rfl (lv_at hl 2 rfl) ?_
      refine lv_iload hx hb dX9_rankOf_19 (lv_at hl 4 rfl) ?_
      refine kg_io C hH (kc_V C hH w_3_87 lc_yX2_sizeOf li_yX2_sizeOf (oF (f := o1) ho1) (kX2_sizeOf l E ad M o1 ho1 v3) (As := [.int v3]) rfl dX9_rankOf_21 rfl hl.1 (Nat.le_of_ble_eq_true rfl) ⟨Nat.le_of_ble_eq_true rfl, Nat.le_of_ble_eq_true rfl⟩ ⟨Nat.le_of_ble_eq_true rfl, Nat.le_of_ble_eq_true rfl⟩) ⟨rfl, rfl⟩ (fun v5 H locs hH => ?_)
      refine lv_istore (lv' := [(5, .int v5), (2, .int v1), (0, .int a0), (1, .ref (ad (iF o1))), (3, .int v2), (4, .int v3)]) hx hb dX9_rankOf_24 hl (by decide) rfl (fun ls hl => ?_)
      refine lv_iload hx hb dX9_rankOf_26 (lv_at hl 0 rfl) ?_
      refine lv_iload_n hx hb dX9_rankOf_28 rfl (lv_at hl 1 rfl) ?_
      refine kb_icmp_gt (tgt := 44) hx hb dX9_rankOf_29 (by decide) (fun _ => ?_) (fun _ => ?_)
      · refine W_nm (fun v6 ev6 => ?_)
        refine lv_iinc (v := v6) (lv' := [(3, .int v6), (5, .int v5), (2, .int v1), (0, .int a0), (1, .ref (ad (iF o1))), (4, .int v3)]) hx hb dX9_rankOf_44 hl (k := 4) rfl (by rw [ev6]; rfl) (by decide) rfl (fun ls hl => ?_)
        refine W_nm (fun v7 ev7 => ?_)
        refine lv_iinc (v := v7) (lv' := [(4, .int v7), (3, .int v6), (5, .int v5), (2, .int v1), (0, .int a0), (1, .ref (ad (iF o1)))]) hx hb dX9_rankOf_47 hl (k := 5) rfl (by rw [ev7]; rfl) (by decide) rfl (fun ls hl => ?_)
        refine lv_goto (tgt := 11) hx hb dX9_rankOf_50 (by decide) ?_
        exact hrec11 (v6, v7) _ _ _ hH (lv_sub hl [3, 4, 5, 1, 0] rfl)
      · refine lv_iload hx hb dX9_rankOf_32 (lv_at hl 0 rfl) ?_
        refine lv_iload_n hx hb dX9_rankOf_34 rfl (lv_at hl 1 rfl) ?_
        refine kb_icmp_ne (tgt := 47) hx hb dX9_rankOf_35 (by decide) (fun _ => ?_) (fun _ => ?_)
        · refine W_nm (fun v8 ev8 => ?_)
          refine lv_iinc (v := v8) (lv' := [(4, .int v8), (5, .int v5), (2, .int v1), (0, .int a0), (1, .ref (ad (iF o1))), (3, .int v2)]) hx hb dX9_rankOf_47 hl (k := 5) rfl (by rw [ev8]; rfl) (by decide) rfl (fun ls hl => ?_)
          refine lv_goto (tgt := 11) hx hb dX9_rankOf_50 (by decide) ?_
          exact hrec11 (v2, v8) _ _ _ hH (lv_sub hl [2, 3, 4, 5, 0] rfl)
        · refine lv_iload hx hb dX9_rankOf_38 (lv_at hl 5 rfl) ?_
          refine lv_iload_n hx hb dX9_rankOf_40 rfl (lv_at hl 2 rfl) ?_
          refine kb_icmp_ge (tgt := 47) hx hb dX9_rankOf_41 (by decide) (fun _ => ?_) (fun _ => ?_)
          · refine W_nm (fun v9 ev9 => ?_)
            refine lv_iinc (v := v9) (lv' := [(4, .int v9), (5, .int v5), (2, .int v1), (0, .int a0), (1, .ref (ad (iF o1))), (3, .int v2)]) hx hb dX9_rankOf_47 hl (k := 5) rfl (by rw [ev9]; rfl) (by decide) rfl (fun ls hl => ?_)
            refine lv_goto (tgt := 11) hx hb dX9_rankOf_50 (by decide) ?_
            exact hrec11 (v2, v9) _ _ _ hH (lv_sub hl [2, 3, 4, 5, 0] rfl)
          · refine W_nm (fun v10 ev10 => ?_)
            refine lv_iinc (v := v10) (lv' := [(3, .int v10), (5, .int v5), (2, .int v1), (0, .int a0), (1, .ref (ad (iF o1))), (4, .int v3)]) hx hb dX9_rankOf_44 hl (k := 4) rfl (by rw [ev10]; rfl) (by decide) rfl (fun ls hl => ?_)
            refine W_nm (fun v11 ev11 => ?_)
            refine lv_iinc (v := v11) (lv' := [(4, .int v11), (3, .int v10), (5, .int v5), (2, .int v1), (0, .int a0), (1, .ref (ad (iF o1)))]) hx hb dX9_rankOf_47 hl (k := 5) rfl (by rw [ev11]; rfl) (by decide) rfl (fun ls hl => ?_)
            refine lv_goto (tgt := 11) hx hb dX9_rankOf_50 (by decide) ?_
            exact hrec11 (v10, v11) _ _ _ hH (lv_sub hl [3, 4, 5, 1, 0] rfl)
def fX9_isCode_o (a0 : Int32) : Option (Int32) := (if a0 = 0 then some 0 else (if a0 < (-54) then some 0 else (if 54 < a0 then some 0 else some 1)))
def fX9_isCode (a0 : Int32) : Int32 := (if a0 = 0 then 0 else (if a0 < (-54) then 0 else (if 54 < a0 then 0 else 1)))
theorem fX9_isCode_s {a0 : Int32} : fX9_isCode_o a0 = some (fX9_isCode a0) := by
  unfold fX9_isCode_o fX9_isCode
  (repeat' split) <;> rfl
set_option maxHeartbeats 4000000 in
set_option maxRecDepth 100000 in
theorem kX9_isCode_o (l : Launch) (E : KE) (ad : Nat → Nat) (M : KS) (a0 : Int32) : CT l yX9_isCode cX9_isCode 1 (some .boolean) { frames := 0, cells := 0, slots := 0, locals := 0 } SK E ad [.int a0] M (fun sz a => QI SK E ad sz (a, M)) (fX9_isCode_o a0) := by
  refine CT.ofW (by decide) (Nat.le_of_ble_eq_true rfl) (fun sz p e s m args below meth c C hr hH ls hl => ?_)
  have hx := C.1.1
  have hb := C.1.2.1
  have hl : lv_has ls 1 [(0, .int a0)] := hl
  unfold fX9_isCode_o
  refine lv_iload_n hx hb dX9_isCode_0 rfl (lv_at hl 0 rfl) ?_
  refine kb_if_eq (tgt := 20) hx hb dX9_isCode_1 (by decide) (fun _ => ?_) (fun _ => ?_)
  · refine lv_iconst (v := 0) hx hb dX9_isCode_20 (by decide) ?_
    exact ke_z C hH hr (Nat.le_refl _) (Nat.le_refl _) rfl (Or.inl rfl) dX9_isCode_21
  · refine lv_iload_n hx hb dX9_isCode_4 rfl (lv_at hl 0 rfl) ?_
    refine lv_bipush (v := (-54)) hx hb dX9_isCode_5 (by decide) ?_
    refine kb_icmp_lt (tgt := 20) hx hb dX9_isCode_7 (by decide) (fun _ => ?_) (fun _ => ?_)
    · refine lv_iconst (v := 0) hx hb dX9_isCode_20 (by decide) ?_
      exact ke_z C hH hr (Nat.le_refl _) (Nat.le_refl _) rfl (Or.inl rfl) dX9_isCode_21
    · refine lv_iload_n hx hb dX9_isCode_10 rfl (lv_at hl 0 rfl) ?_
      refine lv_bipush (v := 54) hx hb dX9_isCode_11 (by decide) ?_
      refine kb_icmp_gt (tgt := 20) hx hb dX9_isCode_13 (by decide) (fun _ => ?_) (fun _ => ?_)
      · refine lv_iconst (v := 0) hx hb dX9_isCode_20 (by decide) ?_
        exact ke_z C hH hr (Nat.le_refl _) (Nat.le_refl _) rfl (Or.inl rfl) dX9_isCode_21
      · refine lv_iconst (v := 1) hx hb dX9_isCode_16 (by decide) ?_
        refine lv_goto (tgt := 21) hx hb dX9_isCode_17 (by decide) ?_
        exact ke_z C hH hr (Nat.le_refl _) (Nat.le_refl _) rfl (Or.inr rfl) dX9_isCode_21
theorem kX9_isCode (l : Launch) (E : KE) (ad : Nat → Nat) (M : KS) (a0 : Int32) : CT l yX9_isCode cX9_isCode 1 (some .boolean) { frames := 0, cells := 0, slots := 0, locals := 0 } SK E ad [.int a0] M (fun sz (_ : Unit) => QI SK E ad sz (fX9_isCode a0, M)) (some ()) := CT.pure (kX9_isCode_o l E ad M a0) fX9_isCode_s
def fX9_isRule_o (a0 : Int32) (a1 : Int32) (a2 : Int32) (a3 : Int32) : Option (Int32) := (if (fX9_isRelation a0) = 0 then some 0 else (if (fX9_isCode a1) = 0 then some 0 else (if a2 = 0 then (if a3 = 0 then some 1 else some 0) else (if (fX9_isCode a2) = 0 then some 0 else (if a3 = 0 then some 1 else (if (fX9_isCode a3) = 0 then some 0 else some 1))))))
def fX9_isRule (a0 : Int32) (a1 : Int32) (a2 : Int32) (a3 : Int32) : Int32 := (if (fX9_isRelation a0) = 0 then 0 else (if (fX9_isCode a1) = 0 then 0 else (if a2 = 0 then (if a3 = 0 then 1 else 0) else (if (fX9_isCode a2) = 0 then 0 else (if a3 = 0 then 1 else (if (fX9_isCode a3) = 0 then 0 else 1))))))
theorem fX9_isRule_s {a0 : Int32} {a1 : Int32} {a2 : Int32} {a3 : Int32} : fX9_isRule_o a0 a1 a2 a3 = some (fX9_isRule a0 a1 a2 a3) := by
  unfold fX9_isRule_o fX9_isRule
  (repeat' split) <;> rfl
set_option maxHeartbeats 4000000 in
set_option maxRecDepth 100000 in
theorem kX9_isRule_o (l : Launch) (E : KE) (ad : Nat → Nat) (M : KS) (a0 : Int32) (a1 : Int32) (a2 : Int32) (a3 : Int32) : CT l yX9_isRule cX9_isRule 4 (some .boolean) { frames := 1, cells := 0, slots := 0, locals := 20 } SK E ad [.int a0, .int a1, .int a2, .int a3] M (fun sz a => QI SK E ad sz (a, M)) (fX9_isRule_o a0 a1 a2 a3) := by
  refine CT.ofW (by decide) (Nat.le_of_ble_eq_true rfl) (fun sz p e s m args below meth c C hr hH ls hl => ?_)
  have hx := C.1.1
  have hb := C.1.2.1
  have hl : lv_has ls 4 [(0, .int a0), (1, .int a1), (2, .int a2), (3, .int a3)] := hl
  unfold fX9_isRule_o
  refine lv_iload_n hx hb dX9_isRule_0 rfl (lv_at hl 0 rfl) ?_
  refine kg_ip C hH (kc_S C hH w_2_234 w_st_yX9_isRelation rfl lc_yX9_isRelation (kX9_isRelation l E ad M a0) (As := [.int a0]) rfl dX9_isRule_1 rfl hl.1 (Nat.le_of_ble_eq_true rfl) ⟨Nat.le_of_ble_eq_true rfl, Nat.le_of_ble_eq_true rfl⟩ ⟨Nat.le_of_ble_eq_true rfl, Nat.le_of_ble_eq_true rfl⟩) ⟨rfl, rfl⟩ (fun H locs hH => ?_)
  refine kb_if_eq (tgt := 14) hx hb dX9_isRule_4 (by decide) (fun _ => ?_) (fun _ => ?_)
  · refine lv_iconst (v := 0) hx hb dX9_isRule_14 (by decide) ?_
    exact ke_z C hH hr (Nat.le_refl _) (Nat.le_refl _) rfl (Or.inl rfl) dX9_isRule_15
  · refine lv_iload_n hx hb dX9_isRule_7 rfl (lv_at hl 1 rfl) ?_
    refine kg_ip C hH (kc_S C hH w_4_72 w_st_yX9_isCode rfl lc_yX9_isCode (kX9_isCode l E ad M a1) (As := [.int a1]) rfl dX9_isRule_8 rfl hl.1 (Nat.le_of_ble_eq_true rfl) ⟨Nat.le_of_ble_eq_true rfl, Nat.le_of_ble_eq_true rfl⟩ ⟨Nat.le_of_ble_eq_true rfl, Nat.le_of_ble_eq_true rfl⟩) ⟨rfl, rfl⟩ (fun H locs hH => ?_)
    refine kb_if_ne (tgt := 16) hx hb dX9_isRule_11 (by decide) (fun _ => ?_) (fun _ => ?_)
    · refine lv_iload_n hx hb dX9_isRule_16 rfl (lv_at hl 2 rfl) ?_
      refine kb_if_ne (tgt := 30) hx hb dX9_isRule_17 (by decide) (fun _ => ?_) (fun _ => ?_)
      · refine lv_iload_n hx hb dX9_isRule_30 rfl (lv_at hl 2 rfl) ?_
        refine kg_ip C hH (kc_S C hH w_4_72 w_st_yX9_isCode rfl lc_yX9_isCode (kX9_isCode l E ad M a2) (As := [.int a2]) rfl dX9_isRule_31 rfl hl.1 (Nat.le_of_ble_eq_true rfl) ⟨Nat.le_of_ble_eq_true rfl, Nat.le_of_ble_eq_true rfl⟩ ⟨Nat.le_of_ble_eq_true rfl, Nat.le_of_ble_eq_true rfl⟩) ⟨rfl, rfl⟩ (fun H locs hH => ?_)
        refine kb_if_eq (tgt := 52) hx hb dX9_isRule_34 (by decide) (fun _ => ?_) (fun _ => ?_)
        · refine lv_iconst (v := 0) hx hb dX9_isRule_52 (by decide) ?_
          exact ke_z C hH hr (Nat.le_refl _) (Nat.le_refl _) rfl (Or.inl rfl) dX9_isRule_53
        · refine lv_iload_n hx hb dX9_isRule_37 rfl (lv_at hl 3 rfl) ?_
          refine kb_if_eq (tgt := 48) hx hb dX9_isRule_38 (by decide) (fun _ => ?_) (fun _ => ?_)
          · refine lv_iconst (v := 1) hx hb dX9_isRule_48 (by decide) ?_
            refine lv_goto (tgt := 53) hx hb dX9_isRule_49 (by decide) ?_
            exact ke_z C hH hr (Nat.le_refl _) (Nat.le_refl _) rfl (Or.inr rfl) dX9_isRule_53
          · refine lv_iload_n hx hb dX9_isRule_41 rfl (lv_at hl 3 rfl) ?_
            refine kg_ip C hH (kc_S C hH w_4_72 w_st_yX9_isCode rfl lc_yX9_isCode (kX9_isCode l E ad M a3) (As := [.int a3]) rfl dX9_isRule_42 rfl hl.1 (Nat.le_of_ble_eq_true rfl) ⟨Nat.le_of_ble_eq_true rfl, Nat.le_of_ble_eq_true rfl⟩ ⟨Nat.le_of_ble_eq_true rfl, Nat.le_of_ble_eq_true rfl⟩) ⟨rfl, rfl⟩ (fun H locs hH => ?_)
            refine kb_if_eq (tgt := 52) hx hb dX9_isRule_45 (by decide) (fun _ => ?_) (fun _ => ?_)
            · refine lv_iconst (v := 0) hx hb dX9_isRule_52 (by decide) ?_
              exact ke_z C hH hr (Nat.le_refl _) (Nat.le_refl _) rfl (Or.inl rfl) dX9_isRule_53
            · refine lv_iconst (v := 1) hx hb dX9_isRule_48 (by decide) ?_
              refine lv_goto (tgt := 53) hx hb dX9_isRule_49 (by decide) ?_
              exact ke_z C hH hr (Nat.le_refl _) (Nat.le_refl _) rfl (Or.inr rfl) dX9_isRule_53
      · refine lv_iload_n hx hb dX9_isRule_20 rfl (lv_at hl 3 rfl) ?_
        refine kb_if_ne (tgt := 28) hx hb dX9_isRule_21 (by decide) (fun _ => ?_) (fun _ => ?_)
        · refine lv_iconst (v := 0) hx hb dX9_isRule_28 (by decide) ?_
          exact ke_z C hH hr (Nat.le_refl _) (Nat.le_refl _) rfl (Or.inl rfl) dX9_isRule_29
        · refine lv_iconst (v := 1) hx hb dX9_isRule_24 (by decide) ?_
          refine lv_goto (tgt := 29) hx hb dX9_isRule_25 (by decide) ?_
          exact ke_z C hH hr (Nat.le_refl _) (Nat.le_refl _) rfl (Or.inr rfl) dX9_isRule_29
    · refine lv_iconst (v := 0) hx hb dX9_isRule_14 (by decide) ?_
      exact ke_z C hH hr (Nat.le_refl _) (Nat.le_refl _) rfl (Or.inl rfl) dX9_isRule_15
theorem kX9_isRule (l : Launch) (E : KE) (ad : Nat → Nat) (M : KS) (a0 : Int32) (a1 : Int32) (a2 : Int32) (a3 : Int32) : CT l yX9_isRule cX9_isRule 4 (some .boolean) { frames := 1, cells := 0, slots := 0, locals := 20 } SK E ad [.int a0, .int a1, .int a2, .int a3] M (fun sz (_ : Unit) => QI SK E ad sz (fX9_isRule a0 a1 a2 a3, M)) (some ()) := CT.pure (kX9_isRule_o l E ad M a0 a1 a2 a3) fX9_isRule_s
