def fX9_tell (M : KS) (a1 : Int32) (a2 : Int32) (a3 : Int32) : Option (Sum (Nat × KS) (Int32 × KS)) := (if (fX9_isFact a1 a2 a3) = 0 then some (.inl (0, M)) else (fX5_mark M 0).bind fun M1 => bd2 (fX9_addFact M1 (fX9_numberOf a1 a2 a3)) fun v3 M2 => (if v3 = 0 then some (.inl (1, M2)) else (fX5_keep M2).bind fun M4 => (fX9_held M4).bind fun M5 => (fX2_size M5 11).bind fun v6 => some (.inr (v6, M5))))
set_option maxHeartbeats 4000000 in
set_option maxRecDepth 100000 in
theorem kX9_tell (l : Launch) (hl9 : l.stackTraces = false) (E : KE) (ad : Nat → Nat) (M : KS) (a1 : Int32) (a2 : Int32) (a3 : Int32) : CX l yX9_tell cX9_tell 4 (some .int) { frames := 6, cells := 1, slots := 6, locals := 155 } SK E ad [.ref (ad 121), .int a1, .int a2, .int a3] M (QI SK E ad) (fX9_tell M a1 a2 a3) := by
  refine CX.ofW (by decide) (Nat.le_of_ble_eq_true rfl) (fun sz p e s m args below meth c C hX9 h09 hr hH ls hl => ?_)
  have hx := C.1.1
  have hb := C.1.2.1
  have hl : lv_has ls 4 [(0, .ref (ad 121)), (1, .int a1), (2, .int a2), (3, .int a3)] := hl
  unfold fX9_tell
  refine lv_iload_n hx hb dX9_tell_0 rfl (lv_at hl 1 rfl) ?_
  refine lv_iload_n hx hb dX9_tell_1 rfl (lv_at hl 2 rfl) ?_
  refine lv_iload_n hx hb dX9_tell_2 rfl (lv_at hl 3 rfl) ?_
  refine kg_ip C hH (kc_S C hH w_2_231 w_st_yX9_isFact rfl lc_yX9_isFact (kX9_isFact l E ad M a1 a2 a3) (As := [.int a1, .int a2, .int a3]) rfl dX9_tell_3 rfl hl.1 (Nat.le_of_ble_eq_true rfl) ⟨Nat.le_of_ble_eq_true rfl, Nat.le_of_ble_eq_true rfl⟩ ⟨Nat.le_of_ble_eq_true rfl, Nat.le_of_ble_eq_true rfl⟩) ⟨rfl, rfl⟩ (fun H locs hH => ?_)
  refine kb_if_ne (tgt := 19) hx hb dX9_tell_6 (by decide) (fun _ => ?_) (fun _ => ?_)
  · refine lv_aload_n hx hb dX9_tell_19 rfl (lv_at hl 0 rfl) ?_
    refine k_get C hH fd_X9_22 oK (k_ref (M := M) (ad := ad) rK2) dX9_tell_20 ?_
    refine lv_aload_n hx hb dX9_tell_23 rfl (lv_at hl 0 rfl) ?_
    refine k_get C hH fd_X9_10 oK (k_ref (M := M) (ad := ad) rK0) dX9_tell_24 ?_
    refine kg_v C hH (kc_V C hH w_3_72 lc_yX5_mark li_yX5_mark oP (kX5_mark l E ad M 0 (by decide)) (As := [.ref (ad (iS 0))]) rfl dX9_tell_27 rfl hl.1 (Nat.le_of_ble_eq_true rfl) ⟨Nat.le_of_ble_eq_true rfl, Nat.le_of_ble_eq_true rfl⟩ ⟨Nat.le_of_ble_eq_true rfl, Nat.le_of_ble_eq_true rfl⟩) ⟨rfl, rfl⟩ (fun M1 H locs hH => ?_)
    refine lv_aload_n hx hb dX9_tell_30 rfl (lv_at hl 0 rfl) ?_
    refine lv_iload_n hx hb dX9_tell_31 rfl (lv_at hl 1 rfl) ?_
    refine lv_iload_n hx hb dX9_tell_32 rfl (lv_at hl 2 rfl) ?_
    refine lv_iload_n hx hb dX9_tell_33 rfl (lv_at hl 3 rfl) ?_
    refine kg_ip C hH (kc_S C hH w_3_81 w_st_yX9_numberOf rfl lc_yX9_numberOf (kX9_numberOf l E ad M1 a1 a2 a3) (As := [.int a1, .int a2, .int a3]) rfl dX9_tell_34 rfl hl.1 (Nat.le_of_ble_eq_true rfl) ⟨Nat.le_of_ble_eq_true rfl, Nat.le_of_ble_eq_true rfl⟩ ⟨Nat.le_of_ble_eq_true rfl, Nat.le_of_ble_eq_true rfl⟩) ⟨rfl, rfl⟩ (fun H locs hH => ?_)
    refine kg_ib C hH (kc_V C hH w_3_82 lc_yX9_addFact li_yX9_addFact oK (kX9_addFact l E ad M1 (fX9_numberOf a1 a2 a3)) (As := [.int (fX9_numberOf a1 a2 a3)]) rfl dX9_tell_37 rfl hl.1 (Nat.le_of_ble_eq_true rfl) ⟨Nat.le_of_ble_eq_true rfl, Nat.le_of_ble_eq_true rfl⟩ ⟨Nat.le_of_ble_eq_true rfl, Nat.le_of_ble_eq_true rfl⟩) ⟨rfl, rfl⟩ (fun v3 M2 H locs hH => ?_)
    refine kb_if_ne (tgt := 53) hx hb dX9_tell_40 (by decide) (fun _ => ?_) (fun _ => ?_)
    · refine lv_aload_n hx hb dX9_tell_53 rfl (lv_at hl 0 rfl) ?_
      refine k_get C hH fd_X9_22 oK (k_ref (M := M2) (ad := ad) rK2) dX9_tell_54 ?_
      refine kg_v C hH (kc_V C hH w_3_117 lc_yX5_keep li_yX5_keep oP (kX5_keep l E ad M2) (As := []) rfl dX9_tell_57 rfl hl.1 (Nat.le_of_ble_eq_true rfl) ⟨Nat.le_of_ble_eq_true rfl, Nat.le_of_ble_eq_true rfl⟩ ⟨Nat.le_of_ble_eq_true rfl, Nat.le_of_ble_eq_true rfl⟩) ⟨rfl, rfl⟩ (fun M4 H locs hH => ?_)
      refine lv_aload_n hx hb dX9_tell_60 rfl (lv_at hl 0 rfl) ?_
      refine kg_r C hH (kc_V C hH w_3_124 lc_yX9_held li_yX9_held oK (kX9_held l E ad M4) (As := []) rfl dX9_tell_61 rfl hl.1 (Nat.le_of_ble_eq_true rfl) ⟨Nat.le_of_ble_eq_true rfl, Nat.le_of_ble_eq_true rfl⟩ ⟨Nat.le_of_ble_eq_true rfl, Nat.le_of_ble_eq_true rfl⟩) ⟨rfl, rfl⟩ (fun M5 H locs hH => ?_)
      refine kg_io C hH (kc_V C hH w_2_217 lc_yX2_size li_yX2_size (oF (f := 11) (by decide)) (kX2_size l E ad M5 11 (by decide)) (As := []) rfl dX9_tell_64 rfl hl.1 (Nat.le_of_ble_eq_true rfl) ⟨Nat.le_of_ble_eq_true rfl, Nat.le_of_ble_eq_true rfl⟩ ⟨Nat.le_of_ble_eq_true rfl, Nat.le_of_ble_eq_true rfl⟩) ⟨rfl, rfl⟩ (fun v6 H locs hH => ?_)
      exact xe rfl (ke_i C hH hr (Nat.zero_le _) (Nat.zero_le _) rfl dX9_tell_67)
    · exact xt C hl9 hX9 h09 hH xk_1 (is := 100) (text := "the fact is told") (List.mem_of_getElem? (i := 1) rfl) hl.1 rfl dX9_tell_43 dX9_tell_46 dX9_tell_47 dX9_tell_49 dX9_tell_52 ⟨by decide, by decide, by decide, by decide⟩
  · exact xt C hl9 hX9 h09 hH xk_0 (is := 81) (text := "no such relation or person") (List.mem_of_getElem? (i := 0) rfl) hl.1 rfl dX9_tell_9 dX9_tell_12 dX9_tell_13 dX9_tell_15 dX9_tell_18 ⟨by decide, by decide, by decide, by decide⟩
def fX9_untell (M : KS) (a1 : Int32) (a2 : Int32) (a3 : Int32) : Option (Sum (Nat × KS) (Int32 × KS)) := (if (fX9_isFact a1 a2 a3) = 0 then some (.inl (0, M)) else (fX5_mark M 0).bind fun M1 => bd2 (fX9_takeFact M1 (fX9_numberOf a1 a2 a3)) fun v3 M2 => (if v3 = 0 then some (.inl (1, M2)) else (fX5_keep M2).bind fun M4 => (fX9_held M4).bind fun M5 => (fX2_size M5 11).bind fun v6 => some (.inr (v6, M5))))
set_option maxHeartbeats 4000000 in
set_option maxRecDepth 100000 in
theorem kX9_untell (l : Launch) (hl9 : l.stackTraces = false) (E : KE) (ad : Nat → Nat) (M : KS) (a1 : Int32) (a2 : Int32) (a3 : Int32) : CX l yX9_untell cX9_untell 4 (some .int) { frames := 6, cells := 1, slots := 6, locals := 156 } SK E ad [.ref (ad 121), .int a1, .int a2, .int a3] M (QI SK E ad) (fX9_untell M a1 a2 a3) := by
  refine CX.ofW (by decide) (Nat.le_of_ble_eq_true rfl) (fun sz p e s m args below meth c C hX9 h09 hr hH ls hl => ?_)
  have hx := C.1.1
  have hb := C.1.2.1
  have hl : lv_has ls 4 [(0, .ref (ad 121)), (1, .int a1), (2, .int a2), (3, .int a3)] := hl
  unfold fX9_untell
  refine lv_iload_n hx hb dX9_untell_0 rfl (lv_at hl 1 rfl) ?_
  refine lv_iload_n hx hb dX9_untell_1 rfl (lv_at hl 2 rfl) ?_
  refine lv_iload_n hx hb dX9_untell_2 rfl (lv_at hl 3 rfl) ?_
  refine kg_ip C hH (kc_S C hH w_2_231 w_st_yX9_isFact rfl lc_yX9_isFact (kX9_isFact l E ad M a1 a2 a3) (As := [.int a1, .int a2, .int a3]) rfl dX9_untell_3 rfl hl.1 (Nat.le_of_ble_eq_true rfl) ⟨Nat.le_of_ble_eq_true rfl, Nat.le_of_ble_eq_true rfl⟩ ⟨Nat.le_of_ble_eq_true rfl, Nat.le_of_ble_eq_true rfl⟩) ⟨rfl, rfl⟩ (fun H locs hH => ?_)
  refine kb_if_ne (tgt := 19) hx hb dX9_untell_6 (by decide) (fun _ => ?_) (fun _ => ?_)
  · refine lv_aload_n hx hb dX9_untell_19 rfl (lv_at hl 0 rfl) ?_
    refine k_get C hH fd_X9_22 oK (k_ref (M := M) (ad := ad) rK2) dX9_untell_20 ?_
    refine lv_aload_n hx hb dX9_untell_23 rfl (lv_at hl 0 rfl) ?_
    refine k_get C hH fd_X9_10 oK (k_ref (M := M) (ad := ad) rK0) dX9_untell_24 ?_
    refine kg_v C hH (kc_V C hH w_3_72 lc_yX5_mark li_yX5_mark oP (kX5_mark l E ad M 0 (by decide)) (As := [.ref (ad (iS 0))]) rfl dX9_untell_27 rfl hl.1 (Nat.le_of_ble_eq_true rfl) ⟨Nat.le_of_ble_eq_true rfl, Nat.le_of_ble_eq_true rfl⟩ ⟨Nat.le_of_ble_eq_true rfl, Nat.le_of_ble_eq_true rfl⟩) ⟨rfl, rfl⟩ (fun M1 H locs hH => ?_)
    refine lv_aload_n hx hb dX9_untell_30 rfl (lv_at hl 0 rfl) ?_
    refine lv_iload_n hx hb dX9_untell_31 rfl (lv_at hl 1 rfl) ?_
    refine lv_iload_n hx hb dX9_untell_32 rfl (lv_at hl 2 rfl) ?_
    refine lv_iload_n hx hb dX9_untell_33 rfl (lv_at hl 3 rfl) ?_
    refine kg_ip C hH (kc_S C hH w_3_81 w_st_yX9_numberOf rfl lc_yX9_numberOf (kX9_numberOf l E ad M1 a1 a2 a3) (As := [.int a1, .int a2, .int a3]) rfl dX9_untell_34 rfl hl.1 (Nat.le_of_ble_eq_true rfl) ⟨Nat.le_of_ble_eq_true rfl, Nat.le_of_ble_eq_true rfl⟩ ⟨Nat.le_of_ble_eq_true rfl, Nat.le_of_ble_eq_true rfl⟩) ⟨rfl, rfl⟩ (fun H locs hH => ?_)
    refine kg_ib C hH (kc_V C hH w_3_135 lc_yX9_takeFact li_yX9_takeFact oK (kX9_takeFact l E ad M1 (fX9_numberOf a1 a2 a3)) (As := [.int (fX9_numberOf a1 a2 a3)]) rfl dX9_untell_37 rfl hl.1 (Nat.le_of_ble_eq_true rfl) ⟨Nat.le_of_ble_eq_true rfl, Nat.le_of_ble_eq_true rfl⟩ ⟨Nat.le_of_ble_eq_true rfl, Nat.le_of_ble_eq_true rfl⟩) ⟨rfl, rfl⟩ (fun v3 M2 H locs hH => ?_)
    refine kb_if_ne (tgt := 53) hx hb dX9_untell_40 (by decide) (fun _ => ?_) (fun _ => ?_)
    · refine lv_aload_n hx hb dX9_untell_53 rfl (lv_at hl 0 rfl) ?_
      refine k_get C hH fd_X9_22 oK (k_ref (M := M2) (ad := ad) rK2) dX9_untell_54 ?_
      refine kg_v C hH (kc_V C hH w_3_117 lc_yX5_keep li_yX5_keep oP (kX5_keep l E ad M2) (As := []) rfl dX9_untell_57 rfl hl.1 (Nat.le_of_ble_eq_true rfl) ⟨Nat.le_of_ble_eq_true rfl, Nat.le_of_ble_eq_true rfl⟩ ⟨Nat.le_of_ble_eq_true rfl, Nat.le_of_ble_eq_true rfl⟩) ⟨rfl, rfl⟩ (fun M4 H locs hH => ?_)
      refine lv_aload_n hx hb dX9_untell_60 rfl (lv_at hl 0 rfl) ?_
      refine kg_r C hH (kc_V C hH w_3_124 lc_yX9_held li_yX9_held oK (kX9_held l E ad M4) (As := []) rfl dX9_untell_61 rfl hl.1 (Nat.le_of_ble_eq_true rfl) ⟨Nat.le_of_ble_eq_true rfl, Nat.le_of_ble_eq_true rfl⟩ ⟨Nat.le_of_ble_eq_true rfl, Nat.le_of_ble_eq_true rfl⟩) ⟨rfl, rfl⟩ (fun M5 H locs hH => ?_)
      refine kg_io C hH (kc_V C hH w_2_217 lc_yX2_size li_yX2_size (oF (f := 11) (by decide)) (kX2_size l E ad M5 11 (by decide)) (As := []) rfl dX9_untell_64 rfl hl.1 (Nat.le_of_ble_eq_true rfl) ⟨Nat.le_of_ble_eq_true rfl, Nat.le_of_ble_eq_true rfl⟩ ⟨Nat.le_of_ble_eq_true rfl, Nat.le_of_ble_eq_true rfl⟩) ⟨rfl, rfl⟩ (fun v6 H locs hH => ?_)
      exact xe rfl (ke_i C hH hr (Nat.zero_le _) (Nat.zero_le _) rfl dX9_untell_67)
    · exact xt C hl9 hX9 h09 hH xk_1 (is := 119) (text := "the fact is not told") (List.mem_of_getElem? (i := 2) rfl) hl.1 rfl dX9_untell_43 dX9_untell_46 dX9_untell_47 dX9_untell_49 dX9_untell_52 ⟨by decide, by decide, by decide, by decide⟩
  · exact xt C hl9 hX9 h09 hH xk_0 (is := 81) (text := "no such relation or person") (List.mem_of_getElem? (i := 0) rfl) hl.1 rfl dX9_untell_9 dX9_untell_12 dX9_untell_13 dX9_untell_15 dX9_untell_18 ⟨by decide, by decide, by decide, by decide⟩
def fX9_holds (M : KS) (a1 : Int32) (a2 : Int32) (a3 : Int32) (a4 : Int32) : Option (Sum (Nat × KS) (Int32 × KS)) := (if (fX9_isFact a1 a2 a3) = 0 then some (.inl (0, M)) else nm ((fX9_numberOf a1 a2 a3)) fun v1 => (if a4 = 0 then (fX9_held M).bind fun M4 => (fX2_has M4 11 v1).bind fun v5 => if isB v5 then some (.inr (v5, M4)) else none else (fX0_deriveFrom M 0 0).bind fun M2 => (fX2_has M2 14 v1).bind fun v3 => if isB v3 then some (.inr (v3, M2)) else none))
set_option maxHeartbeats 4000000 in
set_option maxRecDepth 100000 in
theorem kX9_holds (l : Launch) (hl9 : l.stackTraces = false) (E : KE) (ad : Nat → Nat) (M : KS) (a1 : Int32) (a2 : Int32) (a3 : Int32) (a4 : Int32) : CX l yX9_holds cX9_holds 6 (some .boolean) { frames := 6, cells := 1, slots := 6, locals := 155 } SK E ad [.ref (ad 121), .int a1, .int a2, .int a3, .int a4] M (QI SK E ad) (fX9_holds M a1 a2 a3 a4) := by
  refine CX.ofW (by decide) (Nat.le_of_ble_eq_true rfl) (fun sz p e s m args below meth c C hX9 h09 hr hH ls hl => ?_)
  have hx := C.1.1
  have hb := C.1.2.1
  have hl : lv_has ls 6 [(0, .ref (ad 121)), (1, .int a1), (2, .int a2), (3, .int a3), (4, .int a4)] := hl
  unfold fX9_holds
  refine lv_iload_n hx hb dX9_holds_0 rfl (lv_at hl 1 rfl) ?_
  refine lv_iload_n hx hb dX9_holds_1 rfl (lv_at hl 2 rfl) ?_
  refine lv_iload_n hx hb dX9_holds_2 rfl (lv_at hl 3 rfl) ?_
  refine kg_ip C hH (kc_S C hH w_2_231 w_st_yX9_isFact rfl lc_yX9_isFact (kX9_isFact l E ad M a1 a2 a3) (As := [.int a1, .int a2, .int a3]) rfl dX9_holds_3 rfl hl.1 (Nat.le_of_ble_eq_true rfl) ⟨Nat.le_of_ble_eq_true rfl, Nat.le_of_ble_eq_true rfl⟩ ⟨Nat.le_of_ble_eq_true rfl, Nat.le_of_ble_eq_true rfl⟩) ⟨rfl, rfl⟩ (fun H locs hH => ?_)
  refine kb_if_ne (tgt := 19) hx hb dX9_holds_6 (by decide) (fun _ => ?_) (fun _ => ?_)
  · refine lv_iload_n hx hb dX9_holds_19 rfl (lv_at hl 1 rfl) ?_
    refine lv_iload_n hx hb dX9_holds_20 rfl (lv_at hl 2 rfl) ?_
    refine lv_iload_n hx hb dX9_holds_21 rfl (lv_at hl 3 rfl) ?_
    refine kg_ip C hH (kc_S C hH w_3_81 w_st_yX9_numberOf rfl lc_yX9_numberOf (kX9_numberOf l E ad M a1 a2 a3) (As := [.int a1, .int a2, .int a3]) rfl dX9_holds_22 rfl hl.1 (Nat.le_of_ble_eq_true rfl) ⟨Nat.le_of_ble_eq_true rfl, Nat.le_of_ble_eq_true rfl⟩ ⟨Nat.le_of_ble_eq_true rfl, Nat.le_of_ble_eq_true rfl⟩) ⟨rfl, rfl⟩ (fun H locs hH => ?_)
    refine W_nmi (fun v1 => ?_)
    refine lv_istore (lv' := [(5, .int v1), (0, .ref (ad 121)), (1, .int a1), (2, .int a2), (3, .int a3), (4, .int a4)]) hx hb dX9_holds_25 hl (by decide) rfl (fun ls hl => ?_)
    refine lv_iload hx hb dX9_holds_27 (lv_at hl 5 rfl) ?_
    refine kb_if_ne (tgt := 42) hx hb dX9_holds_29 (by decide) (fun _ => ?_) (fun _ => ?_)
    · refine lv_aload_n hx hb dX9_holds_42 rfl (lv_at hl 1 rfl) ?_
      refine k_get C hH fd_X9_36 oK (k_ref (M := M) (ad := ad) rK4) dX9_holds_43 ?_
      refine lv_aload_n hx hb dX9_holds_46 rfl (lv_at hl 1 rfl) ?_
      refine k_get C hH fd_X9_10 oK (k_ref (M := M) (ad := ad) rK0) dX9_holds_47 ?_
      refine k_getN C hH fn_X9_124 (oS (f := 0) (by decide)) (k_ref (M := M) (ad := ad) (rS0 (f := 0) (by decide))) dX9_holds_50 ?_
      refine lv_aload_n hx hb dX9_holds_53 rfl (lv_at hl 1 rfl) ?_
      refine k_get C hH fd_X9_10 oK (k_ref (M := M) (ad := ad) rK0) dX9_holds_54 ?_
      refine k_getN C hH fn_X9_128 (oS (f := 0) (by decide)) (k_ref (M := M) (ad := ad) (rS1 (f := 0) (by decide))) dX9_holds_57 ?_
      refine kg_r C hH (kc_V C hH w_2_158 lc_yX0_deriveFrom li_yX0_deriveFrom oA (kX0_deriveFrom l E ad M 0 (by decide) 0 (by decide)) (As := [.ref (ad (iF 0)), .ref (ad (iR 0))]) rfl dX9_holds_60 rfl hl.1 (Nat.le_of_ble_eq_true rfl) ⟨Nat.le_of_ble_eq_true rfl, Nat.le_of_ble_eq_true rfl⟩ ⟨Nat.le_of_ble_eq_true rfl, Nat.le_of_ble_eq_true rfl⟩) ⟨rfl, rfl⟩ (fun M2 H locs hH => ?_)
      refine lv_iload hx hb dX9_holds_63 (lv_at hl 0 rfl) ?_
      refine kg_io C hH (kc_V C hH w_3_86 lc_yX2_has li_yX2_has (oF (f := 14) (by decide)) (kX2_has l E ad M2 14 (by decide) v1) (As := [.int v1]) rfl dX9_holds_65 rfl hl.1 (Nat.le_of_ble_eq_true rfl) ⟨Nat.le_of_ble_eq_true rfl, Nat.le_of_ble_eq_true rfl⟩ ⟨Nat.le_of_ble_eq_true rfl, Nat.le_of_ble_eq_true rfl⟩) ⟨rfl, rfl⟩ (fun v3 H locs hH => ?_)
      exact W_if (fun hn9 => xe rfl (ke_z C hH hr (Nat.zero_le _) (Nat.zero_le _) rfl hn9 dX9_holds_68))
    · refine lv_aload_n hx hb dX9_holds_32 rfl (lv_at hl 1 rfl) ?_
      refine kg_r C hH (kc_V C hH w_3_124 lc_yX9_held li_yX9_held oK (kX9_held l E ad M) (As := []) rfl dX9_holds_33 rfl hl.1 (Nat.le_of_ble_eq_true rfl) ⟨Nat.le_of_ble_eq_true rfl, Nat.le_of_ble_eq_true rfl⟩ ⟨Nat.le_of_ble_eq_true rfl, Nat.le_of_ble_eq_true rfl⟩) ⟨rfl, rfl⟩ (fun M4 H locs hH => ?_)
      refine lv_iload hx hb dX9_holds_36 (lv_at hl 0 rfl) ?_
      refine kg_io C hH (kc_V C hH w_3_86 lc_yX2_has li_yX2_has (oF (f := 11) (by decide)) (kX2_has l E ad M4 11 (by decide) v1) (As := [.int v1]) rfl dX9_holds_38 rfl hl.1 (Nat.le_of_ble_eq_true rfl) ⟨Nat.le_of_ble_eq_true rfl, Nat.le_of_ble_eq_true rfl⟩ ⟨Nat.le_of_ble_eq_true rfl, Nat.le_of_ble_eq_true rfl⟩) ⟨rfl, rfl⟩ (fun v5 H locs hH => ?_)
      exact W_if (fun hn9 => xe rfl (ke_z C hH hr (Nat.zero_le _) (Nat.zero_le _) rfl hn9 dX9_holds_41))
  · exact xt C hl9 hX9 h09 hH xk_0 (is := 81) (text := "no such relation or person") (List.mem_of_getElem? (i := 0) rfl) hl.1 rfl dX9_holds_9 dX9_holds_12 dX9_holds_13 dX9_holds_15 dX9_holds_18 ⟨by decide, by decide, by decide, by decide⟩
def fX9_isTold (M : KS) (a1 : Int32) (a2 : Int32) (a3 : Int32) : Option (Sum (Nat × KS) (Int32 × KS)) := (if (fX9_isFact a1 a2 a3) = 0 then some (.inl (0, M)) else (fX2_has M 0 (fX9_numberOf a1 a2 a3)).bind fun v1 => if isB v1 then some (.inr (v1, M)) else none)
set_option maxHeartbeats 4000000 in
set_option maxRecDepth 100000 in
theorem kX9_isTold (l : Launch) (hl9 : l.stackTraces = false) (E : KE) (ad : Nat → Nat) (M : KS) (a1 : Int32) (a2 : Int32) (a3 : Int32) : CX l yX9_isTold cX9_isTold 4 (some .boolean) { frames := 6, cells := 1, slots := 6, locals := 82 } SK E ad [.ref (ad 121), .int a1, .int a2, .int a3] M (QI SK E ad) (fX9_isTold M a1 a2 a3) := by
  refine CX.ofW (by decide) (Nat.le_of_ble_eq_true rfl) (fun sz p e s m args below meth c C hX9 h09 hr hH ls hl => ?_)
  have hx := C.1.1
  have hb := C.1.2.1
  have hl : lv_has ls 4 [(0, .ref (ad 121)), (1, .int a1), (2, .int a2), (3, .int a3)] := hl
  unfold fX9_isTold
  refine lv_iload_n hx hb dX9_isTold_0 rfl (lv_at hl 1 rfl) ?_
  refine lv_iload_n hx hb dX9_isTold_1 rfl (lv_at hl 2 rfl) ?_
  refine lv_iload_n hx hb dX9_isTold_2 rfl (lv_at hl 3 rfl) ?_
  refine kg_ip C hH (kc_S C hH w_2_231 w_st_yX9_isFact rfl lc_yX9_isFact (kX9_isFact l E ad M a1 a2 a3) (As := [.int a1, .int a2, .int a3]) rfl dX9_isTold_3 rfl hl.1 (Nat.le_of_ble_eq_true rfl) ⟨Nat.le_of_ble_eq_true rfl, Nat.le_of_ble_eq_true rfl⟩ ⟨Nat.le_of_ble_eq_true rfl, Nat.le_of_ble_eq_true rfl⟩) ⟨rfl, rfl⟩ (fun H locs hH => ?_)
  refine kb_if_ne (tgt := 19) hx hb dX9_isTold_6 (by decide) (fun _ => ?_) (fun _ => ?_)
  · refine lv_aload_n hx hb dX9_isTold_19 rfl (lv_at hl 0 rfl) ?_
    refine k_get C hH fd_X9_10 oK (k_ref (M := M) (ad := ad) rK0) dX9_isTold_20 ?_
    refine k_getN C hH fn_X9_124 (oS (f := 0) (by decide)) (k_ref (M := M) (ad := ad) (rS0 (f := 0) (by decide))) dX9_isTold_23 ?_
    refine lv_iload_n hx hb dX9_isTold_26 rfl (lv_at hl 1 rfl) ?_
    refine lv_iload_n hx hb dX9_isTold_27 rfl (lv_at hl 2 rfl) ?_
    refine lv_iload_n hx hb dX9_isTold_28 rfl (lv_at hl 3 rfl) ?_
    refine kg_ip C hH (kc_S C hH w_3_81 w_st_yX9_numberOf rfl lc_yX9_numberOf (kX9_numberOf l E ad M a1 a2 a3) (As := [.int a1, .int a2, .int a3]) rfl dX9_isTold_29 rfl hl.1 (Nat.le_of_ble_eq_true rfl) ⟨Nat.le_of_ble_eq_true rfl, Nat.le_of_ble_eq_true rfl⟩ ⟨Nat.le_of_ble_eq_true rfl, Nat.le_of_ble_eq_true rfl⟩) ⟨rfl, rfl⟩ (fun H locs hH => ?_)
    refine kg_io C hH (kc_V C hH w_3_86 lc_yX2_has li_yX2_has (oF (f := 0) (by decide)) (kX2_has l E ad M 0 (by decide) (fX9_numberOf a1 a2 a3)) (As := [.int (fX9_numberOf a1 a2 a3)]) rfl dX9_isTold_32 rfl hl.1 (Nat.le_of_ble_eq_true rfl) ⟨Nat.le_of_ble_eq_true rfl, Nat.le_of_ble_eq_true rfl⟩ ⟨Nat.le_of_ble_eq_true rfl, Nat.le_of_ble_eq_true rfl⟩) ⟨rfl, rfl⟩ (fun v1 H locs hH => ?_)
    exact W_if (fun hn9 => xe rfl (ke_z C hH hr (Nat.zero_le _) (Nat.zero_le _) rfl hn9 dX9_isTold_35))
  · exact xt C hl9 hX9 h09 hH xk_0 (is := 81) (text := "no such relation or person") (List.mem_of_getElem? (i := 0) rfl) hl.1 rfl dX9_isTold_9 dX9_isTold_12 dX9_isTold_13 dX9_isTold_15 dX9_isTold_18 ⟨by decide, by decide, by decide, by decide⟩
def fX9_factOf (M : KS) (a1 : Int32) (a2 : Int32) (a3 : Int32) (a4 : Int32) : Option (Sum (Nat × KS) (Int32 × KS)) := (if (fX9_isFact a1 a2 a3) = 0 then some (.inl (0, M)) else nm ((fX9_numberOf a1 a2 a3)) fun v1 => (fX1_settled M 0).bind fun M2 => (fX2_has M2 11 v1).bind fun v3 => (if v3 = 0 then some (.inl (2, M2)) else (if a4 = 0 then if inb v1 216 then some (.inr ((M2.1 107 v1.toNatClampNeg), M2)) else none else (if a4 = 1 then if inb v1 216 then some (.inr ((M2.1 108 v1.toNatClampNeg), M2)) else none else (if a4 = 2 then if inb v1 216 then some (.inr ((M2.1 109 v1.toNatClampNeg), M2)) else none else (if a4 = 3 then if inb v1 216 then some (.inr ((M2.1 110 v1.toNatClampNeg), M2)) else none else (if a4 = 4 then (fX1_sizeOf M2 v1).bind fun v4 => some (.inr (v4, M2)) else (if a4 = 5 then (fX1_needs M2 0 v1).bind fun v5 => some (.inr (v5, M2)) else some (.inl (3, M2))))))))))
set_option maxHeartbeats 4000000 in
set_option maxRecDepth 100000 in
theorem kX9_factOf (l : Launch) (hl9 : l.stackTraces = false) (E : KE) (ad : Nat → Nat) (M : KS) (a1 : Int32) (a2 : Int32) (a3 : Int32) (a4 : Int32) : CX l yX9_factOf cX9_factOf 7 (some .int) { frames := 6, cells := 1, slots := 6, locals := 135 } SK E ad [.ref (ad 121), .int a1, .int a2, .int a3, .int a4] M (QI SK E ad) (fX9_factOf M a1 a2 a3 a4) := by
  refine CX.ofW (by decide) (Nat.le_of_ble_eq_true rfl) (fun sz p e s m args below meth c C hX9 h09 hr hH ls hl => ?_)
  have hx := C.1.1
  have hb := C.1.2.1
  have hl : lv_has ls 7 [(0, .ref (ad 121)), (1, .int a1), (2, .int a2), (3, .int a3), (4, .int a4)] := hl
  unfold fX9_factOf
  refine lv_iload_n hx hb dX9_factOf_0 rfl (lv_at hl 1 rfl) ?_
  refine lv_iload_n hx hb dX9_factOf_1 rfl (lv_at hl 2 rfl) ?_
  refine lv_iload_n hx hb dX9_factOf_2 rfl (lv_at hl 3 rfl) ?_
  refine kg_ip C hH (kc_S C hH w_2_231 w_st_yX9_isFact rfl lc_yX9_isFact (kX9_isFact l E ad M a1 a2 a3) (As := [.int a1, .int a2, .int a3]) rfl dX9_factOf_3 rfl hl.1 (Nat.le_of_ble_eq_true rfl) ⟨Nat.le_of_ble_eq_true rfl, Nat.le_of_ble_eq_true rfl⟩ ⟨Nat.le_of_ble_eq_true rfl, Nat.le_of_ble_eq_true rfl⟩) ⟨rfl, rfl⟩ (fun H locs hH => ?_)
  refine kb_if_ne (tgt := 19) hx hb dX9_factOf_6 (by decide) (fun _ => ?_) (fun _ => ?_)
  · refine lv_iload_n hx hb dX9_factOf_19 rfl (lv_at hl 1 rfl) ?_
    refine lv_iload_n hx hb dX9_factOf_20 rfl (lv_at hl 2 rfl) ?_
    refine lv_iload_n hx hb dX9_factOf_21 rfl (lv_at hl 3 rfl) ?_
    refine kg_ip C hH (kc_S C hH w_3_81 w_st_yX9_numberOf rfl lc_yX9_numberOf (kX9_numberOf l E ad M a1 a2 a3) (As := [.int a1, .int a2, .int a3]) rfl dX9_factOf_22 rfl hl.1 (Nat.le_of_ble_eq_true rfl) ⟨Nat.le_of_ble_eq_true rfl, Nat.le_of_ble_eq_true rfl⟩ ⟨Nat.le_of_ble_eq_true rfl, Nat.le_of_ble_eq_true rfl⟩) ⟨rfl, rfl⟩ (fun H locs hH => ?_)
    refine W_nmi (fun v1 => ?_)
    refine lv_istore (lv' := [(5, .int v1), (0, .ref (ad 121)), (1, .int a1), (2, .int a2), (3, .int a3), (4, .int a4)]) hx hb dX9_factOf_25 hl (by decide) rfl (fun ls hl => ?_)
    refine lv_aload_n hx hb dX9_factOf_27 rfl (lv_at hl 1 rfl) ?_
    refine k_get C hH fd_X9_29 oK (k_ref (M := M) (ad := ad) rK3) dX9_factOf_28 ?_
    refine lv_aload_n hx hb dX9_factOf_31 rfl (lv_at hl 1 rfl) ?_
    refine k_get C hH fd_X9_10 oK (k_ref (M := M) (ad := ad) rK0) dX9_factOf_32 ?_
    refine kg_r C hH (kc_V C hH w_2_27 lc_yX1_settled li_yX1_settled oD (kX1_settled l E ad M 0 (by decide)) (As := [.ref (ad (iS 0))]) rfl dX9_factOf_35 rfl hl.1 (Nat.le_of_ble_eq_true rfl) ⟨Nat.le_of_ble_eq_true rfl, Nat.le_of_ble_eq_true rfl⟩ ⟨Nat.le_of_ble_eq_true rfl, Nat.le_of_ble_eq_true rfl⟩) ⟨rfl, rfl⟩ (fun M2 H locs hH => ?_)
    refine lv_astore (lv' := [(6, .ref (ad 106)), (5, .int v1), (0, .ref (ad 121)), (1, .int a1), (2, .int a2), (3, .int a3), (4, .int a4)]) hx hb dX9_factOf_38 hl (by decide) rfl (fun ls hl => ?_)
    refine lv_aload hx hb dX9_factOf_40 (lv_at hl 0 rfl) ?_
    refine k_getN C hH fn_X9_140 oD (k_ref (M := M2) (ad := ad) rD0) dX9_factOf_42 ?_
    refine lv_iload hx hb dX9_factOf_45 (lv_at hl 1 rfl) ?_
    refine kg_io C hH (kc_V C hH w_3_86 lc_yX2_has li_yX2_has (oF (f := 11) (by decide)) (kX2_has l E ad M2 11 (by decide) v1) (As := [.int v1]) rfl dX9_factOf_47 rfl hl.1 (Nat.le_of_ble_eq_true rfl) ⟨Nat.le_of_ble_eq_true rfl, Nat.le_of_ble_eq_true rfl⟩ ⟨Nat.le_of_ble_eq_true rfl, Nat.le_of_ble_eq_true rfl⟩) ⟨rfl, rfl⟩ (fun v3 H locs hH => ?_)
    refine kb_if_ne (tgt := 63) hx hb dX9_factOf_50 (by decide) (fun _ => ?_) (fun _ => ?_)
    · refine lv_iload hx hb dX9_factOf_63 (lv_at hl 6 rfl) ?_
      refine W_ite (fun hs0 => ?_) (fun hs0 => ?_)
      · refine lv_tableIn (tgt := 104) hx hb dX9_factOf_65 (by rw [hs0]; decide) (by rw [hs0]; decide) (by rw [hs0]; rfl) (by decide) ?_
        refine lv_aload hx hb dX9_factOf_104 (lv_at hl 0 rfl) ?_
        refine k_getN C hH fn_X9_148 oD (k_ref (M := M2) (ad := ad) rD4) dX9_factOf_106 ?_
        refine lv_iload hx hb dX9_factOf_109 (lv_at hl 1 rfl) ?_
        refine k_iald C hH aD4 dX9_factOf_111 ?_
        exact xe rfl (ke_i C hH hr (Nat.zero_le _) (Nat.zero_le _) rfl dX9_factOf_112)
      · refine W_ite (fun hs1 => ?_) (fun hs1 => ?_)
        · refine lv_tableIn (tgt := 113) hx hb dX9_factOf_65 (by rw [hs1]; decide) (by rw [hs1]; decide) (by rw [hs1]; rfl) (by decide) ?_
          refine lv_aload hx hb dX9_factOf_113 (lv_at hl 0 rfl) ?_
          refine k_getN C hH fn_X9_152 oD (k_ref (M := M2) (ad := ad) rD5) dX9_factOf_115 ?_
          refine lv_iload hx hb dX9_factOf_118 (lv_at hl 1 rfl) ?_
          refine k_iald C hH aD5 dX9_factOf_120 ?_
          exact xe rfl (ke_i C hH hr (Nat.zero_le _) (Nat.zero_le _) rfl dX9_factOf_121)
        · refine W_ite (fun hs2 => ?_) (fun hs2 => ?_)
          · refine lv_tableIn (tgt := 122) hx hb dX9_factOf_65 (by rw [hs2]; decide) (by rw [hs2]; decide) (by rw [hs2]; rfl) (by decide) ?_
            refine lv_aload hx hb dX9_factOf_122 (lv_at hl 0 rfl) ?_
            refine k_getN C hH fn_X9_155 oD (k_ref (M := M2) (ad := ad) rD6) dX9_factOf_124 ?_
            refine lv_iload hx hb dX9_factOf_127 (lv_at hl 1 rfl) ?_
            refine k_iald C hH aD6 dX9_factOf_129 ?_
            exact xe rfl (ke_i C hH hr (Nat.zero_le _) (Nat.zero_le _) rfl dX9_factOf_130)
          · refine W_ite (fun hs3 => ?_) (fun hs3 => ?_)
            · refine lv_tableIn (tgt := 131) hx hb dX9_factOf_65 (by rw [hs3]; decide) (by rw [hs3]; decide) (by rw [hs3]; rfl) (by decide) ?_
              refine lv_aload hx hb dX9_factOf_131 (lv_at hl 0 rfl) ?_
              refine k_getN C hH fn_X9_158 oD (k_ref (M := M2) (ad := ad) rD7) dX9_factOf_133 ?_
              refine lv_iload hx hb dX9_factOf_136 (lv_at hl 1 rfl) ?_
              refine k_iald C hH aD7 dX9_factOf_138 ?_
              exact xe rfl (ke_i C hH hr (Nat.zero_le _) (Nat.zero_le _) rfl dX9_factOf_139)
            · refine W_ite (fun hs4 => ?_) (fun hs4 => ?_)
              · refine lv_tableIn (tgt := 140) hx hb dX9_factOf_65 (by rw [hs4]; decide) (by rw [hs4]; decide) (by rw [hs4]; rfl) (by decide) ?_
                refine lv_aload hx hb dX9_factOf_140 (lv_at hl 0 rfl) ?_
                refine lv_iload hx hb dX9_factOf_142 (lv_at hl 1 rfl) ?_
                refine kg_io C hH (kc_V C hH w_3_206 lc_yX1_sizeOf li_yX1_sizeOf oD (kX1_sizeOf l E ad M2 v1) (As := [.int v1]) rfl dX9_factOf_144 rfl hl.1 (Nat.le_of_ble_eq_true rfl) ⟨Nat.le_of_ble_eq_true rfl, Nat.le_of_ble_eq_true rfl⟩ ⟨Nat.le_of_ble_eq_true rfl, Nat.le_of_ble_eq_true rfl⟩) ⟨rfl, rfl⟩ (fun v4 H locs hH => ?_)
                exact xe rfl (ke_i C hH hr (Nat.zero_le _) (Nat.zero_le _) rfl dX9_factOf_147)
              · refine W_ite (fun hs5 => ?_) (fun hs5 => ?_)
                · refine lv_tableIn (tgt := 148) hx hb dX9_factOf_65 (by rw [hs5]; decide) (by rw [hs5]; decide) (by rw [hs5]; rfl) (by decide) ?_
                  refine lv_aload hx hb dX9_factOf_148 (lv_at hl 0 rfl) ?_
                  refine lv_aload_n hx hb dX9_factOf_150 rfl (lv_at hl 2 rfl) ?_
                  refine k_get C hH fd_X9_10 oK (k_ref (M := M2) (ad := ad) rK0) dX9_factOf_151 ?_
                  refine k_getN C hH fn_X9_128 (oS (f := 0) (by decide)) (k_ref (M := M2) (ad := ad) (rS1 (f := 0) (by decide))) dX9_factOf_154 ?_
                  refine lv_iload hx hb dX9_factOf_157 (lv_at hl 1 rfl) ?_
                  refine kg_io C hH (kc_V C hH w_3_216 lc_yX1_needs li_yX1_needs oD (kX1_needs l E ad M2 0 (by decide) v1) (As := [.ref (ad (iR 0)), .int v1]) rfl dX9_factOf_159 rfl hl.1 (Nat.le_of_ble_eq_true rfl) ⟨Nat.le_of_ble_eq_true rfl, Nat.le_of_ble_eq_true rfl⟩ ⟨Nat.le_of_ble_eq_true rfl, Nat.le_of_ble_eq_true rfl⟩) ⟨rfl, rfl⟩ (fun v5 H locs hH => ?_)
                  exact xe rfl (ke_i C hH hr (Nat.zero_le _) (Nat.zero_le _) rfl dX9_factOf_162)
                · refine lv_tableOut (tgt := 163) hx hb dX9_factOf_65 (k_tab6 hs0 hs1 hs2 hs3 hs4 hs5) (by decide) ?_
                  exact xt C hl9 hX9 h09 hH xk_3 (is := 171) (text := "no such number of a fact") (List.mem_of_getElem? (i := 4) rfl) hl.1 rfl dX9_factOf_163 dX9_factOf_166 dX9_factOf_167 dX9_factOf_169 dX9_factOf_172 ⟨by decide, by decide, by decide, by decide⟩
    · exact xt C hl9 hX9 h09 hH xk_2 (is := 145) (text := "the fact does not hold") (List.mem_of_getElem? (i := 3) rfl) hl.1 rfl dX9_factOf_53 dX9_factOf_56 dX9_factOf_57 dX9_factOf_59 dX9_factOf_62 ⟨by decide, by decide, by decide, by decide⟩
  · exact xt C hl9 hX9 h09 hH xk_0 (is := 81) (text := "no such relation or person") (List.mem_of_getElem? (i := 0) rfl) hl.1 rfl dX9_factOf_9 dX9_factOf_12 dX9_factOf_13 dX9_factOf_15 dX9_factOf_18 ⟨by decide, by decide, by decide, by decide⟩
def fX9_ways (M : KS) (a1 : Int32) (a2 : Int32) (a3 : Int32) : Option (Sum (Nat × KS) (Int32 × KS)) := (if (fX9_isFact a1 a2 a3) = 0 then some (.inl (0, M)) else (fX9_held M).bind fun M1 => (fX6_waysTo M1 0 (fX9_numberOf a1 a2 a3) 11).bind fun v2 => some (.inr (v2, M1)))
set_option maxHeartbeats 4000000 in
set_option maxRecDepth 100000 in
theorem kX9_ways (l : Launch) (hl9 : l.stackTraces = false) (E : KE) (ad : Nat → Nat) (M : KS) (a1 : Int32) (a2 : Int32) (a3 : Int32) : CX l yX9_ways cX9_ways 4 (some .int) { frames := 6, cells := 1, slots := 6, locals := 155 } SK E ad [.ref (ad 121), .int a1, .int a2, .int a3] M (QI SK E ad) (fX9_ways M a1 a2 a3) := by
  refine CX.ofW (by decide) (Nat.le_of_ble_eq_true rfl) (fun sz p e s m args below meth c C hX9 h09 hr hH ls hl => ?_)
  have hx := C.1.1
  have hb := C.1.2.1
  have hl : lv_has ls 4 [(0, .ref (ad 121)), (1, .int a1), (2, .int a2), (3, .int a3)] := hl
  unfold fX9_ways
  refine lv_iload_n hx hb dX9_ways_0 rfl (lv_at hl 1 rfl) ?_
  refine lv_iload_n hx hb dX9_ways_1 rfl (lv_at hl 2 rfl) ?_
  refine lv_iload_n hx hb dX9_ways_2 rfl (lv_at hl 3 rfl) ?_
  refine kg_ip C hH (kc_S C hH w_2_231 w_st_yX9_isFact rfl lc_yX9_isFact (kX9_isFact l E ad M a1 a2 a3) (As := [.int a1, .int a2, .int a3]) rfl dX9_ways_3 rfl hl.1 (Nat.le_of_ble_eq_true rfl) ⟨Nat.le_of_ble_eq_true rfl, Nat.le_of_ble_eq_true rfl⟩ ⟨Nat.le_of_ble_eq_true rfl, Nat.le_of_ble_eq_true rfl⟩) ⟨rfl, rfl⟩ (fun H locs hH => ?_)
  refine kb_if_ne (tgt := 19) hx hb dX9_ways_6 (by decide) (fun _ => ?_) (fun _ => ?_)
  · refine lv_aload_n hx hb dX9_ways_19 rfl (lv_at hl 0 rfl) ?_
    refine k_get C hH fd_X9_10 oK (k_ref (M := M) (ad := ad) rK0) dX9_ways_20 ?_
    refine k_getN C hH fn_X9_128 (oS (f := 0) (by decide)) (k_ref (M := M) (ad := ad) (rS1 (f := 0) (by decide))) dX9_ways_23 ?_
    refine lv_iload_n hx hb dX9_ways_26 rfl (lv_at hl 1 rfl) ?_
    refine lv_iload_n hx hb dX9_ways_27 rfl (lv_at hl 2 rfl) ?_
    refine lv_iload_n hx hb dX9_ways_28 rfl (lv_at hl 3 rfl) ?_
    refine kg_ip C hH (kc_S C hH w_3_81 w_st_yX9_numberOf rfl lc_yX9_numberOf (kX9_numberOf l E ad M a1 a2 a3) (As := [.int a1, .int a2, .int a3]) rfl dX9_ways_29 rfl hl.1 (Nat.le_of_ble_eq_true rfl) ⟨Nat.le_of_ble_eq_true rfl, Nat.le_of_ble_eq_true rfl⟩ ⟨Nat.le_of_ble_eq_true rfl, Nat.le_of_ble_eq_true rfl⟩) ⟨rfl, rfl⟩ (fun H locs hH => ?_)
    refine lv_aload_n hx hb dX9_ways_32 rfl (lv_at hl 0 rfl) ?_
    refine kg_r C hH (kc_V C hH w_3_124 lc_yX9_held li_yX9_held oK (kX9_held l E ad M) (As := []) rfl dX9_ways_33 rfl hl.1 (Nat.le_of_ble_eq_true rfl) ⟨Nat.le_of_ble_eq_true rfl, Nat.le_of_ble_eq_true rfl⟩ ⟨Nat.le_of_ble_eq_true rfl, Nat.le_of_ble_eq_true rfl⟩) ⟨rfl, rfl⟩ (fun M1 H locs hH => ?_)
    refine kg_io C hH (kc_V C hH w_4_0 lc_yX6_waysTo li_yX6_waysTo (oR (f := 0) (by decide)) (kX6_waysTo l E ad M1 0 (by decide) (fX9_numberOf a1 a2 a3) 11 (by decide)) (As := [.int (fX9_numberOf a1 a2 a3), .ref (ad (iF 11))]) rfl dX9_ways_36 rfl hl.1 (Nat.le_of_ble_eq_true rfl) ⟨Nat.le_of_ble_eq_true rfl, Nat.le_of_ble_eq_true rfl⟩ ⟨Nat.le_of_ble_eq_true rfl, Nat.le_of_ble_eq_true rfl⟩) ⟨rfl, rfl⟩ (fun v2 H locs hH => ?_)
    exact xe rfl (ke_i C hH hr (Nat.zero_le _) (Nat.zero_le _) rfl dX9_ways_39)
  · exact xt C hl9 hX9 h09 hH xk_0 (is := 81) (text := "no such relation or person") (List.mem_of_getElem? (i := 0) rfl) hl.1 rfl dX9_ways_9 dX9_ways_12 dX9_ways_13 dX9_ways_15 dX9_ways_18 ⟨by decide, by decide, by decide, by decide⟩
def fX9_would (M : KS) (a1 : Int32) (a2 : Int32) (a3 : Int32) : Option (Sum (Nat × KS) (Int32 × KS)) := (if (fX9_isFact a1 a2 a3) = 0 then some (.inl (0, M)) else (fX0_deriveWithout M (fX9_numberOf a1 a2 a3) 0 0).bind fun M1 => (fX2_size M1 14).bind fun v2 => (fX9_held M1).bind fun M3 => (fX2_size M3 11).bind fun v4 => some (.inr ((v2 - v4), M3)))
set_option maxHeartbeats 4000000 in
set_option maxRecDepth 100000 in
theorem kX9_would (l : Launch) (hl9 : l.stackTraces = false) (E : KE) (ad : Nat → Nat) (M : KS) (a1 : Int32) (a2 : Int32) (a3 : Int32) : CX l yX9_would cX9_would 5 (some .int) { frames := 6, cells := 1, slots := 6, locals := 156 } SK E ad [.ref (ad 121), .int a1, .int a2, .int a3] M (QI SK E ad) (fX9_would M a1 a2 a3) := by
  refine CX.ofW (by decide) (Nat.le_of_ble_eq_true rfl) (fun sz p e s m args below meth c C hX9 h09 hr hH ls hl => ?_)
  have hx := C.1.1
  have hb := C.1.2.1
  have hl : lv_has ls 5 [(0, .ref (ad 121)), (1, .int a1), (2, .int a2), (3, .int a3)] := hl
  unfold fX9_would
  refine lv_iload_n hx hb dX9_would_0 rfl (lv_at hl 1 rfl) ?_
  refine lv_iload_n hx hb dX9_would_1 rfl (lv_at hl 2 rfl) ?_
  refine lv_iload_n hx hb dX9_would_2 rfl (lv_at hl 3 rfl) ?_
  refine kg_ip C hH (kc_S C hH w_2_231 w_st_yX9_isFact rfl lc_yX9_isFact (kX9_isFact l E ad M a1 a2 a3) (As := [.int a1, .int a2, .int a3]) rfl dX9_would_3 rfl hl.1 (Nat.le_of_ble_eq_true rfl) ⟨Nat.le_of_ble_eq_true rfl, Nat.le_of_ble_eq_true rfl⟩ ⟨Nat.le_of_ble_eq_true rfl, Nat.le_of_ble_eq_true rfl⟩) ⟨rfl, rfl⟩ (fun H locs hH => ?_)
  refine kb_if_ne (tgt := 19) hx hb dX9_would_6 (by decide) (fun _ => ?_) (fun _ => ?_)
  · refine lv_aload_n hx hb dX9_would_19 rfl (lv_at hl 0 rfl) ?_
    refine k_get C hH fd_X9_36 oK (k_ref (M := M) (ad := ad) rK4) dX9_would_20 ?_
    refine lv_iload_n hx hb dX9_would_23 rfl (lv_at hl 1 rfl) ?_
    refine lv_iload_n hx hb dX9_would_24 rfl (lv_at hl 2 rfl) ?_
    refine lv_iload_n hx hb dX9_would_25 rfl (lv_at hl 3 rfl) ?_
    refine kg_ip C hH (kc_S C hH w_3_81 w_st_yX9_numberOf rfl lc_yX9_numberOf (kX9_numberOf l E ad M a1 a2 a3) (As := [.int a1, .int a2, .int a3]) rfl dX9_would_26 rfl hl.1 (Nat.le_of_ble_eq_true rfl) ⟨Nat.le_of_ble_eq_true rfl, Nat.le_of_ble_eq_true rfl⟩ ⟨Nat.le_of_ble_eq_true rfl, Nat.le_of_ble_eq_true rfl⟩) ⟨rfl, rfl⟩ (fun H locs hH => ?_)
    refine lv_aload_n hx hb dX9_would_29 rfl (lv_at hl 0 rfl) ?_
    refine k_get C hH fd_X9_10 oK (k_ref (M := M) (ad := ad) rK0) dX9_would_30 ?_
    refine k_getN C hH fn_X9_124 (oS (f := 0) (by decide)) (k_ref (M := M) (ad := ad) (rS0 (f := 0) (by decide))) dX9_would_33 ?_
    refine lv_aload_n hx hb dX9_would_36 rfl (lv_at hl 0 rfl) ?_
    refine k_get C hH fd_X9_10 oK (k_ref (M := M) (ad := ad) rK0) dX9_would_37 ?_
    refine k_getN C hH fn_X9_128 (oS (f := 0) (by decide)) (k_ref (M := M) (ad := ad) (rS1 (f := 0) (by decide))) dX9_would_40 ?_
    refine kg_r C hH (kc_V C hH w_4_8 lc_yX0_deriveWithout li_yX0_deriveWithout oA (kX0_deriveWithout l E ad M (fX9_numberOf a1 a2 a3) 0 (by decide) 0 (by decide)) (As := [.int (fX9_numberOf a1 a2 a3), .ref (ad (iF 0)), .ref (ad (iR 0))]) rfl dX9_would_43 rfl hl.1 (Nat.le_of_ble_eq_true rfl) ⟨Nat.le_of_ble_eq_true rfl, Nat.le_of_ble_eq_true rfl⟩ ⟨Nat.le_of_ble_eq_true rfl, Nat.le_of_ble_eq_true rfl⟩) ⟨rfl, rfl⟩ (fun M1 H locs hH => ?_)
    refine lv_astore (lv' := [(4, .ref (ad (iF 14))), (0, .ref (ad 121)), (1, .int a1), (2, .int a2), (3, .int a3)]) hx hb dX9_would_46 hl (by decide) rfl (fun ls hl => ?_)
    refine lv_aload hx hb dX9_would_48 (lv_at hl 0 rfl) ?_
    refine kg_io C hH (kc_V C hH w_2_217 lc_yX2_size li_yX2_size (oF (f := 14) (by decide)) (kX2_size l E ad M1 14 (by decide)) (As := []) rfl dX9_would_50 rfl hl.1 (Nat.le_of_ble_eq_true rfl) ⟨Nat.le_of_ble_eq_true rfl, Nat.le_of_ble_eq_true rfl⟩ ⟨Nat.le_of_ble_eq_true rfl, Nat.le_of_ble_eq_true rfl⟩) ⟨rfl, rfl⟩ (fun v2 H locs hH => ?_)
    refine lv_aload_n hx hb dX9_would_53 rfl (lv_at hl 1 rfl) ?_
    refine kg_r C hH (kc_V C hH w_3_124 lc_yX9_held li_yX9_held oK (kX9_held l E ad M1) (As := []) rfl dX9_would_54 rfl hl.1 (Nat.le_of_ble_eq_true rfl) ⟨Nat.le_of_ble_eq_true rfl, Nat.le_of_ble_eq_true rfl⟩ ⟨Nat.le_of_ble_eq_true rfl, Nat.le_of_ble_eq_true rfl⟩) ⟨rfl, rfl⟩ (fun M3 H locs hH => ?_)
    refine kg_io C hH (kc_V C hH w_2_217 lc_yX2_size li_yX2_size (oF (f := 11) (by decide)) (kX2_size l E ad M3 11 (by decide)) (As := []) rfl dX9_would_57 rfl hl.1 (Nat.le_of_ble_eq_true rfl) ⟨Nat.le_of_ble_eq_true rfl, Nat.le_of_ble_eq_true rfl⟩ ⟨Nat.le_of_ble_eq_true rfl, Nat.le_of_ble_eq_true rfl⟩) ⟨rfl, rfl⟩ (fun v4 H locs hH => ?_)
    refine lv_isub hx hb dX9_would_60 ?_
    exact xe rfl (ke_i C hH hr (Nat.zero_le _) (Nat.zero_le _) rfl dX9_would_61)
  · exact xt C hl9 hX9 h09 hH xk_0 (is := 81) (text := "no such relation or person") (List.mem_of_getElem? (i := 0) rfl) hl.1 rfl dX9_would_9 dX9_would_12 dX9_would_13 dX9_would_15 dX9_would_18 ⟨by decide, by decide, by decide, by decide⟩
def fX9_kin_J14_4 (M : KS) (_ : Unit) : Option (Sum (Nat × KS) (Int32 × KS)) := some (.inl (0, M))
theorem fX9_kin_J14_4_u {M : KS} {u : Unit} : fX9_kin_J14_4 M u = some (.inl (0, M)) := rfl
def fX9_kin (M : KS) (a1 : Int32) (a2 : Int32) : Option (Sum (Nat × KS) (Int32 × KS)) := jn (fX9_kin_J14_4 M) (fun K14_4 => (if (fX9_isRelation a1) = 0 then K14_4 () else (if (fX9_isPerson a2) = 0 then K14_4 () else (fX9_held M).bind fun M1 => (fX2_to M1 11 a1 a2).bind fun v2 => some (.inr (v2, M1)))))
set_option maxHeartbeats 4000000 in
set_option maxRecDepth 100000 in
theorem kX9_kin (l : Launch) (hl9 : l.stackTraces = false) (E : KE) (ad : Nat → Nat) (M : KS) (a1 : Int32) (a2 : Int32) : CX l yX9_kin cX9_kin 3 (some .int) { frames := 6, cells := 1, slots := 6, locals := 155 } SK E ad [.ref (ad 121), .int a1, .int a2] M (QI SK E ad) (fX9_kin M a1 a2) := by
  refine CX.ofW (by decide) (Nat.le_of_ble_eq_true rfl) (fun sz p e s m args below meth c C hX9 h09 hr hH ls hl => ?_)
  have hx := C.1.1
  have hb := C.1.2.1
  have hl : lv_has ls 3 [(0, .ref (ad 121)), (1, .int a1), (2, .int a2)] := hl
  unfold fX9_kin
  refine lv_iload_n hx hb dX9_kin_0 rfl (lv_at hl 1 rfl) ?_
  refine kg_ip C hH (kc_S C hH w_2_234 w_st_yX9_isRelation rfl lc_yX9_isRelation (kX9_isRelation l E ad M a1) (As := [.int a1]) rfl dX9_kin_1 rfl hl.1 (Nat.le_of_ble_eq_true rfl) ⟨Nat.le_of_ble_eq_true rfl, Nat.le_of_ble_eq_true rfl⟩ ⟨Nat.le_of_ble_eq_true rfl, Nat.le_of_ble_eq_true rfl⟩) ⟨rfl, rfl⟩ (fun H locs hH => ?_)
  refine W_jn (fun (x : Unit) H locs => KH SK E ad sz M s.heap H locs) (fun x ls => lv_has ls 3 []) (fun x ls => F0 m 14 ls []) ?_ (fun K14_4 hK14_4 => ?_)
  · intro _ H locs ls hH hl
    have hH : KH SK E ad sz M s.heap H locs := hH
    have hl : lv_has ls 3 [] := hl
    refine W_q fX9_kin_J14_4_u ?_
    exact xt C hl9 hX9 h09 hH xk_0 (is := 81) (text := "no such relation or person") (List.mem_of_getElem? (i := 0) rfl) hl.1 rfl dX9_kin_14 dX9_kin_17 dX9_kin_18 dX9_kin_20 dX9_kin_23 ⟨by decide, by decide, by decide, by decide⟩
  · refine kb_if_eq (tgt := 14) hx hb dX9_kin_4 (by decide) (fun _ => ?_) (fun _ => ?_)
    · exact hK14_4 () _ _ _ hH (lv_sub hl [] rfl)
    · refine lv_iload_n hx hb dX9_kin_7 rfl (lv_at hl 2 rfl) ?_
      refine kg_ip C hH (kc_S C hH w_2_237 w_st_yX9_isPerson rfl lc_yX9_isPerson (kX9_isPerson l E ad M a2) (As := [.int a2]) rfl dX9_kin_8 rfl hl.1 (Nat.le_of_ble_eq_true rfl) ⟨Nat.le_of_ble_eq_true rfl, Nat.le_of_ble_eq_true rfl⟩ ⟨Nat.le_of_ble_eq_true rfl, Nat.le_of_ble_eq_true rfl⟩) ⟨rfl, rfl⟩ (fun H locs hH => ?_)
      refine kb_if_ne (tgt := 24) hx hb dX9_kin_11 (by decide) (fun _ => ?_) (fun _ => ?_)
      · refine lv_aload_n hx hb dX9_kin_24 rfl (lv_at hl 0 rfl) ?_
        refine kg_r C hH (kc_V C hH w_3_124 lc_yX9_held li_yX9_held oK (kX9_held l E ad M) (As := []) rfl dX9_kin_25 rfl hl.1 (Nat.le_of_ble_eq_true rfl) ⟨Nat.le_of_ble_eq_true rfl, Nat.le_of_ble_eq_true rfl⟩ ⟨Nat.le_of_ble_eq_true rfl, Nat.le_of_ble_eq_true rfl⟩) ⟨rfl, rfl⟩ (fun M1 H locs hH => ?_)
        refine lv_iload_n hx hb dX9_kin_28 rfl (lv_at hl 1 rfl) ?_
        refine lv_iload_n hx hb dX9_kin_29 rfl (lv_at hl 2 rfl) ?_
        refine kg_io C hH (kc_V C hH w_4_20 lc_yX2_to li_yX2_to (oF (f := 11) (by decide)) (kX2_to l E ad M1 11 (by decide) a1 a2) (As := [.int a1, .int a2]) rfl dX9_kin_30 rfl hl.1 (Nat.le_of_ble_eq_true rfl) ⟨Nat.le_of_ble_eq_true rfl, Nat.le_of_ble_eq_true rfl⟩ ⟨Nat.le_of_ble_eq_true rfl, Nat.le_of_ble_eq_true rfl⟩) ⟨rfl, rfl⟩ (fun v2 H locs hH => ?_)
        exact xe rfl (ke_i C hH hr (Nat.zero_le _) (Nat.zero_le _) rfl dX9_kin_33)
      · exact hK14_4 () _ _ _ hH (lv_sub hl [] rfl)
def fX9_relationOf (M : KS) (a1 : Int32) (a2 : Int32) : Option (Sum (Nat × KS) (Int32 × KS)) := (if (fX9_isRelation a1) = 0 then some (.inl (0, M)) else (if a2 = 0 then (fX9_held M).bind fun M1 => (fX2_sizeOf M1 11 a1).bind fun v2 => some (.inr (v2, M1)) else (if a2 = 1 then (fX2_sizeOf M 0 a1).bind fun v3 => some (.inr (v3, M)) else (if a2 = 2 then (fX1_settled M 0).bind fun M4 => (fX3_of M4 0 a1).bind fun v5 => some (.inr (v5, M4)) else (if a2 = 3 then (fX6_headsWith M 0 a1).bind fun v6 => some (.inr (v6, M)) else (if a2 = 4 then (fX6_conditionsWith M 0 a1).bind fun v7 => some (.inr (v7, M)) else (if a2 = 5 then (fX1_settled M 0).bind fun M8 => (fX1_lastStage M8 a1).bind fun v9 => some (.inr (v9, M8)) else some (.inl (3, M)))))))))
set_option maxHeartbeats 4000000 in
set_option maxRecDepth 100000 in
theorem kX9_relationOf (l : Launch) (hl9 : l.stackTraces = false) (E : KE) (ad : Nat → Nat) (M : KS) (a1 : Int32) (a2 : Int32) : CX l yX9_relationOf cX9_relationOf 3 (some .int) { frames := 6, cells := 1, slots := 6, locals := 155 } SK E ad [.ref (ad 121), .int a1, .int a2] M (QI SK E ad) (fX9_relationOf M a1 a2) := by
  refine CX.ofW (by decide) (Nat.le_of_ble_eq_true rfl) (fun sz p e s m args below meth c C hX9 h09 hr hH ls hl => ?_)
  have hx := C.1.1
  have hb := C.1.2.1
  have hl : lv_has ls 3 [(0, .ref (ad 121)), (1, .int a1), (2, .int a2)] := hl
  unfold fX9_relationOf
  refine lv_iload_n hx hb dX9_relationOf_0 rfl (lv_at hl 1 rfl) ?_
  refine kg_ip C hH (kc_S C hH w_2_234 w_st_yX9_isRelation rfl lc_yX9_isRelation (kX9_isRelation l E ad M a1) (As := [.int a1]) rfl dX9_relationOf_1 rfl hl.1 (Nat.le_of_ble_eq_true rfl) ⟨Nat.le_of_ble_eq_true rfl, Nat.le_of_ble_eq_true rfl⟩ ⟨Nat.le_of_ble_eq_true rfl, Nat.le_of_ble_eq_true rfl⟩) ⟨rfl, rfl⟩ (fun H locs hH => ?_)
  refine kb_if_ne (tgt := 17) hx hb dX9_relationOf_4 (by decide) (fun _ => ?_) (fun _ => ?_)
  · refine lv_iload_n hx hb dX9_relationOf_17 rfl (lv_at hl 2 rfl) ?_
    refine W_ite (fun hs0 => ?_) (fun hs0 => ?_)
    · refine lv_tableIn (tgt := 56) hx hb dX9_relationOf_18 (by rw [hs0]; decide) (by rw [hs0]; decide) (by rw [hs0]; rfl) (by decide) ?_
      refine lv_aload_n hx hb dX9_relationOf_56 rfl (lv_at hl 0 rfl) ?_
      refine kg_r C hH (kc_V C hH w_3_124 lc_yX9_held li_yX9_held oK (kX9_held l E ad M) (As := []) rfl dX9_relationOf_57 rfl hl.1 (Nat.le_of_ble_eq_true rfl) ⟨Nat.le_of_ble_eq_true rfl, Nat.le_of_ble_eq_true rfl⟩ ⟨Nat.le_of_ble_eq_true rfl, Nat.le_of_ble_eq_true rfl⟩) ⟨rfl, rfl⟩ (fun M1 H locs hH => ?_)
      refine lv_iload_n hx hb dX9_relationOf_60 rfl (lv_at hl 1 rfl) ?_
      refine kg_io C hH (kc_V C hH w_3_87 lc_yX2_sizeOf li_yX2_sizeOf (oF (f := 11) (by decide)) (kX2_sizeOf l E ad M1 11 (by decide) a1) (As := [.int a1]) rfl dX9_relationOf_61 rfl hl.1 (Nat.le_of_ble_eq_true rfl) ⟨Nat.le_of_ble_eq_true rfl, Nat.le_of_ble_eq_true rfl⟩ ⟨Nat.le_of_ble_eq_true rfl, Nat.le_of_ble_eq_true rfl⟩) ⟨rfl, rfl⟩ (fun v2 H locs hH => ?_)
      exact xe rfl (ke_i C hH hr (Nat.zero_le _) (Nat.zero_le _) rfl dX9_relationOf_64)
    · refine W_ite (fun hs1 => ?_) (fun hs1 => ?_)
      · refine lv_tableIn (tgt := 65) hx hb dX9_relationOf_18 (by rw [hs1]; decide) (by rw [hs1]; decide) (by rw [hs1]; rfl) (by decide) ?_
        refine lv_aload_n hx hb dX9_relationOf_65 rfl (lv_at hl 0 rfl) ?_
        refine k_get C hH fd_X9_10 oK (k_ref (M := M) (ad := ad) rK0) dX9_relationOf_66 ?_
        refine k_getN C hH fn_X9_124 (oS (f := 0) (by decide)) (k_ref (M := M) (ad := ad) (rS0 (f := 0) (by decide))) dX9_relationOf_69 ?_
        refine lv_iload_n hx hb dX9_relationOf_72 rfl (lv_at hl 1 rfl) ?_
        refine kg_io C hH (kc_V C hH w_3_87 lc_yX2_sizeOf li_yX2_sizeOf (oF (f := 0) (by decide)) (kX2_sizeOf l E ad M 0 (by decide) a1) (As := [.int a1]) rfl dX9_relationOf_73 rfl hl.1 (Nat.le_of_ble_eq_true rfl) ⟨Nat.le_of_ble_eq_true rfl, Nat.le_of_ble_eq_true rfl⟩ ⟨Nat.le_of_ble_eq_true rfl, Nat.le_of_ble_eq_true rfl⟩) ⟨rfl, rfl⟩ (fun v3 H locs hH => ?_)
        exact xe rfl (ke_i C hH hr (Nat.zero_le _) (Nat.zero_le _) rfl dX9_relationOf_76)
      · refine W_ite (fun hs2 => ?_) (fun hs2 => ?_)
        · refine lv_tableIn (tgt := 77) hx hb dX9_relationOf_18 (by rw [hs2]; decide) (by rw [hs2]; decide) (by rw [hs2]; rfl) (by decide) ?_
          refine lv_aload_n hx hb dX9_relationOf_77 rfl (lv_at hl 0 rfl) ?_
          refine k_get C hH fd_X9_29 oK (k_ref (M := M) (ad := ad) rK3) dX9_relationOf_78 ?_
          refine lv_aload_n hx hb dX9_relationOf_81 rfl (lv_at hl 0 rfl) ?_
          refine k_get C hH fd_X9_10 oK (k_ref (M := M) (ad := ad) rK0) dX9_relationOf_82 ?_
          refine kg_r C hH (kc_V C hH w_2_27 lc_yX1_settled li_yX1_settled oD (kX1_settled l E ad M 0 (by decide)) (As := [.ref (ad (iS 0))]) rfl dX9_relationOf_85 rfl hl.1 (Nat.le_of_ble_eq_true rfl) ⟨Nat.le_of_ble_eq_true rfl, Nat.le_of_ble_eq_true rfl⟩ ⟨Nat.le_of_ble_eq_true rfl, Nat.le_of_ble_eq_true rfl⟩) ⟨rfl, rfl⟩ (fun M4 H locs hH => ?_)
          refine k_getN C hH fn_X9_197 oD (k_ref (M := M4) (ad := ad) rD3) dX9_relationOf_88 ?_
          refine lv_iload_n hx hb dX9_relationOf_91 rfl (lv_at hl 1 rfl) ?_
          refine kg_io C hH (kc_V C hH w_4_29 lc_yX3_of li_yX3_of (oY (f := 0) (by decide)) (kX3_of l E ad M4 0 (by decide) a1) (As := [.int a1]) rfl dX9_relationOf_92 rfl hl.1 (Nat.le_of_ble_eq_true rfl) ⟨Nat.le_of_ble_eq_true rfl, Nat.le_of_ble_eq_true rfl⟩ ⟨Nat.le_of_ble_eq_true rfl, Nat.le_of_ble_eq_true rfl⟩) ⟨rfl, rfl⟩ (fun v5 H locs hH => ?_)
          exact xe rfl (ke_i C hH hr (Nat.zero_le _) (Nat.zero_le _) rfl dX9_relationOf_95)
        · refine W_ite (fun hs3 => ?_) (fun hs3 => ?_)
          · refine lv_tableIn (tgt := 96) hx hb dX9_relationOf_18 (by rw [hs3]; decide) (by rw [hs3]; decide) (by rw [hs3]; rfl) (by decide) ?_
            refine lv_aload_n hx hb dX9_relationOf_96 rfl (lv_at hl 0 rfl) ?_
            refine k_get C hH fd_X9_10 oK (k_ref (M := M) (ad := ad) rK0) dX9_relationOf_97 ?_
            refine k_getN C hH fn_X9_128 (oS (f := 0) (by decide)) (k_ref (M := M) (ad := ad) (rS1 (f := 0) (by decide))) dX9_relationOf_100 ?_
            refine lv_iload_n hx hb dX9_relationOf_103 rfl (lv_at hl 1 rfl) ?_
            refine kg_io C hH (kc_V C hH w_4_30 lc_yX6_headsWith li_yX6_headsWith (oR (f := 0) (by decide)) (kX6_headsWith l E ad M 0 (by decide) a1) (As := [.int a1]) rfl dX9_relationOf_104 rfl hl.1 (Nat.le_of_ble_eq_true rfl) ⟨Nat.le_of_ble_eq_true rfl, Nat.le_of_ble_eq_true rfl⟩ ⟨Nat.le_of_ble_eq_true rfl, Nat.le_of_ble_eq_true rfl⟩) ⟨rfl, rfl⟩ (fun v6 H locs hH => ?_)
            exact xe rfl (ke_i C hH hr (Nat.zero_le _) (Nat.zero_le _) rfl dX9_relationOf_107)
          · refine W_ite (fun hs4 => ?_) (fun hs4 => ?_)
            · refine lv_tableIn (tgt := 108) hx hb dX9_relationOf_18 (by rw [hs4]; decide) (by rw [hs4]; decide) (by rw [hs4]; rfl) (by decide) ?_
              refine lv_aload_n hx hb dX9_relationOf_108 rfl (lv_at hl 0 rfl) ?_
              refine k_get C hH fd_X9_10 oK (k_ref (M := M) (ad := ad) rK0) dX9_relationOf_109 ?_
              refine k_getN C hH fn_X9_128 (oS (f := 0) (by decide)) (k_ref (M := M) (ad := ad) (rS1 (f := 0) (by decide))) dX9_relationOf_112 ?_
              refine lv_iload_n hx hb dX9_relationOf_115 rfl (lv_at hl 1 rfl) ?_
              refine kg_io C hH (kc_V C hH w_4_34 lc_yX6_conditionsWith li_yX6_conditionsWith (oR (f := 0) (by decide)) (kX6_conditionsWith l E ad M 0 (by decide) a1) (As := [.int a1]) rfl dX9_relationOf_116 rfl hl.1 (Nat.le_of_ble_eq_true rfl) ⟨Nat.le_of_ble_eq_true rfl, Nat.le_of_ble_eq_true rfl⟩ ⟨Nat.le_of_ble_eq_true rfl, Nat.le_of_ble_eq_true rfl⟩) ⟨rfl, rfl⟩ (fun v7 H locs hH => ?_)
              exact xe rfl (ke_i C hH hr (Nat.zero_le _) (Nat.zero_le _) rfl dX9_relationOf_119)
            · refine W_ite (fun hs5 => ?_) (fun hs5 => ?_)
              · refine lv_tableIn (tgt := 120) hx hb dX9_relationOf_18 (by rw [hs5]; decide) (by rw [hs5]; decide) (by rw [hs5]; rfl) (by decide) ?_
                refine lv_aload_n hx hb dX9_relationOf_120 rfl (lv_at hl 0 rfl) ?_
                refine k_get C hH fd_X9_29 oK (k_ref (M := M) (ad := ad) rK3) dX9_relationOf_121 ?_
                refine lv_aload_n hx hb dX9_relationOf_124 rfl (lv_at hl 0 rfl) ?_
                refine k_get C hH fd_X9_10 oK (k_ref (M := M) (ad := ad) rK0) dX9_relationOf_125 ?_
                refine kg_r C hH (kc_V C hH w_2_27 lc_yX1_settled li_yX1_settled oD (kX1_settled l E ad M 0 (by decide)) (As := [.ref (ad (iS 0))]) rfl dX9_relationOf_128 rfl hl.1 (Nat.le_of_ble_eq_true rfl) ⟨Nat.le_of_ble_eq_true rfl, Nat.le_of_ble_eq_true rfl⟩ ⟨Nat.le_of_ble_eq_true rfl, Nat.le_of_ble_eq_true rfl⟩) ⟨rfl, rfl⟩ (fun M8 H locs hH => ?_)
                refine lv_iload_n hx hb dX9_relationOf_131 rfl (lv_at hl 1 rfl) ?_
                refine kg_io C hH (kc_V C hH w_4_38 lc_yX1_lastStage li_yX1_lastStage oD (kX1_lastStage l E ad M8 a1) (As := [.int a1]) rfl dX9_relationOf_132 rfl hl.1 (Nat.le_of_ble_eq_true rfl) ⟨Nat.le_of_ble_eq_true rfl, Nat.le_of_ble_eq_true rfl⟩ ⟨Nat.le_of_ble_eq_true rfl, Nat.le_of_ble_eq_true rfl⟩) ⟨rfl, rfl⟩ (fun v9 H locs hH => ?_)
                exact xe rfl (ke_i C hH hr (Nat.zero_le _) (Nat.zero_le _) rfl dX9_relationOf_135)
              · refine lv_tableOut (tgt := 136) hx hb dX9_relationOf_18 (k_tab6 hs0 hs1 hs2 hs3 hs4 hs5) (by decide) ?_
                exact xt C hl9 hX9 h09 hH xk_3 (is := 212) (text := "no such number of a relation") (List.mem_of_getElem? (i := 6) rfl) hl.1 rfl dX9_relationOf_136 dX9_relationOf_139 dX9_relationOf_140 dX9_relationOf_142 dX9_relationOf_145 ⟨by decide, by decide, by decide, by decide⟩
  · exact xt C hl9 hX9 h09 hH xk_0 (is := 194) (text := "no such relation") (List.mem_of_getElem? (i := 5) rfl) hl.1 rfl dX9_relationOf_7 dX9_relationOf_10 dX9_relationOf_11 dX9_relationOf_13 dX9_relationOf_16 ⟨by decide, by decide, by decide, by decide⟩
def fX9_ranked_X7 (M1 : KS) (_ : Unit) : Option (Sum (Nat × KS) (Int32 × KS)) := some (.inl (2, M1))
theorem fX9_ranked_X7_u {M1 : KS} {u : Unit} : fX9_ranked_X7 M1 u = some (.inl (2, M1)) := rfl
def fX9_ranked_L7 (a1 : Int32) (M1 : KS) (rec7 : (Int32) → Option (Sum (Nat × KS) (Int32 × KS))) (k7 : (Unit) → Option (Sum (Nat × KS) (Int32 × KS))) (v2 : Int32) : Option (Sum (Nat × KS) (Int32 × KS)) := (if 6 ≤ v2 then k7 () else (fX9_rankOf M1 v2 11).bind fun v3 => (if v3 = a1 then some (.inr (v2, M1)) else nm (v2 + 1) fun v4 => rec7 v4))
theorem fX9_ranked_L7_u {a1 : Int32} {M1 : KS} {rec7 : (Int32) → Option (Sum (Nat × KS) (Int32 × KS))} {k7 : (Unit) → Option (Sum (Nat × KS) (Int32 × KS))} {v2 : Int32} : fX9_ranked_L7 a1 M1 rec7 k7 v2 = (if 6 ≤ v2 then k7 () else (fX9_rankOf M1 v2 11).bind fun v3 => (if v3 = a1 then some (.inr (v2, M1)) else nm (v2 + 1) fun v4 => rec7 v4)) := rfl
def fX9_ranked (M : KS) (a1 : Int32) : Option (Sum (Nat × KS) (Int32 × KS)) := (fX9_held M).bind fun M1 => lp (fX9_ranked_L7 a1 M1) (fX9_ranked_X7 M1) 1000000 0
set_option maxHeartbeats 4000000 in
set_option maxRecDepth 100000 in
theorem kX9_ranked (l : Launch) (hl9 : l.stackTraces = false) (E : KE) (ad : Nat → Nat) (M : KS) (a1 : Int32) : CX l yX9_ranked cX9_ranked 4 (some .int) { frames := 6, cells := 1, slots := 6, locals := 155 } SK E ad [.ref (ad 121), .int a1] M (QI SK E ad) (fX9_ranked M a1) := by
  refine CX.ofW (by decide) (Nat.le_of_ble_eq_true rfl) (fun sz p e s m args below meth c C hX9 h09 hr hH ls hl => ?_)
  have hx := C.1.1
  have hb := C.1.2.1
  have hl : lv_has ls 4 [(0, .ref (ad 121)), (1, .int a1)] := hl
  unfold fX9_ranked
  refine lv_aload_n hx hb dX9_ranked_0 rfl (lv_at hl 0 rfl) ?_
  refine kg_r C hH (kc_V C hH w_3_124 lc_yX9_held li_yX9_held oK (kX9_held l E ad M) (As := []) rfl dX9_ranked_1 rfl hl.1 (Nat.le_of_ble_eq_true rfl) ⟨Nat.le_of_ble_eq_true rfl, Nat.le_of_ble_eq_true rfl⟩ ⟨Nat.le_of_ble_eq_true rfl, Nat.le_of_ble_eq_true rfl⟩) ⟨rfl, rfl⟩ (fun M1 H locs hH => ?_)
  refine lv_astore_n (lv' := [(2, .ref (ad (iF 11))), (0, .ref (ad 121)), (1, .int a1)]) hx hb dX9_ranked_4 rfl hl (by decide) rfl (fun ls hl => ?_)
  refine lv_iconst (v := 0) hx hb dX9_ranked_5 (by decide) ?_
  refine lv_istore_n (lv' := [(3, .int 0), (2, .ref (ad (iF 11))), (0, .ref (ad 121)), (1, .int a1)]) hx hb dX9_ranked_6 rfl hl (by decide) rfl (fun ls hl => ?_)
  refine W_lp (fun (x : Int32) H locs => KH SK E ad sz M1 s.heap H locs) (fun x ls => lv_has ls 4 [(2, .ref (ad (iF 11))), (1, .int a1), (3, .int x)]) (fun _ ls => F0 m 7 ls []) (fun (x : Unit) H locs => KH SK E ad sz M1 s.heap H locs) (fun x ls => lv_has ls 4 []) (fun _ ls => F0 m 30 ls []) ?_ ?_ hH (lv_sub hl [1, 3, 0] rfl)
  · intro _ H locs ls hH hl
    have hH : KH SK E ad sz M1 s.heap H locs := hH
    have hl : lv_has ls 4 [] := hl
    refine W_q fX9_ranked_X7_u ?_
    exact xt C hl9 hX9 h09 hH xk_2 (is := 217) (text := "no such place") (List.mem_of_getElem? (i := 7) rfl) hl.1 rfl dX9_ranked_30 dX9_ranked_33 dX9_ranked_34 dX9_ranked_36 dX9_ranked_39 ⟨by decide, by decide, by decide, by decide⟩
  · intro rec7 k7 hrec7 hk7 v2 H locs ls hH hl
    have hH : KH SK E ad sz M1 s.heap H locs := hH
    have hl : lv_has ls 4 [(2, .ref (ad (iF 11))), (1, .int a1), (3, .int v2)] := hl
    refine W_q fX9_ranked_L7_u ?_
    refine lv_iload_n hx hb dX9_ranked_7 rfl (lv_at hl 2 rfl) ?_
    refine lv_bipush (v := 6) hx hb dX9_ranked_8 (by decide) ?_
    refine kb_icmp_ge (tgt := 30) hx hb dX9_ranked_10 (by decide) (fun _ => ?_) (fun _ => ?_)
    · exact hk7 () _ _ _ hH (lv_sub hl [] rfl)
    · refine lv_iload_n hx hb dX9_ranked_13 rfl (lv_at hl 2 rfl) ?_
      refine lv_aload_n hx hb dX9_ranked_14 rfl (lv_at hl 0 rfl) ?_
      refine kg_io C hH (kc_S C hH w_4_50 w_st_yX9_rankOf rfl lc_yX9_rankOf (kX9_rankOf l E ad M1 v2 11 (by decide)) (As := [.int v2, .ref (ad (iF 11))]) rfl dX9_ranked_15 rfl hl.1 (Nat.le_of_ble_eq_true rfl) ⟨Nat.le_of_ble_eq_true rfl, Nat.le_of_ble_eq_true rfl⟩ ⟨Nat.le_of_ble_eq_true rfl, Nat.le_of_ble_eq_true rfl⟩) ⟨rfl, rfl⟩ (fun v3 H locs hH => ?_)
      refine lv_iload_n hx hb dX9_ranked_18 rfl (lv_at hl 1 rfl) ?_
      refine kb_icmp_ne (tgt := 24) hx hb dX9_ranked_19 (by decide) (fun _ => ?_) (fun _ => ?_)
      · refine W_nm (fun v4 ev4 => ?_)
        refine lv_iinc (v := v4) (lv' := [(3, .int v4), (2, .ref (ad (iF 11))), (1, .int a1)]) hx hb dX9_ranked_24 hl (k := 2) rfl (by rw [ev4]; rfl) (by decide) rfl (fun ls hl => ?_)
        refine lv_goto (tgt := 7) hx hb dX9_ranked_27 (by decide) ?_
        exact hrec7 v4 _ _ _ hH (lv_sub hl [1, 2, 0] rfl)
      · refine lv_iload_n hx hb dX9_ranked_22 rfl (lv_at hl 2 rfl) ?_
        exact xe rfl (ke_i C hH hr (Nat.zero_le _) (Nat.zero_le _) rfl dX9_ranked_23)
def fX9_isMutual_X24 (M1 : KS) (_ : Unit) : Option (Sum (Nat × KS) (Int32 × KS)) := some (.inr (1, M1))
theorem fX9_isMutual_X24_u {M1 : KS} {u : Unit} : fX9_isMutual_X24 M1 u = some (.inr (1, M1)) := rfl
def fX9_isMutual_L24 (a1 : Int32) (M1 : KS) (rec24 : (Int32) → Option (Sum (Nat × KS) (Int32 × KS))) (k24 : (Unit) → Option (Sum (Nat × KS) (Int32 × KS))) (v2 : Int32) : Option (Sum (Nat × KS) (Int32 × KS)) := (if 6 ≤ v2 then k24 () else (fX2_to M1 11 a1 v2).bind fun v3 => (fX2_from M1 11 a1 v2).bind fun v4 => (if v3 = v4 then nm (v2 + 1) fun v5 => rec24 v5 else some (.inr (0, M1))))
theorem fX9_isMutual_L24_u {a1 : Int32} {M1 : KS} {rec24 : (Int32) → Option (Sum (Nat × KS) (Int32 × KS))} {k24 : (Unit) → Option (Sum (Nat × KS) (Int32 × KS))} {v2 : Int32} : fX9_isMutual_L24 a1 M1 rec24 k24 v2 = (if 6 ≤ v2 then k24 () else (fX2_to M1 11 a1 v2).bind fun v3 => (fX2_from M1 11 a1 v2).bind fun v4 => (if v3 = v4 then nm (v2 + 1) fun v5 => rec24 v5 else some (.inr (0, M1)))) := rfl
def fX9_isMutual (M : KS) (a1 : Int32) : Option (Sum (Nat × KS) (Int32 × KS)) := (if (fX9_isRelation a1) = 0 then some (.inl (0, M)) else (fX9_held M).bind fun M1 => lp (fX9_isMutual_L24 a1 M1) (fX9_isMutual_X24 M1) 1000000 0)
set_option maxHeartbeats 4000000 in
set_option maxRecDepth 100000 in
theorem kX9_isMutual (l : Launch) (hl9 : l.stackTraces = false) (E : KE) (ad : Nat → Nat) (M : KS) (a1 : Int32) : CX l yX9_isMutual cX9_isMutual 4 (some .boolean) { frames := 6, cells := 1, slots := 6, locals := 155 } SK E ad [.ref (ad 121), .int a1] M (QI SK E ad) (fX9_isMutual M a1) := by
  refine CX.ofW (by decide) (Nat.le_of_ble_eq_true rfl) (fun sz p e s m args below meth c C hX9 h09 hr hH ls hl => ?_)
  have hx := C.1.1
  have hb := C.1.2.1
  have hl : lv_has ls 4 [(0, .ref (ad 121)), (1, .int a1)] := hl
  unfold fX9_isMutual
  refine lv_iload_n hx hb dX9_isMutual_0 rfl (lv_at hl 1 rfl) ?_
  refine kg_ip C hH (kc_S C hH w_2_234 w_st_yX9_isRelation rfl lc_yX9_isRelation (kX9_isRelation l E ad M a1) (As := [.int a1]) rfl dX9_isMutual_1 rfl hl.1 (Nat.le_of_ble_eq_true rfl) ⟨Nat.le_of_ble_eq_true rfl, Nat.le_of_ble_eq_true rfl⟩ ⟨Nat.le_of_ble_eq_true rfl, Nat.le_of_ble_eq_true rfl⟩) ⟨rfl, rfl⟩ (fun H locs hH => ?_)
  refine kb_if_ne (tgt := 17) hx hb dX9_isMutual_4 (by decide) (fun _ => ?_) (fun _ => ?_)
  · refine lv_aload_n hx hb dX9_isMutual_17 rfl (lv_at hl 0 rfl) ?_
    refine kg_r C hH (kc_V C hH w_3_124 lc_yX9_held li_yX9_held oK (kX9_held l E ad M) (As := []) rfl dX9_isMutual_18 rfl hl.1 (Nat.le_of_ble_eq_true rfl) ⟨Nat.le_of_ble_eq_true rfl, Nat.le_of_ble_eq_true rfl⟩ ⟨Nat.le_of_ble_eq_true rfl, Nat.le_of_ble_eq_true rfl⟩) ⟨rfl, rfl⟩ (fun M1 H locs hH => ?_)
    refine lv_astore_n (lv' := [(2, .ref (ad (iF 11))), (0, .ref (ad 121)), (1, .int a1)]) hx hb dX9_isMutual_21 rfl hl (by decide) rfl (fun ls hl => ?_)
    refine lv_iconst (v := 0) hx hb dX9_isMutual_22 (by decide) ?_
    refine lv_istore_n (lv' := [(3, .int 0), (2, .ref (ad (iF 11))), (0, .ref (ad 121)), (1, .int a1)]) hx hb dX9_isMutual_23 rfl hl (by decide) rfl (fun ls hl => ?_)
    refine W_lp (fun (x : Int32) H locs => KH SK E ad sz M1 s.heap H locs) (fun x ls => lv_has ls 4 [(2, .ref (ad (iF 11))), (1, .int a1), (3, .int x)]) (fun _ ls => F0 m 24 ls []) (fun (x : Unit) H locs => KH SK E ad sz M1 s.heap H locs) (fun x ls => lv_has ls 4 []) (fun _ ls => F0 m 53 ls []) ?_ ?_ hH (lv_sub hl [1, 3, 0] rfl)
    · intro _ H locs ls hH hl
      have hH : KH SK E ad sz M1 s.heap H locs := hH
      have hl : lv_has ls 4 [] := hl
      refine W_q fX9_isMutual_X24_u ?_
      refine lv_iconst (v := 1) hx hb dX9_isMutual_53 (by decide) ?_
      exact xe rfl (ke_z C hH hr (Nat.zero_le _) (Nat.zero_le _) rfl (Or.inr rfl) dX9_isMutual_54)
    · intro rec24 k24 hrec24 hk24 v2 H locs ls hH hl
      have hH : KH SK E ad sz M1 s.heap H locs := hH
      have hl : lv_has ls 4 [(2, .ref (ad (iF 11))), (1, .int a1), (3, .int v2)] := hl
      refine W_q fX9_isMutual_L24_u ?_
      refine lv_iload_n hx hb dX9_isMutual_24 rfl (lv_at hl 2 rfl) ?_
      refine lv_bipush (v := 6) hx hb dX9_isMutual_25 (by decide) ?_
      refine kb_icmp_ge (tgt := 53) hx hb dX9_isMutual_27 (by decide) (fun _ => ?_) (fun _ => ?_)
      · exact hk24 () _ _ _ hH (lv_sub hl [] rfl)
      · refine lv_aload_n hx hb dX9_isMutual_30 rfl (lv_at hl 0 rfl) ?_
        refine lv_iload_n hx hb dX9_isMutual_31 rfl (lv_at hl 1 rfl) ?_
        refine lv_iload_n hx hb dX9_isMutual_32 rfl (lv_at hl 2 rfl) ?_
        refine kg_io C hH (kc_V C hH w_4_20 lc_yX2_to li_yX2_to (oF (f := 11) (by decide)) (kX2_to l E ad M1 11 (by decide) a1 v2) (As := [.int a1, .int v2]) rfl dX9_isMutual_33 rfl hl.1 (Nat.le_of_ble_eq_true rfl) ⟨Nat.le_of_ble_eq_true rfl, Nat.le_of_ble_eq_true rfl⟩ ⟨Nat.le_of_ble_eq_true rfl, Nat.le_of_ble_eq_true rfl⟩) ⟨rfl, rfl⟩ (fun v3 H locs hH => ?_)
        refine lv_aload_n hx hb dX9_isMutual_36 rfl (lv_at hl 0 rfl) ?_
        refine lv_iload_n hx hb dX9_isMutual_37 rfl (lv_at hl 1 rfl) ?_
        refine lv_iload_n hx hb dX9_isMutual_38 rfl (lv_at hl 2 rfl) ?_
        refine kg_io C hH (kc_V C hH w_4_61 lc_yX2_from li_yX2_from (oF (f := 11) (by decide)) (kX2_from l E ad M1 11 (by decide) a1 v2) (As := [.int a1, .int v2]) rfl dX9_isMutual_39 rfl hl.1 (Nat.le_of_ble_eq_true rfl) ⟨Nat.le_of_ble_eq_true rfl, Nat.le_of_ble_eq_true rfl⟩ ⟨Nat.le_of_ble_eq_true rfl, Nat.le_of_ble_eq_true rfl⟩) ⟨rfl, rfl⟩ (fun v4 H locs hH => ?_)
        refine kb_icmp_eq (tgt := 47) hx hb dX9_isMutual_42 (by decide) (fun _ => ?_) (fun _ => ?_)
        · refine W_nm (fun v5 ev5 => ?_)
          refine lv_iinc (v := v5) (lv' := [(3, .int v5), (2, .ref (ad (iF 11))), (1, .int a1)]) hx hb dX9_isMutual_47 hl (k := 2) rfl (by rw [ev5]; rfl) (by decide) rfl (fun ls hl => ?_)
          refine lv_goto (tgt := 24) hx hb dX9_isMutual_50 (by decide) ?_
          exact hrec24 v5 _ _ _ hH (lv_sub hl [1, 2, 0] rfl)
        · refine lv_iconst (v := 0) hx hb dX9_isMutual_45 (by decide) ?_
          exact xe rfl (ke_z C hH hr (Nat.zero_le _) (Nat.zero_le _) rfl (Or.inl rfl) dX9_isMutual_46)
  · exact xt C hl9 hX9 h09 hH xk_0 (is := 194) (text := "no such relation") (List.mem_of_getElem? (i := 5) rfl) hl.1 rfl dX9_isMutual_7 dX9_isMutual_10 dX9_isMutual_11 dX9_isMutual_13 dX9_isMutual_16 ⟨by decide, by decide, by decide, by decide⟩
def fX9_rule (M : KS) (a1 : Int32) (a2 : Int32) (a3 : Int32) (a4 : Int32) : Option (Sum (Nat × KS) (Int32 × KS)) := (if (fX9_isRule a1 a2 a3 a4) = 0 then some (.inl (0, M)) else (fX5_mark M 0).bind fun M1 => bd2 (fX9_addRule M1 a1 a2 a3 a4) fun v3 M2 => (if v3 = 0 then some (.inl (1, M2)) else (fX5_keep M2).bind fun M4 => some (.inr (((M4.1 (iR 0) 3) - 1), M4))))
set_option maxHeartbeats 4000000 in
set_option maxRecDepth 100000 in
theorem kX9_rule (l : Launch) (hl9 : l.stackTraces = false) (E : KE) (ad : Nat → Nat) (M : KS) (a1 : Int32) (a2 : Int32) (a3 : Int32) (a4 : Int32) : CX l yX9_rule cX9_rule 5 (some .int) { frames := 6, cells := 1, slots := 6, locals := 100 } SK E ad [.ref (ad 121), .int a1, .int a2, .int a3, .int a4] M (QI SK E ad) (fX9_rule M a1 a2 a3 a4) := by
  refine CX.ofW (by decide) (Nat.le_of_ble_eq_true rfl) (fun sz p e s m args below meth c C hX9 h09 hr hH ls hl => ?_)
  have hx := C.1.1
  have hb := C.1.2.1
  have hl : lv_has ls 5 [(0, .ref (ad 121)), (1, .int a1), (2, .int a2), (3, .int a3), (4, .int a4)] := hl
  unfold fX9_rule
  refine lv_iload_n hx hb dX9_rule_0 rfl (lv_at hl 1 rfl) ?_
  refine lv_iload_n hx hb dX9_rule_1 rfl (lv_at hl 2 rfl) ?_
  refine lv_iload_n hx hb dX9_rule_2 rfl (lv_at hl 3 rfl) ?_
  refine lv_iload hx hb dX9_rule_3 (lv_at hl 4 rfl) ?_
  refine kg_ip C hH (kc_S C hH w_4_69 w_st_yX9_isRule rfl lc_yX9_isRule (kX9_isRule l E ad M a1 a2 a3 a4) (As := [.int a1, .int a2, .int a3, .int a4]) rfl dX9_rule_5 rfl hl.1 (Nat.le_of_ble_eq_true rfl) ⟨Nat.le_of_ble_eq_true rfl, Nat.le_of_ble_eq_true rfl⟩ ⟨Nat.le_of_ble_eq_true rfl, Nat.le_of_ble_eq_true rfl⟩) ⟨rfl, rfl⟩ (fun H locs hH => ?_)
  refine kb_if_ne (tgt := 21) hx hb dX9_rule_8 (by decide) (fun _ => ?_) (fun _ => ?_)
  · refine lv_aload_n hx hb dX9_rule_21 rfl (lv_at hl 0 rfl) ?_
    refine k_get C hH fd_X9_22 oK (k_ref (M := M) (ad := ad) rK2) dX9_rule_22 ?_
    refine lv_aload_n hx hb dX9_rule_25 rfl (lv_at hl 0 rfl) ?_
    refine k_get C hH fd_X9_10 oK (k_ref (M := M) (ad := ad) rK0) dX9_rule_26 ?_
    refine kg_v C hH (kc_V C hH w_3_72 lc_yX5_mark li_yX5_mark oP (kX5_mark l E ad M 0 (by decide)) (As := [.ref (ad (iS 0))]) rfl dX9_rule_29 rfl hl.1 (Nat.le_of_ble_eq_true rfl) ⟨Nat.le_of_ble_eq_true rfl, Nat.le_of_ble_eq_true rfl⟩ ⟨Nat.le_of_ble_eq_true rfl, Nat.le_of_ble_eq_true rfl⟩) ⟨rfl, rfl⟩ (fun M1 H locs hH => ?_)
    refine lv_aload_n hx hb dX9_rule_32 rfl (lv_at hl 0 rfl) ?_
    refine lv_iload_n hx hb dX9_rule_33 rfl (lv_at hl 1 rfl) ?_
    refine lv_iload_n hx hb dX9_rule_34 rfl (lv_at hl 2 rfl) ?_
    refine lv_iload_n hx hb dX9_rule_35 rfl (lv_at hl 3 rfl) ?_
    refine lv_iload hx hb dX9_rule_36 (lv_at hl 4 rfl) ?_
    refine kg_ib C hH (kc_V C hH w_4_76 lc_yX9_addRule li_yX9_addRule oK (kX9_addRule l E ad M1 a1 a2 a3 a4) (As := [.int a1, .int a2, .int a3, .int a4]) rfl dX9_rule_38 rfl hl.1 (Nat.le_of_ble_eq_true rfl) ⟨Nat.le_of_ble_eq_true rfl, Nat.le_of_ble_eq_true rfl⟩ ⟨Nat.le_of_ble_eq_true rfl, Nat.le_of_ble_eq_true rfl⟩) ⟨rfl, rfl⟩ (fun v3 M2 H locs hH => ?_)
    refine kb_if_ne (tgt := 54) hx hb dX9_rule_41 (by decide) (fun _ => ?_) (fun _ => ?_)
    · refine lv_aload_n hx hb dX9_rule_54 rfl (lv_at hl 0 rfl) ?_
      refine k_get C hH fd_X9_22 oK (k_ref (M := M2) (ad := ad) rK2) dX9_rule_55 ?_
      refine kg_v C hH (kc_V C hH w_3_117 lc_yX5_keep li_yX5_keep oP (kX5_keep l E ad M2) (As := []) rfl dX9_rule_58 rfl hl.1 (Nat.le_of_ble_eq_true rfl) ⟨Nat.le_of_ble_eq_true rfl, Nat.le_of_ble_eq_true rfl⟩ ⟨Nat.le_of_ble_eq_true rfl, Nat.le_of_ble_eq_true rfl⟩) ⟨rfl, rfl⟩ (fun M4 H locs hH => ?_)
      refine lv_aload_n hx hb dX9_rule_61 rfl (lv_at hl 0 rfl) ?_
      refine k_get C hH fd_X9_10 oK (k_ref (M := M4) (ad := ad) rK0) dX9_rule_62 ?_
      refine k_getN C hH fn_X9_128 (oS (f := 0) (by decide)) (k_ref (M := M4) (ad := ad) (rS1 (f := 0) (by decide))) dX9_rule_65 ?_
      refine k_getN C hH fn_X9_233 (oR (f := 0) (by decide)) (k_int (M := M4) (ad := ad) (nR3 (f := 0) (by decide))) dX9_rule_68 ?_
      refine lv_iconst (v := 1) hx hb dX9_rule_71 (by decide) ?_
      refine lv_isub hx hb dX9_rule_72 ?_
      exact xe rfl (ke_i C hH hr (Nat.zero_le _) (Nat.zero_le _) rfl dX9_rule_73)
    · exact xt C hl9 hX9 h09 hH xk_1 (is := 231) (text := "the rule is refused") (List.mem_of_getElem? (i := 9) rfl) hl.1 rfl dX9_rule_44 dX9_rule_47 dX9_rule_48 dX9_rule_50 dX9_rule_53 ⟨by decide, by decide, by decide, by decide⟩
  · exact xt C hl9 hX9 h09 hH xk_0 (is := 226) (text := "no such relation or condition") (List.mem_of_getElem? (i := 8) rfl) hl.1 rfl dX9_rule_11 dX9_rule_14 dX9_rule_15 dX9_rule_17 dX9_rule_20 ⟨by decide, by decide, by decide, by decide⟩
def fX9_drop (M : KS) (a1 : Int32) : Option (Sum (Nat × KS) (Int32 × KS)) := (if (fX6_has M 0 a1) = 0 then some (.inl (3, M)) else (fX5_mark M 0).bind fun M1 => bd2 (fX9_takeRule M1 a1) fun v3 M2 => (fX5_keep M2).bind fun M4 => (fX9_held M4).bind fun M5 => (fX2_size M5 11).bind fun v6 => some (.inr (v6, M5)))
set_option maxHeartbeats 4000000 in
set_option maxRecDepth 100000 in
theorem kX9_drop (l : Launch) (hl9 : l.stackTraces = false) (E : KE) (ad : Nat → Nat) (M : KS) (a1 : Int32) : CX l yX9_drop cX9_drop 2 (some .int) { frames := 6, cells := 1, slots := 6, locals := 155 } SK E ad [.ref (ad 121), .int a1] M (QI SK E ad) (fX9_drop M a1) := by
  refine CX.ofW (by decide) (Nat.le_of_ble_eq_true rfl) (fun sz p e s m args below meth c C hX9 h09 hr hH ls hl => ?_)
  have hx := C.1.1
  have hb := C.1.2.1
  have hl : lv_has ls 2 [(0, .ref (ad 121)), (1, .int a1)] := hl
  unfold fX9_drop
  refine lv_aload_n hx hb dX9_drop_0 rfl (lv_at hl 0 rfl) ?_
  refine k_get C hH fd_X9_10 oK (k_ref (M := M) (ad := ad) rK0) dX9_drop_1 ?_
  refine k_getN C hH fn_X9_128 (oS (f := 0) (by decide)) (k_ref (M := M) (ad := ad) (rS1 (f := 0) (by decide))) dX9_drop_4 ?_
  refine lv_iload_n hx hb dX9_drop_7 rfl (lv_at hl 1 rfl) ?_
  refine kg_ip C hH (kc_V C hH w_4_108 lc_yX6_has li_yX6_has (oR (f := 0) (by decide)) (kX6_has l E ad M 0 (by decide) a1) (As := [.int a1]) rfl dX9_drop_8 rfl hl.1 (Nat.le_of_ble_eq_true rfl) ⟨Nat.le_of_ble_eq_true rfl, Nat.le_of_ble_eq_true rfl⟩ ⟨Nat.le_of_ble_eq_true rfl, Nat.le_of_ble_eq_true rfl⟩) ⟨rfl, rfl⟩ (fun H locs hH => ?_)
  refine kb_if_ne (tgt := 24) hx hb dX9_drop_11 (by decide) (fun _ => ?_) (fun _ => ?_)
  · refine lv_aload_n hx hb dX9_drop_24 rfl (lv_at hl 0 rfl) ?_
    refine k_get C hH fd_X9_22 oK (k_ref (M := M) (ad := ad) rK2) dX9_drop_25 ?_
    refine lv_aload_n hx hb dX9_drop_28 rfl (lv_at hl 0 rfl) ?_
    refine k_get C hH fd_X9_10 oK (k_ref (M := M) (ad := ad) rK0) dX9_drop_29 ?_
    refine kg_v C hH (kc_V C hH w_3_72 lc_yX5_mark li_yX5_mark oP (kX5_mark l E ad M 0 (by decide)) (As := [.ref (ad (iS 0))]) rfl dX9_drop_32 rfl hl.1 (Nat.le_of_ble_eq_true rfl) ⟨Nat.le_of_ble_eq_true rfl, Nat.le_of_ble_eq_true rfl⟩ ⟨Nat.le_of_ble_eq_true rfl, Nat.le_of_ble_eq_true rfl⟩) ⟨rfl, rfl⟩ (fun M1 H locs hH => ?_)
    refine lv_aload_n hx hb dX9_drop_35 rfl (lv_at hl 0 rfl) ?_
    refine lv_iload_n hx hb dX9_drop_36 rfl (lv_at hl 1 rfl) ?_
    refine kg_ib C hH (kc_V C hH w_4_113 lc_yX9_takeRule li_yX9_takeRule oK (kX9_takeRule l E ad M1 a1) (As := [.int a1]) rfl dX9_drop_37 rfl hl.1 (Nat.le_of_ble_eq_true rfl) ⟨Nat.le_of_ble_eq_true rfl, Nat.le_of_ble_eq_true rfl⟩ ⟨Nat.le_of_ble_eq_true rfl, Nat.le_of_ble_eq_true rfl⟩) ⟨rfl, rfl⟩ (fun v3 M2 H locs hH => ?_)
    refine lv_pop hx hb dX9_drop_40 rfl ?_
    refine lv_aload_n hx hb dX9_drop_41 rfl (lv_at hl 0 rfl) ?_
    refine k_get C hH fd_X9_22 oK (k_ref (M := M2) (ad := ad) rK2) dX9_drop_42 ?_
    refine kg_v C hH (kc_V C hH w_3_117 lc_yX5_keep li_yX5_keep oP (kX5_keep l E ad M2) (As := []) rfl dX9_drop_45 rfl hl.1 (Nat.le_of_ble_eq_true rfl) ⟨Nat.le_of_ble_eq_true rfl, Nat.le_of_ble_eq_true rfl⟩ ⟨Nat.le_of_ble_eq_true rfl, Nat.le_of_ble_eq_true rfl⟩) ⟨rfl, rfl⟩ (fun M4 H locs hH => ?_)
    refine lv_aload_n hx hb dX9_drop_48 rfl (lv_at hl 0 rfl) ?_
    refine kg_r C hH (kc_V C hH w_3_124 lc_yX9_held li_yX9_held oK (kX9_held l E ad M4) (As := []) rfl dX9_drop_49 rfl hl.1 (Nat.le_of_ble_eq_true rfl) ⟨Nat.le_of_ble_eq_true rfl, Nat.le_of_ble_eq_true rfl⟩ ⟨Nat.le_of_ble_eq_true rfl, Nat.le_of_ble_eq_true rfl⟩) ⟨rfl, rfl⟩ (fun M5 H locs hH => ?_)
    refine kg_io C hH (kc_V C hH w_2_217 lc_yX2_size li_yX2_size (oF (f := 11) (by decide)) (kX2_size l E ad M5 11 (by decide)) (As := []) rfl dX9_drop_52 rfl hl.1 (Nat.le_of_ble_eq_true rfl) ⟨Nat.le_of_ble_eq_true rfl, Nat.le_of_ble_eq_true rfl⟩ ⟨Nat.le_of_ble_eq_true rfl, Nat.le_of_ble_eq_true rfl⟩) ⟨rfl, rfl⟩ (fun v6 H locs hH => ?_)
    exact xe rfl (ke_i C hH hr (Nat.zero_le _) (Nat.zero_le _) rfl dX9_drop_55)
  · exact xt C hl9 hX9 h09 hH xk_3 (is := 237) (text := "no such rule") (List.mem_of_getElem? (i := 10) rfl) hl.1 rfl dX9_drop_14 dX9_drop_17 dX9_drop_18 dX9_drop_20 dX9_drop_23 ⟨by decide, by decide, by decide, by decide⟩
def fX9_ruleOf (M : KS) (a1 : Int32) (a2 : Int32) : Option (Sum (Nat × KS) (Int32 × KS)) := (if (fX6_has M 0 a1) = 0 then some (.inl (3, M)) else (if a2 = 0 then (fX6_head M 0 a1).bind fun v1 => some (.inr (v1, M)) else (if a2 = 1 then (fX6_conditionsOf M 0 a1).bind fun v2 => some (.inr (v2, M)) else (if a2 = 2 then (fX1_settled M 0).bind fun M3 => (fX1_derivationsWith M3 a1).bind fun v4 => some (.inr (v4, M3)) else (if a2 = 3 then (fX9_held M).bind fun M5 => (fX6_makes M5 0 a1 11).bind fun v6 => some (.inr (v6, M5)) else some (.inl (0, M)))))))
set_option maxHeartbeats 4000000 in
set_option maxRecDepth 100000 in
theorem kX9_ruleOf (l : Launch) (hl9 : l.stackTraces = false) (E : KE) (ad : Nat → Nat) (M : KS) (a1 : Int32) (a2 : Int32) : CX l yX9_ruleOf cX9_ruleOf 3 (some .int) { frames := 6, cells := 1, slots := 6, locals := 155 } SK E ad [.ref (ad 121), .int a1, .int a2] M (QI SK E ad) (fX9_ruleOf M a1 a2) := by
  refine CX.ofW (by decide) (Nat.le_of_ble_eq_true rfl) (fun sz p e s m args below meth c C hX9 h09 hr hH ls hl => ?_)
  have hx := C.1.1
  have hb := C.1.2.1
  have hl : lv_has ls 3 [(0, .ref (ad 121)), (1, .int a1), (2, .int a2)] := hl
  unfold fX9_ruleOf
  refine lv_aload_n hx hb dX9_ruleOf_0 rfl (lv_at hl 0 rfl) ?_
  refine k_get C hH fd_X9_10 oK (k_ref (M := M) (ad := ad) rK0) dX9_ruleOf_1 ?_
  refine k_getN C hH fn_X9_128 (oS (f := 0) (by decide)) (k_ref (M := M) (ad := ad) (rS1 (f := 0) (by decide))) dX9_ruleOf_4 ?_
  refine lv_iload_n hx hb dX9_ruleOf_7 rfl (lv_at hl 1 rfl) ?_
  refine kg_ip C hH (kc_V C hH w_4_108 lc_yX6_has li_yX6_has (oR (f := 0) (by decide)) (kX6_has l E ad M 0 (by decide) a1) (As := [.int a1]) rfl dX9_ruleOf_8 rfl hl.1 (Nat.le_of_ble_eq_true rfl) ⟨Nat.le_of_ble_eq_true rfl, Nat.le_of_ble_eq_true rfl⟩ ⟨Nat.le_of_ble_eq_true rfl, Nat.le_of_ble_eq_true rfl⟩) ⟨rfl, rfl⟩ (fun H locs hH => ?_)
  refine kb_if_ne (tgt := 24) hx hb dX9_ruleOf_11 (by decide) (fun _ => ?_) (fun _ => ?_)
  · refine lv_iload_n hx hb dX9_ruleOf_24 rfl (lv_at hl 2 rfl) ?_
    refine W_ite (fun hs0 => ?_) (fun hs0 => ?_)
    · refine lv_tableIn (tgt := 56) hx hb dX9_ruleOf_25 (by rw [hs0]; decide) (by rw [hs0]; decide) (by rw [hs0]; rfl) (by decide) ?_
      refine lv_aload_n hx hb dX9_ruleOf_56 rfl (lv_at hl 0 rfl) ?_
      refine k_get C hH fd_X9_10 oK (k_ref (M := M) (ad := ad) rK0) dX9_ruleOf_57 ?_
      refine k_getN C hH fn_X9_128 (oS (f := 0) (by decide)) (k_ref (M := M) (ad := ad) (rS1 (f := 0) (by decide))) dX9_ruleOf_60 ?_
      refine lv_iload_n hx hb dX9_ruleOf_63 rfl (lv_at hl 1 rfl) ?_
      refine kg_io C hH (kc_V C hH w_4_129 lc_yX6_head li_yX6_head (oR (f := 0) (by decide)) (kX6_head l E ad M 0 (by decide) a1) (As := [.int a1]) rfl dX9_ruleOf_64 rfl hl.1 (Nat.le_of_ble_eq_true rfl) ⟨Nat.le_of_ble_eq_true rfl, Nat.le_of_ble_eq_true rfl⟩ ⟨Nat.le_of_ble_eq_true rfl, Nat.le_of_ble_eq_true rfl⟩) ⟨rfl, rfl⟩ (fun v1 H locs hH => ?_)
      exact xe rfl (ke_i C hH hr (Nat.zero_le _) (Nat.zero_le _) rfl dX9_ruleOf_67)
    · refine W_ite (fun hs1 => ?_) (fun hs1 => ?_)
      · refine lv_tableIn (tgt := 68) hx hb dX9_ruleOf_25 (by rw [hs1]; decide) (by rw [hs1]; decide) (by rw [hs1]; rfl) (by decide) ?_
        refine lv_aload_n hx hb dX9_ruleOf_68 rfl (lv_at hl 0 rfl) ?_
        refine k_get C hH fd_X9_10 oK (k_ref (M := M) (ad := ad) rK0) dX9_ruleOf_69 ?_
        refine k_getN C hH fn_X9_128 (oS (f := 0) (by decide)) (k_ref (M := M) (ad := ad) (rS1 (f := 0) (by decide))) dX9_ruleOf_72 ?_
        refine lv_iload_n hx hb dX9_ruleOf_75 rfl (lv_at hl 1 rfl) ?_
        refine kg_io C hH (kc_V C hH w_4_130 lc_yX6_conditionsOf li_yX6_conditionsOf (oR (f := 0) (by decide)) (kX6_conditionsOf l E ad M 0 (by decide) a1) (As := [.int a1]) rfl dX9_ruleOf_76 rfl hl.1 (Nat.le_of_ble_eq_true rfl) ⟨Nat.le_of_ble_eq_true rfl, Nat.le_of_ble_eq_true rfl⟩ ⟨Nat.le_of_ble_eq_true rfl, Nat.le_of_ble_eq_true rfl⟩) ⟨rfl, rfl⟩ (fun v2 H locs hH => ?_)
        exact xe rfl (ke_i C hH hr (Nat.zero_le _) (Nat.zero_le _) rfl dX9_ruleOf_79)
      · refine W_ite (fun hs2 => ?_) (fun hs2 => ?_)
        · refine lv_tableIn (tgt := 80) hx hb dX9_ruleOf_25 (by rw [hs2]; decide) (by rw [hs2]; decide) (by rw [hs2]; rfl) (by decide) ?_
          refine lv_aload_n hx hb dX9_ruleOf_80 rfl (lv_at hl 0 rfl) ?_
          refine k_get C hH fd_X9_29 oK (k_ref (M := M) (ad := ad) rK3) dX9_ruleOf_81 ?_
          refine lv_aload_n hx hb dX9_ruleOf_84 rfl (lv_at hl 0 rfl) ?_
          refine k_get C hH fd_X9_10 oK (k_ref (M := M) (ad := ad) rK0) dX9_ruleOf_85 ?_
          refine kg_r C hH (kc_V C hH w_2_27 lc_yX1_settled li_yX1_settled oD (kX1_settled l E ad M 0 (by decide)) (As := [.ref (ad (iS 0))]) rfl dX9_ruleOf_88 rfl hl.1 (Nat.le_of_ble_eq_true rfl) ⟨Nat.le_of_ble_eq_true rfl, Nat.le_of_ble_eq_true rfl⟩ ⟨Nat.le_of_ble_eq_true rfl, Nat.le_of_ble_eq_true rfl⟩) ⟨rfl, rfl⟩ (fun M3 H locs hH => ?_)
          refine lv_iload_n hx hb dX9_ruleOf_91 rfl (lv_at hl 1 rfl) ?_
          refine kg_io C hH (kc_V C hH w_4_134 lc_yX1_derivationsWith li_yX1_derivationsWith oD (kX1_derivationsWith l E ad M3 a1) (As := [.int a1]) rfl dX9_ruleOf_92 rfl hl.1 (Nat.le_of_ble_eq_true rfl) ⟨Nat.le_of_ble_eq_true rfl, Nat.le_of_ble_eq_true rfl⟩ ⟨Nat.le_of_ble_eq_true rfl, Nat.le_of_ble_eq_true rfl⟩) ⟨rfl, rfl⟩ (fun v4 H locs hH => ?_)
          exact xe rfl (ke_i C hH hr (Nat.zero_le _) (Nat.zero_le _) rfl dX9_ruleOf_95)
        · refine W_ite (fun hs3 => ?_) (fun hs3 => ?_)
          · refine lv_tableIn (tgt := 96) hx hb dX9_ruleOf_25 (by rw [hs3]; decide) (by rw [hs3]; decide) (by rw [hs3]; rfl) (by decide) ?_
            refine lv_aload_n hx hb dX9_ruleOf_96 rfl (lv_at hl 0 rfl) ?_
            refine k_get C hH fd_X9_10 oK (k_ref (M := M) (ad := ad) rK0) dX9_ruleOf_97 ?_
            refine k_getN C hH fn_X9_128 (oS (f := 0) (by decide)) (k_ref (M := M) (ad := ad) (rS1 (f := 0) (by decide))) dX9_ruleOf_100 ?_
            refine lv_iload_n hx hb dX9_ruleOf_103 rfl (lv_at hl 1 rfl) ?_
            refine lv_aload_n hx hb dX9_ruleOf_104 rfl (lv_at hl 0 rfl) ?_
            refine kg_r C hH (kc_V C hH w_3_124 lc_yX9_held li_yX9_held oK (kX9_held l E ad M) (As := []) rfl dX9_ruleOf_105 rfl hl.1 (Nat.le_of_ble_eq_true rfl) ⟨Nat.le_of_ble_eq_true rfl, Nat.le_of_ble_eq_true rfl⟩ ⟨Nat.le_of_ble_eq_true rfl, Nat.le_of_ble_eq_true rfl⟩) ⟨rfl, rfl⟩ (fun M5 H locs hH => ?_)
            refine kg_io C hH (kc_V C hH w_4_138 lc_yX6_makes li_yX6_makes (oR (f := 0) (by decide)) (kX6_makes l E ad M5 0 (by decide) a1 11 (by decide)) (As := [.int a1, .ref (ad (iF 11))]) rfl dX9_ruleOf_108 rfl hl.1 (Nat.le_of_ble_eq_true rfl) ⟨Nat.le_of_ble_eq_true rfl, Nat.le_of_ble_eq_true rfl⟩ ⟨Nat.le_of_ble_eq_true rfl, Nat.le_of_ble_eq_true rfl⟩) ⟨rfl, rfl⟩ (fun v6 H locs hH => ?_)
            exact xe rfl (ke_i C hH hr (Nat.zero_le _) (Nat.zero_le _) rfl dX9_ruleOf_111)
          · refine lv_tableOut (tgt := 112) hx hb dX9_ruleOf_25 (k_tab4 hs0 hs1 hs2 hs3) (by decide) ?_
            exact xt C hl9 hX9 h09 hH xk_0 (is := 254) (text := "no such number of a rule") (List.mem_of_getElem? (i := 11) rfl) hl.1 rfl dX9_ruleOf_112 dX9_ruleOf_115 dX9_ruleOf_116 dX9_ruleOf_118 dX9_ruleOf_121 ⟨by decide, by decide, by decide, by decide⟩
  · exact xt C hl9 hX9 h09 hH xk_3 (is := 237) (text := "no such rule") (List.mem_of_getElem? (i := 10) rfl) hl.1 rfl dX9_ruleOf_14 dX9_ruleOf_17 dX9_ruleOf_18 dX9_ruleOf_20 dX9_ruleOf_23 ⟨by decide, by decide, by decide, by decide⟩
def fX9_condition (M : KS) (a1 : Int32) (a2 : Int32) : Option (Sum (Nat × KS) (Int32 × KS)) := (if (fX6_has M 0 a1) = 0 then some (.inl (3, M)) else (fX6_code M 0 a1 a2).bind fun v1 => (if v1 = 0 then some (.inl (2, M)) else some (.inr (v1, M))))
set_option maxHeartbeats 4000000 in
set_option maxRecDepth 100000 in
theorem kX9_condition (l : Launch) (hl9 : l.stackTraces = false) (E : KE) (ad : Nat → Nat) (M : KS) (a1 : Int32) (a2 : Int32) : CX l yX9_condition cX9_condition 4 (some .int) { frames := 6, cells := 1, slots := 6, locals := 82 } SK E ad [.ref (ad 121), .int a1, .int a2] M (QI SK E ad) (fX9_condition M a1 a2) := by
  refine CX.ofW (by decide) (Nat.le_of_ble_eq_true rfl) (fun sz p e s m args below meth c C hX9 h09 hr hH ls hl => ?_)
  have hx := C.1.1
  have hb := C.1.2.1
  have hl : lv_has ls 4 [(0, .ref (ad 121)), (1, .int a1), (2, .int a2)] := hl
  unfold fX9_condition
  refine lv_aload_n hx hb dX9_condition_0 rfl (lv_at hl 0 rfl) ?_
  refine k_get C hH fd_X9_10 oK (k_ref (M := M) (ad := ad) rK0) dX9_condition_1 ?_
  refine k_getN C hH fn_X9_128 (oS (f := 0) (by decide)) (k_ref (M := M) (ad := ad) (rS1 (f := 0) (by decide))) dX9_condition_4 ?_
  refine lv_iload_n hx hb dX9_condition_7 rfl (lv_at hl 1 rfl) ?_
  refine kg_ip C hH (kc_V C hH w_4_108 lc_yX6_has li_yX6_has (oR (f := 0) (by decide)) (kX6_has l E ad M 0 (by decide) a1) (As := [.int a1]) rfl dX9_condition_8 rfl hl.1 (Nat.le_of_ble_eq_true rfl) ⟨Nat.le_of_ble_eq_true rfl, Nat.le_of_ble_eq_true rfl⟩ ⟨Nat.le_of_ble_eq_true rfl, Nat.le_of_ble_eq_true rfl⟩) ⟨rfl, rfl⟩ (fun H locs hH => ?_)
  refine kb_if_ne (tgt := 24) hx hb dX9_condition_11 (by decide) (fun _ => ?_) (fun _ => ?_)
  · refine lv_aload_n hx hb dX9_condition_24 rfl (lv_at hl 0 rfl) ?_
    refine k_get C hH fd_X9_10 oK (k_ref (M := M) (ad := ad) rK0) dX9_condition_25 ?_
    refine k_getN C hH fn_X9_128 (oS (f := 0) (by decide)) (k_ref (M := M) (ad := ad) (rS1 (f := 0) (by decide))) dX9_condition_28 ?_
    refine lv_iload_n hx hb dX9_condition_31 rfl (lv_at hl 1 rfl) ?_
    refine lv_iload_n hx hb dX9_condition_32 rfl (lv_at hl 2 rfl) ?_
    refine kg_io C hH (kc_V C hH w_4_150 lc_yX6_code li_yX6_code (oR (f := 0) (by decide)) (kX6_code l E ad M 0 (by decide) a1 a2) (As := [.int a1, .int a2]) rfl dX9_condition_33 rfl hl.1 (Nat.le_of_ble_eq_true rfl) ⟨Nat.le_of_ble_eq_true rfl, Nat.le_of_ble_eq_true rfl⟩ ⟨Nat.le_of_ble_eq_true rfl, Nat.le_of_ble_eq_true rfl⟩) ⟨rfl, rfl⟩ (fun v1 H locs hH => ?_)
    refine lv_istore_n (lv' := [(3, .int v1), (0, .ref (ad 121)), (1, .int a1), (2, .int a2)]) hx hb dX9_condition_36 rfl hl (by decide) rfl (fun ls hl => ?_)
    refine lv_iload_n hx hb dX9_condition_37 rfl (lv_at hl 0 rfl) ?_
    refine kb_if_ne (tgt := 51) hx hb dX9_condition_38 (by decide) (fun _ => ?_) (fun _ => ?_)
    · refine lv_iload_n hx hb dX9_condition_51 rfl (lv_at hl 0 rfl) ?_
      exact xe rfl (ke_i C hH hr (Nat.zero_le _) (Nat.zero_le _) rfl dX9_condition_52)
    · exact xt C hl9 hX9 h09 hH xk_2 (is := 217) (text := "no such place") (List.mem_of_getElem? (i := 7) rfl) hl.1 rfl dX9_condition_41 dX9_condition_44 dX9_condition_45 dX9_condition_47 dX9_condition_50 ⟨by decide, by decide, by decide, by decide⟩
  · exact xt C hl9 hX9 h09 hH xk_3 (is := 237) (text := "no such rule") (List.mem_of_getElem? (i := 10) rfl) hl.1 rfl dX9_condition_14 dX9_condition_17 dX9_condition_18 dX9_condition_20 dX9_condition_23 ⟨by decide, by decide, by decide, by decide⟩
def fX9_wouldLayer (M : KS) (a1 : Int32) (a2 : Int32) (a3 : Int32) (a4 : Int32) : Option (Sum (Nat × KS) (Int32 × KS)) := (if (fX9_isRule a1 a2 a3 a4) = 0 then some (.inl (0, M)) else (fX6_propose M 0 a1 a2 a3 a4).bind fun M1 => bd2 (fX3_arrange M1 2 0 ((M1.1 (iR 0) 3) + 1)) fun v3 M2 => if isB v3 then some (.inr (v3, M2)) else none)
set_option maxHeartbeats 4000000 in
set_option maxRecDepth 100000 in
theorem kX9_wouldLayer (l : Launch) (hl9 : l.stackTraces = false) (E : KE) (ad : Nat → Nat) (M : KS) (a1 : Int32) (a2 : Int32) (a3 : Int32) (a4 : Int32) : CX l yX9_wouldLayer cX9_wouldLayer 5 (some .boolean) { frames := 6, cells := 1, slots := 6, locals := 82 } SK E ad [.ref (ad 121), .int a1, .int a2, .int a3, .int a4] M (QI SK E ad) (fX9_wouldLayer M a1 a2 a3 a4) := by
  refine CX.ofW (by decide) (Nat.le_of_ble_eq_true rfl) (fun sz p e s m args below meth c C hX9 h09 hr hH ls hl => ?_)
  have hx := C.1.1
  have hb := C.1.2.1
  have hl : lv_has ls 5 [(0, .ref (ad 121)), (1, .int a1), (2, .int a2), (3, .int a3), (4, .int a4)] := hl
  unfold fX9_wouldLayer
  refine lv_iload_n hx hb dX9_wouldLayer_0 rfl (lv_at hl 1 rfl) ?_
  refine lv_iload_n hx hb dX9_wouldLayer_1 rfl (lv_at hl 2 rfl) ?_
  refine lv_iload_n hx hb dX9_wouldLayer_2 rfl (lv_at hl 3 rfl) ?_
  refine lv_iload hx hb dX9_wouldLayer_3 (lv_at hl 4 rfl) ?_
  refine kg_ip C hH (kc_S C hH w_4_69 w_st_yX9_isRule rfl lc_yX9_isRule (kX9_isRule l E ad M a1 a2 a3 a4) (As := [.int a1, .int a2, .int a3, .int a4]) rfl dX9_wouldLayer_5 rfl hl.1 (Nat.le_of_ble_eq_true rfl) ⟨Nat.le_of_ble_eq_true rfl, Nat.le_of_ble_eq_true rfl⟩ ⟨Nat.le_of_ble_eq_true rfl, Nat.le_of_ble_eq_true rfl⟩) ⟨rfl, rfl⟩ (fun H locs hH => ?_)
  refine kb_if_ne (tgt := 21) hx hb dX9_wouldLayer_8 (by decide) (fun _ => ?_) (fun _ => ?_)
  · refine lv_aload_n hx hb dX9_wouldLayer_21 rfl (lv_at hl 0 rfl) ?_
    refine k_get C hH fd_X9_10 oK (k_ref (M := M) (ad := ad) rK0) dX9_wouldLayer_22 ?_
    refine k_getN C hH fn_X9_128 (oS (f := 0) (by decide)) (k_ref (M := M) (ad := ad) (rS1 (f := 0) (by decide))) dX9_wouldLayer_25 ?_
    refine lv_iload_n hx hb dX9_wouldLayer_28 rfl (lv_at hl 1 rfl) ?_
    refine lv_iload_n hx hb dX9_wouldLayer_29 rfl (lv_at hl 2 rfl) ?_
    refine lv_iload_n hx hb dX9_wouldLayer_30 rfl (lv_at hl 3 rfl) ?_
    refine lv_iload hx hb dX9_wouldLayer_31 (lv_at hl 4 rfl) ?_
    refine kg_v C hH (kc_V C hH w_4_80 lc_yX6_propose li_yX6_propose (oR (f := 0) (by decide)) (kX6_propose l E ad M 0 (by decide) a1 a2 a3 a4) (As := [.int a1, .int a2, .int a3, .int a4]) rfl dX9_wouldLayer_33 rfl hl.1 (Nat.le_of_ble_eq_true rfl) ⟨Nat.le_of_ble_eq_true rfl, Nat.le_of_ble_eq_true rfl⟩ ⟨Nat.le_of_ble_eq_true rfl, Nat.le_of_ble_eq_true rfl⟩) ⟨rfl, rfl⟩ (fun M1 H locs hH => ?_)
    refine lv_aload_n hx hb dX9_wouldLayer_36 rfl (lv_at hl 0 rfl) ?_
    refine k_get C hH fd_X9_43 oK (k_ref (M := M1) (ad := ad) rK5) dX9_wouldLayer_37 ?_
    refine lv_aload_n hx hb dX9_wouldLayer_40 rfl (lv_at hl 0 rfl) ?_
    refine k_get C hH fd_X9_10 oK (k_ref (M := M1) (ad := ad) rK0) dX9_wouldLayer_41 ?_
    refine k_getN C hH fn_X9_128 (oS (f := 0) (by decide)) (k_ref (M := M1) (ad := ad) (rS1 (f := 0) (by decide))) dX9_wouldLayer_44 ?_
    refine lv_aload_n hx hb dX9_wouldLayer_47 rfl (lv_at hl 0 rfl) ?_
    refine k_get C hH fd_X9_10 oK (k_ref (M := M1) (ad := ad) rK0) dX9_wouldLayer_48 ?_
    refine k_getN C hH fn_X9_128 (oS (f := 0) (by decide)) (k_ref (M := M1) (ad := ad) (rS1 (f := 0) (by decide))) dX9_wouldLayer_51 ?_
    refine k_getN C hH fn_X9_233 (oR (f := 0) (by decide)) (k_int (M := M1) (ad := ad) (nR3 (f := 0) (by decide))) dX9_wouldLayer_54 ?_
    refine lv_iconst (v := 1) hx hb dX9_wouldLayer_57 (by decide) ?_
    refine lv_iadd hx hb dX9_wouldLayer_58 ?_
    refine kg_ib C hH (kc_V C hH w_4_95 lc_yX3_arrange li_yX3_arrange (oY (f := 2) (by decide)) (kX3_arrange l E ad M1 2 (by decide) 0 (by decide) ((M1.1 (iR 0) 3) + 1)) (As := [.ref (ad (iR 0)), .int ((M1.1 (iR 0) 3) + 1)]) rfl dX9_wouldLayer_59 rfl hl.1 (Nat.le_of_ble_eq_true rfl) ⟨Nat.le_of_ble_eq_true rfl, Nat.le_of_ble_eq_true rfl⟩ ⟨Nat.le_of_ble_eq_true rfl, Nat.le_of_ble_eq_true rfl⟩) ⟨rfl, rfl⟩ (fun v3 M2 H locs hH => ?_)
    exact W_if (fun hn9 => xe rfl (ke_z C hH hr (Nat.zero_le _) (Nat.zero_le _) rfl hn9 dX9_wouldLayer_62))
  · exact xt C hl9 hX9 h09 hH xk_0 (is := 226) (text := "no such relation or condition") (List.mem_of_getElem? (i := 8) rfl) hl.1 rfl dX9_wouldLayer_11 dX9_wouldLayer_14 dX9_wouldLayer_15 dX9_wouldLayer_17 dX9_wouldLayer_20 ⟨by decide, by decide, by decide, by decide⟩
def fX9_rounds_J27_13 (M1 : KS) (_ : Unit) : Option (Sum (Nat × KS) (Int32 × KS)) := some (.inl (2, M1))
theorem fX9_rounds_J27_13_u {M1 : KS} {u : Unit} : fX9_rounds_J27_13 M1 u = some (.inl (2, M1)) := rfl
def fX9_rounds (M : KS) (a1 : Int32) : Option (Sum (Nat × KS) (Int32 × KS)) := (fX1_settled M 0).bind fun M1 => jn (fX9_rounds_J27_13 M1) (fun K27_13 => (if a1 < 0 then K27_13 () else (fX3_count M1 0).bind fun v2 => (if a1 < v2 then (fX1_roundsOf M1 a1).bind fun v3 => some (.inr (v3, M1)) else K27_13 ())))
set_option maxHeartbeats 4000000 in
set_option maxRecDepth 100000 in
theorem kX9_rounds (l : Launch) (hl9 : l.stackTraces = false) (E : KE) (ad : Nat → Nat) (M : KS) (a1 : Int32) : CX l yX9_rounds cX9_rounds 3 (some .int) { frames := 6, cells := 1, slots := 6, locals := 135 } SK E ad [.ref (ad 121), .int a1] M (QI SK E ad) (fX9_rounds M a1) := by
  refine CX.ofW (by decide) (Nat.le_of_ble_eq_true rfl) (fun sz p e s m args below meth c C hX9 h09 hr hH ls hl => ?_)
  have hx := C.1.1
  have hb := C.1.2.1
  have hl : lv_has ls 3 [(0, .ref (ad 121)), (1, .int a1)] := hl
  unfold fX9_rounds
  refine lv_aload_n hx hb dX9_rounds_0 rfl (lv_at hl 0 rfl) ?_
  refine k_get C hH fd_X9_29 oK (k_ref (M := M) (ad := ad) rK3) dX9_rounds_1 ?_
  refine lv_aload_n hx hb dX9_rounds_4 rfl (lv_at hl 0 rfl) ?_
  refine k_get C hH fd_X9_10 oK (k_ref (M := M) (ad := ad) rK0) dX9_rounds_5 ?_
  refine kg_r C hH (kc_V C hH w_2_27 lc_yX1_settled li_yX1_settled oD (kX1_settled l E ad M 0 (by decide)) (As := [.ref (ad (iS 0))]) rfl dX9_rounds_8 rfl hl.1 (Nat.le_of_ble_eq_true rfl) ⟨Nat.le_of_ble_eq_true rfl, Nat.le_of_ble_eq_true rfl⟩ ⟨Nat.le_of_ble_eq_true rfl, Nat.le_of_ble_eq_true rfl⟩) ⟨rfl, rfl⟩ (fun M1 H locs hH => ?_)
  refine lv_astore_n (lv' := [(2, .ref (ad 106)), (0, .ref (ad 121)), (1, .int a1)]) hx hb dX9_rounds_11 rfl hl (by decide) rfl (fun ls hl => ?_)
  refine lv_iload_n hx hb dX9_rounds_12 rfl (lv_at hl 2 rfl) ?_
  refine W_jn (fun (x : Unit) H locs => KH SK E ad sz M1 s.heap H locs) (fun x ls => lv_has ls 3 []) (fun x ls => F0 m 27 ls []) ?_ (fun K27_13 hK27_13 => ?_)
  · intro _ H locs ls hH hl
    have hH : KH SK E ad sz M1 s.heap H locs := hH
    have hl : lv_has ls 3 [] := hl
    refine W_q fX9_rounds_J27_13_u ?_
    exact xtw C hl9 hX9 h09 hH xk_2 (is := 269) (text := "no such layer") (List.mem_of_getElem? (i := 12) rfl) hl.1 rfl dX9_rounds_27 dX9_rounds_30 dX9_rounds_31 dX9_rounds_34 dX9_rounds_37 ⟨by decide, by decide, by decide, by decide⟩
  · refine kb_if_lt (tgt := 27) hx hb dX9_rounds_13 (by decide) (fun _ => ?_) (fun _ => ?_)
    · exact hK27_13 () _ _ _ hH (lv_sub hl [] rfl)
    · refine lv_iload_n hx hb dX9_rounds_16 rfl (lv_at hl 2 rfl) ?_
      refine lv_aload_n hx hb dX9_rounds_17 rfl (lv_at hl 0 rfl) ?_
      refine k_getN C hH fn_X9_197 oD (k_ref (M := M1) (ad := ad) rD3) dX9_rounds_18 ?_
      refine kg_io C hH (kc_V C hH w_2_149 lc_yX3_count li_yX3_count (oY (f := 0) (by decide)) (kX3_count l E ad M1 0 (by decide)) (As := []) rfl dX9_rounds_21 rfl hl.1 (Nat.le_of_ble_eq_true rfl) ⟨Nat.le_of_ble_eq_true rfl, Nat.le_of_ble_eq_true rfl⟩ ⟨Nat.le_of_ble_eq_true rfl, Nat.le_of_ble_eq_true rfl⟩) ⟨rfl, rfl⟩ (fun v2 H locs hH => ?_)
      refine kb_icmp_lt (tgt := 38) hx hb dX9_rounds_24 (by decide) (fun _ => ?_) (fun _ => ?_)
      · refine lv_aload_n hx hb dX9_rounds_38 rfl (lv_at hl 0 rfl) ?_
        refine lv_iload_n hx hb dX9_rounds_39 rfl (lv_at hl 2 rfl) ?_
        refine kg_io C hH (kc_V C hH w_4_166 lc_yX1_roundsOf li_yX1_roundsOf oD (kX1_roundsOf l E ad M1 a1) (As := [.int a1]) rfl dX9_rounds_40 rfl hl.1 (Nat.le_of_ble_eq_true rfl) ⟨Nat.le_of_ble_eq_true rfl, Nat.le_of_ble_eq_true rfl⟩ ⟨Nat.le_of_ble_eq_true rfl, Nat.le_of_ble_eq_true rfl⟩) ⟨rfl, rfl⟩ (fun v3 H locs hH => ?_)
        exact xe rfl (ke_i C hH hr (Nat.zero_le _) (Nat.zero_le _) rfl dX9_rounds_43)
      · exact hK27_13 () _ _ _ hH (lv_sub hl [] rfl)
def fX9_fresh_J27_13 (M1 : KS) (_ : Unit) : Option (Sum (Nat × KS) (Int32 × KS)) := some (.inl (2, M1))
theorem fX9_fresh_J27_13_u {M1 : KS} {u : Unit} : fX9_fresh_J27_13 M1 u = some (.inl (2, M1)) := rfl
def fX9_fresh_J52_40 (M1 : KS) (_ : Unit) : Option (Sum (Nat × KS) (Int32 × KS)) := some (.inl (2, M1))
theorem fX9_fresh_J52_40_u {M1 : KS} {u : Unit} : fX9_fresh_J52_40 M1 u = some (.inl (2, M1)) := rfl
def fX9_fresh (M : KS) (a1 : Int32) (a2 : Int32) : Option (Sum (Nat × KS) (Int32 × KS)) := (fX1_settled M 0).bind fun M1 => jn (fX9_fresh_J27_13 M1) (fun K27_13 => (if a1 < 0 then K27_13 () else (fX3_count M1 0).bind fun v2 => (if a1 < v2 then jn (fX9_fresh_J52_40 M1) (fun K52_40 => (if a2 < 1 then K52_40 () else (fX1_roundsOf M1 a1).bind fun v3 => (if a2 ≤ v3 then (fX1_freshIn M1 a1 a2).bind fun v4 => some (.inr (v4, M1)) else K52_40 ()))) else K27_13 ())))
set_option maxHeartbeats 4000000 in
set_option maxRecDepth 100000 in
theorem kX9_fresh (l : Launch) (hl9 : l.stackTraces = false) (E : KE) (ad : Nat → Nat) (M : KS) (a1 : Int32) (a2 : Int32) : CX l yX9_fresh cX9_fresh 4 (some .int) { frames := 6, cells := 1, slots := 6, locals := 135 } SK E ad [.ref (ad 121), .int a1, .int a2] M (QI SK E ad) (fX9_fresh M a1 a2) := by
  refine CX.ofW (by decide) (Nat.le_of_ble_eq_true rfl) (fun sz p e s m args below meth c C hX9 h09 hr hH ls hl => ?_)
  have hx := C.1.1
  have hb := C.1.2.1
  have hl : lv_has ls 4 [(0, .ref (ad 121)), (1, .int a1), (2, .int a2)] := hl
  unfold fX9_fresh
  refine lv_aload_n hx hb dX9_fresh_0 rfl (lv_at hl 0 rfl) ?_
  refine k_get C hH fd_X9_29 oK (k_ref (M := M) (ad := ad) rK3) dX9_fresh_1 ?_
  refine lv_aload_n hx hb dX9_fresh_4 rfl (lv_at hl 0 rfl) ?_
  refine k_get C hH fd_X9_10 oK (k_ref (M := M) (ad := ad) rK0) dX9_fresh_5 ?_
  refine kg_r C hH (kc_V C hH w_2_27 lc_yX1_settled li_yX1_settled oD (kX1_settled l E ad M 0 (by decide)) (As := [.ref (ad (iS 0))]) rfl dX9_fresh_8 rfl hl.1 (Nat.le_of_ble_eq_true rfl) ⟨Nat.le_of_ble_eq_true rfl, Nat.le_of_ble_eq_true rfl⟩ ⟨Nat.le_of_ble_eq_true rfl, Nat.le_of_ble_eq_true rfl⟩) ⟨rfl, rfl⟩ (fun M1 H locs hH => ?_)
  refine lv_astore_n (lv' := [(3, .ref (ad 106)), (0, .ref (ad 121)), (1, .int a1), (2, .int a2)]) hx hb dX9_fresh_11 rfl hl (by decide) rfl (fun ls hl => ?_)
  refine lv_iload_n hx hb dX9_fresh_12 rfl (lv_at hl 2 rfl) ?_
  refine W_jn (fun (x : Unit) H locs => KH SK E ad sz M1 s.heap H locs) (fun x ls => lv_has ls 4 []) (fun x ls => F0 m 27 ls []) ?_ (fun K27_13 hK27_13 => ?_)
  · intro _ H locs ls hH hl
    have hH : KH SK E ad sz M1 s.heap H locs := hH
    have hl : lv_has ls 4 [] := hl
    refine W_q fX9_fresh_J27_13_u ?_
    exact xtw C hl9 hX9 h09 hH xk_2 (is := 269) (text := "no such layer") (List.mem_of_getElem? (i := 12) rfl) hl.1 rfl dX9_fresh_27 dX9_fresh_30 dX9_fresh_31 dX9_fresh_34 dX9_fresh_37 ⟨by decide, by decide, by decide, by decide⟩
  · refine kb_if_lt (tgt := 27) hx hb dX9_fresh_13 (by decide) (fun _ => ?_) (fun _ => ?_)
    · exact hK27_13 () _ _ _ hH (lv_sub hl [] rfl)
    · refine lv_iload_n hx hb dX9_fresh_16 rfl (lv_at hl 2 rfl) ?_
      refine lv_aload_n hx hb dX9_fresh_17 rfl (lv_at hl 0 rfl) ?_
      refine k_getN C hH fn_X9_197 oD (k_ref (M := M1) (ad := ad) rD3) dX9_fresh_18 ?_
      refine kg_io C hH (kc_V C hH w_2_149 lc_yX3_count li_yX3_count (oY (f := 0) (by decide)) (kX3_count l E ad M1 0 (by decide)) (As := []) rfl dX9_fresh_21 rfl hl.1 (Nat.le_of_ble_eq_true rfl) ⟨Nat.le_of_ble_eq_true rfl, Nat.le_of_ble_eq_true rfl⟩ ⟨Nat.le_of_ble_eq_true rfl, Nat.le_of_ble_eq_true rfl⟩) ⟨rfl, rfl⟩ (fun v2 H locs hH => ?_)
      refine kb_icmp_lt (tgt := 38) hx hb dX9_fresh_24 (by decide) (fun _ => ?_) (fun _ => ?_)
      · refine lv_iload_n hx hb dX9_fresh_38 rfl (lv_at hl 3 rfl) ?_
        refine lv_iconst (v := 1) hx hb dX9_fresh_39 (by decide) ?_
        refine W_jn (fun (x : Unit) H locs => KH SK E ad sz M1 s.heap H locs) (fun x ls => lv_has ls 4 []) (fun x ls => F0 m 52 ls []) ?_ (fun K52_40 hK52_40 => ?_)
        · intro _ H locs ls hH hl
          have hH : KH SK E ad sz M1 s.heap H locs := hH
          have hl : lv_has ls 4 [] := hl
          refine W_q fX9_fresh_J52_40_u ?_
          exact xtw C hl9 hX9 h09 hH xk_2 (is := 274) (text := "no such round") (List.mem_of_getElem? (i := 13) rfl) hl.1 rfl dX9_fresh_52 dX9_fresh_55 dX9_fresh_56 dX9_fresh_59 dX9_fresh_62 ⟨by decide, by decide, by decide, by decide⟩
        · refine kb_icmp_lt (tgt := 52) hx hb dX9_fresh_40 (by decide) (fun _ => ?_) (fun _ => ?_)
          · exact hK52_40 () _ _ _ hH (lv_sub hl [] rfl)
          · refine lv_iload_n hx hb dX9_fresh_43 rfl (lv_at hl 3 rfl) ?_
            refine lv_aload_n hx hb dX9_fresh_44 rfl (lv_at hl 0 rfl) ?_
            refine lv_iload_n hx hb dX9_fresh_45 rfl (lv_at hl 2 rfl) ?_
            refine kg_io C hH (kc_V C hH w_4_166 lc_yX1_roundsOf li_yX1_roundsOf oD (kX1_roundsOf l E ad M1 a1) (As := [.int a1]) rfl dX9_fresh_46 rfl hl.1 (Nat.le_of_ble_eq_true rfl) ⟨Nat.le_of_ble_eq_true rfl, Nat.le_of_ble_eq_true rfl⟩ ⟨Nat.le_of_ble_eq_true rfl, Nat.le_of_ble_eq_true rfl⟩) ⟨rfl, rfl⟩ (fun v3 H locs hH => ?_)
            refine kb_icmp_le (tgt := 63) hx hb dX9_fresh_49 (by decide) (fun _ => ?_) (fun _ => ?_)
            · refine lv_aload_n hx hb dX9_fresh_63 rfl (lv_at hl 0 rfl) ?_
              refine lv_iload_n hx hb dX9_fresh_64 rfl (lv_at hl 2 rfl) ?_
              refine lv_iload_n hx hb dX9_fresh_65 rfl (lv_at hl 3 rfl) ?_
              refine kg_io C hH (kc_V C hH w_4_179 lc_yX1_freshIn li_yX1_freshIn oD (kX1_freshIn l E ad M1 a1 a2) (As := [.int a1, .int a2]) rfl dX9_fresh_66 rfl hl.1 (Nat.le_of_ble_eq_true rfl) ⟨Nat.le_of_ble_eq_true rfl, Nat.le_of_ble_eq_true rfl⟩ ⟨Nat.le_of_ble_eq_true rfl, Nat.le_of_ble_eq_true rfl⟩) ⟨rfl, rfl⟩ (fun v4 H locs hH => ?_)
              exact xe rfl (ke_i C hH hr (Nat.zero_le _) (Nat.zero_le _) rfl dX9_fresh_69)
            · exact hK52_40 () _ _ _ hH (lv_sub hl [] rfl)
      · exact hK27_13 () _ _ _ hH (lv_sub hl [] rfl)
def fX9_line (M : KS) (a1 : Int32) (a2 : Int32) (a3 : Int32) : Option (Sum (Nat × KS) (Int32 × KS)) := (if (fX9_isFact a1 a2 a3) = 0 then some (.inl (0, M)) else nm ((fX9_numberOf a1 a2 a3)) fun v1 => (fX9_held M).bind fun M2 => (fX2_has M2 11 v1).bind fun v3 => (if v3 = 0 then some (.inl (2, M2)) else (fX9_writeFact M2 v1).bind fun M4 => some (.inr ((M4.1 119 1), M4))))
set_option maxHeartbeats 4000000 in
set_option maxRecDepth 100000 in
theorem kX9_line (l : Launch) (hl9 : l.stackTraces = false) (E : KE) (ad : Nat → Nat) (M : KS) (a1 : Int32) (a2 : Int32) (a3 : Int32) : CX l yX9_line cX9_line 5 (some .int) { frames := 6, cells := 1, slots := 6, locals := 160 } SK E ad [.ref (ad 121), .int a1, .int a2, .int a3] M (QI SK E ad) (fX9_line M a1 a2 a3) := by
  refine CX.ofW (by decide) (Nat.le_of_ble_eq_true rfl) (fun sz p e s m args below meth c C hX9 h09 hr hH ls hl => ?_)
  have hx := C.1.1
  have hb := C.1.2.1
  have hl : lv_has ls 5 [(0, .ref (ad 121)), (1, .int a1), (2, .int a2), (3, .int a3)] := hl
  unfold fX9_line
  refine lv_iload_n hx hb dX9_line_0 rfl (lv_at hl 1 rfl) ?_
  refine lv_iload_n hx hb dX9_line_1 rfl (lv_at hl 2 rfl) ?_
  refine lv_iload_n hx hb dX9_line_2 rfl (lv_at hl 3 rfl) ?_
  refine kg_ip C hH (kc_S C hH w_2_231 w_st_yX9_isFact rfl lc_yX9_isFact (kX9_isFact l E ad M a1 a2 a3) (As := [.int a1, .int a2, .int a3]) rfl dX9_line_3 rfl hl.1 (Nat.le_of_ble_eq_true rfl) ⟨Nat.le_of_ble_eq_true rfl, Nat.le_of_ble_eq_true rfl⟩ ⟨Nat.le_of_ble_eq_true rfl, Nat.le_of_ble_eq_true rfl⟩) ⟨rfl, rfl⟩ (fun H locs hH => ?_)
  refine kb_if_ne (tgt := 19) hx hb dX9_line_6 (by decide) (fun _ => ?_) (fun _ => ?_)
  · refine lv_iload_n hx hb dX9_line_19 rfl (lv_at hl 1 rfl) ?_
    refine lv_iload_n hx hb dX9_line_20 rfl (lv_at hl 2 rfl) ?_
    refine lv_iload_n hx hb dX9_line_21 rfl (lv_at hl 3 rfl) ?_
    refine kg_ip C hH (kc_S C hH w_3_81 w_st_yX9_numberOf rfl lc_yX9_numberOf (kX9_numberOf l E ad M a1 a2 a3) (As := [.int a1, .int a2, .int a3]) rfl dX9_line_22 rfl hl.1 (Nat.le_of_ble_eq_true rfl) ⟨Nat.le_of_ble_eq_true rfl, Nat.le_of_ble_eq_true rfl⟩ ⟨Nat.le_of_ble_eq_true rfl, Nat.le_of_ble_eq_true rfl⟩) ⟨rfl, rfl⟩ (fun H locs hH => ?_)
    refine W_nmi (fun v1 => ?_)
    refine lv_istore (lv' := [(4, .int v1), (0, .ref (ad 121)), (1, .int a1), (2, .int a2), (3, .int a3)]) hx hb dX9_line_25 hl (by decide) rfl (fun ls hl => ?_)
    refine lv_aload_n hx hb dX9_line_27 rfl (lv_at hl 1 rfl) ?_
    refine kg_r C hH (kc_V C hH w_3_124 lc_yX9_held li_yX9_held oK (kX9_held l E ad M) (As := []) rfl dX9_line_28 rfl hl.1 (Nat.le_of_ble_eq_true rfl) ⟨Nat.le_of_ble_eq_true rfl, Nat.le_of_ble_eq_true rfl⟩ ⟨Nat.le_of_ble_eq_true rfl, Nat.le_of_ble_eq_true rfl⟩) ⟨rfl, rfl⟩ (fun M2 H locs hH => ?_)
    refine lv_iload hx hb dX9_line_31 (lv_at hl 0 rfl) ?_
    refine kg_io C hH (kc_V C hH w_3_86 lc_yX2_has li_yX2_has (oF (f := 11) (by decide)) (kX2_has l E ad M2 11 (by decide) v1) (As := [.int v1]) rfl dX9_line_33 rfl hl.1 (Nat.le_of_ble_eq_true rfl) ⟨Nat.le_of_ble_eq_true rfl, Nat.le_of_ble_eq_true rfl⟩ ⟨Nat.le_of_ble_eq_true rfl, Nat.le_of_ble_eq_true rfl⟩) ⟨rfl, rfl⟩ (fun v3 H locs hH => ?_)
    refine kb_if_ne (tgt := 49) hx hb dX9_line_36 (by decide) (fun _ => ?_) (fun _ => ?_)
    · refine lv_aload_n hx hb dX9_line_49 rfl (lv_at hl 1 rfl) ?_
      refine lv_iload hx hb dX9_line_50 (lv_at hl 0 rfl) ?_
      refine kg_v C hH (kc_V C hH w_4_190 lc_yX9_writeFact li_yX9_writeFact oK (kX9_writeFact l E ad M2 v1) (As := [.int v1]) rfl dX9_line_52 rfl hl.1 (Nat.le_of_ble_eq_true rfl) ⟨Nat.le_of_ble_eq_true rfl, Nat.le_of_ble_eq_true rfl⟩ ⟨Nat.le_of_ble_eq_true rfl, Nat.le_of_ble_eq_true rfl⟩) ⟨rfl, rfl⟩ (fun M4 H locs hH => ?_)
      refine lv_aload_n hx hb dX9_line_55 rfl (lv_at hl 1 rfl) ?_
      refine k_get C hH fd_X9_57 oK (k_ref (M := M4) (ad := ad) rK7) dX9_line_56 ?_
      refine k_getN C hH fn_X9_283 oL (k_int (M := M4) (ad := ad) nL1) dX9_line_59 ?_
      exact xe rfl (ke_i C hH hr (Nat.zero_le _) (Nat.zero_le _) rfl dX9_line_62)
    · exact xt C hl9 hX9 h09 hH xk_2 (is := 145) (text := "the fact does not hold") (List.mem_of_getElem? (i := 3) rfl) hl.1 rfl dX9_line_39 dX9_line_42 dX9_line_43 dX9_line_45 dX9_line_48 ⟨by decide, by decide, by decide, by decide⟩
  · exact xt C hl9 hX9 h09 hH xk_0 (is := 81) (text := "no such relation or person") (List.mem_of_getElem? (i := 0) rfl) hl.1 rfl dX9_line_9 dX9_line_12 dX9_line_13 dX9_line_15 dX9_line_18 ⟨by decide, by decide, by decide, by decide⟩
def fX9_ruleLine_X74 (M8 : KS) : Option (Sum (Nat × KS) (Int32 × KS)) := some (.inr ((M8.1 119 1), M8))
theorem fX9_ruleLine_X74_u {M8 : KS} : fX9_ruleLine_X74 M8 = some (.inr ((M8.1 119 1), M8)) := rfl
def fX9_ruleLine_L74 (a1 : Int32) (v5 : Int32) (rec74 : (Int32 × KS) → Option (Sum (Nat × KS) (Int32 × KS))) (k74 : (KS) → Option (Sum (Nat × KS) (Int32 × KS))) (x : Int32 × KS) : Option (Sum (Nat × KS) (Int32 × KS)) := match x with | (v6, M7) => (if v5 ≤ v6 then k74 M7 else (fX6_code M7 0 a1 v6).bind fun v9 => (fX4_addCondition M7 v9).bind fun M10 => nm (v6 + 1) fun v11 => rec74 (v11, M10))
theorem fX9_ruleLine_L74_u {a1 : Int32} {v5 : Int32} {rec74 : (Int32 × KS) → Option (Sum (Nat × KS) (Int32 × KS))} {k74 : (KS) → Option (Sum (Nat × KS) (Int32 × KS))} {v6 : Int32} {M7 : KS} : fX9_ruleLine_L74 a1 v5 rec74 k74 (v6, M7) = (if v5 ≤ v6 then k74 M7 else (fX6_code M7 0 a1 v6).bind fun v9 => (fX4_addCondition M7 v9).bind fun M10 => nm (v6 + 1) fun v11 => rec74 (v11, M10)) := rfl
def fX9_ruleLine (M : KS) (a1 : Int32) : Option (Sum (Nat × KS) (Int32 × KS)) := (if (fX6_has M 0 a1) = 0 then some (.inl (3, M)) else (fX4_clear M).bind fun M1 => (fX6_head M1 0 a1).bind fun v2 => (fX4_addNumber M1 48 v2).bind fun M3 => (fX4_add M3 61).bind fun M4 => (fX6_conditionsOf M4 0 a1).bind fun v5 => lp (fX9_ruleLine_L74 a1 v5) (fX9_ruleLine_X74) 1000000 (0, M4))
set_option maxHeartbeats 4000000 in
set_option maxRecDepth 100000 in
theorem kX9_ruleLine (l : Launch) (hl9 : l.stackTraces = false) (E : KE) (ad : Nat → Nat) (M : KS) (a1 : Int32) : CX l yX9_ruleLine cX9_ruleLine 4 (some .int) { frames := 6, cells := 1, slots := 6, locals := 82 } SK E ad [.ref (ad 121), .int a1] M (QI SK E ad) (fX9_ruleLine M a1) := by
  refine CX.ofW (by decide) (Nat.le_of_ble_eq_true rfl) (fun sz p e s m args below meth c C hX9 h09 hr hH ls hl => ?_)
  have hx := C.1.1
  have hb := C.1.2.1
  have hl : lv_has ls 4 [(0, .ref (ad 121)), (1, .int a1)] := hl
  unfold fX9_ruleLine
  refine lv_aload_n hx hb dX9_ruleLine_0 rfl (lv_at hl 0 rfl) ?_
  refine k_get C hH fd_X9_10 oK (k_ref (M := M) (ad := ad) rK0) dX9_ruleLine_1 ?_
  refine k_getN C hH fn_X9_128 (oS (f := 0) (by decide)) (k_ref (M := M) (ad := ad) (rS1 (f := 0) (by decide))) dX9_ruleLine_4 ?_
  refine lv_iload_n hx hb dX9_ruleLine_7 rfl (lv_at hl 1 rfl) ?_
  refine kg_ip C hH (kc_V C hH w_4_108 lc_yX6_has li_yX6_has (oR (f := 0) (by decide)) (kX6_has l E ad M 0 (by decide) a1) (As := [.int a1]) rfl dX9_ruleLine_8 rfl hl.1 (Nat.le_of_ble_eq_true rfl) ⟨Nat.le_of_ble_eq_true rfl, Nat.le_of_ble_eq_true rfl⟩ ⟨Nat.le_of_ble_eq_true rfl, Nat.le_of_ble_eq_true rfl⟩) ⟨rfl, rfl⟩ (fun H locs hH => ?_)
  refine kb_if_ne (tgt := 24) hx hb dX9_ruleLine_11 (by decide) (fun _ => ?_) (fun _ => ?_)
  · refine lv_aload_n hx hb dX9_ruleLine_24 rfl (lv_at hl 0 rfl) ?_
    refine k_get C hH fd_X9_57 oK (k_ref (M := M) (ad := ad) rK7) dX9_ruleLine_25 ?_
    refine kg_v C hH (kc_V C hH w_4_194 lc_yX4_clear li_yX4_clear oL (kX4_clear l E ad M) (As := []) rfl dX9_ruleLine_28 rfl hl.1 (Nat.le_of_ble_eq_true rfl) ⟨Nat.le_of_ble_eq_true rfl, Nat.le_of_ble_eq_true rfl⟩ ⟨Nat.le_of_ble_eq_true rfl, Nat.le_of_ble_eq_true rfl⟩) ⟨rfl, rfl⟩ (fun M1 H locs hH => ?_)
    refine lv_aload_n hx hb dX9_ruleLine_31 rfl (lv_at hl 0 rfl) ?_
    refine k_get C hH fd_X9_57 oK (k_ref (M := M1) (ad := ad) rK7) dX9_ruleLine_32 ?_
    refine lv_bipush (v := 48) hx hb dX9_ruleLine_35 (by decide) ?_
    refine lv_aload_n hx hb dX9_ruleLine_37 rfl (lv_at hl 0 rfl) ?_
    refine k_get C hH fd_X9_10 oK (k_ref (M := M1) (ad := ad) rK0) dX9_ruleLine_38 ?_
    refine k_getN C hH fn_X9_128 (oS (f := 0) (by decide)) (k_ref (M := M1) (ad := ad) (rS1 (f := 0) (by decide))) dX9_ruleLine_41 ?_
    refine lv_iload_n hx hb dX9_ruleLine_44 rfl (lv_at hl 1 rfl) ?_
    refine kg_io C hH (kc_V C hH w_4_129 lc_yX6_head li_yX6_head (oR (f := 0) (by decide)) (kX6_head l E ad M1 0 (by decide) a1) (As := [.int a1]) rfl dX9_ruleLine_45 rfl hl.1 (Nat.le_of_ble_eq_true rfl) ⟨Nat.le_of_ble_eq_true rfl, Nat.le_of_ble_eq_true rfl⟩ ⟨Nat.le_of_ble_eq_true rfl, Nat.le_of_ble_eq_true rfl⟩) ⟨rfl, rfl⟩ (fun v2 H locs hH => ?_)
    refine kg_v C hH (kc_V C hH w_4_215 lc_yX4_addNumber li_yX4_addNumber oL (kX4_addNumber l E ad M1 48 v2) (As := [.int 48, .int v2]) rfl dX9_ruleLine_48 rfl hl.1 (Nat.le_of_ble_eq_true rfl) ⟨Nat.le_of_ble_eq_true rfl, Nat.le_of_ble_eq_true rfl⟩ ⟨Nat.le_of_ble_eq_true rfl, Nat.le_of_ble_eq_true rfl⟩) ⟨rfl, rfl⟩ (fun M3 H locs hH => ?_)
    refine lv_aload_n hx hb dX9_ruleLine_51 rfl (lv_at hl 0 rfl) ?_
    refine k_get C hH fd_X9_57 oK (k_ref (M := M3) (ad := ad) rK7) dX9_ruleLine_52 ?_
    refine lv_bipush (v := 61) hx hb dX9_ruleLine_55 (by decide) ?_
    refine kg_v C hH (kc_V C hH w_4_210 lc_yX4_add li_yX4_add oL (kX4_add l E ad M3 61) (As := [.int 61]) rfl dX9_ruleLine_57 rfl hl.1 (Nat.le_of_ble_eq_true rfl) ⟨Nat.le_of_ble_eq_true rfl, Nat.le_of_ble_eq_true rfl⟩ ⟨Nat.le_of_ble_eq_true rfl, Nat.le_of_ble_eq_true rfl⟩) ⟨rfl, rfl⟩ (fun M4 H locs hH => ?_)
    refine lv_aload_n hx hb dX9_ruleLine_60 rfl (lv_at hl 0 rfl) ?_
    refine k_get C hH fd_X9_10 oK (k_ref (M := M4) (ad := ad) rK0) dX9_ruleLine_61 ?_
    refine k_getN C hH fn_X9_128 (oS (f := 0) (by decide)) (k_ref (M := M4) (ad := ad) (rS1 (f := 0) (by decide))) dX9_ruleLine_64 ?_
    refine lv_iload_n hx hb dX9_ruleLine_67 rfl (lv_at hl 1 rfl) ?_
    refine kg_io C hH (kc_V C hH w_4_130 lc_yX6_conditionsOf li_yX6_conditionsOf (oR (f := 0) (by decide)) (kX6_conditionsOf l E ad M4 0 (by decide) a1) (As := [.int a1]) rfl dX9_ruleLine_68 rfl hl.1 (Nat.le_of_ble_eq_true rfl) ⟨Nat.le_of_ble_eq_true rfl, Nat.le_of_ble_eq_true rfl⟩ ⟨Nat.le_of_ble_eq_true rfl, Nat.le_of_ble_eq_true rfl⟩) ⟨rfl, rfl⟩ (fun v5 H locs hH => ?_)
    refine lv_istore_n (lv' := [(2, .int v5), (0, .ref (ad 121)), (1, .int a1)]) hx hb dX9_ruleLine_71 rfl hl (by decide) rfl (fun ls hl => ?_)
    refine lv_iconst (v := 0) hx hb dX9_ruleLine_72 (by decide) ?_
    refine lv_istore_n (lv' := [(3, .int 0), (2, .int v5), (0, .ref (ad 121)), (1, .int a1)]) hx hb dX9_ruleLine_73 rfl hl (by decide) rfl (fun ls hl => ?_)
    refine W_lp (fun (x : Int32 × KS) H locs => KH SK E ad sz x.2 s.heap H locs) (fun x ls => lv_has ls 4 [(2, .int v5), (0, .ref (ad 121)), (1, .int a1), (3, .int x.1)]) (fun _ ls => F0 m 74 ls []) (fun (x : KS) H locs => KH SK E ad sz x s.heap H locs) (fun x ls => lv_has ls 4 [(0, .ref (ad 121))]) (fun _ ls => F0 m 104 ls []) ?_ ?_ hH (lv_sub hl [1, 2, 3, 0] rfl)
    · intro M8 H locs ls hH hl
      have hH : KH SK E ad sz M8 s.heap H locs := hH
      have hl : lv_has ls 4 [(0, .ref (ad 121))] := hl
      refine W_q fX9_ruleLine_X74_u ?_
      refine lv_aload_n hx hb dX9_ruleLine_104 rfl (lv_at hl 0 rfl) ?_
      refine k_get C hH fd_X9_57 oK (k_ref (M := M8) (ad := ad) rK7) dX9_ruleLine_105 ?_
      refine k_getN C hH fn_X9_283 oL (k_int (M := M8) (ad := ad) nL1) dX9_ruleLine_108 ?_
      exact xe rfl (ke_i C hH hr (Nat.zero_le _) (Nat.zero_le _) rfl dX9_ruleLine_111)
    · intro rec74 k74 hrec74 hk74 ⟨v6, M7⟩ H locs ls hH hl
      have hH : KH SK E ad sz M7 s.heap H locs := hH
      have hl : lv_has ls 4 [(2, .int v5), (0, .ref (ad 121)), (1, .int a1), (3, .int v6)] := hl
      refine W_q fX9_ruleLine_L74_u ?_
      refine lv_iload_n hx hb dX9_ruleLine_74 rfl (lv_at hl 3 rfl) ?_
      refine lv_iload_n hx hb dX9_ruleLine_75 rfl (lv_at hl 0 rfl) ?_
      refine kb_icmp_ge (tgt := 104) hx hb dX9_ruleLine_76 (by decide) (fun _ => ?_) (fun _ => ?_)
      · exact hk74 M7 _ _ _ hH (lv_sub hl [1] rfl)
      · refine lv_aload_n hx hb dX9_ruleLine_79 rfl (lv_at hl 1 rfl) ?_
        refine k_get C hH fd_X9_57 oK (k_ref (M := M7) (ad := ad) rK7) dX9_ruleLine_80 ?_
        refine lv_aload_n hx hb dX9_ruleLine_83 rfl (lv_at hl 1 rfl) ?_
        refine k_get C hH fd_X9_10 oK (k_ref (M := M7) (ad := ad) rK0) dX9_ruleLine_84 ?_
        refine k_getN C hH fn_X9_128 (oS (f := 0) (by decide)) (k_ref (M := M7) (ad := ad) (rS1 (f := 0) (by decide))) dX9_ruleLine_87 ?_
        refine lv_iload_n hx hb dX9_ruleLine_90 rfl (lv_at hl 2 rfl) ?_
        refine lv_iload_n hx hb dX9_ruleLine_91 rfl (lv_at hl 3 rfl) ?_
        refine kg_io C hH (kc_V C hH w_4_150 lc_yX6_code li_yX6_code (oR (f := 0) (by decide)) (kX6_code l E ad M7 0 (by decide) a1 v6) (As := [.int a1, .int v6]) rfl dX9_ruleLine_92 rfl hl.1 (Nat.le_of_ble_eq_true rfl) ⟨Nat.le_of_ble_eq_true rfl, Nat.le_of_ble_eq_true rfl⟩ ⟨Nat.le_of_ble_eq_true rfl, Nat.le_of_ble_eq_true rfl⟩) ⟨rfl, rfl⟩ (fun v9 H locs hH => ?_)
        refine kg_v C hH (kc_V C hH w_4_224 lc_yX4_addCondition li_yX4_addCondition oL (kX4_addCondition l E ad M7 v9) (As := [.int v9]) rfl dX9_ruleLine_95 rfl hl.1 (Nat.le_of_ble_eq_true rfl) ⟨Nat.le_of_ble_eq_true rfl, Nat.le_of_ble_eq_true rfl⟩ ⟨Nat.le_of_ble_eq_true rfl, Nat.le_of_ble_eq_true rfl⟩) ⟨rfl, rfl⟩ (fun M10 H locs hH => ?_)
        refine W_nm (fun v11 ev11 => ?_)
        refine lv_iinc (v := v11) (lv' := [(3, .int v11), (2, .int v5), (0, .ref (ad 121)), (1, .int a1)]) hx hb dX9_ruleLine_98 hl (k := 3) rfl (by rw [ev11]; rfl) (by decide) rfl (fun ls hl => ?_)
        refine lv_goto (tgt := 74) hx hb dX9_ruleLine_101 (by decide) ?_
        exact hrec74 (v11, M10) _ _ _ hH (lv_sub hl [1, 2, 3, 0] rfl)
  · exact xt C hl9 hX9 h09 hH xk_3 (is := 237) (text := "no such rule") (List.mem_of_getElem? (i := 10) rfl) hl.1 rfl dX9_ruleLine_14 dX9_ruleLine_17 dX9_ruleLine_18 dX9_ruleLine_20 dX9_ruleLine_23 ⟨by decide, by decide, by decide, by decide⟩
def fX9_character_J21_1 (M : KS) (_ : Unit) : Option (Sum (Nat × KS) (Int32 × KS)) := some (.inl (3, M))
theorem fX9_character_J21_1_u {M : KS} {u : Unit} : fX9_character_J21_1 M u = some (.inl (3, M)) := rfl
def fX9_character (M : KS) (a1 : Int32) : Option (Sum (Nat × KS) (Int32 × KS)) := jn (fX9_character_J21_1 M) (fun K21_1 => (if a1 < 0 then K21_1 () else (if (M.1 119 1) ≤ a1 then K21_1 () else (if a1 < 24 then if inb a1 24 then if isC (M.1 120 a1.toNatClampNeg) then some (.inr ((M.1 120 a1.toNatClampNeg), M)) else none else none else K21_1 ()))))
set_option maxHeartbeats 4000000 in
set_option maxRecDepth 100000 in
theorem kX9_character (l : Launch) (hl9 : l.stackTraces = false) (E : KE) (ad : Nat → Nat) (M : KS) (a1 : Int32) : CX l yX9_character cX9_character 2 (some .char) { frames := 6, cells := 1, slots := 6, locals := 82 } SK E ad [.ref (ad 121), .int a1] M (QI SK E ad) (fX9_character M a1) := by
  refine CX.ofW (by decide) (Nat.le_of_ble_eq_true rfl) (fun sz p e s m args below meth c C hX9 h09 hr hH ls hl => ?_)
  have hx := C.1.1
  have hb := C.1.2.1
  have hl : lv_has ls 2 [(0, .ref (ad 121)), (1, .int a1)] := hl
  unfold fX9_character
  refine lv_iload_n hx hb dX9_character_0 rfl (lv_at hl 1 rfl) ?_
  refine W_jn (fun (x : Unit) H locs => KH SK E ad sz M s.heap H locs) (fun x ls => lv_has ls 2 []) (fun x ls => F0 m 21 ls []) ?_ (fun K21_1 hK21_1 => ?_)
  · intro _ H locs ls hH hl
    have hH : KH SK E ad sz M s.heap H locs := hH
    have hl : lv_has ls 2 [] := hl
    refine W_q fX9_character_J21_1_u ?_
    exact xtw C hl9 hX9 h09 hH xk_3 (is := 300) (text := "no such index") (List.mem_of_getElem? (i := 14) rfl) hl.1 rfl dX9_character_21 dX9_character_24 dX9_character_25 dX9_character_28 dX9_character_31 ⟨by decide, by decide, by decide, by decide⟩
  · refine kb_if_lt (tgt := 21) hx hb dX9_character_1 (by decide) (fun _ => ?_) (fun _ => ?_)
    · exact hK21_1 () _ _ _ hH (lv_sub hl [] rfl)
    · refine lv_iload_n hx hb dX9_character_4 rfl (lv_at hl 1 rfl) ?_
      refine lv_aload_n hx hb dX9_character_5 rfl (lv_at hl 0 rfl) ?_
      refine k_get C hH fd_X9_57 oK (k_ref (M := M) (ad := ad) rK7) dX9_character_6 ?_
      refine k_getN C hH fn_X9_283 oL (k_int (M := M) (ad := ad) nL1) dX9_character_9 ?_
      refine kb_icmp_ge (tgt := 21) hx hb dX9_character_12 (by decide) (fun _ => ?_) (fun _ => ?_)
      · exact hK21_1 () _ _ _ hH (lv_sub hl [] rfl)
      · refine lv_iload_n hx hb dX9_character_15 rfl (lv_at hl 1 rfl) ?_
        refine lv_bipush (v := 24) hx hb dX9_character_16 (by decide) ?_
        refine kb_icmp_lt (tgt := 32) hx hb dX9_character_18 (by decide) (fun _ => ?_) (fun _ => ?_)
        · refine lv_aload_n hx hb dX9_character_32 rfl (lv_at hl 0 rfl) ?_
          refine k_get C hH fd_X9_57 oK (k_ref (M := M) (ad := ad) rK7) dX9_character_33 ?_
          refine k_getN C hH fn_X9_302 oL (k_ref (M := M) (ad := ad) rL0) dX9_character_36 ?_
          refine lv_iload_n hx hb dX9_character_39 rfl (lv_at hl 1 rfl) ?_
          refine k_cald C hH aL0 dX9_character_40 ?_
          exact W_if (fun hn9 => xe rfl (ke_c C hH hr (Nat.zero_le _) (Nat.zero_le _) rfl hn9 dX9_character_41))
        · exact hK21_1 () _ _ _ hH (lv_sub hl [] rfl)
def fX9_append (M : KS) (a1 : Int32) : Option (Sum (Nat × KS) (Int32 × KS)) := bd2 (fX8_add M a1) fun v2 M1 => (if v2 = 0 then some (.inl (4, M1)) else some (.inr ((M1.1 115 3), M1)))
set_option maxHeartbeats 4000000 in
set_option maxRecDepth 100000 in
theorem kX9_append (l : Launch) (hl9 : l.stackTraces = false) (E : KE) (ad : Nat → Nat) (M : KS) (a1 : Int32) : CX l yX9_append cX9_append 2 (some .int) { frames := 6, cells := 1, slots := 6, locals := 82 } SK E ad [.ref (ad 121), .int a1] M (QI SK E ad) (fX9_append M a1) := by
  refine CX.ofW (by decide) (Nat.le_of_ble_eq_true rfl) (fun sz p e s m args below meth c C hX9 h09 hr hH ls hl => ?_)
  have hx := C.1.1
  have hb := C.1.2.1
  have hl : lv_has ls 2 [(0, .ref (ad 121)), (1, .int a1)] := hl
  unfold fX9_append
  refine lv_aload_n hx hb dX9_append_0 rfl (lv_at hl 0 rfl) ?_
  refine k_get C hH fd_X9_50 oK (k_ref (M := M) (ad := ad) rK6) dX9_append_1 ?_
  refine lv_iload_n hx hb dX9_append_4 rfl (lv_at hl 1 rfl) ?_
  refine kg_ib C hH (kc_V C hH w_5_7 lc_yX8_add li_yX8_add oT (kX8_add l E ad M a1) (As := [.int a1]) rfl dX9_append_5 rfl hl.1 (Nat.le_of_ble_eq_true rfl) ⟨Nat.le_of_ble_eq_true rfl, Nat.le_of_ble_eq_true rfl⟩ ⟨Nat.le_of_ble_eq_true rfl, Nat.le_of_ble_eq_true rfl⟩) ⟨rfl, rfl⟩ (fun v2 M1 H locs hH => ?_)
  refine kb_if_ne (tgt := 22) hx hb dX9_append_8 (by decide) (fun _ => ?_) (fun _ => ?_)
  · refine lv_aload_n hx hb dX9_append_22 rfl (lv_at hl 0 rfl) ?_
    refine k_get C hH fd_X9_50 oK (k_ref (M := M1) (ad := ad) rK6) dX9_append_23 ?_
    refine k_getN C hH fn_X9_314 oT (k_int (M := M1) (ad := ad) nT3) dX9_append_26 ?_
    exact xe rfl (ke_i C hH hr (Nat.zero_le _) (Nat.zero_le _) rfl dX9_append_29)
  · exact xtw C hl9 hX9 h09 hH xk_4 (is := 311) (text := "the input is full") (List.mem_of_getElem? (i := 15) rfl) hl.1 rfl dX9_append_11 dX9_append_14 dX9_append_15 dX9_append_18 dX9_append_21 ⟨by decide, by decide, by decide, by decide⟩
def fX9_run_J102_81 (v6 : Int32) (v10 : Int32) (M12 : KS) : Option (Sum (Nat × KS) (Int32 × KS)) := (if v10 = 2 then some (.inl (0, M12)) else (if v10 = 1 then some (.inl (1, M12)) else (fX5_keep M12).bind fun M13 => some (.inr (v6, M13))))
theorem fX9_run_J102_81_u {v6 : Int32} {v10 : Int32} {M12 : KS} : fX9_run_J102_81 v6 v10 M12 = (if v10 = 2 then some (.inl (0, M12)) else (if v10 = 1 then some (.inl (1, M12)) else (fX5_keep M12).bind fun M13 => some (.inr (v6, M13)))) := rfl
def fX9_run_X59 (v6 : Int32) (x : Int32 × KS) : Option (Sum (Nat × KS) (Int32 × KS)) := match x with | (v10, M11) => jn (fX9_run_J102_81 v6 v10) (fun K102_81 => (if v10 = 0 then K102_81 M11 else (fX5_giveBack M11 0).bind fun M14 => (fX1_outdate M14).bind fun M15 => K102_81 M15))
theorem fX9_run_X59_u {v6 : Int32} {v10 : Int32} {M11 : KS} : fX9_run_X59 v6 (v10, M11) = jn (fX9_run_J102_81 v6 v10) (fun K102_81 => (if v10 = 0 then K102_81 M11 else (fX5_giveBack M11 0).bind fun M14 => (fX1_outdate M14).bind fun M15 => K102_81 M15)) := rfl
def fX9_run_L59 (v6 : Int32) (rec59 : (Int32 × Int32 × KS) → Option (Sum (Nat × KS) (Int32 × KS))) (k59 : (Int32 × KS) → Option (Sum (Nat × KS) (Int32 × KS))) (x : Int32 × Int32 × KS) : Option (Sum (Nat × KS) (Int32 × KS)) := match x with | (v7, v8, M9) => (if v6 ≤ v8 then k59 (v7, M9) else (if v7 = 0 then bd2 (fX9_carryOut M9 v8) fun v17 M16 => nm (v8 + 1) fun v18 => rec59 (v17, v18, M16) else k59 (v7, M9)))
theorem fX9_run_L59_u {v6 : Int32} {rec59 : (Int32 × Int32 × KS) → Option (Sum (Nat × KS) (Int32 × KS))} {k59 : (Int32 × KS) → Option (Sum (Nat × KS) (Int32 × KS))} {v7 : Int32} {v8 : Int32} {M9 : KS} : fX9_run_L59 v6 rec59 k59 (v7, v8, M9) = (if v6 ≤ v8 then k59 (v7, M9) else (if v7 = 0 then bd2 (fX9_carryOut M9 v8) fun v17 M16 => nm (v8 + 1) fun v18 => rec59 (v17, v18, M16) else k59 (v7, M9))) := rfl
def fX9_run (M : KS)  : Option (Sum (Nat × KS) (Int32 × KS)) := bd2 (fX8_readOrders M) fun v2 M1 => nm (kset M1 121 9 v2) fun M3 => (fX8_clear M3).bind fun M4 => (if (M4.1 121 9) < 0 then (fX5_mark M4 0).bind fun M5 => nm ((M5.1 115 4)) fun v6 => lp (fX9_run_L59 v6) (fX9_run_X59 v6) 1000000 (0, 0, M5) else some (.inl (0, M4)))
set_option maxHeartbeats 4000000 in
set_option maxRecDepth 100000 in
theorem kX9_run (l : Launch) (hl9 : l.stackTraces = false) (E : KE) (ad : Nat → Nat) (M : KS)  : CX l yX9_run cX9_run 4 (some .int) { frames := 7, cells := 1, slots := 6, locals := 183 } SK E ad [.ref (ad 121)] M (QI SK E ad) (fX9_run M) := by
  refine CX.ofW (by decide) (Nat.le_of_ble_eq_true rfl) (fun sz p e s m args below meth c C hX9 h09 hr hH ls hl => ?_)
  have hx := C.1.1
  have hb := C.1.2.1
  have hl : lv_has ls 4 [(0, .ref (ad 121))] := hl
  unfold fX9_run
  refine lv_aload_n hx hb dX9_run_0 rfl (lv_at hl 0 rfl) ?_
  refine lv_aload_n hx hb dX9_run_1 rfl (lv_at hl 0 rfl) ?_
  refine k_get C hH fd_X9_50 oK (k_ref (M := M) (ad := ad) rK6) dX9_run_2 ?_
  refine kg_ib C hH (kc_V C hH w_5_34 lc_yX8_readOrders li_yX8_readOrders oT (kX8_readOrders l E ad M) (As := []) rfl dX9_run_5 rfl hl.1 (Nat.le_of_ble_eq_true rfl) ⟨Nat.le_of_ble_eq_true rfl, Nat.le_of_ble_eq_true rfl⟩ ⟨Nat.le_of_ble_eq_true rfl, Nat.le_of_ble_eq_true rfl⟩) ⟨rfl, rfl⟩ (fun v2 M1 H locs hH => ?_)
  refine k_put1 C hH fd_X9_65 fw_X9_9 oK nK9 rfl rfl dX9_run_8 (fun M3 H locs hH => ?_)
  refine lv_aload_n hx hb dX9_run_11 rfl (lv_at hl 0 rfl) ?_
  refine k_get C hH fd_X9_50 oK (k_ref (M := M3) (ad := ad) rK6) dX9_run_12 ?_
  refine kg_v C hH (kc_V C hH w_5_81 lc_yX8_clear li_yX8_clear oT (kX8_clear l E ad M3) (As := []) rfl dX9_run_15 rfl hl.1 (Nat.le_of_ble_eq_true rfl) ⟨Nat.le_of_ble_eq_true rfl, Nat.le_of_ble_eq_true rfl⟩ ⟨Nat.le_of_ble_eq_true rfl, Nat.le_of_ble_eq_true rfl⟩) ⟨rfl, rfl⟩ (fun M4 H locs hH => ?_)
  refine lv_aload_n hx hb dX9_run_18 rfl (lv_at hl 0 rfl) ?_
  refine k_get C hH fd_X9_65 oK (k_int (M := M4) (ad := ad) nK9) dX9_run_19 ?_
  refine kb_if_lt (tgt := 36) hx hb dX9_run_22 (by decide) (fun _ => ?_) (fun _ => ?_)
  · refine lv_aload_n hx hb dX9_run_36 rfl (lv_at hl 0 rfl) ?_
    refine k_get C hH fd_X9_22 oK (k_ref (M := M4) (ad := ad) rK2) dX9_run_37 ?_
    refine lv_aload_n hx hb dX9_run_40 rfl (lv_at hl 0 rfl) ?_
    refine k_get C hH fd_X9_10 oK (k_ref (M := M4) (ad := ad) rK0) dX9_run_41 ?_
    refine kg_v C hH (kc_V C hH w_3_72 lc_yX5_mark li_yX5_mark oP (kX5_mark l E ad M4 0 (by decide)) (As := [.ref (ad (iS 0))]) rfl dX9_run_44 rfl hl.1 (Nat.le_of_ble_eq_true rfl) ⟨Nat.le_of_ble_eq_true rfl, Nat.le_of_ble_eq_true rfl⟩ ⟨Nat.le_of_ble_eq_true rfl, Nat.le_of_ble_eq_true rfl⟩) ⟨rfl, rfl⟩ (fun M5 H locs hH => ?_)
    refine lv_aload_n hx hb dX9_run_47 rfl (lv_at hl 0 rfl) ?_
    refine k_get C hH fd_X9_50 oK (k_ref (M := M5) (ad := ad) rK6) dX9_run_48 ?_
    refine k_getN C hH fn_X9_321 oT (k_int (M := M5) (ad := ad) nT4) dX9_run_51 ?_
    refine W_nmi (fun v6 => ?_)
    refine lv_istore_n (lv' := [(1, .int v6), (0, .ref (ad 121))]) hx hb dX9_run_54 rfl hl (by decide) rfl (fun ls hl => ?_)
    refine lv_iconst (v := 0) hx hb dX9_run_55 (by decide) ?_
    refine lv_istore_n (lv' := [(2, .int 0), (1, .int v6), (0, .ref (ad 121))]) hx hb dX9_run_56 rfl hl (by decide) rfl (fun ls hl => ?_)
    refine lv_iconst (v := 0) hx hb dX9_run_57 (by decide) ?_
    refine lv_istore_n (lv' := [(3, .int 0), (2, .int 0), (1, .int v6), (0, .ref (ad 121))]) hx hb dX9_run_58 rfl hl (by decide) rfl (fun ls hl => ?_)
    refine W_lp (fun (x : Int32 × Int32 × KS) H locs => KH SK E ad sz x.2.2 s.heap H locs) (fun x ls => lv_has ls 4 [(1, .int v6), (0, .ref (ad 121)), (2, .int x.1), (3, .int x.2.1)]) (fun _ ls => F0 m 59 ls []) (fun (x : Int32 × KS) H locs => KH SK E ad sz x.2 s.heap H locs) (fun x ls => lv_has ls 4 [(1, .int v6), (0, .ref (ad 121)), (2, .int x.1)]) (fun _ ls => F0 m 80 ls []) ?_ ?_ hH (lv_sub hl [2, 3, 1, 0] rfl)
    · intro ⟨v10, M11⟩ H locs ls hH hl
      have hH : KH SK E ad sz M11 s.heap H locs := hH
      have hl : lv_has ls 4 [(1, .int v6), (0, .ref (ad 121)), (2, .int v10)] := hl
      refine W_q fX9_run_X59_u ?_
      refine lv_iload_n hx hb dX9_run_80 rfl (lv_at hl 2 rfl) ?_
      refine W_jn (fun (x : KS) H locs => KH SK E ad sz x s.heap H locs) (fun x ls => lv_has ls 4 [(1, .int v6), (0, .ref (ad 121)), (2, .int v10)]) (fun x ls => F0 m 102 ls []) ?_ (fun K102_81 hK102_81 => ?_)
      · intro M12 H locs ls hH hl
        have hH : KH SK E ad sz M12 s.heap H locs := hH
        have hl : lv_has ls 4 [(1, .int v6), (0, .ref (ad 121)), (2, .int v10)] := hl
        refine W_q fX9_run_J102_81_u ?_
        refine lv_iload_n hx hb dX9_run_102 rfl (lv_at hl 2 rfl) ?_
        refine lv_iconst (v := 2) hx hb dX9_run_103 (by decide) ?_
        refine kb_icmp_ne (tgt := 118) hx hb dX9_run_104 (by decide) (fun _ => ?_) (fun _ => ?_)
        · refine lv_iload_n hx hb dX9_run_118 rfl (lv_at hl 2 rfl) ?_
          refine lv_iconst (v := 1) hx hb dX9_run_119 (by decide) ?_
          refine kb_icmp_ne (tgt := 134) hx hb dX9_run_120 (by decide) (fun _ => ?_) (fun _ => ?_)
          · refine lv_aload_n hx hb dX9_run_134 rfl (lv_at hl 1 rfl) ?_
            refine k_get C hH fd_X9_22 oK (k_ref (M := M12) (ad := ad) rK2) dX9_run_135 ?_
            refine kg_v C hH (kc_V C hH w_3_117 lc_yX5_keep li_yX5_keep oP (kX5_keep l E ad M12) (As := []) rfl dX9_run_138 rfl hl.1 (Nat.le_of_ble_eq_true rfl) ⟨Nat.le_of_ble_eq_true rfl, Nat.le_of_ble_eq_true rfl⟩ ⟨Nat.le_of_ble_eq_true rfl, Nat.le_of_ble_eq_true rfl⟩) ⟨rfl, rfl⟩ (fun M13 H locs hH => ?_)
            refine lv_iload_n hx hb dX9_run_141 rfl (lv_at hl 0 rfl) ?_
            exact xe rfl (ke_i C hH hr (Nat.zero_le _) (Nat.zero_le _) rfl dX9_run_142)
          · exact xtw C hl9 hX9 h09 hH xk_1 (is := 335) (text := "an order is refused") (List.mem_of_getElem? (i := 18) rfl) hl.1 rfl dX9_run_123 dX9_run_126 dX9_run_127 dX9_run_130 dX9_run_133 ⟨by decide, by decide, by decide, by decide⟩
        · exact xtw C hl9 hX9 h09 hH xk_0 (is := 333) (text := "there is no such rule") (List.mem_of_getElem? (i := 17) rfl) hl.1 rfl dX9_run_107 dX9_run_110 dX9_run_111 dX9_run_114 dX9_run_117 ⟨by decide, by decide, by decide, by decide⟩
      · refine kb_if_eq (tgt := 102) hx hb dX9_run_81 (by decide) (fun _ => ?_) (fun _ => ?_)
        · exact hK102_81 M11 _ _ _ hH (lv_sub hl [0, 1, 2] rfl)
        · refine lv_aload_n hx hb dX9_run_84 rfl (lv_at hl 1 rfl) ?_
          refine k_get C hH fd_X9_22 oK (k_ref (M := M11) (ad := ad) rK2) dX9_run_85 ?_
          refine lv_aload_n hx hb dX9_run_88 rfl (lv_at hl 1 rfl) ?_
          refine k_get C hH fd_X9_10 oK (k_ref (M := M11) (ad := ad) rK0) dX9_run_89 ?_
          refine kg_v C hH (kc_V C hH w_5_98 lc_yX5_giveBack li_yX5_giveBack oP (kX5_giveBack l E ad M11 0 (by decide)) (As := [.ref (ad (iS 0))]) rfl dX9_run_92 rfl hl.1 (Nat.le_of_ble_eq_true rfl) ⟨Nat.le_of_ble_eq_true rfl, Nat.le_of_ble_eq_true rfl⟩ ⟨Nat.le_of_ble_eq_true rfl, Nat.le_of_ble_eq_true rfl⟩) ⟨rfl, rfl⟩ (fun M14 H locs hH => ?_)
          refine lv_aload_n hx hb dX9_run_95 rfl (lv_at hl 1 rfl) ?_
          refine k_get C hH fd_X9_29 oK (k_ref (M := M14) (ad := ad) rK3) dX9_run_96 ?_
          refine kg_v C hH (kc_V C hH w_3_97 lc_yX1_outdate li_yX1_outdate oD (kX1_outdate l E ad M14) (As := []) rfl dX9_run_99 rfl hl.1 (Nat.le_of_ble_eq_true rfl) ⟨Nat.le_of_ble_eq_true rfl, Nat.le_of_ble_eq_true rfl⟩ ⟨Nat.le_of_ble_eq_true rfl, Nat.le_of_ble_eq_true rfl⟩) ⟨rfl, rfl⟩ (fun M15 H locs hH => ?_)
          exact hK102_81 M15 _ _ _ hH (lv_sub hl [0, 1, 2] rfl)
    · intro rec59 k59 hrec59 hk59 ⟨v7, v8, M9⟩ H locs ls hH hl
      have hH : KH SK E ad sz M9 s.heap H locs := hH
      have hl : lv_has ls 4 [(1, .int v6), (0, .ref (ad 121)), (2, .int v7), (3, .int v8)] := hl
      refine W_q fX9_run_L59_u ?_
      refine lv_iload_n hx hb dX9_run_59 rfl (lv_at hl 3 rfl) ?_
      refine lv_iload_n hx hb dX9_run_60 rfl (lv_at hl 0 rfl) ?_
      refine kb_icmp_ge (tgt := 80) hx hb dX9_run_61 (by decide) (fun _ => ?_) (fun _ => ?_)
      · exact hk59 (v7, M9) _ _ _ hH (lv_sub hl [0, 1, 2] rfl)
      · refine lv_iload_n hx hb dX9_run_64 rfl (lv_at hl 2 rfl) ?_
        refine kb_if_ne (tgt := 80) hx hb dX9_run_65 (by decide) (fun _ => ?_) (fun _ => ?_)
        · exact hk59 (v7, M9) _ _ _ hH (lv_sub hl [0, 1, 2] rfl)
        · refine lv_aload_n hx hb dX9_run_68 rfl (lv_at hl 1 rfl) ?_
          refine lv_iload_n hx hb dX9_run_69 rfl (lv_at hl 3 rfl) ?_
          refine kg_ib C hH (kc_V C hH w_5_86 lc_yX9_carryOut li_yX9_carryOut oK (kX9_carryOut l E ad M9 v8) (As := [.int v8]) rfl dX9_run_70 rfl hl.1 (Nat.le_of_ble_eq_true rfl) ⟨Nat.le_of_ble_eq_true rfl, Nat.le_of_ble_eq_true rfl⟩ ⟨Nat.le_of_ble_eq_true rfl, Nat.le_of_ble_eq_true rfl⟩) ⟨rfl, rfl⟩ (fun v17 M16 H locs hH => ?_)
          refine lv_istore_n (lv' := [(2, .int v17), (1, .int v6), (0, .ref (ad 121)), (3, .int v8)]) hx hb dX9_run_73 rfl hl (by decide) rfl (fun ls hl => ?_)
          refine W_nm (fun v18 ev18 => ?_)
          refine lv_iinc (v := v18) (lv' := [(3, .int v18), (2, .int v17), (1, .int v6), (0, .ref (ad 121))]) hx hb dX9_run_74 hl (k := 3) rfl (by rw [ev18]; rfl) (by decide) rfl (fun ls hl => ?_)
          refine lv_goto (tgt := 59) hx hb dX9_run_77 (by decide) ?_
          exact hrec59 (v17, v18, M16) _ _ _ hH (lv_sub hl [2, 3, 1, 0] rfl)
  · exact xtw C hl9 hX9 h09 hH xk_0 (is := 319) (text := "the text has an error") (List.mem_of_getElem? (i := 16) rfl) hl.1 rfl dX9_run_25 dX9_run_28 dX9_run_29 dX9_run_32 dX9_run_35 ⟨by decide, by decide, by decide, by decide⟩
def fX9_refusal (M : KS) (a1 : Int32) : Option (Sum (Nat × KS) (Int32 × KS)) := (if (M.1 121 10) = 0 then some (.inl (2, M)) else (if a1 = 0 then some (.inr ((M.1 121 10), M)) else some (.inr ((M.1 121 11), M))))
set_option maxHeartbeats 4000000 in
set_option maxRecDepth 100000 in
theorem kX9_refusal (l : Launch) (hl9 : l.stackTraces = false) (E : KE) (ad : Nat → Nat) (M : KS) (a1 : Int32) : CX l yX9_refusal cX9_refusal 2 (some .int) { frames := 6, cells := 1, slots := 6, locals := 82 } SK E ad [.ref (ad 121), .int a1] M (QI SK E ad) (fX9_refusal M a1) := by
  refine CX.ofW (by decide) (Nat.le_of_ble_eq_true rfl) (fun sz p e s m args below meth c C hX9 h09 hr hH ls hl => ?_)
  have hx := C.1.1
  have hb := C.1.2.1
  have hl : lv_has ls 2 [(0, .ref (ad 121)), (1, .int a1)] := hl
  unfold fX9_refusal
  refine lv_aload_n hx hb dX9_refusal_0 rfl (lv_at hl 0 rfl) ?_
  refine k_get C hH fd_X9_69 oK (k_int (M := M) (ad := ad) nK10) dX9_refusal_1 ?_
  refine kb_if_ne (tgt := 18) hx hb dX9_refusal_4 (by decide) (fun _ => ?_) (fun _ => ?_)
  · refine lv_iload_n hx hb dX9_refusal_18 rfl (lv_at hl 1 rfl) ?_
    refine kb_if_eq (tgt := 29) hx hb dX9_refusal_19 (by decide) (fun _ => ?_) (fun _ => ?_)
    · refine lv_aload_n hx hb dX9_refusal_29 rfl (lv_at hl 0 rfl) ?_
      refine k_get C hH fd_X9_69 oK (k_int (M := M) (ad := ad) nK10) dX9_refusal_30 ?_
      exact xe rfl (ke_i C hH hr (Nat.zero_le _) (Nat.zero_le _) rfl dX9_refusal_33)
    · refine lv_aload_n hx hb dX9_refusal_22 rfl (lv_at hl 0 rfl) ?_
      refine k_get C hH fd_X9_72 oK (k_int (M := M) (ad := ad) nK11) dX9_refusal_23 ?_
      refine lv_goto (tgt := 33) hx hb dX9_refusal_26 (by decide) ?_
      exact xe rfl (ke_i C hH hr (Nat.zero_le _) (Nat.zero_le _) rfl dX9_refusal_33)
  · exact xtw C hl9 hX9 h09 hH xk_2 (is := 337) (text := "nothing was refused") (List.mem_of_getElem? (i := 19) rfl) hl.1 rfl dX9_refusal_7 dX9_refusal_10 dX9_refusal_11 dX9_refusal_14 dX9_refusal_17 ⟨by decide, by decide, by decide, by decide⟩
def fX9_account (M : KS) (a1 : Int32) : Option (Sum (Nat × KS) (Int32 × KS)) := (if a1 = 0 then (fX9_held M).bind fun M1 => (fX2_size M1 11).bind fun v2 => some (.inr (v2, M1)) else (if a1 = 1 then (fX2_size M 0).bind fun v3 => some (.inr (v3, M)) else (if a1 = 2 then some (.inr ((M.1 (iR 0) 3), M)) else (if a1 = 3 then (fX1_settled M 0).bind fun M4 => (fX1_allRounds M4).bind fun v5 => some (.inr (v5, M4)) else (if a1 = 4 then (fX1_settled M 0).bind fun M6 => (fX1_greatestStage M6).bind fun v7 => some (.inr (v7, M6)) else (if a1 = 5 then (fX1_settled M 0).bind fun M8 => (fX1_greatestDepth M8).bind fun v9 => some (.inr (v9, M8)) else (if a1 = 6 then (fX1_settled M 0).bind fun M10 => (fX1_greatestSize M10).bind fun v11 => some (.inr (v11, M10)) else (if a1 = 7 then (fX6_negated M 0).bind fun v12 => some (.inr (v12, M)) else (if a1 = 8 then some (.inr ((M.1 115 3), M)) else (if a1 = 9 then some (.inr ((M.1 113 2), M)) else some (.inl (0, M))))))))))))
set_option maxHeartbeats 4000000 in
set_option maxRecDepth 100000 in
theorem kX9_account (l : Launch) (hl9 : l.stackTraces = false) (E : KE) (ad : Nat → Nat) (M : KS) (a1 : Int32) : CX l yX9_account cX9_account 2 (some .int) { frames := 6, cells := 1, slots := 6, locals := 155 } SK E ad [.ref (ad 121), .int a1] M (QI SK E ad) (fX9_account M a1) := by
  refine CX.ofW (by decide) (Nat.le_of_ble_eq_true rfl) (fun sz p e s m args below meth c C hX9 h09 hr hH ls hl => ?_)
  have hx := C.1.1
  have hb := C.1.2.1
  have hl : lv_has ls 2 [(0, .ref (ad 121)), (1, .int a1)] := hl
  unfold fX9_account
  refine lv_iload_n hx hb dX9_account_0 rfl (lv_at hl 1 rfl) ?_
  refine W_ite (fun hs0 => ?_) (fun hs0 => ?_)
  · refine lv_tableIn (tgt := 56) hx hb dX9_account_1 (by rw [hs0]; decide) (by rw [hs0]; decide) (by rw [hs0]; rfl) (by decide) ?_
    refine lv_aload_n hx hb dX9_account_56 rfl (lv_at hl 0 rfl) ?_
    refine kg_r C hH (kc_V C hH w_3_124 lc_yX9_held li_yX9_held oK (kX9_held l E ad M) (As := []) rfl dX9_account_57 rfl hl.1 (Nat.le_of_ble_eq_true rfl) ⟨Nat.le_of_ble_eq_true rfl, Nat.le_of_ble_eq_true rfl⟩ ⟨Nat.le_of_ble_eq_true rfl, Nat.le_of_ble_eq_true rfl⟩) ⟨rfl, rfl⟩ (fun M1 H locs hH => ?_)
    refine kg_io C hH (kc_V C hH w_2_217 lc_yX2_size li_yX2_size (oF (f := 11) (by decide)) (kX2_size l E ad M1 11 (by decide)) (As := []) rfl dX9_account_60 rfl hl.1 (Nat.le_of_ble_eq_true rfl) ⟨Nat.le_of_ble_eq_true rfl, Nat.le_of_ble_eq_true rfl⟩ ⟨Nat.le_of_ble_eq_true rfl, Nat.le_of_ble_eq_true rfl⟩) ⟨rfl, rfl⟩ (fun v2 H locs hH => ?_)
    exact xe rfl (ke_i C hH hr (Nat.zero_le _) (Nat.zero_le _) rfl dX9_account_63)
  · refine W_ite (fun hs1 => ?_) (fun hs1 => ?_)
    · refine lv_tableIn (tgt := 64) hx hb dX9_account_1 (by rw [hs1]; decide) (by rw [hs1]; decide) (by rw [hs1]; rfl) (by decide) ?_
      refine lv_aload_n hx hb dX9_account_64 rfl (lv_at hl 0 rfl) ?_
      refine k_get C hH fd_X9_10 oK (k_ref (M := M) (ad := ad) rK0) dX9_account_65 ?_
      refine k_getN C hH fn_X9_124 (oS (f := 0) (by decide)) (k_ref (M := M) (ad := ad) (rS0 (f := 0) (by decide))) dX9_account_68 ?_
      refine kg_io C hH (kc_V C hH w_2_217 lc_yX2_size li_yX2_size (oF (f := 0) (by decide)) (kX2_size l E ad M 0 (by decide)) (As := []) rfl dX9_account_71 rfl hl.1 (Nat.le_of_ble_eq_true rfl) ⟨Nat.le_of_ble_eq_true rfl, Nat.le_of_ble_eq_true rfl⟩ ⟨Nat.le_of_ble_eq_true rfl, Nat.le_of_ble_eq_true rfl⟩) ⟨rfl, rfl⟩ (fun v3 H locs hH => ?_)
      exact xe rfl (ke_i C hH hr (Nat.zero_le _) (Nat.zero_le _) rfl dX9_account_74)
    · refine W_ite (fun hs2 => ?_) (fun hs2 => ?_)
      · refine lv_tableIn (tgt := 75) hx hb dX9_account_1 (by rw [hs2]; decide) (by rw [hs2]; decide) (by rw [hs2]; rfl) (by decide) ?_
        refine lv_aload_n hx hb dX9_account_75 rfl (lv_at hl 0 rfl) ?_
        refine k_get C hH fd_X9_10 oK (k_ref (M := M) (ad := ad) rK0) dX9_account_76 ?_
        refine k_getN C hH fn_X9_128 (oS (f := 0) (by decide)) (k_ref (M := M) (ad := ad) (rS1 (f := 0) (by decide))) dX9_account_79 ?_
        refine k_getN C hH fn_X9_233 (oR (f := 0) (by decide)) (k_int (M := M) (ad := ad) (nR3 (f := 0) (by decide))) dX9_account_82 ?_
        exact xe rfl (ke_i C hH hr (Nat.zero_le _) (Nat.zero_le _) rfl dX9_account_85)
      · refine W_ite (fun hs3 => ?_) (fun hs3 => ?_)
        · refine lv_tableIn (tgt := 86) hx hb dX9_account_1 (by rw [hs3]; decide) (by rw [hs3]; decide) (by rw [hs3]; rfl) (by decide) ?_
          refine lv_aload_n hx hb dX9_account_86 rfl (lv_at hl 0 rfl) ?_
          refine k_get C hH fd_X9_29 oK (k_ref (M := M) (ad := ad) rK3) dX9_account_87 ?_
          refine lv_aload_n hx hb dX9_account_90 rfl (lv_at hl 0 rfl) ?_
          refine k_get C hH fd_X9_10 oK (k_ref (M := M) (ad := ad) rK0) dX9_account_91 ?_
          refine kg_r C hH (kc_V C hH w_2_27 lc_yX1_settled li_yX1_settled oD (kX1_settled l E ad M 0 (by decide)) (As := [.ref (ad (iS 0))]) rfl dX9_account_94 rfl hl.1 (Nat.le_of_ble_eq_true rfl) ⟨Nat.le_of_ble_eq_true rfl, Nat.le_of_ble_eq_true rfl⟩ ⟨Nat.le_of_ble_eq_true rfl, Nat.le_of_ble_eq_true rfl⟩) ⟨rfl, rfl⟩ (fun M4 H locs hH => ?_)
          refine kg_io C hH (kc_V C hH w_5_119 lc_yX1_allRounds li_yX1_allRounds oD (kX1_allRounds l E ad M4) (As := []) rfl dX9_account_97 rfl hl.1 (Nat.le_of_ble_eq_true rfl) ⟨Nat.le_of_ble_eq_true rfl, Nat.le_of_ble_eq_true rfl⟩ ⟨Nat.le_of_ble_eq_true rfl, Nat.le_of_ble_eq_true rfl⟩) ⟨rfl, rfl⟩ (fun v5 H locs hH => ?_)
          exact xe rfl (ke_i C hH hr (Nat.zero_le _) (Nat.zero_le _) rfl dX9_account_100)
        · refine W_ite (fun hs4 => ?_) (fun hs4 => ?_)
          · refine lv_tableIn (tgt := 101) hx hb dX9_account_1 (by rw [hs4]; decide) (by rw [hs4]; decide) (by rw [hs4]; rfl) (by decide) ?_
            refine lv_aload_n hx hb dX9_account_101 rfl (lv_at hl 0 rfl) ?_
            refine k_get C hH fd_X9_29 oK (k_ref (M := M) (ad := ad) rK3) dX9_account_102 ?_
            refine lv_aload_n hx hb dX9_account_105 rfl (lv_at hl 0 rfl) ?_
            refine k_get C hH fd_X9_10 oK (k_ref (M := M) (ad := ad) rK0) dX9_account_106 ?_
            refine kg_r C hH (kc_V C hH w_2_27 lc_yX1_settled li_yX1_settled oD (kX1_settled l E ad M 0 (by decide)) (As := [.ref (ad (iS 0))]) rfl dX9_account_109 rfl hl.1 (Nat.le_of_ble_eq_true rfl) ⟨Nat.le_of_ble_eq_true rfl, Nat.le_of_ble_eq_true rfl⟩ ⟨Nat.le_of_ble_eq_true rfl, Nat.le_of_ble_eq_true rfl⟩) ⟨rfl, rfl⟩ (fun M6 H locs hH => ?_)
            refine kg_io C hH (kc_V C hH w_5_124 lc_yX1_greatestStage li_yX1_greatestStage oD (kX1_greatestStage l E ad M6) (As := []) rfl dX9_account_112 rfl hl.1 (Nat.le_of_ble_eq_true rfl) ⟨Nat.le_of_ble_eq_true rfl, Nat.le_of_ble_eq_true rfl⟩ ⟨Nat.le_of_ble_eq_true rfl, Nat.le_of_ble_eq_true rfl⟩) ⟨rfl, rfl⟩ (fun v7 H locs hH => ?_)
            exact xe rfl (ke_i C hH hr (Nat.zero_le _) (Nat.zero_le _) rfl dX9_account_115)
          · refine W_ite (fun hs5 => ?_) (fun hs5 => ?_)
            · refine lv_tableIn (tgt := 116) hx hb dX9_account_1 (by rw [hs5]; decide) (by rw [hs5]; decide) (by rw [hs5]; rfl) (by decide) ?_
              refine lv_aload_n hx hb dX9_account_116 rfl (lv_at hl 0 rfl) ?_
              refine k_get C hH fd_X9_29 oK (k_ref (M := M) (ad := ad) rK3) dX9_account_117 ?_
              refine lv_aload_n hx hb dX9_account_120 rfl (lv_at hl 0 rfl) ?_
              refine k_get C hH fd_X9_10 oK (k_ref (M := M) (ad := ad) rK0) dX9_account_121 ?_
              refine kg_r C hH (kc_V C hH w_2_27 lc_yX1_settled li_yX1_settled oD (kX1_settled l E ad M 0 (by decide)) (As := [.ref (ad (iS 0))]) rfl dX9_account_124 rfl hl.1 (Nat.le_of_ble_eq_true rfl) ⟨Nat.le_of_ble_eq_true rfl, Nat.le_of_ble_eq_true rfl⟩ ⟨Nat.le_of_ble_eq_true rfl, Nat.le_of_ble_eq_true rfl⟩) ⟨rfl, rfl⟩ (fun M8 H locs hH => ?_)
              refine kg_io C hH (kc_V C hH w_5_128 lc_yX1_greatestDepth li_yX1_greatestDepth oD (kX1_greatestDepth l E ad M8) (As := []) rfl dX9_account_127 rfl hl.1 (Nat.le_of_ble_eq_true rfl) ⟨Nat.le_of_ble_eq_true rfl, Nat.le_of_ble_eq_true rfl⟩ ⟨Nat.le_of_ble_eq_true rfl, Nat.le_of_ble_eq_true rfl⟩) ⟨rfl, rfl⟩ (fun v9 H locs hH => ?_)
              exact xe rfl (ke_i C hH hr (Nat.zero_le _) (Nat.zero_le _) rfl dX9_account_130)
            · refine W_ite (fun hs6 => ?_) (fun hs6 => ?_)
              · refine lv_tableIn (tgt := 131) hx hb dX9_account_1 (by rw [hs6]; decide) (by rw [hs6]; decide) (by rw [hs6]; rfl) (by decide) ?_
                refine lv_aload_n hx hb dX9_account_131 rfl (lv_at hl 0 rfl) ?_
                refine k_get C hH fd_X9_29 oK (k_ref (M := M) (ad := ad) rK3) dX9_account_132 ?_
                refine lv_aload_n hx hb dX9_account_135 rfl (lv_at hl 0 rfl) ?_
                refine k_get C hH fd_X9_10 oK (k_ref (M := M) (ad := ad) rK0) dX9_account_136 ?_
                refine kg_r C hH (kc_V C hH w_2_27 lc_yX1_settled li_yX1_settled oD (kX1_settled l E ad M 0 (by decide)) (As := [.ref (ad (iS 0))]) rfl dX9_account_139 rfl hl.1 (Nat.le_of_ble_eq_true rfl) ⟨Nat.le_of_ble_eq_true rfl, Nat.le_of_ble_eq_true rfl⟩ ⟨Nat.le_of_ble_eq_true rfl, Nat.le_of_ble_eq_true rfl⟩) ⟨rfl, rfl⟩ (fun M10 H locs hH => ?_)
                refine kg_io C hH (kc_V C hH w_5_132 lc_yX1_greatestSize li_yX1_greatestSize oD (kX1_greatestSize l E ad M10) (As := []) rfl dX9_account_142 rfl hl.1 (Nat.le_of_ble_eq_true rfl) ⟨Nat.le_of_ble_eq_true rfl, Nat.le_of_ble_eq_true rfl⟩ ⟨Nat.le_of_ble_eq_true rfl, Nat.le_of_ble_eq_true rfl⟩) ⟨rfl, rfl⟩ (fun v11 H locs hH => ?_)
                exact xe rfl (ke_i C hH hr (Nat.zero_le _) (Nat.zero_le _) rfl dX9_account_145)
              · refine W_ite (fun hs7 => ?_) (fun hs7 => ?_)
                · refine lv_tableIn (tgt := 146) hx hb dX9_account_1 (by rw [hs7]; decide) (by rw [hs7]; decide) (by rw [hs7]; rfl) (by decide) ?_
                  refine lv_aload_n hx hb dX9_account_146 rfl (lv_at hl 0 rfl) ?_
                  refine k_get C hH fd_X9_10 oK (k_ref (M := M) (ad := ad) rK0) dX9_account_147 ?_
                  refine k_getN C hH fn_X9_128 (oS (f := 0) (by decide)) (k_ref (M := M) (ad := ad) (rS1 (f := 0) (by decide))) dX9_account_150 ?_
                  refine kg_io C hH (kc_V C hH w_5_137 lc_yX6_negated li_yX6_negated (oR (f := 0) (by decide)) (kX6_negated l E ad M 0 (by decide)) (As := []) rfl dX9_account_153 rfl hl.1 (Nat.le_of_ble_eq_true rfl) ⟨Nat.le_of_ble_eq_true rfl, Nat.le_of_ble_eq_true rfl⟩ ⟨Nat.le_of_ble_eq_true rfl, Nat.le_of_ble_eq_true rfl⟩) ⟨rfl, rfl⟩ (fun v12 H locs hH => ?_)
                  exact xe rfl (ke_i C hH hr (Nat.zero_le _) (Nat.zero_le _) rfl dX9_account_156)
                · refine W_ite (fun hs8 => ?_) (fun hs8 => ?_)
                  · refine lv_tableIn (tgt := 157) hx hb dX9_account_1 (by rw [hs8]; decide) (by rw [hs8]; decide) (by rw [hs8]; rfl) (by decide) ?_
                    refine lv_aload_n hx hb dX9_account_157 rfl (lv_at hl 0 rfl) ?_
                    refine k_get C hH fd_X9_50 oK (k_ref (M := M) (ad := ad) rK6) dX9_account_158 ?_
                    refine k_getN C hH fn_X9_314 oT (k_int (M := M) (ad := ad) nT3) dX9_account_161 ?_
                    exact xe rfl (ke_i C hH hr (Nat.zero_le _) (Nat.zero_le _) rfl dX9_account_164)
                  · refine W_ite (fun hs9 => ?_) (fun hs9 => ?_)
                    · refine lv_tableIn (tgt := 165) hx hb dX9_account_1 (by rw [hs9]; decide) (by rw [hs9]; decide) (by rw [hs9]; rfl) (by decide) ?_
                      refine lv_aload_n hx hb dX9_account_165 rfl (lv_at hl 0 rfl) ?_
                      refine k_get C hH fd_X9_22 oK (k_ref (M := M) (ad := ad) rK2) dX9_account_166 ?_
                      refine k_getN C hH fn_X9_354 oP (k_int (M := M) (ad := ad) nP2) dX9_account_169 ?_
                      exact xe rfl (ke_i C hH hr (Nat.zero_le _) (Nat.zero_le _) rfl dX9_account_172)
                    · refine lv_tableOut (tgt := 173) hx hb dX9_account_1 (k_tab10 hs0 hs1 hs2 hs3 hs4 hs5 hs6 hs7 hs8 hs9) (by decide) ?_
                      exact xtw C hl9 hX9 h09 hH xk_0 (is := 355) (text := "no such account") (List.mem_of_getElem? (i := 20) rfl) hl.1 rfl dX9_account_173 dX9_account_176 dX9_account_177 dX9_account_180 dX9_account_183 ⟨by decide, by decide, by decide, by decide⟩
def fX9_meanDepth (M : KS)  : Option (Sum (Nat × KS) (UInt64 × KS)) := (fX9_held M).bind fun M1 => (fX2_size M1 11).bind fun v2 => (if v2 = 0 then some (.inl (5, M1)) else (fX1_settled M1 0).bind fun M3 => (fX1_allDepths M3).bind fun v4 => if nn64 (FP.ddiv (FP.i2d v4) (FP.i2d v2)) then some (.inr ((FP.ddiv (FP.i2d v4) (FP.i2d v2)), M3)) else none)
set_option maxHeartbeats 4000000 in
set_option maxRecDepth 100000 in
theorem kX9_meanDepth (l : Launch) (hl9 : l.stackTraces = false) (E : KE) (ad : Nat → Nat) (M : KS)  : CX l yX9_meanDepth cX9_meanDepth 2 (some .double) { frames := 6, cells := 1, slots := 6, locals := 155 } SK E ad [.ref (ad 121)] M (QD SK E ad) (fX9_meanDepth M) := by
  refine CX.ofW (by decide) (Nat.le_of_ble_eq_true rfl) (fun sz p e s m args below meth c C hX9 h09 hr hH ls hl => ?_)
  have hx := C.1.1
  have hb := C.1.2.1
  have hl : lv_has ls 2 [(0, .ref (ad 121))] := hl
  unfold fX9_meanDepth
  refine lv_aload_n hx hb dX9_meanDepth_0 rfl (lv_at hl 0 rfl) ?_
  refine kg_r C hH (kc_V C hH w_3_124 lc_yX9_held li_yX9_held oK (kX9_held l E ad M) (As := []) rfl dX9_meanDepth_1 rfl hl.1 (Nat.le_of_ble_eq_true rfl) ⟨Nat.le_of_ble_eq_true rfl, Nat.le_of_ble_eq_true rfl⟩ ⟨Nat.le_of_ble_eq_true rfl, Nat.le_of_ble_eq_true rfl⟩) ⟨rfl, rfl⟩ (fun M1 H locs hH => ?_)
  refine kg_io C hH (kc_V C hH w_2_217 lc_yX2_size li_yX2_size (oF (f := 11) (by decide)) (kX2_size l E ad M1 11 (by decide)) (As := []) rfl dX9_meanDepth_4 rfl hl.1 (Nat.le_of_ble_eq_true rfl) ⟨Nat.le_of_ble_eq_true rfl, Nat.le_of_ble_eq_true rfl⟩ ⟨Nat.le_of_ble_eq_true rfl, Nat.le_of_ble_eq_true rfl⟩) ⟨rfl, rfl⟩ (fun v2 H locs hH => ?_)
  refine lv_istore_n (lv' := [(1, .int v2), (0, .ref (ad 121))]) hx hb dX9_meanDepth_7 rfl hl (by decide) rfl (fun ls hl => ?_)
  refine lv_iload_n hx hb dX9_meanDepth_8 rfl (lv_at hl 0 rfl) ?_
  refine kb_if_ne (tgt := 23) hx hb dX9_meanDepth_9 (by decide) (fun _ => ?_) (fun _ => ?_)
  · refine lv_aload_n hx hb dX9_meanDepth_23 rfl (lv_at hl 1 rfl) ?_
    refine k_get C hH fd_X9_29 oK (k_ref (M := M1) (ad := ad) rK3) dX9_meanDepth_24 ?_
    refine lv_aload_n hx hb dX9_meanDepth_27 rfl (lv_at hl 1 rfl) ?_
    refine k_get C hH fd_X9_10 oK (k_ref (M := M1) (ad := ad) rK0) dX9_meanDepth_28 ?_
    refine kg_r C hH (kc_V C hH w_2_27 lc_yX1_settled li_yX1_settled oD (kX1_settled l E ad M1 0 (by decide)) (As := [.ref (ad (iS 0))]) rfl dX9_meanDepth_31 rfl hl.1 (Nat.le_of_ble_eq_true rfl) ⟨Nat.le_of_ble_eq_true rfl, Nat.le_of_ble_eq_true rfl⟩ ⟨Nat.le_of_ble_eq_true rfl, Nat.le_of_ble_eq_true rfl⟩) ⟨rfl, rfl⟩ (fun M3 H locs hH => ?_)
    refine kg_io C hH (kc_V C hH w_5_166 lc_yX1_allDepths li_yX1_allDepths oD (kX1_allDepths l E ad M3) (As := []) rfl dX9_meanDepth_34 rfl hl.1 (Nat.le_of_ble_eq_true rfl) ⟨Nat.le_of_ble_eq_true rfl, Nat.le_of_ble_eq_true rfl⟩ ⟨Nat.le_of_ble_eq_true rfl, Nat.le_of_ble_eq_true rfl⟩) ⟨rfl, rfl⟩ (fun v4 H locs hH => ?_)
    refine lv_i2d hx hb dX9_meanDepth_37 ?_
    refine lv_iload_n hx hb dX9_meanDepth_38 rfl (lv_at hl 0 rfl) ?_
    refine lv_i2d hx hb dX9_meanDepth_39 ?_
    refine W_if (fun hn9 => ?_)
    refine lv_ddiv hx hb dX9_meanDepth_40 hn9 ?_
    exact xe rfl (ke_d C hH hr (Nat.zero_le _) (Nat.zero_le _) rfl dX9_meanDepth_41)
  · exact xtw C hl9 hX9 h09 hH xk_5 (is := 370) (text := "no fact holds") (List.mem_of_getElem? (i := 21) rfl) hl.1 rfl dX9_meanDepth_12 dX9_meanDepth_15 dX9_meanDepth_16 dX9_meanDepth_19 dX9_meanDepth_22 ⟨by decide, by decide, by decide, by decide⟩
def fX9_toldShare (M : KS)  : Option (Sum (Nat × KS) (UInt32 × KS)) := (fX9_held M).bind fun M1 => (fX2_size M1 11).bind fun v2 => (if v2 = 0 then some (.inl (5, M1)) else (fX2_size M1 0).bind fun v3 => if nn32 (FP.fdiv (FP.i2f v3) (FP.i2f v2)) then some (.inr ((FP.fdiv (FP.i2f v3) (FP.i2f v2)), M1)) else none)
set_option maxHeartbeats 4000000 in
set_option maxRecDepth 100000 in
theorem kX9_toldShare (l : Launch) (hl9 : l.stackTraces = false) (E : KE) (ad : Nat → Nat) (M : KS)  : CX l yX9_toldShare cX9_toldShare 2 (some .float) { frames := 6, cells := 1, slots := 6, locals := 155 } SK E ad [.ref (ad 121)] M (QF SK E ad) (fX9_toldShare M) := by
  refine CX.ofW (by decide) (Nat.le_of_ble_eq_true rfl) (fun sz p e s m args below meth c C hX9 h09 hr hH ls hl => ?_)
  have hx := C.1.1
  have hb := C.1.2.1
  have hl : lv_has ls 2 [(0, .ref (ad 121))] := hl
  unfold fX9_toldShare
  refine lv_aload_n hx hb dX9_toldShare_0 rfl (lv_at hl 0 rfl) ?_
  refine kg_r C hH (kc_V C hH w_3_124 lc_yX9_held li_yX9_held oK (kX9_held l E ad M) (As := []) rfl dX9_toldShare_1 rfl hl.1 (Nat.le_of_ble_eq_true rfl) ⟨Nat.le_of_ble_eq_true rfl, Nat.le_of_ble_eq_true rfl⟩ ⟨Nat.le_of_ble_eq_true rfl, Nat.le_of_ble_eq_true rfl⟩) ⟨rfl, rfl⟩ (fun M1 H locs hH => ?_)
  refine kg_io C hH (kc_V C hH w_2_217 lc_yX2_size li_yX2_size (oF (f := 11) (by decide)) (kX2_size l E ad M1 11 (by decide)) (As := []) rfl dX9_toldShare_4 rfl hl.1 (Nat.le_of_ble_eq_true rfl) ⟨Nat.le_of_ble_eq_true rfl, Nat.le_of_ble_eq_true rfl⟩ ⟨Nat.le_of_ble_eq_true rfl, Nat.le_of_ble_eq_true rfl⟩) ⟨rfl, rfl⟩ (fun v2 H locs hH => ?_)
  refine lv_istore_n (lv' := [(1, .int v2), (0, .ref (ad 121))]) hx hb dX9_toldShare_7 rfl hl (by decide) rfl (fun ls hl => ?_)
  refine lv_iload_n hx hb dX9_toldShare_8 rfl (lv_at hl 0 rfl) ?_
  refine kb_if_ne (tgt := 23) hx hb dX9_toldShare_9 (by decide) (fun _ => ?_) (fun _ => ?_)
  · refine lv_aload_n hx hb dX9_toldShare_23 rfl (lv_at hl 1 rfl) ?_
    refine k_get C hH fd_X9_10 oK (k_ref (M := M1) (ad := ad) rK0) dX9_toldShare_24 ?_
    refine k_getN C hH fn_X9_124 (oS (f := 0) (by decide)) (k_ref (M := M1) (ad := ad) (rS0 (f := 0) (by decide))) dX9_toldShare_27 ?_
    refine kg_io C hH (kc_V C hH w_2_217 lc_yX2_size li_yX2_size (oF (f := 0) (by decide)) (kX2_size l E ad M1 0 (by decide)) (As := []) rfl dX9_toldShare_30 rfl hl.1 (Nat.le_of_ble_eq_true rfl) ⟨Nat.le_of_ble_eq_true rfl, Nat.le_of_ble_eq_true rfl⟩ ⟨Nat.le_of_ble_eq_true rfl, Nat.le_of_ble_eq_true rfl⟩) ⟨rfl, rfl⟩ (fun v3 H locs hH => ?_)
    refine lv_i2f hx hb dX9_toldShare_33 ?_
    refine lv_iload_n hx hb dX9_toldShare_34 rfl (lv_at hl 0 rfl) ?_
    refine lv_i2f hx hb dX9_toldShare_35 ?_
    refine W_if (fun hn9 => ?_)
    refine lv_fdiv hx hb dX9_toldShare_36 hn9 ?_
    exact xe rfl (ke_f C hH hr (Nat.zero_le _) (Nat.zero_le _) rfl dX9_toldShare_37)
  · exact xtw C hl9 hX9 h09 hH xk_5 (is := 370) (text := "no fact holds") (List.mem_of_getElem? (i := 21) rfl) hl.1 rfl dX9_toldShare_12 dX9_toldShare_15 dX9_toldShare_16 dX9_toldShare_19 dX9_toldShare_22 ⟨by decide, by decide, by decide, by decide⟩
def fX9_undo (M : KS)  : Option (Sum (Nat × KS) (Int32 × KS)) := (if (M.1 113 2) = 0 then some (.inl (4, M)) else (fX5_stepBack M 0).bind fun M1 => (fX1_outdate M1).bind fun M2 => some (.inr ((M2.1 113 2), M2)))
set_option maxHeartbeats 4000000 in
set_option maxRecDepth 100000 in
theorem kX9_undo (l : Launch) (hl9 : l.stackTraces = false) (E : KE) (ad : Nat → Nat) (M : KS)  : CX l yX9_undo cX9_undo 1 (some .int) { frames := 6, cells := 1, slots := 6, locals := 86 } SK E ad [.ref (ad 121)] M (QI SK E ad) (fX9_undo M) := by
  refine CX.ofW (by decide) (Nat.le_of_ble_eq_true rfl) (fun sz p e s m args below meth c C hX9 h09 hr hH ls hl => ?_)
  have hx := C.1.1
  have hb := C.1.2.1
  have hl : lv_has ls 1 [(0, .ref (ad 121))] := hl
  unfold fX9_undo
  refine lv_aload_n hx hb dX9_undo_0 rfl (lv_at hl 0 rfl) ?_
  refine k_get C hH fd_X9_22 oK (k_ref (M := M) (ad := ad) rK2) dX9_undo_1 ?_
  refine k_getN C hH fn_X9_354 oP (k_int (M := M) (ad := ad) nP2) dX9_undo_4 ?_
  refine kb_if_ne (tgt := 21) hx hb dX9_undo_7 (by decide) (fun _ => ?_) (fun _ => ?_)
  · refine lv_aload_n hx hb dX9_undo_21 rfl (lv_at hl 0 rfl) ?_
    refine k_get C hH fd_X9_22 oK (k_ref (M := M) (ad := ad) rK2) dX9_undo_22 ?_
    refine lv_aload_n hx hb dX9_undo_25 rfl (lv_at hl 0 rfl) ?_
    refine k_get C hH fd_X9_10 oK (k_ref (M := M) (ad := ad) rK0) dX9_undo_26 ?_
    refine kg_v C hH (kc_V C hH w_5_185 lc_yX5_stepBack li_yX5_stepBack oP (kX5_stepBack l E ad M 0 (by decide)) (As := [.ref (ad (iS 0))]) rfl dX9_undo_29 rfl hl.1 (Nat.le_of_ble_eq_true rfl) ⟨Nat.le_of_ble_eq_true rfl, Nat.le_of_ble_eq_true rfl⟩ ⟨Nat.le_of_ble_eq_true rfl, Nat.le_of_ble_eq_true rfl⟩) ⟨rfl, rfl⟩ (fun M1 H locs hH => ?_)
    refine lv_aload_n hx hb dX9_undo_32 rfl (lv_at hl 0 rfl) ?_
    refine k_get C hH fd_X9_29 oK (k_ref (M := M1) (ad := ad) rK3) dX9_undo_33 ?_
    refine kg_v C hH (kc_V C hH w_3_97 lc_yX1_outdate li_yX1_outdate oD (kX1_outdate l E ad M1) (As := []) rfl dX9_undo_36 rfl hl.1 (Nat.le_of_ble_eq_true rfl) ⟨Nat.le_of_ble_eq_true rfl, Nat.le_of_ble_eq_true rfl⟩ ⟨Nat.le_of_ble_eq_true rfl, Nat.le_of_ble_eq_true rfl⟩) ⟨rfl, rfl⟩ (fun M2 H locs hH => ?_)
    refine lv_aload_n hx hb dX9_undo_39 rfl (lv_at hl 0 rfl) ?_
    refine k_get C hH fd_X9_22 oK (k_ref (M := M2) (ad := ad) rK2) dX9_undo_40 ?_
    refine k_getN C hH fn_X9_354 oP (k_int (M := M2) (ad := ad) nP2) dX9_undo_43 ?_
    exact xe rfl (ke_i C hH hr (Nat.zero_le _) (Nat.zero_le _) rfl dX9_undo_46)
  · exact xtw C hl9 hX9 h09 hH xk_4 (is := 376) (text := "no change can be undone") (List.mem_of_getElem? (i := 22) rfl) hl.1 rfl dX9_undo_10 dX9_undo_13 dX9_undo_14 dX9_undo_17 dX9_undo_20 ⟨by decide, by decide, by decide, by decide⟩
def fX9_restore (M : KS)  : Option (Sum (Nat × KS) (Int32 × KS)) := (if (M.1 121 8) = 0 then some (.inl (4, M)) else (fX7_copy M 0 1).bind fun M1 => (fX5_forget M1).bind fun M2 => (fX1_outdate M2).bind fun M3 => (fX2_size M3 0).bind fun v4 => some (.inr (v4, M3)))
set_option maxHeartbeats 4000000 in
set_option maxRecDepth 100000 in
theorem kX9_restore (l : Launch) (hl9 : l.stackTraces = false) (E : KE) (ad : Nat → Nat) (M : KS)  : CX l yX9_restore cX9_restore 1 (some .int) { frames := 6, cells := 1, slots := 6, locals := 82 } SK E ad [.ref (ad 121)] M (QI SK E ad) (fX9_restore M) := by
  refine CX.ofW (by decide) (Nat.le_of_ble_eq_true rfl) (fun sz p e s m args below meth c C hX9 h09 hr hH ls hl => ?_)
  have hx := C.1.1
  have hb := C.1.2.1
  have hl : lv_has ls 1 [(0, .ref (ad 121))] := hl
  unfold fX9_restore
  refine lv_aload_n hx hb dX9_restore_0 rfl (lv_at hl 0 rfl) ?_
  refine k_get C hH fd_X9_61 oK (k_int (M := M) (ad := ad) nK8) dX9_restore_1 ?_
  refine kb_if_ne (tgt := 18) hx hb dX9_restore_4 (by decide) (fun _ => ?_) (fun _ => ?_)
  · refine lv_aload_n hx hb dX9_restore_18 rfl (lv_at hl 0 rfl) ?_
    refine k_get C hH fd_X9_10 oK (k_ref (M := M) (ad := ad) rK0) dX9_restore_19 ?_
    refine lv_aload_n hx hb dX9_restore_22 rfl (lv_at hl 0 rfl) ?_
    refine k_get C hH fd_X9_16 oK (k_ref (M := M) (ad := ad) rK1) dX9_restore_23 ?_
    refine kg_v C hH (kc_V C hH w_2_208 lc_yX7_copy li_yX7_copy (oS (f := 0) (by decide)) (kX7_copy l E ad M 0 (by decide) 1 (by decide)) (As := [.ref (ad (iS 1))]) rfl dX9_restore_26 rfl hl.1 (Nat.le_of_ble_eq_true rfl) ⟨Nat.le_of_ble_eq_true rfl, Nat.le_of_ble_eq_true rfl⟩ ⟨Nat.le_of_ble_eq_true rfl, Nat.le_of_ble_eq_true rfl⟩) ⟨rfl, rfl⟩ (fun M1 H locs hH => ?_)
    refine lv_aload_n hx hb dX9_restore_29 rfl (lv_at hl 0 rfl) ?_
    refine k_get C hH fd_X9_22 oK (k_ref (M := M1) (ad := ad) rK2) dX9_restore_30 ?_
    refine kg_v C hH (kc_V C hH w_5_199 lc_yX5_forget li_yX5_forget oP (kX5_forget l E ad M1) (As := []) rfl dX9_restore_33 rfl hl.1 (Nat.le_of_ble_eq_true rfl) ⟨Nat.le_of_ble_eq_true rfl, Nat.le_of_ble_eq_true rfl⟩ ⟨Nat.le_of_ble_eq_true rfl, Nat.le_of_ble_eq_true rfl⟩) ⟨rfl, rfl⟩ (fun M2 H locs hH => ?_)
    refine lv_aload_n hx hb dX9_restore_36 rfl (lv_at hl 0 rfl) ?_
    refine k_get C hH fd_X9_29 oK (k_ref (M := M2) (ad := ad) rK3) dX9_restore_37 ?_
    refine kg_v C hH (kc_V C hH w_3_97 lc_yX1_outdate li_yX1_outdate oD (kX1_outdate l E ad M2) (As := []) rfl dX9_restore_40 rfl hl.1 (Nat.le_of_ble_eq_true rfl) ⟨Nat.le_of_ble_eq_true rfl, Nat.le_of_ble_eq_true rfl⟩ ⟨Nat.le_of_ble_eq_true rfl, Nat.le_of_ble_eq_true rfl⟩) ⟨rfl, rfl⟩ (fun M3 H locs hH => ?_)
    refine lv_aload_n hx hb dX9_restore_43 rfl (lv_at hl 0 rfl) ?_
    refine k_get C hH fd_X9_10 oK (k_ref (M := M3) (ad := ad) rK0) dX9_restore_44 ?_
    refine k_getN C hH fn_X9_124 (oS (f := 0) (by decide)) (k_ref (M := M3) (ad := ad) (rS0 (f := 0) (by decide))) dX9_restore_47 ?_
    refine kg_io C hH (kc_V C hH w_2_217 lc_yX2_size li_yX2_size (oF (f := 0) (by decide)) (kX2_size l E ad M3 0 (by decide)) (As := []) rfl dX9_restore_50 rfl hl.1 (Nat.le_of_ble_eq_true rfl) ⟨Nat.le_of_ble_eq_true rfl, Nat.le_of_ble_eq_true rfl⟩ ⟨Nat.le_of_ble_eq_true rfl, Nat.le_of_ble_eq_true rfl⟩) ⟨rfl, rfl⟩ (fun v4 H locs hH => ?_)
    exact xe rfl (ke_i C hH hr (Nat.zero_le _) (Nat.zero_le _) rfl dX9_restore_53)
  · exact xtw C hl9 hX9 h09 hH xk_4 (is := 384) (text := "there is no snapshot") (List.mem_of_getElem? (i := 23) rfl) hl.1 rfl dX9_restore_7 dX9_restore_10 dX9_restore_11 dX9_restore_14 dX9_restore_17 ⟨by decide, by decide, by decide, by decide⟩
