def fX6_hasZ (a0 : Int32) : Option (Int32) := (if a0 = 0 then some 0 else (fX9_firstIn a0).bind fun v1 => (if v1 = 2 then some 1 else (if (fX9_secondIn a0) = 2 then some 1 else some 0)))
set_option maxHeartbeats 4000000 in
set_option maxRecDepth 100000 in
theorem kX6_hasZ (l : Launch) (E : KE) (ad : Nat → Nat) (M : KS) (a0 : Int32) : CT l yX6_hasZ cX6_hasZ 1 (some .boolean) { frames := 1, cells := 0, slots := 0, locals := 20 } SK E ad [.int a0] M (fun sz a => QI SK E ad sz (a, M)) (fX6_hasZ a0) := by
  refine CT.ofW (by decide) (Nat.le_of_ble_eq_true rfl) (fun sz p e s m args below meth c C hr hH ls hl => ?_)
  have hx := C.1.1
  have hb := C.1.2.1
  have hl : lv_has ls 1 [(0, .int a0)] := hl
  unfold fX6_hasZ
  refine lv_iload_n hx hb dX6_hasZ_0 rfl (lv_at hl 0 rfl) ?_
  refine kb_if_eq (tgt := 24) hx hb dX6_hasZ_1 (by decide) (fun _ => ?_) (fun _ => ?_)
  · refine lv_iconst (v := 0) hx hb dX6_hasZ_24 (by decide) ?_
    exact ke_z C hH hr (Nat.le_refl _) (Nat.le_refl _) rfl (Or.inl rfl) dX6_hasZ_25
  · refine lv_iload_n hx hb dX6_hasZ_4 rfl (lv_at hl 0 rfl) ?_
    refine kg_io C hH (kc_SN C hH w_2_97 w_st_yX9_firstIn lc_yX9_firstIn (kX9_firstIn l E ad M a0) (As := [.int a0]) rfl dX6_hasZ_5 rfl hl.1 (Nat.le_of_ble_eq_true rfl) ⟨Nat.le_of_ble_eq_true rfl, Nat.le_of_ble_eq_true rfl⟩ ⟨Nat.le_of_ble_eq_true rfl, Nat.le_of_ble_eq_true rfl⟩) ⟨rfl, rfl⟩ (fun v1 H locs hH => ?_)
    refine lv_iconst (v := 2) hx hb dX6_hasZ_8 (by decide) ?_
    refine kb_icmp_eq (tgt := 20) hx hb dX6_hasZ_9 (by decide) (fun _ => ?_) (fun _ => ?_)
    · refine lv_iconst (v := 1) hx hb dX6_hasZ_20 (by decide) ?_
      refine lv_goto (tgt := 25) hx hb dX6_hasZ_21 (by decide) ?_
      exact ke_z C hH hr (Nat.le_refl _) (Nat.le_refl _) rfl (Or.inr rfl) dX6_hasZ_25
    · refine lv_iload_n hx hb dX6_hasZ_12 rfl (lv_at hl 0 rfl) ?_
      refine kg_ip C hH (kc_SN C hH w_2_100 w_st_yX9_secondIn lc_yX9_secondIn (kX9_secondIn l E ad M a0) (As := [.int a0]) rfl dX6_hasZ_13 rfl hl.1 (Nat.le_of_ble_eq_true rfl) ⟨Nat.le_of_ble_eq_true rfl, Nat.le_of_ble_eq_true rfl⟩ ⟨Nat.le_of_ble_eq_true rfl, Nat.le_of_ble_eq_true rfl⟩) ⟨rfl, rfl⟩ (fun H locs hH => ?_)
      refine lv_iconst (v := 2) hx hb dX6_hasZ_16 (by decide) ?_
      refine kb_icmp_ne (tgt := 24) hx hb dX6_hasZ_17 (by decide) (fun _ => ?_) (fun _ => ?_)
      · refine lv_iconst (v := 0) hx hb dX6_hasZ_24 (by decide) ?_
        exact ke_z C hH hr (Nat.le_refl _) (Nat.le_refl _) rfl (Or.inl rfl) dX6_hasZ_25
      · refine lv_iconst (v := 1) hx hb dX6_hasZ_20 (by decide) ?_
        refine lv_goto (tgt := 25) hx hb dX6_hasZ_21 (by decide) ?_
        exact ke_z C hH hr (Nat.le_refl _) (Nat.le_refl _) rfl (Or.inr rfl) dX6_hasZ_25
def fX6_propose_J95_72 (o0 : Nat) (M4 : KS) (v6 : Int32) : Option (KS) := (if v6 = 0 then if inb (M4.1 (iR o0) 3) 11 then nm (kset M4 (iRa o0) (M4.1 (iR o0) 3).toNatClampNeg 1) fun M7 => some M7 else none else if inb (M4.1 (iR o0) 3) 11 then nm (kset M4 (iRa o0) (M4.1 (iR o0) 3).toNatClampNeg 63) fun M8 => some M8 else none)
theorem fX6_propose_J95_72_u {o0 : Nat} {M4 : KS} {v6 : Int32} : fX6_propose_J95_72 o0 M4 v6 = (if v6 = 0 then if inb (M4.1 (iR o0) 3) 11 then nm (kset M4 (iRa o0) (M4.1 (iR o0) 3).toNatClampNeg 1) fun M7 => some M7 else none else if inb (M4.1 (iR o0) 3) 11 then nm (kset M4 (iRa o0) (M4.1 (iR o0) 3).toNatClampNeg 63) fun M8 => some M8 else none) := rfl
def fX6_propose (M : KS) (o0 : Nat) (a1 : Int32) (a2 : Int32) (a3 : Int32) (a4 : Int32) : Option (KS) := (if (M.1 (iR o0) 3) < 0 then some M else (if (M.1 (iR o0) 3) ≤ 10 then if inb (M.1 (iR o0) 3) 11 then nm (kset M (iRh o0) (M.1 (iR o0) 3).toNatClampNeg a1) fun M1 => if inb (3 * (M1.1 (iR o0) 3)) 33 then nm (kset M1 (iRc o0) (3 * (M1.1 (iR o0) 3)).toNatClampNeg a2) fun M2 => if inb ((3 * (M2.1 (iR o0) 3)) + 1) 33 then nm (kset M2 (iRc o0) ((3 * (M2.1 (iR o0) 3)) + 1).toNatClampNeg a3) fun M3 => if inb ((3 * (M3.1 (iR o0) 3)) + 2) 33 then nm (kset M3 (iRc o0) ((3 * (M3.1 (iR o0) 3)) + 2).toNatClampNeg a4) fun M4 => (fX6_hasZ a2).bind fun v5 => jn (fX6_propose_J95_72 o0 M4) (fun K95_72 => (if v5 = 0 then (fX6_hasZ a3).bind fun v9 => (if v9 = 0 then (fX6_hasZ a4).bind fun v10 => (if v10 = 0 then K95_72 0 else K95_72 1) else K95_72 1) else K95_72 1)) else none else none else none else none else some M))
set_option maxHeartbeats 4000000 in
set_option maxRecDepth 100000 in
theorem kX6_propose (l : Launch) (E : KE) (ad : Nat → Nat) (M : KS) (o0 : Nat) (ho0 : o0 < 11) (a1 : Int32) (a2 : Int32) (a3 : Int32) (a4 : Int32) : CT l yX6_propose cX6_propose 6 none { frames := 2, cells := 0, slots := 0, locals := 40 } SK E ad [.ref (ad (iR o0)), .int a1, .int a2, .int a3, .int a4] M (QV SK E ad) (fX6_propose M o0 a1 a2 a3 a4) := by
  refine CT.ofW (by decide) (Nat.le_of_ble_eq_true rfl) (fun sz p e s m args below meth c C hr hH ls hl => ?_)
  have hx := C.1.1
  have hb := C.1.2.1
  have hl : lv_has ls 6 [(0, .ref (ad (iR o0))), (1, .int a1), (2, .int a2), (3, .int a3), (4, .int a4)] := hl
  unfold fX6_propose
  refine lv_aload_n hx hb dX6_propose_0 rfl (lv_at hl 0 rfl) ?_
  refine k_get C hH fd_X6_21 (oR (f := o0) ho0) (k_int (M := M) (ad := ad) (nR3 (f := o0) ho0)) dX6_propose_1 ?_
  refine kb_if_lt (tgt := 16) hx hb dX6_propose_4 (by decide) (fun _ => ?_) (fun _ => ?_)
  · exact ke_v C hH hr (Nat.le_refl _) (Nat.le_refl _) rfl dX6_propose_16
  · refine lv_aload_n hx hb dX6_propose_7 rfl (lv_at hl 0 rfl) ?_
    refine k_get C hH fd_X6_21 (oR (f := o0) ho0) (k_int (M := M) (ad := ad) (nR3 (f := o0) ho0)) dX6_propose_8 ?_
    refine lv_bipush (v := 10) hx hb dX6_propose_11 (by decide) ?_
    refine kb_icmp_le (tgt := 17) hx hb dX6_propose_13 (by decide) (fun _ => ?_) (fun _ => ?_)
    · refine lv_aload_n hx hb dX6_propose_17 rfl (lv_at hl 0 rfl) ?_
      refine k_get C hH fd_X6_9 (oR (f := o0) ho0) (k_ref (M := M) (ad := ad) (rR0 (f := o0) ho0)) dX6_propose_18 ?_
      refine lv_aload_n hx hb dX6_propose_21 rfl (lv_at hl 0 rfl) ?_
      refine k_get C hH fd_X6_21 (oR (f := o0) ho0) (k_int (M := M) (ad := ad) (nR3 (f := o0) ho0)) dX6_propose_22 ?_
      refine lv_iload_n hx hb dX6_propose_25 rfl (lv_at hl 1 rfl) ?_
      refine k_iast C hH (aR0 (f := o0) ho0) dX6_propose_26 (fun M1 H locs hH => ?_)
      refine lv_aload_n hx hb dX6_propose_27 rfl (lv_at hl 0 rfl) ?_
      refine k_get C hH fd_X6_15 (oR (f := o0) ho0) (k_ref (M := M1) (ad := ad) (rR1 (f := o0) ho0)) dX6_propose_28 ?_
      refine lv_iconst (v := 3) hx hb dX6_propose_31 (by decide) ?_
      refine lv_aload_n hx hb dX6_propose_32 rfl (lv_at hl 0 rfl) ?_
      refine k_get C hH fd_X6_21 (oR (f := o0) ho0) (k_int (M := M1) (ad := ad) (nR3 (f := o0) ho0)) dX6_propose_33 ?_
      refine lv_imul hx hb dX6_propose_36 ?_
      refine lv_iload_n hx hb dX6_propose_37 rfl (lv_at hl 2 rfl) ?_
      refine k_iast C hH (aR1 (f := o0) ho0) dX6_propose_38 (fun M2 H locs hH => ?_)
      refine lv_aload_n hx hb dX6_propose_39 rfl (lv_at hl 0 rfl) ?_
      refine k_get C hH fd_X6_15 (oR (f := o0) ho0) (k_ref (M := M2) (ad := ad) (rR1 (f := o0) ho0)) dX6_propose_40 ?_
      refine lv_iconst (v := 3) hx hb dX6_propose_43 (by decide) ?_
      refine lv_aload_n hx hb dX6_propose_44 rfl (lv_at hl 0 rfl) ?_
      refine k_get C hH fd_X6_21 (oR (f := o0) ho0) (k_int (M := M2) (ad := ad) (nR3 (f := o0) ho0)) dX6_propose_45 ?_
      refine lv_imul hx hb dX6_propose_48 ?_
      refine lv_iconst (v := 1) hx hb dX6_propose_49 (by decide) ?_
      refine lv_iadd hx hb dX6_propose_50 ?_
      refine lv_iload_n hx hb dX6_propose_51 rfl (lv_at hl 3 rfl) ?_
      refine k_iast C hH (aR1 (f := o0) ho0) dX6_propose_52 (fun M3 H locs hH => ?_)
      refine lv_aload_n hx hb dX6_propose_53 rfl (lv_at hl 0 rfl) ?_
      refine k_get C hH fd_X6_15 (oR (f := o0) ho0) (k_ref (M := M3) (ad := ad) (rR1 (f := o0) ho0)) dX6_propose_54 ?_
      refine lv_iconst (v := 3) hx hb dX6_propose_57 (by decide) ?_
      refine lv_aload_n hx hb dX6_propose_58 rfl (lv_at hl 0 rfl) ?_
      refine k_get C hH fd_X6_21 (oR (f := o0) ho0) (k_int (M := M3) (ad := ad) (nR3 (f := o0) ho0)) dX6_propose_59 ?_
      refine lv_imul hx hb dX6_propose_62 ?_
      refine lv_iconst (v := 2) hx hb dX6_propose_63 (by decide) ?_
      refine lv_iadd hx hb dX6_propose_64 ?_
      refine lv_iload hx hb dX6_propose_65 (lv_at hl 4 rfl) ?_
      refine k_iast C hH (aR1 (f := o0) ho0) dX6_propose_67 (fun M4 H locs hH => ?_)
      refine lv_iload_n hx hb dX6_propose_68 rfl (lv_at hl 2 rfl) ?_
      refine kg_io C hH (kc_S C hH w_4_84 w_st_yX6_hasZ rfl lc_yX6_hasZ (kX6_hasZ l E ad M4 a2) (As := [.int a2]) rfl dX6_propose_69 rfl hl.1 (Nat.le_of_ble_eq_true rfl) ⟨Nat.le_of_ble_eq_true rfl, Nat.le_of_ble_eq_true rfl⟩ ⟨Nat.le_of_ble_eq_true rfl, Nat.le_of_ble_eq_true rfl⟩) ⟨rfl, rfl⟩ (fun v5 H locs hH => ?_)
      refine W_jn (fun (x : Int32) H locs => KH SK E ad sz M4 s.heap H locs) (fun x ls => lv_has ls 6 [(0, .ref (ad (iR o0)))]) (fun x ls => F0 m 95 ls [.int x]) ?_ (fun K95_72 hK95_72 => ?_)
      · intro v6 H locs ls hH hl
        have hH : KH SK E ad sz M4 s.heap H locs := hH
        have hl : lv_has ls 6 [(0, .ref (ad (iR o0)))] := hl
        refine W_q fX6_propose_J95_72_u ?_
        refine lv_istore (lv' := [(5, .int v6), (0, .ref (ad (iR o0)))]) hx hb dX6_propose_95 hl (by decide) rfl (fun ls hl => ?_)
        refine lv_aload_n hx hb dX6_propose_97 rfl (lv_at hl 1 rfl) ?_
        refine k_get C hH fd_X6_18 (oR (f := o0) ho0) (k_ref (M := M4) (ad := ad) (rR2 (f := o0) ho0)) dX6_propose_98 ?_
        refine lv_aload_n hx hb dX6_propose_101 rfl (lv_at hl 1 rfl) ?_
        refine k_get C hH fd_X6_21 (oR (f := o0) ho0) (k_int (M := M4) (ad := ad) (nR3 (f := o0) ho0)) dX6_propose_102 ?_
        refine lv_iload hx hb dX6_propose_105 (lv_at hl 0 rfl) ?_
        refine kb_if_eq (tgt := 115) hx hb dX6_propose_107 (by decide) (fun _ => ?_) (fun _ => ?_)
        · refine lv_iconst (v := 1) hx hb dX6_propose_115 (by decide) ?_
          refine k_iast C hH (aR2 (f := o0) ho0) dX6_propose_116 (fun M7 H locs hH => ?_)
          exact ke_v C hH hr (Nat.le_refl _) (Nat.le_refl _) rfl dX6_propose_117
        · refine lv_bipush (v := 63) hx hb dX6_propose_110 (by decide) ?_
          refine lv_goto (tgt := 116) hx hb dX6_propose_112 (by decide) ?_
          refine k_iast C hH (aR2 (f := o0) ho0) dX6_propose_116 (fun M8 H locs hH => ?_)
          exact ke_v C hH hr (Nat.le_refl _) (Nat.le_refl _) rfl dX6_propose_117
      · refine kb_if_ne (tgt := 90) hx hb dX6_propose_72 (by decide) (fun _ => ?_) (fun _ => ?_)
        · refine lv_iconst (v := 1) hx hb dX6_propose_90 (by decide) ?_
          refine lv_goto (tgt := 95) hx hb dX6_propose_91 (by decide) ?_
          exact hK95_72 1 _ _ _ hH (lv_sub hl [0] rfl)
        · refine lv_iload_n hx hb dX6_propose_75 rfl (lv_at hl 3 rfl) ?_
          refine kg_io C hH (kc_S C hH w_4_84 w_st_yX6_hasZ rfl lc_yX6_hasZ (kX6_hasZ l E ad M4 a3) (As := [.int a3]) rfl dX6_propose_76 rfl hl.1 (Nat.le_of_ble_eq_true rfl) ⟨Nat.le_of_ble_eq_true rfl, Nat.le_of_ble_eq_true rfl⟩ ⟨Nat.le_of_ble_eq_true rfl, Nat.le_of_ble_eq_true rfl⟩) ⟨rfl, rfl⟩ (fun v9 H locs hH => ?_)
          refine kb_if_ne (tgt := 90) hx hb dX6_propose_79 (by decide) (fun _ => ?_) (fun _ => ?_)
          · refine lv_iconst (v := 1) hx hb dX6_propose_90 (by decide) ?_
            refine lv_goto (tgt := 95) hx hb dX6_propose_91 (by decide) ?_
            exact hK95_72 1 _ _ _ hH (lv_sub hl [0] rfl)
          · refine lv_iload hx hb dX6_propose_82 (lv_at hl 4 rfl) ?_
            refine kg_io C hH (kc_S C hH w_4_84 w_st_yX6_hasZ rfl lc_yX6_hasZ (kX6_hasZ l E ad M4 a4) (As := [.int a4]) rfl dX6_propose_84 rfl hl.1 (Nat.le_of_ble_eq_true rfl) ⟨Nat.le_of_ble_eq_true rfl, Nat.le_of_ble_eq_true rfl⟩ ⟨Nat.le_of_ble_eq_true rfl, Nat.le_of_ble_eq_true rfl⟩) ⟨rfl, rfl⟩ (fun v10 H locs hH => ?_)
            refine kb_if_eq (tgt := 94) hx hb dX6_propose_87 (by decide) (fun _ => ?_) (fun _ => ?_)
            · refine lv_iconst (v := 0) hx hb dX6_propose_94 (by decide) ?_
              exact hK95_72 0 _ _ _ hH (lv_sub hl [0] rfl)
            · refine lv_iconst (v := 1) hx hb dX6_propose_90 (by decide) ?_
              refine lv_goto (tgt := 95) hx hb dX6_propose_91 (by decide) ?_
              exact hK95_72 1 _ _ _ hH (lv_sub hl [0] rfl)
    · exact ke_v C hH hr (Nat.le_refl _) (Nat.le_refl _) rfl dX6_propose_16
def fX6_unsafeLetter_X79 (_ : Unit) : Option (Int32) := some (-1)
theorem fX6_unsafeLetter_X79_u {u : Unit} : fX6_unsafeLetter_X79 u = some (-1) := rfl
def fX6_unsafeLetter_L79 (v4 : Int32) (v5 : Int32) (rec79 : (Int32) → Option (Int32)) (k79 : (Unit) → Option (Int32)) (v6 : Int32) : Option (Int32) := (if 3 ≤ v6 then k79 () else (if ((v5 &&& (v4 ^^^ (-1))) &&& (jshl 1 v6)) = 0 then nm (v6 + 1) fun v7 => rec79 v7 else some v6))
theorem fX6_unsafeLetter_L79_u {v4 : Int32} {v5 : Int32} {rec79 : (Int32) → Option (Int32)} {k79 : (Unit) → Option (Int32)} {v6 : Int32} : fX6_unsafeLetter_L79 v4 v5 rec79 k79 v6 = (if 3 ≤ v6 then k79 () else (if ((v5 &&& (v4 ^^^ (-1))) &&& (jshl 1 v6)) = 0 then nm (v6 + 1) fun v7 => rec79 v7 else some v6)) := rfl
def fX6_unsafeLetter_X6 (x : Int32 × Int32) : Option (Int32) := match x with | (v4, v5) => lp (fX6_unsafeLetter_L79 v4 v5) (fX6_unsafeLetter_X79) 1000000 0
theorem fX6_unsafeLetter_X6_u {v4 : Int32} {v5 : Int32} : fX6_unsafeLetter_X6 (v4, v5) = lp (fX6_unsafeLetter_L79 v4 v5) (fX6_unsafeLetter_X79) 1000000 0 := rfl
def fX6_unsafeLetter_L6 (M : KS) (o0 : Nat) (rec6 : (Int32 × Int32 × Int32) → Option (Int32)) (k6 : (Int32 × Int32) → Option (Int32)) (x : Int32 × Int32 × Int32) : Option (Int32) := match x with | (v1, v2, v3) => (if 3 ≤ v3 then k6 (v1, v2) else (fX6_code M o0 (M.1 (iR o0) 3) v3).bind fun v8 => (if v8 ≤ 0 then (if 0 ≤ v8 then nm (v3 + 1) fun v9 => rec6 (v1, v2, v9) else (fX9_firstIn v8).bind fun v10 => nm ((v2 ||| ((jshl 1 v10) ||| (jshl 1 (fX9_secondIn v8))))) fun v11 => nm (v3 + 1) fun v12 => rec6 (v1, v11, v12)) else (fX9_firstIn v8).bind fun v13 => nm ((v1 ||| ((jshl 1 v13) ||| (jshl 1 (fX9_secondIn v8))))) fun v14 => nm (v3 + 1) fun v15 => rec6 (v14, v2, v15)))
theorem fX6_unsafeLetter_L6_u {M : KS} {o0 : Nat} {rec6 : (Int32 × Int32 × Int32) → Option (Int32)} {k6 : (Int32 × Int32) → Option (Int32)} {v1 : Int32} {v2 : Int32} {v3 : Int32} : fX6_unsafeLetter_L6 M o0 rec6 k6 (v1, v2, v3) = (if 3 ≤ v3 then k6 (v1, v2) else (fX6_code M o0 (M.1 (iR o0) 3) v3).bind fun v8 => (if v8 ≤ 0 then (if 0 ≤ v8 then nm (v3 + 1) fun v9 => rec6 (v1, v2, v9) else (fX9_firstIn v8).bind fun v10 => nm ((v2 ||| ((jshl 1 v10) ||| (jshl 1 (fX9_secondIn v8))))) fun v11 => nm (v3 + 1) fun v12 => rec6 (v1, v11, v12)) else (fX9_firstIn v8).bind fun v13 => nm ((v1 ||| ((jshl 1 v13) ||| (jshl 1 (fX9_secondIn v8))))) fun v14 => nm (v3 + 1) fun v15 => rec6 (v14, v2, v15))) := rfl
def fX6_unsafeLetter (M : KS) (o0 : Nat) : Option (Int32) := lp (fX6_unsafeLetter_L6 M o0) (fX6_unsafeLetter_X6) 1000000 (0, 3, 0)
set_option maxHeartbeats 4000000 in
set_option maxRecDepth 100000 in
theorem kX6_unsafeLetter (l : Launch) (E : KE) (ad : Nat → Nat) (M : KS) (o0 : Nat) (ho0 : o0 < 11) : CT l yX6_unsafeLetter cX6_unsafeLetter 5 (some .int) { frames := 1, cells := 0, slots := 0, locals := 22 } SK E ad [.ref (ad (iR o0))] M (fun sz a => QI SK E ad sz (a, M)) (fX6_unsafeLetter M o0) := by
  refine CT.ofW (by decide) (Nat.le_of_ble_eq_true rfl) (fun sz p e s m args below meth c C hr hH ls hl => ?_)
  have hx := C.1.1
  have hb := C.1.2.1
  have hl : lv_has ls 5 [(0, .ref (ad (iR o0)))] := hl
  unfold fX6_unsafeLetter
  refine lv_iconst (v := 0) hx hb dX6_unsafeLetter_0 (by decide) ?_
  refine lv_istore_n (lv' := [(1, .int 0), (0, .ref (ad (iR o0)))]) hx hb dX6_unsafeLetter_1 rfl hl (by decide) rfl (fun ls hl => ?_)
  refine lv_iconst (v := 3) hx hb dX6_unsafeLetter_2 (by decide) ?_
  refine lv_istore_n (lv' := [(2, .int 3), (1, .int 0), (0, .ref (ad (iR o0)))]) hx hb dX6_unsafeLetter_3 rfl hl (by decide) rfl (fun ls hl => ?_)
  refine lv_iconst (v := 0) hx hb dX6_unsafeLetter_4 (by decide) ?_
  refine lv_istore_n (lv' := [(3, .int 0), (2, .int 3), (1, .int 0), (0, .ref (ad (iR o0)))]) hx hb dX6_unsafeLetter_5 rfl hl (by decide) rfl (fun ls hl => ?_)
  refine W_lp (fun (x : Int32 × Int32 × Int32) H locs => KH SK E ad sz M s.heap H locs) (fun x ls => lv_has ls 5 [(0, .ref (ad (iR o0))), (1, .int x.1), (2, .int x.2.1), (3, .int x.2.2)]) (fun _ ls => F0 m 6 ls []) (fun (x : Int32 × Int32) H locs => KH SK E ad sz M s.heap H locs) (fun x ls => lv_has ls 5 [(1, .int x.1), (2, .int x.2)]) (fun _ ls => F0 m 77 ls []) ?_ ?_ hH (lv_sub hl [3, 2, 1, 0] rfl)
  · intro ⟨v4, v5⟩ H locs ls hH hl
    have hH : KH SK E ad sz M s.heap H locs := hH
    have hl : lv_has ls 5 [(1, .int v4), (2, .int v5)] := hl
    refine W_q fX6_unsafeLetter_X6_u ?_
    refine lv_iconst (v := 0) hx hb dX6_unsafeLetter_77 (by decide) ?_
    refine lv_istore_n (lv' := [(3, .int 0), (1, .int v4), (2, .int v5)]) hx hb dX6_unsafeLetter_78 rfl hl (by decide) rfl (fun ls hl => ?_)
    refine W_lp (fun (x : Int32) H locs => KH SK E ad sz M s.heap H locs) (fun x ls => lv_has ls 5 [(1, .int v4), (2, .int v5), (3, .int x)]) (fun _ ls => F0 m 79 ls []) (fun (x : Unit) H locs => KH SK E ad sz M s.heap H locs) (fun x ls => lv_has ls 5 []) (fun _ ls => F0 m 104 ls []) ?_ ?_ hH (lv_sub hl [1, 2, 0] rfl)
    · intro _ H locs ls hH hl
      have hH : KH SK E ad sz M s.heap H locs := hH
      have hl : lv_has ls 5 [] := hl
      refine W_q fX6_unsafeLetter_X79_u ?_
      refine lv_iconst (v := (-1)) hx hb dX6_unsafeLetter_104 (by decide) ?_
      exact ke_i C hH hr (Nat.le_refl _) (Nat.le_refl _) rfl dX6_unsafeLetter_105
    · intro rec79 k79 hrec79 hk79 v6 H locs ls hH hl
      have hH : KH SK E ad sz M s.heap H locs := hH
      have hl : lv_has ls 5 [(1, .int v4), (2, .int v5), (3, .int v6)] := hl
      refine W_q fX6_unsafeLetter_L79_u ?_
      refine lv_iload_n hx hb dX6_unsafeLetter_79 rfl (lv_at hl 2 rfl) ?_
      refine lv_iconst (v := 3) hx hb dX6_unsafeLetter_80 (by decide) ?_
      refine kb_icmp_ge (tgt := 104) hx hb dX6_unsafeLetter_81 (by decide) (fun _ => ?_) (fun _ => ?_)
      · exact hk79 () _ _ _ hH (lv_sub hl [] rfl)
      · refine lv_iload_n hx hb dX6_unsafeLetter_84 rfl (lv_at hl 1 rfl) ?_
        refine lv_iload_n hx hb dX6_unsafeLetter_85 rfl (lv_at hl 0 rfl) ?_
        refine lv_iconst (v := (-1)) hx hb dX6_unsafeLetter_86 (by decide) ?_
        refine lv_ixor hx hb dX6_unsafeLetter_87 ?_
        refine lv_iand hx hb dX6_unsafeLetter_88 ?_
        refine lv_iconst (v := 1) hx hb dX6_unsafeLetter_89 (by decide) ?_
        refine lv_iload_n hx hb dX6_unsafeLetter_90 rfl (lv_at hl 2 rfl) ?_
        refine k_ishl hx hb dX6_unsafeLetter_91 ?_
        refine lv_iand hx hb dX6_unsafeLetter_92 ?_
        refine kb_if_eq (tgt := 98) hx hb dX6_unsafeLetter_93 (by decide) (fun _ => ?_) (fun _ => ?_)
        · refine W_nm (fun v7 ev7 => ?_)
          refine lv_iinc (v := v7) (lv' := [(3, .int v7), (1, .int v4), (2, .int v5)]) hx hb dX6_unsafeLetter_98 hl (k := 2) rfl (by rw [ev7]; rfl) (by decide) rfl (fun ls hl => ?_)
          refine lv_goto (tgt := 79) hx hb dX6_unsafeLetter_101 (by decide) ?_
          exact hrec79 v7 _ _ _ hH (lv_sub hl [1, 2, 0] rfl)
        · refine lv_iload_n hx hb dX6_unsafeLetter_96 rfl (lv_at hl 2 rfl) ?_
          exact ke_i C hH hr (Nat.le_refl _) (Nat.le_refl _) rfl dX6_unsafeLetter_97
  · intro rec6 k6 hrec6 hk6 ⟨v1, v2, v3⟩ H locs ls hH hl
    have hH : KH SK E ad sz M s.heap H locs := hH
    have hl : lv_has ls 5 [(0, .ref (ad (iR o0))), (1, .int v1), (2, .int v2), (3, .int v3)] := hl
    refine W_q fX6_unsafeLetter_L6_u ?_
    refine lv_iload_n hx hb dX6_unsafeLetter_6 rfl (lv_at hl 3 rfl) ?_
    refine lv_iconst (v := 3) hx hb dX6_unsafeLetter_7 (by decide) ?_
    refine kb_icmp_ge (tgt := 77) hx hb dX6_unsafeLetter_8 (by decide) (fun _ => ?_) (fun _ => ?_)
    · exact hk6 (v1, v2) _ _ _ hH (lv_sub hl [1, 2] rfl)
    · refine lv_aload_n hx hb dX6_unsafeLetter_11 rfl (lv_at hl 0 rfl) ?_
      refine lv_aload_n hx hb dX6_unsafeLetter_12 rfl (lv_at hl 0 rfl) ?_
      refine k_get C hH fd_X6_21 (oR (f := o0) ho0) (k_int (M := M) (ad := ad) (nR3 (f := o0) ho0)) dX6_unsafeLetter_13 ?_
      refine lv_iload_n hx hb dX6_unsafeLetter_16 rfl (lv_at hl 3 rfl) ?_
      refine kg_io C hH (kc_V C hH w_2_92 lc_yX6_code li_yX6_code (oR (f := o0) ho0) (kX6_code l E ad M o0 ho0 (M.1 (iR o0) 3) v3) (As := [.int (M.1 (iR o0) 3), .int v3]) rfl dX6_unsafeLetter_17 rfl hl.1 (Nat.le_of_ble_eq_true rfl) ⟨Nat.le_of_ble_eq_true rfl, Nat.le_of_ble_eq_true rfl⟩ ⟨Nat.le_of_ble_eq_true rfl, Nat.le_of_ble_eq_true rfl⟩) ⟨rfl, rfl⟩ (fun v8 H locs hH => ?_)
      refine lv_istore (lv' := [(4, .int v8), (0, .ref (ad (iR o0))), (1, .int v1), (2, .int v2), (3, .int v3)]) hx hb dX6_unsafeLetter_20 hl (by decide) rfl (fun ls hl => ?_)
      refine lv_iload hx hb dX6_unsafeLetter_22 (lv_at hl 0 rfl) ?_
      refine kb_if_le (tgt := 48) hx hb dX6_unsafeLetter_24 (by decide) (fun _ => ?_) (fun _ => ?_)
      · refine lv_iload hx hb dX6_unsafeLetter_48 (lv_at hl 0 rfl) ?_
        refine kb_if_ge (tgt := 71) hx hb dX6_unsafeLetter_50 (by decide) (fun _ => ?_) (fun _ => ?_)
        · refine W_nm (fun v9 ev9 => ?_)
          refine lv_iinc (v := v9) (lv' := [(3, .int v9), (4, .int v8), (0, .ref (ad (iR o0))), (1, .int v1), (2, .int v2)]) hx hb dX6_unsafeLetter_71 hl (k := 4) rfl (by rw [ev9]; rfl) (by decide) rfl (fun ls hl => ?_)
          refine lv_goto (tgt := 6) hx hb dX6_unsafeLetter_74 (by decide) ?_
          exact hrec6 (v1, v2, v9) _ _ _ hH (lv_sub hl [2, 3, 4, 0] rfl)
        · refine lv_iload_n hx hb dX6_unsafeLetter_53 rfl (lv_at hl 3 rfl) ?_
          refine lv_iconst (v := 1) hx hb dX6_unsafeLetter_54 (by decide) ?_
          refine lv_iload hx hb dX6_unsafeLetter_55 (lv_at hl 0 rfl) ?_
          refine kg_io C hH (kc_SN C hH w_2_97 w_st_yX9_firstIn lc_yX9_firstIn (kX9_firstIn l E ad M v8) (As := [.int v8]) rfl dX6_unsafeLetter_57 rfl hl.1 (Nat.le_of_ble_eq_true rfl) ⟨Nat.le_of_ble_eq_true rfl, Nat.le_of_ble_eq_true rfl⟩ ⟨Nat.le_of_ble_eq_true rfl, Nat.le_of_ble_eq_true rfl⟩) ⟨rfl, rfl⟩ (fun v10 H locs hH => ?_)
          refine k_ishl hx hb dX6_unsafeLetter_60 ?_
          refine lv_iconst (v := 1) hx hb dX6_unsafeLetter_61 (by decide) ?_
          refine lv_iload hx hb dX6_unsafeLetter_62 (lv_at hl 0 rfl) ?_
          refine kg_ip C hH (kc_SN C hH w_2_100 w_st_yX9_secondIn lc_yX9_secondIn (kX9_secondIn l E ad M v8) (As := [.int v8]) rfl dX6_unsafeLetter_64 rfl hl.1 (Nat.le_of_ble_eq_true rfl) ⟨Nat.le_of_ble_eq_true rfl, Nat.le_of_ble_eq_true rfl⟩ ⟨Nat.le_of_ble_eq_true rfl, Nat.le_of_ble_eq_true rfl⟩) ⟨rfl, rfl⟩ (fun H locs hH => ?_)
          refine k_ishl hx hb dX6_unsafeLetter_67 ?_
          refine lv_ior hx hb dX6_unsafeLetter_68 ?_
          refine lv_ior hx hb dX6_unsafeLetter_69 ?_
          refine W_nmi (fun v11 => ?_)
          refine lv_istore_n (lv' := [(2, .int v11), (4, .int v8), (0, .ref (ad (iR o0))), (1, .int v1), (3, .int v3)]) hx hb dX6_unsafeLetter_70 rfl hl (by decide) rfl (fun ls hl => ?_)
          refine W_nm (fun v12 ev12 => ?_)
          refine lv_iinc (v := v12) (lv' := [(3, .int v12), (2, .int v11), (4, .int v8), (0, .ref (ad (iR o0))), (1, .int v1)]) hx hb dX6_unsafeLetter_71 hl (k := 4) rfl (by rw [ev12]; rfl) (by decide) rfl (fun ls hl => ?_)
          refine lv_goto (tgt := 6) hx hb dX6_unsafeLetter_74 (by decide) ?_
          exact hrec6 (v1, v11, v12) _ _ _ hH (lv_sub hl [3, 4, 1, 0] rfl)
      · refine lv_iload_n hx hb dX6_unsafeLetter_27 rfl (lv_at hl 2 rfl) ?_
        refine lv_iconst (v := 1) hx hb dX6_unsafeLetter_28 (by decide) ?_
        refine lv_iload hx hb dX6_unsafeLetter_29 (lv_at hl 0 rfl) ?_
        refine kg_io C hH (kc_SN C hH w_2_97 w_st_yX9_firstIn lc_yX9_firstIn (kX9_firstIn l E ad M v8) (As := [.int v8]) rfl dX6_unsafeLetter_31 rfl hl.1 (Nat.le_of_ble_eq_true rfl) ⟨Nat.le_of_ble_eq_true rfl, Nat.le_of_ble_eq_true rfl⟩ ⟨Nat.le_of_ble_eq_true rfl, Nat.le_of_ble_eq_true rfl⟩) ⟨rfl, rfl⟩ (fun v13 H locs hH => ?_)
        refine k_ishl hx hb dX6_unsafeLetter_34 ?_
        refine lv_iconst (v := 1) hx hb dX6_unsafeLetter_35 (by decide) ?_
        refine lv_iload hx hb dX6_unsafeLetter_36 (lv_at hl 0 rfl) ?_
        refine kg_ip C hH (kc_SN C hH w_2_100 w_st_yX9_secondIn lc_yX9_secondIn (kX9_secondIn l E ad M v8) (As := [.int v8]) rfl dX6_unsafeLetter_38 rfl hl.1 (Nat.le_of_ble_eq_true rfl) ⟨Nat.le_of_ble_eq_true rfl, Nat.le_of_ble_eq_true rfl⟩ ⟨Nat.le_of_ble_eq_true rfl, Nat.le_of_ble_eq_true rfl⟩) ⟨rfl, rfl⟩ (fun H locs hH => ?_)
        refine k_ishl hx hb dX6_unsafeLetter_41 ?_
        refine lv_ior hx hb dX6_unsafeLetter_42 ?_
        refine lv_ior hx hb dX6_unsafeLetter_43 ?_
        refine W_nmi (fun v14 => ?_)
        refine lv_istore_n (lv' := [(1, .int v14), (4, .int v8), (0, .ref (ad (iR o0))), (2, .int v2), (3, .int v3)]) hx hb dX6_unsafeLetter_44 rfl hl (by decide) rfl (fun ls hl => ?_)
        refine lv_goto (tgt := 71) hx hb dX6_unsafeLetter_45 (by decide) ?_
        refine W_nm (fun v15 ev15 => ?_)
        refine lv_iinc (v := v15) (lv' := [(3, .int v15), (1, .int v14), (4, .int v8), (0, .ref (ad (iR o0))), (2, .int v2)]) hx hb dX6_unsafeLetter_71 hl (k := 4) rfl (by rw [ev15]; rfl) (by decide) rfl (fun ls hl => ?_)
        refine lv_goto (tgt := 6) hx hb dX6_unsafeLetter_74 (by decide) ?_
        exact hrec6 (v14, v2, v15) _ _ _ hH (lv_sub hl [3, 1, 4, 0] rfl)
def fX6_sameAsProposed_X2 (_ : Unit) : Option (Int32) := some (-1)
theorem fX6_sameAsProposed_X2_u {u : Unit} : fX6_sameAsProposed_X2 u = some (-1) := rfl
def fX6_sameAsProposed_L2 (M : KS) (o0 : Nat) (rec2 : (Int32) → Option (Int32)) (k2 : (Unit) → Option (Int32)) (v1 : Int32) : Option (Int32) := (if (M.1 (iR o0) 3) ≤ v1 then k2 () else (fX6_head M o0 v1).bind fun v2 => (fX6_head M o0 (M.1 (iR o0) 3)).bind fun v3 => (if v2 = v3 then (fX6_code M o0 v1 0).bind fun v5 => (fX6_code M o0 (M.1 (iR o0) 3) 0).bind fun v6 => (if v5 = v6 then (fX6_code M o0 v1 1).bind fun v8 => (fX6_code M o0 (M.1 (iR o0) 3) 1).bind fun v9 => (if v8 = v9 then (fX6_code M o0 v1 2).bind fun v11 => (fX6_code M o0 (M.1 (iR o0) 3) 2).bind fun v12 => (if v11 = v12 then some v1 else nm (v1 + 1) fun v13 => rec2 v13) else nm (v1 + 1) fun v10 => rec2 v10) else nm (v1 + 1) fun v7 => rec2 v7) else nm (v1 + 1) fun v4 => rec2 v4))
theorem fX6_sameAsProposed_L2_u {M : KS} {o0 : Nat} {rec2 : (Int32) → Option (Int32)} {k2 : (Unit) → Option (Int32)} {v1 : Int32} : fX6_sameAsProposed_L2 M o0 rec2 k2 v1 = (if (M.1 (iR o0) 3) ≤ v1 then k2 () else (fX6_head M o0 v1).bind fun v2 => (fX6_head M o0 (M.1 (iR o0) 3)).bind fun v3 => (if v2 = v3 then (fX6_code M o0 v1 0).bind fun v5 => (fX6_code M o0 (M.1 (iR o0) 3) 0).bind fun v6 => (if v5 = v6 then (fX6_code M o0 v1 1).bind fun v8 => (fX6_code M o0 (M.1 (iR o0) 3) 1).bind fun v9 => (if v8 = v9 then (fX6_code M o0 v1 2).bind fun v11 => (fX6_code M o0 (M.1 (iR o0) 3) 2).bind fun v12 => (if v11 = v12 then some v1 else nm (v1 + 1) fun v13 => rec2 v13) else nm (v1 + 1) fun v10 => rec2 v10) else nm (v1 + 1) fun v7 => rec2 v7) else nm (v1 + 1) fun v4 => rec2 v4)) := rfl
def fX6_sameAsProposed (M : KS) (o0 : Nat) : Option (Int32) := lp (fX6_sameAsProposed_L2 M o0) (fX6_sameAsProposed_X2) 1000000 0
set_option maxHeartbeats 4000000 in
set_option maxRecDepth 100000 in
theorem kX6_sameAsProposed (l : Launch) (E : KE) (ad : Nat → Nat) (M : KS) (o0 : Nat) (ho0 : o0 < 11) : CT l yX6_sameAsProposed cX6_sameAsProposed 2 (some .int) { frames := 1, cells := 0, slots := 0, locals := 22 } SK E ad [.ref (ad (iR o0))] M (fun sz a => QI SK E ad sz (a, M)) (fX6_sameAsProposed M o0) := by
  refine CT.ofW (by decide) (Nat.le_of_ble_eq_true rfl) (fun sz p e s m args below meth c C hr hH ls hl => ?_)
  have hx := C.1.1
  have hb := C.1.2.1
  have hl : lv_has ls 2 [(0, .ref (ad (iR o0)))] := hl
  unfold fX6_sameAsProposed
  refine lv_iconst (v := 0) hx hb dX6_sameAsProposed_0 (by decide) ?_
  refine lv_istore_n (lv' := [(1, .int 0), (0, .ref (ad (iR o0)))]) hx hb dX6_sameAsProposed_1 rfl hl (by decide) rfl (fun ls hl => ?_)
  refine W_lp (fun (x : Int32) H locs => KH SK E ad sz M s.heap H locs) (fun x ls => lv_has ls 2 [(0, .ref (ad (iR o0))), (1, .int x)]) (fun _ ls => F0 m 2 ls []) (fun (x : Unit) H locs => KH SK E ad sz M s.heap H locs) (fun x ls => lv_has ls 2 []) (fun _ ls => F0 m 88 ls []) ?_ ?_ hH (lv_sub hl [1, 0] rfl)
  · intro _ H locs ls hH hl
    have hH : KH SK E ad sz M s.heap H locs := hH
    have hl : lv_has ls 2 [] := hl
    refine W_q fX6_sameAsProposed_X2_u ?_
    refine lv_iconst (v := (-1)) hx hb dX6_sameAsProposed_88 (by decide) ?_
    exact ke_i C hH hr (Nat.le_refl _) (Nat.le_refl _) rfl dX6_sameAsProposed_89
  · intro rec2 k2 hrec2 hk2 v1 H locs ls hH hl
    have hH : KH SK E ad sz M s.heap H locs := hH
    have hl : lv_has ls 2 [(0, .ref (ad (iR o0))), (1, .int v1)] := hl
    refine W_q fX6_sameAsProposed_L2_u ?_
    refine lv_iload_n hx hb dX6_sameAsProposed_2 rfl (lv_at hl 1 rfl) ?_
    refine lv_aload_n hx hb dX6_sameAsProposed_3 rfl (lv_at hl 0 rfl) ?_
    refine k_get C hH fd_X6_21 (oR (f := o0) ho0) (k_int (M := M) (ad := ad) (nR3 (f := o0) ho0)) dX6_sameAsProposed_4 ?_
    refine kb_icmp_ge (tgt := 88) hx hb dX6_sameAsProposed_7 (by decide) (fun _ => ?_) (fun _ => ?_)
    · exact hk2 () _ _ _ hH (lv_sub hl [] rfl)
    · refine lv_aload_n hx hb dX6_sameAsProposed_10 rfl (lv_at hl 0 rfl) ?_
      refine lv_iload_n hx hb dX6_sameAsProposed_11 rfl (lv_at hl 1 rfl) ?_
      refine kg_io C hH (kc_V C hH w_2_191 lc_yX6_head li_yX6_head (oR (f := o0) ho0) (kX6_head l E ad M o0 ho0 v1) (As := [.int v1]) rfl dX6_sameAsProposed_12 rfl hl.1 (Nat.le_of_ble_eq_true rfl) ⟨Nat.le_of_ble_eq_true rfl, Nat.le_of_ble_eq_true rfl⟩ ⟨Nat.le_of_ble_eq_true rfl, Nat.le_of_ble_eq_true rfl⟩) ⟨rfl, rfl⟩ (fun v2 H locs hH => ?_)
      refine lv_aload_n hx hb dX6_sameAsProposed_15 rfl (lv_at hl 0 rfl) ?_
      refine lv_aload_n hx hb dX6_sameAsProposed_16 rfl (lv_at hl 0 rfl) ?_
      refine k_get C hH fd_X6_21 (oR (f := o0) ho0) (k_int (M := M) (ad := ad) (nR3 (f := o0) ho0)) dX6_sameAsProposed_17 ?_
      refine kg_io C hH (kc_V C hH w_2_191 lc_yX6_head li_yX6_head (oR (f := o0) ho0) (kX6_head l E ad M o0 ho0 (M.1 (iR o0) 3)) (As := [.int (M.1 (iR o0) 3)]) rfl dX6_sameAsProposed_20 rfl hl.1 (Nat.le_of_ble_eq_true rfl) ⟨Nat.le_of_ble_eq_true rfl, Nat.le_of_ble_eq_true rfl⟩ ⟨Nat.le_of_ble_eq_true rfl, Nat.le_of_ble_eq_true rfl⟩) ⟨rfl, rfl⟩ (fun v3 H locs hH => ?_)
      refine kb_icmp_ne (tgt := 82) hx hb dX6_sameAsProposed_23 (by decide) (fun _ => ?_) (fun _ => ?_)
      · refine W_nm (fun v4 ev4 => ?_)
        refine lv_iinc (v := v4) (lv' := [(1, .int v4), (0, .ref (ad (iR o0)))]) hx hb dX6_sameAsProposed_82 hl (k := 1) rfl (by rw [ev4]; rfl) (by decide) rfl (fun ls hl => ?_)
        refine lv_goto (tgt := 2) hx hb dX6_sameAsProposed_85 (by decide) ?_
        exact hrec2 v4 _ _ _ hH (lv_sub hl [1, 0] rfl)
      · refine lv_aload_n hx hb dX6_sameAsProposed_26 rfl (lv_at hl 0 rfl) ?_
        refine lv_iload_n hx hb dX6_sameAsProposed_27 rfl (lv_at hl 1 rfl) ?_
        refine lv_iconst (v := 0) hx hb dX6_sameAsProposed_28 (by decide) ?_
        refine kg_io C hH (kc_V C hH w_2_92 lc_yX6_code li_yX6_code (oR (f := o0) ho0) (kX6_code l E ad M o0 ho0 v1 0) (As := [.int v1, .int 0]) rfl dX6_sameAsProposed_29 rfl hl.1 (Nat.le_of_ble_eq_true rfl) ⟨Nat.le_of_ble_eq_true rfl, Nat.le_of_ble_eq_true rfl⟩ ⟨Nat.le_of_ble_eq_true rfl, Nat.le_of_ble_eq_true rfl⟩) ⟨rfl, rfl⟩ (fun v5 H locs hH => ?_)
        refine lv_aload_n hx hb dX6_sameAsProposed_32 rfl (lv_at hl 0 rfl) ?_
        refine lv_aload_n hx hb dX6_sameAsProposed_33 rfl (lv_at hl 0 rfl) ?_
        refine k_get C hH fd_X6_21 (oR (f := o0) ho0) (k_int (M := M) (ad := ad) (nR3 (f := o0) ho0)) dX6_sameAsProposed_34 ?_
        refine lv_iconst (v := 0) hx hb dX6_sameAsProposed_37 (by decide) ?_
        refine kg_io C hH (kc_V C hH w_2_92 lc_yX6_code li_yX6_code (oR (f := o0) ho0) (kX6_code l E ad M o0 ho0 (M.1 (iR o0) 3) 0) (As := [.int (M.1 (iR o0) 3), .int 0]) rfl dX6_sameAsProposed_38 rfl hl.1 (Nat.le_of_ble_eq_true rfl) ⟨Nat.le_of_ble_eq_true rfl, Nat.le_of_ble_eq_true rfl⟩ ⟨Nat.le_of_ble_eq_true rfl, Nat.le_of_ble_eq_true rfl⟩) ⟨rfl, rfl⟩ (fun v6 H locs hH => ?_)
        refine kb_icmp_ne (tgt := 82) hx hb dX6_sameAsProposed_41 (by decide) (fun _ => ?_) (fun _ => ?_)
        · refine W_nm (fun v7 ev7 => ?_)
          refine lv_iinc (v := v7) (lv' := [(1, .int v7), (0, .ref (ad (iR o0)))]) hx hb dX6_sameAsProposed_82 hl (k := 1) rfl (by rw [ev7]; rfl) (by decide) rfl (fun ls hl => ?_)
          refine lv_goto (tgt := 2) hx hb dX6_sameAsProposed_85 (by decide) ?_
          exact hrec2 v7 _ _ _ hH (lv_sub hl [1, 0] rfl)
        · refine lv_aload_n hx hb dX6_sameAsProposed_44 rfl (lv_at hl 0 rfl) ?_
          refine lv_iload_n hx hb dX6_sameAsProposed_45 rfl (lv_at hl 1 rfl) ?_
          refine lv_iconst (v := 1) hx hb dX6_sameAsProposed_46 (by decide) ?_
          refine kg_io C hH (kc_V C hH w_2_92 lc_yX6_code li_yX6_code (oR (f := o0) ho0) (kX6_code l E ad M o0 ho0 v1 1) (As := [.int v1, .int 1]) rfl dX6_sameAsProposed_47 rfl hl.1 (Nat.le_of_ble_eq_true rfl) ⟨Nat.le_of_ble_eq_true rfl, Nat.le_of_ble_eq_true rfl⟩ ⟨Nat.le_of_ble_eq_true rfl, Nat.le_of_ble_eq_true rfl⟩) ⟨rfl, rfl⟩ (fun v8 H locs hH => ?_)
          refine lv_aload_n hx hb dX6_sameAsProposed_50 rfl (lv_at hl 0 rfl) ?_
          refine lv_aload_n hx hb dX6_sameAsProposed_51 rfl (lv_at hl 0 rfl) ?_
          refine k_get C hH fd_X6_21 (oR (f := o0) ho0) (k_int (M := M) (ad := ad) (nR3 (f := o0) ho0)) dX6_sameAsProposed_52 ?_
          refine lv_iconst (v := 1) hx hb dX6_sameAsProposed_55 (by decide) ?_
          refine kg_io C hH (kc_V C hH w_2_92 lc_yX6_code li_yX6_code (oR (f := o0) ho0) (kX6_code l E ad M o0 ho0 (M.1 (iR o0) 3) 1) (As := [.int (M.1 (iR o0) 3), .int 1]) rfl dX6_sameAsProposed_56 rfl hl.1 (Nat.le_of_ble_eq_true rfl) ⟨Nat.le_of_ble_eq_true rfl, Nat.le_of_ble_eq_true rfl⟩ ⟨Nat.le_of_ble_eq_true rfl, Nat.le_of_ble_eq_true rfl⟩) ⟨rfl, rfl⟩ (fun v9 H locs hH => ?_)
          refine kb_icmp_ne (tgt := 82) hx hb dX6_sameAsProposed_59 (by decide) (fun _ => ?_) (fun _ => ?_)
          · refine W_nm (fun v10 ev10 => ?_)
            refine lv_iinc (v := v10) (lv' := [(1, .int v10), (0, .ref (ad (iR o0)))]) hx hb dX6_sameAsProposed_82 hl (k := 1) rfl (by rw [ev10]; rfl) (by decide) rfl (fun ls hl => ?_)
            refine lv_goto (tgt := 2) hx hb dX6_sameAsProposed_85 (by decide) ?_
            exact hrec2 v10 _ _ _ hH (lv_sub hl [1, 0] rfl)
          · refine lv_aload_n hx hb dX6_sameAsProposed_62 rfl (lv_at hl 0 rfl) ?_
            refine lv_iload_n hx hb dX6_sameAsProposed_63 rfl (lv_at hl 1 rfl) ?_
            refine lv_iconst (v := 2) hx hb dX6_sameAsProposed_64 (by decide) ?_
            refine kg_io C hH (kc_V C hH w_2_92 lc_yX6_code li_yX6_code (oR (f := o0) ho0) (kX6_code l E ad M o0 ho0 v1 2) (As := [.int v1, .int 2]) rfl dX6_sameAsProposed_65 rfl hl.1 (Nat.le_of_ble_eq_true rfl) ⟨Nat.le_of_ble_eq_true rfl, Nat.le_of_ble_eq_true rfl⟩ ⟨Nat.le_of_ble_eq_true rfl, Nat.le_of_ble_eq_true rfl⟩) ⟨rfl, rfl⟩ (fun v11 H locs hH => ?_)
            refine lv_aload_n hx hb dX6_sameAsProposed_68 rfl (lv_at hl 0 rfl) ?_
            refine lv_aload_n hx hb dX6_sameAsProposed_69 rfl (lv_at hl 0 rfl) ?_
            refine k_get C hH fd_X6_21 (oR (f := o0) ho0) (k_int (M := M) (ad := ad) (nR3 (f := o0) ho0)) dX6_sameAsProposed_70 ?_
            refine lv_iconst (v := 2) hx hb dX6_sameAsProposed_73 (by decide) ?_
            refine kg_io C hH (kc_V C hH w_2_92 lc_yX6_code li_yX6_code (oR (f := o0) ho0) (kX6_code l E ad M o0 ho0 (M.1 (iR o0) 3) 2) (As := [.int (M.1 (iR o0) 3), .int 2]) rfl dX6_sameAsProposed_74 rfl hl.1 (Nat.le_of_ble_eq_true rfl) ⟨Nat.le_of_ble_eq_true rfl, Nat.le_of_ble_eq_true rfl⟩ ⟨Nat.le_of_ble_eq_true rfl, Nat.le_of_ble_eq_true rfl⟩) ⟨rfl, rfl⟩ (fun v12 H locs hH => ?_)
            refine kb_icmp_ne (tgt := 82) hx hb dX6_sameAsProposed_77 (by decide) (fun _ => ?_) (fun _ => ?_)
            · refine W_nm (fun v13 ev13 => ?_)
              refine lv_iinc (v := v13) (lv' := [(1, .int v13), (0, .ref (ad (iR o0)))]) hx hb dX6_sameAsProposed_82 hl (k := 1) rfl (by rw [ev13]; rfl) (by decide) rfl (fun ls hl => ?_)
              refine lv_goto (tgt := 2) hx hb dX6_sameAsProposed_85 (by decide) ?_
              exact hrec2 v13 _ _ _ hH (lv_sub hl [1, 0] rfl)
            · refine lv_iload_n hx hb dX6_sameAsProposed_80 rfl (lv_at hl 1 rfl) ?_
              exact ke_i C hH hr (Nat.le_refl _) (Nat.le_refl _) rfl dX6_sameAsProposed_81
def fX6_accept (M : KS) (o0 : Nat) : Option (KS) := (if 10 ≤ (M.1 (iR o0) 3) then some M else nm (kset M (iR o0) 3 ((M.1 (iR o0) 3) + 1)) fun M1 => some M1)
set_option maxHeartbeats 4000000 in
set_option maxRecDepth 100000 in
theorem kX6_accept (l : Launch) (E : KE) (ad : Nat → Nat) (M : KS) (o0 : Nat) (ho0 : o0 < 11) : CT l yX6_accept cX6_accept 1 none { frames := 0, cells := 0, slots := 0, locals := 0 } SK E ad [.ref (ad (iR o0))] M (QV SK E ad) (fX6_accept M o0) := by
  refine CT.ofW (by decide) (Nat.le_of_ble_eq_true rfl) (fun sz p e s m args below meth c C hr hH ls hl => ?_)
  have hx := C.1.1
  have hb := C.1.2.1
  have hl : lv_has ls 1 [(0, .ref (ad (iR o0)))] := hl
  unfold fX6_accept
  refine lv_aload_n hx hb dX6_accept_0 rfl (lv_at hl 0 rfl) ?_
  refine k_get C hH fd_X6_21 (oR (f := o0) ho0) (k_int (M := M) (ad := ad) (nR3 (f := o0) ho0)) dX6_accept_1 ?_
  refine lv_bipush (v := 10) hx hb dX6_accept_4 (by decide) ?_
  refine kb_icmp_ge (tgt := 19) hx hb dX6_accept_6 (by decide) (fun _ => ?_) (fun _ => ?_)
  · exact ke_v C hH hr (Nat.le_refl _) (Nat.le_refl _) rfl dX6_accept_19
  · refine lv_aload_n hx hb dX6_accept_9 rfl (lv_at hl 0 rfl) ?_
    refine lv_dup hx hb dX6_accept_10 rfl ?_
    refine k_get C hH fd_X6_21 (oR (f := o0) ho0) (k_int (M := M) (ad := ad) (nR3 (f := o0) ho0)) dX6_accept_11 ?_
    refine lv_iconst (v := 1) hx hb dX6_accept_14 (by decide) ?_
    refine lv_iadd hx hb dX6_accept_15 ?_
    refine k_put1 C hH fd_X6_21 fw_X6_3 (oR (f := o0) ho0) (nR3 (f := o0) ho0) rfl rfl dX6_accept_16 (fun M1 H locs hH => ?_)
    exact ke_v C hH hr (Nat.le_refl _) (Nat.le_refl _) rfl dX6_accept_19
def fX9_addRule (M : KS) (a1 : Int32) (a2 : Int32) (a3 : Int32) (a4 : Int32) : Option (Int32 × KS) := (fX6_propose M 0 a1 a2 a3 a4).bind fun M1 => (fX6_unsafeLetter M1 0).bind fun v2 => (if v2 < 0 then (fX6_sameAsProposed M1 0).bind fun v3 => (if v3 < 0 then (if (M1.1 (iR 0) 3) < 10 then bd2 (fX3_arrange M1 2 0 ((M1.1 (iR 0) 3) + 1)) fun v5 M4 => (if v5 = 0 then bd2 (fX9_refuse M4 5 a1) fun v9 M8 => if isB v9 then some (v9, M8) else none else (fX6_accept M4 0).bind fun M6 => (fX1_outdate M6).bind fun M7 => some (1, M7)) else bd2 (fX9_refuse M1 1 (M1.1 (iR 0) 3)) fun v11 M10 => if isB v11 then some (v11, M10) else none) else bd2 (fX9_refuse M1 6 v3) fun v13 M12 => if isB v13 then some (v13, M12) else none) else bd2 (fX9_refuse M1 4 v2) fun v15 M14 => if isB v15 then some (v15, M14) else none)
set_option maxHeartbeats 4000000 in
set_option maxRecDepth 100000 in
theorem kX9_addRule (l : Launch) (E : KE) (ad : Nat → Nat) (M : KS) (a1 : Int32) (a2 : Int32) (a3 : Int32) (a4 : Int32) : CT l yX9_addRule cX9_addRule 8 (some .boolean) { frames := 3, cells := 0, slots := 0, locals := 73 } SK E ad [.ref (ad 121), .int a1, .int a2, .int a3, .int a4] M (QI SK E ad) (fX9_addRule M a1 a2 a3 a4) := by
  refine CT.ofW (by decide) (Nat.le_of_ble_eq_true rfl) (fun sz p e s m args below meth c C hr hH ls hl => ?_)
  have hx := C.1.1
  have hb := C.1.2.1
  have hl : lv_has ls 8 [(0, .ref (ad 121)), (1, .int a1), (2, .int a2), (3, .int a3), (4, .int a4)] := hl
  unfold fX9_addRule
  refine lv_aload_n hx hb dX9_addRule_0 rfl (lv_at hl 0 rfl) ?_
  refine k_get C hH fd_X9_10 oK (k_ref (M := M) (ad := ad) rK0) dX9_addRule_1 ?_
  refine k_getN C hH fn_X9_128 (oS (f := 0) (by decide)) (k_ref (M := M) (ad := ad) (rS1 (f := 0) (by decide))) dX9_addRule_4 ?_
  refine lv_astore (lv' := [(5, .ref (ad (iR 0))), (0, .ref (ad 121)), (1, .int a1), (2, .int a2), (3, .int a3), (4, .int a4)]) hx hb dX9_addRule_7 hl (by decide) rfl (fun ls hl => ?_)
  refine lv_aload hx hb dX9_addRule_9 (lv_at hl 0 rfl) ?_
  refine lv_iload_n hx hb dX9_addRule_11 rfl (lv_at hl 2 rfl) ?_
  refine lv_iload_n hx hb dX9_addRule_12 rfl (lv_at hl 3 rfl) ?_
  refine lv_iload_n hx hb dX9_addRule_13 rfl (lv_at hl 4 rfl) ?_
  refine lv_iload hx hb dX9_addRule_14 (lv_at hl 5 rfl) ?_
  refine kg_v C hH (kc_V C hH w_4_80 lc_yX6_propose li_yX6_propose (oR (f := 0) (by decide)) (kX6_propose l E ad M 0 (by decide) a1 a2 a3 a4) (As := [.int a1, .int a2, .int a3, .int a4]) rfl dX9_addRule_16 rfl hl.1 (Nat.le_of_ble_eq_true rfl) ⟨Nat.le_of_ble_eq_true rfl, Nat.le_of_ble_eq_true rfl⟩ ⟨Nat.le_of_ble_eq_true rfl, Nat.le_of_ble_eq_true rfl⟩) ⟨rfl, rfl⟩ (fun M1 H locs hH => ?_)
  refine lv_aload hx hb dX9_addRule_19 (lv_at hl 0 rfl) ?_
  refine kg_io C hH (kc_V C hH w_4_87 lc_yX6_unsafeLetter li_yX6_unsafeLetter (oR (f := 0) (by decide)) (kX6_unsafeLetter l E ad M1 0 (by decide)) (As := []) rfl dX9_addRule_21 rfl hl.1 (Nat.le_of_ble_eq_true rfl) ⟨Nat.le_of_ble_eq_true rfl, Nat.le_of_ble_eq_true rfl⟩ ⟨Nat.le_of_ble_eq_true rfl, Nat.le_of_ble_eq_true rfl⟩) ⟨rfl, rfl⟩ (fun v2 H locs hH => ?_)
  refine lv_istore (lv' := [(6, .int v2), (5, .ref (ad (iR 0))), (0, .ref (ad 121)), (1, .int a1), (2, .int a2), (3, .int a3), (4, .int a4)]) hx hb dX9_addRule_24 hl (by decide) rfl (fun ls hl => ?_)
  refine lv_iload hx hb dX9_addRule_26 (lv_at hl 0 rfl) ?_
  refine kb_if_lt (tgt := 39) hx hb dX9_addRule_28 (by decide) (fun _ => ?_) (fun _ => ?_)
  · refine lv_aload hx hb dX9_addRule_39 (lv_at hl 1 rfl) ?_
    refine kg_io C hH (kc_V C hH w_4_91 lc_yX6_sameAsProposed li_yX6_sameAsProposed (oR (f := 0) (by decide)) (kX6_sameAsProposed l E ad M1 0 (by decide)) (As := []) rfl dX9_addRule_41 rfl hl.1 (Nat.le_of_ble_eq_true rfl) ⟨Nat.le_of_ble_eq_true rfl, Nat.le_of_ble_eq_true rfl⟩ ⟨Nat.le_of_ble_eq_true rfl, Nat.le_of_ble_eq_true rfl⟩) ⟨rfl, rfl⟩ (fun v3 H locs hH => ?_)
    refine lv_istore (lv' := [(7, .int v3), (6, .int v2), (5, .ref (ad (iR 0))), (0, .ref (ad 121)), (1, .int a1), (2, .int a2), (3, .int a3), (4, .int a4)]) hx hb dX9_addRule_44 hl (by decide) rfl (fun ls hl => ?_)
    refine lv_iload hx hb dX9_addRule_46 (lv_at hl 0 rfl) ?_
    refine kb_if_lt (tgt := 60) hx hb dX9_addRule_48 (by decide) (fun _ => ?_) (fun _ => ?_)
    · refine lv_aload hx hb dX9_addRule_60 (lv_at hl 2 rfl) ?_
      refine k_getN C hH fn_X9_233 (oR (f := 0) (by decide)) (k_int (M := M1) (ad := ad) (nR3 (f := 0) (by decide))) dX9_addRule_62 ?_
      refine lv_bipush (v := 10) hx hb dX9_addRule_65 (by decide) ?_
      refine kb_icmp_lt (tgt := 81) hx hb dX9_addRule_67 (by decide) (fun _ => ?_) (fun _ => ?_)
      · refine lv_aload_n hx hb dX9_addRule_81 rfl (lv_at hl 3 rfl) ?_
        refine k_get C hH fd_X9_43 oK (k_ref (M := M1) (ad := ad) rK5) dX9_addRule_82 ?_
        refine lv_aload hx hb dX9_addRule_85 (lv_at hl 2 rfl) ?_
        refine lv_aload hx hb dX9_addRule_87 (lv_at hl 2 rfl) ?_
        refine k_getN C hH fn_X9_233 (oR (f := 0) (by decide)) (k_int (M := M1) (ad := ad) (nR3 (f := 0) (by decide))) dX9_addRule_89 ?_
        refine lv_iconst (v := 1) hx hb dX9_addRule_92 (by decide) ?_
        refine lv_iadd hx hb dX9_addRule_93 ?_
        refine kg_ib C hH (kc_V C hH w_4_95 lc_yX3_arrange li_yX3_arrange (oY (f := 2) (by decide)) (kX3_arrange l E ad M1 2 (by decide) 0 (by decide) ((M1.1 (iR 0) 3) + 1)) (As := [.ref (ad (iR 0)), .int ((M1.1 (iR 0) 3) + 1)]) rfl dX9_addRule_94 rfl hl.1 (Nat.le_of_ble_eq_true rfl) ⟨Nat.le_of_ble_eq_true rfl, Nat.le_of_ble_eq_true rfl⟩ ⟨Nat.le_of_ble_eq_true rfl, Nat.le_of_ble_eq_true rfl⟩) ⟨rfl, rfl⟩ (fun v5 M4 H locs hH => ?_)
        refine kb_if_ne (tgt := 107) hx hb dX9_addRule_97 (by decide) (fun _ => ?_) (fun _ => ?_)
        · refine lv_aload hx hb dX9_addRule_107 (lv_at hl 2 rfl) ?_
          refine kg_v C hH (kc_V C hH w_4_96 lc_yX6_accept li_yX6_accept (oR (f := 0) (by decide)) (kX6_accept l E ad M4 0 (by decide)) (As := []) rfl dX9_addRule_109 rfl hl.1 (Nat.le_of_ble_eq_true rfl) ⟨Nat.le_of_ble_eq_true rfl, Nat.le_of_ble_eq_true rfl⟩ ⟨Nat.le_of_ble_eq_true rfl, Nat.le_of_ble_eq_true rfl⟩) ⟨rfl, rfl⟩ (fun M6 H locs hH => ?_)
          refine lv_aload_n hx hb dX9_addRule_112 rfl (lv_at hl 3 rfl) ?_
          refine k_get C hH fd_X9_29 oK (k_ref (M := M6) (ad := ad) rK3) dX9_addRule_113 ?_
          refine kg_v C hH (kc_V C hH w_3_97 lc_yX1_outdate li_yX1_outdate oD (kX1_outdate l E ad M6) (As := []) rfl dX9_addRule_116 rfl hl.1 (Nat.le_of_ble_eq_true rfl) ⟨Nat.le_of_ble_eq_true rfl, Nat.le_of_ble_eq_true rfl⟩ ⟨Nat.le_of_ble_eq_true rfl, Nat.le_of_ble_eq_true rfl⟩) ⟨rfl, rfl⟩ (fun M7 H locs hH => ?_)
          refine lv_iconst (v := 1) hx hb dX9_addRule_119 (by decide) ?_
          exact ke_z C hH hr (Nat.le_refl _) (Nat.le_refl _) rfl (Or.inr rfl) dX9_addRule_120
        · refine lv_aload_n hx hb dX9_addRule_100 rfl (lv_at hl 3 rfl) ?_
          refine lv_iconst (v := 5) hx hb dX9_addRule_101 (by decide) ?_
          refine lv_iload_n hx hb dX9_addRule_102 rfl (lv_at hl 4 rfl) ?_
          refine kg_ib C hH (kc_V C hH w_3_92 lc_yX9_refuse li_yX9_refuse oK (kX9_refuse l E ad M4 5 a1) (As := [.int 5, .int a1]) rfl dX9_addRule_103 rfl hl.1 (Nat.le_of_ble_eq_true rfl) ⟨Nat.le_of_ble_eq_true rfl, Nat.le_of_ble_eq_true rfl⟩ ⟨Nat.le_of_ble_eq_true rfl, Nat.le_of_ble_eq_true rfl⟩) ⟨rfl, rfl⟩ (fun v9 M8 H locs hH => ?_)
          exact ke_zg C hH hr (Nat.le_refl _) (Nat.le_refl _) rfl dX9_addRule_106
      · refine lv_aload_n hx hb dX9_addRule_70 rfl (lv_at hl 3 rfl) ?_
        refine lv_iconst (v := 1) hx hb dX9_addRule_71 (by decide) ?_
        refine lv_aload hx hb dX9_addRule_72 (lv_at hl 2 rfl) ?_
        refine k_getN C hH fn_X9_233 (oR (f := 0) (by decide)) (k_int (M := M1) (ad := ad) (nR3 (f := 0) (by decide))) dX9_addRule_74 ?_
        refine kg_ib C hH (kc_V C hH w_3_92 lc_yX9_refuse li_yX9_refuse oK (kX9_refuse l E ad M1 1 (M1.1 (iR 0) 3)) (As := [.int 1, .int (M1.1 (iR 0) 3)]) rfl dX9_addRule_77 rfl hl.1 (Nat.le_of_ble_eq_true rfl) ⟨Nat.le_of_ble_eq_true rfl, Nat.le_of_ble_eq_true rfl⟩ ⟨Nat.le_of_ble_eq_true rfl, Nat.le_of_ble_eq_true rfl⟩) ⟨rfl, rfl⟩ (fun v11 M10 H locs hH => ?_)
        exact ke_zg C hH hr (Nat.le_refl _) (Nat.le_refl _) rfl dX9_addRule_80
    · refine lv_aload_n hx hb dX9_addRule_51 rfl (lv_at hl 3 rfl) ?_
      refine lv_bipush (v := 6) hx hb dX9_addRule_52 (by decide) ?_
      refine lv_iload hx hb dX9_addRule_54 (lv_at hl 0 rfl) ?_
      refine kg_ib C hH (kc_V C hH w_3_92 lc_yX9_refuse li_yX9_refuse oK (kX9_refuse l E ad M1 6 v3) (As := [.int 6, .int v3]) rfl dX9_addRule_56 rfl hl.1 (Nat.le_of_ble_eq_true rfl) ⟨Nat.le_of_ble_eq_true rfl, Nat.le_of_ble_eq_true rfl⟩ ⟨Nat.le_of_ble_eq_true rfl, Nat.le_of_ble_eq_true rfl⟩) ⟨rfl, rfl⟩ (fun v13 M12 H locs hH => ?_)
      exact ke_zg C hH hr (Nat.le_refl _) (Nat.le_refl _) rfl dX9_addRule_59
  · refine lv_aload_n hx hb dX9_addRule_31 rfl (lv_at hl 2 rfl) ?_
    refine lv_iconst (v := 4) hx hb dX9_addRule_32 (by decide) ?_
    refine lv_iload hx hb dX9_addRule_33 (lv_at hl 0 rfl) ?_
    refine kg_ib C hH (kc_V C hH w_3_92 lc_yX9_refuse li_yX9_refuse oK (kX9_refuse l E ad M1 4 v2) (As := [.int 4, .int v2]) rfl dX9_addRule_35 rfl hl.1 (Nat.le_of_ble_eq_true rfl) ⟨Nat.le_of_ble_eq_true rfl, Nat.le_of_ble_eq_true rfl⟩ ⟨Nat.le_of_ble_eq_true rfl, Nat.le_of_ble_eq_true rfl⟩) ⟨rfl, rfl⟩ (fun v15 M14 H locs hH => ?_)
    exact ke_zg C hH hr (Nat.le_refl _) (Nat.le_refl _) rfl dX9_addRule_38
def fX6_has_o (M : KS) (o0 : Nat) (a1 : Int32) : Option (Int32) := (if a1 < 0 then some 0 else (if (M.1 (iR o0) 3) ≤ a1 then some 0 else some 1))
def fX6_has (M : KS) (o0 : Nat) (a1 : Int32) : Int32 := (if a1 < 0 then 0 else (if (M.1 (iR o0) 3) ≤ a1 then 0 else 1))
theorem fX6_has_s {M : KS} {o0 : Nat} {a1 : Int32} : fX6_has_o M o0 a1 = some (fX6_has M o0 a1) := by
  unfold fX6_has_o fX6_has
  (repeat' split) <;> rfl
set_option maxHeartbeats 4000000 in
set_option maxRecDepth 100000 in
theorem kX6_has_o (l : Launch) (E : KE) (ad : Nat → Nat) (M : KS) (o0 : Nat) (ho0 : o0 < 11) (a1 : Int32) : CT l yX6_has cX6_has 2 (some .boolean) { frames := 0, cells := 0, slots := 0, locals := 0 } SK E ad [.ref (ad (iR o0)), .int a1] M (fun sz a => QI SK E ad sz (a, M)) (fX6_has_o M o0 a1) := by
  refine CT.ofW (by decide) (Nat.le_of_ble_eq_true rfl) (fun sz p e s m args below meth c C hr hH ls hl => ?_)
  have hx := C.1.1
  have hb := C.1.2.1
  have hl : lv_has ls 2 [(0, .ref (ad (iR o0))), (1, .int a1)] := hl
  unfold fX6_has_o
  refine lv_iload_n hx hb dX6_has_0 rfl (lv_at hl 1 rfl) ?_
  refine kb_if_lt (tgt := 16) hx hb dX6_has_1 (by decide) (fun _ => ?_) (fun _ => ?_)
  · refine lv_iconst (v := 0) hx hb dX6_has_16 (by decide) ?_
    exact ke_z C hH hr (Nat.le_refl _) (Nat.le_refl _) rfl (Or.inl rfl) dX6_has_17
  · refine lv_iload_n hx hb dX6_has_4 rfl (lv_at hl 1 rfl) ?_
    refine lv_aload_n hx hb dX6_has_5 rfl (lv_at hl 0 rfl) ?_
    refine k_get C hH fd_X6_21 (oR (f := o0) ho0) (k_int (M := M) (ad := ad) (nR3 (f := o0) ho0)) dX6_has_6 ?_
    refine kb_icmp_ge (tgt := 16) hx hb dX6_has_9 (by decide) (fun _ => ?_) (fun _ => ?_)
    · refine lv_iconst (v := 0) hx hb dX6_has_16 (by decide) ?_
      exact ke_z C hH hr (Nat.le_refl _) (Nat.le_refl _) rfl (Or.inl rfl) dX6_has_17
    · refine lv_iconst (v := 1) hx hb dX6_has_12 (by decide) ?_
      refine lv_goto (tgt := 17) hx hb dX6_has_13 (by decide) ?_
      exact ke_z C hH hr (Nat.le_refl _) (Nat.le_refl _) rfl (Or.inr rfl) dX6_has_17
theorem kX6_has (l : Launch) (E : KE) (ad : Nat → Nat) (M : KS) (o0 : Nat) (ho0 : o0 < 11) (a1 : Int32) : CT l yX6_has cX6_has 2 (some .boolean) { frames := 0, cells := 0, slots := 0, locals := 0 } SK E ad [.ref (ad (iR o0)), .int a1] M (fun sz (_ : Unit) => QI SK E ad sz (fX6_has M o0 a1, M)) (some ()) := CT.pure (kX6_has_o l E ad M o0 ho0 a1) fX6_has_s
def fX6_remove_X68 (o0 : Nat) (M7 : KS) : Option (KS) := nm (kset M7 (iR o0) 3 ((M7.1 (iR o0) 3) - 1)) fun M8 => some M8
theorem fX6_remove_X68_u {o0 : Nat} {M7 : KS} : fX6_remove_X68 o0 M7 = nm (kset M7 (iR o0) 3 ((M7.1 (iR o0) 3) - 1)) fun M8 => some M8 := rfl
def fX6_remove_L68 (o0 : Nat) (rec68 : (Int32 × KS) → Option (KS)) (k68 : (KS) → Option (KS)) (x : Int32 × KS) : Option (KS) := match x with | (v5, M6) => (if (3 * ((M6.1 (iR o0) 3) - 1)) ≤ v5 then k68 M6 else if inb (v5 + 3) 33 then if inb v5 33 then nm (kset M6 (iRc o0) v5.toNatClampNeg (M6.1 (iRc o0) (v5 + 3).toNatClampNeg)) fun M9 => nm (v5 + 1) fun v10 => rec68 (v10, M9) else none else none)
theorem fX6_remove_L68_u {o0 : Nat} {rec68 : (Int32 × KS) → Option (KS)} {k68 : (KS) → Option (KS)} {v5 : Int32} {M6 : KS} : fX6_remove_L68 o0 rec68 k68 (v5, M6) = (if (3 * ((M6.1 (iR o0) 3) - 1)) ≤ v5 then k68 M6 else if inb (v5 + 3) 33 then if inb v5 33 then nm (kset M6 (iRc o0) v5.toNatClampNeg (M6.1 (iRc o0) (v5 + 3).toNatClampNeg)) fun M9 => nm (v5 + 1) fun v10 => rec68 (v10, M9) else none else none) := rfl
def fX6_remove_X20 (o0 : Nat) (a1 : Int32) (M3 : KS) : Option (KS) := nm ((3 * a1)) fun v4 => lp (fX6_remove_L68 o0) (fX6_remove_X68 o0) 1000000 (v4, M3)
theorem fX6_remove_X20_u {o0 : Nat} {a1 : Int32} {M3 : KS} : fX6_remove_X20 o0 a1 M3 = nm ((3 * a1)) fun v4 => lp (fX6_remove_L68 o0) (fX6_remove_X68 o0) 1000000 (v4, M3) := rfl
def fX6_remove_L20 (o0 : Nat) (rec20 : (Int32 × KS) → Option (KS)) (k20 : (KS) → Option (KS)) (x : Int32 × KS) : Option (KS) := match x with | (v1, M2) => (if (M2.1 (iR o0) 3) ≤ (v1 + 1) then k20 M2 else if inb (v1 + 1) 11 then if inb v1 11 then nm (kset M2 (iRh o0) v1.toNatClampNeg (M2.1 (iRh o0) (v1 + 1).toNatClampNeg)) fun M11 => if inb (v1 + 1) 11 then if inb v1 11 then nm (kset M11 (iRa o0) v1.toNatClampNeg (M11.1 (iRa o0) (v1 + 1).toNatClampNeg)) fun M12 => nm (v1 + 1) fun v13 => rec20 (v13, M12) else none else none else none else none)
theorem fX6_remove_L20_u {o0 : Nat} {rec20 : (Int32 × KS) → Option (KS)} {k20 : (KS) → Option (KS)} {v1 : Int32} {M2 : KS} : fX6_remove_L20 o0 rec20 k20 (v1, M2) = (if (M2.1 (iR o0) 3) ≤ (v1 + 1) then k20 M2 else if inb (v1 + 1) 11 then if inb v1 11 then nm (kset M2 (iRh o0) v1.toNatClampNeg (M2.1 (iRh o0) (v1 + 1).toNatClampNeg)) fun M11 => if inb (v1 + 1) 11 then if inb v1 11 then nm (kset M11 (iRa o0) v1.toNatClampNeg (M11.1 (iRa o0) (v1 + 1).toNatClampNeg)) fun M12 => nm (v1 + 1) fun v13 => rec20 (v13, M12) else none else none else none else none) := rfl
def fX6_remove (M : KS) (o0 : Nat) (a1 : Int32) : Option (KS) := (if (fX6_has M o0 a1) = 0 then some M else (if (M.1 (iR o0) 3) ≤ 10 then lp (fX6_remove_L20 o0) (fX6_remove_X20 o0 a1) 1000000 (a1, M) else some M))
set_option maxHeartbeats 4000000 in
set_option maxRecDepth 100000 in
theorem kX6_remove (l : Launch) (E : KE) (ad : Nat → Nat) (M : KS) (o0 : Nat) (ho0 : o0 < 11) (a1 : Int32) : CT l yX6_remove cX6_remove 3 none { frames := 1, cells := 0, slots := 0, locals := 21 } SK E ad [.ref (ad (iR o0)), .int a1] M (QV SK E ad) (fX6_remove M o0 a1) := by
  refine CT.ofW (by decide) (Nat.le_of_ble_eq_true rfl) (fun sz p e s m args below meth c C hr hH ls hl => ?_)
  have hx := C.1.1
  have hb := C.1.2.1
  have hl : lv_has ls 3 [(0, .ref (ad (iR o0))), (1, .int a1)] := hl
  unfold fX6_remove
  refine lv_aload_n hx hb dX6_remove_0 rfl (lv_at hl 0 rfl) ?_
  refine lv_iload_n hx hb dX6_remove_1 rfl (lv_at hl 1 rfl) ?_
  refine kg_ip C hH (kc_V C hH w_4_121 lc_yX6_has li_yX6_has (oR (f := o0) ho0) (kX6_has l E ad M o0 ho0 a1) (As := [.int a1]) rfl dX6_remove_2 rfl hl.1 (Nat.le_of_ble_eq_true rfl) ⟨Nat.le_of_ble_eq_true rfl, Nat.le_of_ble_eq_true rfl⟩ ⟨Nat.le_of_ble_eq_true rfl, Nat.le_of_ble_eq_true rfl⟩) ⟨rfl, rfl⟩ (fun H locs hH => ?_)
  refine kb_if_eq (tgt := 17) hx hb dX6_remove_5 (by decide) (fun _ => ?_) (fun _ => ?_)
  · exact ke_v C hH hr (Nat.le_refl _) (Nat.le_refl _) rfl dX6_remove_17
  · refine lv_aload_n hx hb dX6_remove_8 rfl (lv_at hl 0 rfl) ?_
    refine k_get C hH fd_X6_21 (oR (f := o0) ho0) (k_int (M := M) (ad := ad) (nR3 (f := o0) ho0)) dX6_remove_9 ?_
    refine lv_bipush (v := 10) hx hb dX6_remove_12 (by decide) ?_
    refine kb_icmp_le (tgt := 18) hx hb dX6_remove_14 (by decide) (fun _ => ?_) (fun _ => ?_)
    · refine lv_iload_n hx hb dX6_remove_18 rfl (lv_at hl 1 rfl) ?_
      refine lv_istore_n (lv' := [(2, .int a1), (0, .ref (ad (iR o0))), (1, .int a1)]) hx hb dX6_remove_19 rfl hl (by decide) rfl (fun ls hl => ?_)
      refine W_lp (fun (x : Int32 × KS) H locs => KH SK E ad sz x.2 s.heap H locs) (fun x ls => lv_has ls 3 [(0, .ref (ad (iR o0))), (1, .int a1), (2, .int x.1)]) (fun _ ls => F0 m 20 ls []) (fun (x : KS) H locs => KH SK E ad sz x s.heap H locs) (fun x ls => lv_has ls 3 [(0, .ref (ad (iR o0))), (1, .int a1)]) (fun _ ls => F0 m 64 ls []) ?_ ?_ hH (lv_sub hl [1, 2, 0] rfl)
      · intro M3 H locs ls hH hl
        have hH : KH SK E ad sz M3 s.heap H locs := hH
        have hl : lv_has ls 3 [(0, .ref (ad (iR o0))), (1, .int a1)] := hl
        refine W_q fX6_remove_X20_u ?_
        refine lv_iconst (v := 3) hx hb dX6_remove_64 (by decide) ?_
        refine lv_iload_n hx hb dX6_remove_65 rfl (lv_at hl 1 rfl) ?_
        refine lv_imul hx hb dX6_remove_66 ?_
        refine W_nmi (fun v4 => ?_)
        refine lv_istore_n (lv' := [(2, .int v4), (0, .ref (ad (iR o0))), (1, .int a1)]) hx hb dX6_remove_67 rfl hl (by decide) rfl (fun ls hl => ?_)
        refine W_lp (fun (x : Int32 × KS) H locs => KH SK E ad sz x.2 s.heap H locs) (fun x ls => lv_has ls 3 [(0, .ref (ad (iR o0))), (2, .int x.1)]) (fun _ ls => F0 m 68 ls []) (fun (x : KS) H locs => KH SK E ad sz x s.heap H locs) (fun x ls => lv_has ls 3 [(0, .ref (ad (iR o0)))]) (fun _ ls => F0 m 100 ls []) ?_ ?_ hH (lv_sub hl [1, 0] rfl)
        · intro M7 H locs ls hH hl
          have hH : KH SK E ad sz M7 s.heap H locs := hH
          have hl : lv_has ls 3 [(0, .ref (ad (iR o0)))] := hl
          refine W_q fX6_remove_X68_u ?_
          refine lv_aload_n hx hb dX6_remove_100 rfl (lv_at hl 0 rfl) ?_
          refine lv_dup hx hb dX6_remove_101 rfl ?_
          refine k_get C hH fd_X6_21 (oR (f := o0) ho0) (k_int (M := M7) (ad := ad) (nR3 (f := o0) ho0)) dX6_remove_102 ?_
          refine lv_iconst (v := 1) hx hb dX6_remove_105 (by decide) ?_
          refine lv_isub hx hb dX6_remove_106 ?_
          refine k_put1 C hH fd_X6_21 fw_X6_3 (oR (f := o0) ho0) (nR3 (f := o0) ho0) rfl rfl dX6_remove_107 (fun M8 H locs hH => ?_)
          exact ke_v C hH hr (Nat.le_refl _) (Nat.le_refl _) rfl dX6_remove_110
        · intro rec68 k68 hrec68 hk68 ⟨v5, M6⟩ H locs ls hH hl
          have hH : KH SK E ad sz M6 s.heap H locs := hH
          have hl : lv_has ls 3 [(0, .ref (ad (iR o0))), (2, .int v5)] := hl
          refine W_q fX6_remove_L68_u ?_
          refine lv_iload_n hx hb dX6_remove_68 rfl (lv_at hl 1 rfl) ?_
          refine lv_iconst (v := 3) hx hb dX6_remove_69 (by decide) ?_
          refine lv_aload_n hx hb dX6_remove_70 rfl (lv_at hl 0 rfl) ?_
          refine k_get C hH fd_X6_21 (oR (f := o0) ho0) (k_int (M := M6) (ad := ad) (nR3 (f := o0) ho0)) dX6_remove_71 ?_
          refine lv_iconst (v := 1) hx hb dX6_remove_74 (by decide) ?_
          refine lv_isub hx hb dX6_remove_75 ?_
          refine lv_imul hx hb dX6_remove_76 ?_
          refine kb_icmp_ge (tgt := 100) hx hb dX6_remove_77 (by decide) (fun _ => ?_) (fun _ => ?_)
          · exact hk68 M6 _ _ _ hH (lv_sub hl [0] rfl)
          · refine lv_aload_n hx hb dX6_remove_80 rfl (lv_at hl 0 rfl) ?_
            refine k_get C hH fd_X6_15 (oR (f := o0) ho0) (k_ref (M := M6) (ad := ad) (rR1 (f := o0) ho0)) dX6_remove_81 ?_
            refine lv_iload_n hx hb dX6_remove_84 rfl (lv_at hl 1 rfl) ?_
            refine lv_aload_n hx hb dX6_remove_85 rfl (lv_at hl 0 rfl) ?_
            refine k_get C hH fd_X6_15 (oR (f := o0) ho0) (k_ref (M := M6) (ad := ad) (rR1 (f := o0) ho0)) dX6_remove_86 ?_
            refine lv_iload_n hx hb dX6_remove_89 rfl (lv_at hl 1 rfl) ?_
            refine lv_iconst (v := 3) hx hb dX6_remove_90 (by decide) ?_
            refine lv_iadd hx hb dX6_remove_91 ?_
            refine k_iald C hH (aR1 (f := o0) ho0) dX6_remove_92 ?_
            refine k_iast C hH (aR1 (f := o0) ho0) dX6_remove_93 (fun M9 H locs hH => ?_)
            refine W_nm (fun v10 ev10 => ?_)
            refine lv_iinc (v := v10) (lv' := [(2, .int v10), (0, .ref (ad (iR o0)))]) hx hb dX6_remove_94 hl (k := 1) rfl (by rw [ev10]; rfl) (by decide) rfl (fun ls hl => ?_)
            refine lv_goto (tgt := 68) hx hb dX6_remove_97 (by decide) ?_
            exact hrec68 (v10, M9) _ _ _ hH (lv_sub hl [1, 0] rfl)
      · intro rec20 k20 hrec20 hk20 ⟨v1, M2⟩ H locs ls hH hl
        have hH : KH SK E ad sz M2 s.heap H locs := hH
        have hl : lv_has ls 3 [(0, .ref (ad (iR o0))), (1, .int a1), (2, .int v1)] := hl
        refine W_q fX6_remove_L20_u ?_
        refine lv_iload_n hx hb dX6_remove_20 rfl (lv_at hl 2 rfl) ?_
        refine lv_iconst (v := 1) hx hb dX6_remove_21 (by decide) ?_
        refine lv_iadd hx hb dX6_remove_22 ?_
        refine lv_aload_n hx hb dX6_remove_23 rfl (lv_at hl 0 rfl) ?_
        refine k_get C hH fd_X6_21 (oR (f := o0) ho0) (k_int (M := M2) (ad := ad) (nR3 (f := o0) ho0)) dX6_remove_24 ?_
        refine kb_icmp_ge (tgt := 64) hx hb dX6_remove_27 (by decide) (fun _ => ?_) (fun _ => ?_)
        · exact hk20 M2 _ _ _ hH (lv_sub hl [0, 1] rfl)
        · refine lv_aload_n hx hb dX6_remove_30 rfl (lv_at hl 0 rfl) ?_
          refine k_get C hH fd_X6_9 (oR (f := o0) ho0) (k_ref (M := M2) (ad := ad) (rR0 (f := o0) ho0)) dX6_remove_31 ?_
          refine lv_iload_n hx hb dX6_remove_34 rfl (lv_at hl 2 rfl) ?_
          refine lv_aload_n hx hb dX6_remove_35 rfl (lv_at hl 0 rfl) ?_
          refine k_get C hH fd_X6_9 (oR (f := o0) ho0) (k_ref (M := M2) (ad := ad) (rR0 (f := o0) ho0)) dX6_remove_36 ?_
          refine lv_iload_n hx hb dX6_remove_39 rfl (lv_at hl 2 rfl) ?_
          refine lv_iconst (v := 1) hx hb dX6_remove_40 (by decide) ?_
          refine lv_iadd hx hb dX6_remove_41 ?_
          refine k_iald C hH (aR0 (f := o0) ho0) dX6_remove_42 ?_
          refine k_iast C hH (aR0 (f := o0) ho0) dX6_remove_43 (fun M11 H locs hH => ?_)
          refine lv_aload_n hx hb dX6_remove_44 rfl (lv_at hl 0 rfl) ?_
          refine k_get C hH fd_X6_18 (oR (f := o0) ho0) (k_ref (M := M11) (ad := ad) (rR2 (f := o0) ho0)) dX6_remove_45 ?_
          refine lv_iload_n hx hb dX6_remove_48 rfl (lv_at hl 2 rfl) ?_
          refine lv_aload_n hx hb dX6_remove_49 rfl (lv_at hl 0 rfl) ?_
          refine k_get C hH fd_X6_18 (oR (f := o0) ho0) (k_ref (M := M11) (ad := ad) (rR2 (f := o0) ho0)) dX6_remove_50 ?_
          refine lv_iload_n hx hb dX6_remove_53 rfl (lv_at hl 2 rfl) ?_
          refine lv_iconst (v := 1) hx hb dX6_remove_54 (by decide) ?_
          refine lv_iadd hx hb dX6_remove_55 ?_
          refine k_iald C hH (aR2 (f := o0) ho0) dX6_remove_56 ?_
          refine k_iast C hH (aR2 (f := o0) ho0) dX6_remove_57 (fun M12 H locs hH => ?_)
          refine W_nm (fun v13 ev13 => ?_)
          refine lv_iinc (v := v13) (lv' := [(2, .int v13), (0, .ref (ad (iR o0))), (1, .int a1)]) hx hb dX6_remove_58 hl (k := 2) rfl (by rw [ev13]; rfl) (by decide) rfl (fun ls hl => ?_)
          refine lv_goto (tgt := 20) hx hb dX6_remove_61 (by decide) ?_
          exact hrec20 (v13, M12) _ _ _ hH (lv_sub hl [1, 2, 0] rfl)
    · exact ke_v C hH hr (Nat.le_refl _) (Nat.le_refl _) rfl dX6_remove_17
def fX9_takeRule (M : KS) (a1 : Int32) : Option (Int32 × KS) := (if (fX6_has M 0 a1) = 0 then some (0, M) else (fX6_remove M 0 a1).bind fun M1 => (fX1_outdate M1).bind fun M2 => some (1, M2))
set_option maxHeartbeats 4000000 in
set_option maxRecDepth 100000 in
theorem kX9_takeRule (l : Launch) (E : KE) (ad : Nat → Nat) (M : KS) (a1 : Int32) : CT l yX9_takeRule cX9_takeRule 2 (some .boolean) { frames := 2, cells := 0, slots := 0, locals := 43 } SK E ad [.ref (ad 121), .int a1] M (QI SK E ad) (fX9_takeRule M a1) := by
  refine CT.ofW (by decide) (Nat.le_of_ble_eq_true rfl) (fun sz p e s m args below meth c C hr hH ls hl => ?_)
  have hx := C.1.1
  have hb := C.1.2.1
  have hl : lv_has ls 2 [(0, .ref (ad 121)), (1, .int a1)] := hl
  unfold fX9_takeRule
  refine lv_aload_n hx hb dX9_takeRule_0 rfl (lv_at hl 0 rfl) ?_
  refine k_get C hH fd_X9_10 oK (k_ref (M := M) (ad := ad) rK0) dX9_takeRule_1 ?_
  refine k_getN C hH fn_X9_128 (oS (f := 0) (by decide)) (k_ref (M := M) (ad := ad) (rS1 (f := 0) (by decide))) dX9_takeRule_4 ?_
  refine lv_iload_n hx hb dX9_takeRule_7 rfl (lv_at hl 1 rfl) ?_
  refine kg_ip C hH (kc_V C hH w_4_108 lc_yX6_has li_yX6_has (oR (f := 0) (by decide)) (kX6_has l E ad M 0 (by decide) a1) (As := [.int a1]) rfl dX9_takeRule_8 rfl hl.1 (Nat.le_of_ble_eq_true rfl) ⟨Nat.le_of_ble_eq_true rfl, Nat.le_of_ble_eq_true rfl⟩ ⟨Nat.le_of_ble_eq_true rfl, Nat.le_of_ble_eq_true rfl⟩) ⟨rfl, rfl⟩ (fun H locs hH => ?_)
  refine kb_if_ne (tgt := 16) hx hb dX9_takeRule_11 (by decide) (fun _ => ?_) (fun _ => ?_)
  · refine lv_aload_n hx hb dX9_takeRule_16 rfl (lv_at hl 0 rfl) ?_
    refine k_get C hH fd_X9_10 oK (k_ref (M := M) (ad := ad) rK0) dX9_takeRule_17 ?_
    refine k_getN C hH fn_X9_128 (oS (f := 0) (by decide)) (k_ref (M := M) (ad := ad) (rS1 (f := 0) (by decide))) dX9_takeRule_20 ?_
    refine lv_iload_n hx hb dX9_takeRule_23 rfl (lv_at hl 1 rfl) ?_
    refine kg_v C hH (kc_V C hH w_4_117 lc_yX6_remove li_yX6_remove (oR (f := 0) (by decide)) (kX6_remove l E ad M 0 (by decide) a1) (As := [.int a1]) rfl dX9_takeRule_24 rfl hl.1 (Nat.le_of_ble_eq_true rfl) ⟨Nat.le_of_ble_eq_true rfl, Nat.le_of_ble_eq_true rfl⟩ ⟨Nat.le_of_ble_eq_true rfl, Nat.le_of_ble_eq_true rfl⟩) ⟨rfl, rfl⟩ (fun M1 H locs hH => ?_)
    refine lv_aload_n hx hb dX9_takeRule_27 rfl (lv_at hl 0 rfl) ?_
    refine k_get C hH fd_X9_29 oK (k_ref (M := M1) (ad := ad) rK3) dX9_takeRule_28 ?_
    refine kg_v C hH (kc_V C hH w_3_97 lc_yX1_outdate li_yX1_outdate oD (kX1_outdate l E ad M1) (As := []) rfl dX9_takeRule_31 rfl hl.1 (Nat.le_of_ble_eq_true rfl) ⟨Nat.le_of_ble_eq_true rfl, Nat.le_of_ble_eq_true rfl⟩ ⟨Nat.le_of_ble_eq_true rfl, Nat.le_of_ble_eq_true rfl⟩) ⟨rfl, rfl⟩ (fun M2 H locs hH => ?_)
    refine lv_iconst (v := 1) hx hb dX9_takeRule_34 (by decide) ?_
    exact ke_z C hH hr (Nat.le_refl _) (Nat.le_refl _) rfl (Or.inr rfl) dX9_takeRule_35
  · refine lv_iconst (v := 0) hx hb dX9_takeRule_14 (by decide) ?_
    exact ke_z C hH hr (Nat.le_refl _) (Nat.le_refl _) rfl (Or.inl rfl) dX9_takeRule_15
def fX6_conditionsOf_X4 (v3 : Int32) : Option (Int32) := some v3
theorem fX6_conditionsOf_X4_u {v3 : Int32} : fX6_conditionsOf_X4 v3 = some v3 := rfl
def fX6_conditionsOf_L4 (M : KS) (o0 : Nat) (a1 : Int32) (rec4 : (Int32 × Int32) → Option (Int32)) (k4 : (Int32) → Option (Int32)) (x : Int32 × Int32) : Option (Int32) := match x with | (v1, v2) => (if 3 ≤ v2 then k4 v1 else (fX6_code M o0 a1 v2).bind fun v4 => (if v4 = 0 then nm (v2 + 1) fun v5 => rec4 (v1, v5) else nm (v1 + 1) fun v6 => nm (v2 + 1) fun v7 => rec4 (v6, v7)))
theorem fX6_conditionsOf_L4_u {M : KS} {o0 : Nat} {a1 : Int32} {rec4 : (Int32 × Int32) → Option (Int32)} {k4 : (Int32) → Option (Int32)} {v1 : Int32} {v2 : Int32} : fX6_conditionsOf_L4 M o0 a1 rec4 k4 (v1, v2) = (if 3 ≤ v2 then k4 v1 else (fX6_code M o0 a1 v2).bind fun v4 => (if v4 = 0 then nm (v2 + 1) fun v5 => rec4 (v1, v5) else nm (v1 + 1) fun v6 => nm (v2 + 1) fun v7 => rec4 (v6, v7))) := rfl
def fX6_conditionsOf (M : KS) (o0 : Nat) (a1 : Int32) : Option (Int32) := lp (fX6_conditionsOf_L4 M o0 a1) (fX6_conditionsOf_X4) 1000000 (0, 0)
set_option maxHeartbeats 4000000 in
set_option maxRecDepth 100000 in
theorem kX6_conditionsOf (l : Launch) (E : KE) (ad : Nat → Nat) (M : KS) (o0 : Nat) (ho0 : o0 < 11) (a1 : Int32) : CT l yX6_conditionsOf cX6_conditionsOf 4 (some .int) { frames := 1, cells := 0, slots := 0, locals := 22 } SK E ad [.ref (ad (iR o0)), .int a1] M (fun sz a => QI SK E ad sz (a, M)) (fX6_conditionsOf M o0 a1) := by
  refine CT.ofW (by decide) (Nat.le_of_ble_eq_true rfl) (fun sz p e s m args below meth c C hr hH ls hl => ?_)
  have hx := C.1.1
  have hb := C.1.2.1
  have hl : lv_has ls 4 [(0, .ref (ad (iR o0))), (1, .int a1)] := hl
  unfold fX6_conditionsOf
  refine lv_iconst (v := 0) hx hb dX6_conditionsOf_0 (by decide) ?_
  refine lv_istore_n (lv' := [(2, .int 0), (0, .ref (ad (iR o0))), (1, .int a1)]) hx hb dX6_conditionsOf_1 rfl hl (by decide) rfl (fun ls hl => ?_)
  refine lv_iconst (v := 0) hx hb dX6_conditionsOf_2 (by decide) ?_
  refine lv_istore_n (lv' := [(3, .int 0), (2, .int 0), (0, .ref (ad (iR o0))), (1, .int a1)]) hx hb dX6_conditionsOf_3 rfl hl (by decide) rfl (fun ls hl => ?_)
  refine W_lp (fun (x : Int32 × Int32) H locs => KH SK E ad sz M s.heap H locs) (fun x ls => lv_has ls 4 [(0, .ref (ad (iR o0))), (1, .int a1), (2, .int x.1), (3, .int x.2)]) (fun _ ls => F0 m 4 ls []) (fun (x : Int32) H locs => KH SK E ad sz M s.heap H locs) (fun x ls => lv_has ls 4 [(2, .int x)]) (fun _ ls => F0 m 27 ls []) ?_ ?_ hH (lv_sub hl [2, 3, 1, 0] rfl)
  · intro v3 H locs ls hH hl
    have hH : KH SK E ad sz M s.heap H locs := hH
    have hl : lv_has ls 4 [(2, .int v3)] := hl
    refine W_q fX6_conditionsOf_X4_u ?_
    refine lv_iload_n hx hb dX6_conditionsOf_27 rfl (lv_at hl 0 rfl) ?_
    exact ke_i C hH hr (Nat.le_refl _) (Nat.le_refl _) rfl dX6_conditionsOf_28
  · intro rec4 k4 hrec4 hk4 ⟨v1, v2⟩ H locs ls hH hl
    have hH : KH SK E ad sz M s.heap H locs := hH
    have hl : lv_has ls 4 [(0, .ref (ad (iR o0))), (1, .int a1), (2, .int v1), (3, .int v2)] := hl
    refine W_q fX6_conditionsOf_L4_u ?_
    refine lv_iload_n hx hb dX6_conditionsOf_4 rfl (lv_at hl 3 rfl) ?_
    refine lv_iconst (v := 3) hx hb dX6_conditionsOf_5 (by decide) ?_
    refine kb_icmp_ge (tgt := 27) hx hb dX6_conditionsOf_6 (by decide) (fun _ => ?_) (fun _ => ?_)
    · exact hk4 v1 _ _ _ hH (lv_sub hl [2] rfl)
    · refine lv_aload_n hx hb dX6_conditionsOf_9 rfl (lv_at hl 0 rfl) ?_
      refine lv_iload_n hx hb dX6_conditionsOf_10 rfl (lv_at hl 1 rfl) ?_
      refine lv_iload_n hx hb dX6_conditionsOf_11 rfl (lv_at hl 3 rfl) ?_
      refine kg_io C hH (kc_V C hH w_2_92 lc_yX6_code li_yX6_code (oR (f := o0) ho0) (kX6_code l E ad M o0 ho0 a1 v2) (As := [.int a1, .int v2]) rfl dX6_conditionsOf_12 rfl hl.1 (Nat.le_of_ble_eq_true rfl) ⟨Nat.le_of_ble_eq_true rfl, Nat.le_of_ble_eq_true rfl⟩ ⟨Nat.le_of_ble_eq_true rfl, Nat.le_of_ble_eq_true rfl⟩) ⟨rfl, rfl⟩ (fun v4 H locs hH => ?_)
      refine kb_if_eq (tgt := 21) hx hb dX6_conditionsOf_15 (by decide) (fun _ => ?_) (fun _ => ?_)
      · refine W_nm (fun v5 ev5 => ?_)
        refine lv_iinc (v := v5) (lv' := [(3, .int v5), (0, .ref (ad (iR o0))), (1, .int a1), (2, .int v1)]) hx hb dX6_conditionsOf_21 hl (k := 3) rfl (by rw [ev5]; rfl) (by decide) rfl (fun ls hl => ?_)
        refine lv_goto (tgt := 4) hx hb dX6_conditionsOf_24 (by decide) ?_
        exact hrec4 (v1, v5) _ _ _ hH (lv_sub hl [1, 2, 3, 0] rfl)
      · refine W_nm (fun v6 ev6 => ?_)
        refine lv_iinc (v := v6) (lv' := [(2, .int v6), (0, .ref (ad (iR o0))), (1, .int a1), (3, .int v2)]) hx hb dX6_conditionsOf_18 hl (k := 2) rfl (by rw [ev6]; rfl) (by decide) rfl (fun ls hl => ?_)
        refine W_nm (fun v7 ev7 => ?_)
        refine lv_iinc (v := v7) (lv' := [(3, .int v7), (2, .int v6), (0, .ref (ad (iR o0))), (1, .int a1)]) hx hb dX6_conditionsOf_21 hl (k := 3) rfl (by rw [ev7]; rfl) (by decide) rfl (fun ls hl => ?_)
        refine lv_goto (tgt := 4) hx hb dX6_conditionsOf_24 (by decide) ?_
        exact hrec4 (v6, v7) _ _ _ hH (lv_sub hl [2, 3, 1, 0] rfl)
def fX1_derivationsWith_X4 (v3 : Int32) : Option (Int32) := some v3
theorem fX1_derivationsWith_X4_u {v3 : Int32} : fX1_derivationsWith_X4 v3 = some v3 := rfl
def fX1_derivationsWith_L4 (M : KS) (a1 : Int32) (rec4 : (Int32 × Int32) → Option (Int32)) (k4 : (Int32) → Option (Int32)) (x : Int32 × Int32) : Option (Int32) := match x with | (v1, v2) => (if 216 ≤ v2 then k4 v1 else if inb v2 216 then (if (M.1 108 v2.toNatClampNeg) = a1 then nm (v1 + 1) fun v5 => nm (v2 + 1) fun v6 => rec4 (v5, v6) else nm (v2 + 1) fun v4 => rec4 (v1, v4)) else none)
theorem fX1_derivationsWith_L4_u {M : KS} {a1 : Int32} {rec4 : (Int32 × Int32) → Option (Int32)} {k4 : (Int32) → Option (Int32)} {v1 : Int32} {v2 : Int32} : fX1_derivationsWith_L4 M a1 rec4 k4 (v1, v2) = (if 216 ≤ v2 then k4 v1 else if inb v2 216 then (if (M.1 108 v2.toNatClampNeg) = a1 then nm (v1 + 1) fun v5 => nm (v2 + 1) fun v6 => rec4 (v5, v6) else nm (v2 + 1) fun v4 => rec4 (v1, v4)) else none) := rfl
def fX1_derivationsWith (M : KS) (a1 : Int32) : Option (Int32) := lp (fX1_derivationsWith_L4 M a1) (fX1_derivationsWith_X4) 1000000 (0, 0)
set_option maxHeartbeats 4000000 in
set_option maxRecDepth 100000 in
theorem kX1_derivationsWith (l : Launch) (E : KE) (ad : Nat → Nat) (M : KS) (a1 : Int32) : CT l yX1_derivationsWith cX1_derivationsWith 4 (some .int) { frames := 0, cells := 0, slots := 0, locals := 0 } SK E ad [.ref (ad 106), .int a1] M (fun sz a => QI SK E ad sz (a, M)) (fX1_derivationsWith M a1) := by
  refine CT.ofW (by decide) (Nat.le_of_ble_eq_true rfl) (fun sz p e s m args below meth c C hr hH ls hl => ?_)
  have hx := C.1.1
  have hb := C.1.2.1
  have hl : lv_has ls 4 [(0, .ref (ad 106)), (1, .int a1)] := hl
  unfold fX1_derivationsWith
  refine lv_iconst (v := 0) hx hb dX1_derivationsWith_0 (by decide) ?_
  refine lv_istore_n (lv' := [(2, .int 0), (0, .ref (ad 106)), (1, .int a1)]) hx hb dX1_derivationsWith_1 rfl hl (by decide) rfl (fun ls hl => ?_)
  refine lv_iconst (v := 0) hx hb dX1_derivationsWith_2 (by decide) ?_
  refine lv_istore_n (lv' := [(3, .int 0), (2, .int 0), (0, .ref (ad 106)), (1, .int a1)]) hx hb dX1_derivationsWith_3 rfl hl (by decide) rfl (fun ls hl => ?_)
  refine W_lp (fun (x : Int32 × Int32) H locs => KH SK E ad sz M s.heap H locs) (fun x ls => lv_has ls 4 [(0, .ref (ad 106)), (1, .int a1), (2, .int x.1), (3, .int x.2)]) (fun _ ls => F0 m 4 ls []) (fun (x : Int32) H locs => KH SK E ad sz M s.heap H locs) (fun x ls => lv_has ls 4 [(2, .int x)]) (fun _ ls => F0 m 30 ls []) ?_ ?_ hH (lv_sub hl [2, 3, 1, 0] rfl)
  · intro v3 H locs ls hH hl
    have hH : KH SK E ad sz M s.heap H locs := hH
    have hl : lv_has ls 4 [(2, .int v3)] := hl
    refine W_q fX1_derivationsWith_X4_u ?_
    refine lv_iload_n hx hb dX1_derivationsWith_30 rfl (lv_at hl 0 rfl) ?_
    exact ke_i C hH hr (Nat.le_refl _) (Nat.le_refl _) rfl dX1_derivationsWith_31
  · intro rec4 k4 hrec4 hk4 ⟨v1, v2⟩ H locs ls hH hl
    have hH : KH SK E ad sz M s.heap H locs := hH
    have hl : lv_has ls 4 [(0, .ref (ad 106)), (1, .int a1), (2, .int v1), (3, .int v2)] := hl
    refine W_q fX1_derivationsWith_L4_u ?_
    refine lv_iload_n hx hb dX1_derivationsWith_4 rfl (lv_at hl 3 rfl) ?_
    refine lv_sipush (v := 216) hx hb dX1_derivationsWith_5 (by decide) ?_
    refine kb_icmp_ge (tgt := 30) hx hb dX1_derivationsWith_8 (by decide) (fun _ => ?_) (fun _ => ?_)
    · exact hk4 v1 _ _ _ hH (lv_sub hl [2] rfl)
    · refine lv_aload_n hx hb dX1_derivationsWith_11 rfl (lv_at hl 0 rfl) ?_
      refine k_get C hH fd_X1_35 oD (k_ref (M := M) (ad := ad) rD5) dX1_derivationsWith_12 ?_
      refine lv_iload_n hx hb dX1_derivationsWith_15 rfl (lv_at hl 3 rfl) ?_
      refine k_iald C hH aD5 dX1_derivationsWith_16 ?_
      refine lv_iload_n hx hb dX1_derivationsWith_17 rfl (lv_at hl 1 rfl) ?_
      refine kb_icmp_ne (tgt := 24) hx hb dX1_derivationsWith_18 (by decide) (fun _ => ?_) (fun _ => ?_)
      · refine W_nm (fun v4 ev4 => ?_)
        refine lv_iinc (v := v4) (lv' := [(3, .int v4), (0, .ref (ad 106)), (1, .int a1), (2, .int v1)]) hx hb dX1_derivationsWith_24 hl (k := 3) rfl (by rw [ev4]; rfl) (by decide) rfl (fun ls hl => ?_)
        refine lv_goto (tgt := 4) hx hb dX1_derivationsWith_27 (by decide) ?_
        exact hrec4 (v1, v4) _ _ _ hH (lv_sub hl [1, 2, 3, 0] rfl)
      · refine W_nm (fun v5 ev5 => ?_)
        refine lv_iinc (v := v5) (lv' := [(2, .int v5), (0, .ref (ad 106)), (1, .int a1), (3, .int v2)]) hx hb dX1_derivationsWith_21 hl (k := 2) rfl (by rw [ev5]; rfl) (by decide) rfl (fun ls hl => ?_)
        refine W_nm (fun v6 ev6 => ?_)
        refine lv_iinc (v := v6) (lv' := [(3, .int v6), (2, .int v5), (0, .ref (ad 106)), (1, .int a1)]) hx hb dX1_derivationsWith_24 hl (k := 3) rfl (by rw [ev6]; rfl) (by decide) rfl (fun ls hl => ?_)
        refine lv_goto (tgt := 4) hx hb dX1_derivationsWith_27 (by decide) ?_
        exact hrec4 (v5, v6) _ _ _ hH (lv_sub hl [2, 3, 1, 0] rfl)
def fX6_makes_X5 (v3 : Int32) : Option (Int32) := some v3
theorem fX6_makes_X5_u {v3 : Int32} : fX6_makes_X5 v3 = some v3 := rfl
def fX6_makes_L5 (M : KS) (o0 : Nat) (a1 : Int32) (o2 : Nat) (rec5 : (Int32 × Int32) → Option (Int32)) (k5 : (Int32) → Option (Int32)) (x : Int32 × Int32) : Option (Int32) := match x with | (v1, v2) => (if 36 ≤ v2 then k5 v1 else (fX6_makersOf M o0 a1 (v2 / 6) (jrem v2 6) o2 o2).bind fun v4 => (if v4 = 0 then nm (v2 + 1) fun v5 => rec5 (v1, v5) else nm (v1 + 1) fun v6 => nm (v2 + 1) fun v7 => rec5 (v6, v7)))
theorem fX6_makes_L5_u {M : KS} {o0 : Nat} {a1 : Int32} {o2 : Nat} {rec5 : (Int32 × Int32) → Option (Int32)} {k5 : (Int32) → Option (Int32)} {v1 : Int32} {v2 : Int32} : fX6_makes_L5 M o0 a1 o2 rec5 k5 (v1, v2) = (if 36 ≤ v2 then k5 v1 else (fX6_makersOf M o0 a1 (v2 / 6) (jrem v2 6) o2 o2).bind fun v4 => (if v4 = 0 then nm (v2 + 1) fun v5 => rec5 (v1, v5) else nm (v1 + 1) fun v6 => nm (v2 + 1) fun v7 => rec5 (v6, v7))) := rfl
def fX6_makes (M : KS) (o0 : Nat) (a1 : Int32) (o2 : Nat) : Option (Int32) := lp (fX6_makes_L5 M o0 a1 o2) (fX6_makes_X5) 1000000 (0, 0)
set_option maxHeartbeats 4000000 in
set_option maxRecDepth 100000 in
theorem kX6_makes (l : Launch) (E : KE) (ad : Nat → Nat) (M : KS) (o0 : Nat) (ho0 : o0 < 11) (a1 : Int32) (o2 : Nat) (ho2 : o2 < 15) : CT l yX6_makes cX6_makes 5 (some .int) { frames := 3, cells := 0, slots := 0, locals := 82 } SK E ad [.ref (ad (iR o0)), .int a1, .ref (ad (iF o2))] M (fun sz a => QI SK E ad sz (a, M)) (fX6_makes M o0 a1 o2) := by
  refine CT.ofW (by decide) (Nat.le_of_ble_eq_true rfl) (fun sz p e s m args below meth c C hr hH ls hl => ?_)
  have hx := C.1.1
  have hb := C.1.2.1
  have hl : lv_has ls 5 [(0, .ref (ad (iR o0))), (1, .int a1), (2, .ref (ad (iF o2)))] := hl
  unfold fX6_makes
  refine lv_iconst (v := 0) hx hb dX6_makes_0 (by decide) ?_
  refine lv_istore_n (lv' := [(3, .int 0), (0, .ref (ad (iR o0))), (1, .int a1), (2, .ref (ad (iF o2)))]) hx hb dX6_makes_1 rfl hl (by decide) rfl (fun ls hl => ?_)
  refine lv_iconst (v := 0) hx hb dX6_makes_2 (by decide) ?_
  refine lv_istore (lv' := [(4, .int 0), (3, .int 0), (0, .ref (ad (iR o0))), (1, .int a1), (2, .ref (ad (iF o2)))]) hx hb dX6_makes_3 hl (by decide) rfl (fun ls hl => ?_)
  refine W_lp (fun (x : Int32 × Int32) H locs => KH SK E ad sz M s.heap H locs) (fun x ls => lv_has ls 5 [(0, .ref (ad (iR o0))), (1, .int a1), (2, .ref (ad (iF o2))), (3, .int x.1), (4, .int x.2)]) (fun _ ls => F0 m 5 ls []) (fun (x : Int32) H locs => KH SK E ad sz M s.heap H locs) (fun x ls => lv_has ls 5 [(3, .int x)]) (fun _ ls => F0 m 41 ls []) ?_ ?_ hH (lv_sub hl [2, 3, 4, 1, 0] rfl)
  · intro v3 H locs ls hH hl
    have hH : KH SK E ad sz M s.heap H locs := hH
    have hl : lv_has ls 5 [(3, .int v3)] := hl
    refine W_q fX6_makes_X5_u ?_
    refine lv_iload_n hx hb dX6_makes_41 rfl (lv_at hl 0 rfl) ?_
    exact ke_i C hH hr (Nat.le_refl _) (Nat.le_refl _) rfl dX6_makes_42
  · intro rec5 k5 hrec5 hk5 ⟨v1, v2⟩ H locs ls hH hl
    have hH : KH SK E ad sz M s.heap H locs := hH
    have hl : lv_has ls 5 [(0, .ref (ad (iR o0))), (1, .int a1), (2, .ref (ad (iF o2))), (3, .int v1), (4, .int v2)] := hl
    refine W_q fX6_makes_L5_u ?_
    refine lv_iload hx hb dX6_makes_5 (lv_at hl 4 rfl) ?_
    refine lv_bipush (v := 36) hx hb dX6_makes_7 (by decide) ?_
    refine kb_icmp_ge (tgt := 41) hx hb dX6_makes_9 (by decide) (fun _ => ?_) (fun _ => ?_)
    · exact hk5 v1 _ _ _ hH (lv_sub hl [3] rfl)
    · refine lv_aload_n hx hb dX6_makes_12 rfl (lv_at hl 0 rfl) ?_
      refine lv_iload_n hx hb dX6_makes_13 rfl (lv_at hl 1 rfl) ?_
      refine lv_iload hx hb dX6_makes_14 (lv_at hl 4 rfl) ?_
      refine lv_bipush (v := 6) hx hb dX6_makes_16 (by decide) ?_
      refine lv_idiv hx hb dX6_makes_18 (by decide) ?_
      refine lv_iload hx hb dX6_makes_19 (lv_at hl 4 rfl) ?_
      refine lv_bipush (v := 6) hx hb dX6_makes_21 (by decide) ?_
      refine k_irem hx hb dX6_makes_23 (by decide) ?_
      refine lv_aload_n hx hb dX6_makes_24 rfl (lv_at hl 2 rfl) ?_
      refine lv_aload_n hx hb dX6_makes_25 rfl (lv_at hl 2 rfl) ?_
      refine kg_io C hH (kc_V C hH w_2_192 lc_yX6_makersOf li_yX6_makersOf (oR (f := o0) ho0) (kX6_makersOf l E ad M o0 ho0 a1 (v2 / 6) (jrem v2 6) o2 ho2 o2 ho2) (As := [.int a1, .int (v2 / 6), .int (jrem v2 6), .ref (ad (iF o2)), .ref (ad (iF o2))]) rfl dX6_makes_26 rfl hl.1 (Nat.le_of_ble_eq_true rfl) ⟨Nat.le_of_ble_eq_true rfl, Nat.le_of_ble_eq_true rfl⟩ ⟨Nat.le_of_ble_eq_true rfl, Nat.le_of_ble_eq_true rfl⟩) ⟨rfl, rfl⟩ (fun v4 H locs hH => ?_)
      refine kb_if_eq (tgt := 35) hx hb dX6_makes_29 (by decide) (fun _ => ?_) (fun _ => ?_)
      · refine W_nm (fun v5 ev5 => ?_)
        refine lv_iinc (v := v5) (lv' := [(4, .int v5), (0, .ref (ad (iR o0))), (1, .int a1), (2, .ref (ad (iF o2))), (3, .int v1)]) hx hb dX6_makes_35 hl (k := 4) rfl (by rw [ev5]; rfl) (by decide) rfl (fun ls hl => ?_)
        refine lv_goto (tgt := 5) hx hb dX6_makes_38 (by decide) ?_
        exact hrec5 (v1, v5) _ _ _ hH (lv_sub hl [1, 2, 3, 4, 0] rfl)
      · refine W_nm (fun v6 ev6 => ?_)
        refine lv_iinc (v := v6) (lv' := [(3, .int v6), (0, .ref (ad (iR o0))), (1, .int a1), (2, .ref (ad (iF o2))), (4, .int v2)]) hx hb dX6_makes_32 hl (k := 3) rfl (by rw [ev6]; rfl) (by decide) rfl (fun ls hl => ?_)
        refine W_nm (fun v7 ev7 => ?_)
        refine lv_iinc (v := v7) (lv' := [(4, .int v7), (3, .int v6), (0, .ref (ad (iR o0))), (1, .int a1), (2, .ref (ad (iF o2)))]) hx hb dX6_makes_35 hl (k := 4) rfl (by rw [ev7]; rfl) (by decide) rfl (fun ls hl => ?_)
        refine lv_goto (tgt := 5) hx hb dX6_makes_38 (by decide) ?_
        exact hrec5 (v6, v7) _ _ _ hH (lv_sub hl [2, 3, 4, 1, 0] rfl)
def fX9_layers (M : KS)  : Option (Int32 × KS) := (fX1_settled M 0).bind fun M1 => (fX3_count M1 0).bind fun v2 => some (v2, M1)
set_option maxHeartbeats 4000000 in
set_option maxRecDepth 100000 in
theorem kX9_layers (l : Launch) (E : KE) (ad : Nat → Nat) (M : KS)  : CT l yX9_layers cX9_layers 1 (some .int) { frames := 5, cells := 0, slots := 0, locals := 135 } SK E ad [.ref (ad 121)] M (QI SK E ad) (fX9_layers M) := by
  refine CT.ofW (by decide) (Nat.le_of_ble_eq_true rfl) (fun sz p e s m args below meth c C hr hH ls hl => ?_)
  have hx := C.1.1
  have hb := C.1.2.1
  have hl : lv_has ls 1 [(0, .ref (ad 121))] := hl
  unfold fX9_layers
  refine lv_aload_n hx hb dX9_layers_0 rfl (lv_at hl 0 rfl) ?_
  refine k_get C hH fd_X9_29 oK (k_ref (M := M) (ad := ad) rK3) dX9_layers_1 ?_
  refine lv_aload_n hx hb dX9_layers_4 rfl (lv_at hl 0 rfl) ?_
  refine k_get C hH fd_X9_10 oK (k_ref (M := M) (ad := ad) rK0) dX9_layers_5 ?_
  refine kg_r C hH (kc_V C hH w_2_27 lc_yX1_settled li_yX1_settled oD (kX1_settled l E ad M 0 (by decide)) (As := [.ref (ad (iS 0))]) rfl dX9_layers_8 rfl hl.1 (Nat.le_of_ble_eq_true rfl) ⟨Nat.le_of_ble_eq_true rfl, Nat.le_of_ble_eq_true rfl⟩ ⟨Nat.le_of_ble_eq_true rfl, Nat.le_of_ble_eq_true rfl⟩) ⟨rfl, rfl⟩ (fun M1 H locs hH => ?_)
  refine k_getN C hH fn_X9_197 oD (k_ref (M := M1) (ad := ad) rD3) dX9_layers_11 ?_
  refine kg_io C hH (kc_V C hH w_2_149 lc_yX3_count li_yX3_count (oY (f := 0) (by decide)) (kX3_count l E ad M1 0 (by decide)) (As := []) rfl dX9_layers_14 rfl hl.1 (Nat.le_of_ble_eq_true rfl) ⟨Nat.le_of_ble_eq_true rfl, Nat.le_of_ble_eq_true rfl⟩ ⟨Nat.le_of_ble_eq_true rfl, Nat.le_of_ble_eq_true rfl⟩) ⟨rfl, rfl⟩ (fun v2 H locs hH => ?_)
  exact ke_i C hH hr (Nat.le_refl _) (Nat.le_refl _) rfl dX9_layers_17
def fX1_roundsOf_X4 (v3 : Int32) : Option (Int32) := some v3
theorem fX1_roundsOf_X4_u {v3 : Int32} : fX1_roundsOf_X4 v3 = some v3 := rfl
def fX1_roundsOf_L4 (M : KS) (a1 : Int32) (rec4 : (Int32 × Int32) → Option (Int32)) (k4 : (Int32) → Option (Int32)) (x : Int32 × Int32) : Option (Int32) := match x with | (v1, v2) => (if 6 ≤ v2 then k4 v1 else (fX3_of M 0 v2).bind fun v4 => (if v4 = a1 then (fX1_lastStage M v2).bind fun v6 => nm ((jmax v1 v6)) fun v7 => nm (v2 + 1) fun v8 => rec4 (v7, v8) else nm (v2 + 1) fun v5 => rec4 (v1, v5)))
theorem fX1_roundsOf_L4_u {M : KS} {a1 : Int32} {rec4 : (Int32 × Int32) → Option (Int32)} {k4 : (Int32) → Option (Int32)} {v1 : Int32} {v2 : Int32} : fX1_roundsOf_L4 M a1 rec4 k4 (v1, v2) = (if 6 ≤ v2 then k4 v1 else (fX3_of M 0 v2).bind fun v4 => (if v4 = a1 then (fX1_lastStage M v2).bind fun v6 => nm ((jmax v1 v6)) fun v7 => nm (v2 + 1) fun v8 => rec4 (v7, v8) else nm (v2 + 1) fun v5 => rec4 (v1, v5))) := rfl
def fX1_roundsOf (M : KS) (a1 : Int32) : Option (Int32) := lp (fX1_roundsOf_L4 M a1) (fX1_roundsOf_X4) 1000000 (0, 0)
set_option maxHeartbeats 4000000 in
set_option maxRecDepth 100000 in
theorem kX1_roundsOf (l : Launch) (E : KE) (ad : Nat → Nat) (M : KS) (a1 : Int32) : CT l yX1_roundsOf cX1_roundsOf 4 (some .int) { frames := 2, cells := 0, slots := 0, locals := 47 } SK E ad [.ref (ad 106), .int a1] M (fun sz a => QI SK E ad sz (a, M)) (fX1_roundsOf M a1) := by
  refine CT.ofW (by decide) (Nat.le_of_ble_eq_true rfl) (fun sz p e s m args below meth c C hr hH ls hl => ?_)
  have hx := C.1.1
  have hb := C.1.2.1
  have hl : lv_has ls 4 [(0, .ref (ad 106)), (1, .int a1)] := hl
  unfold fX1_roundsOf
  refine lv_iconst (v := 0) hx hb dX1_roundsOf_0 (by decide) ?_
  refine lv_istore_n (lv' := [(2, .int 0), (0, .ref (ad 106)), (1, .int a1)]) hx hb dX1_roundsOf_1 rfl hl (by decide) rfl (fun ls hl => ?_)
  refine lv_iconst (v := 0) hx hb dX1_roundsOf_2 (by decide) ?_
  refine lv_istore_n (lv' := [(3, .int 0), (2, .int 0), (0, .ref (ad 106)), (1, .int a1)]) hx hb dX1_roundsOf_3 rfl hl (by decide) rfl (fun ls hl => ?_)
  refine W_lp (fun (x : Int32 × Int32) H locs => KH SK E ad sz M s.heap H locs) (fun x ls => lv_has ls 4 [(0, .ref (ad 106)), (1, .int a1), (2, .int x.1), (3, .int x.2)]) (fun _ ls => F0 m 4 ls []) (fun (x : Int32) H locs => KH SK E ad sz M s.heap H locs) (fun x ls => lv_has ls 4 [(2, .int x)]) (fun _ ls => F0 m 38 ls []) ?_ ?_ hH (lv_sub hl [2, 3, 1, 0] rfl)
  · intro v3 H locs ls hH hl
    have hH : KH SK E ad sz M s.heap H locs := hH
    have hl : lv_has ls 4 [(2, .int v3)] := hl
    refine W_q fX1_roundsOf_X4_u ?_
    refine lv_iload_n hx hb dX1_roundsOf_38 rfl (lv_at hl 0 rfl) ?_
    exact ke_i C hH hr (Nat.le_refl _) (Nat.le_refl _) rfl dX1_roundsOf_39
  · intro rec4 k4 hrec4 hk4 ⟨v1, v2⟩ H locs ls hH hl
    have hH : KH SK E ad sz M s.heap H locs := hH
    have hl : lv_has ls 4 [(0, .ref (ad 106)), (1, .int a1), (2, .int v1), (3, .int v2)] := hl
    refine W_q fX1_roundsOf_L4_u ?_
    refine lv_iload_n hx hb dX1_roundsOf_4 rfl (lv_at hl 3 rfl) ?_
    refine lv_bipush (v := 6) hx hb dX1_roundsOf_5 (by decide) ?_
    refine kb_icmp_ge (tgt := 38) hx hb dX1_roundsOf_7 (by decide) (fun _ => ?_) (fun _ => ?_)
    · exact hk4 v1 _ _ _ hH (lv_sub hl [2] rfl)
    · refine lv_aload_n hx hb dX1_roundsOf_10 rfl (lv_at hl 0 rfl) ?_
      refine k_get C hH fd_X1_27 oD (k_ref (M := M) (ad := ad) rD3) dX1_roundsOf_11 ?_
      refine lv_iload_n hx hb dX1_roundsOf_14 rfl (lv_at hl 3 rfl) ?_
      refine kg_io C hH (kc_V C hH w_2_83 lc_yX3_of li_yX3_of (oY (f := 0) (by decide)) (kX3_of l E ad M 0 (by decide) v2) (As := [.int v2]) rfl dX1_roundsOf_15 rfl hl.1 (Nat.le_of_ble_eq_true rfl) ⟨Nat.le_of_ble_eq_true rfl, Nat.le_of_ble_eq_true rfl⟩ ⟨Nat.le_of_ble_eq_true rfl, Nat.le_of_ble_eq_true rfl⟩) ⟨rfl, rfl⟩ (fun v4 H locs hH => ?_)
      refine lv_iload_n hx hb dX1_roundsOf_18 rfl (lv_at hl 1 rfl) ?_
      refine kb_icmp_ne (tgt := 32) hx hb dX1_roundsOf_19 (by decide) (fun _ => ?_) (fun _ => ?_)
      · refine W_nm (fun v5 ev5 => ?_)
        refine lv_iinc (v := v5) (lv' := [(3, .int v5), (0, .ref (ad 106)), (1, .int a1), (2, .int v1)]) hx hb dX1_roundsOf_32 hl (k := 3) rfl (by rw [ev5]; rfl) (by decide) rfl (fun ls hl => ?_)
        refine lv_goto (tgt := 4) hx hb dX1_roundsOf_35 (by decide) ?_
        exact hrec4 (v1, v5) _ _ _ hH (lv_sub hl [1, 2, 3, 0] rfl)
      · refine lv_iload_n hx hb dX1_roundsOf_22 rfl (lv_at hl 2 rfl) ?_
        refine lv_aload_n hx hb dX1_roundsOf_23 rfl (lv_at hl 0 rfl) ?_
        refine lv_iload_n hx hb dX1_roundsOf_24 rfl (lv_at hl 3 rfl) ?_
        refine kg_io C hH (kc_V C hH w_4_170 lc_yX1_lastStage li_yX1_lastStage oD (kX1_lastStage l E ad M v2) (As := [.int v2]) rfl dX1_roundsOf_25 rfl hl.1 (Nat.le_of_ble_eq_true rfl) ⟨Nat.le_of_ble_eq_true rfl, Nat.le_of_ble_eq_true rfl⟩ ⟨Nat.le_of_ble_eq_true rfl, Nat.le_of_ble_eq_true rfl⟩) ⟨rfl, rfl⟩ (fun v6 H locs hH => ?_)
        refine k_mmax C w_2_144 hl.1 (Nat.le_of_ble_eq_true rfl) (Nat.le_of_ble_eq_true rfl) ⟨Nat.zero_le _, Nat.zero_le _⟩ dX1_roundsOf_28 ?_
        refine W_nmi (fun v7 => ?_)
        refine lv_istore_n (lv' := [(2, .int v7), (0, .ref (ad 106)), (1, .int a1), (3, .int v2)]) hx hb dX1_roundsOf_31 rfl hl (by decide) rfl (fun ls hl => ?_)
        refine W_nm (fun v8 ev8 => ?_)
        refine lv_iinc (v := v8) (lv' := [(3, .int v8), (2, .int v7), (0, .ref (ad 106)), (1, .int a1)]) hx hb dX1_roundsOf_32 hl (k := 3) rfl (by rw [ev8]; rfl) (by decide) rfl (fun ls hl => ?_)
        refine lv_goto (tgt := 4) hx hb dX1_roundsOf_35 (by decide) ?_
        exact hrec4 (v7, v8) _ _ _ hH (lv_sub hl [2, 3, 1, 0] rfl)
def fX1_freshIn_X5 (v3 : Int32) : Option (Int32) := some v3
theorem fX1_freshIn_X5_u {v3 : Int32} : fX1_freshIn_X5 v3 = some v3 := rfl
def fX1_freshIn_L5 (M : KS) (a1 : Int32) (a2 : Int32) (rec5 : (Int32 × Int32) → Option (Int32)) (k5 : (Int32) → Option (Int32)) (x : Int32 × Int32) : Option (Int32) := match x with | (v1, v2) => (if 216 ≤ v2 then k5 v1 else if inb v2 216 then (if (M.1 107 v2.toNatClampNeg) = a2 then (fX3_of M 0 (v2 / 36)).bind fun v5 => (if v5 = a1 then nm (v1 + 1) fun v7 => nm (v2 + 1) fun v8 => rec5 (v7, v8) else nm (v2 + 1) fun v6 => rec5 (v1, v6)) else nm (v2 + 1) fun v4 => rec5 (v1, v4)) else none)
theorem fX1_freshIn_L5_u {M : KS} {a1 : Int32} {a2 : Int32} {rec5 : (Int32 × Int32) → Option (Int32)} {k5 : (Int32) → Option (Int32)} {v1 : Int32} {v2 : Int32} : fX1_freshIn_L5 M a1 a2 rec5 k5 (v1, v2) = (if 216 ≤ v2 then k5 v1 else if inb v2 216 then (if (M.1 107 v2.toNatClampNeg) = a2 then (fX3_of M 0 (v2 / 36)).bind fun v5 => (if v5 = a1 then nm (v1 + 1) fun v7 => nm (v2 + 1) fun v8 => rec5 (v7, v8) else nm (v2 + 1) fun v6 => rec5 (v1, v6)) else nm (v2 + 1) fun v4 => rec5 (v1, v4)) else none) := rfl
def fX1_freshIn (M : KS) (a1 : Int32) (a2 : Int32) : Option (Int32) := lp (fX1_freshIn_L5 M a1 a2) (fX1_freshIn_X5) 1000000 (0, 0)
set_option maxHeartbeats 4000000 in
set_option maxRecDepth 100000 in
theorem kX1_freshIn (l : Launch) (E : KE) (ad : Nat → Nat) (M : KS) (a1 : Int32) (a2 : Int32) : CT l yX1_freshIn cX1_freshIn 5 (some .int) { frames := 1, cells := 0, slots := 0, locals := 21 } SK E ad [.ref (ad 106), .int a1, .int a2] M (fun sz a => QI SK E ad sz (a, M)) (fX1_freshIn M a1 a2) := by
  refine CT.ofW (by decide) (Nat.le_of_ble_eq_true rfl) (fun sz p e s m args below meth c C hr hH ls hl => ?_)
  have hx := C.1.1
  have hb := C.1.2.1
  have hl : lv_has ls 5 [(0, .ref (ad 106)), (1, .int a1), (2, .int a2)] := hl
  unfold fX1_freshIn
  refine lv_iconst (v := 0) hx hb dX1_freshIn_0 (by decide) ?_
  refine lv_istore_n (lv' := [(3, .int 0), (0, .ref (ad 106)), (1, .int a1), (2, .int a2)]) hx hb dX1_freshIn_1 rfl hl (by decide) rfl (fun ls hl => ?_)
  refine lv_iconst (v := 0) hx hb dX1_freshIn_2 (by decide) ?_
  refine lv_istore (lv' := [(4, .int 0), (3, .int 0), (0, .ref (ad 106)), (1, .int a1), (2, .int a2)]) hx hb dX1_freshIn_3 hl (by decide) rfl (fun ls hl => ?_)
  refine W_lp (fun (x : Int32 × Int32) H locs => KH SK E ad sz M s.heap H locs) (fun x ls => lv_has ls 5 [(0, .ref (ad 106)), (1, .int a1), (2, .int a2), (3, .int x.1), (4, .int x.2)]) (fun _ ls => F0 m 5 ls []) (fun (x : Int32) H locs => KH SK E ad sz M s.heap H locs) (fun x ls => lv_has ls 5 [(3, .int x)]) (fun _ ls => F0 m 49 ls []) ?_ ?_ hH (lv_sub hl [2, 3, 4, 1, 0] rfl)
  · intro v3 H locs ls hH hl
    have hH : KH SK E ad sz M s.heap H locs := hH
    have hl : lv_has ls 5 [(3, .int v3)] := hl
    refine W_q fX1_freshIn_X5_u ?_
    refine lv_iload_n hx hb dX1_freshIn_49 rfl (lv_at hl 0 rfl) ?_
    exact ke_i C hH hr (Nat.le_refl _) (Nat.le_refl _) rfl dX1_freshIn_50
  · intro rec5 k5 hrec5 hk5 ⟨v1, v2⟩ H locs ls hH hl
    have hH : KH SK E ad sz M s.heap H locs := hH
    have hl : lv_has ls 5 [(0, .ref (ad 106)), (1, .int a1), (2, .int a2), (3, .int v1), (4, .int v2)] := hl
    refine W_q fX1_freshIn_L5_u ?_
    refine lv_iload hx hb dX1_freshIn_5 (lv_at hl 4 rfl) ?_
    refine lv_sipush (v := 216) hx hb dX1_freshIn_7 (by decide) ?_
    refine kb_icmp_ge (tgt := 49) hx hb dX1_freshIn_10 (by decide) (fun _ => ?_) (fun _ => ?_)
    · exact hk5 v1 _ _ _ hH (lv_sub hl [3] rfl)
    · refine lv_aload_n hx hb dX1_freshIn_13 rfl (lv_at hl 0 rfl) ?_
      refine k_get C hH fd_X1_31 oD (k_ref (M := M) (ad := ad) rD4) dX1_freshIn_14 ?_
      refine lv_iload hx hb dX1_freshIn_17 (lv_at hl 4 rfl) ?_
      refine k_iald C hH aD4 dX1_freshIn_19 ?_
      refine lv_iload_n hx hb dX1_freshIn_20 rfl (lv_at hl 2 rfl) ?_
      refine kb_icmp_ne (tgt := 43) hx hb dX1_freshIn_21 (by decide) (fun _ => ?_) (fun _ => ?_)
      · refine W_nm (fun v4 ev4 => ?_)
        refine lv_iinc (v := v4) (lv' := [(4, .int v4), (0, .ref (ad 106)), (1, .int a1), (2, .int a2), (3, .int v1)]) hx hb dX1_freshIn_43 hl (k := 4) rfl (by rw [ev4]; rfl) (by decide) rfl (fun ls hl => ?_)
        refine lv_goto (tgt := 5) hx hb dX1_freshIn_46 (by decide) ?_
        exact hrec5 (v1, v4) _ _ _ hH (lv_sub hl [1, 2, 3, 4, 0] rfl)
      · refine lv_aload_n hx hb dX1_freshIn_24 rfl (lv_at hl 0 rfl) ?_
        refine k_get C hH fd_X1_27 oD (k_ref (M := M) (ad := ad) rD3) dX1_freshIn_25 ?_
        refine lv_iload hx hb dX1_freshIn_28 (lv_at hl 4 rfl) ?_
        refine lv_bipush (v := 36) hx hb dX1_freshIn_30 (by decide) ?_
        refine lv_idiv hx hb dX1_freshIn_32 (by decide) ?_
        refine kg_io C hH (kc_V C hH w_2_83 lc_yX3_of li_yX3_of (oY (f := 0) (by decide)) (kX3_of l E ad M 0 (by decide) (v2 / 36)) (As := [.int (v2 / 36)]) rfl dX1_freshIn_33 rfl hl.1 (Nat.le_of_ble_eq_true rfl) ⟨Nat.le_of_ble_eq_true rfl, Nat.le_of_ble_eq_true rfl⟩ ⟨Nat.le_of_ble_eq_true rfl, Nat.le_of_ble_eq_true rfl⟩) ⟨rfl, rfl⟩ (fun v5 H locs hH => ?_)
        refine lv_iload_n hx hb dX1_freshIn_36 rfl (lv_at hl 1 rfl) ?_
        refine kb_icmp_ne (tgt := 43) hx hb dX1_freshIn_37 (by decide) (fun _ => ?_) (fun _ => ?_)
        · refine W_nm (fun v6 ev6 => ?_)
          refine lv_iinc (v := v6) (lv' := [(4, .int v6), (0, .ref (ad 106)), (1, .int a1), (2, .int a2), (3, .int v1)]) hx hb dX1_freshIn_43 hl (k := 4) rfl (by rw [ev6]; rfl) (by decide) rfl (fun ls hl => ?_)
          refine lv_goto (tgt := 5) hx hb dX1_freshIn_46 (by decide) ?_
          exact hrec5 (v1, v6) _ _ _ hH (lv_sub hl [1, 2, 3, 4, 0] rfl)
        · refine W_nm (fun v7 ev7 => ?_)
          refine lv_iinc (v := v7) (lv' := [(3, .int v7), (0, .ref (ad 106)), (1, .int a1), (2, .int a2), (4, .int v2)]) hx hb dX1_freshIn_40 hl (k := 3) rfl (by rw [ev7]; rfl) (by decide) rfl (fun ls hl => ?_)
          refine W_nm (fun v8 ev8 => ?_)
          refine lv_iinc (v := v8) (lv' := [(4, .int v8), (3, .int v7), (0, .ref (ad 106)), (1, .int a1), (2, .int a2)]) hx hb dX1_freshIn_43 hl (k := 4) rfl (by rw [ev8]; rfl) (by decide) rfl (fun ls hl => ?_)
          refine lv_goto (tgt := 5) hx hb dX1_freshIn_46 (by decide) ?_
          exact hrec5 (v7, v8) _ _ _ hH (lv_sub hl [2, 3, 4, 1, 0] rfl)
def fX4_clear (M : KS)  : Option (KS) := nm (kset M 119 1 0) fun M1 => some M1
set_option maxHeartbeats 4000000 in
set_option maxRecDepth 100000 in
theorem kX4_clear (l : Launch) (E : KE) (ad : Nat → Nat) (M : KS)  : CT l yX4_clear cX4_clear 1 none { frames := 0, cells := 0, slots := 0, locals := 0 } SK E ad [.ref (ad 119)] M (QV SK E ad) (fX4_clear M) := by
  refine CT.ofW (by decide) (Nat.le_of_ble_eq_true rfl) (fun sz p e s m args below meth c C hr hH ls hl => ?_)
  have hx := C.1.1
  have hb := C.1.2.1
  have hl : lv_has ls 1 [(0, .ref (ad 119))] := hl
  unfold fX4_clear
  refine lv_aload_n hx hb dX4_clear_0 rfl (lv_at hl 0 rfl) ?_
  refine lv_iconst (v := 0) hx hb dX4_clear_1 (by decide) ?_
  refine k_put1 C hH fd_X4_15 fw_X4_1 oL nL1 rfl rfl dX4_clear_2 (fun M1 H locs hH => ?_)
  exact ke_v C hH hr (Nat.le_refl _) (Nat.le_refl _) rfl dX4_clear_5
def fX4_add (M : KS) (a1 : Int32) : Option (KS) := (if 24 ≤ (M.1 119 1) then some M else if inb (M.1 119 1) 24 then nm (kset M 120 (M.1 119 1).toNatClampNeg (vp_nar .char a1)) fun M1 => nm (kset M1 119 1 ((M1.1 119 1) + 1)) fun M2 => some M2 else none)
set_option maxHeartbeats 4000000 in
set_option maxRecDepth 100000 in
theorem kX4_add (l : Launch) (E : KE) (ad : Nat → Nat) (M : KS) (a1 : Int32) : CT l yX4_add cX4_add 2 none { frames := 0, cells := 0, slots := 0, locals := 0 } SK E ad [.ref (ad 119), .int a1] M (QV SK E ad) (fX4_add M a1) := by
  refine CT.ofW (by decide) (Nat.le_of_ble_eq_true rfl) (fun sz p e s m args below meth c C hr hH ls hl => ?_)
  have hx := C.1.1
  have hb := C.1.2.1
  have hl : lv_has ls 2 [(0, .ref (ad 119)), (1, .int a1)] := hl
  unfold fX4_add
  refine lv_aload_n hx hb dX4_add_0 rfl (lv_at hl 0 rfl) ?_
  refine k_get C hH fd_X4_15 oL (k_int (M := M) (ad := ad) nL1) dX4_add_1 ?_
  refine lv_aload_n hx hb dX4_add_4 rfl (lv_at hl 0 rfl) ?_
  refine k_get C hH fd_X4_9 oL (k_ref (M := M) (ad := ad) rL0) dX4_add_5 ?_
  refine k_clen C hH aL0 (v := 24) rfl dX4_add_8 ?_
  refine kb_icmp_ge (tgt := 32) hx hb dX4_add_9 (by decide) (fun _ => ?_) (fun _ => ?_)
  · exact ke_v C hH hr (Nat.le_refl _) (Nat.le_refl _) rfl dX4_add_32
  · refine lv_aload_n hx hb dX4_add_12 rfl (lv_at hl 0 rfl) ?_
    refine k_get C hH fd_X4_9 oL (k_ref (M := M) (ad := ad) rL0) dX4_add_13 ?_
    refine lv_aload_n hx hb dX4_add_16 rfl (lv_at hl 0 rfl) ?_
    refine k_get C hH fd_X4_15 oL (k_int (M := M) (ad := ad) nL1) dX4_add_17 ?_
    refine lv_iload_n hx hb dX4_add_20 rfl (lv_at hl 1 rfl) ?_
    refine k_cast C hH aL0 dX4_add_21 (fun M1 H locs hH => ?_)
    refine lv_aload_n hx hb dX4_add_22 rfl (lv_at hl 0 rfl) ?_
    refine lv_dup hx hb dX4_add_23 rfl ?_
    refine k_get C hH fd_X4_15 oL (k_int (M := M1) (ad := ad) nL1) dX4_add_24 ?_
    refine lv_iconst (v := 1) hx hb dX4_add_27 (by decide) ?_
    refine lv_iadd hx hb dX4_add_28 ?_
    refine k_put1 C hH fd_X4_15 fw_X4_1 oL nL1 rfl rfl dX4_add_29 (fun M2 H locs hH => ?_)
    exact ke_v C hH hr (Nat.le_refl _) (Nat.le_refl _) rfl dX4_add_32
def fX4_addNumber (M : KS) (a1 : Int32) (a2 : Int32) : Option (KS) := (fX4_add M (ji2c (a1 + a2))).bind fun M1 => some M1
set_option maxHeartbeats 4000000 in
set_option maxRecDepth 100000 in
theorem kX4_addNumber (l : Launch) (E : KE) (ad : Nat → Nat) (M : KS) (a1 : Int32) (a2 : Int32) : CT l yX4_addNumber cX4_addNumber 3 none { frames := 1, cells := 0, slots := 0, locals := 21 } SK E ad [.ref (ad 119), .int a1, .int a2] M (QV SK E ad) (fX4_addNumber M a1 a2) := by
  refine CT.ofW (by decide) (Nat.le_of_ble_eq_true rfl) (fun sz p e s m args below meth c C hr hH ls hl => ?_)
  have hx := C.1.1
  have hb := C.1.2.1
  have hl : lv_has ls 3 [(0, .ref (ad 119)), (1, .int a1), (2, .int a2)] := hl
  unfold fX4_addNumber
  refine lv_aload_n hx hb dX4_addNumber_0 rfl (lv_at hl 0 rfl) ?_
  refine lv_iload_n hx hb dX4_addNumber_1 rfl (lv_at hl 1 rfl) ?_
  refine lv_iload_n hx hb dX4_addNumber_2 rfl (lv_at hl 2 rfl) ?_
  refine lv_iadd hx hb dX4_addNumber_3 ?_
  refine lv_i2c (v := (ji2c (a1 + a2))) hx hb dX4_addNumber_4 rfl ?_
  refine kg_v C hH (kc_V C hH w_4_206 lc_yX4_add li_yX4_add oL (kX4_add l E ad M (ji2c (a1 + a2))) (As := [.int (ji2c (a1 + a2))]) rfl dX4_addNumber_5 rfl hl.1 (Nat.le_of_ble_eq_true rfl) ⟨Nat.le_of_ble_eq_true rfl, Nat.le_of_ble_eq_true rfl⟩ ⟨Nat.le_of_ble_eq_true rfl, Nat.le_of_ble_eq_true rfl⟩) ⟨rfl, rfl⟩ (fun M1 H locs hH => ?_)
  exact ke_v C hH hr (Nat.le_refl _) (Nat.le_refl _) rfl dX4_addNumber_8
def fX4_addFact (M : KS) (a1 : Int32) : Option (KS) := (fX4_addNumber M 48 (a1 / 36)).bind fun M1 => (fX4_addNumber M1 97 (jrem (a1 / 6) 6)).bind fun M2 => (fX4_addNumber M2 97 (jrem a1 6)).bind fun M3 => some M3
set_option maxHeartbeats 4000000 in
set_option maxRecDepth 100000 in
theorem kX4_addFact (l : Launch) (E : KE) (ad : Nat → Nat) (M : KS) (a1 : Int32) : CT l yX4_addFact cX4_addFact 2 none { frames := 2, cells := 0, slots := 0, locals := 43 } SK E ad [.ref (ad 119), .int a1] M (QV SK E ad) (fX4_addFact M a1) := by
  refine CT.ofW (by decide) (Nat.le_of_ble_eq_true rfl) (fun sz p e s m args below meth c C hr hH ls hl => ?_)
  have hx := C.1.1
  have hb := C.1.2.1
  have hl : lv_has ls 2 [(0, .ref (ad 119)), (1, .int a1)] := hl
  unfold fX4_addFact
  refine lv_aload_n hx hb dX4_addFact_0 rfl (lv_at hl 0 rfl) ?_
  refine lv_bipush (v := 48) hx hb dX4_addFact_1 (by decide) ?_
  refine lv_iload_n hx hb dX4_addFact_3 rfl (lv_at hl 1 rfl) ?_
  refine lv_bipush (v := 36) hx hb dX4_addFact_4 (by decide) ?_
  refine lv_idiv hx hb dX4_addFact_6 (by decide) ?_
  refine kg_v C hH (kc_V C hH w_4_202 lc_yX4_addNumber li_yX4_addNumber oL (kX4_addNumber l E ad M 48 (a1 / 36)) (As := [.int 48, .int (a1 / 36)]) rfl dX4_addFact_7 rfl hl.1 (Nat.le_of_ble_eq_true rfl) ⟨Nat.le_of_ble_eq_true rfl, Nat.le_of_ble_eq_true rfl⟩ ⟨Nat.le_of_ble_eq_true rfl, Nat.le_of_ble_eq_true rfl⟩) ⟨rfl, rfl⟩ (fun M1 H locs hH => ?_)
  refine lv_aload_n hx hb dX4_addFact_10 rfl (lv_at hl 0 rfl) ?_
  refine lv_bipush (v := 97) hx hb dX4_addFact_11 (by decide) ?_
  refine lv_iload_n hx hb dX4_addFact_13 rfl (lv_at hl 1 rfl) ?_
  refine lv_bipush (v := 6) hx hb dX4_addFact_14 (by decide) ?_
  refine lv_idiv hx hb dX4_addFact_16 (by decide) ?_
  refine lv_bipush (v := 6) hx hb dX4_addFact_17 (by decide) ?_
  refine k_irem hx hb dX4_addFact_19 (by decide) ?_
  refine kg_v C hH (kc_V C hH w_4_202 lc_yX4_addNumber li_yX4_addNumber oL (kX4_addNumber l E ad M1 97 (jrem (a1 / 6) 6)) (As := [.int 97, .int (jrem (a1 / 6) 6)]) rfl dX4_addFact_20 rfl hl.1 (Nat.le_of_ble_eq_true rfl) ⟨Nat.le_of_ble_eq_true rfl, Nat.le_of_ble_eq_true rfl⟩ ⟨Nat.le_of_ble_eq_true rfl, Nat.le_of_ble_eq_true rfl⟩) ⟨rfl, rfl⟩ (fun M2 H locs hH => ?_)
  refine lv_aload_n hx hb dX4_addFact_23 rfl (lv_at hl 0 rfl) ?_
  refine lv_bipush (v := 97) hx hb dX4_addFact_24 (by decide) ?_
  refine lv_iload_n hx hb dX4_addFact_26 rfl (lv_at hl 1 rfl) ?_
  refine lv_bipush (v := 6) hx hb dX4_addFact_27 (by decide) ?_
  refine k_irem hx hb dX4_addFact_29 (by decide) ?_
  refine kg_v C hH (kc_V C hH w_4_202 lc_yX4_addNumber li_yX4_addNumber oL (kX4_addNumber l E ad M2 97 (jrem a1 6)) (As := [.int 97, .int (jrem a1 6)]) rfl dX4_addFact_30 rfl hl.1 (Nat.le_of_ble_eq_true rfl) ⟨Nat.le_of_ble_eq_true rfl, Nat.le_of_ble_eq_true rfl⟩ ⟨Nat.le_of_ble_eq_true rfl, Nat.le_of_ble_eq_true rfl⟩) ⟨rfl, rfl⟩ (fun M3 H locs hH => ?_)
  exact ke_v C hH hr (Nat.le_refl _) (Nat.le_refl _) rfl dX4_addFact_33
def fX1_maker (M : KS) (a1 : Int32) : Option (Int32) := (if a1 < 0 then some (-1) else (if 216 ≤ a1 then some (-1) else if inb a1 216 then some (M.1 108 a1.toNatClampNeg) else none))
set_option maxHeartbeats 4000000 in
set_option maxRecDepth 100000 in
theorem kX1_maker (l : Launch) (E : KE) (ad : Nat → Nat) (M : KS) (a1 : Int32) : CT l yX1_maker cX1_maker 2 (some .int) { frames := 0, cells := 0, slots := 0, locals := 0 } SK E ad [.ref (ad 106), .int a1] M (fun sz a => QI SK E ad sz (a, M)) (fX1_maker M a1) := by
  refine CT.ofW (by decide) (Nat.le_of_ble_eq_true rfl) (fun sz p e s m args below meth c C hr hH ls hl => ?_)
  have hx := C.1.1
  have hb := C.1.2.1
  have hl : lv_has ls 2 [(0, .ref (ad 106)), (1, .int a1)] := hl
  unfold fX1_maker
  refine lv_iload_n hx hb dX1_maker_0 rfl (lv_at hl 1 rfl) ?_
  refine kb_if_lt (tgt := 22) hx hb dX1_maker_1 (by decide) (fun _ => ?_) (fun _ => ?_)
  · refine lv_iconst (v := (-1)) hx hb dX1_maker_22 (by decide) ?_
    exact ke_i C hH hr (Nat.le_refl _) (Nat.le_refl _) rfl dX1_maker_23
  · refine lv_iload_n hx hb dX1_maker_4 rfl (lv_at hl 1 rfl) ?_
    refine lv_aload_n hx hb dX1_maker_5 rfl (lv_at hl 0 rfl) ?_
    refine k_get C hH fd_X1_35 oD (k_ref (M := M) (ad := ad) rD5) dX1_maker_6 ?_
    refine k_ilen C hH aD5 (v := 216) rfl dX1_maker_9 ?_
    refine kb_icmp_ge (tgt := 22) hx hb dX1_maker_10 (by decide) (fun _ => ?_) (fun _ => ?_)
    · refine lv_iconst (v := (-1)) hx hb dX1_maker_22 (by decide) ?_
      exact ke_i C hH hr (Nat.le_refl _) (Nat.le_refl _) rfl dX1_maker_23
    · refine lv_aload_n hx hb dX1_maker_13 rfl (lv_at hl 0 rfl) ?_
      refine k_get C hH fd_X1_35 oD (k_ref (M := M) (ad := ad) rD5) dX1_maker_14 ?_
      refine lv_iload_n hx hb dX1_maker_17 rfl (lv_at hl 1 rfl) ?_
      refine k_iald C hH aD5 dX1_maker_18 ?_
      refine lv_goto (tgt := 23) hx hb dX1_maker_19 (by decide) ?_
      exact ke_i C hH hr (Nat.le_refl _) (Nat.le_refl _) rfl dX1_maker_23
def fX9_writeFact_X80 (M11 : KS) : Option (KS) := some M11
theorem fX9_writeFact_X80_u {M11 : KS} : fX9_writeFact_X80 M11 = some M11 := rfl
def fX9_writeFact_L80 (a1 : Int32) (rec80 : (Int32 × Int32 × KS) → Option (KS)) (k80 : (KS) → Option (KS)) (x : Int32 × Int32 × KS) : Option (KS) := match x with | (v8, v9, M10) => (if 3 ≤ v9 then k80 M10 else (fX1_need M10 0 a1 v9).bind fun v12 => (if v12 < 0 then nm (v9 + 1) fun v13 => rec80 (v8, v13, M10) else (fX4_add M10 v8).bind fun M14 => (fX4_addFact M14 v12).bind fun M15 => nm (v9 + 1) fun v16 => rec80 (44, v16, M15)))
theorem fX9_writeFact_L80_u {a1 : Int32} {rec80 : (Int32 × Int32 × KS) → Option (KS)} {k80 : (KS) → Option (KS)} {v8 : Int32} {v9 : Int32} {M10 : KS} : fX9_writeFact_L80 a1 rec80 k80 (v8, v9, M10) = (if 3 ≤ v9 then k80 M10 else (fX1_need M10 0 a1 v9).bind fun v12 => (if v12 < 0 then nm (v9 + 1) fun v13 => rec80 (v8, v13, M10) else (fX4_add M10 v8).bind fun M14 => (fX4_addFact M14 v12).bind fun M15 => nm (v9 + 1) fun v16 => rec80 (44, v16, M15))) := rfl
def fX9_writeFact (M : KS) (a1 : Int32) : Option (KS) := (fX1_settled M 0).bind fun M1 => (fX4_clear M1).bind fun M2 => (fX4_addFact M2 a1).bind fun M3 => (fX2_has M3 0 a1).bind fun v4 => (if v4 = 0 then (fX4_add M3 60).bind fun M5 => (fX1_maker M5 a1).bind fun v6 => (fX4_addNumber M5 48 v6).bind fun M7 => lp (fX9_writeFact_L80 a1) (fX9_writeFact_X80) 1000000 (58, 0, M7) else (fX4_add M3 46).bind fun M17 => some M17)
set_option maxHeartbeats 4000000 in
set_option maxRecDepth 100000 in
theorem kX9_writeFact (l : Launch) (E : KE) (ad : Nat → Nat) (M : KS) (a1 : Int32) : CT l yX9_writeFact cX9_writeFact 6 none { frames := 5, cells := 0, slots := 0, locals := 135 } SK E ad [.ref (ad 121), .int a1] M (QV SK E ad) (fX9_writeFact M a1) := by
  refine CT.ofW (by decide) (Nat.le_of_ble_eq_true rfl) (fun sz p e s m args below meth c C hr hH ls hl => ?_)
  have hx := C.1.1
  have hb := C.1.2.1
  have hl : lv_has ls 6 [(0, .ref (ad 121)), (1, .int a1)] := hl
  unfold fX9_writeFact
  refine lv_aload_n hx hb dX9_writeFact_0 rfl (lv_at hl 0 rfl) ?_
  refine k_get C hH fd_X9_29 oK (k_ref (M := M) (ad := ad) rK3) dX9_writeFact_1 ?_
  refine lv_aload_n hx hb dX9_writeFact_4 rfl (lv_at hl 0 rfl) ?_
  refine k_get C hH fd_X9_10 oK (k_ref (M := M) (ad := ad) rK0) dX9_writeFact_5 ?_
  refine kg_r C hH (kc_V C hH w_2_27 lc_yX1_settled li_yX1_settled oD (kX1_settled l E ad M 0 (by decide)) (As := [.ref (ad (iS 0))]) rfl dX9_writeFact_8 rfl hl.1 (Nat.le_of_ble_eq_true rfl) ⟨Nat.le_of_ble_eq_true rfl, Nat.le_of_ble_eq_true rfl⟩ ⟨Nat.le_of_ble_eq_true rfl, Nat.le_of_ble_eq_true rfl⟩) ⟨rfl, rfl⟩ (fun M1 H locs hH => ?_)
  refine lv_astore_n (lv' := [(2, .ref (ad 106)), (0, .ref (ad 121)), (1, .int a1)]) hx hb dX9_writeFact_11 rfl hl (by decide) rfl (fun ls hl => ?_)
  refine lv_aload_n hx hb dX9_writeFact_12 rfl (lv_at hl 1 rfl) ?_
  refine k_get C hH fd_X9_57 oK (k_ref (M := M1) (ad := ad) rK7) dX9_writeFact_13 ?_
  refine kg_v C hH (kc_V C hH w_4_194 lc_yX4_clear li_yX4_clear oL (kX4_clear l E ad M1) (As := []) rfl dX9_writeFact_16 rfl hl.1 (Nat.le_of_ble_eq_true rfl) ⟨Nat.le_of_ble_eq_true rfl, Nat.le_of_ble_eq_true rfl⟩ ⟨Nat.le_of_ble_eq_true rfl, Nat.le_of_ble_eq_true rfl⟩) ⟨rfl, rfl⟩ (fun M2 H locs hH => ?_)
  refine lv_aload_n hx hb dX9_writeFact_19 rfl (lv_at hl 1 rfl) ?_
  refine k_get C hH fd_X9_57 oK (k_ref (M := M2) (ad := ad) rK7) dX9_writeFact_20 ?_
  refine lv_iload_n hx hb dX9_writeFact_23 rfl (lv_at hl 2 rfl) ?_
  refine kg_v C hH (kc_V C hH w_4_198 lc_yX4_addFact li_yX4_addFact oL (kX4_addFact l E ad M2 a1) (As := [.int a1]) rfl dX9_writeFact_24 rfl hl.1 (Nat.le_of_ble_eq_true rfl) ⟨Nat.le_of_ble_eq_true rfl, Nat.le_of_ble_eq_true rfl⟩ ⟨Nat.le_of_ble_eq_true rfl, Nat.le_of_ble_eq_true rfl⟩) ⟨rfl, rfl⟩ (fun M3 H locs hH => ?_)
  refine lv_aload_n hx hb dX9_writeFact_27 rfl (lv_at hl 1 rfl) ?_
  refine k_get C hH fd_X9_10 oK (k_ref (M := M3) (ad := ad) rK0) dX9_writeFact_28 ?_
  refine k_getN C hH fn_X9_124 (oS (f := 0) (by decide)) (k_ref (M := M3) (ad := ad) (rS0 (f := 0) (by decide))) dX9_writeFact_31 ?_
  refine lv_iload_n hx hb dX9_writeFact_34 rfl (lv_at hl 2 rfl) ?_
  refine kg_io C hH (kc_V C hH w_3_86 lc_yX2_has li_yX2_has (oF (f := 0) (by decide)) (kX2_has l E ad M3 0 (by decide) a1) (As := [.int a1]) rfl dX9_writeFact_35 rfl hl.1 (Nat.le_of_ble_eq_true rfl) ⟨Nat.le_of_ble_eq_true rfl, Nat.le_of_ble_eq_true rfl⟩ ⟨Nat.le_of_ble_eq_true rfl, Nat.le_of_ble_eq_true rfl⟩) ⟨rfl, rfl⟩ (fun v4 H locs hH => ?_)
  refine kb_if_eq (tgt := 51) hx hb dX9_writeFact_38 (by decide) (fun _ => ?_) (fun _ => ?_)
  · refine lv_aload_n hx hb dX9_writeFact_51 rfl (lv_at hl 1 rfl) ?_
    refine k_get C hH fd_X9_57 oK (k_ref (M := M3) (ad := ad) rK7) dX9_writeFact_52 ?_
    refine lv_bipush (v := 60) hx hb dX9_writeFact_55 (by decide) ?_
    refine kg_v C hH (kc_V C hH w_4_210 lc_yX4_add li_yX4_add oL (kX4_add l E ad M3 60) (As := [.int 60]) rfl dX9_writeFact_57 rfl hl.1 (Nat.le_of_ble_eq_true rfl) ⟨Nat.le_of_ble_eq_true rfl, Nat.le_of_ble_eq_true rfl⟩ ⟨Nat.le_of_ble_eq_true rfl, Nat.le_of_ble_eq_true rfl⟩) ⟨rfl, rfl⟩ (fun M5 H locs hH => ?_)
    refine lv_aload_n hx hb dX9_writeFact_60 rfl (lv_at hl 1 rfl) ?_
    refine k_get C hH fd_X9_57 oK (k_ref (M := M5) (ad := ad) rK7) dX9_writeFact_61 ?_
    refine lv_bipush (v := 48) hx hb dX9_writeFact_64 (by decide) ?_
    refine lv_aload_n hx hb dX9_writeFact_66 rfl (lv_at hl 0 rfl) ?_
    refine lv_iload_n hx hb dX9_writeFact_67 rfl (lv_at hl 2 rfl) ?_
    refine kg_io C hH (kc_V C hH w_4_211 lc_yX1_maker li_yX1_maker oD (kX1_maker l E ad M5 a1) (As := [.int a1]) rfl dX9_writeFact_68 rfl hl.1 (Nat.le_of_ble_eq_true rfl) ⟨Nat.le_of_ble_eq_true rfl, Nat.le_of_ble_eq_true rfl⟩ ⟨Nat.le_of_ble_eq_true rfl, Nat.le_of_ble_eq_true rfl⟩) ⟨rfl, rfl⟩ (fun v6 H locs hH => ?_)
    refine kg_v C hH (kc_V C hH w_4_215 lc_yX4_addNumber li_yX4_addNumber oL (kX4_addNumber l E ad M5 48 v6) (As := [.int 48, .int v6]) rfl dX9_writeFact_71 rfl hl.1 (Nat.le_of_ble_eq_true rfl) ⟨Nat.le_of_ble_eq_true rfl, Nat.le_of_ble_eq_true rfl⟩ ⟨Nat.le_of_ble_eq_true rfl, Nat.le_of_ble_eq_true rfl⟩) ⟨rfl, rfl⟩ (fun M7 H locs hH => ?_)
    refine lv_bipush (v := 58) hx hb dX9_writeFact_74 (by decide) ?_
    refine lv_istore_n (lv' := [(3, .int 58), (2, .ref (ad 106)), (0, .ref (ad 121)), (1, .int a1)]) hx hb dX9_writeFact_76 rfl hl (by decide) rfl (fun ls hl => ?_)
    refine lv_iconst (v := 0) hx hb dX9_writeFact_77 (by decide) ?_
    refine lv_istore (lv' := [(4, .int 0), (3, .int 58), (2, .ref (ad 106)), (0, .ref (ad 121)), (1, .int a1)]) hx hb dX9_writeFact_78 hl (by decide) rfl (fun ls hl => ?_)
    refine W_lp (fun (x : Int32 × Int32 × KS) H locs => KH SK E ad sz x.2.2 s.heap H locs) (fun x ls => lv_has ls 6 [(2, .ref (ad 106)), (0, .ref (ad 121)), (1, .int a1), (3, .int x.1), (4, .int x.2.1)]) (fun _ ls => F0 m 80 ls []) (fun (x : KS) H locs => KH SK E ad sz x s.heap H locs) (fun x ls => lv_has ls 6 []) (fun _ ls => F0 m 133 ls []) ?_ ?_ hH (lv_sub hl [2, 3, 4, 1, 0] rfl)
    · intro M11 H locs ls hH hl
      have hH : KH SK E ad sz M11 s.heap H locs := hH
      have hl : lv_has ls 6 [] := hl
      refine W_q fX9_writeFact_X80_u ?_
      exact ke_v C hH hr (Nat.le_refl _) (Nat.le_refl _) rfl dX9_writeFact_133
    · intro rec80 k80 hrec80 hk80 ⟨v8, v9, M10⟩ H locs ls hH hl
      have hH : KH SK E ad sz M10 s.heap H locs := hH
      have hl : lv_has ls 6 [(2, .ref (ad 106)), (0, .ref (ad 121)), (1, .int a1), (3, .int v8), (4, .int v9)] := hl
      refine W_q fX9_writeFact_L80_u ?_
      refine lv_iload hx hb dX9_writeFact_80 (lv_at hl 4 rfl) ?_
      refine lv_iconst (v := 3) hx hb dX9_writeFact_82 (by decide) ?_
      refine kb_icmp_ge (tgt := 133) hx hb dX9_writeFact_83 (by decide) (fun _ => ?_) (fun _ => ?_)
      · exact hk80 M10 _ _ _ hH (lv_sub hl [] rfl)
      · refine lv_aload_n hx hb dX9_writeFact_86 rfl (lv_at hl 0 rfl) ?_
        refine lv_aload_n hx hb dX9_writeFact_87 rfl (lv_at hl 1 rfl) ?_
        refine k_get C hH fd_X9_10 oK (k_ref (M := M10) (ad := ad) rK0) dX9_writeFact_88 ?_
        refine k_getN C hH fn_X9_128 (oS (f := 0) (by decide)) (k_ref (M := M10) (ad := ad) (rS1 (f := 0) (by decide))) dX9_writeFact_91 ?_
        refine lv_iload_n hx hb dX9_writeFact_94 rfl (lv_at hl 2 rfl) ?_
        refine lv_iload hx hb dX9_writeFact_95 (lv_at hl 4 rfl) ?_
        refine kg_io C hH (kc_V C hH w_4_216 lc_yX1_need li_yX1_need oD (kX1_need l E ad M10 0 (by decide) a1 v9) (As := [.ref (ad (iR 0)), .int a1, .int v9]) rfl dX9_writeFact_97 rfl hl.1 (Nat.le_of_ble_eq_true rfl) ⟨Nat.le_of_ble_eq_true rfl, Nat.le_of_ble_eq_true rfl⟩ ⟨Nat.le_of_ble_eq_true rfl, Nat.le_of_ble_eq_true rfl⟩) ⟨rfl, rfl⟩ (fun v12 H locs hH => ?_)
        refine lv_istore (lv' := [(5, .int v12), (2, .ref (ad 106)), (0, .ref (ad 121)), (1, .int a1), (3, .int v8), (4, .int v9)]) hx hb dX9_writeFact_100 hl (by decide) rfl (fun ls hl => ?_)
        refine lv_iload hx hb dX9_writeFact_102 (lv_at hl 0 rfl) ?_
        refine kb_if_lt (tgt := 127) hx hb dX9_writeFact_104 (by decide) (fun _ => ?_) (fun _ => ?_)
        · refine W_nm (fun v13 ev13 => ?_)
          refine lv_iinc (v := v13) (lv' := [(4, .int v13), (5, .int v12), (2, .ref (ad 106)), (0, .ref (ad 121)), (1, .int a1), (3, .int v8)]) hx hb dX9_writeFact_127 hl (k := 5) rfl (by rw [ev13]; rfl) (by decide) rfl (fun ls hl => ?_)
          refine lv_goto (tgt := 80) hx hb dX9_writeFact_130 (by decide) ?_
          exact hrec80 (v8, v13, M10) _ _ _ hH (lv_sub hl [2, 3, 4, 5, 0] rfl)
        · refine lv_aload_n hx hb dX9_writeFact_107 rfl (lv_at hl 2 rfl) ?_
          refine k_get C hH fd_X9_57 oK (k_ref (M := M10) (ad := ad) rK7) dX9_writeFact_108 ?_
          refine lv_iload_n hx hb dX9_writeFact_111 rfl (lv_at hl 4 rfl) ?_
          refine kg_v C hH (kc_V C hH w_4_210 lc_yX4_add li_yX4_add oL (kX4_add l E ad M10 v8) (As := [.int v8]) rfl dX9_writeFact_112 rfl hl.1 (Nat.le_of_ble_eq_true rfl) ⟨Nat.le_of_ble_eq_true rfl, Nat.le_of_ble_eq_true rfl⟩ ⟨Nat.le_of_ble_eq_true rfl, Nat.le_of_ble_eq_true rfl⟩) ⟨rfl, rfl⟩ (fun M14 H locs hH => ?_)
          refine lv_aload_n hx hb dX9_writeFact_115 rfl (lv_at hl 2 rfl) ?_
          refine k_get C hH fd_X9_57 oK (k_ref (M := M14) (ad := ad) rK7) dX9_writeFact_116 ?_
          refine lv_iload hx hb dX9_writeFact_119 (lv_at hl 0 rfl) ?_
          refine kg_v C hH (kc_V C hH w_4_198 lc_yX4_addFact li_yX4_addFact oL (kX4_addFact l E ad M14 v12) (As := [.int v12]) rfl dX9_writeFact_121 rfl hl.1 (Nat.le_of_ble_eq_true rfl) ⟨Nat.le_of_ble_eq_true rfl, Nat.le_of_ble_eq_true rfl⟩ ⟨Nat.le_of_ble_eq_true rfl, Nat.le_of_ble_eq_true rfl⟩) ⟨rfl, rfl⟩ (fun M15 H locs hH => ?_)
          refine lv_bipush (v := 44) hx hb dX9_writeFact_124 (by decide) ?_
          refine lv_istore_n (lv' := [(3, .int 44), (5, .int v12), (2, .ref (ad 106)), (0, .ref (ad 121)), (1, .int a1), (4, .int v9)]) hx hb dX9_writeFact_126 rfl hl (by decide) rfl (fun ls hl => ?_)
          refine W_nm (fun v16 ev16 => ?_)
          refine lv_iinc (v := v16) (lv' := [(4, .int v16), (3, .int 44), (5, .int v12), (2, .ref (ad 106)), (0, .ref (ad 121)), (1, .int a1)]) hx hb dX9_writeFact_127 hl (k := 5) rfl (by rw [ev16]; rfl) (by decide) rfl (fun ls hl => ?_)
          refine lv_goto (tgt := 80) hx hb dX9_writeFact_130 (by decide) ?_
          exact hrec80 (44, v16, M15) _ _ _ hH (lv_sub hl [3, 4, 5, 1, 0] rfl)
  · refine lv_aload_n hx hb dX9_writeFact_41 rfl (lv_at hl 1 rfl) ?_
    refine k_get C hH fd_X9_57 oK (k_ref (M := M3) (ad := ad) rK7) dX9_writeFact_42 ?_
    refine lv_bipush (v := 46) hx hb dX9_writeFact_45 (by decide) ?_
    refine kg_v C hH (kc_V C hH w_4_210 lc_yX4_add li_yX4_add oL (kX4_add l E ad M3 46) (As := [.int 46]) rfl dX9_writeFact_47 rfl hl.1 (Nat.le_of_ble_eq_true rfl) ⟨Nat.le_of_ble_eq_true rfl, Nat.le_of_ble_eq_true rfl⟩ ⟨Nat.le_of_ble_eq_true rfl, Nat.le_of_ble_eq_true rfl⟩) ⟨rfl, rfl⟩ (fun M17 H locs hH => ?_)
    exact ke_v C hH hr (Nat.le_refl _) (Nat.le_refl _) rfl dX9_writeFact_50
def fX4_addCondition_J10_1 (a1 : Int32) (M1 : KS) : Option (KS) := (fX4_addNumber M1 48 (fX9_relationIn a1)).bind fun M2 => (fX9_firstIn a1).bind fun v3 => (fX4_addNumber M2 120 v3).bind fun M4 => (fX4_addNumber M4 120 (fX9_secondIn a1)).bind fun M5 => some M5
theorem fX4_addCondition_J10_1_u {a1 : Int32} {M1 : KS} : fX4_addCondition_J10_1 a1 M1 = (fX4_addNumber M1 48 (fX9_relationIn a1)).bind fun M2 => (fX9_firstIn a1).bind fun v3 => (fX4_addNumber M2 120 v3).bind fun M4 => (fX4_addNumber M4 120 (fX9_secondIn a1)).bind fun M5 => some M5 := rfl
def fX4_addCondition (M : KS) (a1 : Int32) : Option (KS) := jn (fX4_addCondition_J10_1 a1) (fun K10_1 => (if 0 ≤ a1 then K10_1 M else (fX4_add M 33).bind fun M6 => K10_1 M6))
set_option maxHeartbeats 4000000 in
set_option maxRecDepth 100000 in
theorem kX4_addCondition (l : Launch) (E : KE) (ad : Nat → Nat) (M : KS) (a1 : Int32) : CT l yX4_addCondition cX4_addCondition 2 none { frames := 2, cells := 0, slots := 0, locals := 43 } SK E ad [.ref (ad 119), .int a1] M (QV SK E ad) (fX4_addCondition M a1) := by
  refine CT.ofW (by decide) (Nat.le_of_ble_eq_true rfl) (fun sz p e s m args below meth c C hr hH ls hl => ?_)
  have hx := C.1.1
  have hb := C.1.2.1
  have hl : lv_has ls 2 [(0, .ref (ad 119)), (1, .int a1)] := hl
  unfold fX4_addCondition
  refine lv_iload_n hx hb dX4_addCondition_0 rfl (lv_at hl 1 rfl) ?_
  refine W_jn (fun (x : KS) H locs => KH SK E ad sz x s.heap H locs) (fun x ls => lv_has ls 2 [(0, .ref (ad 119)), (1, .int a1)]) (fun x ls => F0 m 10 ls []) ?_ (fun K10_1 hK10_1 => ?_)
  · intro M1 H locs ls hH hl
    have hH : KH SK E ad sz M1 s.heap H locs := hH
    have hl : lv_has ls 2 [(0, .ref (ad 119)), (1, .int a1)] := hl
    refine W_q fX4_addCondition_J10_1_u ?_
    refine lv_aload_n hx hb dX4_addCondition_10 rfl (lv_at hl 0 rfl) ?_
    refine lv_bipush (v := 48) hx hb dX4_addCondition_11 (by decide) ?_
    refine lv_iload_n hx hb dX4_addCondition_13 rfl (lv_at hl 1 rfl) ?_
    refine kg_ip C hH (kc_SN C hH w_4_228 w_st_yX9_relationIn lc_yX9_relationIn (kX9_relationIn l E ad M1 a1) (As := [.int a1]) rfl dX4_addCondition_14 rfl hl.1 (Nat.le_of_ble_eq_true rfl) ⟨Nat.le_of_ble_eq_true rfl, Nat.le_of_ble_eq_true rfl⟩ ⟨Nat.le_of_ble_eq_true rfl, Nat.le_of_ble_eq_true rfl⟩) ⟨rfl, rfl⟩ (fun H locs hH => ?_)
    refine kg_v C hH (kc_V C hH w_4_202 lc_yX4_addNumber li_yX4_addNumber oL (kX4_addNumber l E ad M1 48 (fX9_relationIn a1)) (As := [.int 48, .int (fX9_relationIn a1)]) rfl dX4_addCondition_17 rfl hl.1 (Nat.le_of_ble_eq_true rfl) ⟨Nat.le_of_ble_eq_true rfl, Nat.le_of_ble_eq_true rfl⟩ ⟨Nat.le_of_ble_eq_true rfl, Nat.le_of_ble_eq_true rfl⟩) ⟨rfl, rfl⟩ (fun M2 H locs hH => ?_)
    refine lv_aload_n hx hb dX4_addCondition_20 rfl (lv_at hl 0 rfl) ?_
    refine lv_bipush (v := 120) hx hb dX4_addCondition_21 (by decide) ?_
    refine lv_iload_n hx hb dX4_addCondition_23 rfl (lv_at hl 1 rfl) ?_
    refine kg_io C hH (kc_SN C hH w_4_229 w_st_yX9_firstIn lc_yX9_firstIn (kX9_firstIn l E ad M2 a1) (As := [.int a1]) rfl dX4_addCondition_24 rfl hl.1 (Nat.le_of_ble_eq_true rfl) ⟨Nat.le_of_ble_eq_true rfl, Nat.le_of_ble_eq_true rfl⟩ ⟨Nat.le_of_ble_eq_true rfl, Nat.le_of_ble_eq_true rfl⟩) ⟨rfl, rfl⟩ (fun v3 H locs hH => ?_)
    refine kg_v C hH (kc_V C hH w_4_202 lc_yX4_addNumber li_yX4_addNumber oL (kX4_addNumber l E ad M2 120 v3) (As := [.int 120, .int v3]) rfl dX4_addCondition_27 rfl hl.1 (Nat.le_of_ble_eq_true rfl) ⟨Nat.le_of_ble_eq_true rfl, Nat.le_of_ble_eq_true rfl⟩ ⟨Nat.le_of_ble_eq_true rfl, Nat.le_of_ble_eq_true rfl⟩) ⟨rfl, rfl⟩ (fun M4 H locs hH => ?_)
    refine lv_aload_n hx hb dX4_addCondition_30 rfl (lv_at hl 0 rfl) ?_
    refine lv_bipush (v := 120) hx hb dX4_addCondition_31 (by decide) ?_
    refine lv_iload_n hx hb dX4_addCondition_33 rfl (lv_at hl 1 rfl) ?_
    refine kg_ip C hH (kc_SN C hH w_4_230 w_st_yX9_secondIn lc_yX9_secondIn (kX9_secondIn l E ad M4 a1) (As := [.int a1]) rfl dX4_addCondition_34 rfl hl.1 (Nat.le_of_ble_eq_true rfl) ⟨Nat.le_of_ble_eq_true rfl, Nat.le_of_ble_eq_true rfl⟩ ⟨Nat.le_of_ble_eq_true rfl, Nat.le_of_ble_eq_true rfl⟩) ⟨rfl, rfl⟩ (fun H locs hH => ?_)
    refine kg_v C hH (kc_V C hH w_4_202 lc_yX4_addNumber li_yX4_addNumber oL (kX4_addNumber l E ad M4 120 (fX9_secondIn a1)) (As := [.int 120, .int (fX9_secondIn a1)]) rfl dX4_addCondition_37 rfl hl.1 (Nat.le_of_ble_eq_true rfl) ⟨Nat.le_of_ble_eq_true rfl, Nat.le_of_ble_eq_true rfl⟩ ⟨Nat.le_of_ble_eq_true rfl, Nat.le_of_ble_eq_true rfl⟩) ⟨rfl, rfl⟩ (fun M5 H locs hH => ?_)
    exact ke_v C hH hr (Nat.le_refl _) (Nat.le_refl _) rfl dX4_addCondition_40
  · refine kb_if_ge (tgt := 10) hx hb dX4_addCondition_1 (by decide) (fun _ => ?_) (fun _ => ?_)
    · exact hK10_1 M _ _ _ hH (lv_sub hl [0, 1] rfl)
    · refine lv_aload_n hx hb dX4_addCondition_4 rfl (lv_at hl 0 rfl) ?_
      refine lv_bipush (v := 33) hx hb dX4_addCondition_5 (by decide) ?_
      refine kg_v C hH (kc_V C hH w_4_206 lc_yX4_add li_yX4_add oL (kX4_add l E ad M 33) (As := [.int 33]) rfl dX4_addCondition_7 rfl hl.1 (Nat.le_of_ble_eq_true rfl) ⟨Nat.le_of_ble_eq_true rfl, Nat.le_of_ble_eq_true rfl⟩ ⟨Nat.le_of_ble_eq_true rfl, Nat.le_of_ble_eq_true rfl⟩) ⟨rfl, rfl⟩ (fun M6 H locs hH => ?_)
      exact hK10_1 M6 _ _ _ hH (lv_sub hl [0, 1] rfl)
def fX8_add (M : KS) (a1 : Int32) : Option (Int32 × KS) := (if (M.1 115 3) < 60 then if inb (M.1 115 3) 60 then nm (kset M 116 (M.1 115 3).toNatClampNeg (vp_nar .char a1)) fun M1 => nm (kset M1 115 3 ((M1.1 115 3) + 1)) fun M2 => some (1, M2) else none else some (0, M))
set_option maxHeartbeats 4000000 in
set_option maxRecDepth 100000 in
theorem kX8_add (l : Launch) (E : KE) (ad : Nat → Nat) (M : KS) (a1 : Int32) : CT l yX8_add cX8_add 2 (some .boolean) { frames := 0, cells := 0, slots := 0, locals := 0 } SK E ad [.ref (ad 115), .int a1] M (QI SK E ad) (fX8_add M a1) := by
  refine CT.ofW (by decide) (Nat.le_of_ble_eq_true rfl) (fun sz p e s m args below meth c C hr hH ls hl => ?_)
  have hx := C.1.1
  have hb := C.1.2.1
  have hl : lv_has ls 2 [(0, .ref (ad 115)), (1, .int a1)] := hl
  unfold fX8_add
  refine lv_aload_n hx hb dX8_add_0 rfl (lv_at hl 0 rfl) ?_
  refine k_get C hH fd_X8_22 oT (k_int (M := M) (ad := ad) nT3) dX8_add_1 ?_
  refine lv_aload_n hx hb dX8_add_4 rfl (lv_at hl 0 rfl) ?_
  refine k_get C hH fd_X8_9 oT (k_ref (M := M) (ad := ad) rT0) dX8_add_5 ?_
  refine k_clen C hH aT0 (v := 60) rfl dX8_add_8 ?_
  refine kb_icmp_lt (tgt := 14) hx hb dX8_add_9 (by decide) (fun _ => ?_) (fun _ => ?_)
  · refine lv_aload_n hx hb dX8_add_14 rfl (lv_at hl 0 rfl) ?_
    refine k_get C hH fd_X8_9 oT (k_ref (M := M) (ad := ad) rT0) dX8_add_15 ?_
    refine lv_aload_n hx hb dX8_add_18 rfl (lv_at hl 0 rfl) ?_
    refine k_get C hH fd_X8_22 oT (k_int (M := M) (ad := ad) nT3) dX8_add_19 ?_
    refine lv_iload_n hx hb dX8_add_22 rfl (lv_at hl 1 rfl) ?_
    refine k_cast C hH aT0 dX8_add_23 (fun M1 H locs hH => ?_)
    refine lv_aload_n hx hb dX8_add_24 rfl (lv_at hl 0 rfl) ?_
    refine lv_dup hx hb dX8_add_25 rfl ?_
    refine k_get C hH fd_X8_22 oT (k_int (M := M1) (ad := ad) nT3) dX8_add_26 ?_
    refine lv_iconst (v := 1) hx hb dX8_add_29 (by decide) ?_
    refine lv_iadd hx hb dX8_add_30 ?_
    refine k_put1 C hH fd_X8_22 fw_X8_3 oT nT3 rfl rfl dX8_add_31 (fun M2 H locs hH => ?_)
    refine lv_iconst (v := 1) hx hb dX8_add_34 (by decide) ?_
    exact ke_z C hH hr (Nat.le_refl _) (Nat.le_refl _) rfl (Or.inr rfl) dX8_add_35
  · refine lv_iconst (v := 0) hx hb dX8_add_12 (by decide) ?_
    exact ke_z C hH hr (Nat.le_refl _) (Nat.le_refl _) rfl (Or.inl rfl) dX8_add_13
def fX8_read (M : KS) (a1 : Int32) (a2 : Int32) : Option (Int32 × KS) := (if (M.1 115 5) < 0 then some ((-1), M) else (if (M.1 115 3) ≤ (M.1 115 5) then some ((-1), M) else (if (M.1 115 5) < 60 then if inb (M.1 115 5) 60 then nm (((M.1 116 (M.1 115 5).toNatClampNeg) - a1)) fun v1 => (if v1 < 0 then some ((-1), M) else (if v1 < a2 then nm (kset M 115 5 ((M.1 115 5) + 1)) fun M2 => some (v1, M2) else some ((-1), M))) else none else some ((-1), M))))
set_option maxHeartbeats 4000000 in
set_option maxRecDepth 100000 in
theorem kX8_read (l : Launch) (E : KE) (ad : Nat → Nat) (M : KS) (a1 : Int32) (a2 : Int32) : CT l yX8_read cX8_read 4 (some .int) { frames := 0, cells := 0, slots := 0, locals := 0 } SK E ad [.ref (ad 115), .int a1, .int a2] M (QI SK E ad) (fX8_read M a1 a2) := by
  refine CT.ofW (by decide) (Nat.le_of_ble_eq_true rfl) (fun sz p e s m args below meth c C hr hH ls hl => ?_)
  have hx := C.1.1
  have hb := C.1.2.1
  have hl : lv_has ls 4 [(0, .ref (ad 115)), (1, .int a1), (2, .int a2)] := hl
  unfold fX8_read
  refine lv_aload_n hx hb dX8_read_0 rfl (lv_at hl 0 rfl) ?_
  refine k_get C hH fd_X8_29 oT (k_int (M := M) (ad := ad) nT5) dX8_read_1 ?_
  refine kb_if_lt (tgt := 30) hx hb dX8_read_4 (by decide) (fun _ => ?_) (fun _ => ?_)
  · refine lv_iconst (v := (-1)) hx hb dX8_read_30 (by decide) ?_
    exact ke_i C hH hr (Nat.le_refl _) (Nat.le_refl _) rfl dX8_read_31
  · refine lv_aload_n hx hb dX8_read_7 rfl (lv_at hl 0 rfl) ?_
    refine k_get C hH fd_X8_29 oT (k_int (M := M) (ad := ad) nT5) dX8_read_8 ?_
    refine lv_aload_n hx hb dX8_read_11 rfl (lv_at hl 0 rfl) ?_
    refine k_get C hH fd_X8_22 oT (k_int (M := M) (ad := ad) nT3) dX8_read_12 ?_
    refine kb_icmp_ge (tgt := 30) hx hb dX8_read_15 (by decide) (fun _ => ?_) (fun _ => ?_)
    · refine lv_iconst (v := (-1)) hx hb dX8_read_30 (by decide) ?_
      exact ke_i C hH hr (Nat.le_refl _) (Nat.le_refl _) rfl dX8_read_31
    · refine lv_aload_n hx hb dX8_read_18 rfl (lv_at hl 0 rfl) ?_
      refine k_get C hH fd_X8_29 oT (k_int (M := M) (ad := ad) nT5) dX8_read_19 ?_
      refine lv_aload_n hx hb dX8_read_22 rfl (lv_at hl 0 rfl) ?_
      refine k_get C hH fd_X8_9 oT (k_ref (M := M) (ad := ad) rT0) dX8_read_23 ?_
      refine k_clen C hH aT0 (v := 60) rfl dX8_read_26 ?_
      refine kb_icmp_lt (tgt := 32) hx hb dX8_read_27 (by decide) (fun _ => ?_) (fun _ => ?_)
      · refine lv_aload_n hx hb dX8_read_32 rfl (lv_at hl 0 rfl) ?_
        refine k_get C hH fd_X8_9 oT (k_ref (M := M) (ad := ad) rT0) dX8_read_33 ?_
        refine lv_aload_n hx hb dX8_read_36 rfl (lv_at hl 0 rfl) ?_
        refine k_get C hH fd_X8_29 oT (k_int (M := M) (ad := ad) nT5) dX8_read_37 ?_
        refine k_cald C hH aT0 dX8_read_40 ?_
        refine lv_iload_n hx hb dX8_read_41 rfl (lv_at hl 1 rfl) ?_
        refine lv_isub hx hb dX8_read_42 ?_
        refine W_nmi (fun v1 => ?_)
        refine lv_istore_n (lv' := [(3, .int v1), (0, .ref (ad 115)), (1, .int a1), (2, .int a2)]) hx hb dX8_read_43 rfl hl (by decide) rfl (fun ls hl => ?_)
        refine lv_iload_n hx hb dX8_read_44 rfl (lv_at hl 0 rfl) ?_
        refine kb_if_lt (tgt := 53) hx hb dX8_read_45 (by decide) (fun _ => ?_) (fun _ => ?_)
        · refine lv_iconst (v := (-1)) hx hb dX8_read_53 (by decide) ?_
          exact ke_i C hH hr (Nat.le_refl _) (Nat.le_refl _) rfl dX8_read_54
        · refine lv_iload_n hx hb dX8_read_48 rfl (lv_at hl 0 rfl) ?_
          refine lv_iload_n hx hb dX8_read_49 rfl (lv_at hl 3 rfl) ?_
          refine kb_icmp_lt (tgt := 55) hx hb dX8_read_50 (by decide) (fun _ => ?_) (fun _ => ?_)
          · refine lv_aload_n hx hb dX8_read_55 rfl (lv_at hl 1 rfl) ?_
            refine lv_dup hx hb dX8_read_56 rfl ?_
            refine k_get C hH fd_X8_29 oT (k_int (M := M) (ad := ad) nT5) dX8_read_57 ?_
            refine lv_iconst (v := 1) hx hb dX8_read_60 (by decide) ?_
            refine lv_iadd hx hb dX8_read_61 ?_
            refine k_put1 C hH fd_X8_29 fw_X8_5 oT nT5 rfl rfl dX8_read_62 (fun M2 H locs hH => ?_)
            refine lv_iload_n hx hb dX8_read_65 rfl (lv_at hl 0 rfl) ?_
            exact ke_i C hH hr (Nat.le_refl _) (Nat.le_refl _) rfl dX8_read_66
          · refine lv_iconst (v := (-1)) hx hb dX8_read_53 (by decide) ?_
            exact ke_i C hH hr (Nat.le_refl _) (Nat.le_refl _) rfl dX8_read_54
      · refine lv_iconst (v := (-1)) hx hb dX8_read_30 (by decide) ?_
        exact ke_i C hH hr (Nat.le_refl _) (Nat.le_refl _) rfl dX8_read_31
def fX8_skip (M : KS) (a1 : Int32) : Option (Int32 × KS) := bd2 (fX8_read M a1 1) fun v2 M1 => (if v2 = 0 then some (1, M1) else some (0, M1))
set_option maxHeartbeats 4000000 in
set_option maxRecDepth 100000 in
theorem kX8_skip (l : Launch) (E : KE) (ad : Nat → Nat) (M : KS) (a1 : Int32) : CT l yX8_skip cX8_skip 2 (some .boolean) { frames := 1, cells := 0, slots := 0, locals := 23 } SK E ad [.ref (ad 115), .int a1] M (QI SK E ad) (fX8_skip M a1) := by
  refine CT.ofW (by decide) (Nat.le_of_ble_eq_true rfl) (fun sz p e s m args below meth c C hr hH ls hl => ?_)
  have hx := C.1.1
  have hb := C.1.2.1
  have hl : lv_has ls 2 [(0, .ref (ad 115)), (1, .int a1)] := hl
  unfold fX8_skip
  refine lv_aload_n hx hb dX8_skip_0 rfl (lv_at hl 0 rfl) ?_
  refine lv_iload_n hx hb dX8_skip_1 rfl (lv_at hl 1 rfl) ?_
  refine lv_iconst (v := 1) hx hb dX8_skip_2 (by decide) ?_
  refine kg_ib C hH (kc_V C hH w_5_46 lc_yX8_read li_yX8_read oT (kX8_read l E ad M a1 1) (As := [.int a1, .int 1]) rfl dX8_skip_3 rfl hl.1 (Nat.le_of_ble_eq_true rfl) ⟨Nat.le_of_ble_eq_true rfl, Nat.le_of_ble_eq_true rfl⟩ ⟨Nat.le_of_ble_eq_true rfl, Nat.le_of_ble_eq_true rfl⟩) ⟨rfl, rfl⟩ (fun v2 M1 H locs hH => ?_)
  refine kb_if_ne (tgt := 13) hx hb dX8_skip_6 (by decide) (fun _ => ?_) (fun _ => ?_)
  · refine lv_iconst (v := 0) hx hb dX8_skip_13 (by decide) ?_
    exact ke_z C hH hr (Nat.le_refl _) (Nat.le_refl _) rfl (Or.inl rfl) dX8_skip_14
  · refine lv_iconst (v := 1) hx hb dX8_skip_9 (by decide) ?_
    refine lv_goto (tgt := 14) hx hb dX8_skip_10 (by decide) ?_
    exact ke_z C hH hr (Nat.le_refl _) (Nat.le_refl _) rfl (Or.inr rfl) dX8_skip_14
def fX8_put (M : KS) (a1 : Int32) (a2 : Int32) (a3 : Int32) : Option (KS) := nm (((4 * a1) + a2)) fun v1 => (if v1 < 0 then some M else (if 84 ≤ v1 then some M else if inb v1 84 then nm (kset M 118 v1.toNatClampNeg a3) fun M2 => some M2 else none))
set_option maxHeartbeats 4000000 in
set_option maxRecDepth 100000 in
theorem kX8_put (l : Launch) (E : KE) (ad : Nat → Nat) (M : KS) (a1 : Int32) (a2 : Int32) (a3 : Int32) : CT l yX8_put cX8_put 5 none { frames := 0, cells := 0, slots := 0, locals := 0 } SK E ad [.ref (ad 115), .int a1, .int a2, .int a3] M (QV SK E ad) (fX8_put M a1 a2 a3) := by
  refine CT.ofW (by decide) (Nat.le_of_ble_eq_true rfl) (fun sz p e s m args below meth c C hr hH ls hl => ?_)
  have hx := C.1.1
  have hb := C.1.2.1
  have hl : lv_has ls 5 [(0, .ref (ad 115)), (1, .int a1), (2, .int a2), (3, .int a3)] := hl
  unfold fX8_put
  refine lv_iconst (v := 4) hx hb dX8_put_0 (by decide) ?_
  refine lv_iload_n hx hb dX8_put_1 rfl (lv_at hl 1 rfl) ?_
  refine lv_imul hx hb dX8_put_2 ?_
  refine lv_iload_n hx hb dX8_put_3 rfl (lv_at hl 2 rfl) ?_
  refine lv_iadd hx hb dX8_put_4 ?_
  refine W_nmi (fun v1 => ?_)
  refine lv_istore (lv' := [(4, .int v1), (0, .ref (ad 115)), (1, .int a1), (2, .int a2), (3, .int a3)]) hx hb dX8_put_5 hl (by decide) rfl (fun ls hl => ?_)
  refine lv_iload hx hb dX8_put_7 (lv_at hl 0 rfl) ?_
  refine kb_if_lt (tgt := 30) hx hb dX8_put_9 (by decide) (fun _ => ?_) (fun _ => ?_)
  · exact ke_v C hH hr (Nat.le_refl _) (Nat.le_refl _) rfl dX8_put_30
  · refine lv_iload hx hb dX8_put_12 (lv_at hl 0 rfl) ?_
    refine lv_aload_n hx hb dX8_put_14 rfl (lv_at hl 1 rfl) ?_
    refine k_get C hH fd_X8_18 oT (k_ref (M := M) (ad := ad) rT2) dX8_put_15 ?_
    refine k_ilen C hH aT2 (v := 84) rfl dX8_put_18 ?_
    refine kb_icmp_ge (tgt := 30) hx hb dX8_put_19 (by decide) (fun _ => ?_) (fun _ => ?_)
    · exact ke_v C hH hr (Nat.le_refl _) (Nat.le_refl _) rfl dX8_put_30
    · refine lv_aload_n hx hb dX8_put_22 rfl (lv_at hl 1 rfl) ?_
      refine k_get C hH fd_X8_18 oT (k_ref (M := M) (ad := ad) rT2) dX8_put_23 ?_
      refine lv_iload hx hb dX8_put_26 (lv_at hl 0 rfl) ?_
      refine lv_iload_n hx hb dX8_put_28 rfl (lv_at hl 4 rfl) ?_
      refine k_iast C hH aT2 dX8_put_29 (fun M2 H locs hH => ?_)
      exact ke_v C hH hr (Nat.le_refl _) (Nat.le_refl _) rfl dX8_put_30
def fX8_readNumber (M : KS) (a1 : Int32) (a2 : Int32) (a3 : Int32) (a4 : Int32) : Option (Int32 × KS) := bd2 (fX8_read M a3 a4) fun v2 M1 => (fX8_put M1 a1 a2 v2).bind fun M3 => (if v2 < 0 then some (0, M3) else some (1, M3))
set_option maxHeartbeats 4000000 in
set_option maxRecDepth 100000 in
theorem kX8_readNumber (l : Launch) (E : KE) (ad : Nat → Nat) (M : KS) (a1 : Int32) (a2 : Int32) (a3 : Int32) (a4 : Int32) : CT l yX8_readNumber cX8_readNumber 6 (some .boolean) { frames := 1, cells := 0, slots := 0, locals := 24 } SK E ad [.ref (ad 115), .int a1, .int a2, .int a3, .int a4] M (QI SK E ad) (fX8_readNumber M a1 a2 a3 a4) := by
  refine CT.ofW (by decide) (Nat.le_of_ble_eq_true rfl) (fun sz p e s m args below meth c C hr hH ls hl => ?_)
  have hx := C.1.1
  have hb := C.1.2.1
  have hl : lv_has ls 6 [(0, .ref (ad 115)), (1, .int a1), (2, .int a2), (3, .int a3), (4, .int a4)] := hl
  unfold fX8_readNumber
  refine lv_aload_n hx hb dX8_readNumber_0 rfl (lv_at hl 0 rfl) ?_
  refine lv_iload_n hx hb dX8_readNumber_1 rfl (lv_at hl 3 rfl) ?_
  refine lv_iload hx hb dX8_readNumber_2 (lv_at hl 4 rfl) ?_
  refine kg_ib C hH (kc_V C hH w_5_46 lc_yX8_read li_yX8_read oT (kX8_read l E ad M a3 a4) (As := [.int a3, .int a4]) rfl dX8_readNumber_4 rfl hl.1 (Nat.le_of_ble_eq_true rfl) ⟨Nat.le_of_ble_eq_true rfl, Nat.le_of_ble_eq_true rfl⟩ ⟨Nat.le_of_ble_eq_true rfl, Nat.le_of_ble_eq_true rfl⟩) ⟨rfl, rfl⟩ (fun v2 M1 H locs hH => ?_)
  refine lv_istore (lv' := [(5, .int v2), (0, .ref (ad 115)), (1, .int a1), (2, .int a2), (3, .int a3), (4, .int a4)]) hx hb dX8_readNumber_7 hl (by decide) rfl (fun ls hl => ?_)
  refine lv_aload_n hx hb dX8_readNumber_9 rfl (lv_at hl 1 rfl) ?_
  refine lv_iload_n hx hb dX8_readNumber_10 rfl (lv_at hl 2 rfl) ?_
  refine lv_iload_n hx hb dX8_readNumber_11 rfl (lv_at hl 3 rfl) ?_
  refine lv_iload hx hb dX8_readNumber_12 (lv_at hl 0 rfl) ?_
  refine kg_v C hH (kc_V C hH w_5_58 lc_yX8_put li_yX8_put oT (kX8_put l E ad M1 a1 a2 v2) (As := [.int a1, .int a2, .int v2]) rfl dX8_readNumber_14 rfl hl.1 (Nat.le_of_ble_eq_true rfl) ⟨Nat.le_of_ble_eq_true rfl, Nat.le_of_ble_eq_true rfl⟩ ⟨Nat.le_of_ble_eq_true rfl, Nat.le_of_ble_eq_true rfl⟩) ⟨rfl, rfl⟩ (fun M3 H locs hH => ?_)
  refine lv_iload hx hb dX8_readNumber_17 (lv_at hl 0 rfl) ?_
  refine kb_if_lt (tgt := 26) hx hb dX8_readNumber_19 (by decide) (fun _ => ?_) (fun _ => ?_)
  · refine lv_iconst (v := 0) hx hb dX8_readNumber_26 (by decide) ?_
    exact ke_z C hH hr (Nat.le_refl _) (Nat.le_refl _) rfl (Or.inl rfl) dX8_readNumber_27
  · refine lv_iconst (v := 1) hx hb dX8_readNumber_22 (by decide) ?_
    refine lv_goto (tgt := 27) hx hb dX8_readNumber_23 (by decide) ?_
    exact ke_z C hH hr (Nat.le_refl _) (Nat.le_refl _) rfl (Or.inr rfl) dX8_readNumber_27
def fX8_note (M : KS) (a1 : Int32) (a2 : Int32) : Option (Int32 × KS) := (if a1 < 0 then some (0, M) else (if a1 < 21 then if inb a1 21 then nm (kset M 117 a1.toNatClampNeg (vp_nar .char a2)) fun M1 => some (1, M1) else none else some (0, M)))
set_option maxHeartbeats 4000000 in
set_option maxRecDepth 100000 in
theorem kX8_note (l : Launch) (E : KE) (ad : Nat → Nat) (M : KS) (a1 : Int32) (a2 : Int32) : CT l yX8_note cX8_note 3 (some .boolean) { frames := 0, cells := 0, slots := 0, locals := 0 } SK E ad [.ref (ad 115), .int a1, .int a2] M (QI SK E ad) (fX8_note M a1 a2) := by
  refine CT.ofW (by decide) (Nat.le_of_ble_eq_true rfl) (fun sz p e s m args below meth c C hr hH ls hl => ?_)
  have hx := C.1.1
  have hb := C.1.2.1
  have hl : lv_has ls 3 [(0, .ref (ad 115)), (1, .int a1), (2, .int a2)] := hl
  unfold fX8_note
  refine lv_iload_n hx hb dX8_note_0 rfl (lv_at hl 1 rfl) ?_
  refine kb_if_lt (tgt := 13) hx hb dX8_note_1 (by decide) (fun _ => ?_) (fun _ => ?_)
  · refine lv_iconst (v := 0) hx hb dX8_note_13 (by decide) ?_
    exact ke_z C hH hr (Nat.le_refl _) (Nat.le_refl _) rfl (Or.inl rfl) dX8_note_14
  · refine lv_iload_n hx hb dX8_note_4 rfl (lv_at hl 1 rfl) ?_
    refine lv_aload_n hx hb dX8_note_5 rfl (lv_at hl 0 rfl) ?_
    refine k_get C hH fd_X8_15 oT (k_ref (M := M) (ad := ad) rT1) dX8_note_6 ?_
    refine k_clen C hH aT1 (v := 21) rfl dX8_note_9 ?_
    refine kb_icmp_lt (tgt := 15) hx hb dX8_note_10 (by decide) (fun _ => ?_) (fun _ => ?_)
    · refine lv_aload_n hx hb dX8_note_15 rfl (lv_at hl 0 rfl) ?_
      refine k_get C hH fd_X8_15 oT (k_ref (M := M) (ad := ad) rT1) dX8_note_16 ?_
      refine lv_iload_n hx hb dX8_note_19 rfl (lv_at hl 1 rfl) ?_
      refine lv_iload_n hx hb dX8_note_20 rfl (lv_at hl 2 rfl) ?_
      refine k_cast C hH aT1 dX8_note_21 (fun M1 H locs hH => ?_)
      refine lv_iconst (v := 1) hx hb dX8_note_22 (by decide) ?_
      exact ke_z C hH hr (Nat.le_refl _) (Nat.le_refl _) rfl (Or.inr rfl) dX8_note_23
    · refine lv_iconst (v := 0) hx hb dX8_note_13 (by decide) ?_
      exact ke_z C hH hr (Nat.le_refl _) (Nat.le_refl _) rfl (Or.inl rfl) dX8_note_14
def fX8_readFact (M : KS) (a1 : Int32) (a2 : Int32) : Option (Int32 × KS) := bd2 (fX8_readNumber M a1 0 48 6) fun v2 M1 => (if v2 = 0 then some (0, M1) else bd2 (fX8_readNumber M1 a1 1 97 6) fun v4 M3 => (if v4 = 0 then some (0, M3) else bd2 (fX8_readNumber M3 a1 2 97 6) fun v6 M5 => (if v6 = 0 then some (0, M5) else bd2 (fX8_note M5 a1 a2) fun v8 M7 => (if v8 = 0 then some (0, M7) else some (1, M7)))))
set_option maxHeartbeats 4000000 in
set_option maxRecDepth 100000 in
theorem kX8_readFact (l : Launch) (E : KE) (ad : Nat → Nat) (M : KS) (a1 : Int32) (a2 : Int32) : CT l yX8_readFact cX8_readFact 3 (some .boolean) { frames := 2, cells := 0, slots := 0, locals := 49 } SK E ad [.ref (ad 115), .int a1, .int a2] M (QI SK E ad) (fX8_readFact M a1 a2) := by
  refine CT.ofW (by decide) (Nat.le_of_ble_eq_true rfl) (fun sz p e s m args below meth c C hr hH ls hl => ?_)
  have hx := C.1.1
  have hb := C.1.2.1
  have hl : lv_has ls 3 [(0, .ref (ad 115)), (1, .int a1), (2, .int a2)] := hl
  unfold fX8_readFact
  refine lv_aload_n hx hb dX8_readFact_0 rfl (lv_at hl 0 rfl) ?_
  refine lv_iload_n hx hb dX8_readFact_1 rfl (lv_at hl 1 rfl) ?_
  refine lv_iconst (v := 0) hx hb dX8_readFact_2 (by decide) ?_
  refine lv_bipush (v := 48) hx hb dX8_readFact_3 (by decide) ?_
  refine lv_bipush (v := 6) hx hb dX8_readFact_5 (by decide) ?_
  refine kg_ib C hH (kc_V C hH w_5_54 lc_yX8_readNumber li_yX8_readNumber oT (kX8_readNumber l E ad M a1 0 48 6) (As := [.int a1, .int 0, .int 48, .int 6]) rfl dX8_readFact_7 rfl hl.1 (Nat.le_of_ble_eq_true rfl) ⟨Nat.le_of_ble_eq_true rfl, Nat.le_of_ble_eq_true rfl⟩ ⟨Nat.le_of_ble_eq_true rfl, Nat.le_of_ble_eq_true rfl⟩) ⟨rfl, rfl⟩ (fun v2 M1 H locs hH => ?_)
  refine kb_if_eq (tgt := 52) hx hb dX8_readFact_10 (by decide) (fun _ => ?_) (fun _ => ?_)
  · refine lv_iconst (v := 0) hx hb dX8_readFact_52 (by decide) ?_
    exact ke_z C hH hr (Nat.le_refl _) (Nat.le_refl _) rfl (Or.inl rfl) dX8_readFact_53
  · refine lv_aload_n hx hb dX8_readFact_13 rfl (lv_at hl 0 rfl) ?_
    refine lv_iload_n hx hb dX8_readFact_14 rfl (lv_at hl 1 rfl) ?_
    refine lv_iconst (v := 1) hx hb dX8_readFact_15 (by decide) ?_
    refine lv_bipush (v := 97) hx hb dX8_readFact_16 (by decide) ?_
    refine lv_bipush (v := 6) hx hb dX8_readFact_18 (by decide) ?_
    refine kg_ib C hH (kc_V C hH w_5_54 lc_yX8_readNumber li_yX8_readNumber oT (kX8_readNumber l E ad M1 a1 1 97 6) (As := [.int a1, .int 1, .int 97, .int 6]) rfl dX8_readFact_20 rfl hl.1 (Nat.le_of_ble_eq_true rfl) ⟨Nat.le_of_ble_eq_true rfl, Nat.le_of_ble_eq_true rfl⟩ ⟨Nat.le_of_ble_eq_true rfl, Nat.le_of_ble_eq_true rfl⟩) ⟨rfl, rfl⟩ (fun v4 M3 H locs hH => ?_)
    refine kb_if_eq (tgt := 52) hx hb dX8_readFact_23 (by decide) (fun _ => ?_) (fun _ => ?_)
    · refine lv_iconst (v := 0) hx hb dX8_readFact_52 (by decide) ?_
      exact ke_z C hH hr (Nat.le_refl _) (Nat.le_refl _) rfl (Or.inl rfl) dX8_readFact_53
    · refine lv_aload_n hx hb dX8_readFact_26 rfl (lv_at hl 0 rfl) ?_
      refine lv_iload_n hx hb dX8_readFact_27 rfl (lv_at hl 1 rfl) ?_
      refine lv_iconst (v := 2) hx hb dX8_readFact_28 (by decide) ?_
      refine lv_bipush (v := 97) hx hb dX8_readFact_29 (by decide) ?_
      refine lv_bipush (v := 6) hx hb dX8_readFact_31 (by decide) ?_
      refine kg_ib C hH (kc_V C hH w_5_54 lc_yX8_readNumber li_yX8_readNumber oT (kX8_readNumber l E ad M3 a1 2 97 6) (As := [.int a1, .int 2, .int 97, .int 6]) rfl dX8_readFact_33 rfl hl.1 (Nat.le_of_ble_eq_true rfl) ⟨Nat.le_of_ble_eq_true rfl, Nat.le_of_ble_eq_true rfl⟩ ⟨Nat.le_of_ble_eq_true rfl, Nat.le_of_ble_eq_true rfl⟩) ⟨rfl, rfl⟩ (fun v6 M5 H locs hH => ?_)
      refine kb_if_eq (tgt := 52) hx hb dX8_readFact_36 (by decide) (fun _ => ?_) (fun _ => ?_)
      · refine lv_iconst (v := 0) hx hb dX8_readFact_52 (by decide) ?_
        exact ke_z C hH hr (Nat.le_refl _) (Nat.le_refl _) rfl (Or.inl rfl) dX8_readFact_53
      · refine lv_aload_n hx hb dX8_readFact_39 rfl (lv_at hl 0 rfl) ?_
        refine lv_iload_n hx hb dX8_readFact_40 rfl (lv_at hl 1 rfl) ?_
        refine lv_iload_n hx hb dX8_readFact_41 rfl (lv_at hl 2 rfl) ?_
        refine kg_ib C hH (kc_V C hH w_5_62 lc_yX8_note li_yX8_note oT (kX8_note l E ad M5 a1 a2) (As := [.int a1, .int a2]) rfl dX8_readFact_42 rfl hl.1 (Nat.le_of_ble_eq_true rfl) ⟨Nat.le_of_ble_eq_true rfl, Nat.le_of_ble_eq_true rfl⟩ ⟨Nat.le_of_ble_eq_true rfl, Nat.le_of_ble_eq_true rfl⟩) ⟨rfl, rfl⟩ (fun v8 M7 H locs hH => ?_)
        refine kb_if_eq (tgt := 52) hx hb dX8_readFact_45 (by decide) (fun _ => ?_) (fun _ => ?_)
        · refine lv_iconst (v := 0) hx hb dX8_readFact_52 (by decide) ?_
          exact ke_z C hH hr (Nat.le_refl _) (Nat.le_refl _) rfl (Or.inl rfl) dX8_readFact_53
        · refine lv_iconst (v := 1) hx hb dX8_readFact_48 (by decide) ?_
          refine lv_goto (tgt := 53) hx hb dX8_readFact_49 (by decide) ?_
          exact ke_z C hH hr (Nat.le_refl _) (Nat.le_refl _) rfl (Or.inr rfl) dX8_readFact_53
def fX8_startsCondition (M : KS)  : Option (Int32) := (if (M.1 115 5) < 0 then some 0 else (if (M.1 115 3) ≤ (M.1 115 5) then some 0 else (if (M.1 115 5) < 60 then if inb (M.1 115 5) 60 then (if (M.1 116 (M.1 115 5).toNatClampNeg) = 33 then some 1 else if inb (M.1 115 5) 60 then (if (M.1 116 (M.1 115 5).toNatClampNeg) < 48 then some 0 else if inb (M.1 115 5) 60 then (if 54 ≤ (M.1 116 (M.1 115 5).toNatClampNeg) then some 0 else some 1) else none) else none) else none else some 0)))
set_option maxHeartbeats 4000000 in
set_option maxRecDepth 100000 in
theorem kX8_startsCondition (l : Launch) (E : KE) (ad : Nat → Nat) (M : KS)  : CT l yX8_startsCondition cX8_startsCondition 1 (some .boolean) { frames := 0, cells := 0, slots := 0, locals := 0 } SK E ad [.ref (ad 115)] M (fun sz a => QI SK E ad sz (a, M)) (fX8_startsCondition M) := by
  refine CT.ofW (by decide) (Nat.le_of_ble_eq_true rfl) (fun sz p e s m args below meth c C hr hH ls hl => ?_)
  have hx := C.1.1
  have hb := C.1.2.1
  have hl : lv_has ls 1 [(0, .ref (ad 115))] := hl
  unfold fX8_startsCondition
  refine lv_aload_n hx hb dX8_startsCondition_0 rfl (lv_at hl 0 rfl) ?_
  refine k_get C hH fd_X8_29 oT (k_int (M := M) (ad := ad) nT5) dX8_startsCondition_1 ?_
  refine kb_if_lt (tgt := 30) hx hb dX8_startsCondition_4 (by decide) (fun _ => ?_) (fun _ => ?_)
  · refine lv_iconst (v := 0) hx hb dX8_startsCondition_30 (by decide) ?_
    exact ke_z C hH hr (Nat.le_refl _) (Nat.le_refl _) rfl (Or.inl rfl) dX8_startsCondition_31
  · refine lv_aload_n hx hb dX8_startsCondition_7 rfl (lv_at hl 0 rfl) ?_
    refine k_get C hH fd_X8_29 oT (k_int (M := M) (ad := ad) nT5) dX8_startsCondition_8 ?_
    refine lv_aload_n hx hb dX8_startsCondition_11 rfl (lv_at hl 0 rfl) ?_
    refine k_get C hH fd_X8_22 oT (k_int (M := M) (ad := ad) nT3) dX8_startsCondition_12 ?_
    refine kb_icmp_ge (tgt := 30) hx hb dX8_startsCondition_15 (by decide) (fun _ => ?_) (fun _ => ?_)
    · refine lv_iconst (v := 0) hx hb dX8_startsCondition_30 (by decide) ?_
      exact ke_z C hH hr (Nat.le_refl _) (Nat.le_refl _) rfl (Or.inl rfl) dX8_startsCondition_31
    · refine lv_aload_n hx hb dX8_startsCondition_18 rfl (lv_at hl 0 rfl) ?_
      refine k_get C hH fd_X8_29 oT (k_int (M := M) (ad := ad) nT5) dX8_startsCondition_19 ?_
      refine lv_aload_n hx hb dX8_startsCondition_22 rfl (lv_at hl 0 rfl) ?_
      refine k_get C hH fd_X8_9 oT (k_ref (M := M) (ad := ad) rT0) dX8_startsCondition_23 ?_
      refine k_clen C hH aT0 (v := 60) rfl dX8_startsCondition_26 ?_
      refine kb_icmp_lt (tgt := 32) hx hb dX8_startsCondition_27 (by decide) (fun _ => ?_) (fun _ => ?_)
      · refine lv_aload_n hx hb dX8_startsCondition_32 rfl (lv_at hl 0 rfl) ?_
        refine k_get C hH fd_X8_9 oT (k_ref (M := M) (ad := ad) rT0) dX8_startsCondition_33 ?_
        refine lv_aload_n hx hb dX8_startsCondition_36 rfl (lv_at hl 0 rfl) ?_
        refine k_get C hH fd_X8_29 oT (k_int (M := M) (ad := ad) nT5) dX8_startsCondition_37 ?_
        refine k_cald C hH aT0 dX8_startsCondition_40 ?_
        refine lv_bipush (v := 33) hx hb dX8_startsCondition_41 (by decide) ?_
        refine kb_icmp_eq (tgt := 74) hx hb dX8_startsCondition_43 (by decide) (fun _ => ?_) (fun _ => ?_)
        · refine lv_iconst (v := 1) hx hb dX8_startsCondition_74 (by decide) ?_
          refine lv_goto (tgt := 79) hx hb dX8_startsCondition_75 (by decide) ?_
          exact ke_z C hH hr (Nat.le_refl _) (Nat.le_refl _) rfl (Or.inr rfl) dX8_startsCondition_79
        · refine lv_aload_n hx hb dX8_startsCondition_46 rfl (lv_at hl 0 rfl) ?_
          refine k_get C hH fd_X8_9 oT (k_ref (M := M) (ad := ad) rT0) dX8_startsCondition_47 ?_
          refine lv_aload_n hx hb dX8_startsCondition_50 rfl (lv_at hl 0 rfl) ?_
          refine k_get C hH fd_X8_29 oT (k_int (M := M) (ad := ad) nT5) dX8_startsCondition_51 ?_
          refine k_cald C hH aT0 dX8_startsCondition_54 ?_
          refine lv_bipush (v := 48) hx hb dX8_startsCondition_55 (by decide) ?_
          refine kb_icmp_lt (tgt := 78) hx hb dX8_startsCondition_57 (by decide) (fun _ => ?_) (fun _ => ?_)
          · refine lv_iconst (v := 0) hx hb dX8_startsCondition_78 (by decide) ?_
            exact ke_z C hH hr (Nat.le_refl _) (Nat.le_refl _) rfl (Or.inl rfl) dX8_startsCondition_79
          · refine lv_aload_n hx hb dX8_startsCondition_60 rfl (lv_at hl 0 rfl) ?_
            refine k_get C hH fd_X8_9 oT (k_ref (M := M) (ad := ad) rT0) dX8_startsCondition_61 ?_
            refine lv_aload_n hx hb dX8_startsCondition_64 rfl (lv_at hl 0 rfl) ?_
            refine k_get C hH fd_X8_29 oT (k_int (M := M) (ad := ad) nT5) dX8_startsCondition_65 ?_
            refine k_cald C hH aT0 dX8_startsCondition_68 ?_
            refine lv_bipush (v := 54) hx hb dX8_startsCondition_69 (by decide) ?_
            refine kb_icmp_ge (tgt := 78) hx hb dX8_startsCondition_71 (by decide) (fun _ => ?_) (fun _ => ?_)
            · refine lv_iconst (v := 0) hx hb dX8_startsCondition_78 (by decide) ?_
              exact ke_z C hH hr (Nat.le_refl _) (Nat.le_refl _) rfl (Or.inl rfl) dX8_startsCondition_79
            · refine lv_iconst (v := 1) hx hb dX8_startsCondition_74 (by decide) ?_
              refine lv_goto (tgt := 79) hx hb dX8_startsCondition_75 (by decide) ?_
              exact ke_z C hH hr (Nat.le_refl _) (Nat.le_refl _) rfl (Or.inr rfl) dX8_startsCondition_79
      · refine lv_iconst (v := 0) hx hb dX8_startsCondition_30 (by decide) ?_
        exact ke_z C hH hr (Nat.le_refl _) (Nat.le_refl _) rfl (Or.inl rfl) dX8_startsCondition_31
def fX9_codeOf_o (a0 : Int32) (a1 : Int32) (a2 : Int32) : Option (Int32) := some (((1 + (9 * a0)) + (3 * a1)) + a2)
def fX9_codeOf (a0 : Int32) (a1 : Int32) (a2 : Int32) : Int32 := (((1 + (9 * a0)) + (3 * a1)) + a2)
theorem fX9_codeOf_s {a0 : Int32} {a1 : Int32} {a2 : Int32} : fX9_codeOf_o a0 a1 a2 = some (fX9_codeOf a0 a1 a2) := by
  unfold fX9_codeOf_o fX9_codeOf
  (repeat' split) <;> rfl
set_option maxHeartbeats 4000000 in
set_option maxRecDepth 100000 in
theorem kX9_codeOf_o (l : Launch) (E : KE) (ad : Nat → Nat) (M : KS) (a0 : Int32) (a1 : Int32) (a2 : Int32) : CT l yX9_codeOf cX9_codeOf 3 (some .int) { frames := 0, cells := 0, slots := 0, locals := 0 } SK E ad [.int a0, .int a1, .int a2] M (fun sz a => QI SK E ad sz (a, M)) (fX9_codeOf_o a0 a1 a2) := by
  refine CT.ofW (by decide) (Nat.le_of_ble_eq_true rfl) (fun sz p e s m args below meth c C hr hH ls hl => ?_)
  have hx := C.1.1
  have hb := C.1.2.1
  have hl : lv_has ls 3 [(0, .int a0), (1, .int a1), (2, .int a2)] := hl
  unfold fX9_codeOf_o
  refine lv_iconst (v := 1) hx hb dX9_codeOf_0 (by decide) ?_
  refine lv_bipush (v := 9) hx hb dX9_codeOf_1 (by decide) ?_
  refine lv_iload_n hx hb dX9_codeOf_3 rfl (lv_at hl 0 rfl) ?_
  refine lv_imul hx hb dX9_codeOf_4 ?_
  refine lv_iadd hx hb dX9_codeOf_5 ?_
  refine lv_iconst (v := 3) hx hb dX9_codeOf_6 (by decide) ?_
  refine lv_iload_n hx hb dX9_codeOf_7 rfl (lv_at hl 1 rfl) ?_
  refine lv_imul hx hb dX9_codeOf_8 ?_
  refine lv_iadd hx hb dX9_codeOf_9 ?_
  refine lv_iload_n hx hb dX9_codeOf_10 rfl (lv_at hl 2 rfl) ?_
  refine lv_iadd hx hb dX9_codeOf_11 ?_
  exact ke_i C hH hr (Nat.le_refl _) (Nat.le_refl _) rfl dX9_codeOf_12
theorem kX9_codeOf (l : Launch) (E : KE) (ad : Nat → Nat) (M : KS) (a0 : Int32) (a1 : Int32) (a2 : Int32) : CT l yX9_codeOf cX9_codeOf 3 (some .int) { frames := 0, cells := 0, slots := 0, locals := 0 } SK E ad [.int a0, .int a1, .int a2] M (fun sz (_ : Unit) => QI SK E ad sz (fX9_codeOf a0 a1 a2, M)) (some ()) := CT.pure (kX9_codeOf_o l E ad M a0 a1 a2) fX9_codeOf_s
def fX8_readCondition_J86_75 (a1 : Int32) (a2 : Int32) (M8 : KS) (v10 : Int32) : Option (Int32 × KS) := (fX8_put M8 a1 a2 v10).bind fun M11 => some (1, M11)
theorem fX8_readCondition_J86_75_u {a1 : Int32} {a2 : Int32} {M8 : KS} {v10 : Int32} : fX8_readCondition_J86_75 a1 a2 M8 v10 = (fX8_put M8 a1 a2 v10).bind fun M11 => some (1, M11) := rfl
def fX8_readCondition_J51_37 (a1 : Int32) (a2 : Int32) (v2 : Int32) (v4 : Int32) (v5 : Int32) (x : Int32 × KS) : Option (Int32 × KS) := match x with | (v7, M8) => (if 0 ≤ v7 then nm ((fX9_codeOf v4 v5 v7)) fun v9 => jn (fX8_readCondition_J86_75 a1 a2 M8) (fun K86_75 => (if v2 = 0 then K86_75 v9 else K86_75 (-v9))) else some (0, M8))
theorem fX8_readCondition_J51_37_u {a1 : Int32} {a2 : Int32} {v2 : Int32} {v4 : Int32} {v5 : Int32} {v7 : Int32} {M8 : KS} : fX8_readCondition_J51_37 a1 a2 v2 v4 v5 (v7, M8) = (if 0 ≤ v7 then nm ((fX9_codeOf v4 v5 v7)) fun v9 => jn (fX8_readCondition_J86_75 a1 a2 M8) (fun K86_75 => (if v2 = 0 then K86_75 v9 else K86_75 (-v9))) else some (0, M8)) := rfl
def fX8_readCondition_J33_19 (a1 : Int32) (a2 : Int32) (v2 : Int32) (v4 : Int32) (x : Int32 × KS) : Option (Int32 × KS) := match x with | (v5, M6) => jn (fX8_readCondition_J51_37 a1 a2 v2 v4 v5) (fun K51_37 => (if 0 ≤ v5 then bd2 (fX8_read M6 120 3) fun v13 M12 => K51_37 (v13, M12) else K51_37 ((-1), M6)))
theorem fX8_readCondition_J33_19_u {a1 : Int32} {a2 : Int32} {v2 : Int32} {v4 : Int32} {v5 : Int32} {M6 : KS} : fX8_readCondition_J33_19 a1 a2 v2 v4 (v5, M6) = jn (fX8_readCondition_J51_37 a1 a2 v2 v4 v5) (fun K51_37 => (if 0 ≤ v5 then bd2 (fX8_read M6 120 3) fun v13 M12 => K51_37 (v13, M12) else K51_37 ((-1), M6))) := rfl
def fX8_readCondition (M : KS) (a1 : Int32) (a2 : Int32) : Option (Int32 × KS) := bd2 (fX8_skip M 33) fun v2 M1 => bd2 (fX8_read M1 48 6) fun v4 M3 => jn (fX8_readCondition_J33_19 a1 a2 v2 v4) (fun K33_19 => (if 0 ≤ v4 then bd2 (fX8_read M3 120 3) fun v15 M14 => K33_19 (v15, M14) else K33_19 ((-1), M3)))
set_option maxHeartbeats 4000000 in
set_option maxRecDepth 100000 in
theorem kX8_readCondition (l : Launch) (E : KE) (ad : Nat → Nat) (M : KS) (a1 : Int32) (a2 : Int32) : CT l yX8_readCondition cX8_readCondition 8 (some .boolean) { frames := 2, cells := 0, slots := 0, locals := 44 } SK E ad [.ref (ad 115), .int a1, .int a2] M (QI SK E ad) (fX8_readCondition M a1 a2) := by
  refine CT.ofW (by decide) (Nat.le_of_ble_eq_true rfl) (fun sz p e s m args below meth c C hr hH ls hl => ?_)
  have hx := C.1.1
  have hb := C.1.2.1
  have hl : lv_has ls 8 [(0, .ref (ad 115)), (1, .int a1), (2, .int a2)] := hl
  unfold fX8_readCondition
  refine lv_aload_n hx hb dX8_readCondition_0 rfl (lv_at hl 0 rfl) ?_
  refine lv_bipush (v := 33) hx hb dX8_readCondition_1 (by decide) ?_
  refine kg_ib C hH (kc_V C hH w_5_42 lc_yX8_skip li_yX8_skip oT (kX8_skip l E ad M 33) (As := [.int 33]) rfl dX8_readCondition_3 rfl hl.1 (Nat.le_of_ble_eq_true rfl) ⟨Nat.le_of_ble_eq_true rfl, Nat.le_of_ble_eq_true rfl⟩ ⟨Nat.le_of_ble_eq_true rfl, Nat.le_of_ble_eq_true rfl⟩) ⟨rfl, rfl⟩ (fun v2 M1 H locs hH => ?_)
  refine lv_istore_n (lv' := [(3, .int v2), (0, .ref (ad 115)), (1, .int a1), (2, .int a2)]) hx hb dX8_readCondition_6 rfl hl (by decide) rfl (fun ls hl => ?_)
  refine lv_aload_n hx hb dX8_readCondition_7 rfl (lv_at hl 1 rfl) ?_
  refine lv_bipush (v := 48) hx hb dX8_readCondition_8 (by decide) ?_
  refine lv_bipush (v := 6) hx hb dX8_readCondition_10 (by decide) ?_
  refine kg_ib C hH (kc_V C hH w_5_46 lc_yX8_read li_yX8_read oT (kX8_read l E ad M1 48 6) (As := [.int 48, .int 6]) rfl dX8_readCondition_12 rfl hl.1 (Nat.le_of_ble_eq_true rfl) ⟨Nat.le_of_ble_eq_true rfl, Nat.le_of_ble_eq_true rfl⟩ ⟨Nat.le_of_ble_eq_true rfl, Nat.le_of_ble_eq_true rfl⟩) ⟨rfl, rfl⟩ (fun v4 M3 H locs hH => ?_)
  refine lv_istore (lv' := [(4, .int v4), (3, .int v2), (0, .ref (ad 115)), (1, .int a1), (2, .int a2)]) hx hb dX8_readCondition_15 hl (by decide) rfl (fun ls hl => ?_)
  refine lv_iload hx hb dX8_readCondition_17 (lv_at hl 0 rfl) ?_
  refine W_jn (fun (x : Int32 × KS) H locs => KH SK E ad sz x.2 s.heap H locs) (fun x ls => lv_has ls 8 [(4, .int v4), (3, .int v2), (0, .ref (ad 115)), (1, .int a1), (2, .int a2)]) (fun x ls => F0 m 33 ls [.int x.1]) ?_ (fun K33_19 hK33_19 => ?_)
  · intro ⟨v5, M6⟩ H locs ls hH hl
    have hH : KH SK E ad sz M6 s.heap H locs := hH
    have hl : lv_has ls 8 [(4, .int v4), (3, .int v2), (0, .ref (ad 115)), (1, .int a1), (2, .int a2)] := hl
    refine W_q fX8_readCondition_J33_19_u ?_
    refine lv_istore (lv' := [(5, .int v5), (4, .int v4), (3, .int v2), (0, .ref (ad 115)), (1, .int a1), (2, .int a2)]) hx hb dX8_readCondition_33 hl (by decide) rfl (fun ls hl => ?_)
    refine lv_iload hx hb dX8_readCondition_35 (lv_at hl 0 rfl) ?_
    refine W_jn (fun (x : Int32 × KS) H locs => KH SK E ad sz x.2 s.heap H locs) (fun x ls => lv_has ls 8 [(5, .int v5), (4, .int v4), (3, .int v2), (0, .ref (ad 115)), (1, .int a1), (2, .int a2)]) (fun x ls => F0 m 51 ls [.int x.1]) ?_ (fun K51_37 hK51_37 => ?_)
    · intro ⟨v7, M8⟩ H locs ls hH hl
      have hH : KH SK E ad sz M8 s.heap H locs := hH
      have hl : lv_has ls 8 [(5, .int v5), (4, .int v4), (3, .int v2), (0, .ref (ad 115)), (1, .int a1), (2, .int a2)] := hl
      refine W_q fX8_readCondition_J51_37_u ?_
      refine lv_istore (lv' := [(6, .int v7), (5, .int v5), (4, .int v4), (3, .int v2), (0, .ref (ad 115)), (1, .int a1), (2, .int a2)]) hx hb dX8_readCondition_51 hl (by decide) rfl (fun ls hl => ?_)
      refine lv_iload hx hb dX8_readCondition_53 (lv_at hl 0 rfl) ?_
      refine kb_if_ge (tgt := 60) hx hb dX8_readCondition_55 (by decide) (fun _ => ?_) (fun _ => ?_)
      · refine lv_iload hx hb dX8_readCondition_60 (lv_at hl 2 rfl) ?_
        refine lv_iload hx hb dX8_readCondition_62 (lv_at hl 1 rfl) ?_
        refine lv_iload hx hb dX8_readCondition_64 (lv_at hl 0 rfl) ?_
        refine kg_ip C hH (kc_SN C hH w_5_78 w_st_yX9_codeOf lc_yX9_codeOf (kX9_codeOf l E ad M8 v4 v5 v7) (As := [.int v4, .int v5, .int v7]) rfl dX8_readCondition_66 rfl hl.1 (Nat.le_of_ble_eq_true rfl) ⟨Nat.le_of_ble_eq_true rfl, Nat.le_of_ble_eq_true rfl⟩ ⟨Nat.le_of_ble_eq_true rfl, Nat.le_of_ble_eq_true rfl⟩) ⟨rfl, rfl⟩ (fun H locs hH => ?_)
        refine W_nmi (fun v9 => ?_)
        refine lv_istore (lv' := [(7, .int v9), (6, .int v7), (5, .int v5), (4, .int v4), (3, .int v2), (0, .ref (ad 115)), (1, .int a1), (2, .int a2)]) hx hb dX8_readCondition_69 hl (by decide) rfl (fun ls hl => ?_)
        refine lv_aload_n hx hb dX8_readCondition_71 rfl (lv_at hl 5 rfl) ?_
        refine lv_iload_n hx hb dX8_readCondition_72 rfl (lv_at hl 6 rfl) ?_
        refine lv_iload_n hx hb dX8_readCondition_73 rfl (lv_at hl 7 rfl) ?_
        refine lv_iload_n hx hb dX8_readCondition_74 rfl (lv_at hl 4 rfl) ?_
        refine W_jn (fun (x : Int32) H locs => KH SK E ad sz M8 s.heap H locs) (fun x ls => lv_has ls 8 []) (fun x ls => F0 m 86 ls [.int x, .int a2, .int a1, .ref (ad 115)]) ?_ (fun K86_75 hK86_75 => ?_)
        · intro v10 H locs ls hH hl
          have hH : KH SK E ad sz M8 s.heap H locs := hH
          have hl : lv_has ls 8 [] := hl
          refine W_q fX8_readCondition_J86_75_u ?_
          refine kg_v C hH (kc_V C hH w_5_58 lc_yX8_put li_yX8_put oT (kX8_put l E ad M8 a1 a2 v10) (As := [.int a1, .int a2, .int v10]) rfl dX8_readCondition_86 rfl hl.1 (Nat.le_of_ble_eq_true rfl) ⟨Nat.le_of_ble_eq_true rfl, Nat.le_of_ble_eq_true rfl⟩ ⟨Nat.le_of_ble_eq_true rfl, Nat.le_of_ble_eq_true rfl⟩) ⟨rfl, rfl⟩ (fun M11 H locs hH => ?_)
          refine lv_iconst (v := 1) hx hb dX8_readCondition_89 (by decide) ?_
          exact ke_z C hH hr (Nat.le_refl _) (Nat.le_refl _) rfl (Or.inr rfl) dX8_readCondition_90
        · refine kb_if_eq (tgt := 84) hx hb dX8_readCondition_75 (by decide) (fun _ => ?_) (fun _ => ?_)
          · refine lv_iload hx hb dX8_readCondition_84 (lv_at hl 0 rfl) ?_
            exact hK86_75 v9 _ _ _ hH (lv_sub hl [] rfl)
          · refine lv_iload hx hb dX8_readCondition_78 (lv_at hl 0 rfl) ?_
            refine lv_ineg hx hb dX8_readCondition_80 ?_
            refine lv_goto (tgt := 86) hx hb dX8_readCondition_81 (by decide) ?_
            exact hK86_75 (-v9) _ _ _ hH (lv_sub hl [] rfl)
      · refine lv_iconst (v := 0) hx hb dX8_readCondition_58 (by decide) ?_
        exact ke_z C hH hr (Nat.le_refl _) (Nat.le_refl _) rfl (Or.inl rfl) dX8_readCondition_59
    · refine kb_if_ge (tgt := 44) hx hb dX8_readCondition_37 (by decide) (fun _ => ?_) (fun _ => ?_)
      · refine lv_aload_n hx hb dX8_readCondition_44 rfl (lv_at hl 3 rfl) ?_
        refine lv_bipush (v := 120) hx hb dX8_readCondition_45 (by decide) ?_
        refine lv_iconst (v := 3) hx hb dX8_readCondition_47 (by decide) ?_
        refine kg_ib C hH (kc_V C hH w_5_46 lc_yX8_read li_yX8_read oT (kX8_read l E ad M6 120 3) (As := [.int 120, .int 3]) rfl dX8_readCondition_48 rfl hl.1 (Nat.le_of_ble_eq_true rfl) ⟨Nat.le_of_ble_eq_true rfl, Nat.le_of_ble_eq_true rfl⟩ ⟨Nat.le_of_ble_eq_true rfl, Nat.le_of_ble_eq_true rfl⟩) ⟨rfl, rfl⟩ (fun v13 M12 H locs hH => ?_)
        exact hK51_37 (v13, M12) _ _ _ hH (lv_sub hl [0, 1, 2, 3, 4, 5] rfl)
      · refine lv_iconst (v := (-1)) hx hb dX8_readCondition_40 (by decide) ?_
        refine lv_goto (tgt := 51) hx hb dX8_readCondition_41 (by decide) ?_
        exact hK51_37 ((-1), M6) _ _ _ hH (lv_sub hl [0, 1, 2, 3, 4, 5] rfl)
  · refine kb_if_ge (tgt := 26) hx hb dX8_readCondition_19 (by decide) (fun _ => ?_) (fun _ => ?_)
    · refine lv_aload_n hx hb dX8_readCondition_26 rfl (lv_at hl 2 rfl) ?_
      refine lv_bipush (v := 120) hx hb dX8_readCondition_27 (by decide) ?_
      refine lv_iconst (v := 3) hx hb dX8_readCondition_29 (by decide) ?_
      refine kg_ib C hH (kc_V C hH w_5_46 lc_yX8_read li_yX8_read oT (kX8_read l E ad M3 120 3) (As := [.int 120, .int 3]) rfl dX8_readCondition_30 rfl hl.1 (Nat.le_of_ble_eq_true rfl) ⟨Nat.le_of_ble_eq_true rfl, Nat.le_of_ble_eq_true rfl⟩ ⟨Nat.le_of_ble_eq_true rfl, Nat.le_of_ble_eq_true rfl⟩) ⟨rfl, rfl⟩ (fun v15 M14 H locs hH => ?_)
      exact hK33_19 (v15, M14) _ _ _ hH (lv_sub hl [0, 1, 2, 3, 4] rfl)
    · refine lv_iconst (v := (-1)) hx hb dX8_readCondition_22 (by decide) ?_
      refine lv_goto (tgt := 33) hx hb dX8_readCondition_23 (by decide) ?_
      exact hK33_19 ((-1), M3) _ _ _ hH (lv_sub hl [0, 1, 2, 3, 4] rfl)
def fX8_readRule_X26 (a1 : Int32) (M7 : KS) : Option (Int32 × KS) := bd2 (fX8_note M7 a1 114) fun v9 M8 => if isB v9 then some (v9, M8) else none
theorem fX8_readRule_X26_u {a1 : Int32} {M7 : KS} : fX8_readRule_X26 a1 M7 = bd2 (fX8_note M7 a1 114) fun v9 M8 => if isB v9 then some (v9, M8) else none := rfl
def fX8_readRule_J64_50 (a1 : Int32) (v5 : Int32) (rec26 : (Int32 × KS) → Option (Int32 × KS)) (v10 : Int32) (M11 : KS) : Option (Int32 × KS) := (if v10 = 0 then (fX8_put M11 a1 v5 0).bind fun M13 => nm (v5 + 1) fun v14 => rec26 (v14, M13) else nm (v5 + 1) fun v12 => rec26 (v12, M11))
theorem fX8_readRule_J64_50_u {a1 : Int32} {v5 : Int32} {rec26 : (Int32 × KS) → Option (Int32 × KS)} {v10 : Int32} {M11 : KS} : fX8_readRule_J64_50 a1 v5 rec26 v10 M11 = (if v10 = 0 then (fX8_put M11 a1 v5 0).bind fun M13 => nm (v5 + 1) fun v14 => rec26 (v14, M13) else nm (v5 + 1) fun v12 => rec26 (v12, M11)) := rfl
def fX8_readRule_J48_33 (a1 : Int32) (v5 : Int32) (M6 : KS) (rec26 : (Int32 × KS) → Option (Int32 × KS)) (v10 : Int32) : Option (Int32 × KS) := jn (fX8_readRule_J64_50 a1 v5 rec26 v10) (fun K64_50 => (if v10 = 0 then K64_50 M6 else bd2 (fX8_readCondition M6 a1 v5) fun v16 M15 => (if v16 = 0 then some (0, M15) else K64_50 M15)))
theorem fX8_readRule_J48_33_u {a1 : Int32} {v5 : Int32} {M6 : KS} {rec26 : (Int32 × KS) → Option (Int32 × KS)} {v10 : Int32} : fX8_readRule_J48_33 a1 v5 M6 rec26 v10 = jn (fX8_readRule_J64_50 a1 v5 rec26 v10) (fun K64_50 => (if v10 = 0 then K64_50 M6 else bd2 (fX8_readCondition M6 a1 v5) fun v16 M15 => (if v16 = 0 then some (0, M15) else K64_50 M15))) := rfl
def fX8_readRule_L26 (a1 : Int32) (rec26 : (Int32 × KS) → Option (Int32 × KS)) (k26 : (KS) → Option (Int32 × KS)) (x : Int32 × KS) : Option (Int32 × KS) := match x with | (v5, M6) => (if 3 < v5 then k26 M6 else jn (fX8_readRule_J48_33 a1 v5 M6 rec26) (fun K48_33 => (if v5 = 1 then K48_33 1 else (fX8_startsCondition M6).bind fun v17 => (if v17 = 0 then K48_33 0 else K48_33 1))))
theorem fX8_readRule_L26_u {a1 : Int32} {rec26 : (Int32 × KS) → Option (Int32 × KS)} {k26 : (KS) → Option (Int32 × KS)} {v5 : Int32} {M6 : KS} : fX8_readRule_L26 a1 rec26 k26 (v5, M6) = (if 3 < v5 then k26 M6 else jn (fX8_readRule_J48_33 a1 v5 M6 rec26) (fun K48_33 => (if v5 = 1 then K48_33 1 else (fX8_startsCondition M6).bind fun v17 => (if v17 = 0 then K48_33 0 else K48_33 1)))) := rfl
def fX8_readRule (M : KS) (a1 : Int32) : Option (Int32 × KS) := bd2 (fX8_readNumber M a1 0 48 6) fun v2 M1 => (if v2 = 0 then some (0, M1) else bd2 (fX8_skip M1 61) fun v4 M3 => (if v4 = 0 then some (0, M3) else lp (fX8_readRule_L26 a1) (fX8_readRule_X26 a1) 1000000 (1, M3)))
set_option maxHeartbeats 4000000 in
set_option maxRecDepth 100000 in
theorem kX8_readRule (l : Launch) (E : KE) (ad : Nat → Nat) (M : KS) (a1 : Int32) : CT l yX8_readRule cX8_readRule 4 (some .boolean) { frames := 3, cells := 0, slots := 0, locals := 71 } SK E ad [.ref (ad 115), .int a1] M (QI SK E ad) (fX8_readRule M a1) := by
  refine CT.ofW (by decide) (Nat.le_of_ble_eq_true rfl) (fun sz p e s m args below meth c C hr hH ls hl => ?_)
  have hx := C.1.1
  have hb := C.1.2.1
  have hl : lv_has ls 4 [(0, .ref (ad 115)), (1, .int a1)] := hl
  unfold fX8_readRule
  refine lv_aload_n hx hb dX8_readRule_0 rfl (lv_at hl 0 rfl) ?_
  refine lv_iload_n hx hb dX8_readRule_1 rfl (lv_at hl 1 rfl) ?_
  refine lv_iconst (v := 0) hx hb dX8_readRule_2 (by decide) ?_
  refine lv_bipush (v := 48) hx hb dX8_readRule_3 (by decide) ?_
  refine lv_bipush (v := 6) hx hb dX8_readRule_5 (by decide) ?_
  refine kg_ib C hH (kc_V C hH w_5_54 lc_yX8_readNumber li_yX8_readNumber oT (kX8_readNumber l E ad M a1 0 48 6) (As := [.int a1, .int 0, .int 48, .int 6]) rfl dX8_readRule_7 rfl hl.1 (Nat.le_of_ble_eq_true rfl) ⟨Nat.le_of_ble_eq_true rfl, Nat.le_of_ble_eq_true rfl⟩ ⟨Nat.le_of_ble_eq_true rfl, Nat.le_of_ble_eq_true rfl⟩) ⟨rfl, rfl⟩ (fun v2 M1 H locs hH => ?_)
  refine kb_if_eq (tgt := 22) hx hb dX8_readRule_10 (by decide) (fun _ => ?_) (fun _ => ?_)
  · refine lv_iconst (v := 0) hx hb dX8_readRule_22 (by decide) ?_
    exact ke_z C hH hr (Nat.le_refl _) (Nat.le_refl _) rfl (Or.inl rfl) dX8_readRule_23
  · refine lv_aload_n hx hb dX8_readRule_13 rfl (lv_at hl 0 rfl) ?_
    refine lv_bipush (v := 61) hx hb dX8_readRule_14 (by decide) ?_
    refine kg_ib C hH (kc_V C hH w_5_42 lc_yX8_skip li_yX8_skip oT (kX8_skip l E ad M1 61) (As := [.int 61]) rfl dX8_readRule_16 rfl hl.1 (Nat.le_of_ble_eq_true rfl) ⟨Nat.le_of_ble_eq_true rfl, Nat.le_of_ble_eq_true rfl⟩ ⟨Nat.le_of_ble_eq_true rfl, Nat.le_of_ble_eq_true rfl⟩) ⟨rfl, rfl⟩ (fun v4 M3 H locs hH => ?_)
    refine kb_if_ne (tgt := 24) hx hb dX8_readRule_19 (by decide) (fun _ => ?_) (fun _ => ?_)
    · refine lv_iconst (v := 1) hx hb dX8_readRule_24 (by decide) ?_
      refine lv_istore_n (lv' := [(2, .int 1), (0, .ref (ad 115)), (1, .int a1)]) hx hb dX8_readRule_25 rfl hl (by decide) rfl (fun ls hl => ?_)
      refine W_lp (fun (x : Int32 × KS) H locs => KH SK E ad sz x.2 s.heap H locs) (fun x ls => lv_has ls 4 [(0, .ref (ad 115)), (1, .int a1), (2, .int x.1)]) (fun _ ls => F0 m 26 ls []) (fun (x : KS) H locs => KH SK E ad sz x s.heap H locs) (fun x ls => lv_has ls 4 [(0, .ref (ad 115)), (1, .int a1)]) (fun _ ls => F0 m 81 ls []) ?_ ?_ hH (lv_sub hl [1, 2, 0] rfl)
      · intro M7 H locs ls hH hl
        have hH : KH SK E ad sz M7 s.heap H locs := hH
        have hl : lv_has ls 4 [(0, .ref (ad 115)), (1, .int a1)] := hl
        refine W_q fX8_readRule_X26_u ?_
        refine lv_aload_n hx hb dX8_readRule_81 rfl (lv_at hl 0 rfl) ?_
        refine lv_iload_n hx hb dX8_readRule_82 rfl (lv_at hl 1 rfl) ?_
        refine lv_bipush (v := 114) hx hb dX8_readRule_83 (by decide) ?_
        refine kg_ib C hH (kc_V C hH w_5_62 lc_yX8_note li_yX8_note oT (kX8_note l E ad M7 a1 114) (As := [.int a1, .int 114]) rfl dX8_readRule_85 rfl hl.1 (Nat.le_of_ble_eq_true rfl) ⟨Nat.le_of_ble_eq_true rfl, Nat.le_of_ble_eq_true rfl⟩ ⟨Nat.le_of_ble_eq_true rfl, Nat.le_of_ble_eq_true rfl⟩) ⟨rfl, rfl⟩ (fun v9 M8 H locs hH => ?_)
        exact ke_zg C hH hr (Nat.le_refl _) (Nat.le_refl _) rfl dX8_readRule_88
      · intro rec26 k26 hrec26 hk26 ⟨v5, M6⟩ H locs ls hH hl
        have hH : KH SK E ad sz M6 s.heap H locs := hH
        have hl : lv_has ls 4 [(0, .ref (ad 115)), (1, .int a1), (2, .int v5)] := hl
        refine W_q fX8_readRule_L26_u ?_
        refine lv_iload_n hx hb dX8_readRule_26 rfl (lv_at hl 2 rfl) ?_
        refine lv_iconst (v := 3) hx hb dX8_readRule_27 (by decide) ?_
        refine kb_icmp_gt (tgt := 81) hx hb dX8_readRule_28 (by decide) (fun _ => ?_) (fun _ => ?_)
        · exact hk26 M6 _ _ _ hH (lv_sub hl [0, 1] rfl)
        · refine lv_iload_n hx hb dX8_readRule_31 rfl (lv_at hl 2 rfl) ?_
          refine lv_iconst (v := 1) hx hb dX8_readRule_32 (by decide) ?_
          refine W_jn (fun (x : Int32) H locs => KH SK E ad sz M6 s.heap H locs) (fun x ls => lv_has ls 4 [(0, .ref (ad 115)), (1, .int a1), (2, .int v5)]) (fun x ls => F0 m 48 ls [.int x]) ?_ (fun K48_33 hK48_33 => ?_)
          · intro v10 H locs ls hH hl
            have hH : KH SK E ad sz M6 s.heap H locs := hH
            have hl : lv_has ls 4 [(0, .ref (ad 115)), (1, .int a1), (2, .int v5)] := hl
            refine W_q fX8_readRule_J48_33_u ?_
            refine lv_istore_n (lv' := [(3, .int v10), (0, .ref (ad 115)), (1, .int a1), (2, .int v5)]) hx hb dX8_readRule_48 rfl hl (by decide) rfl (fun ls hl => ?_)
            refine lv_iload_n hx hb dX8_readRule_49 rfl (lv_at hl 0 rfl) ?_
            refine W_jn (fun (x : KS) H locs => KH SK E ad sz x s.heap H locs) (fun x ls => lv_has ls 4 [(3, .int v10), (0, .ref (ad 115)), (1, .int a1), (2, .int v5)]) (fun x ls => F0 m 64 ls []) ?_ (fun K64_50 hK64_50 => ?_)
            · intro M11 H locs ls hH hl
              have hH : KH SK E ad sz M11 s.heap H locs := hH
              have hl : lv_has ls 4 [(3, .int v10), (0, .ref (ad 115)), (1, .int a1), (2, .int v5)] := hl
              refine W_q fX8_readRule_J64_50_u ?_
              refine lv_iload_n hx hb dX8_readRule_64 rfl (lv_at hl 0 rfl) ?_
              refine kb_if_ne (tgt := 75) hx hb dX8_readRule_65 (by decide) (fun _ => ?_) (fun _ => ?_)
              · refine W_nm (fun v12 ev12 => ?_)
                refine lv_iinc (v := v12) (lv' := [(2, .int v12), (3, .int v10), (0, .ref (ad 115)), (1, .int a1)]) hx hb dX8_readRule_75 hl (k := 3) rfl (by rw [ev12]; rfl) (by decide) rfl (fun ls hl => ?_)
                refine lv_goto (tgt := 26) hx hb dX8_readRule_78 (by decide) ?_
                exact hrec26 (v12, M11) _ _ _ hH (lv_sub hl [2, 3, 0] rfl)
              · refine lv_aload_n hx hb dX8_readRule_68 rfl (lv_at hl 1 rfl) ?_
                refine lv_iload_n hx hb dX8_readRule_69 rfl (lv_at hl 2 rfl) ?_
                refine lv_iload_n hx hb dX8_readRule_70 rfl (lv_at hl 3 rfl) ?_
                refine lv_iconst (v := 0) hx hb dX8_readRule_71 (by decide) ?_
                refine kg_v C hH (kc_V C hH w_5_58 lc_yX8_put li_yX8_put oT (kX8_put l E ad M11 a1 v5 0) (As := [.int a1, .int v5, .int 0]) rfl dX8_readRule_72 rfl hl.1 (Nat.le_of_ble_eq_true rfl) ⟨Nat.le_of_ble_eq_true rfl, Nat.le_of_ble_eq_true rfl⟩ ⟨Nat.le_of_ble_eq_true rfl, Nat.le_of_ble_eq_true rfl⟩) ⟨rfl, rfl⟩ (fun M13 H locs hH => ?_)
                refine W_nm (fun v14 ev14 => ?_)
                refine lv_iinc (v := v14) (lv' := [(2, .int v14), (3, .int v10), (0, .ref (ad 115)), (1, .int a1)]) hx hb dX8_readRule_75 hl (k := 3) rfl (by rw [ev14]; rfl) (by decide) rfl (fun ls hl => ?_)
                refine lv_goto (tgt := 26) hx hb dX8_readRule_78 (by decide) ?_
                exact hrec26 (v14, M13) _ _ _ hH (lv_sub hl [2, 3, 0] rfl)
            · refine kb_if_eq (tgt := 64) hx hb dX8_readRule_50 (by decide) (fun _ => ?_) (fun _ => ?_)
              · exact hK64_50 M6 _ _ _ hH (lv_sub hl [0, 1, 2, 3] rfl)
              · refine lv_aload_n hx hb dX8_readRule_53 rfl (lv_at hl 1 rfl) ?_
                refine lv_iload_n hx hb dX8_readRule_54 rfl (lv_at hl 2 rfl) ?_
                refine lv_iload_n hx hb dX8_readRule_55 rfl (lv_at hl 3 rfl) ?_
                refine kg_ib C hH (kc_V C hH w_5_74 lc_yX8_readCondition li_yX8_readCondition oT (kX8_readCondition l E ad M6 a1 v5) (As := [.int a1, .int v5]) rfl dX8_readRule_56 rfl hl.1 (Nat.le_of_ble_eq_true rfl) ⟨Nat.le_of_ble_eq_true rfl, Nat.le_of_ble_eq_true rfl⟩ ⟨Nat.le_of_ble_eq_true rfl, Nat.le_of_ble_eq_true rfl⟩) ⟨rfl, rfl⟩ (fun v16 M15 H locs hH => ?_)
                refine kb_if_ne (tgt := 64) hx hb dX8_readRule_59 (by decide) (fun _ => ?_) (fun _ => ?_)
                · exact hK64_50 M15 _ _ _ hH (lv_sub hl [0, 1, 2, 3] rfl)
                · refine lv_iconst (v := 0) hx hb dX8_readRule_62 (by decide) ?_
                  exact ke_z C hH hr (Nat.le_refl _) (Nat.le_refl _) rfl (Or.inl rfl) dX8_readRule_63
          · refine kb_icmp_eq (tgt := 43) hx hb dX8_readRule_33 (by decide) (fun _ => ?_) (fun _ => ?_)
            · refine lv_iconst (v := 1) hx hb dX8_readRule_43 (by decide) ?_
              refine lv_goto (tgt := 48) hx hb dX8_readRule_44 (by decide) ?_
              exact hK48_33 1 _ _ _ hH (lv_sub hl [0, 1, 2] rfl)
            · refine lv_aload_n hx hb dX8_readRule_36 rfl (lv_at hl 0 rfl) ?_
              refine kg_io C hH (kc_V C hH w_5_70 lc_yX8_startsCondition li_yX8_startsCondition oT (kX8_startsCondition l E ad M6) (As := []) rfl dX8_readRule_37 rfl hl.1 (Nat.le_of_ble_eq_true rfl) ⟨Nat.le_of_ble_eq_true rfl, Nat.le_of_ble_eq_true rfl⟩ ⟨Nat.le_of_ble_eq_true rfl, Nat.le_of_ble_eq_true rfl⟩) ⟨rfl, rfl⟩ (fun v17 H locs hH => ?_)
              refine kb_if_eq (tgt := 47) hx hb dX8_readRule_40 (by decide) (fun _ => ?_) (fun _ => ?_)
              · refine lv_iconst (v := 0) hx hb dX8_readRule_47 (by decide) ?_
                exact hK48_33 0 _ _ _ hH (lv_sub hl [0, 1, 2] rfl)
              · refine lv_iconst (v := 1) hx hb dX8_readRule_43 (by decide) ?_
                refine lv_goto (tgt := 48) hx hb dX8_readRule_44 (by decide) ?_
                exact hK48_33 1 _ _ _ hH (lv_sub hl [0, 1, 2] rfl)
    · refine lv_iconst (v := 0) hx hb dX8_readRule_22 (by decide) ?_
      exact ke_z C hH hr (Nat.le_refl _) (Nat.le_refl _) rfl (Or.inl rfl) dX8_readRule_23
def fX8_readOrder (M : KS) (a1 : Int32) : Option (Int32 × KS) := bd2 (fX8_skip M 43) fun v2 M1 => (if v2 = 0 then bd2 (fX8_skip M1 45) fun v4 M3 => (if v4 = 0 then bd2 (fX8_skip M3 114) fun v6 M5 => (if v6 = 0 then bd2 (fX8_skip M5 100) fun v8 M7 => (if v8 = 0 then some (0, M7) else bd2 (fX8_readNumber M7 a1 0 48 10) fun v10 M9 => (if v10 = 0 then some (0, M9) else bd2 (fX8_note M9 a1 100) fun v12 M11 => (if v12 = 0 then some (0, M11) else some (1, M11)))) else bd2 (fX8_readRule M5 a1) fun v14 M13 => if isB v14 then some (v14, M13) else none) else bd2 (fX8_readFact M3 a1 45) fun v16 M15 => if isB v16 then some (v16, M15) else none) else bd2 (fX8_readFact M1 a1 43) fun v18 M17 => if isB v18 then some (v18, M17) else none)
set_option maxHeartbeats 4000000 in
set_option maxRecDepth 100000 in
theorem kX8_readOrder (l : Launch) (E : KE) (ad : Nat → Nat) (M : KS) (a1 : Int32) : CT l yX8_readOrder cX8_readOrder 2 (some .boolean) { frames := 4, cells := 0, slots := 0, locals := 94 } SK E ad [.ref (ad 115), .int a1] M (QI SK E ad) (fX8_readOrder M a1) := by
  refine CT.ofW (by decide) (Nat.le_of_ble_eq_true rfl) (fun sz p e s m args below meth c C hr hH ls hl => ?_)
  have hx := C.1.1
  have hb := C.1.2.1
  have hl : lv_has ls 2 [(0, .ref (ad 115)), (1, .int a1)] := hl
  unfold fX8_readOrder
  refine lv_aload_n hx hb dX8_readOrder_0 rfl (lv_at hl 0 rfl) ?_
  refine lv_bipush (v := 43) hx hb dX8_readOrder_1 (by decide) ?_
  refine kg_ib C hH (kc_V C hH w_5_42 lc_yX8_skip li_yX8_skip oT (kX8_skip l E ad M 43) (As := [.int 43]) rfl dX8_readOrder_3 rfl hl.1 (Nat.le_of_ble_eq_true rfl) ⟨Nat.le_of_ble_eq_true rfl, Nat.le_of_ble_eq_true rfl⟩ ⟨Nat.le_of_ble_eq_true rfl, Nat.le_of_ble_eq_true rfl⟩) ⟨rfl, rfl⟩ (fun v2 M1 H locs hH => ?_)
  refine kb_if_eq (tgt := 17) hx hb dX8_readOrder_6 (by decide) (fun _ => ?_) (fun _ => ?_)
  · refine lv_aload_n hx hb dX8_readOrder_17 rfl (lv_at hl 0 rfl) ?_
    refine lv_bipush (v := 45) hx hb dX8_readOrder_18 (by decide) ?_
    refine kg_ib C hH (kc_V C hH w_5_42 lc_yX8_skip li_yX8_skip oT (kX8_skip l E ad M1 45) (As := [.int 45]) rfl dX8_readOrder_20 rfl hl.1 (Nat.le_of_ble_eq_true rfl) ⟨Nat.le_of_ble_eq_true rfl, Nat.le_of_ble_eq_true rfl⟩ ⟨Nat.le_of_ble_eq_true rfl, Nat.le_of_ble_eq_true rfl⟩) ⟨rfl, rfl⟩ (fun v4 M3 H locs hH => ?_)
    refine kb_if_eq (tgt := 34) hx hb dX8_readOrder_23 (by decide) (fun _ => ?_) (fun _ => ?_)
    · refine lv_aload_n hx hb dX8_readOrder_34 rfl (lv_at hl 0 rfl) ?_
      refine lv_bipush (v := 114) hx hb dX8_readOrder_35 (by decide) ?_
      refine kg_ib C hH (kc_V C hH w_5_42 lc_yX8_skip li_yX8_skip oT (kX8_skip l E ad M3 114) (As := [.int 114]) rfl dX8_readOrder_37 rfl hl.1 (Nat.le_of_ble_eq_true rfl) ⟨Nat.le_of_ble_eq_true rfl, Nat.le_of_ble_eq_true rfl⟩ ⟨Nat.le_of_ble_eq_true rfl, Nat.le_of_ble_eq_true rfl⟩) ⟨rfl, rfl⟩ (fun v6 M5 H locs hH => ?_)
      refine kb_if_eq (tgt := 49) hx hb dX8_readOrder_40 (by decide) (fun _ => ?_) (fun _ => ?_)
      · refine lv_aload_n hx hb dX8_readOrder_49 rfl (lv_at hl 0 rfl) ?_
        refine lv_bipush (v := 100) hx hb dX8_readOrder_50 (by decide) ?_
        refine kg_ib C hH (kc_V C hH w_5_42 lc_yX8_skip li_yX8_skip oT (kX8_skip l E ad M5 100) (As := [.int 100]) rfl dX8_readOrder_52 rfl hl.1 (Nat.le_of_ble_eq_true rfl) ⟨Nat.le_of_ble_eq_true rfl, Nat.le_of_ble_eq_true rfl⟩ ⟨Nat.le_of_ble_eq_true rfl, Nat.le_of_ble_eq_true rfl⟩) ⟨rfl, rfl⟩ (fun v8 M7 H locs hH => ?_)
        refine kb_if_eq (tgt := 85) hx hb dX8_readOrder_55 (by decide) (fun _ => ?_) (fun _ => ?_)
        · refine lv_iconst (v := 0) hx hb dX8_readOrder_85 (by decide) ?_
          exact ke_z C hH hr (Nat.le_refl _) (Nat.le_refl _) rfl (Or.inl rfl) dX8_readOrder_86
        · refine lv_aload_n hx hb dX8_readOrder_58 rfl (lv_at hl 0 rfl) ?_
          refine lv_iload_n hx hb dX8_readOrder_59 rfl (lv_at hl 1 rfl) ?_
          refine lv_iconst (v := 0) hx hb dX8_readOrder_60 (by decide) ?_
          refine lv_bipush (v := 48) hx hb dX8_readOrder_61 (by decide) ?_
          refine lv_bipush (v := 10) hx hb dX8_readOrder_63 (by decide) ?_
          refine kg_ib C hH (kc_V C hH w_5_54 lc_yX8_readNumber li_yX8_readNumber oT (kX8_readNumber l E ad M7 a1 0 48 10) (As := [.int a1, .int 0, .int 48, .int 10]) rfl dX8_readOrder_65 rfl hl.1 (Nat.le_of_ble_eq_true rfl) ⟨Nat.le_of_ble_eq_true rfl, Nat.le_of_ble_eq_true rfl⟩ ⟨Nat.le_of_ble_eq_true rfl, Nat.le_of_ble_eq_true rfl⟩) ⟨rfl, rfl⟩ (fun v10 M9 H locs hH => ?_)
          refine kb_if_eq (tgt := 85) hx hb dX8_readOrder_68 (by decide) (fun _ => ?_) (fun _ => ?_)
          · refine lv_iconst (v := 0) hx hb dX8_readOrder_85 (by decide) ?_
            exact ke_z C hH hr (Nat.le_refl _) (Nat.le_refl _) rfl (Or.inl rfl) dX8_readOrder_86
          · refine lv_aload_n hx hb dX8_readOrder_71 rfl (lv_at hl 0 rfl) ?_
            refine lv_iload_n hx hb dX8_readOrder_72 rfl (lv_at hl 1 rfl) ?_
            refine lv_bipush (v := 100) hx hb dX8_readOrder_73 (by decide) ?_
            refine kg_ib C hH (kc_V C hH w_5_62 lc_yX8_note li_yX8_note oT (kX8_note l E ad M9 a1 100) (As := [.int a1, .int 100]) rfl dX8_readOrder_75 rfl hl.1 (Nat.le_of_ble_eq_true rfl) ⟨Nat.le_of_ble_eq_true rfl, Nat.le_of_ble_eq_true rfl⟩ ⟨Nat.le_of_ble_eq_true rfl, Nat.le_of_ble_eq_true rfl⟩) ⟨rfl, rfl⟩ (fun v12 M11 H locs hH => ?_)
            refine kb_if_eq (tgt := 85) hx hb dX8_readOrder_78 (by decide) (fun _ => ?_) (fun _ => ?_)
            · refine lv_iconst (v := 0) hx hb dX8_readOrder_85 (by decide) ?_
              exact ke_z C hH hr (Nat.le_refl _) (Nat.le_refl _) rfl (Or.inl rfl) dX8_readOrder_86
            · refine lv_iconst (v := 1) hx hb dX8_readOrder_81 (by decide) ?_
              refine lv_goto (tgt := 86) hx hb dX8_readOrder_82 (by decide) ?_
              exact ke_z C hH hr (Nat.le_refl _) (Nat.le_refl _) rfl (Or.inr rfl) dX8_readOrder_86
      · refine lv_aload_n hx hb dX8_readOrder_43 rfl (lv_at hl 0 rfl) ?_
        refine lv_iload_n hx hb dX8_readOrder_44 rfl (lv_at hl 1 rfl) ?_
        refine kg_ib C hH (kc_V C hH w_5_66 lc_yX8_readRule li_yX8_readRule oT (kX8_readRule l E ad M5 a1) (As := [.int a1]) rfl dX8_readOrder_45 rfl hl.1 (Nat.le_of_ble_eq_true rfl) ⟨Nat.le_of_ble_eq_true rfl, Nat.le_of_ble_eq_true rfl⟩ ⟨Nat.le_of_ble_eq_true rfl, Nat.le_of_ble_eq_true rfl⟩) ⟨rfl, rfl⟩ (fun v14 M13 H locs hH => ?_)
        exact ke_zg C hH hr (Nat.le_refl _) (Nat.le_refl _) rfl dX8_readOrder_48
    · refine lv_aload_n hx hb dX8_readOrder_26 rfl (lv_at hl 0 rfl) ?_
      refine lv_iload_n hx hb dX8_readOrder_27 rfl (lv_at hl 1 rfl) ?_
      refine lv_bipush (v := 45) hx hb dX8_readOrder_28 (by decide) ?_
      refine kg_ib C hH (kc_V C hH w_5_50 lc_yX8_readFact li_yX8_readFact oT (kX8_readFact l E ad M3 a1 45) (As := [.int a1, .int 45]) rfl dX8_readOrder_30 rfl hl.1 (Nat.le_of_ble_eq_true rfl) ⟨Nat.le_of_ble_eq_true rfl, Nat.le_of_ble_eq_true rfl⟩ ⟨Nat.le_of_ble_eq_true rfl, Nat.le_of_ble_eq_true rfl⟩) ⟨rfl, rfl⟩ (fun v16 M15 H locs hH => ?_)
      exact ke_zg C hH hr (Nat.le_refl _) (Nat.le_refl _) rfl dX8_readOrder_33
  · refine lv_aload_n hx hb dX8_readOrder_9 rfl (lv_at hl 0 rfl) ?_
    refine lv_iload_n hx hb dX8_readOrder_10 rfl (lv_at hl 1 rfl) ?_
    refine lv_bipush (v := 43) hx hb dX8_readOrder_11 (by decide) ?_
    refine kg_ib C hH (kc_V C hH w_5_50 lc_yX8_readFact li_yX8_readFact oT (kX8_readFact l E ad M1 a1 43) (As := [.int a1, .int 43]) rfl dX8_readOrder_13 rfl hl.1 (Nat.le_of_ble_eq_true rfl) ⟨Nat.le_of_ble_eq_true rfl, Nat.le_of_ble_eq_true rfl⟩ ⟨Nat.le_of_ble_eq_true rfl, Nat.le_of_ble_eq_true rfl⟩) ⟨rfl, rfl⟩ (fun v18 M17 H locs hH => ?_)
    exact ke_zg C hH hr (Nat.le_refl _) (Nat.le_refl _) rfl dX8_readOrder_16
def fX8_readOrders_X12 (M5 : KS) : Option (Int32 × KS) := some ((M5.1 115 5), M5)
theorem fX8_readOrders_X12_u {M5 : KS} : fX8_readOrders_X12 M5 = some ((M5.1 115 5), M5) := rfl
def fX8_readOrders_L12 (rec12 : (Int32 × KS) → Option (Int32 × KS)) (k12 : (KS) → Option (Int32 × KS)) (x : Int32 × KS) : Option (Int32 × KS) := match x with | (v3, M4) => (if 21 ≤ v3 then k12 M4 else bd2 (fX8_readOrder M4 v3) fun v7 M6 => (if v7 = 0 then some ((M6.1 115 5), M6) else nm (kset M6 115 4 ((M6.1 115 4) + 1)) fun M8 => (if (M8.1 115 5) < (M8.1 115 3) then bd2 (fX8_skip M8 59) fun v10 M9 => (if v10 = 0 then some ((M9.1 115 5), M9) else nm (v3 + 1) fun v11 => rec12 (v11, M9)) else some ((-1), M8))))
theorem fX8_readOrders_L12_u {rec12 : (Int32 × KS) → Option (Int32 × KS)} {k12 : (KS) → Option (Int32 × KS)} {v3 : Int32} {M4 : KS} : fX8_readOrders_L12 rec12 k12 (v3, M4) = (if 21 ≤ v3 then k12 M4 else bd2 (fX8_readOrder M4 v3) fun v7 M6 => (if v7 = 0 then some ((M6.1 115 5), M6) else nm (kset M6 115 4 ((M6.1 115 4) + 1)) fun M8 => (if (M8.1 115 5) < (M8.1 115 3) then bd2 (fX8_skip M8 59) fun v10 M9 => (if v10 = 0 then some ((M9.1 115 5), M9) else nm (v3 + 1) fun v11 => rec12 (v11, M9)) else some ((-1), M8)))) := rfl
def fX8_readOrders (M : KS)  : Option (Int32 × KS) := nm (kset M 115 5 0) fun M1 => nm (kset M1 115 4 0) fun M2 => lp (fX8_readOrders_L12) (fX8_readOrders_X12) 1000000 (0, M2)
set_option maxHeartbeats 4000000 in
set_option maxRecDepth 100000 in
theorem kX8_readOrders (l : Launch) (E : KE) (ad : Nat → Nat) (M : KS)  : CT l yX8_readOrders cX8_readOrders 2 (some .int) { frames := 5, cells := 0, slots := 0, locals := 115 } SK E ad [.ref (ad 115)] M (QI SK E ad) (fX8_readOrders M) := by
  refine CT.ofW (by decide) (Nat.le_of_ble_eq_true rfl) (fun sz p e s m args below meth c C hr hH ls hl => ?_)
  have hx := C.1.1
  have hb := C.1.2.1
  have hl : lv_has ls 2 [(0, .ref (ad 115))] := hl
  unfold fX8_readOrders
  refine lv_aload_n hx hb dX8_readOrders_0 rfl (lv_at hl 0 rfl) ?_
  refine lv_iconst (v := 0) hx hb dX8_readOrders_1 (by decide) ?_
  refine k_put1 C hH fd_X8_29 fw_X8_5 oT nT5 rfl rfl dX8_readOrders_2 (fun M1 H locs hH => ?_)
  refine lv_aload_n hx hb dX8_readOrders_5 rfl (lv_at hl 0 rfl) ?_
  refine lv_iconst (v := 0) hx hb dX8_readOrders_6 (by decide) ?_
  refine k_put1 C hH fd_X8_26 fw_X8_4 oT nT4 rfl rfl dX8_readOrders_7 (fun M2 H locs hH => ?_)
  refine lv_iconst (v := 0) hx hb dX8_readOrders_10 (by decide) ?_
  refine lv_istore_n (lv' := [(1, .int 0), (0, .ref (ad 115))]) hx hb dX8_readOrders_11 rfl hl (by decide) rfl (fun ls hl => ?_)
  refine W_lp (fun (x : Int32 × KS) H locs => KH SK E ad sz x.2 s.heap H locs) (fun x ls => lv_has ls 2 [(0, .ref (ad 115)), (1, .int x.1)]) (fun _ ls => F0 m 12 ls []) (fun (x : KS) H locs => KH SK E ad sz x s.heap H locs) (fun x ls => lv_has ls 2 [(0, .ref (ad 115))]) (fun _ ls => F0 m 74 ls []) ?_ ?_ hH (lv_sub hl [1, 0] rfl)
  · intro M5 H locs ls hH hl
    have hH : KH SK E ad sz M5 s.heap H locs := hH
    have hl : lv_has ls 2 [(0, .ref (ad 115))] := hl
    refine W_q fX8_readOrders_X12_u ?_
    refine lv_aload_n hx hb dX8_readOrders_74 rfl (lv_at hl 0 rfl) ?_
    refine k_get C hH fd_X8_29 oT (k_int (M := M5) (ad := ad) nT5) dX8_readOrders_75 ?_
    exact ke_i C hH hr (Nat.le_refl _) (Nat.le_refl _) rfl dX8_readOrders_78
  · intro rec12 k12 hrec12 hk12 ⟨v3, M4⟩ H locs ls hH hl
    have hH : KH SK E ad sz M4 s.heap H locs := hH
    have hl : lv_has ls 2 [(0, .ref (ad 115)), (1, .int v3)] := hl
    refine W_q fX8_readOrders_L12_u ?_
    refine lv_iload_n hx hb dX8_readOrders_12 rfl (lv_at hl 1 rfl) ?_
    refine lv_bipush (v := 21) hx hb dX8_readOrders_13 (by decide) ?_
    refine kb_icmp_ge (tgt := 74) hx hb dX8_readOrders_15 (by decide) (fun _ => ?_) (fun _ => ?_)
    · exact hk12 M4 _ _ _ hH (lv_sub hl [0] rfl)
    · refine lv_aload_n hx hb dX8_readOrders_18 rfl (lv_at hl 0 rfl) ?_
      refine lv_iload_n hx hb dX8_readOrders_19 rfl (lv_at hl 1 rfl) ?_
      refine kg_ib C hH (kc_V C hH w_5_38 lc_yX8_readOrder li_yX8_readOrder oT (kX8_readOrder l E ad M4 v3) (As := [.int v3]) rfl dX8_readOrders_20 rfl hl.1 (Nat.le_of_ble_eq_true rfl) ⟨Nat.le_of_ble_eq_true rfl, Nat.le_of_ble_eq_true rfl⟩ ⟨Nat.le_of_ble_eq_true rfl, Nat.le_of_ble_eq_true rfl⟩) ⟨rfl, rfl⟩ (fun v7 M6 H locs hH => ?_)
      refine kb_if_ne (tgt := 31) hx hb dX8_readOrders_23 (by decide) (fun _ => ?_) (fun _ => ?_)
      · refine lv_aload_n hx hb dX8_readOrders_31 rfl (lv_at hl 0 rfl) ?_
        refine lv_dup hx hb dX8_readOrders_32 rfl ?_
        refine k_get C hH fd_X8_26 oT (k_int (M := M6) (ad := ad) nT4) dX8_readOrders_33 ?_
        refine lv_iconst (v := 1) hx hb dX8_readOrders_36 (by decide) ?_
        refine lv_iadd hx hb dX8_readOrders_37 ?_
        refine k_put1 C hH fd_X8_26 fw_X8_4 oT nT4 rfl rfl dX8_readOrders_38 (fun M8 H locs hH => ?_)
        refine lv_aload_n hx hb dX8_readOrders_41 rfl (lv_at hl 0 rfl) ?_
        refine k_get C hH fd_X8_29 oT (k_int (M := M8) (ad := ad) nT5) dX8_readOrders_42 ?_
        refine lv_aload_n hx hb dX8_readOrders_45 rfl (lv_at hl 0 rfl) ?_
        refine k_get C hH fd_X8_22 oT (k_int (M := M8) (ad := ad) nT3) dX8_readOrders_46 ?_
        refine kb_icmp_lt (tgt := 54) hx hb dX8_readOrders_49 (by decide) (fun _ => ?_) (fun _ => ?_)
        · refine lv_aload_n hx hb dX8_readOrders_54 rfl (lv_at hl 0 rfl) ?_
          refine lv_bipush (v := 59) hx hb dX8_readOrders_55 (by decide) ?_
          refine kg_ib C hH (kc_V C hH w_5_42 lc_yX8_skip li_yX8_skip oT (kX8_skip l E ad M8 59) (As := [.int 59]) rfl dX8_readOrders_57 rfl hl.1 (Nat.le_of_ble_eq_true rfl) ⟨Nat.le_of_ble_eq_true rfl, Nat.le_of_ble_eq_true rfl⟩ ⟨Nat.le_of_ble_eq_true rfl, Nat.le_of_ble_eq_true rfl⟩) ⟨rfl, rfl⟩ (fun v10 M9 H locs hH => ?_)
          refine kb_if_ne (tgt := 68) hx hb dX8_readOrders_60 (by decide) (fun _ => ?_) (fun _ => ?_)
          · refine W_nm (fun v11 ev11 => ?_)
            refine lv_iinc (v := v11) (lv' := [(1, .int v11), (0, .ref (ad 115))]) hx hb dX8_readOrders_68 hl (k := 1) rfl (by rw [ev11]; rfl) (by decide) rfl (fun ls hl => ?_)
            refine lv_goto (tgt := 12) hx hb dX8_readOrders_71 (by decide) ?_
            exact hrec12 (v11, M9) _ _ _ hH (lv_sub hl [1, 0] rfl)
          · refine lv_aload_n hx hb dX8_readOrders_63 rfl (lv_at hl 0 rfl) ?_
            refine k_get C hH fd_X8_29 oT (k_int (M := M9) (ad := ad) nT5) dX8_readOrders_64 ?_
            exact ke_i C hH hr (Nat.le_refl _) (Nat.le_refl _) rfl dX8_readOrders_67
        · refine lv_iconst (v := (-1)) hx hb dX8_readOrders_52 (by decide) ?_
          exact ke_i C hH hr (Nat.le_refl _) (Nat.le_refl _) rfl dX8_readOrders_53
      · refine lv_aload_n hx hb dX8_readOrders_26 rfl (lv_at hl 0 rfl) ?_
        refine k_get C hH fd_X8_29 oT (k_int (M := M6) (ad := ad) nT5) dX8_readOrders_27 ?_
        exact ke_i C hH hr (Nat.le_refl _) (Nat.le_refl _) rfl dX8_readOrders_30
def fX8_clear (M : KS)  : Option (KS) := nm (kset M 115 3 0) fun M1 => some M1
set_option maxHeartbeats 4000000 in
set_option maxRecDepth 100000 in
theorem kX8_clear (l : Launch) (E : KE) (ad : Nat → Nat) (M : KS)  : CT l yX8_clear cX8_clear 1 none { frames := 0, cells := 0, slots := 0, locals := 0 } SK E ad [.ref (ad 115)] M (QV SK E ad) (fX8_clear M) := by
  refine CT.ofW (by decide) (Nat.le_of_ble_eq_true rfl) (fun sz p e s m args below meth c C hr hH ls hl => ?_)
  have hx := C.1.1
  have hb := C.1.2.1
  have hl : lv_has ls 1 [(0, .ref (ad 115))] := hl
  unfold fX8_clear
  refine lv_aload_n hx hb dX8_clear_0 rfl (lv_at hl 0 rfl) ?_
  refine lv_iconst (v := 0) hx hb dX8_clear_1 (by decide) ?_
  refine k_put1 C hH fd_X8_22 fw_X8_3 oT nT3 rfl rfl dX8_clear_2 (fun M1 H locs hH => ?_)
  exact ke_v C hH hr (Nat.le_refl _) (Nat.le_refl _) rfl dX8_clear_5
def fX8_kind (M : KS) (a1 : Int32) : Option (Int32) := (if a1 < 0 then if isC 32 then some 32 else none else (if 21 ≤ a1 then if isC 32 then some 32 else none else if inb a1 21 then if isC (M.1 117 a1.toNatClampNeg) then some (M.1 117 a1.toNatClampNeg) else none else none))
set_option maxHeartbeats 4000000 in
set_option maxRecDepth 100000 in
theorem kX8_kind (l : Launch) (E : KE) (ad : Nat → Nat) (M : KS) (a1 : Int32) : CT l yX8_kind cX8_kind 2 (some .char) { frames := 0, cells := 0, slots := 0, locals := 0 } SK E ad [.ref (ad 115), .int a1] M (fun sz a => QI SK E ad sz (a, M)) (fX8_kind M a1) := by
  refine CT.ofW (by decide) (Nat.le_of_ble_eq_true rfl) (fun sz p e s m args below meth c C hr hH ls hl => ?_)
  have hx := C.1.1
  have hb := C.1.2.1
  have hl : lv_has ls 2 [(0, .ref (ad 115)), (1, .int a1)] := hl
  unfold fX8_kind
  refine lv_iload_n hx hb dX8_kind_0 rfl (lv_at hl 1 rfl) ?_
  refine kb_if_lt (tgt := 22) hx hb dX8_kind_1 (by decide) (fun _ => ?_) (fun _ => ?_)
  · refine lv_bipush (v := 32) hx hb dX8_kind_22 (by decide) ?_
    exact ke_cg C hH hr (Nat.le_refl _) (Nat.le_refl _) rfl dX8_kind_24
  · refine lv_iload_n hx hb dX8_kind_4 rfl (lv_at hl 1 rfl) ?_
    refine lv_aload_n hx hb dX8_kind_5 rfl (lv_at hl 0 rfl) ?_
    refine k_get C hH fd_X8_15 oT (k_ref (M := M) (ad := ad) rT1) dX8_kind_6 ?_
    refine k_clen C hH aT1 (v := 21) rfl dX8_kind_9 ?_
    refine kb_icmp_ge (tgt := 22) hx hb dX8_kind_10 (by decide) (fun _ => ?_) (fun _ => ?_)
    · refine lv_bipush (v := 32) hx hb dX8_kind_22 (by decide) ?_
      exact ke_cg C hH hr (Nat.le_refl _) (Nat.le_refl _) rfl dX8_kind_24
    · refine lv_aload_n hx hb dX8_kind_13 rfl (lv_at hl 0 rfl) ?_
      refine k_get C hH fd_X8_15 oT (k_ref (M := M) (ad := ad) rT1) dX8_kind_14 ?_
      refine lv_iload_n hx hb dX8_kind_17 rfl (lv_at hl 1 rfl) ?_
      refine k_cald C hH aT1 dX8_kind_18 ?_
      refine lv_goto (tgt := 24) hx hb dX8_kind_19 (by decide) ?_
      exact ke_cg C hH hr (Nat.le_refl _) (Nat.le_refl _) rfl dX8_kind_24
def fX8_number (M : KS) (a1 : Int32) (a2 : Int32) : Option (Int32) := nm (((4 * a1) + a2)) fun v1 => (if v1 < 0 then some 0 else (if 84 ≤ v1 then some 0 else if inb v1 84 then some (M.1 118 v1.toNatClampNeg) else none))
set_option maxHeartbeats 4000000 in
set_option maxRecDepth 100000 in
theorem kX8_number (l : Launch) (E : KE) (ad : Nat → Nat) (M : KS) (a1 : Int32) (a2 : Int32) : CT l yX8_number cX8_number 4 (some .int) { frames := 0, cells := 0, slots := 0, locals := 0 } SK E ad [.ref (ad 115), .int a1, .int a2] M (fun sz a => QI SK E ad sz (a, M)) (fX8_number M a1 a2) := by
  refine CT.ofW (by decide) (Nat.le_of_ble_eq_true rfl) (fun sz p e s m args below meth c C hr hH ls hl => ?_)
  have hx := C.1.1
  have hb := C.1.2.1
  have hl : lv_has ls 4 [(0, .ref (ad 115)), (1, .int a1), (2, .int a2)] := hl
  unfold fX8_number
  refine lv_iconst (v := 4) hx hb dX8_number_0 (by decide) ?_
  refine lv_iload_n hx hb dX8_number_1 rfl (lv_at hl 1 rfl) ?_
  refine lv_imul hx hb dX8_number_2 ?_
  refine lv_iload_n hx hb dX8_number_3 rfl (lv_at hl 2 rfl) ?_
  refine lv_iadd hx hb dX8_number_4 ?_
  refine W_nmi (fun v1 => ?_)
  refine lv_istore_n (lv' := [(3, .int v1), (0, .ref (ad 115)), (1, .int a1), (2, .int a2)]) hx hb dX8_number_5 rfl hl (by decide) rfl (fun ls hl => ?_)
  refine lv_iload_n hx hb dX8_number_6 rfl (lv_at hl 0 rfl) ?_
  refine kb_if_lt (tgt := 28) hx hb dX8_number_7 (by decide) (fun _ => ?_) (fun _ => ?_)
  · refine lv_iconst (v := 0) hx hb dX8_number_28 (by decide) ?_
    exact ke_i C hH hr (Nat.le_refl _) (Nat.le_refl _) rfl dX8_number_29
  · refine lv_iload_n hx hb dX8_number_10 rfl (lv_at hl 0 rfl) ?_
    refine lv_aload_n hx hb dX8_number_11 rfl (lv_at hl 1 rfl) ?_
    refine k_get C hH fd_X8_18 oT (k_ref (M := M) (ad := ad) rT2) dX8_number_12 ?_
    refine k_ilen C hH aT2 (v := 84) rfl dX8_number_15 ?_
    refine kb_icmp_ge (tgt := 28) hx hb dX8_number_16 (by decide) (fun _ => ?_) (fun _ => ?_)
    · refine lv_iconst (v := 0) hx hb dX8_number_28 (by decide) ?_
      exact ke_i C hH hr (Nat.le_refl _) (Nat.le_refl _) rfl dX8_number_29
    · refine lv_aload_n hx hb dX8_number_19 rfl (lv_at hl 1 rfl) ?_
      refine k_get C hH fd_X8_18 oT (k_ref (M := M) (ad := ad) rT2) dX8_number_20 ?_
      refine lv_iload_n hx hb dX8_number_23 rfl (lv_at hl 0 rfl) ?_
      refine k_iald C hH aT2 dX8_number_24 ?_
      refine lv_goto (tgt := 29) hx hb dX8_number_25 (by decide) ?_
      exact ke_i C hH hr (Nat.le_refl _) (Nat.le_refl _) rfl dX8_number_29
def fX9_carryOut_J125_107 (x : Int32 × KS) : Option (Int32 × KS) := match x with | (v6, M7) => (if v6 = 0 then some (1, M7) else some (0, M7))
theorem fX9_carryOut_J125_107_u {v6 : Int32} {M7 : KS} : fX9_carryOut_J125_107 (v6, M7) = (if v6 = 0 then some (1, M7) else some (0, M7)) := rfl
def fX9_carryOut (M : KS) (a1 : Int32) : Option (Int32 × KS) := (fX8_kind M a1).bind fun v1 => (fX8_number M a1 0).bind fun v2 => (fX8_number M a1 1).bind fun v3 => (fX8_number M a1 2).bind fun v4 => (if v1 = 100 then bd2 (fX9_takeRule M v2) fun v16 M15 => (if v16 = 0 then some (2, M15) else some (0, M15)) else (if v1 = 114 then (fX8_number M a1 3).bind fun v12 => bd2 (fX9_addRule M v2 v3 v4 v12) fun v14 M13 => (if v14 = 0 then some (1, M13) else some (0, M13)) else nm ((fX9_numberOf v2 v3 v4)) fun v5 => jn (fX9_carryOut_J125_107) (fun K125_107 => (if v1 = 43 then bd2 (fX9_addFact M v5) fun v11 M10 => K125_107 (v11, M10) else bd2 (fX9_takeFact M v5) fun v9 M8 => K125_107 (v9, M8)))))
set_option maxHeartbeats 4000000 in
set_option maxRecDepth 100000 in
theorem kX9_carryOut (l : Launch) (E : KE) (ad : Nat → Nat) (M : KS) (a1 : Int32) : CT l yX9_carryOut cX9_carryOut 8 (some .int) { frames := 6, cells := 0, slots := 0, locals := 156 } SK E ad [.ref (ad 121), .int a1] M (QI SK E ad) (fX9_carryOut M a1) := by
  refine CT.ofW (by decide) (Nat.le_of_ble_eq_true rfl) (fun sz p e s m args below meth c C hr hH ls hl => ?_)
  have hx := C.1.1
  have hb := C.1.2.1
  have hl : lv_has ls 8 [(0, .ref (ad 121)), (1, .int a1)] := hl
  unfold fX9_carryOut
  refine lv_aload_n hx hb dX9_carryOut_0 rfl (lv_at hl 0 rfl) ?_
  refine k_get C hH fd_X9_50 oK (k_ref (M := M) (ad := ad) rK6) dX9_carryOut_1 ?_
  refine lv_iload_n hx hb dX9_carryOut_4 rfl (lv_at hl 1 rfl) ?_
  refine kg_io C hH (kc_V C hH w_5_90 lc_yX8_kind li_yX8_kind oT (kX8_kind l E ad M a1) (As := [.int a1]) rfl dX9_carryOut_5 rfl hl.1 (Nat.le_of_ble_eq_true rfl) ⟨Nat.le_of_ble_eq_true rfl, Nat.le_of_ble_eq_true rfl⟩ ⟨Nat.le_of_ble_eq_true rfl, Nat.le_of_ble_eq_true rfl⟩) ⟨rfl, rfl⟩ (fun v1 H locs hH => ?_)
  refine lv_istore_n (lv' := [(2, .int v1), (0, .ref (ad 121)), (1, .int a1)]) hx hb dX9_carryOut_8 rfl hl (by decide) rfl (fun ls hl => ?_)
  refine lv_aload_n hx hb dX9_carryOut_9 rfl (lv_at hl 1 rfl) ?_
  refine k_get C hH fd_X9_50 oK (k_ref (M := M) (ad := ad) rK6) dX9_carryOut_10 ?_
  refine lv_iload_n hx hb dX9_carryOut_13 rfl (lv_at hl 2 rfl) ?_
  refine lv_iconst (v := 0) hx hb dX9_carryOut_14 (by decide) ?_
  refine kg_io C hH (kc_V C hH w_5_94 lc_yX8_number li_yX8_number oT (kX8_number l E ad M a1 0) (As := [.int a1, .int 0]) rfl dX9_carryOut_15 rfl hl.1 (Nat.le_of_ble_eq_true rfl) ⟨Nat.le_of_ble_eq_true rfl, Nat.le_of_ble_eq_true rfl⟩ ⟨Nat.le_of_ble_eq_true rfl, Nat.le_of_ble_eq_true rfl⟩) ⟨rfl, rfl⟩ (fun v2 H locs hH => ?_)
  refine lv_istore_n (lv' := [(3, .int v2), (2, .int v1), (0, .ref (ad 121)), (1, .int a1)]) hx hb dX9_carryOut_18 rfl hl (by decide) rfl (fun ls hl => ?_)
  refine lv_aload_n hx hb dX9_carryOut_19 rfl (lv_at hl 2 rfl) ?_
  refine k_get C hH fd_X9_50 oK (k_ref (M := M) (ad := ad) rK6) dX9_carryOut_20 ?_
  refine lv_iload_n hx hb dX9_carryOut_23 rfl (lv_at hl 3 rfl) ?_
  refine lv_iconst (v := 1) hx hb dX9_carryOut_24 (by decide) ?_
  refine kg_io C hH (kc_V C hH w_5_94 lc_yX8_number li_yX8_number oT (kX8_number l E ad M a1 1) (As := [.int a1, .int 1]) rfl dX9_carryOut_25 rfl hl.1 (Nat.le_of_ble_eq_true rfl) ⟨Nat.le_of_ble_eq_true rfl, Nat.le_of_ble_eq_true rfl⟩ ⟨Nat.le_of_ble_eq_true rfl, Nat.le_of_ble_eq_true rfl⟩) ⟨rfl, rfl⟩ (fun v3 H locs hH => ?_)
  refine lv_istore (lv' := [(4, .int v3), (3, .int v2), (2, .int v1), (0, .ref (ad 121)), (1, .int a1)]) hx hb dX9_carryOut_28 hl (by decide) rfl (fun ls hl => ?_)
  refine lv_aload_n hx hb dX9_carryOut_30 rfl (lv_at hl 3 rfl) ?_
  refine k_get C hH fd_X9_50 oK (k_ref (M := M) (ad := ad) rK6) dX9_carryOut_31 ?_
  refine lv_iload_n hx hb dX9_carryOut_34 rfl (lv_at hl 4 rfl) ?_
  refine lv_iconst (v := 2) hx hb dX9_carryOut_35 (by decide) ?_
  refine kg_io C hH (kc_V C hH w_5_94 lc_yX8_number li_yX8_number oT (kX8_number l E ad M a1 2) (As := [.int a1, .int 2]) rfl dX9_carryOut_36 rfl hl.1 (Nat.le_of_ble_eq_true rfl) ⟨Nat.le_of_ble_eq_true rfl, Nat.le_of_ble_eq_true rfl⟩ ⟨Nat.le_of_ble_eq_true rfl, Nat.le_of_ble_eq_true rfl⟩) ⟨rfl, rfl⟩ (fun v4 H locs hH => ?_)
  refine lv_istore (lv' := [(5, .int v4), (4, .int v3), (3, .int v2), (2, .int v1), (0, .ref (ad 121)), (1, .int a1)]) hx hb dX9_carryOut_39 hl (by decide) rfl (fun ls hl => ?_)
  refine lv_iload_n hx hb dX9_carryOut_41 rfl (lv_at hl 3 rfl) ?_
  refine lv_bipush (v := 100) hx hb dX9_carryOut_42 (by decide) ?_
  refine kb_icmp_ne (tgt := 61) hx hb dX9_carryOut_44 (by decide) (fun _ => ?_) (fun _ => ?_)
  · refine lv_iload_n hx hb dX9_carryOut_61 rfl (lv_at hl 3 rfl) ?_
    refine lv_bipush (v := 114) hx hb dX9_carryOut_62 (by decide) ?_
    refine kb_icmp_ne (tgt := 94) hx hb dX9_carryOut_64 (by decide) (fun _ => ?_) (fun _ => ?_)
    · refine lv_iload_n hx hb dX9_carryOut_94 rfl (lv_at hl 2 rfl) ?_
      refine lv_iload hx hb dX9_carryOut_95 (lv_at hl 1 rfl) ?_
      refine lv_iload hx hb dX9_carryOut_97 (lv_at hl 0 rfl) ?_
      refine kg_ip C hH (kc_S C hH w_3_81 w_st_yX9_numberOf rfl lc_yX9_numberOf (kX9_numberOf l E ad M v2 v3 v4) (As := [.int v2, .int v3, .int v4]) rfl dX9_carryOut_99 rfl hl.1 (Nat.le_of_ble_eq_true rfl) ⟨Nat.le_of_ble_eq_true rfl, Nat.le_of_ble_eq_true rfl⟩ ⟨Nat.le_of_ble_eq_true rfl, Nat.le_of_ble_eq_true rfl⟩) ⟨rfl, rfl⟩ (fun H locs hH => ?_)
      refine W_nmi (fun v5 => ?_)
      refine lv_istore (lv' := [(6, .int v5), (5, .int v4), (4, .int v3), (3, .int v2), (2, .int v1), (0, .ref (ad 121)), (1, .int a1)]) hx hb dX9_carryOut_102 hl (by decide) rfl (fun ls hl => ?_)
      refine lv_iload_n hx hb dX9_carryOut_104 rfl (lv_at hl 4 rfl) ?_
      refine lv_bipush (v := 43) hx hb dX9_carryOut_105 (by decide) ?_
      refine W_jn (fun (x : Int32 × KS) H locs => KH SK E ad sz x.2 s.heap H locs) (fun x ls => lv_has ls 8 []) (fun x ls => F0 m 125 ls [.int x.1]) ?_ (fun K125_107 hK125_107 => ?_)
      · intro ⟨v6, M7⟩ H locs ls hH hl
        have hH : KH SK E ad sz M7 s.heap H locs := hH
        have hl : lv_has ls 8 [] := hl
        refine W_q fX9_carryOut_J125_107_u ?_
        refine lv_istore (lv' := [(7, .int v6)]) hx hb dX9_carryOut_125 hl (by decide) rfl (fun ls hl => ?_)
        refine lv_iload hx hb dX9_carryOut_127 (lv_at hl 0 rfl) ?_
        refine kb_if_eq (tgt := 136) hx hb dX9_carryOut_129 (by decide) (fun _ => ?_) (fun _ => ?_)
        · refine lv_iconst (v := 1) hx hb dX9_carryOut_136 (by decide) ?_
          exact ke_i C hH hr (Nat.le_refl _) (Nat.le_refl _) rfl dX9_carryOut_137
        · refine lv_iconst (v := 0) hx hb dX9_carryOut_132 (by decide) ?_
          refine lv_goto (tgt := 137) hx hb dX9_carryOut_133 (by decide) ?_
          exact ke_i C hH hr (Nat.le_refl _) (Nat.le_refl _) rfl dX9_carryOut_137
      · refine kb_icmp_ne (tgt := 119) hx hb dX9_carryOut_107 (by decide) (fun _ => ?_) (fun _ => ?_)
        · refine lv_aload_n hx hb dX9_carryOut_119 rfl (lv_at hl 5 rfl) ?_
          refine lv_iload hx hb dX9_carryOut_120 (lv_at hl 0 rfl) ?_
          refine kg_ib C hH (kc_V C hH w_3_135 lc_yX9_takeFact li_yX9_takeFact oK (kX9_takeFact l E ad M v5) (As := [.int v5]) rfl dX9_carryOut_122 rfl hl.1 (Nat.le_of_ble_eq_true rfl) ⟨Nat.le_of_ble_eq_true rfl, Nat.le_of_ble_eq_true rfl⟩ ⟨Nat.le_of_ble_eq_true rfl, Nat.le_of_ble_eq_true rfl⟩) ⟨rfl, rfl⟩ (fun v9 M8 H locs hH => ?_)
          exact hK125_107 (v9, M8) _ _ _ hH (lv_sub hl [] rfl)
        · refine lv_aload_n hx hb dX9_carryOut_110 rfl (lv_at hl 5 rfl) ?_
          refine lv_iload hx hb dX9_carryOut_111 (lv_at hl 0 rfl) ?_
          refine kg_ib C hH (kc_V C hH w_3_82 lc_yX9_addFact li_yX9_addFact oK (kX9_addFact l E ad M v5) (As := [.int v5]) rfl dX9_carryOut_113 rfl hl.1 (Nat.le_of_ble_eq_true rfl) ⟨Nat.le_of_ble_eq_true rfl, Nat.le_of_ble_eq_true rfl⟩ ⟨Nat.le_of_ble_eq_true rfl, Nat.le_of_ble_eq_true rfl⟩) ⟨rfl, rfl⟩ (fun v11 M10 H locs hH => ?_)
          refine lv_goto (tgt := 125) hx hb dX9_carryOut_116 (by decide) ?_
          exact hK125_107 (v11, M10) _ _ _ hH (lv_sub hl [] rfl)
    · refine lv_aload_n hx hb dX9_carryOut_67 rfl (lv_at hl 4 rfl) ?_
      refine lv_iload_n hx hb dX9_carryOut_68 rfl (lv_at hl 2 rfl) ?_
      refine lv_iload hx hb dX9_carryOut_69 (lv_at hl 1 rfl) ?_
      refine lv_iload hx hb dX9_carryOut_71 (lv_at hl 0 rfl) ?_
      refine lv_aload_n hx hb dX9_carryOut_73 rfl (lv_at hl 4 rfl) ?_
      refine k_get C hH fd_X9_50 oK (k_ref (M := M) (ad := ad) rK6) dX9_carryOut_74 ?_
      refine lv_iload_n hx hb dX9_carryOut_77 rfl (lv_at hl 5 rfl) ?_
      refine lv_iconst (v := 3) hx hb dX9_carryOut_78 (by decide) ?_
      refine kg_io C hH (kc_V C hH w_5_94 lc_yX8_number li_yX8_number oT (kX8_number l E ad M a1 3) (As := [.int a1, .int 3]) rfl dX9_carryOut_79 rfl hl.1 (Nat.le_of_ble_eq_true rfl) ⟨Nat.le_of_ble_eq_true rfl, Nat.le_of_ble_eq_true rfl⟩ ⟨Nat.le_of_ble_eq_true rfl, Nat.le_of_ble_eq_true rfl⟩) ⟨rfl, rfl⟩ (fun v12 H locs hH => ?_)
      refine kg_ib C hH (kc_V C hH w_4_76 lc_yX9_addRule li_yX9_addRule oK (kX9_addRule l E ad M v2 v3 v4 v12) (As := [.int v2, .int v3, .int v4, .int v12]) rfl dX9_carryOut_82 rfl hl.1 (Nat.le_of_ble_eq_true rfl) ⟨Nat.le_of_ble_eq_true rfl, Nat.le_of_ble_eq_true rfl⟩ ⟨Nat.le_of_ble_eq_true rfl, Nat.le_of_ble_eq_true rfl⟩) ⟨rfl, rfl⟩ (fun v14 M13 H locs hH => ?_)
      refine kb_if_eq (tgt := 92) hx hb dX9_carryOut_85 (by decide) (fun _ => ?_) (fun _ => ?_)
      · refine lv_iconst (v := 1) hx hb dX9_carryOut_92 (by decide) ?_
        exact ke_i C hH hr (Nat.le_refl _) (Nat.le_refl _) rfl dX9_carryOut_93
      · refine lv_iconst (v := 0) hx hb dX9_carryOut_88 (by decide) ?_
        refine lv_goto (tgt := 93) hx hb dX9_carryOut_89 (by decide) ?_
        exact ke_i C hH hr (Nat.le_refl _) (Nat.le_refl _) rfl dX9_carryOut_93
  · refine lv_aload_n hx hb dX9_carryOut_47 rfl (lv_at hl 4 rfl) ?_
    refine lv_iload_n hx hb dX9_carryOut_48 rfl (lv_at hl 2 rfl) ?_
    refine kg_ib C hH (kc_V C hH w_4_113 lc_yX9_takeRule li_yX9_takeRule oK (kX9_takeRule l E ad M v2) (As := [.int v2]) rfl dX9_carryOut_49 rfl hl.1 (Nat.le_of_ble_eq_true rfl) ⟨Nat.le_of_ble_eq_true rfl, Nat.le_of_ble_eq_true rfl⟩ ⟨Nat.le_of_ble_eq_true rfl, Nat.le_of_ble_eq_true rfl⟩) ⟨rfl, rfl⟩ (fun v16 M15 H locs hH => ?_)
    refine kb_if_eq (tgt := 59) hx hb dX9_carryOut_52 (by decide) (fun _ => ?_) (fun _ => ?_)
    · refine lv_iconst (v := 2) hx hb dX9_carryOut_59 (by decide) ?_
      exact ke_i C hH hr (Nat.le_refl _) (Nat.le_refl _) rfl dX9_carryOut_60
    · refine lv_iconst (v := 0) hx hb dX9_carryOut_55 (by decide) ?_
      refine lv_goto (tgt := 60) hx hb dX9_carryOut_56 (by decide) ?_
      exact ke_i C hH hr (Nat.le_refl _) (Nat.le_refl _) rfl dX9_carryOut_60
def fX5_giveBack (M : KS) (o1 : Nat) : Option (KS) := if inb (M.1 113 1) 9 then (fX7_copy M o1 (2 + (M.1 113 1).toNatClampNeg)).bind fun M2 => some M2 else none
set_option maxHeartbeats 4000000 in
set_option maxRecDepth 100000 in
theorem kX5_giveBack (l : Launch) (E : KE) (ad : Nat → Nat) (M : KS) (o1 : Nat) (ho1 : o1 < 11) : CT l yX5_giveBack cX5_giveBack 3 none { frames := 2, cells := 0, slots := 0, locals := 43 } SK E ad [.ref (ad 113), .ref (ad (iS o1))] M (QV SK E ad) (fX5_giveBack M o1) := by
  refine CT.ofW (by decide) (Nat.le_of_ble_eq_true rfl) (fun sz p e s m args below meth c C hr hH ls hl => ?_)
  have hx := C.1.1
  have hb := C.1.2.1
  have hl : lv_has ls 3 [(0, .ref (ad 113)), (1, .ref (ad (iS o1)))] := hl
  unfold fX5_giveBack
  refine W_if (fun hi1 => ?_)
  refine W_q (show (fX7_copy M o1 (2 + (M.1 113 1).toNatClampNeg)).bind (fun M2 => some M2) = (fX5_marked M).bind (fun M1 => (fX7_copy M1 o1 (2 + (M.1 113 1).toNatClampNeg)).bind (fun M2 => some M2)) from by unfold fX5_marked; rw [if_pos hi1, Option.bind_some]) ?_
  refine lv_aload_n hx hb dX5_giveBack_0 rfl (lv_at hl 0 rfl) ?_
  refine kg_r C hH (kc_V C hH w_3_76 lc_yX5_marked li_yX5_marked oP (kX5_marked l E ad M) (As := []) rfl dX5_giveBack_1 rfl hl.1 (Nat.le_of_ble_eq_true rfl) ⟨Nat.le_of_ble_eq_true rfl, Nat.le_of_ble_eq_true rfl⟩ ⟨Nat.le_of_ble_eq_true rfl, Nat.le_of_ble_eq_true rfl⟩) ⟨rfl, rfl⟩ (fun M1 H locs hH => ?_)
  refine lv_astore_n (lv' := [(2, .ref (ad (iS (2 + (M.1 113 1).toNatClampNeg)))), (0, .ref (ad 113)), (1, .ref (ad (iS o1)))]) hx hb dX5_giveBack_4 rfl hl (by decide) rfl (fun ls hl => ?_)
  refine lv_aload_n hx hb dX5_giveBack_5 rfl (lv_at hl 0 rfl) ?_
  refine lv_ifnull hx hb dX5_giveBack_6 ?_
  refine lv_aload_n hx hb dX5_giveBack_9 rfl (lv_at hl 2 rfl) ?_
  refine lv_aload_n hx hb dX5_giveBack_10 rfl (lv_at hl 0 rfl) ?_
  refine kg_v C hH (kc_V C hH w_3_80 lc_yX7_copy li_yX7_copy (oS (f := o1) ho1) (kX7_copy l E ad M1 o1 ho1 (2 + (M.1 113 1).toNatClampNeg) (bP hi1)) (As := [.ref (ad (iS (2 + (M.1 113 1).toNatClampNeg)))]) rfl dX5_giveBack_11 rfl hl.1 (Nat.le_of_ble_eq_true rfl) ⟨Nat.le_of_ble_eq_true rfl, Nat.le_of_ble_eq_true rfl⟩ ⟨Nat.le_of_ble_eq_true rfl, Nat.le_of_ble_eq_true rfl⟩) ⟨rfl, rfl⟩ (fun M2 H locs hH => ?_)
  exact ke_v C hH hr (Nat.zero_le _) (Nat.zero_le _) rfl dX5_giveBack_14
def fX9_errorPosition_o (M : KS)  : Option (Int32) := some (M.1 121 9)
def fX9_errorPosition (M : KS)  : Int32 := (M.1 121 9)
theorem fX9_errorPosition_s {M : KS}  : fX9_errorPosition_o M = some (fX9_errorPosition M) := by
  unfold fX9_errorPosition_o fX9_errorPosition
  (repeat' split) <;> rfl
set_option maxHeartbeats 4000000 in
set_option maxRecDepth 100000 in
theorem kX9_errorPosition_o (l : Launch) (E : KE) (ad : Nat → Nat) (M : KS)  : CT l yX9_errorPosition cX9_errorPosition 1 (some .int) { frames := 0, cells := 0, slots := 0, locals := 0 } SK E ad [.ref (ad 121)] M (fun sz a => QI SK E ad sz (a, M)) (fX9_errorPosition_o M) := by
  refine CT.ofW (by decide) (Nat.le_of_ble_eq_true rfl) (fun sz p e s m args below meth c C hr hH ls hl => ?_)
  have hx := C.1.1
  have hb := C.1.2.1
  have hl : lv_has ls 1 [(0, .ref (ad 121))] := hl
  unfold fX9_errorPosition_o
  refine lv_aload_n hx hb dX9_errorPosition_0 rfl (lv_at hl 0 rfl) ?_
  refine k_get C hH fd_X9_65 oK (k_int (M := M) (ad := ad) nK9) dX9_errorPosition_1 ?_
  exact ke_i C hH hr (Nat.le_refl _) (Nat.le_refl _) rfl dX9_errorPosition_4
theorem kX9_errorPosition (l : Launch) (E : KE) (ad : Nat → Nat) (M : KS)  : CT l yX9_errorPosition cX9_errorPosition 1 (some .int) { frames := 0, cells := 0, slots := 0, locals := 0 } SK E ad [.ref (ad 121)] M (fun sz (_ : Unit) => QI SK E ad sz (fX9_errorPosition M, M)) (some ()) := CT.pure (kX9_errorPosition_o l E ad M ) fX9_errorPosition_s
def fX1_allRounds_X12 (v4 : Int32) : Option (Int32) := some v4
theorem fX1_allRounds_X12_u {v4 : Int32} : fX1_allRounds_X12 v4 = some v4 := rfl
def fX1_allRounds_L12 (M : KS) (v1 : Int32) (rec12 : (Int32 × Int32) → Option (Int32)) (k12 : (Int32) → Option (Int32)) (x : Int32 × Int32) : Option (Int32) := match x with | (v2, v3) => (if v1 ≤ v3 then k12 v2 else (fX1_roundsOf M v3).bind fun v5 => nm ((v2 + v5)) fun v6 => nm (v3 + 1) fun v7 => rec12 (v6, v7))
theorem fX1_allRounds_L12_u {M : KS} {v1 : Int32} {rec12 : (Int32 × Int32) → Option (Int32)} {k12 : (Int32) → Option (Int32)} {v2 : Int32} {v3 : Int32} : fX1_allRounds_L12 M v1 rec12 k12 (v2, v3) = (if v1 ≤ v3 then k12 v2 else (fX1_roundsOf M v3).bind fun v5 => nm ((v2 + v5)) fun v6 => nm (v3 + 1) fun v7 => rec12 (v6, v7)) := rfl
def fX1_allRounds (M : KS)  : Option (Int32) := (fX3_count M 0).bind fun v1 => lp (fX1_allRounds_L12 M v1) (fX1_allRounds_X12) 1000000 (0, 0)
set_option maxHeartbeats 4000000 in
set_option maxRecDepth 100000 in
theorem kX1_allRounds (l : Launch) (E : KE) (ad : Nat → Nat) (M : KS)  : CT l yX1_allRounds cX1_allRounds 4 (some .int) { frames := 3, cells := 0, slots := 0, locals := 70 } SK E ad [.ref (ad 106)] M (fun sz a => QI SK E ad sz (a, M)) (fX1_allRounds M) := by
  refine CT.ofW (by decide) (Nat.le_of_ble_eq_true rfl) (fun sz p e s m args below meth c C hr hH ls hl => ?_)
  have hx := C.1.1
  have hb := C.1.2.1
  have hl : lv_has ls 4 [(0, .ref (ad 106))] := hl
  unfold fX1_allRounds
  refine lv_iconst (v := 0) hx hb dX1_allRounds_0 (by decide) ?_
  refine lv_istore_n (lv' := [(1, .int 0), (0, .ref (ad 106))]) hx hb dX1_allRounds_1 rfl hl (by decide) rfl (fun ls hl => ?_)
  refine lv_aload_n hx hb dX1_allRounds_2 rfl (lv_at hl 1 rfl) ?_
  refine k_get C hH fd_X1_27 oD (k_ref (M := M) (ad := ad) rD3) dX1_allRounds_3 ?_
  refine kg_io C hH (kc_V C hH w_2_73 lc_yX3_count li_yX3_count (oY (f := 0) (by decide)) (kX3_count l E ad M 0 (by decide)) (As := []) rfl dX1_allRounds_6 rfl hl.1 (Nat.le_of_ble_eq_true rfl) ⟨Nat.le_of_ble_eq_true rfl, Nat.le_of_ble_eq_true rfl⟩ ⟨Nat.le_of_ble_eq_true rfl, Nat.le_of_ble_eq_true rfl⟩) ⟨rfl, rfl⟩ (fun v1 H locs hH => ?_)
  refine lv_istore_n (lv' := [(2, .int v1), (1, .int 0), (0, .ref (ad 106))]) hx hb dX1_allRounds_9 rfl hl (by decide) rfl (fun ls hl => ?_)
  refine lv_iconst (v := 0) hx hb dX1_allRounds_10 (by decide) ?_
  refine lv_istore_n (lv' := [(3, .int 0), (2, .int v1), (1, .int 0), (0, .ref (ad 106))]) hx hb dX1_allRounds_11 rfl hl (by decide) rfl (fun ls hl => ?_)
  refine W_lp (fun (x : Int32 × Int32) H locs => KH SK E ad sz M s.heap H locs) (fun x ls => lv_has ls 4 [(2, .int v1), (0, .ref (ad 106)), (1, .int x.1), (3, .int x.2)]) (fun _ ls => F0 m 12 ls []) (fun (x : Int32) H locs => KH SK E ad sz M s.heap H locs) (fun x ls => lv_has ls 4 [(1, .int x)]) (fun _ ls => F0 m 31 ls []) ?_ ?_ hH (lv_sub hl [1, 3, 2, 0] rfl)
  · intro v4 H locs ls hH hl
    have hH : KH SK E ad sz M s.heap H locs := hH
    have hl : lv_has ls 4 [(1, .int v4)] := hl
    refine W_q fX1_allRounds_X12_u ?_
    refine lv_iload_n hx hb dX1_allRounds_31 rfl (lv_at hl 0 rfl) ?_
    exact ke_i C hH hr (Nat.le_refl _) (Nat.le_refl _) rfl dX1_allRounds_32
  · intro rec12 k12 hrec12 hk12 ⟨v2, v3⟩ H locs ls hH hl
    have hH : KH SK E ad sz M s.heap H locs := hH
    have hl : lv_has ls 4 [(2, .int v1), (0, .ref (ad 106)), (1, .int v2), (3, .int v3)] := hl
    refine W_q fX1_allRounds_L12_u ?_
    refine lv_iload_n hx hb dX1_allRounds_12 rfl (lv_at hl 3 rfl) ?_
    refine lv_iload_n hx hb dX1_allRounds_13 rfl (lv_at hl 0 rfl) ?_
    refine kb_icmp_ge (tgt := 31) hx hb dX1_allRounds_14 (by decide) (fun _ => ?_) (fun _ => ?_)
    · exact hk12 v2 _ _ _ hH (lv_sub hl [2] rfl)
    · refine lv_iload_n hx hb dX1_allRounds_17 rfl (lv_at hl 2 rfl) ?_
      refine lv_aload_n hx hb dX1_allRounds_18 rfl (lv_at hl 1 rfl) ?_
      refine lv_iload_n hx hb dX1_allRounds_19 rfl (lv_at hl 3 rfl) ?_
      refine kg_io C hH (kc_V C hH w_5_123 lc_yX1_roundsOf li_yX1_roundsOf oD (kX1_roundsOf l E ad M v3) (As := [.int v3]) rfl dX1_allRounds_20 rfl hl.1 (Nat.le_of_ble_eq_true rfl) ⟨Nat.le_of_ble_eq_true rfl, Nat.le_of_ble_eq_true rfl⟩ ⟨Nat.le_of_ble_eq_true rfl, Nat.le_of_ble_eq_true rfl⟩) ⟨rfl, rfl⟩ (fun v5 H locs hH => ?_)
      refine lv_iadd hx hb dX1_allRounds_23 ?_
      refine W_nmi (fun v6 => ?_)
      refine lv_istore_n (lv' := [(1, .int v6), (2, .int v1), (0, .ref (ad 106)), (3, .int v3)]) hx hb dX1_allRounds_24 rfl hl (by decide) rfl (fun ls hl => ?_)
      refine W_nm (fun v7 ev7 => ?_)
      refine lv_iinc (v := v7) (lv' := [(3, .int v7), (1, .int v6), (2, .int v1), (0, .ref (ad 106))]) hx hb dX1_allRounds_25 hl (k := 3) rfl (by rw [ev7]; rfl) (by decide) rfl (fun ls hl => ?_)
      refine lv_goto (tgt := 12) hx hb dX1_allRounds_28 (by decide) ?_
      exact hrec12 (v6, v7) _ _ _ hH (lv_sub hl [2, 3, 1, 0] rfl)
def fX1_greatestStage_X4 (v3 : Int32) : Option (Int32) := some v3
theorem fX1_greatestStage_X4_u {v3 : Int32} : fX1_greatestStage_X4 v3 = some v3 := rfl
def fX1_greatestStage_L4 (M : KS) (rec4 : (Int32 × Int32) → Option (Int32)) (k4 : (Int32) → Option (Int32)) (x : Int32 × Int32) : Option (Int32) := match x with | (v1, v2) => (if 216 ≤ v2 then k4 v1 else if inb v2 216 then nm ((jmax v1 (M.1 107 v2.toNatClampNeg))) fun v4 => nm (v2 + 1) fun v5 => rec4 (v4, v5) else none)
theorem fX1_greatestStage_L4_u {M : KS} {rec4 : (Int32 × Int32) → Option (Int32)} {k4 : (Int32) → Option (Int32)} {v1 : Int32} {v2 : Int32} : fX1_greatestStage_L4 M rec4 k4 (v1, v2) = (if 216 ≤ v2 then k4 v1 else if inb v2 216 then nm ((jmax v1 (M.1 107 v2.toNatClampNeg))) fun v4 => nm (v2 + 1) fun v5 => rec4 (v4, v5) else none) := rfl
def fX1_greatestStage (M : KS)  : Option (Int32) := lp (fX1_greatestStage_L4 M) (fX1_greatestStage_X4) 1000000 (0, 0)
set_option maxHeartbeats 4000000 in
set_option maxRecDepth 100000 in
theorem kX1_greatestStage (l : Launch) (E : KE) (ad : Nat → Nat) (M : KS)  : CT l yX1_greatestStage cX1_greatestStage 3 (some .int) { frames := 1, cells := 0, slots := 0, locals := 24 } SK E ad [.ref (ad 106)] M (fun sz a => QI SK E ad sz (a, M)) (fX1_greatestStage M) := by
  refine CT.ofW (by decide) (Nat.le_of_ble_eq_true rfl) (fun sz p e s m args below meth c C hr hH ls hl => ?_)
  have hx := C.1.1
  have hb := C.1.2.1
  have hl : lv_has ls 3 [(0, .ref (ad 106))] := hl
  unfold fX1_greatestStage
  refine lv_iconst (v := 0) hx hb dX1_greatestStage_0 (by decide) ?_
  refine lv_istore_n (lv' := [(1, .int 0), (0, .ref (ad 106))]) hx hb dX1_greatestStage_1 rfl hl (by decide) rfl (fun ls hl => ?_)
  refine lv_iconst (v := 0) hx hb dX1_greatestStage_2 (by decide) ?_
  refine lv_istore_n (lv' := [(2, .int 0), (1, .int 0), (0, .ref (ad 106))]) hx hb dX1_greatestStage_3 rfl hl (by decide) rfl (fun ls hl => ?_)
  refine W_lp (fun (x : Int32 × Int32) H locs => KH SK E ad sz M s.heap H locs) (fun x ls => lv_has ls 3 [(0, .ref (ad 106)), (1, .int x.1), (2, .int x.2)]) (fun _ ls => F0 m 4 ls []) (fun (x : Int32) H locs => KH SK E ad sz M s.heap H locs) (fun x ls => lv_has ls 3 [(1, .int x)]) (fun _ ls => F0 m 28 ls []) ?_ ?_ hH (lv_sub hl [2, 1, 0] rfl)
  · intro v3 H locs ls hH hl
    have hH : KH SK E ad sz M s.heap H locs := hH
    have hl : lv_has ls 3 [(1, .int v3)] := hl
    refine W_q fX1_greatestStage_X4_u ?_
    refine lv_iload_n hx hb dX1_greatestStage_28 rfl (lv_at hl 0 rfl) ?_
    exact ke_i C hH hr (Nat.le_refl _) (Nat.le_refl _) rfl dX1_greatestStage_29
  · intro rec4 k4 hrec4 hk4 ⟨v1, v2⟩ H locs ls hH hl
    have hH : KH SK E ad sz M s.heap H locs := hH
    have hl : lv_has ls 3 [(0, .ref (ad 106)), (1, .int v1), (2, .int v2)] := hl
    refine W_q fX1_greatestStage_L4_u ?_
    refine lv_iload_n hx hb dX1_greatestStage_4 rfl (lv_at hl 2 rfl) ?_
    refine lv_sipush (v := 216) hx hb dX1_greatestStage_5 (by decide) ?_
    refine kb_icmp_ge (tgt := 28) hx hb dX1_greatestStage_8 (by decide) (fun _ => ?_) (fun _ => ?_)
    · exact hk4 v1 _ _ _ hH (lv_sub hl [1] rfl)
    · refine lv_iload_n hx hb dX1_greatestStage_11 rfl (lv_at hl 1 rfl) ?_
      refine lv_aload_n hx hb dX1_greatestStage_12 rfl (lv_at hl 0 rfl) ?_
      refine k_get C hH fd_X1_31 oD (k_ref (M := M) (ad := ad) rD4) dX1_greatestStage_13 ?_
      refine lv_iload_n hx hb dX1_greatestStage_16 rfl (lv_at hl 2 rfl) ?_
      refine k_iald C hH aD4 dX1_greatestStage_17 ?_
      refine k_mmax C w_2_144 hl.1 (Nat.le_of_ble_eq_true rfl) (Nat.le_of_ble_eq_true rfl) ⟨Nat.zero_le _, Nat.zero_le _⟩ dX1_greatestStage_18 ?_
      refine W_nmi (fun v4 => ?_)
      refine lv_istore_n (lv' := [(1, .int v4), (0, .ref (ad 106)), (2, .int v2)]) hx hb dX1_greatestStage_21 rfl hl (by decide) rfl (fun ls hl => ?_)
      refine W_nm (fun v5 ev5 => ?_)
      refine lv_iinc (v := v5) (lv' := [(2, .int v5), (1, .int v4), (0, .ref (ad 106))]) hx hb dX1_greatestStage_22 hl (k := 2) rfl (by rw [ev5]; rfl) (by decide) rfl (fun ls hl => ?_)
      refine lv_goto (tgt := 4) hx hb dX1_greatestStage_25 (by decide) ?_
      exact hrec4 (v4, v5) _ _ _ hH (lv_sub hl [2, 1, 0] rfl)
