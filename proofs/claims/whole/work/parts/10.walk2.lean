def fX1_greatestDepth_X4 (v3 : Int32) : Option (Int32) := some v3
theorem fX1_greatestDepth_X4_u {v3 : Int32} : fX1_greatestDepth_X4 v3 = some v3 := rfl
def fX1_greatestDepth_L4 (M : KS) (rec4 : (Int32 × Int32) → Option (Int32)) (k4 : (Int32) → Option (Int32)) (x : Int32 × Int32) : Option (Int32) := match x with | (v1, v2) => (if 216 ≤ v2 then k4 v1 else if inb v2 216 then nm ((jmax v1 (M.1 110 v2.toNatClampNeg))) fun v4 => nm (v2 + 1) fun v5 => rec4 (v4, v5) else none)
theorem fX1_greatestDepth_L4_u {M : KS} {rec4 : (Int32 × Int32) → Option (Int32)} {k4 : (Int32) → Option (Int32)} {v1 : Int32} {v2 : Int32} : fX1_greatestDepth_L4 M rec4 k4 (v1, v2) = (if 216 ≤ v2 then k4 v1 else if inb v2 216 then nm ((jmax v1 (M.1 110 v2.toNatClampNeg))) fun v4 => nm (v2 + 1) fun v5 => rec4 (v4, v5) else none) := rfl
def fX1_greatestDepth (M : KS)  : Option (Int32) := lp (fX1_greatestDepth_L4 M) (fX1_greatestDepth_X4) 1000000 (0, 0)
set_option maxHeartbeats 4000000 in
set_option maxRecDepth 100000 in
theorem kX1_greatestDepth (l : Launch) (E : KE) (ad : Nat → Nat) (M : KS)  : CT l yX1_greatestDepth cX1_greatestDepth 3 (some .int) { frames := 1, cells := 0, slots := 0, locals := 24 } SK E ad [.ref (ad 106)] M (fun sz a => QI SK E ad sz (a, M)) (fX1_greatestDepth M) := by
  refine CT.ofW (by decide) (Nat.le_of_ble_eq_true rfl) (fun sz p e s m args below meth c C hr hH ls hl => ?_)
  have hx := C.1.1
  have hb := C.1.2.1
  have hl : lv_has ls 3 [(0, .ref (ad 106))] := hl
  unfold fX1_greatestDepth
  refine lv_iconst (v := 0) hx hb dX1_greatestDepth_0 (by decide) ?_
  refine lv_istore_n (lv' := [(1, .int 0), (0, .ref (ad 106))]) hx hb dX1_greatestDepth_1 rfl hl (by decide) rfl (fun ls hl => ?_)
  refine lv_iconst (v := 0) hx hb dX1_greatestDepth_2 (by decide) ?_
  refine lv_istore_n (lv' := [(2, .int 0), (1, .int 0), (0, .ref (ad 106))]) hx hb dX1_greatestDepth_3 rfl hl (by decide) rfl (fun ls hl => ?_)
  refine W_lp (fun (x : Int32 × Int32) H locs => KH SK E ad sz M s.heap H locs) (fun x ls => lv_has ls 3 [(0, .ref (ad 106)), (1, .int x.1), (2, .int x.2)]) (fun _ ls => F0 m 4 ls []) (fun (x : Int32) H locs => KH SK E ad sz M s.heap H locs) (fun x ls => lv_has ls 3 [(1, .int x)]) (fun _ ls => F0 m 28 ls []) ?_ ?_ hH (lv_sub hl [2, 1, 0] rfl)
  · intro v3 H locs ls hH hl
    have hH : KH SK E ad sz M s.heap H locs := hH
    have hl : lv_has ls 3 [(1, .int v3)] := hl
    refine W_q fX1_greatestDepth_X4_u ?_
    refine lv_iload_n hx hb dX1_greatestDepth_28 rfl (lv_at hl 0 rfl) ?_
    exact ke_i C hH hr (Nat.le_refl _) (Nat.le_refl _) rfl dX1_greatestDepth_29
  · intro rec4 k4 hrec4 hk4 ⟨v1, v2⟩ H locs ls hH hl
    have hH : KH SK E ad sz M s.heap H locs := hH
    have hl : lv_has ls 3 [(0, .ref (ad 106)), (1, .int v1), (2, .int v2)] := hl
    refine W_q fX1_greatestDepth_L4_u ?_
    refine lv_iload_n hx hb dX1_greatestDepth_4 rfl (lv_at hl 2 rfl) ?_
    refine lv_sipush (v := 216) hx hb dX1_greatestDepth_5 (by decide) ?_
    refine kb_icmp_ge (tgt := 28) hx hb dX1_greatestDepth_8 (by decide) (fun _ => ?_) (fun _ => ?_)
    · exact hk4 v1 _ _ _ hH (lv_sub hl [1] rfl)
    · refine lv_iload_n hx hb dX1_greatestDepth_11 rfl (lv_at hl 1 rfl) ?_
      refine lv_aload_n hx hb dX1_greatestDepth_12 rfl (lv_at hl 0 rfl) ?_
      refine k_get C hH fd_X1_41 oD (k_ref (M := M) (ad := ad) rD7) dX1_greatestDepth_13 ?_
      refine lv_iload_n hx hb dX1_greatestDepth_16 rfl (lv_at hl 2 rfl) ?_
      refine k_iald C hH aD7 dX1_greatestDepth_17 ?_
      refine k_mmax C w_2_144 hl.1 (Nat.le_of_ble_eq_true rfl) (Nat.le_of_ble_eq_true rfl) ⟨Nat.zero_le _, Nat.zero_le _⟩ dX1_greatestDepth_18 ?_
      refine W_nmi (fun v4 => ?_)
      refine lv_istore_n (lv' := [(1, .int v4), (0, .ref (ad 106)), (2, .int v2)]) hx hb dX1_greatestDepth_21 rfl hl (by decide) rfl (fun ls hl => ?_)
      refine W_nm (fun v5 ev5 => ?_)
      refine lv_iinc (v := v5) (lv' := [(2, .int v5), (1, .int v4), (0, .ref (ad 106))]) hx hb dX1_greatestDepth_22 hl (k := 2) rfl (by rw [ev5]; rfl) (by decide) rfl (fun ls hl => ?_)
      refine lv_goto (tgt := 4) hx hb dX1_greatestDepth_25 (by decide) ?_
      exact hrec4 (v4, v5) _ _ _ hH (lv_sub hl [2, 1, 0] rfl)
def fX1_greatestSize_X4 (v3 : Int32) : Option (Int32) := some v3
theorem fX1_greatestSize_X4_u {v3 : Int32} : fX1_greatestSize_X4 v3 = some v3 := rfl
def fX1_greatestSize_L4 (M : KS) (rec4 : (Int32 × Int32) → Option (Int32)) (k4 : (Int32) → Option (Int32)) (x : Int32 × Int32) : Option (Int32) := match x with | (v1, v2) => (if 216 ≤ v2 then k4 v1 else (fX2_has M 11 v2).bind fun v4 => (if v4 = 0 then nm (v2 + 1) fun v5 => rec4 (v1, v5) else (fX1_sizeOf M v2).bind fun v6 => nm ((jmax v1 v6)) fun v7 => nm (v2 + 1) fun v8 => rec4 (v7, v8)))
theorem fX1_greatestSize_L4_u {M : KS} {rec4 : (Int32 × Int32) → Option (Int32)} {k4 : (Int32) → Option (Int32)} {v1 : Int32} {v2 : Int32} : fX1_greatestSize_L4 M rec4 k4 (v1, v2) = (if 216 ≤ v2 then k4 v1 else (fX2_has M 11 v2).bind fun v4 => (if v4 = 0 then nm (v2 + 1) fun v5 => rec4 (v1, v5) else (fX1_sizeOf M v2).bind fun v6 => nm ((jmax v1 v6)) fun v7 => nm (v2 + 1) fun v8 => rec4 (v7, v8))) := rfl
def fX1_greatestSize (M : KS)  : Option (Int32) := lp (fX1_greatestSize_L4 M) (fX1_greatestSize_X4) 1000000 (0, 0)
set_option maxHeartbeats 4000000 in
set_option maxRecDepth 100000 in
theorem kX1_greatestSize (l : Launch) (E : KE) (ad : Nat → Nat) (M : KS)  : CT l yX1_greatestSize cX1_greatestSize 3 (some .int) { frames := 2, cells := 0, slots := 0, locals := 44 } SK E ad [.ref (ad 106)] M (fun sz a => QI SK E ad sz (a, M)) (fX1_greatestSize M) := by
  refine CT.ofW (by decide) (Nat.le_of_ble_eq_true rfl) (fun sz p e s m args below meth c C hr hH ls hl => ?_)
  have hx := C.1.1
  have hb := C.1.2.1
  have hl : lv_has ls 3 [(0, .ref (ad 106))] := hl
  unfold fX1_greatestSize
  refine lv_iconst (v := 0) hx hb dX1_greatestSize_0 (by decide) ?_
  refine lv_istore_n (lv' := [(1, .int 0), (0, .ref (ad 106))]) hx hb dX1_greatestSize_1 rfl hl (by decide) rfl (fun ls hl => ?_)
  refine lv_iconst (v := 0) hx hb dX1_greatestSize_2 (by decide) ?_
  refine lv_istore_n (lv' := [(2, .int 0), (1, .int 0), (0, .ref (ad 106))]) hx hb dX1_greatestSize_3 rfl hl (by decide) rfl (fun ls hl => ?_)
  refine W_lp (fun (x : Int32 × Int32) H locs => KH SK E ad sz M s.heap H locs) (fun x ls => lv_has ls 3 [(0, .ref (ad 106)), (1, .int x.1), (2, .int x.2)]) (fun _ ls => F0 m 4 ls []) (fun (x : Int32) H locs => KH SK E ad sz M s.heap H locs) (fun x ls => lv_has ls 3 [(1, .int x)]) (fun _ ls => F0 m 38 ls []) ?_ ?_ hH (lv_sub hl [2, 1, 0] rfl)
  · intro v3 H locs ls hH hl
    have hH : KH SK E ad sz M s.heap H locs := hH
    have hl : lv_has ls 3 [(1, .int v3)] := hl
    refine W_q fX1_greatestSize_X4_u ?_
    refine lv_iload_n hx hb dX1_greatestSize_38 rfl (lv_at hl 0 rfl) ?_
    exact ke_i C hH hr (Nat.le_refl _) (Nat.le_refl _) rfl dX1_greatestSize_39
  · intro rec4 k4 hrec4 hk4 ⟨v1, v2⟩ H locs ls hH hl
    have hH : KH SK E ad sz M s.heap H locs := hH
    have hl : lv_has ls 3 [(0, .ref (ad 106)), (1, .int v1), (2, .int v2)] := hl
    refine W_q fX1_greatestSize_L4_u ?_
    refine lv_iload_n hx hb dX1_greatestSize_4 rfl (lv_at hl 2 rfl) ?_
    refine lv_sipush (v := 216) hx hb dX1_greatestSize_5 (by decide) ?_
    refine kb_icmp_ge (tgt := 38) hx hb dX1_greatestSize_8 (by decide) (fun _ => ?_) (fun _ => ?_)
    · exact hk4 v1 _ _ _ hH (lv_sub hl [1] rfl)
    · refine lv_aload_n hx hb dX1_greatestSize_11 rfl (lv_at hl 0 rfl) ?_
      refine k_get C hH fd_X1_12 oD (k_ref (M := M) (ad := ad) rD0) dX1_greatestSize_12 ?_
      refine lv_iload_n hx hb dX1_greatestSize_15 rfl (lv_at hl 2 rfl) ?_
      refine kg_io C hH (kc_V C hH w_2_84 lc_yX2_has li_yX2_has (oF (f := 11) (by decide)) (kX2_has l E ad M 11 (by decide) v2) (As := [.int v2]) rfl dX1_greatestSize_16 rfl hl.1 (Nat.le_of_ble_eq_true rfl) ⟨Nat.le_of_ble_eq_true rfl, Nat.le_of_ble_eq_true rfl⟩ ⟨Nat.le_of_ble_eq_true rfl, Nat.le_of_ble_eq_true rfl⟩) ⟨rfl, rfl⟩ (fun v4 H locs hH => ?_)
      refine kb_if_eq (tgt := 32) hx hb dX1_greatestSize_19 (by decide) (fun _ => ?_) (fun _ => ?_)
      · refine W_nm (fun v5 ev5 => ?_)
        refine lv_iinc (v := v5) (lv' := [(2, .int v5), (0, .ref (ad 106)), (1, .int v1)]) hx hb dX1_greatestSize_32 hl (k := 2) rfl (by rw [ev5]; rfl) (by decide) rfl (fun ls hl => ?_)
        refine lv_goto (tgt := 4) hx hb dX1_greatestSize_35 (by decide) ?_
        exact hrec4 (v1, v5) _ _ _ hH (lv_sub hl [1, 2, 0] rfl)
      · refine lv_iload_n hx hb dX1_greatestSize_22 rfl (lv_at hl 1 rfl) ?_
        refine lv_aload_n hx hb dX1_greatestSize_23 rfl (lv_at hl 0 rfl) ?_
        refine lv_iload_n hx hb dX1_greatestSize_24 rfl (lv_at hl 2 rfl) ?_
        refine kg_io C hH (kc_V C hH w_5_136 lc_yX1_sizeOf li_yX1_sizeOf oD (kX1_sizeOf l E ad M v2) (As := [.int v2]) rfl dX1_greatestSize_25 rfl hl.1 (Nat.le_of_ble_eq_true rfl) ⟨Nat.le_of_ble_eq_true rfl, Nat.le_of_ble_eq_true rfl⟩ ⟨Nat.le_of_ble_eq_true rfl, Nat.le_of_ble_eq_true rfl⟩) ⟨rfl, rfl⟩ (fun v6 H locs hH => ?_)
        refine k_mmax C w_2_144 hl.1 (Nat.le_of_ble_eq_true rfl) (Nat.le_of_ble_eq_true rfl) ⟨Nat.zero_le _, Nat.zero_le _⟩ dX1_greatestSize_28 ?_
        refine W_nmi (fun v7 => ?_)
        refine lv_istore_n (lv' := [(1, .int v7), (0, .ref (ad 106)), (2, .int v2)]) hx hb dX1_greatestSize_31 rfl hl (by decide) rfl (fun ls hl => ?_)
        refine W_nm (fun v8 ev8 => ?_)
        refine lv_iinc (v := v8) (lv' := [(2, .int v8), (1, .int v7), (0, .ref (ad 106))]) hx hb dX1_greatestSize_32 hl (k := 2) rfl (by rw [ev8]; rfl) (by decide) rfl (fun ls hl => ?_)
        refine lv_goto (tgt := 4) hx hb dX1_greatestSize_35 (by decide) ?_
        exact hrec4 (v7, v8) _ _ _ hH (lv_sub hl [2, 1, 0] rfl)
def fX6_negated_X4 (v3 : Int32) : Option (Int32) := some v3
theorem fX6_negated_X4_u {v3 : Int32} : fX6_negated_X4 v3 = some v3 := rfl
def fX6_negated_X14 (v2 : Int32) (rec4 : (Int32 × Int32) → Option (Int32)) (v6 : Int32) : Option (Int32) := nm (v2 + 1) fun v7 => rec4 (v6, v7)
theorem fX6_negated_X14_u {v2 : Int32} {rec4 : (Int32 × Int32) → Option (Int32)} {v6 : Int32} : fX6_negated_X14 v2 rec4 v6 = nm (v2 + 1) fun v7 => rec4 (v6, v7) := rfl
def fX6_negated_L14 (M : KS) (o0 : Nat) (v2 : Int32) (rec14 : (Int32 × Int32) → Option (Int32)) (k14 : (Int32) → Option (Int32)) (x : Int32 × Int32) : Option (Int32) := match x with | (v4, v5) => (if 3 ≤ v5 then k14 v4 else (fX6_code M o0 v2 v5).bind fun v8 => (if 0 ≤ v8 then nm (v5 + 1) fun v9 => rec14 (v4, v9) else nm (v4 + 1) fun v10 => nm (v5 + 1) fun v11 => rec14 (v10, v11)))
theorem fX6_negated_L14_u {M : KS} {o0 : Nat} {v2 : Int32} {rec14 : (Int32 × Int32) → Option (Int32)} {k14 : (Int32) → Option (Int32)} {v4 : Int32} {v5 : Int32} : fX6_negated_L14 M o0 v2 rec14 k14 (v4, v5) = (if 3 ≤ v5 then k14 v4 else (fX6_code M o0 v2 v5).bind fun v8 => (if 0 ≤ v8 then nm (v5 + 1) fun v9 => rec14 (v4, v9) else nm (v4 + 1) fun v10 => nm (v5 + 1) fun v11 => rec14 (v10, v11))) := rfl
def fX6_negated_L4 (M : KS) (o0 : Nat) (rec4 : (Int32 × Int32) → Option (Int32)) (k4 : (Int32) → Option (Int32)) (x : Int32 × Int32) : Option (Int32) := match x with | (v1, v2) => (if (M.1 (iR o0) 3) ≤ v2 then k4 v1 else lp (fX6_negated_L14 M o0 v2) (fX6_negated_X14 v2 rec4) 1000000 (v1, 0))
theorem fX6_negated_L4_u {M : KS} {o0 : Nat} {rec4 : (Int32 × Int32) → Option (Int32)} {k4 : (Int32) → Option (Int32)} {v1 : Int32} {v2 : Int32} : fX6_negated_L4 M o0 rec4 k4 (v1, v2) = (if (M.1 (iR o0) 3) ≤ v2 then k4 v1 else lp (fX6_negated_L14 M o0 v2) (fX6_negated_X14 v2 rec4) 1000000 (v1, 0)) := rfl
def fX6_negated (M : KS) (o0 : Nat) : Option (Int32) := lp (fX6_negated_L4 M o0) (fX6_negated_X4) 1000000 (0, 0)
set_option maxHeartbeats 4000000 in
set_option maxRecDepth 100000 in
theorem kX6_negated (l : Launch) (E : KE) (ad : Nat → Nat) (M : KS) (o0 : Nat) (ho0 : o0 < 11) : CT l yX6_negated cX6_negated 4 (some .int) { frames := 1, cells := 0, slots := 0, locals := 22 } SK E ad [.ref (ad (iR o0))] M (fun sz a => QI SK E ad sz (a, M)) (fX6_negated M o0) := by
  refine CT.ofW (by decide) (Nat.le_of_ble_eq_true rfl) (fun sz p e s m args below meth c C hr hH ls hl => ?_)
  have hx := C.1.1
  have hb := C.1.2.1
  have hl : lv_has ls 4 [(0, .ref (ad (iR o0)))] := hl
  unfold fX6_negated
  refine lv_iconst (v := 0) hx hb dX6_negated_0 (by decide) ?_
  refine lv_istore_n (lv' := [(1, .int 0), (0, .ref (ad (iR o0)))]) hx hb dX6_negated_1 rfl hl (by decide) rfl (fun ls hl => ?_)
  refine lv_iconst (v := 0) hx hb dX6_negated_2 (by decide) ?_
  refine lv_istore_n (lv' := [(2, .int 0), (1, .int 0), (0, .ref (ad (iR o0)))]) hx hb dX6_negated_3 rfl hl (by decide) rfl (fun ls hl => ?_)
  refine W_lp (fun (x : Int32 × Int32) H locs => KH SK E ad sz M s.heap H locs) (fun x ls => lv_has ls 4 [(0, .ref (ad (iR o0))), (1, .int x.1), (2, .int x.2)]) (fun _ ls => F0 m 4 ls []) (fun (x : Int32) H locs => KH SK E ad sz M s.heap H locs) (fun x ls => lv_has ls 4 [(1, .int x)]) (fun _ ls => F0 m 43 ls []) ?_ ?_ hH (lv_sub hl [2, 1, 0] rfl)
  · intro v3 H locs ls hH hl
    have hH : KH SK E ad sz M s.heap H locs := hH
    have hl : lv_has ls 4 [(1, .int v3)] := hl
    refine W_q fX6_negated_X4_u ?_
    refine lv_iload_n hx hb dX6_negated_43 rfl (lv_at hl 0 rfl) ?_
    exact ke_i C hH hr (Nat.le_refl _) (Nat.le_refl _) rfl dX6_negated_44
  · intro rec4 k4 hrec4 hk4 ⟨v1, v2⟩ H locs ls hH hl
    have hH : KH SK E ad sz M s.heap H locs := hH
    have hl : lv_has ls 4 [(0, .ref (ad (iR o0))), (1, .int v1), (2, .int v2)] := hl
    refine W_q fX6_negated_L4_u ?_
    refine lv_iload_n hx hb dX6_negated_4 rfl (lv_at hl 2 rfl) ?_
    refine lv_aload_n hx hb dX6_negated_5 rfl (lv_at hl 0 rfl) ?_
    refine k_get C hH fd_X6_21 (oR (f := o0) ho0) (k_int (M := M) (ad := ad) (nR3 (f := o0) ho0)) dX6_negated_6 ?_
    refine kb_icmp_ge (tgt := 43) hx hb dX6_negated_9 (by decide) (fun _ => ?_) (fun _ => ?_)
    · exact hk4 v1 _ _ _ hH (lv_sub hl [1] rfl)
    · refine lv_iconst (v := 0) hx hb dX6_negated_12 (by decide) ?_
      refine lv_istore_n (lv' := [(3, .int 0), (0, .ref (ad (iR o0))), (1, .int v1), (2, .int v2)]) hx hb dX6_negated_13 rfl hl (by decide) rfl (fun ls hl => ?_)
      refine W_lp (fun (x : Int32 × Int32) H locs => KH SK E ad sz M s.heap H locs) (fun x ls => lv_has ls 4 [(0, .ref (ad (iR o0))), (2, .int v2), (1, .int x.1), (3, .int x.2)]) (fun _ ls => F0 m 14 ls []) (fun (x : Int32) H locs => KH SK E ad sz M s.heap H locs) (fun x ls => lv_has ls 4 [(0, .ref (ad (iR o0))), (2, .int v2), (1, .int x)]) (fun _ ls => F0 m 37 ls []) ?_ ?_ hH (lv_sub hl [1, 3, 2, 0] rfl)
      · intro v6 H locs ls hH hl
        have hH : KH SK E ad sz M s.heap H locs := hH
        have hl : lv_has ls 4 [(0, .ref (ad (iR o0))), (2, .int v2), (1, .int v6)] := hl
        refine W_q fX6_negated_X14_u ?_
        refine W_nm (fun v7 ev7 => ?_)
        refine lv_iinc (v := v7) (lv' := [(2, .int v7), (0, .ref (ad (iR o0))), (1, .int v6)]) hx hb dX6_negated_37 hl (k := 1) rfl (by rw [ev7]; rfl) (by decide) rfl (fun ls hl => ?_)
        refine lv_goto (tgt := 4) hx hb dX6_negated_40 (by decide) ?_
        exact hrec4 (v6, v7) _ _ _ hH (lv_sub hl [1, 2, 0] rfl)
      · intro rec14 k14 hrec14 hk14 ⟨v4, v5⟩ H locs ls hH hl
        have hH : KH SK E ad sz M s.heap H locs := hH
        have hl : lv_has ls 4 [(0, .ref (ad (iR o0))), (2, .int v2), (1, .int v4), (3, .int v5)] := hl
        refine W_q fX6_negated_L14_u ?_
        refine lv_iload_n hx hb dX6_negated_14 rfl (lv_at hl 3 rfl) ?_
        refine lv_iconst (v := 3) hx hb dX6_negated_15 (by decide) ?_
        refine kb_icmp_ge (tgt := 37) hx hb dX6_negated_16 (by decide) (fun _ => ?_) (fun _ => ?_)
        · exact hk14 v4 _ _ _ hH (lv_sub hl [0, 1, 2] rfl)
        · refine lv_aload_n hx hb dX6_negated_19 rfl (lv_at hl 0 rfl) ?_
          refine lv_iload_n hx hb dX6_negated_20 rfl (lv_at hl 1 rfl) ?_
          refine lv_iload_n hx hb dX6_negated_21 rfl (lv_at hl 3 rfl) ?_
          refine kg_io C hH (kc_V C hH w_2_92 lc_yX6_code li_yX6_code (oR (f := o0) ho0) (kX6_code l E ad M o0 ho0 v2 v5) (As := [.int v2, .int v5]) rfl dX6_negated_22 rfl hl.1 (Nat.le_of_ble_eq_true rfl) ⟨Nat.le_of_ble_eq_true rfl, Nat.le_of_ble_eq_true rfl⟩ ⟨Nat.le_of_ble_eq_true rfl, Nat.le_of_ble_eq_true rfl⟩) ⟨rfl, rfl⟩ (fun v8 H locs hH => ?_)
          refine kb_if_ge (tgt := 31) hx hb dX6_negated_25 (by decide) (fun _ => ?_) (fun _ => ?_)
          · refine W_nm (fun v9 ev9 => ?_)
            refine lv_iinc (v := v9) (lv' := [(3, .int v9), (0, .ref (ad (iR o0))), (2, .int v2), (1, .int v4)]) hx hb dX6_negated_31 hl (k := 3) rfl (by rw [ev9]; rfl) (by decide) rfl (fun ls hl => ?_)
            refine lv_goto (tgt := 14) hx hb dX6_negated_34 (by decide) ?_
            exact hrec14 (v4, v9) _ _ _ hH (lv_sub hl [1, 2, 3, 0] rfl)
          · refine W_nm (fun v10 ev10 => ?_)
            refine lv_iinc (v := v10) (lv' := [(1, .int v10), (0, .ref (ad (iR o0))), (2, .int v2), (3, .int v5)]) hx hb dX6_negated_28 hl (k := 2) rfl (by rw [ev10]; rfl) (by decide) rfl (fun ls hl => ?_)
            refine W_nm (fun v11 ev11 => ?_)
            refine lv_iinc (v := v11) (lv' := [(3, .int v11), (1, .int v10), (0, .ref (ad (iR o0))), (2, .int v2)]) hx hb dX6_negated_31 hl (k := 3) rfl (by rw [ev11]; rfl) (by decide) rfl (fun ls hl => ?_)
            refine lv_goto (tgt := 14) hx hb dX6_negated_34 (by decide) ?_
            exact hrec14 (v10, v11) _ _ _ hH (lv_sub hl [2, 3, 1, 0] rfl)
def fX2_isSame_X2 (_ : Unit) : Option (Int32) := some 1
theorem fX2_isSame_X2_u {u : Unit} : fX2_isSame_X2 u = some 1 := rfl
def fX2_isSame_L2 (M : KS) (o0 : Nat) (o1 : Nat) (rec2 : (Int32) → Option (Int32)) (k2 : (Unit) → Option (Int32)) (v1 : Int32) : Option (Int32) := (if 36 ≤ v1 then k2 () else if inb v1 36 then if inb v1 36 then (if (M.1 (iFt o0) v1.toNatClampNeg) = (M.1 (iFt o1) v1.toNatClampNeg) then if inb v1 36 then if inb v1 36 then (if (M.1 (iFf o0) v1.toNatClampNeg) = (M.1 (iFf o1) v1.toNatClampNeg) then nm (v1 + 1) fun v2 => rec2 v2 else some 0) else none else none else some 0) else none else none)
theorem fX2_isSame_L2_u {M : KS} {o0 : Nat} {o1 : Nat} {rec2 : (Int32) → Option (Int32)} {k2 : (Unit) → Option (Int32)} {v1 : Int32} : fX2_isSame_L2 M o0 o1 rec2 k2 v1 = (if 36 ≤ v1 then k2 () else if inb v1 36 then if inb v1 36 then (if (M.1 (iFt o0) v1.toNatClampNeg) = (M.1 (iFt o1) v1.toNatClampNeg) then if inb v1 36 then if inb v1 36 then (if (M.1 (iFf o0) v1.toNatClampNeg) = (M.1 (iFf o1) v1.toNatClampNeg) then nm (v1 + 1) fun v2 => rec2 v2 else some 0) else none else none else some 0) else none else none) := rfl
def fX2_isSame (M : KS) (o0 : Nat) (o1 : Nat) : Option (Int32) := lp (fX2_isSame_L2 M o0 o1) (fX2_isSame_X2) 1000000 0
set_option maxHeartbeats 4000000 in
set_option maxRecDepth 100000 in
theorem kX2_isSame (l : Launch) (E : KE) (ad : Nat → Nat) (M : KS) (o0 : Nat) (ho0 : o0 < 15) (o1 : Nat) (ho1 : o1 < 15) : CT l yX2_isSame cX2_isSame 3 (some .boolean) { frames := 0, cells := 0, slots := 0, locals := 0 } SK E ad [.ref (ad (iF o0)), .ref (ad (iF o1))] M (fun sz a => QI SK E ad sz (a, M)) (fX2_isSame M o0 o1) := by
  refine CT.ofW (by decide) (Nat.le_of_ble_eq_true rfl) (fun sz p e s m args below meth c C hr hH ls hl => ?_)
  have hx := C.1.1
  have hb := C.1.2.1
  have hl : lv_has ls 3 [(0, .ref (ad (iF o0))), (1, .ref (ad (iF o1)))] := hl
  unfold fX2_isSame
  refine lv_iconst (v := 0) hx hb dX2_isSame_0 (by decide) ?_
  refine lv_istore_n (lv' := [(2, .int 0), (0, .ref (ad (iF o0))), (1, .ref (ad (iF o1)))]) hx hb dX2_isSame_1 rfl hl (by decide) rfl (fun ls hl => ?_)
  refine W_lp (fun (x : Int32) H locs => KH SK E ad sz M s.heap H locs) (fun x ls => lv_has ls 3 [(0, .ref (ad (iF o0))), (1, .ref (ad (iF o1))), (2, .int x)]) (fun _ ls => F0 m 2 ls []) (fun (x : Unit) H locs => KH SK E ad sz M s.heap H locs) (fun x ls => lv_has ls 3 []) (fun _ ls => F0 m 49 ls []) ?_ ?_ hH (lv_sub hl [1, 2, 0] rfl)
  · intro _ H locs ls hH hl
    have hH : KH SK E ad sz M s.heap H locs := hH
    have hl : lv_has ls 3 [] := hl
    refine W_q fX2_isSame_X2_u ?_
    refine lv_iconst (v := 1) hx hb dX2_isSame_49 (by decide) ?_
    exact ke_z C hH hr (Nat.le_refl _) (Nat.le_refl _) rfl (Or.inr rfl) dX2_isSame_50
  · intro rec2 k2 hrec2 hk2 v1 H locs ls hH hl
    have hH : KH SK E ad sz M s.heap H locs := hH
    have hl : lv_has ls 3 [(0, .ref (ad (iF o0))), (1, .ref (ad (iF o1))), (2, .int v1)] := hl
    refine W_q fX2_isSame_L2_u ?_
    refine lv_iload_n hx hb dX2_isSame_2 rfl (lv_at hl 2 rfl) ?_
    refine lv_aload_n hx hb dX2_isSame_3 rfl (lv_at hl 0 rfl) ?_
    refine k_get C hH fd_X2_9 (oF (f := o0) ho0) (k_ref (M := M) (ad := ad) (rF0 (f := o0) ho0)) dX2_isSame_4 ?_
    refine k_ilen C hH (aF0 (f := o0) ho0) (v := 36) rfl dX2_isSame_7 ?_
    refine kb_icmp_ge (tgt := 49) hx hb dX2_isSame_8 (by decide) (fun _ => ?_) (fun _ => ?_)
    · exact hk2 () _ _ _ hH (lv_sub hl [] rfl)
    · refine lv_aload_n hx hb dX2_isSame_11 rfl (lv_at hl 0 rfl) ?_
      refine k_get C hH fd_X2_9 (oF (f := o0) ho0) (k_ref (M := M) (ad := ad) (rF0 (f := o0) ho0)) dX2_isSame_12 ?_
      refine lv_iload_n hx hb dX2_isSame_15 rfl (lv_at hl 2 rfl) ?_
      refine k_iald C hH (aF0 (f := o0) ho0) dX2_isSame_16 ?_
      refine lv_aload_n hx hb dX2_isSame_17 rfl (lv_at hl 1 rfl) ?_
      refine k_get C hH fd_X2_9 (oF (f := o1) ho1) (k_ref (M := M) (ad := ad) (rF0 (f := o1) ho1)) dX2_isSame_18 ?_
      refine lv_iload_n hx hb dX2_isSame_21 rfl (lv_at hl 2 rfl) ?_
      refine k_iald C hH (aF0 (f := o1) ho1) dX2_isSame_22 ?_
      refine kb_icmp_ne (tgt := 41) hx hb dX2_isSame_23 (by decide) (fun _ => ?_) (fun _ => ?_)
      · refine lv_iconst (v := 0) hx hb dX2_isSame_41 (by decide) ?_
        exact ke_z C hH hr (Nat.le_refl _) (Nat.le_refl _) rfl (Or.inl rfl) dX2_isSame_42
      · refine lv_aload_n hx hb dX2_isSame_26 rfl (lv_at hl 0 rfl) ?_
        refine k_get C hH fd_X2_15 (oF (f := o0) ho0) (k_ref (M := M) (ad := ad) (rF1 (f := o0) ho0)) dX2_isSame_27 ?_
        refine lv_iload_n hx hb dX2_isSame_30 rfl (lv_at hl 2 rfl) ?_
        refine k_iald C hH (aF1 (f := o0) ho0) dX2_isSame_31 ?_
        refine lv_aload_n hx hb dX2_isSame_32 rfl (lv_at hl 1 rfl) ?_
        refine k_get C hH fd_X2_15 (oF (f := o1) ho1) (k_ref (M := M) (ad := ad) (rF1 (f := o1) ho1)) dX2_isSame_33 ?_
        refine lv_iload_n hx hb dX2_isSame_36 rfl (lv_at hl 2 rfl) ?_
        refine k_iald C hH (aF1 (f := o1) ho1) dX2_isSame_37 ?_
        refine kb_icmp_eq (tgt := 43) hx hb dX2_isSame_38 (by decide) (fun _ => ?_) (fun _ => ?_)
        · refine W_nm (fun v2 ev2 => ?_)
          refine lv_iinc (v := v2) (lv' := [(2, .int v2), (0, .ref (ad (iF o0))), (1, .ref (ad (iF o1)))]) hx hb dX2_isSame_43 hl (k := 2) rfl (by rw [ev2]; rfl) (by decide) rfl (fun ls hl => ?_)
          refine lv_goto (tgt := 2) hx hb dX2_isSame_46 (by decide) ?_
          exact hrec2 v2 _ _ _ hH (lv_sub hl [1, 2, 0] rfl)
        · refine lv_iconst (v := 0) hx hb dX2_isSame_41 (by decide) ?_
          exact ke_z C hH hr (Nat.le_refl _) (Nat.le_refl _) rfl (Or.inl rfl) dX2_isSame_42
def fX6_areClosed_X2 (_ : Unit) : Option (Int32) := some 1
theorem fX6_areClosed_X2_u {u : Unit} : fX6_areClosed_X2 u = some 1 := rfl
def fX6_areClosed_L2 (M : KS) (o0 : Nat) (o1 : Nat) (rec2 : (Int32) → Option (Int32)) (k2 : (Unit) → Option (Int32)) (v1 : Int32) : Option (Int32) := (if 216 ≤ v1 then k2 () else (fX2_has M o1 v1).bind fun v2 => (if v2 = 0 then (fX6_waysTo M o0 v1 o1).bind fun v4 => (if v4 = 0 then nm (v1 + 1) fun v5 => rec2 v5 else some 0) else nm (v1 + 1) fun v3 => rec2 v3))
theorem fX6_areClosed_L2_u {M : KS} {o0 : Nat} {o1 : Nat} {rec2 : (Int32) → Option (Int32)} {k2 : (Unit) → Option (Int32)} {v1 : Int32} : fX6_areClosed_L2 M o0 o1 rec2 k2 v1 = (if 216 ≤ v1 then k2 () else (fX2_has M o1 v1).bind fun v2 => (if v2 = 0 then (fX6_waysTo M o0 v1 o1).bind fun v4 => (if v4 = 0 then nm (v1 + 1) fun v5 => rec2 v5 else some 0) else nm (v1 + 1) fun v3 => rec2 v3)) := rfl
def fX6_areClosed (M : KS) (o0 : Nat) (o1 : Nat) : Option (Int32) := lp (fX6_areClosed_L2 M o0 o1) (fX6_areClosed_X2) 1000000 0
set_option maxHeartbeats 4000000 in
set_option maxRecDepth 100000 in
theorem kX6_areClosed (l : Launch) (E : KE) (ad : Nat → Nat) (M : KS) (o0 : Nat) (ho0 : o0 < 11) (o1 : Nat) (ho1 : o1 < 15) : CT l yX6_areClosed cX6_areClosed 3 (some .boolean) { frames := 4, cells := 0, slots := 0, locals := 107 } SK E ad [.ref (ad (iR o0)), .ref (ad (iF o1))] M (fun sz a => QI SK E ad sz (a, M)) (fX6_areClosed M o0 o1) := by
  refine CT.ofW (by decide) (Nat.le_of_ble_eq_true rfl) (fun sz p e s m args below meth c C hr hH ls hl => ?_)
  have hx := C.1.1
  have hb := C.1.2.1
  have hl : lv_has ls 3 [(0, .ref (ad (iR o0))), (1, .ref (ad (iF o1)))] := hl
  unfold fX6_areClosed
  refine lv_iconst (v := 0) hx hb dX6_areClosed_0 (by decide) ?_
  refine lv_istore_n (lv' := [(2, .int 0), (0, .ref (ad (iR o0))), (1, .ref (ad (iF o1)))]) hx hb dX6_areClosed_1 rfl hl (by decide) rfl (fun ls hl => ?_)
  refine W_lp (fun (x : Int32) H locs => KH SK E ad sz M s.heap H locs) (fun x ls => lv_has ls 3 [(0, .ref (ad (iR o0))), (1, .ref (ad (iF o1))), (2, .int x)]) (fun _ ls => F0 m 2 ls []) (fun (x : Unit) H locs => KH SK E ad sz M s.heap H locs) (fun x ls => lv_has ls 3 []) (fun _ ls => F0 m 34 ls []) ?_ ?_ hH (lv_sub hl [1, 2, 0] rfl)
  · intro _ H locs ls hH hl
    have hH : KH SK E ad sz M s.heap H locs := hH
    have hl : lv_has ls 3 [] := hl
    refine W_q fX6_areClosed_X2_u ?_
    refine lv_iconst (v := 1) hx hb dX6_areClosed_34 (by decide) ?_
    exact ke_z C hH hr (Nat.le_refl _) (Nat.le_refl _) rfl (Or.inr rfl) dX6_areClosed_35
  · intro rec2 k2 hrec2 hk2 v1 H locs ls hH hl
    have hH : KH SK E ad sz M s.heap H locs := hH
    have hl : lv_has ls 3 [(0, .ref (ad (iR o0))), (1, .ref (ad (iF o1))), (2, .int v1)] := hl
    refine W_q fX6_areClosed_L2_u ?_
    refine lv_iload_n hx hb dX6_areClosed_2 rfl (lv_at hl 2 rfl) ?_
    refine lv_sipush (v := 216) hx hb dX6_areClosed_3 (by decide) ?_
    refine kb_icmp_ge (tgt := 34) hx hb dX6_areClosed_6 (by decide) (fun _ => ?_) (fun _ => ?_)
    · exact hk2 () _ _ _ hH (lv_sub hl [] rfl)
    · refine lv_aload_n hx hb dX6_areClosed_9 rfl (lv_at hl 1 rfl) ?_
      refine lv_iload_n hx hb dX6_areClosed_10 rfl (lv_at hl 2 rfl) ?_
      refine kg_io C hH (kc_V C hH w_2_186 lc_yX2_has li_yX2_has (oF (f := o1) ho1) (kX2_has l E ad M o1 ho1 v1) (As := [.int v1]) rfl dX6_areClosed_11 rfl hl.1 (Nat.le_of_ble_eq_true rfl) ⟨Nat.le_of_ble_eq_true rfl, Nat.le_of_ble_eq_true rfl⟩ ⟨Nat.le_of_ble_eq_true rfl, Nat.le_of_ble_eq_true rfl⟩) ⟨rfl, rfl⟩ (fun v2 H locs hH => ?_)
      refine kb_if_ne (tgt := 28) hx hb dX6_areClosed_14 (by decide) (fun _ => ?_) (fun _ => ?_)
      · refine W_nm (fun v3 ev3 => ?_)
        refine lv_iinc (v := v3) (lv' := [(2, .int v3), (0, .ref (ad (iR o0))), (1, .ref (ad (iF o1)))]) hx hb dX6_areClosed_28 hl (k := 2) rfl (by rw [ev3]; rfl) (by decide) rfl (fun ls hl => ?_)
        refine lv_goto (tgt := 2) hx hb dX6_areClosed_31 (by decide) ?_
        exact hrec2 v3 _ _ _ hH (lv_sub hl [1, 2, 0] rfl)
      · refine lv_aload_n hx hb dX6_areClosed_17 rfl (lv_at hl 0 rfl) ?_
        refine lv_iload_n hx hb dX6_areClosed_18 rfl (lv_at hl 2 rfl) ?_
        refine lv_aload_n hx hb dX6_areClosed_19 rfl (lv_at hl 1 rfl) ?_
        refine kg_io C hH (kc_V C hH w_2_187 lc_yX6_waysTo li_yX6_waysTo (oR (f := o0) ho0) (kX6_waysTo l E ad M o0 ho0 v1 o1 ho1) (As := [.int v1, .ref (ad (iF o1))]) rfl dX6_areClosed_20 rfl hl.1 (Nat.le_of_ble_eq_true rfl) ⟨Nat.le_of_ble_eq_true rfl, Nat.le_of_ble_eq_true rfl⟩ ⟨Nat.le_of_ble_eq_true rfl, Nat.le_of_ble_eq_true rfl⟩) ⟨rfl, rfl⟩ (fun v4 H locs hH => ?_)
        refine kb_if_eq (tgt := 28) hx hb dX6_areClosed_23 (by decide) (fun _ => ?_) (fun _ => ?_)
        · refine W_nm (fun v5 ev5 => ?_)
          refine lv_iinc (v := v5) (lv' := [(2, .int v5), (0, .ref (ad (iR o0))), (1, .ref (ad (iF o1)))]) hx hb dX6_areClosed_28 hl (k := 2) rfl (by rw [ev5]; rfl) (by decide) rfl (fun ls hl => ?_)
          refine lv_goto (tgt := 2) hx hb dX6_areClosed_31 (by decide) ?_
          exact hrec2 v5 _ _ _ hH (lv_sub hl [1, 2, 0] rfl)
        · refine lv_iconst (v := 0) hx hb dX6_areClosed_26 (by decide) ?_
          exact ke_z C hH hr (Nat.le_refl _) (Nat.le_refl _) rfl (Or.inl rfl) dX6_areClosed_27
def fX1_areFounded_X2 (_ : Unit) : Option (Int32) := some 1
theorem fX1_areFounded_X2_u {u : Unit} : fX1_areFounded_X2 u = some 1 := rfl
def fX1_areFounded_X53 (v1 : Int32) (rec2 : (Int32) → Option (Int32)) (_ : Unit) : Option (Int32) := nm (v1 + 1) fun v7 => rec2 v7
theorem fX1_areFounded_X53_u {v1 : Int32} {rec2 : (Int32) → Option (Int32)} {u : Unit} : fX1_areFounded_X53 v1 rec2 u = nm (v1 + 1) fun v7 => rec2 v7 := rfl
def fX1_areFounded_L53 (M : KS) (o1 : Nat) (v1 : Int32) (rec53 : (Int32) → Option (Int32)) (k53 : (Unit) → Option (Int32)) (v6 : Int32) : Option (Int32) := (if 3 ≤ v6 then k53 () else (fX1_need M o1 v1 v6).bind fun v8 => (if v8 < 0 then nm (v6 + 1) fun v9 => rec53 v9 else (fX2_has M 11 v8).bind fun v10 => (if v10 = 0 then some 0 else nm (v6 + 1) fun v11 => rec53 v11)))
theorem fX1_areFounded_L53_u {M : KS} {o1 : Nat} {v1 : Int32} {rec53 : (Int32) → Option (Int32)} {k53 : (Unit) → Option (Int32)} {v6 : Int32} : fX1_areFounded_L53 M o1 v1 rec53 k53 v6 = (if 3 ≤ v6 then k53 () else (fX1_need M o1 v1 v6).bind fun v8 => (if v8 < 0 then nm (v6 + 1) fun v9 => rec53 v9 else (fX2_has M 11 v8).bind fun v10 => (if v10 = 0 then some 0 else nm (v6 + 1) fun v11 => rec53 v11))) := rfl
def fX1_areFounded_L2 (M : KS) (o1 : Nat) (rec2 : (Int32) → Option (Int32)) (k2 : (Unit) → Option (Int32)) (v1 : Int32) : Option (Int32) := (if 216 ≤ v1 then k2 () else (fX2_has M 11 v1).bind fun v2 => (if v2 = 0 then nm (v1 + 1) fun v3 => rec2 v3 else (fX2_has M o1 v1).bind fun v4 => (if v4 = 0 then (fX6_waysTo M o1 v1 11).bind fun v5 => (if v5 = 0 then some 0 else lp (fX1_areFounded_L53 M o1 v1) (fX1_areFounded_X53 v1 rec2) 1000000 0) else nm (v1 + 1) fun v12 => rec2 v12)))
theorem fX1_areFounded_L2_u {M : KS} {o1 : Nat} {rec2 : (Int32) → Option (Int32)} {k2 : (Unit) → Option (Int32)} {v1 : Int32} : fX1_areFounded_L2 M o1 rec2 k2 v1 = (if 216 ≤ v1 then k2 () else (fX2_has M 11 v1).bind fun v2 => (if v2 = 0 then nm (v1 + 1) fun v3 => rec2 v3 else (fX2_has M o1 v1).bind fun v4 => (if v4 = 0 then (fX6_waysTo M o1 v1 11).bind fun v5 => (if v5 = 0 then some 0 else lp (fX1_areFounded_L53 M o1 v1) (fX1_areFounded_X53 v1 rec2) 1000000 0) else nm (v1 + 1) fun v12 => rec2 v12))) := rfl
def fX1_areFounded (M : KS) (o1 : Nat) : Option (Int32) := lp (fX1_areFounded_L2 M o1) (fX1_areFounded_X2) 1000000 0
set_option maxHeartbeats 4000000 in
set_option maxRecDepth 100000 in
theorem kX1_areFounded (l : Launch) (E : KE) (ad : Nat → Nat) (M : KS) (o1 : Nat) (ho1 : o1 < 11) : CT l yX1_areFounded cX1_areFounded 5 (some .boolean) { frames := 4, cells := 0, slots := 0, locals := 107 } SK E ad [.ref (ad 106), .ref (ad (iS o1))] M (fun sz a => QI SK E ad sz (a, M)) (fX1_areFounded M o1) := by
  refine CT.ofW (by decide) (Nat.le_of_ble_eq_true rfl) (fun sz p e s m args below meth c C hr hH ls hl => ?_)
  have hx := C.1.1
  have hb := C.1.2.1
  have hl : lv_has ls 5 [(0, .ref (ad 106)), (1, .ref (ad (iS o1)))] := hl
  unfold fX1_areFounded
  refine lv_iconst (v := 0) hx hb dX1_areFounded_0 (by decide) ?_
  refine lv_istore_n (lv' := [(2, .int 0), (0, .ref (ad 106)), (1, .ref (ad (iS o1)))]) hx hb dX1_areFounded_1 rfl hl (by decide) rfl (fun ls hl => ?_)
  refine W_lp (fun (x : Int32) H locs => KH SK E ad sz M s.heap H locs) (fun x ls => lv_has ls 5 [(0, .ref (ad 106)), (1, .ref (ad (iS o1))), (2, .int x)]) (fun _ ls => F0 m 2 ls []) (fun (x : Unit) H locs => KH SK E ad sz M s.heap H locs) (fun x ls => lv_has ls 5 []) (fun _ ls => F0 m 101 ls []) ?_ ?_ hH (lv_sub hl [1, 2, 0] rfl)
  · intro _ H locs ls hH hl
    have hH : KH SK E ad sz M s.heap H locs := hH
    have hl : lv_has ls 5 [] := hl
    refine W_q fX1_areFounded_X2_u ?_
    refine lv_iconst (v := 1) hx hb dX1_areFounded_101 (by decide) ?_
    exact ke_z C hH hr (Nat.le_refl _) (Nat.le_refl _) rfl (Or.inr rfl) dX1_areFounded_102
  · intro rec2 k2 hrec2 hk2 v1 H locs ls hH hl
    have hH : KH SK E ad sz M s.heap H locs := hH
    have hl : lv_has ls 5 [(0, .ref (ad 106)), (1, .ref (ad (iS o1))), (2, .int v1)] := hl
    refine W_q fX1_areFounded_L2_u ?_
    refine lv_iload_n hx hb dX1_areFounded_2 rfl (lv_at hl 2 rfl) ?_
    refine lv_sipush (v := 216) hx hb dX1_areFounded_3 (by decide) ?_
    refine kb_icmp_ge (tgt := 101) hx hb dX1_areFounded_6 (by decide) (fun _ => ?_) (fun _ => ?_)
    · exact hk2 () _ _ _ hH (lv_sub hl [] rfl)
    · refine lv_aload_n hx hb dX1_areFounded_9 rfl (lv_at hl 0 rfl) ?_
      refine k_get C hH fd_X1_12 oD (k_ref (M := M) (ad := ad) rD0) dX1_areFounded_10 ?_
      refine lv_iload_n hx hb dX1_areFounded_13 rfl (lv_at hl 2 rfl) ?_
      refine kg_io C hH (kc_V C hH w_2_84 lc_yX2_has li_yX2_has (oF (f := 11) (by decide)) (kX2_has l E ad M 11 (by decide) v1) (As := [.int v1]) rfl dX1_areFounded_14 rfl hl.1 (Nat.le_of_ble_eq_true rfl) ⟨Nat.le_of_ble_eq_true rfl, Nat.le_of_ble_eq_true rfl⟩ ⟨Nat.le_of_ble_eq_true rfl, Nat.le_of_ble_eq_true rfl⟩) ⟨rfl, rfl⟩ (fun v2 H locs hH => ?_)
      refine kb_if_eq (tgt := 95) hx hb dX1_areFounded_17 (by decide) (fun _ => ?_) (fun _ => ?_)
      · refine W_nm (fun v3 ev3 => ?_)
        refine lv_iinc (v := v3) (lv' := [(2, .int v3), (0, .ref (ad 106)), (1, .ref (ad (iS o1)))]) hx hb dX1_areFounded_95 hl (k := 2) rfl (by rw [ev3]; rfl) (by decide) rfl (fun ls hl => ?_)
        refine lv_goto (tgt := 2) hx hb dX1_areFounded_98 (by decide) ?_
        exact hrec2 v3 _ _ _ hH (lv_sub hl [1, 2, 0] rfl)
      · refine lv_aload_n hx hb dX1_areFounded_20 rfl (lv_at hl 1 rfl) ?_
        refine k_getN C hH fn_X1_52 (oS (f := o1) ho1) (k_ref (M := M) (ad := ad) (rS0 (f := o1) ho1)) dX1_areFounded_21 ?_
        refine lv_iload_n hx hb dX1_areFounded_24 rfl (lv_at hl 2 rfl) ?_
        refine kg_io C hH (kc_V C hH w_2_84 lc_yX2_has li_yX2_has (oF (f := o1) (Nat.lt_of_lt_of_le ho1 (by decide))) (kX2_has l E ad M o1 (Nat.lt_of_lt_of_le ho1 (by decide)) v1) (As := [.int v1]) rfl dX1_areFounded_25 rfl hl.1 (Nat.le_of_ble_eq_true rfl) ⟨Nat.le_of_ble_eq_true rfl, Nat.le_of_ble_eq_true rfl⟩ ⟨Nat.le_of_ble_eq_true rfl, Nat.le_of_ble_eq_true rfl⟩) ⟨rfl, rfl⟩ (fun v4 H locs hH => ?_)
        refine kb_if_eq (tgt := 34) hx hb dX1_areFounded_28 (by decide) (fun _ => ?_) (fun _ => ?_)
        · refine lv_aload_n hx hb dX1_areFounded_34 rfl (lv_at hl 1 rfl) ?_
          refine k_getN C hH fn_X1_61 (oS (f := o1) ho1) (k_ref (M := M) (ad := ad) (rS1 (f := o1) ho1)) dX1_areFounded_35 ?_
          refine lv_iload_n hx hb dX1_areFounded_38 rfl (lv_at hl 2 rfl) ?_
          refine lv_aload_n hx hb dX1_areFounded_39 rfl (lv_at hl 0 rfl) ?_
          refine k_get C hH fd_X1_12 oD (k_ref (M := M) (ad := ad) rD0) dX1_areFounded_40 ?_
          refine kg_io C hH (kc_V C hH w_2_203 lc_yX6_waysTo li_yX6_waysTo (oR (f := o1) ho1) (kX6_waysTo l E ad M o1 ho1 v1 11 (by decide)) (As := [.int v1, .ref (ad (iF 11))]) rfl dX1_areFounded_43 rfl hl.1 (Nat.le_of_ble_eq_true rfl) ⟨Nat.le_of_ble_eq_true rfl, Nat.le_of_ble_eq_true rfl⟩ ⟨Nat.le_of_ble_eq_true rfl, Nat.le_of_ble_eq_true rfl⟩) ⟨rfl, rfl⟩ (fun v5 H locs hH => ?_)
          refine kb_if_ne (tgt := 51) hx hb dX1_areFounded_46 (by decide) (fun _ => ?_) (fun _ => ?_)
          · refine lv_iconst (v := 0) hx hb dX1_areFounded_51 (by decide) ?_
            refine lv_istore_n (lv' := [(3, .int 0), (0, .ref (ad 106)), (1, .ref (ad (iS o1))), (2, .int v1)]) hx hb dX1_areFounded_52 rfl hl (by decide) rfl (fun ls hl => ?_)
            refine W_lp (fun (x : Int32) H locs => KH SK E ad sz M s.heap H locs) (fun x ls => lv_has ls 5 [(0, .ref (ad 106)), (1, .ref (ad (iS o1))), (2, .int v1), (3, .int x)]) (fun _ ls => F0 m 53 ls []) (fun (x : Unit) H locs => KH SK E ad sz M s.heap H locs) (fun x ls => lv_has ls 5 [(0, .ref (ad 106)), (1, .ref (ad (iS o1))), (2, .int v1)]) (fun _ ls => F0 m 95 ls []) ?_ ?_ hH (lv_sub hl [1, 2, 3, 0] rfl)
            · intro _ H locs ls hH hl
              have hH : KH SK E ad sz M s.heap H locs := hH
              have hl : lv_has ls 5 [(0, .ref (ad 106)), (1, .ref (ad (iS o1))), (2, .int v1)] := hl
              refine W_q fX1_areFounded_X53_u ?_
              refine W_nm (fun v7 ev7 => ?_)
              refine lv_iinc (v := v7) (lv' := [(2, .int v7), (0, .ref (ad 106)), (1, .ref (ad (iS o1)))]) hx hb dX1_areFounded_95 hl (k := 2) rfl (by rw [ev7]; rfl) (by decide) rfl (fun ls hl => ?_)
              refine lv_goto (tgt := 2) hx hb dX1_areFounded_98 (by decide) ?_
              exact hrec2 v7 _ _ _ hH (lv_sub hl [1, 2, 0] rfl)
            · intro rec53 k53 hrec53 hk53 v6 H locs ls hH hl
              have hH : KH SK E ad sz M s.heap H locs := hH
              have hl : lv_has ls 5 [(0, .ref (ad 106)), (1, .ref (ad (iS o1))), (2, .int v1), (3, .int v6)] := hl
              refine W_q fX1_areFounded_L53_u ?_
              refine lv_iload_n hx hb dX1_areFounded_53 rfl (lv_at hl 3 rfl) ?_
              refine lv_iconst (v := 3) hx hb dX1_areFounded_54 (by decide) ?_
              refine kb_icmp_ge (tgt := 95) hx hb dX1_areFounded_55 (by decide) (fun _ => ?_) (fun _ => ?_)
              · exact hk53 () _ _ _ hH (lv_sub hl [0, 1, 2] rfl)
              · refine lv_aload_n hx hb dX1_areFounded_58 rfl (lv_at hl 0 rfl) ?_
                refine lv_aload_n hx hb dX1_areFounded_59 rfl (lv_at hl 1 rfl) ?_
                refine k_getN C hH fn_X1_61 (oS (f := o1) ho1) (k_ref (M := M) (ad := ad) (rS1 (f := o1) ho1)) dX1_areFounded_60 ?_
                refine lv_iload_n hx hb dX1_areFounded_63 rfl (lv_at hl 2 rfl) ?_
                refine lv_iload_n hx hb dX1_areFounded_64 rfl (lv_at hl 3 rfl) ?_
                refine kg_io C hH (kc_V C hH w_2_130 lc_yX1_need li_yX1_need oD (kX1_need l E ad M o1 ho1 v1 v6) (As := [.ref (ad (iR o1)), .int v1, .int v6]) rfl dX1_areFounded_65 rfl hl.1 (Nat.le_of_ble_eq_true rfl) ⟨Nat.le_of_ble_eq_true rfl, Nat.le_of_ble_eq_true rfl⟩ ⟨Nat.le_of_ble_eq_true rfl, Nat.le_of_ble_eq_true rfl⟩) ⟨rfl, rfl⟩ (fun v8 H locs hH => ?_)
                refine lv_istore (lv' := [(4, .int v8), (0, .ref (ad 106)), (1, .ref (ad (iS o1))), (2, .int v1), (3, .int v6)]) hx hb dX1_areFounded_68 hl (by decide) rfl (fun ls hl => ?_)
                refine lv_iload hx hb dX1_areFounded_70 (lv_at hl 0 rfl) ?_
                refine kb_if_lt (tgt := 89) hx hb dX1_areFounded_72 (by decide) (fun _ => ?_) (fun _ => ?_)
                · refine W_nm (fun v9 ev9 => ?_)
                  refine lv_iinc (v := v9) (lv' := [(3, .int v9), (4, .int v8), (0, .ref (ad 106)), (1, .ref (ad (iS o1))), (2, .int v1)]) hx hb dX1_areFounded_89 hl (k := 4) rfl (by rw [ev9]; rfl) (by decide) rfl (fun ls hl => ?_)
                  refine lv_goto (tgt := 53) hx hb dX1_areFounded_92 (by decide) ?_
                  exact hrec53 v9 _ _ _ hH (lv_sub hl [2, 3, 4, 0] rfl)
                · refine lv_aload_n hx hb dX1_areFounded_75 rfl (lv_at hl 1 rfl) ?_
                  refine k_get C hH fd_X1_12 oD (k_ref (M := M) (ad := ad) rD0) dX1_areFounded_76 ?_
                  refine lv_iload hx hb dX1_areFounded_79 (lv_at hl 0 rfl) ?_
                  refine kg_io C hH (kc_V C hH w_2_84 lc_yX2_has li_yX2_has (oF (f := 11) (by decide)) (kX2_has l E ad M 11 (by decide) v8) (As := [.int v8]) rfl dX1_areFounded_81 rfl hl.1 (Nat.le_of_ble_eq_true rfl) ⟨Nat.le_of_ble_eq_true rfl, Nat.le_of_ble_eq_true rfl⟩ ⟨Nat.le_of_ble_eq_true rfl, Nat.le_of_ble_eq_true rfl⟩) ⟨rfl, rfl⟩ (fun v10 H locs hH => ?_)
                  refine kb_if_ne (tgt := 89) hx hb dX1_areFounded_84 (by decide) (fun _ => ?_) (fun _ => ?_)
                  · refine W_nm (fun v11 ev11 => ?_)
                    refine lv_iinc (v := v11) (lv' := [(3, .int v11), (4, .int v8), (0, .ref (ad 106)), (1, .ref (ad (iS o1))), (2, .int v1)]) hx hb dX1_areFounded_89 hl (k := 4) rfl (by rw [ev11]; rfl) (by decide) rfl (fun ls hl => ?_)
                    refine lv_goto (tgt := 53) hx hb dX1_areFounded_92 (by decide) ?_
                    exact hrec53 v11 _ _ _ hH (lv_sub hl [2, 3, 4, 0] rfl)
                  · refine lv_iconst (v := 0) hx hb dX1_areFounded_87 (by decide) ?_
                    exact ke_z C hH hr (Nat.le_refl _) (Nat.le_refl _) rfl (Or.inl rfl) dX1_areFounded_88
          · refine lv_iconst (v := 0) hx hb dX1_areFounded_49 (by decide) ?_
            exact ke_z C hH hr (Nat.le_refl _) (Nat.le_refl _) rfl (Or.inl rfl) dX1_areFounded_50
        · refine lv_goto (tgt := 95) hx hb dX1_areFounded_31 (by decide) ?_
          refine W_nm (fun v12 ev12 => ?_)
          refine lv_iinc (v := v12) (lv' := [(2, .int v12), (0, .ref (ad 106)), (1, .ref (ad (iS o1)))]) hx hb dX1_areFounded_95 hl (k := 2) rfl (by rw [ev12]; rfl) (by decide) rfl (fun ls hl => ?_)
          refine lv_goto (tgt := 2) hx hb dX1_areFounded_98 (by decide) ?_
          exact hrec2 v12 _ _ _ hH (lv_sub hl [1, 2, 0] rfl)
def fX9_isWell (M : KS)  : Option (Int32 × KS) := (fX1_settled M 0).bind fun M1 => (fX0_deriveFrom M1 0 0).bind fun M2 => (fX2_isSame M2 14 11).bind fun v3 => (if v3 = 0 then some (0, M2) else (fX6_areClosed M2 0 11).bind fun v4 => (if v4 = 0 then some (0, M2) else (fX1_areFounded M2 0).bind fun v5 => (if v5 = 0 then some (0, M2) else some (1, M2))))
set_option maxHeartbeats 4000000 in
set_option maxRecDepth 100000 in
theorem kX9_isWell (l : Launch) (E : KE) (ad : Nat → Nat) (M : KS)  : CT l yX9_isWell cX9_isWell 3 (some .boolean) { frames := 6, cells := 0, slots := 0, locals := 155 } SK E ad [.ref (ad 121)] M (QI SK E ad) (fX9_isWell M) := by
  refine CT.ofW (by decide) (Nat.le_of_ble_eq_true rfl) (fun sz p e s m args below meth c C hr hH ls hl => ?_)
  have hx := C.1.1
  have hb := C.1.2.1
  have hl : lv_has ls 3 [(0, .ref (ad 121))] := hl
  unfold fX9_isWell
  refine lv_aload_n hx hb dX9_isWell_0 rfl (lv_at hl 0 rfl) ?_
  refine k_get C hH fd_X9_29 oK (k_ref (M := M) (ad := ad) rK3) dX9_isWell_1 ?_
  refine lv_aload_n hx hb dX9_isWell_4 rfl (lv_at hl 0 rfl) ?_
  refine k_get C hH fd_X9_10 oK (k_ref (M := M) (ad := ad) rK0) dX9_isWell_5 ?_
  refine kg_r C hH (kc_V C hH w_2_27 lc_yX1_settled li_yX1_settled oD (kX1_settled l E ad M 0 (by decide)) (As := [.ref (ad (iS 0))]) rfl dX9_isWell_8 rfl hl.1 (Nat.le_of_ble_eq_true rfl) ⟨Nat.le_of_ble_eq_true rfl, Nat.le_of_ble_eq_true rfl⟩ ⟨Nat.le_of_ble_eq_true rfl, Nat.le_of_ble_eq_true rfl⟩) ⟨rfl, rfl⟩ (fun M1 H locs hH => ?_)
  refine lv_astore_n (lv' := [(1, .ref (ad 106)), (0, .ref (ad 121))]) hx hb dX9_isWell_11 rfl hl (by decide) rfl (fun ls hl => ?_)
  refine lv_aload_n hx hb dX9_isWell_12 rfl (lv_at hl 1 rfl) ?_
  refine k_get C hH fd_X9_36 oK (k_ref (M := M1) (ad := ad) rK4) dX9_isWell_13 ?_
  refine lv_aload_n hx hb dX9_isWell_16 rfl (lv_at hl 1 rfl) ?_
  refine k_get C hH fd_X9_10 oK (k_ref (M := M1) (ad := ad) rK0) dX9_isWell_17 ?_
  refine k_getN C hH fn_X9_124 (oS (f := 0) (by decide)) (k_ref (M := M1) (ad := ad) (rS0 (f := 0) (by decide))) dX9_isWell_20 ?_
  refine lv_aload_n hx hb dX9_isWell_23 rfl (lv_at hl 1 rfl) ?_
  refine k_get C hH fd_X9_10 oK (k_ref (M := M1) (ad := ad) rK0) dX9_isWell_24 ?_
  refine k_getN C hH fn_X9_128 (oS (f := 0) (by decide)) (k_ref (M := M1) (ad := ad) (rS1 (f := 0) (by decide))) dX9_isWell_27 ?_
  refine kg_r C hH (kc_V C hH w_2_158 lc_yX0_deriveFrom li_yX0_deriveFrom oA (kX0_deriveFrom l E ad M1 0 (by decide) 0 (by decide)) (As := [.ref (ad (iF 0)), .ref (ad (iR 0))]) rfl dX9_isWell_30 rfl hl.1 (Nat.le_of_ble_eq_true rfl) ⟨Nat.le_of_ble_eq_true rfl, Nat.le_of_ble_eq_true rfl⟩ ⟨Nat.le_of_ble_eq_true rfl, Nat.le_of_ble_eq_true rfl⟩) ⟨rfl, rfl⟩ (fun M2 H locs hH => ?_)
  refine lv_astore_n (lv' := [(2, .ref (ad (iF 14))), (1, .ref (ad 106)), (0, .ref (ad 121))]) hx hb dX9_isWell_33 rfl hl (by decide) rfl (fun ls hl => ?_)
  refine lv_aload_n hx hb dX9_isWell_34 rfl (lv_at hl 0 rfl) ?_
  refine lv_aload_n hx hb dX9_isWell_35 rfl (lv_at hl 1 rfl) ?_
  refine k_getN C hH fn_X9_140 oD (k_ref (M := M2) (ad := ad) rD0) dX9_isWell_36 ?_
  refine kg_io C hH (kc_V C hH w_2_178 lc_yX2_isSame li_yX2_isSame (oF (f := 14) (by decide)) (kX2_isSame l E ad M2 14 (by decide) 11 (by decide)) (As := [.ref (ad (iF 11))]) rfl dX9_isWell_39 rfl hl.1 (Nat.le_of_ble_eq_true rfl) ⟨Nat.le_of_ble_eq_true rfl, Nat.le_of_ble_eq_true rfl⟩ ⟨Nat.le_of_ble_eq_true rfl, Nat.le_of_ble_eq_true rfl⟩) ⟨rfl, rfl⟩ (fun v3 H locs hH => ?_)
  refine kb_if_eq (tgt := 77) hx hb dX9_isWell_42 (by decide) (fun _ => ?_) (fun _ => ?_)
  · refine lv_iconst (v := 0) hx hb dX9_isWell_77 (by decide) ?_
    exact ke_z C hH hr (Nat.le_refl _) (Nat.le_refl _) rfl (Or.inl rfl) dX9_isWell_78
  · refine lv_aload_n hx hb dX9_isWell_45 rfl (lv_at hl 2 rfl) ?_
    refine k_get C hH fd_X9_10 oK (k_ref (M := M2) (ad := ad) rK0) dX9_isWell_46 ?_
    refine k_getN C hH fn_X9_128 (oS (f := 0) (by decide)) (k_ref (M := M2) (ad := ad) (rS1 (f := 0) (by decide))) dX9_isWell_49 ?_
    refine lv_aload_n hx hb dX9_isWell_52 rfl (lv_at hl 1 rfl) ?_
    refine k_getN C hH fn_X9_140 oD (k_ref (M := M2) (ad := ad) rD0) dX9_isWell_53 ?_
    refine kg_io C hH (kc_V C hH w_2_182 lc_yX6_areClosed li_yX6_areClosed (oR (f := 0) (by decide)) (kX6_areClosed l E ad M2 0 (by decide) 11 (by decide)) (As := [.ref (ad (iF 11))]) rfl dX9_isWell_56 rfl hl.1 (Nat.le_of_ble_eq_true rfl) ⟨Nat.le_of_ble_eq_true rfl, Nat.le_of_ble_eq_true rfl⟩ ⟨Nat.le_of_ble_eq_true rfl, Nat.le_of_ble_eq_true rfl⟩) ⟨rfl, rfl⟩ (fun v4 H locs hH => ?_)
    refine kb_if_eq (tgt := 77) hx hb dX9_isWell_59 (by decide) (fun _ => ?_) (fun _ => ?_)
    · refine lv_iconst (v := 0) hx hb dX9_isWell_77 (by decide) ?_
      exact ke_z C hH hr (Nat.le_refl _) (Nat.le_refl _) rfl (Or.inl rfl) dX9_isWell_78
    · refine lv_aload_n hx hb dX9_isWell_62 rfl (lv_at hl 1 rfl) ?_
      refine lv_aload_n hx hb dX9_isWell_63 rfl (lv_at hl 2 rfl) ?_
      refine k_get C hH fd_X9_10 oK (k_ref (M := M2) (ad := ad) rK0) dX9_isWell_64 ?_
      refine kg_io C hH (kc_V C hH w_2_199 lc_yX1_areFounded li_yX1_areFounded oD (kX1_areFounded l E ad M2 0 (by decide)) (As := [.ref (ad (iS 0))]) rfl dX9_isWell_67 rfl hl.1 (Nat.le_of_ble_eq_true rfl) ⟨Nat.le_of_ble_eq_true rfl, Nat.le_of_ble_eq_true rfl⟩ ⟨Nat.le_of_ble_eq_true rfl, Nat.le_of_ble_eq_true rfl⟩) ⟨rfl, rfl⟩ (fun v5 H locs hH => ?_)
      refine kb_if_eq (tgt := 77) hx hb dX9_isWell_70 (by decide) (fun _ => ?_) (fun _ => ?_)
      · refine lv_iconst (v := 0) hx hb dX9_isWell_77 (by decide) ?_
        exact ke_z C hH hr (Nat.le_refl _) (Nat.le_refl _) rfl (Or.inl rfl) dX9_isWell_78
      · refine lv_iconst (v := 1) hx hb dX9_isWell_73 (by decide) ?_
        refine lv_goto (tgt := 78) hx hb dX9_isWell_74 (by decide) ?_
        exact ke_z C hH hr (Nat.le_refl _) (Nat.le_refl _) rfl (Or.inr rfl) dX9_isWell_78
def fX1_allDepths_X4 (v3 : Int32) : Option (Int32) := some v3
theorem fX1_allDepths_X4_u {v3 : Int32} : fX1_allDepths_X4 v3 = some v3 := rfl
def fX1_allDepths_L4 (M : KS) (rec4 : (Int32 × Int32) → Option (Int32)) (k4 : (Int32) → Option (Int32)) (x : Int32 × Int32) : Option (Int32) := match x with | (v1, v2) => (if 216 ≤ v2 then k4 v1 else if inb v2 216 then nm ((v1 + (M.1 110 v2.toNatClampNeg))) fun v4 => nm (v2 + 1) fun v5 => rec4 (v4, v5) else none)
theorem fX1_allDepths_L4_u {M : KS} {rec4 : (Int32 × Int32) → Option (Int32)} {k4 : (Int32) → Option (Int32)} {v1 : Int32} {v2 : Int32} : fX1_allDepths_L4 M rec4 k4 (v1, v2) = (if 216 ≤ v2 then k4 v1 else if inb v2 216 then nm ((v1 + (M.1 110 v2.toNatClampNeg))) fun v4 => nm (v2 + 1) fun v5 => rec4 (v4, v5) else none) := rfl
def fX1_allDepths (M : KS)  : Option (Int32) := lp (fX1_allDepths_L4 M) (fX1_allDepths_X4) 1000000 (0, 0)
set_option maxHeartbeats 4000000 in
set_option maxRecDepth 100000 in
theorem kX1_allDepths (l : Launch) (E : KE) (ad : Nat → Nat) (M : KS)  : CT l yX1_allDepths cX1_allDepths 3 (some .int) { frames := 0, cells := 0, slots := 0, locals := 0 } SK E ad [.ref (ad 106)] M (fun sz a => QI SK E ad sz (a, M)) (fX1_allDepths M) := by
  refine CT.ofW (by decide) (Nat.le_of_ble_eq_true rfl) (fun sz p e s m args below meth c C hr hH ls hl => ?_)
  have hx := C.1.1
  have hb := C.1.2.1
  have hl : lv_has ls 3 [(0, .ref (ad 106))] := hl
  unfold fX1_allDepths
  refine lv_iconst (v := 0) hx hb dX1_allDepths_0 (by decide) ?_
  refine lv_istore_n (lv' := [(1, .int 0), (0, .ref (ad 106))]) hx hb dX1_allDepths_1 rfl hl (by decide) rfl (fun ls hl => ?_)
  refine lv_iconst (v := 0) hx hb dX1_allDepths_2 (by decide) ?_
  refine lv_istore_n (lv' := [(2, .int 0), (1, .int 0), (0, .ref (ad 106))]) hx hb dX1_allDepths_3 rfl hl (by decide) rfl (fun ls hl => ?_)
  refine W_lp (fun (x : Int32 × Int32) H locs => KH SK E ad sz M s.heap H locs) (fun x ls => lv_has ls 3 [(0, .ref (ad 106)), (1, .int x.1), (2, .int x.2)]) (fun _ ls => F0 m 4 ls []) (fun (x : Int32) H locs => KH SK E ad sz M s.heap H locs) (fun x ls => lv_has ls 3 [(1, .int x)]) (fun _ ls => F0 m 26 ls []) ?_ ?_ hH (lv_sub hl [2, 1, 0] rfl)
  · intro v3 H locs ls hH hl
    have hH : KH SK E ad sz M s.heap H locs := hH
    have hl : lv_has ls 3 [(1, .int v3)] := hl
    refine W_q fX1_allDepths_X4_u ?_
    refine lv_iload_n hx hb dX1_allDepths_26 rfl (lv_at hl 0 rfl) ?_
    exact ke_i C hH hr (Nat.le_refl _) (Nat.le_refl _) rfl dX1_allDepths_27
  · intro rec4 k4 hrec4 hk4 ⟨v1, v2⟩ H locs ls hH hl
    have hH : KH SK E ad sz M s.heap H locs := hH
    have hl : lv_has ls 3 [(0, .ref (ad 106)), (1, .int v1), (2, .int v2)] := hl
    refine W_q fX1_allDepths_L4_u ?_
    refine lv_iload_n hx hb dX1_allDepths_4 rfl (lv_at hl 2 rfl) ?_
    refine lv_sipush (v := 216) hx hb dX1_allDepths_5 (by decide) ?_
    refine kb_icmp_ge (tgt := 26) hx hb dX1_allDepths_8 (by decide) (fun _ => ?_) (fun _ => ?_)
    · exact hk4 v1 _ _ _ hH (lv_sub hl [1] rfl)
    · refine lv_iload_n hx hb dX1_allDepths_11 rfl (lv_at hl 1 rfl) ?_
      refine lv_aload_n hx hb dX1_allDepths_12 rfl (lv_at hl 0 rfl) ?_
      refine k_get C hH fd_X1_41 oD (k_ref (M := M) (ad := ad) rD7) dX1_allDepths_13 ?_
      refine lv_iload_n hx hb dX1_allDepths_16 rfl (lv_at hl 2 rfl) ?_
      refine k_iald C hH aD7 dX1_allDepths_17 ?_
      refine lv_iadd hx hb dX1_allDepths_18 ?_
      refine W_nmi (fun v4 => ?_)
      refine lv_istore_n (lv' := [(1, .int v4), (0, .ref (ad 106)), (2, .int v2)]) hx hb dX1_allDepths_19 rfl hl (by decide) rfl (fun ls hl => ?_)
      refine W_nm (fun v5 ev5 => ?_)
      refine lv_iinc (v := v5) (lv' := [(2, .int v5), (1, .int v4), (0, .ref (ad 106))]) hx hb dX1_allDepths_20 hl (k := 2) rfl (by rw [ev5]; rfl) (by decide) rfl (fun ls hl => ?_)
      refine lv_goto (tgt := 4) hx hb dX1_allDepths_23 (by decide) ?_
      exact hrec4 (v4, v5) _ _ _ hH (lv_sub hl [2, 1, 0] rfl)
def fX5_stepBack_J19_5 (M : KS) (o1 : Nat) (v1 : Int32) : Option (KS) := nm (kset M 113 1 v1) fun M2 => nm (kset M2 113 2 (jmax ((M2.1 113 2) - 1) 0)) fun M3 => (fX5_giveBack M3 o1).bind fun M4 => some M4
theorem fX5_stepBack_J19_5_u {M : KS} {o1 : Nat} {v1 : Int32} : fX5_stepBack_J19_5 M o1 v1 = nm (kset M 113 1 v1) fun M2 => nm (kset M2 113 2 (jmax ((M2.1 113 2) - 1) 0)) fun M3 => (fX5_giveBack M3 o1).bind fun M4 => some M4 := rfl
def fX5_stepBack (M : KS) (o1 : Nat) : Option (KS) := jn (fX5_stepBack_J19_5 M o1) (fun K19_5 => (if (M.1 113 1) ≤ 0 then K19_5 8 else K19_5 ((M.1 113 1) - 1)))
set_option maxHeartbeats 4000000 in
set_option maxRecDepth 100000 in
theorem kX5_stepBack (l : Launch) (E : KE) (ad : Nat → Nat) (M : KS) (o1 : Nat) (ho1 : o1 < 11) : CT l yX5_stepBack cX5_stepBack 2 none { frames := 3, cells := 0, slots := 0, locals := 65 } SK E ad [.ref (ad 113), .ref (ad (iS o1))] M (QV SK E ad) (fX5_stepBack M o1) := by
  refine CT.ofW (by decide) (Nat.le_of_ble_eq_true rfl) (fun sz p e s m args below meth c C hr hH ls hl => ?_)
  have hx := C.1.1
  have hb := C.1.2.1
  have hl : lv_has ls 2 [(0, .ref (ad 113)), (1, .ref (ad (iS o1)))] := hl
  unfold fX5_stepBack
  refine lv_aload_n hx hb dX5_stepBack_0 rfl (lv_at hl 0 rfl) ?_
  refine lv_aload_n hx hb dX5_stepBack_1 rfl (lv_at hl 0 rfl) ?_
  refine k_get C hH fd_X5_17 oP (k_int (M := M) (ad := ad) nP1) dX5_stepBack_2 ?_
  refine W_jn (fun (x : Int32) H locs => KH SK E ad sz M s.heap H locs) (fun x ls => lv_has ls 2 [(0, .ref (ad 113)), (1, .ref (ad (iS o1)))]) (fun x ls => F0 m 19 ls [.int x, .ref (ad 113)]) ?_ (fun K19_5 hK19_5 => ?_)
  · intro v1 H locs ls hH hl
    have hH : KH SK E ad sz M s.heap H locs := hH
    have hl : lv_has ls 2 [(0, .ref (ad 113)), (1, .ref (ad (iS o1)))] := hl
    refine W_q fX5_stepBack_J19_5_u ?_
    refine k_put1 C hH fd_X5_17 fw_X5_1 oP nP1 rfl rfl dX5_stepBack_19 (fun M2 H locs hH => ?_)
    refine lv_aload_n hx hb dX5_stepBack_22 rfl (lv_at hl 0 rfl) ?_
    refine lv_aload_n hx hb dX5_stepBack_23 rfl (lv_at hl 0 rfl) ?_
    refine k_get C hH fd_X5_21 oP (k_int (M := M2) (ad := ad) nP2) dX5_stepBack_24 ?_
    refine lv_iconst (v := 1) hx hb dX5_stepBack_27 (by decide) ?_
    refine lv_isub hx hb dX5_stepBack_28 ?_
    refine lv_iconst (v := 0) hx hb dX5_stepBack_29 (by decide) ?_
    refine k_mmax C w_5_189 hl.1 (Nat.le_of_ble_eq_true rfl) (Nat.le_of_ble_eq_true rfl) ⟨Nat.zero_le _, Nat.zero_le _⟩ dX5_stepBack_30 ?_
    refine k_put1 C hH fd_X5_21 fw_X5_2 oP nP2 rfl rfl dX5_stepBack_33 (fun M3 H locs hH => ?_)
    refine lv_aload_n hx hb dX5_stepBack_36 rfl (lv_at hl 0 rfl) ?_
    refine lv_aload_n hx hb dX5_stepBack_37 rfl (lv_at hl 1 rfl) ?_
    refine kg_v C hH (kc_V C hH w_5_190 lc_yX5_giveBack li_yX5_giveBack oP (kX5_giveBack l E ad M3 o1 ho1) (As := [.ref (ad (iS o1))]) rfl dX5_stepBack_38 rfl hl.1 (Nat.le_of_ble_eq_true rfl) ⟨Nat.le_of_ble_eq_true rfl, Nat.le_of_ble_eq_true rfl⟩ ⟨Nat.le_of_ble_eq_true rfl, Nat.le_of_ble_eq_true rfl⟩) ⟨rfl, rfl⟩ (fun M4 H locs hH => ?_)
    exact ke_v C hH hr (Nat.le_refl _) (Nat.le_refl _) rfl dX5_stepBack_41
  · refine kb_if_le (tgt := 17) hx hb dX5_stepBack_5 (by decide) (fun _ => ?_) (fun _ => ?_)
    · refine lv_bipush (v := 8) hx hb dX5_stepBack_17 (by decide) ?_
      exact hK19_5 8 _ _ _ hH (lv_sub hl [0, 1] rfl)
    · refine lv_aload_n hx hb dX5_stepBack_8 rfl (lv_at hl 0 rfl) ?_
      refine k_get C hH fd_X5_17 oP (k_int (M := M) (ad := ad) nP1) dX5_stepBack_9 ?_
      refine lv_iconst (v := 1) hx hb dX5_stepBack_12 (by decide) ?_
      refine lv_isub hx hb dX5_stepBack_13 ?_
      refine lv_goto (tgt := 19) hx hb dX5_stepBack_14 (by decide) ?_
      exact hK19_5 ((M.1 113 1) - 1) _ _ _ hH (lv_sub hl [0, 1] rfl)
def fX9_save (M : KS)  : Option (Int32 × KS) := (fX7_copy M 1 0).bind fun M1 => nm (kset M1 121 8 1) fun M2 => (fX2_size M2 0).bind fun v3 => some (v3, M2)
set_option maxHeartbeats 4000000 in
set_option maxRecDepth 100000 in
theorem kX9_save (l : Launch) (E : KE) (ad : Nat → Nat) (M : KS)  : CT l yX9_save cX9_save 1 (some .int) { frames := 2, cells := 0, slots := 0, locals := 43 } SK E ad [.ref (ad 121)] M (QI SK E ad) (fX9_save M) := by
  refine CT.ofW (by decide) (Nat.le_of_ble_eq_true rfl) (fun sz p e s m args below meth c C hr hH ls hl => ?_)
  have hx := C.1.1
  have hb := C.1.2.1
  have hl : lv_has ls 1 [(0, .ref (ad 121))] := hl
  unfold fX9_save
  refine lv_aload_n hx hb dX9_save_0 rfl (lv_at hl 0 rfl) ?_
  refine k_get C hH fd_X9_16 oK (k_ref (M := M) (ad := ad) rK1) dX9_save_1 ?_
  refine lv_aload_n hx hb dX9_save_4 rfl (lv_at hl 0 rfl) ?_
  refine k_get C hH fd_X9_10 oK (k_ref (M := M) (ad := ad) rK0) dX9_save_5 ?_
  refine kg_v C hH (kc_V C hH w_2_208 lc_yX7_copy li_yX7_copy (oS (f := 1) (by decide)) (kX7_copy l E ad M 1 (by decide) 0 (by decide)) (As := [.ref (ad (iS 0))]) rfl dX9_save_8 rfl hl.1 (Nat.le_of_ble_eq_true rfl) ⟨Nat.le_of_ble_eq_true rfl, Nat.le_of_ble_eq_true rfl⟩ ⟨Nat.le_of_ble_eq_true rfl, Nat.le_of_ble_eq_true rfl⟩) ⟨rfl, rfl⟩ (fun M1 H locs hH => ?_)
  refine lv_aload_n hx hb dX9_save_11 rfl (lv_at hl 0 rfl) ?_
  refine lv_iconst (v := 1) hx hb dX9_save_12 (by decide) ?_
  refine k_put1 C hH fd_X9_61 fw_X9_8 oK nK8 rfl rfl dX9_save_13 (fun M2 H locs hH => ?_)
  refine lv_aload_n hx hb dX9_save_16 rfl (lv_at hl 0 rfl) ?_
  refine k_get C hH fd_X9_10 oK (k_ref (M := M2) (ad := ad) rK0) dX9_save_17 ?_
  refine k_getN C hH fn_X9_124 (oS (f := 0) (by decide)) (k_ref (M := M2) (ad := ad) (rS0 (f := 0) (by decide))) dX9_save_20 ?_
  refine kg_io C hH (kc_V C hH w_2_217 lc_yX2_size li_yX2_size (oF (f := 0) (by decide)) (kX2_size l E ad M2 0 (by decide)) (As := []) rfl dX9_save_23 rfl hl.1 (Nat.le_of_ble_eq_true rfl) ⟨Nat.le_of_ble_eq_true rfl, Nat.le_of_ble_eq_true rfl⟩ ⟨Nat.le_of_ble_eq_true rfl, Nat.le_of_ble_eq_true rfl⟩) ⟨rfl, rfl⟩ (fun v3 H locs hH => ?_)
  exact ke_i C hH hr (Nat.le_refl _) (Nat.le_refl _) rfl dX9_save_26
def fX5_forget (M : KS)  : Option (KS) := nm (kset M 113 2 0) fun M1 => some M1
set_option maxHeartbeats 4000000 in
set_option maxRecDepth 100000 in
theorem kX5_forget (l : Launch) (E : KE) (ad : Nat → Nat) (M : KS)  : CT l yX5_forget cX5_forget 1 none { frames := 0, cells := 0, slots := 0, locals := 0 } SK E ad [.ref (ad 113)] M (QV SK E ad) (fX5_forget M) := by
  refine CT.ofW (by decide) (Nat.le_of_ble_eq_true rfl) (fun sz p e s m args below meth c C hr hH ls hl => ?_)
  have hx := C.1.1
  have hb := C.1.2.1
  have hl : lv_has ls 1 [(0, .ref (ad 113))] := hl
  unfold fX5_forget
  refine lv_aload_n hx hb dX5_forget_0 rfl (lv_at hl 0 rfl) ?_
  refine lv_iconst (v := 0) hx hb dX5_forget_1 (by decide) ?_
  refine k_put1 C hH fd_X5_21 fw_X5_2 oP nP2 rfl rfl dX5_forget_2 (fun M1 H locs hH => ?_)
  exact ke_v C hH hr (Nat.le_refl _) (Nat.le_refl _) rfl dX5_forget_5
def fX10_thrown_o (M : KS)  : Option (Int32) := some (M.1 0 6)
def fX10_thrown (M : KS)  : Int32 := (M.1 0 6)
theorem fX10_thrown_s {M : KS}  : fX10_thrown_o M = some (fX10_thrown M) := by
  unfold fX10_thrown_o fX10_thrown
  (repeat' split) <;> rfl
set_option maxHeartbeats 4000000 in
set_option maxRecDepth 100000 in
theorem kX10_thrown_o (l : Launch) (E : KE) (ad : Nat → Nat) (M : KS)  : CT l yX10_thrown cX10_thrown 1 (some .int) { frames := 0, cells := 0, slots := 0, locals := 0 } SM E ad [.ref (ad 0)] M (fun sz a => QI SM E ad sz (a, M)) (fX10_thrown_o M) := by
  refine CT.ofW (by decide) (Nat.le_of_ble_eq_true rfl) (fun sz p e s m args below meth c C hr hH ls hl => ?_)
  have hx := C.1.1
  have hb := C.1.2.1
  have hl : lv_has ls 1 [(0, .ref (ad 0))] := hl
  unfold fX10_thrown_o
  refine lv_aload_n hx hb dX10_thrown_0 rfl (lv_at hl 0 rfl) ?_
  refine k_get C hH fd_X10_76 oM (k_int (M := M) (ad := ad) nM6) dX10_thrown_1 ?_
  exact ke_i C hH hr (Nat.le_refl _) (Nat.le_refl _) rfl dX10_thrown_4
theorem kX10_thrown (l : Launch) (E : KE) (ad : Nat → Nat) (M : KS)  : CT l yX10_thrown cX10_thrown 1 (some .int) { frames := 0, cells := 0, slots := 0, locals := 0 } SM E ad [.ref (ad 0)] M (fun sz (_ : Unit) => QI SM E ad sz (fX10_thrown M, M)) (some ()) := CT.pure (kX10_thrown_o l E ad M ) fX10_thrown_s
def fX10_in_o (a0 : Int32) (a1 : Int32) (a2 : Int32) : Option (Int32) := (if a0 < a1 then some 0 else (if a2 < a0 then some 0 else some 1))
def fX10_in (a0 : Int32) (a1 : Int32) (a2 : Int32) : Int32 := (if a0 < a1 then 0 else (if a2 < a0 then 0 else 1))
theorem fX10_in_s {a0 : Int32} {a1 : Int32} {a2 : Int32} : fX10_in_o a0 a1 a2 = some (fX10_in a0 a1 a2) := by
  unfold fX10_in_o fX10_in
  (repeat' split) <;> rfl
set_option maxHeartbeats 4000000 in
set_option maxRecDepth 100000 in
theorem kX10_in_o (l : Launch) (E : KE) (ad : Nat → Nat) (M : KS) (a0 : Int32) (a1 : Int32) (a2 : Int32) : CT l yX10_in cX10_in 3 (some .boolean) { frames := 0, cells := 0, slots := 0, locals := 0 } SM E ad [.int a0, .int a1, .int a2] M (fun sz a => QI SM E ad sz (a, M)) (fX10_in_o a0 a1 a2) := by
  refine CT.ofW (by decide) (Nat.le_of_ble_eq_true rfl) (fun sz p e s m args below meth c C hr hH ls hl => ?_)
  have hx := C.1.1
  have hb := C.1.2.1
  have hl : lv_has ls 3 [(0, .int a0), (1, .int a1), (2, .int a2)] := hl
  unfold fX10_in_o
  refine lv_iload_n hx hb dX10_in_0 rfl (lv_at hl 0 rfl) ?_
  refine lv_iload_n hx hb dX10_in_1 rfl (lv_at hl 1 rfl) ?_
  refine kb_icmp_lt (tgt := 14) hx hb dX10_in_2 (by decide) (fun _ => ?_) (fun _ => ?_)
  · refine lv_iconst (v := 0) hx hb dX10_in_14 (by decide) ?_
    exact ke_z C hH hr (Nat.le_refl _) (Nat.le_refl _) rfl (Or.inl rfl) dX10_in_15
  · refine lv_iload_n hx hb dX10_in_5 rfl (lv_at hl 0 rfl) ?_
    refine lv_iload_n hx hb dX10_in_6 rfl (lv_at hl 2 rfl) ?_
    refine kb_icmp_gt (tgt := 14) hx hb dX10_in_7 (by decide) (fun _ => ?_) (fun _ => ?_)
    · refine lv_iconst (v := 0) hx hb dX10_in_14 (by decide) ?_
      exact ke_z C hH hr (Nat.le_refl _) (Nat.le_refl _) rfl (Or.inl rfl) dX10_in_15
    · refine lv_iconst (v := 1) hx hb dX10_in_10 (by decide) ?_
      refine lv_goto (tgt := 15) hx hb dX10_in_11 (by decide) ?_
      exact ke_z C hH hr (Nat.le_refl _) (Nat.le_refl _) rfl (Or.inr rfl) dX10_in_15
theorem kX10_in (l : Launch) (E : KE) (ad : Nat → Nat) (M : KS) (a0 : Int32) (a1 : Int32) (a2 : Int32) : CT l yX10_in cX10_in 3 (some .boolean) { frames := 0, cells := 0, slots := 0, locals := 0 } SM E ad [.int a0, .int a1, .int a2] M (fun sz (_ : Unit) => QI SM E ad sz (fX10_in a0 a1 a2, M)) (some ()) := CT.pure (kX10_in_o l E ad M a0 a1 a2) fX10_in_s
def fX10_keep (M : KS)  : Option (KS) := nm (kset M 0 6 0) fun M1 => if jcp 0 257 0 257 257 then nm (kcpy M1 1 2 0 0 257) fun M2 => some M2 else none
set_option maxHeartbeats 4000000 in
set_option maxRecDepth 100000 in
theorem kX10_keep (l : Launch) (E : KE) (ad : Nat → Nat) (M : KS)  : CT l yX10_keep cX10_keep 1 none { frames := 1, cells := 0, slots := 0, locals := 60 } SM E ad [.ref (ad 0)] M (QV SM E ad) (fX10_keep M) := by
  refine CT.ofW (by decide) (Nat.le_of_ble_eq_true rfl) (fun sz p e s m args below meth c C hr hH ls hl => ?_)
  have hx := C.1.1
  have hb := C.1.2.1
  have hl : lv_has ls 1 [(0, .ref (ad 0))] := hl
  unfold fX10_keep
  refine lv_aload_n hx hb dX10_keep_0 rfl (lv_at hl 0 rfl) ?_
  refine lv_iconst (v := 0) hx hb dX10_keep_1 (by decide) ?_
  refine k_put1 C hH fd_X10_76 fw_X10_6 oM nM6 rfl rfl dX10_keep_2 (fun M1 H locs hH => ?_)
  refine lv_aload_n hx hb dX10_keep_5 rfl (lv_at hl 0 rfl) ?_
  refine k_get C hH fd_X10_9 oM (k_ref (M := M1) (ad := ad) rM0) dX10_keep_6 ?_
  refine lv_iconst (v := 0) hx hb dX10_keep_9 (by decide) ?_
  refine lv_aload_n hx hb dX10_keep_10 rfl (lv_at hl 0 rfl) ?_
  refine k_get C hH fd_X10_13 oM (k_ref (M := M1) (ad := ad) rM1) dX10_keep_11 ?_
  refine lv_iconst (v := 0) hx hb dX10_keep_14 (by decide) ?_
  refine lv_sipush (v := 257) hx hb dX10_keep_15 (by decide) ?_
  refine k_acopy C hH aM0 aM1 w_6_83 hl.1 (Nat.le_of_ble_eq_true rfl) (Nat.le_of_ble_eq_true rfl) dX10_keep_18 (fun M2 H locs hH => ?_)
  exact ke_v C hH hr (Nat.le_refl _) (Nat.le_refl _) rfl dX10_keep_21
def fX10_ends_J62_31 (a1 : Int32) (M1 : KS) : Option (Int32 × KS) := if jcp 0 257 (257 * (M1.1 0 5)) 2056 257 then nm (kcpy M1 2 4 0 (257 * (M1.1 0 5)) 257) fun M2 => nm (kset M2 0 5 ((M2.1 0 5) + 1)) fun M3 => some (a1, M3) else none
theorem fX10_ends_J62_31_u {a1 : Int32} {M1 : KS} : fX10_ends_J62_31 a1 M1 = if jcp 0 257 (257 * (M1.1 0 5)) 2056 257 then nm (kcpy M1 2 4 0 (257 * (M1.1 0 5)) 257) fun M2 => nm (kset M2 0 5 ((M2.1 0 5) + 1)) fun M3 => some (a1, M3) else none := rfl
def fX10_ends (M : KS) (a1 : Int32) : Option (Int32 × KS) := (if (M.1 0 6) ≤ 0 then jn (fX10_ends_J62_31 a1) (fun K62_31 => (if (M.1 0 5) = 8 then if jcp 257 2056 0 2056 1799 then nm (kcpy M 4 4 257 0 1799) fun M4 => nm (kset M4 0 5 ((M4.1 0 5) - 1)) fun M5 => K62_31 M5 else none else K62_31 M)) else if jcp 0 257 0 257 257 then nm (kcpy M 2 1 0 0 257) fun M6 => some (0, M6) else none)
set_option maxHeartbeats 4000000 in
set_option maxRecDepth 100000 in
theorem kX10_ends (l : Launch) (E : KE) (ad : Nat → Nat) (M : KS) (a1 : Int32) : CT l yX10_ends cX10_ends 2 (some .int) { frames := 1, cells := 0, slots := 0, locals := 60 } SM E ad [.ref (ad 0), .int a1] M (QI SM E ad) (fX10_ends M a1) := by
  refine CT.ofW (by decide) (Nat.le_of_ble_eq_true rfl) (fun sz p e s m args below meth c C hr hH ls hl => ?_)
  have hx := C.1.1
  have hb := C.1.2.1
  have hl : lv_has ls 2 [(0, .ref (ad 0)), (1, .int a1)] := hl
  unfold fX10_ends
  refine lv_aload_n hx hb dX10_ends_0 rfl (lv_at hl 0 rfl) ?_
  refine k_get C hH fd_X10_76 oM (k_int (M := M) (ad := ad) nM6) dX10_ends_1 ?_
  refine kb_if_le (tgt := 25) hx hb dX10_ends_4 (by decide) (fun _ => ?_) (fun _ => ?_)
  · refine lv_aload_n hx hb dX10_ends_25 rfl (lv_at hl 0 rfl) ?_
    refine k_get C hH fd_X10_85 oM (k_int (M := M) (ad := ad) nM5) dX10_ends_26 ?_
    refine lv_bipush (v := 8) hx hb dX10_ends_29 (by decide) ?_
    refine W_jn (fun (x : KS) H locs => KH SM E ad sz x s.heap H locs) (fun x ls => lv_has ls 2 [(0, .ref (ad 0)), (1, .int a1)]) (fun x ls => F0 m 62 ls []) ?_ (fun K62_31 hK62_31 => ?_)
    · intro M1 H locs ls hH hl
      have hH : KH SM E ad sz M1 s.heap H locs := hH
      have hl : lv_has ls 2 [(0, .ref (ad 0)), (1, .int a1)] := hl
      refine W_q fX10_ends_J62_31_u ?_
      refine lv_aload_n hx hb dX10_ends_62 rfl (lv_at hl 0 rfl) ?_
      refine k_get C hH fd_X10_13 oM (k_ref (M := M1) (ad := ad) rM1) dX10_ends_63 ?_
      refine lv_iconst (v := 0) hx hb dX10_ends_66 (by decide) ?_
      refine lv_aload_n hx hb dX10_ends_67 rfl (lv_at hl 0 rfl) ?_
      refine k_get C hH fd_X10_19 oM (k_ref (M := M1) (ad := ad) rM4) dX10_ends_68 ?_
      refine lv_sipush (v := 257) hx hb dX10_ends_71 (by decide) ?_
      refine lv_aload_n hx hb dX10_ends_74 rfl (lv_at hl 0 rfl) ?_
      refine k_get C hH fd_X10_85 oM (k_int (M := M1) (ad := ad) nM5) dX10_ends_75 ?_
      refine lv_imul hx hb dX10_ends_78 ?_
      refine lv_sipush (v := 257) hx hb dX10_ends_79 (by decide) ?_
      refine k_acopy C hH aM1 aM4 w_6_83 hl.1 (Nat.le_of_ble_eq_true rfl) (Nat.le_of_ble_eq_true rfl) dX10_ends_82 (fun M2 H locs hH => ?_)
      refine lv_aload_n hx hb dX10_ends_85 rfl (lv_at hl 0 rfl) ?_
      refine lv_dup hx hb dX10_ends_86 rfl ?_
      refine k_get C hH fd_X10_85 oM (k_int (M := M2) (ad := ad) nM5) dX10_ends_87 ?_
      refine lv_iconst (v := 1) hx hb dX10_ends_90 (by decide) ?_
      refine lv_iadd hx hb dX10_ends_91 ?_
      refine k_put1 C hH fd_X10_85 fw_X10_5 oM nM5 rfl rfl dX10_ends_92 (fun M3 H locs hH => ?_)
      refine lv_iload_n hx hb dX10_ends_95 rfl (lv_at hl 1 rfl) ?_
      exact ke_i C hH hr (Nat.le_refl _) (Nat.le_refl _) rfl dX10_ends_96
    · refine kb_icmp_ne (tgt := 62) hx hb dX10_ends_31 (by decide) (fun _ => ?_) (fun _ => ?_)
      · exact hK62_31 M _ _ _ hH (lv_sub hl [0, 1] rfl)
      · refine lv_aload_n hx hb dX10_ends_34 rfl (lv_at hl 0 rfl) ?_
        refine k_get C hH fd_X10_19 oM (k_ref (M := M) (ad := ad) rM4) dX10_ends_35 ?_
        refine lv_sipush (v := 257) hx hb dX10_ends_38 (by decide) ?_
        refine lv_aload_n hx hb dX10_ends_41 rfl (lv_at hl 0 rfl) ?_
        refine k_get C hH fd_X10_19 oM (k_ref (M := M) (ad := ad) rM4) dX10_ends_42 ?_
        refine lv_iconst (v := 0) hx hb dX10_ends_45 (by decide) ?_
        refine lv_sipush (v := 1799) hx hb dX10_ends_46 (by decide) ?_
        refine k_acopy C hH aM4 aM4 w_6_83 hl.1 (Nat.le_of_ble_eq_true rfl) (Nat.le_of_ble_eq_true rfl) dX10_ends_49 (fun M4 H locs hH => ?_)
        refine lv_aload_n hx hb dX10_ends_52 rfl (lv_at hl 0 rfl) ?_
        refine lv_dup hx hb dX10_ends_53 rfl ?_
        refine k_get C hH fd_X10_85 oM (k_int (M := M4) (ad := ad) nM5) dX10_ends_54 ?_
        refine lv_iconst (v := 1) hx hb dX10_ends_57 (by decide) ?_
        refine lv_isub hx hb dX10_ends_58 ?_
        refine k_put1 C hH fd_X10_85 fw_X10_5 oM nM5 rfl rfl dX10_ends_59 (fun M5 H locs hH => ?_)
        exact hK62_31 M5 _ _ _ hH (lv_sub hl [0, 1] rfl)
  · refine lv_aload_n hx hb dX10_ends_7 rfl (lv_at hl 0 rfl) ?_
    refine k_get C hH fd_X10_13 oM (k_ref (M := M) (ad := ad) rM1) dX10_ends_8 ?_
    refine lv_iconst (v := 0) hx hb dX10_ends_11 (by decide) ?_
    refine lv_aload_n hx hb dX10_ends_12 rfl (lv_at hl 0 rfl) ?_
    refine k_get C hH fd_X10_9 oM (k_ref (M := M) (ad := ad) rM0) dX10_ends_13 ?_
    refine lv_iconst (v := 0) hx hb dX10_ends_16 (by decide) ?_
    refine lv_sipush (v := 257) hx hb dX10_ends_17 (by decide) ?_
    refine k_acopy C hH aM1 aM0 w_6_83 hl.1 (Nat.le_of_ble_eq_true rfl) (Nat.le_of_ble_eq_true rfl) dX10_ends_20 (fun M6 H locs hH => ?_)
    refine lv_iconst (v := 0) hx hb dX10_ends_23 (by decide) ?_
    exact ke_i C hH hr (Nat.le_refl _) (Nat.le_refl _) rfl dX10_ends_24
def fX10_fails (M : KS) (a1 : Int32) : Option (Int32 × KS) := nm (kset M 0 6 a1) fun M1 => some (0, M1)
set_option maxHeartbeats 4000000 in
set_option maxRecDepth 100000 in
theorem kX10_fails (l : Launch) (E : KE) (ad : Nat → Nat) (M : KS) (a1 : Int32) : CT l yX10_fails cX10_fails 2 (some .int) { frames := 0, cells := 0, slots := 0, locals := 0 } SM E ad [.ref (ad 0), .int a1] M (QI SM E ad) (fX10_fails M a1) := by
  refine CT.ofW (by decide) (Nat.le_of_ble_eq_true rfl) (fun sz p e s m args below meth c C hr hH ls hl => ?_)
  have hx := C.1.1
  have hb := C.1.2.1
  have hl : lv_has ls 2 [(0, .ref (ad 0)), (1, .int a1)] := hl
  unfold fX10_fails
  refine lv_aload_n hx hb dX10_fails_0 rfl (lv_at hl 0 rfl) ?_
  refine lv_iload_n hx hb dX10_fails_1 rfl (lv_at hl 1 rfl) ?_
  refine k_put1 C hH fd_X10_76 fw_X10_6 oM nM6 rfl rfl dX10_fails_2 (fun M1 H locs hH => ?_)
  refine lv_iconst (v := 0) hx hb dX10_fails_5 (by decide) ?_
  exact ke_i C hH hr (Nat.le_refl _) (Nat.le_refl _) rfl dX10_fails_6
def fX10_refuse (M : KS) (a1 : Int32) (a2 : Int32) : Option (Int32 × KS) := nm (kset M 0 6 2) fun M1 => nm (kset M1 0 9 1) fun M2 => nm (kset M2 0 7 a1) fun M3 => nm (kset M3 0 8 a2) fun M4 => some (0, M4)
set_option maxHeartbeats 4000000 in
set_option maxRecDepth 100000 in
theorem kX10_refuse (l : Launch) (E : KE) (ad : Nat → Nat) (M : KS) (a1 : Int32) (a2 : Int32) : CT l yX10_refuse cX10_refuse 3 (some .int) { frames := 0, cells := 0, slots := 0, locals := 0 } SM E ad [.ref (ad 0), .int a1, .int a2] M (QI SM E ad) (fX10_refuse M a1 a2) := by
  refine CT.ofW (by decide) (Nat.le_of_ble_eq_true rfl) (fun sz p e s m args below meth c C hr hH ls hl => ?_)
  have hx := C.1.1
  have hb := C.1.2.1
  have hl : lv_has ls 3 [(0, .ref (ad 0)), (1, .int a1), (2, .int a2)] := hl
  unfold fX10_refuse
  refine lv_aload_n hx hb dX10_refuse_0 rfl (lv_at hl 0 rfl) ?_
  refine lv_iconst (v := 2) hx hb dX10_refuse_1 (by decide) ?_
  refine k_put1 C hH fd_X10_76 fw_X10_6 oM nM6 rfl rfl dX10_refuse_2 (fun M1 H locs hH => ?_)
  refine lv_aload_n hx hb dX10_refuse_5 rfl (lv_at hl 0 rfl) ?_
  refine lv_iconst (v := 1) hx hb dX10_refuse_6 (by decide) ?_
  refine k_put1 C hH fd_X10_88 fw_X10_9 oM nM9 rfl rfl dX10_refuse_7 (fun M2 H locs hH => ?_)
  refine lv_aload_n hx hb dX10_refuse_10 rfl (lv_at hl 0 rfl) ?_
  refine lv_iload_n hx hb dX10_refuse_11 rfl (lv_at hl 1 rfl) ?_
  refine k_put1 C hH fd_X10_92 fw_X10_7 oM nM7 rfl rfl dX10_refuse_12 (fun M3 H locs hH => ?_)
  refine lv_aload_n hx hb dX10_refuse_15 rfl (lv_at hl 0 rfl) ?_
  refine lv_iload_n hx hb dX10_refuse_16 rfl (lv_at hl 2 rfl) ?_
  refine k_put1 C hH fd_X10_95 fw_X10_8 oM nM8 rfl rfl dX10_refuse_17 (fun M4 H locs hH => ?_)
  refine lv_iconst (v := 0) hx hb dX10_refuse_20 (by decide) ?_
  exact ke_i C hH hr (Nat.le_refl _) (Nat.le_refl _) rfl dX10_refuse_21
def fX10_refusal_J13_5 (M : KS) (a1 : Int32) (v1 : Int32) : Option (Int32 × KS) := nm (kset M 0 6 v1) fun M2 => (if (M2.1 0 6) ≤ 0 then (if a1 = 0 then some ((M2.1 0 7), M2) else some ((M2.1 0 8), M2)) else some (0, M2))
theorem fX10_refusal_J13_5_u {M : KS} {a1 : Int32} {v1 : Int32} : fX10_refusal_J13_5 M a1 v1 = nm (kset M 0 6 v1) fun M2 => (if (M2.1 0 6) ≤ 0 then (if a1 = 0 then some ((M2.1 0 7), M2) else some ((M2.1 0 8), M2)) else some (0, M2)) := rfl
def fX10_refusal (M : KS) (a1 : Int32) : Option (Int32 × KS) := jn (fX10_refusal_J13_5 M a1) (fun K13_5 => (if (M.1 0 7) = 0 then K13_5 1 else K13_5 0))
set_option maxHeartbeats 4000000 in
set_option maxRecDepth 100000 in
theorem kX10_refusal (l : Launch) (E : KE) (ad : Nat → Nat) (M : KS) (a1 : Int32) : CT l yX10_refusal cX10_refusal 2 (some .int) { frames := 0, cells := 0, slots := 0, locals := 0 } SM E ad [.ref (ad 0), .int a1] M (QI SM E ad) (fX10_refusal M a1) := by
  refine CT.ofW (by decide) (Nat.le_of_ble_eq_true rfl) (fun sz p e s m args below meth c C hr hH ls hl => ?_)
  have hx := C.1.1
  have hb := C.1.2.1
  have hl : lv_has ls 2 [(0, .ref (ad 0)), (1, .int a1)] := hl
  unfold fX10_refusal
  refine lv_aload_n hx hb dX10_refusal_0 rfl (lv_at hl 0 rfl) ?_
  refine lv_aload_n hx hb dX10_refusal_1 rfl (lv_at hl 0 rfl) ?_
  refine k_get C hH fd_X10_92 oM (k_int (M := M) (ad := ad) nM7) dX10_refusal_2 ?_
  refine W_jn (fun (x : Int32) H locs => KH SM E ad sz M s.heap H locs) (fun x ls => lv_has ls 2 [(0, .ref (ad 0)), (1, .int a1)]) (fun x ls => F0 m 13 ls [.int x, .ref (ad 0)]) ?_ (fun K13_5 hK13_5 => ?_)
  · intro v1 H locs ls hH hl
    have hH : KH SM E ad sz M s.heap H locs := hH
    have hl : lv_has ls 2 [(0, .ref (ad 0)), (1, .int a1)] := hl
    refine W_q fX10_refusal_J13_5_u ?_
    refine k_put1 C hH fd_X10_76 fw_X10_6 oM nM6 rfl rfl dX10_refusal_13 (fun M2 H locs hH => ?_)
    refine lv_aload_n hx hb dX10_refusal_16 rfl (lv_at hl 0 rfl) ?_
    refine k_get C hH fd_X10_76 oM (k_int (M := M2) (ad := ad) nM6) dX10_refusal_17 ?_
    refine kb_if_le (tgt := 27) hx hb dX10_refusal_20 (by decide) (fun _ => ?_) (fun _ => ?_)
    · refine lv_iload_n hx hb dX10_refusal_27 rfl (lv_at hl 1 rfl) ?_
      refine kb_if_eq (tgt := 38) hx hb dX10_refusal_28 (by decide) (fun _ => ?_) (fun _ => ?_)
      · refine lv_aload_n hx hb dX10_refusal_38 rfl (lv_at hl 0 rfl) ?_
        refine k_get C hH fd_X10_92 oM (k_int (M := M2) (ad := ad) nM7) dX10_refusal_39 ?_
        exact ke_i C hH hr (Nat.le_refl _) (Nat.le_refl _) rfl dX10_refusal_42
      · refine lv_aload_n hx hb dX10_refusal_31 rfl (lv_at hl 0 rfl) ?_
        refine k_get C hH fd_X10_95 oM (k_int (M := M2) (ad := ad) nM8) dX10_refusal_32 ?_
        refine lv_goto (tgt := 42) hx hb dX10_refusal_35 (by decide) ?_
        exact ke_i C hH hr (Nat.le_refl _) (Nat.le_refl _) rfl dX10_refusal_42
    · refine lv_iconst (v := 0) hx hb dX10_refusal_23 (by decide) ?_
      refine lv_goto (tgt := 42) hx hb dX10_refusal_24 (by decide) ?_
      exact ke_i C hH hr (Nat.le_refl _) (Nat.le_refl _) rfl dX10_refusal_42
  · refine kb_if_ne (tgt := 12) hx hb dX10_refusal_5 (by decide) (fun _ => ?_) (fun _ => ?_)
    · refine lv_iconst (v := 0) hx hb dX10_refusal_12 (by decide) ?_
      exact hK13_5 0 _ _ _ hH (lv_sub hl [0, 1] rfl)
    · refine lv_iconst (v := 1) hx hb dX10_refusal_8 (by decide) ?_
      refine lv_goto (tgt := 13) hx hb dX10_refusal_9 (by decide) ?_
      exact hK13_5 1 _ _ _ hH (lv_sub hl [0, 1] rfl)
def fX10_isRelation (a0 : Int32) : Option (Int32) := if isB (fX10_in a0 0 5) then some (fX10_in a0 0 5) else none
set_option maxHeartbeats 4000000 in
set_option maxRecDepth 100000 in
theorem kX10_isRelation (l : Launch) (E : KE) (ad : Nat → Nat) (M : KS) (a0 : Int32) : CT l yX10_isRelation cX10_isRelation 1 (some .boolean) { frames := 1, cells := 0, slots := 0, locals := 22 } SM E ad [.int a0] M (fun sz a => QI SM E ad sz (a, M)) (fX10_isRelation a0) := by
  refine CT.ofW (by decide) (Nat.le_of_ble_eq_true rfl) (fun sz p e s m args below meth c C hr hH ls hl => ?_)
  have hx := C.1.1
  have hb := C.1.2.1
  have hl : lv_has ls 1 [(0, .int a0)] := hl
  unfold fX10_isRelation
  refine lv_iload_n hx hb dX10_isRelation_0 rfl (lv_at hl 0 rfl) ?_
  refine lv_iconst (v := 0) hx hb dX10_isRelation_1 (by decide) ?_
  refine lv_iconst (v := 5) hx hb dX10_isRelation_2 (by decide) ?_
  refine kg_ip C hH (kc_S C hH w_6_96 w_st_yX10_in rfl lc_yX10_in (kX10_in l E ad M a0 0 5) (As := [.int a0, .int 0, .int 5]) rfl dX10_isRelation_3 rfl hl.1 (Nat.le_of_ble_eq_true rfl) ⟨Nat.le_of_ble_eq_true rfl, Nat.le_of_ble_eq_true rfl⟩ ⟨Nat.le_of_ble_eq_true rfl, Nat.le_of_ble_eq_true rfl⟩) ⟨rfl, rfl⟩ (fun H locs hH => ?_)
  exact ke_zg C hH hr (Nat.le_refl _) (Nat.le_refl _) rfl dX10_isRelation_6
def fX10_isPerson (a0 : Int32) : Option (Int32) := if isB (fX10_in a0 0 5) then some (fX10_in a0 0 5) else none
set_option maxHeartbeats 4000000 in
set_option maxRecDepth 100000 in
theorem kX10_isPerson (l : Launch) (E : KE) (ad : Nat → Nat) (M : KS) (a0 : Int32) : CT l yX10_isPerson cX10_isPerson 1 (some .boolean) { frames := 1, cells := 0, slots := 0, locals := 22 } SM E ad [.int a0] M (fun sz a => QI SM E ad sz (a, M)) (fX10_isPerson a0) := by
  refine CT.ofW (by decide) (Nat.le_of_ble_eq_true rfl) (fun sz p e s m args below meth c C hr hH ls hl => ?_)
  have hx := C.1.1
  have hb := C.1.2.1
  have hl : lv_has ls 1 [(0, .int a0)] := hl
  unfold fX10_isPerson
  refine lv_iload_n hx hb dX10_isPerson_0 rfl (lv_at hl 0 rfl) ?_
  refine lv_iconst (v := 0) hx hb dX10_isPerson_1 (by decide) ?_
  refine lv_iconst (v := 5) hx hb dX10_isPerson_2 (by decide) ?_
  refine kg_ip C hH (kc_S C hH w_6_96 w_st_yX10_in rfl lc_yX10_in (kX10_in l E ad M a0 0 5) (As := [.int a0, .int 0, .int 5]) rfl dX10_isPerson_3 rfl hl.1 (Nat.le_of_ble_eq_true rfl) ⟨Nat.le_of_ble_eq_true rfl, Nat.le_of_ble_eq_true rfl⟩ ⟨Nat.le_of_ble_eq_true rfl, Nat.le_of_ble_eq_true rfl⟩) ⟨rfl, rfl⟩ (fun H locs hH => ?_)
  exact ke_zg C hH hr (Nat.le_refl _) (Nat.le_refl _) rfl dX10_isPerson_6
def fX10_isFact (a0 : Int32) (a1 : Int32) (a2 : Int32) : Option (Int32) := (fX10_isRelation a0).bind fun v1 => (if v1 = 0 then some 0 else (fX10_isPerson a1).bind fun v2 => (if v2 = 0 then some 0 else (fX10_isPerson a2).bind fun v3 => (if v3 = 0 then some 0 else some 1)))
set_option maxHeartbeats 4000000 in
set_option maxRecDepth 100000 in
theorem kX10_isFact (l : Launch) (E : KE) (ad : Nat → Nat) (M : KS) (a0 : Int32) (a1 : Int32) (a2 : Int32) : CT l yX10_isFact cX10_isFact 3 (some .boolean) { frames := 2, cells := 0, slots := 0, locals := 42 } SM E ad [.int a0, .int a1, .int a2] M (fun sz a => QI SM E ad sz (a, M)) (fX10_isFact a0 a1 a2) := by
  refine CT.ofW (by decide) (Nat.le_of_ble_eq_true rfl) (fun sz p e s m args below meth c C hr hH ls hl => ?_)
  have hx := C.1.1
  have hb := C.1.2.1
  have hl : lv_has ls 3 [(0, .int a0), (1, .int a1), (2, .int a2)] := hl
  unfold fX10_isFact
  refine lv_iload_n hx hb dX10_isFact_0 rfl (lv_at hl 0 rfl) ?_
  refine kg_io C hH (kc_S C hH w_6_93 w_st_yX10_isRelation rfl lc_yX10_isRelation (kX10_isRelation l E ad M a0) (As := [.int a0]) rfl dX10_isFact_1 rfl hl.1 (Nat.le_of_ble_eq_true rfl) ⟨Nat.le_of_ble_eq_true rfl, Nat.le_of_ble_eq_true rfl⟩ ⟨Nat.le_of_ble_eq_true rfl, Nat.le_of_ble_eq_true rfl⟩) ⟨rfl, rfl⟩ (fun v1 H locs hH => ?_)
  refine kb_if_eq (tgt := 25) hx hb dX10_isFact_4 (by decide) (fun _ => ?_) (fun _ => ?_)
  · refine lv_iconst (v := 0) hx hb dX10_isFact_25 (by decide) ?_
    exact ke_z C hH hr (Nat.le_refl _) (Nat.le_refl _) rfl (Or.inl rfl) dX10_isFact_26
  · refine lv_iload_n hx hb dX10_isFact_7 rfl (lv_at hl 1 rfl) ?_
    refine kg_io C hH (kc_S C hH w_6_99 w_st_yX10_isPerson rfl lc_yX10_isPerson (kX10_isPerson l E ad M a1) (As := [.int a1]) rfl dX10_isFact_8 rfl hl.1 (Nat.le_of_ble_eq_true rfl) ⟨Nat.le_of_ble_eq_true rfl, Nat.le_of_ble_eq_true rfl⟩ ⟨Nat.le_of_ble_eq_true rfl, Nat.le_of_ble_eq_true rfl⟩) ⟨rfl, rfl⟩ (fun v2 H locs hH => ?_)
    refine kb_if_eq (tgt := 25) hx hb dX10_isFact_11 (by decide) (fun _ => ?_) (fun _ => ?_)
    · refine lv_iconst (v := 0) hx hb dX10_isFact_25 (by decide) ?_
      exact ke_z C hH hr (Nat.le_refl _) (Nat.le_refl _) rfl (Or.inl rfl) dX10_isFact_26
    · refine lv_iload_n hx hb dX10_isFact_14 rfl (lv_at hl 2 rfl) ?_
      refine kg_io C hH (kc_S C hH w_6_99 w_st_yX10_isPerson rfl lc_yX10_isPerson (kX10_isPerson l E ad M a2) (As := [.int a2]) rfl dX10_isFact_15 rfl hl.1 (Nat.le_of_ble_eq_true rfl) ⟨Nat.le_of_ble_eq_true rfl, Nat.le_of_ble_eq_true rfl⟩ ⟨Nat.le_of_ble_eq_true rfl, Nat.le_of_ble_eq_true rfl⟩) ⟨rfl, rfl⟩ (fun v3 H locs hH => ?_)
      refine kb_if_eq (tgt := 25) hx hb dX10_isFact_18 (by decide) (fun _ => ?_) (fun _ => ?_)
      · refine lv_iconst (v := 0) hx hb dX10_isFact_25 (by decide) ?_
        exact ke_z C hH hr (Nat.le_refl _) (Nat.le_refl _) rfl (Or.inl rfl) dX10_isFact_26
      · refine lv_iconst (v := 1) hx hb dX10_isFact_21 (by decide) ?_
        refine lv_goto (tgt := 26) hx hb dX10_isFact_22 (by decide) ?_
        exact ke_z C hH hr (Nat.le_refl _) (Nat.le_refl _) rfl (Or.inr rfl) dX10_isFact_26
def fX10_fact_o (a0 : Int32) (a1 : Int32) (a2 : Int32) : Option (Int32) := some (((36 * a0) + (6 * a1)) + a2)
def fX10_fact (a0 : Int32) (a1 : Int32) (a2 : Int32) : Int32 := (((36 * a0) + (6 * a1)) + a2)
theorem fX10_fact_s {a0 : Int32} {a1 : Int32} {a2 : Int32} : fX10_fact_o a0 a1 a2 = some (fX10_fact a0 a1 a2) := by
  unfold fX10_fact_o fX10_fact
  (repeat' split) <;> rfl
set_option maxHeartbeats 4000000 in
set_option maxRecDepth 100000 in
theorem kX10_fact_o (l : Launch) (E : KE) (ad : Nat → Nat) (M : KS) (a0 : Int32) (a1 : Int32) (a2 : Int32) : CT l yX10_fact cX10_fact 3 (some .int) { frames := 0, cells := 0, slots := 0, locals := 0 } SM E ad [.int a0, .int a1, .int a2] M (fun sz a => QI SM E ad sz (a, M)) (fX10_fact_o a0 a1 a2) := by
  refine CT.ofW (by decide) (Nat.le_of_ble_eq_true rfl) (fun sz p e s m args below meth c C hr hH ls hl => ?_)
  have hx := C.1.1
  have hb := C.1.2.1
  have hl : lv_has ls 3 [(0, .int a0), (1, .int a1), (2, .int a2)] := hl
  unfold fX10_fact_o
  refine lv_bipush (v := 36) hx hb dX10_fact_0 (by decide) ?_
  refine lv_iload_n hx hb dX10_fact_2 rfl (lv_at hl 0 rfl) ?_
  refine lv_imul hx hb dX10_fact_3 ?_
  refine lv_bipush (v := 6) hx hb dX10_fact_4 (by decide) ?_
  refine lv_iload_n hx hb dX10_fact_6 rfl (lv_at hl 1 rfl) ?_
  refine lv_imul hx hb dX10_fact_7 ?_
  refine lv_iadd hx hb dX10_fact_8 ?_
  refine lv_iload_n hx hb dX10_fact_9 rfl (lv_at hl 2 rfl) ?_
  refine lv_iadd hx hb dX10_fact_10 ?_
  exact ke_i C hH hr (Nat.le_refl _) (Nat.le_refl _) rfl dX10_fact_11
theorem kX10_fact (l : Launch) (E : KE) (ad : Nat → Nat) (M : KS) (a0 : Int32) (a1 : Int32) (a2 : Int32) : CT l yX10_fact cX10_fact 3 (some .int) { frames := 0, cells := 0, slots := 0, locals := 0 } SM E ad [.int a0, .int a1, .int a2] M (fun sz (_ : Unit) => QI SM E ad sz (fX10_fact a0 a1 a2, M)) (some ()) := CT.pure (kX10_fact_o l E ad M a0 a1 a2) fX10_fact_s
def fX10_head (M : KS) (a1 : Int32) : Option (Int32) := if inb (217 + (4 * a1)) 257 then some (M.1 1 (217 + (4 * a1)).toNatClampNeg) else none
set_option maxHeartbeats 4000000 in
set_option maxRecDepth 100000 in
theorem kX10_head (l : Launch) (E : KE) (ad : Nat → Nat) (M : KS) (a1 : Int32) : CT l yX10_head cX10_head 2 (some .int) { frames := 0, cells := 0, slots := 0, locals := 0 } SM E ad [.ref (ad 0), .int a1] M (fun sz a => QI SM E ad sz (a, M)) (fX10_head M a1) := by
  refine CT.ofW (by decide) (Nat.le_of_ble_eq_true rfl) (fun sz p e s m args below meth c C hr hH ls hl => ?_)
  have hx := C.1.1
  have hb := C.1.2.1
  have hl : lv_has ls 2 [(0, .ref (ad 0)), (1, .int a1)] := hl
  unfold fX10_head
  refine lv_aload_n hx hb dX10_head_0 rfl (lv_at hl 0 rfl) ?_
  refine k_get C hH fd_X10_9 oM (k_ref (M := M) (ad := ad) rM0) dX10_head_1 ?_
  refine lv_sipush (v := 217) hx hb dX10_head_4 (by decide) ?_
  refine lv_iconst (v := 4) hx hb dX10_head_7 (by decide) ?_
  refine lv_iload_n hx hb dX10_head_8 rfl (lv_at hl 1 rfl) ?_
  refine lv_imul hx hb dX10_head_9 ?_
  refine lv_iadd hx hb dX10_head_10 ?_
  refine k_iald C hH aM0 dX10_head_11 ?_
  exact ke_i C hH hr (Nat.le_refl _) (Nat.le_refl _) rfl dX10_head_12
def fX10_conditionOf (M : KS) (a1 : Int32) (a2 : Int32) : Option (Int32) := if inb (((217 + (4 * a1)) + 1) + a2) 257 then some (M.1 1 (((217 + (4 * a1)) + 1) + a2).toNatClampNeg) else none
set_option maxHeartbeats 4000000 in
set_option maxRecDepth 100000 in
theorem kX10_conditionOf (l : Launch) (E : KE) (ad : Nat → Nat) (M : KS) (a1 : Int32) (a2 : Int32) : CT l yX10_conditionOf cX10_conditionOf 3 (some .int) { frames := 0, cells := 0, slots := 0, locals := 0 } SM E ad [.ref (ad 0), .int a1, .int a2] M (fun sz a => QI SM E ad sz (a, M)) (fX10_conditionOf M a1 a2) := by
  refine CT.ofW (by decide) (Nat.le_of_ble_eq_true rfl) (fun sz p e s m args below meth c C hr hH ls hl => ?_)
  have hx := C.1.1
  have hb := C.1.2.1
  have hl : lv_has ls 3 [(0, .ref (ad 0)), (1, .int a1), (2, .int a2)] := hl
  unfold fX10_conditionOf
  refine lv_aload_n hx hb dX10_conditionOf_0 rfl (lv_at hl 0 rfl) ?_
  refine k_get C hH fd_X10_9 oM (k_ref (M := M) (ad := ad) rM0) dX10_conditionOf_1 ?_
  refine lv_sipush (v := 217) hx hb dX10_conditionOf_4 (by decide) ?_
  refine lv_iconst (v := 4) hx hb dX10_conditionOf_7 (by decide) ?_
  refine lv_iload_n hx hb dX10_conditionOf_8 rfl (lv_at hl 1 rfl) ?_
  refine lv_imul hx hb dX10_conditionOf_9 ?_
  refine lv_iadd hx hb dX10_conditionOf_10 ?_
  refine lv_iconst (v := 1) hx hb dX10_conditionOf_11 (by decide) ?_
  refine lv_iadd hx hb dX10_conditionOf_12 ?_
  refine lv_iload_n hx hb dX10_conditionOf_13 rfl (lv_at hl 2 rfl) ?_
  refine lv_iadd hx hb dX10_conditionOf_14 ?_
  refine k_iald C hH aM0 dX10_conditionOf_15 ?_
  exact ke_i C hH hr (Nat.le_refl _) (Nat.le_refl _) rfl dX10_conditionOf_16
def fX10_relationIn_o (a0 : Int32) : Option (Int32) := some (((jabs a0) - 1) / 9)
def fX10_relationIn (a0 : Int32) : Int32 := (((jabs a0) - 1) / 9)
theorem fX10_relationIn_s {a0 : Int32} : fX10_relationIn_o a0 = some (fX10_relationIn a0) := by
  unfold fX10_relationIn_o fX10_relationIn
  (repeat' split) <;> rfl
set_option maxHeartbeats 4000000 in
set_option maxRecDepth 100000 in
theorem kX10_relationIn_o (l : Launch) (E : KE) (ad : Nat → Nat) (M : KS) (a0 : Int32) : CT l yX10_relationIn cX10_relationIn 1 (some .int) { frames := 1, cells := 0, slots := 0, locals := 24 } SM E ad [.int a0] M (fun sz a => QI SM E ad sz (a, M)) (fX10_relationIn_o a0) := by
  refine CT.ofW (by decide) (Nat.le_of_ble_eq_true rfl) (fun sz p e s m args below meth c C hr hH ls hl => ?_)
  have hx := C.1.1
  have hb := C.1.2.1
  have hl : lv_has ls 1 [(0, .int a0)] := hl
  unfold fX10_relationIn_o
  refine lv_iload_n hx hb dX10_relationIn_0 rfl (lv_at hl 0 rfl) ?_
  refine k_mabs C w_6_140 hl.1 (Nat.le_of_ble_eq_true rfl) (Nat.le_of_ble_eq_true rfl) ⟨Nat.zero_le _, Nat.zero_le _⟩ dX10_relationIn_1 ?_
  refine lv_iconst (v := 1) hx hb dX10_relationIn_4 (by decide) ?_
  refine lv_isub hx hb dX10_relationIn_5 ?_
  refine lv_bipush (v := 9) hx hb dX10_relationIn_6 (by decide) ?_
  refine lv_idiv hx hb dX10_relationIn_8 (by decide) ?_
  exact ke_i C hH hr (Nat.le_refl _) (Nat.le_refl _) rfl dX10_relationIn_9
theorem kX10_relationIn (l : Launch) (E : KE) (ad : Nat → Nat) (M : KS) (a0 : Int32) : CT l yX10_relationIn cX10_relationIn 1 (some .int) { frames := 1, cells := 0, slots := 0, locals := 24 } SM E ad [.int a0] M (fun sz (_ : Unit) => QI SM E ad sz (fX10_relationIn a0, M)) (some ()) := CT.pure (kX10_relationIn_o l E ad M a0) fX10_relationIn_s
def fX10_letterIn (a0 : Int32) (a1 : Int32) : Option (Int32) := nm ((jrem ((jabs a0) - 1) 9)) fun v1 => (if a1 = 0 then some (v1 / 3) else some (jrem v1 3))
set_option maxHeartbeats 4000000 in
set_option maxRecDepth 100000 in
theorem kX10_letterIn (l : Launch) (E : KE) (ad : Nat → Nat) (M : KS) (a0 : Int32) (a1 : Int32) : CT l yX10_letterIn cX10_letterIn 3 (some .int) { frames := 1, cells := 0, slots := 0, locals := 24 } SM E ad [.int a0, .int a1] M (fun sz a => QI SM E ad sz (a, M)) (fX10_letterIn a0 a1) := by
  refine CT.ofW (by decide) (Nat.le_of_ble_eq_true rfl) (fun sz p e s m args below meth c C hr hH ls hl => ?_)
  have hx := C.1.1
  have hb := C.1.2.1
  have hl : lv_has ls 3 [(0, .int a0), (1, .int a1)] := hl
  unfold fX10_letterIn
  refine lv_iload_n hx hb dX10_letterIn_0 rfl (lv_at hl 0 rfl) ?_
  refine k_mabs C w_6_140 hl.1 (Nat.le_of_ble_eq_true rfl) (Nat.le_of_ble_eq_true rfl) ⟨Nat.zero_le _, Nat.zero_le _⟩ dX10_letterIn_1 ?_
  refine lv_iconst (v := 1) hx hb dX10_letterIn_4 (by decide) ?_
  refine lv_isub hx hb dX10_letterIn_5 ?_
  refine lv_bipush (v := 9) hx hb dX10_letterIn_6 (by decide) ?_
  refine k_irem hx hb dX10_letterIn_8 (by decide) ?_
  refine W_nmi (fun v1 => ?_)
  refine lv_istore_n (lv' := [(2, .int v1), (0, .int a0), (1, .int a1)]) hx hb dX10_letterIn_9 rfl hl (by decide) rfl (fun ls hl => ?_)
  refine lv_iload_n hx hb dX10_letterIn_10 rfl (lv_at hl 2 rfl) ?_
  refine kb_if_eq (tgt := 20) hx hb dX10_letterIn_11 (by decide) (fun _ => ?_) (fun _ => ?_)
  · refine lv_iload_n hx hb dX10_letterIn_20 rfl (lv_at hl 0 rfl) ?_
    refine lv_iconst (v := 3) hx hb dX10_letterIn_21 (by decide) ?_
    refine lv_idiv hx hb dX10_letterIn_22 (by decide) ?_
    exact ke_i C hH hr (Nat.le_refl _) (Nat.le_refl _) rfl dX10_letterIn_23
  · refine lv_iload_n hx hb dX10_letterIn_14 rfl (lv_at hl 0 rfl) ?_
    refine lv_iconst (v := 3) hx hb dX10_letterIn_15 (by decide) ?_
    refine k_irem hx hb dX10_letterIn_16 (by decide) ?_
    refine lv_goto (tgt := 23) hx hb dX10_letterIn_17 (by decide) ?_
    exact ke_i C hH hr (Nat.le_refl _) (Nat.le_refl _) rfl dX10_letterIn_23
def fX10_hasLetter (a0 : Int32) (a1 : Int32) : Option (Int32) := (if a0 = 0 then some 0 else (fX10_letterIn a0 0).bind fun v1 => (if v1 = a1 then some 1 else (fX10_letterIn a0 1).bind fun v2 => (if v2 = a1 then some 1 else some 0)))
set_option maxHeartbeats 4000000 in
set_option maxRecDepth 100000 in
theorem kX10_hasLetter (l : Launch) (E : KE) (ad : Nat → Nat) (M : KS) (a0 : Int32) (a1 : Int32) : CT l yX10_hasLetter cX10_hasLetter 2 (some .boolean) { frames := 2, cells := 0, slots := 0, locals := 46 } SM E ad [.int a0, .int a1] M (fun sz a => QI SM E ad sz (a, M)) (fX10_hasLetter a0 a1) := by
  refine CT.ofW (by decide) (Nat.le_of_ble_eq_true rfl) (fun sz p e s m args below meth c C hr hH ls hl => ?_)
  have hx := C.1.1
  have hb := C.1.2.1
  have hl : lv_has ls 2 [(0, .int a0), (1, .int a1)] := hl
  unfold fX10_hasLetter
  refine lv_iload_n hx hb dX10_hasLetter_0 rfl (lv_at hl 0 rfl) ?_
  refine kb_if_eq (tgt := 26) hx hb dX10_hasLetter_1 (by decide) (fun _ => ?_) (fun _ => ?_)
  · refine lv_iconst (v := 0) hx hb dX10_hasLetter_26 (by decide) ?_
    exact ke_z C hH hr (Nat.le_refl _) (Nat.le_refl _) rfl (Or.inl rfl) dX10_hasLetter_27
  · refine lv_iload_n hx hb dX10_hasLetter_4 rfl (lv_at hl 0 rfl) ?_
    refine lv_iconst (v := 0) hx hb dX10_hasLetter_5 (by decide) ?_
    refine kg_io C hH (kc_S C hH w_6_167 w_st_yX10_letterIn rfl lc_yX10_letterIn (kX10_letterIn l E ad M a0 0) (As := [.int a0, .int 0]) rfl dX10_hasLetter_6 rfl hl.1 (Nat.le_of_ble_eq_true rfl) ⟨Nat.le_of_ble_eq_true rfl, Nat.le_of_ble_eq_true rfl⟩ ⟨Nat.le_of_ble_eq_true rfl, Nat.le_of_ble_eq_true rfl⟩) ⟨rfl, rfl⟩ (fun v1 H locs hH => ?_)
    refine lv_iload_n hx hb dX10_hasLetter_9 rfl (lv_at hl 1 rfl) ?_
    refine kb_icmp_eq (tgt := 22) hx hb dX10_hasLetter_10 (by decide) (fun _ => ?_) (fun _ => ?_)
    · refine lv_iconst (v := 1) hx hb dX10_hasLetter_22 (by decide) ?_
      refine lv_goto (tgt := 27) hx hb dX10_hasLetter_23 (by decide) ?_
      exact ke_z C hH hr (Nat.le_refl _) (Nat.le_refl _) rfl (Or.inr rfl) dX10_hasLetter_27
    · refine lv_iload_n hx hb dX10_hasLetter_13 rfl (lv_at hl 0 rfl) ?_
      refine lv_iconst (v := 1) hx hb dX10_hasLetter_14 (by decide) ?_
      refine kg_io C hH (kc_S C hH w_6_167 w_st_yX10_letterIn rfl lc_yX10_letterIn (kX10_letterIn l E ad M a0 1) (As := [.int a0, .int 1]) rfl dX10_hasLetter_15 rfl hl.1 (Nat.le_of_ble_eq_true rfl) ⟨Nat.le_of_ble_eq_true rfl, Nat.le_of_ble_eq_true rfl⟩ ⟨Nat.le_of_ble_eq_true rfl, Nat.le_of_ble_eq_true rfl⟩) ⟨rfl, rfl⟩ (fun v2 H locs hH => ?_)
      refine lv_iload_n hx hb dX10_hasLetter_18 rfl (lv_at hl 1 rfl) ?_
      refine kb_icmp_ne (tgt := 26) hx hb dX10_hasLetter_19 (by decide) (fun _ => ?_) (fun _ => ?_)
      · refine lv_iconst (v := 0) hx hb dX10_hasLetter_26 (by decide) ?_
        exact ke_z C hH hr (Nat.le_refl _) (Nat.le_refl _) rfl (Or.inl rfl) dX10_hasLetter_27
      · refine lv_iconst (v := 1) hx hb dX10_hasLetter_22 (by decide) ?_
        refine lv_goto (tgt := 27) hx hb dX10_hasLetter_23 (by decide) ?_
        exact ke_z C hH hr (Nat.le_refl _) (Nat.le_refl _) rfl (Or.inr rfl) dX10_hasLetter_27
def fX10_ruleHas_X5 (v3 : Int32) : Option (Int32) := if isB v3 then some v3 else none
theorem fX10_ruleHas_X5_u {v3 : Int32} : fX10_ruleHas_X5 v3 = if isB v3 then some v3 else none := rfl
def fX10_ruleHas_L5 (M : KS) (a1 : Int32) (a2 : Int32) (rec5 : (Int32 × Int32) → Option (Int32)) (k5 : (Int32) → Option (Int32)) (x : Int32 × Int32) : Option (Int32) := match x with | (v1, v2) => (if 3 ≤ v2 then k5 v1 else (if v1 = 0 then (fX10_conditionOf M a1 v2).bind fun v5 => (fX10_hasLetter v5 a2).bind fun v6 => (if v6 = 0 then nm (v2 + 1) fun v7 => rec5 (0, v7) else nm (v2 + 1) fun v8 => rec5 (1, v8)) else nm (v2 + 1) fun v4 => rec5 (1, v4)))
theorem fX10_ruleHas_L5_u {M : KS} {a1 : Int32} {a2 : Int32} {rec5 : (Int32 × Int32) → Option (Int32)} {k5 : (Int32) → Option (Int32)} {v1 : Int32} {v2 : Int32} : fX10_ruleHas_L5 M a1 a2 rec5 k5 (v1, v2) = (if 3 ≤ v2 then k5 v1 else (if v1 = 0 then (fX10_conditionOf M a1 v2).bind fun v5 => (fX10_hasLetter v5 a2).bind fun v6 => (if v6 = 0 then nm (v2 + 1) fun v7 => rec5 (0, v7) else nm (v2 + 1) fun v8 => rec5 (1, v8)) else nm (v2 + 1) fun v4 => rec5 (1, v4))) := rfl
def fX10_ruleHas (M : KS) (a1 : Int32) (a2 : Int32) : Option (Int32) := lp (fX10_ruleHas_L5 M a1 a2) (fX10_ruleHas_X5) 1000000 (0, 0)
set_option maxHeartbeats 4000000 in
set_option maxRecDepth 100000 in
theorem kX10_ruleHas (l : Launch) (E : KE) (ad : Nat → Nat) (M : KS) (a1 : Int32) (a2 : Int32) : CT l yX10_ruleHas cX10_ruleHas 5 (some .boolean) { frames := 3, cells := 0, slots := 0, locals := 67 } SM E ad [.ref (ad 0), .int a1, .int a2] M (fun sz a => QI SM E ad sz (a, M)) (fX10_ruleHas M a1 a2) := by
  refine CT.ofW (by decide) (Nat.le_of_ble_eq_true rfl) (fun sz p e s m args below meth c C hr hH ls hl => ?_)
  have hx := C.1.1
  have hb := C.1.2.1
  have hl : lv_has ls 5 [(0, .ref (ad 0)), (1, .int a1), (2, .int a2)] := hl
  unfold fX10_ruleHas
  refine lv_iconst (v := 0) hx hb dX10_ruleHas_0 (by decide) ?_
  refine lv_istore_n (lv' := [(3, .int 0), (0, .ref (ad 0)), (1, .int a1), (2, .int a2)]) hx hb dX10_ruleHas_1 rfl hl (by decide) rfl (fun ls hl => ?_)
  refine lv_iconst (v := 0) hx hb dX10_ruleHas_2 (by decide) ?_
  refine lv_istore (lv' := [(4, .int 0), (3, .int 0), (0, .ref (ad 0)), (1, .int a1), (2, .int a2)]) hx hb dX10_ruleHas_3 hl (by decide) rfl (fun ls hl => ?_)
  refine W_lp (fun (x : Int32 × Int32) H locs => KH SM E ad sz M s.heap H locs) (fun x ls => lv_has ls 5 [(0, .ref (ad 0)), (1, .int a1), (2, .int a2), (3, .int x.1), (4, .int x.2)]) (fun _ ls => F0 m 5 ls []) (fun (x : Int32) H locs => KH SM E ad sz M s.heap H locs) (fun x ls => lv_has ls 5 [(3, .int x)]) (fun _ ls => F0 m 41 ls []) ?_ ?_ hH (lv_sub hl [2, 3, 4, 1, 0] rfl)
  · intro v3 H locs ls hH hl
    have hH : KH SM E ad sz M s.heap H locs := hH
    have hl : lv_has ls 5 [(3, .int v3)] := hl
    refine W_q fX10_ruleHas_X5_u ?_
    refine lv_iload_n hx hb dX10_ruleHas_41 rfl (lv_at hl 0 rfl) ?_
    exact ke_zg C hH hr (Nat.le_refl _) (Nat.le_refl _) rfl dX10_ruleHas_42
  · intro rec5 k5 hrec5 hk5 ⟨v1, v2⟩ H locs ls hH hl
    have hH : KH SM E ad sz M s.heap H locs := hH
    have hl : lv_has ls 5 [(0, .ref (ad 0)), (1, .int a1), (2, .int a2), (3, .int v1), (4, .int v2)] := hl
    refine W_q fX10_ruleHas_L5_u ?_
    refine lv_iload hx hb dX10_ruleHas_5 (lv_at hl 4 rfl) ?_
    refine lv_iconst (v := 3) hx hb dX10_ruleHas_7 (by decide) ?_
    refine kb_icmp_ge (tgt := 41) hx hb dX10_ruleHas_8 (by decide) (fun _ => ?_) (fun _ => ?_)
    · exact hk5 v1 _ _ _ hH (lv_sub hl [3] rfl)
    · refine lv_iload_n hx hb dX10_ruleHas_11 rfl (lv_at hl 3 rfl) ?_
      refine kb_if_ne (tgt := 29) hx hb dX10_ruleHas_12 (by decide) (fun _ => ?_) (fun _ => ?_)
      · refine lv_iconst (v := 1) hx hb dX10_ruleHas_29 (by decide) ?_
        refine lv_goto (tgt := 34) hx hb dX10_ruleHas_30 (by decide) ?_
        refine lv_istore_n (lv' := [(3, .int 1), (0, .ref (ad 0)), (1, .int a1), (2, .int a2), (4, .int v2)]) hx hb dX10_ruleHas_34 rfl hl (by decide) rfl (fun ls hl => ?_)
        refine W_nm (fun v4 ev4 => ?_)
        refine lv_iinc (v := v4) (lv' := [(4, .int v4), (3, .int 1), (0, .ref (ad 0)), (1, .int a1), (2, .int a2)]) hx hb dX10_ruleHas_35 hl (k := 4) rfl (by rw [ev4]; rfl) (by decide) rfl (fun ls hl => ?_)
        refine lv_goto (tgt := 5) hx hb dX10_ruleHas_38 (by decide) ?_
        exact hrec5 (1, v4) _ _ _ hH (lv_sub hl [2, 3, 4, 1, 0] rfl)
      · refine lv_aload_n hx hb dX10_ruleHas_15 rfl (lv_at hl 0 rfl) ?_
        refine lv_iload_n hx hb dX10_ruleHas_16 rfl (lv_at hl 1 rfl) ?_
        refine lv_iload hx hb dX10_ruleHas_17 (lv_at hl 4 rfl) ?_
        refine kg_io C hH (kc_V C hH w_6_133 lc_yX10_conditionOf li_yX10_conditionOf oM (kX10_conditionOf l E ad M a1 v2) (As := [.int a1, .int v2]) rfl dX10_ruleHas_19 rfl hl.1 (Nat.le_of_ble_eq_true rfl) ⟨Nat.le_of_ble_eq_true rfl, Nat.le_of_ble_eq_true rfl⟩ ⟨Nat.le_of_ble_eq_true rfl, Nat.le_of_ble_eq_true rfl⟩) ⟨rfl, rfl⟩ (fun v5 H locs hH => ?_)
        refine lv_iload_n hx hb dX10_ruleHas_22 rfl (lv_at hl 2 rfl) ?_
        refine kg_io C hH (kc_S C hH w_6_164 w_st_yX10_hasLetter rfl lc_yX10_hasLetter (kX10_hasLetter l E ad M v5 a2) (As := [.int v5, .int a2]) rfl dX10_ruleHas_23 rfl hl.1 (Nat.le_of_ble_eq_true rfl) ⟨Nat.le_of_ble_eq_true rfl, Nat.le_of_ble_eq_true rfl⟩ ⟨Nat.le_of_ble_eq_true rfl, Nat.le_of_ble_eq_true rfl⟩) ⟨rfl, rfl⟩ (fun v6 H locs hH => ?_)
        refine kb_if_eq (tgt := 33) hx hb dX10_ruleHas_26 (by decide) (fun _ => ?_) (fun _ => ?_)
        · refine lv_iconst (v := 0) hx hb dX10_ruleHas_33 (by decide) ?_
          refine lv_istore_n (lv' := [(3, .int 0), (0, .ref (ad 0)), (1, .int a1), (2, .int a2), (4, .int v2)]) hx hb dX10_ruleHas_34 rfl hl (by decide) rfl (fun ls hl => ?_)
          refine W_nm (fun v7 ev7 => ?_)
          refine lv_iinc (v := v7) (lv' := [(4, .int v7), (3, .int 0), (0, .ref (ad 0)), (1, .int a1), (2, .int a2)]) hx hb dX10_ruleHas_35 hl (k := 4) rfl (by rw [ev7]; rfl) (by decide) rfl (fun ls hl => ?_)
          refine lv_goto (tgt := 5) hx hb dX10_ruleHas_38 (by decide) ?_
          exact hrec5 (0, v7) _ _ _ hH (lv_sub hl [2, 3, 4, 1, 0] rfl)
        · refine lv_iconst (v := 1) hx hb dX10_ruleHas_29 (by decide) ?_
          refine lv_goto (tgt := 34) hx hb dX10_ruleHas_30 (by decide) ?_
          refine lv_istore_n (lv' := [(3, .int 1), (0, .ref (ad 0)), (1, .int a1), (2, .int a2), (4, .int v2)]) hx hb dX10_ruleHas_34 rfl hl (by decide) rfl (fun ls hl => ?_)
          refine W_nm (fun v8 ev8 => ?_)
          refine lv_iinc (v := v8) (lv' := [(4, .int v8), (3, .int 1), (0, .ref (ad 0)), (1, .int a1), (2, .int a2)]) hx hb dX10_ruleHas_35 hl (k := 4) rfl (by rw [ev8]; rfl) (by decide) rfl (fun ls hl => ?_)
          refine lv_goto (tgt := 5) hx hb dX10_ruleHas_38 (by decide) ?_
          exact hrec5 (1, v8) _ _ _ hH (lv_sub hl [2, 3, 4, 1, 0] rfl)
def fX10_conditionMany_X5 (v3 : Int32) : Option (Int32) := some v3
theorem fX10_conditionMany_X5_u {v3 : Int32} : fX10_conditionMany_X5 v3 = some v3 := rfl
def fX10_conditionMany_L5 (M : KS) (a1 : Int32) (a2 : Int32) (rec5 : (Int32 × Int32) → Option (Int32)) (k5 : (Int32) → Option (Int32)) (x : Int32 × Int32) : Option (Int32) := match x with | (v1, v2) => (if 3 ≤ v2 then k5 v1 else (fX10_conditionOf M a1 v2).bind fun v4 => (if a2 = 0 then (if v4 = 0 then nm ((v1 + 0)) fun v5 => nm (v2 + 1) fun v6 => rec5 (v5, v6) else nm ((v1 + 1)) fun v7 => nm (v2 + 1) fun v8 => rec5 (v7, v8)) else (if 0 ≤ v4 then nm ((v1 + 0)) fun v9 => nm (v2 + 1) fun v10 => rec5 (v9, v10) else nm ((v1 + 1)) fun v11 => nm (v2 + 1) fun v12 => rec5 (v11, v12))))
theorem fX10_conditionMany_L5_u {M : KS} {a1 : Int32} {a2 : Int32} {rec5 : (Int32 × Int32) → Option (Int32)} {k5 : (Int32) → Option (Int32)} {v1 : Int32} {v2 : Int32} : fX10_conditionMany_L5 M a1 a2 rec5 k5 (v1, v2) = (if 3 ≤ v2 then k5 v1 else (fX10_conditionOf M a1 v2).bind fun v4 => (if a2 = 0 then (if v4 = 0 then nm ((v1 + 0)) fun v5 => nm (v2 + 1) fun v6 => rec5 (v5, v6) else nm ((v1 + 1)) fun v7 => nm (v2 + 1) fun v8 => rec5 (v7, v8)) else (if 0 ≤ v4 then nm ((v1 + 0)) fun v9 => nm (v2 + 1) fun v10 => rec5 (v9, v10) else nm ((v1 + 1)) fun v11 => nm (v2 + 1) fun v12 => rec5 (v11, v12)))) := rfl
def fX10_conditionMany (M : KS) (a1 : Int32) (a2 : Int32) : Option (Int32) := lp (fX10_conditionMany_L5 M a1 a2) (fX10_conditionMany_X5) 1000000 (0, 0)
set_option maxHeartbeats 4000000 in
set_option maxRecDepth 100000 in
theorem kX10_conditionMany (l : Launch) (E : KE) (ad : Nat → Nat) (M : KS) (a1 : Int32) (a2 : Int32) : CT l yX10_conditionMany cX10_conditionMany 6 (some .int) { frames := 1, cells := 0, slots := 0, locals := 22 } SM E ad [.ref (ad 0), .int a1, .int a2] M (fun sz a => QI SM E ad sz (a, M)) (fX10_conditionMany M a1 a2) := by
  refine CT.ofW (by decide) (Nat.le_of_ble_eq_true rfl) (fun sz p e s m args below meth c C hr hH ls hl => ?_)
  have hx := C.1.1
  have hb := C.1.2.1
  have hl : lv_has ls 6 [(0, .ref (ad 0)), (1, .int a1), (2, .int a2)] := hl
  unfold fX10_conditionMany
  refine lv_iconst (v := 0) hx hb dX10_conditionMany_0 (by decide) ?_
  refine lv_istore_n (lv' := [(3, .int 0), (0, .ref (ad 0)), (1, .int a1), (2, .int a2)]) hx hb dX10_conditionMany_1 rfl hl (by decide) rfl (fun ls hl => ?_)
  refine lv_iconst (v := 0) hx hb dX10_conditionMany_2 (by decide) ?_
  refine lv_istore (lv' := [(4, .int 0), (3, .int 0), (0, .ref (ad 0)), (1, .int a1), (2, .int a2)]) hx hb dX10_conditionMany_3 hl (by decide) rfl (fun ls hl => ?_)
  refine W_lp (fun (x : Int32 × Int32) H locs => KH SM E ad sz M s.heap H locs) (fun x ls => lv_has ls 6 [(0, .ref (ad 0)), (1, .int a1), (2, .int a2), (3, .int x.1), (4, .int x.2)]) (fun _ ls => F0 m 5 ls []) (fun (x : Int32) H locs => KH SM E ad sz M s.heap H locs) (fun x ls => lv_has ls 6 [(3, .int x)]) (fun _ ls => F0 m 56 ls []) ?_ ?_ hH (lv_sub hl [2, 3, 4, 1, 0] rfl)
  · intro v3 H locs ls hH hl
    have hH : KH SM E ad sz M s.heap H locs := hH
    have hl : lv_has ls 6 [(3, .int v3)] := hl
    refine W_q fX10_conditionMany_X5_u ?_
    refine lv_iload_n hx hb dX10_conditionMany_56 rfl (lv_at hl 0 rfl) ?_
    exact ke_i C hH hr (Nat.le_refl _) (Nat.le_refl _) rfl dX10_conditionMany_57
  · intro rec5 k5 hrec5 hk5 ⟨v1, v2⟩ H locs ls hH hl
    have hH : KH SM E ad sz M s.heap H locs := hH
    have hl : lv_has ls 6 [(0, .ref (ad 0)), (1, .int a1), (2, .int a2), (3, .int v1), (4, .int v2)] := hl
    refine W_q fX10_conditionMany_L5_u ?_
    refine lv_iload hx hb dX10_conditionMany_5 (lv_at hl 4 rfl) ?_
    refine lv_iconst (v := 3) hx hb dX10_conditionMany_7 (by decide) ?_
    refine kb_icmp_ge (tgt := 56) hx hb dX10_conditionMany_8 (by decide) (fun _ => ?_) (fun _ => ?_)
    · exact hk5 v1 _ _ _ hH (lv_sub hl [3] rfl)
    · refine lv_aload_n hx hb dX10_conditionMany_11 rfl (lv_at hl 0 rfl) ?_
      refine lv_iload_n hx hb dX10_conditionMany_12 rfl (lv_at hl 1 rfl) ?_
      refine lv_iload hx hb dX10_conditionMany_13 (lv_at hl 4 rfl) ?_
      refine kg_io C hH (kc_V C hH w_6_133 lc_yX10_conditionOf li_yX10_conditionOf oM (kX10_conditionOf l E ad M a1 v2) (As := [.int a1, .int v2]) rfl dX10_conditionMany_15 rfl hl.1 (Nat.le_of_ble_eq_true rfl) ⟨Nat.le_of_ble_eq_true rfl, Nat.le_of_ble_eq_true rfl⟩ ⟨Nat.le_of_ble_eq_true rfl, Nat.le_of_ble_eq_true rfl⟩) ⟨rfl, rfl⟩ (fun v4 H locs hH => ?_)
      refine lv_istore (lv' := [(5, .int v4), (0, .ref (ad 0)), (1, .int a1), (2, .int a2), (3, .int v1), (4, .int v2)]) hx hb dX10_conditionMany_18 hl (by decide) rfl (fun ls hl => ?_)
      refine lv_iload_n hx hb dX10_conditionMany_20 rfl (lv_at hl 4 rfl) ?_
      refine lv_iload_n hx hb dX10_conditionMany_21 rfl (lv_at hl 3 rfl) ?_
      refine kb_if_eq (tgt := 38) hx hb dX10_conditionMany_22 (by decide) (fun _ => ?_) (fun _ => ?_)
      · refine lv_iload hx hb dX10_conditionMany_38 (lv_at hl 0 rfl) ?_
        refine kb_if_eq (tgt := 47) hx hb dX10_conditionMany_40 (by decide) (fun _ => ?_) (fun _ => ?_)
        · refine lv_iconst (v := 0) hx hb dX10_conditionMany_47 (by decide) ?_
          refine lv_iadd hx hb dX10_conditionMany_48 ?_
          refine W_nmi (fun v5 => ?_)
          refine lv_istore_n (lv' := [(3, .int v5), (5, .int v4), (0, .ref (ad 0)), (1, .int a1), (2, .int a2), (4, .int v2)]) hx hb dX10_conditionMany_49 rfl hl (by decide) rfl (fun ls hl => ?_)
          refine W_nm (fun v6 ev6 => ?_)
          refine lv_iinc (v := v6) (lv' := [(4, .int v6), (3, .int v5), (5, .int v4), (0, .ref (ad 0)), (1, .int a1), (2, .int a2)]) hx hb dX10_conditionMany_50 hl (k := 5) rfl (by rw [ev6]; rfl) (by decide) rfl (fun ls hl => ?_)
          refine lv_goto (tgt := 5) hx hb dX10_conditionMany_53 (by decide) ?_
          exact hrec5 (v5, v6) _ _ _ hH (lv_sub hl [3, 4, 5, 1, 0] rfl)
        · refine lv_iconst (v := 1) hx hb dX10_conditionMany_43 (by decide) ?_
          refine lv_goto (tgt := 48) hx hb dX10_conditionMany_44 (by decide) ?_
          refine lv_iadd hx hb dX10_conditionMany_48 ?_
          refine W_nmi (fun v7 => ?_)
          refine lv_istore_n (lv' := [(3, .int v7), (5, .int v4), (0, .ref (ad 0)), (1, .int a1), (2, .int a2), (4, .int v2)]) hx hb dX10_conditionMany_49 rfl hl (by decide) rfl (fun ls hl => ?_)
          refine W_nm (fun v8 ev8 => ?_)
          refine lv_iinc (v := v8) (lv' := [(4, .int v8), (3, .int v7), (5, .int v4), (0, .ref (ad 0)), (1, .int a1), (2, .int a2)]) hx hb dX10_conditionMany_50 hl (k := 5) rfl (by rw [ev8]; rfl) (by decide) rfl (fun ls hl => ?_)
          refine lv_goto (tgt := 5) hx hb dX10_conditionMany_53 (by decide) ?_
          exact hrec5 (v7, v8) _ _ _ hH (lv_sub hl [3, 4, 5, 1, 0] rfl)
      · refine lv_iload hx hb dX10_conditionMany_25 (lv_at hl 0 rfl) ?_
        refine kb_if_ge (tgt := 34) hx hb dX10_conditionMany_27 (by decide) (fun _ => ?_) (fun _ => ?_)
        · refine lv_iconst (v := 0) hx hb dX10_conditionMany_34 (by decide) ?_
          refine lv_goto (tgt := 48) hx hb dX10_conditionMany_35 (by decide) ?_
          refine lv_iadd hx hb dX10_conditionMany_48 ?_
          refine W_nmi (fun v9 => ?_)
          refine lv_istore_n (lv' := [(3, .int v9), (5, .int v4), (0, .ref (ad 0)), (1, .int a1), (2, .int a2), (4, .int v2)]) hx hb dX10_conditionMany_49 rfl hl (by decide) rfl (fun ls hl => ?_)
          refine W_nm (fun v10 ev10 => ?_)
          refine lv_iinc (v := v10) (lv' := [(4, .int v10), (3, .int v9), (5, .int v4), (0, .ref (ad 0)), (1, .int a1), (2, .int a2)]) hx hb dX10_conditionMany_50 hl (k := 5) rfl (by rw [ev10]; rfl) (by decide) rfl (fun ls hl => ?_)
          refine lv_goto (tgt := 5) hx hb dX10_conditionMany_53 (by decide) ?_
          exact hrec5 (v9, v10) _ _ _ hH (lv_sub hl [3, 4, 5, 1, 0] rfl)
        · refine lv_iconst (v := 1) hx hb dX10_conditionMany_30 (by decide) ?_
          refine lv_goto (tgt := 48) hx hb dX10_conditionMany_31 (by decide) ?_
          refine lv_iadd hx hb dX10_conditionMany_48 ?_
          refine W_nmi (fun v11 => ?_)
          refine lv_istore_n (lv' := [(3, .int v11), (5, .int v4), (0, .ref (ad 0)), (1, .int a1), (2, .int a2), (4, .int v2)]) hx hb dX10_conditionMany_49 rfl hl (by decide) rfl (fun ls hl => ?_)
          refine W_nm (fun v12 ev12 => ?_)
          refine lv_iinc (v := v12) (lv' := [(4, .int v12), (3, .int v11), (5, .int v4), (0, .ref (ad 0)), (1, .int a1), (2, .int a2)]) hx hb dX10_conditionMany_50 hl (k := 5) rfl (by rw [ev12]; rfl) (by decide) rfl (fun ls hl => ?_)
          refine lv_goto (tgt := 5) hx hb dX10_conditionMany_53 (by decide) ?_
          exact hrec5 (v11, v12) _ _ _ hH (lv_sub hl [3, 4, 5, 1, 0] rfl)
def fX10_settles_X2 (M3 : KS) : Option (Int32 × KS) := some (1, M3)
theorem fX10_settles_X2_u {M3 : KS} : fX10_settles_X2 M3 = some (1, M3) := rfl
def fX10_settles_X10 (rec2 : (Int32 × KS) → Option (Int32 × KS)) (x : Int32 × KS) : Option (Int32 × KS) := match x with | (v7, M8) => rec2 (v7, M8)
theorem fX10_settles_X10_u {rec2 : (Int32 × KS) → Option (Int32 × KS)} {v7 : Int32} {M8 : KS} : fX10_settles_X10 rec2 (v7, M8) = rec2 (v7, M8) := rfl
def fX10_settles_J94_75 (v5 : Int32) (rec10 : (Int32 × Int32 × KS) → Option (Int32 × KS)) (v10 : Int32) (x : Int32 × KS) : Option (Int32 × KS) := match x with | (v12, M13) => (if v10 < 6 then nm (v5 + 1) fun v14 => rec10 (v12, v14, M13) else some (0, M13))
theorem fX10_settles_J94_75_u {v5 : Int32} {rec10 : (Int32 × Int32 × KS) → Option (Int32 × KS)} {v10 : Int32} {v12 : Int32} {M13 : KS} : fX10_settles_J94_75 v5 rec10 v10 (v12, M13) = (if v10 < 6 then nm (v5 + 1) fun v14 => rec10 (v12, v14, M13) else some (0, M13)) := rfl
def fX10_settles_J59_31 (v4 : Int32) (v5 : Int32) (M6 : KS) (rec10 : (Int32 × Int32 × KS) → Option (Int32 × KS)) (v10 : Int32) : Option (Int32 × KS) := (fX10_head M6 (v5 / 3)).bind fun v11 => if inb v11 6 then jn (fX10_settles_J94_75 v5 rec10 v10) (fun K94_75 => (if v10 ≤ (M6.1 5 v11.toNatClampNeg) then K94_75 (v4, M6) else (fX10_head M6 (v5 / 3)).bind fun v15 => if inb v15 6 then nm (kset M6 5 v15.toNatClampNeg v10) fun M16 => K94_75 (0, M16) else none)) else none
theorem fX10_settles_J59_31_u {v4 : Int32} {v5 : Int32} {M6 : KS} {rec10 : (Int32 × Int32 × KS) → Option (Int32 × KS)} {v10 : Int32} : fX10_settles_J59_31 v4 v5 M6 rec10 v10 = (fX10_head M6 (v5 / 3)).bind fun v11 => if inb v11 6 then jn (fX10_settles_J94_75 v5 rec10 v10) (fun K94_75 => (if v10 ≤ (M6.1 5 v11.toNatClampNeg) then K94_75 (v4, M6) else (fX10_head M6 (v5 / 3)).bind fun v15 => if inb v15 6 then nm (kset M6 5 v15.toNatClampNeg v10) fun M16 => K94_75 (0, M16) else none)) else none := rfl
def fX10_settles_L10 (a1 : Int32) (rec10 : (Int32 × Int32 × KS) → Option (Int32 × KS)) (k10 : (Int32 × KS) → Option (Int32 × KS)) (x : Int32 × Int32 × KS) : Option (Int32 × KS) := match x with | (v4, v5, M6) => (if (a1 * 3) ≤ v5 then k10 (v4, M6) else (fX10_conditionOf M6 (v5 / 3) (jrem v5 3)).bind fun v9 => jn (fX10_settles_J59_31 v4 v5 M6 rec10) (fun K59_31 => (if v9 = 0 then K59_31 0 else if inb (fX10_relationIn v9) 6 then (if 0 ≤ v9 then K59_31 ((M6.1 5 (fX10_relationIn v9).toNatClampNeg) + 0) else K59_31 ((M6.1 5 (fX10_relationIn v9).toNatClampNeg) + 1)) else none)))
theorem fX10_settles_L10_u {a1 : Int32} {rec10 : (Int32 × Int32 × KS) → Option (Int32 × KS)} {k10 : (Int32 × KS) → Option (Int32 × KS)} {v4 : Int32} {v5 : Int32} {M6 : KS} : fX10_settles_L10 a1 rec10 k10 (v4, v5, M6) = (if (a1 * 3) ≤ v5 then k10 (v4, M6) else (fX10_conditionOf M6 (v5 / 3) (jrem v5 3)).bind fun v9 => jn (fX10_settles_J59_31 v4 v5 M6 rec10) (fun K59_31 => (if v9 = 0 then K59_31 0 else if inb (fX10_relationIn v9) 6 then (if 0 ≤ v9 then K59_31 ((M6.1 5 (fX10_relationIn v9).toNatClampNeg) + 0) else K59_31 ((M6.1 5 (fX10_relationIn v9).toNatClampNeg) + 1)) else none))) := rfl
def fX10_settles_L2 (a1 : Int32) (rec2 : (Int32 × KS) → Option (Int32 × KS)) (k2 : (KS) → Option (Int32 × KS)) (x : Int32 × KS) : Option (Int32 × KS) := match x with | (v1, M2) => (if v1 = 0 then lp (fX10_settles_L10 a1) (fX10_settles_X10 rec2) 1000000 (1, 0, M2) else k2 M2)
theorem fX10_settles_L2_u {a1 : Int32} {rec2 : (Int32 × KS) → Option (Int32 × KS)} {k2 : (KS) → Option (Int32 × KS)} {v1 : Int32} {M2 : KS} : fX10_settles_L2 a1 rec2 k2 (v1, M2) = (if v1 = 0 then lp (fX10_settles_L10 a1) (fX10_settles_X10 rec2) 1000000 (1, 0, M2) else k2 M2) := rfl
def fX10_settles (M : KS) (a1 : Int32) : Option (Int32 × KS) := lp (fX10_settles_L2 a1) (fX10_settles_X2) 1000000 (0, M)
set_option maxHeartbeats 4000000 in
set_option maxRecDepth 100000 in
theorem kX10_settles (l : Launch) (E : KE) (ad : Nat → Nat) (M : KS) (a1 : Int32) : CT l yX10_settles cX10_settles 6 (some .boolean) { frames := 2, cells := 0, slots := 0, locals := 44 } SM E ad [.ref (ad 0), .int a1] M (QI SM E ad) (fX10_settles M a1) := by
  refine CT.ofW (by decide) (Nat.le_of_ble_eq_true rfl) (fun sz p e s m args below meth c C hr hH ls hl => ?_)
  have hx := C.1.1
  have hb := C.1.2.1
  have hl : lv_has ls 6 [(0, .ref (ad 0)), (1, .int a1)] := hl
  unfold fX10_settles
  refine lv_iconst (v := 0) hx hb dX10_settles_0 (by decide) ?_
  refine lv_istore_n (lv' := [(2, .int 0), (0, .ref (ad 0)), (1, .int a1)]) hx hb dX10_settles_1 rfl hl (by decide) rfl (fun ls hl => ?_)
  refine W_lp (fun (x : Int32 × KS) H locs => KH SM E ad sz x.2 s.heap H locs) (fun x ls => lv_has ls 6 [(0, .ref (ad 0)), (1, .int a1), (2, .int x.1)]) (fun _ ls => F0 m 2 ls []) (fun (x : KS) H locs => KH SM E ad sz x s.heap H locs) (fun x ls => lv_has ls 6 []) (fun _ ls => F0 m 112 ls []) ?_ ?_ hH (lv_sub hl [1, 2, 0] rfl)
  · intro M3 H locs ls hH hl
    have hH : KH SM E ad sz M3 s.heap H locs := hH
    have hl : lv_has ls 6 [] := hl
    refine W_q fX10_settles_X2_u ?_
    refine lv_iconst (v := 1) hx hb dX10_settles_112 (by decide) ?_
    exact ke_z C hH hr (Nat.le_refl _) (Nat.le_refl _) rfl (Or.inr rfl) dX10_settles_113
  · intro rec2 k2 hrec2 hk2 ⟨v1, M2⟩ H locs ls hH hl
    have hH : KH SM E ad sz M2 s.heap H locs := hH
    have hl : lv_has ls 6 [(0, .ref (ad 0)), (1, .int a1), (2, .int v1)] := hl
    refine W_q fX10_settles_L2_u ?_
    refine lv_iload_n hx hb dX10_settles_2 rfl (lv_at hl 2 rfl) ?_
    refine kb_if_ne (tgt := 112) hx hb dX10_settles_3 (by decide) (fun _ => ?_) (fun _ => ?_)
    · exact hk2 M2 _ _ _ hH (lv_sub hl [] rfl)
    · refine lv_iconst (v := 1) hx hb dX10_settles_6 (by decide) ?_
      refine lv_istore_n (lv' := [(2, .int 1), (0, .ref (ad 0)), (1, .int a1)]) hx hb dX10_settles_7 rfl hl (by decide) rfl (fun ls hl => ?_)
      refine lv_iconst (v := 0) hx hb dX10_settles_8 (by decide) ?_
      refine lv_istore_n (lv' := [(3, .int 0), (2, .int 1), (0, .ref (ad 0)), (1, .int a1)]) hx hb dX10_settles_9 rfl hl (by decide) rfl (fun ls hl => ?_)
      refine W_lp (fun (x : Int32 × Int32 × KS) H locs => KH SM E ad sz x.2.2 s.heap H locs) (fun x ls => lv_has ls 6 [(0, .ref (ad 0)), (1, .int a1), (2, .int x.1), (3, .int x.2.1)]) (fun _ ls => F0 m 10 ls []) (fun (x : Int32 × KS) H locs => KH SM E ad sz x.2 s.heap H locs) (fun x ls => lv_has ls 6 [(0, .ref (ad 0)), (1, .int a1), (2, .int x.1)]) (fun _ ls => F0 m 109 ls []) ?_ ?_ hH (lv_sub hl [2, 3, 1, 0] rfl)
      · intro ⟨v7, M8⟩ H locs ls hH hl
        have hH : KH SM E ad sz M8 s.heap H locs := hH
        have hl : lv_has ls 6 [(0, .ref (ad 0)), (1, .int a1), (2, .int v7)] := hl
        refine W_q fX10_settles_X10_u ?_
        refine lv_goto (tgt := 2) hx hb dX10_settles_109 (by decide) ?_
        exact hrec2 (v7, M8) _ _ _ hH (lv_sub hl [0, 1, 2] rfl)
      · intro rec10 k10 hrec10 hk10 ⟨v4, v5, M6⟩ H locs ls hH hl
        have hH : KH SM E ad sz M6 s.heap H locs := hH
        have hl : lv_has ls 6 [(0, .ref (ad 0)), (1, .int a1), (2, .int v4), (3, .int v5)] := hl
        refine W_q fX10_settles_L10_u ?_
        refine lv_iload_n hx hb dX10_settles_10 rfl (lv_at hl 3 rfl) ?_
        refine lv_iload_n hx hb dX10_settles_11 rfl (lv_at hl 1 rfl) ?_
        refine lv_iconst (v := 3) hx hb dX10_settles_12 (by decide) ?_
        refine lv_imul hx hb dX10_settles_13 ?_
        refine kb_icmp_ge (tgt := 109) hx hb dX10_settles_14 (by decide) (fun _ => ?_) (fun _ => ?_)
        · exact hk10 (v4, M6) _ _ _ hH (lv_sub hl [0, 1, 2] rfl)
        · refine lv_aload_n hx hb dX10_settles_17 rfl (lv_at hl 0 rfl) ?_
          refine lv_iload_n hx hb dX10_settles_18 rfl (lv_at hl 3 rfl) ?_
          refine lv_iconst (v := 3) hx hb dX10_settles_19 (by decide) ?_
          refine lv_idiv hx hb dX10_settles_20 (by decide) ?_
          refine lv_iload_n hx hb dX10_settles_21 rfl (lv_at hl 3 rfl) ?_
          refine lv_iconst (v := 3) hx hb dX10_settles_22 (by decide) ?_
          refine k_irem hx hb dX10_settles_23 (by decide) ?_
          refine kg_io C hH (kc_V C hH w_6_133 lc_yX10_conditionOf li_yX10_conditionOf oM (kX10_conditionOf l E ad M6 (v5 / 3) (jrem v5 3)) (As := [.int (v5 / 3), .int (jrem v5 3)]) rfl dX10_settles_24 rfl hl.1 (Nat.le_of_ble_eq_true rfl) ⟨Nat.le_of_ble_eq_true rfl, Nat.le_of_ble_eq_true rfl⟩ ⟨Nat.le_of_ble_eq_true rfl, Nat.le_of_ble_eq_true rfl⟩) ⟨rfl, rfl⟩ (fun v9 H locs hH => ?_)
          refine lv_istore (lv' := [(4, .int v9), (0, .ref (ad 0)), (1, .int a1), (2, .int v4), (3, .int v5)]) hx hb dX10_settles_27 hl (by decide) rfl (fun ls hl => ?_)
          refine lv_iload hx hb dX10_settles_29 (lv_at hl 0 rfl) ?_
          refine W_jn (fun (x : Int32) H locs => KH SM E ad sz M6 s.heap H locs) (fun x ls => lv_has ls 6 [(0, .ref (ad 0)), (1, .int a1), (2, .int v4), (3, .int v5)]) (fun x ls => F0 m 59 ls [.int x]) ?_ (fun K59_31 hK59_31 => ?_)
          · intro v10 H locs ls hH hl
            have hH : KH SM E ad sz M6 s.heap H locs := hH
            have hl : lv_has ls 6 [(0, .ref (ad 0)), (1, .int a1), (2, .int v4), (3, .int v5)] := hl
            refine W_q fX10_settles_J59_31_u ?_
            refine lv_istore (lv' := [(5, .int v10), (0, .ref (ad 0)), (1, .int a1), (2, .int v4), (3, .int v5)]) hx hb dX10_settles_59 hl (by decide) rfl (fun ls hl => ?_)
            refine lv_aload_n hx hb dX10_settles_61 rfl (lv_at hl 1 rfl) ?_
            refine k_get C hH fd_X10_22 oM (k_ref (M := M6) (ad := ad) rM10) dX10_settles_62 ?_
            refine lv_aload_n hx hb dX10_settles_65 rfl (lv_at hl 1 rfl) ?_
            refine lv_iload_n hx hb dX10_settles_66 rfl (lv_at hl 4 rfl) ?_
            refine lv_iconst (v := 3) hx hb dX10_settles_67 (by decide) ?_
            refine lv_idiv hx hb dX10_settles_68 (by decide) ?_
            refine kg_io C hH (kc_V C hH w_6_143 lc_yX10_head li_yX10_head oM (kX10_head l E ad M6 (v5 / 3)) (As := [.int (v5 / 3)]) rfl dX10_settles_69 rfl hl.1 (Nat.le_of_ble_eq_true rfl) ⟨Nat.le_of_ble_eq_true rfl, Nat.le_of_ble_eq_true rfl⟩ ⟨Nat.le_of_ble_eq_true rfl, Nat.le_of_ble_eq_true rfl⟩) ⟨rfl, rfl⟩ (fun v11 H locs hH => ?_)
            refine k_iald C hH aM10 dX10_settles_72 ?_
            refine lv_iload hx hb dX10_settles_73 (lv_at hl 0 rfl) ?_
            refine W_jn (fun (x : Int32 × KS) H locs => KH SM E ad sz x.2 s.heap H locs) (fun x ls => lv_has ls 6 [(5, .int v10), (0, .ref (ad 0)), (1, .int a1), (3, .int v5), (2, .int x.1)]) (fun x ls => F0 m 94 ls []) ?_ (fun K94_75 hK94_75 => ?_)
            · intro ⟨v12, M13⟩ H locs ls hH hl
              have hH : KH SM E ad sz M13 s.heap H locs := hH
              have hl : lv_has ls 6 [(5, .int v10), (0, .ref (ad 0)), (1, .int a1), (3, .int v5), (2, .int v12)] := hl
              refine W_q fX10_settles_J94_75_u ?_
              refine lv_iload hx hb dX10_settles_94 (lv_at hl 0 rfl) ?_
              refine lv_bipush (v := 6) hx hb dX10_settles_96 (by decide) ?_
              refine kb_icmp_lt (tgt := 103) hx hb dX10_settles_98 (by decide) (fun _ => ?_) (fun _ => ?_)
              · refine W_nm (fun v14 ev14 => ?_)
                refine lv_iinc (v := v14) (lv' := [(3, .int v14), (5, .int v10), (0, .ref (ad 0)), (1, .int a1), (2, .int v12)]) hx hb dX10_settles_103 hl (k := 3) rfl (by rw [ev14]; rfl) (by decide) rfl (fun ls hl => ?_)
                refine lv_goto (tgt := 10) hx hb dX10_settles_106 (by decide) ?_
                exact hrec10 (v12, v14, M13) _ _ _ hH (lv_sub hl [2, 3, 4, 0] rfl)
              · refine lv_iconst (v := 0) hx hb dX10_settles_101 (by decide) ?_
                exact ke_z C hH hr (Nat.le_refl _) (Nat.le_refl _) rfl (Or.inl rfl) dX10_settles_102
            · refine kb_icmp_ge (tgt := 94) hx hb dX10_settles_75 (by decide) (fun _ => ?_) (fun _ => ?_)
              · exact hK94_75 (v4, M6) _ _ _ hH (lv_sub hl [0, 1, 2, 4, 3] rfl)
              · refine lv_aload_n hx hb dX10_settles_78 rfl (lv_at hl 1 rfl) ?_
                refine k_get C hH fd_X10_22 oM (k_ref (M := M6) (ad := ad) rM10) dX10_settles_79 ?_
                refine lv_aload_n hx hb dX10_settles_82 rfl (lv_at hl 1 rfl) ?_
                refine lv_iload_n hx hb dX10_settles_83 rfl (lv_at hl 4 rfl) ?_
                refine lv_iconst (v := 3) hx hb dX10_settles_84 (by decide) ?_
                refine lv_idiv hx hb dX10_settles_85 (by decide) ?_
                refine kg_io C hH (kc_V C hH w_6_143 lc_yX10_head li_yX10_head oM (kX10_head l E ad M6 (v5 / 3)) (As := [.int (v5 / 3)]) rfl dX10_settles_86 rfl hl.1 (Nat.le_of_ble_eq_true rfl) ⟨Nat.le_of_ble_eq_true rfl, Nat.le_of_ble_eq_true rfl⟩ ⟨Nat.le_of_ble_eq_true rfl, Nat.le_of_ble_eq_true rfl⟩) ⟨rfl, rfl⟩ (fun v15 H locs hH => ?_)
                refine lv_iload hx hb dX10_settles_89 (lv_at hl 0 rfl) ?_
                refine k_iast C hH aM10 dX10_settles_91 (fun M16 H locs hH => ?_)
                refine lv_iconst (v := 0) hx hb dX10_settles_92 (by decide) ?_
                refine lv_istore_n (lv' := [(2, .int 0), (5, .int v10), (0, .ref (ad 0)), (1, .int a1), (3, .int v5)]) hx hb dX10_settles_93 rfl hl (by decide) rfl (fun ls hl => ?_)
                exact hK94_75 (0, M16) _ _ _ hH (lv_sub hl [1, 2, 3, 4, 0] rfl)
          · refine kb_if_ne (tgt := 38) hx hb dX10_settles_31 (by decide) (fun _ => ?_) (fun _ => ?_)
            · refine lv_aload_n hx hb dX10_settles_38 rfl (lv_at hl 1 rfl) ?_
              refine k_get C hH fd_X10_22 oM (k_ref (M := M6) (ad := ad) rM10) dX10_settles_39 ?_
              refine lv_iload hx hb dX10_settles_42 (lv_at hl 0 rfl) ?_
              refine kg_ip C hH (kc_S C hH w_6_137 w_st_yX10_relationIn rfl lc_yX10_relationIn (kX10_relationIn l E ad M6 v9) (As := [.int v9]) rfl dX10_settles_44 rfl hl.1 (Nat.le_of_ble_eq_true rfl) ⟨Nat.le_of_ble_eq_true rfl, Nat.le_of_ble_eq_true rfl⟩ ⟨Nat.le_of_ble_eq_true rfl, Nat.le_of_ble_eq_true rfl⟩) ⟨rfl, rfl⟩ (fun H locs hH => ?_)
              refine k_iald C hH aM10 dX10_settles_47 ?_
              refine lv_iload hx hb dX10_settles_48 (lv_at hl 0 rfl) ?_
              refine kb_if_ge (tgt := 57) hx hb dX10_settles_50 (by decide) (fun _ => ?_) (fun _ => ?_)
              · refine lv_iconst (v := 0) hx hb dX10_settles_57 (by decide) ?_
                refine lv_iadd hx hb dX10_settles_58 ?_
                exact hK59_31 ((M6.1 5 (fX10_relationIn v9).toNatClampNeg) + 0) _ _ _ hH (lv_sub hl [1, 2, 3, 4] rfl)
              · refine lv_iconst (v := 1) hx hb dX10_settles_53 (by decide) ?_
                refine lv_goto (tgt := 58) hx hb dX10_settles_54 (by decide) ?_
                refine lv_iadd hx hb dX10_settles_58 ?_
                exact hK59_31 ((M6.1 5 (fX10_relationIn v9).toNatClampNeg) + 1) _ _ _ hH (lv_sub hl [1, 2, 3, 4] rfl)
            · refine lv_iconst (v := 0) hx hb dX10_settles_34 (by decide) ?_
              refine lv_goto (tgt := 59) hx hb dX10_settles_35 (by decide) ?_
              exact hK59_31 0 _ _ _ hH (lv_sub hl [1, 2, 3, 4] rfl)
def fX10_layers_X23 (a1 : Int32) (M6 : KS) : Option (Int32 × KS) := bd2 (fX10_settles M6 a1) fun v8 M7 => if isB v8 then some (v8, M7) else none
theorem fX10_layers_X23_u {a1 : Int32} {M6 : KS} : fX10_layers_X23 a1 M6 = bd2 (fX10_settles M6 a1) fun v8 M7 => if isB v8 then some (v8, M7) else none := rfl
def fX10_layers_X34 (v4 : Int32) (rec23 : (Int32 × KS) → Option (Int32 × KS)) (x : Int32 × KS) : Option (Int32 × KS) := match x with | (v12, M13) => (if v12 = 0 then nm (v4 + 1) fun v14 => rec23 (v14, M13) else some (1, M13))
theorem fX10_layers_X34_u {v4 : Int32} {rec23 : (Int32 × KS) → Option (Int32 × KS)} {v12 : Int32} {M13 : KS} : fX10_layers_X34 v4 rec23 (v12, M13) = (if v12 = 0 then nm (v4 + 1) fun v14 => rec23 (v14, M13) else some (1, M13)) := rfl
def fX10_layers_J86_58 (v9 : Int32) (v10 : Int32) (M11 : KS) (rec34 : (Int32 × Int32 × KS) → Option (Int32 × KS)) (v16 : Int32) : Option (Int32 × KS) := (fX10_head M11 (v10 / 3)).bind fun v17 => if inb v17 6 then (if v16 ≤ (M11.1 5 v17.toNatClampNeg) then nm (v10 + 1) fun v18 => rec34 (v9, v18, M11) else (fX10_head M11 (v10 / 3)).bind fun v19 => if inb v19 6 then nm (kset M11 5 v19.toNatClampNeg v16) fun M20 => nm (v10 + 1) fun v21 => rec34 (0, v21, M20) else none) else none
theorem fX10_layers_J86_58_u {v9 : Int32} {v10 : Int32} {M11 : KS} {rec34 : (Int32 × Int32 × KS) → Option (Int32 × KS)} {v16 : Int32} : fX10_layers_J86_58 v9 v10 M11 rec34 v16 = (fX10_head M11 (v10 / 3)).bind fun v17 => if inb v17 6 then (if v16 ≤ (M11.1 5 v17.toNatClampNeg) then nm (v10 + 1) fun v18 => rec34 (v9, v18, M11) else (fX10_head M11 (v10 / 3)).bind fun v19 => if inb v19 6 then nm (kset M11 5 v19.toNatClampNeg v16) fun M20 => nm (v10 + 1) fun v21 => rec34 (0, v21, M20) else none) else none := rfl
def fX10_layers_L34 (a1 : Int32) (rec34 : (Int32 × Int32 × KS) → Option (Int32 × KS)) (k34 : (Int32 × KS) → Option (Int32 × KS)) (x : Int32 × Int32 × KS) : Option (Int32 × KS) := match x with | (v9, v10, M11) => (if (a1 * 3) ≤ v10 then k34 (v9, M11) else (fX10_conditionOf M11 (v10 / 3) (jrem v10 3)).bind fun v15 => jn (fX10_layers_J86_58 v9 v10 M11 rec34) (fun K86_58 => (if v15 = 0 then K86_58 0 else if inb (fX10_relationIn v15) 6 then (if 0 ≤ v15 then K86_58 ((M11.1 5 (fX10_relationIn v15).toNatClampNeg) + 0) else K86_58 ((M11.1 5 (fX10_relationIn v15).toNatClampNeg) + 1)) else none)))
theorem fX10_layers_L34_u {a1 : Int32} {rec34 : (Int32 × Int32 × KS) → Option (Int32 × KS)} {k34 : (Int32 × KS) → Option (Int32 × KS)} {v9 : Int32} {v10 : Int32} {M11 : KS} : fX10_layers_L34 a1 rec34 k34 (v9, v10, M11) = (if (a1 * 3) ≤ v10 then k34 (v9, M11) else (fX10_conditionOf M11 (v10 / 3) (jrem v10 3)).bind fun v15 => jn (fX10_layers_J86_58 v9 v10 M11 rec34) (fun K86_58 => (if v15 = 0 then K86_58 0 else if inb (fX10_relationIn v15) 6 then (if 0 ≤ v15 then K86_58 ((M11.1 5 (fX10_relationIn v15).toNatClampNeg) + 0) else K86_58 ((M11.1 5 (fX10_relationIn v15).toNatClampNeg) + 1)) else none))) := rfl
def fX10_layers_L23 (a1 : Int32) (rec23 : (Int32 × KS) → Option (Int32 × KS)) (k23 : (KS) → Option (Int32 × KS)) (x : Int32 × KS) : Option (Int32 × KS) := match x with | (v4, M5) => (if 6 < v4 then k23 M5 else lp (fX10_layers_L34 a1) (fX10_layers_X34 v4 rec23) 1000000 (1, 0, M5))
theorem fX10_layers_L23_u {a1 : Int32} {rec23 : (Int32 × KS) → Option (Int32 × KS)} {k23 : (KS) → Option (Int32 × KS)} {v4 : Int32} {M5 : KS} : fX10_layers_L23 a1 rec23 k23 (v4, M5) = (if 6 < v4 then k23 M5 else lp (fX10_layers_L34 a1) (fX10_layers_X34 v4 rec23) 1000000 (1, 0, M5)) := rfl
def fX10_layers_X2 (a1 : Int32) (M3 : KS) : Option (Int32 × KS) := lp (fX10_layers_L23 a1) (fX10_layers_X23 a1) 1000000 (0, M3)
theorem fX10_layers_X2_u {a1 : Int32} {M3 : KS} : fX10_layers_X2 a1 M3 = lp (fX10_layers_L23 a1) (fX10_layers_X23 a1) 1000000 (0, M3) := rfl
def fX10_layers_L2 (rec2 : (Int32 × KS) → Option (Int32 × KS)) (k2 : (KS) → Option (Int32 × KS)) (x : Int32 × KS) : Option (Int32 × KS) := match x with | (v1, M2) => (if 6 ≤ v1 then k2 M2 else if inb v1 6 then nm (kset M2 5 v1.toNatClampNeg 0) fun M22 => nm (v1 + 1) fun v23 => rec2 (v23, M22) else none)
theorem fX10_layers_L2_u {rec2 : (Int32 × KS) → Option (Int32 × KS)} {k2 : (KS) → Option (Int32 × KS)} {v1 : Int32} {M2 : KS} : fX10_layers_L2 rec2 k2 (v1, M2) = (if 6 ≤ v1 then k2 M2 else if inb v1 6 then nm (kset M2 5 v1.toNatClampNeg 0) fun M22 => nm (v1 + 1) fun v23 => rec2 (v23, M22) else none) := rfl
def fX10_layers (M : KS) (a1 : Int32) : Option (Int32 × KS) := lp (fX10_layers_L2) (fX10_layers_X2 a1) 1000000 (0, M)
set_option maxHeartbeats 4000000 in
set_option maxRecDepth 100000 in
theorem kX10_layers (l : Launch) (E : KE) (ad : Nat → Nat) (M : KS) (a1 : Int32) : CT l yX10_layers cX10_layers 7 (some .boolean) { frames := 3, cells := 0, slots := 0, locals := 69 } SM E ad [.ref (ad 0), .int a1] M (QI SM E ad) (fX10_layers M a1) := by
  refine CT.ofW (by decide) (Nat.le_of_ble_eq_true rfl) (fun sz p e s m args below meth c C hr hH ls hl => ?_)
  have hx := C.1.1
  have hb := C.1.2.1
  have hl : lv_has ls 7 [(0, .ref (ad 0)), (1, .int a1)] := hl
  unfold fX10_layers
  refine lv_iconst (v := 0) hx hb dX10_layers_0 (by decide) ?_
  refine lv_istore_n (lv' := [(2, .int 0), (0, .ref (ad 0)), (1, .int a1)]) hx hb dX10_layers_1 rfl hl (by decide) rfl (fun ls hl => ?_)
  refine W_lp (fun (x : Int32 × KS) H locs => KH SM E ad sz x.2 s.heap H locs) (fun x ls => lv_has ls 7 [(0, .ref (ad 0)), (1, .int a1), (2, .int x.1)]) (fun _ ls => F0 m 2 ls []) (fun (x : KS) H locs => KH SM E ad sz x s.heap H locs) (fun x ls => lv_has ls 7 [(0, .ref (ad 0)), (1, .int a1)]) (fun _ ls => F0 m 21 ls []) ?_ ?_ hH (lv_sub hl [1, 2, 0] rfl)
  · intro M3 H locs ls hH hl
    have hH : KH SM E ad sz M3 s.heap H locs := hH
    have hl : lv_has ls 7 [(0, .ref (ad 0)), (1, .int a1)] := hl
    refine W_q fX10_layers_X2_u ?_
    refine lv_iconst (v := 0) hx hb dX10_layers_21 (by decide) ?_
    refine lv_istore_n (lv' := [(2, .int 0), (0, .ref (ad 0)), (1, .int a1)]) hx hb dX10_layers_22 rfl hl (by decide) rfl (fun ls hl => ?_)
    refine W_lp (fun (x : Int32 × KS) H locs => KH SM E ad sz x.2 s.heap H locs) (fun x ls => lv_has ls 7 [(0, .ref (ad 0)), (1, .int a1), (2, .int x.1)]) (fun _ ls => F0 m 23 ls []) (fun (x : KS) H locs => KH SM E ad sz x s.heap H locs) (fun x ls => lv_has ls 7 [(0, .ref (ad 0)), (1, .int a1)]) (fun _ ls => F0 m 141 ls []) ?_ ?_ hH (lv_sub hl [1, 2, 0] rfl)
    · intro M6 H locs ls hH hl
      have hH : KH SM E ad sz M6 s.heap H locs := hH
      have hl : lv_has ls 7 [(0, .ref (ad 0)), (1, .int a1)] := hl
      refine W_q fX10_layers_X23_u ?_
      refine lv_aload_n hx hb dX10_layers_141 rfl (lv_at hl 0 rfl) ?_
      refine lv_iload_n hx hb dX10_layers_142 rfl (lv_at hl 1 rfl) ?_
      refine kg_ib C hH (kc_V C hH w_6_147 lc_yX10_settles li_yX10_settles oM (kX10_settles l E ad M6 a1) (As := [.int a1]) rfl dX10_layers_143 rfl hl.1 (Nat.le_of_ble_eq_true rfl) ⟨Nat.le_of_ble_eq_true rfl, Nat.le_of_ble_eq_true rfl⟩ ⟨Nat.le_of_ble_eq_true rfl, Nat.le_of_ble_eq_true rfl⟩) ⟨rfl, rfl⟩ (fun v8 M7 H locs hH => ?_)
      exact ke_zg C hH hr (Nat.le_refl _) (Nat.le_refl _) rfl dX10_layers_146
    · intro rec23 k23 hrec23 hk23 ⟨v4, M5⟩ H locs ls hH hl
      have hH : KH SM E ad sz M5 s.heap H locs := hH
      have hl : lv_has ls 7 [(0, .ref (ad 0)), (1, .int a1), (2, .int v4)] := hl
      refine W_q fX10_layers_L23_u ?_
      refine lv_iload_n hx hb dX10_layers_23 rfl (lv_at hl 2 rfl) ?_
      refine lv_bipush (v := 6) hx hb dX10_layers_24 (by decide) ?_
      refine kb_icmp_gt (tgt := 141) hx hb dX10_layers_26 (by decide) (fun _ => ?_) (fun _ => ?_)
      · exact hk23 M5 _ _ _ hH (lv_sub hl [0, 1] rfl)
      · refine lv_iconst (v := 1) hx hb dX10_layers_29 (by decide) ?_
        refine lv_istore_n (lv' := [(3, .int 1), (0, .ref (ad 0)), (1, .int a1), (2, .int v4)]) hx hb dX10_layers_30 rfl hl (by decide) rfl (fun ls hl => ?_)
        refine lv_iconst (v := 0) hx hb dX10_layers_31 (by decide) ?_
        refine lv_istore (lv' := [(4, .int 0), (3, .int 1), (0, .ref (ad 0)), (1, .int a1), (2, .int v4)]) hx hb dX10_layers_32 hl (by decide) rfl (fun ls hl => ?_)
        refine W_lp (fun (x : Int32 × Int32 × KS) H locs => KH SM E ad sz x.2.2 s.heap H locs) (fun x ls => lv_has ls 7 [(0, .ref (ad 0)), (1, .int a1), (2, .int v4), (3, .int x.1), (4, .int x.2.1)]) (fun _ ls => F0 m 34 ls []) (fun (x : Int32 × KS) H locs => KH SM E ad sz x.2 s.heap H locs) (fun x ls => lv_has ls 7 [(0, .ref (ad 0)), (1, .int a1), (2, .int v4), (3, .int x.1)]) (fun _ ls => F0 m 129 ls []) ?_ ?_ hH (lv_sub hl [2, 3, 4, 1, 0] rfl)
        · intro ⟨v12, M13⟩ H locs ls hH hl
          have hH : KH SM E ad sz M13 s.heap H locs := hH
          have hl : lv_has ls 7 [(0, .ref (ad 0)), (1, .int a1), (2, .int v4), (3, .int v12)] := hl
          refine W_q fX10_layers_X34_u ?_
          refine lv_iload_n hx hb dX10_layers_129 rfl (lv_at hl 3 rfl) ?_
          refine kb_if_eq (tgt := 135) hx hb dX10_layers_130 (by decide) (fun _ => ?_) (fun _ => ?_)
          · refine W_nm (fun v14 ev14 => ?_)
            refine lv_iinc (v := v14) (lv' := [(2, .int v14), (0, .ref (ad 0)), (1, .int a1), (3, .int v12)]) hx hb dX10_layers_135 hl (k := 2) rfl (by rw [ev14]; rfl) (by decide) rfl (fun ls hl => ?_)
            refine lv_goto (tgt := 23) hx hb dX10_layers_138 (by decide) ?_
            exact hrec23 (v14, M13) _ _ _ hH (lv_sub hl [1, 2, 0] rfl)
          · refine lv_iconst (v := 1) hx hb dX10_layers_133 (by decide) ?_
            exact ke_z C hH hr (Nat.le_refl _) (Nat.le_refl _) rfl (Or.inr rfl) dX10_layers_134
        · intro rec34 k34 hrec34 hk34 ⟨v9, v10, M11⟩ H locs ls hH hl
          have hH : KH SM E ad sz M11 s.heap H locs := hH
          have hl : lv_has ls 7 [(0, .ref (ad 0)), (1, .int a1), (2, .int v4), (3, .int v9), (4, .int v10)] := hl
          refine W_q fX10_layers_L34_u ?_
          refine lv_iload hx hb dX10_layers_34 (lv_at hl 4 rfl) ?_
          refine lv_iload_n hx hb dX10_layers_36 rfl (lv_at hl 1 rfl) ?_
          refine lv_iconst (v := 3) hx hb dX10_layers_37 (by decide) ?_
          refine lv_imul hx hb dX10_layers_38 ?_
          refine kb_icmp_ge (tgt := 129) hx hb dX10_layers_39 (by decide) (fun _ => ?_) (fun _ => ?_)
          · exact hk34 (v9, M11) _ _ _ hH (lv_sub hl [0, 1, 2, 3] rfl)
          · refine lv_aload_n hx hb dX10_layers_42 rfl (lv_at hl 0 rfl) ?_
            refine lv_iload hx hb dX10_layers_43 (lv_at hl 4 rfl) ?_
            refine lv_iconst (v := 3) hx hb dX10_layers_45 (by decide) ?_
            refine lv_idiv hx hb dX10_layers_46 (by decide) ?_
            refine lv_iload hx hb dX10_layers_47 (lv_at hl 4 rfl) ?_
            refine lv_iconst (v := 3) hx hb dX10_layers_49 (by decide) ?_
            refine k_irem hx hb dX10_layers_50 (by decide) ?_
            refine kg_io C hH (kc_V C hH w_6_133 lc_yX10_conditionOf li_yX10_conditionOf oM (kX10_conditionOf l E ad M11 (v10 / 3) (jrem v10 3)) (As := [.int (v10 / 3), .int (jrem v10 3)]) rfl dX10_layers_51 rfl hl.1 (Nat.le_of_ble_eq_true rfl) ⟨Nat.le_of_ble_eq_true rfl, Nat.le_of_ble_eq_true rfl⟩ ⟨Nat.le_of_ble_eq_true rfl, Nat.le_of_ble_eq_true rfl⟩) ⟨rfl, rfl⟩ (fun v15 H locs hH => ?_)
            refine lv_istore (lv' := [(5, .int v15), (0, .ref (ad 0)), (1, .int a1), (2, .int v4), (3, .int v9), (4, .int v10)]) hx hb dX10_layers_54 hl (by decide) rfl (fun ls hl => ?_)
            refine lv_iload hx hb dX10_layers_56 (lv_at hl 0 rfl) ?_
            refine W_jn (fun (x : Int32) H locs => KH SM E ad sz M11 s.heap H locs) (fun x ls => lv_has ls 7 [(0, .ref (ad 0)), (1, .int a1), (2, .int v4), (3, .int v9), (4, .int v10)]) (fun x ls => F0 m 86 ls [.int x]) ?_ (fun K86_58 hK86_58 => ?_)
            · intro v16 H locs ls hH hl
              have hH : KH SM E ad sz M11 s.heap H locs := hH
              have hl : lv_has ls 7 [(0, .ref (ad 0)), (1, .int a1), (2, .int v4), (3, .int v9), (4, .int v10)] := hl
              refine W_q fX10_layers_J86_58_u ?_
              refine lv_istore (lv' := [(6, .int v16), (0, .ref (ad 0)), (1, .int a1), (2, .int v4), (3, .int v9), (4, .int v10)]) hx hb dX10_layers_86 hl (by decide) rfl (fun ls hl => ?_)
              refine lv_aload_n hx hb dX10_layers_88 rfl (lv_at hl 1 rfl) ?_
              refine k_get C hH fd_X10_22 oM (k_ref (M := M11) (ad := ad) rM10) dX10_layers_89 ?_
              refine lv_aload_n hx hb dX10_layers_92 rfl (lv_at hl 1 rfl) ?_
              refine lv_iload hx hb dX10_layers_93 (lv_at hl 5 rfl) ?_
              refine lv_iconst (v := 3) hx hb dX10_layers_95 (by decide) ?_
              refine lv_idiv hx hb dX10_layers_96 (by decide) ?_
              refine kg_io C hH (kc_V C hH w_6_143 lc_yX10_head li_yX10_head oM (kX10_head l E ad M11 (v10 / 3)) (As := [.int (v10 / 3)]) rfl dX10_layers_97 rfl hl.1 (Nat.le_of_ble_eq_true rfl) ⟨Nat.le_of_ble_eq_true rfl, Nat.le_of_ble_eq_true rfl⟩ ⟨Nat.le_of_ble_eq_true rfl, Nat.le_of_ble_eq_true rfl⟩) ⟨rfl, rfl⟩ (fun v17 H locs hH => ?_)
              refine k_iald C hH aM10 dX10_layers_100 ?_
              refine lv_iload hx hb dX10_layers_101 (lv_at hl 0 rfl) ?_
              refine kb_icmp_ge (tgt := 123) hx hb dX10_layers_103 (by decide) (fun _ => ?_) (fun _ => ?_)
              · refine W_nm (fun v18 ev18 => ?_)
                refine lv_iinc (v := v18) (lv' := [(4, .int v18), (6, .int v16), (0, .ref (ad 0)), (1, .int a1), (2, .int v4), (3, .int v9)]) hx hb dX10_layers_123 hl (k := 5) rfl (by rw [ev18]; rfl) (by decide) rfl (fun ls hl => ?_)
                refine lv_goto (tgt := 34) hx hb dX10_layers_126 (by decide) ?_
                exact hrec34 (v9, v18, M11) _ _ _ hH (lv_sub hl [2, 3, 4, 5, 0] rfl)
              · refine lv_aload_n hx hb dX10_layers_106 rfl (lv_at hl 1 rfl) ?_
                refine k_get C hH fd_X10_22 oM (k_ref (M := M11) (ad := ad) rM10) dX10_layers_107 ?_
                refine lv_aload_n hx hb dX10_layers_110 rfl (lv_at hl 1 rfl) ?_
                refine lv_iload hx hb dX10_layers_111 (lv_at hl 5 rfl) ?_
                refine lv_iconst (v := 3) hx hb dX10_layers_113 (by decide) ?_
                refine lv_idiv hx hb dX10_layers_114 (by decide) ?_
                refine kg_io C hH (kc_V C hH w_6_143 lc_yX10_head li_yX10_head oM (kX10_head l E ad M11 (v10 / 3)) (As := [.int (v10 / 3)]) rfl dX10_layers_115 rfl hl.1 (Nat.le_of_ble_eq_true rfl) ⟨Nat.le_of_ble_eq_true rfl, Nat.le_of_ble_eq_true rfl⟩ ⟨Nat.le_of_ble_eq_true rfl, Nat.le_of_ble_eq_true rfl⟩) ⟨rfl, rfl⟩ (fun v19 H locs hH => ?_)
                refine lv_iload hx hb dX10_layers_118 (lv_at hl 0 rfl) ?_
                refine k_iast C hH aM10 dX10_layers_120 (fun M20 H locs hH => ?_)
                refine lv_iconst (v := 0) hx hb dX10_layers_121 (by decide) ?_
                refine lv_istore_n (lv' := [(3, .int 0), (6, .int v16), (0, .ref (ad 0)), (1, .int a1), (2, .int v4), (4, .int v10)]) hx hb dX10_layers_122 rfl hl (by decide) rfl (fun ls hl => ?_)
                refine W_nm (fun v21 ev21 => ?_)
                refine lv_iinc (v := v21) (lv' := [(4, .int v21), (3, .int 0), (6, .int v16), (0, .ref (ad 0)), (1, .int a1), (2, .int v4)]) hx hb dX10_layers_123 hl (k := 5) rfl (by rw [ev21]; rfl) (by decide) rfl (fun ls hl => ?_)
                refine lv_goto (tgt := 34) hx hb dX10_layers_126 (by decide) ?_
                exact hrec34 (0, v21, M20) _ _ _ hH (lv_sub hl [3, 4, 5, 1, 0] rfl)
            · refine kb_if_ne (tgt := 65) hx hb dX10_layers_58 (by decide) (fun _ => ?_) (fun _ => ?_)
              · refine lv_aload_n hx hb dX10_layers_65 rfl (lv_at hl 1 rfl) ?_
                refine k_get C hH fd_X10_22 oM (k_ref (M := M11) (ad := ad) rM10) dX10_layers_66 ?_
                refine lv_iload hx hb dX10_layers_69 (lv_at hl 0 rfl) ?_
                refine kg_ip C hH (kc_S C hH w_6_137 w_st_yX10_relationIn rfl lc_yX10_relationIn (kX10_relationIn l E ad M11 v15) (As := [.int v15]) rfl dX10_layers_71 rfl hl.1 (Nat.le_of_ble_eq_true rfl) ⟨Nat.le_of_ble_eq_true rfl, Nat.le_of_ble_eq_true rfl⟩ ⟨Nat.le_of_ble_eq_true rfl, Nat.le_of_ble_eq_true rfl⟩) ⟨rfl, rfl⟩ (fun H locs hH => ?_)
                refine k_iald C hH aM10 dX10_layers_74 ?_
                refine lv_iload hx hb dX10_layers_75 (lv_at hl 0 rfl) ?_
                refine kb_if_ge (tgt := 84) hx hb dX10_layers_77 (by decide) (fun _ => ?_) (fun _ => ?_)
                · refine lv_iconst (v := 0) hx hb dX10_layers_84 (by decide) ?_
                  refine lv_iadd hx hb dX10_layers_85 ?_
                  exact hK86_58 ((M11.1 5 (fX10_relationIn v15).toNatClampNeg) + 0) _ _ _ hH (lv_sub hl [1, 2, 3, 4, 5] rfl)
                · refine lv_iconst (v := 1) hx hb dX10_layers_80 (by decide) ?_
                  refine lv_goto (tgt := 85) hx hb dX10_layers_81 (by decide) ?_
                  refine lv_iadd hx hb dX10_layers_85 ?_
                  exact hK86_58 ((M11.1 5 (fX10_relationIn v15).toNatClampNeg) + 1) _ _ _ hH (lv_sub hl [1, 2, 3, 4, 5] rfl)
              · refine lv_iconst (v := 0) hx hb dX10_layers_61 (by decide) ?_
                refine lv_goto (tgt := 86) hx hb dX10_layers_62 (by decide) ?_
                exact hK86_58 0 _ _ _ hH (lv_sub hl [1, 2, 3, 4, 5] rfl)
  · intro rec2 k2 hrec2 hk2 ⟨v1, M2⟩ H locs ls hH hl
    have hH : KH SM E ad sz M2 s.heap H locs := hH
    have hl : lv_has ls 7 [(0, .ref (ad 0)), (1, .int a1), (2, .int v1)] := hl
    refine W_q fX10_layers_L2_u ?_
    refine lv_iload_n hx hb dX10_layers_2 rfl (lv_at hl 2 rfl) ?_
    refine lv_bipush (v := 6) hx hb dX10_layers_3 (by decide) ?_
    refine kb_icmp_ge (tgt := 21) hx hb dX10_layers_5 (by decide) (fun _ => ?_) (fun _ => ?_)
    · exact hk2 M2 _ _ _ hH (lv_sub hl [0, 1] rfl)
    · refine lv_aload_n hx hb dX10_layers_8 rfl (lv_at hl 0 rfl) ?_
      refine k_get C hH fd_X10_22 oM (k_ref (M := M2) (ad := ad) rM10) dX10_layers_9 ?_
      refine lv_iload_n hx hb dX10_layers_12 rfl (lv_at hl 2 rfl) ?_
      refine lv_iconst (v := 0) hx hb dX10_layers_13 (by decide) ?_
      refine k_iast C hH aM10 dX10_layers_14 (fun M22 H locs hH => ?_)
      refine W_nm (fun v23 ev23 => ?_)
      refine lv_iinc (v := v23) (lv' := [(2, .int v23), (0, .ref (ad 0)), (1, .int a1)]) hx hb dX10_layers_15 hl (k := 2) rfl (by rw [ev23]; rfl) (by decide) rfl (fun ls hl => ?_)
      refine lv_goto (tgt := 2) hx hb dX10_layers_18 (by decide) ?_
      exact hrec2 (v23, M22) _ _ _ hH (lv_sub hl [1, 2, 0] rfl)
def fX10_layerMany_X17 (M1 : KS) (v5 : Int32) : Option (Int32 × KS) := some ((v5 + 1), M1)
theorem fX10_layerMany_X17_u {M1 : KS} {v5 : Int32} : fX10_layerMany_X17 M1 v5 = some ((v5 + 1), M1) := rfl
def fX10_layerMany_L17 (M1 : KS) (rec17 : (Int32 × Int32) → Option (Int32 × KS)) (k17 : (Int32) → Option (Int32 × KS)) (x : Int32 × Int32) : Option (Int32 × KS) := match x with | (v3, v4) => (if 6 ≤ v4 then k17 v3 else if inb v4 6 then nm ((jmax v3 (M1.1 5 v4.toNatClampNeg))) fun v6 => nm (v4 + 1) fun v7 => rec17 (v6, v7) else none)
theorem fX10_layerMany_L17_u {M1 : KS} {rec17 : (Int32 × Int32) → Option (Int32 × KS)} {k17 : (Int32) → Option (Int32 × KS)} {v3 : Int32} {v4 : Int32} : fX10_layerMany_L17 M1 rec17 k17 (v3, v4) = (if 6 ≤ v4 then k17 v3 else if inb v4 6 then nm ((jmax v3 (M1.1 5 v4.toNatClampNeg))) fun v6 => nm (v4 + 1) fun v7 => rec17 (v6, v7) else none) := rfl
def fX10_layerMany (M : KS)  : Option (Int32 × KS) := if inb 216 257 then bd2 (fX10_layers M (M.1 1 (216 : Int32).toNatClampNeg)) fun v2 M1 => lp (fX10_layerMany_L17 M1) (fX10_layerMany_X17 M1) 1000000 (0, 0) else none
set_option maxHeartbeats 4000000 in
set_option maxRecDepth 100000 in
theorem kX10_layerMany (l : Launch) (E : KE) (ad : Nat → Nat) (M : KS)  : CT l yX10_layerMany cX10_layerMany 4 (some .int) { frames := 4, cells := 0, slots := 0, locals := 95 } SM E ad [.ref (ad 0)] M (QI SM E ad) (fX10_layerMany M) := by
  refine CT.ofW (by decide) (Nat.le_of_ble_eq_true rfl) (fun sz p e s m args below meth c C hr hH ls hl => ?_)
  have hx := C.1.1
  have hb := C.1.2.1
  have hl : lv_has ls 4 [(0, .ref (ad 0))] := hl
  unfold fX10_layerMany
  refine lv_aload_n hx hb dX10_layerMany_0 rfl (lv_at hl 0 rfl) ?_
  refine lv_aload_n hx hb dX10_layerMany_1 rfl (lv_at hl 0 rfl) ?_
  refine k_get C hH fd_X10_9 oM (k_ref (M := M) (ad := ad) rM0) dX10_layerMany_2 ?_
  refine lv_sipush (v := 216) hx hb dX10_layerMany_5 (by decide) ?_
  refine k_iald C hH aM0 dX10_layerMany_8 ?_
  refine kg_ib C hH (kc_V C hH w_6_129 lc_yX10_layers li_yX10_layers oM (kX10_layers l E ad M (M.1 1 (216 : Int32).toNatClampNeg)) (As := [.int (M.1 1 (216 : Int32).toNatClampNeg)]) rfl dX10_layerMany_9 rfl hl.1 (Nat.le_of_ble_eq_true rfl) ⟨Nat.le_of_ble_eq_true rfl, Nat.le_of_ble_eq_true rfl⟩ ⟨Nat.le_of_ble_eq_true rfl, Nat.le_of_ble_eq_true rfl⟩) ⟨rfl, rfl⟩ (fun v2 M1 H locs hH => ?_)
  refine lv_istore_n (lv' := [(1, .int v2), (0, .ref (ad 0))]) hx hb dX10_layerMany_12 rfl hl (by decide) rfl (fun ls hl => ?_)
  refine lv_iconst (v := 0) hx hb dX10_layerMany_13 (by decide) ?_
  refine lv_istore_n (lv' := [(2, .int 0), (1, .int v2), (0, .ref (ad 0))]) hx hb dX10_layerMany_14 rfl hl (by decide) rfl (fun ls hl => ?_)
  refine lv_iconst (v := 0) hx hb dX10_layerMany_15 (by decide) ?_
  refine lv_istore_n (lv' := [(3, .int 0), (2, .int 0), (1, .int v2), (0, .ref (ad 0))]) hx hb dX10_layerMany_16 rfl hl (by decide) rfl (fun ls hl => ?_)
  refine W_lp (fun (x : Int32 × Int32) H locs => KH SM E ad sz M1 s.heap H locs) (fun x ls => lv_has ls 4 [(0, .ref (ad 0)), (2, .int x.1), (3, .int x.2)]) (fun _ ls => F0 m 17 ls []) (fun (x : Int32) H locs => KH SM E ad sz M1 s.heap H locs) (fun x ls => lv_has ls 4 [(2, .int x)]) (fun _ ls => F0 m 40 ls []) ?_ ?_ hH (lv_sub hl [3, 1, 0] rfl)
  · intro v5 H locs ls hH hl
    have hH : KH SM E ad sz M1 s.heap H locs := hH
    have hl : lv_has ls 4 [(2, .int v5)] := hl
    refine W_q fX10_layerMany_X17_u ?_
    refine lv_iload_n hx hb dX10_layerMany_40 rfl (lv_at hl 0 rfl) ?_
    refine lv_iconst (v := 1) hx hb dX10_layerMany_41 (by decide) ?_
    refine lv_iadd hx hb dX10_layerMany_42 ?_
    exact ke_i C hH hr (Nat.le_refl _) (Nat.le_refl _) rfl dX10_layerMany_43
  · intro rec17 k17 hrec17 hk17 ⟨v3, v4⟩ H locs ls hH hl
    have hH : KH SM E ad sz M1 s.heap H locs := hH
    have hl : lv_has ls 4 [(0, .ref (ad 0)), (2, .int v3), (3, .int v4)] := hl
    refine W_q fX10_layerMany_L17_u ?_
    refine lv_iload_n hx hb dX10_layerMany_17 rfl (lv_at hl 2 rfl) ?_
    refine lv_bipush (v := 6) hx hb dX10_layerMany_18 (by decide) ?_
    refine kb_icmp_ge (tgt := 40) hx hb dX10_layerMany_20 (by decide) (fun _ => ?_) (fun _ => ?_)
    · exact hk17 v3 _ _ _ hH (lv_sub hl [1] rfl)
    · refine lv_iload_n hx hb dX10_layerMany_23 rfl (lv_at hl 1 rfl) ?_
      refine lv_aload_n hx hb dX10_layerMany_24 rfl (lv_at hl 0 rfl) ?_
      refine k_get C hH fd_X10_22 oM (k_ref (M := M1) (ad := ad) rM10) dX10_layerMany_25 ?_
      refine lv_iload_n hx hb dX10_layerMany_28 rfl (lv_at hl 2 rfl) ?_
      refine k_iald C hH aM10 dX10_layerMany_29 ?_
      refine k_mmax C w_6_151 hl.1 (Nat.le_of_ble_eq_true rfl) (Nat.le_of_ble_eq_true rfl) ⟨Nat.zero_le _, Nat.zero_le _⟩ dX10_layerMany_30 ?_
      refine W_nmi (fun v6 => ?_)
      refine lv_istore_n (lv' := [(2, .int v6), (0, .ref (ad 0)), (3, .int v4)]) hx hb dX10_layerMany_33 rfl hl (by decide) rfl (fun ls hl => ?_)
      refine W_nm (fun v7 ev7 => ?_)
      refine lv_iinc (v := v7) (lv' := [(3, .int v7), (2, .int v6), (0, .ref (ad 0))]) hx hb dX10_layerMany_34 hl (k := 2) rfl (by rw [ev7]; rfl) (by decide) rfl (fun ls hl => ?_)
      refine lv_goto (tgt := 17) hx hb dX10_layerMany_37 (by decide) ?_
      exact hrec17 (v6, v7) _ _ _ hH (lv_sub hl [2, 1, 0] rfl)
def fX10_factOfCondition (M : KS) (a1 : Int32) : Option (Int32) := (fX10_letterIn a1 0).bind fun v1 => if inb v1 3 then (fX10_letterIn a1 1).bind fun v2 => if inb v2 3 then some (fX10_fact (fX10_relationIn a1) (M.1 11 v1.toNatClampNeg) (M.1 11 v2.toNatClampNeg)) else none else none
set_option maxHeartbeats 4000000 in
set_option maxRecDepth 100000 in
theorem kX10_factOfCondition (l : Launch) (E : KE) (ad : Nat → Nat) (M : KS) (a1 : Int32) : CT l yX10_factOfCondition cX10_factOfCondition 2 (some .int) { frames := 2, cells := 0, slots := 0, locals := 46 } SM E ad [.ref (ad 0), .int a1] M (fun sz a => QI SM E ad sz (a, M)) (fX10_factOfCondition M a1) := by
  refine CT.ofW (by decide) (Nat.le_of_ble_eq_true rfl) (fun sz p e s m args below meth c C hr hH ls hl => ?_)
  have hx := C.1.1
  have hb := C.1.2.1
  have hl : lv_has ls 2 [(0, .ref (ad 0)), (1, .int a1)] := hl
  unfold fX10_factOfCondition
  refine lv_iload_n hx hb dX10_factOfCondition_0 rfl (lv_at hl 1 rfl) ?_
  refine kg_ip C hH (kc_S C hH w_6_137 w_st_yX10_relationIn rfl lc_yX10_relationIn (kX10_relationIn l E ad M a1) (As := [.int a1]) rfl dX10_factOfCondition_1 rfl hl.1 (Nat.le_of_ble_eq_true rfl) ⟨Nat.le_of_ble_eq_true rfl, Nat.le_of_ble_eq_true rfl⟩ ⟨Nat.le_of_ble_eq_true rfl, Nat.le_of_ble_eq_true rfl⟩) ⟨rfl, rfl⟩ (fun H locs hH => ?_)
  refine lv_aload_n hx hb dX10_factOfCondition_4 rfl (lv_at hl 0 rfl) ?_
  refine k_get C hH fd_X10_40 oM (k_ref (M := M) (ad := ad) rM16) dX10_factOfCondition_5 ?_
  refine lv_iload_n hx hb dX10_factOfCondition_8 rfl (lv_at hl 1 rfl) ?_
  refine lv_iconst (v := 0) hx hb dX10_factOfCondition_9 (by decide) ?_
  refine kg_io C hH (kc_S C hH w_6_167 w_st_yX10_letterIn rfl lc_yX10_letterIn (kX10_letterIn l E ad M a1 0) (As := [.int a1, .int 0]) rfl dX10_factOfCondition_10 rfl hl.1 (Nat.le_of_ble_eq_true rfl) ⟨Nat.le_of_ble_eq_true rfl, Nat.le_of_ble_eq_true rfl⟩ ⟨Nat.le_of_ble_eq_true rfl, Nat.le_of_ble_eq_true rfl⟩) ⟨rfl, rfl⟩ (fun v1 H locs hH => ?_)
  refine k_iald C hH aM16 dX10_factOfCondition_13 ?_
  refine lv_aload_n hx hb dX10_factOfCondition_14 rfl (lv_at hl 0 rfl) ?_
  refine k_get C hH fd_X10_40 oM (k_ref (M := M) (ad := ad) rM16) dX10_factOfCondition_15 ?_
  refine lv_iload_n hx hb dX10_factOfCondition_18 rfl (lv_at hl 1 rfl) ?_
  refine lv_iconst (v := 1) hx hb dX10_factOfCondition_19 (by decide) ?_
  refine kg_io C hH (kc_S C hH w_6_167 w_st_yX10_letterIn rfl lc_yX10_letterIn (kX10_letterIn l E ad M a1 1) (As := [.int a1, .int 1]) rfl dX10_factOfCondition_20 rfl hl.1 (Nat.le_of_ble_eq_true rfl) ⟨Nat.le_of_ble_eq_true rfl, Nat.le_of_ble_eq_true rfl⟩ ⟨Nat.le_of_ble_eq_true rfl, Nat.le_of_ble_eq_true rfl⟩) ⟨rfl, rfl⟩ (fun v2 H locs hH => ?_)
  refine k_iald C hH aM16 dX10_factOfCondition_23 ?_
  refine kg_ip C hH (kc_S C hH w_6_106 w_st_yX10_fact rfl lc_yX10_fact (kX10_fact l E ad M (fX10_relationIn a1) (M.1 11 v1.toNatClampNeg) (M.1 11 v2.toNatClampNeg)) (As := [.int (fX10_relationIn a1), .int (M.1 11 v1.toNatClampNeg), .int (M.1 11 v2.toNatClampNeg)]) rfl dX10_factOfCondition_24 rfl hl.1 (Nat.le_of_ble_eq_true rfl) ⟨Nat.le_of_ble_eq_true rfl, Nat.le_of_ble_eq_true rfl⟩ ⟨Nat.le_of_ble_eq_true rfl, Nat.le_of_ble_eq_true rfl⟩) ⟨rfl, rfl⟩ (fun H locs hH => ?_)
  exact ke_i C hH hr (Nat.le_refl _) (Nat.le_refl _) rfl dX10_factOfCondition_27
def fX10_makes_X28 (M3 : KS) (v6 : Int32) : Option (Int32 × KS) := if isB v6 then some (v6, M3) else none
theorem fX10_makes_X28_u {M3 : KS} {v6 : Int32} : fX10_makes_X28 M3 v6 = if isB v6 then some (v6, M3) else none := rfl
def fX10_makes_J82_74 (v5 : Int32) (rec28 : (Int32 × Int32) → Option (Int32 × KS)) (v10 : Int32) (v11 : Int32) : Option (Int32 × KS) := (if v10 = v11 then nm (v5 + 1) fun v13 => rec28 (1, v13) else nm (v5 + 1) fun v12 => rec28 (0, v12))
theorem fX10_makes_J82_74_u {v5 : Int32} {rec28 : (Int32 × Int32) → Option (Int32 × KS)} {v10 : Int32} {v11 : Int32} : fX10_makes_J82_74 v5 rec28 v10 v11 = (if v10 = v11 then nm (v5 + 1) fun v13 => rec28 (1, v13) else nm (v5 + 1) fun v12 => rec28 (0, v12)) := rfl
def fX10_makes_J72_64 (v5 : Int32) (rec28 : (Int32 × Int32) → Option (Int32 × KS)) (v7 : Int32) (v10 : Int32) : Option (Int32 × KS) := jn (fX10_makes_J82_74 v5 rec28 v10) (fun K82_74 => (if v7 ≤ 0 then K82_74 0 else K82_74 1))
theorem fX10_makes_J72_64_u {v5 : Int32} {rec28 : (Int32 × Int32) → Option (Int32 × KS)} {v7 : Int32} {v10 : Int32} : fX10_makes_J72_64 v5 rec28 v7 v10 = jn (fX10_makes_J82_74 v5 rec28 v10) (fun K82_74 => (if v7 ≤ 0 then K82_74 0 else K82_74 1)) := rfl
def fX10_makes_L28 (a1 : Int32) (M3 : KS) (rec28 : (Int32 × Int32) → Option (Int32 × KS)) (k28 : (Int32) → Option (Int32 × KS)) (x : Int32 × Int32) : Option (Int32 × KS) := match x with | (v4, v5) => (if 3 ≤ v5 then k28 v4 else (if v4 = 0 then k28 v4 else (fX10_conditionOf M3 a1 v5).bind fun v7 => (if v7 = 0 then nm (v5 + 1) fun v8 => rec28 (1, v8) else (fX10_factOfCondition M3 v7).bind fun v9 => if inb v9 216 then jn (fX10_makes_J72_64 v5 rec28 v7) (fun K72_64 => (if (M3.1 6 v9.toNatClampNeg) < 0 then K72_64 0 else K72_64 1)) else none)))
theorem fX10_makes_L28_u {a1 : Int32} {M3 : KS} {rec28 : (Int32 × Int32) → Option (Int32 × KS)} {k28 : (Int32) → Option (Int32 × KS)} {v4 : Int32} {v5 : Int32} : fX10_makes_L28 a1 M3 rec28 k28 (v4, v5) = (if 3 ≤ v5 then k28 v4 else (if v4 = 0 then k28 v4 else (fX10_conditionOf M3 a1 v5).bind fun v7 => (if v7 = 0 then nm (v5 + 1) fun v8 => rec28 (1, v8) else (fX10_factOfCondition M3 v7).bind fun v9 => if inb v9 216 then jn (fX10_makes_J72_64 v5 rec28 v7) (fun K72_64 => (if (M3.1 6 v9.toNatClampNeg) < 0 then K72_64 0 else K72_64 1)) else none))) := rfl
def fX10_makes (M : KS) (a1 : Int32) (a2 : Int32) (a3 : Int32) (a4 : Int32) : Option (Int32 × KS) := if inb 0 3 then nm (kset M 11 (0 : Int32).toNatClampNeg a2) fun M1 => if inb 1 3 then nm (kset M1 11 (1 : Int32).toNatClampNeg a3) fun M2 => if inb 2 3 then nm (kset M2 11 (2 : Int32).toNatClampNeg a4) fun M3 => lp (fX10_makes_L28 a1 M3) (fX10_makes_X28 M3) 1000000 (1, 0) else none else none else none
set_option maxHeartbeats 4000000 in
set_option maxRecDepth 100000 in
theorem kX10_makes (l : Launch) (E : KE) (ad : Nat → Nat) (M : KS) (a1 : Int32) (a2 : Int32) (a3 : Int32) (a4 : Int32) : CT l yX10_makes cX10_makes 8 (some .boolean) { frames := 3, cells := 0, slots := 0, locals := 67 } SM E ad [.ref (ad 0), .int a1, .int a2, .int a3, .int a4] M (QI SM E ad) (fX10_makes M a1 a2 a3 a4) := by
  refine CT.ofW (by decide) (Nat.le_of_ble_eq_true rfl) (fun sz p e s m args below meth c C hr hH ls hl => ?_)
  have hx := C.1.1
  have hb := C.1.2.1
  have hl : lv_has ls 8 [(0, .ref (ad 0)), (1, .int a1), (2, .int a2), (3, .int a3), (4, .int a4)] := hl
  unfold fX10_makes
  refine lv_aload_n hx hb dX10_makes_0 rfl (lv_at hl 0 rfl) ?_
  refine k_get C hH fd_X10_40 oM (k_ref (M := M) (ad := ad) rM16) dX10_makes_1 ?_
  refine lv_iconst (v := 0) hx hb dX10_makes_4 (by decide) ?_
  refine lv_iload_n hx hb dX10_makes_5 rfl (lv_at hl 2 rfl) ?_
  refine k_iast C hH aM16 dX10_makes_6 (fun M1 H locs hH => ?_)
  refine lv_aload_n hx hb dX10_makes_7 rfl (lv_at hl 0 rfl) ?_
  refine k_get C hH fd_X10_40 oM (k_ref (M := M1) (ad := ad) rM16) dX10_makes_8 ?_
  refine lv_iconst (v := 1) hx hb dX10_makes_11 (by decide) ?_
  refine lv_iload_n hx hb dX10_makes_12 rfl (lv_at hl 3 rfl) ?_
  refine k_iast C hH aM16 dX10_makes_13 (fun M2 H locs hH => ?_)
  refine lv_aload_n hx hb dX10_makes_14 rfl (lv_at hl 0 rfl) ?_
  refine k_get C hH fd_X10_40 oM (k_ref (M := M2) (ad := ad) rM16) dX10_makes_15 ?_
  refine lv_iconst (v := 2) hx hb dX10_makes_18 (by decide) ?_
  refine lv_iload hx hb dX10_makes_19 (lv_at hl 4 rfl) ?_
  refine k_iast C hH aM16 dX10_makes_21 (fun M3 H locs hH => ?_)
  refine lv_iconst (v := 1) hx hb dX10_makes_22 (by decide) ?_
  refine lv_istore (lv' := [(5, .int 1), (0, .ref (ad 0)), (1, .int a1), (2, .int a2), (3, .int a3), (4, .int a4)]) hx hb dX10_makes_23 hl (by decide) rfl (fun ls hl => ?_)
  refine lv_iconst (v := 0) hx hb dX10_makes_25 (by decide) ?_
  refine lv_istore (lv' := [(6, .int 0), (5, .int 1), (0, .ref (ad 0)), (1, .int a1), (2, .int a2), (3, .int a3), (4, .int a4)]) hx hb dX10_makes_26 hl (by decide) rfl (fun ls hl => ?_)
  refine W_lp (fun (x : Int32 × Int32) H locs => KH SM E ad sz M3 s.heap H locs) (fun x ls => lv_has ls 8 [(0, .ref (ad 0)), (1, .int a1), (5, .int x.1), (6, .int x.2)]) (fun _ ls => F0 m 28 ls []) (fun (x : Int32) H locs => KH SM E ad sz M3 s.heap H locs) (fun x ls => lv_has ls 8 [(5, .int x)]) (fun _ ls => F0 m 98 ls []) ?_ ?_ hH (lv_sub hl [2, 3, 1, 0] rfl)
  · intro v6 H locs ls hH hl
    have hH : KH SM E ad sz M3 s.heap H locs := hH
    have hl : lv_has ls 8 [(5, .int v6)] := hl
    refine W_q fX10_makes_X28_u ?_
    refine lv_iload hx hb dX10_makes_98 (lv_at hl 0 rfl) ?_
    exact ke_zg C hH hr (Nat.le_refl _) (Nat.le_refl _) rfl dX10_makes_100
  · intro rec28 k28 hrec28 hk28 ⟨v4, v5⟩ H locs ls hH hl
    have hH : KH SM E ad sz M3 s.heap H locs := hH
    have hl : lv_has ls 8 [(0, .ref (ad 0)), (1, .int a1), (5, .int v4), (6, .int v5)] := hl
    refine W_q fX10_makes_L28_u ?_
    refine lv_iload hx hb dX10_makes_28 (lv_at hl 3 rfl) ?_
    refine lv_iconst (v := 3) hx hb dX10_makes_30 (by decide) ?_
    refine kb_icmp_ge (tgt := 98) hx hb dX10_makes_31 (by decide) (fun _ => ?_) (fun _ => ?_)
    · exact hk28 v4 _ _ _ hH (lv_sub hl [2] rfl)
    · refine lv_iload hx hb dX10_makes_34 (lv_at hl 2 rfl) ?_
      refine kb_if_eq (tgt := 98) hx hb dX10_makes_36 (by decide) (fun _ => ?_) (fun _ => ?_)
      · exact hk28 v4 _ _ _ hH (lv_sub hl [2] rfl)
      · refine lv_aload_n hx hb dX10_makes_39 rfl (lv_at hl 0 rfl) ?_
        refine lv_iload_n hx hb dX10_makes_40 rfl (lv_at hl 1 rfl) ?_
        refine lv_iload hx hb dX10_makes_41 (lv_at hl 3 rfl) ?_
        refine kg_io C hH (kc_V C hH w_6_133 lc_yX10_conditionOf li_yX10_conditionOf oM (kX10_conditionOf l E ad M3 a1 v5) (As := [.int a1, .int v5]) rfl dX10_makes_43 rfl hl.1 (Nat.le_of_ble_eq_true rfl) ⟨Nat.le_of_ble_eq_true rfl, Nat.le_of_ble_eq_true rfl⟩ ⟨Nat.le_of_ble_eq_true rfl, Nat.le_of_ble_eq_true rfl⟩) ⟨rfl, rfl⟩ (fun v7 H locs hH => ?_)
        refine lv_istore (lv' := [(7, .int v7), (0, .ref (ad 0)), (1, .int a1), (5, .int v4), (6, .int v5)]) hx hb dX10_makes_46 hl (by decide) rfl (fun ls hl => ?_)
        refine lv_iload hx hb dX10_makes_48 (lv_at hl 0 rfl) ?_
        refine kb_if_eq (tgt := 85) hx hb dX10_makes_50 (by decide) (fun _ => ?_) (fun _ => ?_)
        · refine lv_iconst (v := 1) hx hb dX10_makes_85 (by decide) ?_
          refine lv_goto (tgt := 90) hx hb dX10_makes_86 (by decide) ?_
          refine lv_istore (lv' := [(5, .int 1), (7, .int v7), (0, .ref (ad 0)), (1, .int a1), (6, .int v5)]) hx hb dX10_makes_90 hl (by decide) rfl (fun ls hl => ?_)
          refine W_nm (fun v8 ev8 => ?_)
          refine lv_iinc (v := v8) (lv' := [(6, .int v8), (5, .int 1), (7, .int v7), (0, .ref (ad 0)), (1, .int a1)]) hx hb dX10_makes_92 hl (k := 4) rfl (by rw [ev8]; rfl) (by decide) rfl (fun ls hl => ?_)
          refine lv_goto (tgt := 28) hx hb dX10_makes_95 (by decide) ?_
          exact hrec28 (1, v8) _ _ _ hH (lv_sub hl [3, 4, 1, 0] rfl)
        · refine lv_aload_n hx hb dX10_makes_53 rfl (lv_at hl 1 rfl) ?_
          refine k_get C hH fd_X10_25 oM (k_ref (M := M3) (ad := ad) rM11) dX10_makes_54 ?_
          refine lv_aload_n hx hb dX10_makes_57 rfl (lv_at hl 1 rfl) ?_
          refine lv_iload hx hb dX10_makes_58 (lv_at hl 0 rfl) ?_
          refine kg_io C hH (kc_V C hH w_6_174 lc_yX10_factOfCondition li_yX10_factOfCondition oM (kX10_factOfCondition l E ad M3 v7) (As := [.int v7]) rfl dX10_makes_60 rfl hl.1 (Nat.le_of_ble_eq_true rfl) ⟨Nat.le_of_ble_eq_true rfl, Nat.le_of_ble_eq_true rfl⟩ ⟨Nat.le_of_ble_eq_true rfl, Nat.le_of_ble_eq_true rfl⟩) ⟨rfl, rfl⟩ (fun v9 H locs hH => ?_)
          refine k_iald C hH aM11 dX10_makes_63 ?_
          refine W_jn (fun (x : Int32) H locs => KH SM E ad sz M3 s.heap H locs) (fun x ls => lv_has ls 8 [(7, .int v7), (0, .ref (ad 0)), (1, .int a1), (6, .int v5)]) (fun x ls => F0 m 72 ls [.int x]) ?_ (fun K72_64 hK72_64 => ?_)
          · intro v10 H locs ls hH hl
            have hH : KH SM E ad sz M3 s.heap H locs := hH
            have hl : lv_has ls 8 [(7, .int v7), (0, .ref (ad 0)), (1, .int a1), (6, .int v5)] := hl
            refine W_q fX10_makes_J72_64_u ?_
            refine lv_iload hx hb dX10_makes_72 (lv_at hl 0 rfl) ?_
            refine W_jn (fun (x : Int32) H locs => KH SM E ad sz M3 s.heap H locs) (fun x ls => lv_has ls 8 [(0, .ref (ad 0)), (1, .int a1), (6, .int v5)]) (fun x ls => F0 m 82 ls [.int x, .int v10]) ?_ (fun K82_74 hK82_74 => ?_)
            · intro v11 H locs ls hH hl
              have hH : KH SM E ad sz M3 s.heap H locs := hH
              have hl : lv_has ls 8 [(0, .ref (ad 0)), (1, .int a1), (6, .int v5)] := hl
              refine W_q fX10_makes_J82_74_u ?_
              refine kb_icmp_ne (tgt := 89) hx hb dX10_makes_82 (by decide) (fun _ => ?_) (fun _ => ?_)
              · refine lv_iconst (v := 0) hx hb dX10_makes_89 (by decide) ?_
                refine lv_istore (lv' := [(5, .int 0), (0, .ref (ad 0)), (1, .int a1), (6, .int v5)]) hx hb dX10_makes_90 hl (by decide) rfl (fun ls hl => ?_)
                refine W_nm (fun v12 ev12 => ?_)
                refine lv_iinc (v := v12) (lv' := [(6, .int v12), (5, .int 0), (0, .ref (ad 0)), (1, .int a1)]) hx hb dX10_makes_92 hl (k := 3) rfl (by rw [ev12]; rfl) (by decide) rfl (fun ls hl => ?_)
                refine lv_goto (tgt := 28) hx hb dX10_makes_95 (by decide) ?_
                exact hrec28 (0, v12) _ _ _ hH (lv_sub hl [2, 3, 1, 0] rfl)
              · refine lv_iconst (v := 1) hx hb dX10_makes_85 (by decide) ?_
                refine lv_goto (tgt := 90) hx hb dX10_makes_86 (by decide) ?_
                refine lv_istore (lv' := [(5, .int 1), (0, .ref (ad 0)), (1, .int a1), (6, .int v5)]) hx hb dX10_makes_90 hl (by decide) rfl (fun ls hl => ?_)
                refine W_nm (fun v13 ev13 => ?_)
                refine lv_iinc (v := v13) (lv' := [(6, .int v13), (5, .int 1), (0, .ref (ad 0)), (1, .int a1)]) hx hb dX10_makes_92 hl (k := 3) rfl (by rw [ev13]; rfl) (by decide) rfl (fun ls hl => ?_)
                refine lv_goto (tgt := 28) hx hb dX10_makes_95 (by decide) ?_
                exact hrec28 (1, v13) _ _ _ hH (lv_sub hl [2, 3, 1, 0] rfl)
            · refine kb_if_le (tgt := 81) hx hb dX10_makes_74 (by decide) (fun _ => ?_) (fun _ => ?_)
              · refine lv_iconst (v := 0) hx hb dX10_makes_81 (by decide) ?_
                exact hK82_74 0 _ _ _ hH (lv_sub hl [1, 2, 3] rfl)
              · refine lv_iconst (v := 1) hx hb dX10_makes_77 (by decide) ?_
                refine lv_goto (tgt := 82) hx hb dX10_makes_78 (by decide) ?_
                exact hK82_74 1 _ _ _ hH (lv_sub hl [1, 2, 3] rfl)
          · refine kb_if_lt (tgt := 71) hx hb dX10_makes_64 (by decide) (fun _ => ?_) (fun _ => ?_)
            · refine lv_iconst (v := 0) hx hb dX10_makes_71 (by decide) ?_
              exact hK72_64 0 _ _ _ hH (lv_sub hl [0, 1, 2, 4] rfl)
            · refine lv_iconst (v := 1) hx hb dX10_makes_67 (by decide) ?_
              refine lv_goto (tgt := 72) hx hb dX10_makes_68 (by decide) ?_
              exact hK72_64 1 _ _ _ hH (lv_sub hl [0, 1, 2, 4] rfl)
def fX10_lowest_X20 (M5 : KS) : Option (Int32 × KS) := some ((-1), M5)
theorem fX10_lowest_X20_u {M5 : KS} : fX10_lowest_X20 M5 = some ((-1), M5) := rfl
def fX10_lowest_L20 (a1 : Int32) (a2 : Int32) (a3 : Int32) (v2 : Int32) (rec20 : (Int32 × KS) → Option (Int32 × KS)) (k20 : (KS) → Option (Int32 × KS)) (x : Int32 × KS) : Option (Int32 × KS) := match x with | (v3, M4) => (if v2 ≤ v3 then k20 M4 else bd2 (fX10_makes M4 a1 a2 a3 v3) fun v7 M6 => (if v7 = 0 then nm (v3 + 1) fun v8 => rec20 (v8, M6) else some (v3, M6)))
theorem fX10_lowest_L20_u {a1 : Int32} {a2 : Int32} {a3 : Int32} {v2 : Int32} {rec20 : (Int32 × KS) → Option (Int32 × KS)} {k20 : (KS) → Option (Int32 × KS)} {v3 : Int32} {M4 : KS} : fX10_lowest_L20 a1 a2 a3 v2 rec20 k20 (v3, M4) = (if v2 ≤ v3 then k20 M4 else bd2 (fX10_makes M4 a1 a2 a3 v3) fun v7 M6 => (if v7 = 0 then nm (v3 + 1) fun v8 => rec20 (v8, M6) else some (v3, M6))) := rfl
def fX10_lowest_J15_6 (M : KS) (a1 : Int32) (a2 : Int32) (a3 : Int32) (v2 : Int32) : Option (Int32 × KS) := lp (fX10_lowest_L20 a1 a2 a3 v2) (fX10_lowest_X20) 1000000 (0, M)
theorem fX10_lowest_J15_6_u {M : KS} {a1 : Int32} {a2 : Int32} {a3 : Int32} {v2 : Int32} : fX10_lowest_J15_6 M a1 a2 a3 v2 = lp (fX10_lowest_L20 a1 a2 a3 v2) (fX10_lowest_X20) 1000000 (0, M) := rfl
def fX10_lowest (M : KS) (a1 : Int32) (a2 : Int32) (a3 : Int32) : Option (Int32 × KS) := (fX10_ruleHas M a1 2).bind fun v1 => jn (fX10_lowest_J15_6 M a1 a2 a3) (fun K15_6 => (if v1 = 0 then K15_6 1 else K15_6 6))
set_option maxHeartbeats 4000000 in
set_option maxRecDepth 100000 in
theorem kX10_lowest (l : Launch) (E : KE) (ad : Nat → Nat) (M : KS) (a1 : Int32) (a2 : Int32) (a3 : Int32) : CT l yX10_lowest cX10_lowest 6 (some .int) { frames := 4, cells := 0, slots := 0, locals := 94 } SM E ad [.ref (ad 0), .int a1, .int a2, .int a3] M (QI SM E ad) (fX10_lowest M a1 a2 a3) := by
  refine CT.ofW (by decide) (Nat.le_of_ble_eq_true rfl) (fun sz p e s m args below meth c C hr hH ls hl => ?_)
  have hx := C.1.1
  have hb := C.1.2.1
  have hl : lv_has ls 6 [(0, .ref (ad 0)), (1, .int a1), (2, .int a2), (3, .int a3)] := hl
  unfold fX10_lowest
  refine lv_aload_n hx hb dX10_lowest_0 rfl (lv_at hl 0 rfl) ?_
  refine lv_iload_n hx hb dX10_lowest_1 rfl (lv_at hl 1 rfl) ?_
  refine lv_iconst (v := 2) hx hb dX10_lowest_2 (by decide) ?_
  refine kg_io C hH (kc_V C hH w_6_160 lc_yX10_ruleHas li_yX10_ruleHas oM (kX10_ruleHas l E ad M a1 2) (As := [.int a1, .int 2]) rfl dX10_lowest_3 rfl hl.1 (Nat.le_of_ble_eq_true rfl) ⟨Nat.le_of_ble_eq_true rfl, Nat.le_of_ble_eq_true rfl⟩ ⟨Nat.le_of_ble_eq_true rfl, Nat.le_of_ble_eq_true rfl⟩) ⟨rfl, rfl⟩ (fun v1 H locs hH => ?_)
  refine W_jn (fun (x : Int32) H locs => KH SM E ad sz M s.heap H locs) (fun x ls => lv_has ls 6 [(0, .ref (ad 0)), (1, .int a1), (2, .int a2), (3, .int a3)]) (fun x ls => F0 m 15 ls [.int x]) ?_ (fun K15_6 hK15_6 => ?_)
  · intro v2 H locs ls hH hl
    have hH : KH SM E ad sz M s.heap H locs := hH
    have hl : lv_has ls 6 [(0, .ref (ad 0)), (1, .int a1), (2, .int a2), (3, .int a3)] := hl
    refine W_q fX10_lowest_J15_6_u ?_
    refine lv_istore (lv' := [(4, .int v2), (0, .ref (ad 0)), (1, .int a1), (2, .int a2), (3, .int a3)]) hx hb dX10_lowest_15 hl (by decide) rfl (fun ls hl => ?_)
    refine lv_iconst (v := 0) hx hb dX10_lowest_17 (by decide) ?_
    refine lv_istore (lv' := [(5, .int 0), (4, .int v2), (0, .ref (ad 0)), (1, .int a1), (2, .int a2), (3, .int a3)]) hx hb dX10_lowest_18 hl (by decide) rfl (fun ls hl => ?_)
    refine W_lp (fun (x : Int32 × KS) H locs => KH SM E ad sz x.2 s.heap H locs) (fun x ls => lv_has ls 6 [(4, .int v2), (0, .ref (ad 0)), (1, .int a1), (2, .int a2), (3, .int a3), (5, .int x.1)]) (fun _ ls => F0 m 20 ls []) (fun (x : KS) H locs => KH SM E ad sz x s.heap H locs) (fun x ls => lv_has ls 6 []) (fun _ ls => F0 m 48 ls []) ?_ ?_ hH (lv_sub hl [1, 2, 3, 4, 5, 0] rfl)
    · intro M5 H locs ls hH hl
      have hH : KH SM E ad sz M5 s.heap H locs := hH
      have hl : lv_has ls 6 [] := hl
      refine W_q fX10_lowest_X20_u ?_
      refine lv_iconst (v := (-1)) hx hb dX10_lowest_48 (by decide) ?_
      exact ke_i C hH hr (Nat.le_refl _) (Nat.le_refl _) rfl dX10_lowest_49
    · intro rec20 k20 hrec20 hk20 ⟨v3, M4⟩ H locs ls hH hl
      have hH : KH SM E ad sz M4 s.heap H locs := hH
      have hl : lv_has ls 6 [(4, .int v2), (0, .ref (ad 0)), (1, .int a1), (2, .int a2), (3, .int a3), (5, .int v3)] := hl
      refine W_q fX10_lowest_L20_u ?_
      refine lv_iload hx hb dX10_lowest_20 (lv_at hl 5 rfl) ?_
      refine lv_iload hx hb dX10_lowest_22 (lv_at hl 0 rfl) ?_
      refine kb_icmp_ge (tgt := 48) hx hb dX10_lowest_24 (by decide) (fun _ => ?_) (fun _ => ?_)
      · exact hk20 M4 _ _ _ hH (lv_sub hl [] rfl)
      · refine lv_aload_n hx hb dX10_lowest_27 rfl (lv_at hl 1 rfl) ?_
        refine lv_iload_n hx hb dX10_lowest_28 rfl (lv_at hl 2 rfl) ?_
        refine lv_iload_n hx hb dX10_lowest_29 rfl (lv_at hl 3 rfl) ?_
        refine lv_iload_n hx hb dX10_lowest_30 rfl (lv_at hl 4 rfl) ?_
        refine lv_iload hx hb dX10_lowest_31 (lv_at hl 5 rfl) ?_
        refine kg_ib C hH (kc_V C hH w_6_170 lc_yX10_makes li_yX10_makes oM (kX10_makes l E ad M4 a1 a2 a3 v3) (As := [.int a1, .int a2, .int a3, .int v3]) rfl dX10_lowest_33 rfl hl.1 (Nat.le_of_ble_eq_true rfl) ⟨Nat.le_of_ble_eq_true rfl, Nat.le_of_ble_eq_true rfl⟩ ⟨Nat.le_of_ble_eq_true rfl, Nat.le_of_ble_eq_true rfl⟩) ⟨rfl, rfl⟩ (fun v7 M6 H locs hH => ?_)
        refine kb_if_eq (tgt := 42) hx hb dX10_lowest_36 (by decide) (fun _ => ?_) (fun _ => ?_)
        · refine W_nm (fun v8 ev8 => ?_)
          refine lv_iinc (v := v8) (lv' := [(5, .int v8), (4, .int v2), (0, .ref (ad 0)), (1, .int a1), (2, .int a2), (3, .int a3)]) hx hb dX10_lowest_42 hl (k := 5) rfl (by rw [ev8]; rfl) (by decide) rfl (fun ls hl => ?_)
          refine lv_goto (tgt := 20) hx hb dX10_lowest_45 (by decide) ?_
          exact hrec20 (v8, M6) _ _ _ hH (lv_sub hl [1, 2, 3, 4, 5, 0] rfl)
        · refine lv_iload hx hb dX10_lowest_39 (lv_at hl 5 rfl) ?_
          exact ke_i C hH hr (Nat.le_refl _) (Nat.le_refl _) rfl dX10_lowest_41
  · refine kb_if_eq (tgt := 14) hx hb dX10_lowest_6 (by decide) (fun _ => ?_) (fun _ => ?_)
    · refine lv_iconst (v := 1) hx hb dX10_lowest_14 (by decide) ?_
      exact hK15_6 1 _ _ _ hH (lv_sub hl [0, 1, 2, 3] rfl)
    · refine lv_bipush (v := 6) hx hb dX10_lowest_9 (by decide) ?_
      refine lv_goto (tgt := 15) hx hb dX10_lowest_11 (by decide) ?_
      exact hK15_6 6 _ _ _ hH (lv_sub hl [0, 1, 2, 3] rfl)
def fX10_goes_X197 (v4 : Int32) (M8 : KS) : Option (Int32 × KS) := some (v4, M8)
theorem fX10_goes_X197_u {v4 : Int32} {M8 : KS} : fX10_goes_X197 v4 M8 = some (v4, M8) := rfl
def fX10_goes_J235_218 (v6 : Int32) (M7 : KS) (rec197 : (Int32 × KS) → Option (Int32 × KS)) (_ : Unit) : Option (Int32 × KS) := if inb v6 216 then if inb v6 216 then nm (kset M7 6 v6.toNatClampNeg (M7.1 6 v6.toNatClampNeg)) fun M9 => nm (v6 + 1) fun v10 => rec197 (v10, M9) else none else none
theorem fX10_goes_J235_218_u {v6 : Int32} {M7 : KS} {rec197 : (Int32 × KS) → Option (Int32 × KS)} {u : Unit} : fX10_goes_J235_218 v6 M7 rec197 u = if inb v6 216 then if inb v6 216 then nm (kset M7 6 v6.toNatClampNeg (M7.1 6 v6.toNatClampNeg)) fun M9 => nm (v6 + 1) fun v10 => rec197 (v10, M9) else none else none := rfl
def fX10_goes_L197 (a2 : Int32) (rec197 : (Int32 × KS) → Option (Int32 × KS)) (k197 : (KS) → Option (Int32 × KS)) (x : Int32 × KS) : Option (Int32 × KS) := match x with | (v6, M7) => (if 216 ≤ v6 then k197 M7 else if inb v6 216 then jn (fX10_goes_J235_218 v6 M7 rec197) (fun K235_218 => (if 0 ≤ (M7.1 6 v6.toNatClampNeg) then K235_218 () else if inb v6 216 then (if (M7.1 7 v6.toNatClampNeg) < 0 then K235_218 () else if inb v6 216 then nm (kset M7 6 v6.toNatClampNeg a2) fun M11 => nm (v6 + 1) fun v12 => rec197 (v12, M11) else none) else none)) else none)
theorem fX10_goes_L197_u {a2 : Int32} {rec197 : (Int32 × KS) → Option (Int32 × KS)} {k197 : (KS) → Option (Int32 × KS)} {v6 : Int32} {M7 : KS} : fX10_goes_L197 a2 rec197 k197 (v6, M7) = (if 216 ≤ v6 then k197 M7 else if inb v6 216 then jn (fX10_goes_J235_218 v6 M7 rec197) (fun K235_218 => (if 0 ≤ (M7.1 6 v6.toNatClampNeg) then K235_218 () else if inb v6 216 then (if (M7.1 7 v6.toNatClampNeg) < 0 then K235_218 () else if inb v6 216 then nm (kset M7 6 v6.toNatClampNeg a2) fun M11 => nm (v6 + 1) fun v12 => rec197 (v12, M11) else none) else none)) else none) := rfl
def fX10_goes_X5 (a2 : Int32) (x : Int32 × KS) : Option (Int32 × KS) := match x with | (v4, M5) => lp (fX10_goes_L197 a2) (fX10_goes_X197 v4) 1000000 (0, M5)
theorem fX10_goes_X5_u {a2 : Int32} {v4 : Int32} {M5 : KS} : fX10_goes_X5 a2 (v4, M5) = lp (fX10_goes_L197 a2) (fX10_goes_X197 v4) 1000000 (0, M5) := rfl
def fX10_goes_X51 (v1 : Int32) (v2 : Int32) (rec5 : (Int32 × Int32 × KS) → Option (Int32 × KS)) (M18 : KS) : Option (Int32 × KS) := if inb v2 216 then (if 0 ≤ (M18.1 6 v2.toNatClampNeg) then nm ((v1 + 0)) fun v19 => nm (v2 + 1) fun v20 => rec5 (v19, v20, M18) else if inb v2 216 then (if (M18.1 7 v2.toNatClampNeg) < 0 then nm ((v1 + 0)) fun v21 => nm (v2 + 1) fun v22 => rec5 (v21, v22, M18) else nm ((v1 + 1)) fun v23 => nm (v2 + 1) fun v24 => rec5 (v23, v24, M18)) else none) else none
theorem fX10_goes_X51_u {v1 : Int32} {v2 : Int32} {rec5 : (Int32 × Int32 × KS) → Option (Int32 × KS)} {M18 : KS} : fX10_goes_X51 v1 v2 rec5 M18 = if inb v2 216 then (if 0 ≤ (M18.1 6 v2.toNatClampNeg) then nm ((v1 + 0)) fun v19 => nm (v2 + 1) fun v20 => rec5 (v19, v20, M18) else if inb v2 216 then (if (M18.1 7 v2.toNatClampNeg) < 0 then nm ((v1 + 0)) fun v21 => nm (v2 + 1) fun v22 => rec5 (v21, v22, M18) else nm ((v1 + 1)) fun v23 => nm (v2 + 1) fun v24 => rec5 (v23, v24, M18)) else none) else none := rfl
def fX10_goes_J144_135 (v2 : Int32) (v16 : Int32) (rec51 : (Int32 × KS) → Option (Int32 × KS)) (v29 : Int32) (M28 : KS) (v30 : Int32) : Option (Int32 × KS) := if inb v2 216 then nm (kset M28 7 v2.toNatClampNeg v30) fun M31 => if inb v2 216 then nm (kset M31 8 v2.toNatClampNeg v29) fun M32 => nm (v16 + 1) fun v33 => rec51 (v33, M32) else none else none
theorem fX10_goes_J144_135_u {v2 : Int32} {v16 : Int32} {rec51 : (Int32 × KS) → Option (Int32 × KS)} {v29 : Int32} {M28 : KS} {v30 : Int32} : fX10_goes_J144_135 v2 v16 rec51 v29 M28 v30 = if inb v2 216 then nm (kset M28 7 v2.toNatClampNeg v30) fun M31 => if inb v2 216 then nm (kset M31 8 v2.toNatClampNeg v29) fun M32 => nm (v16 + 1) fun v33 => rec51 (v33, M32) else none else none := rfl
def fX10_goes_L51 (a1 : Int32) (v2 : Int32) (v13 : Int32) (rec51 : (Int32 × KS) → Option (Int32 × KS)) (k51 : (KS) → Option (Int32 × KS)) (x : Int32 × KS) : Option (Int32 × KS) := match x with | (v16, M17) => if inb 216 257 then (if (M17.1 1 (216 : Int32).toNatClampNeg) ≤ v16 then k51 M17 else if inb v2 216 then (if 0 ≤ (M17.1 6 v2.toNatClampNeg) then k51 M17 else if inb v2 216 then (if 0 ≤ (M17.1 7 v2.toNatClampNeg) then k51 M17 else (fX10_head M17 v16).bind fun v25 => (if v25 = v13 then if inb v13 6 then (if (M17.1 5 v13.toNatClampNeg) = a1 then bd2 (fX10_lowest M17 v16 (jrem (v2 / 6) 6) (jrem v2 6)) fun v29 M28 => jn (fX10_goes_J144_135 v2 v16 rec51 v29 M28) (fun K144_135 => (if 0 ≤ v29 then K144_135 v16 else K144_135 (-1))) else nm (v16 + 1) fun v27 => rec51 (v27, M17)) else none else nm (v16 + 1) fun v26 => rec51 (v26, M17))) else none) else none) else none
theorem fX10_goes_L51_u {a1 : Int32} {v2 : Int32} {v13 : Int32} {rec51 : (Int32 × KS) → Option (Int32 × KS)} {k51 : (KS) → Option (Int32 × KS)} {v16 : Int32} {M17 : KS} : fX10_goes_L51 a1 v2 v13 rec51 k51 (v16, M17) = if inb 216 257 then (if (M17.1 1 (216 : Int32).toNatClampNeg) ≤ v16 then k51 M17 else if inb v2 216 then (if 0 ≤ (M17.1 6 v2.toNatClampNeg) then k51 M17 else if inb v2 216 then (if 0 ≤ (M17.1 7 v2.toNatClampNeg) then k51 M17 else (fX10_head M17 v16).bind fun v25 => (if v25 = v13 then if inb v13 6 then (if (M17.1 5 v13.toNatClampNeg) = a1 then bd2 (fX10_lowest M17 v16 (jrem (v2 / 6) 6) (jrem v2 6)) fun v29 M28 => jn (fX10_goes_J144_135 v2 v16 rec51 v29 M28) (fun K144_135 => (if 0 ≤ v29 then K144_135 v16 else K144_135 (-1))) else nm (v16 + 1) fun v27 => rec51 (v27, M17)) else none else nm (v16 + 1) fun v26 => rec51 (v26, M17))) else none) else none) else none := rfl
def fX10_goes_J47_33 (a1 : Int32) (v1 : Int32) (v2 : Int32) (M3 : KS) (rec5 : (Int32 × Int32 × KS) → Option (Int32 × KS)) (v13 : Int32) (v14 : Int32) : Option (Int32 × KS) := if inb v2 216 then nm (kset M3 7 v2.toNatClampNeg v14) fun M15 => lp (fX10_goes_L51 a1 v2 v13) (fX10_goes_X51 v1 v2 rec5) 1000000 (0, M15) else none
theorem fX10_goes_J47_33_u {a1 : Int32} {v1 : Int32} {v2 : Int32} {M3 : KS} {rec5 : (Int32 × Int32 × KS) → Option (Int32 × KS)} {v13 : Int32} {v14 : Int32} : fX10_goes_J47_33 a1 v1 v2 M3 rec5 v13 v14 = if inb v2 216 then nm (kset M3 7 v2.toNatClampNeg v14) fun M15 => lp (fX10_goes_L51 a1 v2 v13) (fX10_goes_X51 v1 v2 rec5) 1000000 (0, M15) else none := rfl
def fX10_goes_L5 (a1 : Int32) (rec5 : (Int32 × Int32 × KS) → Option (Int32 × KS)) (k5 : (Int32 × KS) → Option (Int32 × KS)) (x : Int32 × Int32 × KS) : Option (Int32 × KS) := match x with | (v1, v2, M3) => (if 216 ≤ v2 then k5 (v1, M3) else nm ((v2 / 36)) fun v13 => if inb v2 216 then jn (fX10_goes_J47_33 a1 v1 v2 M3 rec5 v13) (fun K47_33 => (if 0 ≤ (M3.1 6 v2.toNatClampNeg) then if inb v2 216 then K47_33 (M3.1 7 v2.toNatClampNeg) else none else K47_33 (-1))) else none)
theorem fX10_goes_L5_u {a1 : Int32} {rec5 : (Int32 × Int32 × KS) → Option (Int32 × KS)} {k5 : (Int32 × KS) → Option (Int32 × KS)} {v1 : Int32} {v2 : Int32} {M3 : KS} : fX10_goes_L5 a1 rec5 k5 (v1, v2, M3) = (if 216 ≤ v2 then k5 (v1, M3) else nm ((v2 / 36)) fun v13 => if inb v2 216 then jn (fX10_goes_J47_33 a1 v1 v2 M3 rec5 v13) (fun K47_33 => (if 0 ≤ (M3.1 6 v2.toNatClampNeg) then if inb v2 216 then K47_33 (M3.1 7 v2.toNatClampNeg) else none else K47_33 (-1))) else none) := rfl
def fX10_goes (M : KS) (a1 : Int32) (a2 : Int32) : Option (Int32 × KS) := lp (fX10_goes_L5 a1) (fX10_goes_X5 a2) 1000000 (0, 0, M)
set_option maxHeartbeats 4000000 in
set_option maxRecDepth 100000 in
theorem kX10_goes (l : Launch) (E : KE) (ad : Nat → Nat) (M : KS) (a1 : Int32) (a2 : Int32) : CT l yX10_goes cX10_goes 8 (some .int) { frames := 5, cells := 0, slots := 0, locals := 119 } SM E ad [.ref (ad 0), .int a1, .int a2] M (QI SM E ad) (fX10_goes M a1 a2) := by
  refine CT.ofW (by decide) (Nat.le_of_ble_eq_true rfl) (fun sz p e s m args below meth c C hr hH ls hl => ?_)
  have hx := C.1.1
  have hb := C.1.2.1
  have hl : lv_has ls 8 [(0, .ref (ad 0)), (1, .int a1), (2, .int a2)] := hl
  unfold fX10_goes
  refine lv_iconst (v := 0) hx hb dX10_goes_0 (by decide) ?_
  refine lv_istore_n (lv' := [(3, .int 0), (0, .ref (ad 0)), (1, .int a1), (2, .int a2)]) hx hb dX10_goes_1 rfl hl (by decide) rfl (fun ls hl => ?_)
  refine lv_iconst (v := 0) hx hb dX10_goes_2 (by decide) ?_
  refine lv_istore (lv' := [(4, .int 0), (3, .int 0), (0, .ref (ad 0)), (1, .int a1), (2, .int a2)]) hx hb dX10_goes_3 hl (by decide) rfl (fun ls hl => ?_)
  refine W_lp (fun (x : Int32 × Int32 × KS) H locs => KH SM E ad sz x.2.2 s.heap H locs) (fun x ls => lv_has ls 8 [(0, .ref (ad 0)), (1, .int a1), (2, .int a2), (3, .int x.1), (4, .int x.2.1)]) (fun _ ls => F0 m 5 ls []) (fun (x : Int32 × KS) H locs => KH SM E ad sz x.2 s.heap H locs) (fun x ls => lv_has ls 8 [(0, .ref (ad 0)), (2, .int a2), (3, .int x.1)]) (fun _ ls => F0 m 194 ls []) ?_ ?_ hH (lv_sub hl [2, 3, 4, 1, 0] rfl)
  · intro ⟨v4, M5⟩ H locs ls hH hl
    have hH : KH SM E ad sz M5 s.heap H locs := hH
    have hl : lv_has ls 8 [(0, .ref (ad 0)), (2, .int a2), (3, .int v4)] := hl
    refine W_q fX10_goes_X5_u ?_
    refine lv_iconst (v := 0) hx hb dX10_goes_194 (by decide) ?_
    refine lv_istore (lv' := [(4, .int 0), (0, .ref (ad 0)), (2, .int a2), (3, .int v4)]) hx hb dX10_goes_195 hl (by decide) rfl (fun ls hl => ?_)
    refine W_lp (fun (x : Int32 × KS) H locs => KH SM E ad sz x.2 s.heap H locs) (fun x ls => lv_has ls 8 [(0, .ref (ad 0)), (2, .int a2), (3, .int v4), (4, .int x.1)]) (fun _ ls => F0 m 197 ls []) (fun (x : KS) H locs => KH SM E ad sz x s.heap H locs) (fun x ls => lv_has ls 8 [(3, .int v4)]) (fun _ ls => F0 m 249 ls []) ?_ ?_ hH (lv_sub hl [1, 2, 3, 0] rfl)
    · intro M8 H locs ls hH hl
      have hH : KH SM E ad sz M8 s.heap H locs := hH
      have hl : lv_has ls 8 [(3, .int v4)] := hl
      refine W_q fX10_goes_X197_u ?_
      refine lv_iload_n hx hb dX10_goes_249 rfl (lv_at hl 0 rfl) ?_
      exact ke_i C hH hr (Nat.le_refl _) (Nat.le_refl _) rfl dX10_goes_250
    · intro rec197 k197 hrec197 hk197 ⟨v6, M7⟩ H locs ls hH hl
      have hH : KH SM E ad sz M7 s.heap H locs := hH
      have hl : lv_has ls 8 [(0, .ref (ad 0)), (2, .int a2), (3, .int v4), (4, .int v6)] := hl
      refine W_q fX10_goes_L197_u ?_
      refine lv_iload hx hb dX10_goes_197 (lv_at hl 3 rfl) ?_
      refine lv_sipush (v := 216) hx hb dX10_goes_199 (by decide) ?_
      refine kb_icmp_ge (tgt := 249) hx hb dX10_goes_202 (by decide) (fun _ => ?_) (fun _ => ?_)
      · exact hk197 M7 _ _ _ hH (lv_sub hl [2] rfl)
      · refine lv_aload_n hx hb dX10_goes_205 rfl (lv_at hl 0 rfl) ?_
        refine k_get C hH fd_X10_25 oM (k_ref (M := M7) (ad := ad) rM11) dX10_goes_206 ?_
        refine lv_iload hx hb dX10_goes_209 (lv_at hl 3 rfl) ?_
        refine lv_aload_n hx hb dX10_goes_211 rfl (lv_at hl 0 rfl) ?_
        refine k_get C hH fd_X10_25 oM (k_ref (M := M7) (ad := ad) rM11) dX10_goes_212 ?_
        refine lv_iload hx hb dX10_goes_215 (lv_at hl 3 rfl) ?_
        refine k_iald C hH aM11 dX10_goes_217 ?_
        refine W_jn (fun (x : Unit) H locs => KH SM E ad sz M7 s.heap H locs) (fun x ls => lv_has ls 8 [(0, .ref (ad 0)), (2, .int a2), (3, .int v4), (4, .int v6)]) (fun x ls => F0 m 235 ls [.int v6, .ref (ad 6)]) ?_ (fun K235_218 hK235_218 => ?_)
        · intro _ H locs ls hH hl
          have hH : KH SM E ad sz M7 s.heap H locs := hH
          have hl : lv_has ls 8 [(0, .ref (ad 0)), (2, .int a2), (3, .int v4), (4, .int v6)] := hl
          refine W_q fX10_goes_J235_218_u ?_
          refine lv_aload_n hx hb dX10_goes_235 rfl (lv_at hl 0 rfl) ?_
          refine k_get C hH fd_X10_25 oM (k_ref (M := M7) (ad := ad) rM11) dX10_goes_236 ?_
          refine lv_iload hx hb dX10_goes_239 (lv_at hl 3 rfl) ?_
          refine k_iald C hH aM11 dX10_goes_241 ?_
          refine k_iast C hH aM11 dX10_goes_242 (fun M9 H locs hH => ?_)
          refine W_nm (fun v10 ev10 => ?_)
          refine lv_iinc (v := v10) (lv' := [(4, .int v10), (0, .ref (ad 0)), (2, .int a2), (3, .int v4)]) hx hb dX10_goes_243 hl (k := 3) rfl (by rw [ev10]; rfl) (by decide) rfl (fun ls hl => ?_)
          refine lv_goto (tgt := 197) hx hb dX10_goes_246 (by decide) ?_
          exact hrec197 (v10, M9) _ _ _ hH (lv_sub hl [1, 2, 3, 0] rfl)
        · refine kb_if_ge (tgt := 235) hx hb dX10_goes_218 (by decide) (fun _ => ?_) (fun _ => ?_)
          · exact hK235_218 () _ _ _ hH (lv_sub hl [0, 1, 2, 3] rfl)
          · refine lv_aload_n hx hb dX10_goes_221 rfl (lv_at hl 0 rfl) ?_
            refine k_get C hH fd_X10_28 oM (k_ref (M := M7) (ad := ad) rM12) dX10_goes_222 ?_
            refine lv_iload hx hb dX10_goes_225 (lv_at hl 3 rfl) ?_
            refine k_iald C hH aM12 dX10_goes_227 ?_
            refine kb_if_lt (tgt := 235) hx hb dX10_goes_228 (by decide) (fun _ => ?_) (fun _ => ?_)
            · exact hK235_218 () _ _ _ hH (lv_sub hl [0, 1, 2, 3] rfl)
            · refine lv_iload_n hx hb dX10_goes_231 rfl (lv_at hl 1 rfl) ?_
              refine lv_goto (tgt := 242) hx hb dX10_goes_232 (by decide) ?_
              refine k_iast C hH aM11 dX10_goes_242 (fun M11 H locs hH => ?_)
              refine W_nm (fun v12 ev12 => ?_)
              refine lv_iinc (v := v12) (lv' := [(4, .int v12), (0, .ref (ad 0)), (2, .int a2), (3, .int v4)]) hx hb dX10_goes_243 hl (k := 3) rfl (by rw [ev12]; rfl) (by decide) rfl (fun ls hl => ?_)
              refine lv_goto (tgt := 197) hx hb dX10_goes_246 (by decide) ?_
              exact hrec197 (v12, M11) _ _ _ hH (lv_sub hl [1, 2, 3, 0] rfl)
  · intro rec5 k5 hrec5 hk5 ⟨v1, v2, M3⟩ H locs ls hH hl
    have hH : KH SM E ad sz M3 s.heap H locs := hH
    have hl : lv_has ls 8 [(0, .ref (ad 0)), (1, .int a1), (2, .int a2), (3, .int v1), (4, .int v2)] := hl
    refine W_q fX10_goes_L5_u ?_
    refine lv_iload hx hb dX10_goes_5 (lv_at hl 4 rfl) ?_
    refine lv_sipush (v := 216) hx hb dX10_goes_7 (by decide) ?_
    refine kb_icmp_ge (tgt := 194) hx hb dX10_goes_10 (by decide) (fun _ => ?_) (fun _ => ?_)
    · exact hk5 (v1, M3) _ _ _ hH (lv_sub hl [0, 2, 3] rfl)
    · refine lv_iload hx hb dX10_goes_13 (lv_at hl 4 rfl) ?_
      refine lv_bipush (v := 36) hx hb dX10_goes_15 (by decide) ?_
      refine lv_idiv hx hb dX10_goes_17 (by decide) ?_
      refine W_nmi (fun v13 => ?_)
      refine lv_istore (lv' := [(5, .int v13), (0, .ref (ad 0)), (1, .int a1), (2, .int a2), (3, .int v1), (4, .int v2)]) hx hb dX10_goes_18 hl (by decide) rfl (fun ls hl => ?_)
      refine lv_aload_n hx hb dX10_goes_20 rfl (lv_at hl 1 rfl) ?_
      refine k_get C hH fd_X10_28 oM (k_ref (M := M3) (ad := ad) rM12) dX10_goes_21 ?_
      refine lv_iload hx hb dX10_goes_24 (lv_at hl 5 rfl) ?_
      refine lv_aload_n hx hb dX10_goes_26 rfl (lv_at hl 1 rfl) ?_
      refine k_get C hH fd_X10_25 oM (k_ref (M := M3) (ad := ad) rM11) dX10_goes_27 ?_
      refine lv_iload hx hb dX10_goes_30 (lv_at hl 5 rfl) ?_
      refine k_iald C hH aM11 dX10_goes_32 ?_
      refine W_jn (fun (x : Int32) H locs => KH SM E ad sz M3 s.heap H locs) (fun x ls => lv_has ls 8 [(5, .int v13), (0, .ref (ad 0)), (1, .int a1), (2, .int a2), (3, .int v1), (4, .int v2)]) (fun x ls => F0 m 47 ls [.int x, .int v2, .ref (ad 7)]) ?_ (fun K47_33 hK47_33 => ?_)
      · intro v14 H locs ls hH hl
        have hH : KH SM E ad sz M3 s.heap H locs := hH
        have hl : lv_has ls 8 [(5, .int v13), (0, .ref (ad 0)), (1, .int a1), (2, .int a2), (3, .int v1), (4, .int v2)] := hl
        refine W_q fX10_goes_J47_33_u ?_
        refine k_iast C hH aM12 dX10_goes_47 (fun M15 H locs hH => ?_)
        refine lv_iconst (v := 0) hx hb dX10_goes_48 (by decide) ?_
        refine lv_istore (lv' := [(6, .int 0), (5, .int v13), (0, .ref (ad 0)), (1, .int a1), (2, .int a2), (3, .int v1), (4, .int v2)]) hx hb dX10_goes_49 hl (by decide) rfl (fun ls hl => ?_)
        refine W_lp (fun (x : Int32 × KS) H locs => KH SM E ad sz x.2 s.heap H locs) (fun x ls => lv_has ls 8 [(5, .int v13), (0, .ref (ad 0)), (1, .int a1), (2, .int a2), (3, .int v1), (4, .int v2), (6, .int x.1)]) (fun _ ls => F0 m 51 ls []) (fun (x : KS) H locs => KH SM E ad sz x s.heap H locs) (fun x ls => lv_has ls 8 [(0, .ref (ad 0)), (1, .int a1), (2, .int a2), (3, .int v1), (4, .int v2)]) (fun _ ls => F0 m 160 ls []) ?_ ?_ hH (lv_sub hl [1, 2, 3, 4, 5, 6, 0] rfl)
        · intro M18 H locs ls hH hl
          have hH : KH SM E ad sz M18 s.heap H locs := hH
          have hl : lv_has ls 8 [(0, .ref (ad 0)), (1, .int a1), (2, .int a2), (3, .int v1), (4, .int v2)] := hl
          refine W_q fX10_goes_X51_u ?_
          refine lv_iload_n hx hb dX10_goes_160 rfl (lv_at hl 3 rfl) ?_
          refine lv_aload_n hx hb dX10_goes_161 rfl (lv_at hl 0 rfl) ?_
          refine k_get C hH fd_X10_25 oM (k_ref (M := M18) (ad := ad) rM11) dX10_goes_162 ?_
          refine lv_iload hx hb dX10_goes_165 (lv_at hl 4 rfl) ?_
          refine k_iald C hH aM11 dX10_goes_167 ?_
          refine kb_if_ge (tgt := 185) hx hb dX10_goes_168 (by decide) (fun _ => ?_) (fun _ => ?_)
          · refine lv_iconst (v := 0) hx hb dX10_goes_185 (by decide) ?_
            refine lv_iadd hx hb dX10_goes_186 ?_
            refine W_nmi (fun v19 => ?_)
            refine lv_istore_n (lv' := [(3, .int v19), (0, .ref (ad 0)), (1, .int a1), (2, .int a2), (4, .int v2)]) hx hb dX10_goes_187 rfl hl (by decide) rfl (fun ls hl => ?_)
            refine W_nm (fun v20 ev20 => ?_)
            refine lv_iinc (v := v20) (lv' := [(4, .int v20), (3, .int v19), (0, .ref (ad 0)), (1, .int a1), (2, .int a2)]) hx hb dX10_goes_188 hl (k := 4) rfl (by rw [ev20]; rfl) (by decide) rfl (fun ls hl => ?_)
            refine lv_goto (tgt := 5) hx hb dX10_goes_191 (by decide) ?_
            exact hrec5 (v19, v20, M18) _ _ _ hH (lv_sub hl [2, 3, 4, 1, 0] rfl)
          · refine lv_aload_n hx hb dX10_goes_171 rfl (lv_at hl 0 rfl) ?_
            refine k_get C hH fd_X10_28 oM (k_ref (M := M18) (ad := ad) rM12) dX10_goes_172 ?_
            refine lv_iload hx hb dX10_goes_175 (lv_at hl 4 rfl) ?_
            refine k_iald C hH aM12 dX10_goes_177 ?_
            refine kb_if_lt (tgt := 185) hx hb dX10_goes_178 (by decide) (fun _ => ?_) (fun _ => ?_)
            · refine lv_iconst (v := 0) hx hb dX10_goes_185 (by decide) ?_
              refine lv_iadd hx hb dX10_goes_186 ?_
              refine W_nmi (fun v21 => ?_)
              refine lv_istore_n (lv' := [(3, .int v21), (0, .ref (ad 0)), (1, .int a1), (2, .int a2), (4, .int v2)]) hx hb dX10_goes_187 rfl hl (by decide) rfl (fun ls hl => ?_)
              refine W_nm (fun v22 ev22 => ?_)
              refine lv_iinc (v := v22) (lv' := [(4, .int v22), (3, .int v21), (0, .ref (ad 0)), (1, .int a1), (2, .int a2)]) hx hb dX10_goes_188 hl (k := 4) rfl (by rw [ev22]; rfl) (by decide) rfl (fun ls hl => ?_)
              refine lv_goto (tgt := 5) hx hb dX10_goes_191 (by decide) ?_
              exact hrec5 (v21, v22, M18) _ _ _ hH (lv_sub hl [2, 3, 4, 1, 0] rfl)
            · refine lv_iconst (v := 1) hx hb dX10_goes_181 (by decide) ?_
              refine lv_goto (tgt := 186) hx hb dX10_goes_182 (by decide) ?_
              refine lv_iadd hx hb dX10_goes_186 ?_
              refine W_nmi (fun v23 => ?_)
              refine lv_istore_n (lv' := [(3, .int v23), (0, .ref (ad 0)), (1, .int a1), (2, .int a2), (4, .int v2)]) hx hb dX10_goes_187 rfl hl (by decide) rfl (fun ls hl => ?_)
              refine W_nm (fun v24 ev24 => ?_)
              refine lv_iinc (v := v24) (lv' := [(4, .int v24), (3, .int v23), (0, .ref (ad 0)), (1, .int a1), (2, .int a2)]) hx hb dX10_goes_188 hl (k := 4) rfl (by rw [ev24]; rfl) (by decide) rfl (fun ls hl => ?_)
              refine lv_goto (tgt := 5) hx hb dX10_goes_191 (by decide) ?_
              exact hrec5 (v23, v24, M18) _ _ _ hH (lv_sub hl [2, 3, 4, 1, 0] rfl)
        · intro rec51 k51 hrec51 hk51 ⟨v16, M17⟩ H locs ls hH hl
          have hH : KH SM E ad sz M17 s.heap H locs := hH
          have hl : lv_has ls 8 [(5, .int v13), (0, .ref (ad 0)), (1, .int a1), (2, .int a2), (3, .int v1), (4, .int v2), (6, .int v16)] := hl
          refine W_q fX10_goes_L51_u ?_
          refine lv_iload hx hb dX10_goes_51 (lv_at hl 6 rfl) ?_
          refine lv_aload_n hx hb dX10_goes_53 rfl (lv_at hl 1 rfl) ?_
          refine k_get C hH fd_X10_9 oM (k_ref (M := M17) (ad := ad) rM0) dX10_goes_54 ?_
          refine lv_sipush (v := 216) hx hb dX10_goes_57 (by decide) ?_
          refine k_iald C hH aM0 dX10_goes_60 ?_
          refine kb_icmp_ge (tgt := 160) hx hb dX10_goes_61 (by decide) (fun _ => ?_) (fun _ => ?_)
          · exact hk51 M17 _ _ _ hH (lv_sub hl [1, 2, 3, 4, 5] rfl)
          · refine lv_aload_n hx hb dX10_goes_64 rfl (lv_at hl 1 rfl) ?_
            refine k_get C hH fd_X10_25 oM (k_ref (M := M17) (ad := ad) rM11) dX10_goes_65 ?_
            refine lv_iload hx hb dX10_goes_68 (lv_at hl 5 rfl) ?_
            refine k_iald C hH aM11 dX10_goes_70 ?_
            refine kb_if_ge (tgt := 160) hx hb dX10_goes_71 (by decide) (fun _ => ?_) (fun _ => ?_)
            · exact hk51 M17 _ _ _ hH (lv_sub hl [1, 2, 3, 4, 5] rfl)
            · refine lv_aload_n hx hb dX10_goes_74 rfl (lv_at hl 1 rfl) ?_
              refine k_get C hH fd_X10_28 oM (k_ref (M := M17) (ad := ad) rM12) dX10_goes_75 ?_
              refine lv_iload hx hb dX10_goes_78 (lv_at hl 5 rfl) ?_
              refine k_iald C hH aM12 dX10_goes_80 ?_
              refine kb_if_ge (tgt := 160) hx hb dX10_goes_81 (by decide) (fun _ => ?_) (fun _ => ?_)
              · exact hk51 M17 _ _ _ hH (lv_sub hl [1, 2, 3, 4, 5] rfl)
              · refine lv_aload_n hx hb dX10_goes_84 rfl (lv_at hl 1 rfl) ?_
                refine lv_iload hx hb dX10_goes_85 (lv_at hl 6 rfl) ?_
                refine kg_io C hH (kc_V C hH w_6_143 lc_yX10_head li_yX10_head oM (kX10_head l E ad M17 v16) (As := [.int v16]) rfl dX10_goes_87 rfl hl.1 (Nat.le_of_ble_eq_true rfl) ⟨Nat.le_of_ble_eq_true rfl, Nat.le_of_ble_eq_true rfl⟩ ⟨Nat.le_of_ble_eq_true rfl, Nat.le_of_ble_eq_true rfl⟩) ⟨rfl, rfl⟩ (fun v25 H locs hH => ?_)
                refine lv_iload hx hb dX10_goes_90 (lv_at hl 0 rfl) ?_
                refine kb_icmp_ne (tgt := 154) hx hb dX10_goes_92 (by decide) (fun _ => ?_) (fun _ => ?_)
                · refine W_nm (fun v26 ev26 => ?_)
                  refine lv_iinc (v := v26) (lv' := [(6, .int v26), (5, .int v13), (0, .ref (ad 0)), (1, .int a1), (2, .int a2), (3, .int v1), (4, .int v2)]) hx hb dX10_goes_154 hl (k := 6) rfl (by rw [ev26]; rfl) (by decide) rfl (fun ls hl => ?_)
                  refine lv_goto (tgt := 51) hx hb dX10_goes_157 (by decide) ?_
                  exact hrec51 (v26, M17) _ _ _ hH (lv_sub hl [1, 2, 3, 4, 5, 6, 0] rfl)
                · refine lv_aload_n hx hb dX10_goes_95 rfl (lv_at hl 1 rfl) ?_
                  refine k_get C hH fd_X10_22 oM (k_ref (M := M17) (ad := ad) rM10) dX10_goes_96 ?_
                  refine lv_iload hx hb dX10_goes_99 (lv_at hl 0 rfl) ?_
                  refine k_iald C hH aM10 dX10_goes_101 ?_
                  refine lv_iload_n hx hb dX10_goes_102 rfl (lv_at hl 2 rfl) ?_
                  refine kb_icmp_ne (tgt := 154) hx hb dX10_goes_103 (by decide) (fun _ => ?_) (fun _ => ?_)
                  · refine W_nm (fun v27 ev27 => ?_)
                    refine lv_iinc (v := v27) (lv' := [(6, .int v27), (5, .int v13), (0, .ref (ad 0)), (1, .int a1), (2, .int a2), (3, .int v1), (4, .int v2)]) hx hb dX10_goes_154 hl (k := 6) rfl (by rw [ev27]; rfl) (by decide) rfl (fun ls hl => ?_)
                    refine lv_goto (tgt := 51) hx hb dX10_goes_157 (by decide) ?_
                    exact hrec51 (v27, M17) _ _ _ hH (lv_sub hl [1, 2, 3, 4, 5, 6, 0] rfl)
                  · refine lv_aload_n hx hb dX10_goes_106 rfl (lv_at hl 1 rfl) ?_
                    refine lv_iload hx hb dX10_goes_107 (lv_at hl 6 rfl) ?_
                    refine lv_iload hx hb dX10_goes_109 (lv_at hl 5 rfl) ?_
                    refine lv_bipush (v := 6) hx hb dX10_goes_111 (by decide) ?_
                    refine lv_idiv hx hb dX10_goes_113 (by decide) ?_
                    refine lv_bipush (v := 6) hx hb dX10_goes_114 (by decide) ?_
                    refine k_irem hx hb dX10_goes_116 (by decide) ?_
                    refine lv_iload hx hb dX10_goes_117 (lv_at hl 5 rfl) ?_
                    refine lv_bipush (v := 6) hx hb dX10_goes_119 (by decide) ?_
                    refine k_irem hx hb dX10_goes_121 (by decide) ?_
                    refine kg_ib C hH (kc_V C hH w_6_156 lc_yX10_lowest li_yX10_lowest oM (kX10_lowest l E ad M17 v16 (jrem (v2 / 6) 6) (jrem v2 6)) (As := [.int v16, .int (jrem (v2 / 6) 6), .int (jrem v2 6)]) rfl dX10_goes_122 rfl hl.1 (Nat.le_of_ble_eq_true rfl) ⟨Nat.le_of_ble_eq_true rfl, Nat.le_of_ble_eq_true rfl⟩ ⟨Nat.le_of_ble_eq_true rfl, Nat.le_of_ble_eq_true rfl⟩) ⟨rfl, rfl⟩ (fun v29 M28 H locs hH => ?_)
                    refine lv_istore (lv' := [(7, .int v29), (5, .int v13), (0, .ref (ad 0)), (1, .int a1), (2, .int a2), (3, .int v1), (4, .int v2), (6, .int v16)]) hx hb dX10_goes_125 hl (by decide) rfl (fun ls hl => ?_)
                    refine lv_aload_n hx hb dX10_goes_127 rfl (lv_at hl 2 rfl) ?_
                    refine k_get C hH fd_X10_28 oM (k_ref (M := M28) (ad := ad) rM12) dX10_goes_128 ?_
                    refine lv_iload hx hb dX10_goes_131 (lv_at hl 6 rfl) ?_
                    refine lv_iload hx hb dX10_goes_133 (lv_at hl 0 rfl) ?_
                    refine W_jn (fun (x : Int32) H locs => KH SM E ad sz M28 s.heap H locs) (fun x ls => lv_has ls 8 [(7, .int v29), (5, .int v13), (0, .ref (ad 0)), (1, .int a1), (2, .int a2), (3, .int v1), (4, .int v2), (6, .int v16)]) (fun x ls => F0 m 144 ls [.int x, .int v2, .ref (ad 7)]) ?_ (fun K144_135 hK144_135 => ?_)
                    · intro v30 H locs ls hH hl
                      have hH : KH SM E ad sz M28 s.heap H locs := hH
                      have hl : lv_has ls 8 [(7, .int v29), (5, .int v13), (0, .ref (ad 0)), (1, .int a1), (2, .int a2), (3, .int v1), (4, .int v2), (6, .int v16)] := hl
                      refine W_q fX10_goes_J144_135_u ?_
                      refine k_iast C hH aM12 dX10_goes_144 (fun M31 H locs hH => ?_)
                      refine lv_aload_n hx hb dX10_goes_145 rfl (lv_at hl 2 rfl) ?_
                      refine k_get C hH fd_X10_31 oM (k_ref (M := M31) (ad := ad) rM13) dX10_goes_146 ?_
                      refine lv_iload hx hb dX10_goes_149 (lv_at hl 6 rfl) ?_
                      refine lv_iload hx hb dX10_goes_151 (lv_at hl 0 rfl) ?_
                      refine k_iast C hH aM13 dX10_goes_153 (fun M32 H locs hH => ?_)
                      refine W_nm (fun v33 ev33 => ?_)
                      refine lv_iinc (v := v33) (lv' := [(6, .int v33), (7, .int v29), (5, .int v13), (0, .ref (ad 0)), (1, .int a1), (2, .int a2), (3, .int v1), (4, .int v2)]) hx hb dX10_goes_154 hl (k := 7) rfl (by rw [ev33]; rfl) (by decide) rfl (fun ls hl => ?_)
                      refine lv_goto (tgt := 51) hx hb dX10_goes_157 (by decide) ?_
                      exact hrec51 (v33, M32) _ _ _ hH (lv_sub hl [2, 3, 4, 5, 6, 7, 0] rfl)
                    · refine kb_if_ge (tgt := 142) hx hb dX10_goes_135 (by decide) (fun _ => ?_) (fun _ => ?_)
                      · refine lv_iload hx hb dX10_goes_142 (lv_at hl 7 rfl) ?_
                        exact hK144_135 v16 _ _ _ hH (lv_sub hl [0, 1, 2, 3, 4, 5, 6, 7] rfl)
                      · refine lv_iconst (v := (-1)) hx hb dX10_goes_138 (by decide) ?_
                        refine lv_goto (tgt := 144) hx hb dX10_goes_139 (by decide) ?_
                        exact hK144_135 (-1) _ _ _ hH (lv_sub hl [0, 1, 2, 3, 4, 5, 6, 7] rfl)
      · refine kb_if_ge (tgt := 40) hx hb dX10_goes_33 (by decide) (fun _ => ?_) (fun _ => ?_)
        · refine lv_aload_n hx hb dX10_goes_40 rfl (lv_at hl 1 rfl) ?_
          refine k_get C hH fd_X10_28 oM (k_ref (M := M3) (ad := ad) rM12) dX10_goes_41 ?_
          refine lv_iload hx hb dX10_goes_44 (lv_at hl 5 rfl) ?_
          refine k_iald C hH aM12 dX10_goes_46 ?_
          exact hK47_33 (M3.1 7 v2.toNatClampNeg) _ _ _ hH (lv_sub hl [0, 1, 2, 3, 4, 5] rfl)
        · refine lv_iconst (v := (-1)) hx hb dX10_goes_36 (by decide) ?_
          refine lv_goto (tgt := 47) hx hb dX10_goes_37 (by decide) ?_
          exact hK47_33 (-1) _ _ _ hH (lv_sub hl [0, 1, 2, 3, 4, 5] rfl)
def fX10_derives_X61 (M9 : KS) : Option (KS) := some M9
theorem fX10_derives_X61_u {M9 : KS} : fX10_derives_X61 M9 = some M9 := rfl
def fX10_derives_X91 (v7 : Int32) (rec61 : (Int32 × Int32 × KS) → Option (KS)) (x : Int32 × KS) : Option (KS) := match x with | (v16, M17) => nm (v7 + 1) fun v18 => rec61 (v16, v18, M17)
theorem fX10_derives_X91_u {v7 : Int32} {rec61 : (Int32 × Int32 × KS) → Option (KS)} {v16 : Int32} {M17 : KS} : fX10_derives_X91 v7 rec61 (v16, M17) = nm (v7 + 1) fun v18 => rec61 (v16, v18, M17) := rfl
def fX10_derives_L91 (v7 : Int32) (rec91 : (Int32 × Int32 × KS) → Option (KS)) (k91 : (Int32 × KS) → Option (KS)) (x : Int32 × Int32 × KS) : Option (KS) := match x with | (v13, v14, M15) => (if v14 ≤ 0 then k91 (v13, M15) else if inb v13 217 then nm (kset M15 9 v13.toNatClampNeg v14) fun M19 => nm (v13 + 1) fun v20 => if inb v7 6 then if inb v7 6 then nm (kset M19 10 v7.toNatClampNeg ((M19.1 10 v7.toNatClampNeg) + 1)) fun M21 => if inb v7 6 then bd2 (fX10_goes M21 v7 ((M21.1 10 v7.toNatClampNeg) + 1)) fun v23 M22 => rec91 (v20, v23, M22) else none else none else none else none)
theorem fX10_derives_L91_u {v7 : Int32} {rec91 : (Int32 × Int32 × KS) → Option (KS)} {k91 : (Int32 × KS) → Option (KS)} {v13 : Int32} {v14 : Int32} {M15 : KS} : fX10_derives_L91 v7 rec91 k91 (v13, v14, M15) = (if v14 ≤ 0 then k91 (v13, M15) else if inb v13 217 then nm (kset M15 9 v13.toNatClampNeg v14) fun M19 => nm (v13 + 1) fun v20 => if inb v7 6 then if inb v7 6 then nm (kset M19 10 v7.toNatClampNeg ((M19.1 10 v7.toNatClampNeg) + 1)) fun M21 => if inb v7 6 then bd2 (fX10_goes M21 v7 ((M21.1 10 v7.toNatClampNeg) + 1)) fun v23 M22 => rec91 (v20, v23, M22) else none else none else none else none) := rfl
def fX10_derives_J89_76 (v6 : Int32) (v7 : Int32) (rec61 : (Int32 × Int32 × KS) → Option (KS)) (x : Int32 × KS) : Option (KS) := match x with | (v11, M12) => lp (fX10_derives_L91 v7) (fX10_derives_X91 v7 rec61) 1000000 (v6, v11, M12)
theorem fX10_derives_J89_76_u {v6 : Int32} {v7 : Int32} {rec61 : (Int32 × Int32 × KS) → Option (KS)} {v11 : Int32} {M12 : KS} : fX10_derives_J89_76 v6 v7 rec61 (v11, M12) = lp (fX10_derives_L91 v7) (fX10_derives_X91 v7 rec61) 1000000 (v6, v11, M12) := rfl
def fX10_derives_L61 (v5 : Int32) (rec61 : (Int32 × Int32 × KS) → Option (KS)) (k61 : (KS) → Option (KS)) (x : Int32 × Int32 × KS) : Option (KS) := match x with | (v6, v7, M8) => (if 6 ≤ v7 then k61 M8 else if inb v7 6 then nm (kset M8 10 v7.toNatClampNeg 0) fun M10 => jn (fX10_derives_J89_76 v6 v7 rec61) (fun K89_76 => (if v5 ≤ v7 then K89_76 (0, M10) else bd2 (fX10_goes M10 v7 1) fun v25 M24 => K89_76 (v25, M24))) else none)
theorem fX10_derives_L61_u {v5 : Int32} {rec61 : (Int32 × Int32 × KS) → Option (KS)} {k61 : (KS) → Option (KS)} {v6 : Int32} {v7 : Int32} {M8 : KS} : fX10_derives_L61 v5 rec61 k61 (v6, v7, M8) = (if 6 ≤ v7 then k61 M8 else if inb v7 6 then nm (kset M8 10 v7.toNatClampNeg 0) fun M10 => jn (fX10_derives_J89_76 v6 v7 rec61) (fun K89_76 => (if v5 ≤ v7 then K89_76 (0, M10) else bd2 (fX10_goes M10 v7 1) fun v25 M24 => K89_76 (v25, M24))) else none) := rfl
def fX10_derives_X2 (M3 : KS) : Option (KS) := bd2 (fX10_layerMany M3) fun v5 M4 => lp (fX10_derives_L61 v5) (fX10_derives_X61) 1000000 (0, 0, M4)
theorem fX10_derives_X2_u {M3 : KS} : fX10_derives_X2 M3 = bd2 (fX10_layerMany M3) fun v5 M4 => lp (fX10_derives_L61 v5) (fX10_derives_X61) 1000000 (0, 0, M4) := rfl
def fX10_derives_J31_23 (v1 : Int32) (M2 : KS) (rec2 : (Int32 × KS) → Option (KS)) (v26 : Int32) : Option (KS) := if inb v1 216 then nm (kset M2 6 v1.toNatClampNeg v26) fun M27 => if inb v1 216 then nm (kset M27 7 v1.toNatClampNeg (-1)) fun M28 => if inb v1 216 then nm (kset M28 8 v1.toNatClampNeg (-1)) fun M29 => nm (v1 + 1) fun v30 => rec2 (v30, M29) else none else none else none
theorem fX10_derives_J31_23_u {v1 : Int32} {M2 : KS} {rec2 : (Int32 × KS) → Option (KS)} {v26 : Int32} : fX10_derives_J31_23 v1 M2 rec2 v26 = if inb v1 216 then nm (kset M2 6 v1.toNatClampNeg v26) fun M27 => if inb v1 216 then nm (kset M27 7 v1.toNatClampNeg (-1)) fun M28 => if inb v1 216 then nm (kset M28 8 v1.toNatClampNeg (-1)) fun M29 => nm (v1 + 1) fun v30 => rec2 (v30, M29) else none else none else none := rfl
def fX10_derives_L2 (rec2 : (Int32 × KS) → Option (KS)) (k2 : (KS) → Option (KS)) (x : Int32 × KS) : Option (KS) := match x with | (v1, M2) => (if 216 ≤ v1 then k2 M2 else if inb (0 + v1) 257 then jn (fX10_derives_J31_23 v1 M2 rec2) (fun K31_23 => (if (M2.1 1 (0 + v1).toNatClampNeg) = 1 then K31_23 0 else K31_23 (-1))) else none)
theorem fX10_derives_L2_u {rec2 : (Int32 × KS) → Option (KS)} {k2 : (KS) → Option (KS)} {v1 : Int32} {M2 : KS} : fX10_derives_L2 rec2 k2 (v1, M2) = (if 216 ≤ v1 then k2 M2 else if inb (0 + v1) 257 then jn (fX10_derives_J31_23 v1 M2 rec2) (fun K31_23 => (if (M2.1 1 (0 + v1).toNatClampNeg) = 1 then K31_23 0 else K31_23 (-1))) else none) := rfl
def fX10_derives (M : KS)  : Option (KS) := lp (fX10_derives_L2) (fX10_derives_X2) 1000000 (0, M)
set_option maxHeartbeats 4000000 in
set_option maxRecDepth 100000 in
theorem kX10_derives (l : Launch) (E : KE) (ad : Nat → Nat) (M : KS)  : CT l yX10_derives cX10_derives 5 none { frames := 6, cells := 0, slots := 0, locals := 146 } SM E ad [.ref (ad 0)] M (QV SM E ad) (fX10_derives M) := by
  refine CT.ofW (by decide) (Nat.le_of_ble_eq_true rfl) (fun sz p e s m args below meth c C hr hH ls hl => ?_)
  have hx := C.1.1
  have hb := C.1.2.1
  have hl : lv_has ls 5 [(0, .ref (ad 0))] := hl
  unfold fX10_derives
  refine lv_iconst (v := 0) hx hb dX10_derives_0 (by decide) ?_
  refine lv_istore_n (lv' := [(1, .int 0), (0, .ref (ad 0))]) hx hb dX10_derives_1 rfl hl (by decide) rfl (fun ls hl => ?_)
  refine W_lp (fun (x : Int32 × KS) H locs => KH SM E ad sz x.2 s.heap H locs) (fun x ls => lv_has ls 5 [(0, .ref (ad 0)), (1, .int x.1)]) (fun _ ls => F0 m 2 ls []) (fun (x : KS) H locs => KH SM E ad sz x s.heap H locs) (fun x ls => lv_has ls 5 [(0, .ref (ad 0))]) (fun _ ls => F0 m 52 ls []) ?_ ?_ hH (lv_sub hl [1, 0] rfl)
  · intro M3 H locs ls hH hl
    have hH : KH SM E ad sz M3 s.heap H locs := hH
    have hl : lv_has ls 5 [(0, .ref (ad 0))] := hl
    refine W_q fX10_derives_X2_u ?_
    refine lv_aload_n hx hb dX10_derives_52 rfl (lv_at hl 0 rfl) ?_
    refine kg_ib C hH (kc_V C hH w_6_125 lc_yX10_layerMany li_yX10_layerMany oM (kX10_layerMany l E ad M3) (As := []) rfl dX10_derives_53 rfl hl.1 (Nat.le_of_ble_eq_true rfl) ⟨Nat.le_of_ble_eq_true rfl, Nat.le_of_ble_eq_true rfl⟩ ⟨Nat.le_of_ble_eq_true rfl, Nat.le_of_ble_eq_true rfl⟩) ⟨rfl, rfl⟩ (fun v5 M4 H locs hH => ?_)
    refine lv_istore_n (lv' := [(1, .int v5), (0, .ref (ad 0))]) hx hb dX10_derives_56 rfl hl (by decide) rfl (fun ls hl => ?_)
    refine lv_iconst (v := 0) hx hb dX10_derives_57 (by decide) ?_
    refine lv_istore_n (lv' := [(2, .int 0), (1, .int v5), (0, .ref (ad 0))]) hx hb dX10_derives_58 rfl hl (by decide) rfl (fun ls hl => ?_)
    refine lv_iconst (v := 0) hx hb dX10_derives_59 (by decide) ?_
    refine lv_istore_n (lv' := [(3, .int 0), (2, .int 0), (1, .int v5), (0, .ref (ad 0))]) hx hb dX10_derives_60 rfl hl (by decide) rfl (fun ls hl => ?_)
    refine W_lp (fun (x : Int32 × Int32 × KS) H locs => KH SM E ad sz x.2.2 s.heap H locs) (fun x ls => lv_has ls 5 [(1, .int v5), (0, .ref (ad 0)), (2, .int x.1), (3, .int x.2.1)]) (fun _ ls => F0 m 61 ls []) (fun (x : KS) H locs => KH SM E ad sz x s.heap H locs) (fun x ls => lv_has ls 5 []) (fun _ ls => F0 m 141 ls []) ?_ ?_ hH (lv_sub hl [2, 3, 1, 0] rfl)
    · intro M9 H locs ls hH hl
      have hH : KH SM E ad sz M9 s.heap H locs := hH
      have hl : lv_has ls 5 [] := hl
      refine W_q fX10_derives_X61_u ?_
      exact ke_v C hH hr (Nat.le_refl _) (Nat.le_refl _) rfl dX10_derives_141
    · intro rec61 k61 hrec61 hk61 ⟨v6, v7, M8⟩ H locs ls hH hl
      have hH : KH SM E ad sz M8 s.heap H locs := hH
      have hl : lv_has ls 5 [(1, .int v5), (0, .ref (ad 0)), (2, .int v6), (3, .int v7)] := hl
      refine W_q fX10_derives_L61_u ?_
      refine lv_iload_n hx hb dX10_derives_61 rfl (lv_at hl 3 rfl) ?_
      refine lv_bipush (v := 6) hx hb dX10_derives_62 (by decide) ?_
      refine kb_icmp_ge (tgt := 141) hx hb dX10_derives_64 (by decide) (fun _ => ?_) (fun _ => ?_)
      · exact hk61 M8 _ _ _ hH (lv_sub hl [] rfl)
      · refine lv_aload_n hx hb dX10_derives_67 rfl (lv_at hl 1 rfl) ?_
        refine k_get C hH fd_X10_37 oM (k_ref (M := M8) (ad := ad) rM15) dX10_derives_68 ?_
        refine lv_iload_n hx hb dX10_derives_71 rfl (lv_at hl 3 rfl) ?_
        refine lv_iconst (v := 0) hx hb dX10_derives_72 (by decide) ?_
        refine k_iast C hH aM15 dX10_derives_73 (fun M10 H locs hH => ?_)
        refine lv_iload_n hx hb dX10_derives_74 rfl (lv_at hl 3 rfl) ?_
        refine lv_iload_n hx hb dX10_derives_75 rfl (lv_at hl 0 rfl) ?_
        refine W_jn (fun (x : Int32 × KS) H locs => KH SM E ad sz x.2 s.heap H locs) (fun x ls => lv_has ls 5 [(1, .int v5), (0, .ref (ad 0)), (2, .int v6), (3, .int v7)]) (fun x ls => F0 m 89 ls [.int x.1]) ?_ (fun K89_76 hK89_76 => ?_)
        · intro ⟨v11, M12⟩ H locs ls hH hl
          have hH : KH SM E ad sz M12 s.heap H locs := hH
          have hl : lv_has ls 5 [(1, .int v5), (0, .ref (ad 0)), (2, .int v6), (3, .int v7)] := hl
          refine W_q fX10_derives_J89_76_u ?_
          refine lv_istore (lv' := [(4, .int v11), (1, .int v5), (0, .ref (ad 0)), (2, .int v6), (3, .int v7)]) hx hb dX10_derives_89 hl (by decide) rfl (fun ls hl => ?_)
          refine W_lp (fun (x : Int32 × Int32 × KS) H locs => KH SM E ad sz x.2.2 s.heap H locs) (fun x ls => lv_has ls 5 [(1, .int v5), (0, .ref (ad 0)), (3, .int v7), (2, .int x.1), (4, .int x.2.1)]) (fun _ ls => F0 m 91 ls []) (fun (x : Int32 × KS) H locs => KH SM E ad sz x.2 s.heap H locs) (fun x ls => lv_has ls 5 [(1, .int v5), (0, .ref (ad 0)), (3, .int v7), (2, .int x.1)]) (fun _ ls => F0 m 135 ls []) ?_ ?_ hH (lv_sub hl [1, 2, 4, 3, 0] rfl)
          · intro ⟨v16, M17⟩ H locs ls hH hl
            have hH : KH SM E ad sz M17 s.heap H locs := hH
            have hl : lv_has ls 5 [(1, .int v5), (0, .ref (ad 0)), (3, .int v7), (2, .int v16)] := hl
            refine W_q fX10_derives_X91_u ?_
            refine W_nm (fun v18 ev18 => ?_)
            refine lv_iinc (v := v18) (lv' := [(3, .int v18), (1, .int v5), (0, .ref (ad 0)), (2, .int v16)]) hx hb dX10_derives_135 hl (k := 2) rfl (by rw [ev18]; rfl) (by decide) rfl (fun ls hl => ?_)
            refine lv_goto (tgt := 61) hx hb dX10_derives_138 (by decide) ?_
            exact hrec61 (v16, v18, M17) _ _ _ hH (lv_sub hl [1, 2, 3, 0] rfl)
          · intro rec91 k91 hrec91 hk91 ⟨v13, v14, M15⟩ H locs ls hH hl
            have hH : KH SM E ad sz M15 s.heap H locs := hH
            have hl : lv_has ls 5 [(1, .int v5), (0, .ref (ad 0)), (3, .int v7), (2, .int v13), (4, .int v14)] := hl
            refine W_q fX10_derives_L91_u ?_
            refine lv_iload hx hb dX10_derives_91 (lv_at hl 4 rfl) ?_
            refine kb_if_le (tgt := 135) hx hb dX10_derives_93 (by decide) (fun _ => ?_) (fun _ => ?_)
            · exact hk91 (v13, M15) _ _ _ hH (lv_sub hl [0, 1, 2, 3] rfl)
            · refine lv_aload_n hx hb dX10_derives_96 rfl (lv_at hl 1 rfl) ?_
              refine k_get C hH fd_X10_34 oM (k_ref (M := M15) (ad := ad) rM14) dX10_derives_97 ?_
              refine lv_iload_n hx hb dX10_derives_100 rfl (lv_at hl 3 rfl) ?_
              refine lv_iload hx hb dX10_derives_101 (lv_at hl 4 rfl) ?_
              refine k_iast C hH aM14 dX10_derives_103 (fun M19 H locs hH => ?_)
              refine W_nm (fun v20 ev20 => ?_)
              refine lv_iinc (v := v20) (lv' := [(2, .int v20), (1, .int v5), (0, .ref (ad 0)), (3, .int v7), (4, .int v14)]) hx hb dX10_derives_104 hl (k := 3) rfl (by rw [ev20]; rfl) (by decide) rfl (fun ls hl => ?_)
              refine lv_aload_n hx hb dX10_derives_107 rfl (lv_at hl 2 rfl) ?_
              refine k_get C hH fd_X10_37 oM (k_ref (M := M19) (ad := ad) rM15) dX10_derives_108 ?_
              refine lv_iload_n hx hb dX10_derives_111 rfl (lv_at hl 3 rfl) ?_
              refine lv_dup2_11 hx hb dX10_derives_112 rfl rfl ?_
              refine k_iald C hH aM15 dX10_derives_113 ?_
              refine lv_iconst (v := 1) hx hb dX10_derives_114 (by decide) ?_
              refine lv_iadd hx hb dX10_derives_115 ?_
              refine k_iast C hH aM15 dX10_derives_116 (fun M21 H locs hH => ?_)
              refine lv_aload_n hx hb dX10_derives_117 rfl (lv_at hl 2 rfl) ?_
              refine lv_iload_n hx hb dX10_derives_118 rfl (lv_at hl 3 rfl) ?_
              refine lv_aload_n hx hb dX10_derives_119 rfl (lv_at hl 2 rfl) ?_
              refine k_get C hH fd_X10_37 oM (k_ref (M := M21) (ad := ad) rM15) dX10_derives_120 ?_
              refine lv_iload_n hx hb dX10_derives_123 rfl (lv_at hl 3 rfl) ?_
              refine k_iald C hH aM15 dX10_derives_124 ?_
              refine lv_iconst (v := 1) hx hb dX10_derives_125 (by decide) ?_
              refine lv_iadd hx hb dX10_derives_126 ?_
              refine kg_ib C hH (kc_V C hH w_6_152 lc_yX10_goes li_yX10_goes oM (kX10_goes l E ad M21 v7 ((M21.1 10 v7.toNatClampNeg) + 1)) (As := [.int v7, .int ((M21.1 10 v7.toNatClampNeg) + 1)]) rfl dX10_derives_127 rfl hl.1 (Nat.le_of_ble_eq_true rfl) ⟨Nat.le_of_ble_eq_true rfl, Nat.le_of_ble_eq_true rfl⟩ ⟨Nat.le_of_ble_eq_true rfl, Nat.le_of_ble_eq_true rfl⟩) ⟨rfl, rfl⟩ (fun v23 M22 H locs hH => ?_)
              refine lv_istore (lv' := [(4, .int v23), (2, .int v20), (1, .int v5), (0, .ref (ad 0)), (3, .int v7)]) hx hb dX10_derives_130 hl (by decide) rfl (fun ls hl => ?_)
              refine lv_goto (tgt := 91) hx hb dX10_derives_132 (by decide) ?_
              exact hrec91 (v20, v23, M22) _ _ _ hH (lv_sub hl [2, 3, 4, 1, 0] rfl)
        · refine kb_icmp_ge (tgt := 88) hx hb dX10_derives_76 (by decide) (fun _ => ?_) (fun _ => ?_)
          · refine lv_iconst (v := 0) hx hb dX10_derives_88 (by decide) ?_
            exact hK89_76 (0, M10) _ _ _ hH (lv_sub hl [0, 1, 2, 3] rfl)
          · refine lv_aload_n hx hb dX10_derives_79 rfl (lv_at hl 1 rfl) ?_
            refine lv_iload_n hx hb dX10_derives_80 rfl (lv_at hl 3 rfl) ?_
            refine lv_iconst (v := 1) hx hb dX10_derives_81 (by decide) ?_
            refine kg_ib C hH (kc_V C hH w_6_152 lc_yX10_goes li_yX10_goes oM (kX10_goes l E ad M10 v7 1) (As := [.int v7, .int 1]) rfl dX10_derives_82 rfl hl.1 (Nat.le_of_ble_eq_true rfl) ⟨Nat.le_of_ble_eq_true rfl, Nat.le_of_ble_eq_true rfl⟩ ⟨Nat.le_of_ble_eq_true rfl, Nat.le_of_ble_eq_true rfl⟩) ⟨rfl, rfl⟩ (fun v25 M24 H locs hH => ?_)
            refine lv_goto (tgt := 89) hx hb dX10_derives_85 (by decide) ?_
            exact hK89_76 (v25, M24) _ _ _ hH (lv_sub hl [0, 1, 2, 3] rfl)
  · intro rec2 k2 hrec2 hk2 ⟨v1, M2⟩ H locs ls hH hl
    have hH : KH SM E ad sz M2 s.heap H locs := hH
    have hl : lv_has ls 5 [(0, .ref (ad 0)), (1, .int v1)] := hl
    refine W_q fX10_derives_L2_u ?_
    refine lv_iload_n hx hb dX10_derives_2 rfl (lv_at hl 1 rfl) ?_
    refine lv_sipush (v := 216) hx hb dX10_derives_3 (by decide) ?_
    refine kb_icmp_ge (tgt := 52) hx hb dX10_derives_6 (by decide) (fun _ => ?_) (fun _ => ?_)
    · exact hk2 M2 _ _ _ hH (lv_sub hl [0] rfl)
    · refine lv_aload_n hx hb dX10_derives_9 rfl (lv_at hl 0 rfl) ?_
      refine k_get C hH fd_X10_25 oM (k_ref (M := M2) (ad := ad) rM11) dX10_derives_10 ?_
      refine lv_iload_n hx hb dX10_derives_13 rfl (lv_at hl 1 rfl) ?_
      refine lv_aload_n hx hb dX10_derives_14 rfl (lv_at hl 0 rfl) ?_
      refine k_get C hH fd_X10_9 oM (k_ref (M := M2) (ad := ad) rM0) dX10_derives_15 ?_
      refine lv_iconst (v := 0) hx hb dX10_derives_18 (by decide) ?_
      refine lv_iload_n hx hb dX10_derives_19 rfl (lv_at hl 1 rfl) ?_
      refine lv_iadd hx hb dX10_derives_20 ?_
      refine k_iald C hH aM0 dX10_derives_21 ?_
      refine lv_iconst (v := 1) hx hb dX10_derives_22 (by decide) ?_
      refine W_jn (fun (x : Int32) H locs => KH SM E ad sz M2 s.heap H locs) (fun x ls => lv_has ls 5 [(0, .ref (ad 0)), (1, .int v1)]) (fun x ls => F0 m 31 ls [.int x, .int v1, .ref (ad 6)]) ?_ (fun K31_23 hK31_23 => ?_)
      · intro v26 H locs ls hH hl
        have hH : KH SM E ad sz M2 s.heap H locs := hH
        have hl : lv_has ls 5 [(0, .ref (ad 0)), (1, .int v1)] := hl
        refine W_q fX10_derives_J31_23_u ?_
        refine k_iast C hH aM11 dX10_derives_31 (fun M27 H locs hH => ?_)
        refine lv_aload_n hx hb dX10_derives_32 rfl (lv_at hl 0 rfl) ?_
        refine k_get C hH fd_X10_28 oM (k_ref (M := M27) (ad := ad) rM12) dX10_derives_33 ?_
        refine lv_iload_n hx hb dX10_derives_36 rfl (lv_at hl 1 rfl) ?_
        refine lv_iconst (v := (-1)) hx hb dX10_derives_37 (by decide) ?_
        refine k_iast C hH aM12 dX10_derives_38 (fun M28 H locs hH => ?_)
        refine lv_aload_n hx hb dX10_derives_39 rfl (lv_at hl 0 rfl) ?_
        refine k_get C hH fd_X10_31 oM (k_ref (M := M28) (ad := ad) rM13) dX10_derives_40 ?_
        refine lv_iload_n hx hb dX10_derives_43 rfl (lv_at hl 1 rfl) ?_
        refine lv_iconst (v := (-1)) hx hb dX10_derives_44 (by decide) ?_
        refine k_iast C hH aM13 dX10_derives_45 (fun M29 H locs hH => ?_)
        refine W_nm (fun v30 ev30 => ?_)
        refine lv_iinc (v := v30) (lv' := [(1, .int v30), (0, .ref (ad 0))]) hx hb dX10_derives_46 hl (k := 1) rfl (by rw [ev30]; rfl) (by decide) rfl (fun ls hl => ?_)
        refine lv_goto (tgt := 2) hx hb dX10_derives_49 (by decide) ?_
        exact hrec2 (v30, M29) _ _ _ hH (lv_sub hl [1, 0] rfl)
      · refine kb_icmp_ne (tgt := 30) hx hb dX10_derives_23 (by decide) (fun _ => ?_) (fun _ => ?_)
        · refine lv_iconst (v := (-1)) hx hb dX10_derives_30 (by decide) ?_
          exact hK31_23 (-1) _ _ _ hH (lv_sub hl [0, 1] rfl)
        · refine lv_iconst (v := 0) hx hb dX10_derives_26 (by decide) ?_
          refine lv_goto (tgt := 31) hx hb dX10_derives_27 (by decide) ?_
          exact hK31_23 0 _ _ _ hH (lv_sub hl [0, 1] rfl)
def fX10_holding_X4 (v3 : Int32) : Option (Int32) := some v3
theorem fX10_holding_X4_u {v3 : Int32} : fX10_holding_X4 v3 = some v3 := rfl
def fX10_holding_L4 (M : KS) (a1 : Int32) (rec4 : (Int32 × Int32) → Option (Int32)) (k4 : (Int32) → Option (Int32)) (x : Int32 × Int32) : Option (Int32) := match x with | (v1, v2) => (if 216 ≤ v2 then k4 v1 else if inb v2 216 then (if (M.1 6 v2.toNatClampNeg) < 0 then nm ((v1 + 0)) fun v4 => nm (v2 + 1) fun v5 => rec4 (v4, v5) else (if a1 < 0 then nm ((v1 + 1)) fun v6 => nm (v2 + 1) fun v7 => rec4 (v6, v7) else (if (v2 / 36) = a1 then nm ((v1 + 1)) fun v10 => nm (v2 + 1) fun v11 => rec4 (v10, v11) else nm ((v1 + 0)) fun v8 => nm (v2 + 1) fun v9 => rec4 (v8, v9)))) else none)
theorem fX10_holding_L4_u {M : KS} {a1 : Int32} {rec4 : (Int32 × Int32) → Option (Int32)} {k4 : (Int32) → Option (Int32)} {v1 : Int32} {v2 : Int32} : fX10_holding_L4 M a1 rec4 k4 (v1, v2) = (if 216 ≤ v2 then k4 v1 else if inb v2 216 then (if (M.1 6 v2.toNatClampNeg) < 0 then nm ((v1 + 0)) fun v4 => nm (v2 + 1) fun v5 => rec4 (v4, v5) else (if a1 < 0 then nm ((v1 + 1)) fun v6 => nm (v2 + 1) fun v7 => rec4 (v6, v7) else (if (v2 / 36) = a1 then nm ((v1 + 1)) fun v10 => nm (v2 + 1) fun v11 => rec4 (v10, v11) else nm ((v1 + 0)) fun v8 => nm (v2 + 1) fun v9 => rec4 (v8, v9)))) else none) := rfl
def fX10_holding (M : KS) (a1 : Int32) : Option (Int32) := lp (fX10_holding_L4 M a1) (fX10_holding_X4) 1000000 (0, 0)
set_option maxHeartbeats 4000000 in
set_option maxRecDepth 100000 in
theorem kX10_holding (l : Launch) (E : KE) (ad : Nat → Nat) (M : KS) (a1 : Int32) : CT l yX10_holding cX10_holding 4 (some .int) { frames := 0, cells := 0, slots := 0, locals := 0 } SM E ad [.ref (ad 0), .int a1] M (fun sz a => QI SM E ad sz (a, M)) (fX10_holding M a1) := by
  refine CT.ofW (by decide) (Nat.le_of_ble_eq_true rfl) (fun sz p e s m args below meth c C hr hH ls hl => ?_)
  have hx := C.1.1
  have hb := C.1.2.1
  have hl : lv_has ls 4 [(0, .ref (ad 0)), (1, .int a1)] := hl
  unfold fX10_holding
  refine lv_iconst (v := 0) hx hb dX10_holding_0 (by decide) ?_
  refine lv_istore_n (lv' := [(2, .int 0), (0, .ref (ad 0)), (1, .int a1)]) hx hb dX10_holding_1 rfl hl (by decide) rfl (fun ls hl => ?_)
  refine lv_iconst (v := 0) hx hb dX10_holding_2 (by decide) ?_
  refine lv_istore_n (lv' := [(3, .int 0), (2, .int 0), (0, .ref (ad 0)), (1, .int a1)]) hx hb dX10_holding_3 rfl hl (by decide) rfl (fun ls hl => ?_)
  refine W_lp (fun (x : Int32 × Int32) H locs => KH SM E ad sz M s.heap H locs) (fun x ls => lv_has ls 4 [(0, .ref (ad 0)), (1, .int a1), (2, .int x.1), (3, .int x.2)]) (fun _ ls => F0 m 4 ls []) (fun (x : Int32) H locs => KH SM E ad sz M s.heap H locs) (fun x ls => lv_has ls 4 [(2, .int x)]) (fun _ ls => F0 m 46 ls []) ?_ ?_ hH (lv_sub hl [2, 3, 1, 0] rfl)
  · intro v3 H locs ls hH hl
    have hH : KH SM E ad sz M s.heap H locs := hH
    have hl : lv_has ls 4 [(2, .int v3)] := hl
    refine W_q fX10_holding_X4_u ?_
    refine lv_iload_n hx hb dX10_holding_46 rfl (lv_at hl 0 rfl) ?_
    exact ke_i C hH hr (Nat.le_refl _) (Nat.le_refl _) rfl dX10_holding_47
  · intro rec4 k4 hrec4 hk4 ⟨v1, v2⟩ H locs ls hH hl
    have hH : KH SM E ad sz M s.heap H locs := hH
    have hl : lv_has ls 4 [(0, .ref (ad 0)), (1, .int a1), (2, .int v1), (3, .int v2)] := hl
    refine W_q fX10_holding_L4_u ?_
    refine lv_iload_n hx hb dX10_holding_4 rfl (lv_at hl 3 rfl) ?_
    refine lv_sipush (v := 216) hx hb dX10_holding_5 (by decide) ?_
    refine kb_icmp_ge (tgt := 46) hx hb dX10_holding_8 (by decide) (fun _ => ?_) (fun _ => ?_)
    · exact hk4 v1 _ _ _ hH (lv_sub hl [2] rfl)
    · refine lv_iload_n hx hb dX10_holding_11 rfl (lv_at hl 2 rfl) ?_
      refine lv_aload_n hx hb dX10_holding_12 rfl (lv_at hl 0 rfl) ?_
      refine k_get C hH fd_X10_25 oM (k_ref (M := M) (ad := ad) rM11) dX10_holding_13 ?_
      refine lv_iload_n hx hb dX10_holding_16 rfl (lv_at hl 3 rfl) ?_
      refine k_iald C hH aM11 dX10_holding_17 ?_
      refine kb_if_lt (tgt := 37) hx hb dX10_holding_18 (by decide) (fun _ => ?_) (fun _ => ?_)
      · refine lv_iconst (v := 0) hx hb dX10_holding_37 (by decide) ?_
        refine lv_iadd hx hb dX10_holding_38 ?_
        refine W_nmi (fun v4 => ?_)
        refine lv_istore_n (lv' := [(2, .int v4), (0, .ref (ad 0)), (1, .int a1), (3, .int v2)]) hx hb dX10_holding_39 rfl hl (by decide) rfl (fun ls hl => ?_)
        refine W_nm (fun v5 ev5 => ?_)
        refine lv_iinc (v := v5) (lv' := [(3, .int v5), (2, .int v4), (0, .ref (ad 0)), (1, .int a1)]) hx hb dX10_holding_40 hl (k := 3) rfl (by rw [ev5]; rfl) (by decide) rfl (fun ls hl => ?_)
        refine lv_goto (tgt := 4) hx hb dX10_holding_43 (by decide) ?_
        exact hrec4 (v4, v5) _ _ _ hH (lv_sub hl [2, 3, 1, 0] rfl)
      · refine lv_iload_n hx hb dX10_holding_21 rfl (lv_at hl 1 rfl) ?_
        refine kb_if_lt (tgt := 33) hx hb dX10_holding_22 (by decide) (fun _ => ?_) (fun _ => ?_)
        · refine lv_iconst (v := 1) hx hb dX10_holding_33 (by decide) ?_
          refine lv_goto (tgt := 38) hx hb dX10_holding_34 (by decide) ?_
          refine lv_iadd hx hb dX10_holding_38 ?_
          refine W_nmi (fun v6 => ?_)
          refine lv_istore_n (lv' := [(2, .int v6), (0, .ref (ad 0)), (1, .int a1), (3, .int v2)]) hx hb dX10_holding_39 rfl hl (by decide) rfl (fun ls hl => ?_)
          refine W_nm (fun v7 ev7 => ?_)
          refine lv_iinc (v := v7) (lv' := [(3, .int v7), (2, .int v6), (0, .ref (ad 0)), (1, .int a1)]) hx hb dX10_holding_40 hl (k := 3) rfl (by rw [ev7]; rfl) (by decide) rfl (fun ls hl => ?_)
          refine lv_goto (tgt := 4) hx hb dX10_holding_43 (by decide) ?_
          exact hrec4 (v6, v7) _ _ _ hH (lv_sub hl [2, 3, 1, 0] rfl)
        · refine lv_iload_n hx hb dX10_holding_25 rfl (lv_at hl 3 rfl) ?_
          refine lv_bipush (v := 36) hx hb dX10_holding_26 (by decide) ?_
          refine lv_idiv hx hb dX10_holding_28 (by decide) ?_
          refine lv_iload_n hx hb dX10_holding_29 rfl (lv_at hl 1 rfl) ?_
          refine kb_icmp_ne (tgt := 37) hx hb dX10_holding_30 (by decide) (fun _ => ?_) (fun _ => ?_)
          · refine lv_iconst (v := 0) hx hb dX10_holding_37 (by decide) ?_
            refine lv_iadd hx hb dX10_holding_38 ?_
            refine W_nmi (fun v8 => ?_)
            refine lv_istore_n (lv' := [(2, .int v8), (0, .ref (ad 0)), (1, .int a1), (3, .int v2)]) hx hb dX10_holding_39 rfl hl (by decide) rfl (fun ls hl => ?_)
            refine W_nm (fun v9 ev9 => ?_)
            refine lv_iinc (v := v9) (lv' := [(3, .int v9), (2, .int v8), (0, .ref (ad 0)), (1, .int a1)]) hx hb dX10_holding_40 hl (k := 3) rfl (by rw [ev9]; rfl) (by decide) rfl (fun ls hl => ?_)
            refine lv_goto (tgt := 4) hx hb dX10_holding_43 (by decide) ?_
            exact hrec4 (v8, v9) _ _ _ hH (lv_sub hl [2, 3, 1, 0] rfl)
          · refine lv_iconst (v := 1) hx hb dX10_holding_33 (by decide) ?_
            refine lv_goto (tgt := 38) hx hb dX10_holding_34 (by decide) ?_
            refine lv_iadd hx hb dX10_holding_38 ?_
            refine W_nmi (fun v10 => ?_)
            refine lv_istore_n (lv' := [(2, .int v10), (0, .ref (ad 0)), (1, .int a1), (3, .int v2)]) hx hb dX10_holding_39 rfl hl (by decide) rfl (fun ls hl => ?_)
            refine W_nm (fun v11 ev11 => ?_)
            refine lv_iinc (v := v11) (lv' := [(3, .int v11), (2, .int v10), (0, .ref (ad 0)), (1, .int a1)]) hx hb dX10_holding_40 hl (k := 3) rfl (by rw [ev11]; rfl) (by decide) rfl (fun ls hl => ?_)
            refine lv_goto (tgt := 4) hx hb dX10_holding_43 (by decide) ?_
            exact hrec4 (v10, v11) _ _ _ hH (lv_sub hl [2, 3, 1, 0] rfl)
def fX10_toldOf_X4 (v3 : Int32) : Option (Int32) := some v3
theorem fX10_toldOf_X4_u {v3 : Int32} : fX10_toldOf_X4 v3 = some v3 := rfl
def fX10_toldOf_L4 (M : KS) (a1 : Int32) (rec4 : (Int32 × Int32) → Option (Int32)) (k4 : (Int32) → Option (Int32)) (x : Int32 × Int32) : Option (Int32) := match x with | (v1, v2) => (if 216 ≤ v2 then k4 v1 else if inb (0 + v2) 257 then (if (M.1 1 (0 + v2).toNatClampNeg) = 1 then (if a1 < 0 then nm ((v1 + 1)) fun v6 => nm (v2 + 1) fun v7 => rec4 (v6, v7) else (if (v2 / 36) = a1 then nm ((v1 + 1)) fun v10 => nm (v2 + 1) fun v11 => rec4 (v10, v11) else nm ((v1 + 0)) fun v8 => nm (v2 + 1) fun v9 => rec4 (v8, v9))) else nm ((v1 + 0)) fun v4 => nm (v2 + 1) fun v5 => rec4 (v4, v5)) else none)
theorem fX10_toldOf_L4_u {M : KS} {a1 : Int32} {rec4 : (Int32 × Int32) → Option (Int32)} {k4 : (Int32) → Option (Int32)} {v1 : Int32} {v2 : Int32} : fX10_toldOf_L4 M a1 rec4 k4 (v1, v2) = (if 216 ≤ v2 then k4 v1 else if inb (0 + v2) 257 then (if (M.1 1 (0 + v2).toNatClampNeg) = 1 then (if a1 < 0 then nm ((v1 + 1)) fun v6 => nm (v2 + 1) fun v7 => rec4 (v6, v7) else (if (v2 / 36) = a1 then nm ((v1 + 1)) fun v10 => nm (v2 + 1) fun v11 => rec4 (v10, v11) else nm ((v1 + 0)) fun v8 => nm (v2 + 1) fun v9 => rec4 (v8, v9))) else nm ((v1 + 0)) fun v4 => nm (v2 + 1) fun v5 => rec4 (v4, v5)) else none) := rfl
def fX10_toldOf (M : KS) (a1 : Int32) : Option (Int32) := lp (fX10_toldOf_L4 M a1) (fX10_toldOf_X4) 1000000 (0, 0)
set_option maxHeartbeats 4000000 in
set_option maxRecDepth 100000 in
theorem kX10_toldOf (l : Launch) (E : KE) (ad : Nat → Nat) (M : KS) (a1 : Int32) : CT l yX10_toldOf cX10_toldOf 4 (some .int) { frames := 0, cells := 0, slots := 0, locals := 0 } SM E ad [.ref (ad 0), .int a1] M (fun sz a => QI SM E ad sz (a, M)) (fX10_toldOf M a1) := by
  refine CT.ofW (by decide) (Nat.le_of_ble_eq_true rfl) (fun sz p e s m args below meth c C hr hH ls hl => ?_)
  have hx := C.1.1
  have hb := C.1.2.1
  have hl : lv_has ls 4 [(0, .ref (ad 0)), (1, .int a1)] := hl
  unfold fX10_toldOf
  refine lv_iconst (v := 0) hx hb dX10_toldOf_0 (by decide) ?_
  refine lv_istore_n (lv' := [(2, .int 0), (0, .ref (ad 0)), (1, .int a1)]) hx hb dX10_toldOf_1 rfl hl (by decide) rfl (fun ls hl => ?_)
  refine lv_iconst (v := 0) hx hb dX10_toldOf_2 (by decide) ?_
  refine lv_istore_n (lv' := [(3, .int 0), (2, .int 0), (0, .ref (ad 0)), (1, .int a1)]) hx hb dX10_toldOf_3 rfl hl (by decide) rfl (fun ls hl => ?_)
  refine W_lp (fun (x : Int32 × Int32) H locs => KH SM E ad sz M s.heap H locs) (fun x ls => lv_has ls 4 [(0, .ref (ad 0)), (1, .int a1), (2, .int x.1), (3, .int x.2)]) (fun _ ls => F0 m 4 ls []) (fun (x : Int32) H locs => KH SM E ad sz M s.heap H locs) (fun x ls => lv_has ls 4 [(2, .int x)]) (fun _ ls => F0 m 49 ls []) ?_ ?_ hH (lv_sub hl [2, 3, 1, 0] rfl)
  · intro v3 H locs ls hH hl
    have hH : KH SM E ad sz M s.heap H locs := hH
    have hl : lv_has ls 4 [(2, .int v3)] := hl
    refine W_q fX10_toldOf_X4_u ?_
    refine lv_iload_n hx hb dX10_toldOf_49 rfl (lv_at hl 0 rfl) ?_
    exact ke_i C hH hr (Nat.le_refl _) (Nat.le_refl _) rfl dX10_toldOf_50
  · intro rec4 k4 hrec4 hk4 ⟨v1, v2⟩ H locs ls hH hl
    have hH : KH SM E ad sz M s.heap H locs := hH
    have hl : lv_has ls 4 [(0, .ref (ad 0)), (1, .int a1), (2, .int v1), (3, .int v2)] := hl
    refine W_q fX10_toldOf_L4_u ?_
    refine lv_iload_n hx hb dX10_toldOf_4 rfl (lv_at hl 3 rfl) ?_
    refine lv_sipush (v := 216) hx hb dX10_toldOf_5 (by decide) ?_
    refine kb_icmp_ge (tgt := 49) hx hb dX10_toldOf_8 (by decide) (fun _ => ?_) (fun _ => ?_)
    · exact hk4 v1 _ _ _ hH (lv_sub hl [2] rfl)
    · refine lv_iload_n hx hb dX10_toldOf_11 rfl (lv_at hl 2 rfl) ?_
      refine lv_aload_n hx hb dX10_toldOf_12 rfl (lv_at hl 0 rfl) ?_
      refine k_get C hH fd_X10_9 oM (k_ref (M := M) (ad := ad) rM0) dX10_toldOf_13 ?_
      refine lv_iconst (v := 0) hx hb dX10_toldOf_16 (by decide) ?_
      refine lv_iload_n hx hb dX10_toldOf_17 rfl (lv_at hl 3 rfl) ?_
      refine lv_iadd hx hb dX10_toldOf_18 ?_
      refine k_iald C hH aM0 dX10_toldOf_19 ?_
      refine lv_iconst (v := 1) hx hb dX10_toldOf_20 (by decide) ?_
      refine kb_icmp_ne (tgt := 40) hx hb dX10_toldOf_21 (by decide) (fun _ => ?_) (fun _ => ?_)
      · refine lv_iconst (v := 0) hx hb dX10_toldOf_40 (by decide) ?_
        refine lv_iadd hx hb dX10_toldOf_41 ?_
        refine W_nmi (fun v4 => ?_)
        refine lv_istore_n (lv' := [(2, .int v4), (0, .ref (ad 0)), (1, .int a1), (3, .int v2)]) hx hb dX10_toldOf_42 rfl hl (by decide) rfl (fun ls hl => ?_)
        refine W_nm (fun v5 ev5 => ?_)
        refine lv_iinc (v := v5) (lv' := [(3, .int v5), (2, .int v4), (0, .ref (ad 0)), (1, .int a1)]) hx hb dX10_toldOf_43 hl (k := 3) rfl (by rw [ev5]; rfl) (by decide) rfl (fun ls hl => ?_)
        refine lv_goto (tgt := 4) hx hb dX10_toldOf_46 (by decide) ?_
        exact hrec4 (v4, v5) _ _ _ hH (lv_sub hl [2, 3, 1, 0] rfl)
      · refine lv_iload_n hx hb dX10_toldOf_24 rfl (lv_at hl 1 rfl) ?_
        refine kb_if_lt (tgt := 36) hx hb dX10_toldOf_25 (by decide) (fun _ => ?_) (fun _ => ?_)
        · refine lv_iconst (v := 1) hx hb dX10_toldOf_36 (by decide) ?_
          refine lv_goto (tgt := 41) hx hb dX10_toldOf_37 (by decide) ?_
          refine lv_iadd hx hb dX10_toldOf_41 ?_
          refine W_nmi (fun v6 => ?_)
          refine lv_istore_n (lv' := [(2, .int v6), (0, .ref (ad 0)), (1, .int a1), (3, .int v2)]) hx hb dX10_toldOf_42 rfl hl (by decide) rfl (fun ls hl => ?_)
          refine W_nm (fun v7 ev7 => ?_)
          refine lv_iinc (v := v7) (lv' := [(3, .int v7), (2, .int v6), (0, .ref (ad 0)), (1, .int a1)]) hx hb dX10_toldOf_43 hl (k := 3) rfl (by rw [ev7]; rfl) (by decide) rfl (fun ls hl => ?_)
          refine lv_goto (tgt := 4) hx hb dX10_toldOf_46 (by decide) ?_
          exact hrec4 (v6, v7) _ _ _ hH (lv_sub hl [2, 3, 1, 0] rfl)
        · refine lv_iload_n hx hb dX10_toldOf_28 rfl (lv_at hl 3 rfl) ?_
          refine lv_bipush (v := 36) hx hb dX10_toldOf_29 (by decide) ?_
          refine lv_idiv hx hb dX10_toldOf_31 (by decide) ?_
          refine lv_iload_n hx hb dX10_toldOf_32 rfl (lv_at hl 1 rfl) ?_
          refine kb_icmp_ne (tgt := 40) hx hb dX10_toldOf_33 (by decide) (fun _ => ?_) (fun _ => ?_)
          · refine lv_iconst (v := 0) hx hb dX10_toldOf_40 (by decide) ?_
            refine lv_iadd hx hb dX10_toldOf_41 ?_
            refine W_nmi (fun v8 => ?_)
            refine lv_istore_n (lv' := [(2, .int v8), (0, .ref (ad 0)), (1, .int a1), (3, .int v2)]) hx hb dX10_toldOf_42 rfl hl (by decide) rfl (fun ls hl => ?_)
            refine W_nm (fun v9 ev9 => ?_)
            refine lv_iinc (v := v9) (lv' := [(3, .int v9), (2, .int v8), (0, .ref (ad 0)), (1, .int a1)]) hx hb dX10_toldOf_43 hl (k := 3) rfl (by rw [ev9]; rfl) (by decide) rfl (fun ls hl => ?_)
            refine lv_goto (tgt := 4) hx hb dX10_toldOf_46 (by decide) ?_
            exact hrec4 (v8, v9) _ _ _ hH (lv_sub hl [2, 3, 1, 0] rfl)
          · refine lv_iconst (v := 1) hx hb dX10_toldOf_36 (by decide) ?_
            refine lv_goto (tgt := 41) hx hb dX10_toldOf_37 (by decide) ?_
            refine lv_iadd hx hb dX10_toldOf_41 ?_
            refine W_nmi (fun v10 => ?_)
            refine lv_istore_n (lv' := [(2, .int v10), (0, .ref (ad 0)), (1, .int a1), (3, .int v2)]) hx hb dX10_toldOf_42 rfl hl (by decide) rfl (fun ls hl => ?_)
            refine W_nm (fun v11 ev11 => ?_)
            refine lv_iinc (v := v11) (lv' := [(3, .int v11), (2, .int v10), (0, .ref (ad 0)), (1, .int a1)]) hx hb dX10_toldOf_43 hl (k := 3) rfl (by rw [ev11]; rfl) (by decide) rfl (fun ls hl => ?_)
            refine lv_goto (tgt := 4) hx hb dX10_toldOf_46 (by decide) ?_
            exact hrec4 (v10, v11) _ _ _ hH (lv_sub hl [2, 3, 1, 0] rfl)
def fX10_allHolding (M : KS)  : Option (Int32 × KS) := (fX10_derives M).bind fun M1 => (fX10_holding M1 (-1)).bind fun v2 => some (v2, M1)
set_option maxHeartbeats 4000000 in
set_option maxRecDepth 100000 in
theorem kX10_allHolding (l : Launch) (E : KE) (ad : Nat → Nat) (M : KS)  : CT l yX10_allHolding cX10_allHolding 1 (some .int) { frames := 7, cells := 0, slots := 0, locals := 170 } SM E ad [.ref (ad 0)] M (QI SM E ad) (fX10_allHolding M) := by
  refine CT.ofW (by decide) (Nat.le_of_ble_eq_true rfl) (fun sz p e s m args below meth c C hr hH ls hl => ?_)
  have hx := C.1.1
  have hb := C.1.2.1
  have hl : lv_has ls 1 [(0, .ref (ad 0))] := hl
  unfold fX10_allHolding
  refine lv_aload_n hx hb dX10_allHolding_0 rfl (lv_at hl 0 rfl) ?_
  refine kg_v C hH (kc_V C hH w_6_121 lc_yX10_derives li_yX10_derives oM (kX10_derives l E ad M) (As := []) rfl dX10_allHolding_1 rfl hl.1 (Nat.le_of_ble_eq_true rfl) ⟨Nat.le_of_ble_eq_true rfl, Nat.le_of_ble_eq_true rfl⟩ ⟨Nat.le_of_ble_eq_true rfl, Nat.le_of_ble_eq_true rfl⟩) ⟨rfl, rfl⟩ (fun M1 H locs hH => ?_)
  refine lv_aload_n hx hb dX10_allHolding_4 rfl (lv_at hl 0 rfl) ?_
  refine lv_iconst (v := (-1)) hx hb dX10_allHolding_5 (by decide) ?_
  refine kg_io C hH (kc_V C hH w_6_178 lc_yX10_holding li_yX10_holding oM (kX10_holding l E ad M1 (-1)) (As := [.int (-1)]) rfl dX10_allHolding_6 rfl hl.1 (Nat.le_of_ble_eq_true rfl) ⟨Nat.le_of_ble_eq_true rfl, Nat.le_of_ble_eq_true rfl⟩ ⟨Nat.le_of_ble_eq_true rfl, Nat.le_of_ble_eq_true rfl⟩) ⟨rfl, rfl⟩ (fun v2 H locs hH => ?_)
  exact ke_i C hH hr (Nat.le_refl _) (Nat.le_refl _) rfl dX10_allHolding_9
def fX10_doTell (M : KS) (a1 : Int32) (a2 : Int32) (a3 : Int32) : Option (Int32 × KS) := (fX10_isFact a1 a2 a3).bind fun v1 => (if v1 = 0 then bd2 (fX10_fails M 1) fun v9 M8 => some (v9, M8) else if inb (0 + (fX10_fact a1 a2 a3)) 257 then (if (M.1 1 (0 + (fX10_fact a1 a2 a3)).toNatClampNeg) = 1 then (fX10_toldOf M a1).bind fun v5 => bd2 (fX10_refuse M 2 v5) fun v7 M6 => some (v7, M6) else if inb (0 + (fX10_fact a1 a2 a3)) 257 then nm (kset M 1 (0 + (fX10_fact a1 a2 a3)).toNatClampNeg 1) fun M2 => bd2 (fX10_allHolding M2) fun v4 M3 => some (v4, M3) else none) else none)
set_option maxHeartbeats 4000000 in
set_option maxRecDepth 100000 in
theorem kX10_doTell (l : Launch) (E : KE) (ad : Nat → Nat) (M : KS) (a1 : Int32) (a2 : Int32) (a3 : Int32) : CT l yX10_doTell cX10_doTell 4 (some .int) { frames := 8, cells := 0, slots := 0, locals := 190 } SM E ad [.ref (ad 0), .int a1, .int a2, .int a3] M (QI SM E ad) (fX10_doTell M a1 a2 a3) := by
  refine CT.ofW (by decide) (Nat.le_of_ble_eq_true rfl) (fun sz p e s m args below meth c C hr hH ls hl => ?_)
  have hx := C.1.1
  have hb := C.1.2.1
  have hl : lv_has ls 4 [(0, .ref (ad 0)), (1, .int a1), (2, .int a2), (3, .int a3)] := hl
  unfold fX10_doTell
  refine lv_iload_n hx hb dX10_doTell_0 rfl (lv_at hl 1 rfl) ?_
  refine lv_iload_n hx hb dX10_doTell_1 rfl (lv_at hl 2 rfl) ?_
  refine lv_iload_n hx hb dX10_doTell_2 rfl (lv_at hl 3 rfl) ?_
  refine kg_io C hH (kc_S C hH w_6_90 w_st_yX10_isFact rfl lc_yX10_isFact (kX10_isFact l E ad M a1 a2 a3) (As := [.int a1, .int a2, .int a3]) rfl dX10_doTell_3 rfl hl.1 (Nat.le_of_ble_eq_true rfl) ⟨Nat.le_of_ble_eq_true rfl, Nat.le_of_ble_eq_true rfl⟩ ⟨Nat.le_of_ble_eq_true rfl, Nat.le_of_ble_eq_true rfl⟩) ⟨rfl, rfl⟩ (fun v1 H locs hH => ?_)
  refine kb_if_ne (tgt := 15) hx hb dX10_doTell_6 (by decide) (fun _ => ?_) (fun _ => ?_)
  · refine lv_aload_n hx hb dX10_doTell_15 rfl (lv_at hl 0 rfl) ?_
    refine k_get C hH fd_X10_9 oM (k_ref (M := M) (ad := ad) rM0) dX10_doTell_16 ?_
    refine lv_iconst (v := 0) hx hb dX10_doTell_19 (by decide) ?_
    refine lv_iload_n hx hb dX10_doTell_20 rfl (lv_at hl 1 rfl) ?_
    refine lv_iload_n hx hb dX10_doTell_21 rfl (lv_at hl 2 rfl) ?_
    refine lv_iload_n hx hb dX10_doTell_22 rfl (lv_at hl 3 rfl) ?_
    refine kg_ip C hH (kc_S C hH w_6_106 w_st_yX10_fact rfl lc_yX10_fact (kX10_fact l E ad M a1 a2 a3) (As := [.int a1, .int a2, .int a3]) rfl dX10_doTell_23 rfl hl.1 (Nat.le_of_ble_eq_true rfl) ⟨Nat.le_of_ble_eq_true rfl, Nat.le_of_ble_eq_true rfl⟩ ⟨Nat.le_of_ble_eq_true rfl, Nat.le_of_ble_eq_true rfl⟩) ⟨rfl, rfl⟩ (fun H locs hH => ?_)
    refine lv_iadd hx hb dX10_doTell_26 ?_
    refine k_iald C hH aM0 dX10_doTell_27 ?_
    refine lv_iconst (v := 1) hx hb dX10_doTell_28 (by decide) ?_
    refine kb_icmp_ne (tgt := 43) hx hb dX10_doTell_29 (by decide) (fun _ => ?_) (fun _ => ?_)
    · refine lv_aload_n hx hb dX10_doTell_43 rfl (lv_at hl 0 rfl) ?_
      refine k_get C hH fd_X10_9 oM (k_ref (M := M) (ad := ad) rM0) dX10_doTell_44 ?_
      refine lv_iconst (v := 0) hx hb dX10_doTell_47 (by decide) ?_
      refine lv_iload_n hx hb dX10_doTell_48 rfl (lv_at hl 1 rfl) ?_
      refine lv_iload_n hx hb dX10_doTell_49 rfl (lv_at hl 2 rfl) ?_
      refine lv_iload_n hx hb dX10_doTell_50 rfl (lv_at hl 3 rfl) ?_
      refine kg_ip C hH (kc_S C hH w_6_106 w_st_yX10_fact rfl lc_yX10_fact (kX10_fact l E ad M a1 a2 a3) (As := [.int a1, .int a2, .int a3]) rfl dX10_doTell_51 rfl hl.1 (Nat.le_of_ble_eq_true rfl) ⟨Nat.le_of_ble_eq_true rfl, Nat.le_of_ble_eq_true rfl⟩ ⟨Nat.le_of_ble_eq_true rfl, Nat.le_of_ble_eq_true rfl⟩) ⟨rfl, rfl⟩ (fun H locs hH => ?_)
      refine lv_iadd hx hb dX10_doTell_54 ?_
      refine lv_iconst (v := 1) hx hb dX10_doTell_55 (by decide) ?_
      refine k_iast C hH aM0 dX10_doTell_56 (fun M2 H locs hH => ?_)
      refine lv_aload_n hx hb dX10_doTell_57 rfl (lv_at hl 0 rfl) ?_
      refine kg_ib C hH (kc_V C hH w_6_117 lc_yX10_allHolding li_yX10_allHolding oM (kX10_allHolding l E ad M2) (As := []) rfl dX10_doTell_58 rfl hl.1 (Nat.le_of_ble_eq_true rfl) ⟨Nat.le_of_ble_eq_true rfl, Nat.le_of_ble_eq_true rfl⟩ ⟨Nat.le_of_ble_eq_true rfl, Nat.le_of_ble_eq_true rfl⟩) ⟨rfl, rfl⟩ (fun v4 M3 H locs hH => ?_)
      exact ke_i C hH hr (Nat.le_refl _) (Nat.le_refl _) rfl dX10_doTell_61
    · refine lv_aload_n hx hb dX10_doTell_32 rfl (lv_at hl 0 rfl) ?_
      refine lv_iconst (v := 2) hx hb dX10_doTell_33 (by decide) ?_
      refine lv_aload_n hx hb dX10_doTell_34 rfl (lv_at hl 0 rfl) ?_
      refine lv_iload_n hx hb dX10_doTell_35 rfl (lv_at hl 1 rfl) ?_
      refine kg_io C hH (kc_V C hH w_6_109 lc_yX10_toldOf li_yX10_toldOf oM (kX10_toldOf l E ad M a1) (As := [.int a1]) rfl dX10_doTell_36 rfl hl.1 (Nat.le_of_ble_eq_true rfl) ⟨Nat.le_of_ble_eq_true rfl, Nat.le_of_ble_eq_true rfl⟩ ⟨Nat.le_of_ble_eq_true rfl, Nat.le_of_ble_eq_true rfl⟩) ⟨rfl, rfl⟩ (fun v5 H locs hH => ?_)
      refine kg_ib C hH (kc_V C hH w_6_113 lc_yX10_refuse li_yX10_refuse oM (kX10_refuse l E ad M 2 v5) (As := [.int 2, .int v5]) rfl dX10_doTell_39 rfl hl.1 (Nat.le_of_ble_eq_true rfl) ⟨Nat.le_of_ble_eq_true rfl, Nat.le_of_ble_eq_true rfl⟩ ⟨Nat.le_of_ble_eq_true rfl, Nat.le_of_ble_eq_true rfl⟩) ⟨rfl, rfl⟩ (fun v7 M6 H locs hH => ?_)
      exact ke_i C hH hr (Nat.le_refl _) (Nat.le_refl _) rfl dX10_doTell_42
  · refine lv_aload_n hx hb dX10_doTell_9 rfl (lv_at hl 0 rfl) ?_
    refine lv_iconst (v := 1) hx hb dX10_doTell_10 (by decide) ?_
    refine kg_ib C hH (kc_V C hH w_6_102 lc_yX10_fails li_yX10_fails oM (kX10_fails l E ad M 1) (As := [.int 1]) rfl dX10_doTell_11 rfl hl.1 (Nat.le_of_ble_eq_true rfl) ⟨Nat.le_of_ble_eq_true rfl, Nat.le_of_ble_eq_true rfl⟩ ⟨Nat.le_of_ble_eq_true rfl, Nat.le_of_ble_eq_true rfl⟩) ⟨rfl, rfl⟩ (fun v9 M8 H locs hH => ?_)
    exact ke_i C hH hr (Nat.le_refl _) (Nat.le_refl _) rfl dX10_doTell_14
def fX10_tell (M : KS) (a1 : Int32) (a2 : Int32) (a3 : Int32) : Option (Int32 × KS) := (fX10_keep M).bind fun M1 => bd2 (fX10_doTell M1 a1 a2 a3) fun v3 M2 => bd2 (fX10_ends M2 v3) fun v5 M4 => some (v5, M4)
set_option maxHeartbeats 4000000 in
set_option maxRecDepth 100000 in
theorem kX10_tell (l : Launch) (E : KE) (ad : Nat → Nat) (M : KS) (a1 : Int32) (a2 : Int32) (a3 : Int32) : CT l yX10_tell cX10_tell 4 (some .int) { frames := 9, cells := 0, slots := 0, locals := 213 } SM E ad [.ref (ad 0), .int a1, .int a2, .int a3] M (QI SM E ad) (fX10_tell M a1 a2 a3) := by
  refine CT.ofW (by decide) (Nat.le_of_ble_eq_true rfl) (fun sz p e s m args below meth c C hr hH ls hl => ?_)
  have hx := C.1.1
  have hb := C.1.2.1
  have hl : lv_has ls 4 [(0, .ref (ad 0)), (1, .int a1), (2, .int a2), (3, .int a3)] := hl
  unfold fX10_tell
  refine lv_aload_n hx hb dX10_tell_0 rfl (lv_at hl 0 rfl) ?_
  refine kg_v C hH (kc_V C hH w_6_79 lc_yX10_keep li_yX10_keep oM (kX10_keep l E ad M) (As := []) rfl dX10_tell_1 rfl hl.1 (Nat.le_of_ble_eq_true rfl) ⟨Nat.le_of_ble_eq_true rfl, Nat.le_of_ble_eq_true rfl⟩ ⟨Nat.le_of_ble_eq_true rfl, Nat.le_of_ble_eq_true rfl⟩) ⟨rfl, rfl⟩ (fun M1 H locs hH => ?_)
  refine lv_aload_n hx hb dX10_tell_4 rfl (lv_at hl 0 rfl) ?_
  refine lv_aload_n hx hb dX10_tell_5 rfl (lv_at hl 0 rfl) ?_
  refine lv_iload_n hx hb dX10_tell_6 rfl (lv_at hl 1 rfl) ?_
  refine lv_iload_n hx hb dX10_tell_7 rfl (lv_at hl 2 rfl) ?_
  refine lv_iload_n hx hb dX10_tell_8 rfl (lv_at hl 3 rfl) ?_
  refine kg_ib C hH (kc_V C hH w_6_86 lc_yX10_doTell li_yX10_doTell oM (kX10_doTell l E ad M1 a1 a2 a3) (As := [.int a1, .int a2, .int a3]) rfl dX10_tell_9 rfl hl.1 (Nat.le_of_ble_eq_true rfl) ⟨Nat.le_of_ble_eq_true rfl, Nat.le_of_ble_eq_true rfl⟩ ⟨Nat.le_of_ble_eq_true rfl, Nat.le_of_ble_eq_true rfl⟩) ⟨rfl, rfl⟩ (fun v3 M2 H locs hH => ?_)
  refine kg_ib C hH (kc_V C hH w_6_182 lc_yX10_ends li_yX10_ends oM (kX10_ends l E ad M2 v3) (As := [.int v3]) rfl dX10_tell_12 rfl hl.1 (Nat.le_of_ble_eq_true rfl) ⟨Nat.le_of_ble_eq_true rfl, Nat.le_of_ble_eq_true rfl⟩ ⟨Nat.le_of_ble_eq_true rfl, Nat.le_of_ble_eq_true rfl⟩) ⟨rfl, rfl⟩ (fun v5 M4 H locs hH => ?_)
  exact ke_i C hH hr (Nat.le_refl _) (Nat.le_refl _) rfl dX10_tell_15
def fX10_doUntell_J56_48 (M6 : KS) (v7 : Int32) : Option (Int32 × KS) := bd2 (fX10_refuse M6 3 v7) fun v9 M8 => some (v9, M8)
theorem fX10_doUntell_J56_48_u {M6 : KS} {v7 : Int32} : fX10_doUntell_J56_48 M6 v7 = bd2 (fX10_refuse M6 3 v7) fun v9 M8 => some (v9, M8) := rfl
def fX10_doUntell (M : KS) (a1 : Int32) (a2 : Int32) (a3 : Int32) : Option (Int32 × KS) := (fX10_isFact a1 a2 a3).bind fun v1 => (if v1 = 0 then bd2 (fX10_fails M 1) fun v11 M10 => some (v11, M10) else nm ((fX10_fact a1 a2 a3)) fun v2 => if inb (0 + v2) 257 then (if (M.1 1 (0 + v2).toNatClampNeg) = 0 then (fX10_derives M).bind fun M6 => if inb v2 216 then jn (fX10_doUntell_J56_48 M6) (fun K56_48 => (if (M6.1 6 v2.toNatClampNeg) < 0 then K56_48 0 else K56_48 1)) else none else if inb (0 + v2) 257 then nm (kset M 1 (0 + v2).toNatClampNeg 0) fun M3 => bd2 (fX10_allHolding M3) fun v5 M4 => some (v5, M4) else none) else none)
set_option maxHeartbeats 4000000 in
set_option maxRecDepth 100000 in
theorem kX10_doUntell (l : Launch) (E : KE) (ad : Nat → Nat) (M : KS) (a1 : Int32) (a2 : Int32) (a3 : Int32) : CT l yX10_doUntell cX10_doUntell 5 (some .int) { frames := 8, cells := 0, slots := 0, locals := 190 } SM E ad [.ref (ad 0), .int a1, .int a2, .int a3] M (QI SM E ad) (fX10_doUntell M a1 a2 a3) := by
  refine CT.ofW (by decide) (Nat.le_of_ble_eq_true rfl) (fun sz p e s m args below meth c C hr hH ls hl => ?_)
  have hx := C.1.1
  have hb := C.1.2.1
  have hl : lv_has ls 5 [(0, .ref (ad 0)), (1, .int a1), (2, .int a2), (3, .int a3)] := hl
  unfold fX10_doUntell
  refine lv_iload_n hx hb dX10_doUntell_0 rfl (lv_at hl 1 rfl) ?_
  refine lv_iload_n hx hb dX10_doUntell_1 rfl (lv_at hl 2 rfl) ?_
  refine lv_iload_n hx hb dX10_doUntell_2 rfl (lv_at hl 3 rfl) ?_
  refine kg_io C hH (kc_S C hH w_6_90 w_st_yX10_isFact rfl lc_yX10_isFact (kX10_isFact l E ad M a1 a2 a3) (As := [.int a1, .int a2, .int a3]) rfl dX10_doUntell_3 rfl hl.1 (Nat.le_of_ble_eq_true rfl) ⟨Nat.le_of_ble_eq_true rfl, Nat.le_of_ble_eq_true rfl⟩ ⟨Nat.le_of_ble_eq_true rfl, Nat.le_of_ble_eq_true rfl⟩) ⟨rfl, rfl⟩ (fun v1 H locs hH => ?_)
  refine kb_if_ne (tgt := 15) hx hb dX10_doUntell_6 (by decide) (fun _ => ?_) (fun _ => ?_)
  · refine lv_iload_n hx hb dX10_doUntell_15 rfl (lv_at hl 1 rfl) ?_
    refine lv_iload_n hx hb dX10_doUntell_16 rfl (lv_at hl 2 rfl) ?_
    refine lv_iload_n hx hb dX10_doUntell_17 rfl (lv_at hl 3 rfl) ?_
    refine kg_ip C hH (kc_S C hH w_6_106 w_st_yX10_fact rfl lc_yX10_fact (kX10_fact l E ad M a1 a2 a3) (As := [.int a1, .int a2, .int a3]) rfl dX10_doUntell_18 rfl hl.1 (Nat.le_of_ble_eq_true rfl) ⟨Nat.le_of_ble_eq_true rfl, Nat.le_of_ble_eq_true rfl⟩ ⟨Nat.le_of_ble_eq_true rfl, Nat.le_of_ble_eq_true rfl⟩) ⟨rfl, rfl⟩ (fun H locs hH => ?_)
    refine W_nmi (fun v2 => ?_)
    refine lv_istore (lv' := [(4, .int v2), (0, .ref (ad 0)), (1, .int a1), (2, .int a2), (3, .int a3)]) hx hb dX10_doUntell_21 hl (by decide) rfl (fun ls hl => ?_)
    refine lv_aload_n hx hb dX10_doUntell_23 rfl (lv_at hl 1 rfl) ?_
    refine k_get C hH fd_X10_9 oM (k_ref (M := M) (ad := ad) rM0) dX10_doUntell_24 ?_
    refine lv_iconst (v := 0) hx hb dX10_doUntell_27 (by decide) ?_
    refine lv_iload hx hb dX10_doUntell_28 (lv_at hl 0 rfl) ?_
    refine lv_iadd hx hb dX10_doUntell_30 ?_
    refine k_iald C hH aM0 dX10_doUntell_31 ?_
    refine kb_if_ne (tgt := 60) hx hb dX10_doUntell_32 (by decide) (fun _ => ?_) (fun _ => ?_)
    · refine lv_aload_n hx hb dX10_doUntell_60 rfl (lv_at hl 1 rfl) ?_
      refine k_get C hH fd_X10_9 oM (k_ref (M := M) (ad := ad) rM0) dX10_doUntell_61 ?_
      refine lv_iconst (v := 0) hx hb dX10_doUntell_64 (by decide) ?_
      refine lv_iload hx hb dX10_doUntell_65 (lv_at hl 0 rfl) ?_
      refine lv_iadd hx hb dX10_doUntell_67 ?_
      refine lv_iconst (v := 0) hx hb dX10_doUntell_68 (by decide) ?_
      refine k_iast C hH aM0 dX10_doUntell_69 (fun M3 H locs hH => ?_)
      refine lv_aload_n hx hb dX10_doUntell_70 rfl (lv_at hl 1 rfl) ?_
      refine kg_ib C hH (kc_V C hH w_6_117 lc_yX10_allHolding li_yX10_allHolding oM (kX10_allHolding l E ad M3) (As := []) rfl dX10_doUntell_71 rfl hl.1 (Nat.le_of_ble_eq_true rfl) ⟨Nat.le_of_ble_eq_true rfl, Nat.le_of_ble_eq_true rfl⟩ ⟨Nat.le_of_ble_eq_true rfl, Nat.le_of_ble_eq_true rfl⟩) ⟨rfl, rfl⟩ (fun v5 M4 H locs hH => ?_)
      exact ke_i C hH hr (Nat.le_refl _) (Nat.le_refl _) rfl dX10_doUntell_74
    · refine lv_aload_n hx hb dX10_doUntell_35 rfl (lv_at hl 1 rfl) ?_
      refine kg_v C hH (kc_V C hH w_6_121 lc_yX10_derives li_yX10_derives oM (kX10_derives l E ad M) (As := []) rfl dX10_doUntell_36 rfl hl.1 (Nat.le_of_ble_eq_true rfl) ⟨Nat.le_of_ble_eq_true rfl, Nat.le_of_ble_eq_true rfl⟩ ⟨Nat.le_of_ble_eq_true rfl, Nat.le_of_ble_eq_true rfl⟩) ⟨rfl, rfl⟩ (fun M6 H locs hH => ?_)
      refine lv_aload_n hx hb dX10_doUntell_39 rfl (lv_at hl 1 rfl) ?_
      refine lv_iconst (v := 3) hx hb dX10_doUntell_40 (by decide) ?_
      refine lv_aload_n hx hb dX10_doUntell_41 rfl (lv_at hl 1 rfl) ?_
      refine k_get C hH fd_X10_25 oM (k_ref (M := M6) (ad := ad) rM11) dX10_doUntell_42 ?_
      refine lv_iload hx hb dX10_doUntell_45 (lv_at hl 0 rfl) ?_
      refine k_iald C hH aM11 dX10_doUntell_47 ?_
      refine W_jn (fun (x : Int32) H locs => KH SM E ad sz M6 s.heap H locs) (fun x ls => lv_has ls 5 []) (fun x ls => F0 m 56 ls [.int x, .int 3, .ref (ad 0)]) ?_ (fun K56_48 hK56_48 => ?_)
      · intro v7 H locs ls hH hl
        have hH : KH SM E ad sz M6 s.heap H locs := hH
        have hl : lv_has ls 5 [] := hl
        refine W_q fX10_doUntell_J56_48_u ?_
        refine kg_ib C hH (kc_V C hH w_6_113 lc_yX10_refuse li_yX10_refuse oM (kX10_refuse l E ad M6 3 v7) (As := [.int 3, .int v7]) rfl dX10_doUntell_56 rfl hl.1 (Nat.le_of_ble_eq_true rfl) ⟨Nat.le_of_ble_eq_true rfl, Nat.le_of_ble_eq_true rfl⟩ ⟨Nat.le_of_ble_eq_true rfl, Nat.le_of_ble_eq_true rfl⟩) ⟨rfl, rfl⟩ (fun v9 M8 H locs hH => ?_)
        exact ke_i C hH hr (Nat.le_refl _) (Nat.le_refl _) rfl dX10_doUntell_59
      · refine kb_if_lt (tgt := 55) hx hb dX10_doUntell_48 (by decide) (fun _ => ?_) (fun _ => ?_)
        · refine lv_iconst (v := 0) hx hb dX10_doUntell_55 (by decide) ?_
          exact hK56_48 0 _ _ _ hH (lv_sub hl [] rfl)
        · refine lv_iconst (v := 1) hx hb dX10_doUntell_51 (by decide) ?_
          refine lv_goto (tgt := 56) hx hb dX10_doUntell_52 (by decide) ?_
          exact hK56_48 1 _ _ _ hH (lv_sub hl [] rfl)
  · refine lv_aload_n hx hb dX10_doUntell_9 rfl (lv_at hl 0 rfl) ?_
    refine lv_iconst (v := 1) hx hb dX10_doUntell_10 (by decide) ?_
    refine kg_ib C hH (kc_V C hH w_6_102 lc_yX10_fails li_yX10_fails oM (kX10_fails l E ad M 1) (As := [.int 1]) rfl dX10_doUntell_11 rfl hl.1 (Nat.le_of_ble_eq_true rfl) ⟨Nat.le_of_ble_eq_true rfl, Nat.le_of_ble_eq_true rfl⟩ ⟨Nat.le_of_ble_eq_true rfl, Nat.le_of_ble_eq_true rfl⟩) ⟨rfl, rfl⟩ (fun v11 M10 H locs hH => ?_)
    exact ke_i C hH hr (Nat.le_refl _) (Nat.le_refl _) rfl dX10_doUntell_14
def fX10_untell (M : KS) (a1 : Int32) (a2 : Int32) (a3 : Int32) : Option (Int32 × KS) := (fX10_keep M).bind fun M1 => bd2 (fX10_doUntell M1 a1 a2 a3) fun v3 M2 => bd2 (fX10_ends M2 v3) fun v5 M4 => some (v5, M4)
set_option maxHeartbeats 4000000 in
set_option maxRecDepth 100000 in
theorem kX10_untell (l : Launch) (E : KE) (ad : Nat → Nat) (M : KS) (a1 : Int32) (a2 : Int32) (a3 : Int32) : CT l yX10_untell cX10_untell 4 (some .int) { frames := 9, cells := 0, slots := 0, locals := 214 } SM E ad [.ref (ad 0), .int a1, .int a2, .int a3] M (QI SM E ad) (fX10_untell M a1 a2 a3) := by
  refine CT.ofW (by decide) (Nat.le_of_ble_eq_true rfl) (fun sz p e s m args below meth c C hr hH ls hl => ?_)
  have hx := C.1.1
  have hb := C.1.2.1
  have hl : lv_has ls 4 [(0, .ref (ad 0)), (1, .int a1), (2, .int a2), (3, .int a3)] := hl
  unfold fX10_untell
  refine lv_aload_n hx hb dX10_untell_0 rfl (lv_at hl 0 rfl) ?_
  refine kg_v C hH (kc_V C hH w_6_79 lc_yX10_keep li_yX10_keep oM (kX10_keep l E ad M) (As := []) rfl dX10_untell_1 rfl hl.1 (Nat.le_of_ble_eq_true rfl) ⟨Nat.le_of_ble_eq_true rfl, Nat.le_of_ble_eq_true rfl⟩ ⟨Nat.le_of_ble_eq_true rfl, Nat.le_of_ble_eq_true rfl⟩) ⟨rfl, rfl⟩ (fun M1 H locs hH => ?_)
  refine lv_aload_n hx hb dX10_untell_4 rfl (lv_at hl 0 rfl) ?_
  refine lv_aload_n hx hb dX10_untell_5 rfl (lv_at hl 0 rfl) ?_
  refine lv_iload_n hx hb dX10_untell_6 rfl (lv_at hl 1 rfl) ?_
  refine lv_iload_n hx hb dX10_untell_7 rfl (lv_at hl 2 rfl) ?_
  refine lv_iload_n hx hb dX10_untell_8 rfl (lv_at hl 3 rfl) ?_
  refine kg_ib C hH (kc_V C hH w_6_190 lc_yX10_doUntell li_yX10_doUntell oM (kX10_doUntell l E ad M1 a1 a2 a3) (As := [.int a1, .int a2, .int a3]) rfl dX10_untell_9 rfl hl.1 (Nat.le_of_ble_eq_true rfl) ⟨Nat.le_of_ble_eq_true rfl, Nat.le_of_ble_eq_true rfl⟩ ⟨Nat.le_of_ble_eq_true rfl, Nat.le_of_ble_eq_true rfl⟩) ⟨rfl, rfl⟩ (fun v3 M2 H locs hH => ?_)
  refine kg_ib C hH (kc_V C hH w_6_182 lc_yX10_ends li_yX10_ends oM (kX10_ends l E ad M2 v3) (As := [.int v3]) rfl dX10_untell_12 rfl hl.1 (Nat.le_of_ble_eq_true rfl) ⟨Nat.le_of_ble_eq_true rfl, Nat.le_of_ble_eq_true rfl⟩ ⟨Nat.le_of_ble_eq_true rfl, Nat.le_of_ble_eq_true rfl⟩) ⟨rfl, rfl⟩ (fun v5 M4 H locs hH => ?_)
  exact ke_i C hH hr (Nat.le_refl _) (Nat.le_refl _) rfl dX10_untell_15
def fX10_holds_J15_7 (M : KS) (a1 : Int32) (a2 : Int32) (a3 : Int32) (v2 : Int32) : Option (Int32 × KS) := nm (kset M 0 6 v2) fun M3 => (if (M3.1 0 6) ≤ 0 then (fX10_derives M3).bind fun M4 => if inb (fX10_fact a1 a2 a3) 216 then (if (M4.1 6 (fX10_fact a1 a2 a3).toNatClampNeg) < 0 then some (0, M4) else some (1, M4)) else none else some (0, M3))
theorem fX10_holds_J15_7_u {M : KS} {a1 : Int32} {a2 : Int32} {a3 : Int32} {v2 : Int32} : fX10_holds_J15_7 M a1 a2 a3 v2 = nm (kset M 0 6 v2) fun M3 => (if (M3.1 0 6) ≤ 0 then (fX10_derives M3).bind fun M4 => if inb (fX10_fact a1 a2 a3) 216 then (if (M4.1 6 (fX10_fact a1 a2 a3).toNatClampNeg) < 0 then some (0, M4) else some (1, M4)) else none else some (0, M3)) := rfl
def fX10_holds (M : KS) (a1 : Int32) (a2 : Int32) (a3 : Int32) (a4 : Int32) : Option (Int32 × KS) := (fX10_isFact a1 a2 a3).bind fun v1 => jn (fX10_holds_J15_7 M a1 a2 a3) (fun K15_7 => (if v1 = 0 then K15_7 1 else K15_7 0))
set_option maxHeartbeats 4000000 in
set_option maxRecDepth 100000 in
theorem kX10_holds (l : Launch) (E : KE) (ad : Nat → Nat) (M : KS) (a1 : Int32) (a2 : Int32) (a3 : Int32) (a4 : Int32) : CT l yX10_holds cX10_holds 5 (some .boolean) { frames := 7, cells := 0, slots := 0, locals := 170 } SM E ad [.ref (ad 0), .int a1, .int a2, .int a3, .int a4] M (QI SM E ad) (fX10_holds M a1 a2 a3 a4) := by
  refine CT.ofW (by decide) (Nat.le_of_ble_eq_true rfl) (fun sz p e s m args below meth c C hr hH ls hl => ?_)
  have hx := C.1.1
  have hb := C.1.2.1
  have hl : lv_has ls 5 [(0, .ref (ad 0)), (1, .int a1), (2, .int a2), (3, .int a3), (4, .int a4)] := hl
  unfold fX10_holds
  refine lv_aload_n hx hb dX10_holds_0 rfl (lv_at hl 0 rfl) ?_
  refine lv_iload_n hx hb dX10_holds_1 rfl (lv_at hl 1 rfl) ?_
  refine lv_iload_n hx hb dX10_holds_2 rfl (lv_at hl 2 rfl) ?_
  refine lv_iload_n hx hb dX10_holds_3 rfl (lv_at hl 3 rfl) ?_
  refine kg_io C hH (kc_S C hH w_6_90 w_st_yX10_isFact rfl lc_yX10_isFact (kX10_isFact l E ad M a1 a2 a3) (As := [.int a1, .int a2, .int a3]) rfl dX10_holds_4 rfl hl.1 (Nat.le_of_ble_eq_true rfl) ⟨Nat.le_of_ble_eq_true rfl, Nat.le_of_ble_eq_true rfl⟩ ⟨Nat.le_of_ble_eq_true rfl, Nat.le_of_ble_eq_true rfl⟩) ⟨rfl, rfl⟩ (fun v1 H locs hH => ?_)
  refine W_jn (fun (x : Int32) H locs => KH SM E ad sz M s.heap H locs) (fun x ls => lv_has ls 5 [(0, .ref (ad 0)), (1, .int a1), (2, .int a2), (3, .int a3)]) (fun x ls => F0 m 15 ls [.int x, .ref (ad 0)]) ?_ (fun K15_7 hK15_7 => ?_)
  · intro v2 H locs ls hH hl
    have hH : KH SM E ad sz M s.heap H locs := hH
    have hl : lv_has ls 5 [(0, .ref (ad 0)), (1, .int a1), (2, .int a2), (3, .int a3)] := hl
    refine W_q fX10_holds_J15_7_u ?_
    refine k_put1 C hH fd_X10_76 fw_X10_6 oM nM6 rfl rfl dX10_holds_15 (fun M3 H locs hH => ?_)
    refine lv_aload_n hx hb dX10_holds_18 rfl (lv_at hl 0 rfl) ?_
    refine k_get C hH fd_X10_76 oM (k_int (M := M3) (ad := ad) nM6) dX10_holds_19 ?_
    refine kb_if_le (tgt := 27) hx hb dX10_holds_22 (by decide) (fun _ => ?_) (fun _ => ?_)
    · refine lv_aload_n hx hb dX10_holds_27 rfl (lv_at hl 0 rfl) ?_
      refine kg_v C hH (kc_V C hH w_6_121 lc_yX10_derives li_yX10_derives oM (kX10_derives l E ad M3) (As := []) rfl dX10_holds_28 rfl hl.1 (Nat.le_of_ble_eq_true rfl) ⟨Nat.le_of_ble_eq_true rfl, Nat.le_of_ble_eq_true rfl⟩ ⟨Nat.le_of_ble_eq_true rfl, Nat.le_of_ble_eq_true rfl⟩) ⟨rfl, rfl⟩ (fun M4 H locs hH => ?_)
      refine lv_aload_n hx hb dX10_holds_31 rfl (lv_at hl 0 rfl) ?_
      refine k_get C hH fd_X10_25 oM (k_ref (M := M4) (ad := ad) rM11) dX10_holds_32 ?_
      refine lv_iload_n hx hb dX10_holds_35 rfl (lv_at hl 1 rfl) ?_
      refine lv_iload_n hx hb dX10_holds_36 rfl (lv_at hl 2 rfl) ?_
      refine lv_iload_n hx hb dX10_holds_37 rfl (lv_at hl 3 rfl) ?_
      refine kg_ip C hH (kc_S C hH w_6_106 w_st_yX10_fact rfl lc_yX10_fact (kX10_fact l E ad M4 a1 a2 a3) (As := [.int a1, .int a2, .int a3]) rfl dX10_holds_38 rfl hl.1 (Nat.le_of_ble_eq_true rfl) ⟨Nat.le_of_ble_eq_true rfl, Nat.le_of_ble_eq_true rfl⟩ ⟨Nat.le_of_ble_eq_true rfl, Nat.le_of_ble_eq_true rfl⟩) ⟨rfl, rfl⟩ (fun H locs hH => ?_)
      refine k_iald C hH aM11 dX10_holds_41 ?_
      refine kb_if_lt (tgt := 49) hx hb dX10_holds_42 (by decide) (fun _ => ?_) (fun _ => ?_)
      · refine lv_iconst (v := 0) hx hb dX10_holds_49 (by decide) ?_
        exact ke_z C hH hr (Nat.le_refl _) (Nat.le_refl _) rfl (Or.inl rfl) dX10_holds_50
      · refine lv_iconst (v := 1) hx hb dX10_holds_45 (by decide) ?_
        refine lv_goto (tgt := 50) hx hb dX10_holds_46 (by decide) ?_
        exact ke_z C hH hr (Nat.le_refl _) (Nat.le_refl _) rfl (Or.inr rfl) dX10_holds_50
    · refine lv_iconst (v := 0) hx hb dX10_holds_25 (by decide) ?_
      exact ke_z C hH hr (Nat.le_refl _) (Nat.le_refl _) rfl (Or.inl rfl) dX10_holds_26
  · refine kb_if_eq (tgt := 14) hx hb dX10_holds_7 (by decide) (fun _ => ?_) (fun _ => ?_)
    · refine lv_iconst (v := 1) hx hb dX10_holds_14 (by decide) ?_
      exact hK15_7 1 _ _ _ hH (lv_sub hl [0, 1, 2, 3] rfl)
    · refine lv_iconst (v := 0) hx hb dX10_holds_10 (by decide) ?_
      refine lv_goto (tgt := 15) hx hb dX10_holds_11 (by decide) ?_
      exact hK15_7 0 _ _ _ hH (lv_sub hl [0, 1, 2, 3] rfl)
def fX10_isTold_J15_7 (M : KS) (a1 : Int32) (a2 : Int32) (a3 : Int32) (v2 : Int32) : Option (Int32 × KS) := nm (kset M 0 6 v2) fun M3 => (if (M3.1 0 6) = 0 then if inb (0 + (fX10_fact a1 a2 a3)) 257 then (if (M3.1 1 (0 + (fX10_fact a1 a2 a3)).toNatClampNeg) = 1 then some (1, M3) else some (0, M3)) else none else some (0, M3))
theorem fX10_isTold_J15_7_u {M : KS} {a1 : Int32} {a2 : Int32} {a3 : Int32} {v2 : Int32} : fX10_isTold_J15_7 M a1 a2 a3 v2 = nm (kset M 0 6 v2) fun M3 => (if (M3.1 0 6) = 0 then if inb (0 + (fX10_fact a1 a2 a3)) 257 then (if (M3.1 1 (0 + (fX10_fact a1 a2 a3)).toNatClampNeg) = 1 then some (1, M3) else some (0, M3)) else none else some (0, M3)) := rfl
def fX10_isTold (M : KS) (a1 : Int32) (a2 : Int32) (a3 : Int32) : Option (Int32 × KS) := (fX10_isFact a1 a2 a3).bind fun v1 => jn (fX10_isTold_J15_7 M a1 a2 a3) (fun K15_7 => (if v1 = 0 then K15_7 1 else K15_7 0))
set_option maxHeartbeats 4000000 in
set_option maxRecDepth 100000 in
theorem kX10_isTold (l : Launch) (E : KE) (ad : Nat → Nat) (M : KS) (a1 : Int32) (a2 : Int32) (a3 : Int32) : CT l yX10_isTold cX10_isTold 4 (some .boolean) { frames := 3, cells := 0, slots := 0, locals := 64 } SM E ad [.ref (ad 0), .int a1, .int a2, .int a3] M (QI SM E ad) (fX10_isTold M a1 a2 a3) := by
  refine CT.ofW (by decide) (Nat.le_of_ble_eq_true rfl) (fun sz p e s m args below meth c C hr hH ls hl => ?_)
  have hx := C.1.1
  have hb := C.1.2.1
  have hl : lv_has ls 4 [(0, .ref (ad 0)), (1, .int a1), (2, .int a2), (3, .int a3)] := hl
  unfold fX10_isTold
  refine lv_aload_n hx hb dX10_isTold_0 rfl (lv_at hl 0 rfl) ?_
  refine lv_iload_n hx hb dX10_isTold_1 rfl (lv_at hl 1 rfl) ?_
  refine lv_iload_n hx hb dX10_isTold_2 rfl (lv_at hl 2 rfl) ?_
  refine lv_iload_n hx hb dX10_isTold_3 rfl (lv_at hl 3 rfl) ?_
  refine kg_io C hH (kc_S C hH w_6_90 w_st_yX10_isFact rfl lc_yX10_isFact (kX10_isFact l E ad M a1 a2 a3) (As := [.int a1, .int a2, .int a3]) rfl dX10_isTold_4 rfl hl.1 (Nat.le_of_ble_eq_true rfl) ⟨Nat.le_of_ble_eq_true rfl, Nat.le_of_ble_eq_true rfl⟩ ⟨Nat.le_of_ble_eq_true rfl, Nat.le_of_ble_eq_true rfl⟩) ⟨rfl, rfl⟩ (fun v1 H locs hH => ?_)
  refine W_jn (fun (x : Int32) H locs => KH SM E ad sz M s.heap H locs) (fun x ls => lv_has ls 4 [(0, .ref (ad 0)), (1, .int a1), (2, .int a2), (3, .int a3)]) (fun x ls => F0 m 15 ls [.int x, .ref (ad 0)]) ?_ (fun K15_7 hK15_7 => ?_)
  · intro v2 H locs ls hH hl
    have hH : KH SM E ad sz M s.heap H locs := hH
    have hl : lv_has ls 4 [(0, .ref (ad 0)), (1, .int a1), (2, .int a2), (3, .int a3)] := hl
    refine W_q fX10_isTold_J15_7_u ?_
    refine k_put1 C hH fd_X10_76 fw_X10_6 oM nM6 rfl rfl dX10_isTold_15 (fun M3 H locs hH => ?_)
    refine lv_aload_n hx hb dX10_isTold_18 rfl (lv_at hl 0 rfl) ?_
    refine k_get C hH fd_X10_76 oM (k_int (M := M3) (ad := ad) nM6) dX10_isTold_19 ?_
    refine kb_if_ne (tgt := 46) hx hb dX10_isTold_22 (by decide) (fun _ => ?_) (fun _ => ?_)
    · refine lv_iconst (v := 0) hx hb dX10_isTold_46 (by decide) ?_
      exact ke_z C hH hr (Nat.le_refl _) (Nat.le_refl _) rfl (Or.inl rfl) dX10_isTold_47
    · refine lv_aload_n hx hb dX10_isTold_25 rfl (lv_at hl 0 rfl) ?_
      refine k_get C hH fd_X10_9 oM (k_ref (M := M3) (ad := ad) rM0) dX10_isTold_26 ?_
      refine lv_iconst (v := 0) hx hb dX10_isTold_29 (by decide) ?_
      refine lv_iload_n hx hb dX10_isTold_30 rfl (lv_at hl 1 rfl) ?_
      refine lv_iload_n hx hb dX10_isTold_31 rfl (lv_at hl 2 rfl) ?_
      refine lv_iload_n hx hb dX10_isTold_32 rfl (lv_at hl 3 rfl) ?_
      refine kg_ip C hH (kc_S C hH w_6_106 w_st_yX10_fact rfl lc_yX10_fact (kX10_fact l E ad M3 a1 a2 a3) (As := [.int a1, .int a2, .int a3]) rfl dX10_isTold_33 rfl hl.1 (Nat.le_of_ble_eq_true rfl) ⟨Nat.le_of_ble_eq_true rfl, Nat.le_of_ble_eq_true rfl⟩ ⟨Nat.le_of_ble_eq_true rfl, Nat.le_of_ble_eq_true rfl⟩) ⟨rfl, rfl⟩ (fun H locs hH => ?_)
      refine lv_iadd hx hb dX10_isTold_36 ?_
      refine k_iald C hH aM0 dX10_isTold_37 ?_
      refine lv_iconst (v := 1) hx hb dX10_isTold_38 (by decide) ?_
      refine kb_icmp_ne (tgt := 46) hx hb dX10_isTold_39 (by decide) (fun _ => ?_) (fun _ => ?_)
      · refine lv_iconst (v := 0) hx hb dX10_isTold_46 (by decide) ?_
        exact ke_z C hH hr (Nat.le_refl _) (Nat.le_refl _) rfl (Or.inl rfl) dX10_isTold_47
      · refine lv_iconst (v := 1) hx hb dX10_isTold_42 (by decide) ?_
        refine lv_goto (tgt := 47) hx hb dX10_isTold_43 (by decide) ?_
        exact ke_z C hH hr (Nat.le_refl _) (Nat.le_refl _) rfl (Or.inr rfl) dX10_isTold_47
  · refine kb_if_eq (tgt := 14) hx hb dX10_isTold_7 (by decide) (fun _ => ?_) (fun _ => ?_)
    · refine lv_iconst (v := 1) hx hb dX10_isTold_14 (by decide) ?_
      exact hK15_7 1 _ _ _ hH (lv_sub hl [0, 1, 2, 3] rfl)
    · refine lv_iconst (v := 0) hx hb dX10_isTold_10 (by decide) ?_
      refine lv_goto (tgt := 15) hx hb dX10_isTold_11 (by decide) ?_
      exact hK15_7 0 _ _ _ hH (lv_sub hl [0, 1, 2, 3] rfl)
def fX10_needs_X39 (x : Int32 × KS) : Option (Int32 × KS) := match x with | (v7, M8) => some (v7, M8)
theorem fX10_needs_X39_u {v7 : Int32} {M8 : KS} : fX10_needs_X39 (v7, M8) = some (v7, M8) := rfl
def fX10_needs_L39 (a1 : Int32) (rec39 : (Int32 × Int32 × KS) → Option (Int32 × KS)) (k39 : (Int32 × KS) → Option (Int32 × KS)) (x : Int32 × Int32 × KS) : Option (Int32 × KS) := match x with | (v4, v5, M6) => (if 3 ≤ v5 then k39 (v4, M6) else if inb a1 216 then (if (M6.1 6 a1.toNatClampNeg) ≤ 0 then k39 (v4, M6) else if inb a1 216 then (fX10_conditionOf M6 (M6.1 7 a1.toNatClampNeg) v5).bind fun v9 => (if v9 ≤ 0 then nm (v5 + 1) fun v10 => rec39 (v4, v10, M6) else (fX10_factOfCondition M6 v9).bind fun v11 => if inb v4 3 then nm (kset M6 12 v4.toNatClampNeg v11) fun M12 => nm (v4 + 1) fun v13 => nm (v5 + 1) fun v14 => rec39 (v13, v14, M12) else none) else none) else none)
theorem fX10_needs_L39_u {a1 : Int32} {rec39 : (Int32 × Int32 × KS) → Option (Int32 × KS)} {k39 : (Int32 × KS) → Option (Int32 × KS)} {v4 : Int32} {v5 : Int32} {M6 : KS} : fX10_needs_L39 a1 rec39 k39 (v4, v5, M6) = (if 3 ≤ v5 then k39 (v4, M6) else if inb a1 216 then (if (M6.1 6 a1.toNatClampNeg) ≤ 0 then k39 (v4, M6) else if inb a1 216 then (fX10_conditionOf M6 (M6.1 7 a1.toNatClampNeg) v5).bind fun v9 => (if v9 ≤ 0 then nm (v5 + 1) fun v10 => rec39 (v4, v10, M6) else (fX10_factOfCondition M6 v9).bind fun v11 => if inb v4 3 then nm (kset M6 12 v4.toNatClampNeg v11) fun M12 => nm (v4 + 1) fun v13 => nm (v5 + 1) fun v14 => rec39 (v13, v14, M12) else none) else none) else none) := rfl
def fX10_needs (M : KS) (a1 : Int32) : Option (Int32 × KS) := if inb 0 3 then nm (kset M 11 (0 : Int32).toNatClampNeg (jrem (a1 / 6) 6)) fun M1 => if inb 1 3 then nm (kset M1 11 (1 : Int32).toNatClampNeg (jrem a1 6)) fun M2 => if inb a1 216 then if inb 2 3 then nm (kset M2 11 (2 : Int32).toNatClampNeg (M2.1 8 a1.toNatClampNeg)) fun M3 => lp (fX10_needs_L39 a1) (fX10_needs_X39) 1000000 (0, 0, M3) else none else none else none else none
set_option maxHeartbeats 4000000 in
set_option maxRecDepth 100000 in
theorem kX10_needs (l : Launch) (E : KE) (ad : Nat → Nat) (M : KS) (a1 : Int32) : CT l yX10_needs cX10_needs 5 (some .int) { frames := 3, cells := 0, slots := 0, locals := 67 } SM E ad [.ref (ad 0), .int a1] M (QI SM E ad) (fX10_needs M a1) := by
  refine CT.ofW (by decide) (Nat.le_of_ble_eq_true rfl) (fun sz p e s m args below meth c C hr hH ls hl => ?_)
  have hx := C.1.1
  have hb := C.1.2.1
  have hl : lv_has ls 5 [(0, .ref (ad 0)), (1, .int a1)] := hl
  unfold fX10_needs
  refine lv_iconst (v := 0) hx hb dX10_needs_0 (by decide) ?_
  refine lv_istore_n (lv' := [(2, .int 0), (0, .ref (ad 0)), (1, .int a1)]) hx hb dX10_needs_1 rfl hl (by decide) rfl (fun ls hl => ?_)
  refine lv_aload_n hx hb dX10_needs_2 rfl (lv_at hl 1 rfl) ?_
  refine k_get C hH fd_X10_40 oM (k_ref (M := M) (ad := ad) rM16) dX10_needs_3 ?_
  refine lv_iconst (v := 0) hx hb dX10_needs_6 (by decide) ?_
  refine lv_iload_n hx hb dX10_needs_7 rfl (lv_at hl 2 rfl) ?_
  refine lv_bipush (v := 6) hx hb dX10_needs_8 (by decide) ?_
  refine lv_idiv hx hb dX10_needs_10 (by decide) ?_
  refine lv_bipush (v := 6) hx hb dX10_needs_11 (by decide) ?_
  refine k_irem hx hb dX10_needs_13 (by decide) ?_
  refine k_iast C hH aM16 dX10_needs_14 (fun M1 H locs hH => ?_)
  refine lv_aload_n hx hb dX10_needs_15 rfl (lv_at hl 1 rfl) ?_
  refine k_get C hH fd_X10_40 oM (k_ref (M := M1) (ad := ad) rM16) dX10_needs_16 ?_
  refine lv_iconst (v := 1) hx hb dX10_needs_19 (by decide) ?_
  refine lv_iload_n hx hb dX10_needs_20 rfl (lv_at hl 2 rfl) ?_
  refine lv_bipush (v := 6) hx hb dX10_needs_21 (by decide) ?_
  refine k_irem hx hb dX10_needs_23 (by decide) ?_
  refine k_iast C hH aM16 dX10_needs_24 (fun M2 H locs hH => ?_)
  refine lv_aload_n hx hb dX10_needs_25 rfl (lv_at hl 1 rfl) ?_
  refine k_get C hH fd_X10_40 oM (k_ref (M := M2) (ad := ad) rM16) dX10_needs_26 ?_
  refine lv_iconst (v := 2) hx hb dX10_needs_29 (by decide) ?_
  refine lv_aload_n hx hb dX10_needs_30 rfl (lv_at hl 1 rfl) ?_
  refine k_get C hH fd_X10_31 oM (k_ref (M := M2) (ad := ad) rM13) dX10_needs_31 ?_
  refine lv_iload_n hx hb dX10_needs_34 rfl (lv_at hl 2 rfl) ?_
  refine k_iald C hH aM13 dX10_needs_35 ?_
  refine k_iast C hH aM16 dX10_needs_36 (fun M3 H locs hH => ?_)
  refine lv_iconst (v := 0) hx hb dX10_needs_37 (by decide) ?_
  refine lv_istore_n (lv' := [(3, .int 0), (2, .int 0), (0, .ref (ad 0)), (1, .int a1)]) hx hb dX10_needs_38 rfl hl (by decide) rfl (fun ls hl => ?_)
  refine W_lp (fun (x : Int32 × Int32 × KS) H locs => KH SM E ad sz x.2.2 s.heap H locs) (fun x ls => lv_has ls 5 [(0, .ref (ad 0)), (1, .int a1), (2, .int x.1), (3, .int x.2.1)]) (fun _ ls => F0 m 39 ls []) (fun (x : Int32 × KS) H locs => KH SM E ad sz x.2 s.heap H locs) (fun x ls => lv_has ls 5 [(2, .int x.1)]) (fun _ ls => F0 m 92 ls []) ?_ ?_ hH (lv_sub hl [2, 3, 1, 0] rfl)
  · intro ⟨v7, M8⟩ H locs ls hH hl
    have hH : KH SM E ad sz M8 s.heap H locs := hH
    have hl : lv_has ls 5 [(2, .int v7)] := hl
    refine W_q fX10_needs_X39_u ?_
    refine lv_iload_n hx hb dX10_needs_92 rfl (lv_at hl 0 rfl) ?_
    exact ke_i C hH hr (Nat.le_refl _) (Nat.le_refl _) rfl dX10_needs_93
  · intro rec39 k39 hrec39 hk39 ⟨v4, v5, M6⟩ H locs ls hH hl
    have hH : KH SM E ad sz M6 s.heap H locs := hH
    have hl : lv_has ls 5 [(0, .ref (ad 0)), (1, .int a1), (2, .int v4), (3, .int v5)] := hl
    refine W_q fX10_needs_L39_u ?_
    refine lv_iload_n hx hb dX10_needs_39 rfl (lv_at hl 3 rfl) ?_
    refine lv_iconst (v := 3) hx hb dX10_needs_40 (by decide) ?_
    refine kb_icmp_ge (tgt := 92) hx hb dX10_needs_41 (by decide) (fun _ => ?_) (fun _ => ?_)
    · exact hk39 (v4, M6) _ _ _ hH (lv_sub hl [2] rfl)
    · refine lv_aload_n hx hb dX10_needs_44 rfl (lv_at hl 0 rfl) ?_
      refine k_get C hH fd_X10_25 oM (k_ref (M := M6) (ad := ad) rM11) dX10_needs_45 ?_
      refine lv_iload_n hx hb dX10_needs_48 rfl (lv_at hl 1 rfl) ?_
      refine k_iald C hH aM11 dX10_needs_49 ?_
      refine kb_if_le (tgt := 92) hx hb dX10_needs_50 (by decide) (fun _ => ?_) (fun _ => ?_)
      · exact hk39 (v4, M6) _ _ _ hH (lv_sub hl [2] rfl)
      · refine lv_aload_n hx hb dX10_needs_53 rfl (lv_at hl 0 rfl) ?_
        refine lv_aload_n hx hb dX10_needs_54 rfl (lv_at hl 0 rfl) ?_
        refine k_get C hH fd_X10_28 oM (k_ref (M := M6) (ad := ad) rM12) dX10_needs_55 ?_
        refine lv_iload_n hx hb dX10_needs_58 rfl (lv_at hl 1 rfl) ?_
        refine k_iald C hH aM12 dX10_needs_59 ?_
        refine lv_iload_n hx hb dX10_needs_60 rfl (lv_at hl 3 rfl) ?_
        refine kg_io C hH (kc_V C hH w_6_133 lc_yX10_conditionOf li_yX10_conditionOf oM (kX10_conditionOf l E ad M6 (M6.1 7 a1.toNatClampNeg) v5) (As := [.int (M6.1 7 a1.toNatClampNeg), .int v5]) rfl dX10_needs_61 rfl hl.1 (Nat.le_of_ble_eq_true rfl) ⟨Nat.le_of_ble_eq_true rfl, Nat.le_of_ble_eq_true rfl⟩ ⟨Nat.le_of_ble_eq_true rfl, Nat.le_of_ble_eq_true rfl⟩) ⟨rfl, rfl⟩ (fun v9 H locs hH => ?_)
        refine lv_istore (lv' := [(4, .int v9), (0, .ref (ad 0)), (1, .int a1), (2, .int v4), (3, .int v5)]) hx hb dX10_needs_64 hl (by decide) rfl (fun ls hl => ?_)
        refine lv_iload hx hb dX10_needs_66 (lv_at hl 0 rfl) ?_
        refine kb_if_le (tgt := 86) hx hb dX10_needs_68 (by decide) (fun _ => ?_) (fun _ => ?_)
        · refine W_nm (fun v10 ev10 => ?_)
          refine lv_iinc (v := v10) (lv' := [(3, .int v10), (4, .int v9), (0, .ref (ad 0)), (1, .int a1), (2, .int v4)]) hx hb dX10_needs_86 hl (k := 4) rfl (by rw [ev10]; rfl) (by decide) rfl (fun ls hl => ?_)
          refine lv_goto (tgt := 39) hx hb dX10_needs_89 (by decide) ?_
          exact hrec39 (v4, v10, M6) _ _ _ hH (lv_sub hl [2, 3, 4, 0] rfl)
        · refine lv_aload_n hx hb dX10_needs_71 rfl (lv_at hl 1 rfl) ?_
          refine k_get C hH fd_X10_43 oM (k_ref (M := M6) (ad := ad) rM17) dX10_needs_72 ?_
          refine lv_iload_n hx hb dX10_needs_75 rfl (lv_at hl 3 rfl) ?_
          refine lv_aload_n hx hb dX10_needs_76 rfl (lv_at hl 1 rfl) ?_
          refine lv_iload hx hb dX10_needs_77 (lv_at hl 0 rfl) ?_
          refine kg_io C hH (kc_V C hH w_6_174 lc_yX10_factOfCondition li_yX10_factOfCondition oM (kX10_factOfCondition l E ad M6 v9) (As := [.int v9]) rfl dX10_needs_79 rfl hl.1 (Nat.le_of_ble_eq_true rfl) ⟨Nat.le_of_ble_eq_true rfl, Nat.le_of_ble_eq_true rfl⟩ ⟨Nat.le_of_ble_eq_true rfl, Nat.le_of_ble_eq_true rfl⟩) ⟨rfl, rfl⟩ (fun v11 H locs hH => ?_)
          refine k_iast C hH aM17 dX10_needs_82 (fun M12 H locs hH => ?_)
          refine W_nm (fun v13 ev13 => ?_)
          refine lv_iinc (v := v13) (lv' := [(2, .int v13), (4, .int v9), (0, .ref (ad 0)), (1, .int a1), (3, .int v5)]) hx hb dX10_needs_83 hl (k := 3) rfl (by rw [ev13]; rfl) (by decide) rfl (fun ls hl => ?_)
          refine W_nm (fun v14 ev14 => ?_)
          refine lv_iinc (v := v14) (lv' := [(3, .int v14), (2, .int v13), (4, .int v9), (0, .ref (ad 0)), (1, .int a1)]) hx hb dX10_needs_86 hl (k := 4) rfl (by rw [ev14]; rfl) (by decide) rfl (fun ls hl => ?_)
          refine lv_goto (tgt := 39) hx hb dX10_needs_89 (by decide) ?_
          exact hrec39 (v13, v14, M12) _ _ _ hH (lv_sub hl [3, 4, 1, 0] rfl)
def fX10_deepens_X24 (M6 : KS) : Option (KS) := some M6
theorem fX10_deepens_X24_u {M6 : KS} : fX10_deepens_X24 M6 = some M6 := rfl
def fX10_deepens_X32 (rec24 : (Int32 × KS) → Option (KS)) (x : Int32 × KS) : Option (KS) := match x with | (v10, M11) => rec24 (v10, M11)
theorem fX10_deepens_X32_u {rec24 : (Int32 × KS) → Option (KS)} {v10 : Int32} {M11 : KS} : fX10_deepens_X32 rec24 (v10, M11) = rec24 (v10, M11) := rfl
def fX10_deepens_X48 (v8 : Int32) (rec32 : (Int32 × Int32 × KS) → Option (KS)) (x : Int32 × KS) : Option (KS) := match x with | (v17, M18) => nm (v8 + 1) fun v19 => rec32 (v17, v19, M18)
theorem fX10_deepens_X48_u {v8 : Int32} {rec32 : (Int32 × Int32 × KS) → Option (KS)} {v17 : Int32} {M18 : KS} : fX10_deepens_X48 v8 rec32 (v17, M18) = nm (v8 + 1) fun v19 => rec32 (v17, v19, M18) := rfl
def fX10_deepens_L48 (v8 : Int32) (v13 : Int32) (rec48 : (Int32 × Int32 × KS) → Option (KS)) (k48 : (Int32 × KS) → Option (KS)) (x : Int32 × Int32 × KS) : Option (KS) := match x with | (v14, v15, M16) => (if v13 ≤ v15 then k48 (v14, M16) else if inb v15 3 then if inb (M16.1 12 v15.toNatClampNeg) 216 then if inb v8 216 then (if ((M16.1 13 (M16.1 12 v15.toNatClampNeg).toNatClampNeg) + 1) ≤ (M16.1 13 v8.toNatClampNeg) then nm (v15 + 1) fun v20 => rec48 (v14, v20, M16) else if inb v15 3 then if inb (M16.1 12 v15.toNatClampNeg) 216 then if inb v8 216 then nm (kset M16 13 v8.toNatClampNeg ((M16.1 13 (M16.1 12 v15.toNatClampNeg).toNatClampNeg) + 1)) fun M21 => nm (v15 + 1) fun v22 => rec48 (1, v22, M21) else none else none else none) else none else none else none)
theorem fX10_deepens_L48_u {v8 : Int32} {v13 : Int32} {rec48 : (Int32 × Int32 × KS) → Option (KS)} {k48 : (Int32 × KS) → Option (KS)} {v14 : Int32} {v15 : Int32} {M16 : KS} : fX10_deepens_L48 v8 v13 rec48 k48 (v14, v15, M16) = (if v13 ≤ v15 then k48 (v14, M16) else if inb v15 3 then if inb (M16.1 12 v15.toNatClampNeg) 216 then if inb v8 216 then (if ((M16.1 13 (M16.1 12 v15.toNatClampNeg).toNatClampNeg) + 1) ≤ (M16.1 13 v8.toNatClampNeg) then nm (v15 + 1) fun v20 => rec48 (v14, v20, M16) else if inb v15 3 then if inb (M16.1 12 v15.toNatClampNeg) 216 then if inb v8 216 then nm (kset M16 13 v8.toNatClampNeg ((M16.1 13 (M16.1 12 v15.toNatClampNeg).toNatClampNeg) + 1)) fun M21 => nm (v15 + 1) fun v22 => rec48 (1, v22, M21) else none else none else none) else none else none else none) := rfl
def fX10_deepens_L32 (rec32 : (Int32 × Int32 × KS) → Option (KS)) (k32 : (Int32 × KS) → Option (KS)) (x : Int32 × Int32 × KS) : Option (KS) := match x with | (v7, v8, M9) => (if 216 ≤ v8 then k32 (v7, M9) else bd2 (fX10_needs M9 v8) fun v13 M12 => lp (fX10_deepens_L48 v8 v13) (fX10_deepens_X48 v8 rec32) 1000000 (v7, 0, M12))
theorem fX10_deepens_L32_u {rec32 : (Int32 × Int32 × KS) → Option (KS)} {k32 : (Int32 × KS) → Option (KS)} {v7 : Int32} {v8 : Int32} {M9 : KS} : fX10_deepens_L32 rec32 k32 (v7, v8, M9) = (if 216 ≤ v8 then k32 (v7, M9) else bd2 (fX10_needs M9 v8) fun v13 M12 => lp (fX10_deepens_L48 v8 v13) (fX10_deepens_X48 v8 rec32) 1000000 (v7, 0, M12)) := rfl
def fX10_deepens_L24 (rec24 : (Int32 × KS) → Option (KS)) (k24 : (KS) → Option (KS)) (x : Int32 × KS) : Option (KS) := match x with | (v4, M5) => (if v4 = 0 then k24 M5 else lp (fX10_deepens_L32) (fX10_deepens_X32 rec24) 1000000 (0, 0, M5))
theorem fX10_deepens_L24_u {rec24 : (Int32 × KS) → Option (KS)} {k24 : (KS) → Option (KS)} {v4 : Int32} {M5 : KS} : fX10_deepens_L24 rec24 k24 (v4, M5) = (if v4 = 0 then k24 M5 else lp (fX10_deepens_L32) (fX10_deepens_X32 rec24) 1000000 (0, 0, M5)) := rfl
def fX10_deepens_X2 (M3 : KS) : Option (KS) := lp (fX10_deepens_L24) (fX10_deepens_X24) 1000000 (1, M3)
theorem fX10_deepens_X2_u {M3 : KS} : fX10_deepens_X2 M3 = lp (fX10_deepens_L24) (fX10_deepens_X24) 1000000 (1, M3) := rfl
def fX10_deepens_L2 (rec2 : (Int32 × KS) → Option (KS)) (k2 : (KS) → Option (KS)) (x : Int32 × KS) : Option (KS) := match x with | (v1, M2) => (if 216 ≤ v1 then k2 M2 else if inb v1 216 then nm (kset M2 13 v1.toNatClampNeg 0) fun M23 => nm (v1 + 1) fun v24 => rec2 (v24, M23) else none)
theorem fX10_deepens_L2_u {rec2 : (Int32 × KS) → Option (KS)} {k2 : (KS) → Option (KS)} {v1 : Int32} {M2 : KS} : fX10_deepens_L2 rec2 k2 (v1, M2) = (if 216 ≤ v1 then k2 M2 else if inb v1 216 then nm (kset M2 13 v1.toNatClampNeg 0) fun M23 => nm (v1 + 1) fun v24 => rec2 (v24, M23) else none) := rfl
def fX10_deepens (M : KS)  : Option (KS) := lp (fX10_deepens_L2) (fX10_deepens_X2) 1000000 (0, M)
set_option maxHeartbeats 4000000 in
set_option maxRecDepth 100000 in
theorem kX10_deepens (l : Launch) (E : KE) (ad : Nat → Nat) (M : KS)  : CT l yX10_deepens cX10_deepens 5 none { frames := 4, cells := 0, slots := 0, locals := 91 } SM E ad [.ref (ad 0)] M (QV SM E ad) (fX10_deepens M) := by
  refine CT.ofW (by decide) (Nat.le_of_ble_eq_true rfl) (fun sz p e s m args below meth c C hr hH ls hl => ?_)
  have hx := C.1.1
  have hb := C.1.2.1
  have hl : lv_has ls 5 [(0, .ref (ad 0))] := hl
  unfold fX10_deepens
  refine lv_iconst (v := 0) hx hb dX10_deepens_0 (by decide) ?_
  refine lv_istore_n (lv' := [(1, .int 0), (0, .ref (ad 0))]) hx hb dX10_deepens_1 rfl hl (by decide) rfl (fun ls hl => ?_)
  refine W_lp (fun (x : Int32 × KS) H locs => KH SM E ad sz x.2 s.heap H locs) (fun x ls => lv_has ls 5 [(0, .ref (ad 0)), (1, .int x.1)]) (fun _ ls => F0 m 2 ls []) (fun (x : KS) H locs => KH SM E ad sz x s.heap H locs) (fun x ls => lv_has ls 5 [(0, .ref (ad 0))]) (fun _ ls => F0 m 22 ls []) ?_ ?_ hH (lv_sub hl [1, 0] rfl)
  · intro M3 H locs ls hH hl
    have hH : KH SM E ad sz M3 s.heap H locs := hH
    have hl : lv_has ls 5 [(0, .ref (ad 0))] := hl
    refine W_q fX10_deepens_X2_u ?_
    refine lv_iconst (v := 1) hx hb dX10_deepens_22 (by decide) ?_
    refine lv_istore_n (lv' := [(1, .int 1), (0, .ref (ad 0))]) hx hb dX10_deepens_23 rfl hl (by decide) rfl (fun ls hl => ?_)
    refine W_lp (fun (x : Int32 × KS) H locs => KH SM E ad sz x.2 s.heap H locs) (fun x ls => lv_has ls 5 [(0, .ref (ad 0)), (1, .int x.1)]) (fun _ ls => F0 m 24 ls []) (fun (x : KS) H locs => KH SM E ad sz x s.heap H locs) (fun x ls => lv_has ls 5 []) (fun _ ls => F0 m 114 ls []) ?_ ?_ hH (lv_sub hl [1, 0] rfl)
    · intro M6 H locs ls hH hl
      have hH : KH SM E ad sz M6 s.heap H locs := hH
      have hl : lv_has ls 5 [] := hl
      refine W_q fX10_deepens_X24_u ?_
      exact ke_v C hH hr (Nat.le_refl _) (Nat.le_refl _) rfl dX10_deepens_114
    · intro rec24 k24 hrec24 hk24 ⟨v4, M5⟩ H locs ls hH hl
      have hH : KH SM E ad sz M5 s.heap H locs := hH
      have hl : lv_has ls 5 [(0, .ref (ad 0)), (1, .int v4)] := hl
      refine W_q fX10_deepens_L24_u ?_
      refine lv_iload_n hx hb dX10_deepens_24 rfl (lv_at hl 1 rfl) ?_
      refine kb_if_eq (tgt := 114) hx hb dX10_deepens_25 (by decide) (fun _ => ?_) (fun _ => ?_)
      · exact hk24 M5 _ _ _ hH (lv_sub hl [] rfl)
      · refine lv_iconst (v := 0) hx hb dX10_deepens_28 (by decide) ?_
        refine lv_istore_n (lv' := [(1, .int 0), (0, .ref (ad 0))]) hx hb dX10_deepens_29 rfl hl (by decide) rfl (fun ls hl => ?_)
        refine lv_iconst (v := 0) hx hb dX10_deepens_30 (by decide) ?_
        refine lv_istore_n (lv' := [(2, .int 0), (1, .int 0), (0, .ref (ad 0))]) hx hb dX10_deepens_31 rfl hl (by decide) rfl (fun ls hl => ?_)
        refine W_lp (fun (x : Int32 × Int32 × KS) H locs => KH SM E ad sz x.2.2 s.heap H locs) (fun x ls => lv_has ls 5 [(0, .ref (ad 0)), (1, .int x.1), (2, .int x.2.1)]) (fun _ ls => F0 m 32 ls []) (fun (x : Int32 × KS) H locs => KH SM E ad sz x.2 s.heap H locs) (fun x ls => lv_has ls 5 [(0, .ref (ad 0)), (1, .int x.1)]) (fun _ ls => F0 m 111 ls []) ?_ ?_ hH (lv_sub hl [2, 1, 0] rfl)
        · intro ⟨v10, M11⟩ H locs ls hH hl
          have hH : KH SM E ad sz M11 s.heap H locs := hH
          have hl : lv_has ls 5 [(0, .ref (ad 0)), (1, .int v10)] := hl
          refine W_q fX10_deepens_X32_u ?_
          refine lv_goto (tgt := 24) hx hb dX10_deepens_111 (by decide) ?_
          exact hrec24 (v10, M11) _ _ _ hH (lv_sub hl [0, 1] rfl)
        · intro rec32 k32 hrec32 hk32 ⟨v7, v8, M9⟩ H locs ls hH hl
          have hH : KH SM E ad sz M9 s.heap H locs := hH
          have hl : lv_has ls 5 [(0, .ref (ad 0)), (1, .int v7), (2, .int v8)] := hl
          refine W_q fX10_deepens_L32_u ?_
          refine lv_iload_n hx hb dX10_deepens_32 rfl (lv_at hl 2 rfl) ?_
          refine lv_sipush (v := 216) hx hb dX10_deepens_33 (by decide) ?_
          refine kb_icmp_ge (tgt := 111) hx hb dX10_deepens_36 (by decide) (fun _ => ?_) (fun _ => ?_)
          · exact hk32 (v7, M9) _ _ _ hH (lv_sub hl [0, 1] rfl)
          · refine lv_aload_n hx hb dX10_deepens_39 rfl (lv_at hl 0 rfl) ?_
            refine lv_iload_n hx hb dX10_deepens_40 rfl (lv_at hl 2 rfl) ?_
            refine kg_ib C hH (kc_V C hH w_6_210 lc_yX10_needs li_yX10_needs oM (kX10_needs l E ad M9 v8) (As := [.int v8]) rfl dX10_deepens_41 rfl hl.1 (Nat.le_of_ble_eq_true rfl) ⟨Nat.le_of_ble_eq_true rfl, Nat.le_of_ble_eq_true rfl⟩ ⟨Nat.le_of_ble_eq_true rfl, Nat.le_of_ble_eq_true rfl⟩) ⟨rfl, rfl⟩ (fun v13 M12 H locs hH => ?_)
            refine lv_istore_n (lv' := [(3, .int v13), (0, .ref (ad 0)), (1, .int v7), (2, .int v8)]) hx hb dX10_deepens_44 rfl hl (by decide) rfl (fun ls hl => ?_)
            refine lv_iconst (v := 0) hx hb dX10_deepens_45 (by decide) ?_
            refine lv_istore (lv' := [(4, .int 0), (3, .int v13), (0, .ref (ad 0)), (1, .int v7), (2, .int v8)]) hx hb dX10_deepens_46 hl (by decide) rfl (fun ls hl => ?_)
            refine W_lp (fun (x : Int32 × Int32 × KS) H locs => KH SM E ad sz x.2.2 s.heap H locs) (fun x ls => lv_has ls 5 [(3, .int v13), (0, .ref (ad 0)), (2, .int v8), (1, .int x.1), (4, .int x.2.1)]) (fun _ ls => F0 m 48 ls []) (fun (x : Int32 × KS) H locs => KH SM E ad sz x.2 s.heap H locs) (fun x ls => lv_has ls 5 [(0, .ref (ad 0)), (2, .int v8), (1, .int x.1)]) (fun _ ls => F0 m 105 ls []) ?_ ?_ hH (lv_sub hl [1, 2, 4, 3, 0] rfl)
            · intro ⟨v17, M18⟩ H locs ls hH hl
              have hH : KH SM E ad sz M18 s.heap H locs := hH
              have hl : lv_has ls 5 [(0, .ref (ad 0)), (2, .int v8), (1, .int v17)] := hl
              refine W_q fX10_deepens_X48_u ?_
              refine W_nm (fun v19 ev19 => ?_)
              refine lv_iinc (v := v19) (lv' := [(2, .int v19), (0, .ref (ad 0)), (1, .int v17)]) hx hb dX10_deepens_105 hl (k := 1) rfl (by rw [ev19]; rfl) (by decide) rfl (fun ls hl => ?_)
              refine lv_goto (tgt := 32) hx hb dX10_deepens_108 (by decide) ?_
              exact hrec32 (v17, v19, M18) _ _ _ hH (lv_sub hl [1, 2, 0] rfl)
            · intro rec48 k48 hrec48 hk48 ⟨v14, v15, M16⟩ H locs ls hH hl
              have hH : KH SM E ad sz M16 s.heap H locs := hH
              have hl : lv_has ls 5 [(3, .int v13), (0, .ref (ad 0)), (2, .int v8), (1, .int v14), (4, .int v15)] := hl
              refine W_q fX10_deepens_L48_u ?_
              refine lv_iload hx hb dX10_deepens_48 (lv_at hl 4 rfl) ?_
              refine lv_iload_n hx hb dX10_deepens_50 rfl (lv_at hl 0 rfl) ?_
              refine kb_icmp_ge (tgt := 105) hx hb dX10_deepens_51 (by decide) (fun _ => ?_) (fun _ => ?_)
              · exact hk48 (v14, M16) _ _ _ hH (lv_sub hl [1, 2, 3] rfl)
              · refine lv_aload_n hx hb dX10_deepens_54 rfl (lv_at hl 1 rfl) ?_
                refine k_get C hH fd_X10_46 oM (k_ref (M := M16) (ad := ad) rM18) dX10_deepens_55 ?_
                refine lv_aload_n hx hb dX10_deepens_58 rfl (lv_at hl 1 rfl) ?_
                refine k_get C hH fd_X10_43 oM (k_ref (M := M16) (ad := ad) rM17) dX10_deepens_59 ?_
                refine lv_iload hx hb dX10_deepens_62 (lv_at hl 4 rfl) ?_
                refine k_iald C hH aM17 dX10_deepens_64 ?_
                refine k_iald C hH aM18 dX10_deepens_65 ?_
                refine lv_iconst (v := 1) hx hb dX10_deepens_66 (by decide) ?_
                refine lv_iadd hx hb dX10_deepens_67 ?_
                refine lv_aload_n hx hb dX10_deepens_68 rfl (lv_at hl 1 rfl) ?_
                refine k_get C hH fd_X10_46 oM (k_ref (M := M16) (ad := ad) rM18) dX10_deepens_69 ?_
                refine lv_iload_n hx hb dX10_deepens_72 rfl (lv_at hl 2 rfl) ?_
                refine k_iald C hH aM18 dX10_deepens_73 ?_
                refine kb_icmp_le (tgt := 99) hx hb dX10_deepens_74 (by decide) (fun _ => ?_) (fun _ => ?_)
                · refine W_nm (fun v20 ev20 => ?_)
                  refine lv_iinc (v := v20) (lv' := [(4, .int v20), (3, .int v13), (0, .ref (ad 0)), (2, .int v8), (1, .int v14)]) hx hb dX10_deepens_99 hl (k := 4) rfl (by rw [ev20]; rfl) (by decide) rfl (fun ls hl => ?_)
                  refine lv_goto (tgt := 48) hx hb dX10_deepens_102 (by decide) ?_
                  exact hrec48 (v14, v20, M16) _ _ _ hH (lv_sub hl [1, 2, 3, 4, 0] rfl)
                · refine lv_aload_n hx hb dX10_deepens_77 rfl (lv_at hl 1 rfl) ?_
                  refine k_get C hH fd_X10_46 oM (k_ref (M := M16) (ad := ad) rM18) dX10_deepens_78 ?_
                  refine lv_iload_n hx hb dX10_deepens_81 rfl (lv_at hl 2 rfl) ?_
                  refine lv_aload_n hx hb dX10_deepens_82 rfl (lv_at hl 1 rfl) ?_
                  refine k_get C hH fd_X10_46 oM (k_ref (M := M16) (ad := ad) rM18) dX10_deepens_83 ?_
                  refine lv_aload_n hx hb dX10_deepens_86 rfl (lv_at hl 1 rfl) ?_
                  refine k_get C hH fd_X10_43 oM (k_ref (M := M16) (ad := ad) rM17) dX10_deepens_87 ?_
                  refine lv_iload hx hb dX10_deepens_90 (lv_at hl 4 rfl) ?_
                  refine k_iald C hH aM17 dX10_deepens_92 ?_
                  refine k_iald C hH aM18 dX10_deepens_93 ?_
                  refine lv_iconst (v := 1) hx hb dX10_deepens_94 (by decide) ?_
                  refine lv_iadd hx hb dX10_deepens_95 ?_
                  refine k_iast C hH aM18 dX10_deepens_96 (fun M21 H locs hH => ?_)
                  refine lv_iconst (v := 1) hx hb dX10_deepens_97 (by decide) ?_
                  refine lv_istore_n (lv' := [(1, .int 1), (3, .int v13), (0, .ref (ad 0)), (2, .int v8), (4, .int v15)]) hx hb dX10_deepens_98 rfl hl (by decide) rfl (fun ls hl => ?_)
                  refine W_nm (fun v22 ev22 => ?_)
                  refine lv_iinc (v := v22) (lv' := [(4, .int v22), (1, .int 1), (3, .int v13), (0, .ref (ad 0)), (2, .int v8)]) hx hb dX10_deepens_99 hl (k := 4) rfl (by rw [ev22]; rfl) (by decide) rfl (fun ls hl => ?_)
                  refine lv_goto (tgt := 48) hx hb dX10_deepens_102 (by decide) ?_
                  exact hrec48 (1, v22, M21) _ _ _ hH (lv_sub hl [2, 3, 4, 1, 0] rfl)
  · intro rec2 k2 hrec2 hk2 ⟨v1, M2⟩ H locs ls hH hl
    have hH : KH SM E ad sz M2 s.heap H locs := hH
    have hl : lv_has ls 5 [(0, .ref (ad 0)), (1, .int v1)] := hl
    refine W_q fX10_deepens_L2_u ?_
    refine lv_iload_n hx hb dX10_deepens_2 rfl (lv_at hl 1 rfl) ?_
    refine lv_sipush (v := 216) hx hb dX10_deepens_3 (by decide) ?_
    refine kb_icmp_ge (tgt := 22) hx hb dX10_deepens_6 (by decide) (fun _ => ?_) (fun _ => ?_)
    · exact hk2 M2 _ _ _ hH (lv_sub hl [0] rfl)
    · refine lv_aload_n hx hb dX10_deepens_9 rfl (lv_at hl 0 rfl) ?_
      refine k_get C hH fd_X10_46 oM (k_ref (M := M2) (ad := ad) rM18) dX10_deepens_10 ?_
      refine lv_iload_n hx hb dX10_deepens_13 rfl (lv_at hl 1 rfl) ?_
      refine lv_iconst (v := 0) hx hb dX10_deepens_14 (by decide) ?_
      refine k_iast C hH aM18 dX10_deepens_15 (fun M23 H locs hH => ?_)
      refine W_nm (fun v24 ev24 => ?_)
      refine lv_iinc (v := v24) (lv' := [(1, .int v24), (0, .ref (ad 0))]) hx hb dX10_deepens_16 hl (k := 1) rfl (by rw [ev24]; rfl) (by decide) rfl (fun ls hl => ?_)
      refine lv_goto (tgt := 2) hx hb dX10_deepens_19 (by decide) ?_
      exact hrec2 (v24, M23) _ _ _ hH (lv_sub hl [1, 0] rfl)
def fX10_sizeOf_X136 (M6 : KS) (v9 : Int32) : Option (Int32 × KS) := some (v9, M6)
theorem fX10_sizeOf_X136_u {M6 : KS} {v9 : Int32} : fX10_sizeOf_X136 M6 v9 = some (v9, M6) := rfl
def fX10_sizeOf_L136 (M6 : KS) (rec136 : (Int32 × Int32) → Option (Int32 × KS)) (k136 : (Int32) → Option (Int32 × KS)) (x : Int32 × Int32) : Option (Int32 × KS) := match x with | (v7, v8) => (if 216 ≤ v8 then k136 v7 else if inb v8 216 then (if (M6.1 14 v8.toNatClampNeg) = 0 then nm ((v7 + 0)) fun v10 => nm (v8 + 1) fun v11 => rec136 (v10, v11) else nm ((v7 + 1)) fun v12 => nm (v8 + 1) fun v13 => rec136 (v12, v13)) else none)
theorem fX10_sizeOf_L136_u {M6 : KS} {rec136 : (Int32 × Int32) → Option (Int32 × KS)} {k136 : (Int32) → Option (Int32 × KS)} {v7 : Int32} {v8 : Int32} : fX10_sizeOf_L136 M6 rec136 k136 (v7, v8) = (if 216 ≤ v8 then k136 v7 else if inb v8 216 then (if (M6.1 14 v8.toNatClampNeg) = 0 then nm ((v7 + 0)) fun v10 => nm (v8 + 1) fun v11 => rec136 (v10, v11) else nm ((v7 + 1)) fun v12 => nm (v8 + 1) fun v13 => rec136 (v12, v13)) else none) := rfl
def fX10_sizeOf_X33 (M6 : KS) : Option (Int32 × KS) := lp (fX10_sizeOf_L136 M6) (fX10_sizeOf_X136 M6) 1000000 (0, 0)
theorem fX10_sizeOf_X33_u {M6 : KS} : fX10_sizeOf_X33 M6 = lp (fX10_sizeOf_L136 M6) (fX10_sizeOf_X136 M6) 1000000 (0, 0) := rfl
def fX10_sizeOf_X41 (rec33 : (Int32 × KS) → Option (Int32 × KS)) (x : Int32 × KS) : Option (Int32 × KS) := match x with | (v17, M18) => rec33 (v17, M18)
theorem fX10_sizeOf_X41_u {rec33 : (Int32 × KS) → Option (Int32 × KS)} {v17 : Int32} {M18 : KS} : fX10_sizeOf_X41 rec33 (v17, M18) = rec33 (v17, M18) := rfl
def fX10_sizeOf_X71 (v15 : Int32) (rec41 : (Int32 × Int32 × KS) → Option (Int32 × KS)) (x : Int32 × KS) : Option (Int32 × KS) := match x with | (v24, M25) => nm (v15 + 1) fun v26 => rec41 (v24, v26, M25)
theorem fX10_sizeOf_X71_u {v15 : Int32} {rec41 : (Int32 × Int32 × KS) → Option (Int32 × KS)} {v24 : Int32} {M25 : KS} : fX10_sizeOf_X71 v15 rec41 (v24, M25) = nm (v15 + 1) fun v26 => rec41 (v24, v26, M25) := rfl
def fX10_sizeOf_J102_79 (v22 : Int32) (M23 : KS) (rec71 : (Int32 × Int32 × KS) → Option (Int32 × KS)) (v27 : Int32) : Option (Int32 × KS) := if inb v22 3 then if inb (M23.1 12 v22.toNatClampNeg) 216 then nm (kset M23 14 (M23.1 12 v22.toNatClampNeg).toNatClampNeg (vp_nar .boolean 1)) fun M28 => nm (v22 + 1) fun v29 => rec71 (v27, v29, M28) else none else none
theorem fX10_sizeOf_J102_79_u {v22 : Int32} {M23 : KS} {rec71 : (Int32 × Int32 × KS) → Option (Int32 × KS)} {v27 : Int32} : fX10_sizeOf_J102_79 v22 M23 rec71 v27 = if inb v22 3 then if inb (M23.1 12 v22.toNatClampNeg) 216 then nm (kset M23 14 (M23.1 12 v22.toNatClampNeg).toNatClampNeg (vp_nar .boolean 1)) fun M28 => nm (v22 + 1) fun v29 => rec71 (v27, v29, M28) else none else none := rfl
def fX10_sizeOf_L71 (v19 : Int32) (rec71 : (Int32 × Int32 × KS) → Option (Int32 × KS)) (k71 : (Int32 × KS) → Option (Int32 × KS)) (x : Int32 × Int32 × KS) : Option (Int32 × KS) := match x with | (v21, v22, M23) => (if v19 ≤ v22 then k71 (v21, M23) else jn (fX10_sizeOf_J102_79 v22 M23 rec71) (fun K102_79 => (if v21 = 0 then if inb v22 3 then if inb (M23.1 12 v22.toNatClampNeg) 216 then (if (M23.1 14 (M23.1 12 v22.toNatClampNeg).toNatClampNeg) = 0 then K102_79 1 else K102_79 0) else none else none else K102_79 1)))
theorem fX10_sizeOf_L71_u {v19 : Int32} {rec71 : (Int32 × Int32 × KS) → Option (Int32 × KS)} {k71 : (Int32 × KS) → Option (Int32 × KS)} {v21 : Int32} {v22 : Int32} {M23 : KS} : fX10_sizeOf_L71 v19 rec71 k71 (v21, v22, M23) = (if v19 ≤ v22 then k71 (v21, M23) else jn (fX10_sizeOf_J102_79 v22 M23 rec71) (fun K102_79 => (if v21 = 0 then if inb v22 3 then if inb (M23.1 12 v22.toNatClampNeg) 216 then (if (M23.1 14 (M23.1 12 v22.toNatClampNeg).toNatClampNeg) = 0 then K102_79 1 else K102_79 0) else none else none else K102_79 1))) := rfl
def fX10_sizeOf_J66_54 (v14 : Int32) (v15 : Int32) (rec41 : (Int32 × Int32 × KS) → Option (Int32 × KS)) (x : Int32 × KS) : Option (Int32 × KS) := match x with | (v19, M20) => lp (fX10_sizeOf_L71 v19) (fX10_sizeOf_X71 v15 rec41) 1000000 (v14, 0, M20)
theorem fX10_sizeOf_J66_54_u {v14 : Int32} {v15 : Int32} {rec41 : (Int32 × Int32 × KS) → Option (Int32 × KS)} {v19 : Int32} {M20 : KS} : fX10_sizeOf_J66_54 v14 v15 rec41 (v19, M20) = lp (fX10_sizeOf_L71 v19) (fX10_sizeOf_X71 v15 rec41) 1000000 (v14, 0, M20) := rfl
def fX10_sizeOf_L41 (rec41 : (Int32 × Int32 × KS) → Option (Int32 × KS)) (k41 : (Int32 × KS) → Option (Int32 × KS)) (x : Int32 × Int32 × KS) : Option (Int32 × KS) := match x with | (v14, v15, M16) => (if 216 ≤ v15 then k41 (v14, M16) else if inb v15 216 then jn (fX10_sizeOf_J66_54 v14 v15 rec41) (fun K66_54 => (if (M16.1 14 v15.toNatClampNeg) = 0 then K66_54 (0, M16) else bd2 (fX10_needs M16 v15) fun v31 M30 => K66_54 (v31, M30))) else none)
theorem fX10_sizeOf_L41_u {rec41 : (Int32 × Int32 × KS) → Option (Int32 × KS)} {k41 : (Int32 × KS) → Option (Int32 × KS)} {v14 : Int32} {v15 : Int32} {M16 : KS} : fX10_sizeOf_L41 rec41 k41 (v14, v15, M16) = (if 216 ≤ v15 then k41 (v14, M16) else if inb v15 216 then jn (fX10_sizeOf_J66_54 v14 v15 rec41) (fun K66_54 => (if (M16.1 14 v15.toNatClampNeg) = 0 then K66_54 (0, M16) else bd2 (fX10_needs M16 v15) fun v31 M30 => K66_54 (v31, M30))) else none) := rfl
def fX10_sizeOf_L33 (rec33 : (Int32 × KS) → Option (Int32 × KS)) (k33 : (KS) → Option (Int32 × KS)) (x : Int32 × KS) : Option (Int32 × KS) := match x with | (v4, M5) => (if v4 = 0 then k33 M5 else lp (fX10_sizeOf_L41) (fX10_sizeOf_X41 rec33) 1000000 (0, 0, M5))
theorem fX10_sizeOf_L33_u {rec33 : (Int32 × KS) → Option (Int32 × KS)} {k33 : (KS) → Option (Int32 × KS)} {v4 : Int32} {M5 : KS} : fX10_sizeOf_L33 rec33 k33 (v4, M5) = (if v4 = 0 then k33 M5 else lp (fX10_sizeOf_L41) (fX10_sizeOf_X41 rec33) 1000000 (0, 0, M5)) := rfl
def fX10_sizeOf_X2 (M3 : KS) : Option (Int32 × KS) := lp (fX10_sizeOf_L33) (fX10_sizeOf_X33) 1000000 (1, M3)
theorem fX10_sizeOf_X2_u {M3 : KS} : fX10_sizeOf_X2 M3 = lp (fX10_sizeOf_L33) (fX10_sizeOf_X33) 1000000 (1, M3) := rfl
def fX10_sizeOf_L2 (a1 : Int32) (rec2 : (Int32 × KS) → Option (Int32 × KS)) (k2 : (KS) → Option (Int32 × KS)) (x : Int32 × KS) : Option (Int32 × KS) := match x with | (v1, M2) => (if 216 ≤ v1 then k2 M2 else (if v1 = a1 then if inb v1 216 then nm (kset M2 14 v1.toNatClampNeg (vp_nar .boolean 1)) fun M34 => nm (v1 + 1) fun v35 => rec2 (v35, M34) else none else if inb v1 216 then nm (kset M2 14 v1.toNatClampNeg (vp_nar .boolean 0)) fun M32 => nm (v1 + 1) fun v33 => rec2 (v33, M32) else none))
theorem fX10_sizeOf_L2_u {a1 : Int32} {rec2 : (Int32 × KS) → Option (Int32 × KS)} {k2 : (KS) → Option (Int32 × KS)} {v1 : Int32} {M2 : KS} : fX10_sizeOf_L2 a1 rec2 k2 (v1, M2) = (if 216 ≤ v1 then k2 M2 else (if v1 = a1 then if inb v1 216 then nm (kset M2 14 v1.toNatClampNeg (vp_nar .boolean 1)) fun M34 => nm (v1 + 1) fun v35 => rec2 (v35, M34) else none else if inb v1 216 then nm (kset M2 14 v1.toNatClampNeg (vp_nar .boolean 0)) fun M32 => nm (v1 + 1) fun v33 => rec2 (v33, M32) else none)) := rfl
def fX10_sizeOf (M : KS) (a1 : Int32) : Option (Int32 × KS) := lp (fX10_sizeOf_L2 a1) (fX10_sizeOf_X2) 1000000 (0, M)
set_option maxHeartbeats 4000000 in
set_option maxRecDepth 100000 in
theorem kX10_sizeOf (l : Launch) (E : KE) (ad : Nat → Nat) (M : KS) (a1 : Int32) : CT l yX10_sizeOf cX10_sizeOf 6 (some .int) { frames := 4, cells := 0, slots := 0, locals := 91 } SM E ad [.ref (ad 0), .int a1] M (QI SM E ad) (fX10_sizeOf M a1) := by
  refine CT.ofW (by decide) (Nat.le_of_ble_eq_true rfl) (fun sz p e s m args below meth c C hr hH ls hl => ?_)
  have hx := C.1.1
  have hb := C.1.2.1
  have hl : lv_has ls 6 [(0, .ref (ad 0)), (1, .int a1)] := hl
  unfold fX10_sizeOf
  refine lv_iconst (v := 0) hx hb dX10_sizeOf_0 (by decide) ?_
  refine lv_istore_n (lv' := [(2, .int 0), (0, .ref (ad 0)), (1, .int a1)]) hx hb dX10_sizeOf_1 rfl hl (by decide) rfl (fun ls hl => ?_)
  refine W_lp (fun (x : Int32 × KS) H locs => KH SM E ad sz x.2 s.heap H locs) (fun x ls => lv_has ls 6 [(0, .ref (ad 0)), (1, .int a1), (2, .int x.1)]) (fun _ ls => F0 m 2 ls []) (fun (x : KS) H locs => KH SM E ad sz x s.heap H locs) (fun x ls => lv_has ls 6 [(0, .ref (ad 0))]) (fun _ ls => F0 m 31 ls []) ?_ ?_ hH (lv_sub hl [1, 2, 0] rfl)
  · intro M3 H locs ls hH hl
    have hH : KH SM E ad sz M3 s.heap H locs := hH
    have hl : lv_has ls 6 [(0, .ref (ad 0))] := hl
    refine W_q fX10_sizeOf_X2_u ?_
    refine lv_iconst (v := 1) hx hb dX10_sizeOf_31 (by decide) ?_
    refine lv_istore_n (lv' := [(2, .int 1), (0, .ref (ad 0))]) hx hb dX10_sizeOf_32 rfl hl (by decide) rfl (fun ls hl => ?_)
    refine W_lp (fun (x : Int32 × KS) H locs => KH SM E ad sz x.2 s.heap H locs) (fun x ls => lv_has ls 6 [(0, .ref (ad 0)), (2, .int x.1)]) (fun _ ls => F0 m 33 ls []) (fun (x : KS) H locs => KH SM E ad sz x s.heap H locs) (fun x ls => lv_has ls 6 [(0, .ref (ad 0))]) (fun _ ls => F0 m 131 ls []) ?_ ?_ hH (lv_sub hl [1, 0] rfl)
    · intro M6 H locs ls hH hl
      have hH : KH SM E ad sz M6 s.heap H locs := hH
      have hl : lv_has ls 6 [(0, .ref (ad 0))] := hl
      refine W_q fX10_sizeOf_X33_u ?_
      refine lv_iconst (v := 0) hx hb dX10_sizeOf_131 (by decide) ?_
      refine lv_istore_n (lv' := [(3, .int 0), (0, .ref (ad 0))]) hx hb dX10_sizeOf_132 rfl hl (by decide) rfl (fun ls hl => ?_)
      refine lv_iconst (v := 0) hx hb dX10_sizeOf_133 (by decide) ?_
      refine lv_istore (lv' := [(4, .int 0), (3, .int 0), (0, .ref (ad 0))]) hx hb dX10_sizeOf_134 hl (by decide) rfl (fun ls hl => ?_)
      refine W_lp (fun (x : Int32 × Int32) H locs => KH SM E ad sz M6 s.heap H locs) (fun x ls => lv_has ls 6 [(0, .ref (ad 0)), (3, .int x.1), (4, .int x.2)]) (fun _ ls => F0 m 136 ls []) (fun (x : Int32) H locs => KH SM E ad sz M6 s.heap H locs) (fun x ls => lv_has ls 6 [(3, .int x)]) (fun _ ls => F0 m 168 ls []) ?_ ?_ hH (lv_sub hl [2, 1, 0] rfl)
      · intro v9 H locs ls hH hl
        have hH : KH SM E ad sz M6 s.heap H locs := hH
        have hl : lv_has ls 6 [(3, .int v9)] := hl
        refine W_q fX10_sizeOf_X136_u ?_
        refine lv_iload_n hx hb dX10_sizeOf_168 rfl (lv_at hl 0 rfl) ?_
        exact ke_i C hH hr (Nat.le_refl _) (Nat.le_refl _) rfl dX10_sizeOf_169
      · intro rec136 k136 hrec136 hk136 ⟨v7, v8⟩ H locs ls hH hl
        have hH : KH SM E ad sz M6 s.heap H locs := hH
        have hl : lv_has ls 6 [(0, .ref (ad 0)), (3, .int v7), (4, .int v8)] := hl
        refine W_q fX10_sizeOf_L136_u ?_
        refine lv_iload hx hb dX10_sizeOf_136 (lv_at hl 2 rfl) ?_
        refine lv_sipush (v := 216) hx hb dX10_sizeOf_138 (by decide) ?_
        refine kb_icmp_ge (tgt := 168) hx hb dX10_sizeOf_141 (by decide) (fun _ => ?_) (fun _ => ?_)
        · exact hk136 v7 _ _ _ hH (lv_sub hl [1] rfl)
        · refine lv_iload_n hx hb dX10_sizeOf_144 rfl (lv_at hl 1 rfl) ?_
          refine lv_aload_n hx hb dX10_sizeOf_145 rfl (lv_at hl 0 rfl) ?_
          refine k_get C hH fd_X10_49 oM (k_ref (M := M6) (ad := ad) rM19) dX10_sizeOf_146 ?_
          refine lv_iload hx hb dX10_sizeOf_149 (lv_at hl 2 rfl) ?_
          refine k_zald C hH aM19 dX10_sizeOf_151 ?_
          refine kb_if_eq (tgt := 159) hx hb dX10_sizeOf_152 (by decide) (fun _ => ?_) (fun _ => ?_)
          · refine lv_iconst (v := 0) hx hb dX10_sizeOf_159 (by decide) ?_
            refine lv_iadd hx hb dX10_sizeOf_160 ?_
            refine W_nmi (fun v10 => ?_)
            refine lv_istore_n (lv' := [(3, .int v10), (0, .ref (ad 0)), (4, .int v8)]) hx hb dX10_sizeOf_161 rfl hl (by decide) rfl (fun ls hl => ?_)
            refine W_nm (fun v11 ev11 => ?_)
            refine lv_iinc (v := v11) (lv' := [(4, .int v11), (3, .int v10), (0, .ref (ad 0))]) hx hb dX10_sizeOf_162 hl (k := 2) rfl (by rw [ev11]; rfl) (by decide) rfl (fun ls hl => ?_)
            refine lv_goto (tgt := 136) hx hb dX10_sizeOf_165 (by decide) ?_
            exact hrec136 (v10, v11) _ _ _ hH (lv_sub hl [2, 1, 0] rfl)
          · refine lv_iconst (v := 1) hx hb dX10_sizeOf_155 (by decide) ?_
            refine lv_goto (tgt := 160) hx hb dX10_sizeOf_156 (by decide) ?_
            refine lv_iadd hx hb dX10_sizeOf_160 ?_
            refine W_nmi (fun v12 => ?_)
            refine lv_istore_n (lv' := [(3, .int v12), (0, .ref (ad 0)), (4, .int v8)]) hx hb dX10_sizeOf_161 rfl hl (by decide) rfl (fun ls hl => ?_)
            refine W_nm (fun v13 ev13 => ?_)
            refine lv_iinc (v := v13) (lv' := [(4, .int v13), (3, .int v12), (0, .ref (ad 0))]) hx hb dX10_sizeOf_162 hl (k := 2) rfl (by rw [ev13]; rfl) (by decide) rfl (fun ls hl => ?_)
            refine lv_goto (tgt := 136) hx hb dX10_sizeOf_165 (by decide) ?_
            exact hrec136 (v12, v13) _ _ _ hH (lv_sub hl [2, 1, 0] rfl)
    · intro rec33 k33 hrec33 hk33 ⟨v4, M5⟩ H locs ls hH hl
      have hH : KH SM E ad sz M5 s.heap H locs := hH
      have hl : lv_has ls 6 [(0, .ref (ad 0)), (2, .int v4)] := hl
      refine W_q fX10_sizeOf_L33_u ?_
      refine lv_iload_n hx hb dX10_sizeOf_33 rfl (lv_at hl 1 rfl) ?_
      refine kb_if_eq (tgt := 131) hx hb dX10_sizeOf_34 (by decide) (fun _ => ?_) (fun _ => ?_)
      · exact hk33 M5 _ _ _ hH (lv_sub hl [0] rfl)
      · refine lv_iconst (v := 0) hx hb dX10_sizeOf_37 (by decide) ?_
        refine lv_istore_n (lv' := [(2, .int 0), (0, .ref (ad 0))]) hx hb dX10_sizeOf_38 rfl hl (by decide) rfl (fun ls hl => ?_)
        refine lv_iconst (v := 0) hx hb dX10_sizeOf_39 (by decide) ?_
        refine lv_istore_n (lv' := [(3, .int 0), (2, .int 0), (0, .ref (ad 0))]) hx hb dX10_sizeOf_40 rfl hl (by decide) rfl (fun ls hl => ?_)
        refine W_lp (fun (x : Int32 × Int32 × KS) H locs => KH SM E ad sz x.2.2 s.heap H locs) (fun x ls => lv_has ls 6 [(0, .ref (ad 0)), (2, .int x.1), (3, .int x.2.1)]) (fun _ ls => F0 m 41 ls []) (fun (x : Int32 × KS) H locs => KH SM E ad sz x.2 s.heap H locs) (fun x ls => lv_has ls 6 [(0, .ref (ad 0)), (2, .int x.1)]) (fun _ ls => F0 m 128 ls []) ?_ ?_ hH (lv_sub hl [2, 1, 0] rfl)
        · intro ⟨v17, M18⟩ H locs ls hH hl
          have hH : KH SM E ad sz M18 s.heap H locs := hH
          have hl : lv_has ls 6 [(0, .ref (ad 0)), (2, .int v17)] := hl
          refine W_q fX10_sizeOf_X41_u ?_
          refine lv_goto (tgt := 33) hx hb dX10_sizeOf_128 (by decide) ?_
          exact hrec33 (v17, M18) _ _ _ hH (lv_sub hl [0, 1] rfl)
        · intro rec41 k41 hrec41 hk41 ⟨v14, v15, M16⟩ H locs ls hH hl
          have hH : KH SM E ad sz M16 s.heap H locs := hH
          have hl : lv_has ls 6 [(0, .ref (ad 0)), (2, .int v14), (3, .int v15)] := hl
          refine W_q fX10_sizeOf_L41_u ?_
          refine lv_iload_n hx hb dX10_sizeOf_41 rfl (lv_at hl 2 rfl) ?_
          refine lv_sipush (v := 216) hx hb dX10_sizeOf_42 (by decide) ?_
          refine kb_icmp_ge (tgt := 128) hx hb dX10_sizeOf_45 (by decide) (fun _ => ?_) (fun _ => ?_)
          · exact hk41 (v14, M16) _ _ _ hH (lv_sub hl [0, 1] rfl)
          · refine lv_aload_n hx hb dX10_sizeOf_48 rfl (lv_at hl 0 rfl) ?_
            refine k_get C hH fd_X10_49 oM (k_ref (M := M16) (ad := ad) rM19) dX10_sizeOf_49 ?_
            refine lv_iload_n hx hb dX10_sizeOf_52 rfl (lv_at hl 2 rfl) ?_
            refine k_zald C hH aM19 dX10_sizeOf_53 ?_
            refine W_jn (fun (x : Int32 × KS) H locs => KH SM E ad sz x.2 s.heap H locs) (fun x ls => lv_has ls 6 [(0, .ref (ad 0)), (2, .int v14), (3, .int v15)]) (fun x ls => F0 m 66 ls [.int x.1]) ?_ (fun K66_54 hK66_54 => ?_)
            · intro ⟨v19, M20⟩ H locs ls hH hl
              have hH : KH SM E ad sz M20 s.heap H locs := hH
              have hl : lv_has ls 6 [(0, .ref (ad 0)), (2, .int v14), (3, .int v15)] := hl
              refine W_q fX10_sizeOf_J66_54_u ?_
              refine lv_istore (lv' := [(4, .int v19), (0, .ref (ad 0)), (2, .int v14), (3, .int v15)]) hx hb dX10_sizeOf_66 hl (by decide) rfl (fun ls hl => ?_)
              refine lv_iconst (v := 0) hx hb dX10_sizeOf_68 (by decide) ?_
              refine lv_istore (lv' := [(5, .int 0), (4, .int v19), (0, .ref (ad 0)), (2, .int v14), (3, .int v15)]) hx hb dX10_sizeOf_69 hl (by decide) rfl (fun ls hl => ?_)
              refine W_lp (fun (x : Int32 × Int32 × KS) H locs => KH SM E ad sz x.2.2 s.heap H locs) (fun x ls => lv_has ls 6 [(4, .int v19), (0, .ref (ad 0)), (3, .int v15), (2, .int x.1), (5, .int x.2.1)]) (fun _ ls => F0 m 71 ls []) (fun (x : Int32 × KS) H locs => KH SM E ad sz x.2 s.heap H locs) (fun x ls => lv_has ls 6 [(0, .ref (ad 0)), (3, .int v15), (2, .int x.1)]) (fun _ ls => F0 m 122 ls []) ?_ ?_ hH (lv_sub hl [1, 2, 4, 3, 0] rfl)
              · intro ⟨v24, M25⟩ H locs ls hH hl
                have hH : KH SM E ad sz M25 s.heap H locs := hH
                have hl : lv_has ls 6 [(0, .ref (ad 0)), (3, .int v15), (2, .int v24)] := hl
                refine W_q fX10_sizeOf_X71_u ?_
                refine W_nm (fun v26 ev26 => ?_)
                refine lv_iinc (v := v26) (lv' := [(3, .int v26), (0, .ref (ad 0)), (2, .int v24)]) hx hb dX10_sizeOf_122 hl (k := 1) rfl (by rw [ev26]; rfl) (by decide) rfl (fun ls hl => ?_)
                refine lv_goto (tgt := 41) hx hb dX10_sizeOf_125 (by decide) ?_
                exact hrec41 (v24, v26, M25) _ _ _ hH (lv_sub hl [1, 2, 0] rfl)
              · intro rec71 k71 hrec71 hk71 ⟨v21, v22, M23⟩ H locs ls hH hl
                have hH : KH SM E ad sz M23 s.heap H locs := hH
                have hl : lv_has ls 6 [(4, .int v19), (0, .ref (ad 0)), (3, .int v15), (2, .int v21), (5, .int v22)] := hl
                refine W_q fX10_sizeOf_L71_u ?_
                refine lv_iload hx hb dX10_sizeOf_71 (lv_at hl 4 rfl) ?_
                refine lv_iload hx hb dX10_sizeOf_73 (lv_at hl 0 rfl) ?_
                refine kb_icmp_ge (tgt := 122) hx hb dX10_sizeOf_75 (by decide) (fun _ => ?_) (fun _ => ?_)
                · exact hk71 (v21, M23) _ _ _ hH (lv_sub hl [1, 2, 3] rfl)
                · refine lv_iload_n hx hb dX10_sizeOf_78 rfl (lv_at hl 3 rfl) ?_
                  refine W_jn (fun (x : Int32) H locs => KH SM E ad sz M23 s.heap H locs) (fun x ls => lv_has ls 6 [(4, .int v19), (0, .ref (ad 0)), (3, .int v15), (5, .int v22)]) (fun x ls => F0 m 102 ls [.int x]) ?_ (fun K102_79 hK102_79 => ?_)
                  · intro v27 H locs ls hH hl
                    have hH : KH SM E ad sz M23 s.heap H locs := hH
                    have hl : lv_has ls 6 [(4, .int v19), (0, .ref (ad 0)), (3, .int v15), (5, .int v22)] := hl
                    refine W_q fX10_sizeOf_J102_79_u ?_
                    refine lv_istore_n (lv' := [(2, .int v27), (4, .int v19), (0, .ref (ad 0)), (3, .int v15), (5, .int v22)]) hx hb dX10_sizeOf_102 rfl hl (by decide) rfl (fun ls hl => ?_)
                    refine lv_aload_n hx hb dX10_sizeOf_103 rfl (lv_at hl 2 rfl) ?_
                    refine k_get C hH fd_X10_49 oM (k_ref (M := M23) (ad := ad) rM19) dX10_sizeOf_104 ?_
                    refine lv_aload_n hx hb dX10_sizeOf_107 rfl (lv_at hl 2 rfl) ?_
                    refine k_get C hH fd_X10_43 oM (k_ref (M := M23) (ad := ad) rM17) dX10_sizeOf_108 ?_
                    refine lv_iload hx hb dX10_sizeOf_111 (lv_at hl 4 rfl) ?_
                    refine k_iald C hH aM17 dX10_sizeOf_113 ?_
                    refine lv_iconst (v := 1) hx hb dX10_sizeOf_114 (by decide) ?_
                    refine k_zast C hH aM19 dX10_sizeOf_115 (fun M28 H locs hH => ?_)
                    refine W_nm (fun v29 ev29 => ?_)
                    refine lv_iinc (v := v29) (lv' := [(5, .int v29), (2, .int v27), (4, .int v19), (0, .ref (ad 0)), (3, .int v15)]) hx hb dX10_sizeOf_116 hl (k := 4) rfl (by rw [ev29]; rfl) (by decide) rfl (fun ls hl => ?_)
                    refine lv_goto (tgt := 71) hx hb dX10_sizeOf_119 (by decide) ?_
                    exact hrec71 (v27, v29, M28) _ _ _ hH (lv_sub hl [2, 3, 4, 1, 0] rfl)
                  · refine kb_if_ne (tgt := 97) hx hb dX10_sizeOf_79 (by decide) (fun _ => ?_) (fun _ => ?_)
                    · refine lv_iconst (v := 1) hx hb dX10_sizeOf_97 (by decide) ?_
                      refine lv_goto (tgt := 102) hx hb dX10_sizeOf_98 (by decide) ?_
                      exact hK102_79 1 _ _ _ hH (lv_sub hl [0, 1, 2, 4] rfl)
                    · refine lv_aload_n hx hb dX10_sizeOf_82 rfl (lv_at hl 1 rfl) ?_
                      refine k_get C hH fd_X10_49 oM (k_ref (M := M23) (ad := ad) rM19) dX10_sizeOf_83 ?_
                      refine lv_aload_n hx hb dX10_sizeOf_86 rfl (lv_at hl 1 rfl) ?_
                      refine k_get C hH fd_X10_43 oM (k_ref (M := M23) (ad := ad) rM17) dX10_sizeOf_87 ?_
                      refine lv_iload hx hb dX10_sizeOf_90 (lv_at hl 4 rfl) ?_
                      refine k_iald C hH aM17 dX10_sizeOf_92 ?_
                      refine k_zald C hH aM19 dX10_sizeOf_93 ?_
                      refine kb_if_ne (tgt := 101) hx hb dX10_sizeOf_94 (by decide) (fun _ => ?_) (fun _ => ?_)
                      · refine lv_iconst (v := 0) hx hb dX10_sizeOf_101 (by decide) ?_
                        exact hK102_79 0 _ _ _ hH (lv_sub hl [0, 1, 2, 4] rfl)
                      · refine lv_iconst (v := 1) hx hb dX10_sizeOf_97 (by decide) ?_
                        refine lv_goto (tgt := 102) hx hb dX10_sizeOf_98 (by decide) ?_
                        exact hK102_79 1 _ _ _ hH (lv_sub hl [0, 1, 2, 4] rfl)
            · refine kb_if_eq (tgt := 65) hx hb dX10_sizeOf_54 (by decide) (fun _ => ?_) (fun _ => ?_)
              · refine lv_iconst (v := 0) hx hb dX10_sizeOf_65 (by decide) ?_
                exact hK66_54 (0, M16) _ _ _ hH (lv_sub hl [0, 1, 2] rfl)
              · refine lv_aload_n hx hb dX10_sizeOf_57 rfl (lv_at hl 0 rfl) ?_
                refine lv_iload_n hx hb dX10_sizeOf_58 rfl (lv_at hl 2 rfl) ?_
                refine kg_ib C hH (kc_V C hH w_6_210 lc_yX10_needs li_yX10_needs oM (kX10_needs l E ad M16 v15) (As := [.int v15]) rfl dX10_sizeOf_59 rfl hl.1 (Nat.le_of_ble_eq_true rfl) ⟨Nat.le_of_ble_eq_true rfl, Nat.le_of_ble_eq_true rfl⟩ ⟨Nat.le_of_ble_eq_true rfl, Nat.le_of_ble_eq_true rfl⟩) ⟨rfl, rfl⟩ (fun v31 M30 H locs hH => ?_)
                refine lv_goto (tgt := 66) hx hb dX10_sizeOf_62 (by decide) ?_
                exact hK66_54 (v31, M30) _ _ _ hH (lv_sub hl [0, 1, 2] rfl)
  · intro rec2 k2 hrec2 hk2 ⟨v1, M2⟩ H locs ls hH hl
    have hH : KH SM E ad sz M2 s.heap H locs := hH
    have hl : lv_has ls 6 [(0, .ref (ad 0)), (1, .int a1), (2, .int v1)] := hl
    refine W_q fX10_sizeOf_L2_u ?_
    refine lv_iload_n hx hb dX10_sizeOf_2 rfl (lv_at hl 2 rfl) ?_
    refine lv_sipush (v := 216) hx hb dX10_sizeOf_3 (by decide) ?_
    refine kb_icmp_ge (tgt := 31) hx hb dX10_sizeOf_6 (by decide) (fun _ => ?_) (fun _ => ?_)
    · exact hk2 M2 _ _ _ hH (lv_sub hl [0] rfl)
    · refine lv_aload_n hx hb dX10_sizeOf_9 rfl (lv_at hl 0 rfl) ?_
      refine k_get C hH fd_X10_49 oM (k_ref (M := M2) (ad := ad) rM19) dX10_sizeOf_10 ?_
      refine lv_iload_n hx hb dX10_sizeOf_13 rfl (lv_at hl 2 rfl) ?_
      refine lv_iload_n hx hb dX10_sizeOf_14 rfl (lv_at hl 2 rfl) ?_
      refine lv_iload_n hx hb dX10_sizeOf_15 rfl (lv_at hl 1 rfl) ?_
      refine kb_icmp_ne (tgt := 23) hx hb dX10_sizeOf_16 (by decide) (fun _ => ?_) (fun _ => ?_)
      · refine lv_iconst (v := 0) hx hb dX10_sizeOf_23 (by decide) ?_
        refine k_zast C hH aM19 dX10_sizeOf_24 (fun M32 H locs hH => ?_)
        refine W_nm (fun v33 ev33 => ?_)
        refine lv_iinc (v := v33) (lv' := [(2, .int v33), (0, .ref (ad 0)), (1, .int a1)]) hx hb dX10_sizeOf_25 hl (k := 2) rfl (by rw [ev33]; rfl) (by decide) rfl (fun ls hl => ?_)
        refine lv_goto (tgt := 2) hx hb dX10_sizeOf_28 (by decide) ?_
        exact hrec2 (v33, M32) _ _ _ hH (lv_sub hl [1, 2, 0] rfl)
      · refine lv_iconst (v := 1) hx hb dX10_sizeOf_19 (by decide) ?_
        refine lv_goto (tgt := 24) hx hb dX10_sizeOf_20 (by decide) ?_
        refine k_zast C hH aM19 dX10_sizeOf_24 (fun M34 H locs hH => ?_)
        refine W_nm (fun v35 ev35 => ?_)
        refine lv_iinc (v := v35) (lv' := [(2, .int v35), (0, .ref (ad 0)), (1, .int a1)]) hx hb dX10_sizeOf_25 hl (k := 2) rfl (by rw [ev35]; rfl) (by decide) rfl (fun ls hl => ?_)
        refine lv_goto (tgt := 2) hx hb dX10_sizeOf_28 (by decide) ?_
        exact hrec2 (v35, M34) _ _ _ hH (lv_sub hl [1, 2, 0] rfl)
def fX10_unlikeNeeds_X11 (M1 : KS) (v5 : Int32) : Option (Int32 × KS) := some (v5, M1)
theorem fX10_unlikeNeeds_X11_u {M1 : KS} {v5 : Int32} : fX10_unlikeNeeds_X11 M1 v5 = some (v5, M1) := rfl
def fX10_unlikeNeeds_X23 (v3 : Int32) (v4 : Int32) (rec11 : (Int32 × Int32) → Option (Int32 × KS)) (v8 : Int32) : Option (Int32 × KS) := (if v8 = 0 then nm ((v3 + 0)) fun v9 => nm (v4 + 1) fun v10 => rec11 (v9, v10) else nm ((v3 + 1)) fun v11 => nm (v4 + 1) fun v12 => rec11 (v11, v12))
theorem fX10_unlikeNeeds_X23_u {v3 : Int32} {v4 : Int32} {rec11 : (Int32 × Int32) → Option (Int32 × KS)} {v8 : Int32} : fX10_unlikeNeeds_X23 v3 v4 rec11 v8 = (if v8 = 0 then nm ((v3 + 0)) fun v9 => nm (v4 + 1) fun v10 => rec11 (v9, v10) else nm ((v3 + 1)) fun v11 => nm (v4 + 1) fun v12 => rec11 (v11, v12)) := rfl
def fX10_unlikeNeeds_L23 (M1 : KS) (v4 : Int32) (rec23 : (Int32 × Int32) → Option (Int32 × KS)) (k23 : (Int32) → Option (Int32 × KS)) (x : Int32 × Int32) : Option (Int32 × KS) := match x with | (v6, v7) => (if v4 ≤ v7 then k23 v6 else (if v6 = 0 then nm (v7 + 1) fun v13 => rec23 (0, v13) else if inb v7 3 then if inb v4 3 then (if (M1.1 12 v7.toNatClampNeg) = (M1.1 12 v4.toNatClampNeg) then nm (v7 + 1) fun v14 => rec23 (0, v14) else nm (v7 + 1) fun v15 => rec23 (1, v15)) else none else none))
theorem fX10_unlikeNeeds_L23_u {M1 : KS} {v4 : Int32} {rec23 : (Int32 × Int32) → Option (Int32 × KS)} {k23 : (Int32) → Option (Int32 × KS)} {v6 : Int32} {v7 : Int32} : fX10_unlikeNeeds_L23 M1 v4 rec23 k23 (v6, v7) = (if v4 ≤ v7 then k23 v6 else (if v6 = 0 then nm (v7 + 1) fun v13 => rec23 (0, v13) else if inb v7 3 then if inb v4 3 then (if (M1.1 12 v7.toNatClampNeg) = (M1.1 12 v4.toNatClampNeg) then nm (v7 + 1) fun v14 => rec23 (0, v14) else nm (v7 + 1) fun v15 => rec23 (1, v15)) else none else none)) := rfl
def fX10_unlikeNeeds_L11 (v2 : Int32) (M1 : KS) (rec11 : (Int32 × Int32) → Option (Int32 × KS)) (k11 : (Int32) → Option (Int32 × KS)) (x : Int32 × Int32) : Option (Int32 × KS) := match x with | (v3, v4) => (if v2 ≤ v4 then k11 v3 else lp (fX10_unlikeNeeds_L23 M1 v4) (fX10_unlikeNeeds_X23 v3 v4 rec11) 1000000 (1, 0))
theorem fX10_unlikeNeeds_L11_u {v2 : Int32} {M1 : KS} {rec11 : (Int32 × Int32) → Option (Int32 × KS)} {k11 : (Int32) → Option (Int32 × KS)} {v3 : Int32} {v4 : Int32} : fX10_unlikeNeeds_L11 v2 M1 rec11 k11 (v3, v4) = (if v2 ≤ v4 then k11 v3 else lp (fX10_unlikeNeeds_L23 M1 v4) (fX10_unlikeNeeds_X23 v3 v4 rec11) 1000000 (1, 0)) := rfl
def fX10_unlikeNeeds (M : KS) (a1 : Int32) : Option (Int32 × KS) := bd2 (fX10_needs M a1) fun v2 M1 => lp (fX10_unlikeNeeds_L11 v2 M1) (fX10_unlikeNeeds_X11 M1) 1000000 (0, 0)
set_option maxHeartbeats 4000000 in
set_option maxRecDepth 100000 in
theorem kX10_unlikeNeeds (l : Launch) (E : KE) (ad : Nat → Nat) (M : KS) (a1 : Int32) : CT l yX10_unlikeNeeds cX10_unlikeNeeds 7 (some .int) { frames := 4, cells := 0, slots := 0, locals := 91 } SM E ad [.ref (ad 0), .int a1] M (QI SM E ad) (fX10_unlikeNeeds M a1) := by
  refine CT.ofW (by decide) (Nat.le_of_ble_eq_true rfl) (fun sz p e s m args below meth c C hr hH ls hl => ?_)
  have hx := C.1.1
  have hb := C.1.2.1
  have hl : lv_has ls 7 [(0, .ref (ad 0)), (1, .int a1)] := hl
  unfold fX10_unlikeNeeds
  refine lv_aload_n hx hb dX10_unlikeNeeds_0 rfl (lv_at hl 0 rfl) ?_
  refine lv_iload_n hx hb dX10_unlikeNeeds_1 rfl (lv_at hl 1 rfl) ?_
  refine kg_ib C hH (kc_V C hH w_6_210 lc_yX10_needs li_yX10_needs oM (kX10_needs l E ad M a1) (As := [.int a1]) rfl dX10_unlikeNeeds_2 rfl hl.1 (Nat.le_of_ble_eq_true rfl) ⟨Nat.le_of_ble_eq_true rfl, Nat.le_of_ble_eq_true rfl⟩ ⟨Nat.le_of_ble_eq_true rfl, Nat.le_of_ble_eq_true rfl⟩) ⟨rfl, rfl⟩ (fun v2 M1 H locs hH => ?_)
  refine lv_istore_n (lv' := [(2, .int v2), (0, .ref (ad 0)), (1, .int a1)]) hx hb dX10_unlikeNeeds_5 rfl hl (by decide) rfl (fun ls hl => ?_)
  refine lv_iconst (v := 0) hx hb dX10_unlikeNeeds_6 (by decide) ?_
  refine lv_istore_n (lv' := [(3, .int 0), (2, .int v2), (0, .ref (ad 0)), (1, .int a1)]) hx hb dX10_unlikeNeeds_7 rfl hl (by decide) rfl (fun ls hl => ?_)
  refine lv_iconst (v := 0) hx hb dX10_unlikeNeeds_8 (by decide) ?_
  refine lv_istore (lv' := [(4, .int 0), (3, .int 0), (2, .int v2), (0, .ref (ad 0)), (1, .int a1)]) hx hb dX10_unlikeNeeds_9 hl (by decide) rfl (fun ls hl => ?_)
  refine W_lp (fun (x : Int32 × Int32) H locs => KH SM E ad sz M1 s.heap H locs) (fun x ls => lv_has ls 7 [(2, .int v2), (0, .ref (ad 0)), (3, .int x.1), (4, .int x.2)]) (fun _ ls => F0 m 11 ls []) (fun (x : Int32) H locs => KH SM E ad sz M1 s.heap H locs) (fun x ls => lv_has ls 7 [(3, .int x)]) (fun _ ls => F0 m 84 ls []) ?_ ?_ hH (lv_sub hl [2, 3, 1, 0] rfl)
  · intro v5 H locs ls hH hl
    have hH : KH SM E ad sz M1 s.heap H locs := hH
    have hl : lv_has ls 7 [(3, .int v5)] := hl
    refine W_q fX10_unlikeNeeds_X11_u ?_
    refine lv_iload_n hx hb dX10_unlikeNeeds_84 rfl (lv_at hl 0 rfl) ?_
    exact ke_i C hH hr (Nat.le_refl _) (Nat.le_refl _) rfl dX10_unlikeNeeds_85
  · intro rec11 k11 hrec11 hk11 ⟨v3, v4⟩ H locs ls hH hl
    have hH : KH SM E ad sz M1 s.heap H locs := hH
    have hl : lv_has ls 7 [(2, .int v2), (0, .ref (ad 0)), (3, .int v3), (4, .int v4)] := hl
    refine W_q fX10_unlikeNeeds_L11_u ?_
    refine lv_iload hx hb dX10_unlikeNeeds_11 (lv_at hl 3 rfl) ?_
    refine lv_iload_n hx hb dX10_unlikeNeeds_13 rfl (lv_at hl 0 rfl) ?_
    refine kb_icmp_ge (tgt := 84) hx hb dX10_unlikeNeeds_14 (by decide) (fun _ => ?_) (fun _ => ?_)
    · exact hk11 v3 _ _ _ hH (lv_sub hl [2] rfl)
    · refine lv_iconst (v := 1) hx hb dX10_unlikeNeeds_17 (by decide) ?_
      refine lv_istore (lv' := [(5, .int 1), (2, .int v2), (0, .ref (ad 0)), (3, .int v3), (4, .int v4)]) hx hb dX10_unlikeNeeds_18 hl (by decide) rfl (fun ls hl => ?_)
      refine lv_iconst (v := 0) hx hb dX10_unlikeNeeds_20 (by decide) ?_
      refine lv_istore (lv' := [(6, .int 0), (5, .int 1), (2, .int v2), (0, .ref (ad 0)), (3, .int v3), (4, .int v4)]) hx hb dX10_unlikeNeeds_21 hl (by decide) rfl (fun ls hl => ?_)
      refine W_lp (fun (x : Int32 × Int32) H locs => KH SM E ad sz M1 s.heap H locs) (fun x ls => lv_has ls 7 [(2, .int v2), (0, .ref (ad 0)), (3, .int v3), (4, .int v4), (5, .int x.1), (6, .int x.2)]) (fun _ ls => F0 m 23 ls []) (fun (x : Int32) H locs => KH SM E ad sz M1 s.heap H locs) (fun x ls => lv_has ls 7 [(2, .int v2), (0, .ref (ad 0)), (3, .int v3), (4, .int v4), (5, .int x)]) (fun _ ls => F0 m 65 ls []) ?_ ?_ hH (lv_sub hl [2, 3, 4, 5, 1, 0] rfl)
      · intro v8 H locs ls hH hl
        have hH : KH SM E ad sz M1 s.heap H locs := hH
        have hl : lv_has ls 7 [(2, .int v2), (0, .ref (ad 0)), (3, .int v3), (4, .int v4), (5, .int v8)] := hl
        refine W_q fX10_unlikeNeeds_X23_u ?_
        refine lv_iload_n hx hb dX10_unlikeNeeds_65 rfl (lv_at hl 2 rfl) ?_
        refine lv_iload hx hb dX10_unlikeNeeds_66 (lv_at hl 4 rfl) ?_
        refine kb_if_eq (tgt := 75) hx hb dX10_unlikeNeeds_68 (by decide) (fun _ => ?_) (fun _ => ?_)
        · refine lv_iconst (v := 0) hx hb dX10_unlikeNeeds_75 (by decide) ?_
          refine lv_iadd hx hb dX10_unlikeNeeds_76 ?_
          refine W_nmi (fun v9 => ?_)
          refine lv_istore_n (lv' := [(3, .int v9), (2, .int v2), (0, .ref (ad 0)), (4, .int v4), (5, .int v8)]) hx hb dX10_unlikeNeeds_77 rfl hl (by decide) rfl (fun ls hl => ?_)
          refine W_nm (fun v10 ev10 => ?_)
          refine lv_iinc (v := v10) (lv' := [(4, .int v10), (3, .int v9), (2, .int v2), (0, .ref (ad 0)), (5, .int v8)]) hx hb dX10_unlikeNeeds_78 hl (k := 3) rfl (by rw [ev10]; rfl) (by decide) rfl (fun ls hl => ?_)
          refine lv_goto (tgt := 11) hx hb dX10_unlikeNeeds_81 (by decide) ?_
          exact hrec11 (v9, v10) _ _ _ hH (lv_sub hl [2, 3, 1, 0] rfl)
        · refine lv_iconst (v := 1) hx hb dX10_unlikeNeeds_71 (by decide) ?_
          refine lv_goto (tgt := 76) hx hb dX10_unlikeNeeds_72 (by decide) ?_
          refine lv_iadd hx hb dX10_unlikeNeeds_76 ?_
          refine W_nmi (fun v11 => ?_)
          refine lv_istore_n (lv' := [(3, .int v11), (2, .int v2), (0, .ref (ad 0)), (4, .int v4), (5, .int v8)]) hx hb dX10_unlikeNeeds_77 rfl hl (by decide) rfl (fun ls hl => ?_)
          refine W_nm (fun v12 ev12 => ?_)
          refine lv_iinc (v := v12) (lv' := [(4, .int v12), (3, .int v11), (2, .int v2), (0, .ref (ad 0)), (5, .int v8)]) hx hb dX10_unlikeNeeds_78 hl (k := 3) rfl (by rw [ev12]; rfl) (by decide) rfl (fun ls hl => ?_)
          refine lv_goto (tgt := 11) hx hb dX10_unlikeNeeds_81 (by decide) ?_
          exact hrec11 (v11, v12) _ _ _ hH (lv_sub hl [2, 3, 1, 0] rfl)
      · intro rec23 k23 hrec23 hk23 ⟨v6, v7⟩ H locs ls hH hl
        have hH : KH SM E ad sz M1 s.heap H locs := hH
        have hl : lv_has ls 7 [(2, .int v2), (0, .ref (ad 0)), (3, .int v3), (4, .int v4), (5, .int v6), (6, .int v7)] := hl
        refine W_q fX10_unlikeNeeds_L23_u ?_
        refine lv_iload hx hb dX10_unlikeNeeds_23 (lv_at hl 5 rfl) ?_
        refine lv_iload hx hb dX10_unlikeNeeds_25 (lv_at hl 3 rfl) ?_
        refine kb_icmp_ge (tgt := 65) hx hb dX10_unlikeNeeds_27 (by decide) (fun _ => ?_) (fun _ => ?_)
        · exact hk23 v6 _ _ _ hH (lv_sub hl [0, 1, 2, 3, 4] rfl)
        · refine lv_iload hx hb dX10_unlikeNeeds_30 (lv_at hl 4 rfl) ?_
          refine kb_if_eq (tgt := 56) hx hb dX10_unlikeNeeds_32 (by decide) (fun _ => ?_) (fun _ => ?_)
          · refine lv_iconst (v := 0) hx hb dX10_unlikeNeeds_56 (by decide) ?_
            refine lv_istore (lv' := [(5, .int 0), (2, .int v2), (0, .ref (ad 0)), (3, .int v3), (4, .int v4), (6, .int v7)]) hx hb dX10_unlikeNeeds_57 hl (by decide) rfl (fun ls hl => ?_)
            refine W_nm (fun v13 ev13 => ?_)
            refine lv_iinc (v := v13) (lv' := [(6, .int v13), (5, .int 0), (2, .int v2), (0, .ref (ad 0)), (3, .int v3), (4, .int v4)]) hx hb dX10_unlikeNeeds_59 hl (k := 5) rfl (by rw [ev13]; rfl) (by decide) rfl (fun ls hl => ?_)
            refine lv_goto (tgt := 23) hx hb dX10_unlikeNeeds_62 (by decide) ?_
            exact hrec23 (0, v13) _ _ _ hH (lv_sub hl [2, 3, 4, 5, 1, 0] rfl)
          · refine lv_aload_n hx hb dX10_unlikeNeeds_35 rfl (lv_at hl 1 rfl) ?_
            refine k_get C hH fd_X10_43 oM (k_ref (M := M1) (ad := ad) rM17) dX10_unlikeNeeds_36 ?_
            refine lv_iload hx hb dX10_unlikeNeeds_39 (lv_at hl 5 rfl) ?_
            refine k_iald C hH aM17 dX10_unlikeNeeds_41 ?_
            refine lv_aload_n hx hb dX10_unlikeNeeds_42 rfl (lv_at hl 1 rfl) ?_
            refine k_get C hH fd_X10_43 oM (k_ref (M := M1) (ad := ad) rM17) dX10_unlikeNeeds_43 ?_
            refine lv_iload hx hb dX10_unlikeNeeds_46 (lv_at hl 3 rfl) ?_
            refine k_iald C hH aM17 dX10_unlikeNeeds_48 ?_
            refine kb_icmp_eq (tgt := 56) hx hb dX10_unlikeNeeds_49 (by decide) (fun _ => ?_) (fun _ => ?_)
            · refine lv_iconst (v := 0) hx hb dX10_unlikeNeeds_56 (by decide) ?_
              refine lv_istore (lv' := [(5, .int 0), (2, .int v2), (0, .ref (ad 0)), (3, .int v3), (4, .int v4), (6, .int v7)]) hx hb dX10_unlikeNeeds_57 hl (by decide) rfl (fun ls hl => ?_)
              refine W_nm (fun v14 ev14 => ?_)
              refine lv_iinc (v := v14) (lv' := [(6, .int v14), (5, .int 0), (2, .int v2), (0, .ref (ad 0)), (3, .int v3), (4, .int v4)]) hx hb dX10_unlikeNeeds_59 hl (k := 5) rfl (by rw [ev14]; rfl) (by decide) rfl (fun ls hl => ?_)
              refine lv_goto (tgt := 23) hx hb dX10_unlikeNeeds_62 (by decide) ?_
              exact hrec23 (0, v14) _ _ _ hH (lv_sub hl [2, 3, 4, 5, 1, 0] rfl)
            · refine lv_iconst (v := 1) hx hb dX10_unlikeNeeds_52 (by decide) ?_
              refine lv_goto (tgt := 57) hx hb dX10_unlikeNeeds_53 (by decide) ?_
              refine lv_istore (lv' := [(5, .int 1), (2, .int v2), (0, .ref (ad 0)), (3, .int v3), (4, .int v4), (6, .int v7)]) hx hb dX10_unlikeNeeds_57 hl (by decide) rfl (fun ls hl => ?_)
              refine W_nm (fun v15 ev15 => ?_)
              refine lv_iinc (v := v15) (lv' := [(6, .int v15), (5, .int 1), (2, .int v2), (0, .ref (ad 0)), (3, .int v3), (4, .int v4)]) hx hb dX10_unlikeNeeds_59 hl (k := 5) rfl (by rw [ev15]; rfl) (by decide) rfl (fun ls hl => ?_)
              refine lv_goto (tgt := 23) hx hb dX10_unlikeNeeds_62 (by decide) ?_
              exact hrec23 (1, v15) _ _ _ hH (lv_sub hl [2, 3, 4, 5, 1, 0] rfl)
def fX10_factOf_J69_47 (a4 : Int32) (M4 : KS) (v5 : Int32) (v6 : Int32) : Option (Int32 × KS) := nm (kset M4 0 6 v6) fun M7 => (if (M7.1 0 6) ≤ 0 then (if a4 = 0 then if inb v5 216 then some ((M7.1 6 v5.toNatClampNeg), M7) else none else (if a4 = 1 then if inb v5 216 then (if (M7.1 6 v5.toNatClampNeg) = 0 then some ((-1), M7) else if inb v5 216 then some ((M7.1 7 v5.toNatClampNeg), M7) else none) else none else (if a4 = 2 then if inb v5 216 then (if (M7.1 6 v5.toNatClampNeg) = 0 then some ((-1), M7) else if inb v5 216 then some ((M7.1 8 v5.toNatClampNeg), M7) else none) else none else (if a4 = 3 then (fX10_deepens M7).bind fun M10 => if inb v5 216 then some ((M10.1 13 v5.toNatClampNeg), M10) else none else (if a4 = 4 then bd2 (fX10_sizeOf M7 v5) fun v12 M11 => some (v12, M11) else bd2 (fX10_unlikeNeeds M7 v5) fun v9 M8 => some (v9, M8)))))) else some (0, M7))
theorem fX10_factOf_J69_47_u {a4 : Int32} {M4 : KS} {v5 : Int32} {v6 : Int32} : fX10_factOf_J69_47 a4 M4 v5 v6 = nm (kset M4 0 6 v6) fun M7 => (if (M7.1 0 6) ≤ 0 then (if a4 = 0 then if inb v5 216 then some ((M7.1 6 v5.toNatClampNeg), M7) else none else (if a4 = 1 then if inb v5 216 then (if (M7.1 6 v5.toNatClampNeg) = 0 then some ((-1), M7) else if inb v5 216 then some ((M7.1 7 v5.toNatClampNeg), M7) else none) else none else (if a4 = 2 then if inb v5 216 then (if (M7.1 6 v5.toNatClampNeg) = 0 then some ((-1), M7) else if inb v5 216 then some ((M7.1 8 v5.toNatClampNeg), M7) else none) else none else (if a4 = 3 then (fX10_deepens M7).bind fun M10 => if inb v5 216 then some ((M10.1 13 v5.toNatClampNeg), M10) else none else (if a4 = 4 then bd2 (fX10_sizeOf M7 v5) fun v12 M11 => some (v12, M11) else bd2 (fX10_unlikeNeeds M7 v5) fun v9 M8 => some (v9, M8)))))) else some (0, M7)) := rfl
def fX10_factOf_J15_7 (M : KS) (a1 : Int32) (a2 : Int32) (a3 : Int32) (a4 : Int32) (v2 : Int32) : Option (Int32 × KS) := nm (kset M 0 6 v2) fun M3 => (if (M3.1 0 6) ≤ 0 then (fX10_derives M3).bind fun M4 => nm ((fX10_fact a1 a2 a3)) fun v5 => if inb v5 216 then jn (fX10_factOf_J69_47 a4 M4 v5) (fun K69_47 => (if 0 ≤ (M4.1 6 v5.toNatClampNeg) then (if (fX10_in a4 0 5) = 0 then K69_47 3 else K69_47 0) else K69_47 2)) else none else some (0, M3))
theorem fX10_factOf_J15_7_u {M : KS} {a1 : Int32} {a2 : Int32} {a3 : Int32} {a4 : Int32} {v2 : Int32} : fX10_factOf_J15_7 M a1 a2 a3 a4 v2 = nm (kset M 0 6 v2) fun M3 => (if (M3.1 0 6) ≤ 0 then (fX10_derives M3).bind fun M4 => nm ((fX10_fact a1 a2 a3)) fun v5 => if inb v5 216 then jn (fX10_factOf_J69_47 a4 M4 v5) (fun K69_47 => (if 0 ≤ (M4.1 6 v5.toNatClampNeg) then (if (fX10_in a4 0 5) = 0 then K69_47 3 else K69_47 0) else K69_47 2)) else none else some (0, M3)) := rfl
def fX10_factOf (M : KS) (a1 : Int32) (a2 : Int32) (a3 : Int32) (a4 : Int32) : Option (Int32 × KS) := (fX10_isFact a1 a2 a3).bind fun v1 => jn (fX10_factOf_J15_7 M a1 a2 a3 a4) (fun K15_7 => (if v1 = 0 then K15_7 1 else K15_7 0))
set_option maxHeartbeats 4000000 in
set_option maxRecDepth 100000 in
theorem kX10_factOf (l : Launch) (E : KE) (ad : Nat → Nat) (M : KS) (a1 : Int32) (a2 : Int32) (a3 : Int32) (a4 : Int32) : CT l yX10_factOf cX10_factOf 6 (some .int) { frames := 7, cells := 0, slots := 0, locals := 170 } SM E ad [.ref (ad 0), .int a1, .int a2, .int a3, .int a4] M (QI SM E ad) (fX10_factOf M a1 a2 a3 a4) := by
  refine CT.ofW (by decide) (Nat.le_of_ble_eq_true rfl) (fun sz p e s m args below meth c C hr hH ls hl => ?_)
  have hx := C.1.1
  have hb := C.1.2.1
  have hl : lv_has ls 6 [(0, .ref (ad 0)), (1, .int a1), (2, .int a2), (3, .int a3), (4, .int a4)] := hl
  unfold fX10_factOf
  refine lv_aload_n hx hb dX10_factOf_0 rfl (lv_at hl 0 rfl) ?_
  refine lv_iload_n hx hb dX10_factOf_1 rfl (lv_at hl 1 rfl) ?_
  refine lv_iload_n hx hb dX10_factOf_2 rfl (lv_at hl 2 rfl) ?_
  refine lv_iload_n hx hb dX10_factOf_3 rfl (lv_at hl 3 rfl) ?_
  refine kg_io C hH (kc_S C hH w_6_90 w_st_yX10_isFact rfl lc_yX10_isFact (kX10_isFact l E ad M a1 a2 a3) (As := [.int a1, .int a2, .int a3]) rfl dX10_factOf_4 rfl hl.1 (Nat.le_of_ble_eq_true rfl) ⟨Nat.le_of_ble_eq_true rfl, Nat.le_of_ble_eq_true rfl⟩ ⟨Nat.le_of_ble_eq_true rfl, Nat.le_of_ble_eq_true rfl⟩) ⟨rfl, rfl⟩ (fun v1 H locs hH => ?_)
  refine W_jn (fun (x : Int32) H locs => KH SM E ad sz M s.heap H locs) (fun x ls => lv_has ls 6 [(0, .ref (ad 0)), (1, .int a1), (2, .int a2), (3, .int a3), (4, .int a4)]) (fun x ls => F0 m 15 ls [.int x, .ref (ad 0)]) ?_ (fun K15_7 hK15_7 => ?_)
  · intro v2 H locs ls hH hl
    have hH : KH SM E ad sz M s.heap H locs := hH
    have hl : lv_has ls 6 [(0, .ref (ad 0)), (1, .int a1), (2, .int a2), (3, .int a3), (4, .int a4)] := hl
    refine W_q fX10_factOf_J15_7_u ?_
    refine k_put1 C hH fd_X10_76 fw_X10_6 oM nM6 rfl rfl dX10_factOf_15 (fun M3 H locs hH => ?_)
    refine lv_aload_n hx hb dX10_factOf_18 rfl (lv_at hl 0 rfl) ?_
    refine k_get C hH fd_X10_76 oM (k_int (M := M3) (ad := ad) nM6) dX10_factOf_19 ?_
    refine kb_if_le (tgt := 27) hx hb dX10_factOf_22 (by decide) (fun _ => ?_) (fun _ => ?_)
    · refine lv_aload_n hx hb dX10_factOf_27 rfl (lv_at hl 0 rfl) ?_
      refine kg_v C hH (kc_V C hH w_6_121 lc_yX10_derives li_yX10_derives oM (kX10_derives l E ad M3) (As := []) rfl dX10_factOf_28 rfl hl.1 (Nat.le_of_ble_eq_true rfl) ⟨Nat.le_of_ble_eq_true rfl, Nat.le_of_ble_eq_true rfl⟩ ⟨Nat.le_of_ble_eq_true rfl, Nat.le_of_ble_eq_true rfl⟩) ⟨rfl, rfl⟩ (fun M4 H locs hH => ?_)
      refine lv_iload_n hx hb dX10_factOf_31 rfl (lv_at hl 1 rfl) ?_
      refine lv_iload_n hx hb dX10_factOf_32 rfl (lv_at hl 2 rfl) ?_
      refine lv_iload_n hx hb dX10_factOf_33 rfl (lv_at hl 3 rfl) ?_
      refine kg_ip C hH (kc_S C hH w_6_106 w_st_yX10_fact rfl lc_yX10_fact (kX10_fact l E ad M4 a1 a2 a3) (As := [.int a1, .int a2, .int a3]) rfl dX10_factOf_34 rfl hl.1 (Nat.le_of_ble_eq_true rfl) ⟨Nat.le_of_ble_eq_true rfl, Nat.le_of_ble_eq_true rfl⟩ ⟨Nat.le_of_ble_eq_true rfl, Nat.le_of_ble_eq_true rfl⟩) ⟨rfl, rfl⟩ (fun H locs hH => ?_)
      refine W_nmi (fun v5 => ?_)
      refine lv_istore (lv' := [(5, .int v5), (0, .ref (ad 0)), (1, .int a1), (2, .int a2), (3, .int a3), (4, .int a4)]) hx hb dX10_factOf_37 hl (by decide) rfl (fun ls hl => ?_)
      refine lv_aload_n hx hb dX10_factOf_39 rfl (lv_at hl 1 rfl) ?_
      refine lv_aload_n hx hb dX10_factOf_40 rfl (lv_at hl 1 rfl) ?_
      refine k_get C hH fd_X10_25 oM (k_ref (M := M4) (ad := ad) rM11) dX10_factOf_41 ?_
      refine lv_iload hx hb dX10_factOf_44 (lv_at hl 0 rfl) ?_
      refine k_iald C hH aM11 dX10_factOf_46 ?_
      refine W_jn (fun (x : Int32) H locs => KH SM E ad sz M4 s.heap H locs) (fun x ls => lv_has ls 6 [(5, .int v5), (0, .ref (ad 0)), (4, .int a4)]) (fun x ls => F0 m 69 ls [.int x, .ref (ad 0)]) ?_ (fun K69_47 hK69_47 => ?_)
      · intro v6 H locs ls hH hl
        have hH : KH SM E ad sz M4 s.heap H locs := hH
        have hl : lv_has ls 6 [(5, .int v5), (0, .ref (ad 0)), (4, .int a4)] := hl
        refine W_q fX10_factOf_J69_47_u ?_
        refine k_put1 C hH fd_X10_76 fw_X10_6 oM nM6 rfl rfl dX10_factOf_69 (fun M7 H locs hH => ?_)
        refine lv_aload_n hx hb dX10_factOf_72 rfl (lv_at hl 1 rfl) ?_
        refine k_get C hH fd_X10_76 oM (k_int (M := M7) (ad := ad) nM6) dX10_factOf_73 ?_
        refine kb_if_le (tgt := 81) hx hb dX10_factOf_76 (by decide) (fun _ => ?_) (fun _ => ?_)
        · refine lv_iload hx hb dX10_factOf_81 (lv_at hl 2 rfl) ?_
          refine W_ite (fun hs0 => ?_) (fun hs0 => ?_)
          · refine lv_tableIn (tgt := 116) hx hb dX10_factOf_83 (by rw [hs0]; decide) (by rw [hs0]; decide) (by rw [hs0]; rfl) (by decide) ?_
            refine lv_aload_n hx hb dX10_factOf_116 rfl (lv_at hl 1 rfl) ?_
            refine k_get C hH fd_X10_25 oM (k_ref (M := M7) (ad := ad) rM11) dX10_factOf_117 ?_
            refine lv_iload hx hb dX10_factOf_120 (lv_at hl 0 rfl) ?_
            refine k_iald C hH aM11 dX10_factOf_122 ?_
            exact ke_i C hH hr (Nat.le_refl _) (Nat.le_refl _) rfl dX10_factOf_123
          · refine W_ite (fun hs1 => ?_) (fun hs1 => ?_)
            · refine lv_tableIn (tgt := 124) hx hb dX10_factOf_83 (by rw [hs1]; decide) (by rw [hs1]; decide) (by rw [hs1]; rfl) (by decide) ?_
              refine lv_aload_n hx hb dX10_factOf_124 rfl (lv_at hl 1 rfl) ?_
              refine k_get C hH fd_X10_25 oM (k_ref (M := M7) (ad := ad) rM11) dX10_factOf_125 ?_
              refine lv_iload hx hb dX10_factOf_128 (lv_at hl 0 rfl) ?_
              refine k_iald C hH aM11 dX10_factOf_130 ?_
              refine kb_if_ne (tgt := 138) hx hb dX10_factOf_131 (by decide) (fun _ => ?_) (fun _ => ?_)
              · refine lv_aload_n hx hb dX10_factOf_138 rfl (lv_at hl 1 rfl) ?_
                refine k_get C hH fd_X10_28 oM (k_ref (M := M7) (ad := ad) rM12) dX10_factOf_139 ?_
                refine lv_iload hx hb dX10_factOf_142 (lv_at hl 0 rfl) ?_
                refine k_iald C hH aM12 dX10_factOf_144 ?_
                exact ke_i C hH hr (Nat.le_refl _) (Nat.le_refl _) rfl dX10_factOf_145
              · refine lv_iconst (v := (-1)) hx hb dX10_factOf_134 (by decide) ?_
                refine lv_goto (tgt := 145) hx hb dX10_factOf_135 (by decide) ?_
                exact ke_i C hH hr (Nat.le_refl _) (Nat.le_refl _) rfl dX10_factOf_145
            · refine W_ite (fun hs2 => ?_) (fun hs2 => ?_)
              · refine lv_tableIn (tgt := 146) hx hb dX10_factOf_83 (by rw [hs2]; decide) (by rw [hs2]; decide) (by rw [hs2]; rfl) (by decide) ?_
                refine lv_aload_n hx hb dX10_factOf_146 rfl (lv_at hl 1 rfl) ?_
                refine k_get C hH fd_X10_25 oM (k_ref (M := M7) (ad := ad) rM11) dX10_factOf_147 ?_
                refine lv_iload hx hb dX10_factOf_150 (lv_at hl 0 rfl) ?_
                refine k_iald C hH aM11 dX10_factOf_152 ?_
                refine kb_if_ne (tgt := 160) hx hb dX10_factOf_153 (by decide) (fun _ => ?_) (fun _ => ?_)
                · refine lv_aload_n hx hb dX10_factOf_160 rfl (lv_at hl 1 rfl) ?_
                  refine k_get C hH fd_X10_31 oM (k_ref (M := M7) (ad := ad) rM13) dX10_factOf_161 ?_
                  refine lv_iload hx hb dX10_factOf_164 (lv_at hl 0 rfl) ?_
                  refine k_iald C hH aM13 dX10_factOf_166 ?_
                  exact ke_i C hH hr (Nat.le_refl _) (Nat.le_refl _) rfl dX10_factOf_167
                · refine lv_iconst (v := (-1)) hx hb dX10_factOf_156 (by decide) ?_
                  refine lv_goto (tgt := 167) hx hb dX10_factOf_157 (by decide) ?_
                  exact ke_i C hH hr (Nat.le_refl _) (Nat.le_refl _) rfl dX10_factOf_167
              · refine W_ite (fun hs3 => ?_) (fun hs3 => ?_)
                · refine lv_tableIn (tgt := 168) hx hb dX10_factOf_83 (by rw [hs3]; decide) (by rw [hs3]; decide) (by rw [hs3]; rfl) (by decide) ?_
                  refine lv_aload_n hx hb dX10_factOf_168 rfl (lv_at hl 1 rfl) ?_
                  refine kg_v C hH (kc_V C hH w_6_206 lc_yX10_deepens li_yX10_deepens oM (kX10_deepens l E ad M7) (As := []) rfl dX10_factOf_169 rfl hl.1 (Nat.le_of_ble_eq_true rfl) ⟨Nat.le_of_ble_eq_true rfl, Nat.le_of_ble_eq_true rfl⟩ ⟨Nat.le_of_ble_eq_true rfl, Nat.le_of_ble_eq_true rfl⟩) ⟨rfl, rfl⟩ (fun M10 H locs hH => ?_)
                  refine lv_aload_n hx hb dX10_factOf_172 rfl (lv_at hl 1 rfl) ?_
                  refine k_get C hH fd_X10_46 oM (k_ref (M := M10) (ad := ad) rM18) dX10_factOf_173 ?_
                  refine lv_iload hx hb dX10_factOf_176 (lv_at hl 0 rfl) ?_
                  refine k_iald C hH aM18 dX10_factOf_178 ?_
                  exact ke_i C hH hr (Nat.le_refl _) (Nat.le_refl _) rfl dX10_factOf_179
                · refine W_ite (fun hs4 => ?_) (fun hs4 => ?_)
                  · refine lv_tableIn (tgt := 180) hx hb dX10_factOf_83 (by rw [hs4]; decide) (by rw [hs4]; decide) (by rw [hs4]; rfl) (by decide) ?_
                    refine lv_aload_n hx hb dX10_factOf_180 rfl (lv_at hl 1 rfl) ?_
                    refine lv_iload hx hb dX10_factOf_181 (lv_at hl 0 rfl) ?_
                    refine kg_ib C hH (kc_V C hH w_6_214 lc_yX10_sizeOf li_yX10_sizeOf oM (kX10_sizeOf l E ad M7 v5) (As := [.int v5]) rfl dX10_factOf_183 rfl hl.1 (Nat.le_of_ble_eq_true rfl) ⟨Nat.le_of_ble_eq_true rfl, Nat.le_of_ble_eq_true rfl⟩ ⟨Nat.le_of_ble_eq_true rfl, Nat.le_of_ble_eq_true rfl⟩) ⟨rfl, rfl⟩ (fun v12 M11 H locs hH => ?_)
                    exact ke_i C hH hr (Nat.le_refl _) (Nat.le_refl _) rfl dX10_factOf_186
                  · refine lv_tableOut (tgt := 187) hx hb dX10_factOf_83 (k_tab5 hs0 hs1 hs2 hs3 hs4) (by decide) ?_
                    refine lv_aload_n hx hb dX10_factOf_187 rfl (lv_at hl 1 rfl) ?_
                    refine lv_iload hx hb dX10_factOf_188 (lv_at hl 0 rfl) ?_
                    refine kg_ib C hH (kc_V C hH w_6_218 lc_yX10_unlikeNeeds li_yX10_unlikeNeeds oM (kX10_unlikeNeeds l E ad M7 v5) (As := [.int v5]) rfl dX10_factOf_190 rfl hl.1 (Nat.le_of_ble_eq_true rfl) ⟨Nat.le_of_ble_eq_true rfl, Nat.le_of_ble_eq_true rfl⟩ ⟨Nat.le_of_ble_eq_true rfl, Nat.le_of_ble_eq_true rfl⟩) ⟨rfl, rfl⟩ (fun v9 M8 H locs hH => ?_)
                    exact ke_i C hH hr (Nat.le_refl _) (Nat.le_refl _) rfl dX10_factOf_193
        · refine lv_iconst (v := 0) hx hb dX10_factOf_79 (by decide) ?_
          exact ke_i C hH hr (Nat.le_refl _) (Nat.le_refl _) rfl dX10_factOf_80
      · refine kb_if_ge (tgt := 54) hx hb dX10_factOf_47 (by decide) (fun _ => ?_) (fun _ => ?_)
        · refine lv_iload hx hb dX10_factOf_54 (lv_at hl 5 rfl) ?_
          refine lv_iconst (v := 0) hx hb dX10_factOf_56 (by decide) ?_
          refine lv_iconst (v := 5) hx hb dX10_factOf_57 (by decide) ?_
          refine kg_ip C hH (kc_S C hH w_6_96 w_st_yX10_in rfl lc_yX10_in (kX10_in l E ad M4 a4 0 5) (As := [.int a4, .int 0, .int 5]) rfl dX10_factOf_58 rfl hl.1 (Nat.le_of_ble_eq_true rfl) ⟨Nat.le_of_ble_eq_true rfl, Nat.le_of_ble_eq_true rfl⟩ ⟨Nat.le_of_ble_eq_true rfl, Nat.le_of_ble_eq_true rfl⟩) ⟨rfl, rfl⟩ (fun H locs hH => ?_)
          refine kb_if_ne (tgt := 68) hx hb dX10_factOf_61 (by decide) (fun _ => ?_) (fun _ => ?_)
          · refine lv_iconst (v := 0) hx hb dX10_factOf_68 (by decide) ?_
            exact hK69_47 0 _ _ _ hH (lv_sub hl [0, 1, 5] rfl)
          · refine lv_iconst (v := 3) hx hb dX10_factOf_64 (by decide) ?_
            refine lv_goto (tgt := 69) hx hb dX10_factOf_65 (by decide) ?_
            exact hK69_47 3 _ _ _ hH (lv_sub hl [0, 1, 5] rfl)
        · refine lv_iconst (v := 2) hx hb dX10_factOf_50 (by decide) ?_
          refine lv_goto (tgt := 69) hx hb dX10_factOf_51 (by decide) ?_
          exact hK69_47 2 _ _ _ hH (lv_sub hl [0, 1, 5] rfl)
    · refine lv_iconst (v := 0) hx hb dX10_factOf_25 (by decide) ?_
      exact ke_i C hH hr (Nat.le_refl _) (Nat.le_refl _) rfl dX10_factOf_26
  · refine kb_if_eq (tgt := 14) hx hb dX10_factOf_7 (by decide) (fun _ => ?_) (fun _ => ?_)
    · refine lv_iconst (v := 1) hx hb dX10_factOf_14 (by decide) ?_
      exact hK15_7 1 _ _ _ hH (lv_sub hl [0, 1, 2, 3, 4] rfl)
    · refine lv_iconst (v := 0) hx hb dX10_factOf_10 (by decide) ?_
      refine lv_goto (tgt := 15) hx hb dX10_factOf_11 (by decide) ?_
      exact hK15_7 0 _ _ _ hH (lv_sub hl [0, 1, 2, 3, 4] rfl)
def fX10_waysBy_X23 (x : Int32 × KS) : Option (Int32 × KS) := match x with | (v6, M7) => some (v6, M7)
theorem fX10_waysBy_X23_u {v6 : Int32} {M7 : KS} : fX10_waysBy_X23 (v6, M7) = some (v6, M7) := rfl
def fX10_waysBy_L23 (a1 : Int32) (a2 : Int32) (a3 : Int32) (v2 : Int32) (rec23 : (Int32 × Int32 × KS) → Option (Int32 × KS)) (k23 : (Int32 × KS) → Option (Int32 × KS)) (x : Int32 × Int32 × KS) : Option (Int32 × KS) := match x with | (v3, v4, M5) => (if v2 ≤ v4 then k23 (v3, M5) else bd2 (fX10_makes M5 a1 a2 a3 v4) fun v9 M8 => (if v9 = 0 then nm ((v3 + 0)) fun v10 => nm (v4 + 1) fun v11 => rec23 (v10, v11, M8) else nm ((v3 + 1)) fun v12 => nm (v4 + 1) fun v13 => rec23 (v12, v13, M8)))
theorem fX10_waysBy_L23_u {a1 : Int32} {a2 : Int32} {a3 : Int32} {v2 : Int32} {rec23 : (Int32 × Int32 × KS) → Option (Int32 × KS)} {k23 : (Int32 × KS) → Option (Int32 × KS)} {v3 : Int32} {v4 : Int32} {M5 : KS} : fX10_waysBy_L23 a1 a2 a3 v2 rec23 k23 (v3, v4, M5) = (if v2 ≤ v4 then k23 (v3, M5) else bd2 (fX10_makes M5 a1 a2 a3 v4) fun v9 M8 => (if v9 = 0 then nm ((v3 + 0)) fun v10 => nm (v4 + 1) fun v11 => rec23 (v10, v11, M8) else nm ((v3 + 1)) fun v12 => nm (v4 + 1) fun v13 => rec23 (v12, v13, M8))) := rfl
def fX10_waysBy_J18_9 (M : KS) (a1 : Int32) (a2 : Int32) (a3 : Int32) (v2 : Int32) : Option (Int32 × KS) := lp (fX10_waysBy_L23 a1 a2 a3 v2) (fX10_waysBy_X23) 1000000 (0, 0, M)
theorem fX10_waysBy_J18_9_u {M : KS} {a1 : Int32} {a2 : Int32} {a3 : Int32} {v2 : Int32} : fX10_waysBy_J18_9 M a1 a2 a3 v2 = lp (fX10_waysBy_L23 a1 a2 a3 v2) (fX10_waysBy_X23) 1000000 (0, 0, M) := rfl
def fX10_waysBy (M : KS) (a1 : Int32) (a2 : Int32) (a3 : Int32) : Option (Int32 × KS) := (fX10_ruleHas M a1 2).bind fun v1 => jn (fX10_waysBy_J18_9 M a1 a2 a3) (fun K18_9 => (if v1 = 0 then K18_9 1 else K18_9 6))
set_option maxHeartbeats 4000000 in
set_option maxRecDepth 100000 in
theorem kX10_waysBy (l : Launch) (E : KE) (ad : Nat → Nat) (M : KS) (a1 : Int32) (a2 : Int32) (a3 : Int32) : CT l yX10_waysBy cX10_waysBy 7 (some .int) { frames := 4, cells := 0, slots := 0, locals := 94 } SM E ad [.ref (ad 0), .int a1, .int a2, .int a3] M (QI SM E ad) (fX10_waysBy M a1 a2 a3) := by
  refine CT.ofW (by decide) (Nat.le_of_ble_eq_true rfl) (fun sz p e s m args below meth c C hr hH ls hl => ?_)
  have hx := C.1.1
  have hb := C.1.2.1
  have hl : lv_has ls 7 [(0, .ref (ad 0)), (1, .int a1), (2, .int a2), (3, .int a3)] := hl
  unfold fX10_waysBy
  refine lv_iconst (v := 0) hx hb dX10_waysBy_0 (by decide) ?_
  refine lv_istore (lv' := [(4, .int 0), (0, .ref (ad 0)), (1, .int a1), (2, .int a2), (3, .int a3)]) hx hb dX10_waysBy_1 hl (by decide) rfl (fun ls hl => ?_)
  refine lv_aload_n hx hb dX10_waysBy_3 rfl (lv_at hl 1 rfl) ?_
  refine lv_iload_n hx hb dX10_waysBy_4 rfl (lv_at hl 2 rfl) ?_
  refine lv_iconst (v := 2) hx hb dX10_waysBy_5 (by decide) ?_
  refine kg_io C hH (kc_V C hH w_6_160 lc_yX10_ruleHas li_yX10_ruleHas oM (kX10_ruleHas l E ad M a1 2) (As := [.int a1, .int 2]) rfl dX10_waysBy_6 rfl hl.1 (Nat.le_of_ble_eq_true rfl) ⟨Nat.le_of_ble_eq_true rfl, Nat.le_of_ble_eq_true rfl⟩ ⟨Nat.le_of_ble_eq_true rfl, Nat.le_of_ble_eq_true rfl⟩) ⟨rfl, rfl⟩ (fun v1 H locs hH => ?_)
  refine W_jn (fun (x : Int32) H locs => KH SM E ad sz M s.heap H locs) (fun x ls => lv_has ls 7 [(4, .int 0), (0, .ref (ad 0)), (1, .int a1), (2, .int a2), (3, .int a3)]) (fun x ls => F0 m 18 ls [.int x]) ?_ (fun K18_9 hK18_9 => ?_)
  · intro v2 H locs ls hH hl
    have hH : KH SM E ad sz M s.heap H locs := hH
    have hl : lv_has ls 7 [(4, .int 0), (0, .ref (ad 0)), (1, .int a1), (2, .int a2), (3, .int a3)] := hl
    refine W_q fX10_waysBy_J18_9_u ?_
    refine lv_istore (lv' := [(5, .int v2), (4, .int 0), (0, .ref (ad 0)), (1, .int a1), (2, .int a2), (3, .int a3)]) hx hb dX10_waysBy_18 hl (by decide) rfl (fun ls hl => ?_)
    refine lv_iconst (v := 0) hx hb dX10_waysBy_20 (by decide) ?_
    refine lv_istore (lv' := [(6, .int 0), (5, .int v2), (4, .int 0), (0, .ref (ad 0)), (1, .int a1), (2, .int a2), (3, .int a3)]) hx hb dX10_waysBy_21 hl (by decide) rfl (fun ls hl => ?_)
    refine W_lp (fun (x : Int32 × Int32 × KS) H locs => KH SM E ad sz x.2.2 s.heap H locs) (fun x ls => lv_has ls 7 [(5, .int v2), (0, .ref (ad 0)), (1, .int a1), (2, .int a2), (3, .int a3), (4, .int x.1), (6, .int x.2.1)]) (fun _ ls => F0 m 23 ls []) (fun (x : Int32 × KS) H locs => KH SM E ad sz x.2 s.heap H locs) (fun x ls => lv_has ls 7 [(4, .int x.1)]) (fun _ ls => F0 m 58 ls []) ?_ ?_ hH (lv_sub hl [1, 3, 4, 5, 6, 2, 0] rfl)
    · intro ⟨v6, M7⟩ H locs ls hH hl
      have hH : KH SM E ad sz M7 s.heap H locs := hH
      have hl : lv_has ls 7 [(4, .int v6)] := hl
      refine W_q fX10_waysBy_X23_u ?_
      refine lv_iload hx hb dX10_waysBy_58 (lv_at hl 0 rfl) ?_
      exact ke_i C hH hr (Nat.le_refl _) (Nat.le_refl _) rfl dX10_waysBy_60
    · intro rec23 k23 hrec23 hk23 ⟨v3, v4, M5⟩ H locs ls hH hl
      have hH : KH SM E ad sz M5 s.heap H locs := hH
      have hl : lv_has ls 7 [(5, .int v2), (0, .ref (ad 0)), (1, .int a1), (2, .int a2), (3, .int a3), (4, .int v3), (6, .int v4)] := hl
      refine W_q fX10_waysBy_L23_u ?_
      refine lv_iload hx hb dX10_waysBy_23 (lv_at hl 6 rfl) ?_
      refine lv_iload hx hb dX10_waysBy_25 (lv_at hl 0 rfl) ?_
      refine kb_icmp_ge (tgt := 58) hx hb dX10_waysBy_27 (by decide) (fun _ => ?_) (fun _ => ?_)
      · exact hk23 (v3, M5) _ _ _ hH (lv_sub hl [5] rfl)
      · refine lv_iload hx hb dX10_waysBy_30 (lv_at hl 5 rfl) ?_
        refine lv_aload_n hx hb dX10_waysBy_32 rfl (lv_at hl 1 rfl) ?_
        refine lv_iload_n hx hb dX10_waysBy_33 rfl (lv_at hl 2 rfl) ?_
        refine lv_iload_n hx hb dX10_waysBy_34 rfl (lv_at hl 3 rfl) ?_
        refine lv_iload_n hx hb dX10_waysBy_35 rfl (lv_at hl 4 rfl) ?_
        refine lv_iload hx hb dX10_waysBy_36 (lv_at hl 6 rfl) ?_
        refine kg_ib C hH (kc_V C hH w_6_170 lc_yX10_makes li_yX10_makes oM (kX10_makes l E ad M5 a1 a2 a3 v4) (As := [.int a1, .int a2, .int a3, .int v4]) rfl dX10_waysBy_38 rfl hl.1 (Nat.le_of_ble_eq_true rfl) ⟨Nat.le_of_ble_eq_true rfl, Nat.le_of_ble_eq_true rfl⟩ ⟨Nat.le_of_ble_eq_true rfl, Nat.le_of_ble_eq_true rfl⟩) ⟨rfl, rfl⟩ (fun v9 M8 H locs hH => ?_)
        refine kb_if_eq (tgt := 48) hx hb dX10_waysBy_41 (by decide) (fun _ => ?_) (fun _ => ?_)
        · refine lv_iconst (v := 0) hx hb dX10_waysBy_48 (by decide) ?_
          refine lv_iadd hx hb dX10_waysBy_49 ?_
          refine W_nmi (fun v10 => ?_)
          refine lv_istore (lv' := [(4, .int v10), (5, .int v2), (0, .ref (ad 0)), (1, .int a1), (2, .int a2), (3, .int a3), (6, .int v4)]) hx hb dX10_waysBy_50 hl (by decide) rfl (fun ls hl => ?_)
          refine W_nm (fun v11 ev11 => ?_)
          refine lv_iinc (v := v11) (lv' := [(6, .int v11), (4, .int v10), (5, .int v2), (0, .ref (ad 0)), (1, .int a1), (2, .int a2), (3, .int a3)]) hx hb dX10_waysBy_52 hl (k := 6) rfl (by rw [ev11]; rfl) (by decide) rfl (fun ls hl => ?_)
          refine lv_goto (tgt := 23) hx hb dX10_waysBy_55 (by decide) ?_
          exact hrec23 (v10, v11, M8) _ _ _ hH (lv_sub hl [2, 3, 4, 5, 6, 1, 0] rfl)
        · refine lv_iconst (v := 1) hx hb dX10_waysBy_44 (by decide) ?_
          refine lv_goto (tgt := 49) hx hb dX10_waysBy_45 (by decide) ?_
          refine lv_iadd hx hb dX10_waysBy_49 ?_
          refine W_nmi (fun v12 => ?_)
          refine lv_istore (lv' := [(4, .int v12), (5, .int v2), (0, .ref (ad 0)), (1, .int a1), (2, .int a2), (3, .int a3), (6, .int v4)]) hx hb dX10_waysBy_50 hl (by decide) rfl (fun ls hl => ?_)
          refine W_nm (fun v13 ev13 => ?_)
          refine lv_iinc (v := v13) (lv' := [(6, .int v13), (4, .int v12), (5, .int v2), (0, .ref (ad 0)), (1, .int a1), (2, .int a2), (3, .int a3)]) hx hb dX10_waysBy_52 hl (k := 6) rfl (by rw [ev13]; rfl) (by decide) rfl (fun ls hl => ?_)
          refine lv_goto (tgt := 23) hx hb dX10_waysBy_55 (by decide) ?_
          exact hrec23 (v12, v13, M8) _ _ _ hH (lv_sub hl [2, 3, 4, 5, 6, 1, 0] rfl)
  · refine kb_if_eq (tgt := 17) hx hb dX10_waysBy_9 (by decide) (fun _ => ?_) (fun _ => ?_)
    · refine lv_iconst (v := 1) hx hb dX10_waysBy_17 (by decide) ?_
      exact hK18_9 1 _ _ _ hH (lv_sub hl [0, 1, 2, 3, 4] rfl)
    · refine lv_bipush (v := 6) hx hb dX10_waysBy_12 (by decide) ?_
      refine lv_goto (tgt := 18) hx hb dX10_waysBy_14 (by decide) ?_
      exact hK18_9 6 _ _ _ hH (lv_sub hl [0, 1, 2, 3, 4] rfl)
def fX10_ways_X37 (x : Int32 × KS) : Option (Int32 × KS) := match x with | (v8, M9) => some (v8, M9)
theorem fX10_ways_X37_u {v8 : Int32} {M9 : KS} : fX10_ways_X37 (v8, M9) = some (v8, M9) := rfl
def fX10_ways_L37 (a1 : Int32) (a2 : Int32) (a3 : Int32) (rec37 : (Int32 × Int32 × KS) → Option (Int32 × KS)) (k37 : (Int32 × KS) → Option (Int32 × KS)) (x : Int32 × Int32 × KS) : Option (Int32 × KS) := match x with | (v5, v6, M7) => if inb 216 257 then (if (M7.1 1 (216 : Int32).toNatClampNeg) ≤ v6 then k37 (v5, M7) else (fX10_head M7 v6).bind fun v10 => (if v10 = a1 then bd2 (fX10_waysBy M7 v6 a2 a3) fun v14 M13 => nm ((v5 + v14)) fun v15 => nm (v6 + 1) fun v16 => rec37 (v15, v16, M13) else nm ((v5 + 0)) fun v11 => nm (v6 + 1) fun v12 => rec37 (v11, v12, M7))) else none
theorem fX10_ways_L37_u {a1 : Int32} {a2 : Int32} {a3 : Int32} {rec37 : (Int32 × Int32 × KS) → Option (Int32 × KS)} {k37 : (Int32 × KS) → Option (Int32 × KS)} {v5 : Int32} {v6 : Int32} {M7 : KS} : fX10_ways_L37 a1 a2 a3 rec37 k37 (v5, v6, M7) = if inb 216 257 then (if (M7.1 1 (216 : Int32).toNatClampNeg) ≤ v6 then k37 (v5, M7) else (fX10_head M7 v6).bind fun v10 => (if v10 = a1 then bd2 (fX10_waysBy M7 v6 a2 a3) fun v14 M13 => nm ((v5 + v14)) fun v15 => nm (v6 + 1) fun v16 => rec37 (v15, v16, M13) else nm ((v5 + 0)) fun v11 => nm (v6 + 1) fun v12 => rec37 (v11, v12, M7))) else none := rfl
def fX10_ways_J15_7 (M : KS) (a1 : Int32) (a2 : Int32) (a3 : Int32) (v2 : Int32) : Option (Int32 × KS) := nm (kset M 0 6 v2) fun M3 => (if (M3.1 0 6) ≤ 0 then (fX10_derives M3).bind fun M4 => lp (fX10_ways_L37 a1 a2 a3) (fX10_ways_X37) 1000000 (0, 0, M4) else some (0, M3))
theorem fX10_ways_J15_7_u {M : KS} {a1 : Int32} {a2 : Int32} {a3 : Int32} {v2 : Int32} : fX10_ways_J15_7 M a1 a2 a3 v2 = nm (kset M 0 6 v2) fun M3 => (if (M3.1 0 6) ≤ 0 then (fX10_derives M3).bind fun M4 => lp (fX10_ways_L37 a1 a2 a3) (fX10_ways_X37) 1000000 (0, 0, M4) else some (0, M3)) := rfl
def fX10_ways (M : KS) (a1 : Int32) (a2 : Int32) (a3 : Int32) : Option (Int32 × KS) := (fX10_isFact a1 a2 a3).bind fun v1 => jn (fX10_ways_J15_7 M a1 a2 a3) (fun K15_7 => (if v1 = 0 then K15_7 1 else K15_7 0))
set_option maxHeartbeats 4000000 in
set_option maxRecDepth 100000 in
theorem kX10_ways (l : Launch) (E : KE) (ad : Nat → Nat) (M : KS) (a1 : Int32) (a2 : Int32) (a3 : Int32) : CT l yX10_ways cX10_ways 6 (some .int) { frames := 7, cells := 0, slots := 0, locals := 170 } SM E ad [.ref (ad 0), .int a1, .int a2, .int a3] M (QI SM E ad) (fX10_ways M a1 a2 a3) := by
  refine CT.ofW (by decide) (Nat.le_of_ble_eq_true rfl) (fun sz p e s m args below meth c C hr hH ls hl => ?_)
  have hx := C.1.1
  have hb := C.1.2.1
  have hl : lv_has ls 6 [(0, .ref (ad 0)), (1, .int a1), (2, .int a2), (3, .int a3)] := hl
  unfold fX10_ways
  refine lv_aload_n hx hb dX10_ways_0 rfl (lv_at hl 0 rfl) ?_
  refine lv_iload_n hx hb dX10_ways_1 rfl (lv_at hl 1 rfl) ?_
  refine lv_iload_n hx hb dX10_ways_2 rfl (lv_at hl 2 rfl) ?_
  refine lv_iload_n hx hb dX10_ways_3 rfl (lv_at hl 3 rfl) ?_
  refine kg_io C hH (kc_S C hH w_6_90 w_st_yX10_isFact rfl lc_yX10_isFact (kX10_isFact l E ad M a1 a2 a3) (As := [.int a1, .int a2, .int a3]) rfl dX10_ways_4 rfl hl.1 (Nat.le_of_ble_eq_true rfl) ⟨Nat.le_of_ble_eq_true rfl, Nat.le_of_ble_eq_true rfl⟩ ⟨Nat.le_of_ble_eq_true rfl, Nat.le_of_ble_eq_true rfl⟩) ⟨rfl, rfl⟩ (fun v1 H locs hH => ?_)
  refine W_jn (fun (x : Int32) H locs => KH SM E ad sz M s.heap H locs) (fun x ls => lv_has ls 6 [(0, .ref (ad 0)), (1, .int a1), (2, .int a2), (3, .int a3)]) (fun x ls => F0 m 15 ls [.int x, .ref (ad 0)]) ?_ (fun K15_7 hK15_7 => ?_)
  · intro v2 H locs ls hH hl
    have hH : KH SM E ad sz M s.heap H locs := hH
    have hl : lv_has ls 6 [(0, .ref (ad 0)), (1, .int a1), (2, .int a2), (3, .int a3)] := hl
    refine W_q fX10_ways_J15_7_u ?_
    refine k_put1 C hH fd_X10_76 fw_X10_6 oM nM6 rfl rfl dX10_ways_15 (fun M3 H locs hH => ?_)
    refine lv_aload_n hx hb dX10_ways_18 rfl (lv_at hl 0 rfl) ?_
    refine k_get C hH fd_X10_76 oM (k_int (M := M3) (ad := ad) nM6) dX10_ways_19 ?_
    refine kb_if_le (tgt := 27) hx hb dX10_ways_22 (by decide) (fun _ => ?_) (fun _ => ?_)
    · refine lv_aload_n hx hb dX10_ways_27 rfl (lv_at hl 0 rfl) ?_
      refine kg_v C hH (kc_V C hH w_6_121 lc_yX10_derives li_yX10_derives oM (kX10_derives l E ad M3) (As := []) rfl dX10_ways_28 rfl hl.1 (Nat.le_of_ble_eq_true rfl) ⟨Nat.le_of_ble_eq_true rfl, Nat.le_of_ble_eq_true rfl⟩ ⟨Nat.le_of_ble_eq_true rfl, Nat.le_of_ble_eq_true rfl⟩) ⟨rfl, rfl⟩ (fun M4 H locs hH => ?_)
      refine lv_iconst (v := 0) hx hb dX10_ways_31 (by decide) ?_
      refine lv_istore (lv' := [(4, .int 0), (0, .ref (ad 0)), (1, .int a1), (2, .int a2), (3, .int a3)]) hx hb dX10_ways_32 hl (by decide) rfl (fun ls hl => ?_)
      refine lv_iconst (v := 0) hx hb dX10_ways_34 (by decide) ?_
      refine lv_istore (lv' := [(5, .int 0), (4, .int 0), (0, .ref (ad 0)), (1, .int a1), (2, .int a2), (3, .int a3)]) hx hb dX10_ways_35 hl (by decide) rfl (fun ls hl => ?_)
      refine W_lp (fun (x : Int32 × Int32 × KS) H locs => KH SM E ad sz x.2.2 s.heap H locs) (fun x ls => lv_has ls 6 [(0, .ref (ad 0)), (1, .int a1), (2, .int a2), (3, .int a3), (4, .int x.1), (5, .int x.2.1)]) (fun _ ls => F0 m 37 ls []) (fun (x : Int32 × KS) H locs => KH SM E ad sz x.2 s.heap H locs) (fun x ls => lv_has ls 6 [(4, .int x.1)]) (fun _ ls => F0 m 83 ls []) ?_ ?_ hH (lv_sub hl [2, 3, 4, 5, 1, 0] rfl)
      · intro ⟨v8, M9⟩ H locs ls hH hl
        have hH : KH SM E ad sz M9 s.heap H locs := hH
        have hl : lv_has ls 6 [(4, .int v8)] := hl
        refine W_q fX10_ways_X37_u ?_
        refine lv_iload hx hb dX10_ways_83 (lv_at hl 0 rfl) ?_
        exact ke_i C hH hr (Nat.le_refl _) (Nat.le_refl _) rfl dX10_ways_85
      · intro rec37 k37 hrec37 hk37 ⟨v5, v6, M7⟩ H locs ls hH hl
        have hH : KH SM E ad sz M7 s.heap H locs := hH
        have hl : lv_has ls 6 [(0, .ref (ad 0)), (1, .int a1), (2, .int a2), (3, .int a3), (4, .int v5), (5, .int v6)] := hl
        refine W_q fX10_ways_L37_u ?_
        refine lv_iload hx hb dX10_ways_37 (lv_at hl 5 rfl) ?_
        refine lv_aload_n hx hb dX10_ways_39 rfl (lv_at hl 0 rfl) ?_
        refine k_get C hH fd_X10_9 oM (k_ref (M := M7) (ad := ad) rM0) dX10_ways_40 ?_
        refine lv_sipush (v := 216) hx hb dX10_ways_43 (by decide) ?_
        refine k_iald C hH aM0 dX10_ways_46 ?_
        refine kb_icmp_ge (tgt := 83) hx hb dX10_ways_47 (by decide) (fun _ => ?_) (fun _ => ?_)
        · exact hk37 (v5, M7) _ _ _ hH (lv_sub hl [4] rfl)
        · refine lv_iload hx hb dX10_ways_50 (lv_at hl 4 rfl) ?_
          refine lv_aload_n hx hb dX10_ways_52 rfl (lv_at hl 0 rfl) ?_
          refine lv_iload hx hb dX10_ways_53 (lv_at hl 5 rfl) ?_
          refine kg_io C hH (kc_V C hH w_6_143 lc_yX10_head li_yX10_head oM (kX10_head l E ad M7 v6) (As := [.int v6]) rfl dX10_ways_55 rfl hl.1 (Nat.le_of_ble_eq_true rfl) ⟨Nat.le_of_ble_eq_true rfl, Nat.le_of_ble_eq_true rfl⟩ ⟨Nat.le_of_ble_eq_true rfl, Nat.le_of_ble_eq_true rfl⟩) ⟨rfl, rfl⟩ (fun v10 H locs hH => ?_)
          refine lv_iload_n hx hb dX10_ways_58 rfl (lv_at hl 1 rfl) ?_
          refine kb_icmp_ne (tgt := 73) hx hb dX10_ways_59 (by decide) (fun _ => ?_) (fun _ => ?_)
          · refine lv_iconst (v := 0) hx hb dX10_ways_73 (by decide) ?_
            refine lv_iadd hx hb dX10_ways_74 ?_
            refine W_nmi (fun v11 => ?_)
            refine lv_istore (lv' := [(4, .int v11), (0, .ref (ad 0)), (1, .int a1), (2, .int a2), (3, .int a3), (5, .int v6)]) hx hb dX10_ways_75 hl (by decide) rfl (fun ls hl => ?_)
            refine W_nm (fun v12 ev12 => ?_)
            refine lv_iinc (v := v12) (lv' := [(5, .int v12), (4, .int v11), (0, .ref (ad 0)), (1, .int a1), (2, .int a2), (3, .int a3)]) hx hb dX10_ways_77 hl (k := 5) rfl (by rw [ev12]; rfl) (by decide) rfl (fun ls hl => ?_)
            refine lv_goto (tgt := 37) hx hb dX10_ways_80 (by decide) ?_
            exact hrec37 (v11, v12, M7) _ _ _ hH (lv_sub hl [2, 3, 4, 5, 1, 0] rfl)
          · refine lv_aload_n hx hb dX10_ways_62 rfl (lv_at hl 0 rfl) ?_
            refine lv_iload hx hb dX10_ways_63 (lv_at hl 5 rfl) ?_
            refine lv_iload_n hx hb dX10_ways_65 rfl (lv_at hl 2 rfl) ?_
            refine lv_iload_n hx hb dX10_ways_66 rfl (lv_at hl 3 rfl) ?_
            refine kg_ib C hH (kc_V C hH w_6_226 lc_yX10_waysBy li_yX10_waysBy oM (kX10_waysBy l E ad M7 v6 a2 a3) (As := [.int v6, .int a2, .int a3]) rfl dX10_ways_67 rfl hl.1 (Nat.le_of_ble_eq_true rfl) ⟨Nat.le_of_ble_eq_true rfl, Nat.le_of_ble_eq_true rfl⟩ ⟨Nat.le_of_ble_eq_true rfl, Nat.le_of_ble_eq_true rfl⟩) ⟨rfl, rfl⟩ (fun v14 M13 H locs hH => ?_)
            refine lv_goto (tgt := 74) hx hb dX10_ways_70 (by decide) ?_
            refine lv_iadd hx hb dX10_ways_74 ?_
            refine W_nmi (fun v15 => ?_)
            refine lv_istore (lv' := [(4, .int v15), (0, .ref (ad 0)), (1, .int a1), (2, .int a2), (3, .int a3), (5, .int v6)]) hx hb dX10_ways_75 hl (by decide) rfl (fun ls hl => ?_)
            refine W_nm (fun v16 ev16 => ?_)
            refine lv_iinc (v := v16) (lv' := [(5, .int v16), (4, .int v15), (0, .ref (ad 0)), (1, .int a1), (2, .int a2), (3, .int a3)]) hx hb dX10_ways_77 hl (k := 5) rfl (by rw [ev16]; rfl) (by decide) rfl (fun ls hl => ?_)
            refine lv_goto (tgt := 37) hx hb dX10_ways_80 (by decide) ?_
            exact hrec37 (v15, v16, M13) _ _ _ hH (lv_sub hl [2, 3, 4, 5, 1, 0] rfl)
    · refine lv_iconst (v := 0) hx hb dX10_ways_25 (by decide) ?_
      exact ke_i C hH hr (Nat.le_refl _) (Nat.le_refl _) rfl dX10_ways_26
  · refine kb_if_eq (tgt := 14) hx hb dX10_ways_7 (by decide) (fun _ => ?_) (fun _ => ?_)
    · refine lv_iconst (v := 1) hx hb dX10_ways_14 (by decide) ?_
      exact hK15_7 1 _ _ _ hH (lv_sub hl [0, 1, 2, 3] rfl)
    · refine lv_iconst (v := 0) hx hb dX10_ways_10 (by decide) ?_
      refine lv_goto (tgt := 15) hx hb dX10_ways_11 (by decide) ?_
      exact hK15_7 0 _ _ _ hH (lv_sub hl [0, 1, 2, 3] rfl)
def fX10_would_J15_7 (M : KS) (a1 : Int32) (a2 : Int32) (a3 : Int32) (v2 : Int32) : Option (Int32 × KS) := nm (kset M 0 6 v2) fun M3 => (if (M3.1 0 6) ≤ 0 then nm ((0 + (fX10_fact a1 a2 a3))) fun v4 => bd2 (fX10_allHolding M3) fun v6 M5 => if inb v4 257 then if inb v4 257 then nm (kset M5 1 v4.toNatClampNeg (1 - (M5.1 1 v4.toNatClampNeg))) fun M7 => bd2 (fX10_allHolding M7) fun v9 M8 => if inb v4 257 then if inb v4 257 then nm (kset M8 1 v4.toNatClampNeg (1 - (M8.1 1 v4.toNatClampNeg))) fun M10 => some ((v9 - v6), M10) else none else none else none else none else some (0, M3))
theorem fX10_would_J15_7_u {M : KS} {a1 : Int32} {a2 : Int32} {a3 : Int32} {v2 : Int32} : fX10_would_J15_7 M a1 a2 a3 v2 = nm (kset M 0 6 v2) fun M3 => (if (M3.1 0 6) ≤ 0 then nm ((0 + (fX10_fact a1 a2 a3))) fun v4 => bd2 (fX10_allHolding M3) fun v6 M5 => if inb v4 257 then if inb v4 257 then nm (kset M5 1 v4.toNatClampNeg (1 - (M5.1 1 v4.toNatClampNeg))) fun M7 => bd2 (fX10_allHolding M7) fun v9 M8 => if inb v4 257 then if inb v4 257 then nm (kset M8 1 v4.toNatClampNeg (1 - (M8.1 1 v4.toNatClampNeg))) fun M10 => some ((v9 - v6), M10) else none else none else none else none else some (0, M3)) := rfl
def fX10_would (M : KS) (a1 : Int32) (a2 : Int32) (a3 : Int32) : Option (Int32 × KS) := (fX10_isFact a1 a2 a3).bind fun v1 => jn (fX10_would_J15_7 M a1 a2 a3) (fun K15_7 => (if v1 = 0 then K15_7 1 else K15_7 0))
set_option maxHeartbeats 4000000 in
set_option maxRecDepth 100000 in
theorem kX10_would (l : Launch) (E : KE) (ad : Nat → Nat) (M : KS) (a1 : Int32) (a2 : Int32) (a3 : Int32) : CT l yX10_would cX10_would 7 (some .int) { frames := 8, cells := 0, slots := 0, locals := 190 } SM E ad [.ref (ad 0), .int a1, .int a2, .int a3] M (QI SM E ad) (fX10_would M a1 a2 a3) := by
  refine CT.ofW (by decide) (Nat.le_of_ble_eq_true rfl) (fun sz p e s m args below meth c C hr hH ls hl => ?_)
  have hx := C.1.1
  have hb := C.1.2.1
  have hl : lv_has ls 7 [(0, .ref (ad 0)), (1, .int a1), (2, .int a2), (3, .int a3)] := hl
  unfold fX10_would
  refine lv_aload_n hx hb dX10_would_0 rfl (lv_at hl 0 rfl) ?_
  refine lv_iload_n hx hb dX10_would_1 rfl (lv_at hl 1 rfl) ?_
  refine lv_iload_n hx hb dX10_would_2 rfl (lv_at hl 2 rfl) ?_
  refine lv_iload_n hx hb dX10_would_3 rfl (lv_at hl 3 rfl) ?_
  refine kg_io C hH (kc_S C hH w_6_90 w_st_yX10_isFact rfl lc_yX10_isFact (kX10_isFact l E ad M a1 a2 a3) (As := [.int a1, .int a2, .int a3]) rfl dX10_would_4 rfl hl.1 (Nat.le_of_ble_eq_true rfl) ⟨Nat.le_of_ble_eq_true rfl, Nat.le_of_ble_eq_true rfl⟩ ⟨Nat.le_of_ble_eq_true rfl, Nat.le_of_ble_eq_true rfl⟩) ⟨rfl, rfl⟩ (fun v1 H locs hH => ?_)
  refine W_jn (fun (x : Int32) H locs => KH SM E ad sz M s.heap H locs) (fun x ls => lv_has ls 7 [(0, .ref (ad 0)), (1, .int a1), (2, .int a2), (3, .int a3)]) (fun x ls => F0 m 15 ls [.int x, .ref (ad 0)]) ?_ (fun K15_7 hK15_7 => ?_)
  · intro v2 H locs ls hH hl
    have hH : KH SM E ad sz M s.heap H locs := hH
    have hl : lv_has ls 7 [(0, .ref (ad 0)), (1, .int a1), (2, .int a2), (3, .int a3)] := hl
    refine W_q fX10_would_J15_7_u ?_
    refine k_put1 C hH fd_X10_76 fw_X10_6 oM nM6 rfl rfl dX10_would_15 (fun M3 H locs hH => ?_)
    refine lv_aload_n hx hb dX10_would_18 rfl (lv_at hl 0 rfl) ?_
    refine k_get C hH fd_X10_76 oM (k_int (M := M3) (ad := ad) nM6) dX10_would_19 ?_
    refine kb_if_le (tgt := 27) hx hb dX10_would_22 (by decide) (fun _ => ?_) (fun _ => ?_)
    · refine lv_iconst (v := 0) hx hb dX10_would_27 (by decide) ?_
      refine lv_iload_n hx hb dX10_would_28 rfl (lv_at hl 1 rfl) ?_
      refine lv_iload_n hx hb dX10_would_29 rfl (lv_at hl 2 rfl) ?_
      refine lv_iload_n hx hb dX10_would_30 rfl (lv_at hl 3 rfl) ?_
      refine kg_ip C hH (kc_S C hH w_6_106 w_st_yX10_fact rfl lc_yX10_fact (kX10_fact l E ad M3 a1 a2 a3) (As := [.int a1, .int a2, .int a3]) rfl dX10_would_31 rfl hl.1 (Nat.le_of_ble_eq_true rfl) ⟨Nat.le_of_ble_eq_true rfl, Nat.le_of_ble_eq_true rfl⟩ ⟨Nat.le_of_ble_eq_true rfl, Nat.le_of_ble_eq_true rfl⟩) ⟨rfl, rfl⟩ (fun H locs hH => ?_)
      refine lv_iadd hx hb dX10_would_34 ?_
      refine W_nmi (fun v4 => ?_)
      refine lv_istore (lv' := [(4, .int v4), (0, .ref (ad 0)), (1, .int a1), (2, .int a2), (3, .int a3)]) hx hb dX10_would_35 hl (by decide) rfl (fun ls hl => ?_)
      refine lv_aload_n hx hb dX10_would_37 rfl (lv_at hl 1 rfl) ?_
      refine kg_ib C hH (kc_V C hH w_6_117 lc_yX10_allHolding li_yX10_allHolding oM (kX10_allHolding l E ad M3) (As := []) rfl dX10_would_38 rfl hl.1 (Nat.le_of_ble_eq_true rfl) ⟨Nat.le_of_ble_eq_true rfl, Nat.le_of_ble_eq_true rfl⟩ ⟨Nat.le_of_ble_eq_true rfl, Nat.le_of_ble_eq_true rfl⟩) ⟨rfl, rfl⟩ (fun v6 M5 H locs hH => ?_)
      refine lv_istore (lv' := [(5, .int v6), (4, .int v4), (0, .ref (ad 0)), (1, .int a1), (2, .int a2), (3, .int a3)]) hx hb dX10_would_41 hl (by decide) rfl (fun ls hl => ?_)
      refine lv_aload_n hx hb dX10_would_43 rfl (lv_at hl 2 rfl) ?_
      refine k_get C hH fd_X10_9 oM (k_ref (M := M5) (ad := ad) rM0) dX10_would_44 ?_
      refine lv_iload hx hb dX10_would_47 (lv_at hl 1 rfl) ?_
      refine lv_iconst (v := 1) hx hb dX10_would_49 (by decide) ?_
      refine lv_aload_n hx hb dX10_would_50 rfl (lv_at hl 2 rfl) ?_
      refine k_get C hH fd_X10_9 oM (k_ref (M := M5) (ad := ad) rM0) dX10_would_51 ?_
      refine lv_iload hx hb dX10_would_54 (lv_at hl 1 rfl) ?_
      refine k_iald C hH aM0 dX10_would_56 ?_
      refine lv_isub hx hb dX10_would_57 ?_
      refine k_iast C hH aM0 dX10_would_58 (fun M7 H locs hH => ?_)
      refine lv_aload_n hx hb dX10_would_59 rfl (lv_at hl 2 rfl) ?_
      refine kg_ib C hH (kc_V C hH w_6_117 lc_yX10_allHolding li_yX10_allHolding oM (kX10_allHolding l E ad M7) (As := []) rfl dX10_would_60 rfl hl.1 (Nat.le_of_ble_eq_true rfl) ⟨Nat.le_of_ble_eq_true rfl, Nat.le_of_ble_eq_true rfl⟩ ⟨Nat.le_of_ble_eq_true rfl, Nat.le_of_ble_eq_true rfl⟩) ⟨rfl, rfl⟩ (fun v9 M8 H locs hH => ?_)
      refine lv_istore (lv' := [(6, .int v9), (5, .int v6), (4, .int v4), (0, .ref (ad 0)), (1, .int a1), (2, .int a2), (3, .int a3)]) hx hb dX10_would_63 hl (by decide) rfl (fun ls hl => ?_)
      refine lv_aload_n hx hb dX10_would_65 rfl (lv_at hl 3 rfl) ?_
      refine k_get C hH fd_X10_9 oM (k_ref (M := M8) (ad := ad) rM0) dX10_would_66 ?_
      refine lv_iload hx hb dX10_would_69 (lv_at hl 2 rfl) ?_
      refine lv_iconst (v := 1) hx hb dX10_would_71 (by decide) ?_
      refine lv_aload_n hx hb dX10_would_72 rfl (lv_at hl 3 rfl) ?_
      refine k_get C hH fd_X10_9 oM (k_ref (M := M8) (ad := ad) rM0) dX10_would_73 ?_
      refine lv_iload hx hb dX10_would_76 (lv_at hl 2 rfl) ?_
      refine k_iald C hH aM0 dX10_would_78 ?_
      refine lv_isub hx hb dX10_would_79 ?_
      refine k_iast C hH aM0 dX10_would_80 (fun M10 H locs hH => ?_)
      refine lv_iload hx hb dX10_would_81 (lv_at hl 0 rfl) ?_
      refine lv_iload hx hb dX10_would_83 (lv_at hl 1 rfl) ?_
      refine lv_isub hx hb dX10_would_85 ?_
      exact ke_i C hH hr (Nat.le_refl _) (Nat.le_refl _) rfl dX10_would_86
    · refine lv_iconst (v := 0) hx hb dX10_would_25 (by decide) ?_
      exact ke_i C hH hr (Nat.le_refl _) (Nat.le_refl _) rfl dX10_would_26
  · refine kb_if_eq (tgt := 14) hx hb dX10_would_7 (by decide) (fun _ => ?_) (fun _ => ?_)
    · refine lv_iconst (v := 1) hx hb dX10_would_14 (by decide) ?_
      exact hK15_7 1 _ _ _ hH (lv_sub hl [0, 1, 2, 3] rfl)
    · refine lv_iconst (v := 0) hx hb dX10_would_10 (by decide) ?_
      refine lv_goto (tgt := 15) hx hb dX10_would_11 (by decide) ?_
      exact hK15_7 0 _ _ _ hH (lv_sub hl [0, 1, 2, 3] rfl)
def fX10_kin_X39 (M4 : KS) (v7 : Int32) : Option (Int32 × KS) := some (v7, M4)
theorem fX10_kin_X39_u {M4 : KS} {v7 : Int32} : fX10_kin_X39 M4 v7 = some (v7, M4) := rfl
def fX10_kin_L39 (a1 : Int32) (a2 : Int32) (M4 : KS) (rec39 : (Int32 × Int32) → Option (Int32 × KS)) (k39 : (Int32) → Option (Int32 × KS)) (x : Int32 × Int32) : Option (Int32 × KS) := match x with | (v5, v6) => (if 6 ≤ v6 then k39 v5 else (if (M4.1 0 6) = 0 then if inb (fX10_fact a1 a2 v6) 216 then (if (M4.1 6 (fX10_fact a1 a2 v6).toNatClampNeg) < 0 then nm ((v5 ||| 0)) fun v8 => nm (v6 + 1) fun v9 => rec39 (v8, v9) else nm ((v5 ||| (jshl 1 v6))) fun v10 => nm (v6 + 1) fun v11 => rec39 (v10, v11)) else none else k39 v5))
theorem fX10_kin_L39_u {a1 : Int32} {a2 : Int32} {M4 : KS} {rec39 : (Int32 × Int32) → Option (Int32 × KS)} {k39 : (Int32) → Option (Int32 × KS)} {v5 : Int32} {v6 : Int32} : fX10_kin_L39 a1 a2 M4 rec39 k39 (v5, v6) = (if 6 ≤ v6 then k39 v5 else (if (M4.1 0 6) = 0 then if inb (fX10_fact a1 a2 v6) 216 then (if (M4.1 6 (fX10_fact a1 a2 v6).toNatClampNeg) < 0 then nm ((v5 ||| 0)) fun v8 => nm (v6 + 1) fun v9 => rec39 (v8, v9) else nm ((v5 ||| (jshl 1 v6))) fun v10 => nm (v6 + 1) fun v11 => rec39 (v10, v11)) else none else k39 v5)) := rfl
def fX10_kin_J36_29 (a1 : Int32) (a2 : Int32) (M4 : KS) : Option (Int32 × KS) := lp (fX10_kin_L39 a1 a2 M4) (fX10_kin_X39 M4) 1000000 (0, 0)
theorem fX10_kin_J36_29_u {a1 : Int32} {a2 : Int32} {M4 : KS} : fX10_kin_J36_29 a1 a2 M4 = lp (fX10_kin_L39 a1 a2 M4) (fX10_kin_X39 M4) 1000000 (0, 0) := rfl
def fX10_kin_J20_5 (M : KS) (a1 : Int32) (a2 : Int32) (v2 : Int32) : Option (Int32 × KS) := nm (kset M 0 6 v2) fun M3 => jn (fX10_kin_J36_29 a1 a2) (fun K36_29 => (if (M3.1 0 6) = 0 then (fX10_derives M3).bind fun M12 => K36_29 M12 else K36_29 M3))
theorem fX10_kin_J20_5_u {M : KS} {a1 : Int32} {a2 : Int32} {v2 : Int32} : fX10_kin_J20_5 M a1 a2 v2 = nm (kset M 0 6 v2) fun M3 => jn (fX10_kin_J36_29 a1 a2) (fun K36_29 => (if (M3.1 0 6) = 0 then (fX10_derives M3).bind fun M12 => K36_29 M12 else K36_29 M3)) := rfl
def fX10_kin (M : KS) (a1 : Int32) (a2 : Int32) : Option (Int32 × KS) := (fX10_isRelation a1).bind fun v1 => jn (fX10_kin_J20_5 M a1 a2) (fun K20_5 => (if v1 = 0 then K20_5 1 else (fX10_isPerson a2).bind fun v13 => (if v13 = 0 then K20_5 1 else K20_5 0)))
set_option maxHeartbeats 4000000 in
set_option maxRecDepth 100000 in
theorem kX10_kin (l : Launch) (E : KE) (ad : Nat → Nat) (M : KS) (a1 : Int32) (a2 : Int32) : CT l yX10_kin cX10_kin 5 (some .int) { frames := 7, cells := 0, slots := 0, locals := 170 } SM E ad [.ref (ad 0), .int a1, .int a2] M (QI SM E ad) (fX10_kin M a1 a2) := by
  refine CT.ofW (by decide) (Nat.le_of_ble_eq_true rfl) (fun sz p e s m args below meth c C hr hH ls hl => ?_)
  have hx := C.1.1
  have hb := C.1.2.1
  have hl : lv_has ls 5 [(0, .ref (ad 0)), (1, .int a1), (2, .int a2)] := hl
  unfold fX10_kin
  refine lv_aload_n hx hb dX10_kin_0 rfl (lv_at hl 0 rfl) ?_
  refine lv_iload_n hx hb dX10_kin_1 rfl (lv_at hl 1 rfl) ?_
  refine kg_io C hH (kc_S C hH w_6_93 w_st_yX10_isRelation rfl lc_yX10_isRelation (kX10_isRelation l E ad M a1) (As := [.int a1]) rfl dX10_kin_2 rfl hl.1 (Nat.le_of_ble_eq_true rfl) ⟨Nat.le_of_ble_eq_true rfl, Nat.le_of_ble_eq_true rfl⟩ ⟨Nat.le_of_ble_eq_true rfl, Nat.le_of_ble_eq_true rfl⟩) ⟨rfl, rfl⟩ (fun v1 H locs hH => ?_)
  refine W_jn (fun (x : Int32) H locs => KH SM E ad sz M s.heap H locs) (fun x ls => lv_has ls 5 [(0, .ref (ad 0)), (1, .int a1), (2, .int a2)]) (fun x ls => F0 m 20 ls [.int x, .ref (ad 0)]) ?_ (fun K20_5 hK20_5 => ?_)
  · intro v2 H locs ls hH hl
    have hH : KH SM E ad sz M s.heap H locs := hH
    have hl : lv_has ls 5 [(0, .ref (ad 0)), (1, .int a1), (2, .int a2)] := hl
    refine W_q fX10_kin_J20_5_u ?_
    refine k_put1 C hH fd_X10_76 fw_X10_6 oM nM6 rfl rfl dX10_kin_20 (fun M3 H locs hH => ?_)
    refine lv_iconst (v := 0) hx hb dX10_kin_23 (by decide) ?_
    refine lv_istore_n (lv' := [(3, .int 0), (0, .ref (ad 0)), (1, .int a1), (2, .int a2)]) hx hb dX10_kin_24 rfl hl (by decide) rfl (fun ls hl => ?_)
    refine lv_aload_n hx hb dX10_kin_25 rfl (lv_at hl 1 rfl) ?_
    refine k_get C hH fd_X10_76 oM (k_int (M := M3) (ad := ad) nM6) dX10_kin_26 ?_
    refine W_jn (fun (x : KS) H locs => KH SM E ad sz x s.heap H locs) (fun x ls => lv_has ls 5 [(3, .int 0), (0, .ref (ad 0)), (1, .int a1), (2, .int a2)]) (fun x ls => F0 m 36 ls []) ?_ (fun K36_29 hK36_29 => ?_)
    · intro M4 H locs ls hH hl
      have hH : KH SM E ad sz M4 s.heap H locs := hH
      have hl : lv_has ls 5 [(3, .int 0), (0, .ref (ad 0)), (1, .int a1), (2, .int a2)] := hl
      refine W_q fX10_kin_J36_29_u ?_
      refine lv_iconst (v := 0) hx hb dX10_kin_36 (by decide) ?_
      refine lv_istore (lv' := [(4, .int 0), (3, .int 0), (0, .ref (ad 0)), (1, .int a1), (2, .int a2)]) hx hb dX10_kin_37 hl (by decide) rfl (fun ls hl => ?_)
      refine W_lp (fun (x : Int32 × Int32) H locs => KH SM E ad sz M4 s.heap H locs) (fun x ls => lv_has ls 5 [(0, .ref (ad 0)), (1, .int a1), (2, .int a2), (3, .int x.1), (4, .int x.2)]) (fun _ ls => F0 m 39 ls []) (fun (x : Int32) H locs => KH SM E ad sz M4 s.heap H locs) (fun x ls => lv_has ls 5 [(3, .int x)]) (fun _ ls => F0 m 85 ls []) ?_ ?_ hH (lv_sub hl [2, 3, 4, 1, 0] rfl)
      · intro v7 H locs ls hH hl
        have hH : KH SM E ad sz M4 s.heap H locs := hH
        have hl : lv_has ls 5 [(3, .int v7)] := hl
        refine W_q fX10_kin_X39_u ?_
        refine lv_iload_n hx hb dX10_kin_85 rfl (lv_at hl 0 rfl) ?_
        exact ke_i C hH hr (Nat.le_refl _) (Nat.le_refl _) rfl dX10_kin_86
      · intro rec39 k39 hrec39 hk39 ⟨v5, v6⟩ H locs ls hH hl
        have hH : KH SM E ad sz M4 s.heap H locs := hH
        have hl : lv_has ls 5 [(0, .ref (ad 0)), (1, .int a1), (2, .int a2), (3, .int v5), (4, .int v6)] := hl
        refine W_q fX10_kin_L39_u ?_
        refine lv_iload hx hb dX10_kin_39 (lv_at hl 4 rfl) ?_
        refine lv_bipush (v := 6) hx hb dX10_kin_41 (by decide) ?_
        refine kb_icmp_ge (tgt := 85) hx hb dX10_kin_43 (by decide) (fun _ => ?_) (fun _ => ?_)
        · exact hk39 v5 _ _ _ hH (lv_sub hl [3] rfl)
        · refine lv_aload_n hx hb dX10_kin_46 rfl (lv_at hl 0 rfl) ?_
          refine k_get C hH fd_X10_76 oM (k_int (M := M4) (ad := ad) nM6) dX10_kin_47 ?_
          refine kb_if_ne (tgt := 85) hx hb dX10_kin_50 (by decide) (fun _ => ?_) (fun _ => ?_)
          · exact hk39 v5 _ _ _ hH (lv_sub hl [3] rfl)
          · refine lv_iload_n hx hb dX10_kin_53 rfl (lv_at hl 3 rfl) ?_
            refine lv_aload_n hx hb dX10_kin_54 rfl (lv_at hl 0 rfl) ?_
            refine k_get C hH fd_X10_25 oM (k_ref (M := M4) (ad := ad) rM11) dX10_kin_55 ?_
            refine lv_iload_n hx hb dX10_kin_58 rfl (lv_at hl 1 rfl) ?_
            refine lv_iload_n hx hb dX10_kin_59 rfl (lv_at hl 2 rfl) ?_
            refine lv_iload hx hb dX10_kin_60 (lv_at hl 4 rfl) ?_
            refine kg_ip C hH (kc_S C hH w_6_106 w_st_yX10_fact rfl lc_yX10_fact (kX10_fact l E ad M4 a1 a2 v6) (As := [.int a1, .int a2, .int v6]) rfl dX10_kin_62 rfl hl.1 (Nat.le_of_ble_eq_true rfl) ⟨Nat.le_of_ble_eq_true rfl, Nat.le_of_ble_eq_true rfl⟩ ⟨Nat.le_of_ble_eq_true rfl, Nat.le_of_ble_eq_true rfl⟩) ⟨rfl, rfl⟩ (fun H locs hH => ?_)
            refine k_iald C hH aM11 dX10_kin_65 ?_
            refine kb_if_lt (tgt := 76) hx hb dX10_kin_66 (by decide) (fun _ => ?_) (fun _ => ?_)
            · refine lv_iconst (v := 0) hx hb dX10_kin_76 (by decide) ?_
              refine lv_ior hx hb dX10_kin_77 ?_
              refine W_nmi (fun v8 => ?_)
              refine lv_istore_n (lv' := [(3, .int v8), (0, .ref (ad 0)), (1, .int a1), (2, .int a2), (4, .int v6)]) hx hb dX10_kin_78 rfl hl (by decide) rfl (fun ls hl => ?_)
              refine W_nm (fun v9 ev9 => ?_)
              refine lv_iinc (v := v9) (lv' := [(4, .int v9), (3, .int v8), (0, .ref (ad 0)), (1, .int a1), (2, .int a2)]) hx hb dX10_kin_79 hl (k := 4) rfl (by rw [ev9]; rfl) (by decide) rfl (fun ls hl => ?_)
              refine lv_goto (tgt := 39) hx hb dX10_kin_82 (by decide) ?_
              exact hrec39 (v8, v9) _ _ _ hH (lv_sub hl [2, 3, 4, 1, 0] rfl)
            · refine lv_iconst (v := 1) hx hb dX10_kin_69 (by decide) ?_
              refine lv_iload hx hb dX10_kin_70 (lv_at hl 4 rfl) ?_
              refine k_ishl hx hb dX10_kin_72 ?_
              refine lv_goto (tgt := 77) hx hb dX10_kin_73 (by decide) ?_
              refine lv_ior hx hb dX10_kin_77 ?_
              refine W_nmi (fun v10 => ?_)
              refine lv_istore_n (lv' := [(3, .int v10), (0, .ref (ad 0)), (1, .int a1), (2, .int a2), (4, .int v6)]) hx hb dX10_kin_78 rfl hl (by decide) rfl (fun ls hl => ?_)
              refine W_nm (fun v11 ev11 => ?_)
              refine lv_iinc (v := v11) (lv' := [(4, .int v11), (3, .int v10), (0, .ref (ad 0)), (1, .int a1), (2, .int a2)]) hx hb dX10_kin_79 hl (k := 4) rfl (by rw [ev11]; rfl) (by decide) rfl (fun ls hl => ?_)
              refine lv_goto (tgt := 39) hx hb dX10_kin_82 (by decide) ?_
              exact hrec39 (v10, v11) _ _ _ hH (lv_sub hl [2, 3, 4, 1, 0] rfl)
    · refine kb_if_ne (tgt := 36) hx hb dX10_kin_29 (by decide) (fun _ => ?_) (fun _ => ?_)
      · exact hK36_29 M3 _ _ _ hH (lv_sub hl [0, 1, 2, 3] rfl)
      · refine lv_aload_n hx hb dX10_kin_32 rfl (lv_at hl 1 rfl) ?_
        refine kg_v C hH (kc_V C hH w_6_121 lc_yX10_derives li_yX10_derives oM (kX10_derives l E ad M3) (As := []) rfl dX10_kin_33 rfl hl.1 (Nat.le_of_ble_eq_true rfl) ⟨Nat.le_of_ble_eq_true rfl, Nat.le_of_ble_eq_true rfl⟩ ⟨Nat.le_of_ble_eq_true rfl, Nat.le_of_ble_eq_true rfl⟩) ⟨rfl, rfl⟩ (fun M12 H locs hH => ?_)
        exact hK36_29 M12 _ _ _ hH (lv_sub hl [0, 1, 2, 3] rfl)
  · refine kb_if_eq (tgt := 19) hx hb dX10_kin_5 (by decide) (fun _ => ?_) (fun _ => ?_)
    · refine lv_iconst (v := 1) hx hb dX10_kin_19 (by decide) ?_
      exact hK20_5 1 _ _ _ hH (lv_sub hl [0, 1, 2] rfl)
    · refine lv_iload_n hx hb dX10_kin_8 rfl (lv_at hl 2 rfl) ?_
      refine kg_io C hH (kc_S C hH w_6_99 w_st_yX10_isPerson rfl lc_yX10_isPerson (kX10_isPerson l E ad M a2) (As := [.int a2]) rfl dX10_kin_9 rfl hl.1 (Nat.le_of_ble_eq_true rfl) ⟨Nat.le_of_ble_eq_true rfl, Nat.le_of_ble_eq_true rfl⟩ ⟨Nat.le_of_ble_eq_true rfl, Nat.le_of_ble_eq_true rfl⟩) ⟨rfl, rfl⟩ (fun v13 H locs hH => ?_)
      refine kb_if_eq (tgt := 19) hx hb dX10_kin_12 (by decide) (fun _ => ?_) (fun _ => ?_)
      · refine lv_iconst (v := 1) hx hb dX10_kin_19 (by decide) ?_
        exact hK20_5 1 _ _ _ hH (lv_sub hl [0, 1, 2] rfl)
      · refine lv_iconst (v := 0) hx hb dX10_kin_15 (by decide) ?_
        refine lv_goto (tgt := 20) hx hb dX10_kin_16 (by decide) ?_
        exact hK20_5 0 _ _ _ hH (lv_sub hl [0, 1, 2] rfl)
def fX10_inRules_X5 (v3 : Int32) : Option (Int32) := some v3
theorem fX10_inRules_X5_u {v3 : Int32} : fX10_inRules_X5 v3 = some v3 := rfl
def fX10_inRules_X43 (v2 : Int32) (rec5 : (Int32 × Int32) → Option (Int32)) (v8 : Int32) : Option (Int32) := nm (v2 + 1) fun v9 => rec5 (v8, v9)
theorem fX10_inRules_X43_u {v2 : Int32} {rec5 : (Int32 × Int32) → Option (Int32)} {v8 : Int32} : fX10_inRules_X43 v2 rec5 v8 = nm (v2 + 1) fun v9 => rec5 (v8, v9) := rfl
def fX10_inRules_L43 (M : KS) (a1 : Int32) (a2 : Int32) (v2 : Int32) (rec43 : (Int32 × Int32) → Option (Int32)) (k43 : (Int32) → Option (Int32)) (x : Int32 × Int32) : Option (Int32) := match x with | (v6, v7) => (if 3 ≤ v7 then k43 v6 else (if a2 = 0 then (fX10_conditionOf M v2 v7).bind fun v10 => (if v10 = 0 then nm ((v6 + 0)) fun v11 => nm (v7 + 1) fun v12 => rec43 (v11, v12) else (if (fX10_relationIn v10) = a1 then nm ((v6 + 1)) fun v15 => nm (v7 + 1) fun v16 => rec43 (v15, v16) else nm ((v6 + 0)) fun v13 => nm (v7 + 1) fun v14 => rec43 (v13, v14))) else k43 v6))
theorem fX10_inRules_L43_u {M : KS} {a1 : Int32} {a2 : Int32} {v2 : Int32} {rec43 : (Int32 × Int32) → Option (Int32)} {k43 : (Int32) → Option (Int32)} {v6 : Int32} {v7 : Int32} : fX10_inRules_L43 M a1 a2 v2 rec43 k43 (v6, v7) = (if 3 ≤ v7 then k43 v6 else (if a2 = 0 then (fX10_conditionOf M v2 v7).bind fun v10 => (if v10 = 0 then nm ((v6 + 0)) fun v11 => nm (v7 + 1) fun v12 => rec43 (v11, v12) else (if (fX10_relationIn v10) = a1 then nm ((v6 + 1)) fun v15 => nm (v7 + 1) fun v16 => rec43 (v15, v16) else nm ((v6 + 0)) fun v13 => nm (v7 + 1) fun v14 => rec43 (v13, v14))) else k43 v6)) := rfl
def fX10_inRules_J38_20 (M : KS) (a1 : Int32) (a2 : Int32) (v1 : Int32) (v2 : Int32) (rec5 : (Int32 × Int32) → Option (Int32)) (v4 : Int32) : Option (Int32) := nm ((v1 + v4)) fun v5 => lp (fX10_inRules_L43 M a1 a2 v2) (fX10_inRules_X43 v2 rec5) 1000000 (v5, 0)
theorem fX10_inRules_J38_20_u {M : KS} {a1 : Int32} {a2 : Int32} {v1 : Int32} {v2 : Int32} {rec5 : (Int32 × Int32) → Option (Int32)} {v4 : Int32} : fX10_inRules_J38_20 M a1 a2 v1 v2 rec5 v4 = nm ((v1 + v4)) fun v5 => lp (fX10_inRules_L43 M a1 a2 v2) (fX10_inRules_X43 v2 rec5) 1000000 (v5, 0) := rfl
def fX10_inRules_L5 (M : KS) (a1 : Int32) (a2 : Int32) (rec5 : (Int32 × Int32) → Option (Int32)) (k5 : (Int32) → Option (Int32)) (x : Int32 × Int32) : Option (Int32) := match x with | (v1, v2) => if inb 216 257 then (if (M.1 1 (216 : Int32).toNatClampNeg) ≤ v2 then k5 v1 else jn (fX10_inRules_J38_20 M a1 a2 v1 v2 rec5) (fun K38_20 => (if a2 = 0 then K38_20 0 else (fX10_head M v2).bind fun v17 => (if v17 = a1 then K38_20 1 else K38_20 0)))) else none
theorem fX10_inRules_L5_u {M : KS} {a1 : Int32} {a2 : Int32} {rec5 : (Int32 × Int32) → Option (Int32)} {k5 : (Int32) → Option (Int32)} {v1 : Int32} {v2 : Int32} : fX10_inRules_L5 M a1 a2 rec5 k5 (v1, v2) = if inb 216 257 then (if (M.1 1 (216 : Int32).toNatClampNeg) ≤ v2 then k5 v1 else jn (fX10_inRules_J38_20 M a1 a2 v1 v2 rec5) (fun K38_20 => (if a2 = 0 then K38_20 0 else (fX10_head M v2).bind fun v17 => (if v17 = a1 then K38_20 1 else K38_20 0)))) else none := rfl
def fX10_inRules (M : KS) (a1 : Int32) (a2 : Int32) : Option (Int32) := lp (fX10_inRules_L5 M a1 a2) (fX10_inRules_X5) 1000000 (0, 0)
set_option maxHeartbeats 4000000 in
set_option maxRecDepth 100000 in
theorem kX10_inRules (l : Launch) (E : KE) (ad : Nat → Nat) (M : KS) (a1 : Int32) (a2 : Int32) : CT l yX10_inRules cX10_inRules 7 (some .int) { frames := 2, cells := 0, slots := 0, locals := 44 } SM E ad [.ref (ad 0), .int a1, .int a2] M (fun sz a => QI SM E ad sz (a, M)) (fX10_inRules M a1 a2) := by
  refine CT.ofW (by decide) (Nat.le_of_ble_eq_true rfl) (fun sz p e s m args below meth c C hr hH ls hl => ?_)
  have hx := C.1.1
  have hb := C.1.2.1
  have hl : lv_has ls 7 [(0, .ref (ad 0)), (1, .int a1), (2, .int a2)] := hl
  unfold fX10_inRules
  refine lv_iconst (v := 0) hx hb dX10_inRules_0 (by decide) ?_
  refine lv_istore_n (lv' := [(3, .int 0), (0, .ref (ad 0)), (1, .int a1), (2, .int a2)]) hx hb dX10_inRules_1 rfl hl (by decide) rfl (fun ls hl => ?_)
  refine lv_iconst (v := 0) hx hb dX10_inRules_2 (by decide) ?_
  refine lv_istore (lv' := [(4, .int 0), (3, .int 0), (0, .ref (ad 0)), (1, .int a1), (2, .int a2)]) hx hb dX10_inRules_3 hl (by decide) rfl (fun ls hl => ?_)
  refine W_lp (fun (x : Int32 × Int32) H locs => KH SM E ad sz M s.heap H locs) (fun x ls => lv_has ls 7 [(0, .ref (ad 0)), (1, .int a1), (2, .int a2), (3, .int x.1), (4, .int x.2)]) (fun _ ls => F0 m 5 ls []) (fun (x : Int32) H locs => KH SM E ad sz M s.heap H locs) (fun x ls => lv_has ls 7 [(3, .int x)]) (fun _ ls => F0 m 97 ls []) ?_ ?_ hH (lv_sub hl [2, 3, 4, 1, 0] rfl)
  · intro v3 H locs ls hH hl
    have hH : KH SM E ad sz M s.heap H locs := hH
    have hl : lv_has ls 7 [(3, .int v3)] := hl
    refine W_q fX10_inRules_X5_u ?_
    refine lv_iload_n hx hb dX10_inRules_97 rfl (lv_at hl 0 rfl) ?_
    exact ke_i C hH hr (Nat.le_refl _) (Nat.le_refl _) rfl dX10_inRules_98
  · intro rec5 k5 hrec5 hk5 ⟨v1, v2⟩ H locs ls hH hl
    have hH : KH SM E ad sz M s.heap H locs := hH
    have hl : lv_has ls 7 [(0, .ref (ad 0)), (1, .int a1), (2, .int a2), (3, .int v1), (4, .int v2)] := hl
    refine W_q fX10_inRules_L5_u ?_
    refine lv_iload hx hb dX10_inRules_5 (lv_at hl 4 rfl) ?_
    refine lv_aload_n hx hb dX10_inRules_7 rfl (lv_at hl 0 rfl) ?_
    refine k_get C hH fd_X10_9 oM (k_ref (M := M) (ad := ad) rM0) dX10_inRules_8 ?_
    refine lv_sipush (v := 216) hx hb dX10_inRules_11 (by decide) ?_
    refine k_iald C hH aM0 dX10_inRules_14 ?_
    refine kb_icmp_ge (tgt := 97) hx hb dX10_inRules_15 (by decide) (fun _ => ?_) (fun _ => ?_)
    · exact hk5 v1 _ _ _ hH (lv_sub hl [3] rfl)
    · refine lv_iload_n hx hb dX10_inRules_18 rfl (lv_at hl 3 rfl) ?_
      refine lv_iload_n hx hb dX10_inRules_19 rfl (lv_at hl 2 rfl) ?_
      refine W_jn (fun (x : Int32) H locs => KH SM E ad sz M s.heap H locs) (fun x ls => lv_has ls 7 [(0, .ref (ad 0)), (1, .int a1), (2, .int a2), (4, .int v2)]) (fun x ls => F0 m 38 ls [.int x, .int v1]) ?_ (fun K38_20 hK38_20 => ?_)
      · intro v4 H locs ls hH hl
        have hH : KH SM E ad sz M s.heap H locs := hH
        have hl : lv_has ls 7 [(0, .ref (ad 0)), (1, .int a1), (2, .int a2), (4, .int v2)] := hl
        refine W_q fX10_inRules_J38_20_u ?_
        refine lv_iadd hx hb dX10_inRules_38 ?_
        refine W_nmi (fun v5 => ?_)
        refine lv_istore_n (lv' := [(3, .int v5), (0, .ref (ad 0)), (1, .int a1), (2, .int a2), (4, .int v2)]) hx hb dX10_inRules_39 rfl hl (by decide) rfl (fun ls hl => ?_)
        refine lv_iconst (v := 0) hx hb dX10_inRules_40 (by decide) ?_
        refine lv_istore (lv' := [(5, .int 0), (3, .int v5), (0, .ref (ad 0)), (1, .int a1), (2, .int a2), (4, .int v2)]) hx hb dX10_inRules_41 hl (by decide) rfl (fun ls hl => ?_)
        refine W_lp (fun (x : Int32 × Int32) H locs => KH SM E ad sz M s.heap H locs) (fun x ls => lv_has ls 7 [(0, .ref (ad 0)), (1, .int a1), (2, .int a2), (4, .int v2), (3, .int x.1), (5, .int x.2)]) (fun _ ls => F0 m 43 ls []) (fun (x : Int32) H locs => KH SM E ad sz M s.heap H locs) (fun x ls => lv_has ls 7 [(0, .ref (ad 0)), (1, .int a1), (2, .int a2), (4, .int v2), (3, .int x)]) (fun _ ls => F0 m 91 ls []) ?_ ?_ hH (lv_sub hl [2, 3, 4, 5, 1, 0] rfl)
        · intro v8 H locs ls hH hl
          have hH : KH SM E ad sz M s.heap H locs := hH
          have hl : lv_has ls 7 [(0, .ref (ad 0)), (1, .int a1), (2, .int a2), (4, .int v2), (3, .int v8)] := hl
          refine W_q fX10_inRules_X43_u ?_
          refine W_nm (fun v9 ev9 => ?_)
          refine lv_iinc (v := v9) (lv' := [(4, .int v9), (0, .ref (ad 0)), (1, .int a1), (2, .int a2), (3, .int v8)]) hx hb dX10_inRules_91 hl (k := 3) rfl (by rw [ev9]; rfl) (by decide) rfl (fun ls hl => ?_)
          refine lv_goto (tgt := 5) hx hb dX10_inRules_94 (by decide) ?_
          exact hrec5 (v8, v9) _ _ _ hH (lv_sub hl [1, 2, 3, 4, 0] rfl)
        · intro rec43 k43 hrec43 hk43 ⟨v6, v7⟩ H locs ls hH hl
          have hH : KH SM E ad sz M s.heap H locs := hH
          have hl : lv_has ls 7 [(0, .ref (ad 0)), (1, .int a1), (2, .int a2), (4, .int v2), (3, .int v6), (5, .int v7)] := hl
          refine W_q fX10_inRules_L43_u ?_
          refine lv_iload hx hb dX10_inRules_43 (lv_at hl 5 rfl) ?_
          refine lv_iconst (v := 3) hx hb dX10_inRules_45 (by decide) ?_
          refine kb_icmp_ge (tgt := 91) hx hb dX10_inRules_46 (by decide) (fun _ => ?_) (fun _ => ?_)
          · exact hk43 v6 _ _ _ hH (lv_sub hl [0, 1, 2, 3, 4] rfl)
          · refine lv_iload_n hx hb dX10_inRules_49 rfl (lv_at hl 2 rfl) ?_
            refine kb_if_ne (tgt := 91) hx hb dX10_inRules_50 (by decide) (fun _ => ?_) (fun _ => ?_)
            · exact hk43 v6 _ _ _ hH (lv_sub hl [0, 1, 2, 3, 4] rfl)
            · refine lv_aload_n hx hb dX10_inRules_53 rfl (lv_at hl 0 rfl) ?_
              refine lv_iload hx hb dX10_inRules_54 (lv_at hl 3 rfl) ?_
              refine lv_iload hx hb dX10_inRules_56 (lv_at hl 5 rfl) ?_
              refine kg_io C hH (kc_V C hH w_6_133 lc_yX10_conditionOf li_yX10_conditionOf oM (kX10_conditionOf l E ad M v2 v7) (As := [.int v2, .int v7]) rfl dX10_inRules_58 rfl hl.1 (Nat.le_of_ble_eq_true rfl) ⟨Nat.le_of_ble_eq_true rfl, Nat.le_of_ble_eq_true rfl⟩ ⟨Nat.le_of_ble_eq_true rfl, Nat.le_of_ble_eq_true rfl⟩) ⟨rfl, rfl⟩ (fun v10 H locs hH => ?_)
              refine lv_istore (lv' := [(6, .int v10), (0, .ref (ad 0)), (1, .int a1), (2, .int a2), (4, .int v2), (3, .int v6), (5, .int v7)]) hx hb dX10_inRules_61 hl (by decide) rfl (fun ls hl => ?_)
              refine lv_iload_n hx hb dX10_inRules_63 rfl (lv_at hl 5 rfl) ?_
              refine lv_iload hx hb dX10_inRules_64 (lv_at hl 0 rfl) ?_
              refine kb_if_eq (tgt := 82) hx hb dX10_inRules_66 (by decide) (fun _ => ?_) (fun _ => ?_)
              · refine lv_iconst (v := 0) hx hb dX10_inRules_82 (by decide) ?_
                refine lv_iadd hx hb dX10_inRules_83 ?_
                refine W_nmi (fun v11 => ?_)
                refine lv_istore_n (lv' := [(3, .int v11), (6, .int v10), (0, .ref (ad 0)), (1, .int a1), (2, .int a2), (4, .int v2), (5, .int v7)]) hx hb dX10_inRules_84 rfl hl (by decide) rfl (fun ls hl => ?_)
                refine W_nm (fun v12 ev12 => ?_)
                refine lv_iinc (v := v12) (lv' := [(5, .int v12), (3, .int v11), (6, .int v10), (0, .ref (ad 0)), (1, .int a1), (2, .int a2), (4, .int v2)]) hx hb dX10_inRules_85 hl (k := 6) rfl (by rw [ev12]; rfl) (by decide) rfl (fun ls hl => ?_)
                refine lv_goto (tgt := 43) hx hb dX10_inRules_88 (by decide) ?_
                exact hrec43 (v11, v12) _ _ _ hH (lv_sub hl [3, 4, 5, 6, 1, 0] rfl)
              · refine lv_iload hx hb dX10_inRules_69 (lv_at hl 0 rfl) ?_
                refine kg_ip C hH (kc_S C hH w_6_137 w_st_yX10_relationIn rfl lc_yX10_relationIn (kX10_relationIn l E ad M v10) (As := [.int v10]) rfl dX10_inRules_71 rfl hl.1 (Nat.le_of_ble_eq_true rfl) ⟨Nat.le_of_ble_eq_true rfl, Nat.le_of_ble_eq_true rfl⟩ ⟨Nat.le_of_ble_eq_true rfl, Nat.le_of_ble_eq_true rfl⟩) ⟨rfl, rfl⟩ (fun H locs hH => ?_)
                refine lv_iload_n hx hb dX10_inRules_74 rfl (lv_at hl 2 rfl) ?_
                refine kb_icmp_ne (tgt := 82) hx hb dX10_inRules_75 (by decide) (fun _ => ?_) (fun _ => ?_)
                · refine lv_iconst (v := 0) hx hb dX10_inRules_82 (by decide) ?_
                  refine lv_iadd hx hb dX10_inRules_83 ?_
                  refine W_nmi (fun v13 => ?_)
                  refine lv_istore_n (lv' := [(3, .int v13), (6, .int v10), (0, .ref (ad 0)), (1, .int a1), (2, .int a2), (4, .int v2), (5, .int v7)]) hx hb dX10_inRules_84 rfl hl (by decide) rfl (fun ls hl => ?_)
                  refine W_nm (fun v14 ev14 => ?_)
                  refine lv_iinc (v := v14) (lv' := [(5, .int v14), (3, .int v13), (6, .int v10), (0, .ref (ad 0)), (1, .int a1), (2, .int a2), (4, .int v2)]) hx hb dX10_inRules_85 hl (k := 6) rfl (by rw [ev14]; rfl) (by decide) rfl (fun ls hl => ?_)
                  refine lv_goto (tgt := 43) hx hb dX10_inRules_88 (by decide) ?_
                  exact hrec43 (v13, v14) _ _ _ hH (lv_sub hl [3, 4, 5, 6, 1, 0] rfl)
                · refine lv_iconst (v := 1) hx hb dX10_inRules_78 (by decide) ?_
                  refine lv_goto (tgt := 83) hx hb dX10_inRules_79 (by decide) ?_
                  refine lv_iadd hx hb dX10_inRules_83 ?_
                  refine W_nmi (fun v15 => ?_)
                  refine lv_istore_n (lv' := [(3, .int v15), (6, .int v10), (0, .ref (ad 0)), (1, .int a1), (2, .int a2), (4, .int v2), (5, .int v7)]) hx hb dX10_inRules_84 rfl hl (by decide) rfl (fun ls hl => ?_)
                  refine W_nm (fun v16 ev16 => ?_)
                  refine lv_iinc (v := v16) (lv' := [(5, .int v16), (3, .int v15), (6, .int v10), (0, .ref (ad 0)), (1, .int a1), (2, .int a2), (4, .int v2)]) hx hb dX10_inRules_85 hl (k := 6) rfl (by rw [ev16]; rfl) (by decide) rfl (fun ls hl => ?_)
                  refine lv_goto (tgt := 43) hx hb dX10_inRules_88 (by decide) ?_
                  exact hrec43 (v15, v16) _ _ _ hH (lv_sub hl [3, 4, 5, 6, 1, 0] rfl)
      · refine kb_if_eq (tgt := 37) hx hb dX10_inRules_20 (by decide) (fun _ => ?_) (fun _ => ?_)
        · refine lv_iconst (v := 0) hx hb dX10_inRules_37 (by decide) ?_
          exact hK38_20 0 _ _ _ hH (lv_sub hl [0, 1, 2, 4] rfl)
        · refine lv_aload_n hx hb dX10_inRules_23 rfl (lv_at hl 0 rfl) ?_
          refine lv_iload hx hb dX10_inRules_24 (lv_at hl 4 rfl) ?_
          refine kg_io C hH (kc_V C hH w_6_143 lc_yX10_head li_yX10_head oM (kX10_head l E ad M v2) (As := [.int v2]) rfl dX10_inRules_26 rfl hl.1 (Nat.le_of_ble_eq_true rfl) ⟨Nat.le_of_ble_eq_true rfl, Nat.le_of_ble_eq_true rfl⟩ ⟨Nat.le_of_ble_eq_true rfl, Nat.le_of_ble_eq_true rfl⟩) ⟨rfl, rfl⟩ (fun v17 H locs hH => ?_)
          refine lv_iload_n hx hb dX10_inRules_29 rfl (lv_at hl 1 rfl) ?_
          refine kb_icmp_ne (tgt := 37) hx hb dX10_inRules_30 (by decide) (fun _ => ?_) (fun _ => ?_)
          · refine lv_iconst (v := 0) hx hb dX10_inRules_37 (by decide) ?_
            exact hK38_20 0 _ _ _ hH (lv_sub hl [0, 1, 2, 4] rfl)
          · refine lv_iconst (v := 1) hx hb dX10_inRules_33 (by decide) ?_
            refine lv_goto (tgt := 38) hx hb dX10_inRules_34 (by decide) ?_
            exact hK38_20 1 _ _ _ hH (lv_sub hl [0, 1, 2, 4] rfl)
def fX10_greatestStage_X4 (v3 : Int32) : Option (Int32) := some v3
theorem fX10_greatestStage_X4_u {v3 : Int32} : fX10_greatestStage_X4 v3 = some v3 := rfl
def fX10_greatestStage_J23_12 (M : KS) (v1 : Int32) (v2 : Int32) (rec4 : (Int32 × Int32) → Option (Int32)) (_ : Unit) : Option (Int32) := if inb v2 216 then nm ((jmax v1 (M.1 6 v2.toNatClampNeg))) fun v4 => nm (v2 + 1) fun v5 => rec4 (v4, v5) else none
theorem fX10_greatestStage_J23_12_u {M : KS} {v1 : Int32} {v2 : Int32} {rec4 : (Int32 × Int32) → Option (Int32)} {u : Unit} : fX10_greatestStage_J23_12 M v1 v2 rec4 u = if inb v2 216 then nm ((jmax v1 (M.1 6 v2.toNatClampNeg))) fun v4 => nm (v2 + 1) fun v5 => rec4 (v4, v5) else none := rfl
def fX10_greatestStage_L4 (M : KS) (a1 : Int32) (rec4 : (Int32 × Int32) → Option (Int32)) (k4 : (Int32) → Option (Int32)) (x : Int32 × Int32) : Option (Int32) := match x with | (v1, v2) => (if 216 ≤ v2 then k4 v1 else jn (fX10_greatestStage_J23_12 M v1 v2 rec4) (fun K23_12 => (if a1 < 0 then K23_12 () else (if (v2 / 36) = a1 then K23_12 () else nm (v2 + 1) fun v6 => rec4 (v1, v6)))))
theorem fX10_greatestStage_L4_u {M : KS} {a1 : Int32} {rec4 : (Int32 × Int32) → Option (Int32)} {k4 : (Int32) → Option (Int32)} {v1 : Int32} {v2 : Int32} : fX10_greatestStage_L4 M a1 rec4 k4 (v1, v2) = (if 216 ≤ v2 then k4 v1 else jn (fX10_greatestStage_J23_12 M v1 v2 rec4) (fun K23_12 => (if a1 < 0 then K23_12 () else (if (v2 / 36) = a1 then K23_12 () else nm (v2 + 1) fun v6 => rec4 (v1, v6))))) := rfl
def fX10_greatestStage (M : KS) (a1 : Int32) : Option (Int32) := lp (fX10_greatestStage_L4 M a1) (fX10_greatestStage_X4) 1000000 (0, 0)
set_option maxHeartbeats 4000000 in
set_option maxRecDepth 100000 in
theorem kX10_greatestStage (l : Launch) (E : KE) (ad : Nat → Nat) (M : KS) (a1 : Int32) : CT l yX10_greatestStage cX10_greatestStage 4 (some .int) { frames := 1, cells := 0, slots := 0, locals := 24 } SM E ad [.ref (ad 0), .int a1] M (fun sz a => QI SM E ad sz (a, M)) (fX10_greatestStage M a1) := by
  refine CT.ofW (by decide) (Nat.le_of_ble_eq_true rfl) (fun sz p e s m args below meth c C hr hH ls hl => ?_)
  have hx := C.1.1
  have hb := C.1.2.1
  have hl : lv_has ls 4 [(0, .ref (ad 0)), (1, .int a1)] := hl
  unfold fX10_greatestStage
  refine lv_iconst (v := 0) hx hb dX10_greatestStage_0 (by decide) ?_
  refine lv_istore_n (lv' := [(2, .int 0), (0, .ref (ad 0)), (1, .int a1)]) hx hb dX10_greatestStage_1 rfl hl (by decide) rfl (fun ls hl => ?_)
  refine lv_iconst (v := 0) hx hb dX10_greatestStage_2 (by decide) ?_
  refine lv_istore_n (lv' := [(3, .int 0), (2, .int 0), (0, .ref (ad 0)), (1, .int a1)]) hx hb dX10_greatestStage_3 rfl hl (by decide) rfl (fun ls hl => ?_)
  refine W_lp (fun (x : Int32 × Int32) H locs => KH SM E ad sz M s.heap H locs) (fun x ls => lv_has ls 4 [(0, .ref (ad 0)), (1, .int a1), (2, .int x.1), (3, .int x.2)]) (fun _ ls => F0 m 4 ls []) (fun (x : Int32) H locs => KH SM E ad sz M s.heap H locs) (fun x ls => lv_has ls 4 [(2, .int x)]) (fun _ ls => F0 m 44 ls []) ?_ ?_ hH (lv_sub hl [2, 3, 1, 0] rfl)
  · intro v3 H locs ls hH hl
    have hH : KH SM E ad sz M s.heap H locs := hH
    have hl : lv_has ls 4 [(2, .int v3)] := hl
    refine W_q fX10_greatestStage_X4_u ?_
    refine lv_iload_n hx hb dX10_greatestStage_44 rfl (lv_at hl 0 rfl) ?_
    exact ke_i C hH hr (Nat.le_refl _) (Nat.le_refl _) rfl dX10_greatestStage_45
  · intro rec4 k4 hrec4 hk4 ⟨v1, v2⟩ H locs ls hH hl
    have hH : KH SM E ad sz M s.heap H locs := hH
    have hl : lv_has ls 4 [(0, .ref (ad 0)), (1, .int a1), (2, .int v1), (3, .int v2)] := hl
    refine W_q fX10_greatestStage_L4_u ?_
    refine lv_iload_n hx hb dX10_greatestStage_4 rfl (lv_at hl 3 rfl) ?_
    refine lv_sipush (v := 216) hx hb dX10_greatestStage_5 (by decide) ?_
    refine kb_icmp_ge (tgt := 44) hx hb dX10_greatestStage_8 (by decide) (fun _ => ?_) (fun _ => ?_)
    · exact hk4 v1 _ _ _ hH (lv_sub hl [2] rfl)
    · refine lv_iload_n hx hb dX10_greatestStage_11 rfl (lv_at hl 1 rfl) ?_
      refine W_jn (fun (x : Unit) H locs => KH SM E ad sz M s.heap H locs) (fun x ls => lv_has ls 4 [(0, .ref (ad 0)), (1, .int a1), (2, .int v1), (3, .int v2)]) (fun x ls => F0 m 23 ls []) ?_ (fun K23_12 hK23_12 => ?_)
      · intro _ H locs ls hH hl
        have hH : KH SM E ad sz M s.heap H locs := hH
        have hl : lv_has ls 4 [(0, .ref (ad 0)), (1, .int a1), (2, .int v1), (3, .int v2)] := hl
        refine W_q fX10_greatestStage_J23_12_u ?_
        refine lv_iload_n hx hb dX10_greatestStage_23 rfl (lv_at hl 2 rfl) ?_
        refine lv_aload_n hx hb dX10_greatestStage_24 rfl (lv_at hl 0 rfl) ?_
        refine k_get C hH fd_X10_25 oM (k_ref (M := M) (ad := ad) rM11) dX10_greatestStage_25 ?_
        refine lv_iload_n hx hb dX10_greatestStage_28 rfl (lv_at hl 3 rfl) ?_
        refine k_iald C hH aM11 dX10_greatestStage_29 ?_
        refine k_mmax C w_6_151 hl.1 (Nat.le_of_ble_eq_true rfl) (Nat.le_of_ble_eq_true rfl) ⟨Nat.zero_le _, Nat.zero_le _⟩ dX10_greatestStage_30 ?_
        refine lv_goto (tgt := 37) hx hb dX10_greatestStage_33 (by decide) ?_
        refine W_nmi (fun v4 => ?_)
        refine lv_istore_n (lv' := [(2, .int v4), (0, .ref (ad 0)), (1, .int a1), (3, .int v2)]) hx hb dX10_greatestStage_37 rfl hl (by decide) rfl (fun ls hl => ?_)
        refine W_nm (fun v5 ev5 => ?_)
        refine lv_iinc (v := v5) (lv' := [(3, .int v5), (2, .int v4), (0, .ref (ad 0)), (1, .int a1)]) hx hb dX10_greatestStage_38 hl (k := 3) rfl (by rw [ev5]; rfl) (by decide) rfl (fun ls hl => ?_)
        refine lv_goto (tgt := 4) hx hb dX10_greatestStage_41 (by decide) ?_
        exact hrec4 (v4, v5) _ _ _ hH (lv_sub hl [2, 3, 1, 0] rfl)
      · refine kb_if_lt (tgt := 23) hx hb dX10_greatestStage_12 (by decide) (fun _ => ?_) (fun _ => ?_)
        · exact hK23_12 () _ _ _ hH (lv_sub hl [0, 1, 2, 3] rfl)
        · refine lv_iload_n hx hb dX10_greatestStage_15 rfl (lv_at hl 3 rfl) ?_
          refine lv_bipush (v := 36) hx hb dX10_greatestStage_16 (by decide) ?_
          refine lv_idiv hx hb dX10_greatestStage_18 (by decide) ?_
          refine lv_iload_n hx hb dX10_greatestStage_19 rfl (lv_at hl 1 rfl) ?_
          refine kb_icmp_ne (tgt := 36) hx hb dX10_greatestStage_20 (by decide) (fun _ => ?_) (fun _ => ?_)
          · refine lv_iload_n hx hb dX10_greatestStage_36 rfl (lv_at hl 2 rfl) ?_
            refine lv_istore_n (lv' := [(2, .int v1), (0, .ref (ad 0)), (1, .int a1), (3, .int v2)]) hx hb dX10_greatestStage_37 rfl hl (by decide) rfl (fun ls hl => ?_)
            refine W_nm (fun v6 ev6 => ?_)
            refine lv_iinc (v := v6) (lv' := [(3, .int v6), (2, .int v1), (0, .ref (ad 0)), (1, .int a1)]) hx hb dX10_greatestStage_38 hl (k := 3) rfl (by rw [ev6]; rfl) (by decide) rfl (fun ls hl => ?_)
            refine lv_goto (tgt := 4) hx hb dX10_greatestStage_41 (by decide) ?_
            exact hrec4 (v1, v6) _ _ _ hH (lv_sub hl [2, 3, 1, 0] rfl)
          · exact hK23_12 () _ _ _ hH (lv_sub hl [0, 1, 2, 3] rfl)
def fX10_relationOf_J26_5 (M : KS) (a1 : Int32) (a2 : Int32) (v2 : Int32) : Option (Int32 × KS) := nm (kset M 0 6 v2) fun M3 => (if (M3.1 0 6) ≤ 0 then (fX10_derives M3).bind fun M4 => (if a2 = 0 then (fX10_holding M4 a1).bind fun v6 => some (v6, M4) else (if a2 = 1 then (fX10_toldOf M4 a1).bind fun v7 => some (v7, M4) else (if a2 = 2 then if inb a1 6 then some ((M4.1 5 a1.toNatClampNeg), M4) else none else (if a2 = 3 then (fX10_inRules M4 a1 1).bind fun v8 => some (v8, M4) else (if a2 = 4 then (fX10_inRules M4 a1 0).bind fun v9 => some (v9, M4) else (fX10_greatestStage M4 a1).bind fun v5 => some (v5, M4)))))) else some (0, M3))
theorem fX10_relationOf_J26_5_u {M : KS} {a1 : Int32} {a2 : Int32} {v2 : Int32} : fX10_relationOf_J26_5 M a1 a2 v2 = nm (kset M 0 6 v2) fun M3 => (if (M3.1 0 6) ≤ 0 then (fX10_derives M3).bind fun M4 => (if a2 = 0 then (fX10_holding M4 a1).bind fun v6 => some (v6, M4) else (if a2 = 1 then (fX10_toldOf M4 a1).bind fun v7 => some (v7, M4) else (if a2 = 2 then if inb a1 6 then some ((M4.1 5 a1.toNatClampNeg), M4) else none else (if a2 = 3 then (fX10_inRules M4 a1 1).bind fun v8 => some (v8, M4) else (if a2 = 4 then (fX10_inRules M4 a1 0).bind fun v9 => some (v9, M4) else (fX10_greatestStage M4 a1).bind fun v5 => some (v5, M4)))))) else some (0, M3)) := rfl
def fX10_relationOf (M : KS) (a1 : Int32) (a2 : Int32) : Option (Int32 × KS) := (fX10_isRelation a1).bind fun v1 => jn (fX10_relationOf_J26_5 M a1 a2) (fun K26_5 => (if v1 = 0 then K26_5 1 else (if (fX10_in a2 0 5) = 0 then K26_5 2 else K26_5 0)))
set_option maxHeartbeats 4000000 in
set_option maxRecDepth 100000 in
theorem kX10_relationOf (l : Launch) (E : KE) (ad : Nat → Nat) (M : KS) (a1 : Int32) (a2 : Int32) : CT l yX10_relationOf cX10_relationOf 3 (some .int) { frames := 7, cells := 0, slots := 0, locals := 170 } SM E ad [.ref (ad 0), .int a1, .int a2] M (QI SM E ad) (fX10_relationOf M a1 a2) := by
  refine CT.ofW (by decide) (Nat.le_of_ble_eq_true rfl) (fun sz p e s m args below meth c C hr hH ls hl => ?_)
  have hx := C.1.1
  have hb := C.1.2.1
  have hl : lv_has ls 3 [(0, .ref (ad 0)), (1, .int a1), (2, .int a2)] := hl
  unfold fX10_relationOf
  refine lv_aload_n hx hb dX10_relationOf_0 rfl (lv_at hl 0 rfl) ?_
  refine lv_iload_n hx hb dX10_relationOf_1 rfl (lv_at hl 1 rfl) ?_
  refine kg_io C hH (kc_S C hH w_6_93 w_st_yX10_isRelation rfl lc_yX10_isRelation (kX10_isRelation l E ad M a1) (As := [.int a1]) rfl dX10_relationOf_2 rfl hl.1 (Nat.le_of_ble_eq_true rfl) ⟨Nat.le_of_ble_eq_true rfl, Nat.le_of_ble_eq_true rfl⟩ ⟨Nat.le_of_ble_eq_true rfl, Nat.le_of_ble_eq_true rfl⟩) ⟨rfl, rfl⟩ (fun v1 H locs hH => ?_)
  refine W_jn (fun (x : Int32) H locs => KH SM E ad sz M s.heap H locs) (fun x ls => lv_has ls 3 [(0, .ref (ad 0)), (1, .int a1), (2, .int a2)]) (fun x ls => F0 m 26 ls [.int x, .ref (ad 0)]) ?_ (fun K26_5 hK26_5 => ?_)
  · intro v2 H locs ls hH hl
    have hH : KH SM E ad sz M s.heap H locs := hH
    have hl : lv_has ls 3 [(0, .ref (ad 0)), (1, .int a1), (2, .int a2)] := hl
    refine W_q fX10_relationOf_J26_5_u ?_
    refine k_put1 C hH fd_X10_76 fw_X10_6 oM nM6 rfl rfl dX10_relationOf_26 (fun M3 H locs hH => ?_)
    refine lv_aload_n hx hb dX10_relationOf_29 rfl (lv_at hl 0 rfl) ?_
    refine k_get C hH fd_X10_76 oM (k_int (M := M3) (ad := ad) nM6) dX10_relationOf_30 ?_
    refine kb_if_le (tgt := 38) hx hb dX10_relationOf_33 (by decide) (fun _ => ?_) (fun _ => ?_)
    · refine lv_aload_n hx hb dX10_relationOf_38 rfl (lv_at hl 0 rfl) ?_
      refine kg_v C hH (kc_V C hH w_6_121 lc_yX10_derives li_yX10_derives oM (kX10_derives l E ad M3) (As := []) rfl dX10_relationOf_39 rfl hl.1 (Nat.le_of_ble_eq_true rfl) ⟨Nat.le_of_ble_eq_true rfl, Nat.le_of_ble_eq_true rfl⟩ ⟨Nat.le_of_ble_eq_true rfl, Nat.le_of_ble_eq_true rfl⟩) ⟨rfl, rfl⟩ (fun M4 H locs hH => ?_)
      refine lv_iload_n hx hb dX10_relationOf_42 rfl (lv_at hl 2 rfl) ?_
      refine W_ite (fun hs0 => ?_) (fun hs0 => ?_)
      · refine lv_tableIn (tgt := 76) hx hb dX10_relationOf_43 (by rw [hs0]; decide) (by rw [hs0]; decide) (by rw [hs0]; rfl) (by decide) ?_
        refine lv_aload_n hx hb dX10_relationOf_76 rfl (lv_at hl 0 rfl) ?_
        refine lv_iload_n hx hb dX10_relationOf_77 rfl (lv_at hl 1 rfl) ?_
        refine kg_io C hH (kc_V C hH w_6_178 lc_yX10_holding li_yX10_holding oM (kX10_holding l E ad M4 a1) (As := [.int a1]) rfl dX10_relationOf_78 rfl hl.1 (Nat.le_of_ble_eq_true rfl) ⟨Nat.le_of_ble_eq_true rfl, Nat.le_of_ble_eq_true rfl⟩ ⟨Nat.le_of_ble_eq_true rfl, Nat.le_of_ble_eq_true rfl⟩) ⟨rfl, rfl⟩ (fun v6 H locs hH => ?_)
        exact ke_i C hH hr (Nat.le_refl _) (Nat.le_refl _) rfl dX10_relationOf_81
      · refine W_ite (fun hs1 => ?_) (fun hs1 => ?_)
        · refine lv_tableIn (tgt := 82) hx hb dX10_relationOf_43 (by rw [hs1]; decide) (by rw [hs1]; decide) (by rw [hs1]; rfl) (by decide) ?_
          refine lv_aload_n hx hb dX10_relationOf_82 rfl (lv_at hl 0 rfl) ?_
          refine lv_iload_n hx hb dX10_relationOf_83 rfl (lv_at hl 1 rfl) ?_
          refine kg_io C hH (kc_V C hH w_6_109 lc_yX10_toldOf li_yX10_toldOf oM (kX10_toldOf l E ad M4 a1) (As := [.int a1]) rfl dX10_relationOf_84 rfl hl.1 (Nat.le_of_ble_eq_true rfl) ⟨Nat.le_of_ble_eq_true rfl, Nat.le_of_ble_eq_true rfl⟩ ⟨Nat.le_of_ble_eq_true rfl, Nat.le_of_ble_eq_true rfl⟩) ⟨rfl, rfl⟩ (fun v7 H locs hH => ?_)
          exact ke_i C hH hr (Nat.le_refl _) (Nat.le_refl _) rfl dX10_relationOf_87
        · refine W_ite (fun hs2 => ?_) (fun hs2 => ?_)
          · refine lv_tableIn (tgt := 88) hx hb dX10_relationOf_43 (by rw [hs2]; decide) (by rw [hs2]; decide) (by rw [hs2]; rfl) (by decide) ?_
            refine lv_aload_n hx hb dX10_relationOf_88 rfl (lv_at hl 0 rfl) ?_
            refine k_get C hH fd_X10_22 oM (k_ref (M := M4) (ad := ad) rM10) dX10_relationOf_89 ?_
            refine lv_iload_n hx hb dX10_relationOf_92 rfl (lv_at hl 1 rfl) ?_
            refine k_iald C hH aM10 dX10_relationOf_93 ?_
            exact ke_i C hH hr (Nat.le_refl _) (Nat.le_refl _) rfl dX10_relationOf_94
          · refine W_ite (fun hs3 => ?_) (fun hs3 => ?_)
            · refine lv_tableIn (tgt := 95) hx hb dX10_relationOf_43 (by rw [hs3]; decide) (by rw [hs3]; decide) (by rw [hs3]; rfl) (by decide) ?_
              refine lv_aload_n hx hb dX10_relationOf_95 rfl (lv_at hl 0 rfl) ?_
              refine lv_iload_n hx hb dX10_relationOf_96 rfl (lv_at hl 1 rfl) ?_
              refine lv_iconst (v := 1) hx hb dX10_relationOf_97 (by decide) ?_
              refine kg_io C hH (kc_V C hH w_7_2 lc_yX10_inRules li_yX10_inRules oM (kX10_inRules l E ad M4 a1 1) (As := [.int a1, .int 1]) rfl dX10_relationOf_98 rfl hl.1 (Nat.le_of_ble_eq_true rfl) ⟨Nat.le_of_ble_eq_true rfl, Nat.le_of_ble_eq_true rfl⟩ ⟨Nat.le_of_ble_eq_true rfl, Nat.le_of_ble_eq_true rfl⟩) ⟨rfl, rfl⟩ (fun v8 H locs hH => ?_)
              exact ke_i C hH hr (Nat.le_refl _) (Nat.le_refl _) rfl dX10_relationOf_101
            · refine W_ite (fun hs4 => ?_) (fun hs4 => ?_)
              · refine lv_tableIn (tgt := 102) hx hb dX10_relationOf_43 (by rw [hs4]; decide) (by rw [hs4]; decide) (by rw [hs4]; rfl) (by decide) ?_
                refine lv_aload_n hx hb dX10_relationOf_102 rfl (lv_at hl 0 rfl) ?_
                refine lv_iload_n hx hb dX10_relationOf_103 rfl (lv_at hl 1 rfl) ?_
                refine lv_iconst (v := 0) hx hb dX10_relationOf_104 (by decide) ?_
                refine kg_io C hH (kc_V C hH w_7_2 lc_yX10_inRules li_yX10_inRules oM (kX10_inRules l E ad M4 a1 0) (As := [.int a1, .int 0]) rfl dX10_relationOf_105 rfl hl.1 (Nat.le_of_ble_eq_true rfl) ⟨Nat.le_of_ble_eq_true rfl, Nat.le_of_ble_eq_true rfl⟩ ⟨Nat.le_of_ble_eq_true rfl, Nat.le_of_ble_eq_true rfl⟩) ⟨rfl, rfl⟩ (fun v9 H locs hH => ?_)
                exact ke_i C hH hr (Nat.le_refl _) (Nat.le_refl _) rfl dX10_relationOf_108
              · refine lv_tableOut (tgt := 109) hx hb dX10_relationOf_43 (k_tab5 hs0 hs1 hs2 hs3 hs4) (by decide) ?_
                refine lv_aload_n hx hb dX10_relationOf_109 rfl (lv_at hl 0 rfl) ?_
                refine lv_iload_n hx hb dX10_relationOf_110 rfl (lv_at hl 1 rfl) ?_
                refine kg_io C hH (kc_V C hH w_7_6 lc_yX10_greatestStage li_yX10_greatestStage oM (kX10_greatestStage l E ad M4 a1) (As := [.int a1]) rfl dX10_relationOf_111 rfl hl.1 (Nat.le_of_ble_eq_true rfl) ⟨Nat.le_of_ble_eq_true rfl, Nat.le_of_ble_eq_true rfl⟩ ⟨Nat.le_of_ble_eq_true rfl, Nat.le_of_ble_eq_true rfl⟩) ⟨rfl, rfl⟩ (fun v5 H locs hH => ?_)
                exact ke_i C hH hr (Nat.le_refl _) (Nat.le_refl _) rfl dX10_relationOf_114
    · refine lv_iconst (v := 0) hx hb dX10_relationOf_36 (by decide) ?_
      exact ke_i C hH hr (Nat.le_refl _) (Nat.le_refl _) rfl dX10_relationOf_37
  · refine kb_if_ne (tgt := 12) hx hb dX10_relationOf_5 (by decide) (fun _ => ?_) (fun _ => ?_)
    · refine lv_iload_n hx hb dX10_relationOf_12 rfl (lv_at hl 2 rfl) ?_
      refine lv_iconst (v := 0) hx hb dX10_relationOf_13 (by decide) ?_
      refine lv_iconst (v := 5) hx hb dX10_relationOf_14 (by decide) ?_
      refine kg_ip C hH (kc_S C hH w_6_96 w_st_yX10_in rfl lc_yX10_in (kX10_in l E ad M a2 0 5) (As := [.int a2, .int 0, .int 5]) rfl dX10_relationOf_15 rfl hl.1 (Nat.le_of_ble_eq_true rfl) ⟨Nat.le_of_ble_eq_true rfl, Nat.le_of_ble_eq_true rfl⟩ ⟨Nat.le_of_ble_eq_true rfl, Nat.le_of_ble_eq_true rfl⟩) ⟨rfl, rfl⟩ (fun H locs hH => ?_)
      refine kb_if_ne (tgt := 25) hx hb dX10_relationOf_18 (by decide) (fun _ => ?_) (fun _ => ?_)
      · refine lv_iconst (v := 0) hx hb dX10_relationOf_25 (by decide) ?_
        exact hK26_5 0 _ _ _ hH (lv_sub hl [0, 1, 2] rfl)
      · refine lv_iconst (v := 2) hx hb dX10_relationOf_21 (by decide) ?_
        refine lv_goto (tgt := 26) hx hb dX10_relationOf_22 (by decide) ?_
        exact hK26_5 2 _ _ _ hH (lv_sub hl [0, 1, 2] rfl)
    · refine lv_iconst (v := 1) hx hb dX10_relationOf_8 (by decide) ?_
      refine lv_goto (tgt := 26) hx hb dX10_relationOf_9 (by decide) ?_
      exact hK26_5 1 _ _ _ hH (lv_sub hl [0, 1, 2] rfl)
def fX10_ranked_X35 (M3 : KS) (v6 : Int32) : Option (Int32 × KS) := some (v6, M3)
theorem fX10_ranked_X35_u {M3 : KS} {v6 : Int32} : fX10_ranked_X35 M3 v6 = some (v6, M3) := rfl
def fX10_ranked_X47 (a1 : Int32) (v4 : Int32) (v5 : Int32) (rec35 : (Int32 × Int32) → Option (Int32 × KS)) (v9 : Int32) : Option (Int32 × KS) := (if v9 = a1 then nm (v5 + 1) fun v11 => rec35 (v5, v11) else nm (v5 + 1) fun v10 => rec35 (v4, v10))
theorem fX10_ranked_X47_u {a1 : Int32} {v4 : Int32} {v5 : Int32} {rec35 : (Int32 × Int32) → Option (Int32 × KS)} {v9 : Int32} : fX10_ranked_X47 a1 v4 v5 rec35 v9 = (if v9 = a1 then nm (v5 + 1) fun v11 => rec35 (v5, v11) else nm (v5 + 1) fun v10 => rec35 (v4, v10)) := rfl
def fX10_ranked_L47 (M3 : KS) (v5 : Int32) (rec47 : (Int32 × Int32) → Option (Int32 × KS)) (k47 : (Int32) → Option (Int32 × KS)) (x : Int32 × Int32) : Option (Int32 × KS) := match x with | (v7, v8) => (if 6 ≤ v8 then k47 v7 else (fX10_holding M3 v8).bind fun v12 => (fX10_holding M3 v5).bind fun v13 => nm ((v12 - v13)) fun v14 => (if 0 < v14 then nm ((v7 + 1)) fun v15 => nm (v8 + 1) fun v16 => rec47 (v15, v16) else (if v14 = 0 then (if v5 ≤ v8 then nm ((v7 + 0)) fun v19 => nm (v8 + 1) fun v20 => rec47 (v19, v20) else nm ((v7 + 1)) fun v21 => nm (v8 + 1) fun v22 => rec47 (v21, v22)) else nm ((v7 + 0)) fun v17 => nm (v8 + 1) fun v18 => rec47 (v17, v18))))
theorem fX10_ranked_L47_u {M3 : KS} {v5 : Int32} {rec47 : (Int32 × Int32) → Option (Int32 × KS)} {k47 : (Int32) → Option (Int32 × KS)} {v7 : Int32} {v8 : Int32} : fX10_ranked_L47 M3 v5 rec47 k47 (v7, v8) = (if 6 ≤ v8 then k47 v7 else (fX10_holding M3 v8).bind fun v12 => (fX10_holding M3 v5).bind fun v13 => nm ((v12 - v13)) fun v14 => (if 0 < v14 then nm ((v7 + 1)) fun v15 => nm (v8 + 1) fun v16 => rec47 (v15, v16) else (if v14 = 0 then (if v5 ≤ v8 then nm ((v7 + 0)) fun v19 => nm (v8 + 1) fun v20 => rec47 (v19, v20) else nm ((v7 + 1)) fun v21 => nm (v8 + 1) fun v22 => rec47 (v21, v22)) else nm ((v7 + 0)) fun v17 => nm (v8 + 1) fun v18 => rec47 (v17, v18)))) := rfl
def fX10_ranked_L35 (a1 : Int32) (M3 : KS) (rec35 : (Int32 × Int32) → Option (Int32 × KS)) (k35 : (Int32) → Option (Int32 × KS)) (x : Int32 × Int32) : Option (Int32 × KS) := match x with | (v4, v5) => (if 6 ≤ v5 then k35 v4 else lp (fX10_ranked_L47 M3 v5) (fX10_ranked_X47 a1 v4 v5 rec35) 1000000 (0, 0))
theorem fX10_ranked_L35_u {a1 : Int32} {M3 : KS} {rec35 : (Int32 × Int32) → Option (Int32 × KS)} {k35 : (Int32) → Option (Int32 × KS)} {v4 : Int32} {v5 : Int32} : fX10_ranked_L35 a1 M3 rec35 k35 (v4, v5) = (if 6 ≤ v5 then k35 v4 else lp (fX10_ranked_L47 M3 v5) (fX10_ranked_X47 a1 v4 v5 rec35) 1000000 (0, 0)) := rfl
def fX10_ranked_J15_7 (M : KS) (a1 : Int32) (v1 : Int32) : Option (Int32 × KS) := nm (kset M 0 6 v1) fun M2 => (if (M2.1 0 6) ≤ 0 then (fX10_derives M2).bind fun M3 => lp (fX10_ranked_L35 a1 M3) (fX10_ranked_X35 M3) 1000000 (0, 0) else some (0, M2))
theorem fX10_ranked_J15_7_u {M : KS} {a1 : Int32} {v1 : Int32} : fX10_ranked_J15_7 M a1 v1 = nm (kset M 0 6 v1) fun M2 => (if (M2.1 0 6) ≤ 0 then (fX10_derives M2).bind fun M3 => lp (fX10_ranked_L35 a1 M3) (fX10_ranked_X35 M3) 1000000 (0, 0) else some (0, M2)) := rfl
def fX10_ranked (M : KS) (a1 : Int32) : Option (Int32 × KS) := jn (fX10_ranked_J15_7 M a1) (fun K15_7 => (if (fX10_in a1 0 5) = 0 then K15_7 1 else K15_7 0))
set_option maxHeartbeats 4000000 in
set_option maxRecDepth 100000 in
theorem kX10_ranked (l : Launch) (E : KE) (ad : Nat → Nat) (M : KS) (a1 : Int32) : CT l yX10_ranked cX10_ranked 7 (some .int) { frames := 7, cells := 0, slots := 0, locals := 170 } SM E ad [.ref (ad 0), .int a1] M (QI SM E ad) (fX10_ranked M a1) := by
  refine CT.ofW (by decide) (Nat.le_of_ble_eq_true rfl) (fun sz p e s m args below meth c C hr hH ls hl => ?_)
  have hx := C.1.1
  have hb := C.1.2.1
  have hl : lv_has ls 7 [(0, .ref (ad 0)), (1, .int a1)] := hl
  unfold fX10_ranked
  refine lv_aload_n hx hb dX10_ranked_0 rfl (lv_at hl 0 rfl) ?_
  refine lv_iload_n hx hb dX10_ranked_1 rfl (lv_at hl 1 rfl) ?_
  refine lv_iconst (v := 0) hx hb dX10_ranked_2 (by decide) ?_
  refine lv_iconst (v := 5) hx hb dX10_ranked_3 (by decide) ?_
  refine kg_ip C hH (kc_S C hH w_6_96 w_st_yX10_in rfl lc_yX10_in (kX10_in l E ad M a1 0 5) (As := [.int a1, .int 0, .int 5]) rfl dX10_ranked_4 rfl hl.1 (Nat.le_of_ble_eq_true rfl) ⟨Nat.le_of_ble_eq_true rfl, Nat.le_of_ble_eq_true rfl⟩ ⟨Nat.le_of_ble_eq_true rfl, Nat.le_of_ble_eq_true rfl⟩) ⟨rfl, rfl⟩ (fun H locs hH => ?_)
  refine W_jn (fun (x : Int32) H locs => KH SM E ad sz M s.heap H locs) (fun x ls => lv_has ls 7 [(0, .ref (ad 0)), (1, .int a1)]) (fun x ls => F0 m 15 ls [.int x, .ref (ad 0)]) ?_ (fun K15_7 hK15_7 => ?_)
  · intro v1 H locs ls hH hl
    have hH : KH SM E ad sz M s.heap H locs := hH
    have hl : lv_has ls 7 [(0, .ref (ad 0)), (1, .int a1)] := hl
    refine W_q fX10_ranked_J15_7_u ?_
    refine k_put1 C hH fd_X10_76 fw_X10_6 oM nM6 rfl rfl dX10_ranked_15 (fun M2 H locs hH => ?_)
    refine lv_aload_n hx hb dX10_ranked_18 rfl (lv_at hl 0 rfl) ?_
    refine k_get C hH fd_X10_76 oM (k_int (M := M2) (ad := ad) nM6) dX10_ranked_19 ?_
    refine kb_if_le (tgt := 27) hx hb dX10_ranked_22 (by decide) (fun _ => ?_) (fun _ => ?_)
    · refine lv_aload_n hx hb dX10_ranked_27 rfl (lv_at hl 0 rfl) ?_
      refine kg_v C hH (kc_V C hH w_6_121 lc_yX10_derives li_yX10_derives oM (kX10_derives l E ad M2) (As := []) rfl dX10_ranked_28 rfl hl.1 (Nat.le_of_ble_eq_true rfl) ⟨Nat.le_of_ble_eq_true rfl, Nat.le_of_ble_eq_true rfl⟩ ⟨Nat.le_of_ble_eq_true rfl, Nat.le_of_ble_eq_true rfl⟩) ⟨rfl, rfl⟩ (fun M3 H locs hH => ?_)
      refine lv_iconst (v := 0) hx hb dX10_ranked_31 (by decide) ?_
      refine lv_istore_n (lv' := [(2, .int 0), (0, .ref (ad 0)), (1, .int a1)]) hx hb dX10_ranked_32 rfl hl (by decide) rfl (fun ls hl => ?_)
      refine lv_iconst (v := 0) hx hb dX10_ranked_33 (by decide) ?_
      refine lv_istore_n (lv' := [(3, .int 0), (2, .int 0), (0, .ref (ad 0)), (1, .int a1)]) hx hb dX10_ranked_34 rfl hl (by decide) rfl (fun ls hl => ?_)
      refine W_lp (fun (x : Int32 × Int32) H locs => KH SM E ad sz M3 s.heap H locs) (fun x ls => lv_has ls 7 [(0, .ref (ad 0)), (1, .int a1), (2, .int x.1), (3, .int x.2)]) (fun _ ls => F0 m 35 ls []) (fun (x : Int32) H locs => KH SM E ad sz M3 s.heap H locs) (fun x ls => lv_has ls 7 [(2, .int x)]) (fun _ ls => F0 m 118 ls []) ?_ ?_ hH (lv_sub hl [2, 3, 1, 0] rfl)
      · intro v6 H locs ls hH hl
        have hH : KH SM E ad sz M3 s.heap H locs := hH
        have hl : lv_has ls 7 [(2, .int v6)] := hl
        refine W_q fX10_ranked_X35_u ?_
        refine lv_iload_n hx hb dX10_ranked_118 rfl (lv_at hl 0 rfl) ?_
        exact ke_i C hH hr (Nat.le_refl _) (Nat.le_refl _) rfl dX10_ranked_119
      · intro rec35 k35 hrec35 hk35 ⟨v4, v5⟩ H locs ls hH hl
        have hH : KH SM E ad sz M3 s.heap H locs := hH
        have hl : lv_has ls 7 [(0, .ref (ad 0)), (1, .int a1), (2, .int v4), (3, .int v5)] := hl
        refine W_q fX10_ranked_L35_u ?_
        refine lv_iload_n hx hb dX10_ranked_35 rfl (lv_at hl 3 rfl) ?_
        refine lv_bipush (v := 6) hx hb dX10_ranked_36 (by decide) ?_
        refine kb_icmp_ge (tgt := 118) hx hb dX10_ranked_38 (by decide) (fun _ => ?_) (fun _ => ?_)
        · exact hk35 v4 _ _ _ hH (lv_sub hl [2] rfl)
        · refine lv_iconst (v := 0) hx hb dX10_ranked_41 (by decide) ?_
          refine lv_istore (lv' := [(4, .int 0), (0, .ref (ad 0)), (1, .int a1), (2, .int v4), (3, .int v5)]) hx hb dX10_ranked_42 hl (by decide) rfl (fun ls hl => ?_)
          refine lv_iconst (v := 0) hx hb dX10_ranked_44 (by decide) ?_
          refine lv_istore (lv' := [(5, .int 0), (4, .int 0), (0, .ref (ad 0)), (1, .int a1), (2, .int v4), (3, .int v5)]) hx hb dX10_ranked_45 hl (by decide) rfl (fun ls hl => ?_)
          refine W_lp (fun (x : Int32 × Int32) H locs => KH SM E ad sz M3 s.heap H locs) (fun x ls => lv_has ls 7 [(0, .ref (ad 0)), (1, .int a1), (2, .int v4), (3, .int v5), (4, .int x.1), (5, .int x.2)]) (fun _ ls => F0 m 47 ls []) (fun (x : Int32) H locs => KH SM E ad sz M3 s.heap H locs) (fun x ls => lv_has ls 7 [(0, .ref (ad 0)), (1, .int a1), (2, .int v4), (3, .int v5), (4, .int x)]) (fun _ ls => F0 m 100 ls []) ?_ ?_ hH (lv_sub hl [2, 3, 4, 5, 1, 0] rfl)
          · intro v9 H locs ls hH hl
            have hH : KH SM E ad sz M3 s.heap H locs := hH
            have hl : lv_has ls 7 [(0, .ref (ad 0)), (1, .int a1), (2, .int v4), (3, .int v5), (4, .int v9)] := hl
            refine W_q fX10_ranked_X47_u ?_
            refine lv_iload hx hb dX10_ranked_100 (lv_at hl 4 rfl) ?_
            refine lv_iload_n hx hb dX10_ranked_102 rfl (lv_at hl 1 rfl) ?_
            refine kb_icmp_ne (tgt := 110) hx hb dX10_ranked_103 (by decide) (fun _ => ?_) (fun _ => ?_)
            · refine lv_iload_n hx hb dX10_ranked_110 rfl (lv_at hl 2 rfl) ?_
              refine lv_istore_n (lv' := [(2, .int v4), (0, .ref (ad 0)), (1, .int a1), (3, .int v5), (4, .int v9)]) hx hb dX10_ranked_111 rfl hl (by decide) rfl (fun ls hl => ?_)
              refine W_nm (fun v10 ev10 => ?_)
              refine lv_iinc (v := v10) (lv' := [(3, .int v10), (2, .int v4), (0, .ref (ad 0)), (1, .int a1), (4, .int v9)]) hx hb dX10_ranked_112 hl (k := 3) rfl (by rw [ev10]; rfl) (by decide) rfl (fun ls hl => ?_)
              refine lv_goto (tgt := 35) hx hb dX10_ranked_115 (by decide) ?_
              exact hrec35 (v4, v10) _ _ _ hH (lv_sub hl [2, 3, 1, 0] rfl)
            · refine lv_iload_n hx hb dX10_ranked_106 rfl (lv_at hl 3 rfl) ?_
              refine lv_goto (tgt := 111) hx hb dX10_ranked_107 (by decide) ?_
              refine lv_istore_n (lv' := [(2, .int v5), (0, .ref (ad 0)), (1, .int a1), (3, .int v5), (4, .int v9)]) hx hb dX10_ranked_111 rfl hl (by decide) rfl (fun ls hl => ?_)
              refine W_nm (fun v11 ev11 => ?_)
              refine lv_iinc (v := v11) (lv' := [(3, .int v11), (2, .int v5), (0, .ref (ad 0)), (1, .int a1), (4, .int v9)]) hx hb dX10_ranked_112 hl (k := 3) rfl (by rw [ev11]; rfl) (by decide) rfl (fun ls hl => ?_)
              refine lv_goto (tgt := 35) hx hb dX10_ranked_115 (by decide) ?_
              exact hrec35 (v5, v11) _ _ _ hH (lv_sub hl [2, 3, 1, 0] rfl)
          · intro rec47 k47 hrec47 hk47 ⟨v7, v8⟩ H locs ls hH hl
            have hH : KH SM E ad sz M3 s.heap H locs := hH
            have hl : lv_has ls 7 [(0, .ref (ad 0)), (1, .int a1), (2, .int v4), (3, .int v5), (4, .int v7), (5, .int v8)] := hl
            refine W_q fX10_ranked_L47_u ?_
            refine lv_iload hx hb dX10_ranked_47 (lv_at hl 5 rfl) ?_
            refine lv_bipush (v := 6) hx hb dX10_ranked_49 (by decide) ?_
            refine kb_icmp_ge (tgt := 100) hx hb dX10_ranked_51 (by decide) (fun _ => ?_) (fun _ => ?_)
            · exact hk47 v7 _ _ _ hH (lv_sub hl [0, 1, 2, 3, 4] rfl)
            · refine lv_aload_n hx hb dX10_ranked_54 rfl (lv_at hl 0 rfl) ?_
              refine lv_iload hx hb dX10_ranked_55 (lv_at hl 5 rfl) ?_
              refine kg_io C hH (kc_V C hH w_6_178 lc_yX10_holding li_yX10_holding oM (kX10_holding l E ad M3 v8) (As := [.int v8]) rfl dX10_ranked_57 rfl hl.1 (Nat.le_of_ble_eq_true rfl) ⟨Nat.le_of_ble_eq_true rfl, Nat.le_of_ble_eq_true rfl⟩ ⟨Nat.le_of_ble_eq_true rfl, Nat.le_of_ble_eq_true rfl⟩) ⟨rfl, rfl⟩ (fun v12 H locs hH => ?_)
              refine lv_aload_n hx hb dX10_ranked_60 rfl (lv_at hl 0 rfl) ?_
              refine lv_iload_n hx hb dX10_ranked_61 rfl (lv_at hl 3 rfl) ?_
              refine kg_io C hH (kc_V C hH w_6_178 lc_yX10_holding li_yX10_holding oM (kX10_holding l E ad M3 v5) (As := [.int v5]) rfl dX10_ranked_62 rfl hl.1 (Nat.le_of_ble_eq_true rfl) ⟨Nat.le_of_ble_eq_true rfl, Nat.le_of_ble_eq_true rfl⟩ ⟨Nat.le_of_ble_eq_true rfl, Nat.le_of_ble_eq_true rfl⟩) ⟨rfl, rfl⟩ (fun v13 H locs hH => ?_)
              refine lv_isub hx hb dX10_ranked_65 ?_
              refine W_nmi (fun v14 => ?_)
              refine lv_istore (lv' := [(6, .int v14), (0, .ref (ad 0)), (1, .int a1), (2, .int v4), (3, .int v5), (4, .int v7), (5, .int v8)]) hx hb dX10_ranked_66 hl (by decide) rfl (fun ls hl => ?_)
              refine lv_iload hx hb dX10_ranked_68 (lv_at hl 5 rfl) ?_
              refine lv_iload hx hb dX10_ranked_70 (lv_at hl 0 rfl) ?_
              refine kb_if_gt (tgt := 86) hx hb dX10_ranked_72 (by decide) (fun _ => ?_) (fun _ => ?_)
              · refine lv_iconst (v := 1) hx hb dX10_ranked_86 (by decide) ?_
                refine lv_goto (tgt := 91) hx hb dX10_ranked_87 (by decide) ?_
                refine lv_iadd hx hb dX10_ranked_91 ?_
                refine W_nmi (fun v15 => ?_)
                refine lv_istore (lv' := [(4, .int v15), (6, .int v14), (0, .ref (ad 0)), (1, .int a1), (2, .int v4), (3, .int v5), (5, .int v8)]) hx hb dX10_ranked_92 hl (by decide) rfl (fun ls hl => ?_)
                refine W_nm (fun v16 ev16 => ?_)
                refine lv_iinc (v := v16) (lv' := [(5, .int v16), (4, .int v15), (6, .int v14), (0, .ref (ad 0)), (1, .int a1), (2, .int v4), (3, .int v5)]) hx hb dX10_ranked_94 hl (k := 6) rfl (by rw [ev16]; rfl) (by decide) rfl (fun ls hl => ?_)
                refine lv_goto (tgt := 47) hx hb dX10_ranked_97 (by decide) ?_
                exact hrec47 (v15, v16) _ _ _ hH (lv_sub hl [3, 4, 5, 6, 1, 0] rfl)
              · refine lv_iload hx hb dX10_ranked_75 (lv_at hl 0 rfl) ?_
                refine kb_if_ne (tgt := 90) hx hb dX10_ranked_77 (by decide) (fun _ => ?_) (fun _ => ?_)
                · refine lv_iconst (v := 0) hx hb dX10_ranked_90 (by decide) ?_
                  refine lv_iadd hx hb dX10_ranked_91 ?_
                  refine W_nmi (fun v17 => ?_)
                  refine lv_istore (lv' := [(4, .int v17), (6, .int v14), (0, .ref (ad 0)), (1, .int a1), (2, .int v4), (3, .int v5), (5, .int v8)]) hx hb dX10_ranked_92 hl (by decide) rfl (fun ls hl => ?_)
                  refine W_nm (fun v18 ev18 => ?_)
                  refine lv_iinc (v := v18) (lv' := [(5, .int v18), (4, .int v17), (6, .int v14), (0, .ref (ad 0)), (1, .int a1), (2, .int v4), (3, .int v5)]) hx hb dX10_ranked_94 hl (k := 6) rfl (by rw [ev18]; rfl) (by decide) rfl (fun ls hl => ?_)
                  refine lv_goto (tgt := 47) hx hb dX10_ranked_97 (by decide) ?_
                  exact hrec47 (v17, v18) _ _ _ hH (lv_sub hl [3, 4, 5, 6, 1, 0] rfl)
                · refine lv_iload hx hb dX10_ranked_80 (lv_at hl 6 rfl) ?_
                  refine lv_iload_n hx hb dX10_ranked_82 rfl (lv_at hl 4 rfl) ?_
                  refine kb_icmp_ge (tgt := 90) hx hb dX10_ranked_83 (by decide) (fun _ => ?_) (fun _ => ?_)
                  · refine lv_iconst (v := 0) hx hb dX10_ranked_90 (by decide) ?_
                    refine lv_iadd hx hb dX10_ranked_91 ?_
                    refine W_nmi (fun v19 => ?_)
                    refine lv_istore (lv' := [(4, .int v19), (6, .int v14), (0, .ref (ad 0)), (1, .int a1), (2, .int v4), (3, .int v5), (5, .int v8)]) hx hb dX10_ranked_92 hl (by decide) rfl (fun ls hl => ?_)
                    refine W_nm (fun v20 ev20 => ?_)
                    refine lv_iinc (v := v20) (lv' := [(5, .int v20), (4, .int v19), (6, .int v14), (0, .ref (ad 0)), (1, .int a1), (2, .int v4), (3, .int v5)]) hx hb dX10_ranked_94 hl (k := 6) rfl (by rw [ev20]; rfl) (by decide) rfl (fun ls hl => ?_)
                    refine lv_goto (tgt := 47) hx hb dX10_ranked_97 (by decide) ?_
                    exact hrec47 (v19, v20) _ _ _ hH (lv_sub hl [3, 4, 5, 6, 1, 0] rfl)
                  · refine lv_iconst (v := 1) hx hb dX10_ranked_86 (by decide) ?_
                    refine lv_goto (tgt := 91) hx hb dX10_ranked_87 (by decide) ?_
                    refine lv_iadd hx hb dX10_ranked_91 ?_
                    refine W_nmi (fun v21 => ?_)
                    refine lv_istore (lv' := [(4, .int v21), (6, .int v14), (0, .ref (ad 0)), (1, .int a1), (2, .int v4), (3, .int v5), (5, .int v8)]) hx hb dX10_ranked_92 hl (by decide) rfl (fun ls hl => ?_)
                    refine W_nm (fun v22 ev22 => ?_)
                    refine lv_iinc (v := v22) (lv' := [(5, .int v22), (4, .int v21), (6, .int v14), (0, .ref (ad 0)), (1, .int a1), (2, .int v4), (3, .int v5)]) hx hb dX10_ranked_94 hl (k := 6) rfl (by rw [ev22]; rfl) (by decide) rfl (fun ls hl => ?_)
                    refine lv_goto (tgt := 47) hx hb dX10_ranked_97 (by decide) ?_
                    exact hrec47 (v21, v22) _ _ _ hH (lv_sub hl [3, 4, 5, 6, 1, 0] rfl)
    · refine lv_iconst (v := 0) hx hb dX10_ranked_25 (by decide) ?_
      exact ke_i C hH hr (Nat.le_refl _) (Nat.le_refl _) rfl dX10_ranked_26
  · refine kb_if_eq (tgt := 14) hx hb dX10_ranked_7 (by decide) (fun _ => ?_) (fun _ => ?_)
    · refine lv_iconst (v := 1) hx hb dX10_ranked_14 (by decide) ?_
      exact hK15_7 1 _ _ _ hH (lv_sub hl [0, 1] rfl)
    · refine lv_iconst (v := 0) hx hb dX10_ranked_10 (by decide) ?_
      refine lv_goto (tgt := 15) hx hb dX10_ranked_11 (by decide) ?_
      exact hK15_7 0 _ _ _ hH (lv_sub hl [0, 1] rfl)
def fX10_isMutual_X33 (M4 : KS) (v7 : Int32) : Option (Int32 × KS) := if isB v7 then some (v7, M4) else none
theorem fX10_isMutual_X33_u {M4 : KS} {v7 : Int32} : fX10_isMutual_X33 M4 v7 = if isB v7 then some (v7, M4) else none := rfl
def fX10_isMutual_J97_89 (v6 : Int32) (rec33 : (Int32 × Int32) → Option (Int32 × KS)) (v11 : Int32) (v12 : Int32) : Option (Int32 × KS) := (if v11 = v12 then nm (v6 + 1) fun v14 => rec33 (1, v14) else nm (v6 + 1) fun v13 => rec33 (0, v13))
theorem fX10_isMutual_J97_89_u {v6 : Int32} {rec33 : (Int32 × Int32) → Option (Int32 × KS)} {v11 : Int32} {v12 : Int32} : fX10_isMutual_J97_89 v6 rec33 v11 v12 = (if v11 = v12 then nm (v6 + 1) fun v14 => rec33 (1, v14) else nm (v6 + 1) fun v13 => rec33 (0, v13)) := rfl
def fX10_isMutual_J76_68 (a1 : Int32) (M4 : KS) (v6 : Int32) (rec33 : (Int32 × Int32) → Option (Int32 × KS)) (v8 : Int32) (v9 : Int32) (v11 : Int32) : Option (Int32 × KS) := if inb (fX10_fact a1 v9 v8) 216 then jn (fX10_isMutual_J97_89 v6 rec33 v11) (fun K97_89 => (if (M4.1 6 (fX10_fact a1 v9 v8).toNatClampNeg) < 0 then K97_89 0 else K97_89 1)) else none
theorem fX10_isMutual_J76_68_u {a1 : Int32} {M4 : KS} {v6 : Int32} {rec33 : (Int32 × Int32) → Option (Int32 × KS)} {v8 : Int32} {v9 : Int32} {v11 : Int32} : fX10_isMutual_J76_68 a1 M4 v6 rec33 v8 v9 v11 = if inb (fX10_fact a1 v9 v8) 216 then jn (fX10_isMutual_J97_89 v6 rec33 v11) (fun K97_89 => (if (M4.1 6 (fX10_fact a1 v9 v8).toNatClampNeg) < 0 then K97_89 0 else K97_89 1)) else none := rfl
def fX10_isMutual_L33 (a1 : Int32) (M4 : KS) (rec33 : (Int32 × Int32) → Option (Int32 × KS)) (k33 : (Int32) → Option (Int32 × KS)) (x : Int32 × Int32) : Option (Int32 × KS) := match x with | (v5, v6) => (if 36 ≤ v6 then k33 v5 else nm ((v6 / 6)) fun v8 => nm ((jrem v6 6)) fun v9 => (if v5 = 0 then nm (v6 + 1) fun v10 => rec33 (0, v10) else if inb (fX10_fact a1 v8 v9) 216 then jn (fX10_isMutual_J76_68 a1 M4 v6 rec33 v8 v9) (fun K76_68 => (if (M4.1 6 (fX10_fact a1 v8 v9).toNatClampNeg) < 0 then K76_68 0 else K76_68 1)) else none))
theorem fX10_isMutual_L33_u {a1 : Int32} {M4 : KS} {rec33 : (Int32 × Int32) → Option (Int32 × KS)} {k33 : (Int32) → Option (Int32 × KS)} {v5 : Int32} {v6 : Int32} : fX10_isMutual_L33 a1 M4 rec33 k33 (v5, v6) = (if 36 ≤ v6 then k33 v5 else nm ((v6 / 6)) fun v8 => nm ((jrem v6 6)) fun v9 => (if v5 = 0 then nm (v6 + 1) fun v10 => rec33 (0, v10) else if inb (fX10_fact a1 v8 v9) 216 then jn (fX10_isMutual_J76_68 a1 M4 v6 rec33 v8 v9) (fun K76_68 => (if (M4.1 6 (fX10_fact a1 v8 v9).toNatClampNeg) < 0 then K76_68 0 else K76_68 1)) else none)) := rfl
def fX10_isMutual_J13_5 (M : KS) (a1 : Int32) (v2 : Int32) : Option (Int32 × KS) := nm (kset M 0 6 v2) fun M3 => (if (M3.1 0 6) ≤ 0 then (fX10_derives M3).bind fun M4 => lp (fX10_isMutual_L33 a1 M4) (fX10_isMutual_X33 M4) 1000000 (1, 0) else some (0, M3))
theorem fX10_isMutual_J13_5_u {M : KS} {a1 : Int32} {v2 : Int32} : fX10_isMutual_J13_5 M a1 v2 = nm (kset M 0 6 v2) fun M3 => (if (M3.1 0 6) ≤ 0 then (fX10_derives M3).bind fun M4 => lp (fX10_isMutual_L33 a1 M4) (fX10_isMutual_X33 M4) 1000000 (1, 0) else some (0, M3)) := rfl
def fX10_isMutual (M : KS) (a1 : Int32) : Option (Int32 × KS) := (fX10_isRelation a1).bind fun v1 => jn (fX10_isMutual_J13_5 M a1) (fun K13_5 => (if v1 = 0 then K13_5 1 else K13_5 0))
set_option maxHeartbeats 4000000 in
set_option maxRecDepth 100000 in
theorem kX10_isMutual (l : Launch) (E : KE) (ad : Nat → Nat) (M : KS) (a1 : Int32) : CT l yX10_isMutual cX10_isMutual 6 (some .boolean) { frames := 7, cells := 0, slots := 0, locals := 170 } SM E ad [.ref (ad 0), .int a1] M (QI SM E ad) (fX10_isMutual M a1) := by
  refine CT.ofW (by decide) (Nat.le_of_ble_eq_true rfl) (fun sz p e s m args below meth c C hr hH ls hl => ?_)
  have hx := C.1.1
  have hb := C.1.2.1
  have hl : lv_has ls 6 [(0, .ref (ad 0)), (1, .int a1)] := hl
  unfold fX10_isMutual
  refine lv_aload_n hx hb dX10_isMutual_0 rfl (lv_at hl 0 rfl) ?_
  refine lv_iload_n hx hb dX10_isMutual_1 rfl (lv_at hl 1 rfl) ?_
  refine kg_io C hH (kc_S C hH w_6_93 w_st_yX10_isRelation rfl lc_yX10_isRelation (kX10_isRelation l E ad M a1) (As := [.int a1]) rfl dX10_isMutual_2 rfl hl.1 (Nat.le_of_ble_eq_true rfl) ⟨Nat.le_of_ble_eq_true rfl, Nat.le_of_ble_eq_true rfl⟩ ⟨Nat.le_of_ble_eq_true rfl, Nat.le_of_ble_eq_true rfl⟩) ⟨rfl, rfl⟩ (fun v1 H locs hH => ?_)
  refine W_jn (fun (x : Int32) H locs => KH SM E ad sz M s.heap H locs) (fun x ls => lv_has ls 6 [(0, .ref (ad 0)), (1, .int a1)]) (fun x ls => F0 m 13 ls [.int x, .ref (ad 0)]) ?_ (fun K13_5 hK13_5 => ?_)
  · intro v2 H locs ls hH hl
    have hH : KH SM E ad sz M s.heap H locs := hH
    have hl : lv_has ls 6 [(0, .ref (ad 0)), (1, .int a1)] := hl
    refine W_q fX10_isMutual_J13_5_u ?_
    refine k_put1 C hH fd_X10_76 fw_X10_6 oM nM6 rfl rfl dX10_isMutual_13 (fun M3 H locs hH => ?_)
    refine lv_aload_n hx hb dX10_isMutual_16 rfl (lv_at hl 0 rfl) ?_
    refine k_get C hH fd_X10_76 oM (k_int (M := M3) (ad := ad) nM6) dX10_isMutual_17 ?_
    refine kb_if_le (tgt := 25) hx hb dX10_isMutual_20 (by decide) (fun _ => ?_) (fun _ => ?_)
    · refine lv_aload_n hx hb dX10_isMutual_25 rfl (lv_at hl 0 rfl) ?_
      refine kg_v C hH (kc_V C hH w_6_121 lc_yX10_derives li_yX10_derives oM (kX10_derives l E ad M3) (As := []) rfl dX10_isMutual_26 rfl hl.1 (Nat.le_of_ble_eq_true rfl) ⟨Nat.le_of_ble_eq_true rfl, Nat.le_of_ble_eq_true rfl⟩ ⟨Nat.le_of_ble_eq_true rfl, Nat.le_of_ble_eq_true rfl⟩) ⟨rfl, rfl⟩ (fun M4 H locs hH => ?_)
      refine lv_iconst (v := 1) hx hb dX10_isMutual_29 (by decide) ?_
      refine lv_istore_n (lv' := [(2, .int 1), (0, .ref (ad 0)), (1, .int a1)]) hx hb dX10_isMutual_30 rfl hl (by decide) rfl (fun ls hl => ?_)
      refine lv_iconst (v := 0) hx hb dX10_isMutual_31 (by decide) ?_
      refine lv_istore_n (lv' := [(3, .int 0), (2, .int 1), (0, .ref (ad 0)), (1, .int a1)]) hx hb dX10_isMutual_32 rfl hl (by decide) rfl (fun ls hl => ?_)
      refine W_lp (fun (x : Int32 × Int32) H locs => KH SM E ad sz M4 s.heap H locs) (fun x ls => lv_has ls 6 [(0, .ref (ad 0)), (1, .int a1), (2, .int x.1), (3, .int x.2)]) (fun _ ls => F0 m 33 ls []) (fun (x : Int32) H locs => KH SM E ad sz M4 s.heap H locs) (fun x ls => lv_has ls 6 [(2, .int x)]) (fun _ ls => F0 m 112 ls []) ?_ ?_ hH (lv_sub hl [2, 3, 1, 0] rfl)
      · intro v7 H locs ls hH hl
        have hH : KH SM E ad sz M4 s.heap H locs := hH
        have hl : lv_has ls 6 [(2, .int v7)] := hl
        refine W_q fX10_isMutual_X33_u ?_
        refine lv_iload_n hx hb dX10_isMutual_112 rfl (lv_at hl 0 rfl) ?_
        exact ke_zg C hH hr (Nat.le_refl _) (Nat.le_refl _) rfl dX10_isMutual_113
      · intro rec33 k33 hrec33 hk33 ⟨v5, v6⟩ H locs ls hH hl
        have hH : KH SM E ad sz M4 s.heap H locs := hH
        have hl : lv_has ls 6 [(0, .ref (ad 0)), (1, .int a1), (2, .int v5), (3, .int v6)] := hl
        refine W_q fX10_isMutual_L33_u ?_
        refine lv_iload_n hx hb dX10_isMutual_33 rfl (lv_at hl 3 rfl) ?_
        refine lv_bipush (v := 36) hx hb dX10_isMutual_34 (by decide) ?_
        refine kb_icmp_ge (tgt := 112) hx hb dX10_isMutual_36 (by decide) (fun _ => ?_) (fun _ => ?_)
        · exact hk33 v5 _ _ _ hH (lv_sub hl [2] rfl)
        · refine lv_iload_n hx hb dX10_isMutual_39 rfl (lv_at hl 3 rfl) ?_
          refine lv_bipush (v := 6) hx hb dX10_isMutual_40 (by decide) ?_
          refine lv_idiv hx hb dX10_isMutual_42 (by decide) ?_
          refine W_nmi (fun v8 => ?_)
          refine lv_istore (lv' := [(4, .int v8), (0, .ref (ad 0)), (1, .int a1), (2, .int v5), (3, .int v6)]) hx hb dX10_isMutual_43 hl (by decide) rfl (fun ls hl => ?_)
          refine lv_iload_n hx hb dX10_isMutual_45 rfl (lv_at hl 4 rfl) ?_
          refine lv_bipush (v := 6) hx hb dX10_isMutual_46 (by decide) ?_
          refine k_irem hx hb dX10_isMutual_48 (by decide) ?_
          refine W_nmi (fun v9 => ?_)
          refine lv_istore (lv' := [(5, .int v9), (4, .int v8), (0, .ref (ad 0)), (1, .int a1), (2, .int v5), (3, .int v6)]) hx hb dX10_isMutual_49 hl (by decide) rfl (fun ls hl => ?_)
          refine lv_iload_n hx hb dX10_isMutual_51 rfl (lv_at hl 4 rfl) ?_
          refine kb_if_eq (tgt := 104) hx hb dX10_isMutual_52 (by decide) (fun _ => ?_) (fun _ => ?_)
          · refine lv_iconst (v := 0) hx hb dX10_isMutual_104 (by decide) ?_
            refine lv_istore_n (lv' := [(2, .int 0), (5, .int v9), (4, .int v8), (0, .ref (ad 0)), (1, .int a1), (3, .int v6)]) hx hb dX10_isMutual_105 rfl hl (by decide) rfl (fun ls hl => ?_)
            refine W_nm (fun v10 ev10 => ?_)
            refine lv_iinc (v := v10) (lv' := [(3, .int v10), (2, .int 0), (5, .int v9), (4, .int v8), (0, .ref (ad 0)), (1, .int a1)]) hx hb dX10_isMutual_106 hl (k := 5) rfl (by rw [ev10]; rfl) (by decide) rfl (fun ls hl => ?_)
            refine lv_goto (tgt := 33) hx hb dX10_isMutual_109 (by decide) ?_
            exact hrec33 (0, v10) _ _ _ hH (lv_sub hl [4, 5, 1, 0] rfl)
          · refine lv_aload_n hx hb dX10_isMutual_55 rfl (lv_at hl 2 rfl) ?_
            refine k_get C hH fd_X10_25 oM (k_ref (M := M4) (ad := ad) rM11) dX10_isMutual_56 ?_
            refine lv_iload_n hx hb dX10_isMutual_59 rfl (lv_at hl 3 rfl) ?_
            refine lv_iload hx hb dX10_isMutual_60 (lv_at hl 1 rfl) ?_
            refine lv_iload hx hb dX10_isMutual_62 (lv_at hl 0 rfl) ?_
            refine kg_ip C hH (kc_S C hH w_6_106 w_st_yX10_fact rfl lc_yX10_fact (kX10_fact l E ad M4 a1 v8 v9) (As := [.int a1, .int v8, .int v9]) rfl dX10_isMutual_64 rfl hl.1 (Nat.le_of_ble_eq_true rfl) ⟨Nat.le_of_ble_eq_true rfl, Nat.le_of_ble_eq_true rfl⟩ ⟨Nat.le_of_ble_eq_true rfl, Nat.le_of_ble_eq_true rfl⟩) ⟨rfl, rfl⟩ (fun H locs hH => ?_)
            refine k_iald C hH aM11 dX10_isMutual_67 ?_
            refine W_jn (fun (x : Int32) H locs => KH SM E ad sz M4 s.heap H locs) (fun x ls => lv_has ls 6 [(5, .int v9), (4, .int v8), (0, .ref (ad 0)), (1, .int a1), (3, .int v6)]) (fun x ls => F0 m 76 ls [.int x]) ?_ (fun K76_68 hK76_68 => ?_)
            · intro v11 H locs ls hH hl
              have hH : KH SM E ad sz M4 s.heap H locs := hH
              have hl : lv_has ls 6 [(5, .int v9), (4, .int v8), (0, .ref (ad 0)), (1, .int a1), (3, .int v6)] := hl
              refine W_q fX10_isMutual_J76_68_u ?_
              refine lv_aload_n hx hb dX10_isMutual_76 rfl (lv_at hl 2 rfl) ?_
              refine k_get C hH fd_X10_25 oM (k_ref (M := M4) (ad := ad) rM11) dX10_isMutual_77 ?_
              refine lv_iload_n hx hb dX10_isMutual_80 rfl (lv_at hl 3 rfl) ?_
              refine lv_iload hx hb dX10_isMutual_81 (lv_at hl 0 rfl) ?_
              refine lv_iload hx hb dX10_isMutual_83 (lv_at hl 1 rfl) ?_
              refine kg_ip C hH (kc_S C hH w_6_106 w_st_yX10_fact rfl lc_yX10_fact (kX10_fact l E ad M4 a1 v9 v8) (As := [.int a1, .int v9, .int v8]) rfl dX10_isMutual_85 rfl hl.1 (Nat.le_of_ble_eq_true rfl) ⟨Nat.le_of_ble_eq_true rfl, Nat.le_of_ble_eq_true rfl⟩ ⟨Nat.le_of_ble_eq_true rfl, Nat.le_of_ble_eq_true rfl⟩) ⟨rfl, rfl⟩ (fun H locs hH => ?_)
              refine k_iald C hH aM11 dX10_isMutual_88 ?_
              refine W_jn (fun (x : Int32) H locs => KH SM E ad sz M4 s.heap H locs) (fun x ls => lv_has ls 6 [(0, .ref (ad 0)), (1, .int a1), (3, .int v6)]) (fun x ls => F0 m 97 ls [.int x, .int v11]) ?_ (fun K97_89 hK97_89 => ?_)
              · intro v12 H locs ls hH hl
                have hH : KH SM E ad sz M4 s.heap H locs := hH
                have hl : lv_has ls 6 [(0, .ref (ad 0)), (1, .int a1), (3, .int v6)] := hl
                refine W_q fX10_isMutual_J97_89_u ?_
                refine kb_icmp_ne (tgt := 104) hx hb dX10_isMutual_97 (by decide) (fun _ => ?_) (fun _ => ?_)
                · refine lv_iconst (v := 0) hx hb dX10_isMutual_104 (by decide) ?_
                  refine lv_istore_n (lv' := [(2, .int 0), (0, .ref (ad 0)), (1, .int a1), (3, .int v6)]) hx hb dX10_isMutual_105 rfl hl (by decide) rfl (fun ls hl => ?_)
                  refine W_nm (fun v13 ev13 => ?_)
                  refine lv_iinc (v := v13) (lv' := [(3, .int v13), (2, .int 0), (0, .ref (ad 0)), (1, .int a1)]) hx hb dX10_isMutual_106 hl (k := 3) rfl (by rw [ev13]; rfl) (by decide) rfl (fun ls hl => ?_)
                  refine lv_goto (tgt := 33) hx hb dX10_isMutual_109 (by decide) ?_
                  exact hrec33 (0, v13) _ _ _ hH (lv_sub hl [2, 3, 1, 0] rfl)
                · refine lv_iconst (v := 1) hx hb dX10_isMutual_100 (by decide) ?_
                  refine lv_goto (tgt := 105) hx hb dX10_isMutual_101 (by decide) ?_
                  refine lv_istore_n (lv' := [(2, .int 1), (0, .ref (ad 0)), (1, .int a1), (3, .int v6)]) hx hb dX10_isMutual_105 rfl hl (by decide) rfl (fun ls hl => ?_)
                  refine W_nm (fun v14 ev14 => ?_)
                  refine lv_iinc (v := v14) (lv' := [(3, .int v14), (2, .int 1), (0, .ref (ad 0)), (1, .int a1)]) hx hb dX10_isMutual_106 hl (k := 3) rfl (by rw [ev14]; rfl) (by decide) rfl (fun ls hl => ?_)
                  refine lv_goto (tgt := 33) hx hb dX10_isMutual_109 (by decide) ?_
                  exact hrec33 (1, v14) _ _ _ hH (lv_sub hl [2, 3, 1, 0] rfl)
              · refine kb_if_lt (tgt := 96) hx hb dX10_isMutual_89 (by decide) (fun _ => ?_) (fun _ => ?_)
                · refine lv_iconst (v := 0) hx hb dX10_isMutual_96 (by decide) ?_
                  exact hK97_89 0 _ _ _ hH (lv_sub hl [2, 3, 4] rfl)
                · refine lv_iconst (v := 1) hx hb dX10_isMutual_92 (by decide) ?_
                  refine lv_goto (tgt := 97) hx hb dX10_isMutual_93 (by decide) ?_
                  exact hK97_89 1 _ _ _ hH (lv_sub hl [2, 3, 4] rfl)
            · refine kb_if_lt (tgt := 75) hx hb dX10_isMutual_68 (by decide) (fun _ => ?_) (fun _ => ?_)
              · refine lv_iconst (v := 0) hx hb dX10_isMutual_75 (by decide) ?_
                exact hK76_68 0 _ _ _ hH (lv_sub hl [0, 1, 2, 3, 5] rfl)
              · refine lv_iconst (v := 1) hx hb dX10_isMutual_71 (by decide) ?_
                refine lv_goto (tgt := 76) hx hb dX10_isMutual_72 (by decide) ?_
                exact hK76_68 1 _ _ _ hH (lv_sub hl [0, 1, 2, 3, 5] rfl)
    · refine lv_iconst (v := 0) hx hb dX10_isMutual_23 (by decide) ?_
      exact ke_z C hH hr (Nat.le_refl _) (Nat.le_refl _) rfl (Or.inl rfl) dX10_isMutual_24
  · refine kb_if_eq (tgt := 12) hx hb dX10_isMutual_5 (by decide) (fun _ => ?_) (fun _ => ?_)
    · refine lv_iconst (v := 1) hx hb dX10_isMutual_12 (by decide) ?_
      exact hK13_5 1 _ _ _ hH (lv_sub hl [0, 1] rfl)
    · refine lv_iconst (v := 0) hx hb dX10_isMutual_8 (by decide) ?_
      refine lv_goto (tgt := 13) hx hb dX10_isMutual_9 (by decide) ?_
      exact hK13_5 0 _ _ _ hH (lv_sub hl [0, 1] rfl)
def fX10_writes_J70_60 (M : KS) (a1 : Int32) (a2 : Int32) (a3 : Int32) (a4 : Int32) (_ : Unit) : Option (Int32 × KS) := if inb 216 257 then nm ((217 + (4 * (M.1 1 (216 : Int32).toNatClampNeg)))) fun v3 => if inb 216 257 then (if 10 ≤ (M.1 1 (216 : Int32).toNatClampNeg) then some (1, M) else if inb v3 257 then nm (kset M 1 v3.toNatClampNeg a1) fun M4 => if inb (v3 + 1) 257 then nm (kset M4 1 (v3 + 1).toNatClampNeg a2) fun M5 => if inb (v3 + 2) 257 then nm (kset M5 1 (v3 + 2).toNatClampNeg a3) fun M6 => if inb (v3 + 3) 257 then nm (kset M6 1 (v3 + 3).toNatClampNeg a4) fun M7 => some (1, M7) else none else none else none else none) else none else none
theorem fX10_writes_J70_60_u {M : KS} {a1 : Int32} {a2 : Int32} {a3 : Int32} {a4 : Int32} {u : Unit} : fX10_writes_J70_60 M a1 a2 a3 a4 u = if inb 216 257 then nm ((217 + (4 * (M.1 1 (216 : Int32).toNatClampNeg)))) fun v3 => if inb 216 257 then (if 10 ≤ (M.1 1 (216 : Int32).toNatClampNeg) then some (1, M) else if inb v3 257 then nm (kset M 1 v3.toNatClampNeg a1) fun M4 => if inb (v3 + 1) 257 then nm (kset M4 1 (v3 + 1).toNatClampNeg a2) fun M5 => if inb (v3 + 2) 257 then nm (kset M5 1 (v3 + 2).toNatClampNeg a3) fun M6 => if inb (v3 + 3) 257 then nm (kset M6 1 (v3 + 3).toNatClampNeg a4) fun M7 => some (1, M7) else none else none else none else none) else none else none := rfl
def fX10_writes_J45_10 (M : KS) (a1 : Int32) (a2 : Int32) (a3 : Int32) (a4 : Int32) (v1 : Int32) : Option (Int32 × KS) := (fX10_isRelation a1).bind fun v2 => (if v2 = 0 then some (0, M) else (if v1 = 0 then some (0, M) else jn (fX10_writes_J70_60 M a1 a2 a3 a4) (fun K70_60 => (if a3 = 0 then (if a4 = 0 then K70_60 () else some (0, M)) else K70_60 ()))))
theorem fX10_writes_J45_10_u {M : KS} {a1 : Int32} {a2 : Int32} {a3 : Int32} {a4 : Int32} {v1 : Int32} : fX10_writes_J45_10 M a1 a2 a3 a4 v1 = (fX10_isRelation a1).bind fun v2 => (if v2 = 0 then some (0, M) else (if v1 = 0 then some (0, M) else jn (fX10_writes_J70_60 M a1 a2 a3 a4) (fun K70_60 => (if a3 = 0 then (if a4 = 0 then K70_60 () else some (0, M)) else K70_60 ())))) := rfl
def fX10_writes (M : KS) (a1 : Int32) (a2 : Int32) (a3 : Int32) (a4 : Int32) : Option (Int32 × KS) := jn (fX10_writes_J45_10 M a1 a2 a3 a4) (fun K45_10 => (if (fX10_in (jabs a2) 1 54) = 0 then K45_10 0 else (if (fX10_in (jabs a3) 0 54) = 0 then K45_10 0 else (if (fX10_in (jabs a4) 0 54) = 0 then K45_10 0 else K45_10 1))))
set_option maxHeartbeats 4000000 in
set_option maxRecDepth 100000 in
theorem kX10_writes (l : Launch) (E : KE) (ad : Nat → Nat) (M : KS) (a1 : Int32) (a2 : Int32) (a3 : Int32) (a4 : Int32) : CT l yX10_writes cX10_writes 7 (some .boolean) { frames := 2, cells := 0, slots := 0, locals := 42 } SM E ad [.ref (ad 0), .int a1, .int a2, .int a3, .int a4] M (QI SM E ad) (fX10_writes M a1 a2 a3 a4) := by
  refine CT.ofW (by decide) (Nat.le_of_ble_eq_true rfl) (fun sz p e s m args below meth c C hr hH ls hl => ?_)
  have hx := C.1.1
  have hb := C.1.2.1
  have hl : lv_has ls 7 [(0, .ref (ad 0)), (1, .int a1), (2, .int a2), (3, .int a3), (4, .int a4)] := hl
  unfold fX10_writes
  refine lv_iload_n hx hb dX10_writes_0 rfl (lv_at hl 2 rfl) ?_
  refine k_mabs C w_6_140 hl.1 (Nat.le_of_ble_eq_true rfl) (Nat.le_of_ble_eq_true rfl) ⟨Nat.zero_le _, Nat.zero_le _⟩ dX10_writes_1 ?_
  refine lv_iconst (v := 1) hx hb dX10_writes_4 (by decide) ?_
  refine lv_bipush (v := 54) hx hb dX10_writes_5 (by decide) ?_
  refine kg_ip C hH (kc_S C hH w_6_96 w_st_yX10_in rfl lc_yX10_in (kX10_in l E ad M (jabs a2) 1 54) (As := [.int (jabs a2), .int 1, .int 54]) rfl dX10_writes_7 rfl hl.1 (Nat.le_of_ble_eq_true rfl) ⟨Nat.le_of_ble_eq_true rfl, Nat.le_of_ble_eq_true rfl⟩ ⟨Nat.le_of_ble_eq_true rfl, Nat.le_of_ble_eq_true rfl⟩) ⟨rfl, rfl⟩ (fun H locs hH => ?_)
  refine W_jn (fun (x : Int32) H locs => KH SM E ad sz M s.heap H locs) (fun x ls => lv_has ls 7 [(0, .ref (ad 0)), (1, .int a1), (2, .int a2), (3, .int a3), (4, .int a4)]) (fun x ls => F0 m 45 ls [.int x]) ?_ (fun K45_10 hK45_10 => ?_)
  · intro v1 H locs ls hH hl
    have hH : KH SM E ad sz M s.heap H locs := hH
    have hl : lv_has ls 7 [(0, .ref (ad 0)), (1, .int a1), (2, .int a2), (3, .int a3), (4, .int a4)] := hl
    refine W_q fX10_writes_J45_10_u ?_
    refine lv_istore (lv' := [(5, .int v1), (0, .ref (ad 0)), (1, .int a1), (2, .int a2), (3, .int a3), (4, .int a4)]) hx hb dX10_writes_45 hl (by decide) rfl (fun ls hl => ?_)
    refine lv_iload_n hx hb dX10_writes_47 rfl (lv_at hl 2 rfl) ?_
    refine kg_io C hH (kc_S C hH w_6_93 w_st_yX10_isRelation rfl lc_yX10_isRelation (kX10_isRelation l E ad M a1) (As := [.int a1]) rfl dX10_writes_48 rfl hl.1 (Nat.le_of_ble_eq_true rfl) ⟨Nat.le_of_ble_eq_true rfl, Nat.le_of_ble_eq_true rfl⟩ ⟨Nat.le_of_ble_eq_true rfl, Nat.le_of_ble_eq_true rfl⟩) ⟨rfl, rfl⟩ (fun v2 H locs hH => ?_)
    refine kb_if_eq (tgt := 68) hx hb dX10_writes_51 (by decide) (fun _ => ?_) (fun _ => ?_)
    · refine lv_iconst (v := 0) hx hb dX10_writes_68 (by decide) ?_
      exact ke_z C hH hr (Nat.le_refl _) (Nat.le_refl _) rfl (Or.inl rfl) dX10_writes_69
    · refine lv_iload hx hb dX10_writes_54 (lv_at hl 0 rfl) ?_
      refine kb_if_eq (tgt := 68) hx hb dX10_writes_56 (by decide) (fun _ => ?_) (fun _ => ?_)
      · refine lv_iconst (v := 0) hx hb dX10_writes_68 (by decide) ?_
        exact ke_z C hH hr (Nat.le_refl _) (Nat.le_refl _) rfl (Or.inl rfl) dX10_writes_69
      · refine lv_iload_n hx hb dX10_writes_59 rfl (lv_at hl 4 rfl) ?_
        refine W_jn (fun (x : Unit) H locs => KH SM E ad sz M s.heap H locs) (fun x ls => lv_has ls 7 [(0, .ref (ad 0)), (1, .int a1), (2, .int a2), (3, .int a3), (4, .int a4)]) (fun x ls => F0 m 70 ls []) ?_ (fun K70_60 hK70_60 => ?_)
        · intro _ H locs ls hH hl
          have hH : KH SM E ad sz M s.heap H locs := hH
          have hl : lv_has ls 7 [(0, .ref (ad 0)), (1, .int a1), (2, .int a2), (3, .int a3), (4, .int a4)] := hl
          refine W_q fX10_writes_J70_60_u ?_
          refine lv_sipush (v := 217) hx hb dX10_writes_70 (by decide) ?_
          refine lv_iconst (v := 4) hx hb dX10_writes_73 (by decide) ?_
          refine lv_aload_n hx hb dX10_writes_74 rfl (lv_at hl 0 rfl) ?_
          refine k_get C hH fd_X10_9 oM (k_ref (M := M) (ad := ad) rM0) dX10_writes_75 ?_
          refine lv_sipush (v := 216) hx hb dX10_writes_78 (by decide) ?_
          refine k_iald C hH aM0 dX10_writes_81 ?_
          refine lv_imul hx hb dX10_writes_82 ?_
          refine lv_iadd hx hb dX10_writes_83 ?_
          refine W_nmi (fun v3 => ?_)
          refine lv_istore (lv' := [(6, .int v3), (0, .ref (ad 0)), (1, .int a1), (2, .int a2), (3, .int a3), (4, .int a4)]) hx hb dX10_writes_84 hl (by decide) rfl (fun ls hl => ?_)
          refine lv_aload_n hx hb dX10_writes_86 rfl (lv_at hl 1 rfl) ?_
          refine k_get C hH fd_X10_9 oM (k_ref (M := M) (ad := ad) rM0) dX10_writes_87 ?_
          refine lv_sipush (v := 216) hx hb dX10_writes_90 (by decide) ?_
          refine k_iald C hH aM0 dX10_writes_93 ?_
          refine lv_bipush (v := 10) hx hb dX10_writes_94 (by decide) ?_
          refine kb_icmp_ge (tgt := 138) hx hb dX10_writes_96 (by decide) (fun _ => ?_) (fun _ => ?_)
          · refine lv_iconst (v := 1) hx hb dX10_writes_138 (by decide) ?_
            exact ke_z C hH hr (Nat.le_refl _) (Nat.le_refl _) rfl (Or.inr rfl) dX10_writes_139
          · refine lv_aload_n hx hb dX10_writes_99 rfl (lv_at hl 1 rfl) ?_
            refine k_get C hH fd_X10_9 oM (k_ref (M := M) (ad := ad) rM0) dX10_writes_100 ?_
            refine lv_iload hx hb dX10_writes_103 (lv_at hl 0 rfl) ?_
            refine lv_iload_n hx hb dX10_writes_105 rfl (lv_at hl 2 rfl) ?_
            refine k_iast C hH aM0 dX10_writes_106 (fun M4 H locs hH => ?_)
            refine lv_aload_n hx hb dX10_writes_107 rfl (lv_at hl 1 rfl) ?_
            refine k_get C hH fd_X10_9 oM (k_ref (M := M4) (ad := ad) rM0) dX10_writes_108 ?_
            refine lv_iload hx hb dX10_writes_111 (lv_at hl 0 rfl) ?_
            refine lv_iconst (v := 1) hx hb dX10_writes_113 (by decide) ?_
            refine lv_iadd hx hb dX10_writes_114 ?_
            refine lv_iload_n hx hb dX10_writes_115 rfl (lv_at hl 3 rfl) ?_
            refine k_iast C hH aM0 dX10_writes_116 (fun M5 H locs hH => ?_)
            refine lv_aload_n hx hb dX10_writes_117 rfl (lv_at hl 1 rfl) ?_
            refine k_get C hH fd_X10_9 oM (k_ref (M := M5) (ad := ad) rM0) dX10_writes_118 ?_
            refine lv_iload hx hb dX10_writes_121 (lv_at hl 0 rfl) ?_
            refine lv_iconst (v := 2) hx hb dX10_writes_123 (by decide) ?_
            refine lv_iadd hx hb dX10_writes_124 ?_
            refine lv_iload_n hx hb dX10_writes_125 rfl (lv_at hl 4 rfl) ?_
            refine k_iast C hH aM0 dX10_writes_126 (fun M6 H locs hH => ?_)
            refine lv_aload_n hx hb dX10_writes_127 rfl (lv_at hl 1 rfl) ?_
            refine k_get C hH fd_X10_9 oM (k_ref (M := M6) (ad := ad) rM0) dX10_writes_128 ?_
            refine lv_iload hx hb dX10_writes_131 (lv_at hl 0 rfl) ?_
            refine lv_iconst (v := 3) hx hb dX10_writes_133 (by decide) ?_
            refine lv_iadd hx hb dX10_writes_134 ?_
            refine lv_iload hx hb dX10_writes_135 (lv_at hl 5 rfl) ?_
            refine k_iast C hH aM0 dX10_writes_137 (fun M7 H locs hH => ?_)
            refine lv_iconst (v := 1) hx hb dX10_writes_138 (by decide) ?_
            exact ke_z C hH hr (Nat.le_refl _) (Nat.le_refl _) rfl (Or.inr rfl) dX10_writes_139
        · refine kb_if_ne (tgt := 70) hx hb dX10_writes_60 (by decide) (fun _ => ?_) (fun _ => ?_)
          · exact hK70_60 () _ _ _ hH (lv_sub hl [1, 2, 3, 4, 5] rfl)
          · refine lv_iload hx hb dX10_writes_63 (lv_at hl 5 rfl) ?_
            refine kb_if_eq (tgt := 70) hx hb dX10_writes_65 (by decide) (fun _ => ?_) (fun _ => ?_)
            · exact hK70_60 () _ _ _ hH (lv_sub hl [1, 2, 3, 4, 5] rfl)
            · refine lv_iconst (v := 0) hx hb dX10_writes_68 (by decide) ?_
              exact ke_z C hH hr (Nat.le_refl _) (Nat.le_refl _) rfl (Or.inl rfl) dX10_writes_69
  · refine kb_if_eq (tgt := 44) hx hb dX10_writes_10 (by decide) (fun _ => ?_) (fun _ => ?_)
    · refine lv_iconst (v := 0) hx hb dX10_writes_44 (by decide) ?_
      exact hK45_10 0 _ _ _ hH (lv_sub hl [0, 1, 2, 3, 4] rfl)
    · refine lv_iload_n hx hb dX10_writes_13 rfl (lv_at hl 3 rfl) ?_
      refine k_mabs C w_6_140 hl.1 (Nat.le_of_ble_eq_true rfl) (Nat.le_of_ble_eq_true rfl) ⟨Nat.zero_le _, Nat.zero_le _⟩ dX10_writes_14 ?_
      refine lv_iconst (v := 0) hx hb dX10_writes_17 (by decide) ?_
      refine lv_bipush (v := 54) hx hb dX10_writes_18 (by decide) ?_
      refine kg_ip C hH (kc_S C hH w_6_96 w_st_yX10_in rfl lc_yX10_in (kX10_in l E ad M (jabs a3) 0 54) (As := [.int (jabs a3), .int 0, .int 54]) rfl dX10_writes_20 rfl hl.1 (Nat.le_of_ble_eq_true rfl) ⟨Nat.le_of_ble_eq_true rfl, Nat.le_of_ble_eq_true rfl⟩ ⟨Nat.le_of_ble_eq_true rfl, Nat.le_of_ble_eq_true rfl⟩) ⟨rfl, rfl⟩ (fun H locs hH => ?_)
      refine kb_if_eq (tgt := 44) hx hb dX10_writes_23 (by decide) (fun _ => ?_) (fun _ => ?_)
      · refine lv_iconst (v := 0) hx hb dX10_writes_44 (by decide) ?_
        exact hK45_10 0 _ _ _ hH (lv_sub hl [0, 1, 2, 3, 4] rfl)
      · refine lv_iload hx hb dX10_writes_26 (lv_at hl 4 rfl) ?_
        refine k_mabs C w_6_140 hl.1 (Nat.le_of_ble_eq_true rfl) (Nat.le_of_ble_eq_true rfl) ⟨Nat.zero_le _, Nat.zero_le _⟩ dX10_writes_28 ?_
        refine lv_iconst (v := 0) hx hb dX10_writes_31 (by decide) ?_
        refine lv_bipush (v := 54) hx hb dX10_writes_32 (by decide) ?_
        refine kg_ip C hH (kc_S C hH w_6_96 w_st_yX10_in rfl lc_yX10_in (kX10_in l E ad M (jabs a4) 0 54) (As := [.int (jabs a4), .int 0, .int 54]) rfl dX10_writes_34 rfl hl.1 (Nat.le_of_ble_eq_true rfl) ⟨Nat.le_of_ble_eq_true rfl, Nat.le_of_ble_eq_true rfl⟩ ⟨Nat.le_of_ble_eq_true rfl, Nat.le_of_ble_eq_true rfl⟩) ⟨rfl, rfl⟩ (fun H locs hH => ?_)
        refine kb_if_eq (tgt := 44) hx hb dX10_writes_37 (by decide) (fun _ => ?_) (fun _ => ?_)
        · refine lv_iconst (v := 0) hx hb dX10_writes_44 (by decide) ?_
          exact hK45_10 0 _ _ _ hH (lv_sub hl [0, 1, 2, 3, 4] rfl)
        · refine lv_iconst (v := 1) hx hb dX10_writes_40 (by decide) ?_
          refine lv_goto (tgt := 45) hx hb dX10_writes_41 (by decide) ?_
          exact hK45_10 1 _ _ _ hH (lv_sub hl [0, 1, 2, 3, 4] rfl)
def fX10_unsafe_X4 (v3 : Int32) : Option (Int32) := some v3
theorem fX10_unsafe_X4_u {v3 : Int32} : fX10_unsafe_X4 v3 = some v3 := rfl
def fX10_unsafe_X25 (v1 : Int32) (v2 : Int32) (rec4 : (Int32 × Int32) → Option (Int32)) (x : Int32 × Int32) : Option (Int32) := match x with | (v8, v9) => (if v8 = 0 then nm (v2 + (-1)) fun v10 => rec4 (v1, v10) else (if v9 = 0 then nm (v2 + (-1)) fun v12 => rec4 (v2, v12) else nm (v2 + (-1)) fun v11 => rec4 (v1, v11)))
theorem fX10_unsafe_X25_u {v1 : Int32} {v2 : Int32} {rec4 : (Int32 × Int32) → Option (Int32)} {v8 : Int32} {v9 : Int32} : fX10_unsafe_X25 v1 v2 rec4 (v8, v9) = (if v8 = 0 then nm (v2 + (-1)) fun v10 => rec4 (v1, v10) else (if v9 = 0 then nm (v2 + (-1)) fun v12 => rec4 (v2, v12) else nm (v2 + (-1)) fun v11 => rec4 (v1, v11))) := rfl
def fX10_unsafe_J64_32 (M : KS) (v2 : Int32) (v6 : Int32) (v7 : Int32) (rec25 : (Int32 × Int32 × Int32) → Option (Int32)) (v13 : Int32) : Option (Int32) := (if v6 = 0 then if inb v7 3 then (if (M.1 15 v7.toNatClampNeg) ≤ 0 then nm (v7 + 1) fun v15 => rec25 (v13, 0, v15) else if inb v7 3 then (fX10_hasLetter (M.1 15 v7.toNatClampNeg) v2).bind fun v16 => (if v16 = 0 then nm (v7 + 1) fun v17 => rec25 (v13, 0, v17) else nm (v7 + 1) fun v18 => rec25 (v13, 1, v18)) else none) else none else nm (v7 + 1) fun v14 => rec25 (v13, 1, v14))
theorem fX10_unsafe_J64_32_u {M : KS} {v2 : Int32} {v6 : Int32} {v7 : Int32} {rec25 : (Int32 × Int32 × Int32) → Option (Int32)} {v13 : Int32} : fX10_unsafe_J64_32 M v2 v6 v7 rec25 v13 = (if v6 = 0 then if inb v7 3 then (if (M.1 15 v7.toNatClampNeg) ≤ 0 then nm (v7 + 1) fun v15 => rec25 (v13, 0, v15) else if inb v7 3 then (fX10_hasLetter (M.1 15 v7.toNatClampNeg) v2).bind fun v16 => (if v16 = 0 then nm (v7 + 1) fun v17 => rec25 (v13, 0, v17) else nm (v7 + 1) fun v18 => rec25 (v13, 1, v18)) else none) else none else nm (v7 + 1) fun v14 => rec25 (v13, 1, v14)) := rfl
def fX10_unsafe_L25 (M : KS) (v2 : Int32) (rec25 : (Int32 × Int32 × Int32) → Option (Int32)) (k25 : (Int32 × Int32) → Option (Int32)) (x : Int32 × Int32 × Int32) : Option (Int32) := match x with | (v5, v6, v7) => (if 3 ≤ v7 then k25 (v5, v6) else jn (fX10_unsafe_J64_32 M v2 v6 v7 rec25) (fun K64_32 => (if v5 = 0 then if inb v7 3 then (if 0 ≤ (M.1 15 v7.toNatClampNeg) then K64_32 0 else if inb v7 3 then (fX10_hasLetter (M.1 15 v7.toNatClampNeg) v2).bind fun v19 => (if v19 = 0 then K64_32 0 else K64_32 1) else none) else none else K64_32 1)))
theorem fX10_unsafe_L25_u {M : KS} {v2 : Int32} {rec25 : (Int32 × Int32 × Int32) → Option (Int32)} {k25 : (Int32 × Int32) → Option (Int32)} {v5 : Int32} {v6 : Int32} {v7 : Int32} : fX10_unsafe_L25 M v2 rec25 k25 (v5, v6, v7) = (if 3 ≤ v7 then k25 (v5, v6) else jn (fX10_unsafe_J64_32 M v2 v6 v7 rec25) (fun K64_32 => (if v5 = 0 then if inb v7 3 then (if 0 ≤ (M.1 15 v7.toNatClampNeg) then K64_32 0 else if inb v7 3 then (fX10_hasLetter (M.1 15 v7.toNatClampNeg) v2).bind fun v19 => (if v19 = 0 then K64_32 0 else K64_32 1) else none) else none else K64_32 1))) := rfl
def fX10_unsafe_J18_10 (M : KS) (v1 : Int32) (v2 : Int32) (rec4 : (Int32 × Int32) → Option (Int32)) (v4 : Int32) : Option (Int32) := lp (fX10_unsafe_L25 M v2) (fX10_unsafe_X25 v1 v2 rec4) 1000000 (v4, 0, 0)
theorem fX10_unsafe_J18_10_u {M : KS} {v1 : Int32} {v2 : Int32} {rec4 : (Int32 × Int32) → Option (Int32)} {v4 : Int32} : fX10_unsafe_J18_10 M v1 v2 rec4 v4 = lp (fX10_unsafe_L25 M v2) (fX10_unsafe_X25 v1 v2 rec4) 1000000 (v4, 0, 0) := rfl
def fX10_unsafe_L4 (M : KS) (rec4 : (Int32 × Int32) → Option (Int32)) (k4 : (Int32) → Option (Int32)) (x : Int32 × Int32) : Option (Int32) := match x with | (v1, v2) => (if v2 < 0 then k4 v1 else jn (fX10_unsafe_J18_10 M v1 v2 rec4) (fun K18_10 => (if 2 ≤ v2 then K18_10 0 else K18_10 1)))
theorem fX10_unsafe_L4_u {M : KS} {rec4 : (Int32 × Int32) → Option (Int32)} {k4 : (Int32) → Option (Int32)} {v1 : Int32} {v2 : Int32} : fX10_unsafe_L4 M rec4 k4 (v1, v2) = (if v2 < 0 then k4 v1 else jn (fX10_unsafe_J18_10 M v1 v2 rec4) (fun K18_10 => (if 2 ≤ v2 then K18_10 0 else K18_10 1))) := rfl
def fX10_unsafe (M : KS)  : Option (Int32) := lp (fX10_unsafe_L4 M) (fX10_unsafe_X4) 1000000 ((-1), 2)
set_option maxHeartbeats 4000000 in
set_option maxRecDepth 100000 in
theorem kX10_unsafe (l : Launch) (E : KE) (ad : Nat → Nat) (M : KS)  : CT l yX10_unsafe cX10_unsafe 6 (some .int) { frames := 3, cells := 0, slots := 0, locals := 67 } SM E ad [.ref (ad 0)] M (fun sz a => QI SM E ad sz (a, M)) (fX10_unsafe M) := by
  refine CT.ofW (by decide) (Nat.le_of_ble_eq_true rfl) (fun sz p e s m args below meth c C hr hH ls hl => ?_)
  have hx := C.1.1
  have hb := C.1.2.1
  have hl : lv_has ls 6 [(0, .ref (ad 0))] := hl
  unfold fX10_unsafe
  refine lv_iconst (v := (-1)) hx hb dX10_unsafe_0 (by decide) ?_
  refine lv_istore_n (lv' := [(1, .int (-1)), (0, .ref (ad 0))]) hx hb dX10_unsafe_1 rfl hl (by decide) rfl (fun ls hl => ?_)
  refine lv_iconst (v := 2) hx hb dX10_unsafe_2 (by decide) ?_
  refine lv_istore_n (lv' := [(2, .int 2), (1, .int (-1)), (0, .ref (ad 0))]) hx hb dX10_unsafe_3 rfl hl (by decide) rfl (fun ls hl => ?_)
  refine W_lp (fun (x : Int32 × Int32) H locs => KH SM E ad sz M s.heap H locs) (fun x ls => lv_has ls 6 [(0, .ref (ad 0)), (1, .int x.1), (2, .int x.2)]) (fun _ ls => F0 m 4 ls []) (fun (x : Int32) H locs => KH SM E ad sz M s.heap H locs) (fun x ls => lv_has ls 6 [(1, .int x)]) (fun _ ls => F0 m 128 ls []) ?_ ?_ hH (lv_sub hl [2, 1, 0] rfl)
  · intro v3 H locs ls hH hl
    have hH : KH SM E ad sz M s.heap H locs := hH
    have hl : lv_has ls 6 [(1, .int v3)] := hl
    refine W_q fX10_unsafe_X4_u ?_
    refine lv_iload_n hx hb dX10_unsafe_128 rfl (lv_at hl 0 rfl) ?_
    exact ke_i C hH hr (Nat.le_refl _) (Nat.le_refl _) rfl dX10_unsafe_129
  · intro rec4 k4 hrec4 hk4 ⟨v1, v2⟩ H locs ls hH hl
    have hH : KH SM E ad sz M s.heap H locs := hH
    have hl : lv_has ls 6 [(0, .ref (ad 0)), (1, .int v1), (2, .int v2)] := hl
    refine W_q fX10_unsafe_L4_u ?_
    refine lv_iload_n hx hb dX10_unsafe_4 rfl (lv_at hl 2 rfl) ?_
    refine kb_if_lt (tgt := 128) hx hb dX10_unsafe_5 (by decide) (fun _ => ?_) (fun _ => ?_)
    · exact hk4 v1 _ _ _ hH (lv_sub hl [1] rfl)
    · refine lv_iload_n hx hb dX10_unsafe_8 rfl (lv_at hl 2 rfl) ?_
      refine lv_iconst (v := 2) hx hb dX10_unsafe_9 (by decide) ?_
      refine W_jn (fun (x : Int32) H locs => KH SM E ad sz M s.heap H locs) (fun x ls => lv_has ls 6 [(0, .ref (ad 0)), (1, .int v1), (2, .int v2)]) (fun x ls => F0 m 18 ls [.int x]) ?_ (fun K18_10 hK18_10 => ?_)
      · intro v4 H locs ls hH hl
        have hH : KH SM E ad sz M s.heap H locs := hH
        have hl : lv_has ls 6 [(0, .ref (ad 0)), (1, .int v1), (2, .int v2)] := hl
        refine W_q fX10_unsafe_J18_10_u ?_
        refine lv_istore_n (lv' := [(3, .int v4), (0, .ref (ad 0)), (1, .int v1), (2, .int v2)]) hx hb dX10_unsafe_18 rfl hl (by decide) rfl (fun ls hl => ?_)
        refine lv_iconst (v := 0) hx hb dX10_unsafe_19 (by decide) ?_
        refine lv_istore (lv' := [(4, .int 0), (3, .int v4), (0, .ref (ad 0)), (1, .int v1), (2, .int v2)]) hx hb dX10_unsafe_20 hl (by decide) rfl (fun ls hl => ?_)
        refine lv_iconst (v := 0) hx hb dX10_unsafe_22 (by decide) ?_
        refine lv_istore (lv' := [(5, .int 0), (4, .int 0), (3, .int v4), (0, .ref (ad 0)), (1, .int v1), (2, .int v2)]) hx hb dX10_unsafe_23 hl (by decide) rfl (fun ls hl => ?_)
        refine W_lp (fun (x : Int32 × Int32 × Int32) H locs => KH SM E ad sz M s.heap H locs) (fun x ls => lv_has ls 6 [(0, .ref (ad 0)), (1, .int v1), (2, .int v2), (3, .int x.1), (4, .int x.2.1), (5, .int x.2.2)]) (fun _ ls => F0 m 25 ls []) (fun (x : Int32 × Int32) H locs => KH SM E ad sz M s.heap H locs) (fun x ls => lv_has ls 6 [(0, .ref (ad 0)), (1, .int v1), (2, .int v2), (3, .int x.1), (4, .int x.2)]) (fun _ ls => F0 m 107 ls []) ?_ ?_ hH (lv_sub hl [3, 4, 5, 2, 1, 0] rfl)
        · intro ⟨v8, v9⟩ H locs ls hH hl
          have hH : KH SM E ad sz M s.heap H locs := hH
          have hl : lv_has ls 6 [(0, .ref (ad 0)), (1, .int v1), (2, .int v2), (3, .int v8), (4, .int v9)] := hl
          refine W_q fX10_unsafe_X25_u ?_
          refine lv_iload_n hx hb dX10_unsafe_107 rfl (lv_at hl 3 rfl) ?_
          refine kb_if_eq (tgt := 120) hx hb dX10_unsafe_108 (by decide) (fun _ => ?_) (fun _ => ?_)
          · refine lv_iload_n hx hb dX10_unsafe_120 rfl (lv_at hl 1 rfl) ?_
            refine lv_istore_n (lv' := [(1, .int v1), (0, .ref (ad 0)), (2, .int v2), (3, .int v8), (4, .int v9)]) hx hb dX10_unsafe_121 rfl hl (by decide) rfl (fun ls hl => ?_)
            refine W_nm (fun v10 ev10 => ?_)
            refine lv_iinc (v := v10) (lv' := [(2, .int v10), (1, .int v1), (0, .ref (ad 0)), (3, .int v8), (4, .int v9)]) hx hb dX10_unsafe_122 hl (k := 2) rfl (by rw [ev10]; rfl) (by decide) rfl (fun ls hl => ?_)
            refine lv_goto (tgt := 4) hx hb dX10_unsafe_125 (by decide) ?_
            exact hrec4 (v1, v10) _ _ _ hH (lv_sub hl [2, 1, 0] rfl)
          · refine lv_iload hx hb dX10_unsafe_111 (lv_at hl 4 rfl) ?_
            refine kb_if_ne (tgt := 120) hx hb dX10_unsafe_113 (by decide) (fun _ => ?_) (fun _ => ?_)
            · refine lv_iload_n hx hb dX10_unsafe_120 rfl (lv_at hl 1 rfl) ?_
              refine lv_istore_n (lv' := [(1, .int v1), (0, .ref (ad 0)), (2, .int v2), (3, .int v8), (4, .int v9)]) hx hb dX10_unsafe_121 rfl hl (by decide) rfl (fun ls hl => ?_)
              refine W_nm (fun v11 ev11 => ?_)
              refine lv_iinc (v := v11) (lv' := [(2, .int v11), (1, .int v1), (0, .ref (ad 0)), (3, .int v8), (4, .int v9)]) hx hb dX10_unsafe_122 hl (k := 2) rfl (by rw [ev11]; rfl) (by decide) rfl (fun ls hl => ?_)
              refine lv_goto (tgt := 4) hx hb dX10_unsafe_125 (by decide) ?_
              exact hrec4 (v1, v11) _ _ _ hH (lv_sub hl [2, 1, 0] rfl)
            · refine lv_iload_n hx hb dX10_unsafe_116 rfl (lv_at hl 2 rfl) ?_
              refine lv_goto (tgt := 121) hx hb dX10_unsafe_117 (by decide) ?_
              refine lv_istore_n (lv' := [(1, .int v2), (0, .ref (ad 0)), (2, .int v2), (3, .int v8), (4, .int v9)]) hx hb dX10_unsafe_121 rfl hl (by decide) rfl (fun ls hl => ?_)
              refine W_nm (fun v12 ev12 => ?_)
              refine lv_iinc (v := v12) (lv' := [(2, .int v12), (1, .int v2), (0, .ref (ad 0)), (3, .int v8), (4, .int v9)]) hx hb dX10_unsafe_122 hl (k := 2) rfl (by rw [ev12]; rfl) (by decide) rfl (fun ls hl => ?_)
              refine lv_goto (tgt := 4) hx hb dX10_unsafe_125 (by decide) ?_
              exact hrec4 (v2, v12) _ _ _ hH (lv_sub hl [2, 1, 0] rfl)
        · intro rec25 k25 hrec25 hk25 ⟨v5, v6, v7⟩ H locs ls hH hl
          have hH : KH SM E ad sz M s.heap H locs := hH
          have hl : lv_has ls 6 [(0, .ref (ad 0)), (1, .int v1), (2, .int v2), (3, .int v5), (4, .int v6), (5, .int v7)] := hl
          refine W_q fX10_unsafe_L25_u ?_
          refine lv_iload hx hb dX10_unsafe_25 (lv_at hl 5 rfl) ?_
          refine lv_iconst (v := 3) hx hb dX10_unsafe_27 (by decide) ?_
          refine kb_icmp_ge (tgt := 107) hx hb dX10_unsafe_28 (by decide) (fun _ => ?_) (fun _ => ?_)
          · exact hk25 (v5, v6) _ _ _ hH (lv_sub hl [0, 1, 2, 3, 4] rfl)
          · refine lv_iload_n hx hb dX10_unsafe_31 rfl (lv_at hl 3 rfl) ?_
            refine W_jn (fun (x : Int32) H locs => KH SM E ad sz M s.heap H locs) (fun x ls => lv_has ls 6 [(0, .ref (ad 0)), (1, .int v1), (2, .int v2), (4, .int v6), (5, .int v7)]) (fun x ls => F0 m 64 ls [.int x]) ?_ (fun K64_32 hK64_32 => ?_)
            · intro v13 H locs ls hH hl
              have hH : KH SM E ad sz M s.heap H locs := hH
              have hl : lv_has ls 6 [(0, .ref (ad 0)), (1, .int v1), (2, .int v2), (4, .int v6), (5, .int v7)] := hl
              refine W_q fX10_unsafe_J64_32_u ?_
              refine lv_istore_n (lv' := [(3, .int v13), (0, .ref (ad 0)), (1, .int v1), (2, .int v2), (4, .int v6), (5, .int v7)]) hx hb dX10_unsafe_64 rfl hl (by decide) rfl (fun ls hl => ?_)
              refine lv_iload hx hb dX10_unsafe_65 (lv_at hl 4 rfl) ?_
              refine kb_if_ne (tgt := 94) hx hb dX10_unsafe_67 (by decide) (fun _ => ?_) (fun _ => ?_)
              · refine lv_iconst (v := 1) hx hb dX10_unsafe_94 (by decide) ?_
                refine lv_goto (tgt := 99) hx hb dX10_unsafe_95 (by decide) ?_
                refine lv_istore (lv' := [(4, .int 1), (3, .int v13), (0, .ref (ad 0)), (1, .int v1), (2, .int v2), (5, .int v7)]) hx hb dX10_unsafe_99 hl (by decide) rfl (fun ls hl => ?_)
                refine W_nm (fun v14 ev14 => ?_)
                refine lv_iinc (v := v14) (lv' := [(5, .int v14), (4, .int 1), (3, .int v13), (0, .ref (ad 0)), (1, .int v1), (2, .int v2)]) hx hb dX10_unsafe_101 hl (k := 5) rfl (by rw [ev14]; rfl) (by decide) rfl (fun ls hl => ?_)
                refine lv_goto (tgt := 25) hx hb dX10_unsafe_104 (by decide) ?_
                exact hrec25 (v13, 1, v14) _ _ _ hH (lv_sub hl [3, 4, 5, 2, 1, 0] rfl)
              · refine lv_aload_n hx hb dX10_unsafe_70 rfl (lv_at hl 1 rfl) ?_
                refine k_get C hH fd_X10_53 oM (k_ref (M := M) (ad := ad) rM20) dX10_unsafe_71 ?_
                refine lv_iload hx hb dX10_unsafe_74 (lv_at hl 5 rfl) ?_
                refine k_iald C hH aM20 dX10_unsafe_76 ?_
                refine kb_if_le (tgt := 98) hx hb dX10_unsafe_77 (by decide) (fun _ => ?_) (fun _ => ?_)
                · refine lv_iconst (v := 0) hx hb dX10_unsafe_98 (by decide) ?_
                  refine lv_istore (lv' := [(4, .int 0), (3, .int v13), (0, .ref (ad 0)), (1, .int v1), (2, .int v2), (5, .int v7)]) hx hb dX10_unsafe_99 hl (by decide) rfl (fun ls hl => ?_)
                  refine W_nm (fun v15 ev15 => ?_)
                  refine lv_iinc (v := v15) (lv' := [(5, .int v15), (4, .int 0), (3, .int v13), (0, .ref (ad 0)), (1, .int v1), (2, .int v2)]) hx hb dX10_unsafe_101 hl (k := 5) rfl (by rw [ev15]; rfl) (by decide) rfl (fun ls hl => ?_)
                  refine lv_goto (tgt := 25) hx hb dX10_unsafe_104 (by decide) ?_
                  exact hrec25 (v13, 0, v15) _ _ _ hH (lv_sub hl [3, 4, 5, 2, 1, 0] rfl)
                · refine lv_aload_n hx hb dX10_unsafe_80 rfl (lv_at hl 1 rfl) ?_
                  refine k_get C hH fd_X10_53 oM (k_ref (M := M) (ad := ad) rM20) dX10_unsafe_81 ?_
                  refine lv_iload hx hb dX10_unsafe_84 (lv_at hl 5 rfl) ?_
                  refine k_iald C hH aM20 dX10_unsafe_86 ?_
                  refine lv_iload_n hx hb dX10_unsafe_87 rfl (lv_at hl 3 rfl) ?_
                  refine kg_io C hH (kc_S C hH w_6_164 w_st_yX10_hasLetter rfl lc_yX10_hasLetter (kX10_hasLetter l E ad M (M.1 15 v7.toNatClampNeg) v2) (As := [.int (M.1 15 v7.toNatClampNeg), .int v2]) rfl dX10_unsafe_88 rfl hl.1 (Nat.le_of_ble_eq_true rfl) ⟨Nat.le_of_ble_eq_true rfl, Nat.le_of_ble_eq_true rfl⟩ ⟨Nat.le_of_ble_eq_true rfl, Nat.le_of_ble_eq_true rfl⟩) ⟨rfl, rfl⟩ (fun v16 H locs hH => ?_)
                  refine kb_if_eq (tgt := 98) hx hb dX10_unsafe_91 (by decide) (fun _ => ?_) (fun _ => ?_)
                  · refine lv_iconst (v := 0) hx hb dX10_unsafe_98 (by decide) ?_
                    refine lv_istore (lv' := [(4, .int 0), (3, .int v13), (0, .ref (ad 0)), (1, .int v1), (2, .int v2), (5, .int v7)]) hx hb dX10_unsafe_99 hl (by decide) rfl (fun ls hl => ?_)
                    refine W_nm (fun v17 ev17 => ?_)
                    refine lv_iinc (v := v17) (lv' := [(5, .int v17), (4, .int 0), (3, .int v13), (0, .ref (ad 0)), (1, .int v1), (2, .int v2)]) hx hb dX10_unsafe_101 hl (k := 5) rfl (by rw [ev17]; rfl) (by decide) rfl (fun ls hl => ?_)
                    refine lv_goto (tgt := 25) hx hb dX10_unsafe_104 (by decide) ?_
                    exact hrec25 (v13, 0, v17) _ _ _ hH (lv_sub hl [3, 4, 5, 2, 1, 0] rfl)
                  · refine lv_iconst (v := 1) hx hb dX10_unsafe_94 (by decide) ?_
                    refine lv_goto (tgt := 99) hx hb dX10_unsafe_95 (by decide) ?_
                    refine lv_istore (lv' := [(4, .int 1), (3, .int v13), (0, .ref (ad 0)), (1, .int v1), (2, .int v2), (5, .int v7)]) hx hb dX10_unsafe_99 hl (by decide) rfl (fun ls hl => ?_)
                    refine W_nm (fun v18 ev18 => ?_)
                    refine lv_iinc (v := v18) (lv' := [(5, .int v18), (4, .int 1), (3, .int v13), (0, .ref (ad 0)), (1, .int v1), (2, .int v2)]) hx hb dX10_unsafe_101 hl (k := 5) rfl (by rw [ev18]; rfl) (by decide) rfl (fun ls hl => ?_)
                    refine lv_goto (tgt := 25) hx hb dX10_unsafe_104 (by decide) ?_
                    exact hrec25 (v13, 1, v18) _ _ _ hH (lv_sub hl [3, 4, 5, 2, 1, 0] rfl)
            · refine kb_if_ne (tgt := 59) hx hb dX10_unsafe_32 (by decide) (fun _ => ?_) (fun _ => ?_)
              · refine lv_iconst (v := 1) hx hb dX10_unsafe_59 (by decide) ?_
                refine lv_goto (tgt := 64) hx hb dX10_unsafe_60 (by decide) ?_
                exact hK64_32 1 _ _ _ hH (lv_sub hl [0, 1, 2, 4, 5] rfl)
              · refine lv_aload_n hx hb dX10_unsafe_35 rfl (lv_at hl 0 rfl) ?_
                refine k_get C hH fd_X10_53 oM (k_ref (M := M) (ad := ad) rM20) dX10_unsafe_36 ?_
                refine lv_iload hx hb dX10_unsafe_39 (lv_at hl 5 rfl) ?_
                refine k_iald C hH aM20 dX10_unsafe_41 ?_
                refine kb_if_ge (tgt := 63) hx hb dX10_unsafe_42 (by decide) (fun _ => ?_) (fun _ => ?_)
                · refine lv_iconst (v := 0) hx hb dX10_unsafe_63 (by decide) ?_
                  exact hK64_32 0 _ _ _ hH (lv_sub hl [0, 1, 2, 4, 5] rfl)
                · refine lv_aload_n hx hb dX10_unsafe_45 rfl (lv_at hl 0 rfl) ?_
                  refine k_get C hH fd_X10_53 oM (k_ref (M := M) (ad := ad) rM20) dX10_unsafe_46 ?_
                  refine lv_iload hx hb dX10_unsafe_49 (lv_at hl 5 rfl) ?_
                  refine k_iald C hH aM20 dX10_unsafe_51 ?_
                  refine lv_iload_n hx hb dX10_unsafe_52 rfl (lv_at hl 2 rfl) ?_
                  refine kg_io C hH (kc_S C hH w_6_164 w_st_yX10_hasLetter rfl lc_yX10_hasLetter (kX10_hasLetter l E ad M (M.1 15 v7.toNatClampNeg) v2) (As := [.int (M.1 15 v7.toNatClampNeg), .int v2]) rfl dX10_unsafe_53 rfl hl.1 (Nat.le_of_ble_eq_true rfl) ⟨Nat.le_of_ble_eq_true rfl, Nat.le_of_ble_eq_true rfl⟩ ⟨Nat.le_of_ble_eq_true rfl, Nat.le_of_ble_eq_true rfl⟩) ⟨rfl, rfl⟩ (fun v19 H locs hH => ?_)
                  refine kb_if_eq (tgt := 63) hx hb dX10_unsafe_56 (by decide) (fun _ => ?_) (fun _ => ?_)
                  · refine lv_iconst (v := 0) hx hb dX10_unsafe_63 (by decide) ?_
                    exact hK64_32 0 _ _ _ hH (lv_sub hl [0, 1, 2, 4, 5] rfl)
                  · refine lv_iconst (v := 1) hx hb dX10_unsafe_59 (by decide) ?_
                    refine lv_goto (tgt := 64) hx hb dX10_unsafe_60 (by decide) ?_
                    exact hK64_32 1 _ _ _ hH (lv_sub hl [0, 1, 2, 4, 5] rfl)
      · refine kb_icmp_ge (tgt := 17) hx hb dX10_unsafe_10 (by decide) (fun _ => ?_) (fun _ => ?_)
        · refine lv_iconst (v := 0) hx hb dX10_unsafe_17 (by decide) ?_
          exact hK18_10 0 _ _ _ hH (lv_sub hl [0, 1, 2] rfl)
        · refine lv_iconst (v := 1) hx hb dX10_unsafe_13 (by decide) ?_
          refine lv_goto (tgt := 18) hx hb dX10_unsafe_14 (by decide) ?_
          exact hK18_10 1 _ _ _ hH (lv_sub hl [0, 1, 2] rfl)
def fX10_likeRule_X13 (v4 : Int32) : Option (Int32) := some v4
theorem fX10_likeRule_X13_u {v4 : Int32} : fX10_likeRule_X13 v4 = some v4 := rfl
def fX10_likeRule_X36 (v2 : Int32) (v3 : Int32) (rec13 : (Int32 × Int32) → Option (Int32)) (v9 : Int32) : Option (Int32) := (if v9 = 0 then nm (v3 + (-1)) fun v10 => rec13 (v2, v10) else nm (v3 + (-1)) fun v11 => rec13 (v3, v11))
theorem fX10_likeRule_X36_u {v2 : Int32} {v3 : Int32} {rec13 : (Int32 × Int32) → Option (Int32)} {v9 : Int32} : fX10_likeRule_X36 v2 v3 rec13 v9 = (if v9 = 0 then nm (v3 + (-1)) fun v10 => rec13 (v2, v10) else nm (v3 + (-1)) fun v11 => rec13 (v3, v11)) := rfl
def fX10_likeRule_L36 (M : KS) (v3 : Int32) (rec36 : (Int32 × Int32) → Option (Int32)) (k36 : (Int32) → Option (Int32)) (x : Int32 × Int32) : Option (Int32) := match x with | (v7, v8) => (if 3 ≤ v8 then k36 v7 else (if v7 = 0 then nm (v8 + 1) fun v12 => rec36 (0, v12) else (fX10_conditionOf M v3 v8).bind fun v13 => if inb v8 3 then (if v13 = (M.1 15 v8.toNatClampNeg) then nm (v8 + 1) fun v15 => rec36 (1, v15) else nm (v8 + 1) fun v14 => rec36 (0, v14)) else none))
theorem fX10_likeRule_L36_u {M : KS} {v3 : Int32} {rec36 : (Int32 × Int32) → Option (Int32)} {k36 : (Int32) → Option (Int32)} {v7 : Int32} {v8 : Int32} : fX10_likeRule_L36 M v3 rec36 k36 (v7, v8) = (if 3 ≤ v8 then k36 v7 else (if v7 = 0 then nm (v8 + 1) fun v12 => rec36 (0, v12) else (fX10_conditionOf M v3 v8).bind fun v13 => if inb v8 3 then (if v13 = (M.1 15 v8.toNatClampNeg) then nm (v8 + 1) fun v15 => rec36 (1, v15) else nm (v8 + 1) fun v14 => rec36 (0, v14)) else none)) := rfl
def fX10_likeRule_J31_23 (M : KS) (v2 : Int32) (v3 : Int32) (rec13 : (Int32 × Int32) → Option (Int32)) (v6 : Int32) : Option (Int32) := lp (fX10_likeRule_L36 M v3) (fX10_likeRule_X36 v2 v3 rec13) 1000000 (v6, 0)
theorem fX10_likeRule_J31_23_u {M : KS} {v2 : Int32} {v3 : Int32} {rec13 : (Int32 × Int32) → Option (Int32)} {v6 : Int32} : fX10_likeRule_J31_23 M v2 v3 rec13 v6 = lp (fX10_likeRule_L36 M v3) (fX10_likeRule_X36 v2 v3 rec13) 1000000 (v6, 0) := rfl
def fX10_likeRule_L13 (M : KS) (a1 : Int32) (rec13 : (Int32 × Int32) → Option (Int32)) (k13 : (Int32) → Option (Int32)) (x : Int32 × Int32) : Option (Int32) := match x with | (v2, v3) => (if v3 < 0 then k13 v2 else (fX10_head M v3).bind fun v5 => jn (fX10_likeRule_J31_23 M v2 v3 rec13) (fun K31_23 => (if v5 = a1 then K31_23 1 else K31_23 0)))
theorem fX10_likeRule_L13_u {M : KS} {a1 : Int32} {rec13 : (Int32 × Int32) → Option (Int32)} {k13 : (Int32) → Option (Int32)} {v2 : Int32} {v3 : Int32} : fX10_likeRule_L13 M a1 rec13 k13 (v2, v3) = (if v3 < 0 then k13 v2 else (fX10_head M v3).bind fun v5 => jn (fX10_likeRule_J31_23 M v2 v3 rec13) (fun K31_23 => (if v5 = a1 then K31_23 1 else K31_23 0))) := rfl
def fX10_likeRule (M : KS) (a1 : Int32) : Option (Int32) := if inb 216 257 then nm (((M.1 1 (216 : Int32).toNatClampNeg) - 1)) fun v1 => lp (fX10_likeRule_L13 M a1) (fX10_likeRule_X13) 1000000 ((-1), v1) else none
set_option maxHeartbeats 4000000 in
set_option maxRecDepth 100000 in
theorem kX10_likeRule (l : Launch) (E : KE) (ad : Nat → Nat) (M : KS) (a1 : Int32) : CT l yX10_likeRule cX10_likeRule 6 (some .int) { frames := 1, cells := 0, slots := 0, locals := 22 } SM E ad [.ref (ad 0), .int a1] M (fun sz a => QI SM E ad sz (a, M)) (fX10_likeRule M a1) := by
  refine CT.ofW (by decide) (Nat.le_of_ble_eq_true rfl) (fun sz p e s m args below meth c C hr hH ls hl => ?_)
  have hx := C.1.1
  have hb := C.1.2.1
  have hl : lv_has ls 6 [(0, .ref (ad 0)), (1, .int a1)] := hl
  unfold fX10_likeRule
  refine lv_iconst (v := (-1)) hx hb dX10_likeRule_0 (by decide) ?_
  refine lv_istore_n (lv' := [(2, .int (-1)), (0, .ref (ad 0)), (1, .int a1)]) hx hb dX10_likeRule_1 rfl hl (by decide) rfl (fun ls hl => ?_)
  refine lv_aload_n hx hb dX10_likeRule_2 rfl (lv_at hl 1 rfl) ?_
  refine k_get C hH fd_X10_9 oM (k_ref (M := M) (ad := ad) rM0) dX10_likeRule_3 ?_
  refine lv_sipush (v := 216) hx hb dX10_likeRule_6 (by decide) ?_
  refine k_iald C hH aM0 dX10_likeRule_9 ?_
  refine lv_iconst (v := 1) hx hb dX10_likeRule_10 (by decide) ?_
  refine lv_isub hx hb dX10_likeRule_11 ?_
  refine W_nmi (fun v1 => ?_)
  refine lv_istore_n (lv' := [(3, .int v1), (2, .int (-1)), (0, .ref (ad 0)), (1, .int a1)]) hx hb dX10_likeRule_12 rfl hl (by decide) rfl (fun ls hl => ?_)
  refine W_lp (fun (x : Int32 × Int32) H locs => KH SM E ad sz M s.heap H locs) (fun x ls => lv_has ls 6 [(0, .ref (ad 0)), (1, .int a1), (2, .int x.1), (3, .int x.2)]) (fun _ ls => F0 m 13 ls []) (fun (x : Int32) H locs => KH SM E ad sz M s.heap H locs) (fun x ls => lv_has ls 6 [(2, .int x)]) (fun _ ls => F0 m 94 ls []) ?_ ?_ hH (lv_sub hl [2, 3, 1, 0] rfl)
  · intro v4 H locs ls hH hl
    have hH : KH SM E ad sz M s.heap H locs := hH
    have hl : lv_has ls 6 [(2, .int v4)] := hl
    refine W_q fX10_likeRule_X13_u ?_
    refine lv_iload_n hx hb dX10_likeRule_94 rfl (lv_at hl 0 rfl) ?_
    exact ke_i C hH hr (Nat.le_refl _) (Nat.le_refl _) rfl dX10_likeRule_95
  · intro rec13 k13 hrec13 hk13 ⟨v2, v3⟩ H locs ls hH hl
    have hH : KH SM E ad sz M s.heap H locs := hH
    have hl : lv_has ls 6 [(0, .ref (ad 0)), (1, .int a1), (2, .int v2), (3, .int v3)] := hl
    refine W_q fX10_likeRule_L13_u ?_
    refine lv_iload_n hx hb dX10_likeRule_13 rfl (lv_at hl 3 rfl) ?_
    refine kb_if_lt (tgt := 94) hx hb dX10_likeRule_14 (by decide) (fun _ => ?_) (fun _ => ?_)
    · exact hk13 v2 _ _ _ hH (lv_sub hl [2] rfl)
    · refine lv_aload_n hx hb dX10_likeRule_17 rfl (lv_at hl 0 rfl) ?_
      refine lv_iload_n hx hb dX10_likeRule_18 rfl (lv_at hl 3 rfl) ?_
      refine kg_io C hH (kc_V C hH w_6_143 lc_yX10_head li_yX10_head oM (kX10_head l E ad M v3) (As := [.int v3]) rfl dX10_likeRule_19 rfl hl.1 (Nat.le_of_ble_eq_true rfl) ⟨Nat.le_of_ble_eq_true rfl, Nat.le_of_ble_eq_true rfl⟩ ⟨Nat.le_of_ble_eq_true rfl, Nat.le_of_ble_eq_true rfl⟩) ⟨rfl, rfl⟩ (fun v5 H locs hH => ?_)
      refine lv_iload_n hx hb dX10_likeRule_22 rfl (lv_at hl 1 rfl) ?_
      refine W_jn (fun (x : Int32) H locs => KH SM E ad sz M s.heap H locs) (fun x ls => lv_has ls 6 [(0, .ref (ad 0)), (1, .int a1), (2, .int v2), (3, .int v3)]) (fun x ls => F0 m 31 ls [.int x]) ?_ (fun K31_23 hK31_23 => ?_)
      · intro v6 H locs ls hH hl
        have hH : KH SM E ad sz M s.heap H locs := hH
        have hl : lv_has ls 6 [(0, .ref (ad 0)), (1, .int a1), (2, .int v2), (3, .int v3)] := hl
        refine W_q fX10_likeRule_J31_23_u ?_
        refine lv_istore (lv' := [(4, .int v6), (0, .ref (ad 0)), (1, .int a1), (2, .int v2), (3, .int v3)]) hx hb dX10_likeRule_31 hl (by decide) rfl (fun ls hl => ?_)
        refine lv_iconst (v := 0) hx hb dX10_likeRule_33 (by decide) ?_
        refine lv_istore (lv' := [(5, .int 0), (4, .int v6), (0, .ref (ad 0)), (1, .int a1), (2, .int v2), (3, .int v3)]) hx hb dX10_likeRule_34 hl (by decide) rfl (fun ls hl => ?_)
        refine W_lp (fun (x : Int32 × Int32) H locs => KH SM E ad sz M s.heap H locs) (fun x ls => lv_has ls 6 [(0, .ref (ad 0)), (1, .int a1), (2, .int v2), (3, .int v3), (4, .int x.1), (5, .int x.2)]) (fun _ ls => F0 m 36 ls []) (fun (x : Int32) H locs => KH SM E ad sz M s.heap H locs) (fun x ls => lv_has ls 6 [(0, .ref (ad 0)), (1, .int a1), (2, .int v2), (3, .int v3), (4, .int x)]) (fun _ ls => F0 m 77 ls []) ?_ ?_ hH (lv_sub hl [2, 3, 4, 5, 1, 0] rfl)
        · intro v9 H locs ls hH hl
          have hH : KH SM E ad sz M s.heap H locs := hH
          have hl : lv_has ls 6 [(0, .ref (ad 0)), (1, .int a1), (2, .int v2), (3, .int v3), (4, .int v9)] := hl
          refine W_q fX10_likeRule_X36_u ?_
          refine lv_iload hx hb dX10_likeRule_77 (lv_at hl 4 rfl) ?_
          refine kb_if_eq (tgt := 86) hx hb dX10_likeRule_79 (by decide) (fun _ => ?_) (fun _ => ?_)
          · refine lv_iload_n hx hb dX10_likeRule_86 rfl (lv_at hl 2 rfl) ?_
            refine lv_istore_n (lv' := [(2, .int v2), (0, .ref (ad 0)), (1, .int a1), (3, .int v3), (4, .int v9)]) hx hb dX10_likeRule_87 rfl hl (by decide) rfl (fun ls hl => ?_)
            refine W_nm (fun v10 ev10 => ?_)
            refine lv_iinc (v := v10) (lv' := [(3, .int v10), (2, .int v2), (0, .ref (ad 0)), (1, .int a1), (4, .int v9)]) hx hb dX10_likeRule_88 hl (k := 3) rfl (by rw [ev10]; rfl) (by decide) rfl (fun ls hl => ?_)
            refine lv_goto (tgt := 13) hx hb dX10_likeRule_91 (by decide) ?_
            exact hrec13 (v2, v10) _ _ _ hH (lv_sub hl [2, 3, 1, 0] rfl)
          · refine lv_iload_n hx hb dX10_likeRule_82 rfl (lv_at hl 3 rfl) ?_
            refine lv_goto (tgt := 87) hx hb dX10_likeRule_83 (by decide) ?_
            refine lv_istore_n (lv' := [(2, .int v3), (0, .ref (ad 0)), (1, .int a1), (3, .int v3), (4, .int v9)]) hx hb dX10_likeRule_87 rfl hl (by decide) rfl (fun ls hl => ?_)
            refine W_nm (fun v11 ev11 => ?_)
            refine lv_iinc (v := v11) (lv' := [(3, .int v11), (2, .int v3), (0, .ref (ad 0)), (1, .int a1), (4, .int v9)]) hx hb dX10_likeRule_88 hl (k := 3) rfl (by rw [ev11]; rfl) (by decide) rfl (fun ls hl => ?_)
            refine lv_goto (tgt := 13) hx hb dX10_likeRule_91 (by decide) ?_
            exact hrec13 (v3, v11) _ _ _ hH (lv_sub hl [2, 3, 1, 0] rfl)
        · intro rec36 k36 hrec36 hk36 ⟨v7, v8⟩ H locs ls hH hl
          have hH : KH SM E ad sz M s.heap H locs := hH
          have hl : lv_has ls 6 [(0, .ref (ad 0)), (1, .int a1), (2, .int v2), (3, .int v3), (4, .int v7), (5, .int v8)] := hl
          refine W_q fX10_likeRule_L36_u ?_
          refine lv_iload hx hb dX10_likeRule_36 (lv_at hl 5 rfl) ?_
          refine lv_iconst (v := 3) hx hb dX10_likeRule_38 (by decide) ?_
          refine kb_icmp_ge (tgt := 77) hx hb dX10_likeRule_39 (by decide) (fun _ => ?_) (fun _ => ?_)
          · exact hk36 v7 _ _ _ hH (lv_sub hl [0, 1, 2, 3, 4] rfl)
          · refine lv_iload hx hb dX10_likeRule_42 (lv_at hl 4 rfl) ?_
            refine kb_if_eq (tgt := 68) hx hb dX10_likeRule_44 (by decide) (fun _ => ?_) (fun _ => ?_)
            · refine lv_iconst (v := 0) hx hb dX10_likeRule_68 (by decide) ?_
              refine lv_istore (lv' := [(4, .int 0), (0, .ref (ad 0)), (1, .int a1), (2, .int v2), (3, .int v3), (5, .int v8)]) hx hb dX10_likeRule_69 hl (by decide) rfl (fun ls hl => ?_)
              refine W_nm (fun v12 ev12 => ?_)
              refine lv_iinc (v := v12) (lv' := [(5, .int v12), (4, .int 0), (0, .ref (ad 0)), (1, .int a1), (2, .int v2), (3, .int v3)]) hx hb dX10_likeRule_71 hl (k := 5) rfl (by rw [ev12]; rfl) (by decide) rfl (fun ls hl => ?_)
              refine lv_goto (tgt := 36) hx hb dX10_likeRule_74 (by decide) ?_
              exact hrec36 (0, v12) _ _ _ hH (lv_sub hl [2, 3, 4, 5, 1, 0] rfl)
            · refine lv_aload_n hx hb dX10_likeRule_47 rfl (lv_at hl 0 rfl) ?_
              refine lv_iload_n hx hb dX10_likeRule_48 rfl (lv_at hl 3 rfl) ?_
              refine lv_iload hx hb dX10_likeRule_49 (lv_at hl 5 rfl) ?_
              refine kg_io C hH (kc_V C hH w_6_133 lc_yX10_conditionOf li_yX10_conditionOf oM (kX10_conditionOf l E ad M v3 v8) (As := [.int v3, .int v8]) rfl dX10_likeRule_51 rfl hl.1 (Nat.le_of_ble_eq_true rfl) ⟨Nat.le_of_ble_eq_true rfl, Nat.le_of_ble_eq_true rfl⟩ ⟨Nat.le_of_ble_eq_true rfl, Nat.le_of_ble_eq_true rfl⟩) ⟨rfl, rfl⟩ (fun v13 H locs hH => ?_)
              refine lv_aload_n hx hb dX10_likeRule_54 rfl (lv_at hl 0 rfl) ?_
              refine k_get C hH fd_X10_53 oM (k_ref (M := M) (ad := ad) rM20) dX10_likeRule_55 ?_
              refine lv_iload hx hb dX10_likeRule_58 (lv_at hl 5 rfl) ?_
              refine k_iald C hH aM20 dX10_likeRule_60 ?_
              refine kb_icmp_ne (tgt := 68) hx hb dX10_likeRule_61 (by decide) (fun _ => ?_) (fun _ => ?_)
              · refine lv_iconst (v := 0) hx hb dX10_likeRule_68 (by decide) ?_
                refine lv_istore (lv' := [(4, .int 0), (0, .ref (ad 0)), (1, .int a1), (2, .int v2), (3, .int v3), (5, .int v8)]) hx hb dX10_likeRule_69 hl (by decide) rfl (fun ls hl => ?_)
                refine W_nm (fun v14 ev14 => ?_)
                refine lv_iinc (v := v14) (lv' := [(5, .int v14), (4, .int 0), (0, .ref (ad 0)), (1, .int a1), (2, .int v2), (3, .int v3)]) hx hb dX10_likeRule_71 hl (k := 5) rfl (by rw [ev14]; rfl) (by decide) rfl (fun ls hl => ?_)
                refine lv_goto (tgt := 36) hx hb dX10_likeRule_74 (by decide) ?_
                exact hrec36 (0, v14) _ _ _ hH (lv_sub hl [2, 3, 4, 5, 1, 0] rfl)
              · refine lv_iconst (v := 1) hx hb dX10_likeRule_64 (by decide) ?_
                refine lv_goto (tgt := 69) hx hb dX10_likeRule_65 (by decide) ?_
                refine lv_istore (lv' := [(4, .int 1), (0, .ref (ad 0)), (1, .int a1), (2, .int v2), (3, .int v3), (5, .int v8)]) hx hb dX10_likeRule_69 hl (by decide) rfl (fun ls hl => ?_)
                refine W_nm (fun v15 ev15 => ?_)
                refine lv_iinc (v := v15) (lv' := [(5, .int v15), (4, .int 1), (0, .ref (ad 0)), (1, .int a1), (2, .int v2), (3, .int v3)]) hx hb dX10_likeRule_71 hl (k := 5) rfl (by rw [ev15]; rfl) (by decide) rfl (fun ls hl => ?_)
                refine lv_goto (tgt := 36) hx hb dX10_likeRule_74 (by decide) ?_
                exact hrec36 (1, v15) _ _ _ hH (lv_sub hl [2, 3, 4, 5, 1, 0] rfl)
      · refine kb_icmp_ne (tgt := 30) hx hb dX10_likeRule_23 (by decide) (fun _ => ?_) (fun _ => ?_)
        · refine lv_iconst (v := 0) hx hb dX10_likeRule_30 (by decide) ?_
          exact hK31_23 0 _ _ _ hH (lv_sub hl [0, 1, 2, 3] rfl)
        · refine lv_iconst (v := 1) hx hb dX10_likeRule_26 (by decide) ?_
          refine lv_goto (tgt := 31) hx hb dX10_likeRule_27 (by decide) ?_
          exact hK31_23 1 _ _ _ hH (lv_sub hl [0, 1, 2, 3] rfl)
def fX10_doRule (M : KS) (a1 : Int32) (a2 : Int32) (a3 : Int32) (a4 : Int32) : Option (Int32 × KS) := bd2 (fX10_writes M a1 a2 a3 a4) fun v2 M1 => (if v2 = 0 then bd2 (fX10_fails M1 1) fun v23 M22 => some (v23, M22) else if inb 216 257 then nm ((M1.1 1 (216 : Int32).toNatClampNeg)) fun v3 => if inb 0 3 then nm (kset M1 15 (0 : Int32).toNatClampNeg a2) fun M4 => if inb 1 3 then nm (kset M4 15 (1 : Int32).toNatClampNeg a3) fun M5 => if inb 2 3 then nm (kset M5 15 (2 : Int32).toNatClampNeg a4) fun M6 => (fX10_unsafe M6).bind fun v7 => (if v7 < 0 then (fX10_likeRule M6 a1).bind fun v8 => (if v8 < 0 then (if v3 = 10 then bd2 (fX10_refuse M6 1 10) fun v15 M14 => some (v15, M14) else bd2 (fX10_layers M6 (v3 + 1)) fun v10 M9 => (if v10 = 0 then bd2 (fX10_refuse M9 5 a1) fun v13 M12 => some (v13, M12) else if inb 216 257 then if inb 216 257 then nm (kset M9 1 (216 : Int32).toNatClampNeg ((M9.1 1 (216 : Int32).toNatClampNeg) + 1)) fun M11 => some (v3, M11) else none else none)) else (fX10_likeRule M6 a1).bind fun v16 => bd2 (fX10_refuse M6 6 v16) fun v18 M17 => some (v18, M17)) else (fX10_unsafe M6).bind fun v19 => bd2 (fX10_refuse M6 4 v19) fun v21 M20 => some (v21, M20)) else none else none else none else none)
set_option maxHeartbeats 4000000 in
set_option maxRecDepth 100000 in
theorem kX10_doRule (l : Launch) (E : KE) (ad : Nat → Nat) (M : KS) (a1 : Int32) (a2 : Int32) (a3 : Int32) (a4 : Int32) : CT l yX10_doRule cX10_doRule 6 (some .int) { frames := 4, cells := 0, slots := 0, locals := 95 } SM E ad [.ref (ad 0), .int a1, .int a2, .int a3, .int a4] M (QI SM E ad) (fX10_doRule M a1 a2 a3 a4) := by
  refine CT.ofW (by decide) (Nat.le_of_ble_eq_true rfl) (fun sz p e s m args below meth c C hr hH ls hl => ?_)
  have hx := C.1.1
  have hb := C.1.2.1
  have hl : lv_has ls 6 [(0, .ref (ad 0)), (1, .int a1), (2, .int a2), (3, .int a3), (4, .int a4)] := hl
  unfold fX10_doRule
  refine lv_aload_n hx hb dX10_doRule_0 rfl (lv_at hl 0 rfl) ?_
  refine lv_iload_n hx hb dX10_doRule_1 rfl (lv_at hl 1 rfl) ?_
  refine lv_iload_n hx hb dX10_doRule_2 rfl (lv_at hl 2 rfl) ?_
  refine lv_iload_n hx hb dX10_doRule_3 rfl (lv_at hl 3 rfl) ?_
  refine lv_iload hx hb dX10_doRule_4 (lv_at hl 4 rfl) ?_
  refine kg_ib C hH (kc_V C hH w_7_26 lc_yX10_writes li_yX10_writes oM (kX10_writes l E ad M a1 a2 a3 a4) (As := [.int a1, .int a2, .int a3, .int a4]) rfl dX10_doRule_6 rfl hl.1 (Nat.le_of_ble_eq_true rfl) ⟨Nat.le_of_ble_eq_true rfl, Nat.le_of_ble_eq_true rfl⟩ ⟨Nat.le_of_ble_eq_true rfl, Nat.le_of_ble_eq_true rfl⟩) ⟨rfl, rfl⟩ (fun v2 M1 H locs hH => ?_)
  refine kb_if_ne (tgt := 18) hx hb dX10_doRule_9 (by decide) (fun _ => ?_) (fun _ => ?_)
  · refine lv_aload_n hx hb dX10_doRule_18 rfl (lv_at hl 0 rfl) ?_
    refine k_get C hH fd_X10_9 oM (k_ref (M := M1) (ad := ad) rM0) dX10_doRule_19 ?_
    refine lv_sipush (v := 216) hx hb dX10_doRule_22 (by decide) ?_
    refine k_iald C hH aM0 dX10_doRule_25 ?_
    refine W_nmi (fun v3 => ?_)
    refine lv_istore (lv' := [(5, .int v3), (0, .ref (ad 0)), (1, .int a1), (2, .int a2), (3, .int a3), (4, .int a4)]) hx hb dX10_doRule_26 hl (by decide) rfl (fun ls hl => ?_)
    refine lv_aload_n hx hb dX10_doRule_28 rfl (lv_at hl 1 rfl) ?_
    refine k_get C hH fd_X10_53 oM (k_ref (M := M1) (ad := ad) rM20) dX10_doRule_29 ?_
    refine lv_iconst (v := 0) hx hb dX10_doRule_32 (by decide) ?_
    refine lv_iload_n hx hb dX10_doRule_33 rfl (lv_at hl 3 rfl) ?_
    refine k_iast C hH aM20 dX10_doRule_34 (fun M4 H locs hH => ?_)
    refine lv_aload_n hx hb dX10_doRule_35 rfl (lv_at hl 1 rfl) ?_
    refine k_get C hH fd_X10_53 oM (k_ref (M := M4) (ad := ad) rM20) dX10_doRule_36 ?_
    refine lv_iconst (v := 1) hx hb dX10_doRule_39 (by decide) ?_
    refine lv_iload_n hx hb dX10_doRule_40 rfl (lv_at hl 4 rfl) ?_
    refine k_iast C hH aM20 dX10_doRule_41 (fun M5 H locs hH => ?_)
    refine lv_aload_n hx hb dX10_doRule_42 rfl (lv_at hl 1 rfl) ?_
    refine k_get C hH fd_X10_53 oM (k_ref (M := M5) (ad := ad) rM20) dX10_doRule_43 ?_
    refine lv_iconst (v := 2) hx hb dX10_doRule_46 (by decide) ?_
    refine lv_iload hx hb dX10_doRule_47 (lv_at hl 5 rfl) ?_
    refine k_iast C hH aM20 dX10_doRule_49 (fun M6 H locs hH => ?_)
    refine lv_aload_n hx hb dX10_doRule_50 rfl (lv_at hl 1 rfl) ?_
    refine kg_io C hH (kc_V C hH w_7_30 lc_yX10_unsafe li_yX10_unsafe oM (kX10_unsafe l E ad M6) (As := []) rfl dX10_doRule_51 rfl hl.1 (Nat.le_of_ble_eq_true rfl) ⟨Nat.le_of_ble_eq_true rfl, Nat.le_of_ble_eq_true rfl⟩ ⟨Nat.le_of_ble_eq_true rfl, Nat.le_of_ble_eq_true rfl⟩) ⟨rfl, rfl⟩ (fun v7 H locs hH => ?_)
    refine kb_if_lt (tgt := 67) hx hb dX10_doRule_54 (by decide) (fun _ => ?_) (fun _ => ?_)
    · refine lv_aload_n hx hb dX10_doRule_67 rfl (lv_at hl 1 rfl) ?_
      refine lv_iload_n hx hb dX10_doRule_68 rfl (lv_at hl 2 rfl) ?_
      refine kg_io C hH (kc_V C hH w_7_34 lc_yX10_likeRule li_yX10_likeRule oM (kX10_likeRule l E ad M6 a1) (As := [.int a1]) rfl dX10_doRule_69 rfl hl.1 (Nat.le_of_ble_eq_true rfl) ⟨Nat.le_of_ble_eq_true rfl, Nat.le_of_ble_eq_true rfl⟩ ⟨Nat.le_of_ble_eq_true rfl, Nat.le_of_ble_eq_true rfl⟩) ⟨rfl, rfl⟩ (fun v8 H locs hH => ?_)
      refine kb_if_lt (tgt := 87) hx hb dX10_doRule_72 (by decide) (fun _ => ?_) (fun _ => ?_)
      · refine lv_iload hx hb dX10_doRule_87 (lv_at hl 0 rfl) ?_
        refine lv_bipush (v := 10) hx hb dX10_doRule_89 (by decide) ?_
        refine kb_icmp_ne (tgt := 102) hx hb dX10_doRule_91 (by decide) (fun _ => ?_) (fun _ => ?_)
        · refine lv_aload_n hx hb dX10_doRule_102 rfl (lv_at hl 1 rfl) ?_
          refine lv_iload hx hb dX10_doRule_103 (lv_at hl 0 rfl) ?_
          refine lv_iconst (v := 1) hx hb dX10_doRule_105 (by decide) ?_
          refine lv_iadd hx hb dX10_doRule_106 ?_
          refine kg_ib C hH (kc_V C hH w_6_129 lc_yX10_layers li_yX10_layers oM (kX10_layers l E ad M6 (v3 + 1)) (As := [.int (v3 + 1)]) rfl dX10_doRule_107 rfl hl.1 (Nat.le_of_ble_eq_true rfl) ⟨Nat.le_of_ble_eq_true rfl, Nat.le_of_ble_eq_true rfl⟩ ⟨Nat.le_of_ble_eq_true rfl, Nat.le_of_ble_eq_true rfl⟩) ⟨rfl, rfl⟩ (fun v10 M9 H locs hH => ?_)
          refine kb_if_ne (tgt := 120) hx hb dX10_doRule_110 (by decide) (fun _ => ?_) (fun _ => ?_)
          · refine lv_aload_n hx hb dX10_doRule_120 rfl (lv_at hl 1 rfl) ?_
            refine k_get C hH fd_X10_9 oM (k_ref (M := M9) (ad := ad) rM0) dX10_doRule_121 ?_
            refine lv_sipush (v := 216) hx hb dX10_doRule_124 (by decide) ?_
            refine lv_dup2_11 hx hb dX10_doRule_127 rfl rfl ?_
            refine k_iald C hH aM0 dX10_doRule_128 ?_
            refine lv_iconst (v := 1) hx hb dX10_doRule_129 (by decide) ?_
            refine lv_iadd hx hb dX10_doRule_130 ?_
            refine k_iast C hH aM0 dX10_doRule_131 (fun M11 H locs hH => ?_)
            refine lv_iload hx hb dX10_doRule_132 (lv_at hl 0 rfl) ?_
            exact ke_i C hH hr (Nat.le_refl _) (Nat.le_refl _) rfl dX10_doRule_134
          · refine lv_aload_n hx hb dX10_doRule_113 rfl (lv_at hl 1 rfl) ?_
            refine lv_iconst (v := 5) hx hb dX10_doRule_114 (by decide) ?_
            refine lv_iload_n hx hb dX10_doRule_115 rfl (lv_at hl 2 rfl) ?_
            refine kg_ib C hH (kc_V C hH w_6_113 lc_yX10_refuse li_yX10_refuse oM (kX10_refuse l E ad M9 5 a1) (As := [.int 5, .int a1]) rfl dX10_doRule_116 rfl hl.1 (Nat.le_of_ble_eq_true rfl) ⟨Nat.le_of_ble_eq_true rfl, Nat.le_of_ble_eq_true rfl⟩ ⟨Nat.le_of_ble_eq_true rfl, Nat.le_of_ble_eq_true rfl⟩) ⟨rfl, rfl⟩ (fun v13 M12 H locs hH => ?_)
            exact ke_i C hH hr (Nat.le_refl _) (Nat.le_refl _) rfl dX10_doRule_119
        · refine lv_aload_n hx hb dX10_doRule_94 rfl (lv_at hl 1 rfl) ?_
          refine lv_iconst (v := 1) hx hb dX10_doRule_95 (by decide) ?_
          refine lv_bipush (v := 10) hx hb dX10_doRule_96 (by decide) ?_
          refine kg_ib C hH (kc_V C hH w_6_113 lc_yX10_refuse li_yX10_refuse oM (kX10_refuse l E ad M6 1 10) (As := [.int 1, .int 10]) rfl dX10_doRule_98 rfl hl.1 (Nat.le_of_ble_eq_true rfl) ⟨Nat.le_of_ble_eq_true rfl, Nat.le_of_ble_eq_true rfl⟩ ⟨Nat.le_of_ble_eq_true rfl, Nat.le_of_ble_eq_true rfl⟩) ⟨rfl, rfl⟩ (fun v15 M14 H locs hH => ?_)
          exact ke_i C hH hr (Nat.le_refl _) (Nat.le_refl _) rfl dX10_doRule_101
      · refine lv_aload_n hx hb dX10_doRule_75 rfl (lv_at hl 1 rfl) ?_
        refine lv_bipush (v := 6) hx hb dX10_doRule_76 (by decide) ?_
        refine lv_aload_n hx hb dX10_doRule_78 rfl (lv_at hl 1 rfl) ?_
        refine lv_iload_n hx hb dX10_doRule_79 rfl (lv_at hl 2 rfl) ?_
        refine kg_io C hH (kc_V C hH w_7_34 lc_yX10_likeRule li_yX10_likeRule oM (kX10_likeRule l E ad M6 a1) (As := [.int a1]) rfl dX10_doRule_80 rfl hl.1 (Nat.le_of_ble_eq_true rfl) ⟨Nat.le_of_ble_eq_true rfl, Nat.le_of_ble_eq_true rfl⟩ ⟨Nat.le_of_ble_eq_true rfl, Nat.le_of_ble_eq_true rfl⟩) ⟨rfl, rfl⟩ (fun v16 H locs hH => ?_)
        refine kg_ib C hH (kc_V C hH w_6_113 lc_yX10_refuse li_yX10_refuse oM (kX10_refuse l E ad M6 6 v16) (As := [.int 6, .int v16]) rfl dX10_doRule_83 rfl hl.1 (Nat.le_of_ble_eq_true rfl) ⟨Nat.le_of_ble_eq_true rfl, Nat.le_of_ble_eq_true rfl⟩ ⟨Nat.le_of_ble_eq_true rfl, Nat.le_of_ble_eq_true rfl⟩) ⟨rfl, rfl⟩ (fun v18 M17 H locs hH => ?_)
        exact ke_i C hH hr (Nat.le_refl _) (Nat.le_refl _) rfl dX10_doRule_86
    · refine lv_aload_n hx hb dX10_doRule_57 rfl (lv_at hl 1 rfl) ?_
      refine lv_iconst (v := 4) hx hb dX10_doRule_58 (by decide) ?_
      refine lv_aload_n hx hb dX10_doRule_59 rfl (lv_at hl 1 rfl) ?_
      refine kg_io C hH (kc_V C hH w_7_30 lc_yX10_unsafe li_yX10_unsafe oM (kX10_unsafe l E ad M6) (As := []) rfl dX10_doRule_60 rfl hl.1 (Nat.le_of_ble_eq_true rfl) ⟨Nat.le_of_ble_eq_true rfl, Nat.le_of_ble_eq_true rfl⟩ ⟨Nat.le_of_ble_eq_true rfl, Nat.le_of_ble_eq_true rfl⟩) ⟨rfl, rfl⟩ (fun v19 H locs hH => ?_)
      refine kg_ib C hH (kc_V C hH w_6_113 lc_yX10_refuse li_yX10_refuse oM (kX10_refuse l E ad M6 4 v19) (As := [.int 4, .int v19]) rfl dX10_doRule_63 rfl hl.1 (Nat.le_of_ble_eq_true rfl) ⟨Nat.le_of_ble_eq_true rfl, Nat.le_of_ble_eq_true rfl⟩ ⟨Nat.le_of_ble_eq_true rfl, Nat.le_of_ble_eq_true rfl⟩) ⟨rfl, rfl⟩ (fun v21 M20 H locs hH => ?_)
      exact ke_i C hH hr (Nat.le_refl _) (Nat.le_refl _) rfl dX10_doRule_66
  · refine lv_aload_n hx hb dX10_doRule_12 rfl (lv_at hl 0 rfl) ?_
    refine lv_iconst (v := 1) hx hb dX10_doRule_13 (by decide) ?_
    refine kg_ib C hH (kc_V C hH w_6_102 lc_yX10_fails li_yX10_fails oM (kX10_fails l E ad M1 1) (As := [.int 1]) rfl dX10_doRule_14 rfl hl.1 (Nat.le_of_ble_eq_true rfl) ⟨Nat.le_of_ble_eq_true rfl, Nat.le_of_ble_eq_true rfl⟩ ⟨Nat.le_of_ble_eq_true rfl, Nat.le_of_ble_eq_true rfl⟩) ⟨rfl, rfl⟩ (fun v23 M22 H locs hH => ?_)
    exact ke_i C hH hr (Nat.le_refl _) (Nat.le_refl _) rfl dX10_doRule_17
def fX10_rule (M : KS) (a1 : Int32) (a2 : Int32) (a3 : Int32) (a4 : Int32) : Option (Int32 × KS) := (fX10_keep M).bind fun M1 => bd2 (fX10_doRule M1 a1 a2 a3 a4) fun v3 M2 => bd2 (fX10_ends M2 v3) fun v5 M4 => some (v5, M4)
set_option maxHeartbeats 4000000 in
set_option maxRecDepth 100000 in
theorem kX10_rule (l : Launch) (E : KE) (ad : Nat → Nat) (M : KS) (a1 : Int32) (a2 : Int32) (a3 : Int32) (a4 : Int32) : CT l yX10_rule cX10_rule 5 (some .int) { frames := 5, cells := 0, slots := 0, locals := 120 } SM E ad [.ref (ad 0), .int a1, .int a2, .int a3, .int a4] M (QI SM E ad) (fX10_rule M a1 a2 a3 a4) := by
  refine CT.ofW (by decide) (Nat.le_of_ble_eq_true rfl) (fun sz p e s m args below meth c C hr hH ls hl => ?_)
  have hx := C.1.1
  have hb := C.1.2.1
  have hl : lv_has ls 5 [(0, .ref (ad 0)), (1, .int a1), (2, .int a2), (3, .int a3), (4, .int a4)] := hl
  unfold fX10_rule
  refine lv_aload_n hx hb dX10_rule_0 rfl (lv_at hl 0 rfl) ?_
  refine kg_v C hH (kc_V C hH w_6_79 lc_yX10_keep li_yX10_keep oM (kX10_keep l E ad M) (As := []) rfl dX10_rule_1 rfl hl.1 (Nat.le_of_ble_eq_true rfl) ⟨Nat.le_of_ble_eq_true rfl, Nat.le_of_ble_eq_true rfl⟩ ⟨Nat.le_of_ble_eq_true rfl, Nat.le_of_ble_eq_true rfl⟩) ⟨rfl, rfl⟩ (fun M1 H locs hH => ?_)
  refine lv_aload_n hx hb dX10_rule_4 rfl (lv_at hl 0 rfl) ?_
  refine lv_aload_n hx hb dX10_rule_5 rfl (lv_at hl 0 rfl) ?_
  refine lv_iload_n hx hb dX10_rule_6 rfl (lv_at hl 1 rfl) ?_
  refine lv_iload_n hx hb dX10_rule_7 rfl (lv_at hl 2 rfl) ?_
  refine lv_iload_n hx hb dX10_rule_8 rfl (lv_at hl 3 rfl) ?_
  refine lv_iload hx hb dX10_rule_9 (lv_at hl 4 rfl) ?_
  refine kg_ib C hH (kc_V C hH w_7_22 lc_yX10_doRule li_yX10_doRule oM (kX10_doRule l E ad M1 a1 a2 a3 a4) (As := [.int a1, .int a2, .int a3, .int a4]) rfl dX10_rule_11 rfl hl.1 (Nat.le_of_ble_eq_true rfl) ⟨Nat.le_of_ble_eq_true rfl, Nat.le_of_ble_eq_true rfl⟩ ⟨Nat.le_of_ble_eq_true rfl, Nat.le_of_ble_eq_true rfl⟩) ⟨rfl, rfl⟩ (fun v3 M2 H locs hH => ?_)
  refine kg_ib C hH (kc_V C hH w_6_182 lc_yX10_ends li_yX10_ends oM (kX10_ends l E ad M2 v3) (As := [.int v3]) rfl dX10_rule_14 rfl hl.1 (Nat.le_of_ble_eq_true rfl) ⟨Nat.le_of_ble_eq_true rfl, Nat.le_of_ble_eq_true rfl⟩ ⟨Nat.le_of_ble_eq_true rfl, Nat.le_of_ble_eq_true rfl⟩) ⟨rfl, rfl⟩ (fun v5 M4 H locs hH => ?_)
  exact ke_i C hH hr (Nat.le_refl _) (Nat.le_refl _) rfl dX10_rule_17
def fX10_isRule (M : KS) (a1 : Int32) : Option (Int32) := if inb 216 257 then if isB (fX10_in a1 0 ((M.1 1 (216 : Int32).toNatClampNeg) - 1)) then some (fX10_in a1 0 ((M.1 1 (216 : Int32).toNatClampNeg) - 1)) else none else none
set_option maxHeartbeats 4000000 in
set_option maxRecDepth 100000 in
theorem kX10_isRule (l : Launch) (E : KE) (ad : Nat → Nat) (M : KS) (a1 : Int32) : CT l yX10_isRule cX10_isRule 2 (some .boolean) { frames := 1, cells := 0, slots := 0, locals := 22 } SM E ad [.ref (ad 0), .int a1] M (fun sz a => QI SM E ad sz (a, M)) (fX10_isRule M a1) := by
  refine CT.ofW (by decide) (Nat.le_of_ble_eq_true rfl) (fun sz p e s m args below meth c C hr hH ls hl => ?_)
  have hx := C.1.1
  have hb := C.1.2.1
  have hl : lv_has ls 2 [(0, .ref (ad 0)), (1, .int a1)] := hl
  unfold fX10_isRule
  refine lv_iload_n hx hb dX10_isRule_0 rfl (lv_at hl 1 rfl) ?_
  refine lv_iconst (v := 0) hx hb dX10_isRule_1 (by decide) ?_
  refine lv_aload_n hx hb dX10_isRule_2 rfl (lv_at hl 0 rfl) ?_
  refine k_get C hH fd_X10_9 oM (k_ref (M := M) (ad := ad) rM0) dX10_isRule_3 ?_
  refine lv_sipush (v := 216) hx hb dX10_isRule_6 (by decide) ?_
  refine k_iald C hH aM0 dX10_isRule_9 ?_
  refine lv_iconst (v := 1) hx hb dX10_isRule_10 (by decide) ?_
  refine lv_isub hx hb dX10_isRule_11 ?_
  refine kg_ip C hH (kc_S C hH w_6_96 w_st_yX10_in rfl lc_yX10_in (kX10_in l E ad M a1 0 ((M.1 1 (216 : Int32).toNatClampNeg) - 1)) (As := [.int a1, .int 0, .int ((M.1 1 (216 : Int32).toNatClampNeg) - 1)]) rfl dX10_isRule_12 rfl hl.1 (Nat.le_of_ble_eq_true rfl) ⟨Nat.le_of_ble_eq_true rfl, Nat.le_of_ble_eq_true rfl⟩ ⟨Nat.le_of_ble_eq_true rfl, Nat.le_of_ble_eq_true rfl⟩) ⟨rfl, rfl⟩ (fun H locs hH => ?_)
  exact ke_zg C hH hr (Nat.le_refl _) (Nat.le_refl _) rfl dX10_isRule_15
def fX10_doDrop (M : KS) (a1 : Int32) : Option (Int32 × KS) := (fX10_isRule M a1).bind fun v1 => (if v1 = 0 then bd2 (fX10_fails M 1) fun v8 M7 => some (v8, M7) else nm ((217 + (4 * (a1 + 1)))) fun v2 => if inb 216 257 then if jcp v2 257 (v2 - 4) 257 (4 * (((M.1 1 (216 : Int32).toNatClampNeg) - a1) - 1)) then nm (kcpy M 1 1 v2 (v2 - 4) (4 * (((M.1 1 (216 : Int32).toNatClampNeg) - a1) - 1))) fun M3 => if inb 216 257 then if inb 216 257 then nm (kset M3 1 (216 : Int32).toNatClampNeg ((M3.1 1 (216 : Int32).toNatClampNeg) - 1)) fun M4 => bd2 (fX10_allHolding M4) fun v6 M5 => some (v6, M5) else none else none else none else none)
set_option maxHeartbeats 4000000 in
set_option maxRecDepth 100000 in
theorem kX10_doDrop (l : Launch) (E : KE) (ad : Nat → Nat) (M : KS) (a1 : Int32) : CT l yX10_doDrop cX10_doDrop 3 (some .int) { frames := 8, cells := 0, slots := 0, locals := 190 } SM E ad [.ref (ad 0), .int a1] M (QI SM E ad) (fX10_doDrop M a1) := by
  refine CT.ofW (by decide) (Nat.le_of_ble_eq_true rfl) (fun sz p e s m args below meth c C hr hH ls hl => ?_)
  have hx := C.1.1
  have hb := C.1.2.1
  have hl : lv_has ls 3 [(0, .ref (ad 0)), (1, .int a1)] := hl
  unfold fX10_doDrop
  refine lv_aload_n hx hb dX10_doDrop_0 rfl (lv_at hl 0 rfl) ?_
  refine lv_iload_n hx hb dX10_doDrop_1 rfl (lv_at hl 1 rfl) ?_
  refine kg_io C hH (kc_V C hH w_7_46 lc_yX10_isRule li_yX10_isRule oM (kX10_isRule l E ad M a1) (As := [.int a1]) rfl dX10_doDrop_2 rfl hl.1 (Nat.le_of_ble_eq_true rfl) ⟨Nat.le_of_ble_eq_true rfl, Nat.le_of_ble_eq_true rfl⟩ ⟨Nat.le_of_ble_eq_true rfl, Nat.le_of_ble_eq_true rfl⟩) ⟨rfl, rfl⟩ (fun v1 H locs hH => ?_)
  refine kb_if_ne (tgt := 14) hx hb dX10_doDrop_5 (by decide) (fun _ => ?_) (fun _ => ?_)
  · refine lv_sipush (v := 217) hx hb dX10_doDrop_14 (by decide) ?_
    refine lv_iconst (v := 4) hx hb dX10_doDrop_17 (by decide) ?_
    refine lv_iload_n hx hb dX10_doDrop_18 rfl (lv_at hl 1 rfl) ?_
    refine lv_iconst (v := 1) hx hb dX10_doDrop_19 (by decide) ?_
    refine lv_iadd hx hb dX10_doDrop_20 ?_
    refine lv_imul hx hb dX10_doDrop_21 ?_
    refine lv_iadd hx hb dX10_doDrop_22 ?_
    refine W_nmi (fun v2 => ?_)
    refine lv_istore_n (lv' := [(2, .int v2), (0, .ref (ad 0)), (1, .int a1)]) hx hb dX10_doDrop_23 rfl hl (by decide) rfl (fun ls hl => ?_)
    refine lv_aload_n hx hb dX10_doDrop_24 rfl (lv_at hl 1 rfl) ?_
    refine k_get C hH fd_X10_9 oM (k_ref (M := M) (ad := ad) rM0) dX10_doDrop_25 ?_
    refine lv_iload_n hx hb dX10_doDrop_28 rfl (lv_at hl 0 rfl) ?_
    refine lv_aload_n hx hb dX10_doDrop_29 rfl (lv_at hl 1 rfl) ?_
    refine k_get C hH fd_X10_9 oM (k_ref (M := M) (ad := ad) rM0) dX10_doDrop_30 ?_
    refine lv_iload_n hx hb dX10_doDrop_33 rfl (lv_at hl 0 rfl) ?_
    refine lv_iconst (v := 4) hx hb dX10_doDrop_34 (by decide) ?_
    refine lv_isub hx hb dX10_doDrop_35 ?_
    refine lv_iconst (v := 4) hx hb dX10_doDrop_36 (by decide) ?_
    refine lv_aload_n hx hb dX10_doDrop_37 rfl (lv_at hl 1 rfl) ?_
    refine k_get C hH fd_X10_9 oM (k_ref (M := M) (ad := ad) rM0) dX10_doDrop_38 ?_
    refine lv_sipush (v := 216) hx hb dX10_doDrop_41 (by decide) ?_
    refine k_iald C hH aM0 dX10_doDrop_44 ?_
    refine lv_iload_n hx hb dX10_doDrop_45 rfl (lv_at hl 2 rfl) ?_
    refine lv_isub hx hb dX10_doDrop_46 ?_
    refine lv_iconst (v := 1) hx hb dX10_doDrop_47 (by decide) ?_
    refine lv_isub hx hb dX10_doDrop_48 ?_
    refine lv_imul hx hb dX10_doDrop_49 ?_
    refine k_acopy C hH aM0 aM0 w_6_83 hl.1 (Nat.le_of_ble_eq_true rfl) (Nat.le_of_ble_eq_true rfl) dX10_doDrop_50 (fun M3 H locs hH => ?_)
    refine lv_aload_n hx hb dX10_doDrop_53 rfl (lv_at hl 1 rfl) ?_
    refine k_get C hH fd_X10_9 oM (k_ref (M := M3) (ad := ad) rM0) dX10_doDrop_54 ?_
    refine lv_sipush (v := 216) hx hb dX10_doDrop_57 (by decide) ?_
    refine lv_dup2_11 hx hb dX10_doDrop_60 rfl rfl ?_
    refine k_iald C hH aM0 dX10_doDrop_61 ?_
    refine lv_iconst (v := 1) hx hb dX10_doDrop_62 (by decide) ?_
    refine lv_isub hx hb dX10_doDrop_63 ?_
    refine k_iast C hH aM0 dX10_doDrop_64 (fun M4 H locs hH => ?_)
    refine lv_aload_n hx hb dX10_doDrop_65 rfl (lv_at hl 1 rfl) ?_
    refine kg_ib C hH (kc_V C hH w_6_117 lc_yX10_allHolding li_yX10_allHolding oM (kX10_allHolding l E ad M4) (As := []) rfl dX10_doDrop_66 rfl hl.1 (Nat.le_of_ble_eq_true rfl) ⟨Nat.le_of_ble_eq_true rfl, Nat.le_of_ble_eq_true rfl⟩ ⟨Nat.le_of_ble_eq_true rfl, Nat.le_of_ble_eq_true rfl⟩) ⟨rfl, rfl⟩ (fun v6 M5 H locs hH => ?_)
    exact ke_i C hH hr (Nat.le_refl _) (Nat.le_refl _) rfl dX10_doDrop_69
  · refine lv_aload_n hx hb dX10_doDrop_8 rfl (lv_at hl 0 rfl) ?_
    refine lv_iconst (v := 1) hx hb dX10_doDrop_9 (by decide) ?_
    refine kg_ib C hH (kc_V C hH w_6_102 lc_yX10_fails li_yX10_fails oM (kX10_fails l E ad M 1) (As := [.int 1]) rfl dX10_doDrop_10 rfl hl.1 (Nat.le_of_ble_eq_true rfl) ⟨Nat.le_of_ble_eq_true rfl, Nat.le_of_ble_eq_true rfl⟩ ⟨Nat.le_of_ble_eq_true rfl, Nat.le_of_ble_eq_true rfl⟩) ⟨rfl, rfl⟩ (fun v8 M7 H locs hH => ?_)
    exact ke_i C hH hr (Nat.le_refl _) (Nat.le_refl _) rfl dX10_doDrop_13
def fX10_drop (M : KS) (a1 : Int32) : Option (Int32 × KS) := (fX10_keep M).bind fun M1 => bd2 (fX10_doDrop M1 a1) fun v3 M2 => bd2 (fX10_ends M2 v3) fun v5 M4 => some (v5, M4)
set_option maxHeartbeats 4000000 in
set_option maxRecDepth 100000 in
theorem kX10_drop (l : Launch) (E : KE) (ad : Nat → Nat) (M : KS) (a1 : Int32) : CT l yX10_drop cX10_drop 2 (some .int) { frames := 9, cells := 0, slots := 0, locals := 212 } SM E ad [.ref (ad 0), .int a1] M (QI SM E ad) (fX10_drop M a1) := by
  refine CT.ofW (by decide) (Nat.le_of_ble_eq_true rfl) (fun sz p e s m args below meth c C hr hH ls hl => ?_)
  have hx := C.1.1
  have hb := C.1.2.1
  have hl : lv_has ls 2 [(0, .ref (ad 0)), (1, .int a1)] := hl
  unfold fX10_drop
  refine lv_aload_n hx hb dX10_drop_0 rfl (lv_at hl 0 rfl) ?_
  refine kg_v C hH (kc_V C hH w_6_79 lc_yX10_keep li_yX10_keep oM (kX10_keep l E ad M) (As := []) rfl dX10_drop_1 rfl hl.1 (Nat.le_of_ble_eq_true rfl) ⟨Nat.le_of_ble_eq_true rfl, Nat.le_of_ble_eq_true rfl⟩ ⟨Nat.le_of_ble_eq_true rfl, Nat.le_of_ble_eq_true rfl⟩) ⟨rfl, rfl⟩ (fun M1 H locs hH => ?_)
  refine lv_aload_n hx hb dX10_drop_4 rfl (lv_at hl 0 rfl) ?_
  refine lv_aload_n hx hb dX10_drop_5 rfl (lv_at hl 0 rfl) ?_
  refine lv_iload_n hx hb dX10_drop_6 rfl (lv_at hl 1 rfl) ?_
  refine kg_ib C hH (kc_V C hH w_7_42 lc_yX10_doDrop li_yX10_doDrop oM (kX10_doDrop l E ad M1 a1) (As := [.int a1]) rfl dX10_drop_7 rfl hl.1 (Nat.le_of_ble_eq_true rfl) ⟨Nat.le_of_ble_eq_true rfl, Nat.le_of_ble_eq_true rfl⟩ ⟨Nat.le_of_ble_eq_true rfl, Nat.le_of_ble_eq_true rfl⟩) ⟨rfl, rfl⟩ (fun v3 M2 H locs hH => ?_)
  refine kg_ib C hH (kc_V C hH w_6_182 lc_yX10_ends li_yX10_ends oM (kX10_ends l E ad M2 v3) (As := [.int v3]) rfl dX10_drop_10 rfl hl.1 (Nat.le_of_ble_eq_true rfl) ⟨Nat.le_of_ble_eq_true rfl, Nat.le_of_ble_eq_true rfl⟩ ⟨Nat.le_of_ble_eq_true rfl, Nat.le_of_ble_eq_true rfl⟩) ⟨rfl, rfl⟩ (fun v5 M4 H locs hH => ?_)
  exact ke_i C hH hr (Nat.le_refl _) (Nat.le_refl _) rfl dX10_drop_13
def fX10_factsBy_X5 (x : Int32 × KS) : Option (Int32 × KS) := match x with | (v4, M5) => some (v4, M5)
theorem fX10_factsBy_X5_u {v4 : Int32} {M5 : KS} : fX10_factsBy_X5 (v4, M5) = some (v4, M5) := rfl
def fX10_factsBy_J97_34 (v1 : Int32) (v2 : Int32) (rec5 : (Int32 × Int32 × KS) → Option (Int32 × KS)) (x : Int32 × KS) : Option (Int32 × KS) := match x with | (v8, M9) => (if v8 = 0 then nm ((v1 + 0)) fun v10 => nm (v2 + 1) fun v11 => rec5 (v10, v11, M9) else nm ((v1 + 1)) fun v12 => nm (v2 + 1) fun v13 => rec5 (v12, v13, M9))
theorem fX10_factsBy_J97_34_u {v1 : Int32} {v2 : Int32} {rec5 : (Int32 × Int32 × KS) → Option (Int32 × KS)} {v8 : Int32} {M9 : KS} : fX10_factsBy_J97_34 v1 v2 rec5 (v8, M9) = (if v8 = 0 then nm ((v1 + 0)) fun v10 => nm (v2 + 1) fun v11 => rec5 (v10, v11, M9) else nm ((v1 + 1)) fun v12 => nm (v2 + 1) fun v13 => rec5 (v12, v13, M9)) := rfl
def fX10_factsBy_J31_23 (a1 : Int32) (a2 : Int32) (v1 : Int32) (v2 : Int32) (M3 : KS) (rec5 : (Int32 × Int32 × KS) → Option (Int32 × KS)) (v7 : Int32) : Option (Int32 × KS) := jn (fX10_factsBy_J97_34 v1 v2 rec5) (fun K97_34 => (if a2 = 0 then if inb v2 216 then (if (M3.1 6 v2.toNatClampNeg) ≤ 0 then K97_34 (0, M3) else if inb v2 216 then (if (M3.1 7 v2.toNatClampNeg) = a1 then K97_34 (1, M3) else K97_34 (0, M3)) else none) else none else (if v7 = 0 then K97_34 (0, M3) else bd2 (fX10_lowest M3 a1 (jrem (v2 / 6) 6) (jrem v2 6)) fun v15 M14 => (if v15 < 0 then K97_34 (0, M14) else K97_34 (1, M14)))))
theorem fX10_factsBy_J31_23_u {a1 : Int32} {a2 : Int32} {v1 : Int32} {v2 : Int32} {M3 : KS} {rec5 : (Int32 × Int32 × KS) → Option (Int32 × KS)} {v7 : Int32} : fX10_factsBy_J31_23 a1 a2 v1 v2 M3 rec5 v7 = jn (fX10_factsBy_J97_34 v1 v2 rec5) (fun K97_34 => (if a2 = 0 then if inb v2 216 then (if (M3.1 6 v2.toNatClampNeg) ≤ 0 then K97_34 (0, M3) else if inb v2 216 then (if (M3.1 7 v2.toNatClampNeg) = a1 then K97_34 (1, M3) else K97_34 (0, M3)) else none) else none else (if v7 = 0 then K97_34 (0, M3) else bd2 (fX10_lowest M3 a1 (jrem (v2 / 6) 6) (jrem v2 6)) fun v15 M14 => (if v15 < 0 then K97_34 (0, M14) else K97_34 (1, M14))))) := rfl
def fX10_factsBy_L5 (a1 : Int32) (a2 : Int32) (rec5 : (Int32 × Int32 × KS) → Option (Int32 × KS)) (k5 : (Int32 × KS) → Option (Int32 × KS)) (x : Int32 × Int32 × KS) : Option (Int32 × KS) := match x with | (v1, v2, M3) => (if 216 ≤ v2 then k5 (v1, M3) else (fX10_head M3 a1).bind fun v6 => jn (fX10_factsBy_J31_23 a1 a2 v1 v2 M3 rec5) (fun K31_23 => (if (v2 / 36) = v6 then K31_23 1 else K31_23 0)))
theorem fX10_factsBy_L5_u {a1 : Int32} {a2 : Int32} {rec5 : (Int32 × Int32 × KS) → Option (Int32 × KS)} {k5 : (Int32 × KS) → Option (Int32 × KS)} {v1 : Int32} {v2 : Int32} {M3 : KS} : fX10_factsBy_L5 a1 a2 rec5 k5 (v1, v2, M3) = (if 216 ≤ v2 then k5 (v1, M3) else (fX10_head M3 a1).bind fun v6 => jn (fX10_factsBy_J31_23 a1 a2 v1 v2 M3 rec5) (fun K31_23 => (if (v2 / 36) = v6 then K31_23 1 else K31_23 0))) := rfl
def fX10_factsBy (M : KS) (a1 : Int32) (a2 : Int32) : Option (Int32 × KS) := lp (fX10_factsBy_L5 a1 a2) (fX10_factsBy_X5) 1000000 (0, 0, M)
set_option maxHeartbeats 4000000 in
set_option maxRecDepth 100000 in
theorem kX10_factsBy (l : Launch) (E : KE) (ad : Nat → Nat) (M : KS) (a1 : Int32) (a2 : Int32) : CT l yX10_factsBy cX10_factsBy 7 (some .int) { frames := 5, cells := 0, slots := 0, locals := 119 } SM E ad [.ref (ad 0), .int a1, .int a2] M (QI SM E ad) (fX10_factsBy M a1 a2) := by
  refine CT.ofW (by decide) (Nat.le_of_ble_eq_true rfl) (fun sz p e s m args below meth c C hr hH ls hl => ?_)
  have hx := C.1.1
  have hb := C.1.2.1
  have hl : lv_has ls 7 [(0, .ref (ad 0)), (1, .int a1), (2, .int a2)] := hl
  unfold fX10_factsBy
  refine lv_iconst (v := 0) hx hb dX10_factsBy_0 (by decide) ?_
  refine lv_istore_n (lv' := [(3, .int 0), (0, .ref (ad 0)), (1, .int a1), (2, .int a2)]) hx hb dX10_factsBy_1 rfl hl (by decide) rfl (fun ls hl => ?_)
  refine lv_iconst (v := 0) hx hb dX10_factsBy_2 (by decide) ?_
  refine lv_istore (lv' := [(4, .int 0), (3, .int 0), (0, .ref (ad 0)), (1, .int a1), (2, .int a2)]) hx hb dX10_factsBy_3 hl (by decide) rfl (fun ls hl => ?_)
  refine W_lp (fun (x : Int32 × Int32 × KS) H locs => KH SM E ad sz x.2.2 s.heap H locs) (fun x ls => lv_has ls 7 [(0, .ref (ad 0)), (1, .int a1), (2, .int a2), (3, .int x.1), (4, .int x.2.1)]) (fun _ ls => F0 m 5 ls []) (fun (x : Int32 × KS) H locs => KH SM E ad sz x.2 s.heap H locs) (fun x ls => lv_has ls 7 [(3, .int x.1)]) (fun _ ls => F0 m 118 ls []) ?_ ?_ hH (lv_sub hl [2, 3, 4, 1, 0] rfl)
  · intro ⟨v4, M5⟩ H locs ls hH hl
    have hH : KH SM E ad sz M5 s.heap H locs := hH
    have hl : lv_has ls 7 [(3, .int v4)] := hl
    refine W_q fX10_factsBy_X5_u ?_
    refine lv_iload_n hx hb dX10_factsBy_118 rfl (lv_at hl 0 rfl) ?_
    exact ke_i C hH hr (Nat.le_refl _) (Nat.le_refl _) rfl dX10_factsBy_119
  · intro rec5 k5 hrec5 hk5 ⟨v1, v2, M3⟩ H locs ls hH hl
    have hH : KH SM E ad sz M3 s.heap H locs := hH
    have hl : lv_has ls 7 [(0, .ref (ad 0)), (1, .int a1), (2, .int a2), (3, .int v1), (4, .int v2)] := hl
    refine W_q fX10_factsBy_L5_u ?_
    refine lv_iload hx hb dX10_factsBy_5 (lv_at hl 4 rfl) ?_
    refine lv_sipush (v := 216) hx hb dX10_factsBy_7 (by decide) ?_
    refine kb_icmp_ge (tgt := 118) hx hb dX10_factsBy_10 (by decide) (fun _ => ?_) (fun _ => ?_)
    · exact hk5 (v1, M3) _ _ _ hH (lv_sub hl [3] rfl)
    · refine lv_iload hx hb dX10_factsBy_13 (lv_at hl 4 rfl) ?_
      refine lv_bipush (v := 36) hx hb dX10_factsBy_15 (by decide) ?_
      refine lv_idiv hx hb dX10_factsBy_17 (by decide) ?_
      refine lv_aload_n hx hb dX10_factsBy_18 rfl (lv_at hl 0 rfl) ?_
      refine lv_iload_n hx hb dX10_factsBy_19 rfl (lv_at hl 1 rfl) ?_
      refine kg_io C hH (kc_V C hH w_6_143 lc_yX10_head li_yX10_head oM (kX10_head l E ad M3 a1) (As := [.int a1]) rfl dX10_factsBy_20 rfl hl.1 (Nat.le_of_ble_eq_true rfl) ⟨Nat.le_of_ble_eq_true rfl, Nat.le_of_ble_eq_true rfl⟩ ⟨Nat.le_of_ble_eq_true rfl, Nat.le_of_ble_eq_true rfl⟩) ⟨rfl, rfl⟩ (fun v6 H locs hH => ?_)
      refine W_jn (fun (x : Int32) H locs => KH SM E ad sz M3 s.heap H locs) (fun x ls => lv_has ls 7 [(0, .ref (ad 0)), (1, .int a1), (2, .int a2), (3, .int v1), (4, .int v2)]) (fun x ls => F0 m 31 ls [.int x]) ?_ (fun K31_23 hK31_23 => ?_)
      · intro v7 H locs ls hH hl
        have hH : KH SM E ad sz M3 s.heap H locs := hH
        have hl : lv_has ls 7 [(0, .ref (ad 0)), (1, .int a1), (2, .int a2), (3, .int v1), (4, .int v2)] := hl
        refine W_q fX10_factsBy_J31_23_u ?_
        refine lv_istore (lv' := [(5, .int v7), (0, .ref (ad 0)), (1, .int a1), (2, .int a2), (3, .int v1), (4, .int v2)]) hx hb dX10_factsBy_31 hl (by decide) rfl (fun ls hl => ?_)
        refine lv_iload_n hx hb dX10_factsBy_33 rfl (lv_at hl 3 rfl) ?_
        refine W_jn (fun (x : Int32 × KS) H locs => KH SM E ad sz x.2 s.heap H locs) (fun x ls => lv_has ls 7 [(0, .ref (ad 0)), (1, .int a1), (2, .int a2), (3, .int v1), (4, .int v2)]) (fun x ls => F0 m 97 ls [.int x.1]) ?_ (fun K97_34 hK97_34 => ?_)
        · intro ⟨v8, M9⟩ H locs ls hH hl
          have hH : KH SM E ad sz M9 s.heap H locs := hH
          have hl : lv_has ls 7 [(0, .ref (ad 0)), (1, .int a1), (2, .int a2), (3, .int v1), (4, .int v2)] := hl
          refine W_q fX10_factsBy_J97_34_u ?_
          refine lv_istore (lv' := [(6, .int v8), (0, .ref (ad 0)), (1, .int a1), (2, .int a2), (3, .int v1), (4, .int v2)]) hx hb dX10_factsBy_97 hl (by decide) rfl (fun ls hl => ?_)
          refine lv_iload_n hx hb dX10_factsBy_99 rfl (lv_at hl 4 rfl) ?_
          refine lv_iload hx hb dX10_factsBy_100 (lv_at hl 0 rfl) ?_
          refine kb_if_eq (tgt := 109) hx hb dX10_factsBy_102 (by decide) (fun _ => ?_) (fun _ => ?_)
          · refine lv_iconst (v := 0) hx hb dX10_factsBy_109 (by decide) ?_
            refine lv_iadd hx hb dX10_factsBy_110 ?_
            refine W_nmi (fun v10 => ?_)
            refine lv_istore_n (lv' := [(3, .int v10), (6, .int v8), (0, .ref (ad 0)), (1, .int a1), (2, .int a2), (4, .int v2)]) hx hb dX10_factsBy_111 rfl hl (by decide) rfl (fun ls hl => ?_)
            refine W_nm (fun v11 ev11 => ?_)
            refine lv_iinc (v := v11) (lv' := [(4, .int v11), (3, .int v10), (6, .int v8), (0, .ref (ad 0)), (1, .int a1), (2, .int a2)]) hx hb dX10_factsBy_112 hl (k := 5) rfl (by rw [ev11]; rfl) (by decide) rfl (fun ls hl => ?_)
            refine lv_goto (tgt := 5) hx hb dX10_factsBy_115 (by decide) ?_
            exact hrec5 (v10, v11, M9) _ _ _ hH (lv_sub hl [3, 4, 5, 1, 0] rfl)
          · refine lv_iconst (v := 1) hx hb dX10_factsBy_105 (by decide) ?_
            refine lv_goto (tgt := 110) hx hb dX10_factsBy_106 (by decide) ?_
            refine lv_iadd hx hb dX10_factsBy_110 ?_
            refine W_nmi (fun v12 => ?_)
            refine lv_istore_n (lv' := [(3, .int v12), (6, .int v8), (0, .ref (ad 0)), (1, .int a1), (2, .int a2), (4, .int v2)]) hx hb dX10_factsBy_111 rfl hl (by decide) rfl (fun ls hl => ?_)
            refine W_nm (fun v13 ev13 => ?_)
            refine lv_iinc (v := v13) (lv' := [(4, .int v13), (3, .int v12), (6, .int v8), (0, .ref (ad 0)), (1, .int a1), (2, .int a2)]) hx hb dX10_factsBy_112 hl (k := 5) rfl (by rw [ev13]; rfl) (by decide) rfl (fun ls hl => ?_)
            refine lv_goto (tgt := 5) hx hb dX10_factsBy_115 (by decide) ?_
            exact hrec5 (v12, v13, M9) _ _ _ hH (lv_sub hl [3, 4, 5, 1, 0] rfl)
        · refine kb_if_eq (tgt := 71) hx hb dX10_factsBy_34 (by decide) (fun _ => ?_) (fun _ => ?_)
          · refine lv_aload_n hx hb dX10_factsBy_71 rfl (lv_at hl 1 rfl) ?_
            refine k_get C hH fd_X10_25 oM (k_ref (M := M3) (ad := ad) rM11) dX10_factsBy_72 ?_
            refine lv_iload hx hb dX10_factsBy_75 (lv_at hl 5 rfl) ?_
            refine k_iald C hH aM11 dX10_factsBy_77 ?_
            refine kb_if_le (tgt := 96) hx hb dX10_factsBy_78 (by decide) (fun _ => ?_) (fun _ => ?_)
            · refine lv_iconst (v := 0) hx hb dX10_factsBy_96 (by decide) ?_
              exact hK97_34 (0, M3) _ _ _ hH (lv_sub hl [1, 2, 3, 4, 5] rfl)
            · refine lv_aload_n hx hb dX10_factsBy_81 rfl (lv_at hl 1 rfl) ?_
              refine k_get C hH fd_X10_28 oM (k_ref (M := M3) (ad := ad) rM12) dX10_factsBy_82 ?_
              refine lv_iload hx hb dX10_factsBy_85 (lv_at hl 5 rfl) ?_
              refine k_iald C hH aM12 dX10_factsBy_87 ?_
              refine lv_iload_n hx hb dX10_factsBy_88 rfl (lv_at hl 2 rfl) ?_
              refine kb_icmp_ne (tgt := 96) hx hb dX10_factsBy_89 (by decide) (fun _ => ?_) (fun _ => ?_)
              · refine lv_iconst (v := 0) hx hb dX10_factsBy_96 (by decide) ?_
                exact hK97_34 (0, M3) _ _ _ hH (lv_sub hl [1, 2, 3, 4, 5] rfl)
              · refine lv_iconst (v := 1) hx hb dX10_factsBy_92 (by decide) ?_
                refine lv_goto (tgt := 97) hx hb dX10_factsBy_93 (by decide) ?_
                exact hK97_34 (1, M3) _ _ _ hH (lv_sub hl [1, 2, 3, 4, 5] rfl)
          · refine lv_iload hx hb dX10_factsBy_37 (lv_at hl 0 rfl) ?_
            refine kb_if_eq (tgt := 67) hx hb dX10_factsBy_39 (by decide) (fun _ => ?_) (fun _ => ?_)
            · refine lv_iconst (v := 0) hx hb dX10_factsBy_67 (by decide) ?_
              refine lv_goto (tgt := 97) hx hb dX10_factsBy_68 (by decide) ?_
              exact hK97_34 (0, M3) _ _ _ hH (lv_sub hl [1, 2, 3, 4, 5] rfl)
            · refine lv_aload_n hx hb dX10_factsBy_42 rfl (lv_at hl 1 rfl) ?_
              refine lv_iload_n hx hb dX10_factsBy_43 rfl (lv_at hl 2 rfl) ?_
              refine lv_iload hx hb dX10_factsBy_44 (lv_at hl 5 rfl) ?_
              refine lv_bipush (v := 6) hx hb dX10_factsBy_46 (by decide) ?_
              refine lv_idiv hx hb dX10_factsBy_48 (by decide) ?_
              refine lv_bipush (v := 6) hx hb dX10_factsBy_49 (by decide) ?_
              refine k_irem hx hb dX10_factsBy_51 (by decide) ?_
              refine lv_iload hx hb dX10_factsBy_52 (lv_at hl 5 rfl) ?_
              refine lv_bipush (v := 6) hx hb dX10_factsBy_54 (by decide) ?_
              refine k_irem hx hb dX10_factsBy_56 (by decide) ?_
              refine kg_ib C hH (kc_V C hH w_6_156 lc_yX10_lowest li_yX10_lowest oM (kX10_lowest l E ad M3 a1 (jrem (v2 / 6) 6) (jrem v2 6)) (As := [.int a1, .int (jrem (v2 / 6) 6), .int (jrem v2 6)]) rfl dX10_factsBy_57 rfl hl.1 (Nat.le_of_ble_eq_true rfl) ⟨Nat.le_of_ble_eq_true rfl, Nat.le_of_ble_eq_true rfl⟩ ⟨Nat.le_of_ble_eq_true rfl, Nat.le_of_ble_eq_true rfl⟩) ⟨rfl, rfl⟩ (fun v15 M14 H locs hH => ?_)
              refine kb_if_lt (tgt := 67) hx hb dX10_factsBy_60 (by decide) (fun _ => ?_) (fun _ => ?_)
              · refine lv_iconst (v := 0) hx hb dX10_factsBy_67 (by decide) ?_
                refine lv_goto (tgt := 97) hx hb dX10_factsBy_68 (by decide) ?_
                exact hK97_34 (0, M14) _ _ _ hH (lv_sub hl [1, 2, 3, 4, 5] rfl)
              · refine lv_iconst (v := 1) hx hb dX10_factsBy_63 (by decide) ?_
                refine lv_goto (tgt := 97) hx hb dX10_factsBy_64 (by decide) ?_
                exact hK97_34 (1, M14) _ _ _ hH (lv_sub hl [1, 2, 3, 4, 5] rfl)
      · refine kb_icmp_ne (tgt := 30) hx hb dX10_factsBy_23 (by decide) (fun _ => ?_) (fun _ => ?_)
        · refine lv_iconst (v := 0) hx hb dX10_factsBy_30 (by decide) ?_
          exact hK31_23 0 _ _ _ hH (lv_sub hl [0, 1, 2, 3, 4] rfl)
        · refine lv_iconst (v := 1) hx hb dX10_factsBy_26 (by decide) ?_
          refine lv_goto (tgt := 31) hx hb dX10_factsBy_27 (by decide) ?_
          exact hK31_23 1 _ _ _ hH (lv_sub hl [0, 1, 2, 3, 4] rfl)
def fX10_ruleOf_J81_73 (a1 : Int32) (M4 : KS) (v5 : Int32) : Option (Int32 × KS) := bd2 (fX10_factsBy M4 a1 v5) fun v7 M6 => some (v7, M6)
theorem fX10_ruleOf_J81_73_u {a1 : Int32} {M4 : KS} {v5 : Int32} : fX10_ruleOf_J81_73 a1 M4 v5 = bd2 (fX10_factsBy M4 a1 v5) fun v7 M6 => some (v7, M6) := rfl
def fX10_ruleOf_J27_6 (M : KS) (a1 : Int32) (a2 : Int32) (v2 : Int32) : Option (Int32 × KS) := nm (kset M 0 6 v2) fun M3 => (if (M3.1 0 6) ≤ 0 then (fX10_derives M3).bind fun M4 => (if a2 = 0 then (fX10_head M4 a1).bind fun v9 => some (v9, M4) else (if a2 = 1 then (fX10_conditionMany M4 a1 0).bind fun v8 => some (v8, M4) else jn (fX10_ruleOf_J81_73 a1 M4) (fun K81_73 => (if a2 = 3 then K81_73 1 else K81_73 0)))) else some (0, M3))
theorem fX10_ruleOf_J27_6_u {M : KS} {a1 : Int32} {a2 : Int32} {v2 : Int32} : fX10_ruleOf_J27_6 M a1 a2 v2 = nm (kset M 0 6 v2) fun M3 => (if (M3.1 0 6) ≤ 0 then (fX10_derives M3).bind fun M4 => (if a2 = 0 then (fX10_head M4 a1).bind fun v9 => some (v9, M4) else (if a2 = 1 then (fX10_conditionMany M4 a1 0).bind fun v8 => some (v8, M4) else jn (fX10_ruleOf_J81_73 a1 M4) (fun K81_73 => (if a2 = 3 then K81_73 1 else K81_73 0)))) else some (0, M3)) := rfl
def fX10_ruleOf (M : KS) (a1 : Int32) (a2 : Int32) : Option (Int32 × KS) := (fX10_isRule M a1).bind fun v1 => jn (fX10_ruleOf_J27_6 M a1 a2) (fun K27_6 => (if v1 = 0 then K27_6 1 else (if (fX10_in a2 0 3) = 0 then K27_6 2 else K27_6 0)))
set_option maxHeartbeats 4000000 in
set_option maxRecDepth 100000 in
theorem kX10_ruleOf (l : Launch) (E : KE) (ad : Nat → Nat) (M : KS) (a1 : Int32) (a2 : Int32) : CT l yX10_ruleOf cX10_ruleOf 3 (some .int) { frames := 7, cells := 0, slots := 0, locals := 170 } SM E ad [.ref (ad 0), .int a1, .int a2] M (QI SM E ad) (fX10_ruleOf M a1 a2) := by
  refine CT.ofW (by decide) (Nat.le_of_ble_eq_true rfl) (fun sz p e s m args below meth c C hr hH ls hl => ?_)
  have hx := C.1.1
  have hb := C.1.2.1
  have hl : lv_has ls 3 [(0, .ref (ad 0)), (1, .int a1), (2, .int a2)] := hl
  unfold fX10_ruleOf
  refine lv_aload_n hx hb dX10_ruleOf_0 rfl (lv_at hl 0 rfl) ?_
  refine lv_aload_n hx hb dX10_ruleOf_1 rfl (lv_at hl 0 rfl) ?_
  refine lv_iload_n hx hb dX10_ruleOf_2 rfl (lv_at hl 1 rfl) ?_
  refine kg_io C hH (kc_V C hH w_7_46 lc_yX10_isRule li_yX10_isRule oM (kX10_isRule l E ad M a1) (As := [.int a1]) rfl dX10_ruleOf_3 rfl hl.1 (Nat.le_of_ble_eq_true rfl) ⟨Nat.le_of_ble_eq_true rfl, Nat.le_of_ble_eq_true rfl⟩ ⟨Nat.le_of_ble_eq_true rfl, Nat.le_of_ble_eq_true rfl⟩) ⟨rfl, rfl⟩ (fun v1 H locs hH => ?_)
  refine W_jn (fun (x : Int32) H locs => KH SM E ad sz M s.heap H locs) (fun x ls => lv_has ls 3 [(0, .ref (ad 0)), (1, .int a1), (2, .int a2)]) (fun x ls => F0 m 27 ls [.int x, .ref (ad 0)]) ?_ (fun K27_6 hK27_6 => ?_)
  · intro v2 H locs ls hH hl
    have hH : KH SM E ad sz M s.heap H locs := hH
    have hl : lv_has ls 3 [(0, .ref (ad 0)), (1, .int a1), (2, .int a2)] := hl
    refine W_q fX10_ruleOf_J27_6_u ?_
    refine k_put1 C hH fd_X10_76 fw_X10_6 oM nM6 rfl rfl dX10_ruleOf_27 (fun M3 H locs hH => ?_)
    refine lv_aload_n hx hb dX10_ruleOf_30 rfl (lv_at hl 0 rfl) ?_
    refine k_get C hH fd_X10_76 oM (k_int (M := M3) (ad := ad) nM6) dX10_ruleOf_31 ?_
    refine kb_if_le (tgt := 39) hx hb dX10_ruleOf_34 (by decide) (fun _ => ?_) (fun _ => ?_)
    · refine lv_aload_n hx hb dX10_ruleOf_39 rfl (lv_at hl 0 rfl) ?_
      refine kg_v C hH (kc_V C hH w_6_121 lc_yX10_derives li_yX10_derives oM (kX10_derives l E ad M3) (As := []) rfl dX10_ruleOf_40 rfl hl.1 (Nat.le_of_ble_eq_true rfl) ⟨Nat.le_of_ble_eq_true rfl, Nat.le_of_ble_eq_true rfl⟩ ⟨Nat.le_of_ble_eq_true rfl, Nat.le_of_ble_eq_true rfl⟩) ⟨rfl, rfl⟩ (fun M4 H locs hH => ?_)
      refine lv_iload_n hx hb dX10_ruleOf_43 rfl (lv_at hl 2 rfl) ?_
      refine kb_if_ne (tgt := 55) hx hb dX10_ruleOf_44 (by decide) (fun _ => ?_) (fun _ => ?_)
      · refine lv_iload_n hx hb dX10_ruleOf_55 rfl (lv_at hl 2 rfl) ?_
        refine lv_iconst (v := 1) hx hb dX10_ruleOf_56 (by decide) ?_
        refine kb_icmp_ne (tgt := 69) hx hb dX10_ruleOf_57 (by decide) (fun _ => ?_) (fun _ => ?_)
        · refine lv_aload_n hx hb dX10_ruleOf_69 rfl (lv_at hl 0 rfl) ?_
          refine lv_iload_n hx hb dX10_ruleOf_70 rfl (lv_at hl 1 rfl) ?_
          refine lv_iload_n hx hb dX10_ruleOf_71 rfl (lv_at hl 2 rfl) ?_
          refine lv_iconst (v := 3) hx hb dX10_ruleOf_72 (by decide) ?_
          refine W_jn (fun (x : Int32) H locs => KH SM E ad sz M4 s.heap H locs) (fun x ls => lv_has ls 3 []) (fun x ls => F0 m 81 ls [.int x, .int a1, .ref (ad 0)]) ?_ (fun K81_73 hK81_73 => ?_)
          · intro v5 H locs ls hH hl
            have hH : KH SM E ad sz M4 s.heap H locs := hH
            have hl : lv_has ls 3 [] := hl
            refine W_q fX10_ruleOf_J81_73_u ?_
            refine kg_ib C hH (kc_V C hH w_7_58 lc_yX10_factsBy li_yX10_factsBy oM (kX10_factsBy l E ad M4 a1 v5) (As := [.int a1, .int v5]) rfl dX10_ruleOf_81 rfl hl.1 (Nat.le_of_ble_eq_true rfl) ⟨Nat.le_of_ble_eq_true rfl, Nat.le_of_ble_eq_true rfl⟩ ⟨Nat.le_of_ble_eq_true rfl, Nat.le_of_ble_eq_true rfl⟩) ⟨rfl, rfl⟩ (fun v7 M6 H locs hH => ?_)
            exact ke_i C hH hr (Nat.le_refl _) (Nat.le_refl _) rfl dX10_ruleOf_84
          · refine kb_icmp_ne (tgt := 80) hx hb dX10_ruleOf_73 (by decide) (fun _ => ?_) (fun _ => ?_)
            · refine lv_iconst (v := 0) hx hb dX10_ruleOf_80 (by decide) ?_
              exact hK81_73 0 _ _ _ hH (lv_sub hl [] rfl)
            · refine lv_iconst (v := 1) hx hb dX10_ruleOf_76 (by decide) ?_
              refine lv_goto (tgt := 81) hx hb dX10_ruleOf_77 (by decide) ?_
              exact hK81_73 1 _ _ _ hH (lv_sub hl [] rfl)
        · refine lv_aload_n hx hb dX10_ruleOf_60 rfl (lv_at hl 0 rfl) ?_
          refine lv_iload_n hx hb dX10_ruleOf_61 rfl (lv_at hl 1 rfl) ?_
          refine lv_iconst (v := 0) hx hb dX10_ruleOf_62 (by decide) ?_
          refine kg_io C hH (kc_V C hH w_7_54 lc_yX10_conditionMany li_yX10_conditionMany oM (kX10_conditionMany l E ad M4 a1 0) (As := [.int a1, .int 0]) rfl dX10_ruleOf_63 rfl hl.1 (Nat.le_of_ble_eq_true rfl) ⟨Nat.le_of_ble_eq_true rfl, Nat.le_of_ble_eq_true rfl⟩ ⟨Nat.le_of_ble_eq_true rfl, Nat.le_of_ble_eq_true rfl⟩) ⟨rfl, rfl⟩ (fun v8 H locs hH => ?_)
          refine lv_goto (tgt := 84) hx hb dX10_ruleOf_66 (by decide) ?_
          exact ke_i C hH hr (Nat.le_refl _) (Nat.le_refl _) rfl dX10_ruleOf_84
      · refine lv_aload_n hx hb dX10_ruleOf_47 rfl (lv_at hl 0 rfl) ?_
        refine lv_iload_n hx hb dX10_ruleOf_48 rfl (lv_at hl 1 rfl) ?_
        refine kg_io C hH (kc_V C hH w_6_143 lc_yX10_head li_yX10_head oM (kX10_head l E ad M4 a1) (As := [.int a1]) rfl dX10_ruleOf_49 rfl hl.1 (Nat.le_of_ble_eq_true rfl) ⟨Nat.le_of_ble_eq_true rfl, Nat.le_of_ble_eq_true rfl⟩ ⟨Nat.le_of_ble_eq_true rfl, Nat.le_of_ble_eq_true rfl⟩) ⟨rfl, rfl⟩ (fun v9 H locs hH => ?_)
        refine lv_goto (tgt := 84) hx hb dX10_ruleOf_52 (by decide) ?_
        exact ke_i C hH hr (Nat.le_refl _) (Nat.le_refl _) rfl dX10_ruleOf_84
    · refine lv_iconst (v := 0) hx hb dX10_ruleOf_37 (by decide) ?_
      exact ke_i C hH hr (Nat.le_refl _) (Nat.le_refl _) rfl dX10_ruleOf_38
  · refine kb_if_ne (tgt := 13) hx hb dX10_ruleOf_6 (by decide) (fun _ => ?_) (fun _ => ?_)
    · refine lv_iload_n hx hb dX10_ruleOf_13 rfl (lv_at hl 2 rfl) ?_
      refine lv_iconst (v := 0) hx hb dX10_ruleOf_14 (by decide) ?_
      refine lv_iconst (v := 3) hx hb dX10_ruleOf_15 (by decide) ?_
      refine kg_ip C hH (kc_S C hH w_6_96 w_st_yX10_in rfl lc_yX10_in (kX10_in l E ad M a2 0 3) (As := [.int a2, .int 0, .int 3]) rfl dX10_ruleOf_16 rfl hl.1 (Nat.le_of_ble_eq_true rfl) ⟨Nat.le_of_ble_eq_true rfl, Nat.le_of_ble_eq_true rfl⟩ ⟨Nat.le_of_ble_eq_true rfl, Nat.le_of_ble_eq_true rfl⟩) ⟨rfl, rfl⟩ (fun H locs hH => ?_)
      refine kb_if_ne (tgt := 26) hx hb dX10_ruleOf_19 (by decide) (fun _ => ?_) (fun _ => ?_)
      · refine lv_iconst (v := 0) hx hb dX10_ruleOf_26 (by decide) ?_
        exact hK27_6 0 _ _ _ hH (lv_sub hl [0, 1, 2] rfl)
      · refine lv_iconst (v := 2) hx hb dX10_ruleOf_22 (by decide) ?_
        refine lv_goto (tgt := 27) hx hb dX10_ruleOf_23 (by decide) ?_
        exact hK27_6 2 _ _ _ hH (lv_sub hl [0, 1, 2] rfl)
    · refine lv_iconst (v := 1) hx hb dX10_ruleOf_9 (by decide) ?_
      refine lv_goto (tgt := 27) hx hb dX10_ruleOf_10 (by decide) ?_
      exact hK27_6 1 _ _ _ hH (lv_sub hl [0, 1, 2] rfl)
def fX10_condition_J34_6 (M : KS) (a1 : Int32) (a2 : Int32) (v2 : Int32) : Option (Int32 × KS) := nm (kset M 0 6 v2) fun M3 => (if (M3.1 0 6) ≤ 0 then (fX10_conditionOf M3 a1 a2).bind fun v4 => some (v4, M3) else some (0, M3))
theorem fX10_condition_J34_6_u {M : KS} {a1 : Int32} {a2 : Int32} {v2 : Int32} : fX10_condition_J34_6 M a1 a2 v2 = nm (kset M 0 6 v2) fun M3 => (if (M3.1 0 6) ≤ 0 then (fX10_conditionOf M3 a1 a2).bind fun v4 => some (v4, M3) else some (0, M3)) := rfl
def fX10_condition (M : KS) (a1 : Int32) (a2 : Int32) : Option (Int32 × KS) := (fX10_isRule M a1).bind fun v1 => jn (fX10_condition_J34_6 M a1 a2) (fun K34_6 => (if v1 = 0 then K34_6 1 else (fX10_conditionMany M a1 0).bind fun v5 => (if (fX10_in a2 0 (v5 - 1)) = 0 then K34_6 2 else K34_6 0)))
set_option maxHeartbeats 4000000 in
set_option maxRecDepth 100000 in
theorem kX10_condition (l : Launch) (E : KE) (ad : Nat → Nat) (M : KS) (a1 : Int32) (a2 : Int32) : CT l yX10_condition cX10_condition 3 (some .int) { frames := 2, cells := 0, slots := 0, locals := 47 } SM E ad [.ref (ad 0), .int a1, .int a2] M (QI SM E ad) (fX10_condition M a1 a2) := by
  refine CT.ofW (by decide) (Nat.le_of_ble_eq_true rfl) (fun sz p e s m args below meth c C hr hH ls hl => ?_)
  have hx := C.1.1
  have hb := C.1.2.1
  have hl : lv_has ls 3 [(0, .ref (ad 0)), (1, .int a1), (2, .int a2)] := hl
  unfold fX10_condition
  refine lv_aload_n hx hb dX10_condition_0 rfl (lv_at hl 0 rfl) ?_
  refine lv_aload_n hx hb dX10_condition_1 rfl (lv_at hl 0 rfl) ?_
  refine lv_iload_n hx hb dX10_condition_2 rfl (lv_at hl 1 rfl) ?_
  refine kg_io C hH (kc_V C hH w_7_46 lc_yX10_isRule li_yX10_isRule oM (kX10_isRule l E ad M a1) (As := [.int a1]) rfl dX10_condition_3 rfl hl.1 (Nat.le_of_ble_eq_true rfl) ⟨Nat.le_of_ble_eq_true rfl, Nat.le_of_ble_eq_true rfl⟩ ⟨Nat.le_of_ble_eq_true rfl, Nat.le_of_ble_eq_true rfl⟩) ⟨rfl, rfl⟩ (fun v1 H locs hH => ?_)
  refine W_jn (fun (x : Int32) H locs => KH SM E ad sz M s.heap H locs) (fun x ls => lv_has ls 3 [(0, .ref (ad 0)), (1, .int a1), (2, .int a2)]) (fun x ls => F0 m 34 ls [.int x, .ref (ad 0)]) ?_ (fun K34_6 hK34_6 => ?_)
  · intro v2 H locs ls hH hl
    have hH : KH SM E ad sz M s.heap H locs := hH
    have hl : lv_has ls 3 [(0, .ref (ad 0)), (1, .int a1), (2, .int a2)] := hl
    refine W_q fX10_condition_J34_6_u ?_
    refine k_put1 C hH fd_X10_76 fw_X10_6 oM nM6 rfl rfl dX10_condition_34 (fun M3 H locs hH => ?_)
    refine lv_aload_n hx hb dX10_condition_37 rfl (lv_at hl 0 rfl) ?_
    refine k_get C hH fd_X10_76 oM (k_int (M := M3) (ad := ad) nM6) dX10_condition_38 ?_
    refine kb_if_le (tgt := 48) hx hb dX10_condition_41 (by decide) (fun _ => ?_) (fun _ => ?_)
    · refine lv_aload_n hx hb dX10_condition_48 rfl (lv_at hl 0 rfl) ?_
      refine lv_iload_n hx hb dX10_condition_49 rfl (lv_at hl 1 rfl) ?_
      refine lv_iload_n hx hb dX10_condition_50 rfl (lv_at hl 2 rfl) ?_
      refine kg_io C hH (kc_V C hH w_6_133 lc_yX10_conditionOf li_yX10_conditionOf oM (kX10_conditionOf l E ad M3 a1 a2) (As := [.int a1, .int a2]) rfl dX10_condition_51 rfl hl.1 (Nat.le_of_ble_eq_true rfl) ⟨Nat.le_of_ble_eq_true rfl, Nat.le_of_ble_eq_true rfl⟩ ⟨Nat.le_of_ble_eq_true rfl, Nat.le_of_ble_eq_true rfl⟩) ⟨rfl, rfl⟩ (fun v4 H locs hH => ?_)
      exact ke_i C hH hr (Nat.le_refl _) (Nat.le_refl _) rfl dX10_condition_54
    · refine lv_iconst (v := 0) hx hb dX10_condition_44 (by decide) ?_
      refine lv_goto (tgt := 54) hx hb dX10_condition_45 (by decide) ?_
      exact ke_i C hH hr (Nat.le_refl _) (Nat.le_refl _) rfl dX10_condition_54
  · refine kb_if_ne (tgt := 13) hx hb dX10_condition_6 (by decide) (fun _ => ?_) (fun _ => ?_)
    · refine lv_iload_n hx hb dX10_condition_13 rfl (lv_at hl 2 rfl) ?_
      refine lv_iconst (v := 0) hx hb dX10_condition_14 (by decide) ?_
      refine lv_aload_n hx hb dX10_condition_15 rfl (lv_at hl 0 rfl) ?_
      refine lv_iload_n hx hb dX10_condition_16 rfl (lv_at hl 1 rfl) ?_
      refine lv_iconst (v := 0) hx hb dX10_condition_17 (by decide) ?_
      refine kg_io C hH (kc_V C hH w_7_54 lc_yX10_conditionMany li_yX10_conditionMany oM (kX10_conditionMany l E ad M a1 0) (As := [.int a1, .int 0]) rfl dX10_condition_18 rfl hl.1 (Nat.le_of_ble_eq_true rfl) ⟨Nat.le_of_ble_eq_true rfl, Nat.le_of_ble_eq_true rfl⟩ ⟨Nat.le_of_ble_eq_true rfl, Nat.le_of_ble_eq_true rfl⟩) ⟨rfl, rfl⟩ (fun v5 H locs hH => ?_)
      refine lv_iconst (v := 1) hx hb dX10_condition_21 (by decide) ?_
      refine lv_isub hx hb dX10_condition_22 ?_
      refine kg_ip C hH (kc_S C hH w_6_96 w_st_yX10_in rfl lc_yX10_in (kX10_in l E ad M a2 0 (v5 - 1)) (As := [.int a2, .int 0, .int (v5 - 1)]) rfl dX10_condition_23 rfl hl.1 (Nat.le_of_ble_eq_true rfl) ⟨Nat.le_of_ble_eq_true rfl, Nat.le_of_ble_eq_true rfl⟩ ⟨Nat.le_of_ble_eq_true rfl, Nat.le_of_ble_eq_true rfl⟩) ⟨rfl, rfl⟩ (fun H locs hH => ?_)
      refine kb_if_ne (tgt := 33) hx hb dX10_condition_26 (by decide) (fun _ => ?_) (fun _ => ?_)
      · refine lv_iconst (v := 0) hx hb dX10_condition_33 (by decide) ?_
        exact hK34_6 0 _ _ _ hH (lv_sub hl [0, 1, 2] rfl)
      · refine lv_iconst (v := 2) hx hb dX10_condition_29 (by decide) ?_
        refine lv_goto (tgt := 34) hx hb dX10_condition_30 (by decide) ?_
        exact hK34_6 2 _ _ _ hH (lv_sub hl [0, 1, 2] rfl)
    · refine lv_iconst (v := 1) hx hb dX10_condition_9 (by decide) ?_
      refine lv_goto (tgt := 34) hx hb dX10_condition_10 (by decide) ?_
      exact hK34_6 1 _ _ _ hH (lv_sub hl [0, 1, 2] rfl)
def fX10_reaches_J176_168 (a2 : Int32) (M6 : KS) (v7 : Int32) : Option (Int32 × KS) := (if (M6.1 17 a2.toNatClampNeg) < v7 then some (0, M6) else some (1, M6))
theorem fX10_reaches_J176_168_u {a2 : Int32} {M6 : KS} {v7 : Int32} : fX10_reaches_J176_168 a2 M6 v7 = (if (M6.1 17 a2.toNatClampNeg) < v7 then some (0, M6) else some (1, M6)) := rfl
def fX10_reaches_X37 (a2 : Int32) (a3 : Int32) (M6 : KS) : Option (Int32 × KS) := if inb a2 6 then jn (fX10_reaches_J176_168 a2 M6) (fun K176_168 => (if a3 = 0 then K176_168 1 else K176_168 2)) else none
theorem fX10_reaches_X37_u {a2 : Int32} {a3 : Int32} {M6 : KS} : fX10_reaches_X37 a2 a3 M6 = if inb a2 6 then jn (fX10_reaches_J176_168 a2 M6) (fun K176_168 => (if a3 = 0 then K176_168 1 else K176_168 2)) else none := rfl
def fX10_reaches_X48 (rec37 : (Int32 × KS) → Option (Int32 × KS)) (x : Int32 × KS) : Option (Int32 × KS) := match x with | (v11, M12) => rec37 (v11, M12)
theorem fX10_reaches_X48_u {rec37 : (Int32 × KS) → Option (Int32 × KS)} {v11 : Int32} {M12 : KS} : fX10_reaches_X48 rec37 (v11, M12) = rec37 (v11, M12) := rfl
def fX10_reaches_J114_100 (v8 : Int32) (v9 : Int32) (M10 : KS) (rec48 : (Int32 × Int32 × KS) → Option (Int32 × KS)) (v15 : Int32) : Option (Int32 × KS) := (fX10_head M10 (v9 / 3)).bind fun v16 => if inb v16 6 then (if v15 ≤ (M10.1 17 v16.toNatClampNeg) then nm (v9 + 1) fun v17 => rec48 (v8, v17, M10) else (fX10_head M10 (v9 / 3)).bind fun v18 => if inb v18 6 then nm (kset M10 17 v18.toNatClampNeg v15) fun M19 => nm (v9 + 1) fun v20 => rec48 (1, v20, M19) else none) else none
theorem fX10_reaches_J114_100_u {v8 : Int32} {v9 : Int32} {M10 : KS} {rec48 : (Int32 × Int32 × KS) → Option (Int32 × KS)} {v15 : Int32} : fX10_reaches_J114_100 v8 v9 M10 rec48 v15 = (fX10_head M10 (v9 / 3)).bind fun v16 => if inb v16 6 then (if v15 ≤ (M10.1 17 v16.toNatClampNeg) then nm (v9 + 1) fun v17 => rec48 (v8, v17, M10) else (fX10_head M10 (v9 / 3)).bind fun v18 => if inb v18 6 then nm (kset M10 17 v18.toNatClampNeg v15) fun M19 => nm (v9 + 1) fun v20 => rec48 (1, v20, M19) else none) else none := rfl
def fX10_reaches_J96_79 (v8 : Int32) (v9 : Int32) (M10 : KS) (rec48 : (Int32 × Int32 × KS) → Option (Int32 × KS)) (v13 : Int32) (v14 : Int32) : Option (Int32 × KS) := jn (fX10_reaches_J114_100 v8 v9 M10 rec48) (fun K114_100 => (if v14 ≤ 0 then K114_100 v14 else (if 0 ≤ v13 then K114_100 v14 else K114_100 2)))
theorem fX10_reaches_J96_79_u {v8 : Int32} {v9 : Int32} {M10 : KS} {rec48 : (Int32 × Int32 × KS) → Option (Int32 × KS)} {v13 : Int32} {v14 : Int32} : fX10_reaches_J96_79 v8 v9 M10 rec48 v13 v14 = jn (fX10_reaches_J114_100 v8 v9 M10 rec48) (fun K114_100 => (if v14 ≤ 0 then K114_100 v14 else (if 0 ≤ v13 then K114_100 v14 else K114_100 2))) := rfl
def fX10_reaches_L48 (rec48 : (Int32 × Int32 × KS) → Option (Int32 × KS)) (k48 : (Int32 × KS) → Option (Int32 × KS)) (x : Int32 × Int32 × KS) : Option (Int32 × KS) := match x with | (v8, v9, M10) => if inb 216 257 then (if ((M10.1 1 (216 : Int32).toNatClampNeg) * 3) ≤ v9 then k48 (v8, M10) else (fX10_conditionOf M10 (v9 / 3) (jrem v9 3)).bind fun v13 => jn (fX10_reaches_J96_79 v8 v9 M10 rec48 v13) (fun K96_79 => (if v13 = 0 then K96_79 0 else if inb (fX10_relationIn v13) 6 then K96_79 (M10.1 17 (fX10_relationIn v13).toNatClampNeg) else none))) else none
theorem fX10_reaches_L48_u {rec48 : (Int32 × Int32 × KS) → Option (Int32 × KS)} {k48 : (Int32 × KS) → Option (Int32 × KS)} {v8 : Int32} {v9 : Int32} {M10 : KS} : fX10_reaches_L48 rec48 k48 (v8, v9, M10) = if inb 216 257 then (if ((M10.1 1 (216 : Int32).toNatClampNeg) * 3) ≤ v9 then k48 (v8, M10) else (fX10_conditionOf M10 (v9 / 3) (jrem v9 3)).bind fun v13 => jn (fX10_reaches_J96_79 v8 v9 M10 rec48 v13) (fun K96_79 => (if v13 = 0 then K96_79 0 else if inb (fX10_relationIn v13) 6 then K96_79 (M10.1 17 (fX10_relationIn v13).toNatClampNeg) else none))) else none := rfl
def fX10_reaches_L37 (rec37 : (Int32 × KS) → Option (Int32 × KS)) (k37 : (KS) → Option (Int32 × KS)) (x : Int32 × KS) : Option (Int32 × KS) := match x with | (v4, M5) => (if v4 = 0 then k37 M5 else lp (fX10_reaches_L48) (fX10_reaches_X48 rec37) 1000000 (0, 0, M5))
theorem fX10_reaches_L37_u {rec37 : (Int32 × KS) → Option (Int32 × KS)} {k37 : (KS) → Option (Int32 × KS)} {v4 : Int32} {M5 : KS} : fX10_reaches_L37 rec37 k37 (v4, M5) = (if v4 = 0 then k37 M5 else lp (fX10_reaches_L48) (fX10_reaches_X48 rec37) 1000000 (0, 0, M5)) := rfl
def fX10_reaches_X3 (a2 : Int32) (a3 : Int32) (M3 : KS) : Option (Int32 × KS) := lp (fX10_reaches_L37) (fX10_reaches_X37 a2 a3) 1000000 (1, M3)
theorem fX10_reaches_X3_u {a2 : Int32} {a3 : Int32} {M3 : KS} : fX10_reaches_X3 a2 a3 M3 = lp (fX10_reaches_L37) (fX10_reaches_X37 a2 a3) 1000000 (1, M3) := rfl
def fX10_reaches_L3 (a1 : Int32) (rec3 : (Int32 × KS) → Option (Int32 × KS)) (k3 : (KS) → Option (Int32 × KS)) (x : Int32 × KS) : Option (Int32 × KS) := match x with | (v1, M2) => (if 6 ≤ v1 then k3 M2 else (if v1 = a1 then if inb v1 6 then nm (kset M2 17 v1.toNatClampNeg 1) fun M23 => nm (v1 + 1) fun v24 => rec3 (v24, M23) else none else if inb v1 6 then nm (kset M2 17 v1.toNatClampNeg 0) fun M21 => nm (v1 + 1) fun v22 => rec3 (v22, M21) else none))
theorem fX10_reaches_L3_u {a1 : Int32} {rec3 : (Int32 × KS) → Option (Int32 × KS)} {k3 : (KS) → Option (Int32 × KS)} {v1 : Int32} {M2 : KS} : fX10_reaches_L3 a1 rec3 k3 (v1, M2) = (if 6 ≤ v1 then k3 M2 else (if v1 = a1 then if inb v1 6 then nm (kset M2 17 v1.toNatClampNeg 1) fun M23 => nm (v1 + 1) fun v24 => rec3 (v24, M23) else none else if inb v1 6 then nm (kset M2 17 v1.toNatClampNeg 0) fun M21 => nm (v1 + 1) fun v22 => rec3 (v22, M21) else none)) := rfl
def fX10_reaches (M : KS) (a1 : Int32) (a2 : Int32) (a3 : Int32) : Option (Int32 × KS) := lp (fX10_reaches_L3 a1) (fX10_reaches_X3 a2 a3) 1000000 (0, M)
set_option maxHeartbeats 4000000 in
set_option maxRecDepth 100000 in
theorem kX10_reaches (l : Launch) (E : KE) (ad : Nat → Nat) (M : KS) (a1 : Int32) (a2 : Int32) (a3 : Int32) : CT l yX10_reaches cX10_reaches 9 (some .boolean) { frames := 2, cells := 0, slots := 0, locals := 44 } SM E ad [.ref (ad 0), .int a1, .int a2, .int a3] M (QI SM E ad) (fX10_reaches M a1 a2 a3) := by
  refine CT.ofW (by decide) (Nat.le_of_ble_eq_true rfl) (fun sz p e s m args below meth c C hr hH ls hl => ?_)
  have hx := C.1.1
  have hb := C.1.2.1
  have hl : lv_has ls 9 [(0, .ref (ad 0)), (1, .int a1), (2, .int a2), (3, .int a3)] := hl
  unfold fX10_reaches
  refine lv_iconst (v := 0) hx hb dX10_reaches_0 (by decide) ?_
  refine lv_istore (lv' := [(4, .int 0), (0, .ref (ad 0)), (1, .int a1), (2, .int a2), (3, .int a3)]) hx hb dX10_reaches_1 hl (by decide) rfl (fun ls hl => ?_)
  refine W_lp (fun (x : Int32 × KS) H locs => KH SM E ad sz x.2 s.heap H locs) (fun x ls => lv_has ls 9 [(0, .ref (ad 0)), (1, .int a1), (2, .int a2), (3, .int a3), (4, .int x.1)]) (fun _ ls => F0 m 3 ls []) (fun (x : KS) H locs => KH SM E ad sz x s.heap H locs) (fun x ls => lv_has ls 9 [(0, .ref (ad 0)), (2, .int a2), (3, .int a3)]) (fun _ ls => F0 m 34 ls []) ?_ ?_ hH (lv_sub hl [1, 2, 3, 4, 0] rfl)
  · intro M3 H locs ls hH hl
    have hH : KH SM E ad sz M3 s.heap H locs := hH
    have hl : lv_has ls 9 [(0, .ref (ad 0)), (2, .int a2), (3, .int a3)] := hl
    refine W_q fX10_reaches_X3_u ?_
    refine lv_iconst (v := 1) hx hb dX10_reaches_34 (by decide) ?_
    refine lv_istore (lv' := [(4, .int 1), (0, .ref (ad 0)), (2, .int a2), (3, .int a3)]) hx hb dX10_reaches_35 hl (by decide) rfl (fun ls hl => ?_)
    refine W_lp (fun (x : Int32 × KS) H locs => KH SM E ad sz x.2 s.heap H locs) (fun x ls => lv_has ls 9 [(0, .ref (ad 0)), (2, .int a2), (3, .int a3), (4, .int x.1)]) (fun _ ls => F0 m 37 ls []) (fun (x : KS) H locs => KH SM E ad sz x s.heap H locs) (fun x ls => lv_has ls 9 [(0, .ref (ad 0)), (2, .int a2), (3, .int a3)]) (fun _ ls => F0 m 161 ls []) ?_ ?_ hH (lv_sub hl [1, 2, 3, 0] rfl)
    · intro M6 H locs ls hH hl
      have hH : KH SM E ad sz M6 s.heap H locs := hH
      have hl : lv_has ls 9 [(0, .ref (ad 0)), (2, .int a2), (3, .int a3)] := hl
      refine W_q fX10_reaches_X37_u ?_
      refine lv_aload_n hx hb dX10_reaches_161 rfl (lv_at hl 0 rfl) ?_
      refine k_get C hH fd_X10_59 oM (k_ref (M := M6) (ad := ad) rM22) dX10_reaches_162 ?_
      refine lv_iload_n hx hb dX10_reaches_165 rfl (lv_at hl 1 rfl) ?_
      refine k_iald C hH aM22 dX10_reaches_166 ?_
      refine lv_iload_n hx hb dX10_reaches_167 rfl (lv_at hl 2 rfl) ?_
      refine W_jn (fun (x : Int32) H locs => KH SM E ad sz M6 s.heap H locs) (fun x ls => lv_has ls 9 []) (fun x ls => F0 m 176 ls [.int x, .int (M6.1 17 a2.toNatClampNeg)]) ?_ (fun K176_168 hK176_168 => ?_)
      · intro v7 H locs ls hH hl
        have hH : KH SM E ad sz M6 s.heap H locs := hH
        have hl : lv_has ls 9 [] := hl
        refine W_q fX10_reaches_J176_168_u ?_
        refine kb_icmp_lt (tgt := 183) hx hb dX10_reaches_176 (by decide) (fun _ => ?_) (fun _ => ?_)
        · refine lv_iconst (v := 0) hx hb dX10_reaches_183 (by decide) ?_
          exact ke_z C hH hr (Nat.le_refl _) (Nat.le_refl _) rfl (Or.inl rfl) dX10_reaches_184
        · refine lv_iconst (v := 1) hx hb dX10_reaches_179 (by decide) ?_
          refine lv_goto (tgt := 184) hx hb dX10_reaches_180 (by decide) ?_
          exact ke_z C hH hr (Nat.le_refl _) (Nat.le_refl _) rfl (Or.inr rfl) dX10_reaches_184
      · refine kb_if_eq (tgt := 175) hx hb dX10_reaches_168 (by decide) (fun _ => ?_) (fun _ => ?_)
        · refine lv_iconst (v := 1) hx hb dX10_reaches_175 (by decide) ?_
          exact hK176_168 1 _ _ _ hH (lv_sub hl [] rfl)
        · refine lv_iconst (v := 2) hx hb dX10_reaches_171 (by decide) ?_
          refine lv_goto (tgt := 176) hx hb dX10_reaches_172 (by decide) ?_
          exact hK176_168 2 _ _ _ hH (lv_sub hl [] rfl)
    · intro rec37 k37 hrec37 hk37 ⟨v4, M5⟩ H locs ls hH hl
      have hH : KH SM E ad sz M5 s.heap H locs := hH
      have hl : lv_has ls 9 [(0, .ref (ad 0)), (2, .int a2), (3, .int a3), (4, .int v4)] := hl
      refine W_q fX10_reaches_L37_u ?_
      refine lv_iload hx hb dX10_reaches_37 (lv_at hl 3 rfl) ?_
      refine kb_if_eq (tgt := 161) hx hb dX10_reaches_39 (by decide) (fun _ => ?_) (fun _ => ?_)
      · exact hk37 M5 _ _ _ hH (lv_sub hl [0, 1, 2] rfl)
      · refine lv_iconst (v := 0) hx hb dX10_reaches_42 (by decide) ?_
        refine lv_istore (lv' := [(4, .int 0), (0, .ref (ad 0)), (2, .int a2), (3, .int a3)]) hx hb dX10_reaches_43 hl (by decide) rfl (fun ls hl => ?_)
        refine lv_iconst (v := 0) hx hb dX10_reaches_45 (by decide) ?_
        refine lv_istore (lv' := [(5, .int 0), (4, .int 0), (0, .ref (ad 0)), (2, .int a2), (3, .int a3)]) hx hb dX10_reaches_46 hl (by decide) rfl (fun ls hl => ?_)
        refine W_lp (fun (x : Int32 × Int32 × KS) H locs => KH SM E ad sz x.2.2 s.heap H locs) (fun x ls => lv_has ls 9 [(0, .ref (ad 0)), (2, .int a2), (3, .int a3), (4, .int x.1), (5, .int x.2.1)]) (fun _ ls => F0 m 48 ls []) (fun (x : Int32 × KS) H locs => KH SM E ad sz x.2 s.heap H locs) (fun x ls => lv_has ls 9 [(0, .ref (ad 0)), (2, .int a2), (3, .int a3), (4, .int x.1)]) (fun _ ls => F0 m 158 ls []) ?_ ?_ hH (lv_sub hl [2, 3, 4, 1, 0] rfl)
        · intro ⟨v11, M12⟩ H locs ls hH hl
          have hH : KH SM E ad sz M12 s.heap H locs := hH
          have hl : lv_has ls 9 [(0, .ref (ad 0)), (2, .int a2), (3, .int a3), (4, .int v11)] := hl
          refine W_q fX10_reaches_X48_u ?_
          refine lv_goto (tgt := 37) hx hb dX10_reaches_158 (by decide) ?_
          exact hrec37 (v11, M12) _ _ _ hH (lv_sub hl [0, 1, 2, 3] rfl)
        · intro rec48 k48 hrec48 hk48 ⟨v8, v9, M10⟩ H locs ls hH hl
          have hH : KH SM E ad sz M10 s.heap H locs := hH
          have hl : lv_has ls 9 [(0, .ref (ad 0)), (2, .int a2), (3, .int a3), (4, .int v8), (5, .int v9)] := hl
          refine W_q fX10_reaches_L48_u ?_
          refine lv_iload hx hb dX10_reaches_48 (lv_at hl 4 rfl) ?_
          refine lv_aload_n hx hb dX10_reaches_50 rfl (lv_at hl 0 rfl) ?_
          refine k_get C hH fd_X10_9 oM (k_ref (M := M10) (ad := ad) rM0) dX10_reaches_51 ?_
          refine lv_sipush (v := 216) hx hb dX10_reaches_54 (by decide) ?_
          refine k_iald C hH aM0 dX10_reaches_57 ?_
          refine lv_iconst (v := 3) hx hb dX10_reaches_58 (by decide) ?_
          refine lv_imul hx hb dX10_reaches_59 ?_
          refine kb_icmp_ge (tgt := 158) hx hb dX10_reaches_60 (by decide) (fun _ => ?_) (fun _ => ?_)
          · exact hk48 (v8, M10) _ _ _ hH (lv_sub hl [0, 1, 2, 3] rfl)
          · refine lv_aload_n hx hb dX10_reaches_63 rfl (lv_at hl 0 rfl) ?_
            refine lv_iload hx hb dX10_reaches_64 (lv_at hl 4 rfl) ?_
            refine lv_iconst (v := 3) hx hb dX10_reaches_66 (by decide) ?_
            refine lv_idiv hx hb dX10_reaches_67 (by decide) ?_
            refine lv_iload hx hb dX10_reaches_68 (lv_at hl 4 rfl) ?_
            refine lv_iconst (v := 3) hx hb dX10_reaches_70 (by decide) ?_
            refine k_irem hx hb dX10_reaches_71 (by decide) ?_
            refine kg_io C hH (kc_V C hH w_6_133 lc_yX10_conditionOf li_yX10_conditionOf oM (kX10_conditionOf l E ad M10 (v9 / 3) (jrem v9 3)) (As := [.int (v9 / 3), .int (jrem v9 3)]) rfl dX10_reaches_72 rfl hl.1 (Nat.le_of_ble_eq_true rfl) ⟨Nat.le_of_ble_eq_true rfl, Nat.le_of_ble_eq_true rfl⟩ ⟨Nat.le_of_ble_eq_true rfl, Nat.le_of_ble_eq_true rfl⟩) ⟨rfl, rfl⟩ (fun v13 H locs hH => ?_)
            refine lv_istore (lv' := [(6, .int v13), (0, .ref (ad 0)), (2, .int a2), (3, .int a3), (4, .int v8), (5, .int v9)]) hx hb dX10_reaches_75 hl (by decide) rfl (fun ls hl => ?_)
            refine lv_iload hx hb dX10_reaches_77 (lv_at hl 0 rfl) ?_
            refine W_jn (fun (x : Int32) H locs => KH SM E ad sz M10 s.heap H locs) (fun x ls => lv_has ls 9 [(6, .int v13), (0, .ref (ad 0)), (2, .int a2), (3, .int a3), (4, .int v8), (5, .int v9)]) (fun x ls => F0 m 96 ls [.int x]) ?_ (fun K96_79 hK96_79 => ?_)
            · intro v14 H locs ls hH hl
              have hH : KH SM E ad sz M10 s.heap H locs := hH
              have hl : lv_has ls 9 [(6, .int v13), (0, .ref (ad 0)), (2, .int a2), (3, .int a3), (4, .int v8), (5, .int v9)] := hl
              refine W_q fX10_reaches_J96_79_u ?_
              refine lv_istore (lv' := [(7, .int v14), (6, .int v13), (0, .ref (ad 0)), (2, .int a2), (3, .int a3), (4, .int v8), (5, .int v9)]) hx hb dX10_reaches_96 hl (by decide) rfl (fun ls hl => ?_)
              refine lv_iload hx hb dX10_reaches_98 (lv_at hl 0 rfl) ?_
              refine W_jn (fun (x : Int32) H locs => KH SM E ad sz M10 s.heap H locs) (fun x ls => lv_has ls 9 [(0, .ref (ad 0)), (2, .int a2), (3, .int a3), (4, .int v8), (5, .int v9)]) (fun x ls => F0 m 114 ls [.int x]) ?_ (fun K114_100 hK114_100 => ?_)
              · intro v15 H locs ls hH hl
                have hH : KH SM E ad sz M10 s.heap H locs := hH
                have hl : lv_has ls 9 [(0, .ref (ad 0)), (2, .int a2), (3, .int a3), (4, .int v8), (5, .int v9)] := hl
                refine W_q fX10_reaches_J114_100_u ?_
                refine lv_istore (lv' := [(8, .int v15), (0, .ref (ad 0)), (2, .int a2), (3, .int a3), (4, .int v8), (5, .int v9)]) hx hb dX10_reaches_114 hl (by decide) rfl (fun ls hl => ?_)
                refine lv_iload hx hb dX10_reaches_116 (lv_at hl 0 rfl) ?_
                refine lv_aload_n hx hb dX10_reaches_118 rfl (lv_at hl 1 rfl) ?_
                refine k_get C hH fd_X10_59 oM (k_ref (M := M10) (ad := ad) rM22) dX10_reaches_119 ?_
                refine lv_aload_n hx hb dX10_reaches_122 rfl (lv_at hl 1 rfl) ?_
                refine lv_iload hx hb dX10_reaches_123 (lv_at hl 5 rfl) ?_
                refine lv_iconst (v := 3) hx hb dX10_reaches_125 (by decide) ?_
                refine lv_idiv hx hb dX10_reaches_126 (by decide) ?_
                refine kg_io C hH (kc_V C hH w_6_143 lc_yX10_head li_yX10_head oM (kX10_head l E ad M10 (v9 / 3)) (As := [.int (v9 / 3)]) rfl dX10_reaches_127 rfl hl.1 (Nat.le_of_ble_eq_true rfl) ⟨Nat.le_of_ble_eq_true rfl, Nat.le_of_ble_eq_true rfl⟩ ⟨Nat.le_of_ble_eq_true rfl, Nat.le_of_ble_eq_true rfl⟩) ⟨rfl, rfl⟩ (fun v16 H locs hH => ?_)
                refine k_iald C hH aM22 dX10_reaches_130 ?_
                refine kb_icmp_le (tgt := 152) hx hb dX10_reaches_131 (by decide) (fun _ => ?_) (fun _ => ?_)
                · refine W_nm (fun v17 ev17 => ?_)
                  refine lv_iinc (v := v17) (lv' := [(5, .int v17), (8, .int v15), (0, .ref (ad 0)), (2, .int a2), (3, .int a3), (4, .int v8)]) hx hb dX10_reaches_152 hl (k := 5) rfl (by rw [ev17]; rfl) (by decide) rfl (fun ls hl => ?_)
                  refine lv_goto (tgt := 48) hx hb dX10_reaches_155 (by decide) ?_
                  exact hrec48 (v8, v17, M10) _ _ _ hH (lv_sub hl [2, 3, 4, 5, 0] rfl)
                · refine lv_aload_n hx hb dX10_reaches_134 rfl (lv_at hl 1 rfl) ?_
                  refine k_get C hH fd_X10_59 oM (k_ref (M := M10) (ad := ad) rM22) dX10_reaches_135 ?_
                  refine lv_aload_n hx hb dX10_reaches_138 rfl (lv_at hl 1 rfl) ?_
                  refine lv_iload hx hb dX10_reaches_139 (lv_at hl 5 rfl) ?_
                  refine lv_iconst (v := 3) hx hb dX10_reaches_141 (by decide) ?_
                  refine lv_idiv hx hb dX10_reaches_142 (by decide) ?_
                  refine kg_io C hH (kc_V C hH w_6_143 lc_yX10_head li_yX10_head oM (kX10_head l E ad M10 (v9 / 3)) (As := [.int (v9 / 3)]) rfl dX10_reaches_143 rfl hl.1 (Nat.le_of_ble_eq_true rfl) ⟨Nat.le_of_ble_eq_true rfl, Nat.le_of_ble_eq_true rfl⟩ ⟨Nat.le_of_ble_eq_true rfl, Nat.le_of_ble_eq_true rfl⟩) ⟨rfl, rfl⟩ (fun v18 H locs hH => ?_)
                  refine lv_iload hx hb dX10_reaches_146 (lv_at hl 0 rfl) ?_
                  refine k_iast C hH aM22 dX10_reaches_148 (fun M19 H locs hH => ?_)
                  refine lv_iconst (v := 1) hx hb dX10_reaches_149 (by decide) ?_
                  refine lv_istore (lv' := [(4, .int 1), (8, .int v15), (0, .ref (ad 0)), (2, .int a2), (3, .int a3), (5, .int v9)]) hx hb dX10_reaches_150 hl (by decide) rfl (fun ls hl => ?_)
                  refine W_nm (fun v20 ev20 => ?_)
                  refine lv_iinc (v := v20) (lv' := [(5, .int v20), (4, .int 1), (8, .int v15), (0, .ref (ad 0)), (2, .int a2), (3, .int a3)]) hx hb dX10_reaches_152 hl (k := 5) rfl (by rw [ev20]; rfl) (by decide) rfl (fun ls hl => ?_)
                  refine lv_goto (tgt := 48) hx hb dX10_reaches_155 (by decide) ?_
                  exact hrec48 (1, v20, M19) _ _ _ hH (lv_sub hl [3, 4, 5, 1, 0] rfl)
              · refine kb_if_le (tgt := 112) hx hb dX10_reaches_100 (by decide) (fun _ => ?_) (fun _ => ?_)
                · refine lv_iload hx hb dX10_reaches_112 (lv_at hl 0 rfl) ?_
                  exact hK114_100 v14 _ _ _ hH (lv_sub hl [2, 3, 4, 5, 6] rfl)
                · refine lv_iload hx hb dX10_reaches_103 (lv_at hl 1 rfl) ?_
                  refine kb_if_ge (tgt := 112) hx hb dX10_reaches_105 (by decide) (fun _ => ?_) (fun _ => ?_)
                  · refine lv_iload hx hb dX10_reaches_112 (lv_at hl 0 rfl) ?_
                    exact hK114_100 v14 _ _ _ hH (lv_sub hl [2, 3, 4, 5, 6] rfl)
                  · refine lv_iconst (v := 2) hx hb dX10_reaches_108 (by decide) ?_
                    refine lv_goto (tgt := 114) hx hb dX10_reaches_109 (by decide) ?_
                    exact hK114_100 2 _ _ _ hH (lv_sub hl [2, 3, 4, 5, 6] rfl)
            · refine kb_if_ne (tgt := 86) hx hb dX10_reaches_79 (by decide) (fun _ => ?_) (fun _ => ?_)
              · refine lv_aload_n hx hb dX10_reaches_86 rfl (lv_at hl 1 rfl) ?_
                refine k_get C hH fd_X10_59 oM (k_ref (M := M10) (ad := ad) rM22) dX10_reaches_87 ?_
                refine lv_iload hx hb dX10_reaches_90 (lv_at hl 0 rfl) ?_
                refine kg_ip C hH (kc_S C hH w_6_137 w_st_yX10_relationIn rfl lc_yX10_relationIn (kX10_relationIn l E ad M10 v13) (As := [.int v13]) rfl dX10_reaches_92 rfl hl.1 (Nat.le_of_ble_eq_true rfl) ⟨Nat.le_of_ble_eq_true rfl, Nat.le_of_ble_eq_true rfl⟩ ⟨Nat.le_of_ble_eq_true rfl, Nat.le_of_ble_eq_true rfl⟩) ⟨rfl, rfl⟩ (fun H locs hH => ?_)
                refine k_iald C hH aM22 dX10_reaches_95 ?_
                exact hK96_79 (M10.1 17 (fX10_relationIn v13).toNatClampNeg) _ _ _ hH (lv_sub hl [0, 1, 2, 3, 4, 5] rfl)
              · refine lv_iconst (v := 0) hx hb dX10_reaches_82 (by decide) ?_
                refine lv_goto (tgt := 96) hx hb dX10_reaches_83 (by decide) ?_
                exact hK96_79 0 _ _ _ hH (lv_sub hl [0, 1, 2, 3, 4, 5] rfl)
  · intro rec3 k3 hrec3 hk3 ⟨v1, M2⟩ H locs ls hH hl
    have hH : KH SM E ad sz M2 s.heap H locs := hH
    have hl : lv_has ls 9 [(0, .ref (ad 0)), (1, .int a1), (2, .int a2), (3, .int a3), (4, .int v1)] := hl
    refine W_q fX10_reaches_L3_u ?_
    refine lv_iload hx hb dX10_reaches_3 (lv_at hl 4 rfl) ?_
    refine lv_bipush (v := 6) hx hb dX10_reaches_5 (by decide) ?_
    refine kb_icmp_ge (tgt := 34) hx hb dX10_reaches_7 (by decide) (fun _ => ?_) (fun _ => ?_)
    · exact hk3 M2 _ _ _ hH (lv_sub hl [0, 2, 3] rfl)
    · refine lv_aload_n hx hb dX10_reaches_10 rfl (lv_at hl 0 rfl) ?_
      refine k_get C hH fd_X10_59 oM (k_ref (M := M2) (ad := ad) rM22) dX10_reaches_11 ?_
      refine lv_iload hx hb dX10_reaches_14 (lv_at hl 4 rfl) ?_
      refine lv_iload hx hb dX10_reaches_16 (lv_at hl 4 rfl) ?_
      refine lv_iload_n hx hb dX10_reaches_18 rfl (lv_at hl 1 rfl) ?_
      refine kb_icmp_ne (tgt := 26) hx hb dX10_reaches_19 (by decide) (fun _ => ?_) (fun _ => ?_)
      · refine lv_iconst (v := 0) hx hb dX10_reaches_26 (by decide) ?_
        refine k_iast C hH aM22 dX10_reaches_27 (fun M21 H locs hH => ?_)
        refine W_nm (fun v22 ev22 => ?_)
        refine lv_iinc (v := v22) (lv' := [(4, .int v22), (0, .ref (ad 0)), (1, .int a1), (2, .int a2), (3, .int a3)]) hx hb dX10_reaches_28 hl (k := 4) rfl (by rw [ev22]; rfl) (by decide) rfl (fun ls hl => ?_)
        refine lv_goto (tgt := 3) hx hb dX10_reaches_31 (by decide) ?_
        exact hrec3 (v22, M21) _ _ _ hH (lv_sub hl [1, 2, 3, 4, 0] rfl)
      · refine lv_iconst (v := 1) hx hb dX10_reaches_22 (by decide) ?_
        refine lv_goto (tgt := 27) hx hb dX10_reaches_23 (by decide) ?_
        refine k_iast C hH aM22 dX10_reaches_27 (fun M23 H locs hH => ?_)
        refine W_nm (fun v24 ev24 => ?_)
        refine lv_iinc (v := v24) (lv' := [(4, .int v24), (0, .ref (ad 0)), (1, .int a1), (2, .int a2), (3, .int a3)]) hx hb dX10_reaches_28 hl (k := 4) rfl (by rw [ev24]; rfl) (by decide) rfl (fun ls hl => ?_)
        refine lv_goto (tgt := 3) hx hb dX10_reaches_31 (by decide) ?_
        exact hrec3 (v24, M23) _ _ _ hH (lv_sub hl [1, 2, 3, 4, 0] rfl)
def fX10_layers_ (M : KS)  : Option (Int32 × KS) := nm (kset M 0 6 0) fun M1 => bd2 (fX10_layerMany M1) fun v3 M2 => some (v3, M2)
set_option maxHeartbeats 4000000 in
set_option maxRecDepth 100000 in
theorem kX10_layers_ (l : Launch) (E : KE) (ad : Nat → Nat) (M : KS)  : CT l yX10_layers_ cX10_layers_ 1 (some .int) { frames := 5, cells := 0, slots := 0, locals := 118 } SM E ad [.ref (ad 0)] M (QI SM E ad) (fX10_layers_ M) := by
  refine CT.ofW (by decide) (Nat.le_of_ble_eq_true rfl) (fun sz p e s m args below meth c C hr hH ls hl => ?_)
  have hx := C.1.1
  have hb := C.1.2.1
  have hl : lv_has ls 1 [(0, .ref (ad 0))] := hl
  unfold fX10_layers_
  refine lv_aload_n hx hb dX10_layers__0 rfl (lv_at hl 0 rfl) ?_
  refine lv_iconst (v := 0) hx hb dX10_layers__1 (by decide) ?_
  refine k_put1 C hH fd_X10_76 fw_X10_6 oM nM6 rfl rfl dX10_layers__2 (fun M1 H locs hH => ?_)
  refine lv_aload_n hx hb dX10_layers__5 rfl (lv_at hl 0 rfl) ?_
  refine kg_ib C hH (kc_V C hH w_6_125 lc_yX10_layerMany li_yX10_layerMany oM (kX10_layerMany l E ad M1) (As := []) rfl dX10_layers__6 rfl hl.1 (Nat.le_of_ble_eq_true rfl) ⟨Nat.le_of_ble_eq_true rfl, Nat.le_of_ble_eq_true rfl⟩ ⟨Nat.le_of_ble_eq_true rfl, Nat.le_of_ble_eq_true rfl⟩) ⟨rfl, rfl⟩ (fun v3 M2 H locs hH => ?_)
  exact ke_i C hH hr (Nat.le_refl _) (Nat.le_refl _) rfl dX10_layers__9
def fX10_rounds_J20_12 (a1 : Int32) (M1 : KS) (v3 : Int32) : Option (Int32 × KS) := nm (kset M1 0 6 v3) fun M4 => (if (M4.1 0 6) ≤ 0 then (fX10_derives M4).bind fun M5 => if inb a1 6 then some ((M5.1 10 a1.toNatClampNeg), M5) else none else some (0, M4))
theorem fX10_rounds_J20_12_u {a1 : Int32} {M1 : KS} {v3 : Int32} : fX10_rounds_J20_12 a1 M1 v3 = nm (kset M1 0 6 v3) fun M4 => (if (M4.1 0 6) ≤ 0 then (fX10_derives M4).bind fun M5 => if inb a1 6 then some ((M5.1 10 a1.toNatClampNeg), M5) else none else some (0, M4)) := rfl
def fX10_rounds (M : KS) (a1 : Int32) : Option (Int32 × KS) := bd2 (fX10_layerMany M) fun v2 M1 => jn (fX10_rounds_J20_12 a1 M1) (fun K20_12 => (if (fX10_in a1 0 (v2 - 1)) = 0 then K20_12 1 else K20_12 0))
set_option maxHeartbeats 4000000 in
set_option maxRecDepth 100000 in
theorem kX10_rounds (l : Launch) (E : KE) (ad : Nat → Nat) (M : KS) (a1 : Int32) : CT l yX10_rounds cX10_rounds 2 (some .int) { frames := 7, cells := 0, slots := 0, locals := 170 } SM E ad [.ref (ad 0), .int a1] M (QI SM E ad) (fX10_rounds M a1) := by
  refine CT.ofW (by decide) (Nat.le_of_ble_eq_true rfl) (fun sz p e s m args below meth c C hr hH ls hl => ?_)
  have hx := C.1.1
  have hb := C.1.2.1
  have hl : lv_has ls 2 [(0, .ref (ad 0)), (1, .int a1)] := hl
  unfold fX10_rounds
  refine lv_aload_n hx hb dX10_rounds_0 rfl (lv_at hl 0 rfl) ?_
  refine lv_iload_n hx hb dX10_rounds_1 rfl (lv_at hl 1 rfl) ?_
  refine lv_iconst (v := 0) hx hb dX10_rounds_2 (by decide) ?_
  refine lv_aload_n hx hb dX10_rounds_3 rfl (lv_at hl 0 rfl) ?_
  refine kg_ib C hH (kc_V C hH w_6_125 lc_yX10_layerMany li_yX10_layerMany oM (kX10_layerMany l E ad M) (As := []) rfl dX10_rounds_4 rfl hl.1 (Nat.le_of_ble_eq_true rfl) ⟨Nat.le_of_ble_eq_true rfl, Nat.le_of_ble_eq_true rfl⟩ ⟨Nat.le_of_ble_eq_true rfl, Nat.le_of_ble_eq_true rfl⟩) ⟨rfl, rfl⟩ (fun v2 M1 H locs hH => ?_)
  refine lv_iconst (v := 1) hx hb dX10_rounds_7 (by decide) ?_
  refine lv_isub hx hb dX10_rounds_8 ?_
  refine kg_ip C hH (kc_S C hH w_6_96 w_st_yX10_in rfl lc_yX10_in (kX10_in l E ad M1 a1 0 (v2 - 1)) (As := [.int a1, .int 0, .int (v2 - 1)]) rfl dX10_rounds_9 rfl hl.1 (Nat.le_of_ble_eq_true rfl) ⟨Nat.le_of_ble_eq_true rfl, Nat.le_of_ble_eq_true rfl⟩ ⟨Nat.le_of_ble_eq_true rfl, Nat.le_of_ble_eq_true rfl⟩) ⟨rfl, rfl⟩ (fun H locs hH => ?_)
  refine W_jn (fun (x : Int32) H locs => KH SM E ad sz M1 s.heap H locs) (fun x ls => lv_has ls 2 [(0, .ref (ad 0)), (1, .int a1)]) (fun x ls => F0 m 20 ls [.int x, .ref (ad 0)]) ?_ (fun K20_12 hK20_12 => ?_)
  · intro v3 H locs ls hH hl
    have hH : KH SM E ad sz M1 s.heap H locs := hH
    have hl : lv_has ls 2 [(0, .ref (ad 0)), (1, .int a1)] := hl
    refine W_q fX10_rounds_J20_12_u ?_
    refine k_put1 C hH fd_X10_76 fw_X10_6 oM nM6 rfl rfl dX10_rounds_20 (fun M4 H locs hH => ?_)
    refine lv_aload_n hx hb dX10_rounds_23 rfl (lv_at hl 0 rfl) ?_
    refine k_get C hH fd_X10_76 oM (k_int (M := M4) (ad := ad) nM6) dX10_rounds_24 ?_
    refine kb_if_le (tgt := 32) hx hb dX10_rounds_27 (by decide) (fun _ => ?_) (fun _ => ?_)
    · refine lv_aload_n hx hb dX10_rounds_32 rfl (lv_at hl 0 rfl) ?_
      refine kg_v C hH (kc_V C hH w_6_121 lc_yX10_derives li_yX10_derives oM (kX10_derives l E ad M4) (As := []) rfl dX10_rounds_33 rfl hl.1 (Nat.le_of_ble_eq_true rfl) ⟨Nat.le_of_ble_eq_true rfl, Nat.le_of_ble_eq_true rfl⟩ ⟨Nat.le_of_ble_eq_true rfl, Nat.le_of_ble_eq_true rfl⟩) ⟨rfl, rfl⟩ (fun M5 H locs hH => ?_)
      refine lv_aload_n hx hb dX10_rounds_36 rfl (lv_at hl 0 rfl) ?_
      refine k_get C hH fd_X10_37 oM (k_ref (M := M5) (ad := ad) rM15) dX10_rounds_37 ?_
      refine lv_iload_n hx hb dX10_rounds_40 rfl (lv_at hl 1 rfl) ?_
      refine k_iald C hH aM15 dX10_rounds_41 ?_
      exact ke_i C hH hr (Nat.le_refl _) (Nat.le_refl _) rfl dX10_rounds_42
    · refine lv_iconst (v := 0) hx hb dX10_rounds_30 (by decide) ?_
      exact ke_i C hH hr (Nat.le_refl _) (Nat.le_refl _) rfl dX10_rounds_31
  · refine kb_if_eq (tgt := 19) hx hb dX10_rounds_12 (by decide) (fun _ => ?_) (fun _ => ?_)
    · refine lv_iconst (v := 1) hx hb dX10_rounds_19 (by decide) ?_
      exact hK20_12 1 _ _ _ hH (lv_sub hl [0, 1] rfl)
    · refine lv_iconst (v := 0) hx hb dX10_rounds_15 (by decide) ?_
      refine lv_goto (tgt := 20) hx hb dX10_rounds_16 (by decide) ?_
      exact hK20_12 0 _ _ _ hH (lv_sub hl [0, 1] rfl)
def fX10_fresh_X42 (M4 : KS) (v8 : Int32) : Option (Int32 × KS) := (if (M4.1 0 6) ≤ 0 then if inb v8 217 then some ((M4.1 9 v8.toNatClampNeg), M4) else none else some (0, M4))
theorem fX10_fresh_X42_u {M4 : KS} {v8 : Int32} : fX10_fresh_X42 M4 v8 = (if (M4.1 0 6) ≤ 0 then if inb v8 217 then some ((M4.1 9 v8.toNatClampNeg), M4) else none else some (0, M4)) := rfl
def fX10_fresh_L42 (a1 : Int32) (M4 : KS) (rec42 : (Int32 × Int32) → Option (Int32 × KS)) (k42 : (Int32) → Option (Int32 × KS)) (x : Int32 × Int32) : Option (Int32 × KS) := match x with | (v6, v7) => (if a1 ≤ v7 then k42 v6 else (if (M4.1 0 6) = 0 then if inb v7 6 then nm ((v6 + (M4.1 10 v7.toNatClampNeg))) fun v9 => nm (v7 + 1) fun v10 => rec42 (v9, v10) else none else k42 v6))
theorem fX10_fresh_L42_u {a1 : Int32} {M4 : KS} {rec42 : (Int32 × Int32) → Option (Int32 × KS)} {k42 : (Int32) → Option (Int32 × KS)} {v6 : Int32} {v7 : Int32} : fX10_fresh_L42 a1 M4 rec42 k42 (v6, v7) = (if a1 ≤ v7 then k42 v6 else (if (M4.1 0 6) = 0 then if inb v7 6 then nm ((v6 + (M4.1 10 v7.toNatClampNeg))) fun v9 => nm (v7 + 1) fun v10 => rec42 (v9, v10) else none else k42 v6)) := rfl
def fX10_fresh_J31_11 (a1 : Int32) (a2 : Int32) (M1 : KS) (v3 : Int32) : Option (Int32 × KS) := nm (kset M1 0 6 v3) fun M4 => nm ((a2 - 1)) fun v5 => lp (fX10_fresh_L42 a1 M4) (fX10_fresh_X42 M4) 1000000 (v5, 0)
theorem fX10_fresh_J31_11_u {a1 : Int32} {a2 : Int32} {M1 : KS} {v3 : Int32} : fX10_fresh_J31_11 a1 a2 M1 v3 = nm (kset M1 0 6 v3) fun M4 => nm ((a2 - 1)) fun v5 => lp (fX10_fresh_L42 a1 M4) (fX10_fresh_X42 M4) 1000000 (v5, 0) := rfl
def fX10_fresh (M : KS) (a1 : Int32) (a2 : Int32) : Option (Int32 × KS) := bd2 (fX10_rounds M a1) fun v2 M1 => jn (fX10_fresh_J31_11 a1 a2 M1) (fun K31_11 => (if (M1.1 0 6) = 0 then (if (fX10_in a2 1 v2) = 0 then K31_11 1 else K31_11 (M1.1 0 6)) else K31_11 (M1.1 0 6)))
set_option maxHeartbeats 4000000 in
set_option maxRecDepth 100000 in
theorem kX10_fresh (l : Launch) (E : KE) (ad : Nat → Nat) (M : KS) (a1 : Int32) (a2 : Int32) : CT l yX10_fresh cX10_fresh 6 (some .int) { frames := 8, cells := 0, slots := 0, locals := 191 } SM E ad [.ref (ad 0), .int a1, .int a2] M (QI SM E ad) (fX10_fresh M a1 a2) := by
  refine CT.ofW (by decide) (Nat.le_of_ble_eq_true rfl) (fun sz p e s m args below meth c C hr hH ls hl => ?_)
  have hx := C.1.1
  have hb := C.1.2.1
  have hl : lv_has ls 6 [(0, .ref (ad 0)), (1, .int a1), (2, .int a2)] := hl
  unfold fX10_fresh
  refine lv_aload_n hx hb dX10_fresh_0 rfl (lv_at hl 0 rfl) ?_
  refine lv_iload_n hx hb dX10_fresh_1 rfl (lv_at hl 1 rfl) ?_
  refine kg_ib C hH (kc_V C hH w_7_94 lc_yX10_rounds li_yX10_rounds oM (kX10_rounds l E ad M a1) (As := [.int a1]) rfl dX10_fresh_2 rfl hl.1 (Nat.le_of_ble_eq_true rfl) ⟨Nat.le_of_ble_eq_true rfl, Nat.le_of_ble_eq_true rfl⟩ ⟨Nat.le_of_ble_eq_true rfl, Nat.le_of_ble_eq_true rfl⟩) ⟨rfl, rfl⟩ (fun v2 M1 H locs hH => ?_)
  refine lv_istore_n (lv' := [(3, .int v2), (0, .ref (ad 0)), (1, .int a1), (2, .int a2)]) hx hb dX10_fresh_5 rfl hl (by decide) rfl (fun ls hl => ?_)
  refine lv_aload_n hx hb dX10_fresh_6 rfl (lv_at hl 1 rfl) ?_
  refine lv_aload_n hx hb dX10_fresh_7 rfl (lv_at hl 1 rfl) ?_
  refine k_get C hH fd_X10_76 oM (k_int (M := M1) (ad := ad) nM6) dX10_fresh_8 ?_
  refine W_jn (fun (x : Int32) H locs => KH SM E ad sz M1 s.heap H locs) (fun x ls => lv_has ls 6 [(0, .ref (ad 0)), (1, .int a1), (2, .int a2)]) (fun x ls => F0 m 31 ls [.int x, .ref (ad 0)]) ?_ (fun K31_11 hK31_11 => ?_)
  · intro v3 H locs ls hH hl
    have hH : KH SM E ad sz M1 s.heap H locs := hH
    have hl : lv_has ls 6 [(0, .ref (ad 0)), (1, .int a1), (2, .int a2)] := hl
    refine W_q fX10_fresh_J31_11_u ?_
    refine k_put1 C hH fd_X10_76 fw_X10_6 oM nM6 rfl rfl dX10_fresh_31 (fun M4 H locs hH => ?_)
    refine lv_iload_n hx hb dX10_fresh_34 rfl (lv_at hl 2 rfl) ?_
    refine lv_iconst (v := 1) hx hb dX10_fresh_35 (by decide) ?_
    refine lv_isub hx hb dX10_fresh_36 ?_
    refine W_nmi (fun v5 => ?_)
    refine lv_istore (lv' := [(4, .int v5), (0, .ref (ad 0)), (1, .int a1), (2, .int a2)]) hx hb dX10_fresh_37 hl (by decide) rfl (fun ls hl => ?_)
    refine lv_iconst (v := 0) hx hb dX10_fresh_39 (by decide) ?_
    refine lv_istore (lv' := [(5, .int 0), (4, .int v5), (0, .ref (ad 0)), (1, .int a1), (2, .int a2)]) hx hb dX10_fresh_40 hl (by decide) rfl (fun ls hl => ?_)
    refine W_lp (fun (x : Int32 × Int32) H locs => KH SM E ad sz M4 s.heap H locs) (fun x ls => lv_has ls 6 [(0, .ref (ad 0)), (1, .int a1), (4, .int x.1), (5, .int x.2)]) (fun _ ls => F0 m 42 ls []) (fun (x : Int32) H locs => KH SM E ad sz M4 s.heap H locs) (fun x ls => lv_has ls 6 [(0, .ref (ad 0)), (4, .int x)]) (fun _ ls => F0 m 73 ls []) ?_ ?_ hH (lv_sub hl [2, 3, 1, 0] rfl)
    · intro v8 H locs ls hH hl
      have hH : KH SM E ad sz M4 s.heap H locs := hH
      have hl : lv_has ls 6 [(0, .ref (ad 0)), (4, .int v8)] := hl
      refine W_q fX10_fresh_X42_u ?_
      refine lv_aload_n hx hb dX10_fresh_73 rfl (lv_at hl 0 rfl) ?_
      refine k_get C hH fd_X10_76 oM (k_int (M := M4) (ad := ad) nM6) dX10_fresh_74 ?_
      refine kb_if_le (tgt := 84) hx hb dX10_fresh_77 (by decide) (fun _ => ?_) (fun _ => ?_)
      · refine lv_aload_n hx hb dX10_fresh_84 rfl (lv_at hl 0 rfl) ?_
        refine k_get C hH fd_X10_34 oM (k_ref (M := M4) (ad := ad) rM14) dX10_fresh_85 ?_
        refine lv_iload hx hb dX10_fresh_88 (lv_at hl 1 rfl) ?_
        refine k_iald C hH aM14 dX10_fresh_90 ?_
        exact ke_i C hH hr (Nat.le_refl _) (Nat.le_refl _) rfl dX10_fresh_91
      · refine lv_iconst (v := 0) hx hb dX10_fresh_80 (by decide) ?_
        refine lv_goto (tgt := 91) hx hb dX10_fresh_81 (by decide) ?_
        exact ke_i C hH hr (Nat.le_refl _) (Nat.le_refl _) rfl dX10_fresh_91
    · intro rec42 k42 hrec42 hk42 ⟨v6, v7⟩ H locs ls hH hl
      have hH : KH SM E ad sz M4 s.heap H locs := hH
      have hl : lv_has ls 6 [(0, .ref (ad 0)), (1, .int a1), (4, .int v6), (5, .int v7)] := hl
      refine W_q fX10_fresh_L42_u ?_
      refine lv_iload hx hb dX10_fresh_42 (lv_at hl 3 rfl) ?_
      refine lv_iload_n hx hb dX10_fresh_44 rfl (lv_at hl 1 rfl) ?_
      refine kb_icmp_ge (tgt := 73) hx hb dX10_fresh_45 (by decide) (fun _ => ?_) (fun _ => ?_)
      · exact hk42 v6 _ _ _ hH (lv_sub hl [0, 2] rfl)
      · refine lv_aload_n hx hb dX10_fresh_48 rfl (lv_at hl 0 rfl) ?_
        refine k_get C hH fd_X10_76 oM (k_int (M := M4) (ad := ad) nM6) dX10_fresh_49 ?_
        refine kb_if_ne (tgt := 73) hx hb dX10_fresh_52 (by decide) (fun _ => ?_) (fun _ => ?_)
        · exact hk42 v6 _ _ _ hH (lv_sub hl [0, 2] rfl)
        · refine lv_iload hx hb dX10_fresh_55 (lv_at hl 2 rfl) ?_
          refine lv_aload_n hx hb dX10_fresh_57 rfl (lv_at hl 0 rfl) ?_
          refine k_get C hH fd_X10_37 oM (k_ref (M := M4) (ad := ad) rM15) dX10_fresh_58 ?_
          refine lv_iload hx hb dX10_fresh_61 (lv_at hl 3 rfl) ?_
          refine k_iald C hH aM15 dX10_fresh_63 ?_
          refine lv_iadd hx hb dX10_fresh_64 ?_
          refine W_nmi (fun v9 => ?_)
          refine lv_istore (lv' := [(4, .int v9), (0, .ref (ad 0)), (1, .int a1), (5, .int v7)]) hx hb dX10_fresh_65 hl (by decide) rfl (fun ls hl => ?_)
          refine W_nm (fun v10 ev10 => ?_)
          refine lv_iinc (v := v10) (lv' := [(5, .int v10), (4, .int v9), (0, .ref (ad 0)), (1, .int a1)]) hx hb dX10_fresh_67 hl (k := 3) rfl (by rw [ev10]; rfl) (by decide) rfl (fun ls hl => ?_)
          refine lv_goto (tgt := 42) hx hb dX10_fresh_70 (by decide) ?_
          exact hrec42 (v9, v10) _ _ _ hH (lv_sub hl [2, 3, 1, 0] rfl)
  · refine kb_if_ne (tgt := 27) hx hb dX10_fresh_11 (by decide) (fun _ => ?_) (fun _ => ?_)
    · refine lv_aload_n hx hb dX10_fresh_27 rfl (lv_at hl 1 rfl) ?_
      refine k_get C hH fd_X10_76 oM (k_int (M := M1) (ad := ad) nM6) dX10_fresh_28 ?_
      exact hK31_11 (M1.1 0 6) _ _ _ hH (lv_sub hl [1, 2, 3] rfl)
    · refine lv_iload_n hx hb dX10_fresh_14 rfl (lv_at hl 3 rfl) ?_
      refine lv_iconst (v := 1) hx hb dX10_fresh_15 (by decide) ?_
      refine lv_iload_n hx hb dX10_fresh_16 rfl (lv_at hl 0 rfl) ?_
      refine kg_ip C hH (kc_S C hH w_6_96 w_st_yX10_in rfl lc_yX10_in (kX10_in l E ad M1 a2 1 v2) (As := [.int a2, .int 1, .int v2]) rfl dX10_fresh_17 rfl hl.1 (Nat.le_of_ble_eq_true rfl) ⟨Nat.le_of_ble_eq_true rfl, Nat.le_of_ble_eq_true rfl⟩ ⟨Nat.le_of_ble_eq_true rfl, Nat.le_of_ble_eq_true rfl⟩) ⟨rfl, rfl⟩ (fun H locs hH => ?_)
      refine kb_if_ne (tgt := 27) hx hb dX10_fresh_20 (by decide) (fun _ => ?_) (fun _ => ?_)
      · refine lv_aload_n hx hb dX10_fresh_27 rfl (lv_at hl 1 rfl) ?_
        refine k_get C hH fd_X10_76 oM (k_int (M := M1) (ad := ad) nM6) dX10_fresh_28 ?_
        exact hK31_11 (M1.1 0 6) _ _ _ hH (lv_sub hl [1, 2, 3] rfl)
      · refine lv_iconst (v := 1) hx hb dX10_fresh_23 (by decide) ?_
        refine lv_goto (tgt := 31) hx hb dX10_fresh_24 (by decide) ?_
        exact hK31_11 1 _ _ _ hH (lv_sub hl [1, 2, 3] rfl)
def fX10_says (M : KS) (a1 : Int32) : Option (KS) := if inb (M.1 0 24) 40 then nm (kset M 18 (M.1 0 24).toNatClampNeg (vp_nar .char a1)) fun M1 => nm (kset M1 0 24 ((M1.1 0 24) + 1)) fun M2 => some M2 else none
set_option maxHeartbeats 4000000 in
set_option maxRecDepth 100000 in
theorem kX10_says (l : Launch) (E : KE) (ad : Nat → Nat) (M : KS) (a1 : Int32) : CT l yX10_says cX10_says 2 none { frames := 0, cells := 0, slots := 0, locals := 0 } SM E ad [.ref (ad 0), .int a1] M (QV SM E ad) (fX10_says M a1) := by
  refine CT.ofW (by decide) (Nat.le_of_ble_eq_true rfl) (fun sz p e s m args below meth c C hr hH ls hl => ?_)
  have hx := C.1.1
  have hb := C.1.2.1
  have hl : lv_has ls 2 [(0, .ref (ad 0)), (1, .int a1)] := hl
  unfold fX10_says
  refine lv_aload_n hx hb dX10_says_0 rfl (lv_at hl 0 rfl) ?_
  refine k_get C hH fd_X10_62 oM (k_ref (M := M) (ad := ad) rM23) dX10_says_1 ?_
  refine lv_aload_n hx hb dX10_says_4 rfl (lv_at hl 0 rfl) ?_
  refine k_get C hH fd_X10_259 oM (k_int (M := M) (ad := ad) nM24) dX10_says_5 ?_
  refine lv_iload_n hx hb dX10_says_8 rfl (lv_at hl 1 rfl) ?_
  refine k_cast C hH aM23 dX10_says_9 (fun M1 H locs hH => ?_)
  refine lv_aload_n hx hb dX10_says_10 rfl (lv_at hl 0 rfl) ?_
  refine lv_dup hx hb dX10_says_11 rfl ?_
  refine k_get C hH fd_X10_259 oM (k_int (M := M1) (ad := ad) nM24) dX10_says_12 ?_
  refine lv_iconst (v := 1) hx hb dX10_says_15 (by decide) ?_
  refine lv_iadd hx hb dX10_says_16 ?_
  refine k_put1 C hH fd_X10_259 fw_X10_24 oM nM24 rfl rfl dX10_says_17 (fun M2 H locs hH => ?_)
  exact ke_v C hH hr (Nat.le_refl _) (Nat.le_refl _) rfl dX10_says_20
def fX10_saysFact (M : KS) (a1 : Int32) : Option (KS) := (fX10_says M (ji2c (48 + (a1 / 36)))).bind fun M1 => (fX10_says M1 (ji2c (97 + (jrem (a1 / 6) 6)))).bind fun M2 => (fX10_says M2 (ji2c (97 + (jrem a1 6)))).bind fun M3 => some M3
set_option maxHeartbeats 4000000 in
set_option maxRecDepth 100000 in
theorem kX10_saysFact (l : Launch) (E : KE) (ad : Nat → Nat) (M : KS) (a1 : Int32) : CT l yX10_saysFact cX10_saysFact 2 none { frames := 1, cells := 0, slots := 0, locals := 21 } SM E ad [.ref (ad 0), .int a1] M (QV SM E ad) (fX10_saysFact M a1) := by
  refine CT.ofW (by decide) (Nat.le_of_ble_eq_true rfl) (fun sz p e s m args below meth c C hr hH ls hl => ?_)
  have hx := C.1.1
  have hb := C.1.2.1
  have hl : lv_has ls 2 [(0, .ref (ad 0)), (1, .int a1)] := hl
  unfold fX10_saysFact
  refine lv_aload_n hx hb dX10_saysFact_0 rfl (lv_at hl 0 rfl) ?_
  refine lv_bipush (v := 48) hx hb dX10_saysFact_1 (by decide) ?_
  refine lv_iload_n hx hb dX10_saysFact_3 rfl (lv_at hl 1 rfl) ?_
  refine lv_bipush (v := 36) hx hb dX10_saysFact_4 (by decide) ?_
  refine lv_idiv hx hb dX10_saysFact_6 (by decide) ?_
  refine lv_iadd hx hb dX10_saysFact_7 ?_
  refine lv_i2c (v := (ji2c (48 + (a1 / 36)))) hx hb dX10_saysFact_8 rfl ?_
  refine kg_v C hH (kc_V C hH w_7_103 lc_yX10_says li_yX10_says oM (kX10_says l E ad M (ji2c (48 + (a1 / 36)))) (As := [.int (ji2c (48 + (a1 / 36)))]) rfl dX10_saysFact_9 rfl hl.1 (Nat.le_of_ble_eq_true rfl) ⟨Nat.le_of_ble_eq_true rfl, Nat.le_of_ble_eq_true rfl⟩ ⟨Nat.le_of_ble_eq_true rfl, Nat.le_of_ble_eq_true rfl⟩) ⟨rfl, rfl⟩ (fun M1 H locs hH => ?_)
  refine lv_aload_n hx hb dX10_saysFact_12 rfl (lv_at hl 0 rfl) ?_
  refine lv_bipush (v := 97) hx hb dX10_saysFact_13 (by decide) ?_
  refine lv_iload_n hx hb dX10_saysFact_15 rfl (lv_at hl 1 rfl) ?_
  refine lv_bipush (v := 6) hx hb dX10_saysFact_16 (by decide) ?_
  refine lv_idiv hx hb dX10_saysFact_18 (by decide) ?_
  refine lv_bipush (v := 6) hx hb dX10_saysFact_19 (by decide) ?_
  refine k_irem hx hb dX10_saysFact_21 (by decide) ?_
  refine lv_iadd hx hb dX10_saysFact_22 ?_
  refine lv_i2c (v := (ji2c (97 + (jrem (a1 / 6) 6)))) hx hb dX10_saysFact_23 rfl ?_
  refine kg_v C hH (kc_V C hH w_7_103 lc_yX10_says li_yX10_says oM (kX10_says l E ad M1 (ji2c (97 + (jrem (a1 / 6) 6)))) (As := [.int (ji2c (97 + (jrem (a1 / 6) 6)))]) rfl dX10_saysFact_24 rfl hl.1 (Nat.le_of_ble_eq_true rfl) ⟨Nat.le_of_ble_eq_true rfl, Nat.le_of_ble_eq_true rfl⟩ ⟨Nat.le_of_ble_eq_true rfl, Nat.le_of_ble_eq_true rfl⟩) ⟨rfl, rfl⟩ (fun M2 H locs hH => ?_)
  refine lv_aload_n hx hb dX10_saysFact_27 rfl (lv_at hl 0 rfl) ?_
  refine lv_bipush (v := 97) hx hb dX10_saysFact_28 (by decide) ?_
  refine lv_iload_n hx hb dX10_saysFact_30 rfl (lv_at hl 1 rfl) ?_
  refine lv_bipush (v := 6) hx hb dX10_saysFact_31 (by decide) ?_
  refine k_irem hx hb dX10_saysFact_33 (by decide) ?_
  refine lv_iadd hx hb dX10_saysFact_34 ?_
  refine lv_i2c (v := (ji2c (97 + (jrem a1 6)))) hx hb dX10_saysFact_35 rfl ?_
  refine kg_v C hH (kc_V C hH w_7_103 lc_yX10_says li_yX10_says oM (kX10_says l E ad M2 (ji2c (97 + (jrem a1 6)))) (As := [.int (ji2c (97 + (jrem a1 6)))]) rfl dX10_saysFact_36 rfl hl.1 (Nat.le_of_ble_eq_true rfl) ⟨Nat.le_of_ble_eq_true rfl, Nat.le_of_ble_eq_true rfl⟩ ⟨Nat.le_of_ble_eq_true rfl, Nat.le_of_ble_eq_true rfl⟩) ⟨rfl, rfl⟩ (fun M3 H locs hH => ?_)
  exact ke_v C hH hr (Nat.le_refl _) (Nat.le_refl _) rfl dX10_saysFact_39
def fX10_line_X125 (M15 : KS) : Option (Int32 × KS) := some ((M15.1 0 24), M15)
theorem fX10_line_X125_u {M15 : KS} : fX10_line_X125 M15 = some ((M15.1 0 24), M15) := rfl
def fX10_line_J143_134 (v13 : Int32) (rec125 : (Int32 × KS) → Option (Int32 × KS)) (M16 : KS) : Option (Int32 × KS) := if inb v13 3 then (fX10_saysFact M16 (M16.1 12 v13.toNatClampNeg)).bind fun M17 => nm (v13 + 1) fun v18 => rec125 (v18, M17) else none
theorem fX10_line_J143_134_u {v13 : Int32} {rec125 : (Int32 × KS) → Option (Int32 × KS)} {M16 : KS} : fX10_line_J143_134 v13 rec125 M16 = if inb v13 3 then (fX10_saysFact M16 (M16.1 12 v13.toNatClampNeg)).bind fun M17 => nm (v13 + 1) fun v18 => rec125 (v18, M17) else none := rfl
def fX10_line_L125 (v12 : Int32) (rec125 : (Int32 × KS) → Option (Int32 × KS)) (k125 : (KS) → Option (Int32 × KS)) (x : Int32 × KS) : Option (Int32 × KS) := match x with | (v13, M14) => (if v12 ≤ v13 then k125 M14 else jn (fX10_line_J143_134 v13 rec125) (fun K143_134 => (if v13 ≤ 0 then K143_134 M14 else (fX10_says M14 44).bind fun M19 => K143_134 M19)))
theorem fX10_line_L125_u {v12 : Int32} {rec125 : (Int32 × KS) → Option (Int32 × KS)} {k125 : (KS) → Option (Int32 × KS)} {v13 : Int32} {M14 : KS} : fX10_line_L125 v12 rec125 k125 (v13, M14) = (if v12 ≤ v13 then k125 M14 else jn (fX10_line_J143_134 v13 rec125) (fun K143_134 => (if v13 ≤ 0 then K143_134 M14 else (fX10_says M14 44).bind fun M19 => K143_134 M19))) := rfl
def fX10_line_J15_7 (M : KS) (a1 : Int32) (a2 : Int32) (a3 : Int32) (v2 : Int32) : Option (Int32 × KS) := nm (kset M 0 6 v2) fun M3 => (if (M3.1 0 6) ≤ 0 then (fX10_derives M3).bind fun M4 => nm ((fX10_fact a1 a2 a3)) fun v5 => if inb v5 216 then (if 0 ≤ (M4.1 6 v5.toNatClampNeg) then nm (kset M4 0 24 0) fun M6 => (fX10_saysFact M6 v5).bind fun M7 => if inb v5 216 then (if (M7.1 6 v5.toNatClampNeg) = 0 then (fX10_says M7 46).bind fun M20 => some ((M20.1 0 24), M20) else (fX10_says M7 60).bind fun M8 => if inb v5 216 then (fX10_says M8 (ji2c (48 + (M8.1 7 v5.toNatClampNeg)))).bind fun M9 => (fX10_says M9 58).bind fun M10 => bd2 (fX10_needs M10 v5) fun v12 M11 => lp (fX10_line_L125 v12) (fX10_line_X125) 1000000 (0, M11) else none) else none else bd2 (fX10_fails M4 2) fun v22 M21 => some (v22, M21)) else none else some (0, M3))
theorem fX10_line_J15_7_u {M : KS} {a1 : Int32} {a2 : Int32} {a3 : Int32} {v2 : Int32} : fX10_line_J15_7 M a1 a2 a3 v2 = nm (kset M 0 6 v2) fun M3 => (if (M3.1 0 6) ≤ 0 then (fX10_derives M3).bind fun M4 => nm ((fX10_fact a1 a2 a3)) fun v5 => if inb v5 216 then (if 0 ≤ (M4.1 6 v5.toNatClampNeg) then nm (kset M4 0 24 0) fun M6 => (fX10_saysFact M6 v5).bind fun M7 => if inb v5 216 then (if (M7.1 6 v5.toNatClampNeg) = 0 then (fX10_says M7 46).bind fun M20 => some ((M20.1 0 24), M20) else (fX10_says M7 60).bind fun M8 => if inb v5 216 then (fX10_says M8 (ji2c (48 + (M8.1 7 v5.toNatClampNeg)))).bind fun M9 => (fX10_says M9 58).bind fun M10 => bd2 (fX10_needs M10 v5) fun v12 M11 => lp (fX10_line_L125 v12) (fX10_line_X125) 1000000 (0, M11) else none) else none else bd2 (fX10_fails M4 2) fun v22 M21 => some (v22, M21)) else none else some (0, M3)) := rfl
def fX10_line (M : KS) (a1 : Int32) (a2 : Int32) (a3 : Int32) : Option (Int32 × KS) := (fX10_isFact a1 a2 a3).bind fun v1 => jn (fX10_line_J15_7 M a1 a2 a3) (fun K15_7 => (if v1 = 0 then K15_7 1 else K15_7 0))
set_option maxHeartbeats 4000000 in
set_option maxRecDepth 100000 in
theorem kX10_line (l : Launch) (E : KE) (ad : Nat → Nat) (M : KS) (a1 : Int32) (a2 : Int32) (a3 : Int32) : CT l yX10_line cX10_line 7 (some .int) { frames := 7, cells := 0, slots := 0, locals := 170 } SM E ad [.ref (ad 0), .int a1, .int a2, .int a3] M (QI SM E ad) (fX10_line M a1 a2 a3) := by
  refine CT.ofW (by decide) (Nat.le_of_ble_eq_true rfl) (fun sz p e s m args below meth c C hr hH ls hl => ?_)
  have hx := C.1.1
  have hb := C.1.2.1
  have hl : lv_has ls 7 [(0, .ref (ad 0)), (1, .int a1), (2, .int a2), (3, .int a3)] := hl
  unfold fX10_line
  refine lv_aload_n hx hb dX10_line_0 rfl (lv_at hl 0 rfl) ?_
  refine lv_iload_n hx hb dX10_line_1 rfl (lv_at hl 1 rfl) ?_
  refine lv_iload_n hx hb dX10_line_2 rfl (lv_at hl 2 rfl) ?_
  refine lv_iload_n hx hb dX10_line_3 rfl (lv_at hl 3 rfl) ?_
  refine kg_io C hH (kc_S C hH w_6_90 w_st_yX10_isFact rfl lc_yX10_isFact (kX10_isFact l E ad M a1 a2 a3) (As := [.int a1, .int a2, .int a3]) rfl dX10_line_4 rfl hl.1 (Nat.le_of_ble_eq_true rfl) ⟨Nat.le_of_ble_eq_true rfl, Nat.le_of_ble_eq_true rfl⟩ ⟨Nat.le_of_ble_eq_true rfl, Nat.le_of_ble_eq_true rfl⟩) ⟨rfl, rfl⟩ (fun v1 H locs hH => ?_)
  refine W_jn (fun (x : Int32) H locs => KH SM E ad sz M s.heap H locs) (fun x ls => lv_has ls 7 [(0, .ref (ad 0)), (1, .int a1), (2, .int a2), (3, .int a3)]) (fun x ls => F0 m 15 ls [.int x, .ref (ad 0)]) ?_ (fun K15_7 hK15_7 => ?_)
  · intro v2 H locs ls hH hl
    have hH : KH SM E ad sz M s.heap H locs := hH
    have hl : lv_has ls 7 [(0, .ref (ad 0)), (1, .int a1), (2, .int a2), (3, .int a3)] := hl
    refine W_q fX10_line_J15_7_u ?_
    refine k_put1 C hH fd_X10_76 fw_X10_6 oM nM6 rfl rfl dX10_line_15 (fun M3 H locs hH => ?_)
    refine lv_aload_n hx hb dX10_line_18 rfl (lv_at hl 0 rfl) ?_
    refine k_get C hH fd_X10_76 oM (k_int (M := M3) (ad := ad) nM6) dX10_line_19 ?_
    refine kb_if_le (tgt := 27) hx hb dX10_line_22 (by decide) (fun _ => ?_) (fun _ => ?_)
    · refine lv_aload_n hx hb dX10_line_27 rfl (lv_at hl 0 rfl) ?_
      refine kg_v C hH (kc_V C hH w_6_121 lc_yX10_derives li_yX10_derives oM (kX10_derives l E ad M3) (As := []) rfl dX10_line_28 rfl hl.1 (Nat.le_of_ble_eq_true rfl) ⟨Nat.le_of_ble_eq_true rfl, Nat.le_of_ble_eq_true rfl⟩ ⟨Nat.le_of_ble_eq_true rfl, Nat.le_of_ble_eq_true rfl⟩) ⟨rfl, rfl⟩ (fun M4 H locs hH => ?_)
      refine lv_iload_n hx hb dX10_line_31 rfl (lv_at hl 1 rfl) ?_
      refine lv_iload_n hx hb dX10_line_32 rfl (lv_at hl 2 rfl) ?_
      refine lv_iload_n hx hb dX10_line_33 rfl (lv_at hl 3 rfl) ?_
      refine kg_ip C hH (kc_S C hH w_6_106 w_st_yX10_fact rfl lc_yX10_fact (kX10_fact l E ad M4 a1 a2 a3) (As := [.int a1, .int a2, .int a3]) rfl dX10_line_34 rfl hl.1 (Nat.le_of_ble_eq_true rfl) ⟨Nat.le_of_ble_eq_true rfl, Nat.le_of_ble_eq_true rfl⟩ ⟨Nat.le_of_ble_eq_true rfl, Nat.le_of_ble_eq_true rfl⟩) ⟨rfl, rfl⟩ (fun H locs hH => ?_)
      refine W_nmi (fun v5 => ?_)
      refine lv_istore (lv' := [(4, .int v5), (0, .ref (ad 0)), (1, .int a1), (2, .int a2), (3, .int a3)]) hx hb dX10_line_37 hl (by decide) rfl (fun ls hl => ?_)
      refine lv_aload_n hx hb dX10_line_39 rfl (lv_at hl 1 rfl) ?_
      refine k_get C hH fd_X10_25 oM (k_ref (M := M4) (ad := ad) rM11) dX10_line_40 ?_
      refine lv_iload hx hb dX10_line_43 (lv_at hl 0 rfl) ?_
      refine k_iald C hH aM11 dX10_line_45 ?_
      refine kb_if_ge (tgt := 55) hx hb dX10_line_46 (by decide) (fun _ => ?_) (fun _ => ?_)
      · refine lv_aload_n hx hb dX10_line_55 rfl (lv_at hl 1 rfl) ?_
        refine lv_iconst (v := 0) hx hb dX10_line_56 (by decide) ?_
        refine k_put1 C hH fd_X10_259 fw_X10_24 oM nM24 rfl rfl dX10_line_57 (fun M6 H locs hH => ?_)
        refine lv_aload_n hx hb dX10_line_60 rfl (lv_at hl 1 rfl) ?_
        refine lv_iload hx hb dX10_line_61 (lv_at hl 0 rfl) ?_
        refine kg_v C hH (kc_V C hH w_7_99 lc_yX10_saysFact li_yX10_saysFact oM (kX10_saysFact l E ad M6 v5) (As := [.int v5]) rfl dX10_line_63 rfl hl.1 (Nat.le_of_ble_eq_true rfl) ⟨Nat.le_of_ble_eq_true rfl, Nat.le_of_ble_eq_true rfl⟩ ⟨Nat.le_of_ble_eq_true rfl, Nat.le_of_ble_eq_true rfl⟩) ⟨rfl, rfl⟩ (fun M7 H locs hH => ?_)
        refine lv_aload_n hx hb dX10_line_66 rfl (lv_at hl 1 rfl) ?_
        refine k_get C hH fd_X10_25 oM (k_ref (M := M7) (ad := ad) rM11) dX10_line_67 ?_
        refine lv_iload hx hb dX10_line_70 (lv_at hl 0 rfl) ?_
        refine k_iald C hH aM11 dX10_line_72 ?_
        refine kb_if_ne (tgt := 87) hx hb dX10_line_73 (by decide) (fun _ => ?_) (fun _ => ?_)
        · refine lv_aload_n hx hb dX10_line_87 rfl (lv_at hl 1 rfl) ?_
          refine lv_bipush (v := 60) hx hb dX10_line_88 (by decide) ?_
          refine kg_v C hH (kc_V C hH w_7_103 lc_yX10_says li_yX10_says oM (kX10_says l E ad M7 60) (As := [.int 60]) rfl dX10_line_90 rfl hl.1 (Nat.le_of_ble_eq_true rfl) ⟨Nat.le_of_ble_eq_true rfl, Nat.le_of_ble_eq_true rfl⟩ ⟨Nat.le_of_ble_eq_true rfl, Nat.le_of_ble_eq_true rfl⟩) ⟨rfl, rfl⟩ (fun M8 H locs hH => ?_)
          refine lv_aload_n hx hb dX10_line_93 rfl (lv_at hl 1 rfl) ?_
          refine lv_bipush (v := 48) hx hb dX10_line_94 (by decide) ?_
          refine lv_aload_n hx hb dX10_line_96 rfl (lv_at hl 1 rfl) ?_
          refine k_get C hH fd_X10_28 oM (k_ref (M := M8) (ad := ad) rM12) dX10_line_97 ?_
          refine lv_iload hx hb dX10_line_100 (lv_at hl 0 rfl) ?_
          refine k_iald C hH aM12 dX10_line_102 ?_
          refine lv_iadd hx hb dX10_line_103 ?_
          refine lv_i2c (v := (ji2c (48 + (M8.1 7 v5.toNatClampNeg)))) hx hb dX10_line_104 rfl ?_
          refine kg_v C hH (kc_V C hH w_7_103 lc_yX10_says li_yX10_says oM (kX10_says l E ad M8 (ji2c (48 + (M8.1 7 v5.toNatClampNeg)))) (As := [.int (ji2c (48 + (M8.1 7 v5.toNatClampNeg)))]) rfl dX10_line_105 rfl hl.1 (Nat.le_of_ble_eq_true rfl) ⟨Nat.le_of_ble_eq_true rfl, Nat.le_of_ble_eq_true rfl⟩ ⟨Nat.le_of_ble_eq_true rfl, Nat.le_of_ble_eq_true rfl⟩) ⟨rfl, rfl⟩ (fun M9 H locs hH => ?_)
          refine lv_aload_n hx hb dX10_line_108 rfl (lv_at hl 1 rfl) ?_
          refine lv_bipush (v := 58) hx hb dX10_line_109 (by decide) ?_
          refine kg_v C hH (kc_V C hH w_7_103 lc_yX10_says li_yX10_says oM (kX10_says l E ad M9 58) (As := [.int 58]) rfl dX10_line_111 rfl hl.1 (Nat.le_of_ble_eq_true rfl) ⟨Nat.le_of_ble_eq_true rfl, Nat.le_of_ble_eq_true rfl⟩ ⟨Nat.le_of_ble_eq_true rfl, Nat.le_of_ble_eq_true rfl⟩) ⟨rfl, rfl⟩ (fun M10 H locs hH => ?_)
          refine lv_aload_n hx hb dX10_line_114 rfl (lv_at hl 1 rfl) ?_
          refine lv_iload hx hb dX10_line_115 (lv_at hl 0 rfl) ?_
          refine kg_ib C hH (kc_V C hH w_6_210 lc_yX10_needs li_yX10_needs oM (kX10_needs l E ad M10 v5) (As := [.int v5]) rfl dX10_line_117 rfl hl.1 (Nat.le_of_ble_eq_true rfl) ⟨Nat.le_of_ble_eq_true rfl, Nat.le_of_ble_eq_true rfl⟩ ⟨Nat.le_of_ble_eq_true rfl, Nat.le_of_ble_eq_true rfl⟩) ⟨rfl, rfl⟩ (fun v12 M11 H locs hH => ?_)
          refine lv_istore (lv' := [(5, .int v12), (4, .int v5), (0, .ref (ad 0)), (1, .int a1), (2, .int a2), (3, .int a3)]) hx hb dX10_line_120 hl (by decide) rfl (fun ls hl => ?_)
          refine lv_iconst (v := 0) hx hb dX10_line_122 (by decide) ?_
          refine lv_istore (lv' := [(6, .int 0), (5, .int v12), (4, .int v5), (0, .ref (ad 0)), (1, .int a1), (2, .int a2), (3, .int a3)]) hx hb dX10_line_123 hl (by decide) rfl (fun ls hl => ?_)
          refine W_lp (fun (x : Int32 × KS) H locs => KH SM E ad sz x.2 s.heap H locs) (fun x ls => lv_has ls 7 [(5, .int v12), (0, .ref (ad 0)), (6, .int x.1)]) (fun _ ls => F0 m 125 ls []) (fun (x : KS) H locs => KH SM E ad sz x s.heap H locs) (fun x ls => lv_has ls 7 [(0, .ref (ad 0))]) (fun _ ls => F0 m 160 ls []) ?_ ?_ hH (lv_sub hl [1, 3, 0] rfl)
          · intro M15 H locs ls hH hl
            have hH : KH SM E ad sz M15 s.heap H locs := hH
            have hl : lv_has ls 7 [(0, .ref (ad 0))] := hl
            refine W_q fX10_line_X125_u ?_
            refine lv_aload_n hx hb dX10_line_160 rfl (lv_at hl 0 rfl) ?_
            refine k_get C hH fd_X10_259 oM (k_int (M := M15) (ad := ad) nM24) dX10_line_161 ?_
            exact ke_i C hH hr (Nat.le_refl _) (Nat.le_refl _) rfl dX10_line_164
          · intro rec125 k125 hrec125 hk125 ⟨v13, M14⟩ H locs ls hH hl
            have hH : KH SM E ad sz M14 s.heap H locs := hH
            have hl : lv_has ls 7 [(5, .int v12), (0, .ref (ad 0)), (6, .int v13)] := hl
            refine W_q fX10_line_L125_u ?_
            refine lv_iload hx hb dX10_line_125 (lv_at hl 2 rfl) ?_
            refine lv_iload hx hb dX10_line_127 (lv_at hl 0 rfl) ?_
            refine kb_icmp_ge (tgt := 160) hx hb dX10_line_129 (by decide) (fun _ => ?_) (fun _ => ?_)
            · exact hk125 M14 _ _ _ hH (lv_sub hl [1] rfl)
            · refine lv_iload hx hb dX10_line_132 (lv_at hl 2 rfl) ?_
              refine W_jn (fun (x : KS) H locs => KH SM E ad sz x s.heap H locs) (fun x ls => lv_has ls 7 [(5, .int v12), (0, .ref (ad 0)), (6, .int v13)]) (fun x ls => F0 m 143 ls []) ?_ (fun K143_134 hK143_134 => ?_)
              · intro M16 H locs ls hH hl
                have hH : KH SM E ad sz M16 s.heap H locs := hH
                have hl : lv_has ls 7 [(5, .int v12), (0, .ref (ad 0)), (6, .int v13)] := hl
                refine W_q fX10_line_J143_134_u ?_
                refine lv_aload_n hx hb dX10_line_143 rfl (lv_at hl 1 rfl) ?_
                refine lv_aload_n hx hb dX10_line_144 rfl (lv_at hl 1 rfl) ?_
                refine k_get C hH fd_X10_43 oM (k_ref (M := M16) (ad := ad) rM17) dX10_line_145 ?_
                refine lv_iload hx hb dX10_line_148 (lv_at hl 2 rfl) ?_
                refine k_iald C hH aM17 dX10_line_150 ?_
                refine kg_v C hH (kc_V C hH w_7_99 lc_yX10_saysFact li_yX10_saysFact oM (kX10_saysFact l E ad M16 (M16.1 12 v13.toNatClampNeg)) (As := [.int (M16.1 12 v13.toNatClampNeg)]) rfl dX10_line_151 rfl hl.1 (Nat.le_of_ble_eq_true rfl) ⟨Nat.le_of_ble_eq_true rfl, Nat.le_of_ble_eq_true rfl⟩ ⟨Nat.le_of_ble_eq_true rfl, Nat.le_of_ble_eq_true rfl⟩) ⟨rfl, rfl⟩ (fun M17 H locs hH => ?_)
                refine W_nm (fun v18 ev18 => ?_)
                refine lv_iinc (v := v18) (lv' := [(6, .int v18), (5, .int v12), (0, .ref (ad 0))]) hx hb dX10_line_154 hl (k := 2) rfl (by rw [ev18]; rfl) (by decide) rfl (fun ls hl => ?_)
                refine lv_goto (tgt := 125) hx hb dX10_line_157 (by decide) ?_
                exact hrec125 (v18, M17) _ _ _ hH (lv_sub hl [1, 2, 0] rfl)
              · refine kb_if_le (tgt := 143) hx hb dX10_line_134 (by decide) (fun _ => ?_) (fun _ => ?_)
                · exact hK143_134 M14 _ _ _ hH (lv_sub hl [0, 1, 2] rfl)
                · refine lv_aload_n hx hb dX10_line_137 rfl (lv_at hl 1 rfl) ?_
                  refine lv_bipush (v := 44) hx hb dX10_line_138 (by decide) ?_
                  refine kg_v C hH (kc_V C hH w_7_103 lc_yX10_says li_yX10_says oM (kX10_says l E ad M14 44) (As := [.int 44]) rfl dX10_line_140 rfl hl.1 (Nat.le_of_ble_eq_true rfl) ⟨Nat.le_of_ble_eq_true rfl, Nat.le_of_ble_eq_true rfl⟩ ⟨Nat.le_of_ble_eq_true rfl, Nat.le_of_ble_eq_true rfl⟩) ⟨rfl, rfl⟩ (fun M19 H locs hH => ?_)
                  exact hK143_134 M19 _ _ _ hH (lv_sub hl [0, 1, 2] rfl)
        · refine lv_aload_n hx hb dX10_line_76 rfl (lv_at hl 1 rfl) ?_
          refine lv_bipush (v := 46) hx hb dX10_line_77 (by decide) ?_
          refine kg_v C hH (kc_V C hH w_7_103 lc_yX10_says li_yX10_says oM (kX10_says l E ad M7 46) (As := [.int 46]) rfl dX10_line_79 rfl hl.1 (Nat.le_of_ble_eq_true rfl) ⟨Nat.le_of_ble_eq_true rfl, Nat.le_of_ble_eq_true rfl⟩ ⟨Nat.le_of_ble_eq_true rfl, Nat.le_of_ble_eq_true rfl⟩) ⟨rfl, rfl⟩ (fun M20 H locs hH => ?_)
          refine lv_aload_n hx hb dX10_line_82 rfl (lv_at hl 1 rfl) ?_
          refine k_get C hH fd_X10_259 oM (k_int (M := M20) (ad := ad) nM24) dX10_line_83 ?_
          exact ke_i C hH hr (Nat.le_refl _) (Nat.le_refl _) rfl dX10_line_86
      · refine lv_aload_n hx hb dX10_line_49 rfl (lv_at hl 1 rfl) ?_
        refine lv_iconst (v := 2) hx hb dX10_line_50 (by decide) ?_
        refine kg_ib C hH (kc_V C hH w_6_102 lc_yX10_fails li_yX10_fails oM (kX10_fails l E ad M4 2) (As := [.int 2]) rfl dX10_line_51 rfl hl.1 (Nat.le_of_ble_eq_true rfl) ⟨Nat.le_of_ble_eq_true rfl, Nat.le_of_ble_eq_true rfl⟩ ⟨Nat.le_of_ble_eq_true rfl, Nat.le_of_ble_eq_true rfl⟩) ⟨rfl, rfl⟩ (fun v22 M21 H locs hH => ?_)
        exact ke_i C hH hr (Nat.le_refl _) (Nat.le_refl _) rfl dX10_line_54
    · refine lv_iconst (v := 0) hx hb dX10_line_25 (by decide) ?_
      exact ke_i C hH hr (Nat.le_refl _) (Nat.le_refl _) rfl dX10_line_26
  · refine kb_if_eq (tgt := 14) hx hb dX10_line_7 (by decide) (fun _ => ?_) (fun _ => ?_)
    · refine lv_iconst (v := 1) hx hb dX10_line_14 (by decide) ?_
      exact hK15_7 1 _ _ _ hH (lv_sub hl [0, 1, 2, 3] rfl)
    · refine lv_iconst (v := 0) hx hb dX10_line_10 (by decide) ?_
      refine lv_goto (tgt := 15) hx hb dX10_line_11 (by decide) ?_
      exact hK15_7 0 _ _ _ hH (lv_sub hl [0, 1, 2, 3] rfl)
def fX10_ruleLine_X52 (M10 : KS) : Option (Int32 × KS) := some ((M10.1 0 24), M10)
theorem fX10_ruleLine_X52_u {M10 : KS} : fX10_ruleLine_X52 M10 = some ((M10.1 0 24), M10) := rfl
def fX10_ruleLine_J79_70 (v8 : Int32) (rec52 : (Int32 × KS) → Option (Int32 × KS)) (v12 : Int32) (M13 : KS) : Option (Int32 × KS) := (fX10_says M13 (ji2c (48 + (fX10_relationIn v12)))).bind fun M14 => (fX10_letterIn v12 0).bind fun v15 => (fX10_says M14 (ji2c (120 + v15))).bind fun M16 => (fX10_letterIn v12 1).bind fun v17 => (fX10_says M16 (ji2c (120 + v17))).bind fun M18 => nm (v8 + 1) fun v19 => rec52 (v19, M18)
theorem fX10_ruleLine_J79_70_u {v8 : Int32} {rec52 : (Int32 × KS) → Option (Int32 × KS)} {v12 : Int32} {M13 : KS} : fX10_ruleLine_J79_70 v8 rec52 v12 M13 = (fX10_says M13 (ji2c (48 + (fX10_relationIn v12)))).bind fun M14 => (fX10_letterIn v12 0).bind fun v15 => (fX10_says M14 (ji2c (120 + v15))).bind fun M16 => (fX10_letterIn v12 1).bind fun v17 => (fX10_says M16 (ji2c (120 + v17))).bind fun M18 => nm (v8 + 1) fun v19 => rec52 (v19, M18) := rfl
def fX10_ruleLine_L52 (a1 : Int32) (rec52 : (Int32 × KS) → Option (Int32 × KS)) (k52 : (KS) → Option (Int32 × KS)) (x : Int32 × KS) : Option (Int32 × KS) := match x with | (v8, M9) => (fX10_conditionMany M9 a1 0).bind fun v11 => (if v11 ≤ v8 then k52 M9 else (fX10_conditionOf M9 a1 v8).bind fun v12 => jn (fX10_ruleLine_J79_70 v8 rec52 v12) (fun K79_70 => (if 0 ≤ v12 then K79_70 M9 else (fX10_says M9 33).bind fun M20 => K79_70 M20)))
theorem fX10_ruleLine_L52_u {a1 : Int32} {rec52 : (Int32 × KS) → Option (Int32 × KS)} {k52 : (KS) → Option (Int32 × KS)} {v8 : Int32} {M9 : KS} : fX10_ruleLine_L52 a1 rec52 k52 (v8, M9) = (fX10_conditionMany M9 a1 0).bind fun v11 => (if v11 ≤ v8 then k52 M9 else (fX10_conditionOf M9 a1 v8).bind fun v12 => jn (fX10_ruleLine_J79_70 v8 rec52 v12) (fun K79_70 => (if 0 ≤ v12 then K79_70 M9 else (fX10_says M9 33).bind fun M20 => K79_70 M20))) := rfl
def fX10_ruleLine_J14_6 (M : KS) (a1 : Int32) (v2 : Int32) : Option (Int32 × KS) := nm (kset M 0 6 v2) fun M3 => (if (M3.1 0 6) ≤ 0 then nm (kset M3 0 24 0) fun M4 => (fX10_head M4 a1).bind fun v5 => (fX10_says M4 (ji2c (48 + v5))).bind fun M6 => (fX10_says M6 61).bind fun M7 => lp (fX10_ruleLine_L52 a1) (fX10_ruleLine_X52) 1000000 (0, M7) else some (0, M3))
theorem fX10_ruleLine_J14_6_u {M : KS} {a1 : Int32} {v2 : Int32} : fX10_ruleLine_J14_6 M a1 v2 = nm (kset M 0 6 v2) fun M3 => (if (M3.1 0 6) ≤ 0 then nm (kset M3 0 24 0) fun M4 => (fX10_head M4 a1).bind fun v5 => (fX10_says M4 (ji2c (48 + v5))).bind fun M6 => (fX10_says M6 61).bind fun M7 => lp (fX10_ruleLine_L52 a1) (fX10_ruleLine_X52) 1000000 (0, M7) else some (0, M3)) := rfl
def fX10_ruleLine (M : KS) (a1 : Int32) : Option (Int32 × KS) := (fX10_isRule M a1).bind fun v1 => jn (fX10_ruleLine_J14_6 M a1) (fun K14_6 => (if v1 = 0 then K14_6 1 else K14_6 0))
set_option maxHeartbeats 4000000 in
set_option maxRecDepth 100000 in
theorem kX10_ruleLine (l : Launch) (E : KE) (ad : Nat → Nat) (M : KS) (a1 : Int32) : CT l yX10_ruleLine cX10_ruleLine 4 (some .int) { frames := 2, cells := 0, slots := 0, locals := 47 } SM E ad [.ref (ad 0), .int a1] M (QI SM E ad) (fX10_ruleLine M a1) := by
  refine CT.ofW (by decide) (Nat.le_of_ble_eq_true rfl) (fun sz p e s m args below meth c C hr hH ls hl => ?_)
  have hx := C.1.1
  have hb := C.1.2.1
  have hl : lv_has ls 4 [(0, .ref (ad 0)), (1, .int a1)] := hl
  unfold fX10_ruleLine
  refine lv_aload_n hx hb dX10_ruleLine_0 rfl (lv_at hl 0 rfl) ?_
  refine lv_aload_n hx hb dX10_ruleLine_1 rfl (lv_at hl 0 rfl) ?_
  refine lv_iload_n hx hb dX10_ruleLine_2 rfl (lv_at hl 1 rfl) ?_
  refine kg_io C hH (kc_V C hH w_7_46 lc_yX10_isRule li_yX10_isRule oM (kX10_isRule l E ad M a1) (As := [.int a1]) rfl dX10_ruleLine_3 rfl hl.1 (Nat.le_of_ble_eq_true rfl) ⟨Nat.le_of_ble_eq_true rfl, Nat.le_of_ble_eq_true rfl⟩ ⟨Nat.le_of_ble_eq_true rfl, Nat.le_of_ble_eq_true rfl⟩) ⟨rfl, rfl⟩ (fun v1 H locs hH => ?_)
  refine W_jn (fun (x : Int32) H locs => KH SM E ad sz M s.heap H locs) (fun x ls => lv_has ls 4 [(0, .ref (ad 0)), (1, .int a1)]) (fun x ls => F0 m 14 ls [.int x, .ref (ad 0)]) ?_ (fun K14_6 hK14_6 => ?_)
  · intro v2 H locs ls hH hl
    have hH : KH SM E ad sz M s.heap H locs := hH
    have hl : lv_has ls 4 [(0, .ref (ad 0)), (1, .int a1)] := hl
    refine W_q fX10_ruleLine_J14_6_u ?_
    refine k_put1 C hH fd_X10_76 fw_X10_6 oM nM6 rfl rfl dX10_ruleLine_14 (fun M3 H locs hH => ?_)
    refine lv_aload_n hx hb dX10_ruleLine_17 rfl (lv_at hl 0 rfl) ?_
    refine k_get C hH fd_X10_76 oM (k_int (M := M3) (ad := ad) nM6) dX10_ruleLine_18 ?_
    refine kb_if_le (tgt := 26) hx hb dX10_ruleLine_21 (by decide) (fun _ => ?_) (fun _ => ?_)
    · refine lv_aload_n hx hb dX10_ruleLine_26 rfl (lv_at hl 0 rfl) ?_
      refine lv_iconst (v := 0) hx hb dX10_ruleLine_27 (by decide) ?_
      refine k_put1 C hH fd_X10_259 fw_X10_24 oM nM24 rfl rfl dX10_ruleLine_28 (fun M4 H locs hH => ?_)
      refine lv_aload_n hx hb dX10_ruleLine_31 rfl (lv_at hl 0 rfl) ?_
      refine lv_bipush (v := 48) hx hb dX10_ruleLine_32 (by decide) ?_
      refine lv_aload_n hx hb dX10_ruleLine_34 rfl (lv_at hl 0 rfl) ?_
      refine lv_iload_n hx hb dX10_ruleLine_35 rfl (lv_at hl 1 rfl) ?_
      refine kg_io C hH (kc_V C hH w_6_143 lc_yX10_head li_yX10_head oM (kX10_head l E ad M4 a1) (As := [.int a1]) rfl dX10_ruleLine_36 rfl hl.1 (Nat.le_of_ble_eq_true rfl) ⟨Nat.le_of_ble_eq_true rfl, Nat.le_of_ble_eq_true rfl⟩ ⟨Nat.le_of_ble_eq_true rfl, Nat.le_of_ble_eq_true rfl⟩) ⟨rfl, rfl⟩ (fun v5 H locs hH => ?_)
      refine lv_iadd hx hb dX10_ruleLine_39 ?_
      refine lv_i2c (v := (ji2c (48 + v5))) hx hb dX10_ruleLine_40 rfl ?_
      refine kg_v C hH (kc_V C hH w_7_103 lc_yX10_says li_yX10_says oM (kX10_says l E ad M4 (ji2c (48 + v5))) (As := [.int (ji2c (48 + v5))]) rfl dX10_ruleLine_41 rfl hl.1 (Nat.le_of_ble_eq_true rfl) ⟨Nat.le_of_ble_eq_true rfl, Nat.le_of_ble_eq_true rfl⟩ ⟨Nat.le_of_ble_eq_true rfl, Nat.le_of_ble_eq_true rfl⟩) ⟨rfl, rfl⟩ (fun M6 H locs hH => ?_)
      refine lv_aload_n hx hb dX10_ruleLine_44 rfl (lv_at hl 0 rfl) ?_
      refine lv_bipush (v := 61) hx hb dX10_ruleLine_45 (by decide) ?_
      refine kg_v C hH (kc_V C hH w_7_103 lc_yX10_says li_yX10_says oM (kX10_says l E ad M6 61) (As := [.int 61]) rfl dX10_ruleLine_47 rfl hl.1 (Nat.le_of_ble_eq_true rfl) ⟨Nat.le_of_ble_eq_true rfl, Nat.le_of_ble_eq_true rfl⟩ ⟨Nat.le_of_ble_eq_true rfl, Nat.le_of_ble_eq_true rfl⟩) ⟨rfl, rfl⟩ (fun M7 H locs hH => ?_)
      refine lv_iconst (v := 0) hx hb dX10_ruleLine_50 (by decide) ?_
      refine lv_istore_n (lv' := [(2, .int 0), (0, .ref (ad 0)), (1, .int a1)]) hx hb dX10_ruleLine_51 rfl hl (by decide) rfl (fun ls hl => ?_)
      refine W_lp (fun (x : Int32 × KS) H locs => KH SM E ad sz x.2 s.heap H locs) (fun x ls => lv_has ls 4 [(0, .ref (ad 0)), (1, .int a1), (2, .int x.1)]) (fun _ ls => F0 m 52 ls []) (fun (x : KS) H locs => KH SM E ad sz x s.heap H locs) (fun x ls => lv_has ls 4 [(0, .ref (ad 0))]) (fun _ ls => F0 m 123 ls []) ?_ ?_ hH (lv_sub hl [1, 2, 0] rfl)
      · intro M10 H locs ls hH hl
        have hH : KH SM E ad sz M10 s.heap H locs := hH
        have hl : lv_has ls 4 [(0, .ref (ad 0))] := hl
        refine W_q fX10_ruleLine_X52_u ?_
        refine lv_aload_n hx hb dX10_ruleLine_123 rfl (lv_at hl 0 rfl) ?_
        refine k_get C hH fd_X10_259 oM (k_int (M := M10) (ad := ad) nM24) dX10_ruleLine_124 ?_
        exact ke_i C hH hr (Nat.le_refl _) (Nat.le_refl _) rfl dX10_ruleLine_127
      · intro rec52 k52 hrec52 hk52 ⟨v8, M9⟩ H locs ls hH hl
        have hH : KH SM E ad sz M9 s.heap H locs := hH
        have hl : lv_has ls 4 [(0, .ref (ad 0)), (1, .int a1), (2, .int v8)] := hl
        refine W_q fX10_ruleLine_L52_u ?_
        refine lv_iload_n hx hb dX10_ruleLine_52 rfl (lv_at hl 2 rfl) ?_
        refine lv_aload_n hx hb dX10_ruleLine_53 rfl (lv_at hl 0 rfl) ?_
        refine lv_iload_n hx hb dX10_ruleLine_54 rfl (lv_at hl 1 rfl) ?_
        refine lv_iconst (v := 0) hx hb dX10_ruleLine_55 (by decide) ?_
        refine kg_io C hH (kc_V C hH w_7_54 lc_yX10_conditionMany li_yX10_conditionMany oM (kX10_conditionMany l E ad M9 a1 0) (As := [.int a1, .int 0]) rfl dX10_ruleLine_56 rfl hl.1 (Nat.le_of_ble_eq_true rfl) ⟨Nat.le_of_ble_eq_true rfl, Nat.le_of_ble_eq_true rfl⟩ ⟨Nat.le_of_ble_eq_true rfl, Nat.le_of_ble_eq_true rfl⟩) ⟨rfl, rfl⟩ (fun v11 H locs hH => ?_)
        refine kb_icmp_ge (tgt := 123) hx hb dX10_ruleLine_59 (by decide) (fun _ => ?_) (fun _ => ?_)
        · exact hk52 M9 _ _ _ hH (lv_sub hl [0] rfl)
        · refine lv_aload_n hx hb dX10_ruleLine_62 rfl (lv_at hl 0 rfl) ?_
          refine lv_iload_n hx hb dX10_ruleLine_63 rfl (lv_at hl 1 rfl) ?_
          refine lv_iload_n hx hb dX10_ruleLine_64 rfl (lv_at hl 2 rfl) ?_
          refine kg_io C hH (kc_V C hH w_6_133 lc_yX10_conditionOf li_yX10_conditionOf oM (kX10_conditionOf l E ad M9 a1 v8) (As := [.int a1, .int v8]) rfl dX10_ruleLine_65 rfl hl.1 (Nat.le_of_ble_eq_true rfl) ⟨Nat.le_of_ble_eq_true rfl, Nat.le_of_ble_eq_true rfl⟩ ⟨Nat.le_of_ble_eq_true rfl, Nat.le_of_ble_eq_true rfl⟩) ⟨rfl, rfl⟩ (fun v12 H locs hH => ?_)
          refine lv_istore_n (lv' := [(3, .int v12), (0, .ref (ad 0)), (1, .int a1), (2, .int v8)]) hx hb dX10_ruleLine_68 rfl hl (by decide) rfl (fun ls hl => ?_)
          refine lv_iload_n hx hb dX10_ruleLine_69 rfl (lv_at hl 0 rfl) ?_
          refine W_jn (fun (x : KS) H locs => KH SM E ad sz x s.heap H locs) (fun x ls => lv_has ls 4 [(3, .int v12), (0, .ref (ad 0)), (1, .int a1), (2, .int v8)]) (fun x ls => F0 m 79 ls []) ?_ (fun K79_70 hK79_70 => ?_)
          · intro M13 H locs ls hH hl
            have hH : KH SM E ad sz M13 s.heap H locs := hH
            have hl : lv_has ls 4 [(3, .int v12), (0, .ref (ad 0)), (1, .int a1), (2, .int v8)] := hl
            refine W_q fX10_ruleLine_J79_70_u ?_
            refine lv_aload_n hx hb dX10_ruleLine_79 rfl (lv_at hl 1 rfl) ?_
            refine lv_bipush (v := 48) hx hb dX10_ruleLine_80 (by decide) ?_
            refine lv_iload_n hx hb dX10_ruleLine_82 rfl (lv_at hl 0 rfl) ?_
            refine kg_ip C hH (kc_S C hH w_6_137 w_st_yX10_relationIn rfl lc_yX10_relationIn (kX10_relationIn l E ad M13 v12) (As := [.int v12]) rfl dX10_ruleLine_83 rfl hl.1 (Nat.le_of_ble_eq_true rfl) ⟨Nat.le_of_ble_eq_true rfl, Nat.le_of_ble_eq_true rfl⟩ ⟨Nat.le_of_ble_eq_true rfl, Nat.le_of_ble_eq_true rfl⟩) ⟨rfl, rfl⟩ (fun H locs hH => ?_)
            refine lv_iadd hx hb dX10_ruleLine_86 ?_
            refine lv_i2c (v := (ji2c (48 + (fX10_relationIn v12)))) hx hb dX10_ruleLine_87 rfl ?_
            refine kg_v C hH (kc_V C hH w_7_103 lc_yX10_says li_yX10_says oM (kX10_says l E ad M13 (ji2c (48 + (fX10_relationIn v12)))) (As := [.int (ji2c (48 + (fX10_relationIn v12)))]) rfl dX10_ruleLine_88 rfl hl.1 (Nat.le_of_ble_eq_true rfl) ⟨Nat.le_of_ble_eq_true rfl, Nat.le_of_ble_eq_true rfl⟩ ⟨Nat.le_of_ble_eq_true rfl, Nat.le_of_ble_eq_true rfl⟩) ⟨rfl, rfl⟩ (fun M14 H locs hH => ?_)
            refine lv_aload_n hx hb dX10_ruleLine_91 rfl (lv_at hl 1 rfl) ?_
            refine lv_bipush (v := 120) hx hb dX10_ruleLine_92 (by decide) ?_
            refine lv_iload_n hx hb dX10_ruleLine_94 rfl (lv_at hl 0 rfl) ?_
            refine lv_iconst (v := 0) hx hb dX10_ruleLine_95 (by decide) ?_
            refine kg_io C hH (kc_S C hH w_6_167 w_st_yX10_letterIn rfl lc_yX10_letterIn (kX10_letterIn l E ad M14 v12 0) (As := [.int v12, .int 0]) rfl dX10_ruleLine_96 rfl hl.1 (Nat.le_of_ble_eq_true rfl) ⟨Nat.le_of_ble_eq_true rfl, Nat.le_of_ble_eq_true rfl⟩ ⟨Nat.le_of_ble_eq_true rfl, Nat.le_of_ble_eq_true rfl⟩) ⟨rfl, rfl⟩ (fun v15 H locs hH => ?_)
            refine lv_iadd hx hb dX10_ruleLine_99 ?_
            refine lv_i2c (v := (ji2c (120 + v15))) hx hb dX10_ruleLine_100 rfl ?_
            refine kg_v C hH (kc_V C hH w_7_103 lc_yX10_says li_yX10_says oM (kX10_says l E ad M14 (ji2c (120 + v15))) (As := [.int (ji2c (120 + v15))]) rfl dX10_ruleLine_101 rfl hl.1 (Nat.le_of_ble_eq_true rfl) ⟨Nat.le_of_ble_eq_true rfl, Nat.le_of_ble_eq_true rfl⟩ ⟨Nat.le_of_ble_eq_true rfl, Nat.le_of_ble_eq_true rfl⟩) ⟨rfl, rfl⟩ (fun M16 H locs hH => ?_)
            refine lv_aload_n hx hb dX10_ruleLine_104 rfl (lv_at hl 1 rfl) ?_
            refine lv_bipush (v := 120) hx hb dX10_ruleLine_105 (by decide) ?_
            refine lv_iload_n hx hb dX10_ruleLine_107 rfl (lv_at hl 0 rfl) ?_
            refine lv_iconst (v := 1) hx hb dX10_ruleLine_108 (by decide) ?_
            refine kg_io C hH (kc_S C hH w_6_167 w_st_yX10_letterIn rfl lc_yX10_letterIn (kX10_letterIn l E ad M16 v12 1) (As := [.int v12, .int 1]) rfl dX10_ruleLine_109 rfl hl.1 (Nat.le_of_ble_eq_true rfl) ⟨Nat.le_of_ble_eq_true rfl, Nat.le_of_ble_eq_true rfl⟩ ⟨Nat.le_of_ble_eq_true rfl, Nat.le_of_ble_eq_true rfl⟩) ⟨rfl, rfl⟩ (fun v17 H locs hH => ?_)
            refine lv_iadd hx hb dX10_ruleLine_112 ?_
            refine lv_i2c (v := (ji2c (120 + v17))) hx hb dX10_ruleLine_113 rfl ?_
            refine kg_v C hH (kc_V C hH w_7_103 lc_yX10_says li_yX10_says oM (kX10_says l E ad M16 (ji2c (120 + v17))) (As := [.int (ji2c (120 + v17))]) rfl dX10_ruleLine_114 rfl hl.1 (Nat.le_of_ble_eq_true rfl) ⟨Nat.le_of_ble_eq_true rfl, Nat.le_of_ble_eq_true rfl⟩ ⟨Nat.le_of_ble_eq_true rfl, Nat.le_of_ble_eq_true rfl⟩) ⟨rfl, rfl⟩ (fun M18 H locs hH => ?_)
            refine W_nm (fun v19 ev19 => ?_)
            refine lv_iinc (v := v19) (lv' := [(2, .int v19), (3, .int v12), (0, .ref (ad 0)), (1, .int a1)]) hx hb dX10_ruleLine_117 hl (k := 3) rfl (by rw [ev19]; rfl) (by decide) rfl (fun ls hl => ?_)
            refine lv_goto (tgt := 52) hx hb dX10_ruleLine_120 (by decide) ?_
            exact hrec52 (v19, M18) _ _ _ hH (lv_sub hl [2, 3, 0] rfl)
          · refine kb_if_ge (tgt := 79) hx hb dX10_ruleLine_70 (by decide) (fun _ => ?_) (fun _ => ?_)
            · exact hK79_70 M9 _ _ _ hH (lv_sub hl [0, 1, 2, 3] rfl)
            · refine lv_aload_n hx hb dX10_ruleLine_73 rfl (lv_at hl 1 rfl) ?_
              refine lv_bipush (v := 33) hx hb dX10_ruleLine_74 (by decide) ?_
              refine kg_v C hH (kc_V C hH w_7_103 lc_yX10_says li_yX10_says oM (kX10_says l E ad M9 33) (As := [.int 33]) rfl dX10_ruleLine_76 rfl hl.1 (Nat.le_of_ble_eq_true rfl) ⟨Nat.le_of_ble_eq_true rfl, Nat.le_of_ble_eq_true rfl⟩ ⟨Nat.le_of_ble_eq_true rfl, Nat.le_of_ble_eq_true rfl⟩) ⟨rfl, rfl⟩ (fun M20 H locs hH => ?_)
              exact hK79_70 M20 _ _ _ hH (lv_sub hl [0, 1, 2, 3] rfl)
    · refine lv_iconst (v := 0) hx hb dX10_ruleLine_24 (by decide) ?_
      exact ke_i C hH hr (Nat.le_refl _) (Nat.le_refl _) rfl dX10_ruleLine_25
  · refine kb_if_eq (tgt := 13) hx hb dX10_ruleLine_6 (by decide) (fun _ => ?_) (fun _ => ?_)
    · refine lv_iconst (v := 1) hx hb dX10_ruleLine_13 (by decide) ?_
      exact hK14_6 1 _ _ _ hH (lv_sub hl [0, 1] rfl)
    · refine lv_iconst (v := 0) hx hb dX10_ruleLine_9 (by decide) ?_
      refine lv_goto (tgt := 14) hx hb dX10_ruleLine_10 (by decide) ?_
      exact hK14_6 0 _ _ _ hH (lv_sub hl [0, 1] rfl)
def fX10_character_J20_12 (M : KS) (a1 : Int32) (v1 : Int32) : Option (Int32 × KS) := nm (kset M 0 6 v1) fun M2 => (if (M2.1 0 6) ≤ 0 then if inb a1 40 then if isC (M2.1 18 a1.toNatClampNeg) then some ((M2.1 18 a1.toNatClampNeg), M2) else none else none else if isC 32 then some (32, M2) else none)
theorem fX10_character_J20_12_u {M : KS} {a1 : Int32} {v1 : Int32} : fX10_character_J20_12 M a1 v1 = nm (kset M 0 6 v1) fun M2 => (if (M2.1 0 6) ≤ 0 then if inb a1 40 then if isC (M2.1 18 a1.toNatClampNeg) then some ((M2.1 18 a1.toNatClampNeg), M2) else none else none else if isC 32 then some (32, M2) else none) := rfl
def fX10_character (M : KS) (a1 : Int32) : Option (Int32 × KS) := jn (fX10_character_J20_12 M a1) (fun K20_12 => (if (fX10_in a1 0 ((M.1 0 24) - 1)) = 0 then K20_12 1 else K20_12 0))
set_option maxHeartbeats 4000000 in
set_option maxRecDepth 100000 in
theorem kX10_character (l : Launch) (E : KE) (ad : Nat → Nat) (M : KS) (a1 : Int32) : CT l yX10_character cX10_character 2 (some .char) { frames := 1, cells := 0, slots := 0, locals := 22 } SM E ad [.ref (ad 0), .int a1] M (QI SM E ad) (fX10_character M a1) := by
  refine CT.ofW (by decide) (Nat.le_of_ble_eq_true rfl) (fun sz p e s m args below meth c C hr hH ls hl => ?_)
  have hx := C.1.1
  have hb := C.1.2.1
  have hl : lv_has ls 2 [(0, .ref (ad 0)), (1, .int a1)] := hl
  unfold fX10_character
  refine lv_aload_n hx hb dX10_character_0 rfl (lv_at hl 0 rfl) ?_
  refine lv_iload_n hx hb dX10_character_1 rfl (lv_at hl 1 rfl) ?_
  refine lv_iconst (v := 0) hx hb dX10_character_2 (by decide) ?_
  refine lv_aload_n hx hb dX10_character_3 rfl (lv_at hl 0 rfl) ?_
  refine k_get C hH fd_X10_259 oM (k_int (M := M) (ad := ad) nM24) dX10_character_4 ?_
  refine lv_iconst (v := 1) hx hb dX10_character_7 (by decide) ?_
  refine lv_isub hx hb dX10_character_8 ?_
  refine kg_ip C hH (kc_S C hH w_6_96 w_st_yX10_in rfl lc_yX10_in (kX10_in l E ad M a1 0 ((M.1 0 24) - 1)) (As := [.int a1, .int 0, .int ((M.1 0 24) - 1)]) rfl dX10_character_9 rfl hl.1 (Nat.le_of_ble_eq_true rfl) ⟨Nat.le_of_ble_eq_true rfl, Nat.le_of_ble_eq_true rfl⟩ ⟨Nat.le_of_ble_eq_true rfl, Nat.le_of_ble_eq_true rfl⟩) ⟨rfl, rfl⟩ (fun H locs hH => ?_)
  refine W_jn (fun (x : Int32) H locs => KH SM E ad sz M s.heap H locs) (fun x ls => lv_has ls 2 [(0, .ref (ad 0)), (1, .int a1)]) (fun x ls => F0 m 20 ls [.int x, .ref (ad 0)]) ?_ (fun K20_12 hK20_12 => ?_)
  · intro v1 H locs ls hH hl
    have hH : KH SM E ad sz M s.heap H locs := hH
    have hl : lv_has ls 2 [(0, .ref (ad 0)), (1, .int a1)] := hl
    refine W_q fX10_character_J20_12_u ?_
    refine k_put1 C hH fd_X10_76 fw_X10_6 oM nM6 rfl rfl dX10_character_20 (fun M2 H locs hH => ?_)
    refine lv_aload_n hx hb dX10_character_23 rfl (lv_at hl 0 rfl) ?_
    refine k_get C hH fd_X10_76 oM (k_int (M := M2) (ad := ad) nM6) dX10_character_24 ?_
    refine kb_if_le (tgt := 35) hx hb dX10_character_27 (by decide) (fun _ => ?_) (fun _ => ?_)
    · refine lv_aload_n hx hb dX10_character_35 rfl (lv_at hl 0 rfl) ?_
      refine k_get C hH fd_X10_62 oM (k_ref (M := M2) (ad := ad) rM23) dX10_character_36 ?_
      refine lv_iload_n hx hb dX10_character_39 rfl (lv_at hl 1 rfl) ?_
      refine k_cald C hH aM23 dX10_character_40 ?_
      exact ke_cg C hH hr (Nat.le_refl _) (Nat.le_refl _) rfl dX10_character_41
    · refine lv_bipush (v := 32) hx hb dX10_character_30 (by decide) ?_
      refine lv_goto (tgt := 41) hx hb dX10_character_32 (by decide) ?_
      exact ke_cg C hH hr (Nat.le_refl _) (Nat.le_refl _) rfl dX10_character_41
  · refine kb_if_eq (tgt := 19) hx hb dX10_character_12 (by decide) (fun _ => ?_) (fun _ => ?_)
    · refine lv_iconst (v := 1) hx hb dX10_character_19 (by decide) ?_
      exact hK20_12 1 _ _ _ hH (lv_sub hl [0, 1] rfl)
    · refine lv_iconst (v := 0) hx hb dX10_character_15 (by decide) ?_
      refine lv_goto (tgt := 20) hx hb dX10_character_16 (by decide) ?_
      exact hK20_12 0 _ _ _ hH (lv_sub hl [0, 1] rfl)
def fX10_append_J15_7 (M : KS) (a1 : Int32) (v1 : Int32) : Option (Int32 × KS) := nm (kset M 0 6 v1) fun M2 => (if (M2.1 0 6) ≤ 0 then if inb (M2.1 0 26) 60 then nm (kset M2 19 (M2.1 0 26).toNatClampNeg (vp_nar .char a1)) fun M3 => nm (kset M3 0 26 ((M3.1 0 26) + 1)) fun M4 => some ((M4.1 0 26), M4) else none else some (0, M2))
theorem fX10_append_J15_7_u {M : KS} {a1 : Int32} {v1 : Int32} : fX10_append_J15_7 M a1 v1 = nm (kset M 0 6 v1) fun M2 => (if (M2.1 0 6) ≤ 0 then if inb (M2.1 0 26) 60 then nm (kset M2 19 (M2.1 0 26).toNatClampNeg (vp_nar .char a1)) fun M3 => nm (kset M3 0 26 ((M3.1 0 26) + 1)) fun M4 => some ((M4.1 0 26), M4) else none else some (0, M2)) := rfl
def fX10_append (M : KS) (a1 : Int32) : Option (Int32 × KS) := jn (fX10_append_J15_7 M a1) (fun K15_7 => (if (M.1 0 26) = 60 then K15_7 1 else K15_7 0))
set_option maxHeartbeats 4000000 in
set_option maxRecDepth 100000 in
theorem kX10_append (l : Launch) (E : KE) (ad : Nat → Nat) (M : KS) (a1 : Int32) : CT l yX10_append cX10_append 2 (some .int) { frames := 0, cells := 0, slots := 0, locals := 0 } SM E ad [.ref (ad 0), .int a1] M (QI SM E ad) (fX10_append M a1) := by
  refine CT.ofW (by decide) (Nat.le_of_ble_eq_true rfl) (fun sz p e s m args below meth c C hr hH ls hl => ?_)
  have hx := C.1.1
  have hb := C.1.2.1
  have hl : lv_has ls 2 [(0, .ref (ad 0)), (1, .int a1)] := hl
  unfold fX10_append
  refine lv_aload_n hx hb dX10_append_0 rfl (lv_at hl 0 rfl) ?_
  refine lv_aload_n hx hb dX10_append_1 rfl (lv_at hl 0 rfl) ?_
  refine k_get C hH fd_X10_270 oM (k_int (M := M) (ad := ad) nM26) dX10_append_2 ?_
  refine lv_bipush (v := 60) hx hb dX10_append_5 (by decide) ?_
  refine W_jn (fun (x : Int32) H locs => KH SM E ad sz M s.heap H locs) (fun x ls => lv_has ls 2 [(0, .ref (ad 0)), (1, .int a1)]) (fun x ls => F0 m 15 ls [.int x, .ref (ad 0)]) ?_ (fun K15_7 hK15_7 => ?_)
  · intro v1 H locs ls hH hl
    have hH : KH SM E ad sz M s.heap H locs := hH
    have hl : lv_has ls 2 [(0, .ref (ad 0)), (1, .int a1)] := hl
    refine W_q fX10_append_J15_7_u ?_
    refine k_put1 C hH fd_X10_76 fw_X10_6 oM nM6 rfl rfl dX10_append_15 (fun M2 H locs hH => ?_)
    refine lv_aload_n hx hb dX10_append_18 rfl (lv_at hl 0 rfl) ?_
    refine k_get C hH fd_X10_76 oM (k_int (M := M2) (ad := ad) nM6) dX10_append_19 ?_
    refine kb_if_le (tgt := 27) hx hb dX10_append_22 (by decide) (fun _ => ?_) (fun _ => ?_)
    · refine lv_aload_n hx hb dX10_append_27 rfl (lv_at hl 0 rfl) ?_
      refine k_get C hH fd_X10_66 oM (k_ref (M := M2) (ad := ad) rM25) dX10_append_28 ?_
      refine lv_aload_n hx hb dX10_append_31 rfl (lv_at hl 0 rfl) ?_
      refine k_get C hH fd_X10_270 oM (k_int (M := M2) (ad := ad) nM26) dX10_append_32 ?_
      refine lv_iload_n hx hb dX10_append_35 rfl (lv_at hl 1 rfl) ?_
      refine k_cast C hH aM25 dX10_append_36 (fun M3 H locs hH => ?_)
      refine lv_aload_n hx hb dX10_append_37 rfl (lv_at hl 0 rfl) ?_
      refine lv_dup hx hb dX10_append_38 rfl ?_
      refine k_get C hH fd_X10_270 oM (k_int (M := M3) (ad := ad) nM26) dX10_append_39 ?_
      refine lv_iconst (v := 1) hx hb dX10_append_42 (by decide) ?_
      refine lv_iadd hx hb dX10_append_43 ?_
      refine k_put1 C hH fd_X10_270 fw_X10_26 oM nM26 rfl rfl dX10_append_44 (fun M4 H locs hH => ?_)
      refine lv_aload_n hx hb dX10_append_47 rfl (lv_at hl 0 rfl) ?_
      refine k_get C hH fd_X10_270 oM (k_int (M := M4) (ad := ad) nM26) dX10_append_48 ?_
      exact ke_i C hH hr (Nat.le_refl _) (Nat.le_refl _) rfl dX10_append_51
    · refine lv_iconst (v := 0) hx hb dX10_append_25 (by decide) ?_
      exact ke_i C hH hr (Nat.le_refl _) (Nat.le_refl _) rfl dX10_append_26
  · refine kb_icmp_ne (tgt := 14) hx hb dX10_append_7 (by decide) (fun _ => ?_) (fun _ => ?_)
    · refine lv_iconst (v := 0) hx hb dX10_append_14 (by decide) ?_
      exact hK15_7 0 _ _ _ hH (lv_sub hl [0, 1] rfl)
    · refine lv_iconst (v := 1) hx hb dX10_append_10 (by decide) ?_
      refine lv_goto (tgt := 15) hx hb dX10_append_11 (by decide) ?_
      exact hK15_7 1 _ _ _ hH (lv_sub hl [0, 1] rfl)
def fX10_isHere (M : KS) (a1 : Int32) (a2 : Int32) : Option (Int32) := (if (M.1 0 28) = 0 then (if (M.1 0 26) ≤ (M.1 0 27) then some 0 else if inb (M.1 0 27) 60 then (if (fX10_in (M.1 19 (M.1 0 27).toNatClampNeg) a1 a2) = 0 then some 0 else some 1) else none) else some 0)
set_option maxHeartbeats 4000000 in
set_option maxRecDepth 100000 in
theorem kX10_isHere (l : Launch) (E : KE) (ad : Nat → Nat) (M : KS) (a1 : Int32) (a2 : Int32) : CT l yX10_isHere cX10_isHere 3 (some .boolean) { frames := 1, cells := 0, slots := 0, locals := 22 } SM E ad [.ref (ad 0), .int a1, .int a2] M (fun sz a => QI SM E ad sz (a, M)) (fX10_isHere M a1 a2) := by
  refine CT.ofW (by decide) (Nat.le_of_ble_eq_true rfl) (fun sz p e s m args below meth c C hr hH ls hl => ?_)
  have hx := C.1.1
  have hb := C.1.2.1
  have hl : lv_has ls 3 [(0, .ref (ad 0)), (1, .int a1), (2, .int a2)] := hl
  unfold fX10_isHere
  refine lv_aload_n hx hb dX10_isHere_0 rfl (lv_at hl 0 rfl) ?_
  refine k_get C hH fd_X10_273 oM (k_int (M := M) (ad := ad) nM28) dX10_isHere_1 ?_
  refine kb_if_ne (tgt := 39) hx hb dX10_isHere_4 (by decide) (fun _ => ?_) (fun _ => ?_)
  · refine lv_iconst (v := 0) hx hb dX10_isHere_39 (by decide) ?_
    exact ke_z C hH hr (Nat.le_refl _) (Nat.le_refl _) rfl (Or.inl rfl) dX10_isHere_40
  · refine lv_aload_n hx hb dX10_isHere_7 rfl (lv_at hl 0 rfl) ?_
    refine k_get C hH fd_X10_276 oM (k_int (M := M) (ad := ad) nM27) dX10_isHere_8 ?_
    refine lv_aload_n hx hb dX10_isHere_11 rfl (lv_at hl 0 rfl) ?_
    refine k_get C hH fd_X10_270 oM (k_int (M := M) (ad := ad) nM26) dX10_isHere_12 ?_
    refine kb_icmp_ge (tgt := 39) hx hb dX10_isHere_15 (by decide) (fun _ => ?_) (fun _ => ?_)
    · refine lv_iconst (v := 0) hx hb dX10_isHere_39 (by decide) ?_
      exact ke_z C hH hr (Nat.le_refl _) (Nat.le_refl _) rfl (Or.inl rfl) dX10_isHere_40
    · refine lv_aload_n hx hb dX10_isHere_18 rfl (lv_at hl 0 rfl) ?_
      refine k_get C hH fd_X10_66 oM (k_ref (M := M) (ad := ad) rM25) dX10_isHere_19 ?_
      refine lv_aload_n hx hb dX10_isHere_22 rfl (lv_at hl 0 rfl) ?_
      refine k_get C hH fd_X10_276 oM (k_int (M := M) (ad := ad) nM27) dX10_isHere_23 ?_
      refine k_cald C hH aM25 dX10_isHere_26 ?_
      refine lv_iload_n hx hb dX10_isHere_27 rfl (lv_at hl 1 rfl) ?_
      refine lv_iload_n hx hb dX10_isHere_28 rfl (lv_at hl 2 rfl) ?_
      refine kg_ip C hH (kc_S C hH w_6_96 w_st_yX10_in rfl lc_yX10_in (kX10_in l E ad M (M.1 19 (M.1 0 27).toNatClampNeg) a1 a2) (As := [.int (M.1 19 (M.1 0 27).toNatClampNeg), .int a1, .int a2]) rfl dX10_isHere_29 rfl hl.1 (Nat.le_of_ble_eq_true rfl) ⟨Nat.le_of_ble_eq_true rfl, Nat.le_of_ble_eq_true rfl⟩ ⟨Nat.le_of_ble_eq_true rfl, Nat.le_of_ble_eq_true rfl⟩) ⟨rfl, rfl⟩ (fun H locs hH => ?_)
      refine kb_if_eq (tgt := 39) hx hb dX10_isHere_32 (by decide) (fun _ => ?_) (fun _ => ?_)
      · refine lv_iconst (v := 0) hx hb dX10_isHere_39 (by decide) ?_
        exact ke_z C hH hr (Nat.le_refl _) (Nat.le_refl _) rfl (Or.inl rfl) dX10_isHere_40
      · refine lv_iconst (v := 1) hx hb dX10_isHere_35 (by decide) ?_
        refine lv_goto (tgt := 40) hx hb dX10_isHere_36 (by decide) ?_
        exact ke_z C hH hr (Nat.le_refl _) (Nat.le_refl _) rfl (Or.inr rfl) dX10_isHere_40
def fX10_sign_J22_5 (M : KS) (a1 : Int32) (v1 : Int32) : Option (Int32 × KS) := if isB v1 then nm (kset M 0 28 v1) fun M2 => (if (M2.1 0 28) = 0 then nm (kset M2 0 27 ((M2.1 0 27) + 1)) fun M3 => if inb ((M3.1 0 27) - 1) 60 then some (((M3.1 19 ((M3.1 0 27) - 1).toNatClampNeg) - a1), M3) else none else some (0, M2)) else none
theorem fX10_sign_J22_5_u {M : KS} {a1 : Int32} {v1 : Int32} : fX10_sign_J22_5 M a1 v1 = if isB v1 then nm (kset M 0 28 v1) fun M2 => (if (M2.1 0 28) = 0 then nm (kset M2 0 27 ((M2.1 0 27) + 1)) fun M3 => if inb ((M3.1 0 27) - 1) 60 then some (((M3.1 19 ((M3.1 0 27) - 1).toNatClampNeg) - a1), M3) else none else some (0, M2)) else none := rfl
def fX10_sign (M : KS) (a1 : Int32) (a2 : Int32) : Option (Int32 × KS) := jn (fX10_sign_J22_5 M a1) (fun K22_5 => (if (M.1 0 28) = 0 then (fX10_isHere M a1 a2).bind fun v4 => (if v4 = 0 then K22_5 1 else K22_5 0) else K22_5 1))
set_option maxHeartbeats 4000000 in
set_option maxRecDepth 100000 in
theorem kX10_sign (l : Launch) (E : KE) (ad : Nat → Nat) (M : KS) (a1 : Int32) (a2 : Int32) : CT l yX10_sign cX10_sign 3 (some .int) { frames := 2, cells := 0, slots := 0, locals := 44 } SM E ad [.ref (ad 0), .int a1, .int a2] M (QI SM E ad) (fX10_sign M a1 a2) := by
  refine CT.ofW (by decide) (Nat.le_of_ble_eq_true rfl) (fun sz p e s m args below meth c C hr hH ls hl => ?_)
  have hx := C.1.1
  have hb := C.1.2.1
  have hl : lv_has ls 3 [(0, .ref (ad 0)), (1, .int a1), (2, .int a2)] := hl
  unfold fX10_sign
  refine lv_aload_n hx hb dX10_sign_0 rfl (lv_at hl 0 rfl) ?_
  refine lv_aload_n hx hb dX10_sign_1 rfl (lv_at hl 0 rfl) ?_
  refine k_get C hH fd_X10_273 oM (k_int (M := M) (ad := ad) nM28) dX10_sign_2 ?_
  refine W_jn (fun (x : Int32) H locs => KH SM E ad sz M s.heap H locs) (fun x ls => lv_has ls 3 [(0, .ref (ad 0)), (1, .int a1)]) (fun x ls => F0 m 22 ls [.int x, .ref (ad 0)]) ?_ (fun K22_5 hK22_5 => ?_)
  · intro v1 H locs ls hH hl
    have hH : KH SM E ad sz M s.heap H locs := hH
    have hl : lv_has ls 3 [(0, .ref (ad 0)), (1, .int a1)] := hl
    refine W_q fX10_sign_J22_5_u ?_
    refine W_if (fun hb9 => ?_)
    refine k_put1 C hH fd_X10_273 fw_X10_28 oM nM28 (isB_nar hb9) (isB_fit hb9) dX10_sign_22 (fun M2 H locs hH => ?_)
    refine lv_aload_n hx hb dX10_sign_25 rfl (lv_at hl 0 rfl) ?_
    refine k_get C hH fd_X10_273 oM (k_int (M := M2) (ad := ad) nM28) dX10_sign_26 ?_
    refine kb_if_eq (tgt := 34) hx hb dX10_sign_29 (by decide) (fun _ => ?_) (fun _ => ?_)
    · refine lv_aload_n hx hb dX10_sign_34 rfl (lv_at hl 0 rfl) ?_
      refine lv_dup hx hb dX10_sign_35 rfl ?_
      refine k_get C hH fd_X10_276 oM (k_int (M := M2) (ad := ad) nM27) dX10_sign_36 ?_
      refine lv_iconst (v := 1) hx hb dX10_sign_39 (by decide) ?_
      refine lv_iadd hx hb dX10_sign_40 ?_
      refine k_put1 C hH fd_X10_276 fw_X10_27 oM nM27 rfl rfl dX10_sign_41 (fun M3 H locs hH => ?_)
      refine lv_aload_n hx hb dX10_sign_44 rfl (lv_at hl 0 rfl) ?_
      refine k_get C hH fd_X10_66 oM (k_ref (M := M3) (ad := ad) rM25) dX10_sign_45 ?_
      refine lv_aload_n hx hb dX10_sign_48 rfl (lv_at hl 0 rfl) ?_
      refine k_get C hH fd_X10_276 oM (k_int (M := M3) (ad := ad) nM27) dX10_sign_49 ?_
      refine lv_iconst (v := 1) hx hb dX10_sign_52 (by decide) ?_
      refine lv_isub hx hb dX10_sign_53 ?_
      refine k_cald C hH aM25 dX10_sign_54 ?_
      refine lv_iload_n hx hb dX10_sign_55 rfl (lv_at hl 1 rfl) ?_
      refine lv_isub hx hb dX10_sign_56 ?_
      exact ke_i C hH hr (Nat.le_refl _) (Nat.le_refl _) rfl dX10_sign_57
    · refine lv_iconst (v := 0) hx hb dX10_sign_32 (by decide) ?_
      exact ke_i C hH hr (Nat.le_refl _) (Nat.le_refl _) rfl dX10_sign_33
  · refine kb_if_ne (tgt := 17) hx hb dX10_sign_5 (by decide) (fun _ => ?_) (fun _ => ?_)
    · refine lv_iconst (v := 1) hx hb dX10_sign_17 (by decide) ?_
      refine lv_goto (tgt := 22) hx hb dX10_sign_18 (by decide) ?_
      exact hK22_5 1 _ _ _ hH (lv_sub hl [0, 1] rfl)
    · refine lv_aload_n hx hb dX10_sign_8 rfl (lv_at hl 0 rfl) ?_
      refine lv_iload_n hx hb dX10_sign_9 rfl (lv_at hl 1 rfl) ?_
      refine lv_iload_n hx hb dX10_sign_10 rfl (lv_at hl 2 rfl) ?_
      refine kg_io C hH (kc_V C hH w_7_131 lc_yX10_isHere li_yX10_isHere oM (kX10_isHere l E ad M a1 a2) (As := [.int a1, .int a2]) rfl dX10_sign_11 rfl hl.1 (Nat.le_of_ble_eq_true rfl) ⟨Nat.le_of_ble_eq_true rfl, Nat.le_of_ble_eq_true rfl⟩ ⟨Nat.le_of_ble_eq_true rfl, Nat.le_of_ble_eq_true rfl⟩) ⟨rfl, rfl⟩ (fun v4 H locs hH => ?_)
      refine kb_if_ne (tgt := 21) hx hb dX10_sign_14 (by decide) (fun _ => ?_) (fun _ => ?_)
      · refine lv_iconst (v := 0) hx hb dX10_sign_21 (by decide) ?_
        exact hK22_5 0 _ _ _ hH (lv_sub hl [0, 1] rfl)
      · refine lv_iconst (v := 1) hx hb dX10_sign_17 (by decide) ?_
        refine lv_goto (tgt := 22) hx hb dX10_sign_18 (by decide) ?_
        exact hK22_5 1 _ _ _ hH (lv_sub hl [0, 1] rfl)
def fX10_readCondition_J25_10 (v1 : Int32) (x : Int32 × KS) : Option (Int32 × KS) := match x with | (v2, M3) => bd2 (fX10_sign M3 48 53) fun v5 M4 => bd2 (fX10_sign M4 120 122) fun v7 M6 => bd2 (fX10_sign M6 120 122) fun v9 M8 => nm ((((1 + (9 * v5)) + (3 * v7)) + v9)) fun v10 => (if v1 = 0 then some (v10, M8) else some ((-v10), M8))
theorem fX10_readCondition_J25_10_u {v1 : Int32} {v2 : Int32} {M3 : KS} : fX10_readCondition_J25_10 v1 (v2, M3) = bd2 (fX10_sign M3 48 53) fun v5 M4 => bd2 (fX10_sign M4 120 122) fun v7 M6 => bd2 (fX10_sign M6 120 122) fun v9 M8 => nm ((((1 + (9 * v5)) + (3 * v7)) + v9)) fun v10 => (if v1 = 0 then some (v10, M8) else some ((-v10), M8)) := rfl
def fX10_readCondition (M : KS)  : Option (Int32 × KS) := (fX10_isHere M 33 33).bind fun v1 => jn (fX10_readCondition_J25_10 v1) (fun K25_10 => (if v1 = 0 then K25_10 (0, M) else bd2 (fX10_sign M 33 33) fun v12 M11 => K25_10 (v12, M11)))
set_option maxHeartbeats 4000000 in
set_option maxRecDepth 100000 in
theorem kX10_readCondition (l : Launch) (E : KE) (ad : Nat → Nat) (M : KS)  : CT l yX10_readCondition cX10_readCondition 6 (some .int) { frames := 3, cells := 0, slots := 0, locals := 66 } SM E ad [.ref (ad 0)] M (QI SM E ad) (fX10_readCondition M) := by
  refine CT.ofW (by decide) (Nat.le_of_ble_eq_true rfl) (fun sz p e s m args below meth c C hr hH ls hl => ?_)
  have hx := C.1.1
  have hb := C.1.2.1
  have hl : lv_has ls 6 [(0, .ref (ad 0))] := hl
  unfold fX10_readCondition
  refine lv_aload_n hx hb dX10_readCondition_0 rfl (lv_at hl 0 rfl) ?_
  refine lv_bipush (v := 33) hx hb dX10_readCondition_1 (by decide) ?_
  refine lv_bipush (v := 33) hx hb dX10_readCondition_3 (by decide) ?_
  refine kg_io C hH (kc_V C hH w_7_131 lc_yX10_isHere li_yX10_isHere oM (kX10_isHere l E ad M 33 33) (As := [.int 33, .int 33]) rfl dX10_readCondition_5 rfl hl.1 (Nat.le_of_ble_eq_true rfl) ⟨Nat.le_of_ble_eq_true rfl, Nat.le_of_ble_eq_true rfl⟩ ⟨Nat.le_of_ble_eq_true rfl, Nat.le_of_ble_eq_true rfl⟩) ⟨rfl, rfl⟩ (fun v1 H locs hH => ?_)
  refine lv_istore_n (lv' := [(1, .int v1), (0, .ref (ad 0))]) hx hb dX10_readCondition_8 rfl hl (by decide) rfl (fun ls hl => ?_)
  refine lv_iload_n hx hb dX10_readCondition_9 rfl (lv_at hl 0 rfl) ?_
  refine W_jn (fun (x : Int32 × KS) H locs => KH SM E ad sz x.2 s.heap H locs) (fun x ls => lv_has ls 6 [(1, .int v1), (0, .ref (ad 0))]) (fun x ls => F0 m 25 ls [.int x.1]) ?_ (fun K25_10 hK25_10 => ?_)
  · intro ⟨v2, M3⟩ H locs ls hH hl
    have hH : KH SM E ad sz M3 s.heap H locs := hH
    have hl : lv_has ls 6 [(1, .int v1), (0, .ref (ad 0))] := hl
    refine W_q fX10_readCondition_J25_10_u ?_
    refine lv_istore_n (lv' := [(2, .int v2), (1, .int v1), (0, .ref (ad 0))]) hx hb dX10_readCondition_25 rfl hl (by decide) rfl (fun ls hl => ?_)
    refine lv_aload_n hx hb dX10_readCondition_26 rfl (lv_at hl 2 rfl) ?_
    refine lv_bipush (v := 48) hx hb dX10_readCondition_27 (by decide) ?_
    refine lv_bipush (v := 53) hx hb dX10_readCondition_29 (by decide) ?_
    refine kg_ib C hH (kc_V C hH w_7_127 lc_yX10_sign li_yX10_sign oM (kX10_sign l E ad M3 48 53) (As := [.int 48, .int 53]) rfl dX10_readCondition_31 rfl hl.1 (Nat.le_of_ble_eq_true rfl) ⟨Nat.le_of_ble_eq_true rfl, Nat.le_of_ble_eq_true rfl⟩ ⟨Nat.le_of_ble_eq_true rfl, Nat.le_of_ble_eq_true rfl⟩) ⟨rfl, rfl⟩ (fun v5 M4 H locs hH => ?_)
    refine lv_istore_n (lv' := [(3, .int v5), (2, .int v2), (1, .int v1), (0, .ref (ad 0))]) hx hb dX10_readCondition_34 rfl hl (by decide) rfl (fun ls hl => ?_)
    refine lv_aload_n hx hb dX10_readCondition_35 rfl (lv_at hl 3 rfl) ?_
    refine lv_bipush (v := 120) hx hb dX10_readCondition_36 (by decide) ?_
    refine lv_bipush (v := 122) hx hb dX10_readCondition_38 (by decide) ?_
    refine kg_ib C hH (kc_V C hH w_7_127 lc_yX10_sign li_yX10_sign oM (kX10_sign l E ad M4 120 122) (As := [.int 120, .int 122]) rfl dX10_readCondition_40 rfl hl.1 (Nat.le_of_ble_eq_true rfl) ⟨Nat.le_of_ble_eq_true rfl, Nat.le_of_ble_eq_true rfl⟩ ⟨Nat.le_of_ble_eq_true rfl, Nat.le_of_ble_eq_true rfl⟩) ⟨rfl, rfl⟩ (fun v7 M6 H locs hH => ?_)
    refine lv_istore (lv' := [(4, .int v7), (3, .int v5), (2, .int v2), (1, .int v1), (0, .ref (ad 0))]) hx hb dX10_readCondition_43 hl (by decide) rfl (fun ls hl => ?_)
    refine lv_iconst (v := 1) hx hb dX10_readCondition_45 (by decide) ?_
    refine lv_bipush (v := 9) hx hb dX10_readCondition_46 (by decide) ?_
    refine lv_iload_n hx hb dX10_readCondition_48 rfl (lv_at hl 1 rfl) ?_
    refine lv_imul hx hb dX10_readCondition_49 ?_
    refine lv_iadd hx hb dX10_readCondition_50 ?_
    refine lv_iconst (v := 3) hx hb dX10_readCondition_51 (by decide) ?_
    refine lv_iload hx hb dX10_readCondition_52 (lv_at hl 0 rfl) ?_
    refine lv_imul hx hb dX10_readCondition_54 ?_
    refine lv_iadd hx hb dX10_readCondition_55 ?_
    refine lv_aload_n hx hb dX10_readCondition_56 rfl (lv_at hl 4 rfl) ?_
    refine lv_bipush (v := 120) hx hb dX10_readCondition_57 (by decide) ?_
    refine lv_bipush (v := 122) hx hb dX10_readCondition_59 (by decide) ?_
    refine kg_ib C hH (kc_V C hH w_7_127 lc_yX10_sign li_yX10_sign oM (kX10_sign l E ad M6 120 122) (As := [.int 120, .int 122]) rfl dX10_readCondition_61 rfl hl.1 (Nat.le_of_ble_eq_true rfl) ⟨Nat.le_of_ble_eq_true rfl, Nat.le_of_ble_eq_true rfl⟩ ⟨Nat.le_of_ble_eq_true rfl, Nat.le_of_ble_eq_true rfl⟩) ⟨rfl, rfl⟩ (fun v9 M8 H locs hH => ?_)
    refine lv_iadd hx hb dX10_readCondition_64 ?_
    refine W_nmi (fun v10 => ?_)
    refine lv_istore (lv' := [(5, .int v10), (4, .int v7), (3, .int v5), (2, .int v2), (1, .int v1), (0, .ref (ad 0))]) hx hb dX10_readCondition_65 hl (by decide) rfl (fun ls hl => ?_)
    refine lv_iload_n hx hb dX10_readCondition_67 rfl (lv_at hl 4 rfl) ?_
    refine kb_if_eq (tgt := 77) hx hb dX10_readCondition_68 (by decide) (fun _ => ?_) (fun _ => ?_)
    · refine lv_iload hx hb dX10_readCondition_77 (lv_at hl 0 rfl) ?_
      exact ke_i C hH hr (Nat.le_refl _) (Nat.le_refl _) rfl dX10_readCondition_79
    · refine lv_iload hx hb dX10_readCondition_71 (lv_at hl 0 rfl) ?_
      refine lv_ineg hx hb dX10_readCondition_73 ?_
      refine lv_goto (tgt := 79) hx hb dX10_readCondition_74 (by decide) ?_
      exact ke_i C hH hr (Nat.le_refl _) (Nat.le_refl _) rfl dX10_readCondition_79
  · refine kb_if_eq (tgt := 24) hx hb dX10_readCondition_10 (by decide) (fun _ => ?_) (fun _ => ?_)
    · refine lv_iconst (v := 0) hx hb dX10_readCondition_24 (by decide) ?_
      exact hK25_10 (0, M) _ _ _ hH (lv_sub hl [0, 1] rfl)
    · refine lv_aload_n hx hb dX10_readCondition_13 rfl (lv_at hl 1 rfl) ?_
      refine lv_bipush (v := 33) hx hb dX10_readCondition_14 (by decide) ?_
      refine lv_bipush (v := 33) hx hb dX10_readCondition_16 (by decide) ?_
      refine kg_ib C hH (kc_V C hH w_7_127 lc_yX10_sign li_yX10_sign oM (kX10_sign l E ad M 33 33) (As := [.int 33, .int 33]) rfl dX10_readCondition_18 rfl hl.1 (Nat.le_of_ble_eq_true rfl) ⟨Nat.le_of_ble_eq_true rfl, Nat.le_of_ble_eq_true rfl⟩ ⟨Nat.le_of_ble_eq_true rfl, Nat.le_of_ble_eq_true rfl⟩) ⟨rfl, rfl⟩ (fun v12 M11 H locs hH => ?_)
      refine lv_goto (tgt := 25) hx hb dX10_readCondition_21 (by decide) ?_
      exact hK25_10 (v12, M11) _ _ _ hH (lv_sub hl [0, 1] rfl)
def fX10_readOrder_X181 (M26 : KS) : Option (KS) := some M26
theorem fX10_readOrder_X181_u {M26 : KS} : fX10_readOrder_X181 M26 = some M26 := rfl
def fX10_readOrder_J209_195 (v3 : Int32) (v24 : Int32) (M25 : KS) (rec181 : (Int32 × KS) → Option (KS)) (_ : Unit) : Option (KS) := bd2 (fX10_readCondition M25) fun v29 M28 => if inb (v3 + v24) 300 then nm (kset M28 20 (v3 + v24).toNatClampNeg v29) fun M30 => nm (v24 + 1) fun v31 => rec181 (v31, M30) else none
theorem fX10_readOrder_J209_195_u {v3 : Int32} {v24 : Int32} {M25 : KS} {rec181 : (Int32 × KS) → Option (KS)} {u : Unit} : fX10_readOrder_J209_195 v3 v24 M25 rec181 u = bd2 (fX10_readCondition M25) fun v29 M28 => if inb (v3 + v24) 300 then nm (kset M28 20 (v3 + v24).toNatClampNeg v29) fun M30 => nm (v24 + 1) fun v31 => rec181 (v31, M30) else none := rfl
def fX10_readOrder_L181 (v3 : Int32) (rec181 : (Int32 × KS) → Option (KS)) (k181 : (KS) → Option (KS)) (x : Int32 × KS) : Option (KS) := match x with | (v24, M25) => (if 5 ≤ v24 then k181 M25 else (fX10_isHere M25 33 33).bind fun v27 => jn (fX10_readOrder_J209_195 v3 v24 M25 rec181) (fun K209_195 => (if v27 = 0 then (fX10_isHere M25 48 57).bind fun v32 => (if v32 = 0 then k181 M25 else K209_195 ()) else K209_195 ())))
theorem fX10_readOrder_L181_u {v3 : Int32} {rec181 : (Int32 × KS) → Option (KS)} {k181 : (KS) → Option (KS)} {v24 : Int32} {M25 : KS} : fX10_readOrder_L181 v3 rec181 k181 (v24, M25) = (if 5 ≤ v24 then k181 M25 else (fX10_isHere M25 33 33).bind fun v27 => jn (fX10_readOrder_J209_195 v3 v24 M25 rec181) (fun K209_195 => (if v27 = 0 then (fX10_isHere M25 48 57).bind fun v32 => (if v32 = 0 then k181 M25 else K209_195 ()) else K209_195 ()))) := rfl
def fX10_readOrder_J120_110 (v1 : Int32) (v3 : Int32) (M5 : KS) (v6 : Int32) : Option (KS) := bd2 (fX10_sign M5 48 v6) fun v8 M7 => if inb (v3 + 1) 300 then nm (kset M7 20 (v3 + 1).toNatClampNeg v8) fun M9 => if inb (v3 + 2) 300 then nm (kset M9 20 (v3 + 2).toNatClampNeg 0) fun M10 => if inb (v3 + 3) 300 then nm (kset M10 20 (v3 + 3).toNatClampNeg 0) fun M11 => if inb (v3 + 4) 300 then nm (kset M11 20 (v3 + 4).toNatClampNeg 0) fun M12 => (if v1 = 114 then bd2 (fX10_sign M12 61 61) fun v20 M19 => bd2 (fX10_readCondition M19) fun v22 M21 => if inb (v3 + 2) 300 then nm (kset M21 20 (v3 + 2).toNatClampNeg v22) fun M23 => lp (fX10_readOrder_L181 v3) (fX10_readOrder_X181) 1000000 (3, M23) else none else (if v1 = 100 then some M12 else bd2 (fX10_sign M12 97 102) fun v14 M13 => if inb (v3 + 2) 300 then nm (kset M13 20 (v3 + 2).toNatClampNeg v14) fun M15 => bd2 (fX10_sign M15 97 102) fun v17 M16 => if inb (v3 + 3) 300 then nm (kset M16 20 (v3 + 3).toNatClampNeg v17) fun M18 => some M18 else none else none)) else none else none else none else none
theorem fX10_readOrder_J120_110_u {v1 : Int32} {v3 : Int32} {M5 : KS} {v6 : Int32} : fX10_readOrder_J120_110 v1 v3 M5 v6 = bd2 (fX10_sign M5 48 v6) fun v8 M7 => if inb (v3 + 1) 300 then nm (kset M7 20 (v3 + 1).toNatClampNeg v8) fun M9 => if inb (v3 + 2) 300 then nm (kset M9 20 (v3 + 2).toNatClampNeg 0) fun M10 => if inb (v3 + 3) 300 then nm (kset M10 20 (v3 + 3).toNatClampNeg 0) fun M11 => if inb (v3 + 4) 300 then nm (kset M11 20 (v3 + 4).toNatClampNeg 0) fun M12 => (if v1 = 114 then bd2 (fX10_sign M12 61 61) fun v20 M19 => bd2 (fX10_readCondition M19) fun v22 M21 => if inb (v3 + 2) 300 then nm (kset M21 20 (v3 + 2).toNatClampNeg v22) fun M23 => lp (fX10_readOrder_L181 v3) (fX10_readOrder_X181) 1000000 (3, M23) else none else (if v1 = 100 then some M12 else bd2 (fX10_sign M12 97 102) fun v14 M13 => if inb (v3 + 2) 300 then nm (kset M13 20 (v3 + 2).toNatClampNeg v14) fun M15 => bd2 (fX10_sign M15 97 102) fun v17 M16 => if inb (v3 + 3) 300 then nm (kset M16 20 (v3 + 3).toNatClampNeg v17) fun M18 => some M18 else none else none)) else none else none else none else none := rfl
def fX10_readOrder_J63_36 (M : KS) (v1 : Int32) (_ : Unit) : Option (KS) := nm (kset M 0 27 ((M.1 0 27) + 1)) fun M2 => nm ((5 * (M2.1 0 31))) fun v3 => if inb v3 300 then nm (kset M2 20 v3.toNatClampNeg v1) fun M4 => nm (kset M4 0 31 ((M4.1 0 31) + 1)) fun M5 => jn (fX10_readOrder_J120_110 v1 v3 M5) (fun K120_110 => (if v1 = 100 then K120_110 57 else K120_110 53)) else none
theorem fX10_readOrder_J63_36_u {M : KS} {v1 : Int32} {u : Unit} : fX10_readOrder_J63_36 M v1 u = nm (kset M 0 27 ((M.1 0 27) + 1)) fun M2 => nm ((5 * (M2.1 0 31))) fun v3 => if inb v3 300 then nm (kset M2 20 v3.toNatClampNeg v1) fun M4 => nm (kset M4 0 31 ((M4.1 0 31) + 1)) fun M5 => jn (fX10_readOrder_J120_110 v1 v3 M5) (fun K120_110 => (if v1 = 100 then K120_110 57 else K120_110 53)) else none := rfl
def fX10_readOrder_J32_16 (M : KS) (v1 : Int32) : Option (KS) := jn (fX10_readOrder_J63_36 M v1) (fun K63_36 => (if v1 = 43 then K63_36 () else (if v1 = 45 then K63_36 () else (if v1 = 114 then K63_36 () else (if v1 = 100 then K63_36 () else nm (kset M 0 28 1) fun M33 => some M33)))))
theorem fX10_readOrder_J32_16_u {M : KS} {v1 : Int32} : fX10_readOrder_J32_16 M v1 = jn (fX10_readOrder_J63_36 M v1) (fun K63_36 => (if v1 = 43 then K63_36 () else (if v1 = 45 then K63_36 () else (if v1 = 114 then K63_36 () else (if v1 = 100 then K63_36 () else nm (kset M 0 28 1) fun M33 => some M33))))) := rfl
def fX10_readOrder (M : KS)  : Option (KS) := (if (M.1 0 28) = 0 then jn (fX10_readOrder_J32_16 M) (fun K32_16 => (if (M.1 0 26) ≤ (M.1 0 27) then K32_16 0 else if inb (M.1 0 27) 60 then K32_16 (M.1 19 (M.1 0 27).toNatClampNeg) else none)) else some M)
set_option maxHeartbeats 4000000 in
set_option maxRecDepth 100000 in
theorem kX10_readOrder (l : Launch) (E : KE) (ad : Nat → Nat) (M : KS)  : CT l yX10_readOrder cX10_readOrder 5 none { frames := 4, cells := 0, slots := 0, locals := 91 } SM E ad [.ref (ad 0)] M (QV SM E ad) (fX10_readOrder M) := by
  refine CT.ofW (by decide) (Nat.le_of_ble_eq_true rfl) (fun sz p e s m args below meth c C hr hH ls hl => ?_)
  have hx := C.1.1
  have hb := C.1.2.1
  have hl : lv_has ls 5 [(0, .ref (ad 0))] := hl
  unfold fX10_readOrder
  refine lv_aload_n hx hb dX10_readOrder_0 rfl (lv_at hl 0 rfl) ?_
  refine k_get C hH fd_X10_273 oM (k_int (M := M) (ad := ad) nM28) dX10_readOrder_1 ?_
  refine kb_if_eq (tgt := 8) hx hb dX10_readOrder_4 (by decide) (fun _ => ?_) (fun _ => ?_)
  · refine lv_aload_n hx hb dX10_readOrder_8 rfl (lv_at hl 0 rfl) ?_
    refine k_get C hH fd_X10_276 oM (k_int (M := M) (ad := ad) nM27) dX10_readOrder_9 ?_
    refine lv_aload_n hx hb dX10_readOrder_12 rfl (lv_at hl 0 rfl) ?_
    refine k_get C hH fd_X10_270 oM (k_int (M := M) (ad := ad) nM26) dX10_readOrder_13 ?_
    refine W_jn (fun (x : Int32) H locs => KH SM E ad sz M s.heap H locs) (fun x ls => lv_has ls 5 [(0, .ref (ad 0))]) (fun x ls => F0 m 32 ls [.int x]) ?_ (fun K32_16 hK32_16 => ?_)
    · intro v1 H locs ls hH hl
      have hH : KH SM E ad sz M s.heap H locs := hH
      have hl : lv_has ls 5 [(0, .ref (ad 0))] := hl
      refine W_q fX10_readOrder_J32_16_u ?_
      refine lv_istore_n (lv' := [(1, .int v1), (0, .ref (ad 0))]) hx hb dX10_readOrder_32 rfl hl (by decide) rfl (fun ls hl => ?_)
      refine lv_iload_n hx hb dX10_readOrder_33 rfl (lv_at hl 0 rfl) ?_
      refine lv_bipush (v := 43) hx hb dX10_readOrder_34 (by decide) ?_
      refine W_jn (fun (x : Unit) H locs => KH SM E ad sz M s.heap H locs) (fun x ls => lv_has ls 5 [(1, .int v1), (0, .ref (ad 0))]) (fun x ls => F0 m 63 ls []) ?_ (fun K63_36 hK63_36 => ?_)
      · intro _ H locs ls hH hl
        have hH : KH SM E ad sz M s.heap H locs := hH
        have hl : lv_has ls 5 [(1, .int v1), (0, .ref (ad 0))] := hl
        refine W_q fX10_readOrder_J63_36_u ?_
        refine lv_aload_n hx hb dX10_readOrder_63 rfl (lv_at hl 1 rfl) ?_
        refine lv_dup hx hb dX10_readOrder_64 rfl ?_
        refine k_get C hH fd_X10_276 oM (k_int (M := M) (ad := ad) nM27) dX10_readOrder_65 ?_
        refine lv_iconst (v := 1) hx hb dX10_readOrder_68 (by decide) ?_
        refine lv_iadd hx hb dX10_readOrder_69 ?_
        refine k_put1 C hH fd_X10_276 fw_X10_27 oM nM27 rfl rfl dX10_readOrder_70 (fun M2 H locs hH => ?_)
        refine lv_iconst (v := 5) hx hb dX10_readOrder_73 (by decide) ?_
        refine lv_aload_n hx hb dX10_readOrder_74 rfl (lv_at hl 1 rfl) ?_
        refine k_get C hH fd_X10_287 oM (k_int (M := M2) (ad := ad) nM31) dX10_readOrder_75 ?_
        refine lv_imul hx hb dX10_readOrder_78 ?_
        refine W_nmi (fun v3 => ?_)
        refine lv_istore_n (lv' := [(2, .int v3), (1, .int v1), (0, .ref (ad 0))]) hx hb dX10_readOrder_79 rfl hl (by decide) rfl (fun ls hl => ?_)
        refine lv_aload_n hx hb dX10_readOrder_80 rfl (lv_at hl 2 rfl) ?_
        refine k_get C hH fd_X10_73 oM (k_ref (M := M2) (ad := ad) rM30) dX10_readOrder_81 ?_
        refine lv_iload_n hx hb dX10_readOrder_84 rfl (lv_at hl 0 rfl) ?_
        refine lv_iload_n hx hb dX10_readOrder_85 rfl (lv_at hl 1 rfl) ?_
        refine k_iast C hH aM30 dX10_readOrder_86 (fun M4 H locs hH => ?_)
        refine lv_aload_n hx hb dX10_readOrder_87 rfl (lv_at hl 2 rfl) ?_
        refine lv_dup hx hb dX10_readOrder_88 rfl ?_
        refine k_get C hH fd_X10_287 oM (k_int (M := M4) (ad := ad) nM31) dX10_readOrder_89 ?_
        refine lv_iconst (v := 1) hx hb dX10_readOrder_92 (by decide) ?_
        refine lv_iadd hx hb dX10_readOrder_93 ?_
        refine k_put1 C hH fd_X10_287 fw_X10_31 oM nM31 rfl rfl dX10_readOrder_94 (fun M5 H locs hH => ?_)
        refine lv_aload_n hx hb dX10_readOrder_97 rfl (lv_at hl 2 rfl) ?_
        refine k_get C hH fd_X10_73 oM (k_ref (M := M5) (ad := ad) rM30) dX10_readOrder_98 ?_
        refine lv_iload_n hx hb dX10_readOrder_101 rfl (lv_at hl 0 rfl) ?_
        refine lv_iconst (v := 1) hx hb dX10_readOrder_102 (by decide) ?_
        refine lv_iadd hx hb dX10_readOrder_103 ?_
        refine lv_aload_n hx hb dX10_readOrder_104 rfl (lv_at hl 2 rfl) ?_
        refine lv_bipush (v := 48) hx hb dX10_readOrder_105 (by decide) ?_
        refine lv_iload_n hx hb dX10_readOrder_107 rfl (lv_at hl 1 rfl) ?_
        refine lv_bipush (v := 100) hx hb dX10_readOrder_108 (by decide) ?_
        refine W_jn (fun (x : Int32) H locs => KH SM E ad sz M5 s.heap H locs) (fun x ls => lv_has ls 5 [(2, .int v3), (1, .int v1), (0, .ref (ad 0))]) (fun x ls => F0 m 120 ls [.int x, .int 48, .ref (ad 0), .int (v3 + 1), .ref (ad 20)]) ?_ (fun K120_110 hK120_110 => ?_)
        · intro v6 H locs ls hH hl
          have hH : KH SM E ad sz M5 s.heap H locs := hH
          have hl : lv_has ls 5 [(2, .int v3), (1, .int v1), (0, .ref (ad 0))] := hl
          refine W_q fX10_readOrder_J120_110_u ?_
          refine kg_ib C hH (kc_V C hH w_7_127 lc_yX10_sign li_yX10_sign oM (kX10_sign l E ad M5 48 v6) (As := [.int 48, .int v6]) rfl dX10_readOrder_120 rfl hl.1 (Nat.le_of_ble_eq_true rfl) ⟨Nat.le_of_ble_eq_true rfl, Nat.le_of_ble_eq_true rfl⟩ ⟨Nat.le_of_ble_eq_true rfl, Nat.le_of_ble_eq_true rfl⟩) ⟨rfl, rfl⟩ (fun v8 M7 H locs hH => ?_)
          refine k_iast C hH aM30 dX10_readOrder_123 (fun M9 H locs hH => ?_)
          refine lv_aload_n hx hb dX10_readOrder_124 rfl (lv_at hl 2 rfl) ?_
          refine k_get C hH fd_X10_73 oM (k_ref (M := M9) (ad := ad) rM30) dX10_readOrder_125 ?_
          refine lv_iload_n hx hb dX10_readOrder_128 rfl (lv_at hl 0 rfl) ?_
          refine lv_iconst (v := 2) hx hb dX10_readOrder_129 (by decide) ?_
          refine lv_iadd hx hb dX10_readOrder_130 ?_
          refine lv_iconst (v := 0) hx hb dX10_readOrder_131 (by decide) ?_
          refine k_iast C hH aM30 dX10_readOrder_132 (fun M10 H locs hH => ?_)
          refine lv_aload_n hx hb dX10_readOrder_133 rfl (lv_at hl 2 rfl) ?_
          refine k_get C hH fd_X10_73 oM (k_ref (M := M10) (ad := ad) rM30) dX10_readOrder_134 ?_
          refine lv_iload_n hx hb dX10_readOrder_137 rfl (lv_at hl 0 rfl) ?_
          refine lv_iconst (v := 3) hx hb dX10_readOrder_138 (by decide) ?_
          refine lv_iadd hx hb dX10_readOrder_139 ?_
          refine lv_iconst (v := 0) hx hb dX10_readOrder_140 (by decide) ?_
          refine k_iast C hH aM30 dX10_readOrder_141 (fun M11 H locs hH => ?_)
          refine lv_aload_n hx hb dX10_readOrder_142 rfl (lv_at hl 2 rfl) ?_
          refine k_get C hH fd_X10_73 oM (k_ref (M := M11) (ad := ad) rM30) dX10_readOrder_143 ?_
          refine lv_iload_n hx hb dX10_readOrder_146 rfl (lv_at hl 0 rfl) ?_
          refine lv_iconst (v := 4) hx hb dX10_readOrder_147 (by decide) ?_
          refine lv_iadd hx hb dX10_readOrder_148 ?_
          refine lv_iconst (v := 0) hx hb dX10_readOrder_149 (by decide) ?_
          refine k_iast C hH aM30 dX10_readOrder_150 (fun M12 H locs hH => ?_)
          refine lv_iload_n hx hb dX10_readOrder_151 rfl (lv_at hl 1 rfl) ?_
          refine lv_bipush (v := 114) hx hb dX10_readOrder_152 (by decide) ?_
          refine kb_icmp_ne (tgt := 231) hx hb dX10_readOrder_154 (by decide) (fun _ => ?_) (fun _ => ?_)
          · refine lv_iload_n hx hb dX10_readOrder_231 rfl (lv_at hl 1 rfl) ?_
            refine lv_bipush (v := 100) hx hb dX10_readOrder_232 (by decide) ?_
            refine kb_icmp_eq (tgt := 269) hx hb dX10_readOrder_234 (by decide) (fun _ => ?_) (fun _ => ?_)
            · exact ke_v C hH hr (Nat.le_refl _) (Nat.le_refl _) rfl dX10_readOrder_269
            · refine lv_aload_n hx hb dX10_readOrder_237 rfl (lv_at hl 2 rfl) ?_
              refine k_get C hH fd_X10_73 oM (k_ref (M := M12) (ad := ad) rM30) dX10_readOrder_238 ?_
              refine lv_iload_n hx hb dX10_readOrder_241 rfl (lv_at hl 0 rfl) ?_
              refine lv_iconst (v := 2) hx hb dX10_readOrder_242 (by decide) ?_
              refine lv_iadd hx hb dX10_readOrder_243 ?_
              refine lv_aload_n hx hb dX10_readOrder_244 rfl (lv_at hl 2 rfl) ?_
              refine lv_bipush (v := 97) hx hb dX10_readOrder_245 (by decide) ?_
              refine lv_bipush (v := 102) hx hb dX10_readOrder_247 (by decide) ?_
              refine kg_ib C hH (kc_V C hH w_7_127 lc_yX10_sign li_yX10_sign oM (kX10_sign l E ad M12 97 102) (As := [.int 97, .int 102]) rfl dX10_readOrder_249 rfl hl.1 (Nat.le_of_ble_eq_true rfl) ⟨Nat.le_of_ble_eq_true rfl, Nat.le_of_ble_eq_true rfl⟩ ⟨Nat.le_of_ble_eq_true rfl, Nat.le_of_ble_eq_true rfl⟩) ⟨rfl, rfl⟩ (fun v14 M13 H locs hH => ?_)
              refine k_iast C hH aM30 dX10_readOrder_252 (fun M15 H locs hH => ?_)
              refine lv_aload_n hx hb dX10_readOrder_253 rfl (lv_at hl 2 rfl) ?_
              refine k_get C hH fd_X10_73 oM (k_ref (M := M15) (ad := ad) rM30) dX10_readOrder_254 ?_
              refine lv_iload_n hx hb dX10_readOrder_257 rfl (lv_at hl 0 rfl) ?_
              refine lv_iconst (v := 3) hx hb dX10_readOrder_258 (by decide) ?_
              refine lv_iadd hx hb dX10_readOrder_259 ?_
              refine lv_aload_n hx hb dX10_readOrder_260 rfl (lv_at hl 2 rfl) ?_
              refine lv_bipush (v := 97) hx hb dX10_readOrder_261 (by decide) ?_
              refine lv_bipush (v := 102) hx hb dX10_readOrder_263 (by decide) ?_
              refine kg_ib C hH (kc_V C hH w_7_127 lc_yX10_sign li_yX10_sign oM (kX10_sign l E ad M15 97 102) (As := [.int 97, .int 102]) rfl dX10_readOrder_265 rfl hl.1 (Nat.le_of_ble_eq_true rfl) ⟨Nat.le_of_ble_eq_true rfl, Nat.le_of_ble_eq_true rfl⟩ ⟨Nat.le_of_ble_eq_true rfl, Nat.le_of_ble_eq_true rfl⟩) ⟨rfl, rfl⟩ (fun v17 M16 H locs hH => ?_)
              refine k_iast C hH aM30 dX10_readOrder_268 (fun M18 H locs hH => ?_)
              exact ke_v C hH hr (Nat.le_refl _) (Nat.le_refl _) rfl dX10_readOrder_269
          · refine lv_aload_n hx hb dX10_readOrder_157 rfl (lv_at hl 2 rfl) ?_
            refine lv_bipush (v := 61) hx hb dX10_readOrder_158 (by decide) ?_
            refine lv_bipush (v := 61) hx hb dX10_readOrder_160 (by decide) ?_
            refine kg_ib C hH (kc_V C hH w_7_127 lc_yX10_sign li_yX10_sign oM (kX10_sign l E ad M12 61 61) (As := [.int 61, .int 61]) rfl dX10_readOrder_162 rfl hl.1 (Nat.le_of_ble_eq_true rfl) ⟨Nat.le_of_ble_eq_true rfl, Nat.le_of_ble_eq_true rfl⟩ ⟨Nat.le_of_ble_eq_true rfl, Nat.le_of_ble_eq_true rfl⟩) ⟨rfl, rfl⟩ (fun v20 M19 H locs hH => ?_)
            refine lv_istore_n (lv' := [(3, .int v20), (2, .int v3), (1, .int v1), (0, .ref (ad 0))]) hx hb dX10_readOrder_165 rfl hl (by decide) rfl (fun ls hl => ?_)
            refine lv_aload_n hx hb dX10_readOrder_166 rfl (lv_at hl 3 rfl) ?_
            refine k_get C hH fd_X10_73 oM (k_ref (M := M19) (ad := ad) rM30) dX10_readOrder_167 ?_
            refine lv_iload_n hx hb dX10_readOrder_170 rfl (lv_at hl 1 rfl) ?_
            refine lv_iconst (v := 2) hx hb dX10_readOrder_171 (by decide) ?_
            refine lv_iadd hx hb dX10_readOrder_172 ?_
            refine lv_aload_n hx hb dX10_readOrder_173 rfl (lv_at hl 3 rfl) ?_
            refine kg_ib C hH (kc_V C hH w_7_135 lc_yX10_readCondition li_yX10_readCondition oM (kX10_readCondition l E ad M19) (As := []) rfl dX10_readOrder_174 rfl hl.1 (Nat.le_of_ble_eq_true rfl) ⟨Nat.le_of_ble_eq_true rfl, Nat.le_of_ble_eq_true rfl⟩ ⟨Nat.le_of_ble_eq_true rfl, Nat.le_of_ble_eq_true rfl⟩) ⟨rfl, rfl⟩ (fun v22 M21 H locs hH => ?_)
            refine k_iast C hH aM30 dX10_readOrder_177 (fun M23 H locs hH => ?_)
            refine lv_iconst (v := 3) hx hb dX10_readOrder_178 (by decide) ?_
            refine lv_istore (lv' := [(4, .int 3), (3, .int v20), (2, .int v3), (1, .int v1), (0, .ref (ad 0))]) hx hb dX10_readOrder_179 hl (by decide) rfl (fun ls hl => ?_)
            refine W_lp (fun (x : Int32 × KS) H locs => KH SM E ad sz x.2 s.heap H locs) (fun x ls => lv_has ls 5 [(2, .int v3), (0, .ref (ad 0)), (4, .int x.1)]) (fun _ ls => F0 m 181 ls []) (fun (x : KS) H locs => KH SM E ad sz x s.heap H locs) (fun x ls => lv_has ls 5 []) (fun _ ls => F0 m 228 ls []) ?_ ?_ hH (lv_sub hl [2, 4, 0] rfl)
            · intro M26 H locs ls hH hl
              have hH : KH SM E ad sz M26 s.heap H locs := hH
              have hl : lv_has ls 5 [] := hl
              refine W_q fX10_readOrder_X181_u ?_
              refine lv_goto (tgt := 269) hx hb dX10_readOrder_228 (by decide) ?_
              exact ke_v C hH hr (Nat.le_refl _) (Nat.le_refl _) rfl dX10_readOrder_269
            · intro rec181 k181 hrec181 hk181 ⟨v24, M25⟩ H locs ls hH hl
              have hH : KH SM E ad sz M25 s.heap H locs := hH
              have hl : lv_has ls 5 [(2, .int v3), (0, .ref (ad 0)), (4, .int v24)] := hl
              refine W_q fX10_readOrder_L181_u ?_
              refine lv_iload hx hb dX10_readOrder_181 (lv_at hl 2 rfl) ?_
              refine lv_iconst (v := 5) hx hb dX10_readOrder_183 (by decide) ?_
              refine kb_icmp_ge (tgt := 228) hx hb dX10_readOrder_184 (by decide) (fun _ => ?_) (fun _ => ?_)
              · exact hk181 M25 _ _ _ hH (lv_sub hl [] rfl)
              · refine lv_aload_n hx hb dX10_readOrder_187 rfl (lv_at hl 1 rfl) ?_
                refine lv_bipush (v := 33) hx hb dX10_readOrder_188 (by decide) ?_
                refine lv_bipush (v := 33) hx hb dX10_readOrder_190 (by decide) ?_
                refine kg_io C hH (kc_V C hH w_7_131 lc_yX10_isHere li_yX10_isHere oM (kX10_isHere l E ad M25 33 33) (As := [.int 33, .int 33]) rfl dX10_readOrder_192 rfl hl.1 (Nat.le_of_ble_eq_true rfl) ⟨Nat.le_of_ble_eq_true rfl, Nat.le_of_ble_eq_true rfl⟩ ⟨Nat.le_of_ble_eq_true rfl, Nat.le_of_ble_eq_true rfl⟩) ⟨rfl, rfl⟩ (fun v27 H locs hH => ?_)
                refine W_jn (fun (x : Unit) H locs => KH SM E ad sz M25 s.heap H locs) (fun x ls => lv_has ls 5 [(2, .int v3), (0, .ref (ad 0)), (4, .int v24)]) (fun x ls => F0 m 209 ls []) ?_ (fun K209_195 hK209_195 => ?_)
                · intro _ H locs ls hH hl
                  have hH : KH SM E ad sz M25 s.heap H locs := hH
                  have hl : lv_has ls 5 [(2, .int v3), (0, .ref (ad 0)), (4, .int v24)] := hl
                  refine W_q fX10_readOrder_J209_195_u ?_
                  refine lv_aload_n hx hb dX10_readOrder_209 rfl (lv_at hl 1 rfl) ?_
                  refine k_get C hH fd_X10_73 oM (k_ref (M := M25) (ad := ad) rM30) dX10_readOrder_210 ?_
                  refine lv_iload_n hx hb dX10_readOrder_213 rfl (lv_at hl 0 rfl) ?_
                  refine lv_iload hx hb dX10_readOrder_214 (lv_at hl 2 rfl) ?_
                  refine lv_iadd hx hb dX10_readOrder_216 ?_
                  refine lv_aload_n hx hb dX10_readOrder_217 rfl (lv_at hl 1 rfl) ?_
                  refine kg_ib C hH (kc_V C hH w_7_135 lc_yX10_readCondition li_yX10_readCondition oM (kX10_readCondition l E ad M25) (As := []) rfl dX10_readOrder_218 rfl hl.1 (Nat.le_of_ble_eq_true rfl) ⟨Nat.le_of_ble_eq_true rfl, Nat.le_of_ble_eq_true rfl⟩ ⟨Nat.le_of_ble_eq_true rfl, Nat.le_of_ble_eq_true rfl⟩) ⟨rfl, rfl⟩ (fun v29 M28 H locs hH => ?_)
                  refine k_iast C hH aM30 dX10_readOrder_221 (fun M30 H locs hH => ?_)
                  refine W_nm (fun v31 ev31 => ?_)
                  refine lv_iinc (v := v31) (lv' := [(4, .int v31), (2, .int v3), (0, .ref (ad 0))]) hx hb dX10_readOrder_222 hl (k := 2) rfl (by rw [ev31]; rfl) (by decide) rfl (fun ls hl => ?_)
                  refine lv_goto (tgt := 181) hx hb dX10_readOrder_225 (by decide) ?_
                  exact hrec181 (v31, M30) _ _ _ hH (lv_sub hl [1, 2, 0] rfl)
                · refine kb_if_ne (tgt := 209) hx hb dX10_readOrder_195 (by decide) (fun _ => ?_) (fun _ => ?_)
                  · exact hK209_195 () _ _ _ hH (lv_sub hl [0, 1, 2] rfl)
                  · refine lv_aload_n hx hb dX10_readOrder_198 rfl (lv_at hl 1 rfl) ?_
                    refine lv_bipush (v := 48) hx hb dX10_readOrder_199 (by decide) ?_
                    refine lv_bipush (v := 57) hx hb dX10_readOrder_201 (by decide) ?_
                    refine kg_io C hH (kc_V C hH w_7_131 lc_yX10_isHere li_yX10_isHere oM (kX10_isHere l E ad M25 48 57) (As := [.int 48, .int 57]) rfl dX10_readOrder_203 rfl hl.1 (Nat.le_of_ble_eq_true rfl) ⟨Nat.le_of_ble_eq_true rfl, Nat.le_of_ble_eq_true rfl⟩ ⟨Nat.le_of_ble_eq_true rfl, Nat.le_of_ble_eq_true rfl⟩) ⟨rfl, rfl⟩ (fun v32 H locs hH => ?_)
                    refine kb_if_eq (tgt := 228) hx hb dX10_readOrder_206 (by decide) (fun _ => ?_) (fun _ => ?_)
                    · exact hk181 M25 _ _ _ hH (lv_sub hl [] rfl)
                    · exact hK209_195 () _ _ _ hH (lv_sub hl [0, 1, 2] rfl)
        · refine kb_icmp_ne (tgt := 118) hx hb dX10_readOrder_110 (by decide) (fun _ => ?_) (fun _ => ?_)
          · refine lv_bipush (v := 53) hx hb dX10_readOrder_118 (by decide) ?_
            exact hK120_110 53 _ _ _ hH (lv_sub hl [0, 1, 2] rfl)
          · refine lv_bipush (v := 57) hx hb dX10_readOrder_113 (by decide) ?_
            refine lv_goto (tgt := 120) hx hb dX10_readOrder_115 (by decide) ?_
            exact hK120_110 57 _ _ _ hH (lv_sub hl [0, 1, 2] rfl)
      · refine kb_icmp_eq (tgt := 63) hx hb dX10_readOrder_36 (by decide) (fun _ => ?_) (fun _ => ?_)
        · exact hK63_36 () _ _ _ hH (lv_sub hl [0, 1] rfl)
        · refine lv_iload_n hx hb dX10_readOrder_39 rfl (lv_at hl 0 rfl) ?_
          refine lv_bipush (v := 45) hx hb dX10_readOrder_40 (by decide) ?_
          refine kb_icmp_eq (tgt := 63) hx hb dX10_readOrder_42 (by decide) (fun _ => ?_) (fun _ => ?_)
          · exact hK63_36 () _ _ _ hH (lv_sub hl [0, 1] rfl)
          · refine lv_iload_n hx hb dX10_readOrder_45 rfl (lv_at hl 0 rfl) ?_
            refine lv_bipush (v := 114) hx hb dX10_readOrder_46 (by decide) ?_
            refine kb_icmp_eq (tgt := 63) hx hb dX10_readOrder_48 (by decide) (fun _ => ?_) (fun _ => ?_)
            · exact hK63_36 () _ _ _ hH (lv_sub hl [0, 1] rfl)
            · refine lv_iload_n hx hb dX10_readOrder_51 rfl (lv_at hl 0 rfl) ?_
              refine lv_bipush (v := 100) hx hb dX10_readOrder_52 (by decide) ?_
              refine kb_icmp_eq (tgt := 63) hx hb dX10_readOrder_54 (by decide) (fun _ => ?_) (fun _ => ?_)
              · exact hK63_36 () _ _ _ hH (lv_sub hl [0, 1] rfl)
              · refine lv_aload_n hx hb dX10_readOrder_57 rfl (lv_at hl 1 rfl) ?_
                refine lv_iconst (v := 1) hx hb dX10_readOrder_58 (by decide) ?_
                refine k_put1 C hH fd_X10_273 fw_X10_28 oM nM28 rfl rfl dX10_readOrder_59 (fun M33 H locs hH => ?_)
                exact ke_v C hH hr (Nat.le_refl _) (Nat.le_refl _) rfl dX10_readOrder_62
    · refine kb_icmp_ge (tgt := 31) hx hb dX10_readOrder_16 (by decide) (fun _ => ?_) (fun _ => ?_)
      · refine lv_iconst (v := 0) hx hb dX10_readOrder_31 (by decide) ?_
        exact hK32_16 0 _ _ _ hH (lv_sub hl [0] rfl)
      · refine lv_aload_n hx hb dX10_readOrder_19 rfl (lv_at hl 0 rfl) ?_
        refine k_get C hH fd_X10_66 oM (k_ref (M := M) (ad := ad) rM25) dX10_readOrder_20 ?_
        refine lv_aload_n hx hb dX10_readOrder_23 rfl (lv_at hl 0 rfl) ?_
        refine k_get C hH fd_X10_276 oM (k_int (M := M) (ad := ad) nM27) dX10_readOrder_24 ?_
        refine k_cald C hH aM25 dX10_readOrder_27 ?_
        refine lv_goto (tgt := 32) hx hb dX10_readOrder_28 (by decide) ?_
        exact hK32_16 (M.1 19 (M.1 0 27).toNatClampNeg) _ _ _ hH (lv_sub hl [0] rfl)
  · exact ke_v C hH hr (Nat.le_refl _) (Nat.le_refl _) rfl dX10_readOrder_7
def fX10_does (M : KS) (a1 : Int32) : Option (KS) := if inb ((5 * a1) + 1) 300 then nm ((M.1 20 ((5 * a1) + 1).toNatClampNeg)) fun v1 => if inb ((5 * a1) + 2) 300 then nm ((M.1 20 ((5 * a1) + 2).toNatClampNeg)) fun v2 => if inb ((5 * a1) + 3) 300 then nm ((M.1 20 ((5 * a1) + 3).toNatClampNeg)) fun v3 => if inb (5 * a1) 300 then (if (M.1 20 (5 * a1).toNatClampNeg) = 43 then bd2 (fX10_doTell M v1 v2 v3) fun v7 M6 => some M6 else (if (M.1 20 (5 * a1).toNatClampNeg) = 45 then bd2 (fX10_doUntell M v1 v2 v3) fun v9 M8 => some M8 else (if (M.1 20 (5 * a1).toNatClampNeg) = 114 then if inb ((5 * a1) + 4) 300 then bd2 (fX10_doRule M v1 v2 v3 (M.1 20 ((5 * a1) + 4).toNatClampNeg)) fun v11 M10 => some M10 else none else bd2 (fX10_doDrop M v1) fun v5 M4 => some M4))) else none else none else none else none
set_option maxHeartbeats 4000000 in
set_option maxRecDepth 100000 in
theorem kX10_does (l : Launch) (E : KE) (ad : Nat → Nat) (M : KS) (a1 : Int32) : CT l yX10_does cX10_does 6 none { frames := 9, cells := 0, slots := 0, locals := 214 } SM E ad [.ref (ad 0), .int a1] M (QV SM E ad) (fX10_does M a1) := by
  refine CT.ofW (by decide) (Nat.le_of_ble_eq_true rfl) (fun sz p e s m args below meth c C hr hH ls hl => ?_)
  have hx := C.1.1
  have hb := C.1.2.1
  have hl : lv_has ls 6 [(0, .ref (ad 0)), (1, .int a1)] := hl
  unfold fX10_does
  refine lv_aload_n hx hb dX10_does_0 rfl (lv_at hl 0 rfl) ?_
  refine k_get C hH fd_X10_73 oM (k_ref (M := M) (ad := ad) rM30) dX10_does_1 ?_
  refine lv_iconst (v := 5) hx hb dX10_does_4 (by decide) ?_
  refine lv_iload_n hx hb dX10_does_5 rfl (lv_at hl 1 rfl) ?_
  refine lv_imul hx hb dX10_does_6 ?_
  refine lv_iconst (v := 1) hx hb dX10_does_7 (by decide) ?_
  refine lv_iadd hx hb dX10_does_8 ?_
  refine k_iald C hH aM30 dX10_does_9 ?_
  refine W_nmi (fun v1 => ?_)
  refine lv_istore_n (lv' := [(2, .int v1), (0, .ref (ad 0)), (1, .int a1)]) hx hb dX10_does_10 rfl hl (by decide) rfl (fun ls hl => ?_)
  refine lv_aload_n hx hb dX10_does_11 rfl (lv_at hl 1 rfl) ?_
  refine k_get C hH fd_X10_73 oM (k_ref (M := M) (ad := ad) rM30) dX10_does_12 ?_
  refine lv_iconst (v := 5) hx hb dX10_does_15 (by decide) ?_
  refine lv_iload_n hx hb dX10_does_16 rfl (lv_at hl 2 rfl) ?_
  refine lv_imul hx hb dX10_does_17 ?_
  refine lv_iconst (v := 2) hx hb dX10_does_18 (by decide) ?_
  refine lv_iadd hx hb dX10_does_19 ?_
  refine k_iald C hH aM30 dX10_does_20 ?_
  refine W_nmi (fun v2 => ?_)
  refine lv_istore_n (lv' := [(3, .int v2), (2, .int v1), (0, .ref (ad 0)), (1, .int a1)]) hx hb dX10_does_21 rfl hl (by decide) rfl (fun ls hl => ?_)
  refine lv_aload_n hx hb dX10_does_22 rfl (lv_at hl 2 rfl) ?_
  refine k_get C hH fd_X10_73 oM (k_ref (M := M) (ad := ad) rM30) dX10_does_23 ?_
  refine lv_iconst (v := 5) hx hb dX10_does_26 (by decide) ?_
  refine lv_iload_n hx hb dX10_does_27 rfl (lv_at hl 3 rfl) ?_
  refine lv_imul hx hb dX10_does_28 ?_
  refine lv_iconst (v := 3) hx hb dX10_does_29 (by decide) ?_
  refine lv_iadd hx hb dX10_does_30 ?_
  refine k_iald C hH aM30 dX10_does_31 ?_
  refine W_nmi (fun v3 => ?_)
  refine lv_istore (lv' := [(4, .int v3), (3, .int v2), (2, .int v1), (0, .ref (ad 0)), (1, .int a1)]) hx hb dX10_does_32 hl (by decide) rfl (fun ls hl => ?_)
  refine lv_aload_n hx hb dX10_does_34 rfl (lv_at hl 3 rfl) ?_
  refine k_get C hH fd_X10_73 oM (k_ref (M := M) (ad := ad) rM30) dX10_does_35 ?_
  refine lv_iconst (v := 5) hx hb dX10_does_38 (by decide) ?_
  refine lv_iload_n hx hb dX10_does_39 rfl (lv_at hl 4 rfl) ?_
  refine lv_imul hx hb dX10_does_40 ?_
  refine k_iald C hH aM30 dX10_does_41 ?_
  refine W_ite (fun hs0 => ?_) (fun hs0 => ?_)
  · refine lv_lookup (tgt := 76) hx hb dX10_does_42 rfl (by rw [hs0]) (by decide) ?_
    refine lv_aload_n hx hb dX10_does_76 rfl (lv_at hl 3 rfl) ?_
    refine lv_iload_n hx hb dX10_does_77 rfl (lv_at hl 2 rfl) ?_
    refine lv_iload_n hx hb dX10_does_78 rfl (lv_at hl 1 rfl) ?_
    refine lv_iload hx hb dX10_does_79 (lv_at hl 0 rfl) ?_
    refine kg_ib C hH (kc_V C hH w_6_86 lc_yX10_doTell li_yX10_doTell oM (kX10_doTell l E ad M v1 v2 v3) (As := [.int v1, .int v2, .int v3]) rfl dX10_does_81 rfl hl.1 (Nat.le_of_ble_eq_true rfl) ⟨Nat.le_of_ble_eq_true rfl, Nat.le_of_ble_eq_true rfl⟩ ⟨Nat.le_of_ble_eq_true rfl, Nat.le_of_ble_eq_true rfl⟩) ⟨rfl, rfl⟩ (fun v7 M6 H locs hH => ?_)
    refine lv_istore (lv' := [(5, .int v7), (4, .int v3), (3, .int v2), (2, .int v1), (0, .ref (ad 0)), (1, .int a1)]) hx hb dX10_does_84 hl (by decide) rfl (fun ls hl => ?_)
    refine lv_goto (tgt := 132) hx hb dX10_does_86 (by decide) ?_
    exact ke_v C hH hr (Nat.le_refl _) (Nat.le_refl _) rfl dX10_does_132
  · refine W_ite (fun hs1 => ?_) (fun hs1 => ?_)
    · refine lv_lookup (tgt := 89) hx hb dX10_does_42 rfl (by rw [hs1]) (by decide) ?_
      refine lv_aload_n hx hb dX10_does_89 rfl (lv_at hl 3 rfl) ?_
      refine lv_iload_n hx hb dX10_does_90 rfl (lv_at hl 2 rfl) ?_
      refine lv_iload_n hx hb dX10_does_91 rfl (lv_at hl 1 rfl) ?_
      refine lv_iload hx hb dX10_does_92 (lv_at hl 0 rfl) ?_
      refine kg_ib C hH (kc_V C hH w_6_190 lc_yX10_doUntell li_yX10_doUntell oM (kX10_doUntell l E ad M v1 v2 v3) (As := [.int v1, .int v2, .int v3]) rfl dX10_does_94 rfl hl.1 (Nat.le_of_ble_eq_true rfl) ⟨Nat.le_of_ble_eq_true rfl, Nat.le_of_ble_eq_true rfl⟩ ⟨Nat.le_of_ble_eq_true rfl, Nat.le_of_ble_eq_true rfl⟩) ⟨rfl, rfl⟩ (fun v9 M8 H locs hH => ?_)
      refine lv_istore (lv' := [(5, .int v9), (4, .int v3), (3, .int v2), (2, .int v1), (0, .ref (ad 0)), (1, .int a1)]) hx hb dX10_does_97 hl (by decide) rfl (fun ls hl => ?_)
      refine lv_goto (tgt := 132) hx hb dX10_does_99 (by decide) ?_
      exact ke_v C hH hr (Nat.le_refl _) (Nat.le_refl _) rfl dX10_does_132
    · refine W_ite (fun hs2 => ?_) (fun hs2 => ?_)
      · refine lv_lookup (tgt := 102) hx hb dX10_does_42 rfl (by rw [hs2]) (by decide) ?_
        refine lv_aload_n hx hb dX10_does_102 rfl (lv_at hl 3 rfl) ?_
        refine lv_iload_n hx hb dX10_does_103 rfl (lv_at hl 2 rfl) ?_
        refine lv_iload_n hx hb dX10_does_104 rfl (lv_at hl 1 rfl) ?_
        refine lv_iload hx hb dX10_does_105 (lv_at hl 0 rfl) ?_
        refine lv_aload_n hx hb dX10_does_107 rfl (lv_at hl 3 rfl) ?_
        refine k_get C hH fd_X10_73 oM (k_ref (M := M) (ad := ad) rM30) dX10_does_108 ?_
        refine lv_iconst (v := 5) hx hb dX10_does_111 (by decide) ?_
        refine lv_iload_n hx hb dX10_does_112 rfl (lv_at hl 4 rfl) ?_
        refine lv_imul hx hb dX10_does_113 ?_
        refine lv_iconst (v := 4) hx hb dX10_does_114 (by decide) ?_
        refine lv_iadd hx hb dX10_does_115 ?_
        refine k_iald C hH aM30 dX10_does_116 ?_
        refine kg_ib C hH (kc_V C hH w_7_22 lc_yX10_doRule li_yX10_doRule oM (kX10_doRule l E ad M v1 v2 v3 (M.1 20 ((5 * a1) + 4).toNatClampNeg)) (As := [.int v1, .int v2, .int v3, .int (M.1 20 ((5 * a1) + 4).toNatClampNeg)]) rfl dX10_does_117 rfl hl.1 (Nat.le_of_ble_eq_true rfl) ⟨Nat.le_of_ble_eq_true rfl, Nat.le_of_ble_eq_true rfl⟩ ⟨Nat.le_of_ble_eq_true rfl, Nat.le_of_ble_eq_true rfl⟩) ⟨rfl, rfl⟩ (fun v11 M10 H locs hH => ?_)
        refine lv_istore (lv' := [(5, .int v11), (4, .int v3), (3, .int v2), (2, .int v1), (0, .ref (ad 0)), (1, .int a1)]) hx hb dX10_does_120 hl (by decide) rfl (fun ls hl => ?_)
        refine lv_goto (tgt := 132) hx hb dX10_does_122 (by decide) ?_
        exact ke_v C hH hr (Nat.le_refl _) (Nat.le_refl _) rfl dX10_does_132
      · refine lv_lookup (tgt := 125) hx hb dX10_does_42 rfl (k_look3 (a := 43) (b := 45) (c := 114) hs0 hs1 hs2 rfl rfl rfl) (by decide) ?_
        refine lv_aload_n hx hb dX10_does_125 rfl (lv_at hl 3 rfl) ?_
        refine lv_iload_n hx hb dX10_does_126 rfl (lv_at hl 2 rfl) ?_
        refine kg_ib C hH (kc_V C hH w_7_42 lc_yX10_doDrop li_yX10_doDrop oM (kX10_doDrop l E ad M v1) (As := [.int v1]) rfl dX10_does_127 rfl hl.1 (Nat.le_of_ble_eq_true rfl) ⟨Nat.le_of_ble_eq_true rfl, Nat.le_of_ble_eq_true rfl⟩ ⟨Nat.le_of_ble_eq_true rfl, Nat.le_of_ble_eq_true rfl⟩) ⟨rfl, rfl⟩ (fun v5 M4 H locs hH => ?_)
        refine lv_istore (lv' := [(5, .int v5), (4, .int v3), (3, .int v2), (2, .int v1), (0, .ref (ad 0)), (1, .int a1)]) hx hb dX10_does_130 hl (by decide) rfl (fun ls hl => ?_)
        exact ke_v C hH hr (Nat.le_refl _) (Nat.le_refl _) rfl dX10_does_132
def fX10_run_X117 (M15 : KS) : Option (Int32 × KS) := bd2 (fX10_ends M15 (M15.1 0 31)) fun v17 M16 => some (v17, M16)
theorem fX10_run_X117_u {M15 : KS} : fX10_run_X117 M15 = bd2 (fX10_ends M15 (M15.1 0 31)) fun v17 M16 => some (v17, M16) := rfl
def fX10_run_J155_147 (M19 : KS) (v21 : Int32) : Option (Int32 × KS) := nm (kset M19 0 6 v21) fun M22 => bd2 (fX10_ends M22 0) fun v24 M23 => some (v24, M23)
theorem fX10_run_J155_147_u {M19 : KS} {v21 : Int32} : fX10_run_J155_147 M19 v21 = nm (kset M19 0 6 v21) fun M22 => bd2 (fX10_ends M22 0) fun v24 M23 => some (v24, M23) := rfl
def fX10_run_L117 (rec117 : (Int32 × KS) → Option (Int32 × KS)) (k117 : (KS) → Option (Int32 × KS)) (x : Int32 × KS) : Option (Int32 × KS) := match x with | (v13, M14) => (if (M14.1 0 31) ≤ v13 then k117 M14 else nm (kset M14 0 9 0) fun M18 => (fX10_does M18 v13).bind fun M19 => (if (M19.1 0 6) ≤ 0 then nm (v13 + 1) fun v20 => rec117 (v20, M19) else jn (fX10_run_J155_147 M19) (fun K155_147 => (if (M19.1 0 9) = 0 then K155_147 1 else K155_147 2))))
theorem fX10_run_L117_u {rec117 : (Int32 × KS) → Option (Int32 × KS)} {k117 : (KS) → Option (Int32 × KS)} {v13 : Int32} {M14 : KS} : fX10_run_L117 rec117 k117 (v13, M14) = (if (M14.1 0 31) ≤ v13 then k117 M14 else nm (kset M14 0 9 0) fun M18 => (fX10_does M18 v13).bind fun M19 => (if (M19.1 0 6) ≤ 0 then nm (v13 + 1) fun v20 => rec117 (v20, M19) else jn (fX10_run_J155_147 M19) (fun K155_147 => (if (M19.1 0 9) = 0 then K155_147 1 else K155_147 2)))) := rfl
def fX10_run_J90_79 (M8 : KS) (v9 : Int32) : Option (Int32 × KS) := nm (kset M8 0 29 v9) fun M10 => nm (kset M10 0 26 0) fun M11 => (if (M11.1 0 28) = 0 then (fX10_keep M11).bind fun M12 => lp (fX10_run_L117) (fX10_run_X117) 1000000 (0, M12) else bd2 (fX10_fails M11 1) fun v26 M25 => some (v26, M25))
theorem fX10_run_J90_79_u {M8 : KS} {v9 : Int32} : fX10_run_J90_79 M8 v9 = nm (kset M8 0 29 v9) fun M10 => nm (kset M10 0 26 0) fun M11 => (if (M11.1 0 28) = 0 then (fX10_keep M11).bind fun M12 => lp (fX10_run_L117) (fX10_run_X117) 1000000 (0, M12) else bd2 (fX10_fails M11 1) fun v26 M25 => some (v26, M25)) := rfl
def fX10_run_J71_52 (M6 : KS) (v7 : Int32) : Option (Int32 × KS) := if isB v7 then nm (kset M6 0 28 v7) fun M8 => jn (fX10_run_J90_79 M8) (fun K90_79 => (if (M8.1 0 28) = 0 then K90_79 (-1) else K90_79 (M8.1 0 27))) else none
theorem fX10_run_J71_52_u {M6 : KS} {v7 : Int32} : fX10_run_J71_52 M6 v7 = if isB v7 then nm (kset M6 0 28 v7) fun M8 => jn (fX10_run_J90_79 M8) (fun K90_79 => (if (M8.1 0 28) = 0 then K90_79 (-1) else K90_79 (M8.1 0 27))) else none := rfl
def fX10_run_X19 (M6 : KS) : Option (Int32 × KS) := jn (fX10_run_J71_52 M6) (fun K71_52 => (if (M6.1 0 28) = 0 then (if (M6.1 0 26) ≤ (M6.1 0 27) then K71_52 0 else K71_52 1) else K71_52 1))
theorem fX10_run_X19_u {M6 : KS} : fX10_run_X19 M6 = jn (fX10_run_J71_52 M6) (fun K71_52 => (if (M6.1 0 28) = 0 then (if (M6.1 0 26) ≤ (M6.1 0 27) then K71_52 0 else K71_52 1) else K71_52 1)) := rfl
def fX10_run_L19 (rec19 : (KS) → Option (Int32 × KS)) (k19 : (KS) → Option (Int32 × KS)) (M5 : KS) : Option (Int32 × KS) := (fX10_isHere M5 59 59).bind fun v27 => (if v27 = 0 then k19 M5 else nm (kset M5 0 27 ((M5.1 0 27) + 1)) fun M28 => (fX10_readOrder M28).bind fun M29 => rec19 M29)
theorem fX10_run_L19_u {rec19 : (KS) → Option (Int32 × KS)} {k19 : (KS) → Option (Int32 × KS)} {M5 : KS} : fX10_run_L19 rec19 k19 M5 = (fX10_isHere M5 59 59).bind fun v27 => (if v27 = 0 then k19 M5 else nm (kset M5 0 27 ((M5.1 0 27) + 1)) fun M28 => (fX10_readOrder M28).bind fun M29 => rec19 M29) := rfl
def fX10_run (M : KS)  : Option (Int32 × KS) := nm (kset M 0 27 0) fun M1 => nm (kset M1 0 28 0) fun M2 => nm (kset M2 0 31 0) fun M3 => (fX10_readOrder M3).bind fun M4 => lp (fX10_run_L19) (fX10_run_X19) 1000000 M4
set_option maxHeartbeats 4000000 in
set_option maxRecDepth 100000 in
theorem kX10_run (l : Launch) (E : KE) (ad : Nat → Nat) (M : KS)  : CT l yX10_run cX10_run 2 (some .int) { frames := 10, cells := 0, slots := 0, locals := 239 } SM E ad [.ref (ad 0)] M (QI SM E ad) (fX10_run M) := by
  refine CT.ofW (by decide) (Nat.le_of_ble_eq_true rfl) (fun sz p e s m args below meth c C hr hH ls hl => ?_)
  have hx := C.1.1
  have hb := C.1.2.1
  have hl : lv_has ls 2 [(0, .ref (ad 0))] := hl
  unfold fX10_run
  refine lv_aload_n hx hb dX10_run_0 rfl (lv_at hl 0 rfl) ?_
  refine lv_iconst (v := 0) hx hb dX10_run_1 (by decide) ?_
  refine k_put1 C hH fd_X10_276 fw_X10_27 oM nM27 rfl rfl dX10_run_2 (fun M1 H locs hH => ?_)
  refine lv_aload_n hx hb dX10_run_5 rfl (lv_at hl 0 rfl) ?_
  refine lv_iconst (v := 0) hx hb dX10_run_6 (by decide) ?_
  refine k_put1 C hH fd_X10_273 fw_X10_28 oM nM28 rfl rfl dX10_run_7 (fun M2 H locs hH => ?_)
  refine lv_aload_n hx hb dX10_run_10 rfl (lv_at hl 0 rfl) ?_
  refine lv_iconst (v := 0) hx hb dX10_run_11 (by decide) ?_
  refine k_put1 C hH fd_X10_287 fw_X10_31 oM nM31 rfl rfl dX10_run_12 (fun M3 H locs hH => ?_)
  refine lv_aload_n hx hb dX10_run_15 rfl (lv_at hl 0 rfl) ?_
  refine kg_v C hH (kc_V C hH w_7_123 lc_yX10_readOrder li_yX10_readOrder oM (kX10_readOrder l E ad M3) (As := []) rfl dX10_run_16 rfl hl.1 (Nat.le_of_ble_eq_true rfl) ⟨Nat.le_of_ble_eq_true rfl, Nat.le_of_ble_eq_true rfl⟩ ⟨Nat.le_of_ble_eq_true rfl, Nat.le_of_ble_eq_true rfl⟩) ⟨rfl, rfl⟩ (fun M4 H locs hH => ?_)
  refine W_lp (fun (x : KS) H locs => KH SM E ad sz x s.heap H locs) (fun x ls => lv_has ls 2 [(0, .ref (ad 0))]) (fun _ ls => F0 m 19 ls []) (fun (x : KS) H locs => KH SM E ad sz x s.heap H locs) (fun x ls => lv_has ls 2 [(0, .ref (ad 0))]) (fun _ ls => F0 m 47 ls []) ?_ ?_ hH (lv_sub hl [0] rfl)
  · intro M6 H locs ls hH hl
    have hH : KH SM E ad sz M6 s.heap H locs := hH
    have hl : lv_has ls 2 [(0, .ref (ad 0))] := hl
    refine W_q fX10_run_X19_u ?_
    refine lv_aload_n hx hb dX10_run_47 rfl (lv_at hl 0 rfl) ?_
    refine lv_aload_n hx hb dX10_run_48 rfl (lv_at hl 0 rfl) ?_
    refine k_get C hH fd_X10_273 oM (k_int (M := M6) (ad := ad) nM28) dX10_run_49 ?_
    refine W_jn (fun (x : Int32) H locs => KH SM E ad sz M6 s.heap H locs) (fun x ls => lv_has ls 2 [(0, .ref (ad 0))]) (fun x ls => F0 m 71 ls [.int x, .ref (ad 0)]) ?_ (fun K71_52 hK71_52 => ?_)
    · intro v7 H locs ls hH hl
      have hH : KH SM E ad sz M6 s.heap H locs := hH
      have hl : lv_has ls 2 [(0, .ref (ad 0))] := hl
      refine W_q fX10_run_J71_52_u ?_
      refine W_if (fun hb9 => ?_)
      refine k_put1 C hH fd_X10_273 fw_X10_28 oM nM28 (isB_nar hb9) (isB_fit hb9) dX10_run_71 (fun M8 H locs hH => ?_)
      refine lv_aload_n hx hb dX10_run_74 rfl (lv_at hl 0 rfl) ?_
      refine lv_aload_n hx hb dX10_run_75 rfl (lv_at hl 0 rfl) ?_
      refine k_get C hH fd_X10_273 oM (k_int (M := M8) (ad := ad) nM28) dX10_run_76 ?_
      refine W_jn (fun (x : Int32) H locs => KH SM E ad sz M8 s.heap H locs) (fun x ls => lv_has ls 2 [(0, .ref (ad 0))]) (fun x ls => F0 m 90 ls [.int x, .ref (ad 0)]) ?_ (fun K90_79 hK90_79 => ?_)
      · intro v9 H locs ls hH hl
        have hH : KH SM E ad sz M8 s.heap H locs := hH
        have hl : lv_has ls 2 [(0, .ref (ad 0))] := hl
        refine W_q fX10_run_J90_79_u ?_
        refine k_put1 C hH fd_X10_69 fw_X10_29 oM nM29 rfl rfl dX10_run_90 (fun M10 H locs hH => ?_)
        refine lv_aload_n hx hb dX10_run_93 rfl (lv_at hl 0 rfl) ?_
        refine lv_iconst (v := 0) hx hb dX10_run_94 (by decide) ?_
        refine k_put1 C hH fd_X10_270 fw_X10_26 oM nM26 rfl rfl dX10_run_95 (fun M11 H locs hH => ?_)
        refine lv_aload_n hx hb dX10_run_98 rfl (lv_at hl 0 rfl) ?_
        refine k_get C hH fd_X10_273 oM (k_int (M := M11) (ad := ad) nM28) dX10_run_99 ?_
        refine kb_if_eq (tgt := 111) hx hb dX10_run_102 (by decide) (fun _ => ?_) (fun _ => ?_)
        · refine lv_aload_n hx hb dX10_run_111 rfl (lv_at hl 0 rfl) ?_
          refine kg_v C hH (kc_V C hH w_6_79 lc_yX10_keep li_yX10_keep oM (kX10_keep l E ad M11) (As := []) rfl dX10_run_112 rfl hl.1 (Nat.le_of_ble_eq_true rfl) ⟨Nat.le_of_ble_eq_true rfl, Nat.le_of_ble_eq_true rfl⟩ ⟨Nat.le_of_ble_eq_true rfl, Nat.le_of_ble_eq_true rfl⟩) ⟨rfl, rfl⟩ (fun M12 H locs hH => ?_)
          refine lv_iconst (v := 0) hx hb dX10_run_115 (by decide) ?_
          refine lv_istore_n (lv' := [(1, .int 0), (0, .ref (ad 0))]) hx hb dX10_run_116 rfl hl (by decide) rfl (fun ls hl => ?_)
          refine W_lp (fun (x : Int32 × KS) H locs => KH SM E ad sz x.2 s.heap H locs) (fun x ls => lv_has ls 2 [(0, .ref (ad 0)), (1, .int x.1)]) (fun _ ls => F0 m 117 ls []) (fun (x : KS) H locs => KH SM E ad sz x s.heap H locs) (fun x ls => lv_has ls 2 [(0, .ref (ad 0))]) (fun _ ls => F0 m 170 ls []) ?_ ?_ hH (lv_sub hl [1, 0] rfl)
          · intro M15 H locs ls hH hl
            have hH : KH SM E ad sz M15 s.heap H locs := hH
            have hl : lv_has ls 2 [(0, .ref (ad 0))] := hl
            refine W_q fX10_run_X117_u ?_
            refine lv_aload_n hx hb dX10_run_170 rfl (lv_at hl 0 rfl) ?_
            refine lv_aload_n hx hb dX10_run_171 rfl (lv_at hl 0 rfl) ?_
            refine k_get C hH fd_X10_287 oM (k_int (M := M15) (ad := ad) nM31) dX10_run_172 ?_
            refine kg_ib C hH (kc_V C hH w_6_182 lc_yX10_ends li_yX10_ends oM (kX10_ends l E ad M15 (M15.1 0 31)) (As := [.int (M15.1 0 31)]) rfl dX10_run_175 rfl hl.1 (Nat.le_of_ble_eq_true rfl) ⟨Nat.le_of_ble_eq_true rfl, Nat.le_of_ble_eq_true rfl⟩ ⟨Nat.le_of_ble_eq_true rfl, Nat.le_of_ble_eq_true rfl⟩) ⟨rfl, rfl⟩ (fun v17 M16 H locs hH => ?_)
            exact ke_i C hH hr (Nat.le_refl _) (Nat.le_refl _) rfl dX10_run_178
          · intro rec117 k117 hrec117 hk117 ⟨v13, M14⟩ H locs ls hH hl
            have hH : KH SM E ad sz M14 s.heap H locs := hH
            have hl : lv_has ls 2 [(0, .ref (ad 0)), (1, .int v13)] := hl
            refine W_q fX10_run_L117_u ?_
            refine lv_iload_n hx hb dX10_run_117 rfl (lv_at hl 1 rfl) ?_
            refine lv_aload_n hx hb dX10_run_118 rfl (lv_at hl 0 rfl) ?_
            refine k_get C hH fd_X10_287 oM (k_int (M := M14) (ad := ad) nM31) dX10_run_119 ?_
            refine kb_icmp_ge (tgt := 170) hx hb dX10_run_122 (by decide) (fun _ => ?_) (fun _ => ?_)
            · exact hk117 M14 _ _ _ hH (lv_sub hl [0] rfl)
            · refine lv_aload_n hx hb dX10_run_125 rfl (lv_at hl 0 rfl) ?_
              refine lv_iconst (v := 0) hx hb dX10_run_126 (by decide) ?_
              refine k_put1 C hH fd_X10_88 fw_X10_9 oM nM9 rfl rfl dX10_run_127 (fun M18 H locs hH => ?_)
              refine lv_aload_n hx hb dX10_run_130 rfl (lv_at hl 0 rfl) ?_
              refine lv_iload_n hx hb dX10_run_131 rfl (lv_at hl 1 rfl) ?_
              refine kg_v C hH (kc_V C hH w_7_139 lc_yX10_does li_yX10_does oM (kX10_does l E ad M18 v13) (As := [.int v13]) rfl dX10_run_132 rfl hl.1 (Nat.le_of_ble_eq_true rfl) ⟨Nat.le_of_ble_eq_true rfl, Nat.le_of_ble_eq_true rfl⟩ ⟨Nat.le_of_ble_eq_true rfl, Nat.le_of_ble_eq_true rfl⟩) ⟨rfl, rfl⟩ (fun M19 H locs hH => ?_)
              refine lv_aload_n hx hb dX10_run_135 rfl (lv_at hl 0 rfl) ?_
              refine k_get C hH fd_X10_76 oM (k_int (M := M19) (ad := ad) nM6) dX10_run_136 ?_
              refine kb_if_le (tgt := 164) hx hb dX10_run_139 (by decide) (fun _ => ?_) (fun _ => ?_)
              · refine W_nm (fun v20 ev20 => ?_)
                refine lv_iinc (v := v20) (lv' := [(1, .int v20), (0, .ref (ad 0))]) hx hb dX10_run_164 hl (k := 1) rfl (by rw [ev20]; rfl) (by decide) rfl (fun ls hl => ?_)
                refine lv_goto (tgt := 117) hx hb dX10_run_167 (by decide) ?_
                exact hrec117 (v20, M19) _ _ _ hH (lv_sub hl [1, 0] rfl)
              · refine lv_aload_n hx hb dX10_run_142 rfl (lv_at hl 0 rfl) ?_
                refine lv_aload_n hx hb dX10_run_143 rfl (lv_at hl 0 rfl) ?_
                refine k_get C hH fd_X10_88 oM (k_int (M := M19) (ad := ad) nM9) dX10_run_144 ?_
                refine W_jn (fun (x : Int32) H locs => KH SM E ad sz M19 s.heap H locs) (fun x ls => lv_has ls 2 [(0, .ref (ad 0))]) (fun x ls => F0 m 155 ls [.int x, .ref (ad 0)]) ?_ (fun K155_147 hK155_147 => ?_)
                · intro v21 H locs ls hH hl
                  have hH : KH SM E ad sz M19 s.heap H locs := hH
                  have hl : lv_has ls 2 [(0, .ref (ad 0))] := hl
                  refine W_q fX10_run_J155_147_u ?_
                  refine k_put1 C hH fd_X10_76 fw_X10_6 oM nM6 rfl rfl dX10_run_155 (fun M22 H locs hH => ?_)
                  refine lv_aload_n hx hb dX10_run_158 rfl (lv_at hl 0 rfl) ?_
                  refine lv_iconst (v := 0) hx hb dX10_run_159 (by decide) ?_
                  refine kg_ib C hH (kc_V C hH w_6_182 lc_yX10_ends li_yX10_ends oM (kX10_ends l E ad M22 0) (As := [.int 0]) rfl dX10_run_160 rfl hl.1 (Nat.le_of_ble_eq_true rfl) ⟨Nat.le_of_ble_eq_true rfl, Nat.le_of_ble_eq_true rfl⟩ ⟨Nat.le_of_ble_eq_true rfl, Nat.le_of_ble_eq_true rfl⟩) ⟨rfl, rfl⟩ (fun v24 M23 H locs hH => ?_)
                  exact ke_i C hH hr (Nat.le_refl _) (Nat.le_refl _) rfl dX10_run_163
                · refine kb_if_eq (tgt := 154) hx hb dX10_run_147 (by decide) (fun _ => ?_) (fun _ => ?_)
                  · refine lv_iconst (v := 1) hx hb dX10_run_154 (by decide) ?_
                    exact hK155_147 1 _ _ _ hH (lv_sub hl [0] rfl)
                  · refine lv_iconst (v := 2) hx hb dX10_run_150 (by decide) ?_
                    refine lv_goto (tgt := 155) hx hb dX10_run_151 (by decide) ?_
                    exact hK155_147 2 _ _ _ hH (lv_sub hl [0] rfl)
        · refine lv_aload_n hx hb dX10_run_105 rfl (lv_at hl 0 rfl) ?_
          refine lv_iconst (v := 1) hx hb dX10_run_106 (by decide) ?_
          refine kg_ib C hH (kc_V C hH w_6_102 lc_yX10_fails li_yX10_fails oM (kX10_fails l E ad M11 1) (As := [.int 1]) rfl dX10_run_107 rfl hl.1 (Nat.le_of_ble_eq_true rfl) ⟨Nat.le_of_ble_eq_true rfl, Nat.le_of_ble_eq_true rfl⟩ ⟨Nat.le_of_ble_eq_true rfl, Nat.le_of_ble_eq_true rfl⟩) ⟨rfl, rfl⟩ (fun v26 M25 H locs hH => ?_)
          exact ke_i C hH hr (Nat.le_refl _) (Nat.le_refl _) rfl dX10_run_110
      · refine kb_if_eq (tgt := 89) hx hb dX10_run_79 (by decide) (fun _ => ?_) (fun _ => ?_)
        · refine lv_iconst (v := (-1)) hx hb dX10_run_89 (by decide) ?_
          exact hK90_79 (-1) _ _ _ hH (lv_sub hl [0] rfl)
        · refine lv_aload_n hx hb dX10_run_82 rfl (lv_at hl 0 rfl) ?_
          refine k_get C hH fd_X10_276 oM (k_int (M := M8) (ad := ad) nM27) dX10_run_83 ?_
          refine lv_goto (tgt := 90) hx hb dX10_run_86 (by decide) ?_
          exact hK90_79 (M8.1 0 27) _ _ _ hH (lv_sub hl [0] rfl)
    · refine kb_if_ne (tgt := 66) hx hb dX10_run_52 (by decide) (fun _ => ?_) (fun _ => ?_)
      · refine lv_iconst (v := 1) hx hb dX10_run_66 (by decide) ?_
        refine lv_goto (tgt := 71) hx hb dX10_run_67 (by decide) ?_
        exact hK71_52 1 _ _ _ hH (lv_sub hl [0] rfl)
      · refine lv_aload_n hx hb dX10_run_55 rfl (lv_at hl 0 rfl) ?_
        refine k_get C hH fd_X10_276 oM (k_int (M := M6) (ad := ad) nM27) dX10_run_56 ?_
        refine lv_aload_n hx hb dX10_run_59 rfl (lv_at hl 0 rfl) ?_
        refine k_get C hH fd_X10_270 oM (k_int (M := M6) (ad := ad) nM26) dX10_run_60 ?_
        refine kb_icmp_ge (tgt := 70) hx hb dX10_run_63 (by decide) (fun _ => ?_) (fun _ => ?_)
        · refine lv_iconst (v := 0) hx hb dX10_run_70 (by decide) ?_
          exact hK71_52 0 _ _ _ hH (lv_sub hl [0] rfl)
        · refine lv_iconst (v := 1) hx hb dX10_run_66 (by decide) ?_
          refine lv_goto (tgt := 71) hx hb dX10_run_67 (by decide) ?_
          exact hK71_52 1 _ _ _ hH (lv_sub hl [0] rfl)
  · intro rec19 k19 hrec19 hk19 M5 H locs ls hH hl
    have hH : KH SM E ad sz M5 s.heap H locs := hH
    have hl : lv_has ls 2 [(0, .ref (ad 0))] := hl
    refine W_q fX10_run_L19_u ?_
    refine lv_aload_n hx hb dX10_run_19 rfl (lv_at hl 0 rfl) ?_
    refine lv_bipush (v := 59) hx hb dX10_run_20 (by decide) ?_
    refine lv_bipush (v := 59) hx hb dX10_run_22 (by decide) ?_
    refine kg_io C hH (kc_V C hH w_7_131 lc_yX10_isHere li_yX10_isHere oM (kX10_isHere l E ad M5 59 59) (As := [.int 59, .int 59]) rfl dX10_run_24 rfl hl.1 (Nat.le_of_ble_eq_true rfl) ⟨Nat.le_of_ble_eq_true rfl, Nat.le_of_ble_eq_true rfl⟩ ⟨Nat.le_of_ble_eq_true rfl, Nat.le_of_ble_eq_true rfl⟩) ⟨rfl, rfl⟩ (fun v27 H locs hH => ?_)
    refine kb_if_eq (tgt := 47) hx hb dX10_run_27 (by decide) (fun _ => ?_) (fun _ => ?_)
    · exact hk19 M5 _ _ _ hH (lv_sub hl [0] rfl)
    · refine lv_aload_n hx hb dX10_run_30 rfl (lv_at hl 0 rfl) ?_
      refine lv_dup hx hb dX10_run_31 rfl ?_
      refine k_get C hH fd_X10_276 oM (k_int (M := M5) (ad := ad) nM27) dX10_run_32 ?_
      refine lv_iconst (v := 1) hx hb dX10_run_35 (by decide) ?_
      refine lv_iadd hx hb dX10_run_36 ?_
      refine k_put1 C hH fd_X10_276 fw_X10_27 oM nM27 rfl rfl dX10_run_37 (fun M28 H locs hH => ?_)
      refine lv_aload_n hx hb dX10_run_40 rfl (lv_at hl 0 rfl) ?_
      refine kg_v C hH (kc_V C hH w_7_123 lc_yX10_readOrder li_yX10_readOrder oM (kX10_readOrder l E ad M28) (As := []) rfl dX10_run_41 rfl hl.1 (Nat.le_of_ble_eq_true rfl) ⟨Nat.le_of_ble_eq_true rfl, Nat.le_of_ble_eq_true rfl⟩ ⟨Nat.le_of_ble_eq_true rfl, Nat.le_of_ble_eq_true rfl⟩) ⟨rfl, rfl⟩ (fun M29 H locs hH => ?_)
      refine lv_goto (tgt := 19) hx hb dX10_run_44 (by decide) ?_
      exact hrec19 M29 _ _ _ hH (lv_sub hl [0] rfl)
def fX10_errorPosition (M : KS)  : Option (Int32 × KS) := nm (kset M 0 6 0) fun M1 => some ((M1.1 0 29), M1)
set_option maxHeartbeats 4000000 in
set_option maxRecDepth 100000 in
theorem kX10_errorPosition (l : Launch) (E : KE) (ad : Nat → Nat) (M : KS)  : CT l yX10_errorPosition cX10_errorPosition 1 (some .int) { frames := 0, cells := 0, slots := 0, locals := 0 } SM E ad [.ref (ad 0)] M (QI SM E ad) (fX10_errorPosition M) := by
  refine CT.ofW (by decide) (Nat.le_of_ble_eq_true rfl) (fun sz p e s m args below meth c C hr hH ls hl => ?_)
  have hx := C.1.1
  have hb := C.1.2.1
  have hl : lv_has ls 1 [(0, .ref (ad 0))] := hl
  unfold fX10_errorPosition
  refine lv_aload_n hx hb dX10_errorPosition_0 rfl (lv_at hl 0 rfl) ?_
  refine lv_iconst (v := 0) hx hb dX10_errorPosition_1 (by decide) ?_
  refine k_put1 C hH fd_X10_76 fw_X10_6 oM nM6 rfl rfl dX10_errorPosition_2 (fun M1 H locs hH => ?_)
  refine lv_aload_n hx hb dX10_errorPosition_5 rfl (lv_at hl 0 rfl) ?_
  refine k_get C hH fd_X10_69 oM (k_int (M := M1) (ad := ad) nM29) dX10_errorPosition_6 ?_
  exact ke_i C hH hr (Nat.le_refl _) (Nat.le_refl _) rfl dX10_errorPosition_9
def fX10_roundsOfAll_X4 (v3 : Int32) : Option (Int32) := some v3
theorem fX10_roundsOfAll_X4_u {v3 : Int32} : fX10_roundsOfAll_X4 v3 = some v3 := rfl
def fX10_roundsOfAll_L4 (M : KS) (rec4 : (Int32 × Int32) → Option (Int32)) (k4 : (Int32) → Option (Int32)) (x : Int32 × Int32) : Option (Int32) := match x with | (v1, v2) => (if 6 ≤ v2 then k4 v1 else if inb v2 6 then nm ((v1 + (M.1 10 v2.toNatClampNeg))) fun v4 => nm (v2 + 1) fun v5 => rec4 (v4, v5) else none)
theorem fX10_roundsOfAll_L4_u {M : KS} {rec4 : (Int32 × Int32) → Option (Int32)} {k4 : (Int32) → Option (Int32)} {v1 : Int32} {v2 : Int32} : fX10_roundsOfAll_L4 M rec4 k4 (v1, v2) = (if 6 ≤ v2 then k4 v1 else if inb v2 6 then nm ((v1 + (M.1 10 v2.toNatClampNeg))) fun v4 => nm (v2 + 1) fun v5 => rec4 (v4, v5) else none) := rfl
def fX10_roundsOfAll (M : KS)  : Option (Int32) := lp (fX10_roundsOfAll_L4 M) (fX10_roundsOfAll_X4) 1000000 (0, 0)
set_option maxHeartbeats 4000000 in
set_option maxRecDepth 100000 in
theorem kX10_roundsOfAll (l : Launch) (E : KE) (ad : Nat → Nat) (M : KS)  : CT l yX10_roundsOfAll cX10_roundsOfAll 3 (some .int) { frames := 0, cells := 0, slots := 0, locals := 0 } SM E ad [.ref (ad 0)] M (fun sz a => QI SM E ad sz (a, M)) (fX10_roundsOfAll M) := by
  refine CT.ofW (by decide) (Nat.le_of_ble_eq_true rfl) (fun sz p e s m args below meth c C hr hH ls hl => ?_)
  have hx := C.1.1
  have hb := C.1.2.1
  have hl : lv_has ls 3 [(0, .ref (ad 0))] := hl
  unfold fX10_roundsOfAll
  refine lv_iconst (v := 0) hx hb dX10_roundsOfAll_0 (by decide) ?_
  refine lv_istore_n (lv' := [(1, .int 0), (0, .ref (ad 0))]) hx hb dX10_roundsOfAll_1 rfl hl (by decide) rfl (fun ls hl => ?_)
  refine lv_iconst (v := 0) hx hb dX10_roundsOfAll_2 (by decide) ?_
  refine lv_istore_n (lv' := [(2, .int 0), (1, .int 0), (0, .ref (ad 0))]) hx hb dX10_roundsOfAll_3 rfl hl (by decide) rfl (fun ls hl => ?_)
  refine W_lp (fun (x : Int32 × Int32) H locs => KH SM E ad sz M s.heap H locs) (fun x ls => lv_has ls 3 [(0, .ref (ad 0)), (1, .int x.1), (2, .int x.2)]) (fun _ ls => F0 m 4 ls []) (fun (x : Int32) H locs => KH SM E ad sz M s.heap H locs) (fun x ls => lv_has ls 3 [(1, .int x)]) (fun _ ls => F0 m 25 ls []) ?_ ?_ hH (lv_sub hl [2, 1, 0] rfl)
  · intro v3 H locs ls hH hl
    have hH : KH SM E ad sz M s.heap H locs := hH
    have hl : lv_has ls 3 [(1, .int v3)] := hl
    refine W_q fX10_roundsOfAll_X4_u ?_
    refine lv_iload_n hx hb dX10_roundsOfAll_25 rfl (lv_at hl 0 rfl) ?_
    exact ke_i C hH hr (Nat.le_refl _) (Nat.le_refl _) rfl dX10_roundsOfAll_26
  · intro rec4 k4 hrec4 hk4 ⟨v1, v2⟩ H locs ls hH hl
    have hH : KH SM E ad sz M s.heap H locs := hH
    have hl : lv_has ls 3 [(0, .ref (ad 0)), (1, .int v1), (2, .int v2)] := hl
    refine W_q fX10_roundsOfAll_L4_u ?_
    refine lv_iload_n hx hb dX10_roundsOfAll_4 rfl (lv_at hl 2 rfl) ?_
    refine lv_bipush (v := 6) hx hb dX10_roundsOfAll_5 (by decide) ?_
    refine kb_icmp_ge (tgt := 25) hx hb dX10_roundsOfAll_7 (by decide) (fun _ => ?_) (fun _ => ?_)
    · exact hk4 v1 _ _ _ hH (lv_sub hl [1] rfl)
    · refine lv_iload_n hx hb dX10_roundsOfAll_10 rfl (lv_at hl 1 rfl) ?_
      refine lv_aload_n hx hb dX10_roundsOfAll_11 rfl (lv_at hl 0 rfl) ?_
      refine k_get C hH fd_X10_37 oM (k_ref (M := M) (ad := ad) rM15) dX10_roundsOfAll_12 ?_
      refine lv_iload_n hx hb dX10_roundsOfAll_15 rfl (lv_at hl 2 rfl) ?_
      refine k_iald C hH aM15 dX10_roundsOfAll_16 ?_
      refine lv_iadd hx hb dX10_roundsOfAll_17 ?_
      refine W_nmi (fun v4 => ?_)
      refine lv_istore_n (lv' := [(1, .int v4), (0, .ref (ad 0)), (2, .int v2)]) hx hb dX10_roundsOfAll_18 rfl hl (by decide) rfl (fun ls hl => ?_)
      refine W_nm (fun v5 ev5 => ?_)
      refine lv_iinc (v := v5) (lv' := [(2, .int v5), (1, .int v4), (0, .ref (ad 0))]) hx hb dX10_roundsOfAll_19 hl (k := 2) rfl (by rw [ev5]; rfl) (by decide) rfl (fun ls hl => ?_)
      refine lv_goto (tgt := 4) hx hb dX10_roundsOfAll_22 (by decide) ?_
      exact hrec4 (v4, v5) _ _ _ hH (lv_sub hl [2, 1, 0] rfl)
def fX10_depths_X8 (M1 : KS) (v4 : Int32) : Option (Int32 × KS) := some (v4, M1)
theorem fX10_depths_X8_u {M1 : KS} {v4 : Int32} : fX10_depths_X8 M1 v4 = some (v4, M1) := rfl
def fX10_depths_L8 (a1 : Int32) (M1 : KS) (rec8 : (Int32 × Int32) → Option (Int32 × KS)) (k8 : (Int32) → Option (Int32 × KS)) (x : Int32 × Int32) : Option (Int32 × KS) := match x with | (v2, v3) => (if 216 ≤ v3 then k8 v2 else (if a1 = 0 then if inb v3 216 then nm ((jmax v2 (M1.1 13 v3.toNatClampNeg))) fun v5 => nm (v3 + 1) fun v6 => rec8 (v5, v6) else none else if inb v3 216 then nm ((v2 + (M1.1 13 v3.toNatClampNeg))) fun v7 => nm (v3 + 1) fun v8 => rec8 (v7, v8) else none))
theorem fX10_depths_L8_u {a1 : Int32} {M1 : KS} {rec8 : (Int32 × Int32) → Option (Int32 × KS)} {k8 : (Int32) → Option (Int32 × KS)} {v2 : Int32} {v3 : Int32} : fX10_depths_L8 a1 M1 rec8 k8 (v2, v3) = (if 216 ≤ v3 then k8 v2 else (if a1 = 0 then if inb v3 216 then nm ((jmax v2 (M1.1 13 v3.toNatClampNeg))) fun v5 => nm (v3 + 1) fun v6 => rec8 (v5, v6) else none else if inb v3 216 then nm ((v2 + (M1.1 13 v3.toNatClampNeg))) fun v7 => nm (v3 + 1) fun v8 => rec8 (v7, v8) else none)) := rfl
def fX10_depths (M : KS) (a1 : Int32) : Option (Int32 × KS) := (fX10_deepens M).bind fun M1 => lp (fX10_depths_L8 a1 M1) (fX10_depths_X8 M1) 1000000 (0, 0)
set_option maxHeartbeats 4000000 in
set_option maxRecDepth 100000 in
theorem kX10_depths (l : Launch) (E : KE) (ad : Nat → Nat) (M : KS) (a1 : Int32) : CT l yX10_depths cX10_depths 4 (some .int) { frames := 5, cells := 0, slots := 0, locals := 115 } SM E ad [.ref (ad 0), .int a1] M (QI SM E ad) (fX10_depths M a1) := by
  refine CT.ofW (by decide) (Nat.le_of_ble_eq_true rfl) (fun sz p e s m args below meth c C hr hH ls hl => ?_)
  have hx := C.1.1
  have hb := C.1.2.1
  have hl : lv_has ls 4 [(0, .ref (ad 0)), (1, .int a1)] := hl
  unfold fX10_depths
  refine lv_aload_n hx hb dX10_depths_0 rfl (lv_at hl 0 rfl) ?_
  refine kg_v C hH (kc_V C hH w_6_206 lc_yX10_deepens li_yX10_deepens oM (kX10_deepens l E ad M) (As := []) rfl dX10_depths_1 rfl hl.1 (Nat.le_of_ble_eq_true rfl) ⟨Nat.le_of_ble_eq_true rfl, Nat.le_of_ble_eq_true rfl⟩ ⟨Nat.le_of_ble_eq_true rfl, Nat.le_of_ble_eq_true rfl⟩) ⟨rfl, rfl⟩ (fun M1 H locs hH => ?_)
  refine lv_iconst (v := 0) hx hb dX10_depths_4 (by decide) ?_
  refine lv_istore_n (lv' := [(2, .int 0), (0, .ref (ad 0)), (1, .int a1)]) hx hb dX10_depths_5 rfl hl (by decide) rfl (fun ls hl => ?_)
  refine lv_iconst (v := 0) hx hb dX10_depths_6 (by decide) ?_
  refine lv_istore_n (lv' := [(3, .int 0), (2, .int 0), (0, .ref (ad 0)), (1, .int a1)]) hx hb dX10_depths_7 rfl hl (by decide) rfl (fun ls hl => ?_)
  refine W_lp (fun (x : Int32 × Int32) H locs => KH SM E ad sz M1 s.heap H locs) (fun x ls => lv_has ls 4 [(0, .ref (ad 0)), (1, .int a1), (2, .int x.1), (3, .int x.2)]) (fun _ ls => F0 m 8 ls []) (fun (x : Int32) H locs => KH SM E ad sz M1 s.heap H locs) (fun x ls => lv_has ls 4 [(2, .int x)]) (fun _ ls => F0 m 47 ls []) ?_ ?_ hH (lv_sub hl [2, 3, 1, 0] rfl)
  · intro v4 H locs ls hH hl
    have hH : KH SM E ad sz M1 s.heap H locs := hH
    have hl : lv_has ls 4 [(2, .int v4)] := hl
    refine W_q fX10_depths_X8_u ?_
    refine lv_iload_n hx hb dX10_depths_47 rfl (lv_at hl 0 rfl) ?_
    exact ke_i C hH hr (Nat.le_refl _) (Nat.le_refl _) rfl dX10_depths_48
  · intro rec8 k8 hrec8 hk8 ⟨v2, v3⟩ H locs ls hH hl
    have hH : KH SM E ad sz M1 s.heap H locs := hH
    have hl : lv_has ls 4 [(0, .ref (ad 0)), (1, .int a1), (2, .int v2), (3, .int v3)] := hl
    refine W_q fX10_depths_L8_u ?_
    refine lv_iload_n hx hb dX10_depths_8 rfl (lv_at hl 3 rfl) ?_
    refine lv_sipush (v := 216) hx hb dX10_depths_9 (by decide) ?_
    refine kb_icmp_ge (tgt := 47) hx hb dX10_depths_12 (by decide) (fun _ => ?_) (fun _ => ?_)
    · exact hk8 v2 _ _ _ hH (lv_sub hl [2] rfl)
    · refine lv_iload_n hx hb dX10_depths_15 rfl (lv_at hl 1 rfl) ?_
      refine kb_if_eq (tgt := 30) hx hb dX10_depths_16 (by decide) (fun _ => ?_) (fun _ => ?_)
      · refine lv_iload_n hx hb dX10_depths_30 rfl (lv_at hl 2 rfl) ?_
        refine lv_aload_n hx hb dX10_depths_31 rfl (lv_at hl 0 rfl) ?_
        refine k_get C hH fd_X10_46 oM (k_ref (M := M1) (ad := ad) rM18) dX10_depths_32 ?_
        refine lv_iload_n hx hb dX10_depths_35 rfl (lv_at hl 3 rfl) ?_
        refine k_iald C hH aM18 dX10_depths_36 ?_
        refine k_mmax C w_6_151 hl.1 (Nat.le_of_ble_eq_true rfl) (Nat.le_of_ble_eq_true rfl) ⟨Nat.zero_le _, Nat.zero_le _⟩ dX10_depths_37 ?_
        refine W_nmi (fun v5 => ?_)
        refine lv_istore_n (lv' := [(2, .int v5), (0, .ref (ad 0)), (1, .int a1), (3, .int v3)]) hx hb dX10_depths_40 rfl hl (by decide) rfl (fun ls hl => ?_)
        refine W_nm (fun v6 ev6 => ?_)
        refine lv_iinc (v := v6) (lv' := [(3, .int v6), (2, .int v5), (0, .ref (ad 0)), (1, .int a1)]) hx hb dX10_depths_41 hl (k := 3) rfl (by rw [ev6]; rfl) (by decide) rfl (fun ls hl => ?_)
        refine lv_goto (tgt := 8) hx hb dX10_depths_44 (by decide) ?_
        exact hrec8 (v5, v6) _ _ _ hH (lv_sub hl [2, 3, 1, 0] rfl)
      · refine lv_iload_n hx hb dX10_depths_19 rfl (lv_at hl 2 rfl) ?_
        refine lv_aload_n hx hb dX10_depths_20 rfl (lv_at hl 0 rfl) ?_
        refine k_get C hH fd_X10_46 oM (k_ref (M := M1) (ad := ad) rM18) dX10_depths_21 ?_
        refine lv_iload_n hx hb dX10_depths_24 rfl (lv_at hl 3 rfl) ?_
        refine k_iald C hH aM18 dX10_depths_25 ?_
        refine lv_iadd hx hb dX10_depths_26 ?_
        refine lv_goto (tgt := 40) hx hb dX10_depths_27 (by decide) ?_
        refine W_nmi (fun v7 => ?_)
        refine lv_istore_n (lv' := [(2, .int v7), (0, .ref (ad 0)), (1, .int a1), (3, .int v3)]) hx hb dX10_depths_40 rfl hl (by decide) rfl (fun ls hl => ?_)
        refine W_nm (fun v8 ev8 => ?_)
        refine lv_iinc (v := v8) (lv' := [(3, .int v8), (2, .int v7), (0, .ref (ad 0)), (1, .int a1)]) hx hb dX10_depths_41 hl (k := 3) rfl (by rw [ev8]; rfl) (by decide) rfl (fun ls hl => ?_)
        refine lv_goto (tgt := 8) hx hb dX10_depths_44 (by decide) ?_
        exact hrec8 (v7, v8) _ _ _ hH (lv_sub hl [2, 3, 1, 0] rfl)
def fX10_greatestSize_X4 (x : Int32 × KS) : Option (Int32 × KS) := match x with | (v4, M5) => some (v4, M5)
theorem fX10_greatestSize_X4_u {v4 : Int32} {M5 : KS} : fX10_greatestSize_X4 (v4, M5) = some (v4, M5) := rfl
def fX10_greatestSize_L4 (rec4 : (Int32 × Int32 × KS) → Option (Int32 × KS)) (k4 : (Int32 × KS) → Option (Int32 × KS)) (x : Int32 × Int32 × KS) : Option (Int32 × KS) := match x with | (v1, v2, M3) => (if 216 ≤ v2 then k4 (v1, M3) else if inb v2 216 then (if 0 ≤ (M3.1 6 v2.toNatClampNeg) then bd2 (fX10_sizeOf M3 v2) fun v7 M6 => nm ((jmax v1 v7)) fun v8 => nm (v2 + 1) fun v9 => rec4 (v8, v9, M6) else nm (v2 + 1) fun v10 => rec4 (v1, v10, M3)) else none)
theorem fX10_greatestSize_L4_u {rec4 : (Int32 × Int32 × KS) → Option (Int32 × KS)} {k4 : (Int32 × KS) → Option (Int32 × KS)} {v1 : Int32} {v2 : Int32} {M3 : KS} : fX10_greatestSize_L4 rec4 k4 (v1, v2, M3) = (if 216 ≤ v2 then k4 (v1, M3) else if inb v2 216 then (if 0 ≤ (M3.1 6 v2.toNatClampNeg) then bd2 (fX10_sizeOf M3 v2) fun v7 M6 => nm ((jmax v1 v7)) fun v8 => nm (v2 + 1) fun v9 => rec4 (v8, v9, M6) else nm (v2 + 1) fun v10 => rec4 (v1, v10, M3)) else none) := rfl
def fX10_greatestSize (M : KS)  : Option (Int32 × KS) := lp (fX10_greatestSize_L4) (fX10_greatestSize_X4) 1000000 (0, 0, M)
set_option maxHeartbeats 4000000 in
set_option maxRecDepth 100000 in
theorem kX10_greatestSize (l : Launch) (E : KE) (ad : Nat → Nat) (M : KS)  : CT l yX10_greatestSize cX10_greatestSize 3 (some .int) { frames := 5, cells := 0, slots := 0, locals := 116 } SM E ad [.ref (ad 0)] M (QI SM E ad) (fX10_greatestSize M) := by
  refine CT.ofW (by decide) (Nat.le_of_ble_eq_true rfl) (fun sz p e s m args below meth c C hr hH ls hl => ?_)
  have hx := C.1.1
  have hb := C.1.2.1
  have hl : lv_has ls 3 [(0, .ref (ad 0))] := hl
  unfold fX10_greatestSize
  refine lv_iconst (v := 0) hx hb dX10_greatestSize_0 (by decide) ?_
  refine lv_istore_n (lv' := [(1, .int 0), (0, .ref (ad 0))]) hx hb dX10_greatestSize_1 rfl hl (by decide) rfl (fun ls hl => ?_)
  refine lv_iconst (v := 0) hx hb dX10_greatestSize_2 (by decide) ?_
  refine lv_istore_n (lv' := [(2, .int 0), (1, .int 0), (0, .ref (ad 0))]) hx hb dX10_greatestSize_3 rfl hl (by decide) rfl (fun ls hl => ?_)
  refine W_lp (fun (x : Int32 × Int32 × KS) H locs => KH SM E ad sz x.2.2 s.heap H locs) (fun x ls => lv_has ls 3 [(0, .ref (ad 0)), (1, .int x.1), (2, .int x.2.1)]) (fun _ ls => F0 m 4 ls []) (fun (x : Int32 × KS) H locs => KH SM E ad sz x.2 s.heap H locs) (fun x ls => lv_has ls 3 [(1, .int x.1)]) (fun _ ls => F0 m 40 ls []) ?_ ?_ hH (lv_sub hl [2, 1, 0] rfl)
  · intro ⟨v4, M5⟩ H locs ls hH hl
    have hH : KH SM E ad sz M5 s.heap H locs := hH
    have hl : lv_has ls 3 [(1, .int v4)] := hl
    refine W_q fX10_greatestSize_X4_u ?_
    refine lv_iload_n hx hb dX10_greatestSize_40 rfl (lv_at hl 0 rfl) ?_
    exact ke_i C hH hr (Nat.le_refl _) (Nat.le_refl _) rfl dX10_greatestSize_41
  · intro rec4 k4 hrec4 hk4 ⟨v1, v2, M3⟩ H locs ls hH hl
    have hH : KH SM E ad sz M3 s.heap H locs := hH
    have hl : lv_has ls 3 [(0, .ref (ad 0)), (1, .int v1), (2, .int v2)] := hl
    refine W_q fX10_greatestSize_L4_u ?_
    refine lv_iload_n hx hb dX10_greatestSize_4 rfl (lv_at hl 2 rfl) ?_
    refine lv_sipush (v := 216) hx hb dX10_greatestSize_5 (by decide) ?_
    refine kb_icmp_ge (tgt := 40) hx hb dX10_greatestSize_8 (by decide) (fun _ => ?_) (fun _ => ?_)
    · exact hk4 (v1, M3) _ _ _ hH (lv_sub hl [1] rfl)
    · refine lv_aload_n hx hb dX10_greatestSize_11 rfl (lv_at hl 0 rfl) ?_
      refine k_get C hH fd_X10_25 oM (k_ref (M := M3) (ad := ad) rM11) dX10_greatestSize_12 ?_
      refine lv_iload_n hx hb dX10_greatestSize_15 rfl (lv_at hl 2 rfl) ?_
      refine k_iald C hH aM11 dX10_greatestSize_16 ?_
      refine kb_if_ge (tgt := 24) hx hb dX10_greatestSize_17 (by decide) (fun _ => ?_) (fun _ => ?_)
      · refine lv_iload_n hx hb dX10_greatestSize_24 rfl (lv_at hl 1 rfl) ?_
        refine lv_aload_n hx hb dX10_greatestSize_25 rfl (lv_at hl 0 rfl) ?_
        refine lv_iload_n hx hb dX10_greatestSize_26 rfl (lv_at hl 2 rfl) ?_
        refine kg_ib C hH (kc_V C hH w_6_214 lc_yX10_sizeOf li_yX10_sizeOf oM (kX10_sizeOf l E ad M3 v2) (As := [.int v2]) rfl dX10_greatestSize_27 rfl hl.1 (Nat.le_of_ble_eq_true rfl) ⟨Nat.le_of_ble_eq_true rfl, Nat.le_of_ble_eq_true rfl⟩ ⟨Nat.le_of_ble_eq_true rfl, Nat.le_of_ble_eq_true rfl⟩) ⟨rfl, rfl⟩ (fun v7 M6 H locs hH => ?_)
        refine k_mmax C w_6_151 hl.1 (Nat.le_of_ble_eq_true rfl) (Nat.le_of_ble_eq_true rfl) ⟨Nat.zero_le _, Nat.zero_le _⟩ dX10_greatestSize_30 ?_
        refine W_nmi (fun v8 => ?_)
        refine lv_istore_n (lv' := [(1, .int v8), (0, .ref (ad 0)), (2, .int v2)]) hx hb dX10_greatestSize_33 rfl hl (by decide) rfl (fun ls hl => ?_)
        refine W_nm (fun v9 ev9 => ?_)
        refine lv_iinc (v := v9) (lv' := [(2, .int v9), (1, .int v8), (0, .ref (ad 0))]) hx hb dX10_greatestSize_34 hl (k := 2) rfl (by rw [ev9]; rfl) (by decide) rfl (fun ls hl => ?_)
        refine lv_goto (tgt := 4) hx hb dX10_greatestSize_37 (by decide) ?_
        exact hrec4 (v8, v9, M6) _ _ _ hH (lv_sub hl [2, 1, 0] rfl)
      · refine lv_iload_n hx hb dX10_greatestSize_20 rfl (lv_at hl 1 rfl) ?_
        refine lv_goto (tgt := 33) hx hb dX10_greatestSize_21 (by decide) ?_
        refine lv_istore_n (lv' := [(1, .int v1), (0, .ref (ad 0)), (2, .int v2)]) hx hb dX10_greatestSize_33 rfl hl (by decide) rfl (fun ls hl => ?_)
        refine W_nm (fun v10 ev10 => ?_)
        refine lv_iinc (v := v10) (lv' := [(2, .int v10), (1, .int v1), (0, .ref (ad 0))]) hx hb dX10_greatestSize_34 hl (k := 2) rfl (by rw [ev10]; rfl) (by decide) rfl (fun ls hl => ?_)
        refine lv_goto (tgt := 4) hx hb dX10_greatestSize_37 (by decide) ?_
        exact hrec4 (v1, v10, M3) _ _ _ hH (lv_sub hl [2, 1, 0] rfl)
def fX10_negatedMany_X4 (v3 : Int32) : Option (Int32) := some v3
theorem fX10_negatedMany_X4_u {v3 : Int32} : fX10_negatedMany_X4 v3 = some v3 := rfl
def fX10_negatedMany_L4 (M : KS) (rec4 : (Int32 × Int32) → Option (Int32)) (k4 : (Int32) → Option (Int32)) (x : Int32 × Int32) : Option (Int32) := match x with | (v1, v2) => if inb 216 257 then (if (M.1 1 (216 : Int32).toNatClampNeg) ≤ v2 then k4 v1 else (fX10_conditionMany M v2 1).bind fun v4 => nm ((v1 + v4)) fun v5 => nm (v2 + 1) fun v6 => rec4 (v5, v6)) else none
theorem fX10_negatedMany_L4_u {M : KS} {rec4 : (Int32 × Int32) → Option (Int32)} {k4 : (Int32) → Option (Int32)} {v1 : Int32} {v2 : Int32} : fX10_negatedMany_L4 M rec4 k4 (v1, v2) = if inb 216 257 then (if (M.1 1 (216 : Int32).toNatClampNeg) ≤ v2 then k4 v1 else (fX10_conditionMany M v2 1).bind fun v4 => nm ((v1 + v4)) fun v5 => nm (v2 + 1) fun v6 => rec4 (v5, v6)) else none := rfl
def fX10_negatedMany (M : KS)  : Option (Int32) := lp (fX10_negatedMany_L4 M) (fX10_negatedMany_X4) 1000000 (0, 0)
set_option maxHeartbeats 4000000 in
set_option maxRecDepth 100000 in
theorem kX10_negatedMany (l : Launch) (E : KE) (ad : Nat → Nat) (M : KS)  : CT l yX10_negatedMany cX10_negatedMany 3 (some .int) { frames := 2, cells := 0, slots := 0, locals := 47 } SM E ad [.ref (ad 0)] M (fun sz a => QI SM E ad sz (a, M)) (fX10_negatedMany M) := by
  refine CT.ofW (by decide) (Nat.le_of_ble_eq_true rfl) (fun sz p e s m args below meth c C hr hH ls hl => ?_)
  have hx := C.1.1
  have hb := C.1.2.1
  have hl : lv_has ls 3 [(0, .ref (ad 0))] := hl
  unfold fX10_negatedMany
  refine lv_iconst (v := 0) hx hb dX10_negatedMany_0 (by decide) ?_
  refine lv_istore_n (lv' := [(1, .int 0), (0, .ref (ad 0))]) hx hb dX10_negatedMany_1 rfl hl (by decide) rfl (fun ls hl => ?_)
  refine lv_iconst (v := 0) hx hb dX10_negatedMany_2 (by decide) ?_
  refine lv_istore_n (lv' := [(2, .int 0), (1, .int 0), (0, .ref (ad 0))]) hx hb dX10_negatedMany_3 rfl hl (by decide) rfl (fun ls hl => ?_)
  refine W_lp (fun (x : Int32 × Int32) H locs => KH SM E ad sz M s.heap H locs) (fun x ls => lv_has ls 3 [(0, .ref (ad 0)), (1, .int x.1), (2, .int x.2)]) (fun _ ls => F0 m 4 ls []) (fun (x : Int32) H locs => KH SM E ad sz M s.heap H locs) (fun x ls => lv_has ls 3 [(1, .int x)]) (fun _ ls => F0 m 31 ls []) ?_ ?_ hH (lv_sub hl [2, 1, 0] rfl)
  · intro v3 H locs ls hH hl
    have hH : KH SM E ad sz M s.heap H locs := hH
    have hl : lv_has ls 3 [(1, .int v3)] := hl
    refine W_q fX10_negatedMany_X4_u ?_
    refine lv_iload_n hx hb dX10_negatedMany_31 rfl (lv_at hl 0 rfl) ?_
    exact ke_i C hH hr (Nat.le_refl _) (Nat.le_refl _) rfl dX10_negatedMany_32
  · intro rec4 k4 hrec4 hk4 ⟨v1, v2⟩ H locs ls hH hl
    have hH : KH SM E ad sz M s.heap H locs := hH
    have hl : lv_has ls 3 [(0, .ref (ad 0)), (1, .int v1), (2, .int v2)] := hl
    refine W_q fX10_negatedMany_L4_u ?_
    refine lv_iload_n hx hb dX10_negatedMany_4 rfl (lv_at hl 2 rfl) ?_
    refine lv_aload_n hx hb dX10_negatedMany_5 rfl (lv_at hl 0 rfl) ?_
    refine k_get C hH fd_X10_9 oM (k_ref (M := M) (ad := ad) rM0) dX10_negatedMany_6 ?_
    refine lv_sipush (v := 216) hx hb dX10_negatedMany_9 (by decide) ?_
    refine k_iald C hH aM0 dX10_negatedMany_12 ?_
    refine kb_icmp_ge (tgt := 31) hx hb dX10_negatedMany_13 (by decide) (fun _ => ?_) (fun _ => ?_)
    · exact hk4 v1 _ _ _ hH (lv_sub hl [1] rfl)
    · refine lv_iload_n hx hb dX10_negatedMany_16 rfl (lv_at hl 1 rfl) ?_
      refine lv_aload_n hx hb dX10_negatedMany_17 rfl (lv_at hl 0 rfl) ?_
      refine lv_iload_n hx hb dX10_negatedMany_18 rfl (lv_at hl 2 rfl) ?_
      refine lv_iconst (v := 1) hx hb dX10_negatedMany_19 (by decide) ?_
      refine kg_io C hH (kc_V C hH w_7_54 lc_yX10_conditionMany li_yX10_conditionMany oM (kX10_conditionMany l E ad M v2 1) (As := [.int v2, .int 1]) rfl dX10_negatedMany_20 rfl hl.1 (Nat.le_of_ble_eq_true rfl) ⟨Nat.le_of_ble_eq_true rfl, Nat.le_of_ble_eq_true rfl⟩ ⟨Nat.le_of_ble_eq_true rfl, Nat.le_of_ble_eq_true rfl⟩) ⟨rfl, rfl⟩ (fun v4 H locs hH => ?_)
      refine lv_iadd hx hb dX10_negatedMany_23 ?_
      refine W_nmi (fun v5 => ?_)
      refine lv_istore_n (lv' := [(1, .int v5), (0, .ref (ad 0)), (2, .int v2)]) hx hb dX10_negatedMany_24 rfl hl (by decide) rfl (fun ls hl => ?_)
      refine W_nm (fun v6 ev6 => ?_)
      refine lv_iinc (v := v6) (lv' := [(2, .int v6), (1, .int v5), (0, .ref (ad 0))]) hx hb dX10_negatedMany_25 hl (k := 2) rfl (by rw [ev6]; rfl) (by decide) rfl (fun ls hl => ?_)
      refine lv_goto (tgt := 4) hx hb dX10_negatedMany_28 (by decide) ?_
      exact hrec4 (v5, v6) _ _ _ hH (lv_sub hl [2, 1, 0] rfl)
def fX10_account_J16_8 (M : KS) (a1 : Int32) (v1 : Int32) : Option (Int32 × KS) := nm (kset M 0 6 v1) fun M2 => (if (M2.1 0 6) ≤ 0 then (fX10_derives M2).bind fun M3 => (if a1 = 0 then (fX10_holding M3 (-1)).bind fun v4 => some (v4, M3) else (if a1 = 1 then (fX10_toldOf M3 (-1)).bind fun v5 => some (v5, M3) else (if a1 = 2 then if inb 216 257 then some ((M3.1 1 (216 : Int32).toNatClampNeg), M3) else none else (if a1 = 3 then (fX10_roundsOfAll M3).bind fun v6 => some (v6, M3) else (if a1 = 4 then (fX10_greatestStage M3 (-1)).bind fun v7 => some (v7, M3) else (if a1 = 5 then bd2 (fX10_depths M3 0) fun v9 M8 => some (v9, M8) else (if a1 = 6 then bd2 (fX10_greatestSize M3) fun v11 M10 => some (v11, M10) else (if a1 = 7 then (fX10_negatedMany M3).bind fun v12 => some (v12, M3) else (if a1 = 8 then some ((M3.1 0 26), M3) else some ((M3.1 0 5), M3)))))))))) else some (0, M2))
theorem fX10_account_J16_8_u {M : KS} {a1 : Int32} {v1 : Int32} : fX10_account_J16_8 M a1 v1 = nm (kset M 0 6 v1) fun M2 => (if (M2.1 0 6) ≤ 0 then (fX10_derives M2).bind fun M3 => (if a1 = 0 then (fX10_holding M3 (-1)).bind fun v4 => some (v4, M3) else (if a1 = 1 then (fX10_toldOf M3 (-1)).bind fun v5 => some (v5, M3) else (if a1 = 2 then if inb 216 257 then some ((M3.1 1 (216 : Int32).toNatClampNeg), M3) else none else (if a1 = 3 then (fX10_roundsOfAll M3).bind fun v6 => some (v6, M3) else (if a1 = 4 then (fX10_greatestStage M3 (-1)).bind fun v7 => some (v7, M3) else (if a1 = 5 then bd2 (fX10_depths M3 0) fun v9 M8 => some (v9, M8) else (if a1 = 6 then bd2 (fX10_greatestSize M3) fun v11 M10 => some (v11, M10) else (if a1 = 7 then (fX10_negatedMany M3).bind fun v12 => some (v12, M3) else (if a1 = 8 then some ((M3.1 0 26), M3) else some ((M3.1 0 5), M3)))))))))) else some (0, M2)) := rfl
def fX10_account (M : KS) (a1 : Int32) : Option (Int32 × KS) := jn (fX10_account_J16_8 M a1) (fun K16_8 => (if (fX10_in a1 0 9) = 0 then K16_8 1 else K16_8 0))
set_option maxHeartbeats 4000000 in
set_option maxRecDepth 100000 in
theorem kX10_account (l : Launch) (E : KE) (ad : Nat → Nat) (M : KS) (a1 : Int32) : CT l yX10_account cX10_account 2 (some .int) { frames := 7, cells := 0, slots := 0, locals := 170 } SM E ad [.ref (ad 0), .int a1] M (QI SM E ad) (fX10_account M a1) := by
  refine CT.ofW (by decide) (Nat.le_of_ble_eq_true rfl) (fun sz p e s m args below meth c C hr hH ls hl => ?_)
  have hx := C.1.1
  have hb := C.1.2.1
  have hl : lv_has ls 2 [(0, .ref (ad 0)), (1, .int a1)] := hl
  unfold fX10_account
  refine lv_aload_n hx hb dX10_account_0 rfl (lv_at hl 0 rfl) ?_
  refine lv_iload_n hx hb dX10_account_1 rfl (lv_at hl 1 rfl) ?_
  refine lv_iconst (v := 0) hx hb dX10_account_2 (by decide) ?_
  refine lv_bipush (v := 9) hx hb dX10_account_3 (by decide) ?_
  refine kg_ip C hH (kc_S C hH w_6_96 w_st_yX10_in rfl lc_yX10_in (kX10_in l E ad M a1 0 9) (As := [.int a1, .int 0, .int 9]) rfl dX10_account_5 rfl hl.1 (Nat.le_of_ble_eq_true rfl) ⟨Nat.le_of_ble_eq_true rfl, Nat.le_of_ble_eq_true rfl⟩ ⟨Nat.le_of_ble_eq_true rfl, Nat.le_of_ble_eq_true rfl⟩) ⟨rfl, rfl⟩ (fun H locs hH => ?_)
  refine W_jn (fun (x : Int32) H locs => KH SM E ad sz M s.heap H locs) (fun x ls => lv_has ls 2 [(0, .ref (ad 0)), (1, .int a1)]) (fun x ls => F0 m 16 ls [.int x, .ref (ad 0)]) ?_ (fun K16_8 hK16_8 => ?_)
  · intro v1 H locs ls hH hl
    have hH : KH SM E ad sz M s.heap H locs := hH
    have hl : lv_has ls 2 [(0, .ref (ad 0)), (1, .int a1)] := hl
    refine W_q fX10_account_J16_8_u ?_
    refine k_put1 C hH fd_X10_76 fw_X10_6 oM nM6 rfl rfl dX10_account_16 (fun M2 H locs hH => ?_)
    refine lv_aload_n hx hb dX10_account_19 rfl (lv_at hl 0 rfl) ?_
    refine k_get C hH fd_X10_76 oM (k_int (M := M2) (ad := ad) nM6) dX10_account_20 ?_
    refine kb_if_le (tgt := 28) hx hb dX10_account_23 (by decide) (fun _ => ?_) (fun _ => ?_)
    · refine lv_aload_n hx hb dX10_account_28 rfl (lv_at hl 0 rfl) ?_
      refine kg_v C hH (kc_V C hH w_6_121 lc_yX10_derives li_yX10_derives oM (kX10_derives l E ad M2) (As := []) rfl dX10_account_29 rfl hl.1 (Nat.le_of_ble_eq_true rfl) ⟨Nat.le_of_ble_eq_true rfl, Nat.le_of_ble_eq_true rfl⟩ ⟨Nat.le_of_ble_eq_true rfl, Nat.le_of_ble_eq_true rfl⟩) ⟨rfl, rfl⟩ (fun M3 H locs hH => ?_)
      refine lv_iload_n hx hb dX10_account_32 rfl (lv_at hl 1 rfl) ?_
      refine W_ite (fun hs0 => ?_) (fun hs0 => ?_)
      · refine lv_tableIn (tgt := 84) hx hb dX10_account_33 (by rw [hs0]; decide) (by rw [hs0]; decide) (by rw [hs0]; rfl) (by decide) ?_
        refine lv_aload_n hx hb dX10_account_84 rfl (lv_at hl 0 rfl) ?_
        refine lv_iconst (v := (-1)) hx hb dX10_account_85 (by decide) ?_
        refine kg_io C hH (kc_V C hH w_6_178 lc_yX10_holding li_yX10_holding oM (kX10_holding l E ad M3 (-1)) (As := [.int (-1)]) rfl dX10_account_86 rfl hl.1 (Nat.le_of_ble_eq_true rfl) ⟨Nat.le_of_ble_eq_true rfl, Nat.le_of_ble_eq_true rfl⟩ ⟨Nat.le_of_ble_eq_true rfl, Nat.le_of_ble_eq_true rfl⟩) ⟨rfl, rfl⟩ (fun v4 H locs hH => ?_)
        exact ke_i C hH hr (Nat.le_refl _) (Nat.le_refl _) rfl dX10_account_89
      · refine W_ite (fun hs1 => ?_) (fun hs1 => ?_)
        · refine lv_tableIn (tgt := 90) hx hb dX10_account_33 (by rw [hs1]; decide) (by rw [hs1]; decide) (by rw [hs1]; rfl) (by decide) ?_
          refine lv_aload_n hx hb dX10_account_90 rfl (lv_at hl 0 rfl) ?_
          refine lv_iconst (v := (-1)) hx hb dX10_account_91 (by decide) ?_
          refine kg_io C hH (kc_V C hH w_6_109 lc_yX10_toldOf li_yX10_toldOf oM (kX10_toldOf l E ad M3 (-1)) (As := [.int (-1)]) rfl dX10_account_92 rfl hl.1 (Nat.le_of_ble_eq_true rfl) ⟨Nat.le_of_ble_eq_true rfl, Nat.le_of_ble_eq_true rfl⟩ ⟨Nat.le_of_ble_eq_true rfl, Nat.le_of_ble_eq_true rfl⟩) ⟨rfl, rfl⟩ (fun v5 H locs hH => ?_)
          exact ke_i C hH hr (Nat.le_refl _) (Nat.le_refl _) rfl dX10_account_95
        · refine W_ite (fun hs2 => ?_) (fun hs2 => ?_)
          · refine lv_tableIn (tgt := 96) hx hb dX10_account_33 (by rw [hs2]; decide) (by rw [hs2]; decide) (by rw [hs2]; rfl) (by decide) ?_
            refine lv_aload_n hx hb dX10_account_96 rfl (lv_at hl 0 rfl) ?_
            refine k_get C hH fd_X10_9 oM (k_ref (M := M3) (ad := ad) rM0) dX10_account_97 ?_
            refine lv_sipush (v := 216) hx hb dX10_account_100 (by decide) ?_
            refine k_iald C hH aM0 dX10_account_103 ?_
            exact ke_i C hH hr (Nat.le_refl _) (Nat.le_refl _) rfl dX10_account_104
          · refine W_ite (fun hs3 => ?_) (fun hs3 => ?_)
            · refine lv_tableIn (tgt := 105) hx hb dX10_account_33 (by rw [hs3]; decide) (by rw [hs3]; decide) (by rw [hs3]; rfl) (by decide) ?_
              refine lv_aload_n hx hb dX10_account_105 rfl (lv_at hl 0 rfl) ?_
              refine kg_io C hH (kc_V C hH w_7_151 lc_yX10_roundsOfAll li_yX10_roundsOfAll oM (kX10_roundsOfAll l E ad M3) (As := []) rfl dX10_account_106 rfl hl.1 (Nat.le_of_ble_eq_true rfl) ⟨Nat.le_of_ble_eq_true rfl, Nat.le_of_ble_eq_true rfl⟩ ⟨Nat.le_of_ble_eq_true rfl, Nat.le_of_ble_eq_true rfl⟩) ⟨rfl, rfl⟩ (fun v6 H locs hH => ?_)
              exact ke_i C hH hr (Nat.le_refl _) (Nat.le_refl _) rfl dX10_account_109
            · refine W_ite (fun hs4 => ?_) (fun hs4 => ?_)
              · refine lv_tableIn (tgt := 110) hx hb dX10_account_33 (by rw [hs4]; decide) (by rw [hs4]; decide) (by rw [hs4]; rfl) (by decide) ?_
                refine lv_aload_n hx hb dX10_account_110 rfl (lv_at hl 0 rfl) ?_
                refine lv_iconst (v := (-1)) hx hb dX10_account_111 (by decide) ?_
                refine kg_io C hH (kc_V C hH w_7_6 lc_yX10_greatestStage li_yX10_greatestStage oM (kX10_greatestStage l E ad M3 (-1)) (As := [.int (-1)]) rfl dX10_account_112 rfl hl.1 (Nat.le_of_ble_eq_true rfl) ⟨Nat.le_of_ble_eq_true rfl, Nat.le_of_ble_eq_true rfl⟩ ⟨Nat.le_of_ble_eq_true rfl, Nat.le_of_ble_eq_true rfl⟩) ⟨rfl, rfl⟩ (fun v7 H locs hH => ?_)
                exact ke_i C hH hr (Nat.le_refl _) (Nat.le_refl _) rfl dX10_account_115
              · refine W_ite (fun hs5 => ?_) (fun hs5 => ?_)
                · refine lv_tableIn (tgt := 116) hx hb dX10_account_33 (by rw [hs5]; decide) (by rw [hs5]; decide) (by rw [hs5]; rfl) (by decide) ?_
                  refine lv_aload_n hx hb dX10_account_116 rfl (lv_at hl 0 rfl) ?_
                  refine lv_iconst (v := 0) hx hb dX10_account_117 (by decide) ?_
                  refine kg_ib C hH (kc_V C hH w_7_155 lc_yX10_depths li_yX10_depths oM (kX10_depths l E ad M3 0) (As := [.int 0]) rfl dX10_account_118 rfl hl.1 (Nat.le_of_ble_eq_true rfl) ⟨Nat.le_of_ble_eq_true rfl, Nat.le_of_ble_eq_true rfl⟩ ⟨Nat.le_of_ble_eq_true rfl, Nat.le_of_ble_eq_true rfl⟩) ⟨rfl, rfl⟩ (fun v9 M8 H locs hH => ?_)
                  exact ke_i C hH hr (Nat.le_refl _) (Nat.le_refl _) rfl dX10_account_121
                · refine W_ite (fun hs6 => ?_) (fun hs6 => ?_)
                  · refine lv_tableIn (tgt := 122) hx hb dX10_account_33 (by rw [hs6]; decide) (by rw [hs6]; decide) (by rw [hs6]; rfl) (by decide) ?_
                    refine lv_aload_n hx hb dX10_account_122 rfl (lv_at hl 0 rfl) ?_
                    refine kg_ib C hH (kc_V C hH w_7_159 lc_yX10_greatestSize li_yX10_greatestSize oM (kX10_greatestSize l E ad M3) (As := []) rfl dX10_account_123 rfl hl.1 (Nat.le_of_ble_eq_true rfl) ⟨Nat.le_of_ble_eq_true rfl, Nat.le_of_ble_eq_true rfl⟩ ⟨Nat.le_of_ble_eq_true rfl, Nat.le_of_ble_eq_true rfl⟩) ⟨rfl, rfl⟩ (fun v11 M10 H locs hH => ?_)
                    exact ke_i C hH hr (Nat.le_refl _) (Nat.le_refl _) rfl dX10_account_126
                  · refine W_ite (fun hs7 => ?_) (fun hs7 => ?_)
                    · refine lv_tableIn (tgt := 127) hx hb dX10_account_33 (by rw [hs7]; decide) (by rw [hs7]; decide) (by rw [hs7]; rfl) (by decide) ?_
                      refine lv_aload_n hx hb dX10_account_127 rfl (lv_at hl 0 rfl) ?_
                      refine kg_io C hH (kc_V C hH w_7_163 lc_yX10_negatedMany li_yX10_negatedMany oM (kX10_negatedMany l E ad M3) (As := []) rfl dX10_account_128 rfl hl.1 (Nat.le_of_ble_eq_true rfl) ⟨Nat.le_of_ble_eq_true rfl, Nat.le_of_ble_eq_true rfl⟩ ⟨Nat.le_of_ble_eq_true rfl, Nat.le_of_ble_eq_true rfl⟩) ⟨rfl, rfl⟩ (fun v12 H locs hH => ?_)
                      exact ke_i C hH hr (Nat.le_refl _) (Nat.le_refl _) rfl dX10_account_131
                    · refine W_ite (fun hs8 => ?_) (fun hs8 => ?_)
                      · refine lv_tableIn (tgt := 132) hx hb dX10_account_33 (by rw [hs8]; decide) (by rw [hs8]; decide) (by rw [hs8]; rfl) (by decide) ?_
                        refine lv_aload_n hx hb dX10_account_132 rfl (lv_at hl 0 rfl) ?_
                        refine k_get C hH fd_X10_270 oM (k_int (M := M3) (ad := ad) nM26) dX10_account_133 ?_
                        exact ke_i C hH hr (Nat.le_refl _) (Nat.le_refl _) rfl dX10_account_136
                      · refine lv_tableOut (tgt := 137) hx hb dX10_account_33 (k_tab9 hs0 hs1 hs2 hs3 hs4 hs5 hs6 hs7 hs8) (by decide) ?_
                        refine lv_aload_n hx hb dX10_account_137 rfl (lv_at hl 0 rfl) ?_
                        refine k_get C hH fd_X10_85 oM (k_int (M := M3) (ad := ad) nM5) dX10_account_138 ?_
                        exact ke_i C hH hr (Nat.le_refl _) (Nat.le_refl _) rfl dX10_account_141
    · refine lv_iconst (v := 0) hx hb dX10_account_26 (by decide) ?_
      exact ke_i C hH hr (Nat.le_refl _) (Nat.le_refl _) rfl dX10_account_27
  · refine kb_if_eq (tgt := 15) hx hb dX10_account_8 (by decide) (fun _ => ?_) (fun _ => ?_)
    · refine lv_iconst (v := 1) hx hb dX10_account_15 (by decide) ?_
      exact hK16_8 1 _ _ _ hH (lv_sub hl [0, 1] rfl)
    · refine lv_iconst (v := 0) hx hb dX10_account_11 (by decide) ?_
      refine lv_goto (tgt := 16) hx hb dX10_account_12 (by decide) ?_
      exact hK16_8 0 _ _ _ hH (lv_sub hl [0, 1] rfl)
def fX10_isWell (M : KS)  : Option (Int32 × KS) := nm (kset M 0 6 0) fun M1 => some (1, M1)
set_option maxHeartbeats 4000000 in
set_option maxRecDepth 100000 in
theorem kX10_isWell (l : Launch) (E : KE) (ad : Nat → Nat) (M : KS)  : CT l yX10_isWell cX10_isWell 1 (some .boolean) { frames := 0, cells := 0, slots := 0, locals := 0 } SM E ad [.ref (ad 0)] M (QI SM E ad) (fX10_isWell M) := by
  refine CT.ofW (by decide) (Nat.le_of_ble_eq_true rfl) (fun sz p e s m args below meth c C hr hH ls hl => ?_)
  have hx := C.1.1
  have hb := C.1.2.1
  have hl : lv_has ls 1 [(0, .ref (ad 0))] := hl
  unfold fX10_isWell
  refine lv_aload_n hx hb dX10_isWell_0 rfl (lv_at hl 0 rfl) ?_
  refine lv_iconst (v := 0) hx hb dX10_isWell_1 (by decide) ?_
  refine k_put1 C hH fd_X10_76 fw_X10_6 oM nM6 rfl rfl dX10_isWell_2 (fun M1 H locs hH => ?_)
  refine lv_iconst (v := 1) hx hb dX10_isWell_5 (by decide) ?_
  exact ke_z C hH hr (Nat.le_refl _) (Nat.le_refl _) rfl (Or.inr rfl) dX10_isWell_6
def fX10_meanDepth_J15_7 (v2 : Int32) (M1 : KS) (v3 : Int32) : Option (UInt64 × KS) := nm (kset M1 0 6 v3) fun M4 => (if (M4.1 0 6) ≤ 0 then bd2 (fX10_depths M4 1) fun v6 M5 => if nn64 (FP.ddiv (FP.i2d v6) (FP.i2d v2)) then some ((FP.ddiv (FP.i2d v6) (FP.i2d v2)), M5) else none else some (FP.dconst0, M4))
theorem fX10_meanDepth_J15_7_u {v2 : Int32} {M1 : KS} {v3 : Int32} : fX10_meanDepth_J15_7 v2 M1 v3 = nm (kset M1 0 6 v3) fun M4 => (if (M4.1 0 6) ≤ 0 then bd2 (fX10_depths M4 1) fun v6 M5 => if nn64 (FP.ddiv (FP.i2d v6) (FP.i2d v2)) then some ((FP.ddiv (FP.i2d v6) (FP.i2d v2)), M5) else none else some (FP.dconst0, M4)) := rfl
def fX10_meanDepth (M : KS)  : Option (UInt64 × KS) := bd2 (fX10_allHolding M) fun v2 M1 => jn (fX10_meanDepth_J15_7 v2 M1) (fun K15_7 => (if v2 = 0 then K15_7 1 else K15_7 0))
set_option maxHeartbeats 4000000 in
set_option maxRecDepth 100000 in
theorem kX10_meanDepth (l : Launch) (E : KE) (ad : Nat → Nat) (M : KS)  : CT l yX10_meanDepth cX10_meanDepth 2 (some .double) { frames := 8, cells := 0, slots := 0, locals := 190 } SM E ad [.ref (ad 0)] M (QD SM E ad) (fX10_meanDepth M) := by
  refine CT.ofW (by decide) (Nat.le_of_ble_eq_true rfl) (fun sz p e s m args below meth c C hr hH ls hl => ?_)
  have hx := C.1.1
  have hb := C.1.2.1
  have hl : lv_has ls 2 [(0, .ref (ad 0))] := hl
  unfold fX10_meanDepth
  refine lv_aload_n hx hb dX10_meanDepth_0 rfl (lv_at hl 0 rfl) ?_
  refine kg_ib C hH (kc_V C hH w_6_117 lc_yX10_allHolding li_yX10_allHolding oM (kX10_allHolding l E ad M) (As := []) rfl dX10_meanDepth_1 rfl hl.1 (Nat.le_of_ble_eq_true rfl) ⟨Nat.le_of_ble_eq_true rfl, Nat.le_of_ble_eq_true rfl⟩ ⟨Nat.le_of_ble_eq_true rfl, Nat.le_of_ble_eq_true rfl⟩) ⟨rfl, rfl⟩ (fun v2 M1 H locs hH => ?_)
  refine lv_istore_n (lv' := [(1, .int v2), (0, .ref (ad 0))]) hx hb dX10_meanDepth_4 rfl hl (by decide) rfl (fun ls hl => ?_)
  refine lv_aload_n hx hb dX10_meanDepth_5 rfl (lv_at hl 1 rfl) ?_
  refine lv_iload_n hx hb dX10_meanDepth_6 rfl (lv_at hl 0 rfl) ?_
  refine W_jn (fun (x : Int32) H locs => KH SM E ad sz M1 s.heap H locs) (fun x ls => lv_has ls 2 [(1, .int v2), (0, .ref (ad 0))]) (fun x ls => F0 m 15 ls [.int x, .ref (ad 0)]) ?_ (fun K15_7 hK15_7 => ?_)
  · intro v3 H locs ls hH hl
    have hH : KH SM E ad sz M1 s.heap H locs := hH
    have hl : lv_has ls 2 [(1, .int v2), (0, .ref (ad 0))] := hl
    refine W_q fX10_meanDepth_J15_7_u ?_
    refine k_put1 C hH fd_X10_76 fw_X10_6 oM nM6 rfl rfl dX10_meanDepth_15 (fun M4 H locs hH => ?_)
    refine lv_aload_n hx hb dX10_meanDepth_18 rfl (lv_at hl 1 rfl) ?_
    refine k_get C hH fd_X10_76 oM (k_int (M := M4) (ad := ad) nM6) dX10_meanDepth_19 ?_
    refine kb_if_le (tgt := 29) hx hb dX10_meanDepth_22 (by decide) (fun _ => ?_) (fun _ => ?_)
    · refine lv_aload_n hx hb dX10_meanDepth_29 rfl (lv_at hl 1 rfl) ?_
      refine lv_iconst (v := 1) hx hb dX10_meanDepth_30 (by decide) ?_
      refine kg_ib C hH (kc_V C hH w_7_155 lc_yX10_depths li_yX10_depths oM (kX10_depths l E ad M4 1) (As := [.int 1]) rfl dX10_meanDepth_31 rfl hl.1 (Nat.le_of_ble_eq_true rfl) ⟨Nat.le_of_ble_eq_true rfl, Nat.le_of_ble_eq_true rfl⟩ ⟨Nat.le_of_ble_eq_true rfl, Nat.le_of_ble_eq_true rfl⟩) ⟨rfl, rfl⟩ (fun v6 M5 H locs hH => ?_)
      refine lv_i2d hx hb dX10_meanDepth_34 ?_
      refine lv_iload_n hx hb dX10_meanDepth_35 rfl (lv_at hl 0 rfl) ?_
      refine lv_i2d hx hb dX10_meanDepth_36 ?_
      refine W_if (fun hn9 => ?_)
      refine lv_ddiv hx hb dX10_meanDepth_37 hn9 ?_
      exact ke_d C hH hr (Nat.le_refl _) (Nat.le_refl _) rfl dX10_meanDepth_38
    · refine lv_dconst0 hx hb dX10_meanDepth_25 ?_
      refine lv_goto (tgt := 38) hx hb dX10_meanDepth_26 (by decide) ?_
      exact ke_d C hH hr (Nat.le_refl _) (Nat.le_refl _) rfl dX10_meanDepth_38
  · refine kb_if_ne (tgt := 14) hx hb dX10_meanDepth_7 (by decide) (fun _ => ?_) (fun _ => ?_)
    · refine lv_iconst (v := 0) hx hb dX10_meanDepth_14 (by decide) ?_
      exact hK15_7 0 _ _ _ hH (lv_sub hl [0, 1] rfl)
    · refine lv_iconst (v := 1) hx hb dX10_meanDepth_10 (by decide) ?_
      refine lv_goto (tgt := 15) hx hb dX10_meanDepth_11 (by decide) ?_
      exact hK15_7 1 _ _ _ hH (lv_sub hl [0, 1] rfl)
def fX10_toldShare_J15_7 (v2 : Int32) (M1 : KS) (v3 : Int32) : Option (UInt32 × KS) := nm (kset M1 0 6 v3) fun M4 => (if (M4.1 0 6) ≤ 0 then (fX10_toldOf M4 (-1)).bind fun v5 => if nn32 (FP.fdiv (FP.i2f v5) (FP.i2f v2)) then some ((FP.fdiv (FP.i2f v5) (FP.i2f v2)), M4) else none else some (FP.fconst0, M4))
theorem fX10_toldShare_J15_7_u {v2 : Int32} {M1 : KS} {v3 : Int32} : fX10_toldShare_J15_7 v2 M1 v3 = nm (kset M1 0 6 v3) fun M4 => (if (M4.1 0 6) ≤ 0 then (fX10_toldOf M4 (-1)).bind fun v5 => if nn32 (FP.fdiv (FP.i2f v5) (FP.i2f v2)) then some ((FP.fdiv (FP.i2f v5) (FP.i2f v2)), M4) else none else some (FP.fconst0, M4)) := rfl
def fX10_toldShare (M : KS)  : Option (UInt32 × KS) := bd2 (fX10_allHolding M) fun v2 M1 => jn (fX10_toldShare_J15_7 v2 M1) (fun K15_7 => (if v2 = 0 then K15_7 1 else K15_7 0))
set_option maxHeartbeats 4000000 in
set_option maxRecDepth 100000 in
theorem kX10_toldShare (l : Launch) (E : KE) (ad : Nat → Nat) (M : KS)  : CT l yX10_toldShare cX10_toldShare 2 (some .float) { frames := 8, cells := 0, slots := 0, locals := 190 } SM E ad [.ref (ad 0)] M (QF SM E ad) (fX10_toldShare M) := by
  refine CT.ofW (by decide) (Nat.le_of_ble_eq_true rfl) (fun sz p e s m args below meth c C hr hH ls hl => ?_)
  have hx := C.1.1
  have hb := C.1.2.1
  have hl : lv_has ls 2 [(0, .ref (ad 0))] := hl
  unfold fX10_toldShare
  refine lv_aload_n hx hb dX10_toldShare_0 rfl (lv_at hl 0 rfl) ?_
  refine kg_ib C hH (kc_V C hH w_6_117 lc_yX10_allHolding li_yX10_allHolding oM (kX10_allHolding l E ad M) (As := []) rfl dX10_toldShare_1 rfl hl.1 (Nat.le_of_ble_eq_true rfl) ⟨Nat.le_of_ble_eq_true rfl, Nat.le_of_ble_eq_true rfl⟩ ⟨Nat.le_of_ble_eq_true rfl, Nat.le_of_ble_eq_true rfl⟩) ⟨rfl, rfl⟩ (fun v2 M1 H locs hH => ?_)
  refine lv_istore_n (lv' := [(1, .int v2), (0, .ref (ad 0))]) hx hb dX10_toldShare_4 rfl hl (by decide) rfl (fun ls hl => ?_)
  refine lv_aload_n hx hb dX10_toldShare_5 rfl (lv_at hl 1 rfl) ?_
  refine lv_iload_n hx hb dX10_toldShare_6 rfl (lv_at hl 0 rfl) ?_
  refine W_jn (fun (x : Int32) H locs => KH SM E ad sz M1 s.heap H locs) (fun x ls => lv_has ls 2 [(1, .int v2), (0, .ref (ad 0))]) (fun x ls => F0 m 15 ls [.int x, .ref (ad 0)]) ?_ (fun K15_7 hK15_7 => ?_)
  · intro v3 H locs ls hH hl
    have hH : KH SM E ad sz M1 s.heap H locs := hH
    have hl : lv_has ls 2 [(1, .int v2), (0, .ref (ad 0))] := hl
    refine W_q fX10_toldShare_J15_7_u ?_
    refine k_put1 C hH fd_X10_76 fw_X10_6 oM nM6 rfl rfl dX10_toldShare_15 (fun M4 H locs hH => ?_)
    refine lv_aload_n hx hb dX10_toldShare_18 rfl (lv_at hl 1 rfl) ?_
    refine k_get C hH fd_X10_76 oM (k_int (M := M4) (ad := ad) nM6) dX10_toldShare_19 ?_
    refine kb_if_le (tgt := 29) hx hb dX10_toldShare_22 (by decide) (fun _ => ?_) (fun _ => ?_)
    · refine lv_aload_n hx hb dX10_toldShare_29 rfl (lv_at hl 1 rfl) ?_
      refine lv_iconst (v := (-1)) hx hb dX10_toldShare_30 (by decide) ?_
      refine kg_io C hH (kc_V C hH w_6_109 lc_yX10_toldOf li_yX10_toldOf oM (kX10_toldOf l E ad M4 (-1)) (As := [.int (-1)]) rfl dX10_toldShare_31 rfl hl.1 (Nat.le_of_ble_eq_true rfl) ⟨Nat.le_of_ble_eq_true rfl, Nat.le_of_ble_eq_true rfl⟩ ⟨Nat.le_of_ble_eq_true rfl, Nat.le_of_ble_eq_true rfl⟩) ⟨rfl, rfl⟩ (fun v5 H locs hH => ?_)
      refine lv_i2f hx hb dX10_toldShare_34 ?_
      refine lv_iload_n hx hb dX10_toldShare_35 rfl (lv_at hl 0 rfl) ?_
      refine lv_i2f hx hb dX10_toldShare_36 ?_
      refine W_if (fun hn9 => ?_)
      refine lv_fdiv hx hb dX10_toldShare_37 hn9 ?_
      exact ke_f C hH hr (Nat.le_refl _) (Nat.le_refl _) rfl dX10_toldShare_38
    · refine lv_fconst0 hx hb dX10_toldShare_25 ?_
      refine lv_goto (tgt := 38) hx hb dX10_toldShare_26 (by decide) ?_
      exact ke_f C hH hr (Nat.le_refl _) (Nat.le_refl _) rfl dX10_toldShare_38
  · refine kb_if_ne (tgt := 14) hx hb dX10_toldShare_7 (by decide) (fun _ => ?_) (fun _ => ?_)
    · refine lv_iconst (v := 0) hx hb dX10_toldShare_14 (by decide) ?_
      exact hK15_7 0 _ _ _ hH (lv_sub hl [0, 1] rfl)
    · refine lv_iconst (v := 1) hx hb dX10_toldShare_10 (by decide) ?_
      refine lv_goto (tgt := 15) hx hb dX10_toldShare_11 (by decide) ?_
      exact hK15_7 1 _ _ _ hH (lv_sub hl [0, 1] rfl)
def fX10_undo_J13_5 (M : KS) (v1 : Int32) : Option (Int32 × KS) := nm (kset M 0 6 v1) fun M2 => (if (M2.1 0 6) ≤ 0 then nm (kset M2 0 5 ((M2.1 0 5) - 1)) fun M3 => if jcp (257 * (M3.1 0 5)) 2056 0 257 257 then nm (kcpy M3 4 1 (257 * (M3.1 0 5)) 0 257) fun M4 => some ((M4.1 0 5), M4) else none else some (0, M2))
theorem fX10_undo_J13_5_u {M : KS} {v1 : Int32} : fX10_undo_J13_5 M v1 = nm (kset M 0 6 v1) fun M2 => (if (M2.1 0 6) ≤ 0 then nm (kset M2 0 5 ((M2.1 0 5) - 1)) fun M3 => if jcp (257 * (M3.1 0 5)) 2056 0 257 257 then nm (kcpy M3 4 1 (257 * (M3.1 0 5)) 0 257) fun M4 => some ((M4.1 0 5), M4) else none else some (0, M2)) := rfl
def fX10_undo (M : KS)  : Option (Int32 × KS) := jn (fX10_undo_J13_5 M) (fun K13_5 => (if (M.1 0 5) = 0 then K13_5 1 else K13_5 0))
set_option maxHeartbeats 4000000 in
set_option maxRecDepth 100000 in
theorem kX10_undo (l : Launch) (E : KE) (ad : Nat → Nat) (M : KS)  : CT l yX10_undo cX10_undo 1 (some .int) { frames := 1, cells := 0, slots := 0, locals := 60 } SM E ad [.ref (ad 0)] M (QI SM E ad) (fX10_undo M) := by
  refine CT.ofW (by decide) (Nat.le_of_ble_eq_true rfl) (fun sz p e s m args below meth c C hr hH ls hl => ?_)
  have hx := C.1.1
  have hb := C.1.2.1
  have hl : lv_has ls 1 [(0, .ref (ad 0))] := hl
  unfold fX10_undo
  refine lv_aload_n hx hb dX10_undo_0 rfl (lv_at hl 0 rfl) ?_
  refine lv_aload_n hx hb dX10_undo_1 rfl (lv_at hl 0 rfl) ?_
  refine k_get C hH fd_X10_85 oM (k_int (M := M) (ad := ad) nM5) dX10_undo_2 ?_
  refine W_jn (fun (x : Int32) H locs => KH SM E ad sz M s.heap H locs) (fun x ls => lv_has ls 1 [(0, .ref (ad 0))]) (fun x ls => F0 m 13 ls [.int x, .ref (ad 0)]) ?_ (fun K13_5 hK13_5 => ?_)
  · intro v1 H locs ls hH hl
    have hH : KH SM E ad sz M s.heap H locs := hH
    have hl : lv_has ls 1 [(0, .ref (ad 0))] := hl
    refine W_q fX10_undo_J13_5_u ?_
    refine k_put1 C hH fd_X10_76 fw_X10_6 oM nM6 rfl rfl dX10_undo_13 (fun M2 H locs hH => ?_)
    refine lv_aload_n hx hb dX10_undo_16 rfl (lv_at hl 0 rfl) ?_
    refine k_get C hH fd_X10_76 oM (k_int (M := M2) (ad := ad) nM6) dX10_undo_17 ?_
    refine kb_if_le (tgt := 25) hx hb dX10_undo_20 (by decide) (fun _ => ?_) (fun _ => ?_)
    · refine lv_aload_n hx hb dX10_undo_25 rfl (lv_at hl 0 rfl) ?_
      refine lv_dup hx hb dX10_undo_26 rfl ?_
      refine k_get C hH fd_X10_85 oM (k_int (M := M2) (ad := ad) nM5) dX10_undo_27 ?_
      refine lv_iconst (v := 1) hx hb dX10_undo_30 (by decide) ?_
      refine lv_isub hx hb dX10_undo_31 ?_
      refine k_put1 C hH fd_X10_85 fw_X10_5 oM nM5 rfl rfl dX10_undo_32 (fun M3 H locs hH => ?_)
      refine lv_aload_n hx hb dX10_undo_35 rfl (lv_at hl 0 rfl) ?_
      refine k_get C hH fd_X10_19 oM (k_ref (M := M3) (ad := ad) rM4) dX10_undo_36 ?_
      refine lv_sipush (v := 257) hx hb dX10_undo_39 (by decide) ?_
      refine lv_aload_n hx hb dX10_undo_42 rfl (lv_at hl 0 rfl) ?_
      refine k_get C hH fd_X10_85 oM (k_int (M := M3) (ad := ad) nM5) dX10_undo_43 ?_
      refine lv_imul hx hb dX10_undo_46 ?_
      refine lv_aload_n hx hb dX10_undo_47 rfl (lv_at hl 0 rfl) ?_
      refine k_get C hH fd_X10_9 oM (k_ref (M := M3) (ad := ad) rM0) dX10_undo_48 ?_
      refine lv_iconst (v := 0) hx hb dX10_undo_51 (by decide) ?_
      refine lv_sipush (v := 257) hx hb dX10_undo_52 (by decide) ?_
      refine k_acopy C hH aM4 aM0 w_6_83 hl.1 (Nat.le_of_ble_eq_true rfl) (Nat.le_of_ble_eq_true rfl) dX10_undo_55 (fun M4 H locs hH => ?_)
      refine lv_aload_n hx hb dX10_undo_58 rfl (lv_at hl 0 rfl) ?_
      refine k_get C hH fd_X10_85 oM (k_int (M := M4) (ad := ad) nM5) dX10_undo_59 ?_
      exact ke_i C hH hr (Nat.le_refl _) (Nat.le_refl _) rfl dX10_undo_62
    · refine lv_iconst (v := 0) hx hb dX10_undo_23 (by decide) ?_
      exact ke_i C hH hr (Nat.le_refl _) (Nat.le_refl _) rfl dX10_undo_24
  · refine kb_if_ne (tgt := 12) hx hb dX10_undo_5 (by decide) (fun _ => ?_) (fun _ => ?_)
    · refine lv_iconst (v := 0) hx hb dX10_undo_12 (by decide) ?_
      exact hK13_5 0 _ _ _ hH (lv_sub hl [0] rfl)
    · refine lv_iconst (v := 1) hx hb dX10_undo_8 (by decide) ?_
      refine lv_goto (tgt := 13) hx hb dX10_undo_9 (by decide) ?_
      exact hK13_5 1 _ _ _ hH (lv_sub hl [0] rfl)
def fX10_save (M : KS)  : Option (Int32 × KS) := nm (kset M 0 6 0) fun M1 => if jcp 0 257 0 257 257 then nm (kcpy M1 1 3 0 0 257) fun M2 => nm (kset M2 0 3 1) fun M3 => (fX10_toldOf M3 (-1)).bind fun v4 => some (v4, M3) else none
set_option maxHeartbeats 4000000 in
set_option maxRecDepth 100000 in
theorem kX10_save (l : Launch) (E : KE) (ad : Nat → Nat) (M : KS)  : CT l yX10_save cX10_save 1 (some .int) { frames := 1, cells := 0, slots := 0, locals := 60 } SM E ad [.ref (ad 0)] M (QI SM E ad) (fX10_save M) := by
  refine CT.ofW (by decide) (Nat.le_of_ble_eq_true rfl) (fun sz p e s m args below meth c C hr hH ls hl => ?_)
  have hx := C.1.1
  have hb := C.1.2.1
  have hl : lv_has ls 1 [(0, .ref (ad 0))] := hl
  unfold fX10_save
  refine lv_aload_n hx hb dX10_save_0 rfl (lv_at hl 0 rfl) ?_
  refine lv_iconst (v := 0) hx hb dX10_save_1 (by decide) ?_
  refine k_put1 C hH fd_X10_76 fw_X10_6 oM nM6 rfl rfl dX10_save_2 (fun M1 H locs hH => ?_)
  refine lv_aload_n hx hb dX10_save_5 rfl (lv_at hl 0 rfl) ?_
  refine k_get C hH fd_X10_9 oM (k_ref (M := M1) (ad := ad) rM0) dX10_save_6 ?_
  refine lv_iconst (v := 0) hx hb dX10_save_9 (by decide) ?_
  refine lv_aload_n hx hb dX10_save_10 rfl (lv_at hl 0 rfl) ?_
  refine k_get C hH fd_X10_16 oM (k_ref (M := M1) (ad := ad) rM2) dX10_save_11 ?_
  refine lv_iconst (v := 0) hx hb dX10_save_14 (by decide) ?_
  refine lv_sipush (v := 257) hx hb dX10_save_15 (by decide) ?_
  refine k_acopy C hH aM0 aM2 w_6_83 hl.1 (Nat.le_of_ble_eq_true rfl) (Nat.le_of_ble_eq_true rfl) dX10_save_18 (fun M2 H locs hH => ?_)
  refine lv_aload_n hx hb dX10_save_21 rfl (lv_at hl 0 rfl) ?_
  refine lv_iconst (v := 1) hx hb dX10_save_22 (by decide) ?_
  refine k_put1 C hH fd_X10_312 fw_X10_3 oM nM3 rfl rfl dX10_save_23 (fun M3 H locs hH => ?_)
  refine lv_aload_n hx hb dX10_save_26 rfl (lv_at hl 0 rfl) ?_
  refine lv_iconst (v := (-1)) hx hb dX10_save_27 (by decide) ?_
  refine kg_io C hH (kc_V C hH w_6_109 lc_yX10_toldOf li_yX10_toldOf oM (kX10_toldOf l E ad M3 (-1)) (As := [.int (-1)]) rfl dX10_save_28 rfl hl.1 (Nat.le_of_ble_eq_true rfl) ⟨Nat.le_of_ble_eq_true rfl, Nat.le_of_ble_eq_true rfl⟩ ⟨Nat.le_of_ble_eq_true rfl, Nat.le_of_ble_eq_true rfl⟩) ⟨rfl, rfl⟩ (fun v4 H locs hH => ?_)
  exact ke_i C hH hr (Nat.le_refl _) (Nat.le_refl _) rfl dX10_save_31
def fX10_restore_J13_5 (M : KS) (v1 : Int32) : Option (Int32 × KS) := nm (kset M 0 6 v1) fun M2 => (if (M2.1 0 6) ≤ 0 then if jcp 0 257 0 257 257 then nm (kcpy M2 3 1 0 0 257) fun M3 => nm (kset M3 0 5 0) fun M4 => (fX10_toldOf M4 (-1)).bind fun v5 => some (v5, M4) else none else some (0, M2))
theorem fX10_restore_J13_5_u {M : KS} {v1 : Int32} : fX10_restore_J13_5 M v1 = nm (kset M 0 6 v1) fun M2 => (if (M2.1 0 6) ≤ 0 then if jcp 0 257 0 257 257 then nm (kcpy M2 3 1 0 0 257) fun M3 => nm (kset M3 0 5 0) fun M4 => (fX10_toldOf M4 (-1)).bind fun v5 => some (v5, M4) else none else some (0, M2)) := rfl
def fX10_restore (M : KS)  : Option (Int32 × KS) := jn (fX10_restore_J13_5 M) (fun K13_5 => (if (M.1 0 3) = 0 then K13_5 1 else K13_5 0))
set_option maxHeartbeats 4000000 in
set_option maxRecDepth 100000 in
theorem kX10_restore (l : Launch) (E : KE) (ad : Nat → Nat) (M : KS)  : CT l yX10_restore cX10_restore 1 (some .int) { frames := 1, cells := 0, slots := 0, locals := 60 } SM E ad [.ref (ad 0)] M (QI SM E ad) (fX10_restore M) := by
  refine CT.ofW (by decide) (Nat.le_of_ble_eq_true rfl) (fun sz p e s m args below meth c C hr hH ls hl => ?_)
  have hx := C.1.1
  have hb := C.1.2.1
  have hl : lv_has ls 1 [(0, .ref (ad 0))] := hl
  unfold fX10_restore
  refine lv_aload_n hx hb dX10_restore_0 rfl (lv_at hl 0 rfl) ?_
  refine lv_aload_n hx hb dX10_restore_1 rfl (lv_at hl 0 rfl) ?_
  refine k_get C hH fd_X10_312 oM (k_int (M := M) (ad := ad) nM3) dX10_restore_2 ?_
  refine W_jn (fun (x : Int32) H locs => KH SM E ad sz M s.heap H locs) (fun x ls => lv_has ls 1 [(0, .ref (ad 0))]) (fun x ls => F0 m 13 ls [.int x, .ref (ad 0)]) ?_ (fun K13_5 hK13_5 => ?_)
  · intro v1 H locs ls hH hl
    have hH : KH SM E ad sz M s.heap H locs := hH
    have hl : lv_has ls 1 [(0, .ref (ad 0))] := hl
    refine W_q fX10_restore_J13_5_u ?_
    refine k_put1 C hH fd_X10_76 fw_X10_6 oM nM6 rfl rfl dX10_restore_13 (fun M2 H locs hH => ?_)
    refine lv_aload_n hx hb dX10_restore_16 rfl (lv_at hl 0 rfl) ?_
    refine k_get C hH fd_X10_76 oM (k_int (M := M2) (ad := ad) nM6) dX10_restore_17 ?_
    refine kb_if_le (tgt := 25) hx hb dX10_restore_20 (by decide) (fun _ => ?_) (fun _ => ?_)
    · refine lv_aload_n hx hb dX10_restore_25 rfl (lv_at hl 0 rfl) ?_
      refine k_get C hH fd_X10_16 oM (k_ref (M := M2) (ad := ad) rM2) dX10_restore_26 ?_
      refine lv_iconst (v := 0) hx hb dX10_restore_29 (by decide) ?_
      refine lv_aload_n hx hb dX10_restore_30 rfl (lv_at hl 0 rfl) ?_
      refine k_get C hH fd_X10_9 oM (k_ref (M := M2) (ad := ad) rM0) dX10_restore_31 ?_
      refine lv_iconst (v := 0) hx hb dX10_restore_34 (by decide) ?_
      refine lv_sipush (v := 257) hx hb dX10_restore_35 (by decide) ?_
      refine k_acopy C hH aM2 aM0 w_6_83 hl.1 (Nat.le_of_ble_eq_true rfl) (Nat.le_of_ble_eq_true rfl) dX10_restore_38 (fun M3 H locs hH => ?_)
      refine lv_aload_n hx hb dX10_restore_41 rfl (lv_at hl 0 rfl) ?_
      refine lv_iconst (v := 0) hx hb dX10_restore_42 (by decide) ?_
      refine k_put1 C hH fd_X10_85 fw_X10_5 oM nM5 rfl rfl dX10_restore_43 (fun M4 H locs hH => ?_)
      refine lv_aload_n hx hb dX10_restore_46 rfl (lv_at hl 0 rfl) ?_
      refine lv_iconst (v := (-1)) hx hb dX10_restore_47 (by decide) ?_
      refine kg_io C hH (kc_V C hH w_6_109 lc_yX10_toldOf li_yX10_toldOf oM (kX10_toldOf l E ad M4 (-1)) (As := [.int (-1)]) rfl dX10_restore_48 rfl hl.1 (Nat.le_of_ble_eq_true rfl) ⟨Nat.le_of_ble_eq_true rfl, Nat.le_of_ble_eq_true rfl⟩ ⟨Nat.le_of_ble_eq_true rfl, Nat.le_of_ble_eq_true rfl⟩) ⟨rfl, rfl⟩ (fun v5 H locs hH => ?_)
      exact ke_i C hH hr (Nat.le_refl _) (Nat.le_refl _) rfl dX10_restore_51
    · refine lv_iconst (v := 0) hx hb dX10_restore_23 (by decide) ?_
      exact ke_i C hH hr (Nat.le_refl _) (Nat.le_refl _) rfl dX10_restore_24
  · refine kb_if_eq (tgt := 12) hx hb dX10_restore_5 (by decide) (fun _ => ?_) (fun _ => ?_)
    · refine lv_iconst (v := 1) hx hb dX10_restore_12 (by decide) ?_
      exact hK13_5 1 _ _ _ hH (lv_sub hl [0] rfl)
    · refine lv_iconst (v := 0) hx hb dX10_restore_8 (by decide) ?_
      refine lv_goto (tgt := 13) hx hb dX10_restore_9 (by decide) ?_
      exact hK13_5 0 _ _ _ hH (lv_sub hl [0] rfl)
