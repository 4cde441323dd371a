def fX10_twice_X16 (x : Int32 × Int32 × KS) : Option (Int32 × KS) := match x with | (v5, v6, M7) => (if v5 = 0 then some (0, M7) else (if v6 = 0 then some (0, M7) else some (1, M7)))
theorem fX10_twice_X16_u {v5 : Int32} {v6 : Int32} {M7 : KS} : fX10_twice_X16 (v5, v6, M7) = (if v5 = 0 then some (0, M7) else (if v6 = 0 then some (0, M7) else some (1, M7))) := rfl
def fX10_twice_J70_57 (v2 : Int32) (v3 : Int32) (rec16 : (Int32 × Int32 × Int32 × KS) → Option (Int32 × KS)) (v8 : Int32) (v9 : Int32) (M10 : KS) (v11 : Int32) : Option (Int32 × KS) := (if v2 = 0 then (if v9 = 0 then nm (v3 + 1) fun v13 => rec16 (v11, 0, v13, M10) else (if 0 ≤ v8 then nm (v3 + 1) fun v14 => rec16 (v11, 0, v14, M10) else nm (v3 + 1) fun v15 => rec16 (v11, 1, v15, M10))) else nm (v3 + 1) fun v12 => rec16 (v11, 1, v12, M10))
theorem fX10_twice_J70_57_u {v2 : Int32} {v3 : Int32} {rec16 : (Int32 × Int32 × Int32 × KS) → Option (Int32 × KS)} {v8 : Int32} {v9 : Int32} {M10 : KS} {v11 : Int32} : fX10_twice_J70_57 v2 v3 rec16 v8 v9 M10 v11 = (if v2 = 0 then (if v9 = 0 then nm (v3 + 1) fun v13 => rec16 (v11, 0, v13, M10) else (if 0 ≤ v8 then nm (v3 + 1) fun v14 => rec16 (v11, 0, v14, M10) else nm (v3 + 1) fun v15 => rec16 (v11, 1, v15, M10))) else nm (v3 + 1) fun v12 => rec16 (v11, 1, v12, M10)) := rfl
def fX10_twice_J54_32 (v1 : Int32) (v2 : Int32) (v3 : Int32) (rec16 : (Int32 × Int32 × Int32 × KS) → Option (Int32 × KS)) (v8 : Int32) (x : Int32 × KS) : Option (Int32 × KS) := match x with | (v9, M10) => jn (fX10_twice_J70_57 v2 v3 rec16 v8 v9 M10) (fun K70_57 => (if v1 = 0 then (if v9 = 0 then K70_57 0 else K70_57 1) else K70_57 1))
theorem fX10_twice_J54_32_u {v1 : Int32} {v2 : Int32} {v3 : Int32} {rec16 : (Int32 × Int32 × Int32 × KS) → Option (Int32 × KS)} {v8 : Int32} {v9 : Int32} {M10 : KS} : fX10_twice_J54_32 v1 v2 v3 rec16 v8 (v9, M10) = jn (fX10_twice_J70_57 v2 v3 rec16 v8 v9 M10) (fun K70_57 => (if v1 = 0 then (if v9 = 0 then K70_57 0 else K70_57 1) else K70_57 1)) := rfl
def fX10_twice_L16 (a1 : Int32) (f2 : Nat → Int32) (rec16 : (Int32 × Int32 × Int32 × KS) → Option (Int32 × KS)) (k16 : (Int32 × Int32 × KS) → Option (Int32 × KS)) (x : Int32 × Int32 × Int32 × KS) : Option (Int32 × KS) := match x with | (v1, v2, v3, M4) => (if 3 ≤ v3 then k16 (v1, v2, M4) else if inb v3 3 then nm ((f2 v3.toNatClampNeg)) fun v8 => jn (fX10_twice_J54_32 v1 v2 v3 rec16 v8) (fun K54_32 => (if v8 = 0 then K54_32 (0, M4) else bd2 (fX10_reaches M4 a1 (fX10_relationIn v8) 0) fun v17 M16 => (if v17 = 0 then K54_32 (0, M16) else K54_32 (1, M16)))) else none)
theorem fX10_twice_L16_u {a1 : Int32} {f2 : Nat → Int32} {rec16 : (Int32 × Int32 × Int32 × KS) → Option (Int32 × KS)} {k16 : (Int32 × Int32 × KS) → Option (Int32 × KS)} {v1 : Int32} {v2 : Int32} {v3 : Int32} {M4 : KS} : fX10_twice_L16 a1 f2 rec16 k16 (v1, v2, v3, M4) = (if 3 ≤ v3 then k16 (v1, v2, M4) else if inb v3 3 then nm ((f2 v3.toNatClampNeg)) fun v8 => jn (fX10_twice_J54_32 v1 v2 v3 rec16 v8) (fun K54_32 => (if v8 = 0 then K54_32 (0, M4) else bd2 (fX10_reaches M4 a1 (fX10_relationIn v8) 0) fun v17 M16 => (if v17 = 0 then K54_32 (0, M16) else K54_32 (1, M16)))) else none) := rfl
def fX10_twice (M : KS) (a1 : Int32) (f2 : Nat → Int32) : Option (Int32 × KS) := lp (fX10_twice_L16 a1 f2) (fX10_twice_X16) 1000000 (0, 0, 0, M)
set_option maxHeartbeats 4000000 in
set_option maxRecDepth 100000 in
theorem kX10_twice (l : Launch) (E : KE) (ad : Nat → Nat) (M : KS) (a1 : Int32) (q2 : Nat) (f2 : Nat → Int32) : CY q2 f2 l yX10_twice cX10_twice 10 (some .boolean) { frames := 3, cells := 0, slots := 0, locals := 72 } SM E ad [.ref (ad 0), .int a1, .ref q2] M (QI SM E ad) (fX10_twice M a1 f2) := by
  refine CY.ofW (by decide) (Nat.le_of_ble_eq_true rfl) (fun sz p e s m args below meth c C hX9 hq9 hr hH ls hl => ?_)
  have hx := C.1.1
  have hb := C.1.2.1
  have hl : lv_has ls 10 [(0, .ref (ad 0)), (1, .int a1), (2, .ref q2)] := hl
  unfold fX10_twice
  refine lv_iconst (v := 0) hx hb dX10_twice_0 (by decide) ?_
  refine lv_istore_n (lv' := [(3, .int 0), (0, .ref (ad 0)), (1, .int a1), (2, .ref q2)]) hx hb dX10_twice_1 rfl hl (by decide) rfl (fun ls hl => ?_)
  refine lv_iconst (v := 0) hx hb dX10_twice_2 (by decide) ?_
  refine lv_istore (lv' := [(4, .int 0), (3, .int 0), (0, .ref (ad 0)), (1, .int a1), (2, .ref q2)]) hx hb dX10_twice_3 hl (by decide) rfl (fun ls hl => ?_)
  refine lv_aload_n hx hb dX10_twice_5 rfl (lv_at hl 4 rfl) ?_
  refine lv_astore (lv' := [(5, .ref q2), (4, .int 0), (3, .int 0), (0, .ref (ad 0)), (1, .int a1), (2, .ref q2)]) hx hb dX10_twice_6 hl (by decide) rfl (fun ls hl => ?_)
  refine lv_aload hx hb dX10_twice_8 (lv_at hl 0 rfl) ?_
  refine k_xlen C hH hX9 hq9 dX10_twice_10 ?_
  refine lv_istore (lv' := [(6, .int 3), (5, .ref q2), (4, .int 0), (3, .int 0), (0, .ref (ad 0)), (1, .int a1), (2, .ref q2)]) hx hb dX10_twice_11 hl (by decide) rfl (fun ls hl => ?_)
  refine lv_iconst (v := 0) hx hb dX10_twice_13 (by decide) ?_
  refine lv_istore (lv' := [(7, .int 0), (6, .int 3), (5, .ref q2), (4, .int 0), (3, .int 0), (0, .ref (ad 0)), (1, .int a1), (2, .ref q2)]) hx hb dX10_twice_14 hl (by decide) rfl (fun ls hl => ?_)
  refine W_lp (fun (x : Int32 × Int32 × Int32 × KS) H locs => KH SM E ad sz x.2.2.2 s.heap H locs) (fun x ls => lv_has ls 10 [(6, .int 3), (5, .ref q2), (0, .ref (ad 0)), (1, .int a1), (3, .int x.1), (4, .int x.2.1), (7, .int x.2.2.1)]) (fun _ ls => F0 m 16 ls []) (fun (x : Int32 × Int32 × KS) H locs => KH SM E ad sz x.2.2 s.heap H locs) (fun x ls => lv_has ls 10 [(3, .int x.1), (4, .int x.2.1)]) (fun _ ls => F0 m 99 ls []) ?_ ?_ hH (lv_sub hl [1, 2, 5, 6, 4, 3, 0] rfl)
  · intro ⟨v5, v6, M7⟩ H locs ls hH hl
    have hH : KH SM E ad sz M7 s.heap H locs := hH
    have hl : lv_has ls 10 [(3, .int v5), (4, .int v6)] := hl
    refine W_q fX10_twice_X16_u ?_
    refine lv_iload_n hx hb dX10_twice_99 rfl (lv_at hl 0 rfl) ?_
    refine kb_if_eq (tgt := 112) hx hb dX10_twice_100 (by decide) (fun _ => ?_) (fun _ => ?_)
    · refine lv_iconst (v := 0) hx hb dX10_twice_112 (by decide) ?_
      exact ke_z C hH hr (Nat.le_refl _) (Nat.le_refl _) rfl (Or.inl rfl) dX10_twice_113
    · refine lv_iload hx hb dX10_twice_103 (lv_at hl 1 rfl) ?_
      refine kb_if_eq (tgt := 112) hx hb dX10_twice_105 (by decide) (fun _ => ?_) (fun _ => ?_)
      · refine lv_iconst (v := 0) hx hb dX10_twice_112 (by decide) ?_
        exact ke_z C hH hr (Nat.le_refl _) (Nat.le_refl _) rfl (Or.inl rfl) dX10_twice_113
      · refine lv_iconst (v := 1) hx hb dX10_twice_108 (by decide) ?_
        refine lv_goto (tgt := 113) hx hb dX10_twice_109 (by decide) ?_
        exact ke_z C hH hr (Nat.le_refl _) (Nat.le_refl _) rfl (Or.inr rfl) dX10_twice_113
  · intro rec16 k16 hrec16 hk16 ⟨v1, v2, v3, M4⟩ H locs ls hH hl
    have hH : KH SM E ad sz M4 s.heap H locs := hH
    have hl : lv_has ls 10 [(6, .int 3), (5, .ref q2), (0, .ref (ad 0)), (1, .int a1), (3, .int v1), (4, .int v2), (7, .int v3)] := hl
    refine W_q fX10_twice_L16_u ?_
    refine lv_iload hx hb dX10_twice_16 (lv_at hl 6 rfl) ?_
    refine lv_iload hx hb dX10_twice_18 (lv_at hl 0 rfl) ?_
    refine kb_icmp_ge (tgt := 99) hx hb dX10_twice_20 (by decide) (fun _ => ?_) (fun _ => ?_)
    · exact hk16 (v1, v2, M4) _ _ _ hH (lv_sub hl [4, 5] rfl)
    · refine lv_aload hx hb dX10_twice_23 (lv_at hl 1 rfl) ?_
      refine lv_iload hx hb dX10_twice_25 (lv_at hl 6 rfl) ?_
      refine k_xld C hH hX9 hq9 dX10_twice_27 ?_
      refine W_nmi (fun v8 => ?_)
      refine lv_istore (lv' := [(8, .int v8), (6, .int 3), (5, .ref q2), (0, .ref (ad 0)), (1, .int a1), (3, .int v1), (4, .int v2), (7, .int v3)]) hx hb dX10_twice_28 hl (by decide) rfl (fun ls hl => ?_)
      refine lv_iload hx hb dX10_twice_30 (lv_at hl 0 rfl) ?_
      refine W_jn (fun (x : Int32 × KS) H locs => KH SM E ad sz x.2 s.heap H locs) (fun x ls => lv_has ls 10 [(8, .int v8), (6, .int 3), (5, .ref q2), (0, .ref (ad 0)), (1, .int a1), (3, .int v1), (4, .int v2), (7, .int v3)]) (fun x ls => F0 m 54 ls [.int x.1]) ?_ (fun K54_32 hK54_32 => ?_)
      · intro ⟨v9, M10⟩ H locs ls hH hl
        have hH : KH SM E ad sz M10 s.heap H locs := hH
        have hl : lv_has ls 10 [(8, .int v8), (6, .int 3), (5, .ref q2), (0, .ref (ad 0)), (1, .int a1), (3, .int v1), (4, .int v2), (7, .int v3)] := hl
        refine W_q fX10_twice_J54_32_u ?_
        refine lv_istore (lv' := [(9, .int v9), (8, .int v8), (6, .int 3), (5, .ref q2), (0, .ref (ad 0)), (1, .int a1), (3, .int v1), (4, .int v2), (7, .int v3)]) hx hb dX10_twice_54 hl (by decide) rfl (fun ls hl => ?_)
        refine lv_iload_n hx hb dX10_twice_56 rfl (lv_at hl 6 rfl) ?_
        refine W_jn (fun (x : Int32) H locs => KH SM E ad sz M10 s.heap H locs) (fun x ls => lv_has ls 10 [(9, .int v9), (8, .int v8), (6, .int 3), (5, .ref q2), (0, .ref (ad 0)), (1, .int a1), (4, .int v2), (7, .int v3)]) (fun x ls => F0 m 70 ls [.int x]) ?_ (fun K70_57 hK70_57 => ?_)
        · intro v11 H locs ls hH hl
          have hH : KH SM E ad sz M10 s.heap H locs := hH
          have hl : lv_has ls 10 [(9, .int v9), (8, .int v8), (6, .int 3), (5, .ref q2), (0, .ref (ad 0)), (1, .int a1), (4, .int v2), (7, .int v3)] := hl
          refine W_q fX10_twice_J70_57_u ?_
          refine lv_istore_n (lv' := [(3, .int v11), (9, .int v9), (8, .int v8), (6, .int 3), (5, .ref q2), (0, .ref (ad 0)), (1, .int a1), (4, .int v2), (7, .int v3)]) hx hb dX10_twice_70 rfl hl (by decide) rfl (fun ls hl => ?_)
          refine lv_iload hx hb dX10_twice_71 (lv_at hl 7 rfl) ?_
          refine kb_if_ne (tgt := 86) hx hb dX10_twice_73 (by decide) (fun _ => ?_) (fun _ => ?_)
          · refine lv_iconst (v := 1) hx hb dX10_twice_86 (by decide) ?_
            refine lv_goto (tgt := 91) hx hb dX10_twice_87 (by decide) ?_
            refine lv_istore (lv' := [(4, .int 1), (3, .int v11), (9, .int v9), (8, .int v8), (6, .int 3), (5, .ref q2), (0, .ref (ad 0)), (1, .int a1), (7, .int v3)]) hx hb dX10_twice_91 hl (by decide) rfl (fun ls hl => ?_)
            refine W_nm (fun v12 ev12 => ?_)
            refine lv_iinc (v := v12) (lv' := [(7, .int v12), (4, .int 1), (3, .int v11), (9, .int v9), (8, .int v8), (6, .int 3), (5, .ref q2), (0, .ref (ad 0)), (1, .int a1)]) hx hb dX10_twice_93 hl (k := 8) rfl (by rw [ev12]; rfl) (by decide) rfl (fun ls hl => ?_)
            refine lv_goto (tgt := 16) hx hb dX10_twice_96 (by decide) ?_
            exact hrec16 (v11, 1, v12, M10) _ _ _ hH (lv_sub hl [5, 6, 7, 8, 2, 1, 0] rfl)
          · refine lv_iload hx hb dX10_twice_76 (lv_at hl 1 rfl) ?_
            refine kb_if_eq (tgt := 90) hx hb dX10_twice_78 (by decide) (fun _ => ?_) (fun _ => ?_)
            · refine lv_iconst (v := 0) hx hb dX10_twice_90 (by decide) ?_
              refine lv_istore (lv' := [(4, .int 0), (3, .int v11), (9, .int v9), (8, .int v8), (6, .int 3), (5, .ref q2), (0, .ref (ad 0)), (1, .int a1), (7, .int v3)]) hx hb dX10_twice_91 hl (by decide) rfl (fun ls hl => ?_)
              refine W_nm (fun v13 ev13 => ?_)
              refine lv_iinc (v := v13) (lv' := [(7, .int v13), (4, .int 0), (3, .int v11), (9, .int v9), (8, .int v8), (6, .int 3), (5, .ref q2), (0, .ref (ad 0)), (1, .int a1)]) hx hb dX10_twice_93 hl (k := 8) rfl (by rw [ev13]; rfl) (by decide) rfl (fun ls hl => ?_)
              refine lv_goto (tgt := 16) hx hb dX10_twice_96 (by decide) ?_
              exact hrec16 (v11, 0, v13, M10) _ _ _ hH (lv_sub hl [5, 6, 7, 8, 2, 1, 0] rfl)
            · refine lv_iload hx hb dX10_twice_81 (lv_at hl 2 rfl) ?_
              refine kb_if_ge (tgt := 90) hx hb dX10_twice_83 (by decide) (fun _ => ?_) (fun _ => ?_)
              · refine lv_iconst (v := 0) hx hb dX10_twice_90 (by decide) ?_
                refine lv_istore (lv' := [(4, .int 0), (3, .int v11), (9, .int v9), (8, .int v8), (6, .int 3), (5, .ref q2), (0, .ref (ad 0)), (1, .int a1), (7, .int v3)]) hx hb dX10_twice_91 hl (by decide) rfl (fun ls hl => ?_)
                refine W_nm (fun v14 ev14 => ?_)
                refine lv_iinc (v := v14) (lv' := [(7, .int v14), (4, .int 0), (3, .int v11), (9, .int v9), (8, .int v8), (6, .int 3), (5, .ref q2), (0, .ref (ad 0)), (1, .int a1)]) hx hb dX10_twice_93 hl (k := 8) rfl (by rw [ev14]; rfl) (by decide) rfl (fun ls hl => ?_)
                refine lv_goto (tgt := 16) hx hb dX10_twice_96 (by decide) ?_
                exact hrec16 (v11, 0, v14, M10) _ _ _ hH (lv_sub hl [5, 6, 7, 8, 2, 1, 0] rfl)
              · refine lv_iconst (v := 1) hx hb dX10_twice_86 (by decide) ?_
                refine lv_goto (tgt := 91) hx hb dX10_twice_87 (by decide) ?_
                refine lv_istore (lv' := [(4, .int 1), (3, .int v11), (9, .int v9), (8, .int v8), (6, .int 3), (5, .ref q2), (0, .ref (ad 0)), (1, .int a1), (7, .int v3)]) hx hb dX10_twice_91 hl (by decide) rfl (fun ls hl => ?_)
                refine W_nm (fun v15 ev15 => ?_)
                refine lv_iinc (v := v15) (lv' := [(7, .int v15), (4, .int 1), (3, .int v11), (9, .int v9), (8, .int v8), (6, .int 3), (5, .ref q2), (0, .ref (ad 0)), (1, .int a1)]) hx hb dX10_twice_93 hl (k := 8) rfl (by rw [ev15]; rfl) (by decide) rfl (fun ls hl => ?_)
                refine lv_goto (tgt := 16) hx hb dX10_twice_96 (by decide) ?_
                exact hrec16 (v11, 1, v15, M10) _ _ _ hH (lv_sub hl [5, 6, 7, 8, 2, 1, 0] rfl)
        · refine kb_if_ne (tgt := 65) hx hb dX10_twice_57 (by decide) (fun _ => ?_) (fun _ => ?_)
          · refine lv_iconst (v := 1) hx hb dX10_twice_65 (by decide) ?_
            refine lv_goto (tgt := 70) hx hb dX10_twice_66 (by decide) ?_
            exact hK70_57 1 _ _ _ hH (lv_sub hl [0, 1, 2, 3, 4, 5, 7, 8] rfl)
          · refine lv_iload hx hb dX10_twice_60 (lv_at hl 0 rfl) ?_
            refine kb_if_eq (tgt := 69) hx hb dX10_twice_62 (by decide) (fun _ => ?_) (fun _ => ?_)
            · refine lv_iconst (v := 0) hx hb dX10_twice_69 (by decide) ?_
              exact hK70_57 0 _ _ _ hH (lv_sub hl [0, 1, 2, 3, 4, 5, 7, 8] rfl)
            · refine lv_iconst (v := 1) hx hb dX10_twice_65 (by decide) ?_
              refine lv_goto (tgt := 70) hx hb dX10_twice_66 (by decide) ?_
              exact hK70_57 1 _ _ _ hH (lv_sub hl [0, 1, 2, 3, 4, 5, 7, 8] rfl)
      · refine kb_if_eq (tgt := 53) hx hb dX10_twice_32 (by decide) (fun _ => ?_) (fun _ => ?_)
        · refine lv_iconst (v := 0) hx hb dX10_twice_53 (by decide) ?_
          exact hK54_32 (0, M4) _ _ _ hH (lv_sub hl [0, 1, 2, 3, 4, 5, 6, 7] rfl)
        · refine lv_aload_n hx hb dX10_twice_35 rfl (lv_at hl 3 rfl) ?_
          refine lv_iload_n hx hb dX10_twice_36 rfl (lv_at hl 4 rfl) ?_
          refine lv_iload hx hb dX10_twice_37 (lv_at hl 0 rfl) ?_
          refine kg_ip C hH (kc_S C hH w_6_137 w_st_yX10_relationIn rfl lc_yX10_relationIn (kX10_relationIn l E ad M4 v8) (As := [.int v8]) rfl dX10_twice_39 rfl hl.1 (Nat.le_of_ble_eq_true rfl) ⟨Nat.le_of_ble_eq_true rfl, Nat.le_of_ble_eq_true rfl⟩ ⟨Nat.le_of_ble_eq_true rfl, Nat.le_of_ble_eq_true rfl⟩) ⟨rfl, rfl⟩ (fun H locs hH => ?_)
          refine lv_iconst (v := 0) hx hb dX10_twice_42 (by decide) ?_
          refine kg_ib C hH (kc_V C hH w_7_74 lc_yX10_reaches li_yX10_reaches oM (kX10_reaches l E ad M4 a1 (fX10_relationIn v8) 0) (As := [.int a1, .int (fX10_relationIn v8), .int 0]) rfl dX10_twice_43 rfl hl.1 (Nat.le_of_ble_eq_true rfl) ⟨Nat.le_of_ble_eq_true rfl, Nat.le_of_ble_eq_true rfl⟩ ⟨Nat.le_of_ble_eq_true rfl, Nat.le_of_ble_eq_true rfl⟩) ⟨rfl, rfl⟩ (fun v17 M16 H locs hH => ?_)
          refine kb_if_eq (tgt := 53) hx hb dX10_twice_46 (by decide) (fun _ => ?_) (fun _ => ?_)
          · refine lv_iconst (v := 0) hx hb dX10_twice_53 (by decide) ?_
            exact hK54_32 (0, M16) _ _ _ hH (lv_sub hl [0, 1, 2, 3, 4, 5, 6, 7] rfl)
          · refine lv_iconst (v := 1) hx hb dX10_twice_49 (by decide) ?_
            refine lv_goto (tgt := 54) hx hb dX10_twice_50 (by decide) ?_
            exact hK54_32 (1, M16) _ _ _ hH (lv_sub hl [0, 1, 2, 3, 4, 5, 6, 7] rfl)
def fX10_layersWith_X13 (a1 : Int32) (f2 : Nat → Int32) (x : Int32 × KS) : Option (Int32 × KS) := match x with | (v4, M5) => (if v4 = 0 then some (0, M5) else bd2 (fX10_twice M5 a1 f2) fun v7 M6 => (if v7 = 0 then some (1, M6) else some (0, M6)))
theorem fX10_layersWith_X13_u {a1 : Int32} {f2 : Nat → Int32} {v4 : Int32} {M5 : KS} : fX10_layersWith_X13 a1 f2 (v4, M5) = (if v4 = 0 then some (0, M5) else bd2 (fX10_twice M5 a1 f2) fun v7 M6 => (if v7 = 0 then some (1, M6) else some (0, M6))) := rfl
def fX10_layersWith_J82_59 (v2 : Int32) (rec13 : (Int32 × Int32 × KS) → Option (Int32 × KS)) (v8 : Int32) (v11 : Int32) (v13 : Int32) (M12 : KS) (v14 : Int32) : Option (Int32 × KS) := (if v14 = 0 then nm (v2 + 1) fun v15 => rec13 (0, v15, M12) else (if v8 ≤ 0 then nm (v2 + 1) fun v16 => rec13 (1, v16, M12) else (if v11 = 0 then nm (v2 + 1) fun v17 => rec13 (1, v17, M12) else (if v13 = 0 then nm (v2 + 1) fun v19 => rec13 (1, v19, M12) else nm (v2 + 1) fun v18 => rec13 (0, v18, M12)))))
theorem fX10_layersWith_J82_59_u {v2 : Int32} {rec13 : (Int32 × Int32 × KS) → Option (Int32 × KS)} {v8 : Int32} {v11 : Int32} {v13 : Int32} {M12 : KS} {v14 : Int32} : fX10_layersWith_J82_59 v2 rec13 v8 v11 v13 M12 v14 = (if v14 = 0 then nm (v2 + 1) fun v15 => rec13 (0, v15, M12) else (if v8 ≤ 0 then nm (v2 + 1) fun v16 => rec13 (1, v16, M12) else (if v11 = 0 then nm (v2 + 1) fun v17 => rec13 (1, v17, M12) else (if v13 = 0 then nm (v2 + 1) fun v19 => rec13 (1, v19, M12) else nm (v2 + 1) fun v18 => rec13 (0, v18, M12))))) := rfl
def fX10_layersWith_L13 (a1 : Int32) (f2 : Nat → Int32) (rec13 : (Int32 × Int32 × KS) → Option (Int32 × KS)) (k13 : (Int32 × KS) → Option (Int32 × KS)) (x : Int32 × Int32 × KS) : Option (Int32 × KS) := match x with | (v1, v2, M3) => (if 3 ≤ v2 then k13 (v1, M3) else if inb v2 3 then nm ((f2 v2.toNatClampNeg)) fun v8 => (if v8 = 0 then nm (v2 + 1) fun v9 => rec13 (v1, v9, M3) else bd2 (fX10_reaches M3 a1 (fX10_relationIn v8) 0) fun v11 M10 => bd2 (fX10_reaches M10 a1 (fX10_relationIn v8) 1) fun v13 M12 => jn (fX10_layersWith_J82_59 v2 rec13 v8 v11 v13 M12) (fun K82_59 => (if v1 = 0 then K82_59 0 else (if v13 = 0 then (if v11 = 0 then K82_59 1 else (if v8 < 0 then K82_59 0 else K82_59 1)) else K82_59 0)))) else none)
theorem fX10_layersWith_L13_u {a1 : Int32} {f2 : Nat → Int32} {rec13 : (Int32 × Int32 × KS) → Option (Int32 × KS)} {k13 : (Int32 × KS) → Option (Int32 × KS)} {v1 : Int32} {v2 : Int32} {M3 : KS} : fX10_layersWith_L13 a1 f2 rec13 k13 (v1, v2, M3) = (if 3 ≤ v2 then k13 (v1, M3) else if inb v2 3 then nm ((f2 v2.toNatClampNeg)) fun v8 => (if v8 = 0 then nm (v2 + 1) fun v9 => rec13 (v1, v9, M3) else bd2 (fX10_reaches M3 a1 (fX10_relationIn v8) 0) fun v11 M10 => bd2 (fX10_reaches M10 a1 (fX10_relationIn v8) 1) fun v13 M12 => jn (fX10_layersWith_J82_59 v2 rec13 v8 v11 v13 M12) (fun K82_59 => (if v1 = 0 then K82_59 0 else (if v13 = 0 then (if v11 = 0 then K82_59 1 else (if v8 < 0 then K82_59 0 else K82_59 1)) else K82_59 0)))) else none) := rfl
def fX10_layersWith (M : KS) (a1 : Int32) (f2 : Nat → Int32) : Option (Int32 × KS) := lp (fX10_layersWith_L13 a1 f2) (fX10_layersWith_X13 a1 f2) 1000000 (1, 0, M)
set_option maxHeartbeats 4000000 in
set_option maxRecDepth 100000 in
theorem kX10_layersWith (l : Launch) (E : KE) (ad : Nat → Nat) (M : KS) (a1 : Int32) (q2 : Nat) (f2 : Nat → Int32) : CY q2 f2 l yX10_layersWith cX10_layersWith 10 (some .boolean) { frames := 4, cells := 0, slots := 0, locals := 101 } SM E ad [.ref (ad 0), .int a1, .ref q2] M (QI SM E ad) (fX10_layersWith M a1 f2) := by
  refine CY.ofW (by decide) (Nat.le_of_ble_eq_true rfl) (fun sz p e s m args below meth c C hX9 hq9 hr hH ls hl => ?_)
  have hx := C.1.1
  have hb := C.1.2.1
  have hl : lv_has ls 10 [(0, .ref (ad 0)), (1, .int a1), (2, .ref q2)] := hl
  unfold fX10_layersWith
  refine lv_iconst (v := 1) hx hb dX10_layersWith_0 (by decide) ?_
  refine lv_istore_n (lv' := [(3, .int 1), (0, .ref (ad 0)), (1, .int a1), (2, .ref q2)]) hx hb dX10_layersWith_1 rfl hl (by decide) rfl (fun ls hl => ?_)
  refine lv_aload_n hx hb dX10_layersWith_2 rfl (lv_at hl 3 rfl) ?_
  refine lv_astore (lv' := [(4, .ref q2), (3, .int 1), (0, .ref (ad 0)), (1, .int a1), (2, .ref q2)]) hx hb dX10_layersWith_3 hl (by decide) rfl (fun ls hl => ?_)
  refine lv_aload hx hb dX10_layersWith_5 (lv_at hl 0 rfl) ?_
  refine k_xlen C hH hX9 hq9 dX10_layersWith_7 ?_
  refine lv_istore (lv' := [(5, .int 3), (4, .ref q2), (3, .int 1), (0, .ref (ad 0)), (1, .int a1), (2, .ref q2)]) hx hb dX10_layersWith_8 hl (by decide) rfl (fun ls hl => ?_)
  refine lv_iconst (v := 0) hx hb dX10_layersWith_10 (by decide) ?_
  refine lv_istore (lv' := [(6, .int 0), (5, .int 3), (4, .ref q2), (3, .int 1), (0, .ref (ad 0)), (1, .int a1), (2, .ref q2)]) hx hb dX10_layersWith_11 hl (by decide) rfl (fun ls hl => ?_)
  refine W_lp (fun (x : Int32 × Int32 × KS) H locs => KH SM E ad sz x.2.2 s.heap H locs) (fun x ls => lv_has ls 10 [(5, .int 3), (4, .ref q2), (0, .ref (ad 0)), (1, .int a1), (2, .ref q2), (3, .int x.1), (6, .int x.2.1)]) (fun _ ls => F0 m 13 ls []) (fun (x : Int32 × KS) H locs => KH SM E ad sz x.2 s.heap H locs) (fun x ls => lv_has ls 10 [(0, .ref (ad 0)), (1, .int a1), (2, .ref q2), (3, .int x.1)]) (fun _ ls => F0 m 114 ls []) ?_ ?_ hH (lv_sub hl [1, 2, 4, 5, 6, 3, 0] rfl)
  · intro ⟨v4, M5⟩ H locs ls hH hl
    have hH : KH SM E ad sz M5 s.heap H locs := hH
    have hl : lv_has ls 10 [(0, .ref (ad 0)), (1, .int a1), (2, .ref q2), (3, .int v4)] := hl
    refine W_q fX10_layersWith_X13_u ?_
    refine lv_iload_n hx hb dX10_layersWith_114 rfl (lv_at hl 3 rfl) ?_
    refine kb_if_eq (tgt := 131) hx hb dX10_layersWith_115 (by decide) (fun _ => ?_) (fun _ => ?_)
    · refine lv_iconst (v := 0) hx hb dX10_layersWith_131 (by decide) ?_
      exact ke_z C hH hr (Nat.le_refl _) (Nat.le_refl _) rfl (Or.inl rfl) dX10_layersWith_132
    · refine lv_aload_n hx hb dX10_layersWith_118 rfl (lv_at hl 0 rfl) ?_
      refine lv_iload_n hx hb dX10_layersWith_119 rfl (lv_at hl 1 rfl) ?_
      refine lv_aload_n hx hb dX10_layersWith_120 rfl (lv_at hl 2 rfl) ?_
      refine kg_ib C hH (kc_VX C hH (kx_at hH hX9 hq9) (kx_no C hH hq9) w_7_78 lc_yX10_twice li_yX10_twice oM (kX10_twice l E ad M5 a1 q2 f2) (As := [.int a1, .ref q2]) rfl dX10_layersWith_121 rfl hl.1 (Nat.le_of_ble_eq_true rfl) ⟨Nat.le_of_ble_eq_true rfl, Nat.le_of_ble_eq_true rfl⟩ ⟨Nat.le_of_ble_eq_true rfl, Nat.le_of_ble_eq_true rfl⟩) ⟨rfl, rfl⟩ (fun v7 M6 H locs hH => ?_)
      refine kb_if_ne (tgt := 131) hx hb dX10_layersWith_124 (by decide) (fun _ => ?_) (fun _ => ?_)
      · refine lv_iconst (v := 0) hx hb dX10_layersWith_131 (by decide) ?_
        exact ke_z C hH hr (Nat.le_refl _) (Nat.le_refl _) rfl (Or.inl rfl) dX10_layersWith_132
      · refine lv_iconst (v := 1) hx hb dX10_layersWith_127 (by decide) ?_
        refine lv_goto (tgt := 132) hx hb dX10_layersWith_128 (by decide) ?_
        exact ke_z C hH hr (Nat.le_refl _) (Nat.le_refl _) rfl (Or.inr rfl) dX10_layersWith_132
  · intro rec13 k13 hrec13 hk13 ⟨v1, v2, M3⟩ H locs ls hH hl
    have hH : KH SM E ad sz M3 s.heap H locs := hH
    have hl : lv_has ls 10 [(5, .int 3), (4, .ref q2), (0, .ref (ad 0)), (1, .int a1), (2, .ref q2), (3, .int v1), (6, .int v2)] := hl
    refine W_q fX10_layersWith_L13_u ?_
    refine lv_iload hx hb dX10_layersWith_13 (lv_at hl 6 rfl) ?_
    refine lv_iload hx hb dX10_layersWith_15 (lv_at hl 0 rfl) ?_
    refine kb_icmp_ge (tgt := 114) hx hb dX10_layersWith_17 (by decide) (fun _ => ?_) (fun _ => ?_)
    · exact hk13 (v1, M3) _ _ _ hH (lv_sub hl [2, 3, 4, 5] rfl)
    · refine lv_aload hx hb dX10_layersWith_20 (lv_at hl 1 rfl) ?_
      refine lv_iload hx hb dX10_layersWith_22 (lv_at hl 6 rfl) ?_
      refine k_xld C hH hX9 hq9 dX10_layersWith_24 ?_
      refine W_nmi (fun v8 => ?_)
      refine lv_istore (lv' := [(7, .int v8), (5, .int 3), (4, .ref q2), (0, .ref (ad 0)), (1, .int a1), (2, .ref q2), (3, .int v1), (6, .int v2)]) hx hb dX10_layersWith_25 hl (by decide) rfl (fun ls hl => ?_)
      refine lv_iload hx hb dX10_layersWith_27 (lv_at hl 0 rfl) ?_
      refine kb_if_eq (tgt := 108) hx hb dX10_layersWith_29 (by decide) (fun _ => ?_) (fun _ => ?_)
      · refine W_nm (fun v9 ev9 => ?_)
        refine lv_iinc (v := v9) (lv' := [(6, .int v9), (7, .int v8), (5, .int 3), (4, .ref q2), (0, .ref (ad 0)), (1, .int a1), (2, .ref q2), (3, .int v1)]) hx hb dX10_layersWith_108 hl (k := 7) rfl (by rw [ev9]; rfl) (by decide) rfl (fun ls hl => ?_)
        refine lv_goto (tgt := 13) hx hb dX10_layersWith_111 (by decide) ?_
        exact hrec13 (v1, v9, M3) _ _ _ hH (lv_sub hl [2, 3, 4, 5, 6, 7, 0] rfl)
      · refine lv_aload_n hx hb dX10_layersWith_32 rfl (lv_at hl 3 rfl) ?_
        refine lv_iload_n hx hb dX10_layersWith_33 rfl (lv_at hl 4 rfl) ?_
        refine lv_iload hx hb dX10_layersWith_34 (lv_at hl 0 rfl) ?_
        refine kg_ip C hH (kc_S C hH w_6_137 w_st_yX10_relationIn rfl lc_yX10_relationIn (kX10_relationIn l E ad M3 v8) (As := [.int v8]) rfl dX10_layersWith_36 rfl hl.1 (Nat.le_of_ble_eq_true rfl) ⟨Nat.le_of_ble_eq_true rfl, Nat.le_of_ble_eq_true rfl⟩ ⟨Nat.le_of_ble_eq_true rfl, Nat.le_of_ble_eq_true rfl⟩) ⟨rfl, rfl⟩ (fun H locs hH => ?_)
        refine lv_iconst (v := 0) hx hb dX10_layersWith_39 (by decide) ?_
        refine kg_ib C hH (kc_V C hH w_7_74 lc_yX10_reaches li_yX10_reaches oM (kX10_reaches l E ad M3 a1 (fX10_relationIn v8) 0) (As := [.int a1, .int (fX10_relationIn v8), .int 0]) rfl dX10_layersWith_40 rfl hl.1 (Nat.le_of_ble_eq_true rfl) ⟨Nat.le_of_ble_eq_true rfl, Nat.le_of_ble_eq_true rfl⟩ ⟨Nat.le_of_ble_eq_true rfl, Nat.le_of_ble_eq_true rfl⟩) ⟨rfl, rfl⟩ (fun v11 M10 H locs hH => ?_)
        refine lv_istore (lv' := [(8, .int v11), (7, .int v8), (5, .int 3), (4, .ref q2), (0, .ref (ad 0)), (1, .int a1), (2, .ref q2), (3, .int v1), (6, .int v2)]) hx hb dX10_layersWith_43 hl (by decide) rfl (fun ls hl => ?_)
        refine lv_aload_n hx hb dX10_layersWith_45 rfl (lv_at hl 4 rfl) ?_
        refine lv_iload_n hx hb dX10_layersWith_46 rfl (lv_at hl 5 rfl) ?_
        refine lv_iload hx hb dX10_layersWith_47 (lv_at hl 1 rfl) ?_
        refine kg_ip C hH (kc_S C hH w_6_137 w_st_yX10_relationIn rfl lc_yX10_relationIn (kX10_relationIn l E ad M10 v8) (As := [.int v8]) rfl dX10_layersWith_49 rfl hl.1 (Nat.le_of_ble_eq_true rfl) ⟨Nat.le_of_ble_eq_true rfl, Nat.le_of_ble_eq_true rfl⟩ ⟨Nat.le_of_ble_eq_true rfl, Nat.le_of_ble_eq_true rfl⟩) ⟨rfl, rfl⟩ (fun H locs hH => ?_)
        refine lv_iconst (v := 1) hx hb dX10_layersWith_52 (by decide) ?_
        refine kg_ib C hH (kc_V C hH w_7_74 lc_yX10_reaches li_yX10_reaches oM (kX10_reaches l E ad M10 a1 (fX10_relationIn v8) 1) (As := [.int a1, .int (fX10_relationIn v8), .int 1]) rfl dX10_layersWith_53 rfl hl.1 (Nat.le_of_ble_eq_true rfl) ⟨Nat.le_of_ble_eq_true rfl, Nat.le_of_ble_eq_true rfl⟩ ⟨Nat.le_of_ble_eq_true rfl, Nat.le_of_ble_eq_true rfl⟩) ⟨rfl, rfl⟩ (fun v13 M12 H locs hH => ?_)
        refine lv_istore (lv' := [(9, .int v13), (8, .int v11), (7, .int v8), (5, .int 3), (4, .ref q2), (0, .ref (ad 0)), (1, .int a1), (2, .ref q2), (3, .int v1), (6, .int v2)]) hx hb dX10_layersWith_56 hl (by decide) rfl (fun ls hl => ?_)
        refine lv_iload_n hx hb dX10_layersWith_58 rfl (lv_at hl 8 rfl) ?_
        refine W_jn (fun (x : Int32) H locs => KH SM E ad sz M12 s.heap H locs) (fun x ls => lv_has ls 10 [(9, .int v13), (8, .int v11), (7, .int v8), (5, .int 3), (4, .ref q2), (0, .ref (ad 0)), (1, .int a1), (2, .ref q2), (6, .int v2)]) (fun x ls => F0 m 82 ls [.int x]) ?_ (fun K82_59 hK82_59 => ?_)
        · intro v14 H locs ls hH hl
          have hH : KH SM E ad sz M12 s.heap H locs := hH
          have hl : lv_has ls 10 [(9, .int v13), (8, .int v11), (7, .int v8), (5, .int 3), (4, .ref q2), (0, .ref (ad 0)), (1, .int a1), (2, .ref q2), (6, .int v2)] := hl
          refine W_q fX10_layersWith_J82_59_u ?_
          refine lv_istore_n (lv' := [(3, .int v14), (9, .int v13), (8, .int v11), (7, .int v8), (5, .int 3), (4, .ref q2), (0, .ref (ad 0)), (1, .int a1), (2, .ref q2), (6, .int v2)]) hx hb dX10_layersWith_82 rfl hl (by decide) rfl (fun ls hl => ?_)
          refine lv_iload_n hx hb dX10_layersWith_83 rfl (lv_at hl 0 rfl) ?_
          refine kb_if_eq (tgt := 106) hx hb dX10_layersWith_84 (by decide) (fun _ => ?_) (fun _ => ?_)
          · refine lv_iconst (v := 0) hx hb dX10_layersWith_106 (by decide) ?_
            refine lv_istore_n (lv' := [(3, .int 0), (9, .int v13), (8, .int v11), (7, .int v8), (5, .int 3), (4, .ref q2), (0, .ref (ad 0)), (1, .int a1), (2, .ref q2), (6, .int v2)]) hx hb dX10_layersWith_107 rfl hl (by decide) rfl (fun ls hl => ?_)
            refine W_nm (fun v15 ev15 => ?_)
            refine lv_iinc (v := v15) (lv' := [(6, .int v15), (3, .int 0), (9, .int v13), (8, .int v11), (7, .int v8), (5, .int 3), (4, .ref q2), (0, .ref (ad 0)), (1, .int a1), (2, .ref q2)]) hx hb dX10_layersWith_108 hl (k := 9) rfl (by rw [ev15]; rfl) (by decide) rfl (fun ls hl => ?_)
            refine lv_goto (tgt := 13) hx hb dX10_layersWith_111 (by decide) ?_
            exact hrec13 (0, v15, M12) _ _ _ hH (lv_sub hl [5, 6, 7, 8, 9, 1, 0] rfl)
          · refine lv_iload hx hb dX10_layersWith_87 (lv_at hl 3 rfl) ?_
            refine kb_if_le (tgt := 102) hx hb dX10_layersWith_89 (by decide) (fun _ => ?_) (fun _ => ?_)
            · refine lv_iconst (v := 1) hx hb dX10_layersWith_102 (by decide) ?_
              refine lv_goto (tgt := 107) hx hb dX10_layersWith_103 (by decide) ?_
              refine lv_istore_n (lv' := [(3, .int 1), (9, .int v13), (8, .int v11), (7, .int v8), (5, .int 3), (4, .ref q2), (0, .ref (ad 0)), (1, .int a1), (2, .ref q2), (6, .int v2)]) hx hb dX10_layersWith_107 rfl hl (by decide) rfl (fun ls hl => ?_)
              refine W_nm (fun v16 ev16 => ?_)
              refine lv_iinc (v := v16) (lv' := [(6, .int v16), (3, .int 1), (9, .int v13), (8, .int v11), (7, .int v8), (5, .int 3), (4, .ref q2), (0, .ref (ad 0)), (1, .int a1), (2, .ref q2)]) hx hb dX10_layersWith_108 hl (k := 9) rfl (by rw [ev16]; rfl) (by decide) rfl (fun ls hl => ?_)
              refine lv_goto (tgt := 13) hx hb dX10_layersWith_111 (by decide) ?_
              exact hrec13 (1, v16, M12) _ _ _ hH (lv_sub hl [5, 6, 7, 8, 9, 1, 0] rfl)
            · refine lv_iload hx hb dX10_layersWith_92 (lv_at hl 2 rfl) ?_
              refine kb_if_eq (tgt := 102) hx hb dX10_layersWith_94 (by decide) (fun _ => ?_) (fun _ => ?_)
              · refine lv_iconst (v := 1) hx hb dX10_layersWith_102 (by decide) ?_
                refine lv_goto (tgt := 107) hx hb dX10_layersWith_103 (by decide) ?_
                refine lv_istore_n (lv' := [(3, .int 1), (9, .int v13), (8, .int v11), (7, .int v8), (5, .int 3), (4, .ref q2), (0, .ref (ad 0)), (1, .int a1), (2, .ref q2), (6, .int v2)]) hx hb dX10_layersWith_107 rfl hl (by decide) rfl (fun ls hl => ?_)
                refine W_nm (fun v17 ev17 => ?_)
                refine lv_iinc (v := v17) (lv' := [(6, .int v17), (3, .int 1), (9, .int v13), (8, .int v11), (7, .int v8), (5, .int 3), (4, .ref q2), (0, .ref (ad 0)), (1, .int a1), (2, .ref q2)]) hx hb dX10_layersWith_108 hl (k := 9) rfl (by rw [ev17]; rfl) (by decide) rfl (fun ls hl => ?_)
                refine lv_goto (tgt := 13) hx hb dX10_layersWith_111 (by decide) ?_
                exact hrec13 (1, v17, M12) _ _ _ hH (lv_sub hl [5, 6, 7, 8, 9, 1, 0] rfl)
              · refine lv_iload hx hb dX10_layersWith_97 (lv_at hl 1 rfl) ?_
                refine kb_if_ne (tgt := 106) hx hb dX10_layersWith_99 (by decide) (fun _ => ?_) (fun _ => ?_)
                · refine lv_iconst (v := 0) hx hb dX10_layersWith_106 (by decide) ?_
                  refine lv_istore_n (lv' := [(3, .int 0), (9, .int v13), (8, .int v11), (7, .int v8), (5, .int 3), (4, .ref q2), (0, .ref (ad 0)), (1, .int a1), (2, .ref q2), (6, .int v2)]) hx hb dX10_layersWith_107 rfl hl (by decide) rfl (fun ls hl => ?_)
                  refine W_nm (fun v18 ev18 => ?_)
                  refine lv_iinc (v := v18) (lv' := [(6, .int v18), (3, .int 0), (9, .int v13), (8, .int v11), (7, .int v8), (5, .int 3), (4, .ref q2), (0, .ref (ad 0)), (1, .int a1), (2, .ref q2)]) hx hb dX10_layersWith_108 hl (k := 9) rfl (by rw [ev18]; rfl) (by decide) rfl (fun ls hl => ?_)
                  refine lv_goto (tgt := 13) hx hb dX10_layersWith_111 (by decide) ?_
                  exact hrec13 (0, v18, M12) _ _ _ hH (lv_sub hl [5, 6, 7, 8, 9, 1, 0] rfl)
                · refine lv_iconst (v := 1) hx hb dX10_layersWith_102 (by decide) ?_
                  refine lv_goto (tgt := 107) hx hb dX10_layersWith_103 (by decide) ?_
                  refine lv_istore_n (lv' := [(3, .int 1), (9, .int v13), (8, .int v11), (7, .int v8), (5, .int 3), (4, .ref q2), (0, .ref (ad 0)), (1, .int a1), (2, .ref q2), (6, .int v2)]) hx hb dX10_layersWith_107 rfl hl (by decide) rfl (fun ls hl => ?_)
                  refine W_nm (fun v19 ev19 => ?_)
                  refine lv_iinc (v := v19) (lv' := [(6, .int v19), (3, .int 1), (9, .int v13), (8, .int v11), (7, .int v8), (5, .int 3), (4, .ref q2), (0, .ref (ad 0)), (1, .int a1), (2, .ref q2)]) hx hb dX10_layersWith_108 hl (k := 9) rfl (by rw [ev19]; rfl) (by decide) rfl (fun ls hl => ?_)
                  refine lv_goto (tgt := 13) hx hb dX10_layersWith_111 (by decide) ?_
                  exact hrec13 (1, v19, M12) _ _ _ hH (lv_sub hl [5, 6, 7, 8, 9, 1, 0] rfl)
        · refine kb_if_eq (tgt := 81) hx hb dX10_layersWith_59 (by decide) (fun _ => ?_) (fun _ => ?_)
          · refine lv_iconst (v := 0) hx hb dX10_layersWith_81 (by decide) ?_
            exact hK82_59 0 _ _ _ hH (lv_sub hl [0, 1, 2, 3, 4, 5, 6, 7, 9] rfl)
          · refine lv_iload hx hb dX10_layersWith_62 (lv_at hl 0 rfl) ?_
            refine kb_if_ne (tgt := 81) hx hb dX10_layersWith_64 (by decide) (fun _ => ?_) (fun _ => ?_)
            · refine lv_iconst (v := 0) hx hb dX10_layersWith_81 (by decide) ?_
              exact hK82_59 0 _ _ _ hH (lv_sub hl [0, 1, 2, 3, 4, 5, 6, 7, 9] rfl)
            · refine lv_iload hx hb dX10_layersWith_67 (lv_at hl 1 rfl) ?_
              refine kb_if_eq (tgt := 77) hx hb dX10_layersWith_69 (by decide) (fun _ => ?_) (fun _ => ?_)
              · refine lv_iconst (v := 1) hx hb dX10_layersWith_77 (by decide) ?_
                refine lv_goto (tgt := 82) hx hb dX10_layersWith_78 (by decide) ?_
                exact hK82_59 1 _ _ _ hH (lv_sub hl [0, 1, 2, 3, 4, 5, 6, 7, 9] rfl)
              · refine lv_iload hx hb dX10_layersWith_72 (lv_at hl 2 rfl) ?_
                refine kb_if_lt (tgt := 81) hx hb dX10_layersWith_74 (by decide) (fun _ => ?_) (fun _ => ?_)
                · refine lv_iconst (v := 0) hx hb dX10_layersWith_81 (by decide) ?_
                  exact hK82_59 0 _ _ _ hH (lv_sub hl [0, 1, 2, 3, 4, 5, 6, 7, 9] rfl)
                · refine lv_iconst (v := 1) hx hb dX10_layersWith_77 (by decide) ?_
                  refine lv_goto (tgt := 82) hx hb dX10_layersWith_78 (by decide) ?_
                  exact hK82_59 1 _ _ _ hH (lv_sub hl [0, 1, 2, 3, 4, 5, 6, 7, 9] rfl)
def fX10_wouldLayer (M : KS) (a1 : Int32) (a2 : Int32) (a3 : Int32) (a4 : Int32) : Option (Int32 × KS) := if jcp 0 257 0 257 257 then nm (kcpy M 1 16 0 0 257) fun M1 => bd2 (fX10_writes M1 a1 a2 a3 a4) fun v3 M2 => (if v3 = 0 then nm (kset M2 0 6 1) fun M4 => (if (M4.1 0 6) = 0 then if inb 216 257 then (if 10 ≤ (M4.1 1 (216 : Int32).toNatClampNeg) then bd2 (fX10_layersWith M4 a1 (upd (upd (upd (fun _ => 0) (0 : Int32).toNatClampNeg a2) (1 : Int32).toNatClampNeg a3) (2 : Int32).toNatClampNeg a4)) fun v7 M6 => if jcp 0 257 0 257 257 then nm (kcpy M6 16 1 0 0 257) fun M8 => if isB v7 then some (v7, M8) else none else none else if inb 216 257 then bd2 (fX10_layers M4 ((M4.1 1 (216 : Int32).toNatClampNeg) + 1)) fun v10 M9 => if jcp 0 257 0 257 257 then nm (kcpy M9 16 1 0 0 257) fun M11 => if isB v10 then some (v10, M11) else none else none else none) else none else if jcp 0 257 0 257 257 then nm (kcpy M4 16 1 0 0 257) fun M5 => some (0, M5) else none) else nm (kset M2 0 6 0) fun M12 => (if (M12.1 0 6) = 0 then if inb 216 257 then (if 10 ≤ (M12.1 1 (216 : Int32).toNatClampNeg) then bd2 (fX10_layersWith M12 a1 (upd (upd (upd (fun _ => 0) (0 : Int32).toNatClampNeg a2) (1 : Int32).toNatClampNeg a3) (2 : Int32).toNatClampNeg a4)) fun v15 M14 => if jcp 0 257 0 257 257 then nm (kcpy M14 16 1 0 0 257) fun M16 => if isB v15 then some (v15, M16) else none else none else if inb 216 257 then bd2 (fX10_layers M12 ((M12.1 1 (216 : Int32).toNatClampNeg) + 1)) fun v18 M17 => if jcp 0 257 0 257 257 then nm (kcpy M17 16 1 0 0 257) fun M19 => if isB v18 then some (v18, M19) else none else none else none) else none else if jcp 0 257 0 257 257 then nm (kcpy M12 16 1 0 0 257) fun M13 => some (0, M13) else none)) else none
set_option maxHeartbeats 4000000 in
set_option maxRecDepth 100000 in
theorem kX10_wouldLayer (l : Launch) (E : KE) (ad : Nat → Nat) (M : KS) (a1 : Int32) (a2 : Int32) (a3 : Int32) (a4 : Int32) : CT l yX10_wouldLayer cX10_wouldLayer 6 (some .boolean) { frames := 5, cells := 1, slots := 3, locals := 130 } SM E ad [.ref (ad 0), .int a1, .int a2, .int a3, .int a4] M (QI SM E ad) (fX10_wouldLayer M a1 a2 a3 a4) := by
  refine CT.ofW (by decide) (Nat.le_of_ble_eq_true rfl) (fun sz p e s m args below meth c C hr hH ls hl => ?_)
  have hx := C.1.1
  have hb := C.1.2.1
  have hl : lv_has ls 6 [(0, .ref (ad 0)), (1, .int a1), (2, .int a2), (3, .int a3), (4, .int a4)] := hl
  unfold fX10_wouldLayer
  refine lv_aload_n hx hb dX10_wouldLayer_0 rfl (lv_at hl 0 rfl) ?_
  refine k_get C hH fd_X10_9 oM (k_ref (M := M) (ad := ad) rM0) dX10_wouldLayer_1 ?_
  refine lv_iconst (v := 0) hx hb dX10_wouldLayer_4 (by decide) ?_
  refine lv_aload_n hx hb dX10_wouldLayer_5 rfl (lv_at hl 0 rfl) ?_
  refine k_get C hH fd_X10_56 oM (k_ref (M := M) (ad := ad) rM21) dX10_wouldLayer_6 ?_
  refine lv_iconst (v := 0) hx hb dX10_wouldLayer_9 (by decide) ?_
  refine lv_sipush (v := 257) hx hb dX10_wouldLayer_10 (by decide) ?_
  refine k_acopy C hH aM0 aM21 w_6_83 hl.1 (Nat.le_of_ble_eq_true rfl) (Nat.le_of_ble_eq_true rfl) dX10_wouldLayer_13 (fun M1 H locs hH => ?_)
  refine lv_aload_n hx hb dX10_wouldLayer_16 rfl (lv_at hl 0 rfl) ?_
  refine lv_aload_n hx hb dX10_wouldLayer_17 rfl (lv_at hl 0 rfl) ?_
  refine lv_iload_n hx hb dX10_wouldLayer_18 rfl (lv_at hl 1 rfl) ?_
  refine lv_iload_n hx hb dX10_wouldLayer_19 rfl (lv_at hl 2 rfl) ?_
  refine lv_iload_n hx hb dX10_wouldLayer_20 rfl (lv_at hl 3 rfl) ?_
  refine lv_iload hx hb dX10_wouldLayer_21 (lv_at hl 4 rfl) ?_
  refine kg_ib C hH (kc_V C hH w_7_26 lc_yX10_writes li_yX10_writes oM (kX10_writes l E ad M1 a1 a2 a3 a4) (As := [.int a1, .int a2, .int a3, .int a4]) rfl dX10_wouldLayer_23 rfl hl.1 (Nat.le_of_ble_eq_true rfl) ⟨Nat.le_of_ble_eq_true rfl, Nat.le_of_ble_eq_true rfl⟩ ⟨Nat.le_of_ble_eq_true rfl, Nat.le_of_ble_eq_true rfl⟩) ⟨rfl, rfl⟩ (fun v3 M2 H locs hH => ?_)
  refine kb_if_eq (tgt := 33) hx hb dX10_wouldLayer_26 (by decide) (fun _ => ?_) (fun _ => ?_)
  · refine lv_iconst (v := 1) hx hb dX10_wouldLayer_33 (by decide) ?_
    refine k_put1 C hH fd_X10_76 fw_X10_6 oM nM6 rfl rfl dX10_wouldLayer_34 (fun M4 H locs hH => ?_)
    refine lv_iconst (v := 0) hx hb dX10_wouldLayer_37 (by decide) ?_
    refine lv_istore (lv' := [(5, .int 0), (0, .ref (ad 0)), (1, .int a1), (2, .int a2), (3, .int a3), (4, .int a4)]) hx hb dX10_wouldLayer_38 hl (by decide) rfl (fun ls hl => ?_)
    refine lv_aload_n hx hb dX10_wouldLayer_40 rfl (lv_at hl 1 rfl) ?_
    refine k_get C hH fd_X10_76 oM (k_int (M := M4) (ad := ad) nM6) dX10_wouldLayer_41 ?_
    refine kb_if_ne (tgt := 100) hx hb dX10_wouldLayer_44 (by decide) (fun _ => ?_) (fun _ => ?_)
    · refine lv_aload_n hx hb dX10_wouldLayer_100 rfl (lv_at hl 1 rfl) ?_
      refine k_get C hH fd_X10_56 oM (k_ref (M := M4) (ad := ad) rM21) dX10_wouldLayer_101 ?_
      refine lv_iconst (v := 0) hx hb dX10_wouldLayer_104 (by decide) ?_
      refine lv_aload_n hx hb dX10_wouldLayer_105 rfl (lv_at hl 1 rfl) ?_
      refine k_get C hH fd_X10_9 oM (k_ref (M := M4) (ad := ad) rM0) dX10_wouldLayer_106 ?_
      refine lv_iconst (v := 0) hx hb dX10_wouldLayer_109 (by decide) ?_
      refine lv_sipush (v := 257) hx hb dX10_wouldLayer_110 (by decide) ?_
      refine k_acopy C hH aM21 aM0 w_6_83 hl.1 (Nat.le_of_ble_eq_true rfl) (Nat.le_of_ble_eq_true rfl) dX10_wouldLayer_113 (fun M5 H locs hH => ?_)
      refine lv_iload hx hb dX10_wouldLayer_116 (lv_at hl 0 rfl) ?_
      exact ke_z C hH hr (Nat.le_of_ble_eq_true rfl) (Nat.le_of_ble_eq_true rfl) rfl (Or.inl rfl) dX10_wouldLayer_118
    · refine lv_aload_n hx hb dX10_wouldLayer_47 rfl (lv_at hl 1 rfl) ?_
      refine k_get C hH fd_X10_9 oM (k_ref (M := M4) (ad := ad) rM0) dX10_wouldLayer_48 ?_
      refine lv_sipush (v := 216) hx hb dX10_wouldLayer_51 (by decide) ?_
      refine k_iald C hH aM0 dX10_wouldLayer_54 ?_
      refine lv_bipush (v := 10) hx hb dX10_wouldLayer_55 (by decide) ?_
      refine kb_icmp_ge (tgt := 77) hx hb dX10_wouldLayer_57 (by decide) (fun _ => ?_) (fun _ => ?_)
      · refine lv_aload_n hx hb dX10_wouldLayer_77 rfl (lv_at hl 1 rfl) ?_
        refine lv_iload_n hx hb dX10_wouldLayer_78 rfl (lv_at hl 2 rfl) ?_
        refine lv_iconst (v := 3) hx hb dX10_wouldLayer_79 (by decide) ?_
        refine kn_new C hH w_1_54 dX10_wouldLayer_80 (Nat.le_of_ble_eq_true rfl) (Nat.le_of_ble_eq_true rfl) (fun q9 cA9 H hN hK9 => ?_)
        refine lv_dup hx hb dX10_wouldLayer_82 rfl ?_
        refine lv_iconst (v := 0) hx hb dX10_wouldLayer_83 (by decide) ?_
        refine lv_iload_n hx hb dX10_wouldLayer_84 rfl (lv_at hl 3 rfl) ?_
        refine kn_st C hK9 hN (by unfold vp_in; decide) dX10_wouldLayer_85 (fun H locs hN => ?_)
        refine lv_dup hx hb dX10_wouldLayer_86 rfl ?_
        refine lv_iconst (v := 1) hx hb dX10_wouldLayer_87 (by decide) ?_
        refine lv_iload_n hx hb dX10_wouldLayer_88 rfl (lv_at hl 4 rfl) ?_
        refine kn_st C hK9 hN (by unfold vp_in; decide) dX10_wouldLayer_89 (fun H locs hN => ?_)
        refine lv_dup hx hb dX10_wouldLayer_90 rfl ?_
        refine lv_iconst (v := 2) hx hb dX10_wouldLayer_91 (by decide) ?_
        refine lv_iload hx hb dX10_wouldLayer_92 (lv_at hl 5 rfl) ?_
        refine kn_st C hK9 hN (by unfold vp_in; decide) dX10_wouldLayer_94 (fun H locs hN => ?_)
        obtain ⟨hH, hX9, hq9⟩ := kn_end C hK9 hN
        refine kg_ib C hH (kc_VX C hH hX9 hq9 w_7_70 lc_yX10_layersWith li_yX10_layersWith oM (kX10_layersWith l E ad M4 a1 q9 (upd (upd (upd (fun _ => 0) (0 : Int32).toNatClampNeg a2) (1 : Int32).toNatClampNeg a3) (2 : Int32).toNatClampNeg a4)) (As := [.int a1, .ref q9]) rfl dX10_wouldLayer_95 rfl hl.1 (Nat.le_of_ble_eq_true rfl) ⟨Nat.le_of_ble_eq_true rfl, Nat.le_of_ble_eq_true rfl⟩ ⟨Nat.le_of_ble_eq_true rfl, Nat.le_of_ble_eq_true rfl⟩) ⟨rfl, rfl⟩ (fun v7 M6 H locs hH => ?_)
        refine lv_istore (lv' := [(5, .int v7), (0, .ref (ad 0)), (1, .int a1), (2, .int a2), (3, .int a3), (4, .int a4)]) hx hb dX10_wouldLayer_98 hl (by decide) rfl (fun ls hl => ?_)
        refine lv_aload_n hx hb dX10_wouldLayer_100 rfl (lv_at hl 1 rfl) ?_
        refine k_get C hH fd_X10_56 oM (k_ref (M := M6) (ad := ad) rM21) dX10_wouldLayer_101 ?_
        refine lv_iconst (v := 0) hx hb dX10_wouldLayer_104 (by decide) ?_
        refine lv_aload_n hx hb dX10_wouldLayer_105 rfl (lv_at hl 1 rfl) ?_
        refine k_get C hH fd_X10_9 oM (k_ref (M := M6) (ad := ad) rM0) dX10_wouldLayer_106 ?_
        refine lv_iconst (v := 0) hx hb dX10_wouldLayer_109 (by decide) ?_
        refine lv_sipush (v := 257) hx hb dX10_wouldLayer_110 (by decide) ?_
        refine k_acopy C hH aM21 aM0 w_6_83 hl.1 (Nat.le_of_ble_eq_true rfl) (Nat.le_of_ble_eq_true rfl) dX10_wouldLayer_113 (fun M8 H locs hH => ?_)
        refine lv_iload hx hb dX10_wouldLayer_116 (lv_at hl 0 rfl) ?_
        exact ke_zg C hH hr (Nat.le_of_ble_eq_true rfl) (Nat.le_of_ble_eq_true rfl) rfl dX10_wouldLayer_118
      · refine lv_aload_n hx hb dX10_wouldLayer_60 rfl (lv_at hl 1 rfl) ?_
        refine lv_aload_n hx hb dX10_wouldLayer_61 rfl (lv_at hl 1 rfl) ?_
        refine k_get C hH fd_X10_9 oM (k_ref (M := M4) (ad := ad) rM0) dX10_wouldLayer_62 ?_
        refine lv_sipush (v := 216) hx hb dX10_wouldLayer_65 (by decide) ?_
        refine k_iald C hH aM0 dX10_wouldLayer_68 ?_
        refine lv_iconst (v := 1) hx hb dX10_wouldLayer_69 (by decide) ?_
        refine lv_iadd hx hb dX10_wouldLayer_70 ?_
        refine kg_ib C hH (kc_V C hH w_6_129 lc_yX10_layers li_yX10_layers oM (kX10_layers l E ad M4 ((M4.1 1 (216 : Int32).toNatClampNeg) + 1)) (As := [.int ((M4.1 1 (216 : Int32).toNatClampNeg) + 1)]) rfl dX10_wouldLayer_71 rfl hl.1 (Nat.le_of_ble_eq_true rfl) ⟨Nat.le_of_ble_eq_true rfl, Nat.le_of_ble_eq_true rfl⟩ ⟨Nat.le_of_ble_eq_true rfl, Nat.le_of_ble_eq_true rfl⟩) ⟨rfl, rfl⟩ (fun v10 M9 H locs hH => ?_)
        refine lv_goto (tgt := 98) hx hb dX10_wouldLayer_74 (by decide) ?_
        refine lv_istore (lv' := [(5, .int v10), (0, .ref (ad 0)), (1, .int a1), (2, .int a2), (3, .int a3), (4, .int a4)]) hx hb dX10_wouldLayer_98 hl (by decide) rfl (fun ls hl => ?_)
        refine lv_aload_n hx hb dX10_wouldLayer_100 rfl (lv_at hl 1 rfl) ?_
        refine k_get C hH fd_X10_56 oM (k_ref (M := M9) (ad := ad) rM21) dX10_wouldLayer_101 ?_
        refine lv_iconst (v := 0) hx hb dX10_wouldLayer_104 (by decide) ?_
        refine lv_aload_n hx hb dX10_wouldLayer_105 rfl (lv_at hl 1 rfl) ?_
        refine k_get C hH fd_X10_9 oM (k_ref (M := M9) (ad := ad) rM0) dX10_wouldLayer_106 ?_
        refine lv_iconst (v := 0) hx hb dX10_wouldLayer_109 (by decide) ?_
        refine lv_sipush (v := 257) hx hb dX10_wouldLayer_110 (by decide) ?_
        refine k_acopy C hH aM21 aM0 w_6_83 hl.1 (Nat.le_of_ble_eq_true rfl) (Nat.le_of_ble_eq_true rfl) dX10_wouldLayer_113 (fun M11 H locs hH => ?_)
        refine lv_iload hx hb dX10_wouldLayer_116 (lv_at hl 0 rfl) ?_
        exact ke_zg C hH hr (Nat.le_of_ble_eq_true rfl) (Nat.le_of_ble_eq_true rfl) rfl dX10_wouldLayer_118
  · refine lv_iconst (v := 0) hx hb dX10_wouldLayer_29 (by decide) ?_
    refine lv_goto (tgt := 34) hx hb dX10_wouldLayer_30 (by decide) ?_
    refine k_put1 C hH fd_X10_76 fw_X10_6 oM nM6 rfl rfl dX10_wouldLayer_34 (fun M12 H locs hH => ?_)
    refine lv_iconst (v := 0) hx hb dX10_wouldLayer_37 (by decide) ?_
    refine lv_istore (lv' := [(5, .int 0), (0, .ref (ad 0)), (1, .int a1), (2, .int a2), (3, .int a3), (4, .int a4)]) hx hb dX10_wouldLayer_38 hl (by decide) rfl (fun ls hl => ?_)
    refine lv_aload_n hx hb dX10_wouldLayer_40 rfl (lv_at hl 1 rfl) ?_
    refine k_get C hH fd_X10_76 oM (k_int (M := M12) (ad := ad) nM6) dX10_wouldLayer_41 ?_
    refine kb_if_ne (tgt := 100) hx hb dX10_wouldLayer_44 (by decide) (fun _ => ?_) (fun _ => ?_)
    · refine lv_aload_n hx hb dX10_wouldLayer_100 rfl (lv_at hl 1 rfl) ?_
      refine k_get C hH fd_X10_56 oM (k_ref (M := M12) (ad := ad) rM21) dX10_wouldLayer_101 ?_
      refine lv_iconst (v := 0) hx hb dX10_wouldLayer_104 (by decide) ?_
      refine lv_aload_n hx hb dX10_wouldLayer_105 rfl (lv_at hl 1 rfl) ?_
      refine k_get C hH fd_X10_9 oM (k_ref (M := M12) (ad := ad) rM0) dX10_wouldLayer_106 ?_
      refine lv_iconst (v := 0) hx hb dX10_wouldLayer_109 (by decide) ?_
      refine lv_sipush (v := 257) hx hb dX10_wouldLayer_110 (by decide) ?_
      refine k_acopy C hH aM21 aM0 w_6_83 hl.1 (Nat.le_of_ble_eq_true rfl) (Nat.le_of_ble_eq_true rfl) dX10_wouldLayer_113 (fun M13 H locs hH => ?_)
      refine lv_iload hx hb dX10_wouldLayer_116 (lv_at hl 0 rfl) ?_
      exact ke_z C hH hr (Nat.le_of_ble_eq_true rfl) (Nat.le_of_ble_eq_true rfl) rfl (Or.inl rfl) dX10_wouldLayer_118
    · refine lv_aload_n hx hb dX10_wouldLayer_47 rfl (lv_at hl 1 rfl) ?_
      refine k_get C hH fd_X10_9 oM (k_ref (M := M12) (ad := ad) rM0) dX10_wouldLayer_48 ?_
      refine lv_sipush (v := 216) hx hb dX10_wouldLayer_51 (by decide) ?_
      refine k_iald C hH aM0 dX10_wouldLayer_54 ?_
      refine lv_bipush (v := 10) hx hb dX10_wouldLayer_55 (by decide) ?_
      refine kb_icmp_ge (tgt := 77) hx hb dX10_wouldLayer_57 (by decide) (fun _ => ?_) (fun _ => ?_)
      · refine lv_aload_n hx hb dX10_wouldLayer_77 rfl (lv_at hl 1 rfl) ?_
        refine lv_iload_n hx hb dX10_wouldLayer_78 rfl (lv_at hl 2 rfl) ?_
        refine lv_iconst (v := 3) hx hb dX10_wouldLayer_79 (by decide) ?_
        refine kn_new C hH w_1_54 dX10_wouldLayer_80 (Nat.le_of_ble_eq_true rfl) (Nat.le_of_ble_eq_true rfl) (fun q9 cA9 H hN hK9 => ?_)
        refine lv_dup hx hb dX10_wouldLayer_82 rfl ?_
        refine lv_iconst (v := 0) hx hb dX10_wouldLayer_83 (by decide) ?_
        refine lv_iload_n hx hb dX10_wouldLayer_84 rfl (lv_at hl 3 rfl) ?_
        refine kn_st C hK9 hN (by unfold vp_in; decide) dX10_wouldLayer_85 (fun H locs hN => ?_)
        refine lv_dup hx hb dX10_wouldLayer_86 rfl ?_
        refine lv_iconst (v := 1) hx hb dX10_wouldLayer_87 (by decide) ?_
        refine lv_iload_n hx hb dX10_wouldLayer_88 rfl (lv_at hl 4 rfl) ?_
        refine kn_st C hK9 hN (by unfold vp_in; decide) dX10_wouldLayer_89 (fun H locs hN => ?_)
        refine lv_dup hx hb dX10_wouldLayer_90 rfl ?_
        refine lv_iconst (v := 2) hx hb dX10_wouldLayer_91 (by decide) ?_
        refine lv_iload hx hb dX10_wouldLayer_92 (lv_at hl 5 rfl) ?_
        refine kn_st C hK9 hN (by unfold vp_in; decide) dX10_wouldLayer_94 (fun H locs hN => ?_)
        obtain ⟨hH, hX9, hq9⟩ := kn_end C hK9 hN
        refine kg_ib C hH (kc_VX C hH hX9 hq9 w_7_70 lc_yX10_layersWith li_yX10_layersWith oM (kX10_layersWith l E ad M12 a1 q9 (upd (upd (upd (fun _ => 0) (0 : Int32).toNatClampNeg a2) (1 : Int32).toNatClampNeg a3) (2 : Int32).toNatClampNeg a4)) (As := [.int a1, .ref q9]) rfl dX10_wouldLayer_95 rfl hl.1 (Nat.le_of_ble_eq_true rfl) ⟨Nat.le_of_ble_eq_true rfl, Nat.le_of_ble_eq_true rfl⟩ ⟨Nat.le_of_ble_eq_true rfl, Nat.le_of_ble_eq_true rfl⟩) ⟨rfl, rfl⟩ (fun v15 M14 H locs hH => ?_)
        refine lv_istore (lv' := [(5, .int v15), (0, .ref (ad 0)), (1, .int a1), (2, .int a2), (3, .int a3), (4, .int a4)]) hx hb dX10_wouldLayer_98 hl (by decide) rfl (fun ls hl => ?_)
        refine lv_aload_n hx hb dX10_wouldLayer_100 rfl (lv_at hl 1 rfl) ?_
        refine k_get C hH fd_X10_56 oM (k_ref (M := M14) (ad := ad) rM21) dX10_wouldLayer_101 ?_
        refine lv_iconst (v := 0) hx hb dX10_wouldLayer_104 (by decide) ?_
        refine lv_aload_n hx hb dX10_wouldLayer_105 rfl (lv_at hl 1 rfl) ?_
        refine k_get C hH fd_X10_9 oM (k_ref (M := M14) (ad := ad) rM0) dX10_wouldLayer_106 ?_
        refine lv_iconst (v := 0) hx hb dX10_wouldLayer_109 (by decide) ?_
        refine lv_sipush (v := 257) hx hb dX10_wouldLayer_110 (by decide) ?_
        refine k_acopy C hH aM21 aM0 w_6_83 hl.1 (Nat.le_of_ble_eq_true rfl) (Nat.le_of_ble_eq_true rfl) dX10_wouldLayer_113 (fun M16 H locs hH => ?_)
        refine lv_iload hx hb dX10_wouldLayer_116 (lv_at hl 0 rfl) ?_
        exact ke_zg C hH hr (Nat.le_of_ble_eq_true rfl) (Nat.le_of_ble_eq_true rfl) rfl dX10_wouldLayer_118
      · refine lv_aload_n hx hb dX10_wouldLayer_60 rfl (lv_at hl 1 rfl) ?_
        refine lv_aload_n hx hb dX10_wouldLayer_61 rfl (lv_at hl 1 rfl) ?_
        refine k_get C hH fd_X10_9 oM (k_ref (M := M12) (ad := ad) rM0) dX10_wouldLayer_62 ?_
        refine lv_sipush (v := 216) hx hb dX10_wouldLayer_65 (by decide) ?_
        refine k_iald C hH aM0 dX10_wouldLayer_68 ?_
        refine lv_iconst (v := 1) hx hb dX10_wouldLayer_69 (by decide) ?_
        refine lv_iadd hx hb dX10_wouldLayer_70 ?_
        refine kg_ib C hH (kc_V C hH w_6_129 lc_yX10_layers li_yX10_layers oM (kX10_layers l E ad M12 ((M12.1 1 (216 : Int32).toNatClampNeg) + 1)) (As := [.int ((M12.1 1 (216 : Int32).toNatClampNeg) + 1)]) rfl dX10_wouldLayer_71 rfl hl.1 (Nat.le_of_ble_eq_true rfl) ⟨Nat.le_of_ble_eq_true rfl, Nat.le_of_ble_eq_true rfl⟩ ⟨Nat.le_of_ble_eq_true rfl, Nat.le_of_ble_eq_true rfl⟩) ⟨rfl, rfl⟩ (fun v18 M17 H locs hH => ?_)
        refine lv_goto (tgt := 98) hx hb dX10_wouldLayer_74 (by decide) ?_
        refine lv_istore (lv' := [(5, .int v18), (0, .ref (ad 0)), (1, .int a1), (2, .int a2), (3, .int a3), (4, .int a4)]) hx hb dX10_wouldLayer_98 hl (by decide) rfl (fun ls hl => ?_)
        refine lv_aload_n hx hb dX10_wouldLayer_100 rfl (lv_at hl 1 rfl) ?_
        refine k_get C hH fd_X10_56 oM (k_ref (M := M17) (ad := ad) rM21) dX10_wouldLayer_101 ?_
        refine lv_iconst (v := 0) hx hb dX10_wouldLayer_104 (by decide) ?_
        refine lv_aload_n hx hb dX10_wouldLayer_105 rfl (lv_at hl 1 rfl) ?_
        refine k_get C hH fd_X10_9 oM (k_ref (M := M17) (ad := ad) rM0) dX10_wouldLayer_106 ?_
        refine lv_iconst (v := 0) hx hb dX10_wouldLayer_109 (by decide) ?_
        refine lv_sipush (v := 257) hx hb dX10_wouldLayer_110 (by decide) ?_
        refine k_acopy C hH aM21 aM0 w_6_83 hl.1 (Nat.le_of_ble_eq_true rfl) (Nat.le_of_ble_eq_true rfl) dX10_wouldLayer_113 (fun M19 H locs hH => ?_)
        refine lv_iload hx hb dX10_wouldLayer_116 (lv_at hl 0 rfl) ?_
        exact ke_zg C hH hr (Nat.le_of_ble_eq_true rfl) (Nat.le_of_ble_eq_true rfl) rfl dX10_wouldLayer_118
