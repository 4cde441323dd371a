theorem lc_yX9_account : LC yX9_account cX9_account 2 (some .int) 1 := ⟨⟨w_1_1, w_5_118⟩, by decide +kernel, by decide +kernel, by decide +kernel⟩
theorem lc_yX9_append : LC yX9_append cX9_append 2 (some .int) 1 := ⟨⟨w_1_1, w_5_6⟩, by decide +kernel, by decide +kernel, by decide +kernel⟩
theorem lc_yX9_character : LC yX9_character cX9_character 2 (some .char) 1 := ⟨⟨w_1_1, w_4_237⟩, by decide +kernel, by decide +kernel, by decide +kernel⟩
theorem lc_yX9_condition : LC yX9_condition cX9_condition 4 (some .int) 2 := ⟨⟨w_1_1, w_4_149⟩, by decide +kernel, by decide +kernel, by decide +kernel⟩
theorem lc_yX9_drop : LC yX9_drop cX9_drop 2 (some .int) 1 := ⟨⟨w_1_1, w_4_107⟩, by decide +kernel, by decide +kernel, by decide +kernel⟩
theorem lc_yX9_factOf : LC yX9_factOf cX9_factOf 7 (some .int) 4 := ⟨⟨w_1_1, w_3_189⟩, by decide +kernel, by decide +kernel, by decide +kernel⟩
theorem lc_yX9_fresh : LC yX9_fresh cX9_fresh 4 (some .int) 2 := ⟨⟨w_1_1, w_4_177⟩, by decide +kernel, by decide +kernel, by decide +kernel⟩
theorem lc_yX9_holds : LC yX9_holds cX9_holds 6 (some .boolean) 4 := ⟨⟨w_1_1, w_3_150⟩, by decide +kernel, by decide +kernel, by decide +kernel⟩
theorem lc_yX9_isMutual : LC yX9_isMutual cX9_isMutual 4 (some .boolean) 1 := ⟨⟨w_1_1, w_4_60⟩, by decide +kernel, by decide +kernel, by decide +kernel⟩
theorem lc_yX9_isTold : LC yX9_isTold cX9_isTold 4 (some .boolean) 3 := ⟨⟨w_1_1, w_3_157⟩, by decide +kernel, by decide +kernel, by decide +kernel⟩
theorem lc_yX9_kin : LC yX9_kin cX9_kin 3 (some .int) 2 := ⟨⟨w_1_1, w_4_19⟩, by decide +kernel, by decide +kernel, by decide +kernel⟩
theorem lc_yX9_line : LC yX9_line cX9_line 5 (some .int) 3 := ⟨⟨w_1_1, w_4_189⟩, by decide +kernel, by decide +kernel, by decide +kernel⟩
theorem lc_yX9_meanDepth : LC yX9_meanDepth cX9_meanDepth 2 (some .double) 0 := ⟨⟨w_1_1, w_5_162⟩, by decide +kernel, by decide +kernel, by decide +kernel⟩
theorem lc_yX9_ranked : LC yX9_ranked cX9_ranked 4 (some .int) 1 := ⟨⟨w_1_1, w_4_49⟩, by decide +kernel, by decide +kernel, by decide +kernel⟩
theorem lc_yX9_refusal : LC yX9_refusal cX9_refusal 2 (some .int) 1 := ⟨⟨w_1_1, w_5_110⟩, by decide +kernel, by decide +kernel, by decide +kernel⟩
theorem lc_yX9_relationOf : LC yX9_relationOf cX9_relationOf 3 (some .int) 2 := ⟨⟨w_1_1, w_4_27⟩, by decide +kernel, by decide +kernel, by decide +kernel⟩
theorem lc_yX9_restore : LC yX9_restore cX9_restore 1 (some .int) 0 := ⟨⟨w_1_1, w_5_197⟩, by decide +kernel, by decide +kernel, by decide +kernel⟩
theorem lc_yX9_rounds : LC yX9_rounds cX9_rounds 3 (some .int) 1 := ⟨⟨w_1_1, w_4_164⟩, by decide +kernel, by decide +kernel, by decide +kernel⟩
theorem lc_yX9_rule : LC yX9_rule cX9_rule 5 (some .int) 4 := ⟨⟨w_1_1, w_4_68⟩, by decide +kernel, by decide +kernel, by decide +kernel⟩
theorem lc_yX9_ruleLine : LC yX9_ruleLine cX9_ruleLine 4 (some .int) 1 := ⟨⟨w_1_1, w_4_223⟩, by decide +kernel, by decide +kernel, by decide +kernel⟩
theorem lc_yX9_ruleOf : LC yX9_ruleOf cX9_ruleOf 3 (some .int) 2 := ⟨⟨w_1_1, w_4_128⟩, by decide +kernel, by decide +kernel, by decide +kernel⟩
theorem lc_yX9_run : LC yX9_run cX9_run 4 (some .int) 0 := ⟨⟨w_1_1, w_5_33⟩, by decide +kernel, by decide +kernel, by decide +kernel⟩
theorem lc_yX9_tell : LC yX9_tell cX9_tell 4 (some .int) 3 := ⟨⟨w_1_1, w_2_230⟩, by decide +kernel, by decide +kernel, by decide +kernel⟩
theorem lc_yX9_toldShare : LC yX9_toldShare cX9_toldShare 2 (some .float) 0 := ⟨⟨w_1_1, w_5_176⟩, by decide +kernel, by decide +kernel, by decide +kernel⟩
theorem lc_yX9_undo : LC yX9_undo cX9_undo 1 (some .int) 0 := ⟨⟨w_1_1, w_5_183⟩, by decide +kernel, by decide +kernel, by decide +kernel⟩
theorem lc_yX9_untell : LC yX9_untell cX9_untell 4 (some .int) 3 := ⟨⟨w_1_1, w_3_134⟩, by decide +kernel, by decide +kernel, by decide +kernel⟩
theorem lc_yX9_ways : LC yX9_ways cX9_ways 4 (some .int) 3 := ⟨⟨w_1_1, w_3_239⟩, by decide +kernel, by decide +kernel, by decide +kernel⟩
theorem lc_yX9_would : LC yX9_would cX9_would 5 (some .int) 3 := ⟨⟨w_1_1, w_4_7⟩, by decide +kernel, by decide +kernel, by decide +kernel⟩
theorem lc_yX9_wouldLayer : LC yX9_wouldLayer cX9_wouldLayer 5 (some .boolean) 4 := ⟨⟨w_1_1, w_4_157⟩, by decide +kernel, by decide +kernel, by decide +kernel⟩
theorem li_yX9_account : LI yX9_account 11 := ⟨⟨w_5_116, w_5_117⟩, TX9, 12, rfl⟩
theorem li_yX9_append : LI yX9_append 11 := ⟨⟨w_5_4, w_5_5⟩, TX9, 12, rfl⟩
theorem li_yX9_character : LI yX9_character 11 := ⟨⟨w_4_235, w_4_236⟩, TX9, 12, rfl⟩
theorem li_yX9_condition : LI yX9_condition 11 := ⟨⟨w_4_147, w_4_148⟩, TX9, 12, rfl⟩
theorem li_yX9_drop : LI yX9_drop 11 := ⟨⟨w_4_105, w_4_106⟩, TX9, 12, rfl⟩
theorem li_yX9_factOf : LI yX9_factOf 11 := ⟨⟨w_3_187, w_3_188⟩, TX9, 12, rfl⟩
theorem li_yX9_fresh : LI yX9_fresh 11 := ⟨⟨w_4_175, w_4_176⟩, TX9, 12, rfl⟩
theorem li_yX9_holds : LI yX9_holds 11 := ⟨⟨w_3_148, w_3_149⟩, TX9, 12, rfl⟩
theorem li_yX9_isMutual : LI yX9_isMutual 11 := ⟨⟨w_4_58, w_4_59⟩, TX9, 12, rfl⟩
theorem li_yX9_isTold : LI yX9_isTold 11 := ⟨⟨w_3_155, w_3_156⟩, TX9, 12, rfl⟩
theorem li_yX9_kin : LI yX9_kin 11 := ⟨⟨w_4_17, w_4_18⟩, TX9, 12, rfl⟩
theorem li_yX9_line : LI yX9_line 11 := ⟨⟨w_4_187, w_4_188⟩, TX9, 12, rfl⟩
theorem li_yX9_meanDepth : LI yX9_meanDepth 11 := ⟨⟨w_5_160, w_5_161⟩, TX9, 12, rfl⟩
theorem li_yX9_ranked : LI yX9_ranked 11 := ⟨⟨w_4_47, w_4_48⟩, TX9, 12, rfl⟩
theorem li_yX9_refusal : LI yX9_refusal 11 := ⟨⟨w_5_108, w_5_109⟩, TX9, 12, rfl⟩
theorem li_yX9_relationOf : LI yX9_relationOf 11 := ⟨⟨w_4_25, w_4_26⟩, TX9, 12, rfl⟩
theorem li_yX9_restore : LI yX9_restore 11 := ⟨⟨w_5_195, w_5_196⟩, TX9, 12, rfl⟩
theorem li_yX9_rounds : LI yX9_rounds 11 := ⟨⟨w_4_162, w_4_163⟩, TX9, 12, rfl⟩
theorem li_yX9_rule : LI yX9_rule 11 := ⟨⟨w_4_66, w_4_67⟩, TX9, 12, rfl⟩
theorem li_yX9_ruleLine : LI yX9_ruleLine 11 := ⟨⟨w_4_221, w_4_222⟩, TX9, 12, rfl⟩
theorem li_yX9_ruleOf : LI yX9_ruleOf 11 := ⟨⟨w_4_126, w_4_127⟩, TX9, 12, rfl⟩
theorem li_yX9_run : LI yX9_run 11 := ⟨⟨w_5_31, w_5_32⟩, TX9, 12, rfl⟩
theorem li_yX9_tell : LI yX9_tell 11 := ⟨⟨w_2_228, w_2_229⟩, TX9, 12, rfl⟩
theorem li_yX9_toldShare : LI yX9_toldShare 11 := ⟨⟨w_5_174, w_5_175⟩, TX9, 12, rfl⟩
theorem li_yX9_undo : LI yX9_undo 11 := ⟨⟨w_5_181, w_5_182⟩, TX9, 12, rfl⟩
theorem li_yX9_untell : LI yX9_untell 11 := ⟨⟨w_3_132, w_3_133⟩, TX9, 12, rfl⟩
theorem li_yX9_ways : LI yX9_ways 11 := ⟨⟨w_3_237, w_3_238⟩, TX9, 12, rfl⟩
theorem li_yX9_would : LI yX9_would 11 := ⟨⟨w_4_5, w_4_6⟩, TX9, 12, rfl⟩
theorem li_yX9_wouldLayer : LI yX9_wouldLayer 11 := ⟨⟨w_4_155, w_4_156⟩, TX9, 12, rfl⟩
def fL_tell (M : KS) (a1 : Int32) (a2 : Int32) (a3 : Int32) (v : Int64) : Option (Int32 × KS × Int64) := (fX9_tell M a1 a2 a3).bind fun r => match r with | .inr a => some (0, a.2, Int32.toInt64 a.1) | .inl q => if q.1 = 0 then some (1, q.2, v) else if q.1 = 1 then some (2, q.2, v) else none
set_option maxHeartbeats 4000000 in
set_option maxRecDepth 100000 in
theorem kL_tell (l : Launch) (hl9 : l.stackTraces = false) (E : KE) (ad : Nat → Nat) (M : KS) (a1 : Int32) (a2 : Int32) (a3 : Int32) (qo : Nat) (v : Int64) : CWL l yL_tell cL_tell 6 [(0, 12, 15, 13), (0, 12, 19, 15)] { frames := 7, cells := 1, slots := 6, locals := 178 } E ad [.ref (ad 121), .int a1, .int a2, .int a3, .ref qo] M qo v (fL_tell M a1 a2 a3 v) := by
  refine CWL.ofW rfl (Nat.le_of_ble_eq_true rfl) (fun sz p e s m args below meth c C hr hW ls hl => ?_)
  have hx := C.1.1.1.1
  have hb := C.1.1.1.2.1
  have hl : lv_has ls 6 [(0, .ref (ad 121)), (1, .int a1), (2, .int a2), (3, .int a3), (4, .ref qo)] := hl
  unfold fL_tell
  refine lv_aload hx hb dL_tell_0 (lv_at hl 4 rfl) ?_
  refine lv_iconst (v := 0) hx hb dL_tell_2 (by decide) ?_
  refine lv_aload_n hx hb dL_tell_3 rfl (lv_at hl 0 rfl) ?_
  refine lv_iload_n hx hb dL_tell_4 rfl (lv_at hl 1 rfl) ?_
  refine lv_iload_n hx hb dL_tell_5 rfl (lv_at hl 2 rfl) ?_
  refine lv_iload_n hx hb dL_tell_6 rfl (lv_at hl 3 rfl) ?_
  refine wr_iL C hW.2.1 (kx_V C.1.1 C.1.2 hW.1 w_2_227 lc_yX9_tell li_yX9_tell (kX9_tell l hl9 E ad M a1 a2 a3) (As := [.int a1, .int a2, .int a3]) rfl dL_tell_7 rfl hl.1 (Nat.le_of_ble_eq_true rfl) ⟨rfl, rfl⟩ ⟨Nat.le_of_ble_eq_true rfl, Nat.le_of_ble_eq_true rfl⟩ ⟨Nat.le_of_ble_eq_true rfl, Nat.le_of_ble_eq_true rfl⟩) (fun a M1 H locs hW => ?_) (fun x M1 H locs q ce hW hce hcv hcl => ?_)
  · refine lv_i2l (v := Int32.toInt64 a) hx hb dL_tell_10 rfl ?_
    refine wr_astL C hW dL_tell_11 (fun H locs hW => ?_)
    refine lv_goto (tgt := 23) hx hb dL_tell_12 (by decide) ?_
    refine lv_iconst (v := 0) hx hb dL_tell_23 (by decide) ?_
    exact we_iL C hW hr rfl dL_tell_24
  · refine vx_ite (fun hx0 => ?_) (fun hx0 => ?_)
    · subst hx0
      refine vx_catch C.1.1.1.2.2.2.1 [] ⟨0, 12, 15, 13⟩ [⟨0, 12, 19, 15⟩] (C.2.2.2.trans rfl) (fun _ h => absurd h List.not_mem_nil) (by decide) (by decide) (C.1.1.1.2.2.2.2 _ w_2_225) (va_Nw.use rfl (C.1.2.2.2 _ (List.mem_append_left _ (List.mem_map.mpr ⟨0, by decide, rfl⟩)))) hce hcv hcl ?_
      refine lv_astore (lv' := [(5, .ref q)]) hx hb dL_tell_15 (lv_sub hl [] rfl) (by decide) rfl (fun ls hl => ?_)
      refine lv_iconst (v := 1) hx hb dL_tell_17 (by decide) ?_
      exact we_iL C hW hr rfl dL_tell_18
    · refine vx_ite (fun hx1 => ?_) (fun hx1 => ?_)
      · subst hx1
        refine vx_catch C.1.1.1.2.2.2.1 [⟨0, 12, 15, 13⟩] ⟨0, 12, 19, 15⟩ [] (C.2.2.2.trans rfl) (List.forall_mem_cons.mpr ⟨Or.inr ⟨by decide, _, C.1.1.1.2.2.2.2 _ w_2_225, C.2.1 1 (by decide) 0 (by decide) (by decide)⟩, (fun _ h => absurd h List.not_mem_nil)⟩) (by decide) (by decide) (C.1.1.1.2.2.2.2 _ w_2_226) (va_Nw.use rfl (C.1.2.2.2 _ (List.mem_append_left _ (List.mem_map.mpr ⟨1, by decide, rfl⟩)))) hce hcv hcl ?_
        refine lv_astore (lv' := [(5, .ref q)]) hx hb dL_tell_19 (lv_sub hl [] rfl) (by decide) rfl (fun ls hl => ?_)
        refine lv_iconst (v := 2) hx hb dL_tell_21 (by decide) ?_
        exact we_iL C hW hr rfl dL_tell_22
      · exact vx_none
def fL_untell (M : KS) (a1 : Int32) (a2 : Int32) (a3 : Int32) (v : Int64) : Option (Int32 × KS × Int64) := (fX9_untell M a1 a2 a3).bind fun r => match r with | .inr a => some (0, a.2, Int32.toInt64 a.1) | .inl q => if q.1 = 0 then some (1, q.2, v) else if q.1 = 1 then some (2, q.2, v) else none
set_option maxHeartbeats 4000000 in
set_option maxRecDepth 100000 in
theorem kL_untell (l : Launch) (hl9 : l.stackTraces = false) (E : KE) (ad : Nat → Nat) (M : KS) (a1 : Int32) (a2 : Int32) (a3 : Int32) (qo : Nat) (v : Int64) : CWL l yL_untell cL_untell 6 [(0, 12, 15, 13), (0, 12, 19, 15)] { frames := 7, cells := 1, slots := 6, locals := 179 } E ad [.ref (ad 121), .int a1, .int a2, .int a3, .ref qo] M qo v (fL_untell M a1 a2 a3 v) := by
  refine CWL.ofW rfl (Nat.le_of_ble_eq_true rfl) (fun sz p e s m args below meth c C hr hW ls hl => ?_)
  have hx := C.1.1.1.1
  have hb := C.1.1.1.2.1
  have hl : lv_has ls 6 [(0, .ref (ad 121)), (1, .int a1), (2, .int a2), (3, .int a3), (4, .ref qo)] := hl
  unfold fL_untell
  refine lv_aload hx hb dL_untell_0 (lv_at hl 4 rfl) ?_
  refine lv_iconst (v := 0) hx hb dL_untell_2 (by decide) ?_
  refine lv_aload_n hx hb dL_untell_3 rfl (lv_at hl 0 rfl) ?_
  refine lv_iload_n hx hb dL_untell_4 rfl (lv_at hl 1 rfl) ?_
  refine lv_iload_n hx hb dL_untell_5 rfl (lv_at hl 2 rfl) ?_
  refine lv_iload_n hx hb dL_untell_6 rfl (lv_at hl 3 rfl) ?_
  refine wr_iL C hW.2.1 (kx_V C.1.1 C.1.2 hW.1 w_3_131 lc_yX9_untell li_yX9_untell (kX9_untell l hl9 E ad M a1 a2 a3) (As := [.int a1, .int a2, .int a3]) rfl dL_untell_7 rfl hl.1 (Nat.le_of_ble_eq_true rfl) ⟨rfl, rfl⟩ ⟨Nat.le_of_ble_eq_true rfl, Nat.le_of_ble_eq_true rfl⟩ ⟨Nat.le_of_ble_eq_true rfl, Nat.le_of_ble_eq_true rfl⟩) (fun a M1 H locs hW => ?_) (fun x M1 H locs q ce hW hce hcv hcl => ?_)
  · refine lv_i2l (v := Int32.toInt64 a) hx hb dL_untell_10 rfl ?_
    refine wr_astL C hW dL_untell_11 (fun H locs hW => ?_)
    refine lv_goto (tgt := 23) hx hb dL_untell_12 (by decide) ?_
    refine lv_iconst (v := 0) hx hb dL_untell_23 (by decide) ?_
    exact we_iL C hW hr rfl dL_untell_24
  · refine vx_ite (fun hx0 => ?_) (fun hx0 => ?_)
    · subst hx0
      refine vx_catch C.1.1.1.2.2.2.1 [] ⟨0, 12, 15, 13⟩ [⟨0, 12, 19, 15⟩] (C.2.2.2.trans rfl) (fun _ h => absurd h List.not_mem_nil) (by decide) (by decide) (C.1.1.1.2.2.2.2 _ w_2_225) (va_Nw.use rfl (C.1.2.2.2 _ (List.mem_append_left _ (List.mem_map.mpr ⟨0, by decide, rfl⟩)))) hce hcv hcl ?_
      refine lv_astore (lv' := [(5, .ref q)]) hx hb dL_untell_15 (lv_sub hl [] rfl) (by decide) rfl (fun ls hl => ?_)
      refine lv_iconst (v := 1) hx hb dL_untell_17 (by decide) ?_
      exact we_iL C hW hr rfl dL_untell_18
    · refine vx_ite (fun hx1 => ?_) (fun hx1 => ?_)
      · subst hx1
        refine vx_catch C.1.1.1.2.2.2.1 [⟨0, 12, 15, 13⟩] ⟨0, 12, 19, 15⟩ [] (C.2.2.2.trans rfl) (List.forall_mem_cons.mpr ⟨Or.inr ⟨by decide, _, C.1.1.1.2.2.2.2 _ w_2_225, C.2.1 1 (by decide) 0 (by decide) (by decide)⟩, (fun _ h => absurd h List.not_mem_nil)⟩) (by decide) (by decide) (C.1.1.1.2.2.2.2 _ w_2_226) (va_Nw.use rfl (C.1.2.2.2 _ (List.mem_append_left _ (List.mem_map.mpr ⟨1, by decide, rfl⟩)))) hce hcv hcl ?_
        refine lv_astore (lv' := [(5, .ref q)]) hx hb dL_untell_19 (lv_sub hl [] rfl) (by decide) rfl (fun ls hl => ?_)
        refine lv_iconst (v := 2) hx hb dL_untell_21 (by decide) ?_
        exact we_iL C hW hr rfl dL_untell_22
      · exact vx_none
def fL_holds (M : KS) (a1 : Int32) (a2 : Int32) (a3 : Int32) (a4 : Int32) (v : Int64) : Option (Int32 × KS × Int64) := (fX9_holds M a1 a2 a3 a4).bind fun r => match r with | .inr a => if a.1 = 0 then some (0, a.2, 0) else some (0, a.2, 1) | .inl q => if q.1 = 0 then some (1, q.2, v) else none
set_option maxHeartbeats 4000000 in
set_option maxRecDepth 100000 in
theorem kL_holds (l : Launch) (hl9 : l.stackTraces = false) (E : KE) (ad : Nat → Nat) (M : KS) (a1 : Int32) (a2 : Int32) (a3 : Int32) (a4 : Int32) (qo : Nat) (v : Int64) : CWL l yL_holds cL_holds 7 [(0, 21, 24, 13)] { frames := 7, cells := 1, slots := 6, locals := 180 } E ad [.ref (ad 121), .int a1, .int a2, .int a3, .int a4, .ref qo] M qo v (fL_holds M a1 a2 a3 a4 v) := by
  refine CWL.ofW rfl (Nat.le_of_ble_eq_true rfl) (fun sz p e s m args below meth c C hr hW ls hl => ?_)
  have hx := C.1.1.1.1
  have hb := C.1.1.1.2.1
  have hl : lv_has ls 7 [(0, .ref (ad 121)), (1, .int a1), (2, .int a2), (3, .int a3), (4, .int a4), (5, .ref qo)] := hl
  unfold fL_holds
  refine lv_aload hx hb dL_holds_0 (lv_at hl 5 rfl) ?_
  refine lv_iconst (v := 0) hx hb dL_holds_2 (by decide) ?_
  refine lv_aload_n hx hb dL_holds_3 rfl (lv_at hl 0 rfl) ?_
  refine lv_iload_n hx hb dL_holds_4 rfl (lv_at hl 1 rfl) ?_
  refine lv_iload_n hx hb dL_holds_5 rfl (lv_at hl 2 rfl) ?_
  refine lv_iload_n hx hb dL_holds_6 rfl (lv_at hl 3 rfl) ?_
  refine lv_iload hx hb dL_holds_7 (lv_at hl 4 rfl) ?_
  refine wr_iL C hW.2.1 (kx_V C.1.1 C.1.2 hW.1 w_3_147 lc_yX9_holds li_yX9_holds (kX9_holds l hl9 E ad M a1 a2 a3 a4) (As := [.int a1, .int a2, .int a3, .int a4]) rfl dL_holds_9 rfl hl.1 (Nat.le_of_ble_eq_true rfl) ⟨rfl, rfl⟩ ⟨Nat.le_of_ble_eq_true rfl, Nat.le_of_ble_eq_true rfl⟩ ⟨Nat.le_of_ble_eq_true rfl, Nat.le_of_ble_eq_true rfl⟩) (fun a M1 H locs hW => ?_) (fun x M1 H locs q ce hW hce hcv hcl => ?_)
  · refine kb_if_eq (tgt := 19) hx hb dL_holds_12 (by decide) (fun _ => ?_) (fun _ => ?_)
    · refine lv_lconst (v := 0) hx hb dL_holds_19 (by decide) ?_
      refine wr_astL C hW dL_holds_20 (fun H locs hW => ?_)
      refine lv_goto (tgt := 28) hx hb dL_holds_21 (by decide) ?_
      refine lv_iconst (v := 0) hx hb dL_holds_28 (by decide) ?_
      exact we_iL C hW hr rfl dL_holds_29
    · refine lv_lconst (v := 1) hx hb dL_holds_15 (by decide) ?_
      refine lv_goto (tgt := 20) hx hb dL_holds_16 (by decide) ?_
      refine wr_astL C hW dL_holds_20 (fun H locs hW => ?_)
      refine lv_goto (tgt := 28) hx hb dL_holds_21 (by decide) ?_
      refine lv_iconst (v := 0) hx hb dL_holds_28 (by decide) ?_
      exact we_iL C hW hr rfl dL_holds_29
  · refine vx_ite (fun hx0 => ?_) (fun hx0 => ?_)
    · subst hx0
      refine vx_catch C.1.1.1.2.2.2.1 [] ⟨0, 21, 24, 13⟩ [] (C.2.2.2.trans rfl) (fun _ h => absurd h List.not_mem_nil) (by decide) (by decide) (C.1.1.1.2.2.2.2 _ w_2_225) (va_Nw.use rfl (C.1.2.2.2 _ (List.mem_append_left _ (List.mem_map.mpr ⟨0, by decide, rfl⟩)))) hce hcv hcl ?_
      refine lv_astore (lv' := [(6, .ref q)]) hx hb dL_holds_24 (lv_sub hl [] rfl) (by decide) rfl (fun ls hl => ?_)
      refine lv_iconst (v := 1) hx hb dL_holds_26 (by decide) ?_
      exact we_iL C hW hr rfl dL_holds_27
    · exact vx_none
def fL_isTold (M : KS) (a1 : Int32) (a2 : Int32) (a3 : Int32) (v : Int64) : Option (Int32 × KS × Int64) := (fX9_isTold M a1 a2 a3).bind fun r => match r with | .inr a => if a.1 = 0 then some (0, a.2, 0) else some (0, a.2, 1) | .inl q => if q.1 = 0 then some (1, q.2, v) else none
set_option maxHeartbeats 4000000 in
set_option maxRecDepth 100000 in
theorem kL_isTold (l : Launch) (hl9 : l.stackTraces = false) (E : KE) (ad : Nat → Nat) (M : KS) (a1 : Int32) (a2 : Int32) (a3 : Int32) (qo : Nat) (v : Int64) : CWL l yL_isTold cL_isTold 6 [(0, 19, 22, 13)] { frames := 7, cells := 1, slots := 6, locals := 105 } E ad [.ref (ad 121), .int a1, .int a2, .int a3, .ref qo] M qo v (fL_isTold M a1 a2 a3 v) := by
  refine CWL.ofW rfl (Nat.le_of_ble_eq_true rfl) (fun sz p e s m args below meth c C hr hW ls hl => ?_)
  have hx := C.1.1.1.1
  have hb := C.1.1.1.2.1
  have hl : lv_has ls 6 [(0, .ref (ad 121)), (1, .int a1), (2, .int a2), (3, .int a3), (4, .ref qo)] := hl
  unfold fL_isTold
  refine lv_aload hx hb dL_isTold_0 (lv_at hl 4 rfl) ?_
  refine lv_iconst (v := 0) hx hb dL_isTold_2 (by decide) ?_
  refine lv_aload_n hx hb dL_isTold_3 rfl (lv_at hl 0 rfl) ?_
  refine lv_iload_n hx hb dL_isTold_4 rfl (lv_at hl 1 rfl) ?_
  refine lv_iload_n hx hb dL_isTold_5 rfl (lv_at hl 2 rfl) ?_
  refine lv_iload_n hx hb dL_isTold_6 rfl (lv_at hl 3 rfl) ?_
  refine wr_iL C hW.2.1 (kx_V C.1.1 C.1.2 hW.1 w_3_154 lc_yX9_isTold li_yX9_isTold (kX9_isTold l hl9 E ad M a1 a2 a3) (As := [.int a1, .int a2, .int a3]) rfl dL_isTold_7 rfl hl.1 (Nat.le_of_ble_eq_true rfl) ⟨rfl, rfl⟩ ⟨Nat.le_of_ble_eq_true rfl, Nat.le_of_ble_eq_true rfl⟩ ⟨Nat.le_of_ble_eq_true rfl, Nat.le_of_ble_eq_true rfl⟩) (fun a M1 H locs hW => ?_) (fun x M1 H locs q ce hW hce hcv hcl => ?_)
  · refine kb_if_eq (tgt := 17) hx hb dL_isTold_10 (by decide) (fun _ => ?_) (fun _ => ?_)
    · refine lv_lconst (v := 0) hx hb dL_isTold_17 (by decide) ?_
      refine wr_astL C hW dL_isTold_18 (fun H locs hW => ?_)
      refine lv_goto (tgt := 26) hx hb dL_isTold_19 (by decide) ?_
      refine lv_iconst (v := 0) hx hb dL_isTold_26 (by decide) ?_
      exact we_iL C hW hr rfl dL_isTold_27
    · refine lv_lconst (v := 1) hx hb dL_isTold_13 (by decide) ?_
      refine lv_goto (tgt := 18) hx hb dL_isTold_14 (by decide) ?_
      refine wr_astL C hW dL_isTold_18 (fun H locs hW => ?_)
      refine lv_goto (tgt := 26) hx hb dL_isTold_19 (by decide) ?_
      refine lv_iconst (v := 0) hx hb dL_isTold_26 (by decide) ?_
      exact we_iL C hW hr rfl dL_isTold_27
  · refine vx_ite (fun hx0 => ?_) (fun hx0 => ?_)
    · subst hx0
      refine vx_catch C.1.1.1.2.2.2.1 [] ⟨0, 19, 22, 13⟩ [] (C.2.2.2.trans rfl) (fun _ h => absurd h List.not_mem_nil) (by decide) (by decide) (C.1.1.1.2.2.2.2 _ w_2_225) (va_Nw.use rfl (C.1.2.2.2 _ (List.mem_append_left _ (List.mem_map.mpr ⟨0, by decide, rfl⟩)))) hce hcv hcl ?_
      refine lv_astore (lv' := [(5, .ref q)]) hx hb dL_isTold_22 (lv_sub hl [] rfl) (by decide) rfl (fun ls hl => ?_)
      refine lv_iconst (v := 1) hx hb dL_isTold_24 (by decide) ?_
      exact we_iL C hW hr rfl dL_isTold_25
    · exact vx_none
def fL_factOf (M : KS) (a1 : Int32) (a2 : Int32) (a3 : Int32) (a4 : Int32) (v : Int64) : Option (Int32 × KS × Int64) := (fX9_factOf M a1 a2 a3 a4).bind fun r => match r with | .inr a => some (0, a.2, Int32.toInt64 a.1) | .inl q => if q.1 = 0 then some (1, q.2, v) else if q.1 = 2 then some (2, q.2, v) else if q.1 = 3 then some (3, q.2, v) else none
set_option maxHeartbeats 4000000 in
set_option maxRecDepth 100000 in
theorem kL_factOf (l : Launch) (hl9 : l.stackTraces = false) (E : KE) (ad : Nat → Nat) (M : KS) (a1 : Int32) (a2 : Int32) (a3 : Int32) (a4 : Int32) (qo : Nat) (v : Int64) : CWL l yL_factOf cL_factOf 7 [(0, 14, 17, 13), (0, 14, 21, 32), (0, 14, 25, 34)] { frames := 7, cells := 1, slots := 6, locals := 161 } E ad [.ref (ad 121), .int a1, .int a2, .int a3, .int a4, .ref qo] M qo v (fL_factOf M a1 a2 a3 a4 v) := by
  refine CWL.ofW rfl (Nat.le_of_ble_eq_true rfl) (fun sz p e s m args below meth c C hr hW ls hl => ?_)
  have hx := C.1.1.1.1
  have hb := C.1.1.1.2.1
  have hl : lv_has ls 7 [(0, .ref (ad 121)), (1, .int a1), (2, .int a2), (3, .int a3), (4, .int a4), (5, .ref qo)] := hl
  unfold fL_factOf
  refine lv_aload hx hb dL_factOf_0 (lv_at hl 5 rfl) ?_
  refine lv_iconst (v := 0) hx hb dL_factOf_2 (by decide) ?_
  refine lv_aload_n hx hb dL_factOf_3 rfl (lv_at hl 0 rfl) ?_
  refine lv_iload_n hx hb dL_factOf_4 rfl (lv_at hl 1 rfl) ?_
  refine lv_iload_n hx hb dL_factOf_5 rfl (lv_at hl 2 rfl) ?_
  refine lv_iload_n hx hb dL_factOf_6 rfl (lv_at hl 3 rfl) ?_
  refine lv_iload hx hb dL_factOf_7 (lv_at hl 4 rfl) ?_
  refine wr_iL C hW.2.1 (kx_V C.1.1 C.1.2 hW.1 w_3_186 lc_yX9_factOf li_yX9_factOf (kX9_factOf l hl9 E ad M a1 a2 a3 a4) (As := [.int a1, .int a2, .int a3, .int a4]) rfl dL_factOf_9 rfl hl.1 (Nat.le_of_ble_eq_true rfl) ⟨rfl, rfl⟩ ⟨Nat.le_of_ble_eq_true rfl, Nat.le_of_ble_eq_true rfl⟩ ⟨Nat.le_of_ble_eq_true rfl, Nat.le_of_ble_eq_true rfl⟩) (fun a M1 H locs hW => ?_) (fun x M1 H locs q ce hW hce hcv hcl => ?_)
  · refine lv_i2l (v := Int32.toInt64 a) hx hb dL_factOf_12 rfl ?_
    refine wr_astL C hW dL_factOf_13 (fun H locs hW => ?_)
    refine lv_goto (tgt := 29) hx hb dL_factOf_14 (by decide) ?_
    refine lv_iconst (v := 0) hx hb dL_factOf_29 (by decide) ?_
    exact we_iL C hW hr rfl dL_factOf_30
  · refine vx_ite (fun hx0 => ?_) (fun hx0 => ?_)
    · subst hx0
      refine vx_catch C.1.1.1.2.2.2.1 [] ⟨0, 14, 17, 13⟩ [⟨0, 14, 21, 32⟩, ⟨0, 14, 25, 34⟩] (C.2.2.2.trans rfl) (fun _ h => absurd h List.not_mem_nil) (by decide) (by decide) (C.1.1.1.2.2.2.2 _ w_2_225) (va_Nw.use rfl (C.1.2.2.2 _ (List.mem_append_left _ (List.mem_map.mpr ⟨0, by decide, rfl⟩)))) hce hcv hcl ?_
      refine lv_astore (lv' := [(6, .ref q)]) hx hb dL_factOf_17 (lv_sub hl [] rfl) (by decide) rfl (fun ls hl => ?_)
      refine lv_iconst (v := 1) hx hb dL_factOf_19 (by decide) ?_
      exact we_iL C hW hr rfl dL_factOf_20
    · refine vx_ite (fun hx1 => ?_) (fun hx1 => ?_)
      · subst hx1
        refine vx_catch C.1.1.1.2.2.2.1 [⟨0, 14, 17, 13⟩] ⟨0, 14, 21, 32⟩ [⟨0, 14, 25, 34⟩] (C.2.2.2.trans rfl) (List.forall_mem_cons.mpr ⟨Or.inr ⟨by decide, _, C.1.1.1.2.2.2.2 _ w_2_225, C.2.1 2 (by decide) 0 (by decide) (by decide)⟩, (fun _ h => absurd h List.not_mem_nil)⟩) (by decide) (by decide) (C.1.1.1.2.2.2.2 _ w_3_161) (va_Nw.use rfl (C.1.2.2.2 _ (List.mem_append_left _ (List.mem_map.mpr ⟨2, by decide, rfl⟩)))) hce hcv hcl ?_
        refine lv_astore (lv' := [(6, .ref q)]) hx hb dL_factOf_21 (lv_sub hl [] rfl) (by decide) rfl (fun ls hl => ?_)
        refine lv_iconst (v := 2) hx hb dL_factOf_23 (by decide) ?_
        exact we_iL C hW hr rfl dL_factOf_24
      · refine vx_ite (fun hx2 => ?_) (fun hx2 => ?_)
        · subst hx2
          refine vx_catch C.1.1.1.2.2.2.1 [⟨0, 14, 17, 13⟩, ⟨0, 14, 21, 32⟩] ⟨0, 14, 25, 34⟩ [] (C.2.2.2.trans rfl) (List.forall_mem_cons.mpr ⟨Or.inr ⟨by decide, _, C.1.1.1.2.2.2.2 _ w_2_225, C.2.1 3 (by decide) 0 (by decide) (by decide)⟩, (List.forall_mem_cons.mpr ⟨Or.inr ⟨by decide, _, C.1.1.1.2.2.2.2 _ w_3_161, C.2.1 3 (by decide) 2 (by decide) (by decide)⟩, (fun _ h => absurd h List.not_mem_nil)⟩)⟩) (by decide) (by decide) (C.1.1.1.2.2.2.2 _ w_3_162) (va_Nw.use rfl (C.1.2.2.2 _ (List.mem_append_left _ (List.mem_map.mpr ⟨3, by decide, rfl⟩)))) hce hcv hcl ?_
          refine lv_astore (lv' := [(6, .ref q)]) hx hb dL_factOf_25 (lv_sub hl [] rfl) (by decide) rfl (fun ls hl => ?_)
          refine lv_iconst (v := 3) hx hb dL_factOf_27 (by decide) ?_
          exact we_iL C hW hr rfl dL_factOf_28
        · exact vx_none
def fL_ways (M : KS) (a1 : Int32) (a2 : Int32) (a3 : Int32) (v : Int64) : Option (Int32 × KS × Int64) := (fX9_ways M a1 a2 a3).bind fun r => match r with | .inr a => some (0, a.2, Int32.toInt64 a.1) | .inl q => if q.1 = 0 then some (1, q.2, v) else none
set_option maxHeartbeats 4000000 in
set_option maxRecDepth 100000 in
theorem kL_ways (l : Launch) (hl9 : l.stackTraces = false) (E : KE) (ad : Nat → Nat) (M : KS) (a1 : Int32) (a2 : Int32) (a3 : Int32) (qo : Nat) (v : Int64) : CWL l yL_ways cL_ways 6 [(0, 12, 15, 13)] { frames := 7, cells := 1, slots := 6, locals := 178 } E ad [.ref (ad 121), .int a1, .int a2, .int a3, .ref qo] M qo v (fL_ways M a1 a2 a3 v) := by
  refine CWL.ofW rfl (Nat.le_of_ble_eq_true rfl) (fun sz p e s m args below meth c C hr hW ls hl => ?_)
  have hx := C.1.1.1.1
  have hb := C.1.1.1.2.1
  have hl : lv_has ls 6 [(0, .ref (ad 121)), (1, .int a1), (2, .int a2), (3, .int a3), (4, .ref qo)] := hl
  unfold fL_ways
  refine lv_aload hx hb dL_ways_0 (lv_at hl 4 rfl) ?_
  refine lv_iconst (v := 0) hx hb dL_ways_2 (by decide) ?_
  refine lv_aload_n hx hb dL_ways_3 rfl (lv_at hl 0 rfl) ?_
  refine lv_iload_n hx hb dL_ways_4 rfl (lv_at hl 1 rfl) ?_
  refine lv_iload_n hx hb dL_ways_5 rfl (lv_at hl 2 rfl) ?_
  refine lv_iload_n hx hb dL_ways_6 rfl (lv_at hl 3 rfl) ?_
  refine wr_iL C hW.2.1 (kx_V C.1.1 C.1.2 hW.1 w_3_236 lc_yX9_ways li_yX9_ways (kX9_ways l hl9 E ad M a1 a2 a3) (As := [.int a1, .int a2, .int a3]) rfl dL_ways_7 rfl hl.1 (Nat.le_of_ble_eq_true rfl) ⟨rfl, rfl⟩ ⟨Nat.le_of_ble_eq_true rfl, Nat.le_of_ble_eq_true rfl⟩ ⟨Nat.le_of_ble_eq_true rfl, Nat.le_of_ble_eq_true rfl⟩) (fun a M1 H locs hW => ?_) (fun x M1 H locs q ce hW hce hcv hcl => ?_)
  · refine lv_i2l (v := Int32.toInt64 a) hx hb dL_ways_10 rfl ?_
    refine wr_astL C hW dL_ways_11 (fun H locs hW => ?_)
    refine lv_goto (tgt := 19) hx hb dL_ways_12 (by decide) ?_
    refine lv_iconst (v := 0) hx hb dL_ways_19 (by decide) ?_
    exact we_iL C hW hr rfl dL_ways_20
  · refine vx_ite (fun hx0 => ?_) (fun hx0 => ?_)
    · subst hx0
      refine vx_catch C.1.1.1.2.2.2.1 [] ⟨0, 12, 15, 13⟩ [] (C.2.2.2.trans rfl) (fun _ h => absurd h List.not_mem_nil) (by decide) (by decide) (C.1.1.1.2.2.2.2 _ w_2_225) (va_Nw.use rfl (C.1.2.2.2 _ (List.mem_append_left _ (List.mem_map.mpr ⟨0, by decide, rfl⟩)))) hce hcv hcl ?_
      refine lv_astore (lv' := [(5, .ref q)]) hx hb dL_ways_15 (lv_sub hl [] rfl) (by decide) rfl (fun ls hl => ?_)
      refine lv_iconst (v := 1) hx hb dL_ways_17 (by decide) ?_
      exact we_iL C hW hr rfl dL_ways_18
    · exact vx_none
def fL_would (M : KS) (a1 : Int32) (a2 : Int32) (a3 : Int32) (v : Int64) : Option (Int32 × KS × Int64) := (fX9_would M a1 a2 a3).bind fun r => match r with | .inr a => some (0, a.2, Int32.toInt64 a.1) | .inl q => if q.1 = 0 then some (1, q.2, v) else none
set_option maxHeartbeats 4000000 in
set_option maxRecDepth 100000 in
theorem kL_would (l : Launch) (hl9 : l.stackTraces = false) (E : KE) (ad : Nat → Nat) (M : KS) (a1 : Int32) (a2 : Int32) (a3 : Int32) (qo : Nat) (v : Int64) : CWL l yL_would cL_would 6 [(0, 12, 15, 13)] { frames := 7, cells := 1, slots := 6, locals := 180 } E ad [.ref (ad 121), .int a1, .int a2, .int a3, .ref qo] M qo v (fL_would M a1 a2 a3 v) := by
  refine CWL.ofW rfl (Nat.le_of_ble_eq_true rfl) (fun sz p e s m args below meth c C hr hW ls hl => ?_)
  have hx := C.1.1.1.1
  have hb := C.1.1.1.2.1
  have hl : lv_has ls 6 [(0, .ref (ad 121)), (1, .int a1), (2, .int a2), (3, .int a3), (4, .ref qo)] := hl
  unfold fL_would
  refine lv_aload hx hb dL_would_0 (lv_at hl 4 rfl) ?_
  refine lv_iconst (v := 0) hx hb dL_would_2 (by decide) ?_
  refine lv_aload_n hx hb dL_would_3 rfl (lv_at hl 0 rfl) ?_
  refine lv_iload_n hx hb dL_would_4 rfl (lv_at hl 1 rfl) ?_
  refine lv_iload_n hx hb dL_would_5 rfl (lv_at hl 2 rfl) ?_
  refine lv_iload_n hx hb dL_would_6 rfl (lv_at hl 3 rfl) ?_
  refine wr_iL C hW.2.1 (kx_V C.1.1 C.1.2 hW.1 w_4_4 lc_yX9_would li_yX9_would (kX9_would l hl9 E ad M a1 a2 a3) (As := [.int a1, .int a2, .int a3]) rfl dL_would_7 rfl hl.1 (Nat.le_of_ble_eq_true rfl) ⟨rfl, rfl⟩ ⟨Nat.le_of_ble_eq_true rfl, Nat.le_of_ble_eq_true rfl⟩ ⟨Nat.le_of_ble_eq_true rfl, Nat.le_of_ble_eq_true rfl⟩) (fun a M1 H locs hW => ?_) (fun x M1 H locs q ce hW hce hcv hcl => ?_)
  · refine lv_i2l (v := Int32.toInt64 a) hx hb dL_would_10 rfl ?_
    refine wr_astL C hW dL_would_11 (fun H locs hW => ?_)
    refine lv_goto (tgt := 19) hx hb dL_would_12 (by decide) ?_
    refine lv_iconst (v := 0) hx hb dL_would_19 (by decide) ?_
    exact we_iL C hW hr rfl dL_would_20
  · refine vx_ite (fun hx0 => ?_) (fun hx0 => ?_)
    · subst hx0
      refine vx_catch C.1.1.1.2.2.2.1 [] ⟨0, 12, 15, 13⟩ [] (C.2.2.2.trans rfl) (fun _ h => absurd h List.not_mem_nil) (by decide) (by decide) (C.1.1.1.2.2.2.2 _ w_2_225) (va_Nw.use rfl (C.1.2.2.2 _ (List.mem_append_left _ (List.mem_map.mpr ⟨0, by decide, rfl⟩)))) hce hcv hcl ?_
      refine lv_astore (lv' := [(5, .ref q)]) hx hb dL_would_15 (lv_sub hl [] rfl) (by decide) rfl (fun ls hl => ?_)
      refine lv_iconst (v := 1) hx hb dL_would_17 (by decide) ?_
      exact we_iL C hW hr rfl dL_would_18
    · exact vx_none
def fL_kin (M : KS) (a1 : Int32) (a2 : Int32) (v : Int64) : Option (Int32 × KS × Int64) := (fX9_kin M a1 a2).bind fun r => match r with | .inr a => some (0, a.2, Int32.toInt64 a.1) | .inl q => if q.1 = 0 then some (1, q.2, v) else none
set_option maxHeartbeats 4000000 in
set_option maxRecDepth 100000 in
theorem kL_kin (l : Launch) (hl9 : l.stackTraces = false) (E : KE) (ad : Nat → Nat) (M : KS) (a1 : Int32) (a2 : Int32) (qo : Nat) (v : Int64) : CWL l yL_kin cL_kin 5 [(0, 10, 13, 13)] { frames := 7, cells := 1, slots := 6, locals := 177 } E ad [.ref (ad 121), .int a1, .int a2, .ref qo] M qo v (fL_kin M a1 a2 v) := by
  refine CWL.ofW rfl (Nat.le_of_ble_eq_true rfl) (fun sz p e s m args below meth c C hr hW ls hl => ?_)
  have hx := C.1.1.1.1
  have hb := C.1.1.1.2.1
  have hl : lv_has ls 5 [(0, .ref (ad 121)), (1, .int a1), (2, .int a2), (3, .ref qo)] := hl
  unfold fL_kin
  refine lv_aload_n hx hb dL_kin_0 rfl (lv_at hl 3 rfl) ?_
  refine lv_iconst (v := 0) hx hb dL_kin_1 (by decide) ?_
  refine lv_aload_n hx hb dL_kin_2 rfl (lv_at hl 0 rfl) ?_
  refine lv_iload_n hx hb dL_kin_3 rfl (lv_at hl 1 rfl) ?_
  refine lv_iload_n hx hb dL_kin_4 rfl (lv_at hl 2 rfl) ?_
  refine wr_iL C hW.2.1 (kx_V C.1.1 C.1.2 hW.1 w_4_16 lc_yX9_kin li_yX9_kin (kX9_kin l hl9 E ad M a1 a2) (As := [.int a1, .int a2]) rfl dL_kin_5 rfl hl.1 (Nat.le_of_ble_eq_true rfl) ⟨rfl, rfl⟩ ⟨Nat.le_of_ble_eq_true rfl, Nat.le_of_ble_eq_true rfl⟩ ⟨Nat.le_of_ble_eq_true rfl, Nat.le_of_ble_eq_true rfl⟩) (fun a M1 H locs hW => ?_) (fun x M1 H locs q ce hW hce hcv hcl => ?_)
  · refine lv_i2l (v := Int32.toInt64 a) hx hb dL_kin_8 rfl ?_
    refine wr_astL C hW dL_kin_9 (fun H locs hW => ?_)
    refine lv_goto (tgt := 17) hx hb dL_kin_10 (by decide) ?_
    refine lv_iconst (v := 0) hx hb dL_kin_17 (by decide) ?_
    exact we_iL C hW hr rfl dL_kin_18
  · refine vx_ite (fun hx0 => ?_) (fun hx0 => ?_)
    · subst hx0
      refine vx_catch C.1.1.1.2.2.2.1 [] ⟨0, 10, 13, 13⟩ [] (C.2.2.2.trans rfl) (fun _ h => absurd h List.not_mem_nil) (by decide) (by decide) (C.1.1.1.2.2.2.2 _ w_2_225) (va_Nw.use rfl (C.1.2.2.2 _ (List.mem_append_left _ (List.mem_map.mpr ⟨0, by decide, rfl⟩)))) hce hcv hcl ?_
      refine lv_astore (lv' := [(4, .ref q)]) hx hb dL_kin_13 (lv_sub hl [] rfl) (by decide) rfl (fun ls hl => ?_)
      refine lv_iconst (v := 1) hx hb dL_kin_15 (by decide) ?_
      exact we_iL C hW hr rfl dL_kin_16
    · exact vx_none
def fL_relationOf (M : KS) (a1 : Int32) (a2 : Int32) (v : Int64) : Option (Int32 × KS × Int64) := (fX9_relationOf M a1 a2).bind fun r => match r with | .inr a => some (0, a.2, Int32.toInt64 a.1) | .inl q => if q.1 = 0 then some (1, q.2, v) else if q.1 = 3 then some (2, q.2, v) else none
set_option maxHeartbeats 4000000 in
set_option maxRecDepth 100000 in
theorem kL_relationOf (l : Launch) (hl9 : l.stackTraces = false) (E : KE) (ad : Nat → Nat) (M : KS) (a1 : Int32) (a2 : Int32) (qo : Nat) (v : Int64) : CWL l yL_relationOf cL_relationOf 5 [(0, 10, 13, 13), (0, 10, 17, 34)] { frames := 7, cells := 1, slots := 6, locals := 177 } E ad [.ref (ad 121), .int a1, .int a2, .ref qo] M qo v (fL_relationOf M a1 a2 v) := by
  refine CWL.ofW rfl (Nat.le_of_ble_eq_true rfl) (fun sz p e s m args below meth c C hr hW ls hl => ?_)
  have hx := C.1.1.1.1
  have hb := C.1.1.1.2.1
  have hl : lv_has ls 5 [(0, .ref (ad 121)), (1, .int a1), (2, .int a2), (3, .ref qo)] := hl
  unfold fL_relationOf
  refine lv_aload_n hx hb dL_relationOf_0 rfl (lv_at hl 3 rfl) ?_
  refine lv_iconst (v := 0) hx hb dL_relationOf_1 (by decide) ?_
  refine lv_aload_n hx hb dL_relationOf_2 rfl (lv_at hl 0 rfl) ?_
  refine lv_iload_n hx hb dL_relationOf_3 rfl (lv_at hl 1 rfl) ?_
  refine lv_iload_n hx hb dL_relationOf_4 rfl (lv_at hl 2 rfl) ?_
  refine wr_iL C hW.2.1 (kx_V C.1.1 C.1.2 hW.1 w_4_24 lc_yX9_relationOf li_yX9_relationOf (kX9_relationOf l hl9 E ad M a1 a2) (As := [.int a1, .int a2]) rfl dL_relationOf_5 rfl hl.1 (Nat.le_of_ble_eq_true rfl) ⟨rfl, rfl⟩ ⟨Nat.le_of_ble_eq_true rfl, Nat.le_of_ble_eq_true rfl⟩ ⟨Nat.le_of_ble_eq_true rfl, Nat.le_of_ble_eq_true rfl⟩) (fun a M1 H locs hW => ?_) (fun x M1 H locs q ce hW hce hcv hcl => ?_)
  · refine lv_i2l (v := Int32.toInt64 a) hx hb dL_relationOf_8 rfl ?_
    refine wr_astL C hW dL_relationOf_9 (fun H locs hW => ?_)
    refine lv_goto (tgt := 21) hx hb dL_relationOf_10 (by decide) ?_
    refine lv_iconst (v := 0) hx hb dL_relationOf_21 (by decide) ?_
    exact we_iL C hW hr rfl dL_relationOf_22
  · refine vx_ite (fun hx0 => ?_) (fun hx0 => ?_)
    · subst hx0
      refine vx_catch C.1.1.1.2.2.2.1 [] ⟨0, 10, 13, 13⟩ [⟨0, 10, 17, 34⟩] (C.2.2.2.trans rfl) (fun _ h => absurd h List.not_mem_nil) (by decide) (by decide) (C.1.1.1.2.2.2.2 _ w_2_225) (va_Nw.use rfl (C.1.2.2.2 _ (List.mem_append_left _ (List.mem_map.mpr ⟨0, by decide, rfl⟩)))) hce hcv hcl ?_
      refine lv_astore (lv' := [(4, .ref q)]) hx hb dL_relationOf_13 (lv_sub hl [] rfl) (by decide) rfl (fun ls hl => ?_)
      refine lv_iconst (v := 1) hx hb dL_relationOf_15 (by decide) ?_
      exact we_iL C hW hr rfl dL_relationOf_16
    · refine vx_ite (fun hx1 => ?_) (fun hx1 => ?_)
      · subst hx1
        refine vx_catch C.1.1.1.2.2.2.1 [⟨0, 10, 13, 13⟩] ⟨0, 10, 17, 34⟩ [] (C.2.2.2.trans rfl) (List.forall_mem_cons.mpr ⟨Or.inr ⟨by decide, _, C.1.1.1.2.2.2.2 _ w_2_225, C.2.1 3 (by decide) 0 (by decide) (by decide)⟩, (fun _ h => absurd h List.not_mem_nil)⟩) (by decide) (by decide) (C.1.1.1.2.2.2.2 _ w_3_162) (va_Nw.use rfl (C.1.2.2.2 _ (List.mem_append_left _ (List.mem_map.mpr ⟨3, by decide, rfl⟩)))) hce hcv hcl ?_
        refine lv_astore (lv' := [(4, .ref q)]) hx hb dL_relationOf_17 (lv_sub hl [] rfl) (by decide) rfl (fun ls hl => ?_)
        refine lv_iconst (v := 2) hx hb dL_relationOf_19 (by decide) ?_
        exact we_iL C hW hr rfl dL_relationOf_20
      · exact vx_none
def fL_ranked (M : KS) (a1 : Int32) (v : Int64) : Option (Int32 × KS × Int64) := (fX9_ranked M a1).bind fun r => match r with | .inr a => some (0, a.2, Int32.toInt64 a.1) | .inl q => if q.1 = 2 then some (1, q.2, v) else none
set_option maxHeartbeats 4000000 in
set_option maxRecDepth 100000 in
theorem kL_ranked (l : Launch) (hl9 : l.stackTraces = false) (E : KE) (ad : Nat → Nat) (M : KS) (a1 : Int32) (qo : Nat) (v : Int64) : CWL l yL_ranked cL_ranked 4 [(0, 9, 12, 32)] { frames := 7, cells := 1, slots := 6, locals := 178 } E ad [.ref (ad 121), .int a1, .ref qo] M qo v (fL_ranked M a1 v) := by
  refine CWL.ofW rfl (Nat.le_of_ble_eq_true rfl) (fun sz p e s m args below meth c C hr hW ls hl => ?_)
  have hx := C.1.1.1.1
  have hb := C.1.1.1.2.1
  have hl : lv_has ls 4 [(0, .ref (ad 121)), (1, .int a1), (2, .ref qo)] := hl
  unfold fL_ranked
  refine lv_aload_n hx hb dL_ranked_0 rfl (lv_at hl 2 rfl) ?_
  refine lv_iconst (v := 0) hx hb dL_ranked_1 (by decide) ?_
  refine lv_aload_n hx hb dL_ranked_2 rfl (lv_at hl 0 rfl) ?_
  refine lv_iload_n hx hb dL_ranked_3 rfl (lv_at hl 1 rfl) ?_
  refine wr_iL C hW.2.1 (kx_V C.1.1 C.1.2 hW.1 w_4_46 lc_yX9_ranked li_yX9_ranked (kX9_ranked l hl9 E ad M a1) (As := [.int a1]) rfl dL_ranked_4 rfl hl.1 (Nat.le_of_ble_eq_true rfl) ⟨rfl, rfl⟩ ⟨Nat.le_of_ble_eq_true rfl, Nat.le_of_ble_eq_true rfl⟩ ⟨Nat.le_of_ble_eq_true rfl, Nat.le_of_ble_eq_true rfl⟩) (fun a M1 H locs hW => ?_) (fun x M1 H locs q ce hW hce hcv hcl => ?_)
  · refine lv_i2l (v := Int32.toInt64 a) hx hb dL_ranked_7 rfl ?_
    refine wr_astL C hW dL_ranked_8 (fun H locs hW => ?_)
    refine lv_goto (tgt := 15) hx hb dL_ranked_9 (by decide) ?_
    refine lv_iconst (v := 0) hx hb dL_ranked_15 (by decide) ?_
    exact we_iL C hW hr rfl dL_ranked_16
  · refine vx_ite (fun hx0 => ?_) (fun hx0 => ?_)
    · subst hx0
      refine vx_catch C.1.1.1.2.2.2.1 [] ⟨0, 9, 12, 32⟩ [] (C.2.2.2.trans rfl) (fun _ h => absurd h List.not_mem_nil) (by decide) (by decide) (C.1.1.1.2.2.2.2 _ w_3_161) (va_Nw.use rfl (C.1.2.2.2 _ (List.mem_append_left _ (List.mem_map.mpr ⟨2, by decide, rfl⟩)))) hce hcv hcl ?_
      refine lv_astore_n (lv' := [(3, .ref q)]) hx hb dL_ranked_12 rfl (lv_sub hl [] rfl) (by decide) rfl (fun ls hl => ?_)
      refine lv_iconst (v := 1) hx hb dL_ranked_13 (by decide) ?_
      exact we_iL C hW hr rfl dL_ranked_14
    · exact vx_none
def fL_isMutual (M : KS) (a1 : Int32) (v : Int64) : Option (Int32 × KS × Int64) := (fX9_isMutual M a1).bind fun r => match r with | .inr a => if a.1 = 0 then some (0, a.2, 0) else some (0, a.2, 1) | .inl q => if q.1 = 0 then some (1, q.2, v) else none
set_option maxHeartbeats 4000000 in
set_option maxRecDepth 100000 in
theorem kL_isMutual (l : Launch) (hl9 : l.stackTraces = false) (E : KE) (ad : Nat → Nat) (M : KS) (a1 : Int32) (qo : Nat) (v : Int64) : CWL l yL_isMutual cL_isMutual 4 [(0, 16, 19, 13)] { frames := 7, cells := 1, slots := 6, locals := 178 } E ad [.ref (ad 121), .int a1, .ref qo] M qo v (fL_isMutual M a1 v) := by
  refine CWL.ofW rfl (Nat.le_of_ble_eq_true rfl) (fun sz p e s m args below meth c C hr hW ls hl => ?_)
  have hx := C.1.1.1.1
  have hb := C.1.1.1.2.1
  have hl : lv_has ls 4 [(0, .ref (ad 121)), (1, .int a1), (2, .ref qo)] := hl
  unfold fL_isMutual
  refine lv_aload_n hx hb dL_isMutual_0 rfl (lv_at hl 2 rfl) ?_
  refine lv_iconst (v := 0) hx hb dL_isMutual_1 (by decide) ?_
  refine lv_aload_n hx hb dL_isMutual_2 rfl (lv_at hl 0 rfl) ?_
  refine lv_iload_n hx hb dL_isMutual_3 rfl (lv_at hl 1 rfl) ?_
  refine wr_iL C hW.2.1 (kx_V C.1.1 C.1.2 hW.1 w_4_57 lc_yX9_isMutual li_yX9_isMutual (kX9_isMutual l hl9 E ad M a1) (As := [.int a1]) rfl dL_isMutual_4 rfl hl.1 (Nat.le_of_ble_eq_true rfl) ⟨rfl, rfl⟩ ⟨Nat.le_of_ble_eq_true rfl, Nat.le_of_ble_eq_true rfl⟩ ⟨Nat.le_of_ble_eq_true rfl, Nat.le_of_ble_eq_true rfl⟩) (fun a M1 H locs hW => ?_) (fun x M1 H locs q ce hW hce hcv hcl => ?_)
  · refine kb_if_eq (tgt := 14) hx hb dL_isMutual_7 (by decide) (fun _ => ?_) (fun _ => ?_)
    · refine lv_lconst (v := 0) hx hb dL_isMutual_14 (by decide) ?_
      refine wr_astL C hW dL_isMutual_15 (fun H locs hW => ?_)
      refine lv_goto (tgt := 22) hx hb dL_isMutual_16 (by decide) ?_
      refine lv_iconst (v := 0) hx hb dL_isMutual_22 (by decide) ?_
      exact we_iL C hW hr rfl dL_isMutual_23
    · refine lv_lconst (v := 1) hx hb dL_isMutual_10 (by decide) ?_
      refine lv_goto (tgt := 15) hx hb dL_isMutual_11 (by decide) ?_
      refine wr_astL C hW dL_isMutual_15 (fun H locs hW => ?_)
      refine lv_goto (tgt := 22) hx hb dL_isMutual_16 (by decide) ?_
      refine lv_iconst (v := 0) hx hb dL_isMutual_22 (by decide) ?_
      exact we_iL C hW hr rfl dL_isMutual_23
  · refine vx_ite (fun hx0 => ?_) (fun hx0 => ?_)
    · subst hx0
      refine vx_catch C.1.1.1.2.2.2.1 [] ⟨0, 16, 19, 13⟩ [] (C.2.2.2.trans rfl) (fun _ h => absurd h List.not_mem_nil) (by decide) (by decide) (C.1.1.1.2.2.2.2 _ w_2_225) (va_Nw.use rfl (C.1.2.2.2 _ (List.mem_append_left _ (List.mem_map.mpr ⟨0, by decide, rfl⟩)))) hce hcv hcl ?_
      refine lv_astore_n (lv' := [(3, .ref q)]) hx hb dL_isMutual_19 rfl (lv_sub hl [] rfl) (by decide) rfl (fun ls hl => ?_)
      refine lv_iconst (v := 1) hx hb dL_isMutual_20 (by decide) ?_
      exact we_iL C hW hr rfl dL_isMutual_21
    · exact vx_none
def fL_rule (M : KS) (a1 : Int32) (a2 : Int32) (a3 : Int32) (a4 : Int32) (v : Int64) : Option (Int32 × KS × Int64) := (fX9_rule M a1 a2 a3 a4).bind fun r => match r with | .inr a => some (0, a.2, Int32.toInt64 a.1) | .inl q => if q.1 = 0 then some (1, q.2, v) else if q.1 = 1 then some (2, q.2, v) else none
set_option maxHeartbeats 4000000 in
set_option maxRecDepth 100000 in
theorem kL_rule (l : Launch) (hl9 : l.stackTraces = false) (E : KE) (ad : Nat → Nat) (M : KS) (a1 : Int32) (a2 : Int32) (a3 : Int32) (a4 : Int32) (qo : Nat) (v : Int64) : CWL l yL_rule cL_rule 7 [(0, 14, 17, 13), (0, 14, 21, 15)] { frames := 7, cells := 1, slots := 6, locals := 124 } E ad [.ref (ad 121), .int a1, .int a2, .int a3, .int a4, .ref qo] M qo v (fL_rule M a1 a2 a3 a4 v) := by
  refine CWL.ofW rfl (Nat.le_of_ble_eq_true rfl) (fun sz p e s m args below meth c C hr hW ls hl => ?_)
  have hx := C.1.1.1.1
  have hb := C.1.1.1.2.1
  have hl : lv_has ls 7 [(0, .ref (ad 121)), (1, .int a1), (2, .int a2), (3, .int a3), (4, .int a4), (5, .ref qo)] := hl
  unfold fL_rule
  refine lv_aload hx hb dL_rule_0 (lv_at hl 5 rfl) ?_
  refine lv_iconst (v := 0) hx hb dL_rule_2 (by decide) ?_
  refine lv_aload_n hx hb dL_rule_3 rfl (lv_at hl 0 rfl) ?_
  refine lv_iload_n hx hb dL_rule_4 rfl (lv_at hl 1 rfl) ?_
  refine lv_iload_n hx hb dL_rule_5 rfl (lv_at hl 2 rfl) ?_
  refine lv_iload_n hx hb dL_rule_6 rfl (lv_at hl 3 rfl) ?_
  refine lv_iload hx hb dL_rule_7 (lv_at hl 4 rfl) ?_
  refine wr_iL C hW.2.1 (kx_V C.1.1 C.1.2 hW.1 w_4_65 lc_yX9_rule li_yX9_rule (kX9_rule l hl9 E ad M a1 a2 a3 a4) (As := [.int a1, .int a2, .int a3, .int a4]) rfl dL_rule_9 rfl hl.1 (Nat.le_of_ble_eq_true rfl) ⟨rfl, rfl⟩ ⟨Nat.le_of_ble_eq_true rfl, Nat.le_of_ble_eq_true rfl⟩ ⟨Nat.le_of_ble_eq_true rfl, Nat.le_of_ble_eq_true rfl⟩) (fun a M1 H locs hW => ?_) (fun x M1 H locs q ce hW hce hcv hcl => ?_)
  · refine lv_i2l (v := Int32.toInt64 a) hx hb dL_rule_12 rfl ?_
    refine wr_astL C hW dL_rule_13 (fun H locs hW => ?_)
    refine lv_goto (tgt := 25) hx hb dL_rule_14 (by decide) ?_
    refine lv_iconst (v := 0) hx hb dL_rule_25 (by decide) ?_
    exact we_iL C hW hr rfl dL_rule_26
  · refine vx_ite (fun hx0 => ?_) (fun hx0 => ?_)
    · subst hx0
      refine vx_catch C.1.1.1.2.2.2.1 [] ⟨0, 14, 17, 13⟩ [⟨0, 14, 21, 15⟩] (C.2.2.2.trans rfl) (fun _ h => absurd h List.not_mem_nil) (by decide) (by decide) (C.1.1.1.2.2.2.2 _ w_2_225) (va_Nw.use rfl (C.1.2.2.2 _ (List.mem_append_left _ (List.mem_map.mpr ⟨0, by decide, rfl⟩)))) hce hcv hcl ?_
      refine lv_astore (lv' := [(6, .ref q)]) hx hb dL_rule_17 (lv_sub hl [] rfl) (by decide) rfl (fun ls hl => ?_)
      refine lv_iconst (v := 1) hx hb dL_rule_19 (by decide) ?_
      exact we_iL C hW hr rfl dL_rule_20
    · refine vx_ite (fun hx1 => ?_) (fun hx1 => ?_)
      · subst hx1
        refine vx_catch C.1.1.1.2.2.2.1 [⟨0, 14, 17, 13⟩] ⟨0, 14, 21, 15⟩ [] (C.2.2.2.trans rfl) (List.forall_mem_cons.mpr ⟨Or.inr ⟨by decide, _, C.1.1.1.2.2.2.2 _ w_2_225, C.2.1 1 (by decide) 0 (by decide) (by decide)⟩, (fun _ h => absurd h List.not_mem_nil)⟩) (by decide) (by decide) (C.1.1.1.2.2.2.2 _ w_2_226) (va_Nw.use rfl (C.1.2.2.2 _ (List.mem_append_left _ (List.mem_map.mpr ⟨1, by decide, rfl⟩)))) hce hcv hcl ?_
        refine lv_astore (lv' := [(6, .ref q)]) hx hb dL_rule_21 (lv_sub hl [] rfl) (by decide) rfl (fun ls hl => ?_)
        refine lv_iconst (v := 2) hx hb dL_rule_23 (by decide) ?_
        exact we_iL C hW hr rfl dL_rule_24
      · exact vx_none
def fL_drop (M : KS) (a1 : Int32) (v : Int64) : Option (Int32 × KS × Int64) := (fX9_drop M a1).bind fun r => match r with | .inr a => some (0, a.2, Int32.toInt64 a.1) | .inl q => if q.1 = 3 then some (1, q.2, v) else none
set_option maxHeartbeats 4000000 in
set_option maxRecDepth 100000 in
theorem kL_drop (l : Launch) (hl9 : l.stackTraces = false) (E : KE) (ad : Nat → Nat) (M : KS) (a1 : Int32) (qo : Nat) (v : Int64) : CWL l yL_drop cL_drop 4 [(0, 9, 12, 34)] { frames := 7, cells := 1, slots := 6, locals := 176 } E ad [.ref (ad 121), .int a1, .ref qo] M qo v (fL_drop M a1 v) := by
  refine CWL.ofW rfl (Nat.le_of_ble_eq_true rfl) (fun sz p e s m args below meth c C hr hW ls hl => ?_)
  have hx := C.1.1.1.1
  have hb := C.1.1.1.2.1
  have hl : lv_has ls 4 [(0, .ref (ad 121)), (1, .int a1), (2, .ref qo)] := hl
  unfold fL_drop
  refine lv_aload_n hx hb dL_drop_0 rfl (lv_at hl 2 rfl) ?_
  refine lv_iconst (v := 0) hx hb dL_drop_1 (by decide) ?_
  refine lv_aload_n hx hb dL_drop_2 rfl (lv_at hl 0 rfl) ?_
  refine lv_iload_n hx hb dL_drop_3 rfl (lv_at hl 1 rfl) ?_
  refine wr_iL C hW.2.1 (kx_V C.1.1 C.1.2 hW.1 w_4_104 lc_yX9_drop li_yX9_drop (kX9_drop l hl9 E ad M a1) (As := [.int a1]) rfl dL_drop_4 rfl hl.1 (Nat.le_of_ble_eq_true rfl) ⟨rfl, rfl⟩ ⟨Nat.le_of_ble_eq_true rfl, Nat.le_of_ble_eq_true rfl⟩ ⟨Nat.le_of_ble_eq_true rfl, Nat.le_of_ble_eq_true rfl⟩) (fun a M1 H locs hW => ?_) (fun x M1 H locs q ce hW hce hcv hcl => ?_)
  · refine lv_i2l (v := Int32.toInt64 a) hx hb dL_drop_7 rfl ?_
    refine wr_astL C hW dL_drop_8 (fun H locs hW => ?_)
    refine lv_goto (tgt := 15) hx hb dL_drop_9 (by decide) ?_
    refine lv_iconst (v := 0) hx hb dL_drop_15 (by decide) ?_
    exact we_iL C hW hr rfl dL_drop_16
  · refine vx_ite (fun hx0 => ?_) (fun hx0 => ?_)
    · subst hx0
      refine vx_catch C.1.1.1.2.2.2.1 [] ⟨0, 9, 12, 34⟩ [] (C.2.2.2.trans rfl) (fun _ h => absurd h List.not_mem_nil) (by decide) (by decide) (C.1.1.1.2.2.2.2 _ w_3_162) (va_Nw.use rfl (C.1.2.2.2 _ (List.mem_append_left _ (List.mem_map.mpr ⟨3, by decide, rfl⟩)))) hce hcv hcl ?_
      refine lv_astore_n (lv' := [(3, .ref q)]) hx hb dL_drop_12 rfl (lv_sub hl [] rfl) (by decide) rfl (fun ls hl => ?_)
      refine lv_iconst (v := 1) hx hb dL_drop_13 (by decide) ?_
      exact we_iL C hW hr rfl dL_drop_14
    · exact vx_none
def fL_ruleOf (M : KS) (a1 : Int32) (a2 : Int32) (v : Int64) : Option (Int32 × KS × Int64) := (fX9_ruleOf M a1 a2).bind fun r => match r with | .inr a => some (0, a.2, Int32.toInt64 a.1) | .inl q => if q.1 = 3 then some (1, q.2, v) else if q.1 = 0 then some (2, q.2, v) else none
set_option maxHeartbeats 4000000 in
set_option maxRecDepth 100000 in
theorem kL_ruleOf (l : Launch) (hl9 : l.stackTraces = false) (E : KE) (ad : Nat → Nat) (M : KS) (a1 : Int32) (a2 : Int32) (qo : Nat) (v : Int64) : CWL l yL_ruleOf cL_ruleOf 5 [(0, 10, 13, 34), (0, 10, 17, 13)] { frames := 7, cells := 1, slots := 6, locals := 177 } E ad [.ref (ad 121), .int a1, .int a2, .ref qo] M qo v (fL_ruleOf M a1 a2 v) := by
  refine CWL.ofW rfl (Nat.le_of_ble_eq_true rfl) (fun sz p e s m args below meth c C hr hW ls hl => ?_)
  have hx := C.1.1.1.1
  have hb := C.1.1.1.2.1
  have hl : lv_has ls 5 [(0, .ref (ad 121)), (1, .int a1), (2, .int a2), (3, .ref qo)] := hl
  unfold fL_ruleOf
  refine lv_aload_n hx hb dL_ruleOf_0 rfl (lv_at hl 3 rfl) ?_
  refine lv_iconst (v := 0) hx hb dL_ruleOf_1 (by decide) ?_
  refine lv_aload_n hx hb dL_ruleOf_2 rfl (lv_at hl 0 rfl) ?_
  refine lv_iload_n hx hb dL_ruleOf_3 rfl (lv_at hl 1 rfl) ?_
  refine lv_iload_n hx hb dL_ruleOf_4 rfl (lv_at hl 2 rfl) ?_
  refine wr_iL C hW.2.1 (kx_V C.1.1 C.1.2 hW.1 w_4_125 lc_yX9_ruleOf li_yX9_ruleOf (kX9_ruleOf l hl9 E ad M a1 a2) (As := [.int a1, .int a2]) rfl dL_ruleOf_5 rfl hl.1 (Nat.le_of_ble_eq_true rfl) ⟨rfl, rfl⟩ ⟨Nat.le_of_ble_eq_true rfl, Nat.le_of_ble_eq_true rfl⟩ ⟨Nat.le_of_ble_eq_true rfl, Nat.le_of_ble_eq_true rfl⟩) (fun a M1 H locs hW => ?_) (fun x M1 H locs q ce hW hce hcv hcl => ?_)
  · refine lv_i2l (v := Int32.toInt64 a) hx hb dL_ruleOf_8 rfl ?_
    refine wr_astL C hW dL_ruleOf_9 (fun H locs hW => ?_)
    refine lv_goto (tgt := 21) hx hb dL_ruleOf_10 (by decide) ?_
    refine lv_iconst (v := 0) hx hb dL_ruleOf_21 (by decide) ?_
    exact we_iL C hW hr rfl dL_ruleOf_22
  · refine vx_ite (fun hx0 => ?_) (fun hx0 => ?_)
    · subst hx0
      refine vx_catch C.1.1.1.2.2.2.1 [] ⟨0, 10, 13, 34⟩ [⟨0, 10, 17, 13⟩] (C.2.2.2.trans rfl) (fun _ h => absurd h List.not_mem_nil) (by decide) (by decide) (C.1.1.1.2.2.2.2 _ w_3_162) (va_Nw.use rfl (C.1.2.2.2 _ (List.mem_append_left _ (List.mem_map.mpr ⟨3, by decide, rfl⟩)))) hce hcv hcl ?_
      refine lv_astore (lv' := [(4, .ref q)]) hx hb dL_ruleOf_13 (lv_sub hl [] rfl) (by decide) rfl (fun ls hl => ?_)
      refine lv_iconst (v := 1) hx hb dL_ruleOf_15 (by decide) ?_
      exact we_iL C hW hr rfl dL_ruleOf_16
    · refine vx_ite (fun hx1 => ?_) (fun hx1 => ?_)
      · subst hx1
        refine vx_catch C.1.1.1.2.2.2.1 [⟨0, 10, 13, 34⟩] ⟨0, 10, 17, 13⟩ [] (C.2.2.2.trans rfl) (List.forall_mem_cons.mpr ⟨Or.inr ⟨by decide, _, C.1.1.1.2.2.2.2 _ w_3_162, C.2.1 0 (by decide) 3 (by decide) (by decide)⟩, (fun _ h => absurd h List.not_mem_nil)⟩) (by decide) (by decide) (C.1.1.1.2.2.2.2 _ w_2_225) (va_Nw.use rfl (C.1.2.2.2 _ (List.mem_append_left _ (List.mem_map.mpr ⟨0, by decide, rfl⟩)))) hce hcv hcl ?_
        refine lv_astore (lv' := [(4, .ref q)]) hx hb dL_ruleOf_17 (lv_sub hl [] rfl) (by decide) rfl (fun ls hl => ?_)
        refine lv_iconst (v := 2) hx hb dL_ruleOf_19 (by decide) ?_
        exact we_iL C hW hr rfl dL_ruleOf_20
      · exact vx_none
def fL_condition (M : KS) (a1 : Int32) (a2 : Int32) (v : Int64) : Option (Int32 × KS × Int64) := (fX9_condition M a1 a2).bind fun r => match r with | .inr a => some (0, a.2, Int32.toInt64 a.1) | .inl q => if q.1 = 3 then some (1, q.2, v) else if q.1 = 2 then some (2, q.2, v) else none
set_option maxHeartbeats 4000000 in
set_option maxRecDepth 100000 in
theorem kL_condition (l : Launch) (hl9 : l.stackTraces = false) (E : KE) (ad : Nat → Nat) (M : KS) (a1 : Int32) (a2 : Int32) (qo : Nat) (v : Int64) : CWL l yL_condition cL_condition 5 [(0, 10, 13, 34), (0, 10, 17, 32)] { frames := 7, cells := 1, slots := 6, locals := 105 } E ad [.ref (ad 121), .int a1, .int a2, .ref qo] M qo v (fL_condition M a1 a2 v) := by
  refine CWL.ofW rfl (Nat.le_of_ble_eq_true rfl) (fun sz p e s m args below meth c C hr hW ls hl => ?_)
  have hx := C.1.1.1.1
  have hb := C.1.1.1.2.1
  have hl : lv_has ls 5 [(0, .ref (ad 121)), (1, .int a1), (2, .int a2), (3, .ref qo)] := hl
  unfold fL_condition
  refine lv_aload_n hx hb dL_condition_0 rfl (lv_at hl 3 rfl) ?_
  refine lv_iconst (v := 0) hx hb dL_condition_1 (by decide) ?_
  refine lv_aload_n hx hb dL_condition_2 rfl (lv_at hl 0 rfl) ?_
  refine lv_iload_n hx hb dL_condition_3 rfl (lv_at hl 1 rfl) ?_
  refine lv_iload_n hx hb dL_condition_4 rfl (lv_at hl 2 rfl) ?_
  refine wr_iL C hW.2.1 (kx_V C.1.1 C.1.2 hW.1 w_4_146 lc_yX9_condition li_yX9_condition (kX9_condition l hl9 E ad M a1 a2) (As := [.int a1, .int a2]) rfl dL_condition_5 rfl hl.1 (Nat.le_of_ble_eq_true rfl) ⟨rfl, rfl⟩ ⟨Nat.le_of_ble_eq_true rfl, Nat.le_of_ble_eq_true rfl⟩ ⟨Nat.le_of_ble_eq_true rfl, Nat.le_of_ble_eq_true rfl⟩) (fun a M1 H locs hW => ?_) (fun x M1 H locs q ce hW hce hcv hcl => ?_)
  · refine lv_i2l (v := Int32.toInt64 a) hx hb dL_condition_8 rfl ?_
    refine wr_astL C hW dL_condition_9 (fun H locs hW => ?_)
    refine lv_goto (tgt := 21) hx hb dL_condition_10 (by decide) ?_
    refine lv_iconst (v := 0) hx hb dL_condition_21 (by decide) ?_
    exact we_iL C hW hr rfl dL_condition_22
  · refine vx_ite (fun hx0 => ?_) (fun hx0 => ?_)
    · subst hx0
      refine vx_catch C.1.1.1.2.2.2.1 [] ⟨0, 10, 13, 34⟩ [⟨0, 10, 17, 32⟩] (C.2.2.2.trans rfl) (fun _ h => absurd h List.not_mem_nil) (by decide) (by decide) (C.1.1.1.2.2.2.2 _ w_3_162) (va_Nw.use rfl (C.1.2.2.2 _ (List.mem_append_left _ (List.mem_map.mpr ⟨3, by decide, rfl⟩)))) hce hcv hcl ?_
      refine lv_astore (lv' := [(4, .ref q)]) hx hb dL_condition_13 (lv_sub hl [] rfl) (by decide) rfl (fun ls hl => ?_)
      refine lv_iconst (v := 1) hx hb dL_condition_15 (by decide) ?_
      exact we_iL C hW hr rfl dL_condition_16
    · refine vx_ite (fun hx1 => ?_) (fun hx1 => ?_)
      · subst hx1
        refine vx_catch C.1.1.1.2.2.2.1 [⟨0, 10, 13, 34⟩] ⟨0, 10, 17, 32⟩ [] (C.2.2.2.trans rfl) (List.forall_mem_cons.mpr ⟨Or.inr ⟨by decide, _, C.1.1.1.2.2.2.2 _ w_3_162, C.2.1 2 (by decide) 3 (by decide) (by decide)⟩, (fun _ h => absurd h List.not_mem_nil)⟩) (by decide) (by decide) (C.1.1.1.2.2.2.2 _ w_3_161) (va_Nw.use rfl (C.1.2.2.2 _ (List.mem_append_left _ (List.mem_map.mpr ⟨2, by decide, rfl⟩)))) hce hcv hcl ?_
        refine lv_astore (lv' := [(4, .ref q)]) hx hb dL_condition_17 (lv_sub hl [] rfl) (by decide) rfl (fun ls hl => ?_)
        refine lv_iconst (v := 2) hx hb dL_condition_19 (by decide) ?_
        exact we_iL C hW hr rfl dL_condition_20
      · exact vx_none
def fL_wouldLayer (M : KS) (a1 : Int32) (a2 : Int32) (a3 : Int32) (a4 : Int32) (v : Int64) : Option (Int32 × KS × Int64) := (fX9_wouldLayer M a1 a2 a3 a4).bind fun r => match r with | .inr a => if a.1 = 0 then some (0, a.2, 0) else some (0, a.2, 1) | .inl q => if q.1 = 0 then some (1, q.2, v) else none
set_option maxHeartbeats 4000000 in
set_option maxRecDepth 100000 in
theorem kL_wouldLayer (l : Launch) (hl9 : l.stackTraces = false) (E : KE) (ad : Nat → Nat) (M : KS) (a1 : Int32) (a2 : Int32) (a3 : Int32) (a4 : Int32) (qo : Nat) (v : Int64) : CWL l yL_wouldLayer cL_wouldLayer 7 [(0, 21, 24, 13)] { frames := 7, cells := 1, slots := 6, locals := 106 } E ad [.ref (ad 121), .int a1, .int a2, .int a3, .int a4, .ref qo] M qo v (fL_wouldLayer M a1 a2 a3 a4 v) := by
  refine CWL.ofW rfl (Nat.le_of_ble_eq_true rfl) (fun sz p e s m args below meth c C hr hW ls hl => ?_)
  have hx := C.1.1.1.1
  have hb := C.1.1.1.2.1
  have hl : lv_has ls 7 [(0, .ref (ad 121)), (1, .int a1), (2, .int a2), (3, .int a3), (4, .int a4), (5, .ref qo)] := hl
  unfold fL_wouldLayer
  refine lv_aload hx hb dL_wouldLayer_0 (lv_at hl 5 rfl) ?_
  refine lv_iconst (v := 0) hx hb dL_wouldLayer_2 (by decide) ?_
  refine lv_aload_n hx hb dL_wouldLayer_3 rfl (lv_at hl 0 rfl) ?_
  refine lv_iload_n hx hb dL_wouldLayer_4 rfl (lv_at hl 1 rfl) ?_
  refine lv_iload_n hx hb dL_wouldLayer_5 rfl (lv_at hl 2 rfl) ?_
  refine lv_iload_n hx hb dL_wouldLayer_6 rfl (lv_at hl 3 rfl) ?_
  refine lv_iload hx hb dL_wouldLayer_7 (lv_at hl 4 rfl) ?_
  refine wr_iL C hW.2.1 (kx_V C.1.1 C.1.2 hW.1 w_4_154 lc_yX9_wouldLayer li_yX9_wouldLayer (kX9_wouldLayer l hl9 E ad M a1 a2 a3 a4) (As := [.int a1, .int a2, .int a3, .int a4]) rfl dL_wouldLayer_9 rfl hl.1 (Nat.le_of_ble_eq_true rfl) ⟨rfl, rfl⟩ ⟨Nat.le_of_ble_eq_true rfl, Nat.le_of_ble_eq_true rfl⟩ ⟨Nat.le_of_ble_eq_true rfl, Nat.le_of_ble_eq_true rfl⟩) (fun a M1 H locs hW => ?_) (fun x M1 H locs q ce hW hce hcv hcl => ?_)
  · refine kb_if_eq (tgt := 19) hx hb dL_wouldLayer_12 (by decide) (fun _ => ?_) (fun _ => ?_)
    · refine lv_lconst (v := 0) hx hb dL_wouldLayer_19 (by decide) ?_
      refine wr_astL C hW dL_wouldLayer_20 (fun H locs hW => ?_)
      refine lv_goto (tgt := 28) hx hb dL_wouldLayer_21 (by decide) ?_
      refine lv_iconst (v := 0) hx hb dL_wouldLayer_28 (by decide) ?_
      exact we_iL C hW hr rfl dL_wouldLayer_29
    · refine lv_lconst (v := 1) hx hb dL_wouldLayer_15 (by decide) ?_
      refine lv_goto (tgt := 20) hx hb dL_wouldLayer_16 (by decide) ?_
      refine wr_astL C hW dL_wouldLayer_20 (fun H locs hW => ?_)
      refine lv_goto (tgt := 28) hx hb dL_wouldLayer_21 (by decide) ?_
      refine lv_iconst (v := 0) hx hb dL_wouldLayer_28 (by decide) ?_
      exact we_iL C hW hr rfl dL_wouldLayer_29
  · refine vx_ite (fun hx0 => ?_) (fun hx0 => ?_)
    · subst hx0
      refine vx_catch C.1.1.1.2.2.2.1 [] ⟨0, 21, 24, 13⟩ [] (C.2.2.2.trans rfl) (fun _ h => absurd h List.not_mem_nil) (by decide) (by decide) (C.1.1.1.2.2.2.2 _ w_2_225) (va_Nw.use rfl (C.1.2.2.2 _ (List.mem_append_left _ (List.mem_map.mpr ⟨0, by decide, rfl⟩)))) hce hcv hcl ?_
      refine lv_astore (lv' := [(6, .ref q)]) hx hb dL_wouldLayer_24 (lv_sub hl [] rfl) (by decide) rfl (fun ls hl => ?_)
      refine lv_iconst (v := 1) hx hb dL_wouldLayer_26 (by decide) ?_
      exact we_iL C hW hr rfl dL_wouldLayer_27
    · exact vx_none
def fL_rounds (M : KS) (a1 : Int32) (v : Int64) : Option (Int32 × KS × Int64) := (fX9_rounds M a1).bind fun r => match r with | .inr a => some (0, a.2, Int32.toInt64 a.1) | .inl q => if q.1 = 2 then some (1, q.2, v) else none
set_option maxHeartbeats 4000000 in
set_option maxRecDepth 100000 in
theorem kL_rounds (l : Launch) (hl9 : l.stackTraces = false) (E : KE) (ad : Nat → Nat) (M : KS) (a1 : Int32) (qo : Nat) (v : Int64) : CWL l yL_rounds cL_rounds 4 [(0, 9, 12, 32)] { frames := 7, cells := 1, slots := 6, locals := 157 } E ad [.ref (ad 121), .int a1, .ref qo] M qo v (fL_rounds M a1 v) := by
  refine CWL.ofW rfl (Nat.le_of_ble_eq_true rfl) (fun sz p e s m args below meth c C hr hW ls hl => ?_)
  have hx := C.1.1.1.1
  have hb := C.1.1.1.2.1
  have hl : lv_has ls 4 [(0, .ref (ad 121)), (1, .int a1), (2, .ref qo)] := hl
  unfold fL_rounds
  refine lv_aload_n hx hb dL_rounds_0 rfl (lv_at hl 2 rfl) ?_
  refine lv_iconst (v := 0) hx hb dL_rounds_1 (by decide) ?_
  refine lv_aload_n hx hb dL_rounds_2 rfl (lv_at hl 0 rfl) ?_
  refine lv_iload_n hx hb dL_rounds_3 rfl (lv_at hl 1 rfl) ?_
  refine wr_iL C hW.2.1 (kx_V C.1.1 C.1.2 hW.1 w_4_161 lc_yX9_rounds li_yX9_rounds (kX9_rounds l hl9 E ad M a1) (As := [.int a1]) rfl dL_rounds_4 rfl hl.1 (Nat.le_of_ble_eq_true rfl) ⟨rfl, rfl⟩ ⟨Nat.le_of_ble_eq_true rfl, Nat.le_of_ble_eq_true rfl⟩ ⟨Nat.le_of_ble_eq_true rfl, Nat.le_of_ble_eq_true rfl⟩) (fun a M1 H locs hW => ?_) (fun x M1 H locs q ce hW hce hcv hcl => ?_)
  · refine lv_i2l (v := Int32.toInt64 a) hx hb dL_rounds_7 rfl ?_
    refine wr_astL C hW dL_rounds_8 (fun H locs hW => ?_)
    refine lv_goto (tgt := 15) hx hb dL_rounds_9 (by decide) ?_
    refine lv_iconst (v := 0) hx hb dL_rounds_15 (by decide) ?_
    exact we_iL C hW hr rfl dL_rounds_16
  · refine vx_ite (fun hx0 => ?_) (fun hx0 => ?_)
    · subst hx0
      refine vx_catch C.1.1.1.2.2.2.1 [] ⟨0, 9, 12, 32⟩ [] (C.2.2.2.trans rfl) (fun _ h => absurd h List.not_mem_nil) (by decide) (by decide) (C.1.1.1.2.2.2.2 _ w_3_161) (va_Nw.use rfl (C.1.2.2.2 _ (List.mem_append_left _ (List.mem_map.mpr ⟨2, by decide, rfl⟩)))) hce hcv hcl ?_
      refine lv_astore_n (lv' := [(3, .ref q)]) hx hb dL_rounds_12 rfl (lv_sub hl [] rfl) (by decide) rfl (fun ls hl => ?_)
      refine lv_iconst (v := 1) hx hb dL_rounds_13 (by decide) ?_
      exact we_iL C hW hr rfl dL_rounds_14
    · exact vx_none
def fL_fresh (M : KS) (a1 : Int32) (a2 : Int32) (v : Int64) : Option (Int32 × KS × Int64) := (fX9_fresh M a1 a2).bind fun r => match r with | .inr a => some (0, a.2, Int32.toInt64 a.1) | .inl q => if q.1 = 2 then some (1, q.2, v) else none
set_option maxHeartbeats 4000000 in
set_option maxRecDepth 100000 in
theorem kL_fresh (l : Launch) (hl9 : l.stackTraces = false) (E : KE) (ad : Nat → Nat) (M : KS) (a1 : Int32) (a2 : Int32) (qo : Nat) (v : Int64) : CWL l yL_fresh cL_fresh 5 [(0, 10, 13, 32)] { frames := 7, cells := 1, slots := 6, locals := 158 } E ad [.ref (ad 121), .int a1, .int a2, .ref qo] M qo v (fL_fresh M a1 a2 v) := by
  refine CWL.ofW rfl (Nat.le_of_ble_eq_true rfl) (fun sz p e s m args below meth c C hr hW ls hl => ?_)
  have hx := C.1.1.1.1
  have hb := C.1.1.1.2.1
  have hl : lv_has ls 5 [(0, .ref (ad 121)), (1, .int a1), (2, .int a2), (3, .ref qo)] := hl
  unfold fL_fresh
  refine lv_aload_n hx hb dL_fresh_0 rfl (lv_at hl 3 rfl) ?_
  refine lv_iconst (v := 0) hx hb dL_fresh_1 (by decide) ?_
  refine lv_aload_n hx hb dL_fresh_2 rfl (lv_at hl 0 rfl) ?_
  refine lv_iload_n hx hb dL_fresh_3 rfl (lv_at hl 1 rfl) ?_
  refine lv_iload_n hx hb dL_fresh_4 rfl (lv_at hl 2 rfl) ?_
  refine wr_iL C hW.2.1 (kx_V C.1.1 C.1.2 hW.1 w_4_174 lc_yX9_fresh li_yX9_fresh (kX9_fresh l hl9 E ad M a1 a2) (As := [.int a1, .int a2]) rfl dL_fresh_5 rfl hl.1 (Nat.le_of_ble_eq_true rfl) ⟨rfl, rfl⟩ ⟨Nat.le_of_ble_eq_true rfl, Nat.le_of_ble_eq_true rfl⟩ ⟨Nat.le_of_ble_eq_true rfl, Nat.le_of_ble_eq_true rfl⟩) (fun a M1 H locs hW => ?_) (fun x M1 H locs q ce hW hce hcv hcl => ?_)
  · refine lv_i2l (v := Int32.toInt64 a) hx hb dL_fresh_8 rfl ?_
    refine wr_astL C hW dL_fresh_9 (fun H locs hW => ?_)
    refine lv_goto (tgt := 17) hx hb dL_fresh_10 (by decide) ?_
    refine lv_iconst (v := 0) hx hb dL_fresh_17 (by decide) ?_
    exact we_iL C hW hr rfl dL_fresh_18
  · refine vx_ite (fun hx0 => ?_) (fun hx0 => ?_)
    · subst hx0
      refine vx_catch C.1.1.1.2.2.2.1 [] ⟨0, 10, 13, 32⟩ [] (C.2.2.2.trans rfl) (fun _ h => absurd h List.not_mem_nil) (by decide) (by decide) (C.1.1.1.2.2.2.2 _ w_3_161) (va_Nw.use rfl (C.1.2.2.2 _ (List.mem_append_left _ (List.mem_map.mpr ⟨2, by decide, rfl⟩)))) hce hcv hcl ?_
      refine lv_astore (lv' := [(4, .ref q)]) hx hb dL_fresh_13 (lv_sub hl [] rfl) (by decide) rfl (fun ls hl => ?_)
      refine lv_iconst (v := 1) hx hb dL_fresh_15 (by decide) ?_
      exact we_iL C hW hr rfl dL_fresh_16
    · exact vx_none
def fL_line (M : KS) (a1 : Int32) (a2 : Int32) (a3 : Int32) (v : Int64) : Option (Int32 × KS × Int64) := (fX9_line M a1 a2 a3).bind fun r => match r with | .inr a => some (0, a.2, Int32.toInt64 a.1) | .inl q => if q.1 = 0 then some (1, q.2, v) else if q.1 = 2 then some (2, q.2, v) else none
set_option maxHeartbeats 4000000 in
set_option maxRecDepth 100000 in
theorem kL_line (l : Launch) (hl9 : l.stackTraces = false) (E : KE) (ad : Nat → Nat) (M : KS) (a1 : Int32) (a2 : Int32) (a3 : Int32) (qo : Nat) (v : Int64) : CWL l yL_line cL_line 6 [(0, 12, 15, 13), (0, 12, 19, 32)] { frames := 7, cells := 1, slots := 6, locals := 184 } E ad [.ref (ad 121), .int a1, .int a2, .int a3, .ref qo] M qo v (fL_line M a1 a2 a3 v) := by
  refine CWL.ofW rfl (Nat.le_of_ble_eq_true rfl) (fun sz p e s m args below meth c C hr hW ls hl => ?_)
  have hx := C.1.1.1.1
  have hb := C.1.1.1.2.1
  have hl : lv_has ls 6 [(0, .ref (ad 121)), (1, .int a1), (2, .int a2), (3, .int a3), (4, .ref qo)] := hl
  unfold fL_line
  refine lv_aload hx hb dL_line_0 (lv_at hl 4 rfl) ?_
  refine lv_iconst (v := 0) hx hb dL_line_2 (by decide) ?_
  refine lv_aload_n hx hb dL_line_3 rfl (lv_at hl 0 rfl) ?_
  refine lv_iload_n hx hb dL_line_4 rfl (lv_at hl 1 rfl) ?_
  refine lv_iload_n hx hb dL_line_5 rfl (lv_at hl 2 rfl) ?_
  refine lv_iload_n hx hb dL_line_6 rfl (lv_at hl 3 rfl) ?_
  refine wr_iL C hW.2.1 (kx_V C.1.1 C.1.2 hW.1 w_4_186 lc_yX9_line li_yX9_line (kX9_line l hl9 E ad M a1 a2 a3) (As := [.int a1, .int a2, .int a3]) rfl dL_line_7 rfl hl.1 (Nat.le_of_ble_eq_true rfl) ⟨rfl, rfl⟩ ⟨Nat.le_of_ble_eq_true rfl, Nat.le_of_ble_eq_true rfl⟩ ⟨Nat.le_of_ble_eq_true rfl, Nat.le_of_ble_eq_true rfl⟩) (fun a M1 H locs hW => ?_) (fun x M1 H locs q ce hW hce hcv hcl => ?_)
  · refine lv_i2l (v := Int32.toInt64 a) hx hb dL_line_10 rfl ?_
    refine wr_astL C hW dL_line_11 (fun H locs hW => ?_)
    refine lv_goto (tgt := 23) hx hb dL_line_12 (by decide) ?_
    refine lv_iconst (v := 0) hx hb dL_line_23 (by decide) ?_
    exact we_iL C hW hr rfl dL_line_24
  · refine vx_ite (fun hx0 => ?_) (fun hx0 => ?_)
    · subst hx0
      refine vx_catch C.1.1.1.2.2.2.1 [] ⟨0, 12, 15, 13⟩ [⟨0, 12, 19, 32⟩] (C.2.2.2.trans rfl) (fun _ h => absurd h List.not_mem_nil) (by decide) (by decide) (C.1.1.1.2.2.2.2 _ w_2_225) (va_Nw.use rfl (C.1.2.2.2 _ (List.mem_append_left _ (List.mem_map.mpr ⟨0, by decide, rfl⟩)))) hce hcv hcl ?_
      refine lv_astore (lv' := [(5, .ref q)]) hx hb dL_line_15 (lv_sub hl [] rfl) (by decide) rfl (fun ls hl => ?_)
      refine lv_iconst (v := 1) hx hb dL_line_17 (by decide) ?_
      exact we_iL C hW hr rfl dL_line_18
    · refine vx_ite (fun hx1 => ?_) (fun hx1 => ?_)
      · subst hx1
        refine vx_catch C.1.1.1.2.2.2.1 [⟨0, 12, 15, 13⟩] ⟨0, 12, 19, 32⟩ [] (C.2.2.2.trans rfl) (List.forall_mem_cons.mpr ⟨Or.inr ⟨by decide, _, C.1.1.1.2.2.2.2 _ w_2_225, C.2.1 2 (by decide) 0 (by decide) (by decide)⟩, (fun _ h => absurd h List.not_mem_nil)⟩) (by decide) (by decide) (C.1.1.1.2.2.2.2 _ w_3_161) (va_Nw.use rfl (C.1.2.2.2 _ (List.mem_append_left _ (List.mem_map.mpr ⟨2, by decide, rfl⟩)))) hce hcv hcl ?_
        refine lv_astore (lv' := [(5, .ref q)]) hx hb dL_line_19 (lv_sub hl [] rfl) (by decide) rfl (fun ls hl => ?_)
        refine lv_iconst (v := 2) hx hb dL_line_21 (by decide) ?_
        exact we_iL C hW hr rfl dL_line_22
      · exact vx_none
def fL_ruleLine (M : KS) (a1 : Int32) (v : Int64) : Option (Int32 × KS × Int64) := (fX9_ruleLine M a1).bind fun r => match r with | .inr a => some (0, a.2, Int32.toInt64 a.1) | .inl q => if q.1 = 3 then some (1, q.2, v) else none
set_option maxHeartbeats 4000000 in
set_option maxRecDepth 100000 in
theorem kL_ruleLine (l : Launch) (hl9 : l.stackTraces = false) (E : KE) (ad : Nat → Nat) (M : KS) (a1 : Int32) (qo : Nat) (v : Int64) : CWL l yL_ruleLine cL_ruleLine 4 [(0, 9, 12, 34)] { frames := 7, cells := 1, slots := 6, locals := 105 } E ad [.ref (ad 121), .int a1, .ref qo] M qo v (fL_ruleLine M a1 v) := by
  refine CWL.ofW rfl (Nat.le_of_ble_eq_true rfl) (fun sz p e s m args below meth c C hr hW ls hl => ?_)
  have hx := C.1.1.1.1
  have hb := C.1.1.1.2.1
  have hl : lv_has ls 4 [(0, .ref (ad 121)), (1, .int a1), (2, .ref qo)] := hl
  unfold fL_ruleLine
  refine lv_aload_n hx hb dL_ruleLine_0 rfl (lv_at hl 2 rfl) ?_
  refine lv_iconst (v := 0) hx hb dL_ruleLine_1 (by decide) ?_
  refine lv_aload_n hx hb dL_ruleLine_2 rfl (lv_at hl 0 rfl) ?_
  refine lv_iload_n hx hb dL_ruleLine_3 rfl (lv_at hl 1 rfl) ?_
  refine wr_iL C hW.2.1 (kx_V C.1.1 C.1.2 hW.1 w_4_220 lc_yX9_ruleLine li_yX9_ruleLine (kX9_ruleLine l hl9 E ad M a1) (As := [.int a1]) rfl dL_ruleLine_4 rfl hl.1 (Nat.le_of_ble_eq_true rfl) ⟨rfl, rfl⟩ ⟨Nat.le_of_ble_eq_true rfl, Nat.le_of_ble_eq_true rfl⟩ ⟨Nat.le_of_ble_eq_true rfl, Nat.le_of_ble_eq_true rfl⟩) (fun a M1 H locs hW => ?_) (fun x M1 H locs q ce hW hce hcv hcl => ?_)
  · refine lv_i2l (v := Int32.toInt64 a) hx hb dL_ruleLine_7 rfl ?_
    refine wr_astL C hW dL_ruleLine_8 (fun H locs hW => ?_)
    refine lv_goto (tgt := 15) hx hb dL_ruleLine_9 (by decide) ?_
    refine lv_iconst (v := 0) hx hb dL_ruleLine_15 (by decide) ?_
    exact we_iL C hW hr rfl dL_ruleLine_16
  · refine vx_ite (fun hx0 => ?_) (fun hx0 => ?_)
    · subst hx0
      refine vx_catch C.1.1.1.2.2.2.1 [] ⟨0, 9, 12, 34⟩ [] (C.2.2.2.trans rfl) (fun _ h => absurd h List.not_mem_nil) (by decide) (by decide) (C.1.1.1.2.2.2.2 _ w_3_162) (va_Nw.use rfl (C.1.2.2.2 _ (List.mem_append_left _ (List.mem_map.mpr ⟨3, by decide, rfl⟩)))) hce hcv hcl ?_
      refine lv_astore_n (lv' := [(3, .ref q)]) hx hb dL_ruleLine_12 rfl (lv_sub hl [] rfl) (by decide) rfl (fun ls hl => ?_)
      refine lv_iconst (v := 1) hx hb dL_ruleLine_13 (by decide) ?_
      exact we_iL C hW hr rfl dL_ruleLine_14
    · exact vx_none
def fL_character (M : KS) (a1 : Int32) (v : Int64) : Option (Int32 × KS × Int64) := (fX9_character M a1).bind fun r => match r with | .inr a => some (0, a.2, Int32.toInt64 a.1) | .inl q => if q.1 = 3 then some (1, q.2, v) else none
set_option maxHeartbeats 4000000 in
set_option maxRecDepth 100000 in
theorem kL_character (l : Launch) (hl9 : l.stackTraces = false) (E : KE) (ad : Nat → Nat) (M : KS) (a1 : Int32) (qo : Nat) (v : Int64) : CWL l yL_character cL_character 4 [(0, 9, 12, 34)] { frames := 7, cells := 1, slots := 6, locals := 103 } E ad [.ref (ad 121), .int a1, .ref qo] M qo v (fL_character M a1 v) := by
  refine CWL.ofW rfl (Nat.le_of_ble_eq_true rfl) (fun sz p e s m args below meth c C hr hW ls hl => ?_)
  have hx := C.1.1.1.1
  have hb := C.1.1.1.2.1
  have hl : lv_has ls 4 [(0, .ref (ad 121)), (1, .int a1), (2, .ref qo)] := hl
  unfold fL_character
  refine lv_aload_n hx hb dL_character_0 rfl (lv_at hl 2 rfl) ?_
  refine lv_iconst (v := 0) hx hb dL_character_1 (by decide) ?_
  refine lv_aload_n hx hb dL_character_2 rfl (lv_at hl 0 rfl) ?_
  refine lv_iload_n hx hb dL_character_3 rfl (lv_at hl 1 rfl) ?_
  refine wr_iL C hW.2.1 (kx_V C.1.1 C.1.2 hW.1 w_4_234 lc_yX9_character li_yX9_character (kX9_character l hl9 E ad M a1) (As := [.int a1]) rfl dL_character_4 rfl hl.1 (Nat.le_of_ble_eq_true rfl) ⟨rfl, rfl⟩ ⟨Nat.le_of_ble_eq_true rfl, Nat.le_of_ble_eq_true rfl⟩ ⟨Nat.le_of_ble_eq_true rfl, Nat.le_of_ble_eq_true rfl⟩) (fun a M1 H locs hW => ?_) (fun x M1 H locs q ce hW hce hcv hcl => ?_)
  · refine lv_i2l (v := Int32.toInt64 a) hx hb dL_character_7 rfl ?_
    refine wr_astL C hW dL_character_8 (fun H locs hW => ?_)
    refine lv_goto (tgt := 15) hx hb dL_character_9 (by decide) ?_
    refine lv_iconst (v := 0) hx hb dL_character_15 (by decide) ?_
    exact we_iL C hW hr rfl dL_character_16
  · refine vx_ite (fun hx0 => ?_) (fun hx0 => ?_)
    · subst hx0
      refine vx_catch C.1.1.1.2.2.2.1 [] ⟨0, 9, 12, 34⟩ [] (C.2.2.2.trans rfl) (fun _ h => absurd h List.not_mem_nil) (by decide) (by decide) (C.1.1.1.2.2.2.2 _ w_3_162) (va_Nw.use rfl (C.1.2.2.2 _ (List.mem_append_left _ (List.mem_map.mpr ⟨3, by decide, rfl⟩)))) hce hcv hcl ?_
      refine lv_astore_n (lv' := [(3, .ref q)]) hx hb dL_character_12 rfl (lv_sub hl [] rfl) (by decide) rfl (fun ls hl => ?_)
      refine lv_iconst (v := 1) hx hb dL_character_13 (by decide) ?_
      exact we_iL C hW hr rfl dL_character_14
    · exact vx_none
def fL_append (M : KS) (a1 : Int32) (v : Int64) : Option (Int32 × KS × Int64) := (fX9_append M a1).bind fun r => match r with | .inr a => some (0, a.2, Int32.toInt64 a.1) | .inl q => if q.1 = 4 then some (1, q.2, v) else none
set_option maxHeartbeats 4000000 in
set_option maxRecDepth 100000 in
theorem kL_append (l : Launch) (hl9 : l.stackTraces = false) (E : KE) (ad : Nat → Nat) (M : KS) (a1 : Int32) (qo : Nat) (v : Int64) : CWL l yL_append cL_append 4 [(0, 9, 12, 93)] { frames := 7, cells := 1, slots := 6, locals := 103 } E ad [.ref (ad 121), .int a1, .ref qo] M qo v (fL_append M a1 v) := by
  refine CWL.ofW rfl (Nat.le_of_ble_eq_true rfl) (fun sz p e s m args below meth c C hr hW ls hl => ?_)
  have hx := C.1.1.1.1
  have hb := C.1.1.1.2.1
  have hl : lv_has ls 4 [(0, .ref (ad 121)), (1, .int a1), (2, .ref qo)] := hl
  unfold fL_append
  refine lv_aload_n hx hb dL_append_0 rfl (lv_at hl 2 rfl) ?_
  refine lv_iconst (v := 0) hx hb dL_append_1 (by decide) ?_
  refine lv_aload_n hx hb dL_append_2 rfl (lv_at hl 0 rfl) ?_
  refine lv_iload_n hx hb dL_append_3 rfl (lv_at hl 1 rfl) ?_
  refine wr_iL C hW.2.1 (kx_V C.1.1 C.1.2 hW.1 w_5_3 lc_yX9_append li_yX9_append (kX9_append l hl9 E ad M a1) (As := [.int a1]) rfl dL_append_4 rfl hl.1 (Nat.le_of_ble_eq_true rfl) ⟨rfl, rfl⟩ ⟨Nat.le_of_ble_eq_true rfl, Nat.le_of_ble_eq_true rfl⟩ ⟨Nat.le_of_ble_eq_true rfl, Nat.le_of_ble_eq_true rfl⟩) (fun a M1 H locs hW => ?_) (fun x M1 H locs q ce hW hce hcv hcl => ?_)
  · refine lv_i2l (v := Int32.toInt64 a) hx hb dL_append_7 rfl ?_
    refine wr_astL C hW dL_append_8 (fun H locs hW => ?_)
    refine lv_goto (tgt := 15) hx hb dL_append_9 (by decide) ?_
    refine lv_iconst (v := 0) hx hb dL_append_15 (by decide) ?_
    exact we_iL C hW hr rfl dL_append_16
  · refine vx_ite (fun hx0 => ?_) (fun hx0 => ?_)
    · subst hx0
      refine vx_catch C.1.1.1.2.2.2.1 [] ⟨0, 9, 12, 93⟩ [] (C.2.2.2.trans rfl) (fun _ h => absurd h List.not_mem_nil) (by decide) (by decide) (C.1.1.1.2.2.2.2 _ w_5_2) (va_Nw.use rfl (C.1.2.2.2 _ (List.mem_append_left _ (List.mem_map.mpr ⟨4, by decide, rfl⟩)))) hce hcv hcl ?_
      refine lv_astore_n (lv' := [(3, .ref q)]) hx hb dL_append_12 rfl (lv_sub hl [] rfl) (by decide) rfl (fun ls hl => ?_)
      refine lv_iconst (v := 1) hx hb dL_append_13 (by decide) ?_
      exact we_iL C hW hr rfl dL_append_14
    · exact vx_none
def fL_run (M : KS) (v : Int64) : Option (Int32 × KS × Int64) := (fX9_run M).bind fun r => match r with | .inr a => some (0, a.2, Int32.toInt64 a.1) | .inl q => if q.1 = 0 then some (1, q.2, v) else if q.1 = 1 then some (2, q.2, v) else none
set_option maxHeartbeats 4000000 in
set_option maxRecDepth 100000 in
theorem kL_run (l : Launch) (hl9 : l.stackTraces = false) (E : KE) (ad : Nat → Nat) (M : KS) (qo : Nat) (v : Int64) : CWL l yL_run cL_run 3 [(0, 8, 11, 13), (0, 8, 14, 15)] { frames := 8, cells := 1, slots := 6, locals := 206 } E ad [.ref (ad 121), .ref qo] M qo v (fL_run M v) := by
  refine CWL.ofW rfl (Nat.le_of_ble_eq_true rfl) (fun sz p e s m args below meth c C hr hW ls hl => ?_)
  have hx := C.1.1.1.1
  have hb := C.1.1.1.2.1
  have hl : lv_has ls 3 [(0, .ref (ad 121)), (1, .ref qo)] := hl
  unfold fL_run
  refine lv_aload_n hx hb dL_run_0 rfl (lv_at hl 1 rfl) ?_
  refine lv_iconst (v := 0) hx hb dL_run_1 (by decide) ?_
  refine lv_aload_n hx hb dL_run_2 rfl (lv_at hl 0 rfl) ?_
  refine wr_iL C hW.2.1 (kx_V C.1.1 C.1.2 hW.1 w_5_30 lc_yX9_run li_yX9_run (kX9_run l hl9 E ad M) (As := []) rfl dL_run_3 rfl hl.1 (Nat.le_of_ble_eq_true rfl) ⟨rfl, rfl⟩ ⟨Nat.le_of_ble_eq_true rfl, Nat.le_of_ble_eq_true rfl⟩ ⟨Nat.le_of_ble_eq_true rfl, Nat.le_of_ble_eq_true rfl⟩) (fun a M1 H locs hW => ?_) (fun x M1 H locs q ce hW hce hcv hcl => ?_)
  · refine lv_i2l (v := Int32.toInt64 a) hx hb dL_run_6 rfl ?_
    refine wr_astL C hW dL_run_7 (fun H locs hW => ?_)
    refine lv_goto (tgt := 17) hx hb dL_run_8 (by decide) ?_
    refine lv_iconst (v := 0) hx hb dL_run_17 (by decide) ?_
    exact we_iL C hW hr rfl dL_run_18
  · refine vx_ite (fun hx0 => ?_) (fun hx0 => ?_)
    · subst hx0
      refine vx_catch C.1.1.1.2.2.2.1 [] ⟨0, 8, 11, 13⟩ [⟨0, 8, 14, 15⟩] (C.2.2.2.trans rfl) (fun _ h => absurd h List.not_mem_nil) (by decide) (by decide) (C.1.1.1.2.2.2.2 _ w_2_225) (va_Nw.use rfl (C.1.2.2.2 _ (List.mem_append_left _ (List.mem_map.mpr ⟨0, by decide, rfl⟩)))) hce hcv hcl ?_
      refine lv_astore_n (lv' := [(2, .ref q)]) hx hb dL_run_11 rfl (lv_sub hl [] rfl) (by decide) rfl (fun ls hl => ?_)
      refine lv_iconst (v := 1) hx hb dL_run_12 (by decide) ?_
      exact we_iL C hW hr rfl dL_run_13
    · refine vx_ite (fun hx1 => ?_) (fun hx1 => ?_)
      · subst hx1
        refine vx_catch C.1.1.1.2.2.2.1 [⟨0, 8, 11, 13⟩] ⟨0, 8, 14, 15⟩ [] (C.2.2.2.trans rfl) (List.forall_mem_cons.mpr ⟨Or.inr ⟨by decide, _, C.1.1.1.2.2.2.2 _ w_2_225, C.2.1 1 (by decide) 0 (by decide) (by decide)⟩, (fun _ h => absurd h List.not_mem_nil)⟩) (by decide) (by decide) (C.1.1.1.2.2.2.2 _ w_2_226) (va_Nw.use rfl (C.1.2.2.2 _ (List.mem_append_left _ (List.mem_map.mpr ⟨1, by decide, rfl⟩)))) hce hcv hcl ?_
        refine lv_astore_n (lv' := [(2, .ref q)]) hx hb dL_run_14 rfl (lv_sub hl [] rfl) (by decide) rfl (fun ls hl => ?_)
        refine lv_iconst (v := 2) hx hb dL_run_15 (by decide) ?_
        exact we_iL C hW hr rfl dL_run_16
      · exact vx_none
def fL_refusal (M : KS) (a1 : Int32) (v : Int64) : Option (Int32 × KS × Int64) := (fX9_refusal M a1).bind fun r => match r with | .inr a => some (0, a.2, Int32.toInt64 a.1) | .inl q => if q.1 = 2 then some (1, q.2, v) else none
set_option maxHeartbeats 4000000 in
set_option maxRecDepth 100000 in
theorem kL_refusal (l : Launch) (hl9 : l.stackTraces = false) (E : KE) (ad : Nat → Nat) (M : KS) (a1 : Int32) (qo : Nat) (v : Int64) : CWL l yL_refusal cL_refusal 4 [(0, 9, 12, 32)] { frames := 7, cells := 1, slots := 6, locals := 103 } E ad [.ref (ad 121), .int a1, .ref qo] M qo v (fL_refusal M a1 v) := by
  refine CWL.ofW rfl (Nat.le_of_ble_eq_true rfl) (fun sz p e s m args below meth c C hr hW ls hl => ?_)
  have hx := C.1.1.1.1
  have hb := C.1.1.1.2.1
  have hl : lv_has ls 4 [(0, .ref (ad 121)), (1, .int a1), (2, .ref qo)] := hl
  unfold fL_refusal
  refine lv_aload_n hx hb dL_refusal_0 rfl (lv_at hl 2 rfl) ?_
  refine lv_iconst (v := 0) hx hb dL_refusal_1 (by decide) ?_
  refine lv_aload_n hx hb dL_refusal_2 rfl (lv_at hl 0 rfl) ?_
  refine lv_iload_n hx hb dL_refusal_3 rfl (lv_at hl 1 rfl) ?_
  refine wr_iL C hW.2.1 (kx_V C.1.1 C.1.2 hW.1 w_5_107 lc_yX9_refusal li_yX9_refusal (kX9_refusal l hl9 E ad M a1) (As := [.int a1]) rfl dL_refusal_4 rfl hl.1 (Nat.le_of_ble_eq_true rfl) ⟨rfl, rfl⟩ ⟨Nat.le_of_ble_eq_true rfl, Nat.le_of_ble_eq_true rfl⟩ ⟨Nat.le_of_ble_eq_true rfl, Nat.le_of_ble_eq_true rfl⟩) (fun a M1 H locs hW => ?_) (fun x M1 H locs q ce hW hce hcv hcl => ?_)
  · refine lv_i2l (v := Int32.toInt64 a) hx hb dL_refusal_7 rfl ?_
    refine wr_astL C hW dL_refusal_8 (fun H locs hW => ?_)
    refine lv_goto (tgt := 15) hx hb dL_refusal_9 (by decide) ?_
    refine lv_iconst (v := 0) hx hb dL_refusal_15 (by decide) ?_
    exact we_iL C hW hr rfl dL_refusal_16
  · refine vx_ite (fun hx0 => ?_) (fun hx0 => ?_)
    · subst hx0
      refine vx_catch C.1.1.1.2.2.2.1 [] ⟨0, 9, 12, 32⟩ [] (C.2.2.2.trans rfl) (fun _ h => absurd h List.not_mem_nil) (by decide) (by decide) (C.1.1.1.2.2.2.2 _ w_3_161) (va_Nw.use rfl (C.1.2.2.2 _ (List.mem_append_left _ (List.mem_map.mpr ⟨2, by decide, rfl⟩)))) hce hcv hcl ?_
      refine lv_astore_n (lv' := [(3, .ref q)]) hx hb dL_refusal_12 rfl (lv_sub hl [] rfl) (by decide) rfl (fun ls hl => ?_)
      refine lv_iconst (v := 1) hx hb dL_refusal_13 (by decide) ?_
      exact we_iL C hW hr rfl dL_refusal_14
    · exact vx_none
def fL_account (M : KS) (a1 : Int32) (v : Int64) : Option (Int32 × KS × Int64) := (fX9_account M a1).bind fun r => match r with | .inr a => some (0, a.2, Int32.toInt64 a.1) | .inl q => if q.1 = 0 then some (1, q.2, v) else none
set_option maxHeartbeats 4000000 in
set_option maxRecDepth 100000 in
theorem kL_account (l : Launch) (hl9 : l.stackTraces = false) (E : KE) (ad : Nat → Nat) (M : KS) (a1 : Int32) (qo : Nat) (v : Int64) : CWL l yL_account cL_account 4 [(0, 9, 12, 13)] { frames := 7, cells := 1, slots := 6, locals := 176 } E ad [.ref (ad 121), .int a1, .ref qo] M qo v (fL_account M a1 v) := by
  refine CWL.ofW rfl (Nat.le_of_ble_eq_true rfl) (fun sz p e s m args below meth c C hr hW ls hl => ?_)
  have hx := C.1.1.1.1
  have hb := C.1.1.1.2.1
  have hl : lv_has ls 4 [(0, .ref (ad 121)), (1, .int a1), (2, .ref qo)] := hl
  unfold fL_account
  refine lv_aload_n hx hb dL_account_0 rfl (lv_at hl 2 rfl) ?_
  refine lv_iconst (v := 0) hx hb dL_account_1 (by decide) ?_
  refine lv_aload_n hx hb dL_account_2 rfl (lv_at hl 0 rfl) ?_
  refine lv_iload_n hx hb dL_account_3 rfl (lv_at hl 1 rfl) ?_
  refine wr_iL C hW.2.1 (kx_V C.1.1 C.1.2 hW.1 w_5_115 lc_yX9_account li_yX9_account (kX9_account l hl9 E ad M a1) (As := [.int a1]) rfl dL_account_4 rfl hl.1 (Nat.le_of_ble_eq_true rfl) ⟨rfl, rfl⟩ ⟨Nat.le_of_ble_eq_true rfl, Nat.le_of_ble_eq_true rfl⟩ ⟨Nat.le_of_ble_eq_true rfl, Nat.le_of_ble_eq_true rfl⟩) (fun a M1 H locs hW => ?_) (fun x M1 H locs q ce hW hce hcv hcl => ?_)
  · refine lv_i2l (v := Int32.toInt64 a) hx hb dL_account_7 rfl ?_
    refine wr_astL C hW dL_account_8 (fun H locs hW => ?_)
    refine lv_goto (tgt := 15) hx hb dL_account_9 (by decide) ?_
    refine lv_iconst (v := 0) hx hb dL_account_15 (by decide) ?_
    exact we_iL C hW hr rfl dL_account_16
  · refine vx_ite (fun hx0 => ?_) (fun hx0 => ?_)
    · subst hx0
      refine vx_catch C.1.1.1.2.2.2.1 [] ⟨0, 9, 12, 13⟩ [] (C.2.2.2.trans rfl) (fun _ h => absurd h List.not_mem_nil) (by decide) (by decide) (C.1.1.1.2.2.2.2 _ w_2_225) (va_Nw.use rfl (C.1.2.2.2 _ (List.mem_append_left _ (List.mem_map.mpr ⟨0, by decide, rfl⟩)))) hce hcv hcl ?_
      refine lv_astore_n (lv' := [(3, .ref q)]) hx hb dL_account_12 rfl (lv_sub hl [] rfl) (by decide) rfl (fun ls hl => ?_)
      refine lv_iconst (v := 1) hx hb dL_account_13 (by decide) ?_
      exact we_iL C hW hr rfl dL_account_14
    · exact vx_none
def fL_meanDepth (M : KS) (v : UInt64) : Option (Int32 × KS × UInt64) := (fX9_meanDepth M).bind fun r => match r with | .inr a => some (0, a.2, a.1) | .inl q => if q.1 = 5 then some (1, q.2, v) else none
set_option maxHeartbeats 4000000 in
set_option maxRecDepth 100000 in
theorem kL_meanDepth (l : Launch) (hl9 : l.stackTraces = false) (E : KE) (ad : Nat → Nat) (M : KS) (qo : Nat) (v : UInt64) : CWD l yL_meanDepth cL_meanDepth 3 [(0, 7, 10, 110)] { frames := 7, cells := 1, slots := 6, locals := 176 } E ad [.ref (ad 121), .ref qo] M qo v (fL_meanDepth M v) := by
  refine CWD.ofW rfl (Nat.le_of_ble_eq_true rfl) (fun sz p e s m args below meth c C hr hW ls hl => ?_)
  have hx := C.1.1.1.1
  have hb := C.1.1.1.2.1
  have hl : lv_has ls 3 [(0, .ref (ad 121)), (1, .ref qo)] := hl
  unfold fL_meanDepth
  refine lv_aload_n hx hb dL_meanDepth_0 rfl (lv_at hl 1 rfl) ?_
  refine lv_iconst (v := 0) hx hb dL_meanDepth_1 (by decide) ?_
  refine lv_aload_n hx hb dL_meanDepth_2 rfl (lv_at hl 0 rfl) ?_
  refine wr_dD C hW.2.1 (kx_V C.1.1 C.1.2 hW.1 w_5_159 lc_yX9_meanDepth li_yX9_meanDepth (kX9_meanDepth l hl9 E ad M) (As := []) rfl dL_meanDepth_3 rfl hl.1 (Nat.le_of_ble_eq_true rfl) ⟨rfl, rfl⟩ ⟨Nat.le_of_ble_eq_true rfl, Nat.le_of_ble_eq_true rfl⟩ ⟨Nat.le_of_ble_eq_true rfl, Nat.le_of_ble_eq_true rfl⟩) (fun a M1 H locs hW => ?_) (fun x M1 H locs q ce hW hce hcv hcl => ?_)
  · refine wr_astD C hW dL_meanDepth_6 (fun H locs hW => ?_)
    refine lv_goto (tgt := 13) hx hb dL_meanDepth_7 (by decide) ?_
    refine lv_iconst (v := 0) hx hb dL_meanDepth_13 (by decide) ?_
    exact we_iD C hW hr rfl dL_meanDepth_14
  · refine vx_ite (fun hx0 => ?_) (fun hx0 => ?_)
    · subst hx0
      refine vx_catch C.1.1.1.2.2.2.1 [] ⟨0, 7, 10, 110⟩ [] (C.2.2.2.trans rfl) (fun _ h => absurd h List.not_mem_nil) (by decide) (by decide) (C.1.1.1.2.2.2.2 _ w_5_145) (va_Nw.use rfl (C.1.2.2.2 _ (List.mem_append_left _ (List.mem_map.mpr ⟨5, by decide, rfl⟩)))) hce hcv hcl ?_
      refine lv_astore_n (lv' := [(2, .ref q)]) hx hb dL_meanDepth_10 rfl (lv_sub hl [] rfl) (by decide) rfl (fun ls hl => ?_)
      refine lv_iconst (v := 1) hx hb dL_meanDepth_11 (by decide) ?_
      exact we_iD C hW hr rfl dL_meanDepth_12
    · exact vx_none
def fL_toldShare (M : KS) (v : UInt64) : Option (Int32 × KS × UInt64) := (fX9_toldShare M).bind fun r => match r with | .inr a => if nn64 (FP.f2d a.1) then some (0, a.2, FP.f2d a.1) else none | .inl q => if q.1 = 5 then some (1, q.2, v) else none
set_option maxHeartbeats 4000000 in
set_option maxRecDepth 100000 in
theorem kL_toldShare (l : Launch) (hl9 : l.stackTraces = false) (E : KE) (ad : Nat → Nat) (M : KS) (qo : Nat) (v : UInt64) : CWD l yL_toldShare cL_toldShare 3 [(0, 8, 11, 110)] { frames := 7, cells := 1, slots := 6, locals := 176 } E ad [.ref (ad 121), .ref qo] M qo v (fL_toldShare M v) := by
  refine CWD.ofW rfl (Nat.le_of_ble_eq_true rfl) (fun sz p e s m args below meth c C hr hW ls hl => ?_)
  have hx := C.1.1.1.1
  have hb := C.1.1.1.2.1
  have hl : lv_has ls 3 [(0, .ref (ad 121)), (1, .ref qo)] := hl
  unfold fL_toldShare
  refine lv_aload_n hx hb dL_toldShare_0 rfl (lv_at hl 1 rfl) ?_
  refine lv_iconst (v := 0) hx hb dL_toldShare_1 (by decide) ?_
  refine lv_aload_n hx hb dL_toldShare_2 rfl (lv_at hl 0 rfl) ?_
  refine wr_fD C hW.2.1 (kx_V C.1.1 C.1.2 hW.1 w_5_173 lc_yX9_toldShare li_yX9_toldShare (kX9_toldShare l hl9 E ad M) (As := []) rfl dL_toldShare_3 rfl hl.1 (Nat.le_of_ble_eq_true rfl) ⟨rfl, rfl⟩ ⟨Nat.le_of_ble_eq_true rfl, Nat.le_of_ble_eq_true rfl⟩ ⟨Nat.le_of_ble_eq_true rfl, Nat.le_of_ble_eq_true rfl⟩) (fun a M1 H locs hW => ?_) (fun x M1 H locs q ce hW hce hcv hcl => ?_)
  · refine W_if (fun hn9 => ?_)
    refine lv_f2d hx hb dL_toldShare_6 hn9 ?_
    refine wr_astD C hW dL_toldShare_7 (fun H locs hW => ?_)
    refine lv_goto (tgt := 14) hx hb dL_toldShare_8 (by decide) ?_
    refine lv_iconst (v := 0) hx hb dL_toldShare_14 (by decide) ?_
    exact we_iD C hW hr rfl dL_toldShare_15
  · refine vx_ite (fun hx0 => ?_) (fun hx0 => ?_)
    · subst hx0
      refine vx_catch C.1.1.1.2.2.2.1 [] ⟨0, 8, 11, 110⟩ [] (C.2.2.2.trans rfl) (fun _ h => absurd h List.not_mem_nil) (by decide) (by decide) (C.1.1.1.2.2.2.2 _ w_5_145) (va_Nw.use rfl (C.1.2.2.2 _ (List.mem_append_left _ (List.mem_map.mpr ⟨5, by decide, rfl⟩)))) hce hcv hcl ?_
      refine lv_astore_n (lv' := [(2, .ref q)]) hx hb dL_toldShare_11 rfl (lv_sub hl [] rfl) (by decide) rfl (fun ls hl => ?_)
      refine lv_iconst (v := 1) hx hb dL_toldShare_12 (by decide) ?_
      exact we_iD C hW hr rfl dL_toldShare_13
    · exact vx_none
def fL_undo (M : KS) (v : Int64) : Option (Int32 × KS × Int64) := (fX9_undo M).bind fun r => match r with | .inr a => some (0, a.2, Int32.toInt64 a.1) | .inl q => if q.1 = 4 then some (1, q.2, v) else none
set_option maxHeartbeats 4000000 in
set_option maxRecDepth 100000 in
theorem kL_undo (l : Launch) (hl9 : l.stackTraces = false) (E : KE) (ad : Nat → Nat) (M : KS) (qo : Nat) (v : Int64) : CWL l yL_undo cL_undo 3 [(0, 8, 11, 93)] { frames := 7, cells := 1, slots := 6, locals := 106 } E ad [.ref (ad 121), .ref qo] M qo v (fL_undo M v) := by
  refine CWL.ofW rfl (Nat.le_of_ble_eq_true rfl) (fun sz p e s m args below meth c C hr hW ls hl => ?_)
  have hx := C.1.1.1.1
  have hb := C.1.1.1.2.1
  have hl : lv_has ls 3 [(0, .ref (ad 121)), (1, .ref qo)] := hl
  unfold fL_undo
  refine lv_aload_n hx hb dL_undo_0 rfl (lv_at hl 1 rfl) ?_
  refine lv_iconst (v := 0) hx hb dL_undo_1 (by decide) ?_
  refine lv_aload_n hx hb dL_undo_2 rfl (lv_at hl 0 rfl) ?_
  refine wr_iL C hW.2.1 (kx_V C.1.1 C.1.2 hW.1 w_5_180 lc_yX9_undo li_yX9_undo (kX9_undo l hl9 E ad M) (As := []) rfl dL_undo_3 rfl hl.1 (Nat.le_of_ble_eq_true rfl) ⟨rfl, rfl⟩ ⟨Nat.le_of_ble_eq_true rfl, Nat.le_of_ble_eq_true rfl⟩ ⟨Nat.le_of_ble_eq_true rfl, Nat.le_of_ble_eq_true rfl⟩) (fun a M1 H locs hW => ?_) (fun x M1 H locs q ce hW hce hcv hcl => ?_)
  · refine lv_i2l (v := Int32.toInt64 a) hx hb dL_undo_6 rfl ?_
    refine wr_astL C hW dL_undo_7 (fun H locs hW => ?_)
    refine lv_goto (tgt := 14) hx hb dL_undo_8 (by decide) ?_
    refine lv_iconst (v := 0) hx hb dL_undo_14 (by decide) ?_
    exact we_iL C hW hr rfl dL_undo_15
  · refine vx_ite (fun hx0 => ?_) (fun hx0 => ?_)
    · subst hx0
      refine vx_catch C.1.1.1.2.2.2.1 [] ⟨0, 8, 11, 93⟩ [] (C.2.2.2.trans rfl) (fun _ h => absurd h List.not_mem_nil) (by decide) (by decide) (C.1.1.1.2.2.2.2 _ w_5_2) (va_Nw.use rfl (C.1.2.2.2 _ (List.mem_append_left _ (List.mem_map.mpr ⟨4, by decide, rfl⟩)))) hce hcv hcl ?_
      refine lv_astore_n (lv' := [(2, .ref q)]) hx hb dL_undo_11 rfl (lv_sub hl [] rfl) (by decide) rfl (fun ls hl => ?_)
      refine lv_iconst (v := 1) hx hb dL_undo_12 (by decide) ?_
      exact we_iL C hW hr rfl dL_undo_13
    · exact vx_none
def fL_restore (M : KS) (v : Int64) : Option (Int32 × KS × Int64) := (fX9_restore M).bind fun r => match r with | .inr a => some (0, a.2, Int32.toInt64 a.1) | .inl q => if q.1 = 4 then some (1, q.2, v) else none
set_option maxHeartbeats 4000000 in
set_option maxRecDepth 100000 in
theorem kL_restore (l : Launch) (hl9 : l.stackTraces = false) (E : KE) (ad : Nat → Nat) (M : KS) (qo : Nat) (v : Int64) : CWL l yL_restore cL_restore 3 [(0, 8, 11, 93)] { frames := 7, cells := 1, slots := 6, locals := 102 } E ad [.ref (ad 121), .ref qo] M qo v (fL_restore M v) := by
  refine CWL.ofW rfl (Nat.le_of_ble_eq_true rfl) (fun sz p e s m args below meth c C hr hW ls hl => ?_)
  have hx := C.1.1.1.1
  have hb := C.1.1.1.2.1
  have hl : lv_has ls 3 [(0, .ref (ad 121)), (1, .ref qo)] := hl
  unfold fL_restore
  refine lv_aload_n hx hb dL_restore_0 rfl (lv_at hl 1 rfl) ?_
  refine lv_iconst (v := 0) hx hb dL_restore_1 (by decide) ?_
  refine lv_aload_n hx hb dL_restore_2 rfl (lv_at hl 0 rfl) ?_
  refine wr_iL C hW.2.1 (kx_V C.1.1 C.1.2 hW.1 w_5_194 lc_yX9_restore li_yX9_restore (kX9_restore l hl9 E ad M) (As := []) rfl dL_restore_3 rfl hl.1 (Nat.le_of_ble_eq_true rfl) ⟨rfl, rfl⟩ ⟨Nat.le_of_ble_eq_true rfl, Nat.le_of_ble_eq_true rfl⟩ ⟨Nat.le_of_ble_eq_true rfl, Nat.le_of_ble_eq_true rfl⟩) (fun a M1 H locs hW => ?_) (fun x M1 H locs q ce hW hce hcv hcl => ?_)
  · refine lv_i2l (v := Int32.toInt64 a) hx hb dL_restore_6 rfl ?_
    refine wr_astL C hW dL_restore_7 (fun H locs hW => ?_)
    refine lv_goto (tgt := 14) hx hb dL_restore_8 (by decide) ?_
    refine lv_iconst (v := 0) hx hb dL_restore_14 (by decide) ?_
    exact we_iL C hW hr rfl dL_restore_15
  · refine vx_ite (fun hx0 => ?_) (fun hx0 => ?_)
    · subst hx0
      refine vx_catch C.1.1.1.2.2.2.1 [] ⟨0, 8, 11, 93⟩ [] (C.2.2.2.trans rfl) (fun _ h => absurd h List.not_mem_nil) (by decide) (by decide) (C.1.1.1.2.2.2.2 _ w_5_2) (va_Nw.use rfl (C.1.2.2.2 _ (List.mem_append_left _ (List.mem_map.mpr ⟨4, by decide, rfl⟩)))) hce hcv hcl ?_
      refine lv_astore_n (lv' := [(2, .ref q)]) hx hb dL_restore_11 rfl (lv_sub hl [] rfl) (by decide) rfl (fun ls hl => ?_)
      refine lv_iconst (v := 1) hx hb dL_restore_12 (by decide) ?_
      exact we_iL C hW hr rfl dL_restore_13
    · exact vx_none
