section LAW2
variable {p : Program} {l : Launch} {e : Env} {R : Room} {s : State} {m : MethodId} {args : Array Value} {below : List Frame} {meth : Method} {c : Code} {H : Heap} {locs : List Loc} {cells slots : Nat} {Q : State → Prop}
variable {E : KE} {h0 : Nat} {x : LST} {pc : Nat} {ls : Array Slot} {rest st0 : List Value}
abbrev b01 (v : Int32) : Int32 := if v = 0 then 0 else 1
abbrev b01L (v : Int32) : Int64 := if v = 0 then 0 else 1
theorem l_b01 (hx : p.tables.exec = Jvm.exec) (hb : c.code = cL_law) {v : Int32} {off off2 : Int} {t0 tJ : Nat} (h1 : decode cL_law pc = .ok (.ifCond .eq off, 3)) (h2 : decode cL_law (pc + 3) = .ok (.iconst 1, 1)) (h3 : decode cL_law (pc + 3 + 1) = .ok (.goto off2, 3)) (h4 : decode cL_law t0 = .ok (.iconst 0, 1)) (e1 : (pc : Int) + off = (t0 : Int)) (e2 : ((pc + 3 + 1 : Nat) : Int) + off2 = (tJ : Int)) (e3 : t0 + 1 = tJ)
    (kk : W p l e R s m args below meth c H locs cells slots Q (F0 m tJ ls (.int (b01 v) :: rest))) : W p l e R s m args below meth c H locs cells slots Q (F0 m pc ls (.int v :: rest)) := by
  refine lv_if_eq hx hb h1 e1 (fun h => ?_) (fun h => ?_)
  · refine lv_iconst (v := 0) hx hb h4 (by decide) ?_
    rw [e3]
    unfold b01 at kk
    rw [if_pos h] at kk
    exact kk
  · refine lv_iconst (v := 1) hx hb h2 (by decide) ?_
    refine lv_goto hx hb h3 e2 ?_
    unfold b01 at kk
    rw [if_neg h] at kk
    exact kk
theorem l_b01L (hx : p.tables.exec = Jvm.exec) (hb : c.code = cL_law) {v : Int32} {off off2 : Int} {t0 tJ : Nat} (h1 : decode cL_law pc = .ok (.ifCond .eq off, 3)) (h2 : decode cL_law (pc + 3) = .ok (.lconst 1, 1)) (h3 : decode cL_law (pc + 3 + 1) = .ok (.goto off2, 3)) (h4 : decode cL_law t0 = .ok (.lconst 0, 1)) (e1 : (pc : Int) + off = (t0 : Int)) (e2 : ((pc + 3 + 1 : Nat) : Int) + off2 = (tJ : Int)) (e3 : t0 + 1 = tJ)
    (kk : W p l e R s m args below meth c H locs cells slots Q (F0 m tJ ls (.long (b01L v) :: rest))) : W p l e R s m args below meth c H locs cells slots Q (F0 m pc ls (.int v :: rest)) := by
  refine lv_if_eq hx hb h1 e1 (fun h => ?_) (fun h => ?_)
  · refine lv_lconst (v := 0) hx hb h4 (by decide) ?_
    rw [e3]
    unfold b01L at kk
    rw [if_pos h] at kk
    exact kk
  · refine lv_lconst (v := 1) hx hb h2 (by decide) ?_
    refine lv_goto hx hb h3 e2 ?_
    unfold b01L at kk
    rw [if_neg h] at kk
    exact kk
theorem lr_ip1 {α : Type} {f : α → State → Prop} {v : Int32 × KS} {o : Option α} (C : LB p s m c args meth E h0) (hH : LH E h0 x s H locs) {mc ms : Nat} {av : Array Value}
    (hr : ∀ a, (some () : Option Unit) = some a → va_Run p l e R s m args below meth c H locs cells slots mc ms (F0 m pc ls st0) rest (QI SK E (a1 h0) H.size v av) (KA SK (a1 h0) H.size))
    (kk : ∀ (H : Heap) (locs : List Loc), LH E h0 (v.2, x.2.1, x.2.2.1, x.2.2.2) s H locs → W p l e R s m args below meth c H locs (cells + mc) (slots + ms) (Qn f o) (F0 m (pc + 3) ls (.int v.1 :: rest))) : W p l e R s m args below meth c H locs cells slots (Qn f o) (F0 m pc ls st0) :=
  lr_i1 (h := fun _ => v) (o9 := some ()) (g := fun _ => o) C hH hr (fun _ H locs h => kk H locs h)
theorem lr_ip2 {α : Type} {f : α → State → Prop} {v : Int32 × KS} {o : Option α} (C : LB p s m c args meth E h0) (hH : LH E h0 x s H locs) {mc ms : Nat} {av : Array Value}
    (hr : ∀ a, (some () : Option Unit) = some a → va_Run p l e R s m args below meth c H locs cells slots mc ms (F0 m pc ls st0) rest (QI SM E (a2 h0) H.size v av) (KA SM (a2 h0) H.size))
    (kk : ∀ (H : Heap) (locs : List Loc), LH E h0 (x.1, v.2, x.2.2.1, x.2.2.2) s H locs → W p l e R s m args below meth c H locs (cells + mc) (slots + ms) (Qn f o) (F0 m (pc + 3) ls (.int v.1 :: rest))) : W p l e R s m args below meth c H locs cells slots (Qn f o) (F0 m pc ls st0) :=
  lr_i2 (h := fun _ => v) (o9 := some ()) (g := fun _ => o) C hH hr (fun _ H locs h => kk H locs h)
theorem l_ix {n : Int32} {i k L : Nat} {xs : Nat → Int32} (hn : n = nI i) (h : i + k < L) (hL : L ≤ 2560) (K : Int32) (hK : K = nI k) : vp_in (n + K) L ∧ xs (n + K).toNatClampNeg = xs (i + k) := by
  subst hn; subst hK
  rw [nI_add]
  exact ⟨vp_in_nI h (by omega), by rw [nI_clamp (by omega)]⟩
/-- the law's frame at a case -/
abbrev lv9 (b h0 : Nat) (n : Int32) : List (Nat × Value) := [(0, .ref b), (1, .ref (a1 h0 121)), (2, .ref (a2 h0 0)), (3, .ref (h0 + 143)), (4, .ref (h0 + 144)), (5, .int n)]
end LAW2
abbrev DOP : CmpOp := .l
theorem lw_tell : LCW yL_tell cL_tell 6 [(0, 12, 15, 13), (0, 12, 19, 15)] 5 := ⟨⟨rfl, w_2_223, w_2_224⟩, by decide +kernel⟩
theorem lg_yX10_tell : LC yX10_tell cX10_tell 4 (some .int) 3 := ⟨⟨w_1_11, w_6_78⟩, by decide +kernel, by decide +kernel, by decide +kernel⟩
theorem lh_yX10_tell : LI yX10_tell 12 := ⟨⟨w_6_76, w_6_77⟩, _, _, rfl⟩
theorem lg_yX10_thrown : LC yX10_thrown cX10_thrown 1 (some .int) 0 := ⟨⟨w_1_11, w_6_70⟩, by decide +kernel, by decide +kernel, by decide +kernel⟩
theorem lh_yX10_thrown : LI yX10_thrown 12 := ⟨⟨w_6_68, w_6_69⟩, _, _, rfl⟩
theorem lw_untell : LCW yL_untell cL_untell 6 [(0, 12, 15, 13), (0, 12, 19, 15)] 5 := ⟨⟨rfl, w_3_129, w_3_130⟩, by decide +kernel⟩
theorem lg_yX10_untell : LC yX10_untell cX10_untell 4 (some .int) 3 := ⟨⟨w_1_11, w_6_189⟩, by decide +kernel, by decide +kernel, by decide +kernel⟩
theorem lh_yX10_untell : LI yX10_untell 12 := ⟨⟨w_6_187, w_6_188⟩, _, _, rfl⟩
theorem lw_holds : LCW yL_holds cL_holds 7 [(0, 21, 24, 13)] 6 := ⟨⟨rfl, w_3_145, w_3_146⟩, by decide +kernel⟩
theorem lg_yX10_holds : LC yX10_holds cX10_holds 5 (some .boolean) 4 := ⟨⟨w_1_11, w_6_197⟩, by decide +kernel, by decide +kernel, by decide +kernel⟩
theorem lh_yX10_holds : LI yX10_holds 12 := ⟨⟨w_6_195, w_6_196⟩, _, _, rfl⟩
theorem lw_isTold : LCW yL_isTold cL_isTold 6 [(0, 19, 22, 13)] 5 := ⟨⟨rfl, w_3_152, w_3_153⟩, by decide +kernel⟩
theorem lg_yX10_isTold : LC yX10_isTold cX10_isTold 4 (some .boolean) 3 := ⟨⟨w_1_11, w_6_201⟩, by decide +kernel, by decide +kernel, by decide +kernel⟩
theorem lh_yX10_isTold : LI yX10_isTold 12 := ⟨⟨w_6_199, w_6_200⟩, _, _, rfl⟩
theorem lw_factOf : LCW yL_factOf cL_factOf 7 [(0, 14, 17, 13), (0, 14, 21, 32), (0, 14, 25, 34)] 6 := ⟨⟨rfl, w_3_159, w_3_160⟩, by decide +kernel⟩
theorem lg_yX10_factOf : LC yX10_factOf cX10_factOf 6 (some .int) 4 := ⟨⟨w_1_11, w_6_205⟩, by decide +kernel, by decide +kernel, by decide +kernel⟩
theorem lh_yX10_factOf : LI yX10_factOf 12 := ⟨⟨w_6_203, w_6_204⟩, _, _, rfl⟩
theorem lw_ways : LCW yL_ways cL_ways 6 [(0, 12, 15, 13)] 5 := ⟨⟨rfl, w_3_234, w_3_235⟩, by decide +kernel⟩
theorem lg_yX10_ways : LC yX10_ways cX10_ways 6 (some .int) 3 := ⟨⟨w_1_11, w_6_225⟩, by decide +kernel, by decide +kernel, by decide +kernel⟩
theorem lh_yX10_ways : LI yX10_ways 12 := ⟨⟨w_6_223, w_6_224⟩, _, _, rfl⟩
theorem lw_would : LCW yL_would cL_would 6 [(0, 12, 15, 13)] 5 := ⟨⟨rfl, w_4_2, w_4_3⟩, by decide +kernel⟩
theorem lg_yX10_would : LC yX10_would cX10_would 7 (some .int) 3 := ⟨⟨w_1_11, w_6_233⟩, by decide +kernel, by decide +kernel, by decide +kernel⟩
theorem lh_yX10_would : LI yX10_would 12 := ⟨⟨w_6_231, w_6_232⟩, _, _, rfl⟩
theorem lw_kin : LCW yL_kin cL_kin 5 [(0, 10, 13, 13)] 4 := ⟨⟨rfl, w_4_14, w_4_15⟩, by decide +kernel⟩
theorem lg_yX10_kin : LC yX10_kin cX10_kin 5 (some .int) 2 := ⟨⟨w_1_11, w_6_237⟩, by decide +kernel, by decide +kernel, by decide +kernel⟩
theorem lh_yX10_kin : LI yX10_kin 12 := ⟨⟨w_6_235, w_6_236⟩, _, _, rfl⟩
theorem lw_relationOf : LCW yL_relationOf cL_relationOf 5 [(0, 10, 13, 13), (0, 10, 17, 34)] 4 := ⟨⟨rfl, w_4_22, w_4_23⟩, by decide +kernel⟩
theorem lg_yX10_relationOf : LC yX10_relationOf cX10_relationOf 3 (some .int) 2 := ⟨⟨w_1_11, w_7_1⟩, by decide +kernel, by decide +kernel, by decide +kernel⟩
theorem lh_yX10_relationOf : LI yX10_relationOf 12 := ⟨⟨w_6_239, w_7_0⟩, _, _, rfl⟩
theorem lw_ranked : LCW yL_ranked cL_ranked 4 [(0, 9, 12, 32)] 3 := ⟨⟨rfl, w_4_44, w_4_45⟩, by decide +kernel⟩
theorem lg_yX10_ranked : LC yX10_ranked cX10_ranked 7 (some .int) 1 := ⟨⟨w_1_11, w_7_13⟩, by decide +kernel, by decide +kernel, by decide +kernel⟩
theorem lh_yX10_ranked : LI yX10_ranked 12 := ⟨⟨w_7_11, w_7_12⟩, _, _, rfl⟩
theorem lw_isMutual : LCW yL_isMutual cL_isMutual 4 [(0, 16, 19, 13)] 3 := ⟨⟨rfl, w_4_55, w_4_56⟩, by decide +kernel⟩
theorem lg_yX10_isMutual : LC yX10_isMutual cX10_isMutual 6 (some .boolean) 1 := ⟨⟨w_1_11, w_7_17⟩, by decide +kernel, by decide +kernel, by decide +kernel⟩
theorem lh_yX10_isMutual : LI yX10_isMutual 12 := ⟨⟨w_7_15, w_7_16⟩, _, _, rfl⟩
theorem lw_rule : LCW yL_rule cL_rule 7 [(0, 14, 17, 13), (0, 14, 21, 15)] 6 := ⟨⟨rfl, w_4_63, w_4_64⟩, by decide +kernel⟩
theorem lg_yX10_rule : LC yX10_rule cX10_rule 5 (some .int) 4 := ⟨⟨w_1_11, w_7_21⟩, by decide +kernel, by decide +kernel, by decide +kernel⟩
theorem lh_yX10_rule : LI yX10_rule 12 := ⟨⟨w_7_19, w_7_20⟩, _, _, rfl⟩
theorem lw_drop : LCW yL_drop cL_drop 4 [(0, 9, 12, 34)] 3 := ⟨⟨rfl, w_4_102, w_4_103⟩, by decide +kernel⟩
theorem lg_yX10_drop : LC yX10_drop cX10_drop 2 (some .int) 1 := ⟨⟨w_1_11, w_7_41⟩, by decide +kernel, by decide +kernel, by decide +kernel⟩
theorem lh_yX10_drop : LI yX10_drop 12 := ⟨⟨w_7_39, w_7_40⟩, _, _, rfl⟩
theorem lw_ruleOf : LCW yL_ruleOf cL_ruleOf 5 [(0, 10, 13, 34), (0, 10, 17, 13)] 4 := ⟨⟨rfl, w_4_123, w_4_124⟩, by decide +kernel⟩
theorem lg_yX10_ruleOf : LC yX10_ruleOf cX10_ruleOf 3 (some .int) 2 := ⟨⟨w_1_11, w_7_53⟩, by decide +kernel, by decide +kernel, by decide +kernel⟩
theorem lh_yX10_ruleOf : LI yX10_ruleOf 12 := ⟨⟨w_7_51, w_7_52⟩, _, _, rfl⟩
theorem lw_condition : LCW yL_condition cL_condition 5 [(0, 10, 13, 34), (0, 10, 17, 32)] 4 := ⟨⟨rfl, w_4_144, w_4_145⟩, by decide +kernel⟩
theorem lg_yX10_condition : LC yX10_condition cX10_condition 3 (some .int) 2 := ⟨⟨w_1_11, w_7_65⟩, by decide +kernel, by decide +kernel, by decide +kernel⟩
theorem lh_yX10_condition : LI yX10_condition 12 := ⟨⟨w_7_63, w_7_64⟩, _, _, rfl⟩
theorem lw_wouldLayer : LCW yL_wouldLayer cL_wouldLayer 7 [(0, 21, 24, 13)] 6 := ⟨⟨rfl, w_4_152, w_4_153⟩, by decide +kernel⟩
theorem lg_yX10_wouldLayer : LC yX10_wouldLayer cX10_wouldLayer 6 (some .boolean) 4 := ⟨⟨w_1_11, w_7_69⟩, by decide +kernel, by decide +kernel, by decide +kernel⟩
theorem lh_yX10_wouldLayer : LI yX10_wouldLayer 12 := ⟨⟨w_7_67, w_7_68⟩, _, _, rfl⟩
theorem lg_yX9_layers : LC yX9_layers cX9_layers 1 (some .int) 0 := ⟨⟨w_1_1, w_2_26⟩, by decide +kernel, by decide +kernel, by decide +kernel⟩
theorem lh_yX9_layers : LI yX9_layers 11 := ⟨⟨w_2_24, w_2_25⟩, _, _, rfl⟩
theorem lg_yX10_layers_ : LC yX10_layers_ cX10_layers_ 1 (some .int) 0 := ⟨⟨w_1_11, w_7_85⟩, by decide +kernel, by decide +kernel, by decide +kernel⟩
theorem lh_yX10_layers_ : LI yX10_layers_ 12 := ⟨⟨w_7_83, w_7_84⟩, _, _, rfl⟩
theorem lw_rounds : LCW yL_rounds cL_rounds 4 [(0, 9, 12, 32)] 3 := ⟨⟨rfl, w_4_159, w_4_160⟩, by decide +kernel⟩
theorem lg_yX10_rounds : LC yX10_rounds cX10_rounds 2 (some .int) 1 := ⟨⟨w_1_11, w_7_89⟩, by decide +kernel, by decide +kernel, by decide +kernel⟩
theorem lh_yX10_rounds : LI yX10_rounds 12 := ⟨⟨w_7_87, w_7_88⟩, _, _, rfl⟩
theorem lw_fresh : LCW yL_fresh cL_fresh 5 [(0, 10, 13, 32)] 4 := ⟨⟨rfl, w_4_172, w_4_173⟩, by decide +kernel⟩
theorem lg_yX10_fresh : LC yX10_fresh cX10_fresh 6 (some .int) 2 := ⟨⟨w_1_11, w_7_93⟩, by decide +kernel, by decide +kernel, by decide +kernel⟩
theorem lh_yX10_fresh : LI yX10_fresh 12 := ⟨⟨w_7_91, w_7_92⟩, _, _, rfl⟩
theorem lw_line : LCW yL_line cL_line 6 [(0, 12, 15, 13), (0, 12, 19, 32)] 5 := ⟨⟨rfl, w_4_184, w_4_185⟩, by decide +kernel⟩
theorem lg_yX10_line : LC yX10_line cX10_line 7 (some .int) 3 := ⟨⟨w_1_11, w_7_98⟩, by decide +kernel, by decide +kernel, by decide +kernel⟩
theorem lh_yX10_line : LI yX10_line 12 := ⟨⟨w_7_96, w_7_97⟩, _, _, rfl⟩
theorem lw_ruleLine : LCW yL_ruleLine cL_ruleLine 4 [(0, 9, 12, 34)] 3 := ⟨⟨rfl, w_4_218, w_4_219⟩, by decide +kernel⟩
theorem lg_yX10_ruleLine : LC yX10_ruleLine cX10_ruleLine 4 (some .int) 1 := ⟨⟨w_1_11, w_7_110⟩, by decide +kernel, by decide +kernel, by decide +kernel⟩
theorem lh_yX10_ruleLine : LI yX10_ruleLine 12 := ⟨⟨w_7_108, w_7_109⟩, _, _, rfl⟩
theorem lw_character : LCW yL_character cL_character 4 [(0, 9, 12, 34)] 3 := ⟨⟨rfl, w_4_232, w_4_233⟩, by decide +kernel⟩
theorem lg_yX10_character : LC yX10_character cX10_character 2 (some .char) 1 := ⟨⟨w_1_11, w_7_114⟩, by decide +kernel, by decide +kernel, by decide +kernel⟩
theorem lh_yX10_character : LI yX10_character 12 := ⟨⟨w_7_112, w_7_113⟩, _, _, rfl⟩
theorem lw_append : LCW yL_append cL_append 4 [(0, 9, 12, 93)] 3 := ⟨⟨rfl, w_5_0, w_5_1⟩, by decide +kernel⟩
theorem lg_yX10_append : LC yX10_append cX10_append 2 (some .int) 1 := ⟨⟨w_1_11, w_7_118⟩, by decide +kernel, by decide +kernel, by decide +kernel⟩
theorem lh_yX10_append : LI yX10_append 12 := ⟨⟨w_7_116, w_7_117⟩, _, _, rfl⟩
theorem lw_run : LCW yL_run cL_run 3 [(0, 8, 11, 13), (0, 8, 14, 15)] 2 := ⟨⟨rfl, w_5_28, w_5_29⟩, by decide +kernel⟩
theorem lg_yX10_run : LC yX10_run cX10_run 2 (some .int) 0 := ⟨⟨w_1_11, w_7_122⟩, by decide +kernel, by decide +kernel, by decide +kernel⟩
theorem lh_yX10_run : LI yX10_run 12 := ⟨⟨w_7_120, w_7_121⟩, _, _, rfl⟩
theorem lg_yX9_errorPosition : LC yX9_errorPosition cX9_errorPosition 1 (some .int) 0 := ⟨⟨w_1_1, w_2_153⟩, by decide +kernel, by decide +kernel, by decide +kernel⟩
theorem lh_yX9_errorPosition : LI yX9_errorPosition 11 := ⟨⟨w_2_151, w_2_152⟩, _, _, rfl⟩
theorem lg_yX10_errorPosition : LC yX10_errorPosition cX10_errorPosition 1 (some .int) 0 := ⟨⟨w_1_11, w_7_146⟩, by decide +kernel, by decide +kernel, by decide +kernel⟩
theorem lh_yX10_errorPosition : LI yX10_errorPosition 12 := ⟨⟨w_7_144, w_7_145⟩, _, _, rfl⟩
theorem lw_refusal : LCW yL_refusal cL_refusal 4 [(0, 9, 12, 32)] 3 := ⟨⟨rfl, w_5_105, w_5_106⟩, by decide +kernel⟩
theorem lg_yX10_refusal : LC yX10_refusal cX10_refusal 2 (some .int) 1 := ⟨⟨w_1_11, w_6_74⟩, by decide +kernel, by decide +kernel, by decide +kernel⟩
theorem lh_yX10_refusal : LI yX10_refusal 12 := ⟨⟨w_6_72, w_6_73⟩, _, _, rfl⟩
theorem lw_account : LCW yL_account cL_account 4 [(0, 9, 12, 13)] 3 := ⟨⟨rfl, w_5_113, w_5_114⟩, by decide +kernel⟩
theorem lg_yX10_account : LC yX10_account cX10_account 2 (some .int) 1 := ⟨⟨w_1_11, w_7_150⟩, by decide +kernel, by decide +kernel, by decide +kernel⟩
theorem lh_yX10_account : LI yX10_account 12 := ⟨⟨w_7_148, w_7_149⟩, _, _, rfl⟩
theorem lg_yX9_isWell : LC yX9_isWell cX9_isWell 3 (some .boolean) 0 := ⟨⟨w_1_1, w_2_157⟩, by decide +kernel, by decide +kernel, by decide +kernel⟩
theorem lh_yX9_isWell : LI yX9_isWell 11 := ⟨⟨w_2_155, w_2_156⟩, _, _, rfl⟩
theorem lg_yX10_isWell : LC yX10_isWell cX10_isWell 1 (some .boolean) 0 := ⟨⟨w_1_11, w_7_170⟩, by decide +kernel, by decide +kernel, by decide +kernel⟩
theorem lh_yX10_isWell : LI yX10_isWell 12 := ⟨⟨w_7_168, w_7_169⟩, _, _, rfl⟩
theorem lw_meanDepth : LCW yL_meanDepth cL_meanDepth 3 [(0, 7, 10, 110)] 2 := ⟨⟨rfl, w_5_143, w_5_144⟩, by decide +kernel⟩
theorem lg_yX10_meanDepth : LC yX10_meanDepth cX10_meanDepth 2 (some .double) 0 := ⟨⟨w_1_11, w_7_174⟩, by decide +kernel, by decide +kernel, by decide +kernel⟩
theorem lh_yX10_meanDepth : LI yX10_meanDepth 12 := ⟨⟨w_7_172, w_7_173⟩, _, _, rfl⟩
theorem lw_toldShare : LCW yL_toldShare cL_toldShare 3 [(0, 8, 11, 110)] 2 := ⟨⟨rfl, w_5_171, w_5_172⟩, by decide +kernel⟩
theorem lg_yX10_toldShare : LC yX10_toldShare cX10_toldShare 2 (some .float) 0 := ⟨⟨w_1_11, w_7_178⟩, by decide +kernel, by decide +kernel, by decide +kernel⟩
theorem lh_yX10_toldShare : LI yX10_toldShare 12 := ⟨⟨w_7_176, w_7_177⟩, _, _, rfl⟩
theorem lw_undo : LCW yL_undo cL_undo 3 [(0, 8, 11, 93)] 2 := ⟨⟨rfl, w_5_178, w_5_179⟩, by decide +kernel⟩
theorem lg_yX10_undo : LC yX10_undo cX10_undo 1 (some .int) 0 := ⟨⟨w_1_11, w_7_182⟩, by decide +kernel, by decide +kernel, by decide +kernel⟩
theorem lh_yX10_undo : LI yX10_undo 12 := ⟨⟨w_7_180, w_7_181⟩, _, _, rfl⟩
theorem lg_yX9_save : LC yX9_save cX9_save 1 (some .int) 0 := ⟨⟨w_1_1, w_2_207⟩, by decide +kernel, by decide +kernel, by decide +kernel⟩
theorem lh_yX9_save : LI yX9_save 11 := ⟨⟨w_2_205, w_2_206⟩, _, _, rfl⟩
theorem lg_yX10_save : LC yX10_save cX10_save 1 (some .int) 0 := ⟨⟨w_1_11, w_7_186⟩, by decide +kernel, by decide +kernel, by decide +kernel⟩
theorem lh_yX10_save : LI yX10_save 12 := ⟨⟨w_7_184, w_7_185⟩, _, _, rfl⟩
theorem lw_restore : LCW yL_restore cL_restore 3 [(0, 8, 11, 93)] 2 := ⟨⟨rfl, w_5_192, w_5_193⟩, by decide +kernel⟩
theorem lg_yX10_restore : LC yX10_restore cX10_restore 1 (some .int) 0 := ⟨⟨w_1_11, w_7_190⟩, by decide +kernel, by decide +kernel, by decide +kernel⟩
theorem lh_yX10_restore : LI yX10_restore 12 := ⟨⟨w_7_188, w_7_189⟩, _, _, rfl⟩
/-- case 0 -/
def gL_0 {α : Type} (xs : Nat → Int32) (i : Nat) (x : LST) (G : LST → Option α) : Option α := (fL_tell x.1 (xs (i + 1)) (xs (i + 2)) (xs (i + 3)) x.2.2.1).bind fun ya1 => (fX10_tell x.2.1 (xs (i + 1)) (xs (i + 2)) (xs (i + 3))).bind fun yb2 => (if (fX10_thrown yb2.2) = ya1.1 then (if ya1.1 = 0 then (if ya1.2.2 = (Int32.toInt64 yb2.1) then G (ya1.2.1, yb2.2, ya1.2.2, x.2.2.2) else none) else G (ya1.2.1, yb2.2, ya1.2.2, x.2.2.2)) else none)
set_option maxHeartbeats 4000000 in
set_option maxRecDepth 100000 in
theorem kc_0 {p : Program} {l : Launch} (hl9 : l.stackTraces = false) {e : Env} {s : State} {m : MethodId} {args : Array Value} {below : List Frame} {meth : Method} {c : Code} {E : KE} {h0 b L : Nat} {xs : Nat → Int32} (C : LB p s m c args meth E h0) (hX : va_X b L xs s s.heap) (hbl : b < s.heap.size) {x : LST} {H : Heap} {locs : List Loc} {cells slots : Nat} (hH : LH E h0 x s H locs) {i : Nat} (hi : i + 5 ≤ L) (hL : L ≤ 2560) {n : Int32} (hn : n = nI i) {ls : Array Slot} (hl : lv_has ls 9 (lv9 b h0 n)) {α : Type} {f : α → State → Prop} {G : LST → Option α} (hcap : cells + 2 ≤ 603072 ∧ slots + 9 ≤ 7211114)
    (kk : ∀ (x : LST) (H : Heap) (locs : List Loc) (ls : Array Slot), LH E h0 x s H locs → lv_has ls 9 (lv9 b h0 n) → W p l e room_1 s m args below meth c H locs (cells + 2) (slots + 9) (Qn f (G x)) (F0 m 2261 ls [])) : W p l e room_1 s m args below meth c H locs cells slots (Qn f (gL_0 xs i x G)) (F0 m 192 ls []) := by
  have hx := C.1.1.1
  have hb := C.1.1.2.1
  unfold gL_0
  have q1 := l_ix (xs := xs) hn (by omega : i + 1 < L) hL 1 rfl
  have q2 := l_ix (xs := xs) hn (by omega : i + 2 < L) hL 2 rfl
  have q3 := l_ix (xs := xs) hn (by omega : i + 3 < L) hL 3 rfl
  refine lv_aload_n hx hb dL_law_192 rfl (lv_at hl 1 rfl) ?_
  refine lv_aload_n hx hb dL_law_193 rfl (lv_at hl 0 rfl) ?_
  refine lv_iload hx hb dL_law_194 (lv_at hl 5 rfl) ?_
  refine lv_iconst (v := 1) hx hb dL_law_196 (by decide) ?_
  refine lv_iadd hx hb dL_law_197 ?_
  refine l_sld C hH hX hbl q1 dL_law_198 ?_
  refine lv_aload_n hx hb dL_law_199 rfl (lv_at hl 0 rfl) ?_
  refine lv_iload hx hb dL_law_200 (lv_at hl 5 rfl) ?_
  refine lv_iconst (v := 2) hx hb dL_law_202 (by decide) ?_
  refine lv_iadd hx hb dL_law_203 ?_
  refine l_sld C hH hX hbl q2 dL_law_204 ?_
  refine lv_aload_n hx hb dL_law_205 rfl (lv_at hl 0 rfl) ?_
  refine lv_iload hx hb dL_law_206 (lv_at hl 5 rfl) ?_
  refine lv_iconst (v := 3) hx hb dL_law_208 (by decide) ?_
  refine lv_iadd hx hb dL_law_209 ?_
  refine l_sld C hH hX hbl q3 dL_law_210 ?_
  refine lv_aload_n hx hb dL_law_211 rfl (lv_at hl 3 rfl) ?_
  refine lr_wL C hH (kL_tell l hl9 E (a1 h0) x.1 (xs (i + 1)) (xs (i + 2)) (xs (i + 3)) (h0 + 143) x.2.2.1) w_2_222 lw_tell ⟨rfl, rfl⟩ rfl dL_law_212 rfl hl.1 (Nat.le_of_ble_eq_true rfl) ⟨Nat.le_of_ble_eq_true rfl, Nat.le_of_ble_eq_true rfl⟩ ⟨by have := hcap.1; show cells + 1 ≤ 603072; omega, by have := hcap.2; show slots + 6 ≤ 7211114; omega⟩ (fun ya1 H locs hH => ?_)
  refine lv_istore (lv' := [(6, .int ya1.1), (0, .ref b), (1, .ref (a1 h0 121)), (2, .ref (a2 h0 0)), (3, .ref (h0 + 143)), (4, .ref (h0 + 144)), (5, .int n)]) hx hb dL_law_215 hl (by decide) rfl (fun ls hl => ?_)
  refine lv_aload_n hx hb dL_law_217 rfl (lv_at hl 3 rfl) ?_
  refine lv_aload_n hx hb dL_law_218 rfl (lv_at hl 1 rfl) ?_
  refine lv_iload hx hb dL_law_219 (lv_at hl 6 rfl) ?_
  refine lv_iconst (v := 1) hx hb dL_law_221 (by decide) ?_
  refine lv_iadd hx hb dL_law_222 ?_
  refine l_sld C hH hX hbl q1 dL_law_223 ?_
  refine lv_aload_n hx hb dL_law_224 rfl (lv_at hl 1 rfl) ?_
  refine lv_iload hx hb dL_law_225 (lv_at hl 6 rfl) ?_
  refine lv_iconst (v := 2) hx hb dL_law_227 (by decide) ?_
  refine lv_iadd hx hb dL_law_228 ?_
  refine l_sld C hH hX hbl q2 dL_law_229 ?_
  refine lv_aload_n hx hb dL_law_230 rfl (lv_at hl 1 rfl) ?_
  refine lv_iload hx hb dL_law_231 (lv_at hl 6 rfl) ?_
  refine lv_iconst (v := 3) hx hb dL_law_233 (by decide) ?_
  refine lv_iadd hx hb dL_law_234 ?_
  refine l_sld C hH hX hbl q3 dL_law_235 ?_
  refine lr_i2 (h := fun z => z) C hH (lr_run2 C hH w_6_75 lg_yX10_tell lh_yX10_tell (kX10_tell l E (a2 h0) x.2.1 (xs (i + 1)) (xs (i + 2)) (xs (i + 3))) (As := [.int (xs (i + 1)), .int (xs (i + 2)), .int (xs (i + 3))]) rfl dL_law_236 rfl hl.1 (Nat.le_of_ble_eq_true rfl) ⟨Nat.le_of_ble_eq_true rfl, Nat.le_of_ble_eq_true rfl⟩ ⟨by have := hcap.1; show cells + 1 + 0 ≤ 603072; omega, by have := hcap.2; show slots + 6 + 0 ≤ 7211114; omega⟩) (fun yb2 H locs hH => ?_)
  refine lv_istore (lv' := [(7, .int yb2.1), (6, .int ya1.1), (0, .ref b), (1, .ref (a1 h0 121)), (2, .ref (a2 h0 0)), (3, .ref (h0 + 143)), (4, .ref (h0 + 144)), (5, .int n)]) hx hb dL_law_239 hl (by decide) rfl (fun ls hl => ?_)
  refine lv_aload_n hx hb dL_law_241 rfl (lv_at hl 4 rfl) ?_
  refine lr_ip2 (v := (fX10_thrown yb2.2, yb2.2)) C hH (lr_run2 C hH w_6_67 lg_yX10_thrown lh_yX10_thrown (kX10_thrown l E (a2 h0) yb2.2) (As := []) rfl dL_law_242 rfl hl.1 (Nat.le_of_ble_eq_true rfl) ⟨Nat.le_of_ble_eq_true rfl, Nat.le_of_ble_eq_true rfl⟩ ⟨by have := hcap.1; show cells + 1 + 0 + 0 ≤ 603072; omega, by have := hcap.2; show slots + 6 + 0 + 0 ≤ 7211114; omega⟩) (fun H locs hH => ?_)
  refine lv_iload hx hb dL_law_245 (lv_at hl 1 rfl) ?_
  refine kb_icmp_eq (tgt := 252) hx hb dL_law_247 (by decide) (fun _ => ?_) (fun _ => W_none)
  refine lv_iload hx hb dL_law_252 (lv_at hl 1 rfl) ?_
  refine kb_if_ne (tgt := 269) hx hb dL_law_254 (by decide) (fun _ => ?_) (fun _ => ?_)
  · refine lv_goto (tgt := 2261) hx hb dL_law_269 (by decide) ?_
    exact W.widen (k := cells + 2) (n := slots + 9) (by show cells + 1 + 0 + 0 ≤ cells + 2; omega) (by show slots + 6 + 0 + 0 ≤ slots + 9; omega) (kk _ H locs ls hH (lv_sub hl [2, 3, 4, 5, 6, 7] rfl))
  · skip
    refine lv_aload_n hx hb dL_law_257 rfl (lv_at hl 5 rfl) ?_
    refine lv_iconst (v := 0) hx hb dL_law_258 (by decide) ?_
    refine l_lald C hH dL_law_259 ?_
    refine lv_iload hx hb dL_law_260 (lv_at hl 0 rfl) ?_
    refine lv_i2l (v := (Int32.toInt64 yb2.1)) hx hb dL_law_262 rfl ?_
    refine l_lcmp (tgt := 269) hx hb dL_law_263 dL_law_264 (by decide) ?_
    refine lv_goto (tgt := 2261) hx hb dL_law_269 (by decide) ?_
    exact W.widen (k := cells + 2) (n := slots + 9) (by show cells + 1 + 0 + 0 ≤ cells + 2; omega) (by show slots + 6 + 0 + 0 ≤ slots + 9; omega) (kk _ H locs ls hH (lv_sub hl [2, 3, 4, 5, 6, 7] rfl))
/-- case 1 -/
def gL_1 {α : Type} (xs : Nat → Int32) (i : Nat) (x : LST) (G : LST → Option α) : Option α := (fL_untell x.1 (xs (i + 1)) (xs (i + 2)) (xs (i + 3)) x.2.2.1).bind fun ya1 => (fX10_untell x.2.1 (xs (i + 1)) (xs (i + 2)) (xs (i + 3))).bind fun yb2 => (if (fX10_thrown yb2.2) = ya1.1 then (if ya1.1 = 0 then (if ya1.2.2 = (Int32.toInt64 yb2.1) then G (ya1.2.1, yb2.2, ya1.2.2, x.2.2.2) else none) else G (ya1.2.1, yb2.2, ya1.2.2, x.2.2.2)) else none)
set_option maxHeartbeats 4000000 in
set_option maxRecDepth 100000 in
theorem kc_1 {p : Program} {l : Launch} (hl9 : l.stackTraces = false) {e : Env} {s : State} {m : MethodId} {args : Array Value} {below : List Frame} {meth : Method} {c : Code} {E : KE} {h0 b L : Nat} {xs : Nat → Int32} (C : LB p s m c args meth E h0) (hX : va_X b L xs s s.heap) (hbl : b < s.heap.size) {x : LST} {H : Heap} {locs : List Loc} {cells slots : Nat} (hH : LH E h0 x s H locs) {i : Nat} (hi : i + 5 ≤ L) (hL : L ≤ 2560) {n : Int32} (hn : n = nI i) {ls : Array Slot} (hl : lv_has ls 9 (lv9 b h0 n)) {α : Type} {f : α → State → Prop} {G : LST → Option α} (hcap : cells + 2 ≤ 603072 ∧ slots + 9 ≤ 7211114)
    (kk : ∀ (x : LST) (H : Heap) (locs : List Loc) (ls : Array Slot), LH E h0 x s H locs → lv_has ls 9 (lv9 b h0 n) → W p l e room_1 s m args below meth c H locs (cells + 2) (slots + 9) (Qn f (G x)) (F0 m 2261 ls [])) : W p l e room_1 s m args below meth c H locs cells slots (Qn f (gL_1 xs i x G)) (F0 m 272 ls []) := by
  have hx := C.1.1.1
  have hb := C.1.1.2.1
  unfold gL_1
  have q1 := l_ix (xs := xs) hn (by omega : i + 1 < L) hL 1 rfl
  have q2 := l_ix (xs := xs) hn (by omega : i + 2 < L) hL 2 rfl
  have q3 := l_ix (xs := xs) hn (by omega : i + 3 < L) hL 3 rfl
  refine lv_aload_n hx hb dL_law_272 rfl (lv_at hl 1 rfl) ?_
  refine lv_aload_n hx hb dL_law_273 rfl (lv_at hl 0 rfl) ?_
  refine lv_iload hx hb dL_law_274 (lv_at hl 5 rfl) ?_
  refine lv_iconst (v := 1) hx hb dL_law_276 (by decide) ?_
  refine lv_iadd hx hb dL_law_277 ?_
  refine l_sld C hH hX hbl q1 dL_law_278 ?_
  refine lv_aload_n hx hb dL_law_279 rfl (lv_at hl 0 rfl) ?_
  refine lv_iload hx hb dL_law_280 (lv_at hl 5 rfl) ?_
  refine lv_iconst (v := 2) hx hb dL_law_282 (by decide) ?_
  refine lv_iadd hx hb dL_law_283 ?_
  refine l_sld C hH hX hbl q2 dL_law_284 ?_
  refine lv_aload_n hx hb dL_law_285 rfl (lv_at hl 0 rfl) ?_
  refine lv_iload hx hb dL_law_286 (lv_at hl 5 rfl) ?_
  refine lv_iconst (v := 3) hx hb dL_law_288 (by decide) ?_
  refine lv_iadd hx hb dL_law_289 ?_
  refine l_sld C hH hX hbl q3 dL_law_290 ?_
  refine lv_aload_n hx hb dL_law_291 rfl (lv_at hl 3 rfl) ?_
  refine lr_wL C hH (kL_untell l hl9 E (a1 h0) x.1 (xs (i + 1)) (xs (i + 2)) (xs (i + 3)) (h0 + 143) x.2.2.1) w_3_128 lw_untell ⟨rfl, rfl⟩ rfl dL_law_292 rfl hl.1 (Nat.le_of_ble_eq_true rfl) ⟨Nat.le_of_ble_eq_true rfl, Nat.le_of_ble_eq_true rfl⟩ ⟨by have := hcap.1; show cells + 1 ≤ 603072; omega, by have := hcap.2; show slots + 6 ≤ 7211114; omega⟩ (fun ya1 H locs hH => ?_)
  refine lv_istore (lv' := [(6, .int ya1.1), (0, .ref b), (1, .ref (a1 h0 121)), (2, .ref (a2 h0 0)), (3, .ref (h0 + 143)), (4, .ref (h0 + 144)), (5, .int n)]) hx hb dL_law_295 hl (by decide) rfl (fun ls hl => ?_)
  refine lv_aload_n hx hb dL_law_297 rfl (lv_at hl 3 rfl) ?_
  refine lv_aload_n hx hb dL_law_298 rfl (lv_at hl 1 rfl) ?_
  refine lv_iload hx hb dL_law_299 (lv_at hl 6 rfl) ?_
  refine lv_iconst (v := 1) hx hb dL_law_301 (by decide) ?_
  refine lv_iadd hx hb dL_law_302 ?_
  refine l_sld C hH hX hbl q1 dL_law_303 ?_
  refine lv_aload_n hx hb dL_law_304 rfl (lv_at hl 1 rfl) ?_
  refine lv_iload hx hb dL_law_305 (lv_at hl 6 rfl) ?_
  refine lv_iconst (v := 2) hx hb dL_law_307 (by decide) ?_
  refine lv_iadd hx hb dL_law_308 ?_
  refine l_sld C hH hX hbl q2 dL_law_309 ?_
  refine lv_aload_n hx hb dL_law_310 rfl (lv_at hl 1 rfl) ?_
  refine lv_iload hx hb dL_law_311 (lv_at hl 6 rfl) ?_
  refine lv_iconst (v := 3) hx hb dL_law_313 (by decide) ?_
  refine lv_iadd hx hb dL_law_314 ?_
  refine l_sld C hH hX hbl q3 dL_law_315 ?_
  refine lr_i2 (h := fun z => z) C hH (lr_run2 C hH w_6_186 lg_yX10_untell lh_yX10_untell (kX10_untell l E (a2 h0) x.2.1 (xs (i + 1)) (xs (i + 2)) (xs (i + 3))) (As := [.int (xs (i + 1)), .int (xs (i + 2)), .int (xs (i + 3))]) rfl dL_law_316 rfl hl.1 (Nat.le_of_ble_eq_true rfl) ⟨Nat.le_of_ble_eq_true rfl, Nat.le_of_ble_eq_true rfl⟩ ⟨by have := hcap.1; show cells + 1 + 0 ≤ 603072; omega, by have := hcap.2; show slots + 6 + 0 ≤ 7211114; omega⟩) (fun yb2 H locs hH => ?_)
  refine lv_istore (lv' := [(7, .int yb2.1), (6, .int ya1.1), (0, .ref b), (1, .ref (a1 h0 121)), (2, .ref (a2 h0 0)), (3, .ref (h0 + 143)), (4, .ref (h0 + 144)), (5, .int n)]) hx hb dL_law_319 hl (by decide) rfl (fun ls hl => ?_)
  refine lv_aload_n hx hb dL_law_321 rfl (lv_at hl 4 rfl) ?_
  refine lr_ip2 (v := (fX10_thrown yb2.2, yb2.2)) C hH (lr_run2 C hH w_6_67 lg_yX10_thrown lh_yX10_thrown (kX10_thrown l E (a2 h0) yb2.2) (As := []) rfl dL_law_322 rfl hl.1 (Nat.le_of_ble_eq_true rfl) ⟨Nat.le_of_ble_eq_true rfl, Nat.le_of_ble_eq_true rfl⟩ ⟨by have := hcap.1; show cells + 1 + 0 + 0 ≤ 603072; omega, by have := hcap.2; show slots + 6 + 0 + 0 ≤ 7211114; omega⟩) (fun H locs hH => ?_)
  refine lv_iload hx hb dL_law_325 (lv_at hl 1 rfl) ?_
  refine kb_icmp_eq (tgt := 332) hx hb dL_law_327 (by decide) (fun _ => ?_) (fun _ => W_none)
  refine lv_iload hx hb dL_law_332 (lv_at hl 1 rfl) ?_
  refine kb_if_ne (tgt := 349) hx hb dL_law_334 (by decide) (fun _ => ?_) (fun _ => ?_)
  · refine lv_goto (tgt := 2261) hx hb dL_law_349 (by decide) ?_
    exact W.widen (k := cells + 2) (n := slots + 9) (by show cells + 1 + 0 + 0 ≤ cells + 2; omega) (by show slots + 6 + 0 + 0 ≤ slots + 9; omega) (kk _ H locs ls hH (lv_sub hl [2, 3, 4, 5, 6, 7] rfl))
  · skip
    refine lv_aload_n hx hb dL_law_337 rfl (lv_at hl 5 rfl) ?_
    refine lv_iconst (v := 0) hx hb dL_law_338 (by decide) ?_
    refine l_lald C hH dL_law_339 ?_
    refine lv_iload hx hb dL_law_340 (lv_at hl 0 rfl) ?_
    refine lv_i2l (v := (Int32.toInt64 yb2.1)) hx hb dL_law_342 rfl ?_
    refine l_lcmp (tgt := 349) hx hb dL_law_343 dL_law_344 (by decide) ?_
    refine lv_goto (tgt := 2261) hx hb dL_law_349 (by decide) ?_
    exact W.widen (k := cells + 2) (n := slots + 9) (by show cells + 1 + 0 + 0 ≤ cells + 2; omega) (by show slots + 6 + 0 + 0 ≤ slots + 9; omega) (kk _ H locs ls hH (lv_sub hl [2, 3, 4, 5, 6, 7] rfl))
/-- case 2 -/
def gL_2 {α : Type} (xs : Nat → Int32) (i : Nat) (x : LST) (G : LST → Option α) : Option α := (fL_holds x.1 (xs (i + 1)) (xs (i + 2)) (xs (i + 3)) (b01 (xs (i + 4))) x.2.2.1).bind fun ya1 => (fX10_holds x.2.1 (xs (i + 1)) (xs (i + 2)) (xs (i + 3)) (b01 (xs (i + 4)))).bind fun yb2 => (if (fX10_thrown yb2.2) = ya1.1 then (if ya1.1 = 0 then (if ya1.2.2 = (b01L yb2.1) then G (ya1.2.1, yb2.2, ya1.2.2, x.2.2.2) else none) else G (ya1.2.1, yb2.2, ya1.2.2, x.2.2.2)) else none)
set_option maxHeartbeats 4000000 in
set_option maxRecDepth 100000 in
theorem kc_2 {p : Program} {l : Launch} (hl9 : l.stackTraces = false) {e : Env} {s : State} {m : MethodId} {args : Array Value} {below : List Frame} {meth : Method} {c : Code} {E : KE} {h0 b L : Nat} {xs : Nat → Int32} (C : LB p s m c args meth E h0) (hX : va_X b L xs s s.heap) (hbl : b < s.heap.size) {x : LST} {H : Heap} {locs : List Loc} {cells slots : Nat} (hH : LH E h0 x s H locs) {i : Nat} (hi : i + 5 ≤ L) (hL : L ≤ 2560) {n : Int32} (hn : n = nI i) {ls : Array Slot} (hl : lv_has ls 9 (lv9 b h0 n)) {α : Type} {f : α → State → Prop} {G : LST → Option α} (hcap : cells + 2 ≤ 603072 ∧ slots + 9 ≤ 7211114)
    (kk : ∀ (x : LST) (H : Heap) (locs : List Loc) (ls : Array Slot), LH E h0 x s H locs → lv_has ls 9 (lv9 b h0 n) → W p l e room_1 s m args below meth c H locs (cells + 2) (slots + 9) (Qn f (G x)) (F0 m 2261 ls [])) : W p l e room_1 s m args below meth c H locs cells slots (Qn f (gL_2 xs i x G)) (F0 m 352 ls []) := by
  have hx := C.1.1.1
  have hb := C.1.1.2.1
  unfold gL_2
  have q1 := l_ix (xs := xs) hn (by omega : i + 1 < L) hL 1 rfl
  have q2 := l_ix (xs := xs) hn (by omega : i + 2 < L) hL 2 rfl
  have q3 := l_ix (xs := xs) hn (by omega : i + 3 < L) hL 3 rfl
  have q4 := l_ix (xs := xs) hn (by omega : i + 4 < L) hL 4 rfl
  refine lv_aload_n hx hb dL_law_352 rfl (lv_at hl 1 rfl) ?_
  refine lv_aload_n hx hb dL_law_353 rfl (lv_at hl 0 rfl) ?_
  refine lv_iload hx hb dL_law_354 (lv_at hl 5 rfl) ?_
  refine lv_iconst (v := 1) hx hb dL_law_356 (by decide) ?_
  refine lv_iadd hx hb dL_law_357 ?_
  refine l_sld C hH hX hbl q1 dL_law_358 ?_
  refine lv_aload_n hx hb dL_law_359 rfl (lv_at hl 0 rfl) ?_
  refine lv_iload hx hb dL_law_360 (lv_at hl 5 rfl) ?_
  refine lv_iconst (v := 2) hx hb dL_law_362 (by decide) ?_
  refine lv_iadd hx hb dL_law_363 ?_
  refine l_sld C hH hX hbl q2 dL_law_364 ?_
  refine lv_aload_n hx hb dL_law_365 rfl (lv_at hl 0 rfl) ?_
  refine lv_iload hx hb dL_law_366 (lv_at hl 5 rfl) ?_
  refine lv_iconst (v := 3) hx hb dL_law_368 (by decide) ?_
  refine lv_iadd hx hb dL_law_369 ?_
  refine l_sld C hH hX hbl q3 dL_law_370 ?_
  refine lv_aload_n hx hb dL_law_371 rfl (lv_at hl 0 rfl) ?_
  refine lv_iload hx hb dL_law_372 (lv_at hl 5 rfl) ?_
  refine lv_iconst (v := 4) hx hb dL_law_374 (by decide) ?_
  refine lv_iadd hx hb dL_law_375 ?_
  refine l_sld C hH hX hbl q4 dL_law_376 ?_
  refine l_b01 (t0 := 384) (tJ := 385) hx hb dL_law_377 dL_law_380 dL_law_381 dL_law_384 (by decide) (by decide) rfl ?_
  refine lv_aload_n hx hb dL_law_385 rfl (lv_at hl 3 rfl) ?_
  refine lr_wL C hH (kL_holds l hl9 E (a1 h0) x.1 (xs (i + 1)) (xs (i + 2)) (xs (i + 3)) (b01 (xs (i + 4))) (h0 + 143) x.2.2.1) w_3_144 lw_holds ⟨rfl, rfl⟩ rfl dL_law_386 rfl hl.1 (Nat.le_of_ble_eq_true rfl) ⟨Nat.le_of_ble_eq_true rfl, Nat.le_of_ble_eq_true rfl⟩ ⟨by have := hcap.1; show cells + 1 ≤ 603072; omega, by have := hcap.2; show slots + 6 ≤ 7211114; omega⟩ (fun ya1 H locs hH => ?_)
  refine lv_istore (lv' := [(6, .int ya1.1), (0, .ref b), (1, .ref (a1 h0 121)), (2, .ref (a2 h0 0)), (3, .ref (h0 + 143)), (4, .ref (h0 + 144)), (5, .int n)]) hx hb dL_law_389 hl (by decide) rfl (fun ls hl => ?_)
  refine lv_aload_n hx hb dL_law_391 rfl (lv_at hl 3 rfl) ?_
  refine lv_aload_n hx hb dL_law_392 rfl (lv_at hl 1 rfl) ?_
  refine lv_iload hx hb dL_law_393 (lv_at hl 6 rfl) ?_
  refine lv_iconst (v := 1) hx hb dL_law_395 (by decide) ?_
  refine lv_iadd hx hb dL_law_396 ?_
  refine l_sld C hH hX hbl q1 dL_law_397 ?_
  refine lv_aload_n hx hb dL_law_398 rfl (lv_at hl 1 rfl) ?_
  refine lv_iload hx hb dL_law_399 (lv_at hl 6 rfl) ?_
  refine lv_iconst (v := 2) hx hb dL_law_401 (by decide) ?_
  refine lv_iadd hx hb dL_law_402 ?_
  refine l_sld C hH hX hbl q2 dL_law_403 ?_
  refine lv_aload_n hx hb dL_law_404 rfl (lv_at hl 1 rfl) ?_
  refine lv_iload hx hb dL_law_405 (lv_at hl 6 rfl) ?_
  refine lv_iconst (v := 3) hx hb dL_law_407 (by decide) ?_
  refine lv_iadd hx hb dL_law_408 ?_
  refine l_sld C hH hX hbl q3 dL_law_409 ?_
  refine lv_aload_n hx hb dL_law_410 rfl (lv_at hl 1 rfl) ?_
  refine lv_iload hx hb dL_law_411 (lv_at hl 6 rfl) ?_
  refine lv_iconst (v := 4) hx hb dL_law_413 (by decide) ?_
  refine lv_iadd hx hb dL_law_414 ?_
  refine l_sld C hH hX hbl q4 dL_law_415 ?_
  refine l_b01 (t0 := 423) (tJ := 424) hx hb dL_law_416 dL_law_419 dL_law_420 dL_law_423 (by decide) (by decide) rfl ?_
  refine lr_i2 (h := fun z => z) C hH (lr_run2 C hH w_6_194 lg_yX10_holds lh_yX10_holds (kX10_holds l E (a2 h0) x.2.1 (xs (i + 1)) (xs (i + 2)) (xs (i + 3)) (b01 (xs (i + 4)))) (As := [.int (xs (i + 1)), .int (xs (i + 2)), .int (xs (i + 3)), .int (b01 (xs (i + 4)))]) rfl dL_law_424 rfl hl.1 (Nat.le_of_ble_eq_true rfl) ⟨Nat.le_of_ble_eq_true rfl, Nat.le_of_ble_eq_true rfl⟩ ⟨by have := hcap.1; show cells + 1 + 0 ≤ 603072; omega, by have := hcap.2; show slots + 6 + 0 ≤ 7211114; omega⟩) (fun yb2 H locs hH => ?_)
  refine lv_istore (lv' := [(7, .int yb2.1), (6, .int ya1.1), (0, .ref b), (1, .ref (a1 h0 121)), (2, .ref (a2 h0 0)), (3, .ref (h0 + 143)), (4, .ref (h0 + 144)), (5, .int n)]) hx hb dL_law_427 hl (by decide) rfl (fun ls hl => ?_)
  refine lv_aload_n hx hb dL_law_429 rfl (lv_at hl 4 rfl) ?_
  refine lr_ip2 (v := (fX10_thrown yb2.2, yb2.2)) C hH (lr_run2 C hH w_6_67 lg_yX10_thrown lh_yX10_thrown (kX10_thrown l E (a2 h0) yb2.2) (As := []) rfl dL_law_430 rfl hl.1 (Nat.le_of_ble_eq_true rfl) ⟨Nat.le_of_ble_eq_true rfl, Nat.le_of_ble_eq_true rfl⟩ ⟨by have := hcap.1; show cells + 1 + 0 + 0 ≤ 603072; omega, by have := hcap.2; show slots + 6 + 0 + 0 ≤ 7211114; omega⟩) (fun H locs hH => ?_)
  refine lv_iload hx hb dL_law_433 (lv_at hl 1 rfl) ?_
  refine kb_icmp_eq (tgt := 440) hx hb dL_law_435 (by decide) (fun _ => ?_) (fun _ => W_none)
  refine lv_iload hx hb dL_law_440 (lv_at hl 1 rfl) ?_
  refine kb_if_ne (tgt := 464) hx hb dL_law_442 (by decide) (fun _ => ?_) (fun _ => ?_)
  · refine lv_goto (tgt := 2261) hx hb dL_law_464 (by decide) ?_
    exact W.widen (k := cells + 2) (n := slots + 9) (by show cells + 1 + 0 + 0 ≤ cells + 2; omega) (by show slots + 6 + 0 + 0 ≤ slots + 9; omega) (kk _ H locs ls hH (lv_sub hl [2, 3, 4, 5, 6, 7] rfl))
  · skip
    refine lv_aload_n hx hb dL_law_445 rfl (lv_at hl 5 rfl) ?_
    refine lv_iconst (v := 0) hx hb dL_law_446 (by decide) ?_
    refine l_lald C hH dL_law_447 ?_
    refine lv_iload hx hb dL_law_448 (lv_at hl 0 rfl) ?_
    refine l_b01L (t0 := 457) (tJ := 458) hx hb dL_law_450 dL_law_453 dL_law_454 dL_law_457 (by decide) (by decide) rfl ?_
    refine l_lcmp (tgt := 464) hx hb dL_law_458 dL_law_459 (by decide) ?_
    refine lv_goto (tgt := 2261) hx hb dL_law_464 (by decide) ?_
    exact W.widen (k := cells + 2) (n := slots + 9) (by show cells + 1 + 0 + 0 ≤ cells + 2; omega) (by show slots + 6 + 0 + 0 ≤ slots + 9; omega) (kk _ H locs ls hH (lv_sub hl [2, 3, 4, 5, 6, 7] rfl))
/-- case 3 -/
def gL_3 {α : Type} (xs : Nat → Int32) (i : Nat) (x : LST) (G : LST → Option α) : Option α := (fL_isTold x.1 (xs (i + 1)) (xs (i + 2)) (xs (i + 3)) x.2.2.1).bind fun ya1 => (fX10_isTold x.2.1 (xs (i + 1)) (xs (i + 2)) (xs (i + 3))).bind fun yb2 => (if (fX10_thrown yb2.2) = ya1.1 then (if ya1.1 = 0 then (if ya1.2.2 = (b01L yb2.1) then G (ya1.2.1, yb2.2, ya1.2.2, x.2.2.2) else none) else G (ya1.2.1, yb2.2, ya1.2.2, x.2.2.2)) else none)
set_option maxHeartbeats 4000000 in
set_option maxRecDepth 100000 in
theorem kc_3 {p : Program} {l : Launch} (hl9 : l.stackTraces = false) {e : Env} {s : State} {m : MethodId} {args : Array Value} {below : List Frame} {meth : Method} {c : Code} {E : KE} {h0 b L : Nat} {xs : Nat → Int32} (C : LB p s m c args meth E h0) (hX : va_X b L xs s s.heap) (hbl : b < s.heap.size) {x : LST} {H : Heap} {locs : List Loc} {cells slots : Nat} (hH : LH E h0 x s H locs) {i : Nat} (hi : i + 5 ≤ L) (hL : L ≤ 2560) {n : Int32} (hn : n = nI i) {ls : Array Slot} (hl : lv_has ls 9 (lv9 b h0 n)) {α : Type} {f : α → State → Prop} {G : LST → Option α} (hcap : cells + 2 ≤ 603072 ∧ slots + 9 ≤ 7211114)
    (kk : ∀ (x : LST) (H : Heap) (locs : List Loc) (ls : Array Slot), LH E h0 x s H locs → lv_has ls 9 (lv9 b h0 n) → W p l e room_1 s m args below meth c H locs (cells + 2) (slots + 9) (Qn f (G x)) (F0 m 2261 ls [])) : W p l e room_1 s m args below meth c H locs cells slots (Qn f (gL_3 xs i x G)) (F0 m 467 ls []) := by
  have hx := C.1.1.1
  have hb := C.1.1.2.1
  unfold gL_3
  have q1 := l_ix (xs := xs) hn (by omega : i + 1 < L) hL 1 rfl
  have q2 := l_ix (xs := xs) hn (by omega : i + 2 < L) hL 2 rfl
  have q3 := l_ix (xs := xs) hn (by omega : i + 3 < L) hL 3 rfl
  refine lv_aload_n hx hb dL_law_467 rfl (lv_at hl 1 rfl) ?_
  refine lv_aload_n hx hb dL_law_468 rfl (lv_at hl 0 rfl) ?_
  refine lv_iload hx hb dL_law_469 (lv_at hl 5 rfl) ?_
  refine lv_iconst (v := 1) hx hb dL_law_471 (by decide) ?_
  refine lv_iadd hx hb dL_law_472 ?_
  refine l_sld C hH hX hbl q1 dL_law_473 ?_
  refine lv_aload_n hx hb dL_law_474 rfl (lv_at hl 0 rfl) ?_
  refine lv_iload hx hb dL_law_475 (lv_at hl 5 rfl) ?_
  refine lv_iconst (v := 2) hx hb dL_law_477 (by decide) ?_
  refine lv_iadd hx hb dL_law_478 ?_
  refine l_sld C hH hX hbl q2 dL_law_479 ?_
  refine lv_aload_n hx hb dL_law_480 rfl (lv_at hl 0 rfl) ?_
  refine lv_iload hx hb dL_law_481 (lv_at hl 5 rfl) ?_
  refine lv_iconst (v := 3) hx hb dL_law_483 (by decide) ?_
  refine lv_iadd hx hb dL_law_484 ?_
  refine l_sld C hH hX hbl q3 dL_law_485 ?_
  refine lv_aload_n hx hb dL_law_486 rfl (lv_at hl 3 rfl) ?_
  refine lr_wL C hH (kL_isTold l hl9 E (a1 h0) x.1 (xs (i + 1)) (xs (i + 2)) (xs (i + 3)) (h0 + 143) x.2.2.1) w_3_151 lw_isTold ⟨rfl, rfl⟩ rfl dL_law_487 rfl hl.1 (Nat.le_of_ble_eq_true rfl) ⟨Nat.le_of_ble_eq_true rfl, Nat.le_of_ble_eq_true rfl⟩ ⟨by have := hcap.1; show cells + 1 ≤ 603072; omega, by have := hcap.2; show slots + 6 ≤ 7211114; omega⟩ (fun ya1 H locs hH => ?_)
  refine lv_istore (lv' := [(6, .int ya1.1), (0, .ref b), (1, .ref (a1 h0 121)), (2, .ref (a2 h0 0)), (3, .ref (h0 + 143)), (4, .ref (h0 + 144)), (5, .int n)]) hx hb dL_law_490 hl (by decide) rfl (fun ls hl => ?_)
  refine lv_aload_n hx hb dL_law_492 rfl (lv_at hl 3 rfl) ?_
  refine lv_aload_n hx hb dL_law_493 rfl (lv_at hl 1 rfl) ?_
  refine lv_iload hx hb dL_law_494 (lv_at hl 6 rfl) ?_
  refine lv_iconst (v := 1) hx hb dL_law_496 (by decide) ?_
  refine lv_iadd hx hb dL_law_497 ?_
  refine l_sld C hH hX hbl q1 dL_law_498 ?_
  refine lv_aload_n hx hb dL_law_499 rfl (lv_at hl 1 rfl) ?_
  refine lv_iload hx hb dL_law_500 (lv_at hl 6 rfl) ?_
  refine lv_iconst (v := 2) hx hb dL_law_502 (by decide) ?_
  refine lv_iadd hx hb dL_law_503 ?_
  refine l_sld C hH hX hbl q2 dL_law_504 ?_
  refine lv_aload_n hx hb dL_law_505 rfl (lv_at hl 1 rfl) ?_
  refine lv_iload hx hb dL_law_506 (lv_at hl 6 rfl) ?_
  refine lv_iconst (v := 3) hx hb dL_law_508 (by decide) ?_
  refine lv_iadd hx hb dL_law_509 ?_
  refine l_sld C hH hX hbl q3 dL_law_510 ?_
  refine lr_i2 (h := fun z => z) C hH (lr_run2 C hH w_6_198 lg_yX10_isTold lh_yX10_isTold (kX10_isTold l E (a2 h0) x.2.1 (xs (i + 1)) (xs (i + 2)) (xs (i + 3))) (As := [.int (xs (i + 1)), .int (xs (i + 2)), .int (xs (i + 3))]) rfl dL_law_511 rfl hl.1 (Nat.le_of_ble_eq_true rfl) ⟨Nat.le_of_ble_eq_true rfl, Nat.le_of_ble_eq_true rfl⟩ ⟨by have := hcap.1; show cells + 1 + 0 ≤ 603072; omega, by have := hcap.2; show slots + 6 + 0 ≤ 7211114; omega⟩) (fun yb2 H locs hH => ?_)
  refine lv_istore (lv' := [(7, .int yb2.1), (6, .int ya1.1), (0, .ref b), (1, .ref (a1 h0 121)), (2, .ref (a2 h0 0)), (3, .ref (h0 + 143)), (4, .ref (h0 + 144)), (5, .int n)]) hx hb dL_law_514 hl (by decide) rfl (fun ls hl => ?_)
  refine lv_aload_n hx hb dL_law_516 rfl (lv_at hl 4 rfl) ?_
  refine lr_ip2 (v := (fX10_thrown yb2.2, yb2.2)) C hH (lr_run2 C hH w_6_67 lg_yX10_thrown lh_yX10_thrown (kX10_thrown l E (a2 h0) yb2.2) (As := []) rfl dL_law_517 rfl hl.1 (Nat.le_of_ble_eq_true rfl) ⟨Nat.le_of_ble_eq_true rfl, Nat.le_of_ble_eq_true rfl⟩ ⟨by have := hcap.1; show cells + 1 + 0 + 0 ≤ 603072; omega, by have := hcap.2; show slots + 6 + 0 + 0 ≤ 7211114; omega⟩) (fun H locs hH => ?_)
  refine lv_iload hx hb dL_law_520 (lv_at hl 1 rfl) ?_
  refine kb_icmp_eq (tgt := 527) hx hb dL_law_522 (by decide) (fun _ => ?_) (fun _ => W_none)
  refine lv_iload hx hb dL_law_527 (lv_at hl 1 rfl) ?_
  refine kb_if_ne (tgt := 551) hx hb dL_law_529 (by decide) (fun _ => ?_) (fun _ => ?_)
  · refine lv_goto (tgt := 2261) hx hb dL_law_551 (by decide) ?_
    exact W.widen (k := cells + 2) (n := slots + 9) (by show cells + 1 + 0 + 0 ≤ cells + 2; omega) (by show slots + 6 + 0 + 0 ≤ slots + 9; omega) (kk _ H locs ls hH (lv_sub hl [2, 3, 4, 5, 6, 7] rfl))
  · skip
    refine lv_aload_n hx hb dL_law_532 rfl (lv_at hl 5 rfl) ?_
    refine lv_iconst (v := 0) hx hb dL_law_533 (by decide) ?_
    refine l_lald C hH dL_law_534 ?_
    refine lv_iload hx hb dL_law_535 (lv_at hl 0 rfl) ?_
    refine l_b01L (t0 := 544) (tJ := 545) hx hb dL_law_537 dL_law_540 dL_law_541 dL_law_544 (by decide) (by decide) rfl ?_
    refine l_lcmp (tgt := 551) hx hb dL_law_545 dL_law_546 (by decide) ?_
    refine lv_goto (tgt := 2261) hx hb dL_law_551 (by decide) ?_
    exact W.widen (k := cells + 2) (n := slots + 9) (by show cells + 1 + 0 + 0 ≤ cells + 2; omega) (by show slots + 6 + 0 + 0 ≤ slots + 9; omega) (kk _ H locs ls hH (lv_sub hl [2, 3, 4, 5, 6, 7] rfl))
/-- case 4 -/
def gL_4 {α : Type} (xs : Nat → Int32) (i : Nat) (x : LST) (G : LST → Option α) : Option α := (fL_factOf x.1 (xs (i + 1)) (xs (i + 2)) (xs (i + 3)) (xs (i + 4)) x.2.2.1).bind fun ya1 => (fX10_factOf x.2.1 (xs (i + 1)) (xs (i + 2)) (xs (i + 3)) (xs (i + 4))).bind fun yb2 => (if (fX10_thrown yb2.2) = ya1.1 then (if ya1.1 = 0 then (if ya1.2.2 = (Int32.toInt64 yb2.1) then G (ya1.2.1, yb2.2, ya1.2.2, x.2.2.2) else none) else G (ya1.2.1, yb2.2, ya1.2.2, x.2.2.2)) else none)
set_option maxHeartbeats 4000000 in
set_option maxRecDepth 100000 in
theorem kc_4 {p : Program} {l : Launch} (hl9 : l.stackTraces = false) {e : Env} {s : State} {m : MethodId} {args : Array Value} {below : List Frame} {meth : Method} {c : Code} {E : KE} {h0 b L : Nat} {xs : Nat → Int32} (C : LB p s m c args meth E h0) (hX : va_X b L xs s s.heap) (hbl : b < s.heap.size) {x : LST} {H : Heap} {locs : List Loc} {cells slots : Nat} (hH : LH E h0 x s H locs) {i : Nat} (hi : i + 5 ≤ L) (hL : L ≤ 2560) {n : Int32} (hn : n = nI i) {ls : Array Slot} (hl : lv_has ls 9 (lv9 b h0 n)) {α : Type} {f : α → State → Prop} {G : LST → Option α} (hcap : cells + 2 ≤ 603072 ∧ slots + 9 ≤ 7211114)
    (kk : ∀ (x : LST) (H : Heap) (locs : List Loc) (ls : Array Slot), LH E h0 x s H locs → lv_has ls 9 (lv9 b h0 n) → W p l e room_1 s m args below meth c H locs (cells + 2) (slots + 9) (Qn f (G x)) (F0 m 2261 ls [])) : W p l e room_1 s m args below meth c H locs cells slots (Qn f (gL_4 xs i x G)) (F0 m 554 ls []) := by
  have hx := C.1.1.1
  have hb := C.1.1.2.1
  unfold gL_4
  have q1 := l_ix (xs := xs) hn (by omega : i + 1 < L) hL 1 rfl
  have q2 := l_ix (xs := xs) hn (by omega : i + 2 < L) hL 2 rfl
  have q3 := l_ix (xs := xs) hn (by omega : i + 3 < L) hL 3 rfl
  have q4 := l_ix (xs := xs) hn (by omega : i + 4 < L) hL 4 rfl
  refine lv_aload_n hx hb dL_law_554 rfl (lv_at hl 1 rfl) ?_
  refine lv_aload_n hx hb dL_law_555 rfl (lv_at hl 0 rfl) ?_
  refine lv_iload hx hb dL_law_556 (lv_at hl 5 rfl) ?_
  refine lv_iconst (v := 1) hx hb dL_law_558 (by decide) ?_
  refine lv_iadd hx hb dL_law_559 ?_
  refine l_sld C hH hX hbl q1 dL_law_560 ?_
  refine lv_aload_n hx hb dL_law_561 rfl (lv_at hl 0 rfl) ?_
  refine lv_iload hx hb dL_law_562 (lv_at hl 5 rfl) ?_
  refine lv_iconst (v := 2) hx hb dL_law_564 (by decide) ?_
  refine lv_iadd hx hb dL_law_565 ?_
  refine l_sld C hH hX hbl q2 dL_law_566 ?_
  refine lv_aload_n hx hb dL_law_567 rfl (lv_at hl 0 rfl) ?_
  refine lv_iload hx hb dL_law_568 (lv_at hl 5 rfl) ?_
  refine lv_iconst (v := 3) hx hb dL_law_570 (by decide) ?_
  refine lv_iadd hx hb dL_law_571 ?_
  refine l_sld C hH hX hbl q3 dL_law_572 ?_
  refine lv_aload_n hx hb dL_law_573 rfl (lv_at hl 0 rfl) ?_
  refine lv_iload hx hb dL_law_574 (lv_at hl 5 rfl) ?_
  refine lv_iconst (v := 4) hx hb dL_law_576 (by decide) ?_
  refine lv_iadd hx hb dL_law_577 ?_
  refine l_sld C hH hX hbl q4 dL_law_578 ?_
  refine lv_aload_n hx hb dL_law_579 rfl (lv_at hl 3 rfl) ?_
  refine lr_wL C hH (kL_factOf l hl9 E (a1 h0) x.1 (xs (i + 1)) (xs (i + 2)) (xs (i + 3)) (xs (i + 4)) (h0 + 143) x.2.2.1) w_3_158 lw_factOf ⟨rfl, rfl⟩ rfl dL_law_580 rfl hl.1 (Nat.le_of_ble_eq_true rfl) ⟨Nat.le_of_ble_eq_true rfl, Nat.le_of_ble_eq_true rfl⟩ ⟨by have := hcap.1; show cells + 1 ≤ 603072; omega, by have := hcap.2; show slots + 6 ≤ 7211114; omega⟩ (fun ya1 H locs hH => ?_)
  refine lv_istore (lv' := [(6, .int ya1.1), (0, .ref b), (1, .ref (a1 h0 121)), (2, .ref (a2 h0 0)), (3, .ref (h0 + 143)), (4, .ref (h0 + 144)), (5, .int n)]) hx hb dL_law_583 hl (by decide) rfl (fun ls hl => ?_)
  refine lv_aload_n hx hb dL_law_585 rfl (lv_at hl 3 rfl) ?_
  refine lv_aload_n hx hb dL_law_586 rfl (lv_at hl 1 rfl) ?_
  refine lv_iload hx hb dL_law_587 (lv_at hl 6 rfl) ?_
  refine lv_iconst (v := 1) hx hb dL_law_589 (by decide) ?_
  refine lv_iadd hx hb dL_law_590 ?_
  refine l_sld C hH hX hbl q1 dL_law_591 ?_
  refine lv_aload_n hx hb dL_law_592 rfl (lv_at hl 1 rfl) ?_
  refine lv_iload hx hb dL_law_593 (lv_at hl 6 rfl) ?_
  refine lv_iconst (v := 2) hx hb dL_law_595 (by decide) ?_
  refine lv_iadd hx hb dL_law_596 ?_
  refine l_sld C hH hX hbl q2 dL_law_597 ?_
  refine lv_aload_n hx hb dL_law_598 rfl (lv_at hl 1 rfl) ?_
  refine lv_iload hx hb dL_law_599 (lv_at hl 6 rfl) ?_
  refine lv_iconst (v := 3) hx hb dL_law_601 (by decide) ?_
  refine lv_iadd hx hb dL_law_602 ?_
  refine l_sld C hH hX hbl q3 dL_law_603 ?_
  refine lv_aload_n hx hb dL_law_604 rfl (lv_at hl 1 rfl) ?_
  refine lv_iload hx hb dL_law_605 (lv_at hl 6 rfl) ?_
  refine lv_iconst (v := 4) hx hb dL_law_607 (by decide) ?_
  refine lv_iadd hx hb dL_law_608 ?_
  refine l_sld C hH hX hbl q4 dL_law_609 ?_
  refine lr_i2 (h := fun z => z) C hH (lr_run2 C hH w_6_202 lg_yX10_factOf lh_yX10_factOf (kX10_factOf l E (a2 h0) x.2.1 (xs (i + 1)) (xs (i + 2)) (xs (i + 3)) (xs (i + 4))) (As := [.int (xs (i + 1)), .int (xs (i + 2)), .int (xs (i + 3)), .int (xs (i + 4))]) rfl dL_law_610 rfl hl.1 (Nat.le_of_ble_eq_true rfl) ⟨Nat.le_of_ble_eq_true rfl, Nat.le_of_ble_eq_true rfl⟩ ⟨by have := hcap.1; show cells + 1 + 0 ≤ 603072; omega, by have := hcap.2; show slots + 6 + 0 ≤ 7211114; omega⟩) (fun yb2 H locs hH => ?_)
  refine lv_istore (lv' := [(7, .int yb2.1), (6, .int ya1.1), (0, .ref b), (1, .ref (a1 h0 121)), (2, .ref (a2 h0 0)), (3, .ref (h0 + 143)), (4, .ref (h0 + 144)), (5, .int n)]) hx hb dL_law_613 hl (by decide) rfl (fun ls hl => ?_)
  refine lv_aload_n hx hb dL_law_615 rfl (lv_at hl 4 rfl) ?_
  refine lr_ip2 (v := (fX10_thrown yb2.2, yb2.2)) C hH (lr_run2 C hH w_6_67 lg_yX10_thrown lh_yX10_thrown (kX10_thrown l E (a2 h0) yb2.2) (As := []) rfl dL_law_616 rfl hl.1 (Nat.le_of_ble_eq_true rfl) ⟨Nat.le_of_ble_eq_true rfl, Nat.le_of_ble_eq_true rfl⟩ ⟨by have := hcap.1; show cells + 1 + 0 + 0 ≤ 603072; omega, by have := hcap.2; show slots + 6 + 0 + 0 ≤ 7211114; omega⟩) (fun H locs hH => ?_)
  refine lv_iload hx hb dL_law_619 (lv_at hl 1 rfl) ?_
  refine kb_icmp_eq (tgt := 626) hx hb dL_law_621 (by decide) (fun _ => ?_) (fun _ => W_none)
  refine lv_iload hx hb dL_law_626 (lv_at hl 1 rfl) ?_
  refine kb_if_ne (tgt := 643) hx hb dL_law_628 (by decide) (fun _ => ?_) (fun _ => ?_)
  · refine lv_goto (tgt := 2261) hx hb dL_law_643 (by decide) ?_
    exact W.widen (k := cells + 2) (n := slots + 9) (by show cells + 1 + 0 + 0 ≤ cells + 2; omega) (by show slots + 6 + 0 + 0 ≤ slots + 9; omega) (kk _ H locs ls hH (lv_sub hl [2, 3, 4, 5, 6, 7] rfl))
  · skip
    refine lv_aload_n hx hb dL_law_631 rfl (lv_at hl 5 rfl) ?_
    refine lv_iconst (v := 0) hx hb dL_law_632 (by decide) ?_
    refine l_lald C hH dL_law_633 ?_
    refine lv_iload hx hb dL_law_634 (lv_at hl 0 rfl) ?_
    refine lv_i2l (v := (Int32.toInt64 yb2.1)) hx hb dL_law_636 rfl ?_
    refine l_lcmp (tgt := 643) hx hb dL_law_637 dL_law_638 (by decide) ?_
    refine lv_goto (tgt := 2261) hx hb dL_law_643 (by decide) ?_
    exact W.widen (k := cells + 2) (n := slots + 9) (by show cells + 1 + 0 + 0 ≤ cells + 2; omega) (by show slots + 6 + 0 + 0 ≤ slots + 9; omega) (kk _ H locs ls hH (lv_sub hl [2, 3, 4, 5, 6, 7] rfl))
/-- case 5 -/
def gL_5 {α : Type} (xs : Nat → Int32) (i : Nat) (x : LST) (G : LST → Option α) : Option α := (fL_ways x.1 (xs (i + 1)) (xs (i + 2)) (xs (i + 3)) x.2.2.1).bind fun ya1 => (fX10_ways x.2.1 (xs (i + 1)) (xs (i + 2)) (xs (i + 3))).bind fun yb2 => (if (fX10_thrown yb2.2) = ya1.1 then (if ya1.1 = 0 then (if ya1.2.2 = (Int32.toInt64 yb2.1) then G (ya1.2.1, yb2.2, ya1.2.2, x.2.2.2) else none) else G (ya1.2.1, yb2.2, ya1.2.2, x.2.2.2)) else none)
set_option maxHeartbeats 4000000 in
set_option maxRecDepth 100000 in
theorem kc_5 {p : Program} {l : Launch} (hl9 : l.stackTraces = false) {e : Env} {s : State} {m : MethodId} {args : Array Value} {below : List Frame} {meth : Method} {c : Code} {E : KE} {h0 b L : Nat} {xs : Nat → Int32} (C : LB p s m c args meth E h0) (hX : va_X b L xs s s.heap) (hbl : b < s.heap.size) {x : LST} {H : Heap} {locs : List Loc} {cells slots : Nat} (hH : LH E h0 x s H locs) {i : Nat} (hi : i + 5 ≤ L) (hL : L ≤ 2560) {n : Int32} (hn : n = nI i) {ls : Array Slot} (hl : lv_has ls 9 (lv9 b h0 n)) {α : Type} {f : α → State → Prop} {G : LST → Option α} (hcap : cells + 2 ≤ 603072 ∧ slots + 9 ≤ 7211114)
    (kk : ∀ (x : LST) (H : Heap) (locs : List Loc) (ls : Array Slot), LH E h0 x s H locs → lv_has ls 9 (lv9 b h0 n) → W p l e room_1 s m args below meth c H locs (cells + 2) (slots + 9) (Qn f (G x)) (F0 m 2261 ls [])) : W p l e room_1 s m args below meth c H locs cells slots (Qn f (gL_5 xs i x G)) (F0 m 646 ls []) := by
  have hx := C.1.1.1
  have hb := C.1.1.2.1
  unfold gL_5
  have q1 := l_ix (xs := xs) hn (by omega : i + 1 < L) hL 1 rfl
  have q2 := l_ix (xs := xs) hn (by omega : i + 2 < L) hL 2 rfl
  have q3 := l_ix (xs := xs) hn (by omega : i + 3 < L) hL 3 rfl
  refine lv_aload_n hx hb dL_law_646 rfl (lv_at hl 1 rfl) ?_
  refine lv_aload_n hx hb dL_law_647 rfl (lv_at hl 0 rfl) ?_
  refine lv_iload hx hb dL_law_648 (lv_at hl 5 rfl) ?_
  refine lv_iconst (v := 1) hx hb dL_law_650 (by decide) ?_
  refine lv_iadd hx hb dL_law_651 ?_
  refine l_sld C hH hX hbl q1 dL_law_652 ?_
  refine lv_aload_n hx hb dL_law_653 rfl (lv_at hl 0 rfl) ?_
  refine lv_iload hx hb dL_law_654 (lv_at hl 5 rfl) ?_
  refine lv_iconst (v := 2) hx hb dL_law_656 (by decide) ?_
  refine lv_iadd hx hb dL_law_657 ?_
  refine l_sld C hH hX hbl q2 dL_law_658 ?_
  refine lv_aload_n hx hb dL_law_659 rfl (lv_at hl 0 rfl) ?_
  refine lv_iload hx hb dL_law_660 (lv_at hl 5 rfl) ?_
  refine lv_iconst (v := 3) hx hb dL_law_662 (by decide) ?_
  refine lv_iadd hx hb dL_law_663 ?_
  refine l_sld C hH hX hbl q3 dL_law_664 ?_
  refine lv_aload_n hx hb dL_law_665 rfl (lv_at hl 3 rfl) ?_
  refine lr_wL C hH (kL_ways l hl9 E (a1 h0) x.1 (xs (i + 1)) (xs (i + 2)) (xs (i + 3)) (h0 + 143) x.2.2.1) w_3_233 lw_ways ⟨rfl, rfl⟩ rfl dL_law_666 rfl hl.1 (Nat.le_of_ble_eq_true rfl) ⟨Nat.le_of_ble_eq_true rfl, Nat.le_of_ble_eq_true rfl⟩ ⟨by have := hcap.1; show cells + 1 ≤ 603072; omega, by have := hcap.2; show slots + 6 ≤ 7211114; omega⟩ (fun ya1 H locs hH => ?_)
  refine lv_istore (lv' := [(6, .int ya1.1), (0, .ref b), (1, .ref (a1 h0 121)), (2, .ref (a2 h0 0)), (3, .ref (h0 + 143)), (4, .ref (h0 + 144)), (5, .int n)]) hx hb dL_law_669 hl (by decide) rfl (fun ls hl => ?_)
  refine lv_aload_n hx hb dL_law_671 rfl (lv_at hl 3 rfl) ?_
  refine lv_aload_n hx hb dL_law_672 rfl (lv_at hl 1 rfl) ?_
  refine lv_iload hx hb dL_law_673 (lv_at hl 6 rfl) ?_
  refine lv_iconst (v := 1) hx hb dL_law_675 (by decide) ?_
  refine lv_iadd hx hb dL_law_676 ?_
  refine l_sld C hH hX hbl q1 dL_law_677 ?_
  refine lv_aload_n hx hb dL_law_678 rfl (lv_at hl 1 rfl) ?_
  refine lv_iload hx hb dL_law_679 (lv_at hl 6 rfl) ?_
  refine lv_iconst (v := 2) hx hb dL_law_681 (by decide) ?_
  refine lv_iadd hx hb dL_law_682 ?_
  refine l_sld C hH hX hbl q2 dL_law_683 ?_
  refine lv_aload_n hx hb dL_law_684 rfl (lv_at hl 1 rfl) ?_
  refine lv_iload hx hb dL_law_685 (lv_at hl 6 rfl) ?_
  refine lv_iconst (v := 3) hx hb dL_law_687 (by decide) ?_
  refine lv_iadd hx hb dL_law_688 ?_
  refine l_sld C hH hX hbl q3 dL_law_689 ?_
  refine lr_i2 (h := fun z => z) C hH (lr_run2 C hH w_6_222 lg_yX10_ways lh_yX10_ways (kX10_ways l E (a2 h0) x.2.1 (xs (i + 1)) (xs (i + 2)) (xs (i + 3))) (As := [.int (xs (i + 1)), .int (xs (i + 2)), .int (xs (i + 3))]) rfl dL_law_690 rfl hl.1 (Nat.le_of_ble_eq_true rfl) ⟨Nat.le_of_ble_eq_true rfl, Nat.le_of_ble_eq_true rfl⟩ ⟨by have := hcap.1; show cells + 1 + 0 ≤ 603072; omega, by have := hcap.2; show slots + 6 + 0 ≤ 7211114; omega⟩) (fun yb2 H locs hH => ?_)
  refine lv_istore (lv' := [(7, .int yb2.1), (6, .int ya1.1), (0, .ref b), (1, .ref (a1 h0 121)), (2, .ref (a2 h0 0)), (3, .ref (h0 + 143)), (4, .ref (h0 + 144)), (5, .int n)]) hx hb dL_law_693 hl (by decide) rfl (fun ls hl => ?_)
  refine lv_aload_n hx hb dL_law_695 rfl (lv_at hl 4 rfl) ?_
  refine lr_ip2 (v := (fX10_thrown yb2.2, yb2.2)) C hH (lr_run2 C hH w_6_67 lg_yX10_thrown lh_yX10_thrown (kX10_thrown l E (a2 h0) yb2.2) (As := []) rfl dL_law_696 rfl hl.1 (Nat.le_of_ble_eq_true rfl) ⟨Nat.le_of_ble_eq_true rfl, Nat.le_of_ble_eq_true rfl⟩ ⟨by have := hcap.1; show cells + 1 + 0 + 0 ≤ 603072; omega, by have := hcap.2; show slots + 6 + 0 + 0 ≤ 7211114; omega⟩) (fun H locs hH => ?_)
  refine lv_iload hx hb dL_law_699 (lv_at hl 1 rfl) ?_
  refine kb_icmp_eq (tgt := 706) hx hb dL_law_701 (by decide) (fun _ => ?_) (fun _ => W_none)
  refine lv_iload hx hb dL_law_706 (lv_at hl 1 rfl) ?_
  refine kb_if_ne (tgt := 723) hx hb dL_law_708 (by decide) (fun _ => ?_) (fun _ => ?_)
  · refine lv_goto (tgt := 2261) hx hb dL_law_723 (by decide) ?_
    exact W.widen (k := cells + 2) (n := slots + 9) (by show cells + 1 + 0 + 0 ≤ cells + 2; omega) (by show slots + 6 + 0 + 0 ≤ slots + 9; omega) (kk _ H locs ls hH (lv_sub hl [2, 3, 4, 5, 6, 7] rfl))
  · skip
    refine lv_aload_n hx hb dL_law_711 rfl (lv_at hl 5 rfl) ?_
    refine lv_iconst (v := 0) hx hb dL_law_712 (by decide) ?_
    refine l_lald C hH dL_law_713 ?_
    refine lv_iload hx hb dL_law_714 (lv_at hl 0 rfl) ?_
    refine lv_i2l (v := (Int32.toInt64 yb2.1)) hx hb dL_law_716 rfl ?_
    refine l_lcmp (tgt := 723) hx hb dL_law_717 dL_law_718 (by decide) ?_
    refine lv_goto (tgt := 2261) hx hb dL_law_723 (by decide) ?_
    exact W.widen (k := cells + 2) (n := slots + 9) (by show cells + 1 + 0 + 0 ≤ cells + 2; omega) (by show slots + 6 + 0 + 0 ≤ slots + 9; omega) (kk _ H locs ls hH (lv_sub hl [2, 3, 4, 5, 6, 7] rfl))
/-- case 6 -/
def gL_6 {α : Type} (xs : Nat → Int32) (i : Nat) (x : LST) (G : LST → Option α) : Option α := (fL_would x.1 (xs (i + 1)) (xs (i + 2)) (xs (i + 3)) x.2.2.1).bind fun ya1 => (fX10_would x.2.1 (xs (i + 1)) (xs (i + 2)) (xs (i + 3))).bind fun yb2 => (if (fX10_thrown yb2.2) = ya1.1 then (if ya1.1 = 0 then (if ya1.2.2 = (Int32.toInt64 yb2.1) then G (ya1.2.1, yb2.2, ya1.2.2, x.2.2.2) else none) else G (ya1.2.1, yb2.2, ya1.2.2, x.2.2.2)) else none)
set_option maxHeartbeats 4000000 in
set_option maxRecDepth 100000 in
theorem kc_6 {p : Program} {l : Launch} (hl9 : l.stackTraces = false) {e : Env} {s : State} {m : MethodId} {args : Array Value} {below : List Frame} {meth : Method} {c : Code} {E : KE} {h0 b L : Nat} {xs : Nat → Int32} (C : LB p s m c args meth E h0) (hX : va_X b L xs s s.heap) (hbl : b < s.heap.size) {x : LST} {H : Heap} {locs : List Loc} {cells slots : Nat} (hH : LH E h0 x s H locs) {i : Nat} (hi : i + 5 ≤ L) (hL : L ≤ 2560) {n : Int32} (hn : n = nI i) {ls : Array Slot} (hl : lv_has ls 9 (lv9 b h0 n)) {α : Type} {f : α → State → Prop} {G : LST → Option α} (hcap : cells + 2 ≤ 603072 ∧ slots + 9 ≤ 7211114)
    (kk : ∀ (x : LST) (H : Heap) (locs : List Loc) (ls : Array Slot), LH E h0 x s H locs → lv_has ls 9 (lv9 b h0 n) → W p l e room_1 s m args below meth c H locs (cells + 2) (slots + 9) (Qn f (G x)) (F0 m 2261 ls [])) : W p l e room_1 s m args below meth c H locs cells slots (Qn f (gL_6 xs i x G)) (F0 m 726 ls []) := by
  have hx := C.1.1.1
  have hb := C.1.1.2.1
  unfold gL_6
  have q1 := l_ix (xs := xs) hn (by omega : i + 1 < L) hL 1 rfl
  have q2 := l_ix (xs := xs) hn (by omega : i + 2 < L) hL 2 rfl
  have q3 := l_ix (xs := xs) hn (by omega : i + 3 < L) hL 3 rfl
  refine lv_aload_n hx hb dL_law_726 rfl (lv_at hl 1 rfl) ?_
  refine lv_aload_n hx hb dL_law_727 rfl (lv_at hl 0 rfl) ?_
  refine lv_iload hx hb dL_law_728 (lv_at hl 5 rfl) ?_
  refine lv_iconst (v := 1) hx hb dL_law_730 (by decide) ?_
  refine lv_iadd hx hb dL_law_731 ?_
  refine l_sld C hH hX hbl q1 dL_law_732 ?_
  refine lv_aload_n hx hb dL_law_733 rfl (lv_at hl 0 rfl) ?_
  refine lv_iload hx hb dL_law_734 (lv_at hl 5 rfl) ?_
  refine lv_iconst (v := 2) hx hb dL_law_736 (by decide) ?_
  refine lv_iadd hx hb dL_law_737 ?_
  refine l_sld C hH hX hbl q2 dL_law_738 ?_
  refine lv_aload_n hx hb dL_law_739 rfl (lv_at hl 0 rfl) ?_
  refine lv_iload hx hb dL_law_740 (lv_at hl 5 rfl) ?_
  refine lv_iconst (v := 3) hx hb dL_law_742 (by decide) ?_
  refine lv_iadd hx hb dL_law_743 ?_
  refine l_sld C hH hX hbl q3 dL_law_744 ?_
  refine lv_aload_n hx hb dL_law_745 rfl (lv_at hl 3 rfl) ?_
  refine lr_wL C hH (kL_would l hl9 E (a1 h0) x.1 (xs (i + 1)) (xs (i + 2)) (xs (i + 3)) (h0 + 143) x.2.2.1) w_4_1 lw_would ⟨rfl, rfl⟩ rfl dL_law_746 rfl hl.1 (Nat.le_of_ble_eq_true rfl) ⟨Nat.le_of_ble_eq_true rfl, Nat.le_of_ble_eq_true rfl⟩ ⟨by have := hcap.1; show cells + 1 ≤ 603072; omega, by have := hcap.2; show slots + 6 ≤ 7211114; omega⟩ (fun ya1 H locs hH => ?_)
  refine lv_istore (lv' := [(6, .int ya1.1), (0, .ref b), (1, .ref (a1 h0 121)), (2, .ref (a2 h0 0)), (3, .ref (h0 + 143)), (4, .ref (h0 + 144)), (5, .int n)]) hx hb dL_law_749 hl (by decide) rfl (fun ls hl => ?_)
  refine lv_aload_n hx hb dL_law_751 rfl (lv_at hl 3 rfl) ?_
  refine lv_aload_n hx hb dL_law_752 rfl (lv_at hl 1 rfl) ?_
  refine lv_iload hx hb dL_law_753 (lv_at hl 6 rfl) ?_
  refine lv_iconst (v := 1) hx hb dL_law_755 (by decide) ?_
  refine lv_iadd hx hb dL_law_756 ?_
  refine l_sld C hH hX hbl q1 dL_law_757 ?_
  refine lv_aload_n hx hb dL_law_758 rfl (lv_at hl 1 rfl) ?_
  refine lv_iload hx hb dL_law_759 (lv_at hl 6 rfl) ?_
  refine lv_iconst (v := 2) hx hb dL_law_761 (by decide) ?_
  refine lv_iadd hx hb dL_law_762 ?_
  refine l_sld C hH hX hbl q2 dL_law_763 ?_
  refine lv_aload_n hx hb dL_law_764 rfl (lv_at hl 1 rfl) ?_
  refine lv_iload hx hb dL_law_765 (lv_at hl 6 rfl) ?_
  refine lv_iconst (v := 3) hx hb dL_law_767 (by decide) ?_
  refine lv_iadd hx hb dL_law_768 ?_
  refine l_sld C hH hX hbl q3 dL_law_769 ?_
  refine lr_i2 (h := fun z => z) C hH (lr_run2 C hH w_6_230 lg_yX10_would lh_yX10_would (kX10_would l E (a2 h0) x.2.1 (xs (i + 1)) (xs (i + 2)) (xs (i + 3))) (As := [.int (xs (i + 1)), .int (xs (i + 2)), .int (xs (i + 3))]) rfl dL_law_770 rfl hl.1 (Nat.le_of_ble_eq_true rfl) ⟨Nat.le_of_ble_eq_true rfl, Nat.le_of_ble_eq_true rfl⟩ ⟨by have := hcap.1; show cells + 1 + 0 ≤ 603072; omega, by have := hcap.2; show slots + 6 + 0 ≤ 7211114; omega⟩) (fun yb2 H locs hH => ?_)
  refine lv_istore (lv' := [(7, .int yb2.1), (6, .int ya1.1), (0, .ref b), (1, .ref (a1 h0 121)), (2, .ref (a2 h0 0)), (3, .ref (h0 + 143)), (4, .ref (h0 + 144)), (5, .int n)]) hx hb dL_law_773 hl (by decide) rfl (fun ls hl => ?_)
  refine lv_aload_n hx hb dL_law_775 rfl (lv_at hl 4 rfl) ?_
  refine lr_ip2 (v := (fX10_thrown yb2.2, yb2.2)) C hH (lr_run2 C hH w_6_67 lg_yX10_thrown lh_yX10_thrown (kX10_thrown l E (a2 h0) yb2.2) (As := []) rfl dL_law_776 rfl hl.1 (Nat.le_of_ble_eq_true rfl) ⟨Nat.le_of_ble_eq_true rfl, Nat.le_of_ble_eq_true rfl⟩ ⟨by have := hcap.1; show cells + 1 + 0 + 0 ≤ 603072; omega, by have := hcap.2; show slots + 6 + 0 + 0 ≤ 7211114; omega⟩) (fun H locs hH => ?_)
  refine lv_iload hx hb dL_law_779 (lv_at hl 1 rfl) ?_
  refine kb_icmp_eq (tgt := 786) hx hb dL_law_781 (by decide) (fun _ => ?_) (fun _ => W_none)
  refine lv_iload hx hb dL_law_786 (lv_at hl 1 rfl) ?_
  refine kb_if_ne (tgt := 803) hx hb dL_law_788 (by decide) (fun _ => ?_) (fun _ => ?_)
  · refine lv_goto (tgt := 2261) hx hb dL_law_803 (by decide) ?_
    exact W.widen (k := cells + 2) (n := slots + 9) (by show cells + 1 + 0 + 0 ≤ cells + 2; omega) (by show slots + 6 + 0 + 0 ≤ slots + 9; omega) (kk _ H locs ls hH (lv_sub hl [2, 3, 4, 5, 6, 7] rfl))
  · skip
    refine lv_aload_n hx hb dL_law_791 rfl (lv_at hl 5 rfl) ?_
    refine lv_iconst (v := 0) hx hb dL_law_792 (by decide) ?_
    refine l_lald C hH dL_law_793 ?_
    refine lv_iload hx hb dL_law_794 (lv_at hl 0 rfl) ?_
    refine lv_i2l (v := (Int32.toInt64 yb2.1)) hx hb dL_law_796 rfl ?_
    refine l_lcmp (tgt := 803) hx hb dL_law_797 dL_law_798 (by decide) ?_
    refine lv_goto (tgt := 2261) hx hb dL_law_803 (by decide) ?_
    exact W.widen (k := cells + 2) (n := slots + 9) (by show cells + 1 + 0 + 0 ≤ cells + 2; omega) (by show slots + 6 + 0 + 0 ≤ slots + 9; omega) (kk _ H locs ls hH (lv_sub hl [2, 3, 4, 5, 6, 7] rfl))
/-- case 7 -/
def gL_7 {α : Type} (xs : Nat → Int32) (i : Nat) (x : LST) (G : LST → Option α) : Option α := (fL_kin x.1 (xs (i + 1)) (xs (i + 2)) x.2.2.1).bind fun ya1 => (fX10_kin x.2.1 (xs (i + 1)) (xs (i + 2))).bind fun yb2 => (if (fX10_thrown yb2.2) = ya1.1 then (if ya1.1 = 0 then (if ya1.2.2 = (Int32.toInt64 yb2.1) then G (ya1.2.1, yb2.2, ya1.2.2, x.2.2.2) else none) else G (ya1.2.1, yb2.2, ya1.2.2, x.2.2.2)) else none)
set_option maxHeartbeats 4000000 in
set_option maxRecDepth 100000 in
theorem kc_7 {p : Program} {l : Launch} (hl9 : l.stackTraces = false) {e : Env} {s : State} {m : MethodId} {args : Array Value} {below : List Frame} {meth : Method} {c : Code} {E : KE} {h0 b L : Nat} {xs : Nat → Int32} (C : LB p s m c args meth E h0) (hX : va_X b L xs s s.heap) (hbl : b < s.heap.size) {x : LST} {H : Heap} {locs : List Loc} {cells slots : Nat} (hH : LH E h0 x s H locs) {i : Nat} (hi : i + 5 ≤ L) (hL : L ≤ 2560) {n : Int32} (hn : n = nI i) {ls : Array Slot} (hl : lv_has ls 9 (lv9 b h0 n)) {α : Type} {f : α → State → Prop} {G : LST → Option α} (hcap : cells + 2 ≤ 603072 ∧ slots + 9 ≤ 7211114)
    (kk : ∀ (x : LST) (H : Heap) (locs : List Loc) (ls : Array Slot), LH E h0 x s H locs → lv_has ls 9 (lv9 b h0 n) → W p l e room_1 s m args below meth c H locs (cells + 2) (slots + 9) (Qn f (G x)) (F0 m 2261 ls [])) : W p l e room_1 s m args below meth c H locs cells slots (Qn f (gL_7 xs i x G)) (F0 m 806 ls []) := by
  have hx := C.1.1.1
  have hb := C.1.1.2.1
  unfold gL_7
  have q1 := l_ix (xs := xs) hn (by omega : i + 1 < L) hL 1 rfl
  have q2 := l_ix (xs := xs) hn (by omega : i + 2 < L) hL 2 rfl
  refine lv_aload_n hx hb dL_law_806 rfl (lv_at hl 1 rfl) ?_
  refine lv_aload_n hx hb dL_law_807 rfl (lv_at hl 0 rfl) ?_
  refine lv_iload hx hb dL_law_808 (lv_at hl 5 rfl) ?_
  refine lv_iconst (v := 1) hx hb dL_law_810 (by decide) ?_
  refine lv_iadd hx hb dL_law_811 ?_
  refine l_sld C hH hX hbl q1 dL_law_812 ?_
  refine lv_aload_n hx hb dL_law_813 rfl (lv_at hl 0 rfl) ?_
  refine lv_iload hx hb dL_law_814 (lv_at hl 5 rfl) ?_
  refine lv_iconst (v := 2) hx hb dL_law_816 (by decide) ?_
  refine lv_iadd hx hb dL_law_817 ?_
  refine l_sld C hH hX hbl q2 dL_law_818 ?_
  refine lv_aload_n hx hb dL_law_819 rfl (lv_at hl 3 rfl) ?_
  refine lr_wL C hH (kL_kin l hl9 E (a1 h0) x.1 (xs (i + 1)) (xs (i + 2)) (h0 + 143) x.2.2.1) w_4_13 lw_kin ⟨rfl, rfl⟩ rfl dL_law_820 rfl hl.1 (Nat.le_of_ble_eq_true rfl) ⟨Nat.le_of_ble_eq_true rfl, Nat.le_of_ble_eq_true rfl⟩ ⟨by have := hcap.1; show cells + 1 ≤ 603072; omega, by have := hcap.2; show slots + 6 ≤ 7211114; omega⟩ (fun ya1 H locs hH => ?_)
  refine lv_istore (lv' := [(6, .int ya1.1), (0, .ref b), (1, .ref (a1 h0 121)), (2, .ref (a2 h0 0)), (3, .ref (h0 + 143)), (4, .ref (h0 + 144)), (5, .int n)]) hx hb dL_law_823 hl (by decide) rfl (fun ls hl => ?_)
  refine lv_aload_n hx hb dL_law_825 rfl (lv_at hl 3 rfl) ?_
  refine lv_aload_n hx hb dL_law_826 rfl (lv_at hl 1 rfl) ?_
  refine lv_iload hx hb dL_law_827 (lv_at hl 6 rfl) ?_
  refine lv_iconst (v := 1) hx hb dL_law_829 (by decide) ?_
  refine lv_iadd hx hb dL_law_830 ?_
  refine l_sld C hH hX hbl q1 dL_law_831 ?_
  refine lv_aload_n hx hb dL_law_832 rfl (lv_at hl 1 rfl) ?_
  refine lv_iload hx hb dL_law_833 (lv_at hl 6 rfl) ?_
  refine lv_iconst (v := 2) hx hb dL_law_835 (by decide) ?_
  refine lv_iadd hx hb dL_law_836 ?_
  refine l_sld C hH hX hbl q2 dL_law_837 ?_
  refine lr_i2 (h := fun z => z) C hH (lr_run2 C hH w_6_234 lg_yX10_kin lh_yX10_kin (kX10_kin l E (a2 h0) x.2.1 (xs (i + 1)) (xs (i + 2))) (As := [.int (xs (i + 1)), .int (xs (i + 2))]) rfl dL_law_838 rfl hl.1 (Nat.le_of_ble_eq_true rfl) ⟨Nat.le_of_ble_eq_true rfl, Nat.le_of_ble_eq_true rfl⟩ ⟨by have := hcap.1; show cells + 1 + 0 ≤ 603072; omega, by have := hcap.2; show slots + 6 + 0 ≤ 7211114; omega⟩) (fun yb2 H locs hH => ?_)
  refine lv_istore (lv' := [(7, .int yb2.1), (6, .int ya1.1), (0, .ref b), (1, .ref (a1 h0 121)), (2, .ref (a2 h0 0)), (3, .ref (h0 + 143)), (4, .ref (h0 + 144)), (5, .int n)]) hx hb dL_law_841 hl (by decide) rfl (fun ls hl => ?_)
  refine lv_aload_n hx hb dL_law_843 rfl (lv_at hl 4 rfl) ?_
  refine lr_ip2 (v := (fX10_thrown yb2.2, yb2.2)) C hH (lr_run2 C hH w_6_67 lg_yX10_thrown lh_yX10_thrown (kX10_thrown l E (a2 h0) yb2.2) (As := []) rfl dL_law_844 rfl hl.1 (Nat.le_of_ble_eq_true rfl) ⟨Nat.le_of_ble_eq_true rfl, Nat.le_of_ble_eq_true rfl⟩ ⟨by have := hcap.1; show cells + 1 + 0 + 0 ≤ 603072; omega, by have := hcap.2; show slots + 6 + 0 + 0 ≤ 7211114; omega⟩) (fun H locs hH => ?_)
  refine lv_iload hx hb dL_law_847 (lv_at hl 1 rfl) ?_
  refine kb_icmp_eq (tgt := 854) hx hb dL_law_849 (by decide) (fun _ => ?_) (fun _ => W_none)
  refine lv_iload hx hb dL_law_854 (lv_at hl 1 rfl) ?_
  refine kb_if_ne (tgt := 871) hx hb dL_law_856 (by decide) (fun _ => ?_) (fun _ => ?_)
  · refine lv_goto (tgt := 2261) hx hb dL_law_871 (by decide) ?_
    exact W.widen (k := cells + 2) (n := slots + 9) (by show cells + 1 + 0 + 0 ≤ cells + 2; omega) (by show slots + 6 + 0 + 0 ≤ slots + 9; omega) (kk _ H locs ls hH (lv_sub hl [2, 3, 4, 5, 6, 7] rfl))
  · skip
    refine lv_aload_n hx hb dL_law_859 rfl (lv_at hl 5 rfl) ?_
    refine lv_iconst (v := 0) hx hb dL_law_860 (by decide) ?_
    refine l_lald C hH dL_law_861 ?_
    refine lv_iload hx hb dL_law_862 (lv_at hl 0 rfl) ?_
    refine lv_i2l (v := (Int32.toInt64 yb2.1)) hx hb dL_law_864 rfl ?_
    refine l_lcmp (tgt := 871) hx hb dL_law_865 dL_law_866 (by decide) ?_
    refine lv_goto (tgt := 2261) hx hb dL_law_871 (by decide) ?_
    exact W.widen (k := cells + 2) (n := slots + 9) (by show cells + 1 + 0 + 0 ≤ cells + 2; omega) (by show slots + 6 + 0 + 0 ≤ slots + 9; omega) (kk _ H locs ls hH (lv_sub hl [2, 3, 4, 5, 6, 7] rfl))
/-- case 8 -/
def gL_8 {α : Type} (xs : Nat → Int32) (i : Nat) (x : LST) (G : LST → Option α) : Option α := (fL_relationOf x.1 (xs (i + 1)) (xs (i + 2)) x.2.2.1).bind fun ya1 => (fX10_relationOf x.2.1 (xs (i + 1)) (xs (i + 2))).bind fun yb2 => (if (fX10_thrown yb2.2) = ya1.1 then (if ya1.1 = 0 then (if ya1.2.2 = (Int32.toInt64 yb2.1) then G (ya1.2.1, yb2.2, ya1.2.2, x.2.2.2) else none) else G (ya1.2.1, yb2.2, ya1.2.2, x.2.2.2)) else none)
set_option maxHeartbeats 4000000 in
set_option maxRecDepth 100000 in
theorem kc_8 {p : Program} {l : Launch} (hl9 : l.stackTraces = false) {e : Env} {s : State} {m : MethodId} {args : Array Value} {below : List Frame} {meth : Method} {c : Code} {E : KE} {h0 b L : Nat} {xs : Nat → Int32} (C : LB p s m c args meth E h0) (hX : va_X b L xs s s.heap) (hbl : b < s.heap.size) {x : LST} {H : Heap} {locs : List Loc} {cells slots : Nat} (hH : LH E h0 x s H locs) {i : Nat} (hi : i + 5 ≤ L) (hL : L ≤ 2560) {n : Int32} (hn : n = nI i) {ls : Array Slot} (hl : lv_has ls 9 (lv9 b h0 n)) {α : Type} {f : α → State → Prop} {G : LST → Option α} (hcap : cells + 2 ≤ 603072 ∧ slots + 9 ≤ 7211114)
    (kk : ∀ (x : LST) (H : Heap) (locs : List Loc) (ls : Array Slot), LH E h0 x s H locs → lv_has ls 9 (lv9 b h0 n) → W p l e room_1 s m args below meth c H locs (cells + 2) (slots + 9) (Qn f (G x)) (F0 m 2261 ls [])) : W p l e room_1 s m args below meth c H locs cells slots (Qn f (gL_8 xs i x G)) (F0 m 874 ls []) := by
  have hx := C.1.1.1
  have hb := C.1.1.2.1
  unfold gL_8
  have q1 := l_ix (xs := xs) hn (by omega : i + 1 < L) hL 1 rfl
  have q2 := l_ix (xs := xs) hn (by omega : i + 2 < L) hL 2 rfl
  refine lv_aload_n hx hb dL_law_874 rfl (lv_at hl 1 rfl) ?_
  refine lv_aload_n hx hb dL_law_875 rfl (lv_at hl 0 rfl) ?_
  refine lv_iload hx hb dL_law_876 (lv_at hl 5 rfl) ?_
  refine lv_iconst (v := 1) hx hb dL_law_878 (by decide) ?_
  refine lv_iadd hx hb dL_law_879 ?_
  refine l_sld C hH hX hbl q1 dL_law_880 ?_
  refine lv_aload_n hx hb dL_law_881 rfl (lv_at hl 0 rfl) ?_
  refine lv_iload hx hb dL_law_882 (lv_at hl 5 rfl) ?_
  refine lv_iconst (v := 2) hx hb dL_law_884 (by decide) ?_
  refine lv_iadd hx hb dL_law_885 ?_
  refine l_sld C hH hX hbl q2 dL_law_886 ?_
  refine lv_aload_n hx hb dL_law_887 rfl (lv_at hl 3 rfl) ?_
  refine lr_wL C hH (kL_relationOf l hl9 E (a1 h0) x.1 (xs (i + 1)) (xs (i + 2)) (h0 + 143) x.2.2.1) w_4_21 lw_relationOf ⟨rfl, rfl⟩ rfl dL_law_888 rfl hl.1 (Nat.le_of_ble_eq_true rfl) ⟨Nat.le_of_ble_eq_true rfl, Nat.le_of_ble_eq_true rfl⟩ ⟨by have := hcap.1; show cells + 1 ≤ 603072; omega, by have := hcap.2; show slots + 6 ≤ 7211114; omega⟩ (fun ya1 H locs hH => ?_)
  refine lv_istore (lv' := [(6, .int ya1.1), (0, .ref b), (1, .ref (a1 h0 121)), (2, .ref (a2 h0 0)), (3, .ref (h0 + 143)), (4, .ref (h0 + 144)), (5, .int n)]) hx hb dL_law_891 hl (by decide) rfl (fun ls hl => ?_)
  refine lv_aload_n hx hb dL_law_893 rfl (lv_at hl 3 rfl) ?_
  refine lv_aload_n hx hb dL_law_894 rfl (lv_at hl 1 rfl) ?_
  refine lv_iload hx hb dL_law_895 (lv_at hl 6 rfl) ?_
  refine lv_iconst (v := 1) hx hb dL_law_897 (by decide) ?_
  refine lv_iadd hx hb dL_law_898 ?_
  refine l_sld C hH hX hbl q1 dL_law_899 ?_
  refine lv_aload_n hx hb dL_law_900 rfl (lv_at hl 1 rfl) ?_
  refine lv_iload hx hb dL_law_901 (lv_at hl 6 rfl) ?_
  refine lv_iconst (v := 2) hx hb dL_law_903 (by decide) ?_
  refine lv_iadd hx hb dL_law_904 ?_
  refine l_sld C hH hX hbl q2 dL_law_905 ?_
  refine lr_i2 (h := fun z => z) C hH (lr_run2 C hH w_6_238 lg_yX10_relationOf lh_yX10_relationOf (kX10_relationOf l E (a2 h0) x.2.1 (xs (i + 1)) (xs (i + 2))) (As := [.int (xs (i + 1)), .int (xs (i + 2))]) rfl dL_law_906 rfl hl.1 (Nat.le_of_ble_eq_true rfl) ⟨Nat.le_of_ble_eq_true rfl, Nat.le_of_ble_eq_true rfl⟩ ⟨by have := hcap.1; show cells + 1 + 0 ≤ 603072; omega, by have := hcap.2; show slots + 6 + 0 ≤ 7211114; omega⟩) (fun yb2 H locs hH => ?_)
  refine lv_istore (lv' := [(7, .int yb2.1), (6, .int ya1.1), (0, .ref b), (1, .ref (a1 h0 121)), (2, .ref (a2 h0 0)), (3, .ref (h0 + 143)), (4, .ref (h0 + 144)), (5, .int n)]) hx hb dL_law_909 hl (by decide) rfl (fun ls hl => ?_)
  refine lv_aload_n hx hb dL_law_911 rfl (lv_at hl 4 rfl) ?_
  refine lr_ip2 (v := (fX10_thrown yb2.2, yb2.2)) C hH (lr_run2 C hH w_6_67 lg_yX10_thrown lh_yX10_thrown (kX10_thrown l E (a2 h0) yb2.2) (As := []) rfl dL_law_912 rfl hl.1 (Nat.le_of_ble_eq_true rfl) ⟨Nat.le_of_ble_eq_true rfl, Nat.le_of_ble_eq_true rfl⟩ ⟨by have := hcap.1; show cells + 1 + 0 + 0 ≤ 603072; omega, by have := hcap.2; show slots + 6 + 0 + 0 ≤ 7211114; omega⟩) (fun H locs hH => ?_)
  refine lv_iload hx hb dL_law_915 (lv_at hl 1 rfl) ?_
  refine kb_icmp_eq (tgt := 922) hx hb dL_law_917 (by decide) (fun _ => ?_) (fun _ => W_none)
  refine lv_iload hx hb dL_law_922 (lv_at hl 1 rfl) ?_
  refine kb_if_ne (tgt := 939) hx hb dL_law_924 (by decide) (fun _ => ?_) (fun _ => ?_)
  · refine lv_goto (tgt := 2261) hx hb dL_law_939 (by decide) ?_
    exact W.widen (k := cells + 2) (n := slots + 9) (by show cells + 1 + 0 + 0 ≤ cells + 2; omega) (by show slots + 6 + 0 + 0 ≤ slots + 9; omega) (kk _ H locs ls hH (lv_sub hl [2, 3, 4, 5, 6, 7] rfl))
  · skip
    refine lv_aload_n hx hb dL_law_927 rfl (lv_at hl 5 rfl) ?_
    refine lv_iconst (v := 0) hx hb dL_law_928 (by decide) ?_
    refine l_lald C hH dL_law_929 ?_
    refine lv_iload hx hb dL_law_930 (lv_at hl 0 rfl) ?_
    refine lv_i2l (v := (Int32.toInt64 yb2.1)) hx hb dL_law_932 rfl ?_
    refine l_lcmp (tgt := 939) hx hb dL_law_933 dL_law_934 (by decide) ?_
    refine lv_goto (tgt := 2261) hx hb dL_law_939 (by decide) ?_
    exact W.widen (k := cells + 2) (n := slots + 9) (by show cells + 1 + 0 + 0 ≤ cells + 2; omega) (by show slots + 6 + 0 + 0 ≤ slots + 9; omega) (kk _ H locs ls hH (lv_sub hl [2, 3, 4, 5, 6, 7] rfl))
/-- case 9 -/
def gL_9 {α : Type} (xs : Nat → Int32) (i : Nat) (x : LST) (G : LST → Option α) : Option α := (fL_ranked x.1 (xs (i + 1)) x.2.2.1).bind fun ya1 => (fX10_ranked x.2.1 (xs (i + 1))).bind fun yb2 => (if (fX10_thrown yb2.2) = ya1.1 then (if ya1.1 = 0 then (if ya1.2.2 = (Int32.toInt64 yb2.1) then G (ya1.2.1, yb2.2, ya1.2.2, x.2.2.2) else none) else G (ya1.2.1, yb2.2, ya1.2.2, x.2.2.2)) else none)
set_option maxHeartbeats 4000000 in
set_option maxRecDepth 100000 in
theorem kc_9 {p : Program} {l : Launch} (hl9 : l.stackTraces = false) {e : Env} {s : State} {m : MethodId} {args : Array Value} {below : List Frame} {meth : Method} {c : Code} {E : KE} {h0 b L : Nat} {xs : Nat → Int32} (C : LB p s m c args meth E h0) (hX : va_X b L xs s s.heap) (hbl : b < s.heap.size) {x : LST} {H : Heap} {locs : List Loc} {cells slots : Nat} (hH : LH E h0 x s H locs) {i : Nat} (hi : i + 5 ≤ L) (hL : L ≤ 2560) {n : Int32} (hn : n = nI i) {ls : Array Slot} (hl : lv_has ls 9 (lv9 b h0 n)) {α : Type} {f : α → State → Prop} {G : LST → Option α} (hcap : cells + 2 ≤ 603072 ∧ slots + 9 ≤ 7211114)
    (kk : ∀ (x : LST) (H : Heap) (locs : List Loc) (ls : Array Slot), LH E h0 x s H locs → lv_has ls 9 (lv9 b h0 n) → W p l e room_1 s m args below meth c H locs (cells + 2) (slots + 9) (Qn f (G x)) (F0 m 2261 ls [])) : W p l e room_1 s m args below meth c H locs cells slots (Qn f (gL_9 xs i x G)) (F0 m 942 ls []) := by
  have hx := C.1.1.1
  have hb := C.1.1.2.1
  unfold gL_9
  have q1 := l_ix (xs := xs) hn (by omega : i + 1 < L) hL 1 rfl
  refine lv_aload_n hx hb dL_law_942 rfl (lv_at hl 1 rfl) ?_
  refine lv_aload_n hx hb dL_law_943 rfl (lv_at hl 0 rfl) ?_
  refine lv_iload hx hb dL_law_944 (lv_at hl 5 rfl) ?_
  refine lv_iconst (v := 1) hx hb dL_law_946 (by decide) ?_
  refine lv_iadd hx hb dL_law_947 ?_
  refine l_sld C hH hX hbl q1 dL_law_948 ?_
  refine lv_aload_n hx hb dL_law_949 rfl (lv_at hl 3 rfl) ?_
  refine lr_wL C hH (kL_ranked l hl9 E (a1 h0) x.1 (xs (i + 1)) (h0 + 143) x.2.2.1) w_4_43 lw_ranked ⟨rfl, rfl⟩ rfl dL_law_950 rfl hl.1 (Nat.le_of_ble_eq_true rfl) ⟨Nat.le_of_ble_eq_true rfl, Nat.le_of_ble_eq_true rfl⟩ ⟨by have := hcap.1; show cells + 1 ≤ 603072; omega, by have := hcap.2; show slots + 6 ≤ 7211114; omega⟩ (fun ya1 H locs hH => ?_)
  refine lv_istore (lv' := [(6, .int ya1.1), (0, .ref b), (1, .ref (a1 h0 121)), (2, .ref (a2 h0 0)), (3, .ref (h0 + 143)), (4, .ref (h0 + 144)), (5, .int n)]) hx hb dL_law_953 hl (by decide) rfl (fun ls hl => ?_)
  refine lv_aload_n hx hb dL_law_955 rfl (lv_at hl 3 rfl) ?_
  refine lv_aload_n hx hb dL_law_956 rfl (lv_at hl 1 rfl) ?_
  refine lv_iload hx hb dL_law_957 (lv_at hl 6 rfl) ?_
  refine lv_iconst (v := 1) hx hb dL_law_959 (by decide) ?_
  refine lv_iadd hx hb dL_law_960 ?_
  refine l_sld C hH hX hbl q1 dL_law_961 ?_
  refine lr_i2 (h := fun z => z) C hH (lr_run2 C hH w_7_10 lg_yX10_ranked lh_yX10_ranked (kX10_ranked l E (a2 h0) x.2.1 (xs (i + 1))) (As := [.int (xs (i + 1))]) rfl dL_law_962 rfl hl.1 (Nat.le_of_ble_eq_true rfl) ⟨Nat.le_of_ble_eq_true rfl, Nat.le_of_ble_eq_true rfl⟩ ⟨by have := hcap.1; show cells + 1 + 0 ≤ 603072; omega, by have := hcap.2; show slots + 6 + 0 ≤ 7211114; omega⟩) (fun yb2 H locs hH => ?_)
  refine lv_istore (lv' := [(7, .int yb2.1), (6, .int ya1.1), (0, .ref b), (1, .ref (a1 h0 121)), (2, .ref (a2 h0 0)), (3, .ref (h0 + 143)), (4, .ref (h0 + 144)), (5, .int n)]) hx hb dL_law_965 hl (by decide) rfl (fun ls hl => ?_)
  refine lv_aload_n hx hb dL_law_967 rfl (lv_at hl 4 rfl) ?_
  refine lr_ip2 (v := (fX10_thrown yb2.2, yb2.2)) C hH (lr_run2 C hH w_6_67 lg_yX10_thrown lh_yX10_thrown (kX10_thrown l E (a2 h0) yb2.2) (As := []) rfl dL_law_968 rfl hl.1 (Nat.le_of_ble_eq_true rfl) ⟨Nat.le_of_ble_eq_true rfl, Nat.le_of_ble_eq_true rfl⟩ ⟨by have := hcap.1; show cells + 1 + 0 + 0 ≤ 603072; omega, by have := hcap.2; show slots + 6 + 0 + 0 ≤ 7211114; omega⟩) (fun H locs hH => ?_)
  refine lv_iload hx hb dL_law_971 (lv_at hl 1 rfl) ?_
  refine kb_icmp_eq (tgt := 978) hx hb dL_law_973 (by decide) (fun _ => ?_) (fun _ => W_none)
  refine lv_iload hx hb dL_law_978 (lv_at hl 1 rfl) ?_
  refine kb_if_ne (tgt := 995) hx hb dL_law_980 (by decide) (fun _ => ?_) (fun _ => ?_)
  · refine lv_goto (tgt := 2261) hx hb dL_law_995 (by decide) ?_
    exact W.widen (k := cells + 2) (n := slots + 9) (by show cells + 1 + 0 + 0 ≤ cells + 2; omega) (by show slots + 6 + 0 + 0 ≤ slots + 9; omega) (kk _ H locs ls hH (lv_sub hl [2, 3, 4, 5, 6, 7] rfl))
  · skip
    refine lv_aload_n hx hb dL_law_983 rfl (lv_at hl 5 rfl) ?_
    refine lv_iconst (v := 0) hx hb dL_law_984 (by decide) ?_
    refine l_lald C hH dL_law_985 ?_
    refine lv_iload hx hb dL_law_986 (lv_at hl 0 rfl) ?_
    refine lv_i2l (v := (Int32.toInt64 yb2.1)) hx hb dL_law_988 rfl ?_
    refine l_lcmp (tgt := 995) hx hb dL_law_989 dL_law_990 (by decide) ?_
    refine lv_goto (tgt := 2261) hx hb dL_law_995 (by decide) ?_
    exact W.widen (k := cells + 2) (n := slots + 9) (by show cells + 1 + 0 + 0 ≤ cells + 2; omega) (by show slots + 6 + 0 + 0 ≤ slots + 9; omega) (kk _ H locs ls hH (lv_sub hl [2, 3, 4, 5, 6, 7] rfl))
/-- case 10 -/
def gL_10 {α : Type} (xs : Nat → Int32) (i : Nat) (x : LST) (G : LST → Option α) : Option α := (fL_isMutual x.1 (xs (i + 1)) x.2.2.1).bind fun ya1 => (fX10_isMutual x.2.1 (xs (i + 1))).bind fun yb2 => (if (fX10_thrown yb2.2) = ya1.1 then (if ya1.1 = 0 then (if ya1.2.2 = (b01L yb2.1) then G (ya1.2.1, yb2.2, ya1.2.2, x.2.2.2) else none) else G (ya1.2.1, yb2.2, ya1.2.2, x.2.2.2)) else none)
set_option maxHeartbeats 4000000 in
set_option maxRecDepth 100000 in
theorem kc_10 {p : Program} {l : Launch} (hl9 : l.stackTraces = false) {e : Env} {s : State} {m : MethodId} {args : Array Value} {below : List Frame} {meth : Method} {c : Code} {E : KE} {h0 b L : Nat} {xs : Nat → Int32} (C : LB p s m c args meth E h0) (hX : va_X b L xs s s.heap) (hbl : b < s.heap.size) {x : LST} {H : Heap} {locs : List Loc} {cells slots : Nat} (hH : LH E h0 x s H locs) {i : Nat} (hi : i + 5 ≤ L) (hL : L ≤ 2560) {n : Int32} (hn : n = nI i) {ls : Array Slot} (hl : lv_has ls 9 (lv9 b h0 n)) {α : Type} {f : α → State → Prop} {G : LST → Option α} (hcap : cells + 2 ≤ 603072 ∧ slots + 9 ≤ 7211114)
    (kk : ∀ (x : LST) (H : Heap) (locs : List Loc) (ls : Array Slot), LH E h0 x s H locs → lv_has ls 9 (lv9 b h0 n) → W p l e room_1 s m args below meth c H locs (cells + 2) (slots + 9) (Qn f (G x)) (F0 m 2261 ls [])) : W p l e room_1 s m args below meth c H locs cells slots (Qn f (gL_10 xs i x G)) (F0 m 998 ls []) := by
  have hx := C.1.1.1
  have hb := C.1.1.2.1
  unfold gL_10
  have q1 := l_ix (xs := xs) hn (by omega : i + 1 < L) hL 1 rfl
  refine lv_aload_n hx hb dL_law_998 rfl (lv_at hl 1 rfl) ?_
  refine lv_aload_n hx hb dL_law_999 rfl (lv_at hl 0 rfl) ?_
  refine lv_iload hx hb dL_law_1000 (lv_at hl 5 rfl) ?_
  refine lv_iconst (v := 1) hx hb dL_law_1002 (by decide) ?_
  refine lv_iadd hx hb dL_law_1003 ?_
  refine l_sld C hH hX hbl q1 dL_law_1004 ?_
  refine lv_aload_n hx hb dL_law_1005 rfl (lv_at hl 3 rfl) ?_
  refine lr_wL C hH (kL_isMutual l hl9 E (a1 h0) x.1 (xs (i + 1)) (h0 + 143) x.2.2.1) w_4_54 lw_isMutual ⟨rfl, rfl⟩ rfl dL_law_1006 rfl hl.1 (Nat.le_of_ble_eq_true rfl) ⟨Nat.le_of_ble_eq_true rfl, Nat.le_of_ble_eq_true rfl⟩ ⟨by have := hcap.1; show cells + 1 ≤ 603072; omega, by have := hcap.2; show slots + 6 ≤ 7211114; omega⟩ (fun ya1 H locs hH => ?_)
  refine lv_istore (lv' := [(6, .int ya1.1), (0, .ref b), (1, .ref (a1 h0 121)), (2, .ref (a2 h0 0)), (3, .ref (h0 + 143)), (4, .ref (h0 + 144)), (5, .int n)]) hx hb dL_law_1009 hl (by decide) rfl (fun ls hl => ?_)
  refine lv_aload_n hx hb dL_law_1011 rfl (lv_at hl 3 rfl) ?_
  refine lv_aload_n hx hb dL_law_1012 rfl (lv_at hl 1 rfl) ?_
  refine lv_iload hx hb dL_law_1013 (lv_at hl 6 rfl) ?_
  refine lv_iconst (v := 1) hx hb dL_law_1015 (by decide) ?_
  refine lv_iadd hx hb dL_law_1016 ?_
  refine l_sld C hH hX hbl q1 dL_law_1017 ?_
  refine lr_i2 (h := fun z => z) C hH (lr_run2 C hH w_7_14 lg_yX10_isMutual lh_yX10_isMutual (kX10_isMutual l E (a2 h0) x.2.1 (xs (i + 1))) (As := [.int (xs (i + 1))]) rfl dL_law_1018 rfl hl.1 (Nat.le_of_ble_eq_true rfl) ⟨Nat.le_of_ble_eq_true rfl, Nat.le_of_ble_eq_true rfl⟩ ⟨by have := hcap.1; show cells + 1 + 0 ≤ 603072; omega, by have := hcap.2; show slots + 6 + 0 ≤ 7211114; omega⟩) (fun yb2 H locs hH => ?_)
  refine lv_istore (lv' := [(7, .int yb2.1), (6, .int ya1.1), (0, .ref b), (1, .ref (a1 h0 121)), (2, .ref (a2 h0 0)), (3, .ref (h0 + 143)), (4, .ref (h0 + 144)), (5, .int n)]) hx hb dL_law_1021 hl (by decide) rfl (fun ls hl => ?_)
  refine lv_aload_n hx hb dL_law_1023 rfl (lv_at hl 4 rfl) ?_
  refine lr_ip2 (v := (fX10_thrown yb2.2, yb2.2)) C hH (lr_run2 C hH w_6_67 lg_yX10_thrown lh_yX10_thrown (kX10_thrown l E (a2 h0) yb2.2) (As := []) rfl dL_law_1024 rfl hl.1 (Nat.le_of_ble_eq_true rfl) ⟨Nat.le_of_ble_eq_true rfl, Nat.le_of_ble_eq_true rfl⟩ ⟨by have := hcap.1; show cells + 1 + 0 + 0 ≤ 603072; omega, by have := hcap.2; show slots + 6 + 0 + 0 ≤ 7211114; omega⟩) (fun H locs hH => ?_)
  refine lv_iload hx hb dL_law_1027 (lv_at hl 1 rfl) ?_
  refine kb_icmp_eq (tgt := 1034) hx hb dL_law_1029 (by decide) (fun _ => ?_) (fun _ => W_none)
  refine lv_iload hx hb dL_law_1034 (lv_at hl 1 rfl) ?_
  refine kb_if_ne (tgt := 1058) hx hb dL_law_1036 (by decide) (fun _ => ?_) (fun _ => ?_)
  · refine lv_goto (tgt := 2261) hx hb dL_law_1058 (by decide) ?_
    exact W.widen (k := cells + 2) (n := slots + 9) (by show cells + 1 + 0 + 0 ≤ cells + 2; omega) (by show slots + 6 + 0 + 0 ≤ slots + 9; omega) (kk _ H locs ls hH (lv_sub hl [2, 3, 4, 5, 6, 7] rfl))
  · skip
    refine lv_aload_n hx hb dL_law_1039 rfl (lv_at hl 5 rfl) ?_
    refine lv_iconst (v := 0) hx hb dL_law_1040 (by decide) ?_
    refine l_lald C hH dL_law_1041 ?_
    refine lv_iload hx hb dL_law_1042 (lv_at hl 0 rfl) ?_
    refine l_b01L (t0 := 1051) (tJ := 1052) hx hb dL_law_1044 dL_law_1047 dL_law_1048 dL_law_1051 (by decide) (by decide) rfl ?_
    refine l_lcmp (tgt := 1058) hx hb dL_law_1052 dL_law_1053 (by decide) ?_
    refine lv_goto (tgt := 2261) hx hb dL_law_1058 (by decide) ?_
    exact W.widen (k := cells + 2) (n := slots + 9) (by show cells + 1 + 0 + 0 ≤ cells + 2; omega) (by show slots + 6 + 0 + 0 ≤ slots + 9; omega) (kk _ H locs ls hH (lv_sub hl [2, 3, 4, 5, 6, 7] rfl))
/-- case 11 -/
def gL_11 {α : Type} (xs : Nat → Int32) (i : Nat) (x : LST) (G : LST → Option α) : Option α := (fL_rule x.1 (xs (i + 1)) (xs (i + 2)) (xs (i + 3)) (xs (i + 4)) x.2.2.1).bind fun ya1 => (fX10_rule x.2.1 (xs (i + 1)) (xs (i + 2)) (xs (i + 3)) (xs (i + 4))).bind fun yb2 => (if (fX10_thrown yb2.2) = ya1.1 then (if ya1.1 = 0 then (if ya1.2.2 = (Int32.toInt64 yb2.1) then G (ya1.2.1, yb2.2, ya1.2.2, x.2.2.2) else none) else G (ya1.2.1, yb2.2, ya1.2.2, x.2.2.2)) else none)
set_option maxHeartbeats 4000000 in
set_option maxRecDepth 100000 in
theorem kc_11 {p : Program} {l : Launch} (hl9 : l.stackTraces = false) {e : Env} {s : State} {m : MethodId} {args : Array Value} {below : List Frame} {meth : Method} {c : Code} {E : KE} {h0 b L : Nat} {xs : Nat → Int32} (C : LB p s m c args meth E h0) (hX : va_X b L xs s s.heap) (hbl : b < s.heap.size) {x : LST} {H : Heap} {locs : List Loc} {cells slots : Nat} (hH : LH E h0 x s H locs) {i : Nat} (hi : i + 5 ≤ L) (hL : L ≤ 2560) {n : Int32} (hn : n = nI i) {ls : Array Slot} (hl : lv_has ls 9 (lv9 b h0 n)) {α : Type} {f : α → State → Prop} {G : LST → Option α} (hcap : cells + 2 ≤ 603072 ∧ slots + 9 ≤ 7211114)
    (kk : ∀ (x : LST) (H : Heap) (locs : List Loc) (ls : Array Slot), LH E h0 x s H locs → lv_has ls 9 (lv9 b h0 n) → W p l e room_1 s m args below meth c H locs (cells + 2) (slots + 9) (Qn f (G x)) (F0 m 2261 ls [])) : W p l e room_1 s m args below meth c H locs cells slots (Qn f (gL_11 xs i x G)) (F0 m 1061 ls []) := by
  have hx := C.1.1.1
  have hb := C.1.1.2.1
  unfold gL_11
  have q1 := l_ix (xs := xs) hn (by omega : i + 1 < L) hL 1 rfl
  have q2 := l_ix (xs := xs) hn (by omega : i + 2 < L) hL 2 rfl
  have q3 := l_ix (xs := xs) hn (by omega : i + 3 < L) hL 3 rfl
  have q4 := l_ix (xs := xs) hn (by omega : i + 4 < L) hL 4 rfl
  refine lv_aload_n hx hb dL_law_1061 rfl (lv_at hl 1 rfl) ?_
  refine lv_aload_n hx hb dL_law_1062 rfl (lv_at hl 0 rfl) ?_
  refine lv_iload hx hb dL_law_1063 (lv_at hl 5 rfl) ?_
  refine lv_iconst (v := 1) hx hb dL_law_1065 (by decide) ?_
  refine lv_iadd hx hb dL_law_1066 ?_
  refine l_sld C hH hX hbl q1 dL_law_1067 ?_
  refine lv_aload_n hx hb dL_law_1068 rfl (lv_at hl 0 rfl) ?_
  refine lv_iload hx hb dL_law_1069 (lv_at hl 5 rfl) ?_
  refine lv_iconst (v := 2) hx hb dL_law_1071 (by decide) ?_
  refine lv_iadd hx hb dL_law_1072 ?_
  refine l_sld C hH hX hbl q2 dL_law_1073 ?_
  refine lv_aload_n hx hb dL_law_1074 rfl (lv_at hl 0 rfl) ?_
  refine lv_iload hx hb dL_law_1075 (lv_at hl 5 rfl) ?_
  refine lv_iconst (v := 3) hx hb dL_law_1077 (by decide) ?_
  refine lv_iadd hx hb dL_law_1078 ?_
  refine l_sld C hH hX hbl q3 dL_law_1079 ?_
  refine lv_aload_n hx hb dL_law_1080 rfl (lv_at hl 0 rfl) ?_
  refine lv_iload hx hb dL_law_1081 (lv_at hl 5 rfl) ?_
  refine lv_iconst (v := 4) hx hb dL_law_1083 (by decide) ?_
  refine lv_iadd hx hb dL_law_1084 ?_
  refine l_sld C hH hX hbl q4 dL_law_1085 ?_
  refine lv_aload_n hx hb dL_law_1086 rfl (lv_at hl 3 rfl) ?_
  refine lr_wL C hH (kL_rule l hl9 E (a1 h0) x.1 (xs (i + 1)) (xs (i + 2)) (xs (i + 3)) (xs (i + 4)) (h0 + 143) x.2.2.1) w_4_62 lw_rule ⟨rfl, rfl⟩ rfl dL_law_1087 rfl hl.1 (Nat.le_of_ble_eq_true rfl) ⟨Nat.le_of_ble_eq_true rfl, Nat.le_of_ble_eq_true rfl⟩ ⟨by have := hcap.1; show cells + 1 ≤ 603072; omega, by have := hcap.2; show slots + 6 ≤ 7211114; omega⟩ (fun ya1 H locs hH => ?_)
  refine lv_istore (lv' := [(6, .int ya1.1), (0, .ref b), (1, .ref (a1 h0 121)), (2, .ref (a2 h0 0)), (3, .ref (h0 + 143)), (4, .ref (h0 + 144)), (5, .int n)]) hx hb dL_law_1090 hl (by decide) rfl (fun ls hl => ?_)
  refine lv_aload_n hx hb dL_law_1092 rfl (lv_at hl 3 rfl) ?_
  refine lv_aload_n hx hb dL_law_1093 rfl (lv_at hl 1 rfl) ?_
  refine lv_iload hx hb dL_law_1094 (lv_at hl 6 rfl) ?_
  refine lv_iconst (v := 1) hx hb dL_law_1096 (by decide) ?_
  refine lv_iadd hx hb dL_law_1097 ?_
  refine l_sld C hH hX hbl q1 dL_law_1098 ?_
  refine lv_aload_n hx hb dL_law_1099 rfl (lv_at hl 1 rfl) ?_
  refine lv_iload hx hb dL_law_1100 (lv_at hl 6 rfl) ?_
  refine lv_iconst (v := 2) hx hb dL_law_1102 (by decide) ?_
  refine lv_iadd hx hb dL_law_1103 ?_
  refine l_sld C hH hX hbl q2 dL_law_1104 ?_
  refine lv_aload_n hx hb dL_law_1105 rfl (lv_at hl 1 rfl) ?_
  refine lv_iload hx hb dL_law_1106 (lv_at hl 6 rfl) ?_
  refine lv_iconst (v := 3) hx hb dL_law_1108 (by decide) ?_
  refine lv_iadd hx hb dL_law_1109 ?_
  refine l_sld C hH hX hbl q3 dL_law_1110 ?_
  refine lv_aload_n hx hb dL_law_1111 rfl (lv_at hl 1 rfl) ?_
  refine lv_iload hx hb dL_law_1112 (lv_at hl 6 rfl) ?_
  refine lv_iconst (v := 4) hx hb dL_law_1114 (by decide) ?_
  refine lv_iadd hx hb dL_law_1115 ?_
  refine l_sld C hH hX hbl q4 dL_law_1116 ?_
  refine lr_i2 (h := fun z => z) C hH (lr_run2 C hH w_7_18 lg_yX10_rule lh_yX10_rule (kX10_rule l E (a2 h0) x.2.1 (xs (i + 1)) (xs (i + 2)) (xs (i + 3)) (xs (i + 4))) (As := [.int (xs (i + 1)), .int (xs (i + 2)), .int (xs (i + 3)), .int (xs (i + 4))]) rfl dL_law_1117 rfl hl.1 (Nat.le_of_ble_eq_true rfl) ⟨Nat.le_of_ble_eq_true rfl, Nat.le_of_ble_eq_true rfl⟩ ⟨by have := hcap.1; show cells + 1 + 0 ≤ 603072; omega, by have := hcap.2; show slots + 6 + 0 ≤ 7211114; omega⟩) (fun yb2 H locs hH => ?_)
  refine lv_istore (lv' := [(7, .int yb2.1), (6, .int ya1.1), (0, .ref b), (1, .ref (a1 h0 121)), (2, .ref (a2 h0 0)), (3, .ref (h0 + 143)), (4, .ref (h0 + 144)), (5, .int n)]) hx hb dL_law_1120 hl (by decide) rfl (fun ls hl => ?_)
  refine lv_aload_n hx hb dL_law_1122 rfl (lv_at hl 4 rfl) ?_
  refine lr_ip2 (v := (fX10_thrown yb2.2, yb2.2)) C hH (lr_run2 C hH w_6_67 lg_yX10_thrown lh_yX10_thrown (kX10_thrown l E (a2 h0) yb2.2) (As := []) rfl dL_law_1123 rfl hl.1 (Nat.le_of_ble_eq_true rfl) ⟨Nat.le_of_ble_eq_true rfl, Nat.le_of_ble_eq_true rfl⟩ ⟨by have := hcap.1; show cells + 1 + 0 + 0 ≤ 603072; omega, by have := hcap.2; show slots + 6 + 0 + 0 ≤ 7211114; omega⟩) (fun H locs hH => ?_)
  refine lv_iload hx hb dL_law_1126 (lv_at hl 1 rfl) ?_
  refine kb_icmp_eq (tgt := 1133) hx hb dL_law_1128 (by decide) (fun _ => ?_) (fun _ => W_none)
  refine lv_iload hx hb dL_law_1133 (lv_at hl 1 rfl) ?_
  refine kb_if_ne (tgt := 1150) hx hb dL_law_1135 (by decide) (fun _ => ?_) (fun _ => ?_)
  · refine lv_goto (tgt := 2261) hx hb dL_law_1150 (by decide) ?_
    exact W.widen (k := cells + 2) (n := slots + 9) (by show cells + 1 + 0 + 0 ≤ cells + 2; omega) (by show slots + 6 + 0 + 0 ≤ slots + 9; omega) (kk _ H locs ls hH (lv_sub hl [2, 3, 4, 5, 6, 7] rfl))
  · skip
    refine lv_aload_n hx hb dL_law_1138 rfl (lv_at hl 5 rfl) ?_
    refine lv_iconst (v := 0) hx hb dL_law_1139 (by decide) ?_
    refine l_lald C hH dL_law_1140 ?_
    refine lv_iload hx hb dL_law_1141 (lv_at hl 0 rfl) ?_
    refine lv_i2l (v := (Int32.toInt64 yb2.1)) hx hb dL_law_1143 rfl ?_
    refine l_lcmp (tgt := 1150) hx hb dL_law_1144 dL_law_1145 (by decide) ?_
    refine lv_goto (tgt := 2261) hx hb dL_law_1150 (by decide) ?_
    exact W.widen (k := cells + 2) (n := slots + 9) (by show cells + 1 + 0 + 0 ≤ cells + 2; omega) (by show slots + 6 + 0 + 0 ≤ slots + 9; omega) (kk _ H locs ls hH (lv_sub hl [2, 3, 4, 5, 6, 7] rfl))
/-- case 12 -/
def gL_12 {α : Type} (xs : Nat → Int32) (i : Nat) (x : LST) (G : LST → Option α) : Option α := (fL_drop x.1 (xs (i + 1)) x.2.2.1).bind fun ya1 => (fX10_drop x.2.1 (xs (i + 1))).bind fun yb2 => (if (fX10_thrown yb2.2) = ya1.1 then (if ya1.1 = 0 then (if ya1.2.2 = (Int32.toInt64 yb2.1) then G (ya1.2.1, yb2.2, ya1.2.2, x.2.2.2) else none) else G (ya1.2.1, yb2.2, ya1.2.2, x.2.2.2)) else none)
set_option maxHeartbeats 4000000 in
set_option maxRecDepth 100000 in
theorem kc_12 {p : Program} {l : Launch} (hl9 : l.stackTraces = false) {e : Env} {s : State} {m : MethodId} {args : Array Value} {below : List Frame} {meth : Method} {c : Code} {E : KE} {h0 b L : Nat} {xs : Nat → Int32} (C : LB p s m c args meth E h0) (hX : va_X b L xs s s.heap) (hbl : b < s.heap.size) {x : LST} {H : Heap} {locs : List Loc} {cells slots : Nat} (hH : LH E h0 x s H locs) {i : Nat} (hi : i + 5 ≤ L) (hL : L ≤ 2560) {n : Int32} (hn : n = nI i) {ls : Array Slot} (hl : lv_has ls 9 (lv9 b h0 n)) {α : Type} {f : α → State → Prop} {G : LST → Option α} (hcap : cells + 2 ≤ 603072 ∧ slots + 9 ≤ 7211114)
    (kk : ∀ (x : LST) (H : Heap) (locs : List Loc) (ls : Array Slot), LH E h0 x s H locs → lv_has ls 9 (lv9 b h0 n) → W p l e room_1 s m args below meth c H locs (cells + 2) (slots + 9) (Qn f (G x)) (F0 m 2261 ls [])) : W p l e room_1 s m args below meth c H locs cells slots (Qn f (gL_12 xs i x G)) (F0 m 1153 ls []) := by
  have hx := C.1.1.1
  have hb := C.1.1.2.1
  unfold gL_12
  have q1 := l_ix (xs := xs) hn (by omega : i + 1 < L) hL 1 rfl
  refine lv_aload_n hx hb dL_law_1153 rfl (lv_at hl 1 rfl) ?_
  refine lv_aload_n hx hb dL_law_1154 rfl (lv_at hl 0 rfl) ?_
  refine lv_iload hx hb dL_law_1155 (lv_at hl 5 rfl) ?_
  refine lv_iconst (v := 1) hx hb dL_law_1157 (by decide) ?_
  refine lv_iadd hx hb dL_law_1158 ?_
  refine l_sld C hH hX hbl q1 dL_law_1159 ?_
  refine lv_aload_n hx hb dL_law_1160 rfl (lv_at hl 3 rfl) ?_
  refine lr_wL C hH (kL_drop l hl9 E (a1 h0) x.1 (xs (i + 1)) (h0 + 143) x.2.2.1) w_4_101 lw_drop ⟨rfl, rfl⟩ rfl dL_law_1161 rfl hl.1 (Nat.le_of_ble_eq_true rfl) ⟨Nat.le_of_ble_eq_true rfl, Nat.le_of_ble_eq_true rfl⟩ ⟨by have := hcap.1; show cells + 1 ≤ 603072; omega, by have := hcap.2; show slots + 6 ≤ 7211114; omega⟩ (fun ya1 H locs hH => ?_)
  refine lv_istore (lv' := [(6, .int ya1.1), (0, .ref b), (1, .ref (a1 h0 121)), (2, .ref (a2 h0 0)), (3, .ref (h0 + 143)), (4, .ref (h0 + 144)), (5, .int n)]) hx hb dL_law_1164 hl (by decide) rfl (fun ls hl => ?_)
  refine lv_aload_n hx hb dL_law_1166 rfl (lv_at hl 3 rfl) ?_
  refine lv_aload_n hx hb dL_law_1167 rfl (lv_at hl 1 rfl) ?_
  refine lv_iload hx hb dL_law_1168 (lv_at hl 6 rfl) ?_
  refine lv_iconst (v := 1) hx hb dL_law_1170 (by decide) ?_
  refine lv_iadd hx hb dL_law_1171 ?_
  refine l_sld C hH hX hbl q1 dL_law_1172 ?_
  refine lr_i2 (h := fun z => z) C hH (lr_run2 C hH w_7_38 lg_yX10_drop lh_yX10_drop (kX10_drop l E (a2 h0) x.2.1 (xs (i + 1))) (As := [.int (xs (i + 1))]) rfl dL_law_1173 rfl hl.1 (Nat.le_of_ble_eq_true rfl) ⟨Nat.le_of_ble_eq_true rfl, Nat.le_of_ble_eq_true rfl⟩ ⟨by have := hcap.1; show cells + 1 + 0 ≤ 603072; omega, by have := hcap.2; show slots + 6 + 0 ≤ 7211114; omega⟩) (fun yb2 H locs hH => ?_)
  refine lv_istore (lv' := [(7, .int yb2.1), (6, .int ya1.1), (0, .ref b), (1, .ref (a1 h0 121)), (2, .ref (a2 h0 0)), (3, .ref (h0 + 143)), (4, .ref (h0 + 144)), (5, .int n)]) hx hb dL_law_1176 hl (by decide) rfl (fun ls hl => ?_)
  refine lv_aload_n hx hb dL_law_1178 rfl (lv_at hl 4 rfl) ?_
  refine lr_ip2 (v := (fX10_thrown yb2.2, yb2.2)) C hH (lr_run2 C hH w_6_67 lg_yX10_thrown lh_yX10_thrown (kX10_thrown l E (a2 h0) yb2.2) (As := []) rfl dL_law_1179 rfl hl.1 (Nat.le_of_ble_eq_true rfl) ⟨Nat.le_of_ble_eq_true rfl, Nat.le_of_ble_eq_true rfl⟩ ⟨by have := hcap.1; show cells + 1 + 0 + 0 ≤ 603072; omega, by have := hcap.2; show slots + 6 + 0 + 0 ≤ 7211114; omega⟩) (fun H locs hH => ?_)
  refine lv_iload hx hb dL_law_1182 (lv_at hl 1 rfl) ?_
  refine kb_icmp_eq (tgt := 1189) hx hb dL_law_1184 (by decide) (fun _ => ?_) (fun _ => W_none)
  refine lv_iload hx hb dL_law_1189 (lv_at hl 1 rfl) ?_
  refine kb_if_ne (tgt := 1206) hx hb dL_law_1191 (by decide) (fun _ => ?_) (fun _ => ?_)
  · refine lv_goto (tgt := 2261) hx hb dL_law_1206 (by decide) ?_
    exact W.widen (k := cells + 2) (n := slots + 9) (by show cells + 1 + 0 + 0 ≤ cells + 2; omega) (by show slots + 6 + 0 + 0 ≤ slots + 9; omega) (kk _ H locs ls hH (lv_sub hl [2, 3, 4, 5, 6, 7] rfl))
  · skip
    refine lv_aload_n hx hb dL_law_1194 rfl (lv_at hl 5 rfl) ?_
    refine lv_iconst (v := 0) hx hb dL_law_1195 (by decide) ?_
    refine l_lald C hH dL_law_1196 ?_
    refine lv_iload hx hb dL_law_1197 (lv_at hl 0 rfl) ?_
    refine lv_i2l (v := (Int32.toInt64 yb2.1)) hx hb dL_law_1199 rfl ?_
    refine l_lcmp (tgt := 1206) hx hb dL_law_1200 dL_law_1201 (by decide) ?_
    refine lv_goto (tgt := 2261) hx hb dL_law_1206 (by decide) ?_
    exact W.widen (k := cells + 2) (n := slots + 9) (by show cells + 1 + 0 + 0 ≤ cells + 2; omega) (by show slots + 6 + 0 + 0 ≤ slots + 9; omega) (kk _ H locs ls hH (lv_sub hl [2, 3, 4, 5, 6, 7] rfl))
/-- case 13 -/
def gL_13 {α : Type} (xs : Nat → Int32) (i : Nat) (x : LST) (G : LST → Option α) : Option α := (fL_ruleOf x.1 (xs (i + 1)) (xs (i + 2)) x.2.2.1).bind fun ya1 => (fX10_ruleOf x.2.1 (xs (i + 1)) (xs (i + 2))).bind fun yb2 => (if (fX10_thrown yb2.2) = ya1.1 then (if ya1.1 = 0 then (if ya1.2.2 = (Int32.toInt64 yb2.1) then G (ya1.2.1, yb2.2, ya1.2.2, x.2.2.2) else none) else G (ya1.2.1, yb2.2, ya1.2.2, x.2.2.2)) else none)
set_option maxHeartbeats 4000000 in
set_option maxRecDepth 100000 in
theorem kc_13 {p : Program} {l : Launch} (hl9 : l.stackTraces = false) {e : Env} {s : State} {m : MethodId} {args : Array Value} {below : List Frame} {meth : Method} {c : Code} {E : KE} {h0 b L : Nat} {xs : Nat → Int32} (C : LB p s m c args meth E h0) (hX : va_X b L xs s s.heap) (hbl : b < s.heap.size) {x : LST} {H : Heap} {locs : List Loc} {cells slots : Nat} (hH : LH E h0 x s H locs) {i : Nat} (hi : i + 5 ≤ L) (hL : L ≤ 2560) {n : Int32} (hn : n = nI i) {ls : Array Slot} (hl : lv_has ls 9 (lv9 b h0 n)) {α : Type} {f : α → State → Prop} {G : LST → Option α} (hcap : cells + 2 ≤ 603072 ∧ slots + 9 ≤ 7211114)
    (kk : ∀ (x : LST) (H : Heap) (locs : List Loc) (ls : Array Slot), LH E h0 x s H locs → lv_has ls 9 (lv9 b h0 n) → W p l e room_1 s m args below meth c H locs (cells + 2) (slots + 9) (Qn f (G x)) (F0 m 2261 ls [])) : W p l e room_1 s m args below meth c H locs cells slots (Qn f (gL_13 xs i x G)) (F0 m 1209 ls []) := by
  have hx := C.1.1.1
  have hb := C.1.1.2.1
  unfold gL_13
  have q1 := l_ix (xs := xs) hn (by omega : i + 1 < L) hL 1 rfl
  have q2 := l_ix (xs := xs) hn (by omega : i + 2 < L) hL 2 rfl
  refine lv_aload_n hx hb dL_law_1209 rfl (lv_at hl 1 rfl) ?_
  refine lv_aload_n hx hb dL_law_1210 rfl (lv_at hl 0 rfl) ?_
  refine lv_iload hx hb dL_law_1211 (lv_at hl 5 rfl) ?_
  refine lv_iconst (v := 1) hx hb dL_law_1213 (by decide) ?_
  refine lv_iadd hx hb dL_law_1214 ?_
  refine l_sld C hH hX hbl q1 dL_law_1215 ?_
  refine lv_aload_n hx hb dL_law_1216 rfl (lv_at hl 0 rfl) ?_
  refine lv_iload hx hb dL_law_1217 (lv_at hl 5 rfl) ?_
  refine lv_iconst (v := 2) hx hb dL_law_1219 (by decide) ?_
  refine lv_iadd hx hb dL_law_1220 ?_
  refine l_sld C hH hX hbl q2 dL_law_1221 ?_
  refine lv_aload_n hx hb dL_law_1222 rfl (lv_at hl 3 rfl) ?_
  refine lr_wL C hH (kL_ruleOf l hl9 E (a1 h0) x.1 (xs (i + 1)) (xs (i + 2)) (h0 + 143) x.2.2.1) w_4_122 lw_ruleOf ⟨rfl, rfl⟩ rfl dL_law_1223 rfl hl.1 (Nat.le_of_ble_eq_true rfl) ⟨Nat.le_of_ble_eq_true rfl, Nat.le_of_ble_eq_true rfl⟩ ⟨by have := hcap.1; show cells + 1 ≤ 603072; omega, by have := hcap.2; show slots + 6 ≤ 7211114; omega⟩ (fun ya1 H locs hH => ?_)
  refine lv_istore (lv' := [(6, .int ya1.1), (0, .ref b), (1, .ref (a1 h0 121)), (2, .ref (a2 h0 0)), (3, .ref (h0 + 143)), (4, .ref (h0 + 144)), (5, .int n)]) hx hb dL_law_1226 hl (by decide) rfl (fun ls hl => ?_)
  refine lv_aload_n hx hb dL_law_1228 rfl (lv_at hl 3 rfl) ?_
  refine lv_aload_n hx hb dL_law_1229 rfl (lv_at hl 1 rfl) ?_
  refine lv_iload hx hb dL_law_1230 (lv_at hl 6 rfl) ?_
  refine lv_iconst (v := 1) hx hb dL_law_1232 (by decide) ?_
  refine lv_iadd hx hb dL_law_1233 ?_
  refine l_sld C hH hX hbl q1 dL_law_1234 ?_
  refine lv_aload_n hx hb dL_law_1235 rfl (lv_at hl 1 rfl) ?_
  refine lv_iload hx hb dL_law_1236 (lv_at hl 6 rfl) ?_
  refine lv_iconst (v := 2) hx hb dL_law_1238 (by decide) ?_
  refine lv_iadd hx hb dL_law_1239 ?_
  refine l_sld C hH hX hbl q2 dL_law_1240 ?_
  refine lr_i2 (h := fun z => z) C hH (lr_run2 C hH w_7_50 lg_yX10_ruleOf lh_yX10_ruleOf (kX10_ruleOf l E (a2 h0) x.2.1 (xs (i + 1)) (xs (i + 2))) (As := [.int (xs (i + 1)), .int (xs (i + 2))]) rfl dL_law_1241 rfl hl.1 (Nat.le_of_ble_eq_true rfl) ⟨Nat.le_of_ble_eq_true rfl, Nat.le_of_ble_eq_true rfl⟩ ⟨by have := hcap.1; show cells + 1 + 0 ≤ 603072; omega, by have := hcap.2; show slots + 6 + 0 ≤ 7211114; omega⟩) (fun yb2 H locs hH => ?_)
  refine lv_istore (lv' := [(7, .int yb2.1), (6, .int ya1.1), (0, .ref b), (1, .ref (a1 h0 121)), (2, .ref (a2 h0 0)), (3, .ref (h0 + 143)), (4, .ref (h0 + 144)), (5, .int n)]) hx hb dL_law_1244 hl (by decide) rfl (fun ls hl => ?_)
  refine lv_aload_n hx hb dL_law_1246 rfl (lv_at hl 4 rfl) ?_
  refine lr_ip2 (v := (fX10_thrown yb2.2, yb2.2)) C hH (lr_run2 C hH w_6_67 lg_yX10_thrown lh_yX10_thrown (kX10_thrown l E (a2 h0) yb2.2) (As := []) rfl dL_law_1247 rfl hl.1 (Nat.le_of_ble_eq_true rfl) ⟨Nat.le_of_ble_eq_true rfl, Nat.le_of_ble_eq_true rfl⟩ ⟨by have := hcap.1; show cells + 1 + 0 + 0 ≤ 603072; omega, by have := hcap.2; show slots + 6 + 0 + 0 ≤ 7211114; omega⟩) (fun H locs hH => ?_)
  refine lv_iload hx hb dL_law_1250 (lv_at hl 1 rfl) ?_
  refine kb_icmp_eq (tgt := 1257) hx hb dL_law_1252 (by decide) (fun _ => ?_) (fun _ => W_none)
  refine lv_iload hx hb dL_law_1257 (lv_at hl 1 rfl) ?_
  refine kb_if_ne (tgt := 1274) hx hb dL_law_1259 (by decide) (fun _ => ?_) (fun _ => ?_)
  · refine lv_goto (tgt := 2261) hx hb dL_law_1274 (by decide) ?_
    exact W.widen (k := cells + 2) (n := slots + 9) (by show cells + 1 + 0 + 0 ≤ cells + 2; omega) (by show slots + 6 + 0 + 0 ≤ slots + 9; omega) (kk _ H locs ls hH (lv_sub hl [2, 3, 4, 5, 6, 7] rfl))
  · skip
    refine lv_aload_n hx hb dL_law_1262 rfl (lv_at hl 5 rfl) ?_
    refine lv_iconst (v := 0) hx hb dL_law_1263 (by decide) ?_
    refine l_lald C hH dL_law_1264 ?_
    refine lv_iload hx hb dL_law_1265 (lv_at hl 0 rfl) ?_
    refine lv_i2l (v := (Int32.toInt64 yb2.1)) hx hb dL_law_1267 rfl ?_
    refine l_lcmp (tgt := 1274) hx hb dL_law_1268 dL_law_1269 (by decide) ?_
    refine lv_goto (tgt := 2261) hx hb dL_law_1274 (by decide) ?_
    exact W.widen (k := cells + 2) (n := slots + 9) (by show cells + 1 + 0 + 0 ≤ cells + 2; omega) (by show slots + 6 + 0 + 0 ≤ slots + 9; omega) (kk _ H locs ls hH (lv_sub hl [2, 3, 4, 5, 6, 7] rfl))
/-- case 14 -/
def gL_14 {α : Type} (xs : Nat → Int32) (i : Nat) (x : LST) (G : LST → Option α) : Option α := (fL_condition x.1 (xs (i + 1)) (xs (i + 2)) x.2.2.1).bind fun ya1 => (fX10_condition x.2.1 (xs (i + 1)) (xs (i + 2))).bind fun yb2 => (if (fX10_thrown yb2.2) = ya1.1 then (if ya1.1 = 0 then (if ya1.2.2 = (Int32.toInt64 yb2.1) then G (ya1.2.1, yb2.2, ya1.2.2, x.2.2.2) else none) else G (ya1.2.1, yb2.2, ya1.2.2, x.2.2.2)) else none)
set_option maxHeartbeats 4000000 in
set_option maxRecDepth 100000 in
theorem kc_14 {p : Program} {l : Launch} (hl9 : l.stackTraces = false) {e : Env} {s : State} {m : MethodId} {args : Array Value} {below : List Frame} {meth : Method} {c : Code} {E : KE} {h0 b L : Nat} {xs : Nat → Int32} (C : LB p s m c args meth E h0) (hX : va_X b L xs s s.heap) (hbl : b < s.heap.size) {x : LST} {H : Heap} {locs : List Loc} {cells slots : Nat} (hH : LH E h0 x s H locs) {i : Nat} (hi : i + 5 ≤ L) (hL : L ≤ 2560) {n : Int32} (hn : n = nI i) {ls : Array Slot} (hl : lv_has ls 9 (lv9 b h0 n)) {α : Type} {f : α → State → Prop} {G : LST → Option α} (hcap : cells + 2 ≤ 603072 ∧ slots + 9 ≤ 7211114)
    (kk : ∀ (x : LST) (H : Heap) (locs : List Loc) (ls : Array Slot), LH E h0 x s H locs → lv_has ls 9 (lv9 b h0 n) → W p l e room_1 s m args below meth c H locs (cells + 2) (slots + 9) (Qn f (G x)) (F0 m 2261 ls [])) : W p l e room_1 s m args below meth c H locs cells slots (Qn f (gL_14 xs i x G)) (F0 m 1277 ls []) := by
  have hx := C.1.1.1
  have hb := C.1.1.2.1
  unfold gL_14
  have q1 := l_ix (xs := xs) hn (by omega : i + 1 < L) hL 1 rfl
  have q2 := l_ix (xs := xs) hn (by omega : i + 2 < L) hL 2 rfl
  refine lv_aload_n hx hb dL_law_1277 rfl (lv_at hl 1 rfl) ?_
  refine lv_aload_n hx hb dL_law_1278 rfl (lv_at hl 0 rfl) ?_
  refine lv_iload hx hb dL_law_1279 (lv_at hl 5 rfl) ?_
  refine lv_iconst (v := 1) hx hb dL_law_1281 (by decide) ?_
  refine lv_iadd hx hb dL_law_1282 ?_
  refine l_sld C hH hX hbl q1 dL_law_1283 ?_
  refine lv_aload_n hx hb dL_law_1284 rfl (lv_at hl 0 rfl) ?_
  refine lv_iload hx hb dL_law_1285 (lv_at hl 5 rfl) ?_
  refine lv_iconst (v := 2) hx hb dL_law_1287 (by decide) ?_
  refine lv_iadd hx hb dL_law_1288 ?_
  refine l_sld C hH hX hbl q2 dL_law_1289 ?_
  refine lv_aload_n hx hb dL_law_1290 rfl (lv_at hl 3 rfl) ?_
  refine lr_wL C hH (kL_condition l hl9 E (a1 h0) x.1 (xs (i + 1)) (xs (i + 2)) (h0 + 143) x.2.2.1) w_4_143 lw_condition ⟨rfl, rfl⟩ rfl dL_law_1291 rfl hl.1 (Nat.le_of_ble_eq_true rfl) ⟨Nat.le_of_ble_eq_true rfl, Nat.le_of_ble_eq_true rfl⟩ ⟨by have := hcap.1; show cells + 1 ≤ 603072; omega, by have := hcap.2; show slots + 6 ≤ 7211114; omega⟩ (fun ya1 H locs hH => ?_)
  refine lv_istore (lv' := [(6, .int ya1.1), (0, .ref b), (1, .ref (a1 h0 121)), (2, .ref (a2 h0 0)), (3, .ref (h0 + 143)), (4, .ref (h0 + 144)), (5, .int n)]) hx hb dL_law_1294 hl (by decide) rfl (fun ls hl => ?_)
  refine lv_aload_n hx hb dL_law_1296 rfl (lv_at hl 3 rfl) ?_
  refine lv_aload_n hx hb dL_law_1297 rfl (lv_at hl 1 rfl) ?_
  refine lv_iload hx hb dL_law_1298 (lv_at hl 6 rfl) ?_
  refine lv_iconst (v := 1) hx hb dL_law_1300 (by decide) ?_
  refine lv_iadd hx hb dL_law_1301 ?_
  refine l_sld C hH hX hbl q1 dL_law_1302 ?_
  refine lv_aload_n hx hb dL_law_1303 rfl (lv_at hl 1 rfl) ?_
  refine lv_iload hx hb dL_law_1304 (lv_at hl 6 rfl) ?_
  refine lv_iconst (v := 2) hx hb dL_law_1306 (by decide) ?_
  refine lv_iadd hx hb dL_law_1307 ?_
  refine l_sld C hH hX hbl q2 dL_law_1308 ?_
  refine lr_i2 (h := fun z => z) C hH (lr_run2 C hH w_7_62 lg_yX10_condition lh_yX10_condition (kX10_condition l E (a2 h0) x.2.1 (xs (i + 1)) (xs (i + 2))) (As := [.int (xs (i + 1)), .int (xs (i + 2))]) rfl dL_law_1309 rfl hl.1 (Nat.le_of_ble_eq_true rfl) ⟨Nat.le_of_ble_eq_true rfl, Nat.le_of_ble_eq_true rfl⟩ ⟨by have := hcap.1; show cells + 1 + 0 ≤ 603072; omega, by have := hcap.2; show slots + 6 + 0 ≤ 7211114; omega⟩) (fun yb2 H locs hH => ?_)
  refine lv_istore (lv' := [(7, .int yb2.1), (6, .int ya1.1), (0, .ref b), (1, .ref (a1 h0 121)), (2, .ref (a2 h0 0)), (3, .ref (h0 + 143)), (4, .ref (h0 + 144)), (5, .int n)]) hx hb dL_law_1312 hl (by decide) rfl (fun ls hl => ?_)
  refine lv_aload_n hx hb dL_law_1314 rfl (lv_at hl 4 rfl) ?_
  refine lr_ip2 (v := (fX10_thrown yb2.2, yb2.2)) C hH (lr_run2 C hH w_6_67 lg_yX10_thrown lh_yX10_thrown (kX10_thrown l E (a2 h0) yb2.2) (As := []) rfl dL_law_1315 rfl hl.1 (Nat.le_of_ble_eq_true rfl) ⟨Nat.le_of_ble_eq_true rfl, Nat.le_of_ble_eq_true rfl⟩ ⟨by have := hcap.1; show cells + 1 + 0 + 0 ≤ 603072; omega, by have := hcap.2; show slots + 6 + 0 + 0 ≤ 7211114; omega⟩) (fun H locs hH => ?_)
  refine lv_iload hx hb dL_law_1318 (lv_at hl 1 rfl) ?_
  refine kb_icmp_eq (tgt := 1325) hx hb dL_law_1320 (by decide) (fun _ => ?_) (fun _ => W_none)
  refine lv_iload hx hb dL_law_1325 (lv_at hl 1 rfl) ?_
  refine kb_if_ne (tgt := 1342) hx hb dL_law_1327 (by decide) (fun _ => ?_) (fun _ => ?_)
  · refine lv_goto (tgt := 2261) hx hb dL_law_1342 (by decide) ?_
    exact W.widen (k := cells + 2) (n := slots + 9) (by show cells + 1 + 0 + 0 ≤ cells + 2; omega) (by show slots + 6 + 0 + 0 ≤ slots + 9; omega) (kk _ H locs ls hH (lv_sub hl [2, 3, 4, 5, 6, 7] rfl))
  · skip
    refine lv_aload_n hx hb dL_law_1330 rfl (lv_at hl 5 rfl) ?_
    refine lv_iconst (v := 0) hx hb dL_law_1331 (by decide) ?_
    refine l_lald C hH dL_law_1332 ?_
    refine lv_iload hx hb dL_law_1333 (lv_at hl 0 rfl) ?_
    refine lv_i2l (v := (Int32.toInt64 yb2.1)) hx hb dL_law_1335 rfl ?_
    refine l_lcmp (tgt := 1342) hx hb dL_law_1336 dL_law_1337 (by decide) ?_
    refine lv_goto (tgt := 2261) hx hb dL_law_1342 (by decide) ?_
    exact W.widen (k := cells + 2) (n := slots + 9) (by show cells + 1 + 0 + 0 ≤ cells + 2; omega) (by show slots + 6 + 0 + 0 ≤ slots + 9; omega) (kk _ H locs ls hH (lv_sub hl [2, 3, 4, 5, 6, 7] rfl))
/-- case 15 -/
def gL_15 {α : Type} (xs : Nat → Int32) (i : Nat) (x : LST) (G : LST → Option α) : Option α := (fL_wouldLayer x.1 (xs (i + 1)) (xs (i + 2)) (xs (i + 3)) (xs (i + 4)) x.2.2.1).bind fun ya1 => (fX10_wouldLayer x.2.1 (xs (i + 1)) (xs (i + 2)) (xs (i + 3)) (xs (i + 4))).bind fun yb2 => (if (fX10_thrown yb2.2) = ya1.1 then (if ya1.1 = 0 then (if ya1.2.2 = (b01L yb2.1) then G (ya1.2.1, yb2.2, ya1.2.2, x.2.2.2) else none) else G (ya1.2.1, yb2.2, ya1.2.2, x.2.2.2)) else none)
set_option maxHeartbeats 4000000 in
set_option maxRecDepth 100000 in
theorem kc_15 {p : Program} {l : Launch} (hl9 : l.stackTraces = false) {e : Env} {s : State} {m : MethodId} {args : Array Value} {below : List Frame} {meth : Method} {c : Code} {E : KE} {h0 b L : Nat} {xs : Nat → Int32} (C : LB p s m c args meth E h0) (hX : va_X b L xs s s.heap) (hbl : b < s.heap.size) {x : LST} {H : Heap} {locs : List Loc} {cells slots : Nat} (hH : LH E h0 x s H locs) {i : Nat} (hi : i + 5 ≤ L) (hL : L ≤ 2560) {n : Int32} (hn : n = nI i) {ls : Array Slot} (hl : lv_has ls 9 (lv9 b h0 n)) {α : Type} {f : α → State → Prop} {G : LST → Option α} (hcap : cells + 2 ≤ 603072 ∧ slots + 9 ≤ 7211114)
    (kk : ∀ (x : LST) (H : Heap) (locs : List Loc) (ls : Array Slot), LH E h0 x s H locs → lv_has ls 9 (lv9 b h0 n) → W p l e room_1 s m args below meth c H locs (cells + 2) (slots + 9) (Qn f (G x)) (F0 m 2261 ls [])) : W p l e room_1 s m args below meth c H locs cells slots (Qn f (gL_15 xs i x G)) (F0 m 1345 ls []) := by
  have hx := C.1.1.1
  have hb := C.1.1.2.1
  unfold gL_15
  have q1 := l_ix (xs := xs) hn (by omega : i + 1 < L) hL 1 rfl
  have q2 := l_ix (xs := xs) hn (by omega : i + 2 < L) hL 2 rfl
  have q3 := l_ix (xs := xs) hn (by omega : i + 3 < L) hL 3 rfl
  have q4 := l_ix (xs := xs) hn (by omega : i + 4 < L) hL 4 rfl
  refine lv_aload_n hx hb dL_law_1345 rfl (lv_at hl 1 rfl) ?_
  refine lv_aload_n hx hb dL_law_1346 rfl (lv_at hl 0 rfl) ?_
  refine lv_iload hx hb dL_law_1347 (lv_at hl 5 rfl) ?_
  refine lv_iconst (v := 1) hx hb dL_law_1349 (by decide) ?_
  refine lv_iadd hx hb dL_law_1350 ?_
  refine l_sld C hH hX hbl q1 dL_law_1351 ?_
  refine lv_aload_n hx hb dL_law_1352 rfl (lv_at hl 0 rfl) ?_
  refine lv_iload hx hb dL_law_1353 (lv_at hl 5 rfl) ?_
  refine lv_iconst (v := 2) hx hb dL_law_1355 (by decide) ?_
  refine lv_iadd hx hb dL_law_1356 ?_
  refine l_sld C hH hX hbl q2 dL_law_1357 ?_
  refine lv_aload_n hx hb dL_law_1358 rfl (lv_at hl 0 rfl) ?_
  refine lv_iload hx hb dL_law_1359 (lv_at hl 5 rfl) ?_
  refine lv_iconst (v := 3) hx hb dL_law_1361 (by decide) ?_
  refine lv_iadd hx hb dL_law_1362 ?_
  refine l_sld C hH hX hbl q3 dL_law_1363 ?_
  refine lv_aload_n hx hb dL_law_1364 rfl (lv_at hl 0 rfl) ?_
  refine lv_iload hx hb dL_law_1365 (lv_at hl 5 rfl) ?_
  refine lv_iconst (v := 4) hx hb dL_law_1367 (by decide) ?_
  refine lv_iadd hx hb dL_law_1368 ?_
  refine l_sld C hH hX hbl q4 dL_law_1369 ?_
  refine lv_aload_n hx hb dL_law_1370 rfl (lv_at hl 3 rfl) ?_
  refine lr_wL C hH (kL_wouldLayer l hl9 E (a1 h0) x.1 (xs (i + 1)) (xs (i + 2)) (xs (i + 3)) (xs (i + 4)) (h0 + 143) x.2.2.1) w_4_151 lw_wouldLayer ⟨rfl, rfl⟩ rfl dL_law_1371 rfl hl.1 (Nat.le_of_ble_eq_true rfl) ⟨Nat.le_of_ble_eq_true rfl, Nat.le_of_ble_eq_true rfl⟩ ⟨by have := hcap.1; show cells + 1 ≤ 603072; omega, by have := hcap.2; show slots + 6 ≤ 7211114; omega⟩ (fun ya1 H locs hH => ?_)
  refine lv_istore (lv' := [(6, .int ya1.1), (0, .ref b), (1, .ref (a1 h0 121)), (2, .ref (a2 h0 0)), (3, .ref (h0 + 143)), (4, .ref (h0 + 144)), (5, .int n)]) hx hb dL_law_1374 hl (by decide) rfl (fun ls hl => ?_)
  refine lv_aload_n hx hb dL_law_1376 rfl (lv_at hl 3 rfl) ?_
  refine lv_aload_n hx hb dL_law_1377 rfl (lv_at hl 1 rfl) ?_
  refine lv_iload hx hb dL_law_1378 (lv_at hl 6 rfl) ?_
  refine lv_iconst (v := 1) hx hb dL_law_1380 (by decide) ?_
  refine lv_iadd hx hb dL_law_1381 ?_
  refine l_sld C hH hX hbl q1 dL_law_1382 ?_
  refine lv_aload_n hx hb dL_law_1383 rfl (lv_at hl 1 rfl) ?_
  refine lv_iload hx hb dL_law_1384 (lv_at hl 6 rfl) ?_
  refine lv_iconst (v := 2) hx hb dL_law_1386 (by decide) ?_
  refine lv_iadd hx hb dL_law_1387 ?_
  refine l_sld C hH hX hbl q2 dL_law_1388 ?_
  refine lv_aload_n hx hb dL_law_1389 rfl (lv_at hl 1 rfl) ?_
  refine lv_iload hx hb dL_law_1390 (lv_at hl 6 rfl) ?_
  refine lv_iconst (v := 3) hx hb dL_law_1392 (by decide) ?_
  refine lv_iadd hx hb dL_law_1393 ?_
  refine l_sld C hH hX hbl q3 dL_law_1394 ?_
  refine lv_aload_n hx hb dL_law_1395 rfl (lv_at hl 1 rfl) ?_
  refine lv_iload hx hb dL_law_1396 (lv_at hl 6 rfl) ?_
  refine lv_iconst (v := 4) hx hb dL_law_1398 (by decide) ?_
  refine lv_iadd hx hb dL_law_1399 ?_
  refine l_sld C hH hX hbl q4 dL_law_1400 ?_
  refine lr_i2 (h := fun z => z) C hH (lr_run2 C hH w_7_66 lg_yX10_wouldLayer lh_yX10_wouldLayer (kX10_wouldLayer l E (a2 h0) x.2.1 (xs (i + 1)) (xs (i + 2)) (xs (i + 3)) (xs (i + 4))) (As := [.int (xs (i + 1)), .int (xs (i + 2)), .int (xs (i + 3)), .int (xs (i + 4))]) rfl dL_law_1401 rfl hl.1 (Nat.le_of_ble_eq_true rfl) ⟨Nat.le_of_ble_eq_true rfl, Nat.le_of_ble_eq_true rfl⟩ ⟨by have := hcap.1; show cells + 1 + 1 ≤ 603072; omega, by have := hcap.2; show slots + 6 + 3 ≤ 7211114; omega⟩) (fun yb2 H locs hH => ?_)
  refine lv_istore (lv' := [(7, .int yb2.1), (6, .int ya1.1), (0, .ref b), (1, .ref (a1 h0 121)), (2, .ref (a2 h0 0)), (3, .ref (h0 + 143)), (4, .ref (h0 + 144)), (5, .int n)]) hx hb dL_law_1404 hl (by decide) rfl (fun ls hl => ?_)
  refine lv_aload_n hx hb dL_law_1406 rfl (lv_at hl 4 rfl) ?_
  refine lr_ip2 (v := (fX10_thrown yb2.2, yb2.2)) C hH (lr_run2 C hH w_6_67 lg_yX10_thrown lh_yX10_thrown (kX10_thrown l E (a2 h0) yb2.2) (As := []) rfl dL_law_1407 rfl hl.1 (Nat.le_of_ble_eq_true rfl) ⟨Nat.le_of_ble_eq_true rfl, Nat.le_of_ble_eq_true rfl⟩ ⟨by have := hcap.1; show cells + 1 + 1 + 0 ≤ 603072; omega, by have := hcap.2; show slots + 6 + 3 + 0 ≤ 7211114; omega⟩) (fun H locs hH => ?_)
  refine lv_iload hx hb dL_law_1410 (lv_at hl 1 rfl) ?_
  refine kb_icmp_eq (tgt := 1417) hx hb dL_law_1412 (by decide) (fun _ => ?_) (fun _ => W_none)
  refine lv_iload hx hb dL_law_1417 (lv_at hl 1 rfl) ?_
  refine kb_if_ne (tgt := 1441) hx hb dL_law_1419 (by decide) (fun _ => ?_) (fun _ => ?_)
  · refine lv_goto (tgt := 2261) hx hb dL_law_1441 (by decide) ?_
    exact W.widen (k := cells + 2) (n := slots + 9) (by show cells + 1 + 1 + 0 ≤ cells + 2; omega) (by show slots + 6 + 3 + 0 ≤ slots + 9; omega) (kk _ H locs ls hH (lv_sub hl [2, 3, 4, 5, 6, 7] rfl))
  · skip
    refine lv_aload_n hx hb dL_law_1422 rfl (lv_at hl 5 rfl) ?_
    refine lv_iconst (v := 0) hx hb dL_law_1423 (by decide) ?_
    refine l_lald C hH dL_law_1424 ?_
    refine lv_iload hx hb dL_law_1425 (lv_at hl 0 rfl) ?_
    refine l_b01L (t0 := 1434) (tJ := 1435) hx hb dL_law_1427 dL_law_1430 dL_law_1431 dL_law_1434 (by decide) (by decide) rfl ?_
    refine l_lcmp (tgt := 1441) hx hb dL_law_1435 dL_law_1436 (by decide) ?_
    refine lv_goto (tgt := 2261) hx hb dL_law_1441 (by decide) ?_
    exact W.widen (k := cells + 2) (n := slots + 9) (by show cells + 1 + 1 + 0 ≤ cells + 2; omega) (by show slots + 6 + 3 + 0 ≤ slots + 9; omega) (kk _ H locs ls hH (lv_sub hl [2, 3, 4, 5, 6, 7] rfl))
/-- case 16 -/
def gL_16 {α : Type} (xs : Nat → Int32) (i : Nat) (x : LST) (G : LST → Option α) : Option α := (fX9_layers x.1).bind fun yb1 => (fX10_layers_ x.2.1).bind fun yb2 => (if yb1.1 = yb2.1 then G (yb1.2, yb2.2, x.2.2.1, x.2.2.2) else none)
set_option maxHeartbeats 4000000 in
set_option maxRecDepth 100000 in
theorem kc_16 {p : Program} {l : Launch} (hl9 : l.stackTraces = false) {e : Env} {s : State} {m : MethodId} {args : Array Value} {below : List Frame} {meth : Method} {c : Code} {E : KE} {h0 b L : Nat} {xs : Nat → Int32} (C : LB p s m c args meth E h0) (hX : va_X b L xs s s.heap) (hbl : b < s.heap.size) {x : LST} {H : Heap} {locs : List Loc} {cells slots : Nat} (hH : LH E h0 x s H locs) {i : Nat} (hi : i + 5 ≤ L) (hL : L ≤ 2560) {n : Int32} (hn : n = nI i) {ls : Array Slot} (hl : lv_has ls 9 (lv9 b h0 n)) {α : Type} {f : α → State → Prop} {G : LST → Option α} (hcap : cells + 2 ≤ 603072 ∧ slots + 9 ≤ 7211114)
    (kk : ∀ (x : LST) (H : Heap) (locs : List Loc) (ls : Array Slot), LH E h0 x s H locs → lv_has ls 9 (lv9 b h0 n) → W p l e room_1 s m args below meth c H locs (cells + 2) (slots + 9) (Qn f (G x)) (F0 m 2261 ls [])) : W p l e room_1 s m args below meth c H locs cells slots (Qn f (gL_16 xs i x G)) (F0 m 1444 ls []) := by
  have hx := C.1.1.1
  have hb := C.1.1.2.1
  unfold gL_16

  refine lv_aload_n hx hb dL_law_1444 rfl (lv_at hl 1 rfl) ?_
  refine lr_i1 (h := fun z => z) C hH (lr_run1 C hH w_2_23 lg_yX9_layers lh_yX9_layers (kX9_layers l E (a1 h0) x.1) (As := []) rfl dL_law_1445 rfl hl.1 (Nat.le_of_ble_eq_true rfl) ⟨Nat.le_of_ble_eq_true rfl, Nat.le_of_ble_eq_true rfl⟩ ⟨by have := hcap.1; show cells + 0 ≤ 603072; omega, by have := hcap.2; show slots + 0 ≤ 7211114; omega⟩) (fun yb1 H locs hH => ?_)
  refine lv_aload_n hx hb dL_law_1448 rfl (lv_at hl 2 rfl) ?_
  refine lr_i2 (h := fun z => z) C hH (lr_run2 C hH w_7_82 lg_yX10_layers_ lh_yX10_layers_ (kX10_layers_ l E (a2 h0) x.2.1) (As := []) rfl dL_law_1449 rfl hl.1 (Nat.le_of_ble_eq_true rfl) ⟨Nat.le_of_ble_eq_true rfl, Nat.le_of_ble_eq_true rfl⟩ ⟨by have := hcap.1; show cells + 0 + 0 ≤ 603072; omega, by have := hcap.2; show slots + 0 + 0 ≤ 7211114; omega⟩) (fun yb2 H locs hH => ?_)
  refine kb_icmp_eq (tgt := 2261) hx hb dL_law_1452 (by decide) (fun _ => ?_) (fun _ => W_none)
  exact W.widen (k := cells + 2) (n := slots + 9) (by show cells + 0 + 0 ≤ cells + 2; omega) (by show slots + 0 + 0 ≤ slots + 9; omega) (kk _ H locs ls hH (lv_sub hl [0, 1, 2, 3, 4, 5] rfl))
/-- case 17 -/
def gL_17 {α : Type} (xs : Nat → Int32) (i : Nat) (x : LST) (G : LST → Option α) : Option α := (fL_rounds x.1 (xs (i + 1)) x.2.2.1).bind fun ya1 => (fX10_rounds x.2.1 (xs (i + 1))).bind fun yb2 => (if (fX10_thrown yb2.2) = ya1.1 then (if ya1.1 = 0 then (if ya1.2.2 = (Int32.toInt64 yb2.1) then G (ya1.2.1, yb2.2, ya1.2.2, x.2.2.2) else none) else G (ya1.2.1, yb2.2, ya1.2.2, x.2.2.2)) else none)
set_option maxHeartbeats 4000000 in
set_option maxRecDepth 100000 in
theorem kc_17 {p : Program} {l : Launch} (hl9 : l.stackTraces = false) {e : Env} {s : State} {m : MethodId} {args : Array Value} {below : List Frame} {meth : Method} {c : Code} {E : KE} {h0 b L : Nat} {xs : Nat → Int32} (C : LB p s m c args meth E h0) (hX : va_X b L xs s s.heap) (hbl : b < s.heap.size) {x : LST} {H : Heap} {locs : List Loc} {cells slots : Nat} (hH : LH E h0 x s H locs) {i : Nat} (hi : i + 5 ≤ L) (hL : L ≤ 2560) {n : Int32} (hn : n = nI i) {ls : Array Slot} (hl : lv_has ls 9 (lv9 b h0 n)) {α : Type} {f : α → State → Prop} {G : LST → Option α} (hcap : cells + 2 ≤ 603072 ∧ slots + 9 ≤ 7211114)
    (kk : ∀ (x : LST) (H : Heap) (locs : List Loc) (ls : Array Slot), LH E h0 x s H locs → lv_has ls 9 (lv9 b h0 n) → W p l e room_1 s m args below meth c H locs (cells + 2) (slots + 9) (Qn f (G x)) (F0 m 2261 ls [])) : W p l e room_1 s m args below meth c H locs cells slots (Qn f (gL_17 xs i x G)) (F0 m 1457 ls []) := by
  have hx := C.1.1.1
  have hb := C.1.1.2.1
  unfold gL_17
  have q1 := l_ix (xs := xs) hn (by omega : i + 1 < L) hL 1 rfl
  refine lv_aload_n hx hb dL_law_1457 rfl (lv_at hl 1 rfl) ?_
  refine lv_aload_n hx hb dL_law_1458 rfl (lv_at hl 0 rfl) ?_
  refine lv_iload hx hb dL_law_1459 (lv_at hl 5 rfl) ?_
  refine lv_iconst (v := 1) hx hb dL_law_1461 (by decide) ?_
  refine lv_iadd hx hb dL_law_1462 ?_
  refine l_sld C hH hX hbl q1 dL_law_1463 ?_
  refine lv_aload_n hx hb dL_law_1464 rfl (lv_at hl 3 rfl) ?_
  refine lr_wL C hH (kL_rounds l hl9 E (a1 h0) x.1 (xs (i + 1)) (h0 + 143) x.2.2.1) w_4_158 lw_rounds ⟨rfl, rfl⟩ rfl dL_law_1465 rfl hl.1 (Nat.le_of_ble_eq_true rfl) ⟨Nat.le_of_ble_eq_true rfl, Nat.le_of_ble_eq_true rfl⟩ ⟨by have := hcap.1; show cells + 1 ≤ 603072; omega, by have := hcap.2; show slots + 6 ≤ 7211114; omega⟩ (fun ya1 H locs hH => ?_)
  refine lv_istore (lv' := [(6, .int ya1.1), (0, .ref b), (1, .ref (a1 h0 121)), (2, .ref (a2 h0 0)), (3, .ref (h0 + 143)), (4, .ref (h0 + 144)), (5, .int n)]) hx hb dL_law_1468 hl (by decide) rfl (fun ls hl => ?_)
  refine lv_aload_n hx hb dL_law_1470 rfl (lv_at hl 3 rfl) ?_
  refine lv_aload_n hx hb dL_law_1471 rfl (lv_at hl 1 rfl) ?_
  refine lv_iload hx hb dL_law_1472 (lv_at hl 6 rfl) ?_
  refine lv_iconst (v := 1) hx hb dL_law_1474 (by decide) ?_
  refine lv_iadd hx hb dL_law_1475 ?_
  refine l_sld C hH hX hbl q1 dL_law_1476 ?_
  refine lr_i2 (h := fun z => z) C hH (lr_run2 C hH w_7_86 lg_yX10_rounds lh_yX10_rounds (kX10_rounds l E (a2 h0) x.2.1 (xs (i + 1))) (As := [.int (xs (i + 1))]) rfl dL_law_1477 rfl hl.1 (Nat.le_of_ble_eq_true rfl) ⟨Nat.le_of_ble_eq_true rfl, Nat.le_of_ble_eq_true rfl⟩ ⟨by have := hcap.1; show cells + 1 + 0 ≤ 603072; omega, by have := hcap.2; show slots + 6 + 0 ≤ 7211114; omega⟩) (fun yb2 H locs hH => ?_)
  refine lv_istore (lv' := [(7, .int yb2.1), (6, .int ya1.1), (0, .ref b), (1, .ref (a1 h0 121)), (2, .ref (a2 h0 0)), (3, .ref (h0 + 143)), (4, .ref (h0 + 144)), (5, .int n)]) hx hb dL_law_1480 hl (by decide) rfl (fun ls hl => ?_)
  refine lv_aload_n hx hb dL_law_1482 rfl (lv_at hl 4 rfl) ?_
  refine lr_ip2 (v := (fX10_thrown yb2.2, yb2.2)) C hH (lr_run2 C hH w_6_67 lg_yX10_thrown lh_yX10_thrown (kX10_thrown l E (a2 h0) yb2.2) (As := []) rfl dL_law_1483 rfl hl.1 (Nat.le_of_ble_eq_true rfl) ⟨Nat.le_of_ble_eq_true rfl, Nat.le_of_ble_eq_true rfl⟩ ⟨by have := hcap.1; show cells + 1 + 0 + 0 ≤ 603072; omega, by have := hcap.2; show slots + 6 + 0 + 0 ≤ 7211114; omega⟩) (fun H locs hH => ?_)
  refine lv_iload hx hb dL_law_1486 (lv_at hl 1 rfl) ?_
  refine kb_icmp_eq (tgt := 1493) hx hb dL_law_1488 (by decide) (fun _ => ?_) (fun _ => W_none)
  refine lv_iload hx hb dL_law_1493 (lv_at hl 1 rfl) ?_
  refine kb_if_ne (tgt := 1510) hx hb dL_law_1495 (by decide) (fun _ => ?_) (fun _ => ?_)
  · refine lv_goto (tgt := 2261) hx hb dL_law_1510 (by decide) ?_
    exact W.widen (k := cells + 2) (n := slots + 9) (by show cells + 1 + 0 + 0 ≤ cells + 2; omega) (by show slots + 6 + 0 + 0 ≤ slots + 9; omega) (kk _ H locs ls hH (lv_sub hl [2, 3, 4, 5, 6, 7] rfl))
  · skip
    refine lv_aload_n hx hb dL_law_1498 rfl (lv_at hl 5 rfl) ?_
    refine lv_iconst (v := 0) hx hb dL_law_1499 (by decide) ?_
    refine l_lald C hH dL_law_1500 ?_
    refine lv_iload hx hb dL_law_1501 (lv_at hl 0 rfl) ?_
    refine lv_i2l (v := (Int32.toInt64 yb2.1)) hx hb dL_law_1503 rfl ?_
    refine l_lcmp (tgt := 1510) hx hb dL_law_1504 dL_law_1505 (by decide) ?_
    refine lv_goto (tgt := 2261) hx hb dL_law_1510 (by decide) ?_
    exact W.widen (k := cells + 2) (n := slots + 9) (by show cells + 1 + 0 + 0 ≤ cells + 2; omega) (by show slots + 6 + 0 + 0 ≤ slots + 9; omega) (kk _ H locs ls hH (lv_sub hl [2, 3, 4, 5, 6, 7] rfl))
/-- case 18 -/
def gL_18 {α : Type} (xs : Nat → Int32) (i : Nat) (x : LST) (G : LST → Option α) : Option α := (fL_fresh x.1 (xs (i + 1)) (xs (i + 2)) x.2.2.1).bind fun ya1 => (fX10_fresh x.2.1 (xs (i + 1)) (xs (i + 2))).bind fun yb2 => (if (fX10_thrown yb2.2) = ya1.1 then (if ya1.1 = 0 then (if ya1.2.2 = (Int32.toInt64 yb2.1) then G (ya1.2.1, yb2.2, ya1.2.2, x.2.2.2) else none) else G (ya1.2.1, yb2.2, ya1.2.2, x.2.2.2)) else none)
set_option maxHeartbeats 4000000 in
set_option maxRecDepth 100000 in
theorem kc_18 {p : Program} {l : Launch} (hl9 : l.stackTraces = false) {e : Env} {s : State} {m : MethodId} {args : Array Value} {below : List Frame} {meth : Method} {c : Code} {E : KE} {h0 b L : Nat} {xs : Nat → Int32} (C : LB p s m c args meth E h0) (hX : va_X b L xs s s.heap) (hbl : b < s.heap.size) {x : LST} {H : Heap} {locs : List Loc} {cells slots : Nat} (hH : LH E h0 x s H locs) {i : Nat} (hi : i + 5 ≤ L) (hL : L ≤ 2560) {n : Int32} (hn : n = nI i) {ls : Array Slot} (hl : lv_has ls 9 (lv9 b h0 n)) {α : Type} {f : α → State → Prop} {G : LST → Option α} (hcap : cells + 2 ≤ 603072 ∧ slots + 9 ≤ 7211114)
    (kk : ∀ (x : LST) (H : Heap) (locs : List Loc) (ls : Array Slot), LH E h0 x s H locs → lv_has ls 9 (lv9 b h0 n) → W p l e room_1 s m args below meth c H locs (cells + 2) (slots + 9) (Qn f (G x)) (F0 m 2261 ls [])) : W p l e room_1 s m args below meth c H locs cells slots (Qn f (gL_18 xs i x G)) (F0 m 1513 ls []) := by
  have hx := C.1.1.1
  have hb := C.1.1.2.1
  unfold gL_18
  have q1 := l_ix (xs := xs) hn (by omega : i + 1 < L) hL 1 rfl
  have q2 := l_ix (xs := xs) hn (by omega : i + 2 < L) hL 2 rfl
  refine lv_aload_n hx hb dL_law_1513 rfl (lv_at hl 1 rfl) ?_
  refine lv_aload_n hx hb dL_law_1514 rfl (lv_at hl 0 rfl) ?_
  refine lv_iload hx hb dL_law_1515 (lv_at hl 5 rfl) ?_
  refine lv_iconst (v := 1) hx hb dL_law_1517 (by decide) ?_
  refine lv_iadd hx hb dL_law_1518 ?_
  refine l_sld C hH hX hbl q1 dL_law_1519 ?_
  refine lv_aload_n hx hb dL_law_1520 rfl (lv_at hl 0 rfl) ?_
  refine lv_iload hx hb dL_law_1521 (lv_at hl 5 rfl) ?_
  refine lv_iconst (v := 2) hx hb dL_law_1523 (by decide) ?_
  refine lv_iadd hx hb dL_law_1524 ?_
  refine l_sld C hH hX hbl q2 dL_law_1525 ?_
  refine lv_aload_n hx hb dL_law_1526 rfl (lv_at hl 3 rfl) ?_
  refine lr_wL C hH (kL_fresh l hl9 E (a1 h0) x.1 (xs (i + 1)) (xs (i + 2)) (h0 + 143) x.2.2.1) w_4_171 lw_fresh ⟨rfl, rfl⟩ rfl dL_law_1527 rfl hl.1 (Nat.le_of_ble_eq_true rfl) ⟨Nat.le_of_ble_eq_true rfl, Nat.le_of_ble_eq_true rfl⟩ ⟨by have := hcap.1; show cells + 1 ≤ 603072; omega, by have := hcap.2; show slots + 6 ≤ 7211114; omega⟩ (fun ya1 H locs hH => ?_)
  refine lv_istore (lv' := [(6, .int ya1.1), (0, .ref b), (1, .ref (a1 h0 121)), (2, .ref (a2 h0 0)), (3, .ref (h0 + 143)), (4, .ref (h0 + 144)), (5, .int n)]) hx hb dL_law_1530 hl (by decide) rfl (fun ls hl => ?_)
  refine lv_aload_n hx hb dL_law_1532 rfl (lv_at hl 3 rfl) ?_
  refine lv_aload_n hx hb dL_law_1533 rfl (lv_at hl 1 rfl) ?_
  refine lv_iload hx hb dL_law_1534 (lv_at hl 6 rfl) ?_
  refine lv_iconst (v := 1) hx hb dL_law_1536 (by decide) ?_
  refine lv_iadd hx hb dL_law_1537 ?_
  refine l_sld C hH hX hbl q1 dL_law_1538 ?_
  refine lv_aload_n hx hb dL_law_1539 rfl (lv_at hl 1 rfl) ?_
  refine lv_iload hx hb dL_law_1540 (lv_at hl 6 rfl) ?_
  refine lv_iconst (v := 2) hx hb dL_law_1542 (by decide) ?_
  refine lv_iadd hx hb dL_law_1543 ?_
  refine l_sld C hH hX hbl q2 dL_law_1544 ?_
  refine lr_i2 (h := fun z => z) C hH (lr_run2 C hH w_7_90 lg_yX10_fresh lh_yX10_fresh (kX10_fresh l E (a2 h0) x.2.1 (xs (i + 1)) (xs (i + 2))) (As := [.int (xs (i + 1)), .int (xs (i + 2))]) rfl dL_law_1545 rfl hl.1 (Nat.le_of_ble_eq_true rfl) ⟨Nat.le_of_ble_eq_true rfl, Nat.le_of_ble_eq_true rfl⟩ ⟨by have := hcap.1; show cells + 1 + 0 ≤ 603072; omega, by have := hcap.2; show slots + 6 + 0 ≤ 7211114; omega⟩) (fun yb2 H locs hH => ?_)
  refine lv_istore (lv' := [(7, .int yb2.1), (6, .int ya1.1), (0, .ref b), (1, .ref (a1 h0 121)), (2, .ref (a2 h0 0)), (3, .ref (h0 + 143)), (4, .ref (h0 + 144)), (5, .int n)]) hx hb dL_law_1548 hl (by decide) rfl (fun ls hl => ?_)
  refine lv_aload_n hx hb dL_law_1550 rfl (lv_at hl 4 rfl) ?_
  refine lr_ip2 (v := (fX10_thrown yb2.2, yb2.2)) C hH (lr_run2 C hH w_6_67 lg_yX10_thrown lh_yX10_thrown (kX10_thrown l E (a2 h0) yb2.2) (As := []) rfl dL_law_1551 rfl hl.1 (Nat.le_of_ble_eq_true rfl) ⟨Nat.le_of_ble_eq_true rfl, Nat.le_of_ble_eq_true rfl⟩ ⟨by have := hcap.1; show cells + 1 + 0 + 0 ≤ 603072; omega, by have := hcap.2; show slots + 6 + 0 + 0 ≤ 7211114; omega⟩) (fun H locs hH => ?_)
  refine lv_iload hx hb dL_law_1554 (lv_at hl 1 rfl) ?_
  refine kb_icmp_eq (tgt := 1561) hx hb dL_law_1556 (by decide) (fun _ => ?_) (fun _ => W_none)
  refine lv_iload hx hb dL_law_1561 (lv_at hl 1 rfl) ?_
  refine kb_if_ne (tgt := 1578) hx hb dL_law_1563 (by decide) (fun _ => ?_) (fun _ => ?_)
  · refine lv_goto (tgt := 2261) hx hb dL_law_1578 (by decide) ?_
    exact W.widen (k := cells + 2) (n := slots + 9) (by show cells + 1 + 0 + 0 ≤ cells + 2; omega) (by show slots + 6 + 0 + 0 ≤ slots + 9; omega) (kk _ H locs ls hH (lv_sub hl [2, 3, 4, 5, 6, 7] rfl))
  · skip
    refine lv_aload_n hx hb dL_law_1566 rfl (lv_at hl 5 rfl) ?_
    refine lv_iconst (v := 0) hx hb dL_law_1567 (by decide) ?_
    refine l_lald C hH dL_law_1568 ?_
    refine lv_iload hx hb dL_law_1569 (lv_at hl 0 rfl) ?_
    refine lv_i2l (v := (Int32.toInt64 yb2.1)) hx hb dL_law_1571 rfl ?_
    refine l_lcmp (tgt := 1578) hx hb dL_law_1572 dL_law_1573 (by decide) ?_
    refine lv_goto (tgt := 2261) hx hb dL_law_1578 (by decide) ?_
    exact W.widen (k := cells + 2) (n := slots + 9) (by show cells + 1 + 0 + 0 ≤ cells + 2; omega) (by show slots + 6 + 0 + 0 ≤ slots + 9; omega) (kk _ H locs ls hH (lv_sub hl [2, 3, 4, 5, 6, 7] rfl))
/-- case 19 -/
def gL_19 {α : Type} (xs : Nat → Int32) (i : Nat) (x : LST) (G : LST → Option α) : Option α := (fL_line x.1 (xs (i + 1)) (xs (i + 2)) (xs (i + 3)) x.2.2.1).bind fun ya1 => (fX10_line x.2.1 (xs (i + 1)) (xs (i + 2)) (xs (i + 3))).bind fun yb2 => (if (fX10_thrown yb2.2) = ya1.1 then (if ya1.1 = 0 then (if ya1.2.2 = (Int32.toInt64 yb2.1) then G (ya1.2.1, yb2.2, ya1.2.2, x.2.2.2) else none) else G (ya1.2.1, yb2.2, ya1.2.2, x.2.2.2)) else none)
set_option maxHeartbeats 4000000 in
set_option maxRecDepth 100000 in
theorem kc_19 {p : Program} {l : Launch} (hl9 : l.stackTraces = false) {e : Env} {s : State} {m : MethodId} {args : Array Value} {below : List Frame} {meth : Method} {c : Code} {E : KE} {h0 b L : Nat} {xs : Nat → Int32} (C : LB p s m c args meth E h0) (hX : va_X b L xs s s.heap) (hbl : b < s.heap.size) {x : LST} {H : Heap} {locs : List Loc} {cells slots : Nat} (hH : LH E h0 x s H locs) {i : Nat} (hi : i + 5 ≤ L) (hL : L ≤ 2560) {n : Int32} (hn : n = nI i) {ls : Array Slot} (hl : lv_has ls 9 (lv9 b h0 n)) {α : Type} {f : α → State → Prop} {G : LST → Option α} (hcap : cells + 2 ≤ 603072 ∧ slots + 9 ≤ 7211114)
    (kk : ∀ (x : LST) (H : Heap) (locs : List Loc) (ls : Array Slot), LH E h0 x s H locs → lv_has ls 9 (lv9 b h0 n) → W p l e room_1 s m args below meth c H locs (cells + 2) (slots + 9) (Qn f (G x)) (F0 m 2261 ls [])) : W p l e room_1 s m args below meth c H locs cells slots (Qn f (gL_19 xs i x G)) (F0 m 1581 ls []) := by
  have hx := C.1.1.1
  have hb := C.1.1.2.1
  unfold gL_19
  have q1 := l_ix (xs := xs) hn (by omega : i + 1 < L) hL 1 rfl
  have q2 := l_ix (xs := xs) hn (by omega : i + 2 < L) hL 2 rfl
  have q3 := l_ix (xs := xs) hn (by omega : i + 3 < L) hL 3 rfl
  refine lv_aload_n hx hb dL_law_1581 rfl (lv_at hl 1 rfl) ?_
  refine lv_aload_n hx hb dL_law_1582 rfl (lv_at hl 0 rfl) ?_
  refine lv_iload hx hb dL_law_1583 (lv_at hl 5 rfl) ?_
  refine lv_iconst (v := 1) hx hb dL_law_1585 (by decide) ?_
  refine lv_iadd hx hb dL_law_1586 ?_
  refine l_sld C hH hX hbl q1 dL_law_1587 ?_
  refine lv_aload_n hx hb dL_law_1588 rfl (lv_at hl 0 rfl) ?_
  refine lv_iload hx hb dL_law_1589 (lv_at hl 5 rfl) ?_
  refine lv_iconst (v := 2) hx hb dL_law_1591 (by decide) ?_
  refine lv_iadd hx hb dL_law_1592 ?_
  refine l_sld C hH hX hbl q2 dL_law_1593 ?_
  refine lv_aload_n hx hb dL_law_1594 rfl (lv_at hl 0 rfl) ?_
  refine lv_iload hx hb dL_law_1595 (lv_at hl 5 rfl) ?_
  refine lv_iconst (v := 3) hx hb dL_law_1597 (by decide) ?_
  refine lv_iadd hx hb dL_law_1598 ?_
  refine l_sld C hH hX hbl q3 dL_law_1599 ?_
  refine lv_aload_n hx hb dL_law_1600 rfl (lv_at hl 3 rfl) ?_
  refine lr_wL C hH (kL_line l hl9 E (a1 h0) x.1 (xs (i + 1)) (xs (i + 2)) (xs (i + 3)) (h0 + 143) x.2.2.1) w_4_183 lw_line ⟨rfl, rfl⟩ rfl dL_law_1601 rfl hl.1 (Nat.le_of_ble_eq_true rfl) ⟨Nat.le_of_ble_eq_true rfl, Nat.le_of_ble_eq_true rfl⟩ ⟨by have := hcap.1; show cells + 1 ≤ 603072; omega, by have := hcap.2; show slots + 6 ≤ 7211114; omega⟩ (fun ya1 H locs hH => ?_)
  refine lv_istore (lv' := [(6, .int ya1.1), (0, .ref b), (1, .ref (a1 h0 121)), (2, .ref (a2 h0 0)), (3, .ref (h0 + 143)), (4, .ref (h0 + 144)), (5, .int n)]) hx hb dL_law_1604 hl (by decide) rfl (fun ls hl => ?_)
  refine lv_aload_n hx hb dL_law_1606 rfl (lv_at hl 3 rfl) ?_
  refine lv_aload_n hx hb dL_law_1607 rfl (lv_at hl 1 rfl) ?_
  refine lv_iload hx hb dL_law_1608 (lv_at hl 6 rfl) ?_
  refine lv_iconst (v := 1) hx hb dL_law_1610 (by decide) ?_
  refine lv_iadd hx hb dL_law_1611 ?_
  refine l_sld C hH hX hbl q1 dL_law_1612 ?_
  refine lv_aload_n hx hb dL_law_1613 rfl (lv_at hl 1 rfl) ?_
  refine lv_iload hx hb dL_law_1614 (lv_at hl 6 rfl) ?_
  refine lv_iconst (v := 2) hx hb dL_law_1616 (by decide) ?_
  refine lv_iadd hx hb dL_law_1617 ?_
  refine l_sld C hH hX hbl q2 dL_law_1618 ?_
  refine lv_aload_n hx hb dL_law_1619 rfl (lv_at hl 1 rfl) ?_
  refine lv_iload hx hb dL_law_1620 (lv_at hl 6 rfl) ?_
  refine lv_iconst (v := 3) hx hb dL_law_1622 (by decide) ?_
  refine lv_iadd hx hb dL_law_1623 ?_
  refine l_sld C hH hX hbl q3 dL_law_1624 ?_
  refine lr_i2 (h := fun z => z) C hH (lr_run2 C hH w_7_95 lg_yX10_line lh_yX10_line (kX10_line l E (a2 h0) x.2.1 (xs (i + 1)) (xs (i + 2)) (xs (i + 3))) (As := [.int (xs (i + 1)), .int (xs (i + 2)), .int (xs (i + 3))]) rfl dL_law_1625 rfl hl.1 (Nat.le_of_ble_eq_true rfl) ⟨Nat.le_of_ble_eq_true rfl, Nat.le_of_ble_eq_true rfl⟩ ⟨by have := hcap.1; show cells + 1 + 0 ≤ 603072; omega, by have := hcap.2; show slots + 6 + 0 ≤ 7211114; omega⟩) (fun yb2 H locs hH => ?_)
  refine lv_istore (lv' := [(7, .int yb2.1), (6, .int ya1.1), (0, .ref b), (1, .ref (a1 h0 121)), (2, .ref (a2 h0 0)), (3, .ref (h0 + 143)), (4, .ref (h0 + 144)), (5, .int n)]) hx hb dL_law_1628 hl (by decide) rfl (fun ls hl => ?_)
  refine lv_aload_n hx hb dL_law_1630 rfl (lv_at hl 4 rfl) ?_
  refine lr_ip2 (v := (fX10_thrown yb2.2, yb2.2)) C hH (lr_run2 C hH w_6_67 lg_yX10_thrown lh_yX10_thrown (kX10_thrown l E (a2 h0) yb2.2) (As := []) rfl dL_law_1631 rfl hl.1 (Nat.le_of_ble_eq_true rfl) ⟨Nat.le_of_ble_eq_true rfl, Nat.le_of_ble_eq_true rfl⟩ ⟨by have := hcap.1; show cells + 1 + 0 + 0 ≤ 603072; omega, by have := hcap.2; show slots + 6 + 0 + 0 ≤ 7211114; omega⟩) (fun H locs hH => ?_)
  refine lv_iload hx hb dL_law_1634 (lv_at hl 1 rfl) ?_
  refine kb_icmp_eq (tgt := 1641) hx hb dL_law_1636 (by decide) (fun _ => ?_) (fun _ => W_none)
  refine lv_iload hx hb dL_law_1641 (lv_at hl 1 rfl) ?_
  refine kb_if_ne (tgt := 1658) hx hb dL_law_1643 (by decide) (fun _ => ?_) (fun _ => ?_)
  · refine lv_goto (tgt := 2261) hx hb dL_law_1658 (by decide) ?_
    exact W.widen (k := cells + 2) (n := slots + 9) (by show cells + 1 + 0 + 0 ≤ cells + 2; omega) (by show slots + 6 + 0 + 0 ≤ slots + 9; omega) (kk _ H locs ls hH (lv_sub hl [2, 3, 4, 5, 6, 7] rfl))
  · skip
    refine lv_aload_n hx hb dL_law_1646 rfl (lv_at hl 5 rfl) ?_
    refine lv_iconst (v := 0) hx hb dL_law_1647 (by decide) ?_
    refine l_lald C hH dL_law_1648 ?_
    refine lv_iload hx hb dL_law_1649 (lv_at hl 0 rfl) ?_
    refine lv_i2l (v := (Int32.toInt64 yb2.1)) hx hb dL_law_1651 rfl ?_
    refine l_lcmp (tgt := 1658) hx hb dL_law_1652 dL_law_1653 (by decide) ?_
    refine lv_goto (tgt := 2261) hx hb dL_law_1658 (by decide) ?_
    exact W.widen (k := cells + 2) (n := slots + 9) (by show cells + 1 + 0 + 0 ≤ cells + 2; omega) (by show slots + 6 + 0 + 0 ≤ slots + 9; omega) (kk _ H locs ls hH (lv_sub hl [2, 3, 4, 5, 6, 7] rfl))
/-- case 20 -/
def gL_20 {α : Type} (xs : Nat → Int32) (i : Nat) (x : LST) (G : LST → Option α) : Option α := (fL_ruleLine x.1 (xs (i + 1)) x.2.2.1).bind fun ya1 => (fX10_ruleLine x.2.1 (xs (i + 1))).bind fun yb2 => (if (fX10_thrown yb2.2) = ya1.1 then (if ya1.1 = 0 then (if ya1.2.2 = (Int32.toInt64 yb2.1) then G (ya1.2.1, yb2.2, ya1.2.2, x.2.2.2) else none) else G (ya1.2.1, yb2.2, ya1.2.2, x.2.2.2)) else none)
set_option maxHeartbeats 4000000 in
set_option maxRecDepth 100000 in
theorem kc_20 {p : Program} {l : Launch} (hl9 : l.stackTraces = false) {e : Env} {s : State} {m : MethodId} {args : Array Value} {below : List Frame} {meth : Method} {c : Code} {E : KE} {h0 b L : Nat} {xs : Nat → Int32} (C : LB p s m c args meth E h0) (hX : va_X b L xs s s.heap) (hbl : b < s.heap.size) {x : LST} {H : Heap} {locs : List Loc} {cells slots : Nat} (hH : LH E h0 x s H locs) {i : Nat} (hi : i + 5 ≤ L) (hL : L ≤ 2560) {n : Int32} (hn : n = nI i) {ls : Array Slot} (hl : lv_has ls 9 (lv9 b h0 n)) {α : Type} {f : α → State → Prop} {G : LST → Option α} (hcap : cells + 2 ≤ 603072 ∧ slots + 9 ≤ 7211114)
    (kk : ∀ (x : LST) (H : Heap) (locs : List Loc) (ls : Array Slot), LH E h0 x s H locs → lv_has ls 9 (lv9 b h0 n) → W p l e room_1 s m args below meth c H locs (cells + 2) (slots + 9) (Qn f (G x)) (F0 m 2261 ls [])) : W p l e room_1 s m args below meth c H locs cells slots (Qn f (gL_20 xs i x G)) (F0 m 1661 ls []) := by
  have hx := C.1.1.1
  have hb := C.1.1.2.1
  unfold gL_20
  have q1 := l_ix (xs := xs) hn (by omega : i + 1 < L) hL 1 rfl
  refine lv_aload_n hx hb dL_law_1661 rfl (lv_at hl 1 rfl) ?_
  refine lv_aload_n hx hb dL_law_1662 rfl (lv_at hl 0 rfl) ?_
  refine lv_iload hx hb dL_law_1663 (lv_at hl 5 rfl) ?_
  refine lv_iconst (v := 1) hx hb dL_law_1665 (by decide) ?_
  refine lv_iadd hx hb dL_law_1666 ?_
  refine l_sld C hH hX hbl q1 dL_law_1667 ?_
  refine lv_aload_n hx hb dL_law_1668 rfl (lv_at hl 3 rfl) ?_
  refine lr_wL C hH (kL_ruleLine l hl9 E (a1 h0) x.1 (xs (i + 1)) (h0 + 143) x.2.2.1) w_4_217 lw_ruleLine ⟨rfl, rfl⟩ rfl dL_law_1669 rfl hl.1 (Nat.le_of_ble_eq_true rfl) ⟨Nat.le_of_ble_eq_true rfl, Nat.le_of_ble_eq_true rfl⟩ ⟨by have := hcap.1; show cells + 1 ≤ 603072; omega, by have := hcap.2; show slots + 6 ≤ 7211114; omega⟩ (fun ya1 H locs hH => ?_)
  refine lv_istore (lv' := [(6, .int ya1.1), (0, .ref b), (1, .ref (a1 h0 121)), (2, .ref (a2 h0 0)), (3, .ref (h0 + 143)), (4, .ref (h0 + 144)), (5, .int n)]) hx hb dL_law_1672 hl (by decide) rfl (fun ls hl => ?_)
  refine lv_aload_n hx hb dL_law_1674 rfl (lv_at hl 3 rfl) ?_
  refine lv_aload_n hx hb dL_law_1675 rfl (lv_at hl 1 rfl) ?_
  refine lv_iload hx hb dL_law_1676 (lv_at hl 6 rfl) ?_
  refine lv_iconst (v := 1) hx hb dL_law_1678 (by decide) ?_
  refine lv_iadd hx hb dL_law_1679 ?_
  refine l_sld C hH hX hbl q1 dL_law_1680 ?_
  refine lr_i2 (h := fun z => z) C hH (lr_run2 C hH w_7_107 lg_yX10_ruleLine lh_yX10_ruleLine (kX10_ruleLine l E (a2 h0) x.2.1 (xs (i + 1))) (As := [.int (xs (i + 1))]) rfl dL_law_1681 rfl hl.1 (Nat.le_of_ble_eq_true rfl) ⟨Nat.le_of_ble_eq_true rfl, Nat.le_of_ble_eq_true rfl⟩ ⟨by have := hcap.1; show cells + 1 + 0 ≤ 603072; omega, by have := hcap.2; show slots + 6 + 0 ≤ 7211114; omega⟩) (fun yb2 H locs hH => ?_)
  refine lv_istore (lv' := [(7, .int yb2.1), (6, .int ya1.1), (0, .ref b), (1, .ref (a1 h0 121)), (2, .ref (a2 h0 0)), (3, .ref (h0 + 143)), (4, .ref (h0 + 144)), (5, .int n)]) hx hb dL_law_1684 hl (by decide) rfl (fun ls hl => ?_)
  refine lv_aload_n hx hb dL_law_1686 rfl (lv_at hl 4 rfl) ?_
  refine lr_ip2 (v := (fX10_thrown yb2.2, yb2.2)) C hH (lr_run2 C hH w_6_67 lg_yX10_thrown lh_yX10_thrown (kX10_thrown l E (a2 h0) yb2.2) (As := []) rfl dL_law_1687 rfl hl.1 (Nat.le_of_ble_eq_true rfl) ⟨Nat.le_of_ble_eq_true rfl, Nat.le_of_ble_eq_true rfl⟩ ⟨by have := hcap.1; show cells + 1 + 0 + 0 ≤ 603072; omega, by have := hcap.2; show slots + 6 + 0 + 0 ≤ 7211114; omega⟩) (fun H locs hH => ?_)
  refine lv_iload hx hb dL_law_1690 (lv_at hl 1 rfl) ?_
  refine kb_icmp_eq (tgt := 1697) hx hb dL_law_1692 (by decide) (fun _ => ?_) (fun _ => W_none)
  refine lv_iload hx hb dL_law_1697 (lv_at hl 1 rfl) ?_
  refine kb_if_ne (tgt := 1714) hx hb dL_law_1699 (by decide) (fun _ => ?_) (fun _ => ?_)
  · refine lv_goto (tgt := 2261) hx hb dL_law_1714 (by decide) ?_
    exact W.widen (k := cells + 2) (n := slots + 9) (by show cells + 1 + 0 + 0 ≤ cells + 2; omega) (by show slots + 6 + 0 + 0 ≤ slots + 9; omega) (kk _ H locs ls hH (lv_sub hl [2, 3, 4, 5, 6, 7] rfl))
  · skip
    refine lv_aload_n hx hb dL_law_1702 rfl (lv_at hl 5 rfl) ?_
    refine lv_iconst (v := 0) hx hb dL_law_1703 (by decide) ?_
    refine l_lald C hH dL_law_1704 ?_
    refine lv_iload hx hb dL_law_1705 (lv_at hl 0 rfl) ?_
    refine lv_i2l (v := (Int32.toInt64 yb2.1)) hx hb dL_law_1707 rfl ?_
    refine l_lcmp (tgt := 1714) hx hb dL_law_1708 dL_law_1709 (by decide) ?_
    refine lv_goto (tgt := 2261) hx hb dL_law_1714 (by decide) ?_
    exact W.widen (k := cells + 2) (n := slots + 9) (by show cells + 1 + 0 + 0 ≤ cells + 2; omega) (by show slots + 6 + 0 + 0 ≤ slots + 9; omega) (kk _ H locs ls hH (lv_sub hl [2, 3, 4, 5, 6, 7] rfl))
/-- case 21 -/
def gL_21 {α : Type} (xs : Nat → Int32) (i : Nat) (x : LST) (G : LST → Option α) : Option α := (fL_character x.1 (xs (i + 1)) x.2.2.1).bind fun ya1 => (fX10_character x.2.1 (xs (i + 1))).bind fun yb2 => (if (fX10_thrown yb2.2) = ya1.1 then (if ya1.1 = 0 then (if ya1.2.2 = (Int32.toInt64 yb2.1) then G (ya1.2.1, yb2.2, ya1.2.2, x.2.2.2) else none) else G (ya1.2.1, yb2.2, ya1.2.2, x.2.2.2)) else none)
set_option maxHeartbeats 4000000 in
set_option maxRecDepth 100000 in
theorem kc_21 {p : Program} {l : Launch} (hl9 : l.stackTraces = false) {e : Env} {s : State} {m : MethodId} {args : Array Value} {below : List Frame} {meth : Method} {c : Code} {E : KE} {h0 b L : Nat} {xs : Nat → Int32} (C : LB p s m c args meth E h0) (hX : va_X b L xs s s.heap) (hbl : b < s.heap.size) {x : LST} {H : Heap} {locs : List Loc} {cells slots : Nat} (hH : LH E h0 x s H locs) {i : Nat} (hi : i + 5 ≤ L) (hL : L ≤ 2560) {n : Int32} (hn : n = nI i) {ls : Array Slot} (hl : lv_has ls 9 (lv9 b h0 n)) {α : Type} {f : α → State → Prop} {G : LST → Option α} (hcap : cells + 2 ≤ 603072 ∧ slots + 9 ≤ 7211114)
    (kk : ∀ (x : LST) (H : Heap) (locs : List Loc) (ls : Array Slot), LH E h0 x s H locs → lv_has ls 9 (lv9 b h0 n) → W p l e room_1 s m args below meth c H locs (cells + 2) (slots + 9) (Qn f (G x)) (F0 m 2261 ls [])) : W p l e room_1 s m args below meth c H locs cells slots (Qn f (gL_21 xs i x G)) (F0 m 1717 ls []) := by
  have hx := C.1.1.1
  have hb := C.1.1.2.1
  unfold gL_21
  have q1 := l_ix (xs := xs) hn (by omega : i + 1 < L) hL 1 rfl
  refine lv_aload_n hx hb dL_law_1717 rfl (lv_at hl 1 rfl) ?_
  refine lv_aload_n hx hb dL_law_1718 rfl (lv_at hl 0 rfl) ?_
  refine lv_iload hx hb dL_law_1719 (lv_at hl 5 rfl) ?_
  refine lv_iconst (v := 1) hx hb dL_law_1721 (by decide) ?_
  refine lv_iadd hx hb dL_law_1722 ?_
  refine l_sld C hH hX hbl q1 dL_law_1723 ?_
  refine lv_aload_n hx hb dL_law_1724 rfl (lv_at hl 3 rfl) ?_
  refine lr_wL C hH (kL_character l hl9 E (a1 h0) x.1 (xs (i + 1)) (h0 + 143) x.2.2.1) w_4_231 lw_character ⟨rfl, rfl⟩ rfl dL_law_1725 rfl hl.1 (Nat.le_of_ble_eq_true rfl) ⟨Nat.le_of_ble_eq_true rfl, Nat.le_of_ble_eq_true rfl⟩ ⟨by have := hcap.1; show cells + 1 ≤ 603072; omega, by have := hcap.2; show slots + 6 ≤ 7211114; omega⟩ (fun ya1 H locs hH => ?_)
  refine lv_istore (lv' := [(6, .int ya1.1), (0, .ref b), (1, .ref (a1 h0 121)), (2, .ref (a2 h0 0)), (3, .ref (h0 + 143)), (4, .ref (h0 + 144)), (5, .int n)]) hx hb dL_law_1728 hl (by decide) rfl (fun ls hl => ?_)
  refine lv_aload_n hx hb dL_law_1730 rfl (lv_at hl 3 rfl) ?_
  refine lv_aload_n hx hb dL_law_1731 rfl (lv_at hl 1 rfl) ?_
  refine lv_iload hx hb dL_law_1732 (lv_at hl 6 rfl) ?_
  refine lv_iconst (v := 1) hx hb dL_law_1734 (by decide) ?_
  refine lv_iadd hx hb dL_law_1735 ?_
  refine l_sld C hH hX hbl q1 dL_law_1736 ?_
  refine lr_i2 (h := fun z => z) C hH (lr_run2 C hH w_7_111 lg_yX10_character lh_yX10_character (kX10_character l E (a2 h0) x.2.1 (xs (i + 1))) (As := [.int (xs (i + 1))]) rfl dL_law_1737 rfl hl.1 (Nat.le_of_ble_eq_true rfl) ⟨Nat.le_of_ble_eq_true rfl, Nat.le_of_ble_eq_true rfl⟩ ⟨by have := hcap.1; show cells + 1 + 0 ≤ 603072; omega, by have := hcap.2; show slots + 6 + 0 ≤ 7211114; omega⟩) (fun yb2 H locs hH => ?_)
  refine lv_istore (lv' := [(7, .int yb2.1), (6, .int ya1.1), (0, .ref b), (1, .ref (a1 h0 121)), (2, .ref (a2 h0 0)), (3, .ref (h0 + 143)), (4, .ref (h0 + 144)), (5, .int n)]) hx hb dL_law_1740 hl (by decide) rfl (fun ls hl => ?_)
  refine lv_aload_n hx hb dL_law_1742 rfl (lv_at hl 4 rfl) ?_
  refine lr_ip2 (v := (fX10_thrown yb2.2, yb2.2)) C hH (lr_run2 C hH w_6_67 lg_yX10_thrown lh_yX10_thrown (kX10_thrown l E (a2 h0) yb2.2) (As := []) rfl dL_law_1743 rfl hl.1 (Nat.le_of_ble_eq_true rfl) ⟨Nat.le_of_ble_eq_true rfl, Nat.le_of_ble_eq_true rfl⟩ ⟨by have := hcap.1; show cells + 1 + 0 + 0 ≤ 603072; omega, by have := hcap.2; show slots + 6 + 0 + 0 ≤ 7211114; omega⟩) (fun H locs hH => ?_)
  refine lv_iload hx hb dL_law_1746 (lv_at hl 1 rfl) ?_
  refine kb_icmp_eq (tgt := 1753) hx hb dL_law_1748 (by decide) (fun _ => ?_) (fun _ => W_none)
  refine lv_iload hx hb dL_law_1753 (lv_at hl 1 rfl) ?_
  refine kb_if_ne (tgt := 1770) hx hb dL_law_1755 (by decide) (fun _ => ?_) (fun _ => ?_)
  · refine lv_goto (tgt := 2261) hx hb dL_law_1770 (by decide) ?_
    exact W.widen (k := cells + 2) (n := slots + 9) (by show cells + 1 + 0 + 0 ≤ cells + 2; omega) (by show slots + 6 + 0 + 0 ≤ slots + 9; omega) (kk _ H locs ls hH (lv_sub hl [2, 3, 4, 5, 6, 7] rfl))
  · skip
    refine lv_aload_n hx hb dL_law_1758 rfl (lv_at hl 5 rfl) ?_
    refine lv_iconst (v := 0) hx hb dL_law_1759 (by decide) ?_
    refine l_lald C hH dL_law_1760 ?_
    refine lv_iload hx hb dL_law_1761 (lv_at hl 0 rfl) ?_
    refine lv_i2l (v := (Int32.toInt64 yb2.1)) hx hb dL_law_1763 rfl ?_
    refine l_lcmp (tgt := 1770) hx hb dL_law_1764 dL_law_1765 (by decide) ?_
    refine lv_goto (tgt := 2261) hx hb dL_law_1770 (by decide) ?_
    exact W.widen (k := cells + 2) (n := slots + 9) (by show cells + 1 + 0 + 0 ≤ cells + 2; omega) (by show slots + 6 + 0 + 0 ≤ slots + 9; omega) (kk _ H locs ls hH (lv_sub hl [2, 3, 4, 5, 6, 7] rfl))
/-- case 22 -/
def gL_22 {α : Type} (xs : Nat → Int32) (i : Nat) (x : LST) (G : LST → Option α) : Option α := (fL_append x.1 (ji2c (xs (i + 1))) x.2.2.1).bind fun ya1 => (fX10_append x.2.1 (ji2c (xs (i + 1)))).bind fun yb2 => (if (fX10_thrown yb2.2) = ya1.1 then (if ya1.1 = 0 then (if ya1.2.2 = (Int32.toInt64 yb2.1) then G (ya1.2.1, yb2.2, ya1.2.2, x.2.2.2) else none) else G (ya1.2.1, yb2.2, ya1.2.2, x.2.2.2)) else none)
set_option maxHeartbeats 4000000 in
set_option maxRecDepth 100000 in
theorem kc_22 {p : Program} {l : Launch} (hl9 : l.stackTraces = false) {e : Env} {s : State} {m : MethodId} {args : Array Value} {below : List Frame} {meth : Method} {c : Code} {E : KE} {h0 b L : Nat} {xs : Nat → Int32} (C : LB p s m c args meth E h0) (hX : va_X b L xs s s.heap) (hbl : b < s.heap.size) {x : LST} {H : Heap} {locs : List Loc} {cells slots : Nat} (hH : LH E h0 x s H locs) {i : Nat} (hi : i + 5 ≤ L) (hL : L ≤ 2560) {n : Int32} (hn : n = nI i) {ls : Array Slot} (hl : lv_has ls 9 (lv9 b h0 n)) {α : Type} {f : α → State → Prop} {G : LST → Option α} (hcap : cells + 2 ≤ 603072 ∧ slots + 9 ≤ 7211114)
    (kk : ∀ (x : LST) (H : Heap) (locs : List Loc) (ls : Array Slot), LH E h0 x s H locs → lv_has ls 9 (lv9 b h0 n) → W p l e room_1 s m args below meth c H locs (cells + 2) (slots + 9) (Qn f (G x)) (F0 m 2261 ls [])) : W p l e room_1 s m args below meth c H locs cells slots (Qn f (gL_22 xs i x G)) (F0 m 1773 ls []) := by
  have hx := C.1.1.1
  have hb := C.1.1.2.1
  unfold gL_22
  have q1 := l_ix (xs := xs) hn (by omega : i + 1 < L) hL 1 rfl
  refine lv_aload_n hx hb dL_law_1773 rfl (lv_at hl 1 rfl) ?_
  refine lv_aload_n hx hb dL_law_1774 rfl (lv_at hl 0 rfl) ?_
  refine lv_iload hx hb dL_law_1775 (lv_at hl 5 rfl) ?_
  refine lv_iconst (v := 1) hx hb dL_law_1777 (by decide) ?_
  refine lv_iadd hx hb dL_law_1778 ?_
  refine l_sld C hH hX hbl q1 dL_law_1779 ?_
  refine lv_i2c (v := (ji2c (xs (i + 1)))) hx hb dL_law_1780 rfl ?_
  refine lv_aload_n hx hb dL_law_1781 rfl (lv_at hl 3 rfl) ?_
  refine lr_wL C hH (kL_append l hl9 E (a1 h0) x.1 (ji2c (xs (i + 1))) (h0 + 143) x.2.2.1) w_4_239 lw_append ⟨rfl, rfl⟩ rfl dL_law_1782 rfl hl.1 (Nat.le_of_ble_eq_true rfl) ⟨Nat.le_of_ble_eq_true rfl, Nat.le_of_ble_eq_true rfl⟩ ⟨by have := hcap.1; show cells + 1 ≤ 603072; omega, by have := hcap.2; show slots + 6 ≤ 7211114; omega⟩ (fun ya1 H locs hH => ?_)
  refine lv_istore (lv' := [(6, .int ya1.1), (0, .ref b), (1, .ref (a1 h0 121)), (2, .ref (a2 h0 0)), (3, .ref (h0 + 143)), (4, .ref (h0 + 144)), (5, .int n)]) hx hb dL_law_1785 hl (by decide) rfl (fun ls hl => ?_)
  refine lv_aload_n hx hb dL_law_1787 rfl (lv_at hl 3 rfl) ?_
  refine lv_aload_n hx hb dL_law_1788 rfl (lv_at hl 1 rfl) ?_
  refine lv_iload hx hb dL_law_1789 (lv_at hl 6 rfl) ?_
  refine lv_iconst (v := 1) hx hb dL_law_1791 (by decide) ?_
  refine lv_iadd hx hb dL_law_1792 ?_
  refine l_sld C hH hX hbl q1 dL_law_1793 ?_
  refine lv_i2c (v := (ji2c (xs (i + 1)))) hx hb dL_law_1794 rfl ?_
  refine lr_i2 (h := fun z => z) C hH (lr_run2 C hH w_7_115 lg_yX10_append lh_yX10_append (kX10_append l E (a2 h0) x.2.1 (ji2c (xs (i + 1)))) (As := [.int (ji2c (xs (i + 1)))]) rfl dL_law_1795 rfl hl.1 (Nat.le_of_ble_eq_true rfl) ⟨Nat.le_of_ble_eq_true rfl, Nat.le_of_ble_eq_true rfl⟩ ⟨by have := hcap.1; show cells + 1 + 0 ≤ 603072; omega, by have := hcap.2; show slots + 6 + 0 ≤ 7211114; omega⟩) (fun yb2 H locs hH => ?_)
  refine lv_istore (lv' := [(7, .int yb2.1), (6, .int ya1.1), (0, .ref b), (1, .ref (a1 h0 121)), (2, .ref (a2 h0 0)), (3, .ref (h0 + 143)), (4, .ref (h0 + 144)), (5, .int n)]) hx hb dL_law_1798 hl (by decide) rfl (fun ls hl => ?_)
  refine lv_aload_n hx hb dL_law_1800 rfl (lv_at hl 4 rfl) ?_
  refine lr_ip2 (v := (fX10_thrown yb2.2, yb2.2)) C hH (lr_run2 C hH w_6_67 lg_yX10_thrown lh_yX10_thrown (kX10_thrown l E (a2 h0) yb2.2) (As := []) rfl dL_law_1801 rfl hl.1 (Nat.le_of_ble_eq_true rfl) ⟨Nat.le_of_ble_eq_true rfl, Nat.le_of_ble_eq_true rfl⟩ ⟨by have := hcap.1; show cells + 1 + 0 + 0 ≤ 603072; omega, by have := hcap.2; show slots + 6 + 0 + 0 ≤ 7211114; omega⟩) (fun H locs hH => ?_)
  refine lv_iload hx hb dL_law_1804 (lv_at hl 1 rfl) ?_
  refine kb_icmp_eq (tgt := 1811) hx hb dL_law_1806 (by decide) (fun _ => ?_) (fun _ => W_none)
  refine lv_iload hx hb dL_law_1811 (lv_at hl 1 rfl) ?_
  refine kb_if_ne (tgt := 1828) hx hb dL_law_1813 (by decide) (fun _ => ?_) (fun _ => ?_)
  · refine lv_goto (tgt := 2261) hx hb dL_law_1828 (by decide) ?_
    exact W.widen (k := cells + 2) (n := slots + 9) (by show cells + 1 + 0 + 0 ≤ cells + 2; omega) (by show slots + 6 + 0 + 0 ≤ slots + 9; omega) (kk _ H locs ls hH (lv_sub hl [2, 3, 4, 5, 6, 7] rfl))
  · skip
    refine lv_aload_n hx hb dL_law_1816 rfl (lv_at hl 5 rfl) ?_
    refine lv_iconst (v := 0) hx hb dL_law_1817 (by decide) ?_
    refine l_lald C hH dL_law_1818 ?_
    refine lv_iload hx hb dL_law_1819 (lv_at hl 0 rfl) ?_
    refine lv_i2l (v := (Int32.toInt64 yb2.1)) hx hb dL_law_1821 rfl ?_
    refine l_lcmp (tgt := 1828) hx hb dL_law_1822 dL_law_1823 (by decide) ?_
    refine lv_goto (tgt := 2261) hx hb dL_law_1828 (by decide) ?_
    exact W.widen (k := cells + 2) (n := slots + 9) (by show cells + 1 + 0 + 0 ≤ cells + 2; omega) (by show slots + 6 + 0 + 0 ≤ slots + 9; omega) (kk _ H locs ls hH (lv_sub hl [2, 3, 4, 5, 6, 7] rfl))
/-- case 23 -/
def gL_23 {α : Type} (xs : Nat → Int32) (i : Nat) (x : LST) (G : LST → Option α) : Option α := (fL_run x.1 x.2.2.1).bind fun ya1 => (fX10_run x.2.1).bind fun yb2 => (if (fX10_thrown yb2.2) = ya1.1 then (if ya1.1 = 0 then (if ya1.2.2 = (Int32.toInt64 yb2.1) then G (ya1.2.1, yb2.2, ya1.2.2, x.2.2.2) else none) else G (ya1.2.1, yb2.2, ya1.2.2, x.2.2.2)) else none)
set_option maxHeartbeats 4000000 in
set_option maxRecDepth 100000 in
theorem kc_23 {p : Program} {l : Launch} (hl9 : l.stackTraces = false) {e : Env} {s : State} {m : MethodId} {args : Array Value} {below : List Frame} {meth : Method} {c : Code} {E : KE} {h0 b L : Nat} {xs : Nat → Int32} (C : LB p s m c args meth E h0) (hX : va_X b L xs s s.heap) (hbl : b < s.heap.size) {x : LST} {H : Heap} {locs : List Loc} {cells slots : Nat} (hH : LH E h0 x s H locs) {i : Nat} (hi : i + 5 ≤ L) (hL : L ≤ 2560) {n : Int32} (hn : n = nI i) {ls : Array Slot} (hl : lv_has ls 9 (lv9 b h0 n)) {α : Type} {f : α → State → Prop} {G : LST → Option α} (hcap : cells + 2 ≤ 603072 ∧ slots + 9 ≤ 7211114)
    (kk : ∀ (x : LST) (H : Heap) (locs : List Loc) (ls : Array Slot), LH E h0 x s H locs → lv_has ls 9 (lv9 b h0 n) → W p l e room_1 s m args below meth c H locs (cells + 2) (slots + 9) (Qn f (G x)) (F0 m 2261 ls [])) : W p l e room_1 s m args below meth c H locs cells slots (Qn f (gL_23 xs i x G)) (F0 m 1831 ls []) := by
  have hx := C.1.1.1
  have hb := C.1.1.2.1
  unfold gL_23

  refine lv_aload_n hx hb dL_law_1831 rfl (lv_at hl 1 rfl) ?_
  refine lv_aload_n hx hb dL_law_1832 rfl (lv_at hl 3 rfl) ?_
  refine lr_wL C hH (kL_run l hl9 E (a1 h0) x.1  (h0 + 143) x.2.2.1) w_5_27 lw_run ⟨rfl, rfl⟩ rfl dL_law_1833 rfl hl.1 (Nat.le_of_ble_eq_true rfl) ⟨Nat.le_of_ble_eq_true rfl, Nat.le_of_ble_eq_true rfl⟩ ⟨by have := hcap.1; show cells + 1 ≤ 603072; omega, by have := hcap.2; show slots + 6 ≤ 7211114; omega⟩ (fun ya1 H locs hH => ?_)
  refine lv_istore (lv' := [(6, .int ya1.1), (0, .ref b), (1, .ref (a1 h0 121)), (2, .ref (a2 h0 0)), (3, .ref (h0 + 143)), (4, .ref (h0 + 144)), (5, .int n)]) hx hb dL_law_1836 hl (by decide) rfl (fun ls hl => ?_)
  refine lv_aload_n hx hb dL_law_1838 rfl (lv_at hl 3 rfl) ?_
  refine lr_i2 (h := fun z => z) C hH (lr_run2 C hH w_7_119 lg_yX10_run lh_yX10_run (kX10_run l E (a2 h0) x.2.1) (As := []) rfl dL_law_1839 rfl hl.1 (Nat.le_of_ble_eq_true rfl) ⟨Nat.le_of_ble_eq_true rfl, Nat.le_of_ble_eq_true rfl⟩ ⟨by have := hcap.1; show cells + 1 + 0 ≤ 603072; omega, by have := hcap.2; show slots + 6 + 0 ≤ 7211114; omega⟩) (fun yb2 H locs hH => ?_)
  refine lv_istore (lv' := [(7, .int yb2.1), (6, .int ya1.1), (0, .ref b), (1, .ref (a1 h0 121)), (2, .ref (a2 h0 0)), (3, .ref (h0 + 143)), (4, .ref (h0 + 144)), (5, .int n)]) hx hb dL_law_1842 hl (by decide) rfl (fun ls hl => ?_)
  refine lv_aload_n hx hb dL_law_1844 rfl (lv_at hl 4 rfl) ?_
  refine lr_ip2 (v := (fX10_thrown yb2.2, yb2.2)) C hH (lr_run2 C hH w_6_67 lg_yX10_thrown lh_yX10_thrown (kX10_thrown l E (a2 h0) yb2.2) (As := []) rfl dL_law_1845 rfl hl.1 (Nat.le_of_ble_eq_true rfl) ⟨Nat.le_of_ble_eq_true rfl, Nat.le_of_ble_eq_true rfl⟩ ⟨by have := hcap.1; show cells + 1 + 0 + 0 ≤ 603072; omega, by have := hcap.2; show slots + 6 + 0 + 0 ≤ 7211114; omega⟩) (fun H locs hH => ?_)
  refine lv_iload hx hb dL_law_1848 (lv_at hl 1 rfl) ?_
  refine kb_icmp_eq (tgt := 1855) hx hb dL_law_1850 (by decide) (fun _ => ?_) (fun _ => W_none)
  refine lv_iload hx hb dL_law_1855 (lv_at hl 1 rfl) ?_
  refine kb_if_ne (tgt := 1872) hx hb dL_law_1857 (by decide) (fun _ => ?_) (fun _ => ?_)
  · refine lv_goto (tgt := 2261) hx hb dL_law_1872 (by decide) ?_
    exact W.widen (k := cells + 2) (n := slots + 9) (by show cells + 1 + 0 + 0 ≤ cells + 2; omega) (by show slots + 6 + 0 + 0 ≤ slots + 9; omega) (kk _ H locs ls hH (lv_sub hl [2, 3, 4, 5, 6, 7] rfl))
  · skip
    refine lv_aload_n hx hb dL_law_1860 rfl (lv_at hl 5 rfl) ?_
    refine lv_iconst (v := 0) hx hb dL_law_1861 (by decide) ?_
    refine l_lald C hH dL_law_1862 ?_
    refine lv_iload hx hb dL_law_1863 (lv_at hl 0 rfl) ?_
    refine lv_i2l (v := (Int32.toInt64 yb2.1)) hx hb dL_law_1865 rfl ?_
    refine l_lcmp (tgt := 1872) hx hb dL_law_1866 dL_law_1867 (by decide) ?_
    refine lv_goto (tgt := 2261) hx hb dL_law_1872 (by decide) ?_
    exact W.widen (k := cells + 2) (n := slots + 9) (by show cells + 1 + 0 + 0 ≤ cells + 2; omega) (by show slots + 6 + 0 + 0 ≤ slots + 9; omega) (kk _ H locs ls hH (lv_sub hl [2, 3, 4, 5, 6, 7] rfl))
/-- case 24 -/
def gL_24 {α : Type} (xs : Nat → Int32) (i : Nat) (x : LST) (G : LST → Option α) : Option α := (fX10_errorPosition x.2.1).bind fun yb1 => (if (fX9_errorPosition x.1) = yb1.1 then G (x.1, yb1.2, x.2.2.1, x.2.2.2) else none)
set_option maxHeartbeats 4000000 in
set_option maxRecDepth 100000 in
theorem kc_24 {p : Program} {l : Launch} (hl9 : l.stackTraces = false) {e : Env} {s : State} {m : MethodId} {args : Array Value} {below : List Frame} {meth : Method} {c : Code} {E : KE} {h0 b L : Nat} {xs : Nat → Int32} (C : LB p s m c args meth E h0) (hX : va_X b L xs s s.heap) (hbl : b < s.heap.size) {x : LST} {H : Heap} {locs : List Loc} {cells slots : Nat} (hH : LH E h0 x s H locs) {i : Nat} (hi : i + 5 ≤ L) (hL : L ≤ 2560) {n : Int32} (hn : n = nI i) {ls : Array Slot} (hl : lv_has ls 9 (lv9 b h0 n)) {α : Type} {f : α → State → Prop} {G : LST → Option α} (hcap : cells + 2 ≤ 603072 ∧ slots + 9 ≤ 7211114)
    (kk : ∀ (x : LST) (H : Heap) (locs : List Loc) (ls : Array Slot), LH E h0 x s H locs → lv_has ls 9 (lv9 b h0 n) → W p l e room_1 s m args below meth c H locs (cells + 2) (slots + 9) (Qn f (G x)) (F0 m 2261 ls [])) : W p l e room_1 s m args below meth c H locs cells slots (Qn f (gL_24 xs i x G)) (F0 m 1875 ls []) := by
  have hx := C.1.1.1
  have hb := C.1.1.2.1
  unfold gL_24

  refine lv_aload_n hx hb dL_law_1875 rfl (lv_at hl 1 rfl) ?_
  refine lr_ip1 (v := (fX9_errorPosition x.1, x.1)) C hH (lr_run1 C hH w_2_150 lg_yX9_errorPosition lh_yX9_errorPosition (kX9_errorPosition l E (a1 h0) x.1) (As := []) rfl dL_law_1876 rfl hl.1 (Nat.le_of_ble_eq_true rfl) ⟨Nat.le_of_ble_eq_true rfl, Nat.le_of_ble_eq_true rfl⟩ ⟨by have := hcap.1; show cells + 0 ≤ 603072; omega, by have := hcap.2; show slots + 0 ≤ 7211114; omega⟩) (fun H locs hH => ?_)
  refine lv_aload_n hx hb dL_law_1879 rfl (lv_at hl 2 rfl) ?_
  refine lr_i2 (h := fun z => z) C hH (lr_run2 C hH w_7_143 lg_yX10_errorPosition lh_yX10_errorPosition (kX10_errorPosition l E (a2 h0) x.2.1) (As := []) rfl dL_law_1880 rfl hl.1 (Nat.le_of_ble_eq_true rfl) ⟨Nat.le_of_ble_eq_true rfl, Nat.le_of_ble_eq_true rfl⟩ ⟨by have := hcap.1; show cells + 0 + 0 ≤ 603072; omega, by have := hcap.2; show slots + 0 + 0 ≤ 7211114; omega⟩) (fun yb1 H locs hH => ?_)
  refine kb_icmp_eq (tgt := 2261) hx hb dL_law_1883 (by decide) (fun _ => ?_) (fun _ => W_none)
  exact W.widen (k := cells + 2) (n := slots + 9) (by show cells + 0 + 0 ≤ cells + 2; omega) (by show slots + 0 + 0 ≤ slots + 9; omega) (kk _ H locs ls hH (lv_sub hl [0, 1, 2, 3, 4, 5] rfl))
/-- case 25 -/
def gL_25 {α : Type} (xs : Nat → Int32) (i : Nat) (x : LST) (G : LST → Option α) : Option α := (fL_refusal x.1 (b01 (xs (i + 1))) x.2.2.1).bind fun ya1 => (fX10_refusal x.2.1 (b01 (xs (i + 1)))).bind fun yb2 => (if (fX10_thrown yb2.2) = ya1.1 then (if ya1.1 = 0 then (if ya1.2.2 = (Int32.toInt64 yb2.1) then G (ya1.2.1, yb2.2, ya1.2.2, x.2.2.2) else none) else G (ya1.2.1, yb2.2, ya1.2.2, x.2.2.2)) else none)
set_option maxHeartbeats 4000000 in
set_option maxRecDepth 100000 in
theorem kc_25 {p : Program} {l : Launch} (hl9 : l.stackTraces = false) {e : Env} {s : State} {m : MethodId} {args : Array Value} {below : List Frame} {meth : Method} {c : Code} {E : KE} {h0 b L : Nat} {xs : Nat → Int32} (C : LB p s m c args meth E h0) (hX : va_X b L xs s s.heap) (hbl : b < s.heap.size) {x : LST} {H : Heap} {locs : List Loc} {cells slots : Nat} (hH : LH E h0 x s H locs) {i : Nat} (hi : i + 5 ≤ L) (hL : L ≤ 2560) {n : Int32} (hn : n = nI i) {ls : Array Slot} (hl : lv_has ls 9 (lv9 b h0 n)) {α : Type} {f : α → State → Prop} {G : LST → Option α} (hcap : cells + 2 ≤ 603072 ∧ slots + 9 ≤ 7211114)
    (kk : ∀ (x : LST) (H : Heap) (locs : List Loc) (ls : Array Slot), LH E h0 x s H locs → lv_has ls 9 (lv9 b h0 n) → W p l e room_1 s m args below meth c H locs (cells + 2) (slots + 9) (Qn f (G x)) (F0 m 2261 ls [])) : W p l e room_1 s m args below meth c H locs cells slots (Qn f (gL_25 xs i x G)) (F0 m 1888 ls []) := by
  have hx := C.1.1.1
  have hb := C.1.1.2.1
  unfold gL_25
  have q1 := l_ix (xs := xs) hn (by omega : i + 1 < L) hL 1 rfl
  refine lv_aload_n hx hb dL_law_1888 rfl (lv_at hl 1 rfl) ?_
  refine lv_aload_n hx hb dL_law_1889 rfl (lv_at hl 0 rfl) ?_
  refine lv_iload hx hb dL_law_1890 (lv_at hl 5 rfl) ?_
  refine lv_iconst (v := 1) hx hb dL_law_1892 (by decide) ?_
  refine lv_iadd hx hb dL_law_1893 ?_
  refine l_sld C hH hX hbl q1 dL_law_1894 ?_
  refine l_b01 (t0 := 1902) (tJ := 1903) hx hb dL_law_1895 dL_law_1898 dL_law_1899 dL_law_1902 (by decide) (by decide) rfl ?_
  refine lv_aload_n hx hb dL_law_1903 rfl (lv_at hl 3 rfl) ?_
  refine lr_wL C hH (kL_refusal l hl9 E (a1 h0) x.1 (b01 (xs (i + 1))) (h0 + 143) x.2.2.1) w_5_104 lw_refusal ⟨rfl, rfl⟩ rfl dL_law_1904 rfl hl.1 (Nat.le_of_ble_eq_true rfl) ⟨Nat.le_of_ble_eq_true rfl, Nat.le_of_ble_eq_true rfl⟩ ⟨by have := hcap.1; show cells + 1 ≤ 603072; omega, by have := hcap.2; show slots + 6 ≤ 7211114; omega⟩ (fun ya1 H locs hH => ?_)
  refine lv_istore (lv' := [(6, .int ya1.1), (0, .ref b), (1, .ref (a1 h0 121)), (2, .ref (a2 h0 0)), (3, .ref (h0 + 143)), (4, .ref (h0 + 144)), (5, .int n)]) hx hb dL_law_1907 hl (by decide) rfl (fun ls hl => ?_)
  refine lv_aload_n hx hb dL_law_1909 rfl (lv_at hl 3 rfl) ?_
  refine lv_aload_n hx hb dL_law_1910 rfl (lv_at hl 1 rfl) ?_
  refine lv_iload hx hb dL_law_1911 (lv_at hl 6 rfl) ?_
  refine lv_iconst (v := 1) hx hb dL_law_1913 (by decide) ?_
  refine lv_iadd hx hb dL_law_1914 ?_
  refine l_sld C hH hX hbl q1 dL_law_1915 ?_
  refine l_b01 (t0 := 1923) (tJ := 1924) hx hb dL_law_1916 dL_law_1919 dL_law_1920 dL_law_1923 (by decide) (by decide) rfl ?_
  refine lr_i2 (h := fun z => z) C hH (lr_run2 C hH w_6_71 lg_yX10_refusal lh_yX10_refusal (kX10_refusal l E (a2 h0) x.2.1 (b01 (xs (i + 1)))) (As := [.int (b01 (xs (i + 1)))]) rfl dL_law_1924 rfl hl.1 (Nat.le_of_ble_eq_true rfl) ⟨Nat.le_of_ble_eq_true rfl, Nat.le_of_ble_eq_true rfl⟩ ⟨by have := hcap.1; show cells + 1 + 0 ≤ 603072; omega, by have := hcap.2; show slots + 6 + 0 ≤ 7211114; omega⟩) (fun yb2 H locs hH => ?_)
  refine lv_istore (lv' := [(7, .int yb2.1), (6, .int ya1.1), (0, .ref b), (1, .ref (a1 h0 121)), (2, .ref (a2 h0 0)), (3, .ref (h0 + 143)), (4, .ref (h0 + 144)), (5, .int n)]) hx hb dL_law_1927 hl (by decide) rfl (fun ls hl => ?_)
  refine lv_aload_n hx hb dL_law_1929 rfl (lv_at hl 4 rfl) ?_
  refine lr_ip2 (v := (fX10_thrown yb2.2, yb2.2)) C hH (lr_run2 C hH w_6_67 lg_yX10_thrown lh_yX10_thrown (kX10_thrown l E (a2 h0) yb2.2) (As := []) rfl dL_law_1930 rfl hl.1 (Nat.le_of_ble_eq_true rfl) ⟨Nat.le_of_ble_eq_true rfl, Nat.le_of_ble_eq_true rfl⟩ ⟨by have := hcap.1; show cells + 1 + 0 + 0 ≤ 603072; omega, by have := hcap.2; show slots + 6 + 0 + 0 ≤ 7211114; omega⟩) (fun H locs hH => ?_)
  refine lv_iload hx hb dL_law_1933 (lv_at hl 1 rfl) ?_
  refine kb_icmp_eq (tgt := 1940) hx hb dL_law_1935 (by decide) (fun _ => ?_) (fun _ => W_none)
  refine lv_iload hx hb dL_law_1940 (lv_at hl 1 rfl) ?_
  refine kb_if_ne (tgt := 1957) hx hb dL_law_1942 (by decide) (fun _ => ?_) (fun _ => ?_)
  · refine lv_goto (tgt := 2261) hx hb dL_law_1957 (by decide) ?_
    exact W.widen (k := cells + 2) (n := slots + 9) (by show cells + 1 + 0 + 0 ≤ cells + 2; omega) (by show slots + 6 + 0 + 0 ≤ slots + 9; omega) (kk _ H locs ls hH (lv_sub hl [2, 3, 4, 5, 6, 7] rfl))
  · skip
    refine lv_aload_n hx hb dL_law_1945 rfl (lv_at hl 5 rfl) ?_
    refine lv_iconst (v := 0) hx hb dL_law_1946 (by decide) ?_
    refine l_lald C hH dL_law_1947 ?_
    refine lv_iload hx hb dL_law_1948 (lv_at hl 0 rfl) ?_
    refine lv_i2l (v := (Int32.toInt64 yb2.1)) hx hb dL_law_1950 rfl ?_
    refine l_lcmp (tgt := 1957) hx hb dL_law_1951 dL_law_1952 (by decide) ?_
    refine lv_goto (tgt := 2261) hx hb dL_law_1957 (by decide) ?_
    exact W.widen (k := cells + 2) (n := slots + 9) (by show cells + 1 + 0 + 0 ≤ cells + 2; omega) (by show slots + 6 + 0 + 0 ≤ slots + 9; omega) (kk _ H locs ls hH (lv_sub hl [2, 3, 4, 5, 6, 7] rfl))
/-- case 26 -/
def gL_26 {α : Type} (xs : Nat → Int32) (i : Nat) (x : LST) (G : LST → Option α) : Option α := (fL_account x.1 (xs (i + 1)) x.2.2.1).bind fun ya1 => (fX10_account x.2.1 (xs (i + 1))).bind fun yb2 => (if (fX10_thrown yb2.2) = ya1.1 then (if ya1.1 = 0 then (if ya1.2.2 = (Int32.toInt64 yb2.1) then G (ya1.2.1, yb2.2, ya1.2.2, x.2.2.2) else none) else G (ya1.2.1, yb2.2, ya1.2.2, x.2.2.2)) else none)
set_option maxHeartbeats 4000000 in
set_option maxRecDepth 100000 in
theorem kc_26 {p : Program} {l : Launch} (hl9 : l.stackTraces = false) {e : Env} {s : State} {m : MethodId} {args : Array Value} {below : List Frame} {meth : Method} {c : Code} {E : KE} {h0 b L : Nat} {xs : Nat → Int32} (C : LB p s m c args meth E h0) (hX : va_X b L xs s s.heap) (hbl : b < s.heap.size) {x : LST} {H : Heap} {locs : List Loc} {cells slots : Nat} (hH : LH E h0 x s H locs) {i : Nat} (hi : i + 5 ≤ L) (hL : L ≤ 2560) {n : Int32} (hn : n = nI i) {ls : Array Slot} (hl : lv_has ls 9 (lv9 b h0 n)) {α : Type} {f : α → State → Prop} {G : LST → Option α} (hcap : cells + 2 ≤ 603072 ∧ slots + 9 ≤ 7211114)
    (kk : ∀ (x : LST) (H : Heap) (locs : List Loc) (ls : Array Slot), LH E h0 x s H locs → lv_has ls 9 (lv9 b h0 n) → W p l e room_1 s m args below meth c H locs (cells + 2) (slots + 9) (Qn f (G x)) (F0 m 2261 ls [])) : W p l e room_1 s m args below meth c H locs cells slots (Qn f (gL_26 xs i x G)) (F0 m 1960 ls []) := by
  have hx := C.1.1.1
  have hb := C.1.1.2.1
  unfold gL_26
  have q1 := l_ix (xs := xs) hn (by omega : i + 1 < L) hL 1 rfl
  refine lv_aload_n hx hb dL_law_1960 rfl (lv_at hl 1 rfl) ?_
  refine lv_aload_n hx hb dL_law_1961 rfl (lv_at hl 0 rfl) ?_
  refine lv_iload hx hb dL_law_1962 (lv_at hl 5 rfl) ?_
  refine lv_iconst (v := 1) hx hb dL_law_1964 (by decide) ?_
  refine lv_iadd hx hb dL_law_1965 ?_
  refine l_sld C hH hX hbl q1 dL_law_1966 ?_
  refine lv_aload_n hx hb dL_law_1967 rfl (lv_at hl 3 rfl) ?_
  refine lr_wL C hH (kL_account l hl9 E (a1 h0) x.1 (xs (i + 1)) (h0 + 143) x.2.2.1) w_5_112 lw_account ⟨rfl, rfl⟩ rfl dL_law_1968 rfl hl.1 (Nat.le_of_ble_eq_true rfl) ⟨Nat.le_of_ble_eq_true rfl, Nat.le_of_ble_eq_true rfl⟩ ⟨by have := hcap.1; show cells + 1 ≤ 603072; omega, by have := hcap.2; show slots + 6 ≤ 7211114; omega⟩ (fun ya1 H locs hH => ?_)
  refine lv_istore (lv' := [(6, .int ya1.1), (0, .ref b), (1, .ref (a1 h0 121)), (2, .ref (a2 h0 0)), (3, .ref (h0 + 143)), (4, .ref (h0 + 144)), (5, .int n)]) hx hb dL_law_1971 hl (by decide) rfl (fun ls hl => ?_)
  refine lv_aload_n hx hb dL_law_1973 rfl (lv_at hl 3 rfl) ?_
  refine lv_aload_n hx hb dL_law_1974 rfl (lv_at hl 1 rfl) ?_
  refine lv_iload hx hb dL_law_1975 (lv_at hl 6 rfl) ?_
  refine lv_iconst (v := 1) hx hb dL_law_1977 (by decide) ?_
  refine lv_iadd hx hb dL_law_1978 ?_
  refine l_sld C hH hX hbl q1 dL_law_1979 ?_
  refine lr_i2 (h := fun z => z) C hH (lr_run2 C hH w_7_147 lg_yX10_account lh_yX10_account (kX10_account l E (a2 h0) x.2.1 (xs (i + 1))) (As := [.int (xs (i + 1))]) rfl dL_law_1980 rfl hl.1 (Nat.le_of_ble_eq_true rfl) ⟨Nat.le_of_ble_eq_true rfl, Nat.le_of_ble_eq_true rfl⟩ ⟨by have := hcap.1; show cells + 1 + 0 ≤ 603072; omega, by have := hcap.2; show slots + 6 + 0 ≤ 7211114; omega⟩) (fun yb2 H locs hH => ?_)
  refine lv_istore (lv' := [(7, .int yb2.1), (6, .int ya1.1), (0, .ref b), (1, .ref (a1 h0 121)), (2, .ref (a2 h0 0)), (3, .ref (h0 + 143)), (4, .ref (h0 + 144)), (5, .int n)]) hx hb dL_law_1983 hl (by decide) rfl (fun ls hl => ?_)
  refine lv_aload_n hx hb dL_law_1985 rfl (lv_at hl 4 rfl) ?_
  refine lr_ip2 (v := (fX10_thrown yb2.2, yb2.2)) C hH (lr_run2 C hH w_6_67 lg_yX10_thrown lh_yX10_thrown (kX10_thrown l E (a2 h0) yb2.2) (As := []) rfl dL_law_1986 rfl hl.1 (Nat.le_of_ble_eq_true rfl) ⟨Nat.le_of_ble_eq_true rfl, Nat.le_of_ble_eq_true rfl⟩ ⟨by have := hcap.1; show cells + 1 + 0 + 0 ≤ 603072; omega, by have := hcap.2; show slots + 6 + 0 + 0 ≤ 7211114; omega⟩) (fun H locs hH => ?_)
  refine lv_iload hx hb dL_law_1989 (lv_at hl 1 rfl) ?_
  refine kb_icmp_eq (tgt := 1996) hx hb dL_law_1991 (by decide) (fun _ => ?_) (fun _ => W_none)
  refine lv_iload hx hb dL_law_1996 (lv_at hl 1 rfl) ?_
  refine kb_if_ne (tgt := 2013) hx hb dL_law_1998 (by decide) (fun _ => ?_) (fun _ => ?_)
  · refine lv_goto (tgt := 2261) hx hb dL_law_2013 (by decide) ?_
    exact W.widen (k := cells + 2) (n := slots + 9) (by show cells + 1 + 0 + 0 ≤ cells + 2; omega) (by show slots + 6 + 0 + 0 ≤ slots + 9; omega) (kk _ H locs ls hH (lv_sub hl [2, 3, 4, 5, 6, 7] rfl))
  · skip
    refine lv_aload_n hx hb dL_law_2001 rfl (lv_at hl 5 rfl) ?_
    refine lv_iconst (v := 0) hx hb dL_law_2002 (by decide) ?_
    refine l_lald C hH dL_law_2003 ?_
    refine lv_iload hx hb dL_law_2004 (lv_at hl 0 rfl) ?_
    refine lv_i2l (v := (Int32.toInt64 yb2.1)) hx hb dL_law_2006 rfl ?_
    refine l_lcmp (tgt := 2013) hx hb dL_law_2007 dL_law_2008 (by decide) ?_
    refine lv_goto (tgt := 2261) hx hb dL_law_2013 (by decide) ?_
    exact W.widen (k := cells + 2) (n := slots + 9) (by show cells + 1 + 0 + 0 ≤ cells + 2; omega) (by show slots + 6 + 0 + 0 ≤ slots + 9; omega) (kk _ H locs ls hH (lv_sub hl [2, 3, 4, 5, 6, 7] rfl))
/-- case 27 -/
def gL_27 {α : Type} (xs : Nat → Int32) (i : Nat) (x : LST) (G : LST → Option α) : Option α := (fX9_isWell x.1).bind fun yb1 => (fX10_isWell x.2.1).bind fun yb2 => (if yb1.1 = yb2.1 then G (yb1.2, yb2.2, x.2.2.1, x.2.2.2) else none)
set_option maxHeartbeats 4000000 in
set_option maxRecDepth 100000 in
theorem kc_27 {p : Program} {l : Launch} (hl9 : l.stackTraces = false) {e : Env} {s : State} {m : MethodId} {args : Array Value} {below : List Frame} {meth : Method} {c : Code} {E : KE} {h0 b L : Nat} {xs : Nat → Int32} (C : LB p s m c args meth E h0) (hX : va_X b L xs s s.heap) (hbl : b < s.heap.size) {x : LST} {H : Heap} {locs : List Loc} {cells slots : Nat} (hH : LH E h0 x s H locs) {i : Nat} (hi : i + 5 ≤ L) (hL : L ≤ 2560) {n : Int32} (hn : n = nI i) {ls : Array Slot} (hl : lv_has ls 9 (lv9 b h0 n)) {α : Type} {f : α → State → Prop} {G : LST → Option α} (hcap : cells + 2 ≤ 603072 ∧ slots + 9 ≤ 7211114)
    (kk : ∀ (x : LST) (H : Heap) (locs : List Loc) (ls : Array Slot), LH E h0 x s H locs → lv_has ls 9 (lv9 b h0 n) → W p l e room_1 s m args below meth c H locs (cells + 2) (slots + 9) (Qn f (G x)) (F0 m 2261 ls [])) : W p l e room_1 s m args below meth c H locs cells slots (Qn f (gL_27 xs i x G)) (F0 m 2016 ls []) := by
  have hx := C.1.1.1
  have hb := C.1.1.2.1
  unfold gL_27

  refine lv_aload_n hx hb dL_law_2016 rfl (lv_at hl 1 rfl) ?_
  refine lr_i1 (h := fun z => z) C hH (lr_run1 C hH w_2_154 lg_yX9_isWell lh_yX9_isWell (kX9_isWell l E (a1 h0) x.1) (As := []) rfl dL_law_2017 rfl hl.1 (Nat.le_of_ble_eq_true rfl) ⟨Nat.le_of_ble_eq_true rfl, Nat.le_of_ble_eq_true rfl⟩ ⟨by have := hcap.1; show cells + 0 ≤ 603072; omega, by have := hcap.2; show slots + 0 ≤ 7211114; omega⟩) (fun yb1 H locs hH => ?_)
  refine lv_aload_n hx hb dL_law_2020 rfl (lv_at hl 2 rfl) ?_
  refine lr_i2 (h := fun z => z) C hH (lr_run2 C hH w_7_167 lg_yX10_isWell lh_yX10_isWell (kX10_isWell l E (a2 h0) x.2.1) (As := []) rfl dL_law_2021 rfl hl.1 (Nat.le_of_ble_eq_true rfl) ⟨Nat.le_of_ble_eq_true rfl, Nat.le_of_ble_eq_true rfl⟩ ⟨by have := hcap.1; show cells + 0 + 0 ≤ 603072; omega, by have := hcap.2; show slots + 0 + 0 ≤ 7211114; omega⟩) (fun yb2 H locs hH => ?_)
  refine kb_icmp_eq (tgt := 2261) hx hb dL_law_2024 (by decide) (fun _ => ?_) (fun _ => W_none)
  exact W.widen (k := cells + 2) (n := slots + 9) (by show cells + 0 + 0 ≤ cells + 2; omega) (by show slots + 0 + 0 ≤ slots + 9; omega) (kk _ H locs ls hH (lv_sub hl [0, 1, 2, 3, 4, 5] rfl))
/-- case 28 -/
def gL_28 {α : Type} (xs : Nat → Int32) (i : Nat) (x : LST) (G : LST → Option α) : Option α := (fL_meanDepth x.1 x.2.2.2).bind fun ya1 => (fX10_meanDepth x.2.1).bind fun yb2 => (if (fX10_thrown yb2.2) = ya1.1 then (if ya1.1 = 0 then (if Op.cmpValue (FP.dcmp ya1.2.2 yb2.1) DOP = 0 then G (ya1.2.1, yb2.2, x.2.2.1, ya1.2.2) else none) else G (ya1.2.1, yb2.2, x.2.2.1, ya1.2.2)) else none)
set_option maxHeartbeats 4000000 in
set_option maxRecDepth 100000 in
theorem kc_28 {p : Program} {l : Launch} (hl9 : l.stackTraces = false) {e : Env} {s : State} {m : MethodId} {args : Array Value} {below : List Frame} {meth : Method} {c : Code} {E : KE} {h0 b L : Nat} {xs : Nat → Int32} (C : LB p s m c args meth E h0) (hX : va_X b L xs s s.heap) (hbl : b < s.heap.size) {x : LST} {H : Heap} {locs : List Loc} {cells slots : Nat} (hH : LH E h0 x s H locs) {i : Nat} (hi : i + 5 ≤ L) (hL : L ≤ 2560) {n : Int32} (hn : n = nI i) {ls : Array Slot} (hl : lv_has ls 9 (lv9 b h0 n)) {α : Type} {f : α → State → Prop} {G : LST → Option α} (hcap : cells + 2 ≤ 603072 ∧ slots + 9 ≤ 7211114)
    (kk : ∀ (x : LST) (H : Heap) (locs : List Loc) (ls : Array Slot), LH E h0 x s H locs → lv_has ls 9 (lv9 b h0 n) → W p l e room_1 s m args below meth c H locs (cells + 2) (slots + 9) (Qn f (G x)) (F0 m 2261 ls [])) : W p l e room_1 s m args below meth c H locs cells slots (Qn f (gL_28 xs i x G)) (F0 m 2029 ls []) := by
  have hx := C.1.1.1
  have hb := C.1.1.2.1
  unfold gL_28

  refine lv_aload_n hx hb dL_law_2029 rfl (lv_at hl 1 rfl) ?_
  refine lv_aload hx hb dL_law_2030 (lv_at hl 4 rfl) ?_
  refine lr_wD C hH (kL_meanDepth l hl9 E (a1 h0) x.1  (h0 + 144) x.2.2.2) w_5_142 lw_meanDepth ⟨rfl, rfl⟩ rfl dL_law_2032 rfl hl.1 (Nat.le_of_ble_eq_true rfl) ⟨Nat.le_of_ble_eq_true rfl, Nat.le_of_ble_eq_true rfl⟩ ⟨by have := hcap.1; show cells + 1 ≤ 603072; omega, by have := hcap.2; show slots + 6 ≤ 7211114; omega⟩ (fun ya1 H locs hH => ?_)
  refine lv_istore (lv' := [(6, .int ya1.1), (0, .ref b), (1, .ref (a1 h0 121)), (2, .ref (a2 h0 0)), (3, .ref (h0 + 143)), (4, .ref (h0 + 144)), (5, .int n)]) hx hb dL_law_2035 hl (by decide) rfl (fun ls hl => ?_)
  refine lv_aload_n hx hb dL_law_2037 rfl (lv_at hl 3 rfl) ?_
  refine lr_d2 (h := fun z => z) C hH (lr_run2 C hH w_7_171 lg_yX10_meanDepth lh_yX10_meanDepth (kX10_meanDepth l E (a2 h0) x.2.1) (As := []) rfl dL_law_2038 rfl hl.1 (Nat.le_of_ble_eq_true rfl) ⟨Nat.le_of_ble_eq_true rfl, Nat.le_of_ble_eq_true rfl⟩ ⟨by have := hcap.1; show cells + 1 + 0 ≤ 603072; omega, by have := hcap.2; show slots + 6 + 0 ≤ 7211114; omega⟩) (fun yb2 H locs hH => ?_)
  refine lv_dstore (lv' := [(7, .double yb2.1), (6, .int ya1.1), (0, .ref b), (1, .ref (a1 h0 121)), (2, .ref (a2 h0 0)), (3, .ref (h0 + 143)), (4, .ref (h0 + 144)), (5, .int n)]) hx hb dL_law_2041 hl (by decide) rfl (fun ls hl => ?_)
  refine lv_aload_n hx hb dL_law_2043 rfl (lv_at hl 4 rfl) ?_
  refine lr_ip2 (v := (fX10_thrown yb2.2, yb2.2)) C hH (lr_run2 C hH w_6_67 lg_yX10_thrown lh_yX10_thrown (kX10_thrown l E (a2 h0) yb2.2) (As := []) rfl dL_law_2044 rfl hl.1 (Nat.le_of_ble_eq_true rfl) ⟨Nat.le_of_ble_eq_true rfl, Nat.le_of_ble_eq_true rfl⟩ ⟨by have := hcap.1; show cells + 1 + 0 + 0 ≤ 603072; omega, by have := hcap.2; show slots + 6 + 0 + 0 ≤ 7211114; omega⟩) (fun H locs hH => ?_)
  refine lv_iload hx hb dL_law_2047 (lv_at hl 1 rfl) ?_
  refine kb_icmp_eq (tgt := 2054) hx hb dL_law_2049 (by decide) (fun _ => ?_) (fun _ => W_none)
  refine lv_iload hx hb dL_law_2054 (lv_at hl 1 rfl) ?_
  refine kb_if_ne (tgt := 2091) hx hb dL_law_2056 (by decide) (fun _ => ?_) (fun _ => ?_)
  · refine lv_goto (tgt := 2261) hx hb dL_law_2091 (by decide) ?_
    exact W.widen (k := cells + 2) (n := slots + 9) (by show cells + 1 + 0 + 0 ≤ cells + 2; omega) (by show slots + 6 + 0 + 0 ≤ slots + 9; omega) (kk _ H locs ls hH (lv_sub hl [2, 3, 4, 5, 6, 7] rfl))
  · skip
    refine lv_aload hx hb dL_law_2059 (lv_at hl 6 rfl) ?_
    refine lv_iconst (v := 0) hx hb dL_law_2061 (by decide) ?_
    refine l_dald C hH dL_law_2062 ?_
    refine lv_dload hx hb dL_law_2063 (lv_at hl 0 rfl) ?_
    refine l_dcmp (tgt := 2091) hx hb dL_law_2065 dL_law_2066 (by decide) ?_
    refine lv_goto (tgt := 2261) hx hb dL_law_2091 (by decide) ?_
    exact W.widen (k := cells + 2) (n := slots + 9) (by show cells + 1 + 0 + 0 ≤ cells + 2; omega) (by show slots + 6 + 0 + 0 ≤ slots + 9; omega) (kk _ H locs ls hH (lv_sub hl [2, 3, 4, 5, 6, 7] rfl))
/-- case 29 -/
def gL_29 {α : Type} (xs : Nat → Int32) (i : Nat) (x : LST) (G : LST → Option α) : Option α := (fL_toldShare x.1 x.2.2.2).bind fun ya1 => (fX10_toldShare x.2.1).bind fun yb2 => (if (fX10_thrown yb2.2) = ya1.1 then (if ya1.1 = 0 then (if nn64 (FP.f2d yb2.1) then (if Op.cmpValue (FP.dcmp ya1.2.2 (FP.f2d yb2.1)) DOP = 0 then G (ya1.2.1, yb2.2, x.2.2.1, ya1.2.2) else none) else none) else G (ya1.2.1, yb2.2, x.2.2.1, ya1.2.2)) else none)
set_option maxHeartbeats 4000000 in
set_option maxRecDepth 100000 in
theorem kc_29 {p : Program} {l : Launch} (hl9 : l.stackTraces = false) {e : Env} {s : State} {m : MethodId} {args : Array Value} {below : List Frame} {meth : Method} {c : Code} {E : KE} {h0 b L : Nat} {xs : Nat → Int32} (C : LB p s m c args meth E h0) (hX : va_X b L xs s s.heap) (hbl : b < s.heap.size) {x : LST} {H : Heap} {locs : List Loc} {cells slots : Nat} (hH : LH E h0 x s H locs) {i : Nat} (hi : i + 5 ≤ L) (hL : L ≤ 2560) {n : Int32} (hn : n = nI i) {ls : Array Slot} (hl : lv_has ls 9 (lv9 b h0 n)) {α : Type} {f : α → State → Prop} {G : LST → Option α} (hcap : cells + 2 ≤ 603072 ∧ slots + 9 ≤ 7211114)
    (kk : ∀ (x : LST) (H : Heap) (locs : List Loc) (ls : Array Slot), LH E h0 x s H locs → lv_has ls 9 (lv9 b h0 n) → W p l e room_1 s m args below meth c H locs (cells + 2) (slots + 9) (Qn f (G x)) (F0 m 2261 ls [])) : W p l e room_1 s m args below meth c H locs cells slots (Qn f (gL_29 xs i x G)) (F0 m 2094 ls []) := by
  have hx := C.1.1.1
  have hb := C.1.1.2.1
  unfold gL_29

  refine lv_aload_n hx hb dL_law_2094 rfl (lv_at hl 1 rfl) ?_
  refine lv_aload hx hb dL_law_2095 (lv_at hl 4 rfl) ?_
  refine lr_wD C hH (kL_toldShare l hl9 E (a1 h0) x.1  (h0 + 144) x.2.2.2) w_5_170 lw_toldShare ⟨rfl, rfl⟩ rfl dL_law_2097 rfl hl.1 (Nat.le_of_ble_eq_true rfl) ⟨Nat.le_of_ble_eq_true rfl, Nat.le_of_ble_eq_true rfl⟩ ⟨by have := hcap.1; show cells + 1 ≤ 603072; omega, by have := hcap.2; show slots + 6 ≤ 7211114; omega⟩ (fun ya1 H locs hH => ?_)
  refine lv_istore (lv' := [(6, .int ya1.1), (0, .ref b), (1, .ref (a1 h0 121)), (2, .ref (a2 h0 0)), (3, .ref (h0 + 143)), (4, .ref (h0 + 144)), (5, .int n)]) hx hb dL_law_2100 hl (by decide) rfl (fun ls hl => ?_)
  refine lv_aload_n hx hb dL_law_2102 rfl (lv_at hl 3 rfl) ?_
  refine lr_f2 (h := fun z => z) C hH (lr_run2 C hH w_7_175 lg_yX10_toldShare lh_yX10_toldShare (kX10_toldShare l E (a2 h0) x.2.1) (As := []) rfl dL_law_2103 rfl hl.1 (Nat.le_of_ble_eq_true rfl) ⟨Nat.le_of_ble_eq_true rfl, Nat.le_of_ble_eq_true rfl⟩ ⟨by have := hcap.1; show cells + 1 + 0 ≤ 603072; omega, by have := hcap.2; show slots + 6 + 0 ≤ 7211114; omega⟩) (fun yb2 H locs hH => ?_)
  refine lv_fstore (lv' := [(7, .float yb2.1), (6, .int ya1.1), (0, .ref b), (1, .ref (a1 h0 121)), (2, .ref (a2 h0 0)), (3, .ref (h0 + 143)), (4, .ref (h0 + 144)), (5, .int n)]) hx hb dL_law_2106 hl (by decide) rfl (fun ls hl => ?_)
  refine lv_aload_n hx hb dL_law_2108 rfl (lv_at hl 4 rfl) ?_
  refine lr_ip2 (v := (fX10_thrown yb2.2, yb2.2)) C hH (lr_run2 C hH w_6_67 lg_yX10_thrown lh_yX10_thrown (kX10_thrown l E (a2 h0) yb2.2) (As := []) rfl dL_law_2109 rfl hl.1 (Nat.le_of_ble_eq_true rfl) ⟨Nat.le_of_ble_eq_true rfl, Nat.le_of_ble_eq_true rfl⟩ ⟨by have := hcap.1; show cells + 1 + 0 + 0 ≤ 603072; omega, by have := hcap.2; show slots + 6 + 0 + 0 ≤ 7211114; omega⟩) (fun H locs hH => ?_)
  refine lv_iload hx hb dL_law_2112 (lv_at hl 1 rfl) ?_
  refine kb_icmp_eq (tgt := 2119) hx hb dL_law_2114 (by decide) (fun _ => ?_) (fun _ => W_none)
  refine lv_iload hx hb dL_law_2119 (lv_at hl 1 rfl) ?_
  refine kb_if_ne (tgt := 2157) hx hb dL_law_2121 (by decide) (fun _ => ?_) (fun _ => ?_)
  · refine lv_goto (tgt := 2261) hx hb dL_law_2157 (by decide) ?_
    exact W.widen (k := cells + 2) (n := slots + 9) (by show cells + 1 + 0 + 0 ≤ cells + 2; omega) (by show slots + 6 + 0 + 0 ≤ slots + 9; omega) (kk _ H locs ls hH (lv_sub hl [2, 3, 4, 5, 6, 7] rfl))
  · skip
    refine lv_aload hx hb dL_law_2124 (lv_at hl 6 rfl) ?_
    refine lv_iconst (v := 0) hx hb dL_law_2126 (by decide) ?_
    refine l_dald C hH dL_law_2127 ?_
    refine lv_fload hx hb dL_law_2128 (lv_at hl 0 rfl) ?_
    refine W_if (fun hn9 => ?_)
    refine lv_f2d hx hb dL_law_2130 hn9 ?_
    refine l_dcmp (tgt := 2157) hx hb dL_law_2131 dL_law_2132 (by decide) ?_
    refine lv_goto (tgt := 2261) hx hb dL_law_2157 (by decide) ?_
    exact W.widen (k := cells + 2) (n := slots + 9) (by show cells + 1 + 0 + 0 ≤ cells + 2; omega) (by show slots + 6 + 0 + 0 ≤ slots + 9; omega) (kk _ H locs ls hH (lv_sub hl [2, 3, 4, 5, 6, 7] rfl))
/-- case 30 -/
def gL_30 {α : Type} (xs : Nat → Int32) (i : Nat) (x : LST) (G : LST → Option α) : Option α := (fL_undo x.1 x.2.2.1).bind fun ya1 => (fX10_undo x.2.1).bind fun yb2 => (if (fX10_thrown yb2.2) = ya1.1 then (if ya1.1 = 0 then (if ya1.2.2 = (Int32.toInt64 yb2.1) then G (ya1.2.1, yb2.2, ya1.2.2, x.2.2.2) else none) else G (ya1.2.1, yb2.2, ya1.2.2, x.2.2.2)) else none)
set_option maxHeartbeats 4000000 in
set_option maxRecDepth 100000 in
theorem kc_30 {p : Program} {l : Launch} (hl9 : l.stackTraces = false) {e : Env} {s : State} {m : MethodId} {args : Array Value} {below : List Frame} {meth : Method} {c : Code} {E : KE} {h0 b L : Nat} {xs : Nat → Int32} (C : LB p s m c args meth E h0) (hX : va_X b L xs s s.heap) (hbl : b < s.heap.size) {x : LST} {H : Heap} {locs : List Loc} {cells slots : Nat} (hH : LH E h0 x s H locs) {i : Nat} (hi : i + 5 ≤ L) (hL : L ≤ 2560) {n : Int32} (hn : n = nI i) {ls : Array Slot} (hl : lv_has ls 9 (lv9 b h0 n)) {α : Type} {f : α → State → Prop} {G : LST → Option α} (hcap : cells + 2 ≤ 603072 ∧ slots + 9 ≤ 7211114)
    (kk : ∀ (x : LST) (H : Heap) (locs : List Loc) (ls : Array Slot), LH E h0 x s H locs → lv_has ls 9 (lv9 b h0 n) → W p l e room_1 s m args below meth c H locs (cells + 2) (slots + 9) (Qn f (G x)) (F0 m 2261 ls [])) : W p l e room_1 s m args below meth c H locs cells slots (Qn f (gL_30 xs i x G)) (F0 m 2160 ls []) := by
  have hx := C.1.1.1
  have hb := C.1.1.2.1
  unfold gL_30

  refine lv_aload_n hx hb dL_law_2160 rfl (lv_at hl 1 rfl) ?_
  refine lv_aload_n hx hb dL_law_2161 rfl (lv_at hl 3 rfl) ?_
  refine lr_wL C hH (kL_undo l hl9 E (a1 h0) x.1  (h0 + 143) x.2.2.1) w_5_177 lw_undo ⟨rfl, rfl⟩ rfl dL_law_2162 rfl hl.1 (Nat.le_of_ble_eq_true rfl) ⟨Nat.le_of_ble_eq_true rfl, Nat.le_of_ble_eq_true rfl⟩ ⟨by have := hcap.1; show cells + 1 ≤ 603072; omega, by have := hcap.2; show slots + 6 ≤ 7211114; omega⟩ (fun ya1 H locs hH => ?_)
  refine lv_istore (lv' := [(6, .int ya1.1), (0, .ref b), (1, .ref (a1 h0 121)), (2, .ref (a2 h0 0)), (3, .ref (h0 + 143)), (4, .ref (h0 + 144)), (5, .int n)]) hx hb dL_law_2165 hl (by decide) rfl (fun ls hl => ?_)
  refine lv_aload_n hx hb dL_law_2167 rfl (lv_at hl 3 rfl) ?_
  refine lr_i2 (h := fun z => z) C hH (lr_run2 C hH w_7_179 lg_yX10_undo lh_yX10_undo (kX10_undo l E (a2 h0) x.2.1) (As := []) rfl dL_law_2168 rfl hl.1 (Nat.le_of_ble_eq_true rfl) ⟨Nat.le_of_ble_eq_true rfl, Nat.le_of_ble_eq_true rfl⟩ ⟨by have := hcap.1; show cells + 1 + 0 ≤ 603072; omega, by have := hcap.2; show slots + 6 + 0 ≤ 7211114; omega⟩) (fun yb2 H locs hH => ?_)
  refine lv_istore (lv' := [(7, .int yb2.1), (6, .int ya1.1), (0, .ref b), (1, .ref (a1 h0 121)), (2, .ref (a2 h0 0)), (3, .ref (h0 + 143)), (4, .ref (h0 + 144)), (5, .int n)]) hx hb dL_law_2171 hl (by decide) rfl (fun ls hl => ?_)
  refine lv_aload_n hx hb dL_law_2173 rfl (lv_at hl 4 rfl) ?_
  refine lr_ip2 (v := (fX10_thrown yb2.2, yb2.2)) C hH (lr_run2 C hH w_6_67 lg_yX10_thrown lh_yX10_thrown (kX10_thrown l E (a2 h0) yb2.2) (As := []) rfl dL_law_2174 rfl hl.1 (Nat.le_of_ble_eq_true rfl) ⟨Nat.le_of_ble_eq_true rfl, Nat.le_of_ble_eq_true rfl⟩ ⟨by have := hcap.1; show cells + 1 + 0 + 0 ≤ 603072; omega, by have := hcap.2; show slots + 6 + 0 + 0 ≤ 7211114; omega⟩) (fun H locs hH => ?_)
  refine lv_iload hx hb dL_law_2177 (lv_at hl 1 rfl) ?_
  refine kb_icmp_eq (tgt := 2184) hx hb dL_law_2179 (by decide) (fun _ => ?_) (fun _ => W_none)
  refine lv_iload hx hb dL_law_2184 (lv_at hl 1 rfl) ?_
  refine kb_if_ne (tgt := 2201) hx hb dL_law_2186 (by decide) (fun _ => ?_) (fun _ => ?_)
  · refine lv_goto (tgt := 2261) hx hb dL_law_2201 (by decide) ?_
    exact W.widen (k := cells + 2) (n := slots + 9) (by show cells + 1 + 0 + 0 ≤ cells + 2; omega) (by show slots + 6 + 0 + 0 ≤ slots + 9; omega) (kk _ H locs ls hH (lv_sub hl [2, 3, 4, 5, 6, 7] rfl))
  · skip
    refine lv_aload_n hx hb dL_law_2189 rfl (lv_at hl 5 rfl) ?_
    refine lv_iconst (v := 0) hx hb dL_law_2190 (by decide) ?_
    refine l_lald C hH dL_law_2191 ?_
    refine lv_iload hx hb dL_law_2192 (lv_at hl 0 rfl) ?_
    refine lv_i2l (v := (Int32.toInt64 yb2.1)) hx hb dL_law_2194 rfl ?_
    refine l_lcmp (tgt := 2201) hx hb dL_law_2195 dL_law_2196 (by decide) ?_
    refine lv_goto (tgt := 2261) hx hb dL_law_2201 (by decide) ?_
    exact W.widen (k := cells + 2) (n := slots + 9) (by show cells + 1 + 0 + 0 ≤ cells + 2; omega) (by show slots + 6 + 0 + 0 ≤ slots + 9; omega) (kk _ H locs ls hH (lv_sub hl [2, 3, 4, 5, 6, 7] rfl))
/-- case 31 -/
def gL_31 {α : Type} (xs : Nat → Int32) (i : Nat) (x : LST) (G : LST → Option α) : Option α := (fX9_save x.1).bind fun yb1 => (fX10_save x.2.1).bind fun yb2 => (if yb1.1 = yb2.1 then G (yb1.2, yb2.2, x.2.2.1, x.2.2.2) else none)
set_option maxHeartbeats 4000000 in
set_option maxRecDepth 100000 in
theorem kc_31 {p : Program} {l : Launch} (hl9 : l.stackTraces = false) {e : Env} {s : State} {m : MethodId} {args : Array Value} {below : List Frame} {meth : Method} {c : Code} {E : KE} {h0 b L : Nat} {xs : Nat → Int32} (C : LB p s m c args meth E h0) (hX : va_X b L xs s s.heap) (hbl : b < s.heap.size) {x : LST} {H : Heap} {locs : List Loc} {cells slots : Nat} (hH : LH E h0 x s H locs) {i : Nat} (hi : i + 5 ≤ L) (hL : L ≤ 2560) {n : Int32} (hn : n = nI i) {ls : Array Slot} (hl : lv_has ls 9 (lv9 b h0 n)) {α : Type} {f : α → State → Prop} {G : LST → Option α} (hcap : cells + 2 ≤ 603072 ∧ slots + 9 ≤ 7211114)
    (kk : ∀ (x : LST) (H : Heap) (locs : List Loc) (ls : Array Slot), LH E h0 x s H locs → lv_has ls 9 (lv9 b h0 n) → W p l e room_1 s m args below meth c H locs (cells + 2) (slots + 9) (Qn f (G x)) (F0 m 2261 ls [])) : W p l e room_1 s m args below meth c H locs cells slots (Qn f (gL_31 xs i x G)) (F0 m 2204 ls []) := by
  have hx := C.1.1.1
  have hb := C.1.1.2.1
  unfold gL_31

  refine lv_aload_n hx hb dL_law_2204 rfl (lv_at hl 1 rfl) ?_
  refine lr_i1 (h := fun z => z) C hH (lr_run1 C hH w_2_204 lg_yX9_save lh_yX9_save (kX9_save l E (a1 h0) x.1) (As := []) rfl dL_law_2205 rfl hl.1 (Nat.le_of_ble_eq_true rfl) ⟨Nat.le_of_ble_eq_true rfl, Nat.le_of_ble_eq_true rfl⟩ ⟨by have := hcap.1; show cells + 0 ≤ 603072; omega, by have := hcap.2; show slots + 0 ≤ 7211114; omega⟩) (fun yb1 H locs hH => ?_)
  refine lv_aload_n hx hb dL_law_2208 rfl (lv_at hl 2 rfl) ?_
  refine lr_i2 (h := fun z => z) C hH (lr_run2 C hH w_7_183 lg_yX10_save lh_yX10_save (kX10_save l E (a2 h0) x.2.1) (As := []) rfl dL_law_2209 rfl hl.1 (Nat.le_of_ble_eq_true rfl) ⟨Nat.le_of_ble_eq_true rfl, Nat.le_of_ble_eq_true rfl⟩ ⟨by have := hcap.1; show cells + 0 + 0 ≤ 603072; omega, by have := hcap.2; show slots + 0 + 0 ≤ 7211114; omega⟩) (fun yb2 H locs hH => ?_)
  refine kb_icmp_eq (tgt := 2261) hx hb dL_law_2212 (by decide) (fun _ => ?_) (fun _ => W_none)
  exact W.widen (k := cells + 2) (n := slots + 9) (by show cells + 0 + 0 ≤ cells + 2; omega) (by show slots + 0 + 0 ≤ slots + 9; omega) (kk _ H locs ls hH (lv_sub hl [0, 1, 2, 3, 4, 5] rfl))
/-- case 32 -/
def gL_32 {α : Type} (xs : Nat → Int32) (i : Nat) (x : LST) (G : LST → Option α) : Option α := (fL_restore x.1 x.2.2.1).bind fun ya1 => (fX10_restore x.2.1).bind fun yb2 => (if (fX10_thrown yb2.2) = ya1.1 then (if ya1.1 = 0 then (if ya1.2.2 = (Int32.toInt64 yb2.1) then G (ya1.2.1, yb2.2, ya1.2.2, x.2.2.2) else none) else G (ya1.2.1, yb2.2, ya1.2.2, x.2.2.2)) else none)
set_option maxHeartbeats 4000000 in
set_option maxRecDepth 100000 in
theorem kc_32 {p : Program} {l : Launch} (hl9 : l.stackTraces = false) {e : Env} {s : State} {m : MethodId} {args : Array Value} {below : List Frame} {meth : Method} {c : Code} {E : KE} {h0 b L : Nat} {xs : Nat → Int32} (C : LB p s m c args meth E h0) (hX : va_X b L xs s s.heap) (hbl : b < s.heap.size) {x : LST} {H : Heap} {locs : List Loc} {cells slots : Nat} (hH : LH E h0 x s H locs) {i : Nat} (hi : i + 5 ≤ L) (hL : L ≤ 2560) {n : Int32} (hn : n = nI i) {ls : Array Slot} (hl : lv_has ls 9 (lv9 b h0 n)) {α : Type} {f : α → State → Prop} {G : LST → Option α} (hcap : cells + 2 ≤ 603072 ∧ slots + 9 ≤ 7211114)
    (kk : ∀ (x : LST) (H : Heap) (locs : List Loc) (ls : Array Slot), LH E h0 x s H locs → lv_has ls 9 (lv9 b h0 n) → W p l e room_1 s m args below meth c H locs (cells + 2) (slots + 9) (Qn f (G x)) (F0 m 2261 ls [])) : W p l e room_1 s m args below meth c H locs cells slots (Qn f (gL_32 xs i x G)) (F0 m 2217 ls []) := by
  have hx := C.1.1.1
  have hb := C.1.1.2.1
  unfold gL_32

  refine lv_aload_n hx hb dL_law_2217 rfl (lv_at hl 1 rfl) ?_
  refine lv_aload_n hx hb dL_law_2218 rfl (lv_at hl 3 rfl) ?_
  refine lr_wL C hH (kL_restore l hl9 E (a1 h0) x.1  (h0 + 143) x.2.2.1) w_5_191 lw_restore ⟨rfl, rfl⟩ rfl dL_law_2219 rfl hl.1 (Nat.le_of_ble_eq_true rfl) ⟨Nat.le_of_ble_eq_true rfl, Nat.le_of_ble_eq_true rfl⟩ ⟨by have := hcap.1; show cells + 1 ≤ 603072; omega, by have := hcap.2; show slots + 6 ≤ 7211114; omega⟩ (fun ya1 H locs hH => ?_)
  refine lv_istore (lv' := [(6, .int ya1.1), (0, .ref b), (1, .ref (a1 h0 121)), (2, .ref (a2 h0 0)), (3, .ref (h0 + 143)), (4, .ref (h0 + 144)), (5, .int n)]) hx hb dL_law_2222 hl (by decide) rfl (fun ls hl => ?_)
  refine lv_aload_n hx hb dL_law_2224 rfl (lv_at hl 3 rfl) ?_
  refine lr_i2 (h := fun z => z) C hH (lr_run2 C hH w_7_187 lg_yX10_restore lh_yX10_restore (kX10_restore l E (a2 h0) x.2.1) (As := []) rfl dL_law_2225 rfl hl.1 (Nat.le_of_ble_eq_true rfl) ⟨Nat.le_of_ble_eq_true rfl, Nat.le_of_ble_eq_true rfl⟩ ⟨by have := hcap.1; show cells + 1 + 0 ≤ 603072; omega, by have := hcap.2; show slots + 6 + 0 ≤ 7211114; omega⟩) (fun yb2 H locs hH => ?_)
  refine lv_istore (lv' := [(7, .int yb2.1), (6, .int ya1.1), (0, .ref b), (1, .ref (a1 h0 121)), (2, .ref (a2 h0 0)), (3, .ref (h0 + 143)), (4, .ref (h0 + 144)), (5, .int n)]) hx hb dL_law_2228 hl (by decide) rfl (fun ls hl => ?_)
  refine lv_aload_n hx hb dL_law_2230 rfl (lv_at hl 4 rfl) ?_
  refine lr_ip2 (v := (fX10_thrown yb2.2, yb2.2)) C hH (lr_run2 C hH w_6_67 lg_yX10_thrown lh_yX10_thrown (kX10_thrown l E (a2 h0) yb2.2) (As := []) rfl dL_law_2231 rfl hl.1 (Nat.le_of_ble_eq_true rfl) ⟨Nat.le_of_ble_eq_true rfl, Nat.le_of_ble_eq_true rfl⟩ ⟨by have := hcap.1; show cells + 1 + 0 + 0 ≤ 603072; omega, by have := hcap.2; show slots + 6 + 0 + 0 ≤ 7211114; omega⟩) (fun H locs hH => ?_)
  refine lv_iload hx hb dL_law_2234 (lv_at hl 1 rfl) ?_
  refine kb_icmp_eq (tgt := 2241) hx hb dL_law_2236 (by decide) (fun _ => ?_) (fun _ => W_none)
  refine lv_iload hx hb dL_law_2241 (lv_at hl 1 rfl) ?_
  refine kb_if_ne (tgt := 2258) hx hb dL_law_2243 (by decide) (fun _ => ?_) (fun _ => ?_)
  · refine lv_goto (tgt := 2261) hx hb dL_law_2258 (by decide) ?_
    exact W.widen (k := cells + 2) (n := slots + 9) (by show cells + 1 + 0 + 0 ≤ cells + 2; omega) (by show slots + 6 + 0 + 0 ≤ slots + 9; omega) (kk _ H locs ls hH (lv_sub hl [2, 3, 4, 5, 6, 7] rfl))
  · skip
    refine lv_aload_n hx hb dL_law_2246 rfl (lv_at hl 5 rfl) ?_
    refine lv_iconst (v := 0) hx hb dL_law_2247 (by decide) ?_
    refine l_lald C hH dL_law_2248 ?_
    refine lv_iload hx hb dL_law_2249 (lv_at hl 0 rfl) ?_
    refine lv_i2l (v := (Int32.toInt64 yb2.1)) hx hb dL_law_2251 rfl ?_
    refine l_lcmp (tgt := 2258) hx hb dL_law_2252 dL_law_2253 (by decide) ?_
    refine lv_goto (tgt := 2261) hx hb dL_law_2258 (by decide) ?_
    exact W.widen (k := cells + 2) (n := slots + 9) (by show cells + 1 + 0 + 0 ≤ cells + 2; omega) (by show slots + 6 + 0 + 0 ≤ slots + 9; omega) (kk _ H locs ls hH (lv_sub hl [2, 3, 4, 5, 6, 7] rfl))
