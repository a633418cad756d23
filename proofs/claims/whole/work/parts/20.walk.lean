/-! printed by wip/gen: walks -/
set_option maxHeartbeats 2000000 in
set_option maxRecDepth 20000 in
theorem t_M_readItem_4 {l : Launch} {p : Program} {e : Env} {s : State} {m : MethodId} {args : Array Value} {below : List Frame} {meth : Method} {c : Code} {D : kD} {wc0 : va_W} {h : Nat} {h_now : Nat} {h_kept : Nat} {h_aside : Nat} {h_found : Nat} {h_down : Nat} {h_along : Nat} {h_parts : Nat} {h_gone : Nat} {h_tape : Nat} {h_kinds : Nat} {h_items : Nat} {h_widths : Nat} {h_sizes : Nat} {h_numbers : Nat} {h_moved : Nat} {v_isKept : Int32} {v_taped : Int32} {v_begins : Int32} {v_ends : Int32} {v_sort : Int32} {v_value : Int32} {v_isWrong : Int32} {v_itemMany : Int32} {v_farmMany : Int32} {v_farmCells : Int64} {v_down : Nat → Int32} {v_along : Nat → Int32} {v_tape : Nat → Int32} {v_items : Nat → Int32} {s0 : Int32} {out : Int32 × Int32 × Int32 × Int32 × Int32 × Int32 × Int32 × Int64 × (Nat → Int32)} (X : kX p m meth c s args D (va_A wc0 s.heap.size) b_M_readItem "MountainFarmsModel" 4 none) (hf : f_M_readItem_4 s0 v_taped v_begins v_ends v_sort v_value v_isWrong v_itemMany v_farmMany v_farmCells v_tape v_items = some out) {H : Heap} {locs : List Loc} (hV : kV D (va_A wc0 s.heap.size) s (wd_M_readItem D h h_now h_kept h_aside h_found h_down h_along h_parts h_gone h_tape h_kinds h_items h_widths h_sizes h_numbers h_moved v_isKept v_taped v_begins v_ends v_sort v_value v_isWrong v_itemMany v_farmMany v_farmCells v_down v_along v_tape v_items) H locs) {ls : Array Slot} (hl : lv_has ls 4 [(0, .ref h)]) : W p l e { frames := 6, cells := 0, slots := 0, locals := 131 } s m args below meth c H locs 0 0 (MQ below (kQv D wc0 (wd_M_readItem D h h_now h_kept h_aside h_found h_down h_along h_parts h_gone h_tape h_kinds h_items h_widths h_sizes h_numbers h_moved v_isKept v_taped out.1 out.2.1 out.2.2.1 out.2.2.2.1 out.2.2.2.2.1 out.2.2.2.2.2.1 out.2.2.2.2.2.2.1 out.2.2.2.2.2.2.2.1 v_down v_along v_tape out.2.2.2.2.2.2.2.2) s.heap.size) args s 0 0 (va_A wc0 s.heap.size)) (F0 m 122 ls [.int s0]) := by
  unfold f_M_readItem_4 at hf
  obtain ⟨hx, hb, -⟩ := id X
  refine lv_istore_n (lv' := [(2, .int s0), (0, .ref h)]) hx hb d_M_readItem_122 rfl hl (by decide) rfl (fun ls hl => ?_)
  refine lv_aload_n hx hb d_M_readItem_123 rfl (lv_at hl 1 rfl) ?_
  refine lv_iconst (v := 1) hx hb d_M_readItem_124 ic_1 ?_
  obtain ⟨v_begins_219, v_ends_220, v_sort_221, v_value_222, v_isWrong_223, hc_224, hf⟩ := kb5_some hf
  refine k_cvv (w1 := (wd_M_must D h h_now h_kept h_aside h_found h_down h_along h_parts h_gone h_tape h_kinds h_items h_widths h_sizes h_numbers h_moved v_isKept v_taped v_begins_219 v_ends_220 v_sort_221 v_value_222 v_isWrong_223 v_itemMany v_farmMany v_farmCells v_tape)) (ws' := (wd_M_readItem D h h_now h_kept h_aside h_found h_down h_along h_parts h_gone h_tape h_kinds h_items h_widths h_sizes h_numbers h_moved v_isKept v_taped v_begins_219 v_ends_220 v_sort_221 v_value_222 v_isWrong_223 v_itemMany v_farmMany v_farmCells v_down v_along v_tape v_items)) X hV hl.1 (c_M_must D h h_now h_kept h_aside h_found h_down h_along h_parts h_gone h_tape h_kinds h_items h_widths h_sizes h_numbers h_moved v_isKept v_taped v_begins v_ends v_sort v_value v_isWrong v_itemMany v_farmMany v_farmCells v_tape (1 : Int32) hc_224) fk_M_must gw_1289 rfl 0 9 rfl rfl [0, 3] [some 0, none, none, some 1, none, none] rfl rfl ⟨rfl, rfl, rfl, rfl, rfl, rfl, rfl, rfl, rfl, rfl, trivial⟩ rfl rfl rfl d_M_readItem_125 (fun H locs hV => ?_)
  refine lv_aload_n hx hb d_M_readItem_128 rfl (lv_at hl 1 rfl) ?_
  refine lv_iconst (v := 0) hx hb d_M_readItem_129 ic_0 ?_
  refine lv_bipush (v := 35) hx hb d_M_readItem_130 bp_35 ?_
  obtain ⟨r_225, v_begins_226, v_ends_227, v_sort_228, v_value_229, v_isWrong_230, hc_231, hf⟩ := kb6_some hf
  refine k_cvi (w1 := (wd_M_number D h h_now h_kept h_aside h_found h_down h_along h_parts h_gone h_tape h_kinds h_items h_widths h_sizes h_numbers h_moved v_isKept v_taped v_begins_226 v_ends_227 v_sort_228 v_value_229 v_isWrong_230 v_itemMany v_farmMany v_farmCells v_tape)) (r := r_225) (ws' := (wd_M_readItem D h h_now h_kept h_aside h_found h_down h_along h_parts h_gone h_tape h_kinds h_items h_widths h_sizes h_numbers h_moved v_isKept v_taped v_begins_226 v_ends_227 v_sort_228 v_value_229 v_isWrong_230 v_itemMany v_farmMany v_farmCells v_down v_along v_tape v_items)) X hV hl.1 (c_M_number D h h_now h_kept h_aside h_found h_down h_along h_parts h_gone h_tape h_kinds h_items h_widths h_sizes h_numbers h_moved v_isKept v_taped v_begins_219 v_ends_220 v_sort_221 v_value_222 v_isWrong_223 v_itemMany v_farmMany v_farmCells v_tape (0 : Int32) (35 : Int32) hc_231) fk_M_number gw_1295 rfl 0 9 rfl rfl [0, 3] [some 0, none, none, some 1, none, none] rfl rfl ⟨rfl, rfl, rfl, rfl, rfl, rfl, rfl, rfl, rfl, rfl, trivial⟩ rfl rfl rfl d_M_readItem_132 (fun H locs hV => ?_)
  refine lv_istore_n (lv' := [(3, .int r_225), (2, .int s0), (0, .ref h)]) hx hb d_M_readItem_135 rfl hl (by decide) rfl (fun ls hl => ?_)
  refine lv_aload_n hx hb d_M_readItem_136 rfl (lv_at hl 2 rfl) ?_
  refine lv_iload_n hx hb d_M_readItem_137 rfl (lv_at hl 1 rfl) ?_
  refine lv_iload_n hx hb d_M_readItem_138 rfl (lv_at hl 0 rfl) ?_
  refine lv_aload_n hx hb d_M_readItem_139 rfl (lv_at hl 2 rfl) ?_
  refine lv_iconst (v := 0) hx hb d_M_readItem_140 ic_0 ?_
  refine lv_bipush (v := 99) hx hb d_M_readItem_141 bp_99 ?_
  obtain ⟨r_232, v_begins_233, v_ends_234, v_sort_235, v_value_236, v_isWrong_237, hc_238, hf⟩ := kb6_some hf
  refine k_cvi (w1 := (wd_M_number D h h_now h_kept h_aside h_found h_down h_along h_parts h_gone h_tape h_kinds h_items h_widths h_sizes h_numbers h_moved v_isKept v_taped v_begins_233 v_ends_234 v_sort_235 v_value_236 v_isWrong_237 v_itemMany v_farmMany v_farmCells v_tape)) (r := r_232) (ws' := (wd_M_readItem D h h_now h_kept h_aside h_found h_down h_along h_parts h_gone h_tape h_kinds h_items h_widths h_sizes h_numbers h_moved v_isKept v_taped v_begins_233 v_ends_234 v_sort_235 v_value_236 v_isWrong_237 v_itemMany v_farmMany v_farmCells v_down v_along v_tape v_items)) X hV hl.1 (c_M_number D h h_now h_kept h_aside h_found h_down h_along h_parts h_gone h_tape h_kinds h_items h_widths h_sizes h_numbers h_moved v_isKept v_taped v_begins_226 v_ends_227 v_sort_228 v_value_229 v_isWrong_230 v_itemMany v_farmMany v_farmCells v_tape (0 : Int32) (99 : Int32) hc_238) fk_M_number gw_1295 rfl 0 9 rfl rfl [0, 3] [some 0, none, none, some 1, none, none] rfl rfl ⟨rfl, rfl, rfl, rfl, rfl, rfl, rfl, rfl, rfl, rfl, trivial⟩ rfl rfl rfl d_M_readItem_143 (fun H locs hV => ?_)
  refine lv_iconst (v := 0) hx hb d_M_readItem_146 ic_0 ?_
  refine lv_iconst (v := 0) hx hb d_M_readItem_147 ic_0 ?_
  refine lv_iconst (v := 0) hx hb d_M_readItem_148 ic_0 ?_
  obtain ⟨v_itemMany_239, v_items_240, hc_241, hf⟩ := kb2_some hf
  refine k_cvv (w1 := (wd_M_item D h h_now h_kept h_aside h_found h_down h_along h_parts h_gone h_tape h_kinds h_items h_widths h_sizes h_numbers h_moved v_isKept v_taped v_begins_233 v_ends_234 v_sort_235 v_value_236 v_isWrong_237 v_itemMany_239 v_farmMany v_farmCells v_items_240)) (ws' := (wd_M_readItem D h h_now h_kept h_aside h_found h_down h_along h_parts h_gone h_tape h_kinds h_items h_widths h_sizes h_numbers h_moved v_isKept v_taped v_begins_233 v_ends_234 v_sort_235 v_value_236 v_isWrong_237 v_itemMany_239 v_farmMany v_farmCells v_down v_along v_tape v_items_240)) X hV hl.1 (c_M_item D h h_now h_kept h_aside h_found h_down h_along h_parts h_gone h_tape h_kinds h_items h_widths h_sizes h_numbers h_moved v_isKept v_taped v_begins_233 v_ends_234 v_sort_235 v_value_236 v_isWrong_237 v_itemMany v_farmMany v_farmCells v_items s0 r_225 r_232 (0 : Int32) (0 : Int32) (0 : Int32) hc_241) fk_M_item gw_1299 rfl 0 9 rfl rfl [0, 5] [some 0, none, none, none, none, some 1] rfl rfl ⟨rfl, rfl, rfl, rfl, rfl, rfl, rfl, rfl, rfl, rfl, trivial⟩ rfl rfl rfl d_M_readItem_149 (fun H locs hV => ?_)
  refine lv_goto (tgt := 249) hx hb d_M_readItem_152 (by decide) ?_
  have e_ := Option.some.inj hf
  subst e_
  exact k_vret X rfl hV d_M_readItem_249
set_option maxHeartbeats 2000000 in
set_option maxRecDepth 20000 in
theorem t_M_readItem_3 {l : Launch} {p : Program} {e : Env} {s : State} {m : MethodId} {args : Array Value} {below : List Frame} {meth : Method} {c : Code} {D : kD} {wc0 : va_W} {h : Nat} {h_now : Nat} {h_kept : Nat} {h_aside : Nat} {h_found : Nat} {h_down : Nat} {h_along : Nat} {h_parts : Nat} {h_gone : Nat} {h_tape : Nat} {h_kinds : Nat} {h_items : Nat} {h_widths : Nat} {h_sizes : Nat} {h_numbers : Nat} {h_moved : Nat} {v_isKept : Int32} {v_taped : Int32} {v_begins : Int32} {v_ends : Int32} {v_sort : Int32} {v_value : Int32} {v_isWrong : Int32} {v_itemMany : Int32} {v_farmMany : Int32} {v_farmCells : Int64} {v_down : Nat → Int32} {v_along : Nat → Int32} {v_tape : Nat → Int32} {v_items : Nat → Int32} {out : Int32 × Int32 × Int32 × Int32 × Int32 × Int32 × Int32 × Int64 × (Nat → Int32)} (X : kX p m meth c s args D (va_A wc0 s.heap.size) b_M_readItem "MountainFarmsModel" 4 none) (hf : f_M_readItem_3 v_taped v_begins v_ends v_sort v_value v_isWrong v_itemMany v_farmMany v_farmCells v_tape v_items = some out) {H : Heap} {locs : List Loc} (hV : kV D (va_A wc0 s.heap.size) s (wd_M_readItem D h h_now h_kept h_aside h_found h_down h_along h_parts h_gone h_tape h_kinds h_items h_widths h_sizes h_numbers h_moved v_isKept v_taped v_begins v_ends v_sort v_value v_isWrong v_itemMany v_farmMany v_farmCells v_down v_along v_tape v_items) H locs) {ls : Array Slot} (hl : lv_has ls 4 [(0, .ref h)]) : W p l e { frames := 6, cells := 0, slots := 0, locals := 131 } s m args below meth c H locs 0 0 (MQ below (kQv D wc0 (wd_M_readItem D h h_now h_kept h_aside h_found h_down h_along h_parts h_gone h_tape h_kinds h_items h_widths h_sizes h_numbers h_moved v_isKept v_taped out.1 out.2.1 out.2.2.1 out.2.2.2.1 out.2.2.2.2.1 out.2.2.2.2.2.1 out.2.2.2.2.2.2.1 out.2.2.2.2.2.2.2.1 v_down v_along v_tape out.2.2.2.2.2.2.2.2) s.heap.size) args s 0 0 (va_A wc0 s.heap.size)) (F0 m 105 ls []) := by
  unfold f_M_readItem_3 at hf
  obtain ⟨hx, hb, -⟩ := id X
  refine lv_aload_n hx hb d_M_readItem_105 rfl (lv_at hl 0 rfl) ?_
  refine k_ldcSw X 25 rfl rfl rfl d_M_readItem_106 ?_
  obtain ⟨r_216, hc_217, hf⟩ := kb1_some hf
  refine k_cvi (w1 := (wd_M_isWord D h h_now h_kept h_aside h_found h_down h_along h_parts h_gone h_tape h_kinds h_items h_widths h_sizes h_numbers h_moved v_isKept v_taped v_begins v_ends v_sort v_value v_isWrong v_itemMany v_farmMany v_farmCells v_tape)) (r := r_216) (ws' := (wd_M_readItem D h h_now h_kept h_aside h_found h_down h_along h_parts h_gone h_tape h_kinds h_items h_widths h_sizes h_numbers h_moved v_isKept v_taped v_begins v_ends v_sort v_value v_isWrong v_itemMany v_farmMany v_farmCells v_down v_along v_tape v_items)) X hV hl.1 (c_M_isWord D h h_now h_kept h_aside h_found h_down h_along h_parts h_gone h_tape h_kinds h_items h_widths h_sizes h_numbers h_moved v_isKept v_taped v_begins v_ends v_sort v_value v_isWrong v_itemMany v_farmMany v_farmCells v_tape 25 rfl hc_217) fk_M_isWord gw_1279 rfl 0 9 rfl rfl [0, 3] [some 0, none, none, some 1, none, none] rfl rfl ⟨rfl, rfl, rfl, rfl, rfl, rfl, rfl, rfl, rfl, rfl, trivial⟩ rfl rfl rfl d_M_readItem_109 (fun H locs hV => ?_)
  refine lv_if_eq (tgt := 120) hx hb d_M_readItem_112 (by decide) (fun c_218 => ?_) (fun c_218 => ?_)
  · replace hf := kifp c_218 hf
    refine lv_bipush (v := 11) hx hb d_M_readItem_120 bp_11 ?_
    exact t_M_readItem_4 X hf hV (lv_sub hl [0] rfl)
  replace hf := kifn c_218 hf
  refine lv_bipush (v := 12) hx hb d_M_readItem_115 bp_12 ?_
  refine lv_goto (tgt := 122) hx hb d_M_readItem_117 (by decide) ?_
  exact t_M_readItem_4 X hf hV (lv_sub hl [0] rfl)
set_option maxHeartbeats 2000000 in
set_option maxRecDepth 20000 in
theorem t_M_readItem_6 {l : Launch} {p : Program} {e : Env} {s : State} {m : MethodId} {args : Array Value} {below : List Frame} {meth : Method} {c : Code} {D : kD} {wc0 : va_W} {h : Nat} {h_now : Nat} {h_kept : Nat} {h_aside : Nat} {h_found : Nat} {h_down : Nat} {h_along : Nat} {h_parts : Nat} {h_gone : Nat} {h_tape : Nat} {h_kinds : Nat} {h_items : Nat} {h_widths : Nat} {h_sizes : Nat} {h_numbers : Nat} {h_moved : Nat} {v_isKept : Int32} {v_taped : Int32} {v_begins : Int32} {v_ends : Int32} {v_sort : Int32} {v_value : Int32} {v_isWrong : Int32} {v_itemMany : Int32} {v_farmMany : Int32} {v_farmCells : Int64} {v_down : Nat → Int32} {v_along : Nat → Int32} {v_tape : Nat → Int32} {v_items : Nat → Int32} {s1 : Int32} {out : Int32 × Int32 × Int32 × Int32 × Int32 × Int32 × Int32 × Int64 × (Nat → Int32)} (X : kX p m meth c s args D (va_A wc0 s.heap.size) b_M_readItem "MountainFarmsModel" 4 none) (hf : f_M_readItem_6 s1 v_taped v_begins v_ends v_sort v_value v_isWrong v_itemMany v_farmMany v_farmCells v_tape v_items = some out) {H : Heap} {locs : List Loc} (hV : kV D (va_A wc0 s.heap.size) s (wd_M_readItem D h h_now h_kept h_aside h_found h_down h_along h_parts h_gone h_tape h_kinds h_items h_widths h_sizes h_numbers h_moved v_isKept v_taped v_begins v_ends v_sort v_value v_isWrong v_itemMany v_farmMany v_farmCells v_down v_along v_tape v_items) H locs) {ls : Array Slot} (hl : lv_has ls 4 []) : W p l e { frames := 6, cells := 0, slots := 0, locals := 131 } s m args below meth c H locs 0 0 (MQ below (kQv D wc0 (wd_M_readItem D h h_now h_kept h_aside h_found h_down h_along h_parts h_gone h_tape h_kinds h_items h_widths h_sizes h_numbers h_moved v_isKept v_taped out.1 out.2.1 out.2.2.1 out.2.2.2.1 out.2.2.2.2.1 out.2.2.2.2.2.1 out.2.2.2.2.2.2.1 out.2.2.2.2.2.2.2.1 v_down v_along v_tape out.2.2.2.2.2.2.2.2) s.heap.size) args s 0 0 (va_A wc0 s.heap.size)) (F0 m 228 ls [.int s1, .ref h]) := by
  unfold f_M_readItem_6 at hf
  obtain ⟨hx, hb, -⟩ := id X
  obtain ⟨v_begins_245, v_ends_246, v_sort_247, v_value_248, v_isWrong_249, v_itemMany_250, v_items_251, hc_252, hf⟩ := kb7_some hf
  refine k_cvv (w1 := (wd_M_readTenths D h h_now h_kept h_aside h_found h_down h_along h_parts h_gone h_tape h_kinds h_items h_widths h_sizes h_numbers h_moved v_isKept v_taped v_begins_245 v_ends_246 v_sort_247 v_value_248 v_isWrong_249 v_itemMany_250 v_farmMany v_farmCells v_tape v_items_251)) (ws' := (wd_M_readItem D h h_now h_kept h_aside h_found h_down h_along h_parts h_gone h_tape h_kinds h_items h_widths h_sizes h_numbers h_moved v_isKept v_taped v_begins_245 v_ends_246 v_sort_247 v_value_248 v_isWrong_249 v_itemMany_250 v_farmMany v_farmCells v_down v_along v_tape v_items_251)) X hV hl.1 (c_M_readTenths D h h_now h_kept h_aside h_found h_down h_along h_parts h_gone h_tape h_kinds h_items h_widths h_sizes h_numbers h_moved v_isKept v_taped v_begins v_ends v_sort v_value v_isWrong v_itemMany v_farmMany v_farmCells v_tape v_items s1 hc_252) fk_M_readTenths gw_1309 rfl 0 9 rfl rfl [0, 3, 5] [some 0, none, none, some 1, none, some 2] rfl rfl ⟨rfl, rfl, rfl, rfl, rfl, rfl, rfl, rfl, rfl, rfl, rfl, rfl, trivial⟩ rfl rfl rfl d_M_readItem_228 (fun H locs hV => ?_)
  refine lv_goto (tgt := 249) hx hb d_M_readItem_231 (by decide) ?_
  have e_ := Option.some.inj hf
  subst e_
  exact k_vret X rfl hV d_M_readItem_249
set_option maxHeartbeats 2000000 in
set_option maxRecDepth 20000 in
theorem t_M_readItem_5 {l : Launch} {p : Program} {e : Env} {s : State} {m : MethodId} {args : Array Value} {below : List Frame} {meth : Method} {c : Code} {D : kD} {wc0 : va_W} {h : Nat} {h_now : Nat} {h_kept : Nat} {h_aside : Nat} {h_found : Nat} {h_down : Nat} {h_along : Nat} {h_parts : Nat} {h_gone : Nat} {h_tape : Nat} {h_kinds : Nat} {h_items : Nat} {h_widths : Nat} {h_sizes : Nat} {h_numbers : Nat} {h_moved : Nat} {v_isKept : Int32} {v_taped : Int32} {v_begins : Int32} {v_ends : Int32} {v_sort : Int32} {v_value : Int32} {v_isWrong : Int32} {v_itemMany : Int32} {v_farmMany : Int32} {v_farmCells : Int64} {v_down : Nat → Int32} {v_along : Nat → Int32} {v_tape : Nat → Int32} {v_items : Nat → Int32} {out : Int32 × Int32 × Int32 × Int32 × Int32 × Int32 × Int32 × Int64 × (Nat → Int32)} (X : kX p m meth c s args D (va_A wc0 s.heap.size) b_M_readItem "MountainFarmsModel" 4 none) (hf : f_M_readItem_5 v_taped v_begins v_ends v_sort v_value v_isWrong v_itemMany v_farmMany v_farmCells v_tape v_items = some out) {H : Heap} {locs : List Loc} (hV : kV D (va_A wc0 s.heap.size) s (wd_M_readItem D h h_now h_kept h_aside h_found h_down h_along h_parts h_gone h_tape h_kinds h_items h_widths h_sizes h_numbers h_moved v_isKept v_taped v_begins v_ends v_sort v_value v_isWrong v_itemMany v_farmMany v_farmCells v_down v_along v_tape v_items) H locs) {ls : Array Slot} (hl : lv_has ls 4 [(0, .ref h)]) : W p l e { frames := 6, cells := 0, slots := 0, locals := 131 } s m args below meth c H locs 0 0 (MQ below (kQv D wc0 (wd_M_readItem D h h_now h_kept h_aside h_found h_down h_along h_parts h_gone h_tape h_kinds h_items h_widths h_sizes h_numbers h_moved v_isKept v_taped out.1 out.2.1 out.2.2.1 out.2.2.2.1 out.2.2.2.2.1 out.2.2.2.2.2.1 out.2.2.2.2.2.2.1 out.2.2.2.2.2.2.2.1 v_down v_along v_tape out.2.2.2.2.2.2.2.2) s.heap.size) args s 0 0 (va_A wc0 s.heap.size)) (F0 m 210 ls []) := by
  unfold f_M_readItem_5 at hf
  obtain ⟨hx, hb, -⟩ := id X
  refine lv_aload_n hx hb d_M_readItem_210 rfl (lv_at hl 0 rfl) ?_
  refine lv_aload_n hx hb d_M_readItem_211 rfl (lv_at hl 0 rfl) ?_
  refine k_ldcSw X 28 rfl rfl rfl d_M_readItem_212 ?_
  obtain ⟨r_242, hc_243, hf⟩ := kb1_some hf
  refine k_cvi (w1 := (wd_M_isWord D h h_now h_kept h_aside h_found h_down h_along h_parts h_gone h_tape h_kinds h_items h_widths h_sizes h_numbers h_moved v_isKept v_taped v_begins v_ends v_sort v_value v_isWrong v_itemMany v_farmMany v_farmCells v_tape)) (r := r_242) (ws' := (wd_M_readItem D h h_now h_kept h_aside h_found h_down h_along h_parts h_gone h_tape h_kinds h_items h_widths h_sizes h_numbers h_moved v_isKept v_taped v_begins v_ends v_sort v_value v_isWrong v_itemMany v_farmMany v_farmCells v_down v_along v_tape v_items)) X hV hl.1 (c_M_isWord D h h_now h_kept h_aside h_found h_down h_along h_parts h_gone h_tape h_kinds h_items h_widths h_sizes h_numbers h_moved v_isKept v_taped v_begins v_ends v_sort v_value v_isWrong v_itemMany v_farmMany v_farmCells v_tape 28 rfl hc_243) fk_M_isWord gw_1279 rfl 0 9 rfl rfl [0, 3] [some 0, none, none, some 1, none, none] rfl rfl ⟨rfl, rfl, rfl, rfl, rfl, rfl, rfl, rfl, rfl, rfl, trivial⟩ rfl rfl rfl d_M_readItem_215 (fun H locs hV => ?_)
  refine lv_if_eq (tgt := 226) hx hb d_M_readItem_218 (by decide) (fun c_244 => ?_) (fun c_244 => ?_)
  · replace hf := kifp c_244 hf
    refine lv_bipush (v := 14) hx hb d_M_readItem_226 bp_14 ?_
    exact t_M_readItem_6 X hf hV (lv_sub hl [] rfl)
  replace hf := kifn c_244 hf
  refine lv_bipush (v := 15) hx hb d_M_readItem_221 bp_15 ?_
  refine lv_goto (tgt := 228) hx hb d_M_readItem_223 (by decide) ?_
  exact t_M_readItem_6 X hf hV (lv_sub hl [] rfl)
set_option maxHeartbeats 2000000 in
set_option maxRecDepth 20000 in
theorem t_M_readItem_2 {l : Launch} {p : Program} {e : Env} {s : State} {m : MethodId} {args : Array Value} {below : List Frame} {meth : Method} {c : Code} {D : kD} {wc0 : va_W} {h : Nat} {h_now : Nat} {h_kept : Nat} {h_aside : Nat} {h_found : Nat} {h_down : Nat} {h_along : Nat} {h_parts : Nat} {h_gone : Nat} {h_tape : Nat} {h_kinds : Nat} {h_items : Nat} {h_widths : Nat} {h_sizes : Nat} {h_numbers : Nat} {h_moved : Nat} {v_isKept : Int32} {v_taped : Int32} {v_begins : Int32} {v_ends : Int32} {v_sort : Int32} {v_value : Int32} {v_isWrong : Int32} {v_itemMany : Int32} {v_farmMany : Int32} {v_farmCells : Int64} {v_down : Nat → Int32} {v_along : Nat → Int32} {v_tape : Nat → Int32} {v_items : Nat → Int32} {s1 : Int32} {x2 : Int32} {x3 : Int32} {out : Int32 × Int32 × Int32 × Int32 × Int32 × Int32 × Int32 × Int64 × (Nat → Int32)} (X : kX p m meth c s args D (va_A wc0 s.heap.size) b_M_readItem "MountainFarmsModel" 4 none) (hf : f_M_readItem_2 s1 x2 x3 v_taped v_begins v_ends v_sort v_value v_isWrong v_itemMany v_farmMany v_farmCells v_tape v_items = some out) {H : Heap} {locs : List Loc} (hV : kV D (va_A wc0 s.heap.size) s (wd_M_readItem D h h_now h_kept h_aside h_found h_down h_along h_parts h_gone h_tape h_kinds h_items h_widths h_sizes h_numbers h_moved v_isKept v_taped v_begins v_ends v_sort v_value v_isWrong v_itemMany v_farmMany v_farmCells v_down v_along v_tape v_items) H locs) {ls : Array Slot} (hl : lv_has ls 4 [(0, .ref h), (2, .int x2), (3, .int x3)]) : W p l e { frames := 6, cells := 0, slots := 0, locals := 131 } s m args below meth c H locs 0 0 (MQ below (kQv D wc0 (wd_M_readItem D h h_now h_kept h_aside h_found h_down h_along h_parts h_gone h_tape h_kinds h_items h_widths h_sizes h_numbers h_moved v_isKept v_taped out.1 out.2.1 out.2.2.1 out.2.2.2.1 out.2.2.2.2.1 out.2.2.2.2.2.1 out.2.2.2.2.2.2.1 out.2.2.2.2.2.2.2.1 v_down v_along v_tape out.2.2.2.2.2.2.2.2) s.heap.size) args s 0 0 (va_A wc0 s.heap.size)) (F0 m 68 ls [.int s1, .ref h]) := by
  unfold f_M_readItem_2 at hf
  obtain ⟨hx, hb, -⟩ := id X
  obtain ⟨v_begins_207, v_ends_208, v_sort_209, v_value_210, v_isWrong_211, hc_212, hf⟩ := kb5_some hf
  refine k_cvv (w1 := (wd_M_must D h h_now h_kept h_aside h_found h_down h_along h_parts h_gone h_tape h_kinds h_items h_widths h_sizes h_numbers h_moved v_isKept v_taped v_begins_207 v_ends_208 v_sort_209 v_value_210 v_isWrong_211 v_itemMany v_farmMany v_farmCells v_tape)) (ws' := (wd_M_readItem D h h_now h_kept h_aside h_found h_down h_along h_parts h_gone h_tape h_kinds h_items h_widths h_sizes h_numbers h_moved v_isKept v_taped v_begins_207 v_ends_208 v_sort_209 v_value_210 v_isWrong_211 v_itemMany v_farmMany v_farmCells v_down v_along v_tape v_items)) X hV hl.1 (c_M_must D h h_now h_kept h_aside h_found h_down h_along h_parts h_gone h_tape h_kinds h_items h_widths h_sizes h_numbers h_moved v_isKept v_taped v_begins v_ends v_sort v_value v_isWrong v_itemMany v_farmMany v_farmCells v_tape s1 hc_212) fk_M_must gw_1289 rfl 0 9 rfl rfl [0, 3] [some 0, none, none, some 1, none, none] rfl rfl ⟨rfl, rfl, rfl, rfl, rfl, rfl, rfl, rfl, rfl, rfl, trivial⟩ rfl rfl rfl d_M_readItem_68 (fun H locs hV => ?_)
  refine lv_aload_n hx hb d_M_readItem_71 rfl (lv_at hl 0 rfl) ?_
  refine lv_bipush (v := 10) hx hb d_M_readItem_72 bp_10 ?_
  refine lv_iload_n hx hb d_M_readItem_74 rfl (lv_at hl 1 rfl) ?_
  refine lv_iload_n hx hb d_M_readItem_75 rfl (lv_at hl 2 rfl) ?_
  refine lv_iconst (v := 0) hx hb d_M_readItem_76 ic_0 ?_
  refine lv_iconst (v := 0) hx hb d_M_readItem_77 ic_0 ?_
  refine lv_iconst (v := 0) hx hb d_M_readItem_78 ic_0 ?_
  obtain ⟨v_itemMany_213, v_items_214, hc_215, hf⟩ := kb2_some hf
  refine k_cvv (w1 := (wd_M_item D h h_now h_kept h_aside h_found h_down h_along h_parts h_gone h_tape h_kinds h_items h_widths h_sizes h_numbers h_moved v_isKept v_taped v_begins_207 v_ends_208 v_sort_209 v_value_210 v_isWrong_211 v_itemMany_213 v_farmMany v_farmCells v_items_214)) (ws' := (wd_M_readItem D h h_now h_kept h_aside h_found h_down h_along h_parts h_gone h_tape h_kinds h_items h_widths h_sizes h_numbers h_moved v_isKept v_taped v_begins_207 v_ends_208 v_sort_209 v_value_210 v_isWrong_211 v_itemMany_213 v_farmMany v_farmCells v_down v_along v_tape v_items_214)) X hV hl.1 (c_M_item D h h_now h_kept h_aside h_found h_down h_along h_parts h_gone h_tape h_kinds h_items h_widths h_sizes h_numbers h_moved v_isKept v_taped v_begins_207 v_ends_208 v_sort_209 v_value_210 v_isWrong_211 v_itemMany v_farmMany v_farmCells v_items (10 : Int32) x2 x3 (0 : Int32) (0 : Int32) (0 : Int32) hc_215) fk_M_item gw_1299 rfl 0 9 rfl rfl [0, 5] [some 0, none, none, none, none, some 1] rfl rfl ⟨rfl, rfl, rfl, rfl, rfl, rfl, rfl, rfl, rfl, rfl, trivial⟩ rfl rfl rfl d_M_readItem_79 (fun H locs hV => ?_)
  refine lv_goto (tgt := 249) hx hb d_M_readItem_82 (by decide) ?_
  have e_ := Option.some.inj hf
  subst e_
  exact k_vret X rfl hV d_M_readItem_249
set_option maxHeartbeats 2000000 in
set_option maxRecDepth 20000 in
theorem t_M_readItem_1 {l : Launch} {p : Program} {e : Env} {s : State} {m : MethodId} {args : Array Value} {below : List Frame} {meth : Method} {c : Code} {D : kD} {wc0 : va_W} {h : Nat} {h_now : Nat} {h_kept : Nat} {h_aside : Nat} {h_found : Nat} {h_down : Nat} {h_along : Nat} {h_parts : Nat} {h_gone : Nat} {h_tape : Nat} {h_kinds : Nat} {h_items : Nat} {h_widths : Nat} {h_sizes : Nat} {h_numbers : Nat} {h_moved : Nat} {v_isKept : Int32} {v_taped : Int32} {v_begins : Int32} {v_ends : Int32} {v_sort : Int32} {v_value : Int32} {v_isWrong : Int32} {v_itemMany : Int32} {v_farmMany : Int32} {v_farmCells : Int64} {v_down : Nat → Int32} {v_along : Nat → Int32} {v_tape : Nat → Int32} {v_items : Nat → Int32} {x2 : Int32} {x3 : Int32} {out : Int32 × Int32 × Int32 × Int32 × Int32 × Int32 × Int32 × Int64 × (Nat → Int32)} (X : kX p m meth c s args D (va_A wc0 s.heap.size) b_M_readItem "MountainFarmsModel" 4 none) (hf : f_M_readItem_1 x2 x3 v_taped v_begins v_ends v_sort v_value v_isWrong v_itemMany v_farmMany v_farmCells v_tape v_items = some out) {H : Heap} {locs : List Loc} (hV : kV D (va_A wc0 s.heap.size) s (wd_M_readItem D h h_now h_kept h_aside h_found h_down h_along h_parts h_gone h_tape h_kinds h_items h_widths h_sizes h_numbers h_moved v_isKept v_taped v_begins v_ends v_sort v_value v_isWrong v_itemMany v_farmMany v_farmCells v_down v_along v_tape v_items) H locs) {ls : Array Slot} (hl : lv_has ls 4 [(0, .ref h), (2, .int x2), (3, .int x3)]) : W p l e { frames := 6, cells := 0, slots := 0, locals := 131 } s m args below meth c H locs 0 0 (MQ below (kQv D wc0 (wd_M_readItem D h h_now h_kept h_aside h_found h_down h_along h_parts h_gone h_tape h_kinds h_items h_widths h_sizes h_numbers h_moved v_isKept v_taped out.1 out.2.1 out.2.2.1 out.2.2.2.1 out.2.2.2.2.1 out.2.2.2.2.2.1 out.2.2.2.2.2.2.1 out.2.2.2.2.2.2.2.1 v_down v_along v_tape out.2.2.2.2.2.2.2.2) s.heap.size) args s 0 0 (va_A wc0 s.heap.size)) (F0 m 67 ls [.ref h]) := by
  unfold f_M_readItem_1 at hf
  obtain ⟨hx, hb, -⟩ := id X
  refine lv_iconst (v := 0) hx hb d_M_readItem_67 ic_0 ?_
  exact t_M_readItem_2 X hf hV (lv_sub hl [0, 1, 2] rfl)
set_option maxHeartbeats 2000000 in
set_option maxRecDepth 20000 in
theorem t_M_readItem {l : Launch} {p : Program} {e : Env} {s : State} {m : MethodId} {args : Array Value} {below : List Frame} {meth : Method} {c : Code} {D : kD} {wc0 : va_W} {h : Nat} {h_now : Nat} {h_kept : Nat} {h_aside : Nat} {h_found : Nat} {h_down : Nat} {h_along : Nat} {h_parts : Nat} {h_gone : Nat} {h_tape : Nat} {h_kinds : Nat} {h_items : Nat} {h_widths : Nat} {h_sizes : Nat} {h_numbers : Nat} {h_moved : Nat} {v_isKept : Int32} {v_taped : Int32} {v_begins : Int32} {v_ends : Int32} {v_sort : Int32} {v_value : Int32} {v_isWrong : Int32} {v_itemMany : Int32} {v_farmMany : Int32} {v_farmCells : Int64} {v_down : Nat → Int32} {v_along : Nat → Int32} {v_tape : Nat → Int32} {v_items : Nat → Int32} {out : Int32 × Int32 × Int32 × Int32 × Int32 × Int32 × Int32 × Int64 × (Nat → Int32)} (X : kX p m meth c s args D (va_A wc0 s.heap.size) b_M_readItem "MountainFarmsModel" 4 none) (hf : f_M_readItem v_taped v_begins v_ends v_sort v_value v_isWrong v_itemMany v_farmMany v_farmCells v_down v_along v_tape v_items = some out) {H : Heap} {locs : List Loc} (hV : kV D (va_A wc0 s.heap.size) s (wd_M_readItem D h h_now h_kept h_aside h_found h_down h_along h_parts h_gone h_tape h_kinds h_items h_widths h_sizes h_numbers h_moved v_isKept v_taped v_begins v_ends v_sort v_value v_isWrong v_itemMany v_farmMany v_farmCells v_down v_along v_tape v_items) H locs) {ls : Array Slot} (hl : lv_has ls 4 [(0, .ref h)]) : W p l e { frames := 6, cells := 0, slots := 0, locals := 131 } s m args below meth c H locs 0 0 (MQ below (kQv D wc0 (wd_M_readItem D h h_now h_kept h_aside h_found h_down h_along h_parts h_gone h_tape h_kinds h_items h_widths h_sizes h_numbers h_moved v_isKept v_taped out.1 out.2.1 out.2.2.1 out.2.2.2.1 out.2.2.2.2.1 out.2.2.2.2.2.1 out.2.2.2.2.2.2.1 out.2.2.2.2.2.2.2.1 v_down v_along v_tape out.2.2.2.2.2.2.2.2) s.heap.size) args s 0 0 (va_A wc0 s.heap.size)) (F0 m 0 ls []) := by
  unfold f_M_readItem at hf
  obtain ⟨hx, hb, -⟩ := id X
  refine lv_aload_n hx hb d_M_readItem_0 rfl (lv_at hl 0 rfl) ?_
  obtain ⟨r_127, hc_128, hf⟩ := kb1_some hf
  refine k_cvi (w1 := (wd_M_kindTold D h h_now h_kept h_aside h_found h_down h_along h_parts h_gone h_tape h_kinds h_items h_widths h_sizes h_numbers h_moved v_isKept v_taped v_begins v_ends v_sort v_value v_isWrong v_itemMany v_farmMany v_farmCells v_tape)) (r := r_127) (ws' := (wd_M_readItem D h h_now h_kept h_aside h_found h_down h_along h_parts h_gone h_tape h_kinds h_items h_widths h_sizes h_numbers h_moved v_isKept v_taped v_begins v_ends v_sort v_value v_isWrong v_itemMany v_farmMany v_farmCells v_down v_along v_tape v_items)) X hV hl.1 (c_M_kindTold D h h_now h_kept h_aside h_found h_down h_along h_parts h_gone h_tape h_kinds h_items h_widths h_sizes h_numbers h_moved v_isKept v_taped v_begins v_ends v_sort v_value v_isWrong v_itemMany v_farmMany v_farmCells v_tape hc_128) fk_M_kindTold gw_1275 rfl 0 9 rfl rfl [0, 3, 4] [some 0, none, none, some 1, some 2, none] rfl rfl ⟨rfl, rfl, rfl, rfl, rfl, rfl, rfl, rfl, rfl, rfl, rfl, rfl, trivial⟩ rfl rfl rfl d_M_readItem_1 (fun H locs hV => ?_)
  refine lv_istore_n (lv' := [(1, .int r_127), (0, .ref h)]) hx hb d_M_readItem_4 rfl hl (by decide) rfl (fun ls hl => ?_)
  refine lv_iload_n hx hb d_M_readItem_5 rfl (lv_at hl 0 rfl) ?_
  refine lv_if_lt (tgt := 17) hx hb d_M_readItem_6 (by decide) (fun c_129 => ?_) (fun c_129 => ?_)
  · replace hf := kifp c_129 hf
    refine lv_aload_n hx hb d_M_readItem_17 rfl (lv_at hl 1 rfl) ?_
    refine k_ldcSw X 23 rfl rfl rfl d_M_readItem_18 ?_
    obtain ⟨r_130, hc_131, hf⟩ := kb1_some hf
    refine k_cvi (w1 := (wd_M_isWord D h h_now h_kept h_aside h_found h_down h_along h_parts h_gone h_tape h_kinds h_items h_widths h_sizes h_numbers h_moved v_isKept v_taped v_begins v_ends v_sort v_value v_isWrong v_itemMany v_farmMany v_farmCells v_tape)) (r := r_130) (ws' := (wd_M_readItem D h h_now h_kept h_aside h_found h_down h_along h_parts h_gone h_tape h_kinds h_items h_widths h_sizes h_numbers h_moved v_isKept v_taped v_begins v_ends v_sort v_value v_isWrong v_itemMany v_farmMany v_farmCells v_down v_along v_tape v_items)) X hV hl.1 (c_M_isWord D h h_now h_kept h_aside h_found h_down h_along h_parts h_gone h_tape h_kinds h_items h_widths h_sizes h_numbers h_moved v_isKept v_taped v_begins v_ends v_sort v_value v_isWrong v_itemMany v_farmMany v_farmCells v_tape 23 rfl hc_131) fk_M_isWord gw_1279 rfl 0 9 rfl rfl [0, 3] [some 0, none, none, some 1, none, none] rfl rfl ⟨rfl, rfl, rfl, rfl, rfl, rfl, rfl, rfl, rfl, rfl, trivial⟩ rfl rfl rfl d_M_readItem_21 (fun H locs hV => ?_)
    refine lv_if_eq (tgt := 85) hx hb d_M_readItem_24 (by decide) (fun c_132 => ?_) (fun c_132 => ?_)
    · replace hf := kifp c_132 hf
      refine lv_aload_n hx hb d_M_readItem_85 rfl (lv_at hl 1 rfl) ?_
      refine k_ldcSw X 24 rfl rfl rfl d_M_readItem_86 ?_
      obtain ⟨r_133, hc_134, hf⟩ := kb1_some hf
      refine k_cvi (w1 := (wd_M_isWord D h h_now h_kept h_aside h_found h_down h_along h_parts h_gone h_tape h_kinds h_items h_widths h_sizes h_numbers h_moved v_isKept v_taped v_begins v_ends v_sort v_value v_isWrong v_itemMany v_farmMany v_farmCells v_tape)) (r := r_133) (ws' := (wd_M_readItem D h h_now h_kept h_aside h_found h_down h_along h_parts h_gone h_tape h_kinds h_items h_widths h_sizes h_numbers h_moved v_isKept v_taped v_begins v_ends v_sort v_value v_isWrong v_itemMany v_farmMany v_farmCells v_down v_along v_tape v_items)) X hV hl.1 (c_M_isWord D h h_now h_kept h_aside h_found h_down h_along h_parts h_gone h_tape h_kinds h_items h_widths h_sizes h_numbers h_moved v_isKept v_taped v_begins v_ends v_sort v_value v_isWrong v_itemMany v_farmMany v_farmCells v_tape 24 rfl hc_134) fk_M_isWord gw_1279 rfl 0 9 rfl rfl [0, 3] [some 0, none, none, some 1, none, none] rfl rfl ⟨rfl, rfl, rfl, rfl, rfl, rfl, rfl, rfl, rfl, rfl, trivial⟩ rfl rfl rfl d_M_readItem_89 (fun H locs hV => ?_)
      refine lv_if_ne (tgt := 105) hx hb d_M_readItem_92 (by decide) (fun c_135 => ?_) (fun c_135 => ?_)
      · replace hf := kifn c_135 hf
        exact t_M_readItem_3 X hf hV (lv_sub hl [1] rfl)
      replace hf := kifp c_135 hf
      refine lv_aload_n hx hb d_M_readItem_95 rfl (lv_at hl 1 rfl) ?_
      refine k_ldcSw X 25 rfl rfl rfl d_M_readItem_96 ?_
      obtain ⟨r_136, hc_137, hf⟩ := kb1_some hf
      refine k_cvi (w1 := (wd_M_isWord D h h_now h_kept h_aside h_found h_down h_along h_parts h_gone h_tape h_kinds h_items h_widths h_sizes h_numbers h_moved v_isKept v_taped v_begins v_ends v_sort v_value v_isWrong v_itemMany v_farmMany v_farmCells v_tape)) (r := r_136) (ws' := (wd_M_readItem D h h_now h_kept h_aside h_found h_down h_along h_parts h_gone h_tape h_kinds h_items h_widths h_sizes h_numbers h_moved v_isKept v_taped v_begins v_ends v_sort v_value v_isWrong v_itemMany v_farmMany v_farmCells v_down v_along v_tape v_items)) X hV hl.1 (c_M_isWord D h h_now h_kept h_aside h_found h_down h_along h_parts h_gone h_tape h_kinds h_items h_widths h_sizes h_numbers h_moved v_isKept v_taped v_begins v_ends v_sort v_value v_isWrong v_itemMany v_farmMany v_farmCells v_tape 25 rfl hc_137) fk_M_isWord gw_1279 rfl 0 9 rfl rfl [0, 3] [some 0, none, none, some 1, none, none] rfl rfl ⟨rfl, rfl, rfl, rfl, rfl, rfl, rfl, rfl, rfl, rfl, trivial⟩ rfl rfl rfl d_M_readItem_99 (fun H locs hV => ?_)
      refine lv_if_eq (tgt := 155) hx hb d_M_readItem_102 (by decide) (fun c_138 => ?_) (fun c_138 => ?_)
      · replace hf := kifp c_138 hf
        refine lv_aload_n hx hb d_M_readItem_155 rfl (lv_at hl 1 rfl) ?_
        refine k_ldcSw X 26 rfl rfl rfl d_M_readItem_156 ?_
        obtain ⟨r_139, hc_140, hf⟩ := kb1_some hf
        refine k_cvi (w1 := (wd_M_isWord D h h_now h_kept h_aside h_found h_down h_along h_parts h_gone h_tape h_kinds h_items h_widths h_sizes h_numbers h_moved v_isKept v_taped v_begins v_ends v_sort v_value v_isWrong v_itemMany v_farmMany v_farmCells v_tape)) (r := r_139) (ws' := (wd_M_readItem D h h_now h_kept h_aside h_found h_down h_along h_parts h_gone h_tape h_kinds h_items h_widths h_sizes h_numbers h_moved v_isKept v_taped v_begins v_ends v_sort v_value v_isWrong v_itemMany v_farmMany v_farmCells v_down v_along v_tape v_items)) X hV hl.1 (c_M_isWord D h h_now h_kept h_aside h_found h_down h_along h_parts h_gone h_tape h_kinds h_items h_widths h_sizes h_numbers h_moved v_isKept v_taped v_begins v_ends v_sort v_value v_isWrong v_itemMany v_farmMany v_farmCells v_tape 26 rfl hc_140) fk_M_isWord gw_1279 rfl 0 9 rfl rfl [0, 3] [some 0, none, none, some 1, none, none] rfl rfl ⟨rfl, rfl, rfl, rfl, rfl, rfl, rfl, rfl, rfl, rfl, trivial⟩ rfl rfl rfl d_M_readItem_159 (fun H locs hV => ?_)
        refine lv_if_eq (tgt := 190) hx hb d_M_readItem_162 (by decide) (fun c_141 => ?_) (fun c_141 => ?_)
        · replace hf := kifp c_141 hf
          refine lv_aload_n hx hb d_M_readItem_190 rfl (lv_at hl 1 rfl) ?_
          refine k_ldcSw X 27 rfl rfl rfl d_M_readItem_191 ?_
          obtain ⟨r_142, hc_143, hf⟩ := kb1_some hf
          refine k_cvi (w1 := (wd_M_isWord D h h_now h_kept h_aside h_found h_down h_along h_parts h_gone h_tape h_kinds h_items h_widths h_sizes h_numbers h_moved v_isKept v_taped v_begins v_ends v_sort v_value v_isWrong v_itemMany v_farmMany v_farmCells v_tape)) (r := r_142) (ws' := (wd_M_readItem D h h_now h_kept h_aside h_found h_down h_along h_parts h_gone h_tape h_kinds h_items h_widths h_sizes h_numbers h_moved v_isKept v_taped v_begins v_ends v_sort v_value v_isWrong v_itemMany v_farmMany v_farmCells v_down v_along v_tape v_items)) X hV hl.1 (c_M_isWord D h h_now h_kept h_aside h_found h_down h_along h_parts h_gone h_tape h_kinds h_items h_widths h_sizes h_numbers h_moved v_isKept v_taped v_begins v_ends v_sort v_value v_isWrong v_itemMany v_farmMany v_farmCells v_tape 27 rfl hc_143) fk_M_isWord gw_1279 rfl 0 9 rfl rfl [0, 3] [some 0, none, none, some 1, none, none] rfl rfl ⟨rfl, rfl, rfl, rfl, rfl, rfl, rfl, rfl, rfl, rfl, trivial⟩ rfl rfl rfl d_M_readItem_194 (fun H locs hV => ?_)
          refine lv_if_ne (tgt := 210) hx hb d_M_readItem_197 (by decide) (fun c_144 => ?_) (fun c_144 => ?_)
          · replace hf := kifn c_144 hf
            exact t_M_readItem_5 X hf hV (lv_sub hl [1] rfl)
          replace hf := kifp c_144 hf
          refine lv_aload_n hx hb d_M_readItem_200 rfl (lv_at hl 1 rfl) ?_
          refine k_ldcSw X 28 rfl rfl rfl d_M_readItem_201 ?_
          obtain ⟨r_145, hc_146, hf⟩ := kb1_some hf
          refine k_cvi (w1 := (wd_M_isWord D h h_now h_kept h_aside h_found h_down h_along h_parts h_gone h_tape h_kinds h_items h_widths h_sizes h_numbers h_moved v_isKept v_taped v_begins v_ends v_sort v_value v_isWrong v_itemMany v_farmMany v_farmCells v_tape)) (r := r_145) (ws' := (wd_M_readItem D h h_now h_kept h_aside h_found h_down h_along h_parts h_gone h_tape h_kinds h_items h_widths h_sizes h_numbers h_moved v_isKept v_taped v_begins v_ends v_sort v_value v_isWrong v_itemMany v_farmMany v_farmCells v_down v_along v_tape v_items)) X hV hl.1 (c_M_isWord D h h_now h_kept h_aside h_found h_down h_along h_parts h_gone h_tape h_kinds h_items h_widths h_sizes h_numbers h_moved v_isKept v_taped v_begins v_ends v_sort v_value v_isWrong v_itemMany v_farmMany v_farmCells v_tape 28 rfl hc_146) fk_M_isWord gw_1279 rfl 0 9 rfl rfl [0, 3] [some 0, none, none, some 1, none, none] rfl rfl ⟨rfl, rfl, rfl, rfl, rfl, rfl, rfl, rfl, rfl, rfl, trivial⟩ rfl rfl rfl d_M_readItem_204 (fun H locs hV => ?_)
          refine lv_if_eq (tgt := 234) hx hb d_M_readItem_207 (by decide) (fun c_147 => ?_) (fun c_147 => ?_)
          · replace hf := kifp c_147 hf
            refine lv_aload_n hx hb d_M_readItem_234 rfl (lv_at hl 1 rfl) ?_
            refine lv_aload_n hx hb d_M_readItem_235 rfl (lv_at hl 1 rfl) ?_
            refine k_ldcSw X 29 rfl rfl rfl d_M_readItem_236 ?_
            obtain ⟨r_148, hc_149, hf⟩ := kb1_some hf
            refine k_cvi (w1 := (wd_M_isWord D h h_now h_kept h_aside h_found h_down h_along h_parts h_gone h_tape h_kinds h_items h_widths h_sizes h_numbers h_moved v_isKept v_taped v_begins v_ends v_sort v_value v_isWrong v_itemMany v_farmMany v_farmCells v_tape)) (r := r_148) (ws' := (wd_M_readItem D h h_now h_kept h_aside h_found h_down h_along h_parts h_gone h_tape h_kinds h_items h_widths h_sizes h_numbers h_moved v_isKept v_taped v_begins v_ends v_sort v_value v_isWrong v_itemMany v_farmMany v_farmCells v_down v_along v_tape v_items)) X hV hl.1 (c_M_isWord D h h_now h_kept h_aside h_found h_down h_along h_parts h_gone h_tape h_kinds h_items h_widths h_sizes h_numbers h_moved v_isKept v_taped v_begins v_ends v_sort v_value v_isWrong v_itemMany v_farmMany v_farmCells v_tape 29 rfl hc_149) fk_M_isWord gw_1279 rfl 0 9 rfl rfl [0, 3] [some 0, none, none, some 1, none, none] rfl rfl ⟨rfl, rfl, rfl, rfl, rfl, rfl, rfl, rfl, rfl, rfl, trivial⟩ rfl rfl rfl d_M_readItem_239 (fun H locs hV => ?_)
            obtain ⟨v_begins_150, v_ends_151, v_sort_152, v_value_153, v_isWrong_154, hc_155, hf⟩ := kb5_some hf
            refine k_cvv (w1 := (wd_M_must D h h_now h_kept h_aside h_found h_down h_along h_parts h_gone h_tape h_kinds h_items h_widths h_sizes h_numbers h_moved v_isKept v_taped v_begins_150 v_ends_151 v_sort_152 v_value_153 v_isWrong_154 v_itemMany v_farmMany v_farmCells v_tape)) (ws' := (wd_M_readItem D h h_now h_kept h_aside h_found h_down h_along h_parts h_gone h_tape h_kinds h_items h_widths h_sizes h_numbers h_moved v_isKept v_taped v_begins_150 v_ends_151 v_sort_152 v_value_153 v_isWrong_154 v_itemMany v_farmMany v_farmCells v_down v_along v_tape v_items)) X hV hl.1 (c_M_must D h h_now h_kept h_aside h_found h_down h_along h_parts h_gone h_tape h_kinds h_items h_widths h_sizes h_numbers h_moved v_isKept v_taped v_begins v_ends v_sort v_value v_isWrong v_itemMany v_farmMany v_farmCells v_tape r_148 hc_155) fk_M_must gw_1289 rfl 0 9 rfl rfl [0, 3] [some 0, none, none, some 1, none, none] rfl rfl ⟨rfl, rfl, rfl, rfl, rfl, rfl, rfl, rfl, rfl, rfl, trivial⟩ rfl rfl rfl d_M_readItem_242 (fun H locs hV => ?_)
            refine lv_aload_n hx hb d_M_readItem_245 rfl (lv_at hl 1 rfl) ?_
            obtain ⟨v_begins_156, v_ends_157, v_sort_158, v_value_159, v_isWrong_160, v_itemMany_161, v_items_162, hc_163, hf⟩ := kb7_some hf
            refine k_cvv (w1 := (wd_M_readSees D h h_now h_kept h_aside h_found h_down h_along h_parts h_gone h_tape h_kinds h_items h_widths h_sizes h_numbers h_moved v_isKept v_taped v_begins_156 v_ends_157 v_sort_158 v_value_159 v_isWrong_160 v_itemMany_161 v_farmMany v_farmCells v_tape v_items_162)) (ws' := (wd_M_readItem D h h_now h_kept h_aside h_found h_down h_along h_parts h_gone h_tape h_kinds h_items h_widths h_sizes h_numbers h_moved v_isKept v_taped v_begins_156 v_ends_157 v_sort_158 v_value_159 v_isWrong_160 v_itemMany_161 v_farmMany v_farmCells v_down v_along v_tape v_items_162)) X hV hl.1 (c_M_readSees D h h_now h_kept h_aside h_found h_down h_along h_parts h_gone h_tape h_kinds h_items h_widths h_sizes h_numbers h_moved v_isKept v_taped v_begins_150 v_ends_151 v_sort_152 v_value_153 v_isWrong_154 v_itemMany v_farmMany v_farmCells v_tape v_items hc_163) fk_M_readSees gw_1314 rfl 0 9 rfl rfl [0, 3, 5] [some 0, none, none, some 1, none, some 2] rfl rfl ⟨rfl, rfl, rfl, rfl, rfl, rfl, rfl, rfl, rfl, rfl, rfl, rfl, trivial⟩ rfl rfl rfl d_M_readItem_246 (fun H locs hV => ?_)
            have e_ := Option.some.inj hf
            subst e_
            exact k_vret X rfl hV d_M_readItem_249
          replace hf := kifn c_147 hf
          exact t_M_readItem_5 X hf hV (lv_sub hl [1] rfl)
        replace hf := kifn c_141 hf
        refine lv_aload_n hx hb d_M_readItem_165 rfl (lv_at hl 1 rfl) ?_
        refine lv_iconst (v := 1) hx hb d_M_readItem_166 ic_1 ?_
        obtain ⟨v_begins_164, v_ends_165, v_sort_166, v_value_167, v_isWrong_168, hc_169, hf⟩ := kb5_some hf
        refine k_cvv (w1 := (wd_M_must D h h_now h_kept h_aside h_found h_down h_along h_parts h_gone h_tape h_kinds h_items h_widths h_sizes h_numbers h_moved v_isKept v_taped v_begins_164 v_ends_165 v_sort_166 v_value_167 v_isWrong_168 v_itemMany v_farmMany v_farmCells v_tape)) (ws' := (wd_M_readItem D h h_now h_kept h_aside h_found h_down h_along h_parts h_gone h_tape h_kinds h_items h_widths h_sizes h_numbers h_moved v_isKept v_taped v_begins_164 v_ends_165 v_sort_166 v_value_167 v_isWrong_168 v_itemMany v_farmMany v_farmCells v_down v_along v_tape v_items)) X hV hl.1 (c_M_must D h h_now h_kept h_aside h_found h_down h_along h_parts h_gone h_tape h_kinds h_items h_widths h_sizes h_numbers h_moved v_isKept v_taped v_begins v_ends v_sort v_value v_isWrong v_itemMany v_farmMany v_farmCells v_tape (1 : Int32) hc_169) fk_M_must gw_1289 rfl 0 9 rfl rfl [0, 3] [some 0, none, none, some 1, none, none] rfl rfl ⟨rfl, rfl, rfl, rfl, rfl, rfl, rfl, rfl, rfl, rfl, trivial⟩ rfl rfl rfl d_M_readItem_167 (fun H locs hV => ?_)
        refine lv_aload_n hx hb d_M_readItem_170 rfl (lv_at hl 1 rfl) ?_
        refine lv_bipush (v := 13) hx hb d_M_readItem_171 bp_13 ?_
        refine lv_aload_n hx hb d_M_readItem_173 rfl (lv_at hl 1 rfl) ?_
        refine lv_iconst (v := 0) hx hb d_M_readItem_174 ic_0 ?_
        refine lv_bipush (v := 35) hx hb d_M_readItem_175 bp_35 ?_
        obtain ⟨r_170, v_begins_171, v_ends_172, v_sort_173, v_value_174, v_isWrong_175, hc_176, hf⟩ := kb6_some hf
        refine k_cvi (w1 := (wd_M_number D h h_now h_kept h_aside h_found h_down h_along h_parts h_gone h_tape h_kinds h_items h_widths h_sizes h_numbers h_moved v_isKept v_taped v_begins_171 v_ends_172 v_sort_173 v_value_174 v_isWrong_175 v_itemMany v_farmMany v_farmCells v_tape)) (r := r_170) (ws' := (wd_M_readItem D h h_now h_kept h_aside h_found h_down h_along h_parts h_gone h_tape h_kinds h_items h_widths h_sizes h_numbers h_moved v_isKept v_taped v_begins_171 v_ends_172 v_sort_173 v_value_174 v_isWrong_175 v_itemMany v_farmMany v_farmCells v_down v_along v_tape v_items)) X hV hl.1 (c_M_number D h h_now h_kept h_aside h_found h_down h_along h_parts h_gone h_tape h_kinds h_items h_widths h_sizes h_numbers h_moved v_isKept v_taped v_begins_164 v_ends_165 v_sort_166 v_value_167 v_isWrong_168 v_itemMany v_farmMany v_farmCells v_tape (0 : Int32) (35 : Int32) hc_176) fk_M_number gw_1295 rfl 0 9 rfl rfl [0, 3] [some 0, none, none, some 1, none, none] rfl rfl ⟨rfl, rfl, rfl, rfl, rfl, rfl, rfl, rfl, rfl, rfl, trivial⟩ rfl rfl rfl d_M_readItem_177 (fun H locs hV => ?_)
        refine lv_iconst (v := 0) hx hb d_M_readItem_180 ic_0 ?_
        refine lv_iconst (v := 0) hx hb d_M_readItem_181 ic_0 ?_
        refine lv_iconst (v := 0) hx hb d_M_readItem_182 ic_0 ?_
        refine lv_iconst (v := 0) hx hb d_M_readItem_183 ic_0 ?_
        obtain ⟨v_itemMany_177, v_items_178, hc_179, hf⟩ := kb2_some hf
        refine k_cvv (w1 := (wd_M_item D h h_now h_kept h_aside h_found h_down h_along h_parts h_gone h_tape h_kinds h_items h_widths h_sizes h_numbers h_moved v_isKept v_taped v_begins_171 v_ends_172 v_sort_173 v_value_174 v_isWrong_175 v_itemMany_177 v_farmMany v_farmCells v_items_178)) (ws' := (wd_M_readItem D h h_now h_kept h_aside h_found h_down h_along h_parts h_gone h_tape h_kinds h_items h_widths h_sizes h_numbers h_moved v_isKept v_taped v_begins_171 v_ends_172 v_sort_173 v_value_174 v_isWrong_175 v_itemMany_177 v_farmMany v_farmCells v_down v_along v_tape v_items_178)) X hV hl.1 (c_M_item D h h_now h_kept h_aside h_found h_down h_along h_parts h_gone h_tape h_kinds h_items h_widths h_sizes h_numbers h_moved v_isKept v_taped v_begins_171 v_ends_172 v_sort_173 v_value_174 v_isWrong_175 v_itemMany v_farmMany v_farmCells v_items (13 : Int32) r_170 (0 : Int32) (0 : Int32) (0 : Int32) (0 : Int32) hc_179) fk_M_item gw_1299 rfl 0 9 rfl rfl [0, 5] [some 0, none, none, none, none, some 1] rfl rfl ⟨rfl, rfl, rfl, rfl, rfl, rfl, rfl, rfl, rfl, rfl, trivial⟩ rfl rfl rfl d_M_readItem_184 (fun H locs hV => ?_)
        refine lv_goto (tgt := 249) hx hb d_M_readItem_187 (by decide) ?_
        have e_ := Option.some.inj hf
        subst e_
        exact k_vret X rfl hV d_M_readItem_249
      replace hf := kifn c_138 hf
      exact t_M_readItem_3 X hf hV (lv_sub hl [1] rfl)
    replace hf := kifn c_132 hf
    refine lv_aload_n hx hb d_M_readItem_27 rfl (lv_at hl 1 rfl) ?_
    refine lv_iconst (v := 1) hx hb d_M_readItem_28 ic_1 ?_
    obtain ⟨v_begins_180, v_ends_181, v_sort_182, v_value_183, v_isWrong_184, hc_185, hf⟩ := kb5_some hf
    refine k_cvv (w1 := (wd_M_must D h h_now h_kept h_aside h_found h_down h_along h_parts h_gone h_tape h_kinds h_items h_widths h_sizes h_numbers h_moved v_isKept v_taped v_begins_180 v_ends_181 v_sort_182 v_value_183 v_isWrong_184 v_itemMany v_farmMany v_farmCells v_tape)) (ws' := (wd_M_readItem D h h_now h_kept h_aside h_found h_down h_along h_parts h_gone h_tape h_kinds h_items h_widths h_sizes h_numbers h_moved v_isKept v_taped v_begins_180 v_ends_181 v_sort_182 v_value_183 v_isWrong_184 v_itemMany v_farmMany v_farmCells v_down v_along v_tape v_items)) X hV hl.1 (c_M_must D h h_now h_kept h_aside h_found h_down h_along h_parts h_gone h_tape h_kinds h_items h_widths h_sizes h_numbers h_moved v_isKept v_taped v_begins v_ends v_sort v_value v_isWrong v_itemMany v_farmMany v_farmCells v_tape (1 : Int32) hc_185) fk_M_must gw_1289 rfl 0 9 rfl rfl [0, 3] [some 0, none, none, some 1, none, none] rfl rfl ⟨rfl, rfl, rfl, rfl, rfl, rfl, rfl, rfl, rfl, rfl, trivial⟩ rfl rfl rfl d_M_readItem_29 (fun H locs hV => ?_)
    refine lv_aload_n hx hb d_M_readItem_32 rfl (lv_at hl 1 rfl) ?_
    refine lv_iconst (v := 0) hx hb d_M_readItem_33 ic_0 ?_
    refine lv_bipush (v := 35) hx hb d_M_readItem_34 bp_35 ?_
    obtain ⟨r_186, v_begins_187, v_ends_188, v_sort_189, v_value_190, v_isWrong_191, hc_192, hf⟩ := kb6_some hf
    refine k_cvi (w1 := (wd_M_number D h h_now h_kept h_aside h_found h_down h_along h_parts h_gone h_tape h_kinds h_items h_widths h_sizes h_numbers h_moved v_isKept v_taped v_begins_187 v_ends_188 v_sort_189 v_value_190 v_isWrong_191 v_itemMany v_farmMany v_farmCells v_tape)) (r := r_186) (ws' := (wd_M_readItem D h h_now h_kept h_aside h_found h_down h_along h_parts h_gone h_tape h_kinds h_items h_widths h_sizes h_numbers h_moved v_isKept v_taped v_begins_187 v_ends_188 v_sort_189 v_value_190 v_isWrong_191 v_itemMany v_farmMany v_farmCells v_down v_along v_tape v_items)) X hV hl.1 (c_M_number D h h_now h_kept h_aside h_found h_down h_along h_parts h_gone h_tape h_kinds h_items h_widths h_sizes h_numbers h_moved v_isKept v_taped v_begins_180 v_ends_181 v_sort_182 v_value_183 v_isWrong_184 v_itemMany v_farmMany v_farmCells v_tape (0 : Int32) (35 : Int32) hc_192) fk_M_number gw_1295 rfl 0 9 rfl rfl [0, 3] [some 0, none, none, some 1, none, none] rfl rfl ⟨rfl, rfl, rfl, rfl, rfl, rfl, rfl, rfl, rfl, rfl, trivial⟩ rfl rfl rfl d_M_readItem_36 (fun H locs hV => ?_)
    refine lv_istore_n (lv' := [(2, .int r_186), (1, .int r_127), (0, .ref h)]) hx hb d_M_readItem_39 rfl hl (by decide) rfl (fun ls hl => ?_)
    refine lv_aload_n hx hb d_M_readItem_40 rfl (lv_at hl 2 rfl) ?_
    refine k_get X hV 0 9 14 rfl rfl rfl gw_901 rfl rfl d_M_readItem_41 ?_
    refine lv_istore_n (lv' := [(3, .int v_value_190), (2, .int r_186), (1, .int r_127), (0, .ref h)]) hx hb d_M_readItem_44 rfl hl (by decide) rfl (fun ls hl => ?_)
    refine lv_aload_n hx hb d_M_readItem_45 rfl (lv_at hl 3 rfl) ?_
    refine lv_aload_n hx hb d_M_readItem_46 rfl (lv_at hl 3 rfl) ?_
    refine k_get X hV 0 9 13 rfl rfl rfl gw_900 rfl rfl d_M_readItem_47 ?_
    refine lv_iconst (v := 2) hx hb d_M_readItem_50 ic_2 ?_
    refine lv_icmp_ne (tgt := 67) hx hb d_M_readItem_51 (by decide) (fun c_193 => ?_) (fun c_193 => ?_)
    · replace hf := kifn c_193 hf
      exact t_M_readItem_1 X hf hV (lv_sub hl [3, 1, 0] rfl)
    replace hf := kifp c_193 hf
    refine lv_aload_n hx hb d_M_readItem_54 rfl (lv_at hl 3 rfl) ?_
    refine lv_iload_n hx hb d_M_readItem_55 rfl (lv_at hl 1 rfl) ?_
    refine lv_iload_n hx hb d_M_readItem_56 rfl (lv_at hl 0 rfl) ?_
    obtain ⟨r_194, hc_195, hf⟩ := kb1_some hf
    refine k_cvi (w1 := (wd_M_wayTo D h h_now h_kept h_aside h_found h_down h_along h_parts h_gone h_tape h_kinds h_items h_widths h_sizes h_numbers h_moved v_isKept v_taped v_begins_187 v_ends_188 v_sort_189 v_value_190 v_isWrong_191 v_itemMany v_farmMany v_farmCells v_down v_along)) (r := r_194) (ws' := (wd_M_readItem D h h_now h_kept h_aside h_found h_down h_along h_parts h_gone h_tape h_kinds h_items h_widths h_sizes h_numbers h_moved v_isKept v_taped v_begins_187 v_ends_188 v_sort_189 v_value_190 v_isWrong_191 v_itemMany v_farmMany v_farmCells v_down v_along v_tape v_items)) X hV hl.1 (c_M_wayTo D h h_now h_kept h_aside h_found h_down h_along h_parts h_gone h_tape h_kinds h_items h_widths h_sizes h_numbers h_moved v_isKept v_taped v_begins_187 v_ends_188 v_sort_189 v_value_190 v_isWrong_191 v_itemMany v_farmMany v_farmCells v_down v_along r_186 v_value_190 hc_195) fk_M_wayTo gw_1002 rfl 0 9 rfl rfl [0, 1, 2] [some 0, some 1, some 2, none, none, none] rfl rfl ⟨rfl, rfl, rfl, rfl, rfl, rfl, rfl, rfl, rfl, rfl, rfl, rfl, trivial⟩ rfl rfl rfl d_M_readItem_57 (fun H locs hV => ?_)
    refine lv_if_lt (tgt := 67) hx hb d_M_readItem_60 (by decide) (fun c_196 => ?_) (fun c_196 => ?_)
    · replace hf := kifp c_196 hf
      exact t_M_readItem_1 X hf hV (lv_sub hl [3, 1, 0] rfl)
    replace hf := kifn c_196 hf
    refine lv_iconst (v := 1) hx hb d_M_readItem_63 ic_1 ?_
    refine lv_goto (tgt := 68) hx hb d_M_readItem_64 (by decide) ?_
    exact t_M_readItem_2 X hf hV (lv_sub hl [3, 1, 0] rfl)
  replace hf := kifn c_129 hf
  refine lv_aload_n hx hb d_M_readItem_9 rfl (lv_at hl 1 rfl) ?_
  refine lv_iload_n hx hb d_M_readItem_10 rfl (lv_at hl 0 rfl) ?_
  obtain ⟨v_begins_197, v_ends_198, v_sort_199, v_value_200, v_isWrong_201, v_itemMany_202, v_farmMany_203, v_farmCells_204, v_items_205, hc_206, hf⟩ := kb9_some hf
  refine k_cvv (w1 := (wd_M_readFarm D h h_now h_kept h_aside h_found h_down h_along h_parts h_gone h_tape h_kinds h_items h_widths h_sizes h_numbers h_moved v_isKept v_taped v_begins_197 v_ends_198 v_sort_199 v_value_200 v_isWrong_201 v_itemMany_202 v_farmMany_203 v_farmCells_204 v_tape v_items_205)) (ws' := (wd_M_readItem D h h_now h_kept h_aside h_found h_down h_along h_parts h_gone h_tape h_kinds h_items h_widths h_sizes h_numbers h_moved v_isKept v_taped v_begins_197 v_ends_198 v_sort_199 v_value_200 v_isWrong_201 v_itemMany_202 v_farmMany_203 v_farmCells_204 v_down v_along v_tape v_items_205)) X hV hl.1 (c_M_readFarm D h h_now h_kept h_aside h_found h_down h_along h_parts h_gone h_tape h_kinds h_items h_widths h_sizes h_numbers h_moved v_isKept v_taped v_begins v_ends v_sort v_value v_isWrong v_itemMany v_farmMany v_farmCells v_tape v_items r_127 hc_206) fk_M_readFarm gw_1285 rfl 0 9 rfl rfl [0, 3, 5] [some 0, none, none, some 1, none, some 2] rfl rfl ⟨rfl, rfl, rfl, rfl, rfl, rfl, rfl, rfl, rfl, rfl, rfl, rfl, trivial⟩ rfl rfl rfl d_M_readItem_11 (fun H locs hV => ?_)
  refine lv_goto (tgt := 249) hx hb d_M_readItem_14 (by decide) ?_
  have e_ := Option.some.inj hf
  subst e_
  exact k_vret X rfl hV d_M_readItem_249
set_option maxHeartbeats 2000000 in
set_option maxRecDepth 20000 in
theorem c_M_readItem {l : Launch} (D : kD) (h : Nat) (h_now : Nat) (h_kept : Nat) (h_aside : Nat) (h_found : Nat) (h_down : Nat) (h_along : Nat) (h_parts : Nat) (h_gone : Nat) (h_tape : Nat) (h_kinds : Nat) (h_items : Nat) (h_widths : Nat) (h_sizes : Nat) (h_numbers : Nat) (h_moved : Nat) (v_isKept : Int32) (v_taped : Int32) (v_begins : Int32) (v_ends : Int32) (v_sort : Int32) (v_value : Int32) (v_isWrong : Int32) (v_itemMany : Int32) (v_farmMany : Int32) (v_farmCells : Int64) (v_down : Nat → Int32) (v_along : Nat → Int32) (v_tape : Nat → Int32) (v_items : Nat → Int32) {out : Int32 × Int32 × Int32 × Int32 × Int32 × Int32 × Int32 × Int64 × (Nat → Int32)} (hf : f_M_readItem v_taped v_begins v_ends v_sort v_value v_isWrong v_itemMany v_farmMany v_farmCells v_down v_along v_tape v_items = some out) : kMv l D y_M_readItem b_M_readItem 4 none { frames := 6, cells := 0, slots := 0, locals := 131 } [.ref h] (wd_M_readItem D h h_now h_kept h_aside h_found h_down h_along h_parts h_gone h_tape h_kinds h_items h_widths h_sizes h_numbers h_moved v_isKept v_taped v_begins v_ends v_sort v_value v_isWrong v_itemMany v_farmMany v_farmCells v_down v_along v_tape v_items) (wd_M_readItem D h h_now h_kept h_aside h_found h_down h_along h_parts h_gone h_tape h_kinds h_items h_widths h_sizes h_numbers h_moved v_isKept v_taped out.1 out.2.1 out.2.2.1 out.2.2.2.1 out.2.2.2.2.1 out.2.2.2.2.2.1 out.2.2.2.2.2.2.1 out.2.2.2.2.2.2.2.1 v_down v_along v_tape out.2.2.2.2.2.2.2.2) :=
  kMv_of (own := "MountainFarmsModel") (plainFor_of_name (by decide)) rfl rfl (fun p e s m args below meth c ls X hV hl => t_M_readItem X hf hV hl)
set_option maxHeartbeats 2000000 in
set_option maxRecDepth 20000 in
theorem tb_M_isSo_1 {l : Launch} {p : Program} {e : Env} {s : State} {m : MethodId} {args : Array Value} {below : List Frame} {meth : Method} {c : Code} {D : kD} {wc0 : va_W} {h : Nat} {h_now : Nat} {h_kept : Nat} {h_aside : Nat} {h_found : Nat} {h_down : Nat} {h_along : Nat} {h_parts : Nat} {h_gone : Nat} {h_tape : Nat} {h_kinds : Nat} {h_items : Nat} {h_widths : Nat} {h_sizes : Nat} {h_numbers : Nat} {h_moved : Nat} {v_isKept : Int32} {v_taped : Int32} {v_begins : Int32} {v_ends : Int32} {v_sort : Int32} {v_value : Int32} {v_isWrong : Int32} {v_itemMany : Int32} {v_farmMany : Int32} {v_farmCells : Int64} {v_now : Nat → Int32} {v_down : Nat → Int32} {v_along : Nat → Int32} {v_items : Nat → Int32} {x2 : Int32} {x3 : Int32} {x5 : Int32} {rec1 : Int32 → (Nat → Int32) → Option ((Nat → Int32))} {out : (Nat → Int32)} (X : kX p m meth c s args D (va_A wc0 s.heap.size) b_M_isSo "MountainFarmsModel" 6 none) (hrec1 : ∀ (x5 : Int32) (v_now : Nat → Int32), rec1 x5 v_now = some out → ∀ (H : Heap) (locs : List Loc) (ls : Array Slot), kV D (va_A wc0 s.heap.size) s (wd_M_isSo D h h_now h_kept h_aside h_found h_down h_along h_parts h_gone h_tape h_kinds h_items h_widths h_sizes h_numbers h_moved v_isKept v_taped v_begins v_ends v_sort v_value v_isWrong v_itemMany v_farmMany v_farmCells v_now v_down v_along v_items) H locs → lv_has ls 6 [(0, .ref h), (2, .int x2), (3, .int x3), (5, .int x5)] → W p l e { frames := 3, cells := 0, slots := 0, locals := 71 } s m args below meth c H locs 0 0 (MQ below (kQv D wc0 (wd_M_isSo D h h_now h_kept h_aside h_found h_down h_along h_parts h_gone h_tape h_kinds h_items h_widths h_sizes h_numbers h_moved v_isKept v_taped v_begins v_ends v_sort v_value v_isWrong v_itemMany v_farmMany v_farmCells out v_down v_along v_items) s.heap.size) args s 0 0 (va_A wc0 s.heap.size)) (F0 m 190 ls [])) (hf : fb_M_isSo_1 rec1 x2 x3 x5 v_now = some out) {H : Heap} {locs : List Loc} (hV : kV D (va_A wc0 s.heap.size) s (wd_M_isSo D h h_now h_kept h_aside h_found h_down h_along h_parts h_gone h_tape h_kinds h_items h_widths h_sizes h_numbers h_moved v_isKept v_taped v_begins v_ends v_sort v_value v_isWrong v_itemMany v_farmMany v_farmCells v_now v_down v_along v_items) H locs) {ls : Array Slot} (hl : lv_has ls 6 [(0, .ref h), (2, .int x2), (3, .int x3), (5, .int x5)]) : W p l e { frames := 3, cells := 0, slots := 0, locals := 71 } s m args below meth c H locs 0 0 (MQ below (kQv D wc0 (wd_M_isSo D h h_now h_kept h_aside h_found h_down h_along h_parts h_gone h_tape h_kinds h_items h_widths h_sizes h_numbers h_moved v_isKept v_taped v_begins v_ends v_sort v_value v_isWrong v_itemMany v_farmMany v_farmCells out v_down v_along v_items) s.heap.size) args s 0 0 (va_A wc0 s.heap.size)) (F0 m 190 ls []) := by
  unfold fb_M_isSo_1 at hf
  obtain ⟨hx, hb, -⟩ := id X
  refine lv_iload hx hb d_M_isSo_190 (lv_at hl 3 rfl) ?_
  refine lv_iload_n hx hb d_M_isSo_192 rfl (lv_at hl 1 rfl) ?_
  refine lv_icmp_ge (tgt := 220) hx hb d_M_isSo_193 (by decide) (fun c_63 => ?_) (fun c_63 => ?_)
  · replace hf := kifp c_63 hf
    refine lv_goto (tgt := 237) hx hb d_M_isSo_220 (by decide) ?_
    have e_ := Option.some.inj hf
    subst e_
    exact k_vret X rfl hV d_M_isSo_237
  replace hf := kifn c_63 hf
  refine lv_aload_n hx hb d_M_isSo_196 rfl (lv_at hl 0 rfl) ?_
  refine k_get X hV 0 9 0 rfl rfl rfl gw_887 rfl rfl d_M_isSo_197 ?_
  refine lv_bipush (v := 12) hx hb d_M_isSo_200 bp_12 ?_
  refine lv_iload hx hb d_M_isSo_202 (lv_at hl 3 rfl) ?_
  refine lv_iadd hx hb d_M_isSo_204 ?_
  refine lv_iload_n hx hb d_M_isSo_205 rfl (lv_at hl 2 rfl) ?_
  refine lv_iconst (v := 2) hx hb d_M_isSo_206 ic_2 ?_
  refine lv_iload hx hb d_M_isSo_207 (lv_at hl 3 rfl) ?_
  refine lv_imul hx hb d_M_isSo_209 ?_
  refine lv_ishr hx hb d_M_isSo_210 ?_
  refine lv_iconst (v := 3) hx hb d_M_isSo_211 ic_3 ?_
  refine lv_iand hx hb d_M_isSo_212 ?_
  obtain ⟨h_64, hf⟩ := kidx_some hf
  refine k_iast (ws' := (wd_M_isSo D h h_now h_kept h_aside h_found h_down h_along h_parts h_gone h_tape h_kinds h_items h_widths h_sizes h_numbers h_moved v_isKept v_taped v_begins v_ends v_sort v_value v_isWrong v_itemMany v_farmMany v_farmCells (upd v_now ((12 : Int32) + x5).toNatClampNeg ((x3 >>> (((2 : Int32) * x5) &&& 31)) &&& (3 : Int32))) v_down v_along v_items)) X hV 1 rfl h_64 rfl rfl d_M_isSo_213 (fun H locs hV => ?_)
  refine lv_iinc (v := (x5 + 1)) (lv' := [(5, .int (x5 + 1)), (0, .ref h), (2, .int x2), (3, .int x3)]) hx hb d_M_isSo_214 hl (k := 3) rfl rfl (by decide) rfl (fun ls hl => ?_)
  refine lv_goto (tgt := 190) hx hb d_M_isSo_217 (by decide) ?_
  exact hrec1 _ _ hf _ _ _ hV (lv_sub hl [1, 2, 3, 0] rfl)
set_option maxHeartbeats 2000000 in
set_option maxRecDepth 20000 in
theorem tl_M_isSo_1 {l : Launch} {p : Program} {e : Env} {s : State} {m : MethodId} {args : Array Value} {below : List Frame} {meth : Method} {c : Code} {D : kD} {wc0 : va_W} {h : Nat} {h_now : Nat} {h_kept : Nat} {h_aside : Nat} {h_found : Nat} {h_down : Nat} {h_along : Nat} {h_parts : Nat} {h_gone : Nat} {h_tape : Nat} {h_kinds : Nat} {h_items : Nat} {h_widths : Nat} {h_sizes : Nat} {h_numbers : Nat} {h_moved : Nat} {v_isKept : Int32} {v_taped : Int32} {v_begins : Int32} {v_ends : Int32} {v_sort : Int32} {v_value : Int32} {v_isWrong : Int32} {v_itemMany : Int32} {v_farmMany : Int32} {v_farmCells : Int64} {v_down : Nat → Int32} {v_along : Nat → Int32} {v_items : Nat → Int32} {x2 : Int32} {x3 : Int32} {out : (Nat → Int32)} (X : kX p m meth c s args D (va_A wc0 s.heap.size) b_M_isSo "MountainFarmsModel" 6 none) : ∀ (n : Nat) (x5 : Int32) (v_now : Nat → Int32), fl_M_isSo_1 x2 x3 n x5 v_now = some out → ∀ (H : Heap) (locs : List Loc) (ls : Array Slot), kV D (va_A wc0 s.heap.size) s (wd_M_isSo D h h_now h_kept h_aside h_found h_down h_along h_parts h_gone h_tape h_kinds h_items h_widths h_sizes h_numbers h_moved v_isKept v_taped v_begins v_ends v_sort v_value v_isWrong v_itemMany v_farmMany v_farmCells v_now v_down v_along v_items) H locs → lv_has ls 6 [(0, .ref h), (2, .int x2), (3, .int x3), (5, .int x5)] → W p l e { frames := 3, cells := 0, slots := 0, locals := 71 } s m args below meth c H locs 0 0 (MQ below (kQv D wc0 (wd_M_isSo D h h_now h_kept h_aside h_found h_down h_along h_parts h_gone h_tape h_kinds h_items h_widths h_sizes h_numbers h_moved v_isKept v_taped v_begins v_ends v_sort v_value v_isWrong v_itemMany v_farmMany v_farmCells out v_down v_along v_items) s.heap.size) args s 0 0 (va_A wc0 s.heap.size)) (F0 m 190 ls []) := by
  intro n
  induction n with
  | zero => intro x5 v_now hf; exact knone hf
  | succ n ih => intro x5 v_now hf H locs ls hV hl; exact tb_M_isSo_1 X ih hf hV hl
set_option maxHeartbeats 2000000 in
set_option maxRecDepth 20000 in
theorem t_M_isSo {l : Launch} {p : Program} {e : Env} {s : State} {m : MethodId} {args : Array Value} {below : List Frame} {meth : Method} {c : Code} {D : kD} {wc0 : va_W} {h : Nat} {h_now : Nat} {h_kept : Nat} {h_aside : Nat} {h_found : Nat} {h_down : Nat} {h_along : Nat} {h_parts : Nat} {h_gone : Nat} {h_tape : Nat} {h_kinds : Nat} {h_items : Nat} {h_widths : Nat} {h_sizes : Nat} {h_numbers : Nat} {h_moved : Nat} {v_isKept : Int32} {v_taped : Int32} {v_begins : Int32} {v_ends : Int32} {v_sort : Int32} {v_value : Int32} {v_isWrong : Int32} {v_itemMany : Int32} {v_farmMany : Int32} {v_farmCells : Int64} {v_now : Nat → Int32} {v_down : Nat → Int32} {v_along : Nat → Int32} {v_items : Nat → Int32} {x1 : Int32} {out : (Nat → Int32)} (X : kX p m meth c s args D (va_A wc0 s.heap.size) b_M_isSo "MountainFarmsModel" 6 none) (hf : f_M_isSo v_now v_down v_along v_items x1 = some out) {H : Heap} {locs : List Loc} (hV : kV D (va_A wc0 s.heap.size) s (wd_M_isSo D h h_now h_kept h_aside h_found h_down h_along h_parts h_gone h_tape h_kinds h_items h_widths h_sizes h_numbers h_moved v_isKept v_taped v_begins v_ends v_sort v_value v_isWrong v_itemMany v_farmMany v_farmCells v_now v_down v_along v_items) H locs) {ls : Array Slot} (hl : lv_has ls 6 [(0, .ref h), (1, .int x1)]) : W p l e { frames := 3, cells := 0, slots := 0, locals := 71 } s m args below meth c H locs 0 0 (MQ below (kQv D wc0 (wd_M_isSo D h h_now h_kept h_aside h_found h_down h_along h_parts h_gone h_tape h_kinds h_items h_widths h_sizes h_numbers h_moved v_isKept v_taped v_begins v_ends v_sort v_value v_isWrong v_itemMany v_farmMany v_farmCells out v_down v_along v_items) s.heap.size) args s 0 0 (va_A wc0 s.heap.size)) (F0 m 0 ls []) := by
  unfold f_M_isSo at hf
  obtain ⟨hx, hb, -⟩ := id X
  refine lv_aload_n hx hb d_M_isSo_0 rfl (lv_at hl 0 rfl) ?_
  refine k_get X hV 0 9 17 rfl rfl rfl gw_904 rfl rfl d_M_isSo_1 ?_
  refine lv_iload_n hx hb d_M_isSo_4 rfl (lv_at hl 1 rfl) ?_
  refine lv_iconst (v := 1) hx hb d_M_isSo_5 ic_1 ?_
  refine lv_iadd hx hb d_M_isSo_6 ?_
  obtain ⟨h_33, hf⟩ := kidx_some hf
  refine k_iald X hV 4 rfl h_33 rfl d_M_isSo_7 ?_
  refine k_leti hf (fun x2_34 hf => ?_)
  refine lv_istore_n (lv' := [(2, .int x2_34), (0, .ref h), (1, .int x1)]) hx hb d_M_isSo_8 rfl hl (by decide) rfl (fun ls hl => ?_)
  refine lv_aload_n hx hb d_M_isSo_9 rfl (lv_at hl 1 rfl) ?_
  refine k_get X hV 0 9 17 rfl rfl rfl gw_904 rfl rfl d_M_isSo_10 ?_
  refine lv_iload_n hx hb d_M_isSo_13 rfl (lv_at hl 2 rfl) ?_
  refine lv_iconst (v := 2) hx hb d_M_isSo_14 ic_2 ?_
  refine lv_iadd hx hb d_M_isSo_15 ?_
  obtain ⟨h_35, hf⟩ := kidx_some hf
  refine k_iald X hV 4 rfl h_35 rfl d_M_isSo_16 ?_
  refine k_leti hf (fun x3_36 hf => ?_)
  refine lv_istore_n (lv' := [(3, .int x3_36), (2, .int x2_34), (0, .ref h), (1, .int x1)]) hx hb d_M_isSo_17 rfl hl (by decide) rfl (fun ls hl => ?_)
  refine lv_aload_n hx hb d_M_isSo_18 rfl (lv_at hl 2 rfl) ?_
  refine k_get X hV 0 9 17 rfl rfl rfl gw_904 rfl rfl d_M_isSo_19 ?_
  refine lv_iload_n hx hb d_M_isSo_22 rfl (lv_at hl 3 rfl) ?_
  obtain ⟨h_37, hf⟩ := kidx_some hf
  refine k_iald X hV 4 rfl h_37 rfl d_M_isSo_23 ?_
  by_cases c_38 : (v_items x1.toNatClampNeg) = 10
  · replace hf := kifp c_38 hf
    refine k_tabIn (tgt := 68) (off := 44) X d_M_isSo_24 c_38 (by decide) ?_
    refine lv_aload_n hx hb d_M_isSo_68 rfl (lv_at hl 2 rfl) ?_
    refine lv_iload_n hx hb d_M_isSo_69 rfl (lv_at hl 1 rfl) ?_
    refine lv_aload_n hx hb d_M_isSo_70 rfl (lv_at hl 2 rfl) ?_
    refine lv_iload_n hx hb d_M_isSo_71 rfl (lv_at hl 1 rfl) ?_
    refine lv_iload_n hx hb d_M_isSo_72 rfl (lv_at hl 0 rfl) ?_
    obtain ⟨r_39, hc_40, hf⟩ := kb1_some hf
    refine k_cvi (w1 := (wd_M_wayTo D h h_now h_kept h_aside h_found h_down h_along h_parts h_gone h_tape h_kinds h_items h_widths h_sizes h_numbers h_moved v_isKept v_taped v_begins v_ends v_sort v_value v_isWrong v_itemMany v_farmMany v_farmCells v_down v_along)) (r := r_39) (ws' := (wd_M_isSo D h h_now h_kept h_aside h_found h_down h_along h_parts h_gone h_tape h_kinds h_items h_widths h_sizes h_numbers h_moved v_isKept v_taped v_begins v_ends v_sort v_value v_isWrong v_itemMany v_farmMany v_farmCells v_now v_down v_along v_items)) X hV hl.1 (c_M_wayTo D h h_now h_kept h_aside h_found h_down h_along h_parts h_gone h_tape h_kinds h_items h_widths h_sizes h_numbers h_moved v_isKept v_taped v_begins v_ends v_sort v_value v_isWrong v_itemMany v_farmMany v_farmCells v_down v_along x2_34 x3_36 hc_40) fk_M_wayTo gw_1002 rfl 0 9 rfl rfl [0, 2, 3] [some 0, none, some 1, some 2, none] rfl rfl ⟨rfl, rfl, rfl, rfl, rfl, rfl, rfl, rfl, rfl, rfl, rfl, trivial⟩ rfl rfl rfl d_M_isSo_73 (fun H locs hV => ?_)
    refine lv_iconst (v := 1) hx hb d_M_isSo_76 ic_1 ?_
    obtain ⟨v_now_41, hc_42, hf⟩ := kb1_some hf
    refine k_cvv (w1 := (wd_M_putWall D h h_now h_kept h_aside h_found h_down h_along h_parts h_gone h_tape h_kinds h_items h_widths h_sizes h_numbers h_moved v_isKept v_taped v_begins v_ends v_sort v_value v_isWrong v_itemMany v_farmMany v_farmCells v_now_41 v_down v_along)) (ws' := (wd_M_isSo D h h_now h_kept h_aside h_found h_down h_along h_parts h_gone h_tape h_kinds h_items h_widths h_sizes h_numbers h_moved v_isKept v_taped v_begins v_ends v_sort v_value v_isWrong v_itemMany v_farmMany v_farmCells v_now_41 v_down v_along v_items)) X hV hl.1 (c_M_putWall D h h_now h_kept h_aside h_found h_down h_along h_parts h_gone h_tape h_kinds h_items h_widths h_sizes h_numbers h_moved v_isKept v_taped v_begins v_ends v_sort v_value v_isWrong v_itemMany v_farmMany v_farmCells v_now v_down v_along x2_34 r_39 (1 : Int32) hc_42) fk_M_putWall gw_1014 rfl 0 9 rfl rfl [0, 1, 2, 3] [some 0, some 1, some 2, some 3, none] rfl rfl ⟨rfl, rfl, rfl, rfl, rfl, rfl, rfl, rfl, rfl, rfl, rfl, rfl, rfl, trivial⟩ rfl rfl rfl d_M_isSo_77 (fun H locs hV => ?_)
    refine lv_goto (tgt := 237) hx hb d_M_isSo_80 (by decide) ?_
    have e_ := Option.some.inj hf
    subst e_
    exact k_vret X rfl hV d_M_isSo_237
  replace hf := kifn c_38 hf
  by_cases c_43 : (v_items x1.toNatClampNeg) = 11
  · replace hf := kifp c_43 hf
    refine k_tabIn (tgt := 83) (off := 59) X d_M_isSo_24 c_43 (by decide) ?_
    refine lv_aload_n hx hb d_M_isSo_83 rfl (lv_at hl 2 rfl) ?_
    refine k_get X hV 0 9 0 rfl rfl rfl gw_887 rfl rfl d_M_isSo_84 ?_
    refine lv_bipush (v := 50) hx hb d_M_isSo_87 bp_50 ?_
    refine lv_iload_n hx hb d_M_isSo_89 rfl (lv_at hl 1 rfl) ?_
    refine lv_iadd hx hb d_M_isSo_90 ?_
    refine lv_iload_n hx hb d_M_isSo_91 rfl (lv_at hl 0 rfl) ?_
    obtain ⟨h_44, hf⟩ := kidx_some hf
    refine k_iast (ws' := (wd_M_isSo D h h_now h_kept h_aside h_found h_down h_along h_parts h_gone h_tape h_kinds h_items h_widths h_sizes h_numbers h_moved v_isKept v_taped v_begins v_ends v_sort v_value v_isWrong v_itemMany v_farmMany v_farmCells (upd v_now ((50 : Int32) + x2_34).toNatClampNeg x3_36) v_down v_along v_items)) X hV 1 rfl h_44 rfl rfl d_M_isSo_92 (fun H locs hV => ?_)
    refine lv_goto (tgt := 237) hx hb d_M_isSo_93 (by decide) ?_
    have e_ := Option.some.inj hf
    subst e_
    exact k_vret X rfl hV d_M_isSo_237
  replace hf := kifn c_43 hf
  by_cases c_45 : (v_items x1.toNatClampNeg) = 12
  · replace hf := kifp c_45 hf
    refine k_tabIn (tgt := 96) (off := 72) X d_M_isSo_24 c_45 (by decide) ?_
    refine lv_aload_n hx hb d_M_isSo_96 rfl (lv_at hl 2 rfl) ?_
    refine k_get X hV 0 9 0 rfl rfl rfl gw_887 rfl rfl d_M_isSo_97 ?_
    refine lv_bipush (v := 86) hx hb d_M_isSo_100 bp_86 ?_
    refine lv_iload_n hx hb d_M_isSo_102 rfl (lv_at hl 1 rfl) ?_
    refine lv_iadd hx hb d_M_isSo_103 ?_
    refine lv_iload_n hx hb d_M_isSo_104 rfl (lv_at hl 0 rfl) ?_
    obtain ⟨h_46, hf⟩ := kidx_some hf
    refine k_iast (ws' := (wd_M_isSo D h h_now h_kept h_aside h_found h_down h_along h_parts h_gone h_tape h_kinds h_items h_widths h_sizes h_numbers h_moved v_isKept v_taped v_begins v_ends v_sort v_value v_isWrong v_itemMany v_farmMany v_farmCells (upd v_now ((86 : Int32) + x2_34).toNatClampNeg x3_36) v_down v_along v_items)) X hV 1 rfl h_46 rfl rfl d_M_isSo_105 (fun H locs hV => ?_)
    refine lv_goto (tgt := 237) hx hb d_M_isSo_106 (by decide) ?_
    have e_ := Option.some.inj hf
    subst e_
    exact k_vret X rfl hV d_M_isSo_237
  replace hf := kifn c_45 hf
  by_cases c_47 : (v_items x1.toNatClampNeg) = 13
  · replace hf := kifp c_47 hf
    refine k_tabIn (tgt := 109) (off := 85) X d_M_isSo_24 c_47 (by decide) ?_
    refine lv_aload_n hx hb d_M_isSo_109 rfl (lv_at hl 2 rfl) ?_
    refine k_get X hV 0 9 0 rfl rfl rfl gw_887 rfl rfl d_M_isSo_110 ?_
    refine lv_iconst (v := 3) hx hb d_M_isSo_113 ic_3 ?_
    refine lv_iload_n hx hb d_M_isSo_114 rfl (lv_at hl 1 rfl) ?_
    refine k_iast (ws' := (wd_M_isSo D h h_now h_kept h_aside h_found h_down h_along h_parts h_gone h_tape h_kinds h_items h_widths h_sizes h_numbers h_moved v_isKept v_taped v_begins v_ends v_sort v_value v_isWrong v_itemMany v_farmMany v_farmCells (upd v_now 3 x2_34) v_down v_along v_items)) X hV 1 rfl kin_3_218 kln_3 rfl d_M_isSo_115 (fun H locs hV => ?_)
    refine lv_goto (tgt := 237) hx hb d_M_isSo_116 (by decide) ?_
    have e_ := Option.some.inj hf
    subst e_
    exact k_vret X rfl hV d_M_isSo_237
  replace hf := kifn c_47 hf
  by_cases c_48 : (v_items x1.toNatClampNeg) = 14
  · replace hf := kifp c_48 hf
    refine k_tabIn (tgt := 119) (off := 95) X d_M_isSo_24 c_48 (by decide) ?_
    refine lv_aload_n hx hb d_M_isSo_119 rfl (lv_at hl 2 rfl) ?_
    refine lv_bipush (v := 18) hx hb d_M_isSo_120 bp_18 ?_
    refine lv_iconst (v := 4) hx hb d_M_isSo_122 ic_4 ?_
    refine lv_iload_n hx hb d_M_isSo_123 rfl (lv_at hl 1 rfl) ?_
    refine lv_imul hx hb d_M_isSo_124 ?_
    refine lv_iadd hx hb d_M_isSo_125 ?_
    refine lv_iload_n hx hb d_M_isSo_126 rfl (lv_at hl 0 rfl) ?_
    refine lv_aload_n hx hb d_M_isSo_127 rfl (lv_at hl 2 rfl) ?_
    refine k_get X hV 0 9 17 rfl rfl rfl gw_904 rfl rfl d_M_isSo_128 ?_
    refine lv_iload_n hx hb d_M_isSo_131 rfl (lv_at hl 3 rfl) ?_
    refine lv_iconst (v := 3) hx hb d_M_isSo_132 ic_3 ?_
    refine lv_iadd hx hb d_M_isSo_133 ?_
    obtain ⟨h_49, hf⟩ := kidx_some hf
    refine k_iald X hV 4 rfl h_49 rfl d_M_isSo_134 ?_
    refine lv_aload_n hx hb d_M_isSo_135 rfl (lv_at hl 2 rfl) ?_
    refine k_get X hV 0 9 17 rfl rfl rfl gw_904 rfl rfl d_M_isSo_136 ?_
    refine lv_iload_n hx hb d_M_isSo_139 rfl (lv_at hl 3 rfl) ?_
    refine lv_iconst (v := 4) hx hb d_M_isSo_140 ic_4 ?_
    refine lv_iadd hx hb d_M_isSo_141 ?_
    obtain ⟨h_50, hf⟩ := kidx_some hf
    refine k_iald X hV 4 rfl h_50 rfl d_M_isSo_142 ?_
    obtain ⟨v_now_51, hc_52, hf⟩ := kb1_some hf
    refine k_cvv (w1 := (wd_M_putTenths D h h_now h_kept h_aside h_found h_down h_along h_parts h_gone h_tape h_kinds h_items h_widths h_sizes h_numbers h_moved v_isKept v_taped v_begins v_ends v_sort v_value v_isWrong v_itemMany v_farmMany v_farmCells v_now_51)) (ws' := (wd_M_isSo D h h_now h_kept h_aside h_found h_down h_along h_parts h_gone h_tape h_kinds h_items h_widths h_sizes h_numbers h_moved v_isKept v_taped v_begins v_ends v_sort v_value v_isWrong v_itemMany v_farmMany v_farmCells v_now_51 v_down v_along v_items)) X hV hl.1 (c_M_putTenths D h h_now h_kept h_aside h_found h_down h_along h_parts h_gone h_tape h_kinds h_items h_widths h_sizes h_numbers h_moved v_isKept v_taped v_begins v_ends v_sort v_value v_isWrong v_itemMany v_farmMany v_farmCells v_now ((18 : Int32) + ((4 : Int32) * x2_34)) x3_36 (v_items (x1 + (3 : Int32)).toNatClampNeg) (v_items (x1 + (4 : Int32)).toNatClampNeg) hc_52) fk_M_putTenths gw_1086 rfl 0 9 rfl rfl [0, 1] [some 0, some 1, none, none, none] rfl rfl ⟨rfl, rfl, rfl, rfl, rfl, rfl, rfl, rfl, rfl, trivial⟩ rfl rfl rfl d_M_isSo_143 (fun H locs hV => ?_)
    refine lv_goto (tgt := 237) hx hb d_M_isSo_146 (by decide) ?_
    have e_ := Option.some.inj hf
    subst e_
    exact k_vret X rfl hV d_M_isSo_237
  replace hf := kifn c_48 hf
  by_cases c_53 : (v_items x1.toNatClampNeg) = 15
  · replace hf := kifp c_53 hf
    refine k_tabIn (tgt := 149) (off := 125) X d_M_isSo_24 c_53 (by decide) ?_
    refine lv_aload_n hx hb d_M_isSo_149 rfl (lv_at hl 2 rfl) ?_
    refine lv_bipush (v := 34) hx hb d_M_isSo_150 bp_34 ?_
    refine lv_iconst (v := 4) hx hb d_M_isSo_152 ic_4 ?_
    refine lv_iload_n hx hb d_M_isSo_153 rfl (lv_at hl 1 rfl) ?_
    refine lv_imul hx hb d_M_isSo_154 ?_
    refine lv_iadd hx hb d_M_isSo_155 ?_
    refine lv_iload_n hx hb d_M_isSo_156 rfl (lv_at hl 0 rfl) ?_
    refine lv_aload_n hx hb d_M_isSo_157 rfl (lv_at hl 2 rfl) ?_
    refine k_get X hV 0 9 17 rfl rfl rfl gw_904 rfl rfl d_M_isSo_158 ?_
    refine lv_iload_n hx hb d_M_isSo_161 rfl (lv_at hl 3 rfl) ?_
    refine lv_iconst (v := 3) hx hb d_M_isSo_162 ic_3 ?_
    refine lv_iadd hx hb d_M_isSo_163 ?_
    obtain ⟨h_54, hf⟩ := kidx_some hf
    refine k_iald X hV 4 rfl h_54 rfl d_M_isSo_164 ?_
    refine lv_aload_n hx hb d_M_isSo_165 rfl (lv_at hl 2 rfl) ?_
    refine k_get X hV 0 9 17 rfl rfl rfl gw_904 rfl rfl d_M_isSo_166 ?_
    refine lv_iload_n hx hb d_M_isSo_169 rfl (lv_at hl 3 rfl) ?_
    refine lv_iconst (v := 4) hx hb d_M_isSo_170 ic_4 ?_
    refine lv_iadd hx hb d_M_isSo_171 ?_
    obtain ⟨h_55, hf⟩ := kidx_some hf
    refine k_iald X hV 4 rfl h_55 rfl d_M_isSo_172 ?_
    obtain ⟨v_now_56, hc_57, hf⟩ := kb1_some hf
    refine k_cvv (w1 := (wd_M_putTenths D h h_now h_kept h_aside h_found h_down h_along h_parts h_gone h_tape h_kinds h_items h_widths h_sizes h_numbers h_moved v_isKept v_taped v_begins v_ends v_sort v_value v_isWrong v_itemMany v_farmMany v_farmCells v_now_56)) (ws' := (wd_M_isSo D h h_now h_kept h_aside h_found h_down h_along h_parts h_gone h_tape h_kinds h_items h_widths h_sizes h_numbers h_moved v_isKept v_taped v_begins v_ends v_sort v_value v_isWrong v_itemMany v_farmMany v_farmCells v_now_56 v_down v_along v_items)) X hV hl.1 (c_M_putTenths D h h_now h_kept h_aside h_found h_down h_along h_parts h_gone h_tape h_kinds h_items h_widths h_sizes h_numbers h_moved v_isKept v_taped v_begins v_ends v_sort v_value v_isWrong v_itemMany v_farmMany v_farmCells v_now ((34 : Int32) + ((4 : Int32) * x2_34)) x3_36 (v_items (x1 + (3 : Int32)).toNatClampNeg) (v_items (x1 + (4 : Int32)).toNatClampNeg) hc_57) fk_M_putTenths gw_1086 rfl 0 9 rfl rfl [0, 1] [some 0, some 1, none, none, none] rfl rfl ⟨rfl, rfl, rfl, rfl, rfl, rfl, rfl, rfl, rfl, trivial⟩ rfl rfl rfl d_M_isSo_173 (fun H locs hV => ?_)
    refine lv_goto (tgt := 237) hx hb d_M_isSo_176 (by decide) ?_
    have e_ := Option.some.inj hf
    subst e_
    exact k_vret X rfl hV d_M_isSo_237
  replace hf := kifn c_53 hf
  by_cases c_58 : (v_items x1.toNatClampNeg) = 16
  · replace hf := kifp c_58 hf
    refine k_tabIn (tgt := 179) (off := 155) X d_M_isSo_24 c_58 (by decide) ?_
    refine lv_aload_n hx hb d_M_isSo_179 rfl (lv_at hl 2 rfl) ?_
    refine k_get X hV 0 9 0 rfl rfl rfl gw_887 rfl rfl d_M_isSo_180 ?_
    refine lv_bipush (v := 11) hx hb d_M_isSo_183 bp_11 ?_
    refine lv_iload_n hx hb d_M_isSo_185 rfl (lv_at hl 1 rfl) ?_
    refine k_iast (ws' := (wd_M_isSo D h h_now h_kept h_aside h_found h_down h_along h_parts h_gone h_tape h_kinds h_items h_widths h_sizes h_numbers h_moved v_isKept v_taped v_begins v_ends v_sort v_value v_isWrong v_itemMany v_farmMany v_farmCells (upd v_now 11 x2_34) v_down v_along v_items)) X hV 1 rfl kin_11_218 kln_11 rfl d_M_isSo_186 (fun H locs hV => ?_)
    refine lv_iconst (v := 0) hx hb d_M_isSo_187 ic_0 ?_
    refine lv_istore (lv' := [(5, .int (0 : Int32)), (3, .int x3_36), (2, .int x2_34), (0, .ref h), (1, .int x1)]) hx hb d_M_isSo_188 hl (by decide) rfl (fun ls hl => ?_)
    exact tl_M_isSo_1 X _ _ _ hf _ _ _ hV (lv_sub hl [3, 2, 1, 0] rfl)
  replace hf := kifn c_58 hf
  have c_38e := lv_neT c_38 (a := 10) (by decide)
  have c_43e := lv_neT c_43 (a := 11) (by decide)
  have c_45e := lv_neT c_45 (a := 12) (by decide)
  have c_47e := lv_neT c_47 (a := 13) (by decide)
  have c_48e := lv_neT c_48 (a := 14) (by decide)
  have c_53e := lv_neT c_53 (a := 15) (by decide)
  have c_58e := lv_neT c_58 (a := 16) (by decide)
  refine lv_tableOut (tgt := 223) hx hb d_M_isSo_24 (by omega) (by decide) ?_
  refine lv_aload_n hx hb d_M_isSo_223 rfl (lv_at hl 2 rfl) ?_
  refine lv_aload_n hx hb d_M_isSo_224 rfl (lv_at hl 2 rfl) ?_
  refine k_get X hV 0 9 17 rfl rfl rfl gw_904 rfl rfl d_M_isSo_225 ?_
  refine lv_iload_n hx hb d_M_isSo_228 rfl (lv_at hl 3 rfl) ?_
  obtain ⟨h_59, hf⟩ := kidx_some hf
  refine k_iald X hV 4 rfl h_59 rfl d_M_isSo_229 ?_
  refine lv_iload_n hx hb d_M_isSo_230 rfl (lv_at hl 1 rfl) ?_
  refine lv_iload_n hx hb d_M_isSo_231 rfl (lv_at hl 0 rfl) ?_
  obtain ⟨r_60, v_now_61, hc_62, hf⟩ := kb2_some hf
  refine k_cvi (w1 := (wd_M_built D h h_now h_kept h_aside h_found h_down h_along h_parts h_gone h_tape h_kinds h_items h_widths h_sizes h_numbers h_moved v_isKept v_taped v_begins v_ends v_sort v_value v_isWrong v_itemMany v_farmMany v_farmCells v_now_61)) (r := r_60) (ws' := (wd_M_isSo D h h_now h_kept h_aside h_found h_down h_along h_parts h_gone h_tape h_kinds h_items h_widths h_sizes h_numbers h_moved v_isKept v_taped v_begins v_ends v_sort v_value v_isWrong v_itemMany v_farmMany v_farmCells v_now_61 v_down v_along v_items)) X hV hl.1 (c_M_built D h h_now h_kept h_aside h_found h_down h_along h_parts h_gone h_tape h_kinds h_items h_widths h_sizes h_numbers h_moved v_isKept v_taped v_begins v_ends v_sort v_value v_isWrong v_itemMany v_farmMany v_farmCells v_now (v_items x1.toNatClampNeg) x2_34 x3_36 hc_62) fk_M_built gw_1027 rfl 0 9 rfl rfl [0, 1] [some 0, some 1, none, none, none] rfl rfl ⟨rfl, rfl, rfl, rfl, rfl, rfl, rfl, rfl, rfl, trivial⟩ rfl rfl rfl d_M_isSo_232 (fun H locs hV => ?_)
  refine lv_istore (lv' := [(4, .int r_60), (3, .int x3_36), (2, .int x2_34), (0, .ref h), (1, .int x1)]) hx hb d_M_isSo_235 hl (by decide) rfl (fun ls hl => ?_)
  have e_ := Option.some.inj hf
  subst e_
  exact k_vret X rfl hV d_M_isSo_237
set_option maxHeartbeats 2000000 in
set_option maxRecDepth 20000 in
theorem c_M_isSo {l : Launch} (D : kD) (h : Nat) (h_now : Nat) (h_kept : Nat) (h_aside : Nat) (h_found : Nat) (h_down : Nat) (h_along : Nat) (h_parts : Nat) (h_gone : Nat) (h_tape : Nat) (h_kinds : Nat) (h_items : Nat) (h_widths : Nat) (h_sizes : Nat) (h_numbers : Nat) (h_moved : Nat) (v_isKept : Int32) (v_taped : Int32) (v_begins : Int32) (v_ends : Int32) (v_sort : Int32) (v_value : Int32) (v_isWrong : Int32) (v_itemMany : Int32) (v_farmMany : Int32) (v_farmCells : Int64) (v_now : Nat → Int32) (v_down : Nat → Int32) (v_along : Nat → Int32) (v_items : Nat → Int32) (x1 : Int32) {out : (Nat → Int32)} (hf : f_M_isSo v_now v_down v_along v_items x1 = some out) : kMv l D y_M_isSo b_M_isSo 6 none { frames := 3, cells := 0, slots := 0, locals := 71 } [.ref h, .int x1] (wd_M_isSo D h h_now h_kept h_aside h_found h_down h_along h_parts h_gone h_tape h_kinds h_items h_widths h_sizes h_numbers h_moved v_isKept v_taped v_begins v_ends v_sort v_value v_isWrong v_itemMany v_farmMany v_farmCells v_now v_down v_along v_items) (wd_M_isSo D h h_now h_kept h_aside h_found h_down h_along h_parts h_gone h_tape h_kinds h_items h_widths h_sizes h_numbers h_moved v_isKept v_taped v_begins v_ends v_sort v_value v_isWrong v_itemMany v_farmMany v_farmCells out v_down v_along v_items) :=
  kMv_of (own := "MountainFarmsModel") (plainFor_of_name (by decide)) rfl rfl (fun p e s m args below meth c ls X hV hl => t_M_isSo X hf hV hl)
set_option maxHeartbeats 2000000 in
set_option maxRecDepth 20000 in
theorem tb_M_slope_5 {l : Launch} {p : Program} {e : Env} {s : State} {m : MethodId} {args : Array Value} {below : List Frame} {meth : Method} {c : Code} {D : kD} {wc0 : va_W} {h : Nat} {h_now : Nat} {h_kept : Nat} {h_aside : Nat} {h_found : Nat} {h_down : Nat} {h_along : Nat} {h_parts : Nat} {h_gone : Nat} {h_tape : Nat} {h_kinds : Nat} {h_items : Nat} {h_widths : Nat} {h_sizes : Nat} {h_numbers : Nat} {h_moved : Nat} {v_isKept : Int32} {v_taped : Int32} {v_begins : Int32} {v_ends : Int32} {v_sort : Int32} {v_value : Int32} {v_isWrong : Int32} {v_itemMany : Int32} {v_farmMany : Int32} {v_farmCells : Int64} {v_now : Nat → Int32} {v_down : Nat → Int32} {v_along : Nat → Int32} {v_tape : Nat → Int32} {v_items : Nat → Int32} {x1 : Int32} {rec5 : Int32 → (Nat → Int32) → Option (Int32 × Int32 × Int32 × Int32 × Int32 × Int32 × Int32 × Int32 × Int32 × Int64 × (Nat → Int32) × (Nat → Int32))} {out : Int32 × Int32 × Int32 × Int32 × Int32 × Int32 × Int32 × Int32 × Int32 × Int64 × (Nat → Int32) × (Nat → Int32)} (X : kX p m meth c s args D (va_A wc0 s.heap.size) b_M_slope "MountainFarmsModel" 2 (some .int)) (hrec5 : ∀ (x1 : Int32) (v_now : Nat → Int32), rec5 x1 v_now = some out → ∀ (H : Heap) (locs : List Loc) (ls : Array Slot), kV D (va_A wc0 s.heap.size) s (wd_M_slope D h h_now h_kept h_aside h_found h_down h_along h_parts h_gone h_tape h_kinds h_items h_widths h_sizes h_numbers h_moved v_isKept v_taped v_begins v_ends v_sort v_value v_isWrong v_itemMany v_farmMany v_farmCells v_now v_down v_along v_tape v_items) H locs → lv_has ls 2 [(0, .ref h), (1, .int x1)] → W p l e { frames := 7, cells := 0, slots := 0, locals := 154 } s m args below meth c H locs 0 0 (MQ below (kQi D wc0 (wd_M_slope D h h_now h_kept h_aside h_found h_down h_along h_parts h_gone h_tape h_kinds h_items h_widths h_sizes h_numbers h_moved v_isKept out.2.1 out.2.2.1 out.2.2.2.1 out.2.2.2.2.1 out.2.2.2.2.2.1 out.2.2.2.2.2.2.1 out.2.2.2.2.2.2.2.1 out.2.2.2.2.2.2.2.2.1 out.2.2.2.2.2.2.2.2.2.1 out.2.2.2.2.2.2.2.2.2.2.1 v_down v_along v_tape out.2.2.2.2.2.2.2.2.2.2.2) s.heap.size out.1) args s 0 0 (va_A wc0 s.heap.size)) (F0 m 150 ls [])) (hf : fb_M_slope_5 rec5 v_taped v_begins v_ends v_sort v_value v_isWrong v_itemMany v_farmMany v_farmCells v_down v_along v_items x1 v_now = some out) {H : Heap} {locs : List Loc} (hV : kV D (va_A wc0 s.heap.size) s (wd_M_slope D h h_now h_kept h_aside h_found h_down h_along h_parts h_gone h_tape h_kinds h_items h_widths h_sizes h_numbers h_moved v_isKept v_taped v_begins v_ends v_sort v_value v_isWrong v_itemMany v_farmMany v_farmCells v_now v_down v_along v_tape v_items) H locs) {ls : Array Slot} (hl : lv_has ls 2 [(0, .ref h), (1, .int x1)]) : W p l e { frames := 7, cells := 0, slots := 0, locals := 154 } s m args below meth c H locs 0 0 (MQ below (kQi D wc0 (wd_M_slope D h h_now h_kept h_aside h_found h_down h_along h_parts h_gone h_tape h_kinds h_items h_widths h_sizes h_numbers h_moved v_isKept out.2.1 out.2.2.1 out.2.2.2.1 out.2.2.2.2.1 out.2.2.2.2.2.1 out.2.2.2.2.2.2.1 out.2.2.2.2.2.2.2.1 out.2.2.2.2.2.2.2.2.1 out.2.2.2.2.2.2.2.2.2.1 out.2.2.2.2.2.2.2.2.2.2.1 v_down v_along v_tape out.2.2.2.2.2.2.2.2.2.2.2) s.heap.size out.1) args s 0 0 (va_A wc0 s.heap.size)) (F0 m 150 ls []) := by
  unfold fb_M_slope_5 at hf
  obtain ⟨hx, hb, -⟩ := id X
  refine lv_iload_n hx hb d_M_slope_150 rfl (lv_at hl 1 rfl) ?_
  refine lv_aload_n hx hb d_M_slope_151 rfl (lv_at hl 0 rfl) ?_
  refine k_get X hV 0 9 18 rfl rfl rfl gw_905 rfl rfl d_M_slope_152 ?_
  refine lv_icmp_ge (tgt := 172) hx hb d_M_slope_155 (by decide) (fun c_96 => ?_) (fun c_96 => ?_)
  · replace hf := kifp c_96 hf
    refine lv_aload_n hx hb d_M_slope_172 rfl (lv_at hl 0 rfl) ?_
    refine k_get X hV 0 9 18 rfl rfl rfl gw_905 rfl rfl d_M_slope_173 ?_
    have e_ := Option.some.inj hf
    subst e_
    exact k_iret X rfl hV rfl d_M_slope_176
  replace hf := kifn c_96 hf
  refine lv_aload_n hx hb d_M_slope_158 rfl (lv_at hl 0 rfl) ?_
  refine lv_bipush (v := 6) hx hb d_M_slope_159 bp_6 ?_
  refine lv_iload_n hx hb d_M_slope_161 rfl (lv_at hl 1 rfl) ?_
  refine lv_imul hx hb d_M_slope_162 ?_
  obtain ⟨v_now_97, hc_98, hf⟩ := kb1_some hf
  refine k_cvv (w1 := (wd_M_isSo D h h_now h_kept h_aside h_found h_down h_along h_parts h_gone h_tape h_kinds h_items h_widths h_sizes h_numbers h_moved v_isKept v_taped v_begins v_ends v_sort v_value v_isWrong v_itemMany v_farmMany v_farmCells v_now_97 v_down v_along v_items)) (ws' := (wd_M_slope D h h_now h_kept h_aside h_found h_down h_along h_parts h_gone h_tape h_kinds h_items h_widths h_sizes h_numbers h_moved v_isKept v_taped v_begins v_ends v_sort v_value v_isWrong v_itemMany v_farmMany v_farmCells v_now_97 v_down v_along v_tape v_items)) X hV hl.1 (c_M_isSo D h h_now h_kept h_aside h_found h_down h_along h_parts h_gone h_tape h_kinds h_items h_widths h_sizes h_numbers h_moved v_isKept v_taped v_begins v_ends v_sort v_value v_isWrong v_itemMany v_farmMany v_farmCells v_now v_down v_along v_items ((6 : Int32) * x1) hc_98) fk_M_isSo gw_1318 rfl 0 9 rfl rfl [0, 1, 2, 3, 6] [some 0, some 1, some 2, some 3, none, none, some 4] rfl rfl ⟨rfl, rfl, rfl, rfl, rfl, rfl, rfl, rfl, rfl, rfl, rfl, rfl, rfl, rfl, rfl, rfl, rfl, trivial⟩ rfl rfl rfl d_M_slope_163 (fun H locs hV => ?_)
  refine lv_iinc (v := (x1 + 1)) (lv' := [(1, .int (x1 + 1)), (0, .ref h)]) hx hb d_M_slope_166 hl (k := 1) rfl rfl (by decide) rfl (fun ls hl => ?_)
  refine lv_goto (tgt := 150) hx hb d_M_slope_169 (by decide) ?_
  exact hrec5 _ _ hf _ _ _ hV (lv_sub hl [1, 0] rfl)
set_option maxHeartbeats 2000000 in
set_option maxRecDepth 20000 in
theorem tl_M_slope_5 {l : Launch} {p : Program} {e : Env} {s : State} {m : MethodId} {args : Array Value} {below : List Frame} {meth : Method} {c : Code} {D : kD} {wc0 : va_W} {h : Nat} {h_now : Nat} {h_kept : Nat} {h_aside : Nat} {h_found : Nat} {h_down : Nat} {h_along : Nat} {h_parts : Nat} {h_gone : Nat} {h_tape : Nat} {h_kinds : Nat} {h_items : Nat} {h_widths : Nat} {h_sizes : Nat} {h_numbers : Nat} {h_moved : Nat} {v_isKept : Int32} {v_taped : Int32} {v_begins : Int32} {v_ends : Int32} {v_sort : Int32} {v_value : Int32} {v_isWrong : Int32} {v_itemMany : Int32} {v_farmMany : Int32} {v_farmCells : Int64} {v_down : Nat → Int32} {v_along : Nat → Int32} {v_tape : Nat → Int32} {v_items : Nat → Int32} {out : Int32 × Int32 × Int32 × Int32 × Int32 × Int32 × Int32 × Int32 × Int32 × Int64 × (Nat → Int32) × (Nat → Int32)} (X : kX p m meth c s args D (va_A wc0 s.heap.size) b_M_slope "MountainFarmsModel" 2 (some .int)) : ∀ (n : Nat) (x1 : Int32) (v_now : Nat → Int32), fl_M_slope_5 v_taped v_begins v_ends v_sort v_value v_isWrong v_itemMany v_farmMany v_farmCells v_down v_along v_items n x1 v_now = some out → ∀ (H : Heap) (locs : List Loc) (ls : Array Slot), kV D (va_A wc0 s.heap.size) s (wd_M_slope D h h_now h_kept h_aside h_found h_down h_along h_parts h_gone h_tape h_kinds h_items h_widths h_sizes h_numbers h_moved v_isKept v_taped v_begins v_ends v_sort v_value v_isWrong v_itemMany v_farmMany v_farmCells v_now v_down v_along v_tape v_items) H locs → lv_has ls 2 [(0, .ref h), (1, .int x1)] → W p l e { frames := 7, cells := 0, slots := 0, locals := 154 } s m args below meth c H locs 0 0 (MQ below (kQi D wc0 (wd_M_slope D h h_now h_kept h_aside h_found h_down h_along h_parts h_gone h_tape h_kinds h_items h_widths h_sizes h_numbers h_moved v_isKept out.2.1 out.2.2.1 out.2.2.2.1 out.2.2.2.2.1 out.2.2.2.2.2.1 out.2.2.2.2.2.2.1 out.2.2.2.2.2.2.2.1 out.2.2.2.2.2.2.2.2.1 out.2.2.2.2.2.2.2.2.2.1 out.2.2.2.2.2.2.2.2.2.2.1 v_down v_along v_tape out.2.2.2.2.2.2.2.2.2.2.2) s.heap.size out.1) args s 0 0 (va_A wc0 s.heap.size)) (F0 m 150 ls []) := by
  intro n
  induction n with
  | zero => intro x1 v_now hf; exact knone hf
  | succ n ih => intro x1 v_now hf H locs ls hV hl; exact tb_M_slope_5 X ih hf hV hl
set_option maxHeartbeats 2000000 in
set_option maxRecDepth 20000 in
theorem t_M_slope_4 {l : Launch} {p : Program} {e : Env} {s : State} {m : MethodId} {args : Array Value} {below : List Frame} {meth : Method} {c : Code} {D : kD} {wc0 : va_W} {h : Nat} {h_now : Nat} {h_kept : Nat} {h_aside : Nat} {h_found : Nat} {h_down : Nat} {h_along : Nat} {h_parts : Nat} {h_gone : Nat} {h_tape : Nat} {h_kinds : Nat} {h_items : Nat} {h_widths : Nat} {h_sizes : Nat} {h_numbers : Nat} {h_moved : Nat} {v_isKept : Int32} {v_taped : Int32} {v_begins : Int32} {v_ends : Int32} {v_sort : Int32} {v_value : Int32} {v_isWrong : Int32} {v_itemMany : Int32} {v_farmMany : Int32} {v_farmCells : Int64} {v_now : Nat → Int32} {v_down : Nat → Int32} {v_along : Nat → Int32} {v_tape : Nat → Int32} {v_items : Nat → Int32} {s1 : Int32} {out : Int32 × Int32 × Int32 × Int32 × Int32 × Int32 × Int32 × Int32 × Int32 × Int64 × (Nat → Int32) × (Nat → Int32)} (X : kX p m meth c s args D (va_A wc0 s.heap.size) b_M_slope "MountainFarmsModel" 2 (some .int)) (hf : f_M_slope_4 s1 v_taped v_begins v_ends v_sort v_value v_isWrong v_itemMany v_farmMany v_farmCells v_now v_down v_along v_tape v_items = some out) {H : Heap} {locs : List Loc} (hV : kV D (va_A wc0 s.heap.size) s (wd_M_slope D h h_now h_kept h_aside h_found h_down h_along h_parts h_gone h_tape h_kinds h_items h_widths h_sizes h_numbers h_moved v_isKept v_taped v_begins v_ends v_sort v_value v_isWrong v_itemMany v_farmMany v_farmCells v_now v_down v_along v_tape v_items) H locs) {ls : Array Slot} (hl : lv_has ls 2 [(0, .ref h)]) : W p l e { frames := 7, cells := 0, slots := 0, locals := 154 } s m args below meth c H locs 0 0 (MQ below (kQi D wc0 (wd_M_slope D h h_now h_kept h_aside h_found h_down h_along h_parts h_gone h_tape h_kinds h_items h_widths h_sizes h_numbers h_moved v_isKept out.2.1 out.2.2.1 out.2.2.2.1 out.2.2.2.2.1 out.2.2.2.2.2.1 out.2.2.2.2.2.2.1 out.2.2.2.2.2.2.2.1 out.2.2.2.2.2.2.2.2.1 out.2.2.2.2.2.2.2.2.2.1 out.2.2.2.2.2.2.2.2.2.2.1 v_down v_along v_tape out.2.2.2.2.2.2.2.2.2.2.2) s.heap.size out.1) args s 0 0 (va_A wc0 s.heap.size)) (F0 m 126 ls [.int s1, .ref h]) := by
  unfold f_M_slope_4 at hf
  obtain ⟨hx, hb, -⟩ := id X
  obtain ⟨v_begins_89, v_ends_90, v_sort_91, v_value_92, v_isWrong_93, hc_94, hf⟩ := kb5_some hf
  refine k_cvv (w1 := (wd_M_must D h h_now h_kept h_aside h_found h_down h_along h_parts h_gone h_tape h_kinds h_items h_widths h_sizes h_numbers h_moved v_isKept v_taped v_begins_89 v_ends_90 v_sort_91 v_value_92 v_isWrong_93 v_itemMany v_farmMany v_farmCells v_tape)) (ws' := (wd_M_slope D h h_now h_kept h_aside h_found h_down h_along h_parts h_gone h_tape h_kinds h_items h_widths h_sizes h_numbers h_moved v_isKept v_taped v_begins_89 v_ends_90 v_sort_91 v_value_92 v_isWrong_93 v_itemMany v_farmMany v_farmCells v_now v_down v_along v_tape v_items)) X hV hl.1 (c_M_must D h h_now h_kept h_aside h_found h_down h_along h_parts h_gone h_tape h_kinds h_items h_widths h_sizes h_numbers h_moved v_isKept v_taped v_begins v_ends v_sort v_value v_isWrong v_itemMany v_farmMany v_farmCells v_tape s1 hc_94) fk_M_must gw_1289 rfl 0 9 rfl rfl [0, 4] [some 0, none, none, none, some 1, none, none] rfl rfl ⟨rfl, rfl, rfl, rfl, rfl, rfl, rfl, rfl, rfl, rfl, rfl, trivial⟩ rfl rfl rfl d_M_slope_126 (fun H locs hV => ?_)
  refine lv_aload_n hx hb d_M_slope_129 rfl (lv_at hl 0 rfl) ?_
  refine lv_iconst (v := 0) hx hb d_M_slope_130 ic_0 ?_
  refine k_putv (ty := .int) (ws' := (wd_M_slope D h h_now h_kept h_aside h_found h_down h_along h_parts h_gone h_tape h_kinds h_items h_widths h_sizes h_numbers h_moved v_isKept (0 : Int32) v_begins_89 v_ends_90 v_sort_91 v_value_92 v_isWrong_93 v_itemMany v_farmMany v_farmCells v_now v_down v_along v_tape v_items)) X hV 0 9 10 rfl rfl rfl gw_897 rfl rfl rfl rfl rfl rfl rfl d_M_slope_131 (fun H locs hV => ?_)
  refine lv_aload_n hx hb d_M_slope_134 rfl (lv_at hl 0 rfl) ?_
  refine k_get X hV 0 9 15 rfl rfl rfl gw_902 rfl rfl d_M_slope_135 ?_
  refine lv_if_eq (tgt := 148) hx hb d_M_slope_138 (by decide) (fun c_95 => ?_) (fun c_95 => ?_)
  · replace hf := kifp c_95 hf
    refine lv_iconst (v := 0) hx hb d_M_slope_148 ic_0 ?_
    refine lv_istore_n (lv' := [(1, .int (0 : Int32)), (0, .ref h)]) hx hb d_M_slope_149 rfl hl (by decide) rfl (fun ls hl => ?_)
    exact tl_M_slope_5 X _ _ _ hf _ _ _ hV (lv_sub hl [1, 0] rfl)
  replace hf := kifn c_95 hf
  refine lv_iconst (v := (-1)) hx hb d_M_slope_141 ic_m1 ?_
  refine lv_aload_n hx hb d_M_slope_142 rfl (lv_at hl 0 rfl) ?_
  refine k_get X hV 0 9 11 rfl rfl rfl gw_898 rfl rfl d_M_slope_143 ?_
  refine lv_isub hx hb d_M_slope_146 ?_
  have e_ := Option.some.inj hf
  subst e_
  exact k_iret X rfl hV rfl d_M_slope_147
set_option maxHeartbeats 2000000 in
set_option maxRecDepth 20000 in
theorem t_M_slope_3 {l : Launch} {p : Program} {e : Env} {s : State} {m : MethodId} {args : Array Value} {below : List Frame} {meth : Method} {c : Code} {D : kD} {wc0 : va_W} {h : Nat} {h_now : Nat} {h_kept : Nat} {h_aside : Nat} {h_found : Nat} {h_down : Nat} {h_along : Nat} {h_parts : Nat} {h_gone : Nat} {h_tape : Nat} {h_kinds : Nat} {h_items : Nat} {h_widths : Nat} {h_sizes : Nat} {h_numbers : Nat} {h_moved : Nat} {v_isKept : Int32} {v_taped : Int32} {v_begins : Int32} {v_ends : Int32} {v_sort : Int32} {v_value : Int32} {v_isWrong : Int32} {v_itemMany : Int32} {v_farmMany : Int32} {v_farmCells : Int64} {v_now : Nat → Int32} {v_down : Nat → Int32} {v_along : Nat → Int32} {v_tape : Nat → Int32} {v_items : Nat → Int32} {out : Int32 × Int32 × Int32 × Int32 × Int32 × Int32 × Int32 × Int32 × Int32 × Int64 × (Nat → Int32) × (Nat → Int32)} (X : kX p m meth c s args D (va_A wc0 s.heap.size) b_M_slope "MountainFarmsModel" 2 (some .int)) (hf : f_M_slope_3 v_taped v_begins v_ends v_sort v_value v_isWrong v_itemMany v_farmMany v_farmCells v_now v_down v_along v_tape v_items = some out) {H : Heap} {locs : List Loc} (hV : kV D (va_A wc0 s.heap.size) s (wd_M_slope D h h_now h_kept h_aside h_found h_down h_along h_parts h_gone h_tape h_kinds h_items h_widths h_sizes h_numbers h_moved v_isKept v_taped v_begins v_ends v_sort v_value v_isWrong v_itemMany v_farmMany v_farmCells v_now v_down v_along v_tape v_items) H locs) {ls : Array Slot} (hl : lv_has ls 2 [(0, .ref h)]) : W p l e { frames := 7, cells := 0, slots := 0, locals := 154 } s m args below meth c H locs 0 0 (MQ below (kQi D wc0 (wd_M_slope D h h_now h_kept h_aside h_found h_down h_along h_parts h_gone h_tape h_kinds h_items h_widths h_sizes h_numbers h_moved v_isKept out.2.1 out.2.2.1 out.2.2.2.1 out.2.2.2.2.1 out.2.2.2.2.2.1 out.2.2.2.2.2.2.1 out.2.2.2.2.2.2.2.1 out.2.2.2.2.2.2.2.2.1 out.2.2.2.2.2.2.2.2.2.1 out.2.2.2.2.2.2.2.2.2.2.1 v_down v_along v_tape out.2.2.2.2.2.2.2.2.2.2.2) s.heap.size out.1) args s 0 0 (va_A wc0 s.heap.size)) (F0 m 113 ls []) := by
  unfold f_M_slope_3 at hf
  obtain ⟨hx, hb, -⟩ := id X
  refine lv_aload_n hx hb d_M_slope_113 rfl (lv_at hl 0 rfl) ?_
  refine lv_aload_n hx hb d_M_slope_114 rfl (lv_at hl 0 rfl) ?_
  refine k_get X hV 0 9 13 rfl rfl rfl gw_900 rfl rfl d_M_slope_115 ?_
  refine lv_if_ne (tgt := 125) hx hb d_M_slope_118 (by decide) (fun c_88 => ?_) (fun c_88 => ?_)
  · replace hf := kifn c_88 hf
    refine lv_iconst (v := 0) hx hb d_M_slope_125 ic_0 ?_
    exact t_M_slope_4 X hf hV (lv_sub hl [0] rfl)
  replace hf := kifp c_88 hf
  refine lv_iconst (v := 1) hx hb d_M_slope_121 ic_1 ?_
  refine lv_goto (tgt := 126) hx hb d_M_slope_122 (by decide) ?_
  exact t_M_slope_4 X hf hV (lv_sub hl [0] rfl)
set_option maxHeartbeats 2000000 in
set_option maxRecDepth 20000 in
theorem tb_M_slope_2 {l : Launch} {p : Program} {e : Env} {s : State} {m : MethodId} {args : Array Value} {below : List Frame} {meth : Method} {c : Code} {D : kD} {wc0 : va_W} {h : Nat} {h_now : Nat} {h_kept : Nat} {h_aside : Nat} {h_found : Nat} {h_down : Nat} {h_along : Nat} {h_parts : Nat} {h_gone : Nat} {h_tape : Nat} {h_kinds : Nat} {h_items : Nat} {h_widths : Nat} {h_sizes : Nat} {h_numbers : Nat} {h_moved : Nat} {v_isKept : Int32} {v_taped : Int32} {v_begins : Int32} {v_ends : Int32} {v_sort : Int32} {v_value : Int32} {v_isWrong : Int32} {v_itemMany : Int32} {v_farmMany : Int32} {v_farmCells : Int64} {v_now : Nat → Int32} {v_down : Nat → Int32} {v_along : Nat → Int32} {v_tape : Nat → Int32} {v_items : Nat → Int32} {rec2 : Int32 → Int32 → Int32 → Int32 → Int32 → Int32 → Int32 → Int64 → (Nat → Int32) → Option (Int32 × Int32 × Int32 × Int32 × Int32 × Int32 × Int32 × Int32 × Int32 × Int64 × (Nat → Int32) × (Nat → Int32))} {out : Int32 × Int32 × Int32 × Int32 × Int32 × Int32 × Int32 × Int32 × Int32 × Int64 × (Nat → Int32) × (Nat → Int32)} (X : kX p m meth c s args D (va_A wc0 s.heap.size) b_M_slope "MountainFarmsModel" 2 (some .int)) (hrec2 : ∀ (v_begins : Int32) (v_ends : Int32) (v_sort : Int32) (v_value : Int32) (v_isWrong : Int32) (v_itemMany : Int32) (v_farmMany : Int32) (v_farmCells : Int64) (v_items : Nat → Int32), rec2 v_begins v_ends v_sort v_value v_isWrong v_itemMany v_farmMany v_farmCells v_items = some out → ∀ (H : Heap) (locs : List Loc) (ls : Array Slot), kV D (va_A wc0 s.heap.size) s (wd_M_slope D h h_now h_kept h_aside h_found h_down h_along h_parts h_gone h_tape h_kinds h_items h_widths h_sizes h_numbers h_moved v_isKept v_taped v_begins v_ends v_sort v_value v_isWrong v_itemMany v_farmMany v_farmCells v_now v_down v_along v_tape v_items) H locs → lv_has ls 2 [(0, .ref h)] → W p l e { frames := 7, cells := 0, slots := 0, locals := 154 } s m args below meth c H locs 0 0 (MQ below (kQi D wc0 (wd_M_slope D h h_now h_kept h_aside h_found h_down h_along h_parts h_gone h_tape h_kinds h_items h_widths h_sizes h_numbers h_moved v_isKept out.2.1 out.2.2.1 out.2.2.2.1 out.2.2.2.2.1 out.2.2.2.2.2.1 out.2.2.2.2.2.2.1 out.2.2.2.2.2.2.2.1 out.2.2.2.2.2.2.2.2.1 out.2.2.2.2.2.2.2.2.2.1 out.2.2.2.2.2.2.2.2.2.2.1 v_down v_along v_tape out.2.2.2.2.2.2.2.2.2.2.2) s.heap.size out.1) args s 0 0 (va_A wc0 s.heap.size)) (F0 m 72 ls [])) (hf : fb_M_slope_2 rec2 v_taped v_now v_down v_along v_tape v_begins v_ends v_sort v_value v_isWrong v_itemMany v_farmMany v_farmCells v_items = some out) {H : Heap} {locs : List Loc} (hV : kV D (va_A wc0 s.heap.size) s (wd_M_slope D h h_now h_kept h_aside h_found h_down h_along h_parts h_gone h_tape h_kinds h_items h_widths h_sizes h_numbers h_moved v_isKept v_taped v_begins v_ends v_sort v_value v_isWrong v_itemMany v_farmMany v_farmCells v_now v_down v_along v_tape v_items) H locs) {ls : Array Slot} (hl : lv_has ls 2 [(0, .ref h)]) : W p l e { frames := 7, cells := 0, slots := 0, locals := 154 } s m args below meth c H locs 0 0 (MQ below (kQi D wc0 (wd_M_slope D h h_now h_kept h_aside h_found h_down h_along h_parts h_gone h_tape h_kinds h_items h_widths h_sizes h_numbers h_moved v_isKept out.2.1 out.2.2.1 out.2.2.2.1 out.2.2.2.2.1 out.2.2.2.2.2.1 out.2.2.2.2.2.2.1 out.2.2.2.2.2.2.2.1 out.2.2.2.2.2.2.2.2.1 out.2.2.2.2.2.2.2.2.2.1 out.2.2.2.2.2.2.2.2.2.2.1 v_down v_along v_tape out.2.2.2.2.2.2.2.2.2.2.2) s.heap.size out.1) args s 0 0 (va_A wc0 s.heap.size)) (F0 m 72 ls []) := by
  unfold fb_M_slope_2 at hf
  obtain ⟨hx, hb, -⟩ := id X
  refine lv_aload_n hx hb d_M_slope_72 rfl (lv_at hl 0 rfl) ?_
  refine k_get X hV 0 9 15 rfl rfl rfl gw_902 rfl rfl d_M_slope_73 ?_
  refine lv_if_ne (tgt := 113) hx hb d_M_slope_76 (by decide) (fun c_68 => ?_) (fun c_68 => ?_)
  · replace hf := kifn c_68 hf
    exact t_M_slope_3 X hf hV (lv_sub hl [0] rfl)
  replace hf := kifp c_68 hf
  refine lv_aload_n hx hb d_M_slope_79 rfl (lv_at hl 0 rfl) ?_
  refine k_get X hV 0 9 13 rfl rfl rfl gw_900 rfl rfl d_M_slope_80 ?_
  refine lv_iconst (v := 3) hx hb d_M_slope_83 ic_3 ?_
  refine lv_icmp_ne (tgt := 113) hx hb d_M_slope_84 (by decide) (fun c_69 => ?_) (fun c_69 => ?_)
  · replace hf := kifn c_69 hf
    exact t_M_slope_3 X hf hV (lv_sub hl [0] rfl)
  replace hf := kifp c_69 hf
  refine lv_aload_n hx hb d_M_slope_87 rfl (lv_at hl 0 rfl) ?_
  refine k_get X hV 0 9 9 rfl rfl rfl gw_896 rfl rfl d_M_slope_88 ?_
  refine lv_aload_n hx hb d_M_slope_91 rfl (lv_at hl 0 rfl) ?_
  refine k_get X hV 0 9 11 rfl rfl rfl gw_898 rfl rfl d_M_slope_92 ?_
  obtain ⟨h_70, hf⟩ := kidx_some hf
  refine k_iald X hV 4 rfl h_70 rfl d_M_slope_95 ?_
  refine lv_bipush (v := 59) hx hb d_M_slope_96 bp_59 ?_
  refine lv_icmp_ne (tgt := 113) hx hb d_M_slope_98 (by decide) (fun c_71 => ?_) (fun c_71 => ?_)
  · replace hf := kifn c_71 hf
    exact t_M_slope_3 X hf hV (lv_sub hl [0] rfl)
  replace hf := kifp c_71 hf
  refine lv_aload_n hx hb d_M_slope_101 rfl (lv_at hl 0 rfl) ?_
  refine lv_iconst (v := 1) hx hb d_M_slope_102 ic_1 ?_
  obtain ⟨v_begins_72, v_ends_73, v_sort_74, v_value_75, v_isWrong_76, hc_77, hf⟩ := kb5_some hf
  refine k_cvv (w1 := (wd_M_must D h h_now h_kept h_aside h_found h_down h_along h_parts h_gone h_tape h_kinds h_items h_widths h_sizes h_numbers h_moved v_isKept v_taped v_begins_72 v_ends_73 v_sort_74 v_value_75 v_isWrong_76 v_itemMany v_farmMany v_farmCells v_tape)) (ws' := (wd_M_slope D h h_now h_kept h_aside h_found h_down h_along h_parts h_gone h_tape h_kinds h_items h_widths h_sizes h_numbers h_moved v_isKept v_taped v_begins_72 v_ends_73 v_sort_74 v_value_75 v_isWrong_76 v_itemMany v_farmMany v_farmCells v_now v_down v_along v_tape v_items)) X hV hl.1 (c_M_must D h h_now h_kept h_aside h_found h_down h_along h_parts h_gone h_tape h_kinds h_items h_widths h_sizes h_numbers h_moved v_isKept v_taped v_begins v_ends v_sort v_value v_isWrong v_itemMany v_farmMany v_farmCells v_tape (1 : Int32) hc_77) fk_M_must gw_1289 rfl 0 9 rfl rfl [0, 4] [some 0, none, none, none, some 1, none, none] rfl rfl ⟨rfl, rfl, rfl, rfl, rfl, rfl, rfl, rfl, rfl, rfl, rfl, trivial⟩ rfl rfl rfl d_M_slope_103 (fun H locs hV => ?_)
  refine lv_aload_n hx hb d_M_slope_106 rfl (lv_at hl 0 rfl) ?_
  obtain ⟨v_begins_78, v_ends_79, v_sort_80, v_value_81, v_isWrong_82, v_itemMany_83, v_farmMany_84, v_farmCells_85, v_items_86, hc_87, hf⟩ := kb9_some hf
  refine k_cvv (w1 := (wd_M_readItem D h h_now h_kept h_aside h_found h_down h_along h_parts h_gone h_tape h_kinds h_items h_widths h_sizes h_numbers h_moved v_isKept v_taped v_begins_78 v_ends_79 v_sort_80 v_value_81 v_isWrong_82 v_itemMany_83 v_farmMany_84 v_farmCells_85 v_down v_along v_tape v_items_86)) (ws' := (wd_M_slope D h h_now h_kept h_aside h_found h_down h_along h_parts h_gone h_tape h_kinds h_items h_widths h_sizes h_numbers h_moved v_isKept v_taped v_begins_78 v_ends_79 v_sort_80 v_value_81 v_isWrong_82 v_itemMany_83 v_farmMany_84 v_farmCells_85 v_now v_down v_along v_tape v_items_86)) X hV hl.1 (c_M_readItem D h h_now h_kept h_aside h_found h_down h_along h_parts h_gone h_tape h_kinds h_items h_widths h_sizes h_numbers h_moved v_isKept v_taped v_begins_72 v_ends_73 v_sort_74 v_value_75 v_isWrong_76 v_itemMany v_farmMany v_farmCells v_down v_along v_tape v_items hc_87) fk_M_readItem gw_1271 rfl 0 9 rfl rfl [0, 2, 3, 4, 5, 6] [some 0, none, some 1, some 2, some 3, some 4, some 5] rfl rfl ⟨rfl, rfl, rfl, rfl, rfl, rfl, rfl, rfl, rfl, rfl, rfl, rfl, rfl, rfl, rfl, rfl, rfl, rfl, rfl, trivial⟩ rfl rfl rfl d_M_slope_107 (fun H locs hV => ?_)
  refine lv_goto (tgt := 72) hx hb d_M_slope_110 (by decide) ?_
  exact hrec2 _ _ _ _ _ _ _ _ _ hf _ _ _ hV (lv_sub hl [0] rfl)
set_option maxHeartbeats 2000000 in
set_option maxRecDepth 20000 in
theorem tl_M_slope_2 {l : Launch} {p : Program} {e : Env} {s : State} {m : MethodId} {args : Array Value} {below : List Frame} {meth : Method} {c : Code} {D : kD} {wc0 : va_W} {h : Nat} {h_now : Nat} {h_kept : Nat} {h_aside : Nat} {h_found : Nat} {h_down : Nat} {h_along : Nat} {h_parts : Nat} {h_gone : Nat} {h_tape : Nat} {h_kinds : Nat} {h_items : Nat} {h_widths : Nat} {h_sizes : Nat} {h_numbers : Nat} {h_moved : Nat} {v_isKept : Int32} {v_taped : Int32} {v_now : Nat → Int32} {v_down : Nat → Int32} {v_along : Nat → Int32} {v_tape : Nat → Int32} {out : Int32 × Int32 × Int32 × Int32 × Int32 × Int32 × Int32 × Int32 × Int32 × Int64 × (Nat → Int32) × (Nat → Int32)} (X : kX p m meth c s args D (va_A wc0 s.heap.size) b_M_slope "MountainFarmsModel" 2 (some .int)) : ∀ (n : Nat) (v_begins : Int32) (v_ends : Int32) (v_sort : Int32) (v_value : Int32) (v_isWrong : Int32) (v_itemMany : Int32) (v_farmMany : Int32) (v_farmCells : Int64) (v_items : Nat → Int32), fl_M_slope_2 v_taped v_now v_down v_along v_tape n v_begins v_ends v_sort v_value v_isWrong v_itemMany v_farmMany v_farmCells v_items = some out → ∀ (H : Heap) (locs : List Loc) (ls : Array Slot), kV D (va_A wc0 s.heap.size) s (wd_M_slope D h h_now h_kept h_aside h_found h_down h_along h_parts h_gone h_tape h_kinds h_items h_widths h_sizes h_numbers h_moved v_isKept v_taped v_begins v_ends v_sort v_value v_isWrong v_itemMany v_farmMany v_farmCells v_now v_down v_along v_tape v_items) H locs → lv_has ls 2 [(0, .ref h)] → W p l e { frames := 7, cells := 0, slots := 0, locals := 154 } s m args below meth c H locs 0 0 (MQ below (kQi D wc0 (wd_M_slope D h h_now h_kept h_aside h_found h_down h_along h_parts h_gone h_tape h_kinds h_items h_widths h_sizes h_numbers h_moved v_isKept out.2.1 out.2.2.1 out.2.2.2.1 out.2.2.2.2.1 out.2.2.2.2.2.1 out.2.2.2.2.2.2.1 out.2.2.2.2.2.2.2.1 out.2.2.2.2.2.2.2.2.1 out.2.2.2.2.2.2.2.2.2.1 out.2.2.2.2.2.2.2.2.2.2.1 v_down v_along v_tape out.2.2.2.2.2.2.2.2.2.2.2) s.heap.size out.1) args s 0 0 (va_A wc0 s.heap.size)) (F0 m 72 ls []) := by
  intro n
  induction n with
  | zero => intro v_begins v_ends v_sort v_value v_isWrong v_itemMany v_farmMany v_farmCells v_items hf; exact knone hf
  | succ n ih => intro v_begins v_ends v_sort v_value v_isWrong v_itemMany v_farmMany v_farmCells v_items hf H locs ls hV hl; exact tb_M_slope_2 X ih hf hV hl
set_option maxHeartbeats 2000000 in
set_option maxRecDepth 20000 in
theorem tb_M_slope_1 {l : Launch} {p : Program} {e : Env} {s : State} {m : MethodId} {args : Array Value} {below : List Frame} {meth : Method} {c : Code} {D : kD} {wc0 : va_W} {h : Nat} {h_now : Nat} {h_kept : Nat} {h_aside : Nat} {h_found : Nat} {h_down : Nat} {h_along : Nat} {h_parts : Nat} {h_gone : Nat} {h_tape : Nat} {h_kinds : Nat} {h_items : Nat} {h_widths : Nat} {h_sizes : Nat} {h_numbers : Nat} {h_moved : Nat} {v_isKept : Int32} {v_taped : Int32} {v_begins : Int32} {v_ends : Int32} {v_sort : Int32} {v_value : Int32} {v_isWrong : Int32} {v_itemMany : Int32} {v_farmMany : Int32} {v_farmCells : Int64} {v_now : Nat → Int32} {v_down : Nat → Int32} {v_along : Nat → Int32} {v_tape : Nat → Int32} {v_items : Nat → Int32} {x1 : Int32} {rec1 : Int32 → Int32 → Int32 → Int32 → Int32 → Int32 → Int32 → Int32 → Int64 → (Nat → Int32) → Option (Int32 × Int32 × Int32 × Int32 × Int32 × Int32 × Int32 × Int32 × Int32 × Int64 × (Nat → Int32) × (Nat → Int32))} {out : Int32 × Int32 × Int32 × Int32 × Int32 × Int32 × Int32 × Int32 × Int32 × Int64 × (Nat → Int32) × (Nat → Int32)} (X : kX p m meth c s args D (va_A wc0 s.heap.size) b_M_slope "MountainFarmsModel" 2 (some .int)) (hrec1 : ∀ (x1 : Int32) (v_begins : Int32) (v_ends : Int32) (v_sort : Int32) (v_value : Int32) (v_isWrong : Int32) (v_itemMany : Int32) (v_farmMany : Int32) (v_farmCells : Int64) (v_items : Nat → Int32), rec1 x1 v_begins v_ends v_sort v_value v_isWrong v_itemMany v_farmMany v_farmCells v_items = some out → ∀ (H : Heap) (locs : List Loc) (ls : Array Slot), kV D (va_A wc0 s.heap.size) s (wd_M_slope D h h_now h_kept h_aside h_found h_down h_along h_parts h_gone h_tape h_kinds h_items h_widths h_sizes h_numbers h_moved v_isKept v_taped v_begins v_ends v_sort v_value v_isWrong v_itemMany v_farmMany v_farmCells v_now v_down v_along v_tape v_items) H locs → lv_has ls 2 [(0, .ref h), (1, .int x1)] → W p l e { frames := 7, cells := 0, slots := 0, locals := 154 } s m args below meth c H locs 0 0 (MQ below (kQi D wc0 (wd_M_slope D h h_now h_kept h_aside h_found h_down h_along h_parts h_gone h_tape h_kinds h_items h_widths h_sizes h_numbers h_moved v_isKept out.2.1 out.2.2.1 out.2.2.2.1 out.2.2.2.2.1 out.2.2.2.2.2.1 out.2.2.2.2.2.2.1 out.2.2.2.2.2.2.2.1 out.2.2.2.2.2.2.2.2.1 out.2.2.2.2.2.2.2.2.2.1 out.2.2.2.2.2.2.2.2.2.2.1 v_down v_along v_tape out.2.2.2.2.2.2.2.2.2.2.2) s.heap.size out.1) args s 0 0 (va_A wc0 s.heap.size)) (F0 m 33 ls [])) (hf : fb_M_slope_1 rec1 v_taped v_now v_down v_along v_tape x1 v_begins v_ends v_sort v_value v_isWrong v_itemMany v_farmMany v_farmCells v_items = some out) {H : Heap} {locs : List Loc} (hV : kV D (va_A wc0 s.heap.size) s (wd_M_slope D h h_now h_kept h_aside h_found h_down h_along h_parts h_gone h_tape h_kinds h_items h_widths h_sizes h_numbers h_moved v_isKept v_taped v_begins v_ends v_sort v_value v_isWrong v_itemMany v_farmMany v_farmCells v_now v_down v_along v_tape v_items) H locs) {ls : Array Slot} (hl : lv_has ls 2 [(0, .ref h), (1, .int x1)]) : W p l e { frames := 7, cells := 0, slots := 0, locals := 154 } s m args below meth c H locs 0 0 (MQ below (kQi D wc0 (wd_M_slope D h h_now h_kept h_aside h_found h_down h_along h_parts h_gone h_tape h_kinds h_items h_widths h_sizes h_numbers h_moved v_isKept out.2.1 out.2.2.1 out.2.2.2.1 out.2.2.2.2.1 out.2.2.2.2.2.1 out.2.2.2.2.2.2.1 out.2.2.2.2.2.2.2.1 out.2.2.2.2.2.2.2.2.1 out.2.2.2.2.2.2.2.2.2.1 out.2.2.2.2.2.2.2.2.2.2.1 v_down v_along v_tape out.2.2.2.2.2.2.2.2.2.2.2) s.heap.size out.1) args s 0 0 (va_A wc0 s.heap.size)) (F0 m 33 ls []) := by
  unfold fb_M_slope_1 at hf
  obtain ⟨hx, hb, -⟩ := id X
  refine lv_iload_n hx hb d_M_slope_33 rfl (lv_at hl 1 rfl) ?_
  refine lv_aload_n hx hb d_M_slope_34 rfl (lv_at hl 0 rfl) ?_
  refine k_get X hV 0 9 19 rfl rfl rfl gw_906 rfl rfl d_M_slope_35 ?_
  refine lv_icmp_ge (tgt := 64) hx hb d_M_slope_38 (by decide) (fun c_50 => ?_) (fun c_50 => ?_)
  · replace hf := kifp c_50 hf
    refine lv_aload_n hx hb d_M_slope_64 rfl (lv_at hl 0 rfl) ?_
    obtain ⟨v_begins_51, v_ends_52, v_sort_53, v_value_54, hc_55, hf⟩ := kb4_some hf
    refine k_cvv (w1 := (wd_M_next D h h_now h_kept h_aside h_found h_down h_along h_parts h_gone h_tape h_kinds h_items h_widths h_sizes h_numbers h_moved v_isKept v_taped v_begins_51 v_ends_52 v_sort_53 v_value_54 v_isWrong v_itemMany v_farmMany v_farmCells v_tape)) (ws' := (wd_M_slope D h h_now h_kept h_aside h_found h_down h_along h_parts h_gone h_tape h_kinds h_items h_widths h_sizes h_numbers h_moved v_isKept v_taped v_begins_51 v_ends_52 v_sort_53 v_value_54 v_isWrong v_itemMany v_farmMany v_farmCells v_now v_down v_along v_tape v_items)) X hV hl.1 (c_M_next D h h_now h_kept h_aside h_found h_down h_along h_parts h_gone h_tape h_kinds h_items h_widths h_sizes h_numbers h_moved v_isKept v_taped v_begins v_ends v_sort v_value v_isWrong v_itemMany v_farmMany v_farmCells v_tape hc_55) fk_M_next gw_1263 rfl 0 9 rfl rfl [0, 4] [some 0, none, none, none, some 1, none, none] rfl rfl ⟨rfl, rfl, rfl, rfl, rfl, rfl, rfl, rfl, rfl, rfl, rfl, trivial⟩ rfl rfl rfl d_M_slope_65 (fun H locs hV => ?_)
    refine lv_aload_n hx hb d_M_slope_68 rfl (lv_at hl 0 rfl) ?_
    obtain ⟨v_begins_56, v_ends_57, v_sort_58, v_value_59, v_isWrong_60, v_itemMany_61, v_farmMany_62, v_farmCells_63, v_items_64, hc_65, hf⟩ := kb9_some hf
    refine k_cvv (w1 := (wd_M_readItem D h h_now h_kept h_aside h_found h_down h_along h_parts h_gone h_tape h_kinds h_items h_widths h_sizes h_numbers h_moved v_isKept v_taped v_begins_56 v_ends_57 v_sort_58 v_value_59 v_isWrong_60 v_itemMany_61 v_farmMany_62 v_farmCells_63 v_down v_along v_tape v_items_64)) (ws' := (wd_M_slope D h h_now h_kept h_aside h_found h_down h_along h_parts h_gone h_tape h_kinds h_items h_widths h_sizes h_numbers h_moved v_isKept v_taped v_begins_56 v_ends_57 v_sort_58 v_value_59 v_isWrong_60 v_itemMany_61 v_farmMany_62 v_farmCells_63 v_now v_down v_along v_tape v_items_64)) X hV hl.1 (c_M_readItem D h h_now h_kept h_aside h_found h_down h_along h_parts h_gone h_tape h_kinds h_items h_widths h_sizes h_numbers h_moved v_isKept v_taped v_begins_51 v_ends_52 v_sort_53 v_value_54 v_isWrong v_itemMany v_farmMany v_farmCells v_down v_along v_tape v_items hc_65) fk_M_readItem gw_1271 rfl 0 9 rfl rfl [0, 2, 3, 4, 5, 6] [some 0, none, some 1, some 2, some 3, some 4, some 5] rfl rfl ⟨rfl, rfl, rfl, rfl, rfl, rfl, rfl, rfl, rfl, rfl, rfl, rfl, rfl, rfl, rfl, rfl, rfl, rfl, rfl, trivial⟩ rfl rfl rfl d_M_slope_69 (fun H locs hV => ?_)
    exact tl_M_slope_2 X _ _ _ _ _ _ _ _ _ _ hf _ _ _ hV (lv_sub hl [0] rfl)
  replace hf := kifn c_50 hf
  refine lv_aload_n hx hb d_M_slope_41 rfl (lv_at hl 0 rfl) ?_
  refine lv_dup hx hb d_M_slope_42 rfl ?_
  refine k_get X hV 0 9 20 rfl rfl rfl gw_907 rfl rfl d_M_slope_43 ?_
  refine lv_lconst (v := 1) hx hb d_M_slope_46 lc_1 ?_
  refine lv_aload_n hx hb d_M_slope_47 rfl (lv_at hl 0 rfl) ?_
  refine lv_iload_n hx hb d_M_slope_48 rfl (lv_at hl 1 rfl) ?_
  refine lv_iconst (v := 1) hx hb d_M_slope_49 ic_1 ?_
  obtain ⟨r_66, hc_67, hf⟩ := kb1_some hf
  refine k_cvi (w1 := (wd_M_farmIs D h h_now h_kept h_aside h_found h_down h_along h_parts h_gone h_tape h_kinds h_items h_widths h_sizes h_numbers h_moved v_isKept v_taped v_begins v_ends v_sort v_value v_isWrong v_itemMany v_farmMany v_farmCells v_now)) (r := r_66) (ws' := (wd_M_slope D h h_now h_kept h_aside h_found h_down h_along h_parts h_gone h_tape h_kinds h_items h_widths h_sizes h_numbers h_moved v_isKept v_taped v_begins v_ends v_sort v_value v_isWrong v_itemMany v_farmMany v_farmCells v_now v_down v_along v_tape v_items)) X hV hl.1 (c_M_farmIs D h h_now h_kept h_aside h_found h_down h_along h_parts h_gone h_tape h_kinds h_items h_widths h_sizes h_numbers h_moved v_isKept v_taped v_begins v_ends v_sort v_value v_isWrong v_itemMany v_farmMany v_farmCells v_now x1 (1 : Int32) hc_67) fk_M_farmIs gw_990 rfl 0 9 rfl rfl [0, 1] [some 0, some 1, none, none, none, none, none] rfl rfl ⟨rfl, rfl, rfl, rfl, rfl, rfl, rfl, rfl, rfl, rfl, rfl, trivial⟩ rfl rfl rfl d_M_slope_50 (fun H locs hV => ?_)
  refine lv_lshl hx hb d_M_slope_53 rfl ?_
  refine lv_lor hx hb d_M_slope_54 ?_
  refine k_putv (ty := .long) (ws' := (wd_M_slope D h h_now h_kept h_aside h_found h_down h_along h_parts h_gone h_tape h_kinds h_items h_widths h_sizes h_numbers h_moved v_isKept v_taped v_begins v_ends v_sort v_value v_isWrong v_itemMany v_farmMany (v_farmCells ||| ((1 : Int64) <<< (r_66.toInt64 &&& 63))) v_now v_down v_along v_tape v_items)) X hV 0 9 20 rfl rfl rfl gw_907 rfl rfl rfl rfl rfl rfl rfl d_M_slope_55 (fun H locs hV => ?_)
  refine lv_iinc (v := (x1 + 1)) (lv' := [(1, .int (x1 + 1)), (0, .ref h)]) hx hb d_M_slope_58 hl (k := 1) rfl rfl (by decide) rfl (fun ls hl => ?_)
  refine lv_goto (tgt := 33) hx hb d_M_slope_61 (by decide) ?_
  exact hrec1 _ _ _ _ _ _ _ _ _ _ hf _ _ _ hV (lv_sub hl [1, 0] rfl)
set_option maxHeartbeats 2000000 in
set_option maxRecDepth 20000 in
theorem tl_M_slope_1 {l : Launch} {p : Program} {e : Env} {s : State} {m : MethodId} {args : Array Value} {below : List Frame} {meth : Method} {c : Code} {D : kD} {wc0 : va_W} {h : Nat} {h_now : Nat} {h_kept : Nat} {h_aside : Nat} {h_found : Nat} {h_down : Nat} {h_along : Nat} {h_parts : Nat} {h_gone : Nat} {h_tape : Nat} {h_kinds : Nat} {h_items : Nat} {h_widths : Nat} {h_sizes : Nat} {h_numbers : Nat} {h_moved : Nat} {v_isKept : Int32} {v_taped : Int32} {v_now : Nat → Int32} {v_down : Nat → Int32} {v_along : Nat → Int32} {v_tape : Nat → Int32} {out : Int32 × Int32 × Int32 × Int32 × Int32 × Int32 × Int32 × Int32 × Int32 × Int64 × (Nat → Int32) × (Nat → Int32)} (X : kX p m meth c s args D (va_A wc0 s.heap.size) b_M_slope "MountainFarmsModel" 2 (some .int)) : ∀ (n : Nat) (x1 : Int32) (v_begins : Int32) (v_ends : Int32) (v_sort : Int32) (v_value : Int32) (v_isWrong : Int32) (v_itemMany : Int32) (v_farmMany : Int32) (v_farmCells : Int64) (v_items : Nat → Int32), fl_M_slope_1 v_taped v_now v_down v_along v_tape n x1 v_begins v_ends v_sort v_value v_isWrong v_itemMany v_farmMany v_farmCells v_items = some out → ∀ (H : Heap) (locs : List Loc) (ls : Array Slot), kV D (va_A wc0 s.heap.size) s (wd_M_slope D h h_now h_kept h_aside h_found h_down h_along h_parts h_gone h_tape h_kinds h_items h_widths h_sizes h_numbers h_moved v_isKept v_taped v_begins v_ends v_sort v_value v_isWrong v_itemMany v_farmMany v_farmCells v_now v_down v_along v_tape v_items) H locs → lv_has ls 2 [(0, .ref h), (1, .int x1)] → W p l e { frames := 7, cells := 0, slots := 0, locals := 154 } s m args below meth c H locs 0 0 (MQ below (kQi D wc0 (wd_M_slope D h h_now h_kept h_aside h_found h_down h_along h_parts h_gone h_tape h_kinds h_items h_widths h_sizes h_numbers h_moved v_isKept out.2.1 out.2.2.1 out.2.2.2.1 out.2.2.2.2.1 out.2.2.2.2.2.1 out.2.2.2.2.2.2.1 out.2.2.2.2.2.2.2.1 out.2.2.2.2.2.2.2.2.1 out.2.2.2.2.2.2.2.2.2.1 out.2.2.2.2.2.2.2.2.2.2.1 v_down v_along v_tape out.2.2.2.2.2.2.2.2.2.2.2) s.heap.size out.1) args s 0 0 (va_A wc0 s.heap.size)) (F0 m 33 ls []) := by
  intro n
  induction n with
  | zero => intro x1 v_begins v_ends v_sort v_value v_isWrong v_itemMany v_farmMany v_farmCells v_items hf; exact knone hf
  | succ n ih => intro x1 v_begins v_ends v_sort v_value v_isWrong v_itemMany v_farmMany v_farmCells v_items hf H locs ls hV hl; exact tb_M_slope_1 X ih hf hV hl
set_option maxHeartbeats 2000000 in
set_option maxRecDepth 20000 in
theorem t_M_slope {l : Launch} {p : Program} {e : Env} {s : State} {m : MethodId} {args : Array Value} {below : List Frame} {meth : Method} {c : Code} {D : kD} {wc0 : va_W} {h : Nat} {h_now : Nat} {h_kept : Nat} {h_aside : Nat} {h_found : Nat} {h_down : Nat} {h_along : Nat} {h_parts : Nat} {h_gone : Nat} {h_tape : Nat} {h_kinds : Nat} {h_items : Nat} {h_widths : Nat} {h_sizes : Nat} {h_numbers : Nat} {h_moved : Nat} {v_isKept : Int32} {v_taped : Int32} {v_begins : Int32} {v_ends : Int32} {v_sort : Int32} {v_value : Int32} {v_isWrong : Int32} {v_itemMany : Int32} {v_farmMany : Int32} {v_farmCells : Int64} {v_now : Nat → Int32} {v_down : Nat → Int32} {v_along : Nat → Int32} {v_tape : Nat → Int32} {v_items : Nat → Int32} {out : Int32 × Int32 × Int32 × Int32 × Int32 × Int32 × Int32 × Int32 × Int32 × Int64 × (Nat → Int32) × (Nat → Int32)} (X : kX p m meth c s args D (va_A wc0 s.heap.size) b_M_slope "MountainFarmsModel" 2 (some .int)) (hf : f_M_slope v_taped v_begins v_ends v_sort v_value v_isWrong v_itemMany v_farmMany v_farmCells v_now v_down v_along v_tape v_items = some out) {H : Heap} {locs : List Loc} (hV : kV D (va_A wc0 s.heap.size) s (wd_M_slope D h h_now h_kept h_aside h_found h_down h_along h_parts h_gone h_tape h_kinds h_items h_widths h_sizes h_numbers h_moved v_isKept v_taped v_begins v_ends v_sort v_value v_isWrong v_itemMany v_farmMany v_farmCells v_now v_down v_along v_tape v_items) H locs) {ls : Array Slot} (hl : lv_has ls 2 [(0, .ref h)]) : W p l e { frames := 7, cells := 0, slots := 0, locals := 154 } s m args below meth c H locs 0 0 (MQ below (kQi D wc0 (wd_M_slope D h h_now h_kept h_aside h_found h_down h_along h_parts h_gone h_tape h_kinds h_items h_widths h_sizes h_numbers h_moved v_isKept out.2.1 out.2.2.1 out.2.2.2.1 out.2.2.2.2.1 out.2.2.2.2.2.1 out.2.2.2.2.2.2.1 out.2.2.2.2.2.2.2.1 out.2.2.2.2.2.2.2.2.1 out.2.2.2.2.2.2.2.2.2.1 out.2.2.2.2.2.2.2.2.2.2.1 v_down v_along v_tape out.2.2.2.2.2.2.2.2.2.2.2) s.heap.size out.1) args s 0 0 (va_A wc0 s.heap.size)) (F0 m 0 ls []) := by
  unfold f_M_slope at hf
  obtain ⟨hx, hb, -⟩ := id X
  refine lv_aload_n hx hb d_M_slope_0 rfl (lv_at hl 0 rfl) ?_
  refine lv_iconst (v := 0) hx hb d_M_slope_1 ic_0 ?_
  refine k_putv (ty := .int) (ws' := (wd_M_slope D h h_now h_kept h_aside h_found h_down h_along h_parts h_gone h_tape h_kinds h_items h_widths h_sizes h_numbers h_moved v_isKept v_taped v_begins (0 : Int32) v_sort v_value v_isWrong v_itemMany v_farmMany v_farmCells v_now v_down v_along v_tape v_items)) X hV 0 9 12 rfl rfl rfl gw_899 rfl rfl rfl rfl rfl rfl rfl d_M_slope_2 (fun H locs hV => ?_)
  refine lv_aload_n hx hb d_M_slope_5 rfl (lv_at hl 0 rfl) ?_
  refine lv_iconst (v := 0) hx hb d_M_slope_6 ic_0 ?_
  refine k_putv (ty := .boolean) (ws' := (wd_M_slope D h h_now h_kept h_aside h_found h_down h_along h_parts h_gone h_tape h_kinds h_items h_widths h_sizes h_numbers h_moved v_isKept v_taped v_begins (0 : Int32) v_sort v_value (0 : Int32) v_itemMany v_farmMany v_farmCells v_now v_down v_along v_tape v_items)) X hV 0 9 15 rfl rfl rfl gw_902 rfl rfl rfl rfl rfl rfl rfl d_M_slope_7 (fun H locs hV => ?_)
  refine lv_aload_n hx hb d_M_slope_10 rfl (lv_at hl 0 rfl) ?_
  refine lv_iconst (v := 0) hx hb d_M_slope_11 ic_0 ?_
  refine k_putv (ty := .int) (ws' := (wd_M_slope D h h_now h_kept h_aside h_found h_down h_along h_parts h_gone h_tape h_kinds h_items h_widths h_sizes h_numbers h_moved v_isKept v_taped v_begins (0 : Int32) v_sort v_value (0 : Int32) (0 : Int32) v_farmMany v_farmCells v_now v_down v_along v_tape v_items)) X hV 0 9 18 rfl rfl rfl gw_905 rfl rfl rfl rfl rfl rfl rfl d_M_slope_12 (fun H locs hV => ?_)
  refine lv_aload_n hx hb d_M_slope_15 rfl (lv_at hl 0 rfl) ?_
  refine lv_aload_n hx hb d_M_slope_16 rfl (lv_at hl 0 rfl) ?_
  refine k_get X hV 0 9 0 rfl rfl rfl gw_887 rfl rfl d_M_slope_17 ?_
  refine lv_bipush (v := 10) hx hb d_M_slope_20 bp_10 ?_
  refine k_iald X hV 1 rfl kin_10_218 kln_10 d_M_slope_22 ?_
  refine k_putv (ty := .int) (ws' := (wd_M_slope D h h_now h_kept h_aside h_found h_down h_along h_parts h_gone h_tape h_kinds h_items h_widths h_sizes h_numbers h_moved v_isKept v_taped v_begins (0 : Int32) v_sort v_value (0 : Int32) (0 : Int32) (v_now 10) v_farmCells v_now v_down v_along v_tape v_items)) X hV 0 9 19 rfl rfl rfl gw_906 rfl rfl rfl rfl rfl rfl rfl d_M_slope_23 (fun H locs hV => ?_)
  refine lv_aload_n hx hb d_M_slope_26 rfl (lv_at hl 0 rfl) ?_
  refine lv_lconst (v := 0) hx hb d_M_slope_27 lc_0 ?_
  refine k_putv (ty := .long) (ws' := (wd_M_slope D h h_now h_kept h_aside h_found h_down h_along h_parts h_gone h_tape h_kinds h_items h_widths h_sizes h_numbers h_moved v_isKept v_taped v_begins (0 : Int32) v_sort v_value (0 : Int32) (0 : Int32) (v_now 10) (0 : Int64) v_now v_down v_along v_tape v_items)) X hV 0 9 20 rfl rfl rfl gw_907 rfl rfl rfl rfl rfl rfl rfl d_M_slope_28 (fun H locs hV => ?_)
  refine lv_iconst (v := 0) hx hb d_M_slope_31 ic_0 ?_
  refine lv_istore_n (lv' := [(1, .int (0 : Int32)), (0, .ref h)]) hx hb d_M_slope_32 rfl hl (by decide) rfl (fun ls hl => ?_)
  exact tl_M_slope_1 X _ _ _ _ _ _ _ _ _ _ _ hf _ _ _ hV (lv_sub hl [1, 0] rfl)
set_option maxHeartbeats 2000000 in
set_option maxRecDepth 20000 in
theorem c_M_slope {l : Launch} (D : kD) (h : Nat) (h_now : Nat) (h_kept : Nat) (h_aside : Nat) (h_found : Nat) (h_down : Nat) (h_along : Nat) (h_parts : Nat) (h_gone : Nat) (h_tape : Nat) (h_kinds : Nat) (h_items : Nat) (h_widths : Nat) (h_sizes : Nat) (h_numbers : Nat) (h_moved : Nat) (v_isKept : Int32) (v_taped : Int32) (v_begins : Int32) (v_ends : Int32) (v_sort : Int32) (v_value : Int32) (v_isWrong : Int32) (v_itemMany : Int32) (v_farmMany : Int32) (v_farmCells : Int64) (v_now : Nat → Int32) (v_down : Nat → Int32) (v_along : Nat → Int32) (v_tape : Nat → Int32) (v_items : Nat → Int32) {out : Int32 × Int32 × Int32 × Int32 × Int32 × Int32 × Int32 × Int32 × Int32 × Int64 × (Nat → Int32) × (Nat → Int32)} (hf : f_M_slope v_taped v_begins v_ends v_sort v_value v_isWrong v_itemMany v_farmMany v_farmCells v_now v_down v_along v_tape v_items = some out) : kMi l D y_M_slope b_M_slope 2 (some .int) { frames := 7, cells := 0, slots := 0, locals := 154 } [.ref h] (wd_M_slope D h h_now h_kept h_aside h_found h_down h_along h_parts h_gone h_tape h_kinds h_items h_widths h_sizes h_numbers h_moved v_isKept v_taped v_begins v_ends v_sort v_value v_isWrong v_itemMany v_farmMany v_farmCells v_now v_down v_along v_tape v_items) (wd_M_slope D h h_now h_kept h_aside h_found h_down h_along h_parts h_gone h_tape h_kinds h_items h_widths h_sizes h_numbers h_moved v_isKept out.2.1 out.2.2.1 out.2.2.2.1 out.2.2.2.2.1 out.2.2.2.2.2.1 out.2.2.2.2.2.2.1 out.2.2.2.2.2.2.2.1 out.2.2.2.2.2.2.2.2.1 out.2.2.2.2.2.2.2.2.2.1 out.2.2.2.2.2.2.2.2.2.2.1 v_down v_along v_tape out.2.2.2.2.2.2.2.2.2.2.2) out.1 :=
  kMi_of (own := "MountainFarmsModel") (plainFor_of_name (by decide)) rfl rfl (fun p e s m args below meth c ls X hV hl => t_M_slope X hf hV hl)
set_option maxHeartbeats 2000000 in
set_option maxRecDepth 20000 in
theorem t_M_isSheet {l : Launch} {p : Program} {e : Env} {s : State} {m : MethodId} {args : Array Value} {below : List Frame} {meth : Method} {c : Code} {D : kD} {wc0 : va_W} {x0 : Int32} {out : Int32} (X : kX p m meth c s args D (va_A wc0 s.heap.size) b_M_isSheet "MountainFarmsModel" 1 (some .boolean)) (hf : f_M_isSheet x0 = some out) {H : Heap} {locs : List Loc} (hV : kV D (va_A wc0 s.heap.size) s (wd_M_isSheet D) H locs) {ls : Array Slot} (hl : lv_has ls 1 [(0, .int x0)]) : W p l e { frames := 1, cells := 0, slots := 0, locals := 22 } s m args below meth c H locs 0 0 (MQ below (kQi D wc0 (wd_M_isSheet D) s.heap.size out) args s 0 0 (va_A wc0 s.heap.size)) (F0 m 0 ls []) := by
  unfold f_M_isSheet at hf
  obtain ⟨hx, hb, -⟩ := id X
  refine lv_iload_n hx hb d_M_isSheet_0 rfl (lv_at hl 0 rfl) ?_
  refine lv_iconst (v := 0) hx hb d_M_isSheet_1 ic_0 ?_
  refine lv_iconst (v := 3) hx hb d_M_isSheet_2 ic_3 ?_
  obtain ⟨r_4, hc_5, hf⟩ := kb1_some hf
  refine k_csi (w1 := (wd_M_within D)) (r := r_4) (ws' := (wd_M_isSheet D)) X hV hl.1 (c_M_within D x0 (0 : Int32) (3 : Int32) hc_5) fk_M_within gw_970 rfl [] [] rfl rfl trivial rfl rfl rfl d_M_isSheet_3 (fun H locs hV => ?_)
  obtain ⟨h_6, hf⟩ := kchk hf
  have e_ := Option.some.inj hf
  subst e_
  exact k_iret X rfl hV (knarB h_6) d_M_isSheet_6
set_option maxHeartbeats 2000000 in
set_option maxRecDepth 20000 in
theorem c_M_isSheet {l : Launch} (D : kD) (x0 : Int32) {out : Int32} (hf : f_M_isSheet x0 = some out) : kMi l D y_M_isSheet b_M_isSheet 1 (some .boolean) { frames := 1, cells := 0, slots := 0, locals := 22 } [.int x0] (wd_M_isSheet D) (wd_M_isSheet D) out :=
  kMi_of (own := "MountainFarmsModel") (plainFor_of_name (by decide)) rfl rfl (fun p e s m args below meth c ls X hV hl => t_M_isSheet X hf hV hl)
set_option maxHeartbeats 2000000 in
set_option maxRecDepth 20000 in
theorem t_M_sheet_1 {l : Launch} {p : Program} {e : Env} {s : State} {m : MethodId} {args : Array Value} {below : List Frame} {meth : Method} {c : Code} {D : kD} {wc0 : va_W} {h : Nat} {h_now : Nat} {h_kept : Nat} {h_aside : Nat} {h_found : Nat} {h_down : Nat} {h_along : Nat} {h_parts : Nat} {h_gone : Nat} {h_tape : Nat} {h_kinds : Nat} {h_items : Nat} {h_widths : Nat} {h_sizes : Nat} {h_numbers : Nat} {h_moved : Nat} {v_isKept : Int32} {v_taped : Int32} {v_begins : Int32} {v_ends : Int32} {v_sort : Int32} {v_value : Int32} {v_isWrong : Int32} {v_itemMany : Int32} {v_farmMany : Int32} {v_farmCells : Int64} {v_found : Nat → Int32} {v_widths : Nat → Int32} {v_sizes : Nat → Int32} {v_numbers : Nat → Int64} {out : Int32 × (Nat → Int32) × (Nat → Int32) × (Nat → Int32) × (Nat → Int64)} (X : kX p m meth c s args D (va_A wc0 s.heap.size) b_M_sheet "MountainFarmsModel" 5 (some .int)) (hf : f_M_sheet_1 v_found v_widths v_sizes v_numbers = some out) {H : Heap} {locs : List Loc} (hV : kV D (va_A wc0 s.heap.size) s (wd_M_sheet D h h_now h_kept h_aside h_found h_down h_along h_parts h_gone h_tape h_kinds h_items h_widths h_sizes h_numbers h_moved v_isKept v_taped v_begins v_ends v_sort v_value v_isWrong v_itemMany v_farmMany v_farmCells v_found v_widths v_sizes v_numbers) H locs) {ls : Array Slot} (hl : lv_has ls 5 [(0, .ref h)]) : W p l e { frames := 2, cells := 0, slots := 0, locals := 42 } s m args below meth c H locs 0 0 (MQ below (kQi D wc0 (wd_M_sheet D h h_now h_kept h_aside h_found h_down h_along h_parts h_gone h_tape h_kinds h_items h_widths h_sizes h_numbers h_moved v_isKept v_taped v_begins v_ends v_sort v_value v_isWrong v_itemMany v_farmMany v_farmCells out.2.1 out.2.2.1 out.2.2.2.1 out.2.2.2.2) s.heap.size out.1) args s 0 0 (va_A wc0 s.heap.size)) (F0 m 29 ls []) := by
  unfold f_M_sheet_1 at hf
  obtain ⟨hx, hb, -⟩ := id X
  refine lv_aload_n hx hb d_M_sheet_29 rfl (lv_at hl 0 rfl) ?_
  refine k_ldc (v := (-1000000001)) X gw_973 d_M_sheet_30 ?_
  obtain ⟨r_32, v_found_33, hc_34, hf⟩ := kb2_some hf
  refine k_cvi (w1 := (wd_M_finding D h h_now h_kept h_aside h_found h_down h_along h_parts h_gone h_tape h_kinds h_items h_widths h_sizes h_numbers h_moved v_isKept v_taped v_begins v_ends v_sort v_value v_isWrong v_itemMany v_farmMany v_farmCells v_found_33)) (r := r_32) (ws' := (wd_M_sheet D h h_now h_kept h_aside h_found h_down h_along h_parts h_gone h_tape h_kinds h_items h_widths h_sizes h_numbers h_moved v_isKept v_taped v_begins v_ends v_sort v_value v_isWrong v_itemMany v_farmMany v_farmCells v_found_33 v_widths v_sizes v_numbers)) X hV hl.1 (c_M_finding D h h_now h_kept h_aside h_found h_down h_along h_parts h_gone h_tape h_kinds h_items h_widths h_sizes h_numbers h_moved v_isKept v_taped v_begins v_ends v_sort v_value v_isWrong v_itemMany v_farmMany v_farmCells v_found (-1000000001 : Int32) hc_34) fk_M_finding gw_974 rfl 0 9 rfl rfl [0, 1] [some 0, some 1, none, none, none] rfl rfl ⟨rfl, rfl, rfl, rfl, rfl, rfl, rfl, rfl, rfl, trivial⟩ rfl rfl rfl d_M_sheet_32 (fun H locs hV => ?_)
  have e_ := Option.some.inj hf
  subst e_
  exact k_iret X rfl hV rfl d_M_sheet_35
set_option maxHeartbeats 2000000 in
set_option maxRecDepth 20000 in
theorem tb_M_sheet_4 {l : Launch} {p : Program} {e : Env} {s : State} {m : MethodId} {args : Array Value} {below : List Frame} {meth : Method} {c : Code} {D : kD} {wc0 : va_W} {h : Nat} {h_now : Nat} {h_kept : Nat} {h_aside : Nat} {h_found : Nat} {h_down : Nat} {h_along : Nat} {h_parts : Nat} {h_gone : Nat} {h_tape : Nat} {h_kinds : Nat} {h_items : Nat} {h_widths : Nat} {h_sizes : Nat} {h_numbers : Nat} {h_moved : Nat} {v_isKept : Int32} {v_taped : Int32} {v_begins : Int32} {v_ends : Int32} {v_sort : Int32} {v_value : Int32} {v_isWrong : Int32} {v_itemMany : Int32} {v_farmMany : Int32} {v_farmCells : Int64} {v_found : Nat → Int32} {v_widths : Nat → Int32} {v_sizes : Nat → Int32} {v_numbers : Nat → Int64} {x1 : Int32} {x4 : Int32} {rec4 : Int32 → (Nat → Int64) → Option (Int32 × (Nat → Int32) × (Nat → Int32) × (Nat → Int32) × (Nat → Int64))} {out : Int32 × (Nat → Int32) × (Nat → Int32) × (Nat → Int32) × (Nat → Int64)} (X : kX p m meth c s args D (va_A wc0 s.heap.size) b_M_sheet "MountainFarmsModel" 5 (some .int)) (hrec4 : ∀ (x4 : Int32) (v_numbers : Nat → Int64), rec4 x4 v_numbers = some out → ∀ (H : Heap) (locs : List Loc) (ls : Array Slot), kV D (va_A wc0 s.heap.size) s (wd_M_sheet D h h_now h_kept h_aside h_found h_down h_along h_parts h_gone h_tape h_kinds h_items h_widths h_sizes h_numbers h_moved v_isKept v_taped v_begins v_ends v_sort v_value v_isWrong v_itemMany v_farmMany v_farmCells v_found v_widths v_sizes v_numbers) H locs → lv_has ls 5 [(0, .ref h), (1, .int x1), (4, .int x4)] → W p l e { frames := 2, cells := 0, slots := 0, locals := 42 } s m args below meth c H locs 0 0 (MQ below (kQi D wc0 (wd_M_sheet D h h_now h_kept h_aside h_found h_down h_along h_parts h_gone h_tape h_kinds h_items h_widths h_sizes h_numbers h_moved v_isKept v_taped v_begins v_ends v_sort v_value v_isWrong v_itemMany v_farmMany v_farmCells out.2.1 out.2.2.1 out.2.2.2.1 out.2.2.2.2) s.heap.size out.1) args s 0 0 (va_A wc0 s.heap.size)) (F0 m 86 ls [])) (hf : fb_M_sheet_4 rec4 x1 v_found v_widths v_sizes x4 v_numbers = some out) {H : Heap} {locs : List Loc} (hV : kV D (va_A wc0 s.heap.size) s (wd_M_sheet D h h_now h_kept h_aside h_found h_down h_along h_parts h_gone h_tape h_kinds h_items h_widths h_sizes h_numbers h_moved v_isKept v_taped v_begins v_ends v_sort v_value v_isWrong v_itemMany v_farmMany v_farmCells v_found v_widths v_sizes v_numbers) H locs) {ls : Array Slot} (hl : lv_has ls 5 [(0, .ref h), (1, .int x1), (4, .int x4)]) : W p l e { frames := 2, cells := 0, slots := 0, locals := 42 } s m args below meth c H locs 0 0 (MQ below (kQi D wc0 (wd_M_sheet D h h_now h_kept h_aside h_found h_down h_along h_parts h_gone h_tape h_kinds h_items h_widths h_sizes h_numbers h_moved v_isKept v_taped v_begins v_ends v_sort v_value v_isWrong v_itemMany v_farmMany v_farmCells out.2.1 out.2.2.1 out.2.2.2.1 out.2.2.2.2) s.heap.size out.1) args s 0 0 (va_A wc0 s.heap.size)) (F0 m 86 ls []) := by
  unfold fb_M_sheet_4 at hf
  obtain ⟨hx, hb, -⟩ := id X
  refine lv_iload hx hb d_M_sheet_86 (lv_at hl 2 rfl) ?_
  refine lv_bipush (v := 40) hx hb d_M_sheet_88 bp_40 ?_
  refine lv_icmp_ge (tgt := 112) hx hb d_M_sheet_90 (by decide) (fun c_46 => ?_) (fun c_46 => ?_)
  · replace hf := kifp c_46 hf
    refine lv_aload_n hx hb d_M_sheet_112 rfl (lv_at hl 0 rfl) ?_
    refine k_get X hV 0 9 22 rfl rfl rfl gw_909 rfl rfl d_M_sheet_113 ?_
    refine lv_iload_n hx hb d_M_sheet_116 rfl (lv_at hl 1 rfl) ?_
    obtain ⟨h_47, hf⟩ := kidx_some hf
    refine k_iald X hV 3 rfl h_47 rfl d_M_sheet_117 ?_
    have e_ := Option.some.inj hf
    subst e_
    exact k_iret X rfl hV rfl d_M_sheet_118
  replace hf := kifn c_46 hf
  refine lv_aload_n hx hb d_M_sheet_93 rfl (lv_at hl 0 rfl) ?_
  refine k_get X hV 0 9 23 rfl rfl rfl gw_910 rfl rfl d_M_sheet_94 ?_
  refine lv_bipush (v := 40) hx hb d_M_sheet_97 bp_40 ?_
  refine lv_iload_n hx hb d_M_sheet_99 rfl (lv_at hl 1 rfl) ?_
  refine lv_imul hx hb d_M_sheet_100 ?_
  refine lv_iload hx hb d_M_sheet_101 (lv_at hl 2 rfl) ?_
  refine lv_iadd hx hb d_M_sheet_103 ?_
  refine lv_lconst (v := 0) hx hb d_M_sheet_104 lc_0 ?_
  obtain ⟨h_48, hf⟩ := kidx_some hf
  refine k_last (ws' := (wd_M_sheet D h h_now h_kept h_aside h_found h_down h_along h_parts h_gone h_tape h_kinds h_items h_widths h_sizes h_numbers h_moved v_isKept v_taped v_begins v_ends v_sort v_value v_isWrong v_itemMany v_farmMany v_farmCells v_found v_widths v_sizes (vp_updL v_numbers (((40 : Int32) * x1) + x4).toNatClampNeg (0 : Int64)))) X hV 4 rfl h_48 rfl rfl d_M_sheet_105 (fun H locs hV => ?_)
  refine lv_iinc (v := (x4 + 1)) (lv' := [(4, .int (x4 + 1)), (0, .ref h), (1, .int x1)]) hx hb d_M_sheet_106 hl (k := 2) rfl rfl (by decide) rfl (fun ls hl => ?_)
  refine lv_goto (tgt := 86) hx hb d_M_sheet_109 (by decide) ?_
  exact hrec4 _ _ hf _ _ _ hV (lv_sub hl [1, 2, 0] rfl)
set_option maxHeartbeats 2000000 in
set_option maxRecDepth 20000 in
theorem tl_M_sheet_4 {l : Launch} {p : Program} {e : Env} {s : State} {m : MethodId} {args : Array Value} {below : List Frame} {meth : Method} {c : Code} {D : kD} {wc0 : va_W} {h : Nat} {h_now : Nat} {h_kept : Nat} {h_aside : Nat} {h_found : Nat} {h_down : Nat} {h_along : Nat} {h_parts : Nat} {h_gone : Nat} {h_tape : Nat} {h_kinds : Nat} {h_items : Nat} {h_widths : Nat} {h_sizes : Nat} {h_numbers : Nat} {h_moved : Nat} {v_isKept : Int32} {v_taped : Int32} {v_begins : Int32} {v_ends : Int32} {v_sort : Int32} {v_value : Int32} {v_isWrong : Int32} {v_itemMany : Int32} {v_farmMany : Int32} {v_farmCells : Int64} {v_found : Nat → Int32} {v_widths : Nat → Int32} {v_sizes : Nat → Int32} {x1 : Int32} {out : Int32 × (Nat → Int32) × (Nat → Int32) × (Nat → Int32) × (Nat → Int64)} (X : kX p m meth c s args D (va_A wc0 s.heap.size) b_M_sheet "MountainFarmsModel" 5 (some .int)) : ∀ (n : Nat) (x4 : Int32) (v_numbers : Nat → Int64), fl_M_sheet_4 x1 v_found v_widths v_sizes n x4 v_numbers = some out → ∀ (H : Heap) (locs : List Loc) (ls : Array Slot), kV D (va_A wc0 s.heap.size) s (wd_M_sheet D h h_now h_kept h_aside h_found h_down h_along h_parts h_gone h_tape h_kinds h_items h_widths h_sizes h_numbers h_moved v_isKept v_taped v_begins v_ends v_sort v_value v_isWrong v_itemMany v_farmMany v_farmCells v_found v_widths v_sizes v_numbers) H locs → lv_has ls 5 [(0, .ref h), (1, .int x1), (4, .int x4)] → W p l e { frames := 2, cells := 0, slots := 0, locals := 42 } s m args below meth c H locs 0 0 (MQ below (kQi D wc0 (wd_M_sheet D h h_now h_kept h_aside h_found h_down h_along h_parts h_gone h_tape h_kinds h_items h_widths h_sizes h_numbers h_moved v_isKept v_taped v_begins v_ends v_sort v_value v_isWrong v_itemMany v_farmMany v_farmCells out.2.1 out.2.2.1 out.2.2.2.1 out.2.2.2.2) s.heap.size out.1) args s 0 0 (va_A wc0 s.heap.size)) (F0 m 86 ls []) := by
  intro n
  induction n with
  | zero => intro x4 v_numbers hf; exact knone hf
  | succ n ih => intro x4 v_numbers hf H locs ls hV hl; exact tb_M_sheet_4 X ih hf hV hl
set_option maxHeartbeats 2000000 in
set_option maxRecDepth 20000 in
theorem t_M_sheet_3 {l : Launch} {p : Program} {e : Env} {s : State} {m : MethodId} {args : Array Value} {below : List Frame} {meth : Method} {c : Code} {D : kD} {wc0 : va_W} {h : Nat} {h_now : Nat} {h_kept : Nat} {h_aside : Nat} {h_found : Nat} {h_down : Nat} {h_along : Nat} {h_parts : Nat} {h_gone : Nat} {h_tape : Nat} {h_kinds : Nat} {h_items : Nat} {h_widths : Nat} {h_sizes : Nat} {h_numbers : Nat} {h_moved : Nat} {v_isKept : Int32} {v_taped : Int32} {v_begins : Int32} {v_ends : Int32} {v_sort : Int32} {v_value : Int32} {v_isWrong : Int32} {v_itemMany : Int32} {v_farmMany : Int32} {v_farmCells : Int64} {v_found : Nat → Int32} {v_widths : Nat → Int32} {v_sizes : Nat → Int32} {v_numbers : Nat → Int64} {s1 : Int32} {s2 : Int32} {x1 : Int32} {out : Int32 × (Nat → Int32) × (Nat → Int32) × (Nat → Int32) × (Nat → Int64)} (X : kX p m meth c s args D (va_A wc0 s.heap.size) b_M_sheet "MountainFarmsModel" 5 (some .int)) (hf : f_M_sheet_3 s1 s2 x1 v_found v_widths v_sizes v_numbers = some out) {H : Heap} {locs : List Loc} (hV : kV D (va_A wc0 s.heap.size) s (wd_M_sheet D h h_now h_kept h_aside h_found h_down h_along h_parts h_gone h_tape h_kinds h_items h_widths h_sizes h_numbers h_moved v_isKept v_taped v_begins v_ends v_sort v_value v_isWrong v_itemMany v_farmMany v_farmCells v_found v_widths v_sizes v_numbers) H locs) {ls : Array Slot} (hl : lv_has ls 5 [(0, .ref h), (1, .int x1)]) : W p l e { frames := 2, cells := 0, slots := 0, locals := 42 } s m args below meth c H locs 0 0 (MQ below (kQi D wc0 (wd_M_sheet D h h_now h_kept h_aside h_found h_down h_along h_parts h_gone h_tape h_kinds h_items h_widths h_sizes h_numbers h_moved v_isKept v_taped v_begins v_ends v_sort v_value v_isWrong v_itemMany v_farmMany v_farmCells out.2.1 out.2.2.1 out.2.2.2.1 out.2.2.2.2) s.heap.size out.1) args s 0 0 (va_A wc0 s.heap.size)) (F0 m 82 ls [.int s2, .int s1, .ref h_sizes]) := by
  unfold f_M_sheet_3 at hf
  obtain ⟨hx, hb, -⟩ := id X
  obtain ⟨h_45, hf⟩ := kidx_some hf
  refine k_iast (ws' := (wd_M_sheet D h h_now h_kept h_aside h_found h_down h_along h_parts h_gone h_tape h_kinds h_items h_widths h_sizes h_numbers h_moved v_isKept v_taped v_begins v_ends v_sort v_value v_isWrong v_itemMany v_farmMany v_farmCells v_found v_widths (upd v_sizes s1.toNatClampNeg s2) v_numbers)) X hV 3 rfl h_45 rfl rfl d_M_sheet_82 (fun H locs hV => ?_)
  refine lv_iconst (v := 0) hx hb d_M_sheet_83 ic_0 ?_
  refine lv_istore (lv' := [(4, .int (0 : Int32)), (0, .ref h), (1, .int x1)]) hx hb d_M_sheet_84 hl (by decide) rfl (fun ls hl => ?_)
  exact tl_M_sheet_4 X _ _ _ hf _ _ _ hV (lv_sub hl [1, 2, 0] rfl)
set_option maxHeartbeats 2000000 in
set_option maxRecDepth 20000 in
theorem t_M_sheet_2 {l : Launch} {p : Program} {e : Env} {s : State} {m : MethodId} {args : Array Value} {below : List Frame} {meth : Method} {c : Code} {D : kD} {wc0 : va_W} {h : Nat} {h_now : Nat} {h_kept : Nat} {h_aside : Nat} {h_found : Nat} {h_down : Nat} {h_along : Nat} {h_parts : Nat} {h_gone : Nat} {h_tape : Nat} {h_kinds : Nat} {h_items : Nat} {h_widths : Nat} {h_sizes : Nat} {h_numbers : Nat} {h_moved : Nat} {v_isKept : Int32} {v_taped : Int32} {v_begins : Int32} {v_ends : Int32} {v_sort : Int32} {v_value : Int32} {v_isWrong : Int32} {v_itemMany : Int32} {v_farmMany : Int32} {v_farmCells : Int64} {v_found : Nat → Int32} {v_widths : Nat → Int32} {v_sizes : Nat → Int32} {v_numbers : Nat → Int64} {x1 : Int32} {x2 : Int32} {x3 : Int32} {out : Int32 × (Nat → Int32) × (Nat → Int32) × (Nat → Int32) × (Nat → Int64)} (X : kX p m meth c s args D (va_A wc0 s.heap.size) b_M_sheet "MountainFarmsModel" 5 (some .int)) (hf : f_M_sheet_2 x1 x2 x3 v_found v_widths v_sizes v_numbers = some out) {H : Heap} {locs : List Loc} (hV : kV D (va_A wc0 s.heap.size) s (wd_M_sheet D h h_now h_kept h_aside h_found h_down h_along h_parts h_gone h_tape h_kinds h_items h_widths h_sizes h_numbers h_moved v_isKept v_taped v_begins v_ends v_sort v_value v_isWrong v_itemMany v_farmMany v_farmCells v_found v_widths v_sizes v_numbers) H locs) {ls : Array Slot} (hl : lv_has ls 5 [(0, .ref h), (1, .int x1), (2, .int x2), (3, .int x3)]) : W p l e { frames := 2, cells := 0, slots := 0, locals := 42 } s m args below meth c H locs 0 0 (MQ below (kQi D wc0 (wd_M_sheet D h h_now h_kept h_aside h_found h_down h_along h_parts h_gone h_tape h_kinds h_items h_widths h_sizes h_numbers h_moved v_isKept v_taped v_begins v_ends v_sort v_value v_isWrong v_itemMany v_farmMany v_farmCells out.2.1 out.2.2.1 out.2.2.2.1 out.2.2.2.2) s.heap.size out.1) args s 0 0 (va_A wc0 s.heap.size)) (F0 m 36 ls []) := by
  unfold f_M_sheet_2 at hf
  obtain ⟨hx, hb, -⟩ := id X
  refine lv_iload_n hx hb d_M_sheet_36 rfl (lv_at hl 3 rfl) ?_
  refine lv_if_ge (tgt := 48) hx hb d_M_sheet_37 (by decide) (fun c_35 => ?_) (fun c_35 => ?_)
  · replace hf := kifp c_35 hf
    refine lv_iload_n hx hb d_M_sheet_48 rfl (lv_at hl 3 rfl) ?_
    refine lv_bipush (v := 40) hx hb d_M_sheet_49 bp_40 ?_
    refine lv_icmp_le (tgt := 61) hx hb d_M_sheet_51 (by decide) (fun c_36 => ?_) (fun c_36 => ?_)
    · replace hf := kifp c_36 hf
      refine lv_aload_n hx hb d_M_sheet_61 rfl (lv_at hl 0 rfl) ?_
      refine k_get X hV 0 9 21 rfl rfl rfl gw_908 rfl rfl d_M_sheet_62 ?_
      refine lv_iload_n hx hb d_M_sheet_65 rfl (lv_at hl 1 rfl) ?_
      refine lv_iload_n hx hb d_M_sheet_66 rfl (lv_at hl 2 rfl) ?_
      obtain ⟨h_37, hf⟩ := kidx_some hf
      refine k_iast (ws' := (wd_M_sheet D h h_now h_kept h_aside h_found h_down h_along h_parts h_gone h_tape h_kinds h_items h_widths h_sizes h_numbers h_moved v_isKept v_taped v_begins v_ends v_sort v_value v_isWrong v_itemMany v_farmMany v_farmCells v_found (upd v_widths x1.toNatClampNeg x2) v_sizes v_numbers)) X hV 2 rfl h_37 rfl rfl d_M_sheet_67 (fun H locs hV => ?_)
      refine lv_aload_n hx hb d_M_sheet_68 rfl (lv_at hl 0 rfl) ?_
      refine k_get X hV 0 9 22 rfl rfl rfl gw_909 rfl rfl d_M_sheet_69 ?_
      refine lv_iload_n hx hb d_M_sheet_72 rfl (lv_at hl 1 rfl) ?_
      refine lv_iload_n hx hb d_M_sheet_73 rfl (lv_at hl 2 rfl) ?_
      refine lv_if_ne (tgt := 81) hx hb d_M_sheet_74 (by decide) (fun c_38 => ?_) (fun c_38 => ?_)
      · replace hf := kifn c_38 hf
        refine lv_iload_n hx hb d_M_sheet_81 rfl (lv_at hl 3 rfl) ?_
        exact t_M_sheet_3 X hf hV (lv_sub hl [0, 1] rfl)
      replace hf := kifp c_38 hf
      refine lv_iconst (v := 0) hx hb d_M_sheet_77 ic_0 ?_
      refine lv_goto (tgt := 82) hx hb d_M_sheet_78 (by decide) ?_
      exact t_M_sheet_3 X hf hV (lv_sub hl [0, 1] rfl)
    replace hf := kifn c_36 hf
    refine lv_aload_n hx hb d_M_sheet_54 rfl (lv_at hl 0 rfl) ?_
    refine k_ldc (v := (-1000000001)) X gw_973 d_M_sheet_55 ?_
    obtain ⟨r_39, v_found_40, hc_41, hf⟩ := kb2_some hf
    refine k_cvi (w1 := (wd_M_finding D h h_now h_kept h_aside h_found h_down h_along h_parts h_gone h_tape h_kinds h_items h_widths h_sizes h_numbers h_moved v_isKept v_taped v_begins v_ends v_sort v_value v_isWrong v_itemMany v_farmMany v_farmCells v_found_40)) (r := r_39) (ws' := (wd_M_sheet D h h_now h_kept h_aside h_found h_down h_along h_parts h_gone h_tape h_kinds h_items h_widths h_sizes h_numbers h_moved v_isKept v_taped v_begins v_ends v_sort v_value v_isWrong v_itemMany v_farmMany v_farmCells v_found_40 v_widths v_sizes v_numbers)) X hV hl.1 (c_M_finding D h h_now h_kept h_aside h_found h_down h_along h_parts h_gone h_tape h_kinds h_items h_widths h_sizes h_numbers h_moved v_isKept v_taped v_begins v_ends v_sort v_value v_isWrong v_itemMany v_farmMany v_farmCells v_found (-1000000001 : Int32) hc_41) fk_M_finding gw_974 rfl 0 9 rfl rfl [0, 1] [some 0, some 1, none, none, none] rfl rfl ⟨rfl, rfl, rfl, rfl, rfl, rfl, rfl, rfl, rfl, trivial⟩ rfl rfl rfl d_M_sheet_57 (fun H locs hV => ?_)
    have e_ := Option.some.inj hf
    subst e_
    exact k_iret X rfl hV rfl d_M_sheet_60
  replace hf := kifn c_35 hf
  refine lv_aload_n hx hb d_M_sheet_40 rfl (lv_at hl 0 rfl) ?_
  refine k_ldcw (v := (-1000000007)) X gw_1329 d_M_sheet_41 ?_
  obtain ⟨r_42, v_found_43, hc_44, hf⟩ := kb2_some hf
  refine k_cvi (w1 := (wd_M_finding D h h_now h_kept h_aside h_found h_down h_along h_parts h_gone h_tape h_kinds h_items h_widths h_sizes h_numbers h_moved v_isKept v_taped v_begins v_ends v_sort v_value v_isWrong v_itemMany v_farmMany v_farmCells v_found_43)) (r := r_42) (ws' := (wd_M_sheet D h h_now h_kept h_aside h_found h_down h_along h_parts h_gone h_tape h_kinds h_items h_widths h_sizes h_numbers h_moved v_isKept v_taped v_begins v_ends v_sort v_value v_isWrong v_itemMany v_farmMany v_farmCells v_found_43 v_widths v_sizes v_numbers)) X hV hl.1 (c_M_finding D h h_now h_kept h_aside h_found h_down h_along h_parts h_gone h_tape h_kinds h_items h_widths h_sizes h_numbers h_moved v_isKept v_taped v_begins v_ends v_sort v_value v_isWrong v_itemMany v_farmMany v_farmCells v_found (-1000000007 : Int32) hc_44) fk_M_finding gw_974 rfl 0 9 rfl rfl [0, 1] [some 0, some 1, none, none, none] rfl rfl ⟨rfl, rfl, rfl, rfl, rfl, rfl, rfl, rfl, rfl, trivial⟩ rfl rfl rfl d_M_sheet_44 (fun H locs hV => ?_)
  have e_ := Option.some.inj hf
  subst e_
  exact k_iret X rfl hV rfl d_M_sheet_47
set_option maxHeartbeats 2000000 in
set_option maxRecDepth 20000 in
theorem t_M_sheet {l : Launch} {p : Program} {e : Env} {s : State} {m : MethodId} {args : Array Value} {below : List Frame} {meth : Method} {c : Code} {D : kD} {wc0 : va_W} {h : Nat} {h_now : Nat} {h_kept : Nat} {h_aside : Nat} {h_found : Nat} {h_down : Nat} {h_along : Nat} {h_parts : Nat} {h_gone : Nat} {h_tape : Nat} {h_kinds : Nat} {h_items : Nat} {h_widths : Nat} {h_sizes : Nat} {h_numbers : Nat} {h_moved : Nat} {v_isKept : Int32} {v_taped : Int32} {v_begins : Int32} {v_ends : Int32} {v_sort : Int32} {v_value : Int32} {v_isWrong : Int32} {v_itemMany : Int32} {v_farmMany : Int32} {v_farmCells : Int64} {v_found : Nat → Int32} {v_widths : Nat → Int32} {v_sizes : Nat → Int32} {v_numbers : Nat → Int64} {x1 : Int32} {x2 : Int32} {x3 : Int32} {out : Int32 × (Nat → Int32) × (Nat → Int32) × (Nat → Int32) × (Nat → Int64)} (X : kX p m meth c s args D (va_A wc0 s.heap.size) b_M_sheet "MountainFarmsModel" 5 (some .int)) (hf : f_M_sheet v_found v_widths v_sizes v_numbers x1 x2 x3 = some out) {H : Heap} {locs : List Loc} (hV : kV D (va_A wc0 s.heap.size) s (wd_M_sheet D h h_now h_kept h_aside h_found h_down h_along h_parts h_gone h_tape h_kinds h_items h_widths h_sizes h_numbers h_moved v_isKept v_taped v_begins v_ends v_sort v_value v_isWrong v_itemMany v_farmMany v_farmCells v_found v_widths v_sizes v_numbers) H locs) {ls : Array Slot} (hl : lv_has ls 5 [(0, .ref h), (1, .int x1), (2, .int x2), (3, .int x3)]) : W p l e { frames := 2, cells := 0, slots := 0, locals := 42 } s m args below meth c H locs 0 0 (MQ below (kQi D wc0 (wd_M_sheet D h h_now h_kept h_aside h_found h_down h_along h_parts h_gone h_tape h_kinds h_items h_widths h_sizes h_numbers h_moved v_isKept v_taped v_begins v_ends v_sort v_value v_isWrong v_itemMany v_farmMany v_farmCells out.2.1 out.2.2.1 out.2.2.2.1 out.2.2.2.2) s.heap.size out.1) args s 0 0 (va_A wc0 s.heap.size)) (F0 m 0 ls []) := by
  unfold f_M_sheet at hf
  obtain ⟨hx, hb, -⟩ := id X
  refine lv_iload_n hx hb d_M_sheet_0 rfl (lv_at hl 1 rfl) ?_
  obtain ⟨r_25, hc_26, hf⟩ := kb1_some hf
  refine k_csi (w1 := (wd_M_isSheet D)) (r := r_25) (ws' := (wd_M_sheet D h h_now h_kept h_aside h_found h_down h_along h_parts h_gone h_tape h_kinds h_items h_widths h_sizes h_numbers h_moved v_isKept v_taped v_begins v_ends v_sort v_value v_isWrong v_itemMany v_farmMany v_farmCells v_found v_widths v_sizes v_numbers)) X hV hl.1 (c_M_isSheet D x1 hc_26) fk_M_isSheet gw_1326 rfl [] [none, none, none, none, none] rfl rfl ⟨rfl, rfl, rfl, rfl, rfl, trivial⟩ rfl rfl rfl d_M_sheet_1 (fun H locs hV => ?_)
  refine lv_if_eq (tgt := 29) hx hb d_M_sheet_4 (by decide) (fun c_27 => ?_) (fun c_27 => ?_)
  · replace hf := kifp c_27 hf
    exact t_M_sheet_1 X hf hV (lv_sub hl [0] rfl)
  replace hf := kifn c_27 hf
  refine lv_iload_n hx hb d_M_sheet_7 rfl (lv_at hl 2 rfl) ?_
  refine lv_if_eq (tgt := 36) hx hb d_M_sheet_8 (by decide) (fun c_28 => ?_) (fun c_28 => ?_)
  · replace hf := kifp c_28 hf
    exact t_M_sheet_2 X hf hV (lv_sub hl [0, 1, 2, 3] rfl)
  replace hf := kifn c_28 hf
  refine lv_iload_n hx hb d_M_sheet_11 rfl (lv_at hl 2 rfl) ?_
  refine lv_bipush (v := 8) hx hb d_M_sheet_12 bp_8 ?_
  refine lv_icmp_eq (tgt := 36) hx hb d_M_sheet_14 (by decide) (fun c_29 => ?_) (fun c_29 => ?_)
  · replace hf := kifp c_29 hf
    exact t_M_sheet_2 X hf hV (lv_sub hl [0, 1, 2, 3] rfl)
  replace hf := kifn c_29 hf
  refine lv_iload_n hx hb d_M_sheet_17 rfl (lv_at hl 2 rfl) ?_
  refine lv_bipush (v := 16) hx hb d_M_sheet_18 bp_16 ?_
  refine lv_icmp_eq (tgt := 36) hx hb d_M_sheet_20 (by decide) (fun c_30 => ?_) (fun c_30 => ?_)
  · replace hf := kifp c_30 hf
    exact t_M_sheet_2 X hf hV (lv_sub hl [0, 1, 2, 3] rfl)
  replace hf := kifn c_30 hf
  refine lv_iload_n hx hb d_M_sheet_23 rfl (lv_at hl 2 rfl) ?_
  refine lv_bipush (v := 64) hx hb d_M_sheet_24 bp_64 ?_
  refine lv_icmp_eq (tgt := 36) hx hb d_M_sheet_26 (by decide) (fun c_31 => ?_) (fun c_31 => ?_)
  · replace hf := kifp c_31 hf
    exact t_M_sheet_2 X hf hV (lv_sub hl [0, 1, 2, 3] rfl)
  replace hf := kifn c_31 hf
  exact t_M_sheet_1 X hf hV (lv_sub hl [0] rfl)
set_option maxHeartbeats 2000000 in
set_option maxRecDepth 20000 in
theorem c_M_sheet {l : Launch} (D : kD) (h : Nat) (h_now : Nat) (h_kept : Nat) (h_aside : Nat) (h_found : Nat) (h_down : Nat) (h_along : Nat) (h_parts : Nat) (h_gone : Nat) (h_tape : Nat) (h_kinds : Nat) (h_items : Nat) (h_widths : Nat) (h_sizes : Nat) (h_numbers : Nat) (h_moved : Nat) (v_isKept : Int32) (v_taped : Int32) (v_begins : Int32) (v_ends : Int32) (v_sort : Int32) (v_value : Int32) (v_isWrong : Int32) (v_itemMany : Int32) (v_farmMany : Int32) (v_farmCells : Int64) (v_found : Nat → Int32) (v_widths : Nat → Int32) (v_sizes : Nat → Int32) (v_numbers : Nat → Int64) (x1 : Int32) (x2 : Int32) (x3 : Int32) {out : Int32 × (Nat → Int32) × (Nat → Int32) × (Nat → Int32) × (Nat → Int64)} (hf : f_M_sheet v_found v_widths v_sizes v_numbers x1 x2 x3 = some out) : kMi l D y_M_sheet b_M_sheet 5 (some .int) { frames := 2, cells := 0, slots := 0, locals := 42 } [.ref h, .int x1, .int x2, .int x3] (wd_M_sheet D h h_now h_kept h_aside h_found h_down h_along h_parts h_gone h_tape h_kinds h_items h_widths h_sizes h_numbers h_moved v_isKept v_taped v_begins v_ends v_sort v_value v_isWrong v_itemMany v_farmMany v_farmCells v_found v_widths v_sizes v_numbers) (wd_M_sheet D h h_now h_kept h_aside h_found h_down h_along h_parts h_gone h_tape h_kinds h_items h_widths h_sizes h_numbers h_moved v_isKept v_taped v_begins v_ends v_sort v_value v_isWrong v_itemMany v_farmMany v_farmCells out.2.1 out.2.2.1 out.2.2.2.1 out.2.2.2.2) out.1 :=
  kMi_of (own := "MountainFarmsModel") (plainFor_of_name (by decide)) rfl rfl (fun p e s m args below meth c ls X hV hl => t_M_sheet X hf hV hl)
set_option maxHeartbeats 2000000 in
set_option maxRecDepth 20000 in
theorem t_M_cutTo {l : Launch} {p : Program} {e : Env} {s : State} {m : MethodId} {args : Array Value} {below : List Frame} {meth : Method} {c : Code} {D : kD} {wc0 : va_W} {x0 : Int64} {x2 : Int32} {out : Int64} (X : kX p m meth c s args D (va_A wc0 s.heap.size) b_M_cutTo "MountainFarmsModel" 3 (some .long)) (hf : f_M_cutTo x0 x2 = some out) {H : Heap} {locs : List Loc} (hV : kV D (va_A wc0 s.heap.size) s (wd_M_cutTo D) H locs) {ls : Array Slot} (hl : lv_has ls 3 [(0, .long x0), (2, .int x2)]) : W p l e { frames := 0, cells := 0, slots := 0, locals := 0 } s m args below meth c H locs 0 0 (MQ below (kQl D wc0 (wd_M_cutTo D) s.heap.size out) args s 0 0 (va_A wc0 s.heap.size)) (F0 m 0 ls []) := by
  unfold f_M_cutTo at hf
  obtain ⟨hx, hb, -⟩ := id X
  refine lv_iload_n hx hb d_M_cutTo_0 rfl (lv_at hl 1 rfl) ?_
  refine lv_bipush (v := 8) hx hb d_M_cutTo_1 bp_8 ?_
  refine lv_icmp_ne (tgt := 13) hx hb d_M_cutTo_3 (by decide) (fun c_3 => ?_) (fun c_3 => ?_)
  · replace hf := kifn c_3 hf
    refine lv_iload_n hx hb d_M_cutTo_13 rfl (lv_at hl 1 rfl) ?_
    refine lv_bipush (v := 16) hx hb d_M_cutTo_14 bp_16 ?_
    refine lv_icmp_ne (tgt := 26) hx hb d_M_cutTo_16 (by decide) (fun c_4 => ?_) (fun c_4 => ?_)
    · replace hf := kifn c_4 hf
      refine lv_lload_n hx hb d_M_cutTo_26 rfl (lv_at hl 0 rfl) ?_
      have e_ := Option.some.inj hf
      subst e_
      exact k_lret X rfl hV d_M_cutTo_27
    replace hf := kifp c_4 hf
    refine lv_lload_n hx hb d_M_cutTo_19 rfl (lv_at hl 0 rfl) ?_
    refine lv_l2i hx hb d_M_cutTo_20 rfl ?_
    refine lv_i2s hx hb d_M_cutTo_21 rfl ?_
    refine lv_i2l hx hb d_M_cutTo_22 rfl ?_
    refine lv_goto (tgt := 27) hx hb d_M_cutTo_23 (by decide) ?_
    have e_ := Option.some.inj hf
    subst e_
    exact k_lret X rfl hV d_M_cutTo_27
  replace hf := kifp c_3 hf
  refine lv_lload_n hx hb d_M_cutTo_6 rfl (lv_at hl 0 rfl) ?_
  refine lv_l2i hx hb d_M_cutTo_7 rfl ?_
  refine lv_i2b hx hb d_M_cutTo_8 rfl ?_
  refine lv_i2l hx hb d_M_cutTo_9 rfl ?_
  refine lv_goto (tgt := 27) hx hb d_M_cutTo_10 (by decide) ?_
  have e_ := Option.some.inj hf
  subst e_
  exact k_lret X rfl hV d_M_cutTo_27
set_option maxHeartbeats 2000000 in
set_option maxRecDepth 20000 in
theorem c_M_cutTo {l : Launch} (D : kD) (x0 : Int64) (x2 : Int32) {out : Int64} (hf : f_M_cutTo x0 x2 = some out) : kMl l D y_M_cutTo b_M_cutTo 3 (some .long) { frames := 0, cells := 0, slots := 0, locals := 0 } [.long x0, .int x2] (wd_M_cutTo D) (wd_M_cutTo D) out :=
  kMl_of (own := "MountainFarmsModel") (plainFor_of_name (by decide)) rfl rfl (fun p e s m args below meth c ls X hV hl => t_M_cutTo X hf hV hl)
set_option maxHeartbeats 2000000 in
set_option maxRecDepth 20000 in
theorem t_M_write {l : Launch} {p : Program} {e : Env} {s : State} {m : MethodId} {args : Array Value} {below : List Frame} {meth : Method} {c : Code} {D : kD} {wc0 : va_W} {h : Nat} {h_now : Nat} {h_kept : Nat} {h_aside : Nat} {h_found : Nat} {h_down : Nat} {h_along : Nat} {h_parts : Nat} {h_gone : Nat} {h_tape : Nat} {h_kinds : Nat} {h_items : Nat} {h_widths : Nat} {h_sizes : Nat} {h_numbers : Nat} {h_moved : Nat} {v_isKept : Int32} {v_taped : Int32} {v_begins : Int32} {v_ends : Int32} {v_sort : Int32} {v_value : Int32} {v_isWrong : Int32} {v_itemMany : Int32} {v_farmMany : Int32} {v_farmCells : Int64} {v_found : Nat → Int32} {v_widths : Nat → Int32} {v_sizes : Nat → Int32} {v_numbers : Nat → Int64} {x1 : Int32} {x2 : Int32} {x3 : Int64} {out : Int64 × (Nat → Int32) × (Nat → Int64)} (X : kX p m meth c s args D (va_A wc0 s.heap.size) b_M_write "MountainFarmsModel" 7 (some .long)) (hf : f_M_write v_found v_widths v_sizes v_numbers x1 x2 x3 = some out) {H : Heap} {locs : List Loc} (hV : kV D (va_A wc0 s.heap.size) s (wd_M_write D h h_now h_kept h_aside h_found h_down h_along h_parts h_gone h_tape h_kinds h_items h_widths h_sizes h_numbers h_moved v_isKept v_taped v_begins v_ends v_sort v_value v_isWrong v_itemMany v_farmMany v_farmCells v_found v_widths v_sizes v_numbers) H locs) {ls : Array Slot} (hl : lv_has ls 7 [(0, .ref h), (1, .int x1), (2, .int x2), (3, .long x3)]) : W p l e { frames := 2, cells := 0, slots := 0, locals := 42 } s m args below meth c H locs 0 0 (MQ below (kQl D wc0 (wd_M_write D h h_now h_kept h_aside h_found h_down h_along h_parts h_gone h_tape h_kinds h_items h_widths h_sizes h_numbers h_moved v_isKept v_taped v_begins v_ends v_sort v_value v_isWrong v_itemMany v_farmMany v_farmCells out.2.1 v_widths v_sizes out.2.2) s.heap.size out.1) args s 0 0 (va_A wc0 s.heap.size)) (F0 m 0 ls []) := by
  unfold f_M_write at hf
  obtain ⟨hx, hb, -⟩ := id X
  refine lv_iload_n hx hb d_M_write_0 rfl (lv_at hl 1 rfl) ?_
  obtain ⟨r_25, hc_26, hf⟩ := kb1_some hf
  refine k_csi (w1 := (wd_M_isSheet D)) (r := r_25) (ws' := (wd_M_write D h h_now h_kept h_aside h_found h_down h_along h_parts h_gone h_tape h_kinds h_items h_widths h_sizes h_numbers h_moved v_isKept v_taped v_begins v_ends v_sort v_value v_isWrong v_itemMany v_farmMany v_farmCells v_found v_widths v_sizes v_numbers)) X hV hl.1 (c_M_isSheet D x1 hc_26) fk_M_isSheet gw_1326 rfl [] [none, none, none, none, none] rfl rfl ⟨rfl, rfl, rfl, rfl, rfl, trivial⟩ rfl rfl rfl d_M_write_1 (fun H locs hV => ?_)
  refine lv_if_ne (tgt := 15) hx hb d_M_write_4 (by decide) (fun c_27 => ?_) (fun c_27 => ?_)
  · replace hf := kifn c_27 hf
    refine lv_aload_n hx hb d_M_write_15 rfl (lv_at hl 0 rfl) ?_
    refine k_get X hV 0 9 21 rfl rfl rfl gw_908 rfl rfl d_M_write_16 ?_
    refine lv_iload_n hx hb d_M_write_19 rfl (lv_at hl 1 rfl) ?_
    obtain ⟨h_28, hf⟩ := kidx_some hf
    refine k_iald X hV 2 rfl h_28 rfl d_M_write_20 ?_
    refine lv_if_ne (tgt := 33) hx hb d_M_write_21 (by decide) (fun c_29 => ?_) (fun c_29 => ?_)
    · replace hf := kifn c_29 hf
      refine lv_iload_n hx hb d_M_write_33 rfl (lv_at hl 2 rfl) ?_
      refine lv_iconst (v := 0) hx hb d_M_write_34 ic_0 ?_
      refine lv_aload_n hx hb d_M_write_35 rfl (lv_at hl 0 rfl) ?_
      refine k_get X hV 0 9 22 rfl rfl rfl gw_909 rfl rfl d_M_write_36 ?_
      refine lv_iload_n hx hb d_M_write_39 rfl (lv_at hl 1 rfl) ?_
      obtain ⟨h_30, hf⟩ := kidx_some hf
      refine k_iald X hV 3 rfl h_30 rfl d_M_write_40 ?_
      refine lv_iconst (v := 1) hx hb d_M_write_41 ic_1 ?_
      refine lv_isub hx hb d_M_write_42 ?_
      obtain ⟨r_31, hc_32, hf⟩ := kb1_some hf
      refine k_csi (w1 := (wd_M_within D)) (r := r_31) (ws' := (wd_M_write D h h_now h_kept h_aside h_found h_down h_along h_parts h_gone h_tape h_kinds h_items h_widths h_sizes h_numbers h_moved v_isKept v_taped v_begins v_ends v_sort v_value v_isWrong v_itemMany v_farmMany v_farmCells v_found v_widths v_sizes v_numbers)) X hV hl.1 (c_M_within D x2 (0 : Int32) ((v_sizes x1.toNatClampNeg) - (1 : Int32)) hc_32) fk_M_within gw_970 rfl [] [none, none, none, none, none] rfl rfl ⟨rfl, rfl, rfl, rfl, rfl, trivial⟩ rfl rfl rfl d_M_write_43 (fun H locs hV => ?_)
      refine lv_if_ne (tgt := 57) hx hb d_M_write_46 (by decide) (fun c_33 => ?_) (fun c_33 => ?_)
      · replace hf := kifn c_33 hf
        refine lv_aload_n hx hb d_M_write_57 rfl (lv_at hl 0 rfl) ?_
        refine k_get X hV 0 9 23 rfl rfl rfl gw_910 rfl rfl d_M_write_58 ?_
        refine lv_bipush (v := 40) hx hb d_M_write_61 bp_40 ?_
        refine lv_iload_n hx hb d_M_write_63 rfl (lv_at hl 1 rfl) ?_
        refine lv_imul hx hb d_M_write_64 ?_
        refine lv_iload_n hx hb d_M_write_65 rfl (lv_at hl 2 rfl) ?_
        refine lv_iadd hx hb d_M_write_66 ?_
        obtain ⟨h_34, hf⟩ := kidx_some hf
        refine k_lald X hV 4 rfl h_34 rfl d_M_write_67 ?_
        refine k_letl hf (fun x5_35 hf => ?_)
        refine lv_lstore (lv' := [(5, .long x5_35), (0, .ref h), (1, .int x1), (2, .int x2), (3, .long x3)]) hx hb d_M_write_68 hl (by decide) rfl (fun ls hl => ?_)
        refine lv_aload_n hx hb d_M_write_70 rfl (lv_at hl 1 rfl) ?_
        refine k_get X hV 0 9 23 rfl rfl rfl gw_910 rfl rfl d_M_write_71 ?_
        refine lv_bipush (v := 40) hx hb d_M_write_74 bp_40 ?_
        refine lv_iload_n hx hb d_M_write_76 rfl (lv_at hl 2 rfl) ?_
        refine lv_imul hx hb d_M_write_77 ?_
        refine lv_iload_n hx hb d_M_write_78 rfl (lv_at hl 3 rfl) ?_
        refine lv_iadd hx hb d_M_write_79 ?_
        refine lv_lload_n hx hb d_M_write_80 rfl (lv_at hl 4 rfl) ?_
        refine lv_aload_n hx hb d_M_write_81 rfl (lv_at hl 1 rfl) ?_
        refine k_get X hV 0 9 21 rfl rfl rfl gw_908 rfl rfl d_M_write_82 ?_
        refine lv_iload_n hx hb d_M_write_85 rfl (lv_at hl 2 rfl) ?_
        obtain ⟨h_36, hf⟩ := kidx_some hf
        refine k_iald X hV 2 rfl h_36 rfl d_M_write_86 ?_
        obtain ⟨r_37, hc_38, hf⟩ := kb1_some hf
        refine k_csl (w1 := (wd_M_cutTo D)) (r := r_37) (ws' := (wd_M_write D h h_now h_kept h_aside h_found h_down h_along h_parts h_gone h_tape h_kinds h_items h_widths h_sizes h_numbers h_moved v_isKept v_taped v_begins v_ends v_sort v_value v_isWrong v_itemMany v_farmMany v_farmCells v_found v_widths v_sizes v_numbers)) X hV hl.1 (c_M_cutTo D x3 (v_widths x1.toNatClampNeg) hc_38) fk_M_cutTo gw_1335 rfl [] [none, none, none, none, none] rfl rfl ⟨rfl, rfl, rfl, rfl, rfl, trivial⟩ rfl rfl rfl d_M_write_87 (fun H locs hV => ?_)
        obtain ⟨h_39, hf⟩ := kidx_some hf
        refine k_last (ws' := (wd_M_write D h h_now h_kept h_aside h_found h_down h_along h_parts h_gone h_tape h_kinds h_items h_widths h_sizes h_numbers h_moved v_isKept v_taped v_begins v_ends v_sort v_value v_isWrong v_itemMany v_farmMany v_farmCells v_found v_widths v_sizes (vp_updL v_numbers (((40 : Int32) * x1) + x2).toNatClampNeg r_37))) X hV 4 rfl h_39 rfl rfl d_M_write_90 (fun H locs hV => ?_)
        refine lv_lload hx hb d_M_write_91 (lv_at hl 0 rfl) ?_
        have e_ := Option.some.inj hf
        subst e_
        exact k_lret X rfl hV d_M_write_93
      replace hf := kifp c_33 hf
      refine lv_aload_n hx hb d_M_write_49 rfl (lv_at hl 0 rfl) ?_
      refine k_ldc (v := (-1000000001)) X gw_973 d_M_write_50 ?_
      obtain ⟨r_40, v_found_41, hc_42, hf⟩ := kb2_some hf
      refine k_cvi (w1 := (wd_M_finding D h h_now h_kept h_aside h_found h_down h_along h_parts h_gone h_tape h_kinds h_items h_widths h_sizes h_numbers h_moved v_isKept v_taped v_begins v_ends v_sort v_value v_isWrong v_itemMany v_farmMany v_farmCells v_found_41)) (r := r_40) (ws' := (wd_M_write D h h_now h_kept h_aside h_found h_down h_along h_parts h_gone h_tape h_kinds h_items h_widths h_sizes h_numbers h_moved v_isKept v_taped v_begins v_ends v_sort v_value v_isWrong v_itemMany v_farmMany v_farmCells v_found_41 v_widths v_sizes v_numbers)) X hV hl.1 (c_M_finding D h h_now h_kept h_aside h_found h_down h_along h_parts h_gone h_tape h_kinds h_items h_widths h_sizes h_numbers h_moved v_isKept v_taped v_begins v_ends v_sort v_value v_isWrong v_itemMany v_farmMany v_farmCells v_found (-1000000001 : Int32) hc_42) fk_M_finding gw_974 rfl 0 9 rfl rfl [0, 1] [some 0, some 1, none, none, none] rfl rfl ⟨rfl, rfl, rfl, rfl, rfl, rfl, rfl, rfl, rfl, trivial⟩ rfl rfl rfl d_M_write_52 (fun H locs hV => ?_)
      refine lv_i2l hx hb d_M_write_55 rfl ?_
      have e_ := Option.some.inj hf
      subst e_
      exact k_lret X rfl hV d_M_write_56
    replace hf := kifp c_29 hf
    refine lv_aload_n hx hb d_M_write_24 rfl (lv_at hl 0 rfl) ?_
    refine k_ldcw (v := (-1000000006)) X gw_1334 d_M_write_25 ?_
    obtain ⟨r_43, v_found_44, hc_45, hf⟩ := kb2_some hf
    refine k_cvi (w1 := (wd_M_finding D h h_now h_kept h_aside h_found h_down h_along h_parts h_gone h_tape h_kinds h_items h_widths h_sizes h_numbers h_moved v_isKept v_taped v_begins v_ends v_sort v_value v_isWrong v_itemMany v_farmMany v_farmCells v_found_44)) (r := r_43) (ws' := (wd_M_write D h h_now h_kept h_aside h_found h_down h_along h_parts h_gone h_tape h_kinds h_items h_widths h_sizes h_numbers h_moved v_isKept v_taped v_begins v_ends v_sort v_value v_isWrong v_itemMany v_farmMany v_farmCells v_found_44 v_widths v_sizes v_numbers)) X hV hl.1 (c_M_finding D h h_now h_kept h_aside h_found h_down h_along h_parts h_gone h_tape h_kinds h_items h_widths h_sizes h_numbers h_moved v_isKept v_taped v_begins v_ends v_sort v_value v_isWrong v_itemMany v_farmMany v_farmCells v_found (-1000000006 : Int32) hc_45) fk_M_finding gw_974 rfl 0 9 rfl rfl [0, 1] [some 0, some 1, none, none, none] rfl rfl ⟨rfl, rfl, rfl, rfl, rfl, rfl, rfl, rfl, rfl, trivial⟩ rfl rfl rfl d_M_write_28 (fun H locs hV => ?_)
    refine lv_i2l hx hb d_M_write_31 rfl ?_
    have e_ := Option.some.inj hf
    subst e_
    exact k_lret X rfl hV d_M_write_32
  replace hf := kifp c_27 hf
  refine lv_aload_n hx hb d_M_write_7 rfl (lv_at hl 0 rfl) ?_
  refine k_ldc (v := (-1000000001)) X gw_973 d_M_write_8 ?_
  obtain ⟨r_46, v_found_47, hc_48, hf⟩ := kb2_some hf
  refine k_cvi (w1 := (wd_M_finding D h h_now h_kept h_aside h_found h_down h_along h_parts h_gone h_tape h_kinds h_items h_widths h_sizes h_numbers h_moved v_isKept v_taped v_begins v_ends v_sort v_value v_isWrong v_itemMany v_farmMany v_farmCells v_found_47)) (r := r_46) (ws' := (wd_M_write D h h_now h_kept h_aside h_found h_down h_along h_parts h_gone h_tape h_kinds h_items h_widths h_sizes h_numbers h_moved v_isKept v_taped v_begins v_ends v_sort v_value v_isWrong v_itemMany v_farmMany v_farmCells v_found_47 v_widths v_sizes v_numbers)) X hV hl.1 (c_M_finding D h h_now h_kept h_aside h_found h_down h_along h_parts h_gone h_tape h_kinds h_items h_widths h_sizes h_numbers h_moved v_isKept v_taped v_begins v_ends v_sort v_value v_isWrong v_itemMany v_farmMany v_farmCells v_found (-1000000001 : Int32) hc_48) fk_M_finding gw_974 rfl 0 9 rfl rfl [0, 1] [some 0, some 1, none, none, none] rfl rfl ⟨rfl, rfl, rfl, rfl, rfl, rfl, rfl, rfl, rfl, trivial⟩ rfl rfl rfl d_M_write_10 (fun H locs hV => ?_)
  refine lv_i2l hx hb d_M_write_13 rfl ?_
  have e_ := Option.some.inj hf
  subst e_
  exact k_lret X rfl hV d_M_write_14
set_option maxHeartbeats 2000000 in
set_option maxRecDepth 20000 in
theorem c_M_write {l : Launch} (D : kD) (h : Nat) (h_now : Nat) (h_kept : Nat) (h_aside : Nat) (h_found : Nat) (h_down : Nat) (h_along : Nat) (h_parts : Nat) (h_gone : Nat) (h_tape : Nat) (h_kinds : Nat) (h_items : Nat) (h_widths : Nat) (h_sizes : Nat) (h_numbers : Nat) (h_moved : Nat) (v_isKept : Int32) (v_taped : Int32) (v_begins : Int32) (v_ends : Int32) (v_sort : Int32) (v_value : Int32) (v_isWrong : Int32) (v_itemMany : Int32) (v_farmMany : Int32) (v_farmCells : Int64) (v_found : Nat → Int32) (v_widths : Nat → Int32) (v_sizes : Nat → Int32) (v_numbers : Nat → Int64) (x1 : Int32) (x2 : Int32) (x3 : Int64) {out : Int64 × (Nat → Int32) × (Nat → Int64)} (hf : f_M_write v_found v_widths v_sizes v_numbers x1 x2 x3 = some out) : kMl l D y_M_write b_M_write 7 (some .long) { frames := 2, cells := 0, slots := 0, locals := 42 } [.ref h, .int x1, .int x2, .long x3] (wd_M_write D h h_now h_kept h_aside h_found h_down h_along h_parts h_gone h_tape h_kinds h_items h_widths h_sizes h_numbers h_moved v_isKept v_taped v_begins v_ends v_sort v_value v_isWrong v_itemMany v_farmMany v_farmCells v_found v_widths v_sizes v_numbers) (wd_M_write D h h_now h_kept h_aside h_found h_down h_along h_parts h_gone h_tape h_kinds h_items h_widths h_sizes h_numbers h_moved v_isKept v_taped v_begins v_ends v_sort v_value v_isWrong v_itemMany v_farmMany v_farmCells out.2.1 v_widths v_sizes out.2.2) out.1 :=
  kMl_of (own := "MountainFarmsModel") (plainFor_of_name (by decide)) rfl rfl (fun p e s m args below meth c ls X hV hl => t_M_write X hf hV hl)
set_option maxHeartbeats 2000000 in
set_option maxRecDepth 20000 in
theorem t_M_copy_1 {l : Launch} {p : Program} {e : Env} {s : State} {m : MethodId} {args : Array Value} {below : List Frame} {meth : Method} {c : Code} {D : kD} {wc0 : va_W} {h : Nat} {h_now : Nat} {h_kept : Nat} {h_aside : Nat} {h_found : Nat} {h_down : Nat} {h_along : Nat} {h_parts : Nat} {h_gone : Nat} {h_tape : Nat} {h_kinds : Nat} {h_items : Nat} {h_widths : Nat} {h_sizes : Nat} {h_numbers : Nat} {h_moved : Nat} {v_isKept : Int32} {v_taped : Int32} {v_begins : Int32} {v_ends : Int32} {v_sort : Int32} {v_value : Int32} {v_isWrong : Int32} {v_itemMany : Int32} {v_farmMany : Int32} {v_farmCells : Int64} {v_found : Nat → Int32} {v_widths : Nat → Int32} {v_sizes : Nat → Int32} {v_numbers : Nat → Int64} {v_moved : Nat → Int64} {out : Int32 × (Nat → Int32) × (Nat → Int64) × (Nat → Int64)} (X : kX p m meth c s args D (va_A wc0 s.heap.size) b_M_copy "MountainFarmsModel" 7 (some .int)) (hf : f_M_copy_1 v_found v_numbers v_moved = some out) {H : Heap} {locs : List Loc} (hV : kV D (va_A wc0 s.heap.size) s (wd_M_copy D h h_now h_kept h_aside h_found h_down h_along h_parts h_gone h_tape h_kinds h_items h_widths h_sizes h_numbers h_moved v_isKept v_taped v_begins v_ends v_sort v_value v_isWrong v_itemMany v_farmMany v_farmCells v_found v_widths v_sizes v_numbers v_moved) H locs) {ls : Array Slot} (hl : lv_has ls 7 [(0, .ref h)]) : W p l e { frames := 2, cells := 0, slots := 0, locals := 42 } s m args below meth c H locs 0 0 (MQ below (kQi D wc0 (wd_M_copy D h h_now h_kept h_aside h_found h_down h_along h_parts h_gone h_tape h_kinds h_items h_widths h_sizes h_numbers h_moved v_isKept v_taped v_begins v_ends v_sort v_value v_isWrong v_itemMany v_farmMany v_farmCells out.2.1 v_widths v_sizes out.2.2.1 out.2.2.2) s.heap.size out.1) args s 0 0 (va_A wc0 s.heap.size)) (F0 m 14 ls []) := by
  unfold f_M_copy_1 at hf
  obtain ⟨hx, hb, -⟩ := id X
  refine lv_aload_n hx hb d_M_copy_14 rfl (lv_at hl 0 rfl) ?_
  refine k_ldc (v := (-1000000001)) X gw_973 d_M_copy_15 ?_
  obtain ⟨r_62, v_found_63, hc_64, hf⟩ := kb2_some hf
  refine k_cvi (w1 := (wd_M_finding D h h_now h_kept h_aside h_found h_down h_along h_parts h_gone h_tape h_kinds h_items h_widths h_sizes h_numbers h_moved v_isKept v_taped v_begins v_ends v_sort v_value v_isWrong v_itemMany v_farmMany v_farmCells v_found_63)) (r := r_62) (ws' := (wd_M_copy D h h_now h_kept h_aside h_found h_down h_along h_parts h_gone h_tape h_kinds h_items h_widths h_sizes h_numbers h_moved v_isKept v_taped v_begins v_ends v_sort v_value v_isWrong v_itemMany v_farmMany v_farmCells v_found_63 v_widths v_sizes v_numbers v_moved)) X hV hl.1 (c_M_finding D h h_now h_kept h_aside h_found h_down h_along h_parts h_gone h_tape h_kinds h_items h_widths h_sizes h_numbers h_moved v_isKept v_taped v_begins v_ends v_sort v_value v_isWrong v_itemMany v_farmMany v_farmCells v_found (-1000000001 : Int32) hc_64) fk_M_finding gw_974 rfl 0 9 rfl rfl [0, 1] [some 0, some 1, none, none, none, none] rfl rfl ⟨rfl, rfl, rfl, rfl, rfl, rfl, rfl, rfl, rfl, rfl, trivial⟩ rfl rfl rfl d_M_copy_17 (fun H locs hV => ?_)
  have e_ := Option.some.inj hf
  subst e_
  exact k_iret X rfl hV rfl d_M_copy_20
set_option maxHeartbeats 2000000 in
set_option maxRecDepth 20000 in
theorem t_M_copy_2 {l : Launch} {p : Program} {e : Env} {s : State} {m : MethodId} {args : Array Value} {below : List Frame} {meth : Method} {c : Code} {D : kD} {wc0 : va_W} {h : Nat} {h_now : Nat} {h_kept : Nat} {h_aside : Nat} {h_found : Nat} {h_down : Nat} {h_along : Nat} {h_parts : Nat} {h_gone : Nat} {h_tape : Nat} {h_kinds : Nat} {h_items : Nat} {h_widths : Nat} {h_sizes : Nat} {h_numbers : Nat} {h_moved : Nat} {v_isKept : Int32} {v_taped : Int32} {v_begins : Int32} {v_ends : Int32} {v_sort : Int32} {v_value : Int32} {v_isWrong : Int32} {v_itemMany : Int32} {v_farmMany : Int32} {v_farmCells : Int64} {v_found : Nat → Int32} {v_widths : Nat → Int32} {v_sizes : Nat → Int32} {v_numbers : Nat → Int64} {v_moved : Nat → Int64} {out : Int32 × (Nat → Int32) × (Nat → Int64) × (Nat → Int64)} (X : kX p m meth c s args D (va_A wc0 s.heap.size) b_M_copy "MountainFarmsModel" 7 (some .int)) (hf : f_M_copy_2 v_found v_numbers v_moved = some out) {H : Heap} {locs : List Loc} (hV : kV D (va_A wc0 s.heap.size) s (wd_M_copy D h h_now h_kept h_aside h_found h_down h_along h_parts h_gone h_tape h_kinds h_items h_widths h_sizes h_numbers h_moved v_isKept v_taped v_begins v_ends v_sort v_value v_isWrong v_itemMany v_farmMany v_farmCells v_found v_widths v_sizes v_numbers v_moved) H locs) {ls : Array Slot} (hl : lv_has ls 7 [(0, .ref h)]) : W p l e { frames := 2, cells := 0, slots := 0, locals := 42 } s m args below meth c H locs 0 0 (MQ below (kQi D wc0 (wd_M_copy D h h_now h_kept h_aside h_found h_down h_along h_parts h_gone h_tape h_kinds h_items h_widths h_sizes h_numbers h_moved v_isKept v_taped v_begins v_ends v_sort v_value v_isWrong v_itemMany v_farmMany v_farmCells out.2.1 v_widths v_sizes out.2.2.1 out.2.2.2) s.heap.size out.1) args s 0 0 (va_A wc0 s.heap.size)) (F0 m 39 ls []) := by
  unfold f_M_copy_2 at hf
  obtain ⟨hx, hb, -⟩ := id X
  refine lv_aload_n hx hb d_M_copy_39 rfl (lv_at hl 0 rfl) ?_
  refine k_ldcw (v := (-1000000006)) X gw_1334 d_M_copy_40 ?_
  obtain ⟨r_65, v_found_66, hc_67, hf⟩ := kb2_some hf
  refine k_cvi (w1 := (wd_M_finding D h h_now h_kept h_aside h_found h_down h_along h_parts h_gone h_tape h_kinds h_items h_widths h_sizes h_numbers h_moved v_isKept v_taped v_begins v_ends v_sort v_value v_isWrong v_itemMany v_farmMany v_farmCells v_found_66)) (r := r_65) (ws' := (wd_M_copy D h h_now h_kept h_aside h_found h_down h_along h_parts h_gone h_tape h_kinds h_items h_widths h_sizes h_numbers h_moved v_isKept v_taped v_begins v_ends v_sort v_value v_isWrong v_itemMany v_farmMany v_farmCells v_found_66 v_widths v_sizes v_numbers v_moved)) X hV hl.1 (c_M_finding D h h_now h_kept h_aside h_found h_down h_along h_parts h_gone h_tape h_kinds h_items h_widths h_sizes h_numbers h_moved v_isKept v_taped v_begins v_ends v_sort v_value v_isWrong v_itemMany v_farmMany v_farmCells v_found (-1000000006 : Int32) hc_67) fk_M_finding gw_974 rfl 0 9 rfl rfl [0, 1] [some 0, some 1, none, none, none, none] rfl rfl ⟨rfl, rfl, rfl, rfl, rfl, rfl, rfl, rfl, rfl, rfl, trivial⟩ rfl rfl rfl d_M_copy_43 (fun H locs hV => ?_)
  have e_ := Option.some.inj hf
  subst e_
  exact k_iret X rfl hV rfl d_M_copy_46
set_option maxHeartbeats 2000000 in
set_option maxRecDepth 20000 in
theorem t_M_copy_3 {l : Launch} {p : Program} {e : Env} {s : State} {m : MethodId} {args : Array Value} {below : List Frame} {meth : Method} {c : Code} {D : kD} {wc0 : va_W} {h : Nat} {h_now : Nat} {h_kept : Nat} {h_aside : Nat} {h_found : Nat} {h_down : Nat} {h_along : Nat} {h_parts : Nat} {h_gone : Nat} {h_tape : Nat} {h_kinds : Nat} {h_items : Nat} {h_widths : Nat} {h_sizes : Nat} {h_numbers : Nat} {h_moved : Nat} {v_isKept : Int32} {v_taped : Int32} {v_begins : Int32} {v_ends : Int32} {v_sort : Int32} {v_value : Int32} {v_isWrong : Int32} {v_itemMany : Int32} {v_farmMany : Int32} {v_farmCells : Int64} {v_found : Nat → Int32} {v_widths : Nat → Int32} {v_sizes : Nat → Int32} {v_numbers : Nat → Int64} {v_moved : Nat → Int64} {out : Int32 × (Nat → Int32) × (Nat → Int64) × (Nat → Int64)} (X : kX p m meth c s args D (va_A wc0 s.heap.size) b_M_copy "MountainFarmsModel" 7 (some .int)) (hf : f_M_copy_3 v_found v_numbers v_moved = some out) {H : Heap} {locs : List Loc} (hV : kV D (va_A wc0 s.heap.size) s (wd_M_copy D h h_now h_kept h_aside h_found h_down h_along h_parts h_gone h_tape h_kinds h_items h_widths h_sizes h_numbers h_moved v_isKept v_taped v_begins v_ends v_sort v_value v_isWrong v_itemMany v_farmMany v_farmCells v_found v_widths v_sizes v_numbers v_moved) H locs) {ls : Array Slot} (hl : lv_has ls 7 [(0, .ref h)]) : W p l e { frames := 2, cells := 0, slots := 0, locals := 42 } s m args below meth c H locs 0 0 (MQ below (kQi D wc0 (wd_M_copy D h h_now h_kept h_aside h_found h_down h_along h_parts h_gone h_tape h_kinds h_items h_widths h_sizes h_numbers h_moved v_isKept v_taped v_begins v_ends v_sort v_value v_isWrong v_itemMany v_farmMany v_farmCells out.2.1 v_widths v_sizes out.2.2.1 out.2.2.2) s.heap.size out.1) args s 0 0 (va_A wc0 s.heap.size)) (F0 m 118 ls []) := by
  unfold f_M_copy_3 at hf
  obtain ⟨hx, hb, -⟩ := id X
  refine lv_aload_n hx hb d_M_copy_118 rfl (lv_at hl 0 rfl) ?_
  refine k_ldc (v := (-1000000001)) X gw_973 d_M_copy_119 ?_
  obtain ⟨r_68, v_found_69, hc_70, hf⟩ := kb2_some hf
  refine k_cvi (w1 := (wd_M_finding D h h_now h_kept h_aside h_found h_down h_along h_parts h_gone h_tape h_kinds h_items h_widths h_sizes h_numbers h_moved v_isKept v_taped v_begins v_ends v_sort v_value v_isWrong v_itemMany v_farmMany v_farmCells v_found_69)) (r := r_68) (ws' := (wd_M_copy D h h_now h_kept h_aside h_found h_down h_along h_parts h_gone h_tape h_kinds h_items h_widths h_sizes h_numbers h_moved v_isKept v_taped v_begins v_ends v_sort v_value v_isWrong v_itemMany v_farmMany v_farmCells v_found_69 v_widths v_sizes v_numbers v_moved)) X hV hl.1 (c_M_finding D h h_now h_kept h_aside h_found h_down h_along h_parts h_gone h_tape h_kinds h_items h_widths h_sizes h_numbers h_moved v_isKept v_taped v_begins v_ends v_sort v_value v_isWrong v_itemMany v_farmMany v_farmCells v_found (-1000000001 : Int32) hc_70) fk_M_finding gw_974 rfl 0 9 rfl rfl [0, 1] [some 0, some 1, none, none, none, none] rfl rfl ⟨rfl, rfl, rfl, rfl, rfl, rfl, rfl, rfl, rfl, rfl, trivial⟩ rfl rfl rfl d_M_copy_121 (fun H locs hV => ?_)
  have e_ := Option.some.inj hf
  subst e_
  exact k_iret X rfl hV rfl d_M_copy_124
set_option maxHeartbeats 2000000 in
set_option maxRecDepth 20000 in
theorem tb_M_copy_5 {l : Launch} {p : Program} {e : Env} {s : State} {m : MethodId} {args : Array Value} {below : List Frame} {meth : Method} {c : Code} {D : kD} {wc0 : va_W} {h : Nat} {h_now : Nat} {h_kept : Nat} {h_aside : Nat} {h_found : Nat} {h_down : Nat} {h_along : Nat} {h_parts : Nat} {h_gone : Nat} {h_tape : Nat} {h_kinds : Nat} {h_items : Nat} {h_widths : Nat} {h_sizes : Nat} {h_numbers : Nat} {h_moved : Nat} {v_isKept : Int32} {v_taped : Int32} {v_begins : Int32} {v_ends : Int32} {v_sort : Int32} {v_value : Int32} {v_isWrong : Int32} {v_itemMany : Int32} {v_farmMany : Int32} {v_farmCells : Int64} {v_found : Nat → Int32} {v_widths : Nat → Int32} {v_sizes : Nat → Int32} {v_numbers : Nat → Int64} {v_moved : Nat → Int64} {x3 : Int32} {x4 : Int32} {x5 : Int32} {x6 : Int32} {rec5 : Int32 → (Nat → Int64) → Option (Int32 × (Nat → Int32) × (Nat → Int64) × (Nat → Int64))} {out : Int32 × (Nat → Int32) × (Nat → Int64) × (Nat → Int64)} (X : kX p m meth c s args D (va_A wc0 s.heap.size) b_M_copy "MountainFarmsModel" 7 (some .int)) (hrec5 : ∀ (x6 : Int32) (v_numbers : Nat → Int64), rec5 x6 v_numbers = some out → ∀ (H : Heap) (locs : List Loc) (ls : Array Slot), kV D (va_A wc0 s.heap.size) s (wd_M_copy D h h_now h_kept h_aside h_found h_down h_along h_parts h_gone h_tape h_kinds h_items h_widths h_sizes h_numbers h_moved v_isKept v_taped v_begins v_ends v_sort v_value v_isWrong v_itemMany v_farmMany v_farmCells v_found v_widths v_sizes v_numbers v_moved) H locs → lv_has ls 7 [(0, .ref h), (3, .int x3), (4, .int x4), (5, .int x5), (6, .int x6)] → W p l e { frames := 2, cells := 0, slots := 0, locals := 42 } s m args below meth c H locs 0 0 (MQ below (kQi D wc0 (wd_M_copy D h h_now h_kept h_aside h_found h_down h_along h_parts h_gone h_tape h_kinds h_items h_widths h_sizes h_numbers h_moved v_isKept v_taped v_begins v_ends v_sort v_value v_isWrong v_itemMany v_farmMany v_farmCells out.2.1 v_widths v_sizes out.2.2.1 out.2.2.2) s.heap.size out.1) args s 0 0 (va_A wc0 s.heap.size)) (F0 m 165 ls [])) (hf : fb_M_copy_5 rec5 x3 x4 x5 v_found v_moved x6 v_numbers = some out) {H : Heap} {locs : List Loc} (hV : kV D (va_A wc0 s.heap.size) s (wd_M_copy D h h_now h_kept h_aside h_found h_down h_along h_parts h_gone h_tape h_kinds h_items h_widths h_sizes h_numbers h_moved v_isKept v_taped v_begins v_ends v_sort v_value v_isWrong v_itemMany v_farmMany v_farmCells v_found v_widths v_sizes v_numbers v_moved) H locs) {ls : Array Slot} (hl : lv_has ls 7 [(0, .ref h), (3, .int x3), (4, .int x4), (5, .int x5), (6, .int x6)]) : W p l e { frames := 2, cells := 0, slots := 0, locals := 42 } s m args below meth c H locs 0 0 (MQ below (kQi D wc0 (wd_M_copy D h h_now h_kept h_aside h_found h_down h_along h_parts h_gone h_tape h_kinds h_items h_widths h_sizes h_numbers h_moved v_isKept v_taped v_begins v_ends v_sort v_value v_isWrong v_itemMany v_farmMany v_farmCells out.2.1 v_widths v_sizes out.2.2.1 out.2.2.2) s.heap.size out.1) args s 0 0 (va_A wc0 s.heap.size)) (F0 m 165 ls []) := by
  unfold fb_M_copy_5 at hf
  obtain ⟨hx, hb, -⟩ := id X
  refine lv_iload hx hb d_M_copy_165 (lv_at hl 4 rfl) ?_
  refine lv_iload hx hb d_M_copy_167 (lv_at hl 3 rfl) ?_
  refine lv_icmp_ge (tgt := 200) hx hb d_M_copy_169 (by decide) (fun c_74 => ?_) (fun c_74 => ?_)
  · replace hf := kifp c_74 hf
    refine lv_iload hx hb d_M_copy_200 (lv_at hl 3 rfl) ?_
    have e_ := Option.some.inj hf
    subst e_
    exact k_iret X rfl hV rfl d_M_copy_202
  replace hf := kifn c_74 hf
  refine lv_aload_n hx hb d_M_copy_172 rfl (lv_at hl 0 rfl) ?_
  refine k_get X hV 0 9 23 rfl rfl rfl gw_910 rfl rfl d_M_copy_173 ?_
  refine lv_bipush (v := 40) hx hb d_M_copy_176 bp_40 ?_
  refine lv_iload_n hx hb d_M_copy_178 rfl (lv_at hl 1 rfl) ?_
  refine lv_imul hx hb d_M_copy_179 ?_
  refine lv_iload hx hb d_M_copy_180 (lv_at hl 2 rfl) ?_
  refine lv_iadd hx hb d_M_copy_182 ?_
  refine lv_iload hx hb d_M_copy_183 (lv_at hl 4 rfl) ?_
  refine lv_iadd hx hb d_M_copy_185 ?_
  refine lv_aload_n hx hb d_M_copy_186 rfl (lv_at hl 0 rfl) ?_
  refine k_get X hV 0 9 24 rfl rfl rfl gw_911 rfl rfl d_M_copy_187 ?_
  refine lv_iload hx hb d_M_copy_190 (lv_at hl 4 rfl) ?_
  obtain ⟨h_75, hf⟩ := kidx_some hf
  refine k_lald X hV 5 rfl h_75 rfl d_M_copy_192 ?_
  obtain ⟨h_76, hf⟩ := kidx_some hf
  refine k_last (ws' := (wd_M_copy D h h_now h_kept h_aside h_found h_down h_along h_parts h_gone h_tape h_kinds h_items h_widths h_sizes h_numbers h_moved v_isKept v_taped v_begins v_ends v_sort v_value v_isWrong v_itemMany v_farmMany v_farmCells v_found v_widths v_sizes (vp_updL v_numbers ((((40 : Int32) * x3) + x4) + x6).toNatClampNeg (v_moved x6.toNatClampNeg)) v_moved)) X hV 4 rfl h_76 rfl rfl d_M_copy_193 (fun H locs hV => ?_)
  refine lv_iinc (v := (x6 + 1)) (lv' := [(6, .int (x6 + 1)), (0, .ref h), (3, .int x3), (4, .int x4), (5, .int x5)]) hx hb d_M_copy_194 hl (k := 4) rfl rfl (by decide) rfl (fun ls hl => ?_)
  refine lv_goto (tgt := 165) hx hb d_M_copy_197 (by decide) ?_
  exact hrec5 _ _ hf _ _ _ hV (lv_sub hl [1, 2, 3, 4, 0] rfl)
set_option maxHeartbeats 2000000 in
set_option maxRecDepth 20000 in
theorem tl_M_copy_5 {l : Launch} {p : Program} {e : Env} {s : State} {m : MethodId} {args : Array Value} {below : List Frame} {meth : Method} {c : Code} {D : kD} {wc0 : va_W} {h : Nat} {h_now : Nat} {h_kept : Nat} {h_aside : Nat} {h_found : Nat} {h_down : Nat} {h_along : Nat} {h_parts : Nat} {h_gone : Nat} {h_tape : Nat} {h_kinds : Nat} {h_items : Nat} {h_widths : Nat} {h_sizes : Nat} {h_numbers : Nat} {h_moved : Nat} {v_isKept : Int32} {v_taped : Int32} {v_begins : Int32} {v_ends : Int32} {v_sort : Int32} {v_value : Int32} {v_isWrong : Int32} {v_itemMany : Int32} {v_farmMany : Int32} {v_farmCells : Int64} {v_found : Nat → Int32} {v_widths : Nat → Int32} {v_sizes : Nat → Int32} {v_moved : Nat → Int64} {x3 : Int32} {x4 : Int32} {x5 : Int32} {out : Int32 × (Nat → Int32) × (Nat → Int64) × (Nat → Int64)} (X : kX p m meth c s args D (va_A wc0 s.heap.size) b_M_copy "MountainFarmsModel" 7 (some .int)) : ∀ (n : Nat) (x6 : Int32) (v_numbers : Nat → Int64), fl_M_copy_5 x3 x4 x5 v_found v_moved n x6 v_numbers = some out → ∀ (H : Heap) (locs : List Loc) (ls : Array Slot), kV D (va_A wc0 s.heap.size) s (wd_M_copy D h h_now h_kept h_aside h_found h_down h_along h_parts h_gone h_tape h_kinds h_items h_widths h_sizes h_numbers h_moved v_isKept v_taped v_begins v_ends v_sort v_value v_isWrong v_itemMany v_farmMany v_farmCells v_found v_widths v_sizes v_numbers v_moved) H locs → lv_has ls 7 [(0, .ref h), (3, .int x3), (4, .int x4), (5, .int x5), (6, .int x6)] → W p l e { frames := 2, cells := 0, slots := 0, locals := 42 } s m args below meth c H locs 0 0 (MQ below (kQi D wc0 (wd_M_copy D h h_now h_kept h_aside h_found h_down h_along h_parts h_gone h_tape h_kinds h_items h_widths h_sizes h_numbers h_moved v_isKept v_taped v_begins v_ends v_sort v_value v_isWrong v_itemMany v_farmMany v_farmCells out.2.1 v_widths v_sizes out.2.2.1 out.2.2.2) s.heap.size out.1) args s 0 0 (va_A wc0 s.heap.size)) (F0 m 165 ls []) := by
  intro n
  induction n with
  | zero => intro x6 v_numbers hf; exact knone hf
  | succ n ih => intro x6 v_numbers hf H locs ls hV hl; exact tb_M_copy_5 X ih hf hV hl
set_option maxHeartbeats 2000000 in
set_option maxRecDepth 20000 in
theorem tb_M_copy_4 {l : Launch} {p : Program} {e : Env} {s : State} {m : MethodId} {args : Array Value} {below : List Frame} {meth : Method} {c : Code} {D : kD} {wc0 : va_W} {h : Nat} {h_now : Nat} {h_kept : Nat} {h_aside : Nat} {h_found : Nat} {h_down : Nat} {h_along : Nat} {h_parts : Nat} {h_gone : Nat} {h_tape : Nat} {h_kinds : Nat} {h_items : Nat} {h_widths : Nat} {h_sizes : Nat} {h_numbers : Nat} {h_moved : Nat} {v_isKept : Int32} {v_taped : Int32} {v_begins : Int32} {v_ends : Int32} {v_sort : Int32} {v_value : Int32} {v_isWrong : Int32} {v_itemMany : Int32} {v_farmMany : Int32} {v_farmCells : Int64} {v_found : Nat → Int32} {v_widths : Nat → Int32} {v_sizes : Nat → Int32} {v_numbers : Nat → Int64} {v_moved : Nat → Int64} {x1 : Int32} {x2 : Int32} {x3 : Int32} {x4 : Int32} {x5 : Int32} {x6 : Int32} {rec4 : Int32 → (Nat → Int64) → Option (Int32 × (Nat → Int32) × (Nat → Int64) × (Nat → Int64))} {out : Int32 × (Nat → Int32) × (Nat → Int64) × (Nat → Int64)} (X : kX p m meth c s args D (va_A wc0 s.heap.size) b_M_copy "MountainFarmsModel" 7 (some .int)) (hrec4 : ∀ (x6 : Int32) (v_moved : Nat → Int64), rec4 x6 v_moved = some out → ∀ (H : Heap) (locs : List Loc) (ls : Array Slot), kV D (va_A wc0 s.heap.size) s (wd_M_copy D h h_now h_kept h_aside h_found h_down h_along h_parts h_gone h_tape h_kinds h_items h_widths h_sizes h_numbers h_moved v_isKept v_taped v_begins v_ends v_sort v_value v_isWrong v_itemMany v_farmMany v_farmCells v_found v_widths v_sizes v_numbers v_moved) H locs → lv_has ls 7 [(0, .ref h), (1, .int x1), (2, .int x2), (3, .int x3), (4, .int x4), (5, .int x5), (6, .int x6)] → W p l e { frames := 2, cells := 0, slots := 0, locals := 42 } s m args below meth c H locs 0 0 (MQ below (kQi D wc0 (wd_M_copy D h h_now h_kept h_aside h_found h_down h_along h_parts h_gone h_tape h_kinds h_items h_widths h_sizes h_numbers h_moved v_isKept v_taped v_begins v_ends v_sort v_value v_isWrong v_itemMany v_farmMany v_farmCells out.2.1 v_widths v_sizes out.2.2.1 out.2.2.2) s.heap.size out.1) args s 0 0 (va_A wc0 s.heap.size)) (F0 m 128 ls [])) (hf : fb_M_copy_4 rec4 x1 x2 x3 x4 x5 v_found v_numbers x6 v_moved = some out) {H : Heap} {locs : List Loc} (hV : kV D (va_A wc0 s.heap.size) s (wd_M_copy D h h_now h_kept h_aside h_found h_down h_along h_parts h_gone h_tape h_kinds h_items h_widths h_sizes h_numbers h_moved v_isKept v_taped v_begins v_ends v_sort v_value v_isWrong v_itemMany v_farmMany v_farmCells v_found v_widths v_sizes v_numbers v_moved) H locs) {ls : Array Slot} (hl : lv_has ls 7 [(0, .ref h), (1, .int x1), (2, .int x2), (3, .int x3), (4, .int x4), (5, .int x5), (6, .int x6)]) : W p l e { frames := 2, cells := 0, slots := 0, locals := 42 } s m args below meth c H locs 0 0 (MQ below (kQi D wc0 (wd_M_copy D h h_now h_kept h_aside h_found h_down h_along h_parts h_gone h_tape h_kinds h_items h_widths h_sizes h_numbers h_moved v_isKept v_taped v_begins v_ends v_sort v_value v_isWrong v_itemMany v_farmMany v_farmCells out.2.1 v_widths v_sizes out.2.2.1 out.2.2.2) s.heap.size out.1) args s 0 0 (va_A wc0 s.heap.size)) (F0 m 128 ls []) := by
  unfold fb_M_copy_4 at hf
  obtain ⟨hx, hb, -⟩ := id X
  refine lv_iload hx hb d_M_copy_128 (lv_at hl 6 rfl) ?_
  refine lv_iload hx hb d_M_copy_130 (lv_at hl 5 rfl) ?_
  refine lv_icmp_ge (tgt := 162) hx hb d_M_copy_132 (by decide) (fun c_71 => ?_) (fun c_71 => ?_)
  · replace hf := kifp c_71 hf
    refine lv_iconst (v := 0) hx hb d_M_copy_162 ic_0 ?_
    refine lv_istore (lv' := [(6, .int (0 : Int32)), (0, .ref h), (1, .int x1), (2, .int x2), (3, .int x3), (4, .int x4), (5, .int x5)]) hx hb d_M_copy_163 hl (by decide) rfl (fun ls hl => ?_)
    exact tl_M_copy_5 X _ _ _ hf _ _ _ hV (lv_sub hl [1, 4, 5, 6, 0] rfl)
  replace hf := kifn c_71 hf
  refine lv_aload_n hx hb d_M_copy_135 rfl (lv_at hl 0 rfl) ?_
  refine k_get X hV 0 9 24 rfl rfl rfl gw_911 rfl rfl d_M_copy_136 ?_
  refine lv_iload hx hb d_M_copy_139 (lv_at hl 6 rfl) ?_
  refine lv_aload_n hx hb d_M_copy_141 rfl (lv_at hl 0 rfl) ?_
  refine k_get X hV 0 9 23 rfl rfl rfl gw_910 rfl rfl d_M_copy_142 ?_
  refine lv_bipush (v := 40) hx hb d_M_copy_145 bp_40 ?_
  refine lv_iload_n hx hb d_M_copy_147 rfl (lv_at hl 1 rfl) ?_
  refine lv_imul hx hb d_M_copy_148 ?_
  refine lv_iload_n hx hb d_M_copy_149 rfl (lv_at hl 2 rfl) ?_
  refine lv_iadd hx hb d_M_copy_150 ?_
  refine lv_iload hx hb d_M_copy_151 (lv_at hl 6 rfl) ?_
  refine lv_iadd hx hb d_M_copy_153 ?_
  obtain ⟨h_72, hf⟩ := kidx_some hf
  refine k_lald X hV 4 rfl h_72 rfl d_M_copy_154 ?_
  obtain ⟨h_73, hf⟩ := kidx_some hf
  refine k_last (ws' := (wd_M_copy D h h_now h_kept h_aside h_found h_down h_along h_parts h_gone h_tape h_kinds h_items h_widths h_sizes h_numbers h_moved v_isKept v_taped v_begins v_ends v_sort v_value v_isWrong v_itemMany v_farmMany v_farmCells v_found v_widths v_sizes v_numbers (vp_updL v_moved x6.toNatClampNeg (v_numbers ((((40 : Int32) * x1) + x2) + x6).toNatClampNeg)))) X hV 5 rfl h_73 rfl rfl d_M_copy_155 (fun H locs hV => ?_)
  refine lv_iinc (v := (x6 + 1)) (lv' := [(6, .int (x6 + 1)), (0, .ref h), (1, .int x1), (2, .int x2), (3, .int x3), (4, .int x4), (5, .int x5)]) hx hb d_M_copy_156 hl (k := 6) rfl rfl (by decide) rfl (fun ls hl => ?_)
  refine lv_goto (tgt := 128) hx hb d_M_copy_159 (by decide) ?_
  exact hrec4 _ _ hf _ _ _ hV (lv_sub hl [1, 2, 3, 4, 5, 6, 0] rfl)
set_option maxHeartbeats 2000000 in
set_option maxRecDepth 20000 in
theorem tl_M_copy_4 {l : Launch} {p : Program} {e : Env} {s : State} {m : MethodId} {args : Array Value} {below : List Frame} {meth : Method} {c : Code} {D : kD} {wc0 : va_W} {h : Nat} {h_now : Nat} {h_kept : Nat} {h_aside : Nat} {h_found : Nat} {h_down : Nat} {h_along : Nat} {h_parts : Nat} {h_gone : Nat} {h_tape : Nat} {h_kinds : Nat} {h_items : Nat} {h_widths : Nat} {h_sizes : Nat} {h_numbers : Nat} {h_moved : Nat} {v_isKept : Int32} {v_taped : Int32} {v_begins : Int32} {v_ends : Int32} {v_sort : Int32} {v_value : Int32} {v_isWrong : Int32} {v_itemMany : Int32} {v_farmMany : Int32} {v_farmCells : Int64} {v_found : Nat → Int32} {v_widths : Nat → Int32} {v_sizes : Nat → Int32} {v_numbers : Nat → Int64} {x1 : Int32} {x2 : Int32} {x3 : Int32} {x4 : Int32} {x5 : Int32} {out : Int32 × (Nat → Int32) × (Nat → Int64) × (Nat → Int64)} (X : kX p m meth c s args D (va_A wc0 s.heap.size) b_M_copy "MountainFarmsModel" 7 (some .int)) : ∀ (n : Nat) (x6 : Int32) (v_moved : Nat → Int64), fl_M_copy_4 x1 x2 x3 x4 x5 v_found v_numbers n x6 v_moved = some out → ∀ (H : Heap) (locs : List Loc) (ls : Array Slot), kV D (va_A wc0 s.heap.size) s (wd_M_copy D h h_now h_kept h_aside h_found h_down h_along h_parts h_gone h_tape h_kinds h_items h_widths h_sizes h_numbers h_moved v_isKept v_taped v_begins v_ends v_sort v_value v_isWrong v_itemMany v_farmMany v_farmCells v_found v_widths v_sizes v_numbers v_moved) H locs → lv_has ls 7 [(0, .ref h), (1, .int x1), (2, .int x2), (3, .int x3), (4, .int x4), (5, .int x5), (6, .int x6)] → W p l e { frames := 2, cells := 0, slots := 0, locals := 42 } s m args below meth c H locs 0 0 (MQ below (kQi D wc0 (wd_M_copy D h h_now h_kept h_aside h_found h_down h_along h_parts h_gone h_tape h_kinds h_items h_widths h_sizes h_numbers h_moved v_isKept v_taped v_begins v_ends v_sort v_value v_isWrong v_itemMany v_farmMany v_farmCells out.2.1 v_widths v_sizes out.2.2.1 out.2.2.2) s.heap.size out.1) args s 0 0 (va_A wc0 s.heap.size)) (F0 m 128 ls []) := by
  intro n
  induction n with
  | zero => intro x6 v_moved hf; exact knone hf
  | succ n ih => intro x6 v_moved hf H locs ls hV hl; exact tb_M_copy_4 X ih hf hV hl
set_option maxHeartbeats 2000000 in
set_option maxRecDepth 20000 in
theorem t_M_copy {l : Launch} {p : Program} {e : Env} {s : State} {m : MethodId} {args : Array Value} {below : List Frame} {meth : Method} {c : Code} {D : kD} {wc0 : va_W} {h : Nat} {h_now : Nat} {h_kept : Nat} {h_aside : Nat} {h_found : Nat} {h_down : Nat} {h_along : Nat} {h_parts : Nat} {h_gone : Nat} {h_tape : Nat} {h_kinds : Nat} {h_items : Nat} {h_widths : Nat} {h_sizes : Nat} {h_numbers : Nat} {h_moved : Nat} {v_isKept : Int32} {v_taped : Int32} {v_begins : Int32} {v_ends : Int32} {v_sort : Int32} {v_value : Int32} {v_isWrong : Int32} {v_itemMany : Int32} {v_farmMany : Int32} {v_farmCells : Int64} {v_found : Nat → Int32} {v_widths : Nat → Int32} {v_sizes : Nat → Int32} {v_numbers : Nat → Int64} {v_moved : Nat → Int64} {x1 : Int32} {x2 : Int32} {x3 : Int32} {x4 : Int32} {x5 : Int32} {out : Int32 × (Nat → Int32) × (Nat → Int64) × (Nat → Int64)} (X : kX p m meth c s args D (va_A wc0 s.heap.size) b_M_copy "MountainFarmsModel" 7 (some .int)) (hf : f_M_copy v_found v_widths v_sizes v_numbers v_moved x1 x2 x3 x4 x5 = some out) {H : Heap} {locs : List Loc} (hV : kV D (va_A wc0 s.heap.size) s (wd_M_copy D h h_now h_kept h_aside h_found h_down h_along h_parts h_gone h_tape h_kinds h_items h_widths h_sizes h_numbers h_moved v_isKept v_taped v_begins v_ends v_sort v_value v_isWrong v_itemMany v_farmMany v_farmCells v_found v_widths v_sizes v_numbers v_moved) H locs) {ls : Array Slot} (hl : lv_has ls 7 [(0, .ref h), (1, .int x1), (2, .int x2), (3, .int x3), (4, .int x4), (5, .int x5)]) : W p l e { frames := 2, cells := 0, slots := 0, locals := 42 } s m args below meth c H locs 0 0 (MQ below (kQi D wc0 (wd_M_copy D h h_now h_kept h_aside h_found h_down h_along h_parts h_gone h_tape h_kinds h_items h_widths h_sizes h_numbers h_moved v_isKept v_taped v_begins v_ends v_sort v_value v_isWrong v_itemMany v_farmMany v_farmCells out.2.1 v_widths v_sizes out.2.2.1 out.2.2.2) s.heap.size out.1) args s 0 0 (va_A wc0 s.heap.size)) (F0 m 0 ls []) := by
  unfold f_M_copy at hf
  obtain ⟨hx, hb, -⟩ := id X
  refine lv_iload_n hx hb d_M_copy_0 rfl (lv_at hl 1 rfl) ?_
  obtain ⟨r_39, hc_40, hf⟩ := kb1_some hf
  refine k_csi (w1 := (wd_M_isSheet D)) (r := r_39) (ws' := (wd_M_copy D h h_now h_kept h_aside h_found h_down h_along h_parts h_gone h_tape h_kinds h_items h_widths h_sizes h_numbers h_moved v_isKept v_taped v_begins v_ends v_sort v_value v_isWrong v_itemMany v_farmMany v_farmCells v_found v_widths v_sizes v_numbers v_moved)) X hV hl.1 (c_M_isSheet D x1 hc_40) fk_M_isSheet gw_1326 rfl [] [none, none, none, none, none, none] rfl rfl ⟨rfl, rfl, rfl, rfl, rfl, rfl, trivial⟩ rfl rfl rfl d_M_copy_1 (fun H locs hV => ?_)
  refine lv_if_eq (tgt := 14) hx hb d_M_copy_4 (by decide) (fun c_41 => ?_) (fun c_41 => ?_)
  · replace hf := kifp c_41 hf
    exact t_M_copy_1 X hf hV (lv_sub hl [0] rfl)
  replace hf := kifn c_41 hf
  refine lv_iload_n hx hb d_M_copy_7 rfl (lv_at hl 3 rfl) ?_
  obtain ⟨r_42, hc_43, hf⟩ := kb1_some hf
  refine k_csi (w1 := (wd_M_isSheet D)) (r := r_42) (ws' := (wd_M_copy D h h_now h_kept h_aside h_found h_down h_along h_parts h_gone h_tape h_kinds h_items h_widths h_sizes h_numbers h_moved v_isKept v_taped v_begins v_ends v_sort v_value v_isWrong v_itemMany v_farmMany v_farmCells v_found v_widths v_sizes v_numbers v_moved)) X hV hl.1 (c_M_isSheet D x3 hc_43) fk_M_isSheet gw_1326 rfl [] [none, none, none, none, none, none] rfl rfl ⟨rfl, rfl, rfl, rfl, rfl, rfl, trivial⟩ rfl rfl rfl d_M_copy_8 (fun H locs hV => ?_)
  refine lv_if_ne (tgt := 21) hx hb d_M_copy_11 (by decide) (fun c_44 => ?_) (fun c_44 => ?_)
  · replace hf := kifn c_44 hf
    refine lv_aload_n hx hb d_M_copy_21 rfl (lv_at hl 0 rfl) ?_
    refine k_get X hV 0 9 21 rfl rfl rfl gw_908 rfl rfl d_M_copy_22 ?_
    refine lv_iload_n hx hb d_M_copy_25 rfl (lv_at hl 1 rfl) ?_
    obtain ⟨h_45, hf⟩ := kidx_some hf
    refine k_iald X hV 2 rfl h_45 rfl d_M_copy_26 ?_
    refine lv_if_eq (tgt := 39) hx hb d_M_copy_27 (by decide) (fun c_46 => ?_) (fun c_46 => ?_)
    · replace hf := kifp c_46 hf
      exact t_M_copy_2 X hf hV (lv_sub hl [0] rfl)
    replace hf := kifn c_46 hf
    refine lv_aload_n hx hb d_M_copy_30 rfl (lv_at hl 0 rfl) ?_
    refine k_get X hV 0 9 21 rfl rfl rfl gw_908 rfl rfl d_M_copy_31 ?_
    refine lv_iload_n hx hb d_M_copy_34 rfl (lv_at hl 3 rfl) ?_
    obtain ⟨h_47, hf⟩ := kidx_some hf
    refine k_iald X hV 2 rfl h_47 rfl d_M_copy_35 ?_
    refine lv_if_ne (tgt := 47) hx hb d_M_copy_36 (by decide) (fun c_48 => ?_) (fun c_48 => ?_)
    · replace hf := kifn c_48 hf
      refine lv_aload_n hx hb d_M_copy_47 rfl (lv_at hl 0 rfl) ?_
      refine k_get X hV 0 9 21 rfl rfl rfl gw_908 rfl rfl d_M_copy_48 ?_
      refine lv_iload_n hx hb d_M_copy_51 rfl (lv_at hl 1 rfl) ?_
      obtain ⟨h_49, hf⟩ := kidx_some hf
      refine k_iald X hV 2 rfl h_49 rfl d_M_copy_52 ?_
      refine lv_aload_n hx hb d_M_copy_53 rfl (lv_at hl 0 rfl) ?_
      refine k_get X hV 0 9 21 rfl rfl rfl gw_908 rfl rfl d_M_copy_54 ?_
      refine lv_iload_n hx hb d_M_copy_57 rfl (lv_at hl 3 rfl) ?_
      obtain ⟨h_50, hf⟩ := kidx_some hf
      refine k_iald X hV 2 rfl h_50 rfl d_M_copy_58 ?_
      refine lv_icmp_eq (tgt := 69) hx hb d_M_copy_59 (by decide) (fun c_51 => ?_) (fun c_51 => ?_)
      · replace hf := kifp c_51 hf
        refine lv_iload_n hx hb d_M_copy_69 rfl (lv_at hl 2 rfl) ?_
        refine lv_if_lt (tgt := 118) hx hb d_M_copy_70 (by decide) (fun c_52 => ?_) (fun c_52 => ?_)
        · replace hf := kifp c_52 hf
          exact t_M_copy_3 X hf hV (lv_sub hl [0] rfl)
        replace hf := kifn c_52 hf
        refine lv_iload hx hb d_M_copy_73 (lv_at hl 4 rfl) ?_
        refine lv_if_lt (tgt := 118) hx hb d_M_copy_75 (by decide) (fun c_53 => ?_) (fun c_53 => ?_)
        · replace hf := kifp c_53 hf
          exact t_M_copy_3 X hf hV (lv_sub hl [0] rfl)
        replace hf := kifn c_53 hf
        refine lv_iload hx hb d_M_copy_78 (lv_at hl 5 rfl) ?_
        refine lv_if_lt (tgt := 118) hx hb d_M_copy_80 (by decide) (fun c_54 => ?_) (fun c_54 => ?_)
        · replace hf := kifp c_54 hf
          exact t_M_copy_3 X hf hV (lv_sub hl [0] rfl)
        replace hf := kifn c_54 hf
        refine lv_iload_n hx hb d_M_copy_83 rfl (lv_at hl 2 rfl) ?_
        refine lv_i2l hx hb d_M_copy_84 rfl ?_
        refine lv_iload hx hb d_M_copy_85 (lv_at hl 5 rfl) ?_
        refine lv_i2l hx hb d_M_copy_87 rfl ?_
        refine lv_ladd hx hb d_M_copy_88 ?_
        refine lv_aload_n hx hb d_M_copy_89 rfl (lv_at hl 0 rfl) ?_
        refine k_get X hV 0 9 22 rfl rfl rfl gw_909 rfl rfl d_M_copy_90 ?_
        refine lv_iload_n hx hb d_M_copy_93 rfl (lv_at hl 1 rfl) ?_
        obtain ⟨h_55, hf⟩ := kidx_some hf
        refine k_iald X hV 3 rfl h_55 rfl d_M_copy_94 ?_
        refine lv_i2l hx hb d_M_copy_95 rfl ?_
        refine W.lcmp hx hb d_M_copy_96 ?_
        refine lv_if_gt (tgt := 118) hx hb d_M_copy_97 (by decide) (fun c_56 => ?_) (fun c_56 => ?_)
        · replace hf := kifp c_56 hf
          exact t_M_copy_3 X hf hV (lv_sub hl [0] rfl)
        replace hf := kifn c_56 hf
        refine lv_iload hx hb d_M_copy_100 (lv_at hl 4 rfl) ?_
        refine lv_i2l hx hb d_M_copy_102 rfl ?_
        refine lv_iload hx hb d_M_copy_103 (lv_at hl 5 rfl) ?_
        refine lv_i2l hx hb d_M_copy_105 rfl ?_
        refine lv_ladd hx hb d_M_copy_106 ?_
        refine lv_aload_n hx hb d_M_copy_107 rfl (lv_at hl 0 rfl) ?_
        refine k_get X hV 0 9 22 rfl rfl rfl gw_909 rfl rfl d_M_copy_108 ?_
        refine lv_iload_n hx hb d_M_copy_111 rfl (lv_at hl 3 rfl) ?_
        obtain ⟨h_57, hf⟩ := kidx_some hf
        refine k_iald X hV 3 rfl h_57 rfl d_M_copy_112 ?_
        refine lv_i2l hx hb d_M_copy_113 rfl ?_
        refine W.lcmp hx hb d_M_copy_114 ?_
        refine lv_if_le (tgt := 125) hx hb d_M_copy_115 (by decide) (fun c_58 => ?_) (fun c_58 => ?_)
        · replace hf := kifp c_58 hf
          refine lv_iconst (v := 0) hx hb d_M_copy_125 ic_0 ?_
          refine lv_istore (lv' := [(6, .int (0 : Int32)), (0, .ref h), (1, .int x1), (2, .int x2), (3, .int x3), (4, .int x4), (5, .int x5)]) hx hb d_M_copy_126 hl (by decide) rfl (fun ls hl => ?_)
          exact tl_M_copy_4 X _ _ _ hf _ _ _ hV (lv_sub hl [1, 2, 3, 4, 5, 6, 0] rfl)
        replace hf := kifn c_58 hf
        exact t_M_copy_3 X hf hV (lv_sub hl [0] rfl)
      replace hf := kifn c_51 hf
      refine lv_aload_n hx hb d_M_copy_62 rfl (lv_at hl 0 rfl) ?_
      refine k_ldc (v := (-1000000003)) X gw_1058 d_M_copy_63 ?_
      obtain ⟨r_59, v_found_60, hc_61, hf⟩ := kb2_some hf
      refine k_cvi (w1 := (wd_M_finding D h h_now h_kept h_aside h_found h_down h_along h_parts h_gone h_tape h_kinds h_items h_widths h_sizes h_numbers h_moved v_isKept v_taped v_begins v_ends v_sort v_value v_isWrong v_itemMany v_farmMany v_farmCells v_found_60)) (r := r_59) (ws' := (wd_M_copy D h h_now h_kept h_aside h_found h_down h_along h_parts h_gone h_tape h_kinds h_items h_widths h_sizes h_numbers h_moved v_isKept v_taped v_begins v_ends v_sort v_value v_isWrong v_itemMany v_farmMany v_farmCells v_found_60 v_widths v_sizes v_numbers v_moved)) X hV hl.1 (c_M_finding D h h_now h_kept h_aside h_found h_down h_along h_parts h_gone h_tape h_kinds h_items h_widths h_sizes h_numbers h_moved v_isKept v_taped v_begins v_ends v_sort v_value v_isWrong v_itemMany v_farmMany v_farmCells v_found (-1000000003 : Int32) hc_61) fk_M_finding gw_974 rfl 0 9 rfl rfl [0, 1] [some 0, some 1, none, none, none, none] rfl rfl ⟨rfl, rfl, rfl, rfl, rfl, rfl, rfl, rfl, rfl, rfl, trivial⟩ rfl rfl rfl d_M_copy_65 (fun H locs hV => ?_)
      have e_ := Option.some.inj hf
      subst e_
      exact k_iret X rfl hV rfl d_M_copy_68
    replace hf := kifp c_48 hf
    exact t_M_copy_2 X hf hV (lv_sub hl [0] rfl)
  replace hf := kifp c_44 hf
  exact t_M_copy_1 X hf hV (lv_sub hl [0] rfl)
set_option maxHeartbeats 2000000 in
set_option maxRecDepth 20000 in
theorem c_M_copy {l : Launch} (D : kD) (h : Nat) (h_now : Nat) (h_kept : Nat) (h_aside : Nat) (h_found : Nat) (h_down : Nat) (h_along : Nat) (h_parts : Nat) (h_gone : Nat) (h_tape : Nat) (h_kinds : Nat) (h_items : Nat) (h_widths : Nat) (h_sizes : Nat) (h_numbers : Nat) (h_moved : Nat) (v_isKept : Int32) (v_taped : Int32) (v_begins : Int32) (v_ends : Int32) (v_sort : Int32) (v_value : Int32) (v_isWrong : Int32) (v_itemMany : Int32) (v_farmMany : Int32) (v_farmCells : Int64) (v_found : Nat → Int32) (v_widths : Nat → Int32) (v_sizes : Nat → Int32) (v_numbers : Nat → Int64) (v_moved : Nat → Int64) (x1 : Int32) (x2 : Int32) (x3 : Int32) (x4 : Int32) (x5 : Int32) {out : Int32 × (Nat → Int32) × (Nat → Int64) × (Nat → Int64)} (hf : f_M_copy v_found v_widths v_sizes v_numbers v_moved x1 x2 x3 x4 x5 = some out) : kMi l D y_M_copy b_M_copy 7 (some .int) { frames := 2, cells := 0, slots := 0, locals := 42 } [.ref h, .int x1, .int x2, .int x3, .int x4, .int x5] (wd_M_copy D h h_now h_kept h_aside h_found h_down h_along h_parts h_gone h_tape h_kinds h_items h_widths h_sizes h_numbers h_moved v_isKept v_taped v_begins v_ends v_sort v_value v_isWrong v_itemMany v_farmMany v_farmCells v_found v_widths v_sizes v_numbers v_moved) (wd_M_copy D h h_now h_kept h_aside h_found h_down h_along h_parts h_gone h_tape h_kinds h_items h_widths h_sizes h_numbers h_moved v_isKept v_taped v_begins v_ends v_sort v_value v_isWrong v_itemMany v_farmMany v_farmCells out.2.1 v_widths v_sizes out.2.2.1 out.2.2.2) out.1 :=
  kMi_of (own := "MountainFarmsModel") (plainFor_of_name (by decide)) rfl rfl (fun p e s m args below meth c ls X hV hl => t_M_copy X hf hV hl)
set_option maxHeartbeats 2000000 in
set_option maxRecDepth 20000 in
theorem tb_M_lays_1 {l : Launch} {p : Program} {e : Env} {s : State} {m : MethodId} {args : Array Value} {below : List Frame} {meth : Method} {c : Code} {D : kD} {wc0 : va_W} {h : Nat} {h_now : Nat} {h_kept : Nat} {h_aside : Nat} {h_found : Nat} {h_down : Nat} {h_along : Nat} {h_parts : Nat} {h_gone : Nat} {h_tape : Nat} {h_kinds : Nat} {h_items : Nat} {h_widths : Nat} {h_sizes : Nat} {h_numbers : Nat} {h_moved : Nat} {v_isKept : Int32} {v_taped : Int32} {v_begins : Int32} {v_ends : Int32} {v_sort : Int32} {v_value : Int32} {v_isWrong : Int32} {v_itemMany : Int32} {v_farmMany : Int32} {v_farmCells : Int64} {v_now : Nat → Int32} {v_found : Nat → Int32} {v_widths : Nat → Int32} {v_sizes : Nat → Int32} {v_numbers : Nat → Int64} {x1 : Int32} {x2 : Int32} {x3 : Int32} {rec1 : Int32 → Int32 → (Nat → Int32) → Option (Int32 × (Nat → Int32) × (Nat → Int32))} {out : Int32 × (Nat → Int32) × (Nat → Int32)} (X : kX p m meth c s args D (va_A wc0 s.heap.size) b_M_lays "MountainFarmsModel" 6 (some .int)) (hrec1 : ∀ (x2 : Int32) (x3 : Int32) (v_now : Nat → Int32), rec1 x2 x3 v_now = some out → ∀ (H : Heap) (locs : List Loc) (ls : Array Slot), kV D (va_A wc0 s.heap.size) s (wd_M_lays D h h_now h_kept h_aside h_found h_down h_along h_parts h_gone h_tape h_kinds h_items h_widths h_sizes h_numbers h_moved v_isKept v_taped v_begins v_ends v_sort v_value v_isWrong v_itemMany v_farmMany v_farmCells v_now v_found v_widths v_sizes v_numbers) H locs → lv_has ls 6 [(0, .ref h), (1, .int x1), (2, .int x2), (3, .int x3)] → W p l e { frames := 2, cells := 0, slots := 0, locals := 42 } s m args below meth c H locs 0 0 (MQ below (kQi D wc0 (wd_M_lays D h h_now h_kept h_aside h_found h_down h_along h_parts h_gone h_tape h_kinds h_items h_widths h_sizes h_numbers h_moved v_isKept v_taped v_begins v_ends v_sort v_value v_isWrong v_itemMany v_farmMany v_farmCells out.2.1 out.2.2 v_widths v_sizes v_numbers) s.heap.size out.1) args s 0 0 (va_A wc0 s.heap.size)) (F0 m 35 ls [])) (hf : fb_M_lays_1 rec1 x1 v_found v_sizes v_numbers x2 x3 v_now = some out) {H : Heap} {locs : List Loc} (hV : kV D (va_A wc0 s.heap.size) s (wd_M_lays D h h_now h_kept h_aside h_found h_down h_along h_parts h_gone h_tape h_kinds h_items h_widths h_sizes h_numbers h_moved v_isKept v_taped v_begins v_ends v_sort v_value v_isWrong v_itemMany v_farmMany v_farmCells v_now v_found v_widths v_sizes v_numbers) H locs) {ls : Array Slot} (hl : lv_has ls 6 [(0, .ref h), (1, .int x1), (2, .int x2), (3, .int x3)]) : W p l e { frames := 2, cells := 0, slots := 0, locals := 42 } s m args below meth c H locs 0 0 (MQ below (kQi D wc0 (wd_M_lays D h h_now h_kept h_aside h_found h_down h_along h_parts h_gone h_tape h_kinds h_items h_widths h_sizes h_numbers h_moved v_isKept v_taped v_begins v_ends v_sort v_value v_isWrong v_itemMany v_farmMany v_farmCells out.2.1 out.2.2 v_widths v_sizes v_numbers) s.heap.size out.1) args s 0 0 (va_A wc0 s.heap.size)) (F0 m 35 ls []) := by
  unfold fb_M_lays_1 at hf
  obtain ⟨hx, hb, -⟩ := id X
  refine lv_iload_n hx hb d_M_lays_35 rfl (lv_at hl 3 rfl) ?_
  refine lv_aload_n hx hb d_M_lays_36 rfl (lv_at hl 0 rfl) ?_
  refine k_get X hV 0 9 22 rfl rfl rfl gw_909 rfl rfl d_M_lays_37 ?_
  refine lv_iload_n hx hb d_M_lays_40 rfl (lv_at hl 1 rfl) ?_
  obtain ⟨h_31, hf⟩ := kidx_some hf
  refine k_iald X hV 4 rfl h_31 rfl d_M_lays_41 ?_
  refine lv_icmp_ge (tgt := 101) hx hb d_M_lays_42 (by decide) (fun c_32 => ?_) (fun c_32 => ?_)
  · replace hf := kifp c_32 hf
    refine lv_iload_n hx hb d_M_lays_101 rfl (lv_at hl 2 rfl) ?_
    have e_ := Option.some.inj hf
    subst e_
    exact k_iret X rfl hV rfl d_M_lays_102
  replace hf := kifn c_32 hf
  refine lv_iload_n hx hb d_M_lays_45 rfl (lv_at hl 3 rfl) ?_
  refine lv_bipush (v := 36) hx hb d_M_lays_46 bp_36 ?_
  refine lv_icmp_ge (tgt := 101) hx hb d_M_lays_48 (by decide) (fun c_33 => ?_) (fun c_33 => ?_)
  · replace hf := kifp c_33 hf
    refine lv_iload_n hx hb d_M_lays_101 rfl (lv_at hl 2 rfl) ?_
    have e_ := Option.some.inj hf
    subst e_
    exact k_iret X rfl hV rfl d_M_lays_102
  replace hf := kifn c_33 hf
  refine lv_aload_n hx hb d_M_lays_51 rfl (lv_at hl 0 rfl) ?_
  refine k_get X hV 0 9 23 rfl rfl rfl gw_910 rfl rfl d_M_lays_52 ?_
  refine lv_bipush (v := 40) hx hb d_M_lays_55 bp_40 ?_
  refine lv_iload_n hx hb d_M_lays_57 rfl (lv_at hl 1 rfl) ?_
  refine lv_imul hx hb d_M_lays_58 ?_
  refine lv_iload_n hx hb d_M_lays_59 rfl (lv_at hl 3 rfl) ?_
  refine lv_iadd hx hb d_M_lays_60 ?_
  obtain ⟨h_34, hf⟩ := kidx_some hf
  refine k_lald X hV 5 rfl h_34 rfl d_M_lays_61 ?_
  refine k_letl hf (fun x4_35 hf => ?_)
  refine lv_lstore (lv' := [(4, .long x4_35), (0, .ref h), (1, .int x1), (2, .int x2), (3, .int x3)]) hx hb d_M_lays_62 hl (by decide) rfl (fun ls hl => ?_)
  refine lv_lload hx hb d_M_lays_64 (lv_at hl 0 rfl) ?_
  refine lv_lconst (v := 0) hx hb d_M_lays_66 lc_0 ?_
  refine W.lcmp hx hb d_M_lays_67 ?_
  refine lv_if_lt (tgt := 95) hx hb d_M_lays_68 (by decide) (fun c_36 => ?_) (fun c_36 => ?_)
  · replace hf := kifp c_36 hf
    refine lv_iinc (v := (x3 + 1)) (lv' := [(3, .int (x3 + 1)), (4, .long x4_35), (0, .ref h), (1, .int x1), (2, .int x2)]) hx hb d_M_lays_95 hl (k := 4) rfl rfl (by decide) rfl (fun ls hl => ?_)
    refine lv_goto (tgt := 35) hx hb d_M_lays_98 (by decide) ?_
    exact hrec1 _ _ _ hf _ _ _ hV (lv_sub hl [2, 3, 4, 0] rfl)
  replace hf := kifn c_36 hf
  refine lv_lload hx hb d_M_lays_71 (lv_at hl 0 rfl) ?_
  refine k_ldc2 (v := 99) X gw_1346 d_M_lays_73 ?_
  refine W.lcmp hx hb d_M_lays_76 ?_
  refine lv_if_gt (tgt := 95) hx hb d_M_lays_77 (by decide) (fun c_37 => ?_) (fun c_37 => ?_)
  · replace hf := kifp c_37 hf
    refine lv_iinc (v := (x3 + 1)) (lv' := [(3, .int (x3 + 1)), (4, .long x4_35), (0, .ref h), (1, .int x1), (2, .int x2)]) hx hb d_M_lays_95 hl (k := 4) rfl rfl (by decide) rfl (fun ls hl => ?_)
    refine lv_goto (tgt := 35) hx hb d_M_lays_98 (by decide) ?_
    exact hrec1 _ _ _ hf _ _ _ hV (lv_sub hl [2, 3, 4, 0] rfl)
  replace hf := kifn c_37 hf
  refine lv_aload_n hx hb d_M_lays_80 rfl (lv_at hl 1 rfl) ?_
  refine k_get X hV 0 9 0 rfl rfl rfl gw_887 rfl rfl d_M_lays_81 ?_
  refine lv_bipush (v := 50) hx hb d_M_lays_84 bp_50 ?_
  refine lv_iload_n hx hb d_M_lays_86 rfl (lv_at hl 4 rfl) ?_
  refine lv_iadd hx hb d_M_lays_87 ?_
  refine lv_lload hx hb d_M_lays_88 (lv_at hl 0 rfl) ?_
  refine lv_l2i hx hb d_M_lays_90 rfl ?_
  obtain ⟨h_38, hf⟩ := kidx_some hf
  refine k_iast (ws' := (wd_M_lays D h h_now h_kept h_aside h_found h_down h_along h_parts h_gone h_tape h_kinds h_items h_widths h_sizes h_numbers h_moved v_isKept v_taped v_begins v_ends v_sort v_value v_isWrong v_itemMany v_farmMany v_farmCells (upd v_now ((50 : Int32) + x3).toNatClampNeg x4_35.toInt32) v_found v_widths v_sizes v_numbers)) X hV 1 rfl h_38 rfl rfl d_M_lays_91 (fun H locs hV => ?_)
  refine lv_iinc (v := (x2 + 1)) (lv' := [(2, .int (x2 + 1)), (4, .long x4_35), (0, .ref h), (1, .int x1), (3, .int x3)]) hx hb d_M_lays_92 hl (k := 3) rfl rfl (by decide) rfl (fun ls hl => ?_)
  refine lv_iinc (v := (x3 + 1)) (lv' := [(3, .int (x3 + 1)), (2, .int (x2 + 1)), (4, .long x4_35), (0, .ref h), (1, .int x1)]) hx hb d_M_lays_95 hl (k := 4) rfl rfl (by decide) rfl (fun ls hl => ?_)
  refine lv_goto (tgt := 35) hx hb d_M_lays_98 (by decide) ?_
  exact hrec1 _ _ _ hf _ _ _ hV (lv_sub hl [3, 4, 1, 0] rfl)
set_option maxHeartbeats 2000000 in
set_option maxRecDepth 20000 in
theorem tl_M_lays_1 {l : Launch} {p : Program} {e : Env} {s : State} {m : MethodId} {args : Array Value} {below : List Frame} {meth : Method} {c : Code} {D : kD} {wc0 : va_W} {h : Nat} {h_now : Nat} {h_kept : Nat} {h_aside : Nat} {h_found : Nat} {h_down : Nat} {h_along : Nat} {h_parts : Nat} {h_gone : Nat} {h_tape : Nat} {h_kinds : Nat} {h_items : Nat} {h_widths : Nat} {h_sizes : Nat} {h_numbers : Nat} {h_moved : Nat} {v_isKept : Int32} {v_taped : Int32} {v_begins : Int32} {v_ends : Int32} {v_sort : Int32} {v_value : Int32} {v_isWrong : Int32} {v_itemMany : Int32} {v_farmMany : Int32} {v_farmCells : Int64} {v_found : Nat → Int32} {v_widths : Nat → Int32} {v_sizes : Nat → Int32} {v_numbers : Nat → Int64} {x1 : Int32} {out : Int32 × (Nat → Int32) × (Nat → Int32)} (X : kX p m meth c s args D (va_A wc0 s.heap.size) b_M_lays "MountainFarmsModel" 6 (some .int)) : ∀ (n : Nat) (x2 : Int32) (x3 : Int32) (v_now : Nat → Int32), fl_M_lays_1 x1 v_found v_sizes v_numbers n x2 x3 v_now = some out → ∀ (H : Heap) (locs : List Loc) (ls : Array Slot), kV D (va_A wc0 s.heap.size) s (wd_M_lays D h h_now h_kept h_aside h_found h_down h_along h_parts h_gone h_tape h_kinds h_items h_widths h_sizes h_numbers h_moved v_isKept v_taped v_begins v_ends v_sort v_value v_isWrong v_itemMany v_farmMany v_farmCells v_now v_found v_widths v_sizes v_numbers) H locs → lv_has ls 6 [(0, .ref h), (1, .int x1), (2, .int x2), (3, .int x3)] → W p l e { frames := 2, cells := 0, slots := 0, locals := 42 } s m args below meth c H locs 0 0 (MQ below (kQi D wc0 (wd_M_lays D h h_now h_kept h_aside h_found h_down h_along h_parts h_gone h_tape h_kinds h_items h_widths h_sizes h_numbers h_moved v_isKept v_taped v_begins v_ends v_sort v_value v_isWrong v_itemMany v_farmMany v_farmCells out.2.1 out.2.2 v_widths v_sizes v_numbers) s.heap.size out.1) args s 0 0 (va_A wc0 s.heap.size)) (F0 m 35 ls []) := by
  intro n
  induction n with
  | zero => intro x2 x3 v_now hf; exact knone hf
  | succ n ih => intro x2 x3 v_now hf H locs ls hV hl; exact tb_M_lays_1 X ih hf hV hl
set_option maxHeartbeats 2000000 in
set_option maxRecDepth 20000 in
theorem t_M_lays {l : Launch} {p : Program} {e : Env} {s : State} {m : MethodId} {args : Array Value} {below : List Frame} {meth : Method} {c : Code} {D : kD} {wc0 : va_W} {h : Nat} {h_now : Nat} {h_kept : Nat} {h_aside : Nat} {h_found : Nat} {h_down : Nat} {h_along : Nat} {h_parts : Nat} {h_gone : Nat} {h_tape : Nat} {h_kinds : Nat} {h_items : Nat} {h_widths : Nat} {h_sizes : Nat} {h_numbers : Nat} {h_moved : Nat} {v_isKept : Int32} {v_taped : Int32} {v_begins : Int32} {v_ends : Int32} {v_sort : Int32} {v_value : Int32} {v_isWrong : Int32} {v_itemMany : Int32} {v_farmMany : Int32} {v_farmCells : Int64} {v_now : Nat → Int32} {v_found : Nat → Int32} {v_widths : Nat → Int32} {v_sizes : Nat → Int32} {v_numbers : Nat → Int64} {x1 : Int32} {out : Int32 × (Nat → Int32) × (Nat → Int32)} (X : kX p m meth c s args D (va_A wc0 s.heap.size) b_M_lays "MountainFarmsModel" 6 (some .int)) (hf : f_M_lays v_now v_found v_widths v_sizes v_numbers x1 = some out) {H : Heap} {locs : List Loc} (hV : kV D (va_A wc0 s.heap.size) s (wd_M_lays D h h_now h_kept h_aside h_found h_down h_along h_parts h_gone h_tape h_kinds h_items h_widths h_sizes h_numbers h_moved v_isKept v_taped v_begins v_ends v_sort v_value v_isWrong v_itemMany v_farmMany v_farmCells v_now v_found v_widths v_sizes v_numbers) H locs) {ls : Array Slot} (hl : lv_has ls 6 [(0, .ref h), (1, .int x1)]) : W p l e { frames := 2, cells := 0, slots := 0, locals := 42 } s m args below meth c H locs 0 0 (MQ below (kQi D wc0 (wd_M_lays D h h_now h_kept h_aside h_found h_down h_along h_parts h_gone h_tape h_kinds h_items h_widths h_sizes h_numbers h_moved v_isKept v_taped v_begins v_ends v_sort v_value v_isWrong v_itemMany v_farmMany v_farmCells out.2.1 out.2.2 v_widths v_sizes v_numbers) s.heap.size out.1) args s 0 0 (va_A wc0 s.heap.size)) (F0 m 0 ls []) := by
  unfold f_M_lays at hf
  obtain ⟨hx, hb, -⟩ := id X
  refine lv_iload_n hx hb d_M_lays_0 rfl (lv_at hl 1 rfl) ?_
  obtain ⟨r_20, hc_21, hf⟩ := kb1_some hf
  refine k_csi (w1 := (wd_M_isSheet D)) (r := r_20) (ws' := (wd_M_lays D h h_now h_kept h_aside h_found h_down h_along h_parts h_gone h_tape h_kinds h_items h_widths h_sizes h_numbers h_moved v_isKept v_taped v_begins v_ends v_sort v_value v_isWrong v_itemMany v_farmMany v_farmCells v_now v_found v_widths v_sizes v_numbers)) X hV hl.1 (c_M_isSheet D x1 hc_21) fk_M_isSheet gw_1326 rfl [] [none, none, none, none, none, none] rfl rfl ⟨rfl, rfl, rfl, rfl, rfl, rfl, trivial⟩ rfl rfl rfl d_M_lays_1 (fun H locs hV => ?_)
  refine lv_if_ne (tgt := 14) hx hb d_M_lays_4 (by decide) (fun c_22 => ?_) (fun c_22 => ?_)
  · replace hf := kifn c_22 hf
    refine lv_aload_n hx hb d_M_lays_14 rfl (lv_at hl 0 rfl) ?_
    refine k_get X hV 0 9 21 rfl rfl rfl gw_908 rfl rfl d_M_lays_15 ?_
    refine lv_iload_n hx hb d_M_lays_18 rfl (lv_at hl 1 rfl) ?_
    obtain ⟨h_23, hf⟩ := kidx_some hf
    refine k_iald X hV 3 rfl h_23 rfl d_M_lays_19 ?_
    refine lv_if_ne (tgt := 31) hx hb d_M_lays_20 (by decide) (fun c_24 => ?_) (fun c_24 => ?_)
    · replace hf := kifn c_24 hf
      refine lv_iconst (v := 0) hx hb d_M_lays_31 ic_0 ?_
      refine lv_istore_n (lv' := [(2, .int (0 : Int32)), (0, .ref h), (1, .int x1)]) hx hb d_M_lays_32 rfl hl (by decide) rfl (fun ls hl => ?_)
      refine lv_iconst (v := 0) hx hb d_M_lays_33 ic_0 ?_
      refine lv_istore_n (lv' := [(3, .int (0 : Int32)), (2, .int (0 : Int32)), (0, .ref h), (1, .int x1)]) hx hb d_M_lays_34 rfl hl (by decide) rfl (fun ls hl => ?_)
      exact tl_M_lays_1 X _ _ _ _ hf _ _ _ hV (lv_sub hl [2, 3, 1, 0] rfl)
    replace hf := kifp c_24 hf
    refine lv_aload_n hx hb d_M_lays_23 rfl (lv_at hl 0 rfl) ?_
    refine k_ldcw (v := (-1000000006)) X gw_1334 d_M_lays_24 ?_
    obtain ⟨r_25, v_found_26, hc_27, hf⟩ := kb2_some hf
    refine k_cvi (w1 := (wd_M_finding D h h_now h_kept h_aside h_found h_down h_along h_parts h_gone h_tape h_kinds h_items h_widths h_sizes h_numbers h_moved v_isKept v_taped v_begins v_ends v_sort v_value v_isWrong v_itemMany v_farmMany v_farmCells v_found_26)) (r := r_25) (ws' := (wd_M_lays D h h_now h_kept h_aside h_found h_down h_along h_parts h_gone h_tape h_kinds h_items h_widths h_sizes h_numbers h_moved v_isKept v_taped v_begins v_ends v_sort v_value v_isWrong v_itemMany v_farmMany v_farmCells v_now v_found_26 v_widths v_sizes v_numbers)) X hV hl.1 (c_M_finding D h h_now h_kept h_aside h_found h_down h_along h_parts h_gone h_tape h_kinds h_items h_widths h_sizes h_numbers h_moved v_isKept v_taped v_begins v_ends v_sort v_value v_isWrong v_itemMany v_farmMany v_farmCells v_found (-1000000006 : Int32) hc_27) fk_M_finding gw_974 rfl 0 9 rfl rfl [0, 2] [some 0, none, some 1, none, none, none] rfl rfl ⟨rfl, rfl, rfl, rfl, rfl, rfl, rfl, rfl, rfl, rfl, trivial⟩ rfl rfl rfl d_M_lays_27 (fun H locs hV => ?_)
    have e_ := Option.some.inj hf
    subst e_
    exact k_iret X rfl hV rfl d_M_lays_30
  replace hf := kifp c_22 hf
  refine lv_aload_n hx hb d_M_lays_7 rfl (lv_at hl 0 rfl) ?_
  refine k_ldc (v := (-1000000001)) X gw_973 d_M_lays_8 ?_
  obtain ⟨r_28, v_found_29, hc_30, hf⟩ := kb2_some hf
  refine k_cvi (w1 := (wd_M_finding D h h_now h_kept h_aside h_found h_down h_along h_parts h_gone h_tape h_kinds h_items h_widths h_sizes h_numbers h_moved v_isKept v_taped v_begins v_ends v_sort v_value v_isWrong v_itemMany v_farmMany v_farmCells v_found_29)) (r := r_28) (ws' := (wd_M_lays D h h_now h_kept h_aside h_found h_down h_along h_parts h_gone h_tape h_kinds h_items h_widths h_sizes h_numbers h_moved v_isKept v_taped v_begins v_ends v_sort v_value v_isWrong v_itemMany v_farmMany v_farmCells v_now v_found_29 v_widths v_sizes v_numbers)) X hV hl.1 (c_M_finding D h h_now h_kept h_aside h_found h_down h_along h_parts h_gone h_tape h_kinds h_items h_widths h_sizes h_numbers h_moved v_isKept v_taped v_begins v_ends v_sort v_value v_isWrong v_itemMany v_farmMany v_farmCells v_found (-1000000001 : Int32) hc_30) fk_M_finding gw_974 rfl 0 9 rfl rfl [0, 2] [some 0, none, some 1, none, none, none] rfl rfl ⟨rfl, rfl, rfl, rfl, rfl, rfl, rfl, rfl, rfl, rfl, trivial⟩ rfl rfl rfl d_M_lays_10 (fun H locs hV => ?_)
  have e_ := Option.some.inj hf
  subst e_
  exact k_iret X rfl hV rfl d_M_lays_13
set_option maxHeartbeats 2000000 in
set_option maxRecDepth 20000 in
theorem c_M_lays {l : Launch} (D : kD) (h : Nat) (h_now : Nat) (h_kept : Nat) (h_aside : Nat) (h_found : Nat) (h_down : Nat) (h_along : Nat) (h_parts : Nat) (h_gone : Nat) (h_tape : Nat) (h_kinds : Nat) (h_items : Nat) (h_widths : Nat) (h_sizes : Nat) (h_numbers : Nat) (h_moved : Nat) (v_isKept : Int32) (v_taped : Int32) (v_begins : Int32) (v_ends : Int32) (v_sort : Int32) (v_value : Int32) (v_isWrong : Int32) (v_itemMany : Int32) (v_farmMany : Int32) (v_farmCells : Int64) (v_now : Nat → Int32) (v_found : Nat → Int32) (v_widths : Nat → Int32) (v_sizes : Nat → Int32) (v_numbers : Nat → Int64) (x1 : Int32) {out : Int32 × (Nat → Int32) × (Nat → Int32)} (hf : f_M_lays v_now v_found v_widths v_sizes v_numbers x1 = some out) : kMi l D y_M_lays b_M_lays 6 (some .int) { frames := 2, cells := 0, slots := 0, locals := 42 } [.ref h, .int x1] (wd_M_lays D h h_now h_kept h_aside h_found h_down h_along h_parts h_gone h_tape h_kinds h_items h_widths h_sizes h_numbers h_moved v_isKept v_taped v_begins v_ends v_sort v_value v_isWrong v_itemMany v_farmMany v_farmCells v_now v_found v_widths v_sizes v_numbers) (wd_M_lays D h h_now h_kept h_aside h_found h_down h_along h_parts h_gone h_tape h_kinds h_items h_widths h_sizes h_numbers h_moved v_isKept v_taped v_begins v_ends v_sort v_value v_isWrong v_itemMany v_farmMany v_farmCells out.2.1 out.2.2 v_widths v_sizes v_numbers) out.1 :=
  kMi_of (own := "MountainFarmsModel") (plainFor_of_name (by decide)) rfl rfl (fun p e s m args below meth c ls X hV hl => t_M_lays X hf hV hl)
set_option maxHeartbeats 2000000 in
set_option maxRecDepth 20000 in
theorem tb_M_book_1 {l : Launch} {p : Program} {e : Env} {s : State} {m : MethodId} {args : Array Value} {below : List Frame} {meth : Method} {c : Code} {D : kD} {wc0 : va_W} {h : Nat} {h_now : Nat} {h_kept : Nat} {h_aside : Nat} {h_found : Nat} {h_down : Nat} {h_along : Nat} {h_parts : Nat} {h_gone : Nat} {h_tape : Nat} {h_kinds : Nat} {h_items : Nat} {h_widths : Nat} {h_sizes : Nat} {h_numbers : Nat} {h_moved : Nat} {v_isKept : Int32} {v_taped : Int32} {v_begins : Int32} {v_ends : Int32} {v_sort : Int32} {v_value : Int32} {v_isWrong : Int32} {v_itemMany : Int32} {v_farmMany : Int32} {v_farmCells : Int64} {v_now : Nat → Int32} {v_found : Nat → Int32} {v_widths : Nat → Int32} {v_sizes : Nat → Int32} {v_numbers : Nat → Int64} {x1 : Int32} {x2 : Int32} {x3 : Int32} {rec1 : Int32 → (Nat → Int64) → Option (Int32 × (Nat → Int32) × (Nat → Int64))} {out : Int32 × (Nat → Int32) × (Nat → Int64)} (X : kX p m meth c s args D (va_A wc0 s.heap.size) b_M_book "MountainFarmsModel" 4 (some .int)) (hrec1 : ∀ (x3 : Int32) (v_numbers : Nat → Int64), rec1 x3 v_numbers = some out → ∀ (H : Heap) (locs : List Loc) (ls : Array Slot), kV D (va_A wc0 s.heap.size) s (wd_M_book D h h_now h_kept h_aside h_found h_down h_along h_parts h_gone h_tape h_kinds h_items h_widths h_sizes h_numbers h_moved v_isKept v_taped v_begins v_ends v_sort v_value v_isWrong v_itemMany v_farmMany v_farmCells v_now v_found v_widths v_sizes v_numbers) H locs → lv_has ls 4 [(0, .ref h), (1, .int x1), (2, .int x2), (3, .int x3)] → W p l e { frames := 2, cells := 0, slots := 0, locals := 42 } s m args below meth c H locs 0 0 (MQ below (kQi D wc0 (wd_M_book D h h_now h_kept h_aside h_found h_down h_along h_parts h_gone h_tape h_kinds h_items h_widths h_sizes h_numbers h_moved v_isKept v_taped v_begins v_ends v_sort v_value v_isWrong v_itemMany v_farmMany v_farmCells v_now out.2.1 v_widths v_sizes out.2.2) s.heap.size out.1) args s 0 0 (va_A wc0 s.heap.size)) (F0 m 50 ls [])) (hf : fb_M_book_1 rec1 x1 x2 v_now v_found v_widths x3 v_numbers = some out) {H : Heap} {locs : List Loc} (hV : kV D (va_A wc0 s.heap.size) s (wd_M_book D h h_now h_kept h_aside h_found h_down h_along h_parts h_gone h_tape h_kinds h_items h_widths h_sizes h_numbers h_moved v_isKept v_taped v_begins v_ends v_sort v_value v_isWrong v_itemMany v_farmMany v_farmCells v_now v_found v_widths v_sizes v_numbers) H locs) {ls : Array Slot} (hl : lv_has ls 4 [(0, .ref h), (1, .int x1), (2, .int x2), (3, .int x3)]) : W p l e { frames := 2, cells := 0, slots := 0, locals := 42 } s m args below meth c H locs 0 0 (MQ below (kQi D wc0 (wd_M_book D h h_now h_kept h_aside h_found h_down h_along h_parts h_gone h_tape h_kinds h_items h_widths h_sizes h_numbers h_moved v_isKept v_taped v_begins v_ends v_sort v_value v_isWrong v_itemMany v_farmMany v_farmCells v_now out.2.1 v_widths v_sizes out.2.2) s.heap.size out.1) args s 0 0 (va_A wc0 s.heap.size)) (F0 m 50 ls []) := by
  unfold fb_M_book_1 at hf
  obtain ⟨hx, hb, -⟩ := id X
  refine lv_iload_n hx hb d_M_book_50 rfl (lv_at hl 3 rfl) ?_
  refine lv_iload_n hx hb d_M_book_51 rfl (lv_at hl 2 rfl) ?_
  refine lv_icmp_ge (tgt := 88) hx hb d_M_book_52 (by decide) (fun c_36 => ?_) (fun c_36 => ?_)
  · replace hf := kifp c_36 hf
    refine lv_iload_n hx hb d_M_book_88 rfl (lv_at hl 2 rfl) ?_
    have e_ := Option.some.inj hf
    subst e_
    exact k_iret X rfl hV rfl d_M_book_89
  replace hf := kifn c_36 hf
  refine lv_aload_n hx hb d_M_book_55 rfl (lv_at hl 0 rfl) ?_
  refine k_get X hV 0 9 23 rfl rfl rfl gw_910 rfl rfl d_M_book_56 ?_
  refine lv_bipush (v := 40) hx hb d_M_book_59 bp_40 ?_
  refine lv_iload_n hx hb d_M_book_61 rfl (lv_at hl 1 rfl) ?_
  refine lv_imul hx hb d_M_book_62 ?_
  refine lv_iload_n hx hb d_M_book_63 rfl (lv_at hl 3 rfl) ?_
  refine lv_iadd hx hb d_M_book_64 ?_
  refine lv_aload_n hx hb d_M_book_65 rfl (lv_at hl 0 rfl) ?_
  refine lv_iload_n hx hb d_M_book_66 rfl (lv_at hl 3 rfl) ?_
  refine lv_iconst (v := 3) hx hb d_M_book_67 ic_3 ?_
  obtain ⟨r_37, hc_38, hf⟩ := kb1_some hf
  refine k_cvi (w1 := (wd_M_farmIs D h h_now h_kept h_aside h_found h_down h_along h_parts h_gone h_tape h_kinds h_items h_widths h_sizes h_numbers h_moved v_isKept v_taped v_begins v_ends v_sort v_value v_isWrong v_itemMany v_farmMany v_farmCells v_now)) (r := r_37) (ws' := (wd_M_book D h h_now h_kept h_aside h_found h_down h_along h_parts h_gone h_tape h_kinds h_items h_widths h_sizes h_numbers h_moved v_isKept v_taped v_begins v_ends v_sort v_value v_isWrong v_itemMany v_farmMany v_farmCells v_now v_found v_widths v_sizes v_numbers)) X hV hl.1 (c_M_farmIs D h h_now h_kept h_aside h_found h_down h_along h_parts h_gone h_tape h_kinds h_items h_widths h_sizes h_numbers h_moved v_isKept v_taped v_begins v_ends v_sort v_value v_isWrong v_itemMany v_farmMany v_farmCells v_now x3 (3 : Int32) hc_38) fk_M_farmIs gw_990 rfl 0 9 rfl rfl [0, 1] [some 0, some 1, none, none, none, none] rfl rfl ⟨rfl, rfl, rfl, rfl, rfl, rfl, rfl, rfl, rfl, rfl, trivial⟩ rfl rfl rfl d_M_book_68 (fun H locs hV => ?_)
  refine lv_i2l hx hb d_M_book_71 rfl ?_
  refine lv_aload_n hx hb d_M_book_72 rfl (lv_at hl 0 rfl) ?_
  refine k_get X hV 0 9 21 rfl rfl rfl gw_908 rfl rfl d_M_book_73 ?_
  refine lv_iload_n hx hb d_M_book_76 rfl (lv_at hl 1 rfl) ?_
  obtain ⟨h_39, hf⟩ := kidx_some hf
  refine k_iald X hV 3 rfl h_39 rfl d_M_book_77 ?_
  obtain ⟨r_40, hc_41, hf⟩ := kb1_some hf
  refine k_csl (w1 := (wd_M_cutTo D)) (r := r_40) (ws' := (wd_M_book D h h_now h_kept h_aside h_found h_down h_along h_parts h_gone h_tape h_kinds h_items h_widths h_sizes h_numbers h_moved v_isKept v_taped v_begins v_ends v_sort v_value v_isWrong v_itemMany v_farmMany v_farmCells v_now v_found v_widths v_sizes v_numbers)) X hV hl.1 (c_M_cutTo D r_37.toInt64 (v_widths x1.toNatClampNeg) hc_41) fk_M_cutTo gw_1335 rfl [] [none, none, none, none, none, none] rfl rfl ⟨rfl, rfl, rfl, rfl, rfl, rfl, trivial⟩ rfl rfl rfl d_M_book_78 (fun H locs hV => ?_)
  obtain ⟨h_42, hf⟩ := kidx_some hf
  refine k_last (ws' := (wd_M_book D h h_now h_kept h_aside h_found h_down h_along h_parts h_gone h_tape h_kinds h_items h_widths h_sizes h_numbers h_moved v_isKept v_taped v_begins v_ends v_sort v_value v_isWrong v_itemMany v_farmMany v_farmCells v_now v_found v_widths v_sizes (vp_updL v_numbers (((40 : Int32) * x1) + x3).toNatClampNeg r_40))) X hV 5 rfl h_42 rfl rfl d_M_book_81 (fun H locs hV => ?_)
  refine lv_iinc (v := (x3 + 1)) (lv' := [(3, .int (x3 + 1)), (0, .ref h), (1, .int x1), (2, .int x2)]) hx hb d_M_book_82 hl (k := 3) rfl rfl (by decide) rfl (fun ls hl => ?_)
  refine lv_goto (tgt := 50) hx hb d_M_book_85 (by decide) ?_
  exact hrec1 _ _ hf _ _ _ hV (lv_sub hl [1, 2, 3, 0] rfl)
set_option maxHeartbeats 2000000 in
set_option maxRecDepth 20000 in
theorem tl_M_book_1 {l : Launch} {p : Program} {e : Env} {s : State} {m : MethodId} {args : Array Value} {below : List Frame} {meth : Method} {c : Code} {D : kD} {wc0 : va_W} {h : Nat} {h_now : Nat} {h_kept : Nat} {h_aside : Nat} {h_found : Nat} {h_down : Nat} {h_along : Nat} {h_parts : Nat} {h_gone : Nat} {h_tape : Nat} {h_kinds : Nat} {h_items : Nat} {h_widths : Nat} {h_sizes : Nat} {h_numbers : Nat} {h_moved : Nat} {v_isKept : Int32} {v_taped : Int32} {v_begins : Int32} {v_ends : Int32} {v_sort : Int32} {v_value : Int32} {v_isWrong : Int32} {v_itemMany : Int32} {v_farmMany : Int32} {v_farmCells : Int64} {v_now : Nat → Int32} {v_found : Nat → Int32} {v_widths : Nat → Int32} {v_sizes : Nat → Int32} {x1 : Int32} {x2 : Int32} {out : Int32 × (Nat → Int32) × (Nat → Int64)} (X : kX p m meth c s args D (va_A wc0 s.heap.size) b_M_book "MountainFarmsModel" 4 (some .int)) : ∀ (n : Nat) (x3 : Int32) (v_numbers : Nat → Int64), fl_M_book_1 x1 x2 v_now v_found v_widths n x3 v_numbers = some out → ∀ (H : Heap) (locs : List Loc) (ls : Array Slot), kV D (va_A wc0 s.heap.size) s (wd_M_book D h h_now h_kept h_aside h_found h_down h_along h_parts h_gone h_tape h_kinds h_items h_widths h_sizes h_numbers h_moved v_isKept v_taped v_begins v_ends v_sort v_value v_isWrong v_itemMany v_farmMany v_farmCells v_now v_found v_widths v_sizes v_numbers) H locs → lv_has ls 4 [(0, .ref h), (1, .int x1), (2, .int x2), (3, .int x3)] → W p l e { frames := 2, cells := 0, slots := 0, locals := 42 } s m args below meth c H locs 0 0 (MQ below (kQi D wc0 (wd_M_book D h h_now h_kept h_aside h_found h_down h_along h_parts h_gone h_tape h_kinds h_items h_widths h_sizes h_numbers h_moved v_isKept v_taped v_begins v_ends v_sort v_value v_isWrong v_itemMany v_farmMany v_farmCells v_now out.2.1 v_widths v_sizes out.2.2) s.heap.size out.1) args s 0 0 (va_A wc0 s.heap.size)) (F0 m 50 ls []) := by
  intro n
  induction n with
  | zero => intro x3 v_numbers hf; exact knone hf
  | succ n ih => intro x3 v_numbers hf H locs ls hV hl; exact tb_M_book_1 X ih hf hV hl
set_option maxHeartbeats 2000000 in
set_option maxRecDepth 20000 in
theorem t_M_book {l : Launch} {p : Program} {e : Env} {s : State} {m : MethodId} {args : Array Value} {below : List Frame} {meth : Method} {c : Code} {D : kD} {wc0 : va_W} {h : Nat} {h_now : Nat} {h_kept : Nat} {h_aside : Nat} {h_found : Nat} {h_down : Nat} {h_along : Nat} {h_parts : Nat} {h_gone : Nat} {h_tape : Nat} {h_kinds : Nat} {h_items : Nat} {h_widths : Nat} {h_sizes : Nat} {h_numbers : Nat} {h_moved : Nat} {v_isKept : Int32} {v_taped : Int32} {v_begins : Int32} {v_ends : Int32} {v_sort : Int32} {v_value : Int32} {v_isWrong : Int32} {v_itemMany : Int32} {v_farmMany : Int32} {v_farmCells : Int64} {v_now : Nat → Int32} {v_found : Nat → Int32} {v_widths : Nat → Int32} {v_sizes : Nat → Int32} {v_numbers : Nat → Int64} {x1 : Int32} {out : Int32 × (Nat → Int32) × (Nat → Int64)} (X : kX p m meth c s args D (va_A wc0 s.heap.size) b_M_book "MountainFarmsModel" 4 (some .int)) (hf : f_M_book v_now v_found v_widths v_sizes v_numbers x1 = some out) {H : Heap} {locs : List Loc} (hV : kV D (va_A wc0 s.heap.size) s (wd_M_book D h h_now h_kept h_aside h_found h_down h_along h_parts h_gone h_tape h_kinds h_items h_widths h_sizes h_numbers h_moved v_isKept v_taped v_begins v_ends v_sort v_value v_isWrong v_itemMany v_farmMany v_farmCells v_now v_found v_widths v_sizes v_numbers) H locs) {ls : Array Slot} (hl : lv_has ls 4 [(0, .ref h), (1, .int x1)]) : W p l e { frames := 2, cells := 0, slots := 0, locals := 42 } s m args below meth c H locs 0 0 (MQ below (kQi D wc0 (wd_M_book D h h_now h_kept h_aside h_found h_down h_along h_parts h_gone h_tape h_kinds h_items h_widths h_sizes h_numbers h_moved v_isKept v_taped v_begins v_ends v_sort v_value v_isWrong v_itemMany v_farmMany v_farmCells v_now out.2.1 v_widths v_sizes out.2.2) s.heap.size out.1) args s 0 0 (va_A wc0 s.heap.size)) (F0 m 0 ls []) := by
  unfold f_M_book at hf
  obtain ⟨hx, hb, -⟩ := id X
  refine lv_iload_n hx hb d_M_book_0 rfl (lv_at hl 1 rfl) ?_
  obtain ⟨r_22, hc_23, hf⟩ := kb1_some hf
  refine k_csi (w1 := (wd_M_isSheet D)) (r := r_22) (ws' := (wd_M_book D h h_now h_kept h_aside h_found h_down h_along h_parts h_gone h_tape h_kinds h_items h_widths h_sizes h_numbers h_moved v_isKept v_taped v_begins v_ends v_sort v_value v_isWrong v_itemMany v_farmMany v_farmCells v_now v_found v_widths v_sizes v_numbers)) X hV hl.1 (c_M_isSheet D x1 hc_23) fk_M_isSheet gw_1326 rfl [] [none, none, none, none, none, none] rfl rfl ⟨rfl, rfl, rfl, rfl, rfl, rfl, trivial⟩ rfl rfl rfl d_M_book_1 (fun H locs hV => ?_)
  refine lv_if_ne (tgt := 14) hx hb d_M_book_4 (by decide) (fun c_24 => ?_) (fun c_24 => ?_)
  · replace hf := kifn c_24 hf
    refine lv_aload_n hx hb d_M_book_14 rfl (lv_at hl 0 rfl) ?_
    refine k_get X hV 0 9 21 rfl rfl rfl gw_908 rfl rfl d_M_book_15 ?_
    refine lv_iload_n hx hb d_M_book_18 rfl (lv_at hl 1 rfl) ?_
    obtain ⟨h_25, hf⟩ := kidx_some hf
    refine k_iald X hV 3 rfl h_25 rfl d_M_book_19 ?_
    refine lv_if_ne (tgt := 31) hx hb d_M_book_20 (by decide) (fun c_26 => ?_) (fun c_26 => ?_)
    · replace hf := kifn c_26 hf
      refine lv_aload_n hx hb d_M_book_31 rfl (lv_at hl 0 rfl) ?_
      refine k_get X hV 0 9 22 rfl rfl rfl gw_909 rfl rfl d_M_book_32 ?_
      refine lv_iload_n hx hb d_M_book_35 rfl (lv_at hl 1 rfl) ?_
      obtain ⟨h_27, hf⟩ := kidx_some hf
      refine k_iald X hV 4 rfl h_27 rfl d_M_book_36 ?_
      refine lv_aload_n hx hb d_M_book_37 rfl (lv_at hl 0 rfl) ?_
      refine k_get X hV 0 9 0 rfl rfl rfl gw_887 rfl rfl d_M_book_38 ?_
      refine lv_bipush (v := 10) hx hb d_M_book_41 bp_10 ?_
      refine k_iald X hV 1 rfl kin_10_218 kln_10 d_M_book_43 ?_
      obtain ⟨r_28, hc_29, hf⟩ := kb1_some hf
      refine k_csi (w1 := (wd_Ma_min D)) (r := r_28) (ws' := (wd_M_book D h h_now h_kept h_aside h_found h_down h_along h_parts h_gone h_tape h_kinds h_items h_widths h_sizes h_numbers h_moved v_isKept v_taped v_begins v_ends v_sort v_value v_isWrong v_itemMany v_farmMany v_farmCells v_now v_found v_widths v_sizes v_numbers)) X hV hl.1 (c_Ma_min D (v_sizes x1.toNatClampNeg) (v_now 10) hc_29) fk_Ma_min gw_1046 rfl [] [none, none, none, none, none, none] rfl rfl ⟨rfl, rfl, rfl, rfl, rfl, rfl, trivial⟩ rfl rfl rfl d_M_book_44 (fun H locs hV => ?_)
      refine lv_istore_n (lv' := [(2, .int r_28), (0, .ref h), (1, .int x1)]) hx hb d_M_book_47 rfl hl (by decide) rfl (fun ls hl => ?_)
      refine lv_iconst (v := 0) hx hb d_M_book_48 ic_0 ?_
      refine lv_istore_n (lv' := [(3, .int (0 : Int32)), (2, .int r_28), (0, .ref h), (1, .int x1)]) hx hb d_M_book_49 rfl hl (by decide) rfl (fun ls hl => ?_)
      exact tl_M_book_1 X _ _ _ hf _ _ _ hV (lv_sub hl [2, 3, 1, 0] rfl)
    replace hf := kifp c_26 hf
    refine lv_aload_n hx hb d_M_book_23 rfl (lv_at hl 0 rfl) ?_
    refine k_ldcw (v := (-1000000006)) X gw_1334 d_M_book_24 ?_
    obtain ⟨r_30, v_found_31, hc_32, hf⟩ := kb2_some hf
    refine k_cvi (w1 := (wd_M_finding D h h_now h_kept h_aside h_found h_down h_along h_parts h_gone h_tape h_kinds h_items h_widths h_sizes h_numbers h_moved v_isKept v_taped v_begins v_ends v_sort v_value v_isWrong v_itemMany v_farmMany v_farmCells v_found_31)) (r := r_30) (ws' := (wd_M_book D h h_now h_kept h_aside h_found h_down h_along h_parts h_gone h_tape h_kinds h_items h_widths h_sizes h_numbers h_moved v_isKept v_taped v_begins v_ends v_sort v_value v_isWrong v_itemMany v_farmMany v_farmCells v_now v_found_31 v_widths v_sizes v_numbers)) X hV hl.1 (c_M_finding D h h_now h_kept h_aside h_found h_down h_along h_parts h_gone h_tape h_kinds h_items h_widths h_sizes h_numbers h_moved v_isKept v_taped v_begins v_ends v_sort v_value v_isWrong v_itemMany v_farmMany v_farmCells v_found (-1000000006 : Int32) hc_32) fk_M_finding gw_974 rfl 0 9 rfl rfl [0, 2] [some 0, none, some 1, none, none, none] rfl rfl ⟨rfl, rfl, rfl, rfl, rfl, rfl, rfl, rfl, rfl, rfl, trivial⟩ rfl rfl rfl d_M_book_27 (fun H locs hV => ?_)
    have e_ := Option.some.inj hf
    subst e_
    exact k_iret X rfl hV rfl d_M_book_30
  replace hf := kifp c_24 hf
  refine lv_aload_n hx hb d_M_book_7 rfl (lv_at hl 0 rfl) ?_
  refine k_ldc (v := (-1000000001)) X gw_973 d_M_book_8 ?_
  obtain ⟨r_33, v_found_34, hc_35, hf⟩ := kb2_some hf
  refine k_cvi (w1 := (wd_M_finding D h h_now h_kept h_aside h_found h_down h_along h_parts h_gone h_tape h_kinds h_items h_widths h_sizes h_numbers h_moved v_isKept v_taped v_begins v_ends v_sort v_value v_isWrong v_itemMany v_farmMany v_farmCells v_found_34)) (r := r_33) (ws' := (wd_M_book D h h_now h_kept h_aside h_found h_down h_along h_parts h_gone h_tape h_kinds h_items h_widths h_sizes h_numbers h_moved v_isKept v_taped v_begins v_ends v_sort v_value v_isWrong v_itemMany v_farmMany v_farmCells v_now v_found_34 v_widths v_sizes v_numbers)) X hV hl.1 (c_M_finding D h h_now h_kept h_aside h_found h_down h_along h_parts h_gone h_tape h_kinds h_items h_widths h_sizes h_numbers h_moved v_isKept v_taped v_begins v_ends v_sort v_value v_isWrong v_itemMany v_farmMany v_farmCells v_found (-1000000001 : Int32) hc_35) fk_M_finding gw_974 rfl 0 9 rfl rfl [0, 2] [some 0, none, some 1, none, none, none] rfl rfl ⟨rfl, rfl, rfl, rfl, rfl, rfl, rfl, rfl, rfl, rfl, trivial⟩ rfl rfl rfl d_M_book_10 (fun H locs hV => ?_)
  have e_ := Option.some.inj hf
  subst e_
  exact k_iret X rfl hV rfl d_M_book_13
set_option maxHeartbeats 2000000 in
set_option maxRecDepth 20000 in
theorem c_M_book {l : Launch} (D : kD) (h : Nat) (h_now : Nat) (h_kept : Nat) (h_aside : Nat) (h_found : Nat) (h_down : Nat) (h_along : Nat) (h_parts : Nat) (h_gone : Nat) (h_tape : Nat) (h_kinds : Nat) (h_items : Nat) (h_widths : Nat) (h_sizes : Nat) (h_numbers : Nat) (h_moved : Nat) (v_isKept : Int32) (v_taped : Int32) (v_begins : Int32) (v_ends : Int32) (v_sort : Int32) (v_value : Int32) (v_isWrong : Int32) (v_itemMany : Int32) (v_farmMany : Int32) (v_farmCells : Int64) (v_now : Nat → Int32) (v_found : Nat → Int32) (v_widths : Nat → Int32) (v_sizes : Nat → Int32) (v_numbers : Nat → Int64) (x1 : Int32) {out : Int32 × (Nat → Int32) × (Nat → Int64)} (hf : f_M_book v_now v_found v_widths v_sizes v_numbers x1 = some out) : kMi l D y_M_book b_M_book 4 (some .int) { frames := 2, cells := 0, slots := 0, locals := 42 } [.ref h, .int x1] (wd_M_book D h h_now h_kept h_aside h_found h_down h_along h_parts h_gone h_tape h_kinds h_items h_widths h_sizes h_numbers h_moved v_isKept v_taped v_begins v_ends v_sort v_value v_isWrong v_itemMany v_farmMany v_farmCells v_now v_found v_widths v_sizes v_numbers) (wd_M_book D h h_now h_kept h_aside h_found h_down h_along h_parts h_gone h_tape h_kinds h_items h_widths h_sizes h_numbers h_moved v_isKept v_taped v_begins v_ends v_sort v_value v_isWrong v_itemMany v_farmMany v_farmCells v_now out.2.1 v_widths v_sizes out.2.2) out.1 :=
  kMi_of (own := "MountainFarmsModel") (plainFor_of_name (by decide)) rfl rfl (fun p e s m args below meth c ls X hV hl => t_M_book X hf hV hl)
set_option maxHeartbeats 2000000 in
set_option maxRecDepth 20000 in
theorem t_M_read_3 {l : Launch} {p : Program} {e : Env} {s : State} {m : MethodId} {args : Array Value} {below : List Frame} {meth : Method} {c : Code} {D : kD} {wc0 : va_W} {h : Nat} {h_now : Nat} {h_kept : Nat} {h_aside : Nat} {h_found : Nat} {h_down : Nat} {h_along : Nat} {h_parts : Nat} {h_gone : Nat} {h_tape : Nat} {h_kinds : Nat} {h_items : Nat} {h_widths : Nat} {h_sizes : Nat} {h_numbers : Nat} {h_moved : Nat} {v_isKept : Int32} {v_taped : Int32} {v_begins : Int32} {v_ends : Int32} {v_sort : Int32} {v_value : Int32} {v_isWrong : Int32} {v_itemMany : Int32} {v_farmMany : Int32} {v_farmCells : Int64} {v_now : Nat → Int32} {v_aside : Nat → Int32} {v_found : Nat → Int32} {v_down : Nat → Int32} {v_along : Nat → Int32} {v_widths : Nat → Int32} {v_sizes : Nat → Int32} {v_numbers : Nat → Int64} {x2 : Int32} {out : Int32 × (Nat → Int32) × (Nat → Int32) × (Nat → Int32)} (X : kX p m meth c s args D (va_A wc0 s.heap.size) b_M_read "MountainFarmsModel" 4 (some .int)) (hf : f_M_read_3 x2 v_now v_aside v_found = some out) {H : Heap} {locs : List Loc} (hV : kV D (va_A wc0 s.heap.size) s (wd_M_read D h h_now h_kept h_aside h_found h_down h_along h_parts h_gone h_tape h_kinds h_items h_widths h_sizes h_numbers h_moved v_isKept v_taped v_begins v_ends v_sort v_value v_isWrong v_itemMany v_farmMany v_farmCells v_now v_aside v_found v_down v_along v_widths v_sizes v_numbers) H locs) {ls : Array Slot} (hl : lv_has ls 4 [(0, .ref h), (2, .int x2)]) : W p l e { frames := 7, cells := 0, slots := 0, locals := 169 } s m args below meth c H locs 0 0 (MQ below (kQi D wc0 (wd_M_read D h h_now h_kept h_aside h_found h_down h_along h_parts h_gone h_tape h_kinds h_items h_widths h_sizes h_numbers h_moved v_isKept v_taped v_begins v_ends v_sort v_value v_isWrong v_itemMany v_farmMany v_farmCells out.2.1 out.2.2.1 out.2.2.2 v_down v_along v_widths v_sizes v_numbers) s.heap.size out.1) args s 0 0 (va_A wc0 s.heap.size)) (F0 m 118 ls []) := by
  unfold f_M_read_3 at hf
  obtain ⟨hx, hb, -⟩ := id X
  refine lv_aload_n hx hb d_M_read_118 rfl (lv_at hl 0 rfl) ?_
  refine lv_iload_n hx hb d_M_read_119 rfl (lv_at hl 1 rfl) ?_
  obtain ⟨r_58, v_now_59, hc_60, hf⟩ := kb2_some hf
  refine k_cvi (w1 := (wd_M_putBack D h h_now h_kept h_aside h_found h_down h_along h_parts h_gone h_tape h_kinds h_items h_widths h_sizes h_numbers h_moved v_isKept v_taped v_begins v_ends v_sort v_value v_isWrong v_itemMany v_farmMany v_farmCells v_now_59 v_aside)) (r := r_58) (ws' := (wd_M_read D h h_now h_kept h_aside h_found h_down h_along h_parts h_gone h_tape h_kinds h_items h_widths h_sizes h_numbers h_moved v_isKept v_taped v_begins v_ends v_sort v_value v_isWrong v_itemMany v_farmMany v_farmCells v_now_59 v_aside v_found v_down v_along v_widths v_sizes v_numbers)) X hV hl.1 (c_M_putBack D h h_now h_kept h_aside h_found h_down h_along h_parts h_gone h_tape h_kinds h_items h_widths h_sizes h_numbers h_moved v_isKept v_taped v_begins v_ends v_sort v_value v_isWrong v_itemMany v_farmMany v_farmCells v_now v_aside x2 hc_60) fk_M_putBack gw_1239 rfl 0 9 rfl rfl [0, 1, 2] [some 0, some 1, some 2, none, none, none, none, none, none] rfl rfl ⟨rfl, rfl, rfl, rfl, rfl, rfl, rfl, rfl, rfl, rfl, rfl, rfl, rfl, rfl, rfl, trivial⟩ rfl rfl rfl d_M_read_120 (fun H locs hV => ?_)
  have e_ := Option.some.inj hf
  subst e_
  exact k_iret X rfl hV rfl d_M_read_123
set_option maxHeartbeats 2000000 in
set_option maxRecDepth 20000 in
theorem t_M_read_2 {l : Launch} {p : Program} {e : Env} {s : State} {m : MethodId} {args : Array Value} {below : List Frame} {meth : Method} {c : Code} {D : kD} {wc0 : va_W} {h : Nat} {h_now : Nat} {h_kept : Nat} {h_aside : Nat} {h_found : Nat} {h_down : Nat} {h_along : Nat} {h_parts : Nat} {h_gone : Nat} {h_tape : Nat} {h_kinds : Nat} {h_items : Nat} {h_widths : Nat} {h_sizes : Nat} {h_numbers : Nat} {h_moved : Nat} {v_isKept : Int32} {v_taped : Int32} {v_begins : Int32} {v_ends : Int32} {v_sort : Int32} {v_value : Int32} {v_isWrong : Int32} {v_itemMany : Int32} {v_farmMany : Int32} {v_farmCells : Int64} {v_now : Nat → Int32} {v_aside : Nat → Int32} {v_found : Nat → Int32} {v_down : Nat → Int32} {v_along : Nat → Int32} {v_widths : Nat → Int32} {v_sizes : Nat → Int32} {v_numbers : Nat → Int64} {s0 : Int32} {x1 : Int32} {x3 : Int32} {rec1 : Int32 → Int32 → (Nat → Int32) → Option (Int32 × (Nat → Int32) × (Nat → Int32) × (Nat → Int32))} {out : Int32 × (Nat → Int32) × (Nat → Int32) × (Nat → Int32)} (X : kX p m meth c s args D (va_A wc0 s.heap.size) b_M_read "MountainFarmsModel" 4 (some .int)) (hrec1 : ∀ (x2 : Int32) (x3 : Int32) (v_now : Nat → Int32), rec1 x2 x3 v_now = some out → ∀ (H : Heap) (locs : List Loc) (ls : Array Slot), kV D (va_A wc0 s.heap.size) s (wd_M_read D h h_now h_kept h_aside h_found h_down h_along h_parts h_gone h_tape h_kinds h_items h_widths h_sizes h_numbers h_moved v_isKept v_taped v_begins v_ends v_sort v_value v_isWrong v_itemMany v_farmMany v_farmCells v_now v_aside v_found v_down v_along v_widths v_sizes v_numbers) H locs → lv_has ls 4 [(0, .ref h), (1, .int x1), (2, .int x2), (3, .int x3)] → W p l e { frames := 7, cells := 0, slots := 0, locals := 169 } s m args below meth c H locs 0 0 (MQ below (kQi D wc0 (wd_M_read D h h_now h_kept h_aside h_found h_down h_along h_parts h_gone h_tape h_kinds h_items h_widths h_sizes h_numbers h_moved v_isKept v_taped v_begins v_ends v_sort v_value v_isWrong v_itemMany v_farmMany v_farmCells out.2.1 out.2.2.1 out.2.2.2 v_down v_along v_widths v_sizes v_numbers) s.heap.size out.1) args s 0 0 (va_A wc0 s.heap.size)) (F0 m 62 ls [])) (hf : f_M_read_2 rec1 s0 x1 x3 v_now v_aside v_found v_down v_along v_sizes v_numbers = some out) {H : Heap} {locs : List Loc} (hV : kV D (va_A wc0 s.heap.size) s (wd_M_read D h h_now h_kept h_aside h_found h_down h_along h_parts h_gone h_tape h_kinds h_items h_widths h_sizes h_numbers h_moved v_isKept v_taped v_begins v_ends v_sort v_value v_isWrong v_itemMany v_farmMany v_farmCells v_now v_aside v_found v_down v_along v_widths v_sizes v_numbers) H locs) {ls : Array Slot} (hl : lv_has ls 4 [(0, .ref h), (1, .int x1), (3, .int x3)]) : W p l e { frames := 7, cells := 0, slots := 0, locals := 169 } s m args below meth c H locs 0 0 (MQ below (kQi D wc0 (wd_M_read D h h_now h_kept h_aside h_found h_down h_along h_parts h_gone h_tape h_kinds h_items h_widths h_sizes h_numbers h_moved v_isKept v_taped v_begins v_ends v_sort v_value v_isWrong v_itemMany v_farmMany v_farmCells out.2.1 out.2.2.1 out.2.2.2 v_down v_along v_widths v_sizes v_numbers) s.heap.size out.1) args s 0 0 (va_A wc0 s.heap.size)) (F0 m 105 ls [.int s0]) := by
  unfold f_M_read_2 at hf
  obtain ⟨hx, hb, -⟩ := id X
  refine lv_istore_n (lv' := [(2, .int s0), (0, .ref h), (1, .int x1), (3, .int x3)]) hx hb d_M_read_105 rfl hl (by decide) rfl (fun ls hl => ?_)
  refine lv_aload_n hx hb d_M_read_106 rfl (lv_at hl 1 rfl) ?_
  refine lv_iconst (v := 1) hx hb d_M_read_107 ic_1 ?_
  obtain ⟨r_55, v_now_56, hc_57, hf⟩ := kb2_some hf
  refine k_cvi (w1 := (wd_M_monthsGo D h h_now h_kept h_aside h_found h_down h_along h_parts h_gone h_tape h_kinds h_items h_widths h_sizes h_numbers h_moved v_isKept v_taped v_begins v_ends v_sort v_value v_isWrong v_itemMany v_farmMany v_farmCells v_now_56 v_down v_along)) (r := r_55) (ws' := (wd_M_read D h h_now h_kept h_aside h_found h_down h_along h_parts h_gone h_tape h_kinds h_items h_widths h_sizes h_numbers h_moved v_isKept v_taped v_begins v_ends v_sort v_value v_isWrong v_itemMany v_farmMany v_farmCells v_now_56 v_aside v_found v_down v_along v_widths v_sizes v_numbers)) X hV hl.1 (c_M_monthsGo D h h_now h_kept h_aside h_found h_down h_along h_parts h_gone h_tape h_kinds h_items h_widths h_sizes h_numbers h_moved v_isKept v_taped v_begins v_ends v_sort v_value v_isWrong v_itemMany v_farmMany v_farmCells v_now v_down v_along (1 : Int32) hc_57) fk_M_monthsGo gw_1199 rfl 0 9 rfl rfl [0, 1, 4, 5] [some 0, some 1, none, none, some 2, some 3, none, none, none] rfl rfl ⟨rfl, rfl, rfl, rfl, rfl, rfl, rfl, rfl, rfl, rfl, rfl, rfl, rfl, rfl, rfl, rfl, rfl, trivial⟩ rfl rfl rfl d_M_read_108 (fun H locs hV => ?_)
  refine lv_pop hx hb d_M_read_111 rfl ?_
  refine lv_iinc (v := (x3 + 1)) (lv' := [(3, .int (x3 + 1)), (2, .int s0), (0, .ref h), (1, .int x1)]) hx hb d_M_read_112 hl (k := 3) rfl rfl (by decide) rfl (fun ls hl => ?_)
  refine lv_goto (tgt := 62) hx hb d_M_read_115 (by decide) ?_
  exact hrec1 _ _ _ hf _ _ _ hV (lv_sub hl [2, 3, 1, 0] rfl)
set_option maxHeartbeats 2000000 in
set_option maxRecDepth 20000 in
theorem tb_M_read_1 {l : Launch} {p : Program} {e : Env} {s : State} {m : MethodId} {args : Array Value} {below : List Frame} {meth : Method} {c : Code} {D : kD} {wc0 : va_W} {h : Nat} {h_now : Nat} {h_kept : Nat} {h_aside : Nat} {h_found : Nat} {h_down : Nat} {h_along : Nat} {h_parts : Nat} {h_gone : Nat} {h_tape : Nat} {h_kinds : Nat} {h_items : Nat} {h_widths : Nat} {h_sizes : Nat} {h_numbers : Nat} {h_moved : Nat} {v_isKept : Int32} {v_taped : Int32} {v_begins : Int32} {v_ends : Int32} {v_sort : Int32} {v_value : Int32} {v_isWrong : Int32} {v_itemMany : Int32} {v_farmMany : Int32} {v_farmCells : Int64} {v_now : Nat → Int32} {v_aside : Nat → Int32} {v_found : Nat → Int32} {v_down : Nat → Int32} {v_along : Nat → Int32} {v_widths : Nat → Int32} {v_sizes : Nat → Int32} {v_numbers : Nat → Int64} {x1 : Int32} {x2 : Int32} {x3 : Int32} {rec1 : Int32 → Int32 → (Nat → Int32) → Option (Int32 × (Nat → Int32) × (Nat → Int32) × (Nat → Int32))} {out : Int32 × (Nat → Int32) × (Nat → Int32) × (Nat → Int32)} (X : kX p m meth c s args D (va_A wc0 s.heap.size) b_M_read "MountainFarmsModel" 4 (some .int)) (hrec1 : ∀ (x2 : Int32) (x3 : Int32) (v_now : Nat → Int32), rec1 x2 x3 v_now = some out → ∀ (H : Heap) (locs : List Loc) (ls : Array Slot), kV D (va_A wc0 s.heap.size) s (wd_M_read D h h_now h_kept h_aside h_found h_down h_along h_parts h_gone h_tape h_kinds h_items h_widths h_sizes h_numbers h_moved v_isKept v_taped v_begins v_ends v_sort v_value v_isWrong v_itemMany v_farmMany v_farmCells v_now v_aside v_found v_down v_along v_widths v_sizes v_numbers) H locs → lv_has ls 4 [(0, .ref h), (1, .int x1), (2, .int x2), (3, .int x3)] → W p l e { frames := 7, cells := 0, slots := 0, locals := 169 } s m args below meth c H locs 0 0 (MQ below (kQi D wc0 (wd_M_read D h h_now h_kept h_aside h_found h_down h_along h_parts h_gone h_tape h_kinds h_items h_widths h_sizes h_numbers h_moved v_isKept v_taped v_begins v_ends v_sort v_value v_isWrong v_itemMany v_farmMany v_farmCells out.2.1 out.2.2.1 out.2.2.2 v_down v_along v_widths v_sizes v_numbers) s.heap.size out.1) args s 0 0 (va_A wc0 s.heap.size)) (F0 m 62 ls [])) (hf : fb_M_read_1 rec1 x1 v_aside v_found v_down v_along v_sizes v_numbers x2 x3 v_now = some out) {H : Heap} {locs : List Loc} (hV : kV D (va_A wc0 s.heap.size) s (wd_M_read D h h_now h_kept h_aside h_found h_down h_along h_parts h_gone h_tape h_kinds h_items h_widths h_sizes h_numbers h_moved v_isKept v_taped v_begins v_ends v_sort v_value v_isWrong v_itemMany v_farmMany v_farmCells v_now v_aside v_found v_down v_along v_widths v_sizes v_numbers) H locs) {ls : Array Slot} (hl : lv_has ls 4 [(0, .ref h), (1, .int x1), (2, .int x2), (3, .int x3)]) : W p l e { frames := 7, cells := 0, slots := 0, locals := 169 } s m args below meth c H locs 0 0 (MQ below (kQi D wc0 (wd_M_read D h h_now h_kept h_aside h_found h_down h_along h_parts h_gone h_tape h_kinds h_items h_widths h_sizes h_numbers h_moved v_isKept v_taped v_begins v_ends v_sort v_value v_isWrong v_itemMany v_farmMany v_farmCells out.2.1 out.2.2.1 out.2.2.2 v_down v_along v_widths v_sizes v_numbers) s.heap.size out.1) args s 0 0 (va_A wc0 s.heap.size)) (F0 m 62 ls []) := by
  unfold fb_M_read_1 at hf
  obtain ⟨hx, hb, -⟩ := id X
  refine lv_iload_n hx hb d_M_read_62 rfl (lv_at hl 3 rfl) ?_
  refine lv_aload_n hx hb d_M_read_63 rfl (lv_at hl 0 rfl) ?_
  refine k_get X hV 0 9 22 rfl rfl rfl gw_909 rfl rfl d_M_read_64 ?_
  refine lv_iload_n hx hb d_M_read_67 rfl (lv_at hl 1 rfl) ?_
  obtain ⟨h_50, hf⟩ := kidx_some hf
  refine k_iald X hV 7 rfl h_50 rfl d_M_read_68 ?_
  refine lv_icmp_ge (tgt := 118) hx hb d_M_read_69 (by decide) (fun c_51 => ?_) (fun c_51 => ?_)
  · replace hf := kifp c_51 hf
    exact t_M_read_3 X hf hV (lv_sub hl [0, 2] rfl)
  replace hf := kifn c_51 hf
  refine lv_iload_n hx hb d_M_read_72 rfl (lv_at hl 2 rfl) ?_
  refine lv_if_ne (tgt := 118) hx hb d_M_read_73 (by decide) (fun c_52 => ?_) (fun c_52 => ?_)
  · replace hf := kifn c_52 hf
    exact t_M_read_3 X hf hV (lv_sub hl [0, 2] rfl)
  replace hf := kifp c_52 hf
  refine lv_aload_n hx hb d_M_read_76 rfl (lv_at hl 0 rfl) ?_
  refine k_get X hV 0 9 23 rfl rfl rfl gw_910 rfl rfl d_M_read_77 ?_
  refine lv_bipush (v := 40) hx hb d_M_read_80 bp_40 ?_
  refine lv_iload_n hx hb d_M_read_82 rfl (lv_at hl 1 rfl) ?_
  refine lv_imul hx hb d_M_read_83 ?_
  refine lv_iload_n hx hb d_M_read_84 rfl (lv_at hl 3 rfl) ?_
  refine lv_iadd hx hb d_M_read_85 ?_
  obtain ⟨h_53, hf⟩ := kidx_some hf
  refine k_lald X hV 8 rfl h_53 rfl d_M_read_86 ?_
  refine lv_aload_n hx hb d_M_read_87 rfl (lv_at hl 0 rfl) ?_
  refine k_get X hV 0 9 0 rfl rfl rfl gw_887 rfl rfl d_M_read_88 ?_
  refine lv_iconst (v := 2) hx hb d_M_read_91 ic_2 ?_
  refine k_iald X hV 1 rfl kin_2_218 kln_2 d_M_read_92 ?_
  refine lv_i2l hx hb d_M_read_93 rfl ?_
  refine W.lcmp hx hb d_M_read_94 ?_
  refine lv_if_ne (tgt := 102) hx hb d_M_read_95 (by decide) (fun c_54 => ?_) (fun c_54 => ?_)
  · replace hf := kifn c_54 hf
    refine lv_iconst (v := 1) hx hb d_M_read_102 ic_1 ?_
    refine lv_iload_n hx hb d_M_read_103 rfl (lv_at hl 3 rfl) ?_
    refine lv_iadd hx hb d_M_read_104 ?_
    exact t_M_read_2 X hrec1 hf hV (lv_sub hl [0, 1, 3] rfl)
  replace hf := kifp c_54 hf
  refine lv_iconst (v := 0) hx hb d_M_read_98 ic_0 ?_
  refine lv_goto (tgt := 105) hx hb d_M_read_99 (by decide) ?_
  exact t_M_read_2 X hrec1 hf hV (lv_sub hl [0, 1, 3] rfl)
set_option maxHeartbeats 2000000 in
set_option maxRecDepth 20000 in
theorem tl_M_read_1 {l : Launch} {p : Program} {e : Env} {s : State} {m : MethodId} {args : Array Value} {below : List Frame} {meth : Method} {c : Code} {D : kD} {wc0 : va_W} {h : Nat} {h_now : Nat} {h_kept : Nat} {h_aside : Nat} {h_found : Nat} {h_down : Nat} {h_along : Nat} {h_parts : Nat} {h_gone : Nat} {h_tape : Nat} {h_kinds : Nat} {h_items : Nat} {h_widths : Nat} {h_sizes : Nat} {h_numbers : Nat} {h_moved : Nat} {v_isKept : Int32} {v_taped : Int32} {v_begins : Int32} {v_ends : Int32} {v_sort : Int32} {v_value : Int32} {v_isWrong : Int32} {v_itemMany : Int32} {v_farmMany : Int32} {v_farmCells : Int64} {v_aside : Nat → Int32} {v_found : Nat → Int32} {v_down : Nat → Int32} {v_along : Nat → Int32} {v_widths : Nat → Int32} {v_sizes : Nat → Int32} {v_numbers : Nat → Int64} {x1 : Int32} {out : Int32 × (Nat → Int32) × (Nat → Int32) × (Nat → Int32)} (X : kX p m meth c s args D (va_A wc0 s.heap.size) b_M_read "MountainFarmsModel" 4 (some .int)) : ∀ (n : Nat) (x2 : Int32) (x3 : Int32) (v_now : Nat → Int32), fl_M_read_1 x1 v_aside v_found v_down v_along v_sizes v_numbers n x2 x3 v_now = some out → ∀ (H : Heap) (locs : List Loc) (ls : Array Slot), kV D (va_A wc0 s.heap.size) s (wd_M_read D h h_now h_kept h_aside h_found h_down h_along h_parts h_gone h_tape h_kinds h_items h_widths h_sizes h_numbers h_moved v_isKept v_taped v_begins v_ends v_sort v_value v_isWrong v_itemMany v_farmMany v_farmCells v_now v_aside v_found v_down v_along v_widths v_sizes v_numbers) H locs → lv_has ls 4 [(0, .ref h), (1, .int x1), (2, .int x2), (3, .int x3)] → W p l e { frames := 7, cells := 0, slots := 0, locals := 169 } s m args below meth c H locs 0 0 (MQ below (kQi D wc0 (wd_M_read D h h_now h_kept h_aside h_found h_down h_along h_parts h_gone h_tape h_kinds h_items h_widths h_sizes h_numbers h_moved v_isKept v_taped v_begins v_ends v_sort v_value v_isWrong v_itemMany v_farmMany v_farmCells out.2.1 out.2.2.1 out.2.2.2 v_down v_along v_widths v_sizes v_numbers) s.heap.size out.1) args s 0 0 (va_A wc0 s.heap.size)) (F0 m 62 ls []) := by
  intro n
  induction n with
  | zero => intro x2 x3 v_now hf; exact knone hf
  | succ n ih => intro x2 x3 v_now hf H locs ls hV hl; exact tb_M_read_1 X ih hf hV hl
set_option maxHeartbeats 2000000 in
set_option maxRecDepth 20000 in
theorem t_M_read {l : Launch} {p : Program} {e : Env} {s : State} {m : MethodId} {args : Array Value} {below : List Frame} {meth : Method} {c : Code} {D : kD} {wc0 : va_W} {h : Nat} {h_now : Nat} {h_kept : Nat} {h_aside : Nat} {h_found : Nat} {h_down : Nat} {h_along : Nat} {h_parts : Nat} {h_gone : Nat} {h_tape : Nat} {h_kinds : Nat} {h_items : Nat} {h_widths : Nat} {h_sizes : Nat} {h_numbers : Nat} {h_moved : Nat} {v_isKept : Int32} {v_taped : Int32} {v_begins : Int32} {v_ends : Int32} {v_sort : Int32} {v_value : Int32} {v_isWrong : Int32} {v_itemMany : Int32} {v_farmMany : Int32} {v_farmCells : Int64} {v_now : Nat → Int32} {v_aside : Nat → Int32} {v_found : Nat → Int32} {v_down : Nat → Int32} {v_along : Nat → Int32} {v_widths : Nat → Int32} {v_sizes : Nat → Int32} {v_numbers : Nat → Int64} {x1 : Int32} {out : Int32 × (Nat → Int32) × (Nat → Int32) × (Nat → Int32)} (X : kX p m meth c s args D (va_A wc0 s.heap.size) b_M_read "MountainFarmsModel" 4 (some .int)) (hf : f_M_read v_now v_aside v_found v_down v_along v_widths v_sizes v_numbers x1 = some out) {H : Heap} {locs : List Loc} (hV : kV D (va_A wc0 s.heap.size) s (wd_M_read D h h_now h_kept h_aside h_found h_down h_along h_parts h_gone h_tape h_kinds h_items h_widths h_sizes h_numbers h_moved v_isKept v_taped v_begins v_ends v_sort v_value v_isWrong v_itemMany v_farmMany v_farmCells v_now v_aside v_found v_down v_along v_widths v_sizes v_numbers) H locs) {ls : Array Slot} (hl : lv_has ls 4 [(0, .ref h), (1, .int x1)]) : W p l e { frames := 7, cells := 0, slots := 0, locals := 169 } s m args below meth c H locs 0 0 (MQ below (kQi D wc0 (wd_M_read D h h_now h_kept h_aside h_found h_down h_along h_parts h_gone h_tape h_kinds h_items h_widths h_sizes h_numbers h_moved v_isKept v_taped v_begins v_ends v_sort v_value v_isWrong v_itemMany v_farmMany v_farmCells out.2.1 out.2.2.1 out.2.2.2 v_down v_along v_widths v_sizes v_numbers) s.heap.size out.1) args s 0 0 (va_A wc0 s.heap.size)) (F0 m 0 ls []) := by
  unfold f_M_read at hf
  obtain ⟨hx, hb, -⟩ := id X
  refine lv_iload_n hx hb d_M_read_0 rfl (lv_at hl 1 rfl) ?_
  obtain ⟨r_31, hc_32, hf⟩ := kb1_some hf
  refine k_csi (w1 := (wd_M_isSheet D)) (r := r_31) (ws' := (wd_M_read D h h_now h_kept h_aside h_found h_down h_along h_parts h_gone h_tape h_kinds h_items h_widths h_sizes h_numbers h_moved v_isKept v_taped v_begins v_ends v_sort v_value v_isWrong v_itemMany v_farmMany v_farmCells v_now v_aside v_found v_down v_along v_widths v_sizes v_numbers)) X hV hl.1 (c_M_isSheet D x1 hc_32) fk_M_isSheet gw_1326 rfl [] [none, none, none, none, none, none, none, none, none] rfl rfl ⟨rfl, rfl, rfl, rfl, rfl, rfl, rfl, rfl, rfl, trivial⟩ rfl rfl rfl d_M_read_1 (fun H locs hV => ?_)
  refine lv_if_ne (tgt := 14) hx hb d_M_read_4 (by decide) (fun c_33 => ?_) (fun c_33 => ?_)
  · replace hf := kifn c_33 hf
    refine lv_aload_n hx hb d_M_read_14 rfl (lv_at hl 0 rfl) ?_
    refine k_get X hV 0 9 21 rfl rfl rfl gw_908 rfl rfl d_M_read_15 ?_
    refine lv_iload_n hx hb d_M_read_18 rfl (lv_at hl 1 rfl) ?_
    obtain ⟨h_34, hf⟩ := kidx_some hf
    refine k_iald X hV 6 rfl h_34 rfl d_M_read_19 ?_
    refine lv_if_ne (tgt := 31) hx hb d_M_read_20 (by decide) (fun c_35 => ?_) (fun c_35 => ?_)
    · replace hf := kifn c_35 hf
      refine lv_aload_n hx hb d_M_read_31 rfl (lv_at hl 0 rfl) ?_
      refine lv_bipush (v := 40) hx hb d_M_read_32 bp_40 ?_
      obtain ⟨r_36, hc_37, hf⟩ := kb1_some hf
      refine k_cvi (w1 := (wd_M_isTooLate D h h_now h_kept h_aside h_found h_down h_along h_parts h_gone h_tape h_kinds h_items h_widths h_sizes h_numbers h_moved v_isKept v_taped v_begins v_ends v_sort v_value v_isWrong v_itemMany v_farmMany v_farmCells v_now)) (r := r_36) (ws' := (wd_M_read D h h_now h_kept h_aside h_found h_down h_along h_parts h_gone h_tape h_kinds h_items h_widths h_sizes h_numbers h_moved v_isKept v_taped v_begins v_ends v_sort v_value v_isWrong v_itemMany v_farmMany v_farmCells v_now v_aside v_found v_down v_along v_widths v_sizes v_numbers)) X hV hl.1 (c_M_isTooLate D h h_now h_kept h_aside h_found h_down h_along h_parts h_gone h_tape h_kinds h_items h_widths h_sizes h_numbers h_moved v_isKept v_taped v_begins v_ends v_sort v_value v_isWrong v_itemMany v_farmMany v_farmCells v_now (40 : Int32) hc_37) fk_M_isTooLate gw_1195 rfl 0 9 rfl rfl [0, 1] [some 0, some 1, none, none, none, none, none, none, none] rfl rfl ⟨rfl, rfl, rfl, rfl, rfl, rfl, rfl, rfl, rfl, rfl, rfl, rfl, rfl, trivial⟩ rfl rfl rfl d_M_read_34 (fun H locs hV => ?_)
      refine lv_if_eq (tgt := 47) hx hb d_M_read_37 (by decide) (fun c_38 => ?_) (fun c_38 => ?_)
      · replace hf := kifp c_38 hf
        refine lv_aload_n hx hb d_M_read_47 rfl (lv_at hl 0 rfl) ?_
        refine k_get X hV 0 9 0 rfl rfl rfl gw_887 rfl rfl d_M_read_48 ?_
        refine lv_aload_n hx hb d_M_read_51 rfl (lv_at hl 0 rfl) ?_
        refine k_get X hV 0 9 2 rfl rfl rfl gw_889 rfl rfl d_M_read_52 ?_
        obtain ⟨v_aside_39, hc_40, hf⟩ := kb1_some hf
        refine k_csv (w1 := (wd_M_copyRow D h_now h_aside v_now v_aside_39)) (ws' := (wd_M_read D h h_now h_kept h_aside h_found h_down h_along h_parts h_gone h_tape h_kinds h_items h_widths h_sizes h_numbers h_moved v_isKept v_taped v_begins v_ends v_sort v_value v_isWrong v_itemMany v_farmMany v_farmCells v_now v_aside_39 v_found v_down v_along v_widths v_sizes v_numbers)) X hV hl.1 (c_M_copyRow D h_now h_aside v_now v_aside hc_40) fk_M_copyRow gw_1145 rfl [1, 2] [none, some 0, some 1, none, none, none, none, none, none] rfl rfl ⟨rfl, rfl, rfl, rfl, rfl, rfl, rfl, rfl, rfl, rfl, rfl, rfl, rfl, trivial⟩ rfl rfl rfl d_M_read_55 (fun H locs hV => ?_)
        refine lv_iconst (v := 0) hx hb d_M_read_58 ic_0 ?_
        refine lv_istore_n (lv' := [(2, .int (0 : Int32)), (0, .ref h), (1, .int x1)]) hx hb d_M_read_59 rfl hl (by decide) rfl (fun ls hl => ?_)
        refine lv_iconst (v := 0) hx hb d_M_read_60 ic_0 ?_
        refine lv_istore_n (lv' := [(3, .int (0 : Int32)), (2, .int (0 : Int32)), (0, .ref h), (1, .int x1)]) hx hb d_M_read_61 rfl hl (by decide) rfl (fun ls hl => ?_)
        exact tl_M_read_1 X _ _ _ _ hf _ _ _ hV (lv_sub hl [2, 3, 1, 0] rfl)
      replace hf := kifn c_38 hf
      refine lv_aload_n hx hb d_M_read_40 rfl (lv_at hl 0 rfl) ?_
      refine k_ldc (v := (-1000000005)) X gw_1025 d_M_read_41 ?_
      obtain ⟨r_41, v_found_42, hc_43, hf⟩ := kb2_some hf
      refine k_cvi (w1 := (wd_M_finding D h h_now h_kept h_aside h_found h_down h_along h_parts h_gone h_tape h_kinds h_items h_widths h_sizes h_numbers h_moved v_isKept v_taped v_begins v_ends v_sort v_value v_isWrong v_itemMany v_farmMany v_farmCells v_found_42)) (r := r_41) (ws' := (wd_M_read D h h_now h_kept h_aside h_found h_down h_along h_parts h_gone h_tape h_kinds h_items h_widths h_sizes h_numbers h_moved v_isKept v_taped v_begins v_ends v_sort v_value v_isWrong v_itemMany v_farmMany v_farmCells v_now v_aside v_found_42 v_down v_along v_widths v_sizes v_numbers)) X hV hl.1 (c_M_finding D h h_now h_kept h_aside h_found h_down h_along h_parts h_gone h_tape h_kinds h_items h_widths h_sizes h_numbers h_moved v_isKept v_taped v_begins v_ends v_sort v_value v_isWrong v_itemMany v_farmMany v_farmCells v_found (-1000000005 : Int32) hc_43) fk_M_finding gw_974 rfl 0 9 rfl rfl [0, 3] [some 0, none, none, some 1, none, none, none, none, none] rfl rfl ⟨rfl, rfl, rfl, rfl, rfl, rfl, rfl, rfl, rfl, rfl, rfl, rfl, rfl, trivial⟩ rfl rfl rfl d_M_read_43 (fun H locs hV => ?_)
      have e_ := Option.some.inj hf
      subst e_
      exact k_iret X rfl hV rfl d_M_read_46
    replace hf := kifp c_35 hf
    refine lv_aload_n hx hb d_M_read_23 rfl (lv_at hl 0 rfl) ?_
    refine k_ldcw (v := (-1000000006)) X gw_1334 d_M_read_24 ?_
    obtain ⟨r_44, v_found_45, hc_46, hf⟩ := kb2_some hf
    refine k_cvi (w1 := (wd_M_finding D h h_now h_kept h_aside h_found h_down h_along h_parts h_gone h_tape h_kinds h_items h_widths h_sizes h_numbers h_moved v_isKept v_taped v_begins v_ends v_sort v_value v_isWrong v_itemMany v_farmMany v_farmCells v_found_45)) (r := r_44) (ws' := (wd_M_read D h h_now h_kept h_aside h_found h_down h_along h_parts h_gone h_tape h_kinds h_items h_widths h_sizes h_numbers h_moved v_isKept v_taped v_begins v_ends v_sort v_value v_isWrong v_itemMany v_farmMany v_farmCells v_now v_aside v_found_45 v_down v_along v_widths v_sizes v_numbers)) X hV hl.1 (c_M_finding D h h_now h_kept h_aside h_found h_down h_along h_parts h_gone h_tape h_kinds h_items h_widths h_sizes h_numbers h_moved v_isKept v_taped v_begins v_ends v_sort v_value v_isWrong v_itemMany v_farmMany v_farmCells v_found (-1000000006 : Int32) hc_46) fk_M_finding gw_974 rfl 0 9 rfl rfl [0, 3] [some 0, none, none, some 1, none, none, none, none, none] rfl rfl ⟨rfl, rfl, rfl, rfl, rfl, rfl, rfl, rfl, rfl, rfl, rfl, rfl, rfl, trivial⟩ rfl rfl rfl d_M_read_27 (fun H locs hV => ?_)
    have e_ := Option.some.inj hf
    subst e_
    exact k_iret X rfl hV rfl d_M_read_30
  replace hf := kifp c_33 hf
  refine lv_aload_n hx hb d_M_read_7 rfl (lv_at hl 0 rfl) ?_
  refine k_ldc (v := (-1000000001)) X gw_973 d_M_read_8 ?_
  obtain ⟨r_47, v_found_48, hc_49, hf⟩ := kb2_some hf
  refine k_cvi (w1 := (wd_M_finding D h h_now h_kept h_aside h_found h_down h_along h_parts h_gone h_tape h_kinds h_items h_widths h_sizes h_numbers h_moved v_isKept v_taped v_begins v_ends v_sort v_value v_isWrong v_itemMany v_farmMany v_farmCells v_found_48)) (r := r_47) (ws' := (wd_M_read D h h_now h_kept h_aside h_found h_down h_along h_parts h_gone h_tape h_kinds h_items h_widths h_sizes h_numbers h_moved v_isKept v_taped v_begins v_ends v_sort v_value v_isWrong v_itemMany v_farmMany v_farmCells v_now v_aside v_found_48 v_down v_along v_widths v_sizes v_numbers)) X hV hl.1 (c_M_finding D h h_now h_kept h_aside h_found h_down h_along h_parts h_gone h_tape h_kinds h_items h_widths h_sizes h_numbers h_moved v_isKept v_taped v_begins v_ends v_sort v_value v_isWrong v_itemMany v_farmMany v_farmCells v_found (-1000000001 : Int32) hc_49) fk_M_finding gw_974 rfl 0 9 rfl rfl [0, 3] [some 0, none, none, some 1, none, none, none, none, none] rfl rfl ⟨rfl, rfl, rfl, rfl, rfl, rfl, rfl, rfl, rfl, rfl, rfl, rfl, rfl, trivial⟩ rfl rfl rfl d_M_read_10 (fun H locs hV => ?_)
  have e_ := Option.some.inj hf
  subst e_
  exact k_iret X rfl hV rfl d_M_read_13
set_option maxHeartbeats 2000000 in
set_option maxRecDepth 20000 in
theorem c_M_read {l : Launch} (D : kD) (h : Nat) (h_now : Nat) (h_kept : Nat) (h_aside : Nat) (h_found : Nat) (h_down : Nat) (h_along : Nat) (h_parts : Nat) (h_gone : Nat) (h_tape : Nat) (h_kinds : Nat) (h_items : Nat) (h_widths : Nat) (h_sizes : Nat) (h_numbers : Nat) (h_moved : Nat) (v_isKept : Int32) (v_taped : Int32) (v_begins : Int32) (v_ends : Int32) (v_sort : Int32) (v_value : Int32) (v_isWrong : Int32) (v_itemMany : Int32) (v_farmMany : Int32) (v_farmCells : Int64) (v_now : Nat → Int32) (v_aside : Nat → Int32) (v_found : Nat → Int32) (v_down : Nat → Int32) (v_along : Nat → Int32) (v_widths : Nat → Int32) (v_sizes : Nat → Int32) (v_numbers : Nat → Int64) (x1 : Int32) {out : Int32 × (Nat → Int32) × (Nat → Int32) × (Nat → Int32)} (hf : f_M_read v_now v_aside v_found v_down v_along v_widths v_sizes v_numbers x1 = some out) : kMi l D y_M_read b_M_read 4 (some .int) { frames := 7, cells := 0, slots := 0, locals := 169 } [.ref h, .int x1] (wd_M_read D h h_now h_kept h_aside h_found h_down h_along h_parts h_gone h_tape h_kinds h_items h_widths h_sizes h_numbers h_moved v_isKept v_taped v_begins v_ends v_sort v_value v_isWrong v_itemMany v_farmMany v_farmCells v_now v_aside v_found v_down v_along v_widths v_sizes v_numbers) (wd_M_read D h h_now h_kept h_aside h_found h_down h_along h_parts h_gone h_tape h_kinds h_items h_widths h_sizes h_numbers h_moved v_isKept v_taped v_begins v_ends v_sort v_value v_isWrong v_itemMany v_farmMany v_farmCells out.2.1 out.2.2.1 out.2.2.2 v_down v_along v_widths v_sizes v_numbers) out.1 :=
  kMi_of (own := "MountainFarmsModel") (plainFor_of_name (by decide)) rfl rfl (fun p e s m args below meth c ls X hV hl => t_M_read X hf hV hl)
set_option maxHeartbeats 2000000 in
set_option maxRecDepth 20000 in
theorem t_M_image {l : Launch} {p : Program} {e : Env} {s : State} {m : MethodId} {args : Array Value} {below : List Frame} {meth : Method} {c : Code} {D : kD} {wc0 : va_W} {h : Nat} {h_now : Nat} {h_kept : Nat} {h_aside : Nat} {h_found : Nat} {h_down : Nat} {h_along : Nat} {h_parts : Nat} {h_gone : Nat} {h_tape : Nat} {h_kinds : Nat} {h_items : Nat} {h_widths : Nat} {h_sizes : Nat} {h_numbers : Nat} {h_moved : Nat} {v_isKept : Int32} {v_taped : Int32} {v_begins : Int32} {v_ends : Int32} {v_sort : Int32} {v_value : Int32} {v_isWrong : Int32} {v_itemMany : Int32} {v_farmMany : Int32} {v_farmCells : Int64} {v_now : Nat → Int32} {v_kept : Nat → Int32} {out : Int32 × Int32 × (Nat → Int32)} (X : kX p m meth c s args D (va_A wc0 s.heap.size) b_M_image "MountainFarmsModel" 1 (some .int)) (hf : f_M_image v_isKept v_now v_kept = some out) {H : Heap} {locs : List Loc} (hV : kV D (va_A wc0 s.heap.size) s (wd_M_image D h h_now h_kept h_aside h_found h_down h_along h_parts h_gone h_tape h_kinds h_items h_widths h_sizes h_numbers h_moved v_isKept v_taped v_begins v_ends v_sort v_value v_isWrong v_itemMany v_farmMany v_farmCells v_now v_kept) H locs) {ls : Array Slot} (hl : lv_has ls 1 [(0, .ref h)]) : W p l e { frames := 1, cells := 0, slots := 0, locals := 22 } s m args below meth c H locs 0 0 (MQ below (kQi D wc0 (wd_M_image D h h_now h_kept h_aside h_found h_down h_along h_parts h_gone h_tape h_kinds h_items h_widths h_sizes h_numbers h_moved out.2.1 v_taped v_begins v_ends v_sort v_value v_isWrong v_itemMany v_farmMany v_farmCells v_now out.2.2) s.heap.size out.1) args s 0 0 (va_A wc0 s.heap.size)) (F0 m 0 ls []) := by
  unfold f_M_image at hf
  obtain ⟨hx, hb, -⟩ := id X
  refine lv_aload_n hx hb d_M_image_0 rfl (lv_at hl 0 rfl) ?_
  refine k_get X hV 0 9 0 rfl rfl rfl gw_887 rfl rfl d_M_image_1 ?_
  refine lv_aload_n hx hb d_M_image_4 rfl (lv_at hl 0 rfl) ?_
  refine k_get X hV 0 9 1 rfl rfl rfl gw_888 rfl rfl d_M_image_5 ?_
  obtain ⟨v_kept_3, hc_4, hf⟩ := kb1_some hf
  refine k_csv (w1 := (wd_M_copyRow D h_now h_kept v_now v_kept_3)) (ws' := (wd_M_image D h h_now h_kept h_aside h_found h_down h_along h_parts h_gone h_tape h_kinds h_items h_widths h_sizes h_numbers h_moved v_isKept v_taped v_begins v_ends v_sort v_value v_isWrong v_itemMany v_farmMany v_farmCells v_now v_kept_3)) X hV hl.1 (c_M_copyRow D h_now h_kept v_now v_kept hc_4) fk_M_copyRow gw_1145 rfl [1, 2] [none, some 0, some 1] rfl rfl ⟨rfl, rfl, rfl, rfl, rfl, rfl, rfl, trivial⟩ rfl rfl rfl d_M_image_8 (fun H locs hV => ?_)
  refine lv_aload_n hx hb d_M_image_11 rfl (lv_at hl 0 rfl) ?_
  refine lv_iconst (v := 1) hx hb d_M_image_12 ic_1 ?_
  refine k_putv (ty := .boolean) (ws' := (wd_M_image D h h_now h_kept h_aside h_found h_down h_along h_parts h_gone h_tape h_kinds h_items h_widths h_sizes h_numbers h_moved (1 : Int32) v_taped v_begins v_ends v_sort v_value v_isWrong v_itemMany v_farmMany v_farmCells v_now v_kept_3)) X hV 0 9 3 rfl rfl rfl gw_890 rfl rfl rfl rfl rfl rfl rfl d_M_image_13 (fun H locs hV => ?_)
  refine lv_iconst (v := 1) hx hb d_M_image_16 ic_1 ?_
  have e_ := Option.some.inj hf
  subst e_
  exact k_iret X rfl hV rfl d_M_image_17
set_option maxHeartbeats 2000000 in
set_option maxRecDepth 20000 in
theorem c_M_image {l : Launch} (D : kD) (h : Nat) (h_now : Nat) (h_kept : Nat) (h_aside : Nat) (h_found : Nat) (h_down : Nat) (h_along : Nat) (h_parts : Nat) (h_gone : Nat) (h_tape : Nat) (h_kinds : Nat) (h_items : Nat) (h_widths : Nat) (h_sizes : Nat) (h_numbers : Nat) (h_moved : Nat) (v_isKept : Int32) (v_taped : Int32) (v_begins : Int32) (v_ends : Int32) (v_sort : Int32) (v_value : Int32) (v_isWrong : Int32) (v_itemMany : Int32) (v_farmMany : Int32) (v_farmCells : Int64) (v_now : Nat → Int32) (v_kept : Nat → Int32) {out : Int32 × Int32 × (Nat → Int32)} (hf : f_M_image v_isKept v_now v_kept = some out) : kMi l D y_M_image b_M_image 1 (some .int) { frames := 1, cells := 0, slots := 0, locals := 22 } [.ref h] (wd_M_image D h h_now h_kept h_aside h_found h_down h_along h_parts h_gone h_tape h_kinds h_items h_widths h_sizes h_numbers h_moved v_isKept v_taped v_begins v_ends v_sort v_value v_isWrong v_itemMany v_farmMany v_farmCells v_now v_kept) (wd_M_image D h h_now h_kept h_aside h_found h_down h_along h_parts h_gone h_tape h_kinds h_items h_widths h_sizes h_numbers h_moved out.2.1 v_taped v_begins v_ends v_sort v_value v_isWrong v_itemMany v_farmMany v_farmCells v_now out.2.2) out.1 :=
  kMi_of (own := "MountainFarmsModel") (plainFor_of_name (by decide)) rfl rfl (fun p e s m args below meth c ls X hV hl => t_M_image X hf hV hl)
set_option maxHeartbeats 2000000 in
set_option maxRecDepth 20000 in
theorem t_M_undo {l : Launch} {p : Program} {e : Env} {s : State} {m : MethodId} {args : Array Value} {below : List Frame} {meth : Method} {c : Code} {D : kD} {wc0 : va_W} {h : Nat} {h_now : Nat} {h_kept : Nat} {h_aside : Nat} {h_found : Nat} {h_down : Nat} {h_along : Nat} {h_parts : Nat} {h_gone : Nat} {h_tape : Nat} {h_kinds : Nat} {h_items : Nat} {h_widths : Nat} {h_sizes : Nat} {h_numbers : Nat} {h_moved : Nat} {v_isKept : Int32} {v_taped : Int32} {v_begins : Int32} {v_ends : Int32} {v_sort : Int32} {v_value : Int32} {v_isWrong : Int32} {v_itemMany : Int32} {v_farmMany : Int32} {v_farmCells : Int64} {v_now : Nat → Int32} {v_kept : Nat → Int32} {v_found : Nat → Int32} {out : Int32 × (Nat → Int32) × (Nat → Int32)} (X : kX p m meth c s args D (va_A wc0 s.heap.size) b_M_undo "MountainFarmsModel" 1 (some .int)) (hf : f_M_undo v_isKept v_now v_kept v_found = some out) {H : Heap} {locs : List Loc} (hV : kV D (va_A wc0 s.heap.size) s (wd_M_undo D h h_now h_kept h_aside h_found h_down h_along h_parts h_gone h_tape h_kinds h_items h_widths h_sizes h_numbers h_moved v_isKept v_taped v_begins v_ends v_sort v_value v_isWrong v_itemMany v_farmMany v_farmCells v_now v_kept v_found) H locs) {ls : Array Slot} (hl : lv_has ls 1 [(0, .ref h)]) : W p l e { frames := 1, cells := 0, slots := 0, locals := 22 } s m args below meth c H locs 0 0 (MQ below (kQi D wc0 (wd_M_undo D h h_now h_kept h_aside h_found h_down h_along h_parts h_gone h_tape h_kinds h_items h_widths h_sizes h_numbers h_moved v_isKept v_taped v_begins v_ends v_sort v_value v_isWrong v_itemMany v_farmMany v_farmCells out.2.1 v_kept out.2.2) s.heap.size out.1) args s 0 0 (va_A wc0 s.heap.size)) (F0 m 0 ls []) := by
  unfold f_M_undo at hf
  obtain ⟨hx, hb, -⟩ := id X
  refine lv_aload_n hx hb d_M_undo_0 rfl (lv_at hl 0 rfl) ?_
  refine k_get X hV 0 9 3 rfl rfl rfl gw_890 rfl rfl d_M_undo_1 ?_
  refine lv_if_ne (tgt := 14) hx hb d_M_undo_4 (by decide) (fun c_7 => ?_) (fun c_7 => ?_)
  · replace hf := kifn c_7 hf
    refine lv_aload_n hx hb d_M_undo_14 rfl (lv_at hl 0 rfl) ?_
    refine k_get X hV 0 9 1 rfl rfl rfl gw_888 rfl rfl d_M_undo_15 ?_
    refine lv_aload_n hx hb d_M_undo_18 rfl (lv_at hl 0 rfl) ?_
    refine k_get X hV 0 9 0 rfl rfl rfl gw_887 rfl rfl d_M_undo_19 ?_
    obtain ⟨v_now_8, hc_9, hf⟩ := kb1_some hf
    refine k_csv (w1 := (wd_M_copyRow D h_kept h_now v_kept v_now_8)) (ws' := (wd_M_undo D h h_now h_kept h_aside h_found h_down h_along h_parts h_gone h_tape h_kinds h_items h_widths h_sizes h_numbers h_moved v_isKept v_taped v_begins v_ends v_sort v_value v_isWrong v_itemMany v_farmMany v_farmCells v_now_8 v_kept v_found)) X hV hl.1 (c_M_copyRow D h_kept h_now v_kept v_now hc_9) fk_M_copyRow gw_1145 rfl [2, 1] [none, some 1, some 0, none] rfl rfl ⟨rfl, rfl, rfl, rfl, rfl, rfl, rfl, rfl, trivial⟩ rfl rfl rfl d_M_undo_22 (fun H locs hV => ?_)
    refine lv_aload_n hx hb d_M_undo_25 rfl (lv_at hl 0 rfl) ?_
    refine k_get X hV 0 9 0 rfl rfl rfl gw_887 rfl rfl d_M_undo_26 ?_
    refine lv_bipush (v := 10) hx hb d_M_undo_29 bp_10 ?_
    refine k_iald X hV 1 rfl kin_10_218 kln_10 d_M_undo_31 ?_
    have e_ := Option.some.inj hf
    subst e_
    exact k_iret X rfl hV rfl d_M_undo_32
  replace hf := kifp c_7 hf
  refine lv_aload_n hx hb d_M_undo_7 rfl (lv_at hl 0 rfl) ?_
  refine k_ldc (v := (-1000000004)) X gw_1123 d_M_undo_8 ?_
  obtain ⟨r_10, v_found_11, hc_12, hf⟩ := kb2_some hf
  refine k_cvi (w1 := (wd_M_finding D h h_now h_kept h_aside h_found h_down h_along h_parts h_gone h_tape h_kinds h_items h_widths h_sizes h_numbers h_moved v_isKept v_taped v_begins v_ends v_sort v_value v_isWrong v_itemMany v_farmMany v_farmCells v_found_11)) (r := r_10) (ws' := (wd_M_undo D h h_now h_kept h_aside h_found h_down h_along h_parts h_gone h_tape h_kinds h_items h_widths h_sizes h_numbers h_moved v_isKept v_taped v_begins v_ends v_sort v_value v_isWrong v_itemMany v_farmMany v_farmCells v_now v_kept v_found_11)) X hV hl.1 (c_M_finding D h h_now h_kept h_aside h_found h_down h_along h_parts h_gone h_tape h_kinds h_items h_widths h_sizes h_numbers h_moved v_isKept v_taped v_begins v_ends v_sort v_value v_isWrong v_itemMany v_farmMany v_farmCells v_found (-1000000004 : Int32) hc_12) fk_M_finding gw_974 rfl 0 9 rfl rfl [0, 3] [some 0, none, none, some 1] rfl rfl ⟨rfl, rfl, rfl, rfl, rfl, rfl, rfl, rfl, trivial⟩ rfl rfl rfl d_M_undo_10 (fun H locs hV => ?_)
  have e_ := Option.some.inj hf
  subst e_
  exact k_iret X rfl hV rfl d_M_undo_13
set_option maxHeartbeats 2000000 in
set_option maxRecDepth 20000 in
theorem c_M_undo {l : Launch} (D : kD) (h : Nat) (h_now : Nat) (h_kept : Nat) (h_aside : Nat) (h_found : Nat) (h_down : Nat) (h_along : Nat) (h_parts : Nat) (h_gone : Nat) (h_tape : Nat) (h_kinds : Nat) (h_items : Nat) (h_widths : Nat) (h_sizes : Nat) (h_numbers : Nat) (h_moved : Nat) (v_isKept : Int32) (v_taped : Int32) (v_begins : Int32) (v_ends : Int32) (v_sort : Int32) (v_value : Int32) (v_isWrong : Int32) (v_itemMany : Int32) (v_farmMany : Int32) (v_farmCells : Int64) (v_now : Nat → Int32) (v_kept : Nat → Int32) (v_found : Nat → Int32) {out : Int32 × (Nat → Int32) × (Nat → Int32)} (hf : f_M_undo v_isKept v_now v_kept v_found = some out) : kMi l D y_M_undo b_M_undo 1 (some .int) { frames := 1, cells := 0, slots := 0, locals := 22 } [.ref h] (wd_M_undo D h h_now h_kept h_aside h_found h_down h_along h_parts h_gone h_tape h_kinds h_items h_widths h_sizes h_numbers h_moved v_isKept v_taped v_begins v_ends v_sort v_value v_isWrong v_itemMany v_farmMany v_farmCells v_now v_kept v_found) (wd_M_undo D h h_now h_kept h_aside h_found h_down h_along h_parts h_gone h_tape h_kinds h_items h_widths h_sizes h_numbers h_moved v_isKept v_taped v_begins v_ends v_sort v_value v_isWrong v_itemMany v_farmMany v_farmCells out.2.1 v_kept out.2.2) out.1 :=
  kMi_of (own := "MountainFarmsModel") (plainFor_of_name (by decide)) rfl rfl (fun p e s m args below meth c ls X hV hl => t_M_undo X hf hV hl)
set_option maxHeartbeats 2000000 in
set_option maxRecDepth 20000 in
theorem t_M_tear_1 {l : Launch} {p : Program} {e : Env} {s : State} {m : MethodId} {args : Array Value} {below : List Frame} {meth : Method} {c : Code} {D : kD} {wc0 : va_W} {h : Nat} {h_now : Nat} {h_kept : Nat} {h_aside : Nat} {h_found : Nat} {h_down : Nat} {h_along : Nat} {h_parts : Nat} {h_gone : Nat} {h_tape : Nat} {h_kinds : Nat} {h_items : Nat} {h_widths : Nat} {h_sizes : Nat} {h_numbers : Nat} {h_moved : Nat} {v_isKept : Int32} {v_taped : Int32} {v_begins : Int32} {v_ends : Int32} {v_sort : Int32} {v_value : Int32} {v_isWrong : Int32} {v_itemMany : Int32} {v_farmMany : Int32} {v_farmCells : Int64} {s0 : Int32} {out : Int32 × Int32} (X : kX p m meth c s args D (va_A wc0 s.heap.size) b_M_tear "MountainFarmsModel" 2 (some .int)) (hf : f_M_tear_1 s0 v_isKept = some out) {H : Heap} {locs : List Loc} (hV : kV D (va_A wc0 s.heap.size) s (wd_M_tear D h h_now h_kept h_aside h_found h_down h_along h_parts h_gone h_tape h_kinds h_items h_widths h_sizes h_numbers h_moved v_isKept v_taped v_begins v_ends v_sort v_value v_isWrong v_itemMany v_farmMany v_farmCells) H locs) {ls : Array Slot} (hl : lv_has ls 2 [(0, .ref h)]) : W p l e { frames := 0, cells := 0, slots := 0, locals := 0 } s m args below meth c H locs 0 0 (MQ below (kQi D wc0 (wd_M_tear D h h_now h_kept h_aside h_found h_down h_along h_parts h_gone h_tape h_kinds h_items h_widths h_sizes h_numbers h_moved out.2 v_taped v_begins v_ends v_sort v_value v_isWrong v_itemMany v_farmMany v_farmCells) s.heap.size out.1) args s 0 0 (va_A wc0 s.heap.size)) (F0 m 12 ls [.int s0]) := by
  unfold f_M_tear_1 at hf
  obtain ⟨hx, hb, -⟩ := id X
  refine lv_istore_n (lv' := [(1, .int s0), (0, .ref h)]) hx hb d_M_tear_12 rfl hl (by decide) rfl (fun ls hl => ?_)
  refine lv_aload_n hx hb d_M_tear_13 rfl (lv_at hl 1 rfl) ?_
  refine lv_iconst (v := 0) hx hb d_M_tear_14 ic_0 ?_
  refine k_putv (ty := .boolean) (ws' := (wd_M_tear D h h_now h_kept h_aside h_found h_down h_along h_parts h_gone h_tape h_kinds h_items h_widths h_sizes h_numbers h_moved (0 : Int32) v_taped v_begins v_ends v_sort v_value v_isWrong v_itemMany v_farmMany v_farmCells)) X hV 0 9 3 rfl rfl rfl gw_890 rfl rfl rfl rfl rfl rfl rfl d_M_tear_15 (fun H locs hV => ?_)
  refine lv_iload_n hx hb d_M_tear_18 rfl (lv_at hl 0 rfl) ?_
  have e_ := Option.some.inj hf
  subst e_
  exact k_iret X rfl hV rfl d_M_tear_19
set_option maxHeartbeats 2000000 in
set_option maxRecDepth 20000 in
theorem t_M_tear {l : Launch} {p : Program} {e : Env} {s : State} {m : MethodId} {args : Array Value} {below : List Frame} {meth : Method} {c : Code} {D : kD} {wc0 : va_W} {h : Nat} {h_now : Nat} {h_kept : Nat} {h_aside : Nat} {h_found : Nat} {h_down : Nat} {h_along : Nat} {h_parts : Nat} {h_gone : Nat} {h_tape : Nat} {h_kinds : Nat} {h_items : Nat} {h_widths : Nat} {h_sizes : Nat} {h_numbers : Nat} {h_moved : Nat} {v_isKept : Int32} {v_taped : Int32} {v_begins : Int32} {v_ends : Int32} {v_sort : Int32} {v_value : Int32} {v_isWrong : Int32} {v_itemMany : Int32} {v_farmMany : Int32} {v_farmCells : Int64} {out : Int32 × Int32} (X : kX p m meth c s args D (va_A wc0 s.heap.size) b_M_tear "MountainFarmsModel" 2 (some .int)) (hf : f_M_tear v_isKept = some out) {H : Heap} {locs : List Loc} (hV : kV D (va_A wc0 s.heap.size) s (wd_M_tear D h h_now h_kept h_aside h_found h_down h_along h_parts h_gone h_tape h_kinds h_items h_widths h_sizes h_numbers h_moved v_isKept v_taped v_begins v_ends v_sort v_value v_isWrong v_itemMany v_farmMany v_farmCells) H locs) {ls : Array Slot} (hl : lv_has ls 2 [(0, .ref h)]) : W p l e { frames := 0, cells := 0, slots := 0, locals := 0 } s m args below meth c H locs 0 0 (MQ below (kQi D wc0 (wd_M_tear D h h_now h_kept h_aside h_found h_down h_along h_parts h_gone h_tape h_kinds h_items h_widths h_sizes h_numbers h_moved out.2 v_taped v_begins v_ends v_sort v_value v_isWrong v_itemMany v_farmMany v_farmCells) s.heap.size out.1) args s 0 0 (va_A wc0 s.heap.size)) (F0 m 0 ls []) := by
  unfold f_M_tear at hf
  obtain ⟨hx, hb, -⟩ := id X
  refine lv_aload_n hx hb d_M_tear_0 rfl (lv_at hl 0 rfl) ?_
  refine k_get X hV 0 9 3 rfl rfl rfl gw_890 rfl rfl d_M_tear_1 ?_
  refine lv_if_eq (tgt := 11) hx hb d_M_tear_4 (by decide) (fun c_2 => ?_) (fun c_2 => ?_)
  · replace hf := kifp c_2 hf
    refine lv_iconst (v := 0) hx hb d_M_tear_11 ic_0 ?_
    exact t_M_tear_1 X hf hV (lv_sub hl [0] rfl)
  replace hf := kifn c_2 hf
  refine lv_iconst (v := 1) hx hb d_M_tear_7 ic_1 ?_
  refine lv_goto (tgt := 12) hx hb d_M_tear_8 (by decide) ?_
  exact t_M_tear_1 X hf hV (lv_sub hl [0] rfl)
set_option maxHeartbeats 2000000 in
set_option maxRecDepth 20000 in
theorem c_M_tear {l : Launch} (D : kD) (h : Nat) (h_now : Nat) (h_kept : Nat) (h_aside : Nat) (h_found : Nat) (h_down : Nat) (h_along : Nat) (h_parts : Nat) (h_gone : Nat) (h_tape : Nat) (h_kinds : Nat) (h_items : Nat) (h_widths : Nat) (h_sizes : Nat) (h_numbers : Nat) (h_moved : Nat) (v_isKept : Int32) (v_taped : Int32) (v_begins : Int32) (v_ends : Int32) (v_sort : Int32) (v_value : Int32) (v_isWrong : Int32) (v_itemMany : Int32) (v_farmMany : Int32) (v_farmCells : Int64) {out : Int32 × Int32} (hf : f_M_tear v_isKept = some out) : kMi l D y_M_tear b_M_tear 2 (some .int) { frames := 0, cells := 0, slots := 0, locals := 0 } [.ref h] (wd_M_tear D h h_now h_kept h_aside h_found h_down h_along h_parts h_gone h_tape h_kinds h_items h_widths h_sizes h_numbers h_moved v_isKept v_taped v_begins v_ends v_sort v_value v_isWrong v_itemMany v_farmMany v_farmCells) (wd_M_tear D h h_now h_kept h_aside h_found h_down h_along h_parts h_gone h_tape h_kinds h_items h_widths h_sizes h_numbers h_moved out.2 v_taped v_begins v_ends v_sort v_value v_isWrong v_itemMany v_farmMany v_farmCells) out.1 :=
  kMi_of (own := "MountainFarmsModel") (plainFor_of_name (by decide)) rfl rfl (fun p e s m args below meth c ls X hV hl => t_M_tear X hf hV hl)
set_option maxHeartbeats 2000000 in
set_option maxRecDepth 20000 in
theorem tb_M_count_1 {l : Launch} {p : Program} {e : Env} {s : State} {m : MethodId} {args : Array Value} {below : List Frame} {meth : Method} {c : Code} {D : kD} {wc0 : va_W} {h : Nat} {h_now : Nat} {h_kept : Nat} {h_aside : Nat} {h_found : Nat} {h_down : Nat} {h_along : Nat} {h_parts : Nat} {h_gone : Nat} {h_tape : Nat} {h_kinds : Nat} {h_items : Nat} {h_widths : Nat} {h_sizes : Nat} {h_numbers : Nat} {h_moved : Nat} {v_isKept : Int32} {v_taped : Int32} {v_begins : Int32} {v_ends : Int32} {v_sort : Int32} {v_value : Int32} {v_isWrong : Int32} {v_itemMany : Int32} {v_farmMany : Int32} {v_farmCells : Int64} {v_now : Nat → Int32} {v_found : Nat → Int32} {x2 : Int32} {x3 : Int32} {rec1 : Int32 → Int32 → Option (Int32 × (Nat → Int32))} {out : Int32 × (Nat → Int32)} (X : kX p m meth c s args D (va_A wc0 s.heap.size) b_M_count "MountainFarmsModel" 4 (some .int)) (hrec1 : ∀ (x2 : Int32) (x3 : Int32), rec1 x2 x3 = some out → ∀ (H : Heap) (locs : List Loc) (ls : Array Slot), kV D (va_A wc0 s.heap.size) s (wd_M_count D h h_now h_kept h_aside h_found h_down h_along h_parts h_gone h_tape h_kinds h_items h_widths h_sizes h_numbers h_moved v_isKept v_taped v_begins v_ends v_sort v_value v_isWrong v_itemMany v_farmMany v_farmCells v_now v_found) H locs → lv_has ls 4 [(0, .ref h), (2, .int x2), (3, .int x3)] → W p l e { frames := 1, cells := 0, slots := 0, locals := 22 } s m args below meth c H locs 0 0 (MQ below (kQi D wc0 (wd_M_count D h h_now h_kept h_aside h_found h_down h_along h_parts h_gone h_tape h_kinds h_items h_widths h_sizes h_numbers h_moved v_isKept v_taped v_begins v_ends v_sort v_value v_isWrong v_itemMany v_farmMany v_farmCells v_now out.2) s.heap.size out.1) args s 0 0 (va_A wc0 s.heap.size)) (F0 m 50 ls [])) (hf : fb_M_count_1 rec1 v_now v_found x2 x3 = some out) {H : Heap} {locs : List Loc} (hV : kV D (va_A wc0 s.heap.size) s (wd_M_count D h h_now h_kept h_aside h_found h_down h_along h_parts h_gone h_tape h_kinds h_items h_widths h_sizes h_numbers h_moved v_isKept v_taped v_begins v_ends v_sort v_value v_isWrong v_itemMany v_farmMany v_farmCells v_now v_found) H locs) {ls : Array Slot} (hl : lv_has ls 4 [(0, .ref h), (2, .int x2), (3, .int x3)]) : W p l e { frames := 1, cells := 0, slots := 0, locals := 22 } s m args below meth c H locs 0 0 (MQ below (kQi D wc0 (wd_M_count D h h_now h_kept h_aside h_found h_down h_along h_parts h_gone h_tape h_kinds h_items h_widths h_sizes h_numbers h_moved v_isKept v_taped v_begins v_ends v_sort v_value v_isWrong v_itemMany v_farmMany v_farmCells v_now out.2) s.heap.size out.1) args s 0 0 (va_A wc0 s.heap.size)) (F0 m 50 ls []) := by
  unfold fb_M_count_1 at hf
  obtain ⟨hx, hb, -⟩ := id X
  refine lv_iload_n hx hb d_M_count_50 rfl (lv_at hl 2 rfl) ?_
  refine lv_aload_n hx hb d_M_count_51 rfl (lv_at hl 0 rfl) ?_
  refine k_get X hV 0 9 0 rfl rfl rfl gw_887 rfl rfl d_M_count_52 ?_
  refine lv_bipush (v := 10) hx hb d_M_count_55 bp_10 ?_
  refine k_iald X hV 1 rfl kin_10_218 kln_10 d_M_count_57 ?_
  refine lv_icmp_ge (tgt := 76) hx hb d_M_count_58 (by decide) (fun c_26 => ?_) (fun c_26 => ?_)
  · replace hf := kifp c_26 hf
    refine lv_iload_n hx hb d_M_count_76 rfl (lv_at hl 1 rfl) ?_
    have e_ := Option.some.inj hf
    subst e_
    exact k_iret X rfl hV rfl d_M_count_77
  replace hf := kifn c_26 hf
  refine lv_iload_n hx hb d_M_count_61 rfl (lv_at hl 1 rfl) ?_
  refine lv_aload_n hx hb d_M_count_62 rfl (lv_at hl 0 rfl) ?_
  refine lv_iload_n hx hb d_M_count_63 rfl (lv_at hl 2 rfl) ?_
  refine lv_iconst (v := 4) hx hb d_M_count_64 ic_4 ?_
  obtain ⟨r_27, hc_28, hf⟩ := kb1_some hf
  refine k_cvi (w1 := (wd_M_farmIs D h h_now h_kept h_aside h_found h_down h_along h_parts h_gone h_tape h_kinds h_items h_widths h_sizes h_numbers h_moved v_isKept v_taped v_begins v_ends v_sort v_value v_isWrong v_itemMany v_farmMany v_farmCells v_now)) (r := r_27) (ws' := (wd_M_count D h h_now h_kept h_aside h_found h_down h_along h_parts h_gone h_tape h_kinds h_items h_widths h_sizes h_numbers h_moved v_isKept v_taped v_begins v_ends v_sort v_value v_isWrong v_itemMany v_farmMany v_farmCells v_now v_found)) X hV hl.1 (c_M_farmIs D h h_now h_kept h_aside h_found h_down h_along h_parts h_gone h_tape h_kinds h_items h_widths h_sizes h_numbers h_moved v_isKept v_taped v_begins v_ends v_sort v_value v_isWrong v_itemMany v_farmMany v_farmCells v_now x3 (4 : Int32) hc_28) fk_M_farmIs gw_990 rfl 0 9 rfl rfl [0, 1] [some 0, some 1, none] rfl rfl ⟨rfl, rfl, rfl, rfl, rfl, rfl, rfl, trivial⟩ rfl rfl rfl d_M_count_65 (fun H locs hV => ?_)
  refine lv_iadd hx hb d_M_count_68 ?_
  refine lv_istore_n (lv' := [(2, .int (x2 + r_27)), (0, .ref h), (3, .int x3)]) hx hb d_M_count_69 rfl hl (by decide) rfl (fun ls hl => ?_)
  refine lv_iinc (v := (x3 + 1)) (lv' := [(3, .int (x3 + 1)), (2, .int (x2 + r_27)), (0, .ref h)]) hx hb d_M_count_70 hl (k := 2) rfl rfl (by decide) rfl (fun ls hl => ?_)
  refine lv_goto (tgt := 50) hx hb d_M_count_73 (by decide) ?_
  exact hrec1 _ _ hf _ _ _ hV (lv_sub hl [2, 1, 0] rfl)
set_option maxHeartbeats 2000000 in
set_option maxRecDepth 20000 in
theorem tl_M_count_1 {l : Launch} {p : Program} {e : Env} {s : State} {m : MethodId} {args : Array Value} {below : List Frame} {meth : Method} {c : Code} {D : kD} {wc0 : va_W} {h : Nat} {h_now : Nat} {h_kept : Nat} {h_aside : Nat} {h_found : Nat} {h_down : Nat} {h_along : Nat} {h_parts : Nat} {h_gone : Nat} {h_tape : Nat} {h_kinds : Nat} {h_items : Nat} {h_widths : Nat} {h_sizes : Nat} {h_numbers : Nat} {h_moved : Nat} {v_isKept : Int32} {v_taped : Int32} {v_begins : Int32} {v_ends : Int32} {v_sort : Int32} {v_value : Int32} {v_isWrong : Int32} {v_itemMany : Int32} {v_farmMany : Int32} {v_farmCells : Int64} {v_now : Nat → Int32} {v_found : Nat → Int32} {out : Int32 × (Nat → Int32)} (X : kX p m meth c s args D (va_A wc0 s.heap.size) b_M_count "MountainFarmsModel" 4 (some .int)) : ∀ (n : Nat) (x2 : Int32) (x3 : Int32), fl_M_count_1 v_now v_found n x2 x3 = some out → ∀ (H : Heap) (locs : List Loc) (ls : Array Slot), kV D (va_A wc0 s.heap.size) s (wd_M_count D h h_now h_kept h_aside h_found h_down h_along h_parts h_gone h_tape h_kinds h_items h_widths h_sizes h_numbers h_moved v_isKept v_taped v_begins v_ends v_sort v_value v_isWrong v_itemMany v_farmMany v_farmCells v_now v_found) H locs → lv_has ls 4 [(0, .ref h), (2, .int x2), (3, .int x3)] → W p l e { frames := 1, cells := 0, slots := 0, locals := 22 } s m args below meth c H locs 0 0 (MQ below (kQi D wc0 (wd_M_count D h h_now h_kept h_aside h_found h_down h_along h_parts h_gone h_tape h_kinds h_items h_widths h_sizes h_numbers h_moved v_isKept v_taped v_begins v_ends v_sort v_value v_isWrong v_itemMany v_farmMany v_farmCells v_now out.2) s.heap.size out.1) args s 0 0 (va_A wc0 s.heap.size)) (F0 m 50 ls []) := by
  intro n
  induction n with
  | zero => intro x2 x3 hf; exact knone hf
  | succ n ih => intro x2 x3 hf H locs ls hV hl; exact tb_M_count_1 X ih hf hV hl
set_option maxHeartbeats 2000000 in
set_option maxRecDepth 20000 in
theorem tb_M_count_2 {l : Launch} {p : Program} {e : Env} {s : State} {m : MethodId} {args : Array Value} {below : List Frame} {meth : Method} {c : Code} {D : kD} {wc0 : va_W} {h : Nat} {h_now : Nat} {h_kept : Nat} {h_aside : Nat} {h_found : Nat} {h_down : Nat} {h_along : Nat} {h_parts : Nat} {h_gone : Nat} {h_tape : Nat} {h_kinds : Nat} {h_items : Nat} {h_widths : Nat} {h_sizes : Nat} {h_numbers : Nat} {h_moved : Nat} {v_isKept : Int32} {v_taped : Int32} {v_begins : Int32} {v_ends : Int32} {v_sort : Int32} {v_value : Int32} {v_isWrong : Int32} {v_itemMany : Int32} {v_farmMany : Int32} {v_farmCells : Int64} {v_now : Nat → Int32} {v_found : Nat → Int32} {x2 : Int32} {x3 : Int32} {rec2 : Int32 → Int32 → Option (Int32 × (Nat → Int32))} {out : Int32 × (Nat → Int32)} (X : kX p m meth c s args D (va_A wc0 s.heap.size) b_M_count "MountainFarmsModel" 4 (some .int)) (hrec2 : ∀ (x2 : Int32) (x3 : Int32), rec2 x2 x3 = some out → ∀ (H : Heap) (locs : List Loc) (ls : Array Slot), kV D (va_A wc0 s.heap.size) s (wd_M_count D h h_now h_kept h_aside h_found h_down h_along h_parts h_gone h_tape h_kinds h_items h_widths h_sizes h_numbers h_moved v_isKept v_taped v_begins v_ends v_sort v_value v_isWrong v_itemMany v_farmMany v_farmCells v_now v_found) H locs → lv_has ls 4 [(0, .ref h), (2, .int x2), (3, .int x3)] → W p l e { frames := 1, cells := 0, slots := 0, locals := 22 } s m args below meth c H locs 0 0 (MQ below (kQi D wc0 (wd_M_count D h h_now h_kept h_aside h_found h_down h_along h_parts h_gone h_tape h_kinds h_items h_widths h_sizes h_numbers h_moved v_isKept v_taped v_begins v_ends v_sort v_value v_isWrong v_itemMany v_farmMany v_farmCells v_now out.2) s.heap.size out.1) args s 0 0 (va_A wc0 s.heap.size)) (F0 m 80 ls [])) (hf : fb_M_count_2 rec2 v_now v_found x2 x3 = some out) {H : Heap} {locs : List Loc} (hV : kV D (va_A wc0 s.heap.size) s (wd_M_count D h h_now h_kept h_aside h_found h_down h_along h_parts h_gone h_tape h_kinds h_items h_widths h_sizes h_numbers h_moved v_isKept v_taped v_begins v_ends v_sort v_value v_isWrong v_itemMany v_farmMany v_farmCells v_now v_found) H locs) {ls : Array Slot} (hl : lv_has ls 4 [(0, .ref h), (2, .int x2), (3, .int x3)]) : W p l e { frames := 1, cells := 0, slots := 0, locals := 22 } s m args below meth c H locs 0 0 (MQ below (kQi D wc0 (wd_M_count D h h_now h_kept h_aside h_found h_down h_along h_parts h_gone h_tape h_kinds h_items h_widths h_sizes h_numbers h_moved v_isKept v_taped v_begins v_ends v_sort v_value v_isWrong v_itemMany v_farmMany v_farmCells v_now out.2) s.heap.size out.1) args s 0 0 (va_A wc0 s.heap.size)) (F0 m 80 ls []) := by
  unfold fb_M_count_2 at hf
  obtain ⟨hx, hb, -⟩ := id X
  refine lv_iload_n hx hb d_M_count_80 rfl (lv_at hl 2 rfl) ?_
  refine lv_bipush (v := 36) hx hb d_M_count_81 bp_36 ?_
  refine lv_icmp_ge (tgt := 107) hx hb d_M_count_83 (by decide) (fun c_29 => ?_) (fun c_29 => ?_)
  · replace hf := kifp c_29 hf
    refine lv_iload_n hx hb d_M_count_107 rfl (lv_at hl 1 rfl) ?_
    refine lv_iconst (v := 2) hx hb d_M_count_108 ic_2 ?_
    refine lv_idiv hx hb d_M_count_109 (by decide) ?_
    have e_ := Option.some.inj hf
    subst e_
    exact k_iret X rfl hV rfl d_M_count_110
  replace hf := kifn c_29 hf
  refine lv_iload_n hx hb d_M_count_86 rfl (lv_at hl 1 rfl) ?_
  refine lv_aload_n hx hb d_M_count_87 rfl (lv_at hl 0 rfl) ?_
  refine k_get X hV 0 9 0 rfl rfl rfl gw_887 rfl rfl d_M_count_88 ?_
  refine lv_bipush (v := 122) hx hb d_M_count_91 bp_122 ?_
  refine lv_iload_n hx hb d_M_count_93 rfl (lv_at hl 2 rfl) ?_
  refine lv_iadd hx hb d_M_count_94 ?_
  obtain ⟨h_30, hf⟩ := kidx_some hf
  refine k_iald X hV 1 rfl h_30 rfl d_M_count_95 ?_
  obtain ⟨r_31, hc_32, hf⟩ := kb1_some hf
  refine k_csi (w1 := (wd_M_bits D)) (r := r_31) (ws' := (wd_M_count D h h_now h_kept h_aside h_found h_down h_along h_parts h_gone h_tape h_kinds h_items h_widths h_sizes h_numbers h_moved v_isKept v_taped v_begins v_ends v_sort v_value v_isWrong v_itemMany v_farmMany v_farmCells v_now v_found)) X hV hl.1 (c_M_bits D (v_now ((122 : Int32) + x3).toNatClampNeg) hc_32) fk_M_bits gw_1180 rfl [] [none, none, none] rfl rfl ⟨rfl, rfl, rfl, trivial⟩ rfl rfl rfl d_M_count_96 (fun H locs hV => ?_)
  refine lv_iadd hx hb d_M_count_99 ?_
  refine lv_istore_n (lv' := [(2, .int (x2 + r_31)), (0, .ref h), (3, .int x3)]) hx hb d_M_count_100 rfl hl (by decide) rfl (fun ls hl => ?_)
  refine lv_iinc (v := (x3 + 1)) (lv' := [(3, .int (x3 + 1)), (2, .int (x2 + r_31)), (0, .ref h)]) hx hb d_M_count_101 hl (k := 2) rfl rfl (by decide) rfl (fun ls hl => ?_)
  refine lv_goto (tgt := 80) hx hb d_M_count_104 (by decide) ?_
  exact hrec2 _ _ hf _ _ _ hV (lv_sub hl [2, 1, 0] rfl)
set_option maxHeartbeats 2000000 in
set_option maxRecDepth 20000 in
theorem tl_M_count_2 {l : Launch} {p : Program} {e : Env} {s : State} {m : MethodId} {args : Array Value} {below : List Frame} {meth : Method} {c : Code} {D : kD} {wc0 : va_W} {h : Nat} {h_now : Nat} {h_kept : Nat} {h_aside : Nat} {h_found : Nat} {h_down : Nat} {h_along : Nat} {h_parts : Nat} {h_gone : Nat} {h_tape : Nat} {h_kinds : Nat} {h_items : Nat} {h_widths : Nat} {h_sizes : Nat} {h_numbers : Nat} {h_moved : Nat} {v_isKept : Int32} {v_taped : Int32} {v_begins : Int32} {v_ends : Int32} {v_sort : Int32} {v_value : Int32} {v_isWrong : Int32} {v_itemMany : Int32} {v_farmMany : Int32} {v_farmCells : Int64} {v_now : Nat → Int32} {v_found : Nat → Int32} {out : Int32 × (Nat → Int32)} (X : kX p m meth c s args D (va_A wc0 s.heap.size) b_M_count "MountainFarmsModel" 4 (some .int)) : ∀ (n : Nat) (x2 : Int32) (x3 : Int32), fl_M_count_2 v_now v_found n x2 x3 = some out → ∀ (H : Heap) (locs : List Loc) (ls : Array Slot), kV D (va_A wc0 s.heap.size) s (wd_M_count D h h_now h_kept h_aside h_found h_down h_along h_parts h_gone h_tape h_kinds h_items h_widths h_sizes h_numbers h_moved v_isKept v_taped v_begins v_ends v_sort v_value v_isWrong v_itemMany v_farmMany v_farmCells v_now v_found) H locs → lv_has ls 4 [(0, .ref h), (2, .int x2), (3, .int x3)] → W p l e { frames := 1, cells := 0, slots := 0, locals := 22 } s m args below meth c H locs 0 0 (MQ below (kQi D wc0 (wd_M_count D h h_now h_kept h_aside h_found h_down h_along h_parts h_gone h_tape h_kinds h_items h_widths h_sizes h_numbers h_moved v_isKept v_taped v_begins v_ends v_sort v_value v_isWrong v_itemMany v_farmMany v_farmCells v_now out.2) s.heap.size out.1) args s 0 0 (va_A wc0 s.heap.size)) (F0 m 80 ls []) := by
  intro n
  induction n with
  | zero => intro x2 x3 hf; exact knone hf
  | succ n ih => intro x2 x3 hf H locs ls hV hl; exact tb_M_count_2 X ih hf hV hl
set_option maxHeartbeats 2000000 in
set_option maxRecDepth 20000 in
theorem t_M_count {l : Launch} {p : Program} {e : Env} {s : State} {m : MethodId} {args : Array Value} {below : List Frame} {meth : Method} {c : Code} {D : kD} {wc0 : va_W} {h : Nat} {h_now : Nat} {h_kept : Nat} {h_aside : Nat} {h_found : Nat} {h_down : Nat} {h_along : Nat} {h_parts : Nat} {h_gone : Nat} {h_tape : Nat} {h_kinds : Nat} {h_items : Nat} {h_widths : Nat} {h_sizes : Nat} {h_numbers : Nat} {h_moved : Nat} {v_isKept : Int32} {v_taped : Int32} {v_begins : Int32} {v_ends : Int32} {v_sort : Int32} {v_value : Int32} {v_isWrong : Int32} {v_itemMany : Int32} {v_farmMany : Int32} {v_farmCells : Int64} {v_now : Nat → Int32} {v_found : Nat → Int32} {x1 : Int32} {out : Int32 × (Nat → Int32)} (X : kX p m meth c s args D (va_A wc0 s.heap.size) b_M_count "MountainFarmsModel" 4 (some .int)) (hf : f_M_count v_taped v_now v_found x1 = some out) {H : Heap} {locs : List Loc} (hV : kV D (va_A wc0 s.heap.size) s (wd_M_count D h h_now h_kept h_aside h_found h_down h_along h_parts h_gone h_tape h_kinds h_items h_widths h_sizes h_numbers h_moved v_isKept v_taped v_begins v_ends v_sort v_value v_isWrong v_itemMany v_farmMany v_farmCells v_now v_found) H locs) {ls : Array Slot} (hl : lv_has ls 4 [(0, .ref h), (1, .int x1)]) : W p l e { frames := 1, cells := 0, slots := 0, locals := 22 } s m args below meth c H locs 0 0 (MQ below (kQi D wc0 (wd_M_count D h h_now h_kept h_aside h_found h_down h_along h_parts h_gone h_tape h_kinds h_items h_widths h_sizes h_numbers h_moved v_isKept v_taped v_begins v_ends v_sort v_value v_isWrong v_itemMany v_farmMany v_farmCells v_now out.2) s.heap.size out.1) args s 0 0 (va_A wc0 s.heap.size)) (F0 m 0 ls []) := by
  unfold f_M_count at hf
  obtain ⟨hx, hb, -⟩ := id X
  refine lv_iconst (v := 0) hx hb d_M_count_0 ic_0 ?_
  refine lv_istore_n (lv' := [(2, .int (0 : Int32)), (0, .ref h), (1, .int x1)]) hx hb d_M_count_1 rfl hl (by decide) rfl (fun ls hl => ?_)
  refine lv_iload_n hx hb d_M_count_2 rfl (lv_at hl 2 rfl) ?_
  by_cases c_17 : x1 = 0
  · replace hf := kifp c_17 hf
    refine k_tabIn (tgt := 40) (off := 37) X d_M_count_3 c_17 (by decide) ?_
    refine lv_aload_n hx hb d_M_count_40 rfl (lv_at hl 1 rfl) ?_
    refine k_get X hV 0 9 0 rfl rfl rfl gw_887 rfl rfl d_M_count_41 ?_
    refine lv_bipush (v := 10) hx hb d_M_count_44 bp_10 ?_
    refine k_iald X hV 1 rfl kin_10_218 kln_10 d_M_count_46 ?_
    have e_ := Option.some.inj hf
    subst e_
    exact k_iret X rfl hV rfl d_M_count_47
  replace hf := kifn c_17 hf
  by_cases c_18 : x1 = 1
  · replace hf := kifp c_18 hf
    refine k_tabIn (tgt := 48) (off := 45) X d_M_count_3 c_18 (by decide) ?_
    refine lv_iconst (v := 0) hx hb d_M_count_48 ic_0 ?_
    refine lv_istore_n (lv' := [(3, .int (0 : Int32)), (2, .int (0 : Int32)), (0, .ref h), (1, .int x1)]) hx hb d_M_count_49 rfl hl (by decide) rfl (fun ls hl => ?_)
    exact tl_M_count_1 X _ _ _ hf _ _ _ hV (lv_sub hl [2, 1, 0] rfl)
  replace hf := kifn c_18 hf
  by_cases c_19 : x1 = 2
  · replace hf := kifp c_19 hf
    refine k_tabIn (tgt := 78) (off := 75) X d_M_count_3 c_19 (by decide) ?_
    refine lv_iconst (v := 0) hx hb d_M_count_78 ic_0 ?_
    refine lv_istore_n (lv' := [(3, .int (0 : Int32)), (2, .int (0 : Int32)), (0, .ref h), (1, .int x1)]) hx hb d_M_count_79 rfl hl (by decide) rfl (fun ls hl => ?_)
    exact tl_M_count_2 X _ _ _ hf _ _ _ hV (lv_sub hl [2, 1, 0] rfl)
  replace hf := kifn c_19 hf
  by_cases c_20 : x1 = 3
  · replace hf := kifp c_20 hf
    refine k_tabIn (tgt := 111) (off := 108) X d_M_count_3 c_20 (by decide) ?_
    refine lv_aload_n hx hb d_M_count_111 rfl (lv_at hl 1 rfl) ?_
    refine k_get X hV 0 9 10 rfl rfl rfl gw_897 rfl rfl d_M_count_112 ?_
    have e_ := Option.some.inj hf
    subst e_
    exact k_iret X rfl hV rfl d_M_count_115
  replace hf := kifn c_20 hf
  by_cases c_21 : x1 = 4
  · replace hf := kifp c_21 hf
    refine k_tabIn (tgt := 116) (off := 113) X d_M_count_3 c_21 (by decide) ?_
    refine lv_aload_n hx hb d_M_count_116 rfl (lv_at hl 1 rfl) ?_
    refine k_get X hV 0 9 0 rfl rfl rfl gw_887 rfl rfl d_M_count_117 ?_
    refine lv_bipush (v := 11) hx hb d_M_count_120 bp_11 ?_
    refine k_iald X hV 1 rfl kin_11_218 kln_11 d_M_count_122 ?_
    have e_ := Option.some.inj hf
    subst e_
    exact k_iret X rfl hV rfl d_M_count_123
  replace hf := kifn c_21 hf
  by_cases c_22 : x1 = 5
  · replace hf := kifp c_22 hf
    refine k_tabIn (tgt := 124) (off := 121) X d_M_count_3 c_22 (by decide) ?_
    refine lv_aload_n hx hb d_M_count_124 rfl (lv_at hl 1 rfl) ?_
    refine k_get X hV 0 9 0 rfl rfl rfl gw_887 rfl rfl d_M_count_125 ?_
    refine lv_iconst (v := 0) hx hb d_M_count_128 ic_0 ?_
    refine k_iald X hV 1 rfl kin_0_218 kln_0 d_M_count_129 ?_
    have e_ := Option.some.inj hf
    subst e_
    exact k_iret X rfl hV rfl d_M_count_130
  replace hf := kifn c_22 hf
  have c_17e := lv_neT c_17 (a := 0) (by decide)
  have c_18e := lv_neT c_18 (a := 1) (by decide)
  have c_19e := lv_neT c_19 (a := 2) (by decide)
  have c_20e := lv_neT c_20 (a := 3) (by decide)
  have c_21e := lv_neT c_21 (a := 4) (by decide)
  have c_22e := lv_neT c_22 (a := 5) (by decide)
  refine lv_tableOut (tgt := 131) hx hb d_M_count_3 (by omega) (by decide) ?_
  refine lv_aload_n hx hb d_M_count_131 rfl (lv_at hl 1 rfl) ?_
  refine k_ldc (v := (-1000000001)) X gw_973 d_M_count_132 ?_
  obtain ⟨r_23, v_found_24, hc_25, hf⟩ := kb2_some hf
  refine k_cvi (w1 := (wd_M_finding D h h_now h_kept h_aside h_found h_down h_along h_parts h_gone h_tape h_kinds h_items h_widths h_sizes h_numbers h_moved v_isKept v_taped v_begins v_ends v_sort v_value v_isWrong v_itemMany v_farmMany v_farmCells v_found_24)) (r := r_23) (ws' := (wd_M_count D h h_now h_kept h_aside h_found h_down h_along h_parts h_gone h_tape h_kinds h_items h_widths h_sizes h_numbers h_moved v_isKept v_taped v_begins v_ends v_sort v_value v_isWrong v_itemMany v_farmMany v_farmCells v_now v_found_24)) X hV hl.1 (c_M_finding D h h_now h_kept h_aside h_found h_down h_along h_parts h_gone h_tape h_kinds h_items h_widths h_sizes h_numbers h_moved v_isKept v_taped v_begins v_ends v_sort v_value v_isWrong v_itemMany v_farmMany v_farmCells v_found (-1000000001 : Int32) hc_25) fk_M_finding gw_974 rfl 0 9 rfl rfl [0, 2] [some 0, none, some 1] rfl rfl ⟨rfl, rfl, rfl, rfl, rfl, rfl, rfl, trivial⟩ rfl rfl rfl d_M_count_134 (fun H locs hV => ?_)
  have e_ := Option.some.inj hf
  subst e_
  exact k_iret X rfl hV rfl d_M_count_137
set_option maxHeartbeats 2000000 in
set_option maxRecDepth 20000 in
theorem c_M_count {l : Launch} (D : kD) (h : Nat) (h_now : Nat) (h_kept : Nat) (h_aside : Nat) (h_found : Nat) (h_down : Nat) (h_along : Nat) (h_parts : Nat) (h_gone : Nat) (h_tape : Nat) (h_kinds : Nat) (h_items : Nat) (h_widths : Nat) (h_sizes : Nat) (h_numbers : Nat) (h_moved : Nat) (v_isKept : Int32) (v_taped : Int32) (v_begins : Int32) (v_ends : Int32) (v_sort : Int32) (v_value : Int32) (v_isWrong : Int32) (v_itemMany : Int32) (v_farmMany : Int32) (v_farmCells : Int64) (v_now : Nat → Int32) (v_found : Nat → Int32) (x1 : Int32) {out : Int32 × (Nat → Int32)} (hf : f_M_count v_taped v_now v_found x1 = some out) : kMi l D y_M_count b_M_count 4 (some .int) { frames := 1, cells := 0, slots := 0, locals := 22 } [.ref h, .int x1] (wd_M_count D h h_now h_kept h_aside h_found h_down h_along h_parts h_gone h_tape h_kinds h_items h_widths h_sizes h_numbers h_moved v_isKept v_taped v_begins v_ends v_sort v_value v_isWrong v_itemMany v_farmMany v_farmCells v_now v_found) (wd_M_count D h h_now h_kept h_aside h_found h_down h_along h_parts h_gone h_tape h_kinds h_items h_widths h_sizes h_numbers h_moved v_isKept v_taped v_begins v_ends v_sort v_value v_isWrong v_itemMany v_farmMany v_farmCells v_now out.2) out.1 :=
  kMi_of (own := "MountainFarmsModel") (plainFor_of_name (by decide)) rfl rfl (fun p e s m args below meth c ls X hV hl => t_M_count X hf hV hl)
set_option maxHeartbeats 2000000 in
set_option maxRecDepth 20000 in
theorem t_M_status {l : Launch} {p : Program} {e : Env} {s : State} {m : MethodId} {args : Array Value} {below : List Frame} {meth : Method} {c : Code} {D : kD} {wc0 : va_W} {h : Nat} {h_now : Nat} {h_kept : Nat} {h_aside : Nat} {h_found : Nat} {h_down : Nat} {h_along : Nat} {h_parts : Nat} {h_gone : Nat} {h_tape : Nat} {h_kinds : Nat} {h_items : Nat} {h_widths : Nat} {h_sizes : Nat} {h_numbers : Nat} {h_moved : Nat} {v_isKept : Int32} {v_taped : Int32} {v_begins : Int32} {v_ends : Int32} {v_sort : Int32} {v_value : Int32} {v_isWrong : Int32} {v_itemMany : Int32} {v_farmMany : Int32} {v_farmCells : Int64} {v_found : Nat → Int32} {x1 : Int32} {out : Int32 × (Nat → Int32)} (X : kX p m meth c s args D (va_A wc0 s.heap.size) b_M_status "MountainFarmsModel" 2 (some .int)) (hf : f_M_status v_found x1 = some out) {H : Heap} {locs : List Loc} (hV : kV D (va_A wc0 s.heap.size) s (wd_M_status D h h_now h_kept h_aside h_found h_down h_along h_parts h_gone h_tape h_kinds h_items h_widths h_sizes h_numbers h_moved v_isKept v_taped v_begins v_ends v_sort v_value v_isWrong v_itemMany v_farmMany v_farmCells v_found) H locs) {ls : Array Slot} (hl : lv_has ls 2 [(0, .ref h), (1, .int x1)]) : W p l e { frames := 1, cells := 0, slots := 0, locals := 22 } s m args below meth c H locs 0 0 (MQ below (kQi D wc0 (wd_M_status D h h_now h_kept h_aside h_found h_down h_along h_parts h_gone h_tape h_kinds h_items h_widths h_sizes h_numbers h_moved v_isKept v_taped v_begins v_ends v_sort v_value v_isWrong v_itemMany v_farmMany v_farmCells out.2) s.heap.size out.1) args s 0 0 (va_A wc0 s.heap.size)) (F0 m 0 ls []) := by
  unfold f_M_status at hf
  obtain ⟨hx, hb, -⟩ := id X
  refine lv_iload_n hx hb d_M_status_0 rfl (lv_at hl 1 rfl) ?_
  refine lv_iconst (v := (-1)) hx hb d_M_status_1 ic_m1 ?_
  refine lv_bipush (v := 6) hx hb d_M_status_2 bp_6 ?_
  obtain ⟨r_8, hc_9, hf⟩ := kb1_some hf
  refine k_csi (w1 := (wd_M_within D)) (r := r_8) (ws' := (wd_M_status D h h_now h_kept h_aside h_found h_down h_along h_parts h_gone h_tape h_kinds h_items h_widths h_sizes h_numbers h_moved v_isKept v_taped v_begins v_ends v_sort v_value v_isWrong v_itemMany v_farmMany v_farmCells v_found)) X hV hl.1 (c_M_within D x1 (-1 : Int32) (6 : Int32) hc_9) fk_M_within gw_970 rfl [] [none, none] rfl rfl ⟨rfl, rfl, trivial⟩ rfl rfl rfl d_M_status_4 (fun H locs hV => ?_)
  refine lv_if_eq (tgt := 21) hx hb d_M_status_7 (by decide) (fun c_10 => ?_) (fun c_10 => ?_)
  · replace hf := kifp c_10 hf
    refine lv_aload_n hx hb d_M_status_21 rfl (lv_at hl 0 rfl) ?_
    refine k_ldc (v := (-1000000001)) X gw_973 d_M_status_22 ?_
    obtain ⟨r_11, v_found_12, hc_13, hf⟩ := kb2_some hf
    refine k_cvi (w1 := (wd_M_finding D h h_now h_kept h_aside h_found h_down h_along h_parts h_gone h_tape h_kinds h_items h_widths h_sizes h_numbers h_moved v_isKept v_taped v_begins v_ends v_sort v_value v_isWrong v_itemMany v_farmMany v_farmCells v_found_12)) (r := r_11) (ws' := (wd_M_status D h h_now h_kept h_aside h_found h_down h_along h_parts h_gone h_tape h_kinds h_items h_widths h_sizes h_numbers h_moved v_isKept v_taped v_begins v_ends v_sort v_value v_isWrong v_itemMany v_farmMany v_farmCells v_found_12)) X hV hl.1 (c_M_finding D h h_now h_kept h_aside h_found h_down h_along h_parts h_gone h_tape h_kinds h_items h_widths h_sizes h_numbers h_moved v_isKept v_taped v_begins v_ends v_sort v_value v_isWrong v_itemMany v_farmMany v_farmCells v_found (-1000000001 : Int32) hc_13) fk_M_finding gw_974 rfl 0 9 rfl rfl [0, 1] [some 0, some 1] rfl rfl ⟨rfl, rfl, rfl, rfl, rfl, rfl, trivial⟩ rfl rfl rfl d_M_status_24 (fun H locs hV => ?_)
    have e_ := Option.some.inj hf
    subst e_
    exact k_iret X rfl hV rfl d_M_status_27
  replace hf := kifn c_10 hf
  refine lv_aload_n hx hb d_M_status_10 rfl (lv_at hl 0 rfl) ?_
  refine k_get X hV 0 9 4 rfl rfl rfl gw_891 rfl rfl d_M_status_11 ?_
  refine lv_iload_n hx hb d_M_status_14 rfl (lv_at hl 1 rfl) ?_
  refine lv_iconst (v := 1) hx hb d_M_status_15 ic_1 ?_
  refine lv_iadd hx hb d_M_status_16 ?_
  obtain ⟨h_14, hf⟩ := kidx_some hf
  refine k_iald X hV 1 rfl h_14 rfl d_M_status_17 ?_
  refine lv_goto (tgt := 27) hx hb d_M_status_18 (by decide) ?_
  have e_ := Option.some.inj hf
  subst e_
  exact k_iret X rfl hV rfl d_M_status_27
set_option maxHeartbeats 2000000 in
set_option maxRecDepth 20000 in
theorem c_M_status {l : Launch} (D : kD) (h : Nat) (h_now : Nat) (h_kept : Nat) (h_aside : Nat) (h_found : Nat) (h_down : Nat) (h_along : Nat) (h_parts : Nat) (h_gone : Nat) (h_tape : Nat) (h_kinds : Nat) (h_items : Nat) (h_widths : Nat) (h_sizes : Nat) (h_numbers : Nat) (h_moved : Nat) (v_isKept : Int32) (v_taped : Int32) (v_begins : Int32) (v_ends : Int32) (v_sort : Int32) (v_value : Int32) (v_isWrong : Int32) (v_itemMany : Int32) (v_farmMany : Int32) (v_farmCells : Int64) (v_found : Nat → Int32) (x1 : Int32) {out : Int32 × (Nat → Int32)} (hf : f_M_status v_found x1 = some out) : kMi l D y_M_status b_M_status 2 (some .int) { frames := 1, cells := 0, slots := 0, locals := 22 } [.ref h, .int x1] (wd_M_status D h h_now h_kept h_aside h_found h_down h_along h_parts h_gone h_tape h_kinds h_items h_widths h_sizes h_numbers h_moved v_isKept v_taped v_begins v_ends v_sort v_value v_isWrong v_itemMany v_farmMany v_farmCells v_found) (wd_M_status D h h_now h_kept h_aside h_found h_down h_along h_parts h_gone h_tape h_kinds h_items h_widths h_sizes h_numbers h_moved v_isKept v_taped v_begins v_ends v_sort v_value v_isWrong v_itemMany v_farmMany v_farmCells out.2) out.1 :=
  kMi_of (own := "MountainFarmsModel") (plainFor_of_name (by decide)) rfl rfl (fun p e s m args below meth c ls X hV hl => t_M_status X hf hV hl)
