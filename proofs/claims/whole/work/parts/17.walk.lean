/-! printed by wip/gen: walks -/
set_option maxHeartbeats 2000000 in
set_option maxRecDepth 20000 in
theorem t_M_cellOf {l : Launch} {p : Program} {e : Env} {s : State} {m : MethodId} {args : Array Value} {below : List Frame} {meth : Method} {c : Code} {D : kD} {wc0 : va_W} {h : Nat} {h_now : Nat} {h_kept : Nat} {h_aside : Nat} {h_found : Nat} {h_down : Nat} {h_along : Nat} {h_parts : Nat} {h_gone : Nat} {h_tape : Nat} {h_kinds : Nat} {h_items : Nat} {h_widths : Nat} {h_sizes : Nat} {h_numbers : Nat} {h_moved : Nat} {v_isKept : Int32} {v_taped : Int32} {v_begins : Int32} {v_ends : Int32} {v_sort : Int32} {v_value : Int32} {v_isWrong : Int32} {v_itemMany : Int32} {v_farmMany : Int32} {v_farmCells : Int64} {v_now : Nat → Int32} {v_found : Nat → Int32} {x1 : Int32} {x2 : Int32} {out : Int32 × (Nat → Int32)} (X : kX p m meth c s args D (va_A wc0 s.heap.size) b_M_cellOf "MountainFarmsModel" 3 (some .int)) (hf : f_M_cellOf v_now v_found x1 x2 = some out) {H : Heap} {locs : List Loc} (hV : kV D (va_A wc0 s.heap.size) s (wd_M_cellOf D h h_now h_kept h_aside h_found h_down h_along h_parts h_gone h_tape h_kinds h_items h_widths h_sizes h_numbers h_moved v_isKept v_taped v_begins v_ends v_sort v_value v_isWrong v_itemMany v_farmMany v_farmCells v_now v_found) H locs) {ls : Array Slot} (hl : lv_has ls 3 [(0, .ref h), (1, .int x1), (2, .int x2)]) : W p l e { frames := 2, cells := 0, slots := 0, locals := 45 } s m args below meth c H locs 0 0 (MQ below (kQi D wc0 (wd_M_cellOf D h h_now h_kept h_aside h_found h_down h_along h_parts h_gone h_tape h_kinds h_items h_widths h_sizes h_numbers h_moved v_isKept v_taped v_begins v_ends v_sort v_value v_isWrong v_itemMany v_farmMany v_farmCells v_now out.2) s.heap.size out.1) args s 0 0 (va_A wc0 s.heap.size)) (F0 m 0 ls []) := by
  unfold f_M_cellOf at hf
  obtain ⟨hx, hb, -⟩ := id X
  refine lv_iload_n hx hb d_M_cellOf_0 rfl (lv_at hl 1 rfl) ?_
  obtain ⟨r_19, hc_20, hf⟩ := kb1_some hf
  refine k_csi (w1 := (wd_M_isCell D)) (r := r_19) (ws' := (wd_M_cellOf D h h_now h_kept h_aside h_found h_down h_along h_parts h_gone h_tape h_kinds h_items h_widths h_sizes h_numbers h_moved v_isKept v_taped v_begins v_ends v_sort v_value v_isWrong v_itemMany v_farmMany v_farmCells v_now v_found)) X hV hl.1 (c_M_isCell D x1 hc_20) fk_M_isCell gw_967 rfl [] [none, none, none] rfl rfl ⟨rfl, rfl, rfl, trivial⟩ rfl rfl rfl d_M_cellOf_1 (fun H locs hV => ?_)
  refine lv_if_ne (tgt := 14) hx hb d_M_cellOf_4 (by decide) (fun c_21 => ?_) (fun c_21 => ?_)
  · replace hf := kifn c_21 hf
    refine lv_iload_n hx hb d_M_cellOf_14 rfl (lv_at hl 2 rfl) ?_
    by_cases c_22 : x2 = 0
    · replace hf := kifp c_22 hf
      refine k_tabIn (tgt := 44) (off := 29) X d_M_cellOf_15 c_22 (by decide) ?_
      refine lv_aload_n hx hb d_M_cellOf_44 rfl (lv_at hl 0 rfl) ?_
      refine k_get X hV 0 9 0 rfl rfl rfl gw_887 rfl rfl d_M_cellOf_45 ?_
      refine lv_bipush (v := 50) hx hb d_M_cellOf_48 bp_50 ?_
      refine lv_iload_n hx hb d_M_cellOf_50 rfl (lv_at hl 1 rfl) ?_
      refine lv_iadd hx hb d_M_cellOf_51 ?_
      obtain ⟨h_23, hf⟩ := kidx_some hf
      refine k_iald X hV 1 rfl h_23 rfl d_M_cellOf_52 ?_
      have e_ := Option.some.inj hf
      subst e_
      exact k_iret X rfl hV rfl d_M_cellOf_53
    replace hf := kifn c_22 hf
    by_cases c_24 : x2 = 1
    · replace hf := kifp c_24 hf
      refine k_tabIn (tgt := 54) (off := 39) X d_M_cellOf_15 c_24 (by decide) ?_
      refine lv_aload_n hx hb d_M_cellOf_54 rfl (lv_at hl 0 rfl) ?_
      refine k_get X hV 0 9 0 rfl rfl rfl gw_887 rfl rfl d_M_cellOf_55 ?_
      refine lv_bipush (v := 86) hx hb d_M_cellOf_58 bp_86 ?_
      refine lv_iload_n hx hb d_M_cellOf_60 rfl (lv_at hl 1 rfl) ?_
      refine lv_iadd hx hb d_M_cellOf_61 ?_
      obtain ⟨h_25, hf⟩ := kidx_some hf
      refine k_iald X hV 1 rfl h_25 rfl d_M_cellOf_62 ?_
      have e_ := Option.some.inj hf
      subst e_
      exact k_iret X rfl hV rfl d_M_cellOf_63
    replace hf := kifn c_24 hf
    by_cases c_26 : x2 = 2
    · replace hf := kifp c_26 hf
      refine k_tabIn (tgt := 64) (off := 49) X d_M_cellOf_15 c_26 (by decide) ?_
      refine lv_aload_n hx hb d_M_cellOf_64 rfl (lv_at hl 0 rfl) ?_
      refine lv_iload_n hx hb d_M_cellOf_65 rfl (lv_at hl 1 rfl) ?_
      obtain ⟨r_27, hc_28, hf⟩ := kb1_some hf
      refine k_cvi (w1 := (wd_M_farmAt D h h_now h_kept h_aside h_found h_down h_along h_parts h_gone h_tape h_kinds h_items h_widths h_sizes h_numbers h_moved v_isKept v_taped v_begins v_ends v_sort v_value v_isWrong v_itemMany v_farmMany v_farmCells v_now)) (r := r_27) (ws' := (wd_M_cellOf D h h_now h_kept h_aside h_found h_down h_along h_parts h_gone h_tape h_kinds h_items h_widths h_sizes h_numbers h_moved v_isKept v_taped v_begins v_ends v_sort v_value v_isWrong v_itemMany v_farmMany v_farmCells v_now v_found)) X hV hl.1 (c_M_farmAt D h h_now h_kept h_aside h_found h_down h_along h_parts h_gone h_tape h_kinds h_items h_widths h_sizes h_numbers h_moved v_isKept v_taped v_begins v_ends v_sort v_value v_isWrong v_itemMany v_farmMany v_farmCells v_now x1 hc_28) fk_M_farmAt gw_986 rfl 0 9 rfl rfl [0, 1] [some 0, some 1, none] rfl rfl ⟨rfl, rfl, rfl, rfl, rfl, rfl, rfl, trivial⟩ rfl rfl rfl d_M_cellOf_66 (fun H locs hV => ?_)
      have e_ := Option.some.inj hf
      subst e_
      exact k_iret X rfl hV rfl d_M_cellOf_69
    replace hf := kifn c_26 hf
    by_cases c_29 : x2 = 3
    · replace hf := kifp c_29 hf
      refine k_tabIn (tgt := 70) (off := 55) X d_M_cellOf_15 c_29 (by decide) ?_
      refine lv_aload_n hx hb d_M_cellOf_70 rfl (lv_at hl 0 rfl) ?_
      refine k_get X hV 0 9 0 rfl rfl rfl gw_887 rfl rfl d_M_cellOf_71 ?_
      refine lv_bipush (v := 122) hx hb d_M_cellOf_74 bp_122 ?_
      refine lv_iload_n hx hb d_M_cellOf_76 rfl (lv_at hl 1 rfl) ?_
      refine lv_iadd hx hb d_M_cellOf_77 ?_
      obtain ⟨h_30, hf⟩ := kidx_some hf
      refine k_iald X hV 1 rfl h_30 rfl d_M_cellOf_78 ?_
      have e_ := Option.some.inj hf
      subst e_
      exact k_iret X rfl hV rfl d_M_cellOf_79
    replace hf := kifn c_29 hf
    have c_22e := lv_neT c_22 (a := 0) (by decide)
    have c_24e := lv_neT c_24 (a := 1) (by decide)
    have c_26e := lv_neT c_26 (a := 2) (by decide)
    have c_29e := lv_neT c_29 (a := 3) (by decide)
    refine lv_tableOut (tgt := 80) hx hb d_M_cellOf_15 (by omega) (by decide) ?_
    refine lv_aload_n hx hb d_M_cellOf_80 rfl (lv_at hl 0 rfl) ?_
    refine k_ldc (v := (-1000000001)) X gw_973 d_M_cellOf_81 ?_
    obtain ⟨r_31, v_found_32, hc_33, hf⟩ := kb2_some hf
    refine k_cvi (w1 := (wd_M_finding D h h_now h_kept h_aside h_found h_down h_along h_parts h_gone h_tape h_kinds h_items h_widths h_sizes h_numbers h_moved v_isKept v_taped v_begins v_ends v_sort v_value v_isWrong v_itemMany v_farmMany v_farmCells v_found_32)) (r := r_31) (ws' := (wd_M_cellOf D h h_now h_kept h_aside h_found h_down h_along h_parts h_gone h_tape h_kinds h_items h_widths h_sizes h_numbers h_moved v_isKept v_taped v_begins v_ends v_sort v_value v_isWrong v_itemMany v_farmMany v_farmCells v_now v_found_32)) X hV hl.1 (c_M_finding D h h_now h_kept h_aside h_found h_down h_along h_parts h_gone h_tape h_kinds h_items h_widths h_sizes h_numbers h_moved v_isKept v_taped v_begins v_ends v_sort v_value v_isWrong v_itemMany v_farmMany v_farmCells v_found (-1000000001 : Int32) hc_33) fk_M_finding gw_974 rfl 0 9 rfl rfl [0, 2] [some 0, none, some 1] rfl rfl ⟨rfl, rfl, rfl, rfl, rfl, rfl, rfl, trivial⟩ rfl rfl rfl d_M_cellOf_83 (fun H locs hV => ?_)
    have e_ := Option.some.inj hf
    subst e_
    exact k_iret X rfl hV rfl d_M_cellOf_86
  replace hf := kifp c_21 hf
  refine lv_aload_n hx hb d_M_cellOf_7 rfl (lv_at hl 0 rfl) ?_
  refine k_ldc (v := (-1000000001)) X gw_973 d_M_cellOf_8 ?_
  obtain ⟨r_34, v_found_35, hc_36, hf⟩ := kb2_some hf
  refine k_cvi (w1 := (wd_M_finding D h h_now h_kept h_aside h_found h_down h_along h_parts h_gone h_tape h_kinds h_items h_widths h_sizes h_numbers h_moved v_isKept v_taped v_begins v_ends v_sort v_value v_isWrong v_itemMany v_farmMany v_farmCells v_found_35)) (r := r_34) (ws' := (wd_M_cellOf D h h_now h_kept h_aside h_found h_down h_along h_parts h_gone h_tape h_kinds h_items h_widths h_sizes h_numbers h_moved v_isKept v_taped v_begins v_ends v_sort v_value v_isWrong v_itemMany v_farmMany v_farmCells v_now v_found_35)) X hV hl.1 (c_M_finding D h h_now h_kept h_aside h_found h_down h_along h_parts h_gone h_tape h_kinds h_items h_widths h_sizes h_numbers h_moved v_isKept v_taped v_begins v_ends v_sort v_value v_isWrong v_itemMany v_farmMany v_farmCells v_found (-1000000001 : Int32) hc_36) fk_M_finding gw_974 rfl 0 9 rfl rfl [0, 2] [some 0, none, some 1] rfl rfl ⟨rfl, rfl, rfl, rfl, rfl, rfl, rfl, trivial⟩ rfl rfl rfl d_M_cellOf_10 (fun H locs hV => ?_)
  have e_ := Option.some.inj hf
  subst e_
  exact k_iret X rfl hV rfl d_M_cellOf_13
set_option maxHeartbeats 2000000 in
set_option maxRecDepth 20000 in
theorem c_M_cellOf {l : Launch} (D : kD) (h : Nat) (h_now : Nat) (h_kept : Nat) (h_aside : Nat) (h_found : Nat) (h_down : Nat) (h_along : Nat) (h_parts : Nat) (h_gone : Nat) (h_tape : Nat) (h_kinds : Nat) (h_items : Nat) (h_widths : Nat) (h_sizes : Nat) (h_numbers : Nat) (h_moved : Nat) (v_isKept : Int32) (v_taped : Int32) (v_begins : Int32) (v_ends : Int32) (v_sort : Int32) (v_value : Int32) (v_isWrong : Int32) (v_itemMany : Int32) (v_farmMany : Int32) (v_farmCells : Int64) (v_now : Nat → Int32) (v_found : Nat → Int32) (x1 : Int32) (x2 : Int32) {out : Int32 × (Nat → Int32)} (hf : f_M_cellOf v_now v_found x1 x2 = some out) : kMi l D y_M_cellOf b_M_cellOf 3 (some .int) { frames := 2, cells := 0, slots := 0, locals := 45 } [.ref h, .int x1, .int x2] (wd_M_cellOf D h h_now h_kept h_aside h_found h_down h_along h_parts h_gone h_tape h_kinds h_items h_widths h_sizes h_numbers h_moved v_isKept v_taped v_begins v_ends v_sort v_value v_isWrong v_itemMany v_farmMany v_farmCells v_now v_found) (wd_M_cellOf D h h_now h_kept h_aside h_found h_down h_along h_parts h_gone h_tape h_kinds h_items h_widths h_sizes h_numbers h_moved v_isKept v_taped v_begins v_ends v_sort v_value v_isWrong v_itemMany v_farmMany v_farmCells v_now out.2) out.1 :=
  kMi_of (own := "MountainFarmsModel") (plainFor_of_name (by decide)) rfl rfl (fun p e s m args below meth c ls X hV hl => t_M_cellOf X hf hV hl)
set_option maxHeartbeats 2000000 in
set_option maxRecDepth 20000 in
theorem t_M_vent {l : Launch} {p : Program} {e : Env} {s : State} {m : MethodId} {args : Array Value} {below : List Frame} {meth : Method} {c : Code} {D : kD} {wc0 : va_W} {h : Nat} {h_now : Nat} {h_kept : Nat} {h_aside : Nat} {h_found : Nat} {h_down : Nat} {h_along : Nat} {h_parts : Nat} {h_gone : Nat} {h_tape : Nat} {h_kinds : Nat} {h_items : Nat} {h_widths : Nat} {h_sizes : Nat} {h_numbers : Nat} {h_moved : Nat} {v_isKept : Int32} {v_taped : Int32} {v_begins : Int32} {v_ends : Int32} {v_sort : Int32} {v_value : Int32} {v_isWrong : Int32} {v_itemMany : Int32} {v_farmMany : Int32} {v_farmCells : Int64} {v_now : Nat → Int32} {v_found : Nat → Int32} {x1 : Int32} {out : Int32 × (Nat → Int32) × (Nat → Int32)} (X : kX p m meth c s args D (va_A wc0 s.heap.size) b_M_vent "MountainFarmsModel" 2 (some .int)) (hf : f_M_vent v_now v_found x1 = some out) {H : Heap} {locs : List Loc} (hV : kV D (va_A wc0 s.heap.size) s (wd_M_vent D h h_now h_kept h_aside h_found h_down h_along h_parts h_gone h_tape h_kinds h_items h_widths h_sizes h_numbers h_moved v_isKept v_taped v_begins v_ends v_sort v_value v_isWrong v_itemMany v_farmMany v_farmCells v_now v_found) H locs) {ls : Array Slot} (hl : lv_has ls 2 [(0, .ref h), (1, .int x1)]) : W p l e { frames := 2, cells := 0, slots := 0, locals := 42 } s m args below meth c H locs 0 0 (MQ below (kQi D wc0 (wd_M_vent D h h_now h_kept h_aside h_found h_down h_along h_parts h_gone h_tape h_kinds h_items h_widths h_sizes h_numbers h_moved v_isKept v_taped v_begins v_ends v_sort v_value v_isWrong v_itemMany v_farmMany v_farmCells out.2.1 out.2.2) s.heap.size out.1) args s 0 0 (va_A wc0 s.heap.size)) (F0 m 0 ls []) := by
  unfold f_M_vent at hf
  obtain ⟨hx, hb, -⟩ := id X
  refine lv_iload_n hx hb d_M_vent_0 rfl (lv_at hl 1 rfl) ?_
  obtain ⟨r_10, hc_11, hf⟩ := kb1_some hf
  refine k_csi (w1 := (wd_M_isCell D)) (r := r_10) (ws' := (wd_M_vent D h h_now h_kept h_aside h_found h_down h_along h_parts h_gone h_tape h_kinds h_items h_widths h_sizes h_numbers h_moved v_isKept v_taped v_begins v_ends v_sort v_value v_isWrong v_itemMany v_farmMany v_farmCells v_now v_found)) X hV hl.1 (c_M_isCell D x1 hc_11) fk_M_isCell gw_967 rfl [] [none, none, none] rfl rfl ⟨rfl, rfl, rfl, trivial⟩ rfl rfl rfl d_M_vent_1 (fun H locs hV => ?_)
  refine lv_if_eq (tgt := 16) hx hb d_M_vent_4 (by decide) (fun c_12 => ?_) (fun c_12 => ?_)
  · replace hf := kifp c_12 hf
    refine lv_aload_n hx hb d_M_vent_16 rfl (lv_at hl 0 rfl) ?_
    refine k_ldc (v := (-1000000001)) X gw_973 d_M_vent_17 ?_
    obtain ⟨r_13, v_found_14, hc_15, hf⟩ := kb2_some hf
    refine k_cvi (w1 := (wd_M_finding D h h_now h_kept h_aside h_found h_down h_along h_parts h_gone h_tape h_kinds h_items h_widths h_sizes h_numbers h_moved v_isKept v_taped v_begins v_ends v_sort v_value v_isWrong v_itemMany v_farmMany v_farmCells v_found_14)) (r := r_13) (ws' := (wd_M_vent D h h_now h_kept h_aside h_found h_down h_along h_parts h_gone h_tape h_kinds h_items h_widths h_sizes h_numbers h_moved v_isKept v_taped v_begins v_ends v_sort v_value v_isWrong v_itemMany v_farmMany v_farmCells v_now v_found_14)) X hV hl.1 (c_M_finding D h h_now h_kept h_aside h_found h_down h_along h_parts h_gone h_tape h_kinds h_items h_widths h_sizes h_numbers h_moved v_isKept v_taped v_begins v_ends v_sort v_value v_isWrong v_itemMany v_farmMany v_farmCells v_found (-1000000001 : Int32) hc_15) fk_M_finding gw_974 rfl 0 9 rfl rfl [0, 2] [some 0, none, some 1] rfl rfl ⟨rfl, rfl, rfl, rfl, rfl, rfl, rfl, trivial⟩ rfl rfl rfl d_M_vent_19 (fun H locs hV => ?_)
    have e_ := Option.some.inj hf
    subst e_
    exact k_iret X rfl hV rfl d_M_vent_22
  replace hf := kifn c_12 hf
  refine lv_aload_n hx hb d_M_vent_7 rfl (lv_at hl 0 rfl) ?_
  refine lv_iconst (v := 3) hx hb d_M_vent_8 ic_3 ?_
  refine lv_iload_n hx hb d_M_vent_9 rfl (lv_at hl 1 rfl) ?_
  obtain ⟨r_16, v_now_17, hc_18, hf⟩ := kb2_some hf
  refine k_cvi (w1 := (wd_M_become D h h_now h_kept h_aside h_found h_down h_along h_parts h_gone h_tape h_kinds h_items h_widths h_sizes h_numbers h_moved v_isKept v_taped v_begins v_ends v_sort v_value v_isWrong v_itemMany v_farmMany v_farmCells v_now_17)) (r := r_16) (ws' := (wd_M_vent D h h_now h_kept h_aside h_found h_down h_along h_parts h_gone h_tape h_kinds h_items h_widths h_sizes h_numbers h_moved v_isKept v_taped v_begins v_ends v_sort v_value v_isWrong v_itemMany v_farmMany v_farmCells v_now_17 v_found)) X hV hl.1 (c_M_become D h h_now h_kept h_aside h_found h_down h_along h_parts h_gone h_tape h_kinds h_items h_widths h_sizes h_numbers h_moved v_isKept v_taped v_begins v_ends v_sort v_value v_isWrong v_itemMany v_farmMany v_farmCells v_now (3 : Int32) x1 hc_18) fk_M_become gw_978 rfl 0 9 rfl rfl [0, 1] [some 0, some 1, none] rfl rfl ⟨rfl, rfl, rfl, rfl, rfl, rfl, rfl, trivial⟩ rfl rfl rfl d_M_vent_10 (fun H locs hV => ?_)
  refine lv_goto (tgt := 22) hx hb d_M_vent_13 (by decide) ?_
  have e_ := Option.some.inj hf
  subst e_
  exact k_iret X rfl hV rfl d_M_vent_22
set_option maxHeartbeats 2000000 in
set_option maxRecDepth 20000 in
theorem c_M_vent {l : Launch} (D : kD) (h : Nat) (h_now : Nat) (h_kept : Nat) (h_aside : Nat) (h_found : Nat) (h_down : Nat) (h_along : Nat) (h_parts : Nat) (h_gone : Nat) (h_tape : Nat) (h_kinds : Nat) (h_items : Nat) (h_widths : Nat) (h_sizes : Nat) (h_numbers : Nat) (h_moved : Nat) (v_isKept : Int32) (v_taped : Int32) (v_begins : Int32) (v_ends : Int32) (v_sort : Int32) (v_value : Int32) (v_isWrong : Int32) (v_itemMany : Int32) (v_farmMany : Int32) (v_farmCells : Int64) (v_now : Nat → Int32) (v_found : Nat → Int32) (x1 : Int32) {out : Int32 × (Nat → Int32) × (Nat → Int32)} (hf : f_M_vent v_now v_found x1 = some out) : kMi l D y_M_vent b_M_vent 2 (some .int) { frames := 2, cells := 0, slots := 0, locals := 42 } [.ref h, .int x1] (wd_M_vent D h h_now h_kept h_aside h_found h_down h_along h_parts h_gone h_tape h_kinds h_items h_widths h_sizes h_numbers h_moved v_isKept v_taped v_begins v_ends v_sort v_value v_isWrong v_itemMany v_farmMany v_farmCells v_now v_found) (wd_M_vent D h h_now h_kept h_aside h_found h_down h_along h_parts h_gone h_tape h_kinds h_items h_widths h_sizes h_numbers h_moved v_isKept v_taped v_begins v_ends v_sort v_value v_isWrong v_itemMany v_farmMany v_farmCells out.2.1 out.2.2) out.1 :=
  kMi_of (own := "MountainFarmsModel") (plainFor_of_name (by decide)) rfl rfl (fun p e s m args below meth c ls X hV hl => t_M_vent X hf hV hl)
set_option maxHeartbeats 2000000 in
set_option maxRecDepth 20000 in
theorem t_M_cellIn {l : Launch} {p : Program} {e : Env} {s : State} {m : MethodId} {args : Array Value} {below : List Frame} {meth : Method} {c : Code} {D : kD} {wc0 : va_W} {h : Nat} {h_now : Nat} {h_kept : Nat} {h_aside : Nat} {h_found : Nat} {h_down : Nat} {h_along : Nat} {h_parts : Nat} {h_gone : Nat} {h_tape : Nat} {h_kinds : Nat} {h_items : Nat} {h_widths : Nat} {h_sizes : Nat} {h_numbers : Nat} {h_moved : Nat} {v_isKept : Int32} {v_taped : Int32} {v_begins : Int32} {v_ends : Int32} {v_sort : Int32} {v_value : Int32} {v_isWrong : Int32} {v_itemMany : Int32} {v_farmMany : Int32} {v_farmCells : Int64} {v_down : Nat → Int32} {v_along : Nat → Int32} {x1 : Int32} {x2 : Int32} {out : Int32} (X : kX p m meth c s args D (va_A wc0 s.heap.size) b_M_cellIn "MountainFarmsModel" 5 (some .int)) (hf : f_M_cellIn v_down v_along x1 x2 = some out) {H : Heap} {locs : List Loc} (hV : kV D (va_A wc0 s.heap.size) s (wd_M_cellIn D h h_now h_kept h_aside h_found h_down h_along h_parts h_gone h_tape h_kinds h_items h_widths h_sizes h_numbers h_moved v_isKept v_taped v_begins v_ends v_sort v_value v_isWrong v_itemMany v_farmMany v_farmCells v_down v_along) H locs) {ls : Array Slot} (hl : lv_has ls 5 [(0, .ref h), (1, .int x1), (2, .int x2)]) : W p l e { frames := 1, cells := 0, slots := 0, locals := 22 } s m args below meth c H locs 0 0 (MQ below (kQi D wc0 (wd_M_cellIn D h h_now h_kept h_aside h_found h_down h_along h_parts h_gone h_tape h_kinds h_items h_widths h_sizes h_numbers h_moved v_isKept v_taped v_begins v_ends v_sort v_value v_isWrong v_itemMany v_farmMany v_farmCells v_down v_along) s.heap.size out) args s 0 0 (va_A wc0 s.heap.size)) (F0 m 0 ls []) := by
  unfold f_M_cellIn at hf
  obtain ⟨hx, hb, -⟩ := id X
  refine lv_iload_n hx hb d_M_cellIn_0 rfl (lv_at hl 1 rfl) ?_
  refine lv_bipush (v := 6) hx hb d_M_cellIn_1 bp_6 ?_
  refine lv_idiv hx hb d_M_cellIn_3 (by decide) ?_
  refine lv_aload_n hx hb d_M_cellIn_4 rfl (lv_at hl 0 rfl) ?_
  refine k_get X hV 0 9 5 rfl rfl rfl gw_892 rfl rfl d_M_cellIn_5 ?_
  refine lv_iload_n hx hb d_M_cellIn_8 rfl (lv_at hl 2 rfl) ?_
  obtain ⟨h_11, hf⟩ := kidx_some hf
  refine k_iald X hV 1 rfl h_11 rfl d_M_cellIn_9 ?_
  refine lv_iadd hx hb d_M_cellIn_10 ?_
  refine k_leti hf (fun x3_12 hf => ?_)
  refine lv_istore_n (lv' := [(3, .int x3_12), (0, .ref h), (1, .int x1), (2, .int x2)]) hx hb d_M_cellIn_11 rfl hl (by decide) rfl (fun ls hl => ?_)
  refine lv_iload_n hx hb d_M_cellIn_12 rfl (lv_at hl 2 rfl) ?_
  refine lv_bipush (v := 6) hx hb d_M_cellIn_13 bp_6 ?_
  refine lv_irem hx hb d_M_cellIn_15 (by decide) ?_
  refine lv_aload_n hx hb d_M_cellIn_16 rfl (lv_at hl 1 rfl) ?_
  refine k_get X hV 0 9 6 rfl rfl rfl gw_893 rfl rfl d_M_cellIn_17 ?_
  refine lv_iload_n hx hb d_M_cellIn_20 rfl (lv_at hl 3 rfl) ?_
  obtain ⟨h_13, hf⟩ := kidx_some hf
  refine k_iald X hV 2 rfl h_13 rfl d_M_cellIn_21 ?_
  refine lv_iadd hx hb d_M_cellIn_22 ?_
  refine k_leti hf (fun x4_14 hf => ?_)
  refine lv_istore (lv' := [(4, .int x4_14), (3, .int x3_12), (0, .ref h), (1, .int x1), (2, .int x2)]) hx hb d_M_cellIn_23 hl (by decide) rfl (fun ls hl => ?_)
  refine lv_iload_n hx hb d_M_cellIn_25 rfl (lv_at hl 1 rfl) ?_
  refine lv_iconst (v := 0) hx hb d_M_cellIn_26 ic_0 ?_
  refine lv_iconst (v := 5) hx hb d_M_cellIn_27 ic_5 ?_
  obtain ⟨r_15, hc_16, hf⟩ := kb1_some hf
  refine k_csi (w1 := (wd_M_within D)) (r := r_15) (ws' := (wd_M_cellIn D h h_now h_kept h_aside h_found h_down h_along h_parts h_gone h_tape h_kinds h_items h_widths h_sizes h_numbers h_moved v_isKept v_taped v_begins v_ends v_sort v_value v_isWrong v_itemMany v_farmMany v_farmCells v_down v_along)) X hV hl.1 (c_M_within D x3_12 (0 : Int32) (5 : Int32) hc_16) fk_M_within gw_970 rfl [] [none, none, none] rfl rfl ⟨rfl, rfl, rfl, trivial⟩ rfl rfl rfl d_M_cellIn_28 (fun H locs hV => ?_)
  refine lv_if_eq (tgt := 54) hx hb d_M_cellIn_31 (by decide) (fun c_17 => ?_) (fun c_17 => ?_)
  · replace hf := kifp c_17 hf
    refine lv_iconst (v := (-1)) hx hb d_M_cellIn_54 ic_m1 ?_
    have e_ := Option.some.inj hf
    subst e_
    exact k_iret X rfl hV rfl d_M_cellIn_55
  replace hf := kifn c_17 hf
  refine lv_iload hx hb d_M_cellIn_34 (lv_at hl 0 rfl) ?_
  refine lv_iconst (v := 0) hx hb d_M_cellIn_36 ic_0 ?_
  refine lv_iconst (v := 5) hx hb d_M_cellIn_37 ic_5 ?_
  obtain ⟨r_18, hc_19, hf⟩ := kb1_some hf
  refine k_csi (w1 := (wd_M_within D)) (r := r_18) (ws' := (wd_M_cellIn D h h_now h_kept h_aside h_found h_down h_along h_parts h_gone h_tape h_kinds h_items h_widths h_sizes h_numbers h_moved v_isKept v_taped v_begins v_ends v_sort v_value v_isWrong v_itemMany v_farmMany v_farmCells v_down v_along)) X hV hl.1 (c_M_within D x4_14 (0 : Int32) (5 : Int32) hc_19) fk_M_within gw_970 rfl [] [none, none, none] rfl rfl ⟨rfl, rfl, rfl, trivial⟩ rfl rfl rfl d_M_cellIn_38 (fun H locs hV => ?_)
  refine lv_if_eq (tgt := 54) hx hb d_M_cellIn_41 (by decide) (fun c_20 => ?_) (fun c_20 => ?_)
  · replace hf := kifp c_20 hf
    refine lv_iconst (v := (-1)) hx hb d_M_cellIn_54 ic_m1 ?_
    have e_ := Option.some.inj hf
    subst e_
    exact k_iret X rfl hV rfl d_M_cellIn_55
  replace hf := kifn c_20 hf
  refine lv_bipush (v := 6) hx hb d_M_cellIn_44 bp_6 ?_
  refine lv_iload_n hx hb d_M_cellIn_46 rfl (lv_at hl 1 rfl) ?_
  refine lv_imul hx hb d_M_cellIn_47 ?_
  refine lv_iload hx hb d_M_cellIn_48 (lv_at hl 0 rfl) ?_
  refine lv_iadd hx hb d_M_cellIn_50 ?_
  refine lv_goto (tgt := 55) hx hb d_M_cellIn_51 (by decide) ?_
  have e_ := Option.some.inj hf
  subst e_
  exact k_iret X rfl hV rfl d_M_cellIn_55
set_option maxHeartbeats 2000000 in
set_option maxRecDepth 20000 in
theorem c_M_cellIn {l : Launch} (D : kD) (h : Nat) (h_now : Nat) (h_kept : Nat) (h_aside : Nat) (h_found : Nat) (h_down : Nat) (h_along : Nat) (h_parts : Nat) (h_gone : Nat) (h_tape : Nat) (h_kinds : Nat) (h_items : Nat) (h_widths : Nat) (h_sizes : Nat) (h_numbers : Nat) (h_moved : Nat) (v_isKept : Int32) (v_taped : Int32) (v_begins : Int32) (v_ends : Int32) (v_sort : Int32) (v_value : Int32) (v_isWrong : Int32) (v_itemMany : Int32) (v_farmMany : Int32) (v_farmCells : Int64) (v_down : Nat → Int32) (v_along : Nat → Int32) (x1 : Int32) (x2 : Int32) {out : Int32} (hf : f_M_cellIn v_down v_along x1 x2 = some out) : kMi l D y_M_cellIn b_M_cellIn 5 (some .int) { frames := 1, cells := 0, slots := 0, locals := 22 } [.ref h, .int x1, .int x2] (wd_M_cellIn D h h_now h_kept h_aside h_found h_down h_along h_parts h_gone h_tape h_kinds h_items h_widths h_sizes h_numbers h_moved v_isKept v_taped v_begins v_ends v_sort v_value v_isWrong v_itemMany v_farmMany v_farmCells v_down v_along) (wd_M_cellIn D h h_now h_kept h_aside h_found h_down h_along h_parts h_gone h_tape h_kinds h_items h_widths h_sizes h_numbers h_moved v_isKept v_taped v_begins v_ends v_sort v_value v_isWrong v_itemMany v_farmMany v_farmCells v_down v_along) out :=
  kMi_of (own := "MountainFarmsModel") (plainFor_of_name (by decide)) rfl rfl (fun p e s m args below meth c ls X hV hl => t_M_cellIn X hf hV hl)
set_option maxHeartbeats 2000000 in
set_option maxRecDepth 20000 in
theorem tb_M_wayTo_1 {l : Launch} {p : Program} {e : Env} {s : State} {m : MethodId} {args : Array Value} {below : List Frame} {meth : Method} {c : Code} {D : kD} {wc0 : va_W} {h : Nat} {h_now : Nat} {h_kept : Nat} {h_aside : Nat} {h_found : Nat} {h_down : Nat} {h_along : Nat} {h_parts : Nat} {h_gone : Nat} {h_tape : Nat} {h_kinds : Nat} {h_items : Nat} {h_widths : Nat} {h_sizes : Nat} {h_numbers : Nat} {h_moved : Nat} {v_isKept : Int32} {v_taped : Int32} {v_begins : Int32} {v_ends : Int32} {v_sort : Int32} {v_value : Int32} {v_isWrong : Int32} {v_itemMany : Int32} {v_farmMany : Int32} {v_farmCells : Int64} {v_down : Nat → Int32} {v_along : Nat → Int32} {x1 : Int32} {x2 : Int32} {x3 : Int32} {x4 : Int32} {rec1 : Int32 → Int32 → Option (Int32)} {out : Int32} (X : kX p m meth c s args D (va_A wc0 s.heap.size) b_M_wayTo "MountainFarmsModel" 5 (some .int)) (hrec1 : ∀ (x3 : Int32) (x4 : Int32), rec1 x3 x4 = some out → ∀ (H : Heap) (locs : List Loc) (ls : Array Slot), kV D (va_A wc0 s.heap.size) s (wd_M_wayTo D h h_now h_kept h_aside h_found h_down h_along h_parts h_gone h_tape h_kinds h_items h_widths h_sizes h_numbers h_moved v_isKept v_taped v_begins v_ends v_sort v_value v_isWrong v_itemMany v_farmMany v_farmCells v_down v_along) H locs → lv_has ls 5 [(0, .ref h), (1, .int x1), (2, .int x2), (3, .int x3), (4, .int x4)] → W p l e { frames := 2, cells := 0, slots := 0, locals := 46 } s m args below meth c H locs 0 0 (MQ below (kQi D wc0 (wd_M_wayTo D h h_now h_kept h_aside h_found h_down h_along h_parts h_gone h_tape h_kinds h_items h_widths h_sizes h_numbers h_moved v_isKept v_taped v_begins v_ends v_sort v_value v_isWrong v_itemMany v_farmMany v_farmCells v_down v_along) s.heap.size out) args s 0 0 (va_A wc0 s.heap.size)) (F0 m 5 ls [])) (hf : fb_M_wayTo_1 rec1 x1 x2 v_down v_along x3 x4 = some out) {H : Heap} {locs : List Loc} (hV : kV D (va_A wc0 s.heap.size) s (wd_M_wayTo D h h_now h_kept h_aside h_found h_down h_along h_parts h_gone h_tape h_kinds h_items h_widths h_sizes h_numbers h_moved v_isKept v_taped v_begins v_ends v_sort v_value v_isWrong v_itemMany v_farmMany v_farmCells v_down v_along) H locs) {ls : Array Slot} (hl : lv_has ls 5 [(0, .ref h), (1, .int x1), (2, .int x2), (3, .int x3), (4, .int x4)]) : W p l e { frames := 2, cells := 0, slots := 0, locals := 46 } s m args below meth c H locs 0 0 (MQ below (kQi D wc0 (wd_M_wayTo D h h_now h_kept h_aside h_found h_down h_along h_parts h_gone h_tape h_kinds h_items h_widths h_sizes h_numbers h_moved v_isKept v_taped v_begins v_ends v_sort v_value v_isWrong v_itemMany v_farmMany v_farmCells v_down v_along) s.heap.size out) args s 0 0 (va_A wc0 s.heap.size)) (F0 m 5 ls []) := by
  unfold fb_M_wayTo_1 at hf
  obtain ⟨hx, hb, -⟩ := id X
  refine lv_iload hx hb d_M_wayTo_5 (lv_at hl 4 rfl) ?_
  refine lv_iconst (v := 4) hx hb d_M_wayTo_7 ic_4 ?_
  refine lv_icmp_ge (tgt := 49) hx hb d_M_wayTo_8 (by decide) (fun c_11 => ?_) (fun c_11 => ?_)
  · replace hf := kifp c_11 hf
    refine lv_iload_n hx hb d_M_wayTo_49 rfl (lv_at hl 3 rfl) ?_
    have e_ := Option.some.inj hf
    subst e_
    exact k_iret X rfl hV rfl d_M_wayTo_50
  replace hf := kifn c_11 hf
  refine lv_iload_n hx hb d_M_wayTo_11 rfl (lv_at hl 1 rfl) ?_
  obtain ⟨r_12, hc_13, hf⟩ := kb1_some hf
  refine k_csi (w1 := (wd_M_isCell D)) (r := r_12) (ws' := (wd_M_wayTo D h h_now h_kept h_aside h_found h_down h_along h_parts h_gone h_tape h_kinds h_items h_widths h_sizes h_numbers h_moved v_isKept v_taped v_begins v_ends v_sort v_value v_isWrong v_itemMany v_farmMany v_farmCells v_down v_along)) X hV hl.1 (c_M_isCell D x1 hc_13) fk_M_isCell gw_967 rfl [] [none, none, none] rfl rfl ⟨rfl, rfl, rfl, trivial⟩ rfl rfl rfl d_M_wayTo_12 (fun H locs hV => ?_)
  refine lv_if_eq (tgt := 49) hx hb d_M_wayTo_15 (by decide) (fun c_14 => ?_) (fun c_14 => ?_)
  · replace hf := kifp c_14 hf
    refine lv_iload_n hx hb d_M_wayTo_49 rfl (lv_at hl 3 rfl) ?_
    have e_ := Option.some.inj hf
    subst e_
    exact k_iret X rfl hV rfl d_M_wayTo_50
  replace hf := kifn c_14 hf
  refine lv_iload_n hx hb d_M_wayTo_18 rfl (lv_at hl 2 rfl) ?_
  obtain ⟨r_15, hc_16, hf⟩ := kb1_some hf
  refine k_csi (w1 := (wd_M_isCell D)) (r := r_15) (ws' := (wd_M_wayTo D h h_now h_kept h_aside h_found h_down h_along h_parts h_gone h_tape h_kinds h_items h_widths h_sizes h_numbers h_moved v_isKept v_taped v_begins v_ends v_sort v_value v_isWrong v_itemMany v_farmMany v_farmCells v_down v_along)) X hV hl.1 (c_M_isCell D x2 hc_16) fk_M_isCell gw_967 rfl [] [none, none, none] rfl rfl ⟨rfl, rfl, rfl, trivial⟩ rfl rfl rfl d_M_wayTo_19 (fun H locs hV => ?_)
  refine lv_if_eq (tgt := 49) hx hb d_M_wayTo_22 (by decide) (fun c_17 => ?_) (fun c_17 => ?_)
  · replace hf := kifp c_17 hf
    refine lv_iload_n hx hb d_M_wayTo_49 rfl (lv_at hl 3 rfl) ?_
    have e_ := Option.some.inj hf
    subst e_
    exact k_iret X rfl hV rfl d_M_wayTo_50
  replace hf := kifn c_17 hf
  refine lv_aload_n hx hb d_M_wayTo_25 rfl (lv_at hl 0 rfl) ?_
  refine lv_iload_n hx hb d_M_wayTo_26 rfl (lv_at hl 1 rfl) ?_
  refine lv_iload hx hb d_M_wayTo_27 (lv_at hl 4 rfl) ?_
  obtain ⟨r_18, hc_19, hf⟩ := kb1_some hf
  refine k_cvi (w1 := (wd_M_cellIn D h h_now h_kept h_aside h_found h_down h_along h_parts h_gone h_tape h_kinds h_items h_widths h_sizes h_numbers h_moved v_isKept v_taped v_begins v_ends v_sort v_value v_isWrong v_itemMany v_farmMany v_farmCells v_down v_along)) (r := r_18) (ws' := (wd_M_wayTo D h h_now h_kept h_aside h_found h_down h_along h_parts h_gone h_tape h_kinds h_items h_widths h_sizes h_numbers h_moved v_isKept v_taped v_begins v_ends v_sort v_value v_isWrong v_itemMany v_farmMany v_farmCells v_down v_along)) X hV hl.1 (c_M_cellIn D h h_now h_kept h_aside h_found h_down h_along h_parts h_gone h_tape h_kinds h_items h_widths h_sizes h_numbers h_moved v_isKept v_taped v_begins v_ends v_sort v_value v_isWrong v_itemMany v_farmMany v_farmCells v_down v_along x1 x4 hc_19) fk_M_cellIn gw_1006 rfl 0 9 rfl rfl [0, 1, 2] [some 0, some 1, some 2] rfl rfl ⟨rfl, rfl, rfl, rfl, rfl, rfl, rfl, rfl, rfl, trivial⟩ rfl rfl rfl d_M_wayTo_29 (fun H locs hV => ?_)
  refine lv_iload_n hx hb d_M_wayTo_32 rfl (lv_at hl 2 rfl) ?_
  refine lv_icmp_ne (tgt := 41) hx hb d_M_wayTo_33 (by decide) (fun c_20 => ?_) (fun c_20 => ?_)
  · replace hf := kifn c_20 hf
    refine lv_iload_n hx hb d_M_wayTo_41 rfl (lv_at hl 3 rfl) ?_
    refine lv_istore_n (lv' := [(3, .int x3), (0, .ref h), (1, .int x1), (2, .int x2), (4, .int x4)]) hx hb d_M_wayTo_42 rfl hl (by decide) rfl (fun ls hl => ?_)
    refine lv_iinc (v := (x4 + 1)) (lv' := [(4, .int (x4 + 1)), (3, .int x3), (0, .ref h), (1, .int x1), (2, .int x2)]) hx hb d_M_wayTo_43 hl (k := 4) rfl rfl (by decide) rfl (fun ls hl => ?_)
    refine lv_goto (tgt := 5) hx hb d_M_wayTo_46 (by decide) ?_
    exact hrec1 _ _ hf _ _ _ hV (lv_sub hl [2, 3, 4, 1, 0] rfl)
  replace hf := kifp c_20 hf
  refine lv_iload hx hb d_M_wayTo_36 (lv_at hl 4 rfl) ?_
  refine lv_goto (tgt := 42) hx hb d_M_wayTo_38 (by decide) ?_
  refine lv_istore_n (lv' := [(3, .int x4), (0, .ref h), (1, .int x1), (2, .int x2), (4, .int x4)]) hx hb d_M_wayTo_42 rfl hl (by decide) rfl (fun ls hl => ?_)
  refine lv_iinc (v := (x4 + 1)) (lv' := [(4, .int (x4 + 1)), (3, .int x4), (0, .ref h), (1, .int x1), (2, .int x2)]) hx hb d_M_wayTo_43 hl (k := 4) rfl rfl (by decide) rfl (fun ls hl => ?_)
  refine lv_goto (tgt := 5) hx hb d_M_wayTo_46 (by decide) ?_
  exact hrec1 _ _ hf _ _ _ hV (lv_sub hl [2, 3, 4, 1, 0] rfl)
set_option maxHeartbeats 2000000 in
set_option maxRecDepth 20000 in
theorem tl_M_wayTo_1 {l : Launch} {p : Program} {e : Env} {s : State} {m : MethodId} {args : Array Value} {below : List Frame} {meth : Method} {c : Code} {D : kD} {wc0 : va_W} {h : Nat} {h_now : Nat} {h_kept : Nat} {h_aside : Nat} {h_found : Nat} {h_down : Nat} {h_along : Nat} {h_parts : Nat} {h_gone : Nat} {h_tape : Nat} {h_kinds : Nat} {h_items : Nat} {h_widths : Nat} {h_sizes : Nat} {h_numbers : Nat} {h_moved : Nat} {v_isKept : Int32} {v_taped : Int32} {v_begins : Int32} {v_ends : Int32} {v_sort : Int32} {v_value : Int32} {v_isWrong : Int32} {v_itemMany : Int32} {v_farmMany : Int32} {v_farmCells : Int64} {v_down : Nat → Int32} {v_along : Nat → Int32} {x1 : Int32} {x2 : Int32} {out : Int32} (X : kX p m meth c s args D (va_A wc0 s.heap.size) b_M_wayTo "MountainFarmsModel" 5 (some .int)) : ∀ (n : Nat) (x3 : Int32) (x4 : Int32), fl_M_wayTo_1 x1 x2 v_down v_along n x3 x4 = some out → ∀ (H : Heap) (locs : List Loc) (ls : Array Slot), kV D (va_A wc0 s.heap.size) s (wd_M_wayTo D h h_now h_kept h_aside h_found h_down h_along h_parts h_gone h_tape h_kinds h_items h_widths h_sizes h_numbers h_moved v_isKept v_taped v_begins v_ends v_sort v_value v_isWrong v_itemMany v_farmMany v_farmCells v_down v_along) H locs → lv_has ls 5 [(0, .ref h), (1, .int x1), (2, .int x2), (3, .int x3), (4, .int x4)] → W p l e { frames := 2, cells := 0, slots := 0, locals := 46 } s m args below meth c H locs 0 0 (MQ below (kQi D wc0 (wd_M_wayTo D h h_now h_kept h_aside h_found h_down h_along h_parts h_gone h_tape h_kinds h_items h_widths h_sizes h_numbers h_moved v_isKept v_taped v_begins v_ends v_sort v_value v_isWrong v_itemMany v_farmMany v_farmCells v_down v_along) s.heap.size out) args s 0 0 (va_A wc0 s.heap.size)) (F0 m 5 ls []) := by
  intro n
  induction n with
  | zero => intro x3 x4 hf; exact knone hf
  | succ n ih => intro x3 x4 hf H locs ls hV hl; exact tb_M_wayTo_1 X ih hf hV hl
set_option maxHeartbeats 2000000 in
set_option maxRecDepth 20000 in
theorem t_M_wayTo {l : Launch} {p : Program} {e : Env} {s : State} {m : MethodId} {args : Array Value} {below : List Frame} {meth : Method} {c : Code} {D : kD} {wc0 : va_W} {h : Nat} {h_now : Nat} {h_kept : Nat} {h_aside : Nat} {h_found : Nat} {h_down : Nat} {h_along : Nat} {h_parts : Nat} {h_gone : Nat} {h_tape : Nat} {h_kinds : Nat} {h_items : Nat} {h_widths : Nat} {h_sizes : Nat} {h_numbers : Nat} {h_moved : Nat} {v_isKept : Int32} {v_taped : Int32} {v_begins : Int32} {v_ends : Int32} {v_sort : Int32} {v_value : Int32} {v_isWrong : Int32} {v_itemMany : Int32} {v_farmMany : Int32} {v_farmCells : Int64} {v_down : Nat → Int32} {v_along : Nat → Int32} {x1 : Int32} {x2 : Int32} {out : Int32} (X : kX p m meth c s args D (va_A wc0 s.heap.size) b_M_wayTo "MountainFarmsModel" 5 (some .int)) (hf : f_M_wayTo v_down v_along x1 x2 = some out) {H : Heap} {locs : List Loc} (hV : kV D (va_A wc0 s.heap.size) s (wd_M_wayTo D h h_now h_kept h_aside h_found h_down h_along h_parts h_gone h_tape h_kinds h_items h_widths h_sizes h_numbers h_moved v_isKept v_taped v_begins v_ends v_sort v_value v_isWrong v_itemMany v_farmMany v_farmCells v_down v_along) H locs) {ls : Array Slot} (hl : lv_has ls 5 [(0, .ref h), (1, .int x1), (2, .int x2)]) : W p l e { frames := 2, cells := 0, slots := 0, locals := 46 } s m args below meth c H locs 0 0 (MQ below (kQi D wc0 (wd_M_wayTo D h h_now h_kept h_aside h_found h_down h_along h_parts h_gone h_tape h_kinds h_items h_widths h_sizes h_numbers h_moved v_isKept v_taped v_begins v_ends v_sort v_value v_isWrong v_itemMany v_farmMany v_farmCells v_down v_along) s.heap.size out) args s 0 0 (va_A wc0 s.heap.size)) (F0 m 0 ls []) := by
  unfold f_M_wayTo at hf
  obtain ⟨hx, hb, -⟩ := id X
  refine lv_iconst (v := (-1)) hx hb d_M_wayTo_0 ic_m1 ?_
  refine lv_istore_n (lv' := [(3, .int (-1 : Int32)), (0, .ref h), (1, .int x1), (2, .int x2)]) hx hb d_M_wayTo_1 rfl hl (by decide) rfl (fun ls hl => ?_)
  refine lv_iconst (v := 0) hx hb d_M_wayTo_2 ic_0 ?_
  refine lv_istore (lv' := [(4, .int (0 : Int32)), (3, .int (-1 : Int32)), (0, .ref h), (1, .int x1), (2, .int x2)]) hx hb d_M_wayTo_3 hl (by decide) rfl (fun ls hl => ?_)
  exact tl_M_wayTo_1 X _ _ _ hf _ _ _ hV (lv_sub hl [2, 3, 4, 1, 0] rfl)
set_option maxHeartbeats 2000000 in
set_option maxRecDepth 20000 in
theorem c_M_wayTo {l : Launch} (D : kD) (h : Nat) (h_now : Nat) (h_kept : Nat) (h_aside : Nat) (h_found : Nat) (h_down : Nat) (h_along : Nat) (h_parts : Nat) (h_gone : Nat) (h_tape : Nat) (h_kinds : Nat) (h_items : Nat) (h_widths : Nat) (h_sizes : Nat) (h_numbers : Nat) (h_moved : Nat) (v_isKept : Int32) (v_taped : Int32) (v_begins : Int32) (v_ends : Int32) (v_sort : Int32) (v_value : Int32) (v_isWrong : Int32) (v_itemMany : Int32) (v_farmMany : Int32) (v_farmCells : Int64) (v_down : Nat → Int32) (v_along : Nat → Int32) (x1 : Int32) (x2 : Int32) {out : Int32} (hf : f_M_wayTo v_down v_along x1 x2 = some out) : kMi l D y_M_wayTo b_M_wayTo 5 (some .int) { frames := 2, cells := 0, slots := 0, locals := 46 } [.ref h, .int x1, .int x2] (wd_M_wayTo D h h_now h_kept h_aside h_found h_down h_along h_parts h_gone h_tape h_kinds h_items h_widths h_sizes h_numbers h_moved v_isKept v_taped v_begins v_ends v_sort v_value v_isWrong v_itemMany v_farmMany v_farmCells v_down v_along) (wd_M_wayTo D h h_now h_kept h_aside h_found h_down h_along h_parts h_gone h_tape h_kinds h_items h_widths h_sizes h_numbers h_moved v_isKept v_taped v_begins v_ends v_sort v_value v_isWrong v_itemMany v_farmMany v_farmCells v_down v_along) out :=
  kMi_of (own := "MountainFarmsModel") (plainFor_of_name (by decide)) rfl rfl (fun p e s m args below meth c ls X hV hl => t_M_wayTo X hf hV hl)
set_option maxHeartbeats 2000000 in
set_option maxRecDepth 20000 in
theorem t_M_hasWall {l : Launch} {p : Program} {e : Env} {s : State} {m : MethodId} {args : Array Value} {below : List Frame} {meth : Method} {c : Code} {D : kD} {wc0 : va_W} {h : Nat} {h_now : Nat} {h_kept : Nat} {h_aside : Nat} {h_found : Nat} {h_down : Nat} {h_along : Nat} {h_parts : Nat} {h_gone : Nat} {h_tape : Nat} {h_kinds : Nat} {h_items : Nat} {h_widths : Nat} {h_sizes : Nat} {h_numbers : Nat} {h_moved : Nat} {v_isKept : Int32} {v_taped : Int32} {v_begins : Int32} {v_ends : Int32} {v_sort : Int32} {v_value : Int32} {v_isWrong : Int32} {v_itemMany : Int32} {v_farmMany : Int32} {v_farmCells : Int64} {v_now : Nat → Int32} {x1 : Int32} {x2 : Int32} {out : Int32} (X : kX p m meth c s args D (va_A wc0 s.heap.size) b_M_hasWall "MountainFarmsModel" 3 (some .boolean)) (hf : f_M_hasWall v_now x1 x2 = some out) {H : Heap} {locs : List Loc} (hV : kV D (va_A wc0 s.heap.size) s (wd_M_hasWall D h h_now h_kept h_aside h_found h_down h_along h_parts h_gone h_tape h_kinds h_items h_widths h_sizes h_numbers h_moved v_isKept v_taped v_begins v_ends v_sort v_value v_isWrong v_itemMany v_farmMany v_farmCells v_now) H locs) {ls : Array Slot} (hl : lv_has ls 3 [(0, .ref h), (1, .int x1), (2, .int x2)]) : W p l e { frames := 0, cells := 0, slots := 0, locals := 0 } s m args below meth c H locs 0 0 (MQ below (kQi D wc0 (wd_M_hasWall D h h_now h_kept h_aside h_found h_down h_along h_parts h_gone h_tape h_kinds h_items h_widths h_sizes h_numbers h_moved v_isKept v_taped v_begins v_ends v_sort v_value v_isWrong v_itemMany v_farmMany v_farmCells v_now) s.heap.size out) args s 0 0 (va_A wc0 s.heap.size)) (F0 m 0 ls []) := by
  unfold f_M_hasWall at hf
  obtain ⟨hx, hb, -⟩ := id X
  refine lv_aload_n hx hb d_M_hasWall_0 rfl (lv_at hl 0 rfl) ?_
  refine k_get X hV 0 9 0 rfl rfl rfl gw_887 rfl rfl d_M_hasWall_1 ?_
  refine lv_bipush (v := 122) hx hb d_M_hasWall_4 bp_122 ?_
  refine lv_iload_n hx hb d_M_hasWall_6 rfl (lv_at hl 1 rfl) ?_
  refine lv_iadd hx hb d_M_hasWall_7 ?_
  obtain ⟨h_3, hf⟩ := kidx_some hf
  refine k_iald X hV 1 rfl h_3 rfl d_M_hasWall_8 ?_
  refine lv_iload_n hx hb d_M_hasWall_9 rfl (lv_at hl 2 rfl) ?_
  refine lv_ishr hx hb d_M_hasWall_10 ?_
  refine lv_iconst (v := 1) hx hb d_M_hasWall_11 ic_1 ?_
  refine lv_iand hx hb d_M_hasWall_12 ?_
  refine lv_iconst (v := 1) hx hb d_M_hasWall_13 ic_1 ?_
  refine lv_icmp_ne (tgt := 21) hx hb d_M_hasWall_14 (by decide) (fun c_4 => ?_) (fun c_4 => ?_)
  · replace hf := kifn c_4 hf
    refine lv_iconst (v := 0) hx hb d_M_hasWall_21 ic_0 ?_
    have e_ := Option.some.inj hf
    subst e_
    exact k_iret (v := 0) X rfl hV nb0 d_M_hasWall_22
  replace hf := kifp c_4 hf
  refine lv_iconst (v := 1) hx hb d_M_hasWall_17 ic_1 ?_
  refine lv_goto (tgt := 22) hx hb d_M_hasWall_18 (by decide) ?_
  have e_ := Option.some.inj hf
  subst e_
  exact k_iret (v := 1) X rfl hV nb1 d_M_hasWall_22
set_option maxHeartbeats 2000000 in
set_option maxRecDepth 20000 in
theorem c_M_hasWall {l : Launch} (D : kD) (h : Nat) (h_now : Nat) (h_kept : Nat) (h_aside : Nat) (h_found : Nat) (h_down : Nat) (h_along : Nat) (h_parts : Nat) (h_gone : Nat) (h_tape : Nat) (h_kinds : Nat) (h_items : Nat) (h_widths : Nat) (h_sizes : Nat) (h_numbers : Nat) (h_moved : Nat) (v_isKept : Int32) (v_taped : Int32) (v_begins : Int32) (v_ends : Int32) (v_sort : Int32) (v_value : Int32) (v_isWrong : Int32) (v_itemMany : Int32) (v_farmMany : Int32) (v_farmCells : Int64) (v_now : Nat → Int32) (x1 : Int32) (x2 : Int32) {out : Int32} (hf : f_M_hasWall v_now x1 x2 = some out) : kMi l D y_M_hasWall b_M_hasWall 3 (some .boolean) { frames := 0, cells := 0, slots := 0, locals := 0 } [.ref h, .int x1, .int x2] (wd_M_hasWall D h h_now h_kept h_aside h_found h_down h_along h_parts h_gone h_tape h_kinds h_items h_widths h_sizes h_numbers h_moved v_isKept v_taped v_begins v_ends v_sort v_value v_isWrong v_itemMany v_farmMany v_farmCells v_now) (wd_M_hasWall D h h_now h_kept h_aside h_found h_down h_along h_parts h_gone h_tape h_kinds h_items h_widths h_sizes h_numbers h_moved v_isKept v_taped v_begins v_ends v_sort v_value v_isWrong v_itemMany v_farmMany v_farmCells v_now) out :=
  kMi_of (own := "MountainFarmsModel") (plainFor_of_name (by decide)) rfl rfl (fun p e s m args below meth c ls X hV hl => t_M_hasWall X hf hV hl)
set_option maxHeartbeats 2000000 in
set_option maxRecDepth 20000 in
theorem t_M_putWall_2 {l : Launch} {p : Program} {e : Env} {s : State} {m : MethodId} {args : Array Value} {below : List Frame} {meth : Method} {c : Code} {D : kD} {wc0 : va_W} {h : Nat} {h_now : Nat} {h_kept : Nat} {h_aside : Nat} {h_found : Nat} {h_down : Nat} {h_along : Nat} {h_parts : Nat} {h_gone : Nat} {h_tape : Nat} {h_kinds : Nat} {h_items : Nat} {h_widths : Nat} {h_sizes : Nat} {h_numbers : Nat} {h_moved : Nat} {v_isKept : Int32} {v_taped : Int32} {v_begins : Int32} {v_ends : Int32} {v_sort : Int32} {v_value : Int32} {v_isWrong : Int32} {v_itemMany : Int32} {v_farmMany : Int32} {v_farmCells : Int64} {v_now : Nat → Int32} {v_down : Nat → Int32} {v_along : Nat → Int32} {s1 : Int32} {s2 : Int32} {out : (Nat → Int32)} (X : kX p m meth c s args D (va_A wc0 s.heap.size) b_M_putWall "MountainFarmsModel" 6 none) (hf : f_M_putWall_2 s1 s2 v_now = some out) {H : Heap} {locs : List Loc} (hV : kV D (va_A wc0 s.heap.size) s (wd_M_putWall D h h_now h_kept h_aside h_found h_down h_along h_parts h_gone h_tape h_kinds h_items h_widths h_sizes h_numbers h_moved v_isKept v_taped v_begins v_ends v_sort v_value v_isWrong v_itemMany v_farmMany v_farmCells v_now v_down v_along) H locs) {ls : Array Slot} (hl : lv_has ls 6 []) : W p l e { frames := 2, cells := 0, slots := 0, locals := 46 } s m args below meth c H locs 0 0 (MQ below (kQv D wc0 (wd_M_putWall D h h_now h_kept h_aside h_found h_down h_along h_parts h_gone h_tape h_kinds h_items h_widths h_sizes h_numbers h_moved v_isKept v_taped v_begins v_ends v_sort v_value v_isWrong v_itemMany v_farmMany v_farmCells out v_down v_along) s.heap.size) args s 0 0 (va_A wc0 s.heap.size)) (F0 m 107 ls [.int s2, .int s1, .ref h_now]) := by
  unfold f_M_putWall_2 at hf
  obtain ⟨hx, hb, -⟩ := id X
  obtain ⟨h_22, hf⟩ := kidx_some hf
  refine k_iast (ws' := (wd_M_putWall D h h_now h_kept h_aside h_found h_down h_along h_parts h_gone h_tape h_kinds h_items h_widths h_sizes h_numbers h_moved v_isKept v_taped v_begins v_ends v_sort v_value v_isWrong v_itemMany v_farmMany v_farmCells (upd v_now s1.toNatClampNeg s2) v_down v_along)) X hV 1 rfl h_22 rfl rfl d_M_putWall_107 (fun H locs hV => ?_)
  have e_ := Option.some.inj hf
  subst e_
  exact k_vret X rfl hV d_M_putWall_108
set_option maxHeartbeats 2000000 in
set_option maxRecDepth 20000 in
theorem t_M_putWall_1 {l : Launch} {p : Program} {e : Env} {s : State} {m : MethodId} {args : Array Value} {below : List Frame} {meth : Method} {c : Code} {D : kD} {wc0 : va_W} {h : Nat} {h_now : Nat} {h_kept : Nat} {h_aside : Nat} {h_found : Nat} {h_down : Nat} {h_along : Nat} {h_parts : Nat} {h_gone : Nat} {h_tape : Nat} {h_kinds : Nat} {h_items : Nat} {h_widths : Nat} {h_sizes : Nat} {h_numbers : Nat} {h_moved : Nat} {v_isKept : Int32} {v_taped : Int32} {v_begins : Int32} {v_ends : Int32} {v_sort : Int32} {v_value : Int32} {v_isWrong : Int32} {v_itemMany : Int32} {v_farmMany : Int32} {v_farmCells : Int64} {v_now : Nat → Int32} {v_down : Nat → Int32} {v_along : Nat → Int32} {s1 : Int32} {s2 : Int32} {x3 : Int32} {x4 : Int32} {x5 : Int32} {out : (Nat → Int32)} (X : kX p m meth c s args D (va_A wc0 s.heap.size) b_M_putWall "MountainFarmsModel" 6 none) (hf : f_M_putWall_1 s1 s2 x3 x4 x5 v_now = some out) {H : Heap} {locs : List Loc} (hV : kV D (va_A wc0 s.heap.size) s (wd_M_putWall D h h_now h_kept h_aside h_found h_down h_along h_parts h_gone h_tape h_kinds h_items h_widths h_sizes h_numbers h_moved v_isKept v_taped v_begins v_ends v_sort v_value v_isWrong v_itemMany v_farmMany v_farmCells v_now v_down v_along) H locs) {ls : Array Slot} (hl : lv_has ls 6 [(0, .ref h), (3, .int x3), (4, .int x4), (5, .int x5)]) : W p l e { frames := 2, cells := 0, slots := 0, locals := 46 } s m args below meth c H locs 0 0 (MQ below (kQv D wc0 (wd_M_putWall D h h_now h_kept h_aside h_found h_down h_along h_parts h_gone h_tape h_kinds h_items h_widths h_sizes h_numbers h_moved v_isKept v_taped v_begins v_ends v_sort v_value v_isWrong v_itemMany v_farmMany v_farmCells out v_down v_along) s.heap.size) args s 0 0 (va_A wc0 s.heap.size)) (F0 m 58 ls [.int s2, .int s1, .ref h_now]) := by
  unfold f_M_putWall_1 at hf
  obtain ⟨hx, hb, -⟩ := id X
  obtain ⟨h_18, hf⟩ := kidx_some hf
  refine k_iast (ws' := (wd_M_putWall D h h_now h_kept h_aside h_found h_down h_along h_parts h_gone h_tape h_kinds h_items h_widths h_sizes h_numbers h_moved v_isKept v_taped v_begins v_ends v_sort v_value v_isWrong v_itemMany v_farmMany v_farmCells (upd v_now s1.toNatClampNeg s2) v_down v_along)) X hV 1 rfl h_18 rfl rfl d_M_putWall_58 (fun H locs hV => ?_)
  refine lv_aload_n hx hb d_M_putWall_59 rfl (lv_at hl 0 rfl) ?_
  refine k_get X hV 0 9 0 rfl rfl rfl gw_887 rfl rfl d_M_putWall_60 ?_
  refine lv_bipush (v := 122) hx hb d_M_putWall_63 bp_122 ?_
  refine lv_iload hx hb d_M_putWall_65 (lv_at hl 2 rfl) ?_
  refine lv_iadd hx hb d_M_putWall_67 ?_
  refine lv_iload_n hx hb d_M_putWall_68 rfl (lv_at hl 1 rfl) ?_
  refine lv_if_eq (tgt := 90) hx hb d_M_putWall_69 (by decide) (fun c_19 => ?_) (fun c_19 => ?_)
  · replace hf := kifp c_19 hf
    refine lv_aload_n hx hb d_M_putWall_90 rfl (lv_at hl 0 rfl) ?_
    refine k_get X hV 0 9 0 rfl rfl rfl gw_887 rfl rfl d_M_putWall_91 ?_
    refine lv_bipush (v := 122) hx hb d_M_putWall_94 bp_122 ?_
    refine lv_iload hx hb d_M_putWall_96 (lv_at hl 2 rfl) ?_
    refine lv_iadd hx hb d_M_putWall_98 ?_
    obtain ⟨h_20, hf⟩ := kidx_some hf
    refine k_iald X hV 1 rfl h_20 rfl d_M_putWall_99 ?_
    refine lv_iconst (v := 1) hx hb d_M_putWall_100 ic_1 ?_
    refine lv_iload hx hb d_M_putWall_101 (lv_at hl 3 rfl) ?_
    refine lv_ishl hx hb d_M_putWall_103 ?_
    refine lv_iconst (v := (-1)) hx hb d_M_putWall_104 ic_m1 ?_
    refine lv_ixor hx hb d_M_putWall_105 ?_
    refine lv_iand hx hb d_M_putWall_106 ?_
    exact t_M_putWall_2 X hf hV (lv_sub hl [] rfl)
  replace hf := kifn c_19 hf
  refine lv_aload_n hx hb d_M_putWall_72 rfl (lv_at hl 0 rfl) ?_
  refine k_get X hV 0 9 0 rfl rfl rfl gw_887 rfl rfl d_M_putWall_73 ?_
  refine lv_bipush (v := 122) hx hb d_M_putWall_76 bp_122 ?_
  refine lv_iload hx hb d_M_putWall_78 (lv_at hl 2 rfl) ?_
  refine lv_iadd hx hb d_M_putWall_80 ?_
  obtain ⟨h_21, hf⟩ := kidx_some hf
  refine k_iald X hV 1 rfl h_21 rfl d_M_putWall_81 ?_
  refine lv_iconst (v := 1) hx hb d_M_putWall_82 ic_1 ?_
  refine lv_iload hx hb d_M_putWall_83 (lv_at hl 3 rfl) ?_
  refine lv_ishl hx hb d_M_putWall_85 ?_
  refine lv_ior hx hb d_M_putWall_86 ?_
  refine lv_goto (tgt := 107) hx hb d_M_putWall_87 (by decide) ?_
  exact t_M_putWall_2 X hf hV (lv_sub hl [] rfl)
set_option maxHeartbeats 2000000 in
set_option maxRecDepth 20000 in
theorem t_M_putWall {l : Launch} {p : Program} {e : Env} {s : State} {m : MethodId} {args : Array Value} {below : List Frame} {meth : Method} {c : Code} {D : kD} {wc0 : va_W} {h : Nat} {h_now : Nat} {h_kept : Nat} {h_aside : Nat} {h_found : Nat} {h_down : Nat} {h_along : Nat} {h_parts : Nat} {h_gone : Nat} {h_tape : Nat} {h_kinds : Nat} {h_items : Nat} {h_widths : Nat} {h_sizes : Nat} {h_numbers : Nat} {h_moved : Nat} {v_isKept : Int32} {v_taped : Int32} {v_begins : Int32} {v_ends : Int32} {v_sort : Int32} {v_value : Int32} {v_isWrong : Int32} {v_itemMany : Int32} {v_farmMany : Int32} {v_farmCells : Int64} {v_now : Nat → Int32} {v_down : Nat → Int32} {v_along : Nat → Int32} {x1 : Int32} {x2 : Int32} {x3 : Int32} {out : (Nat → Int32)} (X : kX p m meth c s args D (va_A wc0 s.heap.size) b_M_putWall "MountainFarmsModel" 6 none) (hf : f_M_putWall v_now v_down v_along x1 x2 x3 = some out) {H : Heap} {locs : List Loc} (hV : kV D (va_A wc0 s.heap.size) s (wd_M_putWall D h h_now h_kept h_aside h_found h_down h_along h_parts h_gone h_tape h_kinds h_items h_widths h_sizes h_numbers h_moved v_isKept v_taped v_begins v_ends v_sort v_value v_isWrong v_itemMany v_farmMany v_farmCells v_now v_down v_along) H locs) {ls : Array Slot} (hl : lv_has ls 6 [(0, .ref h), (1, .int x1), (2, .int x2), (3, .int x3)]) : W p l e { frames := 2, cells := 0, slots := 0, locals := 46 } s m args below meth c H locs 0 0 (MQ below (kQv D wc0 (wd_M_putWall D h h_now h_kept h_aside h_found h_down h_along h_parts h_gone h_tape h_kinds h_items h_widths h_sizes h_numbers h_moved v_isKept v_taped v_begins v_ends v_sort v_value v_isWrong v_itemMany v_farmMany v_farmCells out v_down v_along) s.heap.size) args s 0 0 (va_A wc0 s.heap.size)) (F0 m 0 ls []) := by
  unfold f_M_putWall at hf
  obtain ⟨hx, hb, -⟩ := id X
  refine lv_aload_n hx hb d_M_putWall_0 rfl (lv_at hl 0 rfl) ?_
  refine lv_iload_n hx hb d_M_putWall_1 rfl (lv_at hl 1 rfl) ?_
  refine lv_iload_n hx hb d_M_putWall_2 rfl (lv_at hl 2 rfl) ?_
  obtain ⟨r_12, hc_13, hf⟩ := kb1_some hf
  refine k_cvi (w1 := (wd_M_cellIn D h h_now h_kept h_aside h_found h_down h_along h_parts h_gone h_tape h_kinds h_items h_widths h_sizes h_numbers h_moved v_isKept v_taped v_begins v_ends v_sort v_value v_isWrong v_itemMany v_farmMany v_farmCells v_down v_along)) (r := r_12) (ws' := (wd_M_putWall D h h_now h_kept h_aside h_found h_down h_along h_parts h_gone h_tape h_kinds h_items h_widths h_sizes h_numbers h_moved v_isKept v_taped v_begins v_ends v_sort v_value v_isWrong v_itemMany v_farmMany v_farmCells v_now v_down v_along)) X hV hl.1 (c_M_cellIn D h h_now h_kept h_aside h_found h_down h_along h_parts h_gone h_tape h_kinds h_items h_widths h_sizes h_numbers h_moved v_isKept v_taped v_begins v_ends v_sort v_value v_isWrong v_itemMany v_farmMany v_farmCells v_down v_along x1 x2 hc_13) fk_M_cellIn gw_1006 rfl 0 9 rfl rfl [0, 2, 3] [some 0, none, some 1, some 2] rfl rfl ⟨rfl, rfl, rfl, rfl, rfl, rfl, rfl, rfl, rfl, rfl, trivial⟩ rfl rfl rfl d_M_putWall_3 (fun H locs hV => ?_)
  refine lv_istore (lv' := [(4, .int r_12), (0, .ref h), (1, .int x1), (2, .int x2), (3, .int x3)]) hx hb d_M_putWall_6 hl (by decide) rfl (fun ls hl => ?_)
  refine lv_iload_n hx hb d_M_putWall_8 rfl (lv_at hl 3 rfl) ?_
  refine lv_iconst (v := 2) hx hb d_M_putWall_9 ic_2 ?_
  refine lv_iadd hx hb d_M_putWall_10 ?_
  refine lv_iconst (v := 4) hx hb d_M_putWall_11 ic_4 ?_
  refine lv_irem hx hb d_M_putWall_12 (by decide) ?_
  refine k_leti hf (fun x5_14 hf => ?_)
  refine lv_istore (lv' := [(5, .int x5_14), (4, .int r_12), (0, .ref h), (1, .int x1), (2, .int x2), (3, .int x3)]) hx hb d_M_putWall_13 hl (by decide) rfl (fun ls hl => ?_)
  refine lv_aload_n hx hb d_M_putWall_15 rfl (lv_at hl 2 rfl) ?_
  refine k_get X hV 0 9 0 rfl rfl rfl gw_887 rfl rfl d_M_putWall_16 ?_
  refine lv_bipush (v := 122) hx hb d_M_putWall_19 bp_122 ?_
  refine lv_iload_n hx hb d_M_putWall_21 rfl (lv_at hl 3 rfl) ?_
  refine lv_iadd hx hb d_M_putWall_22 ?_
  refine lv_iload_n hx hb d_M_putWall_23 rfl (lv_at hl 5 rfl) ?_
  refine lv_if_eq (tgt := 43) hx hb d_M_putWall_24 (by decide) (fun c_15 => ?_) (fun c_15 => ?_)
  · replace hf := kifp c_15 hf
    refine lv_aload_n hx hb d_M_putWall_43 rfl (lv_at hl 2 rfl) ?_
    refine k_get X hV 0 9 0 rfl rfl rfl gw_887 rfl rfl d_M_putWall_44 ?_
    refine lv_bipush (v := 122) hx hb d_M_putWall_47 bp_122 ?_
    refine lv_iload_n hx hb d_M_putWall_49 rfl (lv_at hl 3 rfl) ?_
    refine lv_iadd hx hb d_M_putWall_50 ?_
    obtain ⟨h_16, hf⟩ := kidx_some hf
    refine k_iald X hV 1 rfl h_16 rfl d_M_putWall_51 ?_
    refine lv_iconst (v := 1) hx hb d_M_putWall_52 ic_1 ?_
    refine lv_iload_n hx hb d_M_putWall_53 rfl (lv_at hl 4 rfl) ?_
    refine lv_ishl hx hb d_M_putWall_54 ?_
    refine lv_iconst (v := (-1)) hx hb d_M_putWall_55 ic_m1 ?_
    refine lv_ixor hx hb d_M_putWall_56 ?_
    refine lv_iand hx hb d_M_putWall_57 ?_
    exact t_M_putWall_1 X hf hV (lv_sub hl [2, 5, 1, 0] rfl)
  replace hf := kifn c_15 hf
  refine lv_aload_n hx hb d_M_putWall_27 rfl (lv_at hl 2 rfl) ?_
  refine k_get X hV 0 9 0 rfl rfl rfl gw_887 rfl rfl d_M_putWall_28 ?_
  refine lv_bipush (v := 122) hx hb d_M_putWall_31 bp_122 ?_
  refine lv_iload_n hx hb d_M_putWall_33 rfl (lv_at hl 3 rfl) ?_
  refine lv_iadd hx hb d_M_putWall_34 ?_
  obtain ⟨h_17, hf⟩ := kidx_some hf
  refine k_iald X hV 1 rfl h_17 rfl d_M_putWall_35 ?_
  refine lv_iconst (v := 1) hx hb d_M_putWall_36 ic_1 ?_
  refine lv_iload_n hx hb d_M_putWall_37 rfl (lv_at hl 4 rfl) ?_
  refine lv_ishl hx hb d_M_putWall_38 ?_
  refine lv_ior hx hb d_M_putWall_39 ?_
  refine lv_goto (tgt := 58) hx hb d_M_putWall_40 (by decide) ?_
  exact t_M_putWall_1 X hf hV (lv_sub hl [2, 5, 1, 0] rfl)
set_option maxHeartbeats 2000000 in
set_option maxRecDepth 20000 in
theorem c_M_putWall {l : Launch} (D : kD) (h : Nat) (h_now : Nat) (h_kept : Nat) (h_aside : Nat) (h_found : Nat) (h_down : Nat) (h_along : Nat) (h_parts : Nat) (h_gone : Nat) (h_tape : Nat) (h_kinds : Nat) (h_items : Nat) (h_widths : Nat) (h_sizes : Nat) (h_numbers : Nat) (h_moved : Nat) (v_isKept : Int32) (v_taped : Int32) (v_begins : Int32) (v_ends : Int32) (v_sort : Int32) (v_value : Int32) (v_isWrong : Int32) (v_itemMany : Int32) (v_farmMany : Int32) (v_farmCells : Int64) (v_now : Nat → Int32) (v_down : Nat → Int32) (v_along : Nat → Int32) (x1 : Int32) (x2 : Int32) (x3 : Int32) {out : (Nat → Int32)} (hf : f_M_putWall v_now v_down v_along x1 x2 x3 = some out) : kMv l D y_M_putWall b_M_putWall 6 none { frames := 2, cells := 0, slots := 0, locals := 46 } [.ref h, .int x1, .int x2, .int x3] (wd_M_putWall D h h_now h_kept h_aside h_found h_down h_along h_parts h_gone h_tape h_kinds h_items h_widths h_sizes h_numbers h_moved v_isKept v_taped v_begins v_ends v_sort v_value v_isWrong v_itemMany v_farmMany v_farmCells v_now v_down v_along) (wd_M_putWall D h h_now h_kept h_aside h_found h_down h_along h_parts h_gone h_tape h_kinds h_items h_widths h_sizes h_numbers h_moved v_isKept v_taped v_begins v_ends v_sort v_value v_isWrong v_itemMany v_farmMany v_farmCells out v_down v_along) :=
  kMv_of (own := "MountainFarmsModel") (plainFor_of_name (by decide)) rfl rfl (fun p e s m args below meth c ls X hV hl => t_M_putWall X hf hV hl)
set_option maxHeartbeats 2000000 in
set_option maxRecDepth 20000 in
theorem t_M_wall_1 {l : Launch} {p : Program} {e : Env} {s : State} {m : MethodId} {args : Array Value} {below : List Frame} {meth : Method} {c : Code} {D : kD} {wc0 : va_W} {h : Nat} {h_now : Nat} {h_kept : Nat} {h_aside : Nat} {h_found : Nat} {h_down : Nat} {h_along : Nat} {h_parts : Nat} {h_gone : Nat} {h_tape : Nat} {h_kinds : Nat} {h_items : Nat} {h_widths : Nat} {h_sizes : Nat} {h_numbers : Nat} {h_moved : Nat} {v_isKept : Int32} {v_taped : Int32} {v_begins : Int32} {v_ends : Int32} {v_sort : Int32} {v_value : Int32} {v_isWrong : Int32} {v_itemMany : Int32} {v_farmMany : Int32} {v_farmCells : Int64} {v_now : Nat → Int32} {v_found : Nat → Int32} {v_down : Nat → Int32} {v_along : Nat → Int32} {s0 : Int32} {x1 : Int32} {x3 : Int32} {x4 : Int32} {out : Int32 × (Nat → Int32) × (Nat → Int32)} (X : kX p m meth c s args D (va_A wc0 s.heap.size) b_M_wall "MountainFarmsModel" 6 (some .int)) (hf : f_M_wall_1 s0 x1 x3 x4 v_now v_found v_down v_along = some out) {H : Heap} {locs : List Loc} (hV : kV D (va_A wc0 s.heap.size) s (wd_M_wall D h h_now h_kept h_aside h_found h_down h_along h_parts h_gone h_tape h_kinds h_items h_widths h_sizes h_numbers h_moved v_isKept v_taped v_begins v_ends v_sort v_value v_isWrong v_itemMany v_farmMany v_farmCells v_now v_found v_down v_along) H locs) {ls : Array Slot} (hl : lv_has ls 6 [(0, .ref h), (1, .int x1), (3, .int x3), (4, .int x4)]) : W p l e { frames := 3, cells := 0, slots := 0, locals := 71 } s m args below meth c H locs 0 0 (MQ below (kQi D wc0 (wd_M_wall D h h_now h_kept h_aside h_found h_down h_along h_parts h_gone h_tape h_kinds h_items h_widths h_sizes h_numbers h_moved v_isKept v_taped v_begins v_ends v_sort v_value v_isWrong v_itemMany v_farmMany v_farmCells out.2.1 out.2.2 v_down v_along) s.heap.size out.1) args s 0 0 (va_A wc0 s.heap.size)) (F0 m 36 ls [.int s0]) := by
  unfold f_M_wall_1 at hf
  obtain ⟨hx, hb, -⟩ := id X
  refine lv_istore (lv' := [(5, .int s0), (0, .ref h), (1, .int x1), (3, .int x3), (4, .int x4)]) hx hb d_M_wall_36 hl (by decide) rfl (fun ls hl => ?_)
  refine lv_aload_n hx hb d_M_wall_38 rfl (lv_at hl 1 rfl) ?_
  refine lv_iload_n hx hb d_M_wall_39 rfl (lv_at hl 2 rfl) ?_
  refine lv_iload hx hb d_M_wall_40 (lv_at hl 4 rfl) ?_
  refine lv_iload_n hx hb d_M_wall_42 rfl (lv_at hl 3 rfl) ?_
  obtain ⟨v_now_21, hc_22, hf⟩ := kb1_some hf
  refine k_cvv (w1 := (wd_M_putWall D h h_now h_kept h_aside h_found h_down h_along h_parts h_gone h_tape h_kinds h_items h_widths h_sizes h_numbers h_moved v_isKept v_taped v_begins v_ends v_sort v_value v_isWrong v_itemMany v_farmMany v_farmCells v_now_21 v_down v_along)) (ws' := (wd_M_wall D h h_now h_kept h_aside h_found h_down h_along h_parts h_gone h_tape h_kinds h_items h_widths h_sizes h_numbers h_moved v_isKept v_taped v_begins v_ends v_sort v_value v_isWrong v_itemMany v_farmMany v_farmCells v_now_21 v_found v_down v_along)) X hV hl.1 (c_M_putWall D h h_now h_kept h_aside h_found h_down h_along h_parts h_gone h_tape h_kinds h_items h_widths h_sizes h_numbers h_moved v_isKept v_taped v_begins v_ends v_sort v_value v_isWrong v_itemMany v_farmMany v_farmCells v_now v_down v_along x1 x4 x3 hc_22) fk_M_putWall gw_1014 rfl 0 9 rfl rfl [0, 1, 3, 4] [some 0, some 1, none, some 2, some 3] rfl rfl ⟨rfl, rfl, rfl, rfl, rfl, rfl, rfl, rfl, rfl, rfl, rfl, rfl, rfl, trivial⟩ rfl rfl rfl d_M_wall_43 (fun H locs hV => ?_)
  refine lv_iload hx hb d_M_wall_46 (lv_at hl 0 rfl) ?_
  have e_ := Option.some.inj hf
  subst e_
  exact k_iret X rfl hV rfl d_M_wall_48
set_option maxHeartbeats 2000000 in
set_option maxRecDepth 20000 in
theorem t_M_wall {l : Launch} {p : Program} {e : Env} {s : State} {m : MethodId} {args : Array Value} {below : List Frame} {meth : Method} {c : Code} {D : kD} {wc0 : va_W} {h : Nat} {h_now : Nat} {h_kept : Nat} {h_aside : Nat} {h_found : Nat} {h_down : Nat} {h_along : Nat} {h_parts : Nat} {h_gone : Nat} {h_tape : Nat} {h_kinds : Nat} {h_items : Nat} {h_widths : Nat} {h_sizes : Nat} {h_numbers : Nat} {h_moved : Nat} {v_isKept : Int32} {v_taped : Int32} {v_begins : Int32} {v_ends : Int32} {v_sort : Int32} {v_value : Int32} {v_isWrong : Int32} {v_itemMany : Int32} {v_farmMany : Int32} {v_farmCells : Int64} {v_now : Nat → Int32} {v_found : Nat → Int32} {v_down : Nat → Int32} {v_along : Nat → Int32} {x1 : Int32} {x2 : Int32} {x3 : Int32} {out : Int32 × (Nat → Int32) × (Nat → Int32)} (X : kX p m meth c s args D (va_A wc0 s.heap.size) b_M_wall "MountainFarmsModel" 6 (some .int)) (hf : f_M_wall v_now v_found v_down v_along x1 x2 x3 = some out) {H : Heap} {locs : List Loc} (hV : kV D (va_A wc0 s.heap.size) s (wd_M_wall D h h_now h_kept h_aside h_found h_down h_along h_parts h_gone h_tape h_kinds h_items h_widths h_sizes h_numbers h_moved v_isKept v_taped v_begins v_ends v_sort v_value v_isWrong v_itemMany v_farmMany v_farmCells v_now v_found v_down v_along) H locs) {ls : Array Slot} (hl : lv_has ls 6 [(0, .ref h), (1, .int x1), (2, .int x2), (3, .int x3)]) : W p l e { frames := 3, cells := 0, slots := 0, locals := 71 } s m args below meth c H locs 0 0 (MQ below (kQi D wc0 (wd_M_wall D h h_now h_kept h_aside h_found h_down h_along h_parts h_gone h_tape h_kinds h_items h_widths h_sizes h_numbers h_moved v_isKept v_taped v_begins v_ends v_sort v_value v_isWrong v_itemMany v_farmMany v_farmCells out.2.1 out.2.2 v_down v_along) s.heap.size out.1) args s 0 0 (va_A wc0 s.heap.size)) (F0 m 0 ls []) := by
  unfold f_M_wall at hf
  obtain ⟨hx, hb, -⟩ := id X
  refine lv_aload_n hx hb d_M_wall_0 rfl (lv_at hl 0 rfl) ?_
  refine lv_iload_n hx hb d_M_wall_1 rfl (lv_at hl 1 rfl) ?_
  refine lv_iload_n hx hb d_M_wall_2 rfl (lv_at hl 2 rfl) ?_
  obtain ⟨r_12, hc_13, hf⟩ := kb1_some hf
  refine k_cvi (w1 := (wd_M_wayTo D h h_now h_kept h_aside h_found h_down h_along h_parts h_gone h_tape h_kinds h_items h_widths h_sizes h_numbers h_moved v_isKept v_taped v_begins v_ends v_sort v_value v_isWrong v_itemMany v_farmMany v_farmCells v_down v_along)) (r := r_12) (ws' := (wd_M_wall D h h_now h_kept h_aside h_found h_down h_along h_parts h_gone h_tape h_kinds h_items h_widths h_sizes h_numbers h_moved v_isKept v_taped v_begins v_ends v_sort v_value v_isWrong v_itemMany v_farmMany v_farmCells v_now v_found v_down v_along)) X hV hl.1 (c_M_wayTo D h h_now h_kept h_aside h_found h_down h_along h_parts h_gone h_tape h_kinds h_items h_widths h_sizes h_numbers h_moved v_isKept v_taped v_begins v_ends v_sort v_value v_isWrong v_itemMany v_farmMany v_farmCells v_down v_along x1 x2 hc_13) fk_M_wayTo gw_1002 rfl 0 9 rfl rfl [0, 3, 4] [some 0, none, none, some 1, some 2] rfl rfl ⟨rfl, rfl, rfl, rfl, rfl, rfl, rfl, rfl, rfl, rfl, rfl, trivial⟩ rfl rfl rfl d_M_wall_3 (fun H locs hV => ?_)
  refine lv_istore (lv' := [(4, .int r_12), (0, .ref h), (1, .int x1), (2, .int x2), (3, .int x3)]) hx hb d_M_wall_6 hl (by decide) rfl (fun ls hl => ?_)
  refine lv_iload hx hb d_M_wall_8 (lv_at hl 0 rfl) ?_
  refine lv_if_ge (tgt := 20) hx hb d_M_wall_10 (by decide) (fun c_14 => ?_) (fun c_14 => ?_)
  · replace hf := kifp c_14 hf
    refine lv_aload_n hx hb d_M_wall_20 rfl (lv_at hl 1 rfl) ?_
    refine lv_iload_n hx hb d_M_wall_21 rfl (lv_at hl 2 rfl) ?_
    refine lv_iload hx hb d_M_wall_22 (lv_at hl 0 rfl) ?_
    obtain ⟨r_15, hc_16, hf⟩ := kb1_some hf
    refine k_cvi (w1 := (wd_M_hasWall D h h_now h_kept h_aside h_found h_down h_along h_parts h_gone h_tape h_kinds h_items h_widths h_sizes h_numbers h_moved v_isKept v_taped v_begins v_ends v_sort v_value v_isWrong v_itemMany v_farmMany v_farmCells v_now)) (r := r_15) (ws' := (wd_M_wall D h h_now h_kept h_aside h_found h_down h_along h_parts h_gone h_tape h_kinds h_items h_widths h_sizes h_numbers h_moved v_isKept v_taped v_begins v_ends v_sort v_value v_isWrong v_itemMany v_farmMany v_farmCells v_now v_found v_down v_along)) X hV hl.1 (c_M_hasWall D h h_now h_kept h_aside h_found h_down h_along h_parts h_gone h_tape h_kinds h_items h_widths h_sizes h_numbers h_moved v_isKept v_taped v_begins v_ends v_sort v_value v_isWrong v_itemMany v_farmMany v_farmCells v_now x1 r_12 hc_16) fk_M_hasWall gw_1010 rfl 0 9 rfl rfl [0, 1] [some 0, some 1, none, none, none] rfl rfl ⟨rfl, rfl, rfl, rfl, rfl, rfl, rfl, rfl, rfl, trivial⟩ rfl rfl rfl d_M_wall_24 (fun H locs hV => ?_)
    refine lv_iload_n hx hb d_M_wall_27 rfl (lv_at hl 4 rfl) ?_
    refine lv_icmp_ne (tgt := 35) hx hb d_M_wall_28 (by decide) (fun c_17 => ?_) (fun c_17 => ?_)
    · replace hf := kifn c_17 hf
      refine lv_iconst (v := 1) hx hb d_M_wall_35 ic_1 ?_
      exact t_M_wall_1 X hf hV (lv_sub hl [1, 2, 4, 0] rfl)
    replace hf := kifp c_17 hf
    refine lv_iconst (v := 0) hx hb d_M_wall_31 ic_0 ?_
    refine lv_goto (tgt := 36) hx hb d_M_wall_32 (by decide) ?_
    exact t_M_wall_1 X hf hV (lv_sub hl [1, 2, 4, 0] rfl)
  replace hf := kifn c_14 hf
  refine lv_aload_n hx hb d_M_wall_13 rfl (lv_at hl 1 rfl) ?_
  refine k_ldc (v := (-1000000001)) X gw_973 d_M_wall_14 ?_
  obtain ⟨r_18, v_found_19, hc_20, hf⟩ := kb2_some hf
  refine k_cvi (w1 := (wd_M_finding D h h_now h_kept h_aside h_found h_down h_along h_parts h_gone h_tape h_kinds h_items h_widths h_sizes h_numbers h_moved v_isKept v_taped v_begins v_ends v_sort v_value v_isWrong v_itemMany v_farmMany v_farmCells v_found_19)) (r := r_18) (ws' := (wd_M_wall D h h_now h_kept h_aside h_found h_down h_along h_parts h_gone h_tape h_kinds h_items h_widths h_sizes h_numbers h_moved v_isKept v_taped v_begins v_ends v_sort v_value v_isWrong v_itemMany v_farmMany v_farmCells v_now v_found_19 v_down v_along)) X hV hl.1 (c_M_finding D h h_now h_kept h_aside h_found h_down h_along h_parts h_gone h_tape h_kinds h_items h_widths h_sizes h_numbers h_moved v_isKept v_taped v_begins v_ends v_sort v_value v_isWrong v_itemMany v_farmMany v_farmCells v_found (-1000000001 : Int32) hc_20) fk_M_finding gw_974 rfl 0 9 rfl rfl [0, 2] [some 0, none, some 1, none, none] rfl rfl ⟨rfl, rfl, rfl, rfl, rfl, rfl, rfl, rfl, rfl, trivial⟩ rfl rfl rfl d_M_wall_16 (fun H locs hV => ?_)
  have e_ := Option.some.inj hf
  subst e_
  exact k_iret X rfl hV rfl d_M_wall_19
set_option maxHeartbeats 2000000 in
set_option maxRecDepth 20000 in
theorem c_M_wall {l : Launch} (D : kD) (h : Nat) (h_now : Nat) (h_kept : Nat) (h_aside : Nat) (h_found : Nat) (h_down : Nat) (h_along : Nat) (h_parts : Nat) (h_gone : Nat) (h_tape : Nat) (h_kinds : Nat) (h_items : Nat) (h_widths : Nat) (h_sizes : Nat) (h_numbers : Nat) (h_moved : Nat) (v_isKept : Int32) (v_taped : Int32) (v_begins : Int32) (v_ends : Int32) (v_sort : Int32) (v_value : Int32) (v_isWrong : Int32) (v_itemMany : Int32) (v_farmMany : Int32) (v_farmCells : Int64) (v_now : Nat → Int32) (v_found : Nat → Int32) (v_down : Nat → Int32) (v_along : Nat → Int32) (x1 : Int32) (x2 : Int32) (x3 : Int32) {out : Int32 × (Nat → Int32) × (Nat → Int32)} (hf : f_M_wall v_now v_found v_down v_along x1 x2 x3 = some out) : kMi l D y_M_wall b_M_wall 6 (some .int) { frames := 3, cells := 0, slots := 0, locals := 71 } [.ref h, .int x1, .int x2, .int x3] (wd_M_wall D h h_now h_kept h_aside h_found h_down h_along h_parts h_gone h_tape h_kinds h_items h_widths h_sizes h_numbers h_moved v_isKept v_taped v_begins v_ends v_sort v_value v_isWrong v_itemMany v_farmMany v_farmCells v_now v_found v_down v_along) (wd_M_wall D h h_now h_kept h_aside h_found h_down h_along h_parts h_gone h_tape h_kinds h_items h_widths h_sizes h_numbers h_moved v_isKept v_taped v_begins v_ends v_sort v_value v_isWrong v_itemMany v_farmMany v_farmCells out.2.1 out.2.2 v_down v_along) out.1 :=
  kMi_of (own := "MountainFarmsModel") (plainFor_of_name (by decide)) rfl rfl (fun p e s m args below meth c ls X hV hl => t_M_wall X hf hV hl)
set_option maxHeartbeats 2000000 in
set_option maxRecDepth 20000 in
theorem t_M_isKind {l : Launch} {p : Program} {e : Env} {s : State} {m : MethodId} {args : Array Value} {below : List Frame} {meth : Method} {c : Code} {D : kD} {wc0 : va_W} {x0 : Int32} {out : Int32} (X : kX p m meth c s args D (va_A wc0 s.heap.size) b_M_isKind "MountainFarmsModel" 1 (some .boolean)) (hf : f_M_isKind x0 = some out) {H : Heap} {locs : List Loc} (hV : kV D (va_A wc0 s.heap.size) s (wd_M_isKind D) H locs) {ls : Array Slot} (hl : lv_has ls 1 [(0, .int x0)]) : W p l e { frames := 1, cells := 0, slots := 0, locals := 22 } s m args below meth c H locs 0 0 (MQ below (kQi D wc0 (wd_M_isKind D) s.heap.size out) args s 0 0 (va_A wc0 s.heap.size)) (F0 m 0 ls []) := by
  unfold f_M_isKind at hf
  obtain ⟨hx, hb, -⟩ := id X
  refine lv_iload_n hx hb d_M_isKind_0 rfl (lv_at hl 0 rfl) ?_
  refine lv_iconst (v := 0) hx hb d_M_isKind_1 ic_0 ?_
  refine lv_iconst (v := 5) hx hb d_M_isKind_2 ic_5 ?_
  obtain ⟨r_4, hc_5, hf⟩ := kb1_some hf
  refine k_csi (w1 := (wd_M_within D)) (r := r_4) (ws' := (wd_M_isKind D)) X hV hl.1 (c_M_within D x0 (0 : Int32) (5 : Int32) hc_5) fk_M_within gw_970 rfl [] [] rfl rfl trivial rfl rfl rfl d_M_isKind_3 (fun H locs hV => ?_)
  obtain ⟨h_6, hf⟩ := kchk hf
  have e_ := Option.some.inj hf
  subst e_
  exact k_iret X rfl hV (knarB h_6) d_M_isKind_6
set_option maxHeartbeats 2000000 in
set_option maxRecDepth 20000 in
theorem c_M_isKind {l : Launch} (D : kD) (x0 : Int32) {out : Int32} (hf : f_M_isKind x0 = some out) : kMi l D y_M_isKind b_M_isKind 1 (some .boolean) { frames := 1, cells := 0, slots := 0, locals := 22 } [.int x0] (wd_M_isKind D) (wd_M_isKind D) out :=
  kMi_of (own := "MountainFarmsModel") (plainFor_of_name (by decide)) rfl rfl (fun p e s m args below meth c ls X hV hl => t_M_isKind X hf hV hl)
set_option maxHeartbeats 2000000 in
set_option maxRecDepth 20000 in
theorem t_M_built {l : Launch} {p : Program} {e : Env} {s : State} {m : MethodId} {args : Array Value} {below : List Frame} {meth : Method} {c : Code} {D : kD} {wc0 : va_W} {h : Nat} {h_now : Nat} {h_kept : Nat} {h_aside : Nat} {h_found : Nat} {h_down : Nat} {h_along : Nat} {h_parts : Nat} {h_gone : Nat} {h_tape : Nat} {h_kinds : Nat} {h_items : Nat} {h_widths : Nat} {h_sizes : Nat} {h_numbers : Nat} {h_moved : Nat} {v_isKept : Int32} {v_taped : Int32} {v_begins : Int32} {v_ends : Int32} {v_sort : Int32} {v_value : Int32} {v_isWrong : Int32} {v_itemMany : Int32} {v_farmMany : Int32} {v_farmCells : Int64} {v_now : Nat → Int32} {x1 : Int32} {x2 : Int32} {x3 : Int32} {out : Int32 × (Nat → Int32)} (X : kX p m meth c s args D (va_A wc0 s.heap.size) b_M_built "MountainFarmsModel" 6 (some .int)) (hf : f_M_built v_now x1 x2 x3 = some out) {H : Heap} {locs : List Loc} (hV : kV D (va_A wc0 s.heap.size) s (wd_M_built D h h_now h_kept h_aside h_found h_down h_along h_parts h_gone h_tape h_kinds h_items h_widths h_sizes h_numbers h_moved v_isKept v_taped v_begins v_ends v_sort v_value v_isWrong v_itemMany v_farmMany v_farmCells v_now) H locs) {ls : Array Slot} (hl : lv_has ls 6 [(0, .ref h), (1, .int x1), (2, .int x2), (3, .int x3)]) : W p l e { frames := 0, cells := 0, slots := 0, locals := 0 } s m args below meth c H locs 0 0 (MQ below (kQi D wc0 (wd_M_built D h h_now h_kept h_aside h_found h_down h_along h_parts h_gone h_tape h_kinds h_items h_widths h_sizes h_numbers h_moved v_isKept v_taped v_begins v_ends v_sort v_value v_isWrong v_itemMany v_farmMany v_farmCells out.2) s.heap.size out.1) args s 0 0 (va_A wc0 s.heap.size)) (F0 m 0 ls []) := by
  unfold f_M_built at hf
  obtain ⟨hx, hb, -⟩ := id X
  refine lv_aload_n hx hb d_M_built_0 rfl (lv_at hl 0 rfl) ?_
  refine k_get X hV 0 9 0 rfl rfl rfl gw_887 rfl rfl d_M_built_1 ?_
  refine lv_bipush (v := 10) hx hb d_M_built_4 bp_10 ?_
  refine k_iald X hV 1 rfl kin_10_218 kln_10 d_M_built_6 ?_
  refine lv_istore (lv' := [(4, .int (v_now 10)), (0, .ref h), (1, .int x1), (2, .int x2), (3, .int x3)]) hx hb d_M_built_7 hl (by decide) rfl (fun ls hl => ?_)
  refine lv_sipush (v := 158) hx hb d_M_built_9 sp_158 ?_
  refine lv_iconst (v := 5) hx hb d_M_built_12 ic_5 ?_
  refine lv_iload hx hb d_M_built_13 (lv_at hl 0 rfl) ?_
  refine lv_imul hx hb d_M_built_15 ?_
  refine lv_iadd hx hb d_M_built_16 ?_
  refine k_leti hf (fun x5_8 hf => ?_)
  refine lv_istore (lv' := [(5, .int x5_8), (4, .int (v_now 10)), (0, .ref h), (1, .int x1), (2, .int x2), (3, .int x3)]) hx hb d_M_built_17 hl (by decide) rfl (fun ls hl => ?_)
  refine lv_aload_n hx hb d_M_built_19 rfl (lv_at hl 2 rfl) ?_
  refine k_get X hV 0 9 0 rfl rfl rfl gw_887 rfl rfl d_M_built_20 ?_
  refine lv_iload hx hb d_M_built_23 (lv_at hl 0 rfl) ?_
  refine lv_iconst (v := 0) hx hb d_M_built_25 ic_0 ?_
  refine lv_iadd hx hb d_M_built_26 ?_
  refine lv_iload_n hx hb d_M_built_27 rfl (lv_at hl 3 rfl) ?_
  obtain ⟨h_9, hf⟩ := kidx_some hf
  refine k_iast (ws' := (wd_M_built D h h_now h_kept h_aside h_found h_down h_along h_parts h_gone h_tape h_kinds h_items h_widths h_sizes h_numbers h_moved v_isKept v_taped v_begins v_ends v_sort v_value v_isWrong v_itemMany v_farmMany v_farmCells (upd v_now (x5_8 + (0 : Int32)).toNatClampNeg x1))) X hV 1 rfl h_9 rfl rfl d_M_built_28 (fun H locs hV => ?_)
  refine lv_aload_n hx hb d_M_built_29 rfl (lv_at hl 2 rfl) ?_
  refine k_get X hV 0 9 0 rfl rfl rfl gw_887 rfl rfl d_M_built_30 ?_
  refine lv_iload hx hb d_M_built_33 (lv_at hl 0 rfl) ?_
  refine lv_iconst (v := 1) hx hb d_M_built_35 ic_1 ?_
  refine lv_iadd hx hb d_M_built_36 ?_
  refine lv_iload_n hx hb d_M_built_37 rfl (lv_at hl 4 rfl) ?_
  obtain ⟨h_10, hf⟩ := kidx_some hf
  refine k_iast (ws' := (wd_M_built D h h_now h_kept h_aside h_found h_down h_along h_parts h_gone h_tape h_kinds h_items h_widths h_sizes h_numbers h_moved v_isKept v_taped v_begins v_ends v_sort v_value v_isWrong v_itemMany v_farmMany v_farmCells (upd (upd v_now (x5_8 + (0 : Int32)).toNatClampNeg x1) (x5_8 + (1 : Int32)).toNatClampNeg x2))) X hV 1 rfl h_10 rfl rfl d_M_built_38 (fun H locs hV => ?_)
  refine lv_aload_n hx hb d_M_built_39 rfl (lv_at hl 2 rfl) ?_
  refine k_get X hV 0 9 0 rfl rfl rfl gw_887 rfl rfl d_M_built_40 ?_
  refine lv_iload hx hb d_M_built_43 (lv_at hl 0 rfl) ?_
  refine lv_iconst (v := 2) hx hb d_M_built_45 ic_2 ?_
  refine lv_iadd hx hb d_M_built_46 ?_
  refine lv_iload_n hx hb d_M_built_47 rfl (lv_at hl 5 rfl) ?_
  obtain ⟨h_11, hf⟩ := kidx_some hf
  refine k_iast (ws' := (wd_M_built D h h_now h_kept h_aside h_found h_down h_along h_parts h_gone h_tape h_kinds h_items h_widths h_sizes h_numbers h_moved v_isKept v_taped v_begins v_ends v_sort v_value v_isWrong v_itemMany v_farmMany v_farmCells (upd (upd (upd v_now (x5_8 + (0 : Int32)).toNatClampNeg x1) (x5_8 + (1 : Int32)).toNatClampNeg x2) (x5_8 + (2 : Int32)).toNatClampNeg x3))) X hV 1 rfl h_11 rfl rfl d_M_built_48 (fun H locs hV => ?_)
  refine lv_aload_n hx hb d_M_built_49 rfl (lv_at hl 2 rfl) ?_
  refine k_get X hV 0 9 0 rfl rfl rfl gw_887 rfl rfl d_M_built_50 ?_
  refine lv_iload hx hb d_M_built_53 (lv_at hl 0 rfl) ?_
  refine lv_iconst (v := 3) hx hb d_M_built_55 ic_3 ?_
  refine lv_iadd hx hb d_M_built_56 ?_
  refine lv_iconst (v := 0) hx hb d_M_built_57 ic_0 ?_
  obtain ⟨h_12, hf⟩ := kidx_some hf
  refine k_iast (ws' := (wd_M_built D h h_now h_kept h_aside h_found h_down h_along h_parts h_gone h_tape h_kinds h_items h_widths h_sizes h_numbers h_moved v_isKept v_taped v_begins v_ends v_sort v_value v_isWrong v_itemMany v_farmMany v_farmCells (upd (upd (upd (upd v_now (x5_8 + (0 : Int32)).toNatClampNeg x1) (x5_8 + (1 : Int32)).toNatClampNeg x2) (x5_8 + (2 : Int32)).toNatClampNeg x3) (x5_8 + (3 : Int32)).toNatClampNeg (0 : Int32)))) X hV 1 rfl h_12 rfl rfl d_M_built_58 (fun H locs hV => ?_)
  refine lv_aload_n hx hb d_M_built_59 rfl (lv_at hl 2 rfl) ?_
  refine k_get X hV 0 9 0 rfl rfl rfl gw_887 rfl rfl d_M_built_60 ?_
  refine lv_iload hx hb d_M_built_63 (lv_at hl 0 rfl) ?_
  refine lv_iconst (v := 4) hx hb d_M_built_65 ic_4 ?_
  refine lv_iadd hx hb d_M_built_66 ?_
  refine lv_iconst (v := 0) hx hb d_M_built_67 ic_0 ?_
  obtain ⟨h_13, hf⟩ := kidx_some hf
  refine k_iast (ws' := (wd_M_built D h h_now h_kept h_aside h_found h_down h_along h_parts h_gone h_tape h_kinds h_items h_widths h_sizes h_numbers h_moved v_isKept v_taped v_begins v_ends v_sort v_value v_isWrong v_itemMany v_farmMany v_farmCells (upd (upd (upd (upd (upd v_now (x5_8 + (0 : Int32)).toNatClampNeg x1) (x5_8 + (1 : Int32)).toNatClampNeg x2) (x5_8 + (2 : Int32)).toNatClampNeg x3) (x5_8 + (3 : Int32)).toNatClampNeg (0 : Int32)) (x5_8 + (4 : Int32)).toNatClampNeg (0 : Int32)))) X hV 1 rfl h_13 rfl rfl d_M_built_68 (fun H locs hV => ?_)
  refine lv_aload_n hx hb d_M_built_69 rfl (lv_at hl 2 rfl) ?_
  refine k_get X hV 0 9 0 rfl rfl rfl gw_887 rfl rfl d_M_built_70 ?_
  refine lv_bipush (v := 10) hx hb d_M_built_73 bp_10 ?_
  refine lv_dup2_11 hx hb d_M_built_75 rfl rfl ?_
  refine k_iald X hV 1 rfl kin_10_218 kln_10 d_M_built_76 ?_
  refine lv_iconst (v := 1) hx hb d_M_built_77 ic_1 ?_
  refine lv_iadd hx hb d_M_built_78 ?_
  refine k_leti hf (fun y_14 hf => ?_)
  refine k_iast (ws' := (wd_M_built D h h_now h_kept h_aside h_found h_down h_along h_parts h_gone h_tape h_kinds h_items h_widths h_sizes h_numbers h_moved v_isKept v_taped v_begins v_ends v_sort v_value v_isWrong v_itemMany v_farmMany v_farmCells (upd (upd (upd (upd (upd (upd v_now (x5_8 + (0 : Int32)).toNatClampNeg x1) (x5_8 + (1 : Int32)).toNatClampNeg x2) (x5_8 + (2 : Int32)).toNatClampNeg x3) (x5_8 + (3 : Int32)).toNatClampNeg (0 : Int32)) (x5_8 + (4 : Int32)).toNatClampNeg (0 : Int32)) 10 y_14))) X hV 1 rfl kin_10_218 kln_10 rfl d_M_built_79 (fun H locs hV => ?_)
  refine lv_iload hx hb d_M_built_80 (lv_at hl 1 rfl) ?_
  have e_ := Option.some.inj hf
  subst e_
  exact k_iret X rfl hV rfl d_M_built_82
set_option maxHeartbeats 2000000 in
set_option maxRecDepth 20000 in
theorem c_M_built {l : Launch} (D : kD) (h : Nat) (h_now : Nat) (h_kept : Nat) (h_aside : Nat) (h_found : Nat) (h_down : Nat) (h_along : Nat) (h_parts : Nat) (h_gone : Nat) (h_tape : Nat) (h_kinds : Nat) (h_items : Nat) (h_widths : Nat) (h_sizes : Nat) (h_numbers : Nat) (h_moved : Nat) (v_isKept : Int32) (v_taped : Int32) (v_begins : Int32) (v_ends : Int32) (v_sort : Int32) (v_value : Int32) (v_isWrong : Int32) (v_itemMany : Int32) (v_farmMany : Int32) (v_farmCells : Int64) (v_now : Nat → Int32) (x1 : Int32) (x2 : Int32) (x3 : Int32) {out : Int32 × (Nat → Int32)} (hf : f_M_built v_now x1 x2 x3 = some out) : kMi l D y_M_built b_M_built 6 (some .int) { frames := 0, cells := 0, slots := 0, locals := 0 } [.ref h, .int x1, .int x2, .int x3] (wd_M_built D h h_now h_kept h_aside h_found h_down h_along h_parts h_gone h_tape h_kinds h_items h_widths h_sizes h_numbers h_moved v_isKept v_taped v_begins v_ends v_sort v_value v_isWrong v_itemMany v_farmMany v_farmCells v_now) (wd_M_built D h h_now h_kept h_aside h_found h_down h_along h_parts h_gone h_tape h_kinds h_items h_widths h_sizes h_numbers h_moved v_isKept v_taped v_begins v_ends v_sort v_value v_isWrong v_itemMany v_farmMany v_farmCells out.2) out.1 :=
  kMi_of (own := "MountainFarmsModel") (plainFor_of_name (by decide)) rfl rfl (fun p e s m args below meth c ls X hV hl => t_M_built X hf hV hl)
set_option maxHeartbeats 2000000 in
set_option maxRecDepth 20000 in
theorem t_M_farm_1 {l : Launch} {p : Program} {e : Env} {s : State} {m : MethodId} {args : Array Value} {below : List Frame} {meth : Method} {c : Code} {D : kD} {wc0 : va_W} {h : Nat} {h_now : Nat} {h_kept : Nat} {h_aside : Nat} {h_found : Nat} {h_down : Nat} {h_along : Nat} {h_parts : Nat} {h_gone : Nat} {h_tape : Nat} {h_kinds : Nat} {h_items : Nat} {h_widths : Nat} {h_sizes : Nat} {h_numbers : Nat} {h_moved : Nat} {v_isKept : Int32} {v_taped : Int32} {v_begins : Int32} {v_ends : Int32} {v_sort : Int32} {v_value : Int32} {v_isWrong : Int32} {v_itemMany : Int32} {v_farmMany : Int32} {v_farmCells : Int64} {v_now : Nat → Int32} {v_found : Nat → Int32} {out : Int32 × (Nat → Int32) × (Nat → Int32)} (X : kX p m meth c s args D (va_A wc0 s.heap.size) b_M_farm "MountainFarmsModel" 4 (some .int)) (hf : f_M_farm_1 v_now v_found = some out) {H : Heap} {locs : List Loc} (hV : kV D (va_A wc0 s.heap.size) s (wd_M_farm D h h_now h_kept h_aside h_found h_down h_along h_parts h_gone h_tape h_kinds h_items h_widths h_sizes h_numbers h_moved v_isKept v_taped v_begins v_ends v_sort v_value v_isWrong v_itemMany v_farmMany v_farmCells v_now v_found) H locs) {ls : Array Slot} (hl : lv_has ls 4 [(0, .ref h)]) : W p l e { frames := 2, cells := 0, slots := 0, locals := 45 } s m args below meth c H locs 0 0 (MQ below (kQi D wc0 (wd_M_farm D h h_now h_kept h_aside h_found h_down h_along h_parts h_gone h_tape h_kinds h_items h_widths h_sizes h_numbers h_moved v_isKept v_taped v_begins v_ends v_sort v_value v_isWrong v_itemMany v_farmMany v_farmCells out.2.1 out.2.2) s.heap.size out.1) args s 0 0 (va_A wc0 s.heap.size)) (F0 m 23 ls []) := by
  unfold f_M_farm_1 at hf
  obtain ⟨hx, hb, -⟩ := id X
  refine lv_aload_n hx hb d_M_farm_23 rfl (lv_at hl 0 rfl) ?_
  refine k_ldc (v := (-1000000001)) X gw_973 d_M_farm_24 ?_
  obtain ⟨r_48, v_found_49, hc_50, hf⟩ := kb2_some hf
  refine k_cvi (w1 := (wd_M_finding D h h_now h_kept h_aside h_found h_down h_along h_parts h_gone h_tape h_kinds h_items h_widths h_sizes h_numbers h_moved v_isKept v_taped v_begins v_ends v_sort v_value v_isWrong v_itemMany v_farmMany v_farmCells v_found_49)) (r := r_48) (ws' := (wd_M_farm D h h_now h_kept h_aside h_found h_down h_along h_parts h_gone h_tape h_kinds h_items h_widths h_sizes h_numbers h_moved v_isKept v_taped v_begins v_ends v_sort v_value v_isWrong v_itemMany v_farmMany v_farmCells v_now v_found_49)) X hV hl.1 (c_M_finding D h h_now h_kept h_aside h_found h_down h_along h_parts h_gone h_tape h_kinds h_items h_widths h_sizes h_numbers h_moved v_isKept v_taped v_begins v_ends v_sort v_value v_isWrong v_itemMany v_farmMany v_farmCells v_found (-1000000001 : Int32) hc_50) fk_M_finding gw_974 rfl 0 9 rfl rfl [0, 2] [some 0, none, some 1] rfl rfl ⟨rfl, rfl, rfl, rfl, rfl, rfl, rfl, trivial⟩ rfl rfl rfl d_M_farm_26 (fun H locs hV => ?_)
  have e_ := Option.some.inj hf
  subst e_
  exact k_iret X rfl hV rfl d_M_farm_29
set_option maxHeartbeats 2000000 in
set_option maxRecDepth 20000 in
theorem t_M_farm {l : Launch} {p : Program} {e : Env} {s : State} {m : MethodId} {args : Array Value} {below : List Frame} {meth : Method} {c : Code} {D : kD} {wc0 : va_W} {h : Nat} {h_now : Nat} {h_kept : Nat} {h_aside : Nat} {h_found : Nat} {h_down : Nat} {h_along : Nat} {h_parts : Nat} {h_gone : Nat} {h_tape : Nat} {h_kinds : Nat} {h_items : Nat} {h_widths : Nat} {h_sizes : Nat} {h_numbers : Nat} {h_moved : Nat} {v_isKept : Int32} {v_taped : Int32} {v_begins : Int32} {v_ends : Int32} {v_sort : Int32} {v_value : Int32} {v_isWrong : Int32} {v_itemMany : Int32} {v_farmMany : Int32} {v_farmCells : Int64} {v_now : Nat → Int32} {v_found : Nat → Int32} {x1 : Int32} {x2 : Int32} {x3 : Int32} {out : Int32 × (Nat → Int32) × (Nat → Int32)} (X : kX p m meth c s args D (va_A wc0 s.heap.size) b_M_farm "MountainFarmsModel" 4 (some .int)) (hf : f_M_farm v_now v_found x1 x2 x3 = some out) {H : Heap} {locs : List Loc} (hV : kV D (va_A wc0 s.heap.size) s (wd_M_farm D h h_now h_kept h_aside h_found h_down h_along h_parts h_gone h_tape h_kinds h_items h_widths h_sizes h_numbers h_moved v_isKept v_taped v_begins v_ends v_sort v_value v_isWrong v_itemMany v_farmMany v_farmCells v_now v_found) H locs) {ls : Array Slot} (hl : lv_has ls 4 [(0, .ref h), (1, .int x1), (2, .int x2), (3, .int x3)]) : W p l e { frames := 2, cells := 0, slots := 0, locals := 45 } s m args below meth c H locs 0 0 (MQ below (kQi D wc0 (wd_M_farm D h h_now h_kept h_aside h_found h_down h_along h_parts h_gone h_tape h_kinds h_items h_widths h_sizes h_numbers h_moved v_isKept v_taped v_begins v_ends v_sort v_value v_isWrong v_itemMany v_farmMany v_farmCells out.2.1 out.2.2) s.heap.size out.1) args s 0 0 (va_A wc0 s.heap.size)) (F0 m 0 ls []) := by
  unfold f_M_farm at hf
  obtain ⟨hx, hb, -⟩ := id X
  refine lv_iload_n hx hb d_M_farm_0 rfl (lv_at hl 1 rfl) ?_
  obtain ⟨r_26, hc_27, hf⟩ := kb1_some hf
  refine k_csi (w1 := (wd_M_isKind D)) (r := r_26) (ws' := (wd_M_farm D h h_now h_kept h_aside h_found h_down h_along h_parts h_gone h_tape h_kinds h_items h_widths h_sizes h_numbers h_moved v_isKept v_taped v_begins v_ends v_sort v_value v_isWrong v_itemMany v_farmMany v_farmCells v_now v_found)) X hV hl.1 (c_M_isKind D x1 hc_27) fk_M_isKind gw_1022 rfl [] [none, none, none] rfl rfl ⟨rfl, rfl, rfl, trivial⟩ rfl rfl rfl d_M_farm_1 (fun H locs hV => ?_)
  refine lv_if_eq (tgt := 23) hx hb d_M_farm_4 (by decide) (fun c_28 => ?_) (fun c_28 => ?_)
  · replace hf := kifp c_28 hf
    exact t_M_farm_1 X hf hV (lv_sub hl [0] rfl)
  replace hf := kifn c_28 hf
  refine lv_iload_n hx hb d_M_farm_7 rfl (lv_at hl 2 rfl) ?_
  obtain ⟨r_29, hc_30, hf⟩ := kb1_some hf
  refine k_csi (w1 := (wd_M_isCell D)) (r := r_29) (ws' := (wd_M_farm D h h_now h_kept h_aside h_found h_down h_along h_parts h_gone h_tape h_kinds h_items h_widths h_sizes h_numbers h_moved v_isKept v_taped v_begins v_ends v_sort v_value v_isWrong v_itemMany v_farmMany v_farmCells v_now v_found)) X hV hl.1 (c_M_isCell D x2 hc_30) fk_M_isCell gw_967 rfl [] [none, none, none] rfl rfl ⟨rfl, rfl, rfl, trivial⟩ rfl rfl rfl d_M_farm_8 (fun H locs hV => ?_)
  refine lv_if_eq (tgt := 23) hx hb d_M_farm_11 (by decide) (fun c_31 => ?_) (fun c_31 => ?_)
  · replace hf := kifp c_31 hf
    exact t_M_farm_1 X hf hV (lv_sub hl [0] rfl)
  replace hf := kifn c_31 hf
  refine lv_iload_n hx hb d_M_farm_14 rfl (lv_at hl 3 rfl) ?_
  refine lv_iconst (v := 0) hx hb d_M_farm_15 ic_0 ?_
  refine lv_iconst (v := 5) hx hb d_M_farm_16 ic_5 ?_
  obtain ⟨r_32, hc_33, hf⟩ := kb1_some hf
  refine k_csi (w1 := (wd_M_within D)) (r := r_32) (ws' := (wd_M_farm D h h_now h_kept h_aside h_found h_down h_along h_parts h_gone h_tape h_kinds h_items h_widths h_sizes h_numbers h_moved v_isKept v_taped v_begins v_ends v_sort v_value v_isWrong v_itemMany v_farmMany v_farmCells v_now v_found)) X hV hl.1 (c_M_within D x3 (0 : Int32) (5 : Int32) hc_33) fk_M_within gw_970 rfl [] [none, none, none] rfl rfl ⟨rfl, rfl, rfl, trivial⟩ rfl rfl rfl d_M_farm_17 (fun H locs hV => ?_)
  refine lv_if_ne (tgt := 30) hx hb d_M_farm_20 (by decide) (fun c_34 => ?_) (fun c_34 => ?_)
  · replace hf := kifn c_34 hf
    refine lv_aload_n hx hb d_M_farm_30 rfl (lv_at hl 0 rfl) ?_
    refine lv_iload_n hx hb d_M_farm_31 rfl (lv_at hl 2 rfl) ?_
    obtain ⟨r_35, hc_36, hf⟩ := kb1_some hf
    refine k_cvi (w1 := (wd_M_farmAt D h h_now h_kept h_aside h_found h_down h_along h_parts h_gone h_tape h_kinds h_items h_widths h_sizes h_numbers h_moved v_isKept v_taped v_begins v_ends v_sort v_value v_isWrong v_itemMany v_farmMany v_farmCells v_now)) (r := r_35) (ws' := (wd_M_farm D h h_now h_kept h_aside h_found h_down h_along h_parts h_gone h_tape h_kinds h_items h_widths h_sizes h_numbers h_moved v_isKept v_taped v_begins v_ends v_sort v_value v_isWrong v_itemMany v_farmMany v_farmCells v_now v_found)) X hV hl.1 (c_M_farmAt D h h_now h_kept h_aside h_found h_down h_along h_parts h_gone h_tape h_kinds h_items h_widths h_sizes h_numbers h_moved v_isKept v_taped v_begins v_ends v_sort v_value v_isWrong v_itemMany v_farmMany v_farmCells v_now x2 hc_36) fk_M_farmAt gw_986 rfl 0 9 rfl rfl [0, 1] [some 0, some 1, none] rfl rfl ⟨rfl, rfl, rfl, rfl, rfl, rfl, rfl, trivial⟩ rfl rfl rfl d_M_farm_32 (fun H locs hV => ?_)
    refine lv_if_lt (tgt := 45) hx hb d_M_farm_35 (by decide) (fun c_37 => ?_) (fun c_37 => ?_)
    · replace hf := kifp c_37 hf
      refine lv_aload_n hx hb d_M_farm_45 rfl (lv_at hl 0 rfl) ?_
      refine k_get X hV 0 9 0 rfl rfl rfl gw_887 rfl rfl d_M_farm_46 ?_
      refine lv_bipush (v := 10) hx hb d_M_farm_49 bp_10 ?_
      refine k_iald X hV 1 rfl kin_10_218 kln_10 d_M_farm_51 ?_
      refine lv_bipush (v := 12) hx hb d_M_farm_52 bp_12 ?_
      refine lv_icmp_ne (tgt := 66) hx hb d_M_farm_54 (by decide) (fun c_38 => ?_) (fun c_38 => ?_)
      · replace hf := kifn c_38 hf
        refine lv_aload_n hx hb d_M_farm_66 rfl (lv_at hl 0 rfl) ?_
        refine lv_iload_n hx hb d_M_farm_67 rfl (lv_at hl 1 rfl) ?_
        refine lv_iload_n hx hb d_M_farm_68 rfl (lv_at hl 2 rfl) ?_
        refine lv_iload_n hx hb d_M_farm_69 rfl (lv_at hl 3 rfl) ?_
        obtain ⟨r_39, v_now_40, hc_41, hf⟩ := kb2_some hf
        refine k_cvi (w1 := (wd_M_built D h h_now h_kept h_aside h_found h_down h_along h_parts h_gone h_tape h_kinds h_items h_widths h_sizes h_numbers h_moved v_isKept v_taped v_begins v_ends v_sort v_value v_isWrong v_itemMany v_farmMany v_farmCells v_now_40)) (r := r_39) (ws' := (wd_M_farm D h h_now h_kept h_aside h_found h_down h_along h_parts h_gone h_tape h_kinds h_items h_widths h_sizes h_numbers h_moved v_isKept v_taped v_begins v_ends v_sort v_value v_isWrong v_itemMany v_farmMany v_farmCells v_now_40 v_found)) X hV hl.1 (c_M_built D h h_now h_kept h_aside h_found h_down h_along h_parts h_gone h_tape h_kinds h_items h_widths h_sizes h_numbers h_moved v_isKept v_taped v_begins v_ends v_sort v_value v_isWrong v_itemMany v_farmMany v_farmCells v_now x1 x2 x3 hc_41) fk_M_built gw_1027 rfl 0 9 rfl rfl [0, 1] [some 0, some 1, none] rfl rfl ⟨rfl, rfl, rfl, rfl, rfl, rfl, rfl, trivial⟩ rfl rfl rfl d_M_farm_70 (fun H locs hV => ?_)
        have e_ := Option.some.inj hf
        subst e_
        exact k_iret X rfl hV rfl d_M_farm_73
      replace hf := kifp c_38 hf
      refine lv_aload_n hx hb d_M_farm_57 rfl (lv_at hl 0 rfl) ?_
      refine k_ldc (v := (-1000000002)) X gw_1026 d_M_farm_58 ?_
      obtain ⟨r_42, v_found_43, hc_44, hf⟩ := kb2_some hf
      refine k_cvi (w1 := (wd_M_finding D h h_now h_kept h_aside h_found h_down h_along h_parts h_gone h_tape h_kinds h_items h_widths h_sizes h_numbers h_moved v_isKept v_taped v_begins v_ends v_sort v_value v_isWrong v_itemMany v_farmMany v_farmCells v_found_43)) (r := r_42) (ws' := (wd_M_farm D h h_now h_kept h_aside h_found h_down h_along h_parts h_gone h_tape h_kinds h_items h_widths h_sizes h_numbers h_moved v_isKept v_taped v_begins v_ends v_sort v_value v_isWrong v_itemMany v_farmMany v_farmCells v_now v_found_43)) X hV hl.1 (c_M_finding D h h_now h_kept h_aside h_found h_down h_along h_parts h_gone h_tape h_kinds h_items h_widths h_sizes h_numbers h_moved v_isKept v_taped v_begins v_ends v_sort v_value v_isWrong v_itemMany v_farmMany v_farmCells v_found (-1000000002 : Int32) hc_44) fk_M_finding gw_974 rfl 0 9 rfl rfl [0, 2] [some 0, none, some 1] rfl rfl ⟨rfl, rfl, rfl, rfl, rfl, rfl, rfl, trivial⟩ rfl rfl rfl d_M_farm_60 (fun H locs hV => ?_)
      refine lv_goto (tgt := 73) hx hb d_M_farm_63 (by decide) ?_
      have e_ := Option.some.inj hf
      subst e_
      exact k_iret X rfl hV rfl d_M_farm_73
    replace hf := kifn c_37 hf
    refine lv_aload_n hx hb d_M_farm_38 rfl (lv_at hl 0 rfl) ?_
    refine k_ldc (v := (-1000000005)) X gw_1025 d_M_farm_39 ?_
    obtain ⟨r_45, v_found_46, hc_47, hf⟩ := kb2_some hf
    refine k_cvi (w1 := (wd_M_finding D h h_now h_kept h_aside h_found h_down h_along h_parts h_gone h_tape h_kinds h_items h_widths h_sizes h_numbers h_moved v_isKept v_taped v_begins v_ends v_sort v_value v_isWrong v_itemMany v_farmMany v_farmCells v_found_46)) (r := r_45) (ws' := (wd_M_farm D h h_now h_kept h_aside h_found h_down h_along h_parts h_gone h_tape h_kinds h_items h_widths h_sizes h_numbers h_moved v_isKept v_taped v_begins v_ends v_sort v_value v_isWrong v_itemMany v_farmMany v_farmCells v_now v_found_46)) X hV hl.1 (c_M_finding D h h_now h_kept h_aside h_found h_down h_along h_parts h_gone h_tape h_kinds h_items h_widths h_sizes h_numbers h_moved v_isKept v_taped v_begins v_ends v_sort v_value v_isWrong v_itemMany v_farmMany v_farmCells v_found (-1000000005 : Int32) hc_47) fk_M_finding gw_974 rfl 0 9 rfl rfl [0, 2] [some 0, none, some 1] rfl rfl ⟨rfl, rfl, rfl, rfl, rfl, rfl, rfl, trivial⟩ rfl rfl rfl d_M_farm_41 (fun H locs hV => ?_)
    have e_ := Option.some.inj hf
    subst e_
    exact k_iret X rfl hV rfl d_M_farm_44
  replace hf := kifp c_34 hf
  exact t_M_farm_1 X hf hV (lv_sub hl [0] rfl)
set_option maxHeartbeats 2000000 in
set_option maxRecDepth 20000 in
theorem c_M_farm {l : Launch} (D : kD) (h : Nat) (h_now : Nat) (h_kept : Nat) (h_aside : Nat) (h_found : Nat) (h_down : Nat) (h_along : Nat) (h_parts : Nat) (h_gone : Nat) (h_tape : Nat) (h_kinds : Nat) (h_items : Nat) (h_widths : Nat) (h_sizes : Nat) (h_numbers : Nat) (h_moved : Nat) (v_isKept : Int32) (v_taped : Int32) (v_begins : Int32) (v_ends : Int32) (v_sort : Int32) (v_value : Int32) (v_isWrong : Int32) (v_itemMany : Int32) (v_farmMany : Int32) (v_farmCells : Int64) (v_now : Nat → Int32) (v_found : Nat → Int32) (x1 : Int32) (x2 : Int32) (x3 : Int32) {out : Int32 × (Nat → Int32) × (Nat → Int32)} (hf : f_M_farm v_now v_found x1 x2 x3 = some out) : kMi l D y_M_farm b_M_farm 4 (some .int) { frames := 2, cells := 0, slots := 0, locals := 45 } [.ref h, .int x1, .int x2, .int x3] (wd_M_farm D h h_now h_kept h_aside h_found h_down h_along h_parts h_gone h_tape h_kinds h_items h_widths h_sizes h_numbers h_moved v_isKept v_taped v_begins v_ends v_sort v_value v_isWrong v_itemMany v_farmMany v_farmCells v_now v_found) (wd_M_farm D h h_now h_kept h_aside h_found h_down h_along h_parts h_gone h_tape h_kinds h_items h_widths h_sizes h_numbers h_moved v_isKept v_taped v_begins v_ends v_sort v_value v_isWrong v_itemMany v_farmMany v_farmCells out.2.1 out.2.2) out.1 :=
  kMi_of (own := "MountainFarmsModel") (plainFor_of_name (by decide)) rfl rfl (fun p e s m args below meth c ls X hV hl => t_M_farm X hf hV hl)
set_option maxHeartbeats 2000000 in
set_option maxRecDepth 20000 in
theorem t_M_isFarm {l : Launch} {p : Program} {e : Env} {s : State} {m : MethodId} {args : Array Value} {below : List Frame} {meth : Method} {c : Code} {D : kD} {wc0 : va_W} {h : Nat} {h_now : Nat} {h_kept : Nat} {h_aside : Nat} {h_found : Nat} {h_down : Nat} {h_along : Nat} {h_parts : Nat} {h_gone : Nat} {h_tape : Nat} {h_kinds : Nat} {h_items : Nat} {h_widths : Nat} {h_sizes : Nat} {h_numbers : Nat} {h_moved : Nat} {v_isKept : Int32} {v_taped : Int32} {v_begins : Int32} {v_ends : Int32} {v_sort : Int32} {v_value : Int32} {v_isWrong : Int32} {v_itemMany : Int32} {v_farmMany : Int32} {v_farmCells : Int64} {v_now : Nat → Int32} {x1 : Int32} {out : Int32} (X : kX p m meth c s args D (va_A wc0 s.heap.size) b_M_isFarm "MountainFarmsModel" 2 (some .boolean)) (hf : f_M_isFarm v_now x1 = some out) {H : Heap} {locs : List Loc} (hV : kV D (va_A wc0 s.heap.size) s (wd_M_isFarm D h h_now h_kept h_aside h_found h_down h_along h_parts h_gone h_tape h_kinds h_items h_widths h_sizes h_numbers h_moved v_isKept v_taped v_begins v_ends v_sort v_value v_isWrong v_itemMany v_farmMany v_farmCells v_now) H locs) {ls : Array Slot} (hl : lv_has ls 2 [(0, .ref h), (1, .int x1)]) : W p l e { frames := 1, cells := 0, slots := 0, locals := 22 } s m args below meth c H locs 0 0 (MQ below (kQi D wc0 (wd_M_isFarm D h h_now h_kept h_aside h_found h_down h_along h_parts h_gone h_tape h_kinds h_items h_widths h_sizes h_numbers h_moved v_isKept v_taped v_begins v_ends v_sort v_value v_isWrong v_itemMany v_farmMany v_farmCells v_now) s.heap.size out) args s 0 0 (va_A wc0 s.heap.size)) (F0 m 0 ls []) := by
  unfold f_M_isFarm at hf
  obtain ⟨hx, hb, -⟩ := id X
  refine lv_iload_n hx hb d_M_isFarm_0 rfl (lv_at hl 1 rfl) ?_
  refine lv_iconst (v := 0) hx hb d_M_isFarm_1 ic_0 ?_
  refine lv_aload_n hx hb d_M_isFarm_2 rfl (lv_at hl 0 rfl) ?_
  refine k_get X hV 0 9 0 rfl rfl rfl gw_887 rfl rfl d_M_isFarm_3 ?_
  refine lv_bipush (v := 10) hx hb d_M_isFarm_6 bp_10 ?_
  refine k_iald X hV 1 rfl kin_10_218 kln_10 d_M_isFarm_8 ?_
  refine lv_iconst (v := 1) hx hb d_M_isFarm_9 ic_1 ?_
  refine lv_isub hx hb d_M_isFarm_10 ?_
  obtain ⟨r_4, hc_5, hf⟩ := kb1_some hf
  refine k_csi (w1 := (wd_M_within D)) (r := r_4) (ws' := (wd_M_isFarm D h h_now h_kept h_aside h_found h_down h_along h_parts h_gone h_tape h_kinds h_items h_widths h_sizes h_numbers h_moved v_isKept v_taped v_begins v_ends v_sort v_value v_isWrong v_itemMany v_farmMany v_farmCells v_now)) X hV hl.1 (c_M_within D x1 (0 : Int32) ((v_now 10) - (1 : Int32)) hc_5) fk_M_within gw_970 rfl [] [none, none] rfl rfl ⟨rfl, rfl, trivial⟩ rfl rfl rfl d_M_isFarm_11 (fun H locs hV => ?_)
  obtain ⟨h_6, hf⟩ := kchk hf
  have e_ := Option.some.inj hf
  subst e_
  exact k_iret X rfl hV (knarB h_6) d_M_isFarm_14
set_option maxHeartbeats 2000000 in
set_option maxRecDepth 20000 in
theorem c_M_isFarm {l : Launch} (D : kD) (h : Nat) (h_now : Nat) (h_kept : Nat) (h_aside : Nat) (h_found : Nat) (h_down : Nat) (h_along : Nat) (h_parts : Nat) (h_gone : Nat) (h_tape : Nat) (h_kinds : Nat) (h_items : Nat) (h_widths : Nat) (h_sizes : Nat) (h_numbers : Nat) (h_moved : Nat) (v_isKept : Int32) (v_taped : Int32) (v_begins : Int32) (v_ends : Int32) (v_sort : Int32) (v_value : Int32) (v_isWrong : Int32) (v_itemMany : Int32) (v_farmMany : Int32) (v_farmCells : Int64) (v_now : Nat → Int32) (x1 : Int32) {out : Int32} (hf : f_M_isFarm v_now x1 = some out) : kMi l D y_M_isFarm b_M_isFarm 2 (some .boolean) { frames := 1, cells := 0, slots := 0, locals := 22 } [.ref h, .int x1] (wd_M_isFarm D h h_now h_kept h_aside h_found h_down h_along h_parts h_gone h_tape h_kinds h_items h_widths h_sizes h_numbers h_moved v_isKept v_taped v_begins v_ends v_sort v_value v_isWrong v_itemMany v_farmMany v_farmCells v_now) (wd_M_isFarm D h h_now h_kept h_aside h_found h_down h_along h_parts h_gone h_tape h_kinds h_items h_widths h_sizes h_numbers h_moved v_isKept v_taped v_begins v_ends v_sort v_value v_isWrong v_itemMany v_farmMany v_farmCells v_now) out :=
  kMi_of (own := "MountainFarmsModel") (plainFor_of_name (by decide)) rfl rfl (fun p e s m args below meth c ls X hV hl => t_M_isFarm X hf hV hl)
set_option maxHeartbeats 2000000 in
set_option maxRecDepth 20000 in
theorem t_M_bearsAt_2 {l : Launch} {p : Program} {e : Env} {s : State} {m : MethodId} {args : Array Value} {below : List Frame} {meth : Method} {c : Code} {D : kD} {wc0 : va_W} {s0 : Int32} {s1 : Int32} {x0 : Int32} {x1 : Int32} {x3 : Int32} {out : Int32} (X : kX p m meth c s args D (va_A wc0 s.heap.size) b_M_bearsAt "MountainFarmsModel" 6 (some .int)) (hf : f_M_bearsAt_2 s0 s1 x0 x1 x3 = some out) {H : Heap} {locs : List Loc} (hV : kV D (va_A wc0 s.heap.size) s (wd_M_bearsAt D) H locs) {ls : Array Slot} (hl : lv_has ls 6 [(0, .int x0), (1, .int x1), (3, .int x3)]) : W p l e { frames := 1, cells := 0, slots := 0, locals := 21 } s m args below meth c H locs 0 0 (MQ below (kQi D wc0 (wd_M_bearsAt D) s.heap.size out) args s 0 0 (va_A wc0 s.heap.size)) (F0 m 29 ls [.int s1, .int s0]) := by
  unfold f_M_bearsAt_2 at hf
  obtain ⟨hx, hb, -⟩ := id X
  refine lv_iadd hx hb d_M_bearsAt_29 ?_
  refine lv_istore (lv' := [(4, .int (s0 + s1)), (0, .int x0), (1, .int x1), (3, .int x3)]) hx hb d_M_bearsAt_30 hl (by decide) rfl (fun ls hl => ?_)
  refine lv_iload_n hx hb d_M_bearsAt_32 rfl (lv_at hl 3 rfl) ?_
  refine lv_bipush (v := 25) hx hb d_M_bearsAt_33 bp_25 ?_
  refine lv_iload_n hx hb d_M_bearsAt_35 rfl (lv_at hl 2 rfl) ?_
  refine lv_iconst (v := 2) hx hb d_M_bearsAt_36 ic_2 ?_
  refine lv_idiv hx hb d_M_bearsAt_37 (by decide) ?_
  obtain ⟨r_13, hc_14, hf⟩ := kb1_some hf
  refine k_csi (w1 := (wd_Ma_min D)) (r := r_13) (ws' := (wd_M_bearsAt D)) X hV hl.1 (c_Ma_min D (25 : Int32) (x1 / (2 : Int32)) hc_14) fk_Ma_min gw_1046 rfl [] [] rfl rfl trivial rfl rfl rfl d_M_bearsAt_38 (fun H locs hV => ?_)
  refine lv_iadd hx hb d_M_bearsAt_41 ?_
  refine lv_istore (lv' := [(5, .int (x3 + r_13)), (4, .int (s0 + s1)), (0, .int x0), (1, .int x1), (3, .int x3)]) hx hb d_M_bearsAt_42 hl (by decide) rfl (fun ls hl => ?_)
  refine lv_iload_n hx hb d_M_bearsAt_44 rfl (lv_at hl 2 rfl) ?_
  by_cases c_15 : x0 = 1
  · replace hf := kifp c_15 hf
    refine k_tabIn (tgt := 80) (off := 35) X d_M_bearsAt_45 c_15 (by decide) ?_
    refine lv_iload hx hb d_M_bearsAt_80 (lv_at hl 1 rfl) ?_
    have e_ := Option.some.inj hf
    subst e_
    exact k_iret X rfl hV rfl d_M_bearsAt_82
  replace hf := kifn c_15 hf
  by_cases c_16 : x0 = 2
  · replace hf := kifp c_16 hf
    refine k_tabIn (tgt := 83) (off := 38) X d_M_bearsAt_45 c_16 (by decide) ?_
    refine lv_iload hx hb d_M_bearsAt_83 (lv_at hl 0 rfl) ?_
    have e_ := Option.some.inj hf
    subst e_
    exact k_iret X rfl hV rfl d_M_bearsAt_85
  replace hf := kifn c_16 hf
  by_cases c_17 : x0 = 3
  · replace hf := kifp c_17 hf
    refine k_tabIn (tgt := 86) (off := 41) X d_M_bearsAt_45 c_17 (by decide) ?_
    refine lv_iload hx hb d_M_bearsAt_86 (lv_at hl 1 rfl) ?_
    refine lv_iconst (v := 3) hx hb d_M_bearsAt_88 ic_3 ?_
    refine lv_iadd hx hb d_M_bearsAt_89 ?_
    have e_ := Option.some.inj hf
    subst e_
    exact k_iret X rfl hV rfl d_M_bearsAt_90
  replace hf := kifn c_17 hf
  by_cases c_18 : x0 = 4
  · replace hf := kifp c_18 hf
    refine k_tabIn (tgt := 91) (off := 46) X d_M_bearsAt_45 c_18 (by decide) ?_
    refine lv_bipush (v := 6) hx hb d_M_bearsAt_91 bp_6 ?_
    have e_ := Option.some.inj hf
    subst e_
    exact k_iret X rfl hV rfl d_M_bearsAt_93
  replace hf := kifn c_18 hf
  by_cases c_19 : x0 = 5
  · replace hf := kifp c_19 hf
    refine k_tabIn (tgt := 94) (off := 49) X d_M_bearsAt_45 c_19 (by decide) ?_
    refine lv_iload hx hb d_M_bearsAt_94 (lv_at hl 0 rfl) ?_
    refine lv_iload_n hx hb d_M_bearsAt_96 rfl (lv_at hl 3 rfl) ?_
    refine lv_bipush (v := 50) hx hb d_M_bearsAt_97 bp_50 ?_
    refine lv_icmp_lt (tgt := 107) hx hb d_M_bearsAt_99 (by decide) (fun c_20 => ?_) (fun c_20 => ?_)
    · replace hf := kifp c_20 hf
      refine lv_iconst (v := 0) hx hb d_M_bearsAt_107 ic_0 ?_
      refine lv_iadd hx hb d_M_bearsAt_108 ?_
      have e_ := Option.some.inj hf
      subst e_
      exact k_iret X rfl hV rfl d_M_bearsAt_109
    replace hf := kifn c_20 hf
    refine lv_bipush (v := 10) hx hb d_M_bearsAt_102 bp_10 ?_
    refine lv_goto (tgt := 108) hx hb d_M_bearsAt_104 (by decide) ?_
    refine lv_iadd hx hb d_M_bearsAt_108 ?_
    have e_ := Option.some.inj hf
    subst e_
    exact k_iret X rfl hV rfl d_M_bearsAt_109
  replace hf := kifn c_19 hf
  have c_15e := lv_neT c_15 (a := 1) (by decide)
  have c_16e := lv_neT c_16 (a := 2) (by decide)
  have c_17e := lv_neT c_17 (a := 3) (by decide)
  have c_18e := lv_neT c_18 (a := 4) (by decide)
  have c_19e := lv_neT c_19 (a := 5) (by decide)
  refine lv_tableOut (tgt := 110) hx hb d_M_bearsAt_45 (by omega) (by decide) ?_
  refine lv_iload_n hx hb d_M_bearsAt_110 rfl (lv_at hl 4 rfl) ?_
  have e_ := Option.some.inj hf
  subst e_
  exact k_iret X rfl hV rfl d_M_bearsAt_111
set_option maxHeartbeats 2000000 in
set_option maxRecDepth 20000 in
theorem t_M_bearsAt_1 {l : Launch} {p : Program} {e : Env} {s : State} {m : MethodId} {args : Array Value} {below : List Frame} {meth : Method} {c : Code} {D : kD} {wc0 : va_W} {s0 : Int32} {x0 : Int32} {x1 : Int32} {x2 : Int32} {out : Int32} (X : kX p m meth c s args D (va_A wc0 s.heap.size) b_M_bearsAt "MountainFarmsModel" 6 (some .int)) (hf : f_M_bearsAt_1 s0 x0 x1 x2 = some out) {H : Heap} {locs : List Loc} (hV : kV D (va_A wc0 s.heap.size) s (wd_M_bearsAt D) H locs) {ls : Array Slot} (hl : lv_has ls 6 [(0, .int x0), (1, .int x1), (2, .int x2)]) : W p l e { frames := 1, cells := 0, slots := 0, locals := 21 } s m args below meth c H locs 0 0 (MQ below (kQi D wc0 (wd_M_bearsAt D) s.heap.size out) args s 0 0 (va_A wc0 s.heap.size)) (F0 m 11 ls [.int s0]) := by
  unfold f_M_bearsAt_1 at hf
  obtain ⟨hx, hb, -⟩ := id X
  refine lv_istore_n (lv' := [(3, .int s0), (0, .int x0), (1, .int x1), (2, .int x2)]) hx hb d_M_bearsAt_11 rfl hl (by decide) rfl (fun ls hl => ?_)
  refine lv_iload_n hx hb d_M_bearsAt_12 rfl (lv_at hl 0 rfl) ?_
  refine lv_iload_n hx hb d_M_bearsAt_13 rfl (lv_at hl 3 rfl) ?_
  refine lv_bipush (v := 10) hx hb d_M_bearsAt_14 bp_10 ?_
  refine lv_icmp_ge (tgt := 28) hx hb d_M_bearsAt_16 (by decide) (fun c_12 => ?_) (fun c_12 => ?_)
  · replace hf := kifp c_12 hf
    refine lv_iconst (v := 0) hx hb d_M_bearsAt_28 ic_0 ?_
    exact t_M_bearsAt_2 X hf hV (lv_sub hl [1, 2, 0] rfl)
  replace hf := kifn c_12 hf
  refine lv_iconst (v := 2) hx hb d_M_bearsAt_19 ic_2 ?_
  refine lv_bipush (v := 10) hx hb d_M_bearsAt_20 bp_10 ?_
  refine lv_iload_n hx hb d_M_bearsAt_22 rfl (lv_at hl 3 rfl) ?_
  refine lv_isub hx hb d_M_bearsAt_23 ?_
  refine lv_imul hx hb d_M_bearsAt_24 ?_
  refine lv_goto (tgt := 29) hx hb d_M_bearsAt_25 (by decide) ?_
  exact t_M_bearsAt_2 X hf hV (lv_sub hl [1, 2, 0] rfl)
set_option maxHeartbeats 2000000 in
set_option maxRecDepth 20000 in
theorem t_M_bearsAt {l : Launch} {p : Program} {e : Env} {s : State} {m : MethodId} {args : Array Value} {below : List Frame} {meth : Method} {c : Code} {D : kD} {wc0 : va_W} {x0 : Int32} {x1 : Int32} {x2 : Int32} {out : Int32} (X : kX p m meth c s args D (va_A wc0 s.heap.size) b_M_bearsAt "MountainFarmsModel" 6 (some .int)) (hf : f_M_bearsAt x0 x1 x2 = some out) {H : Heap} {locs : List Loc} (hV : kV D (va_A wc0 s.heap.size) s (wd_M_bearsAt D) H locs) {ls : Array Slot} (hl : lv_has ls 6 [(0, .int x0), (1, .int x1), (2, .int x2)]) : W p l e { frames := 1, cells := 0, slots := 0, locals := 21 } s m args below meth c H locs 0 0 (MQ below (kQi D wc0 (wd_M_bearsAt D) s.heap.size out) args s 0 0 (va_A wc0 s.heap.size)) (F0 m 0 ls []) := by
  unfold f_M_bearsAt at hf
  obtain ⟨hx, hb, -⟩ := id X
  refine lv_iload_n hx hb d_M_bearsAt_0 rfl (lv_at hl 1 rfl) ?_
  refine lv_iconst (v := 5) hx hb d_M_bearsAt_1 ic_5 ?_
  refine lv_icmp_lt (tgt := 10) hx hb d_M_bearsAt_2 (by decide) (fun c_11 => ?_) (fun c_11 => ?_)
  · replace hf := kifp c_11 hf
    refine lv_iconst (v := 0) hx hb d_M_bearsAt_10 ic_0 ?_
    exact t_M_bearsAt_1 X hf hV (lv_sub hl [0, 1, 2] rfl)
  replace hf := kifn c_11 hf
  refine lv_bipush (v := 10) hx hb d_M_bearsAt_5 bp_10 ?_
  refine lv_goto (tgt := 11) hx hb d_M_bearsAt_7 (by decide) ?_
  exact t_M_bearsAt_1 X hf hV (lv_sub hl [0, 1, 2] rfl)
set_option maxHeartbeats 2000000 in
set_option maxRecDepth 20000 in
theorem c_M_bearsAt {l : Launch} (D : kD) (x0 : Int32) (x1 : Int32) (x2 : Int32) {out : Int32} (hf : f_M_bearsAt x0 x1 x2 = some out) : kMi l D y_M_bearsAt b_M_bearsAt 6 (some .int) { frames := 1, cells := 0, slots := 0, locals := 21 } [.int x0, .int x1, .int x2] (wd_M_bearsAt D) (wd_M_bearsAt D) out :=
  kMi_of (own := "MountainFarmsModel") (plainFor_of_name (by decide)) rfl rfl (fun p e s m args below meth c ls X hV hl => t_M_bearsAt X hf hV hl)
set_option maxHeartbeats 2000000 in
set_option maxRecDepth 20000 in
theorem t_M_bears {l : Launch} {p : Program} {e : Env} {s : State} {m : MethodId} {args : Array Value} {below : List Frame} {meth : Method} {c : Code} {D : kD} {wc0 : va_W} {h : Nat} {h_now : Nat} {h_kept : Nat} {h_aside : Nat} {h_found : Nat} {h_down : Nat} {h_along : Nat} {h_parts : Nat} {h_gone : Nat} {h_tape : Nat} {h_kinds : Nat} {h_items : Nat} {h_widths : Nat} {h_sizes : Nat} {h_numbers : Nat} {h_moved : Nat} {v_isKept : Int32} {v_taped : Int32} {v_begins : Int32} {v_ends : Int32} {v_sort : Int32} {v_value : Int32} {v_isWrong : Int32} {v_itemMany : Int32} {v_farmMany : Int32} {v_farmCells : Int64} {v_now : Nat → Int32} {x1 : Int32} {out : Int32} (X : kX p m meth c s args D (va_A wc0 s.heap.size) b_M_bears "MountainFarmsModel" 2 (some .int)) (hf : f_M_bears v_now x1 = some out) {H : Heap} {locs : List Loc} (hV : kV D (va_A wc0 s.heap.size) s (wd_M_bears D h h_now h_kept h_aside h_found h_down h_along h_parts h_gone h_tape h_kinds h_items h_widths h_sizes h_numbers h_moved v_isKept v_taped v_begins v_ends v_sort v_value v_isWrong v_itemMany v_farmMany v_farmCells v_now) H locs) {ls : Array Slot} (hl : lv_has ls 2 [(0, .ref h), (1, .int x1)]) : W p l e { frames := 2, cells := 0, slots := 0, locals := 46 } s m args below meth c H locs 0 0 (MQ below (kQi D wc0 (wd_M_bears D h h_now h_kept h_aside h_found h_down h_along h_parts h_gone h_tape h_kinds h_items h_widths h_sizes h_numbers h_moved v_isKept v_taped v_begins v_ends v_sort v_value v_isWrong v_itemMany v_farmMany v_farmCells v_now) s.heap.size out) args s 0 0 (va_A wc0 s.heap.size)) (F0 m 0 ls []) := by
  unfold f_M_bears at hf
  obtain ⟨hx, hb, -⟩ := id X
  refine lv_aload_n hx hb d_M_bears_0 rfl (lv_at hl 0 rfl) ?_
  refine lv_iload_n hx hb d_M_bears_1 rfl (lv_at hl 1 rfl) ?_
  refine lv_iconst (v := 4) hx hb d_M_bears_2 ic_4 ?_
  obtain ⟨r_11, hc_12, hf⟩ := kb1_some hf
  refine k_cvi (w1 := (wd_M_farmIs D h h_now h_kept h_aside h_found h_down h_along h_parts h_gone h_tape h_kinds h_items h_widths h_sizes h_numbers h_moved v_isKept v_taped v_begins v_ends v_sort v_value v_isWrong v_itemMany v_farmMany v_farmCells v_now)) (r := r_11) (ws' := (wd_M_bears D h h_now h_kept h_aside h_found h_down h_along h_parts h_gone h_tape h_kinds h_items h_widths h_sizes h_numbers h_moved v_isKept v_taped v_begins v_ends v_sort v_value v_isWrong v_itemMany v_farmMany v_farmCells v_now)) X hV hl.1 (c_M_farmIs D h h_now h_kept h_aside h_found h_down h_along h_parts h_gone h_tape h_kinds h_items h_widths h_sizes h_numbers h_moved v_isKept v_taped v_begins v_ends v_sort v_value v_isWrong v_itemMany v_farmMany v_farmCells v_now x1 (4 : Int32) hc_12) fk_M_farmIs gw_990 rfl 0 9 rfl rfl [0, 1] [some 0, some 1] rfl rfl ⟨rfl, rfl, rfl, rfl, rfl, rfl, trivial⟩ rfl rfl rfl d_M_bears_3 (fun H locs hV => ?_)
  refine lv_iconst (v := 1) hx hb d_M_bears_6 ic_1 ?_
  refine lv_icmp_ne (tgt := 14) hx hb d_M_bears_7 (by decide) (fun c_13 => ?_) (fun c_13 => ?_)
  · replace hf := kifn c_13 hf
    refine lv_aload_n hx hb d_M_bears_14 rfl (lv_at hl 0 rfl) ?_
    refine lv_iload_n hx hb d_M_bears_15 rfl (lv_at hl 1 rfl) ?_
    refine lv_iconst (v := 0) hx hb d_M_bears_16 ic_0 ?_
    obtain ⟨r_14, hc_15, hf⟩ := kb1_some hf
    refine k_cvi (w1 := (wd_M_farmIs D h h_now h_kept h_aside h_found h_down h_along h_parts h_gone h_tape h_kinds h_items h_widths h_sizes h_numbers h_moved v_isKept v_taped v_begins v_ends v_sort v_value v_isWrong v_itemMany v_farmMany v_farmCells v_now)) (r := r_14) (ws' := (wd_M_bears D h h_now h_kept h_aside h_found h_down h_along h_parts h_gone h_tape h_kinds h_items h_widths h_sizes h_numbers h_moved v_isKept v_taped v_begins v_ends v_sort v_value v_isWrong v_itemMany v_farmMany v_farmCells v_now)) X hV hl.1 (c_M_farmIs D h h_now h_kept h_aside h_found h_down h_along h_parts h_gone h_tape h_kinds h_items h_widths h_sizes h_numbers h_moved v_isKept v_taped v_begins v_ends v_sort v_value v_isWrong v_itemMany v_farmMany v_farmCells v_now x1 (0 : Int32) hc_15) fk_M_farmIs gw_990 rfl 0 9 rfl rfl [0, 1] [some 0, some 1] rfl rfl ⟨rfl, rfl, rfl, rfl, rfl, rfl, trivial⟩ rfl rfl rfl d_M_bears_17 (fun H locs hV => ?_)
    refine lv_aload_n hx hb d_M_bears_20 rfl (lv_at hl 0 rfl) ?_
    refine k_get X hV 0 9 0 rfl rfl rfl gw_887 rfl rfl d_M_bears_21 ?_
    refine lv_bipush (v := 86) hx hb d_M_bears_24 bp_86 ?_
    refine lv_aload_n hx hb d_M_bears_26 rfl (lv_at hl 0 rfl) ?_
    refine lv_iload_n hx hb d_M_bears_27 rfl (lv_at hl 1 rfl) ?_
    refine lv_iconst (v := 1) hx hb d_M_bears_28 ic_1 ?_
    obtain ⟨r_16, hc_17, hf⟩ := kb1_some hf
    refine k_cvi (w1 := (wd_M_farmIs D h h_now h_kept h_aside h_found h_down h_along h_parts h_gone h_tape h_kinds h_items h_widths h_sizes h_numbers h_moved v_isKept v_taped v_begins v_ends v_sort v_value v_isWrong v_itemMany v_farmMany v_farmCells v_now)) (r := r_16) (ws' := (wd_M_bears D h h_now h_kept h_aside h_found h_down h_along h_parts h_gone h_tape h_kinds h_items h_widths h_sizes h_numbers h_moved v_isKept v_taped v_begins v_ends v_sort v_value v_isWrong v_itemMany v_farmMany v_farmCells v_now)) X hV hl.1 (c_M_farmIs D h h_now h_kept h_aside h_found h_down h_along h_parts h_gone h_tape h_kinds h_items h_widths h_sizes h_numbers h_moved v_isKept v_taped v_begins v_ends v_sort v_value v_isWrong v_itemMany v_farmMany v_farmCells v_now x1 (1 : Int32) hc_17) fk_M_farmIs gw_990 rfl 0 9 rfl rfl [0, 1] [some 0, some 1] rfl rfl ⟨rfl, rfl, rfl, rfl, rfl, rfl, trivial⟩ rfl rfl rfl d_M_bears_29 (fun H locs hV => ?_)
    refine lv_iadd hx hb d_M_bears_32 ?_
    obtain ⟨h_18, hf⟩ := kidx_some hf
    refine k_iald X hV 1 rfl h_18 rfl d_M_bears_33 ?_
    refine lv_aload_n hx hb d_M_bears_34 rfl (lv_at hl 0 rfl) ?_
    refine k_get X hV 0 9 0 rfl rfl rfl gw_887 rfl rfl d_M_bears_35 ?_
    refine lv_iconst (v := 4) hx hb d_M_bears_38 ic_4 ?_
    refine k_iald X hV 1 rfl kin_4_218 kln_4 d_M_bears_39 ?_
    obtain ⟨r_19, hc_20, hf⟩ := kb1_some hf
    refine k_csi (w1 := (wd_M_bearsAt D)) (r := r_19) (ws' := (wd_M_bears D h h_now h_kept h_aside h_found h_down h_along h_parts h_gone h_tape h_kinds h_items h_widths h_sizes h_numbers h_moved v_isKept v_taped v_begins v_ends v_sort v_value v_isWrong v_itemMany v_farmMany v_farmCells v_now)) X hV hl.1 (c_M_bearsAt D r_14 (v_now ((86 : Int32) + r_16).toNatClampNeg) (v_now 4) hc_20) fk_M_bearsAt gw_1043 rfl [] [none, none] rfl rfl ⟨rfl, rfl, trivial⟩ rfl rfl rfl d_M_bears_40 (fun H locs hV => ?_)
    have e_ := Option.some.inj hf
    subst e_
    exact k_iret X rfl hV rfl d_M_bears_43
  replace hf := kifp c_13 hf
  refine lv_iconst (v := 0) hx hb d_M_bears_10 ic_0 ?_
  refine lv_goto (tgt := 43) hx hb d_M_bears_11 (by decide) ?_
  have e_ := Option.some.inj hf
  subst e_
  exact k_iret X rfl hV rfl d_M_bears_43
set_option maxHeartbeats 2000000 in
set_option maxRecDepth 20000 in
theorem c_M_bears {l : Launch} (D : kD) (h : Nat) (h_now : Nat) (h_kept : Nat) (h_aside : Nat) (h_found : Nat) (h_down : Nat) (h_along : Nat) (h_parts : Nat) (h_gone : Nat) (h_tape : Nat) (h_kinds : Nat) (h_items : Nat) (h_widths : Nat) (h_sizes : Nat) (h_numbers : Nat) (h_moved : Nat) (v_isKept : Int32) (v_taped : Int32) (v_begins : Int32) (v_ends : Int32) (v_sort : Int32) (v_value : Int32) (v_isWrong : Int32) (v_itemMany : Int32) (v_farmMany : Int32) (v_farmCells : Int64) (v_now : Nat → Int32) (x1 : Int32) {out : Int32} (hf : f_M_bears v_now x1 = some out) : kMi l D y_M_bears b_M_bears 2 (some .int) { frames := 2, cells := 0, slots := 0, locals := 46 } [.ref h, .int x1] (wd_M_bears D h h_now h_kept h_aside h_found h_down h_along h_parts h_gone h_tape h_kinds h_items h_widths h_sizes h_numbers h_moved v_isKept v_taped v_begins v_ends v_sort v_value v_isWrong v_itemMany v_farmMany v_farmCells v_now) (wd_M_bears D h h_now h_kept h_aside h_found h_down h_along h_parts h_gone h_tape h_kinds h_items h_widths h_sizes h_numbers h_moved v_isKept v_taped v_begins v_ends v_sort v_value v_isWrong v_itemMany v_farmMany v_farmCells v_now) out :=
  kMi_of (own := "MountainFarmsModel") (plainFor_of_name (by decide)) rfl rfl (fun p e s m args below meth c ls X hV hl => t_M_bears X hf hV hl)
set_option maxHeartbeats 2000000 in
set_option maxRecDepth 20000 in
theorem t_M_of_1 {l : Launch} {p : Program} {e : Env} {s : State} {m : MethodId} {args : Array Value} {below : List Frame} {meth : Method} {c : Code} {D : kD} {wc0 : va_W} {h : Nat} {h_now : Nat} {h_kept : Nat} {h_aside : Nat} {h_found : Nat} {h_down : Nat} {h_along : Nat} {h_parts : Nat} {h_gone : Nat} {h_tape : Nat} {h_kinds : Nat} {h_items : Nat} {h_widths : Nat} {h_sizes : Nat} {h_numbers : Nat} {h_moved : Nat} {v_isKept : Int32} {v_taped : Int32} {v_begins : Int32} {v_ends : Int32} {v_sort : Int32} {v_value : Int32} {v_isWrong : Int32} {v_itemMany : Int32} {v_farmMany : Int32} {v_farmCells : Int64} {v_now : Nat → Int32} {v_found : Nat → Int32} {out : Int32 × (Nat → Int32)} (X : kX p m meth c s args D (va_A wc0 s.heap.size) b_M_of "MountainFarmsModel" 3 (some .int)) (hf : f_M_of_1 v_found = some out) {H : Heap} {locs : List Loc} (hV : kV D (va_A wc0 s.heap.size) s (wd_M_of D h h_now h_kept h_aside h_found h_down h_along h_parts h_gone h_tape h_kinds h_items h_widths h_sizes h_numbers h_moved v_isKept v_taped v_begins v_ends v_sort v_value v_isWrong v_itemMany v_farmMany v_farmCells v_now v_found) H locs) {ls : Array Slot} (hl : lv_has ls 3 [(0, .ref h)]) : W p l e { frames := 3, cells := 0, slots := 0, locals := 67 } s m args below meth c H locs 0 0 (MQ below (kQi D wc0 (wd_M_of D h h_now h_kept h_aside h_found h_down h_along h_parts h_gone h_tape h_kinds h_items h_widths h_sizes h_numbers h_moved v_isKept v_taped v_begins v_ends v_sort v_value v_isWrong v_itemMany v_farmMany v_farmCells v_now out.2) s.heap.size out.1) args s 0 0 (va_A wc0 s.heap.size)) (F0 m 17 ls []) := by
  unfold f_M_of_1 at hf
  obtain ⟨hx, hb, -⟩ := id X
  refine lv_aload_n hx hb d_M_of_17 rfl (lv_at hl 0 rfl) ?_
  refine k_ldc (v := (-1000000001)) X gw_973 d_M_of_18 ?_
  obtain ⟨r_26, v_found_27, hc_28, hf⟩ := kb2_some hf
  refine k_cvi (w1 := (wd_M_finding D h h_now h_kept h_aside h_found h_down h_along h_parts h_gone h_tape h_kinds h_items h_widths h_sizes h_numbers h_moved v_isKept v_taped v_begins v_ends v_sort v_value v_isWrong v_itemMany v_farmMany v_farmCells v_found_27)) (r := r_26) (ws' := (wd_M_of D h h_now h_kept h_aside h_found h_down h_along h_parts h_gone h_tape h_kinds h_items h_widths h_sizes h_numbers h_moved v_isKept v_taped v_begins v_ends v_sort v_value v_isWrong v_itemMany v_farmMany v_farmCells v_now v_found_27)) X hV hl.1 (c_M_finding D h h_now h_kept h_aside h_found h_down h_along h_parts h_gone h_tape h_kinds h_items h_widths h_sizes h_numbers h_moved v_isKept v_taped v_begins v_ends v_sort v_value v_isWrong v_itemMany v_farmMany v_farmCells v_found (-1000000001 : Int32) hc_28) fk_M_finding gw_974 rfl 0 9 rfl rfl [0, 2] [some 0, none, some 1] rfl rfl ⟨rfl, rfl, rfl, rfl, rfl, rfl, rfl, trivial⟩ rfl rfl rfl d_M_of_20 (fun H locs hV => ?_)
  have e_ := Option.some.inj hf
  subst e_
  exact k_iret X rfl hV rfl d_M_of_23
set_option maxHeartbeats 2000000 in
set_option maxRecDepth 20000 in
theorem t_M_of {l : Launch} {p : Program} {e : Env} {s : State} {m : MethodId} {args : Array Value} {below : List Frame} {meth : Method} {c : Code} {D : kD} {wc0 : va_W} {h : Nat} {h_now : Nat} {h_kept : Nat} {h_aside : Nat} {h_found : Nat} {h_down : Nat} {h_along : Nat} {h_parts : Nat} {h_gone : Nat} {h_tape : Nat} {h_kinds : Nat} {h_items : Nat} {h_widths : Nat} {h_sizes : Nat} {h_numbers : Nat} {h_moved : Nat} {v_isKept : Int32} {v_taped : Int32} {v_begins : Int32} {v_ends : Int32} {v_sort : Int32} {v_value : Int32} {v_isWrong : Int32} {v_itemMany : Int32} {v_farmMany : Int32} {v_farmCells : Int64} {v_now : Nat → Int32} {v_found : Nat → Int32} {x1 : Int32} {x2 : Int32} {out : Int32 × (Nat → Int32)} (X : kX p m meth c s args D (va_A wc0 s.heap.size) b_M_of "MountainFarmsModel" 3 (some .int)) (hf : f_M_of v_now v_found x1 x2 = some out) {H : Heap} {locs : List Loc} (hV : kV D (va_A wc0 s.heap.size) s (wd_M_of D h h_now h_kept h_aside h_found h_down h_along h_parts h_gone h_tape h_kinds h_items h_widths h_sizes h_numbers h_moved v_isKept v_taped v_begins v_ends v_sort v_value v_isWrong v_itemMany v_farmMany v_farmCells v_now v_found) H locs) {ls : Array Slot} (hl : lv_has ls 3 [(0, .ref h), (1, .int x1), (2, .int x2)]) : W p l e { frames := 3, cells := 0, slots := 0, locals := 67 } s m args below meth c H locs 0 0 (MQ below (kQi D wc0 (wd_M_of D h h_now h_kept h_aside h_found h_down h_along h_parts h_gone h_tape h_kinds h_items h_widths h_sizes h_numbers h_moved v_isKept v_taped v_begins v_ends v_sort v_value v_isWrong v_itemMany v_farmMany v_farmCells v_now out.2) s.heap.size out.1) args s 0 0 (va_A wc0 s.heap.size)) (F0 m 0 ls []) := by
  unfold f_M_of at hf
  obtain ⟨hx, hb, -⟩ := id X
  refine lv_aload_n hx hb d_M_of_0 rfl (lv_at hl 0 rfl) ?_
  refine lv_iload_n hx hb d_M_of_1 rfl (lv_at hl 1 rfl) ?_
  obtain ⟨r_15, hc_16, hf⟩ := kb1_some hf
  refine k_cvi (w1 := (wd_M_isFarm D h h_now h_kept h_aside h_found h_down h_along h_parts h_gone h_tape h_kinds h_items h_widths h_sizes h_numbers h_moved v_isKept v_taped v_begins v_ends v_sort v_value v_isWrong v_itemMany v_farmMany v_farmCells v_now)) (r := r_15) (ws' := (wd_M_of D h h_now h_kept h_aside h_found h_down h_along h_parts h_gone h_tape h_kinds h_items h_widths h_sizes h_numbers h_moved v_isKept v_taped v_begins v_ends v_sort v_value v_isWrong v_itemMany v_farmMany v_farmCells v_now v_found)) X hV hl.1 (c_M_isFarm D h h_now h_kept h_aside h_found h_down h_along h_parts h_gone h_tape h_kinds h_items h_widths h_sizes h_numbers h_moved v_isKept v_taped v_begins v_ends v_sort v_value v_isWrong v_itemMany v_farmMany v_farmCells v_now x1 hc_16) fk_M_isFarm gw_1035 rfl 0 9 rfl rfl [0, 1] [some 0, some 1, none] rfl rfl ⟨rfl, rfl, rfl, rfl, rfl, rfl, rfl, trivial⟩ rfl rfl rfl d_M_of_2 (fun H locs hV => ?_)
  refine lv_if_eq (tgt := 17) hx hb d_M_of_5 (by decide) (fun c_17 => ?_) (fun c_17 => ?_)
  · replace hf := kifp c_17 hf
    exact t_M_of_1 X hf hV (lv_sub hl [0] rfl)
  replace hf := kifn c_17 hf
  refine lv_iload_n hx hb d_M_of_8 rfl (lv_at hl 2 rfl) ?_
  refine lv_iconst (v := 0) hx hb d_M_of_9 ic_0 ?_
  refine lv_iconst (v := 5) hx hb d_M_of_10 ic_5 ?_
  obtain ⟨r_18, hc_19, hf⟩ := kb1_some hf
  refine k_csi (w1 := (wd_M_within D)) (r := r_18) (ws' := (wd_M_of D h h_now h_kept h_aside h_found h_down h_along h_parts h_gone h_tape h_kinds h_items h_widths h_sizes h_numbers h_moved v_isKept v_taped v_begins v_ends v_sort v_value v_isWrong v_itemMany v_farmMany v_farmCells v_now v_found)) X hV hl.1 (c_M_within D x2 (0 : Int32) (5 : Int32) hc_19) fk_M_within gw_970 rfl [] [none, none, none] rfl rfl ⟨rfl, rfl, rfl, trivial⟩ rfl rfl rfl d_M_of_11 (fun H locs hV => ?_)
  refine lv_if_ne (tgt := 24) hx hb d_M_of_14 (by decide) (fun c_20 => ?_) (fun c_20 => ?_)
  · replace hf := kifn c_20 hf
    refine lv_iload_n hx hb d_M_of_24 rfl (lv_at hl 2 rfl) ?_
    refine lv_iconst (v := 5) hx hb d_M_of_25 ic_5 ?_
    refine lv_icmp_ne (tgt := 37) hx hb d_M_of_26 (by decide) (fun c_21 => ?_) (fun c_21 => ?_)
    · replace hf := kifn c_21 hf
      refine lv_aload_n hx hb d_M_of_37 rfl (lv_at hl 0 rfl) ?_
      refine lv_iload_n hx hb d_M_of_38 rfl (lv_at hl 1 rfl) ?_
      refine lv_iload_n hx hb d_M_of_39 rfl (lv_at hl 2 rfl) ?_
      obtain ⟨r_22, hc_23, hf⟩ := kb1_some hf
      refine k_cvi (w1 := (wd_M_farmIs D h h_now h_kept h_aside h_found h_down h_along h_parts h_gone h_tape h_kinds h_items h_widths h_sizes h_numbers h_moved v_isKept v_taped v_begins v_ends v_sort v_value v_isWrong v_itemMany v_farmMany v_farmCells v_now)) (r := r_22) (ws' := (wd_M_of D h h_now h_kept h_aside h_found h_down h_along h_parts h_gone h_tape h_kinds h_items h_widths h_sizes h_numbers h_moved v_isKept v_taped v_begins v_ends v_sort v_value v_isWrong v_itemMany v_farmMany v_farmCells v_now v_found)) X hV hl.1 (c_M_farmIs D h h_now h_kept h_aside h_found h_down h_along h_parts h_gone h_tape h_kinds h_items h_widths h_sizes h_numbers h_moved v_isKept v_taped v_begins v_ends v_sort v_value v_isWrong v_itemMany v_farmMany v_farmCells v_now x1 x2 hc_23) fk_M_farmIs gw_990 rfl 0 9 rfl rfl [0, 1] [some 0, some 1, none] rfl rfl ⟨rfl, rfl, rfl, rfl, rfl, rfl, rfl, trivial⟩ rfl rfl rfl d_M_of_40 (fun H locs hV => ?_)
      have e_ := Option.some.inj hf
      subst e_
      exact k_iret X rfl hV rfl d_M_of_43
    replace hf := kifp c_21 hf
    refine lv_aload_n hx hb d_M_of_29 rfl (lv_at hl 0 rfl) ?_
    refine lv_iload_n hx hb d_M_of_30 rfl (lv_at hl 1 rfl) ?_
    obtain ⟨r_24, hc_25, hf⟩ := kb1_some hf
    refine k_cvi (w1 := (wd_M_bears D h h_now h_kept h_aside h_found h_down h_along h_parts h_gone h_tape h_kinds h_items h_widths h_sizes h_numbers h_moved v_isKept v_taped v_begins v_ends v_sort v_value v_isWrong v_itemMany v_farmMany v_farmCells v_now)) (r := r_24) (ws' := (wd_M_of D h h_now h_kept h_aside h_found h_down h_along h_parts h_gone h_tape h_kinds h_items h_widths h_sizes h_numbers h_moved v_isKept v_taped v_begins v_ends v_sort v_value v_isWrong v_itemMany v_farmMany v_farmCells v_now v_found)) X hV hl.1 (c_M_bears D h h_now h_kept h_aside h_found h_down h_along h_parts h_gone h_tape h_kinds h_items h_widths h_sizes h_numbers h_moved v_isKept v_taped v_begins v_ends v_sort v_value v_isWrong v_itemMany v_farmMany v_farmCells v_now x1 hc_25) fk_M_bears gw_1039 rfl 0 9 rfl rfl [0, 1] [some 0, some 1, none] rfl rfl ⟨rfl, rfl, rfl, rfl, rfl, rfl, rfl, trivial⟩ rfl rfl rfl d_M_of_31 (fun H locs hV => ?_)
    refine lv_goto (tgt := 43) hx hb d_M_of_34 (by decide) ?_
    have e_ := Option.some.inj hf
    subst e_
    exact k_iret X rfl hV rfl d_M_of_43
  replace hf := kifp c_20 hf
  exact t_M_of_1 X hf hV (lv_sub hl [0] rfl)
set_option maxHeartbeats 2000000 in
set_option maxRecDepth 20000 in
theorem c_M_of {l : Launch} (D : kD) (h : Nat) (h_now : Nat) (h_kept : Nat) (h_aside : Nat) (h_found : Nat) (h_down : Nat) (h_along : Nat) (h_parts : Nat) (h_gone : Nat) (h_tape : Nat) (h_kinds : Nat) (h_items : Nat) (h_widths : Nat) (h_sizes : Nat) (h_numbers : Nat) (h_moved : Nat) (v_isKept : Int32) (v_taped : Int32) (v_begins : Int32) (v_ends : Int32) (v_sort : Int32) (v_value : Int32) (v_isWrong : Int32) (v_itemMany : Int32) (v_farmMany : Int32) (v_farmCells : Int64) (v_now : Nat → Int32) (v_found : Nat → Int32) (x1 : Int32) (x2 : Int32) {out : Int32 × (Nat → Int32)} (hf : f_M_of v_now v_found x1 x2 = some out) : kMi l D y_M_of b_M_of 3 (some .int) { frames := 3, cells := 0, slots := 0, locals := 67 } [.ref h, .int x1, .int x2] (wd_M_of D h h_now h_kept h_aside h_found h_down h_along h_parts h_gone h_tape h_kinds h_items h_widths h_sizes h_numbers h_moved v_isKept v_taped v_begins v_ends v_sort v_value v_isWrong v_itemMany v_farmMany v_farmCells v_now v_found) (wd_M_of D h h_now h_kept h_aside h_found h_down h_along h_parts h_gone h_tape h_kinds h_items h_widths h_sizes h_numbers h_moved v_isKept v_taped v_begins v_ends v_sort v_value v_isWrong v_itemMany v_farmMany v_farmCells v_now out.2) out.1 :=
  kMi_of (own := "MountainFarmsModel") (plainFor_of_name (by decide)) rfl rfl (fun p e s m args below meth c ls X hV hl => t_M_of X hf hV hl)
set_option maxHeartbeats 2000000 in
set_option maxRecDepth 20000 in
theorem t_M_sow_1 {l : Launch} {p : Program} {e : Env} {s : State} {m : MethodId} {args : Array Value} {below : List Frame} {meth : Method} {c : Code} {D : kD} {wc0 : va_W} {h : Nat} {h_now : Nat} {h_kept : Nat} {h_aside : Nat} {h_found : Nat} {h_down : Nat} {h_along : Nat} {h_parts : Nat} {h_gone : Nat} {h_tape : Nat} {h_kinds : Nat} {h_items : Nat} {h_widths : Nat} {h_sizes : Nat} {h_numbers : Nat} {h_moved : Nat} {v_isKept : Int32} {v_taped : Int32} {v_begins : Int32} {v_ends : Int32} {v_sort : Int32} {v_value : Int32} {v_isWrong : Int32} {v_itemMany : Int32} {v_farmMany : Int32} {v_farmCells : Int64} {v_now : Nat → Int32} {v_found : Nat → Int32} {out : Int32 × (Nat → Int32) × (Nat → Int32)} (X : kX p m meth c s args D (va_A wc0 s.heap.size) b_M_sow "MountainFarmsModel" 3 (some .int)) (hf : f_M_sow_1 v_now v_found = some out) {H : Heap} {locs : List Loc} (hV : kV D (va_A wc0 s.heap.size) s (wd_M_sow D h h_now h_kept h_aside h_found h_down h_along h_parts h_gone h_tape h_kinds h_items h_widths h_sizes h_numbers h_moved v_isKept v_taped v_begins v_ends v_sort v_value v_isWrong v_itemMany v_farmMany v_farmCells v_now v_found) H locs) {ls : Array Slot} (hl : lv_has ls 3 [(0, .ref h)]) : W p l e { frames := 2, cells := 0, slots := 0, locals := 43 } s m args below meth c H locs 0 0 (MQ below (kQi D wc0 (wd_M_sow D h h_now h_kept h_aside h_found h_down h_along h_parts h_gone h_tape h_kinds h_items h_widths h_sizes h_numbers h_moved v_isKept v_taped v_begins v_ends v_sort v_value v_isWrong v_itemMany v_farmMany v_farmCells out.2.1 out.2.2) s.heap.size out.1) args s 0 0 (va_A wc0 s.heap.size)) (F0 m 32 ls []) := by
  unfold f_M_sow_1 at hf
  obtain ⟨hx, hb, -⟩ := id X
  refine lv_aload_n hx hb d_M_sow_32 rfl (lv_at hl 0 rfl) ?_
  refine k_ldc (v := (-1000000001)) X gw_973 d_M_sow_33 ?_
  obtain ⟨r_22, v_found_23, hc_24, hf⟩ := kb2_some hf
  refine k_cvi (w1 := (wd_M_finding D h h_now h_kept h_aside h_found h_down h_along h_parts h_gone h_tape h_kinds h_items h_widths h_sizes h_numbers h_moved v_isKept v_taped v_begins v_ends v_sort v_value v_isWrong v_itemMany v_farmMany v_farmCells v_found_23)) (r := r_22) (ws' := (wd_M_sow D h h_now h_kept h_aside h_found h_down h_along h_parts h_gone h_tape h_kinds h_items h_widths h_sizes h_numbers h_moved v_isKept v_taped v_begins v_ends v_sort v_value v_isWrong v_itemMany v_farmMany v_farmCells v_now v_found_23)) X hV hl.1 (c_M_finding D h h_now h_kept h_aside h_found h_down h_along h_parts h_gone h_tape h_kinds h_items h_widths h_sizes h_numbers h_moved v_isKept v_taped v_begins v_ends v_sort v_value v_isWrong v_itemMany v_farmMany v_farmCells v_found (-1000000001 : Int32) hc_24) fk_M_finding gw_974 rfl 0 9 rfl rfl [0, 2] [some 0, none, some 1] rfl rfl ⟨rfl, rfl, rfl, rfl, rfl, rfl, rfl, trivial⟩ rfl rfl rfl d_M_sow_35 (fun H locs hV => ?_)
  have e_ := Option.some.inj hf
  subst e_
  exact k_iret X rfl hV rfl d_M_sow_38
set_option maxHeartbeats 2000000 in
set_option maxRecDepth 20000 in
theorem t_M_sow {l : Launch} {p : Program} {e : Env} {s : State} {m : MethodId} {args : Array Value} {below : List Frame} {meth : Method} {c : Code} {D : kD} {wc0 : va_W} {h : Nat} {h_now : Nat} {h_kept : Nat} {h_aside : Nat} {h_found : Nat} {h_down : Nat} {h_along : Nat} {h_parts : Nat} {h_gone : Nat} {h_tape : Nat} {h_kinds : Nat} {h_items : Nat} {h_widths : Nat} {h_sizes : Nat} {h_numbers : Nat} {h_moved : Nat} {v_isKept : Int32} {v_taped : Int32} {v_begins : Int32} {v_ends : Int32} {v_sort : Int32} {v_value : Int32} {v_isWrong : Int32} {v_itemMany : Int32} {v_farmMany : Int32} {v_farmCells : Int64} {v_now : Nat → Int32} {v_found : Nat → Int32} {x1 : Int32} {x2 : Int32} {out : Int32 × (Nat → Int32) × (Nat → Int32)} (X : kX p m meth c s args D (va_A wc0 s.heap.size) b_M_sow "MountainFarmsModel" 3 (some .int)) (hf : f_M_sow v_now v_found x1 x2 = some out) {H : Heap} {locs : List Loc} (hV : kV D (va_A wc0 s.heap.size) s (wd_M_sow D h h_now h_kept h_aside h_found h_down h_along h_parts h_gone h_tape h_kinds h_items h_widths h_sizes h_numbers h_moved v_isKept v_taped v_begins v_ends v_sort v_value v_isWrong v_itemMany v_farmMany v_farmCells v_now v_found) H locs) {ls : Array Slot} (hl : lv_has ls 3 [(0, .ref h), (1, .int x1), (2, .int x2)]) : W p l e { frames := 2, cells := 0, slots := 0, locals := 43 } s m args below meth c H locs 0 0 (MQ below (kQi D wc0 (wd_M_sow D h h_now h_kept h_aside h_found h_down h_along h_parts h_gone h_tape h_kinds h_items h_widths h_sizes h_numbers h_moved v_isKept v_taped v_begins v_ends v_sort v_value v_isWrong v_itemMany v_farmMany v_farmCells out.2.1 out.2.2) s.heap.size out.1) args s 0 0 (va_A wc0 s.heap.size)) (F0 m 0 ls []) := by
  unfold f_M_sow at hf
  obtain ⟨hx, hb, -⟩ := id X
  refine lv_aload_n hx hb d_M_sow_0 rfl (lv_at hl 0 rfl) ?_
  refine lv_iload_n hx hb d_M_sow_1 rfl (lv_at hl 1 rfl) ?_
  obtain ⟨r_13, hc_14, hf⟩ := kb1_some hf
  refine k_cvi (w1 := (wd_M_isFarm D h h_now h_kept h_aside h_found h_down h_along h_parts h_gone h_tape h_kinds h_items h_widths h_sizes h_numbers h_moved v_isKept v_taped v_begins v_ends v_sort v_value v_isWrong v_itemMany v_farmMany v_farmCells v_now)) (r := r_13) (ws' := (wd_M_sow D h h_now h_kept h_aside h_found h_down h_along h_parts h_gone h_tape h_kinds h_items h_widths h_sizes h_numbers h_moved v_isKept v_taped v_begins v_ends v_sort v_value v_isWrong v_itemMany v_farmMany v_farmCells v_now v_found)) X hV hl.1 (c_M_isFarm D h h_now h_kept h_aside h_found h_down h_along h_parts h_gone h_tape h_kinds h_items h_widths h_sizes h_numbers h_moved v_isKept v_taped v_begins v_ends v_sort v_value v_isWrong v_itemMany v_farmMany v_farmCells v_now x1 hc_14) fk_M_isFarm gw_1035 rfl 0 9 rfl rfl [0, 1] [some 0, some 1, none] rfl rfl ⟨rfl, rfl, rfl, rfl, rfl, rfl, rfl, trivial⟩ rfl rfl rfl d_M_sow_2 (fun H locs hV => ?_)
  refine lv_if_eq (tgt := 32) hx hb d_M_sow_5 (by decide) (fun c_15 => ?_) (fun c_15 => ?_)
  · replace hf := kifp c_15 hf
    exact t_M_sow_1 X hf hV (lv_sub hl [0] rfl)
  replace hf := kifn c_15 hf
  refine lv_iload_n hx hb d_M_sow_8 rfl (lv_at hl 2 rfl) ?_
  obtain ⟨r_16, hc_17, hf⟩ := kb1_some hf
  refine k_csi (w1 := (wd_M_isKind D)) (r := r_16) (ws' := (wd_M_sow D h h_now h_kept h_aside h_found h_down h_along h_parts h_gone h_tape h_kinds h_items h_widths h_sizes h_numbers h_moved v_isKept v_taped v_begins v_ends v_sort v_value v_isWrong v_itemMany v_farmMany v_farmCells v_now v_found)) X hV hl.1 (c_M_isKind D x2 hc_17) fk_M_isKind gw_1022 rfl [] [none, none, none] rfl rfl ⟨rfl, rfl, rfl, trivial⟩ rfl rfl rfl d_M_sow_9 (fun H locs hV => ?_)
  refine lv_if_eq (tgt := 32) hx hb d_M_sow_12 (by decide) (fun c_18 => ?_) (fun c_18 => ?_)
  · replace hf := kifp c_18 hf
    exact t_M_sow_1 X hf hV (lv_sub hl [0] rfl)
  replace hf := kifn c_18 hf
  refine lv_aload_n hx hb d_M_sow_15 rfl (lv_at hl 0 rfl) ?_
  refine lv_sipush (v := 158) hx hb d_M_sow_16 sp_158 ?_
  refine lv_iconst (v := 5) hx hb d_M_sow_19 ic_5 ?_
  refine lv_iload_n hx hb d_M_sow_20 rfl (lv_at hl 1 rfl) ?_
  refine lv_imul hx hb d_M_sow_21 ?_
  refine lv_iadd hx hb d_M_sow_22 ?_
  refine lv_iconst (v := 0) hx hb d_M_sow_23 ic_0 ?_
  refine lv_iadd hx hb d_M_sow_24 ?_
  refine lv_iload_n hx hb d_M_sow_25 rfl (lv_at hl 2 rfl) ?_
  obtain ⟨r_19, v_now_20, hc_21, hf⟩ := kb2_some hf
  refine k_cvi (w1 := (wd_M_become D h h_now h_kept h_aside h_found h_down h_along h_parts h_gone h_tape h_kinds h_items h_widths h_sizes h_numbers h_moved v_isKept v_taped v_begins v_ends v_sort v_value v_isWrong v_itemMany v_farmMany v_farmCells v_now_20)) (r := r_19) (ws' := (wd_M_sow D h h_now h_kept h_aside h_found h_down h_along h_parts h_gone h_tape h_kinds h_items h_widths h_sizes h_numbers h_moved v_isKept v_taped v_begins v_ends v_sort v_value v_isWrong v_itemMany v_farmMany v_farmCells v_now_20 v_found)) X hV hl.1 (c_M_become D h h_now h_kept h_aside h_found h_down h_along h_parts h_gone h_tape h_kinds h_items h_widths h_sizes h_numbers h_moved v_isKept v_taped v_begins v_ends v_sort v_value v_isWrong v_itemMany v_farmMany v_farmCells v_now (((158 : Int32) + ((5 : Int32) * x1)) + (0 : Int32)) x2 hc_21) fk_M_become gw_978 rfl 0 9 rfl rfl [0, 1] [some 0, some 1, none] rfl rfl ⟨rfl, rfl, rfl, rfl, rfl, rfl, rfl, trivial⟩ rfl rfl rfl d_M_sow_26 (fun H locs hV => ?_)
  refine lv_goto (tgt := 38) hx hb d_M_sow_29 (by decide) ?_
  have e_ := Option.some.inj hf
  subst e_
  exact k_iret X rfl hV rfl d_M_sow_38
set_option maxHeartbeats 2000000 in
set_option maxRecDepth 20000 in
theorem c_M_sow {l : Launch} (D : kD) (h : Nat) (h_now : Nat) (h_kept : Nat) (h_aside : Nat) (h_found : Nat) (h_down : Nat) (h_along : Nat) (h_parts : Nat) (h_gone : Nat) (h_tape : Nat) (h_kinds : Nat) (h_items : Nat) (h_widths : Nat) (h_sizes : Nat) (h_numbers : Nat) (h_moved : Nat) (v_isKept : Int32) (v_taped : Int32) (v_begins : Int32) (v_ends : Int32) (v_sort : Int32) (v_value : Int32) (v_isWrong : Int32) (v_itemMany : Int32) (v_farmMany : Int32) (v_farmCells : Int64) (v_now : Nat → Int32) (v_found : Nat → Int32) (x1 : Int32) (x2 : Int32) {out : Int32 × (Nat → Int32) × (Nat → Int32)} (hf : f_M_sow v_now v_found x1 x2 = some out) : kMi l D y_M_sow b_M_sow 3 (some .int) { frames := 2, cells := 0, slots := 0, locals := 43 } [.ref h, .int x1, .int x2] (wd_M_sow D h h_now h_kept h_aside h_found h_down h_along h_parts h_gone h_tape h_kinds h_items h_widths h_sizes h_numbers h_moved v_isKept v_taped v_begins v_ends v_sort v_value v_isWrong v_itemMany v_farmMany v_farmCells v_now v_found) (wd_M_sow D h h_now h_kept h_aside h_found h_down h_along h_parts h_gone h_tape h_kinds h_items h_widths h_sizes h_numbers h_moved v_isKept v_taped v_begins v_ends v_sort v_value v_isWrong v_itemMany v_farmMany v_farmCells out.2.1 out.2.2) out.1 :=
  kMi_of (own := "MountainFarmsModel") (plainFor_of_name (by decide)) rfl rfl (fun p e s m args below meth c ls X hV hl => t_M_sow X hf hV hl)
set_option maxHeartbeats 2000000 in
set_option maxRecDepth 20000 in
theorem t_M_above {l : Launch} {p : Program} {e : Env} {s : State} {m : MethodId} {args : Array Value} {below : List Frame} {meth : Method} {c : Code} {D : kD} {wc0 : va_W} {x0 : Int32} {out : Int32} (X : kX p m meth c s args D (va_A wc0 s.heap.size) b_M_above "MountainFarmsModel" 1 (some .int)) (hf : f_M_above x0 = some out) {H : Heap} {locs : List Loc} (hV : kV D (va_A wc0 s.heap.size) s (wd_M_above D) H locs) {ls : Array Slot} (hl : lv_has ls 1 [(0, .int x0)]) : W p l e { frames := 0, cells := 0, slots := 0, locals := 0 } s m args below meth c H locs 0 0 (MQ below (kQi D wc0 (wd_M_above D) s.heap.size out) args s 0 0 (va_A wc0 s.heap.size)) (F0 m 0 ls []) := by
  unfold f_M_above at hf
  obtain ⟨hx, hb, -⟩ := id X
  refine lv_iload_n hx hb d_M_above_0 rfl (lv_at hl 0 rfl) ?_
  refine lv_if_ne (tgt := 8) hx hb d_M_above_1 (by decide) (fun c_4 => ?_) (fun c_4 => ?_)
  · replace hf := kifn c_4 hf
    refine lv_iload_n hx hb d_M_above_8 rfl (lv_at hl 0 rfl) ?_
    refine lv_iconst (v := 3) hx hb d_M_above_9 ic_3 ?_
    refine lv_icmp_ne (tgt := 17) hx hb d_M_above_10 (by decide) (fun c_5 => ?_) (fun c_5 => ?_)
    · replace hf := kifn c_5 hf
      refine lv_iload_n hx hb d_M_above_17 rfl (lv_at hl 0 rfl) ?_
      refine lv_iconst (v := 5) hx hb d_M_above_18 ic_5 ?_
      refine lv_icmp_ne (tgt := 26) hx hb d_M_above_19 (by decide) (fun c_6 => ?_) (fun c_6 => ?_)
      · replace hf := kifn c_6 hf
        refine lv_iconst (v := 0) hx hb d_M_above_26 ic_0 ?_
        have e_ := Option.some.inj hf
        subst e_
        exact k_iret X rfl hV rfl d_M_above_27
      replace hf := kifp c_6 hf
      refine lv_iconst (v := 2) hx hb d_M_above_22 ic_2 ?_
      refine lv_goto (tgt := 27) hx hb d_M_above_23 (by decide) ?_
      have e_ := Option.some.inj hf
      subst e_
      exact k_iret X rfl hV rfl d_M_above_27
    replace hf := kifp c_5 hf
    refine lv_iconst (v := 1) hx hb d_M_above_13 ic_1 ?_
    refine lv_goto (tgt := 27) hx hb d_M_above_14 (by decide) ?_
    have e_ := Option.some.inj hf
    subst e_
    exact k_iret X rfl hV rfl d_M_above_27
  replace hf := kifp c_4 hf
  refine lv_iconst (v := (-1)) hx hb d_M_above_4 ic_m1 ?_
  refine lv_goto (tgt := 27) hx hb d_M_above_5 (by decide) ?_
  have e_ := Option.some.inj hf
  subst e_
  exact k_iret X rfl hV rfl d_M_above_27
set_option maxHeartbeats 2000000 in
set_option maxRecDepth 20000 in
theorem c_M_above {l : Launch} (D : kD) (x0 : Int32) {out : Int32} (hf : f_M_above x0 = some out) : kMi l D y_M_above b_M_above 1 (some .int) { frames := 0, cells := 0, slots := 0, locals := 0 } [.int x0] (wd_M_above D) (wd_M_above D) out :=
  kMi_of (own := "MountainFarmsModel") (plainFor_of_name (by decide)) rfl rfl (fun p e s m args below meth c ls X hV hl => t_M_above X hf hV hl)
set_option maxHeartbeats 2000000 in
set_option maxRecDepth 20000 in
theorem t_M_as_1 {l : Launch} {p : Program} {e : Env} {s : State} {m : MethodId} {args : Array Value} {below : List Frame} {meth : Method} {c : Code} {D : kD} {wc0 : va_W} {h : Nat} {h_now : Nat} {h_kept : Nat} {h_aside : Nat} {h_found : Nat} {h_down : Nat} {h_along : Nat} {h_parts : Nat} {h_gone : Nat} {h_tape : Nat} {h_kinds : Nat} {h_items : Nat} {h_widths : Nat} {h_sizes : Nat} {h_numbers : Nat} {h_moved : Nat} {v_isKept : Int32} {v_taped : Int32} {v_begins : Int32} {v_ends : Int32} {v_sort : Int32} {v_value : Int32} {v_isWrong : Int32} {v_itemMany : Int32} {v_farmMany : Int32} {v_farmCells : Int64} {v_now : Nat → Int32} {v_found : Nat → Int32} {out : Int32 × (Nat → Int32)} (X : kX p m meth c s args D (va_A wc0 s.heap.size) b_M_as "MountainFarmsModel" 4 (some .int)) (hf : f_M_as_1 v_found = some out) {H : Heap} {locs : List Loc} (hV : kV D (va_A wc0 s.heap.size) s (wd_M_as D h h_now h_kept h_aside h_found h_down h_along h_parts h_gone h_tape h_kinds h_items h_widths h_sizes h_numbers h_moved v_isKept v_taped v_begins v_ends v_sort v_value v_isWrong v_itemMany v_farmMany v_farmCells v_now v_found) H locs) {ls : Array Slot} (hl : lv_has ls 4 [(0, .ref h)]) : W p l e { frames := 2, cells := 0, slots := 0, locals := 43 } s m args below meth c H locs 0 0 (MQ below (kQi D wc0 (wd_M_as D h h_now h_kept h_aside h_found h_down h_along h_parts h_gone h_tape h_kinds h_items h_widths h_sizes h_numbers h_moved v_isKept v_taped v_begins v_ends v_sort v_value v_isWrong v_itemMany v_farmMany v_farmCells v_now out.2) s.heap.size out.1) args s 0 0 (va_A wc0 s.heap.size)) (F0 m 15 ls []) := by
  unfold f_M_as_1 at hf
  obtain ⟨hx, hb, -⟩ := id X
  refine lv_aload_n hx hb d_M_as_15 rfl (lv_at hl 0 rfl) ?_
  refine k_ldc (v := (-1000000001)) X gw_973 d_M_as_16 ?_
  obtain ⟨r_30, v_found_31, hc_32, hf⟩ := kb2_some hf
  refine k_cvi (w1 := (wd_M_finding D h h_now h_kept h_aside h_found h_down h_along h_parts h_gone h_tape h_kinds h_items h_widths h_sizes h_numbers h_moved v_isKept v_taped v_begins v_ends v_sort v_value v_isWrong v_itemMany v_farmMany v_farmCells v_found_31)) (r := r_30) (ws' := (wd_M_as D h h_now h_kept h_aside h_found h_down h_along h_parts h_gone h_tape h_kinds h_items h_widths h_sizes h_numbers h_moved v_isKept v_taped v_begins v_ends v_sort v_value v_isWrong v_itemMany v_farmMany v_farmCells v_now v_found_31)) X hV hl.1 (c_M_finding D h h_now h_kept h_aside h_found h_down h_along h_parts h_gone h_tape h_kinds h_items h_widths h_sizes h_numbers h_moved v_isKept v_taped v_begins v_ends v_sort v_value v_isWrong v_itemMany v_farmMany v_farmCells v_found (-1000000001 : Int32) hc_32) fk_M_finding gw_974 rfl 0 9 rfl rfl [0, 2] [some 0, none, some 1] rfl rfl ⟨rfl, rfl, rfl, rfl, rfl, rfl, rfl, trivial⟩ rfl rfl rfl d_M_as_18 (fun H locs hV => ?_)
  have e_ := Option.some.inj hf
  subst e_
  exact k_iret X rfl hV rfl d_M_as_21
set_option maxHeartbeats 2000000 in
set_option maxRecDepth 20000 in
theorem t_M_as_3 {l : Launch} {p : Program} {e : Env} {s : State} {m : MethodId} {args : Array Value} {below : List Frame} {meth : Method} {c : Code} {D : kD} {wc0 : va_W} {h : Nat} {h_now : Nat} {h_kept : Nat} {h_aside : Nat} {h_found : Nat} {h_down : Nat} {h_along : Nat} {h_parts : Nat} {h_gone : Nat} {h_tape : Nat} {h_kinds : Nat} {h_items : Nat} {h_widths : Nat} {h_sizes : Nat} {h_numbers : Nat} {h_moved : Nat} {v_isKept : Int32} {v_taped : Int32} {v_begins : Int32} {v_ends : Int32} {v_sort : Int32} {v_value : Int32} {v_isWrong : Int32} {v_itemMany : Int32} {v_farmMany : Int32} {v_farmCells : Int64} {v_now : Nat → Int32} {v_found : Nat → Int32} {x1 : Int32} {x3 : Int32} {out : Int32 × (Nat → Int32)} (X : kX p m meth c s args D (va_A wc0 s.heap.size) b_M_as "MountainFarmsModel" 4 (some .int)) (hf : f_M_as_3 x1 x3 v_now v_found = some out) {H : Heap} {locs : List Loc} (hV : kV D (va_A wc0 s.heap.size) s (wd_M_as D h h_now h_kept h_aside h_found h_down h_along h_parts h_gone h_tape h_kinds h_items h_widths h_sizes h_numbers h_moved v_isKept v_taped v_begins v_ends v_sort v_value v_isWrong v_itemMany v_farmMany v_farmCells v_now v_found) H locs) {ls : Array Slot} (hl : lv_has ls 4 [(0, .ref h), (1, .int x1), (3, .int x3)]) : W p l e { frames := 2, cells := 0, slots := 0, locals := 43 } s m args below meth c H locs 0 0 (MQ below (kQi D wc0 (wd_M_as D h h_now h_kept h_aside h_found h_down h_along h_parts h_gone h_tape h_kinds h_items h_widths h_sizes h_numbers h_moved v_isKept v_taped v_begins v_ends v_sort v_value v_isWrong v_itemMany v_farmMany v_farmCells v_now out.2) s.heap.size out.1) args s 0 0 (va_A wc0 s.heap.size)) (F0 m 46 ls []) := by
  unfold f_M_as_3 at hf
  obtain ⟨hx, hb, -⟩ := id X
  refine lv_iload_n hx hb d_M_as_46 rfl (lv_at hl 2 rfl) ?_
  refine lv_if_ge (tgt := 59) hx hb d_M_as_47 (by decide) (fun c_37 => ?_) (fun c_37 => ?_)
  · replace hf := kifp c_37 hf
    refine lv_aload_n hx hb d_M_as_59 rfl (lv_at hl 0 rfl) ?_
    refine lv_iload_n hx hb d_M_as_60 rfl (lv_at hl 1 rfl) ?_
    refine lv_iconst (v := 1) hx hb d_M_as_61 ic_1 ?_
    obtain ⟨r_38, hc_39, hf⟩ := kb1_some hf
    refine k_cvi (w1 := (wd_M_farmIs D h h_now h_kept h_aside h_found h_down h_along h_parts h_gone h_tape h_kinds h_items h_widths h_sizes h_numbers h_moved v_isKept v_taped v_begins v_ends v_sort v_value v_isWrong v_itemMany v_farmMany v_farmCells v_now)) (r := r_38) (ws' := (wd_M_as D h h_now h_kept h_aside h_found h_down h_along h_parts h_gone h_tape h_kinds h_items h_widths h_sizes h_numbers h_moved v_isKept v_taped v_begins v_ends v_sort v_value v_isWrong v_itemMany v_farmMany v_farmCells v_now v_found)) X hV hl.1 (c_M_farmIs D h h_now h_kept h_aside h_found h_down h_along h_parts h_gone h_tape h_kinds h_items h_widths h_sizes h_numbers h_moved v_isKept v_taped v_begins v_ends v_sort v_value v_isWrong v_itemMany v_farmMany v_farmCells v_now x1 (1 : Int32) hc_39) fk_M_farmIs gw_990 rfl 0 9 rfl rfl [0, 1] [some 0, some 1, none] rfl rfl ⟨rfl, rfl, rfl, rfl, rfl, rfl, rfl, trivial⟩ rfl rfl rfl d_M_as_62 (fun H locs hV => ?_)
    have e_ := Option.some.inj hf
    subst e_
    exact k_iret X rfl hV rfl d_M_as_65
  replace hf := kifn c_37 hf
  refine lv_aload_n hx hb d_M_as_50 rfl (lv_at hl 0 rfl) ?_
  refine k_ldc (v := (-1000000003)) X gw_1058 d_M_as_51 ?_
  obtain ⟨r_40, v_found_41, hc_42, hf⟩ := kb2_some hf
  refine k_cvi (w1 := (wd_M_finding D h h_now h_kept h_aside h_found h_down h_along h_parts h_gone h_tape h_kinds h_items h_widths h_sizes h_numbers h_moved v_isKept v_taped v_begins v_ends v_sort v_value v_isWrong v_itemMany v_farmMany v_farmCells v_found_41)) (r := r_40) (ws' := (wd_M_as D h h_now h_kept h_aside h_found h_down h_along h_parts h_gone h_tape h_kinds h_items h_widths h_sizes h_numbers h_moved v_isKept v_taped v_begins v_ends v_sort v_value v_isWrong v_itemMany v_farmMany v_farmCells v_now v_found_41)) X hV hl.1 (c_M_finding D h h_now h_kept h_aside h_found h_down h_along h_parts h_gone h_tape h_kinds h_items h_widths h_sizes h_numbers h_moved v_isKept v_taped v_begins v_ends v_sort v_value v_isWrong v_itemMany v_farmMany v_farmCells v_found (-1000000003 : Int32) hc_42) fk_M_finding gw_974 rfl 0 9 rfl rfl [0, 2] [some 0, none, some 1] rfl rfl ⟨rfl, rfl, rfl, rfl, rfl, rfl, rfl, trivial⟩ rfl rfl rfl d_M_as_53 (fun H locs hV => ?_)
  refine lv_goto (tgt := 65) hx hb d_M_as_56 (by decide) ?_
  have e_ := Option.some.inj hf
  subst e_
  exact k_iret X rfl hV rfl d_M_as_65
set_option maxHeartbeats 2000000 in
set_option maxRecDepth 20000 in
theorem tb_M_as_2 {l : Launch} {p : Program} {e : Env} {s : State} {m : MethodId} {args : Array Value} {below : List Frame} {meth : Method} {c : Code} {D : kD} {wc0 : va_W} {h : Nat} {h_now : Nat} {h_kept : Nat} {h_aside : Nat} {h_found : Nat} {h_down : Nat} {h_along : Nat} {h_parts : Nat} {h_gone : Nat} {h_tape : Nat} {h_kinds : Nat} {h_items : Nat} {h_widths : Nat} {h_sizes : Nat} {h_numbers : Nat} {h_moved : Nat} {v_isKept : Int32} {v_taped : Int32} {v_begins : Int32} {v_ends : Int32} {v_sort : Int32} {v_value : Int32} {v_isWrong : Int32} {v_itemMany : Int32} {v_farmMany : Int32} {v_farmCells : Int64} {v_now : Nat → Int32} {v_found : Nat → Int32} {x1 : Int32} {x2 : Int32} {x3 : Int32} {rec2 : Int32 → Option (Int32 × (Nat → Int32))} {out : Int32 × (Nat → Int32)} (X : kX p m meth c s args D (va_A wc0 s.heap.size) b_M_as "MountainFarmsModel" 4 (some .int)) (hrec2 : ∀ (x3 : Int32), rec2 x3 = some out → ∀ (H : Heap) (locs : List Loc) (ls : Array Slot), kV D (va_A wc0 s.heap.size) s (wd_M_as D h h_now h_kept h_aside h_found h_down h_along h_parts h_gone h_tape h_kinds h_items h_widths h_sizes h_numbers h_moved v_isKept v_taped v_begins v_ends v_sort v_value v_isWrong v_itemMany v_farmMany v_farmCells v_now v_found) H locs → lv_has ls 4 [(0, .ref h), (1, .int x1), (2, .int x2), (3, .int x3)] → W p l e { frames := 2, cells := 0, slots := 0, locals := 43 } s m args below meth c H locs 0 0 (MQ below (kQi D wc0 (wd_M_as D h h_now h_kept h_aside h_found h_down h_along h_parts h_gone h_tape h_kinds h_items h_widths h_sizes h_numbers h_moved v_isKept v_taped v_begins v_ends v_sort v_value v_isWrong v_itemMany v_farmMany v_farmCells v_now out.2) s.heap.size out.1) args s 0 0 (va_A wc0 s.heap.size)) (F0 m 29 ls [])) (hf : fb_M_as_2 rec2 x1 x2 v_now v_found x3 = some out) {H : Heap} {locs : List Loc} (hV : kV D (va_A wc0 s.heap.size) s (wd_M_as D h h_now h_kept h_aside h_found h_down h_along h_parts h_gone h_tape h_kinds h_items h_widths h_sizes h_numbers h_moved v_isKept v_taped v_begins v_ends v_sort v_value v_isWrong v_itemMany v_farmMany v_farmCells v_now v_found) H locs) {ls : Array Slot} (hl : lv_has ls 4 [(0, .ref h), (1, .int x1), (2, .int x2), (3, .int x3)]) : W p l e { frames := 2, cells := 0, slots := 0, locals := 43 } s m args below meth c H locs 0 0 (MQ below (kQi D wc0 (wd_M_as D h h_now h_kept h_aside h_found h_down h_along h_parts h_gone h_tape h_kinds h_items h_widths h_sizes h_numbers h_moved v_isKept v_taped v_begins v_ends v_sort v_value v_isWrong v_itemMany v_farmMany v_farmCells v_now out.2) s.heap.size out.1) args s 0 0 (va_A wc0 s.heap.size)) (F0 m 29 ls []) := by
  unfold fb_M_as_2 at hf
  obtain ⟨hx, hb, -⟩ := id X
  refine lv_iload_n hx hb d_M_as_29 rfl (lv_at hl 3 rfl) ?_
  refine lv_if_lt (tgt := 46) hx hb d_M_as_30 (by decide) (fun c_33 => ?_) (fun c_33 => ?_)
  · replace hf := kifp c_33 hf
    exact t_M_as_3 X hf hV (lv_sub hl [0, 1, 3] rfl)
  replace hf := kifn c_33 hf
  refine lv_iload_n hx hb d_M_as_33 rfl (lv_at hl 3 rfl) ?_
  refine lv_iload_n hx hb d_M_as_34 rfl (lv_at hl 2 rfl) ?_
  refine lv_icmp_eq (tgt := 46) hx hb d_M_as_35 (by decide) (fun c_34 => ?_) (fun c_34 => ?_)
  · replace hf := kifp c_34 hf
    exact t_M_as_3 X hf hV (lv_sub hl [0, 1, 3] rfl)
  replace hf := kifn c_34 hf
  refine lv_iload_n hx hb d_M_as_38 rfl (lv_at hl 3 rfl) ?_
  obtain ⟨r_35, hc_36, hf⟩ := kb1_some hf
  refine k_csi (w1 := (wd_M_above D)) (r := r_35) (ws' := (wd_M_as D h h_now h_kept h_aside h_found h_down h_along h_parts h_gone h_tape h_kinds h_items h_widths h_sizes h_numbers h_moved v_isKept v_taped v_begins v_ends v_sort v_value v_isWrong v_itemMany v_farmMany v_farmCells v_now v_found)) X hV hl.1 (c_M_above D x3 hc_36) fk_M_above gw_1055 rfl [] [none, none, none] rfl rfl ⟨rfl, rfl, rfl, trivial⟩ rfl rfl rfl d_M_as_39 (fun H locs hV => ?_)
  refine lv_istore_n (lv' := [(3, .int r_35), (0, .ref h), (1, .int x1), (2, .int x2)]) hx hb d_M_as_42 rfl hl (by decide) rfl (fun ls hl => ?_)
  refine lv_goto (tgt := 29) hx hb d_M_as_43 (by decide) ?_
  exact hrec2 _ hf _ _ _ hV (lv_sub hl [1, 2, 3, 0] rfl)
set_option maxHeartbeats 2000000 in
set_option maxRecDepth 20000 in
theorem tl_M_as_2 {l : Launch} {p : Program} {e : Env} {s : State} {m : MethodId} {args : Array Value} {below : List Frame} {meth : Method} {c : Code} {D : kD} {wc0 : va_W} {h : Nat} {h_now : Nat} {h_kept : Nat} {h_aside : Nat} {h_found : Nat} {h_down : Nat} {h_along : Nat} {h_parts : Nat} {h_gone : Nat} {h_tape : Nat} {h_kinds : Nat} {h_items : Nat} {h_widths : Nat} {h_sizes : Nat} {h_numbers : Nat} {h_moved : Nat} {v_isKept : Int32} {v_taped : Int32} {v_begins : Int32} {v_ends : Int32} {v_sort : Int32} {v_value : Int32} {v_isWrong : Int32} {v_itemMany : Int32} {v_farmMany : Int32} {v_farmCells : Int64} {v_now : Nat → Int32} {v_found : Nat → Int32} {x1 : Int32} {x2 : Int32} {out : Int32 × (Nat → Int32)} (X : kX p m meth c s args D (va_A wc0 s.heap.size) b_M_as "MountainFarmsModel" 4 (some .int)) : ∀ (n : Nat) (x3 : Int32), fl_M_as_2 x1 x2 v_now v_found n x3 = some out → ∀ (H : Heap) (locs : List Loc) (ls : Array Slot), kV D (va_A wc0 s.heap.size) s (wd_M_as D h h_now h_kept h_aside h_found h_down h_along h_parts h_gone h_tape h_kinds h_items h_widths h_sizes h_numbers h_moved v_isKept v_taped v_begins v_ends v_sort v_value v_isWrong v_itemMany v_farmMany v_farmCells v_now v_found) H locs → lv_has ls 4 [(0, .ref h), (1, .int x1), (2, .int x2), (3, .int x3)] → W p l e { frames := 2, cells := 0, slots := 0, locals := 43 } s m args below meth c H locs 0 0 (MQ below (kQi D wc0 (wd_M_as D h h_now h_kept h_aside h_found h_down h_along h_parts h_gone h_tape h_kinds h_items h_widths h_sizes h_numbers h_moved v_isKept v_taped v_begins v_ends v_sort v_value v_isWrong v_itemMany v_farmMany v_farmCells v_now out.2) s.heap.size out.1) args s 0 0 (va_A wc0 s.heap.size)) (F0 m 29 ls []) := by
  intro n
  induction n with
  | zero => intro x3 hf; exact knone hf
  | succ n ih => intro x3 hf H locs ls hV hl; exact tb_M_as_2 X ih hf hV hl
set_option maxHeartbeats 2000000 in
set_option maxRecDepth 20000 in
theorem t_M_as {l : Launch} {p : Program} {e : Env} {s : State} {m : MethodId} {args : Array Value} {below : List Frame} {meth : Method} {c : Code} {D : kD} {wc0 : va_W} {h : Nat} {h_now : Nat} {h_kept : Nat} {h_aside : Nat} {h_found : Nat} {h_down : Nat} {h_along : Nat} {h_parts : Nat} {h_gone : Nat} {h_tape : Nat} {h_kinds : Nat} {h_items : Nat} {h_widths : Nat} {h_sizes : Nat} {h_numbers : Nat} {h_moved : Nat} {v_isKept : Int32} {v_taped : Int32} {v_begins : Int32} {v_ends : Int32} {v_sort : Int32} {v_value : Int32} {v_isWrong : Int32} {v_itemMany : Int32} {v_farmMany : Int32} {v_farmCells : Int64} {v_now : Nat → Int32} {v_found : Nat → Int32} {x1 : Int32} {x2 : Int32} {out : Int32 × (Nat → Int32)} (X : kX p m meth c s args D (va_A wc0 s.heap.size) b_M_as "MountainFarmsModel" 4 (some .int)) (hf : f_M_as v_now v_found x1 x2 = some out) {H : Heap} {locs : List Loc} (hV : kV D (va_A wc0 s.heap.size) s (wd_M_as D h h_now h_kept h_aside h_found h_down h_along h_parts h_gone h_tape h_kinds h_items h_widths h_sizes h_numbers h_moved v_isKept v_taped v_begins v_ends v_sort v_value v_isWrong v_itemMany v_farmMany v_farmCells v_now v_found) H locs) {ls : Array Slot} (hl : lv_has ls 4 [(0, .ref h), (1, .int x1), (2, .int x2)]) : W p l e { frames := 2, cells := 0, slots := 0, locals := 43 } s m args below meth c H locs 0 0 (MQ below (kQi D wc0 (wd_M_as D h h_now h_kept h_aside h_found h_down h_along h_parts h_gone h_tape h_kinds h_items h_widths h_sizes h_numbers h_moved v_isKept v_taped v_begins v_ends v_sort v_value v_isWrong v_itemMany v_farmMany v_farmCells v_now out.2) s.heap.size out.1) args s 0 0 (va_A wc0 s.heap.size)) (F0 m 0 ls []) := by
  unfold f_M_as at hf
  obtain ⟨hx, hb, -⟩ := id X
  refine lv_aload_n hx hb d_M_as_0 rfl (lv_at hl 0 rfl) ?_
  refine lv_iload_n hx hb d_M_as_1 rfl (lv_at hl 1 rfl) ?_
  obtain ⟨r_22, hc_23, hf⟩ := kb1_some hf
  refine k_cvi (w1 := (wd_M_isFarm D h h_now h_kept h_aside h_found h_down h_along h_parts h_gone h_tape h_kinds h_items h_widths h_sizes h_numbers h_moved v_isKept v_taped v_begins v_ends v_sort v_value v_isWrong v_itemMany v_farmMany v_farmCells v_now)) (r := r_22) (ws' := (wd_M_as D h h_now h_kept h_aside h_found h_down h_along h_parts h_gone h_tape h_kinds h_items h_widths h_sizes h_numbers h_moved v_isKept v_taped v_begins v_ends v_sort v_value v_isWrong v_itemMany v_farmMany v_farmCells v_now v_found)) X hV hl.1 (c_M_isFarm D h h_now h_kept h_aside h_found h_down h_along h_parts h_gone h_tape h_kinds h_items h_widths h_sizes h_numbers h_moved v_isKept v_taped v_begins v_ends v_sort v_value v_isWrong v_itemMany v_farmMany v_farmCells v_now x1 hc_23) fk_M_isFarm gw_1035 rfl 0 9 rfl rfl [0, 1] [some 0, some 1, none] rfl rfl ⟨rfl, rfl, rfl, rfl, rfl, rfl, rfl, trivial⟩ rfl rfl rfl d_M_as_2 (fun H locs hV => ?_)
  refine lv_if_eq (tgt := 15) hx hb d_M_as_5 (by decide) (fun c_24 => ?_) (fun c_24 => ?_)
  · replace hf := kifp c_24 hf
    exact t_M_as_1 X hf hV (lv_sub hl [0] rfl)
  replace hf := kifn c_24 hf
  refine lv_iload_n hx hb d_M_as_8 rfl (lv_at hl 2 rfl) ?_
  obtain ⟨r_25, hc_26, hf⟩ := kb1_some hf
  refine k_csi (w1 := (wd_M_isKind D)) (r := r_25) (ws' := (wd_M_as D h h_now h_kept h_aside h_found h_down h_along h_parts h_gone h_tape h_kinds h_items h_widths h_sizes h_numbers h_moved v_isKept v_taped v_begins v_ends v_sort v_value v_isWrong v_itemMany v_farmMany v_farmCells v_now v_found)) X hV hl.1 (c_M_isKind D x2 hc_26) fk_M_isKind gw_1022 rfl [] [none, none, none] rfl rfl ⟨rfl, rfl, rfl, trivial⟩ rfl rfl rfl d_M_as_9 (fun H locs hV => ?_)
  refine lv_if_ne (tgt := 22) hx hb d_M_as_12 (by decide) (fun c_27 => ?_) (fun c_27 => ?_)
  · replace hf := kifn c_27 hf
    refine lv_aload_n hx hb d_M_as_22 rfl (lv_at hl 0 rfl) ?_
    refine lv_iload_n hx hb d_M_as_23 rfl (lv_at hl 1 rfl) ?_
    refine lv_iconst (v := 0) hx hb d_M_as_24 ic_0 ?_
    obtain ⟨r_28, hc_29, hf⟩ := kb1_some hf
    refine k_cvi (w1 := (wd_M_farmIs D h h_now h_kept h_aside h_found h_down h_along h_parts h_gone h_tape h_kinds h_items h_widths h_sizes h_numbers h_moved v_isKept v_taped v_begins v_ends v_sort v_value v_isWrong v_itemMany v_farmMany v_farmCells v_now)) (r := r_28) (ws' := (wd_M_as D h h_now h_kept h_aside h_found h_down h_along h_parts h_gone h_tape h_kinds h_items h_widths h_sizes h_numbers h_moved v_isKept v_taped v_begins v_ends v_sort v_value v_isWrong v_itemMany v_farmMany v_farmCells v_now v_found)) X hV hl.1 (c_M_farmIs D h h_now h_kept h_aside h_found h_down h_along h_parts h_gone h_tape h_kinds h_items h_widths h_sizes h_numbers h_moved v_isKept v_taped v_begins v_ends v_sort v_value v_isWrong v_itemMany v_farmMany v_farmCells v_now x1 (0 : Int32) hc_29) fk_M_farmIs gw_990 rfl 0 9 rfl rfl [0, 1] [some 0, some 1, none] rfl rfl ⟨rfl, rfl, rfl, rfl, rfl, rfl, rfl, trivial⟩ rfl rfl rfl d_M_as_25 (fun H locs hV => ?_)
    refine lv_istore_n (lv' := [(3, .int r_28), (0, .ref h), (1, .int x1), (2, .int x2)]) hx hb d_M_as_28 rfl hl (by decide) rfl (fun ls hl => ?_)
    exact tl_M_as_2 X _ _ hf _ _ _ hV (lv_sub hl [1, 2, 3, 0] rfl)
  replace hf := kifp c_27 hf
  exact t_M_as_1 X hf hV (lv_sub hl [0] rfl)
set_option maxHeartbeats 2000000 in
set_option maxRecDepth 20000 in
theorem c_M_as {l : Launch} (D : kD) (h : Nat) (h_now : Nat) (h_kept : Nat) (h_aside : Nat) (h_found : Nat) (h_down : Nat) (h_along : Nat) (h_parts : Nat) (h_gone : Nat) (h_tape : Nat) (h_kinds : Nat) (h_items : Nat) (h_widths : Nat) (h_sizes : Nat) (h_numbers : Nat) (h_moved : Nat) (v_isKept : Int32) (v_taped : Int32) (v_begins : Int32) (v_ends : Int32) (v_sort : Int32) (v_value : Int32) (v_isWrong : Int32) (v_itemMany : Int32) (v_farmMany : Int32) (v_farmCells : Int64) (v_now : Nat → Int32) (v_found : Nat → Int32) (x1 : Int32) (x2 : Int32) {out : Int32 × (Nat → Int32)} (hf : f_M_as v_now v_found x1 x2 = some out) : kMi l D y_M_as b_M_as 4 (some .int) { frames := 2, cells := 0, slots := 0, locals := 43 } [.ref h, .int x1, .int x2] (wd_M_as D h h_now h_kept h_aside h_found h_down h_along h_parts h_gone h_tape h_kinds h_items h_widths h_sizes h_numbers h_moved v_isKept v_taped v_begins v_ends v_sort v_value v_isWrong v_itemMany v_farmMany v_farmCells v_now v_found) (wd_M_as D h h_now h_kept h_aside h_found h_down h_along h_parts h_gone h_tape h_kinds h_items h_widths h_sizes h_numbers h_moved v_isKept v_taped v_begins v_ends v_sort v_value v_isWrong v_itemMany v_farmMany v_farmCells v_now out.2) out.1 :=
  kMi_of (own := "MountainFarmsModel") (plainFor_of_name (by decide)) rfl rfl (fun p e s m args below meth c ls X hV hl => t_M_as X hf hV hl)
set_option maxHeartbeats 2000000 in
set_option maxRecDepth 20000 in
theorem t_M_build {l : Launch} {p : Program} {e : Env} {s : State} {m : MethodId} {args : Array Value} {below : List Frame} {meth : Method} {c : Code} {D : kD} {wc0 : va_W} {h : Nat} {h_now : Nat} {h_kept : Nat} {h_aside : Nat} {h_found : Nat} {h_down : Nat} {h_along : Nat} {h_parts : Nat} {h_gone : Nat} {h_tape : Nat} {h_kinds : Nat} {h_items : Nat} {h_widths : Nat} {h_sizes : Nat} {h_numbers : Nat} {h_moved : Nat} {v_isKept : Int32} {v_taped : Int32} {v_begins : Int32} {v_ends : Int32} {v_sort : Int32} {v_value : Int32} {v_isWrong : Int32} {v_itemMany : Int32} {v_farmMany : Int32} {v_farmCells : Int64} {v_now : Nat → Int32} {v_found : Nat → Int32} {x1 : Int32} {out : Int32 × (Nat → Int32) × (Nat → Int32)} (X : kX p m meth c s args D (va_A wc0 s.heap.size) b_M_build "MountainFarmsModel" 3 (some .int)) (hf : f_M_build v_now v_found x1 = some out) {H : Heap} {locs : List Loc} (hV : kV D (va_A wc0 s.heap.size) s (wd_M_build D h h_now h_kept h_aside h_found h_down h_along h_parts h_gone h_tape h_kinds h_items h_widths h_sizes h_numbers h_moved v_isKept v_taped v_begins v_ends v_sort v_value v_isWrong v_itemMany v_farmMany v_farmCells v_now v_found) H locs) {ls : Array Slot} (hl : lv_has ls 3 [(0, .ref h), (1, .int x1)]) : W p l e { frames := 2, cells := 0, slots := 0, locals := 43 } s m args below meth c H locs 0 0 (MQ below (kQi D wc0 (wd_M_build D h h_now h_kept h_aside h_found h_down h_along h_parts h_gone h_tape h_kinds h_items h_widths h_sizes h_numbers h_moved v_isKept v_taped v_begins v_ends v_sort v_value v_isWrong v_itemMany v_farmMany v_farmCells out.2.1 out.2.2) s.heap.size out.1) args s 0 0 (va_A wc0 s.heap.size)) (F0 m 0 ls []) := by
  unfold f_M_build at hf
  obtain ⟨hx, hb, -⟩ := id X
  refine lv_aload_n hx hb d_M_build_0 rfl (lv_at hl 0 rfl) ?_
  refine lv_iload_n hx hb d_M_build_1 rfl (lv_at hl 1 rfl) ?_
  obtain ⟨r_19, hc_20, hf⟩ := kb1_some hf
  refine k_cvi (w1 := (wd_M_isFarm D h h_now h_kept h_aside h_found h_down h_along h_parts h_gone h_tape h_kinds h_items h_widths h_sizes h_numbers h_moved v_isKept v_taped v_begins v_ends v_sort v_value v_isWrong v_itemMany v_farmMany v_farmCells v_now)) (r := r_19) (ws' := (wd_M_build D h h_now h_kept h_aside h_found h_down h_along h_parts h_gone h_tape h_kinds h_items h_widths h_sizes h_numbers h_moved v_isKept v_taped v_begins v_ends v_sort v_value v_isWrong v_itemMany v_farmMany v_farmCells v_now v_found)) X hV hl.1 (c_M_isFarm D h h_now h_kept h_aside h_found h_down h_along h_parts h_gone h_tape h_kinds h_items h_widths h_sizes h_numbers h_moved v_isKept v_taped v_begins v_ends v_sort v_value v_isWrong v_itemMany v_farmMany v_farmCells v_now x1 hc_20) fk_M_isFarm gw_1035 rfl 0 9 rfl rfl [0, 1] [some 0, some 1, none] rfl rfl ⟨rfl, rfl, rfl, rfl, rfl, rfl, rfl, trivial⟩ rfl rfl rfl d_M_build_2 (fun H locs hV => ?_)
  refine lv_if_ne (tgt := 15) hx hb d_M_build_5 (by decide) (fun c_21 => ?_) (fun c_21 => ?_)
  · replace hf := kifn c_21 hf
    refine lv_aload_n hx hb d_M_build_15 rfl (lv_at hl 0 rfl) ?_
    refine lv_iload_n hx hb d_M_build_16 rfl (lv_at hl 1 rfl) ?_
    refine lv_iconst (v := 4) hx hb d_M_build_17 ic_4 ?_
    obtain ⟨r_22, hc_23, hf⟩ := kb1_some hf
    refine k_cvi (w1 := (wd_M_farmIs D h h_now h_kept h_aside h_found h_down h_along h_parts h_gone h_tape h_kinds h_items h_widths h_sizes h_numbers h_moved v_isKept v_taped v_begins v_ends v_sort v_value v_isWrong v_itemMany v_farmMany v_farmCells v_now)) (r := r_22) (ws' := (wd_M_build D h h_now h_kept h_aside h_found h_down h_along h_parts h_gone h_tape h_kinds h_items h_widths h_sizes h_numbers h_moved v_isKept v_taped v_begins v_ends v_sort v_value v_isWrong v_itemMany v_farmMany v_farmCells v_now v_found)) X hV hl.1 (c_M_farmIs D h h_now h_kept h_aside h_found h_down h_along h_parts h_gone h_tape h_kinds h_items h_widths h_sizes h_numbers h_moved v_isKept v_taped v_begins v_ends v_sort v_value v_isWrong v_itemMany v_farmMany v_farmCells v_now x1 (4 : Int32) hc_23) fk_M_farmIs gw_990 rfl 0 9 rfl rfl [0, 1] [some 0, some 1, none] rfl rfl ⟨rfl, rfl, rfl, rfl, rfl, rfl, rfl, trivial⟩ rfl rfl rfl d_M_build_18 (fun H locs hV => ?_)
    refine lv_if_ne (tgt := 31) hx hb d_M_build_21 (by decide) (fun c_24 => ?_) (fun c_24 => ?_)
    · replace hf := kifn c_24 hf
      refine lv_sipush (v := 158) hx hb d_M_build_31 sp_158 ?_
      refine lv_iconst (v := 5) hx hb d_M_build_34 ic_5 ?_
      refine lv_iload_n hx hb d_M_build_35 rfl (lv_at hl 1 rfl) ?_
      refine lv_imul hx hb d_M_build_36 ?_
      refine lv_iadd hx hb d_M_build_37 ?_
      refine k_leti hf (fun x2_25 hf => ?_)
      refine lv_istore_n (lv' := [(2, .int x2_25), (0, .ref h), (1, .int x1)]) hx hb d_M_build_38 rfl hl (by decide) rfl (fun ls hl => ?_)
      refine lv_aload_n hx hb d_M_build_39 rfl (lv_at hl 1 rfl) ?_
      refine k_get X hV 0 9 0 rfl rfl rfl gw_887 rfl rfl d_M_build_40 ?_
      refine lv_iload_n hx hb d_M_build_43 rfl (lv_at hl 0 rfl) ?_
      refine lv_iconst (v := 4) hx hb d_M_build_44 ic_4 ?_
      refine lv_iadd hx hb d_M_build_45 ?_
      refine lv_iconst (v := 0) hx hb d_M_build_46 ic_0 ?_
      obtain ⟨h_26, hf⟩ := kidx_some hf
      refine k_iast (ws' := (wd_M_build D h h_now h_kept h_aside h_found h_down h_along h_parts h_gone h_tape h_kinds h_items h_widths h_sizes h_numbers h_moved v_isKept v_taped v_begins v_ends v_sort v_value v_isWrong v_itemMany v_farmMany v_farmCells (upd v_now (x2_25 + (4 : Int32)).toNatClampNeg (0 : Int32)) v_found)) X hV 1 rfl h_26 rfl rfl d_M_build_47 (fun H locs hV => ?_)
      refine lv_aload_n hx hb d_M_build_48 rfl (lv_at hl 1 rfl) ?_
      refine k_get X hV 0 9 0 rfl rfl rfl gw_887 rfl rfl d_M_build_49 ?_
      refine lv_iload_n hx hb d_M_build_52 rfl (lv_at hl 0 rfl) ?_
      refine lv_iconst (v := 3) hx hb d_M_build_53 ic_3 ?_
      refine lv_iadd hx hb d_M_build_54 ?_
      refine lv_dup2_11 hx hb d_M_build_55 rfl rfl ?_
      obtain ⟨h_27, hf⟩ := kidx_some hf
      refine k_iald X hV 1 rfl h_27 rfl d_M_build_56 ?_
      refine lv_bipush (v := 20) hx hb d_M_build_57 bp_20 ?_
      refine lv_isub hx hb d_M_build_59 ?_
      refine k_leti hf (fun y_28 hf => ?_)
      obtain ⟨h_29, hf⟩ := kidx_some hf
      refine k_iast (ws' := (wd_M_build D h h_now h_kept h_aside h_found h_down h_along h_parts h_gone h_tape h_kinds h_items h_widths h_sizes h_numbers h_moved v_isKept v_taped v_begins v_ends v_sort v_value v_isWrong v_itemMany v_farmMany v_farmCells (upd (upd v_now (x2_25 + (4 : Int32)).toNatClampNeg (0 : Int32)) (x2_25 + (3 : Int32)).toNatClampNeg y_28) v_found)) X hV 1 rfl h_29 rfl rfl d_M_build_60 (fun H locs hV => ?_)
      refine lv_aload_n hx hb d_M_build_61 rfl (lv_at hl 1 rfl) ?_
      refine k_get X hV 0 9 0 rfl rfl rfl gw_887 rfl rfl d_M_build_62 ?_
      refine lv_iload_n hx hb d_M_build_65 rfl (lv_at hl 0 rfl) ?_
      refine lv_iconst (v := 3) hx hb d_M_build_66 ic_3 ?_
      refine lv_iadd hx hb d_M_build_67 ?_
      obtain ⟨h_30, hf⟩ := kidx_some hf
      refine k_iald X hV 1 rfl h_30 rfl d_M_build_68 ?_
      have e_ := Option.some.inj hf
      subst e_
      exact k_iret X rfl hV rfl d_M_build_69
    replace hf := kifp c_24 hf
    refine lv_aload_n hx hb d_M_build_24 rfl (lv_at hl 0 rfl) ?_
    refine k_ldc (v := (-1000000005)) X gw_1025 d_M_build_25 ?_
    obtain ⟨r_31, v_found_32, hc_33, hf⟩ := kb2_some hf
    refine k_cvi (w1 := (wd_M_finding D h h_now h_kept h_aside h_found h_down h_along h_parts h_gone h_tape h_kinds h_items h_widths h_sizes h_numbers h_moved v_isKept v_taped v_begins v_ends v_sort v_value v_isWrong v_itemMany v_farmMany v_farmCells v_found_32)) (r := r_31) (ws' := (wd_M_build D h h_now h_kept h_aside h_found h_down h_along h_parts h_gone h_tape h_kinds h_items h_widths h_sizes h_numbers h_moved v_isKept v_taped v_begins v_ends v_sort v_value v_isWrong v_itemMany v_farmMany v_farmCells v_now v_found_32)) X hV hl.1 (c_M_finding D h h_now h_kept h_aside h_found h_down h_along h_parts h_gone h_tape h_kinds h_items h_widths h_sizes h_numbers h_moved v_isKept v_taped v_begins v_ends v_sort v_value v_isWrong v_itemMany v_farmMany v_farmCells v_found (-1000000005 : Int32) hc_33) fk_M_finding gw_974 rfl 0 9 rfl rfl [0, 2] [some 0, none, some 1] rfl rfl ⟨rfl, rfl, rfl, rfl, rfl, rfl, rfl, trivial⟩ rfl rfl rfl d_M_build_27 (fun H locs hV => ?_)
    have e_ := Option.some.inj hf
    subst e_
    exact k_iret X rfl hV rfl d_M_build_30
  replace hf := kifp c_21 hf
  refine lv_aload_n hx hb d_M_build_8 rfl (lv_at hl 0 rfl) ?_
  refine k_ldc (v := (-1000000001)) X gw_973 d_M_build_9 ?_
  obtain ⟨r_34, v_found_35, hc_36, hf⟩ := kb2_some hf
  refine k_cvi (w1 := (wd_M_finding D h h_now h_kept h_aside h_found h_down h_along h_parts h_gone h_tape h_kinds h_items h_widths h_sizes h_numbers h_moved v_isKept v_taped v_begins v_ends v_sort v_value v_isWrong v_itemMany v_farmMany v_farmCells v_found_35)) (r := r_34) (ws' := (wd_M_build D h h_now h_kept h_aside h_found h_down h_along h_parts h_gone h_tape h_kinds h_items h_widths h_sizes h_numbers h_moved v_isKept v_taped v_begins v_ends v_sort v_value v_isWrong v_itemMany v_farmMany v_farmCells v_now v_found_35)) X hV hl.1 (c_M_finding D h h_now h_kept h_aside h_found h_down h_along h_parts h_gone h_tape h_kinds h_items h_widths h_sizes h_numbers h_moved v_isKept v_taped v_begins v_ends v_sort v_value v_isWrong v_itemMany v_farmMany v_farmCells v_found (-1000000001 : Int32) hc_36) fk_M_finding gw_974 rfl 0 9 rfl rfl [0, 2] [some 0, none, some 1] rfl rfl ⟨rfl, rfl, rfl, rfl, rfl, rfl, rfl, trivial⟩ rfl rfl rfl d_M_build_11 (fun H locs hV => ?_)
  have e_ := Option.some.inj hf
  subst e_
  exact k_iret X rfl hV rfl d_M_build_14
set_option maxHeartbeats 2000000 in
set_option maxRecDepth 20000 in
theorem c_M_build {l : Launch} (D : kD) (h : Nat) (h_now : Nat) (h_kept : Nat) (h_aside : Nat) (h_found : Nat) (h_down : Nat) (h_along : Nat) (h_parts : Nat) (h_gone : Nat) (h_tape : Nat) (h_kinds : Nat) (h_items : Nat) (h_widths : Nat) (h_sizes : Nat) (h_numbers : Nat) (h_moved : Nat) (v_isKept : Int32) (v_taped : Int32) (v_begins : Int32) (v_ends : Int32) (v_sort : Int32) (v_value : Int32) (v_isWrong : Int32) (v_itemMany : Int32) (v_farmMany : Int32) (v_farmCells : Int64) (v_now : Nat → Int32) (v_found : Nat → Int32) (x1 : Int32) {out : Int32 × (Nat → Int32) × (Nat → Int32)} (hf : f_M_build v_now v_found x1 = some out) : kMi l D y_M_build b_M_build 3 (some .int) { frames := 2, cells := 0, slots := 0, locals := 43 } [.ref h, .int x1] (wd_M_build D h h_now h_kept h_aside h_found h_down h_along h_parts h_gone h_tape h_kinds h_items h_widths h_sizes h_numbers h_moved v_isKept v_taped v_begins v_ends v_sort v_value v_isWrong v_itemMany v_farmMany v_farmCells v_now v_found) (wd_M_build D h h_now h_kept h_aside h_found h_down h_along h_parts h_gone h_tape h_kinds h_items h_widths h_sizes h_numbers h_moved v_isKept v_taped v_begins v_ends v_sort v_value v_isWrong v_itemMany v_farmMany v_farmCells out.2.1 out.2.2) out.1 :=
  kMi_of (own := "MountainFarmsModel") (plainFor_of_name (by decide)) rfl rfl (fun p e s m args below meth c ls X hV hl => t_M_build X hf hV hl)
set_option maxHeartbeats 2000000 in
set_option maxRecDepth 20000 in
theorem t_M_coinsOf_2 {l : Launch} {p : Program} {e : Env} {s : State} {m : MethodId} {args : Array Value} {below : List Frame} {meth : Method} {c : Code} {D : kD} {wc0 : va_W} {h : Nat} {h_now : Nat} {h_kept : Nat} {h_aside : Nat} {h_found : Nat} {h_down : Nat} {h_along : Nat} {h_parts : Nat} {h_gone : Nat} {h_tape : Nat} {h_kinds : Nat} {h_items : Nat} {h_widths : Nat} {h_sizes : Nat} {h_numbers : Nat} {h_moved : Nat} {v_isKept : Int32} {v_taped : Int32} {v_begins : Int32} {v_ends : Int32} {v_sort : Int32} {v_value : Int32} {v_isWrong : Int32} {v_itemMany : Int32} {v_farmMany : Int32} {v_farmCells : Int64} {v_now : Nat → Int32} {s0 : Int32} {x1 : Int32} {x3 : Int32} {rec1 : Int32 → Int32 → Option (Int32)} {out : Int32} (X : kX p m meth c s args D (va_A wc0 s.heap.size) b_M_coinsOf "MountainFarmsModel" 4 (some .int)) (hrec1 : ∀ (x2 : Int32) (x3 : Int32), rec1 x2 x3 = some out → ∀ (H : Heap) (locs : List Loc) (ls : Array Slot), kV D (va_A wc0 s.heap.size) s (wd_M_coinsOf D h h_now h_kept h_aside h_found h_down h_along h_parts h_gone h_tape h_kinds h_items h_widths h_sizes h_numbers h_moved v_isKept v_taped v_begins v_ends v_sort v_value v_isWrong v_itemMany v_farmMany v_farmCells v_now) H locs → lv_has ls 4 [(0, .ref h), (1, .int x1), (2, .int x2), (3, .int x3)] → W p l e { frames := 1, cells := 0, slots := 0, locals := 22 } s m args below meth c H locs 0 0 (MQ below (kQi D wc0 (wd_M_coinsOf D h h_now h_kept h_aside h_found h_down h_along h_parts h_gone h_tape h_kinds h_items h_widths h_sizes h_numbers h_moved v_isKept v_taped v_begins v_ends v_sort v_value v_isWrong v_itemMany v_farmMany v_farmCells v_now) s.heap.size out) args s 0 0 (va_A wc0 s.heap.size)) (F0 m 4 ls [])) (hf : f_M_coinsOf_2 rec1 s0 x1 x3 v_now = some out) {H : Heap} {locs : List Loc} (hV : kV D (va_A wc0 s.heap.size) s (wd_M_coinsOf D h h_now h_kept h_aside h_found h_down h_along h_parts h_gone h_tape h_kinds h_items h_widths h_sizes h_numbers h_moved v_isKept v_taped v_begins v_ends v_sort v_value v_isWrong v_itemMany v_farmMany v_farmCells v_now) H locs) {ls : Array Slot} (hl : lv_has ls 4 [(0, .ref h), (1, .int x1), (3, .int x3)]) : W p l e { frames := 1, cells := 0, slots := 0, locals := 22 } s m args below meth c H locs 0 0 (MQ below (kQi D wc0 (wd_M_coinsOf D h h_now h_kept h_aside h_found h_down h_along h_parts h_gone h_tape h_kinds h_items h_widths h_sizes h_numbers h_moved v_isKept v_taped v_begins v_ends v_sort v_value v_isWrong v_itemMany v_farmMany v_farmCells v_now) s.heap.size out) args s 0 0 (va_A wc0 s.heap.size)) (F0 m 30 ls [.int s0]) := by
  unfold f_M_coinsOf_2 at hf
  obtain ⟨hx, hb, -⟩ := id X
  refine lv_aload_n hx hb d_M_coinsOf_30 rfl (lv_at hl 0 rfl) ?_
  refine lv_iload_n hx hb d_M_coinsOf_31 rfl (lv_at hl 2 rfl) ?_
  refine lv_iconst (v := 3) hx hb d_M_coinsOf_32 ic_3 ?_
  obtain ⟨r_13, hc_14, hf⟩ := kb1_some hf
  refine k_cvi (w1 := (wd_M_farmIs D h h_now h_kept h_aside h_found h_down h_along h_parts h_gone h_tape h_kinds h_items h_widths h_sizes h_numbers h_moved v_isKept v_taped v_begins v_ends v_sort v_value v_isWrong v_itemMany v_farmMany v_farmCells v_now)) (r := r_13) (ws' := (wd_M_coinsOf D h h_now h_kept h_aside h_found h_down h_along h_parts h_gone h_tape h_kinds h_items h_widths h_sizes h_numbers h_moved v_isKept v_taped v_begins v_ends v_sort v_value v_isWrong v_itemMany v_farmMany v_farmCells v_now)) X hV hl.1 (c_M_farmIs D h h_now h_kept h_aside h_found h_down h_along h_parts h_gone h_tape h_kinds h_items h_widths h_sizes h_numbers h_moved v_isKept v_taped v_begins v_ends v_sort v_value v_isWrong v_itemMany v_farmMany v_farmCells v_now x3 (3 : Int32) hc_14) fk_M_farmIs gw_990 rfl 0 9 rfl rfl [0, 1] [some 0, some 1] rfl rfl ⟨rfl, rfl, rfl, rfl, rfl, rfl, trivial⟩ rfl rfl rfl d_M_coinsOf_33 (fun H locs hV => ?_)
  refine lv_goto (tgt := 40) hx hb d_M_coinsOf_36 (by decide) ?_
  refine lv_iadd hx hb d_M_coinsOf_40 ?_
  refine lv_istore_n (lv' := [(2, .int (s0 + r_13)), (0, .ref h), (1, .int x1), (3, .int x3)]) hx hb d_M_coinsOf_41 rfl hl (by decide) rfl (fun ls hl => ?_)
  refine lv_iinc (v := (x3 + 1)) (lv' := [(3, .int (x3 + 1)), (2, .int (s0 + r_13)), (0, .ref h), (1, .int x1)]) hx hb d_M_coinsOf_42 hl (k := 3) rfl rfl (by decide) rfl (fun ls hl => ?_)
  refine lv_goto (tgt := 4) hx hb d_M_coinsOf_45 (by decide) ?_
  exact hrec1 _ _ hf _ _ _ hV (lv_sub hl [2, 3, 1, 0] rfl)
set_option maxHeartbeats 2000000 in
set_option maxRecDepth 20000 in
theorem tb_M_coinsOf_1 {l : Launch} {p : Program} {e : Env} {s : State} {m : MethodId} {args : Array Value} {below : List Frame} {meth : Method} {c : Code} {D : kD} {wc0 : va_W} {h : Nat} {h_now : Nat} {h_kept : Nat} {h_aside : Nat} {h_found : Nat} {h_down : Nat} {h_along : Nat} {h_parts : Nat} {h_gone : Nat} {h_tape : Nat} {h_kinds : Nat} {h_items : Nat} {h_widths : Nat} {h_sizes : Nat} {h_numbers : Nat} {h_moved : Nat} {v_isKept : Int32} {v_taped : Int32} {v_begins : Int32} {v_ends : Int32} {v_sort : Int32} {v_value : Int32} {v_isWrong : Int32} {v_itemMany : Int32} {v_farmMany : Int32} {v_farmCells : Int64} {v_now : Nat → Int32} {x1 : Int32} {x2 : Int32} {x3 : Int32} {rec1 : Int32 → Int32 → Option (Int32)} {out : Int32} (X : kX p m meth c s args D (va_A wc0 s.heap.size) b_M_coinsOf "MountainFarmsModel" 4 (some .int)) (hrec1 : ∀ (x2 : Int32) (x3 : Int32), rec1 x2 x3 = some out → ∀ (H : Heap) (locs : List Loc) (ls : Array Slot), kV D (va_A wc0 s.heap.size) s (wd_M_coinsOf D h h_now h_kept h_aside h_found h_down h_along h_parts h_gone h_tape h_kinds h_items h_widths h_sizes h_numbers h_moved v_isKept v_taped v_begins v_ends v_sort v_value v_isWrong v_itemMany v_farmMany v_farmCells v_now) H locs → lv_has ls 4 [(0, .ref h), (1, .int x1), (2, .int x2), (3, .int x3)] → W p l e { frames := 1, cells := 0, slots := 0, locals := 22 } s m args below meth c H locs 0 0 (MQ below (kQi D wc0 (wd_M_coinsOf D h h_now h_kept h_aside h_found h_down h_along h_parts h_gone h_tape h_kinds h_items h_widths h_sizes h_numbers h_moved v_isKept v_taped v_begins v_ends v_sort v_value v_isWrong v_itemMany v_farmMany v_farmCells v_now) s.heap.size out) args s 0 0 (va_A wc0 s.heap.size)) (F0 m 4 ls [])) (hf : fb_M_coinsOf_1 rec1 x1 v_now x2 x3 = some out) {H : Heap} {locs : List Loc} (hV : kV D (va_A wc0 s.heap.size) s (wd_M_coinsOf D h h_now h_kept h_aside h_found h_down h_along h_parts h_gone h_tape h_kinds h_items h_widths h_sizes h_numbers h_moved v_isKept v_taped v_begins v_ends v_sort v_value v_isWrong v_itemMany v_farmMany v_farmCells v_now) H locs) {ls : Array Slot} (hl : lv_has ls 4 [(0, .ref h), (1, .int x1), (2, .int x2), (3, .int x3)]) : W p l e { frames := 1, cells := 0, slots := 0, locals := 22 } s m args below meth c H locs 0 0 (MQ below (kQi D wc0 (wd_M_coinsOf D h h_now h_kept h_aside h_found h_down h_along h_parts h_gone h_tape h_kinds h_items h_widths h_sizes h_numbers h_moved v_isKept v_taped v_begins v_ends v_sort v_value v_isWrong v_itemMany v_farmMany v_farmCells v_now) s.heap.size out) args s 0 0 (va_A wc0 s.heap.size)) (F0 m 4 ls []) := by
  unfold fb_M_coinsOf_1 at hf
  obtain ⟨hx, hb, -⟩ := id X
  refine lv_iload_n hx hb d_M_coinsOf_4 rfl (lv_at hl 3 rfl) ?_
  refine lv_aload_n hx hb d_M_coinsOf_5 rfl (lv_at hl 0 rfl) ?_
  refine k_get X hV 0 9 0 rfl rfl rfl gw_887 rfl rfl d_M_coinsOf_6 ?_
  refine lv_bipush (v := 10) hx hb d_M_coinsOf_9 bp_10 ?_
  refine k_iald X hV 1 rfl kin_10_218 kln_10 d_M_coinsOf_11 ?_
  refine lv_icmp_ge (tgt := 48) hx hb d_M_coinsOf_12 (by decide) (fun c_8 => ?_) (fun c_8 => ?_)
  · replace hf := kifp c_8 hf
    refine lv_iload_n hx hb d_M_coinsOf_48 rfl (lv_at hl 2 rfl) ?_
    have e_ := Option.some.inj hf
    subst e_
    exact k_iret X rfl hV rfl d_M_coinsOf_49
  replace hf := kifn c_8 hf
  refine lv_iload_n hx hb d_M_coinsOf_15 rfl (lv_at hl 2 rfl) ?_
  refine lv_iload_n hx hb d_M_coinsOf_16 rfl (lv_at hl 1 rfl) ?_
  refine lv_if_lt (tgt := 30) hx hb d_M_coinsOf_17 (by decide) (fun c_9 => ?_) (fun c_9 => ?_)
  · replace hf := kifp c_9 hf
    exact t_M_coinsOf_2 X hrec1 hf hV (lv_sub hl [0, 1, 3] rfl)
  replace hf := kifn c_9 hf
  refine lv_aload_n hx hb d_M_coinsOf_20 rfl (lv_at hl 0 rfl) ?_
  refine lv_iload_n hx hb d_M_coinsOf_21 rfl (lv_at hl 3 rfl) ?_
  refine lv_iconst (v := 2) hx hb d_M_coinsOf_22 ic_2 ?_
  obtain ⟨r_10, hc_11, hf⟩ := kb1_some hf
  refine k_cvi (w1 := (wd_M_farmIs D h h_now h_kept h_aside h_found h_down h_along h_parts h_gone h_tape h_kinds h_items h_widths h_sizes h_numbers h_moved v_isKept v_taped v_begins v_ends v_sort v_value v_isWrong v_itemMany v_farmMany v_farmCells v_now)) (r := r_10) (ws' := (wd_M_coinsOf D h h_now h_kept h_aside h_found h_down h_along h_parts h_gone h_tape h_kinds h_items h_widths h_sizes h_numbers h_moved v_isKept v_taped v_begins v_ends v_sort v_value v_isWrong v_itemMany v_farmMany v_farmCells v_now)) X hV hl.1 (c_M_farmIs D h h_now h_kept h_aside h_found h_down h_along h_parts h_gone h_tape h_kinds h_items h_widths h_sizes h_numbers h_moved v_isKept v_taped v_begins v_ends v_sort v_value v_isWrong v_itemMany v_farmMany v_farmCells v_now x3 (2 : Int32) hc_11) fk_M_farmIs gw_990 rfl 0 9 rfl rfl [0, 1] [some 0, some 1] rfl rfl ⟨rfl, rfl, rfl, rfl, rfl, rfl, trivial⟩ rfl rfl rfl d_M_coinsOf_23 (fun H locs hV => ?_)
  refine lv_iload_n hx hb d_M_coinsOf_26 rfl (lv_at hl 1 rfl) ?_
  refine lv_icmp_ne (tgt := 39) hx hb d_M_coinsOf_27 (by decide) (fun c_12 => ?_) (fun c_12 => ?_)
  · replace hf := kifn c_12 hf
    refine lv_iconst (v := 0) hx hb d_M_coinsOf_39 ic_0 ?_
    refine lv_iadd hx hb d_M_coinsOf_40 ?_
    refine lv_istore_n (lv' := [(2, .int (x2 + (0 : Int32))), (0, .ref h), (1, .int x1), (3, .int x3)]) hx hb d_M_coinsOf_41 rfl hl (by decide) rfl (fun ls hl => ?_)
    refine lv_iinc (v := (x3 + 1)) (lv' := [(3, .int (x3 + 1)), (2, .int (x2 + (0 : Int32))), (0, .ref h), (1, .int x1)]) hx hb d_M_coinsOf_42 hl (k := 3) rfl rfl (by decide) rfl (fun ls hl => ?_)
    refine lv_goto (tgt := 4) hx hb d_M_coinsOf_45 (by decide) ?_
    exact hrec1 _ _ hf _ _ _ hV (lv_sub hl [2, 3, 1, 0] rfl)
  replace hf := kifp c_12 hf
  exact t_M_coinsOf_2 X hrec1 hf hV (lv_sub hl [0, 1, 3] rfl)
set_option maxHeartbeats 2000000 in
set_option maxRecDepth 20000 in
theorem tl_M_coinsOf_1 {l : Launch} {p : Program} {e : Env} {s : State} {m : MethodId} {args : Array Value} {below : List Frame} {meth : Method} {c : Code} {D : kD} {wc0 : va_W} {h : Nat} {h_now : Nat} {h_kept : Nat} {h_aside : Nat} {h_found : Nat} {h_down : Nat} {h_along : Nat} {h_parts : Nat} {h_gone : Nat} {h_tape : Nat} {h_kinds : Nat} {h_items : Nat} {h_widths : Nat} {h_sizes : Nat} {h_numbers : Nat} {h_moved : Nat} {v_isKept : Int32} {v_taped : Int32} {v_begins : Int32} {v_ends : Int32} {v_sort : Int32} {v_value : Int32} {v_isWrong : Int32} {v_itemMany : Int32} {v_farmMany : Int32} {v_farmCells : Int64} {v_now : Nat → Int32} {x1 : Int32} {out : Int32} (X : kX p m meth c s args D (va_A wc0 s.heap.size) b_M_coinsOf "MountainFarmsModel" 4 (some .int)) : ∀ (n : Nat) (x2 : Int32) (x3 : Int32), fl_M_coinsOf_1 x1 v_now n x2 x3 = some out → ∀ (H : Heap) (locs : List Loc) (ls : Array Slot), kV D (va_A wc0 s.heap.size) s (wd_M_coinsOf D h h_now h_kept h_aside h_found h_down h_along h_parts h_gone h_tape h_kinds h_items h_widths h_sizes h_numbers h_moved v_isKept v_taped v_begins v_ends v_sort v_value v_isWrong v_itemMany v_farmMany v_farmCells v_now) H locs → lv_has ls 4 [(0, .ref h), (1, .int x1), (2, .int x2), (3, .int x3)] → W p l e { frames := 1, cells := 0, slots := 0, locals := 22 } s m args below meth c H locs 0 0 (MQ below (kQi D wc0 (wd_M_coinsOf D h h_now h_kept h_aside h_found h_down h_along h_parts h_gone h_tape h_kinds h_items h_widths h_sizes h_numbers h_moved v_isKept v_taped v_begins v_ends v_sort v_value v_isWrong v_itemMany v_farmMany v_farmCells v_now) s.heap.size out) args s 0 0 (va_A wc0 s.heap.size)) (F0 m 4 ls []) := by
  intro n
  induction n with
  | zero => intro x2 x3 hf; exact knone hf
  | succ n ih => intro x2 x3 hf H locs ls hV hl; exact tb_M_coinsOf_1 X ih hf hV hl
set_option maxHeartbeats 2000000 in
set_option maxRecDepth 20000 in
theorem t_M_coinsOf {l : Launch} {p : Program} {e : Env} {s : State} {m : MethodId} {args : Array Value} {below : List Frame} {meth : Method} {c : Code} {D : kD} {wc0 : va_W} {h : Nat} {h_now : Nat} {h_kept : Nat} {h_aside : Nat} {h_found : Nat} {h_down : Nat} {h_along : Nat} {h_parts : Nat} {h_gone : Nat} {h_tape : Nat} {h_kinds : Nat} {h_items : Nat} {h_widths : Nat} {h_sizes : Nat} {h_numbers : Nat} {h_moved : Nat} {v_isKept : Int32} {v_taped : Int32} {v_begins : Int32} {v_ends : Int32} {v_sort : Int32} {v_value : Int32} {v_isWrong : Int32} {v_itemMany : Int32} {v_farmMany : Int32} {v_farmCells : Int64} {v_now : Nat → Int32} {x1 : Int32} {out : Int32} (X : kX p m meth c s args D (va_A wc0 s.heap.size) b_M_coinsOf "MountainFarmsModel" 4 (some .int)) (hf : f_M_coinsOf v_now x1 = some out) {H : Heap} {locs : List Loc} (hV : kV D (va_A wc0 s.heap.size) s (wd_M_coinsOf D h h_now h_kept h_aside h_found h_down h_along h_parts h_gone h_tape h_kinds h_items h_widths h_sizes h_numbers h_moved v_isKept v_taped v_begins v_ends v_sort v_value v_isWrong v_itemMany v_farmMany v_farmCells v_now) H locs) {ls : Array Slot} (hl : lv_has ls 4 [(0, .ref h), (1, .int x1)]) : W p l e { frames := 1, cells := 0, slots := 0, locals := 22 } s m args below meth c H locs 0 0 (MQ below (kQi D wc0 (wd_M_coinsOf D h h_now h_kept h_aside h_found h_down h_along h_parts h_gone h_tape h_kinds h_items h_widths h_sizes h_numbers h_moved v_isKept v_taped v_begins v_ends v_sort v_value v_isWrong v_itemMany v_farmMany v_farmCells v_now) s.heap.size out) args s 0 0 (va_A wc0 s.heap.size)) (F0 m 0 ls []) := by
  unfold f_M_coinsOf at hf
  obtain ⟨hx, hb, -⟩ := id X
  refine lv_iconst (v := 0) hx hb d_M_coinsOf_0 ic_0 ?_
  refine lv_istore_n (lv' := [(2, .int (0 : Int32)), (0, .ref h), (1, .int x1)]) hx hb d_M_coinsOf_1 rfl hl (by decide) rfl (fun ls hl => ?_)
  refine lv_iconst (v := 0) hx hb d_M_coinsOf_2 ic_0 ?_
  refine lv_istore_n (lv' := [(3, .int (0 : Int32)), (2, .int (0 : Int32)), (0, .ref h), (1, .int x1)]) hx hb d_M_coinsOf_3 rfl hl (by decide) rfl (fun ls hl => ?_)
  exact tl_M_coinsOf_1 X _ _ _ hf _ _ _ hV (lv_sub hl [2, 3, 1, 0] rfl)
set_option maxHeartbeats 2000000 in
set_option maxRecDepth 20000 in
theorem c_M_coinsOf {l : Launch} (D : kD) (h : Nat) (h_now : Nat) (h_kept : Nat) (h_aside : Nat) (h_found : Nat) (h_down : Nat) (h_along : Nat) (h_parts : Nat) (h_gone : Nat) (h_tape : Nat) (h_kinds : Nat) (h_items : Nat) (h_widths : Nat) (h_sizes : Nat) (h_numbers : Nat) (h_moved : Nat) (v_isKept : Int32) (v_taped : Int32) (v_begins : Int32) (v_ends : Int32) (v_sort : Int32) (v_value : Int32) (v_isWrong : Int32) (v_itemMany : Int32) (v_farmMany : Int32) (v_farmCells : Int64) (v_now : Nat → Int32) (x1 : Int32) {out : Int32} (hf : f_M_coinsOf v_now x1 = some out) : kMi l D y_M_coinsOf b_M_coinsOf 4 (some .int) { frames := 1, cells := 0, slots := 0, locals := 22 } [.ref h, .int x1] (wd_M_coinsOf D h h_now h_kept h_aside h_found h_down h_along h_parts h_gone h_tape h_kinds h_items h_widths h_sizes h_numbers h_moved v_isKept v_taped v_begins v_ends v_sort v_value v_isWrong v_itemMany v_farmMany v_farmCells v_now) (wd_M_coinsOf D h h_now h_kept h_aside h_found h_down h_along h_parts h_gone h_tape h_kinds h_items h_widths h_sizes h_numbers h_moved v_isKept v_taped v_begins v_ends v_sort v_value v_isWrong v_itemMany v_farmMany v_farmCells v_now) out :=
  kMi_of (own := "MountainFarmsModel") (plainFor_of_name (by decide)) rfl rfl (fun p e s m args below meth c ls X hV hl => t_M_coinsOf X hf hV hl)
set_option maxHeartbeats 2000000 in
set_option maxRecDepth 20000 in
theorem t_M_coins {l : Launch} {p : Program} {e : Env} {s : State} {m : MethodId} {args : Array Value} {below : List Frame} {meth : Method} {c : Code} {D : kD} {wc0 : va_W} {h : Nat} {h_now : Nat} {h_kept : Nat} {h_aside : Nat} {h_found : Nat} {h_down : Nat} {h_along : Nat} {h_parts : Nat} {h_gone : Nat} {h_tape : Nat} {h_kinds : Nat} {h_items : Nat} {h_widths : Nat} {h_sizes : Nat} {h_numbers : Nat} {h_moved : Nat} {v_isKept : Int32} {v_taped : Int32} {v_begins : Int32} {v_ends : Int32} {v_sort : Int32} {v_value : Int32} {v_isWrong : Int32} {v_itemMany : Int32} {v_farmMany : Int32} {v_farmCells : Int64} {v_now : Nat → Int32} {v_found : Nat → Int32} {x1 : Int32} {out : Int32 × (Nat → Int32)} (X : kX p m meth c s args D (va_A wc0 s.heap.size) b_M_coins "MountainFarmsModel" 2 (some .int)) (hf : f_M_coins v_now v_found x1 = some out) {H : Heap} {locs : List Loc} (hV : kV D (va_A wc0 s.heap.size) s (wd_M_coins D h h_now h_kept h_aside h_found h_down h_along h_parts h_gone h_tape h_kinds h_items h_widths h_sizes h_numbers h_moved v_isKept v_taped v_begins v_ends v_sort v_value v_isWrong v_itemMany v_farmMany v_farmCells v_now v_found) H locs) {ls : Array Slot} (hl : lv_has ls 2 [(0, .ref h), (1, .int x1)]) : W p l e { frames := 2, cells := 0, slots := 0, locals := 45 } s m args below meth c H locs 0 0 (MQ below (kQi D wc0 (wd_M_coins D h h_now h_kept h_aside h_found h_down h_along h_parts h_gone h_tape h_kinds h_items h_widths h_sizes h_numbers h_moved v_isKept v_taped v_begins v_ends v_sort v_value v_isWrong v_itemMany v_farmMany v_farmCells v_now out.2) s.heap.size out.1) args s 0 0 (va_A wc0 s.heap.size)) (F0 m 0 ls []) := by
  unfold f_M_coins at hf
  obtain ⟨hx, hb, -⟩ := id X
  refine lv_iload_n hx hb d_M_coins_0 rfl (lv_at hl 1 rfl) ?_
  refine lv_iconst (v := 0) hx hb d_M_coins_1 ic_0 ?_
  refine lv_iconst (v := 5) hx hb d_M_coins_2 ic_5 ?_
  obtain ⟨r_9, hc_10, hf⟩ := kb1_some hf
  refine k_csi (w1 := (wd_M_within D)) (r := r_9) (ws' := (wd_M_coins D h h_now h_kept h_aside h_found h_down h_along h_parts h_gone h_tape h_kinds h_items h_widths h_sizes h_numbers h_moved v_isKept v_taped v_begins v_ends v_sort v_value v_isWrong v_itemMany v_farmMany v_farmCells v_now v_found)) X hV hl.1 (c_M_within D x1 (0 : Int32) (5 : Int32) hc_10) fk_M_within gw_970 rfl [] [none, none, none] rfl rfl ⟨rfl, rfl, rfl, trivial⟩ rfl rfl rfl d_M_coins_3 (fun H locs hV => ?_)
  refine lv_if_eq (tgt := 17) hx hb d_M_coins_6 (by decide) (fun c_11 => ?_) (fun c_11 => ?_)
  · replace hf := kifp c_11 hf
    refine lv_aload_n hx hb d_M_coins_17 rfl (lv_at hl 0 rfl) ?_
    refine k_ldc (v := (-1000000001)) X gw_973 d_M_coins_18 ?_
    obtain ⟨r_12, v_found_13, hc_14, hf⟩ := kb2_some hf
    refine k_cvi (w1 := (wd_M_finding D h h_now h_kept h_aside h_found h_down h_along h_parts h_gone h_tape h_kinds h_items h_widths h_sizes h_numbers h_moved v_isKept v_taped v_begins v_ends v_sort v_value v_isWrong v_itemMany v_farmMany v_farmCells v_found_13)) (r := r_12) (ws' := (wd_M_coins D h h_now h_kept h_aside h_found h_down h_along h_parts h_gone h_tape h_kinds h_items h_widths h_sizes h_numbers h_moved v_isKept v_taped v_begins v_ends v_sort v_value v_isWrong v_itemMany v_farmMany v_farmCells v_now v_found_13)) X hV hl.1 (c_M_finding D h h_now h_kept h_aside h_found h_down h_along h_parts h_gone h_tape h_kinds h_items h_widths h_sizes h_numbers h_moved v_isKept v_taped v_begins v_ends v_sort v_value v_isWrong v_itemMany v_farmMany v_farmCells v_found (-1000000001 : Int32) hc_14) fk_M_finding gw_974 rfl 0 9 rfl rfl [0, 2] [some 0, none, some 1] rfl rfl ⟨rfl, rfl, rfl, rfl, rfl, rfl, rfl, trivial⟩ rfl rfl rfl d_M_coins_20 (fun H locs hV => ?_)
    have e_ := Option.some.inj hf
    subst e_
    exact k_iret X rfl hV rfl d_M_coins_23
  replace hf := kifn c_11 hf
  refine lv_aload_n hx hb d_M_coins_9 rfl (lv_at hl 0 rfl) ?_
  refine lv_iload_n hx hb d_M_coins_10 rfl (lv_at hl 1 rfl) ?_
  obtain ⟨r_15, hc_16, hf⟩ := kb1_some hf
  refine k_cvi (w1 := (wd_M_coinsOf D h h_now h_kept h_aside h_found h_down h_along h_parts h_gone h_tape h_kinds h_items h_widths h_sizes h_numbers h_moved v_isKept v_taped v_begins v_ends v_sort v_value v_isWrong v_itemMany v_farmMany v_farmCells v_now)) (r := r_15) (ws' := (wd_M_coins D h h_now h_kept h_aside h_found h_down h_along h_parts h_gone h_tape h_kinds h_items h_widths h_sizes h_numbers h_moved v_isKept v_taped v_begins v_ends v_sort v_value v_isWrong v_itemMany v_farmMany v_farmCells v_now v_found)) X hV hl.1 (c_M_coinsOf D h h_now h_kept h_aside h_found h_down h_along h_parts h_gone h_tape h_kinds h_items h_widths h_sizes h_numbers h_moved v_isKept v_taped v_begins v_ends v_sort v_value v_isWrong v_itemMany v_farmMany v_farmCells v_now x1 hc_16) fk_M_coinsOf gw_1067 rfl 0 9 rfl rfl [0, 1] [some 0, some 1, none] rfl rfl ⟨rfl, rfl, rfl, rfl, rfl, rfl, rfl, trivial⟩ rfl rfl rfl d_M_coins_11 (fun H locs hV => ?_)
  refine lv_goto (tgt := 23) hx hb d_M_coins_14 (by decide) ?_
  have e_ := Option.some.inj hf
  subst e_
  exact k_iret X rfl hV rfl d_M_coins_23
set_option maxHeartbeats 2000000 in
set_option maxRecDepth 20000 in
theorem c_M_coins {l : Launch} (D : kD) (h : Nat) (h_now : Nat) (h_kept : Nat) (h_aside : Nat) (h_found : Nat) (h_down : Nat) (h_along : Nat) (h_parts : Nat) (h_gone : Nat) (h_tape : Nat) (h_kinds : Nat) (h_items : Nat) (h_widths : Nat) (h_sizes : Nat) (h_numbers : Nat) (h_moved : Nat) (v_isKept : Int32) (v_taped : Int32) (v_begins : Int32) (v_ends : Int32) (v_sort : Int32) (v_value : Int32) (v_isWrong : Int32) (v_itemMany : Int32) (v_farmMany : Int32) (v_farmCells : Int64) (v_now : Nat → Int32) (v_found : Nat → Int32) (x1 : Int32) {out : Int32 × (Nat → Int32)} (hf : f_M_coins v_now v_found x1 = some out) : kMi l D y_M_coins b_M_coins 2 (some .int) { frames := 2, cells := 0, slots := 0, locals := 45 } [.ref h, .int x1] (wd_M_coins D h h_now h_kept h_aside h_found h_down h_along h_parts h_gone h_tape h_kinds h_items h_widths h_sizes h_numbers h_moved v_isKept v_taped v_begins v_ends v_sort v_value v_isWrong v_itemMany v_farmMany v_farmCells v_now v_found) (wd_M_coins D h h_now h_kept h_aside h_found h_down h_along h_parts h_gone h_tape h_kinds h_items h_widths h_sizes h_numbers h_moved v_isKept v_taped v_begins v_ends v_sort v_value v_isWrong v_itemMany v_farmMany v_farmCells v_now out.2) out.1 :=
  kMi_of (own := "MountainFarmsModel") (plainFor_of_name (by decide)) rfl rfl (fun p e s m args below meth c ls X hV hl => t_M_coins X hf hV hl)
set_option maxHeartbeats 2000000 in
set_option maxRecDepth 20000 in
theorem tb_M_best_1 {l : Launch} {p : Program} {e : Env} {s : State} {m : MethodId} {args : Array Value} {below : List Frame} {meth : Method} {c : Code} {D : kD} {wc0 : va_W} {h : Nat} {h_now : Nat} {h_kept : Nat} {h_aside : Nat} {h_found : Nat} {h_down : Nat} {h_along : Nat} {h_parts : Nat} {h_gone : Nat} {h_tape : Nat} {h_kinds : Nat} {h_items : Nat} {h_widths : Nat} {h_sizes : Nat} {h_numbers : Nat} {h_moved : Nat} {v_isKept : Int32} {v_taped : Int32} {v_begins : Int32} {v_ends : Int32} {v_sort : Int32} {v_value : Int32} {v_isWrong : Int32} {v_itemMany : Int32} {v_farmMany : Int32} {v_farmCells : Int64} {v_now : Nat → Int32} {v_found : Nat → Int32} {x2 : Int32} {x3 : Int32} {x4 : Int32} {rec1 : Int32 → Int32 → Option (Int32 × (Nat → Int32))} {out : Int32 × (Nat → Int32)} (X : kX p m meth c s args D (va_A wc0 s.heap.size) b_M_best "MountainFarmsModel" 5 (some .int)) (hrec1 : ∀ (x3 : Int32) (x4 : Int32), rec1 x3 x4 = some out → ∀ (H : Heap) (locs : List Loc) (ls : Array Slot), kV D (va_A wc0 s.heap.size) s (wd_M_best D h h_now h_kept h_aside h_found h_down h_along h_parts h_gone h_tape h_kinds h_items h_widths h_sizes h_numbers h_moved v_isKept v_taped v_begins v_ends v_sort v_value v_isWrong v_itemMany v_farmMany v_farmCells v_now v_found) H locs → lv_has ls 5 [(0, .ref h), (2, .int x2), (3, .int x3), (4, .int x4)] → W p l e { frames := 2, cells := 0, slots := 0, locals := 46 } s m args below meth c H locs 0 0 (MQ below (kQi D wc0 (wd_M_best D h h_now h_kept h_aside h_found h_down h_along h_parts h_gone h_tape h_kinds h_items h_widths h_sizes h_numbers h_moved v_isKept v_taped v_begins v_ends v_sort v_value v_isWrong v_itemMany v_farmMany v_farmCells v_now out.2) s.heap.size out.1) args s 0 0 (va_A wc0 s.heap.size)) (F0 m 35 ls [])) (hf : fb_M_best_1 rec1 x2 v_now v_found x3 x4 = some out) {H : Heap} {locs : List Loc} (hV : kV D (va_A wc0 s.heap.size) s (wd_M_best D h h_now h_kept h_aside h_found h_down h_along h_parts h_gone h_tape h_kinds h_items h_widths h_sizes h_numbers h_moved v_isKept v_taped v_begins v_ends v_sort v_value v_isWrong v_itemMany v_farmMany v_farmCells v_now v_found) H locs) {ls : Array Slot} (hl : lv_has ls 5 [(0, .ref h), (2, .int x2), (3, .int x3), (4, .int x4)]) : W p l e { frames := 2, cells := 0, slots := 0, locals := 46 } s m args below meth c H locs 0 0 (MQ below (kQi D wc0 (wd_M_best D h h_now h_kept h_aside h_found h_down h_along h_parts h_gone h_tape h_kinds h_items h_widths h_sizes h_numbers h_moved v_isKept v_taped v_begins v_ends v_sort v_value v_isWrong v_itemMany v_farmMany v_farmCells v_now out.2) s.heap.size out.1) args s 0 0 (va_A wc0 s.heap.size)) (F0 m 35 ls []) := by
  unfold fb_M_best_1 at hf
  obtain ⟨hx, hb, -⟩ := id X
  refine lv_iload hx hb d_M_best_35 (lv_at hl 3 rfl) ?_
  refine lv_iconst (v := 5) hx hb d_M_best_37 ic_5 ?_
  refine lv_icmp_gt (tgt := 80) hx hb d_M_best_38 (by decide) (fun c_27 => ?_) (fun c_27 => ?_)
  · replace hf := kifp c_27 hf
    refine lv_iload_n hx hb d_M_best_80 rfl (lv_at hl 2 rfl) ?_
    have e_ := Option.some.inj hf
    subst e_
    exact k_iret X rfl hV rfl d_M_best_81
  replace hf := kifn c_27 hf
  refine lv_iload hx hb d_M_best_41 (lv_at hl 3 rfl) ?_
  refine lv_iload_n hx hb d_M_best_43 rfl (lv_at hl 1 rfl) ?_
  refine lv_aload_n hx hb d_M_best_44 rfl (lv_at hl 0 rfl) ?_
  refine k_get X hV 0 9 0 rfl rfl rfl gw_887 rfl rfl d_M_best_45 ?_
  refine lv_iconst (v := 4) hx hb d_M_best_48 ic_4 ?_
  refine k_iald X hV 1 rfl kin_4_218 kln_4 d_M_best_49 ?_
  obtain ⟨r_28, hc_29, hf⟩ := kb1_some hf
  refine k_csi (w1 := (wd_M_bearsAt D)) (r := r_28) (ws' := (wd_M_best D h h_now h_kept h_aside h_found h_down h_along h_parts h_gone h_tape h_kinds h_items h_widths h_sizes h_numbers h_moved v_isKept v_taped v_begins v_ends v_sort v_value v_isWrong v_itemMany v_farmMany v_farmCells v_now v_found)) X hV hl.1 (c_M_bearsAt D x4 x2 (v_now 4) hc_29) fk_M_bearsAt gw_1043 rfl [] [none, none, none] rfl rfl ⟨rfl, rfl, rfl, trivial⟩ rfl rfl rfl d_M_best_50 (fun H locs hV => ?_)
  refine lv_iload_n hx hb d_M_best_53 rfl (lv_at hl 2 rfl) ?_
  refine lv_iload_n hx hb d_M_best_54 rfl (lv_at hl 1 rfl) ?_
  refine lv_aload_n hx hb d_M_best_55 rfl (lv_at hl 0 rfl) ?_
  refine k_get X hV 0 9 0 rfl rfl rfl gw_887 rfl rfl d_M_best_56 ?_
  refine lv_iconst (v := 4) hx hb d_M_best_59 ic_4 ?_
  refine k_iald X hV 1 rfl kin_4_218 kln_4 d_M_best_60 ?_
  obtain ⟨r_30, hc_31, hf⟩ := kb1_some hf
  refine k_csi (w1 := (wd_M_bearsAt D)) (r := r_30) (ws' := (wd_M_best D h h_now h_kept h_aside h_found h_down h_along h_parts h_gone h_tape h_kinds h_items h_widths h_sizes h_numbers h_moved v_isKept v_taped v_begins v_ends v_sort v_value v_isWrong v_itemMany v_farmMany v_farmCells v_now v_found)) X hV hl.1 (c_M_bearsAt D x3 x2 (v_now 4) hc_31) fk_M_bearsAt gw_1043 rfl [] [none, none, none] rfl rfl ⟨rfl, rfl, rfl, trivial⟩ rfl rfl rfl d_M_best_61 (fun H locs hV => ?_)
  refine lv_icmp_le (tgt := 72) hx hb d_M_best_64 (by decide) (fun c_32 => ?_) (fun c_32 => ?_)
  · replace hf := kifp c_32 hf
    refine lv_iload_n hx hb d_M_best_72 rfl (lv_at hl 2 rfl) ?_
    refine lv_istore_n (lv' := [(3, .int x3), (0, .ref h), (2, .int x2), (4, .int x4)]) hx hb d_M_best_73 rfl hl (by decide) rfl (fun ls hl => ?_)
    refine lv_iinc (v := (x4 + 1)) (lv' := [(4, .int (x4 + 1)), (3, .int x3), (0, .ref h), (2, .int x2)]) hx hb d_M_best_74 hl (k := 3) rfl rfl (by decide) rfl (fun ls hl => ?_)
    refine lv_goto (tgt := 35) hx hb d_M_best_77 (by decide) ?_
    exact hrec1 _ _ hf _ _ _ hV (lv_sub hl [2, 3, 1, 0] rfl)
  replace hf := kifn c_32 hf
  refine lv_iload hx hb d_M_best_67 (lv_at hl 3 rfl) ?_
  refine lv_goto (tgt := 73) hx hb d_M_best_69 (by decide) ?_
  refine lv_istore_n (lv' := [(3, .int x4), (0, .ref h), (2, .int x2), (4, .int x4)]) hx hb d_M_best_73 rfl hl (by decide) rfl (fun ls hl => ?_)
  refine lv_iinc (v := (x4 + 1)) (lv' := [(4, .int (x4 + 1)), (3, .int x4), (0, .ref h), (2, .int x2)]) hx hb d_M_best_74 hl (k := 3) rfl rfl (by decide) rfl (fun ls hl => ?_)
  refine lv_goto (tgt := 35) hx hb d_M_best_77 (by decide) ?_
  exact hrec1 _ _ hf _ _ _ hV (lv_sub hl [2, 3, 1, 0] rfl)
set_option maxHeartbeats 2000000 in
set_option maxRecDepth 20000 in
theorem tl_M_best_1 {l : Launch} {p : Program} {e : Env} {s : State} {m : MethodId} {args : Array Value} {below : List Frame} {meth : Method} {c : Code} {D : kD} {wc0 : va_W} {h : Nat} {h_now : Nat} {h_kept : Nat} {h_aside : Nat} {h_found : Nat} {h_down : Nat} {h_along : Nat} {h_parts : Nat} {h_gone : Nat} {h_tape : Nat} {h_kinds : Nat} {h_items : Nat} {h_widths : Nat} {h_sizes : Nat} {h_numbers : Nat} {h_moved : Nat} {v_isKept : Int32} {v_taped : Int32} {v_begins : Int32} {v_ends : Int32} {v_sort : Int32} {v_value : Int32} {v_isWrong : Int32} {v_itemMany : Int32} {v_farmMany : Int32} {v_farmCells : Int64} {v_now : Nat → Int32} {v_found : Nat → Int32} {x2 : Int32} {out : Int32 × (Nat → Int32)} (X : kX p m meth c s args D (va_A wc0 s.heap.size) b_M_best "MountainFarmsModel" 5 (some .int)) : ∀ (n : Nat) (x3 : Int32) (x4 : Int32), fl_M_best_1 x2 v_now v_found n x3 x4 = some out → ∀ (H : Heap) (locs : List Loc) (ls : Array Slot), kV D (va_A wc0 s.heap.size) s (wd_M_best D h h_now h_kept h_aside h_found h_down h_along h_parts h_gone h_tape h_kinds h_items h_widths h_sizes h_numbers h_moved v_isKept v_taped v_begins v_ends v_sort v_value v_isWrong v_itemMany v_farmMany v_farmCells v_now v_found) H locs → lv_has ls 5 [(0, .ref h), (2, .int x2), (3, .int x3), (4, .int x4)] → W p l e { frames := 2, cells := 0, slots := 0, locals := 46 } s m args below meth c H locs 0 0 (MQ below (kQi D wc0 (wd_M_best D h h_now h_kept h_aside h_found h_down h_along h_parts h_gone h_tape h_kinds h_items h_widths h_sizes h_numbers h_moved v_isKept v_taped v_begins v_ends v_sort v_value v_isWrong v_itemMany v_farmMany v_farmCells v_now out.2) s.heap.size out.1) args s 0 0 (va_A wc0 s.heap.size)) (F0 m 35 ls []) := by
  intro n
  induction n with
  | zero => intro x3 x4 hf; exact knone hf
  | succ n ih => intro x3 x4 hf H locs ls hV hl; exact tb_M_best_1 X ih hf hV hl
set_option maxHeartbeats 2000000 in
set_option maxRecDepth 20000 in
theorem t_M_best {l : Launch} {p : Program} {e : Env} {s : State} {m : MethodId} {args : Array Value} {below : List Frame} {meth : Method} {c : Code} {D : kD} {wc0 : va_W} {h : Nat} {h_now : Nat} {h_kept : Nat} {h_aside : Nat} {h_found : Nat} {h_down : Nat} {h_along : Nat} {h_parts : Nat} {h_gone : Nat} {h_tape : Nat} {h_kinds : Nat} {h_items : Nat} {h_widths : Nat} {h_sizes : Nat} {h_numbers : Nat} {h_moved : Nat} {v_isKept : Int32} {v_taped : Int32} {v_begins : Int32} {v_ends : Int32} {v_sort : Int32} {v_value : Int32} {v_isWrong : Int32} {v_itemMany : Int32} {v_farmMany : Int32} {v_farmCells : Int64} {v_now : Nat → Int32} {v_found : Nat → Int32} {x1 : Int32} {out : Int32 × (Nat → Int32)} (X : kX p m meth c s args D (va_A wc0 s.heap.size) b_M_best "MountainFarmsModel" 5 (some .int)) (hf : f_M_best v_now v_found x1 = some out) {H : Heap} {locs : List Loc} (hV : kV D (va_A wc0 s.heap.size) s (wd_M_best D h h_now h_kept h_aside h_found h_down h_along h_parts h_gone h_tape h_kinds h_items h_widths h_sizes h_numbers h_moved v_isKept v_taped v_begins v_ends v_sort v_value v_isWrong v_itemMany v_farmMany v_farmCells v_now v_found) H locs) {ls : Array Slot} (hl : lv_has ls 5 [(0, .ref h), (1, .int x1)]) : W p l e { frames := 2, cells := 0, slots := 0, locals := 46 } s m args below meth c H locs 0 0 (MQ below (kQi D wc0 (wd_M_best D h h_now h_kept h_aside h_found h_down h_along h_parts h_gone h_tape h_kinds h_items h_widths h_sizes h_numbers h_moved v_isKept v_taped v_begins v_ends v_sort v_value v_isWrong v_itemMany v_farmMany v_farmCells v_now out.2) s.heap.size out.1) args s 0 0 (va_A wc0 s.heap.size)) (F0 m 0 ls []) := by
  unfold f_M_best at hf
  obtain ⟨hx, hb, -⟩ := id X
  refine lv_aload_n hx hb d_M_best_0 rfl (lv_at hl 0 rfl) ?_
  refine lv_iload_n hx hb d_M_best_1 rfl (lv_at hl 1 rfl) ?_
  obtain ⟨r_17, hc_18, hf⟩ := kb1_some hf
  refine k_cvi (w1 := (wd_M_isFarm D h h_now h_kept h_aside h_found h_down h_along h_parts h_gone h_tape h_kinds h_items h_widths h_sizes h_numbers h_moved v_isKept v_taped v_begins v_ends v_sort v_value v_isWrong v_itemMany v_farmMany v_farmCells v_now)) (r := r_17) (ws' := (wd_M_best D h h_now h_kept h_aside h_found h_down h_along h_parts h_gone h_tape h_kinds h_items h_widths h_sizes h_numbers h_moved v_isKept v_taped v_begins v_ends v_sort v_value v_isWrong v_itemMany v_farmMany v_farmCells v_now v_found)) X hV hl.1 (c_M_isFarm D h h_now h_kept h_aside h_found h_down h_along h_parts h_gone h_tape h_kinds h_items h_widths h_sizes h_numbers h_moved v_isKept v_taped v_begins v_ends v_sort v_value v_isWrong v_itemMany v_farmMany v_farmCells v_now x1 hc_18) fk_M_isFarm gw_1035 rfl 0 9 rfl rfl [0, 1] [some 0, some 1, none] rfl rfl ⟨rfl, rfl, rfl, rfl, rfl, rfl, rfl, trivial⟩ rfl rfl rfl d_M_best_2 (fun H locs hV => ?_)
  refine lv_if_ne (tgt := 15) hx hb d_M_best_5 (by decide) (fun c_19 => ?_) (fun c_19 => ?_)
  · replace hf := kifn c_19 hf
    refine lv_aload_n hx hb d_M_best_15 rfl (lv_at hl 0 rfl) ?_
    refine k_get X hV 0 9 0 rfl rfl rfl gw_887 rfl rfl d_M_best_16 ?_
    refine lv_bipush (v := 86) hx hb d_M_best_19 bp_86 ?_
    refine lv_aload_n hx hb d_M_best_21 rfl (lv_at hl 0 rfl) ?_
    refine lv_iload_n hx hb d_M_best_22 rfl (lv_at hl 1 rfl) ?_
    refine lv_iconst (v := 1) hx hb d_M_best_23 ic_1 ?_
    obtain ⟨r_20, hc_21, hf⟩ := kb1_some hf
    refine k_cvi (w1 := (wd_M_farmIs D h h_now h_kept h_aside h_found h_down h_along h_parts h_gone h_tape h_kinds h_items h_widths h_sizes h_numbers h_moved v_isKept v_taped v_begins v_ends v_sort v_value v_isWrong v_itemMany v_farmMany v_farmCells v_now)) (r := r_20) (ws' := (wd_M_best D h h_now h_kept h_aside h_found h_down h_along h_parts h_gone h_tape h_kinds h_items h_widths h_sizes h_numbers h_moved v_isKept v_taped v_begins v_ends v_sort v_value v_isWrong v_itemMany v_farmMany v_farmCells v_now v_found)) X hV hl.1 (c_M_farmIs D h h_now h_kept h_aside h_found h_down h_along h_parts h_gone h_tape h_kinds h_items h_widths h_sizes h_numbers h_moved v_isKept v_taped v_begins v_ends v_sort v_value v_isWrong v_itemMany v_farmMany v_farmCells v_now x1 (1 : Int32) hc_21) fk_M_farmIs gw_990 rfl 0 9 rfl rfl [0, 1] [some 0, some 1, none] rfl rfl ⟨rfl, rfl, rfl, rfl, rfl, rfl, rfl, trivial⟩ rfl rfl rfl d_M_best_24 (fun H locs hV => ?_)
    refine lv_iadd hx hb d_M_best_27 ?_
    obtain ⟨h_22, hf⟩ := kidx_some hf
    refine k_iald X hV 1 rfl h_22 rfl d_M_best_28 ?_
    refine k_leti hf (fun x2_23 hf => ?_)
    refine lv_istore_n (lv' := [(2, .int x2_23), (0, .ref h), (1, .int x1)]) hx hb d_M_best_29 rfl hl (by decide) rfl (fun ls hl => ?_)
    refine lv_iconst (v := 0) hx hb d_M_best_30 ic_0 ?_
    refine lv_istore_n (lv' := [(3, .int (0 : Int32)), (2, .int x2_23), (0, .ref h), (1, .int x1)]) hx hb d_M_best_31 rfl hl (by decide) rfl (fun ls hl => ?_)
    refine lv_iconst (v := 1) hx hb d_M_best_32 ic_1 ?_
    refine lv_istore (lv' := [(4, .int (1 : Int32)), (3, .int (0 : Int32)), (2, .int x2_23), (0, .ref h), (1, .int x1)]) hx hb d_M_best_33 hl (by decide) rfl (fun ls hl => ?_)
    exact tl_M_best_1 X _ _ _ hf _ _ _ hV (lv_sub hl [3, 2, 1, 0] rfl)
  replace hf := kifp c_19 hf
  refine lv_aload_n hx hb d_M_best_8 rfl (lv_at hl 0 rfl) ?_
  refine k_ldc (v := (-1000000001)) X gw_973 d_M_best_9 ?_
  obtain ⟨r_24, v_found_25, hc_26, hf⟩ := kb2_some hf
  refine k_cvi (w1 := (wd_M_finding D h h_now h_kept h_aside h_found h_down h_along h_parts h_gone h_tape h_kinds h_items h_widths h_sizes h_numbers h_moved v_isKept v_taped v_begins v_ends v_sort v_value v_isWrong v_itemMany v_farmMany v_farmCells v_found_25)) (r := r_24) (ws' := (wd_M_best D h h_now h_kept h_aside h_found h_down h_along h_parts h_gone h_tape h_kinds h_items h_widths h_sizes h_numbers h_moved v_isKept v_taped v_begins v_ends v_sort v_value v_isWrong v_itemMany v_farmMany v_farmCells v_now v_found_25)) X hV hl.1 (c_M_finding D h h_now h_kept h_aside h_found h_down h_along h_parts h_gone h_tape h_kinds h_items h_widths h_sizes h_numbers h_moved v_isKept v_taped v_begins v_ends v_sort v_value v_isWrong v_itemMany v_farmMany v_farmCells v_found (-1000000001 : Int32) hc_26) fk_M_finding gw_974 rfl 0 9 rfl rfl [0, 2] [some 0, none, some 1] rfl rfl ⟨rfl, rfl, rfl, rfl, rfl, rfl, rfl, trivial⟩ rfl rfl rfl d_M_best_11 (fun H locs hV => ?_)
  have e_ := Option.some.inj hf
  subst e_
  exact k_iret X rfl hV rfl d_M_best_14
set_option maxHeartbeats 2000000 in
set_option maxRecDepth 20000 in
theorem c_M_best {l : Launch} (D : kD) (h : Nat) (h_now : Nat) (h_kept : Nat) (h_aside : Nat) (h_found : Nat) (h_down : Nat) (h_along : Nat) (h_parts : Nat) (h_gone : Nat) (h_tape : Nat) (h_kinds : Nat) (h_items : Nat) (h_widths : Nat) (h_sizes : Nat) (h_numbers : Nat) (h_moved : Nat) (v_isKept : Int32) (v_taped : Int32) (v_begins : Int32) (v_ends : Int32) (v_sort : Int32) (v_value : Int32) (v_isWrong : Int32) (v_itemMany : Int32) (v_farmMany : Int32) (v_farmCells : Int64) (v_now : Nat → Int32) (v_found : Nat → Int32) (x1 : Int32) {out : Int32 × (Nat → Int32)} (hf : f_M_best v_now v_found x1 = some out) : kMi l D y_M_best b_M_best 5 (some .int) { frames := 2, cells := 0, slots := 0, locals := 46 } [.ref h, .int x1] (wd_M_best D h h_now h_kept h_aside h_found h_down h_along h_parts h_gone h_tape h_kinds h_items h_widths h_sizes h_numbers h_moved v_isKept v_taped v_begins v_ends v_sort v_value v_isWrong v_itemMany v_farmMany v_farmCells v_now v_found) (wd_M_best D h h_now h_kept h_aside h_found h_down h_along h_parts h_gone h_tape h_kinds h_items h_widths h_sizes h_numbers h_moved v_isKept v_taped v_begins v_ends v_sort v_value v_isWrong v_itemMany v_farmMany v_farmCells v_now out.2) out.1 :=
  kMi_of (own := "MountainFarmsModel") (plainFor_of_name (by decide)) rfl rfl (fun p e s m args below meth c ls X hV hl => t_M_best X hf hV hl)
set_option maxHeartbeats 2000000 in
set_option maxRecDepth 20000 in
theorem t_M_harvest_1 {l : Launch} {p : Program} {e : Env} {s : State} {m : MethodId} {args : Array Value} {below : List Frame} {meth : Method} {c : Code} {D : kD} {wc0 : va_W} {h : Nat} {h_now : Nat} {h_kept : Nat} {h_aside : Nat} {h_found : Nat} {h_down : Nat} {h_along : Nat} {h_parts : Nat} {h_gone : Nat} {h_tape : Nat} {h_kinds : Nat} {h_items : Nat} {h_widths : Nat} {h_sizes : Nat} {h_numbers : Nat} {h_moved : Nat} {v_isKept : Int32} {v_taped : Int32} {v_begins : Int32} {v_ends : Int32} {v_sort : Int32} {v_value : Int32} {v_isWrong : Int32} {v_itemMany : Int32} {v_farmMany : Int32} {v_farmCells : Int64} {v_now : Nat → Int32} {v_found : Nat → Int32} {out : Int32 × (Nat → Int32)} (X : kX p m meth c s args D (va_A wc0 s.heap.size) b_M_harvest "MountainFarmsModel" 6 (some .int)) (hf : f_M_harvest_1 v_found = some out) {H : Heap} {locs : List Loc} (hV : kV D (va_A wc0 s.heap.size) s (wd_M_harvest D h h_now h_kept h_aside h_found h_down h_along h_parts h_gone h_tape h_kinds h_items h_widths h_sizes h_numbers h_moved v_isKept v_taped v_begins v_ends v_sort v_value v_isWrong v_itemMany v_farmMany v_farmCells v_now v_found) H locs) {ls : Array Slot} (hl : lv_has ls 6 [(0, .ref h)]) : W p l e { frames := 2, cells := 0, slots := 0, locals := 46 } s m args below meth c H locs 0 0 (MQ below (kQi D wc0 (wd_M_harvest D h h_now h_kept h_aside h_found h_down h_along h_parts h_gone h_tape h_kinds h_items h_widths h_sizes h_numbers h_moved v_isKept v_taped v_begins v_ends v_sort v_value v_isWrong v_itemMany v_farmMany v_farmCells v_now out.2) s.heap.size out.1) args s 0 0 (va_A wc0 s.heap.size)) (F0 m 24 ls []) := by
  unfold f_M_harvest_1 at hf
  obtain ⟨hx, hb, -⟩ := id X
  refine lv_aload_n hx hb d_M_harvest_24 rfl (lv_at hl 0 rfl) ?_
  refine k_ldc (v := (-1000000001)) X gw_973 d_M_harvest_25 ?_
  obtain ⟨r_30, v_found_31, hc_32, hf⟩ := kb2_some hf
  refine k_cvi (w1 := (wd_M_finding D h h_now h_kept h_aside h_found h_down h_along h_parts h_gone h_tape h_kinds h_items h_widths h_sizes h_numbers h_moved v_isKept v_taped v_begins v_ends v_sort v_value v_isWrong v_itemMany v_farmMany v_farmCells v_found_31)) (r := r_30) (ws' := (wd_M_harvest D h h_now h_kept h_aside h_found h_down h_along h_parts h_gone h_tape h_kinds h_items h_widths h_sizes h_numbers h_moved v_isKept v_taped v_begins v_ends v_sort v_value v_isWrong v_itemMany v_farmMany v_farmCells v_now v_found_31)) X hV hl.1 (c_M_finding D h h_now h_kept h_aside h_found h_down h_along h_parts h_gone h_tape h_kinds h_items h_widths h_sizes h_numbers h_moved v_isKept v_taped v_begins v_ends v_sort v_value v_isWrong v_itemMany v_farmMany v_farmCells v_found (-1000000001 : Int32) hc_32) fk_M_finding gw_974 rfl 0 9 rfl rfl [0, 2] [some 0, none, some 1] rfl rfl ⟨rfl, rfl, rfl, rfl, rfl, rfl, rfl, trivial⟩ rfl rfl rfl d_M_harvest_27 (fun H locs hV => ?_)
  have e_ := Option.some.inj hf
  subst e_
  exact k_iret X rfl hV rfl d_M_harvest_30
set_option maxHeartbeats 2000000 in
set_option maxRecDepth 20000 in
theorem tb_M_harvest_2 {l : Launch} {p : Program} {e : Env} {s : State} {m : MethodId} {args : Array Value} {below : List Frame} {meth : Method} {c : Code} {D : kD} {wc0 : va_W} {h : Nat} {h_now : Nat} {h_kept : Nat} {h_aside : Nat} {h_found : Nat} {h_down : Nat} {h_along : Nat} {h_parts : Nat} {h_gone : Nat} {h_tape : Nat} {h_kinds : Nat} {h_items : Nat} {h_widths : Nat} {h_sizes : Nat} {h_numbers : Nat} {h_moved : Nat} {v_isKept : Int32} {v_taped : Int32} {v_begins : Int32} {v_ends : Int32} {v_sort : Int32} {v_value : Int32} {v_isWrong : Int32} {v_itemMany : Int32} {v_farmMany : Int32} {v_farmCells : Int64} {v_now : Nat → Int32} {v_found : Nat → Int32} {x1 : Int32} {x2 : Int32} {x3 : Int32} {x4 : Int32} {x5 : Int32} {rec2 : Int32 → Int32 → Option (Int32 × (Nat → Int32))} {out : Int32 × (Nat → Int32)} (X : kX p m meth c s args D (va_A wc0 s.heap.size) b_M_harvest "MountainFarmsModel" 6 (some .int)) (hrec2 : ∀ (x4 : Int32) (x5 : Int32), rec2 x4 x5 = some out → ∀ (H : Heap) (locs : List Loc) (ls : Array Slot), kV D (va_A wc0 s.heap.size) s (wd_M_harvest D h h_now h_kept h_aside h_found h_down h_along h_parts h_gone h_tape h_kinds h_items h_widths h_sizes h_numbers h_moved v_isKept v_taped v_begins v_ends v_sort v_value v_isWrong v_itemMany v_farmMany v_farmCells v_now v_found) H locs → lv_has ls 6 [(0, .ref h), (1, .int x1), (2, .int x2), (3, .int x3), (4, .int x4), (5, .int x5)] → W p l e { frames := 2, cells := 0, slots := 0, locals := 46 } s m args below meth c H locs 0 0 (MQ below (kQi D wc0 (wd_M_harvest D h h_now h_kept h_aside h_found h_down h_along h_parts h_gone h_tape h_kinds h_items h_widths h_sizes h_numbers h_moved v_isKept v_taped v_begins v_ends v_sort v_value v_isWrong v_itemMany v_farmMany v_farmCells v_now out.2) s.heap.size out.1) args s 0 0 (va_A wc0 s.heap.size)) (F0 m 37 ls [])) (hf : fb_M_harvest_2 rec2 x1 x2 x3 v_now v_found x4 x5 = some out) {H : Heap} {locs : List Loc} (hV : kV D (va_A wc0 s.heap.size) s (wd_M_harvest D h h_now h_kept h_aside h_found h_down h_along h_parts h_gone h_tape h_kinds h_items h_widths h_sizes h_numbers h_moved v_isKept v_taped v_begins v_ends v_sort v_value v_isWrong v_itemMany v_farmMany v_farmCells v_now v_found) H locs) {ls : Array Slot} (hl : lv_has ls 6 [(0, .ref h), (1, .int x1), (2, .int x2), (3, .int x3), (4, .int x4), (5, .int x5)]) : W p l e { frames := 2, cells := 0, slots := 0, locals := 46 } s m args below meth c H locs 0 0 (MQ below (kQi D wc0 (wd_M_harvest D h h_now h_kept h_aside h_found h_down h_along h_parts h_gone h_tape h_kinds h_items h_widths h_sizes h_numbers h_moved v_isKept v_taped v_begins v_ends v_sort v_value v_isWrong v_itemMany v_farmMany v_farmCells v_now out.2) s.heap.size out.1) args s 0 0 (va_A wc0 s.heap.size)) (F0 m 37 ls []) := by
  unfold fb_M_harvest_2 at hf
  obtain ⟨hx, hb, -⟩ := id X
  refine lv_iload hx hb d_M_harvest_37 (lv_at hl 5 rfl) ?_
  refine lv_iload_n hx hb d_M_harvest_39 rfl (lv_at hl 3 rfl) ?_
  refine lv_icmp_ge (tgt := 89) hx hb d_M_harvest_40 (by decide) (fun c_33 => ?_) (fun c_33 => ?_)
  · replace hf := kifp c_33 hf
    refine lv_iload hx hb d_M_harvest_89 (lv_at hl 4 rfl) ?_
    have e_ := Option.some.inj hf
    subst e_
    exact k_iret X rfl hV rfl d_M_harvest_91
  replace hf := kifn c_33 hf
  refine lv_iload hx hb d_M_harvest_43 (lv_at hl 4 rfl) ?_
  refine lv_iload_n hx hb d_M_harvest_45 rfl (lv_at hl 1 rfl) ?_
  refine lv_bipush (v := 99) hx hb d_M_harvest_46 bp_99 ?_
  refine lv_aload_n hx hb d_M_harvest_48 rfl (lv_at hl 0 rfl) ?_
  refine k_get X hV 0 9 0 rfl rfl rfl gw_887 rfl rfl d_M_harvest_49 ?_
  refine lv_bipush (v := 86) hx hb d_M_harvest_52 bp_86 ?_
  refine lv_iload_n hx hb d_M_harvest_54 rfl (lv_at hl 2 rfl) ?_
  refine lv_iadd hx hb d_M_harvest_55 ?_
  obtain ⟨h_34, hf⟩ := kidx_some hf
  refine k_iald X hV 1 rfl h_34 rfl d_M_harvest_56 ?_
  refine lv_iload hx hb d_M_harvest_57 (lv_at hl 5 rfl) ?_
  refine lv_iadd hx hb d_M_harvest_59 ?_
  obtain ⟨r_35, hc_36, hf⟩ := kb1_some hf
  refine k_csi (w1 := (wd_Ma_min D)) (r := r_35) (ws' := (wd_M_harvest D h h_now h_kept h_aside h_found h_down h_along h_parts h_gone h_tape h_kinds h_items h_widths h_sizes h_numbers h_moved v_isKept v_taped v_begins v_ends v_sort v_value v_isWrong v_itemMany v_farmMany v_farmCells v_now v_found)) X hV hl.1 (c_Ma_min D (99 : Int32) ((v_now ((86 : Int32) + x2).toNatClampNeg) + x5) hc_36) fk_Ma_min gw_1046 rfl [] [none, none, none] rfl rfl ⟨rfl, rfl, rfl, trivial⟩ rfl rfl rfl d_M_harvest_60 (fun H locs hV => ?_)
  refine lv_bipush (v := 99) hx hb d_M_harvest_63 bp_99 ?_
  refine lv_aload_n hx hb d_M_harvest_65 rfl (lv_at hl 0 rfl) ?_
  refine k_get X hV 0 9 0 rfl rfl rfl gw_887 rfl rfl d_M_harvest_66 ?_
  refine lv_iconst (v := 4) hx hb d_M_harvest_69 ic_4 ?_
  refine k_iald X hV 1 rfl kin_4_218 kln_4 d_M_harvest_70 ?_
  refine lv_iload hx hb d_M_harvest_71 (lv_at hl 5 rfl) ?_
  refine lv_iadd hx hb d_M_harvest_73 ?_
  obtain ⟨r_37, hc_38, hf⟩ := kb1_some hf
  refine k_csi (w1 := (wd_Ma_min D)) (r := r_37) (ws' := (wd_M_harvest D h h_now h_kept h_aside h_found h_down h_along h_parts h_gone h_tape h_kinds h_items h_widths h_sizes h_numbers h_moved v_isKept v_taped v_begins v_ends v_sort v_value v_isWrong v_itemMany v_farmMany v_farmCells v_now v_found)) X hV hl.1 (c_Ma_min D (99 : Int32) ((v_now 4) + x5) hc_38) fk_Ma_min gw_1046 rfl [] [none, none, none] rfl rfl ⟨rfl, rfl, rfl, trivial⟩ rfl rfl rfl d_M_harvest_74 (fun H locs hV => ?_)
  obtain ⟨r_39, hc_40, hf⟩ := kb1_some hf
  refine k_csi (w1 := (wd_M_bearsAt D)) (r := r_39) (ws' := (wd_M_harvest D h h_now h_kept h_aside h_found h_down h_along h_parts h_gone h_tape h_kinds h_items h_widths h_sizes h_numbers h_moved v_isKept v_taped v_begins v_ends v_sort v_value v_isWrong v_itemMany v_farmMany v_farmCells v_now v_found)) X hV hl.1 (c_M_bearsAt D x1 r_35 r_37 hc_40) fk_M_bearsAt gw_1043 rfl [] [none, none, none] rfl rfl ⟨rfl, rfl, rfl, trivial⟩ rfl rfl rfl d_M_harvest_77 (fun H locs hV => ?_)
  refine lv_iadd hx hb d_M_harvest_80 ?_
  refine lv_istore (lv' := [(4, .int (x4 + r_39)), (0, .ref h), (1, .int x1), (2, .int x2), (3, .int x3), (5, .int x5)]) hx hb d_M_harvest_81 hl (by decide) rfl (fun ls hl => ?_)
  refine lv_iinc (v := (x5 + 1)) (lv' := [(5, .int (x5 + 1)), (4, .int (x4 + r_39)), (0, .ref h), (1, .int x1), (2, .int x2), (3, .int x3)]) hx hb d_M_harvest_83 hl (k := 5) rfl rfl (by decide) rfl (fun ls hl => ?_)
  refine lv_goto (tgt := 37) hx hb d_M_harvest_86 (by decide) ?_
  exact hrec2 _ _ hf _ _ _ hV (lv_sub hl [2, 3, 4, 5, 1, 0] rfl)
set_option maxHeartbeats 2000000 in
set_option maxRecDepth 20000 in
theorem tl_M_harvest_2 {l : Launch} {p : Program} {e : Env} {s : State} {m : MethodId} {args : Array Value} {below : List Frame} {meth : Method} {c : Code} {D : kD} {wc0 : va_W} {h : Nat} {h_now : Nat} {h_kept : Nat} {h_aside : Nat} {h_found : Nat} {h_down : Nat} {h_along : Nat} {h_parts : Nat} {h_gone : Nat} {h_tape : Nat} {h_kinds : Nat} {h_items : Nat} {h_widths : Nat} {h_sizes : Nat} {h_numbers : Nat} {h_moved : Nat} {v_isKept : Int32} {v_taped : Int32} {v_begins : Int32} {v_ends : Int32} {v_sort : Int32} {v_value : Int32} {v_isWrong : Int32} {v_itemMany : Int32} {v_farmMany : Int32} {v_farmCells : Int64} {v_now : Nat → Int32} {v_found : Nat → Int32} {x1 : Int32} {x2 : Int32} {x3 : Int32} {out : Int32 × (Nat → Int32)} (X : kX p m meth c s args D (va_A wc0 s.heap.size) b_M_harvest "MountainFarmsModel" 6 (some .int)) : ∀ (n : Nat) (x4 : Int32) (x5 : Int32), fl_M_harvest_2 x1 x2 x3 v_now v_found n x4 x5 = some out → ∀ (H : Heap) (locs : List Loc) (ls : Array Slot), kV D (va_A wc0 s.heap.size) s (wd_M_harvest D h h_now h_kept h_aside h_found h_down h_along h_parts h_gone h_tape h_kinds h_items h_widths h_sizes h_numbers h_moved v_isKept v_taped v_begins v_ends v_sort v_value v_isWrong v_itemMany v_farmMany v_farmCells v_now v_found) H locs → lv_has ls 6 [(0, .ref h), (1, .int x1), (2, .int x2), (3, .int x3), (4, .int x4), (5, .int x5)] → W p l e { frames := 2, cells := 0, slots := 0, locals := 46 } s m args below meth c H locs 0 0 (MQ below (kQi D wc0 (wd_M_harvest D h h_now h_kept h_aside h_found h_down h_along h_parts h_gone h_tape h_kinds h_items h_widths h_sizes h_numbers h_moved v_isKept v_taped v_begins v_ends v_sort v_value v_isWrong v_itemMany v_farmMany v_farmCells v_now out.2) s.heap.size out.1) args s 0 0 (va_A wc0 s.heap.size)) (F0 m 37 ls []) := by
  intro n
  induction n with
  | zero => intro x4 x5 hf; exact knone hf
  | succ n ih => intro x4 x5 hf H locs ls hV hl; exact tb_M_harvest_2 X ih hf hV hl
set_option maxHeartbeats 2000000 in
set_option maxRecDepth 20000 in
theorem t_M_harvest {l : Launch} {p : Program} {e : Env} {s : State} {m : MethodId} {args : Array Value} {below : List Frame} {meth : Method} {c : Code} {D : kD} {wc0 : va_W} {h : Nat} {h_now : Nat} {h_kept : Nat} {h_aside : Nat} {h_found : Nat} {h_down : Nat} {h_along : Nat} {h_parts : Nat} {h_gone : Nat} {h_tape : Nat} {h_kinds : Nat} {h_items : Nat} {h_widths : Nat} {h_sizes : Nat} {h_numbers : Nat} {h_moved : Nat} {v_isKept : Int32} {v_taped : Int32} {v_begins : Int32} {v_ends : Int32} {v_sort : Int32} {v_value : Int32} {v_isWrong : Int32} {v_itemMany : Int32} {v_farmMany : Int32} {v_farmCells : Int64} {v_now : Nat → Int32} {v_found : Nat → Int32} {x1 : Int32} {x2 : Int32} {x3 : Int32} {out : Int32 × (Nat → Int32)} (X : kX p m meth c s args D (va_A wc0 s.heap.size) b_M_harvest "MountainFarmsModel" 6 (some .int)) (hf : f_M_harvest v_now v_found x1 x2 x3 = some out) {H : Heap} {locs : List Loc} (hV : kV D (va_A wc0 s.heap.size) s (wd_M_harvest D h h_now h_kept h_aside h_found h_down h_along h_parts h_gone h_tape h_kinds h_items h_widths h_sizes h_numbers h_moved v_isKept v_taped v_begins v_ends v_sort v_value v_isWrong v_itemMany v_farmMany v_farmCells v_now v_found) H locs) {ls : Array Slot} (hl : lv_has ls 6 [(0, .ref h), (1, .int x1), (2, .int x2), (3, .int x3)]) : W p l e { frames := 2, cells := 0, slots := 0, locals := 46 } s m args below meth c H locs 0 0 (MQ below (kQi D wc0 (wd_M_harvest D h h_now h_kept h_aside h_found h_down h_along h_parts h_gone h_tape h_kinds h_items h_widths h_sizes h_numbers h_moved v_isKept v_taped v_begins v_ends v_sort v_value v_isWrong v_itemMany v_farmMany v_farmCells v_now out.2) s.heap.size out.1) args s 0 0 (va_A wc0 s.heap.size)) (F0 m 0 ls []) := by
  unfold f_M_harvest at hf
  obtain ⟨hx, hb, -⟩ := id X
  refine lv_iload_n hx hb d_M_harvest_0 rfl (lv_at hl 1 rfl) ?_
  obtain ⟨r_21, hc_22, hf⟩ := kb1_some hf
  refine k_csi (w1 := (wd_M_isKind D)) (r := r_21) (ws' := (wd_M_harvest D h h_now h_kept h_aside h_found h_down h_along h_parts h_gone h_tape h_kinds h_items h_widths h_sizes h_numbers h_moved v_isKept v_taped v_begins v_ends v_sort v_value v_isWrong v_itemMany v_farmMany v_farmCells v_now v_found)) X hV hl.1 (c_M_isKind D x1 hc_22) fk_M_isKind gw_1022 rfl [] [none, none, none] rfl rfl ⟨rfl, rfl, rfl, trivial⟩ rfl rfl rfl d_M_harvest_1 (fun H locs hV => ?_)
  refine lv_if_eq (tgt := 24) hx hb d_M_harvest_4 (by decide) (fun c_23 => ?_) (fun c_23 => ?_)
  · replace hf := kifp c_23 hf
    exact t_M_harvest_1 X hf hV (lv_sub hl [0] rfl)
  replace hf := kifn c_23 hf
  refine lv_iload_n hx hb d_M_harvest_7 rfl (lv_at hl 2 rfl) ?_
  obtain ⟨r_24, hc_25, hf⟩ := kb1_some hf
  refine k_csi (w1 := (wd_M_isCell D)) (r := r_24) (ws' := (wd_M_harvest D h h_now h_kept h_aside h_found h_down h_along h_parts h_gone h_tape h_kinds h_items h_widths h_sizes h_numbers h_moved v_isKept v_taped v_begins v_ends v_sort v_value v_isWrong v_itemMany v_farmMany v_farmCells v_now v_found)) X hV hl.1 (c_M_isCell D x2 hc_25) fk_M_isCell gw_967 rfl [] [none, none, none] rfl rfl ⟨rfl, rfl, rfl, trivial⟩ rfl rfl rfl d_M_harvest_8 (fun H locs hV => ?_)
  refine lv_if_eq (tgt := 24) hx hb d_M_harvest_11 (by decide) (fun c_26 => ?_) (fun c_26 => ?_)
  · replace hf := kifp c_26 hf
    exact t_M_harvest_1 X hf hV (lv_sub hl [0] rfl)
  replace hf := kifn c_26 hf
  refine lv_iload_n hx hb d_M_harvest_14 rfl (lv_at hl 3 rfl) ?_
  refine lv_iconst (v := 0) hx hb d_M_harvest_15 ic_0 ?_
  refine lv_bipush (v := 50) hx hb d_M_harvest_16 bp_50 ?_
  obtain ⟨r_27, hc_28, hf⟩ := kb1_some hf
  refine k_csi (w1 := (wd_M_within D)) (r := r_27) (ws' := (wd_M_harvest D h h_now h_kept h_aside h_found h_down h_along h_parts h_gone h_tape h_kinds h_items h_widths h_sizes h_numbers h_moved v_isKept v_taped v_begins v_ends v_sort v_value v_isWrong v_itemMany v_farmMany v_farmCells v_now v_found)) X hV hl.1 (c_M_within D x3 (0 : Int32) (50 : Int32) hc_28) fk_M_within gw_970 rfl [] [none, none, none] rfl rfl ⟨rfl, rfl, rfl, trivial⟩ rfl rfl rfl d_M_harvest_18 (fun H locs hV => ?_)
  refine lv_if_ne (tgt := 31) hx hb d_M_harvest_21 (by decide) (fun c_29 => ?_) (fun c_29 => ?_)
  · replace hf := kifn c_29 hf
    refine lv_iconst (v := 0) hx hb d_M_harvest_31 ic_0 ?_
    refine lv_istore (lv' := [(4, .int (0 : Int32)), (0, .ref h), (1, .int x1), (2, .int x2), (3, .int x3)]) hx hb d_M_harvest_32 hl (by decide) rfl (fun ls hl => ?_)
    refine lv_iconst (v := 0) hx hb d_M_harvest_34 ic_0 ?_
    refine lv_istore (lv' := [(5, .int (0 : Int32)), (4, .int (0 : Int32)), (0, .ref h), (1, .int x1), (2, .int x2), (3, .int x3)]) hx hb d_M_harvest_35 hl (by decide) rfl (fun ls hl => ?_)
    exact tl_M_harvest_2 X _ _ _ hf _ _ _ hV (lv_sub hl [2, 3, 4, 5, 1, 0] rfl)
  replace hf := kifp c_29 hf
  exact t_M_harvest_1 X hf hV (lv_sub hl [0] rfl)
set_option maxHeartbeats 2000000 in
set_option maxRecDepth 20000 in
theorem c_M_harvest {l : Launch} (D : kD) (h : Nat) (h_now : Nat) (h_kept : Nat) (h_aside : Nat) (h_found : Nat) (h_down : Nat) (h_along : Nat) (h_parts : Nat) (h_gone : Nat) (h_tape : Nat) (h_kinds : Nat) (h_items : Nat) (h_widths : Nat) (h_sizes : Nat) (h_numbers : Nat) (h_moved : Nat) (v_isKept : Int32) (v_taped : Int32) (v_begins : Int32) (v_ends : Int32) (v_sort : Int32) (v_value : Int32) (v_isWrong : Int32) (v_itemMany : Int32) (v_farmMany : Int32) (v_farmCells : Int64) (v_now : Nat → Int32) (v_found : Nat → Int32) (x1 : Int32) (x2 : Int32) (x3 : Int32) {out : Int32 × (Nat → Int32)} (hf : f_M_harvest v_now v_found x1 x2 x3 = some out) : kMi l D y_M_harvest b_M_harvest 6 (some .int) { frames := 2, cells := 0, slots := 0, locals := 46 } [.ref h, .int x1, .int x2, .int x3] (wd_M_harvest D h h_now h_kept h_aside h_found h_down h_along h_parts h_gone h_tape h_kinds h_items h_widths h_sizes h_numbers h_moved v_isKept v_taped v_begins v_ends v_sort v_value v_isWrong v_itemMany v_farmMany v_farmCells v_now v_found) (wd_M_harvest D h h_now h_kept h_aside h_found h_down h_along h_parts h_gone h_tape h_kinds h_items h_widths h_sizes h_numbers h_moved v_isKept v_taped v_begins v_ends v_sort v_value v_isWrong v_itemMany v_farmMany v_farmCells v_now out.2) out.1 :=
  kMi_of (own := "MountainFarmsModel") (plainFor_of_name (by decide)) rfl rfl (fun p e s m args below meth c ls X hV hl => t_M_harvest X hf hV hl)
set_option maxHeartbeats 2000000 in
set_option maxRecDepth 20000 in
theorem t_M_isState {l : Launch} {p : Program} {e : Env} {s : State} {m : MethodId} {args : Array Value} {below : List Frame} {meth : Method} {c : Code} {D : kD} {wc0 : va_W} {x0 : Int32} {out : Int32} (X : kX p m meth c s args D (va_A wc0 s.heap.size) b_M_isState "MountainFarmsModel" 1 (some .boolean)) (hf : f_M_isState x0 = some out) {H : Heap} {locs : List Loc} (hV : kV D (va_A wc0 s.heap.size) s (wd_M_isState D) H locs) {ls : Array Slot} (hl : lv_has ls 1 [(0, .int x0)]) : W p l e { frames := 1, cells := 0, slots := 0, locals := 22 } s m args below meth c H locs 0 0 (MQ below (kQi D wc0 (wd_M_isState D) s.heap.size out) args s 0 0 (va_A wc0 s.heap.size)) (F0 m 0 ls []) := by
  unfold f_M_isState at hf
  obtain ⟨hx, hb, -⟩ := id X
  refine lv_iload_n hx hb d_M_isState_0 rfl (lv_at hl 0 rfl) ?_
  refine lv_iconst (v := 0) hx hb d_M_isState_1 ic_0 ?_
  refine lv_iconst (v := 3) hx hb d_M_isState_2 ic_3 ?_
  obtain ⟨r_4, hc_5, hf⟩ := kb1_some hf
  refine k_csi (w1 := (wd_M_within D)) (r := r_4) (ws' := (wd_M_isState D)) X hV hl.1 (c_M_within D x0 (0 : Int32) (3 : Int32) hc_5) fk_M_within gw_970 rfl [] [] rfl rfl trivial rfl rfl rfl d_M_isState_3 (fun H locs hV => ?_)
  obtain ⟨h_6, hf⟩ := kchk hf
  have e_ := Option.some.inj hf
  subst e_
  exact k_iret X rfl hV (knarB h_6) d_M_isState_6
set_option maxHeartbeats 2000000 in
set_option maxRecDepth 20000 in
theorem c_M_isState {l : Launch} (D : kD) (x0 : Int32) {out : Int32} (hf : f_M_isState x0 = some out) : kMi l D y_M_isState b_M_isState 1 (some .boolean) { frames := 1, cells := 0, slots := 0, locals := 22 } [.int x0] (wd_M_isState D) (wd_M_isState D) out :=
  kMi_of (own := "MountainFarmsModel") (plainFor_of_name (by decide)) rfl rfl (fun p e s m args below meth c ls X hV hl => t_M_isState X hf hV hl)
set_option maxHeartbeats 2000000 in
set_option maxRecDepth 20000 in
theorem t_M_putTenths {l : Launch} {p : Program} {e : Env} {s : State} {m : MethodId} {args : Array Value} {below : List Frame} {meth : Method} {c : Code} {D : kD} {wc0 : va_W} {h : Nat} {h_now : Nat} {h_kept : Nat} {h_aside : Nat} {h_found : Nat} {h_down : Nat} {h_along : Nat} {h_parts : Nat} {h_gone : Nat} {h_tape : Nat} {h_kinds : Nat} {h_items : Nat} {h_widths : Nat} {h_sizes : Nat} {h_numbers : Nat} {h_moved : Nat} {v_isKept : Int32} {v_taped : Int32} {v_begins : Int32} {v_ends : Int32} {v_sort : Int32} {v_value : Int32} {v_isWrong : Int32} {v_itemMany : Int32} {v_farmMany : Int32} {v_farmCells : Int64} {v_now : Nat → Int32} {x1 : Int32} {x2 : Int32} {x3 : Int32} {x4 : Int32} {out : (Nat → Int32)} (X : kX p m meth c s args D (va_A wc0 s.heap.size) b_M_putTenths "MountainFarmsModel" 5 none) (hf : f_M_putTenths v_now x1 x2 x3 x4 = some out) {H : Heap} {locs : List Loc} (hV : kV D (va_A wc0 s.heap.size) s (wd_M_putTenths D h h_now h_kept h_aside h_found h_down h_along h_parts h_gone h_tape h_kinds h_items h_widths h_sizes h_numbers h_moved v_isKept v_taped v_begins v_ends v_sort v_value v_isWrong v_itemMany v_farmMany v_farmCells v_now) H locs) {ls : Array Slot} (hl : lv_has ls 5 [(0, .ref h), (1, .int x1), (2, .int x2), (3, .int x3), (4, .int x4)]) : W p l e { frames := 0, cells := 0, slots := 0, locals := 0 } s m args below meth c H locs 0 0 (MQ below (kQv D wc0 (wd_M_putTenths D h h_now h_kept h_aside h_found h_down h_along h_parts h_gone h_tape h_kinds h_items h_widths h_sizes h_numbers h_moved v_isKept v_taped v_begins v_ends v_sort v_value v_isWrong v_itemMany v_farmMany v_farmCells out) s.heap.size) args s 0 0 (va_A wc0 s.heap.size)) (F0 m 0 ls []) := by
  unfold f_M_putTenths at hf
  obtain ⟨hx, hb, -⟩ := id X
  refine lv_aload_n hx hb d_M_putTenths_0 rfl (lv_at hl 0 rfl) ?_
  refine k_get X hV 0 9 0 rfl rfl rfl gw_887 rfl rfl d_M_putTenths_1 ?_
  refine lv_iload_n hx hb d_M_putTenths_4 rfl (lv_at hl 1 rfl) ?_
  refine lv_iload_n hx hb d_M_putTenths_5 rfl (lv_at hl 2 rfl) ?_
  obtain ⟨h_5, hf⟩ := kidx_some hf
  refine k_iast (ws' := (wd_M_putTenths D h h_now h_kept h_aside h_found h_down h_along h_parts h_gone h_tape h_kinds h_items h_widths h_sizes h_numbers h_moved v_isKept v_taped v_begins v_ends v_sort v_value v_isWrong v_itemMany v_farmMany v_farmCells (upd v_now x1.toNatClampNeg x2))) X hV 1 rfl h_5 rfl rfl d_M_putTenths_6 (fun H locs hV => ?_)
  refine lv_aload_n hx hb d_M_putTenths_7 rfl (lv_at hl 0 rfl) ?_
  refine k_get X hV 0 9 0 rfl rfl rfl gw_887 rfl rfl d_M_putTenths_8 ?_
  refine lv_iload_n hx hb d_M_putTenths_11 rfl (lv_at hl 1 rfl) ?_
  refine lv_iconst (v := 1) hx hb d_M_putTenths_12 ic_1 ?_
  refine lv_iadd hx hb d_M_putTenths_13 ?_
  refine lv_iload_n hx hb d_M_putTenths_14 rfl (lv_at hl 3 rfl) ?_
  obtain ⟨h_6, hf⟩ := kidx_some hf
  refine k_iast (ws' := (wd_M_putTenths D h h_now h_kept h_aside h_found h_down h_along h_parts h_gone h_tape h_kinds h_items h_widths h_sizes h_numbers h_moved v_isKept v_taped v_begins v_ends v_sort v_value v_isWrong v_itemMany v_farmMany v_farmCells (upd (upd v_now x1.toNatClampNeg x2) (x1 + (1 : Int32)).toNatClampNeg x3))) X hV 1 rfl h_6 rfl rfl d_M_putTenths_15 (fun H locs hV => ?_)
  refine lv_aload_n hx hb d_M_putTenths_16 rfl (lv_at hl 0 rfl) ?_
  refine k_get X hV 0 9 0 rfl rfl rfl gw_887 rfl rfl d_M_putTenths_17 ?_
  refine lv_iload_n hx hb d_M_putTenths_20 rfl (lv_at hl 1 rfl) ?_
  refine lv_iconst (v := 2) hx hb d_M_putTenths_21 ic_2 ?_
  refine lv_iadd hx hb d_M_putTenths_22 ?_
  refine lv_iload hx hb d_M_putTenths_23 (lv_at hl 4 rfl) ?_
  obtain ⟨h_7, hf⟩ := kidx_some hf
  refine k_iast (ws' := (wd_M_putTenths D h h_now h_kept h_aside h_found h_down h_along h_parts h_gone h_tape h_kinds h_items h_widths h_sizes h_numbers h_moved v_isKept v_taped v_begins v_ends v_sort v_value v_isWrong v_itemMany v_farmMany v_farmCells (upd (upd (upd v_now x1.toNatClampNeg x2) (x1 + (1 : Int32)).toNatClampNeg x3) (x1 + (2 : Int32)).toNatClampNeg x4))) X hV 1 rfl h_7 rfl rfl d_M_putTenths_25 (fun H locs hV => ?_)
  refine lv_aload_n hx hb d_M_putTenths_26 rfl (lv_at hl 0 rfl) ?_
  refine k_get X hV 0 9 0 rfl rfl rfl gw_887 rfl rfl d_M_putTenths_27 ?_
  refine lv_iload_n hx hb d_M_putTenths_30 rfl (lv_at hl 1 rfl) ?_
  refine lv_iconst (v := 3) hx hb d_M_putTenths_31 ic_3 ?_
  refine lv_iadd hx hb d_M_putTenths_32 ?_
  refine lv_bipush (v := 10) hx hb d_M_putTenths_33 bp_10 ?_
  refine lv_iload_n hx hb d_M_putTenths_35 rfl (lv_at hl 2 rfl) ?_
  refine lv_isub hx hb d_M_putTenths_36 ?_
  refine lv_iload_n hx hb d_M_putTenths_37 rfl (lv_at hl 3 rfl) ?_
  refine lv_isub hx hb d_M_putTenths_38 ?_
  refine lv_iload hx hb d_M_putTenths_39 (lv_at hl 4 rfl) ?_
  refine lv_isub hx hb d_M_putTenths_41 ?_
  obtain ⟨h_8, hf⟩ := kidx_some hf
  refine k_iast (ws' := (wd_M_putTenths D h h_now h_kept h_aside h_found h_down h_along h_parts h_gone h_tape h_kinds h_items h_widths h_sizes h_numbers h_moved v_isKept v_taped v_begins v_ends v_sort v_value v_isWrong v_itemMany v_farmMany v_farmCells (upd (upd (upd (upd v_now x1.toNatClampNeg x2) (x1 + (1 : Int32)).toNatClampNeg x3) (x1 + (2 : Int32)).toNatClampNeg x4) (x1 + (3 : Int32)).toNatClampNeg ((((10 : Int32) - x2) - x3) - x4)))) X hV 1 rfl h_8 rfl rfl d_M_putTenths_42 (fun H locs hV => ?_)
  have e_ := Option.some.inj hf
  subst e_
  exact k_vret X rfl hV d_M_putTenths_43
set_option maxHeartbeats 2000000 in
set_option maxRecDepth 20000 in
theorem c_M_putTenths {l : Launch} (D : kD) (h : Nat) (h_now : Nat) (h_kept : Nat) (h_aside : Nat) (h_found : Nat) (h_down : Nat) (h_along : Nat) (h_parts : Nat) (h_gone : Nat) (h_tape : Nat) (h_kinds : Nat) (h_items : Nat) (h_widths : Nat) (h_sizes : Nat) (h_numbers : Nat) (h_moved : Nat) (v_isKept : Int32) (v_taped : Int32) (v_begins : Int32) (v_ends : Int32) (v_sort : Int32) (v_value : Int32) (v_isWrong : Int32) (v_itemMany : Int32) (v_farmMany : Int32) (v_farmCells : Int64) (v_now : Nat → Int32) (x1 : Int32) (x2 : Int32) (x3 : Int32) (x4 : Int32) {out : (Nat → Int32)} (hf : f_M_putTenths v_now x1 x2 x3 x4 = some out) : kMv l D y_M_putTenths b_M_putTenths 5 none { frames := 0, cells := 0, slots := 0, locals := 0 } [.ref h, .int x1, .int x2, .int x3, .int x4] (wd_M_putTenths D h h_now h_kept h_aside h_found h_down h_along h_parts h_gone h_tape h_kinds h_items h_widths h_sizes h_numbers h_moved v_isKept v_taped v_begins v_ends v_sort v_value v_isWrong v_itemMany v_farmMany v_farmCells v_now) (wd_M_putTenths D h h_now h_kept h_aside h_found h_down h_along h_parts h_gone h_tape h_kinds h_items h_widths h_sizes h_numbers h_moved v_isKept v_taped v_begins v_ends v_sort v_value v_isWrong v_itemMany v_farmMany v_farmCells out) :=
  kMv_of (own := "MountainFarmsModel") (plainFor_of_name (by decide)) rfl rfl (fun p e s m args below meth c ls X hV hl => t_M_putTenths X hf hV hl)
set_option maxHeartbeats 2000000 in
set_option maxRecDepth 20000 in
theorem t_M_tenths_3 {l : Launch} {p : Program} {e : Env} {s : State} {m : MethodId} {args : Array Value} {below : List Frame} {meth : Method} {c : Code} {D : kD} {wc0 : va_W} {h : Nat} {h_now : Nat} {h_kept : Nat} {h_aside : Nat} {h_found : Nat} {h_down : Nat} {h_along : Nat} {h_parts : Nat} {h_gone : Nat} {h_tape : Nat} {h_kinds : Nat} {h_items : Nat} {h_widths : Nat} {h_sizes : Nat} {h_numbers : Nat} {h_moved : Nat} {v_isKept : Int32} {v_taped : Int32} {v_begins : Int32} {v_ends : Int32} {v_sort : Int32} {v_value : Int32} {v_isWrong : Int32} {v_itemMany : Int32} {v_farmMany : Int32} {v_farmCells : Int64} {v_now : Nat → Int32} {v_found : Nat → Int32} {out : Int32 × (Nat → Int32) × (Nat → Int32)} (X : kX p m meth c s args D (va_A wc0 s.heap.size) b_M_tenths "MountainFarmsModel" 9 (some .int)) (hf : f_M_tenths_3 v_now v_found = some out) {H : Heap} {locs : List Loc} (hV : kV D (va_A wc0 s.heap.size) s (wd_M_tenths D h h_now h_kept h_aside h_found h_down h_along h_parts h_gone h_tape h_kinds h_items h_widths h_sizes h_numbers h_moved v_isKept v_taped v_begins v_ends v_sort v_value v_isWrong v_itemMany v_farmMany v_farmCells v_now v_found) H locs) {ls : Array Slot} (hl : lv_has ls 9 [(0, .ref h)]) : W p l e { frames := 2, cells := 0, slots := 0, locals := 42 } s m args below meth c H locs 0 0 (MQ below (kQi D wc0 (wd_M_tenths D h h_now h_kept h_aside h_found h_down h_along h_parts h_gone h_tape h_kinds h_items h_widths h_sizes h_numbers h_moved v_isKept v_taped v_begins v_ends v_sort v_value v_isWrong v_itemMany v_farmMany v_farmCells out.2.1 out.2.2) s.heap.size out.1) args s 0 0 (va_A wc0 s.heap.size)) (F0 m 72 ls []) := by
  unfold f_M_tenths_3 at hf
  obtain ⟨hx, hb, -⟩ := id X
  refine lv_aload_n hx hb d_M_tenths_72 rfl (lv_at hl 0 rfl) ?_
  refine k_ldc (v := (-1000000001)) X gw_973 d_M_tenths_73 ?_
  obtain ⟨r_45, v_found_46, hc_47, hf⟩ := kb2_some hf
  refine k_cvi (w1 := (wd_M_finding D h h_now h_kept h_aside h_found h_down h_along h_parts h_gone h_tape h_kinds h_items h_widths h_sizes h_numbers h_moved v_isKept v_taped v_begins v_ends v_sort v_value v_isWrong v_itemMany v_farmMany v_farmCells v_found_46)) (r := r_45) (ws' := (wd_M_tenths D h h_now h_kept h_aside h_found h_down h_along h_parts h_gone h_tape h_kinds h_items h_widths h_sizes h_numbers h_moved v_isKept v_taped v_begins v_ends v_sort v_value v_isWrong v_itemMany v_farmMany v_farmCells v_now v_found_46)) X hV hl.1 (c_M_finding D h h_now h_kept h_aside h_found h_down h_along h_parts h_gone h_tape h_kinds h_items h_widths h_sizes h_numbers h_moved v_isKept v_taped v_begins v_ends v_sort v_value v_isWrong v_itemMany v_farmMany v_farmCells v_found (-1000000001 : Int32) hc_47) fk_M_finding gw_974 rfl 0 9 rfl rfl [0, 2] [some 0, none, some 1] rfl rfl ⟨rfl, rfl, rfl, rfl, rfl, rfl, rfl, trivial⟩ rfl rfl rfl d_M_tenths_75 (fun H locs hV => ?_)
  have e_ := Option.some.inj hf
  subst e_
  exact k_iret X rfl hV rfl d_M_tenths_78
set_option maxHeartbeats 2000000 in
set_option maxRecDepth 20000 in
theorem t_M_tenths_4 {l : Launch} {p : Program} {e : Env} {s : State} {m : MethodId} {args : Array Value} {below : List Frame} {meth : Method} {c : Code} {D : kD} {wc0 : va_W} {h : Nat} {h_now : Nat} {h_kept : Nat} {h_aside : Nat} {h_found : Nat} {h_down : Nat} {h_along : Nat} {h_parts : Nat} {h_gone : Nat} {h_tape : Nat} {h_kinds : Nat} {h_items : Nat} {h_widths : Nat} {h_sizes : Nat} {h_numbers : Nat} {h_moved : Nat} {v_isKept : Int32} {v_taped : Int32} {v_begins : Int32} {v_ends : Int32} {v_sort : Int32} {v_value : Int32} {v_isWrong : Int32} {v_itemMany : Int32} {v_farmMany : Int32} {v_farmCells : Int64} {v_now : Nat → Int32} {v_found : Nat → Int32} {s0 : Int32} {x2 : Int32} {x3 : Int32} {x4 : Int32} {x5 : Int32} {out : Int32 × (Nat → Int32) × (Nat → Int32)} (X : kX p m meth c s args D (va_A wc0 s.heap.size) b_M_tenths "MountainFarmsModel" 9 (some .int)) (hf : f_M_tenths_4 s0 x2 x3 x4 x5 v_now v_found = some out) {H : Heap} {locs : List Loc} (hV : kV D (va_A wc0 s.heap.size) s (wd_M_tenths D h h_now h_kept h_aside h_found h_down h_along h_parts h_gone h_tape h_kinds h_items h_widths h_sizes h_numbers h_moved v_isKept v_taped v_begins v_ends v_sort v_value v_isWrong v_itemMany v_farmMany v_farmCells v_now v_found) H locs) {ls : Array Slot} (hl : lv_has ls 9 [(0, .ref h), (2, .int x2), (3, .int x3), (4, .int x4), (5, .int x5)]) : W p l e { frames := 2, cells := 0, slots := 0, locals := 42 } s m args below meth c H locs 0 0 (MQ below (kQi D wc0 (wd_M_tenths D h h_now h_kept h_aside h_found h_down h_along h_parts h_gone h_tape h_kinds h_items h_widths h_sizes h_numbers h_moved v_isKept v_taped v_begins v_ends v_sort v_value v_isWrong v_itemMany v_farmMany v_farmCells out.2.1 out.2.2) s.heap.size out.1) args s 0 0 (va_A wc0 s.heap.size)) (F0 m 90 ls [.int s0]) := by
  unfold f_M_tenths_4 at hf
  obtain ⟨hx, hb, -⟩ := id X
  refine lv_iconst (v := 4) hx hb d_M_tenths_90 ic_4 ?_
  refine lv_iload_n hx hb d_M_tenths_91 rfl (lv_at hl 1 rfl) ?_
  refine lv_imul hx hb d_M_tenths_92 ?_
  refine lv_iadd hx hb d_M_tenths_93 ?_
  refine k_leti hf (fun x7_48 hf => ?_)
  refine lv_istore (lv' := [(7, .int x7_48), (0, .ref h), (2, .int x2), (3, .int x3), (4, .int x4), (5, .int x5)]) hx hb d_M_tenths_94 hl (by decide) rfl (fun ls hl => ?_)
  refine lv_aload_n hx hb d_M_tenths_96 rfl (lv_at hl 1 rfl) ?_
  refine k_get X hV 0 9 0 rfl rfl rfl gw_887 rfl rfl d_M_tenths_97 ?_
  refine lv_iload hx hb d_M_tenths_100 (lv_at hl 0 rfl) ?_
  obtain ⟨h_49, hf⟩ := kidx_some hf
  refine k_iald X hV 1 rfl h_49 rfl d_M_tenths_102 ?_
  refine k_leti hf (fun x8_50 hf => ?_)
  refine lv_istore (lv' := [(8, .int x8_50), (7, .int x7_48), (0, .ref h), (2, .int x2), (3, .int x3), (4, .int x4), (5, .int x5)]) hx hb d_M_tenths_103 hl (by decide) rfl (fun ls hl => ?_)
  refine lv_aload_n hx hb d_M_tenths_105 rfl (lv_at hl 2 rfl) ?_
  refine lv_iload hx hb d_M_tenths_106 (lv_at hl 1 rfl) ?_
  refine lv_iload_n hx hb d_M_tenths_108 rfl (lv_at hl 4 rfl) ?_
  refine lv_iload hx hb d_M_tenths_109 (lv_at hl 5 rfl) ?_
  refine lv_iload hx hb d_M_tenths_111 (lv_at hl 6 rfl) ?_
  obtain ⟨v_now_51, hc_52, hf⟩ := kb1_some hf
  refine k_cvv (w1 := (wd_M_putTenths D h h_now h_kept h_aside h_found h_down h_along h_parts h_gone h_tape h_kinds h_items h_widths h_sizes h_numbers h_moved v_isKept v_taped v_begins v_ends v_sort v_value v_isWrong v_itemMany v_farmMany v_farmCells v_now_51)) (ws' := (wd_M_tenths D h h_now h_kept h_aside h_found h_down h_along h_parts h_gone h_tape h_kinds h_items h_widths h_sizes h_numbers h_moved v_isKept v_taped v_begins v_ends v_sort v_value v_isWrong v_itemMany v_farmMany v_farmCells v_now_51 v_found)) X hV hl.1 (c_M_putTenths D h h_now h_kept h_aside h_found h_down h_along h_parts h_gone h_tape h_kinds h_items h_widths h_sizes h_numbers h_moved v_isKept v_taped v_begins v_ends v_sort v_value v_isWrong v_itemMany v_farmMany v_farmCells v_now x7_48 x3 x4 x5 hc_52) fk_M_putTenths gw_1086 rfl 0 9 rfl rfl [0, 1] [some 0, some 1, none] rfl rfl ⟨rfl, rfl, rfl, rfl, rfl, rfl, rfl, trivial⟩ rfl rfl rfl d_M_tenths_113 (fun H locs hV => ?_)
  refine lv_iload hx hb d_M_tenths_116 (lv_at hl 0 rfl) ?_
  have e_ := Option.some.inj hf
  subst e_
  exact k_iret X rfl hV rfl d_M_tenths_118
set_option maxHeartbeats 2000000 in
set_option maxRecDepth 20000 in
theorem t_M_tenths_2 {l : Launch} {p : Program} {e : Env} {s : State} {m : MethodId} {args : Array Value} {below : List Frame} {meth : Method} {c : Code} {D : kD} {wc0 : va_W} {h : Nat} {h_now : Nat} {h_kept : Nat} {h_aside : Nat} {h_found : Nat} {h_down : Nat} {h_along : Nat} {h_parts : Nat} {h_gone : Nat} {h_tape : Nat} {h_kinds : Nat} {h_items : Nat} {h_widths : Nat} {h_sizes : Nat} {h_numbers : Nat} {h_moved : Nat} {v_isKept : Int32} {v_taped : Int32} {v_begins : Int32} {v_ends : Int32} {v_sort : Int32} {v_value : Int32} {v_isWrong : Int32} {v_itemMany : Int32} {v_farmMany : Int32} {v_farmCells : Int64} {v_now : Nat → Int32} {v_found : Nat → Int32} {s0 : Int32} {x1 : Int32} {x2 : Int32} {x3 : Int32} {x4 : Int32} {x5 : Int32} {out : Int32 × (Nat → Int32) × (Nat → Int32)} (X : kX p m meth c s args D (va_A wc0 s.heap.size) b_M_tenths "MountainFarmsModel" 9 (some .int)) (hf : f_M_tenths_2 s0 x1 x2 x3 x4 x5 v_now v_found = some out) {H : Heap} {locs : List Loc} (hV : kV D (va_A wc0 s.heap.size) s (wd_M_tenths D h h_now h_kept h_aside h_found h_down h_along h_parts h_gone h_tape h_kinds h_items h_widths h_sizes h_numbers h_moved v_isKept v_taped v_begins v_ends v_sort v_value v_isWrong v_itemMany v_farmMany v_farmCells v_now v_found) H locs) {ls : Array Slot} (hl : lv_has ls 9 [(0, .ref h), (1, .int x1), (2, .int x2), (3, .int x3), (4, .int x4), (5, .int x5)]) : W p l e { frames := 2, cells := 0, slots := 0, locals := 42 } s m args below meth c H locs 0 0 (MQ below (kQi D wc0 (wd_M_tenths D h h_now h_kept h_aside h_found h_down h_along h_parts h_gone h_tape h_kinds h_items h_widths h_sizes h_numbers h_moved v_isKept v_taped v_begins v_ends v_sort v_value v_isWrong v_itemMany v_farmMany v_farmCells out.2.1 out.2.2) s.heap.size out.1) args s 0 0 (va_A wc0 s.heap.size)) (F0 m 49 ls [.int s0]) := by
  unfold f_M_tenths_2 at hf
  obtain ⟨hx, hb, -⟩ := id X
  refine lv_istore (lv' := [(6, .int s0), (0, .ref h), (1, .int x1), (2, .int x2), (3, .int x3), (4, .int x4), (5, .int x5)]) hx hb d_M_tenths_49 hl (by decide) rfl (fun ls hl => ?_)
  refine lv_iload_n hx hb d_M_tenths_51 rfl (lv_at hl 2 rfl) ?_
  refine lv_iconst (v := 0) hx hb d_M_tenths_52 ic_0 ?_
  refine lv_iconst (v := 1) hx hb d_M_tenths_53 ic_1 ?_
  obtain ⟨r_37, hc_38, hf⟩ := kb1_some hf
  refine k_csi (w1 := (wd_M_within D)) (r := r_37) (ws' := (wd_M_tenths D h h_now h_kept h_aside h_found h_down h_along h_parts h_gone h_tape h_kinds h_items h_widths h_sizes h_numbers h_moved v_isKept v_taped v_begins v_ends v_sort v_value v_isWrong v_itemMany v_farmMany v_farmCells v_now v_found)) X hV hl.1 (c_M_within D x1 (0 : Int32) (1 : Int32) hc_38) fk_M_within gw_970 rfl [] [none, none, none] rfl rfl ⟨rfl, rfl, rfl, trivial⟩ rfl rfl rfl d_M_tenths_54 (fun H locs hV => ?_)
  refine lv_if_eq (tgt := 72) hx hb d_M_tenths_57 (by decide) (fun c_39 => ?_) (fun c_39 => ?_)
  · replace hf := kifp c_39 hf
    exact t_M_tenths_3 X hf hV (lv_sub hl [1] rfl)
  replace hf := kifn c_39 hf
  refine lv_iload_n hx hb d_M_tenths_60 rfl (lv_at hl 3 rfl) ?_
  obtain ⟨r_40, hc_41, hf⟩ := kb1_some hf
  refine k_csi (w1 := (wd_M_isState D)) (r := r_40) (ws' := (wd_M_tenths D h h_now h_kept h_aside h_found h_down h_along h_parts h_gone h_tape h_kinds h_items h_widths h_sizes h_numbers h_moved v_isKept v_taped v_begins v_ends v_sort v_value v_isWrong v_itemMany v_farmMany v_farmCells v_now v_found)) X hV hl.1 (c_M_isState D x2 hc_41) fk_M_isState gw_1083 rfl [] [none, none, none] rfl rfl ⟨rfl, rfl, rfl, trivial⟩ rfl rfl rfl d_M_tenths_61 (fun H locs hV => ?_)
  refine lv_if_eq (tgt := 72) hx hb d_M_tenths_64 (by decide) (fun c_42 => ?_) (fun c_42 => ?_)
  · replace hf := kifp c_42 hf
    exact t_M_tenths_3 X hf hV (lv_sub hl [1] rfl)
  replace hf := kifn c_42 hf
  refine lv_iload hx hb d_M_tenths_67 (lv_at hl 0 rfl) ?_
  refine lv_if_ne (tgt := 79) hx hb d_M_tenths_69 (by decide) (fun c_43 => ?_) (fun c_43 => ?_)
  · replace hf := kifn c_43 hf
    refine lv_iload_n hx hb d_M_tenths_79 rfl (lv_at hl 2 rfl) ?_
    refine lv_if_ne (tgt := 88) hx hb d_M_tenths_80 (by decide) (fun c_44 => ?_) (fun c_44 => ?_)
    · replace hf := kifn c_44 hf
      refine lv_bipush (v := 34) hx hb d_M_tenths_88 bp_34 ?_
      exact t_M_tenths_4 X hf hV (lv_sub hl [1, 3, 4, 5, 6] rfl)
    replace hf := kifp c_44 hf
    refine lv_bipush (v := 18) hx hb d_M_tenths_83 bp_18 ?_
    refine lv_goto (tgt := 90) hx hb d_M_tenths_85 (by decide) ?_
    exact t_M_tenths_4 X hf hV (lv_sub hl [1, 3, 4, 5, 6] rfl)
  replace hf := kifp c_43 hf
  exact t_M_tenths_3 X hf hV (lv_sub hl [1] rfl)
set_option maxHeartbeats 2000000 in
set_option maxRecDepth 20000 in
theorem t_M_tenths_1 {l : Launch} {p : Program} {e : Env} {s : State} {m : MethodId} {args : Array Value} {below : List Frame} {meth : Method} {c : Code} {D : kD} {wc0 : va_W} {h : Nat} {h_now : Nat} {h_kept : Nat} {h_aside : Nat} {h_found : Nat} {h_down : Nat} {h_along : Nat} {h_parts : Nat} {h_gone : Nat} {h_tape : Nat} {h_kinds : Nat} {h_items : Nat} {h_widths : Nat} {h_sizes : Nat} {h_numbers : Nat} {h_moved : Nat} {v_isKept : Int32} {v_taped : Int32} {v_begins : Int32} {v_ends : Int32} {v_sort : Int32} {v_value : Int32} {v_isWrong : Int32} {v_itemMany : Int32} {v_farmMany : Int32} {v_farmCells : Int64} {v_now : Nat → Int32} {v_found : Nat → Int32} {x1 : Int32} {x2 : Int32} {x3 : Int32} {x4 : Int32} {x5 : Int32} {out : Int32 × (Nat → Int32) × (Nat → Int32)} (X : kX p m meth c s args D (va_A wc0 s.heap.size) b_M_tenths "MountainFarmsModel" 9 (some .int)) (hf : f_M_tenths_1 x1 x2 x3 x4 x5 v_now v_found = some out) {H : Heap} {locs : List Loc} (hV : kV D (va_A wc0 s.heap.size) s (wd_M_tenths D h h_now h_kept h_aside h_found h_down h_along h_parts h_gone h_tape h_kinds h_items h_widths h_sizes h_numbers h_moved v_isKept v_taped v_begins v_ends v_sort v_value v_isWrong v_itemMany v_farmMany v_farmCells v_now v_found) H locs) {ls : Array Slot} (hl : lv_has ls 9 [(0, .ref h), (1, .int x1), (2, .int x2), (3, .int x3), (4, .int x4), (5, .int x5)]) : W p l e { frames := 2, cells := 0, slots := 0, locals := 42 } s m args below meth c H locs 0 0 (MQ below (kQi D wc0 (wd_M_tenths D h h_now h_kept h_aside h_found h_down h_along h_parts h_gone h_tape h_kinds h_items h_widths h_sizes h_numbers h_moved v_isKept v_taped v_begins v_ends v_sort v_value v_isWrong v_itemMany v_farmMany v_farmCells out.2.1 out.2.2) s.heap.size out.1) args s 0 0 (va_A wc0 s.heap.size)) (F0 m 48 ls []) := by
  unfold f_M_tenths_1 at hf
  obtain ⟨hx, hb, -⟩ := id X
  refine lv_iconst (v := 0) hx hb d_M_tenths_48 ic_0 ?_
  exact t_M_tenths_2 X hf hV (lv_sub hl [0, 1, 2, 3, 4, 5] rfl)
set_option maxHeartbeats 2000000 in
set_option maxRecDepth 20000 in
theorem t_M_tenths {l : Launch} {p : Program} {e : Env} {s : State} {m : MethodId} {args : Array Value} {below : List Frame} {meth : Method} {c : Code} {D : kD} {wc0 : va_W} {h : Nat} {h_now : Nat} {h_kept : Nat} {h_aside : Nat} {h_found : Nat} {h_down : Nat} {h_along : Nat} {h_parts : Nat} {h_gone : Nat} {h_tape : Nat} {h_kinds : Nat} {h_items : Nat} {h_widths : Nat} {h_sizes : Nat} {h_numbers : Nat} {h_moved : Nat} {v_isKept : Int32} {v_taped : Int32} {v_begins : Int32} {v_ends : Int32} {v_sort : Int32} {v_value : Int32} {v_isWrong : Int32} {v_itemMany : Int32} {v_farmMany : Int32} {v_farmCells : Int64} {v_now : Nat → Int32} {v_found : Nat → Int32} {x1 : Int32} {x2 : Int32} {x3 : Int32} {x4 : Int32} {x5 : Int32} {out : Int32 × (Nat → Int32) × (Nat → Int32)} (X : kX p m meth c s args D (va_A wc0 s.heap.size) b_M_tenths "MountainFarmsModel" 9 (some .int)) (hf : f_M_tenths v_now v_found x1 x2 x3 x4 x5 = some out) {H : Heap} {locs : List Loc} (hV : kV D (va_A wc0 s.heap.size) s (wd_M_tenths D h h_now h_kept h_aside h_found h_down h_along h_parts h_gone h_tape h_kinds h_items h_widths h_sizes h_numbers h_moved v_isKept v_taped v_begins v_ends v_sort v_value v_isWrong v_itemMany v_farmMany v_farmCells v_now v_found) H locs) {ls : Array Slot} (hl : lv_has ls 9 [(0, .ref h), (1, .int x1), (2, .int x2), (3, .int x3), (4, .int x4), (5, .int x5)]) : W p l e { frames := 2, cells := 0, slots := 0, locals := 42 } s m args below meth c H locs 0 0 (MQ below (kQi D wc0 (wd_M_tenths D h h_now h_kept h_aside h_found h_down h_along h_parts h_gone h_tape h_kinds h_items h_widths h_sizes h_numbers h_moved v_isKept v_taped v_begins v_ends v_sort v_value v_isWrong v_itemMany v_farmMany v_farmCells out.2.1 out.2.2) s.heap.size out.1) args s 0 0 (va_A wc0 s.heap.size)) (F0 m 0 ls []) := by
  unfold f_M_tenths at hf
  obtain ⟨hx, hb, -⟩ := id X
  refine lv_iload_n hx hb d_M_tenths_0 rfl (lv_at hl 3 rfl) ?_
  refine lv_iconst (v := 0) hx hb d_M_tenths_1 ic_0 ?_
  refine lv_bipush (v := 10) hx hb d_M_tenths_2 bp_10 ?_
  obtain ⟨r_27, hc_28, hf⟩ := kb1_some hf
  refine k_csi (w1 := (wd_M_within D)) (r := r_27) (ws' := (wd_M_tenths D h h_now h_kept h_aside h_found h_down h_along h_parts h_gone h_tape h_kinds h_items h_widths h_sizes h_numbers h_moved v_isKept v_taped v_begins v_ends v_sort v_value v_isWrong v_itemMany v_farmMany v_farmCells v_now v_found)) X hV hl.1 (c_M_within D x3 (0 : Int32) (10 : Int32) hc_28) fk_M_within gw_970 rfl [] [none, none, none] rfl rfl ⟨rfl, rfl, rfl, trivial⟩ rfl rfl rfl d_M_tenths_4 (fun H locs hV => ?_)
  refine lv_if_eq (tgt := 48) hx hb d_M_tenths_7 (by decide) (fun c_29 => ?_) (fun c_29 => ?_)
  · replace hf := kifp c_29 hf
    exact t_M_tenths_1 X hf hV (lv_sub hl [0, 1, 2, 3, 4, 5] rfl)
  replace hf := kifn c_29 hf
  refine lv_iload hx hb d_M_tenths_10 (lv_at hl 4 rfl) ?_
  refine lv_iconst (v := 0) hx hb d_M_tenths_12 ic_0 ?_
  refine lv_bipush (v := 10) hx hb d_M_tenths_13 bp_10 ?_
  obtain ⟨r_30, hc_31, hf⟩ := kb1_some hf
  refine k_csi (w1 := (wd_M_within D)) (r := r_30) (ws' := (wd_M_tenths D h h_now h_kept h_aside h_found h_down h_along h_parts h_gone h_tape h_kinds h_items h_widths h_sizes h_numbers h_moved v_isKept v_taped v_begins v_ends v_sort v_value v_isWrong v_itemMany v_farmMany v_farmCells v_now v_found)) X hV hl.1 (c_M_within D x4 (0 : Int32) (10 : Int32) hc_31) fk_M_within gw_970 rfl [] [none, none, none] rfl rfl ⟨rfl, rfl, rfl, trivial⟩ rfl rfl rfl d_M_tenths_15 (fun H locs hV => ?_)
  refine lv_if_eq (tgt := 48) hx hb d_M_tenths_18 (by decide) (fun c_32 => ?_) (fun c_32 => ?_)
  · replace hf := kifp c_32 hf
    exact t_M_tenths_1 X hf hV (lv_sub hl [0, 1, 2, 3, 4, 5] rfl)
  replace hf := kifn c_32 hf
  refine lv_iload hx hb d_M_tenths_21 (lv_at hl 5 rfl) ?_
  refine lv_iconst (v := 0) hx hb d_M_tenths_23 ic_0 ?_
  refine lv_bipush (v := 10) hx hb d_M_tenths_24 bp_10 ?_
  obtain ⟨r_33, hc_34, hf⟩ := kb1_some hf
  refine k_csi (w1 := (wd_M_within D)) (r := r_33) (ws' := (wd_M_tenths D h h_now h_kept h_aside h_found h_down h_along h_parts h_gone h_tape h_kinds h_items h_widths h_sizes h_numbers h_moved v_isKept v_taped v_begins v_ends v_sort v_value v_isWrong v_itemMany v_farmMany v_farmCells v_now v_found)) X hV hl.1 (c_M_within D x5 (0 : Int32) (10 : Int32) hc_34) fk_M_within gw_970 rfl [] [none, none, none] rfl rfl ⟨rfl, rfl, rfl, trivial⟩ rfl rfl rfl d_M_tenths_26 (fun H locs hV => ?_)
  refine lv_if_eq (tgt := 48) hx hb d_M_tenths_29 (by decide) (fun c_35 => ?_) (fun c_35 => ?_)
  · replace hf := kifp c_35 hf
    exact t_M_tenths_1 X hf hV (lv_sub hl [0, 1, 2, 3, 4, 5] rfl)
  replace hf := kifn c_35 hf
  refine lv_iload_n hx hb d_M_tenths_32 rfl (lv_at hl 3 rfl) ?_
  refine lv_iload hx hb d_M_tenths_33 (lv_at hl 4 rfl) ?_
  refine lv_iadd hx hb d_M_tenths_35 ?_
  refine lv_iload hx hb d_M_tenths_36 (lv_at hl 5 rfl) ?_
  refine lv_iadd hx hb d_M_tenths_38 ?_
  refine lv_bipush (v := 10) hx hb d_M_tenths_39 bp_10 ?_
  refine lv_icmp_gt (tgt := 48) hx hb d_M_tenths_41 (by decide) (fun c_36 => ?_) (fun c_36 => ?_)
  · replace hf := kifp c_36 hf
    exact t_M_tenths_1 X hf hV (lv_sub hl [0, 1, 2, 3, 4, 5] rfl)
  replace hf := kifn c_36 hf
  refine lv_iconst (v := 1) hx hb d_M_tenths_44 ic_1 ?_
  refine lv_goto (tgt := 49) hx hb d_M_tenths_45 (by decide) ?_
  exact t_M_tenths_2 X hf hV (lv_sub hl [0, 1, 2, 3, 4, 5] rfl)
set_option maxHeartbeats 2000000 in
set_option maxRecDepth 20000 in
theorem c_M_tenths {l : Launch} (D : kD) (h : Nat) (h_now : Nat) (h_kept : Nat) (h_aside : Nat) (h_found : Nat) (h_down : Nat) (h_along : Nat) (h_parts : Nat) (h_gone : Nat) (h_tape : Nat) (h_kinds : Nat) (h_items : Nat) (h_widths : Nat) (h_sizes : Nat) (h_numbers : Nat) (h_moved : Nat) (v_isKept : Int32) (v_taped : Int32) (v_begins : Int32) (v_ends : Int32) (v_sort : Int32) (v_value : Int32) (v_isWrong : Int32) (v_itemMany : Int32) (v_farmMany : Int32) (v_farmCells : Int64) (v_now : Nat → Int32) (v_found : Nat → Int32) (x1 : Int32) (x2 : Int32) (x3 : Int32) (x4 : Int32) (x5 : Int32) {out : Int32 × (Nat → Int32) × (Nat → Int32)} (hf : f_M_tenths v_now v_found x1 x2 x3 x4 x5 = some out) : kMi l D y_M_tenths b_M_tenths 9 (some .int) { frames := 2, cells := 0, slots := 0, locals := 42 } [.ref h, .int x1, .int x2, .int x3, .int x4, .int x5] (wd_M_tenths D h h_now h_kept h_aside h_found h_down h_along h_parts h_gone h_tape h_kinds h_items h_widths h_sizes h_numbers h_moved v_isKept v_taped v_begins v_ends v_sort v_value v_isWrong v_itemMany v_farmMany v_farmCells v_now v_found) (wd_M_tenths D h h_now h_kept h_aside h_found h_down h_along h_parts h_gone h_tape h_kinds h_items h_widths h_sizes h_numbers h_moved v_isKept v_taped v_begins v_ends v_sort v_value v_isWrong v_itemMany v_farmMany v_farmCells out.2.1 out.2.2) out.1 :=
  kMi_of (own := "MountainFarmsModel") (plainFor_of_name (by decide)) rfl rfl (fun p e s m args below meth c ls X hV hl => t_M_tenths X hf hV hl)
set_option maxHeartbeats 2000000 in
set_option maxRecDepth 20000 in
theorem t_M_tenth_2 {l : Launch} {p : Program} {e : Env} {s : State} {m : MethodId} {args : Array Value} {below : List Frame} {meth : Method} {c : Code} {D : kD} {wc0 : va_W} {h : Nat} {h_now : Nat} {h_kept : Nat} {h_aside : Nat} {h_found : Nat} {h_down : Nat} {h_along : Nat} {h_parts : Nat} {h_gone : Nat} {h_tape : Nat} {h_kinds : Nat} {h_items : Nat} {h_widths : Nat} {h_sizes : Nat} {h_numbers : Nat} {h_moved : Nat} {v_isKept : Int32} {v_taped : Int32} {v_begins : Int32} {v_ends : Int32} {v_sort : Int32} {v_value : Int32} {v_isWrong : Int32} {v_itemMany : Int32} {v_farmMany : Int32} {v_farmCells : Int64} {v_now : Nat → Int32} {v_found : Nat → Int32} {out : Int32 × (Nat → Int32)} (X : kX p m meth c s args D (va_A wc0 s.heap.size) b_M_tenth "MountainFarmsModel" 4 (some .int)) (hf : f_M_tenth_2 v_found = some out) {H : Heap} {locs : List Loc} (hV : kV D (va_A wc0 s.heap.size) s (wd_M_tenth D h h_now h_kept h_aside h_found h_down h_along h_parts h_gone h_tape h_kinds h_items h_widths h_sizes h_numbers h_moved v_isKept v_taped v_begins v_ends v_sort v_value v_isWrong v_itemMany v_farmMany v_farmCells v_now v_found) H locs) {ls : Array Slot} (hl : lv_has ls 4 [(0, .ref h)]) : W p l e { frames := 2, cells := 0, slots := 0, locals := 42 } s m args below meth c H locs 0 0 (MQ below (kQi D wc0 (wd_M_tenth D h h_now h_kept h_aside h_found h_down h_along h_parts h_gone h_tape h_kinds h_items h_widths h_sizes h_numbers h_moved v_isKept v_taped v_begins v_ends v_sort v_value v_isWrong v_itemMany v_farmMany v_farmCells v_now out.2) s.heap.size out.1) args s 0 0 (va_A wc0 s.heap.size)) (F0 m 48 ls []) := by
  unfold f_M_tenth_2 at hf
  obtain ⟨hx, hb, -⟩ := id X
  refine lv_aload_n hx hb d_M_tenth_48 rfl (lv_at hl 0 rfl) ?_
  refine k_ldc (v := (-1000000001)) X gw_973 d_M_tenth_49 ?_
  obtain ⟨r_26, v_found_27, hc_28, hf⟩ := kb2_some hf
  refine k_cvi (w1 := (wd_M_finding D h h_now h_kept h_aside h_found h_down h_along h_parts h_gone h_tape h_kinds h_items h_widths h_sizes h_numbers h_moved v_isKept v_taped v_begins v_ends v_sort v_value v_isWrong v_itemMany v_farmMany v_farmCells v_found_27)) (r := r_26) (ws' := (wd_M_tenth D h h_now h_kept h_aside h_found h_down h_along h_parts h_gone h_tape h_kinds h_items h_widths h_sizes h_numbers h_moved v_isKept v_taped v_begins v_ends v_sort v_value v_isWrong v_itemMany v_farmMany v_farmCells v_now v_found_27)) X hV hl.1 (c_M_finding D h h_now h_kept h_aside h_found h_down h_along h_parts h_gone h_tape h_kinds h_items h_widths h_sizes h_numbers h_moved v_isKept v_taped v_begins v_ends v_sort v_value v_isWrong v_itemMany v_farmMany v_farmCells v_found (-1000000001 : Int32) hc_28) fk_M_finding gw_974 rfl 0 9 rfl rfl [0, 2] [some 0, none, some 1] rfl rfl ⟨rfl, rfl, rfl, rfl, rfl, rfl, rfl, trivial⟩ rfl rfl rfl d_M_tenth_51 (fun H locs hV => ?_)
  have e_ := Option.some.inj hf
  subst e_
  exact k_iret X rfl hV rfl d_M_tenth_54
set_option maxHeartbeats 2000000 in
set_option maxRecDepth 20000 in
theorem t_M_tenth_1 {l : Launch} {p : Program} {e : Env} {s : State} {m : MethodId} {args : Array Value} {below : List Frame} {meth : Method} {c : Code} {D : kD} {wc0 : va_W} {h : Nat} {h_now : Nat} {h_kept : Nat} {h_aside : Nat} {h_found : Nat} {h_down : Nat} {h_along : Nat} {h_parts : Nat} {h_gone : Nat} {h_tape : Nat} {h_kinds : Nat} {h_items : Nat} {h_widths : Nat} {h_sizes : Nat} {h_numbers : Nat} {h_moved : Nat} {v_isKept : Int32} {v_taped : Int32} {v_begins : Int32} {v_ends : Int32} {v_sort : Int32} {v_value : Int32} {v_isWrong : Int32} {v_itemMany : Int32} {v_farmMany : Int32} {v_farmCells : Int64} {v_now : Nat → Int32} {v_found : Nat → Int32} {s1 : Int32} {x2 : Int32} {x3 : Int32} {out : Int32 × (Nat → Int32)} (X : kX p m meth c s args D (va_A wc0 s.heap.size) b_M_tenth "MountainFarmsModel" 4 (some .int)) (hf : f_M_tenth_1 s1 x2 x3 v_now v_found = some out) {H : Heap} {locs : List Loc} (hV : kV D (va_A wc0 s.heap.size) s (wd_M_tenth D h h_now h_kept h_aside h_found h_down h_along h_parts h_gone h_tape h_kinds h_items h_widths h_sizes h_numbers h_moved v_isKept v_taped v_begins v_ends v_sort v_value v_isWrong v_itemMany v_farmMany v_farmCells v_now v_found) H locs) {ls : Array Slot} (hl : lv_has ls 4 [(2, .int x2), (3, .int x3)]) : W p l e { frames := 2, cells := 0, slots := 0, locals := 42 } s m args below meth c H locs 0 0 (MQ below (kQi D wc0 (wd_M_tenth D h h_now h_kept h_aside h_found h_down h_along h_parts h_gone h_tape h_kinds h_items h_widths h_sizes h_numbers h_moved v_isKept v_taped v_begins v_ends v_sort v_value v_isWrong v_itemMany v_farmMany v_farmCells v_now out.2) s.heap.size out.1) args s 0 0 (va_A wc0 s.heap.size)) (F0 m 38 ls [.int s1, .ref h_now]) := by
  unfold f_M_tenth_1 at hf
  obtain ⟨hx, hb, -⟩ := id X
  refine lv_iconst (v := 4) hx hb d_M_tenth_38 ic_4 ?_
  refine lv_iload_n hx hb d_M_tenth_39 rfl (lv_at hl 0 rfl) ?_
  refine lv_imul hx hb d_M_tenth_40 ?_
  refine lv_iadd hx hb d_M_tenth_41 ?_
  refine lv_iload_n hx hb d_M_tenth_42 rfl (lv_at hl 1 rfl) ?_
  refine lv_iadd hx hb d_M_tenth_43 ?_
  obtain ⟨h_25, hf⟩ := kidx_some hf
  refine k_iald X hV 1 rfl h_25 rfl d_M_tenth_44 ?_
  refine lv_goto (tgt := 54) hx hb d_M_tenth_45 (by decide) ?_
  have e_ := Option.some.inj hf
  subst e_
  exact k_iret X rfl hV rfl d_M_tenth_54
set_option maxHeartbeats 2000000 in
set_option maxRecDepth 20000 in
theorem t_M_tenth {l : Launch} {p : Program} {e : Env} {s : State} {m : MethodId} {args : Array Value} {below : List Frame} {meth : Method} {c : Code} {D : kD} {wc0 : va_W} {h : Nat} {h_now : Nat} {h_kept : Nat} {h_aside : Nat} {h_found : Nat} {h_down : Nat} {h_along : Nat} {h_parts : Nat} {h_gone : Nat} {h_tape : Nat} {h_kinds : Nat} {h_items : Nat} {h_widths : Nat} {h_sizes : Nat} {h_numbers : Nat} {h_moved : Nat} {v_isKept : Int32} {v_taped : Int32} {v_begins : Int32} {v_ends : Int32} {v_sort : Int32} {v_value : Int32} {v_isWrong : Int32} {v_itemMany : Int32} {v_farmMany : Int32} {v_farmCells : Int64} {v_now : Nat → Int32} {v_found : Nat → Int32} {x1 : Int32} {x2 : Int32} {x3 : Int32} {out : Int32 × (Nat → Int32)} (X : kX p m meth c s args D (va_A wc0 s.heap.size) b_M_tenth "MountainFarmsModel" 4 (some .int)) (hf : f_M_tenth v_now v_found x1 x2 x3 = some out) {H : Heap} {locs : List Loc} (hV : kV D (va_A wc0 s.heap.size) s (wd_M_tenth D h h_now h_kept h_aside h_found h_down h_along h_parts h_gone h_tape h_kinds h_items h_widths h_sizes h_numbers h_moved v_isKept v_taped v_begins v_ends v_sort v_value v_isWrong v_itemMany v_farmMany v_farmCells v_now v_found) H locs) {ls : Array Slot} (hl : lv_has ls 4 [(0, .ref h), (1, .int x1), (2, .int x2), (3, .int x3)]) : W p l e { frames := 2, cells := 0, slots := 0, locals := 42 } s m args below meth c H locs 0 0 (MQ below (kQi D wc0 (wd_M_tenth D h h_now h_kept h_aside h_found h_down h_along h_parts h_gone h_tape h_kinds h_items h_widths h_sizes h_numbers h_moved v_isKept v_taped v_begins v_ends v_sort v_value v_isWrong v_itemMany v_farmMany v_farmCells v_now out.2) s.heap.size out.1) args s 0 0 (va_A wc0 s.heap.size)) (F0 m 0 ls []) := by
  unfold f_M_tenth at hf
  obtain ⟨hx, hb, -⟩ := id X
  refine lv_iload_n hx hb d_M_tenth_0 rfl (lv_at hl 1 rfl) ?_
  refine lv_iconst (v := 0) hx hb d_M_tenth_1 ic_0 ?_
  refine lv_iconst (v := 1) hx hb d_M_tenth_2 ic_1 ?_
  obtain ⟨r_15, hc_16, hf⟩ := kb1_some hf
  refine k_csi (w1 := (wd_M_within D)) (r := r_15) (ws' := (wd_M_tenth D h h_now h_kept h_aside h_found h_down h_along h_parts h_gone h_tape h_kinds h_items h_widths h_sizes h_numbers h_moved v_isKept v_taped v_begins v_ends v_sort v_value v_isWrong v_itemMany v_farmMany v_farmCells v_now v_found)) X hV hl.1 (c_M_within D x1 (0 : Int32) (1 : Int32) hc_16) fk_M_within gw_970 rfl [] [none, none, none] rfl rfl ⟨rfl, rfl, rfl, trivial⟩ rfl rfl rfl d_M_tenth_3 (fun H locs hV => ?_)
  refine lv_if_eq (tgt := 48) hx hb d_M_tenth_6 (by decide) (fun c_17 => ?_) (fun c_17 => ?_)
  · replace hf := kifp c_17 hf
    exact t_M_tenth_2 X hf hV (lv_sub hl [0] rfl)
  replace hf := kifn c_17 hf
  refine lv_iload_n hx hb d_M_tenth_9 rfl (lv_at hl 2 rfl) ?_
  obtain ⟨r_18, hc_19, hf⟩ := kb1_some hf
  refine k_csi (w1 := (wd_M_isState D)) (r := r_18) (ws' := (wd_M_tenth D h h_now h_kept h_aside h_found h_down h_along h_parts h_gone h_tape h_kinds h_items h_widths h_sizes h_numbers h_moved v_isKept v_taped v_begins v_ends v_sort v_value v_isWrong v_itemMany v_farmMany v_farmCells v_now v_found)) X hV hl.1 (c_M_isState D x2 hc_19) fk_M_isState gw_1083 rfl [] [none, none, none] rfl rfl ⟨rfl, rfl, rfl, trivial⟩ rfl rfl rfl d_M_tenth_10 (fun H locs hV => ?_)
  refine lv_if_eq (tgt := 48) hx hb d_M_tenth_13 (by decide) (fun c_20 => ?_) (fun c_20 => ?_)
  · replace hf := kifp c_20 hf
    exact t_M_tenth_2 X hf hV (lv_sub hl [0] rfl)
  replace hf := kifn c_20 hf
  refine lv_iload_n hx hb d_M_tenth_16 rfl (lv_at hl 3 rfl) ?_
  obtain ⟨r_21, hc_22, hf⟩ := kb1_some hf
  refine k_csi (w1 := (wd_M_isState D)) (r := r_21) (ws' := (wd_M_tenth D h h_now h_kept h_aside h_found h_down h_along h_parts h_gone h_tape h_kinds h_items h_widths h_sizes h_numbers h_moved v_isKept v_taped v_begins v_ends v_sort v_value v_isWrong v_itemMany v_farmMany v_farmCells v_now v_found)) X hV hl.1 (c_M_isState D x3 hc_22) fk_M_isState gw_1083 rfl [] [none, none, none] rfl rfl ⟨rfl, rfl, rfl, trivial⟩ rfl rfl rfl d_M_tenth_17 (fun H locs hV => ?_)
  refine lv_if_eq (tgt := 48) hx hb d_M_tenth_20 (by decide) (fun c_23 => ?_) (fun c_23 => ?_)
  · replace hf := kifp c_23 hf
    exact t_M_tenth_2 X hf hV (lv_sub hl [0] rfl)
  replace hf := kifn c_23 hf
  refine lv_aload_n hx hb d_M_tenth_23 rfl (lv_at hl 0 rfl) ?_
  refine k_get X hV 0 9 0 rfl rfl rfl gw_887 rfl rfl d_M_tenth_24 ?_
  refine lv_iload_n hx hb d_M_tenth_27 rfl (lv_at hl 1 rfl) ?_
  refine lv_if_ne (tgt := 36) hx hb d_M_tenth_28 (by decide) (fun c_24 => ?_) (fun c_24 => ?_)
  · replace hf := kifn c_24 hf
    refine lv_bipush (v := 34) hx hb d_M_tenth_36 bp_34 ?_
    exact t_M_tenth_1 X hf hV (lv_sub hl [2, 3] rfl)
  replace hf := kifp c_24 hf
  refine lv_bipush (v := 18) hx hb d_M_tenth_31 bp_18 ?_
  refine lv_goto (tgt := 38) hx hb d_M_tenth_33 (by decide) ?_
  exact t_M_tenth_1 X hf hV (lv_sub hl [2, 3] rfl)
set_option maxHeartbeats 2000000 in
set_option maxRecDepth 20000 in
theorem c_M_tenth {l : Launch} (D : kD) (h : Nat) (h_now : Nat) (h_kept : Nat) (h_aside : Nat) (h_found : Nat) (h_down : Nat) (h_along : Nat) (h_parts : Nat) (h_gone : Nat) (h_tape : Nat) (h_kinds : Nat) (h_items : Nat) (h_widths : Nat) (h_sizes : Nat) (h_numbers : Nat) (h_moved : Nat) (v_isKept : Int32) (v_taped : Int32) (v_begins : Int32) (v_ends : Int32) (v_sort : Int32) (v_value : Int32) (v_isWrong : Int32) (v_itemMany : Int32) (v_farmMany : Int32) (v_farmCells : Int64) (v_now : Nat → Int32) (v_found : Nat → Int32) (x1 : Int32) (x2 : Int32) (x3 : Int32) {out : Int32 × (Nat → Int32)} (hf : f_M_tenth v_now v_found x1 x2 x3 = some out) : kMi l D y_M_tenth b_M_tenth 4 (some .int) { frames := 2, cells := 0, slots := 0, locals := 42 } [.ref h, .int x1, .int x2, .int x3] (wd_M_tenth D h h_now h_kept h_aside h_found h_down h_along h_parts h_gone h_tape h_kinds h_items h_widths h_sizes h_numbers h_moved v_isKept v_taped v_begins v_ends v_sort v_value v_isWrong v_itemMany v_farmMany v_farmCells v_now v_found) (wd_M_tenth D h h_now h_kept h_aside h_found h_down h_along h_parts h_gone h_tape h_kinds h_items h_widths h_sizes h_numbers h_moved v_isKept v_taped v_begins v_ends v_sort v_value v_isWrong v_itemMany v_farmMany v_farmCells v_now out.2) out.1 :=
  kMi_of (own := "MountainFarmsModel") (plainFor_of_name (by decide)) rfl rfl (fun p e s m args below meth c ls X hV hl => t_M_tenth X hf hV hl)
set_option maxHeartbeats 2000000 in
set_option maxRecDepth 20000 in
theorem t_M_sees {l : Launch} {p : Program} {e : Env} {s : State} {m : MethodId} {args : Array Value} {below : List Frame} {meth : Method} {c : Code} {D : kD} {wc0 : va_W} {h : Nat} {h_now : Nat} {h_kept : Nat} {h_aside : Nat} {h_found : Nat} {h_down : Nat} {h_along : Nat} {h_parts : Nat} {h_gone : Nat} {h_tape : Nat} {h_kinds : Nat} {h_items : Nat} {h_widths : Nat} {h_sizes : Nat} {h_numbers : Nat} {h_moved : Nat} {v_isKept : Int32} {v_taped : Int32} {v_begins : Int32} {v_ends : Int32} {v_sort : Int32} {v_value : Int32} {v_isWrong : Int32} {v_itemMany : Int32} {v_farmMany : Int32} {v_farmCells : Int64} {v_now : Nat → Int32} {v_found : Nat → Int32} {x1 : Int32} {out : Int32 × (Nat → Int32) × (Nat → Int32)} (X : kX p m meth c s args D (va_A wc0 s.heap.size) b_M_sees "MountainFarmsModel" 2 (some .int)) (hf : f_M_sees v_now v_found x1 = some out) {H : Heap} {locs : List Loc} (hV : kV D (va_A wc0 s.heap.size) s (wd_M_sees D h h_now h_kept h_aside h_found h_down h_along h_parts h_gone h_tape h_kinds h_items h_widths h_sizes h_numbers h_moved v_isKept v_taped v_begins v_ends v_sort v_value v_isWrong v_itemMany v_farmMany v_farmCells v_now v_found) H locs) {ls : Array Slot} (hl : lv_has ls 2 [(0, .ref h), (1, .int x1)]) : W p l e { frames := 2, cells := 0, slots := 0, locals := 42 } s m args below meth c H locs 0 0 (MQ below (kQi D wc0 (wd_M_sees D h h_now h_kept h_aside h_found h_down h_along h_parts h_gone h_tape h_kinds h_items h_widths h_sizes h_numbers h_moved v_isKept v_taped v_begins v_ends v_sort v_value v_isWrong v_itemMany v_farmMany v_farmCells out.2.1 out.2.2) s.heap.size out.1) args s 0 0 (va_A wc0 s.heap.size)) (F0 m 0 ls []) := by
  unfold f_M_sees at hf
  obtain ⟨hx, hb, -⟩ := id X
  refine lv_iload_n hx hb d_M_sees_0 rfl (lv_at hl 1 rfl) ?_
  obtain ⟨r_13, hc_14, hf⟩ := kb1_some hf
  refine k_csi (w1 := (wd_M_isState D)) (r := r_13) (ws' := (wd_M_sees D h h_now h_kept h_aside h_found h_down h_along h_parts h_gone h_tape h_kinds h_items h_widths h_sizes h_numbers h_moved v_isKept v_taped v_begins v_ends v_sort v_value v_isWrong v_itemMany v_farmMany v_farmCells v_now v_found)) X hV hl.1 (c_M_isState D x1 hc_14) fk_M_isState gw_1083 rfl [] [none, none, none] rfl rfl ⟨rfl, rfl, rfl, trivial⟩ rfl rfl rfl d_M_sees_1 (fun H locs hV => ?_)
  refine lv_if_ne (tgt := 14) hx hb d_M_sees_4 (by decide) (fun c_15 => ?_) (fun c_15 => ?_)
  · replace hf := kifn c_15 hf
    refine lv_aload_n hx hb d_M_sees_14 rfl (lv_at hl 0 rfl) ?_
    refine k_get X hV 0 9 0 rfl rfl rfl gw_887 rfl rfl d_M_sees_15 ?_
    refine lv_bipush (v := 11) hx hb d_M_sees_18 bp_11 ?_
    refine k_iald X hV 1 rfl kin_11_218 kln_11 d_M_sees_20 ?_
    refine lv_bipush (v := 6) hx hb d_M_sees_21 bp_6 ?_
    refine lv_icmp_ne (tgt := 33) hx hb d_M_sees_23 (by decide) (fun c_16 => ?_) (fun c_16 => ?_)
    · replace hf := kifn c_16 hf
      refine lv_aload_n hx hb d_M_sees_33 rfl (lv_at hl 0 rfl) ?_
      refine k_get X hV 0 9 0 rfl rfl rfl gw_887 rfl rfl d_M_sees_34 ?_
      refine lv_bipush (v := 12) hx hb d_M_sees_37 bp_12 ?_
      refine lv_aload_n hx hb d_M_sees_39 rfl (lv_at hl 0 rfl) ?_
      refine k_get X hV 0 9 0 rfl rfl rfl gw_887 rfl rfl d_M_sees_40 ?_
      refine lv_bipush (v := 11) hx hb d_M_sees_43 bp_11 ?_
      refine k_iald X hV 1 rfl kin_11_218 kln_11 d_M_sees_45 ?_
      refine lv_iadd hx hb d_M_sees_46 ?_
      refine lv_iload_n hx hb d_M_sees_47 rfl (lv_at hl 1 rfl) ?_
      obtain ⟨h_17, hf⟩ := kidx_some hf
      refine k_iast (ws' := (wd_M_sees D h h_now h_kept h_aside h_found h_down h_along h_parts h_gone h_tape h_kinds h_items h_widths h_sizes h_numbers h_moved v_isKept v_taped v_begins v_ends v_sort v_value v_isWrong v_itemMany v_farmMany v_farmCells (upd v_now ((12 : Int32) + (v_now 11)).toNatClampNeg x1) v_found)) X hV 1 rfl h_17 rfl rfl d_M_sees_48 (fun H locs hV => ?_)
      refine lv_aload_n hx hb d_M_sees_49 rfl (lv_at hl 0 rfl) ?_
      refine k_get X hV 0 9 0 rfl rfl rfl gw_887 rfl rfl d_M_sees_50 ?_
      refine lv_bipush (v := 11) hx hb d_M_sees_53 bp_11 ?_
      refine lv_dup2_11 hx hb d_M_sees_55 rfl rfl ?_
      refine k_iald X hV 1 rfl kin_11_218 kln_11 d_M_sees_56 ?_
      refine lv_iconst (v := 1) hx hb d_M_sees_57 ic_1 ?_
      refine lv_iadd hx hb d_M_sees_58 ?_
      refine k_leti hf (fun y_18 hf => ?_)
      refine k_iast (ws' := (wd_M_sees D h h_now h_kept h_aside h_found h_down h_along h_parts h_gone h_tape h_kinds h_items h_widths h_sizes h_numbers h_moved v_isKept v_taped v_begins v_ends v_sort v_value v_isWrong v_itemMany v_farmMany v_farmCells (upd (upd v_now ((12 : Int32) + (v_now 11)).toNatClampNeg x1) 11 y_18) v_found)) X hV 1 rfl kin_11_218 kln_11 rfl d_M_sees_59 (fun H locs hV => ?_)
      refine lv_aload_n hx hb d_M_sees_60 rfl (lv_at hl 0 rfl) ?_
      refine k_get X hV 0 9 0 rfl rfl rfl gw_887 rfl rfl d_M_sees_61 ?_
      refine lv_bipush (v := 11) hx hb d_M_sees_64 bp_11 ?_
      refine k_iald X hV 1 rfl kin_11_218 kln_11 d_M_sees_66 ?_
      have e_ := Option.some.inj hf
      subst e_
      exact k_iret X rfl hV rfl d_M_sees_67
    replace hf := kifp c_16 hf
    refine lv_aload_n hx hb d_M_sees_26 rfl (lv_at hl 0 rfl) ?_
    refine k_ldc (v := (-1000000002)) X gw_1026 d_M_sees_27 ?_
    obtain ⟨r_19, v_found_20, hc_21, hf⟩ := kb2_some hf
    refine k_cvi (w1 := (wd_M_finding D h h_now h_kept h_aside h_found h_down h_along h_parts h_gone h_tape h_kinds h_items h_widths h_sizes h_numbers h_moved v_isKept v_taped v_begins v_ends v_sort v_value v_isWrong v_itemMany v_farmMany v_farmCells v_found_20)) (r := r_19) (ws' := (wd_M_sees D h h_now h_kept h_aside h_found h_down h_along h_parts h_gone h_tape h_kinds h_items h_widths h_sizes h_numbers h_moved v_isKept v_taped v_begins v_ends v_sort v_value v_isWrong v_itemMany v_farmMany v_farmCells v_now v_found_20)) X hV hl.1 (c_M_finding D h h_now h_kept h_aside h_found h_down h_along h_parts h_gone h_tape h_kinds h_items h_widths h_sizes h_numbers h_moved v_isKept v_taped v_begins v_ends v_sort v_value v_isWrong v_itemMany v_farmMany v_farmCells v_found (-1000000002 : Int32) hc_21) fk_M_finding gw_974 rfl 0 9 rfl rfl [0, 2] [some 0, none, some 1] rfl rfl ⟨rfl, rfl, rfl, rfl, rfl, rfl, rfl, trivial⟩ rfl rfl rfl d_M_sees_29 (fun H locs hV => ?_)
    have e_ := Option.some.inj hf
    subst e_
    exact k_iret X rfl hV rfl d_M_sees_32
  replace hf := kifp c_15 hf
  refine lv_aload_n hx hb d_M_sees_7 rfl (lv_at hl 0 rfl) ?_
  refine k_ldc (v := (-1000000001)) X gw_973 d_M_sees_8 ?_
  obtain ⟨r_22, v_found_23, hc_24, hf⟩ := kb2_some hf
  refine k_cvi (w1 := (wd_M_finding D h h_now h_kept h_aside h_found h_down h_along h_parts h_gone h_tape h_kinds h_items h_widths h_sizes h_numbers h_moved v_isKept v_taped v_begins v_ends v_sort v_value v_isWrong v_itemMany v_farmMany v_farmCells v_found_23)) (r := r_22) (ws' := (wd_M_sees D h h_now h_kept h_aside h_found h_down h_along h_parts h_gone h_tape h_kinds h_items h_widths h_sizes h_numbers h_moved v_isKept v_taped v_begins v_ends v_sort v_value v_isWrong v_itemMany v_farmMany v_farmCells v_now v_found_23)) X hV hl.1 (c_M_finding D h h_now h_kept h_aside h_found h_down h_along h_parts h_gone h_tape h_kinds h_items h_widths h_sizes h_numbers h_moved v_isKept v_taped v_begins v_ends v_sort v_value v_isWrong v_itemMany v_farmMany v_farmCells v_found (-1000000001 : Int32) hc_24) fk_M_finding gw_974 rfl 0 9 rfl rfl [0, 2] [some 0, none, some 1] rfl rfl ⟨rfl, rfl, rfl, rfl, rfl, rfl, rfl, trivial⟩ rfl rfl rfl d_M_sees_10 (fun H locs hV => ?_)
  have e_ := Option.some.inj hf
  subst e_
  exact k_iret X rfl hV rfl d_M_sees_13
set_option maxHeartbeats 2000000 in
set_option maxRecDepth 20000 in
theorem c_M_sees {l : Launch} (D : kD) (h : Nat) (h_now : Nat) (h_kept : Nat) (h_aside : Nat) (h_found : Nat) (h_down : Nat) (h_along : Nat) (h_parts : Nat) (h_gone : Nat) (h_tape : Nat) (h_kinds : Nat) (h_items : Nat) (h_widths : Nat) (h_sizes : Nat) (h_numbers : Nat) (h_moved : Nat) (v_isKept : Int32) (v_taped : Int32) (v_begins : Int32) (v_ends : Int32) (v_sort : Int32) (v_value : Int32) (v_isWrong : Int32) (v_itemMany : Int32) (v_farmMany : Int32) (v_farmCells : Int64) (v_now : Nat → Int32) (v_found : Nat → Int32) (x1 : Int32) {out : Int32 × (Nat → Int32) × (Nat → Int32)} (hf : f_M_sees v_now v_found x1 = some out) : kMi l D y_M_sees b_M_sees 2 (some .int) { frames := 2, cells := 0, slots := 0, locals := 42 } [.ref h, .int x1] (wd_M_sees D h h_now h_kept h_aside h_found h_down h_along h_parts h_gone h_tape h_kinds h_items h_widths h_sizes h_numbers h_moved v_isKept v_taped v_begins v_ends v_sort v_value v_isWrong v_itemMany v_farmMany v_farmCells v_now v_found) (wd_M_sees D h h_now h_kept h_aside h_found h_down h_along h_parts h_gone h_tape h_kinds h_items h_widths h_sizes h_numbers h_moved v_isKept v_taped v_begins v_ends v_sort v_value v_isWrong v_itemMany v_farmMany v_farmCells out.2.1 out.2.2) out.1 :=
  kMi_of (own := "MountainFarmsModel") (plainFor_of_name (by decide)) rfl rfl (fun p e s m args below meth c ls X hV hl => t_M_sees X hf hV hl)
set_option maxHeartbeats 2000000 in
set_option maxRecDepth 20000 in
theorem t_M_burn {l : Launch} {p : Program} {e : Env} {s : State} {m : MethodId} {args : Array Value} {below : List Frame} {meth : Method} {c : Code} {D : kD} {wc0 : va_W} {h : Nat} {h_now : Nat} {h_kept : Nat} {h_aside : Nat} {h_found : Nat} {h_down : Nat} {h_along : Nat} {h_parts : Nat} {h_gone : Nat} {h_tape : Nat} {h_kinds : Nat} {h_items : Nat} {h_widths : Nat} {h_sizes : Nat} {h_numbers : Nat} {h_moved : Nat} {v_isKept : Int32} {v_taped : Int32} {v_begins : Int32} {v_ends : Int32} {v_sort : Int32} {v_value : Int32} {v_isWrong : Int32} {v_itemMany : Int32} {v_farmMany : Int32} {v_farmCells : Int64} {v_now : Nat → Int32} {out : Int32 × (Nat → Int32)} (X : kX p m meth c s args D (va_A wc0 s.heap.size) b_M_burn "MountainFarmsModel" 1 (some .int)) (hf : f_M_burn v_now = some out) {H : Heap} {locs : List Loc} (hV : kV D (va_A wc0 s.heap.size) s (wd_M_burn D h h_now h_kept h_aside h_found h_down h_along h_parts h_gone h_tape h_kinds h_items h_widths h_sizes h_numbers h_moved v_isKept v_taped v_begins v_ends v_sort v_value v_isWrong v_itemMany v_farmMany v_farmCells v_now) H locs) {ls : Array Slot} (hl : lv_has ls 1 [(0, .ref h)]) : W p l e { frames := 1, cells := 0, slots := 0, locals := 23 } s m args below meth c H locs 0 0 (MQ below (kQi D wc0 (wd_M_burn D h h_now h_kept h_aside h_found h_down h_along h_parts h_gone h_tape h_kinds h_items h_widths h_sizes h_numbers h_moved v_isKept v_taped v_begins v_ends v_sort v_value v_isWrong v_itemMany v_farmMany v_farmCells out.2) s.heap.size out.1) args s 0 0 (va_A wc0 s.heap.size)) (F0 m 0 ls []) := by
  unfold f_M_burn at hf
  obtain ⟨hx, hb, -⟩ := id X
  refine lv_aload_n hx hb d_M_burn_0 rfl (lv_at hl 0 rfl) ?_
  refine lv_bipush (v := 11) hx hb d_M_burn_1 bp_11 ?_
  refine lv_iconst (v := 0) hx hb d_M_burn_3 ic_0 ?_
  obtain ⟨r_4, v_now_5, hc_6, hf⟩ := kb2_some hf
  refine k_cvi (w1 := (wd_M_become D h h_now h_kept h_aside h_found h_down h_along h_parts h_gone h_tape h_kinds h_items h_widths h_sizes h_numbers h_moved v_isKept v_taped v_begins v_ends v_sort v_value v_isWrong v_itemMany v_farmMany v_farmCells v_now_5)) (r := r_4) (ws' := (wd_M_burn D h h_now h_kept h_aside h_found h_down h_along h_parts h_gone h_tape h_kinds h_items h_widths h_sizes h_numbers h_moved v_isKept v_taped v_begins v_ends v_sort v_value v_isWrong v_itemMany v_farmMany v_farmCells v_now_5)) X hV hl.1 (c_M_become D h h_now h_kept h_aside h_found h_down h_along h_parts h_gone h_tape h_kinds h_items h_widths h_sizes h_numbers h_moved v_isKept v_taped v_begins v_ends v_sort v_value v_isWrong v_itemMany v_farmMany v_farmCells v_now (11 : Int32) (0 : Int32) hc_6) fk_M_become gw_978 rfl 0 9 rfl rfl [0, 1] [some 0, some 1] rfl rfl ⟨rfl, rfl, rfl, rfl, rfl, rfl, trivial⟩ rfl rfl rfl d_M_burn_4 (fun H locs hV => ?_)
  have e_ := Option.some.inj hf
  subst e_
  exact k_iret X rfl hV rfl d_M_burn_7
set_option maxHeartbeats 2000000 in
set_option maxRecDepth 20000 in
theorem c_M_burn {l : Launch} (D : kD) (h : Nat) (h_now : Nat) (h_kept : Nat) (h_aside : Nat) (h_found : Nat) (h_down : Nat) (h_along : Nat) (h_parts : Nat) (h_gone : Nat) (h_tape : Nat) (h_kinds : Nat) (h_items : Nat) (h_widths : Nat) (h_sizes : Nat) (h_numbers : Nat) (h_moved : Nat) (v_isKept : Int32) (v_taped : Int32) (v_begins : Int32) (v_ends : Int32) (v_sort : Int32) (v_value : Int32) (v_isWrong : Int32) (v_itemMany : Int32) (v_farmMany : Int32) (v_farmCells : Int64) (v_now : Nat → Int32) {out : Int32 × (Nat → Int32)} (hf : f_M_burn v_now = some out) : kMi l D y_M_burn b_M_burn 1 (some .int) { frames := 1, cells := 0, slots := 0, locals := 23 } [.ref h] (wd_M_burn D h h_now h_kept h_aside h_found h_down h_along h_parts h_gone h_tape h_kinds h_items h_widths h_sizes h_numbers h_moved v_isKept v_taped v_begins v_ends v_sort v_value v_isWrong v_itemMany v_farmMany v_farmCells v_now) (wd_M_burn D h h_now h_kept h_aside h_found h_down h_along h_parts h_gone h_tape h_kinds h_items h_widths h_sizes h_numbers h_moved v_isKept v_taped v_begins v_ends v_sort v_value v_isWrong v_itemMany v_farmMany v_farmCells out.2) out.1 :=
  kMi_of (own := "MountainFarmsModel") (plainFor_of_name (by decide)) rfl rfl (fun p e s m args below meth c ls X hV hl => t_M_burn X hf hV hl)
set_option maxHeartbeats 2000000 in
set_option maxRecDepth 20000 in
theorem tb_M_seen_3 {l : Launch} {p : Program} {e : Env} {s : State} {m : MethodId} {args : Array Value} {below : List Frame} {meth : Method} {c : Code} {D : kD} {wc0 : va_W} {h : Nat} {h_now : Nat} {h_kept : Nat} {h_aside : Nat} {h_found : Nat} {h_down : Nat} {h_along : Nat} {h_parts : Nat} {h_gone : Nat} {h_tape : Nat} {h_kinds : Nat} {h_items : Nat} {h_widths : Nat} {h_sizes : Nat} {h_numbers : Nat} {h_moved : Nat} {v_isKept : Int32} {v_taped : Int32} {v_begins : Int32} {v_ends : Int32} {v_sort : Int32} {v_value : Int32} {v_isWrong : Int32} {v_itemMany : Int32} {v_farmMany : Int32} {v_farmCells : Int64} {v_now : Nat → Int32} {v_parts : Nat → Int64} {v_gone : Nat → Int64} {x2 : Int32} {rec3 : Int32 → (Nat → Int64) → Option ((Nat → Int64) × (Nat → Int64))} {out : (Nat → Int64) × (Nat → Int64)} (X : kX p m meth c s args D (va_A wc0 s.heap.size) b_M_seen "MountainFarmsModel" 6 none) (hrec3 : ∀ (x2 : Int32) (v_parts : Nat → Int64), rec3 x2 v_parts = some out → ∀ (H : Heap) (locs : List Loc) (ls : Array Slot), kV D (va_A wc0 s.heap.size) s (wd_M_seen D h h_now h_kept h_aside h_found h_down h_along h_parts h_gone h_tape h_kinds h_items h_widths h_sizes h_numbers h_moved v_isKept v_taped v_begins v_ends v_sort v_value v_isWrong v_itemMany v_farmMany v_farmCells v_now v_parts v_gone) H locs → lv_has ls 6 [(0, .ref h), (2, .int x2)] → W p l e { frames := 0, cells := 0, slots := 0, locals := 0 } s m args below meth c H locs 0 0 (MQ below (kQv D wc0 (wd_M_seen D h h_now h_kept h_aside h_found h_down h_along h_parts h_gone h_tape h_kinds h_items h_widths h_sizes h_numbers h_moved v_isKept v_taped v_begins v_ends v_sort v_value v_isWrong v_itemMany v_farmMany v_farmCells v_now out.1 out.2) s.heap.size) args s 0 0 (va_A wc0 s.heap.size)) (F0 m 80 ls [])) (hf : fb_M_seen_3 rec3 v_gone x2 v_parts = some out) {H : Heap} {locs : List Loc} (hV : kV D (va_A wc0 s.heap.size) s (wd_M_seen D h h_now h_kept h_aside h_found h_down h_along h_parts h_gone h_tape h_kinds h_items h_widths h_sizes h_numbers h_moved v_isKept v_taped v_begins v_ends v_sort v_value v_isWrong v_itemMany v_farmMany v_farmCells v_now v_parts v_gone) H locs) {ls : Array Slot} (hl : lv_has ls 6 [(0, .ref h), (2, .int x2)]) : W p l e { frames := 0, cells := 0, slots := 0, locals := 0 } s m args below meth c H locs 0 0 (MQ below (kQv D wc0 (wd_M_seen D h h_now h_kept h_aside h_found h_down h_along h_parts h_gone h_tape h_kinds h_items h_widths h_sizes h_numbers h_moved v_isKept v_taped v_begins v_ends v_sort v_value v_isWrong v_itemMany v_farmMany v_farmCells v_now out.1 out.2) s.heap.size) args s 0 0 (va_A wc0 s.heap.size)) (F0 m 80 ls []) := by
  unfold fb_M_seen_3 at hf
  obtain ⟨hx, hb, -⟩ := id X
  refine lv_iload_n hx hb d_M_seen_80 rfl (lv_at hl 1 rfl) ?_
  refine lv_iconst (v := 4) hx hb d_M_seen_81 ic_4 ?_
  refine lv_icmp_ge (tgt := 103) hx hb d_M_seen_82 (by decide) (fun c_20 => ?_) (fun c_20 => ?_)
  · replace hf := kifp c_20 hf
    have e_ := Option.some.inj hf
    subst e_
    exact k_vret X rfl hV d_M_seen_103
  replace hf := kifn c_20 hf
  refine lv_aload_n hx hb d_M_seen_85 rfl (lv_at hl 0 rfl) ?_
  refine k_get X hV 0 9 7 rfl rfl rfl gw_894 rfl rfl d_M_seen_86 ?_
  refine lv_iload_n hx hb d_M_seen_89 rfl (lv_at hl 1 rfl) ?_
  refine lv_aload_n hx hb d_M_seen_90 rfl (lv_at hl 0 rfl) ?_
  refine k_get X hV 0 9 8 rfl rfl rfl gw_895 rfl rfl d_M_seen_91 ?_
  refine lv_iload_n hx hb d_M_seen_94 rfl (lv_at hl 1 rfl) ?_
  obtain ⟨h_21, hf⟩ := kidx_some hf
  refine k_lald X hV 3 rfl h_21 rfl d_M_seen_95 ?_
  obtain ⟨h_22, hf⟩ := kidx_some hf
  refine k_last (ws' := (wd_M_seen D h h_now h_kept h_aside h_found h_down h_along h_parts h_gone h_tape h_kinds h_items h_widths h_sizes h_numbers h_moved v_isKept v_taped v_begins v_ends v_sort v_value v_isWrong v_itemMany v_farmMany v_farmCells v_now (vp_updL v_parts x2.toNatClampNeg (v_gone x2.toNatClampNeg)) v_gone)) X hV 2 rfl h_22 rfl rfl d_M_seen_96 (fun H locs hV => ?_)
  refine lv_iinc (v := (x2 + 1)) (lv' := [(2, .int (x2 + 1)), (0, .ref h)]) hx hb d_M_seen_97 hl (k := 1) rfl rfl (by decide) rfl (fun ls hl => ?_)
  refine lv_goto (tgt := 80) hx hb d_M_seen_100 (by decide) ?_
  exact hrec3 _ _ hf _ _ _ hV (lv_sub hl [1, 0] rfl)
set_option maxHeartbeats 2000000 in
set_option maxRecDepth 20000 in
theorem tl_M_seen_3 {l : Launch} {p : Program} {e : Env} {s : State} {m : MethodId} {args : Array Value} {below : List Frame} {meth : Method} {c : Code} {D : kD} {wc0 : va_W} {h : Nat} {h_now : Nat} {h_kept : Nat} {h_aside : Nat} {h_found : Nat} {h_down : Nat} {h_along : Nat} {h_parts : Nat} {h_gone : Nat} {h_tape : Nat} {h_kinds : Nat} {h_items : Nat} {h_widths : Nat} {h_sizes : Nat} {h_numbers : Nat} {h_moved : Nat} {v_isKept : Int32} {v_taped : Int32} {v_begins : Int32} {v_ends : Int32} {v_sort : Int32} {v_value : Int32} {v_isWrong : Int32} {v_itemMany : Int32} {v_farmMany : Int32} {v_farmCells : Int64} {v_now : Nat → Int32} {v_gone : Nat → Int64} {out : (Nat → Int64) × (Nat → Int64)} (X : kX p m meth c s args D (va_A wc0 s.heap.size) b_M_seen "MountainFarmsModel" 6 none) : ∀ (n : Nat) (x2 : Int32) (v_parts : Nat → Int64), fl_M_seen_3 v_gone n x2 v_parts = some out → ∀ (H : Heap) (locs : List Loc) (ls : Array Slot), kV D (va_A wc0 s.heap.size) s (wd_M_seen D h h_now h_kept h_aside h_found h_down h_along h_parts h_gone h_tape h_kinds h_items h_widths h_sizes h_numbers h_moved v_isKept v_taped v_begins v_ends v_sort v_value v_isWrong v_itemMany v_farmMany v_farmCells v_now v_parts v_gone) H locs → lv_has ls 6 [(0, .ref h), (2, .int x2)] → W p l e { frames := 0, cells := 0, slots := 0, locals := 0 } s m args below meth c H locs 0 0 (MQ below (kQv D wc0 (wd_M_seen D h h_now h_kept h_aside h_found h_down h_along h_parts h_gone h_tape h_kinds h_items h_widths h_sizes h_numbers h_moved v_isKept v_taped v_begins v_ends v_sort v_value v_isWrong v_itemMany v_farmMany v_farmCells v_now out.1 out.2) s.heap.size) args s 0 0 (va_A wc0 s.heap.size)) (F0 m 80 ls []) := by
  intro n
  induction n with
  | zero => intro x2 v_parts hf; exact knone hf
  | succ n ih => intro x2 v_parts hf H locs ls hV hl; exact tb_M_seen_3 X ih hf hV hl
set_option maxHeartbeats 2000000 in
set_option maxRecDepth 20000 in
theorem tb_M_seen_2 {l : Launch} {p : Program} {e : Env} {s : State} {m : MethodId} {args : Array Value} {below : List Frame} {meth : Method} {c : Code} {D : kD} {wc0 : va_W} {h : Nat} {h_now : Nat} {h_kept : Nat} {h_aside : Nat} {h_found : Nat} {h_down : Nat} {h_along : Nat} {h_parts : Nat} {h_gone : Nat} {h_tape : Nat} {h_kinds : Nat} {h_items : Nat} {h_widths : Nat} {h_sizes : Nat} {h_numbers : Nat} {h_moved : Nat} {v_isKept : Int32} {v_taped : Int32} {v_begins : Int32} {v_ends : Int32} {v_sort : Int32} {v_value : Int32} {v_isWrong : Int32} {v_itemMany : Int32} {v_farmMany : Int32} {v_farmCells : Int64} {v_now : Nat → Int32} {v_parts : Nat → Int64} {v_gone : Nat → Int64} {x1 : Int32} {x2 : Int32} {x3 : Int64} {x5 : Int32} {rec1 : Int32 → (Nat → Int64) → Option ((Nat → Int64) × (Nat → Int64))} {rec2 : Int32 → Int64 → Int32 → (Nat → Int64) → Option ((Nat → Int64) × (Nat → Int64))} {out : (Nat → Int64) × (Nat → Int64)} (X : kX p m meth c s args D (va_A wc0 s.heap.size) b_M_seen "MountainFarmsModel" 6 none) (hrec1 : ∀ (x2 : Int32) (v_gone : Nat → Int64), rec1 x2 v_gone = some out → ∀ (H : Heap) (locs : List Loc) (ls : Array Slot), kV D (va_A wc0 s.heap.size) s (wd_M_seen D h h_now h_kept h_aside h_found h_down h_along h_parts h_gone h_tape h_kinds h_items h_widths h_sizes h_numbers h_moved v_isKept v_taped v_begins v_ends v_sort v_value v_isWrong v_itemMany v_farmMany v_farmCells v_now v_parts v_gone) H locs → lv_has ls 6 [(0, .ref h), (1, .int x1), (2, .int x2)] → W p l e { frames := 0, cells := 0, slots := 0, locals := 0 } s m args below meth c H locs 0 0 (MQ below (kQv D wc0 (wd_M_seen D h h_now h_kept h_aside h_found h_down h_along h_parts h_gone h_tape h_kinds h_items h_widths h_sizes h_numbers h_moved v_isKept v_taped v_begins v_ends v_sort v_value v_isWrong v_itemMany v_farmMany v_farmCells v_now out.1 out.2) s.heap.size) args s 0 0 (va_A wc0 s.heap.size)) (F0 m 2 ls [])) (hrec2 : ∀ (x2 : Int32) (x3 : Int64) (x5 : Int32) (v_gone : Nat → Int64), rec2 x2 x3 x5 v_gone = some out → ∀ (H : Heap) (locs : List Loc) (ls : Array Slot), kV D (va_A wc0 s.heap.size) s (wd_M_seen D h h_now h_kept h_aside h_found h_down h_along h_parts h_gone h_tape h_kinds h_items h_widths h_sizes h_numbers h_moved v_isKept v_taped v_begins v_ends v_sort v_value v_isWrong v_itemMany v_farmMany v_farmCells v_now v_parts v_gone) H locs → lv_has ls 6 [(0, .ref h), (1, .int x1), (2, .int x2), (3, .long x3), (5, .int x5)] → W p l e { frames := 0, cells := 0, slots := 0, locals := 0 } s m args below meth c H locs 0 0 (MQ below (kQv D wc0 (wd_M_seen D h h_now h_kept h_aside h_found h_down h_along h_parts h_gone h_tape h_kinds h_items h_widths h_sizes h_numbers h_moved v_isKept v_taped v_begins v_ends v_sort v_value v_isWrong v_itemMany v_farmMany v_farmCells v_now out.1 out.2) s.heap.size) args s 0 0 (va_A wc0 s.heap.size)) (F0 m 12 ls [])) (hf : fb_M_seen_2 rec1 rec2 x1 v_now v_parts x2 x3 x5 v_gone = some out) {H : Heap} {locs : List Loc} (hV : kV D (va_A wc0 s.heap.size) s (wd_M_seen D h h_now h_kept h_aside h_found h_down h_along h_parts h_gone h_tape h_kinds h_items h_widths h_sizes h_numbers h_moved v_isKept v_taped v_begins v_ends v_sort v_value v_isWrong v_itemMany v_farmMany v_farmCells v_now v_parts v_gone) H locs) {ls : Array Slot} (hl : lv_has ls 6 [(0, .ref h), (1, .int x1), (2, .int x2), (3, .long x3), (5, .int x5)]) : W p l e { frames := 0, cells := 0, slots := 0, locals := 0 } s m args below meth c H locs 0 0 (MQ below (kQv D wc0 (wd_M_seen D h h_now h_kept h_aside h_found h_down h_along h_parts h_gone h_tape h_kinds h_items h_widths h_sizes h_numbers h_moved v_isKept v_taped v_begins v_ends v_sort v_value v_isWrong v_itemMany v_farmMany v_farmCells v_now out.1 out.2) s.heap.size) args s 0 0 (va_A wc0 s.heap.size)) (F0 m 12 ls []) := by
  unfold fb_M_seen_2 at hf
  obtain ⟨hx, hb, -⟩ := id X
  refine lv_iload hx hb d_M_seen_12 (lv_at hl 4 rfl) ?_
  refine lv_iconst (v := 4) hx hb d_M_seen_14 ic_4 ?_
  refine lv_icmp_ge (tgt := 50) hx hb d_M_seen_15 (by decide) (fun c_13 => ?_) (fun c_13 => ?_)
  · replace hf := kifp c_13 hf
    refine lv_aload_n hx hb d_M_seen_50 rfl (lv_at hl 0 rfl) ?_
    refine k_get X hV 0 9 8 rfl rfl rfl gw_895 rfl rfl d_M_seen_51 ?_
    refine lv_iload_n hx hb d_M_seen_54 rfl (lv_at hl 2 rfl) ?_
    refine lv_lload_n hx hb d_M_seen_55 rfl (lv_at hl 3 rfl) ?_
    refine lv_aload_n hx hb d_M_seen_56 rfl (lv_at hl 0 rfl) ?_
    refine k_get X hV 0 9 0 rfl rfl rfl gw_887 rfl rfl d_M_seen_57 ?_
    refine lv_bipush (v := 34) hx hb d_M_seen_60 bp_34 ?_
    refine lv_iconst (v := 4) hx hb d_M_seen_62 ic_4 ?_
    refine lv_iload_n hx hb d_M_seen_63 rfl (lv_at hl 2 rfl) ?_
    refine lv_imul hx hb d_M_seen_64 ?_
    refine lv_iadd hx hb d_M_seen_65 ?_
    refine lv_iload_n hx hb d_M_seen_66 rfl (lv_at hl 1 rfl) ?_
    refine lv_iadd hx hb d_M_seen_67 ?_
    obtain ⟨h_14, hf⟩ := kidx_some hf
    refine k_iald X hV 1 rfl h_14 rfl d_M_seen_68 ?_
    refine lv_i2l hx hb d_M_seen_69 rfl ?_
    refine lv_lmul hx hb d_M_seen_70 ?_
    refine k_letl hf (fun y_15 hf => ?_)
    obtain ⟨h_16, hf⟩ := kidx_some hf
    refine k_last (ws' := (wd_M_seen D h h_now h_kept h_aside h_found h_down h_along h_parts h_gone h_tape h_kinds h_items h_widths h_sizes h_numbers h_moved v_isKept v_taped v_begins v_ends v_sort v_value v_isWrong v_itemMany v_farmMany v_farmCells v_now v_parts (vp_updL v_gone x2.toNatClampNeg y_15))) X hV 3 rfl h_16 rfl rfl d_M_seen_71 (fun H locs hV => ?_)
    refine lv_iinc (v := (x2 + 1)) (lv' := [(2, .int (x2 + 1)), (0, .ref h), (1, .int x1), (3, .long x3), (5, .int x5)]) hx hb d_M_seen_72 hl (k := 2) rfl rfl (by decide) rfl (fun ls hl => ?_)
    refine lv_goto (tgt := 2) hx hb d_M_seen_75 (by decide) ?_
    exact hrec1 _ _ hf _ _ _ hV (lv_sub hl [1, 2, 0] rfl)
  replace hf := kifn c_13 hf
  refine lv_lload_n hx hb d_M_seen_18 rfl (lv_at hl 3 rfl) ?_
  refine lv_aload_n hx hb d_M_seen_19 rfl (lv_at hl 0 rfl) ?_
  refine k_get X hV 0 9 7 rfl rfl rfl gw_894 rfl rfl d_M_seen_20 ?_
  refine lv_iload hx hb d_M_seen_23 (lv_at hl 4 rfl) ?_
  obtain ⟨h_17, hf⟩ := kidx_some hf
  refine k_lald X hV 2 rfl h_17 rfl d_M_seen_25 ?_
  refine lv_aload_n hx hb d_M_seen_26 rfl (lv_at hl 0 rfl) ?_
  refine k_get X hV 0 9 0 rfl rfl rfl gw_887 rfl rfl d_M_seen_27 ?_
  refine lv_bipush (v := 18) hx hb d_M_seen_30 bp_18 ?_
  refine lv_iconst (v := 4) hx hb d_M_seen_32 ic_4 ?_
  refine lv_iload hx hb d_M_seen_33 (lv_at hl 4 rfl) ?_
  refine lv_imul hx hb d_M_seen_35 ?_
  refine lv_iadd hx hb d_M_seen_36 ?_
  refine lv_iload_n hx hb d_M_seen_37 rfl (lv_at hl 2 rfl) ?_
  refine lv_iadd hx hb d_M_seen_38 ?_
  obtain ⟨h_18, hf⟩ := kidx_some hf
  refine k_iald X hV 1 rfl h_18 rfl d_M_seen_39 ?_
  refine lv_i2l hx hb d_M_seen_40 rfl ?_
  refine lv_lmul hx hb d_M_seen_41 ?_
  refine lv_ladd hx hb d_M_seen_42 ?_
  refine k_letl hf (fun x3_19 hf => ?_)
  refine lv_lstore_n (lv' := [(3, .long x3_19), (0, .ref h), (1, .int x1), (2, .int x2), (5, .int x5)]) hx hb d_M_seen_43 rfl hl (by decide) rfl (fun ls hl => ?_)
  refine lv_iinc (v := (x5 + 1)) (lv' := [(5, .int (x5 + 1)), (3, .long x3_19), (0, .ref h), (1, .int x1), (2, .int x2)]) hx hb d_M_seen_44 hl (k := 4) rfl rfl (by decide) rfl (fun ls hl => ?_)
  refine lv_goto (tgt := 12) hx hb d_M_seen_47 (by decide) ?_
  exact hrec2 _ _ _ _ hf _ _ _ hV (lv_sub hl [2, 3, 4, 1, 0] rfl)
set_option maxHeartbeats 2000000 in
set_option maxRecDepth 20000 in
theorem tl_M_seen_2 {l : Launch} {p : Program} {e : Env} {s : State} {m : MethodId} {args : Array Value} {below : List Frame} {meth : Method} {c : Code} {D : kD} {wc0 : va_W} {h : Nat} {h_now : Nat} {h_kept : Nat} {h_aside : Nat} {h_found : Nat} {h_down : Nat} {h_along : Nat} {h_parts : Nat} {h_gone : Nat} {h_tape : Nat} {h_kinds : Nat} {h_items : Nat} {h_widths : Nat} {h_sizes : Nat} {h_numbers : Nat} {h_moved : Nat} {v_isKept : Int32} {v_taped : Int32} {v_begins : Int32} {v_ends : Int32} {v_sort : Int32} {v_value : Int32} {v_isWrong : Int32} {v_itemMany : Int32} {v_farmMany : Int32} {v_farmCells : Int64} {v_now : Nat → Int32} {v_parts : Nat → Int64} {x1 : Int32} {rec1 : Int32 → (Nat → Int64) → Option ((Nat → Int64) × (Nat → Int64))} {out : (Nat → Int64) × (Nat → Int64)} (X : kX p m meth c s args D (va_A wc0 s.heap.size) b_M_seen "MountainFarmsModel" 6 none) (hrec1 : ∀ (x2 : Int32) (v_gone : Nat → Int64), rec1 x2 v_gone = some out → ∀ (H : Heap) (locs : List Loc) (ls : Array Slot), kV D (va_A wc0 s.heap.size) s (wd_M_seen D h h_now h_kept h_aside h_found h_down h_along h_parts h_gone h_tape h_kinds h_items h_widths h_sizes h_numbers h_moved v_isKept v_taped v_begins v_ends v_sort v_value v_isWrong v_itemMany v_farmMany v_farmCells v_now v_parts v_gone) H locs → lv_has ls 6 [(0, .ref h), (1, .int x1), (2, .int x2)] → W p l e { frames := 0, cells := 0, slots := 0, locals := 0 } s m args below meth c H locs 0 0 (MQ below (kQv D wc0 (wd_M_seen D h h_now h_kept h_aside h_found h_down h_along h_parts h_gone h_tape h_kinds h_items h_widths h_sizes h_numbers h_moved v_isKept v_taped v_begins v_ends v_sort v_value v_isWrong v_itemMany v_farmMany v_farmCells v_now out.1 out.2) s.heap.size) args s 0 0 (va_A wc0 s.heap.size)) (F0 m 2 ls [])) : ∀ (n : Nat) (x2 : Int32) (x3 : Int64) (x5 : Int32) (v_gone : Nat → Int64), fl_M_seen_2 rec1 x1 v_now v_parts n x2 x3 x5 v_gone = some out → ∀ (H : Heap) (locs : List Loc) (ls : Array Slot), kV D (va_A wc0 s.heap.size) s (wd_M_seen D h h_now h_kept h_aside h_found h_down h_along h_parts h_gone h_tape h_kinds h_items h_widths h_sizes h_numbers h_moved v_isKept v_taped v_begins v_ends v_sort v_value v_isWrong v_itemMany v_farmMany v_farmCells v_now v_parts v_gone) H locs → lv_has ls 6 [(0, .ref h), (1, .int x1), (2, .int x2), (3, .long x3), (5, .int x5)] → W p l e { frames := 0, cells := 0, slots := 0, locals := 0 } s m args below meth c H locs 0 0 (MQ below (kQv D wc0 (wd_M_seen D h h_now h_kept h_aside h_found h_down h_along h_parts h_gone h_tape h_kinds h_items h_widths h_sizes h_numbers h_moved v_isKept v_taped v_begins v_ends v_sort v_value v_isWrong v_itemMany v_farmMany v_farmCells v_now out.1 out.2) s.heap.size) args s 0 0 (va_A wc0 s.heap.size)) (F0 m 12 ls []) := by
  intro n
  induction n with
  | zero => intro x2 x3 x5 v_gone hf; exact knone hf
  | succ n ih => intro x2 x3 x5 v_gone hf H locs ls hV hl; exact tb_M_seen_2 X hrec1 ih hf hV hl
set_option maxHeartbeats 2000000 in
set_option maxRecDepth 20000 in
theorem tb_M_seen_1 {l : Launch} {p : Program} {e : Env} {s : State} {m : MethodId} {args : Array Value} {below : List Frame} {meth : Method} {c : Code} {D : kD} {wc0 : va_W} {h : Nat} {h_now : Nat} {h_kept : Nat} {h_aside : Nat} {h_found : Nat} {h_down : Nat} {h_along : Nat} {h_parts : Nat} {h_gone : Nat} {h_tape : Nat} {h_kinds : Nat} {h_items : Nat} {h_widths : Nat} {h_sizes : Nat} {h_numbers : Nat} {h_moved : Nat} {v_isKept : Int32} {v_taped : Int32} {v_begins : Int32} {v_ends : Int32} {v_sort : Int32} {v_value : Int32} {v_isWrong : Int32} {v_itemMany : Int32} {v_farmMany : Int32} {v_farmCells : Int64} {v_now : Nat → Int32} {v_parts : Nat → Int64} {v_gone : Nat → Int64} {x1 : Int32} {x2 : Int32} {rec1 : Int32 → (Nat → Int64) → Option ((Nat → Int64) × (Nat → Int64))} {out : (Nat → Int64) × (Nat → Int64)} (X : kX p m meth c s args D (va_A wc0 s.heap.size) b_M_seen "MountainFarmsModel" 6 none) (hrec1 : ∀ (x2 : Int32) (v_gone : Nat → Int64), rec1 x2 v_gone = some out → ∀ (H : Heap) (locs : List Loc) (ls : Array Slot), kV D (va_A wc0 s.heap.size) s (wd_M_seen D h h_now h_kept h_aside h_found h_down h_along h_parts h_gone h_tape h_kinds h_items h_widths h_sizes h_numbers h_moved v_isKept v_taped v_begins v_ends v_sort v_value v_isWrong v_itemMany v_farmMany v_farmCells v_now v_parts v_gone) H locs → lv_has ls 6 [(0, .ref h), (1, .int x1), (2, .int x2)] → W p l e { frames := 0, cells := 0, slots := 0, locals := 0 } s m args below meth c H locs 0 0 (MQ below (kQv D wc0 (wd_M_seen D h h_now h_kept h_aside h_found h_down h_along h_parts h_gone h_tape h_kinds h_items h_widths h_sizes h_numbers h_moved v_isKept v_taped v_begins v_ends v_sort v_value v_isWrong v_itemMany v_farmMany v_farmCells v_now out.1 out.2) s.heap.size) args s 0 0 (va_A wc0 s.heap.size)) (F0 m 2 ls [])) (hf : fb_M_seen_1 rec1 x1 v_now v_parts x2 v_gone = some out) {H : Heap} {locs : List Loc} (hV : kV D (va_A wc0 s.heap.size) s (wd_M_seen D h h_now h_kept h_aside h_found h_down h_along h_parts h_gone h_tape h_kinds h_items h_widths h_sizes h_numbers h_moved v_isKept v_taped v_begins v_ends v_sort v_value v_isWrong v_itemMany v_farmMany v_farmCells v_now v_parts v_gone) H locs) {ls : Array Slot} (hl : lv_has ls 6 [(0, .ref h), (1, .int x1), (2, .int x2)]) : W p l e { frames := 0, cells := 0, slots := 0, locals := 0 } s m args below meth c H locs 0 0 (MQ below (kQv D wc0 (wd_M_seen D h h_now h_kept h_aside h_found h_down h_along h_parts h_gone h_tape h_kinds h_items h_widths h_sizes h_numbers h_moved v_isKept v_taped v_begins v_ends v_sort v_value v_isWrong v_itemMany v_farmMany v_farmCells v_now out.1 out.2) s.heap.size) args s 0 0 (va_A wc0 s.heap.size)) (F0 m 2 ls []) := by
  unfold fb_M_seen_1 at hf
  obtain ⟨hx, hb, -⟩ := id X
  refine lv_iload_n hx hb d_M_seen_2 rfl (lv_at hl 2 rfl) ?_
  refine lv_iconst (v := 4) hx hb d_M_seen_3 ic_4 ?_
  refine lv_icmp_ge (tgt := 78) hx hb d_M_seen_4 (by decide) (fun c_12 => ?_) (fun c_12 => ?_)
  · replace hf := kifp c_12 hf
    refine lv_iconst (v := 0) hx hb d_M_seen_78 ic_0 ?_
    refine lv_istore_n (lv' := [(2, .int (0 : Int32)), (0, .ref h), (1, .int x1)]) hx hb d_M_seen_79 rfl hl (by decide) rfl (fun ls hl => ?_)
    exact tl_M_seen_3 X _ _ _ hf _ _ _ hV (lv_sub hl [1, 0] rfl)
  replace hf := kifn c_12 hf
  refine lv_lconst (v := 0) hx hb d_M_seen_7 lc_0 ?_
  refine lv_lstore_n (lv' := [(3, .long (0 : Int64)), (0, .ref h), (1, .int x1), (2, .int x2)]) hx hb d_M_seen_8 rfl hl (by decide) rfl (fun ls hl => ?_)
  refine lv_iconst (v := 0) hx hb d_M_seen_9 ic_0 ?_
  refine lv_istore (lv' := [(5, .int (0 : Int32)), (3, .long (0 : Int64)), (0, .ref h), (1, .int x1), (2, .int x2)]) hx hb d_M_seen_10 hl (by decide) rfl (fun ls hl => ?_)
  exact tl_M_seen_2 X hrec1 _ _ _ _ _ hf _ _ _ hV (lv_sub hl [2, 3, 4, 1, 0] rfl)
set_option maxHeartbeats 2000000 in
set_option maxRecDepth 20000 in
theorem tl_M_seen_1 {l : Launch} {p : Program} {e : Env} {s : State} {m : MethodId} {args : Array Value} {below : List Frame} {meth : Method} {c : Code} {D : kD} {wc0 : va_W} {h : Nat} {h_now : Nat} {h_kept : Nat} {h_aside : Nat} {h_found : Nat} {h_down : Nat} {h_along : Nat} {h_parts : Nat} {h_gone : Nat} {h_tape : Nat} {h_kinds : Nat} {h_items : Nat} {h_widths : Nat} {h_sizes : Nat} {h_numbers : Nat} {h_moved : Nat} {v_isKept : Int32} {v_taped : Int32} {v_begins : Int32} {v_ends : Int32} {v_sort : Int32} {v_value : Int32} {v_isWrong : Int32} {v_itemMany : Int32} {v_farmMany : Int32} {v_farmCells : Int64} {v_now : Nat → Int32} {v_parts : Nat → Int64} {x1 : Int32} {out : (Nat → Int64) × (Nat → Int64)} (X : kX p m meth c s args D (va_A wc0 s.heap.size) b_M_seen "MountainFarmsModel" 6 none) : ∀ (n : Nat) (x2 : Int32) (v_gone : Nat → Int64), fl_M_seen_1 x1 v_now v_parts n x2 v_gone = some out → ∀ (H : Heap) (locs : List Loc) (ls : Array Slot), kV D (va_A wc0 s.heap.size) s (wd_M_seen D h h_now h_kept h_aside h_found h_down h_along h_parts h_gone h_tape h_kinds h_items h_widths h_sizes h_numbers h_moved v_isKept v_taped v_begins v_ends v_sort v_value v_isWrong v_itemMany v_farmMany v_farmCells v_now v_parts v_gone) H locs → lv_has ls 6 [(0, .ref h), (1, .int x1), (2, .int x2)] → W p l e { frames := 0, cells := 0, slots := 0, locals := 0 } s m args below meth c H locs 0 0 (MQ below (kQv D wc0 (wd_M_seen D h h_now h_kept h_aside h_found h_down h_along h_parts h_gone h_tape h_kinds h_items h_widths h_sizes h_numbers h_moved v_isKept v_taped v_begins v_ends v_sort v_value v_isWrong v_itemMany v_farmMany v_farmCells v_now out.1 out.2) s.heap.size) args s 0 0 (va_A wc0 s.heap.size)) (F0 m 2 ls []) := by
  intro n
  induction n with
  | zero => intro x2 v_gone hf; exact knone hf
  | succ n ih => intro x2 v_gone hf H locs ls hV hl; exact tb_M_seen_1 X ih hf hV hl
set_option maxHeartbeats 2000000 in
set_option maxRecDepth 20000 in
theorem t_M_seen {l : Launch} {p : Program} {e : Env} {s : State} {m : MethodId} {args : Array Value} {below : List Frame} {meth : Method} {c : Code} {D : kD} {wc0 : va_W} {h : Nat} {h_now : Nat} {h_kept : Nat} {h_aside : Nat} {h_found : Nat} {h_down : Nat} {h_along : Nat} {h_parts : Nat} {h_gone : Nat} {h_tape : Nat} {h_kinds : Nat} {h_items : Nat} {h_widths : Nat} {h_sizes : Nat} {h_numbers : Nat} {h_moved : Nat} {v_isKept : Int32} {v_taped : Int32} {v_begins : Int32} {v_ends : Int32} {v_sort : Int32} {v_value : Int32} {v_isWrong : Int32} {v_itemMany : Int32} {v_farmMany : Int32} {v_farmCells : Int64} {v_now : Nat → Int32} {v_parts : Nat → Int64} {v_gone : Nat → Int64} {x1 : Int32} {out : (Nat → Int64) × (Nat → Int64)} (X : kX p m meth c s args D (va_A wc0 s.heap.size) b_M_seen "MountainFarmsModel" 6 none) (hf : f_M_seen v_now v_parts v_gone x1 = some out) {H : Heap} {locs : List Loc} (hV : kV D (va_A wc0 s.heap.size) s (wd_M_seen D h h_now h_kept h_aside h_found h_down h_along h_parts h_gone h_tape h_kinds h_items h_widths h_sizes h_numbers h_moved v_isKept v_taped v_begins v_ends v_sort v_value v_isWrong v_itemMany v_farmMany v_farmCells v_now v_parts v_gone) H locs) {ls : Array Slot} (hl : lv_has ls 6 [(0, .ref h), (1, .int x1)]) : W p l e { frames := 0, cells := 0, slots := 0, locals := 0 } s m args below meth c H locs 0 0 (MQ below (kQv D wc0 (wd_M_seen D h h_now h_kept h_aside h_found h_down h_along h_parts h_gone h_tape h_kinds h_items h_widths h_sizes h_numbers h_moved v_isKept v_taped v_begins v_ends v_sort v_value v_isWrong v_itemMany v_farmMany v_farmCells v_now out.1 out.2) s.heap.size) args s 0 0 (va_A wc0 s.heap.size)) (F0 m 0 ls []) := by
  unfold f_M_seen at hf
  obtain ⟨hx, hb, -⟩ := id X
  refine lv_iconst (v := 0) hx hb d_M_seen_0 ic_0 ?_
  refine lv_istore_n (lv' := [(2, .int (0 : Int32)), (0, .ref h), (1, .int x1)]) hx hb d_M_seen_1 rfl hl (by decide) rfl (fun ls hl => ?_)
  exact tl_M_seen_1 X _ _ _ hf _ _ _ hV (lv_sub hl [1, 2, 0] rfl)
set_option maxHeartbeats 2000000 in
set_option maxRecDepth 20000 in
theorem c_M_seen {l : Launch} (D : kD) (h : Nat) (h_now : Nat) (h_kept : Nat) (h_aside : Nat) (h_found : Nat) (h_down : Nat) (h_along : Nat) (h_parts : Nat) (h_gone : Nat) (h_tape : Nat) (h_kinds : Nat) (h_items : Nat) (h_widths : Nat) (h_sizes : Nat) (h_numbers : Nat) (h_moved : Nat) (v_isKept : Int32) (v_taped : Int32) (v_begins : Int32) (v_ends : Int32) (v_sort : Int32) (v_value : Int32) (v_isWrong : Int32) (v_itemMany : Int32) (v_farmMany : Int32) (v_farmCells : Int64) (v_now : Nat → Int32) (v_parts : Nat → Int64) (v_gone : Nat → Int64) (x1 : Int32) {out : (Nat → Int64) × (Nat → Int64)} (hf : f_M_seen v_now v_parts v_gone x1 = some out) : kMv l D y_M_seen b_M_seen 6 none { frames := 0, cells := 0, slots := 0, locals := 0 } [.ref h, .int x1] (wd_M_seen D h h_now h_kept h_aside h_found h_down h_along h_parts h_gone h_tape h_kinds h_items h_widths h_sizes h_numbers h_moved v_isKept v_taped v_begins v_ends v_sort v_value v_isWrong v_itemMany v_farmMany v_farmCells v_now v_parts v_gone) (wd_M_seen D h h_now h_kept h_aside h_found h_down h_along h_parts h_gone h_tape h_kinds h_items h_widths h_sizes h_numbers h_moved v_isKept v_taped v_begins v_ends v_sort v_value v_isWrong v_itemMany v_farmMany v_farmCells v_now out.1 out.2) :=
  kMv_of (own := "MountainFarmsModel") (plainFor_of_name (by decide)) rfl rfl (fun p e s m args below meth c ls X hV hl => t_M_seen X hf hV hl)
set_option maxHeartbeats 2000000 in
set_option maxRecDepth 20000 in
theorem t_M_all {l : Launch} {p : Program} {e : Env} {s : State} {m : MethodId} {args : Array Value} {below : List Frame} {meth : Method} {c : Code} {D : kD} {wc0 : va_W} {h : Nat} {h_now : Nat} {h_kept : Nat} {h_aside : Nat} {h_found : Nat} {h_down : Nat} {h_along : Nat} {h_parts : Nat} {h_gone : Nat} {h_tape : Nat} {h_kinds : Nat} {h_items : Nat} {h_widths : Nat} {h_sizes : Nat} {h_numbers : Nat} {h_moved : Nat} {v_isKept : Int32} {v_taped : Int32} {v_begins : Int32} {v_ends : Int32} {v_sort : Int32} {v_value : Int32} {v_isWrong : Int32} {v_itemMany : Int32} {v_farmMany : Int32} {v_farmCells : Int64} {v_parts : Nat → Int64} {out : Int64} (X : kX p m meth c s args D (va_A wc0 s.heap.size) b_M_all "MountainFarmsModel" 1 (some .long)) (hf : f_M_all v_parts = some out) {H : Heap} {locs : List Loc} (hV : kV D (va_A wc0 s.heap.size) s (wd_M_all D h h_now h_kept h_aside h_found h_down h_along h_parts h_gone h_tape h_kinds h_items h_widths h_sizes h_numbers h_moved v_isKept v_taped v_begins v_ends v_sort v_value v_isWrong v_itemMany v_farmMany v_farmCells v_parts) H locs) {ls : Array Slot} (hl : lv_has ls 1 [(0, .ref h)]) : W p l e { frames := 0, cells := 0, slots := 0, locals := 0 } s m args below meth c H locs 0 0 (MQ below (kQl D wc0 (wd_M_all D h h_now h_kept h_aside h_found h_down h_along h_parts h_gone h_tape h_kinds h_items h_widths h_sizes h_numbers h_moved v_isKept v_taped v_begins v_ends v_sort v_value v_isWrong v_itemMany v_farmMany v_farmCells v_parts) s.heap.size out) args s 0 0 (va_A wc0 s.heap.size)) (F0 m 0 ls []) := by
  unfold f_M_all at hf
  obtain ⟨hx, hb, -⟩ := id X
  refine lv_aload_n hx hb d_M_all_0 rfl (lv_at hl 0 rfl) ?_
  refine k_get X hV 0 9 7 rfl rfl rfl gw_894 rfl rfl d_M_all_1 ?_
  refine lv_iconst (v := 0) hx hb d_M_all_4 ic_0 ?_
  refine k_lald X hV 1 rfl kin_0_4 kln_0 d_M_all_5 ?_
  refine lv_aload_n hx hb d_M_all_6 rfl (lv_at hl 0 rfl) ?_
  refine k_get X hV 0 9 7 rfl rfl rfl gw_894 rfl rfl d_M_all_7 ?_
  refine lv_iconst (v := 1) hx hb d_M_all_10 ic_1 ?_
  refine k_lald X hV 1 rfl kin_1_4 kln_1 d_M_all_11 ?_
  refine lv_ladd hx hb d_M_all_12 ?_
  refine lv_aload_n hx hb d_M_all_13 rfl (lv_at hl 0 rfl) ?_
  refine k_get X hV 0 9 7 rfl rfl rfl gw_894 rfl rfl d_M_all_14 ?_
  refine lv_iconst (v := 2) hx hb d_M_all_17 ic_2 ?_
  refine k_lald X hV 1 rfl kin_2_4 kln_2 d_M_all_18 ?_
  refine lv_ladd hx hb d_M_all_19 ?_
  refine lv_aload_n hx hb d_M_all_20 rfl (lv_at hl 0 rfl) ?_
  refine k_get X hV 0 9 7 rfl rfl rfl gw_894 rfl rfl d_M_all_21 ?_
  refine lv_iconst (v := 3) hx hb d_M_all_24 ic_3 ?_
  refine k_lald X hV 1 rfl kin_3_4 kln_3 d_M_all_25 ?_
  refine lv_ladd hx hb d_M_all_26 ?_
  have e_ := Option.some.inj hf
  subst e_
  exact k_lret X rfl hV d_M_all_27
set_option maxHeartbeats 2000000 in
set_option maxRecDepth 20000 in
theorem c_M_all {l : Launch} (D : kD) (h : Nat) (h_now : Nat) (h_kept : Nat) (h_aside : Nat) (h_found : Nat) (h_down : Nat) (h_along : Nat) (h_parts : Nat) (h_gone : Nat) (h_tape : Nat) (h_kinds : Nat) (h_items : Nat) (h_widths : Nat) (h_sizes : Nat) (h_numbers : Nat) (h_moved : Nat) (v_isKept : Int32) (v_taped : Int32) (v_begins : Int32) (v_ends : Int32) (v_sort : Int32) (v_value : Int32) (v_isWrong : Int32) (v_itemMany : Int32) (v_farmMany : Int32) (v_farmCells : Int64) (v_parts : Nat → Int64) {out : Int64} (hf : f_M_all v_parts = some out) : kMl l D y_M_all b_M_all 1 (some .long) { frames := 0, cells := 0, slots := 0, locals := 0 } [.ref h] (wd_M_all D h h_now h_kept h_aside h_found h_down h_along h_parts h_gone h_tape h_kinds h_items h_widths h_sizes h_numbers h_moved v_isKept v_taped v_begins v_ends v_sort v_value v_isWrong v_itemMany v_farmMany v_farmCells v_parts) (wd_M_all D h h_now h_kept h_aside h_found h_down h_along h_parts h_gone h_tape h_kinds h_items h_widths h_sizes h_numbers h_moved v_isKept v_taped v_begins v_ends v_sort v_value v_isWrong v_itemMany v_farmMany v_farmCells v_parts) out :=
  kMl_of (own := "MountainFarmsModel") (plainFor_of_name (by decide)) rfl rfl (fun p e s m args below meth c ls X hV hl => t_M_all X hf hV hl)
set_option maxHeartbeats 2000000 in
set_option maxRecDepth 20000 in
theorem tb_M_weigh_3 {l : Launch} {p : Program} {e : Env} {s : State} {m : MethodId} {args : Array Value} {below : List Frame} {meth : Method} {c : Code} {D : kD} {wc0 : va_W} {h : Nat} {h_now : Nat} {h_kept : Nat} {h_aside : Nat} {h_found : Nat} {h_down : Nat} {h_along : Nat} {h_parts : Nat} {h_gone : Nat} {h_tape : Nat} {h_kinds : Nat} {h_items : Nat} {h_widths : Nat} {h_sizes : Nat} {h_numbers : Nat} {h_moved : Nat} {v_isKept : Int32} {v_taped : Int32} {v_begins : Int32} {v_ends : Int32} {v_sort : Int32} {v_value : Int32} {v_isWrong : Int32} {v_itemMany : Int32} {v_farmMany : Int32} {v_farmCells : Int64} {v_now : Nat → Int32} {v_parts : Nat → Int64} {v_gone : Nat → Int64} {x1 : Int32} {rec3 : Int32 → (Nat → Int64) → (Nat → Int64) → Option (Int64 × (Nat → Int64) × (Nat → Int64))} {out : Int64 × (Nat → Int64) × (Nat → Int64)} (X : kX p m meth c s args D (va_A wc0 s.heap.size) b_M_weigh "MountainFarmsModel" 2 (some .long)) (hrec3 : ∀ (x1 : Int32) (v_parts : Nat → Int64) (v_gone : Nat → Int64), rec3 x1 v_parts v_gone = some out → ∀ (H : Heap) (locs : List Loc) (ls : Array Slot), kV D (va_A wc0 s.heap.size) s (wd_M_weigh D h h_now h_kept h_aside h_found h_down h_along h_parts h_gone h_tape h_kinds h_items h_widths h_sizes h_numbers h_moved v_isKept v_taped v_begins v_ends v_sort v_value v_isWrong v_itemMany v_farmMany v_farmCells v_now v_parts v_gone) H locs → lv_has ls 2 [(0, .ref h), (1, .int x1)] → W p l e { frames := 1, cells := 0, slots := 0, locals := 25 } s m args below meth c H locs 0 0 (MQ below (kQl D wc0 (wd_M_weigh D h h_now h_kept h_aside h_found h_down h_along h_parts h_gone h_tape h_kinds h_items h_widths h_sizes h_numbers h_moved v_isKept v_taped v_begins v_ends v_sort v_value v_isWrong v_itemMany v_farmMany v_farmCells v_now out.2.1 out.2.2) s.heap.size out.1) args s 0 0 (va_A wc0 s.heap.size)) (F0 m 32 ls [])) (hf : fb_M_weigh_3 rec3 v_now x1 v_parts v_gone = some out) {H : Heap} {locs : List Loc} (hV : kV D (va_A wc0 s.heap.size) s (wd_M_weigh D h h_now h_kept h_aside h_found h_down h_along h_parts h_gone h_tape h_kinds h_items h_widths h_sizes h_numbers h_moved v_isKept v_taped v_begins v_ends v_sort v_value v_isWrong v_itemMany v_farmMany v_farmCells v_now v_parts v_gone) H locs) {ls : Array Slot} (hl : lv_has ls 2 [(0, .ref h), (1, .int x1)]) : W p l e { frames := 1, cells := 0, slots := 0, locals := 25 } s m args below meth c H locs 0 0 (MQ below (kQl D wc0 (wd_M_weigh D h h_now h_kept h_aside h_found h_down h_along h_parts h_gone h_tape h_kinds h_items h_widths h_sizes h_numbers h_moved v_isKept v_taped v_begins v_ends v_sort v_value v_isWrong v_itemMany v_farmMany v_farmCells v_now out.2.1 out.2.2) s.heap.size out.1) args s 0 0 (va_A wc0 s.heap.size)) (F0 m 32 ls []) := by
  unfold fb_M_weigh_3 at hf
  obtain ⟨hx, hb, -⟩ := id X
  refine lv_iload_n hx hb d_M_weigh_32 rfl (lv_at hl 1 rfl) ?_
  refine lv_aload_n hx hb d_M_weigh_33 rfl (lv_at hl 0 rfl) ?_
  refine k_get X hV 0 9 0 rfl rfl rfl gw_887 rfl rfl d_M_weigh_34 ?_
  refine lv_bipush (v := 11) hx hb d_M_weigh_37 bp_11 ?_
  refine k_iald X hV 1 rfl kin_11_218 kln_11 d_M_weigh_39 ?_
  refine lv_icmp_ge (tgt := 62) hx hb d_M_weigh_40 (by decide) (fun c_14 => ?_) (fun c_14 => ?_)
  · replace hf := kifp c_14 hf
    refine lv_aload_n hx hb d_M_weigh_62 rfl (lv_at hl 0 rfl) ?_
    obtain ⟨r_15, hc_16, hf⟩ := kb1_some hf
    refine k_cvl (w1 := (wd_M_all D h h_now h_kept h_aside h_found h_down h_along h_parts h_gone h_tape h_kinds h_items h_widths h_sizes h_numbers h_moved v_isKept v_taped v_begins v_ends v_sort v_value v_isWrong v_itemMany v_farmMany v_farmCells v_parts)) (r := r_15) (ws' := (wd_M_weigh D h h_now h_kept h_aside h_found h_down h_along h_parts h_gone h_tape h_kinds h_items h_widths h_sizes h_numbers h_moved v_isKept v_taped v_begins v_ends v_sort v_value v_isWrong v_itemMany v_farmMany v_farmCells v_now v_parts v_gone)) X hV hl.1 (c_M_all D h h_now h_kept h_aside h_found h_down h_along h_parts h_gone h_tape h_kinds h_items h_widths h_sizes h_numbers h_moved v_isKept v_taped v_begins v_ends v_sort v_value v_isWrong v_itemMany v_farmMany v_farmCells v_parts hc_16) fk_M_all gw_1115 rfl 0 9 rfl rfl [0, 2] [some 0, none, some 1, none] rfl rfl ⟨rfl, rfl, rfl, rfl, rfl, rfl, rfl, rfl, trivial⟩ rfl rfl rfl d_M_weigh_63 (fun H locs hV => ?_)
    have e_ := Option.some.inj hf
    subst e_
    exact k_lret X rfl hV d_M_weigh_66
  replace hf := kifn c_14 hf
  refine lv_aload_n hx hb d_M_weigh_43 rfl (lv_at hl 0 rfl) ?_
  refine lv_aload_n hx hb d_M_weigh_44 rfl (lv_at hl 0 rfl) ?_
  refine k_get X hV 0 9 0 rfl rfl rfl gw_887 rfl rfl d_M_weigh_45 ?_
  refine lv_bipush (v := 12) hx hb d_M_weigh_48 bp_12 ?_
  refine lv_iload_n hx hb d_M_weigh_50 rfl (lv_at hl 1 rfl) ?_
  refine lv_iadd hx hb d_M_weigh_51 ?_
  obtain ⟨h_17, hf⟩ := kidx_some hf
  refine k_iald X hV 1 rfl h_17 rfl d_M_weigh_52 ?_
  obtain ⟨v_parts_18, v_gone_19, hc_20, hf⟩ := kb2_some hf
  refine k_cvv (w1 := (wd_M_seen D h h_now h_kept h_aside h_found h_down h_along h_parts h_gone h_tape h_kinds h_items h_widths h_sizes h_numbers h_moved v_isKept v_taped v_begins v_ends v_sort v_value v_isWrong v_itemMany v_farmMany v_farmCells v_now v_parts_18 v_gone_19)) (ws' := (wd_M_weigh D h h_now h_kept h_aside h_found h_down h_along h_parts h_gone h_tape h_kinds h_items h_widths h_sizes h_numbers h_moved v_isKept v_taped v_begins v_ends v_sort v_value v_isWrong v_itemMany v_farmMany v_farmCells v_now v_parts_18 v_gone_19)) X hV hl.1 (c_M_seen D h h_now h_kept h_aside h_found h_down h_along h_parts h_gone h_tape h_kinds h_items h_widths h_sizes h_numbers h_moved v_isKept v_taped v_begins v_ends v_sort v_value v_isWrong v_itemMany v_farmMany v_farmCells v_now v_parts v_gone (v_now ((12 : Int32) + x1).toNatClampNeg) hc_20) fk_M_seen gw_1111 rfl 0 9 rfl rfl [0, 1, 2, 3] [some 0, some 1, some 2, some 3] rfl rfl ⟨rfl, rfl, rfl, rfl, rfl, rfl, rfl, rfl, rfl, rfl, rfl, rfl, trivial⟩ rfl rfl rfl d_M_weigh_53 (fun H locs hV => ?_)
  refine lv_iinc (v := (x1 + 1)) (lv' := [(1, .int (x1 + 1)), (0, .ref h)]) hx hb d_M_weigh_56 hl (k := 1) rfl rfl (by decide) rfl (fun ls hl => ?_)
  refine lv_goto (tgt := 32) hx hb d_M_weigh_59 (by decide) ?_
  exact hrec3 _ _ _ hf _ _ _ hV (lv_sub hl [1, 0] rfl)
set_option maxHeartbeats 2000000 in
set_option maxRecDepth 20000 in
theorem tl_M_weigh_3 {l : Launch} {p : Program} {e : Env} {s : State} {m : MethodId} {args : Array Value} {below : List Frame} {meth : Method} {c : Code} {D : kD} {wc0 : va_W} {h : Nat} {h_now : Nat} {h_kept : Nat} {h_aside : Nat} {h_found : Nat} {h_down : Nat} {h_along : Nat} {h_parts : Nat} {h_gone : Nat} {h_tape : Nat} {h_kinds : Nat} {h_items : Nat} {h_widths : Nat} {h_sizes : Nat} {h_numbers : Nat} {h_moved : Nat} {v_isKept : Int32} {v_taped : Int32} {v_begins : Int32} {v_ends : Int32} {v_sort : Int32} {v_value : Int32} {v_isWrong : Int32} {v_itemMany : Int32} {v_farmMany : Int32} {v_farmCells : Int64} {v_now : Nat → Int32} {out : Int64 × (Nat → Int64) × (Nat → Int64)} (X : kX p m meth c s args D (va_A wc0 s.heap.size) b_M_weigh "MountainFarmsModel" 2 (some .long)) : ∀ (n : Nat) (x1 : Int32) (v_parts : Nat → Int64) (v_gone : Nat → Int64), fl_M_weigh_3 v_now n x1 v_parts v_gone = some out → ∀ (H : Heap) (locs : List Loc) (ls : Array Slot), kV D (va_A wc0 s.heap.size) s (wd_M_weigh D h h_now h_kept h_aside h_found h_down h_along h_parts h_gone h_tape h_kinds h_items h_widths h_sizes h_numbers h_moved v_isKept v_taped v_begins v_ends v_sort v_value v_isWrong v_itemMany v_farmMany v_farmCells v_now v_parts v_gone) H locs → lv_has ls 2 [(0, .ref h), (1, .int x1)] → W p l e { frames := 1, cells := 0, slots := 0, locals := 25 } s m args below meth c H locs 0 0 (MQ below (kQl D wc0 (wd_M_weigh D h h_now h_kept h_aside h_found h_down h_along h_parts h_gone h_tape h_kinds h_items h_widths h_sizes h_numbers h_moved v_isKept v_taped v_begins v_ends v_sort v_value v_isWrong v_itemMany v_farmMany v_farmCells v_now out.2.1 out.2.2) s.heap.size out.1) args s 0 0 (va_A wc0 s.heap.size)) (F0 m 32 ls []) := by
  intro n
  induction n with
  | zero => intro x1 v_parts v_gone hf; exact knone hf
  | succ n ih => intro x1 v_parts v_gone hf H locs ls hV hl; exact tb_M_weigh_3 X ih hf hV hl
set_option maxHeartbeats 2000000 in
set_option maxRecDepth 20000 in
theorem t_M_weigh_2 {l : Launch} {p : Program} {e : Env} {s : State} {m : MethodId} {args : Array Value} {below : List Frame} {meth : Method} {c : Code} {D : kD} {wc0 : va_W} {h : Nat} {h_now : Nat} {h_kept : Nat} {h_aside : Nat} {h_found : Nat} {h_down : Nat} {h_along : Nat} {h_parts : Nat} {h_gone : Nat} {h_tape : Nat} {h_kinds : Nat} {h_items : Nat} {h_widths : Nat} {h_sizes : Nat} {h_numbers : Nat} {h_moved : Nat} {v_isKept : Int32} {v_taped : Int32} {v_begins : Int32} {v_ends : Int32} {v_sort : Int32} {v_value : Int32} {v_isWrong : Int32} {v_itemMany : Int32} {v_farmMany : Int32} {v_farmCells : Int64} {v_now : Nat → Int32} {v_parts : Nat → Int64} {v_gone : Nat → Int64} {s1 : Int32} {s2 : Int64} {x1 : Int32} {rec1 : Int32 → (Nat → Int64) → Option (Int64 × (Nat → Int64) × (Nat → Int64))} {out : Int64 × (Nat → Int64) × (Nat → Int64)} (X : kX p m meth c s args D (va_A wc0 s.heap.size) b_M_weigh "MountainFarmsModel" 2 (some .long)) (hrec1 : ∀ (x1 : Int32) (v_parts : Nat → Int64), rec1 x1 v_parts = some out → ∀ (H : Heap) (locs : List Loc) (ls : Array Slot), kV D (va_A wc0 s.heap.size) s (wd_M_weigh D h h_now h_kept h_aside h_found h_down h_along h_parts h_gone h_tape h_kinds h_items h_widths h_sizes h_numbers h_moved v_isKept v_taped v_begins v_ends v_sort v_value v_isWrong v_itemMany v_farmMany v_farmCells v_now v_parts v_gone) H locs → lv_has ls 2 [(0, .ref h), (1, .int x1)] → W p l e { frames := 1, cells := 0, slots := 0, locals := 25 } s m args below meth c H locs 0 0 (MQ below (kQl D wc0 (wd_M_weigh D h h_now h_kept h_aside h_found h_down h_along h_parts h_gone h_tape h_kinds h_items h_widths h_sizes h_numbers h_moved v_isKept v_taped v_begins v_ends v_sort v_value v_isWrong v_itemMany v_farmMany v_farmCells v_now out.2.1 out.2.2) s.heap.size out.1) args s 0 0 (va_A wc0 s.heap.size)) (F0 m 2 ls [])) (hf : f_M_weigh_2 rec1 s1 s2 x1 v_now v_parts v_gone = some out) {H : Heap} {locs : List Loc} (hV : kV D (va_A wc0 s.heap.size) s (wd_M_weigh D h h_now h_kept h_aside h_found h_down h_along h_parts h_gone h_tape h_kinds h_items h_widths h_sizes h_numbers h_moved v_isKept v_taped v_begins v_ends v_sort v_value v_isWrong v_itemMany v_farmMany v_farmCells v_now v_parts v_gone) H locs) {ls : Array Slot} (hl : lv_has ls 2 [(0, .ref h), (1, .int x1)]) : W p l e { frames := 1, cells := 0, slots := 0, locals := 25 } s m args below meth c H locs 0 0 (MQ below (kQl D wc0 (wd_M_weigh D h h_now h_kept h_aside h_found h_down h_along h_parts h_gone h_tape h_kinds h_items h_widths h_sizes h_numbers h_moved v_isKept v_taped v_begins v_ends v_sort v_value v_isWrong v_itemMany v_farmMany v_farmCells v_now out.2.1 out.2.2) s.heap.size out.1) args s 0 0 (va_A wc0 s.heap.size)) (F0 m 23 ls [.long s2, .int s1, .ref h_parts]) := by
  unfold f_M_weigh_2 at hf
  obtain ⟨hx, hb, -⟩ := id X
  obtain ⟨h_13, hf⟩ := kidx_some hf
  refine k_last (ws' := (wd_M_weigh D h h_now h_kept h_aside h_found h_down h_along h_parts h_gone h_tape h_kinds h_items h_widths h_sizes h_numbers h_moved v_isKept v_taped v_begins v_ends v_sort v_value v_isWrong v_itemMany v_farmMany v_farmCells v_now (vp_updL v_parts s1.toNatClampNeg s2) v_gone)) X hV 2 rfl h_13 rfl rfl d_M_weigh_23 (fun H locs hV => ?_)
  refine lv_iinc (v := (x1 + 1)) (lv' := [(1, .int (x1 + 1)), (0, .ref h)]) hx hb d_M_weigh_24 hl (k := 1) rfl rfl (by decide) rfl (fun ls hl => ?_)
  refine lv_goto (tgt := 2) hx hb d_M_weigh_27 (by decide) ?_
  exact hrec1 _ _ hf _ _ _ hV (lv_sub hl [1, 0] rfl)
set_option maxHeartbeats 2000000 in
set_option maxRecDepth 20000 in
theorem tb_M_weigh_1 {l : Launch} {p : Program} {e : Env} {s : State} {m : MethodId} {args : Array Value} {below : List Frame} {meth : Method} {c : Code} {D : kD} {wc0 : va_W} {h : Nat} {h_now : Nat} {h_kept : Nat} {h_aside : Nat} {h_found : Nat} {h_down : Nat} {h_along : Nat} {h_parts : Nat} {h_gone : Nat} {h_tape : Nat} {h_kinds : Nat} {h_items : Nat} {h_widths : Nat} {h_sizes : Nat} {h_numbers : Nat} {h_moved : Nat} {v_isKept : Int32} {v_taped : Int32} {v_begins : Int32} {v_ends : Int32} {v_sort : Int32} {v_value : Int32} {v_isWrong : Int32} {v_itemMany : Int32} {v_farmMany : Int32} {v_farmCells : Int64} {v_now : Nat → Int32} {v_parts : Nat → Int64} {v_gone : Nat → Int64} {x1 : Int32} {rec1 : Int32 → (Nat → Int64) → Option (Int64 × (Nat → Int64) × (Nat → Int64))} {out : Int64 × (Nat → Int64) × (Nat → Int64)} (X : kX p m meth c s args D (va_A wc0 s.heap.size) b_M_weigh "MountainFarmsModel" 2 (some .long)) (hrec1 : ∀ (x1 : Int32) (v_parts : Nat → Int64), rec1 x1 v_parts = some out → ∀ (H : Heap) (locs : List Loc) (ls : Array Slot), kV D (va_A wc0 s.heap.size) s (wd_M_weigh D h h_now h_kept h_aside h_found h_down h_along h_parts h_gone h_tape h_kinds h_items h_widths h_sizes h_numbers h_moved v_isKept v_taped v_begins v_ends v_sort v_value v_isWrong v_itemMany v_farmMany v_farmCells v_now v_parts v_gone) H locs → lv_has ls 2 [(0, .ref h), (1, .int x1)] → W p l e { frames := 1, cells := 0, slots := 0, locals := 25 } s m args below meth c H locs 0 0 (MQ below (kQl D wc0 (wd_M_weigh D h h_now h_kept h_aside h_found h_down h_along h_parts h_gone h_tape h_kinds h_items h_widths h_sizes h_numbers h_moved v_isKept v_taped v_begins v_ends v_sort v_value v_isWrong v_itemMany v_farmMany v_farmCells v_now out.2.1 out.2.2) s.heap.size out.1) args s 0 0 (va_A wc0 s.heap.size)) (F0 m 2 ls [])) (hf : fb_M_weigh_1 rec1 v_now v_gone x1 v_parts = some out) {H : Heap} {locs : List Loc} (hV : kV D (va_A wc0 s.heap.size) s (wd_M_weigh D h h_now h_kept h_aside h_found h_down h_along h_parts h_gone h_tape h_kinds h_items h_widths h_sizes h_numbers h_moved v_isKept v_taped v_begins v_ends v_sort v_value v_isWrong v_itemMany v_farmMany v_farmCells v_now v_parts v_gone) H locs) {ls : Array Slot} (hl : lv_has ls 2 [(0, .ref h), (1, .int x1)]) : W p l e { frames := 1, cells := 0, slots := 0, locals := 25 } s m args below meth c H locs 0 0 (MQ below (kQl D wc0 (wd_M_weigh D h h_now h_kept h_aside h_found h_down h_along h_parts h_gone h_tape h_kinds h_items h_widths h_sizes h_numbers h_moved v_isKept v_taped v_begins v_ends v_sort v_value v_isWrong v_itemMany v_farmMany v_farmCells v_now out.2.1 out.2.2) s.heap.size out.1) args s 0 0 (va_A wc0 s.heap.size)) (F0 m 2 ls []) := by
  unfold fb_M_weigh_1 at hf
  obtain ⟨hx, hb, -⟩ := id X
  refine lv_iload_n hx hb d_M_weigh_2 rfl (lv_at hl 1 rfl) ?_
  refine lv_iconst (v := 4) hx hb d_M_weigh_3 ic_4 ?_
  refine lv_icmp_ge (tgt := 30) hx hb d_M_weigh_4 (by decide) (fun c_11 => ?_) (fun c_11 => ?_)
  · replace hf := kifp c_11 hf
    refine lv_iconst (v := 0) hx hb d_M_weigh_30 ic_0 ?_
    refine lv_istore_n (lv' := [(1, .int (0 : Int32)), (0, .ref h)]) hx hb d_M_weigh_31 rfl hl (by decide) rfl (fun ls hl => ?_)
    exact tl_M_weigh_3 X _ _ _ _ hf _ _ _ hV (lv_sub hl [1, 0] rfl)
  replace hf := kifn c_11 hf
  refine lv_aload_n hx hb d_M_weigh_7 rfl (lv_at hl 0 rfl) ?_
  refine k_get X hV 0 9 7 rfl rfl rfl gw_894 rfl rfl d_M_weigh_8 ?_
  refine lv_iload_n hx hb d_M_weigh_11 rfl (lv_at hl 1 rfl) ?_
  refine lv_iload_n hx hb d_M_weigh_12 rfl (lv_at hl 1 rfl) ?_
  refine lv_if_ne (tgt := 22) hx hb d_M_weigh_13 (by decide) (fun c_12 => ?_) (fun c_12 => ?_)
  · replace hf := kifn c_12 hf
    refine lv_lconst (v := 0) hx hb d_M_weigh_22 lc_0 ?_
    exact t_M_weigh_2 X hrec1 hf hV (lv_sub hl [0, 1] rfl)
  replace hf := kifp c_12 hf
  refine k_ldc2 (v := 10) X gw_1110 d_M_weigh_16 ?_
  refine lv_goto (tgt := 23) hx hb d_M_weigh_19 (by decide) ?_
  exact t_M_weigh_2 X hrec1 hf hV (lv_sub hl [0, 1] rfl)
set_option maxHeartbeats 2000000 in
set_option maxRecDepth 20000 in
theorem tl_M_weigh_1 {l : Launch} {p : Program} {e : Env} {s : State} {m : MethodId} {args : Array Value} {below : List Frame} {meth : Method} {c : Code} {D : kD} {wc0 : va_W} {h : Nat} {h_now : Nat} {h_kept : Nat} {h_aside : Nat} {h_found : Nat} {h_down : Nat} {h_along : Nat} {h_parts : Nat} {h_gone : Nat} {h_tape : Nat} {h_kinds : Nat} {h_items : Nat} {h_widths : Nat} {h_sizes : Nat} {h_numbers : Nat} {h_moved : Nat} {v_isKept : Int32} {v_taped : Int32} {v_begins : Int32} {v_ends : Int32} {v_sort : Int32} {v_value : Int32} {v_isWrong : Int32} {v_itemMany : Int32} {v_farmMany : Int32} {v_farmCells : Int64} {v_now : Nat → Int32} {v_gone : Nat → Int64} {out : Int64 × (Nat → Int64) × (Nat → Int64)} (X : kX p m meth c s args D (va_A wc0 s.heap.size) b_M_weigh "MountainFarmsModel" 2 (some .long)) : ∀ (n : Nat) (x1 : Int32) (v_parts : Nat → Int64), fl_M_weigh_1 v_now v_gone n x1 v_parts = some out → ∀ (H : Heap) (locs : List Loc) (ls : Array Slot), kV D (va_A wc0 s.heap.size) s (wd_M_weigh D h h_now h_kept h_aside h_found h_down h_along h_parts h_gone h_tape h_kinds h_items h_widths h_sizes h_numbers h_moved v_isKept v_taped v_begins v_ends v_sort v_value v_isWrong v_itemMany v_farmMany v_farmCells v_now v_parts v_gone) H locs → lv_has ls 2 [(0, .ref h), (1, .int x1)] → W p l e { frames := 1, cells := 0, slots := 0, locals := 25 } s m args below meth c H locs 0 0 (MQ below (kQl D wc0 (wd_M_weigh D h h_now h_kept h_aside h_found h_down h_along h_parts h_gone h_tape h_kinds h_items h_widths h_sizes h_numbers h_moved v_isKept v_taped v_begins v_ends v_sort v_value v_isWrong v_itemMany v_farmMany v_farmCells v_now out.2.1 out.2.2) s.heap.size out.1) args s 0 0 (va_A wc0 s.heap.size)) (F0 m 2 ls []) := by
  intro n
  induction n with
  | zero => intro x1 v_parts hf; exact knone hf
  | succ n ih => intro x1 v_parts hf H locs ls hV hl; exact tb_M_weigh_1 X ih hf hV hl
set_option maxHeartbeats 2000000 in
set_option maxRecDepth 20000 in
theorem t_M_weigh {l : Launch} {p : Program} {e : Env} {s : State} {m : MethodId} {args : Array Value} {below : List Frame} {meth : Method} {c : Code} {D : kD} {wc0 : va_W} {h : Nat} {h_now : Nat} {h_kept : Nat} {h_aside : Nat} {h_found : Nat} {h_down : Nat} {h_along : Nat} {h_parts : Nat} {h_gone : Nat} {h_tape : Nat} {h_kinds : Nat} {h_items : Nat} {h_widths : Nat} {h_sizes : Nat} {h_numbers : Nat} {h_moved : Nat} {v_isKept : Int32} {v_taped : Int32} {v_begins : Int32} {v_ends : Int32} {v_sort : Int32} {v_value : Int32} {v_isWrong : Int32} {v_itemMany : Int32} {v_farmMany : Int32} {v_farmCells : Int64} {v_now : Nat → Int32} {v_parts : Nat → Int64} {v_gone : Nat → Int64} {out : Int64 × (Nat → Int64) × (Nat → Int64)} (X : kX p m meth c s args D (va_A wc0 s.heap.size) b_M_weigh "MountainFarmsModel" 2 (some .long)) (hf : f_M_weigh v_now v_parts v_gone = some out) {H : Heap} {locs : List Loc} (hV : kV D (va_A wc0 s.heap.size) s (wd_M_weigh D h h_now h_kept h_aside h_found h_down h_along h_parts h_gone h_tape h_kinds h_items h_widths h_sizes h_numbers h_moved v_isKept v_taped v_begins v_ends v_sort v_value v_isWrong v_itemMany v_farmMany v_farmCells v_now v_parts v_gone) H locs) {ls : Array Slot} (hl : lv_has ls 2 [(0, .ref h)]) : W p l e { frames := 1, cells := 0, slots := 0, locals := 25 } s m args below meth c H locs 0 0 (MQ below (kQl D wc0 (wd_M_weigh D h h_now h_kept h_aside h_found h_down h_along h_parts h_gone h_tape h_kinds h_items h_widths h_sizes h_numbers h_moved v_isKept v_taped v_begins v_ends v_sort v_value v_isWrong v_itemMany v_farmMany v_farmCells v_now out.2.1 out.2.2) s.heap.size out.1) args s 0 0 (va_A wc0 s.heap.size)) (F0 m 0 ls []) := by
  unfold f_M_weigh at hf
  obtain ⟨hx, hb, -⟩ := id X
  refine lv_iconst (v := 0) hx hb d_M_weigh_0 ic_0 ?_
  refine lv_istore_n (lv' := [(1, .int (0 : Int32)), (0, .ref h)]) hx hb d_M_weigh_1 rfl hl (by decide) rfl (fun ls hl => ?_)
  exact tl_M_weigh_1 X _ _ _ hf _ _ _ hV (lv_sub hl [1, 0] rfl)
set_option maxHeartbeats 2000000 in
set_option maxRecDepth 20000 in
theorem c_M_weigh {l : Launch} (D : kD) (h : Nat) (h_now : Nat) (h_kept : Nat) (h_aside : Nat) (h_found : Nat) (h_down : Nat) (h_along : Nat) (h_parts : Nat) (h_gone : Nat) (h_tape : Nat) (h_kinds : Nat) (h_items : Nat) (h_widths : Nat) (h_sizes : Nat) (h_numbers : Nat) (h_moved : Nat) (v_isKept : Int32) (v_taped : Int32) (v_begins : Int32) (v_ends : Int32) (v_sort : Int32) (v_value : Int32) (v_isWrong : Int32) (v_itemMany : Int32) (v_farmMany : Int32) (v_farmCells : Int64) (v_now : Nat → Int32) (v_parts : Nat → Int64) (v_gone : Nat → Int64) {out : Int64 × (Nat → Int64) × (Nat → Int64)} (hf : f_M_weigh v_now v_parts v_gone = some out) : kMl l D y_M_weigh b_M_weigh 2 (some .long) { frames := 1, cells := 0, slots := 0, locals := 25 } [.ref h] (wd_M_weigh D h h_now h_kept h_aside h_found h_down h_along h_parts h_gone h_tape h_kinds h_items h_widths h_sizes h_numbers h_moved v_isKept v_taped v_begins v_ends v_sort v_value v_isWrong v_itemMany v_farmMany v_farmCells v_now v_parts v_gone) (wd_M_weigh D h h_now h_kept h_aside h_found h_down h_along h_parts h_gone h_tape h_kinds h_items h_widths h_sizes h_numbers h_moved v_isKept v_taped v_begins v_ends v_sort v_value v_isWrong v_itemMany v_farmMany v_farmCells v_now out.2.1 out.2.2) out.1 :=
  kMl_of (own := "MountainFarmsModel") (plainFor_of_name (by decide)) rfl rfl (fun p e s m args below meth c ls X hV hl => t_M_weigh X hf hV hl)
