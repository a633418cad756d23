/-! printed by wip/gen: walks -/
set_option maxHeartbeats 2000000 in
set_option maxRecDepth 20000 in
theorem t_M_seed {l : Launch} {p : Program} {e : Env} {s : State} {m : MethodId} {args : Array Value} {below : List Frame} {meth : Method} {c : Code} {D : kD} {wc0 : va_W} {h : Nat} {h_now : Nat} {h_kept : Nat} {h_aside : Nat} {h_found : Nat} {h_down : Nat} {h_along : Nat} {h_parts : Nat} {h_gone : Nat} {h_tape : Nat} {h_kinds : Nat} {h_items : Nat} {h_widths : Nat} {h_sizes : Nat} {h_numbers : Nat} {h_moved : Nat} {v_isKept : Int32} {v_taped : Int32} {v_begins : Int32} {v_ends : Int32} {v_sort : Int32} {v_value : Int32} {v_isWrong : Int32} {v_itemMany : Int32} {v_farmMany : Int32} {v_farmCells : Int64} {v_now : Nat → Int32} {x1 : Int32} {out : Int32 × (Nat → Int32)} (X : kX p m meth c s args D (va_A wc0 s.heap.size) b_M_seed "MountainFarmsModel" 2 (some .int)) (hf : f_M_seed v_now x1 = some out) {H : Heap} {locs : List Loc} (hV : kV D (va_A wc0 s.heap.size) s (wd_M_seed D h h_now h_kept h_aside h_found h_down h_along h_parts h_gone h_tape h_kinds h_items h_widths h_sizes h_numbers h_moved v_isKept v_taped v_begins v_ends v_sort v_value v_isWrong v_itemMany v_farmMany v_farmCells v_now) H locs) {ls : Array Slot} (hl : lv_has ls 2 [(0, .ref h), (1, .int x1)]) : W p l e { frames := 1, cells := 0, slots := 0, locals := 23 } s m args below meth c H locs 0 0 (MQ below (kQi D wc0 (wd_M_seed D h h_now h_kept h_aside h_found h_down h_along h_parts h_gone h_tape h_kinds h_items h_widths h_sizes h_numbers h_moved v_isKept v_taped v_begins v_ends v_sort v_value v_isWrong v_itemMany v_farmMany v_farmCells out.2) s.heap.size out.1) args s 0 0 (va_A wc0 s.heap.size)) (F0 m 0 ls []) := by
  unfold f_M_seed at hf
  obtain ⟨hx, hb, -⟩ := id X
  refine lv_aload_n hx hb d_M_seed_0 rfl (lv_at hl 0 rfl) ?_
  refine lv_iconst (v := 0) hx hb d_M_seed_1 ic_0 ?_
  refine lv_iload_n hx hb d_M_seed_2 rfl (lv_at hl 1 rfl) ?_
  obtain ⟨r_4, v_now_5, hc_6, hf⟩ := kb2_some hf
  refine k_cvi (w1 := (wd_M_become D h h_now h_kept h_aside h_found h_down h_along h_parts h_gone h_tape h_kinds h_items h_widths h_sizes h_numbers h_moved v_isKept v_taped v_begins v_ends v_sort v_value v_isWrong v_itemMany v_farmMany v_farmCells v_now_5)) (r := r_4) (ws' := (wd_M_seed D h h_now h_kept h_aside h_found h_down h_along h_parts h_gone h_tape h_kinds h_items h_widths h_sizes h_numbers h_moved v_isKept v_taped v_begins v_ends v_sort v_value v_isWrong v_itemMany v_farmMany v_farmCells v_now_5)) X hV hl.1 (c_M_become D h h_now h_kept h_aside h_found h_down h_along h_parts h_gone h_tape h_kinds h_items h_widths h_sizes h_numbers h_moved v_isKept v_taped v_begins v_ends v_sort v_value v_isWrong v_itemMany v_farmMany v_farmCells v_now (0 : Int32) x1 hc_6) fk_M_become gw_978 rfl 0 9 rfl rfl [0, 1] [some 0, some 1] rfl rfl ⟨rfl, rfl, rfl, rfl, rfl, rfl, trivial⟩ rfl rfl rfl d_M_seed_3 (fun H locs hV => ?_)
  have e_ := Option.some.inj hf
  subst e_
  exact k_iret X rfl hV rfl d_M_seed_6
set_option maxHeartbeats 2000000 in
set_option maxRecDepth 20000 in
theorem c_M_seed {l : Launch} (D : kD) (h : Nat) (h_now : Nat) (h_kept : Nat) (h_aside : Nat) (h_found : Nat) (h_down : Nat) (h_along : Nat) (h_parts : Nat) (h_gone : Nat) (h_tape : Nat) (h_kinds : Nat) (h_items : Nat) (h_widths : Nat) (h_sizes : Nat) (h_numbers : Nat) (h_moved : Nat) (v_isKept : Int32) (v_taped : Int32) (v_begins : Int32) (v_ends : Int32) (v_sort : Int32) (v_value : Int32) (v_isWrong : Int32) (v_itemMany : Int32) (v_farmMany : Int32) (v_farmCells : Int64) (v_now : Nat → Int32) (x1 : Int32) {out : Int32 × (Nat → Int32)} (hf : f_M_seed v_now x1 = some out) : kMi l D y_M_seed b_M_seed 2 (some .int) { frames := 1, cells := 0, slots := 0, locals := 23 } [.ref h, .int x1] (wd_M_seed D h h_now h_kept h_aside h_found h_down h_along h_parts h_gone h_tape h_kinds h_items h_widths h_sizes h_numbers h_moved v_isKept v_taped v_begins v_ends v_sort v_value v_isWrong v_itemMany v_farmMany v_farmCells v_now) (wd_M_seed D h h_now h_kept h_aside h_found h_down h_along h_parts h_gone h_tape h_kinds h_items h_widths h_sizes h_numbers h_moved v_isKept v_taped v_begins v_ends v_sort v_value v_isWrong v_itemMany v_farmMany v_farmCells out.2) out.1 :=
  kMi_of (own := "MountainFarmsModel") (plainFor_of_name (by decide)) rfl rfl (fun p e s m args below meth c ls X hV hl => t_M_seed X hf hV hl)
set_option maxHeartbeats 2000000 in
set_option maxRecDepth 20000 in
theorem t_M_now {l : Launch} {p : Program} {e : Env} {s : State} {m : MethodId} {args : Array Value} {below : List Frame} {meth : Method} {c : Code} {D : kD} {wc0 : va_W} {h : Nat} {h_now : Nat} {h_kept : Nat} {h_aside : Nat} {h_found : Nat} {h_down : Nat} {h_along : Nat} {h_parts : Nat} {h_gone : Nat} {h_tape : Nat} {h_kinds : Nat} {h_items : Nat} {h_widths : Nat} {h_sizes : Nat} {h_numbers : Nat} {h_moved : Nat} {v_isKept : Int32} {v_taped : Int32} {v_begins : Int32} {v_ends : Int32} {v_sort : Int32} {v_value : Int32} {v_isWrong : Int32} {v_itemMany : Int32} {v_farmMany : Int32} {v_farmCells : Int64} {v_now : Nat → Int32} {v_found : Nat → Int32} {x1 : Int32} {out : Int32 × (Nat → Int32)} (X : kX p m meth c s args D (va_A wc0 s.heap.size) b_M_now "MountainFarmsModel" 2 (some .int)) (hf : f_M_now v_now v_found x1 = some out) {H : Heap} {locs : List Loc} (hV : kV D (va_A wc0 s.heap.size) s (wd_M_now D h h_now h_kept h_aside h_found h_down h_along h_parts h_gone h_tape h_kinds h_items h_widths h_sizes h_numbers h_moved v_isKept v_taped v_begins v_ends v_sort v_value v_isWrong v_itemMany v_farmMany v_farmCells v_now v_found) H locs) {ls : Array Slot} (hl : lv_has ls 2 [(0, .ref h), (1, .int x1)]) : W p l e { frames := 1, cells := 0, slots := 0, locals := 22 } s m args below meth c H locs 0 0 (MQ below (kQi D wc0 (wd_M_now D h h_now h_kept h_aside h_found h_down h_along h_parts h_gone h_tape h_kinds h_items h_widths h_sizes h_numbers h_moved v_isKept v_taped v_begins v_ends v_sort v_value v_isWrong v_itemMany v_farmMany v_farmCells v_now out.2) s.heap.size out.1) args s 0 0 (va_A wc0 s.heap.size)) (F0 m 0 ls []) := by
  unfold f_M_now at hf
  obtain ⟨hx, hb, -⟩ := id X
  refine lv_iload_n hx hb d_M_now_0 rfl (lv_at hl 1 rfl) ?_
  refine lv_iconst (v := 0) hx hb d_M_now_1 ic_0 ?_
  refine lv_bipush (v := 7) hx hb d_M_now_2 bp_7 ?_
  obtain ⟨r_8, hc_9, hf⟩ := kb1_some hf
  refine k_csi (w1 := (wd_M_within D)) (r := r_8) (ws' := (wd_M_now D h h_now h_kept h_aside h_found h_down h_along h_parts h_gone h_tape h_kinds h_items h_widths h_sizes h_numbers h_moved v_isKept v_taped v_begins v_ends v_sort v_value v_isWrong v_itemMany v_farmMany v_farmCells v_now v_found)) X hV hl.1 (c_M_within D x1 (0 : Int32) (7 : Int32) hc_9) fk_M_within gw_970 rfl [] [none, none, none] rfl rfl ⟨rfl, rfl, rfl, trivial⟩ rfl rfl rfl d_M_now_4 (fun H locs hV => ?_)
  refine lv_if_eq (tgt := 21) hx hb d_M_now_7 (by decide) (fun c_10 => ?_) (fun c_10 => ?_)
  · replace hf := kifp c_10 hf
    refine lv_aload_n hx hb d_M_now_21 rfl (lv_at hl 0 rfl) ?_
    refine k_ldc (v := (-1000000001)) X gw_973 d_M_now_22 ?_
    obtain ⟨r_11, v_found_12, hc_13, hf⟩ := kb2_some hf
    refine k_cvi (w1 := (wd_M_finding D h h_now h_kept h_aside h_found h_down h_along h_parts h_gone h_tape h_kinds h_items h_widths h_sizes h_numbers h_moved v_isKept v_taped v_begins v_ends v_sort v_value v_isWrong v_itemMany v_farmMany v_farmCells v_found_12)) (r := r_11) (ws' := (wd_M_now D h h_now h_kept h_aside h_found h_down h_along h_parts h_gone h_tape h_kinds h_items h_widths h_sizes h_numbers h_moved v_isKept v_taped v_begins v_ends v_sort v_value v_isWrong v_itemMany v_farmMany v_farmCells v_now v_found_12)) X hV hl.1 (c_M_finding D h h_now h_kept h_aside h_found h_down h_along h_parts h_gone h_tape h_kinds h_items h_widths h_sizes h_numbers h_moved v_isKept v_taped v_begins v_ends v_sort v_value v_isWrong v_itemMany v_farmMany v_farmCells v_found (-1000000001 : Int32) hc_13) fk_M_finding gw_974 rfl 0 9 rfl rfl [0, 2] [some 0, none, some 1] rfl rfl ⟨rfl, rfl, rfl, rfl, rfl, rfl, rfl, trivial⟩ rfl rfl rfl d_M_now_24 (fun H locs hV => ?_)
    have e_ := Option.some.inj hf
    subst e_
    exact k_iret X rfl hV rfl d_M_now_27
  replace hf := kifn c_10 hf
  refine lv_aload_n hx hb d_M_now_10 rfl (lv_at hl 0 rfl) ?_
  refine k_get X hV 0 9 0 rfl rfl rfl gw_887 rfl rfl d_M_now_11 ?_
  refine lv_iconst (v := 1) hx hb d_M_now_14 ic_1 ?_
  refine lv_iload_n hx hb d_M_now_15 rfl (lv_at hl 1 rfl) ?_
  refine lv_iadd hx hb d_M_now_16 ?_
  obtain ⟨h_14, hf⟩ := kidx_some hf
  refine k_iald X hV 1 rfl h_14 rfl d_M_now_17 ?_
  refine lv_goto (tgt := 27) hx hb d_M_now_18 (by decide) ?_
  have e_ := Option.some.inj hf
  subst e_
  exact k_iret X rfl hV rfl d_M_now_27
set_option maxHeartbeats 2000000 in
set_option maxRecDepth 20000 in
theorem c_M_now {l : Launch} (D : kD) (h : Nat) (h_now : Nat) (h_kept : Nat) (h_aside : Nat) (h_found : Nat) (h_down : Nat) (h_along : Nat) (h_parts : Nat) (h_gone : Nat) (h_tape : Nat) (h_kinds : Nat) (h_items : Nat) (h_widths : Nat) (h_sizes : Nat) (h_numbers : Nat) (h_moved : Nat) (v_isKept : Int32) (v_taped : Int32) (v_begins : Int32) (v_ends : Int32) (v_sort : Int32) (v_value : Int32) (v_isWrong : Int32) (v_itemMany : Int32) (v_farmMany : Int32) (v_farmCells : Int64) (v_now : Nat → Int32) (v_found : Nat → Int32) (x1 : Int32) {out : Int32 × (Nat → Int32)} (hf : f_M_now v_now v_found x1 = some out) : kMi l D y_M_now b_M_now 2 (some .int) { frames := 1, cells := 0, slots := 0, locals := 22 } [.ref h, .int x1] (wd_M_now D h h_now h_kept h_aside h_found h_down h_along h_parts h_gone h_tape h_kinds h_items h_widths h_sizes h_numbers h_moved v_isKept v_taped v_begins v_ends v_sort v_value v_isWrong v_itemMany v_farmMany v_farmCells v_now v_found) (wd_M_now D h h_now h_kept h_aside h_found h_down h_along h_parts h_gone h_tape h_kinds h_items h_widths h_sizes h_numbers h_moved v_isKept v_taped v_begins v_ends v_sort v_value v_isWrong v_itemMany v_farmMany v_farmCells v_now out.2) out.1 :=
  kMi_of (own := "MountainFarmsModel") (plainFor_of_name (by decide)) rfl rfl (fun p e s m args below meth c ls X hV hl => t_M_now X hf hV hl)
set_option maxHeartbeats 2000000 in
set_option maxRecDepth 20000 in
theorem t_In_compare {l : Launch} {p : Program} {e : Env} {s : State} {m : MethodId} {args : Array Value} {below : List Frame} {meth : Method} {c : Code} {D : kD} {wc0 : va_W} {x0 : Int32} {x1 : Int32} {out : Int32} (X : kX p m meth c s args D (va_A wc0 s.heap.size) b_In_compare "java/lang/Integer" 2 (some .int)) (hf : f_In_compare x0 x1 = some out) {H : Heap} {locs : List Loc} (hV : kV D (va_A wc0 s.heap.size) s (wd_In_compare D) H locs) {ls : Array Slot} (hl : lv_has ls 2 [(0, .int x0), (1, .int x1)]) : W p l e { frames := 0, cells := 0, slots := 0, locals := 0 } s m args below meth c H locs 0 0 (MQ below (kQi D wc0 (wd_In_compare D) s.heap.size out) args s 0 0 (va_A wc0 s.heap.size)) (F0 m 0 ls []) := by
  unfold f_In_compare at hf
  obtain ⟨hx, hb, -⟩ := id X
  refine lv_iload_n hx hb d_In_compare_0 rfl (lv_at hl 0 rfl) ?_
  refine lv_iload_n hx hb d_In_compare_1 rfl (lv_at hl 1 rfl) ?_
  refine lv_icmp_ge (tgt := 9) hx hb d_In_compare_2 (by decide) (fun c_3 => ?_) (fun c_3 => ?_)
  · replace hf := kifp c_3 hf
    refine lv_iload_n hx hb d_In_compare_9 rfl (lv_at hl 0 rfl) ?_
    refine lv_iload_n hx hb d_In_compare_10 rfl (lv_at hl 1 rfl) ?_
    refine lv_icmp_ne (tgt := 18) hx hb d_In_compare_11 (by decide) (fun c_4 => ?_) (fun c_4 => ?_)
    · replace hf := kifn c_4 hf
      refine lv_iconst (v := 1) hx hb d_In_compare_18 ic_1 ?_
      have e_ := Option.some.inj hf
      subst e_
      exact k_iret X rfl hV rfl d_In_compare_19
    replace hf := kifp c_4 hf
    refine lv_iconst (v := 0) hx hb d_In_compare_14 ic_0 ?_
    refine lv_goto (tgt := 19) hx hb d_In_compare_15 (by decide) ?_
    have e_ := Option.some.inj hf
    subst e_
    exact k_iret X rfl hV rfl d_In_compare_19
  replace hf := kifn c_3 hf
  refine lv_iconst (v := (-1)) hx hb d_In_compare_5 ic_m1 ?_
  refine lv_goto (tgt := 19) hx hb d_In_compare_6 (by decide) ?_
  have e_ := Option.some.inj hf
  subst e_
  exact k_iret X rfl hV rfl d_In_compare_19
set_option maxHeartbeats 2000000 in
set_option maxRecDepth 20000 in
theorem c_In_compare {l : Launch} (D : kD) (x0 : Int32) (x1 : Int32) {out : Int32} (hf : f_In_compare x0 x1 = some out) : kMi l D y_In_compare b_In_compare 2 (some .int) { frames := 0, cells := 0, slots := 0, locals := 0 } [.int x0, .int x1] (wd_In_compare D) (wd_In_compare D) out :=
  kMi_of (own := "java/lang/Integer") (by decide +kernel) rfl rfl (fun p e s m args below meth c ls X hV hl => t_In_compare X hf hV hl)
set_option maxHeartbeats 2000000 in
set_option maxRecDepth 20000 in
theorem t_M_doPigs_1 {l : Launch} {p : Program} {e : Env} {s : State} {m : MethodId} {args : Array Value} {below : List Frame} {meth : Method} {c : Code} {D : kD} {wc0 : va_W} {h : Nat} {h_now : Nat} {h_kept : Nat} {h_aside : Nat} {h_found : Nat} {h_down : Nat} {h_along : Nat} {h_parts : Nat} {h_gone : Nat} {h_tape : Nat} {h_kinds : Nat} {h_items : Nat} {h_widths : Nat} {h_sizes : Nat} {h_numbers : Nat} {h_moved : Nat} {v_isKept : Int32} {v_taped : Int32} {v_begins : Int32} {v_ends : Int32} {v_sort : Int32} {v_value : Int32} {v_isWrong : Int32} {v_itemMany : Int32} {v_farmMany : Int32} {v_farmCells : Int64} {v_now : Nat → Int32} {v_found : Nat → Int32} {out : Int32 × (Nat → Int32)} (X : kX p m meth c s args D (va_A wc0 s.heap.size) b_M_doPigs "MountainFarmsModel" 2 (some .int)) (hf : f_M_doPigs_1 v_found = some out) {H : Heap} {locs : List Loc} (hV : kV D (va_A wc0 s.heap.size) s (wd_M_doPigs D h h_now h_kept h_aside h_found h_down h_along h_parts h_gone h_tape h_kinds h_items h_widths h_sizes h_numbers h_moved v_isKept v_taped v_begins v_ends v_sort v_value v_isWrong v_itemMany v_farmMany v_farmCells v_now v_found) H locs) {ls : Array Slot} (hl : lv_has ls 2 [(0, .ref h)]) : W p l e { frames := 1, cells := 0, slots := 0, locals := 21 } s m args below meth c H locs 0 0 (MQ below (kQi D wc0 (wd_M_doPigs D h h_now h_kept h_aside h_found h_down h_along h_parts h_gone h_tape h_kinds h_items h_widths h_sizes h_numbers h_moved v_isKept v_taped v_begins v_ends v_sort v_value v_isWrong v_itemMany v_farmMany v_farmCells v_now out.2) s.heap.size out.1) args s 0 0 (va_A wc0 s.heap.size)) (F0 m 29 ls []) := by
  unfold f_M_doPigs_1 at hf
  obtain ⟨hx, hb, -⟩ := id X
  refine lv_aload_n hx hb d_M_doPigs_29 rfl (lv_at hl 0 rfl) ?_
  refine k_ldc (v := (-1000000004)) X gw_1123 d_M_doPigs_30 ?_
  obtain ⟨r_12, v_found_13, hc_14, hf⟩ := kb2_some hf
  refine k_cvi (w1 := (wd_M_finding D h h_now h_kept h_aside h_found h_down h_along h_parts h_gone h_tape h_kinds h_items h_widths h_sizes h_numbers h_moved v_isKept v_taped v_begins v_ends v_sort v_value v_isWrong v_itemMany v_farmMany v_farmCells v_found_13)) (r := r_12) (ws' := (wd_M_doPigs D h h_now h_kept h_aside h_found h_down h_along h_parts h_gone h_tape h_kinds h_items h_widths h_sizes h_numbers h_moved v_isKept v_taped v_begins v_ends v_sort v_value v_isWrong v_itemMany v_farmMany v_farmCells v_now v_found_13)) X hV hl.1 (c_M_finding D h h_now h_kept h_aside h_found h_down h_along h_parts h_gone h_tape h_kinds h_items h_widths h_sizes h_numbers h_moved v_isKept v_taped v_begins v_ends v_sort v_value v_isWrong v_itemMany v_farmMany v_farmCells v_found (-1000000004 : Int32) hc_14) fk_M_finding gw_974 rfl 0 9 rfl rfl [0, 2] [some 0, none, some 1] rfl rfl ⟨rfl, rfl, rfl, rfl, rfl, rfl, rfl, trivial⟩ rfl rfl rfl d_M_doPigs_32 (fun H locs hV => ?_)
  have e_ := Option.some.inj hf
  subst e_
  exact k_iret X rfl hV rfl d_M_doPigs_35
set_option maxHeartbeats 2000000 in
set_option maxRecDepth 20000 in
theorem t_M_doPigs {l : Launch} {p : Program} {e : Env} {s : State} {m : MethodId} {args : Array Value} {below : List Frame} {meth : Method} {c : Code} {D : kD} {wc0 : va_W} {h : Nat} {h_now : Nat} {h_kept : Nat} {h_aside : Nat} {h_found : Nat} {h_down : Nat} {h_along : Nat} {h_parts : Nat} {h_gone : Nat} {h_tape : Nat} {h_kinds : Nat} {h_items : Nat} {h_widths : Nat} {h_sizes : Nat} {h_numbers : Nat} {h_moved : Nat} {v_isKept : Int32} {v_taped : Int32} {v_begins : Int32} {v_ends : Int32} {v_sort : Int32} {v_value : Int32} {v_isWrong : Int32} {v_itemMany : Int32} {v_farmMany : Int32} {v_farmCells : Int64} {v_now : Nat → Int32} {v_found : Nat → Int32} {out : Int32 × (Nat → Int32)} (X : kX p m meth c s args D (va_A wc0 s.heap.size) b_M_doPigs "MountainFarmsModel" 2 (some .int)) (hf : f_M_doPigs v_now v_found = some out) {H : Heap} {locs : List Loc} (hV : kV D (va_A wc0 s.heap.size) s (wd_M_doPigs D h h_now h_kept h_aside h_found h_down h_along h_parts h_gone h_tape h_kinds h_items h_widths h_sizes h_numbers h_moved v_isKept v_taped v_begins v_ends v_sort v_value v_isWrong v_itemMany v_farmMany v_farmCells v_now v_found) H locs) {ls : Array Slot} (hl : lv_has ls 2 [(0, .ref h)]) : W p l e { frames := 1, cells := 0, slots := 0, locals := 21 } s m args below meth c H locs 0 0 (MQ below (kQi D wc0 (wd_M_doPigs D h h_now h_kept h_aside h_found h_down h_along h_parts h_gone h_tape h_kinds h_items h_widths h_sizes h_numbers h_moved v_isKept v_taped v_begins v_ends v_sort v_value v_isWrong v_itemMany v_farmMany v_farmCells v_now out.2) s.heap.size out.1) args s 0 0 (va_A wc0 s.heap.size)) (F0 m 0 ls []) := by
  unfold f_M_doPigs at hf
  obtain ⟨hx, hb, -⟩ := id X
  refine lv_aload_n hx hb d_M_doPigs_0 rfl (lv_at hl 0 rfl) ?_
  refine k_get X hV 0 9 0 rfl rfl rfl gw_887 rfl rfl d_M_doPigs_1 ?_
  refine lv_iconst (v := 1) hx hb d_M_doPigs_4 ic_1 ?_
  refine k_iald X hV 1 rfl kin_1_218 kln_1 d_M_doPigs_5 ?_
  refine lv_aload_n hx hb d_M_doPigs_6 rfl (lv_at hl 0 rfl) ?_
  refine k_get X hV 0 9 0 rfl rfl rfl gw_887 rfl rfl d_M_doPigs_7 ?_
  refine lv_bipush (v := 7) hx hb d_M_doPigs_10 bp_7 ?_
  refine k_iald X hV 1 rfl kin_7_218 kln_7 d_M_doPigs_12 ?_
  refine lv_isub hx hb d_M_doPigs_13 ?_
  refine lv_istore_n (lv' := [(1, .int ((v_now 1) - (v_now 7))), (0, .ref h)]) hx hb d_M_doPigs_14 rfl hl (by decide) rfl (fun ls hl => ?_)
  refine lv_aload_n hx hb d_M_doPigs_15 rfl (lv_at hl 1 rfl) ?_
  refine k_get X hV 0 9 0 rfl rfl rfl gw_887 rfl rfl d_M_doPigs_16 ?_
  refine lv_bipush (v := 7) hx hb d_M_doPigs_19 bp_7 ?_
  refine k_iald X hV 1 rfl kin_7_218 kln_7 d_M_doPigs_21 ?_
  refine lv_if_eq (tgt := 29) hx hb d_M_doPigs_22 (by decide) (fun c_8 => ?_) (fun c_8 => ?_)
  · replace hf := kifp c_8 hf
    exact t_M_doPigs_1 X hf hV (lv_sub hl [1] rfl)
  replace hf := kifn c_8 hf
  refine lv_iload_n hx hb d_M_doPigs_25 rfl (lv_at hl 0 rfl) ?_
  refine lv_if_ne (tgt := 36) hx hb d_M_doPigs_26 (by decide) (fun c_9 => ?_) (fun c_9 => ?_)
  · replace hf := kifn c_9 hf
    refine lv_aload_n hx hb d_M_doPigs_36 rfl (lv_at hl 1 rfl) ?_
    refine k_get X hV 0 9 0 rfl rfl rfl gw_887 rfl rfl d_M_doPigs_37 ?_
    refine lv_bipush (v := 6) hx hb d_M_doPigs_40 bp_6 ?_
    refine k_iald X hV 1 rfl kin_6_218 kln_6 d_M_doPigs_42 ?_
    refine lv_aload_n hx hb d_M_doPigs_43 rfl (lv_at hl 1 rfl) ?_
    refine k_get X hV 0 9 0 rfl rfl rfl gw_887 rfl rfl d_M_doPigs_44 ?_
    refine lv_bipush (v := 8) hx hb d_M_doPigs_47 bp_8 ?_
    refine k_iald X hV 1 rfl kin_8_218 kln_8 d_M_doPigs_49 ?_
    refine lv_isub hx hb d_M_doPigs_50 ?_
    refine lv_aload_n hx hb d_M_doPigs_51 rfl (lv_at hl 1 rfl) ?_
    refine k_get X hV 0 9 0 rfl rfl rfl gw_887 rfl rfl d_M_doPigs_52 ?_
    refine lv_bipush (v := 7) hx hb d_M_doPigs_55 bp_7 ?_
    refine k_iald X hV 1 rfl kin_7_218 kln_7 d_M_doPigs_57 ?_
    refine lv_imul hx hb d_M_doPigs_58 ?_
    refine lv_aload_n hx hb d_M_doPigs_59 rfl (lv_at hl 1 rfl) ?_
    refine k_get X hV 0 9 0 rfl rfl rfl gw_887 rfl rfl d_M_doPigs_60 ?_
    refine lv_bipush (v := 8) hx hb d_M_doPigs_63 bp_8 ?_
    refine k_iald X hV 1 rfl kin_8_218 kln_8 d_M_doPigs_65 ?_
    refine lv_iload_n hx hb d_M_doPigs_66 rfl (lv_at hl 0 rfl) ?_
    refine lv_imul hx hb d_M_doPigs_67 ?_
    obtain ⟨r_10, hc_11, hf⟩ := kb1_some hf
    refine k_csi (w1 := (wd_In_compare D)) (r := r_10) (ws' := (wd_M_doPigs D h h_now h_kept h_aside h_found h_down h_along h_parts h_gone h_tape h_kinds h_items h_widths h_sizes h_numbers h_moved v_isKept v_taped v_begins v_ends v_sort v_value v_isWrong v_itemMany v_farmMany v_farmCells v_now v_found)) X hV hl.1 (c_In_compare D (((v_now 6) - (v_now 8)) * (v_now 7)) ((v_now 8) * ((v_now 1) - (v_now 7))) hc_11) fk_In_compare gw_1232 rfl [] [none, none, none] rfl rfl ⟨rfl, rfl, rfl, trivial⟩ rfl rfl rfl d_M_doPigs_68 (fun H locs hV => ?_)
    have e_ := Option.some.inj hf
    subst e_
    exact k_iret X rfl hV rfl d_M_doPigs_71
  replace hf := kifp c_9 hf
  exact t_M_doPigs_1 X hf hV (lv_sub hl [1] rfl)
set_option maxHeartbeats 2000000 in
set_option maxRecDepth 20000 in
theorem c_M_doPigs {l : Launch} (D : kD) (h : Nat) (h_now : Nat) (h_kept : Nat) (h_aside : Nat) (h_found : Nat) (h_down : Nat) (h_along : Nat) (h_parts : Nat) (h_gone : Nat) (h_tape : Nat) (h_kinds : Nat) (h_items : Nat) (h_widths : Nat) (h_sizes : Nat) (h_numbers : Nat) (h_moved : Nat) (v_isKept : Int32) (v_taped : Int32) (v_begins : Int32) (v_ends : Int32) (v_sort : Int32) (v_value : Int32) (v_isWrong : Int32) (v_itemMany : Int32) (v_farmMany : Int32) (v_farmCells : Int64) (v_now : Nat → Int32) (v_found : Nat → Int32) {out : Int32 × (Nat → Int32)} (hf : f_M_doPigs v_now v_found = some out) : kMi l D y_M_doPigs b_M_doPigs 2 (some .int) { frames := 1, cells := 0, slots := 0, locals := 21 } [.ref h] (wd_M_doPigs D h h_now h_kept h_aside h_found h_down h_along h_parts h_gone h_tape h_kinds h_items h_widths h_sizes h_numbers h_moved v_isKept v_taped v_begins v_ends v_sort v_value v_isWrong v_itemMany v_farmMany v_farmCells v_now v_found) (wd_M_doPigs D h h_now h_kept h_aside h_found h_down h_along h_parts h_gone h_tape h_kinds h_items h_widths h_sizes h_numbers h_moved v_isKept v_taped v_begins v_ends v_sort v_value v_isWrong v_itemMany v_farmMany v_farmCells v_now out.2) out.1 :=
  kMi_of (own := "MountainFarmsModel") (plainFor_of_name (by decide)) rfl rfl (fun p e s m args below meth c ls X hV hl => t_M_doPigs X hf hV hl)
set_option maxHeartbeats 2000000 in
set_option maxRecDepth 20000 in
theorem t_M_putBack {l : Launch} {p : Program} {e : Env} {s : State} {m : MethodId} {args : Array Value} {below : List Frame} {meth : Method} {c : Code} {D : kD} {wc0 : va_W} {h : Nat} {h_now : Nat} {h_kept : Nat} {h_aside : Nat} {h_found : Nat} {h_down : Nat} {h_along : Nat} {h_parts : Nat} {h_gone : Nat} {h_tape : Nat} {h_kinds : Nat} {h_items : Nat} {h_widths : Nat} {h_sizes : Nat} {h_numbers : Nat} {h_moved : Nat} {v_isKept : Int32} {v_taped : Int32} {v_begins : Int32} {v_ends : Int32} {v_sort : Int32} {v_value : Int32} {v_isWrong : Int32} {v_itemMany : Int32} {v_farmMany : Int32} {v_farmCells : Int64} {v_now : Nat → Int32} {v_aside : Nat → Int32} {x1 : Int32} {out : Int32 × (Nat → Int32)} (X : kX p m meth c s args D (va_A wc0 s.heap.size) b_M_putBack "MountainFarmsModel" 2 (some .int)) (hf : f_M_putBack v_now v_aside x1 = some out) {H : Heap} {locs : List Loc} (hV : kV D (va_A wc0 s.heap.size) s (wd_M_putBack D h h_now h_kept h_aside h_found h_down h_along h_parts h_gone h_tape h_kinds h_items h_widths h_sizes h_numbers h_moved v_isKept v_taped v_begins v_ends v_sort v_value v_isWrong v_itemMany v_farmMany v_farmCells v_now v_aside) H locs) {ls : Array Slot} (hl : lv_has ls 2 [(0, .ref h), (1, .int x1)]) : W p l e { frames := 1, cells := 0, slots := 0, locals := 22 } s m args below meth c H locs 0 0 (MQ below (kQi D wc0 (wd_M_putBack D h h_now h_kept h_aside h_found h_down h_along h_parts h_gone h_tape h_kinds h_items h_widths h_sizes h_numbers h_moved v_isKept v_taped v_begins v_ends v_sort v_value v_isWrong v_itemMany v_farmMany v_farmCells out.2 v_aside) s.heap.size out.1) args s 0 0 (va_A wc0 s.heap.size)) (F0 m 0 ls []) := by
  unfold f_M_putBack at hf
  obtain ⟨hx, hb, -⟩ := id X
  refine lv_aload_n hx hb d_M_putBack_0 rfl (lv_at hl 0 rfl) ?_
  refine k_get X hV 0 9 2 rfl rfl rfl gw_889 rfl rfl d_M_putBack_1 ?_
  refine lv_aload_n hx hb d_M_putBack_4 rfl (lv_at hl 0 rfl) ?_
  refine k_get X hV 0 9 0 rfl rfl rfl gw_887 rfl rfl d_M_putBack_5 ?_
  obtain ⟨v_now_3, hc_4, hf⟩ := kb1_some hf
  refine k_csv (w1 := (wd_M_copyRow D h_aside h_now v_aside v_now_3)) (ws' := (wd_M_putBack D h h_now h_kept h_aside h_found h_down h_along h_parts h_gone h_tape h_kinds h_items h_widths h_sizes h_numbers h_moved v_isKept v_taped v_begins v_ends v_sort v_value v_isWrong v_itemMany v_farmMany v_farmCells v_now_3 v_aside)) X hV hl.1 (c_M_copyRow D h_aside h_now v_aside v_now hc_4) fk_M_copyRow gw_1145 rfl [2, 1] [none, some 1, some 0] rfl rfl ⟨rfl, rfl, rfl, rfl, rfl, rfl, rfl, trivial⟩ rfl rfl rfl d_M_putBack_8 (fun H locs hV => ?_)
  refine lv_iload_n hx hb d_M_putBack_11 rfl (lv_at hl 1 rfl) ?_
  have e_ := Option.some.inj hf
  subst e_
  exact k_iret X rfl hV rfl d_M_putBack_12
set_option maxHeartbeats 2000000 in
set_option maxRecDepth 20000 in
theorem c_M_putBack {l : Launch} (D : kD) (h : Nat) (h_now : Nat) (h_kept : Nat) (h_aside : Nat) (h_found : Nat) (h_down : Nat) (h_along : Nat) (h_parts : Nat) (h_gone : Nat) (h_tape : Nat) (h_kinds : Nat) (h_items : Nat) (h_widths : Nat) (h_sizes : Nat) (h_numbers : Nat) (h_moved : Nat) (v_isKept : Int32) (v_taped : Int32) (v_begins : Int32) (v_ends : Int32) (v_sort : Int32) (v_value : Int32) (v_isWrong : Int32) (v_itemMany : Int32) (v_farmMany : Int32) (v_farmCells : Int64) (v_now : Nat → Int32) (v_aside : Nat → Int32) (x1 : Int32) {out : Int32 × (Nat → Int32)} (hf : f_M_putBack v_now v_aside x1 = some out) : kMi l D y_M_putBack b_M_putBack 2 (some .int) { frames := 1, cells := 0, slots := 0, locals := 22 } [.ref h, .int x1] (wd_M_putBack D h h_now h_kept h_aside h_found h_down h_along h_parts h_gone h_tape h_kinds h_items h_widths h_sizes h_numbers h_moved v_isKept v_taped v_begins v_ends v_sort v_value v_isWrong v_itemMany v_farmMany v_farmCells v_now v_aside) (wd_M_putBack D h h_now h_kept h_aside h_found h_down h_along h_parts h_gone h_tape h_kinds h_items h_widths h_sizes h_numbers h_moved v_isKept v_taped v_begins v_ends v_sort v_value v_isWrong v_itemMany v_farmMany v_farmCells out.2 v_aside) out.1 :=
  kMi_of (own := "MountainFarmsModel") (plainFor_of_name (by decide)) rfl rfl (fun p e s m args below meth c ls X hV hl => t_M_putBack X hf hV hl)
set_option maxHeartbeats 2000000 in
set_option maxRecDepth 20000 in
theorem t_M_out_2 {l : Launch} {p : Program} {e : Env} {s : State} {m : MethodId} {args : Array Value} {below : List Frame} {meth : Method} {c : Code} {D : kD} {wc0 : va_W} {h : Nat} {h_now : Nat} {h_kept : Nat} {h_aside : Nat} {h_found : Nat} {h_down : Nat} {h_along : Nat} {h_parts : Nat} {h_gone : Nat} {h_tape : Nat} {h_kinds : Nat} {h_items : Nat} {h_widths : Nat} {h_sizes : Nat} {h_numbers : Nat} {h_moved : Nat} {v_isKept : Int32} {v_taped : Int32} {v_begins : Int32} {v_ends : Int32} {v_sort : Int32} {v_value : Int32} {v_isWrong : Int32} {v_itemMany : Int32} {v_farmMany : Int32} {v_farmCells : Int64} {v_now : Nat → Int32} {v_aside : Nat → Int32} {v_found : Nat → Int32} {v_down : Nat → Int32} {v_along : Nat → Int32} {x1 : Int32} {out : Int32 × (Nat → Int32) × (Nat → Int32) × (Nat → Int32)} (X : kX p m meth c s args D (va_A wc0 s.heap.size) b_M_out "MountainFarmsModel" 2 (some .int)) (hf : f_M_out_2 x1 v_now v_aside v_found = some out) {H : Heap} {locs : List Loc} (hV : kV D (va_A wc0 s.heap.size) s (wd_M_out D h h_now h_kept h_aside h_found h_down h_along h_parts h_gone h_tape h_kinds h_items h_widths h_sizes h_numbers h_moved v_isKept v_taped v_begins v_ends v_sort v_value v_isWrong v_itemMany v_farmMany v_farmCells v_now v_aside v_found v_down v_along) H locs) {ls : Array Slot} (hl : lv_has ls 2 [(0, .ref h), (1, .int x1)]) : W p l e { frames := 6, cells := 0, slots := 0, locals := 146 } s m args below meth c H locs 0 0 (MQ below (kQi D wc0 (wd_M_out D h h_now h_kept h_aside h_found h_down h_along h_parts h_gone h_tape h_kinds h_items h_widths h_sizes h_numbers h_moved v_isKept v_taped v_begins v_ends v_sort v_value v_isWrong v_itemMany v_farmMany v_farmCells out.2.1 out.2.2.1 out.2.2.2 v_down v_along) s.heap.size out.1) args s 0 0 (va_A wc0 s.heap.size)) (F0 m 50 ls []) := by
  unfold f_M_out_2 at hf
  obtain ⟨hx, hb, -⟩ := id X
  refine lv_aload_n hx hb d_M_out_50 rfl (lv_at hl 0 rfl) ?_
  refine lv_iload_n hx hb d_M_out_51 rfl (lv_at hl 1 rfl) ?_
  obtain ⟨r_34, v_now_35, hc_36, hf⟩ := kb2_some hf
  refine k_cvi (w1 := (wd_M_putBack D h h_now h_kept h_aside h_found h_down h_along h_parts h_gone h_tape h_kinds h_items h_widths h_sizes h_numbers h_moved v_isKept v_taped v_begins v_ends v_sort v_value v_isWrong v_itemMany v_farmMany v_farmCells v_now_35 v_aside)) (r := r_34) (ws' := (wd_M_out D h h_now h_kept h_aside h_found h_down h_along h_parts h_gone h_tape h_kinds h_items h_widths h_sizes h_numbers h_moved v_isKept v_taped v_begins v_ends v_sort v_value v_isWrong v_itemMany v_farmMany v_farmCells v_now_35 v_aside v_found v_down v_along)) X hV hl.1 (c_M_putBack D h h_now h_kept h_aside h_found h_down h_along h_parts h_gone h_tape h_kinds h_items h_widths h_sizes h_numbers h_moved v_isKept v_taped v_begins v_ends v_sort v_value v_isWrong v_itemMany v_farmMany v_farmCells v_now v_aside x1 hc_36) fk_M_putBack gw_1239 rfl 0 9 rfl rfl [0, 1, 2] [some 0, some 1, some 2, none, none, none] rfl rfl ⟨rfl, rfl, rfl, rfl, rfl, rfl, rfl, rfl, rfl, rfl, rfl, rfl, trivial⟩ rfl rfl rfl d_M_out_52 (fun H locs hV => ?_)
  refine lv_sipush (v := 240) hx hb d_M_out_55 sp_240 ?_
  refine lv_icmp_le (tgt := 70) hx hb d_M_out_58 (by decide) (fun c_37 => ?_) (fun c_37 => ?_)
  · replace hf := kifp c_37 hf
    refine lv_iload_n hx hb d_M_out_70 rfl (lv_at hl 1 rfl) ?_
    have e_ := Option.some.inj hf
    subst e_
    exact k_iret X rfl hV rfl d_M_out_71
  replace hf := kifn c_37 hf
  refine lv_aload_n hx hb d_M_out_61 rfl (lv_at hl 0 rfl) ?_
  refine k_ldc (v := (-1000000004)) X gw_1123 d_M_out_62 ?_
  obtain ⟨r_38, v_found_39, hc_40, hf⟩ := kb2_some hf
  refine k_cvi (w1 := (wd_M_finding D h h_now h_kept h_aside h_found h_down h_along h_parts h_gone h_tape h_kinds h_items h_widths h_sizes h_numbers h_moved v_isKept v_taped v_begins v_ends v_sort v_value v_isWrong v_itemMany v_farmMany v_farmCells v_found_39)) (r := r_38) (ws' := (wd_M_out D h h_now h_kept h_aside h_found h_down h_along h_parts h_gone h_tape h_kinds h_items h_widths h_sizes h_numbers h_moved v_isKept v_taped v_begins v_ends v_sort v_value v_isWrong v_itemMany v_farmMany v_farmCells v_now_35 v_aside v_found_39 v_down v_along)) X hV hl.1 (c_M_finding D h h_now h_kept h_aside h_found h_down h_along h_parts h_gone h_tape h_kinds h_items h_widths h_sizes h_numbers h_moved v_isKept v_taped v_begins v_ends v_sort v_value v_isWrong v_itemMany v_farmMany v_farmCells v_found (-1000000004 : Int32) hc_40) fk_M_finding gw_974 rfl 0 9 rfl rfl [0, 3] [some 0, none, none, some 1, none, none] rfl rfl ⟨rfl, rfl, rfl, rfl, rfl, rfl, rfl, rfl, rfl, rfl, trivial⟩ rfl rfl rfl d_M_out_64 (fun H locs hV => ?_)
  refine lv_goto (tgt := 71) hx hb d_M_out_67 (by decide) ?_
  have e_ := Option.some.inj hf
  subst e_
  exact k_iret X rfl hV rfl d_M_out_71
set_option maxHeartbeats 2000000 in
set_option maxRecDepth 20000 in
theorem tb_M_out_1 {l : Launch} {p : Program} {e : Env} {s : State} {m : MethodId} {args : Array Value} {below : List Frame} {meth : Method} {c : Code} {D : kD} {wc0 : va_W} {h : Nat} {h_now : Nat} {h_kept : Nat} {h_aside : Nat} {h_found : Nat} {h_down : Nat} {h_along : Nat} {h_parts : Nat} {h_gone : Nat} {h_tape : Nat} {h_kinds : Nat} {h_items : Nat} {h_widths : Nat} {h_sizes : Nat} {h_numbers : Nat} {h_moved : Nat} {v_isKept : Int32} {v_taped : Int32} {v_begins : Int32} {v_ends : Int32} {v_sort : Int32} {v_value : Int32} {v_isWrong : Int32} {v_itemMany : Int32} {v_farmMany : Int32} {v_farmCells : Int64} {v_now : Nat → Int32} {v_aside : Nat → Int32} {v_found : Nat → Int32} {v_down : Nat → Int32} {v_along : Nat → Int32} {x1 : Int32} {rec1 : Int32 → (Nat → Int32) → Option (Int32 × (Nat → Int32) × (Nat → Int32) × (Nat → Int32))} {out : Int32 × (Nat → Int32) × (Nat → Int32) × (Nat → Int32)} (X : kX p m meth c s args D (va_A wc0 s.heap.size) b_M_out "MountainFarmsModel" 2 (some .int)) (hrec1 : ∀ (x1 : Int32) (v_now : Nat → Int32), rec1 x1 v_now = some out → ∀ (H : Heap) (locs : List Loc) (ls : Array Slot), kV D (va_A wc0 s.heap.size) s (wd_M_out D h h_now h_kept h_aside h_found h_down h_along h_parts h_gone h_tape h_kinds h_items h_widths h_sizes h_numbers h_moved v_isKept v_taped v_begins v_ends v_sort v_value v_isWrong v_itemMany v_farmMany v_farmCells v_now v_aside v_found v_down v_along) H locs → lv_has ls 2 [(0, .ref h), (1, .int x1)] → W p l e { frames := 6, cells := 0, slots := 0, locals := 146 } s m args below meth c H locs 0 0 (MQ below (kQi D wc0 (wd_M_out D h h_now h_kept h_aside h_found h_down h_along h_parts h_gone h_tape h_kinds h_items h_widths h_sizes h_numbers h_moved v_isKept v_taped v_begins v_ends v_sort v_value v_isWrong v_itemMany v_farmMany v_farmCells out.2.1 out.2.2.1 out.2.2.2 v_down v_along) s.heap.size out.1) args s 0 0 (va_A wc0 s.heap.size)) (F0 m 30 ls [])) (hf : fb_M_out_1 rec1 v_aside v_found v_down v_along x1 v_now = some out) {H : Heap} {locs : List Loc} (hV : kV D (va_A wc0 s.heap.size) s (wd_M_out D h h_now h_kept h_aside h_found h_down h_along h_parts h_gone h_tape h_kinds h_items h_widths h_sizes h_numbers h_moved v_isKept v_taped v_begins v_ends v_sort v_value v_isWrong v_itemMany v_farmMany v_farmCells v_now v_aside v_found v_down v_along) H locs) {ls : Array Slot} (hl : lv_has ls 2 [(0, .ref h), (1, .int x1)]) : W p l e { frames := 6, cells := 0, slots := 0, locals := 146 } s m args below meth c H locs 0 0 (MQ below (kQi D wc0 (wd_M_out D h h_now h_kept h_aside h_found h_down h_along h_parts h_gone h_tape h_kinds h_items h_widths h_sizes h_numbers h_moved v_isKept v_taped v_begins v_ends v_sort v_value v_isWrong v_itemMany v_farmMany v_farmCells out.2.1 out.2.2.1 out.2.2.2 v_down v_along) s.heap.size out.1) args s 0 0 (va_A wc0 s.heap.size)) (F0 m 30 ls []) := by
  unfold fb_M_out_1 at hf
  obtain ⟨hx, hb, -⟩ := id X
  refine lv_iload_n hx hb d_M_out_30 rfl (lv_at hl 1 rfl) ?_
  refine lv_sipush (v := 240) hx hb d_M_out_31 sp_240 ?_
  refine lv_icmp_gt (tgt := 50) hx hb d_M_out_34 (by decide) (fun c_29 => ?_) (fun c_29 => ?_)
  · replace hf := kifp c_29 hf
    exact t_M_out_2 X hf hV (lv_sub hl [0, 1] rfl)
  replace hf := kifn c_29 hf
  refine lv_aload_n hx hb d_M_out_37 rfl (lv_at hl 0 rfl) ?_
  obtain ⟨r_30, v_now_31, hc_32, hf⟩ := kb2_some hf
  refine k_cvi (w1 := (wd_M_month D h h_now h_kept h_aside h_found h_down h_along h_parts h_gone h_tape h_kinds h_items h_widths h_sizes h_numbers h_moved v_isKept v_taped v_begins v_ends v_sort v_value v_isWrong v_itemMany v_farmMany v_farmCells v_now_31 v_down v_along)) (r := r_30) (ws' := (wd_M_out D h h_now h_kept h_aside h_found h_down h_along h_parts h_gone h_tape h_kinds h_items h_widths h_sizes h_numbers h_moved v_isKept v_taped v_begins v_ends v_sort v_value v_isWrong v_itemMany v_farmMany v_farmCells v_now_31 v_aside v_found v_down v_along)) X hV hl.1 (c_M_month D h h_now h_kept h_aside h_found h_down h_along h_parts h_gone h_tape h_kinds h_items h_widths h_sizes h_numbers h_moved v_isKept v_taped v_begins v_ends v_sort v_value v_isWrong v_itemMany v_farmMany v_farmCells v_now v_down v_along hc_32) fk_M_month gw_1203 rfl 0 9 rfl rfl [0, 1, 4, 5] [some 0, some 1, none, none, some 2, some 3] rfl rfl ⟨rfl, rfl, rfl, rfl, rfl, rfl, rfl, rfl, rfl, rfl, rfl, rfl, rfl, rfl, trivial⟩ rfl rfl rfl d_M_out_38 (fun H locs hV => ?_)
  refine lv_if_ne (tgt := 50) hx hb d_M_out_41 (by decide) (fun c_33 => ?_) (fun c_33 => ?_)
  · replace hf := kifn c_33 hf
    exact t_M_out_2 X hf hV (lv_sub hl [0, 1] rfl)
  replace hf := kifp c_33 hf
  refine lv_iinc (v := (x1 + 1)) (lv' := [(1, .int (x1 + 1)), (0, .ref h)]) hx hb d_M_out_44 hl (k := 1) rfl rfl (by decide) rfl (fun ls hl => ?_)
  refine lv_goto (tgt := 30) hx hb d_M_out_47 (by decide) ?_
  exact hrec1 _ _ hf _ _ _ hV (lv_sub hl [1, 0] rfl)
set_option maxHeartbeats 2000000 in
set_option maxRecDepth 20000 in
theorem tl_M_out_1 {l : Launch} {p : Program} {e : Env} {s : State} {m : MethodId} {args : Array Value} {below : List Frame} {meth : Method} {c : Code} {D : kD} {wc0 : va_W} {h : Nat} {h_now : Nat} {h_kept : Nat} {h_aside : Nat} {h_found : Nat} {h_down : Nat} {h_along : Nat} {h_parts : Nat} {h_gone : Nat} {h_tape : Nat} {h_kinds : Nat} {h_items : Nat} {h_widths : Nat} {h_sizes : Nat} {h_numbers : Nat} {h_moved : Nat} {v_isKept : Int32} {v_taped : Int32} {v_begins : Int32} {v_ends : Int32} {v_sort : Int32} {v_value : Int32} {v_isWrong : Int32} {v_itemMany : Int32} {v_farmMany : Int32} {v_farmCells : Int64} {v_aside : Nat → Int32} {v_found : Nat → Int32} {v_down : Nat → Int32} {v_along : Nat → Int32} {out : Int32 × (Nat → Int32) × (Nat → Int32) × (Nat → Int32)} (X : kX p m meth c s args D (va_A wc0 s.heap.size) b_M_out "MountainFarmsModel" 2 (some .int)) : ∀ (n : Nat) (x1 : Int32) (v_now : Nat → Int32), fl_M_out_1 v_aside v_found v_down v_along n x1 v_now = some out → ∀ (H : Heap) (locs : List Loc) (ls : Array Slot), kV D (va_A wc0 s.heap.size) s (wd_M_out D h h_now h_kept h_aside h_found h_down h_along h_parts h_gone h_tape h_kinds h_items h_widths h_sizes h_numbers h_moved v_isKept v_taped v_begins v_ends v_sort v_value v_isWrong v_itemMany v_farmMany v_farmCells v_now v_aside v_found v_down v_along) H locs → lv_has ls 2 [(0, .ref h), (1, .int x1)] → W p l e { frames := 6, cells := 0, slots := 0, locals := 146 } s m args below meth c H locs 0 0 (MQ below (kQi D wc0 (wd_M_out D h h_now h_kept h_aside h_found h_down h_along h_parts h_gone h_tape h_kinds h_items h_widths h_sizes h_numbers h_moved v_isKept v_taped v_begins v_ends v_sort v_value v_isWrong v_itemMany v_farmMany v_farmCells out.2.1 out.2.2.1 out.2.2.2 v_down v_along) s.heap.size out.1) args s 0 0 (va_A wc0 s.heap.size)) (F0 m 30 ls []) := by
  intro n
  induction n with
  | zero => intro x1 v_now hf; exact knone hf
  | succ n ih => intro x1 v_now hf H locs ls hV hl; exact tb_M_out_1 X ih hf hV hl
set_option maxHeartbeats 2000000 in
set_option maxRecDepth 20000 in
theorem t_M_out {l : Launch} {p : Program} {e : Env} {s : State} {m : MethodId} {args : Array Value} {below : List Frame} {meth : Method} {c : Code} {D : kD} {wc0 : va_W} {h : Nat} {h_now : Nat} {h_kept : Nat} {h_aside : Nat} {h_found : Nat} {h_down : Nat} {h_along : Nat} {h_parts : Nat} {h_gone : Nat} {h_tape : Nat} {h_kinds : Nat} {h_items : Nat} {h_widths : Nat} {h_sizes : Nat} {h_numbers : Nat} {h_moved : Nat} {v_isKept : Int32} {v_taped : Int32} {v_begins : Int32} {v_ends : Int32} {v_sort : Int32} {v_value : Int32} {v_isWrong : Int32} {v_itemMany : Int32} {v_farmMany : Int32} {v_farmCells : Int64} {v_now : Nat → Int32} {v_aside : Nat → Int32} {v_found : Nat → Int32} {v_down : Nat → Int32} {v_along : Nat → Int32} {out : Int32 × (Nat → Int32) × (Nat → Int32) × (Nat → Int32)} (X : kX p m meth c s args D (va_A wc0 s.heap.size) b_M_out "MountainFarmsModel" 2 (some .int)) (hf : f_M_out v_now v_aside v_found v_down v_along = some out) {H : Heap} {locs : List Loc} (hV : kV D (va_A wc0 s.heap.size) s (wd_M_out D h h_now h_kept h_aside h_found h_down h_along h_parts h_gone h_tape h_kinds h_items h_widths h_sizes h_numbers h_moved v_isKept v_taped v_begins v_ends v_sort v_value v_isWrong v_itemMany v_farmMany v_farmCells v_now v_aside v_found v_down v_along) H locs) {ls : Array Slot} (hl : lv_has ls 2 [(0, .ref h)]) : W p l e { frames := 6, cells := 0, slots := 0, locals := 146 } s m args below meth c H locs 0 0 (MQ below (kQi D wc0 (wd_M_out D h h_now h_kept h_aside h_found h_down h_along h_parts h_gone h_tape h_kinds h_items h_widths h_sizes h_numbers h_moved v_isKept v_taped v_begins v_ends v_sort v_value v_isWrong v_itemMany v_farmMany v_farmCells out.2.1 out.2.2.1 out.2.2.2 v_down v_along) s.heap.size out.1) args s 0 0 (va_A wc0 s.heap.size)) (F0 m 0 ls []) := by
  unfold f_M_out at hf
  obtain ⟨hx, hb, -⟩ := id X
  refine lv_aload_n hx hb d_M_out_0 rfl (lv_at hl 0 rfl) ?_
  refine lv_sipush (v := 240) hx hb d_M_out_1 sp_240 ?_
  obtain ⟨r_21, hc_22, hf⟩ := kb1_some hf
  refine k_cvi (w1 := (wd_M_isTooLate D h h_now h_kept h_aside h_found h_down h_along h_parts h_gone h_tape h_kinds h_items h_widths h_sizes h_numbers h_moved v_isKept v_taped v_begins v_ends v_sort v_value v_isWrong v_itemMany v_farmMany v_farmCells v_now)) (r := r_21) (ws' := (wd_M_out D h h_now h_kept h_aside h_found h_down h_along h_parts h_gone h_tape h_kinds h_items h_widths h_sizes h_numbers h_moved v_isKept v_taped v_begins v_ends v_sort v_value v_isWrong v_itemMany v_farmMany v_farmCells v_now v_aside v_found v_down v_along)) X hV hl.1 (c_M_isTooLate D h h_now h_kept h_aside h_found h_down h_along h_parts h_gone h_tape h_kinds h_items h_widths h_sizes h_numbers h_moved v_isKept v_taped v_begins v_ends v_sort v_value v_isWrong v_itemMany v_farmMany v_farmCells v_now (240 : Int32) hc_22) fk_M_isTooLate gw_1195 rfl 0 9 rfl rfl [0, 1] [some 0, some 1, none, none, none, none] rfl rfl ⟨rfl, rfl, rfl, rfl, rfl, rfl, rfl, rfl, rfl, rfl, trivial⟩ rfl rfl rfl d_M_out_4 (fun H locs hV => ?_)
  refine lv_if_eq (tgt := 17) hx hb d_M_out_7 (by decide) (fun c_23 => ?_) (fun c_23 => ?_)
  · replace hf := kifp c_23 hf
    refine lv_aload_n hx hb d_M_out_17 rfl (lv_at hl 0 rfl) ?_
    refine k_get X hV 0 9 0 rfl rfl rfl gw_887 rfl rfl d_M_out_18 ?_
    refine lv_aload_n hx hb d_M_out_21 rfl (lv_at hl 0 rfl) ?_
    refine k_get X hV 0 9 2 rfl rfl rfl gw_889 rfl rfl d_M_out_22 ?_
    obtain ⟨v_aside_24, hc_25, hf⟩ := kb1_some hf
    refine k_csv (w1 := (wd_M_copyRow D h_now h_aside v_now v_aside_24)) (ws' := (wd_M_out D h h_now h_kept h_aside h_found h_down h_along h_parts h_gone h_tape h_kinds h_items h_widths h_sizes h_numbers h_moved v_isKept v_taped v_begins v_ends v_sort v_value v_isWrong v_itemMany v_farmMany v_farmCells v_now v_aside_24 v_found v_down v_along)) X hV hl.1 (c_M_copyRow D h_now h_aside v_now v_aside hc_25) fk_M_copyRow gw_1145 rfl [1, 2] [none, some 0, some 1, none, none, none] rfl rfl ⟨rfl, rfl, rfl, rfl, rfl, rfl, rfl, rfl, rfl, rfl, trivial⟩ rfl rfl rfl d_M_out_25 (fun H locs hV => ?_)
    refine lv_iconst (v := 1) hx hb d_M_out_28 ic_1 ?_
    refine lv_istore_n (lv' := [(1, .int (1 : Int32)), (0, .ref h)]) hx hb d_M_out_29 rfl hl (by decide) rfl (fun ls hl => ?_)
    exact tl_M_out_1 X _ _ _ hf _ _ _ hV (lv_sub hl [1, 0] rfl)
  replace hf := kifn c_23 hf
  refine lv_aload_n hx hb d_M_out_10 rfl (lv_at hl 0 rfl) ?_
  refine k_ldc (v := (-1000000005)) X gw_1025 d_M_out_11 ?_
  obtain ⟨r_26, v_found_27, hc_28, hf⟩ := kb2_some hf
  refine k_cvi (w1 := (wd_M_finding D h h_now h_kept h_aside h_found h_down h_along h_parts h_gone h_tape h_kinds h_items h_widths h_sizes h_numbers h_moved v_isKept v_taped v_begins v_ends v_sort v_value v_isWrong v_itemMany v_farmMany v_farmCells v_found_27)) (r := r_26) (ws' := (wd_M_out D h h_now h_kept h_aside h_found h_down h_along h_parts h_gone h_tape h_kinds h_items h_widths h_sizes h_numbers h_moved v_isKept v_taped v_begins v_ends v_sort v_value v_isWrong v_itemMany v_farmMany v_farmCells v_now v_aside v_found_27 v_down v_along)) X hV hl.1 (c_M_finding D h h_now h_kept h_aside h_found h_down h_along h_parts h_gone h_tape h_kinds h_items h_widths h_sizes h_numbers h_moved v_isKept v_taped v_begins v_ends v_sort v_value v_isWrong v_itemMany v_farmMany v_farmCells v_found (-1000000005 : Int32) hc_28) fk_M_finding gw_974 rfl 0 9 rfl rfl [0, 3] [some 0, none, none, some 1, none, none] rfl rfl ⟨rfl, rfl, rfl, rfl, rfl, rfl, rfl, rfl, rfl, rfl, trivial⟩ rfl rfl rfl d_M_out_13 (fun H locs hV => ?_)
  have e_ := Option.some.inj hf
  subst e_
  exact k_iret X rfl hV rfl d_M_out_16
set_option maxHeartbeats 2000000 in
set_option maxRecDepth 20000 in
theorem c_M_out {l : Launch} (D : kD) (h : Nat) (h_now : Nat) (h_kept : Nat) (h_aside : Nat) (h_found : Nat) (h_down : Nat) (h_along : Nat) (h_parts : Nat) (h_gone : Nat) (h_tape : Nat) (h_kinds : Nat) (h_items : Nat) (h_widths : Nat) (h_sizes : Nat) (h_numbers : Nat) (h_moved : Nat) (v_isKept : Int32) (v_taped : Int32) (v_begins : Int32) (v_ends : Int32) (v_sort : Int32) (v_value : Int32) (v_isWrong : Int32) (v_itemMany : Int32) (v_farmMany : Int32) (v_farmCells : Int64) (v_now : Nat → Int32) (v_aside : Nat → Int32) (v_found : Nat → Int32) (v_down : Nat → Int32) (v_along : Nat → Int32) {out : Int32 × (Nat → Int32) × (Nat → Int32) × (Nat → Int32)} (hf : f_M_out v_now v_aside v_found v_down v_along = some out) : kMi l D y_M_out b_M_out 2 (some .int) { frames := 6, cells := 0, slots := 0, locals := 146 } [.ref h] (wd_M_out D h h_now h_kept h_aside h_found h_down h_along h_parts h_gone h_tape h_kinds h_items h_widths h_sizes h_numbers h_moved v_isKept v_taped v_begins v_ends v_sort v_value v_isWrong v_itemMany v_farmMany v_farmCells v_now v_aside v_found v_down v_along) (wd_M_out D h h_now h_kept h_aside h_found h_down h_along h_parts h_gone h_tape h_kinds h_items h_widths h_sizes h_numbers h_moved v_isKept v_taped v_begins v_ends v_sort v_value v_isWrong v_itemMany v_farmMany v_farmCells out.2.1 out.2.2.1 out.2.2.2 v_down v_along) out.1 :=
  kMi_of (own := "MountainFarmsModel") (plainFor_of_name (by decide)) rfl rfl (fun p e s m args below meth c ls X hV hl => t_M_out X hf hV hl)
set_option maxHeartbeats 2000000 in
set_option maxRecDepth 20000 in
theorem t_M_on_1 {l : Launch} {p : Program} {e : Env} {s : State} {m : MethodId} {args : Array Value} {below : List Frame} {meth : Method} {c : Code} {D : kD} {wc0 : va_W} {h : Nat} {h_now : Nat} {h_kept : Nat} {h_aside : Nat} {h_found : Nat} {h_down : Nat} {h_along : Nat} {h_parts : Nat} {h_gone : Nat} {h_tape : Nat} {h_kinds : Nat} {h_items : Nat} {h_widths : Nat} {h_sizes : Nat} {h_numbers : Nat} {h_moved : Nat} {v_isKept : Int32} {v_taped : Int32} {v_begins : Int32} {v_ends : Int32} {v_sort : Int32} {v_value : Int32} {v_isWrong : Int32} {v_itemMany : Int32} {v_farmMany : Int32} {v_farmCells : Int64} {v_now : Nat → Int32} {v_aside : Nat → Int32} {v_found : Nat → Int32} {v_down : Nat → Int32} {v_along : Nat → Int32} {out : Int32 × (Nat → Int32) × (Nat → Int32) × (Nat → Int32)} (X : kX p m meth c s args D (va_A wc0 s.heap.size) b_M_on "MountainFarmsModel" 5 (some .int)) (hf : f_M_on_1 v_now v_aside v_found = some out) {H : Heap} {locs : List Loc} (hV : kV D (va_A wc0 s.heap.size) s (wd_M_on D h h_now h_kept h_aside h_found h_down h_along h_parts h_gone h_tape h_kinds h_items h_widths h_sizes h_numbers h_moved v_isKept v_taped v_begins v_ends v_sort v_value v_isWrong v_itemMany v_farmMany v_farmCells v_now v_aside v_found v_down v_along) H locs) {ls : Array Slot} (hl : lv_has ls 5 [(0, .ref h)]) : W p l e { frames := 7, cells := 0, slots := 0, locals := 169 } s m args below meth c H locs 0 0 (MQ below (kQi D wc0 (wd_M_on D h h_now h_kept h_aside h_found h_down h_along h_parts h_gone h_tape h_kinds h_items h_widths h_sizes h_numbers h_moved v_isKept v_taped v_begins v_ends v_sort v_value v_isWrong v_itemMany v_farmMany v_farmCells out.2.1 out.2.2.1 out.2.2.2 v_down v_along) s.heap.size out.1) args s 0 0 (va_A wc0 s.heap.size)) (F0 m 20 ls []) := by
  unfold f_M_on_1 at hf
  obtain ⟨hx, hb, -⟩ := id X
  refine lv_aload_n hx hb d_M_on_20 rfl (lv_at hl 0 rfl) ?_
  refine k_ldc (v := (-1000000001)) X gw_973 d_M_on_21 ?_
  obtain ⟨r_49, v_found_50, hc_51, hf⟩ := kb2_some hf
  refine k_cvi (w1 := (wd_M_finding D h h_now h_kept h_aside h_found h_down h_along h_parts h_gone h_tape h_kinds h_items h_widths h_sizes h_numbers h_moved v_isKept v_taped v_begins v_ends v_sort v_value v_isWrong v_itemMany v_farmMany v_farmCells v_found_50)) (r := r_49) (ws' := (wd_M_on D h h_now h_kept h_aside h_found h_down h_along h_parts h_gone h_tape h_kinds h_items h_widths h_sizes h_numbers h_moved v_isKept v_taped v_begins v_ends v_sort v_value v_isWrong v_itemMany v_farmMany v_farmCells v_now v_aside v_found_50 v_down v_along)) X hV hl.1 (c_M_finding D h h_now h_kept h_aside h_found h_down h_along h_parts h_gone h_tape h_kinds h_items h_widths h_sizes h_numbers h_moved v_isKept v_taped v_begins v_ends v_sort v_value v_isWrong v_itemMany v_farmMany v_farmCells v_found (-1000000001 : Int32) hc_51) fk_M_finding gw_974 rfl 0 9 rfl rfl [0, 3] [some 0, none, none, some 1, none, none] rfl rfl ⟨rfl, rfl, rfl, rfl, rfl, rfl, rfl, rfl, rfl, rfl, trivial⟩ rfl rfl rfl d_M_on_23 (fun H locs hV => ?_)
  have e_ := Option.some.inj hf
  subst e_
  exact k_iret X rfl hV rfl d_M_on_26
set_option maxHeartbeats 2000000 in
set_option maxRecDepth 20000 in
theorem t_M_on_3 {l : Launch} {p : Program} {e : Env} {s : State} {m : MethodId} {args : Array Value} {below : List Frame} {meth : Method} {c : Code} {D : kD} {wc0 : va_W} {h : Nat} {h_now : Nat} {h_kept : Nat} {h_aside : Nat} {h_found : Nat} {h_down : Nat} {h_along : Nat} {h_parts : Nat} {h_gone : Nat} {h_tape : Nat} {h_kinds : Nat} {h_items : Nat} {h_widths : Nat} {h_sizes : Nat} {h_numbers : Nat} {h_moved : Nat} {v_isKept : Int32} {v_taped : Int32} {v_begins : Int32} {v_ends : Int32} {v_sort : Int32} {v_value : Int32} {v_isWrong : Int32} {v_itemMany : Int32} {v_farmMany : Int32} {v_farmCells : Int64} {v_now : Nat → Int32} {v_aside : Nat → Int32} {v_found : Nat → Int32} {v_down : Nat → Int32} {v_along : Nat → Int32} {s1 : Int32} {out : Int32 × (Nat → Int32) × (Nat → Int32) × (Nat → Int32)} (X : kX p m meth c s args D (va_A wc0 s.heap.size) b_M_on "MountainFarmsModel" 5 (some .int)) (hf : f_M_on_3 s1 v_now v_aside v_found = some out) {H : Heap} {locs : List Loc} (hV : kV D (va_A wc0 s.heap.size) s (wd_M_on D h h_now h_kept h_aside h_found h_down h_along h_parts h_gone h_tape h_kinds h_items h_widths h_sizes h_numbers h_moved v_isKept v_taped v_begins v_ends v_sort v_value v_isWrong v_itemMany v_farmMany v_farmCells v_now v_aside v_found v_down v_along) H locs) {ls : Array Slot} (hl : lv_has ls 5 []) : W p l e { frames := 7, cells := 0, slots := 0, locals := 169 } s m args below meth c H locs 0 0 (MQ below (kQi D wc0 (wd_M_on D h h_now h_kept h_aside h_found h_down h_along h_parts h_gone h_tape h_kinds h_items h_widths h_sizes h_numbers h_moved v_isKept v_taped v_begins v_ends v_sort v_value v_isWrong v_itemMany v_farmMany v_farmCells out.2.1 out.2.2.1 out.2.2.2 v_down v_along) s.heap.size out.1) args s 0 0 (va_A wc0 s.heap.size)) (F0 m 123 ls [.int s1, .ref h]) := by
  unfold f_M_on_3 at hf
  obtain ⟨hx, hb, -⟩ := id X
  obtain ⟨r_60, v_now_61, hc_62, hf⟩ := kb2_some hf
  refine k_cvi (w1 := (wd_M_putBack D h h_now h_kept h_aside h_found h_down h_along h_parts h_gone h_tape h_kinds h_items h_widths h_sizes h_numbers h_moved v_isKept v_taped v_begins v_ends v_sort v_value v_isWrong v_itemMany v_farmMany v_farmCells v_now_61 v_aside)) (r := r_60) (ws' := (wd_M_on D h h_now h_kept h_aside h_found h_down h_along h_parts h_gone h_tape h_kinds h_items h_widths h_sizes h_numbers h_moved v_isKept v_taped v_begins v_ends v_sort v_value v_isWrong v_itemMany v_farmMany v_farmCells v_now_61 v_aside v_found v_down v_along)) X hV hl.1 (c_M_putBack D h h_now h_kept h_aside h_found h_down h_along h_parts h_gone h_tape h_kinds h_items h_widths h_sizes h_numbers h_moved v_isKept v_taped v_begins v_ends v_sort v_value v_isWrong v_itemMany v_farmMany v_farmCells v_now v_aside s1 hc_62) fk_M_putBack gw_1239 rfl 0 9 rfl rfl [0, 1, 2] [some 0, some 1, some 2, none, none, none] rfl rfl ⟨rfl, rfl, rfl, rfl, rfl, rfl, rfl, rfl, rfl, rfl, rfl, rfl, trivial⟩ rfl rfl rfl d_M_on_123 (fun H locs hV => ?_)
  have e_ := Option.some.inj hf
  subst e_
  exact k_iret X rfl hV rfl d_M_on_126
set_option maxHeartbeats 2000000 in
set_option maxRecDepth 20000 in
theorem tb_M_on_2 {l : Launch} {p : Program} {e : Env} {s : State} {m : MethodId} {args : Array Value} {below : List Frame} {meth : Method} {c : Code} {D : kD} {wc0 : va_W} {h : Nat} {h_now : Nat} {h_kept : Nat} {h_aside : Nat} {h_found : Nat} {h_down : Nat} {h_along : Nat} {h_parts : Nat} {h_gone : Nat} {h_tape : Nat} {h_kinds : Nat} {h_items : Nat} {h_widths : Nat} {h_sizes : Nat} {h_numbers : Nat} {h_moved : Nat} {v_isKept : Int32} {v_taped : Int32} {v_begins : Int32} {v_ends : Int32} {v_sort : Int32} {v_value : Int32} {v_isWrong : Int32} {v_itemMany : Int32} {v_farmMany : Int32} {v_farmCells : Int64} {v_now : Nat → Int32} {v_aside : Nat → Int32} {v_found : Nat → Int32} {v_down : Nat → Int32} {v_along : Nat → Int32} {x2 : Int32} {x3 : Int32} {x4 : Int32} {rec2 : Int32 → Int32 → Option (Int32 × (Nat → Int32) × (Nat → Int32) × (Nat → Int32))} {out : Int32 × (Nat → Int32) × (Nat → Int32) × (Nat → Int32)} (X : kX p m meth c s args D (va_A wc0 s.heap.size) b_M_on "MountainFarmsModel" 5 (some .int)) (hrec2 : ∀ (x3 : Int32) (x4 : Int32), rec2 x3 x4 = some out → ∀ (H : Heap) (locs : List Loc) (ls : Array Slot), kV D (va_A wc0 s.heap.size) s (wd_M_on D h h_now h_kept h_aside h_found h_down h_along h_parts h_gone h_tape h_kinds h_items h_widths h_sizes h_numbers h_moved v_isKept v_taped v_begins v_ends v_sort v_value v_isWrong v_itemMany v_farmMany v_farmCells v_now v_aside v_found v_down v_along) H locs → lv_has ls 5 [(0, .ref h), (2, .int x2), (3, .int x3), (4, .int x4)] → W p l e { frames := 7, cells := 0, slots := 0, locals := 169 } s m args below meth c H locs 0 0 (MQ below (kQi D wc0 (wd_M_on D h h_now h_kept h_aside h_found h_down h_along h_parts h_gone h_tape h_kinds h_items h_widths h_sizes h_numbers h_moved v_isKept v_taped v_begins v_ends v_sort v_value v_isWrong v_itemMany v_farmMany v_farmCells out.2.1 out.2.2.1 out.2.2.2 v_down v_along) s.heap.size out.1) args s 0 0 (va_A wc0 s.heap.size)) (F0 m 64 ls [])) (hf : fb_M_on_2 rec2 x2 v_now v_aside v_found x3 x4 = some out) {H : Heap} {locs : List Loc} (hV : kV D (va_A wc0 s.heap.size) s (wd_M_on D h h_now h_kept h_aside h_found h_down h_along h_parts h_gone h_tape h_kinds h_items h_widths h_sizes h_numbers h_moved v_isKept v_taped v_begins v_ends v_sort v_value v_isWrong v_itemMany v_farmMany v_farmCells v_now v_aside v_found v_down v_along) H locs) {ls : Array Slot} (hl : lv_has ls 5 [(0, .ref h), (2, .int x2), (3, .int x3), (4, .int x4)]) : W p l e { frames := 7, cells := 0, slots := 0, locals := 169 } s m args below meth c H locs 0 0 (MQ below (kQi D wc0 (wd_M_on D h h_now h_kept h_aside h_found h_down h_along h_parts h_gone h_tape h_kinds h_items h_widths h_sizes h_numbers h_moved v_isKept v_taped v_begins v_ends v_sort v_value v_isWrong v_itemMany v_farmMany v_farmCells out.2.1 out.2.2.1 out.2.2.2 v_down v_along) s.heap.size out.1) args s 0 0 (va_A wc0 s.heap.size)) (F0 m 64 ls []) := by
  unfold fb_M_on_2 at hf
  obtain ⟨hx, hb, -⟩ := id X
  refine lv_iload hx hb d_M_on_64 (lv_at hl 3 rfl) ?_
  refine lv_aload_n hx hb d_M_on_66 rfl (lv_at hl 0 rfl) ?_
  refine k_get X hV 0 9 0 rfl rfl rfl gw_887 rfl rfl d_M_on_67 ?_
  refine lv_bipush (v := 10) hx hb d_M_on_70 bp_10 ?_
  refine k_iald X hV 1 rfl kin_10_218 kln_10 d_M_on_72 ?_
  refine lv_icmp_ge (tgt := 95) hx hb d_M_on_73 (by decide) (fun c_52 => ?_) (fun c_52 => ?_)
  · replace hf := kifp c_52 hf
    refine lv_aload_n hx hb d_M_on_95 rfl (lv_at hl 0 rfl) ?_
    refine lv_iload_n hx hb d_M_on_96 rfl (lv_at hl 1 rfl) ?_
    refine lv_if_ne (tgt := 104) hx hb d_M_on_97 (by decide) (fun c_53 => ?_) (fun c_53 => ?_)
    · replace hf := kifn c_53 hf
      refine lv_iload_n hx hb d_M_on_104 rfl (lv_at hl 1 rfl) ?_
      refine lv_iconst (v := 1) hx hb d_M_on_105 ic_1 ?_
      refine lv_icmp_ne (tgt := 117) hx hb d_M_on_106 (by decide) (fun c_54 => ?_) (fun c_54 => ?_)
      · replace hf := kifn c_54 hf
        refine lv_aload_n hx hb d_M_on_117 rfl (lv_at hl 0 rfl) ?_
        refine k_get X hV 0 9 0 rfl rfl rfl gw_887 rfl rfl d_M_on_118 ?_
        refine lv_iconst (v := 2) hx hb d_M_on_121 ic_2 ?_
        refine k_iald X hV 1 rfl kin_2_218 kln_2 d_M_on_122 ?_
        exact t_M_on_3 X hf hV (lv_sub hl [] rfl)
      replace hf := kifp c_54 hf
      refine lv_aload_n hx hb d_M_on_109 rfl (lv_at hl 0 rfl) ?_
      refine lv_iconst (v := (-1)) hx hb d_M_on_110 ic_m1 ?_
      obtain ⟨r_55, hc_56, hf⟩ := kb1_some hf
      refine k_cvi (w1 := (wd_M_coinsOf D h h_now h_kept h_aside h_found h_down h_along h_parts h_gone h_tape h_kinds h_items h_widths h_sizes h_numbers h_moved v_isKept v_taped v_begins v_ends v_sort v_value v_isWrong v_itemMany v_farmMany v_farmCells v_now)) (r := r_55) (ws' := (wd_M_on D h h_now h_kept h_aside h_found h_down h_along h_parts h_gone h_tape h_kinds h_items h_widths h_sizes h_numbers h_moved v_isKept v_taped v_begins v_ends v_sort v_value v_isWrong v_itemMany v_farmMany v_farmCells v_now v_aside v_found v_down v_along)) X hV hl.1 (c_M_coinsOf D h h_now h_kept h_aside h_found h_down h_along h_parts h_gone h_tape h_kinds h_items h_widths h_sizes h_numbers h_moved v_isKept v_taped v_begins v_ends v_sort v_value v_isWrong v_itemMany v_farmMany v_farmCells v_now (-1 : Int32) hc_56) fk_M_coinsOf gw_1067 rfl 0 9 rfl rfl [0, 1] [some 0, some 1, none, none, none, none] rfl rfl ⟨rfl, rfl, rfl, rfl, rfl, rfl, rfl, rfl, rfl, rfl, trivial⟩ rfl rfl rfl d_M_on_111 (fun H locs hV => ?_)
      refine lv_goto (tgt := 123) hx hb d_M_on_114 (by decide) ?_
      exact t_M_on_3 X hf hV (lv_sub hl [] rfl)
    replace hf := kifp c_53 hf
    refine lv_iload_n hx hb d_M_on_100 rfl (lv_at hl 2 rfl) ?_
    refine lv_goto (tgt := 123) hx hb d_M_on_101 (by decide) ?_
    exact t_M_on_3 X hf hV (lv_sub hl [] rfl)
  replace hf := kifn c_52 hf
  refine lv_iload_n hx hb d_M_on_76 rfl (lv_at hl 2 rfl) ?_
  refine lv_aload_n hx hb d_M_on_77 rfl (lv_at hl 0 rfl) ?_
  refine lv_iload hx hb d_M_on_78 (lv_at hl 3 rfl) ?_
  refine lv_iconst (v := 4) hx hb d_M_on_80 ic_4 ?_
  obtain ⟨r_57, hc_58, hf⟩ := kb1_some hf
  refine k_cvi (w1 := (wd_M_farmIs D h h_now h_kept h_aside h_found h_down h_along h_parts h_gone h_tape h_kinds h_items h_widths h_sizes h_numbers h_moved v_isKept v_taped v_begins v_ends v_sort v_value v_isWrong v_itemMany v_farmMany v_farmCells v_now)) (r := r_57) (ws' := (wd_M_on D h h_now h_kept h_aside h_found h_down h_along h_parts h_gone h_tape h_kinds h_items h_widths h_sizes h_numbers h_moved v_isKept v_taped v_begins v_ends v_sort v_value v_isWrong v_itemMany v_farmMany v_farmCells v_now v_aside v_found v_down v_along)) X hV hl.1 (c_M_farmIs D h h_now h_kept h_aside h_found h_down h_along h_parts h_gone h_tape h_kinds h_items h_widths h_sizes h_numbers h_moved v_isKept v_taped v_begins v_ends v_sort v_value v_isWrong v_itemMany v_farmMany v_farmCells v_now x4 (4 : Int32) hc_58) fk_M_farmIs gw_990 rfl 0 9 rfl rfl [0, 1] [some 0, some 1, none, none, none, none] rfl rfl ⟨rfl, rfl, rfl, rfl, rfl, rfl, rfl, rfl, rfl, rfl, trivial⟩ rfl rfl rfl d_M_on_81 (fun H locs hV => ?_)
  refine lv_iload hx hb d_M_on_84 (lv_at hl 3 rfl) ?_
  refine lv_ishl hx hb d_M_on_86 ?_
  refine lv_ior hx hb d_M_on_87 ?_
  refine k_leti hf (fun x3_59 hf => ?_)
  refine lv_istore_n (lv' := [(3, .int x3_59), (0, .ref h), (2, .int x2), (4, .int x4)]) hx hb d_M_on_88 rfl hl (by decide) rfl (fun ls hl => ?_)
  refine lv_iinc (v := (x4 + 1)) (lv' := [(4, .int (x4 + 1)), (3, .int x3_59), (0, .ref h), (2, .int x2)]) hx hb d_M_on_89 hl (k := 3) rfl rfl (by decide) rfl (fun ls hl => ?_)
  refine lv_goto (tgt := 64) hx hb d_M_on_92 (by decide) ?_
  exact hrec2 _ _ hf _ _ _ hV (lv_sub hl [2, 3, 1, 0] rfl)
set_option maxHeartbeats 2000000 in
set_option maxRecDepth 20000 in
theorem tl_M_on_2 {l : Launch} {p : Program} {e : Env} {s : State} {m : MethodId} {args : Array Value} {below : List Frame} {meth : Method} {c : Code} {D : kD} {wc0 : va_W} {h : Nat} {h_now : Nat} {h_kept : Nat} {h_aside : Nat} {h_found : Nat} {h_down : Nat} {h_along : Nat} {h_parts : Nat} {h_gone : Nat} {h_tape : Nat} {h_kinds : Nat} {h_items : Nat} {h_widths : Nat} {h_sizes : Nat} {h_numbers : Nat} {h_moved : Nat} {v_isKept : Int32} {v_taped : Int32} {v_begins : Int32} {v_ends : Int32} {v_sort : Int32} {v_value : Int32} {v_isWrong : Int32} {v_itemMany : Int32} {v_farmMany : Int32} {v_farmCells : Int64} {v_now : Nat → Int32} {v_aside : Nat → Int32} {v_found : Nat → Int32} {v_down : Nat → Int32} {v_along : Nat → Int32} {x2 : Int32} {out : Int32 × (Nat → Int32) × (Nat → Int32) × (Nat → Int32)} (X : kX p m meth c s args D (va_A wc0 s.heap.size) b_M_on "MountainFarmsModel" 5 (some .int)) : ∀ (n : Nat) (x3 : Int32) (x4 : Int32), fl_M_on_2 x2 v_now v_aside v_found n x3 x4 = some out → ∀ (H : Heap) (locs : List Loc) (ls : Array Slot), kV D (va_A wc0 s.heap.size) s (wd_M_on D h h_now h_kept h_aside h_found h_down h_along h_parts h_gone h_tape h_kinds h_items h_widths h_sizes h_numbers h_moved v_isKept v_taped v_begins v_ends v_sort v_value v_isWrong v_itemMany v_farmMany v_farmCells v_now v_aside v_found v_down v_along) H locs → lv_has ls 5 [(0, .ref h), (2, .int x2), (3, .int x3), (4, .int x4)] → W p l e { frames := 7, cells := 0, slots := 0, locals := 169 } s m args below meth c H locs 0 0 (MQ below (kQi D wc0 (wd_M_on D h h_now h_kept h_aside h_found h_down h_along h_parts h_gone h_tape h_kinds h_items h_widths h_sizes h_numbers h_moved v_isKept v_taped v_begins v_ends v_sort v_value v_isWrong v_itemMany v_farmMany v_farmCells out.2.1 out.2.2.1 out.2.2.2 v_down v_along) s.heap.size out.1) args s 0 0 (va_A wc0 s.heap.size)) (F0 m 64 ls []) := by
  intro n
  induction n with
  | zero => intro x3 x4 hf; exact knone hf
  | succ n ih => intro x3 x4 hf H locs ls hV hl; exact tb_M_on_2 X ih hf hV hl
set_option maxHeartbeats 2000000 in
set_option maxRecDepth 20000 in
theorem t_M_on {l : Launch} {p : Program} {e : Env} {s : State} {m : MethodId} {args : Array Value} {below : List Frame} {meth : Method} {c : Code} {D : kD} {wc0 : va_W} {h : Nat} {h_now : Nat} {h_kept : Nat} {h_aside : Nat} {h_found : Nat} {h_down : Nat} {h_along : Nat} {h_parts : Nat} {h_gone : Nat} {h_tape : Nat} {h_kinds : Nat} {h_items : Nat} {h_widths : Nat} {h_sizes : Nat} {h_numbers : Nat} {h_moved : Nat} {v_isKept : Int32} {v_taped : Int32} {v_begins : Int32} {v_ends : Int32} {v_sort : Int32} {v_value : Int32} {v_isWrong : Int32} {v_itemMany : Int32} {v_farmMany : Int32} {v_farmCells : Int64} {v_now : Nat → Int32} {v_aside : Nat → Int32} {v_found : Nat → Int32} {v_down : Nat → Int32} {v_along : Nat → Int32} {x1 : Int32} {x2 : Int32} {out : Int32 × (Nat → Int32) × (Nat → Int32) × (Nat → Int32)} (X : kX p m meth c s args D (va_A wc0 s.heap.size) b_M_on "MountainFarmsModel" 5 (some .int)) (hf : f_M_on v_now v_aside v_found v_down v_along x1 x2 = some out) {H : Heap} {locs : List Loc} (hV : kV D (va_A wc0 s.heap.size) s (wd_M_on D h h_now h_kept h_aside h_found h_down h_along h_parts h_gone h_tape h_kinds h_items h_widths h_sizes h_numbers h_moved v_isKept v_taped v_begins v_ends v_sort v_value v_isWrong v_itemMany v_farmMany v_farmCells v_now v_aside v_found v_down v_along) H locs) {ls : Array Slot} (hl : lv_has ls 5 [(0, .ref h), (1, .int x1), (2, .int x2)]) : W p l e { frames := 7, cells := 0, slots := 0, locals := 169 } s m args below meth c H locs 0 0 (MQ below (kQi D wc0 (wd_M_on D h h_now h_kept h_aside h_found h_down h_along h_parts h_gone h_tape h_kinds h_items h_widths h_sizes h_numbers h_moved v_isKept v_taped v_begins v_ends v_sort v_value v_isWrong v_itemMany v_farmMany v_farmCells out.2.1 out.2.2.1 out.2.2.2 v_down v_along) s.heap.size out.1) args s 0 0 (va_A wc0 s.heap.size)) (F0 m 0 ls []) := by
  unfold f_M_on at hf
  obtain ⟨hx, hb, -⟩ := id X
  refine lv_iload_n hx hb d_M_on_0 rfl (lv_at hl 1 rfl) ?_
  refine lv_iconst (v := 0) hx hb d_M_on_1 ic_0 ?_
  refine lv_sipush (v := 240) hx hb d_M_on_2 sp_240 ?_
  obtain ⟨r_32, hc_33, hf⟩ := kb1_some hf
  refine k_csi (w1 := (wd_M_within D)) (r := r_32) (ws' := (wd_M_on D h h_now h_kept h_aside h_found h_down h_along h_parts h_gone h_tape h_kinds h_items h_widths h_sizes h_numbers h_moved v_isKept v_taped v_begins v_ends v_sort v_value v_isWrong v_itemMany v_farmMany v_farmCells v_now v_aside v_found v_down v_along)) X hV hl.1 (c_M_within D x1 (0 : Int32) (240 : Int32) hc_33) fk_M_within gw_970 rfl [] [none, none, none, none, none, none] rfl rfl ⟨rfl, rfl, rfl, rfl, rfl, rfl, trivial⟩ rfl rfl rfl d_M_on_5 (fun H locs hV => ?_)
  refine lv_if_eq (tgt := 20) hx hb d_M_on_8 (by decide) (fun c_34 => ?_) (fun c_34 => ?_)
  · replace hf := kifp c_34 hf
    exact t_M_on_1 X hf hV (lv_sub hl [0] rfl)
  replace hf := kifn c_34 hf
  refine lv_iload_n hx hb d_M_on_11 rfl (lv_at hl 2 rfl) ?_
  refine lv_iconst (v := 0) hx hb d_M_on_12 ic_0 ?_
  refine lv_iconst (v := 2) hx hb d_M_on_13 ic_2 ?_
  obtain ⟨r_35, hc_36, hf⟩ := kb1_some hf
  refine k_csi (w1 := (wd_M_within D)) (r := r_35) (ws' := (wd_M_on D h h_now h_kept h_aside h_found h_down h_along h_parts h_gone h_tape h_kinds h_items h_widths h_sizes h_numbers h_moved v_isKept v_taped v_begins v_ends v_sort v_value v_isWrong v_itemMany v_farmMany v_farmCells v_now v_aside v_found v_down v_along)) X hV hl.1 (c_M_within D x2 (0 : Int32) (2 : Int32) hc_36) fk_M_within gw_970 rfl [] [none, none, none, none, none, none] rfl rfl ⟨rfl, rfl, rfl, rfl, rfl, rfl, trivial⟩ rfl rfl rfl d_M_on_14 (fun H locs hV => ?_)
  refine lv_if_ne (tgt := 27) hx hb d_M_on_17 (by decide) (fun c_37 => ?_) (fun c_37 => ?_)
  · replace hf := kifn c_37 hf
    refine lv_aload_n hx hb d_M_on_27 rfl (lv_at hl 0 rfl) ?_
    refine lv_iload_n hx hb d_M_on_28 rfl (lv_at hl 1 rfl) ?_
    obtain ⟨r_38, hc_39, hf⟩ := kb1_some hf
    refine k_cvi (w1 := (wd_M_isTooLate D h h_now h_kept h_aside h_found h_down h_along h_parts h_gone h_tape h_kinds h_items h_widths h_sizes h_numbers h_moved v_isKept v_taped v_begins v_ends v_sort v_value v_isWrong v_itemMany v_farmMany v_farmCells v_now)) (r := r_38) (ws' := (wd_M_on D h h_now h_kept h_aside h_found h_down h_along h_parts h_gone h_tape h_kinds h_items h_widths h_sizes h_numbers h_moved v_isKept v_taped v_begins v_ends v_sort v_value v_isWrong v_itemMany v_farmMany v_farmCells v_now v_aside v_found v_down v_along)) X hV hl.1 (c_M_isTooLate D h h_now h_kept h_aside h_found h_down h_along h_parts h_gone h_tape h_kinds h_items h_widths h_sizes h_numbers h_moved v_isKept v_taped v_begins v_ends v_sort v_value v_isWrong v_itemMany v_farmMany v_farmCells v_now x1 hc_39) fk_M_isTooLate gw_1195 rfl 0 9 rfl rfl [0, 1] [some 0, some 1, none, none, none, none] rfl rfl ⟨rfl, rfl, rfl, rfl, rfl, rfl, rfl, rfl, rfl, rfl, trivial⟩ rfl rfl rfl d_M_on_29 (fun H locs hV => ?_)
    refine lv_if_eq (tgt := 42) hx hb d_M_on_32 (by decide) (fun c_40 => ?_) (fun c_40 => ?_)
    · replace hf := kifp c_40 hf
      refine lv_aload_n hx hb d_M_on_42 rfl (lv_at hl 0 rfl) ?_
      refine k_get X hV 0 9 0 rfl rfl rfl gw_887 rfl rfl d_M_on_43 ?_
      refine lv_aload_n hx hb d_M_on_46 rfl (lv_at hl 0 rfl) ?_
      refine k_get X hV 0 9 2 rfl rfl rfl gw_889 rfl rfl d_M_on_47 ?_
      obtain ⟨v_aside_41, hc_42, hf⟩ := kb1_some hf
      refine k_csv (w1 := (wd_M_copyRow D h_now h_aside v_now v_aside_41)) (ws' := (wd_M_on D h h_now h_kept h_aside h_found h_down h_along h_parts h_gone h_tape h_kinds h_items h_widths h_sizes h_numbers h_moved v_isKept v_taped v_begins v_ends v_sort v_value v_isWrong v_itemMany v_farmMany v_farmCells v_now v_aside_41 v_found v_down v_along)) X hV hl.1 (c_M_copyRow D h_now h_aside v_now v_aside hc_42) fk_M_copyRow gw_1145 rfl [1, 2] [none, some 0, some 1, none, none, none] rfl rfl ⟨rfl, rfl, rfl, rfl, rfl, rfl, rfl, rfl, rfl, rfl, trivial⟩ rfl rfl rfl d_M_on_50 (fun H locs hV => ?_)
      refine lv_aload_n hx hb d_M_on_53 rfl (lv_at hl 0 rfl) ?_
      refine lv_iload_n hx hb d_M_on_54 rfl (lv_at hl 1 rfl) ?_
      obtain ⟨r_43, v_now_44, hc_45, hf⟩ := kb2_some hf
      refine k_cvi (w1 := (wd_M_monthsGo D h h_now h_kept h_aside h_found h_down h_along h_parts h_gone h_tape h_kinds h_items h_widths h_sizes h_numbers h_moved v_isKept v_taped v_begins v_ends v_sort v_value v_isWrong v_itemMany v_farmMany v_farmCells v_now_44 v_down v_along)) (r := r_43) (ws' := (wd_M_on D h h_now h_kept h_aside h_found h_down h_along h_parts h_gone h_tape h_kinds h_items h_widths h_sizes h_numbers h_moved v_isKept v_taped v_begins v_ends v_sort v_value v_isWrong v_itemMany v_farmMany v_farmCells v_now_44 v_aside_41 v_found v_down v_along)) X hV hl.1 (c_M_monthsGo D h h_now h_kept h_aside h_found h_down h_along h_parts h_gone h_tape h_kinds h_items h_widths h_sizes h_numbers h_moved v_isKept v_taped v_begins v_ends v_sort v_value v_isWrong v_itemMany v_farmMany v_farmCells v_now v_down v_along x1 hc_45) fk_M_monthsGo gw_1199 rfl 0 9 rfl rfl [0, 1, 4, 5] [some 0, some 1, none, none, some 2, some 3] rfl rfl ⟨rfl, rfl, rfl, rfl, rfl, rfl, rfl, rfl, rfl, rfl, rfl, rfl, rfl, rfl, trivial⟩ rfl rfl rfl d_M_on_55 (fun H locs hV => ?_)
      refine lv_pop hx hb d_M_on_58 rfl ?_
      refine lv_iconst (v := 0) hx hb d_M_on_59 ic_0 ?_
      refine lv_istore_n (lv' := [(3, .int (0 : Int32)), (0, .ref h), (1, .int x1), (2, .int x2)]) hx hb d_M_on_60 rfl hl (by decide) rfl (fun ls hl => ?_)
      refine lv_iconst (v := 0) hx hb d_M_on_61 ic_0 ?_
      refine lv_istore (lv' := [(4, .int (0 : Int32)), (3, .int (0 : Int32)), (0, .ref h), (1, .int x1), (2, .int x2)]) hx hb d_M_on_62 hl (by decide) rfl (fun ls hl => ?_)
      exact tl_M_on_2 X _ _ _ hf _ _ _ hV (lv_sub hl [2, 4, 1, 0] rfl)
    replace hf := kifn c_40 hf
    refine lv_aload_n hx hb d_M_on_35 rfl (lv_at hl 0 rfl) ?_
    refine k_ldc (v := (-1000000005)) X gw_1025 d_M_on_36 ?_
    obtain ⟨r_46, v_found_47, hc_48, hf⟩ := kb2_some hf
    refine k_cvi (w1 := (wd_M_finding D h h_now h_kept h_aside h_found h_down h_along h_parts h_gone h_tape h_kinds h_items h_widths h_sizes h_numbers h_moved v_isKept v_taped v_begins v_ends v_sort v_value v_isWrong v_itemMany v_farmMany v_farmCells v_found_47)) (r := r_46) (ws' := (wd_M_on D h h_now h_kept h_aside h_found h_down h_along h_parts h_gone h_tape h_kinds h_items h_widths h_sizes h_numbers h_moved v_isKept v_taped v_begins v_ends v_sort v_value v_isWrong v_itemMany v_farmMany v_farmCells v_now v_aside v_found_47 v_down v_along)) X hV hl.1 (c_M_finding D h h_now h_kept h_aside h_found h_down h_along h_parts h_gone h_tape h_kinds h_items h_widths h_sizes h_numbers h_moved v_isKept v_taped v_begins v_ends v_sort v_value v_isWrong v_itemMany v_farmMany v_farmCells v_found (-1000000005 : Int32) hc_48) fk_M_finding gw_974 rfl 0 9 rfl rfl [0, 3] [some 0, none, none, some 1, none, none] rfl rfl ⟨rfl, rfl, rfl, rfl, rfl, rfl, rfl, rfl, rfl, rfl, trivial⟩ rfl rfl rfl d_M_on_38 (fun H locs hV => ?_)
    have e_ := Option.some.inj hf
    subst e_
    exact k_iret X rfl hV rfl d_M_on_41
  replace hf := kifp c_37 hf
  exact t_M_on_1 X hf hV (lv_sub hl [0] rfl)
set_option maxHeartbeats 2000000 in
set_option maxRecDepth 20000 in
theorem c_M_on {l : Launch} (D : kD) (h : Nat) (h_now : Nat) (h_kept : Nat) (h_aside : Nat) (h_found : Nat) (h_down : Nat) (h_along : Nat) (h_parts : Nat) (h_gone : Nat) (h_tape : Nat) (h_kinds : Nat) (h_items : Nat) (h_widths : Nat) (h_sizes : Nat) (h_numbers : Nat) (h_moved : Nat) (v_isKept : Int32) (v_taped : Int32) (v_begins : Int32) (v_ends : Int32) (v_sort : Int32) (v_value : Int32) (v_isWrong : Int32) (v_itemMany : Int32) (v_farmMany : Int32) (v_farmCells : Int64) (v_now : Nat → Int32) (v_aside : Nat → Int32) (v_found : Nat → Int32) (v_down : Nat → Int32) (v_along : Nat → Int32) (x1 : Int32) (x2 : Int32) {out : Int32 × (Nat → Int32) × (Nat → Int32) × (Nat → Int32)} (hf : f_M_on v_now v_aside v_found v_down v_along x1 x2 = some out) : kMi l D y_M_on b_M_on 5 (some .int) { frames := 7, cells := 0, slots := 0, locals := 169 } [.ref h, .int x1, .int x2] (wd_M_on D h h_now h_kept h_aside h_found h_down h_along h_parts h_gone h_tape h_kinds h_items h_widths h_sizes h_numbers h_moved v_isKept v_taped v_begins v_ends v_sort v_value v_isWrong v_itemMany v_farmMany v_farmCells v_now v_aside v_found v_down v_along) (wd_M_on D h h_now h_kept h_aside h_found h_down h_along h_parts h_gone h_tape h_kinds h_items h_widths h_sizes h_numbers h_moved v_isKept v_taped v_begins v_ends v_sort v_value v_isWrong v_itemMany v_farmMany v_farmCells out.2.1 out.2.2.1 out.2.2.2 v_down v_along) out.1 :=
  kMi_of (own := "MountainFarmsModel") (plainFor_of_name (by decide)) rfl rfl (fun p e s m args below meth c ls X hV hl => t_M_on X hf hV hl)
set_option maxHeartbeats 2000000 in
set_option maxRecDepth 20000 in
theorem tb_M_crop_2 {l : Launch} {p : Program} {e : Env} {s : State} {m : MethodId} {args : Array Value} {below : List Frame} {meth : Method} {c : Code} {D : kD} {wc0 : va_W} {h : Nat} {h_now : Nat} {h_kept : Nat} {h_aside : Nat} {h_found : Nat} {h_down : Nat} {h_along : Nat} {h_parts : Nat} {h_gone : Nat} {h_tape : Nat} {h_kinds : Nat} {h_items : Nat} {h_widths : Nat} {h_sizes : Nat} {h_numbers : Nat} {h_moved : Nat} {v_isKept : Int32} {v_taped : Int32} {v_begins : Int32} {v_ends : Int32} {v_sort : Int32} {v_value : Int32} {v_isWrong : Int32} {v_itemMany : Int32} {v_farmMany : Int32} {v_farmCells : Int64} {v_now : Nat → Int32} {v_aside : Nat → Int32} {v_found : Nat → Int32} {v_down : Nat → Int32} {v_along : Nat → Int32} {x1 : Int32} {x2 : Int32} {x3 : Int32} {x4 : Int32} {x5 : Int32} {rec1 : Int32 → Int32 → Int32 → (Nat → Int32) → Option (Int32 × (Nat → Int32) × (Nat → Int32) × (Nat → Int32))} {rec2 : Int32 → Int32 → Int32 → Int32 → (Nat → Int32) → Option (Int32 × (Nat → Int32) × (Nat → Int32) × (Nat → Int32))} {out : Int32 × (Nat → Int32) × (Nat → Int32) × (Nat → Int32)} (X : kX p m meth c s args D (va_A wc0 s.heap.size) b_M_crop "MountainFarmsModel" 6 (some .int)) (hrec1 : ∀ (x2 : Int32) (x3 : Int32) (x4 : Int32) (v_now : Nat → Int32), rec1 x2 x3 x4 v_now = some out → ∀ (H : Heap) (locs : List Loc) (ls : Array Slot), kV D (va_A wc0 s.heap.size) s (wd_M_crop D h h_now h_kept h_aside h_found h_down h_along h_parts h_gone h_tape h_kinds h_items h_widths h_sizes h_numbers h_moved v_isKept v_taped v_begins v_ends v_sort v_value v_isWrong v_itemMany v_farmMany v_farmCells v_now v_aside v_found v_down v_along) H locs → lv_has ls 6 [(0, .ref h), (1, .int x1), (2, .int x2), (3, .int x3), (4, .int x4)] → W p l e { frames := 7, cells := 0, slots := 0, locals := 169 } s m args below meth c H locs 0 0 (MQ below (kQi D wc0 (wd_M_crop D h h_now h_kept h_aside h_found h_down h_along h_parts h_gone h_tape h_kinds h_items h_widths h_sizes h_numbers h_moved v_isKept v_taped v_begins v_ends v_sort v_value v_isWrong v_itemMany v_farmMany v_farmCells out.2.1 out.2.2.1 out.2.2.2 v_down v_along) s.heap.size out.1) args s 0 0 (va_A wc0 s.heap.size)) (F0 m 51 ls [])) (hrec2 : ∀ (x2 : Int32) (x3 : Int32) (x4 : Int32) (x5 : Int32) (v_now : Nat → Int32), rec2 x2 x3 x4 x5 v_now = some out → ∀ (H : Heap) (locs : List Loc) (ls : Array Slot), kV D (va_A wc0 s.heap.size) s (wd_M_crop D h h_now h_kept h_aside h_found h_down h_along h_parts h_gone h_tape h_kinds h_items h_widths h_sizes h_numbers h_moved v_isKept v_taped v_begins v_ends v_sort v_value v_isWrong v_itemMany v_farmMany v_farmCells v_now v_aside v_found v_down v_along) H locs → lv_has ls 6 [(0, .ref h), (1, .int x1), (2, .int x2), (3, .int x3), (4, .int x4), (5, .int x5)] → W p l e { frames := 7, cells := 0, slots := 0, locals := 169 } s m args below meth c H locs 0 0 (MQ below (kQi D wc0 (wd_M_crop D h h_now h_kept h_aside h_found h_down h_along h_parts h_gone h_tape h_kinds h_items h_widths h_sizes h_numbers h_moved v_isKept v_taped v_begins v_ends v_sort v_value v_isWrong v_itemMany v_farmMany v_farmCells out.2.1 out.2.2.1 out.2.2.2 v_down v_along) s.heap.size out.1) args s 0 0 (va_A wc0 s.heap.size)) (F0 m 60 ls [])) (hf : fb_M_crop_2 rec1 rec2 x1 v_aside v_found v_down v_along x2 x3 x4 x5 v_now = some out) {H : Heap} {locs : List Loc} (hV : kV D (va_A wc0 s.heap.size) s (wd_M_crop D h h_now h_kept h_aside h_found h_down h_along h_parts h_gone h_tape h_kinds h_items h_widths h_sizes h_numbers h_moved v_isKept v_taped v_begins v_ends v_sort v_value v_isWrong v_itemMany v_farmMany v_farmCells v_now v_aside v_found v_down v_along) H locs) {ls : Array Slot} (hl : lv_has ls 6 [(0, .ref h), (1, .int x1), (2, .int x2), (3, .int x3), (4, .int x4), (5, .int x5)]) : W p l e { frames := 7, cells := 0, slots := 0, locals := 169 } s m args below meth c H locs 0 0 (MQ below (kQi D wc0 (wd_M_crop D h h_now h_kept h_aside h_found h_down h_along h_parts h_gone h_tape h_kinds h_items h_widths h_sizes h_numbers h_moved v_isKept v_taped v_begins v_ends v_sort v_value v_isWrong v_itemMany v_farmMany v_farmCells out.2.1 out.2.2.1 out.2.2.2 v_down v_along) s.heap.size out.1) args s 0 0 (va_A wc0 s.heap.size)) (F0 m 60 ls []) := by
  unfold fb_M_crop_2 at hf
  obtain ⟨hx, hb, -⟩ := id X
  refine lv_iload hx hb d_M_crop_60 (lv_at hl 5 rfl) ?_
  refine lv_aload_n hx hb d_M_crop_62 rfl (lv_at hl 0 rfl) ?_
  refine k_get X hV 0 9 0 rfl rfl rfl gw_887 rfl rfl d_M_crop_63 ?_
  refine lv_bipush (v := 10) hx hb d_M_crop_66 bp_10 ?_
  refine k_iald X hV 1 rfl kin_10_218 kln_10 d_M_crop_68 ?_
  refine lv_icmp_ge (tgt := 95) hx hb d_M_crop_69 (by decide) (fun c_43 => ?_) (fun c_43 => ?_)
  · replace hf := kifp c_43 hf
    refine lv_aload_n hx hb d_M_crop_95 rfl (lv_at hl 0 rfl) ?_
    refine lv_iload_n hx hb d_M_crop_96 rfl (lv_at hl 1 rfl) ?_
    obtain ⟨r_44, v_now_45, hc_46, hf⟩ := kb2_some hf
    refine k_cvi (w1 := (wd_M_monthsGo D h h_now h_kept h_aside h_found h_down h_along h_parts h_gone h_tape h_kinds h_items h_widths h_sizes h_numbers h_moved v_isKept v_taped v_begins v_ends v_sort v_value v_isWrong v_itemMany v_farmMany v_farmCells v_now_45 v_down v_along)) (r := r_44) (ws' := (wd_M_crop D h h_now h_kept h_aside h_found h_down h_along h_parts h_gone h_tape h_kinds h_items h_widths h_sizes h_numbers h_moved v_isKept v_taped v_begins v_ends v_sort v_value v_isWrong v_itemMany v_farmMany v_farmCells v_now_45 v_aside v_found v_down v_along)) X hV hl.1 (c_M_monthsGo D h h_now h_kept h_aside h_found h_down h_along h_parts h_gone h_tape h_kinds h_items h_widths h_sizes h_numbers h_moved v_isKept v_taped v_begins v_ends v_sort v_value v_isWrong v_itemMany v_farmMany v_farmCells v_now v_down v_along x1 hc_46) fk_M_monthsGo gw_1199 rfl 0 9 rfl rfl [0, 1, 4, 5] [some 0, some 1, none, none, some 2, some 3] rfl rfl ⟨rfl, rfl, rfl, rfl, rfl, rfl, rfl, rfl, rfl, rfl, rfl, rfl, rfl, rfl, trivial⟩ rfl rfl rfl d_M_crop_97 (fun H locs hV => ?_)
    refine lv_pop hx hb d_M_crop_100 rfl ?_
    refine lv_aload_n hx hb d_M_crop_101 rfl (lv_at hl 0 rfl) ?_
    refine lv_aload_n hx hb d_M_crop_102 rfl (lv_at hl 0 rfl) ?_
    refine lv_iconst (v := (-1)) hx hb d_M_crop_103 ic_m1 ?_
    obtain ⟨r_47, hc_48, hf⟩ := kb1_some hf
    refine k_cvi (w1 := (wd_M_coinsOf D h h_now h_kept h_aside h_found h_down h_along h_parts h_gone h_tape h_kinds h_items h_widths h_sizes h_numbers h_moved v_isKept v_taped v_begins v_ends v_sort v_value v_isWrong v_itemMany v_farmMany v_farmCells v_now_45)) (r := r_47) (ws' := (wd_M_crop D h h_now h_kept h_aside h_found h_down h_along h_parts h_gone h_tape h_kinds h_items h_widths h_sizes h_numbers h_moved v_isKept v_taped v_begins v_ends v_sort v_value v_isWrong v_itemMany v_farmMany v_farmCells v_now_45 v_aside v_found v_down v_along)) X hV hl.1 (c_M_coinsOf D h h_now h_kept h_aside h_found h_down h_along h_parts h_gone h_tape h_kinds h_items h_widths h_sizes h_numbers h_moved v_isKept v_taped v_begins v_ends v_sort v_value v_isWrong v_itemMany v_farmMany v_farmCells v_now_45 (-1 : Int32) hc_48) fk_M_coinsOf gw_1067 rfl 0 9 rfl rfl [0, 1] [some 0, some 1, none, none, none, none] rfl rfl ⟨rfl, rfl, rfl, rfl, rfl, rfl, rfl, rfl, rfl, rfl, trivial⟩ rfl rfl rfl d_M_crop_104 (fun H locs hV => ?_)
    obtain ⟨r_49, v_now_50, hc_51, hf⟩ := kb2_some hf
    refine k_cvi (w1 := (wd_M_putBack D h h_now h_kept h_aside h_found h_down h_along h_parts h_gone h_tape h_kinds h_items h_widths h_sizes h_numbers h_moved v_isKept v_taped v_begins v_ends v_sort v_value v_isWrong v_itemMany v_farmMany v_farmCells v_now_50 v_aside)) (r := r_49) (ws' := (wd_M_crop D h h_now h_kept h_aside h_found h_down h_along h_parts h_gone h_tape h_kinds h_items h_widths h_sizes h_numbers h_moved v_isKept v_taped v_begins v_ends v_sort v_value v_isWrong v_itemMany v_farmMany v_farmCells v_now_50 v_aside v_found v_down v_along)) X hV hl.1 (c_M_putBack D h h_now h_kept h_aside h_found h_down h_along h_parts h_gone h_tape h_kinds h_items h_widths h_sizes h_numbers h_moved v_isKept v_taped v_begins v_ends v_sort v_value v_isWrong v_itemMany v_farmMany v_farmCells v_now_45 v_aside r_47 hc_51) fk_M_putBack gw_1239 rfl 0 9 rfl rfl [0, 1, 2] [some 0, some 1, some 2, none, none, none] rfl rfl ⟨rfl, rfl, rfl, rfl, rfl, rfl, rfl, rfl, rfl, rfl, rfl, rfl, trivial⟩ rfl rfl rfl d_M_crop_107 (fun H locs hV => ?_)
    refine lv_istore (lv' := [(5, .int r_49), (0, .ref h), (1, .int x1), (2, .int x2), (3, .int x3), (4, .int x4)]) hx hb d_M_crop_110 hl (by decide) rfl (fun ls hl => ?_)
    refine lv_iload_n hx hb d_M_crop_112 rfl (lv_at hl 3 rfl) ?_
    refine lv_if_lt (tgt := 122) hx hb d_M_crop_113 (by decide) (fun c_52 => ?_) (fun c_52 => ?_)
    · replace hf := kifp c_52 hf
      refine lv_iload hx hb d_M_crop_122 (lv_at hl 0 rfl) ?_
      refine lv_istore_n (lv' := [(3, .int r_49), (5, .int r_49), (0, .ref h), (1, .int x1), (2, .int x2), (4, .int x4)]) hx hb d_M_crop_124 rfl hl (by decide) rfl (fun ls hl => ?_)
      refine lv_iload hx hb d_M_crop_125 (lv_at hl 5 rfl) ?_
      refine lv_istore_n (lv' := [(2, .int x4), (3, .int r_49), (5, .int r_49), (0, .ref h), (1, .int x1), (4, .int x4)]) hx hb d_M_crop_127 rfl hl (by decide) rfl (fun ls hl => ?_)
      refine lv_iinc (v := (x4 + 1)) (lv' := [(4, .int (x4 + 1)), (2, .int x4), (3, .int r_49), (5, .int r_49), (0, .ref h), (1, .int x1)]) hx hb d_M_crop_128 hl (k := 5) rfl rfl (by decide) rfl (fun ls hl => ?_)
      refine lv_goto (tgt := 51) hx hb d_M_crop_131 (by decide) ?_
      exact hrec1 _ _ _ _ hf _ _ _ hV (lv_sub hl [4, 5, 1, 2, 0] rfl)
    replace hf := kifn c_52 hf
    refine lv_iload hx hb d_M_crop_116 (lv_at hl 0 rfl) ?_
    refine lv_iload_n hx hb d_M_crop_118 rfl (lv_at hl 4 rfl) ?_
    refine lv_icmp_le (tgt := 128) hx hb d_M_crop_119 (by decide) (fun c_53 => ?_) (fun c_53 => ?_)
    · replace hf := kifp c_53 hf
      refine lv_iinc (v := (x4 + 1)) (lv' := [(4, .int (x4 + 1)), (5, .int r_49), (0, .ref h), (1, .int x1), (2, .int x2), (3, .int x3)]) hx hb d_M_crop_128 hl (k := 5) rfl rfl (by decide) rfl (fun ls hl => ?_)
      refine lv_goto (tgt := 51) hx hb d_M_crop_131 (by decide) ?_
      exact hrec1 _ _ _ _ hf _ _ _ hV (lv_sub hl [2, 3, 4, 5, 0] rfl)
    replace hf := kifn c_53 hf
    refine lv_iload hx hb d_M_crop_122 (lv_at hl 0 rfl) ?_
    refine lv_istore_n (lv' := [(3, .int r_49), (5, .int r_49), (0, .ref h), (1, .int x1), (2, .int x2), (4, .int x4)]) hx hb d_M_crop_124 rfl hl (by decide) rfl (fun ls hl => ?_)
    refine lv_iload hx hb d_M_crop_125 (lv_at hl 5 rfl) ?_
    refine lv_istore_n (lv' := [(2, .int x4), (3, .int r_49), (5, .int r_49), (0, .ref h), (1, .int x1), (4, .int x4)]) hx hb d_M_crop_127 rfl hl (by decide) rfl (fun ls hl => ?_)
    refine lv_iinc (v := (x4 + 1)) (lv' := [(4, .int (x4 + 1)), (2, .int x4), (3, .int r_49), (5, .int r_49), (0, .ref h), (1, .int x1)]) hx hb d_M_crop_128 hl (k := 5) rfl rfl (by decide) rfl (fun ls hl => ?_)
    refine lv_goto (tgt := 51) hx hb d_M_crop_131 (by decide) ?_
    exact hrec1 _ _ _ _ hf _ _ _ hV (lv_sub hl [4, 5, 1, 2, 0] rfl)
  replace hf := kifn c_43 hf
  refine lv_aload_n hx hb d_M_crop_72 rfl (lv_at hl 0 rfl) ?_
  refine k_get X hV 0 9 0 rfl rfl rfl gw_887 rfl rfl d_M_crop_73 ?_
  refine lv_sipush (v := 158) hx hb d_M_crop_76 sp_158 ?_
  refine lv_iconst (v := 5) hx hb d_M_crop_79 ic_5 ?_
  refine lv_iload hx hb d_M_crop_80 (lv_at hl 5 rfl) ?_
  refine lv_imul hx hb d_M_crop_82 ?_
  refine lv_iadd hx hb d_M_crop_83 ?_
  refine lv_iconst (v := 0) hx hb d_M_crop_84 ic_0 ?_
  refine lv_iadd hx hb d_M_crop_85 ?_
  refine lv_iload hx hb d_M_crop_86 (lv_at hl 4 rfl) ?_
  obtain ⟨h_54, hf⟩ := kidx_some hf
  refine k_iast (ws' := (wd_M_crop D h h_now h_kept h_aside h_found h_down h_along h_parts h_gone h_tape h_kinds h_items h_widths h_sizes h_numbers h_moved v_isKept v_taped v_begins v_ends v_sort v_value v_isWrong v_itemMany v_farmMany v_farmCells (upd v_now (((158 : Int32) + ((5 : Int32) * x5)) + (0 : Int32)).toNatClampNeg x4) v_aside v_found v_down v_along)) X hV 1 rfl h_54 rfl rfl d_M_crop_88 (fun H locs hV => ?_)
  refine lv_iinc (v := (x5 + 1)) (lv' := [(5, .int (x5 + 1)), (0, .ref h), (1, .int x1), (2, .int x2), (3, .int x3), (4, .int x4)]) hx hb d_M_crop_89 hl (k := 5) rfl rfl (by decide) rfl (fun ls hl => ?_)
  refine lv_goto (tgt := 60) hx hb d_M_crop_92 (by decide) ?_
  exact hrec2 _ _ _ _ _ hf _ _ _ hV (lv_sub hl [1, 2, 3, 4, 5, 0] rfl)
set_option maxHeartbeats 2000000 in
set_option maxRecDepth 20000 in
theorem tl_M_crop_2 {l : Launch} {p : Program} {e : Env} {s : State} {m : MethodId} {args : Array Value} {below : List Frame} {meth : Method} {c : Code} {D : kD} {wc0 : va_W} {h : Nat} {h_now : Nat} {h_kept : Nat} {h_aside : Nat} {h_found : Nat} {h_down : Nat} {h_along : Nat} {h_parts : Nat} {h_gone : Nat} {h_tape : Nat} {h_kinds : Nat} {h_items : Nat} {h_widths : Nat} {h_sizes : Nat} {h_numbers : Nat} {h_moved : Nat} {v_isKept : Int32} {v_taped : Int32} {v_begins : Int32} {v_ends : Int32} {v_sort : Int32} {v_value : Int32} {v_isWrong : Int32} {v_itemMany : Int32} {v_farmMany : Int32} {v_farmCells : Int64} {v_aside : Nat → Int32} {v_found : Nat → Int32} {v_down : Nat → Int32} {v_along : Nat → Int32} {x1 : Int32} {rec1 : Int32 → Int32 → Int32 → (Nat → Int32) → Option (Int32 × (Nat → Int32) × (Nat → Int32) × (Nat → Int32))} {out : Int32 × (Nat → Int32) × (Nat → Int32) × (Nat → Int32)} (X : kX p m meth c s args D (va_A wc0 s.heap.size) b_M_crop "MountainFarmsModel" 6 (some .int)) (hrec1 : ∀ (x2 : Int32) (x3 : Int32) (x4 : Int32) (v_now : Nat → Int32), rec1 x2 x3 x4 v_now = some out → ∀ (H : Heap) (locs : List Loc) (ls : Array Slot), kV D (va_A wc0 s.heap.size) s (wd_M_crop D h h_now h_kept h_aside h_found h_down h_along h_parts h_gone h_tape h_kinds h_items h_widths h_sizes h_numbers h_moved v_isKept v_taped v_begins v_ends v_sort v_value v_isWrong v_itemMany v_farmMany v_farmCells v_now v_aside v_found v_down v_along) H locs → lv_has ls 6 [(0, .ref h), (1, .int x1), (2, .int x2), (3, .int x3), (4, .int x4)] → W p l e { frames := 7, cells := 0, slots := 0, locals := 169 } s m args below meth c H locs 0 0 (MQ below (kQi D wc0 (wd_M_crop D h h_now h_kept h_aside h_found h_down h_along h_parts h_gone h_tape h_kinds h_items h_widths h_sizes h_numbers h_moved v_isKept v_taped v_begins v_ends v_sort v_value v_isWrong v_itemMany v_farmMany v_farmCells out.2.1 out.2.2.1 out.2.2.2 v_down v_along) s.heap.size out.1) args s 0 0 (va_A wc0 s.heap.size)) (F0 m 51 ls [])) : ∀ (n : Nat) (x2 : Int32) (x3 : Int32) (x4 : Int32) (x5 : Int32) (v_now : Nat → Int32), fl_M_crop_2 rec1 x1 v_aside v_found v_down v_along n x2 x3 x4 x5 v_now = some out → ∀ (H : Heap) (locs : List Loc) (ls : Array Slot), kV D (va_A wc0 s.heap.size) s (wd_M_crop D h h_now h_kept h_aside h_found h_down h_along h_parts h_gone h_tape h_kinds h_items h_widths h_sizes h_numbers h_moved v_isKept v_taped v_begins v_ends v_sort v_value v_isWrong v_itemMany v_farmMany v_farmCells v_now v_aside v_found v_down v_along) H locs → lv_has ls 6 [(0, .ref h), (1, .int x1), (2, .int x2), (3, .int x3), (4, .int x4), (5, .int x5)] → W p l e { frames := 7, cells := 0, slots := 0, locals := 169 } s m args below meth c H locs 0 0 (MQ below (kQi D wc0 (wd_M_crop D h h_now h_kept h_aside h_found h_down h_along h_parts h_gone h_tape h_kinds h_items h_widths h_sizes h_numbers h_moved v_isKept v_taped v_begins v_ends v_sort v_value v_isWrong v_itemMany v_farmMany v_farmCells out.2.1 out.2.2.1 out.2.2.2 v_down v_along) s.heap.size out.1) args s 0 0 (va_A wc0 s.heap.size)) (F0 m 60 ls []) := by
  intro n
  induction n with
  | zero => intro x2 x3 x4 x5 v_now hf; exact knone hf
  | succ n ih => intro x2 x3 x4 x5 v_now hf H locs ls hV hl; exact tb_M_crop_2 X hrec1 ih hf hV hl
set_option maxHeartbeats 2000000 in
set_option maxRecDepth 20000 in
theorem tb_M_crop_1 {l : Launch} {p : Program} {e : Env} {s : State} {m : MethodId} {args : Array Value} {below : List Frame} {meth : Method} {c : Code} {D : kD} {wc0 : va_W} {h : Nat} {h_now : Nat} {h_kept : Nat} {h_aside : Nat} {h_found : Nat} {h_down : Nat} {h_along : Nat} {h_parts : Nat} {h_gone : Nat} {h_tape : Nat} {h_kinds : Nat} {h_items : Nat} {h_widths : Nat} {h_sizes : Nat} {h_numbers : Nat} {h_moved : Nat} {v_isKept : Int32} {v_taped : Int32} {v_begins : Int32} {v_ends : Int32} {v_sort : Int32} {v_value : Int32} {v_isWrong : Int32} {v_itemMany : Int32} {v_farmMany : Int32} {v_farmCells : Int64} {v_now : Nat → Int32} {v_aside : Nat → Int32} {v_found : Nat → Int32} {v_down : Nat → Int32} {v_along : Nat → Int32} {x1 : Int32} {x2 : Int32} {x3 : Int32} {x4 : Int32} {rec1 : Int32 → Int32 → Int32 → (Nat → Int32) → Option (Int32 × (Nat → Int32) × (Nat → Int32) × (Nat → Int32))} {out : Int32 × (Nat → Int32) × (Nat → Int32) × (Nat → Int32)} (X : kX p m meth c s args D (va_A wc0 s.heap.size) b_M_crop "MountainFarmsModel" 6 (some .int)) (hrec1 : ∀ (x2 : Int32) (x3 : Int32) (x4 : Int32) (v_now : Nat → Int32), rec1 x2 x3 x4 v_now = some out → ∀ (H : Heap) (locs : List Loc) (ls : Array Slot), kV D (va_A wc0 s.heap.size) s (wd_M_crop D h h_now h_kept h_aside h_found h_down h_along h_parts h_gone h_tape h_kinds h_items h_widths h_sizes h_numbers h_moved v_isKept v_taped v_begins v_ends v_sort v_value v_isWrong v_itemMany v_farmMany v_farmCells v_now v_aside v_found v_down v_along) H locs → lv_has ls 6 [(0, .ref h), (1, .int x1), (2, .int x2), (3, .int x3), (4, .int x4)] → W p l e { frames := 7, cells := 0, slots := 0, locals := 169 } s m args below meth c H locs 0 0 (MQ below (kQi D wc0 (wd_M_crop D h h_now h_kept h_aside h_found h_down h_along h_parts h_gone h_tape h_kinds h_items h_widths h_sizes h_numbers h_moved v_isKept v_taped v_begins v_ends v_sort v_value v_isWrong v_itemMany v_farmMany v_farmCells out.2.1 out.2.2.1 out.2.2.2 v_down v_along) s.heap.size out.1) args s 0 0 (va_A wc0 s.heap.size)) (F0 m 51 ls [])) (hf : fb_M_crop_1 rec1 x1 v_aside v_found v_down v_along x2 x3 x4 v_now = some out) {H : Heap} {locs : List Loc} (hV : kV D (va_A wc0 s.heap.size) s (wd_M_crop D h h_now h_kept h_aside h_found h_down h_along h_parts h_gone h_tape h_kinds h_items h_widths h_sizes h_numbers h_moved v_isKept v_taped v_begins v_ends v_sort v_value v_isWrong v_itemMany v_farmMany v_farmCells v_now v_aside v_found v_down v_along) H locs) {ls : Array Slot} (hl : lv_has ls 6 [(0, .ref h), (1, .int x1), (2, .int x2), (3, .int x3), (4, .int x4)]) : W p l e { frames := 7, cells := 0, slots := 0, locals := 169 } s m args below meth c H locs 0 0 (MQ below (kQi D wc0 (wd_M_crop D h h_now h_kept h_aside h_found h_down h_along h_parts h_gone h_tape h_kinds h_items h_widths h_sizes h_numbers h_moved v_isKept v_taped v_begins v_ends v_sort v_value v_isWrong v_itemMany v_farmMany v_farmCells out.2.1 out.2.2.1 out.2.2.2 v_down v_along) s.heap.size out.1) args s 0 0 (va_A wc0 s.heap.size)) (F0 m 51 ls []) := by
  unfold fb_M_crop_1 at hf
  obtain ⟨hx, hb, -⟩ := id X
  refine lv_iload hx hb d_M_crop_51 (lv_at hl 4 rfl) ?_
  refine lv_iconst (v := 5) hx hb d_M_crop_53 ic_5 ?_
  refine lv_icmp_gt (tgt := 134) hx hb d_M_crop_54 (by decide) (fun c_42 => ?_) (fun c_42 => ?_)
  · replace hf := kifp c_42 hf
    refine lv_iload_n hx hb d_M_crop_134 rfl (lv_at hl 2 rfl) ?_
    have e_ := Option.some.inj hf
    subst e_
    exact k_iret X rfl hV rfl d_M_crop_135
  replace hf := kifn c_42 hf
  refine lv_iconst (v := 0) hx hb d_M_crop_57 ic_0 ?_
  refine lv_istore (lv' := [(5, .int (0 : Int32)), (0, .ref h), (1, .int x1), (2, .int x2), (3, .int x3), (4, .int x4)]) hx hb d_M_crop_58 hl (by decide) rfl (fun ls hl => ?_)
  exact tl_M_crop_2 X hrec1 _ _ _ _ _ _ hf _ _ _ hV (lv_sub hl [1, 2, 3, 4, 5, 0] rfl)
set_option maxHeartbeats 2000000 in
set_option maxRecDepth 20000 in
theorem tl_M_crop_1 {l : Launch} {p : Program} {e : Env} {s : State} {m : MethodId} {args : Array Value} {below : List Frame} {meth : Method} {c : Code} {D : kD} {wc0 : va_W} {h : Nat} {h_now : Nat} {h_kept : Nat} {h_aside : Nat} {h_found : Nat} {h_down : Nat} {h_along : Nat} {h_parts : Nat} {h_gone : Nat} {h_tape : Nat} {h_kinds : Nat} {h_items : Nat} {h_widths : Nat} {h_sizes : Nat} {h_numbers : Nat} {h_moved : Nat} {v_isKept : Int32} {v_taped : Int32} {v_begins : Int32} {v_ends : Int32} {v_sort : Int32} {v_value : Int32} {v_isWrong : Int32} {v_itemMany : Int32} {v_farmMany : Int32} {v_farmCells : Int64} {v_aside : Nat → Int32} {v_found : Nat → Int32} {v_down : Nat → Int32} {v_along : Nat → Int32} {x1 : Int32} {out : Int32 × (Nat → Int32) × (Nat → Int32) × (Nat → Int32)} (X : kX p m meth c s args D (va_A wc0 s.heap.size) b_M_crop "MountainFarmsModel" 6 (some .int)) : ∀ (n : Nat) (x2 : Int32) (x3 : Int32) (x4 : Int32) (v_now : Nat → Int32), fl_M_crop_1 x1 v_aside v_found v_down v_along n x2 x3 x4 v_now = some out → ∀ (H : Heap) (locs : List Loc) (ls : Array Slot), kV D (va_A wc0 s.heap.size) s (wd_M_crop D h h_now h_kept h_aside h_found h_down h_along h_parts h_gone h_tape h_kinds h_items h_widths h_sizes h_numbers h_moved v_isKept v_taped v_begins v_ends v_sort v_value v_isWrong v_itemMany v_farmMany v_farmCells v_now v_aside v_found v_down v_along) H locs → lv_has ls 6 [(0, .ref h), (1, .int x1), (2, .int x2), (3, .int x3), (4, .int x4)] → W p l e { frames := 7, cells := 0, slots := 0, locals := 169 } s m args below meth c H locs 0 0 (MQ below (kQi D wc0 (wd_M_crop D h h_now h_kept h_aside h_found h_down h_along h_parts h_gone h_tape h_kinds h_items h_widths h_sizes h_numbers h_moved v_isKept v_taped v_begins v_ends v_sort v_value v_isWrong v_itemMany v_farmMany v_farmCells out.2.1 out.2.2.1 out.2.2.2 v_down v_along) s.heap.size out.1) args s 0 0 (va_A wc0 s.heap.size)) (F0 m 51 ls []) := by
  intro n
  induction n with
  | zero => intro x2 x3 x4 v_now hf; exact knone hf
  | succ n ih => intro x2 x3 x4 v_now hf H locs ls hV hl; exact tb_M_crop_1 X ih hf hV hl
set_option maxHeartbeats 2000000 in
set_option maxRecDepth 20000 in
theorem t_M_crop {l : Launch} {p : Program} {e : Env} {s : State} {m : MethodId} {args : Array Value} {below : List Frame} {meth : Method} {c : Code} {D : kD} {wc0 : va_W} {h : Nat} {h_now : Nat} {h_kept : Nat} {h_aside : Nat} {h_found : Nat} {h_down : Nat} {h_along : Nat} {h_parts : Nat} {h_gone : Nat} {h_tape : Nat} {h_kinds : Nat} {h_items : Nat} {h_widths : Nat} {h_sizes : Nat} {h_numbers : Nat} {h_moved : Nat} {v_isKept : Int32} {v_taped : Int32} {v_begins : Int32} {v_ends : Int32} {v_sort : Int32} {v_value : Int32} {v_isWrong : Int32} {v_itemMany : Int32} {v_farmMany : Int32} {v_farmCells : Int64} {v_now : Nat → Int32} {v_aside : Nat → Int32} {v_found : Nat → Int32} {v_down : Nat → Int32} {v_along : Nat → Int32} {x1 : Int32} {out : Int32 × (Nat → Int32) × (Nat → Int32) × (Nat → Int32)} (X : kX p m meth c s args D (va_A wc0 s.heap.size) b_M_crop "MountainFarmsModel" 6 (some .int)) (hf : f_M_crop v_now v_aside v_found v_down v_along x1 = some out) {H : Heap} {locs : List Loc} (hV : kV D (va_A wc0 s.heap.size) s (wd_M_crop D h h_now h_kept h_aside h_found h_down h_along h_parts h_gone h_tape h_kinds h_items h_widths h_sizes h_numbers h_moved v_isKept v_taped v_begins v_ends v_sort v_value v_isWrong v_itemMany v_farmMany v_farmCells v_now v_aside v_found v_down v_along) H locs) {ls : Array Slot} (hl : lv_has ls 6 [(0, .ref h), (1, .int x1)]) : W p l e { frames := 7, cells := 0, slots := 0, locals := 169 } s m args below meth c H locs 0 0 (MQ below (kQi D wc0 (wd_M_crop D h h_now h_kept h_aside h_found h_down h_along h_parts h_gone h_tape h_kinds h_items h_widths h_sizes h_numbers h_moved v_isKept v_taped v_begins v_ends v_sort v_value v_isWrong v_itemMany v_farmMany v_farmCells out.2.1 out.2.2.1 out.2.2.2 v_down v_along) s.heap.size out.1) args s 0 0 (va_A wc0 s.heap.size)) (F0 m 0 ls []) := by
  unfold f_M_crop at hf
  obtain ⟨hx, hb, -⟩ := id X
  refine lv_iload_n hx hb d_M_crop_0 rfl (lv_at hl 1 rfl) ?_
  refine lv_iconst (v := 1) hx hb d_M_crop_1 ic_1 ?_
  refine lv_sipush (v := 240) hx hb d_M_crop_2 sp_240 ?_
  obtain ⟨r_28, hc_29, hf⟩ := kb1_some hf
  refine k_csi (w1 := (wd_M_within D)) (r := r_28) (ws' := (wd_M_crop D h h_now h_kept h_aside h_found h_down h_along h_parts h_gone h_tape h_kinds h_items h_widths h_sizes h_numbers h_moved v_isKept v_taped v_begins v_ends v_sort v_value v_isWrong v_itemMany v_farmMany v_farmCells v_now v_aside v_found v_down v_along)) X hV hl.1 (c_M_within D x1 (1 : Int32) (240 : Int32) hc_29) fk_M_within gw_970 rfl [] [none, none, none, none, none, none] rfl rfl ⟨rfl, rfl, rfl, rfl, rfl, rfl, trivial⟩ rfl rfl rfl d_M_crop_5 (fun H locs hV => ?_)
  refine lv_if_ne (tgt := 18) hx hb d_M_crop_8 (by decide) (fun c_30 => ?_) (fun c_30 => ?_)
  · replace hf := kifn c_30 hf
    refine lv_aload_n hx hb d_M_crop_18 rfl (lv_at hl 0 rfl) ?_
    refine lv_iload_n hx hb d_M_crop_19 rfl (lv_at hl 1 rfl) ?_
    obtain ⟨r_31, hc_32, hf⟩ := kb1_some hf
    refine k_cvi (w1 := (wd_M_isTooLate D h h_now h_kept h_aside h_found h_down h_along h_parts h_gone h_tape h_kinds h_items h_widths h_sizes h_numbers h_moved v_isKept v_taped v_begins v_ends v_sort v_value v_isWrong v_itemMany v_farmMany v_farmCells v_now)) (r := r_31) (ws' := (wd_M_crop D h h_now h_kept h_aside h_found h_down h_along h_parts h_gone h_tape h_kinds h_items h_widths h_sizes h_numbers h_moved v_isKept v_taped v_begins v_ends v_sort v_value v_isWrong v_itemMany v_farmMany v_farmCells v_now v_aside v_found v_down v_along)) X hV hl.1 (c_M_isTooLate D h h_now h_kept h_aside h_found h_down h_along h_parts h_gone h_tape h_kinds h_items h_widths h_sizes h_numbers h_moved v_isKept v_taped v_begins v_ends v_sort v_value v_isWrong v_itemMany v_farmMany v_farmCells v_now x1 hc_32) fk_M_isTooLate gw_1195 rfl 0 9 rfl rfl [0, 1] [some 0, some 1, none, none, none, none] rfl rfl ⟨rfl, rfl, rfl, rfl, rfl, rfl, rfl, rfl, rfl, rfl, trivial⟩ rfl rfl rfl d_M_crop_20 (fun H locs hV => ?_)
    refine lv_if_eq (tgt := 33) hx hb d_M_crop_23 (by decide) (fun c_33 => ?_) (fun c_33 => ?_)
    · replace hf := kifp c_33 hf
      refine lv_aload_n hx hb d_M_crop_33 rfl (lv_at hl 0 rfl) ?_
      refine k_get X hV 0 9 0 rfl rfl rfl gw_887 rfl rfl d_M_crop_34 ?_
      refine lv_aload_n hx hb d_M_crop_37 rfl (lv_at hl 0 rfl) ?_
      refine k_get X hV 0 9 2 rfl rfl rfl gw_889 rfl rfl d_M_crop_38 ?_
      obtain ⟨v_aside_34, hc_35, hf⟩ := kb1_some hf
      refine k_csv (w1 := (wd_M_copyRow D h_now h_aside v_now v_aside_34)) (ws' := (wd_M_crop D h h_now h_kept h_aside h_found h_down h_along h_parts h_gone h_tape h_kinds h_items h_widths h_sizes h_numbers h_moved v_isKept v_taped v_begins v_ends v_sort v_value v_isWrong v_itemMany v_farmMany v_farmCells v_now v_aside_34 v_found v_down v_along)) X hV hl.1 (c_M_copyRow D h_now h_aside v_now v_aside hc_35) fk_M_copyRow gw_1145 rfl [1, 2] [none, some 0, some 1, none, none, none] rfl rfl ⟨rfl, rfl, rfl, rfl, rfl, rfl, rfl, rfl, rfl, rfl, trivial⟩ rfl rfl rfl d_M_crop_41 (fun H locs hV => ?_)
      refine lv_iconst (v := (-1)) hx hb d_M_crop_44 ic_m1 ?_
      refine lv_istore_n (lv' := [(2, .int (-1 : Int32)), (0, .ref h), (1, .int x1)]) hx hb d_M_crop_45 rfl hl (by decide) rfl (fun ls hl => ?_)
      refine lv_iconst (v := 0) hx hb d_M_crop_46 ic_0 ?_
      refine lv_istore_n (lv' := [(3, .int (0 : Int32)), (2, .int (-1 : Int32)), (0, .ref h), (1, .int x1)]) hx hb d_M_crop_47 rfl hl (by decide) rfl (fun ls hl => ?_)
      refine lv_iconst (v := 0) hx hb d_M_crop_48 ic_0 ?_
      refine lv_istore (lv' := [(4, .int (0 : Int32)), (3, .int (0 : Int32)), (2, .int (-1 : Int32)), (0, .ref h), (1, .int x1)]) hx hb d_M_crop_49 hl (by decide) rfl (fun ls hl => ?_)
      exact tl_M_crop_1 X _ _ _ _ _ hf _ _ _ hV (lv_sub hl [3, 4, 2, 1, 0] rfl)
    replace hf := kifn c_33 hf
    refine lv_aload_n hx hb d_M_crop_26 rfl (lv_at hl 0 rfl) ?_
    refine k_ldc (v := (-1000000005)) X gw_1025 d_M_crop_27 ?_
    obtain ⟨r_36, v_found_37, hc_38, hf⟩ := kb2_some hf
    refine k_cvi (w1 := (wd_M_finding D h h_now h_kept h_aside h_found h_down h_along h_parts h_gone h_tape h_kinds h_items h_widths h_sizes h_numbers h_moved v_isKept v_taped v_begins v_ends v_sort v_value v_isWrong v_itemMany v_farmMany v_farmCells v_found_37)) (r := r_36) (ws' := (wd_M_crop D h h_now h_kept h_aside h_found h_down h_along h_parts h_gone h_tape h_kinds h_items h_widths h_sizes h_numbers h_moved v_isKept v_taped v_begins v_ends v_sort v_value v_isWrong v_itemMany v_farmMany v_farmCells v_now v_aside v_found_37 v_down v_along)) X hV hl.1 (c_M_finding D h h_now h_kept h_aside h_found h_down h_along h_parts h_gone h_tape h_kinds h_items h_widths h_sizes h_numbers h_moved v_isKept v_taped v_begins v_ends v_sort v_value v_isWrong v_itemMany v_farmMany v_farmCells v_found (-1000000005 : Int32) hc_38) fk_M_finding gw_974 rfl 0 9 rfl rfl [0, 3] [some 0, none, none, some 1, none, none] rfl rfl ⟨rfl, rfl, rfl, rfl, rfl, rfl, rfl, rfl, rfl, rfl, trivial⟩ rfl rfl rfl d_M_crop_29 (fun H locs hV => ?_)
    have e_ := Option.some.inj hf
    subst e_
    exact k_iret X rfl hV rfl d_M_crop_32
  replace hf := kifp c_30 hf
  refine lv_aload_n hx hb d_M_crop_11 rfl (lv_at hl 0 rfl) ?_
  refine k_ldc (v := (-1000000001)) X gw_973 d_M_crop_12 ?_
  obtain ⟨r_39, v_found_40, hc_41, hf⟩ := kb2_some hf
  refine k_cvi (w1 := (wd_M_finding D h h_now h_kept h_aside h_found h_down h_along h_parts h_gone h_tape h_kinds h_items h_widths h_sizes h_numbers h_moved v_isKept v_taped v_begins v_ends v_sort v_value v_isWrong v_itemMany v_farmMany v_farmCells v_found_40)) (r := r_39) (ws' := (wd_M_crop D h h_now h_kept h_aside h_found h_down h_along h_parts h_gone h_tape h_kinds h_items h_widths h_sizes h_numbers h_moved v_isKept v_taped v_begins v_ends v_sort v_value v_isWrong v_itemMany v_farmMany v_farmCells v_now v_aside v_found_40 v_down v_along)) X hV hl.1 (c_M_finding D h h_now h_kept h_aside h_found h_down h_along h_parts h_gone h_tape h_kinds h_items h_widths h_sizes h_numbers h_moved v_isKept v_taped v_begins v_ends v_sort v_value v_isWrong v_itemMany v_farmMany v_farmCells v_found (-1000000001 : Int32) hc_41) fk_M_finding gw_974 rfl 0 9 rfl rfl [0, 3] [some 0, none, none, some 1, none, none] rfl rfl ⟨rfl, rfl, rfl, rfl, rfl, rfl, rfl, rfl, rfl, rfl, trivial⟩ rfl rfl rfl d_M_crop_14 (fun H locs hV => ?_)
  have e_ := Option.some.inj hf
  subst e_
  exact k_iret X rfl hV rfl d_M_crop_17
set_option maxHeartbeats 2000000 in
set_option maxRecDepth 20000 in
theorem c_M_crop {l : Launch} (D : kD) (h : Nat) (h_now : Nat) (h_kept : Nat) (h_aside : Nat) (h_found : Nat) (h_down : Nat) (h_along : Nat) (h_parts : Nat) (h_gone : Nat) (h_tape : Nat) (h_kinds : Nat) (h_items : Nat) (h_widths : Nat) (h_sizes : Nat) (h_numbers : Nat) (h_moved : Nat) (v_isKept : Int32) (v_taped : Int32) (v_begins : Int32) (v_ends : Int32) (v_sort : Int32) (v_value : Int32) (v_isWrong : Int32) (v_itemMany : Int32) (v_farmMany : Int32) (v_farmCells : Int64) (v_now : Nat → Int32) (v_aside : Nat → Int32) (v_found : Nat → Int32) (v_down : Nat → Int32) (v_along : Nat → Int32) (x1 : Int32) {out : Int32 × (Nat → Int32) × (Nat → Int32) × (Nat → Int32)} (hf : f_M_crop v_now v_aside v_found v_down v_along x1 = some out) : kMi l D y_M_crop b_M_crop 6 (some .int) { frames := 7, cells := 0, slots := 0, locals := 169 } [.ref h, .int x1] (wd_M_crop D h h_now h_kept h_aside h_found h_down h_along h_parts h_gone h_tape h_kinds h_items h_widths h_sizes h_numbers h_moved v_isKept v_taped v_begins v_ends v_sort v_value v_isWrong v_itemMany v_farmMany v_farmCells v_now v_aside v_found v_down v_along) (wd_M_crop D h h_now h_kept h_aside h_found h_down h_along h_parts h_gone h_tape h_kinds h_items h_widths h_sizes h_numbers h_moved v_isKept v_taped v_begins v_ends v_sort v_value v_isWrong v_itemMany v_farmMany v_farmCells out.2.1 out.2.2.1 out.2.2.2 v_down v_along) out.1 :=
  kMi_of (own := "MountainFarmsModel") (plainFor_of_name (by decide)) rfl rfl (fun p e s m args below meth c ls X hV hl => t_M_crop X hf hV hl)
set_option maxHeartbeats 2000000 in
set_option maxRecDepth 20000 in
theorem tb_M_feed_1 {l : Launch} {p : Program} {e : Env} {s : State} {m : MethodId} {args : Array Value} {below : List Frame} {meth : Method} {c : Code} {D : kD} {wc0 : va_W} {h : Nat} {h_now : Nat} {h_kept : Nat} {h_aside : Nat} {h_found : Nat} {h_down : Nat} {h_along : Nat} {h_parts : Nat} {h_gone : Nat} {h_tape : Nat} {h_kinds : Nat} {h_items : Nat} {h_widths : Nat} {h_sizes : Nat} {h_numbers : Nat} {h_moved : Nat} {v_isKept : Int32} {v_taped : Int32} {v_begins : Int32} {v_ends : Int32} {v_sort : Int32} {v_value : Int32} {v_isWrong : Int32} {v_itemMany : Int32} {v_farmMany : Int32} {v_farmCells : Int64} {v_found : Nat → Int32} {v_tape : Nat → Int32} {x1 : Int32} {x3 : Int32} {rec1 : Int32 → Int32 → (Nat → Int32) → Option (Int32 × Int32 × (Nat → Int32) × (Nat → Int32))} {out : Int32 × Int32 × (Nat → Int32) × (Nat → Int32)} (X : kX p m meth c s args D (va_A wc0 s.heap.size) b_M_feed "MountainFarmsModel" 4 (some .int)) (hrec1 : ∀ (x3 : Int32) (v_taped : Int32) (v_tape : Nat → Int32), rec1 x3 v_taped v_tape = some out → ∀ (H : Heap) (locs : List Loc) (ls : Array Slot), kV D (va_A wc0 s.heap.size) s (wd_M_feed D h h_now h_kept h_aside h_found h_down h_along h_parts h_gone h_tape h_kinds h_items h_widths h_sizes h_numbers h_moved v_isKept v_taped v_begins v_ends v_sort v_value v_isWrong v_itemMany v_farmMany v_farmCells v_found v_tape) H locs → lv_has ls 4 [(0, .ref h), (1, .int x1), (3, .int x3)] → W p l e { frames := 1, cells := 0, slots := 0, locals := 22 } s m args below meth c H locs 0 0 (MQ below (kQi D wc0 (wd_M_feed D h h_now h_kept h_aside h_found h_down h_along h_parts h_gone h_tape h_kinds h_items h_widths h_sizes h_numbers h_moved v_isKept out.2.1 v_begins v_ends v_sort v_value v_isWrong v_itemMany v_farmMany v_farmCells out.2.2.1 out.2.2.2) s.heap.size out.1) args s 0 0 (va_A wc0 s.heap.size)) (F0 m 38 ls [])) (hf : fb_M_feed_1 rec1 x1 v_found x3 v_taped v_tape = some out) {H : Heap} {locs : List Loc} (hV : kV D (va_A wc0 s.heap.size) s (wd_M_feed D h h_now h_kept h_aside h_found h_down h_along h_parts h_gone h_tape h_kinds h_items h_widths h_sizes h_numbers h_moved v_isKept v_taped v_begins v_ends v_sort v_value v_isWrong v_itemMany v_farmMany v_farmCells v_found v_tape) H locs) {ls : Array Slot} (hl : lv_has ls 4 [(0, .ref h), (1, .int x1), (3, .int x3)]) : W p l e { frames := 1, cells := 0, slots := 0, locals := 22 } s m args below meth c H locs 0 0 (MQ below (kQi D wc0 (wd_M_feed D h h_now h_kept h_aside h_found h_down h_along h_parts h_gone h_tape h_kinds h_items h_widths h_sizes h_numbers h_moved v_isKept out.2.1 v_begins v_ends v_sort v_value v_isWrong v_itemMany v_farmMany v_farmCells out.2.2.1 out.2.2.2) s.heap.size out.1) args s 0 0 (va_A wc0 s.heap.size)) (F0 m 38 ls []) := by
  unfold fb_M_feed_1 at hf
  obtain ⟨hx, hb, -⟩ := id X
  refine lv_iload_n hx hb d_M_feed_38 rfl (lv_at hl 2 rfl) ?_
  refine lv_if_lt (tgt := 77) hx hb d_M_feed_39 (by decide) (fun c_23 => ?_) (fun c_23 => ?_)
  · replace hf := kifp c_23 hf
    refine lv_aload_n hx hb d_M_feed_77 rfl (lv_at hl 0 rfl) ?_
    refine k_get X hV 0 9 10 rfl rfl rfl gw_897 rfl rfl d_M_feed_78 ?_
    have e_ := Option.some.inj hf
    subst e_
    exact k_iret X rfl hV rfl d_M_feed_81
  replace hf := kifn c_23 hf
  refine lv_aload_n hx hb d_M_feed_42 rfl (lv_at hl 0 rfl) ?_
  refine k_get X hV 0 9 9 rfl rfl rfl gw_896 rfl rfl d_M_feed_43 ?_
  refine lv_aload_n hx hb d_M_feed_46 rfl (lv_at hl 0 rfl) ?_
  refine k_get X hV 0 9 10 rfl rfl rfl gw_897 rfl rfl d_M_feed_47 ?_
  refine lv_iload_n hx hb d_M_feed_50 rfl (lv_at hl 1 rfl) ?_
  refine lv_bipush (v := 8) hx hb d_M_feed_51 bp_8 ?_
  refine lv_iload_n hx hb d_M_feed_53 rfl (lv_at hl 2 rfl) ?_
  refine lv_imul hx hb d_M_feed_54 ?_
  refine lv_ishr hx hb d_M_feed_55 ?_
  refine lv_sipush (v := 255) hx hb d_M_feed_56 sp_255 ?_
  refine lv_iand hx hb d_M_feed_59 ?_
  obtain ⟨h_24, hf⟩ := kidx_some hf
  refine k_iast (ws' := (wd_M_feed D h h_now h_kept h_aside h_found h_down h_along h_parts h_gone h_tape h_kinds h_items h_widths h_sizes h_numbers h_moved v_isKept v_taped v_begins v_ends v_sort v_value v_isWrong v_itemMany v_farmMany v_farmCells v_found (upd v_tape v_taped.toNatClampNeg ((x1 >>> (((8 : Int32) * x3) &&& 31)) &&& (255 : Int32))))) X hV 2 rfl h_24 rfl rfl d_M_feed_60 (fun H locs hV => ?_)
  refine lv_aload_n hx hb d_M_feed_61 rfl (lv_at hl 0 rfl) ?_
  refine lv_dup hx hb d_M_feed_62 rfl ?_
  refine k_get X hV 0 9 10 rfl rfl rfl gw_897 rfl rfl d_M_feed_63 ?_
  refine lv_iconst (v := 1) hx hb d_M_feed_66 ic_1 ?_
  refine lv_iadd hx hb d_M_feed_67 ?_
  refine k_putv (ty := .int) (ws' := (wd_M_feed D h h_now h_kept h_aside h_found h_down h_along h_parts h_gone h_tape h_kinds h_items h_widths h_sizes h_numbers h_moved v_isKept (v_taped + (1 : Int32)) v_begins v_ends v_sort v_value v_isWrong v_itemMany v_farmMany v_farmCells v_found (upd v_tape v_taped.toNatClampNeg ((x1 >>> (((8 : Int32) * x3) &&& 31)) &&& (255 : Int32))))) X hV 0 9 10 rfl rfl rfl gw_897 rfl rfl rfl rfl rfl rfl rfl d_M_feed_68 (fun H locs hV => ?_)
  refine lv_iinc (v := (x3 + (-1))) (lv' := [(3, .int (x3 + (-1))), (0, .ref h), (1, .int x1)]) hx hb d_M_feed_71 hl (k := 2) rfl rfl (by decide) rfl (fun ls hl => ?_)
  refine lv_goto (tgt := 38) hx hb d_M_feed_74 (by decide) ?_
  exact hrec1 _ _ _ hf _ _ _ hV (lv_sub hl [1, 2, 0] rfl)
set_option maxHeartbeats 2000000 in
set_option maxRecDepth 20000 in
theorem tl_M_feed_1 {l : Launch} {p : Program} {e : Env} {s : State} {m : MethodId} {args : Array Value} {below : List Frame} {meth : Method} {c : Code} {D : kD} {wc0 : va_W} {h : Nat} {h_now : Nat} {h_kept : Nat} {h_aside : Nat} {h_found : Nat} {h_down : Nat} {h_along : Nat} {h_parts : Nat} {h_gone : Nat} {h_tape : Nat} {h_kinds : Nat} {h_items : Nat} {h_widths : Nat} {h_sizes : Nat} {h_numbers : Nat} {h_moved : Nat} {v_isKept : Int32} {v_begins : Int32} {v_ends : Int32} {v_sort : Int32} {v_value : Int32} {v_isWrong : Int32} {v_itemMany : Int32} {v_farmMany : Int32} {v_farmCells : Int64} {v_found : Nat → Int32} {x1 : Int32} {out : Int32 × Int32 × (Nat → Int32) × (Nat → Int32)} (X : kX p m meth c s args D (va_A wc0 s.heap.size) b_M_feed "MountainFarmsModel" 4 (some .int)) : ∀ (n : Nat) (x3 : Int32) (v_taped : Int32) (v_tape : Nat → Int32), fl_M_feed_1 x1 v_found n x3 v_taped v_tape = some out → ∀ (H : Heap) (locs : List Loc) (ls : Array Slot), kV D (va_A wc0 s.heap.size) s (wd_M_feed D h h_now h_kept h_aside h_found h_down h_along h_parts h_gone h_tape h_kinds h_items h_widths h_sizes h_numbers h_moved v_isKept v_taped v_begins v_ends v_sort v_value v_isWrong v_itemMany v_farmMany v_farmCells v_found v_tape) H locs → lv_has ls 4 [(0, .ref h), (1, .int x1), (3, .int x3)] → W p l e { frames := 1, cells := 0, slots := 0, locals := 22 } s m args below meth c H locs 0 0 (MQ below (kQi D wc0 (wd_M_feed D h h_now h_kept h_aside h_found h_down h_along h_parts h_gone h_tape h_kinds h_items h_widths h_sizes h_numbers h_moved v_isKept out.2.1 v_begins v_ends v_sort v_value v_isWrong v_itemMany v_farmMany v_farmCells out.2.2.1 out.2.2.2) s.heap.size out.1) args s 0 0 (va_A wc0 s.heap.size)) (F0 m 38 ls []) := by
  intro n
  induction n with
  | zero => intro x3 v_taped v_tape hf; exact knone hf
  | succ n ih => intro x3 v_taped v_tape hf H locs ls hV hl; exact tb_M_feed_1 X ih hf hV hl
set_option maxHeartbeats 2000000 in
set_option maxRecDepth 20000 in
theorem t_M_feed {l : Launch} {p : Program} {e : Env} {s : State} {m : MethodId} {args : Array Value} {below : List Frame} {meth : Method} {c : Code} {D : kD} {wc0 : va_W} {h : Nat} {h_now : Nat} {h_kept : Nat} {h_aside : Nat} {h_found : Nat} {h_down : Nat} {h_along : Nat} {h_parts : Nat} {h_gone : Nat} {h_tape : Nat} {h_kinds : Nat} {h_items : Nat} {h_widths : Nat} {h_sizes : Nat} {h_numbers : Nat} {h_moved : Nat} {v_isKept : Int32} {v_taped : Int32} {v_begins : Int32} {v_ends : Int32} {v_sort : Int32} {v_value : Int32} {v_isWrong : Int32} {v_itemMany : Int32} {v_farmMany : Int32} {v_farmCells : Int64} {v_found : Nat → Int32} {v_tape : Nat → Int32} {x1 : Int32} {x2 : Int32} {out : Int32 × Int32 × (Nat → Int32) × (Nat → Int32)} (X : kX p m meth c s args D (va_A wc0 s.heap.size) b_M_feed "MountainFarmsModel" 4 (some .int)) (hf : f_M_feed v_taped v_found v_tape x1 x2 = some out) {H : Heap} {locs : List Loc} (hV : kV D (va_A wc0 s.heap.size) s (wd_M_feed D h h_now h_kept h_aside h_found h_down h_along h_parts h_gone h_tape h_kinds h_items h_widths h_sizes h_numbers h_moved v_isKept v_taped v_begins v_ends v_sort v_value v_isWrong v_itemMany v_farmMany v_farmCells v_found v_tape) H locs) {ls : Array Slot} (hl : lv_has ls 4 [(0, .ref h), (1, .int x1), (2, .int x2)]) : W p l e { frames := 1, cells := 0, slots := 0, locals := 22 } s m args below meth c H locs 0 0 (MQ below (kQi D wc0 (wd_M_feed D h h_now h_kept h_aside h_found h_down h_along h_parts h_gone h_tape h_kinds h_items h_widths h_sizes h_numbers h_moved v_isKept out.2.1 v_begins v_ends v_sort v_value v_isWrong v_itemMany v_farmMany v_farmCells out.2.2.1 out.2.2.2) s.heap.size out.1) args s 0 0 (va_A wc0 s.heap.size)) (F0 m 0 ls []) := by
  unfold f_M_feed at hf
  obtain ⟨hx, hb, -⟩ := id X
  refine lv_iload_n hx hb d_M_feed_0 rfl (lv_at hl 2 rfl) ?_
  refine lv_iconst (v := 1) hx hb d_M_feed_1 ic_1 ?_
  refine lv_iconst (v := 4) hx hb d_M_feed_2 ic_4 ?_
  obtain ⟨r_13, hc_14, hf⟩ := kb1_some hf
  refine k_csi (w1 := (wd_M_within D)) (r := r_13) (ws' := (wd_M_feed D h h_now h_kept h_aside h_found h_down h_along h_parts h_gone h_tape h_kinds h_items h_widths h_sizes h_numbers h_moved v_isKept v_taped v_begins v_ends v_sort v_value v_isWrong v_itemMany v_farmMany v_farmCells v_found v_tape)) X hV hl.1 (c_M_within D x2 (1 : Int32) (4 : Int32) hc_14) fk_M_within gw_970 rfl [] [none, none, none] rfl rfl ⟨rfl, rfl, rfl, trivial⟩ rfl rfl rfl d_M_feed_3 (fun H locs hV => ?_)
  refine lv_if_ne (tgt := 16) hx hb d_M_feed_6 (by decide) (fun c_15 => ?_) (fun c_15 => ?_)
  · replace hf := kifn c_15 hf
    refine lv_aload_n hx hb d_M_feed_16 rfl (lv_at hl 0 rfl) ?_
    refine k_get X hV 0 9 10 rfl rfl rfl gw_897 rfl rfl d_M_feed_17 ?_
    refine lv_iload_n hx hb d_M_feed_20 rfl (lv_at hl 2 rfl) ?_
    refine lv_iadd hx hb d_M_feed_21 ?_
    refine lv_bipush (v := 120) hx hb d_M_feed_22 bp_120 ?_
    refine lv_icmp_le (tgt := 34) hx hb d_M_feed_24 (by decide) (fun c_16 => ?_) (fun c_16 => ?_)
    · replace hf := kifp c_16 hf
      refine lv_iload_n hx hb d_M_feed_34 rfl (lv_at hl 2 rfl) ?_
      refine lv_iconst (v := 1) hx hb d_M_feed_35 ic_1 ?_
      refine lv_isub hx hb d_M_feed_36 ?_
      refine lv_istore_n (lv' := [(3, .int (x2 - (1 : Int32))), (0, .ref h), (1, .int x1), (2, .int x2)]) hx hb d_M_feed_37 rfl hl (by decide) rfl (fun ls hl => ?_)
      exact tl_M_feed_1 X _ _ _ _ hf _ _ _ hV (lv_sub hl [1, 2, 0] rfl)
    replace hf := kifn c_16 hf
    refine lv_aload_n hx hb d_M_feed_27 rfl (lv_at hl 0 rfl) ?_
    refine k_ldc (v := (-1000000002)) X gw_1026 d_M_feed_28 ?_
    obtain ⟨r_17, v_found_18, hc_19, hf⟩ := kb2_some hf
    refine k_cvi (w1 := (wd_M_finding D h h_now h_kept h_aside h_found h_down h_along h_parts h_gone h_tape h_kinds h_items h_widths h_sizes h_numbers h_moved v_isKept v_taped v_begins v_ends v_sort v_value v_isWrong v_itemMany v_farmMany v_farmCells v_found_18)) (r := r_17) (ws' := (wd_M_feed D h h_now h_kept h_aside h_found h_down h_along h_parts h_gone h_tape h_kinds h_items h_widths h_sizes h_numbers h_moved v_isKept v_taped v_begins v_ends v_sort v_value v_isWrong v_itemMany v_farmMany v_farmCells v_found_18 v_tape)) X hV hl.1 (c_M_finding D h h_now h_kept h_aside h_found h_down h_along h_parts h_gone h_tape h_kinds h_items h_widths h_sizes h_numbers h_moved v_isKept v_taped v_begins v_ends v_sort v_value v_isWrong v_itemMany v_farmMany v_farmCells v_found (-1000000002 : Int32) hc_19) fk_M_finding gw_974 rfl 0 9 rfl rfl [0, 1] [some 0, some 1, none] rfl rfl ⟨rfl, rfl, rfl, rfl, rfl, rfl, rfl, trivial⟩ rfl rfl rfl d_M_feed_30 (fun H locs hV => ?_)
    have e_ := Option.some.inj hf
    subst e_
    exact k_iret X rfl hV rfl d_M_feed_33
  replace hf := kifp c_15 hf
  refine lv_aload_n hx hb d_M_feed_9 rfl (lv_at hl 0 rfl) ?_
  refine k_ldc (v := (-1000000001)) X gw_973 d_M_feed_10 ?_
  obtain ⟨r_20, v_found_21, hc_22, hf⟩ := kb2_some hf
  refine k_cvi (w1 := (wd_M_finding D h h_now h_kept h_aside h_found h_down h_along h_parts h_gone h_tape h_kinds h_items h_widths h_sizes h_numbers h_moved v_isKept v_taped v_begins v_ends v_sort v_value v_isWrong v_itemMany v_farmMany v_farmCells v_found_21)) (r := r_20) (ws' := (wd_M_feed D h h_now h_kept h_aside h_found h_down h_along h_parts h_gone h_tape h_kinds h_items h_widths h_sizes h_numbers h_moved v_isKept v_taped v_begins v_ends v_sort v_value v_isWrong v_itemMany v_farmMany v_farmCells v_found_21 v_tape)) X hV hl.1 (c_M_finding D h h_now h_kept h_aside h_found h_down h_along h_parts h_gone h_tape h_kinds h_items h_widths h_sizes h_numbers h_moved v_isKept v_taped v_begins v_ends v_sort v_value v_isWrong v_itemMany v_farmMany v_farmCells v_found (-1000000001 : Int32) hc_22) fk_M_finding gw_974 rfl 0 9 rfl rfl [0, 1] [some 0, some 1, none] rfl rfl ⟨rfl, rfl, rfl, rfl, rfl, rfl, rfl, trivial⟩ rfl rfl rfl d_M_feed_12 (fun H locs hV => ?_)
  have e_ := Option.some.inj hf
  subst e_
  exact k_iret X rfl hV rfl d_M_feed_15
set_option maxHeartbeats 2000000 in
set_option maxRecDepth 20000 in
theorem c_M_feed {l : Launch} (D : kD) (h : Nat) (h_now : Nat) (h_kept : Nat) (h_aside : Nat) (h_found : Nat) (h_down : Nat) (h_along : Nat) (h_parts : Nat) (h_gone : Nat) (h_tape : Nat) (h_kinds : Nat) (h_items : Nat) (h_widths : Nat) (h_sizes : Nat) (h_numbers : Nat) (h_moved : Nat) (v_isKept : Int32) (v_taped : Int32) (v_begins : Int32) (v_ends : Int32) (v_sort : Int32) (v_value : Int32) (v_isWrong : Int32) (v_itemMany : Int32) (v_farmMany : Int32) (v_farmCells : Int64) (v_found : Nat → Int32) (v_tape : Nat → Int32) (x1 : Int32) (x2 : Int32) {out : Int32 × Int32 × (Nat → Int32) × (Nat → Int32)} (hf : f_M_feed v_taped v_found v_tape x1 x2 = some out) : kMi l D y_M_feed b_M_feed 4 (some .int) { frames := 1, cells := 0, slots := 0, locals := 22 } [.ref h, .int x1, .int x2] (wd_M_feed D h h_now h_kept h_aside h_found h_down h_along h_parts h_gone h_tape h_kinds h_items h_widths h_sizes h_numbers h_moved v_isKept v_taped v_begins v_ends v_sort v_value v_isWrong v_itemMany v_farmMany v_farmCells v_found v_tape) (wd_M_feed D h h_now h_kept h_aside h_found h_down h_along h_parts h_gone h_tape h_kinds h_items h_widths h_sizes h_numbers h_moved v_isKept out.2.1 v_begins v_ends v_sort v_value v_isWrong v_itemMany v_farmMany v_farmCells out.2.2.1 out.2.2.2) out.1 :=
  kMi_of (own := "MountainFarmsModel") (plainFor_of_name (by decide)) rfl rfl (fun p e s m args below meth c ls X hV hl => t_M_feed X hf hV hl)
set_option maxHeartbeats 2000000 in
set_option maxRecDepth 20000 in
theorem t_M_wipe {l : Launch} {p : Program} {e : Env} {s : State} {m : MethodId} {args : Array Value} {below : List Frame} {meth : Method} {c : Code} {D : kD} {wc0 : va_W} {h : Nat} {h_now : Nat} {h_kept : Nat} {h_aside : Nat} {h_found : Nat} {h_down : Nat} {h_along : Nat} {h_parts : Nat} {h_gone : Nat} {h_tape : Nat} {h_kinds : Nat} {h_items : Nat} {h_widths : Nat} {h_sizes : Nat} {h_numbers : Nat} {h_moved : Nat} {v_isKept : Int32} {v_taped : Int32} {v_begins : Int32} {v_ends : Int32} {v_sort : Int32} {v_value : Int32} {v_isWrong : Int32} {v_itemMany : Int32} {v_farmMany : Int32} {v_farmCells : Int64} {out : Int32 × Int32} (X : kX p m meth c s args D (va_A wc0 s.heap.size) b_M_wipe "MountainFarmsModel" 2 (some .int)) (hf : f_M_wipe v_taped = some out) {H : Heap} {locs : List Loc} (hV : kV D (va_A wc0 s.heap.size) s (wd_M_wipe D h h_now h_kept h_aside h_found h_down h_along h_parts h_gone h_tape h_kinds h_items h_widths h_sizes h_numbers h_moved v_isKept v_taped v_begins v_ends v_sort v_value v_isWrong v_itemMany v_farmMany v_farmCells) H locs) {ls : Array Slot} (hl : lv_has ls 2 [(0, .ref h)]) : W p l e { frames := 0, cells := 0, slots := 0, locals := 0 } s m args below meth c H locs 0 0 (MQ below (kQi D wc0 (wd_M_wipe D h h_now h_kept h_aside h_found h_down h_along h_parts h_gone h_tape h_kinds h_items h_widths h_sizes h_numbers h_moved v_isKept out.2 v_begins v_ends v_sort v_value v_isWrong v_itemMany v_farmMany v_farmCells) s.heap.size out.1) args s 0 0 (va_A wc0 s.heap.size)) (F0 m 0 ls []) := by
  unfold f_M_wipe at hf
  obtain ⟨hx, hb, -⟩ := id X
  refine lv_aload_n hx hb d_M_wipe_0 rfl (lv_at hl 0 rfl) ?_
  refine k_get X hV 0 9 10 rfl rfl rfl gw_897 rfl rfl d_M_wipe_1 ?_
  refine lv_istore_n (lv' := [(1, .int v_taped), (0, .ref h)]) hx hb d_M_wipe_4 rfl hl (by decide) rfl (fun ls hl => ?_)
  refine lv_aload_n hx hb d_M_wipe_5 rfl (lv_at hl 1 rfl) ?_
  refine lv_iconst (v := 0) hx hb d_M_wipe_6 ic_0 ?_
  refine k_putv (ty := .int) (ws' := (wd_M_wipe D h h_now h_kept h_aside h_found h_down h_along h_parts h_gone h_tape h_kinds h_items h_widths h_sizes h_numbers h_moved v_isKept (0 : Int32) v_begins v_ends v_sort v_value v_isWrong v_itemMany v_farmMany v_farmCells)) X hV 0 9 10 rfl rfl rfl gw_897 rfl rfl rfl rfl rfl rfl rfl d_M_wipe_7 (fun H locs hV => ?_)
  refine lv_iload_n hx hb d_M_wipe_10 rfl (lv_at hl 0 rfl) ?_
  have e_ := Option.some.inj hf
  subst e_
  exact k_iret X rfl hV rfl d_M_wipe_11
set_option maxHeartbeats 2000000 in
set_option maxRecDepth 20000 in
theorem c_M_wipe {l : Launch} (D : kD) (h : Nat) (h_now : Nat) (h_kept : Nat) (h_aside : Nat) (h_found : Nat) (h_down : Nat) (h_along : Nat) (h_parts : Nat) (h_gone : Nat) (h_tape : Nat) (h_kinds : Nat) (h_items : Nat) (h_widths : Nat) (h_sizes : Nat) (h_numbers : Nat) (h_moved : Nat) (v_isKept : Int32) (v_taped : Int32) (v_begins : Int32) (v_ends : Int32) (v_sort : Int32) (v_value : Int32) (v_isWrong : Int32) (v_itemMany : Int32) (v_farmMany : Int32) (v_farmCells : Int64) {out : Int32 × Int32} (hf : f_M_wipe v_taped = some out) : kMi l D y_M_wipe b_M_wipe 2 (some .int) { frames := 0, cells := 0, slots := 0, locals := 0 } [.ref h] (wd_M_wipe D h h_now h_kept h_aside h_found h_down h_along h_parts h_gone h_tape h_kinds h_items h_widths h_sizes h_numbers h_moved v_isKept v_taped v_begins v_ends v_sort v_value v_isWrong v_itemMany v_farmMany v_farmCells) (wd_M_wipe D h h_now h_kept h_aside h_found h_down h_along h_parts h_gone h_tape h_kinds h_items h_widths h_sizes h_numbers h_moved v_isKept out.2 v_begins v_ends v_sort v_value v_isWrong v_itemMany v_farmMany v_farmCells) out.1 :=
  kMi_of (own := "MountainFarmsModel") (plainFor_of_name (by decide)) rfl rfl (fun p e s m args below meth c ls X hV hl => t_M_wipe X hf hV hl)
set_option maxHeartbeats 2000000 in
set_option maxRecDepth 20000 in
theorem t_M_byteAt {l : Launch} {p : Program} {e : Env} {s : State} {m : MethodId} {args : Array Value} {below : List Frame} {meth : Method} {c : Code} {D : kD} {wc0 : va_W} {h : Nat} {h_now : Nat} {h_kept : Nat} {h_aside : Nat} {h_found : Nat} {h_down : Nat} {h_along : Nat} {h_parts : Nat} {h_gone : Nat} {h_tape : Nat} {h_kinds : Nat} {h_items : Nat} {h_widths : Nat} {h_sizes : Nat} {h_numbers : Nat} {h_moved : Nat} {v_isKept : Int32} {v_taped : Int32} {v_begins : Int32} {v_ends : Int32} {v_sort : Int32} {v_value : Int32} {v_isWrong : Int32} {v_itemMany : Int32} {v_farmMany : Int32} {v_farmCells : Int64} {v_tape : Nat → Int32} {x1 : Int32} {out : Int32} (X : kX p m meth c s args D (va_A wc0 s.heap.size) b_M_byteAt "MountainFarmsModel" 2 (some .int)) (hf : f_M_byteAt v_taped v_tape x1 = some out) {H : Heap} {locs : List Loc} (hV : kV D (va_A wc0 s.heap.size) s (wd_M_byteAt D h h_now h_kept h_aside h_found h_down h_along h_parts h_gone h_tape h_kinds h_items h_widths h_sizes h_numbers h_moved v_isKept v_taped v_begins v_ends v_sort v_value v_isWrong v_itemMany v_farmMany v_farmCells v_tape) H locs) {ls : Array Slot} (hl : lv_has ls 2 [(0, .ref h), (1, .int x1)]) : W p l e { frames := 0, cells := 0, slots := 0, locals := 0 } s m args below meth c H locs 0 0 (MQ below (kQi D wc0 (wd_M_byteAt D h h_now h_kept h_aside h_found h_down h_along h_parts h_gone h_tape h_kinds h_items h_widths h_sizes h_numbers h_moved v_isKept v_taped v_begins v_ends v_sort v_value v_isWrong v_itemMany v_farmMany v_farmCells v_tape) s.heap.size out) args s 0 0 (va_A wc0 s.heap.size)) (F0 m 0 ls []) := by
  unfold f_M_byteAt at hf
  obtain ⟨hx, hb, -⟩ := id X
  refine lv_iload_n hx hb d_M_byteAt_0 rfl (lv_at hl 1 rfl) ?_
  refine lv_aload_n hx hb d_M_byteAt_1 rfl (lv_at hl 0 rfl) ?_
  refine k_get X hV 0 9 10 rfl rfl rfl gw_897 rfl rfl d_M_byteAt_2 ?_
  refine lv_icmp_ge (tgt := 17) hx hb d_M_byteAt_5 (by decide) (fun c_3 => ?_) (fun c_3 => ?_)
  · replace hf := kifp c_3 hf
    refine lv_iconst (v := (-1)) hx hb d_M_byteAt_17 ic_m1 ?_
    have e_ := Option.some.inj hf
    subst e_
    exact k_iret X rfl hV rfl d_M_byteAt_18
  replace hf := kifn c_3 hf
  refine lv_aload_n hx hb d_M_byteAt_8 rfl (lv_at hl 0 rfl) ?_
  refine k_get X hV 0 9 9 rfl rfl rfl gw_896 rfl rfl d_M_byteAt_9 ?_
  refine lv_iload_n hx hb d_M_byteAt_12 rfl (lv_at hl 1 rfl) ?_
  obtain ⟨h_4, hf⟩ := kidx_some hf
  refine k_iald X hV 1 rfl h_4 rfl d_M_byteAt_13 ?_
  refine lv_goto (tgt := 18) hx hb d_M_byteAt_14 (by decide) ?_
  have e_ := Option.some.inj hf
  subst e_
  exact k_iret X rfl hV rfl d_M_byteAt_18
set_option maxHeartbeats 2000000 in
set_option maxRecDepth 20000 in
theorem c_M_byteAt {l : Launch} (D : kD) (h : Nat) (h_now : Nat) (h_kept : Nat) (h_aside : Nat) (h_found : Nat) (h_down : Nat) (h_along : Nat) (h_parts : Nat) (h_gone : Nat) (h_tape : Nat) (h_kinds : Nat) (h_items : Nat) (h_widths : Nat) (h_sizes : Nat) (h_numbers : Nat) (h_moved : Nat) (v_isKept : Int32) (v_taped : Int32) (v_begins : Int32) (v_ends : Int32) (v_sort : Int32) (v_value : Int32) (v_isWrong : Int32) (v_itemMany : Int32) (v_farmMany : Int32) (v_farmCells : Int64) (v_tape : Nat → Int32) (x1 : Int32) {out : Int32} (hf : f_M_byteAt v_taped v_tape x1 = some out) : kMi l D y_M_byteAt b_M_byteAt 2 (some .int) { frames := 0, cells := 0, slots := 0, locals := 0 } [.ref h, .int x1] (wd_M_byteAt D h h_now h_kept h_aside h_found h_down h_along h_parts h_gone h_tape h_kinds h_items h_widths h_sizes h_numbers h_moved v_isKept v_taped v_begins v_ends v_sort v_value v_isWrong v_itemMany v_farmMany v_farmCells v_tape) (wd_M_byteAt D h h_now h_kept h_aside h_found h_down h_along h_parts h_gone h_tape h_kinds h_items h_widths h_sizes h_numbers h_moved v_isKept v_taped v_begins v_ends v_sort v_value v_isWrong v_itemMany v_farmMany v_farmCells v_tape) out :=
  kMi_of (own := "MountainFarmsModel") (plainFor_of_name (by decide)) rfl rfl (fun p e s m args below meth c ls X hV hl => t_M_byteAt X hf hV hl)
set_option maxHeartbeats 2000000 in
set_option maxRecDepth 20000 in
theorem tb_M_next_3 {l : Launch} {p : Program} {e : Env} {s : State} {m : MethodId} {args : Array Value} {below : List Frame} {meth : Method} {c : Code} {D : kD} {wc0 : va_W} {h : Nat} {h_now : Nat} {h_kept : Nat} {h_aside : Nat} {h_found : Nat} {h_down : Nat} {h_along : Nat} {h_parts : Nat} {h_gone : Nat} {h_tape : Nat} {h_kinds : Nat} {h_items : Nat} {h_widths : Nat} {h_sizes : Nat} {h_numbers : Nat} {h_moved : Nat} {v_isKept : Int32} {v_taped : Int32} {v_begins : Int32} {v_ends : Int32} {v_sort : Int32} {v_value : Int32} {v_isWrong : Int32} {v_itemMany : Int32} {v_farmMany : Int32} {v_farmCells : Int64} {v_tape : Nat → Int32} {rec3 : Int32 → Int32 → Option (Int32 × Int32 × Int32 × Int32)} {out : Int32 × Int32 × Int32 × Int32} (X : kX p m meth c s args D (va_A wc0 s.heap.size) b_M_next "MountainFarmsModel" 2 none) (hrec3 : ∀ (v_ends : Int32) (v_value : Int32), rec3 v_ends v_value = some out → ∀ (H : Heap) (locs : List Loc) (ls : Array Slot), kV D (va_A wc0 s.heap.size) s (wd_M_next D h h_now h_kept h_aside h_found h_down h_along h_parts h_gone h_tape h_kinds h_items h_widths h_sizes h_numbers h_moved v_isKept v_taped v_begins v_ends v_sort v_value v_isWrong v_itemMany v_farmMany v_farmCells v_tape) H locs → lv_has ls 2 [(0, .ref h)] → W p l e { frames := 1, cells := 0, slots := 0, locals := 22 } s m args below meth c H locs 0 0 (MQ below (kQv D wc0 (wd_M_next D h h_now h_kept h_aside h_found h_down h_along h_parts h_gone h_tape h_kinds h_items h_widths h_sizes h_numbers h_moved v_isKept v_taped out.1 out.2.1 out.2.2.1 out.2.2.2 v_isWrong v_itemMany v_farmMany v_farmCells v_tape) s.heap.size) args s 0 0 (va_A wc0 s.heap.size)) (F0 m 131 ls [])) (hf : fb_M_next_3 rec3 v_taped v_begins v_sort v_tape v_ends v_value = some out) {H : Heap} {locs : List Loc} (hV : kV D (va_A wc0 s.heap.size) s (wd_M_next D h h_now h_kept h_aside h_found h_down h_along h_parts h_gone h_tape h_kinds h_items h_widths h_sizes h_numbers h_moved v_isKept v_taped v_begins v_ends v_sort v_value v_isWrong v_itemMany v_farmMany v_farmCells v_tape) H locs) {ls : Array Slot} (hl : lv_has ls 2 [(0, .ref h)]) : W p l e { frames := 1, cells := 0, slots := 0, locals := 22 } s m args below meth c H locs 0 0 (MQ below (kQv D wc0 (wd_M_next D h h_now h_kept h_aside h_found h_down h_along h_parts h_gone h_tape h_kinds h_items h_widths h_sizes h_numbers h_moved v_isKept v_taped out.1 out.2.1 out.2.2.1 out.2.2.2 v_isWrong v_itemMany v_farmMany v_farmCells v_tape) s.heap.size) args s 0 0 (va_A wc0 s.heap.size)) (F0 m 131 ls []) := by
  unfold fb_M_next_3 at hf
  obtain ⟨hx, hb, -⟩ := id X
  refine lv_aload_n hx hb d_M_next_131 rfl (lv_at hl 0 rfl) ?_
  refine lv_aload_n hx hb d_M_next_132 rfl (lv_at hl 0 rfl) ?_
  refine k_get X hV 0 9 12 rfl rfl rfl gw_899 rfl rfl d_M_next_133 ?_
  obtain ⟨r_44, hc_45, hf⟩ := kb1_some hf
  refine k_cvi (w1 := (wd_M_byteAt D h h_now h_kept h_aside h_found h_down h_along h_parts h_gone h_tape h_kinds h_items h_widths h_sizes h_numbers h_moved v_isKept v_taped v_begins v_ends v_sort v_value v_isWrong v_itemMany v_farmMany v_farmCells v_tape)) (r := r_44) (ws' := (wd_M_next D h h_now h_kept h_aside h_found h_down h_along h_parts h_gone h_tape h_kinds h_items h_widths h_sizes h_numbers h_moved v_isKept v_taped v_begins v_ends v_sort v_value v_isWrong v_itemMany v_farmMany v_farmCells v_tape)) X hV hl.1 (c_M_byteAt D h h_now h_kept h_aside h_found h_down h_along h_parts h_gone h_tape h_kinds h_items h_widths h_sizes h_numbers h_moved v_isKept v_taped v_begins v_ends v_sort v_value v_isWrong v_itemMany v_farmMany v_farmCells v_tape v_ends hc_45) fk_M_byteAt gw_1267 rfl 0 9 rfl rfl [0, 1] [some 0, some 1] rfl rfl ⟨rfl, rfl, rfl, rfl, rfl, rfl, trivial⟩ rfl rfl rfl d_M_next_136 (fun H locs hV => ?_)
  refine lv_bipush (v := 48) hx hb d_M_next_139 bp_48 ?_
  refine lv_bipush (v := 57) hx hb d_M_next_141 bp_57 ?_
  obtain ⟨r_46, hc_47, hf⟩ := kb1_some hf
  refine k_csi (w1 := (wd_M_within D)) (r := r_46) (ws' := (wd_M_next D h h_now h_kept h_aside h_found h_down h_along h_parts h_gone h_tape h_kinds h_items h_widths h_sizes h_numbers h_moved v_isKept v_taped v_begins v_ends v_sort v_value v_isWrong v_itemMany v_farmMany v_farmCells v_tape)) X hV hl.1 (c_M_within D r_44 (48 : Int32) (57 : Int32) hc_47) fk_M_within gw_970 rfl [] [none, none] rfl rfl ⟨rfl, rfl, trivial⟩ rfl rfl rfl d_M_next_143 (fun H locs hV => ?_)
  refine lv_if_eq (tgt := 206) hx hb d_M_next_146 (by decide) (fun c_48 => ?_) (fun c_48 => ?_)
  · replace hf := kifp c_48 hf
    have e_ := Option.some.inj hf
    subst e_
    exact k_vret X rfl hV d_M_next_206
  replace hf := kifn c_48 hf
  refine lv_aload_n hx hb d_M_next_149 rfl (lv_at hl 0 rfl) ?_
  refine lv_sipush (v := 10000) hx hb d_M_next_150 sp_10000 ?_
  refine lv_bipush (v := 10) hx hb d_M_next_153 bp_10 ?_
  refine lv_aload_n hx hb d_M_next_155 rfl (lv_at hl 0 rfl) ?_
  refine k_get X hV 0 9 14 rfl rfl rfl gw_901 rfl rfl d_M_next_156 ?_
  refine lv_imul hx hb d_M_next_159 ?_
  refine lv_aload_n hx hb d_M_next_160 rfl (lv_at hl 0 rfl) ?_
  refine lv_aload_n hx hb d_M_next_161 rfl (lv_at hl 0 rfl) ?_
  refine k_get X hV 0 9 12 rfl rfl rfl gw_899 rfl rfl d_M_next_162 ?_
  obtain ⟨r_49, hc_50, hf⟩ := kb1_some hf
  refine k_cvi (w1 := (wd_M_byteAt D h h_now h_kept h_aside h_found h_down h_along h_parts h_gone h_tape h_kinds h_items h_widths h_sizes h_numbers h_moved v_isKept v_taped v_begins v_ends v_sort v_value v_isWrong v_itemMany v_farmMany v_farmCells v_tape)) (r := r_49) (ws' := (wd_M_next D h h_now h_kept h_aside h_found h_down h_along h_parts h_gone h_tape h_kinds h_items h_widths h_sizes h_numbers h_moved v_isKept v_taped v_begins v_ends v_sort v_value v_isWrong v_itemMany v_farmMany v_farmCells v_tape)) X hV hl.1 (c_M_byteAt D h h_now h_kept h_aside h_found h_down h_along h_parts h_gone h_tape h_kinds h_items h_widths h_sizes h_numbers h_moved v_isKept v_taped v_begins v_ends v_sort v_value v_isWrong v_itemMany v_farmMany v_farmCells v_tape v_ends hc_50) fk_M_byteAt gw_1267 rfl 0 9 rfl rfl [0, 1] [some 0, some 1] rfl rfl ⟨rfl, rfl, rfl, rfl, rfl, rfl, trivial⟩ rfl rfl rfl d_M_next_165 (fun H locs hV => ?_)
  refine lv_iadd hx hb d_M_next_168 ?_
  refine lv_bipush (v := 48) hx hb d_M_next_169 bp_48 ?_
  refine lv_isub hx hb d_M_next_171 ?_
  obtain ⟨r_51, hc_52, hf⟩ := kb1_some hf
  refine k_csi (w1 := (wd_Ma_min D)) (r := r_51) (ws' := (wd_M_next D h h_now h_kept h_aside h_found h_down h_along h_parts h_gone h_tape h_kinds h_items h_widths h_sizes h_numbers h_moved v_isKept v_taped v_begins v_ends v_sort v_value v_isWrong v_itemMany v_farmMany v_farmCells v_tape)) X hV hl.1 (c_Ma_min D (10000 : Int32) ((((10 : Int32) * v_value) + r_49) - (48 : Int32)) hc_52) fk_Ma_min gw_1046 rfl [] [none, none] rfl rfl ⟨rfl, rfl, trivial⟩ rfl rfl rfl d_M_next_172 (fun H locs hV => ?_)
  refine k_putv (ty := .int) (ws' := (wd_M_next D h h_now h_kept h_aside h_found h_down h_along h_parts h_gone h_tape h_kinds h_items h_widths h_sizes h_numbers h_moved v_isKept v_taped v_begins v_ends v_sort r_51 v_isWrong v_itemMany v_farmMany v_farmCells v_tape)) X hV 0 9 14 rfl rfl rfl gw_901 rfl rfl rfl rfl rfl rfl rfl d_M_next_175 (fun H locs hV => ?_)
  refine lv_aload_n hx hb d_M_next_178 rfl (lv_at hl 0 rfl) ?_
  refine lv_dup hx hb d_M_next_179 rfl ?_
  refine k_get X hV 0 9 12 rfl rfl rfl gw_899 rfl rfl d_M_next_180 ?_
  refine lv_iconst (v := 1) hx hb d_M_next_183 ic_1 ?_
  refine lv_iadd hx hb d_M_next_184 ?_
  refine k_putv (ty := .int) (ws' := (wd_M_next D h h_now h_kept h_aside h_found h_down h_along h_parts h_gone h_tape h_kinds h_items h_widths h_sizes h_numbers h_moved v_isKept v_taped v_begins (v_ends + (1 : Int32)) v_sort r_51 v_isWrong v_itemMany v_farmMany v_farmCells v_tape)) X hV 0 9 12 rfl rfl rfl gw_899 rfl rfl rfl rfl rfl rfl rfl d_M_next_185 (fun H locs hV => ?_)
  refine lv_goto (tgt := 131) hx hb d_M_next_188 (by decide) ?_
  exact hrec3 _ _ hf _ _ _ hV (lv_sub hl [0] rfl)
set_option maxHeartbeats 2000000 in
set_option maxRecDepth 20000 in
theorem tl_M_next_3 {l : Launch} {p : Program} {e : Env} {s : State} {m : MethodId} {args : Array Value} {below : List Frame} {meth : Method} {c : Code} {D : kD} {wc0 : va_W} {h : Nat} {h_now : Nat} {h_kept : Nat} {h_aside : Nat} {h_found : Nat} {h_down : Nat} {h_along : Nat} {h_parts : Nat} {h_gone : Nat} {h_tape : Nat} {h_kinds : Nat} {h_items : Nat} {h_widths : Nat} {h_sizes : Nat} {h_numbers : Nat} {h_moved : Nat} {v_isKept : Int32} {v_taped : Int32} {v_begins : Int32} {v_sort : Int32} {v_isWrong : Int32} {v_itemMany : Int32} {v_farmMany : Int32} {v_farmCells : Int64} {v_tape : Nat → Int32} {out : Int32 × Int32 × Int32 × Int32} (X : kX p m meth c s args D (va_A wc0 s.heap.size) b_M_next "MountainFarmsModel" 2 none) : ∀ (n : Nat) (v_ends : Int32) (v_value : Int32), fl_M_next_3 v_taped v_begins v_sort v_tape n v_ends v_value = some out → ∀ (H : Heap) (locs : List Loc) (ls : Array Slot), kV D (va_A wc0 s.heap.size) s (wd_M_next D h h_now h_kept h_aside h_found h_down h_along h_parts h_gone h_tape h_kinds h_items h_widths h_sizes h_numbers h_moved v_isKept v_taped v_begins v_ends v_sort v_value v_isWrong v_itemMany v_farmMany v_farmCells v_tape) H locs → lv_has ls 2 [(0, .ref h)] → W p l e { frames := 1, cells := 0, slots := 0, locals := 22 } s m args below meth c H locs 0 0 (MQ below (kQv D wc0 (wd_M_next D h h_now h_kept h_aside h_found h_down h_along h_parts h_gone h_tape h_kinds h_items h_widths h_sizes h_numbers h_moved v_isKept v_taped out.1 out.2.1 out.2.2.1 out.2.2.2 v_isWrong v_itemMany v_farmMany v_farmCells v_tape) s.heap.size) args s 0 0 (va_A wc0 s.heap.size)) (F0 m 131 ls []) := by
  intro n
  induction n with
  | zero => intro v_ends v_value hf; exact knone hf
  | succ n ih => intro v_ends v_value hf H locs ls hV hl; exact tb_M_next_3 X ih hf hV hl
set_option maxHeartbeats 2000000 in
set_option maxRecDepth 20000 in
theorem tb_M_next_2 {l : Launch} {p : Program} {e : Env} {s : State} {m : MethodId} {args : Array Value} {below : List Frame} {meth : Method} {c : Code} {D : kD} {wc0 : va_W} {h : Nat} {h_now : Nat} {h_kept : Nat} {h_aside : Nat} {h_found : Nat} {h_down : Nat} {h_along : Nat} {h_parts : Nat} {h_gone : Nat} {h_tape : Nat} {h_kinds : Nat} {h_items : Nat} {h_widths : Nat} {h_sizes : Nat} {h_numbers : Nat} {h_moved : Nat} {v_isKept : Int32} {v_taped : Int32} {v_begins : Int32} {v_ends : Int32} {v_sort : Int32} {v_value : Int32} {v_isWrong : Int32} {v_itemMany : Int32} {v_farmMany : Int32} {v_farmCells : Int64} {v_tape : Nat → Int32} {rec2 : Int32 → Option (Int32 × Int32 × Int32 × Int32)} {out : Int32 × Int32 × Int32 × Int32} (X : kX p m meth c s args D (va_A wc0 s.heap.size) b_M_next "MountainFarmsModel" 2 none) (hrec2 : ∀ (v_ends : Int32), rec2 v_ends = some out → ∀ (H : Heap) (locs : List Loc) (ls : Array Slot), kV D (va_A wc0 s.heap.size) s (wd_M_next D h h_now h_kept h_aside h_found h_down h_along h_parts h_gone h_tape h_kinds h_items h_widths h_sizes h_numbers h_moved v_isKept v_taped v_begins v_ends v_sort v_value v_isWrong v_itemMany v_farmMany v_farmCells v_tape) H locs → lv_has ls 2 [(0, .ref h)] → W p l e { frames := 1, cells := 0, slots := 0, locals := 22 } s m args below meth c H locs 0 0 (MQ below (kQv D wc0 (wd_M_next D h h_now h_kept h_aside h_found h_down h_along h_parts h_gone h_tape h_kinds h_items h_widths h_sizes h_numbers h_moved v_isKept v_taped out.1 out.2.1 out.2.2.1 out.2.2.2 v_isWrong v_itemMany v_farmMany v_farmCells v_tape) s.heap.size) args s 0 0 (va_A wc0 s.heap.size)) (F0 m 84 ls [])) (hf : fb_M_next_2 rec2 v_taped v_begins v_sort v_value v_tape v_ends = some out) {H : Heap} {locs : List Loc} (hV : kV D (va_A wc0 s.heap.size) s (wd_M_next D h h_now h_kept h_aside h_found h_down h_along h_parts h_gone h_tape h_kinds h_items h_widths h_sizes h_numbers h_moved v_isKept v_taped v_begins v_ends v_sort v_value v_isWrong v_itemMany v_farmMany v_farmCells v_tape) H locs) {ls : Array Slot} (hl : lv_has ls 2 [(0, .ref h)]) : W p l e { frames := 1, cells := 0, slots := 0, locals := 22 } s m args below meth c H locs 0 0 (MQ below (kQv D wc0 (wd_M_next D h h_now h_kept h_aside h_found h_down h_along h_parts h_gone h_tape h_kinds h_items h_widths h_sizes h_numbers h_moved v_isKept v_taped out.1 out.2.1 out.2.2.1 out.2.2.2 v_isWrong v_itemMany v_farmMany v_farmCells v_tape) s.heap.size) args s 0 0 (va_A wc0 s.heap.size)) (F0 m 84 ls []) := by
  unfold fb_M_next_2 at hf
  obtain ⟨hx, hb, -⟩ := id X
  refine lv_aload_n hx hb d_M_next_84 rfl (lv_at hl 0 rfl) ?_
  refine lv_aload_n hx hb d_M_next_85 rfl (lv_at hl 0 rfl) ?_
  refine k_get X hV 0 9 12 rfl rfl rfl gw_899 rfl rfl d_M_next_86 ?_
  obtain ⟨r_39, hc_40, hf⟩ := kb1_some hf
  refine k_cvi (w1 := (wd_M_byteAt D h h_now h_kept h_aside h_found h_down h_along h_parts h_gone h_tape h_kinds h_items h_widths h_sizes h_numbers h_moved v_isKept v_taped v_begins v_ends v_sort v_value v_isWrong v_itemMany v_farmMany v_farmCells v_tape)) (r := r_39) (ws' := (wd_M_next D h h_now h_kept h_aside h_found h_down h_along h_parts h_gone h_tape h_kinds h_items h_widths h_sizes h_numbers h_moved v_isKept v_taped v_begins v_ends v_sort v_value v_isWrong v_itemMany v_farmMany v_farmCells v_tape)) X hV hl.1 (c_M_byteAt D h h_now h_kept h_aside h_found h_down h_along h_parts h_gone h_tape h_kinds h_items h_widths h_sizes h_numbers h_moved v_isKept v_taped v_begins v_ends v_sort v_value v_isWrong v_itemMany v_farmMany v_farmCells v_tape v_ends hc_40) fk_M_byteAt gw_1267 rfl 0 9 rfl rfl [0, 1] [some 0, some 1] rfl rfl ⟨rfl, rfl, rfl, rfl, rfl, rfl, trivial⟩ rfl rfl rfl d_M_next_89 (fun H locs hV => ?_)
  refine lv_bipush (v := 97) hx hb d_M_next_92 bp_97 ?_
  refine lv_bipush (v := 122) hx hb d_M_next_94 bp_122 ?_
  obtain ⟨r_41, hc_42, hf⟩ := kb1_some hf
  refine k_csi (w1 := (wd_M_within D)) (r := r_41) (ws' := (wd_M_next D h h_now h_kept h_aside h_found h_down h_along h_parts h_gone h_tape h_kinds h_items h_widths h_sizes h_numbers h_moved v_isKept v_taped v_begins v_ends v_sort v_value v_isWrong v_itemMany v_farmMany v_farmCells v_tape)) X hV hl.1 (c_M_within D r_39 (97 : Int32) (122 : Int32) hc_42) fk_M_within gw_970 rfl [] [none, none] rfl rfl ⟨rfl, rfl, trivial⟩ rfl rfl rfl d_M_next_96 (fun H locs hV => ?_)
  refine lv_if_eq (tgt := 206) hx hb d_M_next_99 (by decide) (fun c_43 => ?_) (fun c_43 => ?_)
  · replace hf := kifp c_43 hf
    have e_ := Option.some.inj hf
    subst e_
    exact k_vret X rfl hV d_M_next_206
  replace hf := kifn c_43 hf
  refine lv_aload_n hx hb d_M_next_102 rfl (lv_at hl 0 rfl) ?_
  refine lv_dup hx hb d_M_next_103 rfl ?_
  refine k_get X hV 0 9 12 rfl rfl rfl gw_899 rfl rfl d_M_next_104 ?_
  refine lv_iconst (v := 1) hx hb d_M_next_107 ic_1 ?_
  refine lv_iadd hx hb d_M_next_108 ?_
  refine k_putv (ty := .int) (ws' := (wd_M_next D h h_now h_kept h_aside h_found h_down h_along h_parts h_gone h_tape h_kinds h_items h_widths h_sizes h_numbers h_moved v_isKept v_taped v_begins (v_ends + (1 : Int32)) v_sort v_value v_isWrong v_itemMany v_farmMany v_farmCells v_tape)) X hV 0 9 12 rfl rfl rfl gw_899 rfl rfl rfl rfl rfl rfl rfl d_M_next_109 (fun H locs hV => ?_)
  refine lv_goto (tgt := 84) hx hb d_M_next_112 (by decide) ?_
  exact hrec2 _ hf _ _ _ hV (lv_sub hl [0] rfl)
set_option maxHeartbeats 2000000 in
set_option maxRecDepth 20000 in
theorem tl_M_next_2 {l : Launch} {p : Program} {e : Env} {s : State} {m : MethodId} {args : Array Value} {below : List Frame} {meth : Method} {c : Code} {D : kD} {wc0 : va_W} {h : Nat} {h_now : Nat} {h_kept : Nat} {h_aside : Nat} {h_found : Nat} {h_down : Nat} {h_along : Nat} {h_parts : Nat} {h_gone : Nat} {h_tape : Nat} {h_kinds : Nat} {h_items : Nat} {h_widths : Nat} {h_sizes : Nat} {h_numbers : Nat} {h_moved : Nat} {v_isKept : Int32} {v_taped : Int32} {v_begins : Int32} {v_sort : Int32} {v_value : Int32} {v_isWrong : Int32} {v_itemMany : Int32} {v_farmMany : Int32} {v_farmCells : Int64} {v_tape : Nat → Int32} {out : Int32 × Int32 × Int32 × Int32} (X : kX p m meth c s args D (va_A wc0 s.heap.size) b_M_next "MountainFarmsModel" 2 none) : ∀ (n : Nat) (v_ends : Int32), fl_M_next_2 v_taped v_begins v_sort v_value v_tape n v_ends = some out → ∀ (H : Heap) (locs : List Loc) (ls : Array Slot), kV D (va_A wc0 s.heap.size) s (wd_M_next D h h_now h_kept h_aside h_found h_down h_along h_parts h_gone h_tape h_kinds h_items h_widths h_sizes h_numbers h_moved v_isKept v_taped v_begins v_ends v_sort v_value v_isWrong v_itemMany v_farmMany v_farmCells v_tape) H locs → lv_has ls 2 [(0, .ref h)] → W p l e { frames := 1, cells := 0, slots := 0, locals := 22 } s m args below meth c H locs 0 0 (MQ below (kQv D wc0 (wd_M_next D h h_now h_kept h_aside h_found h_down h_along h_parts h_gone h_tape h_kinds h_items h_widths h_sizes h_numbers h_moved v_isKept v_taped out.1 out.2.1 out.2.2.1 out.2.2.2 v_isWrong v_itemMany v_farmMany v_farmCells v_tape) s.heap.size) args s 0 0 (va_A wc0 s.heap.size)) (F0 m 84 ls []) := by
  intro n
  induction n with
  | zero => intro v_ends hf; exact knone hf
  | succ n ih => intro v_ends hf H locs ls hV hl; exact tb_M_next_2 X ih hf hV hl
set_option maxHeartbeats 2000000 in
set_option maxRecDepth 20000 in
theorem tb_M_next_1 {l : Launch} {p : Program} {e : Env} {s : State} {m : MethodId} {args : Array Value} {below : List Frame} {meth : Method} {c : Code} {D : kD} {wc0 : va_W} {h : Nat} {h_now : Nat} {h_kept : Nat} {h_aside : Nat} {h_found : Nat} {h_down : Nat} {h_along : Nat} {h_parts : Nat} {h_gone : Nat} {h_tape : Nat} {h_kinds : Nat} {h_items : Nat} {h_widths : Nat} {h_sizes : Nat} {h_numbers : Nat} {h_moved : Nat} {v_isKept : Int32} {v_taped : Int32} {v_begins : Int32} {v_ends : Int32} {v_sort : Int32} {v_value : Int32} {v_isWrong : Int32} {v_itemMany : Int32} {v_farmMany : Int32} {v_farmCells : Int64} {v_tape : Nat → Int32} {rec1 : Int32 → Int32 → Int32 → Int32 → Option (Int32 × Int32 × Int32 × Int32)} {out : Int32 × Int32 × Int32 × Int32} (X : kX p m meth c s args D (va_A wc0 s.heap.size) b_M_next "MountainFarmsModel" 2 none) (hrec1 : ∀ (v_begins : Int32) (v_ends : Int32) (v_sort : Int32) (v_value : Int32), rec1 v_begins v_ends v_sort v_value = some out → ∀ (H : Heap) (locs : List Loc) (ls : Array Slot), kV D (va_A wc0 s.heap.size) s (wd_M_next D h h_now h_kept h_aside h_found h_down h_along h_parts h_gone h_tape h_kinds h_items h_widths h_sizes h_numbers h_moved v_isKept v_taped v_begins v_ends v_sort v_value v_isWrong v_itemMany v_farmMany v_farmCells v_tape) H locs → lv_has ls 2 [(0, .ref h)] → W p l e { frames := 1, cells := 0, slots := 0, locals := 22 } s m args below meth c H locs 0 0 (MQ below (kQv D wc0 (wd_M_next D h h_now h_kept h_aside h_found h_down h_along h_parts h_gone h_tape h_kinds h_items h_widths h_sizes h_numbers h_moved v_isKept v_taped out.1 out.2.1 out.2.2.1 out.2.2.2 v_isWrong v_itemMany v_farmMany v_farmCells v_tape) s.heap.size) args s 0 0 (va_A wc0 s.heap.size)) (F0 m 8 ls [])) (hf : fb_M_next_1 rec1 v_taped v_tape v_begins v_ends v_sort v_value = some out) {H : Heap} {locs : List Loc} (hV : kV D (va_A wc0 s.heap.size) s (wd_M_next D h h_now h_kept h_aside h_found h_down h_along h_parts h_gone h_tape h_kinds h_items h_widths h_sizes h_numbers h_moved v_isKept v_taped v_begins v_ends v_sort v_value v_isWrong v_itemMany v_farmMany v_farmCells v_tape) H locs) {ls : Array Slot} (hl : lv_has ls 2 [(0, .ref h)]) : W p l e { frames := 1, cells := 0, slots := 0, locals := 22 } s m args below meth c H locs 0 0 (MQ below (kQv D wc0 (wd_M_next D h h_now h_kept h_aside h_found h_down h_along h_parts h_gone h_tape h_kinds h_items h_widths h_sizes h_numbers h_moved v_isKept v_taped out.1 out.2.1 out.2.2.1 out.2.2.2 v_isWrong v_itemMany v_farmMany v_farmCells v_tape) s.heap.size) args s 0 0 (va_A wc0 s.heap.size)) (F0 m 8 ls []) := by
  unfold fb_M_next_1 at hf
  obtain ⟨hx, hb, -⟩ := id X
  refine lv_aload_n hx hb d_M_next_8 rfl (lv_at hl 0 rfl) ?_
  refine lv_aload_n hx hb d_M_next_9 rfl (lv_at hl 0 rfl) ?_
  refine k_get X hV 0 9 11 rfl rfl rfl gw_898 rfl rfl d_M_next_10 ?_
  obtain ⟨r_27, hc_28, hf⟩ := kb1_some hf
  refine k_cvi (w1 := (wd_M_byteAt D h h_now h_kept h_aside h_found h_down h_along h_parts h_gone h_tape h_kinds h_items h_widths h_sizes h_numbers h_moved v_isKept v_taped v_begins v_ends v_sort v_value v_isWrong v_itemMany v_farmMany v_farmCells v_tape)) (r := r_27) (ws' := (wd_M_next D h h_now h_kept h_aside h_found h_down h_along h_parts h_gone h_tape h_kinds h_items h_widths h_sizes h_numbers h_moved v_isKept v_taped v_begins v_ends v_sort v_value v_isWrong v_itemMany v_farmMany v_farmCells v_tape)) X hV hl.1 (c_M_byteAt D h h_now h_kept h_aside h_found h_down h_along h_parts h_gone h_tape h_kinds h_items h_widths h_sizes h_numbers h_moved v_isKept v_taped v_begins v_ends v_sort v_value v_isWrong v_itemMany v_farmMany v_farmCells v_tape v_begins hc_28) fk_M_byteAt gw_1267 rfl 0 9 rfl rfl [0, 1] [some 0, some 1] rfl rfl ⟨rfl, rfl, rfl, rfl, rfl, rfl, trivial⟩ rfl rfl rfl d_M_next_13 (fun H locs hV => ?_)
  refine lv_bipush (v := 32) hx hb d_M_next_16 bp_32 ?_
  refine lv_icmp_ne (tgt := 34) hx hb d_M_next_18 (by decide) (fun c_29 => ?_) (fun c_29 => ?_)
  · replace hf := kifn c_29 hf
    refine lv_aload_n hx hb d_M_next_34 rfl (lv_at hl 0 rfl) ?_
    refine lv_aload_n hx hb d_M_next_35 rfl (lv_at hl 0 rfl) ?_
    refine k_get X hV 0 9 11 rfl rfl rfl gw_898 rfl rfl d_M_next_36 ?_
    obtain ⟨r_30, hc_31, hf⟩ := kb1_some hf
    refine k_cvi (w1 := (wd_M_byteAt D h h_now h_kept h_aside h_found h_down h_along h_parts h_gone h_tape h_kinds h_items h_widths h_sizes h_numbers h_moved v_isKept v_taped v_begins v_ends v_sort v_value v_isWrong v_itemMany v_farmMany v_farmCells v_tape)) (r := r_30) (ws' := (wd_M_next D h h_now h_kept h_aside h_found h_down h_along h_parts h_gone h_tape h_kinds h_items h_widths h_sizes h_numbers h_moved v_isKept v_taped v_begins v_ends v_sort v_value v_isWrong v_itemMany v_farmMany v_farmCells v_tape)) X hV hl.1 (c_M_byteAt D h h_now h_kept h_aside h_found h_down h_along h_parts h_gone h_tape h_kinds h_items h_widths h_sizes h_numbers h_moved v_isKept v_taped v_begins v_ends v_sort v_value v_isWrong v_itemMany v_farmMany v_farmCells v_tape v_begins hc_31) fk_M_byteAt gw_1267 rfl 0 9 rfl rfl [0, 1] [some 0, some 1] rfl rfl ⟨rfl, rfl, rfl, rfl, rfl, rfl, trivial⟩ rfl rfl rfl d_M_next_39 (fun H locs hV => ?_)
    refine lv_istore_n (lv' := [(1, .int r_30), (0, .ref h)]) hx hb d_M_next_42 rfl hl (by decide) rfl (fun ls hl => ?_)
    refine lv_aload_n hx hb d_M_next_43 rfl (lv_at hl 1 rfl) ?_
    refine lv_aload_n hx hb d_M_next_44 rfl (lv_at hl 1 rfl) ?_
    refine k_get X hV 0 9 11 rfl rfl rfl gw_898 rfl rfl d_M_next_45 ?_
    refine k_putv (ty := .int) (ws' := (wd_M_next D h h_now h_kept h_aside h_found h_down h_along h_parts h_gone h_tape h_kinds h_items h_widths h_sizes h_numbers h_moved v_isKept v_taped v_begins v_begins v_sort v_value v_isWrong v_itemMany v_farmMany v_farmCells v_tape)) X hV 0 9 12 rfl rfl rfl gw_899 rfl rfl rfl rfl rfl rfl rfl d_M_next_48 (fun H locs hV => ?_)
    refine lv_aload_n hx hb d_M_next_51 rfl (lv_at hl 1 rfl) ?_
    refine lv_iconst (v := 0) hx hb d_M_next_52 ic_0 ?_
    refine k_putv (ty := .int) (ws' := (wd_M_next D h h_now h_kept h_aside h_found h_down h_along h_parts h_gone h_tape h_kinds h_items h_widths h_sizes h_numbers h_moved v_isKept v_taped v_begins v_begins v_sort (0 : Int32) v_isWrong v_itemMany v_farmMany v_farmCells v_tape)) X hV 0 9 14 rfl rfl rfl gw_901 rfl rfl rfl rfl rfl rfl rfl d_M_next_53 (fun H locs hV => ?_)
    refine lv_iload_n hx hb d_M_next_56 rfl (lv_at hl 0 rfl) ?_
    refine lv_if_ge (tgt := 68) hx hb d_M_next_57 (by decide) (fun c_32 => ?_) (fun c_32 => ?_)
    · replace hf := kifp c_32 hf
      refine lv_iload_n hx hb d_M_next_68 rfl (lv_at hl 0 rfl) ?_
      refine lv_bipush (v := 97) hx hb d_M_next_69 bp_97 ?_
      refine lv_bipush (v := 122) hx hb d_M_next_71 bp_122 ?_
      obtain ⟨r_33, hc_34, hf⟩ := kb1_some hf
      refine k_csi (w1 := (wd_M_within D)) (r := r_33) (ws' := (wd_M_next D h h_now h_kept h_aside h_found h_down h_along h_parts h_gone h_tape h_kinds h_items h_widths h_sizes h_numbers h_moved v_isKept v_taped v_begins v_begins v_sort (0 : Int32) v_isWrong v_itemMany v_farmMany v_farmCells v_tape)) X hV hl.1 (c_M_within D r_30 (97 : Int32) (122 : Int32) hc_34) fk_M_within gw_970 rfl [] [none, none] rfl rfl ⟨rfl, rfl, trivial⟩ rfl rfl rfl d_M_next_73 (fun H locs hV => ?_)
      refine lv_if_eq (tgt := 115) hx hb d_M_next_76 (by decide) (fun c_35 => ?_) (fun c_35 => ?_)
      · replace hf := kifp c_35 hf
        refine lv_iload_n hx hb d_M_next_115 rfl (lv_at hl 0 rfl) ?_
        refine lv_bipush (v := 48) hx hb d_M_next_116 bp_48 ?_
        refine lv_bipush (v := 57) hx hb d_M_next_118 bp_57 ?_
        obtain ⟨r_36, hc_37, hf⟩ := kb1_some hf
        refine k_csi (w1 := (wd_M_within D)) (r := r_36) (ws' := (wd_M_next D h h_now h_kept h_aside h_found h_down h_along h_parts h_gone h_tape h_kinds h_items h_widths h_sizes h_numbers h_moved v_isKept v_taped v_begins v_begins v_sort (0 : Int32) v_isWrong v_itemMany v_farmMany v_farmCells v_tape)) X hV hl.1 (c_M_within D r_30 (48 : Int32) (57 : Int32) hc_37) fk_M_within gw_970 rfl [] [none, none] rfl rfl ⟨rfl, rfl, trivial⟩ rfl rfl rfl d_M_next_120 (fun H locs hV => ?_)
        refine lv_if_eq (tgt := 191) hx hb d_M_next_123 (by decide) (fun c_38 => ?_) (fun c_38 => ?_)
        · replace hf := kifp c_38 hf
          refine lv_aload_n hx hb d_M_next_191 rfl (lv_at hl 1 rfl) ?_
          refine lv_iconst (v := 3) hx hb d_M_next_192 ic_3 ?_
          refine k_putv (ty := .int) (ws' := (wd_M_next D h h_now h_kept h_aside h_found h_down h_along h_parts h_gone h_tape h_kinds h_items h_widths h_sizes h_numbers h_moved v_isKept v_taped v_begins v_begins (3 : Int32) (0 : Int32) v_isWrong v_itemMany v_farmMany v_farmCells v_tape)) X hV 0 9 13 rfl rfl rfl gw_900 rfl rfl rfl rfl rfl rfl rfl d_M_next_193 (fun H locs hV => ?_)
          refine lv_aload_n hx hb d_M_next_196 rfl (lv_at hl 1 rfl) ?_
          refine lv_dup hx hb d_M_next_197 rfl ?_
          refine k_get X hV 0 9 12 rfl rfl rfl gw_899 rfl rfl d_M_next_198 ?_
          refine lv_iconst (v := 1) hx hb d_M_next_201 ic_1 ?_
          refine lv_iadd hx hb d_M_next_202 ?_
          refine k_putv (ty := .int) (ws' := (wd_M_next D h h_now h_kept h_aside h_found h_down h_along h_parts h_gone h_tape h_kinds h_items h_widths h_sizes h_numbers h_moved v_isKept v_taped v_begins (v_begins + (1 : Int32)) (3 : Int32) (0 : Int32) v_isWrong v_itemMany v_farmMany v_farmCells v_tape)) X hV 0 9 12 rfl rfl rfl gw_899 rfl rfl rfl rfl rfl rfl rfl d_M_next_203 (fun H locs hV => ?_)
          have e_ := Option.some.inj hf
          subst e_
          exact k_vret X rfl hV d_M_next_206
        replace hf := kifn c_38 hf
        refine lv_aload_n hx hb d_M_next_126 rfl (lv_at hl 1 rfl) ?_
        refine lv_iconst (v := 2) hx hb d_M_next_127 ic_2 ?_
        refine k_putv (ty := .int) (ws' := (wd_M_next D h h_now h_kept h_aside h_found h_down h_along h_parts h_gone h_tape h_kinds h_items h_widths h_sizes h_numbers h_moved v_isKept v_taped v_begins v_begins (2 : Int32) (0 : Int32) v_isWrong v_itemMany v_farmMany v_farmCells v_tape)) X hV 0 9 13 rfl rfl rfl gw_900 rfl rfl rfl rfl rfl rfl rfl d_M_next_128 (fun H locs hV => ?_)
        exact tl_M_next_3 X _ _ _ hf _ _ _ hV (lv_sub hl [1] rfl)
      replace hf := kifn c_35 hf
      refine lv_aload_n hx hb d_M_next_79 rfl (lv_at hl 1 rfl) ?_
      refine lv_iconst (v := 1) hx hb d_M_next_80 ic_1 ?_
      refine k_putv (ty := .int) (ws' := (wd_M_next D h h_now h_kept h_aside h_found h_down h_along h_parts h_gone h_tape h_kinds h_items h_widths h_sizes h_numbers h_moved v_isKept v_taped v_begins v_begins (1 : Int32) (0 : Int32) v_isWrong v_itemMany v_farmMany v_farmCells v_tape)) X hV 0 9 13 rfl rfl rfl gw_900 rfl rfl rfl rfl rfl rfl rfl d_M_next_81 (fun H locs hV => ?_)
      exact tl_M_next_2 X _ _ hf _ _ _ hV (lv_sub hl [1] rfl)
    replace hf := kifn c_32 hf
    refine lv_aload_n hx hb d_M_next_60 rfl (lv_at hl 1 rfl) ?_
    refine lv_iconst (v := 0) hx hb d_M_next_61 ic_0 ?_
    refine k_putv (ty := .int) (ws' := (wd_M_next D h h_now h_kept h_aside h_found h_down h_along h_parts h_gone h_tape h_kinds h_items h_widths h_sizes h_numbers h_moved v_isKept v_taped v_begins v_begins (0 : Int32) (0 : Int32) v_isWrong v_itemMany v_farmMany v_farmCells v_tape)) X hV 0 9 13 rfl rfl rfl gw_900 rfl rfl rfl rfl rfl rfl rfl d_M_next_62 (fun H locs hV => ?_)
    refine lv_goto (tgt := 206) hx hb d_M_next_65 (by decide) ?_
    have e_ := Option.some.inj hf
    subst e_
    exact k_vret X rfl hV d_M_next_206
  replace hf := kifp c_29 hf
  refine lv_aload_n hx hb d_M_next_21 rfl (lv_at hl 0 rfl) ?_
  refine lv_dup hx hb d_M_next_22 rfl ?_
  refine k_get X hV 0 9 11 rfl rfl rfl gw_898 rfl rfl d_M_next_23 ?_
  refine lv_iconst (v := 1) hx hb d_M_next_26 ic_1 ?_
  refine lv_iadd hx hb d_M_next_27 ?_
  refine k_putv (ty := .int) (ws' := (wd_M_next D h h_now h_kept h_aside h_found h_down h_along h_parts h_gone h_tape h_kinds h_items h_widths h_sizes h_numbers h_moved v_isKept v_taped (v_begins + (1 : Int32)) v_ends v_sort v_value v_isWrong v_itemMany v_farmMany v_farmCells v_tape)) X hV 0 9 11 rfl rfl rfl gw_898 rfl rfl rfl rfl rfl rfl rfl d_M_next_28 (fun H locs hV => ?_)
  refine lv_goto (tgt := 8) hx hb d_M_next_31 (by decide) ?_
  exact hrec1 _ _ _ _ hf _ _ _ hV (lv_sub hl [0] rfl)
set_option maxHeartbeats 2000000 in
set_option maxRecDepth 20000 in
theorem tl_M_next_1 {l : Launch} {p : Program} {e : Env} {s : State} {m : MethodId} {args : Array Value} {below : List Frame} {meth : Method} {c : Code} {D : kD} {wc0 : va_W} {h : Nat} {h_now : Nat} {h_kept : Nat} {h_aside : Nat} {h_found : Nat} {h_down : Nat} {h_along : Nat} {h_parts : Nat} {h_gone : Nat} {h_tape : Nat} {h_kinds : Nat} {h_items : Nat} {h_widths : Nat} {h_sizes : Nat} {h_numbers : Nat} {h_moved : Nat} {v_isKept : Int32} {v_taped : Int32} {v_isWrong : Int32} {v_itemMany : Int32} {v_farmMany : Int32} {v_farmCells : Int64} {v_tape : Nat → Int32} {out : Int32 × Int32 × Int32 × Int32} (X : kX p m meth c s args D (va_A wc0 s.heap.size) b_M_next "MountainFarmsModel" 2 none) : ∀ (n : Nat) (v_begins : Int32) (v_ends : Int32) (v_sort : Int32) (v_value : Int32), fl_M_next_1 v_taped v_tape n v_begins v_ends v_sort v_value = some out → ∀ (H : Heap) (locs : List Loc) (ls : Array Slot), kV D (va_A wc0 s.heap.size) s (wd_M_next D h h_now h_kept h_aside h_found h_down h_along h_parts h_gone h_tape h_kinds h_items h_widths h_sizes h_numbers h_moved v_isKept v_taped v_begins v_ends v_sort v_value v_isWrong v_itemMany v_farmMany v_farmCells v_tape) H locs → lv_has ls 2 [(0, .ref h)] → W p l e { frames := 1, cells := 0, slots := 0, locals := 22 } s m args below meth c H locs 0 0 (MQ below (kQv D wc0 (wd_M_next D h h_now h_kept h_aside h_found h_down h_along h_parts h_gone h_tape h_kinds h_items h_widths h_sizes h_numbers h_moved v_isKept v_taped out.1 out.2.1 out.2.2.1 out.2.2.2 v_isWrong v_itemMany v_farmMany v_farmCells v_tape) s.heap.size) args s 0 0 (va_A wc0 s.heap.size)) (F0 m 8 ls []) := by
  intro n
  induction n with
  | zero => intro v_begins v_ends v_sort v_value hf; exact knone hf
  | succ n ih => intro v_begins v_ends v_sort v_value hf H locs ls hV hl; exact tb_M_next_1 X ih hf hV hl
set_option maxHeartbeats 2000000 in
set_option maxRecDepth 20000 in
theorem t_M_next {l : Launch} {p : Program} {e : Env} {s : State} {m : MethodId} {args : Array Value} {below : List Frame} {meth : Method} {c : Code} {D : kD} {wc0 : va_W} {h : Nat} {h_now : Nat} {h_kept : Nat} {h_aside : Nat} {h_found : Nat} {h_down : Nat} {h_along : Nat} {h_parts : Nat} {h_gone : Nat} {h_tape : Nat} {h_kinds : Nat} {h_items : Nat} {h_widths : Nat} {h_sizes : Nat} {h_numbers : Nat} {h_moved : Nat} {v_isKept : Int32} {v_taped : Int32} {v_begins : Int32} {v_ends : Int32} {v_sort : Int32} {v_value : Int32} {v_isWrong : Int32} {v_itemMany : Int32} {v_farmMany : Int32} {v_farmCells : Int64} {v_tape : Nat → Int32} {out : Int32 × Int32 × Int32 × Int32} (X : kX p m meth c s args D (va_A wc0 s.heap.size) b_M_next "MountainFarmsModel" 2 none) (hf : f_M_next v_taped v_begins v_ends v_sort v_value v_tape = some out) {H : Heap} {locs : List Loc} (hV : kV D (va_A wc0 s.heap.size) s (wd_M_next D h h_now h_kept h_aside h_found h_down h_along h_parts h_gone h_tape h_kinds h_items h_widths h_sizes h_numbers h_moved v_isKept v_taped v_begins v_ends v_sort v_value v_isWrong v_itemMany v_farmMany v_farmCells v_tape) H locs) {ls : Array Slot} (hl : lv_has ls 2 [(0, .ref h)]) : W p l e { frames := 1, cells := 0, slots := 0, locals := 22 } s m args below meth c H locs 0 0 (MQ below (kQv D wc0 (wd_M_next D h h_now h_kept h_aside h_found h_down h_along h_parts h_gone h_tape h_kinds h_items h_widths h_sizes h_numbers h_moved v_isKept v_taped out.1 out.2.1 out.2.2.1 out.2.2.2 v_isWrong v_itemMany v_farmMany v_farmCells v_tape) s.heap.size) args s 0 0 (va_A wc0 s.heap.size)) (F0 m 0 ls []) := by
  unfold f_M_next at hf
  obtain ⟨hx, hb, -⟩ := id X
  refine lv_aload_n hx hb d_M_next_0 rfl (lv_at hl 0 rfl) ?_
  refine lv_aload_n hx hb d_M_next_1 rfl (lv_at hl 0 rfl) ?_
  refine k_get X hV 0 9 12 rfl rfl rfl gw_899 rfl rfl d_M_next_2 ?_
  refine k_putv (ty := .int) (ws' := (wd_M_next D h h_now h_kept h_aside h_found h_down h_along h_parts h_gone h_tape h_kinds h_items h_widths h_sizes h_numbers h_moved v_isKept v_taped v_ends v_ends v_sort v_value v_isWrong v_itemMany v_farmMany v_farmCells v_tape)) X hV 0 9 11 rfl rfl rfl gw_898 rfl rfl rfl rfl rfl rfl rfl d_M_next_5 (fun H locs hV => ?_)
  exact tl_M_next_1 X _ _ _ _ _ hf _ _ _ hV (lv_sub hl [0] rfl)
set_option maxHeartbeats 2000000 in
set_option maxRecDepth 20000 in
theorem c_M_next {l : Launch} (D : kD) (h : Nat) (h_now : Nat) (h_kept : Nat) (h_aside : Nat) (h_found : Nat) (h_down : Nat) (h_along : Nat) (h_parts : Nat) (h_gone : Nat) (h_tape : Nat) (h_kinds : Nat) (h_items : Nat) (h_widths : Nat) (h_sizes : Nat) (h_numbers : Nat) (h_moved : Nat) (v_isKept : Int32) (v_taped : Int32) (v_begins : Int32) (v_ends : Int32) (v_sort : Int32) (v_value : Int32) (v_isWrong : Int32) (v_itemMany : Int32) (v_farmMany : Int32) (v_farmCells : Int64) (v_tape : Nat → Int32) {out : Int32 × Int32 × Int32 × Int32} (hf : f_M_next v_taped v_begins v_ends v_sort v_value v_tape = some out) : kMv l D y_M_next b_M_next 2 none { frames := 1, cells := 0, slots := 0, locals := 22 } [.ref h] (wd_M_next D h h_now h_kept h_aside h_found h_down h_along h_parts h_gone h_tape h_kinds h_items h_widths h_sizes h_numbers h_moved v_isKept v_taped v_begins v_ends v_sort v_value v_isWrong v_itemMany v_farmMany v_farmCells v_tape) (wd_M_next D h h_now h_kept h_aside h_found h_down h_along h_parts h_gone h_tape h_kinds h_items h_widths h_sizes h_numbers h_moved v_isKept v_taped out.1 out.2.1 out.2.2.1 out.2.2.2 v_isWrong v_itemMany v_farmMany v_farmCells v_tape) :=
  kMv_of (own := "MountainFarmsModel") (plainFor_of_name (by decide)) rfl rfl (fun p e s m args below meth c ls X hV hl => t_M_next X hf hV hl)
set_option maxHeartbeats 2000000 in
set_option maxRecDepth 20000 in
theorem tb_M_isWord_1 {l : Launch} {p : Program} {e : Env} {s : State} {m : MethodId} {args : Array Value} {below : List Frame} {meth : Method} {c : Code} {D : kD} {wc0 : va_W} {h : Nat} {h_now : Nat} {h_kept : Nat} {h_aside : Nat} {h_found : Nat} {h_down : Nat} {h_along : Nat} {h_parts : Nat} {h_gone : Nat} {h_tape : Nat} {h_kinds : Nat} {h_items : Nat} {h_widths : Nat} {h_sizes : Nat} {h_numbers : Nat} {h_moved : Nat} {v_isKept : Int32} {v_taped : Int32} {v_begins : Int32} {v_ends : Int32} {v_sort : Int32} {v_value : Int32} {v_isWrong : Int32} {v_itemMany : Int32} {v_farmMany : Int32} {v_farmCells : Int64} {v_tape : Nat → Int32} {w1 : Nat} {x2 : Int32} {x3 : Int32} {rec1 : Int32 → Int32 → Option (Int32)} {out : Int32} (X : kX p m meth c s args D (va_A wc0 s.heap.size) b_M_isWord "MountainFarmsModel" 4 (some .boolean)) (hww1 : Nat.blt w1 nStr = true) (hrec1 : ∀ (x2 : Int32) (x3 : Int32), rec1 x2 x3 = some out → ∀ (H : Heap) (locs : List Loc) (ls : Array Slot), kV D (va_A wc0 s.heap.size) s (wd_M_isWord D h h_now h_kept h_aside h_found h_down h_along h_parts h_gone h_tape h_kinds h_items h_widths h_sizes h_numbers h_moved v_isKept v_taped v_begins v_ends v_sort v_value v_isWrong v_itemMany v_farmMany v_farmCells v_tape) H locs → lv_has ls 4 [(0, .ref h), (1, .ref (kAK D w1)), (2, .int x2), (3, .int x3)] → W p l e { frames := 4, cells := 0, slots := 0, locals := 85 } s m args below meth c H locs 0 0 (MQ below (kQi D wc0 (wd_M_isWord D h h_now h_kept h_aside h_found h_down h_along h_parts h_gone h_tape h_kinds h_items h_widths h_sizes h_numbers h_moved v_isKept v_taped v_begins v_ends v_sort v_value v_isWrong v_itemMany v_farmMany v_farmCells v_tape) s.heap.size out) args s 0 0 (va_A wc0 s.heap.size)) (F0 m 32 ls [])) (hf : fb_M_isWord_1 rec1 w1 v_begins v_tape x2 x3 = some out) {H : Heap} {locs : List Loc} (hV : kV D (va_A wc0 s.heap.size) s (wd_M_isWord D h h_now h_kept h_aside h_found h_down h_along h_parts h_gone h_tape h_kinds h_items h_widths h_sizes h_numbers h_moved v_isKept v_taped v_begins v_ends v_sort v_value v_isWrong v_itemMany v_farmMany v_farmCells v_tape) H locs) {ls : Array Slot} (hl : lv_has ls 4 [(0, .ref h), (1, .ref (kAK D w1)), (2, .int x2), (3, .int x3)]) : W p l e { frames := 4, cells := 0, slots := 0, locals := 85 } s m args below meth c H locs 0 0 (MQ below (kQi D wc0 (wd_M_isWord D h h_now h_kept h_aside h_found h_down h_along h_parts h_gone h_tape h_kinds h_items h_widths h_sizes h_numbers h_moved v_isKept v_taped v_begins v_ends v_sort v_value v_isWrong v_itemMany v_farmMany v_farmCells v_tape) s.heap.size out) args s 0 0 (va_A wc0 s.heap.size)) (F0 m 32 ls []) := by
  unfold fb_M_isWord_1 at hf
  obtain ⟨hx, hb, -⟩ := id X
  refine lv_iload_n hx hb d_M_isWord_32 rfl (lv_at hl 3 rfl) ?_
  refine lv_aload_n hx hb d_M_isWord_33 rfl (lv_at hl 1 rfl) ?_
  obtain ⟨h_23, hf⟩ := kchk hf
  obtain ⟨r_24, hc_25, hf⟩ := kb1_some hf
  refine k_cti X hV hl.1 w1 h_23 (c_Sg_length D w1 h_23 hc_25) fk_Sg_length rfl gw_1283 rfl rfl rfl rfl d_M_isWord_34 (fun H locs hV => ?_)
  refine lv_icmp_ge (tgt := 75) hx hb d_M_isWord_37 (by decide) (fun c_26 => ?_) (fun c_26 => ?_)
  · replace hf := kifp c_26 hf
    refine lv_iload_n hx hb d_M_isWord_75 rfl (lv_at hl 2 rfl) ?_
    obtain ⟨h_27, hf⟩ := kchk hf
    have e_ := Option.some.inj hf
    subst e_
    exact k_iret X rfl hV (knarB h_27) d_M_isWord_76
  replace hf := kifn c_26 hf
  refine lv_iload_n hx hb d_M_isWord_40 rfl (lv_at hl 2 rfl) ?_
  refine lv_if_eq (tgt := 75) hx hb d_M_isWord_41 (by decide) (fun c_28 => ?_) (fun c_28 => ?_)
  · replace hf := kifp c_28 hf
    refine lv_iload_n hx hb d_M_isWord_75 rfl (lv_at hl 2 rfl) ?_
    obtain ⟨h_29, hf⟩ := kchk hf
    have e_ := Option.some.inj hf
    subst e_
    exact k_iret X rfl hV (knarB h_29) d_M_isWord_76
  replace hf := kifn c_28 hf
  refine lv_aload_n hx hb d_M_isWord_44 rfl (lv_at hl 0 rfl) ?_
  refine k_get X hV 0 9 9 rfl rfl rfl gw_896 rfl rfl d_M_isWord_45 ?_
  refine lv_aload_n hx hb d_M_isWord_48 rfl (lv_at hl 0 rfl) ?_
  refine k_get X hV 0 9 11 rfl rfl rfl gw_898 rfl rfl d_M_isWord_49 ?_
  refine lv_iload_n hx hb d_M_isWord_52 rfl (lv_at hl 3 rfl) ?_
  refine lv_iadd hx hb d_M_isWord_53 ?_
  obtain ⟨h_30, hf⟩ := kidx_some hf
  refine k_iald X hV 1 rfl h_30 rfl d_M_isWord_54 ?_
  refine lv_aload_n hx hb d_M_isWord_55 rfl (lv_at hl 1 rfl) ?_
  refine lv_iload_n hx hb d_M_isWord_56 rfl (lv_at hl 3 rfl) ?_
  obtain ⟨h_31, hf⟩ := kchk hf
  obtain ⟨r_32, hc_33, hf⟩ := kb1_some hf
  refine k_cti X hV hl.1 w1 h_31 (c_Sg_charAt D w1 x3 h_31 hc_33) fk_Sg_charAt rfl gw_1284 rfl rfl rfl rfl d_M_isWord_57 (fun H locs hV => ?_)
  refine lv_icmp_ne (tgt := 67) hx hb d_M_isWord_60 (by decide) (fun c_34 => ?_) (fun c_34 => ?_)
  · replace hf := kifn c_34 hf
    refine lv_iconst (v := 0) hx hb d_M_isWord_67 ic_0 ?_
    refine lv_istore_n (lv' := [(2, .int (0 : Int32)), (0, .ref h), (1, .ref (kAK D w1)), (3, .int x3)]) hx hb d_M_isWord_68 rfl hl (by decide) rfl (fun ls hl => ?_)
    refine lv_iinc (v := (x3 + 1)) (lv' := [(3, .int (x3 + 1)), (2, .int (0 : Int32)), (0, .ref h), (1, .ref (kAK D w1))]) hx hb d_M_isWord_69 hl (k := 3) rfl rfl (by decide) rfl (fun ls hl => ?_)
    refine lv_goto (tgt := 32) hx hb d_M_isWord_72 (by decide) ?_
    exact hrec1 _ _ hf _ _ _ hV (lv_sub hl [2, 3, 1, 0] rfl)
  replace hf := kifp c_34 hf
  refine lv_iconst (v := 1) hx hb d_M_isWord_63 ic_1 ?_
  refine lv_goto (tgt := 68) hx hb d_M_isWord_64 (by decide) ?_
  refine lv_istore_n (lv' := [(2, .int (1 : Int32)), (0, .ref h), (1, .ref (kAK D w1)), (3, .int x3)]) hx hb d_M_isWord_68 rfl hl (by decide) rfl (fun ls hl => ?_)
  refine lv_iinc (v := (x3 + 1)) (lv' := [(3, .int (x3 + 1)), (2, .int (1 : Int32)), (0, .ref h), (1, .ref (kAK D w1))]) hx hb d_M_isWord_69 hl (k := 3) rfl rfl (by decide) rfl (fun ls hl => ?_)
  refine lv_goto (tgt := 32) hx hb d_M_isWord_72 (by decide) ?_
  exact hrec1 _ _ hf _ _ _ hV (lv_sub hl [2, 3, 1, 0] rfl)
set_option maxHeartbeats 2000000 in
set_option maxRecDepth 20000 in
theorem tl_M_isWord_1 {l : Launch} {p : Program} {e : Env} {s : State} {m : MethodId} {args : Array Value} {below : List Frame} {meth : Method} {c : Code} {D : kD} {wc0 : va_W} {h : Nat} {h_now : Nat} {h_kept : Nat} {h_aside : Nat} {h_found : Nat} {h_down : Nat} {h_along : Nat} {h_parts : Nat} {h_gone : Nat} {h_tape : Nat} {h_kinds : Nat} {h_items : Nat} {h_widths : Nat} {h_sizes : Nat} {h_numbers : Nat} {h_moved : Nat} {v_isKept : Int32} {v_taped : Int32} {v_begins : Int32} {v_ends : Int32} {v_sort : Int32} {v_value : Int32} {v_isWrong : Int32} {v_itemMany : Int32} {v_farmMany : Int32} {v_farmCells : Int64} {v_tape : Nat → Int32} {w1 : Nat} {out : Int32} (X : kX p m meth c s args D (va_A wc0 s.heap.size) b_M_isWord "MountainFarmsModel" 4 (some .boolean)) (hww1 : Nat.blt w1 nStr = true) : ∀ (n : Nat) (x2 : Int32) (x3 : Int32), fl_M_isWord_1 w1 v_begins v_tape n x2 x3 = some out → ∀ (H : Heap) (locs : List Loc) (ls : Array Slot), kV D (va_A wc0 s.heap.size) s (wd_M_isWord D h h_now h_kept h_aside h_found h_down h_along h_parts h_gone h_tape h_kinds h_items h_widths h_sizes h_numbers h_moved v_isKept v_taped v_begins v_ends v_sort v_value v_isWrong v_itemMany v_farmMany v_farmCells v_tape) H locs → lv_has ls 4 [(0, .ref h), (1, .ref (kAK D w1)), (2, .int x2), (3, .int x3)] → W p l e { frames := 4, cells := 0, slots := 0, locals := 85 } s m args below meth c H locs 0 0 (MQ below (kQi D wc0 (wd_M_isWord D h h_now h_kept h_aside h_found h_down h_along h_parts h_gone h_tape h_kinds h_items h_widths h_sizes h_numbers h_moved v_isKept v_taped v_begins v_ends v_sort v_value v_isWrong v_itemMany v_farmMany v_farmCells v_tape) s.heap.size out) args s 0 0 (va_A wc0 s.heap.size)) (F0 m 32 ls []) := by
  intro n
  induction n with
  | zero => intro x2 x3 hf; exact knone hf
  | succ n ih => intro x2 x3 hf H locs ls hV hl; exact tb_M_isWord_1 X hww1 ih hf hV hl
set_option maxHeartbeats 2000000 in
set_option maxRecDepth 20000 in
theorem t_M_isWord {l : Launch} {p : Program} {e : Env} {s : State} {m : MethodId} {args : Array Value} {below : List Frame} {meth : Method} {c : Code} {D : kD} {wc0 : va_W} {h : Nat} {h_now : Nat} {h_kept : Nat} {h_aside : Nat} {h_found : Nat} {h_down : Nat} {h_along : Nat} {h_parts : Nat} {h_gone : Nat} {h_tape : Nat} {h_kinds : Nat} {h_items : Nat} {h_widths : Nat} {h_sizes : Nat} {h_numbers : Nat} {h_moved : Nat} {v_isKept : Int32} {v_taped : Int32} {v_begins : Int32} {v_ends : Int32} {v_sort : Int32} {v_value : Int32} {v_isWrong : Int32} {v_itemMany : Int32} {v_farmMany : Int32} {v_farmCells : Int64} {v_tape : Nat → Int32} {w1 : Nat} {out : Int32} (X : kX p m meth c s args D (va_A wc0 s.heap.size) b_M_isWord "MountainFarmsModel" 4 (some .boolean)) (hww1 : Nat.blt w1 nStr = true) (hf : f_M_isWord v_begins v_ends v_sort v_tape w1 = some out) {H : Heap} {locs : List Loc} (hV : kV D (va_A wc0 s.heap.size) s (wd_M_isWord D h h_now h_kept h_aside h_found h_down h_along h_parts h_gone h_tape h_kinds h_items h_widths h_sizes h_numbers h_moved v_isKept v_taped v_begins v_ends v_sort v_value v_isWrong v_itemMany v_farmMany v_farmCells v_tape) H locs) {ls : Array Slot} (hl : lv_has ls 4 [(0, .ref h), (1, .ref (kAK D w1))]) : W p l e { frames := 4, cells := 0, slots := 0, locals := 85 } s m args below meth c H locs 0 0 (MQ below (kQi D wc0 (wd_M_isWord D h h_now h_kept h_aside h_found h_down h_along h_parts h_gone h_tape h_kinds h_items h_widths h_sizes h_numbers h_moved v_isKept v_taped v_begins v_ends v_sort v_value v_isWrong v_itemMany v_farmMany v_farmCells v_tape) s.heap.size out) args s 0 0 (va_A wc0 s.heap.size)) (F0 m 0 ls []) := by
  unfold f_M_isWord at hf
  obtain ⟨hx, hb, -⟩ := id X
  refine lv_aload_n hx hb d_M_isWord_0 rfl (lv_at hl 0 rfl) ?_
  refine k_get X hV 0 9 13 rfl rfl rfl gw_900 rfl rfl d_M_isWord_1 ?_
  refine lv_iconst (v := 1) hx hb d_M_isWord_4 ic_1 ?_
  refine lv_icmp_ne (tgt := 28) hx hb d_M_isWord_5 (by decide) (fun c_18 => ?_) (fun c_18 => ?_)
  · replace hf := kifn c_18 hf
    refine lv_iconst (v := 0) hx hb d_M_isWord_28 ic_0 ?_
    refine lv_istore_n (lv' := [(2, .int (0 : Int32)), (0, .ref h), (1, .ref (kAK D w1))]) hx hb d_M_isWord_29 rfl hl (by decide) rfl (fun ls hl => ?_)
    refine lv_iconst (v := 0) hx hb d_M_isWord_30 ic_0 ?_
    refine lv_istore_n (lv' := [(3, .int (0 : Int32)), (2, .int (0 : Int32)), (0, .ref h), (1, .ref (kAK D w1))]) hx hb d_M_isWord_31 rfl hl (by decide) rfl (fun ls hl => ?_)
    exact tl_M_isWord_1 X hww1 _ _ _ hf _ _ _ hV (lv_sub hl [2, 3, 1, 0] rfl)
  replace hf := kifp c_18 hf
  refine lv_aload_n hx hb d_M_isWord_8 rfl (lv_at hl 0 rfl) ?_
  refine k_get X hV 0 9 12 rfl rfl rfl gw_899 rfl rfl d_M_isWord_9 ?_
  refine lv_aload_n hx hb d_M_isWord_12 rfl (lv_at hl 0 rfl) ?_
  refine k_get X hV 0 9 11 rfl rfl rfl gw_898 rfl rfl d_M_isWord_13 ?_
  refine lv_isub hx hb d_M_isWord_16 ?_
  refine lv_aload_n hx hb d_M_isWord_17 rfl (lv_at hl 1 rfl) ?_
  obtain ⟨h_19, hf⟩ := kchk hf
  obtain ⟨r_20, hc_21, hf⟩ := kb1_some hf
  refine k_cti X hV hl.1 w1 h_19 (c_Sg_length D w1 h_19 hc_21) fk_Sg_length rfl gw_1283 rfl rfl rfl rfl d_M_isWord_18 (fun H locs hV => ?_)
  refine lv_icmp_ne (tgt := 28) hx hb d_M_isWord_21 (by decide) (fun c_22 => ?_) (fun c_22 => ?_)
  · replace hf := kifn c_22 hf
    refine lv_iconst (v := 0) hx hb d_M_isWord_28 ic_0 ?_
    refine lv_istore_n (lv' := [(2, .int (0 : Int32)), (0, .ref h), (1, .ref (kAK D w1))]) hx hb d_M_isWord_29 rfl hl (by decide) rfl (fun ls hl => ?_)
    refine lv_iconst (v := 0) hx hb d_M_isWord_30 ic_0 ?_
    refine lv_istore_n (lv' := [(3, .int (0 : Int32)), (2, .int (0 : Int32)), (0, .ref h), (1, .ref (kAK D w1))]) hx hb d_M_isWord_31 rfl hl (by decide) rfl (fun ls hl => ?_)
    exact tl_M_isWord_1 X hww1 _ _ _ hf _ _ _ hV (lv_sub hl [2, 3, 1, 0] rfl)
  replace hf := kifp c_22 hf
  refine lv_iconst (v := 1) hx hb d_M_isWord_24 ic_1 ?_
  refine lv_goto (tgt := 29) hx hb d_M_isWord_25 (by decide) ?_
  refine lv_istore_n (lv' := [(2, .int (1 : Int32)), (0, .ref h), (1, .ref (kAK D w1))]) hx hb d_M_isWord_29 rfl hl (by decide) rfl (fun ls hl => ?_)
  refine lv_iconst (v := 0) hx hb d_M_isWord_30 ic_0 ?_
  refine lv_istore_n (lv' := [(3, .int (0 : Int32)), (2, .int (1 : Int32)), (0, .ref h), (1, .ref (kAK D w1))]) hx hb d_M_isWord_31 rfl hl (by decide) rfl (fun ls hl => ?_)
  exact tl_M_isWord_1 X hww1 _ _ _ hf _ _ _ hV (lv_sub hl [2, 3, 1, 0] rfl)
set_option maxHeartbeats 2000000 in
set_option maxRecDepth 20000 in
theorem c_M_isWord {l : Launch} (D : kD) (h : Nat) (h_now : Nat) (h_kept : Nat) (h_aside : Nat) (h_found : Nat) (h_down : Nat) (h_along : Nat) (h_parts : Nat) (h_gone : Nat) (h_tape : Nat) (h_kinds : Nat) (h_items : Nat) (h_widths : Nat) (h_sizes : Nat) (h_numbers : Nat) (h_moved : Nat) (v_isKept : Int32) (v_taped : Int32) (v_begins : Int32) (v_ends : Int32) (v_sort : Int32) (v_value : Int32) (v_isWrong : Int32) (v_itemMany : Int32) (v_farmMany : Int32) (v_farmCells : Int64) (v_tape : Nat → Int32) (w1 : Nat) (hww1 : Nat.blt w1 nStr = true) {out : Int32} (hf : f_M_isWord v_begins v_ends v_sort v_tape w1 = some out) : kMi l D y_M_isWord b_M_isWord 4 (some .boolean) { frames := 4, cells := 0, slots := 0, locals := 85 } [.ref h, .ref (kAK D w1)] (wd_M_isWord D h h_now h_kept h_aside h_found h_down h_along h_parts h_gone h_tape h_kinds h_items h_widths h_sizes h_numbers h_moved v_isKept v_taped v_begins v_ends v_sort v_value v_isWrong v_itemMany v_farmMany v_farmCells v_tape) (wd_M_isWord D h h_now h_kept h_aside h_found h_down h_along h_parts h_gone h_tape h_kinds h_items h_widths h_sizes h_numbers h_moved v_isKept v_taped v_begins v_ends v_sort v_value v_isWrong v_itemMany v_farmMany v_farmCells v_tape) out :=
  kMi_of (own := "MountainFarmsModel") (plainFor_of_name (by decide)) rfl rfl (fun p e s m args below meth c ls X hV hl => t_M_isWord X hww1 hf hV hl)
set_option maxHeartbeats 2000000 in
set_option maxRecDepth 20000 in
theorem tb_M_kindTold_1 {l : Launch} {p : Program} {e : Env} {s : State} {m : MethodId} {args : Array Value} {below : List Frame} {meth : Method} {c : Code} {D : kD} {wc0 : va_W} {h : Nat} {h_now : Nat} {h_kept : Nat} {h_aside : Nat} {h_found : Nat} {h_down : Nat} {h_along : Nat} {h_parts : Nat} {h_gone : Nat} {h_tape : Nat} {h_kinds : Nat} {h_items : Nat} {h_widths : Nat} {h_sizes : Nat} {h_numbers : Nat} {h_moved : Nat} {v_isKept : Int32} {v_taped : Int32} {v_begins : Int32} {v_ends : Int32} {v_sort : Int32} {v_value : Int32} {v_isWrong : Int32} {v_itemMany : Int32} {v_farmMany : Int32} {v_farmCells : Int64} {v_tape : Nat → Int32} {x1 : Int32} {x2 : Int32} {rec1 : Int32 → Int32 → Option (Int32)} {out : Int32} (X : kX p m meth c s args D (va_A wc0 s.heap.size) b_M_kindTold "MountainFarmsModel" 3 (some .int)) (hrec1 : ∀ (x1 : Int32) (x2 : Int32), rec1 x1 x2 = some out → ∀ (H : Heap) (locs : List Loc) (ls : Array Slot), kV D (va_A wc0 s.heap.size) s (wd_M_kindTold D h h_now h_kept h_aside h_found h_down h_along h_parts h_gone h_tape h_kinds h_items h_widths h_sizes h_numbers h_moved v_isKept v_taped v_begins v_ends v_sort v_value v_isWrong v_itemMany v_farmMany v_farmCells v_tape) H locs → lv_has ls 3 [(0, .ref h), (1, .int x1), (2, .int x2)] → W p l e { frames := 5, cells := 0, slots := 0, locals := 108 } s m args below meth c H locs 0 0 (MQ below (kQi D wc0 (wd_M_kindTold D h h_now h_kept h_aside h_found h_down h_along h_parts h_gone h_tape h_kinds h_items h_widths h_sizes h_numbers h_moved v_isKept v_taped v_begins v_ends v_sort v_value v_isWrong v_itemMany v_farmMany v_farmCells v_tape) s.heap.size out) args s 0 0 (va_A wc0 s.heap.size)) (F0 m 4 ls [])) (hf : fb_M_kindTold_1 rec1 v_begins v_ends v_sort v_tape x1 x2 = some out) {H : Heap} {locs : List Loc} (hV : kV D (va_A wc0 s.heap.size) s (wd_M_kindTold D h h_now h_kept h_aside h_found h_down h_along h_parts h_gone h_tape h_kinds h_items h_widths h_sizes h_numbers h_moved v_isKept v_taped v_begins v_ends v_sort v_value v_isWrong v_itemMany v_farmMany v_farmCells v_tape) H locs) {ls : Array Slot} (hl : lv_has ls 3 [(0, .ref h), (1, .int x1), (2, .int x2)]) : W p l e { frames := 5, cells := 0, slots := 0, locals := 108 } s m args below meth c H locs 0 0 (MQ below (kQi D wc0 (wd_M_kindTold D h h_now h_kept h_aside h_found h_down h_along h_parts h_gone h_tape h_kinds h_items h_widths h_sizes h_numbers h_moved v_isKept v_taped v_begins v_ends v_sort v_value v_isWrong v_itemMany v_farmMany v_farmCells v_tape) s.heap.size out) args s 0 0 (va_A wc0 s.heap.size)) (F0 m 4 ls []) := by
  unfold fb_M_kindTold_1 at hf
  obtain ⟨hx, hb, -⟩ := id X
  refine lv_iload_n hx hb d_M_kindTold_4 rfl (lv_at hl 2 rfl) ?_
  refine lv_aload_n hx hb d_M_kindTold_5 rfl (lv_at hl 0 rfl) ?_
  refine k_get X hV 0 9 16 rfl rfl rfl gw_903 rfl rfl d_M_kindTold_6 ?_
  refine k_alen (v := 6) X hV 2 3 rfl rfl rfl d_M_kindTold_9 ?_
  refine lv_icmp_ge (tgt := 38) hx hb d_M_kindTold_10 (by decide) (fun c_26 => ?_) (fun c_26 => ?_)
  · replace hf := kifp c_26 hf
    refine lv_iload_n hx hb d_M_kindTold_38 rfl (lv_at hl 1 rfl) ?_
    have e_ := Option.some.inj hf
    subst e_
    exact k_iret X rfl hV rfl d_M_kindTold_39
  replace hf := kifn c_26 hf
  refine lv_aload_n hx hb d_M_kindTold_13 rfl (lv_at hl 0 rfl) ?_
  refine lv_aload_n hx hb d_M_kindTold_14 rfl (lv_at hl 0 rfl) ?_
  refine k_get X hV 0 9 16 rfl rfl rfl gw_903 rfl rfl d_M_kindTold_15 ?_
  refine lv_iload_n hx hb d_M_kindTold_18 rfl (lv_at hl 2 rfl) ?_
  have hfs_27 := hf
  have hVs_27 := hV
  have hls_27 := hl
  by_cases c_27 : x2 = 0
  · replace hfs_27 := kifp c_27 hfs_27
    subst c_27
    have hf := hfs_27
    have hV := hVs_27
    have hl := hls_27
    refine k_aald (q := kAK D 15) X hV 2 3 rfl rfl kin_0_6 rfl d_M_kindTold_19 ?_
    obtain ⟨r_28, hc_29, hf⟩ := kb1_some hf
    refine k_cvi (w1 := (wd_M_isWord D h h_now h_kept h_aside h_found h_down h_along h_parts h_gone h_tape h_kinds h_items h_widths h_sizes h_numbers h_moved v_isKept v_taped v_begins v_ends v_sort v_value v_isWrong v_itemMany v_farmMany v_farmCells v_tape)) (r := r_28) (ws' := (wd_M_kindTold D h h_now h_kept h_aside h_found h_down h_along h_parts h_gone h_tape h_kinds h_items h_widths h_sizes h_numbers h_moved v_isKept v_taped v_begins v_ends v_sort v_value v_isWrong v_itemMany v_farmMany v_farmCells v_tape)) X hV hl.1 (c_M_isWord D h h_now h_kept h_aside h_found h_down h_along h_parts h_gone h_tape h_kinds h_items h_widths h_sizes h_numbers h_moved v_isKept v_taped v_begins v_ends v_sort v_value v_isWrong v_itemMany v_farmMany v_farmCells v_tape 15 rfl hc_29) fk_M_isWord gw_1279 rfl 0 9 rfl rfl [0, 1] [some 0, some 1, none] rfl rfl ⟨rfl, rfl, rfl, rfl, rfl, rfl, rfl, trivial⟩ rfl rfl rfl d_M_kindTold_20 (fun H locs hV => ?_)
    refine lv_if_eq (tgt := 30) hx hb d_M_kindTold_23 (by decide) (fun c_30 => ?_) (fun c_30 => ?_)
    · replace hf := kifp c_30 hf
      refine lv_iload_n hx hb d_M_kindTold_30 rfl (lv_at hl 1 rfl) ?_
      refine lv_istore_n (lv' := [(1, .int x1), (0, .ref h), (2, .int (0 : Int32))]) hx hb d_M_kindTold_31 rfl hl (by decide) rfl (fun ls hl => ?_)
      refine lv_iinc (v := ((0 : Int32) + 1)) (lv' := [(2, .int ((0 : Int32) + 1)), (1, .int x1), (0, .ref h)]) hx hb d_M_kindTold_32 hl (k := 2) rfl rfl (by decide) rfl (fun ls hl => ?_)
      refine lv_goto (tgt := 4) hx hb d_M_kindTold_35 (by decide) ?_
      exact hrec1 _ _ hf _ _ _ hV (lv_sub hl [2, 1, 0] rfl)
    replace hf := kifn c_30 hf
    refine lv_iload_n hx hb d_M_kindTold_26 rfl (lv_at hl 2 rfl) ?_
    refine lv_goto (tgt := 31) hx hb d_M_kindTold_27 (by decide) ?_
    refine lv_istore_n (lv' := [(1, .int (0 : Int32)), (0, .ref h), (2, .int (0 : Int32))]) hx hb d_M_kindTold_31 rfl hl (by decide) rfl (fun ls hl => ?_)
    refine lv_iinc (v := ((0 : Int32) + 1)) (lv' := [(2, .int ((0 : Int32) + 1)), (1, .int (0 : Int32)), (0, .ref h)]) hx hb d_M_kindTold_32 hl (k := 2) rfl rfl (by decide) rfl (fun ls hl => ?_)
    refine lv_goto (tgt := 4) hx hb d_M_kindTold_35 (by decide) ?_
    exact hrec1 _ _ hf _ _ _ hV (lv_sub hl [2, 1, 0] rfl)
  replace hfs_27 := kifn c_27 hfs_27
  by_cases c_31 : x2 = 1
  · replace hfs_27 := kifp c_31 hfs_27
    subst c_31
    have hf := hfs_27
    have hV := hVs_27
    have hl := hls_27
    refine k_aald (q := kAK D 16) X hV 2 3 rfl rfl kin_1_6 rfl d_M_kindTold_19 ?_
    obtain ⟨r_32, hc_33, hf⟩ := kb1_some hf
    refine k_cvi (w1 := (wd_M_isWord D h h_now h_kept h_aside h_found h_down h_along h_parts h_gone h_tape h_kinds h_items h_widths h_sizes h_numbers h_moved v_isKept v_taped v_begins v_ends v_sort v_value v_isWrong v_itemMany v_farmMany v_farmCells v_tape)) (r := r_32) (ws' := (wd_M_kindTold D h h_now h_kept h_aside h_found h_down h_along h_parts h_gone h_tape h_kinds h_items h_widths h_sizes h_numbers h_moved v_isKept v_taped v_begins v_ends v_sort v_value v_isWrong v_itemMany v_farmMany v_farmCells v_tape)) X hV hl.1 (c_M_isWord D h h_now h_kept h_aside h_found h_down h_along h_parts h_gone h_tape h_kinds h_items h_widths h_sizes h_numbers h_moved v_isKept v_taped v_begins v_ends v_sort v_value v_isWrong v_itemMany v_farmMany v_farmCells v_tape 16 rfl hc_33) fk_M_isWord gw_1279 rfl 0 9 rfl rfl [0, 1] [some 0, some 1, none] rfl rfl ⟨rfl, rfl, rfl, rfl, rfl, rfl, rfl, trivial⟩ rfl rfl rfl d_M_kindTold_20 (fun H locs hV => ?_)
    refine lv_if_eq (tgt := 30) hx hb d_M_kindTold_23 (by decide) (fun c_34 => ?_) (fun c_34 => ?_)
    · replace hf := kifp c_34 hf
      refine lv_iload_n hx hb d_M_kindTold_30 rfl (lv_at hl 1 rfl) ?_
      refine lv_istore_n (lv' := [(1, .int x1), (0, .ref h), (2, .int (1 : Int32))]) hx hb d_M_kindTold_31 rfl hl (by decide) rfl (fun ls hl => ?_)
      refine lv_iinc (v := ((1 : Int32) + 1)) (lv' := [(2, .int ((1 : Int32) + 1)), (1, .int x1), (0, .ref h)]) hx hb d_M_kindTold_32 hl (k := 2) rfl rfl (by decide) rfl (fun ls hl => ?_)
      refine lv_goto (tgt := 4) hx hb d_M_kindTold_35 (by decide) ?_
      exact hrec1 _ _ hf _ _ _ hV (lv_sub hl [2, 1, 0] rfl)
    replace hf := kifn c_34 hf
    refine lv_iload_n hx hb d_M_kindTold_26 rfl (lv_at hl 2 rfl) ?_
    refine lv_goto (tgt := 31) hx hb d_M_kindTold_27 (by decide) ?_
    refine lv_istore_n (lv' := [(1, .int (1 : Int32)), (0, .ref h), (2, .int (1 : Int32))]) hx hb d_M_kindTold_31 rfl hl (by decide) rfl (fun ls hl => ?_)
    refine lv_iinc (v := ((1 : Int32) + 1)) (lv' := [(2, .int ((1 : Int32) + 1)), (1, .int (1 : Int32)), (0, .ref h)]) hx hb d_M_kindTold_32 hl (k := 2) rfl rfl (by decide) rfl (fun ls hl => ?_)
    refine lv_goto (tgt := 4) hx hb d_M_kindTold_35 (by decide) ?_
    exact hrec1 _ _ hf _ _ _ hV (lv_sub hl [2, 1, 0] rfl)
  replace hfs_27 := kifn c_31 hfs_27
  by_cases c_35 : x2 = 2
  · replace hfs_27 := kifp c_35 hfs_27
    subst c_35
    have hf := hfs_27
    have hV := hVs_27
    have hl := hls_27
    refine k_aald (q := kAK D 17) X hV 2 3 rfl rfl kin_2_6 rfl d_M_kindTold_19 ?_
    obtain ⟨r_36, hc_37, hf⟩ := kb1_some hf
    refine k_cvi (w1 := (wd_M_isWord D h h_now h_kept h_aside h_found h_down h_along h_parts h_gone h_tape h_kinds h_items h_widths h_sizes h_numbers h_moved v_isKept v_taped v_begins v_ends v_sort v_value v_isWrong v_itemMany v_farmMany v_farmCells v_tape)) (r := r_36) (ws' := (wd_M_kindTold D h h_now h_kept h_aside h_found h_down h_along h_parts h_gone h_tape h_kinds h_items h_widths h_sizes h_numbers h_moved v_isKept v_taped v_begins v_ends v_sort v_value v_isWrong v_itemMany v_farmMany v_farmCells v_tape)) X hV hl.1 (c_M_isWord D h h_now h_kept h_aside h_found h_down h_along h_parts h_gone h_tape h_kinds h_items h_widths h_sizes h_numbers h_moved v_isKept v_taped v_begins v_ends v_sort v_value v_isWrong v_itemMany v_farmMany v_farmCells v_tape 17 rfl hc_37) fk_M_isWord gw_1279 rfl 0 9 rfl rfl [0, 1] [some 0, some 1, none] rfl rfl ⟨rfl, rfl, rfl, rfl, rfl, rfl, rfl, trivial⟩ rfl rfl rfl d_M_kindTold_20 (fun H locs hV => ?_)
    refine lv_if_eq (tgt := 30) hx hb d_M_kindTold_23 (by decide) (fun c_38 => ?_) (fun c_38 => ?_)
    · replace hf := kifp c_38 hf
      refine lv_iload_n hx hb d_M_kindTold_30 rfl (lv_at hl 1 rfl) ?_
      refine lv_istore_n (lv' := [(1, .int x1), (0, .ref h), (2, .int (2 : Int32))]) hx hb d_M_kindTold_31 rfl hl (by decide) rfl (fun ls hl => ?_)
      refine lv_iinc (v := ((2 : Int32) + 1)) (lv' := [(2, .int ((2 : Int32) + 1)), (1, .int x1), (0, .ref h)]) hx hb d_M_kindTold_32 hl (k := 2) rfl rfl (by decide) rfl (fun ls hl => ?_)
      refine lv_goto (tgt := 4) hx hb d_M_kindTold_35 (by decide) ?_
      exact hrec1 _ _ hf _ _ _ hV (lv_sub hl [2, 1, 0] rfl)
    replace hf := kifn c_38 hf
    refine lv_iload_n hx hb d_M_kindTold_26 rfl (lv_at hl 2 rfl) ?_
    refine lv_goto (tgt := 31) hx hb d_M_kindTold_27 (by decide) ?_
    refine lv_istore_n (lv' := [(1, .int (2 : Int32)), (0, .ref h), (2, .int (2 : Int32))]) hx hb d_M_kindTold_31 rfl hl (by decide) rfl (fun ls hl => ?_)
    refine lv_iinc (v := ((2 : Int32) + 1)) (lv' := [(2, .int ((2 : Int32) + 1)), (1, .int (2 : Int32)), (0, .ref h)]) hx hb d_M_kindTold_32 hl (k := 2) rfl rfl (by decide) rfl (fun ls hl => ?_)
    refine lv_goto (tgt := 4) hx hb d_M_kindTold_35 (by decide) ?_
    exact hrec1 _ _ hf _ _ _ hV (lv_sub hl [2, 1, 0] rfl)
  replace hfs_27 := kifn c_35 hfs_27
  by_cases c_39 : x2 = 3
  · replace hfs_27 := kifp c_39 hfs_27
    subst c_39
    have hf := hfs_27
    have hV := hVs_27
    have hl := hls_27
    refine k_aald (q := kAK D 18) X hV 2 3 rfl rfl kin_3_6 rfl d_M_kindTold_19 ?_
    obtain ⟨r_40, hc_41, hf⟩ := kb1_some hf
    refine k_cvi (w1 := (wd_M_isWord D h h_now h_kept h_aside h_found h_down h_along h_parts h_gone h_tape h_kinds h_items h_widths h_sizes h_numbers h_moved v_isKept v_taped v_begins v_ends v_sort v_value v_isWrong v_itemMany v_farmMany v_farmCells v_tape)) (r := r_40) (ws' := (wd_M_kindTold D h h_now h_kept h_aside h_found h_down h_along h_parts h_gone h_tape h_kinds h_items h_widths h_sizes h_numbers h_moved v_isKept v_taped v_begins v_ends v_sort v_value v_isWrong v_itemMany v_farmMany v_farmCells v_tape)) X hV hl.1 (c_M_isWord D h h_now h_kept h_aside h_found h_down h_along h_parts h_gone h_tape h_kinds h_items h_widths h_sizes h_numbers h_moved v_isKept v_taped v_begins v_ends v_sort v_value v_isWrong v_itemMany v_farmMany v_farmCells v_tape 18 rfl hc_41) fk_M_isWord gw_1279 rfl 0 9 rfl rfl [0, 1] [some 0, some 1, none] rfl rfl ⟨rfl, rfl, rfl, rfl, rfl, rfl, rfl, trivial⟩ rfl rfl rfl d_M_kindTold_20 (fun H locs hV => ?_)
    refine lv_if_eq (tgt := 30) hx hb d_M_kindTold_23 (by decide) (fun c_42 => ?_) (fun c_42 => ?_)
    · replace hf := kifp c_42 hf
      refine lv_iload_n hx hb d_M_kindTold_30 rfl (lv_at hl 1 rfl) ?_
      refine lv_istore_n (lv' := [(1, .int x1), (0, .ref h), (2, .int (3 : Int32))]) hx hb d_M_kindTold_31 rfl hl (by decide) rfl (fun ls hl => ?_)
      refine lv_iinc (v := ((3 : Int32) + 1)) (lv' := [(2, .int ((3 : Int32) + 1)), (1, .int x1), (0, .ref h)]) hx hb d_M_kindTold_32 hl (k := 2) rfl rfl (by decide) rfl (fun ls hl => ?_)
      refine lv_goto (tgt := 4) hx hb d_M_kindTold_35 (by decide) ?_
      exact hrec1 _ _ hf _ _ _ hV (lv_sub hl [2, 1, 0] rfl)
    replace hf := kifn c_42 hf
    refine lv_iload_n hx hb d_M_kindTold_26 rfl (lv_at hl 2 rfl) ?_
    refine lv_goto (tgt := 31) hx hb d_M_kindTold_27 (by decide) ?_
    refine lv_istore_n (lv' := [(1, .int (3 : Int32)), (0, .ref h), (2, .int (3 : Int32))]) hx hb d_M_kindTold_31 rfl hl (by decide) rfl (fun ls hl => ?_)
    refine lv_iinc (v := ((3 : Int32) + 1)) (lv' := [(2, .int ((3 : Int32) + 1)), (1, .int (3 : Int32)), (0, .ref h)]) hx hb d_M_kindTold_32 hl (k := 2) rfl rfl (by decide) rfl (fun ls hl => ?_)
    refine lv_goto (tgt := 4) hx hb d_M_kindTold_35 (by decide) ?_
    exact hrec1 _ _ hf _ _ _ hV (lv_sub hl [2, 1, 0] rfl)
  replace hfs_27 := kifn c_39 hfs_27
  by_cases c_43 : x2 = 4
  · replace hfs_27 := kifp c_43 hfs_27
    subst c_43
    have hf := hfs_27
    have hV := hVs_27
    have hl := hls_27
    refine k_aald (q := kAK D 19) X hV 2 3 rfl rfl kin_4_6 rfl d_M_kindTold_19 ?_
    obtain ⟨r_44, hc_45, hf⟩ := kb1_some hf
    refine k_cvi (w1 := (wd_M_isWord D h h_now h_kept h_aside h_found h_down h_along h_parts h_gone h_tape h_kinds h_items h_widths h_sizes h_numbers h_moved v_isKept v_taped v_begins v_ends v_sort v_value v_isWrong v_itemMany v_farmMany v_farmCells v_tape)) (r := r_44) (ws' := (wd_M_kindTold D h h_now h_kept h_aside h_found h_down h_along h_parts h_gone h_tape h_kinds h_items h_widths h_sizes h_numbers h_moved v_isKept v_taped v_begins v_ends v_sort v_value v_isWrong v_itemMany v_farmMany v_farmCells v_tape)) X hV hl.1 (c_M_isWord D h h_now h_kept h_aside h_found h_down h_along h_parts h_gone h_tape h_kinds h_items h_widths h_sizes h_numbers h_moved v_isKept v_taped v_begins v_ends v_sort v_value v_isWrong v_itemMany v_farmMany v_farmCells v_tape 19 rfl hc_45) fk_M_isWord gw_1279 rfl 0 9 rfl rfl [0, 1] [some 0, some 1, none] rfl rfl ⟨rfl, rfl, rfl, rfl, rfl, rfl, rfl, trivial⟩ rfl rfl rfl d_M_kindTold_20 (fun H locs hV => ?_)
    refine lv_if_eq (tgt := 30) hx hb d_M_kindTold_23 (by decide) (fun c_46 => ?_) (fun c_46 => ?_)
    · replace hf := kifp c_46 hf
      refine lv_iload_n hx hb d_M_kindTold_30 rfl (lv_at hl 1 rfl) ?_
      refine lv_istore_n (lv' := [(1, .int x1), (0, .ref h), (2, .int (4 : Int32))]) hx hb d_M_kindTold_31 rfl hl (by decide) rfl (fun ls hl => ?_)
      refine lv_iinc (v := ((4 : Int32) + 1)) (lv' := [(2, .int ((4 : Int32) + 1)), (1, .int x1), (0, .ref h)]) hx hb d_M_kindTold_32 hl (k := 2) rfl rfl (by decide) rfl (fun ls hl => ?_)
      refine lv_goto (tgt := 4) hx hb d_M_kindTold_35 (by decide) ?_
      exact hrec1 _ _ hf _ _ _ hV (lv_sub hl [2, 1, 0] rfl)
    replace hf := kifn c_46 hf
    refine lv_iload_n hx hb d_M_kindTold_26 rfl (lv_at hl 2 rfl) ?_
    refine lv_goto (tgt := 31) hx hb d_M_kindTold_27 (by decide) ?_
    refine lv_istore_n (lv' := [(1, .int (4 : Int32)), (0, .ref h), (2, .int (4 : Int32))]) hx hb d_M_kindTold_31 rfl hl (by decide) rfl (fun ls hl => ?_)
    refine lv_iinc (v := ((4 : Int32) + 1)) (lv' := [(2, .int ((4 : Int32) + 1)), (1, .int (4 : Int32)), (0, .ref h)]) hx hb d_M_kindTold_32 hl (k := 2) rfl rfl (by decide) rfl (fun ls hl => ?_)
    refine lv_goto (tgt := 4) hx hb d_M_kindTold_35 (by decide) ?_
    exact hrec1 _ _ hf _ _ _ hV (lv_sub hl [2, 1, 0] rfl)
  replace hfs_27 := kifn c_43 hfs_27
  by_cases c_47 : x2 = 5
  · replace hfs_27 := kifp c_47 hfs_27
    subst c_47
    have hf := hfs_27
    have hV := hVs_27
    have hl := hls_27
    refine k_aald (q := kAK D 20) X hV 2 3 rfl rfl kin_5_6 rfl d_M_kindTold_19 ?_
    obtain ⟨r_48, hc_49, hf⟩ := kb1_some hf
    refine k_cvi (w1 := (wd_M_isWord D h h_now h_kept h_aside h_found h_down h_along h_parts h_gone h_tape h_kinds h_items h_widths h_sizes h_numbers h_moved v_isKept v_taped v_begins v_ends v_sort v_value v_isWrong v_itemMany v_farmMany v_farmCells v_tape)) (r := r_48) (ws' := (wd_M_kindTold D h h_now h_kept h_aside h_found h_down h_along h_parts h_gone h_tape h_kinds h_items h_widths h_sizes h_numbers h_moved v_isKept v_taped v_begins v_ends v_sort v_value v_isWrong v_itemMany v_farmMany v_farmCells v_tape)) X hV hl.1 (c_M_isWord D h h_now h_kept h_aside h_found h_down h_along h_parts h_gone h_tape h_kinds h_items h_widths h_sizes h_numbers h_moved v_isKept v_taped v_begins v_ends v_sort v_value v_isWrong v_itemMany v_farmMany v_farmCells v_tape 20 rfl hc_49) fk_M_isWord gw_1279 rfl 0 9 rfl rfl [0, 1] [some 0, some 1, none] rfl rfl ⟨rfl, rfl, rfl, rfl, rfl, rfl, rfl, trivial⟩ rfl rfl rfl d_M_kindTold_20 (fun H locs hV => ?_)
    refine lv_if_eq (tgt := 30) hx hb d_M_kindTold_23 (by decide) (fun c_50 => ?_) (fun c_50 => ?_)
    · replace hf := kifp c_50 hf
      refine lv_iload_n hx hb d_M_kindTold_30 rfl (lv_at hl 1 rfl) ?_
      refine lv_istore_n (lv' := [(1, .int x1), (0, .ref h), (2, .int (5 : Int32))]) hx hb d_M_kindTold_31 rfl hl (by decide) rfl (fun ls hl => ?_)
      refine lv_iinc (v := ((5 : Int32) + 1)) (lv' := [(2, .int ((5 : Int32) + 1)), (1, .int x1), (0, .ref h)]) hx hb d_M_kindTold_32 hl (k := 2) rfl rfl (by decide) rfl (fun ls hl => ?_)
      refine lv_goto (tgt := 4) hx hb d_M_kindTold_35 (by decide) ?_
      exact hrec1 _ _ hf _ _ _ hV (lv_sub hl [2, 1, 0] rfl)
    replace hf := kifn c_50 hf
    refine lv_iload_n hx hb d_M_kindTold_26 rfl (lv_at hl 2 rfl) ?_
    refine lv_goto (tgt := 31) hx hb d_M_kindTold_27 (by decide) ?_
    refine lv_istore_n (lv' := [(1, .int (5 : Int32)), (0, .ref h), (2, .int (5 : Int32))]) hx hb d_M_kindTold_31 rfl hl (by decide) rfl (fun ls hl => ?_)
    refine lv_iinc (v := ((5 : Int32) + 1)) (lv' := [(2, .int ((5 : Int32) + 1)), (1, .int (5 : Int32)), (0, .ref h)]) hx hb d_M_kindTold_32 hl (k := 2) rfl rfl (by decide) rfl (fun ls hl => ?_)
    refine lv_goto (tgt := 4) hx hb d_M_kindTold_35 (by decide) ?_
    exact hrec1 _ _ hf _ _ _ hV (lv_sub hl [2, 1, 0] rfl)
  replace hfs_27 := kifn c_47 hfs_27
  exact knone hfs_27
set_option maxHeartbeats 2000000 in
set_option maxRecDepth 20000 in
theorem tl_M_kindTold_1 {l : Launch} {p : Program} {e : Env} {s : State} {m : MethodId} {args : Array Value} {below : List Frame} {meth : Method} {c : Code} {D : kD} {wc0 : va_W} {h : Nat} {h_now : Nat} {h_kept : Nat} {h_aside : Nat} {h_found : Nat} {h_down : Nat} {h_along : Nat} {h_parts : Nat} {h_gone : Nat} {h_tape : Nat} {h_kinds : Nat} {h_items : Nat} {h_widths : Nat} {h_sizes : Nat} {h_numbers : Nat} {h_moved : Nat} {v_isKept : Int32} {v_taped : Int32} {v_begins : Int32} {v_ends : Int32} {v_sort : Int32} {v_value : Int32} {v_isWrong : Int32} {v_itemMany : Int32} {v_farmMany : Int32} {v_farmCells : Int64} {v_tape : Nat → Int32} {out : Int32} (X : kX p m meth c s args D (va_A wc0 s.heap.size) b_M_kindTold "MountainFarmsModel" 3 (some .int)) : ∀ (n : Nat) (x1 : Int32) (x2 : Int32), fl_M_kindTold_1 v_begins v_ends v_sort v_tape n x1 x2 = some out → ∀ (H : Heap) (locs : List Loc) (ls : Array Slot), kV D (va_A wc0 s.heap.size) s (wd_M_kindTold D h h_now h_kept h_aside h_found h_down h_along h_parts h_gone h_tape h_kinds h_items h_widths h_sizes h_numbers h_moved v_isKept v_taped v_begins v_ends v_sort v_value v_isWrong v_itemMany v_farmMany v_farmCells v_tape) H locs → lv_has ls 3 [(0, .ref h), (1, .int x1), (2, .int x2)] → W p l e { frames := 5, cells := 0, slots := 0, locals := 108 } s m args below meth c H locs 0 0 (MQ below (kQi D wc0 (wd_M_kindTold D h h_now h_kept h_aside h_found h_down h_along h_parts h_gone h_tape h_kinds h_items h_widths h_sizes h_numbers h_moved v_isKept v_taped v_begins v_ends v_sort v_value v_isWrong v_itemMany v_farmMany v_farmCells v_tape) s.heap.size out) args s 0 0 (va_A wc0 s.heap.size)) (F0 m 4 ls []) := by
  intro n
  induction n with
  | zero => intro x1 x2 hf; exact knone hf
  | succ n ih => intro x1 x2 hf H locs ls hV hl; exact tb_M_kindTold_1 X ih hf hV hl
set_option maxHeartbeats 2000000 in
set_option maxRecDepth 20000 in
theorem t_M_kindTold {l : Launch} {p : Program} {e : Env} {s : State} {m : MethodId} {args : Array Value} {below : List Frame} {meth : Method} {c : Code} {D : kD} {wc0 : va_W} {h : Nat} {h_now : Nat} {h_kept : Nat} {h_aside : Nat} {h_found : Nat} {h_down : Nat} {h_along : Nat} {h_parts : Nat} {h_gone : Nat} {h_tape : Nat} {h_kinds : Nat} {h_items : Nat} {h_widths : Nat} {h_sizes : Nat} {h_numbers : Nat} {h_moved : Nat} {v_isKept : Int32} {v_taped : Int32} {v_begins : Int32} {v_ends : Int32} {v_sort : Int32} {v_value : Int32} {v_isWrong : Int32} {v_itemMany : Int32} {v_farmMany : Int32} {v_farmCells : Int64} {v_tape : Nat → Int32} {out : Int32} (X : kX p m meth c s args D (va_A wc0 s.heap.size) b_M_kindTold "MountainFarmsModel" 3 (some .int)) (hf : f_M_kindTold v_begins v_ends v_sort v_tape = some out) {H : Heap} {locs : List Loc} (hV : kV D (va_A wc0 s.heap.size) s (wd_M_kindTold D h h_now h_kept h_aside h_found h_down h_along h_parts h_gone h_tape h_kinds h_items h_widths h_sizes h_numbers h_moved v_isKept v_taped v_begins v_ends v_sort v_value v_isWrong v_itemMany v_farmMany v_farmCells v_tape) H locs) {ls : Array Slot} (hl : lv_has ls 3 [(0, .ref h)]) : W p l e { frames := 5, cells := 0, slots := 0, locals := 108 } s m args below meth c H locs 0 0 (MQ below (kQi D wc0 (wd_M_kindTold D h h_now h_kept h_aside h_found h_down h_along h_parts h_gone h_tape h_kinds h_items h_widths h_sizes h_numbers h_moved v_isKept v_taped v_begins v_ends v_sort v_value v_isWrong v_itemMany v_farmMany v_farmCells v_tape) s.heap.size out) args s 0 0 (va_A wc0 s.heap.size)) (F0 m 0 ls []) := by
  unfold f_M_kindTold at hf
  obtain ⟨hx, hb, -⟩ := id X
  refine lv_iconst (v := (-1)) hx hb d_M_kindTold_0 ic_m1 ?_
  refine lv_istore_n (lv' := [(1, .int (-1 : Int32)), (0, .ref h)]) hx hb d_M_kindTold_1 rfl hl (by decide) rfl (fun ls hl => ?_)
  refine lv_iconst (v := 0) hx hb d_M_kindTold_2 ic_0 ?_
  refine lv_istore_n (lv' := [(2, .int (0 : Int32)), (1, .int (-1 : Int32)), (0, .ref h)]) hx hb d_M_kindTold_3 rfl hl (by decide) rfl (fun ls hl => ?_)
  exact tl_M_kindTold_1 X _ _ _ hf _ _ _ hV (lv_sub hl [2, 1, 0] rfl)
set_option maxHeartbeats 2000000 in
set_option maxRecDepth 20000 in
theorem c_M_kindTold {l : Launch} (D : kD) (h : Nat) (h_now : Nat) (h_kept : Nat) (h_aside : Nat) (h_found : Nat) (h_down : Nat) (h_along : Nat) (h_parts : Nat) (h_gone : Nat) (h_tape : Nat) (h_kinds : Nat) (h_items : Nat) (h_widths : Nat) (h_sizes : Nat) (h_numbers : Nat) (h_moved : Nat) (v_isKept : Int32) (v_taped : Int32) (v_begins : Int32) (v_ends : Int32) (v_sort : Int32) (v_value : Int32) (v_isWrong : Int32) (v_itemMany : Int32) (v_farmMany : Int32) (v_farmCells : Int64) (v_tape : Nat → Int32) {out : Int32} (hf : f_M_kindTold v_begins v_ends v_sort v_tape = some out) : kMi l D y_M_kindTold b_M_kindTold 3 (some .int) { frames := 5, cells := 0, slots := 0, locals := 108 } [.ref h] (wd_M_kindTold D h h_now h_kept h_aside h_found h_down h_along h_parts h_gone h_tape h_kinds h_items h_widths h_sizes h_numbers h_moved v_isKept v_taped v_begins v_ends v_sort v_value v_isWrong v_itemMany v_farmMany v_farmCells v_tape) (wd_M_kindTold D h h_now h_kept h_aside h_found h_down h_along h_parts h_gone h_tape h_kinds h_items h_widths h_sizes h_numbers h_moved v_isKept v_taped v_begins v_ends v_sort v_value v_isWrong v_itemMany v_farmMany v_farmCells v_tape) out :=
  kMi_of (own := "MountainFarmsModel") (plainFor_of_name (by decide)) rfl rfl (fun p e s m args below meth c ls X hV hl => t_M_kindTold X hf hV hl)
set_option maxHeartbeats 2000000 in
set_option maxRecDepth 20000 in
theorem t_M_must_2 {l : Launch} {p : Program} {e : Env} {s : State} {m : MethodId} {args : Array Value} {below : List Frame} {meth : Method} {c : Code} {D : kD} {wc0 : va_W} {h : Nat} {h_now : Nat} {h_kept : Nat} {h_aside : Nat} {h_found : Nat} {h_down : Nat} {h_along : Nat} {h_parts : Nat} {h_gone : Nat} {h_tape : Nat} {h_kinds : Nat} {h_items : Nat} {h_widths : Nat} {h_sizes : Nat} {h_numbers : Nat} {h_moved : Nat} {v_isKept : Int32} {v_taped : Int32} {v_begins : Int32} {v_ends : Int32} {v_sort : Int32} {v_value : Int32} {v_isWrong : Int32} {v_itemMany : Int32} {v_farmMany : Int32} {v_farmCells : Int64} {v_tape : Nat → Int32} {s1 : Int32} {out : Int32 × Int32 × Int32 × Int32 × Int32} (X : kX p m meth c s args D (va_A wc0 s.heap.size) b_M_must "MountainFarmsModel" 2 none) (hf : f_M_must_2 s1 v_taped v_begins v_ends v_sort v_value v_isWrong v_tape = some out) {H : Heap} {locs : List Loc} (hV : kV D (va_A wc0 s.heap.size) s (wd_M_must D h h_now h_kept h_aside h_found h_down h_along h_parts h_gone h_tape h_kinds h_items h_widths h_sizes h_numbers h_moved v_isKept v_taped v_begins v_ends v_sort v_value v_isWrong v_itemMany v_farmMany v_farmCells v_tape) H locs) {ls : Array Slot} (hl : lv_has ls 2 [(0, .ref h)]) : W p l e { frames := 2, cells := 0, slots := 0, locals := 43 } s m args below meth c H locs 0 0 (MQ below (kQv D wc0 (wd_M_must D h h_now h_kept h_aside h_found h_down h_along h_parts h_gone h_tape h_kinds h_items h_widths h_sizes h_numbers h_moved v_isKept v_taped out.1 out.2.1 out.2.2.1 out.2.2.2.1 out.2.2.2.2 v_itemMany v_farmMany v_farmCells v_tape) s.heap.size) args s 0 0 (va_A wc0 s.heap.size)) (F0 m 17 ls [.int s1, .ref h]) := by
  unfold f_M_must_2 at hf
  obtain ⟨hx, hb, -⟩ := id X
  obtain ⟨h_12, hf⟩ := kchk hf
  refine k_putv (ty := .boolean) (ws' := (wd_M_must D h h_now h_kept h_aside h_found h_down h_along h_parts h_gone h_tape h_kinds h_items h_widths h_sizes h_numbers h_moved v_isKept v_taped v_begins v_ends v_sort v_value s1 v_itemMany v_farmMany v_farmCells v_tape)) X hV 0 9 15 rfl rfl rfl gw_902 rfl rfl rfl (knarB h_12) (kfitB h_12) rfl rfl d_M_must_17 (fun H locs hV => ?_)
  refine lv_aload_n hx hb d_M_must_20 rfl (lv_at hl 0 rfl) ?_
  refine k_get X hV 0 9 15 rfl rfl rfl gw_902 rfl rfl d_M_must_21 ?_
  refine lv_if_ne (tgt := 31) hx hb d_M_must_24 (by decide) (fun c_13 => ?_) (fun c_13 => ?_)
  · replace hf := kifn c_13 hf
    have e_ := Option.some.inj hf
    subst e_
    exact k_vret X rfl hV d_M_must_31
  replace hf := kifp c_13 hf
  refine lv_aload_n hx hb d_M_must_27 rfl (lv_at hl 0 rfl) ?_
  obtain ⟨v_begins_14, v_ends_15, v_sort_16, v_value_17, hc_18, hf⟩ := kb4_some hf
  refine k_cvv (w1 := (wd_M_next D h h_now h_kept h_aside h_found h_down h_along h_parts h_gone h_tape h_kinds h_items h_widths h_sizes h_numbers h_moved v_isKept v_taped v_begins_14 v_ends_15 v_sort_16 v_value_17 s1 v_itemMany v_farmMany v_farmCells v_tape)) (ws' := (wd_M_must D h h_now h_kept h_aside h_found h_down h_along h_parts h_gone h_tape h_kinds h_items h_widths h_sizes h_numbers h_moved v_isKept v_taped v_begins_14 v_ends_15 v_sort_16 v_value_17 s1 v_itemMany v_farmMany v_farmCells v_tape)) X hV hl.1 (c_M_next D h h_now h_kept h_aside h_found h_down h_along h_parts h_gone h_tape h_kinds h_items h_widths h_sizes h_numbers h_moved v_isKept v_taped v_begins v_ends v_sort v_value s1 v_itemMany v_farmMany v_farmCells v_tape hc_18) fk_M_next gw_1263 rfl 0 9 rfl rfl [0, 1] [some 0, some 1] rfl rfl ⟨rfl, rfl, rfl, rfl, rfl, rfl, trivial⟩ rfl rfl rfl d_M_must_28 (fun H locs hV => ?_)
  have e_ := Option.some.inj hf
  subst e_
  exact k_vret X rfl hV d_M_must_31
set_option maxHeartbeats 2000000 in
set_option maxRecDepth 20000 in
theorem t_M_must_1 {l : Launch} {p : Program} {e : Env} {s : State} {m : MethodId} {args : Array Value} {below : List Frame} {meth : Method} {c : Code} {D : kD} {wc0 : va_W} {h : Nat} {h_now : Nat} {h_kept : Nat} {h_aside : Nat} {h_found : Nat} {h_down : Nat} {h_along : Nat} {h_parts : Nat} {h_gone : Nat} {h_tape : Nat} {h_kinds : Nat} {h_items : Nat} {h_widths : Nat} {h_sizes : Nat} {h_numbers : Nat} {h_moved : Nat} {v_isKept : Int32} {v_taped : Int32} {v_begins : Int32} {v_ends : Int32} {v_sort : Int32} {v_value : Int32} {v_isWrong : Int32} {v_itemMany : Int32} {v_farmMany : Int32} {v_farmCells : Int64} {v_tape : Nat → Int32} {out : Int32 × Int32 × Int32 × Int32 × Int32} (X : kX p m meth c s args D (va_A wc0 s.heap.size) b_M_must "MountainFarmsModel" 2 none) (hf : f_M_must_1 v_taped v_begins v_ends v_sort v_value v_isWrong v_tape = some out) {H : Heap} {locs : List Loc} (hV : kV D (va_A wc0 s.heap.size) s (wd_M_must D h h_now h_kept h_aside h_found h_down h_along h_parts h_gone h_tape h_kinds h_items h_widths h_sizes h_numbers h_moved v_isKept v_taped v_begins v_ends v_sort v_value v_isWrong v_itemMany v_farmMany v_farmCells v_tape) H locs) {ls : Array Slot} (hl : lv_has ls 2 [(0, .ref h)]) : W p l e { frames := 2, cells := 0, slots := 0, locals := 43 } s m args below meth c H locs 0 0 (MQ below (kQv D wc0 (wd_M_must D h h_now h_kept h_aside h_found h_down h_along h_parts h_gone h_tape h_kinds h_items h_widths h_sizes h_numbers h_moved v_isKept v_taped out.1 out.2.1 out.2.2.1 out.2.2.2.1 out.2.2.2.2 v_itemMany v_farmMany v_farmCells v_tape) s.heap.size) args s 0 0 (va_A wc0 s.heap.size)) (F0 m 12 ls [.ref h]) := by
  unfold f_M_must_1 at hf
  obtain ⟨hx, hb, -⟩ := id X
  refine lv_iconst (v := 1) hx hb d_M_must_12 ic_1 ?_
  refine lv_goto (tgt := 17) hx hb d_M_must_13 (by decide) ?_
  exact t_M_must_2 X hf hV (lv_sub hl [0] rfl)
set_option maxHeartbeats 2000000 in
set_option maxRecDepth 20000 in
theorem t_M_must {l : Launch} {p : Program} {e : Env} {s : State} {m : MethodId} {args : Array Value} {below : List Frame} {meth : Method} {c : Code} {D : kD} {wc0 : va_W} {h : Nat} {h_now : Nat} {h_kept : Nat} {h_aside : Nat} {h_found : Nat} {h_down : Nat} {h_along : Nat} {h_parts : Nat} {h_gone : Nat} {h_tape : Nat} {h_kinds : Nat} {h_items : Nat} {h_widths : Nat} {h_sizes : Nat} {h_numbers : Nat} {h_moved : Nat} {v_isKept : Int32} {v_taped : Int32} {v_begins : Int32} {v_ends : Int32} {v_sort : Int32} {v_value : Int32} {v_isWrong : Int32} {v_itemMany : Int32} {v_farmMany : Int32} {v_farmCells : Int64} {v_tape : Nat → Int32} {x1 : Int32} {out : Int32 × Int32 × Int32 × Int32 × Int32} (X : kX p m meth c s args D (va_A wc0 s.heap.size) b_M_must "MountainFarmsModel" 2 none) (hf : f_M_must v_taped v_begins v_ends v_sort v_value v_isWrong v_tape x1 = some out) {H : Heap} {locs : List Loc} (hV : kV D (va_A wc0 s.heap.size) s (wd_M_must D h h_now h_kept h_aside h_found h_down h_along h_parts h_gone h_tape h_kinds h_items h_widths h_sizes h_numbers h_moved v_isKept v_taped v_begins v_ends v_sort v_value v_isWrong v_itemMany v_farmMany v_farmCells v_tape) H locs) {ls : Array Slot} (hl : lv_has ls 2 [(0, .ref h), (1, .int x1)]) : W p l e { frames := 2, cells := 0, slots := 0, locals := 43 } s m args below meth c H locs 0 0 (MQ below (kQv D wc0 (wd_M_must D h h_now h_kept h_aside h_found h_down h_along h_parts h_gone h_tape h_kinds h_items h_widths h_sizes h_numbers h_moved v_isKept v_taped out.1 out.2.1 out.2.2.1 out.2.2.2.1 out.2.2.2.2 v_itemMany v_farmMany v_farmCells v_tape) s.heap.size) args s 0 0 (va_A wc0 s.heap.size)) (F0 m 0 ls []) := by
  unfold f_M_must at hf
  obtain ⟨hx, hb, -⟩ := id X
  refine lv_aload_n hx hb d_M_must_0 rfl (lv_at hl 0 rfl) ?_
  refine lv_aload_n hx hb d_M_must_1 rfl (lv_at hl 0 rfl) ?_
  refine k_get X hV 0 9 15 rfl rfl rfl gw_902 rfl rfl d_M_must_2 ?_
  refine lv_if_ne (tgt := 12) hx hb d_M_must_5 (by decide) (fun c_10 => ?_) (fun c_10 => ?_)
  · replace hf := kifn c_10 hf
    exact t_M_must_1 X hf hV (lv_sub hl [0] rfl)
  replace hf := kifp c_10 hf
  refine lv_iload_n hx hb d_M_must_8 rfl (lv_at hl 1 rfl) ?_
  refine lv_if_ne (tgt := 16) hx hb d_M_must_9 (by decide) (fun c_11 => ?_) (fun c_11 => ?_)
  · replace hf := kifn c_11 hf
    refine lv_iconst (v := 0) hx hb d_M_must_16 ic_0 ?_
    exact t_M_must_2 X hf hV (lv_sub hl [0] rfl)
  replace hf := kifp c_11 hf
  exact t_M_must_1 X hf hV (lv_sub hl [0] rfl)
set_option maxHeartbeats 2000000 in
set_option maxRecDepth 20000 in
theorem c_M_must {l : Launch} (D : kD) (h : Nat) (h_now : Nat) (h_kept : Nat) (h_aside : Nat) (h_found : Nat) (h_down : Nat) (h_along : Nat) (h_parts : Nat) (h_gone : Nat) (h_tape : Nat) (h_kinds : Nat) (h_items : Nat) (h_widths : Nat) (h_sizes : Nat) (h_numbers : Nat) (h_moved : Nat) (v_isKept : Int32) (v_taped : Int32) (v_begins : Int32) (v_ends : Int32) (v_sort : Int32) (v_value : Int32) (v_isWrong : Int32) (v_itemMany : Int32) (v_farmMany : Int32) (v_farmCells : Int64) (v_tape : Nat → Int32) (x1 : Int32) {out : Int32 × Int32 × Int32 × Int32 × Int32} (hf : f_M_must v_taped v_begins v_ends v_sort v_value v_isWrong v_tape x1 = some out) : kMv l D y_M_must b_M_must 2 none { frames := 2, cells := 0, slots := 0, locals := 43 } [.ref h, .int x1] (wd_M_must D h h_now h_kept h_aside h_found h_down h_along h_parts h_gone h_tape h_kinds h_items h_widths h_sizes h_numbers h_moved v_isKept v_taped v_begins v_ends v_sort v_value v_isWrong v_itemMany v_farmMany v_farmCells v_tape) (wd_M_must D h h_now h_kept h_aside h_found h_down h_along h_parts h_gone h_tape h_kinds h_items h_widths h_sizes h_numbers h_moved v_isKept v_taped out.1 out.2.1 out.2.2.1 out.2.2.2.1 out.2.2.2.2 v_itemMany v_farmMany v_farmCells v_tape) :=
  kMv_of (own := "MountainFarmsModel") (plainFor_of_name (by decide)) rfl rfl (fun p e s m args below meth c ls X hV hl => t_M_must X hf hV hl)
set_option maxHeartbeats 2000000 in
set_option maxRecDepth 20000 in
theorem t_M_number_2 {l : Launch} {p : Program} {e : Env} {s : State} {m : MethodId} {args : Array Value} {below : List Frame} {meth : Method} {c : Code} {D : kD} {wc0 : va_W} {h : Nat} {h_now : Nat} {h_kept : Nat} {h_aside : Nat} {h_found : Nat} {h_down : Nat} {h_along : Nat} {h_parts : Nat} {h_gone : Nat} {h_tape : Nat} {h_kinds : Nat} {h_items : Nat} {h_widths : Nat} {h_sizes : Nat} {h_numbers : Nat} {h_moved : Nat} {v_isKept : Int32} {v_taped : Int32} {v_begins : Int32} {v_ends : Int32} {v_sort : Int32} {v_value : Int32} {v_isWrong : Int32} {v_itemMany : Int32} {v_farmMany : Int32} {v_farmCells : Int64} {v_tape : Nat → Int32} {s1 : Int32} {x3 : Int32} {out : Int32 × Int32 × Int32 × Int32 × Int32 × Int32} (X : kX p m meth c s args D (va_A wc0 s.heap.size) b_M_number "MountainFarmsModel" 4 (some .int)) (hf : f_M_number_2 s1 x3 v_taped v_begins v_ends v_sort v_value v_isWrong v_tape = some out) {H : Heap} {locs : List Loc} (hV : kV D (va_A wc0 s.heap.size) s (wd_M_number D h h_now h_kept h_aside h_found h_down h_along h_parts h_gone h_tape h_kinds h_items h_widths h_sizes h_numbers h_moved v_isKept v_taped v_begins v_ends v_sort v_value v_isWrong v_itemMany v_farmMany v_farmCells v_tape) H locs) {ls : Array Slot} (hl : lv_has ls 4 [(3, .int x3)]) : W p l e { frames := 3, cells := 0, slots := 0, locals := 64 } s m args below meth c H locs 0 0 (MQ below (kQi D wc0 (wd_M_number D h h_now h_kept h_aside h_found h_down h_along h_parts h_gone h_tape h_kinds h_items h_widths h_sizes h_numbers h_moved v_isKept v_taped out.2.1 out.2.2.1 out.2.2.2.1 out.2.2.2.2.1 out.2.2.2.2.2 v_itemMany v_farmMany v_farmCells v_tape) s.heap.size out.1) args s 0 0 (va_A wc0 s.heap.size)) (F0 m 28 ls [.int s1, .ref h]) := by
  unfold f_M_number_2 at hf
  obtain ⟨hx, hb, -⟩ := id X
  obtain ⟨v_begins_15, v_ends_16, v_sort_17, v_value_18, v_isWrong_19, hc_20, hf⟩ := kb5_some hf
  refine k_cvv (w1 := (wd_M_must D h h_now h_kept h_aside h_found h_down h_along h_parts h_gone h_tape h_kinds h_items h_widths h_sizes h_numbers h_moved v_isKept v_taped v_begins_15 v_ends_16 v_sort_17 v_value_18 v_isWrong_19 v_itemMany v_farmMany v_farmCells v_tape)) (ws' := (wd_M_number D h h_now h_kept h_aside h_found h_down h_along h_parts h_gone h_tape h_kinds h_items h_widths h_sizes h_numbers h_moved v_isKept v_taped v_begins_15 v_ends_16 v_sort_17 v_value_18 v_isWrong_19 v_itemMany v_farmMany v_farmCells v_tape)) X hV hl.1 (c_M_must D h h_now h_kept h_aside h_found h_down h_along h_parts h_gone h_tape h_kinds h_items h_widths h_sizes h_numbers h_moved v_isKept v_taped v_begins v_ends v_sort v_value v_isWrong v_itemMany v_farmMany v_farmCells v_tape s1 hc_20) fk_M_must gw_1289 rfl 0 9 rfl rfl [0, 1] [some 0, some 1] rfl rfl ⟨rfl, rfl, rfl, rfl, rfl, rfl, trivial⟩ rfl rfl rfl d_M_number_28 (fun H locs hV => ?_)
  refine lv_iload_n hx hb d_M_number_31 rfl (lv_at hl 0 rfl) ?_
  have e_ := Option.some.inj hf
  subst e_
  exact k_iret X rfl hV rfl d_M_number_32
set_option maxHeartbeats 2000000 in
set_option maxRecDepth 20000 in
theorem t_M_number_1 {l : Launch} {p : Program} {e : Env} {s : State} {m : MethodId} {args : Array Value} {below : List Frame} {meth : Method} {c : Code} {D : kD} {wc0 : va_W} {h : Nat} {h_now : Nat} {h_kept : Nat} {h_aside : Nat} {h_found : Nat} {h_down : Nat} {h_along : Nat} {h_parts : Nat} {h_gone : Nat} {h_tape : Nat} {h_kinds : Nat} {h_items : Nat} {h_widths : Nat} {h_sizes : Nat} {h_numbers : Nat} {h_moved : Nat} {v_isKept : Int32} {v_taped : Int32} {v_begins : Int32} {v_ends : Int32} {v_sort : Int32} {v_value : Int32} {v_isWrong : Int32} {v_itemMany : Int32} {v_farmMany : Int32} {v_farmCells : Int64} {v_tape : Nat → Int32} {x3 : Int32} {out : Int32 × Int32 × Int32 × Int32 × Int32 × Int32} (X : kX p m meth c s args D (va_A wc0 s.heap.size) b_M_number "MountainFarmsModel" 4 (some .int)) (hf : f_M_number_1 x3 v_taped v_begins v_ends v_sort v_value v_isWrong v_tape = some out) {H : Heap} {locs : List Loc} (hV : kV D (va_A wc0 s.heap.size) s (wd_M_number D h h_now h_kept h_aside h_found h_down h_along h_parts h_gone h_tape h_kinds h_items h_widths h_sizes h_numbers h_moved v_isKept v_taped v_begins v_ends v_sort v_value v_isWrong v_itemMany v_farmMany v_farmCells v_tape) H locs) {ls : Array Slot} (hl : lv_has ls 4 [(3, .int x3)]) : W p l e { frames := 3, cells := 0, slots := 0, locals := 64 } s m args below meth c H locs 0 0 (MQ below (kQi D wc0 (wd_M_number D h h_now h_kept h_aside h_found h_down h_along h_parts h_gone h_tape h_kinds h_items h_widths h_sizes h_numbers h_moved v_isKept v_taped out.2.1 out.2.2.1 out.2.2.2.1 out.2.2.2.2.1 out.2.2.2.2.2 v_itemMany v_farmMany v_farmCells v_tape) s.heap.size out.1) args s 0 0 (va_A wc0 s.heap.size)) (F0 m 27 ls [.ref h]) := by
  unfold f_M_number_1 at hf
  obtain ⟨hx, hb, -⟩ := id X
  refine lv_iconst (v := 0) hx hb d_M_number_27 ic_0 ?_
  exact t_M_number_2 X hf hV (lv_sub hl [0] rfl)
set_option maxHeartbeats 2000000 in
set_option maxRecDepth 20000 in
theorem t_M_number {l : Launch} {p : Program} {e : Env} {s : State} {m : MethodId} {args : Array Value} {below : List Frame} {meth : Method} {c : Code} {D : kD} {wc0 : va_W} {h : Nat} {h_now : Nat} {h_kept : Nat} {h_aside : Nat} {h_found : Nat} {h_down : Nat} {h_along : Nat} {h_parts : Nat} {h_gone : Nat} {h_tape : Nat} {h_kinds : Nat} {h_items : Nat} {h_widths : Nat} {h_sizes : Nat} {h_numbers : Nat} {h_moved : Nat} {v_isKept : Int32} {v_taped : Int32} {v_begins : Int32} {v_ends : Int32} {v_sort : Int32} {v_value : Int32} {v_isWrong : Int32} {v_itemMany : Int32} {v_farmMany : Int32} {v_farmCells : Int64} {v_tape : Nat → Int32} {x1 : Int32} {x2 : Int32} {out : Int32 × Int32 × Int32 × Int32 × Int32 × Int32} (X : kX p m meth c s args D (va_A wc0 s.heap.size) b_M_number "MountainFarmsModel" 4 (some .int)) (hf : f_M_number v_taped v_begins v_ends v_sort v_value v_isWrong v_tape x1 x2 = some out) {H : Heap} {locs : List Loc} (hV : kV D (va_A wc0 s.heap.size) s (wd_M_number D h h_now h_kept h_aside h_found h_down h_along h_parts h_gone h_tape h_kinds h_items h_widths h_sizes h_numbers h_moved v_isKept v_taped v_begins v_ends v_sort v_value v_isWrong v_itemMany v_farmMany v_farmCells v_tape) H locs) {ls : Array Slot} (hl : lv_has ls 4 [(0, .ref h), (1, .int x1), (2, .int x2)]) : W p l e { frames := 3, cells := 0, slots := 0, locals := 64 } s m args below meth c H locs 0 0 (MQ below (kQi D wc0 (wd_M_number D h h_now h_kept h_aside h_found h_down h_along h_parts h_gone h_tape h_kinds h_items h_widths h_sizes h_numbers h_moved v_isKept v_taped out.2.1 out.2.2.1 out.2.2.2.1 out.2.2.2.2.1 out.2.2.2.2.2 v_itemMany v_farmMany v_farmCells v_tape) s.heap.size out.1) args s 0 0 (va_A wc0 s.heap.size)) (F0 m 0 ls []) := by
  unfold f_M_number at hf
  obtain ⟨hx, hb, -⟩ := id X
  refine lv_aload_n hx hb d_M_number_0 rfl (lv_at hl 0 rfl) ?_
  refine k_get X hV 0 9 14 rfl rfl rfl gw_901 rfl rfl d_M_number_1 ?_
  refine lv_istore_n (lv' := [(3, .int v_value), (0, .ref h), (1, .int x1), (2, .int x2)]) hx hb d_M_number_4 rfl hl (by decide) rfl (fun ls hl => ?_)
  refine lv_aload_n hx hb d_M_number_5 rfl (lv_at hl 1 rfl) ?_
  refine lv_aload_n hx hb d_M_number_6 rfl (lv_at hl 1 rfl) ?_
  refine k_get X hV 0 9 13 rfl rfl rfl gw_900 rfl rfl d_M_number_7 ?_
  refine lv_iconst (v := 2) hx hb d_M_number_10 ic_2 ?_
  refine lv_icmp_ne (tgt := 27) hx hb d_M_number_11 (by decide) (fun c_11 => ?_) (fun c_11 => ?_)
  · replace hf := kifn c_11 hf
    exact t_M_number_1 X hf hV (lv_sub hl [0] rfl)
  replace hf := kifp c_11 hf
  refine lv_iload_n hx hb d_M_number_14 rfl (lv_at hl 0 rfl) ?_
  refine lv_iload_n hx hb d_M_number_15 rfl (lv_at hl 2 rfl) ?_
  refine lv_iload_n hx hb d_M_number_16 rfl (lv_at hl 3 rfl) ?_
  obtain ⟨r_12, hc_13, hf⟩ := kb1_some hf
  refine k_csi (w1 := (wd_M_within D)) (r := r_12) (ws' := (wd_M_number D h h_now h_kept h_aside h_found h_down h_along h_parts h_gone h_tape h_kinds h_items h_widths h_sizes h_numbers h_moved v_isKept v_taped v_begins v_ends v_sort v_value v_isWrong v_itemMany v_farmMany v_farmCells v_tape)) X hV hl.1 (c_M_within D v_value x1 x2 hc_13) fk_M_within gw_970 rfl [] [none, none] rfl rfl ⟨rfl, rfl, trivial⟩ rfl rfl rfl d_M_number_17 (fun H locs hV => ?_)
  refine lv_if_eq (tgt := 27) hx hb d_M_number_20 (by decide) (fun c_14 => ?_) (fun c_14 => ?_)
  · replace hf := kifp c_14 hf
    exact t_M_number_1 X hf hV (lv_sub hl [0] rfl)
  replace hf := kifn c_14 hf
  refine lv_iconst (v := 1) hx hb d_M_number_23 ic_1 ?_
  refine lv_goto (tgt := 28) hx hb d_M_number_24 (by decide) ?_
  exact t_M_number_2 X hf hV (lv_sub hl [0] rfl)
set_option maxHeartbeats 2000000 in
set_option maxRecDepth 20000 in
theorem c_M_number {l : Launch} (D : kD) (h : Nat) (h_now : Nat) (h_kept : Nat) (h_aside : Nat) (h_found : Nat) (h_down : Nat) (h_along : Nat) (h_parts : Nat) (h_gone : Nat) (h_tape : Nat) (h_kinds : Nat) (h_items : Nat) (h_widths : Nat) (h_sizes : Nat) (h_numbers : Nat) (h_moved : Nat) (v_isKept : Int32) (v_taped : Int32) (v_begins : Int32) (v_ends : Int32) (v_sort : Int32) (v_value : Int32) (v_isWrong : Int32) (v_itemMany : Int32) (v_farmMany : Int32) (v_farmCells : Int64) (v_tape : Nat → Int32) (x1 : Int32) (x2 : Int32) {out : Int32 × Int32 × Int32 × Int32 × Int32 × Int32} (hf : f_M_number v_taped v_begins v_ends v_sort v_value v_isWrong v_tape x1 x2 = some out) : kMi l D y_M_number b_M_number 4 (some .int) { frames := 3, cells := 0, slots := 0, locals := 64 } [.ref h, .int x1, .int x2] (wd_M_number D h h_now h_kept h_aside h_found h_down h_along h_parts h_gone h_tape h_kinds h_items h_widths h_sizes h_numbers h_moved v_isKept v_taped v_begins v_ends v_sort v_value v_isWrong v_itemMany v_farmMany v_farmCells v_tape) (wd_M_number D h h_now h_kept h_aside h_found h_down h_along h_parts h_gone h_tape h_kinds h_items h_widths h_sizes h_numbers h_moved v_isKept v_taped out.2.1 out.2.2.1 out.2.2.2.1 out.2.2.2.2.1 out.2.2.2.2.2 v_itemMany v_farmMany v_farmCells v_tape) out.1 :=
  kMi_of (own := "MountainFarmsModel") (plainFor_of_name (by decide)) rfl rfl (fun p e s m args below meth c ls X hV hl => t_M_number X hf hV hl)
set_option maxHeartbeats 2000000 in
set_option maxRecDepth 20000 in
theorem t_M_item {l : Launch} {p : Program} {e : Env} {s : State} {m : MethodId} {args : Array Value} {below : List Frame} {meth : Method} {c : Code} {D : kD} {wc0 : va_W} {h : Nat} {h_now : Nat} {h_kept : Nat} {h_aside : Nat} {h_found : Nat} {h_down : Nat} {h_along : Nat} {h_parts : Nat} {h_gone : Nat} {h_tape : Nat} {h_kinds : Nat} {h_items : Nat} {h_widths : Nat} {h_sizes : Nat} {h_numbers : Nat} {h_moved : Nat} {v_isKept : Int32} {v_taped : Int32} {v_begins : Int32} {v_ends : Int32} {v_sort : Int32} {v_value : Int32} {v_isWrong : Int32} {v_itemMany : Int32} {v_farmMany : Int32} {v_farmCells : Int64} {v_items : Nat → Int32} {x1 : Int32} {x2 : Int32} {x3 : Int32} {x4 : Int32} {x5 : Int32} {x6 : Int32} {out : Int32 × (Nat → Int32)} (X : kX p m meth c s args D (va_A wc0 s.heap.size) b_M_item "MountainFarmsModel" 8 none) (hf : f_M_item v_itemMany v_items x1 x2 x3 x4 x5 x6 = some out) {H : Heap} {locs : List Loc} (hV : kV D (va_A wc0 s.heap.size) s (wd_M_item D h h_now h_kept h_aside h_found h_down h_along h_parts h_gone h_tape h_kinds h_items h_widths h_sizes h_numbers h_moved v_isKept v_taped v_begins v_ends v_sort v_value v_isWrong v_itemMany v_farmMany v_farmCells v_items) H locs) {ls : Array Slot} (hl : lv_has ls 8 [(0, .ref h), (1, .int x1), (2, .int x2), (3, .int x3), (4, .int x4), (5, .int x5), (6, .int x6)]) : W p l e { frames := 0, cells := 0, slots := 0, locals := 0 } s m args below meth c H locs 0 0 (MQ below (kQv D wc0 (wd_M_item D h h_now h_kept h_aside h_found h_down h_along h_parts h_gone h_tape h_kinds h_items h_widths h_sizes h_numbers h_moved v_isKept v_taped v_begins v_ends v_sort v_value v_isWrong out.1 v_farmMany v_farmCells out.2) s.heap.size) args s 0 0 (va_A wc0 s.heap.size)) (F0 m 0 ls []) := by
  unfold f_M_item at hf
  obtain ⟨hx, hb, -⟩ := id X
  refine lv_bipush (v := 6) hx hb d_M_item_0 bp_6 ?_
  refine lv_aload_n hx hb d_M_item_2 rfl (lv_at hl 0 rfl) ?_
  refine k_get X hV 0 9 18 rfl rfl rfl gw_905 rfl rfl d_M_item_3 ?_
  refine lv_imul hx hb d_M_item_6 ?_
  refine k_leti hf (fun x7_8 hf => ?_)
  refine lv_istore (lv' := [(7, .int x7_8), (0, .ref h), (1, .int x1), (2, .int x2), (3, .int x3), (4, .int x4), (5, .int x5), (6, .int x6)]) hx hb d_M_item_7 hl (by decide) rfl (fun ls hl => ?_)
  refine lv_aload_n hx hb d_M_item_9 rfl (lv_at hl 1 rfl) ?_
  refine k_get X hV 0 9 17 rfl rfl rfl gw_904 rfl rfl d_M_item_10 ?_
  refine lv_iload hx hb d_M_item_13 (lv_at hl 0 rfl) ?_
  refine lv_iload_n hx hb d_M_item_15 rfl (lv_at hl 2 rfl) ?_
  obtain ⟨h_9, hf⟩ := kidx_some hf
  refine k_iast (ws' := (wd_M_item D h h_now h_kept h_aside h_found h_down h_along h_parts h_gone h_tape h_kinds h_items h_widths h_sizes h_numbers h_moved v_isKept v_taped v_begins v_ends v_sort v_value v_isWrong v_itemMany v_farmMany v_farmCells (upd v_items x7_8.toNatClampNeg x1))) X hV 1 rfl h_9 rfl rfl d_M_item_16 (fun H locs hV => ?_)
  refine lv_aload_n hx hb d_M_item_17 rfl (lv_at hl 1 rfl) ?_
  refine k_get X hV 0 9 17 rfl rfl rfl gw_904 rfl rfl d_M_item_18 ?_
  refine lv_iload hx hb d_M_item_21 (lv_at hl 0 rfl) ?_
  refine lv_iconst (v := 1) hx hb d_M_item_23 ic_1 ?_
  refine lv_iadd hx hb d_M_item_24 ?_
  refine lv_iload_n hx hb d_M_item_25 rfl (lv_at hl 3 rfl) ?_
  obtain ⟨h_10, hf⟩ := kidx_some hf
  refine k_iast (ws' := (wd_M_item D h h_now h_kept h_aside h_found h_down h_along h_parts h_gone h_tape h_kinds h_items h_widths h_sizes h_numbers h_moved v_isKept v_taped v_begins v_ends v_sort v_value v_isWrong v_itemMany v_farmMany v_farmCells (upd (upd v_items x7_8.toNatClampNeg x1) (x7_8 + (1 : Int32)).toNatClampNeg x2))) X hV 1 rfl h_10 rfl rfl d_M_item_26 (fun H locs hV => ?_)
  refine lv_aload_n hx hb d_M_item_27 rfl (lv_at hl 1 rfl) ?_
  refine k_get X hV 0 9 17 rfl rfl rfl gw_904 rfl rfl d_M_item_28 ?_
  refine lv_iload hx hb d_M_item_31 (lv_at hl 0 rfl) ?_
  refine lv_iconst (v := 2) hx hb d_M_item_33 ic_2 ?_
  refine lv_iadd hx hb d_M_item_34 ?_
  refine lv_iload_n hx hb d_M_item_35 rfl (lv_at hl 4 rfl) ?_
  obtain ⟨h_11, hf⟩ := kidx_some hf
  refine k_iast (ws' := (wd_M_item D h h_now h_kept h_aside h_found h_down h_along h_parts h_gone h_tape h_kinds h_items h_widths h_sizes h_numbers h_moved v_isKept v_taped v_begins v_ends v_sort v_value v_isWrong v_itemMany v_farmMany v_farmCells (upd (upd (upd v_items x7_8.toNatClampNeg x1) (x7_8 + (1 : Int32)).toNatClampNeg x2) (x7_8 + (2 : Int32)).toNatClampNeg x3))) X hV 1 rfl h_11 rfl rfl d_M_item_36 (fun H locs hV => ?_)
  refine lv_aload_n hx hb d_M_item_37 rfl (lv_at hl 1 rfl) ?_
  refine k_get X hV 0 9 17 rfl rfl rfl gw_904 rfl rfl d_M_item_38 ?_
  refine lv_iload hx hb d_M_item_41 (lv_at hl 0 rfl) ?_
  refine lv_iconst (v := 3) hx hb d_M_item_43 ic_3 ?_
  refine lv_iadd hx hb d_M_item_44 ?_
  refine lv_iload hx hb d_M_item_45 (lv_at hl 5 rfl) ?_
  obtain ⟨h_12, hf⟩ := kidx_some hf
  refine k_iast (ws' := (wd_M_item D h h_now h_kept h_aside h_found h_down h_along h_parts h_gone h_tape h_kinds h_items h_widths h_sizes h_numbers h_moved v_isKept v_taped v_begins v_ends v_sort v_value v_isWrong v_itemMany v_farmMany v_farmCells (upd (upd (upd (upd v_items x7_8.toNatClampNeg x1) (x7_8 + (1 : Int32)).toNatClampNeg x2) (x7_8 + (2 : Int32)).toNatClampNeg x3) (x7_8 + (3 : Int32)).toNatClampNeg x4))) X hV 1 rfl h_12 rfl rfl d_M_item_47 (fun H locs hV => ?_)
  refine lv_aload_n hx hb d_M_item_48 rfl (lv_at hl 1 rfl) ?_
  refine k_get X hV 0 9 17 rfl rfl rfl gw_904 rfl rfl d_M_item_49 ?_
  refine lv_iload hx hb d_M_item_52 (lv_at hl 0 rfl) ?_
  refine lv_iconst (v := 4) hx hb d_M_item_54 ic_4 ?_
  refine lv_iadd hx hb d_M_item_55 ?_
  refine lv_iload hx hb d_M_item_56 (lv_at hl 6 rfl) ?_
  obtain ⟨h_13, hf⟩ := kidx_some hf
  refine k_iast (ws' := (wd_M_item D h h_now h_kept h_aside h_found h_down h_along h_parts h_gone h_tape h_kinds h_items h_widths h_sizes h_numbers h_moved v_isKept v_taped v_begins v_ends v_sort v_value v_isWrong v_itemMany v_farmMany v_farmCells (upd (upd (upd (upd (upd v_items x7_8.toNatClampNeg x1) (x7_8 + (1 : Int32)).toNatClampNeg x2) (x7_8 + (2 : Int32)).toNatClampNeg x3) (x7_8 + (3 : Int32)).toNatClampNeg x4) (x7_8 + (4 : Int32)).toNatClampNeg x5))) X hV 1 rfl h_13 rfl rfl d_M_item_58 (fun H locs hV => ?_)
  refine lv_aload_n hx hb d_M_item_59 rfl (lv_at hl 1 rfl) ?_
  refine k_get X hV 0 9 17 rfl rfl rfl gw_904 rfl rfl d_M_item_60 ?_
  refine lv_iload hx hb d_M_item_63 (lv_at hl 0 rfl) ?_
  refine lv_iconst (v := 5) hx hb d_M_item_65 ic_5 ?_
  refine lv_iadd hx hb d_M_item_66 ?_
  refine lv_iload hx hb d_M_item_67 (lv_at hl 7 rfl) ?_
  obtain ⟨h_14, hf⟩ := kidx_some hf
  refine k_iast (ws' := (wd_M_item D h h_now h_kept h_aside h_found h_down h_along h_parts h_gone h_tape h_kinds h_items h_widths h_sizes h_numbers h_moved v_isKept v_taped v_begins v_ends v_sort v_value v_isWrong v_itemMany v_farmMany v_farmCells (upd (upd (upd (upd (upd (upd v_items x7_8.toNatClampNeg x1) (x7_8 + (1 : Int32)).toNatClampNeg x2) (x7_8 + (2 : Int32)).toNatClampNeg x3) (x7_8 + (3 : Int32)).toNatClampNeg x4) (x7_8 + (4 : Int32)).toNatClampNeg x5) (x7_8 + (5 : Int32)).toNatClampNeg x6))) X hV 1 rfl h_14 rfl rfl d_M_item_69 (fun H locs hV => ?_)
  refine lv_aload_n hx hb d_M_item_70 rfl (lv_at hl 1 rfl) ?_
  refine lv_dup hx hb d_M_item_71 rfl ?_
  refine k_get X hV 0 9 18 rfl rfl rfl gw_905 rfl rfl d_M_item_72 ?_
  refine lv_iconst (v := 1) hx hb d_M_item_75 ic_1 ?_
  refine lv_iadd hx hb d_M_item_76 ?_
  refine k_putv (ty := .int) (ws' := (wd_M_item D h h_now h_kept h_aside h_found h_down h_along h_parts h_gone h_tape h_kinds h_items h_widths h_sizes h_numbers h_moved v_isKept v_taped v_begins v_ends v_sort v_value v_isWrong (v_itemMany + (1 : Int32)) v_farmMany v_farmCells (upd (upd (upd (upd (upd (upd v_items x7_8.toNatClampNeg x1) (x7_8 + (1 : Int32)).toNatClampNeg x2) (x7_8 + (2 : Int32)).toNatClampNeg x3) (x7_8 + (3 : Int32)).toNatClampNeg x4) (x7_8 + (4 : Int32)).toNatClampNeg x5) (x7_8 + (5 : Int32)).toNatClampNeg x6))) X hV 0 9 18 rfl rfl rfl gw_905 rfl rfl rfl rfl rfl rfl rfl d_M_item_77 (fun H locs hV => ?_)
  have e_ := Option.some.inj hf
  subst e_
  exact k_vret X rfl hV d_M_item_80
set_option maxHeartbeats 2000000 in
set_option maxRecDepth 20000 in
theorem c_M_item {l : Launch} (D : kD) (h : Nat) (h_now : Nat) (h_kept : Nat) (h_aside : Nat) (h_found : Nat) (h_down : Nat) (h_along : Nat) (h_parts : Nat) (h_gone : Nat) (h_tape : Nat) (h_kinds : Nat) (h_items : Nat) (h_widths : Nat) (h_sizes : Nat) (h_numbers : Nat) (h_moved : Nat) (v_isKept : Int32) (v_taped : Int32) (v_begins : Int32) (v_ends : Int32) (v_sort : Int32) (v_value : Int32) (v_isWrong : Int32) (v_itemMany : Int32) (v_farmMany : Int32) (v_farmCells : Int64) (v_items : Nat → Int32) (x1 : Int32) (x2 : Int32) (x3 : Int32) (x4 : Int32) (x5 : Int32) (x6 : Int32) {out : Int32 × (Nat → Int32)} (hf : f_M_item v_itemMany v_items x1 x2 x3 x4 x5 x6 = some out) : kMv l D y_M_item b_M_item 8 none { frames := 0, cells := 0, slots := 0, locals := 0 } [.ref h, .int x1, .int x2, .int x3, .int x4, .int x5, .int x6] (wd_M_item D h h_now h_kept h_aside h_found h_down h_along h_parts h_gone h_tape h_kinds h_items h_widths h_sizes h_numbers h_moved v_isKept v_taped v_begins v_ends v_sort v_value v_isWrong v_itemMany v_farmMany v_farmCells v_items) (wd_M_item D h h_now h_kept h_aside h_found h_down h_along h_parts h_gone h_tape h_kinds h_items h_widths h_sizes h_numbers h_moved v_isKept v_taped v_begins v_ends v_sort v_value v_isWrong out.1 v_farmMany v_farmCells out.2) :=
  kMv_of (own := "MountainFarmsModel") (plainFor_of_name (by decide)) rfl rfl (fun p e s m args below meth c ls X hV hl => t_M_item X hf hV hl)
set_option maxHeartbeats 2000000 in
set_option maxRecDepth 20000 in
theorem t_M_readFarm_5 {l : Launch} {p : Program} {e : Env} {s : State} {m : MethodId} {args : Array Value} {below : List Frame} {meth : Method} {c : Code} {D : kD} {wc0 : va_W} {h : Nat} {h_now : Nat} {h_kept : Nat} {h_aside : Nat} {h_found : Nat} {h_down : Nat} {h_along : Nat} {h_parts : Nat} {h_gone : Nat} {h_tape : Nat} {h_kinds : Nat} {h_items : Nat} {h_widths : Nat} {h_sizes : Nat} {h_numbers : Nat} {h_moved : Nat} {v_isKept : Int32} {v_taped : Int32} {v_begins : Int32} {v_ends : Int32} {v_sort : Int32} {v_value : Int32} {v_isWrong : Int32} {v_itemMany : Int32} {v_farmMany : Int32} {v_farmCells : Int64} {v_tape : Nat → Int32} {v_items : Nat → Int32} {x1 : Int32} {x2 : Int32} {x3 : Int32} {out : Int32 × Int32 × Int32 × Int32 × Int32 × Int32 × Int32 × Int64 × (Nat → Int32)} (X : kX p m meth c s args D (va_A wc0 s.heap.size) b_M_readFarm "MountainFarmsModel" 4 none) (hf : f_M_readFarm_5 x1 x2 x3 v_begins v_ends v_sort v_value v_isWrong v_itemMany v_farmMany v_farmCells v_items = some out) {H : Heap} {locs : List Loc} (hV : kV D (va_A wc0 s.heap.size) s (wd_M_readFarm D h h_now h_kept h_aside h_found h_down h_along h_parts h_gone h_tape h_kinds h_items h_widths h_sizes h_numbers h_moved v_isKept v_taped v_begins v_ends v_sort v_value v_isWrong v_itemMany v_farmMany v_farmCells v_tape v_items) H locs) {ls : Array Slot} (hl : lv_has ls 4 [(0, .ref h), (1, .int x1), (2, .int x2), (3, .int x3)]) : W p l e { frames := 5, cells := 0, slots := 0, locals := 108 } s m args below meth c H locs 0 0 (MQ below (kQv D wc0 (wd_M_readFarm D h h_now h_kept h_aside h_found h_down h_along h_parts h_gone h_tape h_kinds h_items h_widths h_sizes h_numbers h_moved v_isKept v_taped out.1 out.2.1 out.2.2.1 out.2.2.2.1 out.2.2.2.2.1 out.2.2.2.2.2.1 out.2.2.2.2.2.2.1 out.2.2.2.2.2.2.2.1 v_tape out.2.2.2.2.2.2.2.2) s.heap.size) args s 0 0 (va_A wc0 s.heap.size)) (F0 m 135 ls []) := by
  unfold f_M_readFarm_5 at hf
  obtain ⟨hx, hb, -⟩ := id X
  refine lv_aload_n hx hb d_M_readFarm_135 rfl (lv_at hl 0 rfl) ?_
  refine lv_iload_n hx hb d_M_readFarm_136 rfl (lv_at hl 1 rfl) ?_
  refine lv_iload_n hx hb d_M_readFarm_137 rfl (lv_at hl 2 rfl) ?_
  refine lv_iload_n hx hb d_M_readFarm_138 rfl (lv_at hl 3 rfl) ?_
  refine lv_iconst (v := 0) hx hb d_M_readFarm_139 ic_0 ?_
  refine lv_iconst (v := 0) hx hb d_M_readFarm_140 ic_0 ?_
  refine lv_iconst (v := 0) hx hb d_M_readFarm_141 ic_0 ?_
  obtain ⟨v_itemMany_92, v_items_93, hc_94, hf⟩ := kb2_some hf
  refine k_cvv (w1 := (wd_M_item D h h_now h_kept h_aside h_found h_down h_along h_parts h_gone h_tape h_kinds h_items h_widths h_sizes h_numbers h_moved v_isKept v_taped v_begins v_ends v_sort v_value v_isWrong v_itemMany_92 v_farmMany v_farmCells v_items_93)) (ws' := (wd_M_readFarm D h h_now h_kept h_aside h_found h_down h_along h_parts h_gone h_tape h_kinds h_items h_widths h_sizes h_numbers h_moved v_isKept v_taped v_begins v_ends v_sort v_value v_isWrong v_itemMany_92 v_farmMany v_farmCells v_tape v_items_93)) X hV hl.1 (c_M_item D h h_now h_kept h_aside h_found h_down h_along h_parts h_gone h_tape h_kinds h_items h_widths h_sizes h_numbers h_moved v_isKept v_taped v_begins v_ends v_sort v_value v_isWrong v_itemMany v_farmMany v_farmCells v_items x1 x2 x3 (0 : Int32) (0 : Int32) (0 : Int32) hc_94) fk_M_item gw_1299 rfl 0 9 rfl rfl [0, 2] [some 0, none, some 1] rfl rfl ⟨rfl, rfl, rfl, rfl, rfl, rfl, rfl, trivial⟩ rfl rfl rfl d_M_readFarm_142 (fun H locs hV => ?_)
  have e_ := Option.some.inj hf
  subst e_
  exact k_vret X rfl hV d_M_readFarm_145
set_option maxHeartbeats 2000000 in
set_option maxRecDepth 20000 in
theorem t_M_readFarm_4 {l : Launch} {p : Program} {e : Env} {s : State} {m : MethodId} {args : Array Value} {below : List Frame} {meth : Method} {c : Code} {D : kD} {wc0 : va_W} {h : Nat} {h_now : Nat} {h_kept : Nat} {h_aside : Nat} {h_found : Nat} {h_down : Nat} {h_along : Nat} {h_parts : Nat} {h_gone : Nat} {h_tape : Nat} {h_kinds : Nat} {h_items : Nat} {h_widths : Nat} {h_sizes : Nat} {h_numbers : Nat} {h_moved : Nat} {v_isKept : Int32} {v_taped : Int32} {v_begins : Int32} {v_ends : Int32} {v_sort : Int32} {v_value : Int32} {v_isWrong : Int32} {v_itemMany : Int32} {v_farmMany : Int32} {v_farmCells : Int64} {v_tape : Nat → Int32} {v_items : Nat → Int32} {s1 : Int64} {s2 : Int64} {x1 : Int32} {x2 : Int32} {out : Int32 × Int32 × Int32 × Int32 × Int32 × Int32 × Int32 × Int64 × (Nat → Int32)} (X : kX p m meth c s args D (va_A wc0 s.heap.size) b_M_readFarm "MountainFarmsModel" 4 none) (hf : f_M_readFarm_4 s1 s2 x1 x2 v_taped v_begins v_ends v_sort v_value v_isWrong v_itemMany v_farmMany v_farmCells v_tape v_items = some out) {H : Heap} {locs : List Loc} (hV : kV D (va_A wc0 s.heap.size) s (wd_M_readFarm D h h_now h_kept h_aside h_found h_down h_along h_parts h_gone h_tape h_kinds h_items h_widths h_sizes h_numbers h_moved v_isKept v_taped v_begins v_ends v_sort v_value v_isWrong v_itemMany v_farmMany v_farmCells v_tape v_items) H locs) {ls : Array Slot} (hl : lv_has ls 4 [(0, .ref h), (1, .int x1), (2, .int x2)]) : W p l e { frames := 5, cells := 0, slots := 0, locals := 108 } s m args below meth c H locs 0 0 (MQ below (kQv D wc0 (wd_M_readFarm D h h_now h_kept h_aside h_found h_down h_along h_parts h_gone h_tape h_kinds h_items h_widths h_sizes h_numbers h_moved v_isKept v_taped out.1 out.2.1 out.2.2.1 out.2.2.2.1 out.2.2.2.2.1 out.2.2.2.2.2.1 out.2.2.2.2.2.2.1 out.2.2.2.2.2.2.2.1 v_tape out.2.2.2.2.2.2.2.2) s.heap.size) args s 0 0 (va_A wc0 s.heap.size)) (F0 m 100 ls [.long s2, .long s1, .ref h]) := by
  unfold f_M_readFarm_4 at hf
  obtain ⟨hx, hb, -⟩ := id X
  refine lv_lor hx hb d_M_readFarm_100 ?_
  refine k_putv (ty := .long) (ws' := (wd_M_readFarm D h h_now h_kept h_aside h_found h_down h_along h_parts h_gone h_tape h_kinds h_items h_widths h_sizes h_numbers h_moved v_isKept v_taped v_begins v_ends v_sort v_value v_isWrong v_itemMany v_farmMany (s1 ||| s2) v_tape v_items)) X hV 0 9 20 rfl rfl rfl gw_907 rfl rfl rfl rfl rfl rfl rfl d_M_readFarm_101 (fun H locs hV => ?_)
  refine lv_iconst (v := 0) hx hb d_M_readFarm_104 ic_0 ?_
  refine lv_istore_n (lv' := [(3, .int (0 : Int32)), (0, .ref h), (1, .int x1), (2, .int x2)]) hx hb d_M_readFarm_105 rfl hl (by decide) rfl (fun ls hl => ?_)
  refine lv_aload_n hx hb d_M_readFarm_106 rfl (lv_at hl 1 rfl) ?_
  refine k_get X hV 0 9 15 rfl rfl rfl gw_902 rfl rfl d_M_readFarm_107 ?_
  refine lv_if_ne (tgt := 135) hx hb d_M_readFarm_110 (by decide) (fun c_75 => ?_) (fun c_75 => ?_)
  · replace hf := kifn c_75 hf
    exact t_M_readFarm_5 X hf hV (lv_sub hl [1, 2, 3, 0] rfl)
  replace hf := kifp c_75 hf
  refine lv_aload_n hx hb d_M_readFarm_113 rfl (lv_at hl 1 rfl) ?_
  refine k_ldcSw X 22 rfl rfl rfl d_M_readFarm_114 ?_
  obtain ⟨r_76, hc_77, hf⟩ := kb1_some hf
  refine k_cvi (w1 := (wd_M_isWord D h h_now h_kept h_aside h_found h_down h_along h_parts h_gone h_tape h_kinds h_items h_widths h_sizes h_numbers h_moved v_isKept v_taped v_begins v_ends v_sort v_value v_isWrong v_itemMany v_farmMany (s1 ||| s2) v_tape)) (r := r_76) (ws' := (wd_M_readFarm D h h_now h_kept h_aside h_found h_down h_along h_parts h_gone h_tape h_kinds h_items h_widths h_sizes h_numbers h_moved v_isKept v_taped v_begins v_ends v_sort v_value v_isWrong v_itemMany v_farmMany (s1 ||| s2) v_tape v_items)) X hV hl.1 (c_M_isWord D h h_now h_kept h_aside h_found h_down h_along h_parts h_gone h_tape h_kinds h_items h_widths h_sizes h_numbers h_moved v_isKept v_taped v_begins v_ends v_sort v_value v_isWrong v_itemMany v_farmMany (s1 ||| s2) v_tape 22 rfl hc_77) fk_M_isWord gw_1279 rfl 0 9 rfl rfl [0, 1] [some 0, some 1, none] rfl rfl ⟨rfl, rfl, rfl, rfl, rfl, rfl, rfl, trivial⟩ rfl rfl rfl d_M_readFarm_117 (fun H locs hV => ?_)
  refine lv_if_eq (tgt := 135) hx hb d_M_readFarm_120 (by decide) (fun c_78 => ?_) (fun c_78 => ?_)
  · replace hf := kifp c_78 hf
    exact t_M_readFarm_5 X hf hV (lv_sub hl [1, 2, 3, 0] rfl)
  replace hf := kifn c_78 hf
  refine lv_aload_n hx hb d_M_readFarm_123 rfl (lv_at hl 1 rfl) ?_
  refine lv_iconst (v := 1) hx hb d_M_readFarm_124 ic_1 ?_
  obtain ⟨v_begins_79, v_ends_80, v_sort_81, v_value_82, v_isWrong_83, hc_84, hf⟩ := kb5_some hf
  refine k_cvv (w1 := (wd_M_must D h h_now h_kept h_aside h_found h_down h_along h_parts h_gone h_tape h_kinds h_items h_widths h_sizes h_numbers h_moved v_isKept v_taped v_begins_79 v_ends_80 v_sort_81 v_value_82 v_isWrong_83 v_itemMany v_farmMany (s1 ||| s2) v_tape)) (ws' := (wd_M_readFarm D h h_now h_kept h_aside h_found h_down h_along h_parts h_gone h_tape h_kinds h_items h_widths h_sizes h_numbers h_moved v_isKept v_taped v_begins_79 v_ends_80 v_sort_81 v_value_82 v_isWrong_83 v_itemMany v_farmMany (s1 ||| s2) v_tape v_items)) X hV hl.1 (c_M_must D h h_now h_kept h_aside h_found h_down h_along h_parts h_gone h_tape h_kinds h_items h_widths h_sizes h_numbers h_moved v_isKept v_taped v_begins v_ends v_sort v_value v_isWrong v_itemMany v_farmMany (s1 ||| s2) v_tape (1 : Int32) hc_84) fk_M_must gw_1289 rfl 0 9 rfl rfl [0, 1] [some 0, some 1, none] rfl rfl ⟨rfl, rfl, rfl, rfl, rfl, rfl, rfl, trivial⟩ rfl rfl rfl d_M_readFarm_125 (fun H locs hV => ?_)
  refine lv_aload_n hx hb d_M_readFarm_128 rfl (lv_at hl 1 rfl) ?_
  refine lv_iconst (v := 0) hx hb d_M_readFarm_129 ic_0 ?_
  refine lv_iconst (v := 5) hx hb d_M_readFarm_130 ic_5 ?_
  obtain ⟨r_85, v_begins_86, v_ends_87, v_sort_88, v_value_89, v_isWrong_90, hc_91, hf⟩ := kb6_some hf
  refine k_cvi (w1 := (wd_M_number D h h_now h_kept h_aside h_found h_down h_along h_parts h_gone h_tape h_kinds h_items h_widths h_sizes h_numbers h_moved v_isKept v_taped v_begins_86 v_ends_87 v_sort_88 v_value_89 v_isWrong_90 v_itemMany v_farmMany (s1 ||| s2) v_tape)) (r := r_85) (ws' := (wd_M_readFarm D h h_now h_kept h_aside h_found h_down h_along h_parts h_gone h_tape h_kinds h_items h_widths h_sizes h_numbers h_moved v_isKept v_taped v_begins_86 v_ends_87 v_sort_88 v_value_89 v_isWrong_90 v_itemMany v_farmMany (s1 ||| s2) v_tape v_items)) X hV hl.1 (c_M_number D h h_now h_kept h_aside h_found h_down h_along h_parts h_gone h_tape h_kinds h_items h_widths h_sizes h_numbers h_moved v_isKept v_taped v_begins_79 v_ends_80 v_sort_81 v_value_82 v_isWrong_83 v_itemMany v_farmMany (s1 ||| s2) v_tape (0 : Int32) (5 : Int32) hc_91) fk_M_number gw_1295 rfl 0 9 rfl rfl [0, 1] [some 0, some 1, none] rfl rfl ⟨rfl, rfl, rfl, rfl, rfl, rfl, rfl, trivial⟩ rfl rfl rfl d_M_readFarm_131 (fun H locs hV => ?_)
  refine lv_istore_n (lv' := [(3, .int r_85), (0, .ref h), (1, .int x1), (2, .int x2)]) hx hb d_M_readFarm_134 rfl hl (by decide) rfl (fun ls hl => ?_)
  exact t_M_readFarm_5 X hf hV (lv_sub hl [1, 2, 3, 0] rfl)
set_option maxHeartbeats 2000000 in
set_option maxRecDepth 20000 in
theorem t_M_readFarm_3 {l : Launch} {p : Program} {e : Env} {s : State} {m : MethodId} {args : Array Value} {below : List Frame} {meth : Method} {c : Code} {D : kD} {wc0 : va_W} {h : Nat} {h_now : Nat} {h_kept : Nat} {h_aside : Nat} {h_found : Nat} {h_down : Nat} {h_along : Nat} {h_parts : Nat} {h_gone : Nat} {h_tape : Nat} {h_kinds : Nat} {h_items : Nat} {h_widths : Nat} {h_sizes : Nat} {h_numbers : Nat} {h_moved : Nat} {v_isKept : Int32} {v_taped : Int32} {v_begins : Int32} {v_ends : Int32} {v_sort : Int32} {v_value : Int32} {v_isWrong : Int32} {v_itemMany : Int32} {v_farmMany : Int32} {v_farmCells : Int64} {v_tape : Nat → Int32} {v_items : Nat → Int32} {s1 : Int32} {x1 : Int32} {x2 : Int32} {out : Int32 × Int32 × Int32 × Int32 × Int32 × Int32 × Int32 × Int64 × (Nat → Int32)} (X : kX p m meth c s args D (va_A wc0 s.heap.size) b_M_readFarm "MountainFarmsModel" 4 none) (hf : f_M_readFarm_3 s1 x1 x2 v_taped v_begins v_ends v_sort v_value v_isWrong v_itemMany v_farmMany v_farmCells v_tape v_items = some out) {H : Heap} {locs : List Loc} (hV : kV D (va_A wc0 s.heap.size) s (wd_M_readFarm D h h_now h_kept h_aside h_found h_down h_along h_parts h_gone h_tape h_kinds h_items h_widths h_sizes h_numbers h_moved v_isKept v_taped v_begins v_ends v_sort v_value v_isWrong v_itemMany v_farmMany v_farmCells v_tape v_items) H locs) {ls : Array Slot} (hl : lv_has ls 4 [(0, .ref h), (1, .int x1), (2, .int x2)]) : W p l e { frames := 5, cells := 0, slots := 0, locals := 108 } s m args below meth c H locs 0 0 (MQ below (kQv D wc0 (wd_M_readFarm D h h_now h_kept h_aside h_found h_down h_along h_parts h_gone h_tape h_kinds h_items h_widths h_sizes h_numbers h_moved v_isKept v_taped out.1 out.2.1 out.2.2.1 out.2.2.2.1 out.2.2.2.2.1 out.2.2.2.2.2.1 out.2.2.2.2.2.2.1 out.2.2.2.2.2.2.2.1 v_tape out.2.2.2.2.2.2.2.2) s.heap.size) args s 0 0 (va_A wc0 s.heap.size)) (F0 m 78 ls [.int s1, .ref h]) := by
  unfold f_M_readFarm_3 at hf
  obtain ⟨hx, hb, -⟩ := id X
  obtain ⟨v_begins_68, v_ends_69, v_sort_70, v_value_71, v_isWrong_72, hc_73, hf⟩ := kb5_some hf
  refine k_cvv (w1 := (wd_M_must D h h_now h_kept h_aside h_found h_down h_along h_parts h_gone h_tape h_kinds h_items h_widths h_sizes h_numbers h_moved v_isKept v_taped v_begins_68 v_ends_69 v_sort_70 v_value_71 v_isWrong_72 v_itemMany v_farmMany v_farmCells v_tape)) (ws' := (wd_M_readFarm D h h_now h_kept h_aside h_found h_down h_along h_parts h_gone h_tape h_kinds h_items h_widths h_sizes h_numbers h_moved v_isKept v_taped v_begins_68 v_ends_69 v_sort_70 v_value_71 v_isWrong_72 v_itemMany v_farmMany v_farmCells v_tape v_items)) X hV hl.1 (c_M_must D h h_now h_kept h_aside h_found h_down h_along h_parts h_gone h_tape h_kinds h_items h_widths h_sizes h_numbers h_moved v_isKept v_taped v_begins v_ends v_sort v_value v_isWrong v_itemMany v_farmMany v_farmCells v_tape s1 hc_73) fk_M_must gw_1289 rfl 0 9 rfl rfl [0, 1] [some 0, some 1, none] rfl rfl ⟨rfl, rfl, rfl, rfl, rfl, rfl, rfl, trivial⟩ rfl rfl rfl d_M_readFarm_78 (fun H locs hV => ?_)
  refine lv_aload_n hx hb d_M_readFarm_81 rfl (lv_at hl 0 rfl) ?_
  refine lv_dup hx hb d_M_readFarm_82 rfl ?_
  refine k_get X hV 0 9 20 rfl rfl rfl gw_907 rfl rfl d_M_readFarm_83 ?_
  refine lv_aload_n hx hb d_M_readFarm_86 rfl (lv_at hl 0 rfl) ?_
  refine k_get X hV 0 9 15 rfl rfl rfl gw_902 rfl rfl d_M_readFarm_87 ?_
  refine lv_if_eq (tgt := 97) hx hb d_M_readFarm_90 (by decide) (fun c_74 => ?_) (fun c_74 => ?_)
  · replace hf := kifp c_74 hf
    refine lv_lconst (v := 1) hx hb d_M_readFarm_97 lc_1 ?_
    refine lv_iload_n hx hb d_M_readFarm_98 rfl (lv_at hl 2 rfl) ?_
    refine lv_lshl hx hb d_M_readFarm_99 rfl ?_
    exact t_M_readFarm_4 X hf hV (lv_sub hl [0, 1, 2] rfl)
  replace hf := kifn c_74 hf
  refine lv_lconst (v := 0) hx hb d_M_readFarm_93 lc_0 ?_
  refine lv_goto (tgt := 100) hx hb d_M_readFarm_94 (by decide) ?_
  exact t_M_readFarm_4 X hf hV (lv_sub hl [0, 1, 2] rfl)
set_option maxHeartbeats 2000000 in
set_option maxRecDepth 20000 in
theorem t_M_readFarm_2 {l : Launch} {p : Program} {e : Env} {s : State} {m : MethodId} {args : Array Value} {below : List Frame} {meth : Method} {c : Code} {D : kD} {wc0 : va_W} {h : Nat} {h_now : Nat} {h_kept : Nat} {h_aside : Nat} {h_found : Nat} {h_down : Nat} {h_along : Nat} {h_parts : Nat} {h_gone : Nat} {h_tape : Nat} {h_kinds : Nat} {h_items : Nat} {h_widths : Nat} {h_sizes : Nat} {h_numbers : Nat} {h_moved : Nat} {v_isKept : Int32} {v_taped : Int32} {v_begins : Int32} {v_ends : Int32} {v_sort : Int32} {v_value : Int32} {v_isWrong : Int32} {v_itemMany : Int32} {v_farmMany : Int32} {v_farmCells : Int64} {v_tape : Nat → Int32} {v_items : Nat → Int32} {x1 : Int32} {x2 : Int32} {out : Int32 × Int32 × Int32 × Int32 × Int32 × Int32 × Int32 × Int64 × (Nat → Int32)} (X : kX p m meth c s args D (va_A wc0 s.heap.size) b_M_readFarm "MountainFarmsModel" 4 none) (hf : f_M_readFarm_2 x1 x2 v_taped v_begins v_ends v_sort v_value v_isWrong v_itemMany v_farmMany v_farmCells v_tape v_items = some out) {H : Heap} {locs : List Loc} (hV : kV D (va_A wc0 s.heap.size) s (wd_M_readFarm D h h_now h_kept h_aside h_found h_down h_along h_parts h_gone h_tape h_kinds h_items h_widths h_sizes h_numbers h_moved v_isKept v_taped v_begins v_ends v_sort v_value v_isWrong v_itemMany v_farmMany v_farmCells v_tape v_items) H locs) {ls : Array Slot} (hl : lv_has ls 4 [(0, .ref h), (1, .int x1), (2, .int x2)]) : W p l e { frames := 5, cells := 0, slots := 0, locals := 108 } s m args below meth c H locs 0 0 (MQ below (kQv D wc0 (wd_M_readFarm D h h_now h_kept h_aside h_found h_down h_along h_parts h_gone h_tape h_kinds h_items h_widths h_sizes h_numbers h_moved v_isKept v_taped out.1 out.2.1 out.2.2.1 out.2.2.2.1 out.2.2.2.2.1 out.2.2.2.2.2.1 out.2.2.2.2.2.2.1 out.2.2.2.2.2.2.2.1 v_tape out.2.2.2.2.2.2.2.2) s.heap.size) args s 0 0 (va_A wc0 s.heap.size)) (F0 m 77 ls [.ref h]) := by
  unfold f_M_readFarm_2 at hf
  obtain ⟨hx, hb, -⟩ := id X
  refine lv_iconst (v := 0) hx hb d_M_readFarm_77 ic_0 ?_
  exact t_M_readFarm_3 X hf hV (lv_sub hl [0, 1, 2] rfl)
set_option maxHeartbeats 2000000 in
set_option maxRecDepth 20000 in
theorem t_M_readFarm_1 {l : Launch} {p : Program} {e : Env} {s : State} {m : MethodId} {args : Array Value} {below : List Frame} {meth : Method} {c : Code} {D : kD} {wc0 : va_W} {h : Nat} {h_now : Nat} {h_kept : Nat} {h_aside : Nat} {h_found : Nat} {h_down : Nat} {h_along : Nat} {h_parts : Nat} {h_gone : Nat} {h_tape : Nat} {h_kinds : Nat} {h_items : Nat} {h_widths : Nat} {h_sizes : Nat} {h_numbers : Nat} {h_moved : Nat} {v_isKept : Int32} {v_taped : Int32} {v_begins : Int32} {v_ends : Int32} {v_sort : Int32} {v_value : Int32} {v_isWrong : Int32} {v_itemMany : Int32} {v_farmMany : Int32} {v_farmCells : Int64} {v_tape : Nat → Int32} {v_items : Nat → Int32} {s1 : Int32} {x1 : Int32} {out : Int32 × Int32 × Int32 × Int32 × Int32 × Int32 × Int32 × Int64 × (Nat → Int32)} (X : kX p m meth c s args D (va_A wc0 s.heap.size) b_M_readFarm "MountainFarmsModel" 4 none) (hf : f_M_readFarm_1 s1 x1 v_taped v_begins v_ends v_sort v_value v_isWrong v_itemMany v_farmMany v_farmCells v_tape v_items = some out) {H : Heap} {locs : List Loc} (hV : kV D (va_A wc0 s.heap.size) s (wd_M_readFarm D h h_now h_kept h_aside h_found h_down h_along h_parts h_gone h_tape h_kinds h_items h_widths h_sizes h_numbers h_moved v_isKept v_taped v_begins v_ends v_sort v_value v_isWrong v_itemMany v_farmMany v_farmCells v_tape v_items) H locs) {ls : Array Slot} (hl : lv_has ls 4 [(0, .ref h), (1, .int x1)]) : W p l e { frames := 5, cells := 0, slots := 0, locals := 108 } s m args below meth c H locs 0 0 (MQ below (kQv D wc0 (wd_M_readFarm D h h_now h_kept h_aside h_found h_down h_along h_parts h_gone h_tape h_kinds h_items h_widths h_sizes h_numbers h_moved v_isKept v_taped out.1 out.2.1 out.2.2.1 out.2.2.2.1 out.2.2.2.2.1 out.2.2.2.2.2.1 out.2.2.2.2.2.2.1 out.2.2.2.2.2.2.2.1 v_tape out.2.2.2.2.2.2.2.2) s.heap.size) args s 0 0 (va_A wc0 s.heap.size)) (F0 m 15 ls [.int s1, .ref h]) := by
  unfold f_M_readFarm_1 at hf
  obtain ⟨hx, hb, -⟩ := id X
  obtain ⟨v_begins_49, v_ends_50, v_sort_51, v_value_52, v_isWrong_53, hc_54, hf⟩ := kb5_some hf
  refine k_cvv (w1 := (wd_M_must D h h_now h_kept h_aside h_found h_down h_along h_parts h_gone h_tape h_kinds h_items h_widths h_sizes h_numbers h_moved v_isKept v_taped v_begins_49 v_ends_50 v_sort_51 v_value_52 v_isWrong_53 v_itemMany v_farmMany v_farmCells v_tape)) (ws' := (wd_M_readFarm D h h_now h_kept h_aside h_found h_down h_along h_parts h_gone h_tape h_kinds h_items h_widths h_sizes h_numbers h_moved v_isKept v_taped v_begins_49 v_ends_50 v_sort_51 v_value_52 v_isWrong_53 v_itemMany v_farmMany v_farmCells v_tape v_items)) X hV hl.1 (c_M_must D h h_now h_kept h_aside h_found h_down h_along h_parts h_gone h_tape h_kinds h_items h_widths h_sizes h_numbers h_moved v_isKept v_taped v_begins v_ends v_sort v_value v_isWrong v_itemMany v_farmMany v_farmCells v_tape s1 hc_54) fk_M_must gw_1289 rfl 0 9 rfl rfl [0, 1] [some 0, some 1, none] rfl rfl ⟨rfl, rfl, rfl, rfl, rfl, rfl, rfl, trivial⟩ rfl rfl rfl d_M_readFarm_15 (fun H locs hV => ?_)
  refine lv_aload_n hx hb d_M_readFarm_18 rfl (lv_at hl 0 rfl) ?_
  refine lv_dup hx hb d_M_readFarm_19 rfl ?_
  refine k_get X hV 0 9 19 rfl rfl rfl gw_906 rfl rfl d_M_readFarm_20 ?_
  refine lv_iconst (v := 1) hx hb d_M_readFarm_23 ic_1 ?_
  refine lv_iadd hx hb d_M_readFarm_24 ?_
  refine k_putv (ty := .int) (ws' := (wd_M_readFarm D h h_now h_kept h_aside h_found h_down h_along h_parts h_gone h_tape h_kinds h_items h_widths h_sizes h_numbers h_moved v_isKept v_taped v_begins_49 v_ends_50 v_sort_51 v_value_52 v_isWrong_53 v_itemMany (v_farmMany + (1 : Int32)) v_farmCells v_tape v_items)) X hV 0 9 19 rfl rfl rfl gw_906 rfl rfl rfl rfl rfl rfl rfl d_M_readFarm_25 (fun H locs hV => ?_)
  refine lv_aload_n hx hb d_M_readFarm_28 rfl (lv_at hl 0 rfl) ?_
  refine lv_aload_n hx hb d_M_readFarm_29 rfl (lv_at hl 0 rfl) ?_
  refine k_ldcSw X 21 rfl rfl rfl d_M_readFarm_30 ?_
  obtain ⟨r_55, hc_56, hf⟩ := kb1_some hf
  refine k_cvi (w1 := (wd_M_isWord D h h_now h_kept h_aside h_found h_down h_along h_parts h_gone h_tape h_kinds h_items h_widths h_sizes h_numbers h_moved v_isKept v_taped v_begins_49 v_ends_50 v_sort_51 v_value_52 v_isWrong_53 v_itemMany (v_farmMany + (1 : Int32)) v_farmCells v_tape)) (r := r_55) (ws' := (wd_M_readFarm D h h_now h_kept h_aside h_found h_down h_along h_parts h_gone h_tape h_kinds h_items h_widths h_sizes h_numbers h_moved v_isKept v_taped v_begins_49 v_ends_50 v_sort_51 v_value_52 v_isWrong_53 v_itemMany (v_farmMany + (1 : Int32)) v_farmCells v_tape v_items)) X hV hl.1 (c_M_isWord D h h_now h_kept h_aside h_found h_down h_along h_parts h_gone h_tape h_kinds h_items h_widths h_sizes h_numbers h_moved v_isKept v_taped v_begins_49 v_ends_50 v_sort_51 v_value_52 v_isWrong_53 v_itemMany (v_farmMany + (1 : Int32)) v_farmCells v_tape 21 rfl hc_56) fk_M_isWord gw_1279 rfl 0 9 rfl rfl [0, 1] [some 0, some 1, none] rfl rfl ⟨rfl, rfl, rfl, rfl, rfl, rfl, rfl, trivial⟩ rfl rfl rfl d_M_readFarm_33 (fun H locs hV => ?_)
  obtain ⟨v_begins_57, v_ends_58, v_sort_59, v_value_60, v_isWrong_61, hc_62, hf⟩ := kb5_some hf
  refine k_cvv (w1 := (wd_M_must D h h_now h_kept h_aside h_found h_down h_along h_parts h_gone h_tape h_kinds h_items h_widths h_sizes h_numbers h_moved v_isKept v_taped v_begins_57 v_ends_58 v_sort_59 v_value_60 v_isWrong_61 v_itemMany (v_farmMany + (1 : Int32)) v_farmCells v_tape)) (ws' := (wd_M_readFarm D h h_now h_kept h_aside h_found h_down h_along h_parts h_gone h_tape h_kinds h_items h_widths h_sizes h_numbers h_moved v_isKept v_taped v_begins_57 v_ends_58 v_sort_59 v_value_60 v_isWrong_61 v_itemMany (v_farmMany + (1 : Int32)) v_farmCells v_tape v_items)) X hV hl.1 (c_M_must D h h_now h_kept h_aside h_found h_down h_along h_parts h_gone h_tape h_kinds h_items h_widths h_sizes h_numbers h_moved v_isKept v_taped v_begins_49 v_ends_50 v_sort_51 v_value_52 v_isWrong_53 v_itemMany (v_farmMany + (1 : Int32)) v_farmCells v_tape r_55 hc_62) fk_M_must gw_1289 rfl 0 9 rfl rfl [0, 1] [some 0, some 1, none] rfl rfl ⟨rfl, rfl, rfl, rfl, rfl, rfl, rfl, trivial⟩ rfl rfl rfl d_M_readFarm_36 (fun H locs hV => ?_)
  refine lv_aload_n hx hb d_M_readFarm_39 rfl (lv_at hl 0 rfl) ?_
  refine k_get X hV 0 9 14 rfl rfl rfl gw_901 rfl rfl d_M_readFarm_40 ?_
  refine lv_istore_n (lv' := [(2, .int v_value_60), (0, .ref h), (1, .int x1)]) hx hb d_M_readFarm_43 rfl hl (by decide) rfl (fun ls hl => ?_)
  refine lv_aload_n hx hb d_M_readFarm_44 rfl (lv_at hl 1 rfl) ?_
  refine lv_aload_n hx hb d_M_readFarm_45 rfl (lv_at hl 1 rfl) ?_
  refine k_get X hV 0 9 13 rfl rfl rfl gw_900 rfl rfl d_M_readFarm_46 ?_
  refine lv_iconst (v := 2) hx hb d_M_readFarm_49 ic_2 ?_
  refine lv_icmp_ne (tgt := 77) hx hb d_M_readFarm_50 (by decide) (fun c_63 => ?_) (fun c_63 => ?_)
  · replace hf := kifn c_63 hf
    exact t_M_readFarm_2 X hf hV (lv_sub hl [1, 2, 0] rfl)
  replace hf := kifp c_63 hf
  refine lv_iload_n hx hb d_M_readFarm_53 rfl (lv_at hl 0 rfl) ?_
  obtain ⟨r_64, hc_65, hf⟩ := kb1_some hf
  refine k_csi (w1 := (wd_M_isCell D)) (r := r_64) (ws' := (wd_M_readFarm D h h_now h_kept h_aside h_found h_down h_along h_parts h_gone h_tape h_kinds h_items h_widths h_sizes h_numbers h_moved v_isKept v_taped v_begins_57 v_ends_58 v_sort_59 v_value_60 v_isWrong_61 v_itemMany (v_farmMany + (1 : Int32)) v_farmCells v_tape v_items)) X hV hl.1 (c_M_isCell D v_value_60 hc_65) fk_M_isCell gw_967 rfl [] [none, none, none] rfl rfl ⟨rfl, rfl, rfl, trivial⟩ rfl rfl rfl d_M_readFarm_54 (fun H locs hV => ?_)
  refine lv_if_eq (tgt := 77) hx hb d_M_readFarm_57 (by decide) (fun c_66 => ?_) (fun c_66 => ?_)
  · replace hf := kifp c_66 hf
    exact t_M_readFarm_2 X hf hV (lv_sub hl [1, 2, 0] rfl)
  replace hf := kifn c_66 hf
  refine lv_aload_n hx hb d_M_readFarm_60 rfl (lv_at hl 1 rfl) ?_
  refine k_get X hV 0 9 20 rfl rfl rfl gw_907 rfl rfl d_M_readFarm_61 ?_
  refine lv_iload_n hx hb d_M_readFarm_64 rfl (lv_at hl 0 rfl) ?_
  refine lv_lshr hx hb d_M_readFarm_65 rfl ?_
  refine lv_lconst (v := 1) hx hb d_M_readFarm_66 lc_1 ?_
  refine lv_land hx hb d_M_readFarm_67 ?_
  refine lv_lconst (v := 0) hx hb d_M_readFarm_68 lc_0 ?_
  refine W.lcmp hx hb d_M_readFarm_69 ?_
  refine lv_if_ne (tgt := 77) hx hb d_M_readFarm_70 (by decide) (fun c_67 => ?_) (fun c_67 => ?_)
  · replace hf := kifn c_67 hf
    exact t_M_readFarm_2 X hf hV (lv_sub hl [1, 2, 0] rfl)
  replace hf := kifp c_67 hf
  refine lv_iconst (v := 1) hx hb d_M_readFarm_73 ic_1 ?_
  refine lv_goto (tgt := 78) hx hb d_M_readFarm_74 (by decide) ?_
  exact t_M_readFarm_3 X hf hV (lv_sub hl [1, 2, 0] rfl)
set_option maxHeartbeats 2000000 in
set_option maxRecDepth 20000 in
theorem t_M_readFarm {l : Launch} {p : Program} {e : Env} {s : State} {m : MethodId} {args : Array Value} {below : List Frame} {meth : Method} {c : Code} {D : kD} {wc0 : va_W} {h : Nat} {h_now : Nat} {h_kept : Nat} {h_aside : Nat} {h_found : Nat} {h_down : Nat} {h_along : Nat} {h_parts : Nat} {h_gone : Nat} {h_tape : Nat} {h_kinds : Nat} {h_items : Nat} {h_widths : Nat} {h_sizes : Nat} {h_numbers : Nat} {h_moved : Nat} {v_isKept : Int32} {v_taped : Int32} {v_begins : Int32} {v_ends : Int32} {v_sort : Int32} {v_value : Int32} {v_isWrong : Int32} {v_itemMany : Int32} {v_farmMany : Int32} {v_farmCells : Int64} {v_tape : Nat → Int32} {v_items : Nat → Int32} {x1 : Int32} {out : Int32 × Int32 × Int32 × Int32 × Int32 × Int32 × Int32 × Int64 × (Nat → Int32)} (X : kX p m meth c s args D (va_A wc0 s.heap.size) b_M_readFarm "MountainFarmsModel" 4 none) (hf : f_M_readFarm v_taped v_begins v_ends v_sort v_value v_isWrong v_itemMany v_farmMany v_farmCells v_tape v_items x1 = some out) {H : Heap} {locs : List Loc} (hV : kV D (va_A wc0 s.heap.size) s (wd_M_readFarm D h h_now h_kept h_aside h_found h_down h_along h_parts h_gone h_tape h_kinds h_items h_widths h_sizes h_numbers h_moved v_isKept v_taped v_begins v_ends v_sort v_value v_isWrong v_itemMany v_farmMany v_farmCells v_tape v_items) H locs) {ls : Array Slot} (hl : lv_has ls 4 [(0, .ref h), (1, .int x1)]) : W p l e { frames := 5, cells := 0, slots := 0, locals := 108 } s m args below meth c H locs 0 0 (MQ below (kQv D wc0 (wd_M_readFarm D h h_now h_kept h_aside h_found h_down h_along h_parts h_gone h_tape h_kinds h_items h_widths h_sizes h_numbers h_moved v_isKept v_taped out.1 out.2.1 out.2.2.1 out.2.2.2.1 out.2.2.2.2.1 out.2.2.2.2.2.1 out.2.2.2.2.2.2.1 out.2.2.2.2.2.2.2.1 v_tape out.2.2.2.2.2.2.2.2) s.heap.size) args s 0 0 (va_A wc0 s.heap.size)) (F0 m 0 ls []) := by
  unfold f_M_readFarm at hf
  obtain ⟨hx, hb, -⟩ := id X
  refine lv_aload_n hx hb d_M_readFarm_0 rfl (lv_at hl 0 rfl) ?_
  refine lv_aload_n hx hb d_M_readFarm_1 rfl (lv_at hl 0 rfl) ?_
  refine k_get X hV 0 9 19 rfl rfl rfl gw_906 rfl rfl d_M_readFarm_2 ?_
  refine lv_bipush (v := 12) hx hb d_M_readFarm_5 bp_12 ?_
  refine lv_icmp_ge (tgt := 14) hx hb d_M_readFarm_7 (by decide) (fun c_48 => ?_) (fun c_48 => ?_)
  · replace hf := kifp c_48 hf
    refine lv_iconst (v := 0) hx hb d_M_readFarm_14 ic_0 ?_
    exact t_M_readFarm_1 X hf hV (lv_sub hl [0, 1] rfl)
  replace hf := kifn c_48 hf
  refine lv_iconst (v := 1) hx hb d_M_readFarm_10 ic_1 ?_
  refine lv_goto (tgt := 15) hx hb d_M_readFarm_11 (by decide) ?_
  exact t_M_readFarm_1 X hf hV (lv_sub hl [0, 1] rfl)
set_option maxHeartbeats 2000000 in
set_option maxRecDepth 20000 in
theorem c_M_readFarm {l : Launch} (D : kD) (h : Nat) (h_now : Nat) (h_kept : Nat) (h_aside : Nat) (h_found : Nat) (h_down : Nat) (h_along : Nat) (h_parts : Nat) (h_gone : Nat) (h_tape : Nat) (h_kinds : Nat) (h_items : Nat) (h_widths : Nat) (h_sizes : Nat) (h_numbers : Nat) (h_moved : Nat) (v_isKept : Int32) (v_taped : Int32) (v_begins : Int32) (v_ends : Int32) (v_sort : Int32) (v_value : Int32) (v_isWrong : Int32) (v_itemMany : Int32) (v_farmMany : Int32) (v_farmCells : Int64) (v_tape : Nat → Int32) (v_items : Nat → Int32) (x1 : Int32) {out : Int32 × Int32 × Int32 × Int32 × Int32 × Int32 × Int32 × Int64 × (Nat → Int32)} (hf : f_M_readFarm v_taped v_begins v_ends v_sort v_value v_isWrong v_itemMany v_farmMany v_farmCells v_tape v_items x1 = some out) : kMv l D y_M_readFarm b_M_readFarm 4 none { frames := 5, cells := 0, slots := 0, locals := 108 } [.ref h, .int x1] (wd_M_readFarm D h h_now h_kept h_aside h_found h_down h_along h_parts h_gone h_tape h_kinds h_items h_widths h_sizes h_numbers h_moved v_isKept v_taped v_begins v_ends v_sort v_value v_isWrong v_itemMany v_farmMany v_farmCells v_tape v_items) (wd_M_readFarm D h h_now h_kept h_aside h_found h_down h_along h_parts h_gone h_tape h_kinds h_items h_widths h_sizes h_numbers h_moved v_isKept v_taped out.1 out.2.1 out.2.2.1 out.2.2.2.1 out.2.2.2.2.1 out.2.2.2.2.2.1 out.2.2.2.2.2.2.1 out.2.2.2.2.2.2.2.1 v_tape out.2.2.2.2.2.2.2.2) :=
  kMv_of (own := "MountainFarmsModel") (plainFor_of_name (by decide)) rfl rfl (fun p e s m args below meth c ls X hV hl => t_M_readFarm X hf hV hl)
set_option maxHeartbeats 2000000 in
set_option maxRecDepth 20000 in
theorem t_M_readTenths {l : Launch} {p : Program} {e : Env} {s : State} {m : MethodId} {args : Array Value} {below : List Frame} {meth : Method} {c : Code} {D : kD} {wc0 : va_W} {h : Nat} {h_now : Nat} {h_kept : Nat} {h_aside : Nat} {h_found : Nat} {h_down : Nat} {h_along : Nat} {h_parts : Nat} {h_gone : Nat} {h_tape : Nat} {h_kinds : Nat} {h_items : Nat} {h_widths : Nat} {h_sizes : Nat} {h_numbers : Nat} {h_moved : Nat} {v_isKept : Int32} {v_taped : Int32} {v_begins : Int32} {v_ends : Int32} {v_sort : Int32} {v_value : Int32} {v_isWrong : Int32} {v_itemMany : Int32} {v_farmMany : Int32} {v_farmCells : Int64} {v_tape : Nat → Int32} {v_items : Nat → Int32} {x1 : Int32} {out : Int32 × Int32 × Int32 × Int32 × Int32 × Int32 × (Nat → Int32)} (X : kX p m meth c s args D (va_A wc0 s.heap.size) b_M_readTenths "MountainFarmsModel" 7 none) (hf : f_M_readTenths v_taped v_begins v_ends v_sort v_value v_isWrong v_itemMany v_tape v_items x1 = some out) {H : Heap} {locs : List Loc} (hV : kV D (va_A wc0 s.heap.size) s (wd_M_readTenths D h h_now h_kept h_aside h_found h_down h_along h_parts h_gone h_tape h_kinds h_items h_widths h_sizes h_numbers h_moved v_isKept v_taped v_begins v_ends v_sort v_value v_isWrong v_itemMany v_farmMany v_farmCells v_tape v_items) H locs) {ls : Array Slot} (hl : lv_has ls 7 [(0, .ref h), (1, .int x1)]) : W p l e { frames := 4, cells := 0, slots := 0, locals := 87 } s m args below meth c H locs 0 0 (MQ below (kQv D wc0 (wd_M_readTenths D h h_now h_kept h_aside h_found h_down h_along h_parts h_gone h_tape h_kinds h_items h_widths h_sizes h_numbers h_moved v_isKept v_taped out.1 out.2.1 out.2.2.1 out.2.2.2.1 out.2.2.2.2.1 out.2.2.2.2.2.1 v_farmMany v_farmCells v_tape out.2.2.2.2.2.2) s.heap.size) args s 0 0 (va_A wc0 s.heap.size)) (F0 m 0 ls []) := by
  unfold f_M_readTenths at hf
  obtain ⟨hx, hb, -⟩ := id X
  refine lv_aload_n hx hb d_M_readTenths_0 rfl (lv_at hl 0 rfl) ?_
  refine lv_iconst (v := 1) hx hb d_M_readTenths_1 ic_1 ?_
  obtain ⟨v_begins_45, v_ends_46, v_sort_47, v_value_48, v_isWrong_49, hc_50, hf⟩ := kb5_some hf
  refine k_cvv (w1 := (wd_M_must D h h_now h_kept h_aside h_found h_down h_along h_parts h_gone h_tape h_kinds h_items h_widths h_sizes h_numbers h_moved v_isKept v_taped v_begins_45 v_ends_46 v_sort_47 v_value_48 v_isWrong_49 v_itemMany v_farmMany v_farmCells v_tape)) (ws' := (wd_M_readTenths D h h_now h_kept h_aside h_found h_down h_along h_parts h_gone h_tape h_kinds h_items h_widths h_sizes h_numbers h_moved v_isKept v_taped v_begins_45 v_ends_46 v_sort_47 v_value_48 v_isWrong_49 v_itemMany v_farmMany v_farmCells v_tape v_items)) X hV hl.1 (c_M_must D h h_now h_kept h_aside h_found h_down h_along h_parts h_gone h_tape h_kinds h_items h_widths h_sizes h_numbers h_moved v_isKept v_taped v_begins v_ends v_sort v_value v_isWrong v_itemMany v_farmMany v_farmCells v_tape (1 : Int32) hc_50) fk_M_must gw_1289 rfl 0 9 rfl rfl [0, 1] [some 0, some 1, none] rfl rfl ⟨rfl, rfl, rfl, rfl, rfl, rfl, rfl, trivial⟩ rfl rfl rfl d_M_readTenths_2 (fun H locs hV => ?_)
  refine lv_aload_n hx hb d_M_readTenths_5 rfl (lv_at hl 0 rfl) ?_
  refine lv_iconst (v := 0) hx hb d_M_readTenths_6 ic_0 ?_
  refine lv_iconst (v := 3) hx hb d_M_readTenths_7 ic_3 ?_
  obtain ⟨r_51, v_begins_52, v_ends_53, v_sort_54, v_value_55, v_isWrong_56, hc_57, hf⟩ := kb6_some hf
  refine k_cvi (w1 := (wd_M_number D h h_now h_kept h_aside h_found h_down h_along h_parts h_gone h_tape h_kinds h_items h_widths h_sizes h_numbers h_moved v_isKept v_taped v_begins_52 v_ends_53 v_sort_54 v_value_55 v_isWrong_56 v_itemMany v_farmMany v_farmCells v_tape)) (r := r_51) (ws' := (wd_M_readTenths D h h_now h_kept h_aside h_found h_down h_along h_parts h_gone h_tape h_kinds h_items h_widths h_sizes h_numbers h_moved v_isKept v_taped v_begins_52 v_ends_53 v_sort_54 v_value_55 v_isWrong_56 v_itemMany v_farmMany v_farmCells v_tape v_items)) X hV hl.1 (c_M_number D h h_now h_kept h_aside h_found h_down h_along h_parts h_gone h_tape h_kinds h_items h_widths h_sizes h_numbers h_moved v_isKept v_taped v_begins_45 v_ends_46 v_sort_47 v_value_48 v_isWrong_49 v_itemMany v_farmMany v_farmCells v_tape (0 : Int32) (3 : Int32) hc_57) fk_M_number gw_1295 rfl 0 9 rfl rfl [0, 1] [some 0, some 1, none] rfl rfl ⟨rfl, rfl, rfl, rfl, rfl, rfl, rfl, trivial⟩ rfl rfl rfl d_M_readTenths_8 (fun H locs hV => ?_)
  refine lv_istore_n (lv' := [(2, .int r_51), (0, .ref h), (1, .int x1)]) hx hb d_M_readTenths_11 rfl hl (by decide) rfl (fun ls hl => ?_)
  refine lv_aload_n hx hb d_M_readTenths_12 rfl (lv_at hl 1 rfl) ?_
  refine lv_iconst (v := 0) hx hb d_M_readTenths_13 ic_0 ?_
  refine lv_bipush (v := 10) hx hb d_M_readTenths_14 bp_10 ?_
  obtain ⟨r_58, v_begins_59, v_ends_60, v_sort_61, v_value_62, v_isWrong_63, hc_64, hf⟩ := kb6_some hf
  refine k_cvi (w1 := (wd_M_number D h h_now h_kept h_aside h_found h_down h_along h_parts h_gone h_tape h_kinds h_items h_widths h_sizes h_numbers h_moved v_isKept v_taped v_begins_59 v_ends_60 v_sort_61 v_value_62 v_isWrong_63 v_itemMany v_farmMany v_farmCells v_tape)) (r := r_58) (ws' := (wd_M_readTenths D h h_now h_kept h_aside h_found h_down h_along h_parts h_gone h_tape h_kinds h_items h_widths h_sizes h_numbers h_moved v_isKept v_taped v_begins_59 v_ends_60 v_sort_61 v_value_62 v_isWrong_63 v_itemMany v_farmMany v_farmCells v_tape v_items)) X hV hl.1 (c_M_number D h h_now h_kept h_aside h_found h_down h_along h_parts h_gone h_tape h_kinds h_items h_widths h_sizes h_numbers h_moved v_isKept v_taped v_begins_52 v_ends_53 v_sort_54 v_value_55 v_isWrong_56 v_itemMany v_farmMany v_farmCells v_tape (0 : Int32) (10 : Int32) hc_64) fk_M_number gw_1295 rfl 0 9 rfl rfl [0, 1] [some 0, some 1, none] rfl rfl ⟨rfl, rfl, rfl, rfl, rfl, rfl, rfl, trivial⟩ rfl rfl rfl d_M_readTenths_16 (fun H locs hV => ?_)
  refine lv_istore_n (lv' := [(3, .int r_58), (2, .int r_51), (0, .ref h), (1, .int x1)]) hx hb d_M_readTenths_19 rfl hl (by decide) rfl (fun ls hl => ?_)
  refine lv_aload_n hx hb d_M_readTenths_20 rfl (lv_at hl 2 rfl) ?_
  refine lv_iconst (v := 0) hx hb d_M_readTenths_21 ic_0 ?_
  refine lv_bipush (v := 10) hx hb d_M_readTenths_22 bp_10 ?_
  refine lv_iload_n hx hb d_M_readTenths_24 rfl (lv_at hl 0 rfl) ?_
  refine lv_isub hx hb d_M_readTenths_25 ?_
  obtain ⟨r_65, v_begins_66, v_ends_67, v_sort_68, v_value_69, v_isWrong_70, hc_71, hf⟩ := kb6_some hf
  refine k_cvi (w1 := (wd_M_number D h h_now h_kept h_aside h_found h_down h_along h_parts h_gone h_tape h_kinds h_items h_widths h_sizes h_numbers h_moved v_isKept v_taped v_begins_66 v_ends_67 v_sort_68 v_value_69 v_isWrong_70 v_itemMany v_farmMany v_farmCells v_tape)) (r := r_65) (ws' := (wd_M_readTenths D h h_now h_kept h_aside h_found h_down h_along h_parts h_gone h_tape h_kinds h_items h_widths h_sizes h_numbers h_moved v_isKept v_taped v_begins_66 v_ends_67 v_sort_68 v_value_69 v_isWrong_70 v_itemMany v_farmMany v_farmCells v_tape v_items)) X hV hl.1 (c_M_number D h h_now h_kept h_aside h_found h_down h_along h_parts h_gone h_tape h_kinds h_items h_widths h_sizes h_numbers h_moved v_isKept v_taped v_begins_59 v_ends_60 v_sort_61 v_value_62 v_isWrong_63 v_itemMany v_farmMany v_farmCells v_tape (0 : Int32) ((10 : Int32) - r_58) hc_71) fk_M_number gw_1295 rfl 0 9 rfl rfl [0, 1] [some 0, some 1, none] rfl rfl ⟨rfl, rfl, rfl, rfl, rfl, rfl, rfl, trivial⟩ rfl rfl rfl d_M_readTenths_26 (fun H locs hV => ?_)
  refine lv_istore (lv' := [(4, .int r_65), (3, .int r_58), (2, .int r_51), (0, .ref h), (1, .int x1)]) hx hb d_M_readTenths_29 hl (by decide) rfl (fun ls hl => ?_)
  refine lv_aload_n hx hb d_M_readTenths_31 rfl (lv_at hl 3 rfl) ?_
  refine lv_iconst (v := 0) hx hb d_M_readTenths_32 ic_0 ?_
  refine lv_bipush (v := 10) hx hb d_M_readTenths_33 bp_10 ?_
  refine lv_iload_n hx hb d_M_readTenths_35 rfl (lv_at hl 1 rfl) ?_
  refine lv_isub hx hb d_M_readTenths_36 ?_
  refine lv_iload hx hb d_M_readTenths_37 (lv_at hl 0 rfl) ?_
  refine lv_isub hx hb d_M_readTenths_39 ?_
  obtain ⟨r_72, v_begins_73, v_ends_74, v_sort_75, v_value_76, v_isWrong_77, hc_78, hf⟩ := kb6_some hf
  refine k_cvi (w1 := (wd_M_number D h h_now h_kept h_aside h_found h_down h_along h_parts h_gone h_tape h_kinds h_items h_widths h_sizes h_numbers h_moved v_isKept v_taped v_begins_73 v_ends_74 v_sort_75 v_value_76 v_isWrong_77 v_itemMany v_farmMany v_farmCells v_tape)) (r := r_72) (ws' := (wd_M_readTenths D h h_now h_kept h_aside h_found h_down h_along h_parts h_gone h_tape h_kinds h_items h_widths h_sizes h_numbers h_moved v_isKept v_taped v_begins_73 v_ends_74 v_sort_75 v_value_76 v_isWrong_77 v_itemMany v_farmMany v_farmCells v_tape v_items)) X hV hl.1 (c_M_number D h h_now h_kept h_aside h_found h_down h_along h_parts h_gone h_tape h_kinds h_items h_widths h_sizes h_numbers h_moved v_isKept v_taped v_begins_66 v_ends_67 v_sort_68 v_value_69 v_isWrong_70 v_itemMany v_farmMany v_farmCells v_tape (0 : Int32) (((10 : Int32) - r_58) - r_65) hc_78) fk_M_number gw_1295 rfl 0 9 rfl rfl [0, 1] [some 0, some 1, none] rfl rfl ⟨rfl, rfl, rfl, rfl, rfl, rfl, rfl, trivial⟩ rfl rfl rfl d_M_readTenths_40 (fun H locs hV => ?_)
  refine lv_istore (lv' := [(5, .int r_72), (4, .int r_65), (3, .int r_58), (2, .int r_51), (0, .ref h), (1, .int x1)]) hx hb d_M_readTenths_43 hl (by decide) rfl (fun ls hl => ?_)
  refine lv_aload_n hx hb d_M_readTenths_45 rfl (lv_at hl 4 rfl) ?_
  refine lv_bipush (v := 10) hx hb d_M_readTenths_46 bp_10 ?_
  refine lv_iload_n hx hb d_M_readTenths_48 rfl (lv_at hl 2 rfl) ?_
  refine lv_isub hx hb d_M_readTenths_49 ?_
  refine lv_iload hx hb d_M_readTenths_50 (lv_at hl 1 rfl) ?_
  refine lv_isub hx hb d_M_readTenths_52 ?_
  refine lv_iload hx hb d_M_readTenths_53 (lv_at hl 0 rfl) ?_
  refine lv_isub hx hb d_M_readTenths_55 ?_
  refine lv_bipush (v := 10) hx hb d_M_readTenths_56 bp_10 ?_
  refine lv_iload_n hx hb d_M_readTenths_58 rfl (lv_at hl 2 rfl) ?_
  refine lv_isub hx hb d_M_readTenths_59 ?_
  refine lv_iload hx hb d_M_readTenths_60 (lv_at hl 1 rfl) ?_
  refine lv_isub hx hb d_M_readTenths_62 ?_
  refine lv_iload hx hb d_M_readTenths_63 (lv_at hl 0 rfl) ?_
  refine lv_isub hx hb d_M_readTenths_65 ?_
  obtain ⟨r_79, v_begins_80, v_ends_81, v_sort_82, v_value_83, v_isWrong_84, hc_85, hf⟩ := kb6_some hf
  refine k_cvi (w1 := (wd_M_number D h h_now h_kept h_aside h_found h_down h_along h_parts h_gone h_tape h_kinds h_items h_widths h_sizes h_numbers h_moved v_isKept v_taped v_begins_80 v_ends_81 v_sort_82 v_value_83 v_isWrong_84 v_itemMany v_farmMany v_farmCells v_tape)) (r := r_79) (ws' := (wd_M_readTenths D h h_now h_kept h_aside h_found h_down h_along h_parts h_gone h_tape h_kinds h_items h_widths h_sizes h_numbers h_moved v_isKept v_taped v_begins_80 v_ends_81 v_sort_82 v_value_83 v_isWrong_84 v_itemMany v_farmMany v_farmCells v_tape v_items)) X hV hl.1 (c_M_number D h h_now h_kept h_aside h_found h_down h_along h_parts h_gone h_tape h_kinds h_items h_widths h_sizes h_numbers h_moved v_isKept v_taped v_begins_73 v_ends_74 v_sort_75 v_value_76 v_isWrong_77 v_itemMany v_farmMany v_farmCells v_tape ((((10 : Int32) - r_58) - r_65) - r_72) ((((10 : Int32) - r_58) - r_65) - r_72) hc_85) fk_M_number gw_1295 rfl 0 9 rfl rfl [0, 1] [some 0, some 1, none] rfl rfl ⟨rfl, rfl, rfl, rfl, rfl, rfl, rfl, trivial⟩ rfl rfl rfl d_M_readTenths_66 (fun H locs hV => ?_)
  refine lv_istore (lv' := [(6, .int r_79), (5, .int r_72), (4, .int r_65), (3, .int r_58), (2, .int r_51), (0, .ref h), (1, .int x1)]) hx hb d_M_readTenths_69 hl (by decide) rfl (fun ls hl => ?_)
  refine lv_aload_n hx hb d_M_readTenths_71 rfl (lv_at hl 5 rfl) ?_
  refine lv_iload_n hx hb d_M_readTenths_72 rfl (lv_at hl 6 rfl) ?_
  refine lv_iload_n hx hb d_M_readTenths_73 rfl (lv_at hl 4 rfl) ?_
  refine lv_iload_n hx hb d_M_readTenths_74 rfl (lv_at hl 3 rfl) ?_
  refine lv_iload hx hb d_M_readTenths_75 (lv_at hl 2 rfl) ?_
  refine lv_iload hx hb d_M_readTenths_77 (lv_at hl 1 rfl) ?_
  refine lv_iload hx hb d_M_readTenths_79 (lv_at hl 0 rfl) ?_
  obtain ⟨v_itemMany_86, v_items_87, hc_88, hf⟩ := kb2_some hf
  refine k_cvv (w1 := (wd_M_item D h h_now h_kept h_aside h_found h_down h_along h_parts h_gone h_tape h_kinds h_items h_widths h_sizes h_numbers h_moved v_isKept v_taped v_begins_80 v_ends_81 v_sort_82 v_value_83 v_isWrong_84 v_itemMany_86 v_farmMany v_farmCells v_items_87)) (ws' := (wd_M_readTenths D h h_now h_kept h_aside h_found h_down h_along h_parts h_gone h_tape h_kinds h_items h_widths h_sizes h_numbers h_moved v_isKept v_taped v_begins_80 v_ends_81 v_sort_82 v_value_83 v_isWrong_84 v_itemMany_86 v_farmMany v_farmCells v_tape v_items_87)) X hV hl.1 (c_M_item D h h_now h_kept h_aside h_found h_down h_along h_parts h_gone h_tape h_kinds h_items h_widths h_sizes h_numbers h_moved v_isKept v_taped v_begins_80 v_ends_81 v_sort_82 v_value_83 v_isWrong_84 v_itemMany v_farmMany v_farmCells v_items x1 r_51 r_58 r_65 r_72 r_79 hc_88) fk_M_item gw_1299 rfl 0 9 rfl rfl [0, 2] [some 0, none, some 1] rfl rfl ⟨rfl, rfl, rfl, rfl, rfl, rfl, rfl, trivial⟩ rfl rfl rfl d_M_readTenths_81 (fun H locs hV => ?_)
  have e_ := Option.some.inj hf
  subst e_
  exact k_vret X rfl hV d_M_readTenths_84
set_option maxHeartbeats 2000000 in
set_option maxRecDepth 20000 in
theorem c_M_readTenths {l : Launch} (D : kD) (h : Nat) (h_now : Nat) (h_kept : Nat) (h_aside : Nat) (h_found : Nat) (h_down : Nat) (h_along : Nat) (h_parts : Nat) (h_gone : Nat) (h_tape : Nat) (h_kinds : Nat) (h_items : Nat) (h_widths : Nat) (h_sizes : Nat) (h_numbers : Nat) (h_moved : Nat) (v_isKept : Int32) (v_taped : Int32) (v_begins : Int32) (v_ends : Int32) (v_sort : Int32) (v_value : Int32) (v_isWrong : Int32) (v_itemMany : Int32) (v_farmMany : Int32) (v_farmCells : Int64) (v_tape : Nat → Int32) (v_items : Nat → Int32) (x1 : Int32) {out : Int32 × Int32 × Int32 × Int32 × Int32 × Int32 × (Nat → Int32)} (hf : f_M_readTenths v_taped v_begins v_ends v_sort v_value v_isWrong v_itemMany v_tape v_items x1 = some out) : kMv l D y_M_readTenths b_M_readTenths 7 none { frames := 4, cells := 0, slots := 0, locals := 87 } [.ref h, .int x1] (wd_M_readTenths D h h_now h_kept h_aside h_found h_down h_along h_parts h_gone h_tape h_kinds h_items h_widths h_sizes h_numbers h_moved v_isKept v_taped v_begins v_ends v_sort v_value v_isWrong v_itemMany v_farmMany v_farmCells v_tape v_items) (wd_M_readTenths D h h_now h_kept h_aside h_found h_down h_along h_parts h_gone h_tape h_kinds h_items h_widths h_sizes h_numbers h_moved v_isKept v_taped out.1 out.2.1 out.2.2.1 out.2.2.2.1 out.2.2.2.2.1 out.2.2.2.2.2.1 v_farmMany v_farmCells v_tape out.2.2.2.2.2.2) :=
  kMv_of (own := "MountainFarmsModel") (plainFor_of_name (by decide)) rfl rfl (fun p e s m args below meth c ls X hV hl => t_M_readTenths X hf hV hl)
set_option maxHeartbeats 2000000 in
set_option maxRecDepth 20000 in
theorem t_M_readSees_4 {l : Launch} {p : Program} {e : Env} {s : State} {m : MethodId} {args : Array Value} {below : List Frame} {meth : Method} {c : Code} {D : kD} {wc0 : va_W} {h : Nat} {h_now : Nat} {h_kept : Nat} {h_aside : Nat} {h_found : Nat} {h_down : Nat} {h_along : Nat} {h_parts : Nat} {h_gone : Nat} {h_tape : Nat} {h_kinds : Nat} {h_items : Nat} {h_widths : Nat} {h_sizes : Nat} {h_numbers : Nat} {h_moved : Nat} {v_isKept : Int32} {v_taped : Int32} {v_begins : Int32} {v_ends : Int32} {v_sort : Int32} {v_value : Int32} {v_isWrong : Int32} {v_itemMany : Int32} {v_farmMany : Int32} {v_farmCells : Int64} {v_tape : Nat → Int32} {v_items : Nat → Int32} {x1 : Int32} {x2 : Int32} {out : Int32 × Int32 × Int32 × Int32 × Int32 × Int32 × (Nat → Int32)} (X : kX p m meth c s args D (va_A wc0 s.heap.size) b_M_readSees "MountainFarmsModel" 4 none) (hf : f_M_readSees_4 x1 x2 v_begins v_ends v_sort v_value v_isWrong v_itemMany v_items = some out) {H : Heap} {locs : List Loc} (hV : kV D (va_A wc0 s.heap.size) s (wd_M_readSees D h h_now h_kept h_aside h_found h_down h_along h_parts h_gone h_tape h_kinds h_items h_widths h_sizes h_numbers h_moved v_isKept v_taped v_begins v_ends v_sort v_value v_isWrong v_itemMany v_farmMany v_farmCells v_tape v_items) H locs) {ls : Array Slot} (hl : lv_has ls 4 [(0, .ref h), (1, .int x1), (2, .int x2)]) : W p l e { frames := 4, cells := 0, slots := 0, locals := 87 } s m args below meth c H locs 0 0 (MQ below (kQv D wc0 (wd_M_readSees D h h_now h_kept h_aside h_found h_down h_along h_parts h_gone h_tape h_kinds h_items h_widths h_sizes h_numbers h_moved v_isKept v_taped out.1 out.2.1 out.2.2.1 out.2.2.2.1 out.2.2.2.2.1 out.2.2.2.2.2.1 v_farmMany v_farmCells v_tape out.2.2.2.2.2.2) s.heap.size) args s 0 0 (va_A wc0 s.heap.size)) (F0 m 76 ls []) := by
  unfold f_M_readSees_4 at hf
  obtain ⟨hx, hb, -⟩ := id X
  refine lv_aload_n hx hb d_M_readSees_76 rfl (lv_at hl 0 rfl) ?_
  refine lv_bipush (v := 16) hx hb d_M_readSees_77 bp_16 ?_
  refine lv_iload_n hx hb d_M_readSees_79 rfl (lv_at hl 1 rfl) ?_
  refine lv_iload_n hx hb d_M_readSees_80 rfl (lv_at hl 2 rfl) ?_
  refine lv_iconst (v := 0) hx hb d_M_readSees_81 ic_0 ?_
  refine lv_iconst (v := 0) hx hb d_M_readSees_82 ic_0 ?_
  refine lv_iconst (v := 0) hx hb d_M_readSees_83 ic_0 ?_
  obtain ⟨v_itemMany_46, v_items_47, hc_48, hf⟩ := kb2_some hf
  refine k_cvv (w1 := (wd_M_item D h h_now h_kept h_aside h_found h_down h_along h_parts h_gone h_tape h_kinds h_items h_widths h_sizes h_numbers h_moved v_isKept v_taped v_begins v_ends v_sort v_value v_isWrong v_itemMany_46 v_farmMany v_farmCells v_items_47)) (ws' := (wd_M_readSees D h h_now h_kept h_aside h_found h_down h_along h_parts h_gone h_tape h_kinds h_items h_widths h_sizes h_numbers h_moved v_isKept v_taped v_begins v_ends v_sort v_value v_isWrong v_itemMany_46 v_farmMany v_farmCells v_tape v_items_47)) X hV hl.1 (c_M_item D h h_now h_kept h_aside h_found h_down h_along h_parts h_gone h_tape h_kinds h_items h_widths h_sizes h_numbers h_moved v_isKept v_taped v_begins v_ends v_sort v_value v_isWrong v_itemMany v_farmMany v_farmCells v_items (16 : Int32) x1 x2 (0 : Int32) (0 : Int32) (0 : Int32) hc_48) fk_M_item gw_1299 rfl 0 9 rfl rfl [0, 2] [some 0, none, some 1] rfl rfl ⟨rfl, rfl, rfl, rfl, rfl, rfl, rfl, trivial⟩ rfl rfl rfl d_M_readSees_84 (fun H locs hV => ?_)
  have e_ := Option.some.inj hf
  subst e_
  exact k_vret X rfl hV d_M_readSees_87
set_option maxHeartbeats 2000000 in
set_option maxRecDepth 20000 in
theorem t_M_readSees_3 {l : Launch} {p : Program} {e : Env} {s : State} {m : MethodId} {args : Array Value} {below : List Frame} {meth : Method} {c : Code} {D : kD} {wc0 : va_W} {h : Nat} {h_now : Nat} {h_kept : Nat} {h_aside : Nat} {h_found : Nat} {h_down : Nat} {h_along : Nat} {h_parts : Nat} {h_gone : Nat} {h_tape : Nat} {h_kinds : Nat} {h_items : Nat} {h_widths : Nat} {h_sizes : Nat} {h_numbers : Nat} {h_moved : Nat} {v_isKept : Int32} {v_taped : Int32} {v_begins : Int32} {v_ends : Int32} {v_sort : Int32} {v_value : Int32} {v_isWrong : Int32} {v_itemMany : Int32} {v_farmMany : Int32} {v_farmCells : Int64} {v_tape : Nat → Int32} {v_items : Nat → Int32} {s1 : Int32} {x1 : Int32} {x2 : Int32} {x3 : Int32} {rec1 : Int32 → Int32 → Int32 → Int32 → Int32 → Int32 → Int32 → Option (Int32 × Int32 × Int32 × Int32 × Int32 × Int32 × (Nat → Int32))} {out : Int32 × Int32 × Int32 × Int32 × Int32 × Int32 × (Nat → Int32)} (X : kX p m meth c s args D (va_A wc0 s.heap.size) b_M_readSees "MountainFarmsModel" 4 none) (hrec1 : ∀ (x1 : Int32) (x2 : Int32) (v_begins : Int32) (v_ends : Int32) (v_sort : Int32) (v_value : Int32) (v_isWrong : Int32), rec1 x1 x2 v_begins v_ends v_sort v_value v_isWrong = some out → ∀ (H : Heap) (locs : List Loc) (ls : Array Slot), kV D (va_A wc0 s.heap.size) s (wd_M_readSees D h h_now h_kept h_aside h_found h_down h_along h_parts h_gone h_tape h_kinds h_items h_widths h_sizes h_numbers h_moved v_isKept v_taped v_begins v_ends v_sort v_value v_isWrong v_itemMany v_farmMany v_farmCells v_tape v_items) H locs → lv_has ls 4 [(0, .ref h), (1, .int x1), (2, .int x2)] → W p l e { frames := 4, cells := 0, slots := 0, locals := 87 } s m args below meth c H locs 0 0 (MQ below (kQv D wc0 (wd_M_readSees D h h_now h_kept h_aside h_found h_down h_along h_parts h_gone h_tape h_kinds h_items h_widths h_sizes h_numbers h_moved v_isKept v_taped out.1 out.2.1 out.2.2.1 out.2.2.2.1 out.2.2.2.2.1 out.2.2.2.2.2.1 v_farmMany v_farmCells v_tape out.2.2.2.2.2.2) s.heap.size) args s 0 0 (va_A wc0 s.heap.size)) (F0 m 9 ls [])) (hf : f_M_readSees_3 rec1 s1 x1 x2 x3 v_taped v_begins v_ends v_sort v_value v_isWrong v_itemMany v_tape v_items = some out) {H : Heap} {locs : List Loc} (hV : kV D (va_A wc0 s.heap.size) s (wd_M_readSees D h h_now h_kept h_aside h_found h_down h_along h_parts h_gone h_tape h_kinds h_items h_widths h_sizes h_numbers h_moved v_isKept v_taped v_begins v_ends v_sort v_value v_isWrong v_itemMany v_farmMany v_farmCells v_tape v_items) H locs) {ls : Array Slot} (hl : lv_has ls 4 [(0, .ref h), (1, .int x1), (2, .int x2), (3, .int x3)]) : W p l e { frames := 4, cells := 0, slots := 0, locals := 87 } s m args below meth c H locs 0 0 (MQ below (kQv D wc0 (wd_M_readSees D h h_now h_kept h_aside h_found h_down h_along h_parts h_gone h_tape h_kinds h_items h_widths h_sizes h_numbers h_moved v_isKept v_taped out.1 out.2.1 out.2.2.1 out.2.2.2.1 out.2.2.2.2.1 out.2.2.2.2.2.1 v_farmMany v_farmCells v_tape out.2.2.2.2.2.2) s.heap.size) args s 0 0 (va_A wc0 s.heap.size)) (F0 m 48 ls [.int s1, .ref h]) := by
  unfold f_M_readSees_3 at hf
  obtain ⟨hx, hb, -⟩ := id X
  obtain ⟨v_begins_38, v_ends_39, v_sort_40, v_value_41, v_isWrong_42, hc_43, hf⟩ := kb5_some hf
  refine k_cvv (w1 := (wd_M_must D h h_now h_kept h_aside h_found h_down h_along h_parts h_gone h_tape h_kinds h_items h_widths h_sizes h_numbers h_moved v_isKept v_taped v_begins_38 v_ends_39 v_sort_40 v_value_41 v_isWrong_42 v_itemMany v_farmMany v_farmCells v_tape)) (ws' := (wd_M_readSees D h h_now h_kept h_aside h_found h_down h_along h_parts h_gone h_tape h_kinds h_items h_widths h_sizes h_numbers h_moved v_isKept v_taped v_begins_38 v_ends_39 v_sort_40 v_value_41 v_isWrong_42 v_itemMany v_farmMany v_farmCells v_tape v_items)) X hV hl.1 (c_M_must D h h_now h_kept h_aside h_found h_down h_along h_parts h_gone h_tape h_kinds h_items h_widths h_sizes h_numbers h_moved v_isKept v_taped v_begins v_ends v_sort v_value v_isWrong v_itemMany v_farmMany v_farmCells v_tape s1 hc_43) fk_M_must gw_1289 rfl 0 9 rfl rfl [0, 1] [some 0, some 1, none] rfl rfl ⟨rfl, rfl, rfl, rfl, rfl, rfl, rfl, trivial⟩ rfl rfl rfl d_M_readSees_48 (fun H locs hV => ?_)
  refine lv_iload_n hx hb d_M_readSees_51 rfl (lv_at hl 2 rfl) ?_
  refine lv_aload_n hx hb d_M_readSees_52 rfl (lv_at hl 0 rfl) ?_
  refine k_get X hV 0 9 15 rfl rfl rfl gw_902 rfl rfl d_M_readSees_53 ?_
  refine lv_if_eq (tgt := 63) hx hb d_M_readSees_56 (by decide) (fun c_44 => ?_) (fun c_44 => ?_)
  · replace hf := kifp c_44 hf
    refine lv_iload_n hx hb d_M_readSees_63 rfl (lv_at hl 3 rfl) ?_
    refine lv_iconst (v := 2) hx hb d_M_readSees_64 ic_2 ?_
    refine lv_iload_n hx hb d_M_readSees_65 rfl (lv_at hl 1 rfl) ?_
    refine lv_imul hx hb d_M_readSees_66 ?_
    refine lv_ishl hx hb d_M_readSees_67 ?_
    refine lv_ior hx hb d_M_readSees_68 ?_
    refine k_leti hf (fun x2_45 hf => ?_)
    refine lv_istore_n (lv' := [(2, .int x2_45), (0, .ref h), (1, .int x1), (3, .int x3)]) hx hb d_M_readSees_69 rfl hl (by decide) rfl (fun ls hl => ?_)
    refine lv_iinc (v := (x1 + 1)) (lv' := [(1, .int (x1 + 1)), (2, .int x2_45), (0, .ref h), (3, .int x3)]) hx hb d_M_readSees_70 hl (k := 2) rfl rfl (by decide) rfl (fun ls hl => ?_)
    refine lv_goto (tgt := 9) hx hb d_M_readSees_73 (by decide) ?_
    exact hrec1 _ _ _ _ _ _ _ hf _ _ _ hV (lv_sub hl [2, 0, 1] rfl)
  replace hf := kifn c_44 hf
  refine lv_iconst (v := 0) hx hb d_M_readSees_59 ic_0 ?_
  refine lv_goto (tgt := 68) hx hb d_M_readSees_60 (by decide) ?_
  refine lv_ior hx hb d_M_readSees_68 ?_
  refine lv_istore_n (lv' := [(2, .int (x2 ||| (0 : Int32))), (0, .ref h), (1, .int x1), (3, .int x3)]) hx hb d_M_readSees_69 rfl hl (by decide) rfl (fun ls hl => ?_)
  refine lv_iinc (v := (x1 + 1)) (lv' := [(1, .int (x1 + 1)), (2, .int (x2 ||| (0 : Int32))), (0, .ref h), (3, .int x3)]) hx hb d_M_readSees_70 hl (k := 2) rfl rfl (by decide) rfl (fun ls hl => ?_)
  refine lv_goto (tgt := 9) hx hb d_M_readSees_73 (by decide) ?_
  exact hrec1 _ _ _ _ _ _ _ hf _ _ _ hV (lv_sub hl [2, 0, 1] rfl)
set_option maxHeartbeats 2000000 in
set_option maxRecDepth 20000 in
theorem t_M_readSees_2 {l : Launch} {p : Program} {e : Env} {s : State} {m : MethodId} {args : Array Value} {below : List Frame} {meth : Method} {c : Code} {D : kD} {wc0 : va_W} {h : Nat} {h_now : Nat} {h_kept : Nat} {h_aside : Nat} {h_found : Nat} {h_down : Nat} {h_along : Nat} {h_parts : Nat} {h_gone : Nat} {h_tape : Nat} {h_kinds : Nat} {h_items : Nat} {h_widths : Nat} {h_sizes : Nat} {h_numbers : Nat} {h_moved : Nat} {v_isKept : Int32} {v_taped : Int32} {v_begins : Int32} {v_ends : Int32} {v_sort : Int32} {v_value : Int32} {v_isWrong : Int32} {v_itemMany : Int32} {v_farmMany : Int32} {v_farmCells : Int64} {v_tape : Nat → Int32} {v_items : Nat → Int32} {x1 : Int32} {x2 : Int32} {x3 : Int32} {rec1 : Int32 → Int32 → Int32 → Int32 → Int32 → Int32 → Int32 → Option (Int32 × Int32 × Int32 × Int32 × Int32 × Int32 × (Nat → Int32))} {out : Int32 × Int32 × Int32 × Int32 × Int32 × Int32 × (Nat → Int32)} (X : kX p m meth c s args D (va_A wc0 s.heap.size) b_M_readSees "MountainFarmsModel" 4 none) (hrec1 : ∀ (x1 : Int32) (x2 : Int32) (v_begins : Int32) (v_ends : Int32) (v_sort : Int32) (v_value : Int32) (v_isWrong : Int32), rec1 x1 x2 v_begins v_ends v_sort v_value v_isWrong = some out → ∀ (H : Heap) (locs : List Loc) (ls : Array Slot), kV D (va_A wc0 s.heap.size) s (wd_M_readSees D h h_now h_kept h_aside h_found h_down h_along h_parts h_gone h_tape h_kinds h_items h_widths h_sizes h_numbers h_moved v_isKept v_taped v_begins v_ends v_sort v_value v_isWrong v_itemMany v_farmMany v_farmCells v_tape v_items) H locs → lv_has ls 4 [(0, .ref h), (1, .int x1), (2, .int x2)] → W p l e { frames := 4, cells := 0, slots := 0, locals := 87 } s m args below meth c H locs 0 0 (MQ below (kQv D wc0 (wd_M_readSees D h h_now h_kept h_aside h_found h_down h_along h_parts h_gone h_tape h_kinds h_items h_widths h_sizes h_numbers h_moved v_isKept v_taped out.1 out.2.1 out.2.2.1 out.2.2.2.1 out.2.2.2.2.1 out.2.2.2.2.2.1 v_farmMany v_farmCells v_tape out.2.2.2.2.2.2) s.heap.size) args s 0 0 (va_A wc0 s.heap.size)) (F0 m 9 ls [])) (hf : f_M_readSees_2 rec1 x1 x2 x3 v_taped v_begins v_ends v_sort v_value v_isWrong v_itemMany v_tape v_items = some out) {H : Heap} {locs : List Loc} (hV : kV D (va_A wc0 s.heap.size) s (wd_M_readSees D h h_now h_kept h_aside h_found h_down h_along h_parts h_gone h_tape h_kinds h_items h_widths h_sizes h_numbers h_moved v_isKept v_taped v_begins v_ends v_sort v_value v_isWrong v_itemMany v_farmMany v_farmCells v_tape v_items) H locs) {ls : Array Slot} (hl : lv_has ls 4 [(0, .ref h), (1, .int x1), (2, .int x2), (3, .int x3)]) : W p l e { frames := 4, cells := 0, slots := 0, locals := 87 } s m args below meth c H locs 0 0 (MQ below (kQv D wc0 (wd_M_readSees D h h_now h_kept h_aside h_found h_down h_along h_parts h_gone h_tape h_kinds h_items h_widths h_sizes h_numbers h_moved v_isKept v_taped out.1 out.2.1 out.2.2.1 out.2.2.2.1 out.2.2.2.2.1 out.2.2.2.2.2.1 v_farmMany v_farmCells v_tape out.2.2.2.2.2.2) s.heap.size) args s 0 0 (va_A wc0 s.heap.size)) (F0 m 47 ls [.ref h]) := by
  unfold f_M_readSees_2 at hf
  obtain ⟨hx, hb, -⟩ := id X
  refine lv_iconst (v := 0) hx hb d_M_readSees_47 ic_0 ?_
  exact t_M_readSees_3 X hrec1 hf hV (lv_sub hl [0, 1, 2, 3] rfl)
set_option maxHeartbeats 2000000 in
set_option maxRecDepth 20000 in
theorem tb_M_readSees_1 {l : Launch} {p : Program} {e : Env} {s : State} {m : MethodId} {args : Array Value} {below : List Frame} {meth : Method} {c : Code} {D : kD} {wc0 : va_W} {h : Nat} {h_now : Nat} {h_kept : Nat} {h_aside : Nat} {h_found : Nat} {h_down : Nat} {h_along : Nat} {h_parts : Nat} {h_gone : Nat} {h_tape : Nat} {h_kinds : Nat} {h_items : Nat} {h_widths : Nat} {h_sizes : Nat} {h_numbers : Nat} {h_moved : Nat} {v_isKept : Int32} {v_taped : Int32} {v_begins : Int32} {v_ends : Int32} {v_sort : Int32} {v_value : Int32} {v_isWrong : Int32} {v_itemMany : Int32} {v_farmMany : Int32} {v_farmCells : Int64} {v_tape : Nat → Int32} {v_items : Nat → Int32} {x1 : Int32} {x2 : Int32} {rec1 : Int32 → Int32 → Int32 → Int32 → Int32 → Int32 → Int32 → Option (Int32 × Int32 × Int32 × Int32 × Int32 × Int32 × (Nat → Int32))} {out : Int32 × Int32 × Int32 × Int32 × Int32 × Int32 × (Nat → Int32)} (X : kX p m meth c s args D (va_A wc0 s.heap.size) b_M_readSees "MountainFarmsModel" 4 none) (hrec1 : ∀ (x1 : Int32) (x2 : Int32) (v_begins : Int32) (v_ends : Int32) (v_sort : Int32) (v_value : Int32) (v_isWrong : Int32), rec1 x1 x2 v_begins v_ends v_sort v_value v_isWrong = some out → ∀ (H : Heap) (locs : List Loc) (ls : Array Slot), kV D (va_A wc0 s.heap.size) s (wd_M_readSees D h h_now h_kept h_aside h_found h_down h_along h_parts h_gone h_tape h_kinds h_items h_widths h_sizes h_numbers h_moved v_isKept v_taped v_begins v_ends v_sort v_value v_isWrong v_itemMany v_farmMany v_farmCells v_tape v_items) H locs → lv_has ls 4 [(0, .ref h), (1, .int x1), (2, .int x2)] → W p l e { frames := 4, cells := 0, slots := 0, locals := 87 } s m args below meth c H locs 0 0 (MQ below (kQv D wc0 (wd_M_readSees D h h_now h_kept h_aside h_found h_down h_along h_parts h_gone h_tape h_kinds h_items h_widths h_sizes h_numbers h_moved v_isKept v_taped out.1 out.2.1 out.2.2.1 out.2.2.2.1 out.2.2.2.2.1 out.2.2.2.2.2.1 v_farmMany v_farmCells v_tape out.2.2.2.2.2.2) s.heap.size) args s 0 0 (va_A wc0 s.heap.size)) (F0 m 9 ls [])) (hf : fb_M_readSees_1 rec1 v_taped v_itemMany v_tape v_items x1 x2 v_begins v_ends v_sort v_value v_isWrong = some out) {H : Heap} {locs : List Loc} (hV : kV D (va_A wc0 s.heap.size) s (wd_M_readSees D h h_now h_kept h_aside h_found h_down h_along h_parts h_gone h_tape h_kinds h_items h_widths h_sizes h_numbers h_moved v_isKept v_taped v_begins v_ends v_sort v_value v_isWrong v_itemMany v_farmMany v_farmCells v_tape v_items) H locs) {ls : Array Slot} (hl : lv_has ls 4 [(0, .ref h), (1, .int x1), (2, .int x2)]) : W p l e { frames := 4, cells := 0, slots := 0, locals := 87 } s m args below meth c H locs 0 0 (MQ below (kQv D wc0 (wd_M_readSees D h h_now h_kept h_aside h_found h_down h_along h_parts h_gone h_tape h_kinds h_items h_widths h_sizes h_numbers h_moved v_isKept v_taped out.1 out.2.1 out.2.2.1 out.2.2.2.1 out.2.2.2.2.1 out.2.2.2.2.2.1 v_farmMany v_farmCells v_tape out.2.2.2.2.2.2) s.heap.size) args s 0 0 (va_A wc0 s.heap.size)) (F0 m 9 ls []) := by
  unfold fb_M_readSees_1 at hf
  obtain ⟨hx, hb, -⟩ := id X
  refine lv_aload_n hx hb d_M_readSees_9 rfl (lv_at hl 0 rfl) ?_
  refine k_get X hV 0 9 15 rfl rfl rfl gw_902 rfl rfl d_M_readSees_10 ?_
  refine lv_if_ne (tgt := 76) hx hb d_M_readSees_13 (by decide) (fun c_32 => ?_) (fun c_32 => ?_)
  · replace hf := kifn c_32 hf
    exact t_M_readSees_4 X hf hV (lv_sub hl [0, 1, 2] rfl)
  replace hf := kifp c_32 hf
  refine lv_aload_n hx hb d_M_readSees_16 rfl (lv_at hl 0 rfl) ?_
  refine k_get X hV 0 9 13 rfl rfl rfl gw_900 rfl rfl d_M_readSees_17 ?_
  refine lv_iconst (v := 2) hx hb d_M_readSees_20 ic_2 ?_
  refine lv_icmp_ne (tgt := 76) hx hb d_M_readSees_21 (by decide) (fun c_33 => ?_) (fun c_33 => ?_)
  · replace hf := kifn c_33 hf
    exact t_M_readSees_4 X hf hV (lv_sub hl [0, 1, 2] rfl)
  replace hf := kifp c_33 hf
  refine lv_aload_n hx hb d_M_readSees_24 rfl (lv_at hl 0 rfl) ?_
  refine k_get X hV 0 9 14 rfl rfl rfl gw_901 rfl rfl d_M_readSees_25 ?_
  refine lv_istore_n (lv' := [(3, .int v_value), (0, .ref h), (1, .int x1), (2, .int x2)]) hx hb d_M_readSees_28 rfl hl (by decide) rfl (fun ls hl => ?_)
  refine lv_aload_n hx hb d_M_readSees_29 rfl (lv_at hl 1 rfl) ?_
  refine lv_iload_n hx hb d_M_readSees_30 rfl (lv_at hl 0 rfl) ?_
  obtain ⟨r_34, hc_35, hf⟩ := kb1_some hf
  refine k_csi (w1 := (wd_M_isState D)) (r := r_34) (ws' := (wd_M_readSees D h h_now h_kept h_aside h_found h_down h_along h_parts h_gone h_tape h_kinds h_items h_widths h_sizes h_numbers h_moved v_isKept v_taped v_begins v_ends v_sort v_value v_isWrong v_itemMany v_farmMany v_farmCells v_tape v_items)) X hV hl.1 (c_M_isState D v_value hc_35) fk_M_isState gw_1083 rfl [] [none, none, none] rfl rfl ⟨rfl, rfl, rfl, trivial⟩ rfl rfl rfl d_M_readSees_31 (fun H locs hV => ?_)
  refine lv_if_eq (tgt := 47) hx hb d_M_readSees_34 (by decide) (fun c_36 => ?_) (fun c_36 => ?_)
  · replace hf := kifp c_36 hf
    exact t_M_readSees_2 X hrec1 hf hV (lv_sub hl [1, 2, 3, 0] rfl)
  replace hf := kifn c_36 hf
  refine lv_iload_n hx hb d_M_readSees_37 rfl (lv_at hl 2 rfl) ?_
  refine lv_bipush (v := 6) hx hb d_M_readSees_38 bp_6 ?_
  refine lv_icmp_ge (tgt := 47) hx hb d_M_readSees_40 (by decide) (fun c_37 => ?_) (fun c_37 => ?_)
  · replace hf := kifp c_37 hf
    exact t_M_readSees_2 X hrec1 hf hV (lv_sub hl [1, 2, 3, 0] rfl)
  replace hf := kifn c_37 hf
  refine lv_iconst (v := 1) hx hb d_M_readSees_43 ic_1 ?_
  refine lv_goto (tgt := 48) hx hb d_M_readSees_44 (by decide) ?_
  exact t_M_readSees_3 X hrec1 hf hV (lv_sub hl [1, 2, 3, 0] rfl)
set_option maxHeartbeats 2000000 in
set_option maxRecDepth 20000 in
theorem tl_M_readSees_1 {l : Launch} {p : Program} {e : Env} {s : State} {m : MethodId} {args : Array Value} {below : List Frame} {meth : Method} {c : Code} {D : kD} {wc0 : va_W} {h : Nat} {h_now : Nat} {h_kept : Nat} {h_aside : Nat} {h_found : Nat} {h_down : Nat} {h_along : Nat} {h_parts : Nat} {h_gone : Nat} {h_tape : Nat} {h_kinds : Nat} {h_items : Nat} {h_widths : Nat} {h_sizes : Nat} {h_numbers : Nat} {h_moved : Nat} {v_isKept : Int32} {v_taped : Int32} {v_itemMany : Int32} {v_farmMany : Int32} {v_farmCells : Int64} {v_tape : Nat → Int32} {v_items : Nat → Int32} {out : Int32 × Int32 × Int32 × Int32 × Int32 × Int32 × (Nat → Int32)} (X : kX p m meth c s args D (va_A wc0 s.heap.size) b_M_readSees "MountainFarmsModel" 4 none) : ∀ (n : Nat) (x1 : Int32) (x2 : Int32) (v_begins : Int32) (v_ends : Int32) (v_sort : Int32) (v_value : Int32) (v_isWrong : Int32), fl_M_readSees_1 v_taped v_itemMany v_tape v_items n x1 x2 v_begins v_ends v_sort v_value v_isWrong = some out → ∀ (H : Heap) (locs : List Loc) (ls : Array Slot), kV D (va_A wc0 s.heap.size) s (wd_M_readSees D h h_now h_kept h_aside h_found h_down h_along h_parts h_gone h_tape h_kinds h_items h_widths h_sizes h_numbers h_moved v_isKept v_taped v_begins v_ends v_sort v_value v_isWrong v_itemMany v_farmMany v_farmCells v_tape v_items) H locs → lv_has ls 4 [(0, .ref h), (1, .int x1), (2, .int x2)] → W p l e { frames := 4, cells := 0, slots := 0, locals := 87 } s m args below meth c H locs 0 0 (MQ below (kQv D wc0 (wd_M_readSees D h h_now h_kept h_aside h_found h_down h_along h_parts h_gone h_tape h_kinds h_items h_widths h_sizes h_numbers h_moved v_isKept v_taped out.1 out.2.1 out.2.2.1 out.2.2.2.1 out.2.2.2.2.1 out.2.2.2.2.2.1 v_farmMany v_farmCells v_tape out.2.2.2.2.2.2) s.heap.size) args s 0 0 (va_A wc0 s.heap.size)) (F0 m 9 ls []) := by
  intro n
  induction n with
  | zero => intro x1 x2 v_begins v_ends v_sort v_value v_isWrong hf; exact knone hf
  | succ n ih => intro x1 x2 v_begins v_ends v_sort v_value v_isWrong hf H locs ls hV hl; exact tb_M_readSees_1 X ih hf hV hl
set_option maxHeartbeats 2000000 in
set_option maxRecDepth 20000 in
theorem t_M_readSees {l : Launch} {p : Program} {e : Env} {s : State} {m : MethodId} {args : Array Value} {below : List Frame} {meth : Method} {c : Code} {D : kD} {wc0 : va_W} {h : Nat} {h_now : Nat} {h_kept : Nat} {h_aside : Nat} {h_found : Nat} {h_down : Nat} {h_along : Nat} {h_parts : Nat} {h_gone : Nat} {h_tape : Nat} {h_kinds : Nat} {h_items : Nat} {h_widths : Nat} {h_sizes : Nat} {h_numbers : Nat} {h_moved : Nat} {v_isKept : Int32} {v_taped : Int32} {v_begins : Int32} {v_ends : Int32} {v_sort : Int32} {v_value : Int32} {v_isWrong : Int32} {v_itemMany : Int32} {v_farmMany : Int32} {v_farmCells : Int64} {v_tape : Nat → Int32} {v_items : Nat → Int32} {out : Int32 × Int32 × Int32 × Int32 × Int32 × Int32 × (Nat → Int32)} (X : kX p m meth c s args D (va_A wc0 s.heap.size) b_M_readSees "MountainFarmsModel" 4 none) (hf : f_M_readSees v_taped v_begins v_ends v_sort v_value v_isWrong v_itemMany v_tape v_items = some out) {H : Heap} {locs : List Loc} (hV : kV D (va_A wc0 s.heap.size) s (wd_M_readSees D h h_now h_kept h_aside h_found h_down h_along h_parts h_gone h_tape h_kinds h_items h_widths h_sizes h_numbers h_moved v_isKept v_taped v_begins v_ends v_sort v_value v_isWrong v_itemMany v_farmMany v_farmCells v_tape v_items) H locs) {ls : Array Slot} (hl : lv_has ls 4 [(0, .ref h)]) : W p l e { frames := 4, cells := 0, slots := 0, locals := 87 } s m args below meth c H locs 0 0 (MQ below (kQv D wc0 (wd_M_readSees D h h_now h_kept h_aside h_found h_down h_along h_parts h_gone h_tape h_kinds h_items h_widths h_sizes h_numbers h_moved v_isKept v_taped out.1 out.2.1 out.2.2.1 out.2.2.2.1 out.2.2.2.2.1 out.2.2.2.2.2.1 v_farmMany v_farmCells v_tape out.2.2.2.2.2.2) s.heap.size) args s 0 0 (va_A wc0 s.heap.size)) (F0 m 0 ls []) := by
  unfold f_M_readSees at hf
  obtain ⟨hx, hb, -⟩ := id X
  refine lv_iconst (v := 1) hx hb d_M_readSees_0 ic_1 ?_
  refine lv_istore_n (lv' := [(1, .int (1 : Int32)), (0, .ref h)]) hx hb d_M_readSees_1 rfl hl (by decide) rfl (fun ls hl => ?_)
  refine lv_aload_n hx hb d_M_readSees_2 rfl (lv_at hl 1 rfl) ?_
  refine lv_iconst (v := 0) hx hb d_M_readSees_3 ic_0 ?_
  refine lv_iconst (v := 3) hx hb d_M_readSees_4 ic_3 ?_
  obtain ⟨r_25, v_begins_26, v_ends_27, v_sort_28, v_value_29, v_isWrong_30, hc_31, hf⟩ := kb6_some hf
  refine k_cvi (w1 := (wd_M_number D h h_now h_kept h_aside h_found h_down h_along h_parts h_gone h_tape h_kinds h_items h_widths h_sizes h_numbers h_moved v_isKept v_taped v_begins_26 v_ends_27 v_sort_28 v_value_29 v_isWrong_30 v_itemMany v_farmMany v_farmCells v_tape)) (r := r_25) (ws' := (wd_M_readSees D h h_now h_kept h_aside h_found h_down h_along h_parts h_gone h_tape h_kinds h_items h_widths h_sizes h_numbers h_moved v_isKept v_taped v_begins_26 v_ends_27 v_sort_28 v_value_29 v_isWrong_30 v_itemMany v_farmMany v_farmCells v_tape v_items)) X hV hl.1 (c_M_number D h h_now h_kept h_aside h_found h_down h_along h_parts h_gone h_tape h_kinds h_items h_widths h_sizes h_numbers h_moved v_isKept v_taped v_begins v_ends v_sort v_value v_isWrong v_itemMany v_farmMany v_farmCells v_tape (0 : Int32) (3 : Int32) hc_31) fk_M_number gw_1295 rfl 0 9 rfl rfl [0, 1] [some 0, some 1, none] rfl rfl ⟨rfl, rfl, rfl, rfl, rfl, rfl, rfl, trivial⟩ rfl rfl rfl d_M_readSees_5 (fun H locs hV => ?_)
  refine lv_istore_n (lv' := [(2, .int r_25), (1, .int (1 : Int32)), (0, .ref h)]) hx hb d_M_readSees_8 rfl hl (by decide) rfl (fun ls hl => ?_)
  exact tl_M_readSees_1 X _ _ _ _ _ _ _ _ hf _ _ _ hV (lv_sub hl [2, 1, 0] rfl)
set_option maxHeartbeats 2000000 in
set_option maxRecDepth 20000 in
theorem c_M_readSees {l : Launch} (D : kD) (h : Nat) (h_now : Nat) (h_kept : Nat) (h_aside : Nat) (h_found : Nat) (h_down : Nat) (h_along : Nat) (h_parts : Nat) (h_gone : Nat) (h_tape : Nat) (h_kinds : Nat) (h_items : Nat) (h_widths : Nat) (h_sizes : Nat) (h_numbers : Nat) (h_moved : Nat) (v_isKept : Int32) (v_taped : Int32) (v_begins : Int32) (v_ends : Int32) (v_sort : Int32) (v_value : Int32) (v_isWrong : Int32) (v_itemMany : Int32) (v_farmMany : Int32) (v_farmCells : Int64) (v_tape : Nat → Int32) (v_items : Nat → Int32) {out : Int32 × Int32 × Int32 × Int32 × Int32 × Int32 × (Nat → Int32)} (hf : f_M_readSees v_taped v_begins v_ends v_sort v_value v_isWrong v_itemMany v_tape v_items = some out) : kMv l D y_M_readSees b_M_readSees 4 none { frames := 4, cells := 0, slots := 0, locals := 87 } [.ref h] (wd_M_readSees D h h_now h_kept h_aside h_found h_down h_along h_parts h_gone h_tape h_kinds h_items h_widths h_sizes h_numbers h_moved v_isKept v_taped v_begins v_ends v_sort v_value v_isWrong v_itemMany v_farmMany v_farmCells v_tape v_items) (wd_M_readSees D h h_now h_kept h_aside h_found h_down h_along h_parts h_gone h_tape h_kinds h_items h_widths h_sizes h_numbers h_moved v_isKept v_taped out.1 out.2.1 out.2.2.1 out.2.2.2.1 out.2.2.2.2.1 out.2.2.2.2.2.1 v_farmMany v_farmCells v_tape out.2.2.2.2.2.2) :=
  kMv_of (own := "MountainFarmsModel") (plainFor_of_name (by decide)) rfl rfl (fun p e s m args below meth c ls X hV hl => t_M_readSees X hf hV hl)
