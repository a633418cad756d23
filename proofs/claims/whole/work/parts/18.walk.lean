/-! printed by wip/gen: walks -/
set_option maxHeartbeats 2000000 in
set_option maxRecDepth 20000 in
theorem t_M_weight {l : Launch} {p : Program} {e : Env} {s : State} {m : MethodId} {args : Array Value} {below : List Frame} {meth : Method} {c : Code} {D : kD} {wc0 : va_W} {h : Nat} {h_now : Nat} {h_kept : Nat} {h_aside : Nat} {h_found : Nat} {h_down : Nat} {h_along : Nat} {h_parts : Nat} {h_gone : Nat} {h_tape : Nat} {h_kinds : Nat} {h_items : Nat} {h_widths : Nat} {h_sizes : Nat} {h_numbers : Nat} {h_moved : Nat} {v_isKept : Int32} {v_taped : Int32} {v_begins : Int32} {v_ends : Int32} {v_sort : Int32} {v_value : Int32} {v_isWrong : Int32} {v_itemMany : Int32} {v_farmMany : Int32} {v_farmCells : Int64} {v_now : Nat → Int32} {v_found : Nat → Int32} {v_parts : Nat → Int64} {v_gone : Nat → Int64} {x1 : Int32} {out : Int64 × (Nat → Int32) × (Nat → Int64) × (Nat → Int64)} (X : kX p m meth c s args D (va_A wc0 s.heap.size) b_M_weight "MountainFarmsModel" 4 (some .long)) (hf : f_M_weight v_now v_found v_parts v_gone x1 = some out) {H : Heap} {locs : List Loc} (hV : kV D (va_A wc0 s.heap.size) s (wd_M_weight D h h_now h_kept h_aside h_found h_down h_along h_parts h_gone h_tape h_kinds h_items h_widths h_sizes h_numbers h_moved v_isKept v_taped v_begins v_ends v_sort v_value v_isWrong v_itemMany v_farmMany v_farmCells v_now v_found v_parts v_gone) H locs) {ls : Array Slot} (hl : lv_has ls 4 [(0, .ref h), (1, .int x1)]) : W p l e { frames := 2, cells := 0, slots := 0, locals := 46 } s m args below meth c H locs 0 0 (MQ below (kQl D wc0 (wd_M_weight D h h_now h_kept h_aside h_found h_down h_along h_parts h_gone h_tape h_kinds h_items h_widths h_sizes h_numbers h_moved v_isKept v_taped v_begins v_ends v_sort v_value v_isWrong v_itemMany v_farmMany v_farmCells v_now out.2.1 out.2.2.1 out.2.2.2) s.heap.size out.1) args s 0 0 (va_A wc0 s.heap.size)) (F0 m 0 ls []) := by
  unfold f_M_weight at hf
  obtain ⟨hx, hb, -⟩ := id X
  refine lv_iload_n hx hb d_M_weight_0 rfl (lv_at hl 1 rfl) ?_
  refine lv_iconst (v := (-1)) hx hb d_M_weight_1 ic_m1 ?_
  refine lv_iconst (v := 3) hx hb d_M_weight_2 ic_3 ?_
  obtain ⟨r_13, hc_14, hf⟩ := kb1_some hf
  refine k_csi (w1 := (wd_M_within D)) (r := r_13) (ws' := (wd_M_weight D h h_now h_kept h_aside h_found h_down h_along h_parts h_gone h_tape h_kinds h_items h_widths h_sizes h_numbers h_moved v_isKept v_taped v_begins v_ends v_sort v_value v_isWrong v_itemMany v_farmMany v_farmCells v_now v_found v_parts v_gone)) X hV hl.1 (c_M_within D x1 (-1 : Int32) (3 : Int32) hc_14) fk_M_within gw_970 rfl [] [none, none, none, none, none] rfl rfl ⟨rfl, rfl, rfl, rfl, rfl, trivial⟩ rfl rfl rfl d_M_weight_3 (fun H locs hV => ?_)
  refine lv_if_ne (tgt := 17) hx hb d_M_weight_6 (by decide) (fun c_15 => ?_) (fun c_15 => ?_)
  · replace hf := kifn c_15 hf
    refine lv_aload_n hx hb d_M_weight_17 rfl (lv_at hl 0 rfl) ?_
    obtain ⟨r_16, v_parts_17, v_gone_18, hc_19, hf⟩ := kb3_some hf
    refine k_cvl (w1 := (wd_M_weigh D h h_now h_kept h_aside h_found h_down h_along h_parts h_gone h_tape h_kinds h_items h_widths h_sizes h_numbers h_moved v_isKept v_taped v_begins v_ends v_sort v_value v_isWrong v_itemMany v_farmMany v_farmCells v_now v_parts_17 v_gone_18)) (r := r_16) (ws' := (wd_M_weight D h h_now h_kept h_aside h_found h_down h_along h_parts h_gone h_tape h_kinds h_items h_widths h_sizes h_numbers h_moved v_isKept v_taped v_begins v_ends v_sort v_value v_isWrong v_itemMany v_farmMany v_farmCells v_now v_found v_parts_17 v_gone_18)) X hV hl.1 (c_M_weigh D h h_now h_kept h_aside h_found h_down h_along h_parts h_gone h_tape h_kinds h_items h_widths h_sizes h_numbers h_moved v_isKept v_taped v_begins v_ends v_sort v_value v_isWrong v_itemMany v_farmMany v_farmCells v_now v_parts v_gone hc_19) fk_M_weigh gw_1106 rfl 0 9 rfl rfl [0, 1, 3, 4] [some 0, some 1, none, some 2, some 3] rfl rfl ⟨rfl, rfl, rfl, rfl, rfl, rfl, rfl, rfl, rfl, rfl, rfl, rfl, rfl, trivial⟩ rfl rfl rfl d_M_weight_18 (fun H locs hV => ?_)
    refine lv_lstore_n (lv' := [(2, .long r_16), (0, .ref h), (1, .int x1)]) hx hb d_M_weight_21 rfl hl (by decide) rfl (fun ls hl => ?_)
    refine lv_iload_n hx hb d_M_weight_22 rfl (lv_at hl 2 rfl) ?_
    refine lv_if_ge (tgt := 30) hx hb d_M_weight_23 (by decide) (fun c_20 => ?_) (fun c_20 => ?_)
    · replace hf := kifp c_20 hf
      refine lv_aload_n hx hb d_M_weight_30 rfl (lv_at hl 1 rfl) ?_
      refine k_get X hV 0 9 7 rfl rfl rfl gw_894 rfl rfl d_M_weight_31 ?_
      refine lv_iload_n hx hb d_M_weight_34 rfl (lv_at hl 2 rfl) ?_
      obtain ⟨h_21, hf⟩ := kidx_some hf
      refine k_lald X hV 3 rfl h_21 rfl d_M_weight_35 ?_
      have e_ := Option.some.inj hf
      subst e_
      exact k_lret X rfl hV d_M_weight_36
    replace hf := kifn c_20 hf
    refine lv_lload_n hx hb d_M_weight_26 rfl (lv_at hl 0 rfl) ?_
    refine lv_goto (tgt := 36) hx hb d_M_weight_27 (by decide) ?_
    have e_ := Option.some.inj hf
    subst e_
    exact k_lret X rfl hV d_M_weight_36
  replace hf := kifp c_15 hf
  refine lv_aload_n hx hb d_M_weight_9 rfl (lv_at hl 0 rfl) ?_
  refine k_ldc (v := (-1000000001)) X gw_973 d_M_weight_10 ?_
  obtain ⟨r_22, v_found_23, hc_24, hf⟩ := kb2_some hf
  refine k_cvi (w1 := (wd_M_finding D h h_now h_kept h_aside h_found h_down h_along h_parts h_gone h_tape h_kinds h_items h_widths h_sizes h_numbers h_moved v_isKept v_taped v_begins v_ends v_sort v_value v_isWrong v_itemMany v_farmMany v_farmCells v_found_23)) (r := r_22) (ws' := (wd_M_weight D h h_now h_kept h_aside h_found h_down h_along h_parts h_gone h_tape h_kinds h_items h_widths h_sizes h_numbers h_moved v_isKept v_taped v_begins v_ends v_sort v_value v_isWrong v_itemMany v_farmMany v_farmCells v_now v_found_23 v_parts v_gone)) X hV hl.1 (c_M_finding D h h_now h_kept h_aside h_found h_down h_along h_parts h_gone h_tape h_kinds h_items h_widths h_sizes h_numbers h_moved v_isKept v_taped v_begins v_ends v_sort v_value v_isWrong v_itemMany v_farmMany v_farmCells v_found (-1000000001 : Int32) hc_24) fk_M_finding gw_974 rfl 0 9 rfl rfl [0, 2] [some 0, none, some 1, none, none] rfl rfl ⟨rfl, rfl, rfl, rfl, rfl, rfl, rfl, rfl, rfl, trivial⟩ rfl rfl rfl d_M_weight_12 (fun H locs hV => ?_)
  refine lv_i2l hx hb d_M_weight_15 rfl ?_
  have e_ := Option.some.inj hf
  subst e_
  exact k_lret X rfl hV d_M_weight_16
set_option maxHeartbeats 2000000 in
set_option maxRecDepth 20000 in
theorem c_M_weight {l : Launch} (D : kD) (h : Nat) (h_now : Nat) (h_kept : Nat) (h_aside : Nat) (h_found : Nat) (h_down : Nat) (h_along : Nat) (h_parts : Nat) (h_gone : Nat) (h_tape : Nat) (h_kinds : Nat) (h_items : Nat) (h_widths : Nat) (h_sizes : Nat) (h_numbers : Nat) (h_moved : Nat) (v_isKept : Int32) (v_taped : Int32) (v_begins : Int32) (v_ends : Int32) (v_sort : Int32) (v_value : Int32) (v_isWrong : Int32) (v_itemMany : Int32) (v_farmMany : Int32) (v_farmCells : Int64) (v_now : Nat → Int32) (v_found : Nat → Int32) (v_parts : Nat → Int64) (v_gone : Nat → Int64) (x1 : Int32) {out : Int64 × (Nat → Int32) × (Nat → Int64) × (Nat → Int64)} (hf : f_M_weight v_now v_found v_parts v_gone x1 = some out) : kMl l D y_M_weight b_M_weight 4 (some .long) { frames := 2, cells := 0, slots := 0, locals := 46 } [.ref h, .int x1] (wd_M_weight D h h_now h_kept h_aside h_found h_down h_along h_parts h_gone h_tape h_kinds h_items h_widths h_sizes h_numbers h_moved v_isKept v_taped v_begins v_ends v_sort v_value v_isWrong v_itemMany v_farmMany v_farmCells v_now v_found v_parts v_gone) (wd_M_weight D h h_now h_kept h_aside h_found h_down h_along h_parts h_gone h_tape h_kinds h_items h_widths h_sizes h_numbers h_moved v_isKept v_taped v_begins v_ends v_sort v_value v_isWrong v_itemMany v_farmMany v_farmCells v_now out.2.1 out.2.2.1 out.2.2.2) out.1 :=
  kMl_of (own := "MountainFarmsModel") (plainFor_of_name (by decide)) rfl rfl (fun p e s m args below meth c ls X hV hl => t_M_weight X hf hV hl)
set_option maxHeartbeats 2000000 in
set_option maxRecDepth 20000 in
theorem tb_M_likeliest_1 {l : Launch} {p : Program} {e : Env} {s : State} {m : MethodId} {args : Array Value} {below : List Frame} {meth : Method} {c : Code} {D : kD} {wc0 : va_W} {h : Nat} {h_now : Nat} {h_kept : Nat} {h_aside : Nat} {h_found : Nat} {h_down : Nat} {h_along : Nat} {h_parts : Nat} {h_gone : Nat} {h_tape : Nat} {h_kinds : Nat} {h_items : Nat} {h_widths : Nat} {h_sizes : Nat} {h_numbers : Nat} {h_moved : Nat} {v_isKept : Int32} {v_taped : Int32} {v_begins : Int32} {v_ends : Int32} {v_sort : Int32} {v_value : Int32} {v_isWrong : Int32} {v_itemMany : Int32} {v_farmMany : Int32} {v_farmCells : Int64} {v_now : Nat → Int32} {v_found : Nat → Int32} {v_parts : Nat → Int64} {v_gone : Nat → Int64} {x1 : Int32} {x2 : Int32} {rec1 : Int32 → Int32 → Option (Int32 × (Nat → Int32) × (Nat → Int64) × (Nat → Int64))} {out : Int32 × (Nat → Int32) × (Nat → Int64) × (Nat → Int64)} (X : kX p m meth c s args D (va_A wc0 s.heap.size) b_M_likeliest "MountainFarmsModel" 3 (some .int)) (hrec1 : ∀ (x1 : Int32) (x2 : Int32), rec1 x1 x2 = some out → ∀ (H : Heap) (locs : List Loc) (ls : Array Slot), kV D (va_A wc0 s.heap.size) s (wd_M_likeliest D h h_now h_kept h_aside h_found h_down h_along h_parts h_gone h_tape h_kinds h_items h_widths h_sizes h_numbers h_moved v_isKept v_taped v_begins v_ends v_sort v_value v_isWrong v_itemMany v_farmMany v_farmCells v_now v_found v_parts v_gone) H locs → lv_has ls 3 [(0, .ref h), (1, .int x1), (2, .int x2)] → W p l e { frames := 2, cells := 0, slots := 0, locals := 46 } s m args below meth c H locs 0 0 (MQ below (kQi D wc0 (wd_M_likeliest D h h_now h_kept h_aside h_found h_down h_along h_parts h_gone h_tape h_kinds h_items h_widths h_sizes h_numbers h_moved v_isKept v_taped v_begins v_ends v_sort v_value v_isWrong v_itemMany v_farmMany v_farmCells v_now out.2.1 out.2.2.1 out.2.2.2) s.heap.size out.1) args s 0 0 (va_A wc0 s.heap.size)) (F0 m 20 ls [])) (hf : fb_M_likeliest_1 rec1 v_found v_parts v_gone x1 x2 = some out) {H : Heap} {locs : List Loc} (hV : kV D (va_A wc0 s.heap.size) s (wd_M_likeliest D h h_now h_kept h_aside h_found h_down h_along h_parts h_gone h_tape h_kinds h_items h_widths h_sizes h_numbers h_moved v_isKept v_taped v_begins v_ends v_sort v_value v_isWrong v_itemMany v_farmMany v_farmCells v_now v_found v_parts v_gone) H locs) {ls : Array Slot} (hl : lv_has ls 3 [(0, .ref h), (1, .int x1), (2, .int x2)]) : W p l e { frames := 2, cells := 0, slots := 0, locals := 46 } s m args below meth c H locs 0 0 (MQ below (kQi D wc0 (wd_M_likeliest D h h_now h_kept h_aside h_found h_down h_along h_parts h_gone h_tape h_kinds h_items h_widths h_sizes h_numbers h_moved v_isKept v_taped v_begins v_ends v_sort v_value v_isWrong v_itemMany v_farmMany v_farmCells v_now out.2.1 out.2.2.1 out.2.2.2) s.heap.size out.1) args s 0 0 (va_A wc0 s.heap.size)) (F0 m 20 ls []) := by
  unfold fb_M_likeliest_1 at hf
  obtain ⟨hx, hb, -⟩ := id X
  refine lv_iload_n hx hb d_M_likeliest_20 rfl (lv_at hl 2 rfl) ?_
  refine lv_iconst (v := 4) hx hb d_M_likeliest_21 ic_4 ?_
  refine lv_icmp_ge (tgt := 53) hx hb d_M_likeliest_22 (by decide) (fun c_21 => ?_) (fun c_21 => ?_)
  · replace hf := kifp c_21 hf
    refine lv_iload_n hx hb d_M_likeliest_53 rfl (lv_at hl 1 rfl) ?_
    have e_ := Option.some.inj hf
    subst e_
    exact k_iret X rfl hV rfl d_M_likeliest_54
  replace hf := kifn c_21 hf
  refine lv_aload_n hx hb d_M_likeliest_25 rfl (lv_at hl 0 rfl) ?_
  refine k_get X hV 0 9 7 rfl rfl rfl gw_894 rfl rfl d_M_likeliest_26 ?_
  refine lv_iload_n hx hb d_M_likeliest_29 rfl (lv_at hl 2 rfl) ?_
  obtain ⟨h_22, hf⟩ := kidx_some hf
  refine k_lald X hV 3 rfl h_22 rfl d_M_likeliest_30 ?_
  refine lv_aload_n hx hb d_M_likeliest_31 rfl (lv_at hl 0 rfl) ?_
  refine k_get X hV 0 9 7 rfl rfl rfl gw_894 rfl rfl d_M_likeliest_32 ?_
  refine lv_iload_n hx hb d_M_likeliest_35 rfl (lv_at hl 1 rfl) ?_
  obtain ⟨h_23, hf⟩ := kidx_some hf
  refine k_lald X hV 3 rfl h_23 rfl d_M_likeliest_36 ?_
  refine W.lcmp hx hb d_M_likeliest_37 ?_
  refine lv_if_le (tgt := 45) hx hb d_M_likeliest_38 (by decide) (fun c_24 => ?_) (fun c_24 => ?_)
  · replace hf := kifp c_24 hf
    refine lv_iload_n hx hb d_M_likeliest_45 rfl (lv_at hl 1 rfl) ?_
    refine lv_istore_n (lv' := [(1, .int x1), (0, .ref h), (2, .int x2)]) hx hb d_M_likeliest_46 rfl hl (by decide) rfl (fun ls hl => ?_)
    refine lv_iinc (v := (x2 + 1)) (lv' := [(2, .int (x2 + 1)), (1, .int x1), (0, .ref h)]) hx hb d_M_likeliest_47 hl (k := 2) rfl rfl (by decide) rfl (fun ls hl => ?_)
    refine lv_goto (tgt := 20) hx hb d_M_likeliest_50 (by decide) ?_
    exact hrec1 _ _ hf _ _ _ hV (lv_sub hl [2, 1, 0] rfl)
  replace hf := kifn c_24 hf
  refine lv_iload_n hx hb d_M_likeliest_41 rfl (lv_at hl 2 rfl) ?_
  refine lv_goto (tgt := 46) hx hb d_M_likeliest_42 (by decide) ?_
  refine lv_istore_n (lv' := [(1, .int x2), (0, .ref h), (2, .int x2)]) hx hb d_M_likeliest_46 rfl hl (by decide) rfl (fun ls hl => ?_)
  refine lv_iinc (v := (x2 + 1)) (lv' := [(2, .int (x2 + 1)), (1, .int x2), (0, .ref h)]) hx hb d_M_likeliest_47 hl (k := 2) rfl rfl (by decide) rfl (fun ls hl => ?_)
  refine lv_goto (tgt := 20) hx hb d_M_likeliest_50 (by decide) ?_
  exact hrec1 _ _ hf _ _ _ hV (lv_sub hl [2, 1, 0] rfl)
set_option maxHeartbeats 2000000 in
set_option maxRecDepth 20000 in
theorem tl_M_likeliest_1 {l : Launch} {p : Program} {e : Env} {s : State} {m : MethodId} {args : Array Value} {below : List Frame} {meth : Method} {c : Code} {D : kD} {wc0 : va_W} {h : Nat} {h_now : Nat} {h_kept : Nat} {h_aside : Nat} {h_found : Nat} {h_down : Nat} {h_along : Nat} {h_parts : Nat} {h_gone : Nat} {h_tape : Nat} {h_kinds : Nat} {h_items : Nat} {h_widths : Nat} {h_sizes : Nat} {h_numbers : Nat} {h_moved : Nat} {v_isKept : Int32} {v_taped : Int32} {v_begins : Int32} {v_ends : Int32} {v_sort : Int32} {v_value : Int32} {v_isWrong : Int32} {v_itemMany : Int32} {v_farmMany : Int32} {v_farmCells : Int64} {v_now : Nat → Int32} {v_found : Nat → Int32} {v_parts : Nat → Int64} {v_gone : Nat → Int64} {out : Int32 × (Nat → Int32) × (Nat → Int64) × (Nat → Int64)} (X : kX p m meth c s args D (va_A wc0 s.heap.size) b_M_likeliest "MountainFarmsModel" 3 (some .int)) : ∀ (n : Nat) (x1 : Int32) (x2 : Int32), fl_M_likeliest_1 v_found v_parts v_gone n x1 x2 = some out → ∀ (H : Heap) (locs : List Loc) (ls : Array Slot), kV D (va_A wc0 s.heap.size) s (wd_M_likeliest D h h_now h_kept h_aside h_found h_down h_along h_parts h_gone h_tape h_kinds h_items h_widths h_sizes h_numbers h_moved v_isKept v_taped v_begins v_ends v_sort v_value v_isWrong v_itemMany v_farmMany v_farmCells v_now v_found v_parts v_gone) H locs → lv_has ls 3 [(0, .ref h), (1, .int x1), (2, .int x2)] → W p l e { frames := 2, cells := 0, slots := 0, locals := 46 } s m args below meth c H locs 0 0 (MQ below (kQi D wc0 (wd_M_likeliest D h h_now h_kept h_aside h_found h_down h_along h_parts h_gone h_tape h_kinds h_items h_widths h_sizes h_numbers h_moved v_isKept v_taped v_begins v_ends v_sort v_value v_isWrong v_itemMany v_farmMany v_farmCells v_now out.2.1 out.2.2.1 out.2.2.2) s.heap.size out.1) args s 0 0 (va_A wc0 s.heap.size)) (F0 m 20 ls []) := by
  intro n
  induction n with
  | zero => intro x1 x2 hf; exact knone hf
  | succ n ih => intro x1 x2 hf H locs ls hV hl; exact tb_M_likeliest_1 X ih hf hV hl
set_option maxHeartbeats 2000000 in
set_option maxRecDepth 20000 in
theorem t_M_likeliest {l : Launch} {p : Program} {e : Env} {s : State} {m : MethodId} {args : Array Value} {below : List Frame} {meth : Method} {c : Code} {D : kD} {wc0 : va_W} {h : Nat} {h_now : Nat} {h_kept : Nat} {h_aside : Nat} {h_found : Nat} {h_down : Nat} {h_along : Nat} {h_parts : Nat} {h_gone : Nat} {h_tape : Nat} {h_kinds : Nat} {h_items : Nat} {h_widths : Nat} {h_sizes : Nat} {h_numbers : Nat} {h_moved : Nat} {v_isKept : Int32} {v_taped : Int32} {v_begins : Int32} {v_ends : Int32} {v_sort : Int32} {v_value : Int32} {v_isWrong : Int32} {v_itemMany : Int32} {v_farmMany : Int32} {v_farmCells : Int64} {v_now : Nat → Int32} {v_found : Nat → Int32} {v_parts : Nat → Int64} {v_gone : Nat → Int64} {out : Int32 × (Nat → Int32) × (Nat → Int64) × (Nat → Int64)} (X : kX p m meth c s args D (va_A wc0 s.heap.size) b_M_likeliest "MountainFarmsModel" 3 (some .int)) (hf : f_M_likeliest v_now v_found v_parts v_gone = some out) {H : Heap} {locs : List Loc} (hV : kV D (va_A wc0 s.heap.size) s (wd_M_likeliest D h h_now h_kept h_aside h_found h_down h_along h_parts h_gone h_tape h_kinds h_items h_widths h_sizes h_numbers h_moved v_isKept v_taped v_begins v_ends v_sort v_value v_isWrong v_itemMany v_farmMany v_farmCells v_now v_found v_parts v_gone) H locs) {ls : Array Slot} (hl : lv_has ls 3 [(0, .ref h)]) : W p l e { frames := 2, cells := 0, slots := 0, locals := 46 } s m args below meth c H locs 0 0 (MQ below (kQi D wc0 (wd_M_likeliest D h h_now h_kept h_aside h_found h_down h_along h_parts h_gone h_tape h_kinds h_items h_widths h_sizes h_numbers h_moved v_isKept v_taped v_begins v_ends v_sort v_value v_isWrong v_itemMany v_farmMany v_farmCells v_now out.2.1 out.2.2.1 out.2.2.2) s.heap.size out.1) args s 0 0 (va_A wc0 s.heap.size)) (F0 m 0 ls []) := by
  unfold f_M_likeliest at hf
  obtain ⟨hx, hb, -⟩ := id X
  refine lv_aload_n hx hb d_M_likeliest_0 rfl (lv_at hl 0 rfl) ?_
  obtain ⟨r_13, v_parts_14, v_gone_15, hc_16, hf⟩ := kb3_some hf
  refine k_cvl (w1 := (wd_M_weigh D h h_now h_kept h_aside h_found h_down h_along h_parts h_gone h_tape h_kinds h_items h_widths h_sizes h_numbers h_moved v_isKept v_taped v_begins v_ends v_sort v_value v_isWrong v_itemMany v_farmMany v_farmCells v_now v_parts_14 v_gone_15)) (r := r_13) (ws' := (wd_M_likeliest D h h_now h_kept h_aside h_found h_down h_along h_parts h_gone h_tape h_kinds h_items h_widths h_sizes h_numbers h_moved v_isKept v_taped v_begins v_ends v_sort v_value v_isWrong v_itemMany v_farmMany v_farmCells v_now v_found v_parts_14 v_gone_15)) X hV hl.1 (c_M_weigh D h h_now h_kept h_aside h_found h_down h_along h_parts h_gone h_tape h_kinds h_items h_widths h_sizes h_numbers h_moved v_isKept v_taped v_begins v_ends v_sort v_value v_isWrong v_itemMany v_farmMany v_farmCells v_now v_parts v_gone hc_16) fk_M_weigh gw_1106 rfl 0 9 rfl rfl [0, 1, 3, 4] [some 0, some 1, none, some 2, some 3] rfl rfl ⟨rfl, rfl, rfl, rfl, rfl, rfl, rfl, rfl, rfl, rfl, rfl, rfl, rfl, trivial⟩ rfl rfl rfl d_M_likeliest_1 (fun H locs hV => ?_)
  refine lv_lconst (v := 0) hx hb d_M_likeliest_4 lc_0 ?_
  refine W.lcmp hx hb d_M_likeliest_5 ?_
  refine lv_if_ne (tgt := 16) hx hb d_M_likeliest_6 (by decide) (fun c_17 => ?_) (fun c_17 => ?_)
  · replace hf := kifn c_17 hf
    refine lv_iconst (v := 0) hx hb d_M_likeliest_16 ic_0 ?_
    refine lv_istore_n (lv' := [(1, .int (0 : Int32)), (0, .ref h)]) hx hb d_M_likeliest_17 rfl hl (by decide) rfl (fun ls hl => ?_)
    refine lv_iconst (v := 1) hx hb d_M_likeliest_18 ic_1 ?_
    refine lv_istore_n (lv' := [(2, .int (1 : Int32)), (1, .int (0 : Int32)), (0, .ref h)]) hx hb d_M_likeliest_19 rfl hl (by decide) rfl (fun ls hl => ?_)
    exact tl_M_likeliest_1 X _ _ _ hf _ _ _ hV (lv_sub hl [2, 1, 0] rfl)
  replace hf := kifp c_17 hf
  refine lv_aload_n hx hb d_M_likeliest_9 rfl (lv_at hl 0 rfl) ?_
  refine k_ldc (v := (-1000000004)) X gw_1123 d_M_likeliest_10 ?_
  obtain ⟨r_18, v_found_19, hc_20, hf⟩ := kb2_some hf
  refine k_cvi (w1 := (wd_M_finding D h h_now h_kept h_aside h_found h_down h_along h_parts h_gone h_tape h_kinds h_items h_widths h_sizes h_numbers h_moved v_isKept v_taped v_begins v_ends v_sort v_value v_isWrong v_itemMany v_farmMany v_farmCells v_found_19)) (r := r_18) (ws' := (wd_M_likeliest D h h_now h_kept h_aside h_found h_down h_along h_parts h_gone h_tape h_kinds h_items h_widths h_sizes h_numbers h_moved v_isKept v_taped v_begins v_ends v_sort v_value v_isWrong v_itemMany v_farmMany v_farmCells v_now v_found_19 v_parts_14 v_gone_15)) X hV hl.1 (c_M_finding D h h_now h_kept h_aside h_found h_down h_along h_parts h_gone h_tape h_kinds h_items h_widths h_sizes h_numbers h_moved v_isKept v_taped v_begins v_ends v_sort v_value v_isWrong v_itemMany v_farmMany v_farmCells v_found (-1000000004 : Int32) hc_20) fk_M_finding gw_974 rfl 0 9 rfl rfl [0, 2] [some 0, none, some 1, none, none] rfl rfl ⟨rfl, rfl, rfl, rfl, rfl, rfl, rfl, rfl, rfl, trivial⟩ rfl rfl rfl d_M_likeliest_12 (fun H locs hV => ?_)
  have e_ := Option.some.inj hf
  subst e_
  exact k_iret X rfl hV rfl d_M_likeliest_15
set_option maxHeartbeats 2000000 in
set_option maxRecDepth 20000 in
theorem c_M_likeliest {l : Launch} (D : kD) (h : Nat) (h_now : Nat) (h_kept : Nat) (h_aside : Nat) (h_found : Nat) (h_down : Nat) (h_along : Nat) (h_parts : Nat) (h_gone : Nat) (h_tape : Nat) (h_kinds : Nat) (h_items : Nat) (h_widths : Nat) (h_sizes : Nat) (h_numbers : Nat) (h_moved : Nat) (v_isKept : Int32) (v_taped : Int32) (v_begins : Int32) (v_ends : Int32) (v_sort : Int32) (v_value : Int32) (v_isWrong : Int32) (v_itemMany : Int32) (v_farmMany : Int32) (v_farmCells : Int64) (v_now : Nat → Int32) (v_found : Nat → Int32) (v_parts : Nat → Int64) (v_gone : Nat → Int64) {out : Int32 × (Nat → Int32) × (Nat → Int64) × (Nat → Int64)} (hf : f_M_likeliest v_now v_found v_parts v_gone = some out) : kMi l D y_M_likeliest b_M_likeliest 3 (some .int) { frames := 2, cells := 0, slots := 0, locals := 46 } [.ref h] (wd_M_likeliest D h h_now h_kept h_aside h_found h_down h_along h_parts h_gone h_tape h_kinds h_items h_widths h_sizes h_numbers h_moved v_isKept v_taped v_begins v_ends v_sort v_value v_isWrong v_itemMany v_farmMany v_farmCells v_now v_found v_parts v_gone) (wd_M_likeliest D h h_now h_kept h_aside h_found h_down h_along h_parts h_gone h_tape h_kinds h_items h_widths h_sizes h_numbers h_moved v_isKept v_taped v_begins v_ends v_sort v_value v_isWrong v_itemMany v_farmMany v_farmCells v_now out.2.1 out.2.2.1 out.2.2.2) out.1 :=
  kMi_of (own := "MountainFarmsModel") (plainFor_of_name (by decide)) rfl rfl (fun p e s m args below meth c ls X hV hl => t_M_likeliest X hf hV hl)
set_option maxHeartbeats 2000000 in
set_option maxRecDepth 20000 in
theorem t_M_flee {l : Launch} {p : Program} {e : Env} {s : State} {m : MethodId} {args : Array Value} {below : List Frame} {meth : Method} {c : Code} {D : kD} {wc0 : va_W} {h : Nat} {h_now : Nat} {h_kept : Nat} {h_aside : Nat} {h_found : Nat} {h_down : Nat} {h_along : Nat} {h_parts : Nat} {h_gone : Nat} {h_tape : Nat} {h_kinds : Nat} {h_items : Nat} {h_widths : Nat} {h_sizes : Nat} {h_numbers : Nat} {h_moved : Nat} {v_isKept : Int32} {v_taped : Int32} {v_begins : Int32} {v_ends : Int32} {v_sort : Int32} {v_value : Int32} {v_isWrong : Int32} {v_itemMany : Int32} {v_farmMany : Int32} {v_farmCells : Int64} {v_now : Nat → Int32} {v_found : Nat → Int32} {v_parts : Nat → Int64} {v_gone : Nat → Int64} {x1 : Int32} {out : Int32 × (Nat → Int32) × (Nat → Int64) × (Nat → Int64)} (X : kX p m meth c s args D (va_A wc0 s.heap.size) b_M_flee "MountainFarmsModel" 4 (some .int)) (hf : f_M_flee v_now v_found v_parts v_gone x1 = some out) {H : Heap} {locs : List Loc} (hV : kV D (va_A wc0 s.heap.size) s (wd_M_flee D h h_now h_kept h_aside h_found h_down h_along h_parts h_gone h_tape h_kinds h_items h_widths h_sizes h_numbers h_moved v_isKept v_taped v_begins v_ends v_sort v_value v_isWrong v_itemMany v_farmMany v_farmCells v_now v_found v_parts v_gone) H locs) {ls : Array Slot} (hl : lv_has ls 4 [(0, .ref h), (1, .int x1)]) : W p l e { frames := 2, cells := 0, slots := 0, locals := 46 } s m args below meth c H locs 0 0 (MQ below (kQi D wc0 (wd_M_flee D h h_now h_kept h_aside h_found h_down h_along h_parts h_gone h_tape h_kinds h_items h_widths h_sizes h_numbers h_moved v_isKept v_taped v_begins v_ends v_sort v_value v_isWrong v_itemMany v_farmMany v_farmCells v_now out.2.1 out.2.2.1 out.2.2.2) s.heap.size out.1) args s 0 0 (va_A wc0 s.heap.size)) (F0 m 0 ls []) := by
  unfold f_M_flee at hf
  obtain ⟨hx, hb, -⟩ := id X
  refine lv_iload_n hx hb d_M_flee_0 rfl (lv_at hl 1 rfl) ?_
  refine lv_iconst (v := 0) hx hb d_M_flee_1 ic_0 ?_
  refine lv_bipush (v := 10) hx hb d_M_flee_2 bp_10 ?_
  obtain ⟨r_16, hc_17, hf⟩ := kb1_some hf
  refine k_csi (w1 := (wd_M_within D)) (r := r_16) (ws' := (wd_M_flee D h h_now h_kept h_aside h_found h_down h_along h_parts h_gone h_tape h_kinds h_items h_widths h_sizes h_numbers h_moved v_isKept v_taped v_begins v_ends v_sort v_value v_isWrong v_itemMany v_farmMany v_farmCells v_now v_found v_parts v_gone)) X hV hl.1 (c_M_within D x1 (0 : Int32) (10 : Int32) hc_17) fk_M_within gw_970 rfl [] [none, none, none, none, none] rfl rfl ⟨rfl, rfl, rfl, rfl, rfl, trivial⟩ rfl rfl rfl d_M_flee_4 (fun H locs hV => ?_)
  refine lv_if_ne (tgt := 17) hx hb d_M_flee_7 (by decide) (fun c_18 => ?_) (fun c_18 => ?_)
  · replace hf := kifn c_18 hf
    refine lv_aload_n hx hb d_M_flee_17 rfl (lv_at hl 0 rfl) ?_
    obtain ⟨r_19, v_parts_20, v_gone_21, hc_22, hf⟩ := kb3_some hf
    refine k_cvl (w1 := (wd_M_weigh D h h_now h_kept h_aside h_found h_down h_along h_parts h_gone h_tape h_kinds h_items h_widths h_sizes h_numbers h_moved v_isKept v_taped v_begins v_ends v_sort v_value v_isWrong v_itemMany v_farmMany v_farmCells v_now v_parts_20 v_gone_21)) (r := r_19) (ws' := (wd_M_flee D h h_now h_kept h_aside h_found h_down h_along h_parts h_gone h_tape h_kinds h_items h_widths h_sizes h_numbers h_moved v_isKept v_taped v_begins v_ends v_sort v_value v_isWrong v_itemMany v_farmMany v_farmCells v_now v_found v_parts_20 v_gone_21)) X hV hl.1 (c_M_weigh D h h_now h_kept h_aside h_found h_down h_along h_parts h_gone h_tape h_kinds h_items h_widths h_sizes h_numbers h_moved v_isKept v_taped v_begins v_ends v_sort v_value v_isWrong v_itemMany v_farmMany v_farmCells v_now v_parts v_gone hc_22) fk_M_weigh gw_1106 rfl 0 9 rfl rfl [0, 1, 3, 4] [some 0, some 1, none, some 2, some 3] rfl rfl ⟨rfl, rfl, rfl, rfl, rfl, rfl, rfl, rfl, rfl, rfl, rfl, rfl, rfl, trivial⟩ rfl rfl rfl d_M_flee_18 (fun H locs hV => ?_)
    refine lv_lstore_n (lv' := [(2, .long r_19), (0, .ref h), (1, .int x1)]) hx hb d_M_flee_21 rfl hl (by decide) rfl (fun ls hl => ?_)
    refine lv_lload_n hx hb d_M_flee_22 rfl (lv_at hl 0 rfl) ?_
    refine lv_lconst (v := 0) hx hb d_M_flee_23 lc_0 ?_
    refine W.lcmp hx hb d_M_flee_24 ?_
    refine lv_if_ne (tgt := 35) hx hb d_M_flee_25 (by decide) (fun c_23 => ?_) (fun c_23 => ?_)
    · replace hf := kifn c_23 hf
      refine k_ldc2 (v := 10) X gw_1110 d_M_flee_35 ?_
      refine lv_aload_n hx hb d_M_flee_38 rfl (lv_at hl 1 rfl) ?_
      refine k_get X hV 0 9 7 rfl rfl rfl gw_894 rfl rfl d_M_flee_39 ?_
      refine lv_iconst (v := 2) hx hb d_M_flee_42 ic_2 ?_
      refine k_lald X hV 3 rfl kin_2_4 kln_2 d_M_flee_43 ?_
      refine lv_aload_n hx hb d_M_flee_44 rfl (lv_at hl 1 rfl) ?_
      refine k_get X hV 0 9 7 rfl rfl rfl gw_894 rfl rfl d_M_flee_45 ?_
      refine lv_iconst (v := 3) hx hb d_M_flee_48 ic_3 ?_
      refine k_lald X hV 3 rfl kin_3_4 kln_3 d_M_flee_49 ?_
      refine lv_ladd hx hb d_M_flee_50 ?_
      refine lv_lmul hx hb d_M_flee_51 ?_
      refine lv_iload_n hx hb d_M_flee_52 rfl (lv_at hl 2 rfl) ?_
      refine lv_i2l hx hb d_M_flee_53 rfl ?_
      refine lv_lload_n hx hb d_M_flee_54 rfl (lv_at hl 0 rfl) ?_
      refine lv_lmul hx hb d_M_flee_55 ?_
      refine W.lcmp hx hb d_M_flee_56 ?_
      refine lv_if_lt (tgt := 64) hx hb d_M_flee_57 (by decide) (fun c_24 => ?_) (fun c_24 => ?_)
      · replace hf := kifp c_24 hf
        refine lv_iconst (v := 0) hx hb d_M_flee_64 ic_0 ?_
        have e_ := Option.some.inj hf
        subst e_
        exact k_iret X rfl hV rfl d_M_flee_65
      replace hf := kifn c_24 hf
      refine lv_iconst (v := 1) hx hb d_M_flee_60 ic_1 ?_
      refine lv_goto (tgt := 65) hx hb d_M_flee_61 (by decide) ?_
      have e_ := Option.some.inj hf
      subst e_
      exact k_iret X rfl hV rfl d_M_flee_65
    replace hf := kifp c_23 hf
    refine lv_aload_n hx hb d_M_flee_28 rfl (lv_at hl 1 rfl) ?_
    refine k_ldc (v := (-1000000004)) X gw_1123 d_M_flee_29 ?_
    obtain ⟨r_25, v_found_26, hc_27, hf⟩ := kb2_some hf
    refine k_cvi (w1 := (wd_M_finding D h h_now h_kept h_aside h_found h_down h_along h_parts h_gone h_tape h_kinds h_items h_widths h_sizes h_numbers h_moved v_isKept v_taped v_begins v_ends v_sort v_value v_isWrong v_itemMany v_farmMany v_farmCells v_found_26)) (r := r_25) (ws' := (wd_M_flee D h h_now h_kept h_aside h_found h_down h_along h_parts h_gone h_tape h_kinds h_items h_widths h_sizes h_numbers h_moved v_isKept v_taped v_begins v_ends v_sort v_value v_isWrong v_itemMany v_farmMany v_farmCells v_now v_found_26 v_parts_20 v_gone_21)) X hV hl.1 (c_M_finding D h h_now h_kept h_aside h_found h_down h_along h_parts h_gone h_tape h_kinds h_items h_widths h_sizes h_numbers h_moved v_isKept v_taped v_begins v_ends v_sort v_value v_isWrong v_itemMany v_farmMany v_farmCells v_found (-1000000004 : Int32) hc_27) fk_M_finding gw_974 rfl 0 9 rfl rfl [0, 2] [some 0, none, some 1, none, none] rfl rfl ⟨rfl, rfl, rfl, rfl, rfl, rfl, rfl, rfl, rfl, trivial⟩ rfl rfl rfl d_M_flee_31 (fun H locs hV => ?_)
    have e_ := Option.some.inj hf
    subst e_
    exact k_iret X rfl hV rfl d_M_flee_34
  replace hf := kifp c_18 hf
  refine lv_aload_n hx hb d_M_flee_10 rfl (lv_at hl 0 rfl) ?_
  refine k_ldc (v := (-1000000001)) X gw_973 d_M_flee_11 ?_
  obtain ⟨r_28, v_found_29, hc_30, hf⟩ := kb2_some hf
  refine k_cvi (w1 := (wd_M_finding D h h_now h_kept h_aside h_found h_down h_along h_parts h_gone h_tape h_kinds h_items h_widths h_sizes h_numbers h_moved v_isKept v_taped v_begins v_ends v_sort v_value v_isWrong v_itemMany v_farmMany v_farmCells v_found_29)) (r := r_28) (ws' := (wd_M_flee D h h_now h_kept h_aside h_found h_down h_along h_parts h_gone h_tape h_kinds h_items h_widths h_sizes h_numbers h_moved v_isKept v_taped v_begins v_ends v_sort v_value v_isWrong v_itemMany v_farmMany v_farmCells v_now v_found_29 v_parts v_gone)) X hV hl.1 (c_M_finding D h h_now h_kept h_aside h_found h_down h_along h_parts h_gone h_tape h_kinds h_items h_widths h_sizes h_numbers h_moved v_isKept v_taped v_begins v_ends v_sort v_value v_isWrong v_itemMany v_farmMany v_farmCells v_found (-1000000001 : Int32) hc_30) fk_M_finding gw_974 rfl 0 9 rfl rfl [0, 2] [some 0, none, some 1, none, none] rfl rfl ⟨rfl, rfl, rfl, rfl, rfl, rfl, rfl, rfl, rfl, trivial⟩ rfl rfl rfl d_M_flee_13 (fun H locs hV => ?_)
  have e_ := Option.some.inj hf
  subst e_
  exact k_iret X rfl hV rfl d_M_flee_16
set_option maxHeartbeats 2000000 in
set_option maxRecDepth 20000 in
theorem c_M_flee {l : Launch} (D : kD) (h : Nat) (h_now : Nat) (h_kept : Nat) (h_aside : Nat) (h_found : Nat) (h_down : Nat) (h_along : Nat) (h_parts : Nat) (h_gone : Nat) (h_tape : Nat) (h_kinds : Nat) (h_items : Nat) (h_widths : Nat) (h_sizes : Nat) (h_numbers : Nat) (h_moved : Nat) (v_isKept : Int32) (v_taped : Int32) (v_begins : Int32) (v_ends : Int32) (v_sort : Int32) (v_value : Int32) (v_isWrong : Int32) (v_itemMany : Int32) (v_farmMany : Int32) (v_farmCells : Int64) (v_now : Nat → Int32) (v_found : Nat → Int32) (v_parts : Nat → Int64) (v_gone : Nat → Int64) (x1 : Int32) {out : Int32 × (Nat → Int32) × (Nat → Int64) × (Nat → Int64)} (hf : f_M_flee v_now v_found v_parts v_gone x1 = some out) : kMi l D y_M_flee b_M_flee 4 (some .int) { frames := 2, cells := 0, slots := 0, locals := 46 } [.ref h, .int x1] (wd_M_flee D h h_now h_kept h_aside h_found h_down h_along h_parts h_gone h_tape h_kinds h_items h_widths h_sizes h_numbers h_moved v_isKept v_taped v_begins v_ends v_sort v_value v_isWrong v_itemMany v_farmMany v_farmCells v_now v_found v_parts v_gone) (wd_M_flee D h h_now h_kept h_aside h_found h_down h_along h_parts h_gone h_tape h_kinds h_items h_widths h_sizes h_numbers h_moved v_isKept v_taped v_begins v_ends v_sort v_value v_isWrong v_itemMany v_farmMany v_farmCells v_now out.2.1 out.2.2.1 out.2.2.2) out.1 :=
  kMi_of (own := "MountainFarmsModel") (plainFor_of_name (by decide)) rfl rfl (fun p e s m args below meth c ls X hV hl => t_M_flee X hf hV hl)
set_option maxHeartbeats 2000000 in
set_option maxRecDepth 20000 in
theorem t_M_dread_3 {l : Launch} {p : Program} {e : Env} {s : State} {m : MethodId} {args : Array Value} {below : List Frame} {meth : Method} {c : Code} {D : kD} {wc0 : va_W} {h : Nat} {h_now : Nat} {h_kept : Nat} {h_aside : Nat} {h_found : Nat} {h_down : Nat} {h_along : Nat} {h_parts : Nat} {h_gone : Nat} {h_tape : Nat} {h_kinds : Nat} {h_items : Nat} {h_widths : Nat} {h_sizes : Nat} {h_numbers : Nat} {h_moved : Nat} {v_isKept : Int32} {v_taped : Int32} {v_begins : Int32} {v_ends : Int32} {v_sort : Int32} {v_value : Int32} {v_isWrong : Int32} {v_itemMany : Int32} {v_farmMany : Int32} {v_farmCells : Int64} {v_now : Nat → Int32} {v_found : Nat → Int32} {v_parts : Nat → Int64} {v_gone : Nat → Int64} {x1 : Int32} {out : Int32 × (Nat → Int32) × (Nat → Int64) × (Nat → Int64)} (X : kX p m meth c s args D (va_A wc0 s.heap.size) b_M_dread "MountainFarmsModel" 9 (some .int)) (hf : f_M_dread_3 x1 v_found v_parts v_gone = some out) {H : Heap} {locs : List Loc} (hV : kV D (va_A wc0 s.heap.size) s (wd_M_dread D h h_now h_kept h_aside h_found h_down h_along h_parts h_gone h_tape h_kinds h_items h_widths h_sizes h_numbers h_moved v_isKept v_taped v_begins v_ends v_sort v_value v_isWrong v_itemMany v_farmMany v_farmCells v_now v_found v_parts v_gone) H locs) {ls : Array Slot} (hl : lv_has ls 9 [(0, .ref h), (1, .int x1)]) : W p l e { frames := 2, cells := 0, slots := 0, locals := 46 } s m args below meth c H locs 0 0 (MQ below (kQi D wc0 (wd_M_dread D h h_now h_kept h_aside h_found h_down h_along h_parts h_gone h_tape h_kinds h_items h_widths h_sizes h_numbers h_moved v_isKept v_taped v_begins v_ends v_sort v_value v_isWrong v_itemMany v_farmMany v_farmCells v_now out.2.1 out.2.2.1 out.2.2.2) s.heap.size out.1) args s 0 0 (va_A wc0 s.heap.size)) (F0 m 100 ls []) := by
  unfold f_M_dread_3 at hf
  obtain ⟨hx, hb, -⟩ := id X
  refine lv_iload_n hx hb d_M_dread_100 rfl (lv_at hl 1 rfl) ?_
  refine lv_if_ge (tgt := 113) hx hb d_M_dread_101 (by decide) (fun c_37 => ?_) (fun c_37 => ?_)
  · replace hf := kifp c_37 hf
    refine lv_iload_n hx hb d_M_dread_113 rfl (lv_at hl 1 rfl) ?_
    have e_ := Option.some.inj hf
    subst e_
    exact k_iret X rfl hV rfl d_M_dread_114
  replace hf := kifn c_37 hf
  refine lv_aload_n hx hb d_M_dread_104 rfl (lv_at hl 0 rfl) ?_
  refine k_ldc (v := (-1000000004)) X gw_1123 d_M_dread_105 ?_
  obtain ⟨r_38, v_found_39, hc_40, hf⟩ := kb2_some hf
  refine k_cvi (w1 := (wd_M_finding D h h_now h_kept h_aside h_found h_down h_along h_parts h_gone h_tape h_kinds h_items h_widths h_sizes h_numbers h_moved v_isKept v_taped v_begins v_ends v_sort v_value v_isWrong v_itemMany v_farmMany v_farmCells v_found_39)) (r := r_38) (ws' := (wd_M_dread D h h_now h_kept h_aside h_found h_down h_along h_parts h_gone h_tape h_kinds h_items h_widths h_sizes h_numbers h_moved v_isKept v_taped v_begins v_ends v_sort v_value v_isWrong v_itemMany v_farmMany v_farmCells v_now v_found_39 v_parts v_gone)) X hV hl.1 (c_M_finding D h h_now h_kept h_aside h_found h_down h_along h_parts h_gone h_tape h_kinds h_items h_widths h_sizes h_numbers h_moved v_isKept v_taped v_begins v_ends v_sort v_value v_isWrong v_itemMany v_farmMany v_farmCells v_found (-1000000004 : Int32) hc_40) fk_M_finding gw_974 rfl 0 9 rfl rfl [0, 2] [some 0, none, some 1, none, none] rfl rfl ⟨rfl, rfl, rfl, rfl, rfl, rfl, rfl, rfl, rfl, trivial⟩ rfl rfl rfl d_M_dread_107 (fun H locs hV => ?_)
  refine lv_goto (tgt := 114) hx hb d_M_dread_110 (by decide) ?_
  have e_ := Option.some.inj hf
  subst e_
  exact k_iret X rfl hV rfl d_M_dread_114
set_option maxHeartbeats 2000000 in
set_option maxRecDepth 20000 in
theorem t_M_dread_2 {l : Launch} {p : Program} {e : Env} {s : State} {m : MethodId} {args : Array Value} {below : List Frame} {meth : Method} {c : Code} {D : kD} {wc0 : va_W} {h : Nat} {h_now : Nat} {h_kept : Nat} {h_aside : Nat} {h_found : Nat} {h_down : Nat} {h_along : Nat} {h_parts : Nat} {h_gone : Nat} {h_tape : Nat} {h_kinds : Nat} {h_items : Nat} {h_widths : Nat} {h_sizes : Nat} {h_numbers : Nat} {h_moved : Nat} {v_isKept : Int32} {v_taped : Int32} {v_begins : Int32} {v_ends : Int32} {v_sort : Int32} {v_value : Int32} {v_isWrong : Int32} {v_itemMany : Int32} {v_farmMany : Int32} {v_farmCells : Int64} {v_now : Nat → Int32} {v_found : Nat → Int32} {v_parts : Nat → Int64} {v_gone : Nat → Int64} {s0 : Int64} {x1 : Int32} {x2 : Int64} {x4 : Int32} {rec1 : Int32 → Int64 → Int32 → (Nat → Int64) → (Nat → Int64) → Option (Int32 × (Nat → Int32) × (Nat → Int64) × (Nat → Int64))} {out : Int32 × (Nat → Int32) × (Nat → Int64) × (Nat → Int64)} (X : kX p m meth c s args D (va_A wc0 s.heap.size) b_M_dread "MountainFarmsModel" 9 (some .int)) (hrec1 : ∀ (x1 : Int32) (x2 : Int64) (x4 : Int32) (v_parts : Nat → Int64) (v_gone : Nat → Int64), rec1 x1 x2 x4 v_parts v_gone = some out → ∀ (H : Heap) (locs : List Loc) (ls : Array Slot), kV D (va_A wc0 s.heap.size) s (wd_M_dread D h h_now h_kept h_aside h_found h_down h_along h_parts h_gone h_tape h_kinds h_items h_widths h_sizes h_numbers h_moved v_isKept v_taped v_begins v_ends v_sort v_value v_isWrong v_itemMany v_farmMany v_farmCells v_now v_found v_parts v_gone) H locs → lv_has ls 9 [(0, .ref h), (1, .int x1), (2, .long x2), (4, .int x4)] → W p l e { frames := 2, cells := 0, slots := 0, locals := 46 } s m args below meth c H locs 0 0 (MQ below (kQi D wc0 (wd_M_dread D h h_now h_kept h_aside h_found h_down h_along h_parts h_gone h_tape h_kinds h_items h_widths h_sizes h_numbers h_moved v_isKept v_taped v_begins v_ends v_sort v_value v_isWrong v_itemMany v_farmMany v_farmCells v_now out.2.1 out.2.2.1 out.2.2.2) s.heap.size out.1) args s 0 0 (va_A wc0 s.heap.size)) (F0 m 7 ls [])) (hf : f_M_dread_2 rec1 s0 x1 x2 x4 v_now v_found v_parts v_gone = some out) {H : Heap} {locs : List Loc} (hV : kV D (va_A wc0 s.heap.size) s (wd_M_dread D h h_now h_kept h_aside h_found h_down h_along h_parts h_gone h_tape h_kinds h_items h_widths h_sizes h_numbers h_moved v_isKept v_taped v_begins v_ends v_sort v_value v_isWrong v_itemMany v_farmMany v_farmCells v_now v_found v_parts v_gone) H locs) {ls : Array Slot} (hl : lv_has ls 9 [(0, .ref h), (1, .int x1), (2, .long x2), (4, .int x4)]) : W p l e { frames := 2, cells := 0, slots := 0, locals := 46 } s m args below meth c H locs 0 0 (MQ below (kQi D wc0 (wd_M_dread D h h_now h_kept h_aside h_found h_down h_along h_parts h_gone h_tape h_kinds h_items h_widths h_sizes h_numbers h_moved v_isKept v_taped v_begins v_ends v_sort v_value v_isWrong v_itemMany v_farmMany v_farmCells v_now out.2.1 out.2.2.1 out.2.2.2) s.heap.size out.1) args s 0 0 (va_A wc0 s.heap.size)) (F0 m 68 ls [.long s0]) := by
  unfold f_M_dread_2 at hf
  obtain ⟨hx, hb, -⟩ := id X
  refine lv_lstore (lv' := [(7, .long s0), (0, .ref h), (1, .int x1), (2, .long x2), (4, .int x4)]) hx hb d_M_dread_68 hl (by decide) rfl (fun ls hl => ?_)
  refine lv_lload hx hb d_M_dread_70 (lv_at hl 0 rfl) ?_
  refine lv_lconst (v := 0) hx hb d_M_dread_72 lc_0 ?_
  refine W.lcmp hx hb d_M_dread_73 ?_
  refine lv_if_lt (tgt := 94) hx hb d_M_dread_74 (by decide) (fun c_34 => ?_) (fun c_34 => ?_)
  · replace hf := kifp c_34 hf
    refine lv_iinc (v := (x4 + 1)) (lv' := [(4, .int (x4 + 1)), (7, .long s0), (0, .ref h), (1, .int x1), (2, .long x2)]) hx hb d_M_dread_94 hl (k := 4) rfl rfl (by decide) rfl (fun ls hl => ?_)
    refine lv_goto (tgt := 7) hx hb d_M_dread_97 (by decide) ?_
    exact hrec1 _ _ _ _ _ hf _ _ _ hV (lv_sub hl [2, 3, 4, 0] rfl)
  replace hf := kifn c_34 hf
  refine lv_iload_n hx hb d_M_dread_77 rfl (lv_at hl 2 rfl) ?_
  refine lv_if_lt (tgt := 88) hx hb d_M_dread_78 (by decide) (fun c_35 => ?_) (fun c_35 => ?_)
  · replace hf := kifp c_35 hf
    refine lv_lload hx hb d_M_dread_88 (lv_at hl 0 rfl) ?_
    refine lv_lstore_n (lv' := [(2, .long s0), (7, .long s0), (0, .ref h), (1, .int x1), (4, .int x4)]) hx hb d_M_dread_90 rfl hl (by decide) rfl (fun ls hl => ?_)
    refine lv_iload hx hb d_M_dread_91 (lv_at hl 4 rfl) ?_
    refine lv_istore_n (lv' := [(1, .int x4), (2, .long s0), (7, .long s0), (0, .ref h), (4, .int x4)]) hx hb d_M_dread_93 rfl hl (by decide) rfl (fun ls hl => ?_)
    refine lv_iinc (v := (x4 + 1)) (lv' := [(4, .int (x4 + 1)), (1, .int x4), (2, .long s0), (7, .long s0), (0, .ref h)]) hx hb d_M_dread_94 hl (k := 4) rfl rfl (by decide) rfl (fun ls hl => ?_)
    refine lv_goto (tgt := 7) hx hb d_M_dread_97 (by decide) ?_
    exact hrec1 _ _ _ _ _ hf _ _ _ hV (lv_sub hl [4, 1, 2, 0] rfl)
  replace hf := kifn c_35 hf
  refine lv_lload hx hb d_M_dread_81 (lv_at hl 0 rfl) ?_
  refine lv_lload_n hx hb d_M_dread_83 rfl (lv_at hl 3 rfl) ?_
  refine W.lcmp hx hb d_M_dread_84 ?_
  refine lv_if_le (tgt := 94) hx hb d_M_dread_85 (by decide) (fun c_36 => ?_) (fun c_36 => ?_)
  · replace hf := kifp c_36 hf
    refine lv_iinc (v := (x4 + 1)) (lv' := [(4, .int (x4 + 1)), (7, .long s0), (0, .ref h), (1, .int x1), (2, .long x2)]) hx hb d_M_dread_94 hl (k := 4) rfl rfl (by decide) rfl (fun ls hl => ?_)
    refine lv_goto (tgt := 7) hx hb d_M_dread_97 (by decide) ?_
    exact hrec1 _ _ _ _ _ hf _ _ _ hV (lv_sub hl [2, 3, 4, 0] rfl)
  replace hf := kifn c_36 hf
  refine lv_lload hx hb d_M_dread_88 (lv_at hl 0 rfl) ?_
  refine lv_lstore_n (lv' := [(2, .long s0), (7, .long s0), (0, .ref h), (1, .int x1), (4, .int x4)]) hx hb d_M_dread_90 rfl hl (by decide) rfl (fun ls hl => ?_)
  refine lv_iload hx hb d_M_dread_91 (lv_at hl 4 rfl) ?_
  refine lv_istore_n (lv' := [(1, .int x4), (2, .long s0), (7, .long s0), (0, .ref h), (4, .int x4)]) hx hb d_M_dread_93 rfl hl (by decide) rfl (fun ls hl => ?_)
  refine lv_iinc (v := (x4 + 1)) (lv' := [(4, .int (x4 + 1)), (1, .int x4), (2, .long s0), (7, .long s0), (0, .ref h)]) hx hb d_M_dread_94 hl (k := 4) rfl rfl (by decide) rfl (fun ls hl => ?_)
  refine lv_goto (tgt := 7) hx hb d_M_dread_97 (by decide) ?_
  exact hrec1 _ _ _ _ _ hf _ _ _ hV (lv_sub hl [4, 1, 2, 0] rfl)
set_option maxHeartbeats 2000000 in
set_option maxRecDepth 20000 in
theorem tb_M_dread_1 {l : Launch} {p : Program} {e : Env} {s : State} {m : MethodId} {args : Array Value} {below : List Frame} {meth : Method} {c : Code} {D : kD} {wc0 : va_W} {h : Nat} {h_now : Nat} {h_kept : Nat} {h_aside : Nat} {h_found : Nat} {h_down : Nat} {h_along : Nat} {h_parts : Nat} {h_gone : Nat} {h_tape : Nat} {h_kinds : Nat} {h_items : Nat} {h_widths : Nat} {h_sizes : Nat} {h_numbers : Nat} {h_moved : Nat} {v_isKept : Int32} {v_taped : Int32} {v_begins : Int32} {v_ends : Int32} {v_sort : Int32} {v_value : Int32} {v_isWrong : Int32} {v_itemMany : Int32} {v_farmMany : Int32} {v_farmCells : Int64} {v_now : Nat → Int32} {v_found : Nat → Int32} {v_parts : Nat → Int64} {v_gone : Nat → Int64} {x1 : Int32} {x2 : Int64} {x4 : Int32} {rec1 : Int32 → Int64 → Int32 → (Nat → Int64) → (Nat → Int64) → Option (Int32 × (Nat → Int32) × (Nat → Int64) × (Nat → Int64))} {out : Int32 × (Nat → Int32) × (Nat → Int64) × (Nat → Int64)} (X : kX p m meth c s args D (va_A wc0 s.heap.size) b_M_dread "MountainFarmsModel" 9 (some .int)) (hrec1 : ∀ (x1 : Int32) (x2 : Int64) (x4 : Int32) (v_parts : Nat → Int64) (v_gone : Nat → Int64), rec1 x1 x2 x4 v_parts v_gone = some out → ∀ (H : Heap) (locs : List Loc) (ls : Array Slot), kV D (va_A wc0 s.heap.size) s (wd_M_dread D h h_now h_kept h_aside h_found h_down h_along h_parts h_gone h_tape h_kinds h_items h_widths h_sizes h_numbers h_moved v_isKept v_taped v_begins v_ends v_sort v_value v_isWrong v_itemMany v_farmMany v_farmCells v_now v_found v_parts v_gone) H locs → lv_has ls 9 [(0, .ref h), (1, .int x1), (2, .long x2), (4, .int x4)] → W p l e { frames := 2, cells := 0, slots := 0, locals := 46 } s m args below meth c H locs 0 0 (MQ below (kQi D wc0 (wd_M_dread D h h_now h_kept h_aside h_found h_down h_along h_parts h_gone h_tape h_kinds h_items h_widths h_sizes h_numbers h_moved v_isKept v_taped v_begins v_ends v_sort v_value v_isWrong v_itemMany v_farmMany v_farmCells v_now out.2.1 out.2.2.1 out.2.2.2) s.heap.size out.1) args s 0 0 (va_A wc0 s.heap.size)) (F0 m 7 ls [])) (hf : fb_M_dread_1 rec1 v_now v_found x1 x2 x4 v_parts v_gone = some out) {H : Heap} {locs : List Loc} (hV : kV D (va_A wc0 s.heap.size) s (wd_M_dread D h h_now h_kept h_aside h_found h_down h_along h_parts h_gone h_tape h_kinds h_items h_widths h_sizes h_numbers h_moved v_isKept v_taped v_begins v_ends v_sort v_value v_isWrong v_itemMany v_farmMany v_farmCells v_now v_found v_parts v_gone) H locs) {ls : Array Slot} (hl : lv_has ls 9 [(0, .ref h), (1, .int x1), (2, .long x2), (4, .int x4)]) : W p l e { frames := 2, cells := 0, slots := 0, locals := 46 } s m args below meth c H locs 0 0 (MQ below (kQi D wc0 (wd_M_dread D h h_now h_kept h_aside h_found h_down h_along h_parts h_gone h_tape h_kinds h_items h_widths h_sizes h_numbers h_moved v_isKept v_taped v_begins v_ends v_sort v_value v_isWrong v_itemMany v_farmMany v_farmCells v_now out.2.1 out.2.2.1 out.2.2.2) s.heap.size out.1) args s 0 0 (va_A wc0 s.heap.size)) (F0 m 7 ls []) := by
  unfold fb_M_dread_1 at hf
  obtain ⟨hx, hb, -⟩ := id X
  refine lv_iload hx hb d_M_dread_7 (lv_at hl 3 rfl) ?_
  refine lv_iconst (v := 4) hx hb d_M_dread_9 ic_4 ?_
  refine lv_icmp_ge (tgt := 100) hx hb d_M_dread_10 (by decide) (fun c_21 => ?_) (fun c_21 => ?_)
  · replace hf := kifp c_21 hf
    exact t_M_dread_3 X hf hV (lv_sub hl [0, 1] rfl)
  replace hf := kifn c_21 hf
  refine lv_aload_n hx hb d_M_dread_13 rfl (lv_at hl 0 rfl) ?_
  refine k_get X hV 0 9 0 rfl rfl rfl gw_887 rfl rfl d_M_dread_14 ?_
  refine lv_bipush (v := 11) hx hb d_M_dread_17 bp_11 ?_
  refine k_iald X hV 1 rfl kin_11_218 kln_11 d_M_dread_19 ?_
  refine lv_bipush (v := 6) hx hb d_M_dread_20 bp_6 ?_
  refine lv_icmp_ge (tgt := 100) hx hb d_M_dread_22 (by decide) (fun c_22 => ?_) (fun c_22 => ?_)
  · replace hf := kifp c_22 hf
    exact t_M_dread_3 X hf hV (lv_sub hl [0, 1] rfl)
  replace hf := kifn c_22 hf
  refine lv_aload_n hx hb d_M_dread_25 rfl (lv_at hl 0 rfl) ?_
  obtain ⟨r_23, v_parts_24, v_gone_25, hc_26, hf⟩ := kb3_some hf
  refine k_cvl (w1 := (wd_M_weigh D h h_now h_kept h_aside h_found h_down h_along h_parts h_gone h_tape h_kinds h_items h_widths h_sizes h_numbers h_moved v_isKept v_taped v_begins v_ends v_sort v_value v_isWrong v_itemMany v_farmMany v_farmCells v_now v_parts_24 v_gone_25)) (r := r_23) (ws' := (wd_M_dread D h h_now h_kept h_aside h_found h_down h_along h_parts h_gone h_tape h_kinds h_items h_widths h_sizes h_numbers h_moved v_isKept v_taped v_begins v_ends v_sort v_value v_isWrong v_itemMany v_farmMany v_farmCells v_now v_found v_parts_24 v_gone_25)) X hV hl.1 (c_M_weigh D h h_now h_kept h_aside h_found h_down h_along h_parts h_gone h_tape h_kinds h_items h_widths h_sizes h_numbers h_moved v_isKept v_taped v_begins v_ends v_sort v_value v_isWrong v_itemMany v_farmMany v_farmCells v_now v_parts v_gone hc_26) fk_M_weigh gw_1106 rfl 0 9 rfl rfl [0, 1, 3, 4] [some 0, some 1, none, some 2, some 3] rfl rfl ⟨rfl, rfl, rfl, rfl, rfl, rfl, rfl, rfl, rfl, rfl, rfl, rfl, rfl, trivial⟩ rfl rfl rfl d_M_dread_26 (fun H locs hV => ?_)
  refine lv_pop2_2 hx hb d_M_dread_29 rfl ?_
  refine lv_aload_n hx hb d_M_dread_30 rfl (lv_at hl 0 rfl) ?_
  refine lv_iload hx hb d_M_dread_31 (lv_at hl 3 rfl) ?_
  obtain ⟨v_parts_27, v_gone_28, hc_29, hf⟩ := kb2_some hf
  refine k_cvv (w1 := (wd_M_seen D h h_now h_kept h_aside h_found h_down h_along h_parts h_gone h_tape h_kinds h_items h_widths h_sizes h_numbers h_moved v_isKept v_taped v_begins v_ends v_sort v_value v_isWrong v_itemMany v_farmMany v_farmCells v_now v_parts_27 v_gone_28)) (ws' := (wd_M_dread D h h_now h_kept h_aside h_found h_down h_along h_parts h_gone h_tape h_kinds h_items h_widths h_sizes h_numbers h_moved v_isKept v_taped v_begins v_ends v_sort v_value v_isWrong v_itemMany v_farmMany v_farmCells v_now v_found v_parts_27 v_gone_28)) X hV hl.1 (c_M_seen D h h_now h_kept h_aside h_found h_down h_along h_parts h_gone h_tape h_kinds h_items h_widths h_sizes h_numbers h_moved v_isKept v_taped v_begins v_ends v_sort v_value v_isWrong v_itemMany v_farmMany v_farmCells v_now v_parts_24 v_gone_25 x4 hc_29) fk_M_seen gw_1111 rfl 0 9 rfl rfl [0, 1, 3, 4] [some 0, some 1, none, some 2, some 3] rfl rfl ⟨rfl, rfl, rfl, rfl, rfl, rfl, rfl, rfl, rfl, rfl, rfl, rfl, rfl, trivial⟩ rfl rfl rfl d_M_dread_33 (fun H locs hV => ?_)
  refine lv_aload_n hx hb d_M_dread_36 rfl (lv_at hl 0 rfl) ?_
  obtain ⟨r_30, hc_31, hf⟩ := kb1_some hf
  refine k_cvl (w1 := (wd_M_all D h h_now h_kept h_aside h_found h_down h_along h_parts h_gone h_tape h_kinds h_items h_widths h_sizes h_numbers h_moved v_isKept v_taped v_begins v_ends v_sort v_value v_isWrong v_itemMany v_farmMany v_farmCells v_parts_27)) (r := r_30) (ws' := (wd_M_dread D h h_now h_kept h_aside h_found h_down h_along h_parts h_gone h_tape h_kinds h_items h_widths h_sizes h_numbers h_moved v_isKept v_taped v_begins v_ends v_sort v_value v_isWrong v_itemMany v_farmMany v_farmCells v_now v_found v_parts_27 v_gone_28)) X hV hl.1 (c_M_all D h h_now h_kept h_aside h_found h_down h_along h_parts h_gone h_tape h_kinds h_items h_widths h_sizes h_numbers h_moved v_isKept v_taped v_begins v_ends v_sort v_value v_isWrong v_itemMany v_farmMany v_farmCells v_parts_27 hc_31) fk_M_all gw_1115 rfl 0 9 rfl rfl [0, 3] [some 0, none, none, some 1, none] rfl rfl ⟨rfl, rfl, rfl, rfl, rfl, rfl, rfl, rfl, rfl, trivial⟩ rfl rfl rfl d_M_dread_37 (fun H locs hV => ?_)
  refine lv_lstore (lv' := [(5, .long r_30), (0, .ref h), (1, .int x1), (2, .long x2), (4, .int x4)]) hx hb d_M_dread_40 hl (by decide) rfl (fun ls hl => ?_)
  refine lv_lload hx hb d_M_dread_42 (lv_at hl 0 rfl) ?_
  refine lv_lconst (v := 0) hx hb d_M_dread_44 lc_0 ?_
  refine W.lcmp hx hb d_M_dread_45 ?_
  refine lv_if_ne (tgt := 55) hx hb d_M_dread_46 (by decide) (fun c_32 => ?_) (fun c_32 => ?_)
  · replace hf := kifn c_32 hf
    refine k_ldc2 (v := 1000) X gw_1133 d_M_dread_55 ?_
    refine lv_aload_n hx hb d_M_dread_58 rfl (lv_at hl 1 rfl) ?_
    refine k_get X hV 0 9 7 rfl rfl rfl gw_894 rfl rfl d_M_dread_59 ?_
    refine lv_iconst (v := 3) hx hb d_M_dread_62 ic_3 ?_
    refine k_lald X hV 3 rfl kin_3_4 kln_3 d_M_dread_63 ?_
    refine lv_lmul hx hb d_M_dread_64 ?_
    refine lv_lload hx hb d_M_dread_65 (lv_at hl 0 rfl) ?_
    obtain ⟨h_33, hf⟩ := kchk hf
    refine lv_ldiv hx hb d_M_dread_67 h_33 ?_
    exact t_M_dread_2 X hrec1 hf hV (lv_sub hl [1, 2, 3, 4] rfl)
  replace hf := kifp c_32 hf
  refine k_ldc2 (v := (-1)) X gw_1132 d_M_dread_49 ?_
  refine lv_goto (tgt := 68) hx hb d_M_dread_52 (by decide) ?_
  exact t_M_dread_2 X hrec1 hf hV (lv_sub hl [1, 2, 3, 4] rfl)
set_option maxHeartbeats 2000000 in
set_option maxRecDepth 20000 in
theorem tl_M_dread_1 {l : Launch} {p : Program} {e : Env} {s : State} {m : MethodId} {args : Array Value} {below : List Frame} {meth : Method} {c : Code} {D : kD} {wc0 : va_W} {h : Nat} {h_now : Nat} {h_kept : Nat} {h_aside : Nat} {h_found : Nat} {h_down : Nat} {h_along : Nat} {h_parts : Nat} {h_gone : Nat} {h_tape : Nat} {h_kinds : Nat} {h_items : Nat} {h_widths : Nat} {h_sizes : Nat} {h_numbers : Nat} {h_moved : Nat} {v_isKept : Int32} {v_taped : Int32} {v_begins : Int32} {v_ends : Int32} {v_sort : Int32} {v_value : Int32} {v_isWrong : Int32} {v_itemMany : Int32} {v_farmMany : Int32} {v_farmCells : Int64} {v_now : Nat → Int32} {v_found : Nat → Int32} {out : Int32 × (Nat → Int32) × (Nat → Int64) × (Nat → Int64)} (X : kX p m meth c s args D (va_A wc0 s.heap.size) b_M_dread "MountainFarmsModel" 9 (some .int)) : ∀ (n : Nat) (x1 : Int32) (x2 : Int64) (x4 : Int32) (v_parts : Nat → Int64) (v_gone : Nat → Int64), fl_M_dread_1 v_now v_found n x1 x2 x4 v_parts v_gone = some out → ∀ (H : Heap) (locs : List Loc) (ls : Array Slot), kV D (va_A wc0 s.heap.size) s (wd_M_dread D h h_now h_kept h_aside h_found h_down h_along h_parts h_gone h_tape h_kinds h_items h_widths h_sizes h_numbers h_moved v_isKept v_taped v_begins v_ends v_sort v_value v_isWrong v_itemMany v_farmMany v_farmCells v_now v_found v_parts v_gone) H locs → lv_has ls 9 [(0, .ref h), (1, .int x1), (2, .long x2), (4, .int x4)] → W p l e { frames := 2, cells := 0, slots := 0, locals := 46 } s m args below meth c H locs 0 0 (MQ below (kQi D wc0 (wd_M_dread D h h_now h_kept h_aside h_found h_down h_along h_parts h_gone h_tape h_kinds h_items h_widths h_sizes h_numbers h_moved v_isKept v_taped v_begins v_ends v_sort v_value v_isWrong v_itemMany v_farmMany v_farmCells v_now out.2.1 out.2.2.1 out.2.2.2) s.heap.size out.1) args s 0 0 (va_A wc0 s.heap.size)) (F0 m 7 ls []) := by
  intro n
  induction n with
  | zero => intro x1 x2 x4 v_parts v_gone hf; exact knone hf
  | succ n ih => intro x1 x2 x4 v_parts v_gone hf H locs ls hV hl; exact tb_M_dread_1 X ih hf hV hl
set_option maxHeartbeats 2000000 in
set_option maxRecDepth 20000 in
theorem t_M_dread {l : Launch} {p : Program} {e : Env} {s : State} {m : MethodId} {args : Array Value} {below : List Frame} {meth : Method} {c : Code} {D : kD} {wc0 : va_W} {h : Nat} {h_now : Nat} {h_kept : Nat} {h_aside : Nat} {h_found : Nat} {h_down : Nat} {h_along : Nat} {h_parts : Nat} {h_gone : Nat} {h_tape : Nat} {h_kinds : Nat} {h_items : Nat} {h_widths : Nat} {h_sizes : Nat} {h_numbers : Nat} {h_moved : Nat} {v_isKept : Int32} {v_taped : Int32} {v_begins : Int32} {v_ends : Int32} {v_sort : Int32} {v_value : Int32} {v_isWrong : Int32} {v_itemMany : Int32} {v_farmMany : Int32} {v_farmCells : Int64} {v_now : Nat → Int32} {v_found : Nat → Int32} {v_parts : Nat → Int64} {v_gone : Nat → Int64} {out : Int32 × (Nat → Int32) × (Nat → Int64) × (Nat → Int64)} (X : kX p m meth c s args D (va_A wc0 s.heap.size) b_M_dread "MountainFarmsModel" 9 (some .int)) (hf : f_M_dread v_now v_found v_parts v_gone = some out) {H : Heap} {locs : List Loc} (hV : kV D (va_A wc0 s.heap.size) s (wd_M_dread D h h_now h_kept h_aside h_found h_down h_along h_parts h_gone h_tape h_kinds h_items h_widths h_sizes h_numbers h_moved v_isKept v_taped v_begins v_ends v_sort v_value v_isWrong v_itemMany v_farmMany v_farmCells v_now v_found v_parts v_gone) H locs) {ls : Array Slot} (hl : lv_has ls 9 [(0, .ref h)]) : W p l e { frames := 2, cells := 0, slots := 0, locals := 46 } s m args below meth c H locs 0 0 (MQ below (kQi D wc0 (wd_M_dread D h h_now h_kept h_aside h_found h_down h_along h_parts h_gone h_tape h_kinds h_items h_widths h_sizes h_numbers h_moved v_isKept v_taped v_begins v_ends v_sort v_value v_isWrong v_itemMany v_farmMany v_farmCells v_now out.2.1 out.2.2.1 out.2.2.2) s.heap.size out.1) args s 0 0 (va_A wc0 s.heap.size)) (F0 m 0 ls []) := by
  unfold f_M_dread at hf
  obtain ⟨hx, hb, -⟩ := id X
  refine lv_iconst (v := (-1)) hx hb d_M_dread_0 ic_m1 ?_
  refine lv_istore_n (lv' := [(1, .int (-1 : Int32)), (0, .ref h)]) hx hb d_M_dread_1 rfl hl (by decide) rfl (fun ls hl => ?_)
  refine lv_lconst (v := 0) hx hb d_M_dread_2 lc_0 ?_
  refine lv_lstore_n (lv' := [(2, .long (0 : Int64)), (1, .int (-1 : Int32)), (0, .ref h)]) hx hb d_M_dread_3 rfl hl (by decide) rfl (fun ls hl => ?_)
  refine lv_iconst (v := 0) hx hb d_M_dread_4 ic_0 ?_
  refine lv_istore (lv' := [(4, .int (0 : Int32)), (2, .long (0 : Int64)), (1, .int (-1 : Int32)), (0, .ref h)]) hx hb d_M_dread_5 hl (by decide) rfl (fun ls hl => ?_)
  exact tl_M_dread_1 X _ _ _ _ _ _ hf _ _ _ hV (lv_sub hl [3, 2, 1, 0] rfl)
set_option maxHeartbeats 2000000 in
set_option maxRecDepth 20000 in
theorem c_M_dread {l : Launch} (D : kD) (h : Nat) (h_now : Nat) (h_kept : Nat) (h_aside : Nat) (h_found : Nat) (h_down : Nat) (h_along : Nat) (h_parts : Nat) (h_gone : Nat) (h_tape : Nat) (h_kinds : Nat) (h_items : Nat) (h_widths : Nat) (h_sizes : Nat) (h_numbers : Nat) (h_moved : Nat) (v_isKept : Int32) (v_taped : Int32) (v_begins : Int32) (v_ends : Int32) (v_sort : Int32) (v_value : Int32) (v_isWrong : Int32) (v_itemMany : Int32) (v_farmMany : Int32) (v_farmCells : Int64) (v_now : Nat → Int32) (v_found : Nat → Int32) (v_parts : Nat → Int64) (v_gone : Nat → Int64) {out : Int32 × (Nat → Int32) × (Nat → Int64) × (Nat → Int64)} (hf : f_M_dread v_now v_found v_parts v_gone = some out) : kMi l D y_M_dread b_M_dread 9 (some .int) { frames := 2, cells := 0, slots := 0, locals := 46 } [.ref h] (wd_M_dread D h h_now h_kept h_aside h_found h_down h_along h_parts h_gone h_tape h_kinds h_items h_widths h_sizes h_numbers h_moved v_isKept v_taped v_begins v_ends v_sort v_value v_isWrong v_itemMany v_farmMany v_farmCells v_now v_found v_parts v_gone) (wd_M_dread D h h_now h_kept h_aside h_found h_down h_along h_parts h_gone h_tape h_kinds h_items h_widths h_sizes h_numbers h_moved v_isKept v_taped v_begins v_ends v_sort v_value v_isWrong v_itemMany v_farmMany v_farmCells v_now out.2.1 out.2.2.1 out.2.2.2) out.1 :=
  kMi_of (own := "MountainFarmsModel") (plainFor_of_name (by decide)) rfl rfl (fun p e s m args below meth c ls X hV hl => t_M_dread X hf hV hl)
set_option maxHeartbeats 2000000 in
set_option maxRecDepth 20000 in
theorem t_M_isVolume {l : Launch} {p : Program} {e : Env} {s : State} {m : MethodId} {args : Array Value} {below : List Frame} {meth : Method} {c : Code} {D : kD} {wc0 : va_W} {x0 : Int32} {out : Int32} (X : kX p m meth c s args D (va_A wc0 s.heap.size) b_M_isVolume "MountainFarmsModel" 1 (some .boolean)) (hf : f_M_isVolume x0 = some out) {H : Heap} {locs : List Loc} (hV : kV D (va_A wc0 s.heap.size) s (wd_M_isVolume D) H locs) {ls : Array Slot} (hl : lv_has ls 1 [(0, .int x0)]) : W p l e { frames := 1, cells := 0, slots := 0, locals := 22 } s m args below meth c H locs 0 0 (MQ below (kQi D wc0 (wd_M_isVolume D) s.heap.size out) args s 0 0 (va_A wc0 s.heap.size)) (F0 m 0 ls []) := by
  unfold f_M_isVolume at hf
  obtain ⟨hx, hb, -⟩ := id X
  refine lv_iload_n hx hb d_M_isVolume_0 rfl (lv_at hl 0 rfl) ?_
  refine lv_iconst (v := 1) hx hb d_M_isVolume_1 ic_1 ?_
  refine lv_bipush (v := 99) hx hb d_M_isVolume_2 bp_99 ?_
  obtain ⟨r_4, hc_5, hf⟩ := kb1_some hf
  refine k_csi (w1 := (wd_M_within D)) (r := r_4) (ws' := (wd_M_isVolume D)) X hV hl.1 (c_M_within D x0 (1 : Int32) (99 : Int32) hc_5) fk_M_within gw_970 rfl [] [] rfl rfl trivial rfl rfl rfl d_M_isVolume_4 (fun H locs hV => ?_)
  obtain ⟨h_6, hf⟩ := kchk hf
  have e_ := Option.some.inj hf
  subst e_
  exact k_iret X rfl hV (knarB h_6) d_M_isVolume_7
set_option maxHeartbeats 2000000 in
set_option maxRecDepth 20000 in
theorem c_M_isVolume {l : Launch} (D : kD) (x0 : Int32) {out : Int32} (hf : f_M_isVolume x0 = some out) : kMi l D y_M_isVolume b_M_isVolume 1 (some .boolean) { frames := 1, cells := 0, slots := 0, locals := 22 } [.int x0] (wd_M_isVolume D) (wd_M_isVolume D) out :=
  kMi_of (own := "MountainFarmsModel") (plainFor_of_name (by decide)) rfl rfl (fun p e s m args below meth c ls X hV hl => t_M_isVolume X hf hV hl)
set_option maxHeartbeats 2000000 in
set_option maxRecDepth 20000 in
theorem tb_M_copyRow_1 {l : Launch} {p : Program} {e : Env} {s : State} {m : MethodId} {args : Array Value} {below : List Frame} {meth : Method} {c : Code} {D : kD} {wc0 : va_W} {h_p0 : Nat} {h_p1 : Nat} {v_p0 : Nat → Int32} {v_p1 : Nat → Int32} {x2 : Int32} {rec1 : Int32 → (Nat → Int32) → Option ((Nat → Int32))} {out : (Nat → Int32)} (X : kX p m meth c s args D (va_A wc0 s.heap.size) b_M_copyRow "MountainFarmsModel" 3 none) (hrec1 : ∀ (x2 : Int32) (v_p1 : Nat → Int32), rec1 x2 v_p1 = some out → ∀ (H : Heap) (locs : List Loc) (ls : Array Slot), kV D (va_A wc0 s.heap.size) s (wd_M_copyRow D h_p0 h_p1 v_p0 v_p1) H locs → lv_has ls 3 [(0, .ref h_p0), (1, .ref h_p1), (2, .int x2)] → W p l e { frames := 0, cells := 0, slots := 0, locals := 0 } s m args below meth c H locs 0 0 (MQ below (kQv D wc0 (wd_M_copyRow D h_p0 h_p1 v_p0 out) s.heap.size) args s 0 0 (va_A wc0 s.heap.size)) (F0 m 2 ls [])) (hf : fb_M_copyRow_1 rec1 v_p0 x2 v_p1 = some out) {H : Heap} {locs : List Loc} (hV : kV D (va_A wc0 s.heap.size) s (wd_M_copyRow D h_p0 h_p1 v_p0 v_p1) H locs) {ls : Array Slot} (hl : lv_has ls 3 [(0, .ref h_p0), (1, .ref h_p1), (2, .int x2)]) : W p l e { frames := 0, cells := 0, slots := 0, locals := 0 } s m args below meth c H locs 0 0 (MQ below (kQv D wc0 (wd_M_copyRow D h_p0 h_p1 v_p0 out) s.heap.size) args s 0 0 (va_A wc0 s.heap.size)) (F0 m 2 ls []) := by
  unfold fb_M_copyRow_1 at hf
  obtain ⟨hx, hb, -⟩ := id X
  refine lv_iload_n hx hb d_M_copyRow_2 rfl (lv_at hl 2 rfl) ?_
  refine lv_sipush (v := 218) hx hb d_M_copyRow_3 sp_218 ?_
  refine lv_icmp_ge (tgt := 21) hx hb d_M_copyRow_6 (by decide) (fun c_4 => ?_) (fun c_4 => ?_)
  · replace hf := kifp c_4 hf
    have e_ := Option.some.inj hf
    subst e_
    exact k_vret X rfl hV d_M_copyRow_21
  replace hf := kifn c_4 hf
  refine lv_aload_n hx hb d_M_copyRow_9 rfl (lv_at hl 1 rfl) ?_
  refine lv_iload_n hx hb d_M_copyRow_10 rfl (lv_at hl 2 rfl) ?_
  refine lv_aload_n hx hb d_M_copyRow_11 rfl (lv_at hl 0 rfl) ?_
  refine lv_iload_n hx hb d_M_copyRow_12 rfl (lv_at hl 2 rfl) ?_
  obtain ⟨h_5, hf⟩ := kidx_some hf
  refine k_iald X hV 0 rfl h_5 rfl d_M_copyRow_13 ?_
  obtain ⟨h_6, hf⟩ := kidx_some hf
  refine k_iast (ws' := (wd_M_copyRow D h_p0 h_p1 v_p0 (upd v_p1 x2.toNatClampNeg (v_p0 x2.toNatClampNeg)))) X hV 1 rfl h_6 rfl rfl d_M_copyRow_14 (fun H locs hV => ?_)
  refine lv_iinc (v := (x2 + 1)) (lv' := [(2, .int (x2 + 1)), (0, .ref h_p0), (1, .ref h_p1)]) hx hb d_M_copyRow_15 hl (k := 2) rfl rfl (by decide) rfl (fun ls hl => ?_)
  refine lv_goto (tgt := 2) hx hb d_M_copyRow_18 (by decide) ?_
  exact hrec1 _ _ hf _ _ _ hV (lv_sub hl [1, 2, 0] rfl)
set_option maxHeartbeats 2000000 in
set_option maxRecDepth 20000 in
theorem tl_M_copyRow_1 {l : Launch} {p : Program} {e : Env} {s : State} {m : MethodId} {args : Array Value} {below : List Frame} {meth : Method} {c : Code} {D : kD} {wc0 : va_W} {h_p0 : Nat} {h_p1 : Nat} {v_p0 : Nat → Int32} {out : (Nat → Int32)} (X : kX p m meth c s args D (va_A wc0 s.heap.size) b_M_copyRow "MountainFarmsModel" 3 none) : ∀ (n : Nat) (x2 : Int32) (v_p1 : Nat → Int32), fl_M_copyRow_1 v_p0 n x2 v_p1 = some out → ∀ (H : Heap) (locs : List Loc) (ls : Array Slot), kV D (va_A wc0 s.heap.size) s (wd_M_copyRow D h_p0 h_p1 v_p0 v_p1) H locs → lv_has ls 3 [(0, .ref h_p0), (1, .ref h_p1), (2, .int x2)] → W p l e { frames := 0, cells := 0, slots := 0, locals := 0 } s m args below meth c H locs 0 0 (MQ below (kQv D wc0 (wd_M_copyRow D h_p0 h_p1 v_p0 out) s.heap.size) args s 0 0 (va_A wc0 s.heap.size)) (F0 m 2 ls []) := by
  intro n
  induction n with
  | zero => intro x2 v_p1 hf; exact knone hf
  | succ n ih => intro x2 v_p1 hf H locs ls hV hl; exact tb_M_copyRow_1 X ih hf hV hl
set_option maxHeartbeats 2000000 in
set_option maxRecDepth 20000 in
theorem t_M_copyRow {l : Launch} {p : Program} {e : Env} {s : State} {m : MethodId} {args : Array Value} {below : List Frame} {meth : Method} {c : Code} {D : kD} {wc0 : va_W} {h_p0 : Nat} {h_p1 : Nat} {v_p0 : Nat → Int32} {v_p1 : Nat → Int32} {out : (Nat → Int32)} (X : kX p m meth c s args D (va_A wc0 s.heap.size) b_M_copyRow "MountainFarmsModel" 3 none) (hf : f_M_copyRow v_p0 v_p1 = some out) {H : Heap} {locs : List Loc} (hV : kV D (va_A wc0 s.heap.size) s (wd_M_copyRow D h_p0 h_p1 v_p0 v_p1) H locs) {ls : Array Slot} (hl : lv_has ls 3 [(0, .ref h_p0), (1, .ref h_p1)]) : W p l e { frames := 0, cells := 0, slots := 0, locals := 0 } s m args below meth c H locs 0 0 (MQ below (kQv D wc0 (wd_M_copyRow D h_p0 h_p1 v_p0 out) s.heap.size) args s 0 0 (va_A wc0 s.heap.size)) (F0 m 0 ls []) := by
  unfold f_M_copyRow at hf
  obtain ⟨hx, hb, -⟩ := id X
  refine lv_iconst (v := 0) hx hb d_M_copyRow_0 ic_0 ?_
  refine lv_istore_n (lv' := [(2, .int (0 : Int32)), (0, .ref h_p0), (1, .ref h_p1)]) hx hb d_M_copyRow_1 rfl hl (by decide) rfl (fun ls hl => ?_)
  exact tl_M_copyRow_1 X _ _ _ hf _ _ _ hV (lv_sub hl [1, 2, 0] rfl)
set_option maxHeartbeats 2000000 in
set_option maxRecDepth 20000 in
theorem c_M_copyRow {l : Launch} (D : kD) (h_p0 : Nat) (h_p1 : Nat) (v_p0 : Nat → Int32) (v_p1 : Nat → Int32) {out : (Nat → Int32)} (hf : f_M_copyRow v_p0 v_p1 = some out) : kMv l D y_M_copyRow b_M_copyRow 3 none { frames := 0, cells := 0, slots := 0, locals := 0 } [.ref h_p0, .ref h_p1] (wd_M_copyRow D h_p0 h_p1 v_p0 v_p1) (wd_M_copyRow D h_p0 h_p1 v_p0 out) :=
  kMv_of (own := "MountainFarmsModel") (plainFor_of_name (by decide)) rfl rfl (fun p e s m args below meth c ls X hV hl => t_M_copyRow X hf hV hl)
set_option maxHeartbeats 2000000 in
set_option maxRecDepth 20000 in
theorem t_M_flowsTo_2 {l : Launch} {p : Program} {e : Env} {s : State} {m : MethodId} {args : Array Value} {below : List Frame} {meth : Method} {c : Code} {D : kD} {wc0 : va_W} {h : Nat} {h_now : Nat} {h_kept : Nat} {h_aside : Nat} {h_found : Nat} {h_down : Nat} {h_along : Nat} {h_parts : Nat} {h_gone : Nat} {h_tape : Nat} {h_kinds : Nat} {h_items : Nat} {h_widths : Nat} {h_sizes : Nat} {h_numbers : Nat} {h_moved : Nat} {v_isKept : Int32} {v_taped : Int32} {v_begins : Int32} {v_ends : Int32} {v_sort : Int32} {v_value : Int32} {v_isWrong : Int32} {v_itemMany : Int32} {v_farmMany : Int32} {v_farmCells : Int64} {v_now : Nat → Int32} {v_down : Nat → Int32} {v_along : Nat → Int32} {s0 : Int32} {x1 : Int32} {x2 : Int32} {x3 : Int32} {rec1 : Int32 → Int32 → Option (Int32)} {out : Int32} (X : kX p m meth c s args D (va_A wc0 s.heap.size) b_M_flowsTo "MountainFarmsModel" 5 (some .int)) (hrec1 : ∀ (x2 : Int32) (x3 : Int32), rec1 x2 x3 = some out → ∀ (H : Heap) (locs : List Loc) (ls : Array Slot), kV D (va_A wc0 s.heap.size) s (wd_M_flowsTo D h h_now h_kept h_aside h_found h_down h_along h_parts h_gone h_tape h_kinds h_items h_widths h_sizes h_numbers h_moved v_isKept v_taped v_begins v_ends v_sort v_value v_isWrong v_itemMany v_farmMany v_farmCells v_now v_down v_along) H locs → lv_has ls 5 [(0, .ref h), (1, .int x1), (2, .int x2), (3, .int x3)] → W p l e { frames := 2, cells := 0, slots := 0, locals := 46 } s m args below meth c H locs 0 0 (MQ below (kQi D wc0 (wd_M_flowsTo D h h_now h_kept h_aside h_found h_down h_along h_parts h_gone h_tape h_kinds h_items h_widths h_sizes h_numbers h_moved v_isKept v_taped v_begins v_ends v_sort v_value v_isWrong v_itemMany v_farmMany v_farmCells v_now v_down v_along) s.heap.size out) args s 0 0 (va_A wc0 s.heap.size)) (F0 m 4 ls [])) (hf : f_M_flowsTo_2 rec1 s0 x1 x2 x3 v_now v_down v_along = some out) {H : Heap} {locs : List Loc} (hV : kV D (va_A wc0 s.heap.size) s (wd_M_flowsTo D h h_now h_kept h_aside h_found h_down h_along h_parts h_gone h_tape h_kinds h_items h_widths h_sizes h_numbers h_moved v_isKept v_taped v_begins v_ends v_sort v_value v_isWrong v_itemMany v_farmMany v_farmCells v_now v_down v_along) H locs) {ls : Array Slot} (hl : lv_has ls 5 [(0, .ref h), (1, .int x1), (2, .int x2), (3, .int x3)]) : W p l e { frames := 2, cells := 0, slots := 0, locals := 46 } s m args below meth c H locs 0 0 (MQ below (kQi D wc0 (wd_M_flowsTo D h h_now h_kept h_aside h_found h_down h_along h_parts h_gone h_tape h_kinds h_items h_widths h_sizes h_numbers h_moved v_isKept v_taped v_begins v_ends v_sort v_value v_isWrong v_itemMany v_farmMany v_farmCells v_now v_down v_along) s.heap.size out) args s 0 0 (va_A wc0 s.heap.size)) (F0 m 28 ls [.int s0]) := by
  unfold f_M_flowsTo_2 at hf
  obtain ⟨hx, hb, -⟩ := id X
  refine lv_istore (lv' := [(4, .int s0), (0, .ref h), (1, .int x1), (2, .int x2), (3, .int x3)]) hx hb d_M_flowsTo_28 hl (by decide) rfl (fun ls hl => ?_)
  refine lv_iload hx hb d_M_flowsTo_30 (lv_at hl 0 rfl) ?_
  refine lv_if_lt (tgt := 86) hx hb d_M_flowsTo_32 (by decide) (fun c_21 => ?_) (fun c_21 => ?_)
  · replace hf := kifp c_21 hf
    refine lv_iinc (v := (x3 + 1)) (lv' := [(3, .int (x3 + 1)), (4, .int s0), (0, .ref h), (1, .int x1), (2, .int x2)]) hx hb d_M_flowsTo_86 hl (k := 4) rfl rfl (by decide) rfl (fun ls hl => ?_)
    refine lv_goto (tgt := 4) hx hb d_M_flowsTo_89 (by decide) ?_
    exact hrec1 _ _ hf _ _ _ hV (lv_sub hl [2, 3, 4, 0] rfl)
  replace hf := kifn c_21 hf
  refine lv_aload_n hx hb d_M_flowsTo_35 rfl (lv_at hl 1 rfl) ?_
  refine k_get X hV 0 9 0 rfl rfl rfl gw_887 rfl rfl d_M_flowsTo_36 ?_
  refine lv_bipush (v := 50) hx hb d_M_flowsTo_39 bp_50 ?_
  refine lv_iload hx hb d_M_flowsTo_41 (lv_at hl 0 rfl) ?_
  refine lv_iadd hx hb d_M_flowsTo_43 ?_
  obtain ⟨h_22, hf⟩ := kidx_some hf
  refine k_iald X hV 1 rfl h_22 rfl d_M_flowsTo_44 ?_
  refine lv_aload_n hx hb d_M_flowsTo_45 rfl (lv_at hl 1 rfl) ?_
  refine k_get X hV 0 9 0 rfl rfl rfl gw_887 rfl rfl d_M_flowsTo_46 ?_
  refine lv_bipush (v := 50) hx hb d_M_flowsTo_49 bp_50 ?_
  refine lv_iload_n hx hb d_M_flowsTo_51 rfl (lv_at hl 2 rfl) ?_
  refine lv_iadd hx hb d_M_flowsTo_52 ?_
  obtain ⟨h_23, hf⟩ := kidx_some hf
  refine k_iald X hV 1 rfl h_23 rfl d_M_flowsTo_53 ?_
  refine lv_icmp_ge (tgt := 86) hx hb d_M_flowsTo_54 (by decide) (fun c_24 => ?_) (fun c_24 => ?_)
  · replace hf := kifp c_24 hf
    refine lv_iinc (v := (x3 + 1)) (lv' := [(3, .int (x3 + 1)), (4, .int s0), (0, .ref h), (1, .int x1), (2, .int x2)]) hx hb d_M_flowsTo_86 hl (k := 4) rfl rfl (by decide) rfl (fun ls hl => ?_)
    refine lv_goto (tgt := 4) hx hb d_M_flowsTo_89 (by decide) ?_
    exact hrec1 _ _ hf _ _ _ hV (lv_sub hl [2, 3, 4, 0] rfl)
  replace hf := kifn c_24 hf
  refine lv_iload_n hx hb d_M_flowsTo_57 rfl (lv_at hl 3 rfl) ?_
  refine lv_if_lt (tgt := 83) hx hb d_M_flowsTo_58 (by decide) (fun c_25 => ?_) (fun c_25 => ?_)
  · replace hf := kifp c_25 hf
    refine lv_iload hx hb d_M_flowsTo_83 (lv_at hl 0 rfl) ?_
    refine lv_istore_n (lv' := [(2, .int s0), (4, .int s0), (0, .ref h), (1, .int x1), (3, .int x3)]) hx hb d_M_flowsTo_85 rfl hl (by decide) rfl (fun ls hl => ?_)
    refine lv_iinc (v := (x3 + 1)) (lv' := [(3, .int (x3 + 1)), (2, .int s0), (4, .int s0), (0, .ref h), (1, .int x1)]) hx hb d_M_flowsTo_86 hl (k := 4) rfl rfl (by decide) rfl (fun ls hl => ?_)
    refine lv_goto (tgt := 4) hx hb d_M_flowsTo_89 (by decide) ?_
    exact hrec1 _ _ hf _ _ _ hV (lv_sub hl [3, 4, 1, 0] rfl)
  replace hf := kifn c_25 hf
  refine lv_aload_n hx hb d_M_flowsTo_61 rfl (lv_at hl 1 rfl) ?_
  refine k_get X hV 0 9 0 rfl rfl rfl gw_887 rfl rfl d_M_flowsTo_62 ?_
  refine lv_bipush (v := 50) hx hb d_M_flowsTo_65 bp_50 ?_
  refine lv_iload hx hb d_M_flowsTo_67 (lv_at hl 0 rfl) ?_
  refine lv_iadd hx hb d_M_flowsTo_69 ?_
  obtain ⟨h_26, hf⟩ := kidx_some hf
  refine k_iald X hV 1 rfl h_26 rfl d_M_flowsTo_70 ?_
  refine lv_aload_n hx hb d_M_flowsTo_71 rfl (lv_at hl 1 rfl) ?_
  refine k_get X hV 0 9 0 rfl rfl rfl gw_887 rfl rfl d_M_flowsTo_72 ?_
  refine lv_bipush (v := 50) hx hb d_M_flowsTo_75 bp_50 ?_
  refine lv_iload_n hx hb d_M_flowsTo_77 rfl (lv_at hl 3 rfl) ?_
  refine lv_iadd hx hb d_M_flowsTo_78 ?_
  obtain ⟨h_27, hf⟩ := kidx_some hf
  refine k_iald X hV 1 rfl h_27 rfl d_M_flowsTo_79 ?_
  refine lv_icmp_ge (tgt := 86) hx hb d_M_flowsTo_80 (by decide) (fun c_28 => ?_) (fun c_28 => ?_)
  · replace hf := kifp c_28 hf
    refine lv_iinc (v := (x3 + 1)) (lv' := [(3, .int (x3 + 1)), (4, .int s0), (0, .ref h), (1, .int x1), (2, .int x2)]) hx hb d_M_flowsTo_86 hl (k := 4) rfl rfl (by decide) rfl (fun ls hl => ?_)
    refine lv_goto (tgt := 4) hx hb d_M_flowsTo_89 (by decide) ?_
    exact hrec1 _ _ hf _ _ _ hV (lv_sub hl [2, 3, 4, 0] rfl)
  replace hf := kifn c_28 hf
  refine lv_iload hx hb d_M_flowsTo_83 (lv_at hl 0 rfl) ?_
  refine lv_istore_n (lv' := [(2, .int s0), (4, .int s0), (0, .ref h), (1, .int x1), (3, .int x3)]) hx hb d_M_flowsTo_85 rfl hl (by decide) rfl (fun ls hl => ?_)
  refine lv_iinc (v := (x3 + 1)) (lv' := [(3, .int (x3 + 1)), (2, .int s0), (4, .int s0), (0, .ref h), (1, .int x1)]) hx hb d_M_flowsTo_86 hl (k := 4) rfl rfl (by decide) rfl (fun ls hl => ?_)
  refine lv_goto (tgt := 4) hx hb d_M_flowsTo_89 (by decide) ?_
  exact hrec1 _ _ hf _ _ _ hV (lv_sub hl [3, 4, 1, 0] rfl)
set_option maxHeartbeats 2000000 in
set_option maxRecDepth 20000 in
theorem tb_M_flowsTo_1 {l : Launch} {p : Program} {e : Env} {s : State} {m : MethodId} {args : Array Value} {below : List Frame} {meth : Method} {c : Code} {D : kD} {wc0 : va_W} {h : Nat} {h_now : Nat} {h_kept : Nat} {h_aside : Nat} {h_found : Nat} {h_down : Nat} {h_along : Nat} {h_parts : Nat} {h_gone : Nat} {h_tape : Nat} {h_kinds : Nat} {h_items : Nat} {h_widths : Nat} {h_sizes : Nat} {h_numbers : Nat} {h_moved : Nat} {v_isKept : Int32} {v_taped : Int32} {v_begins : Int32} {v_ends : Int32} {v_sort : Int32} {v_value : Int32} {v_isWrong : Int32} {v_itemMany : Int32} {v_farmMany : Int32} {v_farmCells : Int64} {v_now : Nat → Int32} {v_down : Nat → Int32} {v_along : Nat → Int32} {x1 : Int32} {x2 : Int32} {x3 : Int32} {rec1 : Int32 → Int32 → Option (Int32)} {out : Int32} (X : kX p m meth c s args D (va_A wc0 s.heap.size) b_M_flowsTo "MountainFarmsModel" 5 (some .int)) (hrec1 : ∀ (x2 : Int32) (x3 : Int32), rec1 x2 x3 = some out → ∀ (H : Heap) (locs : List Loc) (ls : Array Slot), kV D (va_A wc0 s.heap.size) s (wd_M_flowsTo D h h_now h_kept h_aside h_found h_down h_along h_parts h_gone h_tape h_kinds h_items h_widths h_sizes h_numbers h_moved v_isKept v_taped v_begins v_ends v_sort v_value v_isWrong v_itemMany v_farmMany v_farmCells v_now v_down v_along) H locs → lv_has ls 5 [(0, .ref h), (1, .int x1), (2, .int x2), (3, .int x3)] → W p l e { frames := 2, cells := 0, slots := 0, locals := 46 } s m args below meth c H locs 0 0 (MQ below (kQi D wc0 (wd_M_flowsTo D h h_now h_kept h_aside h_found h_down h_along h_parts h_gone h_tape h_kinds h_items h_widths h_sizes h_numbers h_moved v_isKept v_taped v_begins v_ends v_sort v_value v_isWrong v_itemMany v_farmMany v_farmCells v_now v_down v_along) s.heap.size out) args s 0 0 (va_A wc0 s.heap.size)) (F0 m 4 ls [])) (hf : fb_M_flowsTo_1 rec1 x1 v_now v_down v_along x2 x3 = some out) {H : Heap} {locs : List Loc} (hV : kV D (va_A wc0 s.heap.size) s (wd_M_flowsTo D h h_now h_kept h_aside h_found h_down h_along h_parts h_gone h_tape h_kinds h_items h_widths h_sizes h_numbers h_moved v_isKept v_taped v_begins v_ends v_sort v_value v_isWrong v_itemMany v_farmMany v_farmCells v_now v_down v_along) H locs) {ls : Array Slot} (hl : lv_has ls 5 [(0, .ref h), (1, .int x1), (2, .int x2), (3, .int x3)]) : W p l e { frames := 2, cells := 0, slots := 0, locals := 46 } s m args below meth c H locs 0 0 (MQ below (kQi D wc0 (wd_M_flowsTo D h h_now h_kept h_aside h_found h_down h_along h_parts h_gone h_tape h_kinds h_items h_widths h_sizes h_numbers h_moved v_isKept v_taped v_begins v_ends v_sort v_value v_isWrong v_itemMany v_farmMany v_farmCells v_now v_down v_along) s.heap.size out) args s 0 0 (va_A wc0 s.heap.size)) (F0 m 4 ls []) := by
  unfold fb_M_flowsTo_1 at hf
  obtain ⟨hx, hb, -⟩ := id X
  refine lv_iload_n hx hb d_M_flowsTo_4 rfl (lv_at hl 3 rfl) ?_
  refine lv_iconst (v := 4) hx hb d_M_flowsTo_5 ic_4 ?_
  refine lv_icmp_ge (tgt := 92) hx hb d_M_flowsTo_6 (by decide) (fun c_15 => ?_) (fun c_15 => ?_)
  · replace hf := kifp c_15 hf
    refine lv_iload_n hx hb d_M_flowsTo_92 rfl (lv_at hl 2 rfl) ?_
    have e_ := Option.some.inj hf
    subst e_
    exact k_iret X rfl hV rfl d_M_flowsTo_93
  replace hf := kifn c_15 hf
  refine lv_aload_n hx hb d_M_flowsTo_9 rfl (lv_at hl 0 rfl) ?_
  refine lv_iload_n hx hb d_M_flowsTo_10 rfl (lv_at hl 1 rfl) ?_
  refine lv_iload_n hx hb d_M_flowsTo_11 rfl (lv_at hl 3 rfl) ?_
  obtain ⟨r_16, hc_17, hf⟩ := kb1_some hf
  refine k_cvi (w1 := (wd_M_hasWall D h h_now h_kept h_aside h_found h_down h_along h_parts h_gone h_tape h_kinds h_items h_widths h_sizes h_numbers h_moved v_isKept v_taped v_begins v_ends v_sort v_value v_isWrong v_itemMany v_farmMany v_farmCells v_now)) (r := r_16) (ws' := (wd_M_flowsTo D h h_now h_kept h_aside h_found h_down h_along h_parts h_gone h_tape h_kinds h_items h_widths h_sizes h_numbers h_moved v_isKept v_taped v_begins v_ends v_sort v_value v_isWrong v_itemMany v_farmMany v_farmCells v_now v_down v_along)) X hV hl.1 (c_M_hasWall D h h_now h_kept h_aside h_found h_down h_along h_parts h_gone h_tape h_kinds h_items h_widths h_sizes h_numbers h_moved v_isKept v_taped v_begins v_ends v_sort v_value v_isWrong v_itemMany v_farmMany v_farmCells v_now x1 x3 hc_17) fk_M_hasWall gw_1010 rfl 0 9 rfl rfl [0, 1] [some 0, some 1, none, none] rfl rfl ⟨rfl, rfl, rfl, rfl, rfl, rfl, rfl, rfl, trivial⟩ rfl rfl rfl d_M_flowsTo_12 (fun H locs hV => ?_)
  refine lv_if_eq (tgt := 22) hx hb d_M_flowsTo_15 (by decide) (fun c_18 => ?_) (fun c_18 => ?_)
  · replace hf := kifp c_18 hf
    refine lv_aload_n hx hb d_M_flowsTo_22 rfl (lv_at hl 0 rfl) ?_
    refine lv_iload_n hx hb d_M_flowsTo_23 rfl (lv_at hl 1 rfl) ?_
    refine lv_iload_n hx hb d_M_flowsTo_24 rfl (lv_at hl 3 rfl) ?_
    obtain ⟨r_19, hc_20, hf⟩ := kb1_some hf
    refine k_cvi (w1 := (wd_M_cellIn D h h_now h_kept h_aside h_found h_down h_along h_parts h_gone h_tape h_kinds h_items h_widths h_sizes h_numbers h_moved v_isKept v_taped v_begins v_ends v_sort v_value v_isWrong v_itemMany v_farmMany v_farmCells v_down v_along)) (r := r_19) (ws' := (wd_M_flowsTo D h h_now h_kept h_aside h_found h_down h_along h_parts h_gone h_tape h_kinds h_items h_widths h_sizes h_numbers h_moved v_isKept v_taped v_begins v_ends v_sort v_value v_isWrong v_itemMany v_farmMany v_farmCells v_now v_down v_along)) X hV hl.1 (c_M_cellIn D h h_now h_kept h_aside h_found h_down h_along h_parts h_gone h_tape h_kinds h_items h_widths h_sizes h_numbers h_moved v_isKept v_taped v_begins v_ends v_sort v_value v_isWrong v_itemMany v_farmMany v_farmCells v_down v_along x1 x3 hc_20) fk_M_cellIn gw_1006 rfl 0 9 rfl rfl [0, 2, 3] [some 0, none, some 1, some 2] rfl rfl ⟨rfl, rfl, rfl, rfl, rfl, rfl, rfl, rfl, rfl, rfl, trivial⟩ rfl rfl rfl d_M_flowsTo_25 (fun H locs hV => ?_)
    exact t_M_flowsTo_2 X hrec1 hf hV (lv_sub hl [0, 1, 2, 3] rfl)
  replace hf := kifn c_18 hf
  refine lv_iconst (v := (-1)) hx hb d_M_flowsTo_18 ic_m1 ?_
  refine lv_goto (tgt := 28) hx hb d_M_flowsTo_19 (by decide) ?_
  exact t_M_flowsTo_2 X hrec1 hf hV (lv_sub hl [0, 1, 2, 3] rfl)
set_option maxHeartbeats 2000000 in
set_option maxRecDepth 20000 in
theorem tl_M_flowsTo_1 {l : Launch} {p : Program} {e : Env} {s : State} {m : MethodId} {args : Array Value} {below : List Frame} {meth : Method} {c : Code} {D : kD} {wc0 : va_W} {h : Nat} {h_now : Nat} {h_kept : Nat} {h_aside : Nat} {h_found : Nat} {h_down : Nat} {h_along : Nat} {h_parts : Nat} {h_gone : Nat} {h_tape : Nat} {h_kinds : Nat} {h_items : Nat} {h_widths : Nat} {h_sizes : Nat} {h_numbers : Nat} {h_moved : Nat} {v_isKept : Int32} {v_taped : Int32} {v_begins : Int32} {v_ends : Int32} {v_sort : Int32} {v_value : Int32} {v_isWrong : Int32} {v_itemMany : Int32} {v_farmMany : Int32} {v_farmCells : Int64} {v_now : Nat → Int32} {v_down : Nat → Int32} {v_along : Nat → Int32} {x1 : Int32} {out : Int32} (X : kX p m meth c s args D (va_A wc0 s.heap.size) b_M_flowsTo "MountainFarmsModel" 5 (some .int)) : ∀ (n : Nat) (x2 : Int32) (x3 : Int32), fl_M_flowsTo_1 x1 v_now v_down v_along n x2 x3 = some out → ∀ (H : Heap) (locs : List Loc) (ls : Array Slot), kV D (va_A wc0 s.heap.size) s (wd_M_flowsTo D h h_now h_kept h_aside h_found h_down h_along h_parts h_gone h_tape h_kinds h_items h_widths h_sizes h_numbers h_moved v_isKept v_taped v_begins v_ends v_sort v_value v_isWrong v_itemMany v_farmMany v_farmCells v_now v_down v_along) H locs → lv_has ls 5 [(0, .ref h), (1, .int x1), (2, .int x2), (3, .int x3)] → W p l e { frames := 2, cells := 0, slots := 0, locals := 46 } s m args below meth c H locs 0 0 (MQ below (kQi D wc0 (wd_M_flowsTo D h h_now h_kept h_aside h_found h_down h_along h_parts h_gone h_tape h_kinds h_items h_widths h_sizes h_numbers h_moved v_isKept v_taped v_begins v_ends v_sort v_value v_isWrong v_itemMany v_farmMany v_farmCells v_now v_down v_along) s.heap.size out) args s 0 0 (va_A wc0 s.heap.size)) (F0 m 4 ls []) := by
  intro n
  induction n with
  | zero => intro x2 x3 hf; exact knone hf
  | succ n ih => intro x2 x3 hf H locs ls hV hl; exact tb_M_flowsTo_1 X ih hf hV hl
set_option maxHeartbeats 2000000 in
set_option maxRecDepth 20000 in
theorem t_M_flowsTo {l : Launch} {p : Program} {e : Env} {s : State} {m : MethodId} {args : Array Value} {below : List Frame} {meth : Method} {c : Code} {D : kD} {wc0 : va_W} {h : Nat} {h_now : Nat} {h_kept : Nat} {h_aside : Nat} {h_found : Nat} {h_down : Nat} {h_along : Nat} {h_parts : Nat} {h_gone : Nat} {h_tape : Nat} {h_kinds : Nat} {h_items : Nat} {h_widths : Nat} {h_sizes : Nat} {h_numbers : Nat} {h_moved : Nat} {v_isKept : Int32} {v_taped : Int32} {v_begins : Int32} {v_ends : Int32} {v_sort : Int32} {v_value : Int32} {v_isWrong : Int32} {v_itemMany : Int32} {v_farmMany : Int32} {v_farmCells : Int64} {v_now : Nat → Int32} {v_down : Nat → Int32} {v_along : Nat → Int32} {x1 : Int32} {out : Int32} (X : kX p m meth c s args D (va_A wc0 s.heap.size) b_M_flowsTo "MountainFarmsModel" 5 (some .int)) (hf : f_M_flowsTo v_now v_down v_along x1 = some out) {H : Heap} {locs : List Loc} (hV : kV D (va_A wc0 s.heap.size) s (wd_M_flowsTo D h h_now h_kept h_aside h_found h_down h_along h_parts h_gone h_tape h_kinds h_items h_widths h_sizes h_numbers h_moved v_isKept v_taped v_begins v_ends v_sort v_value v_isWrong v_itemMany v_farmMany v_farmCells v_now v_down v_along) H locs) {ls : Array Slot} (hl : lv_has ls 5 [(0, .ref h), (1, .int x1)]) : W p l e { frames := 2, cells := 0, slots := 0, locals := 46 } s m args below meth c H locs 0 0 (MQ below (kQi D wc0 (wd_M_flowsTo D h h_now h_kept h_aside h_found h_down h_along h_parts h_gone h_tape h_kinds h_items h_widths h_sizes h_numbers h_moved v_isKept v_taped v_begins v_ends v_sort v_value v_isWrong v_itemMany v_farmMany v_farmCells v_now v_down v_along) s.heap.size out) args s 0 0 (va_A wc0 s.heap.size)) (F0 m 0 ls []) := by
  unfold f_M_flowsTo at hf
  obtain ⟨hx, hb, -⟩ := id X
  refine lv_iconst (v := (-1)) hx hb d_M_flowsTo_0 ic_m1 ?_
  refine lv_istore_n (lv' := [(2, .int (-1 : Int32)), (0, .ref h), (1, .int x1)]) hx hb d_M_flowsTo_1 rfl hl (by decide) rfl (fun ls hl => ?_)
  refine lv_iconst (v := 0) hx hb d_M_flowsTo_2 ic_0 ?_
  refine lv_istore_n (lv' := [(3, .int (0 : Int32)), (2, .int (-1 : Int32)), (0, .ref h), (1, .int x1)]) hx hb d_M_flowsTo_3 rfl hl (by decide) rfl (fun ls hl => ?_)
  exact tl_M_flowsTo_1 X _ _ _ hf _ _ _ hV (lv_sub hl [2, 3, 1, 0] rfl)
set_option maxHeartbeats 2000000 in
set_option maxRecDepth 20000 in
theorem c_M_flowsTo {l : Launch} (D : kD) (h : Nat) (h_now : Nat) (h_kept : Nat) (h_aside : Nat) (h_found : Nat) (h_down : Nat) (h_along : Nat) (h_parts : Nat) (h_gone : Nat) (h_tape : Nat) (h_kinds : Nat) (h_items : Nat) (h_widths : Nat) (h_sizes : Nat) (h_numbers : Nat) (h_moved : Nat) (v_isKept : Int32) (v_taped : Int32) (v_begins : Int32) (v_ends : Int32) (v_sort : Int32) (v_value : Int32) (v_isWrong : Int32) (v_itemMany : Int32) (v_farmMany : Int32) (v_farmCells : Int64) (v_now : Nat → Int32) (v_down : Nat → Int32) (v_along : Nat → Int32) (x1 : Int32) {out : Int32} (hf : f_M_flowsTo v_now v_down v_along x1 = some out) : kMi l D y_M_flowsTo b_M_flowsTo 5 (some .int) { frames := 2, cells := 0, slots := 0, locals := 46 } [.ref h, .int x1] (wd_M_flowsTo D h h_now h_kept h_aside h_found h_down h_along h_parts h_gone h_tape h_kinds h_items h_widths h_sizes h_numbers h_moved v_isKept v_taped v_begins v_ends v_sort v_value v_isWrong v_itemMany v_farmMany v_farmCells v_now v_down v_along) (wd_M_flowsTo D h h_now h_kept h_aside h_found h_down h_along h_parts h_gone h_tape h_kinds h_items h_widths h_sizes h_numbers h_moved v_isKept v_taped v_begins v_ends v_sort v_value v_isWrong v_itemMany v_farmMany v_farmCells v_now v_down v_along) out :=
  kMi_of (own := "MountainFarmsModel") (plainFor_of_name (by decide)) rfl rfl (fun p e s m args below meth c ls X hV hl => t_M_flowsTo X hf hV hl)
set_option maxHeartbeats 2000000 in
set_option maxRecDepth 20000 in
theorem tb_M_lava_1 {l : Launch} {p : Program} {e : Env} {s : State} {m : MethodId} {args : Array Value} {below : List Frame} {meth : Method} {c : Code} {D : kD} {wc0 : va_W} {h : Nat} {h_now : Nat} {h_kept : Nat} {h_aside : Nat} {h_found : Nat} {h_down : Nat} {h_along : Nat} {h_parts : Nat} {h_gone : Nat} {h_tape : Nat} {h_kinds : Nat} {h_items : Nat} {h_widths : Nat} {h_sizes : Nat} {h_numbers : Nat} {h_moved : Nat} {v_isKept : Int32} {v_taped : Int32} {v_begins : Int32} {v_ends : Int32} {v_sort : Int32} {v_value : Int32} {v_isWrong : Int32} {v_itemMany : Int32} {v_farmMany : Int32} {v_farmCells : Int64} {v_now : Nat → Int32} {v_down : Nat → Int32} {v_along : Nat → Int32} {x2 : Int32} {x3 : Int32} {x4 : Int64} {x6 : Int32} {rec1 : Int32 → Int64 → Int32 → (Nat → Int32) → Option (Int64 × (Nat → Int32))} {out : Int64 × (Nat → Int32)} (X : kX p m meth c s args D (va_A wc0 s.heap.size) b_M_lava "MountainFarmsModel" 8 (some .long)) (hrec1 : ∀ (x3 : Int32) (x4 : Int64) (x6 : Int32) (v_now : Nat → Int32), rec1 x3 x4 x6 v_now = some out → ∀ (H : Heap) (locs : List Loc) (ls : Array Slot), kV D (va_A wc0 s.heap.size) s (wd_M_lava D h h_now h_kept h_aside h_found h_down h_along h_parts h_gone h_tape h_kinds h_items h_widths h_sizes h_numbers h_moved v_isKept v_taped v_begins v_ends v_sort v_value v_isWrong v_itemMany v_farmMany v_farmCells v_now v_down v_along) H locs → lv_has ls 8 [(0, .ref h), (2, .int x2), (3, .int x3), (4, .long x4), (6, .int x6)] → W p l e { frames := 3, cells := 0, slots := 0, locals := 70 } s m args below meth c H locs 0 0 (MQ below (kQl D wc0 (wd_M_lava D h h_now h_kept h_aside h_found h_down h_along h_parts h_gone h_tape h_kinds h_items h_widths h_sizes h_numbers h_moved v_isKept v_taped v_begins v_ends v_sort v_value v_isWrong v_itemMany v_farmMany v_farmCells out.2 v_down v_along) s.heap.size out.1) args s 0 0 (va_A wc0 s.heap.size)) (F0 m 10 ls [])) (hf : fb_M_lava_1 rec1 x2 v_down v_along x3 x4 x6 v_now = some out) {H : Heap} {locs : List Loc} (hV : kV D (va_A wc0 s.heap.size) s (wd_M_lava D h h_now h_kept h_aside h_found h_down h_along h_parts h_gone h_tape h_kinds h_items h_widths h_sizes h_numbers h_moved v_isKept v_taped v_begins v_ends v_sort v_value v_isWrong v_itemMany v_farmMany v_farmCells v_now v_down v_along) H locs) {ls : Array Slot} (hl : lv_has ls 8 [(0, .ref h), (2, .int x2), (3, .int x3), (4, .long x4), (6, .int x6)]) : W p l e { frames := 3, cells := 0, slots := 0, locals := 70 } s m args below meth c H locs 0 0 (MQ below (kQl D wc0 (wd_M_lava D h h_now h_kept h_aside h_found h_down h_along h_parts h_gone h_tape h_kinds h_items h_widths h_sizes h_numbers h_moved v_isKept v_taped v_begins v_ends v_sort v_value v_isWrong v_itemMany v_farmMany v_farmCells out.2 v_down v_along) s.heap.size out.1) args s 0 0 (va_A wc0 s.heap.size)) (F0 m 10 ls []) := by
  unfold fb_M_lava_1 at hf
  obtain ⟨hx, hb, -⟩ := id X
  refine lv_iload hx hb d_M_lava_10 (lv_at hl 4 rfl) ?_
  refine lv_iload_n hx hb d_M_lava_12 rfl (lv_at hl 1 rfl) ?_
  refine lv_icmp_ge (tgt := 73) hx hb d_M_lava_13 (by decide) (fun c_12 => ?_) (fun c_12 => ?_)
  · replace hf := kifp c_12 hf
    refine lv_lload hx hb d_M_lava_73 (lv_at hl 3 rfl) ?_
    have e_ := Option.some.inj hf
    subst e_
    exact k_lret X rfl hV d_M_lava_75
  replace hf := kifn c_12 hf
  refine lv_aload_n hx hb d_M_lava_16 rfl (lv_at hl 0 rfl) ?_
  refine lv_iload_n hx hb d_M_lava_17 rfl (lv_at hl 2 rfl) ?_
  obtain ⟨r_13, hc_14, hf⟩ := kb1_some hf
  refine k_cvi (w1 := (wd_M_flowsTo D h h_now h_kept h_aside h_found h_down h_along h_parts h_gone h_tape h_kinds h_items h_widths h_sizes h_numbers h_moved v_isKept v_taped v_begins v_ends v_sort v_value v_isWrong v_itemMany v_farmMany v_farmCells v_now v_down v_along)) (r := r_13) (ws' := (wd_M_lava D h h_now h_kept h_aside h_found h_down h_along h_parts h_gone h_tape h_kinds h_items h_widths h_sizes h_numbers h_moved v_isKept v_taped v_begins v_ends v_sort v_value v_isWrong v_itemMany v_farmMany v_farmCells v_now v_down v_along)) X hV hl.1 (c_M_flowsTo D h h_now h_kept h_aside h_found h_down h_along h_parts h_gone h_tape h_kinds h_items h_widths h_sizes h_numbers h_moved v_isKept v_taped v_begins v_ends v_sort v_value v_isWrong v_itemMany v_farmMany v_farmCells v_now v_down v_along x3 hc_14) fk_M_flowsTo gw_1152 rfl 0 9 rfl rfl [0, 1, 2, 3] [some 0, some 1, some 2, some 3] rfl rfl ⟨rfl, rfl, rfl, rfl, rfl, rfl, rfl, rfl, rfl, rfl, rfl, rfl, trivial⟩ rfl rfl rfl d_M_lava_18 (fun H locs hV => ?_)
  refine lv_istore (lv' := [(7, .int r_13), (0, .ref h), (2, .int x2), (3, .int x3), (4, .long x4), (6, .int x6)]) hx hb d_M_lava_21 hl (by decide) rfl (fun ls hl => ?_)
  refine lv_iload hx hb d_M_lava_23 (lv_at hl 0 rfl) ?_
  refine lv_if_ge (tgt := 56) hx hb d_M_lava_25 (by decide) (fun c_15 => ?_) (fun c_15 => ?_)
  · replace hf := kifp c_15 hf
    refine lv_iload hx hb d_M_lava_56 (lv_at hl 0 rfl) ?_
    refine lv_istore_n (lv' := [(3, .int r_13), (7, .int r_13), (0, .ref h), (2, .int x2), (4, .long x4), (6, .int x6)]) hx hb d_M_lava_58 rfl hl (by decide) rfl (fun ls hl => ?_)
    refine lv_lload hx hb d_M_lava_59 (lv_at hl 4 rfl) ?_
    refine lv_lconst (v := 1) hx hb d_M_lava_61 lc_1 ?_
    refine lv_iload_n hx hb d_M_lava_62 rfl (lv_at hl 0 rfl) ?_
    refine lv_lshl hx hb d_M_lava_63 rfl ?_
    refine lv_lor hx hb d_M_lava_64 ?_
    refine k_letl hf (fun x4_16 hf => ?_)
    refine lv_lstore (lv' := [(4, .long x4_16), (3, .int r_13), (7, .int r_13), (0, .ref h), (2, .int x2), (6, .int x6)]) hx hb d_M_lava_65 hl (by decide) rfl (fun ls hl => ?_)
    refine lv_iinc (v := (x6 + 1)) (lv' := [(6, .int (x6 + 1)), (4, .long x4_16), (3, .int r_13), (7, .int r_13), (0, .ref h), (2, .int x2)]) hx hb d_M_lava_67 hl (k := 5) rfl rfl (by decide) rfl (fun ls hl => ?_)
    refine lv_goto (tgt := 10) hx hb d_M_lava_70 (by decide) ?_
    exact hrec1 _ _ _ _ hf _ _ _ hV (lv_sub hl [4, 5, 2, 1, 0] rfl)
  replace hf := kifn c_15 hf
  refine lv_aload_n hx hb d_M_lava_28 rfl (lv_at hl 1 rfl) ?_
  refine k_get X hV 0 9 0 rfl rfl rfl gw_887 rfl rfl d_M_lava_29 ?_
  refine lv_bipush (v := 50) hx hb d_M_lava_32 bp_50 ?_
  refine lv_iload_n hx hb d_M_lava_34 rfl (lv_at hl 3 rfl) ?_
  refine lv_iadd hx hb d_M_lava_35 ?_
  refine lv_bipush (v := 99) hx hb d_M_lava_36 bp_99 ?_
  refine lv_aload_n hx hb d_M_lava_38 rfl (lv_at hl 1 rfl) ?_
  refine k_get X hV 0 9 0 rfl rfl rfl gw_887 rfl rfl d_M_lava_39 ?_
  refine lv_bipush (v := 50) hx hb d_M_lava_42 bp_50 ?_
  refine lv_iload_n hx hb d_M_lava_44 rfl (lv_at hl 3 rfl) ?_
  refine lv_iadd hx hb d_M_lava_45 ?_
  obtain ⟨h_17, hf⟩ := kidx_some hf
  refine k_iald X hV 1 rfl h_17 rfl d_M_lava_46 ?_
  refine lv_iconst (v := 3) hx hb d_M_lava_47 ic_3 ?_
  refine lv_iadd hx hb d_M_lava_48 ?_
  obtain ⟨r_18, hc_19, hf⟩ := kb1_some hf
  refine k_csi (w1 := (wd_Ma_min D)) (r := r_18) (ws' := (wd_M_lava D h h_now h_kept h_aside h_found h_down h_along h_parts h_gone h_tape h_kinds h_items h_widths h_sizes h_numbers h_moved v_isKept v_taped v_begins v_ends v_sort v_value v_isWrong v_itemMany v_farmMany v_farmCells v_now v_down v_along)) X hV hl.1 (c_Ma_min D (99 : Int32) ((v_now ((50 : Int32) + x3).toNatClampNeg) + (3 : Int32)) hc_19) fk_Ma_min gw_1046 rfl [] [none, none, none, none] rfl rfl ⟨rfl, rfl, rfl, rfl, trivial⟩ rfl rfl rfl d_M_lava_49 (fun H locs hV => ?_)
  obtain ⟨h_20, hf⟩ := kidx_some hf
  refine k_iast (ws' := (wd_M_lava D h h_now h_kept h_aside h_found h_down h_along h_parts h_gone h_tape h_kinds h_items h_widths h_sizes h_numbers h_moved v_isKept v_taped v_begins v_ends v_sort v_value v_isWrong v_itemMany v_farmMany v_farmCells (upd v_now ((50 : Int32) + x3).toNatClampNeg r_18) v_down v_along)) X hV 1 rfl h_20 rfl rfl d_M_lava_52 (fun H locs hV => ?_)
  refine lv_goto (tgt := 67) hx hb d_M_lava_53 (by decide) ?_
  refine lv_iinc (v := (x6 + 1)) (lv' := [(6, .int (x6 + 1)), (7, .int r_13), (0, .ref h), (2, .int x2), (3, .int x3), (4, .long x4)]) hx hb d_M_lava_67 hl (k := 5) rfl rfl (by decide) rfl (fun ls hl => ?_)
  refine lv_goto (tgt := 10) hx hb d_M_lava_70 (by decide) ?_
  exact hrec1 _ _ _ _ hf _ _ _ hV (lv_sub hl [2, 3, 4, 5, 0] rfl)
set_option maxHeartbeats 2000000 in
set_option maxRecDepth 20000 in
theorem tl_M_lava_1 {l : Launch} {p : Program} {e : Env} {s : State} {m : MethodId} {args : Array Value} {below : List Frame} {meth : Method} {c : Code} {D : kD} {wc0 : va_W} {h : Nat} {h_now : Nat} {h_kept : Nat} {h_aside : Nat} {h_found : Nat} {h_down : Nat} {h_along : Nat} {h_parts : Nat} {h_gone : Nat} {h_tape : Nat} {h_kinds : Nat} {h_items : Nat} {h_widths : Nat} {h_sizes : Nat} {h_numbers : Nat} {h_moved : Nat} {v_isKept : Int32} {v_taped : Int32} {v_begins : Int32} {v_ends : Int32} {v_sort : Int32} {v_value : Int32} {v_isWrong : Int32} {v_itemMany : Int32} {v_farmMany : Int32} {v_farmCells : Int64} {v_down : Nat → Int32} {v_along : Nat → Int32} {x2 : Int32} {out : Int64 × (Nat → Int32)} (X : kX p m meth c s args D (va_A wc0 s.heap.size) b_M_lava "MountainFarmsModel" 8 (some .long)) : ∀ (n : Nat) (x3 : Int32) (x4 : Int64) (x6 : Int32) (v_now : Nat → Int32), fl_M_lava_1 x2 v_down v_along n x3 x4 x6 v_now = some out → ∀ (H : Heap) (locs : List Loc) (ls : Array Slot), kV D (va_A wc0 s.heap.size) s (wd_M_lava D h h_now h_kept h_aside h_found h_down h_along h_parts h_gone h_tape h_kinds h_items h_widths h_sizes h_numbers h_moved v_isKept v_taped v_begins v_ends v_sort v_value v_isWrong v_itemMany v_farmMany v_farmCells v_now v_down v_along) H locs → lv_has ls 8 [(0, .ref h), (2, .int x2), (3, .int x3), (4, .long x4), (6, .int x6)] → W p l e { frames := 3, cells := 0, slots := 0, locals := 70 } s m args below meth c H locs 0 0 (MQ below (kQl D wc0 (wd_M_lava D h h_now h_kept h_aside h_found h_down h_along h_parts h_gone h_tape h_kinds h_items h_widths h_sizes h_numbers h_moved v_isKept v_taped v_begins v_ends v_sort v_value v_isWrong v_itemMany v_farmMany v_farmCells out.2 v_down v_along) s.heap.size out.1) args s 0 0 (va_A wc0 s.heap.size)) (F0 m 10 ls []) := by
  intro n
  induction n with
  | zero => intro x3 x4 x6 v_now hf; exact knone hf
  | succ n ih => intro x3 x4 x6 v_now hf H locs ls hV hl; exact tb_M_lava_1 X ih hf hV hl
set_option maxHeartbeats 2000000 in
set_option maxRecDepth 20000 in
theorem t_M_lava {l : Launch} {p : Program} {e : Env} {s : State} {m : MethodId} {args : Array Value} {below : List Frame} {meth : Method} {c : Code} {D : kD} {wc0 : va_W} {h : Nat} {h_now : Nat} {h_kept : Nat} {h_aside : Nat} {h_found : Nat} {h_down : Nat} {h_along : Nat} {h_parts : Nat} {h_gone : Nat} {h_tape : Nat} {h_kinds : Nat} {h_items : Nat} {h_widths : Nat} {h_sizes : Nat} {h_numbers : Nat} {h_moved : Nat} {v_isKept : Int32} {v_taped : Int32} {v_begins : Int32} {v_ends : Int32} {v_sort : Int32} {v_value : Int32} {v_isWrong : Int32} {v_itemMany : Int32} {v_farmMany : Int32} {v_farmCells : Int64} {v_now : Nat → Int32} {v_down : Nat → Int32} {v_along : Nat → Int32} {x1 : Int32} {x2 : Int32} {out : Int64 × (Nat → Int32)} (X : kX p m meth c s args D (va_A wc0 s.heap.size) b_M_lava "MountainFarmsModel" 8 (some .long)) (hf : f_M_lava v_now v_down v_along x1 x2 = some out) {H : Heap} {locs : List Loc} (hV : kV D (va_A wc0 s.heap.size) s (wd_M_lava D h h_now h_kept h_aside h_found h_down h_along h_parts h_gone h_tape h_kinds h_items h_widths h_sizes h_numbers h_moved v_isKept v_taped v_begins v_ends v_sort v_value v_isWrong v_itemMany v_farmMany v_farmCells v_now v_down v_along) H locs) {ls : Array Slot} (hl : lv_has ls 8 [(0, .ref h), (1, .int x1), (2, .int x2)]) : W p l e { frames := 3, cells := 0, slots := 0, locals := 70 } s m args below meth c H locs 0 0 (MQ below (kQl D wc0 (wd_M_lava D h h_now h_kept h_aside h_found h_down h_along h_parts h_gone h_tape h_kinds h_items h_widths h_sizes h_numbers h_moved v_isKept v_taped v_begins v_ends v_sort v_value v_isWrong v_itemMany v_farmMany v_farmCells out.2 v_down v_along) s.heap.size out.1) args s 0 0 (va_A wc0 s.heap.size)) (F0 m 0 ls []) := by
  unfold f_M_lava at hf
  obtain ⟨hx, hb, -⟩ := id X
  refine lv_iload_n hx hb d_M_lava_0 rfl (lv_at hl 1 rfl) ?_
  refine lv_istore_n (lv' := [(3, .int x1), (0, .ref h), (1, .int x1), (2, .int x2)]) hx hb d_M_lava_1 rfl hl (by decide) rfl (fun ls hl => ?_)
  refine lv_lconst (v := 1) hx hb d_M_lava_2 lc_1 ?_
  refine lv_iload_n hx hb d_M_lava_3 rfl (lv_at hl 0 rfl) ?_
  refine lv_lshl hx hb d_M_lava_4 rfl ?_
  refine k_letl hf (fun x4_11 hf => ?_)
  refine lv_lstore (lv' := [(4, .long x4_11), (3, .int x1), (0, .ref h), (1, .int x1), (2, .int x2)]) hx hb d_M_lava_5 hl (by decide) rfl (fun ls hl => ?_)
  refine lv_iconst (v := 1) hx hb d_M_lava_7 ic_1 ?_
  refine lv_istore (lv' := [(6, .int (1 : Int32)), (4, .long x4_11), (3, .int x1), (0, .ref h), (1, .int x1), (2, .int x2)]) hx hb d_M_lava_8 hl (by decide) rfl (fun ls hl => ?_)
  exact tl_M_lava_1 X _ _ _ _ _ hf _ _ _ hV (lv_sub hl [3, 5, 2, 1, 0] rfl)
set_option maxHeartbeats 2000000 in
set_option maxRecDepth 20000 in
theorem c_M_lava {l : Launch} (D : kD) (h : Nat) (h_now : Nat) (h_kept : Nat) (h_aside : Nat) (h_found : Nat) (h_down : Nat) (h_along : Nat) (h_parts : Nat) (h_gone : Nat) (h_tape : Nat) (h_kinds : Nat) (h_items : Nat) (h_widths : Nat) (h_sizes : Nat) (h_numbers : Nat) (h_moved : Nat) (v_isKept : Int32) (v_taped : Int32) (v_begins : Int32) (v_ends : Int32) (v_sort : Int32) (v_value : Int32) (v_isWrong : Int32) (v_itemMany : Int32) (v_farmMany : Int32) (v_farmCells : Int64) (v_now : Nat → Int32) (v_down : Nat → Int32) (v_along : Nat → Int32) (x1 : Int32) (x2 : Int32) {out : Int64 × (Nat → Int32)} (hf : f_M_lava v_now v_down v_along x1 x2 = some out) : kMl l D y_M_lava b_M_lava 8 (some .long) { frames := 3, cells := 0, slots := 0, locals := 70 } [.ref h, .int x1, .int x2] (wd_M_lava D h h_now h_kept h_aside h_found h_down h_along h_parts h_gone h_tape h_kinds h_items h_widths h_sizes h_numbers h_moved v_isKept v_taped v_begins v_ends v_sort v_value v_isWrong v_itemMany v_farmMany v_farmCells v_now v_down v_along) (wd_M_lava D h h_now h_kept h_aside h_found h_down h_along h_parts h_gone h_tape h_kinds h_items h_widths h_sizes h_numbers h_moved v_isKept v_taped v_begins v_ends v_sort v_value v_isWrong v_itemMany v_farmMany v_farmCells out.2 v_down v_along) out.1 :=
  kMl_of (own := "MountainFarmsModel") (plainFor_of_name (by decide)) rfl rfl (fun p e s m args below meth c ls X hV hl => t_M_lava X hf hV hl)
set_option maxHeartbeats 2000000 in
set_option maxRecDepth 20000 in
theorem t_M_asked {l : Launch} {p : Program} {e : Env} {s : State} {m : MethodId} {args : Array Value} {below : List Frame} {meth : Method} {c : Code} {D : kD} {wc0 : va_W} {h : Nat} {h_now : Nat} {h_kept : Nat} {h_aside : Nat} {h_found : Nat} {h_down : Nat} {h_along : Nat} {h_parts : Nat} {h_gone : Nat} {h_tape : Nat} {h_kinds : Nat} {h_items : Nat} {h_widths : Nat} {h_sizes : Nat} {h_numbers : Nat} {h_moved : Nat} {v_isKept : Int32} {v_taped : Int32} {v_begins : Int32} {v_ends : Int32} {v_sort : Int32} {v_value : Int32} {v_isWrong : Int32} {v_itemMany : Int32} {v_farmMany : Int32} {v_farmCells : Int64} {v_now : Nat → Int32} {v_aside : Nat → Int32} {v_down : Nat → Int32} {v_along : Nat → Int32} {x1 : Int32} {x2 : Int32} {out : Int64 × (Nat → Int32) × (Nat → Int32)} (X : kX p m meth c s args D (va_A wc0 s.heap.size) b_M_asked "MountainFarmsModel" 5 (some .long)) (hf : f_M_asked v_now v_aside v_down v_along x1 x2 = some out) {H : Heap} {locs : List Loc} (hV : kV D (va_A wc0 s.heap.size) s (wd_M_asked D h h_now h_kept h_aside h_found h_down h_along h_parts h_gone h_tape h_kinds h_items h_widths h_sizes h_numbers h_moved v_isKept v_taped v_begins v_ends v_sort v_value v_isWrong v_itemMany v_farmMany v_farmCells v_now v_aside v_down v_along) H locs) {ls : Array Slot} (hl : lv_has ls 5 [(0, .ref h), (1, .int x1), (2, .int x2)]) : W p l e { frames := 4, cells := 0, slots := 0, locals := 97 } s m args below meth c H locs 0 0 (MQ below (kQl D wc0 (wd_M_asked D h h_now h_kept h_aside h_found h_down h_along h_parts h_gone h_tape h_kinds h_items h_widths h_sizes h_numbers h_moved v_isKept v_taped v_begins v_ends v_sort v_value v_isWrong v_itemMany v_farmMany v_farmCells out.2.1 out.2.2 v_down v_along) s.heap.size out.1) args s 0 0 (va_A wc0 s.heap.size)) (F0 m 0 ls []) := by
  unfold f_M_asked at hf
  obtain ⟨hx, hb, -⟩ := id X
  refine lv_aload_n hx hb d_M_asked_0 rfl (lv_at hl 0 rfl) ?_
  refine k_get X hV 0 9 0 rfl rfl rfl gw_887 rfl rfl d_M_asked_1 ?_
  refine lv_aload_n hx hb d_M_asked_4 rfl (lv_at hl 0 rfl) ?_
  refine k_get X hV 0 9 2 rfl rfl rfl gw_889 rfl rfl d_M_asked_5 ?_
  obtain ⟨v_aside_8, hc_9, hf⟩ := kb1_some hf
  refine k_csv (w1 := (wd_M_copyRow D h_now h_aside v_now v_aside_8)) (ws' := (wd_M_asked D h h_now h_kept h_aside h_found h_down h_along h_parts h_gone h_tape h_kinds h_items h_widths h_sizes h_numbers h_moved v_isKept v_taped v_begins v_ends v_sort v_value v_isWrong v_itemMany v_farmMany v_farmCells v_now v_aside_8 v_down v_along)) X hV hl.1 (c_M_copyRow D h_now h_aside v_now v_aside hc_9) fk_M_copyRow gw_1145 rfl [1, 2] [none, some 0, some 1, none, none] rfl rfl ⟨rfl, rfl, rfl, rfl, rfl, rfl, rfl, rfl, rfl, trivial⟩ rfl rfl rfl d_M_asked_8 (fun H locs hV => ?_)
  refine lv_aload_n hx hb d_M_asked_11 rfl (lv_at hl 0 rfl) ?_
  refine lv_iload_n hx hb d_M_asked_12 rfl (lv_at hl 1 rfl) ?_
  refine lv_iload_n hx hb d_M_asked_13 rfl (lv_at hl 2 rfl) ?_
  obtain ⟨r_10, v_now_11, hc_12, hf⟩ := kb2_some hf
  refine k_cvl (w1 := (wd_M_lava D h h_now h_kept h_aside h_found h_down h_along h_parts h_gone h_tape h_kinds h_items h_widths h_sizes h_numbers h_moved v_isKept v_taped v_begins v_ends v_sort v_value v_isWrong v_itemMany v_farmMany v_farmCells v_now_11 v_down v_along)) (r := r_10) (ws' := (wd_M_asked D h h_now h_kept h_aside h_found h_down h_along h_parts h_gone h_tape h_kinds h_items h_widths h_sizes h_numbers h_moved v_isKept v_taped v_begins v_ends v_sort v_value v_isWrong v_itemMany v_farmMany v_farmCells v_now_11 v_aside_8 v_down v_along)) X hV hl.1 (c_M_lava D h h_now h_kept h_aside h_found h_down h_along h_parts h_gone h_tape h_kinds h_items h_widths h_sizes h_numbers h_moved v_isKept v_taped v_begins v_ends v_sort v_value v_isWrong v_itemMany v_farmMany v_farmCells v_now v_down v_along x1 x2 hc_12) fk_M_lava gw_1148 rfl 0 9 rfl rfl [0, 1, 3, 4] [some 0, some 1, none, some 2, some 3] rfl rfl ⟨rfl, rfl, rfl, rfl, rfl, rfl, rfl, rfl, rfl, rfl, rfl, rfl, rfl, trivial⟩ rfl rfl rfl d_M_asked_14 (fun H locs hV => ?_)
  refine lv_lstore_n (lv' := [(3, .long r_10), (0, .ref h), (1, .int x1), (2, .int x2)]) hx hb d_M_asked_17 rfl hl (by decide) rfl (fun ls hl => ?_)
  refine lv_aload_n hx hb d_M_asked_18 rfl (lv_at hl 1 rfl) ?_
  refine k_get X hV 0 9 2 rfl rfl rfl gw_889 rfl rfl d_M_asked_19 ?_
  refine lv_aload_n hx hb d_M_asked_22 rfl (lv_at hl 1 rfl) ?_
  refine k_get X hV 0 9 0 rfl rfl rfl gw_887 rfl rfl d_M_asked_23 ?_
  obtain ⟨v_now_13, hc_14, hf⟩ := kb1_some hf
  refine k_csv (w1 := (wd_M_copyRow D h_aside h_now v_aside_8 v_now_13)) (ws' := (wd_M_asked D h h_now h_kept h_aside h_found h_down h_along h_parts h_gone h_tape h_kinds h_items h_widths h_sizes h_numbers h_moved v_isKept v_taped v_begins v_ends v_sort v_value v_isWrong v_itemMany v_farmMany v_farmCells v_now_13 v_aside_8 v_down v_along)) X hV hl.1 (c_M_copyRow D h_aside h_now v_aside_8 v_now_11 hc_14) fk_M_copyRow gw_1145 rfl [2, 1] [none, some 1, some 0, none, none] rfl rfl ⟨rfl, rfl, rfl, rfl, rfl, rfl, rfl, rfl, rfl, trivial⟩ rfl rfl rfl d_M_asked_26 (fun H locs hV => ?_)
  refine lv_lload_n hx hb d_M_asked_29 rfl (lv_at hl 0 rfl) ?_
  have e_ := Option.some.inj hf
  subst e_
  exact k_lret X rfl hV d_M_asked_30
set_option maxHeartbeats 2000000 in
set_option maxRecDepth 20000 in
theorem c_M_asked {l : Launch} (D : kD) (h : Nat) (h_now : Nat) (h_kept : Nat) (h_aside : Nat) (h_found : Nat) (h_down : Nat) (h_along : Nat) (h_parts : Nat) (h_gone : Nat) (h_tape : Nat) (h_kinds : Nat) (h_items : Nat) (h_widths : Nat) (h_sizes : Nat) (h_numbers : Nat) (h_moved : Nat) (v_isKept : Int32) (v_taped : Int32) (v_begins : Int32) (v_ends : Int32) (v_sort : Int32) (v_value : Int32) (v_isWrong : Int32) (v_itemMany : Int32) (v_farmMany : Int32) (v_farmCells : Int64) (v_now : Nat → Int32) (v_aside : Nat → Int32) (v_down : Nat → Int32) (v_along : Nat → Int32) (x1 : Int32) (x2 : Int32) {out : Int64 × (Nat → Int32) × (Nat → Int32)} (hf : f_M_asked v_now v_aside v_down v_along x1 x2 = some out) : kMl l D y_M_asked b_M_asked 5 (some .long) { frames := 4, cells := 0, slots := 0, locals := 97 } [.ref h, .int x1, .int x2] (wd_M_asked D h h_now h_kept h_aside h_found h_down h_along h_parts h_gone h_tape h_kinds h_items h_widths h_sizes h_numbers h_moved v_isKept v_taped v_begins v_ends v_sort v_value v_isWrong v_itemMany v_farmMany v_farmCells v_now v_aside v_down v_along) (wd_M_asked D h h_now h_kept h_aside h_found h_down h_along h_parts h_gone h_tape h_kinds h_items h_widths h_sizes h_numbers h_moved v_isKept v_taped v_begins v_ends v_sort v_value v_isWrong v_itemMany v_farmMany v_farmCells out.2.1 out.2.2 v_down v_along) out.1 :=
  kMl_of (own := "MountainFarmsModel") (plainFor_of_name (by decide)) rfl rfl (fun p e s m args below meth c ls X hV hl => t_M_asked X hf hV hl)
set_option maxHeartbeats 2000000 in
set_option maxRecDepth 20000 in
theorem t_M_flow_1 {l : Launch} {p : Program} {e : Env} {s : State} {m : MethodId} {args : Array Value} {below : List Frame} {meth : Method} {c : Code} {D : kD} {wc0 : va_W} {h : Nat} {h_now : Nat} {h_kept : Nat} {h_aside : Nat} {h_found : Nat} {h_down : Nat} {h_along : Nat} {h_parts : Nat} {h_gone : Nat} {h_tape : Nat} {h_kinds : Nat} {h_items : Nat} {h_widths : Nat} {h_sizes : Nat} {h_numbers : Nat} {h_moved : Nat} {v_isKept : Int32} {v_taped : Int32} {v_begins : Int32} {v_ends : Int32} {v_sort : Int32} {v_value : Int32} {v_isWrong : Int32} {v_itemMany : Int32} {v_farmMany : Int32} {v_farmCells : Int64} {v_now : Nat → Int32} {v_aside : Nat → Int32} {v_found : Nat → Int32} {v_down : Nat → Int32} {v_along : Nat → Int32} {out : Int64 × (Nat → Int32) × (Nat → Int32) × (Nat → Int32)} (X : kX p m meth c s args D (va_A wc0 s.heap.size) b_M_flow "MountainFarmsModel" 3 (some .long)) (hf : f_M_flow_1 v_now v_aside v_found = some out) {H : Heap} {locs : List Loc} (hV : kV D (va_A wc0 s.heap.size) s (wd_M_flow D h h_now h_kept h_aside h_found h_down h_along h_parts h_gone h_tape h_kinds h_items h_widths h_sizes h_numbers h_moved v_isKept v_taped v_begins v_ends v_sort v_value v_isWrong v_itemMany v_farmMany v_farmCells v_now v_aside v_found v_down v_along) H locs) {ls : Array Slot} (hl : lv_has ls 3 [(0, .ref h)]) : W p l e { frames := 5, cells := 0, slots := 0, locals := 121 } s m args below meth c H locs 0 0 (MQ below (kQl D wc0 (wd_M_flow D h h_now h_kept h_aside h_found h_down h_along h_parts h_gone h_tape h_kinds h_items h_widths h_sizes h_numbers h_moved v_isKept v_taped v_begins v_ends v_sort v_value v_isWrong v_itemMany v_farmMany v_farmCells out.2.1 out.2.2.1 out.2.2.2 v_down v_along) s.heap.size out.1) args s 0 0 (va_A wc0 s.heap.size)) (F0 m 23 ls []) := by
  unfold f_M_flow_1 at hf
  obtain ⟨hx, hb, -⟩ := id X
  refine lv_aload_n hx hb d_M_flow_23 rfl (lv_at hl 0 rfl) ?_
  refine k_ldc (v := (-1000000001)) X gw_973 d_M_flow_24 ?_
  obtain ⟨r_24, v_found_25, hc_26, hf⟩ := kb2_some hf
  refine k_cvi (w1 := (wd_M_finding D h h_now h_kept h_aside h_found h_down h_along h_parts h_gone h_tape h_kinds h_items h_widths h_sizes h_numbers h_moved v_isKept v_taped v_begins v_ends v_sort v_value v_isWrong v_itemMany v_farmMany v_farmCells v_found_25)) (r := r_24) (ws' := (wd_M_flow D h h_now h_kept h_aside h_found h_down h_along h_parts h_gone h_tape h_kinds h_items h_widths h_sizes h_numbers h_moved v_isKept v_taped v_begins v_ends v_sort v_value v_isWrong v_itemMany v_farmMany v_farmCells v_now v_aside v_found_25 v_down v_along)) X hV hl.1 (c_M_finding D h h_now h_kept h_aside h_found h_down h_along h_parts h_gone h_tape h_kinds h_items h_widths h_sizes h_numbers h_moved v_isKept v_taped v_begins v_ends v_sort v_value v_isWrong v_itemMany v_farmMany v_farmCells v_found (-1000000001 : Int32) hc_26) fk_M_finding gw_974 rfl 0 9 rfl rfl [0, 3] [some 0, none, none, some 1, none, none] rfl rfl ⟨rfl, rfl, rfl, rfl, rfl, rfl, rfl, rfl, rfl, rfl, trivial⟩ rfl rfl rfl d_M_flow_26 (fun H locs hV => ?_)
  refine lv_i2l hx hb d_M_flow_29 rfl ?_
  have e_ := Option.some.inj hf
  subst e_
  exact k_lret X rfl hV d_M_flow_30
set_option maxHeartbeats 2000000 in
set_option maxRecDepth 20000 in
theorem t_M_flow {l : Launch} {p : Program} {e : Env} {s : State} {m : MethodId} {args : Array Value} {below : List Frame} {meth : Method} {c : Code} {D : kD} {wc0 : va_W} {h : Nat} {h_now : Nat} {h_kept : Nat} {h_aside : Nat} {h_found : Nat} {h_down : Nat} {h_along : Nat} {h_parts : Nat} {h_gone : Nat} {h_tape : Nat} {h_kinds : Nat} {h_items : Nat} {h_widths : Nat} {h_sizes : Nat} {h_numbers : Nat} {h_moved : Nat} {v_isKept : Int32} {v_taped : Int32} {v_begins : Int32} {v_ends : Int32} {v_sort : Int32} {v_value : Int32} {v_isWrong : Int32} {v_itemMany : Int32} {v_farmMany : Int32} {v_farmCells : Int64} {v_now : Nat → Int32} {v_aside : Nat → Int32} {v_found : Nat → Int32} {v_down : Nat → Int32} {v_along : Nat → Int32} {x1 : Int32} {x2 : Int32} {out : Int64 × (Nat → Int32) × (Nat → Int32) × (Nat → Int32)} (X : kX p m meth c s args D (va_A wc0 s.heap.size) b_M_flow "MountainFarmsModel" 3 (some .long)) (hf : f_M_flow v_now v_aside v_found v_down v_along x1 x2 = some out) {H : Heap} {locs : List Loc} (hV : kV D (va_A wc0 s.heap.size) s (wd_M_flow D h h_now h_kept h_aside h_found h_down h_along h_parts h_gone h_tape h_kinds h_items h_widths h_sizes h_numbers h_moved v_isKept v_taped v_begins v_ends v_sort v_value v_isWrong v_itemMany v_farmMany v_farmCells v_now v_aside v_found v_down v_along) H locs) {ls : Array Slot} (hl : lv_has ls 3 [(0, .ref h), (1, .int x1), (2, .int x2)]) : W p l e { frames := 5, cells := 0, slots := 0, locals := 121 } s m args below meth c H locs 0 0 (MQ below (kQl D wc0 (wd_M_flow D h h_now h_kept h_aside h_found h_down h_along h_parts h_gone h_tape h_kinds h_items h_widths h_sizes h_numbers h_moved v_isKept v_taped v_begins v_ends v_sort v_value v_isWrong v_itemMany v_farmMany v_farmCells out.2.1 out.2.2.1 out.2.2.2 v_down v_along) s.heap.size out.1) args s 0 0 (va_A wc0 s.heap.size)) (F0 m 0 ls []) := by
  unfold f_M_flow at hf
  obtain ⟨hx, hb, -⟩ := id X
  refine lv_iload_n hx hb d_M_flow_0 rfl (lv_at hl 1 rfl) ?_
  obtain ⟨r_14, hc_15, hf⟩ := kb1_some hf
  refine k_csi (w1 := (wd_M_isCell D)) (r := r_14) (ws' := (wd_M_flow D h h_now h_kept h_aside h_found h_down h_along h_parts h_gone h_tape h_kinds h_items h_widths h_sizes h_numbers h_moved v_isKept v_taped v_begins v_ends v_sort v_value v_isWrong v_itemMany v_farmMany v_farmCells v_now v_aside v_found v_down v_along)) X hV hl.1 (c_M_isCell D x1 hc_15) fk_M_isCell gw_967 rfl [] [none, none, none, none, none, none] rfl rfl ⟨rfl, rfl, rfl, rfl, rfl, rfl, trivial⟩ rfl rfl rfl d_M_flow_1 (fun H locs hV => ?_)
  refine lv_if_eq (tgt := 23) hx hb d_M_flow_4 (by decide) (fun c_16 => ?_) (fun c_16 => ?_)
  · replace hf := kifp c_16 hf
    exact t_M_flow_1 X hf hV (lv_sub hl [0] rfl)
  replace hf := kifn c_16 hf
  refine lv_iload_n hx hb d_M_flow_7 rfl (lv_at hl 2 rfl) ?_
  obtain ⟨r_17, hc_18, hf⟩ := kb1_some hf
  refine k_csi (w1 := (wd_M_isVolume D)) (r := r_17) (ws' := (wd_M_flow D h h_now h_kept h_aside h_found h_down h_along h_parts h_gone h_tape h_kinds h_items h_widths h_sizes h_numbers h_moved v_isKept v_taped v_begins v_ends v_sort v_value v_isWrong v_itemMany v_farmMany v_farmCells v_now v_aside v_found v_down v_along)) X hV hl.1 (c_M_isVolume D x2 hc_18) fk_M_isVolume gw_1138 rfl [] [none, none, none, none, none, none] rfl rfl ⟨rfl, rfl, rfl, rfl, rfl, rfl, trivial⟩ rfl rfl rfl d_M_flow_8 (fun H locs hV => ?_)
  refine lv_if_eq (tgt := 23) hx hb d_M_flow_11 (by decide) (fun c_19 => ?_) (fun c_19 => ?_)
  · replace hf := kifp c_19 hf
    exact t_M_flow_1 X hf hV (lv_sub hl [0] rfl)
  replace hf := kifn c_19 hf
  refine lv_aload_n hx hb d_M_flow_14 rfl (lv_at hl 0 rfl) ?_
  refine lv_iload_n hx hb d_M_flow_15 rfl (lv_at hl 1 rfl) ?_
  refine lv_iload_n hx hb d_M_flow_16 rfl (lv_at hl 2 rfl) ?_
  obtain ⟨r_20, v_now_21, v_aside_22, hc_23, hf⟩ := kb3_some hf
  refine k_cvl (w1 := (wd_M_asked D h h_now h_kept h_aside h_found h_down h_along h_parts h_gone h_tape h_kinds h_items h_widths h_sizes h_numbers h_moved v_isKept v_taped v_begins v_ends v_sort v_value v_isWrong v_itemMany v_farmMany v_farmCells v_now_21 v_aside_22 v_down v_along)) (r := r_20) (ws' := (wd_M_flow D h h_now h_kept h_aside h_found h_down h_along h_parts h_gone h_tape h_kinds h_items h_widths h_sizes h_numbers h_moved v_isKept v_taped v_begins v_ends v_sort v_value v_isWrong v_itemMany v_farmMany v_farmCells v_now_21 v_aside_22 v_found v_down v_along)) X hV hl.1 (c_M_asked D h h_now h_kept h_aside h_found h_down h_along h_parts h_gone h_tape h_kinds h_items h_widths h_sizes h_numbers h_moved v_isKept v_taped v_begins v_ends v_sort v_value v_isWrong v_itemMany v_farmMany v_farmCells v_now v_aside v_down v_along x1 x2 hc_23) fk_M_asked gw_1141 rfl 0 9 rfl rfl [0, 1, 2, 4, 5] [some 0, some 1, some 2, none, some 3, some 4] rfl rfl ⟨rfl, rfl, rfl, rfl, rfl, rfl, rfl, rfl, rfl, rfl, rfl, rfl, rfl, rfl, rfl, rfl, trivial⟩ rfl rfl rfl d_M_flow_17 (fun H locs hV => ?_)
  refine lv_goto (tgt := 30) hx hb d_M_flow_20 (by decide) ?_
  have e_ := Option.some.inj hf
  subst e_
  exact k_lret X rfl hV d_M_flow_30
set_option maxHeartbeats 2000000 in
set_option maxRecDepth 20000 in
theorem c_M_flow {l : Launch} (D : kD) (h : Nat) (h_now : Nat) (h_kept : Nat) (h_aside : Nat) (h_found : Nat) (h_down : Nat) (h_along : Nat) (h_parts : Nat) (h_gone : Nat) (h_tape : Nat) (h_kinds : Nat) (h_items : Nat) (h_widths : Nat) (h_sizes : Nat) (h_numbers : Nat) (h_moved : Nat) (v_isKept : Int32) (v_taped : Int32) (v_begins : Int32) (v_ends : Int32) (v_sort : Int32) (v_value : Int32) (v_isWrong : Int32) (v_itemMany : Int32) (v_farmMany : Int32) (v_farmCells : Int64) (v_now : Nat → Int32) (v_aside : Nat → Int32) (v_found : Nat → Int32) (v_down : Nat → Int32) (v_along : Nat → Int32) (x1 : Int32) (x2 : Int32) {out : Int64 × (Nat → Int32) × (Nat → Int32) × (Nat → Int32)} (hf : f_M_flow v_now v_aside v_found v_down v_along x1 x2 = some out) : kMl l D y_M_flow b_M_flow 3 (some .long) { frames := 5, cells := 0, slots := 0, locals := 121 } [.ref h, .int x1, .int x2] (wd_M_flow D h h_now h_kept h_aside h_found h_down h_along h_parts h_gone h_tape h_kinds h_items h_widths h_sizes h_numbers h_moved v_isKept v_taped v_begins v_ends v_sort v_value v_isWrong v_itemMany v_farmMany v_farmCells v_now v_aside v_found v_down v_along) (wd_M_flow D h h_now h_kept h_aside h_found h_down h_along h_parts h_gone h_tape h_kinds h_items h_widths h_sizes h_numbers h_moved v_isKept v_taped v_begins v_ends v_sort v_value v_isWrong v_itemMany v_farmMany v_farmCells out.2.1 out.2.2.1 out.2.2.2 v_down v_along) out.1 :=
  kMl_of (own := "MountainFarmsModel") (plainFor_of_name (by decide)) rfl rfl (fun p e s m args below meth c ls X hV hl => t_M_flow X hf hV hl)
set_option maxHeartbeats 2000000 in
set_option maxRecDepth 20000 in
theorem tb_M_hits_1 {l : Launch} {p : Program} {e : Env} {s : State} {m : MethodId} {args : Array Value} {below : List Frame} {meth : Method} {c : Code} {D : kD} {wc0 : va_W} {h : Nat} {h_now : Nat} {h_kept : Nat} {h_aside : Nat} {h_found : Nat} {h_down : Nat} {h_along : Nat} {h_parts : Nat} {h_gone : Nat} {h_tape : Nat} {h_kinds : Nat} {h_items : Nat} {h_widths : Nat} {h_sizes : Nat} {h_numbers : Nat} {h_moved : Nat} {v_isKept : Int32} {v_taped : Int32} {v_begins : Int32} {v_ends : Int32} {v_sort : Int32} {v_value : Int32} {v_isWrong : Int32} {v_itemMany : Int32} {v_farmMany : Int32} {v_farmCells : Int64} {v_now : Nat → Int32} {v_aside : Nat → Int32} {v_down : Nat → Int32} {v_along : Nat → Int32} {x2 : Int64} {x4 : Int32} {x5 : Int32} {rec1 : Int32 → Int32 → Option (Int32 × (Nat → Int32) × (Nat → Int32))} {out : Int32 × (Nat → Int32) × (Nat → Int32)} (X : kX p m meth c s args D (va_A wc0 s.heap.size) b_M_hits "MountainFarmsModel" 6 (some .int)) (hrec1 : ∀ (x4 : Int32) (x5 : Int32), rec1 x4 x5 = some out → ∀ (H : Heap) (locs : List Loc) (ls : Array Slot), kV D (va_A wc0 s.heap.size) s (wd_M_hits D h h_now h_kept h_aside h_found h_down h_along h_parts h_gone h_tape h_kinds h_items h_widths h_sizes h_numbers h_moved v_isKept v_taped v_begins v_ends v_sort v_value v_isWrong v_itemMany v_farmMany v_farmCells v_now v_aside v_down v_along) H locs → lv_has ls 6 [(0, .ref h), (2, .long x2), (4, .int x4), (5, .int x5)] → W p l e { frames := 5, cells := 0, slots := 0, locals := 121 } s m args below meth c H locs 0 0 (MQ below (kQi D wc0 (wd_M_hits D h h_now h_kept h_aside h_found h_down h_along h_parts h_gone h_tape h_kinds h_items h_widths h_sizes h_numbers h_moved v_isKept v_taped v_begins v_ends v_sort v_value v_isWrong v_itemMany v_farmMany v_farmCells out.2.1 out.2.2 v_down v_along) s.heap.size out.1) args s 0 0 (va_A wc0 s.heap.size)) (F0 m 18 ls [])) (hf : fb_M_hits_1 rec1 x2 v_now v_aside x4 x5 = some out) {H : Heap} {locs : List Loc} (hV : kV D (va_A wc0 s.heap.size) s (wd_M_hits D h h_now h_kept h_aside h_found h_down h_along h_parts h_gone h_tape h_kinds h_items h_widths h_sizes h_numbers h_moved v_isKept v_taped v_begins v_ends v_sort v_value v_isWrong v_itemMany v_farmMany v_farmCells v_now v_aside v_down v_along) H locs) {ls : Array Slot} (hl : lv_has ls 6 [(0, .ref h), (2, .long x2), (4, .int x4), (5, .int x5)]) : W p l e { frames := 5, cells := 0, slots := 0, locals := 121 } s m args below meth c H locs 0 0 (MQ below (kQi D wc0 (wd_M_hits D h h_now h_kept h_aside h_found h_down h_along h_parts h_gone h_tape h_kinds h_items h_widths h_sizes h_numbers h_moved v_isKept v_taped v_begins v_ends v_sort v_value v_isWrong v_itemMany v_farmMany v_farmCells out.2.1 out.2.2 v_down v_along) s.heap.size out.1) args s 0 0 (va_A wc0 s.heap.size)) (F0 m 18 ls []) := by
  unfold fb_M_hits_1 at hf
  obtain ⟨hx, hb, -⟩ := id X
  refine lv_iload hx hb d_M_hits_18 (lv_at hl 3 rfl) ?_
  refine lv_aload_n hx hb d_M_hits_20 rfl (lv_at hl 0 rfl) ?_
  refine k_get X hV 0 9 0 rfl rfl rfl gw_887 rfl rfl d_M_hits_21 ?_
  refine lv_bipush (v := 10) hx hb d_M_hits_24 bp_10 ?_
  refine k_iald X hV 1 rfl kin_10_218 kln_10 d_M_hits_26 ?_
  refine lv_icmp_ge (tgt := 75) hx hb d_M_hits_27 (by decide) (fun c_17 => ?_) (fun c_17 => ?_)
  · replace hf := kifp c_17 hf
    refine lv_iload hx hb d_M_hits_75 (lv_at hl 2 rfl) ?_
    have e_ := Option.some.inj hf
    subst e_
    exact k_iret X rfl hV rfl d_M_hits_77
  replace hf := kifn c_17 hf
  refine lv_iload hx hb d_M_hits_30 (lv_at hl 2 rfl) ?_
  refine lv_aload_n hx hb d_M_hits_32 rfl (lv_at hl 0 rfl) ?_
  refine lv_iload hx hb d_M_hits_33 (lv_at hl 3 rfl) ?_
  refine lv_iconst (v := 4) hx hb d_M_hits_35 ic_4 ?_
  obtain ⟨r_18, hc_19, hf⟩ := kb1_some hf
  refine k_cvi (w1 := (wd_M_farmIs D h h_now h_kept h_aside h_found h_down h_along h_parts h_gone h_tape h_kinds h_items h_widths h_sizes h_numbers h_moved v_isKept v_taped v_begins v_ends v_sort v_value v_isWrong v_itemMany v_farmMany v_farmCells v_now)) (r := r_18) (ws' := (wd_M_hits D h h_now h_kept h_aside h_found h_down h_along h_parts h_gone h_tape h_kinds h_items h_widths h_sizes h_numbers h_moved v_isKept v_taped v_begins v_ends v_sort v_value v_isWrong v_itemMany v_farmMany v_farmCells v_now v_aside v_down v_along)) X hV hl.1 (c_M_farmIs D h h_now h_kept h_aside h_found h_down h_along h_parts h_gone h_tape h_kinds h_items h_widths h_sizes h_numbers h_moved v_isKept v_taped v_begins v_ends v_sort v_value v_isWrong v_itemMany v_farmMany v_farmCells v_now x5 (4 : Int32) hc_19) fk_M_farmIs gw_990 rfl 0 9 rfl rfl [0, 1] [some 0, some 1, none, none, none] rfl rfl ⟨rfl, rfl, rfl, rfl, rfl, rfl, rfl, rfl, rfl, trivial⟩ rfl rfl rfl d_M_hits_36 (fun H locs hV => ?_)
  refine lv_if_ne (tgt := 65) hx hb d_M_hits_39 (by decide) (fun c_20 => ?_) (fun c_20 => ?_)
  · replace hf := kifn c_20 hf
    refine lv_iconst (v := 0) hx hb d_M_hits_65 ic_0 ?_
    refine lv_ior hx hb d_M_hits_66 ?_
    refine lv_istore (lv' := [(4, .int (x4 ||| (0 : Int32))), (0, .ref h), (2, .long x2), (5, .int x5)]) hx hb d_M_hits_67 hl (by decide) rfl (fun ls hl => ?_)
    refine lv_iinc (v := (x5 + 1)) (lv' := [(5, .int (x5 + 1)), (4, .int (x4 ||| (0 : Int32))), (0, .ref h), (2, .long x2)]) hx hb d_M_hits_69 hl (k := 3) rfl rfl (by decide) rfl (fun ls hl => ?_)
    refine lv_goto (tgt := 18) hx hb d_M_hits_72 (by decide) ?_
    exact hrec1 _ _ hf _ _ _ hV (lv_sub hl [2, 3, 1, 0] rfl)
  replace hf := kifp c_20 hf
  refine lv_lload_n hx hb d_M_hits_42 rfl (lv_at hl 1 rfl) ?_
  refine lv_aload_n hx hb d_M_hits_43 rfl (lv_at hl 0 rfl) ?_
  refine lv_iload hx hb d_M_hits_44 (lv_at hl 3 rfl) ?_
  refine lv_iconst (v := 1) hx hb d_M_hits_46 ic_1 ?_
  obtain ⟨r_21, hc_22, hf⟩ := kb1_some hf
  refine k_cvi (w1 := (wd_M_farmIs D h h_now h_kept h_aside h_found h_down h_along h_parts h_gone h_tape h_kinds h_items h_widths h_sizes h_numbers h_moved v_isKept v_taped v_begins v_ends v_sort v_value v_isWrong v_itemMany v_farmMany v_farmCells v_now)) (r := r_21) (ws' := (wd_M_hits D h h_now h_kept h_aside h_found h_down h_along h_parts h_gone h_tape h_kinds h_items h_widths h_sizes h_numbers h_moved v_isKept v_taped v_begins v_ends v_sort v_value v_isWrong v_itemMany v_farmMany v_farmCells v_now v_aside v_down v_along)) X hV hl.1 (c_M_farmIs D h h_now h_kept h_aside h_found h_down h_along h_parts h_gone h_tape h_kinds h_items h_widths h_sizes h_numbers h_moved v_isKept v_taped v_begins v_ends v_sort v_value v_isWrong v_itemMany v_farmMany v_farmCells v_now x5 (1 : Int32) hc_22) fk_M_farmIs gw_990 rfl 0 9 rfl rfl [0, 1] [some 0, some 1, none, none, none] rfl rfl ⟨rfl, rfl, rfl, rfl, rfl, rfl, rfl, rfl, rfl, trivial⟩ rfl rfl rfl d_M_hits_47 (fun H locs hV => ?_)
  refine lv_lshr hx hb d_M_hits_50 rfl ?_
  refine lv_lconst (v := 1) hx hb d_M_hits_51 lc_1 ?_
  refine lv_land hx hb d_M_hits_52 ?_
  refine lv_lconst (v := 1) hx hb d_M_hits_53 lc_1 ?_
  refine W.lcmp hx hb d_M_hits_54 ?_
  refine lv_if_ne (tgt := 65) hx hb d_M_hits_55 (by decide) (fun c_23 => ?_) (fun c_23 => ?_)
  · replace hf := kifn c_23 hf
    refine lv_iconst (v := 0) hx hb d_M_hits_65 ic_0 ?_
    refine lv_ior hx hb d_M_hits_66 ?_
    refine lv_istore (lv' := [(4, .int (x4 ||| (0 : Int32))), (0, .ref h), (2, .long x2), (5, .int x5)]) hx hb d_M_hits_67 hl (by decide) rfl (fun ls hl => ?_)
    refine lv_iinc (v := (x5 + 1)) (lv' := [(5, .int (x5 + 1)), (4, .int (x4 ||| (0 : Int32))), (0, .ref h), (2, .long x2)]) hx hb d_M_hits_69 hl (k := 3) rfl rfl (by decide) rfl (fun ls hl => ?_)
    refine lv_goto (tgt := 18) hx hb d_M_hits_72 (by decide) ?_
    exact hrec1 _ _ hf _ _ _ hV (lv_sub hl [2, 3, 1, 0] rfl)
  replace hf := kifp c_23 hf
  refine lv_iconst (v := 1) hx hb d_M_hits_58 ic_1 ?_
  refine lv_iload hx hb d_M_hits_59 (lv_at hl 3 rfl) ?_
  refine lv_ishl hx hb d_M_hits_61 ?_
  refine lv_goto (tgt := 66) hx hb d_M_hits_62 (by decide) ?_
  refine lv_ior hx hb d_M_hits_66 ?_
  refine k_leti hf (fun x4_24 hf => ?_)
  refine lv_istore (lv' := [(4, .int x4_24), (0, .ref h), (2, .long x2), (5, .int x5)]) hx hb d_M_hits_67 hl (by decide) rfl (fun ls hl => ?_)
  refine lv_iinc (v := (x5 + 1)) (lv' := [(5, .int (x5 + 1)), (4, .int x4_24), (0, .ref h), (2, .long x2)]) hx hb d_M_hits_69 hl (k := 3) rfl rfl (by decide) rfl (fun ls hl => ?_)
  refine lv_goto (tgt := 18) hx hb d_M_hits_72 (by decide) ?_
  exact hrec1 _ _ hf _ _ _ hV (lv_sub hl [2, 3, 1, 0] rfl)
set_option maxHeartbeats 2000000 in
set_option maxRecDepth 20000 in
theorem tl_M_hits_1 {l : Launch} {p : Program} {e : Env} {s : State} {m : MethodId} {args : Array Value} {below : List Frame} {meth : Method} {c : Code} {D : kD} {wc0 : va_W} {h : Nat} {h_now : Nat} {h_kept : Nat} {h_aside : Nat} {h_found : Nat} {h_down : Nat} {h_along : Nat} {h_parts : Nat} {h_gone : Nat} {h_tape : Nat} {h_kinds : Nat} {h_items : Nat} {h_widths : Nat} {h_sizes : Nat} {h_numbers : Nat} {h_moved : Nat} {v_isKept : Int32} {v_taped : Int32} {v_begins : Int32} {v_ends : Int32} {v_sort : Int32} {v_value : Int32} {v_isWrong : Int32} {v_itemMany : Int32} {v_farmMany : Int32} {v_farmCells : Int64} {v_now : Nat → Int32} {v_aside : Nat → Int32} {v_down : Nat → Int32} {v_along : Nat → Int32} {x2 : Int64} {out : Int32 × (Nat → Int32) × (Nat → Int32)} (X : kX p m meth c s args D (va_A wc0 s.heap.size) b_M_hits "MountainFarmsModel" 6 (some .int)) : ∀ (n : Nat) (x4 : Int32) (x5 : Int32), fl_M_hits_1 x2 v_now v_aside n x4 x5 = some out → ∀ (H : Heap) (locs : List Loc) (ls : Array Slot), kV D (va_A wc0 s.heap.size) s (wd_M_hits D h h_now h_kept h_aside h_found h_down h_along h_parts h_gone h_tape h_kinds h_items h_widths h_sizes h_numbers h_moved v_isKept v_taped v_begins v_ends v_sort v_value v_isWrong v_itemMany v_farmMany v_farmCells v_now v_aside v_down v_along) H locs → lv_has ls 6 [(0, .ref h), (2, .long x2), (4, .int x4), (5, .int x5)] → W p l e { frames := 5, cells := 0, slots := 0, locals := 121 } s m args below meth c H locs 0 0 (MQ below (kQi D wc0 (wd_M_hits D h h_now h_kept h_aside h_found h_down h_along h_parts h_gone h_tape h_kinds h_items h_widths h_sizes h_numbers h_moved v_isKept v_taped v_begins v_ends v_sort v_value v_isWrong v_itemMany v_farmMany v_farmCells out.2.1 out.2.2 v_down v_along) s.heap.size out.1) args s 0 0 (va_A wc0 s.heap.size)) (F0 m 18 ls []) := by
  intro n
  induction n with
  | zero => intro x4 x5 hf; exact knone hf
  | succ n ih => intro x4 x5 hf H locs ls hV hl; exact tb_M_hits_1 X ih hf hV hl
set_option maxHeartbeats 2000000 in
set_option maxRecDepth 20000 in
theorem t_M_hits {l : Launch} {p : Program} {e : Env} {s : State} {m : MethodId} {args : Array Value} {below : List Frame} {meth : Method} {c : Code} {D : kD} {wc0 : va_W} {h : Nat} {h_now : Nat} {h_kept : Nat} {h_aside : Nat} {h_found : Nat} {h_down : Nat} {h_along : Nat} {h_parts : Nat} {h_gone : Nat} {h_tape : Nat} {h_kinds : Nat} {h_items : Nat} {h_widths : Nat} {h_sizes : Nat} {h_numbers : Nat} {h_moved : Nat} {v_isKept : Int32} {v_taped : Int32} {v_begins : Int32} {v_ends : Int32} {v_sort : Int32} {v_value : Int32} {v_isWrong : Int32} {v_itemMany : Int32} {v_farmMany : Int32} {v_farmCells : Int64} {v_now : Nat → Int32} {v_aside : Nat → Int32} {v_down : Nat → Int32} {v_along : Nat → Int32} {x1 : Int32} {out : Int32 × (Nat → Int32) × (Nat → Int32)} (X : kX p m meth c s args D (va_A wc0 s.heap.size) b_M_hits "MountainFarmsModel" 6 (some .int)) (hf : f_M_hits v_now v_aside v_down v_along x1 = some out) {H : Heap} {locs : List Loc} (hV : kV D (va_A wc0 s.heap.size) s (wd_M_hits D h h_now h_kept h_aside h_found h_down h_along h_parts h_gone h_tape h_kinds h_items h_widths h_sizes h_numbers h_moved v_isKept v_taped v_begins v_ends v_sort v_value v_isWrong v_itemMany v_farmMany v_farmCells v_now v_aside v_down v_along) H locs) {ls : Array Slot} (hl : lv_has ls 6 [(0, .ref h), (1, .int x1)]) : W p l e { frames := 5, cells := 0, slots := 0, locals := 121 } s m args below meth c H locs 0 0 (MQ below (kQi D wc0 (wd_M_hits D h h_now h_kept h_aside h_found h_down h_along h_parts h_gone h_tape h_kinds h_items h_widths h_sizes h_numbers h_moved v_isKept v_taped v_begins v_ends v_sort v_value v_isWrong v_itemMany v_farmMany v_farmCells out.2.1 out.2.2 v_down v_along) s.heap.size out.1) args s 0 0 (va_A wc0 s.heap.size)) (F0 m 0 ls []) := by
  unfold f_M_hits at hf
  obtain ⟨hx, hb, -⟩ := id X
  refine lv_aload_n hx hb d_M_hits_0 rfl (lv_at hl 0 rfl) ?_
  refine lv_aload_n hx hb d_M_hits_1 rfl (lv_at hl 0 rfl) ?_
  refine k_get X hV 0 9 0 rfl rfl rfl gw_887 rfl rfl d_M_hits_2 ?_
  refine lv_iconst (v := 3) hx hb d_M_hits_5 ic_3 ?_
  refine k_iald X hV 1 rfl kin_3_218 kln_3 d_M_hits_6 ?_
  refine lv_iload_n hx hb d_M_hits_7 rfl (lv_at hl 1 rfl) ?_
  obtain ⟨r_13, v_now_14, v_aside_15, hc_16, hf⟩ := kb3_some hf
  refine k_cvl (w1 := (wd_M_asked D h h_now h_kept h_aside h_found h_down h_along h_parts h_gone h_tape h_kinds h_items h_widths h_sizes h_numbers h_moved v_isKept v_taped v_begins v_ends v_sort v_value v_isWrong v_itemMany v_farmMany v_farmCells v_now_14 v_aside_15 v_down v_along)) (r := r_13) (ws' := (wd_M_hits D h h_now h_kept h_aside h_found h_down h_along h_parts h_gone h_tape h_kinds h_items h_widths h_sizes h_numbers h_moved v_isKept v_taped v_begins v_ends v_sort v_value v_isWrong v_itemMany v_farmMany v_farmCells v_now_14 v_aside_15 v_down v_along)) X hV hl.1 (c_M_asked D h h_now h_kept h_aside h_found h_down h_along h_parts h_gone h_tape h_kinds h_items h_widths h_sizes h_numbers h_moved v_isKept v_taped v_begins v_ends v_sort v_value v_isWrong v_itemMany v_farmMany v_farmCells v_now v_aside v_down v_along (v_now 3) x1 hc_16) fk_M_asked gw_1141 rfl 0 9 rfl rfl [0, 1, 2, 3, 4] [some 0, some 1, some 2, some 3, some 4] rfl rfl ⟨rfl, rfl, rfl, rfl, rfl, rfl, rfl, rfl, rfl, rfl, rfl, rfl, rfl, rfl, rfl, trivial⟩ rfl rfl rfl d_M_hits_8 (fun H locs hV => ?_)
  refine lv_lstore_n (lv' := [(2, .long r_13), (0, .ref h), (1, .int x1)]) hx hb d_M_hits_11 rfl hl (by decide) rfl (fun ls hl => ?_)
  refine lv_iconst (v := 0) hx hb d_M_hits_12 ic_0 ?_
  refine lv_istore (lv' := [(4, .int (0 : Int32)), (2, .long r_13), (0, .ref h), (1, .int x1)]) hx hb d_M_hits_13 hl (by decide) rfl (fun ls hl => ?_)
  refine lv_iconst (v := 0) hx hb d_M_hits_15 ic_0 ?_
  refine lv_istore (lv' := [(5, .int (0 : Int32)), (4, .int (0 : Int32)), (2, .long r_13), (0, .ref h), (1, .int x1)]) hx hb d_M_hits_16 hl (by decide) rfl (fun ls hl => ?_)
  exact tl_M_hits_1 X _ _ _ hf _ _ _ hV (lv_sub hl [3, 2, 1, 0] rfl)
set_option maxHeartbeats 2000000 in
set_option maxRecDepth 20000 in
theorem c_M_hits {l : Launch} (D : kD) (h : Nat) (h_now : Nat) (h_kept : Nat) (h_aside : Nat) (h_found : Nat) (h_down : Nat) (h_along : Nat) (h_parts : Nat) (h_gone : Nat) (h_tape : Nat) (h_kinds : Nat) (h_items : Nat) (h_widths : Nat) (h_sizes : Nat) (h_numbers : Nat) (h_moved : Nat) (v_isKept : Int32) (v_taped : Int32) (v_begins : Int32) (v_ends : Int32) (v_sort : Int32) (v_value : Int32) (v_isWrong : Int32) (v_itemMany : Int32) (v_farmMany : Int32) (v_farmCells : Int64) (v_now : Nat → Int32) (v_aside : Nat → Int32) (v_down : Nat → Int32) (v_along : Nat → Int32) (x1 : Int32) {out : Int32 × (Nat → Int32) × (Nat → Int32)} (hf : f_M_hits v_now v_aside v_down v_along x1 = some out) : kMi l D y_M_hits b_M_hits 6 (some .int) { frames := 5, cells := 0, slots := 0, locals := 121 } [.ref h, .int x1] (wd_M_hits D h h_now h_kept h_aside h_found h_down h_along h_parts h_gone h_tape h_kinds h_items h_widths h_sizes h_numbers h_moved v_isKept v_taped v_begins v_ends v_sort v_value v_isWrong v_itemMany v_farmMany v_farmCells v_now v_aside v_down v_along) (wd_M_hits D h h_now h_kept h_aside h_found h_down h_along h_parts h_gone h_tape h_kinds h_items h_widths h_sizes h_numbers h_moved v_isKept v_taped v_begins v_ends v_sort v_value v_isWrong v_itemMany v_farmMany v_farmCells out.2.1 out.2.2 v_down v_along) out.1 :=
  kMi_of (own := "MountainFarmsModel") (plainFor_of_name (by decide)) rfl rfl (fun p e s m args below meth c ls X hV hl => t_M_hits X hf hV hl)
set_option maxHeartbeats 2000000 in
set_option maxRecDepth 20000 in
theorem t_M_hit {l : Launch} {p : Program} {e : Env} {s : State} {m : MethodId} {args : Array Value} {below : List Frame} {meth : Method} {c : Code} {D : kD} {wc0 : va_W} {h : Nat} {h_now : Nat} {h_kept : Nat} {h_aside : Nat} {h_found : Nat} {h_down : Nat} {h_along : Nat} {h_parts : Nat} {h_gone : Nat} {h_tape : Nat} {h_kinds : Nat} {h_items : Nat} {h_widths : Nat} {h_sizes : Nat} {h_numbers : Nat} {h_moved : Nat} {v_isKept : Int32} {v_taped : Int32} {v_begins : Int32} {v_ends : Int32} {v_sort : Int32} {v_value : Int32} {v_isWrong : Int32} {v_itemMany : Int32} {v_farmMany : Int32} {v_farmCells : Int64} {v_now : Nat → Int32} {v_aside : Nat → Int32} {v_found : Nat → Int32} {v_down : Nat → Int32} {v_along : Nat → Int32} {x1 : Int32} {out : Int32 × (Nat → Int32) × (Nat → Int32) × (Nat → Int32)} (X : kX p m meth c s args D (va_A wc0 s.heap.size) b_M_hit "MountainFarmsModel" 2 (some .int)) (hf : f_M_hit v_now v_aside v_found v_down v_along x1 = some out) {H : Heap} {locs : List Loc} (hV : kV D (va_A wc0 s.heap.size) s (wd_M_hit D h h_now h_kept h_aside h_found h_down h_along h_parts h_gone h_tape h_kinds h_items h_widths h_sizes h_numbers h_moved v_isKept v_taped v_begins v_ends v_sort v_value v_isWrong v_itemMany v_farmMany v_farmCells v_now v_aside v_found v_down v_along) H locs) {ls : Array Slot} (hl : lv_has ls 2 [(0, .ref h), (1, .int x1)]) : W p l e { frames := 6, cells := 0, slots := 0, locals := 146 } s m args below meth c H locs 0 0 (MQ below (kQi D wc0 (wd_M_hit D h h_now h_kept h_aside h_found h_down h_along h_parts h_gone h_tape h_kinds h_items h_widths h_sizes h_numbers h_moved v_isKept v_taped v_begins v_ends v_sort v_value v_isWrong v_itemMany v_farmMany v_farmCells out.2.1 out.2.2.1 out.2.2.2 v_down v_along) s.heap.size out.1) args s 0 0 (va_A wc0 s.heap.size)) (F0 m 0 ls []) := by
  unfold f_M_hit at hf
  obtain ⟨hx, hb, -⟩ := id X
  refine lv_iload_n hx hb d_M_hit_0 rfl (lv_at hl 1 rfl) ?_
  obtain ⟨r_11, hc_12, hf⟩ := kb1_some hf
  refine k_csi (w1 := (wd_M_isVolume D)) (r := r_11) (ws' := (wd_M_hit D h h_now h_kept h_aside h_found h_down h_along h_parts h_gone h_tape h_kinds h_items h_widths h_sizes h_numbers h_moved v_isKept v_taped v_begins v_ends v_sort v_value v_isWrong v_itemMany v_farmMany v_farmCells v_now v_aside v_found v_down v_along)) X hV hl.1 (c_M_isVolume D x1 hc_12) fk_M_isVolume gw_1138 rfl [] [none, none, none, none, none, none] rfl rfl ⟨rfl, rfl, rfl, rfl, rfl, rfl, trivial⟩ rfl rfl rfl d_M_hit_1 (fun H locs hV => ?_)
  refine lv_if_eq (tgt := 15) hx hb d_M_hit_4 (by decide) (fun c_13 => ?_) (fun c_13 => ?_)
  · replace hf := kifp c_13 hf
    refine lv_aload_n hx hb d_M_hit_15 rfl (lv_at hl 0 rfl) ?_
    refine k_ldc (v := (-1000000001)) X gw_973 d_M_hit_16 ?_
    obtain ⟨r_14, v_found_15, hc_16, hf⟩ := kb2_some hf
    refine k_cvi (w1 := (wd_M_finding D h h_now h_kept h_aside h_found h_down h_along h_parts h_gone h_tape h_kinds h_items h_widths h_sizes h_numbers h_moved v_isKept v_taped v_begins v_ends v_sort v_value v_isWrong v_itemMany v_farmMany v_farmCells v_found_15)) (r := r_14) (ws' := (wd_M_hit D h h_now h_kept h_aside h_found h_down h_along h_parts h_gone h_tape h_kinds h_items h_widths h_sizes h_numbers h_moved v_isKept v_taped v_begins v_ends v_sort v_value v_isWrong v_itemMany v_farmMany v_farmCells v_now v_aside v_found_15 v_down v_along)) X hV hl.1 (c_M_finding D h h_now h_kept h_aside h_found h_down h_along h_parts h_gone h_tape h_kinds h_items h_widths h_sizes h_numbers h_moved v_isKept v_taped v_begins v_ends v_sort v_value v_isWrong v_itemMany v_farmMany v_farmCells v_found (-1000000001 : Int32) hc_16) fk_M_finding gw_974 rfl 0 9 rfl rfl [0, 3] [some 0, none, none, some 1, none, none] rfl rfl ⟨rfl, rfl, rfl, rfl, rfl, rfl, rfl, rfl, rfl, rfl, trivial⟩ rfl rfl rfl d_M_hit_18 (fun H locs hV => ?_)
    have e_ := Option.some.inj hf
    subst e_
    exact k_iret X rfl hV rfl d_M_hit_21
  replace hf := kifn c_13 hf
  refine lv_aload_n hx hb d_M_hit_7 rfl (lv_at hl 0 rfl) ?_
  refine lv_iload_n hx hb d_M_hit_8 rfl (lv_at hl 1 rfl) ?_
  obtain ⟨r_17, v_now_18, v_aside_19, hc_20, hf⟩ := kb3_some hf
  refine k_cvi (w1 := (wd_M_hits D h h_now h_kept h_aside h_found h_down h_along h_parts h_gone h_tape h_kinds h_items h_widths h_sizes h_numbers h_moved v_isKept v_taped v_begins v_ends v_sort v_value v_isWrong v_itemMany v_farmMany v_farmCells v_now_18 v_aside_19 v_down v_along)) (r := r_17) (ws' := (wd_M_hit D h h_now h_kept h_aside h_found h_down h_along h_parts h_gone h_tape h_kinds h_items h_widths h_sizes h_numbers h_moved v_isKept v_taped v_begins v_ends v_sort v_value v_isWrong v_itemMany v_farmMany v_farmCells v_now_18 v_aside_19 v_found v_down v_along)) X hV hl.1 (c_M_hits D h h_now h_kept h_aside h_found h_down h_along h_parts h_gone h_tape h_kinds h_items h_widths h_sizes h_numbers h_moved v_isKept v_taped v_begins v_ends v_sort v_value v_isWrong v_itemMany v_farmMany v_farmCells v_now v_aside v_down v_along x1 hc_20) fk_M_hits gw_1160 rfl 0 9 rfl rfl [0, 1, 2, 4, 5] [some 0, some 1, some 2, none, some 3, some 4] rfl rfl ⟨rfl, rfl, rfl, rfl, rfl, rfl, rfl, rfl, rfl, rfl, rfl, rfl, rfl, rfl, rfl, rfl, trivial⟩ rfl rfl rfl d_M_hit_9 (fun H locs hV => ?_)
  refine lv_goto (tgt := 21) hx hb d_M_hit_12 (by decide) ?_
  have e_ := Option.some.inj hf
  subst e_
  exact k_iret X rfl hV rfl d_M_hit_21
set_option maxHeartbeats 2000000 in
set_option maxRecDepth 20000 in
theorem c_M_hit {l : Launch} (D : kD) (h : Nat) (h_now : Nat) (h_kept : Nat) (h_aside : Nat) (h_found : Nat) (h_down : Nat) (h_along : Nat) (h_parts : Nat) (h_gone : Nat) (h_tape : Nat) (h_kinds : Nat) (h_items : Nat) (h_widths : Nat) (h_sizes : Nat) (h_numbers : Nat) (h_moved : Nat) (v_isKept : Int32) (v_taped : Int32) (v_begins : Int32) (v_ends : Int32) (v_sort : Int32) (v_value : Int32) (v_isWrong : Int32) (v_itemMany : Int32) (v_farmMany : Int32) (v_farmCells : Int64) (v_now : Nat → Int32) (v_aside : Nat → Int32) (v_found : Nat → Int32) (v_down : Nat → Int32) (v_along : Nat → Int32) (x1 : Int32) {out : Int32 × (Nat → Int32) × (Nat → Int32) × (Nat → Int32)} (hf : f_M_hit v_now v_aside v_found v_down v_along x1 = some out) : kMi l D y_M_hit b_M_hit 2 (some .int) { frames := 6, cells := 0, slots := 0, locals := 146 } [.ref h, .int x1] (wd_M_hit D h h_now h_kept h_aside h_found h_down h_along h_parts h_gone h_tape h_kinds h_items h_widths h_sizes h_numbers h_moved v_isKept v_taped v_begins v_ends v_sort v_value v_isWrong v_itemMany v_farmMany v_farmCells v_now v_aside v_found v_down v_along) (wd_M_hit D h h_now h_kept h_aside h_found h_down h_along h_parts h_gone h_tape h_kinds h_items h_widths h_sizes h_numbers h_moved v_isKept v_taped v_begins v_ends v_sort v_value v_isWrong v_itemMany v_farmMany v_farmCells out.2.1 out.2.2.1 out.2.2.2 v_down v_along) out.1 :=
  kMi_of (own := "MountainFarmsModel") (plainFor_of_name (by decide)) rfl rfl (fun p e s m args below meth c ls X hV hl => t_M_hit X hf hV hl)
set_option maxHeartbeats 2000000 in
set_option maxRecDepth 20000 in
theorem tb_M_least_1 {l : Launch} {p : Program} {e : Env} {s : State} {m : MethodId} {args : Array Value} {below : List Frame} {meth : Method} {c : Code} {D : kD} {wc0 : va_W} {h : Nat} {h_now : Nat} {h_kept : Nat} {h_aside : Nat} {h_found : Nat} {h_down : Nat} {h_along : Nat} {h_parts : Nat} {h_gone : Nat} {h_tape : Nat} {h_kinds : Nat} {h_items : Nat} {h_widths : Nat} {h_sizes : Nat} {h_numbers : Nat} {h_moved : Nat} {v_isKept : Int32} {v_taped : Int32} {v_begins : Int32} {v_ends : Int32} {v_sort : Int32} {v_value : Int32} {v_isWrong : Int32} {v_itemMany : Int32} {v_farmMany : Int32} {v_farmCells : Int64} {v_now : Nat → Int32} {v_aside : Nat → Int32} {v_found : Nat → Int32} {v_down : Nat → Int32} {v_along : Nat → Int32} {x1 : Int32} {x2 : Int32} {rec1 : Int32 → (Nat → Int32) → (Nat → Int32) → Option (Int32 × (Nat → Int32) × (Nat → Int32) × (Nat → Int32))} {out : Int32 × (Nat → Int32) × (Nat → Int32) × (Nat → Int32)} (X : kX p m meth c s args D (va_A wc0 s.heap.size) b_M_least "MountainFarmsModel" 3 (some .int)) (hrec1 : ∀ (x2 : Int32) (v_now : Nat → Int32) (v_aside : Nat → Int32), rec1 x2 v_now v_aside = some out → ∀ (H : Heap) (locs : List Loc) (ls : Array Slot), kV D (va_A wc0 s.heap.size) s (wd_M_least D h h_now h_kept h_aside h_found h_down h_along h_parts h_gone h_tape h_kinds h_items h_widths h_sizes h_numbers h_moved v_isKept v_taped v_begins v_ends v_sort v_value v_isWrong v_itemMany v_farmMany v_farmCells v_now v_aside v_found v_down v_along) H locs → lv_has ls 3 [(0, .ref h), (1, .int x1), (2, .int x2)] → W p l e { frames := 6, cells := 0, slots := 0, locals := 146 } s m args below meth c H locs 0 0 (MQ below (kQi D wc0 (wd_M_least D h h_now h_kept h_aside h_found h_down h_along h_parts h_gone h_tape h_kinds h_items h_widths h_sizes h_numbers h_moved v_isKept v_taped v_begins v_ends v_sort v_value v_isWrong v_itemMany v_farmMany v_farmCells out.2.1 out.2.2.1 out.2.2.2 v_down v_along) s.heap.size out.1) args s 0 0 (va_A wc0 s.heap.size)) (F0 m 34 ls [])) (hf : fb_M_least_1 rec1 x1 v_found v_down v_along x2 v_now v_aside = some out) {H : Heap} {locs : List Loc} (hV : kV D (va_A wc0 s.heap.size) s (wd_M_least D h h_now h_kept h_aside h_found h_down h_along h_parts h_gone h_tape h_kinds h_items h_widths h_sizes h_numbers h_moved v_isKept v_taped v_begins v_ends v_sort v_value v_isWrong v_itemMany v_farmMany v_farmCells v_now v_aside v_found v_down v_along) H locs) {ls : Array Slot} (hl : lv_has ls 3 [(0, .ref h), (1, .int x1), (2, .int x2)]) : W p l e { frames := 6, cells := 0, slots := 0, locals := 146 } s m args below meth c H locs 0 0 (MQ below (kQi D wc0 (wd_M_least D h h_now h_kept h_aside h_found h_down h_along h_parts h_gone h_tape h_kinds h_items h_widths h_sizes h_numbers h_moved v_isKept v_taped v_begins v_ends v_sort v_value v_isWrong v_itemMany v_farmMany v_farmCells out.2.1 out.2.2.1 out.2.2.2 v_down v_along) s.heap.size out.1) args s 0 0 (va_A wc0 s.heap.size)) (F0 m 34 ls []) := by
  unfold fb_M_least_1 at hf
  obtain ⟨hx, hb, -⟩ := id X
  refine lv_iload_n hx hb d_M_least_34 rfl (lv_at hl 2 rfl) ?_
  refine lv_bipush (v := 99) hx hb d_M_least_35 bp_99 ?_
  refine lv_icmp_gt (tgt := 61) hx hb d_M_least_37 (by decide) (fun c_34 => ?_) (fun c_34 => ?_)
  · replace hf := kifp c_34 hf
    refine lv_aload_n hx hb d_M_least_61 rfl (lv_at hl 0 rfl) ?_
    refine k_ldc (v := (-1000000004)) X gw_1123 d_M_least_62 ?_
    obtain ⟨r_35, v_found_36, hc_37, hf⟩ := kb2_some hf
    refine k_cvi (w1 := (wd_M_finding D h h_now h_kept h_aside h_found h_down h_along h_parts h_gone h_tape h_kinds h_items h_widths h_sizes h_numbers h_moved v_isKept v_taped v_begins v_ends v_sort v_value v_isWrong v_itemMany v_farmMany v_farmCells v_found_36)) (r := r_35) (ws' := (wd_M_least D h h_now h_kept h_aside h_found h_down h_along h_parts h_gone h_tape h_kinds h_items h_widths h_sizes h_numbers h_moved v_isKept v_taped v_begins v_ends v_sort v_value v_isWrong v_itemMany v_farmMany v_farmCells v_now v_aside v_found_36 v_down v_along)) X hV hl.1 (c_M_finding D h h_now h_kept h_aside h_found h_down h_along h_parts h_gone h_tape h_kinds h_items h_widths h_sizes h_numbers h_moved v_isKept v_taped v_begins v_ends v_sort v_value v_isWrong v_itemMany v_farmMany v_farmCells v_found (-1000000004 : Int32) hc_37) fk_M_finding gw_974 rfl 0 9 rfl rfl [0, 3] [some 0, none, none, some 1, none, none] rfl rfl ⟨rfl, rfl, rfl, rfl, rfl, rfl, rfl, rfl, rfl, rfl, trivial⟩ rfl rfl rfl d_M_least_64 (fun H locs hV => ?_)
    have e_ := Option.some.inj hf
    subst e_
    exact k_iret X rfl hV rfl d_M_least_67
  replace hf := kifn c_34 hf
  refine lv_aload_n hx hb d_M_least_40 rfl (lv_at hl 0 rfl) ?_
  refine lv_iload_n hx hb d_M_least_41 rfl (lv_at hl 2 rfl) ?_
  obtain ⟨r_38, v_now_39, v_aside_40, hc_41, hf⟩ := kb3_some hf
  refine k_cvi (w1 := (wd_M_hits D h h_now h_kept h_aside h_found h_down h_along h_parts h_gone h_tape h_kinds h_items h_widths h_sizes h_numbers h_moved v_isKept v_taped v_begins v_ends v_sort v_value v_isWrong v_itemMany v_farmMany v_farmCells v_now_39 v_aside_40 v_down v_along)) (r := r_38) (ws' := (wd_M_least D h h_now h_kept h_aside h_found h_down h_along h_parts h_gone h_tape h_kinds h_items h_widths h_sizes h_numbers h_moved v_isKept v_taped v_begins v_ends v_sort v_value v_isWrong v_itemMany v_farmMany v_farmCells v_now_39 v_aside_40 v_found v_down v_along)) X hV hl.1 (c_M_hits D h h_now h_kept h_aside h_found h_down h_along h_parts h_gone h_tape h_kinds h_items h_widths h_sizes h_numbers h_moved v_isKept v_taped v_begins v_ends v_sort v_value v_isWrong v_itemMany v_farmMany v_farmCells v_now v_aside v_down v_along x2 hc_41) fk_M_hits gw_1160 rfl 0 9 rfl rfl [0, 1, 2, 4, 5] [some 0, some 1, some 2, none, some 3, some 4] rfl rfl ⟨rfl, rfl, rfl, rfl, rfl, rfl, rfl, rfl, rfl, rfl, rfl, rfl, rfl, rfl, rfl, rfl, trivial⟩ rfl rfl rfl d_M_least_42 (fun H locs hV => ?_)
  refine lv_iload_n hx hb d_M_least_45 rfl (lv_at hl 1 rfl) ?_
  refine lv_ishr hx hb d_M_least_46 ?_
  refine lv_iconst (v := 1) hx hb d_M_least_47 ic_1 ?_
  refine lv_iand hx hb d_M_least_48 ?_
  refine lv_iconst (v := 1) hx hb d_M_least_49 ic_1 ?_
  refine lv_icmp_ne (tgt := 55) hx hb d_M_least_50 (by decide) (fun c_42 => ?_) (fun c_42 => ?_)
  · replace hf := kifn c_42 hf
    refine lv_iinc (v := (x2 + 1)) (lv' := [(2, .int (x2 + 1)), (0, .ref h), (1, .int x1)]) hx hb d_M_least_55 hl (k := 2) rfl rfl (by decide) rfl (fun ls hl => ?_)
    refine lv_goto (tgt := 34) hx hb d_M_least_58 (by decide) ?_
    exact hrec1 _ _ _ hf _ _ _ hV (lv_sub hl [1, 2, 0] rfl)
  replace hf := kifp c_42 hf
  refine lv_iload_n hx hb d_M_least_53 rfl (lv_at hl 2 rfl) ?_
  have e_ := Option.some.inj hf
  subst e_
  exact k_iret X rfl hV rfl d_M_least_54
set_option maxHeartbeats 2000000 in
set_option maxRecDepth 20000 in
theorem tl_M_least_1 {l : Launch} {p : Program} {e : Env} {s : State} {m : MethodId} {args : Array Value} {below : List Frame} {meth : Method} {c : Code} {D : kD} {wc0 : va_W} {h : Nat} {h_now : Nat} {h_kept : Nat} {h_aside : Nat} {h_found : Nat} {h_down : Nat} {h_along : Nat} {h_parts : Nat} {h_gone : Nat} {h_tape : Nat} {h_kinds : Nat} {h_items : Nat} {h_widths : Nat} {h_sizes : Nat} {h_numbers : Nat} {h_moved : Nat} {v_isKept : Int32} {v_taped : Int32} {v_begins : Int32} {v_ends : Int32} {v_sort : Int32} {v_value : Int32} {v_isWrong : Int32} {v_itemMany : Int32} {v_farmMany : Int32} {v_farmCells : Int64} {v_found : Nat → Int32} {v_down : Nat → Int32} {v_along : Nat → Int32} {x1 : Int32} {out : Int32 × (Nat → Int32) × (Nat → Int32) × (Nat → Int32)} (X : kX p m meth c s args D (va_A wc0 s.heap.size) b_M_least "MountainFarmsModel" 3 (some .int)) : ∀ (n : Nat) (x2 : Int32) (v_now : Nat → Int32) (v_aside : Nat → Int32), fl_M_least_1 x1 v_found v_down v_along n x2 v_now v_aside = some out → ∀ (H : Heap) (locs : List Loc) (ls : Array Slot), kV D (va_A wc0 s.heap.size) s (wd_M_least D h h_now h_kept h_aside h_found h_down h_along h_parts h_gone h_tape h_kinds h_items h_widths h_sizes h_numbers h_moved v_isKept v_taped v_begins v_ends v_sort v_value v_isWrong v_itemMany v_farmMany v_farmCells v_now v_aside v_found v_down v_along) H locs → lv_has ls 3 [(0, .ref h), (1, .int x1), (2, .int x2)] → W p l e { frames := 6, cells := 0, slots := 0, locals := 146 } s m args below meth c H locs 0 0 (MQ below (kQi D wc0 (wd_M_least D h h_now h_kept h_aside h_found h_down h_along h_parts h_gone h_tape h_kinds h_items h_widths h_sizes h_numbers h_moved v_isKept v_taped v_begins v_ends v_sort v_value v_isWrong v_itemMany v_farmMany v_farmCells out.2.1 out.2.2.1 out.2.2.2 v_down v_along) s.heap.size out.1) args s 0 0 (va_A wc0 s.heap.size)) (F0 m 34 ls []) := by
  intro n
  induction n with
  | zero => intro x2 v_now v_aside hf; exact knone hf
  | succ n ih => intro x2 v_now v_aside hf H locs ls hV hl; exact tb_M_least_1 X ih hf hV hl
set_option maxHeartbeats 2000000 in
set_option maxRecDepth 20000 in
theorem t_M_least {l : Launch} {p : Program} {e : Env} {s : State} {m : MethodId} {args : Array Value} {below : List Frame} {meth : Method} {c : Code} {D : kD} {wc0 : va_W} {h : Nat} {h_now : Nat} {h_kept : Nat} {h_aside : Nat} {h_found : Nat} {h_down : Nat} {h_along : Nat} {h_parts : Nat} {h_gone : Nat} {h_tape : Nat} {h_kinds : Nat} {h_items : Nat} {h_widths : Nat} {h_sizes : Nat} {h_numbers : Nat} {h_moved : Nat} {v_isKept : Int32} {v_taped : Int32} {v_begins : Int32} {v_ends : Int32} {v_sort : Int32} {v_value : Int32} {v_isWrong : Int32} {v_itemMany : Int32} {v_farmMany : Int32} {v_farmCells : Int64} {v_now : Nat → Int32} {v_aside : Nat → Int32} {v_found : Nat → Int32} {v_down : Nat → Int32} {v_along : Nat → Int32} {x1 : Int32} {out : Int32 × (Nat → Int32) × (Nat → Int32) × (Nat → Int32)} (X : kX p m meth c s args D (va_A wc0 s.heap.size) b_M_least "MountainFarmsModel" 3 (some .int)) (hf : f_M_least v_now v_aside v_found v_down v_along x1 = some out) {H : Heap} {locs : List Loc} (hV : kV D (va_A wc0 s.heap.size) s (wd_M_least D h h_now h_kept h_aside h_found h_down h_along h_parts h_gone h_tape h_kinds h_items h_widths h_sizes h_numbers h_moved v_isKept v_taped v_begins v_ends v_sort v_value v_isWrong v_itemMany v_farmMany v_farmCells v_now v_aside v_found v_down v_along) H locs) {ls : Array Slot} (hl : lv_has ls 3 [(0, .ref h), (1, .int x1)]) : W p l e { frames := 6, cells := 0, slots := 0, locals := 146 } s m args below meth c H locs 0 0 (MQ below (kQi D wc0 (wd_M_least D h h_now h_kept h_aside h_found h_down h_along h_parts h_gone h_tape h_kinds h_items h_widths h_sizes h_numbers h_moved v_isKept v_taped v_begins v_ends v_sort v_value v_isWrong v_itemMany v_farmMany v_farmCells out.2.1 out.2.2.1 out.2.2.2 v_down v_along) s.heap.size out.1) args s 0 0 (va_A wc0 s.heap.size)) (F0 m 0 ls []) := by
  unfold f_M_least at hf
  obtain ⟨hx, hb, -⟩ := id X
  refine lv_aload_n hx hb d_M_least_0 rfl (lv_at hl 0 rfl) ?_
  refine lv_iload_n hx hb d_M_least_1 rfl (lv_at hl 1 rfl) ?_
  obtain ⟨r_22, hc_23, hf⟩ := kb1_some hf
  refine k_cvi (w1 := (wd_M_isFarm D h h_now h_kept h_aside h_found h_down h_along h_parts h_gone h_tape h_kinds h_items h_widths h_sizes h_numbers h_moved v_isKept v_taped v_begins v_ends v_sort v_value v_isWrong v_itemMany v_farmMany v_farmCells v_now)) (r := r_22) (ws' := (wd_M_least D h h_now h_kept h_aside h_found h_down h_along h_parts h_gone h_tape h_kinds h_items h_widths h_sizes h_numbers h_moved v_isKept v_taped v_begins v_ends v_sort v_value v_isWrong v_itemMany v_farmMany v_farmCells v_now v_aside v_found v_down v_along)) X hV hl.1 (c_M_isFarm D h h_now h_kept h_aside h_found h_down h_along h_parts h_gone h_tape h_kinds h_items h_widths h_sizes h_numbers h_moved v_isKept v_taped v_begins v_ends v_sort v_value v_isWrong v_itemMany v_farmMany v_farmCells v_now x1 hc_23) fk_M_isFarm gw_1035 rfl 0 9 rfl rfl [0, 1] [some 0, some 1, none, none, none, none] rfl rfl ⟨rfl, rfl, rfl, rfl, rfl, rfl, rfl, rfl, rfl, rfl, trivial⟩ rfl rfl rfl d_M_least_2 (fun H locs hV => ?_)
  refine lv_if_ne (tgt := 15) hx hb d_M_least_5 (by decide) (fun c_24 => ?_) (fun c_24 => ?_)
  · replace hf := kifn c_24 hf
    refine lv_aload_n hx hb d_M_least_15 rfl (lv_at hl 0 rfl) ?_
    refine lv_iload_n hx hb d_M_least_16 rfl (lv_at hl 1 rfl) ?_
    refine lv_iconst (v := 4) hx hb d_M_least_17 ic_4 ?_
    obtain ⟨r_25, hc_26, hf⟩ := kb1_some hf
    refine k_cvi (w1 := (wd_M_farmIs D h h_now h_kept h_aside h_found h_down h_along h_parts h_gone h_tape h_kinds h_items h_widths h_sizes h_numbers h_moved v_isKept v_taped v_begins v_ends v_sort v_value v_isWrong v_itemMany v_farmMany v_farmCells v_now)) (r := r_25) (ws' := (wd_M_least D h h_now h_kept h_aside h_found h_down h_along h_parts h_gone h_tape h_kinds h_items h_widths h_sizes h_numbers h_moved v_isKept v_taped v_begins v_ends v_sort v_value v_isWrong v_itemMany v_farmMany v_farmCells v_now v_aside v_found v_down v_along)) X hV hl.1 (c_M_farmIs D h h_now h_kept h_aside h_found h_down h_along h_parts h_gone h_tape h_kinds h_items h_widths h_sizes h_numbers h_moved v_isKept v_taped v_begins v_ends v_sort v_value v_isWrong v_itemMany v_farmMany v_farmCells v_now x1 (4 : Int32) hc_26) fk_M_farmIs gw_990 rfl 0 9 rfl rfl [0, 1] [some 0, some 1, none, none, none, none] rfl rfl ⟨rfl, rfl, rfl, rfl, rfl, rfl, rfl, rfl, rfl, rfl, trivial⟩ rfl rfl rfl d_M_least_18 (fun H locs hV => ?_)
    refine lv_iconst (v := 1) hx hb d_M_least_21 ic_1 ?_
    refine lv_icmp_ne (tgt := 32) hx hb d_M_least_22 (by decide) (fun c_27 => ?_) (fun c_27 => ?_)
    · replace hf := kifn c_27 hf
      refine lv_iconst (v := 1) hx hb d_M_least_32 ic_1 ?_
      refine lv_istore_n (lv' := [(2, .int (1 : Int32)), (0, .ref h), (1, .int x1)]) hx hb d_M_least_33 rfl hl (by decide) rfl (fun ls hl => ?_)
      exact tl_M_least_1 X _ _ _ _ hf _ _ _ hV (lv_sub hl [1, 2, 0] rfl)
    replace hf := kifp c_27 hf
    refine lv_aload_n hx hb d_M_least_25 rfl (lv_at hl 0 rfl) ?_
    refine k_ldc (v := (-1000000005)) X gw_1025 d_M_least_26 ?_
    obtain ⟨r_28, v_found_29, hc_30, hf⟩ := kb2_some hf
    refine k_cvi (w1 := (wd_M_finding D h h_now h_kept h_aside h_found h_down h_along h_parts h_gone h_tape h_kinds h_items h_widths h_sizes h_numbers h_moved v_isKept v_taped v_begins v_ends v_sort v_value v_isWrong v_itemMany v_farmMany v_farmCells v_found_29)) (r := r_28) (ws' := (wd_M_least D h h_now h_kept h_aside h_found h_down h_along h_parts h_gone h_tape h_kinds h_items h_widths h_sizes h_numbers h_moved v_isKept v_taped v_begins v_ends v_sort v_value v_isWrong v_itemMany v_farmMany v_farmCells v_now v_aside v_found_29 v_down v_along)) X hV hl.1 (c_M_finding D h h_now h_kept h_aside h_found h_down h_along h_parts h_gone h_tape h_kinds h_items h_widths h_sizes h_numbers h_moved v_isKept v_taped v_begins v_ends v_sort v_value v_isWrong v_itemMany v_farmMany v_farmCells v_found (-1000000005 : Int32) hc_30) fk_M_finding gw_974 rfl 0 9 rfl rfl [0, 3] [some 0, none, none, some 1, none, none] rfl rfl ⟨rfl, rfl, rfl, rfl, rfl, rfl, rfl, rfl, rfl, rfl, trivial⟩ rfl rfl rfl d_M_least_28 (fun H locs hV => ?_)
    have e_ := Option.some.inj hf
    subst e_
    exact k_iret X rfl hV rfl d_M_least_31
  replace hf := kifp c_24 hf
  refine lv_aload_n hx hb d_M_least_8 rfl (lv_at hl 0 rfl) ?_
  refine k_ldc (v := (-1000000001)) X gw_973 d_M_least_9 ?_
  obtain ⟨r_31, v_found_32, hc_33, hf⟩ := kb2_some hf
  refine k_cvi (w1 := (wd_M_finding D h h_now h_kept h_aside h_found h_down h_along h_parts h_gone h_tape h_kinds h_items h_widths h_sizes h_numbers h_moved v_isKept v_taped v_begins v_ends v_sort v_value v_isWrong v_itemMany v_farmMany v_farmCells v_found_32)) (r := r_31) (ws' := (wd_M_least D h h_now h_kept h_aside h_found h_down h_along h_parts h_gone h_tape h_kinds h_items h_widths h_sizes h_numbers h_moved v_isKept v_taped v_begins v_ends v_sort v_value v_isWrong v_itemMany v_farmMany v_farmCells v_now v_aside v_found_32 v_down v_along)) X hV hl.1 (c_M_finding D h h_now h_kept h_aside h_found h_down h_along h_parts h_gone h_tape h_kinds h_items h_widths h_sizes h_numbers h_moved v_isKept v_taped v_begins v_ends v_sort v_value v_isWrong v_itemMany v_farmMany v_farmCells v_found (-1000000001 : Int32) hc_33) fk_M_finding gw_974 rfl 0 9 rfl rfl [0, 3] [some 0, none, none, some 1, none, none] rfl rfl ⟨rfl, rfl, rfl, rfl, rfl, rfl, rfl, rfl, rfl, rfl, trivial⟩ rfl rfl rfl d_M_least_11 (fun H locs hV => ?_)
  have e_ := Option.some.inj hf
  subst e_
  exact k_iret X rfl hV rfl d_M_least_14
set_option maxHeartbeats 2000000 in
set_option maxRecDepth 20000 in
theorem c_M_least {l : Launch} (D : kD) (h : Nat) (h_now : Nat) (h_kept : Nat) (h_aside : Nat) (h_found : Nat) (h_down : Nat) (h_along : Nat) (h_parts : Nat) (h_gone : Nat) (h_tape : Nat) (h_kinds : Nat) (h_items : Nat) (h_widths : Nat) (h_sizes : Nat) (h_numbers : Nat) (h_moved : Nat) (v_isKept : Int32) (v_taped : Int32) (v_begins : Int32) (v_ends : Int32) (v_sort : Int32) (v_value : Int32) (v_isWrong : Int32) (v_itemMany : Int32) (v_farmMany : Int32) (v_farmCells : Int64) (v_now : Nat → Int32) (v_aside : Nat → Int32) (v_found : Nat → Int32) (v_down : Nat → Int32) (v_along : Nat → Int32) (x1 : Int32) {out : Int32 × (Nat → Int32) × (Nat → Int32) × (Nat → Int32)} (hf : f_M_least v_now v_aside v_found v_down v_along x1 = some out) : kMi l D y_M_least b_M_least 3 (some .int) { frames := 6, cells := 0, slots := 0, locals := 146 } [.ref h, .int x1] (wd_M_least D h h_now h_kept h_aside h_found h_down h_along h_parts h_gone h_tape h_kinds h_items h_widths h_sizes h_numbers h_moved v_isKept v_taped v_begins v_ends v_sort v_value v_isWrong v_itemMany v_farmMany v_farmCells v_now v_aside v_found v_down v_along) (wd_M_least D h h_now h_kept h_aside h_found h_down h_along h_parts h_gone h_tape h_kinds h_items h_widths h_sizes h_numbers h_moved v_isKept v_taped v_begins v_ends v_sort v_value v_isWrong v_itemMany v_farmMany v_farmCells out.2.1 out.2.2.1 out.2.2.2 v_down v_along) out.1 :=
  kMi_of (own := "MountainFarmsModel") (plainFor_of_name (by decide)) rfl rfl (fun p e s m args below meth c ls X hV hl => t_M_least X hf hV hl)
set_option maxHeartbeats 2000000 in
set_option maxRecDepth 20000 in
theorem t_M_hitsWith {l : Launch} {p : Program} {e : Env} {s : State} {m : MethodId} {args : Array Value} {below : List Frame} {meth : Method} {c : Code} {D : kD} {wc0 : va_W} {h : Nat} {h_now : Nat} {h_kept : Nat} {h_aside : Nat} {h_found : Nat} {h_down : Nat} {h_along : Nat} {h_parts : Nat} {h_gone : Nat} {h_tape : Nat} {h_kinds : Nat} {h_items : Nat} {h_widths : Nat} {h_sizes : Nat} {h_numbers : Nat} {h_moved : Nat} {v_isKept : Int32} {v_taped : Int32} {v_begins : Int32} {v_ends : Int32} {v_sort : Int32} {v_value : Int32} {v_isWrong : Int32} {v_itemMany : Int32} {v_farmMany : Int32} {v_farmCells : Int64} {v_now : Nat → Int32} {v_aside : Nat → Int32} {v_down : Nat → Int32} {v_along : Nat → Int32} {x1 : Int32} {x2 : Int32} {x3 : Int32} {out : Int32 × (Nat → Int32) × (Nat → Int32)} (X : kX p m meth c s args D (va_A wc0 s.heap.size) b_M_hitsWith "MountainFarmsModel" 5 (some .int)) (hf : f_M_hitsWith v_now v_aside v_down v_along x1 x2 x3 = some out) {H : Heap} {locs : List Loc} (hV : kV D (va_A wc0 s.heap.size) s (wd_M_hitsWith D h h_now h_kept h_aside h_found h_down h_along h_parts h_gone h_tape h_kinds h_items h_widths h_sizes h_numbers h_moved v_isKept v_taped v_begins v_ends v_sort v_value v_isWrong v_itemMany v_farmMany v_farmCells v_now v_aside v_down v_along) H locs) {ls : Array Slot} (hl : lv_has ls 5 [(0, .ref h), (1, .int x1), (2, .int x2), (3, .int x3)]) : W p l e { frames := 6, cells := 0, slots := 0, locals := 146 } s m args below meth c H locs 0 0 (MQ below (kQi D wc0 (wd_M_hitsWith D h h_now h_kept h_aside h_found h_down h_along h_parts h_gone h_tape h_kinds h_items h_widths h_sizes h_numbers h_moved v_isKept v_taped v_begins v_ends v_sort v_value v_isWrong v_itemMany v_farmMany v_farmCells out.2.1 out.2.2 v_down v_along) s.heap.size out.1) args s 0 0 (va_A wc0 s.heap.size)) (F0 m 0 ls []) := by
  unfold f_M_hitsWith at hf
  obtain ⟨hx, hb, -⟩ := id X
  refine lv_aload_n hx hb d_M_hitsWith_0 rfl (lv_at hl 0 rfl) ?_
  refine lv_iload_n hx hb d_M_hitsWith_1 rfl (lv_at hl 1 rfl) ?_
  refine lv_iload_n hx hb d_M_hitsWith_2 rfl (lv_at hl 2 rfl) ?_
  refine lv_iconst (v := 1) hx hb d_M_hitsWith_3 ic_1 ?_
  obtain ⟨v_now_9, hc_10, hf⟩ := kb1_some hf
  refine k_cvv (w1 := (wd_M_putWall D h h_now h_kept h_aside h_found h_down h_along h_parts h_gone h_tape h_kinds h_items h_widths h_sizes h_numbers h_moved v_isKept v_taped v_begins v_ends v_sort v_value v_isWrong v_itemMany v_farmMany v_farmCells v_now_9 v_down v_along)) (ws' := (wd_M_hitsWith D h h_now h_kept h_aside h_found h_down h_along h_parts h_gone h_tape h_kinds h_items h_widths h_sizes h_numbers h_moved v_isKept v_taped v_begins v_ends v_sort v_value v_isWrong v_itemMany v_farmMany v_farmCells v_now_9 v_aside v_down v_along)) X hV hl.1 (c_M_putWall D h h_now h_kept h_aside h_found h_down h_along h_parts h_gone h_tape h_kinds h_items h_widths h_sizes h_numbers h_moved v_isKept v_taped v_begins v_ends v_sort v_value v_isWrong v_itemMany v_farmMany v_farmCells v_now v_down v_along x1 x2 (1 : Int32) hc_10) fk_M_putWall gw_1014 rfl 0 9 rfl rfl [0, 1, 3, 4] [some 0, some 1, none, some 2, some 3] rfl rfl ⟨rfl, rfl, rfl, rfl, rfl, rfl, rfl, rfl, rfl, rfl, rfl, rfl, rfl, trivial⟩ rfl rfl rfl d_M_hitsWith_4 (fun H locs hV => ?_)
  refine lv_aload_n hx hb d_M_hitsWith_7 rfl (lv_at hl 0 rfl) ?_
  refine lv_iload_n hx hb d_M_hitsWith_8 rfl (lv_at hl 3 rfl) ?_
  obtain ⟨r_11, v_now_12, v_aside_13, hc_14, hf⟩ := kb3_some hf
  refine k_cvi (w1 := (wd_M_hits D h h_now h_kept h_aside h_found h_down h_along h_parts h_gone h_tape h_kinds h_items h_widths h_sizes h_numbers h_moved v_isKept v_taped v_begins v_ends v_sort v_value v_isWrong v_itemMany v_farmMany v_farmCells v_now_12 v_aside_13 v_down v_along)) (r := r_11) (ws' := (wd_M_hitsWith D h h_now h_kept h_aside h_found h_down h_along h_parts h_gone h_tape h_kinds h_items h_widths h_sizes h_numbers h_moved v_isKept v_taped v_begins v_ends v_sort v_value v_isWrong v_itemMany v_farmMany v_farmCells v_now_12 v_aside_13 v_down v_along)) X hV hl.1 (c_M_hits D h h_now h_kept h_aside h_found h_down h_along h_parts h_gone h_tape h_kinds h_items h_widths h_sizes h_numbers h_moved v_isKept v_taped v_begins v_ends v_sort v_value v_isWrong v_itemMany v_farmMany v_farmCells v_now_9 v_aside v_down v_along x3 hc_14) fk_M_hits gw_1160 rfl 0 9 rfl rfl [0, 1, 2, 3, 4] [some 0, some 1, some 2, some 3, some 4] rfl rfl ⟨rfl, rfl, rfl, rfl, rfl, rfl, rfl, rfl, rfl, rfl, rfl, rfl, rfl, rfl, rfl, trivial⟩ rfl rfl rfl d_M_hitsWith_9 (fun H locs hV => ?_)
  refine lv_istore (lv' := [(4, .int r_11), (0, .ref h), (1, .int x1), (2, .int x2), (3, .int x3)]) hx hb d_M_hitsWith_12 hl (by decide) rfl (fun ls hl => ?_)
  refine lv_aload_n hx hb d_M_hitsWith_14 rfl (lv_at hl 1 rfl) ?_
  refine lv_iload_n hx hb d_M_hitsWith_15 rfl (lv_at hl 2 rfl) ?_
  refine lv_iload_n hx hb d_M_hitsWith_16 rfl (lv_at hl 3 rfl) ?_
  refine lv_iconst (v := 0) hx hb d_M_hitsWith_17 ic_0 ?_
  obtain ⟨v_now_15, hc_16, hf⟩ := kb1_some hf
  refine k_cvv (w1 := (wd_M_putWall D h h_now h_kept h_aside h_found h_down h_along h_parts h_gone h_tape h_kinds h_items h_widths h_sizes h_numbers h_moved v_isKept v_taped v_begins v_ends v_sort v_value v_isWrong v_itemMany v_farmMany v_farmCells v_now_15 v_down v_along)) (ws' := (wd_M_hitsWith D h h_now h_kept h_aside h_found h_down h_along h_parts h_gone h_tape h_kinds h_items h_widths h_sizes h_numbers h_moved v_isKept v_taped v_begins v_ends v_sort v_value v_isWrong v_itemMany v_farmMany v_farmCells v_now_15 v_aside_13 v_down v_along)) X hV hl.1 (c_M_putWall D h h_now h_kept h_aside h_found h_down h_along h_parts h_gone h_tape h_kinds h_items h_widths h_sizes h_numbers h_moved v_isKept v_taped v_begins v_ends v_sort v_value v_isWrong v_itemMany v_farmMany v_farmCells v_now_12 v_down v_along x1 x2 (0 : Int32) hc_16) fk_M_putWall gw_1014 rfl 0 9 rfl rfl [0, 1, 3, 4] [some 0, some 1, none, some 2, some 3] rfl rfl ⟨rfl, rfl, rfl, rfl, rfl, rfl, rfl, rfl, rfl, rfl, rfl, rfl, rfl, trivial⟩ rfl rfl rfl d_M_hitsWith_18 (fun H locs hV => ?_)
  refine lv_iload hx hb d_M_hitsWith_21 (lv_at hl 0 rfl) ?_
  have e_ := Option.some.inj hf
  subst e_
  exact k_iret X rfl hV rfl d_M_hitsWith_23
set_option maxHeartbeats 2000000 in
set_option maxRecDepth 20000 in
theorem c_M_hitsWith {l : Launch} (D : kD) (h : Nat) (h_now : Nat) (h_kept : Nat) (h_aside : Nat) (h_found : Nat) (h_down : Nat) (h_along : Nat) (h_parts : Nat) (h_gone : Nat) (h_tape : Nat) (h_kinds : Nat) (h_items : Nat) (h_widths : Nat) (h_sizes : Nat) (h_numbers : Nat) (h_moved : Nat) (v_isKept : Int32) (v_taped : Int32) (v_begins : Int32) (v_ends : Int32) (v_sort : Int32) (v_value : Int32) (v_isWrong : Int32) (v_itemMany : Int32) (v_farmMany : Int32) (v_farmCells : Int64) (v_now : Nat → Int32) (v_aside : Nat → Int32) (v_down : Nat → Int32) (v_along : Nat → Int32) (x1 : Int32) (x2 : Int32) (x3 : Int32) {out : Int32 × (Nat → Int32) × (Nat → Int32)} (hf : f_M_hitsWith v_now v_aside v_down v_along x1 x2 x3 = some out) : kMi l D y_M_hitsWith b_M_hitsWith 5 (some .int) { frames := 6, cells := 0, slots := 0, locals := 146 } [.ref h, .int x1, .int x2, .int x3] (wd_M_hitsWith D h h_now h_kept h_aside h_found h_down h_along h_parts h_gone h_tape h_kinds h_items h_widths h_sizes h_numbers h_moved v_isKept v_taped v_begins v_ends v_sort v_value v_isWrong v_itemMany v_farmMany v_farmCells v_now v_aside v_down v_along) (wd_M_hitsWith D h h_now h_kept h_aside h_found h_down h_along h_parts h_gone h_tape h_kinds h_items h_widths h_sizes h_numbers h_moved v_isKept v_taped v_begins v_ends v_sort v_value v_isWrong v_itemMany v_farmMany v_farmCells out.2.1 out.2.2 v_down v_along) out.1 :=
  kMi_of (own := "MountainFarmsModel") (plainFor_of_name (by decide)) rfl rfl (fun p e s m args below meth c ls X hV hl => t_M_hitsWith X hf hV hl)
set_option maxHeartbeats 2000000 in
set_option maxRecDepth 20000 in
theorem t_M_turnsOn_1 {l : Launch} {p : Program} {e : Env} {s : State} {m : MethodId} {args : Array Value} {below : List Frame} {meth : Method} {c : Code} {D : kD} {wc0 : va_W} {h : Nat} {h_now : Nat} {h_kept : Nat} {h_aside : Nat} {h_found : Nat} {h_down : Nat} {h_along : Nat} {h_parts : Nat} {h_gone : Nat} {h_tape : Nat} {h_kinds : Nat} {h_items : Nat} {h_widths : Nat} {h_sizes : Nat} {h_numbers : Nat} {h_moved : Nat} {v_isKept : Int32} {v_taped : Int32} {v_begins : Int32} {v_ends : Int32} {v_sort : Int32} {v_value : Int32} {v_isWrong : Int32} {v_itemMany : Int32} {v_farmMany : Int32} {v_farmCells : Int64} {v_now : Nat → Int32} {v_aside : Nat → Int32} {v_found : Nat → Int32} {v_down : Nat → Int32} {v_along : Nat → Int32} {out : Int32 × (Nat → Int32) × (Nat → Int32) × (Nat → Int32)} (X : kX p m meth c s args D (va_A wc0 s.heap.size) b_M_turnsOn "MountainFarmsModel" 6 (some .int)) (hf : f_M_turnsOn_1 v_now v_aside v_found = some out) {H : Heap} {locs : List Loc} (hV : kV D (va_A wc0 s.heap.size) s (wd_M_turnsOn D h h_now h_kept h_aside h_found h_down h_along h_parts h_gone h_tape h_kinds h_items h_widths h_sizes h_numbers h_moved v_isKept v_taped v_begins v_ends v_sort v_value v_isWrong v_itemMany v_farmMany v_farmCells v_now v_aside v_found v_down v_along) H locs) {ls : Array Slot} (hl : lv_has ls 6 [(0, .ref h)]) : W p l e { frames := 7, cells := 0, slots := 0, locals := 170 } s m args below meth c H locs 0 0 (MQ below (kQi D wc0 (wd_M_turnsOn D h h_now h_kept h_aside h_found h_down h_along h_parts h_gone h_tape h_kinds h_items h_widths h_sizes h_numbers h_moved v_isKept v_taped v_begins v_ends v_sort v_value v_isWrong v_itemMany v_farmMany v_farmCells out.2.1 out.2.2.1 out.2.2.2 v_down v_along) s.heap.size out.1) args s 0 0 (va_A wc0 s.heap.size)) (F0 m 20 ls []) := by
  unfold f_M_turnsOn_1 at hf
  obtain ⟨hx, hb, -⟩ := id X
  refine lv_aload_n hx hb d_M_turnsOn_20 rfl (lv_at hl 0 rfl) ?_
  refine k_ldc (v := (-1000000001)) X gw_973 d_M_turnsOn_21 ?_
  obtain ⟨r_44, v_found_45, hc_46, hf⟩ := kb2_some hf
  refine k_cvi (w1 := (wd_M_finding D h h_now h_kept h_aside h_found h_down h_along h_parts h_gone h_tape h_kinds h_items h_widths h_sizes h_numbers h_moved v_isKept v_taped v_begins v_ends v_sort v_value v_isWrong v_itemMany v_farmMany v_farmCells v_found_45)) (r := r_44) (ws' := (wd_M_turnsOn D h h_now h_kept h_aside h_found h_down h_along h_parts h_gone h_tape h_kinds h_items h_widths h_sizes h_numbers h_moved v_isKept v_taped v_begins v_ends v_sort v_value v_isWrong v_itemMany v_farmMany v_farmCells v_now v_aside v_found_45 v_down v_along)) X hV hl.1 (c_M_finding D h h_now h_kept h_aside h_found h_down h_along h_parts h_gone h_tape h_kinds h_items h_widths h_sizes h_numbers h_moved v_isKept v_taped v_begins v_ends v_sort v_value v_isWrong v_itemMany v_farmMany v_farmCells v_found (-1000000001 : Int32) hc_46) fk_M_finding gw_974 rfl 0 9 rfl rfl [0, 3] [some 0, none, none, some 1, none, none] rfl rfl ⟨rfl, rfl, rfl, rfl, rfl, rfl, rfl, rfl, rfl, rfl, trivial⟩ rfl rfl rfl d_M_turnsOn_23 (fun H locs hV => ?_)
  have e_ := Option.some.inj hf
  subst e_
  exact k_iret X rfl hV rfl d_M_turnsOn_26
set_option maxHeartbeats 2000000 in
set_option maxRecDepth 20000 in
theorem t_M_turnsOn {l : Launch} {p : Program} {e : Env} {s : State} {m : MethodId} {args : Array Value} {below : List Frame} {meth : Method} {c : Code} {D : kD} {wc0 : va_W} {h : Nat} {h_now : Nat} {h_kept : Nat} {h_aside : Nat} {h_found : Nat} {h_down : Nat} {h_along : Nat} {h_parts : Nat} {h_gone : Nat} {h_tape : Nat} {h_kinds : Nat} {h_items : Nat} {h_widths : Nat} {h_sizes : Nat} {h_numbers : Nat} {h_moved : Nat} {v_isKept : Int32} {v_taped : Int32} {v_begins : Int32} {v_ends : Int32} {v_sort : Int32} {v_value : Int32} {v_isWrong : Int32} {v_itemMany : Int32} {v_farmMany : Int32} {v_farmCells : Int64} {v_now : Nat → Int32} {v_aside : Nat → Int32} {v_found : Nat → Int32} {v_down : Nat → Int32} {v_along : Nat → Int32} {x1 : Int32} {x2 : Int32} {x3 : Int32} {out : Int32 × (Nat → Int32) × (Nat → Int32) × (Nat → Int32)} (X : kX p m meth c s args D (va_A wc0 s.heap.size) b_M_turnsOn "MountainFarmsModel" 6 (some .int)) (hf : f_M_turnsOn v_now v_aside v_found v_down v_along x1 x2 x3 = some out) {H : Heap} {locs : List Loc} (hV : kV D (va_A wc0 s.heap.size) s (wd_M_turnsOn D h h_now h_kept h_aside h_found h_down h_along h_parts h_gone h_tape h_kinds h_items h_widths h_sizes h_numbers h_moved v_isKept v_taped v_begins v_ends v_sort v_value v_isWrong v_itemMany v_farmMany v_farmCells v_now v_aside v_found v_down v_along) H locs) {ls : Array Slot} (hl : lv_has ls 6 [(0, .ref h), (1, .int x1), (2, .int x2), (3, .int x3)]) : W p l e { frames := 7, cells := 0, slots := 0, locals := 170 } s m args below meth c H locs 0 0 (MQ below (kQi D wc0 (wd_M_turnsOn D h h_now h_kept h_aside h_found h_down h_along h_parts h_gone h_tape h_kinds h_items h_widths h_sizes h_numbers h_moved v_isKept v_taped v_begins v_ends v_sort v_value v_isWrong v_itemMany v_farmMany v_farmCells out.2.1 out.2.2.1 out.2.2.2 v_down v_along) s.heap.size out.1) args s 0 0 (va_A wc0 s.heap.size)) (F0 m 0 ls []) := by
  unfold f_M_turnsOn at hf
  obtain ⟨hx, hb, -⟩ := id X
  refine lv_aload_n hx hb d_M_turnsOn_0 rfl (lv_at hl 0 rfl) ?_
  refine lv_iload_n hx hb d_M_turnsOn_1 rfl (lv_at hl 1 rfl) ?_
  refine lv_iload_n hx hb d_M_turnsOn_2 rfl (lv_at hl 2 rfl) ?_
  obtain ⟨r_24, hc_25, hf⟩ := kb1_some hf
  refine k_cvi (w1 := (wd_M_wayTo D h h_now h_kept h_aside h_found h_down h_along h_parts h_gone h_tape h_kinds h_items h_widths h_sizes h_numbers h_moved v_isKept v_taped v_begins v_ends v_sort v_value v_isWrong v_itemMany v_farmMany v_farmCells v_down v_along)) (r := r_24) (ws' := (wd_M_turnsOn D h h_now h_kept h_aside h_found h_down h_along h_parts h_gone h_tape h_kinds h_items h_widths h_sizes h_numbers h_moved v_isKept v_taped v_begins v_ends v_sort v_value v_isWrong v_itemMany v_farmMany v_farmCells v_now v_aside v_found v_down v_along)) X hV hl.1 (c_M_wayTo D h h_now h_kept h_aside h_found h_down h_along h_parts h_gone h_tape h_kinds h_items h_widths h_sizes h_numbers h_moved v_isKept v_taped v_begins v_ends v_sort v_value v_isWrong v_itemMany v_farmMany v_farmCells v_down v_along x1 x2 hc_25) fk_M_wayTo gw_1002 rfl 0 9 rfl rfl [0, 4, 5] [some 0, none, none, none, some 1, some 2] rfl rfl ⟨rfl, rfl, rfl, rfl, rfl, rfl, rfl, rfl, rfl, rfl, rfl, rfl, trivial⟩ rfl rfl rfl d_M_turnsOn_3 (fun H locs hV => ?_)
  refine lv_istore (lv' := [(4, .int r_24), (0, .ref h), (1, .int x1), (2, .int x2), (3, .int x3)]) hx hb d_M_turnsOn_6 hl (by decide) rfl (fun ls hl => ?_)
  refine lv_iload hx hb d_M_turnsOn_8 (lv_at hl 0 rfl) ?_
  refine lv_if_lt (tgt := 20) hx hb d_M_turnsOn_10 (by decide) (fun c_26 => ?_) (fun c_26 => ?_)
  · replace hf := kifp c_26 hf
    exact t_M_turnsOn_1 X hf hV (lv_sub hl [1] rfl)
  replace hf := kifn c_26 hf
  refine lv_iload_n hx hb d_M_turnsOn_13 rfl (lv_at hl 4 rfl) ?_
  obtain ⟨r_27, hc_28, hf⟩ := kb1_some hf
  refine k_csi (w1 := (wd_M_isVolume D)) (r := r_27) (ws' := (wd_M_turnsOn D h h_now h_kept h_aside h_found h_down h_along h_parts h_gone h_tape h_kinds h_items h_widths h_sizes h_numbers h_moved v_isKept v_taped v_begins v_ends v_sort v_value v_isWrong v_itemMany v_farmMany v_farmCells v_now v_aside v_found v_down v_along)) X hV hl.1 (c_M_isVolume D x3 hc_28) fk_M_isVolume gw_1138 rfl [] [none, none, none, none, none, none] rfl rfl ⟨rfl, rfl, rfl, rfl, rfl, rfl, trivial⟩ rfl rfl rfl d_M_turnsOn_14 (fun H locs hV => ?_)
  refine lv_if_ne (tgt := 27) hx hb d_M_turnsOn_17 (by decide) (fun c_29 => ?_) (fun c_29 => ?_)
  · replace hf := kifn c_29 hf
    refine lv_aload_n hx hb d_M_turnsOn_27 rfl (lv_at hl 1 rfl) ?_
    refine lv_iload_n hx hb d_M_turnsOn_28 rfl (lv_at hl 2 rfl) ?_
    refine lv_iload hx hb d_M_turnsOn_29 (lv_at hl 0 rfl) ?_
    obtain ⟨r_30, hc_31, hf⟩ := kb1_some hf
    refine k_cvi (w1 := (wd_M_hasWall D h h_now h_kept h_aside h_found h_down h_along h_parts h_gone h_tape h_kinds h_items h_widths h_sizes h_numbers h_moved v_isKept v_taped v_begins v_ends v_sort v_value v_isWrong v_itemMany v_farmMany v_farmCells v_now)) (r := r_30) (ws' := (wd_M_turnsOn D h h_now h_kept h_aside h_found h_down h_along h_parts h_gone h_tape h_kinds h_items h_widths h_sizes h_numbers h_moved v_isKept v_taped v_begins v_ends v_sort v_value v_isWrong v_itemMany v_farmMany v_farmCells v_now v_aside v_found v_down v_along)) X hV hl.1 (c_M_hasWall D h h_now h_kept h_aside h_found h_down h_along h_parts h_gone h_tape h_kinds h_items h_widths h_sizes h_numbers h_moved v_isKept v_taped v_begins v_ends v_sort v_value v_isWrong v_itemMany v_farmMany v_farmCells v_now x1 r_24 hc_31) fk_M_hasWall gw_1010 rfl 0 9 rfl rfl [0, 1] [some 0, some 1, none, none, none, none] rfl rfl ⟨rfl, rfl, rfl, rfl, rfl, rfl, rfl, rfl, rfl, rfl, trivial⟩ rfl rfl rfl d_M_turnsOn_31 (fun H locs hV => ?_)
    refine lv_if_eq (tgt := 44) hx hb d_M_turnsOn_34 (by decide) (fun c_32 => ?_) (fun c_32 => ?_)
    · replace hf := kifp c_32 hf
      refine lv_aload_n hx hb d_M_turnsOn_44 rfl (lv_at hl 1 rfl) ?_
      refine lv_iload_n hx hb d_M_turnsOn_45 rfl (lv_at hl 4 rfl) ?_
      obtain ⟨r_33, v_now_34, v_aside_35, hc_36, hf⟩ := kb3_some hf
      refine k_cvi (w1 := (wd_M_hits D h h_now h_kept h_aside h_found h_down h_along h_parts h_gone h_tape h_kinds h_items h_widths h_sizes h_numbers h_moved v_isKept v_taped v_begins v_ends v_sort v_value v_isWrong v_itemMany v_farmMany v_farmCells v_now_34 v_aside_35 v_down v_along)) (r := r_33) (ws' := (wd_M_turnsOn D h h_now h_kept h_aside h_found h_down h_along h_parts h_gone h_tape h_kinds h_items h_widths h_sizes h_numbers h_moved v_isKept v_taped v_begins v_ends v_sort v_value v_isWrong v_itemMany v_farmMany v_farmCells v_now_34 v_aside_35 v_found v_down v_along)) X hV hl.1 (c_M_hits D h h_now h_kept h_aside h_found h_down h_along h_parts h_gone h_tape h_kinds h_items h_widths h_sizes h_numbers h_moved v_isKept v_taped v_begins v_ends v_sort v_value v_isWrong v_itemMany v_farmMany v_farmCells v_now v_aside v_down v_along x3 hc_36) fk_M_hits gw_1160 rfl 0 9 rfl rfl [0, 1, 2, 4, 5] [some 0, some 1, some 2, none, some 3, some 4] rfl rfl ⟨rfl, rfl, rfl, rfl, rfl, rfl, rfl, rfl, rfl, rfl, rfl, rfl, rfl, rfl, rfl, rfl, trivial⟩ rfl rfl rfl d_M_turnsOn_46 (fun H locs hV => ?_)
      refine lv_istore (lv' := [(5, .int r_33), (4, .int r_24), (0, .ref h), (1, .int x1), (2, .int x2), (3, .int x3)]) hx hb d_M_turnsOn_49 hl (by decide) rfl (fun ls hl => ?_)
      refine lv_aload_n hx hb d_M_turnsOn_51 rfl (lv_at hl 2 rfl) ?_
      refine lv_iload_n hx hb d_M_turnsOn_52 rfl (lv_at hl 3 rfl) ?_
      refine lv_iload hx hb d_M_turnsOn_53 (lv_at hl 1 rfl) ?_
      refine lv_iload_n hx hb d_M_turnsOn_55 rfl (lv_at hl 5 rfl) ?_
      obtain ⟨r_37, v_now_38, v_aside_39, hc_40, hf⟩ := kb3_some hf
      refine k_cvi (w1 := (wd_M_hitsWith D h h_now h_kept h_aside h_found h_down h_along h_parts h_gone h_tape h_kinds h_items h_widths h_sizes h_numbers h_moved v_isKept v_taped v_begins v_ends v_sort v_value v_isWrong v_itemMany v_farmMany v_farmCells v_now_38 v_aside_39 v_down v_along)) (r := r_37) (ws' := (wd_M_turnsOn D h h_now h_kept h_aside h_found h_down h_along h_parts h_gone h_tape h_kinds h_items h_widths h_sizes h_numbers h_moved v_isKept v_taped v_begins v_ends v_sort v_value v_isWrong v_itemMany v_farmMany v_farmCells v_now_38 v_aside_39 v_found v_down v_along)) X hV hl.1 (c_M_hitsWith D h h_now h_kept h_aside h_found h_down h_along h_parts h_gone h_tape h_kinds h_items h_widths h_sizes h_numbers h_moved v_isKept v_taped v_begins v_ends v_sort v_value v_isWrong v_itemMany v_farmMany v_farmCells v_now_34 v_aside_35 v_down v_along x1 r_24 x3 hc_40) fk_M_hitsWith gw_1172 rfl 0 9 rfl rfl [0, 1, 2, 4, 5] [some 0, some 1, some 2, none, some 3, some 4] rfl rfl ⟨rfl, rfl, rfl, rfl, rfl, rfl, rfl, rfl, rfl, rfl, rfl, rfl, rfl, rfl, rfl, rfl, trivial⟩ rfl rfl rfl d_M_turnsOn_56 (fun H locs hV => ?_)
      refine lv_iload hx hb d_M_turnsOn_59 (lv_at hl 0 rfl) ?_
      refine lv_iconst (v := (-1)) hx hb d_M_turnsOn_61 ic_m1 ?_
      refine lv_ixor hx hb d_M_turnsOn_62 ?_
      refine lv_iand hx hb d_M_turnsOn_63 ?_
      have e_ := Option.some.inj hf
      subst e_
      exact k_iret X rfl hV rfl d_M_turnsOn_64
    replace hf := kifn c_32 hf
    refine lv_aload_n hx hb d_M_turnsOn_37 rfl (lv_at hl 1 rfl) ?_
    refine k_ldc (v := (-1000000005)) X gw_1025 d_M_turnsOn_38 ?_
    obtain ⟨r_41, v_found_42, hc_43, hf⟩ := kb2_some hf
    refine k_cvi (w1 := (wd_M_finding D h h_now h_kept h_aside h_found h_down h_along h_parts h_gone h_tape h_kinds h_items h_widths h_sizes h_numbers h_moved v_isKept v_taped v_begins v_ends v_sort v_value v_isWrong v_itemMany v_farmMany v_farmCells v_found_42)) (r := r_41) (ws' := (wd_M_turnsOn D h h_now h_kept h_aside h_found h_down h_along h_parts h_gone h_tape h_kinds h_items h_widths h_sizes h_numbers h_moved v_isKept v_taped v_begins v_ends v_sort v_value v_isWrong v_itemMany v_farmMany v_farmCells v_now v_aside v_found_42 v_down v_along)) X hV hl.1 (c_M_finding D h h_now h_kept h_aside h_found h_down h_along h_parts h_gone h_tape h_kinds h_items h_widths h_sizes h_numbers h_moved v_isKept v_taped v_begins v_ends v_sort v_value v_isWrong v_itemMany v_farmMany v_farmCells v_found (-1000000005 : Int32) hc_43) fk_M_finding gw_974 rfl 0 9 rfl rfl [0, 3] [some 0, none, none, some 1, none, none] rfl rfl ⟨rfl, rfl, rfl, rfl, rfl, rfl, rfl, rfl, rfl, rfl, trivial⟩ rfl rfl rfl d_M_turnsOn_40 (fun H locs hV => ?_)
    have e_ := Option.some.inj hf
    subst e_
    exact k_iret X rfl hV rfl d_M_turnsOn_43
  replace hf := kifp c_29 hf
  exact t_M_turnsOn_1 X hf hV (lv_sub hl [1] rfl)
set_option maxHeartbeats 2000000 in
set_option maxRecDepth 20000 in
theorem c_M_turnsOn {l : Launch} (D : kD) (h : Nat) (h_now : Nat) (h_kept : Nat) (h_aside : Nat) (h_found : Nat) (h_down : Nat) (h_along : Nat) (h_parts : Nat) (h_gone : Nat) (h_tape : Nat) (h_kinds : Nat) (h_items : Nat) (h_widths : Nat) (h_sizes : Nat) (h_numbers : Nat) (h_moved : Nat) (v_isKept : Int32) (v_taped : Int32) (v_begins : Int32) (v_ends : Int32) (v_sort : Int32) (v_value : Int32) (v_isWrong : Int32) (v_itemMany : Int32) (v_farmMany : Int32) (v_farmCells : Int64) (v_now : Nat → Int32) (v_aside : Nat → Int32) (v_found : Nat → Int32) (v_down : Nat → Int32) (v_along : Nat → Int32) (x1 : Int32) (x2 : Int32) (x3 : Int32) {out : Int32 × (Nat → Int32) × (Nat → Int32) × (Nat → Int32)} (hf : f_M_turnsOn v_now v_aside v_found v_down v_along x1 x2 x3 = some out) : kMi l D y_M_turnsOn b_M_turnsOn 6 (some .int) { frames := 7, cells := 0, slots := 0, locals := 170 } [.ref h, .int x1, .int x2, .int x3] (wd_M_turnsOn D h h_now h_kept h_aside h_found h_down h_along h_parts h_gone h_tape h_kinds h_items h_widths h_sizes h_numbers h_moved v_isKept v_taped v_begins v_ends v_sort v_value v_isWrong v_itemMany v_farmMany v_farmCells v_now v_aside v_found v_down v_along) (wd_M_turnsOn D h h_now h_kept h_aside h_found h_down h_along h_parts h_gone h_tape h_kinds h_items h_widths h_sizes h_numbers h_moved v_isKept v_taped v_begins v_ends v_sort v_value v_isWrong v_itemMany v_farmMany v_farmCells out.2.1 out.2.2.1 out.2.2.2 v_down v_along) out.1 :=
  kMi_of (own := "MountainFarmsModel") (plainFor_of_name (by decide)) rfl rfl (fun p e s m args below meth c ls X hV hl => t_M_turnsOn X hf hV hl)
set_option maxHeartbeats 2000000 in
set_option maxRecDepth 20000 in
theorem tb_M_bits_1 {l : Launch} {p : Program} {e : Env} {s : State} {m : MethodId} {args : Array Value} {below : List Frame} {meth : Method} {c : Code} {D : kD} {wc0 : va_W} {x1 : Int32} {x2 : Int32} {rec1 : Int32 → Int32 → Option (Int32)} {out : Int32} (X : kX p m meth c s args D (va_A wc0 s.heap.size) b_M_bits "MountainFarmsModel" 3 (some .int)) (hrec1 : ∀ (x1 : Int32) (x2 : Int32), rec1 x1 x2 = some out → ∀ (H : Heap) (locs : List Loc) (ls : Array Slot), kV D (va_A wc0 s.heap.size) s (wd_M_bits D) H locs → lv_has ls 3 [(1, .int x1), (2, .int x2)] → W p l e { frames := 0, cells := 0, slots := 0, locals := 0 } s m args below meth c H locs 0 0 (MQ below (kQi D wc0 (wd_M_bits D) s.heap.size out) args s 0 0 (va_A wc0 s.heap.size)) (F0 m 4 ls [])) (hf : fb_M_bits_1 rec1 x1 x2 = some out) {H : Heap} {locs : List Loc} (hV : kV D (va_A wc0 s.heap.size) s (wd_M_bits D) H locs) {ls : Array Slot} (hl : lv_has ls 3 [(1, .int x1), (2, .int x2)]) : W p l e { frames := 0, cells := 0, slots := 0, locals := 0 } s m args below meth c H locs 0 0 (MQ below (kQi D wc0 (wd_M_bits D) s.heap.size out) args s 0 0 (va_A wc0 s.heap.size)) (F0 m 4 ls []) := by
  unfold fb_M_bits_1 at hf
  obtain ⟨hx, hb, -⟩ := id X
  refine lv_iload_n hx hb d_M_bits_4 rfl (lv_at hl 1 rfl) ?_
  refine lv_if_eq (tgt := 20) hx hb d_M_bits_5 (by decide) (fun c_3 => ?_) (fun c_3 => ?_)
  · replace hf := kifp c_3 hf
    refine lv_iload_n hx hb d_M_bits_20 rfl (lv_at hl 0 rfl) ?_
    have e_ := Option.some.inj hf
    subst e_
    exact k_iret X rfl hV rfl d_M_bits_21
  replace hf := kifn c_3 hf
  refine lv_iinc (v := (x1 + 1)) (lv' := [(1, .int (x1 + 1)), (2, .int x2)]) hx hb d_M_bits_8 hl (k := 0) rfl rfl (by decide) rfl (fun ls hl => ?_)
  refine lv_iload_n hx hb d_M_bits_11 rfl (lv_at hl 1 rfl) ?_
  refine lv_iload_n hx hb d_M_bits_12 rfl (lv_at hl 1 rfl) ?_
  refine lv_iconst (v := 1) hx hb d_M_bits_13 ic_1 ?_
  refine lv_isub hx hb d_M_bits_14 ?_
  refine lv_iand hx hb d_M_bits_15 ?_
  refine k_leti hf (fun x2_4 hf => ?_)
  refine lv_istore_n (lv' := [(2, .int x2_4), (1, .int (x1 + 1))]) hx hb d_M_bits_16 rfl hl (by decide) rfl (fun ls hl => ?_)
  refine lv_goto (tgt := 4) hx hb d_M_bits_17 (by decide) ?_
  exact hrec1 _ _ hf _ _ _ hV (lv_sub hl [1, 0] rfl)
set_option maxHeartbeats 2000000 in
set_option maxRecDepth 20000 in
theorem tl_M_bits_1 {l : Launch} {p : Program} {e : Env} {s : State} {m : MethodId} {args : Array Value} {below : List Frame} {meth : Method} {c : Code} {D : kD} {wc0 : va_W} {out : Int32} (X : kX p m meth c s args D (va_A wc0 s.heap.size) b_M_bits "MountainFarmsModel" 3 (some .int)) : ∀ (n : Nat) (x1 : Int32) (x2 : Int32), fl_M_bits_1 n x1 x2 = some out → ∀ (H : Heap) (locs : List Loc) (ls : Array Slot), kV D (va_A wc0 s.heap.size) s (wd_M_bits D) H locs → lv_has ls 3 [(1, .int x1), (2, .int x2)] → W p l e { frames := 0, cells := 0, slots := 0, locals := 0 } s m args below meth c H locs 0 0 (MQ below (kQi D wc0 (wd_M_bits D) s.heap.size out) args s 0 0 (va_A wc0 s.heap.size)) (F0 m 4 ls []) := by
  intro n
  induction n with
  | zero => intro x1 x2 hf; exact knone hf
  | succ n ih => intro x1 x2 hf H locs ls hV hl; exact tb_M_bits_1 X ih hf hV hl
set_option maxHeartbeats 2000000 in
set_option maxRecDepth 20000 in
theorem t_M_bits {l : Launch} {p : Program} {e : Env} {s : State} {m : MethodId} {args : Array Value} {below : List Frame} {meth : Method} {c : Code} {D : kD} {wc0 : va_W} {x0 : Int32} {out : Int32} (X : kX p m meth c s args D (va_A wc0 s.heap.size) b_M_bits "MountainFarmsModel" 3 (some .int)) (hf : f_M_bits x0 = some out) {H : Heap} {locs : List Loc} (hV : kV D (va_A wc0 s.heap.size) s (wd_M_bits D) H locs) {ls : Array Slot} (hl : lv_has ls 3 [(0, .int x0)]) : W p l e { frames := 0, cells := 0, slots := 0, locals := 0 } s m args below meth c H locs 0 0 (MQ below (kQi D wc0 (wd_M_bits D) s.heap.size out) args s 0 0 (va_A wc0 s.heap.size)) (F0 m 0 ls []) := by
  unfold f_M_bits at hf
  obtain ⟨hx, hb, -⟩ := id X
  refine lv_iconst (v := 0) hx hb d_M_bits_0 ic_0 ?_
  refine lv_istore_n (lv' := [(1, .int (0 : Int32)), (0, .int x0)]) hx hb d_M_bits_1 rfl hl (by decide) rfl (fun ls hl => ?_)
  refine lv_iload_n hx hb d_M_bits_2 rfl (lv_at hl 1 rfl) ?_
  refine lv_istore_n (lv' := [(2, .int x0), (1, .int (0 : Int32)), (0, .int x0)]) hx hb d_M_bits_3 rfl hl (by decide) rfl (fun ls hl => ?_)
  exact tl_M_bits_1 X _ _ _ hf _ _ _ hV (lv_sub hl [1, 0] rfl)
set_option maxHeartbeats 2000000 in
set_option maxRecDepth 20000 in
theorem c_M_bits {l : Launch} (D : kD) (x0 : Int32) {out : Int32} (hf : f_M_bits x0 = some out) : kMi l D y_M_bits b_M_bits 3 (some .int) { frames := 0, cells := 0, slots := 0, locals := 0 } [.int x0] (wd_M_bits D) (wd_M_bits D) out :=
  kMi_of (own := "MountainFarmsModel") (plainFor_of_name (by decide)) rfl rfl (fun p e s m args below meth c ls X hV hl => t_M_bits X hf hV hl)
set_option maxHeartbeats 2000000 in
set_option maxRecDepth 20000 in
theorem tb_M_save_2 {l : Launch} {p : Program} {e : Env} {s : State} {m : MethodId} {args : Array Value} {below : List Frame} {meth : Method} {c : Code} {D : kD} {wc0 : va_W} {h : Nat} {h_now : Nat} {h_kept : Nat} {h_aside : Nat} {h_found : Nat} {h_down : Nat} {h_along : Nat} {h_parts : Nat} {h_gone : Nat} {h_tape : Nat} {h_kinds : Nat} {h_items : Nat} {h_widths : Nat} {h_sizes : Nat} {h_numbers : Nat} {h_moved : Nat} {v_isKept : Int32} {v_taped : Int32} {v_begins : Int32} {v_ends : Int32} {v_sort : Int32} {v_value : Int32} {v_isWrong : Int32} {v_itemMany : Int32} {v_farmMany : Int32} {v_farmCells : Int64} {v_now : Nat → Int32} {v_aside : Nat → Int32} {v_found : Nat → Int32} {v_down : Nat → Int32} {v_along : Nat → Int32} {x1 : Int32} {x2 : Int32} {x3 : Int32} {x4 : Int32} {x5 : Int32} {rec1 : Int32 → Int32 → Int32 → (Nat → Int32) → (Nat → Int32) → Option (Int32 × (Nat → Int32) × (Nat → Int32) × (Nat → Int32))} {rec2 : Int32 → Int32 → Int32 → Int32 → (Nat → Int32) → (Nat → Int32) → Option (Int32 × (Nat → Int32) × (Nat → Int32) × (Nat → Int32))} {out : Int32 × (Nat → Int32) × (Nat → Int32) × (Nat → Int32)} (X : kX p m meth c s args D (va_A wc0 s.heap.size) b_M_save "MountainFarmsModel" 6 (some .int)) (hrec1 : ∀ (x2 : Int32) (x3 : Int32) (x4 : Int32) (v_now : Nat → Int32) (v_aside : Nat → Int32), rec1 x2 x3 x4 v_now v_aside = some out → ∀ (H : Heap) (locs : List Loc) (ls : Array Slot), kV D (va_A wc0 s.heap.size) s (wd_M_save D h h_now h_kept h_aside h_found h_down h_along h_parts h_gone h_tape h_kinds h_items h_widths h_sizes h_numbers h_moved v_isKept v_taped v_begins v_ends v_sort v_value v_isWrong v_itemMany v_farmMany v_farmCells v_now v_aside v_found v_down v_along) H locs → lv_has ls 6 [(0, .ref h), (1, .int x1), (2, .int x2), (3, .int x3), (4, .int x4)] → W p l e { frames := 7, cells := 0, slots := 0, locals := 170 } s m args below meth c H locs 0 0 (MQ below (kQi D wc0 (wd_M_save D h h_now h_kept h_aside h_found h_down h_along h_parts h_gone h_tape h_kinds h_items h_widths h_sizes h_numbers h_moved v_isKept v_taped v_begins v_ends v_sort v_value v_isWrong v_itemMany v_farmMany v_farmCells out.2.1 out.2.2.1 out.2.2.2 v_down v_along) s.heap.size out.1) args s 0 0 (va_A wc0 s.heap.size)) (F0 m 28 ls [])) (hrec2 : ∀ (x2 : Int32) (x3 : Int32) (x4 : Int32) (x5 : Int32) (v_now : Nat → Int32) (v_aside : Nat → Int32), rec2 x2 x3 x4 x5 v_now v_aside = some out → ∀ (H : Heap) (locs : List Loc) (ls : Array Slot), kV D (va_A wc0 s.heap.size) s (wd_M_save D h h_now h_kept h_aside h_found h_down h_along h_parts h_gone h_tape h_kinds h_items h_widths h_sizes h_numbers h_moved v_isKept v_taped v_begins v_ends v_sort v_value v_isWrong v_itemMany v_farmMany v_farmCells v_now v_aside v_found v_down v_along) H locs → lv_has ls 6 [(0, .ref h), (1, .int x1), (2, .int x2), (3, .int x3), (4, .int x4), (5, .int x5)] → W p l e { frames := 7, cells := 0, slots := 0, locals := 170 } s m args below meth c H locs 0 0 (MQ below (kQi D wc0 (wd_M_save D h h_now h_kept h_aside h_found h_down h_along h_parts h_gone h_tape h_kinds h_items h_widths h_sizes h_numbers h_moved v_isKept v_taped v_begins v_ends v_sort v_value v_isWrong v_itemMany v_farmMany v_farmCells out.2.1 out.2.2.1 out.2.2.2 v_down v_along) s.heap.size out.1) args s 0 0 (va_A wc0 s.heap.size)) (F0 m 38 ls [])) (hf : fb_M_save_2 rec1 rec2 x1 v_found v_down v_along x2 x3 x4 x5 v_now v_aside = some out) {H : Heap} {locs : List Loc} (hV : kV D (va_A wc0 s.heap.size) s (wd_M_save D h h_now h_kept h_aside h_found h_down h_along h_parts h_gone h_tape h_kinds h_items h_widths h_sizes h_numbers h_moved v_isKept v_taped v_begins v_ends v_sort v_value v_isWrong v_itemMany v_farmMany v_farmCells v_now v_aside v_found v_down v_along) H locs) {ls : Array Slot} (hl : lv_has ls 6 [(0, .ref h), (1, .int x1), (2, .int x2), (3, .int x3), (4, .int x4), (5, .int x5)]) : W p l e { frames := 7, cells := 0, slots := 0, locals := 170 } s m args below meth c H locs 0 0 (MQ below (kQi D wc0 (wd_M_save D h h_now h_kept h_aside h_found h_down h_along h_parts h_gone h_tape h_kinds h_items h_widths h_sizes h_numbers h_moved v_isKept v_taped v_begins v_ends v_sort v_value v_isWrong v_itemMany v_farmMany v_farmCells out.2.1 out.2.2.1 out.2.2.2 v_down v_along) s.heap.size out.1) args s 0 0 (va_A wc0 s.heap.size)) (F0 m 38 ls []) := by
  unfold fb_M_save_2 at hf
  obtain ⟨hx, hb, -⟩ := id X
  refine lv_iload hx hb d_M_save_38 (lv_at hl 5 rfl) ?_
  refine lv_iconst (v := 3) hx hb d_M_save_40 ic_3 ?_
  refine lv_icmp_ge (tgt := 116) hx hb d_M_save_41 (by decide) (fun c_58 => ?_) (fun c_58 => ?_)
  · replace hf := kifp c_58 hf
    refine lv_iinc (v := (x4 + 1)) (lv' := [(4, .int (x4 + 1)), (0, .ref h), (1, .int x1), (2, .int x2), (3, .int x3), (5, .int x5)]) hx hb d_M_save_116 hl (k := 4) rfl rfl (by decide) rfl (fun ls hl => ?_)
    refine lv_goto (tgt := 28) hx hb d_M_save_119 (by decide) ?_
    exact hrec1 _ _ _ _ _ hf _ _ _ hV (lv_sub hl [1, 2, 3, 4, 0] rfl)
  replace hf := kifn c_58 hf
  refine lv_aload_n hx hb d_M_save_44 rfl (lv_at hl 0 rfl) ?_
  refine lv_iload hx hb d_M_save_45 (lv_at hl 4 rfl) ?_
  refine lv_iload hx hb d_M_save_47 (lv_at hl 5 rfl) ?_
  obtain ⟨r_59, hc_60, hf⟩ := kb1_some hf
  refine k_cvi (w1 := (wd_M_cellIn D h h_now h_kept h_aside h_found h_down h_along h_parts h_gone h_tape h_kinds h_items h_widths h_sizes h_numbers h_moved v_isKept v_taped v_begins v_ends v_sort v_value v_isWrong v_itemMany v_farmMany v_farmCells v_down v_along)) (r := r_59) (ws' := (wd_M_save D h h_now h_kept h_aside h_found h_down h_along h_parts h_gone h_tape h_kinds h_items h_widths h_sizes h_numbers h_moved v_isKept v_taped v_begins v_ends v_sort v_value v_isWrong v_itemMany v_farmMany v_farmCells v_now v_aside v_found v_down v_along)) X hV hl.1 (c_M_cellIn D h h_now h_kept h_aside h_found h_down h_along h_parts h_gone h_tape h_kinds h_items h_widths h_sizes h_numbers h_moved v_isKept v_taped v_begins v_ends v_sort v_value v_isWrong v_itemMany v_farmMany v_farmCells v_down v_along x4 x5 hc_60) fk_M_cellIn gw_1006 rfl 0 9 rfl rfl [0, 4, 5] [some 0, none, none, none, some 1, some 2] rfl rfl ⟨rfl, rfl, rfl, rfl, rfl, rfl, rfl, rfl, rfl, rfl, rfl, rfl, trivial⟩ rfl rfl rfl d_M_save_49 (fun H locs hV => ?_)
  refine lv_if_lt (tgt := 110) hx hb d_M_save_52 (by decide) (fun c_61 => ?_) (fun c_61 => ?_)
  · replace hf := kifp c_61 hf
    refine lv_iinc (v := (x5 + 1)) (lv' := [(5, .int (x5 + 1)), (0, .ref h), (1, .int x1), (2, .int x2), (3, .int x3), (4, .int x4)]) hx hb d_M_save_110 hl (k := 5) rfl rfl (by decide) rfl (fun ls hl => ?_)
    refine lv_goto (tgt := 38) hx hb d_M_save_113 (by decide) ?_
    exact hrec2 _ _ _ _ _ _ hf _ _ _ hV (lv_sub hl [1, 2, 3, 4, 5, 0] rfl)
  replace hf := kifn c_61 hf
  refine lv_aload_n hx hb d_M_save_55 rfl (lv_at hl 0 rfl) ?_
  refine lv_iload hx hb d_M_save_56 (lv_at hl 4 rfl) ?_
  refine lv_iload hx hb d_M_save_58 (lv_at hl 5 rfl) ?_
  obtain ⟨r_62, hc_63, hf⟩ := kb1_some hf
  refine k_cvi (w1 := (wd_M_hasWall D h h_now h_kept h_aside h_found h_down h_along h_parts h_gone h_tape h_kinds h_items h_widths h_sizes h_numbers h_moved v_isKept v_taped v_begins v_ends v_sort v_value v_isWrong v_itemMany v_farmMany v_farmCells v_now)) (r := r_62) (ws' := (wd_M_save D h h_now h_kept h_aside h_found h_down h_along h_parts h_gone h_tape h_kinds h_items h_widths h_sizes h_numbers h_moved v_isKept v_taped v_begins v_ends v_sort v_value v_isWrong v_itemMany v_farmMany v_farmCells v_now v_aside v_found v_down v_along)) X hV hl.1 (c_M_hasWall D h h_now h_kept h_aside h_found h_down h_along h_parts h_gone h_tape h_kinds h_items h_widths h_sizes h_numbers h_moved v_isKept v_taped v_begins v_ends v_sort v_value v_isWrong v_itemMany v_farmMany v_farmCells v_now x4 x5 hc_63) fk_M_hasWall gw_1010 rfl 0 9 rfl rfl [0, 1] [some 0, some 1, none, none, none, none] rfl rfl ⟨rfl, rfl, rfl, rfl, rfl, rfl, rfl, rfl, rfl, rfl, trivial⟩ rfl rfl rfl d_M_save_60 (fun H locs hV => ?_)
  refine lv_if_ne (tgt := 110) hx hb d_M_save_63 (by decide) (fun c_64 => ?_) (fun c_64 => ?_)
  · replace hf := kifn c_64 hf
    refine lv_iinc (v := (x5 + 1)) (lv' := [(5, .int (x5 + 1)), (0, .ref h), (1, .int x1), (2, .int x2), (3, .int x3), (4, .int x4)]) hx hb d_M_save_110 hl (k := 5) rfl rfl (by decide) rfl (fun ls hl => ?_)
    refine lv_goto (tgt := 38) hx hb d_M_save_113 (by decide) ?_
    exact hrec2 _ _ _ _ _ _ hf _ _ _ hV (lv_sub hl [1, 2, 3, 4, 5, 0] rfl)
  replace hf := kifp c_64 hf
  refine lv_aload_n hx hb d_M_save_66 rfl (lv_at hl 0 rfl) ?_
  refine lv_iload hx hb d_M_save_67 (lv_at hl 4 rfl) ?_
  refine lv_iload hx hb d_M_save_69 (lv_at hl 5 rfl) ?_
  refine lv_iload_n hx hb d_M_save_71 rfl (lv_at hl 1 rfl) ?_
  obtain ⟨r_65, v_now_66, v_aside_67, hc_68, hf⟩ := kb3_some hf
  refine k_cvi (w1 := (wd_M_hitsWith D h h_now h_kept h_aside h_found h_down h_along h_parts h_gone h_tape h_kinds h_items h_widths h_sizes h_numbers h_moved v_isKept v_taped v_begins v_ends v_sort v_value v_isWrong v_itemMany v_farmMany v_farmCells v_now_66 v_aside_67 v_down v_along)) (r := r_65) (ws' := (wd_M_save D h h_now h_kept h_aside h_found h_down h_along h_parts h_gone h_tape h_kinds h_items h_widths h_sizes h_numbers h_moved v_isKept v_taped v_begins v_ends v_sort v_value v_isWrong v_itemMany v_farmMany v_farmCells v_now_66 v_aside_67 v_found v_down v_along)) X hV hl.1 (c_M_hitsWith D h h_now h_kept h_aside h_found h_down h_along h_parts h_gone h_tape h_kinds h_items h_widths h_sizes h_numbers h_moved v_isKept v_taped v_begins v_ends v_sort v_value v_isWrong v_itemMany v_farmMany v_farmCells v_now v_aside v_down v_along x4 x5 x1 hc_68) fk_M_hitsWith gw_1172 rfl 0 9 rfl rfl [0, 1, 2, 4, 5] [some 0, some 1, some 2, none, some 3, some 4] rfl rfl ⟨rfl, rfl, rfl, rfl, rfl, rfl, rfl, rfl, rfl, rfl, rfl, rfl, rfl, rfl, rfl, rfl, trivial⟩ rfl rfl rfl d_M_save_72 (fun H locs hV => ?_)
  obtain ⟨r_69, hc_70, hf⟩ := kb1_some hf
  refine k_csi (w1 := (wd_M_bits D)) (r := r_69) (ws' := (wd_M_save D h h_now h_kept h_aside h_found h_down h_along h_parts h_gone h_tape h_kinds h_items h_widths h_sizes h_numbers h_moved v_isKept v_taped v_begins v_ends v_sort v_value v_isWrong v_itemMany v_farmMany v_farmCells v_now_66 v_aside_67 v_found v_down v_along)) X hV hl.1 (c_M_bits D r_65 hc_70) fk_M_bits gw_1180 rfl [] [none, none, none, none, none, none] rfl rfl ⟨rfl, rfl, rfl, rfl, rfl, rfl, trivial⟩ rfl rfl rfl d_M_save_75 (fun H locs hV => ?_)
  refine lv_iload_n hx hb d_M_save_78 rfl (lv_at hl 3 rfl) ?_
  refine lv_icmp_ge (tgt := 110) hx hb d_M_save_79 (by decide) (fun c_71 => ?_) (fun c_71 => ?_)
  · replace hf := kifp c_71 hf
    refine lv_iinc (v := (x5 + 1)) (lv' := [(5, .int (x5 + 1)), (0, .ref h), (1, .int x1), (2, .int x2), (3, .int x3), (4, .int x4)]) hx hb d_M_save_110 hl (k := 5) rfl rfl (by decide) rfl (fun ls hl => ?_)
    refine lv_goto (tgt := 38) hx hb d_M_save_113 (by decide) ?_
    exact hrec2 _ _ _ _ _ _ hf _ _ _ hV (lv_sub hl [1, 2, 3, 4, 5, 0] rfl)
  replace hf := kifn c_71 hf
  refine lv_aload_n hx hb d_M_save_82 rfl (lv_at hl 0 rfl) ?_
  refine lv_iload hx hb d_M_save_83 (lv_at hl 4 rfl) ?_
  refine lv_iload hx hb d_M_save_85 (lv_at hl 5 rfl) ?_
  refine lv_iload_n hx hb d_M_save_87 rfl (lv_at hl 1 rfl) ?_
  obtain ⟨r_72, v_now_73, v_aside_74, hc_75, hf⟩ := kb3_some hf
  refine k_cvi (w1 := (wd_M_hitsWith D h h_now h_kept h_aside h_found h_down h_along h_parts h_gone h_tape h_kinds h_items h_widths h_sizes h_numbers h_moved v_isKept v_taped v_begins v_ends v_sort v_value v_isWrong v_itemMany v_farmMany v_farmCells v_now_73 v_aside_74 v_down v_along)) (r := r_72) (ws' := (wd_M_save D h h_now h_kept h_aside h_found h_down h_along h_parts h_gone h_tape h_kinds h_items h_widths h_sizes h_numbers h_moved v_isKept v_taped v_begins v_ends v_sort v_value v_isWrong v_itemMany v_farmMany v_farmCells v_now_73 v_aside_74 v_found v_down v_along)) X hV hl.1 (c_M_hitsWith D h h_now h_kept h_aside h_found h_down h_along h_parts h_gone h_tape h_kinds h_items h_widths h_sizes h_numbers h_moved v_isKept v_taped v_begins v_ends v_sort v_value v_isWrong v_itemMany v_farmMany v_farmCells v_now_66 v_aside_67 v_down v_along x4 x5 x1 hc_75) fk_M_hitsWith gw_1172 rfl 0 9 rfl rfl [0, 1, 2, 4, 5] [some 0, some 1, some 2, none, some 3, some 4] rfl rfl ⟨rfl, rfl, rfl, rfl, rfl, rfl, rfl, rfl, rfl, rfl, rfl, rfl, rfl, rfl, rfl, rfl, trivial⟩ rfl rfl rfl d_M_save_88 (fun H locs hV => ?_)
  obtain ⟨r_76, hc_77, hf⟩ := kb1_some hf
  refine k_csi (w1 := (wd_M_bits D)) (r := r_76) (ws' := (wd_M_save D h h_now h_kept h_aside h_found h_down h_along h_parts h_gone h_tape h_kinds h_items h_widths h_sizes h_numbers h_moved v_isKept v_taped v_begins v_ends v_sort v_value v_isWrong v_itemMany v_farmMany v_farmCells v_now_73 v_aside_74 v_found v_down v_along)) X hV hl.1 (c_M_bits D r_72 hc_77) fk_M_bits gw_1180 rfl [] [none, none, none, none, none, none] rfl rfl ⟨rfl, rfl, rfl, rfl, rfl, rfl, trivial⟩ rfl rfl rfl d_M_save_91 (fun H locs hV => ?_)
  refine lv_istore_n (lv' := [(3, .int r_76), (0, .ref h), (1, .int x1), (2, .int x2), (4, .int x4), (5, .int x5)]) hx hb d_M_save_94 rfl hl (by decide) rfl (fun ls hl => ?_)
  refine lv_bipush (v := 100) hx hb d_M_save_95 bp_100 ?_
  refine lv_iload hx hb d_M_save_97 (lv_at hl 4 rfl) ?_
  refine lv_imul hx hb d_M_save_99 ?_
  refine lv_aload_n hx hb d_M_save_100 rfl (lv_at hl 1 rfl) ?_
  refine lv_iload hx hb d_M_save_101 (lv_at hl 4 rfl) ?_
  refine lv_iload hx hb d_M_save_103 (lv_at hl 5 rfl) ?_
  obtain ⟨r_78, hc_79, hf⟩ := kb1_some hf
  refine k_cvi (w1 := (wd_M_cellIn D h h_now h_kept h_aside h_found h_down h_along h_parts h_gone h_tape h_kinds h_items h_widths h_sizes h_numbers h_moved v_isKept v_taped v_begins v_ends v_sort v_value v_isWrong v_itemMany v_farmMany v_farmCells v_down v_along)) (r := r_78) (ws' := (wd_M_save D h h_now h_kept h_aside h_found h_down h_along h_parts h_gone h_tape h_kinds h_items h_widths h_sizes h_numbers h_moved v_isKept v_taped v_begins v_ends v_sort v_value v_isWrong v_itemMany v_farmMany v_farmCells v_now_73 v_aside_74 v_found v_down v_along)) X hV hl.1 (c_M_cellIn D h h_now h_kept h_aside h_found h_down h_along h_parts h_gone h_tape h_kinds h_items h_widths h_sizes h_numbers h_moved v_isKept v_taped v_begins v_ends v_sort v_value v_isWrong v_itemMany v_farmMany v_farmCells v_down v_along x4 x5 hc_79) fk_M_cellIn gw_1006 rfl 0 9 rfl rfl [0, 4, 5] [some 0, none, none, none, some 1, some 2] rfl rfl ⟨rfl, rfl, rfl, rfl, rfl, rfl, rfl, rfl, rfl, rfl, rfl, rfl, trivial⟩ rfl rfl rfl d_M_save_105 (fun H locs hV => ?_)
  refine lv_iadd hx hb d_M_save_108 ?_
  refine k_leti hf (fun x2_80 hf => ?_)
  refine lv_istore_n (lv' := [(2, .int x2_80), (3, .int r_76), (0, .ref h), (1, .int x1), (4, .int x4), (5, .int x5)]) hx hb d_M_save_109 rfl hl (by decide) rfl (fun ls hl => ?_)
  refine lv_iinc (v := (x5 + 1)) (lv' := [(5, .int (x5 + 1)), (2, .int x2_80), (3, .int r_76), (0, .ref h), (1, .int x1), (4, .int x4)]) hx hb d_M_save_110 hl (k := 5) rfl rfl (by decide) rfl (fun ls hl => ?_)
  refine lv_goto (tgt := 38) hx hb d_M_save_113 (by decide) ?_
  exact hrec2 _ _ _ _ _ _ hf _ _ _ hV (lv_sub hl [3, 4, 1, 2, 5, 0] rfl)
set_option maxHeartbeats 2000000 in
set_option maxRecDepth 20000 in
theorem tl_M_save_2 {l : Launch} {p : Program} {e : Env} {s : State} {m : MethodId} {args : Array Value} {below : List Frame} {meth : Method} {c : Code} {D : kD} {wc0 : va_W} {h : Nat} {h_now : Nat} {h_kept : Nat} {h_aside : Nat} {h_found : Nat} {h_down : Nat} {h_along : Nat} {h_parts : Nat} {h_gone : Nat} {h_tape : Nat} {h_kinds : Nat} {h_items : Nat} {h_widths : Nat} {h_sizes : Nat} {h_numbers : Nat} {h_moved : Nat} {v_isKept : Int32} {v_taped : Int32} {v_begins : Int32} {v_ends : Int32} {v_sort : Int32} {v_value : Int32} {v_isWrong : Int32} {v_itemMany : Int32} {v_farmMany : Int32} {v_farmCells : Int64} {v_found : Nat → Int32} {v_down : Nat → Int32} {v_along : Nat → Int32} {x1 : Int32} {rec1 : Int32 → Int32 → Int32 → (Nat → Int32) → (Nat → Int32) → Option (Int32 × (Nat → Int32) × (Nat → Int32) × (Nat → Int32))} {out : Int32 × (Nat → Int32) × (Nat → Int32) × (Nat → Int32)} (X : kX p m meth c s args D (va_A wc0 s.heap.size) b_M_save "MountainFarmsModel" 6 (some .int)) (hrec1 : ∀ (x2 : Int32) (x3 : Int32) (x4 : Int32) (v_now : Nat → Int32) (v_aside : Nat → Int32), rec1 x2 x3 x4 v_now v_aside = some out → ∀ (H : Heap) (locs : List Loc) (ls : Array Slot), kV D (va_A wc0 s.heap.size) s (wd_M_save D h h_now h_kept h_aside h_found h_down h_along h_parts h_gone h_tape h_kinds h_items h_widths h_sizes h_numbers h_moved v_isKept v_taped v_begins v_ends v_sort v_value v_isWrong v_itemMany v_farmMany v_farmCells v_now v_aside v_found v_down v_along) H locs → lv_has ls 6 [(0, .ref h), (1, .int x1), (2, .int x2), (3, .int x3), (4, .int x4)] → W p l e { frames := 7, cells := 0, slots := 0, locals := 170 } s m args below meth c H locs 0 0 (MQ below (kQi D wc0 (wd_M_save D h h_now h_kept h_aside h_found h_down h_along h_parts h_gone h_tape h_kinds h_items h_widths h_sizes h_numbers h_moved v_isKept v_taped v_begins v_ends v_sort v_value v_isWrong v_itemMany v_farmMany v_farmCells out.2.1 out.2.2.1 out.2.2.2 v_down v_along) s.heap.size out.1) args s 0 0 (va_A wc0 s.heap.size)) (F0 m 28 ls [])) : ∀ (n : Nat) (x2 : Int32) (x3 : Int32) (x4 : Int32) (x5 : Int32) (v_now : Nat → Int32) (v_aside : Nat → Int32), fl_M_save_2 rec1 x1 v_found v_down v_along n x2 x3 x4 x5 v_now v_aside = some out → ∀ (H : Heap) (locs : List Loc) (ls : Array Slot), kV D (va_A wc0 s.heap.size) s (wd_M_save D h h_now h_kept h_aside h_found h_down h_along h_parts h_gone h_tape h_kinds h_items h_widths h_sizes h_numbers h_moved v_isKept v_taped v_begins v_ends v_sort v_value v_isWrong v_itemMany v_farmMany v_farmCells v_now v_aside v_found v_down v_along) H locs → lv_has ls 6 [(0, .ref h), (1, .int x1), (2, .int x2), (3, .int x3), (4, .int x4), (5, .int x5)] → W p l e { frames := 7, cells := 0, slots := 0, locals := 170 } s m args below meth c H locs 0 0 (MQ below (kQi D wc0 (wd_M_save D h h_now h_kept h_aside h_found h_down h_along h_parts h_gone h_tape h_kinds h_items h_widths h_sizes h_numbers h_moved v_isKept v_taped v_begins v_ends v_sort v_value v_isWrong v_itemMany v_farmMany v_farmCells out.2.1 out.2.2.1 out.2.2.2 v_down v_along) s.heap.size out.1) args s 0 0 (va_A wc0 s.heap.size)) (F0 m 38 ls []) := by
  intro n
  induction n with
  | zero => intro x2 x3 x4 x5 v_now v_aside hf; exact knone hf
  | succ n ih => intro x2 x3 x4 x5 v_now v_aside hf H locs ls hV hl; exact tb_M_save_2 X hrec1 ih hf hV hl
set_option maxHeartbeats 2000000 in
set_option maxRecDepth 20000 in
theorem tb_M_save_1 {l : Launch} {p : Program} {e : Env} {s : State} {m : MethodId} {args : Array Value} {below : List Frame} {meth : Method} {c : Code} {D : kD} {wc0 : va_W} {h : Nat} {h_now : Nat} {h_kept : Nat} {h_aside : Nat} {h_found : Nat} {h_down : Nat} {h_along : Nat} {h_parts : Nat} {h_gone : Nat} {h_tape : Nat} {h_kinds : Nat} {h_items : Nat} {h_widths : Nat} {h_sizes : Nat} {h_numbers : Nat} {h_moved : Nat} {v_isKept : Int32} {v_taped : Int32} {v_begins : Int32} {v_ends : Int32} {v_sort : Int32} {v_value : Int32} {v_isWrong : Int32} {v_itemMany : Int32} {v_farmMany : Int32} {v_farmCells : Int64} {v_now : Nat → Int32} {v_aside : Nat → Int32} {v_found : Nat → Int32} {v_down : Nat → Int32} {v_along : Nat → Int32} {x1 : Int32} {x2 : Int32} {x3 : Int32} {x4 : Int32} {rec1 : Int32 → Int32 → Int32 → (Nat → Int32) → (Nat → Int32) → Option (Int32 × (Nat → Int32) × (Nat → Int32) × (Nat → Int32))} {out : Int32 × (Nat → Int32) × (Nat → Int32) × (Nat → Int32)} (X : kX p m meth c s args D (va_A wc0 s.heap.size) b_M_save "MountainFarmsModel" 6 (some .int)) (hrec1 : ∀ (x2 : Int32) (x3 : Int32) (x4 : Int32) (v_now : Nat → Int32) (v_aside : Nat → Int32), rec1 x2 x3 x4 v_now v_aside = some out → ∀ (H : Heap) (locs : List Loc) (ls : Array Slot), kV D (va_A wc0 s.heap.size) s (wd_M_save D h h_now h_kept h_aside h_found h_down h_along h_parts h_gone h_tape h_kinds h_items h_widths h_sizes h_numbers h_moved v_isKept v_taped v_begins v_ends v_sort v_value v_isWrong v_itemMany v_farmMany v_farmCells v_now v_aside v_found v_down v_along) H locs → lv_has ls 6 [(0, .ref h), (1, .int x1), (2, .int x2), (3, .int x3), (4, .int x4)] → W p l e { frames := 7, cells := 0, slots := 0, locals := 170 } s m args below meth c H locs 0 0 (MQ below (kQi D wc0 (wd_M_save D h h_now h_kept h_aside h_found h_down h_along h_parts h_gone h_tape h_kinds h_items h_widths h_sizes h_numbers h_moved v_isKept v_taped v_begins v_ends v_sort v_value v_isWrong v_itemMany v_farmMany v_farmCells out.2.1 out.2.2.1 out.2.2.2 v_down v_along) s.heap.size out.1) args s 0 0 (va_A wc0 s.heap.size)) (F0 m 28 ls [])) (hf : fb_M_save_1 rec1 x1 v_found v_down v_along x2 x3 x4 v_now v_aside = some out) {H : Heap} {locs : List Loc} (hV : kV D (va_A wc0 s.heap.size) s (wd_M_save D h h_now h_kept h_aside h_found h_down h_along h_parts h_gone h_tape h_kinds h_items h_widths h_sizes h_numbers h_moved v_isKept v_taped v_begins v_ends v_sort v_value v_isWrong v_itemMany v_farmMany v_farmCells v_now v_aside v_found v_down v_along) H locs) {ls : Array Slot} (hl : lv_has ls 6 [(0, .ref h), (1, .int x1), (2, .int x2), (3, .int x3), (4, .int x4)]) : W p l e { frames := 7, cells := 0, slots := 0, locals := 170 } s m args below meth c H locs 0 0 (MQ below (kQi D wc0 (wd_M_save D h h_now h_kept h_aside h_found h_down h_along h_parts h_gone h_tape h_kinds h_items h_widths h_sizes h_numbers h_moved v_isKept v_taped v_begins v_ends v_sort v_value v_isWrong v_itemMany v_farmMany v_farmCells out.2.1 out.2.2.1 out.2.2.2 v_down v_along) s.heap.size out.1) args s 0 0 (va_A wc0 s.heap.size)) (F0 m 28 ls []) := by
  unfold fb_M_save_1 at hf
  obtain ⟨hx, hb, -⟩ := id X
  refine lv_iload hx hb d_M_save_28 (lv_at hl 4 rfl) ?_
  refine lv_bipush (v := 36) hx hb d_M_save_30 bp_36 ?_
  refine lv_icmp_ge (tgt := 122) hx hb d_M_save_32 (by decide) (fun c_53 => ?_) (fun c_53 => ?_)
  · replace hf := kifp c_53 hf
    refine lv_iload_n hx hb d_M_save_122 rfl (lv_at hl 2 rfl) ?_
    refine lv_if_ge (tgt := 135) hx hb d_M_save_123 (by decide) (fun c_54 => ?_) (fun c_54 => ?_)
    · replace hf := kifp c_54 hf
      refine lv_iload_n hx hb d_M_save_135 rfl (lv_at hl 2 rfl) ?_
      have e_ := Option.some.inj hf
      subst e_
      exact k_iret X rfl hV rfl d_M_save_136
    replace hf := kifn c_54 hf
    refine lv_aload_n hx hb d_M_save_126 rfl (lv_at hl 0 rfl) ?_
    refine k_ldc (v := (-1000000004)) X gw_1123 d_M_save_127 ?_
    obtain ⟨r_55, v_found_56, hc_57, hf⟩ := kb2_some hf
    refine k_cvi (w1 := (wd_M_finding D h h_now h_kept h_aside h_found h_down h_along h_parts h_gone h_tape h_kinds h_items h_widths h_sizes h_numbers h_moved v_isKept v_taped v_begins v_ends v_sort v_value v_isWrong v_itemMany v_farmMany v_farmCells v_found_56)) (r := r_55) (ws' := (wd_M_save D h h_now h_kept h_aside h_found h_down h_along h_parts h_gone h_tape h_kinds h_items h_widths h_sizes h_numbers h_moved v_isKept v_taped v_begins v_ends v_sort v_value v_isWrong v_itemMany v_farmMany v_farmCells v_now v_aside v_found_56 v_down v_along)) X hV hl.1 (c_M_finding D h h_now h_kept h_aside h_found h_down h_along h_parts h_gone h_tape h_kinds h_items h_widths h_sizes h_numbers h_moved v_isKept v_taped v_begins v_ends v_sort v_value v_isWrong v_itemMany v_farmMany v_farmCells v_found (-1000000004 : Int32) hc_57) fk_M_finding gw_974 rfl 0 9 rfl rfl [0, 3] [some 0, none, none, some 1, none, none] rfl rfl ⟨rfl, rfl, rfl, rfl, rfl, rfl, rfl, rfl, rfl, rfl, trivial⟩ rfl rfl rfl d_M_save_129 (fun H locs hV => ?_)
    refine lv_goto (tgt := 136) hx hb d_M_save_132 (by decide) ?_
    have e_ := Option.some.inj hf
    subst e_
    exact k_iret X rfl hV rfl d_M_save_136
  replace hf := kifn c_53 hf
  refine lv_iconst (v := 1) hx hb d_M_save_35 ic_1 ?_
  refine lv_istore (lv' := [(5, .int (1 : Int32)), (0, .ref h), (1, .int x1), (2, .int x2), (3, .int x3), (4, .int x4)]) hx hb d_M_save_36 hl (by decide) rfl (fun ls hl => ?_)
  exact tl_M_save_2 X hrec1 _ _ _ _ _ _ _ hf _ _ _ hV (lv_sub hl [1, 2, 3, 4, 5, 0] rfl)
set_option maxHeartbeats 2000000 in
set_option maxRecDepth 20000 in
theorem tl_M_save_1 {l : Launch} {p : Program} {e : Env} {s : State} {m : MethodId} {args : Array Value} {below : List Frame} {meth : Method} {c : Code} {D : kD} {wc0 : va_W} {h : Nat} {h_now : Nat} {h_kept : Nat} {h_aside : Nat} {h_found : Nat} {h_down : Nat} {h_along : Nat} {h_parts : Nat} {h_gone : Nat} {h_tape : Nat} {h_kinds : Nat} {h_items : Nat} {h_widths : Nat} {h_sizes : Nat} {h_numbers : Nat} {h_moved : Nat} {v_isKept : Int32} {v_taped : Int32} {v_begins : Int32} {v_ends : Int32} {v_sort : Int32} {v_value : Int32} {v_isWrong : Int32} {v_itemMany : Int32} {v_farmMany : Int32} {v_farmCells : Int64} {v_found : Nat → Int32} {v_down : Nat → Int32} {v_along : Nat → Int32} {x1 : Int32} {out : Int32 × (Nat → Int32) × (Nat → Int32) × (Nat → Int32)} (X : kX p m meth c s args D (va_A wc0 s.heap.size) b_M_save "MountainFarmsModel" 6 (some .int)) : ∀ (n : Nat) (x2 : Int32) (x3 : Int32) (x4 : Int32) (v_now : Nat → Int32) (v_aside : Nat → Int32), fl_M_save_1 x1 v_found v_down v_along n x2 x3 x4 v_now v_aside = some out → ∀ (H : Heap) (locs : List Loc) (ls : Array Slot), kV D (va_A wc0 s.heap.size) s (wd_M_save D h h_now h_kept h_aside h_found h_down h_along h_parts h_gone h_tape h_kinds h_items h_widths h_sizes h_numbers h_moved v_isKept v_taped v_begins v_ends v_sort v_value v_isWrong v_itemMany v_farmMany v_farmCells v_now v_aside v_found v_down v_along) H locs → lv_has ls 6 [(0, .ref h), (1, .int x1), (2, .int x2), (3, .int x3), (4, .int x4)] → W p l e { frames := 7, cells := 0, slots := 0, locals := 170 } s m args below meth c H locs 0 0 (MQ below (kQi D wc0 (wd_M_save D h h_now h_kept h_aside h_found h_down h_along h_parts h_gone h_tape h_kinds h_items h_widths h_sizes h_numbers h_moved v_isKept v_taped v_begins v_ends v_sort v_value v_isWrong v_itemMany v_farmMany v_farmCells out.2.1 out.2.2.1 out.2.2.2 v_down v_along) s.heap.size out.1) args s 0 0 (va_A wc0 s.heap.size)) (F0 m 28 ls []) := by
  intro n
  induction n with
  | zero => intro x2 x3 x4 v_now v_aside hf; exact knone hf
  | succ n ih => intro x2 x3 x4 v_now v_aside hf H locs ls hV hl; exact tb_M_save_1 X ih hf hV hl
set_option maxHeartbeats 2000000 in
set_option maxRecDepth 20000 in
theorem t_M_save {l : Launch} {p : Program} {e : Env} {s : State} {m : MethodId} {args : Array Value} {below : List Frame} {meth : Method} {c : Code} {D : kD} {wc0 : va_W} {h : Nat} {h_now : Nat} {h_kept : Nat} {h_aside : Nat} {h_found : Nat} {h_down : Nat} {h_along : Nat} {h_parts : Nat} {h_gone : Nat} {h_tape : Nat} {h_kinds : Nat} {h_items : Nat} {h_widths : Nat} {h_sizes : Nat} {h_numbers : Nat} {h_moved : Nat} {v_isKept : Int32} {v_taped : Int32} {v_begins : Int32} {v_ends : Int32} {v_sort : Int32} {v_value : Int32} {v_isWrong : Int32} {v_itemMany : Int32} {v_farmMany : Int32} {v_farmCells : Int64} {v_now : Nat → Int32} {v_aside : Nat → Int32} {v_found : Nat → Int32} {v_down : Nat → Int32} {v_along : Nat → Int32} {x1 : Int32} {out : Int32 × (Nat → Int32) × (Nat → Int32) × (Nat → Int32)} (X : kX p m meth c s args D (va_A wc0 s.heap.size) b_M_save "MountainFarmsModel" 6 (some .int)) (hf : f_M_save v_now v_aside v_found v_down v_along x1 = some out) {H : Heap} {locs : List Loc} (hV : kV D (va_A wc0 s.heap.size) s (wd_M_save D h h_now h_kept h_aside h_found h_down h_along h_parts h_gone h_tape h_kinds h_items h_widths h_sizes h_numbers h_moved v_isKept v_taped v_begins v_ends v_sort v_value v_isWrong v_itemMany v_farmMany v_farmCells v_now v_aside v_found v_down v_along) H locs) {ls : Array Slot} (hl : lv_has ls 6 [(0, .ref h), (1, .int x1)]) : W p l e { frames := 7, cells := 0, slots := 0, locals := 170 } s m args below meth c H locs 0 0 (MQ below (kQi D wc0 (wd_M_save D h h_now h_kept h_aside h_found h_down h_along h_parts h_gone h_tape h_kinds h_items h_widths h_sizes h_numbers h_moved v_isKept v_taped v_begins v_ends v_sort v_value v_isWrong v_itemMany v_farmMany v_farmCells out.2.1 out.2.2.1 out.2.2.2 v_down v_along) s.heap.size out.1) args s 0 0 (va_A wc0 s.heap.size)) (F0 m 0 ls []) := by
  unfold f_M_save at hf
  obtain ⟨hx, hb, -⟩ := id X
  refine lv_iload_n hx hb d_M_save_0 rfl (lv_at hl 1 rfl) ?_
  obtain ⟨r_41, hc_42, hf⟩ := kb1_some hf
  refine k_csi (w1 := (wd_M_isVolume D)) (r := r_41) (ws' := (wd_M_save D h h_now h_kept h_aside h_found h_down h_along h_parts h_gone h_tape h_kinds h_items h_widths h_sizes h_numbers h_moved v_isKept v_taped v_begins v_ends v_sort v_value v_isWrong v_itemMany v_farmMany v_farmCells v_now v_aside v_found v_down v_along)) X hV hl.1 (c_M_isVolume D x1 hc_42) fk_M_isVolume gw_1138 rfl [] [none, none, none, none, none, none] rfl rfl ⟨rfl, rfl, rfl, rfl, rfl, rfl, trivial⟩ rfl rfl rfl d_M_save_1 (fun H locs hV => ?_)
  refine lv_if_ne (tgt := 14) hx hb d_M_save_4 (by decide) (fun c_43 => ?_) (fun c_43 => ?_)
  · replace hf := kifn c_43 hf
    refine lv_iconst (v := (-1)) hx hb d_M_save_14 ic_m1 ?_
    refine lv_istore_n (lv' := [(2, .int (-1 : Int32)), (0, .ref h), (1, .int x1)]) hx hb d_M_save_15 rfl hl (by decide) rfl (fun ls hl => ?_)
    refine lv_aload_n hx hb d_M_save_16 rfl (lv_at hl 1 rfl) ?_
    refine lv_iload_n hx hb d_M_save_17 rfl (lv_at hl 2 rfl) ?_
    obtain ⟨r_44, v_now_45, v_aside_46, hc_47, hf⟩ := kb3_some hf
    refine k_cvi (w1 := (wd_M_hits D h h_now h_kept h_aside h_found h_down h_along h_parts h_gone h_tape h_kinds h_items h_widths h_sizes h_numbers h_moved v_isKept v_taped v_begins v_ends v_sort v_value v_isWrong v_itemMany v_farmMany v_farmCells v_now_45 v_aside_46 v_down v_along)) (r := r_44) (ws' := (wd_M_save D h h_now h_kept h_aside h_found h_down h_along h_parts h_gone h_tape h_kinds h_items h_widths h_sizes h_numbers h_moved v_isKept v_taped v_begins v_ends v_sort v_value v_isWrong v_itemMany v_farmMany v_farmCells v_now_45 v_aside_46 v_found v_down v_along)) X hV hl.1 (c_M_hits D h h_now h_kept h_aside h_found h_down h_along h_parts h_gone h_tape h_kinds h_items h_widths h_sizes h_numbers h_moved v_isKept v_taped v_begins v_ends v_sort v_value v_isWrong v_itemMany v_farmMany v_farmCells v_now v_aside v_down v_along x1 hc_47) fk_M_hits gw_1160 rfl 0 9 rfl rfl [0, 1, 2, 4, 5] [some 0, some 1, some 2, none, some 3, some 4] rfl rfl ⟨rfl, rfl, rfl, rfl, rfl, rfl, rfl, rfl, rfl, rfl, rfl, rfl, rfl, rfl, rfl, rfl, trivial⟩ rfl rfl rfl d_M_save_18 (fun H locs hV => ?_)
    obtain ⟨r_48, hc_49, hf⟩ := kb1_some hf
    refine k_csi (w1 := (wd_M_bits D)) (r := r_48) (ws' := (wd_M_save D h h_now h_kept h_aside h_found h_down h_along h_parts h_gone h_tape h_kinds h_items h_widths h_sizes h_numbers h_moved v_isKept v_taped v_begins v_ends v_sort v_value v_isWrong v_itemMany v_farmMany v_farmCells v_now_45 v_aside_46 v_found v_down v_along)) X hV hl.1 (c_M_bits D r_44 hc_49) fk_M_bits gw_1180 rfl [] [none, none, none, none, none, none] rfl rfl ⟨rfl, rfl, rfl, rfl, rfl, rfl, trivial⟩ rfl rfl rfl d_M_save_21 (fun H locs hV => ?_)
    refine lv_istore_n (lv' := [(3, .int r_48), (2, .int (-1 : Int32)), (0, .ref h), (1, .int x1)]) hx hb d_M_save_24 rfl hl (by decide) rfl (fun ls hl => ?_)
    refine lv_iconst (v := 0) hx hb d_M_save_25 ic_0 ?_
    refine lv_istore (lv' := [(4, .int (0 : Int32)), (3, .int r_48), (2, .int (-1 : Int32)), (0, .ref h), (1, .int x1)]) hx hb d_M_save_26 hl (by decide) rfl (fun ls hl => ?_)
    exact tl_M_save_1 X _ _ _ _ _ _ hf _ _ _ hV (lv_sub hl [3, 4, 2, 1, 0] rfl)
  replace hf := kifp c_43 hf
  refine lv_aload_n hx hb d_M_save_7 rfl (lv_at hl 0 rfl) ?_
  refine k_ldc (v := (-1000000001)) X gw_973 d_M_save_8 ?_
  obtain ⟨r_50, v_found_51, hc_52, hf⟩ := kb2_some hf
  refine k_cvi (w1 := (wd_M_finding D h h_now h_kept h_aside h_found h_down h_along h_parts h_gone h_tape h_kinds h_items h_widths h_sizes h_numbers h_moved v_isKept v_taped v_begins v_ends v_sort v_value v_isWrong v_itemMany v_farmMany v_farmCells v_found_51)) (r := r_50) (ws' := (wd_M_save D h h_now h_kept h_aside h_found h_down h_along h_parts h_gone h_tape h_kinds h_items h_widths h_sizes h_numbers h_moved v_isKept v_taped v_begins v_ends v_sort v_value v_isWrong v_itemMany v_farmMany v_farmCells v_now v_aside v_found_51 v_down v_along)) X hV hl.1 (c_M_finding D h h_now h_kept h_aside h_found h_down h_along h_parts h_gone h_tape h_kinds h_items h_widths h_sizes h_numbers h_moved v_isKept v_taped v_begins v_ends v_sort v_value v_isWrong v_itemMany v_farmMany v_farmCells v_found (-1000000001 : Int32) hc_52) fk_M_finding gw_974 rfl 0 9 rfl rfl [0, 3] [some 0, none, none, some 1, none, none] rfl rfl ⟨rfl, rfl, rfl, rfl, rfl, rfl, rfl, rfl, rfl, rfl, trivial⟩ rfl rfl rfl d_M_save_10 (fun H locs hV => ?_)
  have e_ := Option.some.inj hf
  subst e_
  exact k_iret X rfl hV rfl d_M_save_13
set_option maxHeartbeats 2000000 in
set_option maxRecDepth 20000 in
theorem c_M_save {l : Launch} (D : kD) (h : Nat) (h_now : Nat) (h_kept : Nat) (h_aside : Nat) (h_found : Nat) (h_down : Nat) (h_along : Nat) (h_parts : Nat) (h_gone : Nat) (h_tape : Nat) (h_kinds : Nat) (h_items : Nat) (h_widths : Nat) (h_sizes : Nat) (h_numbers : Nat) (h_moved : Nat) (v_isKept : Int32) (v_taped : Int32) (v_begins : Int32) (v_ends : Int32) (v_sort : Int32) (v_value : Int32) (v_isWrong : Int32) (v_itemMany : Int32) (v_farmMany : Int32) (v_farmCells : Int64) (v_now : Nat → Int32) (v_aside : Nat → Int32) (v_found : Nat → Int32) (v_down : Nat → Int32) (v_along : Nat → Int32) (x1 : Int32) {out : Int32 × (Nat → Int32) × (Nat → Int32) × (Nat → Int32)} (hf : f_M_save v_now v_aside v_found v_down v_along x1 = some out) : kMi l D y_M_save b_M_save 6 (some .int) { frames := 7, cells := 0, slots := 0, locals := 170 } [.ref h, .int x1] (wd_M_save D h h_now h_kept h_aside h_found h_down h_along h_parts h_gone h_tape h_kinds h_items h_widths h_sizes h_numbers h_moved v_isKept v_taped v_begins v_ends v_sort v_value v_isWrong v_itemMany v_farmMany v_farmCells v_now v_aside v_found v_down v_along) (wd_M_save D h h_now h_kept h_aside h_found h_down h_along h_parts h_gone h_tape h_kinds h_items h_widths h_sizes h_numbers h_moved v_isKept v_taped v_begins v_ends v_sort v_value v_isWrong v_itemMany v_farmMany v_farmCells out.2.1 out.2.2.1 out.2.2.2 v_down v_along) out.1 :=
  kMi_of (own := "MountainFarmsModel") (plainFor_of_name (by decide)) rfl rfl (fun p e s m args below meth c ls X hV hl => t_M_save X hf hV hl)
set_option maxHeartbeats 2000000 in
set_option maxRecDepth 20000 in
theorem t_M_volume {l : Launch} {p : Program} {e : Env} {s : State} {m : MethodId} {args : Array Value} {below : List Frame} {meth : Method} {c : Code} {D : kD} {wc0 : va_W} {h : Nat} {h_now : Nat} {h_kept : Nat} {h_aside : Nat} {h_found : Nat} {h_down : Nat} {h_along : Nat} {h_parts : Nat} {h_gone : Nat} {h_tape : Nat} {h_kinds : Nat} {h_items : Nat} {h_widths : Nat} {h_sizes : Nat} {h_numbers : Nat} {h_moved : Nat} {v_isKept : Int32} {v_taped : Int32} {v_begins : Int32} {v_ends : Int32} {v_sort : Int32} {v_value : Int32} {v_isWrong : Int32} {v_itemMany : Int32} {v_farmMany : Int32} {v_farmCells : Int64} {v_now : Nat → Int32} {v_found : Nat → Int32} {x1 : Int32} {out : Int32 × (Nat → Int32) × (Nat → Int32)} (X : kX p m meth c s args D (va_A wc0 s.heap.size) b_M_volume "MountainFarmsModel" 2 (some .int)) (hf : f_M_volume v_now v_found x1 = some out) {H : Heap} {locs : List Loc} (hV : kV D (va_A wc0 s.heap.size) s (wd_M_volume D h h_now h_kept h_aside h_found h_down h_along h_parts h_gone h_tape h_kinds h_items h_widths h_sizes h_numbers h_moved v_isKept v_taped v_begins v_ends v_sort v_value v_isWrong v_itemMany v_farmMany v_farmCells v_now v_found) H locs) {ls : Array Slot} (hl : lv_has ls 2 [(0, .ref h), (1, .int x1)]) : W p l e { frames := 2, cells := 0, slots := 0, locals := 42 } s m args below meth c H locs 0 0 (MQ below (kQi D wc0 (wd_M_volume D h h_now h_kept h_aside h_found h_down h_along h_parts h_gone h_tape h_kinds h_items h_widths h_sizes h_numbers h_moved v_isKept v_taped v_begins v_ends v_sort v_value v_isWrong v_itemMany v_farmMany v_farmCells out.2.1 out.2.2) s.heap.size out.1) args s 0 0 (va_A wc0 s.heap.size)) (F0 m 0 ls []) := by
  unfold f_M_volume at hf
  obtain ⟨hx, hb, -⟩ := id X
  refine lv_iload_n hx hb d_M_volume_0 rfl (lv_at hl 1 rfl) ?_
  obtain ⟨r_10, hc_11, hf⟩ := kb1_some hf
  refine k_csi (w1 := (wd_M_isVolume D)) (r := r_10) (ws' := (wd_M_volume D h h_now h_kept h_aside h_found h_down h_along h_parts h_gone h_tape h_kinds h_items h_widths h_sizes h_numbers h_moved v_isKept v_taped v_begins v_ends v_sort v_value v_isWrong v_itemMany v_farmMany v_farmCells v_now v_found)) X hV hl.1 (c_M_isVolume D x1 hc_11) fk_M_isVolume gw_1138 rfl [] [none, none, none] rfl rfl ⟨rfl, rfl, rfl, trivial⟩ rfl rfl rfl d_M_volume_1 (fun H locs hV => ?_)
  refine lv_if_eq (tgt := 16) hx hb d_M_volume_4 (by decide) (fun c_12 => ?_) (fun c_12 => ?_)
  · replace hf := kifp c_12 hf
    refine lv_aload_n hx hb d_M_volume_16 rfl (lv_at hl 0 rfl) ?_
    refine k_ldc (v := (-1000000001)) X gw_973 d_M_volume_17 ?_
    obtain ⟨r_13, v_found_14, hc_15, hf⟩ := kb2_some hf
    refine k_cvi (w1 := (wd_M_finding D h h_now h_kept h_aside h_found h_down h_along h_parts h_gone h_tape h_kinds h_items h_widths h_sizes h_numbers h_moved v_isKept v_taped v_begins v_ends v_sort v_value v_isWrong v_itemMany v_farmMany v_farmCells v_found_14)) (r := r_13) (ws' := (wd_M_volume D h h_now h_kept h_aside h_found h_down h_along h_parts h_gone h_tape h_kinds h_items h_widths h_sizes h_numbers h_moved v_isKept v_taped v_begins v_ends v_sort v_value v_isWrong v_itemMany v_farmMany v_farmCells v_now v_found_14)) X hV hl.1 (c_M_finding D h h_now h_kept h_aside h_found h_down h_along h_parts h_gone h_tape h_kinds h_items h_widths h_sizes h_numbers h_moved v_isKept v_taped v_begins v_ends v_sort v_value v_isWrong v_itemMany v_farmMany v_farmCells v_found (-1000000001 : Int32) hc_15) fk_M_finding gw_974 rfl 0 9 rfl rfl [0, 2] [some 0, none, some 1] rfl rfl ⟨rfl, rfl, rfl, rfl, rfl, rfl, rfl, trivial⟩ rfl rfl rfl d_M_volume_19 (fun H locs hV => ?_)
    have e_ := Option.some.inj hf
    subst e_
    exact k_iret X rfl hV rfl d_M_volume_22
  replace hf := kifn c_12 hf
  refine lv_aload_n hx hb d_M_volume_7 rfl (lv_at hl 0 rfl) ?_
  refine lv_iconst (v := 5) hx hb d_M_volume_8 ic_5 ?_
  refine lv_iload_n hx hb d_M_volume_9 rfl (lv_at hl 1 rfl) ?_
  obtain ⟨r_16, v_now_17, hc_18, hf⟩ := kb2_some hf
  refine k_cvi (w1 := (wd_M_become D h h_now h_kept h_aside h_found h_down h_along h_parts h_gone h_tape h_kinds h_items h_widths h_sizes h_numbers h_moved v_isKept v_taped v_begins v_ends v_sort v_value v_isWrong v_itemMany v_farmMany v_farmCells v_now_17)) (r := r_16) (ws' := (wd_M_volume D h h_now h_kept h_aside h_found h_down h_along h_parts h_gone h_tape h_kinds h_items h_widths h_sizes h_numbers h_moved v_isKept v_taped v_begins v_ends v_sort v_value v_isWrong v_itemMany v_farmMany v_farmCells v_now_17 v_found)) X hV hl.1 (c_M_become D h h_now h_kept h_aside h_found h_down h_along h_parts h_gone h_tape h_kinds h_items h_widths h_sizes h_numbers h_moved v_isKept v_taped v_begins v_ends v_sort v_value v_isWrong v_itemMany v_farmMany v_farmCells v_now (5 : Int32) x1 hc_18) fk_M_become gw_978 rfl 0 9 rfl rfl [0, 1] [some 0, some 1, none] rfl rfl ⟨rfl, rfl, rfl, rfl, rfl, rfl, rfl, trivial⟩ rfl rfl rfl d_M_volume_10 (fun H locs hV => ?_)
  refine lv_goto (tgt := 22) hx hb d_M_volume_13 (by decide) ?_
  have e_ := Option.some.inj hf
  subst e_
  exact k_iret X rfl hV rfl d_M_volume_22
set_option maxHeartbeats 2000000 in
set_option maxRecDepth 20000 in
theorem c_M_volume {l : Launch} (D : kD) (h : Nat) (h_now : Nat) (h_kept : Nat) (h_aside : Nat) (h_found : Nat) (h_down : Nat) (h_along : Nat) (h_parts : Nat) (h_gone : Nat) (h_tape : Nat) (h_kinds : Nat) (h_items : Nat) (h_widths : Nat) (h_sizes : Nat) (h_numbers : Nat) (h_moved : Nat) (v_isKept : Int32) (v_taped : Int32) (v_begins : Int32) (v_ends : Int32) (v_sort : Int32) (v_value : Int32) (v_isWrong : Int32) (v_itemMany : Int32) (v_farmMany : Int32) (v_farmCells : Int64) (v_now : Nat → Int32) (v_found : Nat → Int32) (x1 : Int32) {out : Int32 × (Nat → Int32) × (Nat → Int32)} (hf : f_M_volume v_now v_found x1 = some out) : kMi l D y_M_volume b_M_volume 2 (some .int) { frames := 2, cells := 0, slots := 0, locals := 42 } [.ref h, .int x1] (wd_M_volume D h h_now h_kept h_aside h_found h_down h_along h_parts h_gone h_tape h_kinds h_items h_widths h_sizes h_numbers h_moved v_isKept v_taped v_begins v_ends v_sort v_value v_isWrong v_itemMany v_farmMany v_farmCells v_now v_found) (wd_M_volume D h h_now h_kept h_aside h_found h_down h_along h_parts h_gone h_tape h_kinds h_items h_widths h_sizes h_numbers h_moved v_isKept v_taped v_begins v_ends v_sort v_value v_isWrong v_itemMany v_farmMany v_farmCells out.2.1 out.2.2) out.1 :=
  kMi_of (own := "MountainFarmsModel") (plainFor_of_name (by decide)) rfl rfl (fun p e s m args below meth c ls X hV hl => t_M_volume X hf hV hl)
set_option maxHeartbeats 2000000 in
set_option maxRecDepth 20000 in
theorem t_M_pigs_1 {l : Launch} {p : Program} {e : Env} {s : State} {m : MethodId} {args : Array Value} {below : List Frame} {meth : Method} {c : Code} {D : kD} {wc0 : va_W} {h : Nat} {h_now : Nat} {h_kept : Nat} {h_aside : Nat} {h_found : Nat} {h_down : Nat} {h_along : Nat} {h_parts : Nat} {h_gone : Nat} {h_tape : Nat} {h_kinds : Nat} {h_items : Nat} {h_widths : Nat} {h_sizes : Nat} {h_numbers : Nat} {h_moved : Nat} {v_isKept : Int32} {v_taped : Int32} {v_begins : Int32} {v_ends : Int32} {v_sort : Int32} {v_value : Int32} {v_isWrong : Int32} {v_itemMany : Int32} {v_farmMany : Int32} {v_farmCells : Int64} {v_now : Nat → Int32} {s0 : Int32} {out : Int32 × (Nat → Int32)} (X : kX p m meth c s args D (va_A wc0 s.heap.size) b_M_pigs "MountainFarmsModel" 3 (some .int)) (hf : f_M_pigs_1 s0 v_now = some out) {H : Heap} {locs : List Loc} (hV : kV D (va_A wc0 s.heap.size) s (wd_M_pigs D h h_now h_kept h_aside h_found h_down h_along h_parts h_gone h_tape h_kinds h_items h_widths h_sizes h_numbers h_moved v_isKept v_taped v_begins v_ends v_sort v_value v_isWrong v_itemMany v_farmMany v_farmCells v_now) H locs) {ls : Array Slot} (hl : lv_has ls 3 [(0, .ref h)]) : W p l e { frames := 1, cells := 0, slots := 0, locals := 23 } s m args below meth c H locs 0 0 (MQ below (kQi D wc0 (wd_M_pigs D h h_now h_kept h_aside h_found h_down h_along h_parts h_gone h_tape h_kinds h_items h_widths h_sizes h_numbers h_moved v_isKept v_taped v_begins v_ends v_sort v_value v_isWrong v_itemMany v_farmMany v_farmCells out.2) s.heap.size out.1) args s 0 0 (va_A wc0 s.heap.size)) (F0 m 9 ls [.int s0]) := by
  unfold f_M_pigs_1 at hf
  obtain ⟨hx, hb, -⟩ := id X
  refine lv_istore_n (lv' := [(2, .int s0), (0, .ref h)]) hx hb d_M_pigs_9 rfl hl (by decide) rfl (fun ls hl => ?_)
  refine lv_aload_n hx hb d_M_pigs_10 rfl (lv_at hl 1 rfl) ?_
  refine lv_bipush (v := 9) hx hb d_M_pigs_11 bp_9 ?_
  refine lv_iload_n hx hb d_M_pigs_13 rfl (lv_at hl 0 rfl) ?_
  obtain ⟨r_7, v_now_8, hc_9, hf⟩ := kb2_some hf
  refine k_cvi (w1 := (wd_M_become D h h_now h_kept h_aside h_found h_down h_along h_parts h_gone h_tape h_kinds h_items h_widths h_sizes h_numbers h_moved v_isKept v_taped v_begins v_ends v_sort v_value v_isWrong v_itemMany v_farmMany v_farmCells v_now_8)) (r := r_7) (ws' := (wd_M_pigs D h h_now h_kept h_aside h_found h_down h_along h_parts h_gone h_tape h_kinds h_items h_widths h_sizes h_numbers h_moved v_isKept v_taped v_begins v_ends v_sort v_value v_isWrong v_itemMany v_farmMany v_farmCells v_now_8)) X hV hl.1 (c_M_become D h h_now h_kept h_aside h_found h_down h_along h_parts h_gone h_tape h_kinds h_items h_widths h_sizes h_numbers h_moved v_isKept v_taped v_begins v_ends v_sort v_value v_isWrong v_itemMany v_farmMany v_farmCells v_now (9 : Int32) s0 hc_9) fk_M_become gw_978 rfl 0 9 rfl rfl [0, 1] [some 0, some 1] rfl rfl ⟨rfl, rfl, rfl, rfl, rfl, rfl, trivial⟩ rfl rfl rfl d_M_pigs_14 (fun H locs hV => ?_)
  refine lv_iload_n hx hb d_M_pigs_17 rfl (lv_at hl 0 rfl) ?_
  refine lv_icmp_ne (tgt := 25) hx hb d_M_pigs_18 (by decide) (fun c_10 => ?_) (fun c_10 => ?_)
  · replace hf := kifn c_10 hf
    refine lv_iconst (v := 1) hx hb d_M_pigs_25 ic_1 ?_
    have e_ := Option.some.inj hf
    subst e_
    exact k_iret X rfl hV rfl d_M_pigs_26
  replace hf := kifp c_10 hf
  refine lv_iconst (v := 0) hx hb d_M_pigs_21 ic_0 ?_
  refine lv_goto (tgt := 26) hx hb d_M_pigs_22 (by decide) ?_
  have e_ := Option.some.inj hf
  subst e_
  exact k_iret X rfl hV rfl d_M_pigs_26
set_option maxHeartbeats 2000000 in
set_option maxRecDepth 20000 in
theorem t_M_pigs {l : Launch} {p : Program} {e : Env} {s : State} {m : MethodId} {args : Array Value} {below : List Frame} {meth : Method} {c : Code} {D : kD} {wc0 : va_W} {h : Nat} {h_now : Nat} {h_kept : Nat} {h_aside : Nat} {h_found : Nat} {h_down : Nat} {h_along : Nat} {h_parts : Nat} {h_gone : Nat} {h_tape : Nat} {h_kinds : Nat} {h_items : Nat} {h_widths : Nat} {h_sizes : Nat} {h_numbers : Nat} {h_moved : Nat} {v_isKept : Int32} {v_taped : Int32} {v_begins : Int32} {v_ends : Int32} {v_sort : Int32} {v_value : Int32} {v_isWrong : Int32} {v_itemMany : Int32} {v_farmMany : Int32} {v_farmCells : Int64} {v_now : Nat → Int32} {x1 : Int32} {out : Int32 × (Nat → Int32)} (X : kX p m meth c s args D (va_A wc0 s.heap.size) b_M_pigs "MountainFarmsModel" 3 (some .int)) (hf : f_M_pigs v_now x1 = some out) {H : Heap} {locs : List Loc} (hV : kV D (va_A wc0 s.heap.size) s (wd_M_pigs D h h_now h_kept h_aside h_found h_down h_along h_parts h_gone h_tape h_kinds h_items h_widths h_sizes h_numbers h_moved v_isKept v_taped v_begins v_ends v_sort v_value v_isWrong v_itemMany v_farmMany v_farmCells v_now) H locs) {ls : Array Slot} (hl : lv_has ls 3 [(0, .ref h), (1, .int x1)]) : W p l e { frames := 1, cells := 0, slots := 0, locals := 23 } s m args below meth c H locs 0 0 (MQ below (kQi D wc0 (wd_M_pigs D h h_now h_kept h_aside h_found h_down h_along h_parts h_gone h_tape h_kinds h_items h_widths h_sizes h_numbers h_moved v_isKept v_taped v_begins v_ends v_sort v_value v_isWrong v_itemMany v_farmMany v_farmCells out.2) s.heap.size out.1) args s 0 0 (va_A wc0 s.heap.size)) (F0 m 0 ls []) := by
  unfold f_M_pigs at hf
  obtain ⟨hx, hb, -⟩ := id X
  refine lv_iload_n hx hb d_M_pigs_0 rfl (lv_at hl 1 rfl) ?_
  refine lv_if_eq (tgt := 8) hx hb d_M_pigs_1 (by decide) (fun c_6 => ?_) (fun c_6 => ?_)
  · replace hf := kifp c_6 hf
    refine lv_iconst (v := 0) hx hb d_M_pigs_8 ic_0 ?_
    exact t_M_pigs_1 X hf hV (lv_sub hl [0] rfl)
  replace hf := kifn c_6 hf
  refine lv_iconst (v := 1) hx hb d_M_pigs_4 ic_1 ?_
  refine lv_goto (tgt := 9) hx hb d_M_pigs_5 (by decide) ?_
  exact t_M_pigs_1 X hf hV (lv_sub hl [0] rfl)
set_option maxHeartbeats 2000000 in
set_option maxRecDepth 20000 in
theorem c_M_pigs {l : Launch} (D : kD) (h : Nat) (h_now : Nat) (h_kept : Nat) (h_aside : Nat) (h_found : Nat) (h_down : Nat) (h_along : Nat) (h_parts : Nat) (h_gone : Nat) (h_tape : Nat) (h_kinds : Nat) (h_items : Nat) (h_widths : Nat) (h_sizes : Nat) (h_numbers : Nat) (h_moved : Nat) (v_isKept : Int32) (v_taped : Int32) (v_begins : Int32) (v_ends : Int32) (v_sort : Int32) (v_value : Int32) (v_isWrong : Int32) (v_itemMany : Int32) (v_farmMany : Int32) (v_farmCells : Int64) (v_now : Nat → Int32) (x1 : Int32) {out : Int32 × (Nat → Int32)} (hf : f_M_pigs v_now x1 = some out) : kMi l D y_M_pigs b_M_pigs 3 (some .int) { frames := 1, cells := 0, slots := 0, locals := 23 } [.ref h, .int x1] (wd_M_pigs D h h_now h_kept h_aside h_found h_down h_along h_parts h_gone h_tape h_kinds h_items h_widths h_sizes h_numbers h_moved v_isKept v_taped v_begins v_ends v_sort v_value v_isWrong v_itemMany v_farmMany v_farmCells v_now) (wd_M_pigs D h h_now h_kept h_aside h_found h_down h_along h_parts h_gone h_tape h_kinds h_items h_widths h_sizes h_numbers h_moved v_isKept v_taped v_begins v_ends v_sort v_value v_isWrong v_itemMany v_farmMany v_farmCells out.2) out.1 :=
  kMi_of (own := "MountainFarmsModel") (plainFor_of_name (by decide)) rfl rfl (fun p e s m args below meth c ls X hV hl => t_M_pigs X hf hV hl)
set_option maxHeartbeats 2000000 in
set_option maxRecDepth 20000 in
theorem t_M_isTooLate {l : Launch} {p : Program} {e : Env} {s : State} {m : MethodId} {args : Array Value} {below : List Frame} {meth : Method} {c : Code} {D : kD} {wc0 : va_W} {h : Nat} {h_now : Nat} {h_kept : Nat} {h_aside : Nat} {h_found : Nat} {h_down : Nat} {h_along : Nat} {h_parts : Nat} {h_gone : Nat} {h_tape : Nat} {h_kinds : Nat} {h_items : Nat} {h_widths : Nat} {h_sizes : Nat} {h_numbers : Nat} {h_moved : Nat} {v_isKept : Int32} {v_taped : Int32} {v_begins : Int32} {v_ends : Int32} {v_sort : Int32} {v_value : Int32} {v_isWrong : Int32} {v_itemMany : Int32} {v_farmMany : Int32} {v_farmCells : Int64} {v_now : Nat → Int32} {x1 : Int32} {out : Int32} (X : kX p m meth c s args D (va_A wc0 s.heap.size) b_M_isTooLate "MountainFarmsModel" 2 (some .boolean)) (hf : f_M_isTooLate v_now x1 = some out) {H : Heap} {locs : List Loc} (hV : kV D (va_A wc0 s.heap.size) s (wd_M_isTooLate D h h_now h_kept h_aside h_found h_down h_along h_parts h_gone h_tape h_kinds h_items h_widths h_sizes h_numbers h_moved v_isKept v_taped v_begins v_ends v_sort v_value v_isWrong v_itemMany v_farmMany v_farmCells v_now) H locs) {ls : Array Slot} (hl : lv_has ls 2 [(0, .ref h), (1, .int x1)]) : W p l e { frames := 0, cells := 0, slots := 0, locals := 0 } s m args below meth c H locs 0 0 (MQ below (kQi D wc0 (wd_M_isTooLate D h h_now h_kept h_aside h_found h_down h_along h_parts h_gone h_tape h_kinds h_items h_widths h_sizes h_numbers h_moved v_isKept v_taped v_begins v_ends v_sort v_value v_isWrong v_itemMany v_farmMany v_farmCells v_now) s.heap.size out) args s 0 0 (va_A wc0 s.heap.size)) (F0 m 0 ls []) := by
  unfold f_M_isTooLate at hf
  obtain ⟨hx, hb, -⟩ := id X
  refine lv_aload_n hx hb d_M_isTooLate_0 rfl (lv_at hl 0 rfl) ?_
  refine k_get X hV 0 9 0 rfl rfl rfl gw_887 rfl rfl d_M_isTooLate_1 ?_
  refine lv_iconst (v := 1) hx hb d_M_isTooLate_4 ic_1 ?_
  refine k_iald X hV 1 rfl kin_1_218 kln_1 d_M_isTooLate_5 ?_
  refine lv_iload_n hx hb d_M_isTooLate_6 rfl (lv_at hl 1 rfl) ?_
  refine lv_iadd hx hb d_M_isTooLate_7 ?_
  refine lv_sipush (v := 9999) hx hb d_M_isTooLate_8 sp_9999 ?_
  refine lv_icmp_le (tgt := 18) hx hb d_M_isTooLate_11 (by decide) (fun c_2 => ?_) (fun c_2 => ?_)
  · replace hf := kifp c_2 hf
    refine lv_iconst (v := 0) hx hb d_M_isTooLate_18 ic_0 ?_
    have e_ := Option.some.inj hf
    subst e_
    exact k_iret (v := 0) X rfl hV nb0 d_M_isTooLate_19
  replace hf := kifn c_2 hf
  refine lv_iconst (v := 1) hx hb d_M_isTooLate_14 ic_1 ?_
  refine lv_goto (tgt := 19) hx hb d_M_isTooLate_15 (by decide) ?_
  have e_ := Option.some.inj hf
  subst e_
  exact k_iret (v := 1) X rfl hV nb1 d_M_isTooLate_19
set_option maxHeartbeats 2000000 in
set_option maxRecDepth 20000 in
theorem c_M_isTooLate {l : Launch} (D : kD) (h : Nat) (h_now : Nat) (h_kept : Nat) (h_aside : Nat) (h_found : Nat) (h_down : Nat) (h_along : Nat) (h_parts : Nat) (h_gone : Nat) (h_tape : Nat) (h_kinds : Nat) (h_items : Nat) (h_widths : Nat) (h_sizes : Nat) (h_numbers : Nat) (h_moved : Nat) (v_isKept : Int32) (v_taped : Int32) (v_begins : Int32) (v_ends : Int32) (v_sort : Int32) (v_value : Int32) (v_isWrong : Int32) (v_itemMany : Int32) (v_farmMany : Int32) (v_farmCells : Int64) (v_now : Nat → Int32) (x1 : Int32) {out : Int32} (hf : f_M_isTooLate v_now x1 = some out) : kMi l D y_M_isTooLate b_M_isTooLate 2 (some .boolean) { frames := 0, cells := 0, slots := 0, locals := 0 } [.ref h, .int x1] (wd_M_isTooLate D h h_now h_kept h_aside h_found h_down h_along h_parts h_gone h_tape h_kinds h_items h_widths h_sizes h_numbers h_moved v_isKept v_taped v_begins v_ends v_sort v_value v_isWrong v_itemMany v_farmMany v_farmCells v_now) (wd_M_isTooLate D h h_now h_kept h_aside h_found h_down h_along h_parts h_gone h_tape h_kinds h_items h_widths h_sizes h_numbers h_moved v_isKept v_taped v_begins v_ends v_sort v_value v_isWrong v_itemMany v_farmMany v_farmCells v_now) out :=
  kMi_of (own := "MountainFarmsModel") (plainFor_of_name (by decide)) rfl rfl (fun p e s m args below meth c ls X hV hl => t_M_isTooLate X hf hV hl)
set_option maxHeartbeats 2000000 in
set_option maxRecDepth 20000 in
theorem t_M_drawn {l : Launch} {p : Program} {e : Env} {s : State} {m : MethodId} {args : Array Value} {below : List Frame} {meth : Method} {c : Code} {D : kD} {wc0 : va_W} {h : Nat} {h_now : Nat} {h_kept : Nat} {h_aside : Nat} {h_found : Nat} {h_down : Nat} {h_along : Nat} {h_parts : Nat} {h_gone : Nat} {h_tape : Nat} {h_kinds : Nat} {h_items : Nat} {h_widths : Nat} {h_sizes : Nat} {h_numbers : Nat} {h_moved : Nat} {v_isKept : Int32} {v_taped : Int32} {v_begins : Int32} {v_ends : Int32} {v_sort : Int32} {v_value : Int32} {v_isWrong : Int32} {v_itemMany : Int32} {v_farmMany : Int32} {v_farmCells : Int64} {v_now : Nat → Int32} {x1 : Int32} {out : Int32 × (Nat → Int32)} (X : kX p m meth c s args D (va_A wc0 s.heap.size) b_M_drawn "MountainFarmsModel" 2 (some .int)) (hf : f_M_drawn v_now x1 = some out) {H : Heap} {locs : List Loc} (hV : kV D (va_A wc0 s.heap.size) s (wd_M_drawn D h h_now h_kept h_aside h_found h_down h_along h_parts h_gone h_tape h_kinds h_items h_widths h_sizes h_numbers h_moved v_isKept v_taped v_begins v_ends v_sort v_value v_isWrong v_itemMany v_farmMany v_farmCells v_now) H locs) {ls : Array Slot} (hl : lv_has ls 2 [(0, .ref h), (1, .int x1)]) : W p l e { frames := 0, cells := 0, slots := 0, locals := 0 } s m args below meth c H locs 0 0 (MQ below (kQi D wc0 (wd_M_drawn D h h_now h_kept h_aside h_found h_down h_along h_parts h_gone h_tape h_kinds h_items h_widths h_sizes h_numbers h_moved v_isKept v_taped v_begins v_ends v_sort v_value v_isWrong v_itemMany v_farmMany v_farmCells out.2) s.heap.size out.1) args s 0 0 (va_A wc0 s.heap.size)) (F0 m 0 ls []) := by
  unfold f_M_drawn at hf
  obtain ⟨hx, hb, -⟩ := id X
  refine lv_aload_n hx hb d_M_drawn_0 rfl (lv_at hl 0 rfl) ?_
  refine k_get X hV 0 9 0 rfl rfl rfl gw_887 rfl rfl d_M_drawn_1 ?_
  refine lv_iconst (v := 0) hx hb d_M_drawn_4 ic_0 ?_
  refine lv_aload_n hx hb d_M_drawn_5 rfl (lv_at hl 0 rfl) ?_
  refine k_get X hV 0 9 0 rfl rfl rfl gw_887 rfl rfl d_M_drawn_6 ?_
  refine lv_iconst (v := 0) hx hb d_M_drawn_9 ic_0 ?_
  refine k_iald X hV 1 rfl kin_0_218 kln_0 d_M_drawn_10 ?_
  refine k_ldc (v := 1103515245) X gw_1211 d_M_drawn_11 ?_
  refine lv_imul hx hb d_M_drawn_13 ?_
  refine lv_sipush (v := 12345) hx hb d_M_drawn_14 sp_12345 ?_
  refine lv_iadd hx hb d_M_drawn_17 ?_
  refine k_iast (ws' := (wd_M_drawn D h h_now h_kept h_aside h_found h_down h_along h_parts h_gone h_tape h_kinds h_items h_widths h_sizes h_numbers h_moved v_isKept v_taped v_begins v_ends v_sort v_value v_isWrong v_itemMany v_farmMany v_farmCells (upd v_now 0 (((v_now 0) * (1103515245 : Int32)) + (12345 : Int32))))) X hV 1 rfl kin_0_218 kln_0 rfl d_M_drawn_18 (fun H locs hV => ?_)
  refine lv_aload_n hx hb d_M_drawn_19 rfl (lv_at hl 0 rfl) ?_
  refine k_get X hV 0 9 0 rfl rfl rfl gw_887 rfl rfl d_M_drawn_20 ?_
  refine lv_iconst (v := 0) hx hb d_M_drawn_23 ic_0 ?_
  refine k_iald X hV 1 rfl kin_0_218 kln_0 d_M_drawn_24 ?_
  refine lv_bipush (v := 8) hx hb d_M_drawn_25 bp_8 ?_
  refine lv_iushr hx hb d_M_drawn_27 rfl ?_
  refine lv_iload_n hx hb d_M_drawn_28 rfl (lv_at hl 1 rfl) ?_
  obtain ⟨h_2, hf⟩ := kchk hf
  refine lv_irem hx hb d_M_drawn_29 h_2 ?_
  have e_ := Option.some.inj hf
  subst e_
  exact k_iret X rfl hV rfl d_M_drawn_30
set_option maxHeartbeats 2000000 in
set_option maxRecDepth 20000 in
theorem c_M_drawn {l : Launch} (D : kD) (h : Nat) (h_now : Nat) (h_kept : Nat) (h_aside : Nat) (h_found : Nat) (h_down : Nat) (h_along : Nat) (h_parts : Nat) (h_gone : Nat) (h_tape : Nat) (h_kinds : Nat) (h_items : Nat) (h_widths : Nat) (h_sizes : Nat) (h_numbers : Nat) (h_moved : Nat) (v_isKept : Int32) (v_taped : Int32) (v_begins : Int32) (v_ends : Int32) (v_sort : Int32) (v_value : Int32) (v_isWrong : Int32) (v_itemMany : Int32) (v_farmMany : Int32) (v_farmCells : Int64) (v_now : Nat → Int32) (x1 : Int32) {out : Int32 × (Nat → Int32)} (hf : f_M_drawn v_now x1 = some out) : kMi l D y_M_drawn b_M_drawn 2 (some .int) { frames := 0, cells := 0, slots := 0, locals := 0 } [.ref h, .int x1] (wd_M_drawn D h h_now h_kept h_aside h_found h_down h_along h_parts h_gone h_tape h_kinds h_items h_widths h_sizes h_numbers h_moved v_isKept v_taped v_begins v_ends v_sort v_value v_isWrong v_itemMany v_farmMany v_farmCells v_now) (wd_M_drawn D h h_now h_kept h_aside h_found h_down h_along h_parts h_gone h_tape h_kinds h_items h_widths h_sizes h_numbers h_moved v_isKept v_taped v_begins v_ends v_sort v_value v_isWrong v_itemMany v_farmMany v_farmCells out.2) out.1 :=
  kMi_of (own := "MountainFarmsModel") (plainFor_of_name (by decide)) rfl rfl (fun p e s m args below meth c ls X hV hl => t_M_drawn X hf hV hl)
set_option maxHeartbeats 2000000 in
set_option maxRecDepth 20000 in
theorem tb_M_comesOut_3 {l : Launch} {p : Program} {e : Env} {s : State} {m : MethodId} {args : Array Value} {below : List Frame} {meth : Method} {c : Code} {D : kD} {wc0 : va_W} {h : Nat} {h_now : Nat} {h_kept : Nat} {h_aside : Nat} {h_found : Nat} {h_down : Nat} {h_along : Nat} {h_parts : Nat} {h_gone : Nat} {h_tape : Nat} {h_kinds : Nat} {h_items : Nat} {h_widths : Nat} {h_sizes : Nat} {h_numbers : Nat} {h_moved : Nat} {v_isKept : Int32} {v_taped : Int32} {v_begins : Int32} {v_ends : Int32} {v_sort : Int32} {v_value : Int32} {v_isWrong : Int32} {v_itemMany : Int32} {v_farmMany : Int32} {v_farmCells : Int64} {v_now : Nat → Int32} {v_down : Nat → Int32} {v_along : Nat → Int32} {x1 : Int64} {x3 : Int32} {rec3 : Int32 → (Nat → Int32) → Option ((Nat → Int32))} {out : (Nat → Int32)} (X : kX p m meth c s args D (va_A wc0 s.heap.size) b_M_comesOut "MountainFarmsModel" 4 none) (hrec3 : ∀ (x3 : Int32) (v_now : Nat → Int32), rec3 x3 v_now = some out → ∀ (H : Heap) (locs : List Loc) (ls : Array Slot), kV D (va_A wc0 s.heap.size) s (wd_M_comesOut D h h_now h_kept h_aside h_found h_down h_along h_parts h_gone h_tape h_kinds h_items h_widths h_sizes h_numbers h_moved v_isKept v_taped v_begins v_ends v_sort v_value v_isWrong v_itemMany v_farmMany v_farmCells v_now v_down v_along) H locs → lv_has ls 4 [(0, .ref h), (1, .long x1), (3, .int x3)] → W p l e { frames := 4, cells := 0, slots := 0, locals := 97 } s m args below meth c H locs 0 0 (MQ below (kQv D wc0 (wd_M_comesOut D h h_now h_kept h_aside h_found h_down h_along h_parts h_gone h_tape h_kinds h_items h_widths h_sizes h_numbers h_moved v_isKept v_taped v_begins v_ends v_sort v_value v_isWrong v_itemMany v_farmMany v_farmCells out v_down v_along) s.heap.size) args s 0 0 (va_A wc0 s.heap.size)) (F0 m 65 ls [])) (hf : fb_M_comesOut_3 rec3 x1 x3 v_now = some out) {H : Heap} {locs : List Loc} (hV : kV D (va_A wc0 s.heap.size) s (wd_M_comesOut D h h_now h_kept h_aside h_found h_down h_along h_parts h_gone h_tape h_kinds h_items h_widths h_sizes h_numbers h_moved v_isKept v_taped v_begins v_ends v_sort v_value v_isWrong v_itemMany v_farmMany v_farmCells v_now v_down v_along) H locs) {ls : Array Slot} (hl : lv_has ls 4 [(0, .ref h), (1, .long x1), (3, .int x3)]) : W p l e { frames := 4, cells := 0, slots := 0, locals := 97 } s m args below meth c H locs 0 0 (MQ below (kQv D wc0 (wd_M_comesOut D h h_now h_kept h_aside h_found h_down h_along h_parts h_gone h_tape h_kinds h_items h_widths h_sizes h_numbers h_moved v_isKept v_taped v_begins v_ends v_sort v_value v_isWrong v_itemMany v_farmMany v_farmCells out v_down v_along) s.heap.size) args s 0 0 (va_A wc0 s.heap.size)) (F0 m 65 ls []) := by
  unfold fb_M_comesOut_3 at hf
  obtain ⟨hx, hb, -⟩ := id X
  refine lv_iload_n hx hb d_M_comesOut_65 rfl (lv_at hl 2 rfl) ?_
  refine lv_aload_n hx hb d_M_comesOut_66 rfl (lv_at hl 0 rfl) ?_
  refine k_get X hV 0 9 0 rfl rfl rfl gw_887 rfl rfl d_M_comesOut_67 ?_
  refine lv_bipush (v := 10) hx hb d_M_comesOut_70 bp_10 ?_
  refine k_iald X hV 1 rfl kin_10_218 kln_10 d_M_comesOut_72 ?_
  refine lv_icmp_ge (tgt := 110) hx hb d_M_comesOut_73 (by decide) (fun c_21 => ?_) (fun c_21 => ?_)
  · replace hf := kifp c_21 hf
    refine lv_aload_n hx hb d_M_comesOut_110 rfl (lv_at hl 0 rfl) ?_
    refine k_get X hV 0 9 0 rfl rfl rfl gw_887 rfl rfl d_M_comesOut_111 ?_
    refine lv_iconst (v := 4) hx hb d_M_comesOut_114 ic_4 ?_
    refine lv_iconst (v := 0) hx hb d_M_comesOut_115 ic_0 ?_
    refine k_iast (ws' := (wd_M_comesOut D h h_now h_kept h_aside h_found h_down h_along h_parts h_gone h_tape h_kinds h_items h_widths h_sizes h_numbers h_moved v_isKept v_taped v_begins v_ends v_sort v_value v_isWrong v_itemMany v_farmMany v_farmCells (upd v_now 4 (0 : Int32)) v_down v_along)) X hV 1 rfl kin_4_218 kln_4 rfl d_M_comesOut_116 (fun H locs hV => ?_)
    refine lv_aload_n hx hb d_M_comesOut_117 rfl (lv_at hl 0 rfl) ?_
    refine k_get X hV 0 9 0 rfl rfl rfl gw_887 rfl rfl d_M_comesOut_118 ?_
    refine lv_bipush (v := 6) hx hb d_M_comesOut_121 bp_6 ?_
    refine lv_dup2_11 hx hb d_M_comesOut_123 rfl rfl ?_
    refine k_iald X hV 1 rfl kin_6_218 kln_6 d_M_comesOut_124 ?_
    refine lv_iconst (v := 1) hx hb d_M_comesOut_125 ic_1 ?_
    refine lv_iadd hx hb d_M_comesOut_126 ?_
    refine k_iast (ws' := (wd_M_comesOut D h h_now h_kept h_aside h_found h_down h_along h_parts h_gone h_tape h_kinds h_items h_widths h_sizes h_numbers h_moved v_isKept v_taped v_begins v_ends v_sort v_value v_isWrong v_itemMany v_farmMany v_farmCells (upd (upd v_now 4 (0 : Int32)) 6 (((upd v_now 4 (0 : Int32)) 6) + (1 : Int32))) v_down v_along)) X hV 1 rfl kin_6_218 kln_6 rfl d_M_comesOut_127 (fun H locs hV => ?_)
    have e_ := Option.some.inj hf
    subst e_
    exact k_vret X rfl hV d_M_comesOut_128
  replace hf := kifn c_21 hf
  refine lv_aload_n hx hb d_M_comesOut_76 rfl (lv_at hl 0 rfl) ?_
  refine k_get X hV 0 9 0 rfl rfl rfl gw_887 rfl rfl d_M_comesOut_77 ?_
  refine lv_sipush (v := 158) hx hb d_M_comesOut_80 sp_158 ?_
  refine lv_iconst (v := 5) hx hb d_M_comesOut_83 ic_5 ?_
  refine lv_iload_n hx hb d_M_comesOut_84 rfl (lv_at hl 2 rfl) ?_
  refine lv_imul hx hb d_M_comesOut_85 ?_
  refine lv_iadd hx hb d_M_comesOut_86 ?_
  refine lv_iconst (v := 4) hx hb d_M_comesOut_87 ic_4 ?_
  refine lv_iadd hx hb d_M_comesOut_88 ?_
  refine lv_dup2_11 hx hb d_M_comesOut_89 rfl rfl ?_
  obtain ⟨h_22, hf⟩ := kidx_some hf
  refine k_iald X hV 1 rfl h_22 rfl d_M_comesOut_90 ?_
  refine lv_lload_n hx hb d_M_comesOut_91 rfl (lv_at hl 1 rfl) ?_
  refine lv_aload_n hx hb d_M_comesOut_92 rfl (lv_at hl 0 rfl) ?_
  refine lv_iload_n hx hb d_M_comesOut_93 rfl (lv_at hl 2 rfl) ?_
  refine lv_iconst (v := 1) hx hb d_M_comesOut_94 ic_1 ?_
  obtain ⟨r_23, hc_24, hf⟩ := kb1_some hf
  refine k_cvi (w1 := (wd_M_farmIs D h h_now h_kept h_aside h_found h_down h_along h_parts h_gone h_tape h_kinds h_items h_widths h_sizes h_numbers h_moved v_isKept v_taped v_begins v_ends v_sort v_value v_isWrong v_itemMany v_farmMany v_farmCells v_now)) (r := r_23) (ws' := (wd_M_comesOut D h h_now h_kept h_aside h_found h_down h_along h_parts h_gone h_tape h_kinds h_items h_widths h_sizes h_numbers h_moved v_isKept v_taped v_begins v_ends v_sort v_value v_isWrong v_itemMany v_farmMany v_farmCells v_now v_down v_along)) X hV hl.1 (c_M_farmIs D h h_now h_kept h_aside h_found h_down h_along h_parts h_gone h_tape h_kinds h_items h_widths h_sizes h_numbers h_moved v_isKept v_taped v_begins v_ends v_sort v_value v_isWrong v_itemMany v_farmMany v_farmCells v_now x3 (1 : Int32) hc_24) fk_M_farmIs gw_990 rfl 0 9 rfl rfl [0, 1] [some 0, some 1, none, none] rfl rfl ⟨rfl, rfl, rfl, rfl, rfl, rfl, rfl, rfl, trivial⟩ rfl rfl rfl d_M_comesOut_95 (fun H locs hV => ?_)
  refine lv_lshr hx hb d_M_comesOut_98 rfl ?_
  refine lv_lconst (v := 1) hx hb d_M_comesOut_99 lc_1 ?_
  refine lv_land hx hb d_M_comesOut_100 ?_
  refine lv_l2i hx hb d_M_comesOut_101 rfl ?_
  refine lv_ior hx hb d_M_comesOut_102 ?_
  refine k_leti hf (fun y_25 hf => ?_)
  obtain ⟨h_26, hf⟩ := kidx_some hf
  refine k_iast (ws' := (wd_M_comesOut D h h_now h_kept h_aside h_found h_down h_along h_parts h_gone h_tape h_kinds h_items h_widths h_sizes h_numbers h_moved v_isKept v_taped v_begins v_ends v_sort v_value v_isWrong v_itemMany v_farmMany v_farmCells (upd v_now (((158 : Int32) + ((5 : Int32) * x3)) + (4 : Int32)).toNatClampNeg y_25) v_down v_along)) X hV 1 rfl h_26 rfl rfl d_M_comesOut_103 (fun H locs hV => ?_)
  refine lv_iinc (v := (x3 + 1)) (lv' := [(3, .int (x3 + 1)), (0, .ref h), (1, .long x1)]) hx hb d_M_comesOut_104 hl (k := 2) rfl rfl (by decide) rfl (fun ls hl => ?_)
  refine lv_goto (tgt := 65) hx hb d_M_comesOut_107 (by decide) ?_
  exact hrec3 _ _ hf _ _ _ hV (lv_sub hl [1, 2, 0] rfl)
set_option maxHeartbeats 2000000 in
set_option maxRecDepth 20000 in
theorem tl_M_comesOut_3 {l : Launch} {p : Program} {e : Env} {s : State} {m : MethodId} {args : Array Value} {below : List Frame} {meth : Method} {c : Code} {D : kD} {wc0 : va_W} {h : Nat} {h_now : Nat} {h_kept : Nat} {h_aside : Nat} {h_found : Nat} {h_down : Nat} {h_along : Nat} {h_parts : Nat} {h_gone : Nat} {h_tape : Nat} {h_kinds : Nat} {h_items : Nat} {h_widths : Nat} {h_sizes : Nat} {h_numbers : Nat} {h_moved : Nat} {v_isKept : Int32} {v_taped : Int32} {v_begins : Int32} {v_ends : Int32} {v_sort : Int32} {v_value : Int32} {v_isWrong : Int32} {v_itemMany : Int32} {v_farmMany : Int32} {v_farmCells : Int64} {v_down : Nat → Int32} {v_along : Nat → Int32} {x1 : Int64} {out : (Nat → Int32)} (X : kX p m meth c s args D (va_A wc0 s.heap.size) b_M_comesOut "MountainFarmsModel" 4 none) : ∀ (n : Nat) (x3 : Int32) (v_now : Nat → Int32), fl_M_comesOut_3 x1 n x3 v_now = some out → ∀ (H : Heap) (locs : List Loc) (ls : Array Slot), kV D (va_A wc0 s.heap.size) s (wd_M_comesOut D h h_now h_kept h_aside h_found h_down h_along h_parts h_gone h_tape h_kinds h_items h_widths h_sizes h_numbers h_moved v_isKept v_taped v_begins v_ends v_sort v_value v_isWrong v_itemMany v_farmMany v_farmCells v_now v_down v_along) H locs → lv_has ls 4 [(0, .ref h), (1, .long x1), (3, .int x3)] → W p l e { frames := 4, cells := 0, slots := 0, locals := 97 } s m args below meth c H locs 0 0 (MQ below (kQv D wc0 (wd_M_comesOut D h h_now h_kept h_aside h_found h_down h_along h_parts h_gone h_tape h_kinds h_items h_widths h_sizes h_numbers h_moved v_isKept v_taped v_begins v_ends v_sort v_value v_isWrong v_itemMany v_farmMany v_farmCells out v_down v_along) s.heap.size) args s 0 0 (va_A wc0 s.heap.size)) (F0 m 65 ls []) := by
  intro n
  induction n with
  | zero => intro x3 v_now hf; exact knone hf
  | succ n ih => intro x3 v_now hf H locs ls hV hl; exact tb_M_comesOut_3 X ih hf hV hl
set_option maxHeartbeats 2000000 in
set_option maxRecDepth 20000 in
theorem t_M_comesOut_2 {l : Launch} {p : Program} {e : Env} {s : State} {m : MethodId} {args : Array Value} {below : List Frame} {meth : Method} {c : Code} {D : kD} {wc0 : va_W} {h : Nat} {h_now : Nat} {h_kept : Nat} {h_aside : Nat} {h_found : Nat} {h_down : Nat} {h_along : Nat} {h_parts : Nat} {h_gone : Nat} {h_tape : Nat} {h_kinds : Nat} {h_items : Nat} {h_widths : Nat} {h_sizes : Nat} {h_numbers : Nat} {h_moved : Nat} {v_isKept : Int32} {v_taped : Int32} {v_begins : Int32} {v_ends : Int32} {v_sort : Int32} {v_value : Int32} {v_isWrong : Int32} {v_itemMany : Int32} {v_farmMany : Int32} {v_farmCells : Int64} {v_now : Nat → Int32} {v_down : Nat → Int32} {v_along : Nat → Int32} {s1 : Int32} {s2 : Int32} {x1 : Int64} {x3 : Int32} {rec1 : Int32 → (Nat → Int32) → Option ((Nat → Int32))} {out : (Nat → Int32)} (X : kX p m meth c s args D (va_A wc0 s.heap.size) b_M_comesOut "MountainFarmsModel" 4 none) (hrec1 : ∀ (x3 : Int32) (v_now : Nat → Int32), rec1 x3 v_now = some out → ∀ (H : Heap) (locs : List Loc) (ls : Array Slot), kV D (va_A wc0 s.heap.size) s (wd_M_comesOut D h h_now h_kept h_aside h_found h_down h_along h_parts h_gone h_tape h_kinds h_items h_widths h_sizes h_numbers h_moved v_isKept v_taped v_begins v_ends v_sort v_value v_isWrong v_itemMany v_farmMany v_farmCells v_now v_down v_along) H locs → lv_has ls 4 [(0, .ref h), (1, .long x1), (3, .int x3)] → W p l e { frames := 4, cells := 0, slots := 0, locals := 97 } s m args below meth c H locs 0 0 (MQ below (kQv D wc0 (wd_M_comesOut D h h_now h_kept h_aside h_found h_down h_along h_parts h_gone h_tape h_kinds h_items h_widths h_sizes h_numbers h_moved v_isKept v_taped v_begins v_ends v_sort v_value v_isWrong v_itemMany v_farmMany v_farmCells out v_down v_along) s.heap.size) args s 0 0 (va_A wc0 s.heap.size)) (F0 m 19 ls [])) (hf : f_M_comesOut_2 rec1 s1 s2 x1 x3 v_now = some out) {H : Heap} {locs : List Loc} (hV : kV D (va_A wc0 s.heap.size) s (wd_M_comesOut D h h_now h_kept h_aside h_found h_down h_along h_parts h_gone h_tape h_kinds h_items h_widths h_sizes h_numbers h_moved v_isKept v_taped v_begins v_ends v_sort v_value v_isWrong v_itemMany v_farmMany v_farmCells v_now v_down v_along) H locs) {ls : Array Slot} (hl : lv_has ls 4 [(0, .ref h), (1, .long x1), (3, .int x3)]) : W p l e { frames := 4, cells := 0, slots := 0, locals := 97 } s m args below meth c H locs 0 0 (MQ below (kQv D wc0 (wd_M_comesOut D h h_now h_kept h_aside h_found h_down h_along h_parts h_gone h_tape h_kinds h_items h_widths h_sizes h_numbers h_moved v_isKept v_taped v_begins v_ends v_sort v_value v_isWrong v_itemMany v_farmMany v_farmCells out v_down v_along) s.heap.size) args s 0 0 (va_A wc0 s.heap.size)) (F0 m 56 ls [.int s2, .int s1, .ref h_now]) := by
  unfold f_M_comesOut_2 at hf
  obtain ⟨hx, hb, -⟩ := id X
  obtain ⟨h_20, hf⟩ := kidx_some hf
  refine k_iast (ws' := (wd_M_comesOut D h h_now h_kept h_aside h_found h_down h_along h_parts h_gone h_tape h_kinds h_items h_widths h_sizes h_numbers h_moved v_isKept v_taped v_begins v_ends v_sort v_value v_isWrong v_itemMany v_farmMany v_farmCells (upd v_now s1.toNatClampNeg s2) v_down v_along)) X hV 1 rfl h_20 rfl rfl d_M_comesOut_56 (fun H locs hV => ?_)
  refine lv_iinc (v := (x3 + 1)) (lv' := [(3, .int (x3 + 1)), (0, .ref h), (1, .long x1)]) hx hb d_M_comesOut_57 hl (k := 2) rfl rfl (by decide) rfl (fun ls hl => ?_)
  refine lv_goto (tgt := 19) hx hb d_M_comesOut_60 (by decide) ?_
  exact hrec1 _ _ hf _ _ _ hV (lv_sub hl [1, 2, 0] rfl)
set_option maxHeartbeats 2000000 in
set_option maxRecDepth 20000 in
theorem tb_M_comesOut_1 {l : Launch} {p : Program} {e : Env} {s : State} {m : MethodId} {args : Array Value} {below : List Frame} {meth : Method} {c : Code} {D : kD} {wc0 : va_W} {h : Nat} {h_now : Nat} {h_kept : Nat} {h_aside : Nat} {h_found : Nat} {h_down : Nat} {h_along : Nat} {h_parts : Nat} {h_gone : Nat} {h_tape : Nat} {h_kinds : Nat} {h_items : Nat} {h_widths : Nat} {h_sizes : Nat} {h_numbers : Nat} {h_moved : Nat} {v_isKept : Int32} {v_taped : Int32} {v_begins : Int32} {v_ends : Int32} {v_sort : Int32} {v_value : Int32} {v_isWrong : Int32} {v_itemMany : Int32} {v_farmMany : Int32} {v_farmCells : Int64} {v_now : Nat → Int32} {v_down : Nat → Int32} {v_along : Nat → Int32} {x1 : Int64} {x3 : Int32} {rec1 : Int32 → (Nat → Int32) → Option ((Nat → Int32))} {out : (Nat → Int32)} (X : kX p m meth c s args D (va_A wc0 s.heap.size) b_M_comesOut "MountainFarmsModel" 4 none) (hrec1 : ∀ (x3 : Int32) (v_now : Nat → Int32), rec1 x3 v_now = some out → ∀ (H : Heap) (locs : List Loc) (ls : Array Slot), kV D (va_A wc0 s.heap.size) s (wd_M_comesOut D h h_now h_kept h_aside h_found h_down h_along h_parts h_gone h_tape h_kinds h_items h_widths h_sizes h_numbers h_moved v_isKept v_taped v_begins v_ends v_sort v_value v_isWrong v_itemMany v_farmMany v_farmCells v_now v_down v_along) H locs → lv_has ls 4 [(0, .ref h), (1, .long x1), (3, .int x3)] → W p l e { frames := 4, cells := 0, slots := 0, locals := 97 } s m args below meth c H locs 0 0 (MQ below (kQv D wc0 (wd_M_comesOut D h h_now h_kept h_aside h_found h_down h_along h_parts h_gone h_tape h_kinds h_items h_widths h_sizes h_numbers h_moved v_isKept v_taped v_begins v_ends v_sort v_value v_isWrong v_itemMany v_farmMany v_farmCells out v_down v_along) s.heap.size) args s 0 0 (va_A wc0 s.heap.size)) (F0 m 19 ls [])) (hf : fb_M_comesOut_1 rec1 x1 x3 v_now = some out) {H : Heap} {locs : List Loc} (hV : kV D (va_A wc0 s.heap.size) s (wd_M_comesOut D h h_now h_kept h_aside h_found h_down h_along h_parts h_gone h_tape h_kinds h_items h_widths h_sizes h_numbers h_moved v_isKept v_taped v_begins v_ends v_sort v_value v_isWrong v_itemMany v_farmMany v_farmCells v_now v_down v_along) H locs) {ls : Array Slot} (hl : lv_has ls 4 [(0, .ref h), (1, .long x1), (3, .int x3)]) : W p l e { frames := 4, cells := 0, slots := 0, locals := 97 } s m args below meth c H locs 0 0 (MQ below (kQv D wc0 (wd_M_comesOut D h h_now h_kept h_aside h_found h_down h_along h_parts h_gone h_tape h_kinds h_items h_widths h_sizes h_numbers h_moved v_isKept v_taped v_begins v_ends v_sort v_value v_isWrong v_itemMany v_farmMany v_farmCells out v_down v_along) s.heap.size) args s 0 0 (va_A wc0 s.heap.size)) (F0 m 19 ls []) := by
  unfold fb_M_comesOut_1 at hf
  obtain ⟨hx, hb, -⟩ := id X
  refine lv_iload_n hx hb d_M_comesOut_19 rfl (lv_at hl 2 rfl) ?_
  refine lv_bipush (v := 36) hx hb d_M_comesOut_20 bp_36 ?_
  refine lv_icmp_ge (tgt := 63) hx hb d_M_comesOut_22 (by decide) (fun c_17 => ?_) (fun c_17 => ?_)
  · replace hf := kifp c_17 hf
    refine lv_iconst (v := 0) hx hb d_M_comesOut_63 ic_0 ?_
    refine lv_istore_n (lv' := [(3, .int (0 : Int32)), (0, .ref h), (1, .long x1)]) hx hb d_M_comesOut_64 rfl hl (by decide) rfl (fun ls hl => ?_)
    exact tl_M_comesOut_3 X _ _ _ hf _ _ _ hV (lv_sub hl [1, 2, 0] rfl)
  replace hf := kifn c_17 hf
  refine lv_aload_n hx hb d_M_comesOut_25 rfl (lv_at hl 0 rfl) ?_
  refine k_get X hV 0 9 0 rfl rfl rfl gw_887 rfl rfl d_M_comesOut_26 ?_
  refine lv_bipush (v := 86) hx hb d_M_comesOut_29 bp_86 ?_
  refine lv_iload_n hx hb d_M_comesOut_31 rfl (lv_at hl 2 rfl) ?_
  refine lv_iadd hx hb d_M_comesOut_32 ?_
  refine lv_lload_n hx hb d_M_comesOut_33 rfl (lv_at hl 1 rfl) ?_
  refine lv_iload_n hx hb d_M_comesOut_34 rfl (lv_at hl 2 rfl) ?_
  refine lv_lshr hx hb d_M_comesOut_35 rfl ?_
  refine lv_lconst (v := 1) hx hb d_M_comesOut_36 lc_1 ?_
  refine lv_land hx hb d_M_comesOut_37 ?_
  refine lv_lconst (v := 1) hx hb d_M_comesOut_38 lc_1 ?_
  refine W.lcmp hx hb d_M_comesOut_39 ?_
  refine lv_if_ne (tgt := 47) hx hb d_M_comesOut_40 (by decide) (fun c_18 => ?_) (fun c_18 => ?_)
  · replace hf := kifn c_18 hf
    refine lv_aload_n hx hb d_M_comesOut_47 rfl (lv_at hl 0 rfl) ?_
    refine k_get X hV 0 9 0 rfl rfl rfl gw_887 rfl rfl d_M_comesOut_48 ?_
    refine lv_bipush (v := 86) hx hb d_M_comesOut_51 bp_86 ?_
    refine lv_iload_n hx hb d_M_comesOut_53 rfl (lv_at hl 2 rfl) ?_
    refine lv_iadd hx hb d_M_comesOut_54 ?_
    obtain ⟨h_19, hf⟩ := kidx_some hf
    refine k_iald X hV 1 rfl h_19 rfl d_M_comesOut_55 ?_
    exact t_M_comesOut_2 X hrec1 hf hV (lv_sub hl [0, 1, 2] rfl)
  replace hf := kifp c_18 hf
  refine lv_iconst (v := 0) hx hb d_M_comesOut_43 ic_0 ?_
  refine lv_goto (tgt := 56) hx hb d_M_comesOut_44 (by decide) ?_
  exact t_M_comesOut_2 X hrec1 hf hV (lv_sub hl [0, 1, 2] rfl)
set_option maxHeartbeats 2000000 in
set_option maxRecDepth 20000 in
theorem tl_M_comesOut_1 {l : Launch} {p : Program} {e : Env} {s : State} {m : MethodId} {args : Array Value} {below : List Frame} {meth : Method} {c : Code} {D : kD} {wc0 : va_W} {h : Nat} {h_now : Nat} {h_kept : Nat} {h_aside : Nat} {h_found : Nat} {h_down : Nat} {h_along : Nat} {h_parts : Nat} {h_gone : Nat} {h_tape : Nat} {h_kinds : Nat} {h_items : Nat} {h_widths : Nat} {h_sizes : Nat} {h_numbers : Nat} {h_moved : Nat} {v_isKept : Int32} {v_taped : Int32} {v_begins : Int32} {v_ends : Int32} {v_sort : Int32} {v_value : Int32} {v_isWrong : Int32} {v_itemMany : Int32} {v_farmMany : Int32} {v_farmCells : Int64} {v_down : Nat → Int32} {v_along : Nat → Int32} {x1 : Int64} {out : (Nat → Int32)} (X : kX p m meth c s args D (va_A wc0 s.heap.size) b_M_comesOut "MountainFarmsModel" 4 none) : ∀ (n : Nat) (x3 : Int32) (v_now : Nat → Int32), fl_M_comesOut_1 x1 n x3 v_now = some out → ∀ (H : Heap) (locs : List Loc) (ls : Array Slot), kV D (va_A wc0 s.heap.size) s (wd_M_comesOut D h h_now h_kept h_aside h_found h_down h_along h_parts h_gone h_tape h_kinds h_items h_widths h_sizes h_numbers h_moved v_isKept v_taped v_begins v_ends v_sort v_value v_isWrong v_itemMany v_farmMany v_farmCells v_now v_down v_along) H locs → lv_has ls 4 [(0, .ref h), (1, .long x1), (3, .int x3)] → W p l e { frames := 4, cells := 0, slots := 0, locals := 97 } s m args below meth c H locs 0 0 (MQ below (kQv D wc0 (wd_M_comesOut D h h_now h_kept h_aside h_found h_down h_along h_parts h_gone h_tape h_kinds h_items h_widths h_sizes h_numbers h_moved v_isKept v_taped v_begins v_ends v_sort v_value v_isWrong v_itemMany v_farmMany v_farmCells out v_down v_along) s.heap.size) args s 0 0 (va_A wc0 s.heap.size)) (F0 m 19 ls []) := by
  intro n
  induction n with
  | zero => intro x3 v_now hf; exact knone hf
  | succ n ih => intro x3 v_now hf H locs ls hV hl; exact tb_M_comesOut_1 X ih hf hV hl
set_option maxHeartbeats 2000000 in
set_option maxRecDepth 20000 in
theorem t_M_comesOut {l : Launch} {p : Program} {e : Env} {s : State} {m : MethodId} {args : Array Value} {below : List Frame} {meth : Method} {c : Code} {D : kD} {wc0 : va_W} {h : Nat} {h_now : Nat} {h_kept : Nat} {h_aside : Nat} {h_found : Nat} {h_down : Nat} {h_along : Nat} {h_parts : Nat} {h_gone : Nat} {h_tape : Nat} {h_kinds : Nat} {h_items : Nat} {h_widths : Nat} {h_sizes : Nat} {h_numbers : Nat} {h_moved : Nat} {v_isKept : Int32} {v_taped : Int32} {v_begins : Int32} {v_ends : Int32} {v_sort : Int32} {v_value : Int32} {v_isWrong : Int32} {v_itemMany : Int32} {v_farmMany : Int32} {v_farmCells : Int64} {v_now : Nat → Int32} {v_down : Nat → Int32} {v_along : Nat → Int32} {out : (Nat → Int32)} (X : kX p m meth c s args D (va_A wc0 s.heap.size) b_M_comesOut "MountainFarmsModel" 4 none) (hf : f_M_comesOut v_now v_down v_along = some out) {H : Heap} {locs : List Loc} (hV : kV D (va_A wc0 s.heap.size) s (wd_M_comesOut D h h_now h_kept h_aside h_found h_down h_along h_parts h_gone h_tape h_kinds h_items h_widths h_sizes h_numbers h_moved v_isKept v_taped v_begins v_ends v_sort v_value v_isWrong v_itemMany v_farmMany v_farmCells v_now v_down v_along) H locs) {ls : Array Slot} (hl : lv_has ls 4 [(0, .ref h)]) : W p l e { frames := 4, cells := 0, slots := 0, locals := 97 } s m args below meth c H locs 0 0 (MQ below (kQv D wc0 (wd_M_comesOut D h h_now h_kept h_aside h_found h_down h_along h_parts h_gone h_tape h_kinds h_items h_widths h_sizes h_numbers h_moved v_isKept v_taped v_begins v_ends v_sort v_value v_isWrong v_itemMany v_farmMany v_farmCells out v_down v_along) s.heap.size) args s 0 0 (va_A wc0 s.heap.size)) (F0 m 0 ls []) := by
  unfold f_M_comesOut at hf
  obtain ⟨hx, hb, -⟩ := id X
  refine lv_aload_n hx hb d_M_comesOut_0 rfl (lv_at hl 0 rfl) ?_
  refine lv_aload_n hx hb d_M_comesOut_1 rfl (lv_at hl 0 rfl) ?_
  refine k_get X hV 0 9 0 rfl rfl rfl gw_887 rfl rfl d_M_comesOut_2 ?_
  refine lv_iconst (v := 3) hx hb d_M_comesOut_5 ic_3 ?_
  refine k_iald X hV 1 rfl kin_3_218 kln_3 d_M_comesOut_6 ?_
  refine lv_aload_n hx hb d_M_comesOut_7 rfl (lv_at hl 0 rfl) ?_
  refine k_get X hV 0 9 0 rfl rfl rfl gw_887 rfl rfl d_M_comesOut_8 ?_
  refine lv_iconst (v := 5) hx hb d_M_comesOut_11 ic_5 ?_
  refine k_iald X hV 1 rfl kin_5_218 kln_5 d_M_comesOut_12 ?_
  obtain ⟨r_14, v_now_15, hc_16, hf⟩ := kb2_some hf
  refine k_cvl (w1 := (wd_M_lava D h h_now h_kept h_aside h_found h_down h_along h_parts h_gone h_tape h_kinds h_items h_widths h_sizes h_numbers h_moved v_isKept v_taped v_begins v_ends v_sort v_value v_isWrong v_itemMany v_farmMany v_farmCells v_now_15 v_down v_along)) (r := r_14) (ws' := (wd_M_comesOut D h h_now h_kept h_aside h_found h_down h_along h_parts h_gone h_tape h_kinds h_items h_widths h_sizes h_numbers h_moved v_isKept v_taped v_begins v_ends v_sort v_value v_isWrong v_itemMany v_farmMany v_farmCells v_now_15 v_down v_along)) X hV hl.1 (c_M_lava D h h_now h_kept h_aside h_found h_down h_along h_parts h_gone h_tape h_kinds h_items h_widths h_sizes h_numbers h_moved v_isKept v_taped v_begins v_ends v_sort v_value v_isWrong v_itemMany v_farmMany v_farmCells v_now v_down v_along (v_now 3) (v_now 5) hc_16) fk_M_lava gw_1148 rfl 0 9 rfl rfl [0, 1, 2, 3] [some 0, some 1, some 2, some 3] rfl rfl ⟨rfl, rfl, rfl, rfl, rfl, rfl, rfl, rfl, rfl, rfl, rfl, rfl, trivial⟩ rfl rfl rfl d_M_comesOut_13 (fun H locs hV => ?_)
  refine lv_lstore_n (lv' := [(1, .long r_14), (0, .ref h)]) hx hb d_M_comesOut_16 rfl hl (by decide) rfl (fun ls hl => ?_)
  refine lv_iconst (v := 0) hx hb d_M_comesOut_17 ic_0 ?_
  refine lv_istore_n (lv' := [(3, .int (0 : Int32)), (1, .long r_14), (0, .ref h)]) hx hb d_M_comesOut_18 rfl hl (by decide) rfl (fun ls hl => ?_)
  exact tl_M_comesOut_1 X _ _ _ hf _ _ _ hV (lv_sub hl [2, 1, 0] rfl)
set_option maxHeartbeats 2000000 in
set_option maxRecDepth 20000 in
theorem c_M_comesOut {l : Launch} (D : kD) (h : Nat) (h_now : Nat) (h_kept : Nat) (h_aside : Nat) (h_found : Nat) (h_down : Nat) (h_along : Nat) (h_parts : Nat) (h_gone : Nat) (h_tape : Nat) (h_kinds : Nat) (h_items : Nat) (h_widths : Nat) (h_sizes : Nat) (h_numbers : Nat) (h_moved : Nat) (v_isKept : Int32) (v_taped : Int32) (v_begins : Int32) (v_ends : Int32) (v_sort : Int32) (v_value : Int32) (v_isWrong : Int32) (v_itemMany : Int32) (v_farmMany : Int32) (v_farmCells : Int64) (v_now : Nat → Int32) (v_down : Nat → Int32) (v_along : Nat → Int32) {out : (Nat → Int32)} (hf : f_M_comesOut v_now v_down v_along = some out) : kMv l D y_M_comesOut b_M_comesOut 4 none { frames := 4, cells := 0, slots := 0, locals := 97 } [.ref h] (wd_M_comesOut D h h_now h_kept h_aside h_found h_down h_along h_parts h_gone h_tape h_kinds h_items h_widths h_sizes h_numbers h_moved v_isKept v_taped v_begins v_ends v_sort v_value v_isWrong v_itemMany v_farmMany v_farmCells v_now v_down v_along) (wd_M_comesOut D h h_now h_kept h_aside h_found h_down h_along h_parts h_gone h_tape h_kinds h_items h_widths h_sizes h_numbers h_moved v_isKept v_taped v_begins v_ends v_sort v_value v_isWrong v_itemMany v_farmMany v_farmCells out v_down v_along) :=
  kMv_of (own := "MountainFarmsModel") (plainFor_of_name (by decide)) rfl rfl (fun p e s m args below meth c ls X hV hl => t_M_comesOut X hf hV hl)
set_option maxHeartbeats 2000000 in
set_option maxRecDepth 20000 in
theorem tb_M_yearIsOver_2 {l : Launch} {p : Program} {e : Env} {s : State} {m : MethodId} {args : Array Value} {below : List Frame} {meth : Method} {c : Code} {D : kD} {wc0 : va_W} {h : Nat} {h_now : Nat} {h_kept : Nat} {h_aside : Nat} {h_found : Nat} {h_down : Nat} {h_along : Nat} {h_parts : Nat} {h_gone : Nat} {h_tape : Nat} {h_kinds : Nat} {h_items : Nat} {h_widths : Nat} {h_sizes : Nat} {h_numbers : Nat} {h_moved : Nat} {v_isKept : Int32} {v_taped : Int32} {v_begins : Int32} {v_ends : Int32} {v_sort : Int32} {v_value : Int32} {v_isWrong : Int32} {v_itemMany : Int32} {v_farmMany : Int32} {v_farmCells : Int64} {v_now : Nat → Int32} {x1 : Int32} {rec2 : Int32 → (Nat → Int32) → Option ((Nat → Int32))} {out : (Nat → Int32)} (X : kX p m meth c s args D (va_A wc0 s.heap.size) b_M_yearIsOver "MountainFarmsModel" 2 none) (hrec2 : ∀ (x1 : Int32) (v_now : Nat → Int32), rec2 x1 v_now = some out → ∀ (H : Heap) (locs : List Loc) (ls : Array Slot), kV D (va_A wc0 s.heap.size) s (wd_M_yearIsOver D h h_now h_kept h_aside h_found h_down h_along h_parts h_gone h_tape h_kinds h_items h_widths h_sizes h_numbers h_moved v_isKept v_taped v_begins v_ends v_sort v_value v_isWrong v_itemMany v_farmMany v_farmCells v_now) H locs → lv_has ls 2 [(0, .ref h), (1, .int x1)] → W p l e { frames := 3, cells := 0, slots := 0, locals := 67 } s m args below meth c H locs 0 0 (MQ below (kQv D wc0 (wd_M_yearIsOver D h h_now h_kept h_aside h_found h_down h_along h_parts h_gone h_tape h_kinds h_items h_widths h_sizes h_numbers h_moved v_isKept v_taped v_begins v_ends v_sort v_value v_isWrong v_itemMany v_farmMany v_farmCells out) s.heap.size) args s 0 0 (va_A wc0 s.heap.size)) (F0 m 43 ls [])) (hf : fb_M_yearIsOver_2 rec2 x1 v_now = some out) {H : Heap} {locs : List Loc} (hV : kV D (va_A wc0 s.heap.size) s (wd_M_yearIsOver D h h_now h_kept h_aside h_found h_down h_along h_parts h_gone h_tape h_kinds h_items h_widths h_sizes h_numbers h_moved v_isKept v_taped v_begins v_ends v_sort v_value v_isWrong v_itemMany v_farmMany v_farmCells v_now) H locs) {ls : Array Slot} (hl : lv_has ls 2 [(0, .ref h), (1, .int x1)]) : W p l e { frames := 3, cells := 0, slots := 0, locals := 67 } s m args below meth c H locs 0 0 (MQ below (kQv D wc0 (wd_M_yearIsOver D h h_now h_kept h_aside h_found h_down h_along h_parts h_gone h_tape h_kinds h_items h_widths h_sizes h_numbers h_moved v_isKept v_taped v_begins v_ends v_sort v_value v_isWrong v_itemMany v_farmMany v_farmCells out) s.heap.size) args s 0 0 (va_A wc0 s.heap.size)) (F0 m 43 ls []) := by
  unfold fb_M_yearIsOver_2 at hf
  obtain ⟨hx, hb, -⟩ := id X
  refine lv_iload_n hx hb d_M_yearIsOver_43 rfl (lv_at hl 1 rfl) ?_
  refine lv_bipush (v := 36) hx hb d_M_yearIsOver_44 bp_36 ?_
  refine lv_icmp_ge (tgt := 80) hx hb d_M_yearIsOver_46 (by decide) (fun c_20 => ?_) (fun c_20 => ?_)
  · replace hf := kifp c_20 hf
    refine lv_aload_n hx hb d_M_yearIsOver_80 rfl (lv_at hl 0 rfl) ?_
    refine k_get X hV 0 9 0 rfl rfl rfl gw_887 rfl rfl d_M_yearIsOver_81 ?_
    refine lv_iconst (v := 4) hx hb d_M_yearIsOver_84 ic_4 ?_
    refine lv_bipush (v := 99) hx hb d_M_yearIsOver_85 bp_99 ?_
    refine lv_aload_n hx hb d_M_yearIsOver_87 rfl (lv_at hl 0 rfl) ?_
    refine k_get X hV 0 9 0 rfl rfl rfl gw_887 rfl rfl d_M_yearIsOver_88 ?_
    refine lv_iconst (v := 4) hx hb d_M_yearIsOver_91 ic_4 ?_
    refine k_iald X hV 1 rfl kin_4_218 kln_4 d_M_yearIsOver_92 ?_
    refine lv_iconst (v := 1) hx hb d_M_yearIsOver_93 ic_1 ?_
    refine lv_iadd hx hb d_M_yearIsOver_94 ?_
    obtain ⟨r_21, hc_22, hf⟩ := kb1_some hf
    refine k_csi (w1 := (wd_Ma_min D)) (r := r_21) (ws' := (wd_M_yearIsOver D h h_now h_kept h_aside h_found h_down h_along h_parts h_gone h_tape h_kinds h_items h_widths h_sizes h_numbers h_moved v_isKept v_taped v_begins v_ends v_sort v_value v_isWrong v_itemMany v_farmMany v_farmCells v_now)) X hV hl.1 (c_Ma_min D (99 : Int32) ((v_now 4) + (1 : Int32)) hc_22) fk_Ma_min gw_1046 rfl [] [none, none] rfl rfl ⟨rfl, rfl, trivial⟩ rfl rfl rfl d_M_yearIsOver_95 (fun H locs hV => ?_)
    refine k_iast (ws' := (wd_M_yearIsOver D h h_now h_kept h_aside h_found h_down h_along h_parts h_gone h_tape h_kinds h_items h_widths h_sizes h_numbers h_moved v_isKept v_taped v_begins v_ends v_sort v_value v_isWrong v_itemMany v_farmMany v_farmCells (upd v_now 4 r_21))) X hV 1 rfl kin_4_218 kln_4 rfl d_M_yearIsOver_98 (fun H locs hV => ?_)
    have e_ := Option.some.inj hf
    subst e_
    exact k_vret X rfl hV d_M_yearIsOver_99
  replace hf := kifn c_20 hf
  refine lv_aload_n hx hb d_M_yearIsOver_49 rfl (lv_at hl 0 rfl) ?_
  refine k_get X hV 0 9 0 rfl rfl rfl gw_887 rfl rfl d_M_yearIsOver_50 ?_
  refine lv_bipush (v := 86) hx hb d_M_yearIsOver_53 bp_86 ?_
  refine lv_iload_n hx hb d_M_yearIsOver_55 rfl (lv_at hl 1 rfl) ?_
  refine lv_iadd hx hb d_M_yearIsOver_56 ?_
  refine lv_bipush (v := 99) hx hb d_M_yearIsOver_57 bp_99 ?_
  refine lv_aload_n hx hb d_M_yearIsOver_59 rfl (lv_at hl 0 rfl) ?_
  refine k_get X hV 0 9 0 rfl rfl rfl gw_887 rfl rfl d_M_yearIsOver_60 ?_
  refine lv_bipush (v := 86) hx hb d_M_yearIsOver_63 bp_86 ?_
  refine lv_iload_n hx hb d_M_yearIsOver_65 rfl (lv_at hl 1 rfl) ?_
  refine lv_iadd hx hb d_M_yearIsOver_66 ?_
  obtain ⟨h_23, hf⟩ := kidx_some hf
  refine k_iald X hV 1 rfl h_23 rfl d_M_yearIsOver_67 ?_
  refine lv_iconst (v := 1) hx hb d_M_yearIsOver_68 ic_1 ?_
  refine lv_iadd hx hb d_M_yearIsOver_69 ?_
  obtain ⟨r_24, hc_25, hf⟩ := kb1_some hf
  refine k_csi (w1 := (wd_Ma_min D)) (r := r_24) (ws' := (wd_M_yearIsOver D h h_now h_kept h_aside h_found h_down h_along h_parts h_gone h_tape h_kinds h_items h_widths h_sizes h_numbers h_moved v_isKept v_taped v_begins v_ends v_sort v_value v_isWrong v_itemMany v_farmMany v_farmCells v_now)) X hV hl.1 (c_Ma_min D (99 : Int32) ((v_now ((86 : Int32) + x1).toNatClampNeg) + (1 : Int32)) hc_25) fk_Ma_min gw_1046 rfl [] [none, none] rfl rfl ⟨rfl, rfl, trivial⟩ rfl rfl rfl d_M_yearIsOver_70 (fun H locs hV => ?_)
  obtain ⟨h_26, hf⟩ := kidx_some hf
  refine k_iast (ws' := (wd_M_yearIsOver D h h_now h_kept h_aside h_found h_down h_along h_parts h_gone h_tape h_kinds h_items h_widths h_sizes h_numbers h_moved v_isKept v_taped v_begins v_ends v_sort v_value v_isWrong v_itemMany v_farmMany v_farmCells (upd v_now ((86 : Int32) + x1).toNatClampNeg r_24))) X hV 1 rfl h_26 rfl rfl d_M_yearIsOver_73 (fun H locs hV => ?_)
  refine lv_iinc (v := (x1 + 1)) (lv' := [(1, .int (x1 + 1)), (0, .ref h)]) hx hb d_M_yearIsOver_74 hl (k := 1) rfl rfl (by decide) rfl (fun ls hl => ?_)
  refine lv_goto (tgt := 43) hx hb d_M_yearIsOver_77 (by decide) ?_
  exact hrec2 _ _ hf _ _ _ hV (lv_sub hl [1, 0] rfl)
set_option maxHeartbeats 2000000 in
set_option maxRecDepth 20000 in
theorem tl_M_yearIsOver_2 {l : Launch} {p : Program} {e : Env} {s : State} {m : MethodId} {args : Array Value} {below : List Frame} {meth : Method} {c : Code} {D : kD} {wc0 : va_W} {h : Nat} {h_now : Nat} {h_kept : Nat} {h_aside : Nat} {h_found : Nat} {h_down : Nat} {h_along : Nat} {h_parts : Nat} {h_gone : Nat} {h_tape : Nat} {h_kinds : Nat} {h_items : Nat} {h_widths : Nat} {h_sizes : Nat} {h_numbers : Nat} {h_moved : Nat} {v_isKept : Int32} {v_taped : Int32} {v_begins : Int32} {v_ends : Int32} {v_sort : Int32} {v_value : Int32} {v_isWrong : Int32} {v_itemMany : Int32} {v_farmMany : Int32} {v_farmCells : Int64} {out : (Nat → Int32)} (X : kX p m meth c s args D (va_A wc0 s.heap.size) b_M_yearIsOver "MountainFarmsModel" 2 none) : ∀ (n : Nat) (x1 : Int32) (v_now : Nat → Int32), fl_M_yearIsOver_2 n x1 v_now = some out → ∀ (H : Heap) (locs : List Loc) (ls : Array Slot), kV D (va_A wc0 s.heap.size) s (wd_M_yearIsOver D h h_now h_kept h_aside h_found h_down h_along h_parts h_gone h_tape h_kinds h_items h_widths h_sizes h_numbers h_moved v_isKept v_taped v_begins v_ends v_sort v_value v_isWrong v_itemMany v_farmMany v_farmCells v_now) H locs → lv_has ls 2 [(0, .ref h), (1, .int x1)] → W p l e { frames := 3, cells := 0, slots := 0, locals := 67 } s m args below meth c H locs 0 0 (MQ below (kQv D wc0 (wd_M_yearIsOver D h h_now h_kept h_aside h_found h_down h_along h_parts h_gone h_tape h_kinds h_items h_widths h_sizes h_numbers h_moved v_isKept v_taped v_begins v_ends v_sort v_value v_isWrong v_itemMany v_farmMany v_farmCells out) s.heap.size) args s 0 0 (va_A wc0 s.heap.size)) (F0 m 43 ls []) := by
  intro n
  induction n with
  | zero => intro x1 v_now hf; exact knone hf
  | succ n ih => intro x1 v_now hf H locs ls hV hl; exact tb_M_yearIsOver_2 X ih hf hV hl
set_option maxHeartbeats 2000000 in
set_option maxRecDepth 20000 in
theorem tb_M_yearIsOver_1 {l : Launch} {p : Program} {e : Env} {s : State} {m : MethodId} {args : Array Value} {below : List Frame} {meth : Method} {c : Code} {D : kD} {wc0 : va_W} {h : Nat} {h_now : Nat} {h_kept : Nat} {h_aside : Nat} {h_found : Nat} {h_down : Nat} {h_along : Nat} {h_parts : Nat} {h_gone : Nat} {h_tape : Nat} {h_kinds : Nat} {h_items : Nat} {h_widths : Nat} {h_sizes : Nat} {h_numbers : Nat} {h_moved : Nat} {v_isKept : Int32} {v_taped : Int32} {v_begins : Int32} {v_ends : Int32} {v_sort : Int32} {v_value : Int32} {v_isWrong : Int32} {v_itemMany : Int32} {v_farmMany : Int32} {v_farmCells : Int64} {v_now : Nat → Int32} {x1 : Int32} {rec1 : Int32 → (Nat → Int32) → Option ((Nat → Int32))} {out : (Nat → Int32)} (X : kX p m meth c s args D (va_A wc0 s.heap.size) b_M_yearIsOver "MountainFarmsModel" 2 none) (hrec1 : ∀ (x1 : Int32) (v_now : Nat → Int32), rec1 x1 v_now = some out → ∀ (H : Heap) (locs : List Loc) (ls : Array Slot), kV D (va_A wc0 s.heap.size) s (wd_M_yearIsOver D h h_now h_kept h_aside h_found h_down h_along h_parts h_gone h_tape h_kinds h_items h_widths h_sizes h_numbers h_moved v_isKept v_taped v_begins v_ends v_sort v_value v_isWrong v_itemMany v_farmMany v_farmCells v_now) H locs → lv_has ls 2 [(0, .ref h), (1, .int x1)] → W p l e { frames := 3, cells := 0, slots := 0, locals := 67 } s m args below meth c H locs 0 0 (MQ below (kQv D wc0 (wd_M_yearIsOver D h h_now h_kept h_aside h_found h_down h_along h_parts h_gone h_tape h_kinds h_items h_widths h_sizes h_numbers h_moved v_isKept v_taped v_begins v_ends v_sort v_value v_isWrong v_itemMany v_farmMany v_farmCells out) s.heap.size) args s 0 0 (va_A wc0 s.heap.size)) (F0 m 2 ls [])) (hf : fb_M_yearIsOver_1 rec1 x1 v_now = some out) {H : Heap} {locs : List Loc} (hV : kV D (va_A wc0 s.heap.size) s (wd_M_yearIsOver D h h_now h_kept h_aside h_found h_down h_along h_parts h_gone h_tape h_kinds h_items h_widths h_sizes h_numbers h_moved v_isKept v_taped v_begins v_ends v_sort v_value v_isWrong v_itemMany v_farmMany v_farmCells v_now) H locs) {ls : Array Slot} (hl : lv_has ls 2 [(0, .ref h), (1, .int x1)]) : W p l e { frames := 3, cells := 0, slots := 0, locals := 67 } s m args below meth c H locs 0 0 (MQ below (kQv D wc0 (wd_M_yearIsOver D h h_now h_kept h_aside h_found h_down h_along h_parts h_gone h_tape h_kinds h_items h_widths h_sizes h_numbers h_moved v_isKept v_taped v_begins v_ends v_sort v_value v_isWrong v_itemMany v_farmMany v_farmCells out) s.heap.size) args s 0 0 (va_A wc0 s.heap.size)) (F0 m 2 ls []) := by
  unfold fb_M_yearIsOver_1 at hf
  obtain ⟨hx, hb, -⟩ := id X
  refine lv_iload_n hx hb d_M_yearIsOver_2 rfl (lv_at hl 1 rfl) ?_
  refine lv_aload_n hx hb d_M_yearIsOver_3 rfl (lv_at hl 0 rfl) ?_
  refine k_get X hV 0 9 0 rfl rfl rfl gw_887 rfl rfl d_M_yearIsOver_4 ?_
  refine lv_bipush (v := 10) hx hb d_M_yearIsOver_7 bp_10 ?_
  refine k_iald X hV 1 rfl kin_10_218 kln_10 d_M_yearIsOver_9 ?_
  refine lv_icmp_ge (tgt := 41) hx hb d_M_yearIsOver_10 (by decide) (fun c_14 => ?_) (fun c_14 => ?_)
  · replace hf := kifp c_14 hf
    refine lv_iconst (v := 0) hx hb d_M_yearIsOver_41 ic_0 ?_
    refine lv_istore_n (lv' := [(1, .int (0 : Int32)), (0, .ref h)]) hx hb d_M_yearIsOver_42 rfl hl (by decide) rfl (fun ls hl => ?_)
    exact tl_M_yearIsOver_2 X _ _ _ hf _ _ _ hV (lv_sub hl [1, 0] rfl)
  replace hf := kifn c_14 hf
  refine lv_aload_n hx hb d_M_yearIsOver_13 rfl (lv_at hl 0 rfl) ?_
  refine k_get X hV 0 9 0 rfl rfl rfl gw_887 rfl rfl d_M_yearIsOver_14 ?_
  refine lv_sipush (v := 158) hx hb d_M_yearIsOver_17 sp_158 ?_
  refine lv_iconst (v := 5) hx hb d_M_yearIsOver_20 ic_5 ?_
  refine lv_iload_n hx hb d_M_yearIsOver_21 rfl (lv_at hl 1 rfl) ?_
  refine lv_imul hx hb d_M_yearIsOver_22 ?_
  refine lv_iadd hx hb d_M_yearIsOver_23 ?_
  refine lv_iconst (v := 3) hx hb d_M_yearIsOver_24 ic_3 ?_
  refine lv_iadd hx hb d_M_yearIsOver_25 ?_
  refine lv_dup2_11 hx hb d_M_yearIsOver_26 rfl rfl ?_
  obtain ⟨h_15, hf⟩ := kidx_some hf
  refine k_iald X hV 1 rfl h_15 rfl d_M_yearIsOver_27 ?_
  refine lv_aload_n hx hb d_M_yearIsOver_28 rfl (lv_at hl 0 rfl) ?_
  refine lv_iload_n hx hb d_M_yearIsOver_29 rfl (lv_at hl 1 rfl) ?_
  obtain ⟨r_16, hc_17, hf⟩ := kb1_some hf
  refine k_cvi (w1 := (wd_M_bears D h h_now h_kept h_aside h_found h_down h_along h_parts h_gone h_tape h_kinds h_items h_widths h_sizes h_numbers h_moved v_isKept v_taped v_begins v_ends v_sort v_value v_isWrong v_itemMany v_farmMany v_farmCells v_now)) (r := r_16) (ws' := (wd_M_yearIsOver D h h_now h_kept h_aside h_found h_down h_along h_parts h_gone h_tape h_kinds h_items h_widths h_sizes h_numbers h_moved v_isKept v_taped v_begins v_ends v_sort v_value v_isWrong v_itemMany v_farmMany v_farmCells v_now)) X hV hl.1 (c_M_bears D h h_now h_kept h_aside h_found h_down h_along h_parts h_gone h_tape h_kinds h_items h_widths h_sizes h_numbers h_moved v_isKept v_taped v_begins v_ends v_sort v_value v_isWrong v_itemMany v_farmMany v_farmCells v_now x1 hc_17) fk_M_bears gw_1039 rfl 0 9 rfl rfl [0, 1] [some 0, some 1] rfl rfl ⟨rfl, rfl, rfl, rfl, rfl, rfl, trivial⟩ rfl rfl rfl d_M_yearIsOver_30 (fun H locs hV => ?_)
  refine lv_iadd hx hb d_M_yearIsOver_33 ?_
  refine k_leti hf (fun y_18 hf => ?_)
  obtain ⟨h_19, hf⟩ := kidx_some hf
  refine k_iast (ws' := (wd_M_yearIsOver D h h_now h_kept h_aside h_found h_down h_along h_parts h_gone h_tape h_kinds h_items h_widths h_sizes h_numbers h_moved v_isKept v_taped v_begins v_ends v_sort v_value v_isWrong v_itemMany v_farmMany v_farmCells (upd v_now (((158 : Int32) + ((5 : Int32) * x1)) + (3 : Int32)).toNatClampNeg y_18))) X hV 1 rfl h_19 rfl rfl d_M_yearIsOver_34 (fun H locs hV => ?_)
  refine lv_iinc (v := (x1 + 1)) (lv' := [(1, .int (x1 + 1)), (0, .ref h)]) hx hb d_M_yearIsOver_35 hl (k := 1) rfl rfl (by decide) rfl (fun ls hl => ?_)
  refine lv_goto (tgt := 2) hx hb d_M_yearIsOver_38 (by decide) ?_
  exact hrec1 _ _ hf _ _ _ hV (lv_sub hl [1, 0] rfl)
set_option maxHeartbeats 2000000 in
set_option maxRecDepth 20000 in
theorem tl_M_yearIsOver_1 {l : Launch} {p : Program} {e : Env} {s : State} {m : MethodId} {args : Array Value} {below : List Frame} {meth : Method} {c : Code} {D : kD} {wc0 : va_W} {h : Nat} {h_now : Nat} {h_kept : Nat} {h_aside : Nat} {h_found : Nat} {h_down : Nat} {h_along : Nat} {h_parts : Nat} {h_gone : Nat} {h_tape : Nat} {h_kinds : Nat} {h_items : Nat} {h_widths : Nat} {h_sizes : Nat} {h_numbers : Nat} {h_moved : Nat} {v_isKept : Int32} {v_taped : Int32} {v_begins : Int32} {v_ends : Int32} {v_sort : Int32} {v_value : Int32} {v_isWrong : Int32} {v_itemMany : Int32} {v_farmMany : Int32} {v_farmCells : Int64} {out : (Nat → Int32)} (X : kX p m meth c s args D (va_A wc0 s.heap.size) b_M_yearIsOver "MountainFarmsModel" 2 none) : ∀ (n : Nat) (x1 : Int32) (v_now : Nat → Int32), fl_M_yearIsOver_1 n x1 v_now = some out → ∀ (H : Heap) (locs : List Loc) (ls : Array Slot), kV D (va_A wc0 s.heap.size) s (wd_M_yearIsOver D h h_now h_kept h_aside h_found h_down h_along h_parts h_gone h_tape h_kinds h_items h_widths h_sizes h_numbers h_moved v_isKept v_taped v_begins v_ends v_sort v_value v_isWrong v_itemMany v_farmMany v_farmCells v_now) H locs → lv_has ls 2 [(0, .ref h), (1, .int x1)] → W p l e { frames := 3, cells := 0, slots := 0, locals := 67 } s m args below meth c H locs 0 0 (MQ below (kQv D wc0 (wd_M_yearIsOver D h h_now h_kept h_aside h_found h_down h_along h_parts h_gone h_tape h_kinds h_items h_widths h_sizes h_numbers h_moved v_isKept v_taped v_begins v_ends v_sort v_value v_isWrong v_itemMany v_farmMany v_farmCells out) s.heap.size) args s 0 0 (va_A wc0 s.heap.size)) (F0 m 2 ls []) := by
  intro n
  induction n with
  | zero => intro x1 v_now hf; exact knone hf
  | succ n ih => intro x1 v_now hf H locs ls hV hl; exact tb_M_yearIsOver_1 X ih hf hV hl
set_option maxHeartbeats 2000000 in
set_option maxRecDepth 20000 in
theorem t_M_yearIsOver {l : Launch} {p : Program} {e : Env} {s : State} {m : MethodId} {args : Array Value} {below : List Frame} {meth : Method} {c : Code} {D : kD} {wc0 : va_W} {h : Nat} {h_now : Nat} {h_kept : Nat} {h_aside : Nat} {h_found : Nat} {h_down : Nat} {h_along : Nat} {h_parts : Nat} {h_gone : Nat} {h_tape : Nat} {h_kinds : Nat} {h_items : Nat} {h_widths : Nat} {h_sizes : Nat} {h_numbers : Nat} {h_moved : Nat} {v_isKept : Int32} {v_taped : Int32} {v_begins : Int32} {v_ends : Int32} {v_sort : Int32} {v_value : Int32} {v_isWrong : Int32} {v_itemMany : Int32} {v_farmMany : Int32} {v_farmCells : Int64} {v_now : Nat → Int32} {out : (Nat → Int32)} (X : kX p m meth c s args D (va_A wc0 s.heap.size) b_M_yearIsOver "MountainFarmsModel" 2 none) (hf : f_M_yearIsOver v_now = some out) {H : Heap} {locs : List Loc} (hV : kV D (va_A wc0 s.heap.size) s (wd_M_yearIsOver D h h_now h_kept h_aside h_found h_down h_along h_parts h_gone h_tape h_kinds h_items h_widths h_sizes h_numbers h_moved v_isKept v_taped v_begins v_ends v_sort v_value v_isWrong v_itemMany v_farmMany v_farmCells v_now) H locs) {ls : Array Slot} (hl : lv_has ls 2 [(0, .ref h)]) : W p l e { frames := 3, cells := 0, slots := 0, locals := 67 } s m args below meth c H locs 0 0 (MQ below (kQv D wc0 (wd_M_yearIsOver D h h_now h_kept h_aside h_found h_down h_along h_parts h_gone h_tape h_kinds h_items h_widths h_sizes h_numbers h_moved v_isKept v_taped v_begins v_ends v_sort v_value v_isWrong v_itemMany v_farmMany v_farmCells out) s.heap.size) args s 0 0 (va_A wc0 s.heap.size)) (F0 m 0 ls []) := by
  unfold f_M_yearIsOver at hf
  obtain ⟨hx, hb, -⟩ := id X
  refine lv_iconst (v := 0) hx hb d_M_yearIsOver_0 ic_0 ?_
  refine lv_istore_n (lv' := [(1, .int (0 : Int32)), (0, .ref h)]) hx hb d_M_yearIsOver_1 rfl hl (by decide) rfl (fun ls hl => ?_)
  exact tl_M_yearIsOver_1 X _ _ _ hf _ _ _ hV (lv_sub hl [1, 0] rfl)
set_option maxHeartbeats 2000000 in
set_option maxRecDepth 20000 in
theorem c_M_yearIsOver {l : Launch} (D : kD) (h : Nat) (h_now : Nat) (h_kept : Nat) (h_aside : Nat) (h_found : Nat) (h_down : Nat) (h_along : Nat) (h_parts : Nat) (h_gone : Nat) (h_tape : Nat) (h_kinds : Nat) (h_items : Nat) (h_widths : Nat) (h_sizes : Nat) (h_numbers : Nat) (h_moved : Nat) (v_isKept : Int32) (v_taped : Int32) (v_begins : Int32) (v_ends : Int32) (v_sort : Int32) (v_value : Int32) (v_isWrong : Int32) (v_itemMany : Int32) (v_farmMany : Int32) (v_farmCells : Int64) (v_now : Nat → Int32) {out : (Nat → Int32)} (hf : f_M_yearIsOver v_now = some out) : kMv l D y_M_yearIsOver b_M_yearIsOver 2 none { frames := 3, cells := 0, slots := 0, locals := 67 } [.ref h] (wd_M_yearIsOver D h h_now h_kept h_aside h_found h_down h_along h_parts h_gone h_tape h_kinds h_items h_widths h_sizes h_numbers h_moved v_isKept v_taped v_begins v_ends v_sort v_value v_isWrong v_itemMany v_farmMany v_farmCells v_now) (wd_M_yearIsOver D h h_now h_kept h_aside h_found h_down h_along h_parts h_gone h_tape h_kinds h_items h_widths h_sizes h_numbers h_moved v_isKept v_taped v_begins v_ends v_sort v_value v_isWrong v_itemMany v_farmMany v_farmCells out) :=
  kMv_of (own := "MountainFarmsModel") (plainFor_of_name (by decide)) rfl rfl (fun p e s m args below meth c ls X hV hl => t_M_yearIsOver X hf hV hl)
set_option maxHeartbeats 2000000 in
set_option maxRecDepth 20000 in
theorem t_M_month_5 {l : Launch} {p : Program} {e : Env} {s : State} {m : MethodId} {args : Array Value} {below : List Frame} {meth : Method} {c : Code} {D : kD} {wc0 : va_W} {h : Nat} {h_now : Nat} {h_kept : Nat} {h_aside : Nat} {h_found : Nat} {h_down : Nat} {h_along : Nat} {h_parts : Nat} {h_gone : Nat} {h_tape : Nat} {h_kinds : Nat} {h_items : Nat} {h_widths : Nat} {h_sizes : Nat} {h_numbers : Nat} {h_moved : Nat} {v_isKept : Int32} {v_taped : Int32} {v_begins : Int32} {v_ends : Int32} {v_sort : Int32} {v_value : Int32} {v_isWrong : Int32} {v_itemMany : Int32} {v_farmMany : Int32} {v_farmCells : Int64} {v_now : Nat → Int32} {v_down : Nat → Int32} {v_along : Nat → Int32} {x6 : Int32} {out : Int32 × (Nat → Int32)} (X : kX p m meth c s args D (va_A wc0 s.heap.size) b_M_month "MountainFarmsModel" 7 (some .int)) (hf : f_M_month_5 x6 v_now = some out) {H : Heap} {locs : List Loc} (hV : kV D (va_A wc0 s.heap.size) s (wd_M_month D h h_now h_kept h_aside h_found h_down h_along h_parts h_gone h_tape h_kinds h_items h_widths h_sizes h_numbers h_moved v_isKept v_taped v_begins v_ends v_sort v_value v_isWrong v_itemMany v_farmMany v_farmCells v_now v_down v_along) H locs) {ls : Array Slot} (hl : lv_has ls 7 [(0, .ref h), (6, .int x6)]) : W p l e { frames := 5, cells := 0, slots := 0, locals := 120 } s m args below meth c H locs 0 0 (MQ below (kQi D wc0 (wd_M_month D h h_now h_kept h_aside h_found h_down h_along h_parts h_gone h_tape h_kinds h_items h_widths h_sizes h_numbers h_moved v_isKept v_taped v_begins v_ends v_sort v_value v_isWrong v_itemMany v_farmMany v_farmCells out.2 v_down v_along) s.heap.size out.1) args s 0 0 (va_A wc0 s.heap.size)) (F0 m 112 ls []) := by
  unfold f_M_month_5 at hf
  obtain ⟨hx, hb, -⟩ := id X
  refine lv_aload_n hx hb d_M_month_112 rfl (lv_at hl 0 rfl) ?_
  refine k_get X hV 0 9 0 rfl rfl rfl gw_887 rfl rfl d_M_month_113 ?_
  refine lv_bipush (v := 7) hx hb d_M_month_116 bp_7 ?_
  refine lv_dup2_11 hx hb d_M_month_118 rfl rfl ?_
  refine k_iald X hV 1 rfl kin_7_218 kln_7 d_M_month_119 ?_
  refine lv_aload_n hx hb d_M_month_120 rfl (lv_at hl 0 rfl) ?_
  refine k_get X hV 0 9 0 rfl rfl rfl gw_887 rfl rfl d_M_month_121 ?_
  refine lv_bipush (v := 9) hx hb d_M_month_124 bp_9 ?_
  refine k_iald X hV 1 rfl kin_9_218 kln_9 d_M_month_126 ?_
  refine lv_iadd hx hb d_M_month_127 ?_
  refine k_iast (ws' := (wd_M_month D h h_now h_kept h_aside h_found h_down h_along h_parts h_gone h_tape h_kinds h_items h_widths h_sizes h_numbers h_moved v_isKept v_taped v_begins v_ends v_sort v_value v_isWrong v_itemMany v_farmMany v_farmCells (upd v_now 7 ((v_now 7) + (v_now 9))) v_down v_along)) X hV 1 rfl kin_7_218 kln_7 rfl d_M_month_128 (fun H locs hV => ?_)
  refine lv_aload_n hx hb d_M_month_129 rfl (lv_at hl 0 rfl) ?_
  refine k_get X hV 0 9 0 rfl rfl rfl gw_887 rfl rfl d_M_month_130 ?_
  refine lv_bipush (v := 8) hx hb d_M_month_133 bp_8 ?_
  refine lv_dup2_11 hx hb d_M_month_135 rfl rfl ?_
  refine k_iald X hV 1 rfl kin_8_218 kln_8 d_M_month_136 ?_
  refine lv_aload_n hx hb d_M_month_137 rfl (lv_at hl 0 rfl) ?_
  refine k_get X hV 0 9 0 rfl rfl rfl gw_887 rfl rfl d_M_month_138 ?_
  refine lv_bipush (v := 9) hx hb d_M_month_141 bp_9 ?_
  refine k_iald X hV 1 rfl kin_9_218 kln_9 d_M_month_143 ?_
  refine lv_iload hx hb d_M_month_144 (lv_at hl 1 rfl) ?_
  refine lv_imul hx hb d_M_month_146 ?_
  refine lv_iadd hx hb d_M_month_147 ?_
  refine k_leti hf (fun y_37 hf => ?_)
  refine k_iast (ws' := (wd_M_month D h h_now h_kept h_aside h_found h_down h_along h_parts h_gone h_tape h_kinds h_items h_widths h_sizes h_numbers h_moved v_isKept v_taped v_begins v_ends v_sort v_value v_isWrong v_itemMany v_farmMany v_farmCells (upd (upd v_now 7 ((v_now 7) + (v_now 9))) 8 y_37) v_down v_along)) X hV 1 rfl kin_8_218 kln_8 rfl d_M_month_148 (fun H locs hV => ?_)
  refine lv_aload_n hx hb d_M_month_149 rfl (lv_at hl 0 rfl) ?_
  refine k_get X hV 0 9 0 rfl rfl rfl gw_887 rfl rfl d_M_month_150 ?_
  refine lv_bipush (v := 9) hx hb d_M_month_153 bp_9 ?_
  refine lv_iconst (v := 0) hx hb d_M_month_155 ic_0 ?_
  refine k_iast (ws' := (wd_M_month D h h_now h_kept h_aside h_found h_down h_along h_parts h_gone h_tape h_kinds h_items h_widths h_sizes h_numbers h_moved v_isKept v_taped v_begins v_ends v_sort v_value v_isWrong v_itemMany v_farmMany v_farmCells (upd (upd (upd v_now 7 ((v_now 7) + (v_now 9))) 8 y_37) 9 (0 : Int32)) v_down v_along)) X hV 1 rfl kin_9_218 kln_9 rfl d_M_month_156 (fun H locs hV => ?_)
  refine lv_aload_n hx hb d_M_month_157 rfl (lv_at hl 0 rfl) ?_
  refine k_get X hV 0 9 0 rfl rfl rfl gw_887 rfl rfl d_M_month_158 ?_
  refine lv_iconst (v := 1) hx hb d_M_month_161 ic_1 ?_
  refine lv_dup2_11 hx hb d_M_month_162 rfl rfl ?_
  refine k_iald X hV 1 rfl kin_1_218 kln_1 d_M_month_163 ?_
  refine lv_iconst (v := 1) hx hb d_M_month_164 ic_1 ?_
  refine lv_iadd hx hb d_M_month_165 ?_
  refine k_leti hf (fun y_38 hf => ?_)
  refine k_iast (ws' := (wd_M_month D h h_now h_kept h_aside h_found h_down h_along h_parts h_gone h_tape h_kinds h_items h_widths h_sizes h_numbers h_moved v_isKept v_taped v_begins v_ends v_sort v_value v_isWrong v_itemMany v_farmMany v_farmCells (upd (upd (upd (upd v_now 7 ((v_now 7) + (v_now 9))) 8 y_37) 9 (0 : Int32)) 1 y_38) v_down v_along)) X hV 1 rfl kin_1_218 kln_1 rfl d_M_month_166 (fun H locs hV => ?_)
  refine lv_iload hx hb d_M_month_167 (lv_at hl 1 rfl) ?_
  have e_ := Option.some.inj hf
  subst e_
  exact k_iret X rfl hV rfl d_M_month_169
set_option maxHeartbeats 2000000 in
set_option maxRecDepth 20000 in
theorem t_M_month_4 {l : Launch} {p : Program} {e : Env} {s : State} {m : MethodId} {args : Array Value} {below : List Frame} {meth : Method} {c : Code} {D : kD} {wc0 : va_W} {h : Nat} {h_now : Nat} {h_kept : Nat} {h_aside : Nat} {h_found : Nat} {h_down : Nat} {h_along : Nat} {h_parts : Nat} {h_gone : Nat} {h_tape : Nat} {h_kinds : Nat} {h_items : Nat} {h_widths : Nat} {h_sizes : Nat} {h_numbers : Nat} {h_moved : Nat} {v_isKept : Int32} {v_taped : Int32} {v_begins : Int32} {v_ends : Int32} {v_sort : Int32} {v_value : Int32} {v_isWrong : Int32} {v_itemMany : Int32} {v_farmMany : Int32} {v_farmCells : Int64} {v_now : Nat → Int32} {v_down : Nat → Int32} {v_along : Nat → Int32} {x6 : Int32} {out : Int32 × (Nat → Int32)} (X : kX p m meth c s args D (va_A wc0 s.heap.size) b_M_month "MountainFarmsModel" 7 (some .int)) (hf : f_M_month_4 x6 v_now = some out) {H : Heap} {locs : List Loc} (hV : kV D (va_A wc0 s.heap.size) s (wd_M_month D h h_now h_kept h_aside h_found h_down h_along h_parts h_gone h_tape h_kinds h_items h_widths h_sizes h_numbers h_moved v_isKept v_taped v_begins v_ends v_sort v_value v_isWrong v_itemMany v_farmMany v_farmCells v_now v_down v_along) H locs) {ls : Array Slot} (hl : lv_has ls 7 [(0, .ref h), (6, .int x6)]) : W p l e { frames := 5, cells := 0, slots := 0, locals := 120 } s m args below meth c H locs 0 0 (MQ below (kQi D wc0 (wd_M_month D h h_now h_kept h_aside h_found h_down h_along h_parts h_gone h_tape h_kinds h_items h_widths h_sizes h_numbers h_moved v_isKept v_taped v_begins v_ends v_sort v_value v_isWrong v_itemMany v_farmMany v_farmCells out.2 v_down v_along) s.heap.size out.1) args s 0 0 (va_A wc0 s.heap.size)) (F0 m 94 ls []) := by
  unfold f_M_month_4 at hf
  obtain ⟨hx, hb, -⟩ := id X
  refine lv_aload_n hx hb d_M_month_94 rfl (lv_at hl 0 rfl) ?_
  refine k_get X hV 0 9 0 rfl rfl rfl gw_887 rfl rfl d_M_month_95 ?_
  refine lv_iconst (v := 1) hx hb d_M_month_98 ic_1 ?_
  refine k_iald X hV 1 rfl kin_1_218 kln_1 d_M_month_99 ?_
  refine lv_iconst (v := 1) hx hb d_M_month_100 ic_1 ?_
  refine lv_iadd hx hb d_M_month_101 ?_
  refine lv_bipush (v := 12) hx hb d_M_month_102 bp_12 ?_
  refine lv_irem hx hb d_M_month_104 (by decide) ?_
  refine lv_if_ne (tgt := 112) hx hb d_M_month_105 (by decide) (fun c_34 => ?_) (fun c_34 => ?_)
  · replace hf := kifn c_34 hf
    exact t_M_month_5 X hf hV (lv_sub hl [0, 1] rfl)
  replace hf := kifp c_34 hf
  refine lv_aload_n hx hb d_M_month_108 rfl (lv_at hl 0 rfl) ?_
  obtain ⟨v_now_35, hc_36, hf⟩ := kb1_some hf
  refine k_cvv (w1 := (wd_M_yearIsOver D h h_now h_kept h_aside h_found h_down h_along h_parts h_gone h_tape h_kinds h_items h_widths h_sizes h_numbers h_moved v_isKept v_taped v_begins v_ends v_sort v_value v_isWrong v_itemMany v_farmMany v_farmCells v_now_35)) (ws' := (wd_M_month D h h_now h_kept h_aside h_found h_down h_along h_parts h_gone h_tape h_kinds h_items h_widths h_sizes h_numbers h_moved v_isKept v_taped v_begins v_ends v_sort v_value v_isWrong v_itemMany v_farmMany v_farmCells v_now_35 v_down v_along)) X hV hl.1 (c_M_yearIsOver D h h_now h_kept h_aside h_found h_down h_along h_parts h_gone h_tape h_kinds h_items h_widths h_sizes h_numbers h_moved v_isKept v_taped v_begins v_ends v_sort v_value v_isWrong v_itemMany v_farmMany v_farmCells v_now hc_36) fk_M_yearIsOver gw_1216 rfl 0 9 rfl rfl [0, 1] [some 0, some 1, none, none] rfl rfl ⟨rfl, rfl, rfl, rfl, rfl, rfl, rfl, rfl, trivial⟩ rfl rfl rfl d_M_month_109 (fun H locs hV => ?_)
  exact t_M_month_5 X hf hV (lv_sub hl [0, 1] rfl)
set_option maxHeartbeats 2000000 in
set_option maxRecDepth 20000 in
theorem t_M_month_3 {l : Launch} {p : Program} {e : Env} {s : State} {m : MethodId} {args : Array Value} {below : List Frame} {meth : Method} {c : Code} {D : kD} {wc0 : va_W} {h : Nat} {h_now : Nat} {h_kept : Nat} {h_aside : Nat} {h_found : Nat} {h_down : Nat} {h_along : Nat} {h_parts : Nat} {h_gone : Nat} {h_tape : Nat} {h_kinds : Nat} {h_items : Nat} {h_widths : Nat} {h_sizes : Nat} {h_numbers : Nat} {h_moved : Nat} {v_isKept : Int32} {v_taped : Int32} {v_begins : Int32} {v_ends : Int32} {v_sort : Int32} {v_value : Int32} {v_isWrong : Int32} {v_itemMany : Int32} {v_farmMany : Int32} {v_farmCells : Int64} {v_now : Nat → Int32} {v_down : Nat → Int32} {v_along : Nat → Int32} {s0 : Int32} {out : Int32 × (Nat → Int32)} (X : kX p m meth c s args D (va_A wc0 s.heap.size) b_M_month "MountainFarmsModel" 7 (some .int)) (hf : f_M_month_3 s0 v_now v_down v_along = some out) {H : Heap} {locs : List Loc} (hV : kV D (va_A wc0 s.heap.size) s (wd_M_month D h h_now h_kept h_aside h_found h_down h_along h_parts h_gone h_tape h_kinds h_items h_widths h_sizes h_numbers h_moved v_isKept v_taped v_begins v_ends v_sort v_value v_isWrong v_itemMany v_farmMany v_farmCells v_now v_down v_along) H locs) {ls : Array Slot} (hl : lv_has ls 7 [(0, .ref h)]) : W p l e { frames := 5, cells := 0, slots := 0, locals := 120 } s m args below meth c H locs 0 0 (MQ below (kQi D wc0 (wd_M_month D h h_now h_kept h_aside h_found h_down h_along h_parts h_gone h_tape h_kinds h_items h_widths h_sizes h_numbers h_moved v_isKept v_taped v_begins v_ends v_sort v_value v_isWrong v_itemMany v_farmMany v_farmCells out.2 v_down v_along) s.heap.size out.1) args s 0 0 (va_A wc0 s.heap.size)) (F0 m 82 ls [.int s0]) := by
  unfold f_M_month_3 at hf
  obtain ⟨hx, hb, -⟩ := id X
  refine lv_istore (lv' := [(6, .int s0), (0, .ref h)]) hx hb d_M_month_82 hl (by decide) rfl (fun ls hl => ?_)
  refine lv_iload hx hb d_M_month_84 (lv_at hl 0 rfl) ?_
  refine lv_iconst (v := 1) hx hb d_M_month_86 ic_1 ?_
  refine lv_icmp_ne (tgt := 94) hx hb d_M_month_87 (by decide) (fun c_31 => ?_) (fun c_31 => ?_)
  · replace hf := kifn c_31 hf
    exact t_M_month_4 X hf hV (lv_sub hl [1, 0] rfl)
  replace hf := kifp c_31 hf
  refine lv_aload_n hx hb d_M_month_90 rfl (lv_at hl 1 rfl) ?_
  obtain ⟨v_now_32, hc_33, hf⟩ := kb1_some hf
  refine k_cvv (w1 := (wd_M_comesOut D h h_now h_kept h_aside h_found h_down h_along h_parts h_gone h_tape h_kinds h_items h_widths h_sizes h_numbers h_moved v_isKept v_taped v_begins v_ends v_sort v_value v_isWrong v_itemMany v_farmMany v_farmCells v_now_32 v_down v_along)) (ws' := (wd_M_month D h h_now h_kept h_aside h_found h_down h_along h_parts h_gone h_tape h_kinds h_items h_widths h_sizes h_numbers h_moved v_isKept v_taped v_begins v_ends v_sort v_value v_isWrong v_itemMany v_farmMany v_farmCells v_now_32 v_down v_along)) X hV hl.1 (c_M_comesOut D h h_now h_kept h_aside h_found h_down h_along h_parts h_gone h_tape h_kinds h_items h_widths h_sizes h_numbers h_moved v_isKept v_taped v_begins v_ends v_sort v_value v_isWrong v_itemMany v_farmMany v_farmCells v_now v_down v_along hc_33) fk_M_comesOut gw_1212 rfl 0 9 rfl rfl [0, 1, 2, 3] [some 0, some 1, some 2, some 3] rfl rfl ⟨rfl, rfl, rfl, rfl, rfl, rfl, rfl, rfl, rfl, rfl, rfl, rfl, trivial⟩ rfl rfl rfl d_M_month_91 (fun H locs hV => ?_)
  exact t_M_month_4 X hf hV (lv_sub hl [1, 0] rfl)
set_option maxHeartbeats 2000000 in
set_option maxRecDepth 20000 in
theorem t_M_month_2 {l : Launch} {p : Program} {e : Env} {s : State} {m : MethodId} {args : Array Value} {below : List Frame} {meth : Method} {c : Code} {D : kD} {wc0 : va_W} {h : Nat} {h_now : Nat} {h_kept : Nat} {h_aside : Nat} {h_found : Nat} {h_down : Nat} {h_along : Nat} {h_parts : Nat} {h_gone : Nat} {h_tape : Nat} {h_kinds : Nat} {h_items : Nat} {h_widths : Nat} {h_sizes : Nat} {h_numbers : Nat} {h_moved : Nat} {v_isKept : Int32} {v_taped : Int32} {v_begins : Int32} {v_ends : Int32} {v_sort : Int32} {v_value : Int32} {v_isWrong : Int32} {v_itemMany : Int32} {v_farmMany : Int32} {v_farmCells : Int64} {v_now : Nat → Int32} {v_down : Nat → Int32} {v_along : Nat → Int32} {out : Int32 × (Nat → Int32)} (X : kX p m meth c s args D (va_A wc0 s.heap.size) b_M_month "MountainFarmsModel" 7 (some .int)) (hf : f_M_month_2 v_now v_down v_along = some out) {H : Heap} {locs : List Loc} (hV : kV D (va_A wc0 s.heap.size) s (wd_M_month D h h_now h_kept h_aside h_found h_down h_along h_parts h_gone h_tape h_kinds h_items h_widths h_sizes h_numbers h_moved v_isKept v_taped v_begins v_ends v_sort v_value v_isWrong v_itemMany v_farmMany v_farmCells v_now v_down v_along) H locs) {ls : Array Slot} (hl : lv_has ls 7 [(0, .ref h)]) : W p l e { frames := 5, cells := 0, slots := 0, locals := 120 } s m args below meth c H locs 0 0 (MQ below (kQi D wc0 (wd_M_month D h h_now h_kept h_aside h_found h_down h_along h_parts h_gone h_tape h_kinds h_items h_widths h_sizes h_numbers h_moved v_isKept v_taped v_begins v_ends v_sort v_value v_isWrong v_itemMany v_farmMany v_farmCells out.2 v_down v_along) s.heap.size out.1) args s 0 0 (va_A wc0 s.heap.size)) (F0 m 81 ls []) := by
  unfold f_M_month_2 at hf
  obtain ⟨hx, hb, -⟩ := id X
  refine lv_iconst (v := 0) hx hb d_M_month_81 ic_0 ?_
  exact t_M_month_3 X hf hV (lv_sub hl [0] rfl)
set_option maxHeartbeats 2000000 in
set_option maxRecDepth 20000 in
theorem tb_M_month_1 {l : Launch} {p : Program} {e : Env} {s : State} {m : MethodId} {args : Array Value} {below : List Frame} {meth : Method} {c : Code} {D : kD} {wc0 : va_W} {h : Nat} {h_now : Nat} {h_kept : Nat} {h_aside : Nat} {h_found : Nat} {h_down : Nat} {h_along : Nat} {h_parts : Nat} {h_gone : Nat} {h_tape : Nat} {h_kinds : Nat} {h_items : Nat} {h_widths : Nat} {h_sizes : Nat} {h_numbers : Nat} {h_moved : Nat} {v_isKept : Int32} {v_taped : Int32} {v_begins : Int32} {v_ends : Int32} {v_sort : Int32} {v_value : Int32} {v_isWrong : Int32} {v_itemMany : Int32} {v_farmMany : Int32} {v_farmCells : Int64} {v_now : Nat → Int32} {v_down : Nat → Int32} {v_along : Nat → Int32} {x1 : Int32} {x2 : Int32} {x3 : Int32} {x4 : Int32} {x5 : Int32} {rec1 : Int32 → Int32 → (Nat → Int32) → Option (Int32 × (Nat → Int32))} {out : Int32 × (Nat → Int32)} (X : kX p m meth c s args D (va_A wc0 s.heap.size) b_M_month "MountainFarmsModel" 7 (some .int)) (hrec1 : ∀ (x4 : Int32) (x5 : Int32) (v_now : Nat → Int32), rec1 x4 x5 v_now = some out → ∀ (H : Heap) (locs : List Loc) (ls : Array Slot), kV D (va_A wc0 s.heap.size) s (wd_M_month D h h_now h_kept h_aside h_found h_down h_along h_parts h_gone h_tape h_kinds h_items h_widths h_sizes h_numbers h_moved v_isKept v_taped v_begins v_ends v_sort v_value v_isWrong v_itemMany v_farmMany v_farmCells v_now v_down v_along) H locs → lv_has ls 7 [(0, .ref h), (1, .int x1), (2, .int x2), (3, .int x3), (4, .int x4), (5, .int x5)] → W p l e { frames := 5, cells := 0, slots := 0, locals := 120 } s m args below meth c H locs 0 0 (MQ below (kQi D wc0 (wd_M_month D h h_now h_kept h_aside h_found h_down h_along h_parts h_gone h_tape h_kinds h_items h_widths h_sizes h_numbers h_moved v_isKept v_taped v_begins v_ends v_sort v_value v_isWrong v_itemMany v_farmMany v_farmCells out.2 v_down v_along) s.heap.size out.1) args s 0 0 (va_A wc0 s.heap.size)) (F0 m 32 ls [])) (hf : fb_M_month_1 rec1 x1 x2 x3 v_down v_along x4 x5 v_now = some out) {H : Heap} {locs : List Loc} (hV : kV D (va_A wc0 s.heap.size) s (wd_M_month D h h_now h_kept h_aside h_found h_down h_along h_parts h_gone h_tape h_kinds h_items h_widths h_sizes h_numbers h_moved v_isKept v_taped v_begins v_ends v_sort v_value v_isWrong v_itemMany v_farmMany v_farmCells v_now v_down v_along) H locs) {ls : Array Slot} (hl : lv_has ls 7 [(0, .ref h), (1, .int x1), (2, .int x2), (3, .int x3), (4, .int x4), (5, .int x5)]) : W p l e { frames := 5, cells := 0, slots := 0, locals := 120 } s m args below meth c H locs 0 0 (MQ below (kQi D wc0 (wd_M_month D h h_now h_kept h_aside h_found h_down h_along h_parts h_gone h_tape h_kinds h_items h_widths h_sizes h_numbers h_moved v_isKept v_taped v_begins v_ends v_sort v_value v_isWrong v_itemMany v_farmMany v_farmCells out.2 v_down v_along) s.heap.size out.1) args s 0 0 (va_A wc0 s.heap.size)) (F0 m 32 ls []) := by
  unfold fb_M_month_1 at hf
  obtain ⟨hx, hb, -⟩ := id X
  refine lv_iload_n hx hb d_M_month_32 rfl (lv_at hl 1 rfl) ?_
  refine lv_iload hx hb d_M_month_33 (lv_at hl 5 rfl) ?_
  refine lv_icmp_lt (tgt := 58) hx hb d_M_month_35 (by decide) (fun c_26 => ?_) (fun c_26 => ?_)
  · replace hf := kifp c_26 hf
    refine lv_aload_n hx hb d_M_month_58 rfl (lv_at hl 0 rfl) ?_
    refine k_get X hV 0 9 0 rfl rfl rfl gw_887 rfl rfl d_M_month_59 ?_
    refine lv_iconst (v := 2) hx hb d_M_month_62 ic_2 ?_
    refine lv_iload hx hb d_M_month_63 (lv_at hl 4 rfl) ?_
    refine k_iast (ws' := (wd_M_month D h h_now h_kept h_aside h_found h_down h_along h_parts h_gone h_tape h_kinds h_items h_widths h_sizes h_numbers h_moved v_isKept v_taped v_begins v_ends v_sort v_value v_isWrong v_itemMany v_farmMany v_farmCells (upd v_now 2 x4) v_down v_along)) X hV 1 rfl kin_2_218 kln_2 rfl d_M_month_65 (fun H locs hV => ?_)
    refine lv_iload hx hb d_M_month_66 (lv_at hl 4 rfl) ?_
    refine lv_iconst (v := 3) hx hb d_M_month_68 ic_3 ?_
    refine lv_icmp_ne (tgt := 81) hx hb d_M_month_69 (by decide) (fun c_27 => ?_) (fun c_27 => ?_)
    · replace hf := kifn c_27 hf
      exact t_M_month_2 X hf hV (lv_sub hl [0] rfl)
    replace hf := kifp c_27 hf
    refine lv_iload_n hx hb d_M_month_72 rfl (lv_at hl 2 rfl) ?_
    refine lv_iconst (v := 3) hx hb d_M_month_73 ic_3 ?_
    refine lv_icmp_eq (tgt := 81) hx hb d_M_month_74 (by decide) (fun c_28 => ?_) (fun c_28 => ?_)
    · replace hf := kifp c_28 hf
      exact t_M_month_2 X hf hV (lv_sub hl [0] rfl)
    replace hf := kifn c_28 hf
    refine lv_iconst (v := 1) hx hb d_M_month_77 ic_1 ?_
    refine lv_goto (tgt := 82) hx hb d_M_month_78 (by decide) ?_
    exact t_M_month_3 X hf hV (lv_sub hl [0] rfl)
  replace hf := kifn c_26 hf
  refine lv_iinc (v := (x4 + 1)) (lv' := [(4, .int (x4 + 1)), (0, .ref h), (1, .int x1), (2, .int x2), (3, .int x3), (5, .int x5)]) hx hb d_M_month_38 hl (k := 4) rfl rfl (by decide) rfl (fun ls hl => ?_)
  refine lv_iload hx hb d_M_month_41 (lv_at hl 5 rfl) ?_
  refine lv_aload_n hx hb d_M_month_43 rfl (lv_at hl 1 rfl) ?_
  refine k_get X hV 0 9 0 rfl rfl rfl gw_887 rfl rfl d_M_month_44 ?_
  refine lv_iload_n hx hb d_M_month_47 rfl (lv_at hl 4 rfl) ?_
  refine lv_iload hx hb d_M_month_48 (lv_at hl 0 rfl) ?_
  refine lv_iadd hx hb d_M_month_50 ?_
  obtain ⟨h_29, hf⟩ := kidx_some hf
  refine k_iald X hV 1 rfl h_29 rfl d_M_month_51 ?_
  refine lv_iadd hx hb d_M_month_52 ?_
  refine k_leti hf (fun x5_30 hf => ?_)
  refine lv_istore (lv' := [(5, .int x5_30), (4, .int (x4 + 1)), (0, .ref h), (1, .int x1), (2, .int x2), (3, .int x3)]) hx hb d_M_month_53 hl (by decide) rfl (fun ls hl => ?_)
  refine lv_goto (tgt := 32) hx hb d_M_month_55 (by decide) ?_
  exact hrec1 _ _ _ hf _ _ _ hV (lv_sub hl [2, 3, 4, 5, 1, 0] rfl)
set_option maxHeartbeats 2000000 in
set_option maxRecDepth 20000 in
theorem tl_M_month_1 {l : Launch} {p : Program} {e : Env} {s : State} {m : MethodId} {args : Array Value} {below : List Frame} {meth : Method} {c : Code} {D : kD} {wc0 : va_W} {h : Nat} {h_now : Nat} {h_kept : Nat} {h_aside : Nat} {h_found : Nat} {h_down : Nat} {h_along : Nat} {h_parts : Nat} {h_gone : Nat} {h_tape : Nat} {h_kinds : Nat} {h_items : Nat} {h_widths : Nat} {h_sizes : Nat} {h_numbers : Nat} {h_moved : Nat} {v_isKept : Int32} {v_taped : Int32} {v_begins : Int32} {v_ends : Int32} {v_sort : Int32} {v_value : Int32} {v_isWrong : Int32} {v_itemMany : Int32} {v_farmMany : Int32} {v_farmCells : Int64} {v_down : Nat → Int32} {v_along : Nat → Int32} {x1 : Int32} {x2 : Int32} {x3 : Int32} {out : Int32 × (Nat → Int32)} (X : kX p m meth c s args D (va_A wc0 s.heap.size) b_M_month "MountainFarmsModel" 7 (some .int)) : ∀ (n : Nat) (x4 : Int32) (x5 : Int32) (v_now : Nat → Int32), fl_M_month_1 x1 x2 x3 v_down v_along n x4 x5 v_now = some out → ∀ (H : Heap) (locs : List Loc) (ls : Array Slot), kV D (va_A wc0 s.heap.size) s (wd_M_month D h h_now h_kept h_aside h_found h_down h_along h_parts h_gone h_tape h_kinds h_items h_widths h_sizes h_numbers h_moved v_isKept v_taped v_begins v_ends v_sort v_value v_isWrong v_itemMany v_farmMany v_farmCells v_now v_down v_along) H locs → lv_has ls 7 [(0, .ref h), (1, .int x1), (2, .int x2), (3, .int x3), (4, .int x4), (5, .int x5)] → W p l e { frames := 5, cells := 0, slots := 0, locals := 120 } s m args below meth c H locs 0 0 (MQ below (kQi D wc0 (wd_M_month D h h_now h_kept h_aside h_found h_down h_along h_parts h_gone h_tape h_kinds h_items h_widths h_sizes h_numbers h_moved v_isKept v_taped v_begins v_ends v_sort v_value v_isWrong v_itemMany v_farmMany v_farmCells out.2 v_down v_along) s.heap.size out.1) args s 0 0 (va_A wc0 s.heap.size)) (F0 m 32 ls []) := by
  intro n
  induction n with
  | zero => intro x4 x5 v_now hf; exact knone hf
  | succ n ih => intro x4 x5 v_now hf H locs ls hV hl; exact tb_M_month_1 X ih hf hV hl
set_option maxHeartbeats 2000000 in
set_option maxRecDepth 20000 in
theorem t_M_month {l : Launch} {p : Program} {e : Env} {s : State} {m : MethodId} {args : Array Value} {below : List Frame} {meth : Method} {c : Code} {D : kD} {wc0 : va_W} {h : Nat} {h_now : Nat} {h_kept : Nat} {h_aside : Nat} {h_found : Nat} {h_down : Nat} {h_along : Nat} {h_parts : Nat} {h_gone : Nat} {h_tape : Nat} {h_kinds : Nat} {h_items : Nat} {h_widths : Nat} {h_sizes : Nat} {h_numbers : Nat} {h_moved : Nat} {v_isKept : Int32} {v_taped : Int32} {v_begins : Int32} {v_ends : Int32} {v_sort : Int32} {v_value : Int32} {v_isWrong : Int32} {v_itemMany : Int32} {v_farmMany : Int32} {v_farmCells : Int64} {v_now : Nat → Int32} {v_down : Nat → Int32} {v_along : Nat → Int32} {out : Int32 × (Nat → Int32)} (X : kX p m meth c s args D (va_A wc0 s.heap.size) b_M_month "MountainFarmsModel" 7 (some .int)) (hf : f_M_month v_now v_down v_along = some out) {H : Heap} {locs : List Loc} (hV : kV D (va_A wc0 s.heap.size) s (wd_M_month D h h_now h_kept h_aside h_found h_down h_along h_parts h_gone h_tape h_kinds h_items h_widths h_sizes h_numbers h_moved v_isKept v_taped v_begins v_ends v_sort v_value v_isWrong v_itemMany v_farmMany v_farmCells v_now v_down v_along) H locs) {ls : Array Slot} (hl : lv_has ls 7 [(0, .ref h)]) : W p l e { frames := 5, cells := 0, slots := 0, locals := 120 } s m args below meth c H locs 0 0 (MQ below (kQi D wc0 (wd_M_month D h h_now h_kept h_aside h_found h_down h_along h_parts h_gone h_tape h_kinds h_items h_widths h_sizes h_numbers h_moved v_isKept v_taped v_begins v_ends v_sort v_value v_isWrong v_itemMany v_farmMany v_farmCells out.2 v_down v_along) s.heap.size out.1) args s 0 0 (va_A wc0 s.heap.size)) (F0 m 0 ls []) := by
  unfold f_M_month at hf
  obtain ⟨hx, hb, -⟩ := id X
  refine lv_aload_n hx hb d_M_month_0 rfl (lv_at hl 0 rfl) ?_
  refine lv_bipush (v := 10) hx hb d_M_month_1 bp_10 ?_
  obtain ⟨r_20, v_now_21, hc_22, hf⟩ := kb2_some hf
  refine k_cvi (w1 := (wd_M_drawn D h h_now h_kept h_aside h_found h_down h_along h_parts h_gone h_tape h_kinds h_items h_widths h_sizes h_numbers h_moved v_isKept v_taped v_begins v_ends v_sort v_value v_isWrong v_itemMany v_farmMany v_farmCells v_now_21)) (r := r_20) (ws' := (wd_M_month D h h_now h_kept h_aside h_found h_down h_along h_parts h_gone h_tape h_kinds h_items h_widths h_sizes h_numbers h_moved v_isKept v_taped v_begins v_ends v_sort v_value v_isWrong v_itemMany v_farmMany v_farmCells v_now_21 v_down v_along)) X hV hl.1 (c_M_drawn D h h_now h_kept h_aside h_found h_down h_along h_parts h_gone h_tape h_kinds h_items h_widths h_sizes h_numbers h_moved v_isKept v_taped v_begins v_ends v_sort v_value v_isWrong v_itemMany v_farmMany v_farmCells v_now (10 : Int32) hc_22) fk_M_drawn gw_1207 rfl 0 9 rfl rfl [0, 1] [some 0, some 1, none, none] rfl rfl ⟨rfl, rfl, rfl, rfl, rfl, rfl, rfl, rfl, trivial⟩ rfl rfl rfl d_M_month_3 (fun H locs hV => ?_)
  refine lv_istore_n (lv' := [(1, .int r_20), (0, .ref h)]) hx hb d_M_month_6 rfl hl (by decide) rfl (fun ls hl => ?_)
  refine lv_aload_n hx hb d_M_month_7 rfl (lv_at hl 1 rfl) ?_
  refine k_get X hV 0 9 0 rfl rfl rfl gw_887 rfl rfl d_M_month_8 ?_
  refine lv_iconst (v := 2) hx hb d_M_month_11 ic_2 ?_
  refine k_iald X hV 1 rfl kin_2_218 kln_2 d_M_month_12 ?_
  refine lv_istore_n (lv' := [(2, .int (v_now_21 2)), (1, .int r_20), (0, .ref h)]) hx hb d_M_month_13 rfl hl (by decide) rfl (fun ls hl => ?_)
  refine lv_bipush (v := 18) hx hb d_M_month_14 bp_18 ?_
  refine lv_iconst (v := 4) hx hb d_M_month_16 ic_4 ?_
  refine lv_iload_n hx hb d_M_month_17 rfl (lv_at hl 0 rfl) ?_
  refine lv_imul hx hb d_M_month_18 ?_
  refine lv_iadd hx hb d_M_month_19 ?_
  refine k_leti hf (fun x3_23 hf => ?_)
  refine lv_istore_n (lv' := [(3, .int x3_23), (2, .int (v_now_21 2)), (1, .int r_20), (0, .ref h)]) hx hb d_M_month_20 rfl hl (by decide) rfl (fun ls hl => ?_)
  refine lv_iconst (v := 0) hx hb d_M_month_21 ic_0 ?_
  refine lv_istore (lv' := [(4, .int (0 : Int32)), (3, .int x3_23), (2, .int (v_now_21 2)), (1, .int r_20), (0, .ref h)]) hx hb d_M_month_22 hl (by decide) rfl (fun ls hl => ?_)
  refine lv_aload_n hx hb d_M_month_24 rfl (lv_at hl 4 rfl) ?_
  refine k_get X hV 0 9 0 rfl rfl rfl gw_887 rfl rfl d_M_month_25 ?_
  refine lv_iload_n hx hb d_M_month_28 rfl (lv_at hl 1 rfl) ?_
  obtain ⟨h_24, hf⟩ := kidx_some hf
  refine k_iald X hV 1 rfl h_24 rfl d_M_month_29 ?_
  refine k_leti hf (fun x5_25 hf => ?_)
  refine lv_istore (lv' := [(5, .int x5_25), (4, .int (0 : Int32)), (3, .int x3_23), (2, .int (v_now_21 2)), (1, .int r_20), (0, .ref h)]) hx hb d_M_month_30 hl (by decide) rfl (fun ls hl => ?_)
  exact tl_M_month_1 X _ _ _ _ hf _ _ _ hV (lv_sub hl [5, 4, 3, 2, 1, 0] rfl)
set_option maxHeartbeats 2000000 in
set_option maxRecDepth 20000 in
theorem c_M_month {l : Launch} (D : kD) (h : Nat) (h_now : Nat) (h_kept : Nat) (h_aside : Nat) (h_found : Nat) (h_down : Nat) (h_along : Nat) (h_parts : Nat) (h_gone : Nat) (h_tape : Nat) (h_kinds : Nat) (h_items : Nat) (h_widths : Nat) (h_sizes : Nat) (h_numbers : Nat) (h_moved : Nat) (v_isKept : Int32) (v_taped : Int32) (v_begins : Int32) (v_ends : Int32) (v_sort : Int32) (v_value : Int32) (v_isWrong : Int32) (v_itemMany : Int32) (v_farmMany : Int32) (v_farmCells : Int64) (v_now : Nat → Int32) (v_down : Nat → Int32) (v_along : Nat → Int32) {out : Int32 × (Nat → Int32)} (hf : f_M_month v_now v_down v_along = some out) : kMi l D y_M_month b_M_month 7 (some .int) { frames := 5, cells := 0, slots := 0, locals := 120 } [.ref h] (wd_M_month D h h_now h_kept h_aside h_found h_down h_along h_parts h_gone h_tape h_kinds h_items h_widths h_sizes h_numbers h_moved v_isKept v_taped v_begins v_ends v_sort v_value v_isWrong v_itemMany v_farmMany v_farmCells v_now v_down v_along) (wd_M_month D h h_now h_kept h_aside h_found h_down h_along h_parts h_gone h_tape h_kinds h_items h_widths h_sizes h_numbers h_moved v_isKept v_taped v_begins v_ends v_sort v_value v_isWrong v_itemMany v_farmMany v_farmCells out.2 v_down v_along) out.1 :=
  kMi_of (own := "MountainFarmsModel") (plainFor_of_name (by decide)) rfl rfl (fun p e s m args below meth c ls X hV hl => t_M_month X hf hV hl)
set_option maxHeartbeats 2000000 in
set_option maxRecDepth 20000 in
theorem tb_M_monthsGo_1 {l : Launch} {p : Program} {e : Env} {s : State} {m : MethodId} {args : Array Value} {below : List Frame} {meth : Method} {c : Code} {D : kD} {wc0 : va_W} {h : Nat} {h_now : Nat} {h_kept : Nat} {h_aside : Nat} {h_found : Nat} {h_down : Nat} {h_along : Nat} {h_parts : Nat} {h_gone : Nat} {h_tape : Nat} {h_kinds : Nat} {h_items : Nat} {h_widths : Nat} {h_sizes : Nat} {h_numbers : Nat} {h_moved : Nat} {v_isKept : Int32} {v_taped : Int32} {v_begins : Int32} {v_ends : Int32} {v_sort : Int32} {v_value : Int32} {v_isWrong : Int32} {v_itemMany : Int32} {v_farmMany : Int32} {v_farmCells : Int64} {v_now : Nat → Int32} {v_down : Nat → Int32} {v_along : Nat → Int32} {x1 : Int32} {x2 : Int32} {x3 : Int32} {rec1 : Int32 → Int32 → (Nat → Int32) → Option (Int32 × (Nat → Int32))} {out : Int32 × (Nat → Int32)} (X : kX p m meth c s args D (va_A wc0 s.heap.size) b_M_monthsGo "MountainFarmsModel" 4 (some .int)) (hrec1 : ∀ (x2 : Int32) (x3 : Int32) (v_now : Nat → Int32), rec1 x2 x3 v_now = some out → ∀ (H : Heap) (locs : List Loc) (ls : Array Slot), kV D (va_A wc0 s.heap.size) s (wd_M_monthsGo D h h_now h_kept h_aside h_found h_down h_along h_parts h_gone h_tape h_kinds h_items h_widths h_sizes h_numbers h_moved v_isKept v_taped v_begins v_ends v_sort v_value v_isWrong v_itemMany v_farmMany v_farmCells v_now v_down v_along) H locs → lv_has ls 4 [(0, .ref h), (1, .int x1), (2, .int x2), (3, .int x3)] → W p l e { frames := 6, cells := 0, slots := 0, locals := 146 } s m args below meth c H locs 0 0 (MQ below (kQi D wc0 (wd_M_monthsGo D h h_now h_kept h_aside h_found h_down h_along h_parts h_gone h_tape h_kinds h_items h_widths h_sizes h_numbers h_moved v_isKept v_taped v_begins v_ends v_sort v_value v_isWrong v_itemMany v_farmMany v_farmCells out.2 v_down v_along) s.heap.size out.1) args s 0 0 (va_A wc0 s.heap.size)) (F0 m 4 ls [])) (hf : fb_M_monthsGo_1 rec1 x1 v_down v_along x2 x3 v_now = some out) {H : Heap} {locs : List Loc} (hV : kV D (va_A wc0 s.heap.size) s (wd_M_monthsGo D h h_now h_kept h_aside h_found h_down h_along h_parts h_gone h_tape h_kinds h_items h_widths h_sizes h_numbers h_moved v_isKept v_taped v_begins v_ends v_sort v_value v_isWrong v_itemMany v_farmMany v_farmCells v_now v_down v_along) H locs) {ls : Array Slot} (hl : lv_has ls 4 [(0, .ref h), (1, .int x1), (2, .int x2), (3, .int x3)]) : W p l e { frames := 6, cells := 0, slots := 0, locals := 146 } s m args below meth c H locs 0 0 (MQ below (kQi D wc0 (wd_M_monthsGo D h h_now h_kept h_aside h_found h_down h_along h_parts h_gone h_tape h_kinds h_items h_widths h_sizes h_numbers h_moved v_isKept v_taped v_begins v_ends v_sort v_value v_isWrong v_itemMany v_farmMany v_farmCells out.2 v_down v_along) s.heap.size out.1) args s 0 0 (va_A wc0 s.heap.size)) (F0 m 4 ls []) := by
  unfold fb_M_monthsGo_1 at hf
  obtain ⟨hx, hb, -⟩ := id X
  refine lv_iload_n hx hb d_M_monthsGo_4 rfl (lv_at hl 3 rfl) ?_
  refine lv_iload_n hx hb d_M_monthsGo_5 rfl (lv_at hl 1 rfl) ?_
  refine lv_icmp_ge (tgt := 22) hx hb d_M_monthsGo_6 (by decide) (fun c_5 => ?_) (fun c_5 => ?_)
  · replace hf := kifp c_5 hf
    refine lv_iload_n hx hb d_M_monthsGo_22 rfl (lv_at hl 2 rfl) ?_
    have e_ := Option.some.inj hf
    subst e_
    exact k_iret X rfl hV rfl d_M_monthsGo_23
  replace hf := kifn c_5 hf
  refine lv_iload_n hx hb d_M_monthsGo_9 rfl (lv_at hl 2 rfl) ?_
  refine lv_aload_n hx hb d_M_monthsGo_10 rfl (lv_at hl 0 rfl) ?_
  obtain ⟨r_6, v_now_7, hc_8, hf⟩ := kb2_some hf
  refine k_cvi (w1 := (wd_M_month D h h_now h_kept h_aside h_found h_down h_along h_parts h_gone h_tape h_kinds h_items h_widths h_sizes h_numbers h_moved v_isKept v_taped v_begins v_ends v_sort v_value v_isWrong v_itemMany v_farmMany v_farmCells v_now_7 v_down v_along)) (r := r_6) (ws' := (wd_M_monthsGo D h h_now h_kept h_aside h_found h_down h_along h_parts h_gone h_tape h_kinds h_items h_widths h_sizes h_numbers h_moved v_isKept v_taped v_begins v_ends v_sort v_value v_isWrong v_itemMany v_farmMany v_farmCells v_now_7 v_down v_along)) X hV hl.1 (c_M_month D h h_now h_kept h_aside h_found h_down h_along h_parts h_gone h_tape h_kinds h_items h_widths h_sizes h_numbers h_moved v_isKept v_taped v_begins v_ends v_sort v_value v_isWrong v_itemMany v_farmMany v_farmCells v_now v_down v_along hc_8) fk_M_month gw_1203 rfl 0 9 rfl rfl [0, 1, 2, 3] [some 0, some 1, some 2, some 3] rfl rfl ⟨rfl, rfl, rfl, rfl, rfl, rfl, rfl, rfl, rfl, rfl, rfl, rfl, trivial⟩ rfl rfl rfl d_M_monthsGo_11 (fun H locs hV => ?_)
  refine lv_iadd hx hb d_M_monthsGo_14 ?_
  refine lv_istore_n (lv' := [(2, .int (x2 + r_6)), (0, .ref h), (1, .int x1), (3, .int x3)]) hx hb d_M_monthsGo_15 rfl hl (by decide) rfl (fun ls hl => ?_)
  refine lv_iinc (v := (x3 + 1)) (lv' := [(3, .int (x3 + 1)), (2, .int (x2 + r_6)), (0, .ref h), (1, .int x1)]) hx hb d_M_monthsGo_16 hl (k := 3) rfl rfl (by decide) rfl (fun ls hl => ?_)
  refine lv_goto (tgt := 4) hx hb d_M_monthsGo_19 (by decide) ?_
  exact hrec1 _ _ _ hf _ _ _ hV (lv_sub hl [2, 3, 1, 0] rfl)
set_option maxHeartbeats 2000000 in
set_option maxRecDepth 20000 in
theorem tl_M_monthsGo_1 {l : Launch} {p : Program} {e : Env} {s : State} {m : MethodId} {args : Array Value} {below : List Frame} {meth : Method} {c : Code} {D : kD} {wc0 : va_W} {h : Nat} {h_now : Nat} {h_kept : Nat} {h_aside : Nat} {h_found : Nat} {h_down : Nat} {h_along : Nat} {h_parts : Nat} {h_gone : Nat} {h_tape : Nat} {h_kinds : Nat} {h_items : Nat} {h_widths : Nat} {h_sizes : Nat} {h_numbers : Nat} {h_moved : Nat} {v_isKept : Int32} {v_taped : Int32} {v_begins : Int32} {v_ends : Int32} {v_sort : Int32} {v_value : Int32} {v_isWrong : Int32} {v_itemMany : Int32} {v_farmMany : Int32} {v_farmCells : Int64} {v_down : Nat → Int32} {v_along : Nat → Int32} {x1 : Int32} {out : Int32 × (Nat → Int32)} (X : kX p m meth c s args D (va_A wc0 s.heap.size) b_M_monthsGo "MountainFarmsModel" 4 (some .int)) : ∀ (n : Nat) (x2 : Int32) (x3 : Int32) (v_now : Nat → Int32), fl_M_monthsGo_1 x1 v_down v_along n x2 x3 v_now = some out → ∀ (H : Heap) (locs : List Loc) (ls : Array Slot), kV D (va_A wc0 s.heap.size) s (wd_M_monthsGo D h h_now h_kept h_aside h_found h_down h_along h_parts h_gone h_tape h_kinds h_items h_widths h_sizes h_numbers h_moved v_isKept v_taped v_begins v_ends v_sort v_value v_isWrong v_itemMany v_farmMany v_farmCells v_now v_down v_along) H locs → lv_has ls 4 [(0, .ref h), (1, .int x1), (2, .int x2), (3, .int x3)] → W p l e { frames := 6, cells := 0, slots := 0, locals := 146 } s m args below meth c H locs 0 0 (MQ below (kQi D wc0 (wd_M_monthsGo D h h_now h_kept h_aside h_found h_down h_along h_parts h_gone h_tape h_kinds h_items h_widths h_sizes h_numbers h_moved v_isKept v_taped v_begins v_ends v_sort v_value v_isWrong v_itemMany v_farmMany v_farmCells out.2 v_down v_along) s.heap.size out.1) args s 0 0 (va_A wc0 s.heap.size)) (F0 m 4 ls []) := by
  intro n
  induction n with
  | zero => intro x2 x3 v_now hf; exact knone hf
  | succ n ih => intro x2 x3 v_now hf H locs ls hV hl; exact tb_M_monthsGo_1 X ih hf hV hl
set_option maxHeartbeats 2000000 in
set_option maxRecDepth 20000 in
theorem t_M_monthsGo {l : Launch} {p : Program} {e : Env} {s : State} {m : MethodId} {args : Array Value} {below : List Frame} {meth : Method} {c : Code} {D : kD} {wc0 : va_W} {h : Nat} {h_now : Nat} {h_kept : Nat} {h_aside : Nat} {h_found : Nat} {h_down : Nat} {h_along : Nat} {h_parts : Nat} {h_gone : Nat} {h_tape : Nat} {h_kinds : Nat} {h_items : Nat} {h_widths : Nat} {h_sizes : Nat} {h_numbers : Nat} {h_moved : Nat} {v_isKept : Int32} {v_taped : Int32} {v_begins : Int32} {v_ends : Int32} {v_sort : Int32} {v_value : Int32} {v_isWrong : Int32} {v_itemMany : Int32} {v_farmMany : Int32} {v_farmCells : Int64} {v_now : Nat → Int32} {v_down : Nat → Int32} {v_along : Nat → Int32} {x1 : Int32} {out : Int32 × (Nat → Int32)} (X : kX p m meth c s args D (va_A wc0 s.heap.size) b_M_monthsGo "MountainFarmsModel" 4 (some .int)) (hf : f_M_monthsGo v_now v_down v_along x1 = some out) {H : Heap} {locs : List Loc} (hV : kV D (va_A wc0 s.heap.size) s (wd_M_monthsGo D h h_now h_kept h_aside h_found h_down h_along h_parts h_gone h_tape h_kinds h_items h_widths h_sizes h_numbers h_moved v_isKept v_taped v_begins v_ends v_sort v_value v_isWrong v_itemMany v_farmMany v_farmCells v_now v_down v_along) H locs) {ls : Array Slot} (hl : lv_has ls 4 [(0, .ref h), (1, .int x1)]) : W p l e { frames := 6, cells := 0, slots := 0, locals := 146 } s m args below meth c H locs 0 0 (MQ below (kQi D wc0 (wd_M_monthsGo D h h_now h_kept h_aside h_found h_down h_along h_parts h_gone h_tape h_kinds h_items h_widths h_sizes h_numbers h_moved v_isKept v_taped v_begins v_ends v_sort v_value v_isWrong v_itemMany v_farmMany v_farmCells out.2 v_down v_along) s.heap.size out.1) args s 0 0 (va_A wc0 s.heap.size)) (F0 m 0 ls []) := by
  unfold f_M_monthsGo at hf
  obtain ⟨hx, hb, -⟩ := id X
  refine lv_iconst (v := 0) hx hb d_M_monthsGo_0 ic_0 ?_
  refine lv_istore_n (lv' := [(2, .int (0 : Int32)), (0, .ref h), (1, .int x1)]) hx hb d_M_monthsGo_1 rfl hl (by decide) rfl (fun ls hl => ?_)
  refine lv_iconst (v := 0) hx hb d_M_monthsGo_2 ic_0 ?_
  refine lv_istore_n (lv' := [(3, .int (0 : Int32)), (2, .int (0 : Int32)), (0, .ref h), (1, .int x1)]) hx hb d_M_monthsGo_3 rfl hl (by decide) rfl (fun ls hl => ?_)
  exact tl_M_monthsGo_1 X _ _ _ _ hf _ _ _ hV (lv_sub hl [2, 3, 1, 0] rfl)
set_option maxHeartbeats 2000000 in
set_option maxRecDepth 20000 in
theorem c_M_monthsGo {l : Launch} (D : kD) (h : Nat) (h_now : Nat) (h_kept : Nat) (h_aside : Nat) (h_found : Nat) (h_down : Nat) (h_along : Nat) (h_parts : Nat) (h_gone : Nat) (h_tape : Nat) (h_kinds : Nat) (h_items : Nat) (h_widths : Nat) (h_sizes : Nat) (h_numbers : Nat) (h_moved : Nat) (v_isKept : Int32) (v_taped : Int32) (v_begins : Int32) (v_ends : Int32) (v_sort : Int32) (v_value : Int32) (v_isWrong : Int32) (v_itemMany : Int32) (v_farmMany : Int32) (v_farmCells : Int64) (v_now : Nat → Int32) (v_down : Nat → Int32) (v_along : Nat → Int32) (x1 : Int32) {out : Int32 × (Nat → Int32)} (hf : f_M_monthsGo v_now v_down v_along x1 = some out) : kMi l D y_M_monthsGo b_M_monthsGo 4 (some .int) { frames := 6, cells := 0, slots := 0, locals := 146 } [.ref h, .int x1] (wd_M_monthsGo D h h_now h_kept h_aside h_found h_down h_along h_parts h_gone h_tape h_kinds h_items h_widths h_sizes h_numbers h_moved v_isKept v_taped v_begins v_ends v_sort v_value v_isWrong v_itemMany v_farmMany v_farmCells v_now v_down v_along) (wd_M_monthsGo D h h_now h_kept h_aside h_found h_down h_along h_parts h_gone h_tape h_kinds h_items h_widths h_sizes h_numbers h_moved v_isKept v_taped v_begins v_ends v_sort v_value v_isWrong v_itemMany v_farmMany v_farmCells out.2 v_down v_along) out.1 :=
  kMi_of (own := "MountainFarmsModel") (plainFor_of_name (by decide)) rfl rfl (fun p e s m args below meth c ls X hV hl => t_M_monthsGo X hf hV hl)
set_option maxHeartbeats 2000000 in
set_option maxRecDepth 20000 in
theorem t_M_months {l : Launch} {p : Program} {e : Env} {s : State} {m : MethodId} {args : Array Value} {below : List Frame} {meth : Method} {c : Code} {D : kD} {wc0 : va_W} {h : Nat} {h_now : Nat} {h_kept : Nat} {h_aside : Nat} {h_found : Nat} {h_down : Nat} {h_along : Nat} {h_parts : Nat} {h_gone : Nat} {h_tape : Nat} {h_kinds : Nat} {h_items : Nat} {h_widths : Nat} {h_sizes : Nat} {h_numbers : Nat} {h_moved : Nat} {v_isKept : Int32} {v_taped : Int32} {v_begins : Int32} {v_ends : Int32} {v_sort : Int32} {v_value : Int32} {v_isWrong : Int32} {v_itemMany : Int32} {v_farmMany : Int32} {v_farmCells : Int64} {v_now : Nat → Int32} {v_found : Nat → Int32} {v_down : Nat → Int32} {v_along : Nat → Int32} {x1 : Int32} {out : Int32 × (Nat → Int32) × (Nat → Int32)} (X : kX p m meth c s args D (va_A wc0 s.heap.size) b_M_months "MountainFarmsModel" 2 (some .int)) (hf : f_M_months v_now v_found v_down v_along x1 = some out) {H : Heap} {locs : List Loc} (hV : kV D (va_A wc0 s.heap.size) s (wd_M_months D h h_now h_kept h_aside h_found h_down h_along h_parts h_gone h_tape h_kinds h_items h_widths h_sizes h_numbers h_moved v_isKept v_taped v_begins v_ends v_sort v_value v_isWrong v_itemMany v_farmMany v_farmCells v_now v_found v_down v_along) H locs) {ls : Array Slot} (hl : lv_has ls 2 [(0, .ref h), (1, .int x1)]) : W p l e { frames := 7, cells := 0, slots := 0, locals := 169 } s m args below meth c H locs 0 0 (MQ below (kQi D wc0 (wd_M_months D h h_now h_kept h_aside h_found h_down h_along h_parts h_gone h_tape h_kinds h_items h_widths h_sizes h_numbers h_moved v_isKept v_taped v_begins v_ends v_sort v_value v_isWrong v_itemMany v_farmMany v_farmCells out.2.1 out.2.2 v_down v_along) s.heap.size out.1) args s 0 0 (va_A wc0 s.heap.size)) (F0 m 0 ls []) := by
  unfold f_M_months at hf
  obtain ⟨hx, hb, -⟩ := id X
  refine lv_iload_n hx hb d_M_months_0 rfl (lv_at hl 1 rfl) ?_
  refine lv_iconst (v := 1) hx hb d_M_months_1 ic_1 ?_
  refine lv_sipush (v := 240) hx hb d_M_months_2 sp_240 ?_
  obtain ⟨r_16, hc_17, hf⟩ := kb1_some hf
  refine k_csi (w1 := (wd_M_within D)) (r := r_16) (ws' := (wd_M_months D h h_now h_kept h_aside h_found h_down h_along h_parts h_gone h_tape h_kinds h_items h_widths h_sizes h_numbers h_moved v_isKept v_taped v_begins v_ends v_sort v_value v_isWrong v_itemMany v_farmMany v_farmCells v_now v_found v_down v_along)) X hV hl.1 (c_M_within D x1 (1 : Int32) (240 : Int32) hc_17) fk_M_within gw_970 rfl [] [none, none, none, none, none] rfl rfl ⟨rfl, rfl, rfl, rfl, rfl, trivial⟩ rfl rfl rfl d_M_months_5 (fun H locs hV => ?_)
  refine lv_if_ne (tgt := 18) hx hb d_M_months_8 (by decide) (fun c_18 => ?_) (fun c_18 => ?_)
  · replace hf := kifn c_18 hf
    refine lv_aload_n hx hb d_M_months_18 rfl (lv_at hl 0 rfl) ?_
    refine lv_iload_n hx hb d_M_months_19 rfl (lv_at hl 1 rfl) ?_
    obtain ⟨r_19, hc_20, hf⟩ := kb1_some hf
    refine k_cvi (w1 := (wd_M_isTooLate D h h_now h_kept h_aside h_found h_down h_along h_parts h_gone h_tape h_kinds h_items h_widths h_sizes h_numbers h_moved v_isKept v_taped v_begins v_ends v_sort v_value v_isWrong v_itemMany v_farmMany v_farmCells v_now)) (r := r_19) (ws' := (wd_M_months D h h_now h_kept h_aside h_found h_down h_along h_parts h_gone h_tape h_kinds h_items h_widths h_sizes h_numbers h_moved v_isKept v_taped v_begins v_ends v_sort v_value v_isWrong v_itemMany v_farmMany v_farmCells v_now v_found v_down v_along)) X hV hl.1 (c_M_isTooLate D h h_now h_kept h_aside h_found h_down h_along h_parts h_gone h_tape h_kinds h_items h_widths h_sizes h_numbers h_moved v_isKept v_taped v_begins v_ends v_sort v_value v_isWrong v_itemMany v_farmMany v_farmCells v_now x1 hc_20) fk_M_isTooLate gw_1195 rfl 0 9 rfl rfl [0, 1] [some 0, some 1, none, none, none] rfl rfl ⟨rfl, rfl, rfl, rfl, rfl, rfl, rfl, rfl, rfl, trivial⟩ rfl rfl rfl d_M_months_20 (fun H locs hV => ?_)
    refine lv_if_eq (tgt := 35) hx hb d_M_months_23 (by decide) (fun c_21 => ?_) (fun c_21 => ?_)
    · replace hf := kifp c_21 hf
      refine lv_aload_n hx hb d_M_months_35 rfl (lv_at hl 0 rfl) ?_
      refine lv_iload_n hx hb d_M_months_36 rfl (lv_at hl 1 rfl) ?_
      obtain ⟨r_22, v_now_23, hc_24, hf⟩ := kb2_some hf
      refine k_cvi (w1 := (wd_M_monthsGo D h h_now h_kept h_aside h_found h_down h_along h_parts h_gone h_tape h_kinds h_items h_widths h_sizes h_numbers h_moved v_isKept v_taped v_begins v_ends v_sort v_value v_isWrong v_itemMany v_farmMany v_farmCells v_now_23 v_down v_along)) (r := r_22) (ws' := (wd_M_months D h h_now h_kept h_aside h_found h_down h_along h_parts h_gone h_tape h_kinds h_items h_widths h_sizes h_numbers h_moved v_isKept v_taped v_begins v_ends v_sort v_value v_isWrong v_itemMany v_farmMany v_farmCells v_now_23 v_found v_down v_along)) X hV hl.1 (c_M_monthsGo D h h_now h_kept h_aside h_found h_down h_along h_parts h_gone h_tape h_kinds h_items h_widths h_sizes h_numbers h_moved v_isKept v_taped v_begins v_ends v_sort v_value v_isWrong v_itemMany v_farmMany v_farmCells v_now v_down v_along x1 hc_24) fk_M_monthsGo gw_1199 rfl 0 9 rfl rfl [0, 1, 3, 4] [some 0, some 1, none, some 2, some 3] rfl rfl ⟨rfl, rfl, rfl, rfl, rfl, rfl, rfl, rfl, rfl, rfl, rfl, rfl, rfl, trivial⟩ rfl rfl rfl d_M_months_37 (fun H locs hV => ?_)
      have e_ := Option.some.inj hf
      subst e_
      exact k_iret X rfl hV rfl d_M_months_40
    replace hf := kifn c_21 hf
    refine lv_aload_n hx hb d_M_months_26 rfl (lv_at hl 0 rfl) ?_
    refine k_ldc (v := (-1000000005)) X gw_1025 d_M_months_27 ?_
    obtain ⟨r_25, v_found_26, hc_27, hf⟩ := kb2_some hf
    refine k_cvi (w1 := (wd_M_finding D h h_now h_kept h_aside h_found h_down h_along h_parts h_gone h_tape h_kinds h_items h_widths h_sizes h_numbers h_moved v_isKept v_taped v_begins v_ends v_sort v_value v_isWrong v_itemMany v_farmMany v_farmCells v_found_26)) (r := r_25) (ws' := (wd_M_months D h h_now h_kept h_aside h_found h_down h_along h_parts h_gone h_tape h_kinds h_items h_widths h_sizes h_numbers h_moved v_isKept v_taped v_begins v_ends v_sort v_value v_isWrong v_itemMany v_farmMany v_farmCells v_now v_found_26 v_down v_along)) X hV hl.1 (c_M_finding D h h_now h_kept h_aside h_found h_down h_along h_parts h_gone h_tape h_kinds h_items h_widths h_sizes h_numbers h_moved v_isKept v_taped v_begins v_ends v_sort v_value v_isWrong v_itemMany v_farmMany v_farmCells v_found (-1000000005 : Int32) hc_27) fk_M_finding gw_974 rfl 0 9 rfl rfl [0, 2] [some 0, none, some 1, none, none] rfl rfl ⟨rfl, rfl, rfl, rfl, rfl, rfl, rfl, rfl, rfl, trivial⟩ rfl rfl rfl d_M_months_29 (fun H locs hV => ?_)
    refine lv_goto (tgt := 40) hx hb d_M_months_32 (by decide) ?_
    have e_ := Option.some.inj hf
    subst e_
    exact k_iret X rfl hV rfl d_M_months_40
  replace hf := kifp c_18 hf
  refine lv_aload_n hx hb d_M_months_11 rfl (lv_at hl 0 rfl) ?_
  refine k_ldc (v := (-1000000001)) X gw_973 d_M_months_12 ?_
  obtain ⟨r_28, v_found_29, hc_30, hf⟩ := kb2_some hf
  refine k_cvi (w1 := (wd_M_finding D h h_now h_kept h_aside h_found h_down h_along h_parts h_gone h_tape h_kinds h_items h_widths h_sizes h_numbers h_moved v_isKept v_taped v_begins v_ends v_sort v_value v_isWrong v_itemMany v_farmMany v_farmCells v_found_29)) (r := r_28) (ws' := (wd_M_months D h h_now h_kept h_aside h_found h_down h_along h_parts h_gone h_tape h_kinds h_items h_widths h_sizes h_numbers h_moved v_isKept v_taped v_begins v_ends v_sort v_value v_isWrong v_itemMany v_farmMany v_farmCells v_now v_found_29 v_down v_along)) X hV hl.1 (c_M_finding D h h_now h_kept h_aside h_found h_down h_along h_parts h_gone h_tape h_kinds h_items h_widths h_sizes h_numbers h_moved v_isKept v_taped v_begins v_ends v_sort v_value v_isWrong v_itemMany v_farmMany v_farmCells v_found (-1000000001 : Int32) hc_30) fk_M_finding gw_974 rfl 0 9 rfl rfl [0, 2] [some 0, none, some 1, none, none] rfl rfl ⟨rfl, rfl, rfl, rfl, rfl, rfl, rfl, rfl, rfl, trivial⟩ rfl rfl rfl d_M_months_14 (fun H locs hV => ?_)
  have e_ := Option.some.inj hf
  subst e_
  exact k_iret X rfl hV rfl d_M_months_17
set_option maxHeartbeats 2000000 in
set_option maxRecDepth 20000 in
theorem c_M_months {l : Launch} (D : kD) (h : Nat) (h_now : Nat) (h_kept : Nat) (h_aside : Nat) (h_found : Nat) (h_down : Nat) (h_along : Nat) (h_parts : Nat) (h_gone : Nat) (h_tape : Nat) (h_kinds : Nat) (h_items : Nat) (h_widths : Nat) (h_sizes : Nat) (h_numbers : Nat) (h_moved : Nat) (v_isKept : Int32) (v_taped : Int32) (v_begins : Int32) (v_ends : Int32) (v_sort : Int32) (v_value : Int32) (v_isWrong : Int32) (v_itemMany : Int32) (v_farmMany : Int32) (v_farmCells : Int64) (v_now : Nat → Int32) (v_found : Nat → Int32) (v_down : Nat → Int32) (v_along : Nat → Int32) (x1 : Int32) {out : Int32 × (Nat → Int32) × (Nat → Int32)} (hf : f_M_months v_now v_found v_down v_along x1 = some out) : kMi l D y_M_months b_M_months 2 (some .int) { frames := 7, cells := 0, slots := 0, locals := 169 } [.ref h, .int x1] (wd_M_months D h h_now h_kept h_aside h_found h_down h_along h_parts h_gone h_tape h_kinds h_items h_widths h_sizes h_numbers h_moved v_isKept v_taped v_begins v_ends v_sort v_value v_isWrong v_itemMany v_farmMany v_farmCells v_now v_found v_down v_along) (wd_M_months D h h_now h_kept h_aside h_found h_down h_along h_parts h_gone h_tape h_kinds h_items h_widths h_sizes h_numbers h_moved v_isKept v_taped v_begins v_ends v_sort v_value v_isWrong v_itemMany v_farmMany v_farmCells out.2.1 out.2.2 v_down v_along) out.1 :=
  kMi_of (own := "MountainFarmsModel") (plainFor_of_name (by decide)) rfl rfl (fun p e s m args below meth c ls X hV hl => t_M_months X hf hV hl)
