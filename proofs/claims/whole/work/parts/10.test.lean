/-! printed by wip/gen: walks -/
set_option maxHeartbeats 2000000 in
set_option maxRecDepth 20000 in
theorem t_X_isCell {l : Launch} {p : Program} {e : Env} {s : State} {m : MethodId} {args : Array Value} {below : List Frame} {meth : Method} {c : Code} {D : kD} {wc0 : va_W} {x0 : Int32} {out : Int32} (X : kX p m meth c s args D (va_A wc0 s.heap.size) b_X_isCell "MountainFarms" 1 (some .boolean)) (hf : f_X_isCell x0 = some out) {H : Heap} {locs : List Loc} (hV : kV D (va_A wc0 s.heap.size) s (wd_X_isCell D) H locs) {ls : Array Slot} (hl : lv_has ls 1 [(0, .int x0)]) : W p l e { frames := 0, cells := 0, slots := 0, locals := 0 } s m args below meth c H locs 0 0 (MQ below (kQi D wc0 (wd_X_isCell D) s.heap.size out) args s 0 0 (va_A wc0 s.heap.size)) (F0 m 0 ls []) := by
  unfold f_X_isCell at hf
  obtain ⟨hx, hb, -⟩ := id X
  refine lv_iload_n hx hb d_X_isCell_0 rfl (lv_at hl 0 rfl) ?_
  refine lv_if_lt (tgt := 14) hx hb d_X_isCell_1 (by decide) (fun c_3 => ?_) (fun c_3 => ?_)
  · replace hf := kifp c_3 hf
    refine lv_iconst (v := 0) hx hb d_X_isCell_14 ic_0 ?_
    have e_ := Option.some.inj hf
    subst e_
    exact k_iret (v := 0) X rfl hV nb0 d_X_isCell_15
  replace hf := kifn c_3 hf
  refine lv_iload_n hx hb d_X_isCell_4 rfl (lv_at hl 0 rfl) ?_
  refine lv_bipush (v := 36) hx hb d_X_isCell_5 bp_36 ?_
  refine lv_icmp_ge (tgt := 14) hx hb d_X_isCell_7 (by decide) (fun c_4 => ?_) (fun c_4 => ?_)
  · replace hf := kifp c_4 hf
    refine lv_iconst (v := 0) hx hb d_X_isCell_14 ic_0 ?_
    have e_ := Option.some.inj hf
    subst e_
    exact k_iret (v := 0) X rfl hV nb0 d_X_isCell_15
  replace hf := kifn c_4 hf
  refine lv_iconst (v := 1) hx hb d_X_isCell_10 ic_1 ?_
  refine lv_goto (tgt := 15) hx hb d_X_isCell_11 (by decide) ?_
  have e_ := Option.some.inj hf
  subst e_
  exact k_iret (v := 1) X rfl hV nb1 d_X_isCell_15
set_option maxHeartbeats 2000000 in
set_option maxRecDepth 20000 in
theorem c_X_isCell {l : Launch} (D : kD) (x0 : Int32) {out : Int32} (hf : f_X_isCell x0 = some out) : kMi l D y_X_isCell b_X_isCell 1 (some .boolean) { frames := 0, cells := 0, slots := 0, locals := 0 } [.int x0] (wd_X_isCell D) (wd_X_isCell D) out :=
  kMi_of (own := "MountainFarms") (plainFor_of_name (by decide)) rfl rfl (fun p e s m args below meth c ls X hV hl => t_X_isCell X hf hV hl)
set_option maxHeartbeats 2000000 in
set_option maxRecDepth 20000 in
theorem t_X_isWithin {l : Launch} {p : Program} {e : Env} {s : State} {m : MethodId} {args : Array Value} {below : List Frame} {meth : Method} {c : Code} {D : kD} {wc0 : va_W} {x0 : Int32} {x1 : Int32} {x2 : Int32} {out : Int32} (X : kX p m meth c s args D (va_A wc0 s.heap.size) b_X_isWithin "MountainFarms" 3 (some .boolean)) (hf : f_X_isWithin x0 x1 x2 = some out) {H : Heap} {locs : List Loc} (hV : kV D (va_A wc0 s.heap.size) s (wd_X_isWithin D) H locs) {ls : Array Slot} (hl : lv_has ls 3 [(0, .int x0), (1, .int x1), (2, .int x2)]) : W p l e { frames := 0, cells := 0, slots := 0, locals := 0 } s m args below meth c H locs 0 0 (MQ below (kQi D wc0 (wd_X_isWithin D) s.heap.size out) args s 0 0 (va_A wc0 s.heap.size)) (F0 m 0 ls []) := by
  unfold f_X_isWithin at hf
  obtain ⟨hx, hb, -⟩ := id X
  refine lv_iload_n hx hb d_X_isWithin_0 rfl (lv_at hl 0 rfl) ?_
  refine lv_iload_n hx hb d_X_isWithin_1 rfl (lv_at hl 1 rfl) ?_
  refine lv_icmp_lt (tgt := 14) hx hb d_X_isWithin_2 (by decide) (fun c_3 => ?_) (fun c_3 => ?_)
  · replace hf := kifp c_3 hf
    refine lv_iconst (v := 0) hx hb d_X_isWithin_14 ic_0 ?_
    have e_ := Option.some.inj hf
    subst e_
    exact k_iret (v := 0) X rfl hV nb0 d_X_isWithin_15
  replace hf := kifn c_3 hf
  refine lv_iload_n hx hb d_X_isWithin_5 rfl (lv_at hl 0 rfl) ?_
  refine lv_iload_n hx hb d_X_isWithin_6 rfl (lv_at hl 2 rfl) ?_
  refine lv_icmp_gt (tgt := 14) hx hb d_X_isWithin_7 (by decide) (fun c_4 => ?_) (fun c_4 => ?_)
  · replace hf := kifp c_4 hf
    refine lv_iconst (v := 0) hx hb d_X_isWithin_14 ic_0 ?_
    have e_ := Option.some.inj hf
    subst e_
    exact k_iret (v := 0) X rfl hV nb0 d_X_isWithin_15
  replace hf := kifn c_4 hf
  refine lv_iconst (v := 1) hx hb d_X_isWithin_10 ic_1 ?_
  refine lv_goto (tgt := 15) hx hb d_X_isWithin_11 (by decide) ?_
  have e_ := Option.some.inj hf
  subst e_
  exact k_iret (v := 1) X rfl hV nb1 d_X_isWithin_15
set_option maxHeartbeats 2000000 in
set_option maxRecDepth 20000 in
theorem c_X_isWithin {l : Launch} (D : kD) (x0 : Int32) (x1 : Int32) (x2 : Int32) {out : Int32} (hf : f_X_isWithin x0 x1 x2 = some out) : kMi l D y_X_isWithin b_X_isWithin 3 (some .boolean) { frames := 0, cells := 0, slots := 0, locals := 0 } [.int x0, .int x1, .int x2] (wd_X_isWithin D) (wd_X_isWithin D) out :=
  kMi_of (own := "MountainFarms") (plainFor_of_name (by decide)) rfl rfl (fun p e s m args below meth c ls X hV hl => t_X_isWithin X hf hV hl)
set_option maxHeartbeats 2000000 in
set_option maxRecDepth 20000 in
theorem t_X_finding {l : Launch} {p : Program} {e : Env} {s : State} {m : MethodId} {args : Array Value} {below : List Frame} {meth : Method} {c : Code} {D : kD} {wc0 : va_W} {h : Nat} {h_here : Nat} {h_kept : Nat} {h_trial : Nat} {h_parts : Nat} {h_text : Nat} {h_sheets : Nat} {h_findings : Nat} {v_isKept : Int32} {v_findings : Nat → Int32} {x1 : Int32} {out : Int32 × (Nat → Int32)} (X : kX p m meth c s args D (va_A wc0 s.heap.size) b_X_finding "MountainFarms" 2 (some .int)) (hf : f_X_finding v_findings x1 = some out) {H : Heap} {locs : List Loc} (hV : kV D (va_A wc0 s.heap.size) s (wd_X_finding D h h_here h_kept h_trial h_parts h_text h_sheets h_findings v_isKept v_findings) H locs) {ls : Array Slot} (hl : lv_has ls 2 [(0, .ref h), (1, .int x1)]) : W p l e { frames := 1, cells := 0, slots := 0, locals := 22 } s m args below meth c H locs 0 0 (MQ below (kQi D wc0 (wd_X_finding D h h_here h_kept h_trial h_parts h_text h_sheets h_findings v_isKept out.2) s.heap.size out.1) args s 0 0 (va_A wc0 s.heap.size)) (F0 m 0 ls []) := by
  unfold f_X_finding at hf
  obtain ⟨hx, hb, -⟩ := id X
  refine lv_iload_n hx hb d_X_finding_0 rfl (lv_at hl 1 rfl) ?_
  refine lv_iconst (v := 0) hx hb d_X_finding_1 ic_0 ?_
  refine lv_bipush (v := 6) hx hb d_X_finding_2 bp_6 ?_
  obtain ⟨r_6, hc_7, hf⟩ := kb1_some hf
  refine k_csi (w1 := (wd_X_isWithin D)) (r := r_6) (ws' := (wd_X_finding D h h_here h_kept h_trial h_parts h_text h_sheets h_findings v_isKept v_findings)) X hV hl.1 (c_X_isWithin D x1 (0 : Int32) (6 : Int32) hc_7) fk_X_isWithin gw_281 rfl [] [none, none] rfl rfl ⟨rfl, rfl, trivial⟩ rfl rfl rfl d_X_finding_4 (fun H locs hV => ?_)
  refine lv_if_eq (tgt := 20) hx hb d_X_finding_7 (by decide) (fun c_8 => ?_) (fun c_8 => ?_)
  · replace hf := kifp c_8 hf
    refine k_ldcw (v := (-1000000001)) X gw_288 d_X_finding_20 ?_
    refine lv_iload_n hx hb d_X_finding_23 rfl (lv_at hl 1 rfl) ?_
    refine lv_isub hx hb d_X_finding_24 ?_
    have e_ := Option.some.inj hf
    subst e_
    exact k_iret X rfl hV rfl d_X_finding_25
  replace hf := kifn c_8 hf
  refine lv_aload_n hx hb d_X_finding_10 rfl (lv_at hl 0 rfl) ?_
  refine k_get X hV 0 8 6 rfl rfl rfl gw_255 rfl rfl d_X_finding_11 ?_
  refine lv_iload_n hx hb d_X_finding_14 rfl (lv_at hl 1 rfl) ?_
  refine lv_dup2_11 hx hb d_X_finding_15 rfl rfl ?_
  obtain ⟨h_9, hf⟩ := kidx_some hf
  refine k_iald X hV 1 rfl h_9 rfl d_X_finding_16 ?_
  refine lv_iconst (v := 1) hx hb d_X_finding_17 ic_1 ?_
  refine lv_iadd hx hb d_X_finding_18 ?_
  obtain ⟨h_10, hf⟩ := kidx_some hf
  refine k_iast (ws' := (wd_X_finding D h h_here h_kept h_trial h_parts h_text h_sheets h_findings v_isKept (upd v_findings x1.toNatClampNeg ((v_findings x1.toNatClampNeg) + (1 : Int32))))) X hV 1 rfl h_10 rfl rfl d_X_finding_19 (fun H locs hV => ?_)
  refine k_ldcw (v := (-1000000001)) X gw_288 d_X_finding_20 ?_
  refine lv_iload_n hx hb d_X_finding_23 rfl (lv_at hl 1 rfl) ?_
  refine lv_isub hx hb d_X_finding_24 ?_
  have e_ := Option.some.inj hf
  subst e_
  exact k_iret X rfl hV rfl d_X_finding_25
set_option maxHeartbeats 2000000 in
set_option maxRecDepth 20000 in
theorem c_X_finding {l : Launch} (D : kD) (h : Nat) (h_here : Nat) (h_kept : Nat) (h_trial : Nat) (h_parts : Nat) (h_text : Nat) (h_sheets : Nat) (h_findings : Nat) (v_isKept : Int32) (v_findings : Nat → Int32) (x1 : Int32) {out : Int32 × (Nat → Int32)} (hf : f_X_finding v_findings x1 = some out) : kMi l D y_X_finding b_X_finding 2 (some .int) { frames := 1, cells := 0, slots := 0, locals := 22 } [.ref h, .int x1] (wd_X_finding D h h_here h_kept h_trial h_parts h_text h_sheets h_findings v_isKept v_findings) (wd_X_finding D h h_here h_kept h_trial h_parts h_text h_sheets h_findings v_isKept out.2) out.1 :=
  kMi_of (own := "MountainFarms") (plainFor_of_name (by decide)) rfl rfl (fun p e s m args below meth c ls X hV hl => t_X_finding X hf hV hl)
set_option maxHeartbeats 2000000 in
set_option maxRecDepth 20000 in
theorem t_X_beside {l : Launch} {p : Program} {e : Env} {s : State} {m : MethodId} {args : Array Value} {below : List Frame} {meth : Method} {c : Code} {D : kD} {wc0 : va_W} {x0 : Int32} {x1 : Int32} {out : Int32} (X : kX p m meth c s args D (va_A wc0 s.heap.size) b_X_beside "MountainFarms" 4 (some .int)) (hf : f_X_beside x0 x1 = some out) {H : Heap} {locs : List Loc} (hV : kV D (va_A wc0 s.heap.size) s (wd_X_beside D) H locs) {ls : Array Slot} (hl : lv_has ls 4 [(0, .int x0), (1, .int x1)]) : W p l e { frames := 0, cells := 0, slots := 0, locals := 0 } s m args below meth c H locs 0 0 (MQ below (kQi D wc0 (wd_X_beside D) s.heap.size out) args s 0 0 (va_A wc0 s.heap.size)) (F0 m 0 ls []) := by
  unfold f_X_beside at hf
  obtain ⟨hx, hb, -⟩ := id X
  refine lv_iload_n hx hb d_X_beside_0 rfl (lv_at hl 0 rfl) ?_
  refine lv_if_lt (tgt := 10) hx hb d_X_beside_1 (by decide) (fun c_12 => ?_) (fun c_12 => ?_)
  · replace hf := kifp c_12 hf
    refine lv_iconst (v := (-1)) hx hb d_X_beside_10 ic_m1 ?_
    have e_ := Option.some.inj hf
    subst e_
    exact k_iret X rfl hV rfl d_X_beside_11
  replace hf := kifn c_12 hf
  refine lv_iload_n hx hb d_X_beside_4 rfl (lv_at hl 0 rfl) ?_
  refine lv_bipush (v := 36) hx hb d_X_beside_5 bp_36 ?_
  refine lv_icmp_lt (tgt := 12) hx hb d_X_beside_7 (by decide) (fun c_13 => ?_) (fun c_13 => ?_)
  · replace hf := kifp c_13 hf
    refine lv_iload_n hx hb d_X_beside_12 rfl (lv_at hl 0 rfl) ?_
    refine lv_bipush (v := 6) hx hb d_X_beside_13 bp_6 ?_
    refine lv_idiv hx hb d_X_beside_15 (by decide) ?_
    refine lv_istore_n (lv' := [(2, .int (x0 / (6 : Int32))), (0, .int x0), (1, .int x1)]) hx hb d_X_beside_16 rfl hl (by decide) rfl (fun ls hl => ?_)
    refine lv_iload_n hx hb d_X_beside_17 rfl (lv_at hl 1 rfl) ?_
    refine lv_bipush (v := 6) hx hb d_X_beside_18 bp_6 ?_
    refine lv_irem hx hb d_X_beside_20 (by decide) ?_
    refine k_leti hf (fun x3_14 hf => ?_)
    refine lv_istore_n (lv' := [(3, .int x3_14), (2, .int (x0 / (6 : Int32))), (0, .int x0), (1, .int x1)]) hx hb d_X_beside_21 rfl hl (by decide) rfl (fun ls hl => ?_)
    refine lv_iload_n hx hb d_X_beside_22 rfl (lv_at hl 3 rfl) ?_
    by_cases c_15 : x1 = 0
    · replace hf := kifp c_15 hf
      refine k_tabIn (tgt := 52) (off := 29) X d_X_beside_23 c_15 (by decide) ?_
      refine lv_iload_n hx hb d_X_beside_52 rfl (lv_at hl 1 rfl) ?_
      refine lv_if_le (tgt := 63) hx hb d_X_beside_53 (by decide) (fun c_16 => ?_) (fun c_16 => ?_)
      · replace hf := kifp c_16 hf
        refine lv_iconst (v := (-1)) hx hb d_X_beside_63 ic_m1 ?_
        have e_ := Option.some.inj hf
        subst e_
        exact k_iret X rfl hV rfl d_X_beside_64
      replace hf := kifn c_16 hf
      refine lv_iload_n hx hb d_X_beside_56 rfl (lv_at hl 2 rfl) ?_
      refine lv_bipush (v := 6) hx hb d_X_beside_57 bp_6 ?_
      refine lv_isub hx hb d_X_beside_59 ?_
      refine lv_goto (tgt := 64) hx hb d_X_beside_60 (by decide) ?_
      have e_ := Option.some.inj hf
      subst e_
      exact k_iret X rfl hV rfl d_X_beside_64
    replace hf := kifn c_15 hf
    by_cases c_17 : x1 = 1
    · replace hf := kifp c_17 hf
      refine k_tabIn (tgt := 65) (off := 42) X d_X_beside_23 c_17 (by decide) ?_
      refine lv_iload_n hx hb d_X_beside_65 rfl (lv_at hl 0 rfl) ?_
      refine lv_iconst (v := 5) hx hb d_X_beside_66 ic_5 ?_
      refine lv_icmp_ge (tgt := 76) hx hb d_X_beside_67 (by decide) (fun c_18 => ?_) (fun c_18 => ?_)
      · replace hf := kifp c_18 hf
        refine lv_iconst (v := (-1)) hx hb d_X_beside_76 ic_m1 ?_
        have e_ := Option.some.inj hf
        subst e_
        exact k_iret X rfl hV rfl d_X_beside_77
      replace hf := kifn c_18 hf
      refine lv_iload_n hx hb d_X_beside_70 rfl (lv_at hl 2 rfl) ?_
      refine lv_iconst (v := 1) hx hb d_X_beside_71 ic_1 ?_
      refine lv_iadd hx hb d_X_beside_72 ?_
      refine lv_goto (tgt := 77) hx hb d_X_beside_73 (by decide) ?_
      have e_ := Option.some.inj hf
      subst e_
      exact k_iret X rfl hV rfl d_X_beside_77
    replace hf := kifn c_17 hf
    by_cases c_19 : x1 = 2
    · replace hf := kifp c_19 hf
      refine k_tabIn (tgt := 78) (off := 55) X d_X_beside_23 c_19 (by decide) ?_
      refine lv_iload_n hx hb d_X_beside_78 rfl (lv_at hl 1 rfl) ?_
      refine lv_iconst (v := 5) hx hb d_X_beside_79 ic_5 ?_
      refine lv_icmp_ge (tgt := 90) hx hb d_X_beside_80 (by decide) (fun c_20 => ?_) (fun c_20 => ?_)
      · replace hf := kifp c_20 hf
        refine lv_iconst (v := (-1)) hx hb d_X_beside_90 ic_m1 ?_
        have e_ := Option.some.inj hf
        subst e_
        exact k_iret X rfl hV rfl d_X_beside_91
      replace hf := kifn c_20 hf
      refine lv_iload_n hx hb d_X_beside_83 rfl (lv_at hl 2 rfl) ?_
      refine lv_bipush (v := 6) hx hb d_X_beside_84 bp_6 ?_
      refine lv_iadd hx hb d_X_beside_86 ?_
      refine lv_goto (tgt := 91) hx hb d_X_beside_87 (by decide) ?_
      have e_ := Option.some.inj hf
      subst e_
      exact k_iret X rfl hV rfl d_X_beside_91
    replace hf := kifn c_19 hf
    by_cases c_21 : x1 = 3
    · replace hf := kifp c_21 hf
      refine k_tabIn (tgt := 92) (off := 69) X d_X_beside_23 c_21 (by decide) ?_
      refine lv_iload_n hx hb d_X_beside_92 rfl (lv_at hl 0 rfl) ?_
      refine lv_if_le (tgt := 102) hx hb d_X_beside_93 (by decide) (fun c_22 => ?_) (fun c_22 => ?_)
      · replace hf := kifp c_22 hf
        refine lv_iconst (v := (-1)) hx hb d_X_beside_102 ic_m1 ?_
        have e_ := Option.some.inj hf
        subst e_
        exact k_iret X rfl hV rfl d_X_beside_103
      replace hf := kifn c_22 hf
      refine lv_iload_n hx hb d_X_beside_96 rfl (lv_at hl 2 rfl) ?_
      refine lv_iconst (v := 1) hx hb d_X_beside_97 ic_1 ?_
      refine lv_isub hx hb d_X_beside_98 ?_
      refine lv_goto (tgt := 103) hx hb d_X_beside_99 (by decide) ?_
      have e_ := Option.some.inj hf
      subst e_
      exact k_iret X rfl hV rfl d_X_beside_103
    replace hf := kifn c_21 hf
    have c_15e := lv_neT c_15 (a := 0) (by decide)
    have c_17e := lv_neT c_17 (a := 1) (by decide)
    have c_19e := lv_neT c_19 (a := 2) (by decide)
    have c_21e := lv_neT c_21 (a := 3) (by decide)
    refine lv_tableOut (tgt := 104) hx hb d_X_beside_23 (by omega) (by decide) ?_
    refine lv_iconst (v := (-1)) hx hb d_X_beside_104 ic_m1 ?_
    have e_ := Option.some.inj hf
    subst e_
    exact k_iret X rfl hV rfl d_X_beside_105
  replace hf := kifn c_13 hf
  refine lv_iconst (v := (-1)) hx hb d_X_beside_10 ic_m1 ?_
  have e_ := Option.some.inj hf
  subst e_
  exact k_iret X rfl hV rfl d_X_beside_11
set_option maxHeartbeats 2000000 in
set_option maxRecDepth 20000 in
theorem c_X_beside {l : Launch} (D : kD) (x0 : Int32) (x1 : Int32) {out : Int32} (hf : f_X_beside x0 x1 = some out) : kMi l D y_X_beside b_X_beside 4 (some .int) { frames := 0, cells := 0, slots := 0, locals := 0 } [.int x0, .int x1] (wd_X_beside D) (wd_X_beside D) out :=
  kMi_of (own := "MountainFarms") (plainFor_of_name (by decide)) rfl rfl (fun p e s m args below meth c ls X hV hl => t_X_beside X hf hV hl)
set_option maxHeartbeats 2000000 in
set_option maxRecDepth 20000 in
theorem t_Gr_isWalled {l : Launch} {p : Program} {e : Env} {s : State} {m : MethodId} {args : Array Value} {below : List Frame} {meth : Method} {c : Code} {D : kD} {wc0 : va_W} {h : Nat} {h_heights : Nat} {h_ages : Nat} {h_walls : Nat} {v_vent : Int32} {v_ash : Int32} {v_walls : Nat → Int32} {x1 : Int32} {x2 : Int32} {out : Int32} (X : kX p m meth c s args D (va_A wc0 s.heap.size) b_Gr_isWalled "MountainFarms$Ground" 3 (some .boolean)) (hf : f_Gr_isWalled v_walls x1 x2 = some out) {H : Heap} {locs : List Loc} (hV : kV D (va_A wc0 s.heap.size) s (wd_Gr_isWalled D h h_heights h_ages h_walls v_vent v_ash v_walls) H locs) {ls : Array Slot} (hl : lv_has ls 3 [(0, .ref h), (1, .int x1), (2, .int x2)]) : W p l e { frames := 0, cells := 0, slots := 0, locals := 0 } s m args below meth c H locs 0 0 (MQ below (kQi D wc0 (wd_Gr_isWalled D h h_heights h_ages h_walls v_vent v_ash v_walls) s.heap.size out) args s 0 0 (va_A wc0 s.heap.size)) (F0 m 0 ls []) := by
  unfold f_Gr_isWalled at hf
  obtain ⟨hx, hb, -⟩ := id X
  refine lv_iload_n hx hb d_Gr_isWalled_0 rfl (lv_at hl 1 rfl) ?_
  refine lv_if_lt (tgt := 28) hx hb d_Gr_isWalled_1 (by decide) (fun c_5 => ?_) (fun c_5 => ?_)
  · replace hf := kifp c_5 hf
    refine lv_iconst (v := 0) hx hb d_Gr_isWalled_28 ic_0 ?_
    have e_ := Option.some.inj hf
    subst e_
    exact k_iret (v := 0) X rfl hV nb0 d_Gr_isWalled_29
  replace hf := kifn c_5 hf
  refine lv_iload_n hx hb d_Gr_isWalled_4 rfl (lv_at hl 1 rfl) ?_
  refine lv_bipush (v := 36) hx hb d_Gr_isWalled_5 bp_36 ?_
  refine lv_icmp_ge (tgt := 28) hx hb d_Gr_isWalled_7 (by decide) (fun c_6 => ?_) (fun c_6 => ?_)
  · replace hf := kifp c_6 hf
    refine lv_iconst (v := 0) hx hb d_Gr_isWalled_28 ic_0 ?_
    have e_ := Option.some.inj hf
    subst e_
    exact k_iret (v := 0) X rfl hV nb0 d_Gr_isWalled_29
  replace hf := kifn c_6 hf
  refine lv_aload_n hx hb d_Gr_isWalled_10 rfl (lv_at hl 0 rfl) ?_
  refine k_get X hV 0 1 2 rfl rfl rfl gw_52 rfl rfl d_Gr_isWalled_11 ?_
  refine lv_iload_n hx hb d_Gr_isWalled_14 rfl (lv_at hl 1 rfl) ?_
  obtain ⟨h_7, hf⟩ := kidx_some hf
  refine k_iald X hV 1 rfl h_7 rfl d_Gr_isWalled_15 ?_
  refine lv_iload_n hx hb d_Gr_isWalled_16 rfl (lv_at hl 2 rfl) ?_
  refine lv_ishr hx hb d_Gr_isWalled_17 ?_
  refine lv_iconst (v := 1) hx hb d_Gr_isWalled_18 ic_1 ?_
  refine lv_iand hx hb d_Gr_isWalled_19 ?_
  refine lv_iconst (v := 1) hx hb d_Gr_isWalled_20 ic_1 ?_
  refine lv_icmp_ne (tgt := 28) hx hb d_Gr_isWalled_21 (by decide) (fun c_8 => ?_) (fun c_8 => ?_)
  · replace hf := kifn c_8 hf
    refine lv_iconst (v := 0) hx hb d_Gr_isWalled_28 ic_0 ?_
    have e_ := Option.some.inj hf
    subst e_
    exact k_iret (v := 0) X rfl hV nb0 d_Gr_isWalled_29
  replace hf := kifp c_8 hf
  refine lv_iconst (v := 1) hx hb d_Gr_isWalled_24 ic_1 ?_
  refine lv_goto (tgt := 29) hx hb d_Gr_isWalled_25 (by decide) ?_
  have e_ := Option.some.inj hf
  subst e_
  exact k_iret (v := 1) X rfl hV nb1 d_Gr_isWalled_29
set_option maxHeartbeats 2000000 in
set_option maxRecDepth 20000 in
theorem c_Gr_isWalled {l : Launch} (D : kD) (h : Nat) (h_heights : Nat) (h_ages : Nat) (h_walls : Nat) (v_vent : Int32) (v_ash : Int32) (v_walls : Nat → Int32) (x1 : Int32) (x2 : Int32) {out : Int32} (hf : f_Gr_isWalled v_walls x1 x2 = some out) : kMi l D y_Gr_isWalled b_Gr_isWalled 3 (some .boolean) { frames := 0, cells := 0, slots := 0, locals := 0 } [.ref h, .int x1, .int x2] (wd_Gr_isWalled D h h_heights h_ages h_walls v_vent v_ash v_walls) (wd_Gr_isWalled D h h_heights h_ages h_walls v_vent v_ash v_walls) out :=
  kMi_of (own := "MountainFarms$Ground") (plainFor_of_name (by decide)) rfl rfl (fun p e s m args below meth c ls X hV hl => t_Gr_isWalled X hf hV hl)
set_option maxHeartbeats 2000000 in
set_option maxRecDepth 20000 in
theorem t_Fa_isBurnt {l : Launch} {p : Program} {e : Env} {s : State} {m : MethodId} {args : Array Value} {below : List Frame} {meth : Method} {c : Code} {D : kD} {wc0 : va_W} {h : Nat} {h_kinds : Nat} {h_cells : Nat} {h_owners : Nat} {h_purses : Nat} {v_number : Int32} {v_burnt : Int32} {x1 : Int32} {out : Int32} (X : kX p m meth c s args D (va_A wc0 s.heap.size) b_Fa_isBurnt "MountainFarms$Farms" 2 (some .boolean)) (hf : f_Fa_isBurnt v_burnt x1 = some out) {H : Heap} {locs : List Loc} (hV : kV D (va_A wc0 s.heap.size) s (wd_Fa_isBurnt D h h_kinds h_cells h_owners h_purses v_number v_burnt) H locs) {ls : Array Slot} (hl : lv_has ls 2 [(0, .ref h), (1, .int x1)]) : W p l e { frames := 0, cells := 0, slots := 0, locals := 0 } s m args below meth c H locs 0 0 (MQ below (kQi D wc0 (wd_Fa_isBurnt D h h_kinds h_cells h_owners h_purses v_number v_burnt) s.heap.size out) args s 0 0 (va_A wc0 s.heap.size)) (F0 m 0 ls []) := by
  unfold f_Fa_isBurnt at hf
  obtain ⟨hx, hb, -⟩ := id X
  refine lv_aload_n hx hb d_Fa_isBurnt_0 rfl (lv_at hl 0 rfl) ?_
  refine k_get X hV 0 0 5 rfl rfl rfl gw_89 rfl rfl d_Fa_isBurnt_1 ?_
  refine lv_iload_n hx hb d_Fa_isBurnt_4 rfl (lv_at hl 1 rfl) ?_
  refine lv_ishr hx hb d_Fa_isBurnt_5 ?_
  refine lv_iconst (v := 1) hx hb d_Fa_isBurnt_6 ic_1 ?_
  refine lv_iand hx hb d_Fa_isBurnt_7 ?_
  refine lv_iconst (v := 1) hx hb d_Fa_isBurnt_8 ic_1 ?_
  refine lv_icmp_ne (tgt := 16) hx hb d_Fa_isBurnt_9 (by decide) (fun c_2 => ?_) (fun c_2 => ?_)
  · replace hf := kifn c_2 hf
    refine lv_iconst (v := 0) hx hb d_Fa_isBurnt_16 ic_0 ?_
    have e_ := Option.some.inj hf
    subst e_
    exact k_iret (v := 0) X rfl hV nb0 d_Fa_isBurnt_17
  replace hf := kifp c_2 hf
  refine lv_iconst (v := 1) hx hb d_Fa_isBurnt_12 ic_1 ?_
  refine lv_goto (tgt := 17) hx hb d_Fa_isBurnt_13 (by decide) ?_
  have e_ := Option.some.inj hf
  subst e_
  exact k_iret (v := 1) X rfl hV nb1 d_Fa_isBurnt_17
set_option maxHeartbeats 2000000 in
set_option maxRecDepth 20000 in
theorem c_Fa_isBurnt {l : Launch} (D : kD) (h : Nat) (h_kinds : Nat) (h_cells : Nat) (h_owners : Nat) (h_purses : Nat) (v_number : Int32) (v_burnt : Int32) (x1 : Int32) {out : Int32} (hf : f_Fa_isBurnt v_burnt x1 = some out) : kMi l D y_Fa_isBurnt b_Fa_isBurnt 2 (some .boolean) { frames := 0, cells := 0, slots := 0, locals := 0 } [.ref h, .int x1] (wd_Fa_isBurnt D h h_kinds h_cells h_owners h_purses v_number v_burnt) (wd_Fa_isBurnt D h h_kinds h_cells h_owners h_purses v_number v_burnt) out :=
  kMi_of (own := "MountainFarms$Farms") (plainFor_of_name (by decide)) rfl rfl (fun p e s m args below meth c ls X hV hl => t_Fa_isBurnt X hf hV hl)
set_option maxHeartbeats 2000000 in
set_option maxRecDepth 20000 in
theorem t_Ma_min {l : Launch} {p : Program} {e : Env} {s : State} {m : MethodId} {args : Array Value} {below : List Frame} {meth : Method} {c : Code} {D : kD} {wc0 : va_W} {x0 : Int32} {x1 : Int32} {out : Int32} (X : kX p m meth c s args D (va_A wc0 s.heap.size) b_Ma_min "java/lang/Math" 2 (some .int)) (hf : f_Ma_min x0 x1 = some out) {H : Heap} {locs : List Loc} (hV : kV D (va_A wc0 s.heap.size) s (wd_Ma_min D) H locs) {ls : Array Slot} (hl : lv_has ls 2 [(0, .int x0), (1, .int x1)]) : W p l e { frames := 0, cells := 0, slots := 0, locals := 0 } s m args below meth c H locs 0 0 (MQ below (kQi D wc0 (wd_Ma_min D) s.heap.size out) args s 0 0 (va_A wc0 s.heap.size)) (F0 m 0 ls []) := by
  unfold f_Ma_min at hf
  obtain ⟨hx, hb, -⟩ := id X
  refine lv_iload_n hx hb d_Ma_min_0 rfl (lv_at hl 0 rfl) ?_
  refine lv_iload_n hx hb d_Ma_min_1 rfl (lv_at hl 1 rfl) ?_
  refine lv_icmp_gt (tgt := 9) hx hb d_Ma_min_2 (by decide) (fun c_2 => ?_) (fun c_2 => ?_)
  · replace hf := kifp c_2 hf
    refine lv_iload_n hx hb d_Ma_min_9 rfl (lv_at hl 1 rfl) ?_
    have e_ := Option.some.inj hf
    subst e_
    exact k_iret X rfl hV rfl d_Ma_min_10
  replace hf := kifn c_2 hf
  refine lv_iload_n hx hb d_Ma_min_5 rfl (lv_at hl 0 rfl) ?_
  refine lv_goto (tgt := 10) hx hb d_Ma_min_6 (by decide) ?_
  have e_ := Option.some.inj hf
  subst e_
  exact k_iret X rfl hV rfl d_Ma_min_10
set_option maxHeartbeats 2000000 in
set_option maxRecDepth 20000 in
theorem c_Ma_min {l : Launch} (D : kD) (x0 : Int32) (x1 : Int32) {out : Int32} (hf : f_Ma_min x0 x1 = some out) : kMi l D y_Ma_min b_Ma_min 2 (some .int) { frames := 0, cells := 0, slots := 0, locals := 0 } [.int x0, .int x1] (wd_Ma_min D) (wd_Ma_min D) out :=
  kMi_of (own := "java/lang/Math") (by decide +kernel) rfl rfl (fun p e s m args below meth c ls X hV hl => t_Ma_min X hf hV hl)
set_option maxHeartbeats 2000000 in
set_option maxRecDepth 20000 in
theorem t_X_bearing_2 {l : Launch} {p : Program} {e : Env} {s : State} {m : MethodId} {args : Array Value} {below : List Frame} {meth : Method} {c : Code} {D : kD} {wc0 : va_W} {s0 : Int32} {x0 : Int32} {x1 : Int32} {x3 : Int32} {out : Int32} (X : kX p m meth c s args D (va_A wc0 s.heap.size) b_X_bearing "MountainFarms" 6 (some .int)) (hf : f_X_bearing_2 s0 x0 x1 x3 = some out) {H : Heap} {locs : List Loc} (hV : kV D (va_A wc0 s.heap.size) s (wd_X_bearing D) H locs) {ls : Array Slot} (hl : lv_has ls 6 [(0, .int x0), (1, .int x1), (3, .int x3)]) : W p l e { frames := 1, cells := 0, slots := 0, locals := 21 } s m args below meth c H locs 0 0 (MQ below (kQi D wc0 (wd_X_bearing D) s.heap.size out) args s 0 0 (va_A wc0 s.heap.size)) (F0 m 28 ls [.int s0]) := by
  unfold f_X_bearing_2 at hf
  obtain ⟨hx, hb, -⟩ := id X
  refine lv_istore (lv' := [(4, .int s0), (0, .int x0), (1, .int x1), (3, .int x3)]) hx hb d_X_bearing_28 hl (by decide) rfl (fun ls hl => ?_)
  refine lv_bipush (v := 25) hx hb d_X_bearing_30 bp_25 ?_
  refine lv_iload_n hx hb d_X_bearing_32 rfl (lv_at hl 2 rfl) ?_
  refine lv_iconst (v := 2) hx hb d_X_bearing_33 ic_2 ?_
  refine lv_idiv hx hb d_X_bearing_34 (by decide) ?_
  obtain ⟨r_13, hc_14, hf⟩ := kb1_some hf
  refine k_csi (w1 := (wd_Ma_min D)) (r := r_13) (ws' := (wd_X_bearing D)) X hV hl.1 (c_Ma_min D (25 : Int32) (x1 / (2 : Int32)) hc_14) fk_Ma_min gw_359 rfl [] [] rfl rfl trivial rfl rfl rfl d_X_bearing_35 (fun H locs hV => ?_)
  refine lv_istore (lv' := [(5, .int r_13), (4, .int s0), (0, .int x0), (1, .int x1), (3, .int x3)]) hx hb d_X_bearing_38 hl (by decide) rfl (fun ls hl => ?_)
  refine lv_iload_n hx hb d_X_bearing_40 rfl (lv_at hl 2 rfl) ?_
  by_cases c_15 : x0 = 1
  · replace hf := kifp c_15 hf
    refine k_tabIn (tgt := 76) (off := 35) X d_X_bearing_41 c_15 (by decide) ?_
    refine lv_iload_n hx hb d_X_bearing_76 rfl (lv_at hl 4 rfl) ?_
    refine lv_iload hx hb d_X_bearing_77 (lv_at hl 1 rfl) ?_
    refine lv_iadd hx hb d_X_bearing_79 ?_
    have e_ := Option.some.inj hf
    subst e_
    exact k_iret X rfl hV rfl d_X_bearing_80
  replace hf := kifn c_15 hf
  by_cases c_16 : x0 = 2
  · replace hf := kifp c_16 hf
    refine k_tabIn (tgt := 81) (off := 40) X d_X_bearing_41 c_16 (by decide) ?_
    refine lv_iload_n hx hb d_X_bearing_81 rfl (lv_at hl 4 rfl) ?_
    refine lv_iload hx hb d_X_bearing_82 (lv_at hl 0 rfl) ?_
    refine lv_iadd hx hb d_X_bearing_84 ?_
    have e_ := Option.some.inj hf
    subst e_
    exact k_iret X rfl hV rfl d_X_bearing_85
  replace hf := kifn c_16 hf
  by_cases c_17 : x0 = 3
  · replace hf := kifp c_17 hf
    refine k_tabIn (tgt := 86) (off := 45) X d_X_bearing_41 c_17 (by decide) ?_
    refine lv_iload_n hx hb d_X_bearing_86 rfl (lv_at hl 4 rfl) ?_
    refine lv_iload hx hb d_X_bearing_87 (lv_at hl 1 rfl) ?_
    refine lv_iadd hx hb d_X_bearing_89 ?_
    refine lv_iconst (v := 3) hx hb d_X_bearing_90 ic_3 ?_
    refine lv_iadd hx hb d_X_bearing_91 ?_
    have e_ := Option.some.inj hf
    subst e_
    exact k_iret X rfl hV rfl d_X_bearing_92
  replace hf := kifn c_17 hf
  by_cases c_18 : x0 = 4
  · replace hf := kifp c_18 hf
    refine k_tabIn (tgt := 93) (off := 52) X d_X_bearing_41 c_18 (by decide) ?_
    refine lv_bipush (v := 6) hx hb d_X_bearing_93 bp_6 ?_
    have e_ := Option.some.inj hf
    subst e_
    exact k_iret X rfl hV rfl d_X_bearing_95
  replace hf := kifn c_18 hf
  by_cases c_19 : x0 = 5
  · replace hf := kifp c_19 hf
    refine k_tabIn (tgt := 96) (off := 55) X d_X_bearing_41 c_19 (by decide) ?_
    refine lv_iload_n hx hb d_X_bearing_96 rfl (lv_at hl 4 rfl) ?_
    refine lv_iload hx hb d_X_bearing_97 (lv_at hl 0 rfl) ?_
    refine lv_iadd hx hb d_X_bearing_99 ?_
    refine lv_iload_n hx hb d_X_bearing_100 rfl (lv_at hl 3 rfl) ?_
    refine lv_bipush (v := 50) hx hb d_X_bearing_101 bp_50 ?_
    refine lv_icmp_lt (tgt := 111) hx hb d_X_bearing_103 (by decide) (fun c_20 => ?_) (fun c_20 => ?_)
    · replace hf := kifp c_20 hf
      refine lv_iconst (v := 0) hx hb d_X_bearing_111 ic_0 ?_
      refine lv_iadd hx hb d_X_bearing_112 ?_
      have e_ := Option.some.inj hf
      subst e_
      exact k_iret X rfl hV rfl d_X_bearing_113
    replace hf := kifn c_20 hf
    refine lv_bipush (v := 10) hx hb d_X_bearing_106 bp_10 ?_
    refine lv_goto (tgt := 112) hx hb d_X_bearing_108 (by decide) ?_
    refine lv_iadd hx hb d_X_bearing_112 ?_
    have e_ := Option.some.inj hf
    subst e_
    exact k_iret X rfl hV rfl d_X_bearing_113
  replace hf := kifn c_19 hf
  have c_15e := lv_neT c_15 (a := 1) (by decide)
  have c_16e := lv_neT c_16 (a := 2) (by decide)
  have c_17e := lv_neT c_17 (a := 3) (by decide)
  have c_18e := lv_neT c_18 (a := 4) (by decide)
  have c_19e := lv_neT c_19 (a := 5) (by decide)
  refine lv_tableOut (tgt := 114) hx hb d_X_bearing_41 (by omega) (by decide) ?_
  refine lv_iload_n hx hb d_X_bearing_114 rfl (lv_at hl 4 rfl) ?_
  have e_ := Option.some.inj hf
  subst e_
  exact k_iret X rfl hV rfl d_X_bearing_115
set_option maxHeartbeats 2000000 in
set_option maxRecDepth 20000 in
theorem t_X_bearing_1 {l : Launch} {p : Program} {e : Env} {s : State} {m : MethodId} {args : Array Value} {below : List Frame} {meth : Method} {c : Code} {D : kD} {wc0 : va_W} {s0 : Int32} {x0 : Int32} {x1 : Int32} {x2 : Int32} {out : Int32} (X : kX p m meth c s args D (va_A wc0 s.heap.size) b_X_bearing "MountainFarms" 6 (some .int)) (hf : f_X_bearing_1 s0 x0 x1 x2 = some out) {H : Heap} {locs : List Loc} (hV : kV D (va_A wc0 s.heap.size) s (wd_X_bearing D) H locs) {ls : Array Slot} (hl : lv_has ls 6 [(0, .int x0), (1, .int x1), (2, .int x2)]) : W p l e { frames := 1, cells := 0, slots := 0, locals := 21 } s m args below meth c H locs 0 0 (MQ below (kQi D wc0 (wd_X_bearing D) s.heap.size out) args s 0 0 (va_A wc0 s.heap.size)) (F0 m 11 ls [.int s0]) := by
  unfold f_X_bearing_1 at hf
  obtain ⟨hx, hb, -⟩ := id X
  refine lv_istore_n (lv' := [(3, .int s0), (0, .int x0), (1, .int x1), (2, .int x2)]) hx hb d_X_bearing_11 rfl hl (by decide) rfl (fun ls hl => ?_)
  refine lv_iload_n hx hb d_X_bearing_12 rfl (lv_at hl 3 rfl) ?_
  refine lv_bipush (v := 10) hx hb d_X_bearing_13 bp_10 ?_
  refine lv_icmp_ge (tgt := 27) hx hb d_X_bearing_15 (by decide) (fun c_12 => ?_) (fun c_12 => ?_)
  · replace hf := kifp c_12 hf
    refine lv_iconst (v := 0) hx hb d_X_bearing_27 ic_0 ?_
    exact t_X_bearing_2 X hf hV (lv_sub hl [1, 2, 0] rfl)
  replace hf := kifn c_12 hf
  refine lv_iconst (v := 2) hx hb d_X_bearing_18 ic_2 ?_
  refine lv_bipush (v := 10) hx hb d_X_bearing_19 bp_10 ?_
  refine lv_iload_n hx hb d_X_bearing_21 rfl (lv_at hl 3 rfl) ?_
  refine lv_isub hx hb d_X_bearing_22 ?_
  refine lv_imul hx hb d_X_bearing_23 ?_
  refine lv_goto (tgt := 28) hx hb d_X_bearing_24 (by decide) ?_
  exact t_X_bearing_2 X hf hV (lv_sub hl [1, 2, 0] rfl)
set_option maxHeartbeats 2000000 in
set_option maxRecDepth 20000 in
theorem t_X_bearing {l : Launch} {p : Program} {e : Env} {s : State} {m : MethodId} {args : Array Value} {below : List Frame} {meth : Method} {c : Code} {D : kD} {wc0 : va_W} {x0 : Int32} {x1 : Int32} {x2 : Int32} {out : Int32} (X : kX p m meth c s args D (va_A wc0 s.heap.size) b_X_bearing "MountainFarms" 6 (some .int)) (hf : f_X_bearing x0 x1 x2 = some out) {H : Heap} {locs : List Loc} (hV : kV D (va_A wc0 s.heap.size) s (wd_X_bearing D) H locs) {ls : Array Slot} (hl : lv_has ls 6 [(0, .int x0), (1, .int x1), (2, .int x2)]) : W p l e { frames := 1, cells := 0, slots := 0, locals := 21 } s m args below meth c H locs 0 0 (MQ below (kQi D wc0 (wd_X_bearing D) s.heap.size out) args s 0 0 (va_A wc0 s.heap.size)) (F0 m 0 ls []) := by
  unfold f_X_bearing at hf
  obtain ⟨hx, hb, -⟩ := id X
  refine lv_iload_n hx hb d_X_bearing_0 rfl (lv_at hl 1 rfl) ?_
  refine lv_iconst (v := 5) hx hb d_X_bearing_1 ic_5 ?_
  refine lv_icmp_lt (tgt := 10) hx hb d_X_bearing_2 (by decide) (fun c_11 => ?_) (fun c_11 => ?_)
  · replace hf := kifp c_11 hf
    refine lv_iconst (v := 0) hx hb d_X_bearing_10 ic_0 ?_
    exact t_X_bearing_1 X hf hV (lv_sub hl [0, 1, 2] rfl)
  replace hf := kifn c_11 hf
  refine lv_bipush (v := 10) hx hb d_X_bearing_5 bp_10 ?_
  refine lv_goto (tgt := 11) hx hb d_X_bearing_7 (by decide) ?_
  exact t_X_bearing_1 X hf hV (lv_sub hl [0, 1, 2] rfl)
set_option maxHeartbeats 2000000 in
set_option maxRecDepth 20000 in
theorem c_X_bearing {l : Launch} (D : kD) (x0 : Int32) (x1 : Int32) (x2 : Int32) {out : Int32} (hf : f_X_bearing x0 x1 x2 = some out) : kMi l D y_X_bearing b_X_bearing 6 (some .int) { frames := 1, cells := 0, slots := 0, locals := 21 } [.int x0, .int x1, .int x2] (wd_X_bearing D) (wd_X_bearing D) out :=
  kMi_of (own := "MountainFarms") (plainFor_of_name (by decide)) rfl rfl (fun p e s m args below meth c ls X hV hl => t_X_bearing X hf hV hl)
set_option maxHeartbeats 2000000 in
set_option maxRecDepth 20000 in
theorem t_Fa_bearsOn {l : Launch} {p : Program} {e : Env} {s : State} {m : MethodId} {args : Array Value} {below : List Frame} {meth : Method} {c : Code} {D : kD} {wc0 : va_W} {h : Nat} {h_kinds : Nat} {h_cells : Nat} {h_owners : Nat} {h_purses : Nat} {h_p2 : Nat} {h_p2_heights : Nat} {h_p2_ages : Nat} {h_p2_walls : Nat} {v_number : Int32} {v_burnt : Int32} {v_kinds : Nat → Int32} {v_cells : Nat → Int32} {v_p2_vent : Int32} {v_p2_ash : Int32} {v_p2_ages : Nat → Int32} {x1 : Int32} {out : Int32} (X : kX p m meth c s args D (va_A wc0 s.heap.size) b_Fa_bearsOn "MountainFarms$Farms" 3 (some .int)) (hf : f_Fa_bearsOn v_burnt v_kinds v_cells v_p2_ash v_p2_ages x1 = some out) {H : Heap} {locs : List Loc} (hV : kV D (va_A wc0 s.heap.size) s (wd_Fa_bearsOn D h h_kinds h_cells h_owners h_purses h_p2 h_p2_heights h_p2_ages h_p2_walls v_number v_burnt v_kinds v_cells v_p2_vent v_p2_ash v_p2_ages) H locs) {ls : Array Slot} (hl : lv_has ls 3 [(0, .ref h), (1, .int x1), (2, .ref h_p2)]) : W p l e { frames := 2, cells := 0, slots := 0, locals := 46 } s m args below meth c H locs 0 0 (MQ below (kQi D wc0 (wd_Fa_bearsOn D h h_kinds h_cells h_owners h_purses h_p2 h_p2_heights h_p2_ages h_p2_walls v_number v_burnt v_kinds v_cells v_p2_vent v_p2_ash v_p2_ages) s.heap.size out) args s 0 0 (va_A wc0 s.heap.size)) (F0 m 0 ls []) := by
  unfold f_Fa_bearsOn at hf
  obtain ⟨hx, hb, -⟩ := id X
  refine lv_aload_n hx hb d_Fa_bearsOn_0 rfl (lv_at hl 0 rfl) ?_
  refine lv_iload_n hx hb d_Fa_bearsOn_1 rfl (lv_at hl 1 rfl) ?_
  obtain ⟨r_9, hc_10, hf⟩ := kb1_some hf
  refine k_cvi (w1 := (wd_Fa_isBurnt D h h_kinds h_cells h_owners h_purses v_number v_burnt)) (r := r_9) (ws' := (wd_Fa_bearsOn D h h_kinds h_cells h_owners h_purses h_p2 h_p2_heights h_p2_ages h_p2_walls v_number v_burnt v_kinds v_cells v_p2_vent v_p2_ash v_p2_ages)) X hV hl.1 (c_Fa_isBurnt D h h_kinds h_cells h_owners h_purses v_number v_burnt x1 hc_10) fk_Fa_isBurnt gw_355 rfl 0 0 rfl rfl [0] [some 0, none, none, none, none] rfl rfl ⟨rfl, rfl, rfl, rfl, rfl, rfl, rfl, trivial⟩ rfl rfl rfl d_Fa_bearsOn_2 (fun H locs hV => ?_)
  refine lv_if_eq (tgt := 12) hx hb d_Fa_bearsOn_5 (by decide) (fun c_11 => ?_) (fun c_11 => ?_)
  · replace hf := kifp c_11 hf
    refine lv_aload_n hx hb d_Fa_bearsOn_12 rfl (lv_at hl 0 rfl) ?_
    refine k_get X hV 0 0 0 rfl rfl rfl gw_79 rfl rfl d_Fa_bearsOn_13 ?_
    refine lv_iload_n hx hb d_Fa_bearsOn_16 rfl (lv_at hl 1 rfl) ?_
    obtain ⟨h_12, hf⟩ := kidx_some hf
    refine k_iald X hV 1 rfl h_12 rfl d_Fa_bearsOn_17 ?_
    refine lv_aload_n hx hb d_Fa_bearsOn_18 rfl (lv_at hl 2 rfl) ?_
    refine k_get X hV 3 1 1 rfl rfl rfl gw_51 rfl rfl d_Fa_bearsOn_19 ?_
    refine lv_aload_n hx hb d_Fa_bearsOn_22 rfl (lv_at hl 0 rfl) ?_
    refine k_get X hV 0 0 1 rfl rfl rfl gw_81 rfl rfl d_Fa_bearsOn_23 ?_
    refine lv_iload_n hx hb d_Fa_bearsOn_26 rfl (lv_at hl 1 rfl) ?_
    obtain ⟨h_13, hf⟩ := kidx_some hf
    refine k_iald X hV 2 rfl h_13 rfl d_Fa_bearsOn_27 ?_
    obtain ⟨h_14, hf⟩ := kidx_some hf
    refine k_iald X hV 4 rfl h_14 rfl d_Fa_bearsOn_28 ?_
    refine lv_aload_n hx hb d_Fa_bearsOn_29 rfl (lv_at hl 2 rfl) ?_
    refine k_get X hV 3 1 4 rfl rfl rfl gw_59 rfl rfl d_Fa_bearsOn_30 ?_
    obtain ⟨r_15, hc_16, hf⟩ := kb1_some hf
    refine k_cni (w1 := (wd_X_bearing D)) (r := r_15) (ws' := (wd_Fa_bearsOn D h h_kinds h_cells h_owners h_purses h_p2 h_p2_heights h_p2_ages h_p2_walls v_number v_burnt v_kinds v_cells v_p2_vent v_p2_ash v_p2_ages)) X hV hl.1 (c_X_bearing D (v_kinds x1.toNatClampNeg) (v_p2_ages (v_cells x1.toNatClampNeg).toNatClampNeg) v_p2_ash hc_16) fk_X_bearing nw_7 rfl [] [none, none, none, none, none] rfl rfl ⟨rfl, rfl, rfl, rfl, rfl, trivial⟩ rfl rfl rfl d_Fa_bearsOn_33 (fun H locs hV => ?_)
    have e_ := Option.some.inj hf
    subst e_
    exact k_iret X rfl hV rfl d_Fa_bearsOn_36
  replace hf := kifn c_11 hf
  refine lv_iconst (v := 0) hx hb d_Fa_bearsOn_8 ic_0 ?_
  refine lv_goto (tgt := 36) hx hb d_Fa_bearsOn_9 (by decide) ?_
  have e_ := Option.some.inj hf
  subst e_
  exact k_iret X rfl hV rfl d_Fa_bearsOn_36
set_option maxHeartbeats 2000000 in
set_option maxRecDepth 20000 in
theorem c_Fa_bearsOn {l : Launch} (D : kD) (h : Nat) (h_kinds : Nat) (h_cells : Nat) (h_owners : Nat) (h_purses : Nat) (h_p2 : Nat) (h_p2_heights : Nat) (h_p2_ages : Nat) (h_p2_walls : Nat) (v_number : Int32) (v_burnt : Int32) (v_kinds : Nat → Int32) (v_cells : Nat → Int32) (v_p2_vent : Int32) (v_p2_ash : Int32) (v_p2_ages : Nat → Int32) (x1 : Int32) {out : Int32} (hf : f_Fa_bearsOn v_burnt v_kinds v_cells v_p2_ash v_p2_ages x1 = some out) : kMi l D y_Fa_bearsOn b_Fa_bearsOn 3 (some .int) { frames := 2, cells := 0, slots := 0, locals := 46 } [.ref h, .int x1, .ref h_p2] (wd_Fa_bearsOn D h h_kinds h_cells h_owners h_purses h_p2 h_p2_heights h_p2_ages h_p2_walls v_number v_burnt v_kinds v_cells v_p2_vent v_p2_ash v_p2_ages) (wd_Fa_bearsOn D h h_kinds h_cells h_owners h_purses h_p2 h_p2_heights h_p2_ages h_p2_walls v_number v_burnt v_kinds v_cells v_p2_vent v_p2_ash v_p2_ages) out :=
  kMi_of (own := "MountainFarms$Farms") (plainFor_of_name (by decide)) rfl rfl (fun p e s m args below meth c ls X hV hl => t_Fa_bearsOn X hf hV hl)
set_option maxHeartbeats 2000000 in
set_option maxRecDepth 20000 in
theorem t_Mo_tenthAt {l : Launch} {p : Program} {e : Env} {s : State} {m : MethodId} {args : Array Value} {below : List Frame} {meth : Method} {c : Code} {D : kD} {wc0 : va_W} {h : Nat} {h_chances : Nat} {h_shows : Nat} {h_diary : Nat} {v_seen : Int32} {v_state : Int32} {v_z : Int32} {v_chances : Nat → Int32} {v_shows : Nat → Int32} {x1 : Int32} {x2 : Int32} {x3 : Int32} {out : Int32} (X : kX p m meth c s args D (va_A wc0 s.heap.size) b_Mo_tenthAt "MountainFarms$Mountain" 6 (some .int)) (hf : f_Mo_tenthAt v_chances v_shows x1 x2 x3 = some out) {H : Heap} {locs : List Loc} (hV : kV D (va_A wc0 s.heap.size) s (wd_Mo_tenthAt D h h_chances h_shows h_diary v_seen v_state v_z v_chances v_shows) H locs) {ls : Array Slot} (hl : lv_has ls 6 [(0, .ref h), (1, .int x1), (2, .int x2), (3, .int x3)]) : W p l e { frames := 1, cells := 0, slots := 0, locals := 22 } s m args below meth c H locs 0 0 (MQ below (kQi D wc0 (wd_Mo_tenthAt D h h_chances h_shows h_diary v_seen v_state v_z v_chances v_shows) s.heap.size out) args s 0 0 (va_A wc0 s.heap.size)) (F0 m 0 ls []) := by
  unfold f_Mo_tenthAt at hf
  obtain ⟨hx, hb, -⟩ := id X
  refine lv_iload_n hx hb d_Mo_tenthAt_0 rfl (lv_at hl 1 rfl) ?_
  refine lv_if_ne (tgt := 11) hx hb d_Mo_tenthAt_1 (by decide) (fun c_12 => ?_) (fun c_12 => ?_)
  · replace hf := kifn c_12 hf
    refine lv_aload_n hx hb d_Mo_tenthAt_11 rfl (lv_at hl 0 rfl) ?_
    refine k_get X hV 0 2 1 rfl rfl rfl gw_112 rfl rfl d_Mo_tenthAt_12 ?_
    refine lv_astore (lv' := [(4, .ref h_shows), (0, .ref h), (1, .int x1), (2, .int x2), (3, .int x3)]) hx hb d_Mo_tenthAt_15 hl (by decide) rfl (fun ls hl => ?_)
    refine lv_iconst (v := 4) hx hb d_Mo_tenthAt_17 ic_4 ?_
    refine lv_iload_n hx hb d_Mo_tenthAt_18 rfl (lv_at hl 3 rfl) ?_
    refine lv_imul hx hb d_Mo_tenthAt_19 ?_
    refine lv_iload_n hx hb d_Mo_tenthAt_20 rfl (lv_at hl 4 rfl) ?_
    refine lv_iadd hx hb d_Mo_tenthAt_21 ?_
    refine k_leti hf (fun x5_13 hf => ?_)
    refine lv_istore (lv' := [(5, .int x5_13), (4, .ref h_shows), (0, .ref h), (1, .int x1), (2, .int x2), (3, .int x3)]) hx hb d_Mo_tenthAt_22 hl (by decide) rfl (fun ls hl => ?_)
    refine lv_iload hx hb d_Mo_tenthAt_24 (lv_at hl 0 rfl) ?_
    refine lv_iconst (v := 0) hx hb d_Mo_tenthAt_26 ic_0 ?_
    refine lv_aload hx hb d_Mo_tenthAt_27 (lv_at hl 1 rfl) ?_
    refine k_alen (v := 16) X hV 2 0 rfl rfl rfl d_Mo_tenthAt_29 ?_
    refine lv_iconst (v := 1) hx hb d_Mo_tenthAt_30 ic_1 ?_
    refine lv_isub hx hb d_Mo_tenthAt_31 ?_
    obtain ⟨r_14, hc_15, hf⟩ := kb1_some hf
    refine k_cni (w1 := (wd_X_isWithin D)) (r := r_14) (ws' := (wd_Mo_tenthAt D h h_chances h_shows h_diary v_seen v_state v_z v_chances v_shows)) X hV hl.1 (c_X_isWithin D x5_13 (0 : Int32) ((16 : Int32) - (1 : Int32)) hc_15) fk_X_isWithin nw_8 rfl [] [none, none, none] rfl rfl ⟨rfl, rfl, rfl, trivial⟩ rfl rfl rfl d_Mo_tenthAt_32 (fun H locs hV => ?_)
    refine lv_if_eq (tgt := 46) hx hb d_Mo_tenthAt_35 (by decide) (fun c_16 => ?_) (fun c_16 => ?_)
    · replace hf := kifp c_16 hf
      refine lv_iconst (v := 0) hx hb d_Mo_tenthAt_46 ic_0 ?_
      have e_ := Option.some.inj hf
      subst e_
      exact k_iret X rfl hV rfl d_Mo_tenthAt_47
    replace hf := kifn c_16 hf
    refine lv_aload hx hb d_Mo_tenthAt_38 (lv_at hl 1 rfl) ?_
    refine lv_iload hx hb d_Mo_tenthAt_40 (lv_at hl 0 rfl) ?_
    obtain ⟨h_17, hf⟩ := kidx_some hf
    refine k_iald X hV 2 rfl h_17 rfl d_Mo_tenthAt_42 ?_
    refine lv_goto (tgt := 47) hx hb d_Mo_tenthAt_43 (by decide) ?_
    have e_ := Option.some.inj hf
    subst e_
    exact k_iret X rfl hV rfl d_Mo_tenthAt_47
  replace hf := kifp c_12 hf
  refine lv_aload_n hx hb d_Mo_tenthAt_4 rfl (lv_at hl 0 rfl) ?_
  refine k_get X hV 0 2 0 rfl rfl rfl gw_111 rfl rfl d_Mo_tenthAt_5 ?_
  refine lv_goto (tgt := 15) hx hb d_Mo_tenthAt_8 (by decide) ?_
  refine lv_astore (lv' := [(4, .ref h_chances), (0, .ref h), (1, .int x1), (2, .int x2), (3, .int x3)]) hx hb d_Mo_tenthAt_15 hl (by decide) rfl (fun ls hl => ?_)
  refine lv_iconst (v := 4) hx hb d_Mo_tenthAt_17 ic_4 ?_
  refine lv_iload_n hx hb d_Mo_tenthAt_18 rfl (lv_at hl 3 rfl) ?_
  refine lv_imul hx hb d_Mo_tenthAt_19 ?_
  refine lv_iload_n hx hb d_Mo_tenthAt_20 rfl (lv_at hl 4 rfl) ?_
  refine lv_iadd hx hb d_Mo_tenthAt_21 ?_
  refine k_leti hf (fun x5_18 hf => ?_)
  refine lv_istore (lv' := [(5, .int x5_18), (4, .ref h_chances), (0, .ref h), (1, .int x1), (2, .int x2), (3, .int x3)]) hx hb d_Mo_tenthAt_22 hl (by decide) rfl (fun ls hl => ?_)
  refine lv_iload hx hb d_Mo_tenthAt_24 (lv_at hl 0 rfl) ?_
  refine lv_iconst (v := 0) hx hb d_Mo_tenthAt_26 ic_0 ?_
  refine lv_aload hx hb d_Mo_tenthAt_27 (lv_at hl 1 rfl) ?_
  refine k_alen (v := 16) X hV 1 0 rfl rfl rfl d_Mo_tenthAt_29 ?_
  refine lv_iconst (v := 1) hx hb d_Mo_tenthAt_30 ic_1 ?_
  refine lv_isub hx hb d_Mo_tenthAt_31 ?_
  obtain ⟨r_19, hc_20, hf⟩ := kb1_some hf
  refine k_cni (w1 := (wd_X_isWithin D)) (r := r_19) (ws' := (wd_Mo_tenthAt D h h_chances h_shows h_diary v_seen v_state v_z v_chances v_shows)) X hV hl.1 (c_X_isWithin D x5_18 (0 : Int32) ((16 : Int32) - (1 : Int32)) hc_20) fk_X_isWithin nw_8 rfl [] [none, none, none] rfl rfl ⟨rfl, rfl, rfl, trivial⟩ rfl rfl rfl d_Mo_tenthAt_32 (fun H locs hV => ?_)
  refine lv_if_eq (tgt := 46) hx hb d_Mo_tenthAt_35 (by decide) (fun c_21 => ?_) (fun c_21 => ?_)
  · replace hf := kifp c_21 hf
    refine lv_iconst (v := 0) hx hb d_Mo_tenthAt_46 ic_0 ?_
    have e_ := Option.some.inj hf
    subst e_
    exact k_iret X rfl hV rfl d_Mo_tenthAt_47
  replace hf := kifn c_21 hf
  refine lv_aload hx hb d_Mo_tenthAt_38 (lv_at hl 1 rfl) ?_
  refine lv_iload hx hb d_Mo_tenthAt_40 (lv_at hl 0 rfl) ?_
  obtain ⟨h_22, hf⟩ := kidx_some hf
  refine k_iald X hV 1 rfl h_22 rfl d_Mo_tenthAt_42 ?_
  refine lv_goto (tgt := 47) hx hb d_Mo_tenthAt_43 (by decide) ?_
  have e_ := Option.some.inj hf
  subst e_
  exact k_iret X rfl hV rfl d_Mo_tenthAt_47
set_option maxHeartbeats 2000000 in
set_option maxRecDepth 20000 in
theorem c_Mo_tenthAt {l : Launch} (D : kD) (h : Nat) (h_chances : Nat) (h_shows : Nat) (h_diary : Nat) (v_seen : Int32) (v_state : Int32) (v_z : Int32) (v_chances : Nat → Int32) (v_shows : Nat → Int32) (x1 : Int32) (x2 : Int32) (x3 : Int32) {out : Int32} (hf : f_Mo_tenthAt v_chances v_shows x1 x2 x3 = some out) : kMi l D y_Mo_tenthAt b_Mo_tenthAt 6 (some .int) { frames := 1, cells := 0, slots := 0, locals := 22 } [.ref h, .int x1, .int x2, .int x3] (wd_Mo_tenthAt D h h_chances h_shows h_diary v_seen v_state v_z v_chances v_shows) (wd_Mo_tenthAt D h h_chances h_shows h_diary v_seen v_state v_z v_chances v_shows) out :=
  kMi_of (own := "MountainFarms$Mountain") (plainFor_of_name (by decide)) rfl rfl (fun p e s m args below meth c ls X hV hl => t_Mo_tenthAt X hf hV hl)
set_option maxHeartbeats 2000000 in
set_option maxRecDepth 20000 in
theorem t_Gr_become {l : Launch} {p : Program} {e : Env} {s : State} {m : MethodId} {args : Array Value} {below : List Frame} {meth : Method} {c : Code} {D : kD} {wc0 : va_W} {h : Nat} {h_heights : Nat} {h_ages : Nat} {h_walls : Nat} {h_p1 : Nat} {h_p1_heights : Nat} {h_p1_ages : Nat} {h_p1_walls : Nat} {v_vent : Int32} {v_ash : Int32} {v_heights : Nat → Int32} {v_ages : Nat → Int32} {v_walls : Nat → Int32} {v_p1_vent : Int32} {v_p1_ash : Int32} {v_p1_heights : Nat → Int32} {v_p1_ages : Nat → Int32} {v_p1_walls : Nat → Int32} {out : Int32 × Int32 × (Nat → Int32) × (Nat → Int32) × (Nat → Int32)} (X : kX p m meth c s args D (va_A wc0 s.heap.size) b_Gr_become "MountainFarms$Ground" 2 none) (hf : f_Gr_become v_vent v_ash v_heights v_ages v_walls v_p1_vent v_p1_ash v_p1_heights v_p1_ages v_p1_walls = some out) {H : Heap} {locs : List Loc} (hV : kV D (va_A wc0 s.heap.size) s (wd_Gr_become D h h_heights h_ages h_walls h_p1 h_p1_heights h_p1_ages h_p1_walls v_vent v_ash v_heights v_ages v_walls v_p1_vent v_p1_ash v_p1_heights v_p1_ages v_p1_walls) H locs) {ls : Array Slot} (hl : lv_has ls 2 [(0, .ref h), (1, .ref h_p1)]) : W p l e { frames := 1, cells := 0, slots := 0, locals := 26 } s m args below meth c H locs 0 0 (MQ below (kQv D wc0 (wd_Gr_become D h h_heights h_ages h_walls h_p1 h_p1_heights h_p1_ages h_p1_walls out.1 out.2.1 out.2.2.1 out.2.2.2.1 out.2.2.2.2 v_p1_vent v_p1_ash v_p1_heights v_p1_ages v_p1_walls) s.heap.size) args s 0 0 (va_A wc0 s.heap.size)) (F0 m 0 ls []) := by
  unfold f_Gr_become at hf
  obtain ⟨hx, hb, -⟩ := id X
  refine lv_aload_n hx hb d_Gr_become_0 rfl (lv_at hl 1 rfl) ?_
  refine k_get X hV 4 1 0 rfl rfl rfl gw_45 rfl rfl d_Gr_become_1 ?_
  refine lv_iconst (v := 0) hx hb d_Gr_become_4 ic_0 ?_
  refine lv_aload_n hx hb d_Gr_become_5 rfl (lv_at hl 0 rfl) ?_
  refine k_get X hV 0 1 0 rfl rfl rfl gw_45 rfl rfl d_Gr_become_6 ?_
  refine lv_iconst (v := 0) hx hb d_Gr_become_9 ic_0 ?_
  refine lv_bipush (v := 36) hx hb d_Gr_become_10 bp_36 ?_
  refine k_copyi (ws' := (wd_Gr_become D h h_heights h_ages h_walls h_p1 h_p1_heights h_p1_ages h_p1_walls v_vent v_ash (va_cpy v_p1_heights v_heights (0 : Int32).toNatClampNeg (0 : Int32).toNatClampNeg (36 : Int32).toNatClampNeg) v_ages v_walls v_p1_vent v_p1_ash v_p1_heights v_p1_ages v_p1_walls)) X hV hl.1 gw_481 5 1 rfl rfl kcp_0_0_36_36_36 rfl rfl rfl d_Gr_become_12 (fun H locs hV => ?_)
  refine lv_aload_n hx hb d_Gr_become_15 rfl (lv_at hl 1 rfl) ?_
  refine k_get X hV 4 1 1 rfl rfl rfl gw_48 rfl rfl d_Gr_become_16 ?_
  refine lv_iconst (v := 0) hx hb d_Gr_become_19 ic_0 ?_
  refine lv_aload_n hx hb d_Gr_become_20 rfl (lv_at hl 0 rfl) ?_
  refine k_get X hV 0 1 1 rfl rfl rfl gw_48 rfl rfl d_Gr_become_21 ?_
  refine lv_iconst (v := 0) hx hb d_Gr_become_24 ic_0 ?_
  refine lv_bipush (v := 36) hx hb d_Gr_become_25 bp_36 ?_
  refine k_copyi (ws' := (wd_Gr_become D h h_heights h_ages h_walls h_p1 h_p1_heights h_p1_ages h_p1_walls v_vent v_ash (va_cpy v_p1_heights v_heights (0 : Int32).toNatClampNeg (0 : Int32).toNatClampNeg (36 : Int32).toNatClampNeg) (va_cpy v_p1_ages v_ages (0 : Int32).toNatClampNeg (0 : Int32).toNatClampNeg (36 : Int32).toNatClampNeg) v_walls v_p1_vent v_p1_ash v_p1_heights v_p1_ages v_p1_walls)) X hV hl.1 gw_481 6 2 rfl rfl kcp_0_0_36_36_36 rfl rfl rfl d_Gr_become_27 (fun H locs hV => ?_)
  refine lv_aload_n hx hb d_Gr_become_30 rfl (lv_at hl 1 rfl) ?_
  refine k_get X hV 4 1 2 rfl rfl rfl gw_52 rfl rfl d_Gr_become_31 ?_
  refine lv_iconst (v := 0) hx hb d_Gr_become_34 ic_0 ?_
  refine lv_aload_n hx hb d_Gr_become_35 rfl (lv_at hl 0 rfl) ?_
  refine k_get X hV 0 1 2 rfl rfl rfl gw_52 rfl rfl d_Gr_become_36 ?_
  refine lv_iconst (v := 0) hx hb d_Gr_become_39 ic_0 ?_
  refine lv_bipush (v := 36) hx hb d_Gr_become_40 bp_36 ?_
  refine k_copyi (ws' := (wd_Gr_become D h h_heights h_ages h_walls h_p1 h_p1_heights h_p1_ages h_p1_walls v_vent v_ash (va_cpy v_p1_heights v_heights (0 : Int32).toNatClampNeg (0 : Int32).toNatClampNeg (36 : Int32).toNatClampNeg) (va_cpy v_p1_ages v_ages (0 : Int32).toNatClampNeg (0 : Int32).toNatClampNeg (36 : Int32).toNatClampNeg) (va_cpy v_p1_walls v_walls (0 : Int32).toNatClampNeg (0 : Int32).toNatClampNeg (36 : Int32).toNatClampNeg) v_p1_vent v_p1_ash v_p1_heights v_p1_ages v_p1_walls)) X hV hl.1 gw_481 7 3 rfl rfl kcp_0_0_36_36_36 rfl rfl rfl d_Gr_become_42 (fun H locs hV => ?_)
  refine lv_aload_n hx hb d_Gr_become_45 rfl (lv_at hl 0 rfl) ?_
  refine lv_aload_n hx hb d_Gr_become_46 rfl (lv_at hl 1 rfl) ?_
  refine k_get X hV 4 1 3 rfl rfl rfl gw_54 rfl rfl d_Gr_become_47 ?_
  refine k_putv (ty := .int) (ws' := (wd_Gr_become D h h_heights h_ages h_walls h_p1 h_p1_heights h_p1_ages h_p1_walls v_p1_vent v_ash (va_cpy v_p1_heights v_heights (0 : Int32).toNatClampNeg (0 : Int32).toNatClampNeg (36 : Int32).toNatClampNeg) (va_cpy v_p1_ages v_ages (0 : Int32).toNatClampNeg (0 : Int32).toNatClampNeg (36 : Int32).toNatClampNeg) (va_cpy v_p1_walls v_walls (0 : Int32).toNatClampNeg (0 : Int32).toNatClampNeg (36 : Int32).toNatClampNeg) v_p1_vent v_p1_ash v_p1_heights v_p1_ages v_p1_walls)) X hV 0 1 3 rfl rfl rfl gw_54 rfl rfl rfl rfl rfl rfl rfl d_Gr_become_50 (fun H locs hV => ?_)
  refine lv_aload_n hx hb d_Gr_become_53 rfl (lv_at hl 0 rfl) ?_
  refine lv_aload_n hx hb d_Gr_become_54 rfl (lv_at hl 1 rfl) ?_
  refine k_get X hV 4 1 4 rfl rfl rfl gw_58 rfl rfl d_Gr_become_55 ?_
  refine k_putv (ty := .int) (ws' := (wd_Gr_become D h h_heights h_ages h_walls h_p1 h_p1_heights h_p1_ages h_p1_walls v_p1_vent v_p1_ash (va_cpy v_p1_heights v_heights (0 : Int32).toNatClampNeg (0 : Int32).toNatClampNeg (36 : Int32).toNatClampNeg) (va_cpy v_p1_ages v_ages (0 : Int32).toNatClampNeg (0 : Int32).toNatClampNeg (36 : Int32).toNatClampNeg) (va_cpy v_p1_walls v_walls (0 : Int32).toNatClampNeg (0 : Int32).toNatClampNeg (36 : Int32).toNatClampNeg) v_p1_vent v_p1_ash v_p1_heights v_p1_ages v_p1_walls)) X hV 0 1 4 rfl rfl rfl gw_58 rfl rfl rfl rfl rfl rfl rfl d_Gr_become_58 (fun H locs hV => ?_)
  have e_ := Option.some.inj hf
  subst e_
  exact k_vret X rfl hV d_Gr_become_61
set_option maxHeartbeats 2000000 in
set_option maxRecDepth 20000 in
theorem c_Gr_become {l : Launch} (D : kD) (h : Nat) (h_heights : Nat) (h_ages : Nat) (h_walls : Nat) (h_p1 : Nat) (h_p1_heights : Nat) (h_p1_ages : Nat) (h_p1_walls : Nat) (v_vent : Int32) (v_ash : Int32) (v_heights : Nat → Int32) (v_ages : Nat → Int32) (v_walls : Nat → Int32) (v_p1_vent : Int32) (v_p1_ash : Int32) (v_p1_heights : Nat → Int32) (v_p1_ages : Nat → Int32) (v_p1_walls : Nat → Int32) {out : Int32 × Int32 × (Nat → Int32) × (Nat → Int32) × (Nat → Int32)} (hf : f_Gr_become v_vent v_ash v_heights v_ages v_walls v_p1_vent v_p1_ash v_p1_heights v_p1_ages v_p1_walls = some out) : kMv l D y_Gr_become b_Gr_become 2 none { frames := 1, cells := 0, slots := 0, locals := 26 } [.ref h, .ref h_p1] (wd_Gr_become D h h_heights h_ages h_walls h_p1 h_p1_heights h_p1_ages h_p1_walls v_vent v_ash v_heights v_ages v_walls v_p1_vent v_p1_ash v_p1_heights v_p1_ages v_p1_walls) (wd_Gr_become D h h_heights h_ages h_walls h_p1 h_p1_heights h_p1_ages h_p1_walls out.1 out.2.1 out.2.2.1 out.2.2.2.1 out.2.2.2.2 v_p1_vent v_p1_ash v_p1_heights v_p1_ages v_p1_walls) :=
  kMv_of (own := "MountainFarms$Ground") (plainFor_of_name (by decide)) rfl rfl (fun p e s m args below meth c ls X hV hl => t_Gr_become X hf hV hl)
set_option maxHeartbeats 2000000 in
set_option maxRecDepth 20000 in
theorem tb_Gr_lavaGoesOn_1 {l : Launch} {p : Program} {e : Env} {s : State} {m : MethodId} {args : Array Value} {below : List Frame} {meth : Method} {c : Code} {D : kD} {wc0 : va_W} {h : Nat} {h_heights : Nat} {h_ages : Nat} {h_walls : Nat} {v_vent : Int32} {v_ash : Int32} {v_heights : Nat → Int32} {v_walls : Nat → Int32} {x1 : Int32} {x2 : Int32} {x3 : Int32} {rec1 : Int32 → Int32 → Option (Int32 × (Nat → Int32))} {out : Int32 × (Nat → Int32)} (X : kX p m meth c s args D (va_A wc0 s.heap.size) b_Gr_lavaGoesOn "MountainFarms$Ground" 5 (some .int)) (hrec1 : ∀ (x2 : Int32) (x3 : Int32), rec1 x2 x3 = some out → ∀ (H : Heap) (locs : List Loc) (ls : Array Slot), kV D (va_A wc0 s.heap.size) s (wd_Gr_lavaGoesOn D h h_heights h_ages h_walls v_vent v_ash v_heights v_walls) H locs → lv_has ls 5 [(0, .ref h), (1, .int x1), (2, .int x2), (3, .int x3)] → W p l e { frames := 1, cells := 0, slots := 0, locals := 23 } s m args below meth c H locs 0 0 (MQ below (kQi D wc0 (wd_Gr_lavaGoesOn D h h_heights h_ages h_walls v_vent v_ash out.2 v_walls) s.heap.size out.1) args s 0 0 (va_A wc0 s.heap.size)) (F0 m 13 ls [])) (hf : fb_Gr_lavaGoesOn_1 rec1 x1 v_heights v_walls x2 x3 = some out) {H : Heap} {locs : List Loc} (hV : kV D (va_A wc0 s.heap.size) s (wd_Gr_lavaGoesOn D h h_heights h_ages h_walls v_vent v_ash v_heights v_walls) H locs) {ls : Array Slot} (hl : lv_has ls 5 [(0, .ref h), (1, .int x1), (2, .int x2), (3, .int x3)]) : W p l e { frames := 1, cells := 0, slots := 0, locals := 23 } s m args below meth c H locs 0 0 (MQ below (kQi D wc0 (wd_Gr_lavaGoesOn D h h_heights h_ages h_walls v_vent v_ash out.2 v_walls) s.heap.size out.1) args s 0 0 (va_A wc0 s.heap.size)) (F0 m 13 ls []) := by
  unfold fb_Gr_lavaGoesOn_1 at hf
  obtain ⟨hx, hb, -⟩ := id X
  refine lv_iload_n hx hb d_Gr_lavaGoesOn_13 rfl (lv_at hl 3 rfl) ?_
  refine lv_iconst (v := 4) hx hb d_Gr_lavaGoesOn_14 ic_4 ?_
  refine lv_icmp_ge (tgt := 64) hx hb d_Gr_lavaGoesOn_15 (by decide) (fun c_22 => ?_) (fun c_22 => ?_)
  · replace hf := kifp c_22 hf
    refine lv_iload_n hx hb d_Gr_lavaGoesOn_64 rfl (lv_at hl 2 rfl) ?_
    refine lv_iload_n hx hb d_Gr_lavaGoesOn_65 rfl (lv_at hl 1 rfl) ?_
    refine lv_icmp_ne (tgt := 88) hx hb d_Gr_lavaGoesOn_66 (by decide) (fun c_23 => ?_) (fun c_23 => ?_)
    · replace hf := kifn c_23 hf
      refine lv_iload_n hx hb d_Gr_lavaGoesOn_88 rfl (lv_at hl 2 rfl) ?_
      have e_ := Option.some.inj hf
      subst e_
      exact k_iret X rfl hV rfl d_Gr_lavaGoesOn_89
    replace hf := kifp c_23 hf
    refine lv_aload_n hx hb d_Gr_lavaGoesOn_69 rfl (lv_at hl 0 rfl) ?_
    refine k_get X hV 0 1 0 rfl rfl rfl gw_45 rfl rfl d_Gr_lavaGoesOn_70 ?_
    refine lv_iload_n hx hb d_Gr_lavaGoesOn_73 rfl (lv_at hl 1 rfl) ?_
    refine lv_bipush (v := 99) hx hb d_Gr_lavaGoesOn_74 bp_99 ?_
    refine lv_aload_n hx hb d_Gr_lavaGoesOn_76 rfl (lv_at hl 0 rfl) ?_
    refine k_get X hV 0 1 0 rfl rfl rfl gw_45 rfl rfl d_Gr_lavaGoesOn_77 ?_
    refine lv_iload_n hx hb d_Gr_lavaGoesOn_80 rfl (lv_at hl 1 rfl) ?_
    obtain ⟨h_24, hf⟩ := kidx_some hf
    refine k_iald X hV 1 rfl h_24 rfl d_Gr_lavaGoesOn_81 ?_
    refine lv_iconst (v := 3) hx hb d_Gr_lavaGoesOn_82 ic_3 ?_
    refine lv_iadd hx hb d_Gr_lavaGoesOn_83 ?_
    obtain ⟨r_25, hc_26, hf⟩ := kb1_some hf
    refine k_csi (w1 := (wd_Ma_min D)) (r := r_25) (ws' := (wd_Gr_lavaGoesOn D h h_heights h_ages h_walls v_vent v_ash v_heights v_walls)) X hV hl.1 (c_Ma_min D (99 : Int32) ((v_heights x1.toNatClampNeg) + (3 : Int32)) hc_26) fk_Ma_min gw_494 rfl [] [none, none, none] rfl rfl ⟨rfl, rfl, rfl, trivial⟩ rfl rfl rfl d_Gr_lavaGoesOn_84 (fun H locs hV => ?_)
    obtain ⟨h_27, hf⟩ := kidx_some hf
    refine k_iast (ws' := (wd_Gr_lavaGoesOn D h h_heights h_ages h_walls v_vent v_ash (upd v_heights x1.toNatClampNeg r_25) v_walls)) X hV 1 rfl h_27 rfl rfl d_Gr_lavaGoesOn_87 (fun H locs hV => ?_)
    refine lv_iload_n hx hb d_Gr_lavaGoesOn_88 rfl (lv_at hl 2 rfl) ?_
    have e_ := Option.some.inj hf
    subst e_
    exact k_iret X rfl hV rfl d_Gr_lavaGoesOn_89
  replace hf := kifn c_22 hf
  refine lv_iload_n hx hb d_Gr_lavaGoesOn_18 rfl (lv_at hl 1 rfl) ?_
  refine lv_iload_n hx hb d_Gr_lavaGoesOn_19 rfl (lv_at hl 3 rfl) ?_
  obtain ⟨r_28, hc_29, hf⟩ := kb1_some hf
  refine k_cni (w1 := (wd_X_beside D)) (r := r_28) (ws' := (wd_Gr_lavaGoesOn D h h_heights h_ages h_walls v_vent v_ash v_heights v_walls)) X hV hl.1 (c_X_beside D x1 x3 hc_29) fk_X_beside nw_6 rfl [] [none, none, none] rfl rfl ⟨rfl, rfl, rfl, trivial⟩ rfl rfl rfl d_Gr_lavaGoesOn_20 (fun H locs hV => ?_)
  refine lv_istore (lv' := [(4, .int r_28), (0, .ref h), (1, .int x1), (2, .int x2), (3, .int x3)]) hx hb d_Gr_lavaGoesOn_23 hl (by decide) rfl (fun ls hl => ?_)
  refine lv_iload hx hb d_Gr_lavaGoesOn_25 (lv_at hl 0 rfl) ?_
  refine lv_if_lt (tgt := 58) hx hb d_Gr_lavaGoesOn_27 (by decide) (fun c_30 => ?_) (fun c_30 => ?_)
  · replace hf := kifp c_30 hf
    refine lv_iinc (v := (x3 + 1)) (lv' := [(3, .int (x3 + 1)), (4, .int r_28), (0, .ref h), (1, .int x1), (2, .int x2)]) hx hb d_Gr_lavaGoesOn_58 hl (k := 4) rfl rfl (by decide) rfl (fun ls hl => ?_)
    refine lv_goto (tgt := 13) hx hb d_Gr_lavaGoesOn_61 (by decide) ?_
    exact hrec1 _ _ hf _ _ _ hV (lv_sub hl [2, 3, 4, 0] rfl)
  replace hf := kifn c_30 hf
  refine lv_aload_n hx hb d_Gr_lavaGoesOn_30 rfl (lv_at hl 1 rfl) ?_
  refine lv_iload_n hx hb d_Gr_lavaGoesOn_31 rfl (lv_at hl 2 rfl) ?_
  refine lv_iload_n hx hb d_Gr_lavaGoesOn_32 rfl (lv_at hl 4 rfl) ?_
  obtain ⟨r_31, hc_32, hf⟩ := kb1_some hf
  refine k_cvi (w1 := (wd_Gr_isWalled D h h_heights h_ages h_walls v_vent v_ash v_walls)) (r := r_31) (ws' := (wd_Gr_lavaGoesOn D h h_heights h_ages h_walls v_vent v_ash v_heights v_walls)) X hV hl.1 (c_Gr_isWalled D h h_heights h_ages h_walls v_vent v_ash v_walls x1 x3 hc_32) fk_Gr_isWalled gw_493 rfl 0 1 rfl rfl [0, 2] [some 0, none, some 1] rfl rfl ⟨rfl, rfl, rfl, rfl, rfl, rfl, rfl, trivial⟩ rfl rfl rfl d_Gr_lavaGoesOn_33 (fun H locs hV => ?_)
  refine lv_if_ne (tgt := 58) hx hb d_Gr_lavaGoesOn_36 (by decide) (fun c_33 => ?_) (fun c_33 => ?_)
  · replace hf := kifn c_33 hf
    refine lv_iinc (v := (x3 + 1)) (lv' := [(3, .int (x3 + 1)), (4, .int r_28), (0, .ref h), (1, .int x1), (2, .int x2)]) hx hb d_Gr_lavaGoesOn_58 hl (k := 4) rfl rfl (by decide) rfl (fun ls hl => ?_)
    refine lv_goto (tgt := 13) hx hb d_Gr_lavaGoesOn_61 (by decide) ?_
    exact hrec1 _ _ hf _ _ _ hV (lv_sub hl [2, 3, 4, 0] rfl)
  replace hf := kifp c_33 hf
  refine lv_aload_n hx hb d_Gr_lavaGoesOn_39 rfl (lv_at hl 1 rfl) ?_
  refine k_get X hV 0 1 0 rfl rfl rfl gw_45 rfl rfl d_Gr_lavaGoesOn_40 ?_
  refine lv_iload hx hb d_Gr_lavaGoesOn_43 (lv_at hl 0 rfl) ?_
  obtain ⟨h_34, hf⟩ := kidx_some hf
  refine k_iald X hV 1 rfl h_34 rfl d_Gr_lavaGoesOn_45 ?_
  refine lv_aload_n hx hb d_Gr_lavaGoesOn_46 rfl (lv_at hl 1 rfl) ?_
  refine k_get X hV 0 1 0 rfl rfl rfl gw_45 rfl rfl d_Gr_lavaGoesOn_47 ?_
  refine lv_iload_n hx hb d_Gr_lavaGoesOn_50 rfl (lv_at hl 3 rfl) ?_
  obtain ⟨h_35, hf⟩ := kidx_some hf
  refine k_iald X hV 1 rfl h_35 rfl d_Gr_lavaGoesOn_51 ?_
  refine lv_icmp_ge (tgt := 58) hx hb d_Gr_lavaGoesOn_52 (by decide) (fun c_36 => ?_) (fun c_36 => ?_)
  · replace hf := kifp c_36 hf
    refine lv_iinc (v := (x3 + 1)) (lv' := [(3, .int (x3 + 1)), (4, .int r_28), (0, .ref h), (1, .int x1), (2, .int x2)]) hx hb d_Gr_lavaGoesOn_58 hl (k := 4) rfl rfl (by decide) rfl (fun ls hl => ?_)
    refine lv_goto (tgt := 13) hx hb d_Gr_lavaGoesOn_61 (by decide) ?_
    exact hrec1 _ _ hf _ _ _ hV (lv_sub hl [2, 3, 4, 0] rfl)
  replace hf := kifn c_36 hf
  refine lv_iload hx hb d_Gr_lavaGoesOn_55 (lv_at hl 0 rfl) ?_
  refine lv_istore_n (lv' := [(2, .int r_28), (4, .int r_28), (0, .ref h), (1, .int x1), (3, .int x3)]) hx hb d_Gr_lavaGoesOn_57 rfl hl (by decide) rfl (fun ls hl => ?_)
  refine lv_iinc (v := (x3 + 1)) (lv' := [(3, .int (x3 + 1)), (2, .int r_28), (4, .int r_28), (0, .ref h), (1, .int x1)]) hx hb d_Gr_lavaGoesOn_58 hl (k := 4) rfl rfl (by decide) rfl (fun ls hl => ?_)
  refine lv_goto (tgt := 13) hx hb d_Gr_lavaGoesOn_61 (by decide) ?_
  exact hrec1 _ _ hf _ _ _ hV (lv_sub hl [3, 4, 1, 0] rfl)
set_option maxHeartbeats 2000000 in
set_option maxRecDepth 20000 in
theorem tl_Gr_lavaGoesOn_1 {l : Launch} {p : Program} {e : Env} {s : State} {m : MethodId} {args : Array Value} {below : List Frame} {meth : Method} {c : Code} {D : kD} {wc0 : va_W} {h : Nat} {h_heights : Nat} {h_ages : Nat} {h_walls : Nat} {v_vent : Int32} {v_ash : Int32} {v_heights : Nat → Int32} {v_walls : Nat → Int32} {x1 : Int32} {out : Int32 × (Nat → Int32)} (X : kX p m meth c s args D (va_A wc0 s.heap.size) b_Gr_lavaGoesOn "MountainFarms$Ground" 5 (some .int)) : ∀ (n : Nat) (x2 : Int32) (x3 : Int32), fl_Gr_lavaGoesOn_1 x1 v_heights v_walls n x2 x3 = some out → ∀ (H : Heap) (locs : List Loc) (ls : Array Slot), kV D (va_A wc0 s.heap.size) s (wd_Gr_lavaGoesOn D h h_heights h_ages h_walls v_vent v_ash v_heights v_walls) H locs → lv_has ls 5 [(0, .ref h), (1, .int x1), (2, .int x2), (3, .int x3)] → W p l e { frames := 1, cells := 0, slots := 0, locals := 23 } s m args below meth c H locs 0 0 (MQ below (kQi D wc0 (wd_Gr_lavaGoesOn D h h_heights h_ages h_walls v_vent v_ash out.2 v_walls) s.heap.size out.1) args s 0 0 (va_A wc0 s.heap.size)) (F0 m 13 ls []) := by
  intro n
  induction n with
  | zero => intro x2 x3 hf; exact knone hf
  | succ n ih => intro x2 x3 hf H locs ls hV hl; exact tb_Gr_lavaGoesOn_1 X ih hf hV hl
set_option maxHeartbeats 2000000 in
set_option maxRecDepth 20000 in
theorem t_Gr_lavaGoesOn {l : Launch} {p : Program} {e : Env} {s : State} {m : MethodId} {args : Array Value} {below : List Frame} {meth : Method} {c : Code} {D : kD} {wc0 : va_W} {h : Nat} {h_heights : Nat} {h_ages : Nat} {h_walls : Nat} {v_vent : Int32} {v_ash : Int32} {v_heights : Nat → Int32} {v_walls : Nat → Int32} {x1 : Int32} {out : Int32 × (Nat → Int32)} (X : kX p m meth c s args D (va_A wc0 s.heap.size) b_Gr_lavaGoesOn "MountainFarms$Ground" 5 (some .int)) (hf : f_Gr_lavaGoesOn v_heights v_walls x1 = some out) {H : Heap} {locs : List Loc} (hV : kV D (va_A wc0 s.heap.size) s (wd_Gr_lavaGoesOn D h h_heights h_ages h_walls v_vent v_ash v_heights v_walls) H locs) {ls : Array Slot} (hl : lv_has ls 5 [(0, .ref h), (1, .int x1)]) : W p l e { frames := 1, cells := 0, slots := 0, locals := 23 } s m args below meth c H locs 0 0 (MQ below (kQi D wc0 (wd_Gr_lavaGoesOn D h h_heights h_ages h_walls v_vent v_ash out.2 v_walls) s.heap.size out.1) args s 0 0 (va_A wc0 s.heap.size)) (F0 m 0 ls []) := by
  unfold f_Gr_lavaGoesOn at hf
  obtain ⟨hx, hb, -⟩ := id X
  refine lv_iload_n hx hb d_Gr_lavaGoesOn_0 rfl (lv_at hl 1 rfl) ?_
  obtain ⟨r_19, hc_20, hf⟩ := kb1_some hf
  refine k_cni (w1 := (wd_X_isCell D)) (r := r_19) (ws' := (wd_Gr_lavaGoesOn D h h_heights h_ages h_walls v_vent v_ash v_heights v_walls)) X hV hl.1 (c_X_isCell D x1 hc_20) fk_X_isCell nw_9 rfl [] [none, none, none] rfl rfl ⟨rfl, rfl, rfl, trivial⟩ rfl rfl rfl d_Gr_lavaGoesOn_1 (fun H locs hV => ?_)
  refine lv_if_ne (tgt := 9) hx hb d_Gr_lavaGoesOn_4 (by decide) (fun c_21 => ?_) (fun c_21 => ?_)
  · replace hf := kifn c_21 hf
    refine lv_iload_n hx hb d_Gr_lavaGoesOn_9 rfl (lv_at hl 1 rfl) ?_
    refine lv_istore_n (lv' := [(2, .int x1), (0, .ref h), (1, .int x1)]) hx hb d_Gr_lavaGoesOn_10 rfl hl (by decide) rfl (fun ls hl => ?_)
    refine lv_iconst (v := 0) hx hb d_Gr_lavaGoesOn_11 ic_0 ?_
    refine lv_istore_n (lv' := [(3, .int (0 : Int32)), (2, .int x1), (0, .ref h), (1, .int x1)]) hx hb d_Gr_lavaGoesOn_12 rfl hl (by decide) rfl (fun ls hl => ?_)
    exact tl_Gr_lavaGoesOn_1 X _ _ _ hf _ _ _ hV (lv_sub hl [2, 3, 1, 0] rfl)
  replace hf := kifp c_21 hf
  refine lv_iload_n hx hb d_Gr_lavaGoesOn_7 rfl (lv_at hl 1 rfl) ?_
  have e_ := Option.some.inj hf
  subst e_
  exact k_iret X rfl hV rfl d_Gr_lavaGoesOn_8
set_option maxHeartbeats 2000000 in
set_option maxRecDepth 20000 in
theorem c_Gr_lavaGoesOn {l : Launch} (D : kD) (h : Nat) (h_heights : Nat) (h_ages : Nat) (h_walls : Nat) (v_vent : Int32) (v_ash : Int32) (v_heights : Nat → Int32) (v_walls : Nat → Int32) (x1 : Int32) {out : Int32 × (Nat → Int32)} (hf : f_Gr_lavaGoesOn v_heights v_walls x1 = some out) : kMi l D y_Gr_lavaGoesOn b_Gr_lavaGoesOn 5 (some .int) { frames := 1, cells := 0, slots := 0, locals := 23 } [.ref h, .int x1] (wd_Gr_lavaGoesOn D h h_heights h_ages h_walls v_vent v_ash v_heights v_walls) (wd_Gr_lavaGoesOn D h h_heights h_ages h_walls v_vent v_ash out.2 v_walls) out.1 :=
  kMi_of (own := "MountainFarms$Ground") (plainFor_of_name (by decide)) rfl rfl (fun p e s m args below meth c ls X hV hl => t_Gr_lavaGoesOn X hf hV hl)
set_option maxHeartbeats 2000000 in
set_option maxRecDepth 20000 in
theorem tb_Gr_lavaFrom_1 {l : Launch} {p : Program} {e : Env} {s : State} {m : MethodId} {args : Array Value} {below : List Frame} {meth : Method} {c : Code} {D : kD} {wc0 : va_W} {h : Nat} {h_heights : Nat} {h_ages : Nat} {h_walls : Nat} {v_vent : Int32} {v_ash : Int32} {v_heights : Nat → Int32} {v_walls : Nat → Int32} {x2 : Int32} {x3 : Int32} {x4 : Int64} {x6 : Int32} {rec1 : Int32 → Int64 → Int32 → (Nat → Int32) → Option (Int64 × (Nat → Int32))} {out : Int64 × (Nat → Int32)} (X : kX p m meth c s args D (va_A wc0 s.heap.size) b_Gr_lavaFrom "MountainFarms$Ground" 7 (some .long)) (hrec1 : ∀ (x3 : Int32) (x4 : Int64) (x6 : Int32) (v_heights : Nat → Int32), rec1 x3 x4 x6 v_heights = some out → ∀ (H : Heap) (locs : List Loc) (ls : Array Slot), kV D (va_A wc0 s.heap.size) s (wd_Gr_lavaFrom D h h_heights h_ages h_walls v_vent v_ash v_heights v_walls) H locs → lv_has ls 7 [(0, .ref h), (2, .int x2), (3, .int x3), (4, .long x4), (6, .int x6)] → W p l e { frames := 2, cells := 0, slots := 0, locals := 47 } s m args below meth c H locs 0 0 (MQ below (kQl D wc0 (wd_Gr_lavaFrom D h h_heights h_ages h_walls v_vent v_ash out.2 v_walls) s.heap.size out.1) args s 0 0 (va_A wc0 s.heap.size)) (F0 m 10 ls [])) (hf : fb_Gr_lavaFrom_1 rec1 x2 v_walls x3 x4 x6 v_heights = some out) {H : Heap} {locs : List Loc} (hV : kV D (va_A wc0 s.heap.size) s (wd_Gr_lavaFrom D h h_heights h_ages h_walls v_vent v_ash v_heights v_walls) H locs) {ls : Array Slot} (hl : lv_has ls 7 [(0, .ref h), (2, .int x2), (3, .int x3), (4, .long x4), (6, .int x6)]) : W p l e { frames := 2, cells := 0, slots := 0, locals := 47 } s m args below meth c H locs 0 0 (MQ below (kQl D wc0 (wd_Gr_lavaFrom D h h_heights h_ages h_walls v_vent v_ash out.2 v_walls) s.heap.size out.1) args s 0 0 (va_A wc0 s.heap.size)) (F0 m 10 ls []) := by
  unfold fb_Gr_lavaFrom_1 at hf
  obtain ⟨hx, hb, -⟩ := id X
  refine lv_iload hx hb d_Gr_lavaFrom_10 (lv_at hl 4 rfl) ?_
  refine lv_iload_n hx hb d_Gr_lavaFrom_12 rfl (lv_at hl 1 rfl) ?_
  refine lv_icmp_ge (tgt := 36) hx hb d_Gr_lavaFrom_13 (by decide) (fun c_8 => ?_) (fun c_8 => ?_)
  · replace hf := kifp c_8 hf
    refine lv_lload hx hb d_Gr_lavaFrom_36 (lv_at hl 3 rfl) ?_
    have e_ := Option.some.inj hf
    subst e_
    exact k_lret X rfl hV d_Gr_lavaFrom_38
  replace hf := kifn c_8 hf
  refine lv_aload_n hx hb d_Gr_lavaFrom_16 rfl (lv_at hl 0 rfl) ?_
  refine lv_iload_n hx hb d_Gr_lavaFrom_17 rfl (lv_at hl 2 rfl) ?_
  obtain ⟨r_9, v_heights_10, hc_11, hf⟩ := kb2_some hf
  refine k_cvi (w1 := (wd_Gr_lavaGoesOn D h h_heights h_ages h_walls v_vent v_ash v_heights_10 v_walls)) (r := r_9) (ws' := (wd_Gr_lavaFrom D h h_heights h_ages h_walls v_vent v_ash v_heights_10 v_walls)) X hV hl.1 (c_Gr_lavaGoesOn D h h_heights h_ages h_walls v_vent v_ash v_heights v_walls x3 hc_11) fk_Gr_lavaGoesOn gw_488 rfl 0 1 rfl rfl [0, 1, 2] [some 0, some 1, some 2] rfl rfl ⟨rfl, rfl, rfl, rfl, rfl, rfl, rfl, rfl, rfl, trivial⟩ rfl rfl rfl d_Gr_lavaFrom_18 (fun H locs hV => ?_)
  refine lv_istore_n (lv' := [(3, .int r_9), (0, .ref h), (2, .int x2), (4, .long x4), (6, .int x6)]) hx hb d_Gr_lavaFrom_21 rfl hl (by decide) rfl (fun ls hl => ?_)
  refine lv_lload hx hb d_Gr_lavaFrom_22 (lv_at hl 3 rfl) ?_
  refine lv_lconst (v := 1) hx hb d_Gr_lavaFrom_24 lc_1 ?_
  refine lv_iload_n hx hb d_Gr_lavaFrom_25 rfl (lv_at hl 0 rfl) ?_
  refine lv_lshl hx hb d_Gr_lavaFrom_26 rfl ?_
  refine lv_lor hx hb d_Gr_lavaFrom_27 ?_
  refine k_letl hf (fun x4_12 hf => ?_)
  refine lv_lstore (lv' := [(4, .long x4_12), (3, .int r_9), (0, .ref h), (2, .int x2), (6, .int x6)]) hx hb d_Gr_lavaFrom_28 hl (by decide) rfl (fun ls hl => ?_)
  refine lv_iinc (v := (x6 + 1)) (lv' := [(6, .int (x6 + 1)), (4, .long x4_12), (3, .int r_9), (0, .ref h), (2, .int x2)]) hx hb d_Gr_lavaFrom_30 hl (k := 4) rfl rfl (by decide) rfl (fun ls hl => ?_)
  refine lv_goto (tgt := 10) hx hb d_Gr_lavaFrom_33 (by decide) ?_
  exact hrec1 _ _ _ _ hf _ _ _ hV (lv_sub hl [3, 4, 2, 1, 0] rfl)
set_option maxHeartbeats 2000000 in
set_option maxRecDepth 20000 in
theorem tl_Gr_lavaFrom_1 {l : Launch} {p : Program} {e : Env} {s : State} {m : MethodId} {args : Array Value} {below : List Frame} {meth : Method} {c : Code} {D : kD} {wc0 : va_W} {h : Nat} {h_heights : Nat} {h_ages : Nat} {h_walls : Nat} {v_vent : Int32} {v_ash : Int32} {v_walls : Nat → Int32} {x2 : Int32} {out : Int64 × (Nat → Int32)} (X : kX p m meth c s args D (va_A wc0 s.heap.size) b_Gr_lavaFrom "MountainFarms$Ground" 7 (some .long)) : ∀ (n : Nat) (x3 : Int32) (x4 : Int64) (x6 : Int32) (v_heights : Nat → Int32), fl_Gr_lavaFrom_1 x2 v_walls n x3 x4 x6 v_heights = some out → ∀ (H : Heap) (locs : List Loc) (ls : Array Slot), kV D (va_A wc0 s.heap.size) s (wd_Gr_lavaFrom D h h_heights h_ages h_walls v_vent v_ash v_heights v_walls) H locs → lv_has ls 7 [(0, .ref h), (2, .int x2), (3, .int x3), (4, .long x4), (6, .int x6)] → W p l e { frames := 2, cells := 0, slots := 0, locals := 47 } s m args below meth c H locs 0 0 (MQ below (kQl D wc0 (wd_Gr_lavaFrom D h h_heights h_ages h_walls v_vent v_ash out.2 v_walls) s.heap.size out.1) args s 0 0 (va_A wc0 s.heap.size)) (F0 m 10 ls []) := by
  intro n
  induction n with
  | zero => intro x3 x4 x6 v_heights hf; exact knone hf
  | succ n ih => intro x3 x4 x6 v_heights hf H locs ls hV hl; exact tb_Gr_lavaFrom_1 X ih hf hV hl
set_option maxHeartbeats 2000000 in
set_option maxRecDepth 20000 in
theorem t_Gr_lavaFrom {l : Launch} {p : Program} {e : Env} {s : State} {m : MethodId} {args : Array Value} {below : List Frame} {meth : Method} {c : Code} {D : kD} {wc0 : va_W} {h : Nat} {h_heights : Nat} {h_ages : Nat} {h_walls : Nat} {v_vent : Int32} {v_ash : Int32} {v_heights : Nat → Int32} {v_walls : Nat → Int32} {x1 : Int32} {x2 : Int32} {out : Int64 × (Nat → Int32)} (X : kX p m meth c s args D (va_A wc0 s.heap.size) b_Gr_lavaFrom "MountainFarms$Ground" 7 (some .long)) (hf : f_Gr_lavaFrom v_heights v_walls x1 x2 = some out) {H : Heap} {locs : List Loc} (hV : kV D (va_A wc0 s.heap.size) s (wd_Gr_lavaFrom D h h_heights h_ages h_walls v_vent v_ash v_heights v_walls) H locs) {ls : Array Slot} (hl : lv_has ls 7 [(0, .ref h), (1, .int x1), (2, .int x2)]) : W p l e { frames := 2, cells := 0, slots := 0, locals := 47 } s m args below meth c H locs 0 0 (MQ below (kQl D wc0 (wd_Gr_lavaFrom D h h_heights h_ages h_walls v_vent v_ash out.2 v_walls) s.heap.size out.1) args s 0 0 (va_A wc0 s.heap.size)) (F0 m 0 ls []) := by
  unfold f_Gr_lavaFrom at hf
  obtain ⟨hx, hb, -⟩ := id X
  refine lv_iload_n hx hb d_Gr_lavaFrom_0 rfl (lv_at hl 1 rfl) ?_
  refine lv_istore_n (lv' := [(3, .int x1), (0, .ref h), (1, .int x1), (2, .int x2)]) hx hb d_Gr_lavaFrom_1 rfl hl (by decide) rfl (fun ls hl => ?_)
  refine lv_lconst (v := 1) hx hb d_Gr_lavaFrom_2 lc_1 ?_
  refine lv_iload_n hx hb d_Gr_lavaFrom_3 rfl (lv_at hl 0 rfl) ?_
  refine lv_lshl hx hb d_Gr_lavaFrom_4 rfl ?_
  refine k_letl hf (fun x4_7 hf => ?_)
  refine lv_lstore (lv' := [(4, .long x4_7), (3, .int x1), (0, .ref h), (1, .int x1), (2, .int x2)]) hx hb d_Gr_lavaFrom_5 hl (by decide) rfl (fun ls hl => ?_)
  refine lv_iconst (v := 1) hx hb d_Gr_lavaFrom_7 ic_1 ?_
  refine lv_istore (lv' := [(6, .int (1 : Int32)), (4, .long x4_7), (3, .int x1), (0, .ref h), (1, .int x1), (2, .int x2)]) hx hb d_Gr_lavaFrom_8 hl (by decide) rfl (fun ls hl => ?_)
  exact tl_Gr_lavaFrom_1 X _ _ _ _ _ hf _ _ _ hV (lv_sub hl [3, 5, 2, 1, 0] rfl)
set_option maxHeartbeats 2000000 in
set_option maxRecDepth 20000 in
theorem c_Gr_lavaFrom {l : Launch} (D : kD) (h : Nat) (h_heights : Nat) (h_ages : Nat) (h_walls : Nat) (v_vent : Int32) (v_ash : Int32) (v_heights : Nat → Int32) (v_walls : Nat → Int32) (x1 : Int32) (x2 : Int32) {out : Int64 × (Nat → Int32)} (hf : f_Gr_lavaFrom v_heights v_walls x1 x2 = some out) : kMl l D y_Gr_lavaFrom b_Gr_lavaFrom 7 (some .long) { frames := 2, cells := 0, slots := 0, locals := 47 } [.ref h, .int x1, .int x2] (wd_Gr_lavaFrom D h h_heights h_ages h_walls v_vent v_ash v_heights v_walls) (wd_Gr_lavaFrom D h h_heights h_ages h_walls v_vent v_ash out.2 v_walls) out.1 :=
  kMl_of (own := "MountainFarms$Ground") (plainFor_of_name (by decide)) rfl rfl (fun p e s m args below meth c ls X hV hl => t_Gr_lavaFrom X hf hV hl)
set_option maxHeartbeats 2000000 in
set_option maxRecDepth 20000 in
theorem tb_Fa_standingOn_1 {l : Launch} {p : Program} {e : Env} {s : State} {m : MethodId} {args : Array Value} {below : List Frame} {meth : Method} {c : Code} {D : kD} {wc0 : va_W} {h : Nat} {h_kinds : Nat} {h_cells : Nat} {h_owners : Nat} {h_purses : Nat} {v_number : Int32} {v_burnt : Int32} {v_cells : Nat → Int32} {x1 : Int64} {x3 : Int32} {x4 : Int32} {rec1 : Int32 → Int32 → Option (Int32)} {out : Int32} (X : kX p m meth c s args D (va_A wc0 s.heap.size) b_Fa_standingOn "MountainFarms$Farms" 5 (some .int)) (hrec1 : ∀ (x3 : Int32) (x4 : Int32), rec1 x3 x4 = some out → ∀ (H : Heap) (locs : List Loc) (ls : Array Slot), kV D (va_A wc0 s.heap.size) s (wd_Fa_standingOn D h h_kinds h_cells h_owners h_purses v_number v_burnt v_cells) H locs → lv_has ls 5 [(0, .ref h), (1, .long x1), (3, .int x3), (4, .int x4)] → W p l e { frames := 0, cells := 0, slots := 0, locals := 0 } s m args below meth c H locs 0 0 (MQ below (kQi D wc0 (wd_Fa_standingOn D h h_kinds h_cells h_owners h_purses v_number v_burnt v_cells) s.heap.size out) args s 0 0 (va_A wc0 s.heap.size)) (F0 m 5 ls [])) (hf : fb_Fa_standingOn_1 rec1 x1 v_number v_cells x3 x4 = some out) {H : Heap} {locs : List Loc} (hV : kV D (va_A wc0 s.heap.size) s (wd_Fa_standingOn D h h_kinds h_cells h_owners h_purses v_number v_burnt v_cells) H locs) {ls : Array Slot} (hl : lv_has ls 5 [(0, .ref h), (1, .long x1), (3, .int x3), (4, .int x4)]) : W p l e { frames := 0, cells := 0, slots := 0, locals := 0 } s m args below meth c H locs 0 0 (MQ below (kQi D wc0 (wd_Fa_standingOn D h h_kinds h_cells h_owners h_purses v_number v_burnt v_cells) s.heap.size out) args s 0 0 (va_A wc0 s.heap.size)) (F0 m 5 ls []) := by
  unfold fb_Fa_standingOn_1 at hf
  obtain ⟨hx, hb, -⟩ := id X
  refine lv_iload hx hb d_Fa_standingOn_5 (lv_at hl 3 rfl) ?_
  refine lv_aload_n hx hb d_Fa_standingOn_7 rfl (lv_at hl 0 rfl) ?_
  refine k_get X hV 0 0 4 rfl rfl rfl gw_87 rfl rfl d_Fa_standingOn_8 ?_
  refine lv_icmp_ge (tgt := 43) hx hb d_Fa_standingOn_11 (by decide) (fun c_5 => ?_) (fun c_5 => ?_)
  · replace hf := kifp c_5 hf
    refine lv_iload_n hx hb d_Fa_standingOn_43 rfl (lv_at hl 2 rfl) ?_
    have e_ := Option.some.inj hf
    subst e_
    exact k_iret X rfl hV rfl d_Fa_standingOn_44
  replace hf := kifn c_5 hf
  refine lv_lload_n hx hb d_Fa_standingOn_14 rfl (lv_at hl 1 rfl) ?_
  refine lv_aload_n hx hb d_Fa_standingOn_15 rfl (lv_at hl 0 rfl) ?_
  refine k_get X hV 0 0 1 rfl rfl rfl gw_81 rfl rfl d_Fa_standingOn_16 ?_
  refine lv_iload hx hb d_Fa_standingOn_19 (lv_at hl 3 rfl) ?_
  obtain ⟨h_6, hf⟩ := kidx_some hf
  refine k_iald X hV 1 rfl h_6 rfl d_Fa_standingOn_21 ?_
  refine lv_lshr hx hb d_Fa_standingOn_22 rfl ?_
  refine lv_lconst (v := 1) hx hb d_Fa_standingOn_23 lc_1 ?_
  refine lv_land hx hb d_Fa_standingOn_24 ?_
  refine lv_lconst (v := 1) hx hb d_Fa_standingOn_25 lc_1 ?_
  refine W.lcmp hx hb d_Fa_standingOn_26 ?_
  refine lv_if_ne (tgt := 37) hx hb d_Fa_standingOn_27 (by decide) (fun c_7 => ?_) (fun c_7 => ?_)
  · replace hf := kifn c_7 hf
    refine lv_iinc (v := (x4 + 1)) (lv' := [(4, .int (x4 + 1)), (0, .ref h), (1, .long x1), (3, .int x3)]) hx hb d_Fa_standingOn_37 hl (k := 3) rfl rfl (by decide) rfl (fun ls hl => ?_)
    refine lv_goto (tgt := 5) hx hb d_Fa_standingOn_40 (by decide) ?_
    exact hrec1 _ _ hf _ _ _ hV (lv_sub hl [1, 2, 3, 0] rfl)
  replace hf := kifp c_7 hf
  refine lv_iload_n hx hb d_Fa_standingOn_30 rfl (lv_at hl 2 rfl) ?_
  refine lv_iconst (v := 1) hx hb d_Fa_standingOn_31 ic_1 ?_
  refine lv_iload hx hb d_Fa_standingOn_32 (lv_at hl 3 rfl) ?_
  refine lv_ishl hx hb d_Fa_standingOn_34 ?_
  refine lv_ior hx hb d_Fa_standingOn_35 ?_
  refine k_leti hf (fun x3_8 hf => ?_)
  refine lv_istore_n (lv' := [(3, .int x3_8), (0, .ref h), (1, .long x1), (4, .int x4)]) hx hb d_Fa_standingOn_36 rfl hl (by decide) rfl (fun ls hl => ?_)
  refine lv_iinc (v := (x4 + 1)) (lv' := [(4, .int (x4 + 1)), (3, .int x3_8), (0, .ref h), (1, .long x1)]) hx hb d_Fa_standingOn_37 hl (k := 3) rfl rfl (by decide) rfl (fun ls hl => ?_)
  refine lv_goto (tgt := 5) hx hb d_Fa_standingOn_40 (by decide) ?_
  exact hrec1 _ _ hf _ _ _ hV (lv_sub hl [2, 3, 1, 0] rfl)
set_option maxHeartbeats 2000000 in
set_option maxRecDepth 20000 in
theorem tl_Fa_standingOn_1 {l : Launch} {p : Program} {e : Env} {s : State} {m : MethodId} {args : Array Value} {below : List Frame} {meth : Method} {c : Code} {D : kD} {wc0 : va_W} {h : Nat} {h_kinds : Nat} {h_cells : Nat} {h_owners : Nat} {h_purses : Nat} {v_number : Int32} {v_burnt : Int32} {v_cells : Nat → Int32} {x1 : Int64} {out : Int32} (X : kX p m meth c s args D (va_A wc0 s.heap.size) b_Fa_standingOn "MountainFarms$Farms" 5 (some .int)) : ∀ (n : Nat) (x3 : Int32) (x4 : Int32), fl_Fa_standingOn_1 x1 v_number v_cells n x3 x4 = some out → ∀ (H : Heap) (locs : List Loc) (ls : Array Slot), kV D (va_A wc0 s.heap.size) s (wd_Fa_standingOn D h h_kinds h_cells h_owners h_purses v_number v_burnt v_cells) H locs → lv_has ls 5 [(0, .ref h), (1, .long x1), (3, .int x3), (4, .int x4)] → W p l e { frames := 0, cells := 0, slots := 0, locals := 0 } s m args below meth c H locs 0 0 (MQ below (kQi D wc0 (wd_Fa_standingOn D h h_kinds h_cells h_owners h_purses v_number v_burnt v_cells) s.heap.size out) args s 0 0 (va_A wc0 s.heap.size)) (F0 m 5 ls []) := by
  intro n
  induction n with
  | zero => intro x3 x4 hf; exact knone hf
  | succ n ih => intro x3 x4 hf H locs ls hV hl; exact tb_Fa_standingOn_1 X ih hf hV hl
set_option maxHeartbeats 2000000 in
set_option maxRecDepth 20000 in
theorem t_Fa_standingOn {l : Launch} {p : Program} {e : Env} {s : State} {m : MethodId} {args : Array Value} {below : List Frame} {meth : Method} {c : Code} {D : kD} {wc0 : va_W} {h : Nat} {h_kinds : Nat} {h_cells : Nat} {h_owners : Nat} {h_purses : Nat} {v_number : Int32} {v_burnt : Int32} {v_cells : Nat → Int32} {x1 : Int64} {out : Int32} (X : kX p m meth c s args D (va_A wc0 s.heap.size) b_Fa_standingOn "MountainFarms$Farms" 5 (some .int)) (hf : f_Fa_standingOn v_number v_cells x1 = some out) {H : Heap} {locs : List Loc} (hV : kV D (va_A wc0 s.heap.size) s (wd_Fa_standingOn D h h_kinds h_cells h_owners h_purses v_number v_burnt v_cells) H locs) {ls : Array Slot} (hl : lv_has ls 5 [(0, .ref h), (1, .long x1)]) : W p l e { frames := 0, cells := 0, slots := 0, locals := 0 } s m args below meth c H locs 0 0 (MQ below (kQi D wc0 (wd_Fa_standingOn D h h_kinds h_cells h_owners h_purses v_number v_burnt v_cells) s.heap.size out) args s 0 0 (va_A wc0 s.heap.size)) (F0 m 0 ls []) := by
  unfold f_Fa_standingOn at hf
  obtain ⟨hx, hb, -⟩ := id X
  refine lv_iconst (v := 0) hx hb d_Fa_standingOn_0 ic_0 ?_
  refine lv_istore_n (lv' := [(3, .int (0 : Int32)), (0, .ref h), (1, .long x1)]) hx hb d_Fa_standingOn_1 rfl hl (by decide) rfl (fun ls hl => ?_)
  refine lv_iconst (v := 0) hx hb d_Fa_standingOn_2 ic_0 ?_
  refine lv_istore (lv' := [(4, .int (0 : Int32)), (3, .int (0 : Int32)), (0, .ref h), (1, .long x1)]) hx hb d_Fa_standingOn_3 hl (by decide) rfl (fun ls hl => ?_)
  exact tl_Fa_standingOn_1 X _ _ _ hf _ _ _ hV (lv_sub hl [2, 3, 1, 0] rfl)
set_option maxHeartbeats 2000000 in
set_option maxRecDepth 20000 in
theorem c_Fa_standingOn {l : Launch} (D : kD) (h : Nat) (h_kinds : Nat) (h_cells : Nat) (h_owners : Nat) (h_purses : Nat) (v_number : Int32) (v_burnt : Int32) (v_cells : Nat → Int32) (x1 : Int64) {out : Int32} (hf : f_Fa_standingOn v_number v_cells x1 = some out) : kMi l D y_Fa_standingOn b_Fa_standingOn 5 (some .int) { frames := 0, cells := 0, slots := 0, locals := 0 } [.ref h, .long x1] (wd_Fa_standingOn D h h_kinds h_cells h_owners h_purses v_number v_burnt v_cells) (wd_Fa_standingOn D h h_kinds h_cells h_owners h_purses v_number v_burnt v_cells) out :=
  kMi_of (own := "MountainFarms$Farms") (plainFor_of_name (by decide)) rfl rfl (fun p e s m args below meth c ls X hV hl => t_Fa_standingOn X hf hV hl)
set_option maxHeartbeats 2000000 in
set_option maxRecDepth 20000 in
theorem t_Mo_goOn_2 {l : Launch} {p : Program} {e : Env} {s : State} {m : MethodId} {args : Array Value} {below : List Frame} {meth : Method} {c : Code} {D : kD} {wc0 : va_W} {h : Nat} {h_chances : Nat} {h_shows : Nat} {h_diary : Nat} {v_seen : Int32} {v_state : Int32} {v_z : Int32} {v_chances : Nat → Int32} {v_shows : Nat → Int32} {x2 : Int32} {out : Int32 × Int32 × Int32} (X : kX p m meth c s args D (va_A wc0 s.heap.size) b_Mo_goOn "MountainFarms$Mountain" 5 (some .boolean)) (hf : f_Mo_goOn_2 x2 v_state v_z = some out) {H : Heap} {locs : List Loc} (hV : kV D (va_A wc0 s.heap.size) s (wd_Mo_goOn D h h_chances h_shows h_diary v_seen v_state v_z v_chances v_shows) H locs) {ls : Array Slot} (hl : lv_has ls 5 [(0, .ref h), (2, .int x2)]) : W p l e { frames := 2, cells := 0, slots := 0, locals := 47 } s m args below meth c H locs 0 0 (MQ below (kQi D wc0 (wd_Mo_goOn D h h_chances h_shows h_diary v_seen out.2.1 out.2.2 v_chances v_shows) s.heap.size out.1) args s 0 0 (va_A wc0 s.heap.size)) (F0 m 73 ls []) := by
  unfold f_Mo_goOn_2 at hf
  obtain ⟨hx, hb, -⟩ := id X
  refine lv_aload_n hx hb d_Mo_goOn_73 rfl (lv_at hl 0 rfl) ?_
  refine k_get X hV 0 2 4 rfl rfl rfl gw_119 rfl rfl d_Mo_goOn_74 ?_
  refine lv_iconst (v := 3) hx hb d_Mo_goOn_77 ic_3 ?_
  refine lv_icmp_ne (tgt := 90) hx hb d_Mo_goOn_78 (by decide) (fun c_13 => ?_) (fun c_13 => ?_)
  · replace hf := kifn c_13 hf
    refine lv_iconst (v := 0) hx hb d_Mo_goOn_90 ic_0 ?_
    have e_ := Option.some.inj hf
    subst e_
    exact k_iret (v := 0) X rfl hV nb0 d_Mo_goOn_91
  replace hf := kifp c_13 hf
  refine lv_iload_n hx hb d_Mo_goOn_81 rfl (lv_at hl 1 rfl) ?_
  refine lv_iconst (v := 3) hx hb d_Mo_goOn_82 ic_3 ?_
  refine lv_icmp_eq (tgt := 90) hx hb d_Mo_goOn_83 (by decide) (fun c_14 => ?_) (fun c_14 => ?_)
  · replace hf := kifp c_14 hf
    refine lv_iconst (v := 0) hx hb d_Mo_goOn_90 ic_0 ?_
    have e_ := Option.some.inj hf
    subst e_
    exact k_iret (v := 0) X rfl hV nb0 d_Mo_goOn_91
  replace hf := kifn c_14 hf
  refine lv_iconst (v := 1) hx hb d_Mo_goOn_86 ic_1 ?_
  refine lv_goto (tgt := 91) hx hb d_Mo_goOn_87 (by decide) ?_
  have e_ := Option.some.inj hf
  subst e_
  exact k_iret (v := 1) X rfl hV nb1 d_Mo_goOn_91
set_option maxHeartbeats 2000000 in
set_option maxRecDepth 20000 in
theorem tb_Mo_goOn_1 {l : Launch} {p : Program} {e : Env} {s : State} {m : MethodId} {args : Array Value} {below : List Frame} {meth : Method} {c : Code} {D : kD} {wc0 : va_W} {h : Nat} {h_chances : Nat} {h_shows : Nat} {h_diary : Nat} {v_seen : Int32} {v_state : Int32} {v_z : Int32} {v_chances : Nat → Int32} {v_shows : Nat → Int32} {x1 : Int32} {x2 : Int32} {x3 : Int32} {x4 : Int32} {rec1 : Int32 → Int32 → Int32 → Option (Int32 × Int32 × Int32)} {out : Int32 × Int32 × Int32} (X : kX p m meth c s args D (va_A wc0 s.heap.size) b_Mo_goOn "MountainFarms$Mountain" 5 (some .boolean)) (hrec1 : ∀ (x3 : Int32) (x4 : Int32) (v_state : Int32), rec1 x3 x4 v_state = some out → ∀ (H : Heap) (locs : List Loc) (ls : Array Slot), kV D (va_A wc0 s.heap.size) s (wd_Mo_goOn D h h_chances h_shows h_diary v_seen v_state v_z v_chances v_shows) H locs → lv_has ls 5 [(0, .ref h), (1, .int x1), (2, .int x2), (3, .int x3), (4, .int x4)] → W p l e { frames := 2, cells := 0, slots := 0, locals := 47 } s m args below meth c H locs 0 0 (MQ below (kQi D wc0 (wd_Mo_goOn D h h_chances h_shows h_diary v_seen out.2.1 out.2.2 v_chances v_shows) s.heap.size out.1) args s 0 0 (va_A wc0 s.heap.size)) (F0 m 36 ls [])) (hf : fb_Mo_goOn_1 rec1 x1 x2 v_z v_chances v_shows x3 x4 v_state = some out) {H : Heap} {locs : List Loc} (hV : kV D (va_A wc0 s.heap.size) s (wd_Mo_goOn D h h_chances h_shows h_diary v_seen v_state v_z v_chances v_shows) H locs) {ls : Array Slot} (hl : lv_has ls 5 [(0, .ref h), (1, .int x1), (2, .int x2), (3, .int x3), (4, .int x4)]) : W p l e { frames := 2, cells := 0, slots := 0, locals := 47 } s m args below meth c H locs 0 0 (MQ below (kQi D wc0 (wd_Mo_goOn D h h_chances h_shows h_diary v_seen out.2.1 out.2.2 v_chances v_shows) s.heap.size out.1) args s 0 0 (va_A wc0 s.heap.size)) (F0 m 36 ls []) := by
  unfold fb_Mo_goOn_1 at hf
  obtain ⟨hx, hb, -⟩ := id X
  refine lv_iload hx hb d_Mo_goOn_36 (lv_at hl 4 rfl) ?_
  refine lv_iconst (v := 4) hx hb d_Mo_goOn_38 ic_4 ?_
  refine lv_icmp_ge (tgt := 73) hx hb d_Mo_goOn_39 (by decide) (fun c_9 => ?_) (fun c_9 => ?_)
  · replace hf := kifp c_9 hf
    exact t_Mo_goOn_2 X hf hV (lv_sub hl [0, 2] rfl)
  replace hf := kifn c_9 hf
  refine lv_iload_n hx hb d_Mo_goOn_42 rfl (lv_at hl 3 rfl) ?_
  refine lv_aload_n hx hb d_Mo_goOn_43 rfl (lv_at hl 0 rfl) ?_
  refine lv_iconst (v := 0) hx hb d_Mo_goOn_44 ic_0 ?_
  refine lv_iload_n hx hb d_Mo_goOn_45 rfl (lv_at hl 2 rfl) ?_
  refine lv_iload hx hb d_Mo_goOn_46 (lv_at hl 4 rfl) ?_
  obtain ⟨r_10, hc_11, hf⟩ := kb1_some hf
  refine k_cvi (w1 := (wd_Mo_tenthAt D h h_chances h_shows h_diary v_seen v_state v_z v_chances v_shows)) (r := r_10) (ws' := (wd_Mo_goOn D h h_chances h_shows h_diary v_seen v_state v_z v_chances v_shows)) X hV hl.1 (c_Mo_tenthAt D h h_chances h_shows h_diary v_seen v_state v_z v_chances v_shows (0 : Int32) x2 x4 hc_11) fk_Mo_tenthAt gw_554 rfl 0 2 rfl rfl [0, 1, 2] [some 0, some 1, some 2] rfl rfl ⟨rfl, rfl, rfl, rfl, rfl, rfl, rfl, rfl, rfl, trivial⟩ rfl rfl rfl d_Mo_goOn_48 (fun H locs hV => ?_)
  refine lv_iadd hx hb d_Mo_goOn_51 ?_
  refine lv_istore_n (lv' := [(3, .int (x3 + r_10)), (0, .ref h), (1, .int x1), (2, .int x2), (4, .int x4)]) hx hb d_Mo_goOn_52 rfl hl (by decide) rfl (fun ls hl => ?_)
  refine lv_iload_n hx hb d_Mo_goOn_53 rfl (lv_at hl 2 rfl) ?_
  refine lv_iload_n hx hb d_Mo_goOn_54 rfl (lv_at hl 0 rfl) ?_
  refine lv_icmp_ge (tgt := 67) hx hb d_Mo_goOn_55 (by decide) (fun c_12 => ?_) (fun c_12 => ?_)
  · replace hf := kifp c_12 hf
    refine lv_iinc (v := (x4 + 1)) (lv' := [(4, .int (x4 + 1)), (3, .int (x3 + r_10)), (0, .ref h), (1, .int x1), (2, .int x2)]) hx hb d_Mo_goOn_67 hl (k := 4) rfl rfl (by decide) rfl (fun ls hl => ?_)
    refine lv_goto (tgt := 36) hx hb d_Mo_goOn_70 (by decide) ?_
    exact hrec1 _ _ _ hf _ _ _ hV (lv_sub hl [2, 3, 4, 1, 0] rfl)
  replace hf := kifn c_12 hf
  refine lv_aload_n hx hb d_Mo_goOn_58 rfl (lv_at hl 1 rfl) ?_
  refine lv_iload hx hb d_Mo_goOn_59 (lv_at hl 4 rfl) ?_
  refine k_putv (ty := .int) (ws' := (wd_Mo_goOn D h h_chances h_shows h_diary v_seen x4 v_z v_chances v_shows)) X hV 0 2 4 rfl rfl rfl gw_119 rfl rfl rfl rfl rfl rfl rfl d_Mo_goOn_61 (fun H locs hV => ?_)
  refine lv_goto (tgt := 73) hx hb d_Mo_goOn_64 (by decide) ?_
  exact t_Mo_goOn_2 X hf hV (lv_sub hl [1, 3] rfl)
set_option maxHeartbeats 2000000 in
set_option maxRecDepth 20000 in
theorem tl_Mo_goOn_1 {l : Launch} {p : Program} {e : Env} {s : State} {m : MethodId} {args : Array Value} {below : List Frame} {meth : Method} {c : Code} {D : kD} {wc0 : va_W} {h : Nat} {h_chances : Nat} {h_shows : Nat} {h_diary : Nat} {v_seen : Int32} {v_z : Int32} {v_chances : Nat → Int32} {v_shows : Nat → Int32} {x1 : Int32} {x2 : Int32} {out : Int32 × Int32 × Int32} (X : kX p m meth c s args D (va_A wc0 s.heap.size) b_Mo_goOn "MountainFarms$Mountain" 5 (some .boolean)) : ∀ (n : Nat) (x3 : Int32) (x4 : Int32) (v_state : Int32), fl_Mo_goOn_1 x1 x2 v_z v_chances v_shows n x3 x4 v_state = some out → ∀ (H : Heap) (locs : List Loc) (ls : Array Slot), kV D (va_A wc0 s.heap.size) s (wd_Mo_goOn D h h_chances h_shows h_diary v_seen v_state v_z v_chances v_shows) H locs → lv_has ls 5 [(0, .ref h), (1, .int x1), (2, .int x2), (3, .int x3), (4, .int x4)] → W p l e { frames := 2, cells := 0, slots := 0, locals := 47 } s m args below meth c H locs 0 0 (MQ below (kQi D wc0 (wd_Mo_goOn D h h_chances h_shows h_diary v_seen out.2.1 out.2.2 v_chances v_shows) s.heap.size out.1) args s 0 0 (va_A wc0 s.heap.size)) (F0 m 36 ls []) := by
  intro n
  induction n with
  | zero => intro x3 x4 v_state hf; exact knone hf
  | succ n ih => intro x3 x4 v_state hf H locs ls hV hl; exact tb_Mo_goOn_1 X ih hf hV hl
set_option maxHeartbeats 2000000 in
set_option maxRecDepth 20000 in
theorem t_Mo_goOn {l : Launch} {p : Program} {e : Env} {s : State} {m : MethodId} {args : Array Value} {below : List Frame} {meth : Method} {c : Code} {D : kD} {wc0 : va_W} {h : Nat} {h_chances : Nat} {h_shows : Nat} {h_diary : Nat} {v_seen : Int32} {v_state : Int32} {v_z : Int32} {v_chances : Nat → Int32} {v_shows : Nat → Int32} {out : Int32 × Int32 × Int32} (X : kX p m meth c s args D (va_A wc0 s.heap.size) b_Mo_goOn "MountainFarms$Mountain" 5 (some .boolean)) (hf : f_Mo_goOn v_state v_z v_chances v_shows = some out) {H : Heap} {locs : List Loc} (hV : kV D (va_A wc0 s.heap.size) s (wd_Mo_goOn D h h_chances h_shows h_diary v_seen v_state v_z v_chances v_shows) H locs) {ls : Array Slot} (hl : lv_has ls 5 [(0, .ref h)]) : W p l e { frames := 2, cells := 0, slots := 0, locals := 47 } s m args below meth c H locs 0 0 (MQ below (kQi D wc0 (wd_Mo_goOn D h h_chances h_shows h_diary v_seen out.2.1 out.2.2 v_chances v_shows) s.heap.size out.1) args s 0 0 (va_A wc0 s.heap.size)) (F0 m 0 ls []) := by
  unfold f_Mo_goOn at hf
  obtain ⟨hx, hb, -⟩ := id X
  refine lv_aload_n hx hb d_Mo_goOn_0 rfl (lv_at hl 0 rfl) ?_
  refine lv_aload_n hx hb d_Mo_goOn_1 rfl (lv_at hl 0 rfl) ?_
  refine k_get X hV 0 2 5 rfl rfl rfl gw_121 rfl rfl d_Mo_goOn_2 ?_
  refine k_ldc (v := 1103515245) X gw_553 d_Mo_goOn_5 ?_
  refine lv_imul hx hb d_Mo_goOn_7 ?_
  refine lv_sipush (v := 12345) hx hb d_Mo_goOn_8 sp_12345 ?_
  refine lv_iadd hx hb d_Mo_goOn_11 ?_
  refine k_putv (ty := .int) (ws' := (wd_Mo_goOn D h h_chances h_shows h_diary v_seen v_state ((v_z * (1103515245 : Int32)) + (12345 : Int32)) v_chances v_shows)) X hV 0 2 5 rfl rfl rfl gw_121 rfl rfl rfl rfl rfl rfl rfl d_Mo_goOn_12 (fun H locs hV => ?_)
  refine lv_aload_n hx hb d_Mo_goOn_15 rfl (lv_at hl 0 rfl) ?_
  refine k_get X hV 0 2 5 rfl rfl rfl gw_121 rfl rfl d_Mo_goOn_16 ?_
  refine lv_bipush (v := 8) hx hb d_Mo_goOn_19 bp_8 ?_
  refine lv_iushr hx hb d_Mo_goOn_21 rfl ?_
  refine lv_bipush (v := 10) hx hb d_Mo_goOn_22 bp_10 ?_
  refine lv_irem hx hb d_Mo_goOn_24 (by decide) ?_
  refine k_leti hf (fun x1_8 hf => ?_)
  refine lv_istore_n (lv' := [(1, .int x1_8), (0, .ref h)]) hx hb d_Mo_goOn_25 rfl hl (by decide) rfl (fun ls hl => ?_)
  refine lv_aload_n hx hb d_Mo_goOn_26 rfl (lv_at hl 1 rfl) ?_
  refine k_get X hV 0 2 4 rfl rfl rfl gw_119 rfl rfl d_Mo_goOn_27 ?_
  refine lv_istore_n (lv' := [(2, .int v_state), (1, .int x1_8), (0, .ref h)]) hx hb d_Mo_goOn_30 rfl hl (by decide) rfl (fun ls hl => ?_)
  refine lv_iconst (v := 0) hx hb d_Mo_goOn_31 ic_0 ?_
  refine lv_istore_n (lv' := [(3, .int (0 : Int32)), (2, .int v_state), (1, .int x1_8), (0, .ref h)]) hx hb d_Mo_goOn_32 rfl hl (by decide) rfl (fun ls hl => ?_)
  refine lv_iconst (v := 0) hx hb d_Mo_goOn_33 ic_0 ?_
  refine lv_istore (lv' := [(4, .int (0 : Int32)), (3, .int (0 : Int32)), (2, .int v_state), (1, .int x1_8), (0, .ref h)]) hx hb d_Mo_goOn_34 hl (by decide) rfl (fun ls hl => ?_)
  exact tl_Mo_goOn_1 X _ _ _ _ hf _ _ _ hV (lv_sub hl [4, 3, 2, 1, 0] rfl)
set_option maxHeartbeats 2000000 in
set_option maxRecDepth 20000 in
theorem c_Mo_goOn {l : Launch} (D : kD) (h : Nat) (h_chances : Nat) (h_shows : Nat) (h_diary : Nat) (v_seen : Int32) (v_state : Int32) (v_z : Int32) (v_chances : Nat → Int32) (v_shows : Nat → Int32) {out : Int32 × Int32 × Int32} (hf : f_Mo_goOn v_state v_z v_chances v_shows = some out) : kMi l D y_Mo_goOn b_Mo_goOn 5 (some .boolean) { frames := 2, cells := 0, slots := 0, locals := 47 } [.ref h] (wd_Mo_goOn D h h_chances h_shows h_diary v_seen v_state v_z v_chances v_shows) (wd_Mo_goOn D h h_chances h_shows h_diary v_seen out.2.1 out.2.2 v_chances v_shows) out.1 :=
  kMi_of (own := "MountainFarms$Mountain") (plainFor_of_name (by decide)) rfl rfl (fun p e s m args below meth c ls X hV hl => t_Mo_goOn X hf hV hl)
set_option maxHeartbeats 2000000 in
set_option maxRecDepth 20000 in
theorem tb_Gr_coolDown_1 {l : Launch} {p : Program} {e : Env} {s : State} {m : MethodId} {args : Array Value} {below : List Frame} {meth : Method} {c : Code} {D : kD} {wc0 : va_W} {h : Nat} {h_heights : Nat} {h_ages : Nat} {h_walls : Nat} {v_vent : Int32} {v_ash : Int32} {v_ages : Nat → Int32} {x1 : Int64} {x3 : Int32} {rec1 : Int32 → (Nat → Int32) → Option (Int32 × (Nat → Int32))} {out : Int32 × (Nat → Int32)} (X : kX p m meth c s args D (va_A wc0 s.heap.size) b_Gr_coolDown "MountainFarms$Ground" 4 none) (hrec1 : ∀ (x3 : Int32) (v_ages : Nat → Int32), rec1 x3 v_ages = some out → ∀ (H : Heap) (locs : List Loc) (ls : Array Slot), kV D (va_A wc0 s.heap.size) s (wd_Gr_coolDown D h h_heights h_ages h_walls v_vent v_ash v_ages) H locs → lv_has ls 4 [(0, .ref h), (1, .long x1), (3, .int x3)] → W p l e { frames := 0, cells := 0, slots := 0, locals := 0 } s m args below meth c H locs 0 0 (MQ below (kQv D wc0 (wd_Gr_coolDown D h h_heights h_ages h_walls v_vent out.1 out.2) s.heap.size) args s 0 0 (va_A wc0 s.heap.size)) (F0 m 2 ls [])) (hf : fb_Gr_coolDown_1 rec1 x1 v_ash x3 v_ages = some out) {H : Heap} {locs : List Loc} (hV : kV D (va_A wc0 s.heap.size) s (wd_Gr_coolDown D h h_heights h_ages h_walls v_vent v_ash v_ages) H locs) {ls : Array Slot} (hl : lv_has ls 4 [(0, .ref h), (1, .long x1), (3, .int x3)]) : W p l e { frames := 0, cells := 0, slots := 0, locals := 0 } s m args below meth c H locs 0 0 (MQ below (kQv D wc0 (wd_Gr_coolDown D h h_heights h_ages h_walls v_vent out.1 out.2) s.heap.size) args s 0 0 (va_A wc0 s.heap.size)) (F0 m 2 ls []) := by
  unfold fb_Gr_coolDown_1 at hf
  obtain ⟨hx, hb, -⟩ := id X
  refine lv_iload_n hx hb d_Gr_coolDown_2 rfl (lv_at hl 2 rfl) ?_
  refine lv_bipush (v := 36) hx hb d_Gr_coolDown_3 bp_36 ?_
  refine lv_icmp_ge (tgt := 31) hx hb d_Gr_coolDown_5 (by decide) (fun c_4 => ?_) (fun c_4 => ?_)
  · replace hf := kifp c_4 hf
    refine lv_aload_n hx hb d_Gr_coolDown_31 rfl (lv_at hl 0 rfl) ?_
    refine lv_iconst (v := 0) hx hb d_Gr_coolDown_32 ic_0 ?_
    refine k_putv (ty := .int) (ws' := (wd_Gr_coolDown D h h_heights h_ages h_walls v_vent (0 : Int32) v_ages)) X hV 0 1 4 rfl rfl rfl gw_58 rfl rfl rfl rfl rfl rfl rfl d_Gr_coolDown_33 (fun H locs hV => ?_)
    have e_ := Option.some.inj hf
    subst e_
    exact k_vret X rfl hV d_Gr_coolDown_36
  replace hf := kifn c_4 hf
  refine lv_lload_n hx hb d_Gr_coolDown_8 rfl (lv_at hl 1 rfl) ?_
  refine lv_iload_n hx hb d_Gr_coolDown_9 rfl (lv_at hl 2 rfl) ?_
  refine lv_lshr hx hb d_Gr_coolDown_10 rfl ?_
  refine lv_lconst (v := 1) hx hb d_Gr_coolDown_11 lc_1 ?_
  refine lv_land hx hb d_Gr_coolDown_12 ?_
  refine lv_lconst (v := 1) hx hb d_Gr_coolDown_13 lc_1 ?_
  refine W.lcmp hx hb d_Gr_coolDown_14 ?_
  refine lv_if_ne (tgt := 25) hx hb d_Gr_coolDown_15 (by decide) (fun c_5 => ?_) (fun c_5 => ?_)
  · replace hf := kifn c_5 hf
    refine lv_iinc (v := (x3 + 1)) (lv' := [(3, .int (x3 + 1)), (0, .ref h), (1, .long x1)]) hx hb d_Gr_coolDown_25 hl (k := 2) rfl rfl (by decide) rfl (fun ls hl => ?_)
    refine lv_goto (tgt := 2) hx hb d_Gr_coolDown_28 (by decide) ?_
    exact hrec1 _ _ hf _ _ _ hV (lv_sub hl [1, 2, 0] rfl)
  replace hf := kifp c_5 hf
  refine lv_aload_n hx hb d_Gr_coolDown_18 rfl (lv_at hl 0 rfl) ?_
  refine k_get X hV 0 1 1 rfl rfl rfl gw_48 rfl rfl d_Gr_coolDown_19 ?_
  refine lv_iload_n hx hb d_Gr_coolDown_22 rfl (lv_at hl 2 rfl) ?_
  refine lv_iconst (v := 0) hx hb d_Gr_coolDown_23 ic_0 ?_
  obtain ⟨h_6, hf⟩ := kidx_some hf
  refine k_iast (ws' := (wd_Gr_coolDown D h h_heights h_ages h_walls v_vent v_ash (upd v_ages x3.toNatClampNeg (0 : Int32)))) X hV 1 rfl h_6 rfl rfl d_Gr_coolDown_24 (fun H locs hV => ?_)
  refine lv_iinc (v := (x3 + 1)) (lv' := [(3, .int (x3 + 1)), (0, .ref h), (1, .long x1)]) hx hb d_Gr_coolDown_25 hl (k := 2) rfl rfl (by decide) rfl (fun ls hl => ?_)
  refine lv_goto (tgt := 2) hx hb d_Gr_coolDown_28 (by decide) ?_
  exact hrec1 _ _ hf _ _ _ hV (lv_sub hl [1, 2, 0] rfl)
set_option maxHeartbeats 2000000 in
set_option maxRecDepth 20000 in
theorem tl_Gr_coolDown_1 {l : Launch} {p : Program} {e : Env} {s : State} {m : MethodId} {args : Array Value} {below : List Frame} {meth : Method} {c : Code} {D : kD} {wc0 : va_W} {h : Nat} {h_heights : Nat} {h_ages : Nat} {h_walls : Nat} {v_vent : Int32} {v_ash : Int32} {x1 : Int64} {out : Int32 × (Nat → Int32)} (X : kX p m meth c s args D (va_A wc0 s.heap.size) b_Gr_coolDown "MountainFarms$Ground" 4 none) : ∀ (n : Nat) (x3 : Int32) (v_ages : Nat → Int32), fl_Gr_coolDown_1 x1 v_ash n x3 v_ages = some out → ∀ (H : Heap) (locs : List Loc) (ls : Array Slot), kV D (va_A wc0 s.heap.size) s (wd_Gr_coolDown D h h_heights h_ages h_walls v_vent v_ash v_ages) H locs → lv_has ls 4 [(0, .ref h), (1, .long x1), (3, .int x3)] → W p l e { frames := 0, cells := 0, slots := 0, locals := 0 } s m args below meth c H locs 0 0 (MQ below (kQv D wc0 (wd_Gr_coolDown D h h_heights h_ages h_walls v_vent out.1 out.2) s.heap.size) args s 0 0 (va_A wc0 s.heap.size)) (F0 m 2 ls []) := by
  intro n
  induction n with
  | zero => intro x3 v_ages hf; exact knone hf
  | succ n ih => intro x3 v_ages hf H locs ls hV hl; exact tb_Gr_coolDown_1 X ih hf hV hl
set_option maxHeartbeats 2000000 in
set_option maxRecDepth 20000 in
theorem t_Gr_coolDown {l : Launch} {p : Program} {e : Env} {s : State} {m : MethodId} {args : Array Value} {below : List Frame} {meth : Method} {c : Code} {D : kD} {wc0 : va_W} {h : Nat} {h_heights : Nat} {h_ages : Nat} {h_walls : Nat} {v_vent : Int32} {v_ash : Int32} {v_ages : Nat → Int32} {x1 : Int64} {out : Int32 × (Nat → Int32)} (X : kX p m meth c s args D (va_A wc0 s.heap.size) b_Gr_coolDown "MountainFarms$Ground" 4 none) (hf : f_Gr_coolDown v_ash v_ages x1 = some out) {H : Heap} {locs : List Loc} (hV : kV D (va_A wc0 s.heap.size) s (wd_Gr_coolDown D h h_heights h_ages h_walls v_vent v_ash v_ages) H locs) {ls : Array Slot} (hl : lv_has ls 4 [(0, .ref h), (1, .long x1)]) : W p l e { frames := 0, cells := 0, slots := 0, locals := 0 } s m args below meth c H locs 0 0 (MQ below (kQv D wc0 (wd_Gr_coolDown D h h_heights h_ages h_walls v_vent out.1 out.2) s.heap.size) args s 0 0 (va_A wc0 s.heap.size)) (F0 m 0 ls []) := by
  unfold f_Gr_coolDown at hf
  obtain ⟨hx, hb, -⟩ := id X
  refine lv_iconst (v := 0) hx hb d_Gr_coolDown_0 ic_0 ?_
  refine lv_istore_n (lv' := [(3, .int (0 : Int32)), (0, .ref h), (1, .long x1)]) hx hb d_Gr_coolDown_1 rfl hl (by decide) rfl (fun ls hl => ?_)
  exact tl_Gr_coolDown_1 X _ _ _ hf _ _ _ hV (lv_sub hl [1, 2, 0] rfl)
set_option maxHeartbeats 2000000 in
set_option maxRecDepth 20000 in
theorem c_Gr_coolDown {l : Launch} (D : kD) (h : Nat) (h_heights : Nat) (h_ages : Nat) (h_walls : Nat) (v_vent : Int32) (v_ash : Int32) (v_ages : Nat → Int32) (x1 : Int64) {out : Int32 × (Nat → Int32)} (hf : f_Gr_coolDown v_ash v_ages x1 = some out) : kMv l D y_Gr_coolDown b_Gr_coolDown 4 none { frames := 0, cells := 0, slots := 0, locals := 0 } [.ref h, .long x1] (wd_Gr_coolDown D h h_heights h_ages h_walls v_vent v_ash v_ages) (wd_Gr_coolDown D h h_heights h_ages h_walls v_vent out.1 out.2) :=
  kMv_of (own := "MountainFarms$Ground") (plainFor_of_name (by decide)) rfl rfl (fun p e s m args below meth c ls X hV hl => t_Gr_coolDown X hf hV hl)
set_option maxHeartbeats 2000000 in
set_option maxRecDepth 20000 in
theorem t_Sl_eruptNow {l : Launch} {p : Program} {e : Env} {s : State} {m : MethodId} {args : Array Value} {below : List Frame} {meth : Method} {c : Code} {D : kD} {wc0 : va_W} {h : Nat} {h_ground : Nat} {h_farms : Nat} {h_mountain : Nat} {h_ground_heights : Nat} {h_ground_ages : Nat} {h_ground_walls : Nat} {h_farms_kinds : Nat} {h_farms_cells : Nat} {h_farms_owners : Nat} {h_farms_purses : Nat} {v_month : Int32} {v_volume : Int32} {v_outs : Int32} {v_fed : Int32} {v_fedOuts : Int32} {v_arePigsTold : Int32} {v_ground_vent : Int32} {v_ground_ash : Int32} {v_ground_heights : Nat → Int32} {v_ground_ages : Nat → Int32} {v_ground_walls : Nat → Int32} {v_farms_number : Int32} {v_farms_burnt : Int32} {v_farms_cells : Nat → Int32} {out : Int32 × Int32 × (Nat → Int32) × (Nat → Int32) × Int32} (X : kX p m meth c s args D (va_A wc0 s.heap.size) b_Sl_eruptNow "MountainFarms$Slope" 3 none) (hf : f_Sl_eruptNow v_volume v_outs v_ground_vent v_ground_ash v_ground_heights v_ground_ages v_ground_walls v_farms_number v_farms_burnt v_farms_cells = some out) {H : Heap} {locs : List Loc} (hV : kV D (va_A wc0 s.heap.size) s (wd_Sl_eruptNow D h h_ground h_farms h_mountain h_ground_heights h_ground_ages h_ground_walls h_farms_kinds h_farms_cells h_farms_owners h_farms_purses v_month v_volume v_outs v_fed v_fedOuts v_arePigsTold v_ground_vent v_ground_ash v_ground_heights v_ground_ages v_ground_walls v_farms_number v_farms_burnt v_farms_cells) H locs) {ls : Array Slot} (hl : lv_has ls 3 [(0, .ref h)]) : W p l e { frames := 3, cells := 0, slots := 0, locals := 73 } s m args below meth c H locs 0 0 (MQ below (kQv D wc0 (wd_Sl_eruptNow D h h_ground h_farms h_mountain h_ground_heights h_ground_ages h_ground_walls h_farms_kinds h_farms_cells h_farms_owners h_farms_purses v_month v_volume out.1 v_fed v_fedOuts v_arePigsTold v_ground_vent out.2.1 out.2.2.1 out.2.2.2.1 v_ground_walls v_farms_number out.2.2.2.2 v_farms_cells) s.heap.size) args s 0 0 (va_A wc0 s.heap.size)) (F0 m 0 ls []) := by
  unfold f_Sl_eruptNow at hf
  obtain ⟨hx, hb, -⟩ := id X
  refine lv_aload_n hx hb d_Sl_eruptNow_0 rfl (lv_at hl 0 rfl) ?_
  refine k_get X hV 0 5 0 rfl rfl rfl gw_136 rfl rfl d_Sl_eruptNow_1 ?_
  refine lv_aload_n hx hb d_Sl_eruptNow_4 rfl (lv_at hl 0 rfl) ?_
  refine k_get X hV 0 5 0 rfl rfl rfl gw_136 rfl rfl d_Sl_eruptNow_5 ?_
  refine k_get X hV 1 1 3 rfl rfl rfl gw_56 rfl rfl d_Sl_eruptNow_8 ?_
  refine lv_aload_n hx hb d_Sl_eruptNow_11 rfl (lv_at hl 0 rfl) ?_
  refine k_get X hV 0 5 4 rfl rfl rfl gw_147 rfl rfl d_Sl_eruptNow_12 ?_
  obtain ⟨r_9, v_ground_heights_10, hc_11, hf⟩ := kb2_some hf
  refine k_cvl (w1 := (wd_Gr_lavaFrom D h_ground h_ground_heights h_ground_ages h_ground_walls v_ground_vent v_ground_ash v_ground_heights_10 v_ground_walls)) (r := r_9) (ws' := (wd_Sl_eruptNow D h h_ground h_farms h_mountain h_ground_heights h_ground_ages h_ground_walls h_farms_kinds h_farms_cells h_farms_owners h_farms_purses v_month v_volume v_outs v_fed v_fedOuts v_arePigsTold v_ground_vent v_ground_ash v_ground_heights_10 v_ground_ages v_ground_walls v_farms_number v_farms_burnt v_farms_cells)) X hV hl.1 (c_Gr_lavaFrom D h_ground h_ground_heights h_ground_ages h_ground_walls v_ground_vent v_ground_ash v_ground_heights v_ground_walls v_ground_vent v_volume hc_11) fk_Gr_lavaFrom gw_559 rfl 1 1 rfl rfl [1, 2, 4] [none, some 0, some 1, none, some 2, none, none] rfl rfl ⟨rfl, rfl, rfl, rfl, rfl, rfl, rfl, rfl, rfl, rfl, rfl, rfl, rfl, trivial⟩ rfl rfl rfl d_Sl_eruptNow_15 (fun H locs hV => ?_)
  refine lv_lstore_n (lv' := [(1, .long r_9), (0, .ref h)]) hx hb d_Sl_eruptNow_18 rfl hl (by decide) rfl (fun ls hl => ?_)
  refine lv_aload_n hx hb d_Sl_eruptNow_19 rfl (lv_at hl 1 rfl) ?_
  refine k_get X hV 0 5 0 rfl rfl rfl gw_136 rfl rfl d_Sl_eruptNow_20 ?_
  refine lv_lload_n hx hb d_Sl_eruptNow_23 rfl (lv_at hl 0 rfl) ?_
  obtain ⟨v_ground_ash_12, v_ground_ages_13, hc_14, hf⟩ := kb2_some hf
  refine k_cvv (w1 := (wd_Gr_coolDown D h_ground h_ground_heights h_ground_ages h_ground_walls v_ground_vent v_ground_ash_12 v_ground_ages_13)) (ws' := (wd_Sl_eruptNow D h h_ground h_farms h_mountain h_ground_heights h_ground_ages h_ground_walls h_farms_kinds h_farms_cells h_farms_owners h_farms_purses v_month v_volume v_outs v_fed v_fedOuts v_arePigsTold v_ground_vent v_ground_ash_12 v_ground_heights_10 v_ground_ages_13 v_ground_walls v_farms_number v_farms_burnt v_farms_cells)) X hV hl.1 (c_Gr_coolDown D h_ground h_ground_heights h_ground_ages h_ground_walls v_ground_vent v_ground_ash v_ground_ages r_9 hc_14) fk_Gr_coolDown gw_560 rfl 1 1 rfl rfl [1, 3] [none, some 0, none, some 1, none, none, none] rfl rfl ⟨rfl, rfl, rfl, rfl, rfl, rfl, rfl, rfl, rfl, rfl, rfl, trivial⟩ rfl rfl rfl d_Sl_eruptNow_24 (fun H locs hV => ?_)
  refine lv_aload_n hx hb d_Sl_eruptNow_27 rfl (lv_at hl 1 rfl) ?_
  refine k_get X hV 0 5 1 rfl rfl rfl gw_139 rfl rfl d_Sl_eruptNow_28 ?_
  refine lv_dup hx hb d_Sl_eruptNow_31 rfl ?_
  refine k_get X hV 5 0 5 rfl rfl rfl gw_90 rfl rfl d_Sl_eruptNow_32 ?_
  refine lv_aload_n hx hb d_Sl_eruptNow_35 rfl (lv_at hl 1 rfl) ?_
  refine k_get X hV 0 5 1 rfl rfl rfl gw_139 rfl rfl d_Sl_eruptNow_36 ?_
  refine lv_lload_n hx hb d_Sl_eruptNow_39 rfl (lv_at hl 0 rfl) ?_
  obtain ⟨r_15, hc_16, hf⟩ := kb1_some hf
  refine k_cvi (w1 := (wd_Fa_standingOn D h_farms h_farms_kinds h_farms_cells h_farms_owners h_farms_purses v_farms_number v_farms_burnt v_farms_cells)) (r := r_15) (ws' := (wd_Sl_eruptNow D h h_ground h_farms h_mountain h_ground_heights h_ground_ages h_ground_walls h_farms_kinds h_farms_cells h_farms_owners h_farms_purses v_month v_volume v_outs v_fed v_fedOuts v_arePigsTold v_ground_vent v_ground_ash_12 v_ground_heights_10 v_ground_ages_13 v_ground_walls v_farms_number v_farms_burnt v_farms_cells)) X hV hl.1 (c_Fa_standingOn D h_farms h_farms_kinds h_farms_cells h_farms_owners h_farms_purses v_farms_number v_farms_burnt v_farms_cells r_9 hc_16) fk_Fa_standingOn gw_564 rfl 5 0 rfl rfl [5, 6] [none, none, none, none, none, some 0, some 1] rfl rfl ⟨rfl, rfl, rfl, rfl, rfl, rfl, rfl, rfl, rfl, rfl, rfl, trivial⟩ rfl rfl rfl d_Sl_eruptNow_40 (fun H locs hV => ?_)
  refine lv_ior hx hb d_Sl_eruptNow_43 ?_
  refine k_putv (ty := .int) (ws' := (wd_Sl_eruptNow D h h_ground h_farms h_mountain h_ground_heights h_ground_ages h_ground_walls h_farms_kinds h_farms_cells h_farms_owners h_farms_purses v_month v_volume v_outs v_fed v_fedOuts v_arePigsTold v_ground_vent v_ground_ash_12 v_ground_heights_10 v_ground_ages_13 v_ground_walls v_farms_number (v_farms_burnt ||| r_15) v_farms_cells)) X hV 5 0 5 rfl rfl rfl gw_90 rfl rfl rfl rfl rfl rfl rfl d_Sl_eruptNow_44 (fun H locs hV => ?_)
  refine lv_aload_n hx hb d_Sl_eruptNow_47 rfl (lv_at hl 1 rfl) ?_
  refine lv_dup hx hb d_Sl_eruptNow_48 rfl ?_
  refine k_get X hV 0 5 5 rfl rfl rfl gw_149 rfl rfl d_Sl_eruptNow_49 ?_
  refine lv_iconst (v := 1) hx hb d_Sl_eruptNow_52 ic_1 ?_
  refine lv_iadd hx hb d_Sl_eruptNow_53 ?_
  refine k_putv (ty := .int) (ws' := (wd_Sl_eruptNow D h h_ground h_farms h_mountain h_ground_heights h_ground_ages h_ground_walls h_farms_kinds h_farms_cells h_farms_owners h_farms_purses v_month v_volume (v_outs + (1 : Int32)) v_fed v_fedOuts v_arePigsTold v_ground_vent v_ground_ash_12 v_ground_heights_10 v_ground_ages_13 v_ground_walls v_farms_number (v_farms_burnt ||| r_15) v_farms_cells)) X hV 0 5 5 rfl rfl rfl gw_149 rfl rfl rfl rfl rfl rfl rfl d_Sl_eruptNow_54 (fun H locs hV => ?_)
  have e_ := Option.some.inj hf
  subst e_
  exact k_vret X rfl hV d_Sl_eruptNow_57
set_option maxHeartbeats 2000000 in
set_option maxRecDepth 20000 in
theorem c_Sl_eruptNow {l : Launch} (D : kD) (h : Nat) (h_ground : Nat) (h_farms : Nat) (h_mountain : Nat) (h_ground_heights : Nat) (h_ground_ages : Nat) (h_ground_walls : Nat) (h_farms_kinds : Nat) (h_farms_cells : Nat) (h_farms_owners : Nat) (h_farms_purses : Nat) (v_month : Int32) (v_volume : Int32) (v_outs : Int32) (v_fed : Int32) (v_fedOuts : Int32) (v_arePigsTold : Int32) (v_ground_vent : Int32) (v_ground_ash : Int32) (v_ground_heights : Nat → Int32) (v_ground_ages : Nat → Int32) (v_ground_walls : Nat → Int32) (v_farms_number : Int32) (v_farms_burnt : Int32) (v_farms_cells : Nat → Int32) {out : Int32 × Int32 × (Nat → Int32) × (Nat → Int32) × Int32} (hf : f_Sl_eruptNow v_volume v_outs v_ground_vent v_ground_ash v_ground_heights v_ground_ages v_ground_walls v_farms_number v_farms_burnt v_farms_cells = some out) : kMv l D y_Sl_eruptNow b_Sl_eruptNow 3 none { frames := 3, cells := 0, slots := 0, locals := 73 } [.ref h] (wd_Sl_eruptNow D h h_ground h_farms h_mountain h_ground_heights h_ground_ages h_ground_walls h_farms_kinds h_farms_cells h_farms_owners h_farms_purses v_month v_volume v_outs v_fed v_fedOuts v_arePigsTold v_ground_vent v_ground_ash v_ground_heights v_ground_ages v_ground_walls v_farms_number v_farms_burnt v_farms_cells) (wd_Sl_eruptNow D h h_ground h_farms h_mountain h_ground_heights h_ground_ages h_ground_walls h_farms_kinds h_farms_cells h_farms_owners h_farms_purses v_month v_volume out.1 v_fed v_fedOuts v_arePigsTold v_ground_vent out.2.1 out.2.2.1 out.2.2.2.1 v_ground_walls v_farms_number out.2.2.2.2 v_farms_cells) :=
  kMv_of (own := "MountainFarms$Slope") (plainFor_of_name (by decide)) rfl rfl (fun p e s m args below meth c ls X hV hl => t_Sl_eruptNow X hf hV hl)
set_option maxHeartbeats 2000000 in
set_option maxRecDepth 20000 in
theorem tb_Fa_earnOn_1 {l : Launch} {p : Program} {e : Env} {s : State} {m : MethodId} {args : Array Value} {below : List Frame} {meth : Method} {c : Code} {D : kD} {wc0 : va_W} {h : Nat} {h_kinds : Nat} {h_cells : Nat} {h_owners : Nat} {h_purses : Nat} {h_p1 : Nat} {h_p1_heights : Nat} {h_p1_ages : Nat} {h_p1_walls : Nat} {v_number : Int32} {v_burnt : Int32} {v_kinds : Nat → Int32} {v_cells : Nat → Int32} {v_purses : Nat → Int32} {v_p1_vent : Int32} {v_p1_ash : Int32} {v_p1_ages : Nat → Int32} {x2 : Int32} {rec1 : Int32 → (Nat → Int32) → Option ((Nat → Int32))} {out : (Nat → Int32)} (X : kX p m meth c s args D (va_A wc0 s.heap.size) b_Fa_earnOn "MountainFarms$Farms" 3 none) (hrec1 : ∀ (x2 : Int32) (v_purses : Nat → Int32), rec1 x2 v_purses = some out → ∀ (H : Heap) (locs : List Loc) (ls : Array Slot), kV D (va_A wc0 s.heap.size) s (wd_Fa_earnOn D h h_kinds h_cells h_owners h_purses h_p1 h_p1_heights h_p1_ages h_p1_walls v_number v_burnt v_kinds v_cells v_purses v_p1_vent v_p1_ash v_p1_ages) H locs → lv_has ls 3 [(0, .ref h), (1, .ref h_p1), (2, .int x2)] → W p l e { frames := 3, cells := 0, slots := 0, locals := 68 } s m args below meth c H locs 0 0 (MQ below (kQv D wc0 (wd_Fa_earnOn D h h_kinds h_cells h_owners h_purses h_p1 h_p1_heights h_p1_ages h_p1_walls v_number v_burnt v_kinds v_cells out v_p1_vent v_p1_ash v_p1_ages) s.heap.size) args s 0 0 (va_A wc0 s.heap.size)) (F0 m 2 ls [])) (hf : fb_Fa_earnOn_1 rec1 v_number v_burnt v_kinds v_cells v_p1_ash v_p1_ages x2 v_purses = some out) {H : Heap} {locs : List Loc} (hV : kV D (va_A wc0 s.heap.size) s (wd_Fa_earnOn D h h_kinds h_cells h_owners h_purses h_p1 h_p1_heights h_p1_ages h_p1_walls v_number v_burnt v_kinds v_cells v_purses v_p1_vent v_p1_ash v_p1_ages) H locs) {ls : Array Slot} (hl : lv_has ls 3 [(0, .ref h), (1, .ref h_p1), (2, .int x2)]) : W p l e { frames := 3, cells := 0, slots := 0, locals := 68 } s m args below meth c H locs 0 0 (MQ below (kQv D wc0 (wd_Fa_earnOn D h h_kinds h_cells h_owners h_purses h_p1 h_p1_heights h_p1_ages h_p1_walls v_number v_burnt v_kinds v_cells out v_p1_vent v_p1_ash v_p1_ages) s.heap.size) args s 0 0 (va_A wc0 s.heap.size)) (F0 m 2 ls []) := by
  unfold fb_Fa_earnOn_1 at hf
  obtain ⟨hx, hb, -⟩ := id X
  refine lv_iload_n hx hb d_Fa_earnOn_2 rfl (lv_at hl 2 rfl) ?_
  refine lv_aload_n hx hb d_Fa_earnOn_3 rfl (lv_at hl 0 rfl) ?_
  refine k_get X hV 0 0 4 rfl rfl rfl gw_87 rfl rfl d_Fa_earnOn_4 ?_
  refine lv_icmp_ge (tgt := 31) hx hb d_Fa_earnOn_7 (by decide) (fun c_6 => ?_) (fun c_6 => ?_)
  · replace hf := kifp c_6 hf
    have e_ := Option.some.inj hf
    subst e_
    exact k_vret X rfl hV d_Fa_earnOn_31
  replace hf := kifn c_6 hf
  refine lv_aload_n hx hb d_Fa_earnOn_10 rfl (lv_at hl 0 rfl) ?_
  refine k_get X hV 0 0 3 rfl rfl rfl gw_85 rfl rfl d_Fa_earnOn_11 ?_
  refine lv_iload_n hx hb d_Fa_earnOn_14 rfl (lv_at hl 2 rfl) ?_
  refine lv_dup2_11 hx hb d_Fa_earnOn_15 rfl rfl ?_
  obtain ⟨h_7, hf⟩ := kidx_some hf
  refine k_iald X hV 3 rfl h_7 rfl d_Fa_earnOn_16 ?_
  refine lv_aload_n hx hb d_Fa_earnOn_17 rfl (lv_at hl 0 rfl) ?_
  refine lv_iload_n hx hb d_Fa_earnOn_18 rfl (lv_at hl 2 rfl) ?_
  refine lv_aload_n hx hb d_Fa_earnOn_19 rfl (lv_at hl 1 rfl) ?_
  obtain ⟨r_8, hc_9, hf⟩ := kb1_some hf
  refine k_cvi (w1 := (wd_Fa_bearsOn D h h_kinds h_cells h_owners h_purses h_p1 h_p1_heights h_p1_ages h_p1_walls v_number v_burnt v_kinds v_cells v_p1_vent v_p1_ash v_p1_ages)) (r := r_8) (ws' := (wd_Fa_earnOn D h h_kinds h_cells h_owners h_purses h_p1 h_p1_heights h_p1_ages h_p1_walls v_number v_burnt v_kinds v_cells v_purses v_p1_vent v_p1_ash v_p1_ages)) X hV hl.1 (c_Fa_bearsOn D h h_kinds h_cells h_owners h_purses h_p1 h_p1_heights h_p1_ages h_p1_walls v_number v_burnt v_kinds v_cells v_p1_vent v_p1_ash v_p1_ages x2 hc_9) fk_Fa_bearsOn gw_569 rfl 0 0 rfl rfl [0, 1, 2, 4, 5] [some 0, some 1, some 2, none, some 3, some 4] rfl rfl ⟨rfl, rfl, rfl, rfl, rfl, rfl, rfl, rfl, rfl, rfl, rfl, rfl, rfl, rfl, rfl, rfl, trivial⟩ rfl rfl rfl d_Fa_earnOn_20 (fun H locs hV => ?_)
  refine lv_iadd hx hb d_Fa_earnOn_23 ?_
  obtain ⟨h_10, hf⟩ := kidx_some hf
  refine k_iast (ws' := (wd_Fa_earnOn D h h_kinds h_cells h_owners h_purses h_p1 h_p1_heights h_p1_ages h_p1_walls v_number v_burnt v_kinds v_cells (upd v_purses x2.toNatClampNeg ((v_purses x2.toNatClampNeg) + r_8)) v_p1_vent v_p1_ash v_p1_ages)) X hV 3 rfl h_10 rfl rfl d_Fa_earnOn_24 (fun H locs hV => ?_)
  refine lv_iinc (v := (x2 + 1)) (lv' := [(2, .int (x2 + 1)), (0, .ref h), (1, .ref h_p1)]) hx hb d_Fa_earnOn_25 hl (k := 2) rfl rfl (by decide) rfl (fun ls hl => ?_)
  refine lv_goto (tgt := 2) hx hb d_Fa_earnOn_28 (by decide) ?_
  exact hrec1 _ _ hf _ _ _ hV (lv_sub hl [1, 2, 0] rfl)
set_option maxHeartbeats 2000000 in
set_option maxRecDepth 20000 in
theorem tl_Fa_earnOn_1 {l : Launch} {p : Program} {e : Env} {s : State} {m : MethodId} {args : Array Value} {below : List Frame} {meth : Method} {c : Code} {D : kD} {wc0 : va_W} {h : Nat} {h_kinds : Nat} {h_cells : Nat} {h_owners : Nat} {h_purses : Nat} {h_p1 : Nat} {h_p1_heights : Nat} {h_p1_ages : Nat} {h_p1_walls : Nat} {v_number : Int32} {v_burnt : Int32} {v_kinds : Nat → Int32} {v_cells : Nat → Int32} {v_p1_vent : Int32} {v_p1_ash : Int32} {v_p1_ages : Nat → Int32} {out : (Nat → Int32)} (X : kX p m meth c s args D (va_A wc0 s.heap.size) b_Fa_earnOn "MountainFarms$Farms" 3 none) : ∀ (n : Nat) (x2 : Int32) (v_purses : Nat → Int32), fl_Fa_earnOn_1 v_number v_burnt v_kinds v_cells v_p1_ash v_p1_ages n x2 v_purses = some out → ∀ (H : Heap) (locs : List Loc) (ls : Array Slot), kV D (va_A wc0 s.heap.size) s (wd_Fa_earnOn D h h_kinds h_cells h_owners h_purses h_p1 h_p1_heights h_p1_ages h_p1_walls v_number v_burnt v_kinds v_cells v_purses v_p1_vent v_p1_ash v_p1_ages) H locs → lv_has ls 3 [(0, .ref h), (1, .ref h_p1), (2, .int x2)] → W p l e { frames := 3, cells := 0, slots := 0, locals := 68 } s m args below meth c H locs 0 0 (MQ below (kQv D wc0 (wd_Fa_earnOn D h h_kinds h_cells h_owners h_purses h_p1 h_p1_heights h_p1_ages h_p1_walls v_number v_burnt v_kinds v_cells out v_p1_vent v_p1_ash v_p1_ages) s.heap.size) args s 0 0 (va_A wc0 s.heap.size)) (F0 m 2 ls []) := by
  intro n
  induction n with
  | zero => intro x2 v_purses hf; exact knone hf
  | succ n ih => intro x2 v_purses hf H locs ls hV hl; exact tb_Fa_earnOn_1 X ih hf hV hl
set_option maxHeartbeats 2000000 in
set_option maxRecDepth 20000 in
theorem t_Fa_earnOn {l : Launch} {p : Program} {e : Env} {s : State} {m : MethodId} {args : Array Value} {below : List Frame} {meth : Method} {c : Code} {D : kD} {wc0 : va_W} {h : Nat} {h_kinds : Nat} {h_cells : Nat} {h_owners : Nat} {h_purses : Nat} {h_p1 : Nat} {h_p1_heights : Nat} {h_p1_ages : Nat} {h_p1_walls : Nat} {v_number : Int32} {v_burnt : Int32} {v_kinds : Nat → Int32} {v_cells : Nat → Int32} {v_purses : Nat → Int32} {v_p1_vent : Int32} {v_p1_ash : Int32} {v_p1_ages : Nat → Int32} {out : (Nat → Int32)} (X : kX p m meth c s args D (va_A wc0 s.heap.size) b_Fa_earnOn "MountainFarms$Farms" 3 none) (hf : f_Fa_earnOn v_number v_burnt v_kinds v_cells v_purses v_p1_ash v_p1_ages = some out) {H : Heap} {locs : List Loc} (hV : kV D (va_A wc0 s.heap.size) s (wd_Fa_earnOn D h h_kinds h_cells h_owners h_purses h_p1 h_p1_heights h_p1_ages h_p1_walls v_number v_burnt v_kinds v_cells v_purses v_p1_vent v_p1_ash v_p1_ages) H locs) {ls : Array Slot} (hl : lv_has ls 3 [(0, .ref h), (1, .ref h_p1)]) : W p l e { frames := 3, cells := 0, slots := 0, locals := 68 } s m args below meth c H locs 0 0 (MQ below (kQv D wc0 (wd_Fa_earnOn D h h_kinds h_cells h_owners h_purses h_p1 h_p1_heights h_p1_ages h_p1_walls v_number v_burnt v_kinds v_cells out v_p1_vent v_p1_ash v_p1_ages) s.heap.size) args s 0 0 (va_A wc0 s.heap.size)) (F0 m 0 ls []) := by
  unfold f_Fa_earnOn at hf
  obtain ⟨hx, hb, -⟩ := id X
  refine lv_iconst (v := 0) hx hb d_Fa_earnOn_0 ic_0 ?_
  refine lv_istore_n (lv' := [(2, .int (0 : Int32)), (0, .ref h), (1, .ref h_p1)]) hx hb d_Fa_earnOn_1 rfl hl (by decide) rfl (fun ls hl => ?_)
  exact tl_Fa_earnOn_1 X _ _ _ hf _ _ _ hV (lv_sub hl [1, 2, 0] rfl)
set_option maxHeartbeats 2000000 in
set_option maxRecDepth 20000 in
theorem c_Fa_earnOn {l : Launch} (D : kD) (h : Nat) (h_kinds : Nat) (h_cells : Nat) (h_owners : Nat) (h_purses : Nat) (h_p1 : Nat) (h_p1_heights : Nat) (h_p1_ages : Nat) (h_p1_walls : Nat) (v_number : Int32) (v_burnt : Int32) (v_kinds : Nat → Int32) (v_cells : Nat → Int32) (v_purses : Nat → Int32) (v_p1_vent : Int32) (v_p1_ash : Int32) (v_p1_ages : Nat → Int32) {out : (Nat → Int32)} (hf : f_Fa_earnOn v_number v_burnt v_kinds v_cells v_purses v_p1_ash v_p1_ages = some out) : kMv l D y_Fa_earnOn b_Fa_earnOn 3 none { frames := 3, cells := 0, slots := 0, locals := 68 } [.ref h, .ref h_p1] (wd_Fa_earnOn D h h_kinds h_cells h_owners h_purses h_p1 h_p1_heights h_p1_ages h_p1_walls v_number v_burnt v_kinds v_cells v_purses v_p1_vent v_p1_ash v_p1_ages) (wd_Fa_earnOn D h h_kinds h_cells h_owners h_purses h_p1 h_p1_heights h_p1_ages h_p1_walls v_number v_burnt v_kinds v_cells out v_p1_vent v_p1_ash v_p1_ages) :=
  kMv_of (own := "MountainFarms$Farms") (plainFor_of_name (by decide)) rfl rfl (fun p e s m args below meth c ls X hV hl => t_Fa_earnOn X hf hV hl)
set_option maxHeartbeats 2000000 in
set_option maxRecDepth 20000 in
theorem tb_Gr_growOlder_1 {l : Launch} {p : Program} {e : Env} {s : State} {m : MethodId} {args : Array Value} {below : List Frame} {meth : Method} {c : Code} {D : kD} {wc0 : va_W} {h : Nat} {h_heights : Nat} {h_ages : Nat} {h_walls : Nat} {v_vent : Int32} {v_ash : Int32} {v_ages : Nat → Int32} {x1 : Int32} {rec1 : Int32 → (Nat → Int32) → Option (Int32 × (Nat → Int32))} {out : Int32 × (Nat → Int32)} (X : kX p m meth c s args D (va_A wc0 s.heap.size) b_Gr_growOlder "MountainFarms$Ground" 2 none) (hrec1 : ∀ (x1 : Int32) (v_ages : Nat → Int32), rec1 x1 v_ages = some out → ∀ (H : Heap) (locs : List Loc) (ls : Array Slot), kV D (va_A wc0 s.heap.size) s (wd_Gr_growOlder D h h_heights h_ages h_walls v_vent v_ash v_ages) H locs → lv_has ls 2 [(0, .ref h), (1, .int x1)] → W p l e { frames := 1, cells := 0, slots := 0, locals := 21 } s m args below meth c H locs 0 0 (MQ below (kQv D wc0 (wd_Gr_growOlder D h h_heights h_ages h_walls v_vent out.1 out.2) s.heap.size) args s 0 0 (va_A wc0 s.heap.size)) (F0 m 2 ls [])) (hf : fb_Gr_growOlder_1 rec1 v_ash x1 v_ages = some out) {H : Heap} {locs : List Loc} (hV : kV D (va_A wc0 s.heap.size) s (wd_Gr_growOlder D h h_heights h_ages h_walls v_vent v_ash v_ages) H locs) {ls : Array Slot} (hl : lv_has ls 2 [(0, .ref h), (1, .int x1)]) : W p l e { frames := 1, cells := 0, slots := 0, locals := 21 } s m args below meth c H locs 0 0 (MQ below (kQv D wc0 (wd_Gr_growOlder D h h_heights h_ages h_walls v_vent out.1 out.2) s.heap.size) args s 0 0 (va_A wc0 s.heap.size)) (F0 m 2 ls []) := by
  unfold fb_Gr_growOlder_1 at hf
  obtain ⟨hx, hb, -⟩ := id X
  refine lv_iload_n hx hb d_Gr_growOlder_2 rfl (lv_at hl 1 rfl) ?_
  refine lv_bipush (v := 36) hx hb d_Gr_growOlder_3 bp_36 ?_
  refine lv_icmp_ge (tgt := 33) hx hb d_Gr_growOlder_5 (by decide) (fun c_8 => ?_) (fun c_8 => ?_)
  · replace hf := kifp c_8 hf
    refine lv_aload_n hx hb d_Gr_growOlder_33 rfl (lv_at hl 0 rfl) ?_
    refine lv_bipush (v := 99) hx hb d_Gr_growOlder_34 bp_99 ?_
    refine lv_aload_n hx hb d_Gr_growOlder_36 rfl (lv_at hl 0 rfl) ?_
    refine k_get X hV 0 1 4 rfl rfl rfl gw_58 rfl rfl d_Gr_growOlder_37 ?_
    refine lv_iconst (v := 1) hx hb d_Gr_growOlder_40 ic_1 ?_
    refine lv_iadd hx hb d_Gr_growOlder_41 ?_
    obtain ⟨r_9, hc_10, hf⟩ := kb1_some hf
    refine k_csi (w1 := (wd_Ma_min D)) (r := r_9) (ws' := (wd_Gr_growOlder D h h_heights h_ages h_walls v_vent v_ash v_ages)) X hV hl.1 (c_Ma_min D (99 : Int32) (v_ash + (1 : Int32)) hc_10) fk_Ma_min gw_494 rfl [] [none, none] rfl rfl ⟨rfl, rfl, trivial⟩ rfl rfl rfl d_Gr_growOlder_42 (fun H locs hV => ?_)
    refine k_putv (ty := .int) (ws' := (wd_Gr_growOlder D h h_heights h_ages h_walls v_vent r_9 v_ages)) X hV 0 1 4 rfl rfl rfl gw_58 rfl rfl rfl rfl rfl rfl rfl d_Gr_growOlder_45 (fun H locs hV => ?_)
    have e_ := Option.some.inj hf
    subst e_
    exact k_vret X rfl hV d_Gr_growOlder_48
  replace hf := kifn c_8 hf
  refine lv_aload_n hx hb d_Gr_growOlder_8 rfl (lv_at hl 0 rfl) ?_
  refine k_get X hV 0 1 1 rfl rfl rfl gw_48 rfl rfl d_Gr_growOlder_9 ?_
  refine lv_iload_n hx hb d_Gr_growOlder_12 rfl (lv_at hl 1 rfl) ?_
  refine lv_bipush (v := 99) hx hb d_Gr_growOlder_13 bp_99 ?_
  refine lv_aload_n hx hb d_Gr_growOlder_15 rfl (lv_at hl 0 rfl) ?_
  refine k_get X hV 0 1 1 rfl rfl rfl gw_48 rfl rfl d_Gr_growOlder_16 ?_
  refine lv_iload_n hx hb d_Gr_growOlder_19 rfl (lv_at hl 1 rfl) ?_
  obtain ⟨h_11, hf⟩ := kidx_some hf
  refine k_iald X hV 1 rfl h_11 rfl d_Gr_growOlder_20 ?_
  refine lv_iconst (v := 1) hx hb d_Gr_growOlder_21 ic_1 ?_
  refine lv_iadd hx hb d_Gr_growOlder_22 ?_
  obtain ⟨r_12, hc_13, hf⟩ := kb1_some hf
  refine k_csi (w1 := (wd_Ma_min D)) (r := r_12) (ws' := (wd_Gr_growOlder D h h_heights h_ages h_walls v_vent v_ash v_ages)) X hV hl.1 (c_Ma_min D (99 : Int32) ((v_ages x1.toNatClampNeg) + (1 : Int32)) hc_13) fk_Ma_min gw_494 rfl [] [none, none] rfl rfl ⟨rfl, rfl, trivial⟩ rfl rfl rfl d_Gr_growOlder_23 (fun H locs hV => ?_)
  obtain ⟨h_14, hf⟩ := kidx_some hf
  refine k_iast (ws' := (wd_Gr_growOlder D h h_heights h_ages h_walls v_vent v_ash (upd v_ages x1.toNatClampNeg r_12))) X hV 1 rfl h_14 rfl rfl d_Gr_growOlder_26 (fun H locs hV => ?_)
  refine lv_iinc (v := (x1 + 1)) (lv' := [(1, .int (x1 + 1)), (0, .ref h)]) hx hb d_Gr_growOlder_27 hl (k := 1) rfl rfl (by decide) rfl (fun ls hl => ?_)
  refine lv_goto (tgt := 2) hx hb d_Gr_growOlder_30 (by decide) ?_
  exact hrec1 _ _ hf _ _ _ hV (lv_sub hl [1, 0] rfl)
set_option maxHeartbeats 2000000 in
set_option maxRecDepth 20000 in
theorem tl_Gr_growOlder_1 {l : Launch} {p : Program} {e : Env} {s : State} {m : MethodId} {args : Array Value} {below : List Frame} {meth : Method} {c : Code} {D : kD} {wc0 : va_W} {h : Nat} {h_heights : Nat} {h_ages : Nat} {h_walls : Nat} {v_vent : Int32} {v_ash : Int32} {out : Int32 × (Nat → Int32)} (X : kX p m meth c s args D (va_A wc0 s.heap.size) b_Gr_growOlder "MountainFarms$Ground" 2 none) : ∀ (n : Nat) (x1 : Int32) (v_ages : Nat → Int32), fl_Gr_growOlder_1 v_ash n x1 v_ages = some out → ∀ (H : Heap) (locs : List Loc) (ls : Array Slot), kV D (va_A wc0 s.heap.size) s (wd_Gr_growOlder D h h_heights h_ages h_walls v_vent v_ash v_ages) H locs → lv_has ls 2 [(0, .ref h), (1, .int x1)] → W p l e { frames := 1, cells := 0, slots := 0, locals := 21 } s m args below meth c H locs 0 0 (MQ below (kQv D wc0 (wd_Gr_growOlder D h h_heights h_ages h_walls v_vent out.1 out.2) s.heap.size) args s 0 0 (va_A wc0 s.heap.size)) (F0 m 2 ls []) := by
  intro n
  induction n with
  | zero => intro x1 v_ages hf; exact knone hf
  | succ n ih => intro x1 v_ages hf H locs ls hV hl; exact tb_Gr_growOlder_1 X ih hf hV hl
set_option maxHeartbeats 2000000 in
set_option maxRecDepth 20000 in
theorem t_Gr_growOlder {l : Launch} {p : Program} {e : Env} {s : State} {m : MethodId} {args : Array Value} {below : List Frame} {meth : Method} {c : Code} {D : kD} {wc0 : va_W} {h : Nat} {h_heights : Nat} {h_ages : Nat} {h_walls : Nat} {v_vent : Int32} {v_ash : Int32} {v_ages : Nat → Int32} {out : Int32 × (Nat → Int32)} (X : kX p m meth c s args D (va_A wc0 s.heap.size) b_Gr_growOlder "MountainFarms$Ground" 2 none) (hf : f_Gr_growOlder v_ash v_ages = some out) {H : Heap} {locs : List Loc} (hV : kV D (va_A wc0 s.heap.size) s (wd_Gr_growOlder D h h_heights h_ages h_walls v_vent v_ash v_ages) H locs) {ls : Array Slot} (hl : lv_has ls 2 [(0, .ref h)]) : W p l e { frames := 1, cells := 0, slots := 0, locals := 21 } s m args below meth c H locs 0 0 (MQ below (kQv D wc0 (wd_Gr_growOlder D h h_heights h_ages h_walls v_vent out.1 out.2) s.heap.size) args s 0 0 (va_A wc0 s.heap.size)) (F0 m 0 ls []) := by
  unfold f_Gr_growOlder at hf
  obtain ⟨hx, hb, -⟩ := id X
  refine lv_iconst (v := 0) hx hb d_Gr_growOlder_0 ic_0 ?_
  refine lv_istore_n (lv' := [(1, .int (0 : Int32)), (0, .ref h)]) hx hb d_Gr_growOlder_1 rfl hl (by decide) rfl (fun ls hl => ?_)
  exact tl_Gr_growOlder_1 X _ _ _ hf _ _ _ hV (lv_sub hl [1, 0] rfl)
set_option maxHeartbeats 2000000 in
set_option maxRecDepth 20000 in
theorem c_Gr_growOlder {l : Launch} (D : kD) (h : Nat) (h_heights : Nat) (h_ages : Nat) (h_walls : Nat) (v_vent : Int32) (v_ash : Int32) (v_ages : Nat → Int32) {out : Int32 × (Nat → Int32)} (hf : f_Gr_growOlder v_ash v_ages = some out) : kMv l D y_Gr_growOlder b_Gr_growOlder 2 none { frames := 1, cells := 0, slots := 0, locals := 21 } [.ref h] (wd_Gr_growOlder D h h_heights h_ages h_walls v_vent v_ash v_ages) (wd_Gr_growOlder D h h_heights h_ages h_walls v_vent out.1 out.2) :=
  kMv_of (own := "MountainFarms$Ground") (plainFor_of_name (by decide)) rfl rfl (fun p e s m args below meth c ls X hV hl => t_Gr_growOlder X hf hV hl)
set_option maxHeartbeats 2000000 in
set_option maxRecDepth 20000 in
theorem t_Sl_goMonth_4 {l : Launch} {p : Program} {e : Env} {s : State} {m : MethodId} {args : Array Value} {below : List Frame} {meth : Method} {c : Code} {D : kD} {wc0 : va_W} {h : Nat} {h_ground : Nat} {h_farms : Nat} {h_mountain : Nat} {h_ground_heights : Nat} {h_ground_ages : Nat} {h_ground_walls : Nat} {h_farms_kinds : Nat} {h_farms_cells : Nat} {h_farms_owners : Nat} {h_farms_purses : Nat} {h_mountain_chances : Nat} {h_mountain_shows : Nat} {h_mountain_diary : Nat} {v_month : Int32} {v_volume : Int32} {v_outs : Int32} {v_fed : Int32} {v_fedOuts : Int32} {v_arePigsTold : Int32} {v_ground_vent : Int32} {v_ground_ash : Int32} {v_ground_heights : Nat → Int32} {v_ground_ages : Nat → Int32} {v_ground_walls : Nat → Int32} {v_farms_number : Int32} {v_farms_burnt : Int32} {v_farms_kinds : Nat → Int32} {v_farms_cells : Nat → Int32} {v_farms_purses : Nat → Int32} {v_mountain_seen : Int32} {v_mountain_state : Int32} {v_mountain_z : Int32} {v_mountain_chances : Nat → Int32} {v_mountain_shows : Nat → Int32} {x1 : Int32} {out : Int32 × Int32 × Int32 × Int32 × Int32 × Int32 × Int32 × (Nat → Int32) × (Nat → Int32) × Int32 × (Nat → Int32) × Int32 × Int32} (X : kX p m meth c s args D (va_A wc0 s.heap.size) b_Sl_goMonth "MountainFarms$Slope" 2 (some .boolean)) (hf : f_Sl_goMonth_4 x1 v_month v_outs v_fed v_fedOuts v_arePigsTold v_ground_ash v_ground_heights v_ground_ages v_farms_burnt v_farms_purses v_mountain_state v_mountain_z = some out) {H : Heap} {locs : List Loc} (hV : kV D (va_A wc0 s.heap.size) s (wd_Sl_goMonth D h h_ground h_farms h_mountain h_ground_heights h_ground_ages h_ground_walls h_farms_kinds h_farms_cells h_farms_owners h_farms_purses h_mountain_chances h_mountain_shows h_mountain_diary v_month v_volume v_outs v_fed v_fedOuts v_arePigsTold v_ground_vent v_ground_ash v_ground_heights v_ground_ages v_ground_walls v_farms_number v_farms_burnt v_farms_kinds v_farms_cells v_farms_purses v_mountain_seen v_mountain_state v_mountain_z v_mountain_chances v_mountain_shows) H locs) {ls : Array Slot} (hl : lv_has ls 2 [(0, .ref h), (1, .int x1)]) : W p l e { frames := 4, cells := 0, slots := 0, locals := 95 } s m args below meth c H locs 0 0 (MQ below (kQi D wc0 (wd_Sl_goMonth D h h_ground h_farms h_mountain h_ground_heights h_ground_ages h_ground_walls h_farms_kinds h_farms_cells h_farms_owners h_farms_purses h_mountain_chances h_mountain_shows h_mountain_diary out.2.1 v_volume out.2.2.1 out.2.2.2.1 out.2.2.2.2.1 out.2.2.2.2.2.1 v_ground_vent out.2.2.2.2.2.2.1 out.2.2.2.2.2.2.2.1 out.2.2.2.2.2.2.2.2.1 v_ground_walls v_farms_number out.2.2.2.2.2.2.2.2.2.1 v_farms_kinds v_farms_cells out.2.2.2.2.2.2.2.2.2.2.1 v_mountain_seen out.2.2.2.2.2.2.2.2.2.2.2.1 out.2.2.2.2.2.2.2.2.2.2.2.2 v_mountain_chances v_mountain_shows) s.heap.size out.1) args s 0 0 (va_A wc0 s.heap.size)) (F0 m 81 ls []) := by
  unfold f_Sl_goMonth_4 at hf
  obtain ⟨hx, hb, -⟩ := id X
  refine lv_aload_n hx hb d_Sl_goMonth_81 rfl (lv_at hl 0 rfl) ?_
  refine lv_dup hx hb d_Sl_goMonth_82 rfl ?_
  refine k_get X hV 0 5 3 rfl rfl rfl gw_145 rfl rfl d_Sl_goMonth_83 ?_
  refine lv_iconst (v := 1) hx hb d_Sl_goMonth_86 ic_1 ?_
  refine lv_iadd hx hb d_Sl_goMonth_87 ?_
  refine k_putv (ty := .int) (ws' := (wd_Sl_goMonth D h h_ground h_farms h_mountain h_ground_heights h_ground_ages h_ground_walls h_farms_kinds h_farms_cells h_farms_owners h_farms_purses h_mountain_chances h_mountain_shows h_mountain_diary (v_month + (1 : Int32)) v_volume v_outs v_fed v_fedOuts v_arePigsTold v_ground_vent v_ground_ash v_ground_heights v_ground_ages v_ground_walls v_farms_number v_farms_burnt v_farms_kinds v_farms_cells v_farms_purses v_mountain_seen v_mountain_state v_mountain_z v_mountain_chances v_mountain_shows)) X hV 0 5 3 rfl rfl rfl gw_145 rfl rfl rfl rfl rfl rfl rfl d_Sl_goMonth_88 (fun H locs hV => ?_)
  refine lv_aload_n hx hb d_Sl_goMonth_91 rfl (lv_at hl 0 rfl) ?_
  refine lv_iconst (v := 0) hx hb d_Sl_goMonth_92 ic_0 ?_
  refine k_putv (ty := .boolean) (ws' := (wd_Sl_goMonth D h h_ground h_farms h_mountain h_ground_heights h_ground_ages h_ground_walls h_farms_kinds h_farms_cells h_farms_owners h_farms_purses h_mountain_chances h_mountain_shows h_mountain_diary (v_month + (1 : Int32)) v_volume v_outs v_fed v_fedOuts (0 : Int32) v_ground_vent v_ground_ash v_ground_heights v_ground_ages v_ground_walls v_farms_number v_farms_burnt v_farms_kinds v_farms_cells v_farms_purses v_mountain_seen v_mountain_state v_mountain_z v_mountain_chances v_mountain_shows)) X hV 0 5 8 rfl rfl rfl gw_155 rfl rfl rfl rfl rfl rfl rfl d_Sl_goMonth_93 (fun H locs hV => ?_)
  refine lv_iload_n hx hb d_Sl_goMonth_96 rfl (lv_at hl 1 rfl) ?_
  obtain ⟨h_40, hf⟩ := kchk hf
  have e_ := Option.some.inj hf
  subst e_
  exact k_iret X rfl hV (knarB h_40) d_Sl_goMonth_97
set_option maxHeartbeats 2000000 in
set_option maxRecDepth 20000 in
theorem t_Sl_goMonth_3 {l : Launch} {p : Program} {e : Env} {s : State} {m : MethodId} {args : Array Value} {below : List Frame} {meth : Method} {c : Code} {D : kD} {wc0 : va_W} {h : Nat} {h_ground : Nat} {h_farms : Nat} {h_mountain : Nat} {h_ground_heights : Nat} {h_ground_ages : Nat} {h_ground_walls : Nat} {h_farms_kinds : Nat} {h_farms_cells : Nat} {h_farms_owners : Nat} {h_farms_purses : Nat} {h_mountain_chances : Nat} {h_mountain_shows : Nat} {h_mountain_diary : Nat} {v_month : Int32} {v_volume : Int32} {v_outs : Int32} {v_fed : Int32} {v_fedOuts : Int32} {v_arePigsTold : Int32} {v_ground_vent : Int32} {v_ground_ash : Int32} {v_ground_heights : Nat → Int32} {v_ground_ages : Nat → Int32} {v_ground_walls : Nat → Int32} {v_farms_number : Int32} {v_farms_burnt : Int32} {v_farms_kinds : Nat → Int32} {v_farms_cells : Nat → Int32} {v_farms_purses : Nat → Int32} {v_mountain_seen : Int32} {v_mountain_state : Int32} {v_mountain_z : Int32} {v_mountain_chances : Nat → Int32} {v_mountain_shows : Nat → Int32} {s1 : Int32} {s2 : Int32} {x1 : Int32} {out : Int32 × Int32 × Int32 × Int32 × Int32 × Int32 × Int32 × (Nat → Int32) × (Nat → Int32) × Int32 × (Nat → Int32) × Int32 × Int32} (X : kX p m meth c s args D (va_A wc0 s.heap.size) b_Sl_goMonth "MountainFarms$Slope" 2 (some .boolean)) (hf : f_Sl_goMonth_3 s1 s2 x1 v_month v_outs v_fed v_fedOuts v_arePigsTold v_ground_ash v_ground_heights v_ground_ages v_farms_burnt v_farms_purses v_mountain_state v_mountain_z = some out) {H : Heap} {locs : List Loc} (hV : kV D (va_A wc0 s.heap.size) s (wd_Sl_goMonth D h h_ground h_farms h_mountain h_ground_heights h_ground_ages h_ground_walls h_farms_kinds h_farms_cells h_farms_owners h_farms_purses h_mountain_chances h_mountain_shows h_mountain_diary v_month v_volume v_outs v_fed v_fedOuts v_arePigsTold v_ground_vent v_ground_ash v_ground_heights v_ground_ages v_ground_walls v_farms_number v_farms_burnt v_farms_kinds v_farms_cells v_farms_purses v_mountain_seen v_mountain_state v_mountain_z v_mountain_chances v_mountain_shows) H locs) {ls : Array Slot} (hl : lv_has ls 2 [(0, .ref h), (1, .int x1)]) : W p l e { frames := 4, cells := 0, slots := 0, locals := 95 } s m args below meth c H locs 0 0 (MQ below (kQi D wc0 (wd_Sl_goMonth D h h_ground h_farms h_mountain h_ground_heights h_ground_ages h_ground_walls h_farms_kinds h_farms_cells h_farms_owners h_farms_purses h_mountain_chances h_mountain_shows h_mountain_diary out.2.1 v_volume out.2.2.1 out.2.2.2.1 out.2.2.2.2.1 out.2.2.2.2.2.1 v_ground_vent out.2.2.2.2.2.2.1 out.2.2.2.2.2.2.2.1 out.2.2.2.2.2.2.2.2.1 v_ground_walls v_farms_number out.2.2.2.2.2.2.2.2.2.1 v_farms_kinds v_farms_cells out.2.2.2.2.2.2.2.2.2.2.1 v_mountain_seen out.2.2.2.2.2.2.2.2.2.2.2.1 out.2.2.2.2.2.2.2.2.2.2.2.2 v_mountain_chances v_mountain_shows) s.heap.size out.1) args s 0 0 (va_A wc0 s.heap.size)) (F0 m 77 ls [.int s2, .int s1, .ref h]) := by
  unfold f_Sl_goMonth_3 at hf
  obtain ⟨hx, hb, -⟩ := id X
  refine lv_iadd hx hb d_Sl_goMonth_77 ?_
  refine k_putv (ty := .int) (ws' := (wd_Sl_goMonth D h h_ground h_farms h_mountain h_ground_heights h_ground_ages h_ground_walls h_farms_kinds h_farms_cells h_farms_owners h_farms_purses h_mountain_chances h_mountain_shows h_mountain_diary v_month v_volume v_outs v_fed (s1 + s2) v_arePigsTold v_ground_vent v_ground_ash v_ground_heights v_ground_ages v_ground_walls v_farms_number v_farms_burnt v_farms_kinds v_farms_cells v_farms_purses v_mountain_seen v_mountain_state v_mountain_z v_mountain_chances v_mountain_shows)) X hV 0 5 7 rfl rfl rfl gw_153 rfl rfl rfl rfl rfl rfl rfl d_Sl_goMonth_78 (fun H locs hV => ?_)
  exact t_Sl_goMonth_4 X hf hV (lv_sub hl [0, 1] rfl)
set_option maxHeartbeats 2000000 in
set_option maxRecDepth 20000 in
theorem t_Sl_goMonth_2 {l : Launch} {p : Program} {e : Env} {s : State} {m : MethodId} {args : Array Value} {below : List Frame} {meth : Method} {c : Code} {D : kD} {wc0 : va_W} {h : Nat} {h_ground : Nat} {h_farms : Nat} {h_mountain : Nat} {h_ground_heights : Nat} {h_ground_ages : Nat} {h_ground_walls : Nat} {h_farms_kinds : Nat} {h_farms_cells : Nat} {h_farms_owners : Nat} {h_farms_purses : Nat} {h_mountain_chances : Nat} {h_mountain_shows : Nat} {h_mountain_diary : Nat} {v_month : Int32} {v_volume : Int32} {v_outs : Int32} {v_fed : Int32} {v_fedOuts : Int32} {v_arePigsTold : Int32} {v_ground_vent : Int32} {v_ground_ash : Int32} {v_ground_heights : Nat → Int32} {v_ground_ages : Nat → Int32} {v_ground_walls : Nat → Int32} {v_farms_number : Int32} {v_farms_burnt : Int32} {v_farms_kinds : Nat → Int32} {v_farms_cells : Nat → Int32} {v_farms_purses : Nat → Int32} {v_mountain_seen : Int32} {v_mountain_state : Int32} {v_mountain_z : Int32} {v_mountain_chances : Nat → Int32} {v_mountain_shows : Nat → Int32} {x1 : Int32} {out : Int32 × Int32 × Int32 × Int32 × Int32 × Int32 × Int32 × (Nat → Int32) × (Nat → Int32) × Int32 × (Nat → Int32) × Int32 × Int32} (X : kX p m meth c s args D (va_A wc0 s.heap.size) b_Sl_goMonth "MountainFarms$Slope" 2 (some .boolean)) (hf : f_Sl_goMonth_2 x1 v_month v_outs v_fed v_fedOuts v_arePigsTold v_ground_ash v_ground_heights v_ground_ages v_farms_burnt v_farms_purses v_mountain_state v_mountain_z = some out) {H : Heap} {locs : List Loc} (hV : kV D (va_A wc0 s.heap.size) s (wd_Sl_goMonth D h h_ground h_farms h_mountain h_ground_heights h_ground_ages h_ground_walls h_farms_kinds h_farms_cells h_farms_owners h_farms_purses h_mountain_chances h_mountain_shows h_mountain_diary v_month v_volume v_outs v_fed v_fedOuts v_arePigsTold v_ground_vent v_ground_ash v_ground_heights v_ground_ages v_ground_walls v_farms_number v_farms_burnt v_farms_kinds v_farms_cells v_farms_purses v_mountain_seen v_mountain_state v_mountain_z v_mountain_chances v_mountain_shows) H locs) {ls : Array Slot} (hl : lv_has ls 2 [(0, .ref h), (1, .int x1)]) : W p l e { frames := 4, cells := 0, slots := 0, locals := 95 } s m args below meth c H locs 0 0 (MQ below (kQi D wc0 (wd_Sl_goMonth D h h_ground h_farms h_mountain h_ground_heights h_ground_ages h_ground_walls h_farms_kinds h_farms_cells h_farms_owners h_farms_purses h_mountain_chances h_mountain_shows h_mountain_diary out.2.1 v_volume out.2.2.1 out.2.2.2.1 out.2.2.2.2.1 out.2.2.2.2.2.1 v_ground_vent out.2.2.2.2.2.2.1 out.2.2.2.2.2.2.2.1 out.2.2.2.2.2.2.2.2.1 v_ground_walls v_farms_number out.2.2.2.2.2.2.2.2.2.1 v_farms_kinds v_farms_cells out.2.2.2.2.2.2.2.2.2.2.1 v_mountain_seen out.2.2.2.2.2.2.2.2.2.2.2.1 out.2.2.2.2.2.2.2.2.2.2.2.2 v_mountain_chances v_mountain_shows) s.heap.size out.1) args s 0 0 (va_A wc0 s.heap.size)) (F0 m 46 ls []) := by
  unfold f_Sl_goMonth_2 at hf
  obtain ⟨hx, hb, -⟩ := id X
  refine lv_aload_n hx hb d_Sl_goMonth_46 rfl (lv_at hl 0 rfl) ?_
  refine k_get X hV 0 5 8 rfl rfl rfl gw_155 rfl rfl d_Sl_goMonth_47 ?_
  refine lv_if_eq (tgt := 81) hx hb d_Sl_goMonth_50 (by decide) (fun c_38 => ?_) (fun c_38 => ?_)
  · replace hf := kifp c_38 hf
    exact t_Sl_goMonth_4 X hf hV (lv_sub hl [0, 1] rfl)
  replace hf := kifn c_38 hf
  refine lv_aload_n hx hb d_Sl_goMonth_53 rfl (lv_at hl 0 rfl) ?_
  refine lv_dup hx hb d_Sl_goMonth_54 rfl ?_
  refine k_get X hV 0 5 6 rfl rfl rfl gw_151 rfl rfl d_Sl_goMonth_55 ?_
  refine lv_iconst (v := 1) hx hb d_Sl_goMonth_58 ic_1 ?_
  refine lv_iadd hx hb d_Sl_goMonth_59 ?_
  refine k_putv (ty := .int) (ws' := (wd_Sl_goMonth D h h_ground h_farms h_mountain h_ground_heights h_ground_ages h_ground_walls h_farms_kinds h_farms_cells h_farms_owners h_farms_purses h_mountain_chances h_mountain_shows h_mountain_diary v_month v_volume v_outs (v_fed + (1 : Int32)) v_fedOuts v_arePigsTold v_ground_vent v_ground_ash v_ground_heights v_ground_ages v_ground_walls v_farms_number v_farms_burnt v_farms_kinds v_farms_cells v_farms_purses v_mountain_seen v_mountain_state v_mountain_z v_mountain_chances v_mountain_shows)) X hV 0 5 6 rfl rfl rfl gw_151 rfl rfl rfl rfl rfl rfl rfl d_Sl_goMonth_60 (fun H locs hV => ?_)
  refine lv_aload_n hx hb d_Sl_goMonth_63 rfl (lv_at hl 0 rfl) ?_
  refine lv_dup hx hb d_Sl_goMonth_64 rfl ?_
  refine k_get X hV 0 5 7 rfl rfl rfl gw_153 rfl rfl d_Sl_goMonth_65 ?_
  refine lv_iload_n hx hb d_Sl_goMonth_68 rfl (lv_at hl 1 rfl) ?_
  refine lv_if_eq (tgt := 76) hx hb d_Sl_goMonth_69 (by decide) (fun c_39 => ?_) (fun c_39 => ?_)
  · replace hf := kifp c_39 hf
    refine lv_iconst (v := 0) hx hb d_Sl_goMonth_76 ic_0 ?_
    exact t_Sl_goMonth_3 X hf hV (lv_sub hl [0, 1] rfl)
  replace hf := kifn c_39 hf
  refine lv_iconst (v := 1) hx hb d_Sl_goMonth_72 ic_1 ?_
  refine lv_goto (tgt := 77) hx hb d_Sl_goMonth_73 (by decide) ?_
  exact t_Sl_goMonth_3 X hf hV (lv_sub hl [0, 1] rfl)
set_option maxHeartbeats 2000000 in
set_option maxRecDepth 20000 in
theorem t_Sl_goMonth_1 {l : Launch} {p : Program} {e : Env} {s : State} {m : MethodId} {args : Array Value} {below : List Frame} {meth : Method} {c : Code} {D : kD} {wc0 : va_W} {h : Nat} {h_ground : Nat} {h_farms : Nat} {h_mountain : Nat} {h_ground_heights : Nat} {h_ground_ages : Nat} {h_ground_walls : Nat} {h_farms_kinds : Nat} {h_farms_cells : Nat} {h_farms_owners : Nat} {h_farms_purses : Nat} {h_mountain_chances : Nat} {h_mountain_shows : Nat} {h_mountain_diary : Nat} {v_month : Int32} {v_volume : Int32} {v_outs : Int32} {v_fed : Int32} {v_fedOuts : Int32} {v_arePigsTold : Int32} {v_ground_vent : Int32} {v_ground_ash : Int32} {v_ground_heights : Nat → Int32} {v_ground_ages : Nat → Int32} {v_ground_walls : Nat → Int32} {v_farms_number : Int32} {v_farms_burnt : Int32} {v_farms_kinds : Nat → Int32} {v_farms_cells : Nat → Int32} {v_farms_purses : Nat → Int32} {v_mountain_seen : Int32} {v_mountain_state : Int32} {v_mountain_z : Int32} {v_mountain_chances : Nat → Int32} {v_mountain_shows : Nat → Int32} {x1 : Int32} {out : Int32 × Int32 × Int32 × Int32 × Int32 × Int32 × Int32 × (Nat → Int32) × (Nat → Int32) × Int32 × (Nat → Int32) × Int32 × Int32} (X : kX p m meth c s args D (va_A wc0 s.heap.size) b_Sl_goMonth "MountainFarms$Slope" 2 (some .boolean)) (hf : f_Sl_goMonth_1 x1 v_month v_outs v_fed v_fedOuts v_arePigsTold v_ground_ash v_ground_heights v_ground_ages v_farms_number v_farms_burnt v_farms_kinds v_farms_cells v_farms_purses v_mountain_state v_mountain_z = some out) {H : Heap} {locs : List Loc} (hV : kV D (va_A wc0 s.heap.size) s (wd_Sl_goMonth D h h_ground h_farms h_mountain h_ground_heights h_ground_ages h_ground_walls h_farms_kinds h_farms_cells h_farms_owners h_farms_purses h_mountain_chances h_mountain_shows h_mountain_diary v_month v_volume v_outs v_fed v_fedOuts v_arePigsTold v_ground_vent v_ground_ash v_ground_heights v_ground_ages v_ground_walls v_farms_number v_farms_burnt v_farms_kinds v_farms_cells v_farms_purses v_mountain_seen v_mountain_state v_mountain_z v_mountain_chances v_mountain_shows) H locs) {ls : Array Slot} (hl : lv_has ls 2 [(0, .ref h), (1, .int x1)]) : W p l e { frames := 4, cells := 0, slots := 0, locals := 95 } s m args below meth c H locs 0 0 (MQ below (kQi D wc0 (wd_Sl_goMonth D h h_ground h_farms h_mountain h_ground_heights h_ground_ages h_ground_walls h_farms_kinds h_farms_cells h_farms_owners h_farms_purses h_mountain_chances h_mountain_shows h_mountain_diary out.2.1 v_volume out.2.2.1 out.2.2.2.1 out.2.2.2.2.1 out.2.2.2.2.2.1 v_ground_vent out.2.2.2.2.2.2.1 out.2.2.2.2.2.2.2.1 out.2.2.2.2.2.2.2.2.1 v_ground_walls v_farms_number out.2.2.2.2.2.2.2.2.2.1 v_farms_kinds v_farms_cells out.2.2.2.2.2.2.2.2.2.2.1 v_mountain_seen out.2.2.2.2.2.2.2.2.2.2.2.1 out.2.2.2.2.2.2.2.2.2.2.2.2 v_mountain_chances v_mountain_shows) s.heap.size out.1) args s 0 0 (va_A wc0 s.heap.size)) (F0 m 16 ls []) := by
  unfold f_Sl_goMonth_1 at hf
  obtain ⟨hx, hb, -⟩ := id X
  refine lv_aload_n hx hb d_Sl_goMonth_16 rfl (lv_at hl 0 rfl) ?_
  refine k_get X hV 0 5 3 rfl rfl rfl gw_145 rfl rfl d_Sl_goMonth_17 ?_
  refine lv_iconst (v := 1) hx hb d_Sl_goMonth_20 ic_1 ?_
  refine lv_iadd hx hb d_Sl_goMonth_21 ?_
  refine lv_bipush (v := 12) hx hb d_Sl_goMonth_22 bp_12 ?_
  refine lv_irem hx hb d_Sl_goMonth_24 (by decide) ?_
  refine lv_if_ne (tgt := 46) hx hb d_Sl_goMonth_25 (by decide) (fun c_32 => ?_) (fun c_32 => ?_)
  · replace hf := kifn c_32 hf
    exact t_Sl_goMonth_2 X hf hV (lv_sub hl [0, 1] rfl)
  replace hf := kifp c_32 hf
  refine lv_aload_n hx hb d_Sl_goMonth_28 rfl (lv_at hl 0 rfl) ?_
  refine k_get X hV 0 5 1 rfl rfl rfl gw_139 rfl rfl d_Sl_goMonth_29 ?_
  refine lv_aload_n hx hb d_Sl_goMonth_32 rfl (lv_at hl 0 rfl) ?_
  refine k_get X hV 0 5 0 rfl rfl rfl gw_136 rfl rfl d_Sl_goMonth_33 ?_
  obtain ⟨v_farms_purses_33, hc_34, hf⟩ := kb1_some hf
  refine k_cvv (w1 := (wd_Fa_earnOn D h_farms h_farms_kinds h_farms_cells h_farms_owners h_farms_purses h_ground h_ground_heights h_ground_ages h_ground_walls v_farms_number v_farms_burnt v_farms_kinds v_farms_cells v_farms_purses_33 v_ground_vent v_ground_ash v_ground_ages)) (ws' := (wd_Sl_goMonth D h h_ground h_farms h_mountain h_ground_heights h_ground_ages h_ground_walls h_farms_kinds h_farms_cells h_farms_owners h_farms_purses h_mountain_chances h_mountain_shows h_mountain_diary v_month v_volume v_outs v_fed v_fedOuts v_arePigsTold v_ground_vent v_ground_ash v_ground_heights v_ground_ages v_ground_walls v_farms_number v_farms_burnt v_farms_kinds v_farms_cells v_farms_purses_33 v_mountain_seen v_mountain_state v_mountain_z v_mountain_chances v_mountain_shows)) X hV hl.1 (c_Fa_earnOn D h_farms h_farms_kinds h_farms_cells h_farms_owners h_farms_purses h_ground h_ground_heights h_ground_ages h_ground_walls v_farms_number v_farms_burnt v_farms_kinds v_farms_cells v_farms_purses v_ground_vent v_ground_ash v_ground_ages hc_34) fk_Fa_earnOn gw_565 rfl 5 0 rfl rfl [5, 6, 7, 8, 1, 3] [none, some 4, none, some 5, none, some 0, some 1, some 2, some 3, none, none, none] rfl rfl ⟨rfl, rfl, rfl, rfl, rfl, rfl, rfl, rfl, rfl, rfl, rfl, rfl, rfl, rfl, rfl, rfl, rfl, rfl, rfl, rfl, rfl, rfl, rfl, rfl, trivial⟩ rfl rfl rfl d_Sl_goMonth_36 (fun H locs hV => ?_)
  refine lv_aload_n hx hb d_Sl_goMonth_39 rfl (lv_at hl 0 rfl) ?_
  refine k_get X hV 0 5 0 rfl rfl rfl gw_136 rfl rfl d_Sl_goMonth_40 ?_
  obtain ⟨v_ground_ash_35, v_ground_ages_36, hc_37, hf⟩ := kb2_some hf
  refine k_cvv (w1 := (wd_Gr_growOlder D h_ground h_ground_heights h_ground_ages h_ground_walls v_ground_vent v_ground_ash_35 v_ground_ages_36)) (ws' := (wd_Sl_goMonth D h h_ground h_farms h_mountain h_ground_heights h_ground_ages h_ground_walls h_farms_kinds h_farms_cells h_farms_owners h_farms_purses h_mountain_chances h_mountain_shows h_mountain_diary v_month v_volume v_outs v_fed v_fedOuts v_arePigsTold v_ground_vent v_ground_ash_35 v_ground_heights v_ground_ages_36 v_ground_walls v_farms_number v_farms_burnt v_farms_kinds v_farms_cells v_farms_purses_33 v_mountain_seen v_mountain_state v_mountain_z v_mountain_chances v_mountain_shows)) X hV hl.1 (c_Gr_growOlder D h_ground h_ground_heights h_ground_ages h_ground_walls v_ground_vent v_ground_ash v_ground_ages hc_37) fk_Gr_growOlder gw_570 rfl 1 1 rfl rfl [1, 3] [none, some 0, none, some 1, none, none, none, none, none, none, none, none] rfl rfl ⟨rfl, rfl, rfl, rfl, rfl, rfl, rfl, rfl, rfl, rfl, rfl, rfl, rfl, rfl, rfl, rfl, trivial⟩ rfl rfl rfl d_Sl_goMonth_43 (fun H locs hV => ?_)
  exact t_Sl_goMonth_2 X hf hV (lv_sub hl [0, 1] rfl)
set_option maxHeartbeats 2000000 in
set_option maxRecDepth 20000 in
theorem t_Sl_goMonth {l : Launch} {p : Program} {e : Env} {s : State} {m : MethodId} {args : Array Value} {below : List Frame} {meth : Method} {c : Code} {D : kD} {wc0 : va_W} {h : Nat} {h_ground : Nat} {h_farms : Nat} {h_mountain : Nat} {h_ground_heights : Nat} {h_ground_ages : Nat} {h_ground_walls : Nat} {h_farms_kinds : Nat} {h_farms_cells : Nat} {h_farms_owners : Nat} {h_farms_purses : Nat} {h_mountain_chances : Nat} {h_mountain_shows : Nat} {h_mountain_diary : Nat} {v_month : Int32} {v_volume : Int32} {v_outs : Int32} {v_fed : Int32} {v_fedOuts : Int32} {v_arePigsTold : Int32} {v_ground_vent : Int32} {v_ground_ash : Int32} {v_ground_heights : Nat → Int32} {v_ground_ages : Nat → Int32} {v_ground_walls : Nat → Int32} {v_farms_number : Int32} {v_farms_burnt : Int32} {v_farms_kinds : Nat → Int32} {v_farms_cells : Nat → Int32} {v_farms_purses : Nat → Int32} {v_mountain_seen : Int32} {v_mountain_state : Int32} {v_mountain_z : Int32} {v_mountain_chances : Nat → Int32} {v_mountain_shows : Nat → Int32} {out : Int32 × Int32 × Int32 × Int32 × Int32 × Int32 × Int32 × (Nat → Int32) × (Nat → Int32) × Int32 × (Nat → Int32) × Int32 × Int32} (X : kX p m meth c s args D (va_A wc0 s.heap.size) b_Sl_goMonth "MountainFarms$Slope" 2 (some .boolean)) (hf : f_Sl_goMonth v_month v_volume v_outs v_fed v_fedOuts v_arePigsTold v_ground_vent v_ground_ash v_ground_heights v_ground_ages v_ground_walls v_farms_number v_farms_burnt v_farms_kinds v_farms_cells v_farms_purses v_mountain_state v_mountain_z v_mountain_chances v_mountain_shows = some out) {H : Heap} {locs : List Loc} (hV : kV D (va_A wc0 s.heap.size) s (wd_Sl_goMonth D h h_ground h_farms h_mountain h_ground_heights h_ground_ages h_ground_walls h_farms_kinds h_farms_cells h_farms_owners h_farms_purses h_mountain_chances h_mountain_shows h_mountain_diary v_month v_volume v_outs v_fed v_fedOuts v_arePigsTold v_ground_vent v_ground_ash v_ground_heights v_ground_ages v_ground_walls v_farms_number v_farms_burnt v_farms_kinds v_farms_cells v_farms_purses v_mountain_seen v_mountain_state v_mountain_z v_mountain_chances v_mountain_shows) H locs) {ls : Array Slot} (hl : lv_has ls 2 [(0, .ref h)]) : W p l e { frames := 4, cells := 0, slots := 0, locals := 95 } s m args below meth c H locs 0 0 (MQ below (kQi D wc0 (wd_Sl_goMonth D h h_ground h_farms h_mountain h_ground_heights h_ground_ages h_ground_walls h_farms_kinds h_farms_cells h_farms_owners h_farms_purses h_mountain_chances h_mountain_shows h_mountain_diary out.2.1 v_volume out.2.2.1 out.2.2.2.1 out.2.2.2.2.1 out.2.2.2.2.2.1 v_ground_vent out.2.2.2.2.2.2.1 out.2.2.2.2.2.2.2.1 out.2.2.2.2.2.2.2.2.1 v_ground_walls v_farms_number out.2.2.2.2.2.2.2.2.2.1 v_farms_kinds v_farms_cells out.2.2.2.2.2.2.2.2.2.2.1 v_mountain_seen out.2.2.2.2.2.2.2.2.2.2.2.1 out.2.2.2.2.2.2.2.2.2.2.2.2 v_mountain_chances v_mountain_shows) s.heap.size out.1) args s 0 0 (va_A wc0 s.heap.size)) (F0 m 0 ls []) := by
  unfold f_Sl_goMonth at hf
  obtain ⟨hx, hb, -⟩ := id X
  refine lv_aload_n hx hb d_Sl_goMonth_0 rfl (lv_at hl 0 rfl) ?_
  refine k_get X hV 0 5 2 rfl rfl rfl gw_142 rfl rfl d_Sl_goMonth_1 ?_
  obtain ⟨r_21, v_mountain_state_22, v_mountain_z_23, hc_24, hf⟩ := kb3_some hf
  refine k_cvi (w1 := (wd_Mo_goOn D h_mountain h_mountain_chances h_mountain_shows h_mountain_diary v_mountain_seen v_mountain_state_22 v_mountain_z_23 v_mountain_chances v_mountain_shows)) (r := r_21) (ws' := (wd_Sl_goMonth D h h_ground h_farms h_mountain h_ground_heights h_ground_ages h_ground_walls h_farms_kinds h_farms_cells h_farms_owners h_farms_purses h_mountain_chances h_mountain_shows h_mountain_diary v_month v_volume v_outs v_fed v_fedOuts v_arePigsTold v_ground_vent v_ground_ash v_ground_heights v_ground_ages v_ground_walls v_farms_number v_farms_burnt v_farms_kinds v_farms_cells v_farms_purses v_mountain_seen v_mountain_state_22 v_mountain_z_23 v_mountain_chances v_mountain_shows)) X hV hl.1 (c_Mo_goOn D h_mountain h_mountain_chances h_mountain_shows h_mountain_diary v_mountain_seen v_mountain_state v_mountain_z v_mountain_chances v_mountain_shows hc_24) fk_Mo_goOn gw_549 rfl 9 2 rfl rfl [9, 10, 11] [none, none, none, none, none, none, none, none, none, some 0, some 1, some 2] rfl rfl ⟨rfl, rfl, rfl, rfl, rfl, rfl, rfl, rfl, rfl, rfl, rfl, rfl, rfl, rfl, rfl, rfl, rfl, rfl, trivial⟩ rfl rfl rfl d_Sl_goMonth_4 (fun H locs hV => ?_)
  refine lv_istore_n (lv' := [(1, .int r_21), (0, .ref h)]) hx hb d_Sl_goMonth_7 rfl hl (by decide) rfl (fun ls hl => ?_)
  refine lv_iload_n hx hb d_Sl_goMonth_8 rfl (lv_at hl 0 rfl) ?_
  refine lv_if_eq (tgt := 16) hx hb d_Sl_goMonth_9 (by decide) (fun c_25 => ?_) (fun c_25 => ?_)
  · replace hf := kifp c_25 hf
    exact t_Sl_goMonth_1 X hf hV (lv_sub hl [1, 0] rfl)
  replace hf := kifn c_25 hf
  refine lv_aload_n hx hb d_Sl_goMonth_12 rfl (lv_at hl 1 rfl) ?_
  obtain ⟨v_outs_26, v_ground_ash_27, v_ground_heights_28, v_ground_ages_29, v_farms_burnt_30, hc_31, hf⟩ := kb5_some hf
  refine k_cvv (w1 := (wd_Sl_eruptNow D h h_ground h_farms h_mountain h_ground_heights h_ground_ages h_ground_walls h_farms_kinds h_farms_cells h_farms_owners h_farms_purses v_month v_volume v_outs_26 v_fed v_fedOuts v_arePigsTold v_ground_vent v_ground_ash_27 v_ground_heights_28 v_ground_ages_29 v_ground_walls v_farms_number v_farms_burnt_30 v_farms_cells)) (ws' := (wd_Sl_goMonth D h h_ground h_farms h_mountain h_ground_heights h_ground_ages h_ground_walls h_farms_kinds h_farms_cells h_farms_owners h_farms_purses h_mountain_chances h_mountain_shows h_mountain_diary v_month v_volume v_outs_26 v_fed v_fedOuts v_arePigsTold v_ground_vent v_ground_ash_27 v_ground_heights_28 v_ground_ages_29 v_ground_walls v_farms_number v_farms_burnt_30 v_farms_kinds v_farms_cells v_farms_purses v_mountain_seen v_mountain_state_22 v_mountain_z_23 v_mountain_chances v_mountain_shows)) X hV hl.1 (c_Sl_eruptNow D h h_ground h_farms h_mountain h_ground_heights h_ground_ages h_ground_walls h_farms_kinds h_farms_cells h_farms_owners h_farms_purses v_month v_volume v_outs v_fed v_fedOuts v_arePigsTold v_ground_vent v_ground_ash v_ground_heights v_ground_ages v_ground_walls v_farms_number v_farms_burnt v_farms_cells hc_31) fk_Sl_eruptNow gw_555 rfl 0 5 rfl rfl [0, 1, 2, 3, 4, 5, 7] [some 0, some 1, some 2, some 3, some 4, some 5, none, some 6, none, none, none, none] rfl rfl ⟨rfl, rfl, rfl, rfl, rfl, rfl, rfl, rfl, rfl, rfl, rfl, rfl, rfl, rfl, rfl, rfl, rfl, rfl, rfl, rfl, rfl, rfl, rfl, rfl, rfl, rfl, trivial⟩ rfl rfl rfl d_Sl_goMonth_13 (fun H locs hV => ?_)
  exact t_Sl_goMonth_1 X hf hV (lv_sub hl [1, 0] rfl)
set_option maxHeartbeats 2000000 in
set_option maxRecDepth 20000 in
theorem c_Sl_goMonth {l : Launch} (D : kD) (h : Nat) (h_ground : Nat) (h_farms : Nat) (h_mountain : Nat) (h_ground_heights : Nat) (h_ground_ages : Nat) (h_ground_walls : Nat) (h_farms_kinds : Nat) (h_farms_cells : Nat) (h_farms_owners : Nat) (h_farms_purses : Nat) (h_mountain_chances : Nat) (h_mountain_shows : Nat) (h_mountain_diary : Nat) (v_month : Int32) (v_volume : Int32) (v_outs : Int32) (v_fed : Int32) (v_fedOuts : Int32) (v_arePigsTold : Int32) (v_ground_vent : Int32) (v_ground_ash : Int32) (v_ground_heights : Nat → Int32) (v_ground_ages : Nat → Int32) (v_ground_walls : Nat → Int32) (v_farms_number : Int32) (v_farms_burnt : Int32) (v_farms_kinds : Nat → Int32) (v_farms_cells : Nat → Int32) (v_farms_purses : Nat → Int32) (v_mountain_seen : Int32) (v_mountain_state : Int32) (v_mountain_z : Int32) (v_mountain_chances : Nat → Int32) (v_mountain_shows : Nat → Int32) {out : Int32 × Int32 × Int32 × Int32 × Int32 × Int32 × Int32 × (Nat → Int32) × (Nat → Int32) × Int32 × (Nat → Int32) × Int32 × Int32} (hf : f_Sl_goMonth v_month v_volume v_outs v_fed v_fedOuts v_arePigsTold v_ground_vent v_ground_ash v_ground_heights v_ground_ages v_ground_walls v_farms_number v_farms_burnt v_farms_kinds v_farms_cells v_farms_purses v_mountain_state v_mountain_z v_mountain_chances v_mountain_shows = some out) : kMi l D y_Sl_goMonth b_Sl_goMonth 2 (some .boolean) { frames := 4, cells := 0, slots := 0, locals := 95 } [.ref h] (wd_Sl_goMonth D h h_ground h_farms h_mountain h_ground_heights h_ground_ages h_ground_walls h_farms_kinds h_farms_cells h_farms_owners h_farms_purses h_mountain_chances h_mountain_shows h_mountain_diary v_month v_volume v_outs v_fed v_fedOuts v_arePigsTold v_ground_vent v_ground_ash v_ground_heights v_ground_ages v_ground_walls v_farms_number v_farms_burnt v_farms_kinds v_farms_cells v_farms_purses v_mountain_seen v_mountain_state v_mountain_z v_mountain_chances v_mountain_shows) (wd_Sl_goMonth D h h_ground h_farms h_mountain h_ground_heights h_ground_ages h_ground_walls h_farms_kinds h_farms_cells h_farms_owners h_farms_purses h_mountain_chances h_mountain_shows h_mountain_diary out.2.1 v_volume out.2.2.1 out.2.2.2.1 out.2.2.2.2.1 out.2.2.2.2.2.1 v_ground_vent out.2.2.2.2.2.2.1 out.2.2.2.2.2.2.2.1 out.2.2.2.2.2.2.2.2.1 v_ground_walls v_farms_number out.2.2.2.2.2.2.2.2.2.1 v_farms_kinds v_farms_cells out.2.2.2.2.2.2.2.2.2.2.1 v_mountain_seen out.2.2.2.2.2.2.2.2.2.2.2.1 out.2.2.2.2.2.2.2.2.2.2.2.2 v_mountain_chances v_mountain_shows) out.1 :=
  kMi_of (own := "MountainFarms$Slope") (plainFor_of_name (by decide)) rfl rfl (fun p e s m args below meth c ls X hV hl => t_Sl_goMonth X hf hV hl)
set_option maxHeartbeats 2000000 in
set_option maxRecDepth 20000 in
theorem t_Fa_become {l : Launch} {p : Program} {e : Env} {s : State} {m : MethodId} {args : Array Value} {below : List Frame} {meth : Method} {c : Code} {D : kD} {wc0 : va_W} {h : Nat} {h_kinds : Nat} {h_cells : Nat} {h_owners : Nat} {h_purses : Nat} {h_p1 : Nat} {h_p1_kinds : Nat} {h_p1_cells : Nat} {h_p1_owners : Nat} {h_p1_purses : Nat} {v_number : Int32} {v_burnt : Int32} {v_kinds : Nat → Int32} {v_cells : Nat → Int32} {v_owners : Nat → Int32} {v_purses : Nat → Int32} {v_p1_number : Int32} {v_p1_burnt : Int32} {v_p1_kinds : Nat → Int32} {v_p1_cells : Nat → Int32} {v_p1_owners : Nat → Int32} {v_p1_purses : Nat → Int32} {out : Int32 × Int32 × (Nat → Int32) × (Nat → Int32) × (Nat → Int32) × (Nat → Int32)} (X : kX p m meth c s args D (va_A wc0 s.heap.size) b_Fa_become "MountainFarms$Farms" 2 none) (hf : f_Fa_become v_number v_burnt v_kinds v_cells v_owners v_purses v_p1_number v_p1_burnt v_p1_kinds v_p1_cells v_p1_owners v_p1_purses = some out) {H : Heap} {locs : List Loc} (hV : kV D (va_A wc0 s.heap.size) s (wd_Fa_become D h h_kinds h_cells h_owners h_purses h_p1 h_p1_kinds h_p1_cells h_p1_owners h_p1_purses v_number v_burnt v_kinds v_cells v_owners v_purses v_p1_number v_p1_burnt v_p1_kinds v_p1_cells v_p1_owners v_p1_purses) H locs) {ls : Array Slot} (hl : lv_has ls 2 [(0, .ref h), (1, .ref h_p1)]) : W p l e { frames := 1, cells := 0, slots := 0, locals := 26 } s m args below meth c H locs 0 0 (MQ below (kQv D wc0 (wd_Fa_become D h h_kinds h_cells h_owners h_purses h_p1 h_p1_kinds h_p1_cells h_p1_owners h_p1_purses out.1 out.2.1 out.2.2.1 out.2.2.2.1 out.2.2.2.2.1 out.2.2.2.2.2 v_p1_number v_p1_burnt v_p1_kinds v_p1_cells v_p1_owners v_p1_purses) s.heap.size) args s 0 0 (va_A wc0 s.heap.size)) (F0 m 0 ls []) := by
  unfold f_Fa_become at hf
  obtain ⟨hx, hb, -⟩ := id X
  refine lv_aload_n hx hb d_Fa_become_0 rfl (lv_at hl 1 rfl) ?_
  refine k_get X hV 5 0 0 rfl rfl rfl gw_79 rfl rfl d_Fa_become_1 ?_
  refine lv_iconst (v := 0) hx hb d_Fa_become_4 ic_0 ?_
  refine lv_aload_n hx hb d_Fa_become_5 rfl (lv_at hl 0 rfl) ?_
  refine k_get X hV 0 0 0 rfl rfl rfl gw_79 rfl rfl d_Fa_become_6 ?_
  refine lv_iconst (v := 0) hx hb d_Fa_become_9 ic_0 ?_
  refine lv_bipush (v := 12) hx hb d_Fa_become_10 bp_12 ?_
  refine k_copyi (ws' := (wd_Fa_become D h h_kinds h_cells h_owners h_purses h_p1 h_p1_kinds h_p1_cells h_p1_owners h_p1_purses v_number v_burnt (va_cpy v_p1_kinds v_kinds (0 : Int32).toNatClampNeg (0 : Int32).toNatClampNeg (12 : Int32).toNatClampNeg) v_cells v_owners v_purses v_p1_number v_p1_burnt v_p1_kinds v_p1_cells v_p1_owners v_p1_purses)) X hV hl.1 gw_602 6 1 rfl rfl kcp_0_0_12_12_12 rfl rfl rfl d_Fa_become_12 (fun H locs hV => ?_)
  refine lv_aload_n hx hb d_Fa_become_15 rfl (lv_at hl 1 rfl) ?_
  refine k_get X hV 5 0 1 rfl rfl rfl gw_81 rfl rfl d_Fa_become_16 ?_
  refine lv_iconst (v := 0) hx hb d_Fa_become_19 ic_0 ?_
  refine lv_aload_n hx hb d_Fa_become_20 rfl (lv_at hl 0 rfl) ?_
  refine k_get X hV 0 0 1 rfl rfl rfl gw_81 rfl rfl d_Fa_become_21 ?_
  refine lv_iconst (v := 0) hx hb d_Fa_become_24 ic_0 ?_
  refine lv_bipush (v := 12) hx hb d_Fa_become_25 bp_12 ?_
  refine k_copyi (ws' := (wd_Fa_become D h h_kinds h_cells h_owners h_purses h_p1 h_p1_kinds h_p1_cells h_p1_owners h_p1_purses v_number v_burnt (va_cpy v_p1_kinds v_kinds (0 : Int32).toNatClampNeg (0 : Int32).toNatClampNeg (12 : Int32).toNatClampNeg) (va_cpy v_p1_cells v_cells (0 : Int32).toNatClampNeg (0 : Int32).toNatClampNeg (12 : Int32).toNatClampNeg) v_owners v_purses v_p1_number v_p1_burnt v_p1_kinds v_p1_cells v_p1_owners v_p1_purses)) X hV hl.1 gw_602 7 2 rfl rfl kcp_0_0_12_12_12 rfl rfl rfl d_Fa_become_27 (fun H locs hV => ?_)
  refine lv_aload_n hx hb d_Fa_become_30 rfl (lv_at hl 1 rfl) ?_
  refine k_get X hV 5 0 2 rfl rfl rfl gw_83 rfl rfl d_Fa_become_31 ?_
  refine lv_iconst (v := 0) hx hb d_Fa_become_34 ic_0 ?_
  refine lv_aload_n hx hb d_Fa_become_35 rfl (lv_at hl 0 rfl) ?_
  refine k_get X hV 0 0 2 rfl rfl rfl gw_83 rfl rfl d_Fa_become_36 ?_
  refine lv_iconst (v := 0) hx hb d_Fa_become_39 ic_0 ?_
  refine lv_bipush (v := 12) hx hb d_Fa_become_40 bp_12 ?_
  refine k_copyi (ws' := (wd_Fa_become D h h_kinds h_cells h_owners h_purses h_p1 h_p1_kinds h_p1_cells h_p1_owners h_p1_purses v_number v_burnt (va_cpy v_p1_kinds v_kinds (0 : Int32).toNatClampNeg (0 : Int32).toNatClampNeg (12 : Int32).toNatClampNeg) (va_cpy v_p1_cells v_cells (0 : Int32).toNatClampNeg (0 : Int32).toNatClampNeg (12 : Int32).toNatClampNeg) (va_cpy v_p1_owners v_owners (0 : Int32).toNatClampNeg (0 : Int32).toNatClampNeg (12 : Int32).toNatClampNeg) v_purses v_p1_number v_p1_burnt v_p1_kinds v_p1_cells v_p1_owners v_p1_purses)) X hV hl.1 gw_602 8 3 rfl rfl kcp_0_0_12_12_12 rfl rfl rfl d_Fa_become_42 (fun H locs hV => ?_)
  refine lv_aload_n hx hb d_Fa_become_45 rfl (lv_at hl 1 rfl) ?_
  refine k_get X hV 5 0 3 rfl rfl rfl gw_85 rfl rfl d_Fa_become_46 ?_
  refine lv_iconst (v := 0) hx hb d_Fa_become_49 ic_0 ?_
  refine lv_aload_n hx hb d_Fa_become_50 rfl (lv_at hl 0 rfl) ?_
  refine k_get X hV 0 0 3 rfl rfl rfl gw_85 rfl rfl d_Fa_become_51 ?_
  refine lv_iconst (v := 0) hx hb d_Fa_become_54 ic_0 ?_
  refine lv_bipush (v := 12) hx hb d_Fa_become_55 bp_12 ?_
  refine k_copyi (ws' := (wd_Fa_become D h h_kinds h_cells h_owners h_purses h_p1 h_p1_kinds h_p1_cells h_p1_owners h_p1_purses v_number v_burnt (va_cpy v_p1_kinds v_kinds (0 : Int32).toNatClampNeg (0 : Int32).toNatClampNeg (12 : Int32).toNatClampNeg) (va_cpy v_p1_cells v_cells (0 : Int32).toNatClampNeg (0 : Int32).toNatClampNeg (12 : Int32).toNatClampNeg) (va_cpy v_p1_owners v_owners (0 : Int32).toNatClampNeg (0 : Int32).toNatClampNeg (12 : Int32).toNatClampNeg) (va_cpy v_p1_purses v_purses (0 : Int32).toNatClampNeg (0 : Int32).toNatClampNeg (12 : Int32).toNatClampNeg) v_p1_number v_p1_burnt v_p1_kinds v_p1_cells v_p1_owners v_p1_purses)) X hV hl.1 gw_602 9 4 rfl rfl kcp_0_0_12_12_12 rfl rfl rfl d_Fa_become_57 (fun H locs hV => ?_)
  refine lv_aload_n hx hb d_Fa_become_60 rfl (lv_at hl 0 rfl) ?_
  refine lv_aload_n hx hb d_Fa_become_61 rfl (lv_at hl 1 rfl) ?_
  refine k_get X hV 5 0 4 rfl rfl rfl gw_87 rfl rfl d_Fa_become_62 ?_
  refine k_putv (ty := .int) (ws' := (wd_Fa_become D h h_kinds h_cells h_owners h_purses h_p1 h_p1_kinds h_p1_cells h_p1_owners h_p1_purses v_p1_number v_burnt (va_cpy v_p1_kinds v_kinds (0 : Int32).toNatClampNeg (0 : Int32).toNatClampNeg (12 : Int32).toNatClampNeg) (va_cpy v_p1_cells v_cells (0 : Int32).toNatClampNeg (0 : Int32).toNatClampNeg (12 : Int32).toNatClampNeg) (va_cpy v_p1_owners v_owners (0 : Int32).toNatClampNeg (0 : Int32).toNatClampNeg (12 : Int32).toNatClampNeg) (va_cpy v_p1_purses v_purses (0 : Int32).toNatClampNeg (0 : Int32).toNatClampNeg (12 : Int32).toNatClampNeg) v_p1_number v_p1_burnt v_p1_kinds v_p1_cells v_p1_owners v_p1_purses)) X hV 0 0 4 rfl rfl rfl gw_87 rfl rfl rfl rfl rfl rfl rfl d_Fa_become_65 (fun H locs hV => ?_)
  refine lv_aload_n hx hb d_Fa_become_68 rfl (lv_at hl 0 rfl) ?_
  refine lv_aload_n hx hb d_Fa_become_69 rfl (lv_at hl 1 rfl) ?_
  refine k_get X hV 5 0 5 rfl rfl rfl gw_89 rfl rfl d_Fa_become_70 ?_
  refine k_putv (ty := .int) (ws' := (wd_Fa_become D h h_kinds h_cells h_owners h_purses h_p1 h_p1_kinds h_p1_cells h_p1_owners h_p1_purses v_p1_number v_p1_burnt (va_cpy v_p1_kinds v_kinds (0 : Int32).toNatClampNeg (0 : Int32).toNatClampNeg (12 : Int32).toNatClampNeg) (va_cpy v_p1_cells v_cells (0 : Int32).toNatClampNeg (0 : Int32).toNatClampNeg (12 : Int32).toNatClampNeg) (va_cpy v_p1_owners v_owners (0 : Int32).toNatClampNeg (0 : Int32).toNatClampNeg (12 : Int32).toNatClampNeg) (va_cpy v_p1_purses v_purses (0 : Int32).toNatClampNeg (0 : Int32).toNatClampNeg (12 : Int32).toNatClampNeg) v_p1_number v_p1_burnt v_p1_kinds v_p1_cells v_p1_owners v_p1_purses)) X hV 0 0 5 rfl rfl rfl gw_89 rfl rfl rfl rfl rfl rfl rfl d_Fa_become_73 (fun H locs hV => ?_)
  have e_ := Option.some.inj hf
  subst e_
  exact k_vret X rfl hV d_Fa_become_76
set_option maxHeartbeats 2000000 in
set_option maxRecDepth 20000 in
theorem c_Fa_become {l : Launch} (D : kD) (h : Nat) (h_kinds : Nat) (h_cells : Nat) (h_owners : Nat) (h_purses : Nat) (h_p1 : Nat) (h_p1_kinds : Nat) (h_p1_cells : Nat) (h_p1_owners : Nat) (h_p1_purses : Nat) (v_number : Int32) (v_burnt : Int32) (v_kinds : Nat → Int32) (v_cells : Nat → Int32) (v_owners : Nat → Int32) (v_purses : Nat → Int32) (v_p1_number : Int32) (v_p1_burnt : Int32) (v_p1_kinds : Nat → Int32) (v_p1_cells : Nat → Int32) (v_p1_owners : Nat → Int32) (v_p1_purses : Nat → Int32) {out : Int32 × Int32 × (Nat → Int32) × (Nat → Int32) × (Nat → Int32) × (Nat → Int32)} (hf : f_Fa_become v_number v_burnt v_kinds v_cells v_owners v_purses v_p1_number v_p1_burnt v_p1_kinds v_p1_cells v_p1_owners v_p1_purses = some out) : kMv l D y_Fa_become b_Fa_become 2 none { frames := 1, cells := 0, slots := 0, locals := 26 } [.ref h, .ref h_p1] (wd_Fa_become D h h_kinds h_cells h_owners h_purses h_p1 h_p1_kinds h_p1_cells h_p1_owners h_p1_purses v_number v_burnt v_kinds v_cells v_owners v_purses v_p1_number v_p1_burnt v_p1_kinds v_p1_cells v_p1_owners v_p1_purses) (wd_Fa_become D h h_kinds h_cells h_owners h_purses h_p1 h_p1_kinds h_p1_cells h_p1_owners h_p1_purses out.1 out.2.1 out.2.2.1 out.2.2.2.1 out.2.2.2.2.1 out.2.2.2.2.2 v_p1_number v_p1_burnt v_p1_kinds v_p1_cells v_p1_owners v_p1_purses) :=
  kMv_of (own := "MountainFarms$Farms") (plainFor_of_name (by decide)) rfl rfl (fun p e s m args below meth c ls X hV hl => t_Fa_become X hf hV hl)
set_option maxHeartbeats 2000000 in
set_option maxRecDepth 20000 in
theorem t_Mo_become {l : Launch} {p : Program} {e : Env} {s : State} {m : MethodId} {args : Array Value} {below : List Frame} {meth : Method} {c : Code} {D : kD} {wc0 : va_W} {h : Nat} {h_chances : Nat} {h_shows : Nat} {h_diary : Nat} {h_p1 : Nat} {h_p1_chances : Nat} {h_p1_shows : Nat} {h_p1_diary : Nat} {v_seen : Int32} {v_state : Int32} {v_z : Int32} {v_chances : Nat → Int32} {v_shows : Nat → Int32} {v_diary : Nat → Int32} {v_p1_seen : Int32} {v_p1_state : Int32} {v_p1_z : Int32} {v_p1_chances : Nat → Int32} {v_p1_shows : Nat → Int32} {v_p1_diary : Nat → Int32} {out : Int32 × Int32 × Int32 × (Nat → Int32) × (Nat → Int32) × (Nat → Int32)} (X : kX p m meth c s args D (va_A wc0 s.heap.size) b_Mo_become "MountainFarms$Mountain" 2 none) (hf : f_Mo_become v_seen v_state v_z v_chances v_shows v_diary v_p1_seen v_p1_state v_p1_z v_p1_chances v_p1_shows v_p1_diary = some out) {H : Heap} {locs : List Loc} (hV : kV D (va_A wc0 s.heap.size) s (wd_Mo_become D h h_chances h_shows h_diary h_p1 h_p1_chances h_p1_shows h_p1_diary v_seen v_state v_z v_chances v_shows v_diary v_p1_seen v_p1_state v_p1_z v_p1_chances v_p1_shows v_p1_diary) H locs) {ls : Array Slot} (hl : lv_has ls 2 [(0, .ref h), (1, .ref h_p1)]) : W p l e { frames := 1, cells := 0, slots := 0, locals := 26 } s m args below meth c H locs 0 0 (MQ below (kQv D wc0 (wd_Mo_become D h h_chances h_shows h_diary h_p1 h_p1_chances h_p1_shows h_p1_diary out.1 out.2.1 out.2.2.1 out.2.2.2.1 out.2.2.2.2.1 out.2.2.2.2.2 v_p1_seen v_p1_state v_p1_z v_p1_chances v_p1_shows v_p1_diary) s.heap.size) args s 0 0 (va_A wc0 s.heap.size)) (F0 m 0 ls []) := by
  unfold f_Mo_become at hf
  obtain ⟨hx, hb, -⟩ := id X
  refine lv_aload_n hx hb d_Mo_become_0 rfl (lv_at hl 1 rfl) ?_
  refine k_get X hV 4 2 0 rfl rfl rfl gw_111 rfl rfl d_Mo_become_1 ?_
  refine lv_iconst (v := 0) hx hb d_Mo_become_4 ic_0 ?_
  refine lv_aload_n hx hb d_Mo_become_5 rfl (lv_at hl 0 rfl) ?_
  refine k_get X hV 0 2 0 rfl rfl rfl gw_111 rfl rfl d_Mo_become_6 ?_
  refine lv_iconst (v := 0) hx hb d_Mo_become_9 ic_0 ?_
  refine lv_bipush (v := 16) hx hb d_Mo_become_10 bp_16 ?_
  refine k_copyi (ws' := (wd_Mo_become D h h_chances h_shows h_diary h_p1 h_p1_chances h_p1_shows h_p1_diary v_seen v_state v_z (va_cpy v_p1_chances v_chances (0 : Int32).toNatClampNeg (0 : Int32).toNatClampNeg (16 : Int32).toNatClampNeg) v_shows v_diary v_p1_seen v_p1_state v_p1_z v_p1_chances v_p1_shows v_p1_diary)) X hV hl.1 gw_607 5 1 rfl rfl kcp_0_0_16_16_16 rfl rfl rfl d_Mo_become_12 (fun H locs hV => ?_)
  refine lv_aload_n hx hb d_Mo_become_15 rfl (lv_at hl 1 rfl) ?_
  refine k_get X hV 4 2 1 rfl rfl rfl gw_112 rfl rfl d_Mo_become_16 ?_
  refine lv_iconst (v := 0) hx hb d_Mo_become_19 ic_0 ?_
  refine lv_aload_n hx hb d_Mo_become_20 rfl (lv_at hl 0 rfl) ?_
  refine k_get X hV 0 2 1 rfl rfl rfl gw_112 rfl rfl d_Mo_become_21 ?_
  refine lv_iconst (v := 0) hx hb d_Mo_become_24 ic_0 ?_
  refine lv_bipush (v := 16) hx hb d_Mo_become_25 bp_16 ?_
  refine k_copyi (ws' := (wd_Mo_become D h h_chances h_shows h_diary h_p1 h_p1_chances h_p1_shows h_p1_diary v_seen v_state v_z (va_cpy v_p1_chances v_chances (0 : Int32).toNatClampNeg (0 : Int32).toNatClampNeg (16 : Int32).toNatClampNeg) (va_cpy v_p1_shows v_shows (0 : Int32).toNatClampNeg (0 : Int32).toNatClampNeg (16 : Int32).toNatClampNeg) v_diary v_p1_seen v_p1_state v_p1_z v_p1_chances v_p1_shows v_p1_diary)) X hV hl.1 gw_607 6 2 rfl rfl kcp_0_0_16_16_16 rfl rfl rfl d_Mo_become_27 (fun H locs hV => ?_)
  refine lv_aload_n hx hb d_Mo_become_30 rfl (lv_at hl 1 rfl) ?_
  refine k_get X hV 4 2 2 rfl rfl rfl gw_113 rfl rfl d_Mo_become_31 ?_
  refine lv_iconst (v := 0) hx hb d_Mo_become_34 ic_0 ?_
  refine lv_aload_n hx hb d_Mo_become_35 rfl (lv_at hl 0 rfl) ?_
  refine k_get X hV 0 2 2 rfl rfl rfl gw_113 rfl rfl d_Mo_become_36 ?_
  refine lv_iconst (v := 0) hx hb d_Mo_become_39 ic_0 ?_
  refine lv_bipush (v := 6) hx hb d_Mo_become_40 bp_6 ?_
  refine k_copyi (ws' := (wd_Mo_become D h h_chances h_shows h_diary h_p1 h_p1_chances h_p1_shows h_p1_diary v_seen v_state v_z (va_cpy v_p1_chances v_chances (0 : Int32).toNatClampNeg (0 : Int32).toNatClampNeg (16 : Int32).toNatClampNeg) (va_cpy v_p1_shows v_shows (0 : Int32).toNatClampNeg (0 : Int32).toNatClampNeg (16 : Int32).toNatClampNeg) (va_cpy v_p1_diary v_diary (0 : Int32).toNatClampNeg (0 : Int32).toNatClampNeg (6 : Int32).toNatClampNeg) v_p1_seen v_p1_state v_p1_z v_p1_chances v_p1_shows v_p1_diary)) X hV hl.1 gw_607 7 3 rfl rfl kcp_0_0_6_6_6 rfl rfl rfl d_Mo_become_42 (fun H locs hV => ?_)
  refine lv_aload_n hx hb d_Mo_become_45 rfl (lv_at hl 0 rfl) ?_
  refine lv_aload_n hx hb d_Mo_become_46 rfl (lv_at hl 1 rfl) ?_
  refine k_get X hV 4 2 3 rfl rfl rfl gw_115 rfl rfl d_Mo_become_47 ?_
  refine k_putv (ty := .int) (ws' := (wd_Mo_become D h h_chances h_shows h_diary h_p1 h_p1_chances h_p1_shows h_p1_diary v_p1_seen v_state v_z (va_cpy v_p1_chances v_chances (0 : Int32).toNatClampNeg (0 : Int32).toNatClampNeg (16 : Int32).toNatClampNeg) (va_cpy v_p1_shows v_shows (0 : Int32).toNatClampNeg (0 : Int32).toNatClampNeg (16 : Int32).toNatClampNeg) (va_cpy v_p1_diary v_diary (0 : Int32).toNatClampNeg (0 : Int32).toNatClampNeg (6 : Int32).toNatClampNeg) v_p1_seen v_p1_state v_p1_z v_p1_chances v_p1_shows v_p1_diary)) X hV 0 2 3 rfl rfl rfl gw_115 rfl rfl rfl rfl rfl rfl rfl d_Mo_become_50 (fun H locs hV => ?_)
  refine lv_aload_n hx hb d_Mo_become_53 rfl (lv_at hl 0 rfl) ?_
  refine lv_aload_n hx hb d_Mo_become_54 rfl (lv_at hl 1 rfl) ?_
  refine k_get X hV 4 2 4 rfl rfl rfl gw_119 rfl rfl d_Mo_become_55 ?_
  refine k_putv (ty := .int) (ws' := (wd_Mo_become D h h_chances h_shows h_diary h_p1 h_p1_chances h_p1_shows h_p1_diary v_p1_seen v_p1_state v_z (va_cpy v_p1_chances v_chances (0 : Int32).toNatClampNeg (0 : Int32).toNatClampNeg (16 : Int32).toNatClampNeg) (va_cpy v_p1_shows v_shows (0 : Int32).toNatClampNeg (0 : Int32).toNatClampNeg (16 : Int32).toNatClampNeg) (va_cpy v_p1_diary v_diary (0 : Int32).toNatClampNeg (0 : Int32).toNatClampNeg (6 : Int32).toNatClampNeg) v_p1_seen v_p1_state v_p1_z v_p1_chances v_p1_shows v_p1_diary)) X hV 0 2 4 rfl rfl rfl gw_119 rfl rfl rfl rfl rfl rfl rfl d_Mo_become_58 (fun H locs hV => ?_)
  refine lv_aload_n hx hb d_Mo_become_61 rfl (lv_at hl 0 rfl) ?_
  refine lv_aload_n hx hb d_Mo_become_62 rfl (lv_at hl 1 rfl) ?_
  refine k_get X hV 4 2 5 rfl rfl rfl gw_121 rfl rfl d_Mo_become_63 ?_
  refine k_putv (ty := .int) (ws' := (wd_Mo_become D h h_chances h_shows h_diary h_p1 h_p1_chances h_p1_shows h_p1_diary v_p1_seen v_p1_state v_p1_z (va_cpy v_p1_chances v_chances (0 : Int32).toNatClampNeg (0 : Int32).toNatClampNeg (16 : Int32).toNatClampNeg) (va_cpy v_p1_shows v_shows (0 : Int32).toNatClampNeg (0 : Int32).toNatClampNeg (16 : Int32).toNatClampNeg) (va_cpy v_p1_diary v_diary (0 : Int32).toNatClampNeg (0 : Int32).toNatClampNeg (6 : Int32).toNatClampNeg) v_p1_seen v_p1_state v_p1_z v_p1_chances v_p1_shows v_p1_diary)) X hV 0 2 5 rfl rfl rfl gw_121 rfl rfl rfl rfl rfl rfl rfl d_Mo_become_66 (fun H locs hV => ?_)
  have e_ := Option.some.inj hf
  subst e_
  exact k_vret X rfl hV d_Mo_become_69
set_option maxHeartbeats 2000000 in
set_option maxRecDepth 20000 in
theorem c_Mo_become {l : Launch} (D : kD) (h : Nat) (h_chances : Nat) (h_shows : Nat) (h_diary : Nat) (h_p1 : Nat) (h_p1_chances : Nat) (h_p1_shows : Nat) (h_p1_diary : Nat) (v_seen : Int32) (v_state : Int32) (v_z : Int32) (v_chances : Nat → Int32) (v_shows : Nat → Int32) (v_diary : Nat → Int32) (v_p1_seen : Int32) (v_p1_state : Int32) (v_p1_z : Int32) (v_p1_chances : Nat → Int32) (v_p1_shows : Nat → Int32) (v_p1_diary : Nat → Int32) {out : Int32 × Int32 × Int32 × (Nat → Int32) × (Nat → Int32) × (Nat → Int32)} (hf : f_Mo_become v_seen v_state v_z v_chances v_shows v_diary v_p1_seen v_p1_state v_p1_z v_p1_chances v_p1_shows v_p1_diary = some out) : kMv l D y_Mo_become b_Mo_become 2 none { frames := 1, cells := 0, slots := 0, locals := 26 } [.ref h, .ref h_p1] (wd_Mo_become D h h_chances h_shows h_diary h_p1 h_p1_chances h_p1_shows h_p1_diary v_seen v_state v_z v_chances v_shows v_diary v_p1_seen v_p1_state v_p1_z v_p1_chances v_p1_shows v_p1_diary) (wd_Mo_become D h h_chances h_shows h_diary h_p1 h_p1_chances h_p1_shows h_p1_diary out.1 out.2.1 out.2.2.1 out.2.2.2.1 out.2.2.2.2.1 out.2.2.2.2.2 v_p1_seen v_p1_state v_p1_z v_p1_chances v_p1_shows v_p1_diary) :=
  kMv_of (own := "MountainFarms$Mountain") (plainFor_of_name (by decide)) rfl rfl (fun p e s m args below meth c ls X hV hl => t_Mo_become X hf hV hl)
set_option maxHeartbeats 2000000 in
set_option maxRecDepth 20000 in
theorem t_Sl_become {l : Launch} {p : Program} {e : Env} {s : State} {m : MethodId} {args : Array Value} {below : List Frame} {meth : Method} {c : Code} {D : kD} {wc0 : va_W} {h : Nat} {h_ground : Nat} {h_farms : Nat} {h_mountain : Nat} {h_ground_heights : Nat} {h_ground_ages : Nat} {h_ground_walls : Nat} {h_farms_kinds : Nat} {h_farms_cells : Nat} {h_farms_owners : Nat} {h_farms_purses : Nat} {h_mountain_chances : Nat} {h_mountain_shows : Nat} {h_mountain_diary : Nat} {h_p1 : Nat} {h_p1_ground : Nat} {h_p1_farms : Nat} {h_p1_mountain : Nat} {h_p1_ground_heights : Nat} {h_p1_ground_ages : Nat} {h_p1_ground_walls : Nat} {h_p1_farms_kinds : Nat} {h_p1_farms_cells : Nat} {h_p1_farms_owners : Nat} {h_p1_farms_purses : Nat} {h_p1_mountain_chances : Nat} {h_p1_mountain_shows : Nat} {h_p1_mountain_diary : Nat} {v_month : Int32} {v_volume : Int32} {v_outs : Int32} {v_fed : Int32} {v_fedOuts : Int32} {v_arePigsTold : Int32} {v_ground_vent : Int32} {v_ground_ash : Int32} {v_ground_heights : Nat → Int32} {v_ground_ages : Nat → Int32} {v_ground_walls : Nat → Int32} {v_farms_number : Int32} {v_farms_burnt : Int32} {v_farms_kinds : Nat → Int32} {v_farms_cells : Nat → Int32} {v_farms_owners : Nat → Int32} {v_farms_purses : Nat → Int32} {v_mountain_seen : Int32} {v_mountain_state : Int32} {v_mountain_z : Int32} {v_mountain_chances : Nat → Int32} {v_mountain_shows : Nat → Int32} {v_mountain_diary : Nat → Int32} {v_p1_month : Int32} {v_p1_volume : Int32} {v_p1_outs : Int32} {v_p1_fed : Int32} {v_p1_fedOuts : Int32} {v_p1_arePigsTold : Int32} {v_p1_ground_vent : Int32} {v_p1_ground_ash : Int32} {v_p1_ground_heights : Nat → Int32} {v_p1_ground_ages : Nat → Int32} {v_p1_ground_walls : Nat → Int32} {v_p1_farms_number : Int32} {v_p1_farms_burnt : Int32} {v_p1_farms_kinds : Nat → Int32} {v_p1_farms_cells : Nat → Int32} {v_p1_farms_owners : Nat → Int32} {v_p1_farms_purses : Nat → Int32} {v_p1_mountain_seen : Int32} {v_p1_mountain_state : Int32} {v_p1_mountain_z : Int32} {v_p1_mountain_chances : Nat → Int32} {v_p1_mountain_shows : Nat → Int32} {v_p1_mountain_diary : Nat → Int32} {out : Int32 × Int32 × Int32 × Int32 × Int32 × Int32 × Int32 × Int32 × (Nat → Int32) × (Nat → Int32) × (Nat → Int32) × Int32 × Int32 × (Nat → Int32) × (Nat → Int32) × (Nat → Int32) × (Nat → Int32) × Int32 × Int32 × Int32 × (Nat → Int32) × (Nat → Int32) × (Nat → Int32)} (X : kX p m meth c s args D (va_A wc0 s.heap.size) b_Sl_become "MountainFarms$Slope" 2 none) (hf : f_Sl_become v_month v_volume v_outs v_fed v_fedOuts v_arePigsTold v_ground_vent v_ground_ash v_ground_heights v_ground_ages v_ground_walls v_farms_number v_farms_burnt v_farms_kinds v_farms_cells v_farms_owners v_farms_purses v_mountain_seen v_mountain_state v_mountain_z v_mountain_chances v_mountain_shows v_mountain_diary v_p1_month v_p1_volume v_p1_outs v_p1_fed v_p1_fedOuts v_p1_arePigsTold v_p1_ground_vent v_p1_ground_ash v_p1_ground_heights v_p1_ground_ages v_p1_ground_walls v_p1_farms_number v_p1_farms_burnt v_p1_farms_kinds v_p1_farms_cells v_p1_farms_owners v_p1_farms_purses v_p1_mountain_seen v_p1_mountain_state v_p1_mountain_z v_p1_mountain_chances v_p1_mountain_shows v_p1_mountain_diary = some out) {H : Heap} {locs : List Loc} (hV : kV D (va_A wc0 s.heap.size) s (wd_Sl_become D h h_ground h_farms h_mountain h_ground_heights h_ground_ages h_ground_walls h_farms_kinds h_farms_cells h_farms_owners h_farms_purses h_mountain_chances h_mountain_shows h_mountain_diary h_p1 h_p1_ground h_p1_farms h_p1_mountain h_p1_ground_heights h_p1_ground_ages h_p1_ground_walls h_p1_farms_kinds h_p1_farms_cells h_p1_farms_owners h_p1_farms_purses h_p1_mountain_chances h_p1_mountain_shows h_p1_mountain_diary v_month v_volume v_outs v_fed v_fedOuts v_arePigsTold v_ground_vent v_ground_ash v_ground_heights v_ground_ages v_ground_walls v_farms_number v_farms_burnt v_farms_kinds v_farms_cells v_farms_owners v_farms_purses v_mountain_seen v_mountain_state v_mountain_z v_mountain_chances v_mountain_shows v_mountain_diary v_p1_month v_p1_volume v_p1_outs v_p1_fed v_p1_fedOuts v_p1_arePigsTold v_p1_ground_vent v_p1_ground_ash v_p1_ground_heights v_p1_ground_ages v_p1_ground_walls v_p1_farms_number v_p1_farms_burnt v_p1_farms_kinds v_p1_farms_cells v_p1_farms_owners v_p1_farms_purses v_p1_mountain_seen v_p1_mountain_state v_p1_mountain_z v_p1_mountain_chances v_p1_mountain_shows v_p1_mountain_diary) H locs) {ls : Array Slot} (hl : lv_has ls 2 [(0, .ref h), (1, .ref h_p1)]) : W p l e { frames := 2, cells := 0, slots := 0, locals := 47 } s m args below meth c H locs 0 0 (MQ below (kQv D wc0 (wd_Sl_become D h h_ground h_farms h_mountain h_ground_heights h_ground_ages h_ground_walls h_farms_kinds h_farms_cells h_farms_owners h_farms_purses h_mountain_chances h_mountain_shows h_mountain_diary h_p1 h_p1_ground h_p1_farms h_p1_mountain h_p1_ground_heights h_p1_ground_ages h_p1_ground_walls h_p1_farms_kinds h_p1_farms_cells h_p1_farms_owners h_p1_farms_purses h_p1_mountain_chances h_p1_mountain_shows h_p1_mountain_diary out.1 out.2.1 out.2.2.1 out.2.2.2.1 out.2.2.2.2.1 out.2.2.2.2.2.1 out.2.2.2.2.2.2.1 out.2.2.2.2.2.2.2.1 out.2.2.2.2.2.2.2.2.1 out.2.2.2.2.2.2.2.2.2.1 out.2.2.2.2.2.2.2.2.2.2.1 out.2.2.2.2.2.2.2.2.2.2.2.1 out.2.2.2.2.2.2.2.2.2.2.2.2.1 out.2.2.2.2.2.2.2.2.2.2.2.2.2.1 out.2.2.2.2.2.2.2.2.2.2.2.2.2.2.1 out.2.2.2.2.2.2.2.2.2.2.2.2.2.2.2.1 out.2.2.2.2.2.2.2.2.2.2.2.2.2.2.2.2.1 out.2.2.2.2.2.2.2.2.2.2.2.2.2.2.2.2.2.1 out.2.2.2.2.2.2.2.2.2.2.2.2.2.2.2.2.2.2.1 out.2.2.2.2.2.2.2.2.2.2.2.2.2.2.2.2.2.2.2.1 out.2.2.2.2.2.2.2.2.2.2.2.2.2.2.2.2.2.2.2.2.1 out.2.2.2.2.2.2.2.2.2.2.2.2.2.2.2.2.2.2.2.2.2.1 out.2.2.2.2.2.2.2.2.2.2.2.2.2.2.2.2.2.2.2.2.2.2 v_p1_month v_p1_volume v_p1_outs v_p1_fed v_p1_fedOuts v_p1_arePigsTold v_p1_ground_vent v_p1_ground_ash v_p1_ground_heights v_p1_ground_ages v_p1_ground_walls v_p1_farms_number v_p1_farms_burnt v_p1_farms_kinds v_p1_farms_cells v_p1_farms_owners v_p1_farms_purses v_p1_mountain_seen v_p1_mountain_state v_p1_mountain_z v_p1_mountain_chances v_p1_mountain_shows v_p1_mountain_diary) s.heap.size) args s 0 0 (va_A wc0 s.heap.size)) (F0 m 0 ls []) := by
  unfold f_Sl_become at hf
  obtain ⟨hx, hb, -⟩ := id X
  refine lv_aload_n hx hb d_Sl_become_0 rfl (lv_at hl 0 rfl) ?_
  refine k_get X hV 0 5 0 rfl rfl rfl gw_136 rfl rfl d_Sl_become_1 ?_
  refine lv_aload_n hx hb d_Sl_become_4 rfl (lv_at hl 1 rfl) ?_
  refine k_get X hV 14 5 0 rfl rfl rfl gw_136 rfl rfl d_Sl_become_5 ?_
  obtain ⟨v_ground_vent_22, v_ground_ash_23, v_ground_heights_24, v_ground_ages_25, v_ground_walls_26, hc_27, hf⟩ := kb5_some hf
  refine k_cvv (w1 := (wd_Gr_become D h_ground h_ground_heights h_ground_ages h_ground_walls h_p1_ground h_p1_ground_heights h_p1_ground_ages h_p1_ground_walls v_ground_vent_22 v_ground_ash_23 v_ground_heights_24 v_ground_ages_25 v_ground_walls_26 v_p1_ground_vent v_p1_ground_ash v_p1_ground_heights v_p1_ground_ages v_p1_ground_walls)) (ws' := (wd_Sl_become D h h_ground h_farms h_mountain h_ground_heights h_ground_ages h_ground_walls h_farms_kinds h_farms_cells h_farms_owners h_farms_purses h_mountain_chances h_mountain_shows h_mountain_diary h_p1 h_p1_ground h_p1_farms h_p1_mountain h_p1_ground_heights h_p1_ground_ages h_p1_ground_walls h_p1_farms_kinds h_p1_farms_cells h_p1_farms_owners h_p1_farms_purses h_p1_mountain_chances h_p1_mountain_shows h_p1_mountain_diary v_month v_volume v_outs v_fed v_fedOuts v_arePigsTold v_ground_vent_22 v_ground_ash_23 v_ground_heights_24 v_ground_ages_25 v_ground_walls_26 v_farms_number v_farms_burnt v_farms_kinds v_farms_cells v_farms_owners v_farms_purses v_mountain_seen v_mountain_state v_mountain_z v_mountain_chances v_mountain_shows v_mountain_diary v_p1_month v_p1_volume v_p1_outs v_p1_fed v_p1_fedOuts v_p1_arePigsTold v_p1_ground_vent v_p1_ground_ash v_p1_ground_heights v_p1_ground_ages v_p1_ground_walls v_p1_farms_number v_p1_farms_burnt v_p1_farms_kinds v_p1_farms_cells v_p1_farms_owners v_p1_farms_purses v_p1_mountain_seen v_p1_mountain_state v_p1_mountain_z v_p1_mountain_chances v_p1_mountain_shows v_p1_mountain_diary)) X hV hl.1 (c_Gr_become D h_ground h_ground_heights h_ground_ages h_ground_walls h_p1_ground h_p1_ground_heights h_p1_ground_ages h_p1_ground_walls v_ground_vent v_ground_ash v_ground_heights v_ground_ages v_ground_walls v_p1_ground_vent v_p1_ground_ash v_p1_ground_heights v_p1_ground_ages v_p1_ground_walls hc_27) fk_Gr_become gw_597 rfl 1 1 rfl rfl [1, 2, 3, 4, 15, 16, 17, 18] [none, some 0, some 1, some 2, some 3, none, none, none, none, none, none, none, none, none, none, some 4, some 5, some 6, some 7, none, none, none, none, none, none, none, none, none] rfl rfl ⟨rfl, rfl, rfl, rfl, rfl, rfl, rfl, rfl, rfl, rfl, rfl, rfl, rfl, rfl, rfl, rfl, rfl, rfl, rfl, rfl, rfl, rfl, rfl, rfl, rfl, rfl, rfl, rfl, rfl, rfl, rfl, rfl, rfl, rfl, rfl, rfl, rfl, rfl, rfl, rfl, rfl, rfl, rfl, rfl, trivial⟩ rfl rfl rfl d_Sl_become_8 (fun H locs hV => ?_)
  refine lv_aload_n hx hb d_Sl_become_11 rfl (lv_at hl 0 rfl) ?_
  refine k_get X hV 0 5 1 rfl rfl rfl gw_139 rfl rfl d_Sl_become_12 ?_
  refine lv_aload_n hx hb d_Sl_become_15 rfl (lv_at hl 1 rfl) ?_
  refine k_get X hV 14 5 1 rfl rfl rfl gw_139 rfl rfl d_Sl_become_16 ?_
  obtain ⟨v_farms_number_28, v_farms_burnt_29, v_farms_kinds_30, v_farms_cells_31, v_farms_owners_32, v_farms_purses_33, hc_34, hf⟩ := kb6_some hf
  refine k_cvv (w1 := (wd_Fa_become D h_farms h_farms_kinds h_farms_cells h_farms_owners h_farms_purses h_p1_farms h_p1_farms_kinds h_p1_farms_cells h_p1_farms_owners h_p1_farms_purses v_farms_number_28 v_farms_burnt_29 v_farms_kinds_30 v_farms_cells_31 v_farms_owners_32 v_farms_purses_33 v_p1_farms_number v_p1_farms_burnt v_p1_farms_kinds v_p1_farms_cells v_p1_farms_owners v_p1_farms_purses)) (ws' := (wd_Sl_become D h h_ground h_farms h_mountain h_ground_heights h_ground_ages h_ground_walls h_farms_kinds h_farms_cells h_farms_owners h_farms_purses h_mountain_chances h_mountain_shows h_mountain_diary h_p1 h_p1_ground h_p1_farms h_p1_mountain h_p1_ground_heights h_p1_ground_ages h_p1_ground_walls h_p1_farms_kinds h_p1_farms_cells h_p1_farms_owners h_p1_farms_purses h_p1_mountain_chances h_p1_mountain_shows h_p1_mountain_diary v_month v_volume v_outs v_fed v_fedOuts v_arePigsTold v_ground_vent_22 v_ground_ash_23 v_ground_heights_24 v_ground_ages_25 v_ground_walls_26 v_farms_number_28 v_farms_burnt_29 v_farms_kinds_30 v_farms_cells_31 v_farms_owners_32 v_farms_purses_33 v_mountain_seen v_mountain_state v_mountain_z v_mountain_chances v_mountain_shows v_mountain_diary v_p1_month v_p1_volume v_p1_outs v_p1_fed v_p1_fedOuts v_p1_arePigsTold v_p1_ground_vent v_p1_ground_ash v_p1_ground_heights v_p1_ground_ages v_p1_ground_walls v_p1_farms_number v_p1_farms_burnt v_p1_farms_kinds v_p1_farms_cells v_p1_farms_owners v_p1_farms_purses v_p1_mountain_seen v_p1_mountain_state v_p1_mountain_z v_p1_mountain_chances v_p1_mountain_shows v_p1_mountain_diary)) X hV hl.1 (c_Fa_become D h_farms h_farms_kinds h_farms_cells h_farms_owners h_farms_purses h_p1_farms h_p1_farms_kinds h_p1_farms_cells h_p1_farms_owners h_p1_farms_purses v_farms_number v_farms_burnt v_farms_kinds v_farms_cells v_farms_owners v_farms_purses v_p1_farms_number v_p1_farms_burnt v_p1_farms_kinds v_p1_farms_cells v_p1_farms_owners v_p1_farms_purses hc_34) fk_Fa_become gw_598 rfl 5 0 rfl rfl [5, 6, 7, 8, 9, 19, 20, 21, 22, 23] [none, none, none, none, none, some 0, some 1, some 2, some 3, some 4, none, none, none, none, none, none, none, none, none, some 5, some 6, some 7, some 8, some 9, none, none, none, none] rfl rfl ⟨rfl, rfl, rfl, rfl, rfl, rfl, rfl, rfl, rfl, rfl, rfl, rfl, rfl, rfl, rfl, rfl, rfl, rfl, rfl, rfl, rfl, rfl, rfl, rfl, rfl, rfl, rfl, rfl, rfl, rfl, rfl, rfl, rfl, rfl, rfl, rfl, rfl, rfl, rfl, rfl, rfl, rfl, rfl, rfl, rfl, rfl, rfl, rfl, trivial⟩ rfl rfl rfl d_Sl_become_19 (fun H locs hV => ?_)
  refine lv_aload_n hx hb d_Sl_become_22 rfl (lv_at hl 0 rfl) ?_
  refine k_get X hV 0 5 2 rfl rfl rfl gw_142 rfl rfl d_Sl_become_23 ?_
  refine lv_aload_n hx hb d_Sl_become_26 rfl (lv_at hl 1 rfl) ?_
  refine k_get X hV 14 5 2 rfl rfl rfl gw_142 rfl rfl d_Sl_become_27 ?_
  obtain ⟨v_mountain_seen_35, v_mountain_state_36, v_mountain_z_37, v_mountain_chances_38, v_mountain_shows_39, v_mountain_diary_40, hc_41, hf⟩ := kb6_some hf
  refine k_cvv (w1 := (wd_Mo_become D h_mountain h_mountain_chances h_mountain_shows h_mountain_diary h_p1_mountain h_p1_mountain_chances h_p1_mountain_shows h_p1_mountain_diary v_mountain_seen_35 v_mountain_state_36 v_mountain_z_37 v_mountain_chances_38 v_mountain_shows_39 v_mountain_diary_40 v_p1_mountain_seen v_p1_mountain_state v_p1_mountain_z v_p1_mountain_chances v_p1_mountain_shows v_p1_mountain_diary)) (ws' := (wd_Sl_become D h h_ground h_farms h_mountain h_ground_heights h_ground_ages h_ground_walls h_farms_kinds h_farms_cells h_farms_owners h_farms_purses h_mountain_chances h_mountain_shows h_mountain_diary h_p1 h_p1_ground h_p1_farms h_p1_mountain h_p1_ground_heights h_p1_ground_ages h_p1_ground_walls h_p1_farms_kinds h_p1_farms_cells h_p1_farms_owners h_p1_farms_purses h_p1_mountain_chances h_p1_mountain_shows h_p1_mountain_diary v_month v_volume v_outs v_fed v_fedOuts v_arePigsTold v_ground_vent_22 v_ground_ash_23 v_ground_heights_24 v_ground_ages_25 v_ground_walls_26 v_farms_number_28 v_farms_burnt_29 v_farms_kinds_30 v_farms_cells_31 v_farms_owners_32 v_farms_purses_33 v_mountain_seen_35 v_mountain_state_36 v_mountain_z_37 v_mountain_chances_38 v_mountain_shows_39 v_mountain_diary_40 v_p1_month v_p1_volume v_p1_outs v_p1_fed v_p1_fedOuts v_p1_arePigsTold v_p1_ground_vent v_p1_ground_ash v_p1_ground_heights v_p1_ground_ages v_p1_ground_walls v_p1_farms_number v_p1_farms_burnt v_p1_farms_kinds v_p1_farms_cells v_p1_farms_owners v_p1_farms_purses v_p1_mountain_seen v_p1_mountain_state v_p1_mountain_z v_p1_mountain_chances v_p1_mountain_shows v_p1_mountain_diary)) X hV hl.1 (c_Mo_become D h_mountain h_mountain_chances h_mountain_shows h_mountain_diary h_p1_mountain h_p1_mountain_chances h_p1_mountain_shows h_p1_mountain_diary v_mountain_seen v_mountain_state v_mountain_z v_mountain_chances v_mountain_shows v_mountain_diary v_p1_mountain_seen v_p1_mountain_state v_p1_mountain_z v_p1_mountain_chances v_p1_mountain_shows v_p1_mountain_diary hc_41) fk_Mo_become gw_603 rfl 10 2 rfl rfl [10, 11, 12, 13, 24, 25, 26, 27] [none, none, none, none, none, none, none, none, none, none, some 0, some 1, some 2, some 3, none, none, none, none, none, none, none, none, none, none, some 4, some 5, some 6, some 7] rfl rfl ⟨rfl, rfl, rfl, rfl, rfl, rfl, rfl, rfl, rfl, rfl, rfl, rfl, rfl, rfl, rfl, rfl, rfl, rfl, rfl, rfl, rfl, rfl, rfl, rfl, rfl, rfl, rfl, rfl, rfl, rfl, rfl, rfl, rfl, rfl, rfl, rfl, rfl, rfl, rfl, rfl, rfl, rfl, rfl, rfl, trivial⟩ rfl rfl rfl d_Sl_become_30 (fun H locs hV => ?_)
  refine lv_aload_n hx hb d_Sl_become_33 rfl (lv_at hl 0 rfl) ?_
  refine lv_aload_n hx hb d_Sl_become_34 rfl (lv_at hl 1 rfl) ?_
  refine k_get X hV 14 5 3 rfl rfl rfl gw_145 rfl rfl d_Sl_become_35 ?_
  refine k_putv (ty := .int) (ws' := (wd_Sl_become D h h_ground h_farms h_mountain h_ground_heights h_ground_ages h_ground_walls h_farms_kinds h_farms_cells h_farms_owners h_farms_purses h_mountain_chances h_mountain_shows h_mountain_diary h_p1 h_p1_ground h_p1_farms h_p1_mountain h_p1_ground_heights h_p1_ground_ages h_p1_ground_walls h_p1_farms_kinds h_p1_farms_cells h_p1_farms_owners h_p1_farms_purses h_p1_mountain_chances h_p1_mountain_shows h_p1_mountain_diary v_p1_month v_volume v_outs v_fed v_fedOuts v_arePigsTold v_ground_vent_22 v_ground_ash_23 v_ground_heights_24 v_ground_ages_25 v_ground_walls_26 v_farms_number_28 v_farms_burnt_29 v_farms_kinds_30 v_farms_cells_31 v_farms_owners_32 v_farms_purses_33 v_mountain_seen_35 v_mountain_state_36 v_mountain_z_37 v_mountain_chances_38 v_mountain_shows_39 v_mountain_diary_40 v_p1_month v_p1_volume v_p1_outs v_p1_fed v_p1_fedOuts v_p1_arePigsTold v_p1_ground_vent v_p1_ground_ash v_p1_ground_heights v_p1_ground_ages v_p1_ground_walls v_p1_farms_number v_p1_farms_burnt v_p1_farms_kinds v_p1_farms_cells v_p1_farms_owners v_p1_farms_purses v_p1_mountain_seen v_p1_mountain_state v_p1_mountain_z v_p1_mountain_chances v_p1_mountain_shows v_p1_mountain_diary)) X hV 0 5 3 rfl rfl rfl gw_145 rfl rfl rfl rfl rfl rfl rfl d_Sl_become_38 (fun H locs hV => ?_)
  refine lv_aload_n hx hb d_Sl_become_41 rfl (lv_at hl 0 rfl) ?_
  refine lv_aload_n hx hb d_Sl_become_42 rfl (lv_at hl 1 rfl) ?_
  refine k_get X hV 14 5 4 rfl rfl rfl gw_147 rfl rfl d_Sl_become_43 ?_
  refine k_putv (ty := .int) (ws' := (wd_Sl_become D h h_ground h_farms h_mountain h_ground_heights h_ground_ages h_ground_walls h_farms_kinds h_farms_cells h_farms_owners h_farms_purses h_mountain_chances h_mountain_shows h_mountain_diary h_p1 h_p1_ground h_p1_farms h_p1_mountain h_p1_ground_heights h_p1_ground_ages h_p1_ground_walls h_p1_farms_kinds h_p1_farms_cells h_p1_farms_owners h_p1_farms_purses h_p1_mountain_chances h_p1_mountain_shows h_p1_mountain_diary v_p1_month v_p1_volume v_outs v_fed v_fedOuts v_arePigsTold v_ground_vent_22 v_ground_ash_23 v_ground_heights_24 v_ground_ages_25 v_ground_walls_26 v_farms_number_28 v_farms_burnt_29 v_farms_kinds_30 v_farms_cells_31 v_farms_owners_32 v_farms_purses_33 v_mountain_seen_35 v_mountain_state_36 v_mountain_z_37 v_mountain_chances_38 v_mountain_shows_39 v_mountain_diary_40 v_p1_month v_p1_volume v_p1_outs v_p1_fed v_p1_fedOuts v_p1_arePigsTold v_p1_ground_vent v_p1_ground_ash v_p1_ground_heights v_p1_ground_ages v_p1_ground_walls v_p1_farms_number v_p1_farms_burnt v_p1_farms_kinds v_p1_farms_cells v_p1_farms_owners v_p1_farms_purses v_p1_mountain_seen v_p1_mountain_state v_p1_mountain_z v_p1_mountain_chances v_p1_mountain_shows v_p1_mountain_diary)) X hV 0 5 4 rfl rfl rfl gw_147 rfl rfl rfl rfl rfl rfl rfl d_Sl_become_46 (fun H locs hV => ?_)
  refine lv_aload_n hx hb d_Sl_become_49 rfl (lv_at hl 0 rfl) ?_
  refine lv_aload_n hx hb d_Sl_become_50 rfl (lv_at hl 1 rfl) ?_
  refine k_get X hV 14 5 5 rfl rfl rfl gw_149 rfl rfl d_Sl_become_51 ?_
  refine k_putv (ty := .int) (ws' := (wd_Sl_become D h h_ground h_farms h_mountain h_ground_heights h_ground_ages h_ground_walls h_farms_kinds h_farms_cells h_farms_owners h_farms_purses h_mountain_chances h_mountain_shows h_mountain_diary h_p1 h_p1_ground h_p1_farms h_p1_mountain h_p1_ground_heights h_p1_ground_ages h_p1_ground_walls h_p1_farms_kinds h_p1_farms_cells h_p1_farms_owners h_p1_farms_purses h_p1_mountain_chances h_p1_mountain_shows h_p1_mountain_diary v_p1_month v_p1_volume v_p1_outs v_fed v_fedOuts v_arePigsTold v_ground_vent_22 v_ground_ash_23 v_ground_heights_24 v_ground_ages_25 v_ground_walls_26 v_farms_number_28 v_farms_burnt_29 v_farms_kinds_30 v_farms_cells_31 v_farms_owners_32 v_farms_purses_33 v_mountain_seen_35 v_mountain_state_36 v_mountain_z_37 v_mountain_chances_38 v_mountain_shows_39 v_mountain_diary_40 v_p1_month v_p1_volume v_p1_outs v_p1_fed v_p1_fedOuts v_p1_arePigsTold v_p1_ground_vent v_p1_ground_ash v_p1_ground_heights v_p1_ground_ages v_p1_ground_walls v_p1_farms_number v_p1_farms_burnt v_p1_farms_kinds v_p1_farms_cells v_p1_farms_owners v_p1_farms_purses v_p1_mountain_seen v_p1_mountain_state v_p1_mountain_z v_p1_mountain_chances v_p1_mountain_shows v_p1_mountain_diary)) X hV 0 5 5 rfl rfl rfl gw_149 rfl rfl rfl rfl rfl rfl rfl d_Sl_become_54 (fun H locs hV => ?_)
  refine lv_aload_n hx hb d_Sl_become_57 rfl (lv_at hl 0 rfl) ?_
  refine lv_aload_n hx hb d_Sl_become_58 rfl (lv_at hl 1 rfl) ?_
  refine k_get X hV 14 5 6 rfl rfl rfl gw_151 rfl rfl d_Sl_become_59 ?_
  refine k_putv (ty := .int) (ws' := (wd_Sl_become D h h_ground h_farms h_mountain h_ground_heights h_ground_ages h_ground_walls h_farms_kinds h_farms_cells h_farms_owners h_farms_purses h_mountain_chances h_mountain_shows h_mountain_diary h_p1 h_p1_ground h_p1_farms h_p1_mountain h_p1_ground_heights h_p1_ground_ages h_p1_ground_walls h_p1_farms_kinds h_p1_farms_cells h_p1_farms_owners h_p1_farms_purses h_p1_mountain_chances h_p1_mountain_shows h_p1_mountain_diary v_p1_month v_p1_volume v_p1_outs v_p1_fed v_fedOuts v_arePigsTold v_ground_vent_22 v_ground_ash_23 v_ground_heights_24 v_ground_ages_25 v_ground_walls_26 v_farms_number_28 v_farms_burnt_29 v_farms_kinds_30 v_farms_cells_31 v_farms_owners_32 v_farms_purses_33 v_mountain_seen_35 v_mountain_state_36 v_mountain_z_37 v_mountain_chances_38 v_mountain_shows_39 v_mountain_diary_40 v_p1_month v_p1_volume v_p1_outs v_p1_fed v_p1_fedOuts v_p1_arePigsTold v_p1_ground_vent v_p1_ground_ash v_p1_ground_heights v_p1_ground_ages v_p1_ground_walls v_p1_farms_number v_p1_farms_burnt v_p1_farms_kinds v_p1_farms_cells v_p1_farms_owners v_p1_farms_purses v_p1_mountain_seen v_p1_mountain_state v_p1_mountain_z v_p1_mountain_chances v_p1_mountain_shows v_p1_mountain_diary)) X hV 0 5 6 rfl rfl rfl gw_151 rfl rfl rfl rfl rfl rfl rfl d_Sl_become_62 (fun H locs hV => ?_)
  refine lv_aload_n hx hb d_Sl_become_65 rfl (lv_at hl 0 rfl) ?_
  refine lv_aload_n hx hb d_Sl_become_66 rfl (lv_at hl 1 rfl) ?_
  refine k_get X hV 14 5 7 rfl rfl rfl gw_153 rfl rfl d_Sl_become_67 ?_
  refine k_putv (ty := .int) (ws' := (wd_Sl_become D h h_ground h_farms h_mountain h_ground_heights h_ground_ages h_ground_walls h_farms_kinds h_farms_cells h_farms_owners h_farms_purses h_mountain_chances h_mountain_shows h_mountain_diary h_p1 h_p1_ground h_p1_farms h_p1_mountain h_p1_ground_heights h_p1_ground_ages h_p1_ground_walls h_p1_farms_kinds h_p1_farms_cells h_p1_farms_owners h_p1_farms_purses h_p1_mountain_chances h_p1_mountain_shows h_p1_mountain_diary v_p1_month v_p1_volume v_p1_outs v_p1_fed v_p1_fedOuts v_arePigsTold v_ground_vent_22 v_ground_ash_23 v_ground_heights_24 v_ground_ages_25 v_ground_walls_26 v_farms_number_28 v_farms_burnt_29 v_farms_kinds_30 v_farms_cells_31 v_farms_owners_32 v_farms_purses_33 v_mountain_seen_35 v_mountain_state_36 v_mountain_z_37 v_mountain_chances_38 v_mountain_shows_39 v_mountain_diary_40 v_p1_month v_p1_volume v_p1_outs v_p1_fed v_p1_fedOuts v_p1_arePigsTold v_p1_ground_vent v_p1_ground_ash v_p1_ground_heights v_p1_ground_ages v_p1_ground_walls v_p1_farms_number v_p1_farms_burnt v_p1_farms_kinds v_p1_farms_cells v_p1_farms_owners v_p1_farms_purses v_p1_mountain_seen v_p1_mountain_state v_p1_mountain_z v_p1_mountain_chances v_p1_mountain_shows v_p1_mountain_diary)) X hV 0 5 7 rfl rfl rfl gw_153 rfl rfl rfl rfl rfl rfl rfl d_Sl_become_70 (fun H locs hV => ?_)
  refine lv_aload_n hx hb d_Sl_become_73 rfl (lv_at hl 0 rfl) ?_
  refine lv_aload_n hx hb d_Sl_become_74 rfl (lv_at hl 1 rfl) ?_
  refine k_get X hV 14 5 8 rfl rfl rfl gw_155 rfl rfl d_Sl_become_75 ?_
  obtain ⟨h_42, hf⟩ := kchk hf
  refine k_putv (ty := .boolean) (ws' := (wd_Sl_become D h h_ground h_farms h_mountain h_ground_heights h_ground_ages h_ground_walls h_farms_kinds h_farms_cells h_farms_owners h_farms_purses h_mountain_chances h_mountain_shows h_mountain_diary h_p1 h_p1_ground h_p1_farms h_p1_mountain h_p1_ground_heights h_p1_ground_ages h_p1_ground_walls h_p1_farms_kinds h_p1_farms_cells h_p1_farms_owners h_p1_farms_purses h_p1_mountain_chances h_p1_mountain_shows h_p1_mountain_diary v_p1_month v_p1_volume v_p1_outs v_p1_fed v_p1_fedOuts v_p1_arePigsTold v_ground_vent_22 v_ground_ash_23 v_ground_heights_24 v_ground_ages_25 v_ground_walls_26 v_farms_number_28 v_farms_burnt_29 v_farms_kinds_30 v_farms_cells_31 v_farms_owners_32 v_farms_purses_33 v_mountain_seen_35 v_mountain_state_36 v_mountain_z_37 v_mountain_chances_38 v_mountain_shows_39 v_mountain_diary_40 v_p1_month v_p1_volume v_p1_outs v_p1_fed v_p1_fedOuts v_p1_arePigsTold v_p1_ground_vent v_p1_ground_ash v_p1_ground_heights v_p1_ground_ages v_p1_ground_walls v_p1_farms_number v_p1_farms_burnt v_p1_farms_kinds v_p1_farms_cells v_p1_farms_owners v_p1_farms_purses v_p1_mountain_seen v_p1_mountain_state v_p1_mountain_z v_p1_mountain_chances v_p1_mountain_shows v_p1_mountain_diary)) X hV 0 5 8 rfl rfl rfl gw_155 rfl rfl rfl (knarB h_42) (kfitB h_42) rfl rfl d_Sl_become_78 (fun H locs hV => ?_)
  have e_ := Option.some.inj hf
  subst e_
  exact k_vret X rfl hV d_Sl_become_81
set_option maxHeartbeats 2000000 in
set_option maxRecDepth 20000 in
theorem c_Sl_become {l : Launch} (D : kD) (h : Nat) (h_ground : Nat) (h_farms : Nat) (h_mountain : Nat) (h_ground_heights : Nat) (h_ground_ages : Nat) (h_ground_walls : Nat) (h_farms_kinds : Nat) (h_farms_cells : Nat) (h_farms_owners : Nat) (h_farms_purses : Nat) (h_mountain_chances : Nat) (h_mountain_shows : Nat) (h_mountain_diary : Nat) (h_p1 : Nat) (h_p1_ground : Nat) (h_p1_farms : Nat) (h_p1_mountain : Nat) (h_p1_ground_heights : Nat) (h_p1_ground_ages : Nat) (h_p1_ground_walls : Nat) (h_p1_farms_kinds : Nat) (h_p1_farms_cells : Nat) (h_p1_farms_owners : Nat) (h_p1_farms_purses : Nat) (h_p1_mountain_chances : Nat) (h_p1_mountain_shows : Nat) (h_p1_mountain_diary : Nat) (v_month : Int32) (v_volume : Int32) (v_outs : Int32) (v_fed : Int32) (v_fedOuts : Int32) (v_arePigsTold : Int32) (v_ground_vent : Int32) (v_ground_ash : Int32) (v_ground_heights : Nat → Int32) (v_ground_ages : Nat → Int32) (v_ground_walls : Nat → Int32) (v_farms_number : Int32) (v_farms_burnt : Int32) (v_farms_kinds : Nat → Int32) (v_farms_cells : Nat → Int32) (v_farms_owners : Nat → Int32) (v_farms_purses : Nat → Int32) (v_mountain_seen : Int32) (v_mountain_state : Int32) (v_mountain_z : Int32) (v_mountain_chances : Nat → Int32) (v_mountain_shows : Nat → Int32) (v_mountain_diary : Nat → Int32) (v_p1_month : Int32) (v_p1_volume : Int32) (v_p1_outs : Int32) (v_p1_fed : Int32) (v_p1_fedOuts : Int32) (v_p1_arePigsTold : Int32) (v_p1_ground_vent : Int32) (v_p1_ground_ash : Int32) (v_p1_ground_heights : Nat → Int32) (v_p1_ground_ages : Nat → Int32) (v_p1_ground_walls : Nat → Int32) (v_p1_farms_number : Int32) (v_p1_farms_burnt : Int32) (v_p1_farms_kinds : Nat → Int32) (v_p1_farms_cells : Nat → Int32) (v_p1_farms_owners : Nat → Int32) (v_p1_farms_purses : Nat → Int32) (v_p1_mountain_seen : Int32) (v_p1_mountain_state : Int32) (v_p1_mountain_z : Int32) (v_p1_mountain_chances : Nat → Int32) (v_p1_mountain_shows : Nat → Int32) (v_p1_mountain_diary : Nat → Int32) {out : Int32 × Int32 × Int32 × Int32 × Int32 × Int32 × Int32 × Int32 × (Nat → Int32) × (Nat → Int32) × (Nat → Int32) × Int32 × Int32 × (Nat → Int32) × (Nat → Int32) × (Nat → Int32) × (Nat → Int32) × Int32 × Int32 × Int32 × (Nat → Int32) × (Nat → Int32) × (Nat → Int32)} (hf : f_Sl_become v_month v_volume v_outs v_fed v_fedOuts v_arePigsTold v_ground_vent v_ground_ash v_ground_heights v_ground_ages v_ground_walls v_farms_number v_farms_burnt v_farms_kinds v_farms_cells v_farms_owners v_farms_purses v_mountain_seen v_mountain_state v_mountain_z v_mountain_chances v_mountain_shows v_mountain_diary v_p1_month v_p1_volume v_p1_outs v_p1_fed v_p1_fedOuts v_p1_arePigsTold v_p1_ground_vent v_p1_ground_ash v_p1_ground_heights v_p1_ground_ages v_p1_ground_walls v_p1_farms_number v_p1_farms_burnt v_p1_farms_kinds v_p1_farms_cells v_p1_farms_owners v_p1_farms_purses v_p1_mountain_seen v_p1_mountain_state v_p1_mountain_z v_p1_mountain_chances v_p1_mountain_shows v_p1_mountain_diary = some out) : kMv l D y_Sl_become b_Sl_become 2 none { frames := 2, cells := 0, slots := 0, locals := 47 } [.ref h, .ref h_p1] (wd_Sl_become D h h_ground h_farms h_mountain h_ground_heights h_ground_ages h_ground_walls h_farms_kinds h_farms_cells h_farms_owners h_farms_purses h_mountain_chances h_mountain_shows h_mountain_diary h_p1 h_p1_ground h_p1_farms h_p1_mountain h_p1_ground_heights h_p1_ground_ages h_p1_ground_walls h_p1_farms_kinds h_p1_farms_cells h_p1_farms_owners h_p1_farms_purses h_p1_mountain_chances h_p1_mountain_shows h_p1_mountain_diary v_month v_volume v_outs v_fed v_fedOuts v_arePigsTold v_ground_vent v_ground_ash v_ground_heights v_ground_ages v_ground_walls v_farms_number v_farms_burnt v_farms_kinds v_farms_cells v_farms_owners v_farms_purses v_mountain_seen v_mountain_state v_mountain_z v_mountain_chances v_mountain_shows v_mountain_diary v_p1_month v_p1_volume v_p1_outs v_p1_fed v_p1_fedOuts v_p1_arePigsTold v_p1_ground_vent v_p1_ground_ash v_p1_ground_heights v_p1_ground_ages v_p1_ground_walls v_p1_farms_number v_p1_farms_burnt v_p1_farms_kinds v_p1_farms_cells v_p1_farms_owners v_p1_farms_purses v_p1_mountain_seen v_p1_mountain_state v_p1_mountain_z v_p1_mountain_chances v_p1_mountain_shows v_p1_mountain_diary) (wd_Sl_become D h h_ground h_farms h_mountain h_ground_heights h_ground_ages h_ground_walls h_farms_kinds h_farms_cells h_farms_owners h_farms_purses h_mountain_chances h_mountain_shows h_mountain_diary h_p1 h_p1_ground h_p1_farms h_p1_mountain h_p1_ground_heights h_p1_ground_ages h_p1_ground_walls h_p1_farms_kinds h_p1_farms_cells h_p1_farms_owners h_p1_farms_purses h_p1_mountain_chances h_p1_mountain_shows h_p1_mountain_diary out.1 out.2.1 out.2.2.1 out.2.2.2.1 out.2.2.2.2.1 out.2.2.2.2.2.1 out.2.2.2.2.2.2.1 out.2.2.2.2.2.2.2.1 out.2.2.2.2.2.2.2.2.1 out.2.2.2.2.2.2.2.2.2.1 out.2.2.2.2.2.2.2.2.2.2.1 out.2.2.2.2.2.2.2.2.2.2.2.1 out.2.2.2.2.2.2.2.2.2.2.2.2.1 out.2.2.2.2.2.2.2.2.2.2.2.2.2.1 out.2.2.2.2.2.2.2.2.2.2.2.2.2.2.1 out.2.2.2.2.2.2.2.2.2.2.2.2.2.2.2.1 out.2.2.2.2.2.2.2.2.2.2.2.2.2.2.2.2.1 out.2.2.2.2.2.2.2.2.2.2.2.2.2.2.2.2.2.1 out.2.2.2.2.2.2.2.2.2.2.2.2.2.2.2.2.2.2.1 out.2.2.2.2.2.2.2.2.2.2.2.2.2.2.2.2.2.2.2.1 out.2.2.2.2.2.2.2.2.2.2.2.2.2.2.2.2.2.2.2.2.1 out.2.2.2.2.2.2.2.2.2.2.2.2.2.2.2.2.2.2.2.2.2.1 out.2.2.2.2.2.2.2.2.2.2.2.2.2.2.2.2.2.2.2.2.2.2 v_p1_month v_p1_volume v_p1_outs v_p1_fed v_p1_fedOuts v_p1_arePigsTold v_p1_ground_vent v_p1_ground_ash v_p1_ground_heights v_p1_ground_ages v_p1_ground_walls v_p1_farms_number v_p1_farms_burnt v_p1_farms_kinds v_p1_farms_cells v_p1_farms_owners v_p1_farms_purses v_p1_mountain_seen v_p1_mountain_state v_p1_mountain_z v_p1_mountain_chances v_p1_mountain_shows v_p1_mountain_diary) :=
  kMv_of (own := "MountainFarms$Slope") (plainFor_of_name (by decide)) rfl rfl (fun p e s m args below meth c ls X hV hl => t_Sl_become X hf hV hl)
set_option maxHeartbeats 2000000 in
set_option maxRecDepth 20000 in
theorem tb_X_out_1 {l : Launch} {p : Program} {e : Env} {s : State} {m : MethodId} {args : Array Value} {below : List Frame} {meth : Method} {c : Code} {D : kD} {wc0 : va_W} {h : Nat} {h_here : Nat} {h_kept : Nat} {h_trial : Nat} {h_parts : Nat} {h_text : Nat} {h_sheets : Nat} {h_findings : Nat} {h_here_ground : Nat} {h_here_farms : Nat} {h_here_mountain : Nat} {h_here_ground_heights : Nat} {h_here_ground_ages : Nat} {h_here_ground_walls : Nat} {h_here_farms_kinds : Nat} {h_here_farms_cells : Nat} {h_here_farms_owners : Nat} {h_here_farms_purses : Nat} {h_here_mountain_chances : Nat} {h_here_mountain_shows : Nat} {h_here_mountain_diary : Nat} {h_trial_ground : Nat} {h_trial_farms : Nat} {h_trial_mountain : Nat} {h_trial_ground_heights : Nat} {h_trial_ground_ages : Nat} {h_trial_ground_walls : Nat} {h_trial_farms_kinds : Nat} {h_trial_farms_cells : Nat} {h_trial_farms_owners : Nat} {h_trial_farms_purses : Nat} {h_trial_mountain_chances : Nat} {h_trial_mountain_shows : Nat} {h_trial_mountain_diary : Nat} {v_isKept : Int32} {v_here_month : Int32} {v_here_volume : Int32} {v_here_outs : Int32} {v_here_fed : Int32} {v_here_fedOuts : Int32} {v_here_arePigsTold : Int32} {v_here_ground_vent : Int32} {v_here_ground_ash : Int32} {v_here_ground_heights : Nat → Int32} {v_here_ground_ages : Nat → Int32} {v_here_ground_walls : Nat → Int32} {v_here_farms_number : Int32} {v_here_farms_burnt : Int32} {v_here_farms_kinds : Nat → Int32} {v_here_farms_cells : Nat → Int32} {v_here_farms_owners : Nat → Int32} {v_here_farms_purses : Nat → Int32} {v_here_mountain_seen : Int32} {v_here_mountain_state : Int32} {v_here_mountain_z : Int32} {v_here_mountain_chances : Nat → Int32} {v_here_mountain_shows : Nat → Int32} {v_here_mountain_diary : Nat → Int32} {v_trial_month : Int32} {v_trial_volume : Int32} {v_trial_outs : Int32} {v_trial_fed : Int32} {v_trial_fedOuts : Int32} {v_trial_arePigsTold : Int32} {v_trial_ground_vent : Int32} {v_trial_ground_ash : Int32} {v_trial_ground_heights : Nat → Int32} {v_trial_ground_ages : Nat → Int32} {v_trial_ground_walls : Nat → Int32} {v_trial_farms_number : Int32} {v_trial_farms_burnt : Int32} {v_trial_farms_kinds : Nat → Int32} {v_trial_farms_cells : Nat → Int32} {v_trial_farms_owners : Nat → Int32} {v_trial_farms_purses : Nat → Int32} {v_trial_mountain_seen : Int32} {v_trial_mountain_state : Int32} {v_trial_mountain_z : Int32} {v_trial_mountain_chances : Nat → Int32} {v_trial_mountain_shows : Nat → Int32} {v_trial_mountain_diary : Nat → Int32} {v_findings : Nat → Int32} {x1 : Int32} {rec1 : Int32 → Int32 → Int32 → Int32 → Int32 → Int32 → Int32 → (Nat → Int32) → (Nat → Int32) → Int32 → (Nat → Int32) → Int32 → Int32 → Option (Int32 × Int32 × Int32 × Int32 × Int32 × Int32 × Int32 × Int32 × Int32 × (Nat → Int32) × (Nat → Int32) × (Nat → Int32) × Int32 × Int32 × (Nat → Int32) × (Nat → Int32) × (Nat → Int32) × (Nat → Int32) × Int32 × Int32 × Int32 × (Nat → Int32) × (Nat → Int32) × (Nat → Int32) × (Nat → Int32))} {out : Int32 × Int32 × Int32 × Int32 × Int32 × Int32 × Int32 × Int32 × Int32 × (Nat → Int32) × (Nat → Int32) × (Nat → Int32) × Int32 × Int32 × (Nat → Int32) × (Nat → Int32) × (Nat → Int32) × (Nat → Int32) × Int32 × Int32 × Int32 × (Nat → Int32) × (Nat → Int32) × (Nat → Int32) × (Nat → Int32)} (X : kX p m meth c s args D (va_A wc0 s.heap.size) b_X_out "MountainFarms" 2 (some .int)) (hrec1 : ∀ (x1 : Int32) (v_trial_month : Int32) (v_trial_outs : Int32) (v_trial_fed : Int32) (v_trial_fedOuts : Int32) (v_trial_arePigsTold : Int32) (v_trial_ground_ash : Int32) (v_trial_ground_heights : Nat → Int32) (v_trial_ground_ages : Nat → Int32) (v_trial_farms_burnt : Int32) (v_trial_farms_purses : Nat → Int32) (v_trial_mountain_state : Int32) (v_trial_mountain_z : Int32), rec1 x1 v_trial_month v_trial_outs v_trial_fed v_trial_fedOuts v_trial_arePigsTold v_trial_ground_ash v_trial_ground_heights v_trial_ground_ages v_trial_farms_burnt v_trial_farms_purses v_trial_mountain_state v_trial_mountain_z = some out → ∀ (H : Heap) (locs : List Loc) (ls : Array Slot), kV D (va_A wc0 s.heap.size) s (wd_X_out D h h_here h_kept h_trial h_parts h_text h_sheets h_findings h_here_ground h_here_farms h_here_mountain h_here_ground_heights h_here_ground_ages h_here_ground_walls h_here_farms_kinds h_here_farms_cells h_here_farms_owners h_here_farms_purses h_here_mountain_chances h_here_mountain_shows h_here_mountain_diary h_trial_ground h_trial_farms h_trial_mountain h_trial_ground_heights h_trial_ground_ages h_trial_ground_walls h_trial_farms_kinds h_trial_farms_cells h_trial_farms_owners h_trial_farms_purses h_trial_mountain_chances h_trial_mountain_shows h_trial_mountain_diary v_isKept v_here_month v_here_volume v_here_outs v_here_fed v_here_fedOuts v_here_arePigsTold v_here_ground_vent v_here_ground_ash v_here_ground_heights v_here_ground_ages v_here_ground_walls v_here_farms_number v_here_farms_burnt v_here_farms_kinds v_here_farms_cells v_here_farms_owners v_here_farms_purses v_here_mountain_seen v_here_mountain_state v_here_mountain_z v_here_mountain_chances v_here_mountain_shows v_here_mountain_diary v_trial_month v_trial_volume v_trial_outs v_trial_fed v_trial_fedOuts v_trial_arePigsTold v_trial_ground_vent v_trial_ground_ash v_trial_ground_heights v_trial_ground_ages v_trial_ground_walls v_trial_farms_number v_trial_farms_burnt v_trial_farms_kinds v_trial_farms_cells v_trial_farms_owners v_trial_farms_purses v_trial_mountain_seen v_trial_mountain_state v_trial_mountain_z v_trial_mountain_chances v_trial_mountain_shows v_trial_mountain_diary v_findings) H locs → lv_has ls 2 [(0, .ref h), (1, .int x1)] → W p l e { frames := 5, cells := 0, slots := 0, locals := 116 } s m args below meth c H locs 0 0 (MQ below (kQi D wc0 (wd_X_out D h h_here h_kept h_trial h_parts h_text h_sheets h_findings h_here_ground h_here_farms h_here_mountain h_here_ground_heights h_here_ground_ages h_here_ground_walls h_here_farms_kinds h_here_farms_cells h_here_farms_owners h_here_farms_purses h_here_mountain_chances h_here_mountain_shows h_here_mountain_diary h_trial_ground h_trial_farms h_trial_mountain h_trial_ground_heights h_trial_ground_ages h_trial_ground_walls h_trial_farms_kinds h_trial_farms_cells h_trial_farms_owners h_trial_farms_purses h_trial_mountain_chances h_trial_mountain_shows h_trial_mountain_diary v_isKept v_here_month v_here_volume v_here_outs v_here_fed v_here_fedOuts v_here_arePigsTold v_here_ground_vent v_here_ground_ash v_here_ground_heights v_here_ground_ages v_here_ground_walls v_here_farms_number v_here_farms_burnt v_here_farms_kinds v_here_farms_cells v_here_farms_owners v_here_farms_purses v_here_mountain_seen v_here_mountain_state v_here_mountain_z v_here_mountain_chances v_here_mountain_shows v_here_mountain_diary out.2.1 out.2.2.1 out.2.2.2.1 out.2.2.2.2.1 out.2.2.2.2.2.1 out.2.2.2.2.2.2.1 out.2.2.2.2.2.2.2.1 out.2.2.2.2.2.2.2.2.1 out.2.2.2.2.2.2.2.2.2.1 out.2.2.2.2.2.2.2.2.2.2.1 out.2.2.2.2.2.2.2.2.2.2.2.1 out.2.2.2.2.2.2.2.2.2.2.2.2.1 out.2.2.2.2.2.2.2.2.2.2.2.2.2.1 out.2.2.2.2.2.2.2.2.2.2.2.2.2.2.1 out.2.2.2.2.2.2.2.2.2.2.2.2.2.2.2.1 out.2.2.2.2.2.2.2.2.2.2.2.2.2.2.2.2.1 out.2.2.2.2.2.2.2.2.2.2.2.2.2.2.2.2.2.1 out.2.2.2.2.2.2.2.2.2.2.2.2.2.2.2.2.2.2.1 out.2.2.2.2.2.2.2.2.2.2.2.2.2.2.2.2.2.2.2.1 out.2.2.2.2.2.2.2.2.2.2.2.2.2.2.2.2.2.2.2.2.1 out.2.2.2.2.2.2.2.2.2.2.2.2.2.2.2.2.2.2.2.2.2.1 out.2.2.2.2.2.2.2.2.2.2.2.2.2.2.2.2.2.2.2.2.2.2.1 out.2.2.2.2.2.2.2.2.2.2.2.2.2.2.2.2.2.2.2.2.2.2.2.1 out.2.2.2.2.2.2.2.2.2.2.2.2.2.2.2.2.2.2.2.2.2.2.2.2) s.heap.size out.1) args s 0 0 (va_A wc0 s.heap.size)) (F0 m 36 ls [])) (hf : fb_X_out_1 rec1 v_trial_volume v_trial_ground_vent v_trial_ground_walls v_trial_farms_number v_trial_farms_kinds v_trial_farms_cells v_trial_farms_owners v_trial_mountain_seen v_trial_mountain_chances v_trial_mountain_shows v_trial_mountain_diary v_findings x1 v_trial_month v_trial_outs v_trial_fed v_trial_fedOuts v_trial_arePigsTold v_trial_ground_ash v_trial_ground_heights v_trial_ground_ages v_trial_farms_burnt v_trial_farms_purses v_trial_mountain_state v_trial_mountain_z = some out) {H : Heap} {locs : List Loc} (hV : kV D (va_A wc0 s.heap.size) s (wd_X_out D h h_here h_kept h_trial h_parts h_text h_sheets h_findings h_here_ground h_here_farms h_here_mountain h_here_ground_heights h_here_ground_ages h_here_ground_walls h_here_farms_kinds h_here_farms_cells h_here_farms_owners h_here_farms_purses h_here_mountain_chances h_here_mountain_shows h_here_mountain_diary h_trial_ground h_trial_farms h_trial_mountain h_trial_ground_heights h_trial_ground_ages h_trial_ground_walls h_trial_farms_kinds h_trial_farms_cells h_trial_farms_owners h_trial_farms_purses h_trial_mountain_chances h_trial_mountain_shows h_trial_mountain_diary v_isKept v_here_month v_here_volume v_here_outs v_here_fed v_here_fedOuts v_here_arePigsTold v_here_ground_vent v_here_ground_ash v_here_ground_heights v_here_ground_ages v_here_ground_walls v_here_farms_number v_here_farms_burnt v_here_farms_kinds v_here_farms_cells v_here_farms_owners v_here_farms_purses v_here_mountain_seen v_here_mountain_state v_here_mountain_z v_here_mountain_chances v_here_mountain_shows v_here_mountain_diary v_trial_month v_trial_volume v_trial_outs v_trial_fed v_trial_fedOuts v_trial_arePigsTold v_trial_ground_vent v_trial_ground_ash v_trial_ground_heights v_trial_ground_ages v_trial_ground_walls v_trial_farms_number v_trial_farms_burnt v_trial_farms_kinds v_trial_farms_cells v_trial_farms_owners v_trial_farms_purses v_trial_mountain_seen v_trial_mountain_state v_trial_mountain_z v_trial_mountain_chances v_trial_mountain_shows v_trial_mountain_diary v_findings) H locs) {ls : Array Slot} (hl : lv_has ls 2 [(0, .ref h), (1, .int x1)]) : W p l e { frames := 5, cells := 0, slots := 0, locals := 116 } s m args below meth c H locs 0 0 (MQ below (kQi D wc0 (wd_X_out D h h_here h_kept h_trial h_parts h_text h_sheets h_findings h_here_ground h_here_farms h_here_mountain h_here_ground_heights h_here_ground_ages h_here_ground_walls h_here_farms_kinds h_here_farms_cells h_here_farms_owners h_here_farms_purses h_here_mountain_chances h_here_mountain_shows h_here_mountain_diary h_trial_ground h_trial_farms h_trial_mountain h_trial_ground_heights h_trial_ground_ages h_trial_ground_walls h_trial_farms_kinds h_trial_farms_cells h_trial_farms_owners h_trial_farms_purses h_trial_mountain_chances h_trial_mountain_shows h_trial_mountain_diary v_isKept v_here_month v_here_volume v_here_outs v_here_fed v_here_fedOuts v_here_arePigsTold v_here_ground_vent v_here_ground_ash v_here_ground_heights v_here_ground_ages v_here_ground_walls v_here_farms_number v_here_farms_burnt v_here_farms_kinds v_here_farms_cells v_here_farms_owners v_here_farms_purses v_here_mountain_seen v_here_mountain_state v_here_mountain_z v_here_mountain_chances v_here_mountain_shows v_here_mountain_diary out.2.1 out.2.2.1 out.2.2.2.1 out.2.2.2.2.1 out.2.2.2.2.2.1 out.2.2.2.2.2.2.1 out.2.2.2.2.2.2.2.1 out.2.2.2.2.2.2.2.2.1 out.2.2.2.2.2.2.2.2.2.1 out.2.2.2.2.2.2.2.2.2.2.1 out.2.2.2.2.2.2.2.2.2.2.2.1 out.2.2.2.2.2.2.2.2.2.2.2.2.1 out.2.2.2.2.2.2.2.2.2.2.2.2.2.1 out.2.2.2.2.2.2.2.2.2.2.2.2.2.2.1 out.2.2.2.2.2.2.2.2.2.2.2.2.2.2.2.1 out.2.2.2.2.2.2.2.2.2.2.2.2.2.2.2.2.1 out.2.2.2.2.2.2.2.2.2.2.2.2.2.2.2.2.2.1 out.2.2.2.2.2.2.2.2.2.2.2.2.2.2.2.2.2.2.1 out.2.2.2.2.2.2.2.2.2.2.2.2.2.2.2.2.2.2.2.1 out.2.2.2.2.2.2.2.2.2.2.2.2.2.2.2.2.2.2.2.2.1 out.2.2.2.2.2.2.2.2.2.2.2.2.2.2.2.2.2.2.2.2.2.1 out.2.2.2.2.2.2.2.2.2.2.2.2.2.2.2.2.2.2.2.2.2.2.1 out.2.2.2.2.2.2.2.2.2.2.2.2.2.2.2.2.2.2.2.2.2.2.2.1 out.2.2.2.2.2.2.2.2.2.2.2.2.2.2.2.2.2.2.2.2.2.2.2.2) s.heap.size out.1) args s 0 0 (va_A wc0 s.heap.size)) (F0 m 36 ls []) := by
  unfold fb_X_out_1 at hf
  obtain ⟨hx, hb, -⟩ := id X
  refine lv_iload_n hx hb d_X_out_36 rfl (lv_at hl 1 rfl) ?_
  refine lv_sipush (v := 240) hx hb d_X_out_37 sp_240 ?_
  refine lv_icmp_gt (tgt := 61) hx hb d_X_out_40 (by decide) (fun c_76 => ?_) (fun c_76 => ?_)
  · replace hf := kifp c_76 hf
    refine lv_aload_n hx hb d_X_out_61 rfl (lv_at hl 0 rfl) ?_
    refine lv_iconst (v := 3) hx hb d_X_out_62 ic_3 ?_
    obtain ⟨r_77, v_findings_78, hc_79, hf⟩ := kb2_some hf
    refine k_cvi (w1 := (wd_X_finding D h h_here h_kept h_trial h_parts h_text h_sheets h_findings v_isKept v_findings_78)) (r := r_77) (ws' := (wd_X_out D h h_here h_kept h_trial h_parts h_text h_sheets h_findings h_here_ground h_here_farms h_here_mountain h_here_ground_heights h_here_ground_ages h_here_ground_walls h_here_farms_kinds h_here_farms_cells h_here_farms_owners h_here_farms_purses h_here_mountain_chances h_here_mountain_shows h_here_mountain_diary h_trial_ground h_trial_farms h_trial_mountain h_trial_ground_heights h_trial_ground_ages h_trial_ground_walls h_trial_farms_kinds h_trial_farms_cells h_trial_farms_owners h_trial_farms_purses h_trial_mountain_chances h_trial_mountain_shows h_trial_mountain_diary v_isKept v_here_month v_here_volume v_here_outs v_here_fed v_here_fedOuts v_here_arePigsTold v_here_ground_vent v_here_ground_ash v_here_ground_heights v_here_ground_ages v_here_ground_walls v_here_farms_number v_here_farms_burnt v_here_farms_kinds v_here_farms_cells v_here_farms_owners v_here_farms_purses v_here_mountain_seen v_here_mountain_state v_here_mountain_z v_here_mountain_chances v_here_mountain_shows v_here_mountain_diary v_trial_month v_trial_volume v_trial_outs v_trial_fed v_trial_fedOuts v_trial_arePigsTold v_trial_ground_vent v_trial_ground_ash v_trial_ground_heights v_trial_ground_ages v_trial_ground_walls v_trial_farms_number v_trial_farms_burnt v_trial_farms_kinds v_trial_farms_cells v_trial_farms_owners v_trial_farms_purses v_trial_mountain_seen v_trial_mountain_state v_trial_mountain_z v_trial_mountain_chances v_trial_mountain_shows v_trial_mountain_diary v_findings_78)) X hV hl.1 (c_X_finding D h h_here h_kept h_trial h_parts h_text h_sheets h_findings v_isKept v_findings (3 : Int32) hc_79) fk_X_finding gw_284 rfl 0 8 rfl rfl [0, 29] [some 0, none, none, none, none, none, none, none, none, none, none, none, none, none, none, none, none, none, none, none, none, none, none, none, none, none, none, none, none, some 1] rfl rfl ⟨rfl, rfl, rfl, rfl, rfl, rfl, rfl, rfl, rfl, rfl, rfl, rfl, rfl, rfl, rfl, rfl, rfl, rfl, rfl, rfl, rfl, rfl, rfl, rfl, rfl, rfl, rfl, rfl, rfl, rfl, rfl, rfl, rfl, rfl, trivial⟩ rfl rfl rfl d_X_out_63 (fun H locs hV => ?_)
    have e_ := Option.some.inj hf
    subst e_
    exact k_iret X rfl hV rfl d_X_out_66
  replace hf := kifn c_76 hf
  refine lv_aload_n hx hb d_X_out_43 rfl (lv_at hl 0 rfl) ?_
  refine k_get X hV 0 8 2 rfl rfl rfl gw_251 rfl rfl d_X_out_44 ?_
  obtain ⟨r_80, v_trial_month_81, v_trial_outs_82, v_trial_fed_83, v_trial_fedOuts_84, v_trial_arePigsTold_85, v_trial_ground_ash_86, v_trial_ground_heights_87, v_trial_ground_ages_88, v_trial_farms_burnt_89, v_trial_farms_purses_90, v_trial_mountain_state_91, v_trial_mountain_z_92, hc_93, hf⟩ := kb13_some hf
  refine k_cvi (w1 := (wd_Sl_goMonth D h_trial h_trial_ground h_trial_farms h_trial_mountain h_trial_ground_heights h_trial_ground_ages h_trial_ground_walls h_trial_farms_kinds h_trial_farms_cells h_trial_farms_owners h_trial_farms_purses h_trial_mountain_chances h_trial_mountain_shows h_trial_mountain_diary v_trial_month_81 v_trial_volume v_trial_outs_82 v_trial_fed_83 v_trial_fedOuts_84 v_trial_arePigsTold_85 v_trial_ground_vent v_trial_ground_ash_86 v_trial_ground_heights_87 v_trial_ground_ages_88 v_trial_ground_walls v_trial_farms_number v_trial_farms_burnt_89 v_trial_farms_kinds v_trial_farms_cells v_trial_farms_purses_90 v_trial_mountain_seen v_trial_mountain_state_91 v_trial_mountain_z_92 v_trial_mountain_chances v_trial_mountain_shows)) (r := r_80) (ws' := (wd_X_out D h h_here h_kept h_trial h_parts h_text h_sheets h_findings h_here_ground h_here_farms h_here_mountain h_here_ground_heights h_here_ground_ages h_here_ground_walls h_here_farms_kinds h_here_farms_cells h_here_farms_owners h_here_farms_purses h_here_mountain_chances h_here_mountain_shows h_here_mountain_diary h_trial_ground h_trial_farms h_trial_mountain h_trial_ground_heights h_trial_ground_ages h_trial_ground_walls h_trial_farms_kinds h_trial_farms_cells h_trial_farms_owners h_trial_farms_purses h_trial_mountain_chances h_trial_mountain_shows h_trial_mountain_diary v_isKept v_here_month v_here_volume v_here_outs v_here_fed v_here_fedOuts v_here_arePigsTold v_here_ground_vent v_here_ground_ash v_here_ground_heights v_here_ground_ages v_here_ground_walls v_here_farms_number v_here_farms_burnt v_here_farms_kinds v_here_farms_cells v_here_farms_owners v_here_farms_purses v_here_mountain_seen v_here_mountain_state v_here_mountain_z v_here_mountain_chances v_here_mountain_shows v_here_mountain_diary v_trial_month_81 v_trial_volume v_trial_outs_82 v_trial_fed_83 v_trial_fedOuts_84 v_trial_arePigsTold_85 v_trial_ground_vent v_trial_ground_ash_86 v_trial_ground_heights_87 v_trial_ground_ages_88 v_trial_ground_walls v_trial_farms_number v_trial_farms_burnt_89 v_trial_farms_kinds v_trial_farms_cells v_trial_farms_owners v_trial_farms_purses_90 v_trial_mountain_seen v_trial_mountain_state_91 v_trial_mountain_z_92 v_trial_mountain_chances v_trial_mountain_shows v_trial_mountain_diary v_findings)) X hV hl.1 (c_Sl_goMonth D h_trial h_trial_ground h_trial_farms h_trial_mountain h_trial_ground_heights h_trial_ground_ages h_trial_ground_walls h_trial_farms_kinds h_trial_farms_cells h_trial_farms_owners h_trial_farms_purses h_trial_mountain_chances h_trial_mountain_shows h_trial_mountain_diary v_trial_month v_trial_volume v_trial_outs v_trial_fed v_trial_fedOuts v_trial_arePigsTold v_trial_ground_vent v_trial_ground_ash v_trial_ground_heights v_trial_ground_ages v_trial_ground_walls v_trial_farms_number v_trial_farms_burnt v_trial_farms_kinds v_trial_farms_cells v_trial_farms_purses v_trial_mountain_seen v_trial_mountain_state v_trial_mountain_z v_trial_mountain_chances v_trial_mountain_shows hc_93) fk_Sl_goMonth gw_608 rfl 15 5 rfl rfl [15, 16, 17, 18, 19, 20, 21, 22, 24, 25, 26, 27] [none, none, none, none, none, none, none, none, none, none, none, none, none, none, none, some 0, some 1, some 2, some 3, some 4, some 5, some 6, some 7, none, some 8, some 9, some 10, some 11, none, none] rfl rfl ⟨rfl, rfl, rfl, rfl, rfl, rfl, rfl, rfl, rfl, rfl, rfl, rfl, rfl, rfl, rfl, rfl, rfl, rfl, rfl, rfl, rfl, rfl, rfl, rfl, rfl, rfl, rfl, rfl, rfl, rfl, rfl, rfl, rfl, rfl, rfl, rfl, rfl, rfl, rfl, rfl, rfl, rfl, rfl, rfl, rfl, rfl, rfl, rfl, rfl, rfl, rfl, rfl, rfl, rfl, trivial⟩ rfl rfl rfl d_X_out_47 (fun H locs hV => ?_)
  refine lv_if_eq (tgt := 55) hx hb d_X_out_50 (by decide) (fun c_94 => ?_) (fun c_94 => ?_)
  · replace hf := kifp c_94 hf
    refine lv_iinc (v := (x1 + 1)) (lv' := [(1, .int (x1 + 1)), (0, .ref h)]) hx hb d_X_out_55 hl (k := 1) rfl rfl (by decide) rfl (fun ls hl => ?_)
    refine lv_goto (tgt := 36) hx hb d_X_out_58 (by decide) ?_
    exact hrec1 _ _ _ _ _ _ _ _ _ _ _ _ _ hf _ _ _ hV (lv_sub hl [1, 0] rfl)
  replace hf := kifn c_94 hf
  refine lv_iload_n hx hb d_X_out_53 rfl (lv_at hl 1 rfl) ?_
  have e_ := Option.some.inj hf
  subst e_
  exact k_iret X rfl hV rfl d_X_out_54
set_option maxHeartbeats 2000000 in
set_option maxRecDepth 20000 in
theorem tl_X_out_1 {l : Launch} {p : Program} {e : Env} {s : State} {m : MethodId} {args : Array Value} {below : List Frame} {meth : Method} {c : Code} {D : kD} {wc0 : va_W} {h : Nat} {h_here : Nat} {h_kept : Nat} {h_trial : Nat} {h_parts : Nat} {h_text : Nat} {h_sheets : Nat} {h_findings : Nat} {h_here_ground : Nat} {h_here_farms : Nat} {h_here_mountain : Nat} {h_here_ground_heights : Nat} {h_here_ground_ages : Nat} {h_here_ground_walls : Nat} {h_here_farms_kinds : Nat} {h_here_farms_cells : Nat} {h_here_farms_owners : Nat} {h_here_farms_purses : Nat} {h_here_mountain_chances : Nat} {h_here_mountain_shows : Nat} {h_here_mountain_diary : Nat} {h_trial_ground : Nat} {h_trial_farms : Nat} {h_trial_mountain : Nat} {h_trial_ground_heights : Nat} {h_trial_ground_ages : Nat} {h_trial_ground_walls : Nat} {h_trial_farms_kinds : Nat} {h_trial_farms_cells : Nat} {h_trial_farms_owners : Nat} {h_trial_farms_purses : Nat} {h_trial_mountain_chances : Nat} {h_trial_mountain_shows : Nat} {h_trial_mountain_diary : Nat} {v_isKept : Int32} {v_here_month : Int32} {v_here_volume : Int32} {v_here_outs : Int32} {v_here_fed : Int32} {v_here_fedOuts : Int32} {v_here_arePigsTold : Int32} {v_here_ground_vent : Int32} {v_here_ground_ash : Int32} {v_here_ground_heights : Nat → Int32} {v_here_ground_ages : Nat → Int32} {v_here_ground_walls : Nat → Int32} {v_here_farms_number : Int32} {v_here_farms_burnt : Int32} {v_here_farms_kinds : Nat → Int32} {v_here_farms_cells : Nat → Int32} {v_here_farms_owners : Nat → Int32} {v_here_farms_purses : Nat → Int32} {v_here_mountain_seen : Int32} {v_here_mountain_state : Int32} {v_here_mountain_z : Int32} {v_here_mountain_chances : Nat → Int32} {v_here_mountain_shows : Nat → Int32} {v_here_mountain_diary : Nat → Int32} {v_trial_volume : Int32} {v_trial_ground_vent : Int32} {v_trial_ground_walls : Nat → Int32} {v_trial_farms_number : Int32} {v_trial_farms_kinds : Nat → Int32} {v_trial_farms_cells : Nat → Int32} {v_trial_farms_owners : Nat → Int32} {v_trial_mountain_seen : Int32} {v_trial_mountain_chances : Nat → Int32} {v_trial_mountain_shows : Nat → Int32} {v_trial_mountain_diary : Nat → Int32} {v_findings : Nat → Int32} {out : Int32 × Int32 × Int32 × Int32 × Int32 × Int32 × Int32 × Int32 × Int32 × (Nat → Int32) × (Nat → Int32) × (Nat → Int32) × Int32 × Int32 × (Nat → Int32) × (Nat → Int32) × (Nat → Int32) × (Nat → Int32) × Int32 × Int32 × Int32 × (Nat → Int32) × (Nat → Int32) × (Nat → Int32) × (Nat → Int32)} (X : kX p m meth c s args D (va_A wc0 s.heap.size) b_X_out "MountainFarms" 2 (some .int)) : ∀ (n : Nat) (x1 : Int32) (v_trial_month : Int32) (v_trial_outs : Int32) (v_trial_fed : Int32) (v_trial_fedOuts : Int32) (v_trial_arePigsTold : Int32) (v_trial_ground_ash : Int32) (v_trial_ground_heights : Nat → Int32) (v_trial_ground_ages : Nat → Int32) (v_trial_farms_burnt : Int32) (v_trial_farms_purses : Nat → Int32) (v_trial_mountain_state : Int32) (v_trial_mountain_z : Int32), fl_X_out_1 v_trial_volume v_trial_ground_vent v_trial_ground_walls v_trial_farms_number v_trial_farms_kinds v_trial_farms_cells v_trial_farms_owners v_trial_mountain_seen v_trial_mountain_chances v_trial_mountain_shows v_trial_mountain_diary v_findings n x1 v_trial_month v_trial_outs v_trial_fed v_trial_fedOuts v_trial_arePigsTold v_trial_ground_ash v_trial_ground_heights v_trial_ground_ages v_trial_farms_burnt v_trial_farms_purses v_trial_mountain_state v_trial_mountain_z = some out → ∀ (H : Heap) (locs : List Loc) (ls : Array Slot), kV D (va_A wc0 s.heap.size) s (wd_X_out D h h_here h_kept h_trial h_parts h_text h_sheets h_findings h_here_ground h_here_farms h_here_mountain h_here_ground_heights h_here_ground_ages h_here_ground_walls h_here_farms_kinds h_here_farms_cells h_here_farms_owners h_here_farms_purses h_here_mountain_chances h_here_mountain_shows h_here_mountain_diary h_trial_ground h_trial_farms h_trial_mountain h_trial_ground_heights h_trial_ground_ages h_trial_ground_walls h_trial_farms_kinds h_trial_farms_cells h_trial_farms_owners h_trial_farms_purses h_trial_mountain_chances h_trial_mountain_shows h_trial_mountain_diary v_isKept v_here_month v_here_volume v_here_outs v_here_fed v_here_fedOuts v_here_arePigsTold v_here_ground_vent v_here_ground_ash v_here_ground_heights v_here_ground_ages v_here_ground_walls v_here_farms_number v_here_farms_burnt v_here_farms_kinds v_here_farms_cells v_here_farms_owners v_here_farms_purses v_here_mountain_seen v_here_mountain_state v_here_mountain_z v_here_mountain_chances v_here_mountain_shows v_here_mountain_diary v_trial_month v_trial_volume v_trial_outs v_trial_fed v_trial_fedOuts v_trial_arePigsTold v_trial_ground_vent v_trial_ground_ash v_trial_ground_heights v_trial_ground_ages v_trial_ground_walls v_trial_farms_number v_trial_farms_burnt v_trial_farms_kinds v_trial_farms_cells v_trial_farms_owners v_trial_farms_purses v_trial_mountain_seen v_trial_mountain_state v_trial_mountain_z v_trial_mountain_chances v_trial_mountain_shows v_trial_mountain_diary v_findings) H locs → lv_has ls 2 [(0, .ref h), (1, .int x1)] → W p l e { frames := 5, cells := 0, slots := 0, locals := 116 } s m args below meth c H locs 0 0 (MQ below (kQi D wc0 (wd_X_out D h h_here h_kept h_trial h_parts h_text h_sheets h_findings h_here_ground h_here_farms h_here_mountain h_here_ground_heights h_here_ground_ages h_here_ground_walls h_here_farms_kinds h_here_farms_cells h_here_farms_owners h_here_farms_purses h_here_mountain_chances h_here_mountain_shows h_here_mountain_diary h_trial_ground h_trial_farms h_trial_mountain h_trial_ground_heights h_trial_ground_ages h_trial_ground_walls h_trial_farms_kinds h_trial_farms_cells h_trial_farms_owners h_trial_farms_purses h_trial_mountain_chances h_trial_mountain_shows h_trial_mountain_diary v_isKept v_here_month v_here_volume v_here_outs v_here_fed v_here_fedOuts v_here_arePigsTold v_here_ground_vent v_here_ground_ash v_here_ground_heights v_here_ground_ages v_here_ground_walls v_here_farms_number v_here_farms_burnt v_here_farms_kinds v_here_farms_cells v_here_farms_owners v_here_farms_purses v_here_mountain_seen v_here_mountain_state v_here_mountain_z v_here_mountain_chances v_here_mountain_shows v_here_mountain_diary out.2.1 out.2.2.1 out.2.2.2.1 out.2.2.2.2.1 out.2.2.2.2.2.1 out.2.2.2.2.2.2.1 out.2.2.2.2.2.2.2.1 out.2.2.2.2.2.2.2.2.1 out.2.2.2.2.2.2.2.2.2.1 out.2.2.2.2.2.2.2.2.2.2.1 out.2.2.2.2.2.2.2.2.2.2.2.1 out.2.2.2.2.2.2.2.2.2.2.2.2.1 out.2.2.2.2.2.2.2.2.2.2.2.2.2.1 out.2.2.2.2.2.2.2.2.2.2.2.2.2.2.1 out.2.2.2.2.2.2.2.2.2.2.2.2.2.2.2.1 out.2.2.2.2.2.2.2.2.2.2.2.2.2.2.2.2.1 out.2.2.2.2.2.2.2.2.2.2.2.2.2.2.2.2.2.1 out.2.2.2.2.2.2.2.2.2.2.2.2.2.2.2.2.2.2.1 out.2.2.2.2.2.2.2.2.2.2.2.2.2.2.2.2.2.2.2.1 out.2.2.2.2.2.2.2.2.2.2.2.2.2.2.2.2.2.2.2.2.1 out.2.2.2.2.2.2.2.2.2.2.2.2.2.2.2.2.2.2.2.2.2.1 out.2.2.2.2.2.2.2.2.2.2.2.2.2.2.2.2.2.2.2.2.2.2.1 out.2.2.2.2.2.2.2.2.2.2.2.2.2.2.2.2.2.2.2.2.2.2.2.1 out.2.2.2.2.2.2.2.2.2.2.2.2.2.2.2.2.2.2.2.2.2.2.2.2) s.heap.size out.1) args s 0 0 (va_A wc0 s.heap.size)) (F0 m 36 ls []) := by
  intro n
  induction n with
  | zero => intro x1 v_trial_month v_trial_outs v_trial_fed v_trial_fedOuts v_trial_arePigsTold v_trial_ground_ash v_trial_ground_heights v_trial_ground_ages v_trial_farms_burnt v_trial_farms_purses v_trial_mountain_state v_trial_mountain_z hf; exact knone hf
  | succ n ih => intro x1 v_trial_month v_trial_outs v_trial_fed v_trial_fedOuts v_trial_arePigsTold v_trial_ground_ash v_trial_ground_heights v_trial_ground_ages v_trial_farms_burnt v_trial_farms_purses v_trial_mountain_state v_trial_mountain_z hf H locs ls hV hl; exact tb_X_out_1 X ih hf hV hl
set_option maxHeartbeats 2000000 in
set_option maxRecDepth 20000 in
theorem t_X_out {l : Launch} {p : Program} {e : Env} {s : State} {m : MethodId} {args : Array Value} {below : List Frame} {meth : Method} {c : Code} {D : kD} {wc0 : va_W} {h : Nat} {h_here : Nat} {h_kept : Nat} {h_trial : Nat} {h_parts : Nat} {h_text : Nat} {h_sheets : Nat} {h_findings : Nat} {h_here_ground : Nat} {h_here_farms : Nat} {h_here_mountain : Nat} {h_here_ground_heights : Nat} {h_here_ground_ages : Nat} {h_here_ground_walls : Nat} {h_here_farms_kinds : Nat} {h_here_farms_cells : Nat} {h_here_farms_owners : Nat} {h_here_farms_purses : Nat} {h_here_mountain_chances : Nat} {h_here_mountain_shows : Nat} {h_here_mountain_diary : Nat} {h_trial_ground : Nat} {h_trial_farms : Nat} {h_trial_mountain : Nat} {h_trial_ground_heights : Nat} {h_trial_ground_ages : Nat} {h_trial_ground_walls : Nat} {h_trial_farms_kinds : Nat} {h_trial_farms_cells : Nat} {h_trial_farms_owners : Nat} {h_trial_farms_purses : Nat} {h_trial_mountain_chances : Nat} {h_trial_mountain_shows : Nat} {h_trial_mountain_diary : Nat} {v_isKept : Int32} {v_here_month : Int32} {v_here_volume : Int32} {v_here_outs : Int32} {v_here_fed : Int32} {v_here_fedOuts : Int32} {v_here_arePigsTold : Int32} {v_here_ground_vent : Int32} {v_here_ground_ash : Int32} {v_here_ground_heights : Nat → Int32} {v_here_ground_ages : Nat → Int32} {v_here_ground_walls : Nat → Int32} {v_here_farms_number : Int32} {v_here_farms_burnt : Int32} {v_here_farms_kinds : Nat → Int32} {v_here_farms_cells : Nat → Int32} {v_here_farms_owners : Nat → Int32} {v_here_farms_purses : Nat → Int32} {v_here_mountain_seen : Int32} {v_here_mountain_state : Int32} {v_here_mountain_z : Int32} {v_here_mountain_chances : Nat → Int32} {v_here_mountain_shows : Nat → Int32} {v_here_mountain_diary : Nat → Int32} {v_trial_month : Int32} {v_trial_volume : Int32} {v_trial_outs : Int32} {v_trial_fed : Int32} {v_trial_fedOuts : Int32} {v_trial_arePigsTold : Int32} {v_trial_ground_vent : Int32} {v_trial_ground_ash : Int32} {v_trial_ground_heights : Nat → Int32} {v_trial_ground_ages : Nat → Int32} {v_trial_ground_walls : Nat → Int32} {v_trial_farms_number : Int32} {v_trial_farms_burnt : Int32} {v_trial_farms_kinds : Nat → Int32} {v_trial_farms_cells : Nat → Int32} {v_trial_farms_owners : Nat → Int32} {v_trial_farms_purses : Nat → Int32} {v_trial_mountain_seen : Int32} {v_trial_mountain_state : Int32} {v_trial_mountain_z : Int32} {v_trial_mountain_chances : Nat → Int32} {v_trial_mountain_shows : Nat → Int32} {v_trial_mountain_diary : Nat → Int32} {v_findings : Nat → Int32} {out : Int32 × Int32 × Int32 × Int32 × Int32 × Int32 × Int32 × Int32 × Int32 × (Nat → Int32) × (Nat → Int32) × (Nat → Int32) × Int32 × Int32 × (Nat → Int32) × (Nat → Int32) × (Nat → Int32) × (Nat → Int32) × Int32 × Int32 × Int32 × (Nat → Int32) × (Nat → Int32) × (Nat → Int32) × (Nat → Int32)} (X : kX p m meth c s args D (va_A wc0 s.heap.size) b_X_out "MountainFarms" 2 (some .int)) (hf : f_X_out v_here_month v_here_volume v_here_outs v_here_fed v_here_fedOuts v_here_arePigsTold v_here_ground_vent v_here_ground_ash v_here_ground_heights v_here_ground_ages v_here_ground_walls v_here_farms_number v_here_farms_burnt v_here_farms_kinds v_here_farms_cells v_here_farms_owners v_here_farms_purses v_here_mountain_seen v_here_mountain_state v_here_mountain_z v_here_mountain_chances v_here_mountain_shows v_here_mountain_diary v_trial_month v_trial_volume v_trial_outs v_trial_fed v_trial_fedOuts v_trial_arePigsTold v_trial_ground_vent v_trial_ground_ash v_trial_ground_heights v_trial_ground_ages v_trial_ground_walls v_trial_farms_number v_trial_farms_burnt v_trial_farms_kinds v_trial_farms_cells v_trial_farms_owners v_trial_farms_purses v_trial_mountain_seen v_trial_mountain_state v_trial_mountain_z v_trial_mountain_chances v_trial_mountain_shows v_trial_mountain_diary v_findings = some out) {H : Heap} {locs : List Loc} (hV : kV D (va_A wc0 s.heap.size) s (wd_X_out D h h_here h_kept h_trial h_parts h_text h_sheets h_findings h_here_ground h_here_farms h_here_mountain h_here_ground_heights h_here_ground_ages h_here_ground_walls h_here_farms_kinds h_here_farms_cells h_here_farms_owners h_here_farms_purses h_here_mountain_chances h_here_mountain_shows h_here_mountain_diary h_trial_ground h_trial_farms h_trial_mountain h_trial_ground_heights h_trial_ground_ages h_trial_ground_walls h_trial_farms_kinds h_trial_farms_cells h_trial_farms_owners h_trial_farms_purses h_trial_mountain_chances h_trial_mountain_shows h_trial_mountain_diary v_isKept v_here_month v_here_volume v_here_outs v_here_fed v_here_fedOuts v_here_arePigsTold v_here_ground_vent v_here_ground_ash v_here_ground_heights v_here_ground_ages v_here_ground_walls v_here_farms_number v_here_farms_burnt v_here_farms_kinds v_here_farms_cells v_here_farms_owners v_here_farms_purses v_here_mountain_seen v_here_mountain_state v_here_mountain_z v_here_mountain_chances v_here_mountain_shows v_here_mountain_diary v_trial_month v_trial_volume v_trial_outs v_trial_fed v_trial_fedOuts v_trial_arePigsTold v_trial_ground_vent v_trial_ground_ash v_trial_ground_heights v_trial_ground_ages v_trial_ground_walls v_trial_farms_number v_trial_farms_burnt v_trial_farms_kinds v_trial_farms_cells v_trial_farms_owners v_trial_farms_purses v_trial_mountain_seen v_trial_mountain_state v_trial_mountain_z v_trial_mountain_chances v_trial_mountain_shows v_trial_mountain_diary v_findings) H locs) {ls : Array Slot} (hl : lv_has ls 2 [(0, .ref h)]) : W p l e { frames := 5, cells := 0, slots := 0, locals := 116 } s m args below meth c H locs 0 0 (MQ below (kQi D wc0 (wd_X_out D h h_here h_kept h_trial h_parts h_text h_sheets h_findings h_here_ground h_here_farms h_here_mountain h_here_ground_heights h_here_ground_ages h_here_ground_walls h_here_farms_kinds h_here_farms_cells h_here_farms_owners h_here_farms_purses h_here_mountain_chances h_here_mountain_shows h_here_mountain_diary h_trial_ground h_trial_farms h_trial_mountain h_trial_ground_heights h_trial_ground_ages h_trial_ground_walls h_trial_farms_kinds h_trial_farms_cells h_trial_farms_owners h_trial_farms_purses h_trial_mountain_chances h_trial_mountain_shows h_trial_mountain_diary v_isKept v_here_month v_here_volume v_here_outs v_here_fed v_here_fedOuts v_here_arePigsTold v_here_ground_vent v_here_ground_ash v_here_ground_heights v_here_ground_ages v_here_ground_walls v_here_farms_number v_here_farms_burnt v_here_farms_kinds v_here_farms_cells v_here_farms_owners v_here_farms_purses v_here_mountain_seen v_here_mountain_state v_here_mountain_z v_here_mountain_chances v_here_mountain_shows v_here_mountain_diary out.2.1 out.2.2.1 out.2.2.2.1 out.2.2.2.2.1 out.2.2.2.2.2.1 out.2.2.2.2.2.2.1 out.2.2.2.2.2.2.2.1 out.2.2.2.2.2.2.2.2.1 out.2.2.2.2.2.2.2.2.2.1 out.2.2.2.2.2.2.2.2.2.2.1 out.2.2.2.2.2.2.2.2.2.2.2.1 out.2.2.2.2.2.2.2.2.2.2.2.2.1 out.2.2.2.2.2.2.2.2.2.2.2.2.2.1 out.2.2.2.2.2.2.2.2.2.2.2.2.2.2.1 out.2.2.2.2.2.2.2.2.2.2.2.2.2.2.2.1 out.2.2.2.2.2.2.2.2.2.2.2.2.2.2.2.2.1 out.2.2.2.2.2.2.2.2.2.2.2.2.2.2.2.2.2.1 out.2.2.2.2.2.2.2.2.2.2.2.2.2.2.2.2.2.2.1 out.2.2.2.2.2.2.2.2.2.2.2.2.2.2.2.2.2.2.2.1 out.2.2.2.2.2.2.2.2.2.2.2.2.2.2.2.2.2.2.2.2.1 out.2.2.2.2.2.2.2.2.2.2.2.2.2.2.2.2.2.2.2.2.2.1 out.2.2.2.2.2.2.2.2.2.2.2.2.2.2.2.2.2.2.2.2.2.2.1 out.2.2.2.2.2.2.2.2.2.2.2.2.2.2.2.2.2.2.2.2.2.2.2.1 out.2.2.2.2.2.2.2.2.2.2.2.2.2.2.2.2.2.2.2.2.2.2.2.2) s.heap.size out.1) args s 0 0 (va_A wc0 s.heap.size)) (F0 m 0 ls []) := by
  unfold f_X_out at hf
  obtain ⟨hx, hb, -⟩ := id X
  refine lv_aload_n hx hb d_X_out_0 rfl (lv_at hl 0 rfl) ?_
  refine k_get X hV 0 8 0 rfl rfl rfl gw_249 rfl rfl d_X_out_1 ?_
  refine k_get X hV 1 5 3 rfl rfl rfl gw_146 rfl rfl d_X_out_4 ?_
  refine lv_sipush (v := 240) hx hb d_X_out_7 sp_240 ?_
  refine lv_iadd hx hb d_X_out_10 ?_
  refine lv_sipush (v := 9999) hx hb d_X_out_11 sp_9999 ?_
  refine lv_icmp_le (tgt := 23) hx hb d_X_out_14 (by decide) (fun c_48 => ?_) (fun c_48 => ?_)
  · replace hf := kifp c_48 hf
    refine lv_aload_n hx hb d_X_out_23 rfl (lv_at hl 0 rfl) ?_
    refine k_get X hV 0 8 2 rfl rfl rfl gw_251 rfl rfl d_X_out_24 ?_
    refine lv_aload_n hx hb d_X_out_27 rfl (lv_at hl 0 rfl) ?_
    refine k_get X hV 0 8 0 rfl rfl rfl gw_249 rfl rfl d_X_out_28 ?_
    obtain ⟨v_trial_month_49, v_trial_volume_50, v_trial_outs_51, v_trial_fed_52, v_trial_fedOuts_53, v_trial_arePigsTold_54, v_trial_ground_vent_55, v_trial_ground_ash_56, v_trial_ground_heights_57, v_trial_ground_ages_58, v_trial_ground_walls_59, v_trial_farms_number_60, v_trial_farms_burnt_61, v_trial_farms_kinds_62, v_trial_farms_cells_63, v_trial_farms_owners_64, v_trial_farms_purses_65, v_trial_mountain_seen_66, v_trial_mountain_state_67, v_trial_mountain_z_68, v_trial_mountain_chances_69, v_trial_mountain_shows_70, v_trial_mountain_diary_71, hc_72, hf⟩ := kb23_some hf
    refine k_cvv (w1 := (wd_Sl_become D h_trial h_trial_ground h_trial_farms h_trial_mountain h_trial_ground_heights h_trial_ground_ages h_trial_ground_walls h_trial_farms_kinds h_trial_farms_cells h_trial_farms_owners h_trial_farms_purses h_trial_mountain_chances h_trial_mountain_shows h_trial_mountain_diary h_here h_here_ground h_here_farms h_here_mountain h_here_ground_heights h_here_ground_ages h_here_ground_walls h_here_farms_kinds h_here_farms_cells h_here_farms_owners h_here_farms_purses h_here_mountain_chances h_here_mountain_shows h_here_mountain_diary v_trial_month_49 v_trial_volume_50 v_trial_outs_51 v_trial_fed_52 v_trial_fedOuts_53 v_trial_arePigsTold_54 v_trial_ground_vent_55 v_trial_ground_ash_56 v_trial_ground_heights_57 v_trial_ground_ages_58 v_trial_ground_walls_59 v_trial_farms_number_60 v_trial_farms_burnt_61 v_trial_farms_kinds_62 v_trial_farms_cells_63 v_trial_farms_owners_64 v_trial_farms_purses_65 v_trial_mountain_seen_66 v_trial_mountain_state_67 v_trial_mountain_z_68 v_trial_mountain_chances_69 v_trial_mountain_shows_70 v_trial_mountain_diary_71 v_here_month v_here_volume v_here_outs v_here_fed v_here_fedOuts v_here_arePigsTold v_here_ground_vent v_here_ground_ash v_here_ground_heights v_here_ground_ages v_here_ground_walls v_here_farms_number v_here_farms_burnt v_here_farms_kinds v_here_farms_cells v_here_farms_owners v_here_farms_purses v_here_mountain_seen v_here_mountain_state v_here_mountain_z v_here_mountain_chances v_here_mountain_shows v_here_mountain_diary)) (ws' := (wd_X_out D h h_here h_kept h_trial h_parts h_text h_sheets h_findings h_here_ground h_here_farms h_here_mountain h_here_ground_heights h_here_ground_ages h_here_ground_walls h_here_farms_kinds h_here_farms_cells h_here_farms_owners h_here_farms_purses h_here_mountain_chances h_here_mountain_shows h_here_mountain_diary h_trial_ground h_trial_farms h_trial_mountain h_trial_ground_heights h_trial_ground_ages h_trial_ground_walls h_trial_farms_kinds h_trial_farms_cells h_trial_farms_owners h_trial_farms_purses h_trial_mountain_chances h_trial_mountain_shows h_trial_mountain_diary v_isKept v_here_month v_here_volume v_here_outs v_here_fed v_here_fedOuts v_here_arePigsTold v_here_ground_vent v_here_ground_ash v_here_ground_heights v_here_ground_ages v_here_ground_walls v_here_farms_number v_here_farms_burnt v_here_farms_kinds v_here_farms_cells v_here_farms_owners v_here_farms_purses v_here_mountain_seen v_here_mountain_state v_here_mountain_z v_here_mountain_chances v_here_mountain_shows v_here_mountain_diary v_trial_month_49 v_trial_volume_50 v_trial_outs_51 v_trial_fed_52 v_trial_fedOuts_53 v_trial_arePigsTold_54 v_trial_ground_vent_55 v_trial_ground_ash_56 v_trial_ground_heights_57 v_trial_ground_ages_58 v_trial_ground_walls_59 v_trial_farms_number_60 v_trial_farms_burnt_61 v_trial_farms_kinds_62 v_trial_farms_cells_63 v_trial_farms_owners_64 v_trial_farms_purses_65 v_trial_mountain_seen_66 v_trial_mountain_state_67 v_trial_mountain_z_68 v_trial_mountain_chances_69 v_trial_mountain_shows_70 v_trial_mountain_diary_71 v_findings)) X hV hl.1 (c_Sl_become D h_trial h_trial_ground h_trial_farms h_trial_mountain h_trial_ground_heights h_trial_ground_ages h_trial_ground_walls h_trial_farms_kinds h_trial_farms_cells h_trial_farms_owners h_trial_farms_purses h_trial_mountain_chances h_trial_mountain_shows h_trial_mountain_diary h_here h_here_ground h_here_farms h_here_mountain h_here_ground_heights h_here_ground_ages h_here_ground_walls h_here_farms_kinds h_here_farms_cells h_here_farms_owners h_here_farms_purses h_here_mountain_chances h_here_mountain_shows h_here_mountain_diary v_trial_month v_trial_volume v_trial_outs v_trial_fed v_trial_fedOuts v_trial_arePigsTold v_trial_ground_vent v_trial_ground_ash v_trial_ground_heights v_trial_ground_ages v_trial_ground_walls v_trial_farms_number v_trial_farms_burnt v_trial_farms_kinds v_trial_farms_cells v_trial_farms_owners v_trial_farms_purses v_trial_mountain_seen v_trial_mountain_state v_trial_mountain_z v_trial_mountain_chances v_trial_mountain_shows v_trial_mountain_diary v_here_month v_here_volume v_here_outs v_here_fed v_here_fedOuts v_here_arePigsTold v_here_ground_vent v_here_ground_ash v_here_ground_heights v_here_ground_ages v_here_ground_walls v_here_farms_number v_here_farms_burnt v_here_farms_kinds v_here_farms_cells v_here_farms_owners v_here_farms_purses v_here_mountain_seen v_here_mountain_state v_here_mountain_z v_here_mountain_chances v_here_mountain_shows v_here_mountain_diary hc_72) fk_Sl_become gw_593 rfl 15 5 rfl rfl [15, 16, 17, 18, 19, 20, 21, 22, 23, 24, 25, 26, 27, 28, 1, 2, 3, 4, 5, 6, 7, 8, 9, 10, 11, 12, 13, 14] [none, some 14, some 15, some 16, some 17, some 18, some 19, some 20, some 21, some 22, some 23, some 24, some 25, some 26, some 27, some 0, some 1, some 2, some 3, some 4, some 5, some 6, some 7, some 8, some 9, some 10, some 11, some 12, some 13, none] rfl rfl ⟨rfl, rfl, rfl, rfl, rfl, rfl, rfl, rfl, rfl, rfl, rfl, rfl, rfl, rfl, rfl, rfl, rfl, rfl, rfl, rfl, rfl, rfl, rfl, rfl, rfl, rfl, rfl, rfl, rfl, rfl, rfl, rfl, rfl, rfl, rfl, rfl, rfl, rfl, rfl, rfl, rfl, rfl, rfl, rfl, rfl, rfl, rfl, rfl, rfl, rfl, rfl, rfl, rfl, rfl, rfl, rfl, rfl, rfl, rfl, rfl, rfl, rfl, rfl, rfl, rfl, rfl, rfl, rfl, rfl, rfl, rfl, rfl, rfl, rfl, rfl, rfl, rfl, rfl, rfl, rfl, rfl, rfl, rfl, rfl, rfl, rfl, trivial⟩ rfl rfl rfl d_X_out_31 (fun H locs hV => ?_)
    refine lv_iconst (v := 1) hx hb d_X_out_34 ic_1 ?_
    refine lv_istore_n (lv' := [(1, .int (1 : Int32)), (0, .ref h)]) hx hb d_X_out_35 rfl hl (by decide) rfl (fun ls hl => ?_)
    exact tl_X_out_1 X _ _ _ _ _ _ _ _ _ _ _ _ _ _ hf _ _ _ hV (lv_sub hl [1, 0] rfl)
  replace hf := kifn c_48 hf
  refine lv_aload_n hx hb d_X_out_17 rfl (lv_at hl 0 rfl) ?_
  refine lv_iconst (v := 4) hx hb d_X_out_18 ic_4 ?_
  obtain ⟨r_73, v_findings_74, hc_75, hf⟩ := kb2_some hf
  refine k_cvi (w1 := (wd_X_finding D h h_here h_kept h_trial h_parts h_text h_sheets h_findings v_isKept v_findings_74)) (r := r_73) (ws' := (wd_X_out D h h_here h_kept h_trial h_parts h_text h_sheets h_findings h_here_ground h_here_farms h_here_mountain h_here_ground_heights h_here_ground_ages h_here_ground_walls h_here_farms_kinds h_here_farms_cells h_here_farms_owners h_here_farms_purses h_here_mountain_chances h_here_mountain_shows h_here_mountain_diary h_trial_ground h_trial_farms h_trial_mountain h_trial_ground_heights h_trial_ground_ages h_trial_ground_walls h_trial_farms_kinds h_trial_farms_cells h_trial_farms_owners h_trial_farms_purses h_trial_mountain_chances h_trial_mountain_shows h_trial_mountain_diary v_isKept v_here_month v_here_volume v_here_outs v_here_fed v_here_fedOuts v_here_arePigsTold v_here_ground_vent v_here_ground_ash v_here_ground_heights v_here_ground_ages v_here_ground_walls v_here_farms_number v_here_farms_burnt v_here_farms_kinds v_here_farms_cells v_here_farms_owners v_here_farms_purses v_here_mountain_seen v_here_mountain_state v_here_mountain_z v_here_mountain_chances v_here_mountain_shows v_here_mountain_diary v_trial_month v_trial_volume v_trial_outs v_trial_fed v_trial_fedOuts v_trial_arePigsTold v_trial_ground_vent v_trial_ground_ash v_trial_ground_heights v_trial_ground_ages v_trial_ground_walls v_trial_farms_number v_trial_farms_burnt v_trial_farms_kinds v_trial_farms_cells v_trial_farms_owners v_trial_farms_purses v_trial_mountain_seen v_trial_mountain_state v_trial_mountain_z v_trial_mountain_chances v_trial_mountain_shows v_trial_mountain_diary v_findings_74)) X hV hl.1 (c_X_finding D h h_here h_kept h_trial h_parts h_text h_sheets h_findings v_isKept v_findings (4 : Int32) hc_75) fk_X_finding gw_284 rfl 0 8 rfl rfl [0, 29] [some 0, none, none, none, none, none, none, none, none, none, none, none, none, none, none, none, none, none, none, none, none, none, none, none, none, none, none, none, none, some 1] rfl rfl ⟨rfl, rfl, rfl, rfl, rfl, rfl, rfl, rfl, rfl, rfl, rfl, rfl, rfl, rfl, rfl, rfl, rfl, rfl, rfl, rfl, rfl, rfl, rfl, rfl, rfl, rfl, rfl, rfl, rfl, rfl, rfl, rfl, rfl, rfl, trivial⟩ rfl rfl rfl d_X_out_19 (fun H locs hV => ?_)
  have e_ := Option.some.inj hf
  subst e_
  exact k_iret X rfl hV rfl d_X_out_22
set_option maxHeartbeats 2000000 in
set_option maxRecDepth 20000 in
theorem c_X_out {l : Launch} (D : kD) (h : Nat) (h_here : Nat) (h_kept : Nat) (h_trial : Nat) (h_parts : Nat) (h_text : Nat) (h_sheets : Nat) (h_findings : Nat) (h_here_ground : Nat) (h_here_farms : Nat) (h_here_mountain : Nat) (h_here_ground_heights : Nat) (h_here_ground_ages : Nat) (h_here_ground_walls : Nat) (h_here_farms_kinds : Nat) (h_here_farms_cells : Nat) (h_here_farms_owners : Nat) (h_here_farms_purses : Nat) (h_here_mountain_chances : Nat) (h_here_mountain_shows : Nat) (h_here_mountain_diary : Nat) (h_trial_ground : Nat) (h_trial_farms : Nat) (h_trial_mountain : Nat) (h_trial_ground_heights : Nat) (h_trial_ground_ages : Nat) (h_trial_ground_walls : Nat) (h_trial_farms_kinds : Nat) (h_trial_farms_cells : Nat) (h_trial_farms_owners : Nat) (h_trial_farms_purses : Nat) (h_trial_mountain_chances : Nat) (h_trial_mountain_shows : Nat) (h_trial_mountain_diary : Nat) (v_isKept : Int32) (v_here_month : Int32) (v_here_volume : Int32) (v_here_outs : Int32) (v_here_fed : Int32) (v_here_fedOuts : Int32) (v_here_arePigsTold : Int32) (v_here_ground_vent : Int32) (v_here_ground_ash : Int32) (v_here_ground_heights : Nat → Int32) (v_here_ground_ages : Nat → Int32) (v_here_ground_walls : Nat → Int32) (v_here_farms_number : Int32) (v_here_farms_burnt : Int32) (v_here_farms_kinds : Nat → Int32) (v_here_farms_cells : Nat → Int32) (v_here_farms_owners : Nat → Int32) (v_here_farms_purses : Nat → Int32) (v_here_mountain_seen : Int32) (v_here_mountain_state : Int32) (v_here_mountain_z : Int32) (v_here_mountain_chances : Nat → Int32) (v_here_mountain_shows : Nat → Int32) (v_here_mountain_diary : Nat → Int32) (v_trial_month : Int32) (v_trial_volume : Int32) (v_trial_outs : Int32) (v_trial_fed : Int32) (v_trial_fedOuts : Int32) (v_trial_arePigsTold : Int32) (v_trial_ground_vent : Int32) (v_trial_ground_ash : Int32) (v_trial_ground_heights : Nat → Int32) (v_trial_ground_ages : Nat → Int32) (v_trial_ground_walls : Nat → Int32) (v_trial_farms_number : Int32) (v_trial_farms_burnt : Int32) (v_trial_farms_kinds : Nat → Int32) (v_trial_farms_cells : Nat → Int32) (v_trial_farms_owners : Nat → Int32) (v_trial_farms_purses : Nat → Int32) (v_trial_mountain_seen : Int32) (v_trial_mountain_state : Int32) (v_trial_mountain_z : Int32) (v_trial_mountain_chances : Nat → Int32) (v_trial_mountain_shows : Nat → Int32) (v_trial_mountain_diary : Nat → Int32) (v_findings : Nat → Int32) {out : Int32 × Int32 × Int32 × Int32 × Int32 × Int32 × Int32 × Int32 × Int32 × (Nat → Int32) × (Nat → Int32) × (Nat → Int32) × Int32 × Int32 × (Nat → Int32) × (Nat → Int32) × (Nat → Int32) × (Nat → Int32) × Int32 × Int32 × Int32 × (Nat → Int32) × (Nat → Int32) × (Nat → Int32) × (Nat → Int32)} (hf : f_X_out v_here_month v_here_volume v_here_outs v_here_fed v_here_fedOuts v_here_arePigsTold v_here_ground_vent v_here_ground_ash v_here_ground_heights v_here_ground_ages v_here_ground_walls v_here_farms_number v_here_farms_burnt v_here_farms_kinds v_here_farms_cells v_here_farms_owners v_here_farms_purses v_here_mountain_seen v_here_mountain_state v_here_mountain_z v_here_mountain_chances v_here_mountain_shows v_here_mountain_diary v_trial_month v_trial_volume v_trial_outs v_trial_fed v_trial_fedOuts v_trial_arePigsTold v_trial_ground_vent v_trial_ground_ash v_trial_ground_heights v_trial_ground_ages v_trial_ground_walls v_trial_farms_number v_trial_farms_burnt v_trial_farms_kinds v_trial_farms_cells v_trial_farms_owners v_trial_farms_purses v_trial_mountain_seen v_trial_mountain_state v_trial_mountain_z v_trial_mountain_chances v_trial_mountain_shows v_trial_mountain_diary v_findings = some out) : kMi l D y_X_out b_X_out 2 (some .int) { frames := 5, cells := 0, slots := 0, locals := 116 } [.ref h] (wd_X_out D h h_here h_kept h_trial h_parts h_text h_sheets h_findings h_here_ground h_here_farms h_here_mountain h_here_ground_heights h_here_ground_ages h_here_ground_walls h_here_farms_kinds h_here_farms_cells h_here_farms_owners h_here_farms_purses h_here_mountain_chances h_here_mountain_shows h_here_mountain_diary h_trial_ground h_trial_farms h_trial_mountain h_trial_ground_heights h_trial_ground_ages h_trial_ground_walls h_trial_farms_kinds h_trial_farms_cells h_trial_farms_owners h_trial_farms_purses h_trial_mountain_chances h_trial_mountain_shows h_trial_mountain_diary v_isKept v_here_month v_here_volume v_here_outs v_here_fed v_here_fedOuts v_here_arePigsTold v_here_ground_vent v_here_ground_ash v_here_ground_heights v_here_ground_ages v_here_ground_walls v_here_farms_number v_here_farms_burnt v_here_farms_kinds v_here_farms_cells v_here_farms_owners v_here_farms_purses v_here_mountain_seen v_here_mountain_state v_here_mountain_z v_here_mountain_chances v_here_mountain_shows v_here_mountain_diary v_trial_month v_trial_volume v_trial_outs v_trial_fed v_trial_fedOuts v_trial_arePigsTold v_trial_ground_vent v_trial_ground_ash v_trial_ground_heights v_trial_ground_ages v_trial_ground_walls v_trial_farms_number v_trial_farms_burnt v_trial_farms_kinds v_trial_farms_cells v_trial_farms_owners v_trial_farms_purses v_trial_mountain_seen v_trial_mountain_state v_trial_mountain_z v_trial_mountain_chances v_trial_mountain_shows v_trial_mountain_diary v_findings) (wd_X_out D h h_here h_kept h_trial h_parts h_text h_sheets h_findings h_here_ground h_here_farms h_here_mountain h_here_ground_heights h_here_ground_ages h_here_ground_walls h_here_farms_kinds h_here_farms_cells h_here_farms_owners h_here_farms_purses h_here_mountain_chances h_here_mountain_shows h_here_mountain_diary h_trial_ground h_trial_farms h_trial_mountain h_trial_ground_heights h_trial_ground_ages h_trial_ground_walls h_trial_farms_kinds h_trial_farms_cells h_trial_farms_owners h_trial_farms_purses h_trial_mountain_chances h_trial_mountain_shows h_trial_mountain_diary v_isKept v_here_month v_here_volume v_here_outs v_here_fed v_here_fedOuts v_here_arePigsTold v_here_ground_vent v_here_ground_ash v_here_ground_heights v_here_ground_ages v_here_ground_walls v_here_farms_number v_here_farms_burnt v_here_farms_kinds v_here_farms_cells v_here_farms_owners v_here_farms_purses v_here_mountain_seen v_here_mountain_state v_here_mountain_z v_here_mountain_chances v_here_mountain_shows v_here_mountain_diary out.2.1 out.2.2.1 out.2.2.2.1 out.2.2.2.2.1 out.2.2.2.2.2.1 out.2.2.2.2.2.2.1 out.2.2.2.2.2.2.2.1 out.2.2.2.2.2.2.2.2.1 out.2.2.2.2.2.2.2.2.2.1 out.2.2.2.2.2.2.2.2.2.2.1 out.2.2.2.2.2.2.2.2.2.2.2.1 out.2.2.2.2.2.2.2.2.2.2.2.2.1 out.2.2.2.2.2.2.2.2.2.2.2.2.2.1 out.2.2.2.2.2.2.2.2.2.2.2.2.2.2.1 out.2.2.2.2.2.2.2.2.2.2.2.2.2.2.2.1 out.2.2.2.2.2.2.2.2.2.2.2.2.2.2.2.2.1 out.2.2.2.2.2.2.2.2.2.2.2.2.2.2.2.2.2.1 out.2.2.2.2.2.2.2.2.2.2.2.2.2.2.2.2.2.2.1 out.2.2.2.2.2.2.2.2.2.2.2.2.2.2.2.2.2.2.2.1 out.2.2.2.2.2.2.2.2.2.2.2.2.2.2.2.2.2.2.2.2.1 out.2.2.2.2.2.2.2.2.2.2.2.2.2.2.2.2.2.2.2.2.2.1 out.2.2.2.2.2.2.2.2.2.2.2.2.2.2.2.2.2.2.2.2.2.2.1 out.2.2.2.2.2.2.2.2.2.2.2.2.2.2.2.2.2.2.2.2.2.2.2.1 out.2.2.2.2.2.2.2.2.2.2.2.2.2.2.2.2.2.2.2.2.2.2.2.2) out.1 :=
  kMi_of (own := "MountainFarms") (plainFor_of_name (by decide)) rfl rfl (fun p e s m args below meth c ls X hV hl => t_X_out X hf hV hl)
