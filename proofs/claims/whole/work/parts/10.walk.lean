/-! printed by wip/gen: walks -/
set_option maxHeartbeats 2000000 in
set_option maxRecDepth 20000 in
theorem t_Ma_abs {l : Launch} {p : Program} {e : Env} {s : State} {m : MethodId} {args : Array Value} {below : List Frame} {meth : Method} {c : Code} {D : kD} {wc0 : va_W} {x0 : Int32} {out : Int32} (X : kX p m meth c s args D (va_A wc0 s.heap.size) b_Ma_abs "java/lang/Math" 1 (some .int)) (hf : f_Ma_abs x0 = some out) {H : Heap} {locs : List Loc} (hV : kV D (va_A wc0 s.heap.size) s (wd_Ma_abs D) H locs) {ls : Array Slot} (hl : lv_has ls 1 [(0, .int x0)]) : W p l e { frames := 0, cells := 0, slots := 0, locals := 0 } s m args below meth c H locs 0 0 (MQ below (kQi D wc0 (wd_Ma_abs D) s.heap.size out) args s 0 0 (va_A wc0 s.heap.size)) (F0 m 0 ls []) := by
  unfold f_Ma_abs at hf
  obtain ⟨hx, hb, -⟩ := id X
  refine lv_iload_n hx hb d_Ma_abs_0 rfl (lv_at hl 0 rfl) ?_
  refine lv_if_ge (tgt := 9) hx hb d_Ma_abs_1 (by decide) (fun c_2 => ?_) (fun c_2 => ?_)
  · replace hf := kifp c_2 hf
    refine lv_iload_n hx hb d_Ma_abs_9 rfl (lv_at hl 0 rfl) ?_
    have e_ := Option.some.inj hf
    subst e_
    exact k_iret X rfl hV rfl d_Ma_abs_10
  replace hf := kifn c_2 hf
  refine lv_iload_n hx hb d_Ma_abs_4 rfl (lv_at hl 0 rfl) ?_
  refine lv_ineg hx hb d_Ma_abs_5 ?_
  refine lv_goto (tgt := 10) hx hb d_Ma_abs_6 (by decide) ?_
  have e_ := Option.some.inj hf
  subst e_
  exact k_iret X rfl hV rfl d_Ma_abs_10
set_option maxHeartbeats 2000000 in
set_option maxRecDepth 20000 in
theorem c_Ma_abs {l : Launch} (D : kD) (x0 : Int32) {out : Int32} (hf : f_Ma_abs x0 = some out) : kMi l D y_Ma_abs b_Ma_abs 1 (some .int) { frames := 0, cells := 0, slots := 0, locals := 0 } [.int x0] (wd_Ma_abs D) (wd_Ma_abs D) out :=
  kMi_of (own := "java/lang/Math") (by decide +kernel) rfl rfl (fun p e s m args below meth c ls X hV hl => t_Ma_abs X hf hV hl)
set_option maxHeartbeats 2000000 in
set_option maxRecDepth 20000 in
theorem t_Ma_max {l : Launch} {p : Program} {e : Env} {s : State} {m : MethodId} {args : Array Value} {below : List Frame} {meth : Method} {c : Code} {D : kD} {wc0 : va_W} {x0 : Int32} {x1 : Int32} {out : Int32} (X : kX p m meth c s args D (va_A wc0 s.heap.size) b_Ma_max "java/lang/Math" 2 (some .int)) (hf : f_Ma_max x0 x1 = some out) {H : Heap} {locs : List Loc} (hV : kV D (va_A wc0 s.heap.size) s (wd_Ma_max D) H locs) {ls : Array Slot} (hl : lv_has ls 2 [(0, .int x0), (1, .int x1)]) : W p l e { frames := 0, cells := 0, slots := 0, locals := 0 } s m args below meth c H locs 0 0 (MQ below (kQi D wc0 (wd_Ma_max D) s.heap.size out) args s 0 0 (va_A wc0 s.heap.size)) (F0 m 0 ls []) := by
  unfold f_Ma_max at hf
  obtain ⟨hx, hb, -⟩ := id X
  refine lv_iload_n hx hb d_Ma_max_0 rfl (lv_at hl 0 rfl) ?_
  refine lv_iload_n hx hb d_Ma_max_1 rfl (lv_at hl 1 rfl) ?_
  refine lv_icmp_lt (tgt := 9) hx hb d_Ma_max_2 (by decide) (fun c_2 => ?_) (fun c_2 => ?_)
  · replace hf := kifp c_2 hf
    refine lv_iload_n hx hb d_Ma_max_9 rfl (lv_at hl 1 rfl) ?_
    have e_ := Option.some.inj hf
    subst e_
    exact k_iret X rfl hV rfl d_Ma_max_10
  replace hf := kifn c_2 hf
  refine lv_iload_n hx hb d_Ma_max_5 rfl (lv_at hl 0 rfl) ?_
  refine lv_goto (tgt := 10) hx hb d_Ma_max_6 (by decide) ?_
  have e_ := Option.some.inj hf
  subst e_
  exact k_iret X rfl hV rfl d_Ma_max_10
set_option maxHeartbeats 2000000 in
set_option maxRecDepth 20000 in
theorem c_Ma_max {l : Launch} (D : kD) (x0 : Int32) (x1 : Int32) {out : Int32} (hf : f_Ma_max x0 x1 = some out) : kMi l D y_Ma_max b_Ma_max 2 (some .int) { frames := 0, cells := 0, slots := 0, locals := 0 } [.int x0, .int x1] (wd_Ma_max D) (wd_Ma_max D) out :=
  kMi_of (own := "java/lang/Math") (by decide +kernel) rfl rfl (fun p e s m args below meth c ls X hV hl => t_Ma_max X hf hV hl)
set_option maxHeartbeats 2000000 in
set_option maxRecDepth 20000 in
theorem t_X_isCell {l : Launch} {p : Program} {e : Env} {s : State} {m : MethodId} {args : Array Value} {below : List Frame} {meth : Method} {c : Code} {D : kD} {wc0 : va_W} {x0 : Int32} {out : Int32} (X : kX p m meth c s args D (va_A wc0 s.heap.size) b_X_isCell "MountainFarms" 1 (some .boolean)) (hf : f_X_isCell x0 = some out) {H : Heap} {locs : List Loc} (hV : kV D (va_A wc0 s.heap.size) s (wd_X_isCell D) H locs) {ls : Array Slot} (hl : lv_has ls 1 [(0, .int x0)]) : W p l e { frames := 0, cells := 0, slots := 0, locals := 0 } s m args below meth c H locs 0 0 (MQ below (kQi D wc0 (wd_X_isCell D) s.heap.size out) args s 0 0 (va_A wc0 s.heap.size)) (F0 m 0 ls []) := by
  unfold f_X_isCell at hf
  obtain ⟨hx, hb, -⟩ := id X
  refine lv_iload_n hx hb d_X_isCell_0 rfl (lv_at hl 0 rfl) ?_
  refine lv_if_lt (tgt := 14) hx hb d_X_isCell_1 (by decide) (fun c_3 => ?_) (fun c_3 => ?_)
  · replace hf := kifp c_3 hf
    refine lv_iconst (v := 0) hx hb d_X_isCell_14 ic_0 ?_
    have e_ := Option.some.inj hf
    subst e_
    exact k_iret (v := 0) X rfl hV nb0 d_X_isCell_15
  replace hf := kifn c_3 hf
  refine lv_iload_n hx hb d_X_isCell_4 rfl (lv_at hl 0 rfl) ?_
  refine lv_bipush (v := 36) hx hb d_X_isCell_5 bp_36 ?_
  refine lv_icmp_ge (tgt := 14) hx hb d_X_isCell_7 (by decide) (fun c_4 => ?_) (fun c_4 => ?_)
  · replace hf := kifp c_4 hf
    refine lv_iconst (v := 0) hx hb d_X_isCell_14 ic_0 ?_
    have e_ := Option.some.inj hf
    subst e_
    exact k_iret (v := 0) X rfl hV nb0 d_X_isCell_15
  replace hf := kifn c_4 hf
  refine lv_iconst (v := 1) hx hb d_X_isCell_10 ic_1 ?_
  refine lv_goto (tgt := 15) hx hb d_X_isCell_11 (by decide) ?_
  have e_ := Option.some.inj hf
  subst e_
  exact k_iret (v := 1) X rfl hV nb1 d_X_isCell_15
set_option maxHeartbeats 2000000 in
set_option maxRecDepth 20000 in
theorem c_X_isCell {l : Launch} (D : kD) (x0 : Int32) {out : Int32} (hf : f_X_isCell x0 = some out) : kMi l D y_X_isCell b_X_isCell 1 (some .boolean) { frames := 0, cells := 0, slots := 0, locals := 0 } [.int x0] (wd_X_isCell D) (wd_X_isCell D) out :=
  kMi_of (own := "MountainFarms") (plainFor_of_name (by decide)) rfl rfl (fun p e s m args below meth c ls X hV hl => t_X_isCell X hf hV hl)
set_option maxHeartbeats 2000000 in
set_option maxRecDepth 20000 in
theorem t_X_isWithin {l : Launch} {p : Program} {e : Env} {s : State} {m : MethodId} {args : Array Value} {below : List Frame} {meth : Method} {c : Code} {D : kD} {wc0 : va_W} {x0 : Int32} {x1 : Int32} {x2 : Int32} {out : Int32} (X : kX p m meth c s args D (va_A wc0 s.heap.size) b_X_isWithin "MountainFarms" 3 (some .boolean)) (hf : f_X_isWithin x0 x1 x2 = some out) {H : Heap} {locs : List Loc} (hV : kV D (va_A wc0 s.heap.size) s (wd_X_isWithin D) H locs) {ls : Array Slot} (hl : lv_has ls 3 [(0, .int x0), (1, .int x1), (2, .int x2)]) : W p l e { frames := 0, cells := 0, slots := 0, locals := 0 } s m args below meth c H locs 0 0 (MQ below (kQi D wc0 (wd_X_isWithin D) s.heap.size out) args s 0 0 (va_A wc0 s.heap.size)) (F0 m 0 ls []) := by
  unfold f_X_isWithin at hf
  obtain ⟨hx, hb, -⟩ := id X
  refine lv_iload_n hx hb d_X_isWithin_0 rfl (lv_at hl 0 rfl) ?_
  refine lv_iload_n hx hb d_X_isWithin_1 rfl (lv_at hl 1 rfl) ?_
  refine lv_icmp_lt (tgt := 14) hx hb d_X_isWithin_2 (by decide) (fun c_3 => ?_) (fun c_3 => ?_)
  · replace hf := kifp c_3 hf
    refine lv_iconst (v := 0) hx hb d_X_isWithin_14 ic_0 ?_
    have e_ := Option.some.inj hf
    subst e_
    exact k_iret (v := 0) X rfl hV nb0 d_X_isWithin_15
  replace hf := kifn c_3 hf
  refine lv_iload_n hx hb d_X_isWithin_5 rfl (lv_at hl 0 rfl) ?_
  refine lv_iload_n hx hb d_X_isWithin_6 rfl (lv_at hl 2 rfl) ?_
  refine lv_icmp_gt (tgt := 14) hx hb d_X_isWithin_7 (by decide) (fun c_4 => ?_) (fun c_4 => ?_)
  · replace hf := kifp c_4 hf
    refine lv_iconst (v := 0) hx hb d_X_isWithin_14 ic_0 ?_
    have e_ := Option.some.inj hf
    subst e_
    exact k_iret (v := 0) X rfl hV nb0 d_X_isWithin_15
  replace hf := kifn c_4 hf
  refine lv_iconst (v := 1) hx hb d_X_isWithin_10 ic_1 ?_
  refine lv_goto (tgt := 15) hx hb d_X_isWithin_11 (by decide) ?_
  have e_ := Option.some.inj hf
  subst e_
  exact k_iret (v := 1) X rfl hV nb1 d_X_isWithin_15
set_option maxHeartbeats 2000000 in
set_option maxRecDepth 20000 in
theorem c_X_isWithin {l : Launch} (D : kD) (x0 : Int32) (x1 : Int32) (x2 : Int32) {out : Int32} (hf : f_X_isWithin x0 x1 x2 = some out) : kMi l D y_X_isWithin b_X_isWithin 3 (some .boolean) { frames := 0, cells := 0, slots := 0, locals := 0 } [.int x0, .int x1, .int x2] (wd_X_isWithin D) (wd_X_isWithin D) out :=
  kMi_of (own := "MountainFarms") (plainFor_of_name (by decide)) rfl rfl (fun p e s m args below meth c ls X hV hl => t_X_isWithin X hf hV hl)
set_option maxHeartbeats 2000000 in
set_option maxRecDepth 20000 in
theorem t_X_finding {l : Launch} {p : Program} {e : Env} {s : State} {m : MethodId} {args : Array Value} {below : List Frame} {meth : Method} {c : Code} {D : kD} {wc0 : va_W} {h : Nat} {h_here : Nat} {h_kept : Nat} {h_trial : Nat} {h_parts : Nat} {h_text : Nat} {h_sheets : Nat} {h_findings : Nat} {v_isKept : Int32} {v_findings : Nat → Int32} {x1 : Int32} {out : Int32 × (Nat → Int32)} (X : kX p m meth c s args D (va_A wc0 s.heap.size) b_X_finding "MountainFarms" 2 (some .int)) (hf : f_X_finding v_findings x1 = some out) {H : Heap} {locs : List Loc} (hV : kV D (va_A wc0 s.heap.size) s (wd_X_finding D h h_here h_kept h_trial h_parts h_text h_sheets h_findings v_isKept v_findings) H locs) {ls : Array Slot} (hl : lv_has ls 2 [(0, .ref h), (1, .int x1)]) : W p l e { frames := 1, cells := 0, slots := 0, locals := 22 } s m args below meth c H locs 0 0 (MQ below (kQi D wc0 (wd_X_finding D h h_here h_kept h_trial h_parts h_text h_sheets h_findings v_isKept out.2) s.heap.size out.1) args s 0 0 (va_A wc0 s.heap.size)) (F0 m 0 ls []) := by
  unfold f_X_finding at hf
  obtain ⟨hx, hb, -⟩ := id X
  refine lv_iload_n hx hb d_X_finding_0 rfl (lv_at hl 1 rfl) ?_
  refine lv_iconst (v := 0) hx hb d_X_finding_1 ic_0 ?_
  refine lv_bipush (v := 6) hx hb d_X_finding_2 bp_6 ?_
  obtain ⟨r_6, hc_7, hf⟩ := kb1_some hf
  refine k_csi (w1 := (wd_X_isWithin D)) (r := r_6) (ws' := (wd_X_finding D h h_here h_kept h_trial h_parts h_text h_sheets h_findings v_isKept v_findings)) X hV hl.1 (c_X_isWithin D x1 (0 : Int32) (6 : Int32) hc_7) fk_X_isWithin gw_280 rfl [] [none, none] rfl rfl ⟨rfl, rfl, trivial⟩ rfl rfl rfl d_X_finding_4 (fun H locs hV => ?_)
  refine lv_if_eq (tgt := 20) hx hb d_X_finding_7 (by decide) (fun c_8 => ?_) (fun c_8 => ?_)
  · replace hf := kifp c_8 hf
    refine k_ldcw (v := (-1000000001)) X gw_287 d_X_finding_20 ?_
    refine lv_iload_n hx hb d_X_finding_23 rfl (lv_at hl 1 rfl) ?_
    refine lv_isub hx hb d_X_finding_24 ?_
    have e_ := Option.some.inj hf
    subst e_
    exact k_iret X rfl hV rfl d_X_finding_25
  replace hf := kifn c_8 hf
  refine lv_aload_n hx hb d_X_finding_10 rfl (lv_at hl 0 rfl) ?_
  refine k_get X hV 0 8 6 rfl rfl rfl gw_254 rfl rfl d_X_finding_11 ?_
  refine lv_iload_n hx hb d_X_finding_14 rfl (lv_at hl 1 rfl) ?_
  refine lv_dup2_11 hx hb d_X_finding_15 rfl rfl ?_
  obtain ⟨h_9, hf⟩ := kidx_some hf
  refine k_iald X hV 1 rfl h_9 rfl d_X_finding_16 ?_
  refine lv_iconst (v := 1) hx hb d_X_finding_17 ic_1 ?_
  refine lv_iadd hx hb d_X_finding_18 ?_
  obtain ⟨h_10, hf⟩ := kidx_some hf
  refine k_iast (ws' := (wd_X_finding D h h_here h_kept h_trial h_parts h_text h_sheets h_findings v_isKept (upd v_findings x1.toNatClampNeg ((v_findings x1.toNatClampNeg) + (1 : Int32))))) X hV 1 rfl h_10 rfl rfl d_X_finding_19 (fun H locs hV => ?_)
  refine k_ldcw (v := (-1000000001)) X gw_287 d_X_finding_20 ?_
  refine lv_iload_n hx hb d_X_finding_23 rfl (lv_at hl 1 rfl) ?_
  refine lv_isub hx hb d_X_finding_24 ?_
  have e_ := Option.some.inj hf
  subst e_
  exact k_iret X rfl hV rfl d_X_finding_25
set_option maxHeartbeats 2000000 in
set_option maxRecDepth 20000 in
theorem c_X_finding {l : Launch} (D : kD) (h : Nat) (h_here : Nat) (h_kept : Nat) (h_trial : Nat) (h_parts : Nat) (h_text : Nat) (h_sheets : Nat) (h_findings : Nat) (v_isKept : Int32) (v_findings : Nat → Int32) (x1 : Int32) {out : Int32 × (Nat → Int32)} (hf : f_X_finding v_findings x1 = some out) : kMi l D y_X_finding b_X_finding 2 (some .int) { frames := 1, cells := 0, slots := 0, locals := 22 } [.ref h, .int x1] (wd_X_finding D h h_here h_kept h_trial h_parts h_text h_sheets h_findings v_isKept v_findings) (wd_X_finding D h h_here h_kept h_trial h_parts h_text h_sheets h_findings v_isKept out.2) out.1 :=
  kMi_of (own := "MountainFarms") (plainFor_of_name (by decide)) rfl rfl (fun p e s m args below meth c ls X hV hl => t_X_finding X hf hV hl)
set_option maxHeartbeats 2000000 in
set_option maxRecDepth 20000 in
theorem t_X_set_1 {l : Launch} {p : Program} {e : Env} {s : State} {m : MethodId} {args : Array Value} {below : List Frame} {meth : Method} {c : Code} {D : kD} {wc0 : va_W} {h : Nat} {h_here : Nat} {h_kept : Nat} {h_trial : Nat} {h_parts : Nat} {h_text : Nat} {h_sheets : Nat} {h_findings : Nat} {h_here_ground : Nat} {h_here_farms : Nat} {h_here_mountain : Nat} {h_here_ground_heights : Nat} {h_here_ground_ages : Nat} {h_here_ground_walls : Nat} {v_isKept : Int32} {v_here_month : Int32} {v_here_volume : Int32} {v_here_outs : Int32} {v_here_fed : Int32} {v_here_fedOuts : Int32} {v_here_arePigsTold : Int32} {v_here_ground_vent : Int32} {v_here_ground_ash : Int32} {v_here_ground_heights : Nat → Int32} {v_here_ground_ages : Nat → Int32} {v_findings : Nat → Int32} {out : Int32 × (Nat → Int32) × (Nat → Int32) × (Nat → Int32)} (X : kX p m meth c s args D (va_A wc0 s.heap.size) b_X_set "MountainFarms" 6 (some .int)) (hf : f_X_set_1 v_here_ground_heights v_here_ground_ages v_findings = some out) {H : Heap} {locs : List Loc} (hV : kV D (va_A wc0 s.heap.size) s (wd_X_set D h h_here h_kept h_trial h_parts h_text h_sheets h_findings h_here_ground h_here_farms h_here_mountain h_here_ground_heights h_here_ground_ages h_here_ground_walls v_isKept v_here_month v_here_volume v_here_outs v_here_fed v_here_fedOuts v_here_arePigsTold v_here_ground_vent v_here_ground_ash v_here_ground_heights v_here_ground_ages v_findings) H locs) {ls : Array Slot} (hl : lv_has ls 6 [(0, .ref h)]) : W p l e { frames := 2, cells := 0, slots := 0, locals := 43 } s m args below meth c H locs 0 0 (MQ below (kQi D wc0 (wd_X_set D h h_here h_kept h_trial h_parts h_text h_sheets h_findings h_here_ground h_here_farms h_here_mountain h_here_ground_heights h_here_ground_ages h_here_ground_walls v_isKept v_here_month v_here_volume v_here_outs v_here_fed v_here_fedOuts v_here_arePigsTold v_here_ground_vent v_here_ground_ash out.2.1 out.2.2.1 out.2.2.2) s.heap.size out.1) args s 0 0 (va_A wc0 s.heap.size)) (F0 m 26 ls []) := by
  unfold f_X_set_1 at hf
  obtain ⟨hx, hb, -⟩ := id X
  refine lv_aload_n hx hb d_X_set_26 rfl (lv_at hl 0 rfl) ?_
  refine lv_iconst (v := 0) hx hb d_X_set_27 ic_0 ?_
  obtain ⟨r_36, v_findings_37, hc_38, hf⟩ := kb2_some hf
  refine k_cvi (w1 := (wd_X_finding D h h_here h_kept h_trial h_parts h_text h_sheets h_findings v_isKept v_findings_37)) (r := r_36) (ws' := (wd_X_set D h h_here h_kept h_trial h_parts h_text h_sheets h_findings h_here_ground h_here_farms h_here_mountain h_here_ground_heights h_here_ground_ages h_here_ground_walls v_isKept v_here_month v_here_volume v_here_outs v_here_fed v_here_fedOuts v_here_arePigsTold v_here_ground_vent v_here_ground_ash v_here_ground_heights v_here_ground_ages v_findings_37)) X hV hl.1 (c_X_finding D h h_here h_kept h_trial h_parts h_text h_sheets h_findings v_isKept v_findings (0 : Int32) hc_38) fk_X_finding gw_283 rfl 0 8 rfl rfl [0, 5] [some 0, none, none, none, none, some 1] rfl rfl ⟨rfl, rfl, rfl, rfl, rfl, rfl, rfl, rfl, rfl, rfl, trivial⟩ rfl rfl rfl d_X_set_28 (fun H locs hV => ?_)
  have e_ := Option.some.inj hf
  subst e_
  exact k_iret X rfl hV rfl d_X_set_31
set_option maxHeartbeats 2000000 in
set_option maxRecDepth 20000 in
theorem t_X_set {l : Launch} {p : Program} {e : Env} {s : State} {m : MethodId} {args : Array Value} {below : List Frame} {meth : Method} {c : Code} {D : kD} {wc0 : va_W} {h : Nat} {h_here : Nat} {h_kept : Nat} {h_trial : Nat} {h_parts : Nat} {h_text : Nat} {h_sheets : Nat} {h_findings : Nat} {h_here_ground : Nat} {h_here_farms : Nat} {h_here_mountain : Nat} {h_here_ground_heights : Nat} {h_here_ground_ages : Nat} {h_here_ground_walls : Nat} {v_isKept : Int32} {v_here_month : Int32} {v_here_volume : Int32} {v_here_outs : Int32} {v_here_fed : Int32} {v_here_fedOuts : Int32} {v_here_arePigsTold : Int32} {v_here_ground_vent : Int32} {v_here_ground_ash : Int32} {v_here_ground_heights : Nat → Int32} {v_here_ground_ages : Nat → Int32} {v_findings : Nat → Int32} {x1 : Int32} {x2 : Int32} {x3 : Int32} {out : Int32 × (Nat → Int32) × (Nat → Int32) × (Nat → Int32)} (X : kX p m meth c s args D (va_A wc0 s.heap.size) b_X_set "MountainFarms" 6 (some .int)) (hf : f_X_set v_here_ground_heights v_here_ground_ages v_findings x1 x2 x3 = some out) {H : Heap} {locs : List Loc} (hV : kV D (va_A wc0 s.heap.size) s (wd_X_set D h h_here h_kept h_trial h_parts h_text h_sheets h_findings h_here_ground h_here_farms h_here_mountain h_here_ground_heights h_here_ground_ages h_here_ground_walls v_isKept v_here_month v_here_volume v_here_outs v_here_fed v_here_fedOuts v_here_arePigsTold v_here_ground_vent v_here_ground_ash v_here_ground_heights v_here_ground_ages v_findings) H locs) {ls : Array Slot} (hl : lv_has ls 6 [(0, .ref h), (1, .int x1), (2, .int x2), (3, .int x3)]) : W p l e { frames := 2, cells := 0, slots := 0, locals := 43 } s m args below meth c H locs 0 0 (MQ below (kQi D wc0 (wd_X_set D h h_here h_kept h_trial h_parts h_text h_sheets h_findings h_here_ground h_here_farms h_here_mountain h_here_ground_heights h_here_ground_ages h_here_ground_walls v_isKept v_here_month v_here_volume v_here_outs v_here_fed v_here_fedOuts v_here_arePigsTold v_here_ground_vent v_here_ground_ash out.2.1 out.2.2.1 out.2.2.2) s.heap.size out.1) args s 0 0 (va_A wc0 s.heap.size)) (F0 m 0 ls []) := by
  unfold f_X_set at hf
  obtain ⟨hx, hb, -⟩ := id X
  refine lv_iload_n hx hb d_X_set_0 rfl (lv_at hl 1 rfl) ?_
  obtain ⟨r_20, hc_21, hf⟩ := kb1_some hf
  refine k_csi (w1 := (wd_X_isCell D)) (r := r_20) (ws' := (wd_X_set D h h_here h_kept h_trial h_parts h_text h_sheets h_findings h_here_ground h_here_farms h_here_mountain h_here_ground_heights h_here_ground_ages h_here_ground_walls v_isKept v_here_month v_here_volume v_here_outs v_here_fed v_here_fedOuts v_here_arePigsTold v_here_ground_vent v_here_ground_ash v_here_ground_heights v_here_ground_ages v_findings)) X hV hl.1 (c_X_isCell D x1 hc_21) fk_X_isCell gw_277 rfl [] [none, none, none, none, none, none] rfl rfl ⟨rfl, rfl, rfl, rfl, rfl, rfl, trivial⟩ rfl rfl rfl d_X_set_1 (fun H locs hV => ?_)
  refine lv_if_eq (tgt := 26) hx hb d_X_set_4 (by decide) (fun c_22 => ?_) (fun c_22 => ?_)
  · replace hf := kifp c_22 hf
    exact t_X_set_1 X hf hV (lv_sub hl [0] rfl)
  replace hf := kifn c_22 hf
  refine lv_iload_n hx hb d_X_set_7 rfl (lv_at hl 2 rfl) ?_
  refine lv_iconst (v := 0) hx hb d_X_set_8 ic_0 ?_
  refine lv_iconst (v := 1) hx hb d_X_set_9 ic_1 ?_
  obtain ⟨r_23, hc_24, hf⟩ := kb1_some hf
  refine k_csi (w1 := (wd_X_isWithin D)) (r := r_23) (ws' := (wd_X_set D h h_here h_kept h_trial h_parts h_text h_sheets h_findings h_here_ground h_here_farms h_here_mountain h_here_ground_heights h_here_ground_ages h_here_ground_walls v_isKept v_here_month v_here_volume v_here_outs v_here_fed v_here_fedOuts v_here_arePigsTold v_here_ground_vent v_here_ground_ash v_here_ground_heights v_here_ground_ages v_findings)) X hV hl.1 (c_X_isWithin D x2 (0 : Int32) (1 : Int32) hc_24) fk_X_isWithin gw_280 rfl [] [none, none, none, none, none, none] rfl rfl ⟨rfl, rfl, rfl, rfl, rfl, rfl, trivial⟩ rfl rfl rfl d_X_set_10 (fun H locs hV => ?_)
  refine lv_if_eq (tgt := 26) hx hb d_X_set_13 (by decide) (fun c_25 => ?_) (fun c_25 => ?_)
  · replace hf := kifp c_25 hf
    exact t_X_set_1 X hf hV (lv_sub hl [0] rfl)
  replace hf := kifn c_25 hf
  refine lv_iload_n hx hb d_X_set_16 rfl (lv_at hl 3 rfl) ?_
  refine lv_iconst (v := 0) hx hb d_X_set_17 ic_0 ?_
  refine lv_bipush (v := 99) hx hb d_X_set_18 bp_99 ?_
  obtain ⟨r_26, hc_27, hf⟩ := kb1_some hf
  refine k_csi (w1 := (wd_X_isWithin D)) (r := r_26) (ws' := (wd_X_set D h h_here h_kept h_trial h_parts h_text h_sheets h_findings h_here_ground h_here_farms h_here_mountain h_here_ground_heights h_here_ground_ages h_here_ground_walls v_isKept v_here_month v_here_volume v_here_outs v_here_fed v_here_fedOuts v_here_arePigsTold v_here_ground_vent v_here_ground_ash v_here_ground_heights v_here_ground_ages v_findings)) X hV hl.1 (c_X_isWithin D x3 (0 : Int32) (99 : Int32) hc_27) fk_X_isWithin gw_280 rfl [] [none, none, none, none, none, none] rfl rfl ⟨rfl, rfl, rfl, rfl, rfl, rfl, trivial⟩ rfl rfl rfl d_X_set_20 (fun H locs hV => ?_)
  refine lv_if_ne (tgt := 32) hx hb d_X_set_23 (by decide) (fun c_28 => ?_) (fun c_28 => ?_)
  · replace hf := kifn c_28 hf
    refine lv_iload_n hx hb d_X_set_32 rfl (lv_at hl 2 rfl) ?_
    refine lv_if_ne (tgt := 49) hx hb d_X_set_33 (by decide) (fun c_29 => ?_) (fun c_29 => ?_)
    · replace hf := kifn c_29 hf
      refine lv_aload_n hx hb d_X_set_49 rfl (lv_at hl 0 rfl) ?_
      refine k_get X hV 0 8 0 rfl rfl rfl gw_248 rfl rfl d_X_set_50 ?_
      refine k_get X hV 1 5 0 rfl rfl rfl gw_136 rfl rfl d_X_set_53 ?_
      refine k_get X hV 2 1 1 rfl rfl rfl gw_49 rfl rfl d_X_set_56 ?_
      refine lv_astore (lv' := [(4, .ref h_here_ground_ages), (0, .ref h), (1, .int x1), (2, .int x2), (3, .int x3)]) hx hb d_X_set_59 hl (by decide) rfl (fun ls hl => ?_)
      refine lv_aload hx hb d_X_set_61 (lv_at hl 0 rfl) ?_
      refine lv_iload_n hx hb d_X_set_63 rfl (lv_at hl 2 rfl) ?_
      obtain ⟨h_30, hf⟩ := kidx_some hf
      refine k_iald X hV 4 rfl h_30 rfl d_X_set_64 ?_
      refine k_leti hf (fun x5_31 hf => ?_)
      refine lv_istore (lv' := [(5, .int x5_31), (4, .ref h_here_ground_ages), (0, .ref h), (1, .int x1), (2, .int x2), (3, .int x3)]) hx hb d_X_set_65 hl (by decide) rfl (fun ls hl => ?_)
      refine lv_aload hx hb d_X_set_67 (lv_at hl 1 rfl) ?_
      refine lv_iload_n hx hb d_X_set_69 rfl (lv_at hl 3 rfl) ?_
      refine lv_iload_n hx hb d_X_set_70 rfl (lv_at hl 5 rfl) ?_
      obtain ⟨h_32, hf⟩ := kidx_some hf
      refine k_iast (ws' := (wd_X_set D h h_here h_kept h_trial h_parts h_text h_sheets h_findings h_here_ground h_here_farms h_here_mountain h_here_ground_heights h_here_ground_ages h_here_ground_walls v_isKept v_here_month v_here_volume v_here_outs v_here_fed v_here_fedOuts v_here_arePigsTold v_here_ground_vent v_here_ground_ash v_here_ground_heights (upd v_here_ground_ages x1.toNatClampNeg x3) v_findings)) X hV 4 rfl h_32 rfl rfl d_X_set_71 (fun H locs hV => ?_)
      refine lv_iload hx hb d_X_set_72 (lv_at hl 0 rfl) ?_
      have e_ := Option.some.inj hf
      subst e_
      exact k_iret X rfl hV rfl d_X_set_74
    replace hf := kifp c_29 hf
    refine lv_aload_n hx hb d_X_set_36 rfl (lv_at hl 0 rfl) ?_
    refine k_get X hV 0 8 0 rfl rfl rfl gw_248 rfl rfl d_X_set_37 ?_
    refine k_get X hV 1 5 0 rfl rfl rfl gw_136 rfl rfl d_X_set_40 ?_
    refine k_get X hV 2 1 0 rfl rfl rfl gw_46 rfl rfl d_X_set_43 ?_
    refine lv_goto (tgt := 59) hx hb d_X_set_46 (by decide) ?_
    refine lv_astore (lv' := [(4, .ref h_here_ground_heights), (0, .ref h), (1, .int x1), (2, .int x2), (3, .int x3)]) hx hb d_X_set_59 hl (by decide) rfl (fun ls hl => ?_)
    refine lv_aload hx hb d_X_set_61 (lv_at hl 0 rfl) ?_
    refine lv_iload_n hx hb d_X_set_63 rfl (lv_at hl 2 rfl) ?_
    obtain ⟨h_33, hf⟩ := kidx_some hf
    refine k_iald X hV 3 rfl h_33 rfl d_X_set_64 ?_
    refine k_leti hf (fun x5_34 hf => ?_)
    refine lv_istore (lv' := [(5, .int x5_34), (4, .ref h_here_ground_heights), (0, .ref h), (1, .int x1), (2, .int x2), (3, .int x3)]) hx hb d_X_set_65 hl (by decide) rfl (fun ls hl => ?_)
    refine lv_aload hx hb d_X_set_67 (lv_at hl 1 rfl) ?_
    refine lv_iload_n hx hb d_X_set_69 rfl (lv_at hl 3 rfl) ?_
    refine lv_iload_n hx hb d_X_set_70 rfl (lv_at hl 5 rfl) ?_
    obtain ⟨h_35, hf⟩ := kidx_some hf
    refine k_iast (ws' := (wd_X_set D h h_here h_kept h_trial h_parts h_text h_sheets h_findings h_here_ground h_here_farms h_here_mountain h_here_ground_heights h_here_ground_ages h_here_ground_walls v_isKept v_here_month v_here_volume v_here_outs v_here_fed v_here_fedOuts v_here_arePigsTold v_here_ground_vent v_here_ground_ash (upd v_here_ground_heights x1.toNatClampNeg x3) v_here_ground_ages v_findings)) X hV 3 rfl h_35 rfl rfl d_X_set_71 (fun H locs hV => ?_)
    refine lv_iload hx hb d_X_set_72 (lv_at hl 0 rfl) ?_
    have e_ := Option.some.inj hf
    subst e_
    exact k_iret X rfl hV rfl d_X_set_74
  replace hf := kifp c_28 hf
  exact t_X_set_1 X hf hV (lv_sub hl [0] rfl)
set_option maxHeartbeats 2000000 in
set_option maxRecDepth 20000 in
theorem c_X_set {l : Launch} (D : kD) (h : Nat) (h_here : Nat) (h_kept : Nat) (h_trial : Nat) (h_parts : Nat) (h_text : Nat) (h_sheets : Nat) (h_findings : Nat) (h_here_ground : Nat) (h_here_farms : Nat) (h_here_mountain : Nat) (h_here_ground_heights : Nat) (h_here_ground_ages : Nat) (h_here_ground_walls : Nat) (v_isKept : Int32) (v_here_month : Int32) (v_here_volume : Int32) (v_here_outs : Int32) (v_here_fed : Int32) (v_here_fedOuts : Int32) (v_here_arePigsTold : Int32) (v_here_ground_vent : Int32) (v_here_ground_ash : Int32) (v_here_ground_heights : Nat → Int32) (v_here_ground_ages : Nat → Int32) (v_findings : Nat → Int32) (x1 : Int32) (x2 : Int32) (x3 : Int32) {out : Int32 × (Nat → Int32) × (Nat → Int32) × (Nat → Int32)} (hf : f_X_set v_here_ground_heights v_here_ground_ages v_findings x1 x2 x3 = some out) : kMi l D y_X_set b_X_set 6 (some .int) { frames := 2, cells := 0, slots := 0, locals := 43 } [.ref h, .int x1, .int x2, .int x3] (wd_X_set D h h_here h_kept h_trial h_parts h_text h_sheets h_findings h_here_ground h_here_farms h_here_mountain h_here_ground_heights h_here_ground_ages h_here_ground_walls v_isKept v_here_month v_here_volume v_here_outs v_here_fed v_here_fedOuts v_here_arePigsTold v_here_ground_vent v_here_ground_ash v_here_ground_heights v_here_ground_ages v_findings) (wd_X_set D h h_here h_kept h_trial h_parts h_text h_sheets h_findings h_here_ground h_here_farms h_here_mountain h_here_ground_heights h_here_ground_ages h_here_ground_walls v_isKept v_here_month v_here_volume v_here_outs v_here_fed v_here_fedOuts v_here_arePigsTold v_here_ground_vent v_here_ground_ash out.2.1 out.2.2.1 out.2.2.2) out.1 :=
  kMi_of (own := "MountainFarms") (plainFor_of_name (by decide)) rfl rfl (fun p e s m args below meth c ls X hV hl => t_X_set X hf hV hl)
set_option maxHeartbeats 2000000 in
set_option maxRecDepth 20000 in
theorem tb_Fa_farmOn_1 {l : Launch} {p : Program} {e : Env} {s : State} {m : MethodId} {args : Array Value} {below : List Frame} {meth : Method} {c : Code} {D : kD} {wc0 : va_W} {h : Nat} {h_kinds : Nat} {h_cells : Nat} {h_owners : Nat} {h_purses : Nat} {v_number : Int32} {v_burnt : Int32} {v_cells : Nat → Int32} {x1 : Int32} {x2 : Int32} {rec1 : Int32 → Option (Int32)} {out : Int32} (X : kX p m meth c s args D (va_A wc0 s.heap.size) b_Fa_farmOn "MountainFarms$Farms" 3 (some .int)) (hrec1 : ∀ (x2 : Int32), rec1 x2 = some out → ∀ (H : Heap) (locs : List Loc) (ls : Array Slot), kV D (va_A wc0 s.heap.size) s (wd_Fa_farmOn D h h_kinds h_cells h_owners h_purses v_number v_burnt v_cells) H locs → lv_has ls 3 [(0, .ref h), (1, .int x1), (2, .int x2)] → W p l e { frames := 0, cells := 0, slots := 0, locals := 0 } s m args below meth c H locs 0 0 (MQ below (kQi D wc0 (wd_Fa_farmOn D h h_kinds h_cells h_owners h_purses v_number v_burnt v_cells) s.heap.size out) args s 0 0 (va_A wc0 s.heap.size)) (F0 m 2 ls [])) (hf : fb_Fa_farmOn_1 rec1 x1 v_number v_cells x2 = some out) {H : Heap} {locs : List Loc} (hV : kV D (va_A wc0 s.heap.size) s (wd_Fa_farmOn D h h_kinds h_cells h_owners h_purses v_number v_burnt v_cells) H locs) {ls : Array Slot} (hl : lv_has ls 3 [(0, .ref h), (1, .int x1), (2, .int x2)]) : W p l e { frames := 0, cells := 0, slots := 0, locals := 0 } s m args below meth c H locs 0 0 (MQ below (kQi D wc0 (wd_Fa_farmOn D h h_kinds h_cells h_owners h_purses v_number v_burnt v_cells) s.heap.size out) args s 0 0 (va_A wc0 s.heap.size)) (F0 m 2 ls []) := by
  unfold fb_Fa_farmOn_1 at hf
  obtain ⟨hx, hb, -⟩ := id X
  refine lv_iload_n hx hb d_Fa_farmOn_2 rfl (lv_at hl 2 rfl) ?_
  refine lv_aload_n hx hb d_Fa_farmOn_3 rfl (lv_at hl 0 rfl) ?_
  refine k_get X hV 0 0 4 rfl rfl rfl gw_86 rfl rfl d_Fa_farmOn_4 ?_
  refine lv_icmp_ge (tgt := 28) hx hb d_Fa_farmOn_7 (by decide) (fun c_4 => ?_) (fun c_4 => ?_)
  · replace hf := kifp c_4 hf
    refine lv_iconst (v := (-1)) hx hb d_Fa_farmOn_28 ic_m1 ?_
    have e_ := Option.some.inj hf
    subst e_
    exact k_iret X rfl hV rfl d_Fa_farmOn_29
  replace hf := kifn c_4 hf
  refine lv_aload_n hx hb d_Fa_farmOn_10 rfl (lv_at hl 0 rfl) ?_
  refine k_get X hV 0 0 1 rfl rfl rfl gw_80 rfl rfl d_Fa_farmOn_11 ?_
  refine lv_iload_n hx hb d_Fa_farmOn_14 rfl (lv_at hl 2 rfl) ?_
  obtain ⟨h_5, hf⟩ := kidx_some hf
  refine k_iald X hV 1 rfl h_5 rfl d_Fa_farmOn_15 ?_
  refine lv_iload_n hx hb d_Fa_farmOn_16 rfl (lv_at hl 1 rfl) ?_
  refine lv_icmp_ne (tgt := 22) hx hb d_Fa_farmOn_17 (by decide) (fun c_6 => ?_) (fun c_6 => ?_)
  · replace hf := kifn c_6 hf
    refine lv_iinc (v := (x2 + 1)) (lv' := [(2, .int (x2 + 1)), (0, .ref h), (1, .int x1)]) hx hb d_Fa_farmOn_22 hl (k := 2) rfl rfl (by decide) rfl (fun ls hl => ?_)
    refine lv_goto (tgt := 2) hx hb d_Fa_farmOn_25 (by decide) ?_
    exact hrec1 _ hf _ _ _ hV (lv_sub hl [1, 2, 0] rfl)
  replace hf := kifp c_6 hf
  refine lv_iload_n hx hb d_Fa_farmOn_20 rfl (lv_at hl 2 rfl) ?_
  have e_ := Option.some.inj hf
  subst e_
  exact k_iret X rfl hV rfl d_Fa_farmOn_21
set_option maxHeartbeats 2000000 in
set_option maxRecDepth 20000 in
theorem tl_Fa_farmOn_1 {l : Launch} {p : Program} {e : Env} {s : State} {m : MethodId} {args : Array Value} {below : List Frame} {meth : Method} {c : Code} {D : kD} {wc0 : va_W} {h : Nat} {h_kinds : Nat} {h_cells : Nat} {h_owners : Nat} {h_purses : Nat} {v_number : Int32} {v_burnt : Int32} {v_cells : Nat → Int32} {x1 : Int32} {out : Int32} (X : kX p m meth c s args D (va_A wc0 s.heap.size) b_Fa_farmOn "MountainFarms$Farms" 3 (some .int)) : ∀ (n : Nat) (x2 : Int32), fl_Fa_farmOn_1 x1 v_number v_cells n x2 = some out → ∀ (H : Heap) (locs : List Loc) (ls : Array Slot), kV D (va_A wc0 s.heap.size) s (wd_Fa_farmOn D h h_kinds h_cells h_owners h_purses v_number v_burnt v_cells) H locs → lv_has ls 3 [(0, .ref h), (1, .int x1), (2, .int x2)] → W p l e { frames := 0, cells := 0, slots := 0, locals := 0 } s m args below meth c H locs 0 0 (MQ below (kQi D wc0 (wd_Fa_farmOn D h h_kinds h_cells h_owners h_purses v_number v_burnt v_cells) s.heap.size out) args s 0 0 (va_A wc0 s.heap.size)) (F0 m 2 ls []) := by
  intro n
  induction n with
  | zero => intro x2 hf; exact knone hf
  | succ n ih => intro x2 hf H locs ls hV hl; exact tb_Fa_farmOn_1 X ih hf hV hl
set_option maxHeartbeats 2000000 in
set_option maxRecDepth 20000 in
theorem t_Fa_farmOn {l : Launch} {p : Program} {e : Env} {s : State} {m : MethodId} {args : Array Value} {below : List Frame} {meth : Method} {c : Code} {D : kD} {wc0 : va_W} {h : Nat} {h_kinds : Nat} {h_cells : Nat} {h_owners : Nat} {h_purses : Nat} {v_number : Int32} {v_burnt : Int32} {v_cells : Nat → Int32} {x1 : Int32} {out : Int32} (X : kX p m meth c s args D (va_A wc0 s.heap.size) b_Fa_farmOn "MountainFarms$Farms" 3 (some .int)) (hf : f_Fa_farmOn v_number v_cells x1 = some out) {H : Heap} {locs : List Loc} (hV : kV D (va_A wc0 s.heap.size) s (wd_Fa_farmOn D h h_kinds h_cells h_owners h_purses v_number v_burnt v_cells) H locs) {ls : Array Slot} (hl : lv_has ls 3 [(0, .ref h), (1, .int x1)]) : W p l e { frames := 0, cells := 0, slots := 0, locals := 0 } s m args below meth c H locs 0 0 (MQ below (kQi D wc0 (wd_Fa_farmOn D h h_kinds h_cells h_owners h_purses v_number v_burnt v_cells) s.heap.size out) args s 0 0 (va_A wc0 s.heap.size)) (F0 m 0 ls []) := by
  unfold f_Fa_farmOn at hf
  obtain ⟨hx, hb, -⟩ := id X
  refine lv_iconst (v := 0) hx hb d_Fa_farmOn_0 ic_0 ?_
  refine lv_istore_n (lv' := [(2, .int (0 : Int32)), (0, .ref h), (1, .int x1)]) hx hb d_Fa_farmOn_1 rfl hl (by decide) rfl (fun ls hl => ?_)
  exact tl_Fa_farmOn_1 X _ _ hf _ _ _ hV (lv_sub hl [1, 2, 0] rfl)
set_option maxHeartbeats 2000000 in
set_option maxRecDepth 20000 in
theorem c_Fa_farmOn {l : Launch} (D : kD) (h : Nat) (h_kinds : Nat) (h_cells : Nat) (h_owners : Nat) (h_purses : Nat) (v_number : Int32) (v_burnt : Int32) (v_cells : Nat → Int32) (x1 : Int32) {out : Int32} (hf : f_Fa_farmOn v_number v_cells x1 = some out) : kMi l D y_Fa_farmOn b_Fa_farmOn 3 (some .int) { frames := 0, cells := 0, slots := 0, locals := 0 } [.ref h, .int x1] (wd_Fa_farmOn D h h_kinds h_cells h_owners h_purses v_number v_burnt v_cells) (wd_Fa_farmOn D h h_kinds h_cells h_owners h_purses v_number v_burnt v_cells) out :=
  kMi_of (own := "MountainFarms$Farms") (plainFor_of_name (by decide)) rfl rfl (fun p e s m args below meth c ls X hV hl => t_Fa_farmOn X hf hV hl)
set_option maxHeartbeats 2000000 in
set_option maxRecDepth 20000 in
theorem t_X_cellOf {l : Launch} {p : Program} {e : Env} {s : State} {m : MethodId} {args : Array Value} {below : List Frame} {meth : Method} {c : Code} {D : kD} {wc0 : va_W} {h : Nat} {h_here : Nat} {h_kept : Nat} {h_trial : Nat} {h_parts : Nat} {h_text : Nat} {h_sheets : Nat} {h_findings : Nat} {h_here_ground : Nat} {h_here_farms : Nat} {h_here_mountain : Nat} {h_here_ground_heights : Nat} {h_here_ground_ages : Nat} {h_here_ground_walls : Nat} {h_here_farms_kinds : Nat} {h_here_farms_cells : Nat} {h_here_farms_owners : Nat} {h_here_farms_purses : Nat} {v_isKept : Int32} {v_here_month : Int32} {v_here_volume : Int32} {v_here_outs : Int32} {v_here_fed : Int32} {v_here_fedOuts : Int32} {v_here_arePigsTold : Int32} {v_here_ground_vent : Int32} {v_here_ground_ash : Int32} {v_here_ground_heights : Nat → Int32} {v_here_ground_ages : Nat → Int32} {v_here_ground_walls : Nat → Int32} {v_here_farms_number : Int32} {v_here_farms_burnt : Int32} {v_here_farms_cells : Nat → Int32} {v_findings : Nat → Int32} {x1 : Int32} {x2 : Int32} {out : Int32 × (Nat → Int32)} (X : kX p m meth c s args D (va_A wc0 s.heap.size) b_X_cellOf "MountainFarms" 3 (some .int)) (hf : f_X_cellOf v_here_ground_heights v_here_ground_ages v_here_ground_walls v_here_farms_number v_here_farms_cells v_findings x1 x2 = some out) {H : Heap} {locs : List Loc} (hV : kV D (va_A wc0 s.heap.size) s (wd_X_cellOf D h h_here h_kept h_trial h_parts h_text h_sheets h_findings h_here_ground h_here_farms h_here_mountain h_here_ground_heights h_here_ground_ages h_here_ground_walls h_here_farms_kinds h_here_farms_cells h_here_farms_owners h_here_farms_purses v_isKept v_here_month v_here_volume v_here_outs v_here_fed v_here_fedOuts v_here_arePigsTold v_here_ground_vent v_here_ground_ash v_here_ground_heights v_here_ground_ages v_here_ground_walls v_here_farms_number v_here_farms_burnt v_here_farms_cells v_findings) H locs) {ls : Array Slot} (hl : lv_has ls 3 [(0, .ref h), (1, .int x1), (2, .int x2)]) : W p l e { frames := 2, cells := 0, slots := 0, locals := 43 } s m args below meth c H locs 0 0 (MQ below (kQi D wc0 (wd_X_cellOf D h h_here h_kept h_trial h_parts h_text h_sheets h_findings h_here_ground h_here_farms h_here_mountain h_here_ground_heights h_here_ground_ages h_here_ground_walls h_here_farms_kinds h_here_farms_cells h_here_farms_owners h_here_farms_purses v_isKept v_here_month v_here_volume v_here_outs v_here_fed v_here_fedOuts v_here_arePigsTold v_here_ground_vent v_here_ground_ash v_here_ground_heights v_here_ground_ages v_here_ground_walls v_here_farms_number v_here_farms_burnt v_here_farms_cells out.2) s.heap.size out.1) args s 0 0 (va_A wc0 s.heap.size)) (F0 m 0 ls []) := by
  unfold f_X_cellOf at hf
  obtain ⟨hx, hb, -⟩ := id X
  refine lv_iload_n hx hb d_X_cellOf_0 rfl (lv_at hl 1 rfl) ?_
  obtain ⟨r_19, hc_20, hf⟩ := kb1_some hf
  refine k_csi (w1 := (wd_X_isCell D)) (r := r_19) (ws' := (wd_X_cellOf D h h_here h_kept h_trial h_parts h_text h_sheets h_findings h_here_ground h_here_farms h_here_mountain h_here_ground_heights h_here_ground_ages h_here_ground_walls h_here_farms_kinds h_here_farms_cells h_here_farms_owners h_here_farms_purses v_isKept v_here_month v_here_volume v_here_outs v_here_fed v_here_fedOuts v_here_arePigsTold v_here_ground_vent v_here_ground_ash v_here_ground_heights v_here_ground_ages v_here_ground_walls v_here_farms_number v_here_farms_burnt v_here_farms_cells v_findings)) X hV hl.1 (c_X_isCell D x1 hc_20) fk_X_isCell gw_277 rfl [] [none, none, none, none, none, none, none, none, none] rfl rfl ⟨rfl, rfl, rfl, rfl, rfl, rfl, rfl, rfl, rfl, trivial⟩ rfl rfl rfl d_X_cellOf_1 (fun H locs hV => ?_)
  refine lv_if_ne (tgt := 13) hx hb d_X_cellOf_4 (by decide) (fun c_21 => ?_) (fun c_21 => ?_)
  · replace hf := kifn c_21 hf
    refine lv_iload_n hx hb d_X_cellOf_13 rfl (lv_at hl 2 rfl) ?_
    by_cases c_22 : x2 = 0
    · replace hf := kifp c_22 hf
      refine k_tabIn (tgt := 44) (off := 30) X d_X_cellOf_14 c_22 (by decide) ?_
      refine lv_aload_n hx hb d_X_cellOf_44 rfl (lv_at hl 0 rfl) ?_
      refine k_get X hV 0 8 0 rfl rfl rfl gw_248 rfl rfl d_X_cellOf_45 ?_
      refine k_get X hV 1 5 0 rfl rfl rfl gw_136 rfl rfl d_X_cellOf_48 ?_
      refine k_get X hV 2 1 0 rfl rfl rfl gw_46 rfl rfl d_X_cellOf_51 ?_
      refine lv_iload_n hx hb d_X_cellOf_54 rfl (lv_at hl 1 rfl) ?_
      obtain ⟨h_23, hf⟩ := kidx_some hf
      refine k_iald X hV 3 rfl h_23 rfl d_X_cellOf_55 ?_
      have e_ := Option.some.inj hf
      subst e_
      exact k_iret X rfl hV rfl d_X_cellOf_56
    replace hf := kifn c_22 hf
    by_cases c_24 : x2 = 1
    · replace hf := kifp c_24 hf
      refine k_tabIn (tgt := 57) (off := 43) X d_X_cellOf_14 c_24 (by decide) ?_
      refine lv_aload_n hx hb d_X_cellOf_57 rfl (lv_at hl 0 rfl) ?_
      refine k_get X hV 0 8 0 rfl rfl rfl gw_248 rfl rfl d_X_cellOf_58 ?_
      refine k_get X hV 1 5 0 rfl rfl rfl gw_136 rfl rfl d_X_cellOf_61 ?_
      refine k_get X hV 2 1 1 rfl rfl rfl gw_49 rfl rfl d_X_cellOf_64 ?_
      refine lv_iload_n hx hb d_X_cellOf_67 rfl (lv_at hl 1 rfl) ?_
      obtain ⟨h_25, hf⟩ := kidx_some hf
      refine k_iald X hV 4 rfl h_25 rfl d_X_cellOf_68 ?_
      have e_ := Option.some.inj hf
      subst e_
      exact k_iret X rfl hV rfl d_X_cellOf_69
    replace hf := kifn c_24 hf
    by_cases c_26 : x2 = 2
    · replace hf := kifp c_26 hf
      refine k_tabIn (tgt := 70) (off := 56) X d_X_cellOf_14 c_26 (by decide) ?_
      refine lv_aload_n hx hb d_X_cellOf_70 rfl (lv_at hl 0 rfl) ?_
      refine k_get X hV 0 8 0 rfl rfl rfl gw_248 rfl rfl d_X_cellOf_71 ?_
      refine k_get X hV 1 5 1 rfl rfl rfl gw_140 rfl rfl d_X_cellOf_74 ?_
      refine lv_iload_n hx hb d_X_cellOf_77 rfl (lv_at hl 1 rfl) ?_
      obtain ⟨r_27, hc_28, hf⟩ := kb1_some hf
      refine k_cvi (w1 := (wd_Fa_farmOn D h_here_farms h_here_farms_kinds h_here_farms_cells h_here_farms_owners h_here_farms_purses v_here_farms_number v_here_farms_burnt v_here_farms_cells)) (r := r_27) (ws' := (wd_X_cellOf D h h_here h_kept h_trial h_parts h_text h_sheets h_findings h_here_ground h_here_farms h_here_mountain h_here_ground_heights h_here_ground_ages h_here_ground_walls h_here_farms_kinds h_here_farms_cells h_here_farms_owners h_here_farms_purses v_isKept v_here_month v_here_volume v_here_outs v_here_fed v_here_fedOuts v_here_arePigsTold v_here_ground_vent v_here_ground_ash v_here_ground_heights v_here_ground_ages v_here_ground_walls v_here_farms_number v_here_farms_burnt v_here_farms_cells v_findings)) X hV hl.1 (c_Fa_farmOn D h_here_farms h_here_farms_kinds h_here_farms_cells h_here_farms_owners h_here_farms_purses v_here_farms_number v_here_farms_burnt v_here_farms_cells x1 hc_28) fk_Fa_farmOn gw_292 rfl 6 0 rfl rfl [6, 7] [none, none, none, none, none, none, some 0, some 1, none] rfl rfl ⟨rfl, rfl, rfl, rfl, rfl, rfl, rfl, rfl, rfl, rfl, rfl, rfl, rfl, trivial⟩ rfl rfl rfl d_X_cellOf_78 (fun H locs hV => ?_)
      have e_ := Option.some.inj hf
      subst e_
      exact k_iret X rfl hV rfl d_X_cellOf_81
    replace hf := kifn c_26 hf
    by_cases c_29 : x2 = 3
    · replace hf := kifp c_29 hf
      refine k_tabIn (tgt := 82) (off := 68) X d_X_cellOf_14 c_29 (by decide) ?_
      refine lv_aload_n hx hb d_X_cellOf_82 rfl (lv_at hl 0 rfl) ?_
      refine k_get X hV 0 8 0 rfl rfl rfl gw_248 rfl rfl d_X_cellOf_83 ?_
      refine k_get X hV 1 5 0 rfl rfl rfl gw_136 rfl rfl d_X_cellOf_86 ?_
      refine k_get X hV 2 1 2 rfl rfl rfl gw_52 rfl rfl d_X_cellOf_89 ?_
      refine lv_iload_n hx hb d_X_cellOf_92 rfl (lv_at hl 1 rfl) ?_
      obtain ⟨h_30, hf⟩ := kidx_some hf
      refine k_iald X hV 5 rfl h_30 rfl d_X_cellOf_93 ?_
      have e_ := Option.some.inj hf
      subst e_
      exact k_iret X rfl hV rfl d_X_cellOf_94
    replace hf := kifn c_29 hf
    have c_22e := lv_neT c_22 (a := 0) (by decide)
    have c_24e := lv_neT c_24 (a := 1) (by decide)
    have c_26e := lv_neT c_26 (a := 2) (by decide)
    have c_29e := lv_neT c_29 (a := 3) (by decide)
    refine lv_tableOut (tgt := 95) hx hb d_X_cellOf_14 (by omega) (by decide) ?_
    refine lv_aload_n hx hb d_X_cellOf_95 rfl (lv_at hl 0 rfl) ?_
    refine lv_iconst (v := 0) hx hb d_X_cellOf_96 ic_0 ?_
    obtain ⟨r_31, v_findings_32, hc_33, hf⟩ := kb2_some hf
    refine k_cvi (w1 := (wd_X_finding D h h_here h_kept h_trial h_parts h_text h_sheets h_findings v_isKept v_findings_32)) (r := r_31) (ws' := (wd_X_cellOf D h h_here h_kept h_trial h_parts h_text h_sheets h_findings h_here_ground h_here_farms h_here_mountain h_here_ground_heights h_here_ground_ages h_here_ground_walls h_here_farms_kinds h_here_farms_cells h_here_farms_owners h_here_farms_purses v_isKept v_here_month v_here_volume v_here_outs v_here_fed v_here_fedOuts v_here_arePigsTold v_here_ground_vent v_here_ground_ash v_here_ground_heights v_here_ground_ages v_here_ground_walls v_here_farms_number v_here_farms_burnt v_here_farms_cells v_findings_32)) X hV hl.1 (c_X_finding D h h_here h_kept h_trial h_parts h_text h_sheets h_findings v_isKept v_findings (0 : Int32) hc_33) fk_X_finding gw_283 rfl 0 8 rfl rfl [0, 8] [some 0, none, none, none, none, none, none, none, some 1] rfl rfl ⟨rfl, rfl, rfl, rfl, rfl, rfl, rfl, rfl, rfl, rfl, rfl, rfl, rfl, trivial⟩ rfl rfl rfl d_X_cellOf_97 (fun H locs hV => ?_)
    have e_ := Option.some.inj hf
    subst e_
    exact k_iret X rfl hV rfl d_X_cellOf_100
  replace hf := kifp c_21 hf
  refine lv_aload_n hx hb d_X_cellOf_7 rfl (lv_at hl 0 rfl) ?_
  refine lv_iconst (v := 0) hx hb d_X_cellOf_8 ic_0 ?_
  obtain ⟨r_34, v_findings_35, hc_36, hf⟩ := kb2_some hf
  refine k_cvi (w1 := (wd_X_finding D h h_here h_kept h_trial h_parts h_text h_sheets h_findings v_isKept v_findings_35)) (r := r_34) (ws' := (wd_X_cellOf D h h_here h_kept h_trial h_parts h_text h_sheets h_findings h_here_ground h_here_farms h_here_mountain h_here_ground_heights h_here_ground_ages h_here_ground_walls h_here_farms_kinds h_here_farms_cells h_here_farms_owners h_here_farms_purses v_isKept v_here_month v_here_volume v_here_outs v_here_fed v_here_fedOuts v_here_arePigsTold v_here_ground_vent v_here_ground_ash v_here_ground_heights v_here_ground_ages v_here_ground_walls v_here_farms_number v_here_farms_burnt v_here_farms_cells v_findings_35)) X hV hl.1 (c_X_finding D h h_here h_kept h_trial h_parts h_text h_sheets h_findings v_isKept v_findings (0 : Int32) hc_36) fk_X_finding gw_283 rfl 0 8 rfl rfl [0, 8] [some 0, none, none, none, none, none, none, none, some 1] rfl rfl ⟨rfl, rfl, rfl, rfl, rfl, rfl, rfl, rfl, rfl, rfl, rfl, rfl, rfl, trivial⟩ rfl rfl rfl d_X_cellOf_9 (fun H locs hV => ?_)
  have e_ := Option.some.inj hf
  subst e_
  exact k_iret X rfl hV rfl d_X_cellOf_12
set_option maxHeartbeats 2000000 in
set_option maxRecDepth 20000 in
theorem c_X_cellOf {l : Launch} (D : kD) (h : Nat) (h_here : Nat) (h_kept : Nat) (h_trial : Nat) (h_parts : Nat) (h_text : Nat) (h_sheets : Nat) (h_findings : Nat) (h_here_ground : Nat) (h_here_farms : Nat) (h_here_mountain : Nat) (h_here_ground_heights : Nat) (h_here_ground_ages : Nat) (h_here_ground_walls : Nat) (h_here_farms_kinds : Nat) (h_here_farms_cells : Nat) (h_here_farms_owners : Nat) (h_here_farms_purses : Nat) (v_isKept : Int32) (v_here_month : Int32) (v_here_volume : Int32) (v_here_outs : Int32) (v_here_fed : Int32) (v_here_fedOuts : Int32) (v_here_arePigsTold : Int32) (v_here_ground_vent : Int32) (v_here_ground_ash : Int32) (v_here_ground_heights : Nat → Int32) (v_here_ground_ages : Nat → Int32) (v_here_ground_walls : Nat → Int32) (v_here_farms_number : Int32) (v_here_farms_burnt : Int32) (v_here_farms_cells : Nat → Int32) (v_findings : Nat → Int32) (x1 : Int32) (x2 : Int32) {out : Int32 × (Nat → Int32)} (hf : f_X_cellOf v_here_ground_heights v_here_ground_ages v_here_ground_walls v_here_farms_number v_here_farms_cells v_findings x1 x2 = some out) : kMi l D y_X_cellOf b_X_cellOf 3 (some .int) { frames := 2, cells := 0, slots := 0, locals := 43 } [.ref h, .int x1, .int x2] (wd_X_cellOf D h h_here h_kept h_trial h_parts h_text h_sheets h_findings h_here_ground h_here_farms h_here_mountain h_here_ground_heights h_here_ground_ages h_here_ground_walls h_here_farms_kinds h_here_farms_cells h_here_farms_owners h_here_farms_purses v_isKept v_here_month v_here_volume v_here_outs v_here_fed v_here_fedOuts v_here_arePigsTold v_here_ground_vent v_here_ground_ash v_here_ground_heights v_here_ground_ages v_here_ground_walls v_here_farms_number v_here_farms_burnt v_here_farms_cells v_findings) (wd_X_cellOf D h h_here h_kept h_trial h_parts h_text h_sheets h_findings h_here_ground h_here_farms h_here_mountain h_here_ground_heights h_here_ground_ages h_here_ground_walls h_here_farms_kinds h_here_farms_cells h_here_farms_owners h_here_farms_purses v_isKept v_here_month v_here_volume v_here_outs v_here_fed v_here_fedOuts v_here_arePigsTold v_here_ground_vent v_here_ground_ash v_here_ground_heights v_here_ground_ages v_here_ground_walls v_here_farms_number v_here_farms_burnt v_here_farms_cells out.2) out.1 :=
  kMi_of (own := "MountainFarms") (plainFor_of_name (by decide)) rfl rfl (fun p e s m args below meth c ls X hV hl => t_X_cellOf X hf hV hl)
set_option maxHeartbeats 2000000 in
set_option maxRecDepth 20000 in
theorem t_X_vent {l : Launch} {p : Program} {e : Env} {s : State} {m : MethodId} {args : Array Value} {below : List Frame} {meth : Method} {c : Code} {D : kD} {wc0 : va_W} {h : Nat} {h_here : Nat} {h_kept : Nat} {h_trial : Nat} {h_parts : Nat} {h_text : Nat} {h_sheets : Nat} {h_findings : Nat} {h_here_ground : Nat} {h_here_farms : Nat} {h_here_mountain : Nat} {h_here_ground_heights : Nat} {h_here_ground_ages : Nat} {h_here_ground_walls : Nat} {v_isKept : Int32} {v_here_month : Int32} {v_here_volume : Int32} {v_here_outs : Int32} {v_here_fed : Int32} {v_here_fedOuts : Int32} {v_here_arePigsTold : Int32} {v_here_ground_vent : Int32} {v_here_ground_ash : Int32} {v_findings : Nat → Int32} {x1 : Int32} {out : Int32 × Int32 × (Nat → Int32)} (X : kX p m meth c s args D (va_A wc0 s.heap.size) b_X_vent "MountainFarms" 3 (some .int)) (hf : f_X_vent v_here_ground_vent v_findings x1 = some out) {H : Heap} {locs : List Loc} (hV : kV D (va_A wc0 s.heap.size) s (wd_X_vent D h h_here h_kept h_trial h_parts h_text h_sheets h_findings h_here_ground h_here_farms h_here_mountain h_here_ground_heights h_here_ground_ages h_here_ground_walls v_isKept v_here_month v_here_volume v_here_outs v_here_fed v_here_fedOuts v_here_arePigsTold v_here_ground_vent v_here_ground_ash v_findings) H locs) {ls : Array Slot} (hl : lv_has ls 3 [(0, .ref h), (1, .int x1)]) : W p l e { frames := 2, cells := 0, slots := 0, locals := 43 } s m args below meth c H locs 0 0 (MQ below (kQi D wc0 (wd_X_vent D h h_here h_kept h_trial h_parts h_text h_sheets h_findings h_here_ground h_here_farms h_here_mountain h_here_ground_heights h_here_ground_ages h_here_ground_walls v_isKept v_here_month v_here_volume v_here_outs v_here_fed v_here_fedOuts v_here_arePigsTold out.2.1 v_here_ground_ash out.2.2) s.heap.size out.1) args s 0 0 (va_A wc0 s.heap.size)) (F0 m 0 ls []) := by
  unfold f_X_vent at hf
  obtain ⟨hx, hb, -⟩ := id X
  refine lv_iload_n hx hb d_X_vent_0 rfl (lv_at hl 1 rfl) ?_
  obtain ⟨r_7, hc_8, hf⟩ := kb1_some hf
  refine k_csi (w1 := (wd_X_isCell D)) (r := r_7) (ws' := (wd_X_vent D h h_here h_kept h_trial h_parts h_text h_sheets h_findings h_here_ground h_here_farms h_here_mountain h_here_ground_heights h_here_ground_ages h_here_ground_walls v_isKept v_here_month v_here_volume v_here_outs v_here_fed v_here_fedOuts v_here_arePigsTold v_here_ground_vent v_here_ground_ash v_findings)) X hV hl.1 (c_X_isCell D x1 hc_8) fk_X_isCell gw_277 rfl [] [none, none, none, none] rfl rfl ⟨rfl, rfl, rfl, rfl, trivial⟩ rfl rfl rfl d_X_vent_1 (fun H locs hV => ?_)
  refine lv_if_ne (tgt := 13) hx hb d_X_vent_4 (by decide) (fun c_9 => ?_) (fun c_9 => ?_)
  · replace hf := kifn c_9 hf
    refine lv_aload_n hx hb d_X_vent_13 rfl (lv_at hl 0 rfl) ?_
    refine k_get X hV 0 8 0 rfl rfl rfl gw_248 rfl rfl d_X_vent_14 ?_
    refine k_get X hV 1 5 0 rfl rfl rfl gw_136 rfl rfl d_X_vent_17 ?_
    refine k_get X hV 2 1 3 rfl rfl rfl gw_54 rfl rfl d_X_vent_20 ?_
    refine lv_istore_n (lv' := [(2, .int v_here_ground_vent), (0, .ref h), (1, .int x1)]) hx hb d_X_vent_23 rfl hl (by decide) rfl (fun ls hl => ?_)
    refine lv_aload_n hx hb d_X_vent_24 rfl (lv_at hl 1 rfl) ?_
    refine k_get X hV 0 8 0 rfl rfl rfl gw_248 rfl rfl d_X_vent_25 ?_
    refine k_get X hV 1 5 0 rfl rfl rfl gw_136 rfl rfl d_X_vent_28 ?_
    refine lv_iload_n hx hb d_X_vent_31 rfl (lv_at hl 2 rfl) ?_
    refine k_putv (ty := .int) (ws' := (wd_X_vent D h h_here h_kept h_trial h_parts h_text h_sheets h_findings h_here_ground h_here_farms h_here_mountain h_here_ground_heights h_here_ground_ages h_here_ground_walls v_isKept v_here_month v_here_volume v_here_outs v_here_fed v_here_fedOuts v_here_arePigsTold x1 v_here_ground_ash v_findings)) X hV 2 1 3 rfl rfl rfl gw_54 rfl rfl rfl rfl rfl rfl rfl d_X_vent_32 (fun H locs hV => ?_)
    refine lv_iload_n hx hb d_X_vent_35 rfl (lv_at hl 0 rfl) ?_
    have e_ := Option.some.inj hf
    subst e_
    exact k_iret X rfl hV rfl d_X_vent_36
  replace hf := kifp c_9 hf
  refine lv_aload_n hx hb d_X_vent_7 rfl (lv_at hl 0 rfl) ?_
  refine lv_iconst (v := 0) hx hb d_X_vent_8 ic_0 ?_
  obtain ⟨r_10, v_findings_11, hc_12, hf⟩ := kb2_some hf
  refine k_cvi (w1 := (wd_X_finding D h h_here h_kept h_trial h_parts h_text h_sheets h_findings v_isKept v_findings_11)) (r := r_10) (ws' := (wd_X_vent D h h_here h_kept h_trial h_parts h_text h_sheets h_findings h_here_ground h_here_farms h_here_mountain h_here_ground_heights h_here_ground_ages h_here_ground_walls v_isKept v_here_month v_here_volume v_here_outs v_here_fed v_here_fedOuts v_here_arePigsTold v_here_ground_vent v_here_ground_ash v_findings_11)) X hV hl.1 (c_X_finding D h h_here h_kept h_trial h_parts h_text h_sheets h_findings v_isKept v_findings (0 : Int32) hc_12) fk_X_finding gw_283 rfl 0 8 rfl rfl [0, 3] [some 0, none, none, some 1] rfl rfl ⟨rfl, rfl, rfl, rfl, rfl, rfl, rfl, rfl, trivial⟩ rfl rfl rfl d_X_vent_9 (fun H locs hV => ?_)
  have e_ := Option.some.inj hf
  subst e_
  exact k_iret X rfl hV rfl d_X_vent_12
set_option maxHeartbeats 2000000 in
set_option maxRecDepth 20000 in
theorem c_X_vent {l : Launch} (D : kD) (h : Nat) (h_here : Nat) (h_kept : Nat) (h_trial : Nat) (h_parts : Nat) (h_text : Nat) (h_sheets : Nat) (h_findings : Nat) (h_here_ground : Nat) (h_here_farms : Nat) (h_here_mountain : Nat) (h_here_ground_heights : Nat) (h_here_ground_ages : Nat) (h_here_ground_walls : Nat) (v_isKept : Int32) (v_here_month : Int32) (v_here_volume : Int32) (v_here_outs : Int32) (v_here_fed : Int32) (v_here_fedOuts : Int32) (v_here_arePigsTold : Int32) (v_here_ground_vent : Int32) (v_here_ground_ash : Int32) (v_findings : Nat → Int32) (x1 : Int32) {out : Int32 × Int32 × (Nat → Int32)} (hf : f_X_vent v_here_ground_vent v_findings x1 = some out) : kMi l D y_X_vent b_X_vent 3 (some .int) { frames := 2, cells := 0, slots := 0, locals := 43 } [.ref h, .int x1] (wd_X_vent D h h_here h_kept h_trial h_parts h_text h_sheets h_findings h_here_ground h_here_farms h_here_mountain h_here_ground_heights h_here_ground_ages h_here_ground_walls v_isKept v_here_month v_here_volume v_here_outs v_here_fed v_here_fedOuts v_here_arePigsTold v_here_ground_vent v_here_ground_ash v_findings) (wd_X_vent D h h_here h_kept h_trial h_parts h_text h_sheets h_findings h_here_ground h_here_farms h_here_mountain h_here_ground_heights h_here_ground_ages h_here_ground_walls v_isKept v_here_month v_here_volume v_here_outs v_here_fed v_here_fedOuts v_here_arePigsTold out.2.1 v_here_ground_ash out.2.2) out.1 :=
  kMi_of (own := "MountainFarms") (plainFor_of_name (by decide)) rfl rfl (fun p e s m args below meth c ls X hV hl => t_X_vent X hf hV hl)
set_option maxHeartbeats 2000000 in
set_option maxRecDepth 20000 in
theorem t_X_beside {l : Launch} {p : Program} {e : Env} {s : State} {m : MethodId} {args : Array Value} {below : List Frame} {meth : Method} {c : Code} {D : kD} {wc0 : va_W} {x0 : Int32} {x1 : Int32} {out : Int32} (X : kX p m meth c s args D (va_A wc0 s.heap.size) b_X_beside "MountainFarms" 4 (some .int)) (hf : f_X_beside x0 x1 = some out) {H : Heap} {locs : List Loc} (hV : kV D (va_A wc0 s.heap.size) s (wd_X_beside D) H locs) {ls : Array Slot} (hl : lv_has ls 4 [(0, .int x0), (1, .int x1)]) : W p l e { frames := 0, cells := 0, slots := 0, locals := 0 } s m args below meth c H locs 0 0 (MQ below (kQi D wc0 (wd_X_beside D) s.heap.size out) args s 0 0 (va_A wc0 s.heap.size)) (F0 m 0 ls []) := by
  unfold f_X_beside at hf
  obtain ⟨hx, hb, -⟩ := id X
  refine lv_iload_n hx hb d_X_beside_0 rfl (lv_at hl 0 rfl) ?_
  refine lv_if_lt (tgt := 10) hx hb d_X_beside_1 (by decide) (fun c_12 => ?_) (fun c_12 => ?_)
  · replace hf := kifp c_12 hf
    refine lv_iconst (v := (-1)) hx hb d_X_beside_10 ic_m1 ?_
    have e_ := Option.some.inj hf
    subst e_
    exact k_iret X rfl hV rfl d_X_beside_11
  replace hf := kifn c_12 hf
  refine lv_iload_n hx hb d_X_beside_4 rfl (lv_at hl 0 rfl) ?_
  refine lv_bipush (v := 36) hx hb d_X_beside_5 bp_36 ?_
  refine lv_icmp_lt (tgt := 12) hx hb d_X_beside_7 (by decide) (fun c_13 => ?_) (fun c_13 => ?_)
  · replace hf := kifp c_13 hf
    refine lv_iload_n hx hb d_X_beside_12 rfl (lv_at hl 0 rfl) ?_
    refine lv_bipush (v := 6) hx hb d_X_beside_13 bp_6 ?_
    refine lv_idiv hx hb d_X_beside_15 (by decide) ?_
    refine lv_istore_n (lv' := [(2, .int (x0 / (6 : Int32))), (0, .int x0), (1, .int x1)]) hx hb d_X_beside_16 rfl hl (by decide) rfl (fun ls hl => ?_)
    refine lv_iload_n hx hb d_X_beside_17 rfl (lv_at hl 1 rfl) ?_
    refine lv_bipush (v := 6) hx hb d_X_beside_18 bp_6 ?_
    refine lv_irem hx hb d_X_beside_20 (by decide) ?_
    refine k_leti hf (fun x3_14 hf => ?_)
    refine lv_istore_n (lv' := [(3, .int x3_14), (2, .int (x0 / (6 : Int32))), (0, .int x0), (1, .int x1)]) hx hb d_X_beside_21 rfl hl (by decide) rfl (fun ls hl => ?_)
    refine lv_iload_n hx hb d_X_beside_22 rfl (lv_at hl 3 rfl) ?_
    by_cases c_15 : x1 = 0
    · replace hf := kifp c_15 hf
      refine k_tabIn (tgt := 52) (off := 29) X d_X_beside_23 c_15 (by decide) ?_
      refine lv_iload_n hx hb d_X_beside_52 rfl (lv_at hl 1 rfl) ?_
      refine lv_if_le (tgt := 63) hx hb d_X_beside_53 (by decide) (fun c_16 => ?_) (fun c_16 => ?_)
      · replace hf := kifp c_16 hf
        refine lv_iconst (v := (-1)) hx hb d_X_beside_63 ic_m1 ?_
        have e_ := Option.some.inj hf
        subst e_
        exact k_iret X rfl hV rfl d_X_beside_64
      replace hf := kifn c_16 hf
      refine lv_iload_n hx hb d_X_beside_56 rfl (lv_at hl 2 rfl) ?_
      refine lv_bipush (v := 6) hx hb d_X_beside_57 bp_6 ?_
      refine lv_isub hx hb d_X_beside_59 ?_
      refine lv_goto (tgt := 64) hx hb d_X_beside_60 (by decide) ?_
      have e_ := Option.some.inj hf
      subst e_
      exact k_iret X rfl hV rfl d_X_beside_64
    replace hf := kifn c_15 hf
    by_cases c_17 : x1 = 1
    · replace hf := kifp c_17 hf
      refine k_tabIn (tgt := 65) (off := 42) X d_X_beside_23 c_17 (by decide) ?_
      refine lv_iload_n hx hb d_X_beside_65 rfl (lv_at hl 0 rfl) ?_
      refine lv_iconst (v := 5) hx hb d_X_beside_66 ic_5 ?_
      refine lv_icmp_ge (tgt := 76) hx hb d_X_beside_67 (by decide) (fun c_18 => ?_) (fun c_18 => ?_)
      · replace hf := kifp c_18 hf
        refine lv_iconst (v := (-1)) hx hb d_X_beside_76 ic_m1 ?_
        have e_ := Option.some.inj hf
        subst e_
        exact k_iret X rfl hV rfl d_X_beside_77
      replace hf := kifn c_18 hf
      refine lv_iload_n hx hb d_X_beside_70 rfl (lv_at hl 2 rfl) ?_
      refine lv_iconst (v := 1) hx hb d_X_beside_71 ic_1 ?_
      refine lv_iadd hx hb d_X_beside_72 ?_
      refine lv_goto (tgt := 77) hx hb d_X_beside_73 (by decide) ?_
      have e_ := Option.some.inj hf
      subst e_
      exact k_iret X rfl hV rfl d_X_beside_77
    replace hf := kifn c_17 hf
    by_cases c_19 : x1 = 2
    · replace hf := kifp c_19 hf
      refine k_tabIn (tgt := 78) (off := 55) X d_X_beside_23 c_19 (by decide) ?_
      refine lv_iload_n hx hb d_X_beside_78 rfl (lv_at hl 1 rfl) ?_
      refine lv_iconst (v := 5) hx hb d_X_beside_79 ic_5 ?_
      refine lv_icmp_ge (tgt := 90) hx hb d_X_beside_80 (by decide) (fun c_20 => ?_) (fun c_20 => ?_)
      · replace hf := kifp c_20 hf
        refine lv_iconst (v := (-1)) hx hb d_X_beside_90 ic_m1 ?_
        have e_ := Option.some.inj hf
        subst e_
        exact k_iret X rfl hV rfl d_X_beside_91
      replace hf := kifn c_20 hf
      refine lv_iload_n hx hb d_X_beside_83 rfl (lv_at hl 2 rfl) ?_
      refine lv_bipush (v := 6) hx hb d_X_beside_84 bp_6 ?_
      refine lv_iadd hx hb d_X_beside_86 ?_
      refine lv_goto (tgt := 91) hx hb d_X_beside_87 (by decide) ?_
      have e_ := Option.some.inj hf
      subst e_
      exact k_iret X rfl hV rfl d_X_beside_91
    replace hf := kifn c_19 hf
    by_cases c_21 : x1 = 3
    · replace hf := kifp c_21 hf
      refine k_tabIn (tgt := 92) (off := 69) X d_X_beside_23 c_21 (by decide) ?_
      refine lv_iload_n hx hb d_X_beside_92 rfl (lv_at hl 0 rfl) ?_
      refine lv_if_le (tgt := 102) hx hb d_X_beside_93 (by decide) (fun c_22 => ?_) (fun c_22 => ?_)
      · replace hf := kifp c_22 hf
        refine lv_iconst (v := (-1)) hx hb d_X_beside_102 ic_m1 ?_
        have e_ := Option.some.inj hf
        subst e_
        exact k_iret X rfl hV rfl d_X_beside_103
      replace hf := kifn c_22 hf
      refine lv_iload_n hx hb d_X_beside_96 rfl (lv_at hl 2 rfl) ?_
      refine lv_iconst (v := 1) hx hb d_X_beside_97 ic_1 ?_
      refine lv_isub hx hb d_X_beside_98 ?_
      refine lv_goto (tgt := 103) hx hb d_X_beside_99 (by decide) ?_
      have e_ := Option.some.inj hf
      subst e_
      exact k_iret X rfl hV rfl d_X_beside_103
    replace hf := kifn c_21 hf
    have c_15e := lv_neT c_15 (a := 0) (by decide)
    have c_17e := lv_neT c_17 (a := 1) (by decide)
    have c_19e := lv_neT c_19 (a := 2) (by decide)
    have c_21e := lv_neT c_21 (a := 3) (by decide)
    refine lv_tableOut (tgt := 104) hx hb d_X_beside_23 (by omega) (by decide) ?_
    refine lv_iconst (v := (-1)) hx hb d_X_beside_104 ic_m1 ?_
    have e_ := Option.some.inj hf
    subst e_
    exact k_iret X rfl hV rfl d_X_beside_105
  replace hf := kifn c_13 hf
  refine lv_iconst (v := (-1)) hx hb d_X_beside_10 ic_m1 ?_
  have e_ := Option.some.inj hf
  subst e_
  exact k_iret X rfl hV rfl d_X_beside_11
set_option maxHeartbeats 2000000 in
set_option maxRecDepth 20000 in
theorem c_X_beside {l : Launch} (D : kD) (x0 : Int32) (x1 : Int32) {out : Int32} (hf : f_X_beside x0 x1 = some out) : kMi l D y_X_beside b_X_beside 4 (some .int) { frames := 0, cells := 0, slots := 0, locals := 0 } [.int x0, .int x1] (wd_X_beside D) (wd_X_beside D) out :=
  kMi_of (own := "MountainFarms") (plainFor_of_name (by decide)) rfl rfl (fun p e s m args below meth c ls X hV hl => t_X_beside X hf hV hl)
set_option maxHeartbeats 2000000 in
set_option maxRecDepth 20000 in
theorem tb_X_wayTo_1 {l : Launch} {p : Program} {e : Env} {s : State} {m : MethodId} {args : Array Value} {below : List Frame} {meth : Method} {c : Code} {D : kD} {wc0 : va_W} {x0 : Int32} {x1 : Int32} {x2 : Int32} {rec1 : Int32 → Option (Int32)} {out : Int32} (X : kX p m meth c s args D (va_A wc0 s.heap.size) b_X_wayTo "MountainFarms" 3 (some .int)) (hrec1 : ∀ (x2 : Int32), rec1 x2 = some out → ∀ (H : Heap) (locs : List Loc) (ls : Array Slot), kV D (va_A wc0 s.heap.size) s (wd_X_wayTo D) H locs → lv_has ls 3 [(0, .int x0), (1, .int x1), (2, .int x2)] → W p l e { frames := 1, cells := 0, slots := 0, locals := 23 } s m args below meth c H locs 0 0 (MQ below (kQi D wc0 (wd_X_wayTo D) s.heap.size out) args s 0 0 (va_A wc0 s.heap.size)) (F0 m 18 ls [])) (hf : fb_X_wayTo_1 rec1 x0 x1 x2 = some out) {H : Heap} {locs : List Loc} (hV : kV D (va_A wc0 s.heap.size) s (wd_X_wayTo D) H locs) {ls : Array Slot} (hl : lv_has ls 3 [(0, .int x0), (1, .int x1), (2, .int x2)]) : W p l e { frames := 1, cells := 0, slots := 0, locals := 23 } s m args below meth c H locs 0 0 (MQ below (kQi D wc0 (wd_X_wayTo D) s.heap.size out) args s 0 0 (va_A wc0 s.heap.size)) (F0 m 18 ls []) := by
  unfold fb_X_wayTo_1 at hf
  obtain ⟨hx, hb, -⟩ := id X
  refine lv_iload_n hx hb d_X_wayTo_18 rfl (lv_at hl 2 rfl) ?_
  refine lv_iconst (v := 4) hx hb d_X_wayTo_19 ic_4 ?_
  refine lv_icmp_ge (tgt := 40) hx hb d_X_wayTo_20 (by decide) (fun c_17 => ?_) (fun c_17 => ?_)
  · replace hf := kifp c_17 hf
    refine lv_iconst (v := (-1)) hx hb d_X_wayTo_40 ic_m1 ?_
    have e_ := Option.some.inj hf
    subst e_
    exact k_iret X rfl hV rfl d_X_wayTo_41
  replace hf := kifn c_17 hf
  refine lv_iload_n hx hb d_X_wayTo_23 rfl (lv_at hl 0 rfl) ?_
  refine lv_iload_n hx hb d_X_wayTo_24 rfl (lv_at hl 2 rfl) ?_
  obtain ⟨r_18, hc_19, hf⟩ := kb1_some hf
  refine k_csi (w1 := (wd_X_beside D)) (r := r_18) (ws' := (wd_X_wayTo D)) X hV hl.1 (c_X_beside D x0 x2 hc_19) fk_X_beside gw_307 rfl [] [] rfl rfl trivial rfl rfl rfl d_X_wayTo_25 (fun H locs hV => ?_)
  refine lv_iload_n hx hb d_X_wayTo_28 rfl (lv_at hl 1 rfl) ?_
  refine lv_icmp_ne (tgt := 34) hx hb d_X_wayTo_29 (by decide) (fun c_20 => ?_) (fun c_20 => ?_)
  · replace hf := kifn c_20 hf
    refine lv_iinc (v := (x2 + 1)) (lv' := [(2, .int (x2 + 1)), (0, .int x0), (1, .int x1)]) hx hb d_X_wayTo_34 hl (k := 2) rfl rfl (by decide) rfl (fun ls hl => ?_)
    refine lv_goto (tgt := 18) hx hb d_X_wayTo_37 (by decide) ?_
    exact hrec1 _ hf _ _ _ hV (lv_sub hl [1, 2, 0] rfl)
  replace hf := kifp c_20 hf
  refine lv_iload_n hx hb d_X_wayTo_32 rfl (lv_at hl 2 rfl) ?_
  have e_ := Option.some.inj hf
  subst e_
  exact k_iret X rfl hV rfl d_X_wayTo_33
set_option maxHeartbeats 2000000 in
set_option maxRecDepth 20000 in
theorem tl_X_wayTo_1 {l : Launch} {p : Program} {e : Env} {s : State} {m : MethodId} {args : Array Value} {below : List Frame} {meth : Method} {c : Code} {D : kD} {wc0 : va_W} {x0 : Int32} {x1 : Int32} {out : Int32} (X : kX p m meth c s args D (va_A wc0 s.heap.size) b_X_wayTo "MountainFarms" 3 (some .int)) : ∀ (n : Nat) (x2 : Int32), fl_X_wayTo_1 x0 x1 n x2 = some out → ∀ (H : Heap) (locs : List Loc) (ls : Array Slot), kV D (va_A wc0 s.heap.size) s (wd_X_wayTo D) H locs → lv_has ls 3 [(0, .int x0), (1, .int x1), (2, .int x2)] → W p l e { frames := 1, cells := 0, slots := 0, locals := 23 } s m args below meth c H locs 0 0 (MQ below (kQi D wc0 (wd_X_wayTo D) s.heap.size out) args s 0 0 (va_A wc0 s.heap.size)) (F0 m 18 ls []) := by
  intro n
  induction n with
  | zero => intro x2 hf; exact knone hf
  | succ n ih => intro x2 hf H locs ls hV hl; exact tb_X_wayTo_1 X ih hf hV hl
set_option maxHeartbeats 2000000 in
set_option maxRecDepth 20000 in
theorem t_X_wayTo {l : Launch} {p : Program} {e : Env} {s : State} {m : MethodId} {args : Array Value} {below : List Frame} {meth : Method} {c : Code} {D : kD} {wc0 : va_W} {x0 : Int32} {x1 : Int32} {out : Int32} (X : kX p m meth c s args D (va_A wc0 s.heap.size) b_X_wayTo "MountainFarms" 3 (some .int)) (hf : f_X_wayTo x0 x1 = some out) {H : Heap} {locs : List Loc} (hV : kV D (va_A wc0 s.heap.size) s (wd_X_wayTo D) H locs) {ls : Array Slot} (hl : lv_has ls 3 [(0, .int x0), (1, .int x1)]) : W p l e { frames := 1, cells := 0, slots := 0, locals := 23 } s m args below meth c H locs 0 0 (MQ below (kQi D wc0 (wd_X_wayTo D) s.heap.size out) args s 0 0 (va_A wc0 s.heap.size)) (F0 m 0 ls []) := by
  unfold f_X_wayTo at hf
  obtain ⟨hx, hb, -⟩ := id X
  refine lv_iload_n hx hb d_X_wayTo_0 rfl (lv_at hl 0 rfl) ?_
  obtain ⟨r_11, hc_12, hf⟩ := kb1_some hf
  refine k_csi (w1 := (wd_X_isCell D)) (r := r_11) (ws' := (wd_X_wayTo D)) X hV hl.1 (c_X_isCell D x0 hc_12) fk_X_isCell gw_277 rfl [] [] rfl rfl trivial rfl rfl rfl d_X_wayTo_1 (fun H locs hV => ?_)
  refine lv_if_eq (tgt := 14) hx hb d_X_wayTo_4 (by decide) (fun c_13 => ?_) (fun c_13 => ?_)
  · replace hf := kifp c_13 hf
    refine lv_iconst (v := (-1)) hx hb d_X_wayTo_14 ic_m1 ?_
    have e_ := Option.some.inj hf
    subst e_
    exact k_iret X rfl hV rfl d_X_wayTo_15
  replace hf := kifn c_13 hf
  refine lv_iload_n hx hb d_X_wayTo_7 rfl (lv_at hl 1 rfl) ?_
  obtain ⟨r_14, hc_15, hf⟩ := kb1_some hf
  refine k_csi (w1 := (wd_X_isCell D)) (r := r_14) (ws' := (wd_X_wayTo D)) X hV hl.1 (c_X_isCell D x1 hc_15) fk_X_isCell gw_277 rfl [] [] rfl rfl trivial rfl rfl rfl d_X_wayTo_8 (fun H locs hV => ?_)
  refine lv_if_ne (tgt := 16) hx hb d_X_wayTo_11 (by decide) (fun c_16 => ?_) (fun c_16 => ?_)
  · replace hf := kifn c_16 hf
    refine lv_iconst (v := 0) hx hb d_X_wayTo_16 ic_0 ?_
    refine lv_istore_n (lv' := [(2, .int (0 : Int32)), (0, .int x0), (1, .int x1)]) hx hb d_X_wayTo_17 rfl hl (by decide) rfl (fun ls hl => ?_)
    exact tl_X_wayTo_1 X _ _ hf _ _ _ hV (lv_sub hl [1, 2, 0] rfl)
  replace hf := kifp c_16 hf
  refine lv_iconst (v := (-1)) hx hb d_X_wayTo_14 ic_m1 ?_
  have e_ := Option.some.inj hf
  subst e_
  exact k_iret X rfl hV rfl d_X_wayTo_15
set_option maxHeartbeats 2000000 in
set_option maxRecDepth 20000 in
theorem c_X_wayTo {l : Launch} (D : kD) (x0 : Int32) (x1 : Int32) {out : Int32} (hf : f_X_wayTo x0 x1 = some out) : kMi l D y_X_wayTo b_X_wayTo 3 (some .int) { frames := 1, cells := 0, slots := 0, locals := 23 } [.int x0, .int x1] (wd_X_wayTo D) (wd_X_wayTo D) out :=
  kMi_of (own := "MountainFarms") (plainFor_of_name (by decide)) rfl rfl (fun p e s m args below meth c ls X hV hl => t_X_wayTo X hf hV hl)
set_option maxHeartbeats 2000000 in
set_option maxRecDepth 20000 in
theorem t_Gr_isWalled {l : Launch} {p : Program} {e : Env} {s : State} {m : MethodId} {args : Array Value} {below : List Frame} {meth : Method} {c : Code} {D : kD} {wc0 : va_W} {h : Nat} {h_heights : Nat} {h_ages : Nat} {h_walls : Nat} {v_vent : Int32} {v_ash : Int32} {v_walls : Nat → Int32} {x1 : Int32} {x2 : Int32} {out : Int32} (X : kX p m meth c s args D (va_A wc0 s.heap.size) b_Gr_isWalled "MountainFarms$Ground" 3 (some .boolean)) (hf : f_Gr_isWalled v_walls x1 x2 = some out) {H : Heap} {locs : List Loc} (hV : kV D (va_A wc0 s.heap.size) s (wd_Gr_isWalled D h h_heights h_ages h_walls v_vent v_ash v_walls) H locs) {ls : Array Slot} (hl : lv_has ls 3 [(0, .ref h), (1, .int x1), (2, .int x2)]) : W p l e { frames := 0, cells := 0, slots := 0, locals := 0 } s m args below meth c H locs 0 0 (MQ below (kQi D wc0 (wd_Gr_isWalled D h h_heights h_ages h_walls v_vent v_ash v_walls) s.heap.size out) args s 0 0 (va_A wc0 s.heap.size)) (F0 m 0 ls []) := by
  unfold f_Gr_isWalled at hf
  obtain ⟨hx, hb, -⟩ := id X
  refine lv_iload_n hx hb d_Gr_isWalled_0 rfl (lv_at hl 1 rfl) ?_
  refine lv_if_lt (tgt := 28) hx hb d_Gr_isWalled_1 (by decide) (fun c_5 => ?_) (fun c_5 => ?_)
  · replace hf := kifp c_5 hf
    refine lv_iconst (v := 0) hx hb d_Gr_isWalled_28 ic_0 ?_
    have e_ := Option.some.inj hf
    subst e_
    exact k_iret (v := 0) X rfl hV nb0 d_Gr_isWalled_29
  replace hf := kifn c_5 hf
  refine lv_iload_n hx hb d_Gr_isWalled_4 rfl (lv_at hl 1 rfl) ?_
  refine lv_bipush (v := 36) hx hb d_Gr_isWalled_5 bp_36 ?_
  refine lv_icmp_ge (tgt := 28) hx hb d_Gr_isWalled_7 (by decide) (fun c_6 => ?_) (fun c_6 => ?_)
  · replace hf := kifp c_6 hf
    refine lv_iconst (v := 0) hx hb d_Gr_isWalled_28 ic_0 ?_
    have e_ := Option.some.inj hf
    subst e_
    exact k_iret (v := 0) X rfl hV nb0 d_Gr_isWalled_29
  replace hf := kifn c_6 hf
  refine lv_aload_n hx hb d_Gr_isWalled_10 rfl (lv_at hl 0 rfl) ?_
  refine k_get X hV 0 1 2 rfl rfl rfl gw_51 rfl rfl d_Gr_isWalled_11 ?_
  refine lv_iload_n hx hb d_Gr_isWalled_14 rfl (lv_at hl 1 rfl) ?_
  obtain ⟨h_7, hf⟩ := kidx_some hf
  refine k_iald X hV 1 rfl h_7 rfl d_Gr_isWalled_15 ?_
  refine lv_iload_n hx hb d_Gr_isWalled_16 rfl (lv_at hl 2 rfl) ?_
  refine lv_ishr hx hb d_Gr_isWalled_17 ?_
  refine lv_iconst (v := 1) hx hb d_Gr_isWalled_18 ic_1 ?_
  refine lv_iand hx hb d_Gr_isWalled_19 ?_
  refine lv_iconst (v := 1) hx hb d_Gr_isWalled_20 ic_1 ?_
  refine lv_icmp_ne (tgt := 28) hx hb d_Gr_isWalled_21 (by decide) (fun c_8 => ?_) (fun c_8 => ?_)
  · replace hf := kifn c_8 hf
    refine lv_iconst (v := 0) hx hb d_Gr_isWalled_28 ic_0 ?_
    have e_ := Option.some.inj hf
    subst e_
    exact k_iret (v := 0) X rfl hV nb0 d_Gr_isWalled_29
  replace hf := kifp c_8 hf
  refine lv_iconst (v := 1) hx hb d_Gr_isWalled_24 ic_1 ?_
  refine lv_goto (tgt := 29) hx hb d_Gr_isWalled_25 (by decide) ?_
  have e_ := Option.some.inj hf
  subst e_
  exact k_iret (v := 1) X rfl hV nb1 d_Gr_isWalled_29
set_option maxHeartbeats 2000000 in
set_option maxRecDepth 20000 in
theorem c_Gr_isWalled {l : Launch} (D : kD) (h : Nat) (h_heights : Nat) (h_ages : Nat) (h_walls : Nat) (v_vent : Int32) (v_ash : Int32) (v_walls : Nat → Int32) (x1 : Int32) (x2 : Int32) {out : Int32} (hf : f_Gr_isWalled v_walls x1 x2 = some out) : kMi l D y_Gr_isWalled b_Gr_isWalled 3 (some .boolean) { frames := 0, cells := 0, slots := 0, locals := 0 } [.ref h, .int x1, .int x2] (wd_Gr_isWalled D h h_heights h_ages h_walls v_vent v_ash v_walls) (wd_Gr_isWalled D h h_heights h_ages h_walls v_vent v_ash v_walls) out :=
  kMi_of (own := "MountainFarms$Ground") (plainFor_of_name (by decide)) rfl rfl (fun p e s m args below meth c ls X hV hl => t_Gr_isWalled X hf hV hl)
set_option maxHeartbeats 2000000 in
set_option maxRecDepth 20000 in
theorem t_Gr_putWall_2 {l : Launch} {p : Program} {e : Env} {s : State} {m : MethodId} {args : Array Value} {below : List Frame} {meth : Method} {c : Code} {D : kD} {wc0 : va_W} {h : Nat} {h_heights : Nat} {h_ages : Nat} {h_walls : Nat} {v_vent : Int32} {v_ash : Int32} {v_walls : Nat → Int32} {s1 : Int32} {s2 : Int32} {out : (Nat → Int32)} (X : kX p m meth c s args D (va_A wc0 s.heap.size) b_Gr_putWall "MountainFarms$Ground" 7 none) (hf : f_Gr_putWall_2 s1 s2 v_walls = some out) {H : Heap} {locs : List Loc} (hV : kV D (va_A wc0 s.heap.size) s (wd_Gr_putWall D h h_heights h_ages h_walls v_vent v_ash v_walls) H locs) {ls : Array Slot} (hl : lv_has ls 7 []) : W p l e { frames := 1, cells := 0, slots := 0, locals := 23 } s m args below meth c H locs 0 0 (MQ below (kQv D wc0 (wd_Gr_putWall D h h_heights h_ages h_walls v_vent v_ash out) s.heap.size) args s 0 0 (va_A wc0 s.heap.size)) (F0 m 95 ls [.int s2, .int s1, .ref h_walls]) := by
  unfold f_Gr_putWall_2 at hf
  obtain ⟨hx, hb, -⟩ := id X
  obtain ⟨h_26, hf⟩ := kidx_some hf
  refine k_iast (ws' := (wd_Gr_putWall D h h_heights h_ages h_walls v_vent v_ash (upd v_walls s1.toNatClampNeg s2))) X hV 1 rfl h_26 rfl rfl d_Gr_putWall_95 (fun H locs hV => ?_)
  have e_ := Option.some.inj hf
  subst e_
  exact k_vret X rfl hV d_Gr_putWall_96
set_option maxHeartbeats 2000000 in
set_option maxRecDepth 20000 in
theorem t_Gr_putWall_1 {l : Launch} {p : Program} {e : Env} {s : State} {m : MethodId} {args : Array Value} {below : List Frame} {meth : Method} {c : Code} {D : kD} {wc0 : va_W} {h : Nat} {h_heights : Nat} {h_ages : Nat} {h_walls : Nat} {v_vent : Int32} {v_ash : Int32} {v_walls : Nat → Int32} {s1 : Int32} {s2 : Int32} {x3 : Int32} {x4 : Int32} {x6 : Int32} {out : (Nat → Int32)} (X : kX p m meth c s args D (va_A wc0 s.heap.size) b_Gr_putWall "MountainFarms$Ground" 7 none) (hf : f_Gr_putWall_1 s1 s2 x3 x4 x6 v_walls = some out) {H : Heap} {locs : List Loc} (hV : kV D (va_A wc0 s.heap.size) s (wd_Gr_putWall D h h_heights h_ages h_walls v_vent v_ash v_walls) H locs) {ls : Array Slot} (hl : lv_has ls 7 [(0, .ref h), (3, .int x3), (4, .int x4), (6, .int x6)]) : W p l e { frames := 1, cells := 0, slots := 0, locals := 23 } s m args below meth c H locs 0 0 (MQ below (kQv D wc0 (wd_Gr_putWall D h h_heights h_ages h_walls v_vent v_ash out) s.heap.size) args s 0 0 (va_A wc0 s.heap.size)) (F0 m 59 ls [.int s2, .int s1, .ref h_walls]) := by
  unfold f_Gr_putWall_1 at hf
  obtain ⟨hx, hb, -⟩ := id X
  obtain ⟨h_22, hf⟩ := kidx_some hf
  refine k_iast (ws' := (wd_Gr_putWall D h h_heights h_ages h_walls v_vent v_ash (upd v_walls s1.toNatClampNeg s2))) X hV 1 rfl h_22 rfl rfl d_Gr_putWall_59 (fun H locs hV => ?_)
  refine lv_aload_n hx hb d_Gr_putWall_60 rfl (lv_at hl 0 rfl) ?_
  refine k_get X hV 0 1 2 rfl rfl rfl gw_51 rfl rfl d_Gr_putWall_61 ?_
  refine lv_iload hx hb d_Gr_putWall_64 (lv_at hl 2 rfl) ?_
  refine lv_iload_n hx hb d_Gr_putWall_66 rfl (lv_at hl 1 rfl) ?_
  refine lv_if_eq (tgt := 83) hx hb d_Gr_putWall_67 (by decide) (fun c_23 => ?_) (fun c_23 => ?_)
  · replace hf := kifp c_23 hf
    refine lv_aload_n hx hb d_Gr_putWall_83 rfl (lv_at hl 0 rfl) ?_
    refine k_get X hV 0 1 2 rfl rfl rfl gw_51 rfl rfl d_Gr_putWall_84 ?_
    refine lv_iload hx hb d_Gr_putWall_87 (lv_at hl 2 rfl) ?_
    obtain ⟨h_24, hf⟩ := kidx_some hf
    refine k_iald X hV 1 rfl h_24 rfl d_Gr_putWall_89 ?_
    refine lv_iload hx hb d_Gr_putWall_90 (lv_at hl 3 rfl) ?_
    refine lv_iconst (v := (-1)) hx hb d_Gr_putWall_92 ic_m1 ?_
    refine lv_ixor hx hb d_Gr_putWall_93 ?_
    refine lv_iand hx hb d_Gr_putWall_94 ?_
    exact t_Gr_putWall_2 X hf hV (lv_sub hl [] rfl)
  replace hf := kifn c_23 hf
  refine lv_aload_n hx hb d_Gr_putWall_70 rfl (lv_at hl 0 rfl) ?_
  refine k_get X hV 0 1 2 rfl rfl rfl gw_51 rfl rfl d_Gr_putWall_71 ?_
  refine lv_iload hx hb d_Gr_putWall_74 (lv_at hl 2 rfl) ?_
  obtain ⟨h_25, hf⟩ := kidx_some hf
  refine k_iald X hV 1 rfl h_25 rfl d_Gr_putWall_76 ?_
  refine lv_iload hx hb d_Gr_putWall_77 (lv_at hl 3 rfl) ?_
  refine lv_ior hx hb d_Gr_putWall_79 ?_
  refine lv_goto (tgt := 95) hx hb d_Gr_putWall_80 (by decide) ?_
  exact t_Gr_putWall_2 X hf hV (lv_sub hl [] rfl)
set_option maxHeartbeats 2000000 in
set_option maxRecDepth 20000 in
theorem t_Gr_putWall {l : Launch} {p : Program} {e : Env} {s : State} {m : MethodId} {args : Array Value} {below : List Frame} {meth : Method} {c : Code} {D : kD} {wc0 : va_W} {h : Nat} {h_heights : Nat} {h_ages : Nat} {h_walls : Nat} {v_vent : Int32} {v_ash : Int32} {v_walls : Nat → Int32} {x1 : Int32} {x2 : Int32} {x3 : Int32} {out : (Nat → Int32)} (X : kX p m meth c s args D (va_A wc0 s.heap.size) b_Gr_putWall "MountainFarms$Ground" 7 none) (hf : f_Gr_putWall v_walls x1 x2 x3 = some out) {H : Heap} {locs : List Loc} (hV : kV D (va_A wc0 s.heap.size) s (wd_Gr_putWall D h h_heights h_ages h_walls v_vent v_ash v_walls) H locs) {ls : Array Slot} (hl : lv_has ls 7 [(0, .ref h), (1, .int x1), (2, .int x2), (3, .int x3)]) : W p l e { frames := 1, cells := 0, slots := 0, locals := 23 } s m args below meth c H locs 0 0 (MQ below (kQv D wc0 (wd_Gr_putWall D h h_heights h_ages h_walls v_vent v_ash out) s.heap.size) args s 0 0 (va_A wc0 s.heap.size)) (F0 m 0 ls []) := by
  unfold f_Gr_putWall at hf
  obtain ⟨hx, hb, -⟩ := id X
  refine lv_iload_n hx hb d_Gr_putWall_0 rfl (lv_at hl 1 rfl) ?_
  refine lv_iload_n hx hb d_Gr_putWall_1 rfl (lv_at hl 2 rfl) ?_
  obtain ⟨r_14, hc_15, hf⟩ := kb1_some hf
  refine k_cni (w1 := (wd_X_beside D)) (r := r_14) (ws' := (wd_Gr_putWall D h h_heights h_ages h_walls v_vent v_ash v_walls)) X hV hl.1 (c_X_beside D x1 x2 hc_15) fk_X_beside nw_6 rfl [] [none, none] rfl rfl ⟨rfl, rfl, trivial⟩ rfl rfl rfl d_Gr_putWall_2 (fun H locs hV => ?_)
  refine lv_istore (lv' := [(4, .int r_14), (0, .ref h), (1, .int x1), (2, .int x2), (3, .int x3)]) hx hb d_Gr_putWall_5 hl (by decide) rfl (fun ls hl => ?_)
  refine lv_iload hx hb d_Gr_putWall_7 (lv_at hl 0 rfl) ?_
  refine lv_if_ge (tgt := 13) hx hb d_Gr_putWall_9 (by decide) (fun c_16 => ?_) (fun c_16 => ?_)
  · replace hf := kifp c_16 hf
    refine lv_iconst (v := 1) hx hb d_Gr_putWall_13 ic_1 ?_
    refine lv_iload_n hx hb d_Gr_putWall_14 rfl (lv_at hl 3 rfl) ?_
    refine lv_ishl hx hb d_Gr_putWall_15 ?_
    refine k_leti hf (fun x5_17 hf => ?_)
    refine lv_istore (lv' := [(5, .int x5_17), (4, .int r_14), (0, .ref h), (1, .int x1), (2, .int x2), (3, .int x3)]) hx hb d_Gr_putWall_16 hl (by decide) rfl (fun ls hl => ?_)
    refine lv_iconst (v := 1) hx hb d_Gr_putWall_18 ic_1 ?_
    refine lv_iload_n hx hb d_Gr_putWall_19 rfl (lv_at hl 4 rfl) ?_
    refine lv_iconst (v := 2) hx hb d_Gr_putWall_20 ic_2 ?_
    refine lv_iadd hx hb d_Gr_putWall_21 ?_
    refine lv_iconst (v := 4) hx hb d_Gr_putWall_22 ic_4 ?_
    refine lv_irem hx hb d_Gr_putWall_23 (by decide) ?_
    refine lv_ishl hx hb d_Gr_putWall_24 ?_
    refine k_leti hf (fun x6_18 hf => ?_)
    refine lv_istore (lv' := [(6, .int x6_18), (5, .int x5_17), (4, .int r_14), (0, .ref h), (1, .int x1), (2, .int x2), (3, .int x3)]) hx hb d_Gr_putWall_25 hl (by decide) rfl (fun ls hl => ?_)
    refine lv_aload_n hx hb d_Gr_putWall_27 rfl (lv_at hl 3 rfl) ?_
    refine k_get X hV 0 1 2 rfl rfl rfl gw_51 rfl rfl d_Gr_putWall_28 ?_
    refine lv_iload_n hx hb d_Gr_putWall_31 rfl (lv_at hl 4 rfl) ?_
    refine lv_iload_n hx hb d_Gr_putWall_32 rfl (lv_at hl 6 rfl) ?_
    refine lv_if_eq (tgt := 48) hx hb d_Gr_putWall_33 (by decide) (fun c_19 => ?_) (fun c_19 => ?_)
    · replace hf := kifp c_19 hf
      refine lv_aload_n hx hb d_Gr_putWall_48 rfl (lv_at hl 3 rfl) ?_
      refine k_get X hV 0 1 2 rfl rfl rfl gw_51 rfl rfl d_Gr_putWall_49 ?_
      refine lv_iload_n hx hb d_Gr_putWall_52 rfl (lv_at hl 4 rfl) ?_
      obtain ⟨h_20, hf⟩ := kidx_some hf
      refine k_iald X hV 1 rfl h_20 rfl d_Gr_putWall_53 ?_
      refine lv_iload hx hb d_Gr_putWall_54 (lv_at hl 1 rfl) ?_
      refine lv_iconst (v := (-1)) hx hb d_Gr_putWall_56 ic_m1 ?_
      refine lv_ixor hx hb d_Gr_putWall_57 ?_
      refine lv_iand hx hb d_Gr_putWall_58 ?_
      exact t_Gr_putWall_1 X hf hV (lv_sub hl [3, 6, 2, 0] rfl)
    replace hf := kifn c_19 hf
    refine lv_aload_n hx hb d_Gr_putWall_36 rfl (lv_at hl 3 rfl) ?_
    refine k_get X hV 0 1 2 rfl rfl rfl gw_51 rfl rfl d_Gr_putWall_37 ?_
    refine lv_iload_n hx hb d_Gr_putWall_40 rfl (lv_at hl 4 rfl) ?_
    obtain ⟨h_21, hf⟩ := kidx_some hf
    refine k_iald X hV 1 rfl h_21 rfl d_Gr_putWall_41 ?_
    refine lv_iload hx hb d_Gr_putWall_42 (lv_at hl 1 rfl) ?_
    refine lv_ior hx hb d_Gr_putWall_44 ?_
    refine lv_goto (tgt := 59) hx hb d_Gr_putWall_45 (by decide) ?_
    exact t_Gr_putWall_1 X hf hV (lv_sub hl [3, 6, 2, 0] rfl)
  replace hf := kifn c_16 hf
  have e_ := Option.some.inj hf
  subst e_
  exact k_vret X rfl hV d_Gr_putWall_12
set_option maxHeartbeats 2000000 in
set_option maxRecDepth 20000 in
theorem c_Gr_putWall {l : Launch} (D : kD) (h : Nat) (h_heights : Nat) (h_ages : Nat) (h_walls : Nat) (v_vent : Int32) (v_ash : Int32) (v_walls : Nat → Int32) (x1 : Int32) (x2 : Int32) (x3 : Int32) {out : (Nat → Int32)} (hf : f_Gr_putWall v_walls x1 x2 x3 = some out) : kMv l D y_Gr_putWall b_Gr_putWall 7 none { frames := 1, cells := 0, slots := 0, locals := 23 } [.ref h, .int x1, .int x2, .int x3] (wd_Gr_putWall D h h_heights h_ages h_walls v_vent v_ash v_walls) (wd_Gr_putWall D h h_heights h_ages h_walls v_vent v_ash out) :=
  kMv_of (own := "MountainFarms$Ground") (plainFor_of_name (by decide)) rfl rfl (fun p e s m args below meth c ls X hV hl => t_Gr_putWall X hf hV hl)
set_option maxHeartbeats 2000000 in
set_option maxRecDepth 20000 in
theorem t_X_wall {l : Launch} {p : Program} {e : Env} {s : State} {m : MethodId} {args : Array Value} {below : List Frame} {meth : Method} {c : Code} {D : kD} {wc0 : va_W} {h : Nat} {h_here : Nat} {h_kept : Nat} {h_trial : Nat} {h_parts : Nat} {h_text : Nat} {h_sheets : Nat} {h_findings : Nat} {h_here_ground : Nat} {h_here_farms : Nat} {h_here_mountain : Nat} {h_here_ground_heights : Nat} {h_here_ground_ages : Nat} {h_here_ground_walls : Nat} {v_isKept : Int32} {v_here_month : Int32} {v_here_volume : Int32} {v_here_outs : Int32} {v_here_fed : Int32} {v_here_fedOuts : Int32} {v_here_arePigsTold : Int32} {v_here_ground_vent : Int32} {v_here_ground_ash : Int32} {v_here_ground_walls : Nat → Int32} {v_findings : Nat → Int32} {x1 : Int32} {x2 : Int32} {x3 : Int32} {out : Int32 × (Nat → Int32) × (Nat → Int32)} (X : kX p m meth c s args D (va_A wc0 s.heap.size) b_X_wall "MountainFarms" 5 (some .int)) (hf : f_X_wall v_here_ground_walls v_findings x1 x2 x3 = some out) {H : Heap} {locs : List Loc} (hV : kV D (va_A wc0 s.heap.size) s (wd_X_wall D h h_here h_kept h_trial h_parts h_text h_sheets h_findings h_here_ground h_here_farms h_here_mountain h_here_ground_heights h_here_ground_ages h_here_ground_walls v_isKept v_here_month v_here_volume v_here_outs v_here_fed v_here_fedOuts v_here_arePigsTold v_here_ground_vent v_here_ground_ash v_here_ground_walls v_findings) H locs) {ls : Array Slot} (hl : lv_has ls 5 [(0, .ref h), (1, .int x1), (2, .int x2), (3, .int x3)]) : W p l e { frames := 2, cells := 0, slots := 0, locals := 49 } s m args below meth c H locs 0 0 (MQ below (kQi D wc0 (wd_X_wall D h h_here h_kept h_trial h_parts h_text h_sheets h_findings h_here_ground h_here_farms h_here_mountain h_here_ground_heights h_here_ground_ages h_here_ground_walls v_isKept v_here_month v_here_volume v_here_outs v_here_fed v_here_fedOuts v_here_arePigsTold v_here_ground_vent v_here_ground_ash out.2.1 out.2.2) s.heap.size out.1) args s 0 0 (va_A wc0 s.heap.size)) (F0 m 0 ls []) := by
  unfold f_X_wall at hf
  obtain ⟨hx, hb, -⟩ := id X
  refine lv_iload_n hx hb d_X_wall_0 rfl (lv_at hl 1 rfl) ?_
  refine lv_iload_n hx hb d_X_wall_1 rfl (lv_at hl 2 rfl) ?_
  obtain ⟨r_12, hc_13, hf⟩ := kb1_some hf
  refine k_csi (w1 := (wd_X_wayTo D)) (r := r_12) (ws' := (wd_X_wall D h h_here h_kept h_trial h_parts h_text h_sheets h_findings h_here_ground h_here_farms h_here_mountain h_here_ground_heights h_here_ground_ages h_here_ground_walls v_isKept v_here_month v_here_volume v_here_outs v_here_fed v_here_fedOuts v_here_arePigsTold v_here_ground_vent v_here_ground_ash v_here_ground_walls v_findings)) X hV hl.1 (c_X_wayTo D x1 x2 hc_13) fk_X_wayTo gw_304 rfl [] [none, none, none, none, none] rfl rfl ⟨rfl, rfl, rfl, rfl, rfl, trivial⟩ rfl rfl rfl d_X_wall_2 (fun H locs hV => ?_)
  refine lv_istore (lv' := [(4, .int r_12), (0, .ref h), (1, .int x1), (2, .int x2), (3, .int x3)]) hx hb d_X_wall_5 hl (by decide) rfl (fun ls hl => ?_)
  refine lv_iload hx hb d_X_wall_7 (lv_at hl 0 rfl) ?_
  refine lv_if_ge (tgt := 18) hx hb d_X_wall_9 (by decide) (fun c_14 => ?_) (fun c_14 => ?_)
  · replace hf := kifp c_14 hf
    refine lv_aload_n hx hb d_X_wall_18 rfl (lv_at hl 1 rfl) ?_
    refine k_get X hV 0 8 0 rfl rfl rfl gw_248 rfl rfl d_X_wall_19 ?_
    refine k_get X hV 1 5 0 rfl rfl rfl gw_136 rfl rfl d_X_wall_22 ?_
    refine lv_iload_n hx hb d_X_wall_25 rfl (lv_at hl 2 rfl) ?_
    refine lv_iload hx hb d_X_wall_26 (lv_at hl 0 rfl) ?_
    obtain ⟨r_15, hc_16, hf⟩ := kb1_some hf
    refine k_cvi (w1 := (wd_Gr_isWalled D h_here_ground h_here_ground_heights h_here_ground_ages h_here_ground_walls v_here_ground_vent v_here_ground_ash v_here_ground_walls)) (r := r_15) (ws' := (wd_X_wall D h h_here h_kept h_trial h_parts h_text h_sheets h_findings h_here_ground h_here_farms h_here_mountain h_here_ground_heights h_here_ground_ages h_here_ground_walls v_isKept v_here_month v_here_volume v_here_outs v_here_fed v_here_fedOuts v_here_arePigsTold v_here_ground_vent v_here_ground_ash v_here_ground_walls v_findings)) X hV hl.1 (c_Gr_isWalled D h_here_ground h_here_ground_heights h_here_ground_ages h_here_ground_walls v_here_ground_vent v_here_ground_ash v_here_ground_walls x1 r_12 hc_16) fk_Gr_isWalled gw_310 rfl 2 1 rfl rfl [2, 3] [none, none, some 0, some 1, none] rfl rfl ⟨rfl, rfl, rfl, rfl, rfl, rfl, rfl, rfl, rfl, trivial⟩ rfl rfl rfl d_X_wall_28 (fun H locs hV => ?_)
    refine lv_iload_n hx hb d_X_wall_31 rfl (lv_at hl 4 rfl) ?_
    refine lv_icmp_ne (tgt := 37) hx hb d_X_wall_32 (by decide) (fun c_17 => ?_) (fun c_17 => ?_)
    · replace hf := kifn c_17 hf
      refine lv_aload_n hx hb d_X_wall_37 rfl (lv_at hl 1 rfl) ?_
      refine k_get X hV 0 8 0 rfl rfl rfl gw_248 rfl rfl d_X_wall_38 ?_
      refine k_get X hV 1 5 0 rfl rfl rfl gw_136 rfl rfl d_X_wall_41 ?_
      refine lv_iload_n hx hb d_X_wall_44 rfl (lv_at hl 2 rfl) ?_
      refine lv_iload hx hb d_X_wall_45 (lv_at hl 0 rfl) ?_
      refine lv_iload_n hx hb d_X_wall_47 rfl (lv_at hl 4 rfl) ?_
      obtain ⟨v_here_ground_walls_18, hc_19, hf⟩ := kb1_some hf
      refine k_cvv (w1 := (wd_Gr_putWall D h_here_ground h_here_ground_heights h_here_ground_ages h_here_ground_walls v_here_ground_vent v_here_ground_ash v_here_ground_walls_18)) (ws' := (wd_X_wall D h h_here h_kept h_trial h_parts h_text h_sheets h_findings h_here_ground h_here_farms h_here_mountain h_here_ground_heights h_here_ground_ages h_here_ground_walls v_isKept v_here_month v_here_volume v_here_outs v_here_fed v_here_fedOuts v_here_arePigsTold v_here_ground_vent v_here_ground_ash v_here_ground_walls_18 v_findings)) X hV hl.1 (c_Gr_putWall D h_here_ground h_here_ground_heights h_here_ground_ages h_here_ground_walls v_here_ground_vent v_here_ground_ash v_here_ground_walls x1 r_12 x3 hc_19) fk_Gr_putWall gw_314 rfl 2 1 rfl rfl [2, 3] [none, none, some 0, some 1, none] rfl rfl ⟨rfl, rfl, rfl, rfl, rfl, rfl, rfl, rfl, rfl, trivial⟩ rfl rfl rfl d_X_wall_48 (fun H locs hV => ?_)
      refine lv_iconst (v := 1) hx hb d_X_wall_51 ic_1 ?_
      have e_ := Option.some.inj hf
      subst e_
      exact k_iret X rfl hV rfl d_X_wall_52
    replace hf := kifp c_17 hf
    refine lv_iconst (v := 0) hx hb d_X_wall_35 ic_0 ?_
    have e_ := Option.some.inj hf
    subst e_
    exact k_iret X rfl hV rfl d_X_wall_36
  replace hf := kifn c_14 hf
  refine lv_aload_n hx hb d_X_wall_12 rfl (lv_at hl 1 rfl) ?_
  refine lv_iconst (v := 0) hx hb d_X_wall_13 ic_0 ?_
  obtain ⟨r_20, v_findings_21, hc_22, hf⟩ := kb2_some hf
  refine k_cvi (w1 := (wd_X_finding D h h_here h_kept h_trial h_parts h_text h_sheets h_findings v_isKept v_findings_21)) (r := r_20) (ws' := (wd_X_wall D h h_here h_kept h_trial h_parts h_text h_sheets h_findings h_here_ground h_here_farms h_here_mountain h_here_ground_heights h_here_ground_ages h_here_ground_walls v_isKept v_here_month v_here_volume v_here_outs v_here_fed v_here_fedOuts v_here_arePigsTold v_here_ground_vent v_here_ground_ash v_here_ground_walls v_findings_21)) X hV hl.1 (c_X_finding D h h_here h_kept h_trial h_parts h_text h_sheets h_findings v_isKept v_findings (0 : Int32) hc_22) fk_X_finding gw_283 rfl 0 8 rfl rfl [0, 4] [some 0, none, none, none, some 1] rfl rfl ⟨rfl, rfl, rfl, rfl, rfl, rfl, rfl, rfl, rfl, trivial⟩ rfl rfl rfl d_X_wall_14 (fun H locs hV => ?_)
  have e_ := Option.some.inj hf
  subst e_
  exact k_iret X rfl hV rfl d_X_wall_17
set_option maxHeartbeats 2000000 in
set_option maxRecDepth 20000 in
theorem c_X_wall {l : Launch} (D : kD) (h : Nat) (h_here : Nat) (h_kept : Nat) (h_trial : Nat) (h_parts : Nat) (h_text : Nat) (h_sheets : Nat) (h_findings : Nat) (h_here_ground : Nat) (h_here_farms : Nat) (h_here_mountain : Nat) (h_here_ground_heights : Nat) (h_here_ground_ages : Nat) (h_here_ground_walls : Nat) (v_isKept : Int32) (v_here_month : Int32) (v_here_volume : Int32) (v_here_outs : Int32) (v_here_fed : Int32) (v_here_fedOuts : Int32) (v_here_arePigsTold : Int32) (v_here_ground_vent : Int32) (v_here_ground_ash : Int32) (v_here_ground_walls : Nat → Int32) (v_findings : Nat → Int32) (x1 : Int32) (x2 : Int32) (x3 : Int32) {out : Int32 × (Nat → Int32) × (Nat → Int32)} (hf : f_X_wall v_here_ground_walls v_findings x1 x2 x3 = some out) : kMi l D y_X_wall b_X_wall 5 (some .int) { frames := 2, cells := 0, slots := 0, locals := 49 } [.ref h, .int x1, .int x2, .int x3] (wd_X_wall D h h_here h_kept h_trial h_parts h_text h_sheets h_findings h_here_ground h_here_farms h_here_mountain h_here_ground_heights h_here_ground_ages h_here_ground_walls v_isKept v_here_month v_here_volume v_here_outs v_here_fed v_here_fedOuts v_here_arePigsTold v_here_ground_vent v_here_ground_ash v_here_ground_walls v_findings) (wd_X_wall D h h_here h_kept h_trial h_parts h_text h_sheets h_findings h_here_ground h_here_farms h_here_mountain h_here_ground_heights h_here_ground_ages h_here_ground_walls v_isKept v_here_month v_here_volume v_here_outs v_here_fed v_here_fedOuts v_here_arePigsTold v_here_ground_vent v_here_ground_ash out.2.1 out.2.2) out.1 :=
  kMi_of (own := "MountainFarms") (plainFor_of_name (by decide)) rfl rfl (fun p e s m args below meth c ls X hV hl => t_X_wall X hf hV hl)
set_option maxHeartbeats 2000000 in
set_option maxRecDepth 20000 in
theorem t_X_isKind {l : Launch} {p : Program} {e : Env} {s : State} {m : MethodId} {args : Array Value} {below : List Frame} {meth : Method} {c : Code} {D : kD} {wc0 : va_W} {x0 : Int32} {out : Int32} (X : kX p m meth c s args D (va_A wc0 s.heap.size) b_X_isKind "MountainFarms" 1 (some .boolean)) (hf : f_X_isKind x0 = some out) {H : Heap} {locs : List Loc} (hV : kV D (va_A wc0 s.heap.size) s (wd_X_isKind D) H locs) {ls : Array Slot} (hl : lv_has ls 1 [(0, .int x0)]) : W p l e { frames := 1, cells := 0, slots := 0, locals := 22 } s m args below meth c H locs 0 0 (MQ below (kQi D wc0 (wd_X_isKind D) s.heap.size out) args s 0 0 (va_A wc0 s.heap.size)) (F0 m 0 ls []) := by
  unfold f_X_isKind at hf
  obtain ⟨hx, hb, -⟩ := id X
  refine lv_iload_n hx hb d_X_isKind_0 rfl (lv_at hl 0 rfl) ?_
  refine lv_iconst (v := 0) hx hb d_X_isKind_1 ic_0 ?_
  refine lv_iconst (v := 5) hx hb d_X_isKind_2 ic_5 ?_
  obtain ⟨r_4, hc_5, hf⟩ := kb1_some hf
  refine k_csi (w1 := (wd_X_isWithin D)) (r := r_4) (ws' := (wd_X_isKind D)) X hV hl.1 (c_X_isWithin D x0 (0 : Int32) (5 : Int32) hc_5) fk_X_isWithin gw_280 rfl [] [] rfl rfl trivial rfl rfl rfl d_X_isKind_3 (fun H locs hV => ?_)
  obtain ⟨h_6, hf⟩ := kchk hf
  have e_ := Option.some.inj hf
  subst e_
  exact k_iret X rfl hV (knarB h_6) d_X_isKind_6
set_option maxHeartbeats 2000000 in
set_option maxRecDepth 20000 in
theorem c_X_isKind {l : Launch} (D : kD) (x0 : Int32) {out : Int32} (hf : f_X_isKind x0 = some out) : kMi l D y_X_isKind b_X_isKind 1 (some .boolean) { frames := 1, cells := 0, slots := 0, locals := 22 } [.int x0] (wd_X_isKind D) (wd_X_isKind D) out :=
  kMi_of (own := "MountainFarms") (plainFor_of_name (by decide)) rfl rfl (fun p e s m args below meth c ls X hV hl => t_X_isKind X hf hV hl)
set_option maxHeartbeats 2000000 in
set_option maxRecDepth 20000 in
theorem t_X_isOwner {l : Launch} {p : Program} {e : Env} {s : State} {m : MethodId} {args : Array Value} {below : List Frame} {meth : Method} {c : Code} {D : kD} {wc0 : va_W} {x0 : Int32} {out : Int32} (X : kX p m meth c s args D (va_A wc0 s.heap.size) b_X_isOwner "MountainFarms" 1 (some .boolean)) (hf : f_X_isOwner x0 = some out) {H : Heap} {locs : List Loc} (hV : kV D (va_A wc0 s.heap.size) s (wd_X_isOwner D) H locs) {ls : Array Slot} (hl : lv_has ls 1 [(0, .int x0)]) : W p l e { frames := 1, cells := 0, slots := 0, locals := 22 } s m args below meth c H locs 0 0 (MQ below (kQi D wc0 (wd_X_isOwner D) s.heap.size out) args s 0 0 (va_A wc0 s.heap.size)) (F0 m 0 ls []) := by
  unfold f_X_isOwner at hf
  obtain ⟨hx, hb, -⟩ := id X
  refine lv_iload_n hx hb d_X_isOwner_0 rfl (lv_at hl 0 rfl) ?_
  refine lv_iconst (v := 0) hx hb d_X_isOwner_1 ic_0 ?_
  refine lv_iconst (v := 5) hx hb d_X_isOwner_2 ic_5 ?_
  obtain ⟨r_4, hc_5, hf⟩ := kb1_some hf
  refine k_csi (w1 := (wd_X_isWithin D)) (r := r_4) (ws' := (wd_X_isOwner D)) X hV hl.1 (c_X_isWithin D x0 (0 : Int32) (5 : Int32) hc_5) fk_X_isWithin gw_280 rfl [] [] rfl rfl trivial rfl rfl rfl d_X_isOwner_3 (fun H locs hV => ?_)
  obtain ⟨h_6, hf⟩ := kchk hf
  have e_ := Option.some.inj hf
  subst e_
  exact k_iret X rfl hV (knarB h_6) d_X_isOwner_6
set_option maxHeartbeats 2000000 in
set_option maxRecDepth 20000 in
theorem c_X_isOwner {l : Launch} (D : kD) (x0 : Int32) {out : Int32} (hf : f_X_isOwner x0 = some out) : kMi l D y_X_isOwner b_X_isOwner 1 (some .boolean) { frames := 1, cells := 0, slots := 0, locals := 22 } [.int x0] (wd_X_isOwner D) (wd_X_isOwner D) out :=
  kMi_of (own := "MountainFarms") (plainFor_of_name (by decide)) rfl rfl (fun p e s m args below meth c ls X hV hl => t_X_isOwner X hf hV hl)
set_option maxHeartbeats 2000000 in
set_option maxRecDepth 20000 in
theorem t_Fa_isFull {l : Launch} {p : Program} {e : Env} {s : State} {m : MethodId} {args : Array Value} {below : List Frame} {meth : Method} {c : Code} {D : kD} {wc0 : va_W} {h : Nat} {h_kinds : Nat} {h_cells : Nat} {h_owners : Nat} {h_purses : Nat} {v_number : Int32} {v_burnt : Int32} {out : Int32} (X : kX p m meth c s args D (va_A wc0 s.heap.size) b_Fa_isFull "MountainFarms$Farms" 1 (some .boolean)) (hf : f_Fa_isFull v_number = some out) {H : Heap} {locs : List Loc} (hV : kV D (va_A wc0 s.heap.size) s (wd_Fa_isFull D h h_kinds h_cells h_owners h_purses v_number v_burnt) H locs) {ls : Array Slot} (hl : lv_has ls 1 [(0, .ref h)]) : W p l e { frames := 0, cells := 0, slots := 0, locals := 0 } s m args below meth c H locs 0 0 (MQ below (kQi D wc0 (wd_Fa_isFull D h h_kinds h_cells h_owners h_purses v_number v_burnt) s.heap.size out) args s 0 0 (va_A wc0 s.heap.size)) (F0 m 0 ls []) := by
  unfold f_Fa_isFull at hf
  obtain ⟨hx, hb, -⟩ := id X
  refine lv_aload_n hx hb d_Fa_isFull_0 rfl (lv_at hl 0 rfl) ?_
  refine k_get X hV 0 0 4 rfl rfl rfl gw_86 rfl rfl d_Fa_isFull_1 ?_
  refine lv_bipush (v := 12) hx hb d_Fa_isFull_4 bp_12 ?_
  refine lv_icmp_lt (tgt := 13) hx hb d_Fa_isFull_6 (by decide) (fun c_2 => ?_) (fun c_2 => ?_)
  · replace hf := kifp c_2 hf
    refine lv_iconst (v := 0) hx hb d_Fa_isFull_13 ic_0 ?_
    have e_ := Option.some.inj hf
    subst e_
    exact k_iret (v := 0) X rfl hV nb0 d_Fa_isFull_14
  replace hf := kifn c_2 hf
  refine lv_iconst (v := 1) hx hb d_Fa_isFull_9 ic_1 ?_
  refine lv_goto (tgt := 14) hx hb d_Fa_isFull_10 (by decide) ?_
  have e_ := Option.some.inj hf
  subst e_
  exact k_iret (v := 1) X rfl hV nb1 d_Fa_isFull_14
set_option maxHeartbeats 2000000 in
set_option maxRecDepth 20000 in
theorem c_Fa_isFull {l : Launch} (D : kD) (h : Nat) (h_kinds : Nat) (h_cells : Nat) (h_owners : Nat) (h_purses : Nat) (v_number : Int32) (v_burnt : Int32) {out : Int32} (hf : f_Fa_isFull v_number = some out) : kMi l D y_Fa_isFull b_Fa_isFull 1 (some .boolean) { frames := 0, cells := 0, slots := 0, locals := 0 } [.ref h] (wd_Fa_isFull D h h_kinds h_cells h_owners h_purses v_number v_burnt) (wd_Fa_isFull D h h_kinds h_cells h_owners h_purses v_number v_burnt) out :=
  kMi_of (own := "MountainFarms$Farms") (plainFor_of_name (by decide)) rfl rfl (fun p e s m args below meth c ls X hV hl => t_Fa_isFull X hf hV hl)
set_option maxHeartbeats 2000000 in
set_option maxRecDepth 20000 in
theorem t_Fa_add {l : Launch} {p : Program} {e : Env} {s : State} {m : MethodId} {args : Array Value} {below : List Frame} {meth : Method} {c : Code} {D : kD} {wc0 : va_W} {h : Nat} {h_kinds : Nat} {h_cells : Nat} {h_owners : Nat} {h_purses : Nat} {v_number : Int32} {v_burnt : Int32} {v_kinds : Nat → Int32} {v_cells : Nat → Int32} {v_owners : Nat → Int32} {v_purses : Nat → Int32} {x1 : Int32} {x2 : Int32} {x3 : Int32} {out : Int32 × Int32 × (Nat → Int32) × (Nat → Int32) × (Nat → Int32) × (Nat → Int32)} (X : kX p m meth c s args D (va_A wc0 s.heap.size) b_Fa_add "MountainFarms$Farms" 4 (some .int)) (hf : f_Fa_add v_number v_kinds v_cells v_owners v_purses x1 x2 x3 = some out) {H : Heap} {locs : List Loc} (hV : kV D (va_A wc0 s.heap.size) s (wd_Fa_add D h h_kinds h_cells h_owners h_purses v_number v_burnt v_kinds v_cells v_owners v_purses) H locs) {ls : Array Slot} (hl : lv_has ls 4 [(0, .ref h), (1, .int x1), (2, .int x2), (3, .int x3)]) : W p l e { frames := 1, cells := 0, slots := 0, locals := 20 } s m args below meth c H locs 0 0 (MQ below (kQi D wc0 (wd_Fa_add D h h_kinds h_cells h_owners h_purses out.2.1 v_burnt out.2.2.1 out.2.2.2.1 out.2.2.2.2.1 out.2.2.2.2.2) s.heap.size out.1) args s 0 0 (va_A wc0 s.heap.size)) (F0 m 0 ls []) := by
  unfold f_Fa_add at hf
  obtain ⟨hx, hb, -⟩ := id X
  refine lv_aload_n hx hb d_Fa_add_0 rfl (lv_at hl 0 rfl) ?_
  obtain ⟨r_8, hc_9, hf⟩ := kb1_some hf
  refine k_cvi (w1 := (wd_Fa_isFull D h h_kinds h_cells h_owners h_purses v_number v_burnt)) (r := r_8) (ws' := (wd_Fa_add D h h_kinds h_cells h_owners h_purses v_number v_burnt v_kinds v_cells v_owners v_purses)) X hV hl.1 (c_Fa_isFull D h h_kinds h_cells h_owners h_purses v_number v_burnt hc_9) fk_Fa_isFull gw_337 rfl 0 0 rfl rfl [0] [some 0, none, none, none, none] rfl rfl ⟨rfl, rfl, rfl, rfl, rfl, rfl, rfl, trivial⟩ rfl rfl rfl d_Fa_add_1 (fun H locs hV => ?_)
  refine lv_if_eq (tgt := 9) hx hb d_Fa_add_4 (by decide) (fun c_10 => ?_) (fun c_10 => ?_)
  · replace hf := kifp c_10 hf
    refine lv_aload_n hx hb d_Fa_add_9 rfl (lv_at hl 0 rfl) ?_
    refine k_get X hV 0 0 0 rfl rfl rfl gw_78 rfl rfl d_Fa_add_10 ?_
    refine lv_aload_n hx hb d_Fa_add_13 rfl (lv_at hl 0 rfl) ?_
    refine k_get X hV 0 0 4 rfl rfl rfl gw_86 rfl rfl d_Fa_add_14 ?_
    refine lv_iload_n hx hb d_Fa_add_17 rfl (lv_at hl 1 rfl) ?_
    obtain ⟨h_11, hf⟩ := kidx_some hf
    refine k_iast (ws' := (wd_Fa_add D h h_kinds h_cells h_owners h_purses v_number v_burnt (upd v_kinds v_number.toNatClampNeg x1) v_cells v_owners v_purses)) X hV 1 rfl h_11 rfl rfl d_Fa_add_18 (fun H locs hV => ?_)
    refine lv_aload_n hx hb d_Fa_add_19 rfl (lv_at hl 0 rfl) ?_
    refine k_get X hV 0 0 1 rfl rfl rfl gw_80 rfl rfl d_Fa_add_20 ?_
    refine lv_aload_n hx hb d_Fa_add_23 rfl (lv_at hl 0 rfl) ?_
    refine k_get X hV 0 0 4 rfl rfl rfl gw_86 rfl rfl d_Fa_add_24 ?_
    refine lv_iload_n hx hb d_Fa_add_27 rfl (lv_at hl 2 rfl) ?_
    obtain ⟨h_12, hf⟩ := kidx_some hf
    refine k_iast (ws' := (wd_Fa_add D h h_kinds h_cells h_owners h_purses v_number v_burnt (upd v_kinds v_number.toNatClampNeg x1) (upd v_cells v_number.toNatClampNeg x2) v_owners v_purses)) X hV 2 rfl h_12 rfl rfl d_Fa_add_28 (fun H locs hV => ?_)
    refine lv_aload_n hx hb d_Fa_add_29 rfl (lv_at hl 0 rfl) ?_
    refine k_get X hV 0 0 2 rfl rfl rfl gw_82 rfl rfl d_Fa_add_30 ?_
    refine lv_aload_n hx hb d_Fa_add_33 rfl (lv_at hl 0 rfl) ?_
    refine k_get X hV 0 0 4 rfl rfl rfl gw_86 rfl rfl d_Fa_add_34 ?_
    refine lv_iload_n hx hb d_Fa_add_37 rfl (lv_at hl 3 rfl) ?_
    obtain ⟨h_13, hf⟩ := kidx_some hf
    refine k_iast (ws' := (wd_Fa_add D h h_kinds h_cells h_owners h_purses v_number v_burnt (upd v_kinds v_number.toNatClampNeg x1) (upd v_cells v_number.toNatClampNeg x2) (upd v_owners v_number.toNatClampNeg x3) v_purses)) X hV 3 rfl h_13 rfl rfl d_Fa_add_38 (fun H locs hV => ?_)
    refine lv_aload_n hx hb d_Fa_add_39 rfl (lv_at hl 0 rfl) ?_
    refine k_get X hV 0 0 3 rfl rfl rfl gw_84 rfl rfl d_Fa_add_40 ?_
    refine lv_aload_n hx hb d_Fa_add_43 rfl (lv_at hl 0 rfl) ?_
    refine k_get X hV 0 0 4 rfl rfl rfl gw_86 rfl rfl d_Fa_add_44 ?_
    refine lv_iconst (v := 0) hx hb d_Fa_add_47 ic_0 ?_
    obtain ⟨h_14, hf⟩ := kidx_some hf
    refine k_iast (ws' := (wd_Fa_add D h h_kinds h_cells h_owners h_purses v_number v_burnt (upd v_kinds v_number.toNatClampNeg x1) (upd v_cells v_number.toNatClampNeg x2) (upd v_owners v_number.toNatClampNeg x3) (upd v_purses v_number.toNatClampNeg (0 : Int32)))) X hV 4 rfl h_14 rfl rfl d_Fa_add_48 (fun H locs hV => ?_)
    refine lv_aload_n hx hb d_Fa_add_49 rfl (lv_at hl 0 rfl) ?_
    refine lv_dup hx hb d_Fa_add_50 rfl ?_
    refine k_get X hV 0 0 4 rfl rfl rfl gw_86 rfl rfl d_Fa_add_51 ?_
    refine lv_iconst (v := 1) hx hb d_Fa_add_54 ic_1 ?_
    refine lv_iadd hx hb d_Fa_add_55 ?_
    refine k_putv (ty := .int) (ws' := (wd_Fa_add D h h_kinds h_cells h_owners h_purses (v_number + (1 : Int32)) v_burnt (upd v_kinds v_number.toNatClampNeg x1) (upd v_cells v_number.toNatClampNeg x2) (upd v_owners v_number.toNatClampNeg x3) (upd v_purses v_number.toNatClampNeg (0 : Int32)))) X hV 0 0 4 rfl rfl rfl gw_86 rfl rfl rfl rfl rfl rfl rfl d_Fa_add_56 (fun H locs hV => ?_)
    refine lv_aload_n hx hb d_Fa_add_59 rfl (lv_at hl 0 rfl) ?_
    refine k_get X hV 0 0 4 rfl rfl rfl gw_86 rfl rfl d_Fa_add_60 ?_
    refine lv_iconst (v := 1) hx hb d_Fa_add_63 ic_1 ?_
    refine lv_isub hx hb d_Fa_add_64 ?_
    have e_ := Option.some.inj hf
    subst e_
    exact k_iret X rfl hV rfl d_Fa_add_65
  replace hf := kifn c_10 hf
  refine lv_iconst (v := (-1)) hx hb d_Fa_add_7 ic_m1 ?_
  have e_ := Option.some.inj hf
  subst e_
  exact k_iret X rfl hV rfl d_Fa_add_8
set_option maxHeartbeats 2000000 in
set_option maxRecDepth 20000 in
theorem c_Fa_add {l : Launch} (D : kD) (h : Nat) (h_kinds : Nat) (h_cells : Nat) (h_owners : Nat) (h_purses : Nat) (v_number : Int32) (v_burnt : Int32) (v_kinds : Nat → Int32) (v_cells : Nat → Int32) (v_owners : Nat → Int32) (v_purses : Nat → Int32) (x1 : Int32) (x2 : Int32) (x3 : Int32) {out : Int32 × Int32 × (Nat → Int32) × (Nat → Int32) × (Nat → Int32) × (Nat → Int32)} (hf : f_Fa_add v_number v_kinds v_cells v_owners v_purses x1 x2 x3 = some out) : kMi l D y_Fa_add b_Fa_add 4 (some .int) { frames := 1, cells := 0, slots := 0, locals := 20 } [.ref h, .int x1, .int x2, .int x3] (wd_Fa_add D h h_kinds h_cells h_owners h_purses v_number v_burnt v_kinds v_cells v_owners v_purses) (wd_Fa_add D h h_kinds h_cells h_owners h_purses out.2.1 v_burnt out.2.2.1 out.2.2.2.1 out.2.2.2.2.1 out.2.2.2.2.2) out.1 :=
  kMi_of (own := "MountainFarms$Farms") (plainFor_of_name (by decide)) rfl rfl (fun p e s m args below meth c ls X hV hl => t_Fa_add X hf hV hl)
set_option maxHeartbeats 2000000 in
set_option maxRecDepth 20000 in
theorem t_X_farm_1 {l : Launch} {p : Program} {e : Env} {s : State} {m : MethodId} {args : Array Value} {below : List Frame} {meth : Method} {c : Code} {D : kD} {wc0 : va_W} {h : Nat} {h_here : Nat} {h_kept : Nat} {h_trial : Nat} {h_parts : Nat} {h_text : Nat} {h_sheets : Nat} {h_findings : Nat} {h_here_ground : Nat} {h_here_farms : Nat} {h_here_mountain : Nat} {h_here_farms_kinds : Nat} {h_here_farms_cells : Nat} {h_here_farms_owners : Nat} {h_here_farms_purses : Nat} {v_isKept : Int32} {v_here_month : Int32} {v_here_volume : Int32} {v_here_outs : Int32} {v_here_fed : Int32} {v_here_fedOuts : Int32} {v_here_arePigsTold : Int32} {v_here_farms_number : Int32} {v_here_farms_burnt : Int32} {v_here_farms_kinds : Nat → Int32} {v_here_farms_cells : Nat → Int32} {v_here_farms_owners : Nat → Int32} {v_here_farms_purses : Nat → Int32} {v_findings : Nat → Int32} {out : Int32 × Int32 × (Nat → Int32) × (Nat → Int32) × (Nat → Int32) × (Nat → Int32) × (Nat → Int32)} (X : kX p m meth c s args D (va_A wc0 s.heap.size) b_X_farm "MountainFarms" 4 (some .int)) (hf : f_X_farm_1 v_here_farms_number v_here_farms_kinds v_here_farms_cells v_here_farms_owners v_here_farms_purses v_findings = some out) {H : Heap} {locs : List Loc} (hV : kV D (va_A wc0 s.heap.size) s (wd_X_farm D h h_here h_kept h_trial h_parts h_text h_sheets h_findings h_here_ground h_here_farms h_here_mountain h_here_farms_kinds h_here_farms_cells h_here_farms_owners h_here_farms_purses v_isKept v_here_month v_here_volume v_here_outs v_here_fed v_here_fedOuts v_here_arePigsTold v_here_farms_number v_here_farms_burnt v_here_farms_kinds v_here_farms_cells v_here_farms_owners v_here_farms_purses v_findings) H locs) {ls : Array Slot} (hl : lv_has ls 4 [(0, .ref h)]) : W p l e { frames := 2, cells := 0, slots := 0, locals := 43 } s m args below meth c H locs 0 0 (MQ below (kQi D wc0 (wd_X_farm D h h_here h_kept h_trial h_parts h_text h_sheets h_findings h_here_ground h_here_farms h_here_mountain h_here_farms_kinds h_here_farms_cells h_here_farms_owners h_here_farms_purses v_isKept v_here_month v_here_volume v_here_outs v_here_fed v_here_fedOuts v_here_arePigsTold out.2.1 v_here_farms_burnt out.2.2.1 out.2.2.2.1 out.2.2.2.2.1 out.2.2.2.2.2.1 out.2.2.2.2.2.2) s.heap.size out.1) args s 0 0 (va_A wc0 s.heap.size)) (F0 m 21 ls []) := by
  unfold f_X_farm_1 at hf
  obtain ⟨hx, hb, -⟩ := id X
  refine lv_aload_n hx hb d_X_farm_21 rfl (lv_at hl 0 rfl) ?_
  refine lv_iconst (v := 0) hx hb d_X_farm_22 ic_0 ?_
  obtain ⟨r_60, v_findings_61, hc_62, hf⟩ := kb2_some hf
  refine k_cvi (w1 := (wd_X_finding D h h_here h_kept h_trial h_parts h_text h_sheets h_findings v_isKept v_findings_61)) (r := r_60) (ws' := (wd_X_farm D h h_here h_kept h_trial h_parts h_text h_sheets h_findings h_here_ground h_here_farms h_here_mountain h_here_farms_kinds h_here_farms_cells h_here_farms_owners h_here_farms_purses v_isKept v_here_month v_here_volume v_here_outs v_here_fed v_here_fedOuts v_here_arePigsTold v_here_farms_number v_here_farms_burnt v_here_farms_kinds v_here_farms_cells v_here_farms_owners v_here_farms_purses v_findings_61)) X hV hl.1 (c_X_finding D h h_here h_kept h_trial h_parts h_text h_sheets h_findings v_isKept v_findings (0 : Int32) hc_62) fk_X_finding gw_283 rfl 0 8 rfl rfl [0, 7] [some 0, none, none, none, none, none, none, some 1] rfl rfl ⟨rfl, rfl, rfl, rfl, rfl, rfl, rfl, rfl, rfl, rfl, rfl, rfl, trivial⟩ rfl rfl rfl d_X_farm_23 (fun H locs hV => ?_)
  have e_ := Option.some.inj hf
  subst e_
  exact k_iret X rfl hV rfl d_X_farm_26
set_option maxHeartbeats 2000000 in
set_option maxRecDepth 20000 in
theorem t_X_farm {l : Launch} {p : Program} {e : Env} {s : State} {m : MethodId} {args : Array Value} {below : List Frame} {meth : Method} {c : Code} {D : kD} {wc0 : va_W} {h : Nat} {h_here : Nat} {h_kept : Nat} {h_trial : Nat} {h_parts : Nat} {h_text : Nat} {h_sheets : Nat} {h_findings : Nat} {h_here_ground : Nat} {h_here_farms : Nat} {h_here_mountain : Nat} {h_here_farms_kinds : Nat} {h_here_farms_cells : Nat} {h_here_farms_owners : Nat} {h_here_farms_purses : Nat} {v_isKept : Int32} {v_here_month : Int32} {v_here_volume : Int32} {v_here_outs : Int32} {v_here_fed : Int32} {v_here_fedOuts : Int32} {v_here_arePigsTold : Int32} {v_here_farms_number : Int32} {v_here_farms_burnt : Int32} {v_here_farms_kinds : Nat → Int32} {v_here_farms_cells : Nat → Int32} {v_here_farms_owners : Nat → Int32} {v_here_farms_purses : Nat → Int32} {v_findings : Nat → Int32} {x1 : Int32} {x2 : Int32} {x3 : Int32} {out : Int32 × Int32 × (Nat → Int32) × (Nat → Int32) × (Nat → Int32) × (Nat → Int32) × (Nat → Int32)} (X : kX p m meth c s args D (va_A wc0 s.heap.size) b_X_farm "MountainFarms" 4 (some .int)) (hf : f_X_farm v_here_farms_number v_here_farms_kinds v_here_farms_cells v_here_farms_owners v_here_farms_purses v_findings x1 x2 x3 = some out) {H : Heap} {locs : List Loc} (hV : kV D (va_A wc0 s.heap.size) s (wd_X_farm D h h_here h_kept h_trial h_parts h_text h_sheets h_findings h_here_ground h_here_farms h_here_mountain h_here_farms_kinds h_here_farms_cells h_here_farms_owners h_here_farms_purses v_isKept v_here_month v_here_volume v_here_outs v_here_fed v_here_fedOuts v_here_arePigsTold v_here_farms_number v_here_farms_burnt v_here_farms_kinds v_here_farms_cells v_here_farms_owners v_here_farms_purses v_findings) H locs) {ls : Array Slot} (hl : lv_has ls 4 [(0, .ref h), (1, .int x1), (2, .int x2), (3, .int x3)]) : W p l e { frames := 2, cells := 0, slots := 0, locals := 43 } s m args below meth c H locs 0 0 (MQ below (kQi D wc0 (wd_X_farm D h h_here h_kept h_trial h_parts h_text h_sheets h_findings h_here_ground h_here_farms h_here_mountain h_here_farms_kinds h_here_farms_cells h_here_farms_owners h_here_farms_purses v_isKept v_here_month v_here_volume v_here_outs v_here_fed v_here_fedOuts v_here_arePigsTold out.2.1 v_here_farms_burnt out.2.2.1 out.2.2.2.1 out.2.2.2.2.1 out.2.2.2.2.2.1 out.2.2.2.2.2.2) s.heap.size out.1) args s 0 0 (va_A wc0 s.heap.size)) (F0 m 0 ls []) := by
  unfold f_X_farm at hf
  obtain ⟨hx, hb, -⟩ := id X
  refine lv_iload_n hx hb d_X_farm_0 rfl (lv_at hl 1 rfl) ?_
  obtain ⟨r_32, hc_33, hf⟩ := kb1_some hf
  refine k_csi (w1 := (wd_X_isKind D)) (r := r_32) (ws' := (wd_X_farm D h h_here h_kept h_trial h_parts h_text h_sheets h_findings h_here_ground h_here_farms h_here_mountain h_here_farms_kinds h_here_farms_cells h_here_farms_owners h_here_farms_purses v_isKept v_here_month v_here_volume v_here_outs v_here_fed v_here_fedOuts v_here_arePigsTold v_here_farms_number v_here_farms_burnt v_here_farms_kinds v_here_farms_cells v_here_farms_owners v_here_farms_purses v_findings)) X hV hl.1 (c_X_isKind D x1 hc_33) fk_X_isKind gw_323 rfl [] [none, none, none, none, none, none, none, none] rfl rfl ⟨rfl, rfl, rfl, rfl, rfl, rfl, rfl, rfl, trivial⟩ rfl rfl rfl d_X_farm_1 (fun H locs hV => ?_)
  refine lv_if_eq (tgt := 21) hx hb d_X_farm_4 (by decide) (fun c_34 => ?_) (fun c_34 => ?_)
  · replace hf := kifp c_34 hf
    exact t_X_farm_1 X hf hV (lv_sub hl [0] rfl)
  replace hf := kifn c_34 hf
  refine lv_iload_n hx hb d_X_farm_7 rfl (lv_at hl 2 rfl) ?_
  obtain ⟨r_35, hc_36, hf⟩ := kb1_some hf
  refine k_csi (w1 := (wd_X_isCell D)) (r := r_35) (ws' := (wd_X_farm D h h_here h_kept h_trial h_parts h_text h_sheets h_findings h_here_ground h_here_farms h_here_mountain h_here_farms_kinds h_here_farms_cells h_here_farms_owners h_here_farms_purses v_isKept v_here_month v_here_volume v_here_outs v_here_fed v_here_fedOuts v_here_arePigsTold v_here_farms_number v_here_farms_burnt v_here_farms_kinds v_here_farms_cells v_here_farms_owners v_here_farms_purses v_findings)) X hV hl.1 (c_X_isCell D x2 hc_36) fk_X_isCell gw_277 rfl [] [none, none, none, none, none, none, none, none] rfl rfl ⟨rfl, rfl, rfl, rfl, rfl, rfl, rfl, rfl, trivial⟩ rfl rfl rfl d_X_farm_8 (fun H locs hV => ?_)
  refine lv_if_eq (tgt := 21) hx hb d_X_farm_11 (by decide) (fun c_37 => ?_) (fun c_37 => ?_)
  · replace hf := kifp c_37 hf
    exact t_X_farm_1 X hf hV (lv_sub hl [0] rfl)
  replace hf := kifn c_37 hf
  refine lv_iload_n hx hb d_X_farm_14 rfl (lv_at hl 3 rfl) ?_
  obtain ⟨r_38, hc_39, hf⟩ := kb1_some hf
  refine k_csi (w1 := (wd_X_isOwner D)) (r := r_38) (ws' := (wd_X_farm D h h_here h_kept h_trial h_parts h_text h_sheets h_findings h_here_ground h_here_farms h_here_mountain h_here_farms_kinds h_here_farms_cells h_here_farms_owners h_here_farms_purses v_isKept v_here_month v_here_volume v_here_outs v_here_fed v_here_fedOuts v_here_arePigsTold v_here_farms_number v_here_farms_burnt v_here_farms_kinds v_here_farms_cells v_here_farms_owners v_here_farms_purses v_findings)) X hV hl.1 (c_X_isOwner D x3 hc_39) fk_X_isOwner gw_326 rfl [] [none, none, none, none, none, none, none, none] rfl rfl ⟨rfl, rfl, rfl, rfl, rfl, rfl, rfl, rfl, trivial⟩ rfl rfl rfl d_X_farm_15 (fun H locs hV => ?_)
  refine lv_if_ne (tgt := 27) hx hb d_X_farm_18 (by decide) (fun c_40 => ?_) (fun c_40 => ?_)
  · replace hf := kifn c_40 hf
    refine lv_aload_n hx hb d_X_farm_27 rfl (lv_at hl 0 rfl) ?_
    refine k_get X hV 0 8 0 rfl rfl rfl gw_248 rfl rfl d_X_farm_28 ?_
    refine k_get X hV 1 5 1 rfl rfl rfl gw_140 rfl rfl d_X_farm_31 ?_
    refine lv_iload_n hx hb d_X_farm_34 rfl (lv_at hl 2 rfl) ?_
    obtain ⟨r_41, hc_42, hf⟩ := kb1_some hf
    refine k_cvi (w1 := (wd_Fa_farmOn D h_here_farms h_here_farms_kinds h_here_farms_cells h_here_farms_owners h_here_farms_purses v_here_farms_number v_here_farms_burnt v_here_farms_cells)) (r := r_41) (ws' := (wd_X_farm D h h_here h_kept h_trial h_parts h_text h_sheets h_findings h_here_ground h_here_farms h_here_mountain h_here_farms_kinds h_here_farms_cells h_here_farms_owners h_here_farms_purses v_isKept v_here_month v_here_volume v_here_outs v_here_fed v_here_fedOuts v_here_arePigsTold v_here_farms_number v_here_farms_burnt v_here_farms_kinds v_here_farms_cells v_here_farms_owners v_here_farms_purses v_findings)) X hV hl.1 (c_Fa_farmOn D h_here_farms h_here_farms_kinds h_here_farms_cells h_here_farms_owners h_here_farms_purses v_here_farms_number v_here_farms_burnt v_here_farms_cells x2 hc_42) fk_Fa_farmOn gw_292 rfl 2 0 rfl rfl [2, 4] [none, none, some 0, none, some 1, none, none, none] rfl rfl ⟨rfl, rfl, rfl, rfl, rfl, rfl, rfl, rfl, rfl, rfl, rfl, rfl, trivial⟩ rfl rfl rfl d_X_farm_35 (fun H locs hV => ?_)
    refine lv_if_lt (tgt := 47) hx hb d_X_farm_38 (by decide) (fun c_43 => ?_) (fun c_43 => ?_)
    · replace hf := kifp c_43 hf
      refine lv_aload_n hx hb d_X_farm_47 rfl (lv_at hl 0 rfl) ?_
      refine k_get X hV 0 8 0 rfl rfl rfl gw_248 rfl rfl d_X_farm_48 ?_
      refine k_get X hV 1 5 1 rfl rfl rfl gw_140 rfl rfl d_X_farm_51 ?_
      obtain ⟨r_44, hc_45, hf⟩ := kb1_some hf
      refine k_cvi (w1 := (wd_Fa_isFull D h_here_farms h_here_farms_kinds h_here_farms_cells h_here_farms_owners h_here_farms_purses v_here_farms_number v_here_farms_burnt)) (r := r_44) (ws' := (wd_X_farm D h h_here h_kept h_trial h_parts h_text h_sheets h_findings h_here_ground h_here_farms h_here_mountain h_here_farms_kinds h_here_farms_cells h_here_farms_owners h_here_farms_purses v_isKept v_here_month v_here_volume v_here_outs v_here_fed v_here_fedOuts v_here_arePigsTold v_here_farms_number v_here_farms_burnt v_here_farms_kinds v_here_farms_cells v_here_farms_owners v_here_farms_purses v_findings)) X hV hl.1 (c_Fa_isFull D h_here_farms h_here_farms_kinds h_here_farms_cells h_here_farms_owners h_here_farms_purses v_here_farms_number v_here_farms_burnt hc_45) fk_Fa_isFull gw_329 rfl 2 0 rfl rfl [2] [none, none, some 0, none, none, none, none, none] rfl rfl ⟨rfl, rfl, rfl, rfl, rfl, rfl, rfl, rfl, rfl, rfl, trivial⟩ rfl rfl rfl d_X_farm_54 (fun H locs hV => ?_)
      refine lv_if_eq (tgt := 66) hx hb d_X_farm_57 (by decide) (fun c_46 => ?_) (fun c_46 => ?_)
      · replace hf := kifp c_46 hf
        refine lv_aload_n hx hb d_X_farm_66 rfl (lv_at hl 0 rfl) ?_
        refine k_get X hV 0 8 0 rfl rfl rfl gw_248 rfl rfl d_X_farm_67 ?_
        refine k_get X hV 1 5 1 rfl rfl rfl gw_140 rfl rfl d_X_farm_70 ?_
        refine lv_iload_n hx hb d_X_farm_73 rfl (lv_at hl 1 rfl) ?_
        refine lv_iload_n hx hb d_X_farm_74 rfl (lv_at hl 2 rfl) ?_
        refine lv_iload_n hx hb d_X_farm_75 rfl (lv_at hl 3 rfl) ?_
        obtain ⟨r_47, v_here_farms_number_48, v_here_farms_kinds_49, v_here_farms_cells_50, v_here_farms_owners_51, v_here_farms_purses_52, hc_53, hf⟩ := kb6_some hf
        refine k_cvi (w1 := (wd_Fa_add D h_here_farms h_here_farms_kinds h_here_farms_cells h_here_farms_owners h_here_farms_purses v_here_farms_number_48 v_here_farms_burnt v_here_farms_kinds_49 v_here_farms_cells_50 v_here_farms_owners_51 v_here_farms_purses_52)) (r := r_47) (ws' := (wd_X_farm D h h_here h_kept h_trial h_parts h_text h_sheets h_findings h_here_ground h_here_farms h_here_mountain h_here_farms_kinds h_here_farms_cells h_here_farms_owners h_here_farms_purses v_isKept v_here_month v_here_volume v_here_outs v_here_fed v_here_fedOuts v_here_arePigsTold v_here_farms_number_48 v_here_farms_burnt v_here_farms_kinds_49 v_here_farms_cells_50 v_here_farms_owners_51 v_here_farms_purses_52 v_findings)) X hV hl.1 (c_Fa_add D h_here_farms h_here_farms_kinds h_here_farms_cells h_here_farms_owners h_here_farms_purses v_here_farms_number v_here_farms_burnt v_here_farms_kinds v_here_farms_cells v_here_farms_owners v_here_farms_purses x1 x2 x3 hc_53) fk_Fa_add gw_333 rfl 2 0 rfl rfl [2, 3, 4, 5, 6] [none, none, some 0, some 1, some 2, some 3, some 4, none] rfl rfl ⟨rfl, rfl, rfl, rfl, rfl, rfl, rfl, rfl, rfl, rfl, rfl, rfl, rfl, rfl, rfl, rfl, rfl, rfl, trivial⟩ rfl rfl rfl d_X_farm_76 (fun H locs hV => ?_)
        have e_ := Option.some.inj hf
        subst e_
        exact k_iret X rfl hV rfl d_X_farm_79
      replace hf := kifn c_46 hf
      refine lv_aload_n hx hb d_X_farm_60 rfl (lv_at hl 0 rfl) ?_
      refine lv_iconst (v := 1) hx hb d_X_farm_61 ic_1 ?_
      obtain ⟨r_54, v_findings_55, hc_56, hf⟩ := kb2_some hf
      refine k_cvi (w1 := (wd_X_finding D h h_here h_kept h_trial h_parts h_text h_sheets h_findings v_isKept v_findings_55)) (r := r_54) (ws' := (wd_X_farm D h h_here h_kept h_trial h_parts h_text h_sheets h_findings h_here_ground h_here_farms h_here_mountain h_here_farms_kinds h_here_farms_cells h_here_farms_owners h_here_farms_purses v_isKept v_here_month v_here_volume v_here_outs v_here_fed v_here_fedOuts v_here_arePigsTold v_here_farms_number v_here_farms_burnt v_here_farms_kinds v_here_farms_cells v_here_farms_owners v_here_farms_purses v_findings_55)) X hV hl.1 (c_X_finding D h h_here h_kept h_trial h_parts h_text h_sheets h_findings v_isKept v_findings (1 : Int32) hc_56) fk_X_finding gw_283 rfl 0 8 rfl rfl [0, 7] [some 0, none, none, none, none, none, none, some 1] rfl rfl ⟨rfl, rfl, rfl, rfl, rfl, rfl, rfl, rfl, rfl, rfl, rfl, rfl, trivial⟩ rfl rfl rfl d_X_farm_62 (fun H locs hV => ?_)
      have e_ := Option.some.inj hf
      subst e_
      exact k_iret X rfl hV rfl d_X_farm_65
    replace hf := kifn c_43 hf
    refine lv_aload_n hx hb d_X_farm_41 rfl (lv_at hl 0 rfl) ?_
    refine lv_iconst (v := 4) hx hb d_X_farm_42 ic_4 ?_
    obtain ⟨r_57, v_findings_58, hc_59, hf⟩ := kb2_some hf
    refine k_cvi (w1 := (wd_X_finding D h h_here h_kept h_trial h_parts h_text h_sheets h_findings v_isKept v_findings_58)) (r := r_57) (ws' := (wd_X_farm D h h_here h_kept h_trial h_parts h_text h_sheets h_findings h_here_ground h_here_farms h_here_mountain h_here_farms_kinds h_here_farms_cells h_here_farms_owners h_here_farms_purses v_isKept v_here_month v_here_volume v_here_outs v_here_fed v_here_fedOuts v_here_arePigsTold v_here_farms_number v_here_farms_burnt v_here_farms_kinds v_here_farms_cells v_here_farms_owners v_here_farms_purses v_findings_58)) X hV hl.1 (c_X_finding D h h_here h_kept h_trial h_parts h_text h_sheets h_findings v_isKept v_findings (4 : Int32) hc_59) fk_X_finding gw_283 rfl 0 8 rfl rfl [0, 7] [some 0, none, none, none, none, none, none, some 1] rfl rfl ⟨rfl, rfl, rfl, rfl, rfl, rfl, rfl, rfl, rfl, rfl, rfl, rfl, trivial⟩ rfl rfl rfl d_X_farm_43 (fun H locs hV => ?_)
    have e_ := Option.some.inj hf
    subst e_
    exact k_iret X rfl hV rfl d_X_farm_46
  replace hf := kifp c_40 hf
  exact t_X_farm_1 X hf hV (lv_sub hl [0] rfl)
set_option maxHeartbeats 2000000 in
set_option maxRecDepth 20000 in
theorem c_X_farm {l : Launch} (D : kD) (h : Nat) (h_here : Nat) (h_kept : Nat) (h_trial : Nat) (h_parts : Nat) (h_text : Nat) (h_sheets : Nat) (h_findings : Nat) (h_here_ground : Nat) (h_here_farms : Nat) (h_here_mountain : Nat) (h_here_farms_kinds : Nat) (h_here_farms_cells : Nat) (h_here_farms_owners : Nat) (h_here_farms_purses : Nat) (v_isKept : Int32) (v_here_month : Int32) (v_here_volume : Int32) (v_here_outs : Int32) (v_here_fed : Int32) (v_here_fedOuts : Int32) (v_here_arePigsTold : Int32) (v_here_farms_number : Int32) (v_here_farms_burnt : Int32) (v_here_farms_kinds : Nat → Int32) (v_here_farms_cells : Nat → Int32) (v_here_farms_owners : Nat → Int32) (v_here_farms_purses : Nat → Int32) (v_findings : Nat → Int32) (x1 : Int32) (x2 : Int32) (x3 : Int32) {out : Int32 × Int32 × (Nat → Int32) × (Nat → Int32) × (Nat → Int32) × (Nat → Int32) × (Nat → Int32)} (hf : f_X_farm v_here_farms_number v_here_farms_kinds v_here_farms_cells v_here_farms_owners v_here_farms_purses v_findings x1 x2 x3 = some out) : kMi l D y_X_farm b_X_farm 4 (some .int) { frames := 2, cells := 0, slots := 0, locals := 43 } [.ref h, .int x1, .int x2, .int x3] (wd_X_farm D h h_here h_kept h_trial h_parts h_text h_sheets h_findings h_here_ground h_here_farms h_here_mountain h_here_farms_kinds h_here_farms_cells h_here_farms_owners h_here_farms_purses v_isKept v_here_month v_here_volume v_here_outs v_here_fed v_here_fedOuts v_here_arePigsTold v_here_farms_number v_here_farms_burnt v_here_farms_kinds v_here_farms_cells v_here_farms_owners v_here_farms_purses v_findings) (wd_X_farm D h h_here h_kept h_trial h_parts h_text h_sheets h_findings h_here_ground h_here_farms h_here_mountain h_here_farms_kinds h_here_farms_cells h_here_farms_owners h_here_farms_purses v_isKept v_here_month v_here_volume v_here_outs v_here_fed v_here_fedOuts v_here_arePigsTold out.2.1 v_here_farms_burnt out.2.2.1 out.2.2.2.1 out.2.2.2.2.1 out.2.2.2.2.2.1 out.2.2.2.2.2.2) out.1 :=
  kMi_of (own := "MountainFarms") (plainFor_of_name (by decide)) rfl rfl (fun p e s m args below meth c ls X hV hl => t_X_farm X hf hV hl)
set_option maxHeartbeats 2000000 in
set_option maxRecDepth 20000 in
theorem t_Fa_has {l : Launch} {p : Program} {e : Env} {s : State} {m : MethodId} {args : Array Value} {below : List Frame} {meth : Method} {c : Code} {D : kD} {wc0 : va_W} {h : Nat} {h_kinds : Nat} {h_cells : Nat} {h_owners : Nat} {h_purses : Nat} {v_number : Int32} {v_burnt : Int32} {x1 : Int32} {out : Int32} (X : kX p m meth c s args D (va_A wc0 s.heap.size) b_Fa_has "MountainFarms$Farms" 2 (some .boolean)) (hf : f_Fa_has v_number x1 = some out) {H : Heap} {locs : List Loc} (hV : kV D (va_A wc0 s.heap.size) s (wd_Fa_has D h h_kinds h_cells h_owners h_purses v_number v_burnt) H locs) {ls : Array Slot} (hl : lv_has ls 2 [(0, .ref h), (1, .int x1)]) : W p l e { frames := 0, cells := 0, slots := 0, locals := 0 } s m args below meth c H locs 0 0 (MQ below (kQi D wc0 (wd_Fa_has D h h_kinds h_cells h_owners h_purses v_number v_burnt) s.heap.size out) args s 0 0 (va_A wc0 s.heap.size)) (F0 m 0 ls []) := by
  unfold f_Fa_has at hf
  obtain ⟨hx, hb, -⟩ := id X
  refine lv_iload_n hx hb d_Fa_has_0 rfl (lv_at hl 1 rfl) ?_
  refine lv_if_lt (tgt := 16) hx hb d_Fa_has_1 (by decide) (fun c_3 => ?_) (fun c_3 => ?_)
  · replace hf := kifp c_3 hf
    refine lv_iconst (v := 0) hx hb d_Fa_has_16 ic_0 ?_
    have e_ := Option.some.inj hf
    subst e_
    exact k_iret (v := 0) X rfl hV nb0 d_Fa_has_17
  replace hf := kifn c_3 hf
  refine lv_iload_n hx hb d_Fa_has_4 rfl (lv_at hl 1 rfl) ?_
  refine lv_aload_n hx hb d_Fa_has_5 rfl (lv_at hl 0 rfl) ?_
  refine k_get X hV 0 0 4 rfl rfl rfl gw_86 rfl rfl d_Fa_has_6 ?_
  refine lv_icmp_ge (tgt := 16) hx hb d_Fa_has_9 (by decide) (fun c_4 => ?_) (fun c_4 => ?_)
  · replace hf := kifp c_4 hf
    refine lv_iconst (v := 0) hx hb d_Fa_has_16 ic_0 ?_
    have e_ := Option.some.inj hf
    subst e_
    exact k_iret (v := 0) X rfl hV nb0 d_Fa_has_17
  replace hf := kifn c_4 hf
  refine lv_iconst (v := 1) hx hb d_Fa_has_12 ic_1 ?_
  refine lv_goto (tgt := 17) hx hb d_Fa_has_13 (by decide) ?_
  have e_ := Option.some.inj hf
  subst e_
  exact k_iret (v := 1) X rfl hV nb1 d_Fa_has_17
set_option maxHeartbeats 2000000 in
set_option maxRecDepth 20000 in
theorem c_Fa_has {l : Launch} (D : kD) (h : Nat) (h_kinds : Nat) (h_cells : Nat) (h_owners : Nat) (h_purses : Nat) (v_number : Int32) (v_burnt : Int32) (x1 : Int32) {out : Int32} (hf : f_Fa_has v_number x1 = some out) : kMi l D y_Fa_has b_Fa_has 2 (some .boolean) { frames := 0, cells := 0, slots := 0, locals := 0 } [.ref h, .int x1] (wd_Fa_has D h h_kinds h_cells h_owners h_purses v_number v_burnt) (wd_Fa_has D h h_kinds h_cells h_owners h_purses v_number v_burnt) out :=
  kMi_of (own := "MountainFarms$Farms") (plainFor_of_name (by decide)) rfl rfl (fun p e s m args below meth c ls X hV hl => t_Fa_has X hf hV hl)
set_option maxHeartbeats 2000000 in
set_option maxRecDepth 20000 in
theorem t_Fa_isBurnt {l : Launch} {p : Program} {e : Env} {s : State} {m : MethodId} {args : Array Value} {below : List Frame} {meth : Method} {c : Code} {D : kD} {wc0 : va_W} {h : Nat} {h_kinds : Nat} {h_cells : Nat} {h_owners : Nat} {h_purses : Nat} {v_number : Int32} {v_burnt : Int32} {x1 : Int32} {out : Int32} (X : kX p m meth c s args D (va_A wc0 s.heap.size) b_Fa_isBurnt "MountainFarms$Farms" 2 (some .boolean)) (hf : f_Fa_isBurnt v_burnt x1 = some out) {H : Heap} {locs : List Loc} (hV : kV D (va_A wc0 s.heap.size) s (wd_Fa_isBurnt D h h_kinds h_cells h_owners h_purses v_number v_burnt) H locs) {ls : Array Slot} (hl : lv_has ls 2 [(0, .ref h), (1, .int x1)]) : W p l e { frames := 0, cells := 0, slots := 0, locals := 0 } s m args below meth c H locs 0 0 (MQ below (kQi D wc0 (wd_Fa_isBurnt D h h_kinds h_cells h_owners h_purses v_number v_burnt) s.heap.size out) args s 0 0 (va_A wc0 s.heap.size)) (F0 m 0 ls []) := by
  unfold f_Fa_isBurnt at hf
  obtain ⟨hx, hb, -⟩ := id X
  refine lv_aload_n hx hb d_Fa_isBurnt_0 rfl (lv_at hl 0 rfl) ?_
  refine k_get X hV 0 0 5 rfl rfl rfl gw_88 rfl rfl d_Fa_isBurnt_1 ?_
  refine lv_iload_n hx hb d_Fa_isBurnt_4 rfl (lv_at hl 1 rfl) ?_
  refine lv_ishr hx hb d_Fa_isBurnt_5 ?_
  refine lv_iconst (v := 1) hx hb d_Fa_isBurnt_6 ic_1 ?_
  refine lv_iand hx hb d_Fa_isBurnt_7 ?_
  refine lv_iconst (v := 1) hx hb d_Fa_isBurnt_8 ic_1 ?_
  refine lv_icmp_ne (tgt := 16) hx hb d_Fa_isBurnt_9 (by decide) (fun c_2 => ?_) (fun c_2 => ?_)
  · replace hf := kifn c_2 hf
    refine lv_iconst (v := 0) hx hb d_Fa_isBurnt_16 ic_0 ?_
    have e_ := Option.some.inj hf
    subst e_
    exact k_iret (v := 0) X rfl hV nb0 d_Fa_isBurnt_17
  replace hf := kifp c_2 hf
  refine lv_iconst (v := 1) hx hb d_Fa_isBurnt_12 ic_1 ?_
  refine lv_goto (tgt := 17) hx hb d_Fa_isBurnt_13 (by decide) ?_
  have e_ := Option.some.inj hf
  subst e_
  exact k_iret (v := 1) X rfl hV nb1 d_Fa_isBurnt_17
set_option maxHeartbeats 2000000 in
set_option maxRecDepth 20000 in
theorem c_Fa_isBurnt {l : Launch} (D : kD) (h : Nat) (h_kinds : Nat) (h_cells : Nat) (h_owners : Nat) (h_purses : Nat) (v_number : Int32) (v_burnt : Int32) (x1 : Int32) {out : Int32} (hf : f_Fa_isBurnt v_burnt x1 = some out) : kMi l D y_Fa_isBurnt b_Fa_isBurnt 2 (some .boolean) { frames := 0, cells := 0, slots := 0, locals := 0 } [.ref h, .int x1] (wd_Fa_isBurnt D h h_kinds h_cells h_owners h_purses v_number v_burnt) (wd_Fa_isBurnt D h h_kinds h_cells h_owners h_purses v_number v_burnt) out :=
  kMi_of (own := "MountainFarms$Farms") (plainFor_of_name (by decide)) rfl rfl (fun p e s m args below meth c ls X hV hl => t_Fa_isBurnt X hf hV hl)
set_option maxHeartbeats 2000000 in
set_option maxRecDepth 20000 in
theorem t_Gr_ageOf {l : Launch} {p : Program} {e : Env} {s : State} {m : MethodId} {args : Array Value} {below : List Frame} {meth : Method} {c : Code} {D : kD} {wc0 : va_W} {h : Nat} {h_heights : Nat} {h_ages : Nat} {h_walls : Nat} {v_vent : Int32} {v_ash : Int32} {v_ages : Nat → Int32} {x1 : Int32} {out : Int32} (X : kX p m meth c s args D (va_A wc0 s.heap.size) b_Gr_ageOf "MountainFarms$Ground" 2 (some .int)) (hf : f_Gr_ageOf v_ages x1 = some out) {H : Heap} {locs : List Loc} (hV : kV D (va_A wc0 s.heap.size) s (wd_Gr_ageOf D h h_heights h_ages h_walls v_vent v_ash v_ages) H locs) {ls : Array Slot} (hl : lv_has ls 2 [(0, .ref h), (1, .int x1)]) : W p l e { frames := 1, cells := 0, slots := 0, locals := 20 } s m args below meth c H locs 0 0 (MQ below (kQi D wc0 (wd_Gr_ageOf D h h_heights h_ages h_walls v_vent v_ash v_ages) s.heap.size out) args s 0 0 (va_A wc0 s.heap.size)) (F0 m 0 ls []) := by
  unfold f_Gr_ageOf at hf
  obtain ⟨hx, hb, -⟩ := id X
  refine lv_iload_n hx hb d_Gr_ageOf_0 rfl (lv_at hl 1 rfl) ?_
  obtain ⟨r_5, hc_6, hf⟩ := kb1_some hf
  refine k_cni (w1 := (wd_X_isCell D)) (r := r_5) (ws' := (wd_Gr_ageOf D h h_heights h_ages h_walls v_vent v_ash v_ages)) X hV hl.1 (c_X_isCell D x1 hc_6) fk_X_isCell nw_7 rfl [] [none, none] rfl rfl ⟨rfl, rfl, trivial⟩ rfl rfl rfl d_Gr_ageOf_1 (fun H locs hV => ?_)
  refine lv_if_eq (tgt := 16) hx hb d_Gr_ageOf_4 (by decide) (fun c_7 => ?_) (fun c_7 => ?_)
  · replace hf := kifp c_7 hf
    refine lv_iconst (v := 0) hx hb d_Gr_ageOf_16 ic_0 ?_
    have e_ := Option.some.inj hf
    subst e_
    exact k_iret X rfl hV rfl d_Gr_ageOf_17
  replace hf := kifn c_7 hf
  refine lv_aload_n hx hb d_Gr_ageOf_7 rfl (lv_at hl 0 rfl) ?_
  refine k_get X hV 0 1 1 rfl rfl rfl gw_48 rfl rfl d_Gr_ageOf_8 ?_
  refine lv_iload_n hx hb d_Gr_ageOf_11 rfl (lv_at hl 1 rfl) ?_
  obtain ⟨h_8, hf⟩ := kidx_some hf
  refine k_iald X hV 1 rfl h_8 rfl d_Gr_ageOf_12 ?_
  refine lv_goto (tgt := 17) hx hb d_Gr_ageOf_13 (by decide) ?_
  have e_ := Option.some.inj hf
  subst e_
  exact k_iret X rfl hV rfl d_Gr_ageOf_17
set_option maxHeartbeats 2000000 in
set_option maxRecDepth 20000 in
theorem c_Gr_ageOf {l : Launch} (D : kD) (h : Nat) (h_heights : Nat) (h_ages : Nat) (h_walls : Nat) (v_vent : Int32) (v_ash : Int32) (v_ages : Nat → Int32) (x1 : Int32) {out : Int32} (hf : f_Gr_ageOf v_ages x1 = some out) : kMi l D y_Gr_ageOf b_Gr_ageOf 2 (some .int) { frames := 1, cells := 0, slots := 0, locals := 20 } [.ref h, .int x1] (wd_Gr_ageOf D h h_heights h_ages h_walls v_vent v_ash v_ages) (wd_Gr_ageOf D h h_heights h_ages h_walls v_vent v_ash v_ages) out :=
  kMi_of (own := "MountainFarms$Ground") (plainFor_of_name (by decide)) rfl rfl (fun p e s m args below meth c ls X hV hl => t_Gr_ageOf X hf hV hl)
set_option maxHeartbeats 2000000 in
set_option maxRecDepth 20000 in
theorem t_Ma_min {l : Launch} {p : Program} {e : Env} {s : State} {m : MethodId} {args : Array Value} {below : List Frame} {meth : Method} {c : Code} {D : kD} {wc0 : va_W} {x0 : Int32} {x1 : Int32} {out : Int32} (X : kX p m meth c s args D (va_A wc0 s.heap.size) b_Ma_min "java/lang/Math" 2 (some .int)) (hf : f_Ma_min x0 x1 = some out) {H : Heap} {locs : List Loc} (hV : kV D (va_A wc0 s.heap.size) s (wd_Ma_min D) H locs) {ls : Array Slot} (hl : lv_has ls 2 [(0, .int x0), (1, .int x1)]) : W p l e { frames := 0, cells := 0, slots := 0, locals := 0 } s m args below meth c H locs 0 0 (MQ below (kQi D wc0 (wd_Ma_min D) s.heap.size out) args s 0 0 (va_A wc0 s.heap.size)) (F0 m 0 ls []) := by
  unfold f_Ma_min at hf
  obtain ⟨hx, hb, -⟩ := id X
  refine lv_iload_n hx hb d_Ma_min_0 rfl (lv_at hl 0 rfl) ?_
  refine lv_iload_n hx hb d_Ma_min_1 rfl (lv_at hl 1 rfl) ?_
  refine lv_icmp_gt (tgt := 9) hx hb d_Ma_min_2 (by decide) (fun c_2 => ?_) (fun c_2 => ?_)
  · replace hf := kifp c_2 hf
    refine lv_iload_n hx hb d_Ma_min_9 rfl (lv_at hl 1 rfl) ?_
    have e_ := Option.some.inj hf
    subst e_
    exact k_iret X rfl hV rfl d_Ma_min_10
  replace hf := kifn c_2 hf
  refine lv_iload_n hx hb d_Ma_min_5 rfl (lv_at hl 0 rfl) ?_
  refine lv_goto (tgt := 10) hx hb d_Ma_min_6 (by decide) ?_
  have e_ := Option.some.inj hf
  subst e_
  exact k_iret X rfl hV rfl d_Ma_min_10
set_option maxHeartbeats 2000000 in
set_option maxRecDepth 20000 in
theorem c_Ma_min {l : Launch} (D : kD) (x0 : Int32) (x1 : Int32) {out : Int32} (hf : f_Ma_min x0 x1 = some out) : kMi l D y_Ma_min b_Ma_min 2 (some .int) { frames := 0, cells := 0, slots := 0, locals := 0 } [.int x0, .int x1] (wd_Ma_min D) (wd_Ma_min D) out :=
  kMi_of (own := "java/lang/Math") (by decide +kernel) rfl rfl (fun p e s m args below meth c ls X hV hl => t_Ma_min X hf hV hl)
set_option maxHeartbeats 2000000 in
set_option maxRecDepth 20000 in
theorem t_X_bearing_2 {l : Launch} {p : Program} {e : Env} {s : State} {m : MethodId} {args : Array Value} {below : List Frame} {meth : Method} {c : Code} {D : kD} {wc0 : va_W} {s0 : Int32} {x0 : Int32} {x1 : Int32} {x3 : Int32} {out : Int32} (X : kX p m meth c s args D (va_A wc0 s.heap.size) b_X_bearing "MountainFarms" 6 (some .int)) (hf : f_X_bearing_2 s0 x0 x1 x3 = some out) {H : Heap} {locs : List Loc} (hV : kV D (va_A wc0 s.heap.size) s (wd_X_bearing D) H locs) {ls : Array Slot} (hl : lv_has ls 6 [(0, .int x0), (1, .int x1), (3, .int x3)]) : W p l e { frames := 1, cells := 0, slots := 0, locals := 21 } s m args below meth c H locs 0 0 (MQ below (kQi D wc0 (wd_X_bearing D) s.heap.size out) args s 0 0 (va_A wc0 s.heap.size)) (F0 m 28 ls [.int s0]) := by
  unfold f_X_bearing_2 at hf
  obtain ⟨hx, hb, -⟩ := id X
  refine lv_istore (lv' := [(4, .int s0), (0, .int x0), (1, .int x1), (3, .int x3)]) hx hb d_X_bearing_28 hl (by decide) rfl (fun ls hl => ?_)
  refine lv_bipush (v := 25) hx hb d_X_bearing_30 bp_25 ?_
  refine lv_iload_n hx hb d_X_bearing_32 rfl (lv_at hl 2 rfl) ?_
  refine lv_iconst (v := 2) hx hb d_X_bearing_33 ic_2 ?_
  refine lv_idiv hx hb d_X_bearing_34 (by decide) ?_
  obtain ⟨r_13, hc_14, hf⟩ := kb1_some hf
  refine k_csi (w1 := (wd_Ma_min D)) (r := r_13) (ws' := (wd_X_bearing D)) X hV hl.1 (c_Ma_min D (25 : Int32) (x1 / (2 : Int32)) hc_14) fk_Ma_min gw_363 rfl [] [] rfl rfl trivial rfl rfl rfl d_X_bearing_35 (fun H locs hV => ?_)
  refine lv_istore (lv' := [(5, .int r_13), (4, .int s0), (0, .int x0), (1, .int x1), (3, .int x3)]) hx hb d_X_bearing_38 hl (by decide) rfl (fun ls hl => ?_)
  refine lv_iload_n hx hb d_X_bearing_40 rfl (lv_at hl 2 rfl) ?_
  by_cases c_15 : x0 = 1
  · replace hf := kifp c_15 hf
    refine k_tabIn (tgt := 76) (off := 35) X d_X_bearing_41 c_15 (by decide) ?_
    refine lv_iload_n hx hb d_X_bearing_76 rfl (lv_at hl 4 rfl) ?_
    refine lv_iload hx hb d_X_bearing_77 (lv_at hl 1 rfl) ?_
    refine lv_iadd hx hb d_X_bearing_79 ?_
    have e_ := Option.some.inj hf
    subst e_
    exact k_iret X rfl hV rfl d_X_bearing_80
  replace hf := kifn c_15 hf
  by_cases c_16 : x0 = 2
  · replace hf := kifp c_16 hf
    refine k_tabIn (tgt := 81) (off := 40) X d_X_bearing_41 c_16 (by decide) ?_
    refine lv_iload_n hx hb d_X_bearing_81 rfl (lv_at hl 4 rfl) ?_
    refine lv_iload hx hb d_X_bearing_82 (lv_at hl 0 rfl) ?_
    refine lv_iadd hx hb d_X_bearing_84 ?_
    have e_ := Option.some.inj hf
    subst e_
    exact k_iret X rfl hV rfl d_X_bearing_85
  replace hf := kifn c_16 hf
  by_cases c_17 : x0 = 3
  · replace hf := kifp c_17 hf
    refine k_tabIn (tgt := 86) (off := 45) X d_X_bearing_41 c_17 (by decide) ?_
    refine lv_iload_n hx hb d_X_bearing_86 rfl (lv_at hl 4 rfl) ?_
    refine lv_iload hx hb d_X_bearing_87 (lv_at hl 1 rfl) ?_
    refine lv_iadd hx hb d_X_bearing_89 ?_
    refine lv_iconst (v := 3) hx hb d_X_bearing_90 ic_3 ?_
    refine lv_iadd hx hb d_X_bearing_91 ?_
    have e_ := Option.some.inj hf
    subst e_
    exact k_iret X rfl hV rfl d_X_bearing_92
  replace hf := kifn c_17 hf
  by_cases c_18 : x0 = 4
  · replace hf := kifp c_18 hf
    refine k_tabIn (tgt := 93) (off := 52) X d_X_bearing_41 c_18 (by decide) ?_
    refine lv_bipush (v := 6) hx hb d_X_bearing_93 bp_6 ?_
    have e_ := Option.some.inj hf
    subst e_
    exact k_iret X rfl hV rfl d_X_bearing_95
  replace hf := kifn c_18 hf
  by_cases c_19 : x0 = 5
  · replace hf := kifp c_19 hf
    refine k_tabIn (tgt := 96) (off := 55) X d_X_bearing_41 c_19 (by decide) ?_
    refine lv_iload_n hx hb d_X_bearing_96 rfl (lv_at hl 4 rfl) ?_
    refine lv_iload hx hb d_X_bearing_97 (lv_at hl 0 rfl) ?_
    refine lv_iadd hx hb d_X_bearing_99 ?_
    refine lv_iload_n hx hb d_X_bearing_100 rfl (lv_at hl 3 rfl) ?_
    refine lv_bipush (v := 50) hx hb d_X_bearing_101 bp_50 ?_
    refine lv_icmp_lt (tgt := 111) hx hb d_X_bearing_103 (by decide) (fun c_20 => ?_) (fun c_20 => ?_)
    · replace hf := kifp c_20 hf
      refine lv_iconst (v := 0) hx hb d_X_bearing_111 ic_0 ?_
      refine lv_iadd hx hb d_X_bearing_112 ?_
      have e_ := Option.some.inj hf
      subst e_
      exact k_iret X rfl hV rfl d_X_bearing_113
    replace hf := kifn c_20 hf
    refine lv_bipush (v := 10) hx hb d_X_bearing_106 bp_10 ?_
    refine lv_goto (tgt := 112) hx hb d_X_bearing_108 (by decide) ?_
    refine lv_iadd hx hb d_X_bearing_112 ?_
    have e_ := Option.some.inj hf
    subst e_
    exact k_iret X rfl hV rfl d_X_bearing_113
  replace hf := kifn c_19 hf
  have c_15e := lv_neT c_15 (a := 1) (by decide)
  have c_16e := lv_neT c_16 (a := 2) (by decide)
  have c_17e := lv_neT c_17 (a := 3) (by decide)
  have c_18e := lv_neT c_18 (a := 4) (by decide)
  have c_19e := lv_neT c_19 (a := 5) (by decide)
  refine lv_tableOut (tgt := 114) hx hb d_X_bearing_41 (by omega) (by decide) ?_
  refine lv_iload_n hx hb d_X_bearing_114 rfl (lv_at hl 4 rfl) ?_
  have e_ := Option.some.inj hf
  subst e_
  exact k_iret X rfl hV rfl d_X_bearing_115
set_option maxHeartbeats 2000000 in
set_option maxRecDepth 20000 in
theorem t_X_bearing_1 {l : Launch} {p : Program} {e : Env} {s : State} {m : MethodId} {args : Array Value} {below : List Frame} {meth : Method} {c : Code} {D : kD} {wc0 : va_W} {s0 : Int32} {x0 : Int32} {x1 : Int32} {x2 : Int32} {out : Int32} (X : kX p m meth c s args D (va_A wc0 s.heap.size) b_X_bearing "MountainFarms" 6 (some .int)) (hf : f_X_bearing_1 s0 x0 x1 x2 = some out) {H : Heap} {locs : List Loc} (hV : kV D (va_A wc0 s.heap.size) s (wd_X_bearing D) H locs) {ls : Array Slot} (hl : lv_has ls 6 [(0, .int x0), (1, .int x1), (2, .int x2)]) : W p l e { frames := 1, cells := 0, slots := 0, locals := 21 } s m args below meth c H locs 0 0 (MQ below (kQi D wc0 (wd_X_bearing D) s.heap.size out) args s 0 0 (va_A wc0 s.heap.size)) (F0 m 11 ls [.int s0]) := by
  unfold f_X_bearing_1 at hf
  obtain ⟨hx, hb, -⟩ := id X
  refine lv_istore_n (lv' := [(3, .int s0), (0, .int x0), (1, .int x1), (2, .int x2)]) hx hb d_X_bearing_11 rfl hl (by decide) rfl (fun ls hl => ?_)
  refine lv_iload_n hx hb d_X_bearing_12 rfl (lv_at hl 3 rfl) ?_
  refine lv_bipush (v := 10) hx hb d_X_bearing_13 bp_10 ?_
  refine lv_icmp_ge (tgt := 27) hx hb d_X_bearing_15 (by decide) (fun c_12 => ?_) (fun c_12 => ?_)
  · replace hf := kifp c_12 hf
    refine lv_iconst (v := 0) hx hb d_X_bearing_27 ic_0 ?_
    exact t_X_bearing_2 X hf hV (lv_sub hl [1, 2, 0] rfl)
  replace hf := kifn c_12 hf
  refine lv_iconst (v := 2) hx hb d_X_bearing_18 ic_2 ?_
  refine lv_bipush (v := 10) hx hb d_X_bearing_19 bp_10 ?_
  refine lv_iload_n hx hb d_X_bearing_21 rfl (lv_at hl 3 rfl) ?_
  refine lv_isub hx hb d_X_bearing_22 ?_
  refine lv_imul hx hb d_X_bearing_23 ?_
  refine lv_goto (tgt := 28) hx hb d_X_bearing_24 (by decide) ?_
  exact t_X_bearing_2 X hf hV (lv_sub hl [1, 2, 0] rfl)
set_option maxHeartbeats 2000000 in
set_option maxRecDepth 20000 in
theorem t_X_bearing {l : Launch} {p : Program} {e : Env} {s : State} {m : MethodId} {args : Array Value} {below : List Frame} {meth : Method} {c : Code} {D : kD} {wc0 : va_W} {x0 : Int32} {x1 : Int32} {x2 : Int32} {out : Int32} (X : kX p m meth c s args D (va_A wc0 s.heap.size) b_X_bearing "MountainFarms" 6 (some .int)) (hf : f_X_bearing x0 x1 x2 = some out) {H : Heap} {locs : List Loc} (hV : kV D (va_A wc0 s.heap.size) s (wd_X_bearing D) H locs) {ls : Array Slot} (hl : lv_has ls 6 [(0, .int x0), (1, .int x1), (2, .int x2)]) : W p l e { frames := 1, cells := 0, slots := 0, locals := 21 } s m args below meth c H locs 0 0 (MQ below (kQi D wc0 (wd_X_bearing D) s.heap.size out) args s 0 0 (va_A wc0 s.heap.size)) (F0 m 0 ls []) := by
  unfold f_X_bearing at hf
  obtain ⟨hx, hb, -⟩ := id X
  refine lv_iload_n hx hb d_X_bearing_0 rfl (lv_at hl 1 rfl) ?_
  refine lv_iconst (v := 5) hx hb d_X_bearing_1 ic_5 ?_
  refine lv_icmp_lt (tgt := 10) hx hb d_X_bearing_2 (by decide) (fun c_11 => ?_) (fun c_11 => ?_)
  · replace hf := kifp c_11 hf
    refine lv_iconst (v := 0) hx hb d_X_bearing_10 ic_0 ?_
    exact t_X_bearing_1 X hf hV (lv_sub hl [0, 1, 2] rfl)
  replace hf := kifn c_11 hf
  refine lv_bipush (v := 10) hx hb d_X_bearing_5 bp_10 ?_
  refine lv_goto (tgt := 11) hx hb d_X_bearing_7 (by decide) ?_
  exact t_X_bearing_1 X hf hV (lv_sub hl [0, 1, 2] rfl)
set_option maxHeartbeats 2000000 in
set_option maxRecDepth 20000 in
theorem c_X_bearing {l : Launch} (D : kD) (x0 : Int32) (x1 : Int32) (x2 : Int32) {out : Int32} (hf : f_X_bearing x0 x1 x2 = some out) : kMi l D y_X_bearing b_X_bearing 6 (some .int) { frames := 1, cells := 0, slots := 0, locals := 21 } [.int x0, .int x1, .int x2] (wd_X_bearing D) (wd_X_bearing D) out :=
  kMi_of (own := "MountainFarms") (plainFor_of_name (by decide)) rfl rfl (fun p e s m args below meth c ls X hV hl => t_X_bearing X hf hV hl)
set_option maxHeartbeats 2000000 in
set_option maxRecDepth 20000 in
theorem t_Fa_bearsOn {l : Launch} {p : Program} {e : Env} {s : State} {m : MethodId} {args : Array Value} {below : List Frame} {meth : Method} {c : Code} {D : kD} {wc0 : va_W} {h : Nat} {h_kinds : Nat} {h_cells : Nat} {h_owners : Nat} {h_purses : Nat} {h_p2 : Nat} {h_p2_heights : Nat} {h_p2_ages : Nat} {h_p2_walls : Nat} {v_number : Int32} {v_burnt : Int32} {v_kinds : Nat → Int32} {v_cells : Nat → Int32} {v_p2_vent : Int32} {v_p2_ash : Int32} {v_p2_ages : Nat → Int32} {x1 : Int32} {out : Int32} (X : kX p m meth c s args D (va_A wc0 s.heap.size) b_Fa_bearsOn "MountainFarms$Farms" 3 (some .int)) (hf : f_Fa_bearsOn v_burnt v_kinds v_cells v_p2_ash v_p2_ages x1 = some out) {H : Heap} {locs : List Loc} (hV : kV D (va_A wc0 s.heap.size) s (wd_Fa_bearsOn D h h_kinds h_cells h_owners h_purses h_p2 h_p2_heights h_p2_ages h_p2_walls v_number v_burnt v_kinds v_cells v_p2_vent v_p2_ash v_p2_ages) H locs) {ls : Array Slot} (hl : lv_has ls 3 [(0, .ref h), (1, .int x1), (2, .ref h_p2)]) : W p l e { frames := 2, cells := 0, slots := 0, locals := 46 } s m args below meth c H locs 0 0 (MQ below (kQi D wc0 (wd_Fa_bearsOn D h h_kinds h_cells h_owners h_purses h_p2 h_p2_heights h_p2_ages h_p2_walls v_number v_burnt v_kinds v_cells v_p2_vent v_p2_ash v_p2_ages) s.heap.size out) args s 0 0 (va_A wc0 s.heap.size)) (F0 m 0 ls []) := by
  unfold f_Fa_bearsOn at hf
  obtain ⟨hx, hb, -⟩ := id X
  refine lv_aload_n hx hb d_Fa_bearsOn_0 rfl (lv_at hl 0 rfl) ?_
  refine lv_iload_n hx hb d_Fa_bearsOn_1 rfl (lv_at hl 1 rfl) ?_
  obtain ⟨r_10, hc_11, hf⟩ := kb1_some hf
  refine k_cvi (w1 := (wd_Fa_isBurnt D h h_kinds h_cells h_owners h_purses v_number v_burnt)) (r := r_10) (ws' := (wd_Fa_bearsOn D h h_kinds h_cells h_owners h_purses h_p2 h_p2_heights h_p2_ages h_p2_walls v_number v_burnt v_kinds v_cells v_p2_vent v_p2_ash v_p2_ages)) X hV hl.1 (c_Fa_isBurnt D h h_kinds h_cells h_owners h_purses v_number v_burnt x1 hc_11) fk_Fa_isBurnt gw_354 rfl 0 0 rfl rfl [0] [some 0, none, none, none, none] rfl rfl ⟨rfl, rfl, rfl, rfl, rfl, rfl, rfl, trivial⟩ rfl rfl rfl d_Fa_bearsOn_2 (fun H locs hV => ?_)
  refine lv_if_eq (tgt := 12) hx hb d_Fa_bearsOn_5 (by decide) (fun c_12 => ?_) (fun c_12 => ?_)
  · replace hf := kifp c_12 hf
    refine lv_aload_n hx hb d_Fa_bearsOn_12 rfl (lv_at hl 0 rfl) ?_
    refine k_get X hV 0 0 0 rfl rfl rfl gw_78 rfl rfl d_Fa_bearsOn_13 ?_
    refine lv_iload_n hx hb d_Fa_bearsOn_16 rfl (lv_at hl 1 rfl) ?_
    obtain ⟨h_13, hf⟩ := kidx_some hf
    refine k_iald X hV 1 rfl h_13 rfl d_Fa_bearsOn_17 ?_
    refine lv_aload_n hx hb d_Fa_bearsOn_18 rfl (lv_at hl 2 rfl) ?_
    refine lv_aload_n hx hb d_Fa_bearsOn_19 rfl (lv_at hl 0 rfl) ?_
    refine k_get X hV 0 0 1 rfl rfl rfl gw_80 rfl rfl d_Fa_bearsOn_20 ?_
    refine lv_iload_n hx hb d_Fa_bearsOn_23 rfl (lv_at hl 1 rfl) ?_
    obtain ⟨h_14, hf⟩ := kidx_some hf
    refine k_iald X hV 2 rfl h_14 rfl d_Fa_bearsOn_24 ?_
    obtain ⟨r_15, hc_16, hf⟩ := kb1_some hf
    refine k_cvi (w1 := (wd_Gr_ageOf D h_p2 h_p2_heights h_p2_ages h_p2_walls v_p2_vent v_p2_ash v_p2_ages)) (r := r_15) (ws' := (wd_Fa_bearsOn D h h_kinds h_cells h_owners h_purses h_p2 h_p2_heights h_p2_ages h_p2_walls v_number v_burnt v_kinds v_cells v_p2_vent v_p2_ash v_p2_ages)) X hV hl.1 (c_Gr_ageOf D h_p2 h_p2_heights h_p2_ages h_p2_walls v_p2_vent v_p2_ash v_p2_ages (v_cells x1.toNatClampNeg) hc_16) fk_Gr_ageOf gw_355 rfl 3 1 rfl rfl [3, 4] [none, none, none, some 0, some 1] rfl rfl ⟨rfl, rfl, rfl, rfl, rfl, rfl, rfl, rfl, rfl, trivial⟩ rfl rfl rfl d_Fa_bearsOn_25 (fun H locs hV => ?_)
    refine lv_aload_n hx hb d_Fa_bearsOn_28 rfl (lv_at hl 2 rfl) ?_
    refine k_get X hV 3 1 4 rfl rfl rfl gw_58 rfl rfl d_Fa_bearsOn_29 ?_
    obtain ⟨r_17, hc_18, hf⟩ := kb1_some hf
    refine k_cni (w1 := (wd_X_bearing D)) (r := r_17) (ws' := (wd_Fa_bearsOn D h h_kinds h_cells h_owners h_purses h_p2 h_p2_heights h_p2_ages h_p2_walls v_number v_burnt v_kinds v_cells v_p2_vent v_p2_ash v_p2_ages)) X hV hl.1 (c_X_bearing D (v_kinds x1.toNatClampNeg) r_15 v_p2_ash hc_18) fk_X_bearing nw_8 rfl [] [none, none, none, none, none] rfl rfl ⟨rfl, rfl, rfl, rfl, rfl, trivial⟩ rfl rfl rfl d_Fa_bearsOn_32 (fun H locs hV => ?_)
    have e_ := Option.some.inj hf
    subst e_
    exact k_iret X rfl hV rfl d_Fa_bearsOn_35
  replace hf := kifn c_12 hf
  refine lv_iconst (v := 0) hx hb d_Fa_bearsOn_8 ic_0 ?_
  refine lv_goto (tgt := 35) hx hb d_Fa_bearsOn_9 (by decide) ?_
  have e_ := Option.some.inj hf
  subst e_
  exact k_iret X rfl hV rfl d_Fa_bearsOn_35
set_option maxHeartbeats 2000000 in
set_option maxRecDepth 20000 in
theorem c_Fa_bearsOn {l : Launch} (D : kD) (h : Nat) (h_kinds : Nat) (h_cells : Nat) (h_owners : Nat) (h_purses : Nat) (h_p2 : Nat) (h_p2_heights : Nat) (h_p2_ages : Nat) (h_p2_walls : Nat) (v_number : Int32) (v_burnt : Int32) (v_kinds : Nat → Int32) (v_cells : Nat → Int32) (v_p2_vent : Int32) (v_p2_ash : Int32) (v_p2_ages : Nat → Int32) (x1 : Int32) {out : Int32} (hf : f_Fa_bearsOn v_burnt v_kinds v_cells v_p2_ash v_p2_ages x1 = some out) : kMi l D y_Fa_bearsOn b_Fa_bearsOn 3 (some .int) { frames := 2, cells := 0, slots := 0, locals := 46 } [.ref h, .int x1, .ref h_p2] (wd_Fa_bearsOn D h h_kinds h_cells h_owners h_purses h_p2 h_p2_heights h_p2_ages h_p2_walls v_number v_burnt v_kinds v_cells v_p2_vent v_p2_ash v_p2_ages) (wd_Fa_bearsOn D h h_kinds h_cells h_owners h_purses h_p2 h_p2_heights h_p2_ages h_p2_walls v_number v_burnt v_kinds v_cells v_p2_vent v_p2_ash v_p2_ages) out :=
  kMi_of (own := "MountainFarms$Farms") (plainFor_of_name (by decide)) rfl rfl (fun p e s m args below meth c ls X hV hl => t_Fa_bearsOn X hf hV hl)
set_option maxHeartbeats 2000000 in
set_option maxRecDepth 20000 in
theorem t_X_of {l : Launch} {p : Program} {e : Env} {s : State} {m : MethodId} {args : Array Value} {below : List Frame} {meth : Method} {c : Code} {D : kD} {wc0 : va_W} {h : Nat} {h_here : Nat} {h_kept : Nat} {h_trial : Nat} {h_parts : Nat} {h_text : Nat} {h_sheets : Nat} {h_findings : Nat} {h_here_ground : Nat} {h_here_farms : Nat} {h_here_mountain : Nat} {h_here_ground_heights : Nat} {h_here_ground_ages : Nat} {h_here_ground_walls : Nat} {h_here_farms_kinds : Nat} {h_here_farms_cells : Nat} {h_here_farms_owners : Nat} {h_here_farms_purses : Nat} {v_isKept : Int32} {v_here_month : Int32} {v_here_volume : Int32} {v_here_outs : Int32} {v_here_fed : Int32} {v_here_fedOuts : Int32} {v_here_arePigsTold : Int32} {v_here_ground_vent : Int32} {v_here_ground_ash : Int32} {v_here_ground_ages : Nat → Int32} {v_here_farms_number : Int32} {v_here_farms_burnt : Int32} {v_here_farms_kinds : Nat → Int32} {v_here_farms_cells : Nat → Int32} {v_here_farms_owners : Nat → Int32} {v_here_farms_purses : Nat → Int32} {v_findings : Nat → Int32} {x1 : Int32} {x2 : Int32} {out : Int32 × (Nat → Int32)} (X : kX p m meth c s args D (va_A wc0 s.heap.size) b_X_of "MountainFarms" 3 (some .int)) (hf : f_X_of v_here_ground_ash v_here_ground_ages v_here_farms_number v_here_farms_burnt v_here_farms_kinds v_here_farms_cells v_here_farms_owners v_here_farms_purses v_findings x1 x2 = some out) {H : Heap} {locs : List Loc} (hV : kV D (va_A wc0 s.heap.size) s (wd_X_of D h h_here h_kept h_trial h_parts h_text h_sheets h_findings h_here_ground h_here_farms h_here_mountain h_here_ground_heights h_here_ground_ages h_here_ground_walls h_here_farms_kinds h_here_farms_cells h_here_farms_owners h_here_farms_purses v_isKept v_here_month v_here_volume v_here_outs v_here_fed v_here_fedOuts v_here_arePigsTold v_here_ground_vent v_here_ground_ash v_here_ground_ages v_here_farms_number v_here_farms_burnt v_here_farms_kinds v_here_farms_cells v_here_farms_owners v_here_farms_purses v_findings) H locs) {ls : Array Slot} (hl : lv_has ls 3 [(0, .ref h), (1, .int x1), (2, .int x2)]) : W p l e { frames := 3, cells := 0, slots := 0, locals := 68 } s m args below meth c H locs 0 0 (MQ below (kQi D wc0 (wd_X_of D h h_here h_kept h_trial h_parts h_text h_sheets h_findings h_here_ground h_here_farms h_here_mountain h_here_ground_heights h_here_ground_ages h_here_ground_walls h_here_farms_kinds h_here_farms_cells h_here_farms_owners h_here_farms_purses v_isKept v_here_month v_here_volume v_here_outs v_here_fed v_here_fedOuts v_here_arePigsTold v_here_ground_vent v_here_ground_ash v_here_ground_ages v_here_farms_number v_here_farms_burnt v_here_farms_kinds v_here_farms_cells v_here_farms_owners v_here_farms_purses out.2) s.heap.size out.1) args s 0 0 (va_A wc0 s.heap.size)) (F0 m 0 ls []) := by
  unfold f_X_of at hf
  obtain ⟨hx, hb, -⟩ := id X
  refine lv_aload_n hx hb d_X_of_0 rfl (lv_at hl 0 rfl) ?_
  refine k_get X hV 0 8 0 rfl rfl rfl gw_248 rfl rfl d_X_of_1 ?_
  refine k_get X hV 1 5 1 rfl rfl rfl gw_140 rfl rfl d_X_of_4 ?_
  refine lv_iload_n hx hb d_X_of_7 rfl (lv_at hl 1 rfl) ?_
  obtain ⟨r_25, hc_26, hf⟩ := kb1_some hf
  refine k_cvi (w1 := (wd_Fa_has D h_here_farms h_here_farms_kinds h_here_farms_cells h_here_farms_owners h_here_farms_purses v_here_farms_number v_here_farms_burnt)) (r := r_25) (ws' := (wd_X_of D h h_here h_kept h_trial h_parts h_text h_sheets h_findings h_here_ground h_here_farms h_here_mountain h_here_ground_heights h_here_ground_ages h_here_ground_walls h_here_farms_kinds h_here_farms_cells h_here_farms_owners h_here_farms_purses v_isKept v_here_month v_here_volume v_here_outs v_here_fed v_here_fedOuts v_here_arePigsTold v_here_ground_vent v_here_ground_ash v_here_ground_ages v_here_farms_number v_here_farms_burnt v_here_farms_kinds v_here_farms_cells v_here_farms_owners v_here_farms_purses v_findings)) X hV hl.1 (c_Fa_has D h_here_farms h_here_farms_kinds h_here_farms_cells h_here_farms_owners h_here_farms_purses v_here_farms_number v_here_farms_burnt x1 hc_26) fk_Fa_has gw_342 rfl 4 0 rfl rfl [4] [none, none, none, none, some 0, none, none, none, none, none] rfl rfl ⟨rfl, rfl, rfl, rfl, rfl, rfl, rfl, rfl, rfl, rfl, rfl, rfl, trivial⟩ rfl rfl rfl d_X_of_8 (fun H locs hV => ?_)
  refine lv_if_ne (tgt := 20) hx hb d_X_of_11 (by decide) (fun c_27 => ?_) (fun c_27 => ?_)
  · replace hf := kifn c_27 hf
    refine lv_iload_n hx hb d_X_of_20 rfl (lv_at hl 2 rfl) ?_
    by_cases c_28 : x2 = 0
    · replace hf := kifp c_28 hf
      refine k_tabIn (tgt := 60) (off := 39) X d_X_of_21 c_28 (by decide) ?_
      refine lv_aload_n hx hb d_X_of_60 rfl (lv_at hl 0 rfl) ?_
      refine k_get X hV 0 8 0 rfl rfl rfl gw_248 rfl rfl d_X_of_61 ?_
      refine k_get X hV 1 5 1 rfl rfl rfl gw_140 rfl rfl d_X_of_64 ?_
      refine k_get X hV 4 0 0 rfl rfl rfl gw_79 rfl rfl d_X_of_67 ?_
      refine lv_iload_n hx hb d_X_of_70 rfl (lv_at hl 1 rfl) ?_
      obtain ⟨h_29, hf⟩ := kidx_some hf
      refine k_iald X hV 5 rfl h_29 rfl d_X_of_71 ?_
      have e_ := Option.some.inj hf
      subst e_
      exact k_iret X rfl hV rfl d_X_of_72
    replace hf := kifn c_28 hf
    by_cases c_30 : x2 = 1
    · replace hf := kifp c_30 hf
      refine k_tabIn (tgt := 73) (off := 52) X d_X_of_21 c_30 (by decide) ?_
      refine lv_aload_n hx hb d_X_of_73 rfl (lv_at hl 0 rfl) ?_
      refine k_get X hV 0 8 0 rfl rfl rfl gw_248 rfl rfl d_X_of_74 ?_
      refine k_get X hV 1 5 1 rfl rfl rfl gw_140 rfl rfl d_X_of_77 ?_
      refine k_get X hV 4 0 1 rfl rfl rfl gw_81 rfl rfl d_X_of_80 ?_
      refine lv_iload_n hx hb d_X_of_83 rfl (lv_at hl 1 rfl) ?_
      obtain ⟨h_31, hf⟩ := kidx_some hf
      refine k_iald X hV 6 rfl h_31 rfl d_X_of_84 ?_
      have e_ := Option.some.inj hf
      subst e_
      exact k_iret X rfl hV rfl d_X_of_85
    replace hf := kifn c_30 hf
    by_cases c_32 : x2 = 2
    · replace hf := kifp c_32 hf
      refine k_tabIn (tgt := 86) (off := 65) X d_X_of_21 c_32 (by decide) ?_
      refine lv_aload_n hx hb d_X_of_86 rfl (lv_at hl 0 rfl) ?_
      refine k_get X hV 0 8 0 rfl rfl rfl gw_248 rfl rfl d_X_of_87 ?_
      refine k_get X hV 1 5 1 rfl rfl rfl gw_140 rfl rfl d_X_of_90 ?_
      refine k_get X hV 4 0 2 rfl rfl rfl gw_83 rfl rfl d_X_of_93 ?_
      refine lv_iload_n hx hb d_X_of_96 rfl (lv_at hl 1 rfl) ?_
      obtain ⟨h_33, hf⟩ := kidx_some hf
      refine k_iald X hV 7 rfl h_33 rfl d_X_of_97 ?_
      have e_ := Option.some.inj hf
      subst e_
      exact k_iret X rfl hV rfl d_X_of_98
    replace hf := kifn c_32 hf
    by_cases c_34 : x2 = 3
    · replace hf := kifp c_34 hf
      refine k_tabIn (tgt := 99) (off := 78) X d_X_of_21 c_34 (by decide) ?_
      refine lv_aload_n hx hb d_X_of_99 rfl (lv_at hl 0 rfl) ?_
      refine k_get X hV 0 8 0 rfl rfl rfl gw_248 rfl rfl d_X_of_100 ?_
      refine k_get X hV 1 5 1 rfl rfl rfl gw_140 rfl rfl d_X_of_103 ?_
      refine k_get X hV 4 0 3 rfl rfl rfl gw_85 rfl rfl d_X_of_106 ?_
      refine lv_iload_n hx hb d_X_of_109 rfl (lv_at hl 1 rfl) ?_
      obtain ⟨h_35, hf⟩ := kidx_some hf
      refine k_iald X hV 8 rfl h_35 rfl d_X_of_110 ?_
      have e_ := Option.some.inj hf
      subst e_
      exact k_iret X rfl hV rfl d_X_of_111
    replace hf := kifn c_34 hf
    by_cases c_36 : x2 = 4
    · replace hf := kifp c_36 hf
      refine k_tabIn (tgt := 112) (off := 91) X d_X_of_21 c_36 (by decide) ?_
      refine lv_aload_n hx hb d_X_of_112 rfl (lv_at hl 0 rfl) ?_
      refine k_get X hV 0 8 0 rfl rfl rfl gw_248 rfl rfl d_X_of_113 ?_
      refine k_get X hV 1 5 1 rfl rfl rfl gw_140 rfl rfl d_X_of_116 ?_
      refine lv_iload_n hx hb d_X_of_119 rfl (lv_at hl 1 rfl) ?_
      obtain ⟨r_37, hc_38, hf⟩ := kb1_some hf
      refine k_cvi (w1 := (wd_Fa_isBurnt D h_here_farms h_here_farms_kinds h_here_farms_cells h_here_farms_owners h_here_farms_purses v_here_farms_number v_here_farms_burnt)) (r := r_37) (ws' := (wd_X_of D h h_here h_kept h_trial h_parts h_text h_sheets h_findings h_here_ground h_here_farms h_here_mountain h_here_ground_heights h_here_ground_ages h_here_ground_walls h_here_farms_kinds h_here_farms_cells h_here_farms_owners h_here_farms_purses v_isKept v_here_month v_here_volume v_here_outs v_here_fed v_here_fedOuts v_here_arePigsTold v_here_ground_vent v_here_ground_ash v_here_ground_ages v_here_farms_number v_here_farms_burnt v_here_farms_kinds v_here_farms_cells v_here_farms_owners v_here_farms_purses v_findings)) X hV hl.1 (c_Fa_isBurnt D h_here_farms h_here_farms_kinds h_here_farms_cells h_here_farms_owners h_here_farms_purses v_here_farms_number v_here_farms_burnt x1 hc_38) fk_Fa_isBurnt gw_346 rfl 4 0 rfl rfl [4] [none, none, none, none, some 0, none, none, none, none, none] rfl rfl ⟨rfl, rfl, rfl, rfl, rfl, rfl, rfl, rfl, rfl, rfl, rfl, rfl, trivial⟩ rfl rfl rfl d_X_of_120 (fun H locs hV => ?_)
      refine lv_if_eq (tgt := 130) hx hb d_X_of_123 (by decide) (fun c_39 => ?_) (fun c_39 => ?_)
      · replace hf := kifp c_39 hf
        refine lv_iconst (v := 0) hx hb d_X_of_130 ic_0 ?_
        have e_ := Option.some.inj hf
        subst e_
        exact k_iret X rfl hV rfl d_X_of_131
      replace hf := kifn c_39 hf
      refine lv_iconst (v := 1) hx hb d_X_of_126 ic_1 ?_
      refine lv_goto (tgt := 131) hx hb d_X_of_127 (by decide) ?_
      have e_ := Option.some.inj hf
      subst e_
      exact k_iret X rfl hV rfl d_X_of_131
    replace hf := kifn c_36 hf
    by_cases c_40 : x2 = 5
    · replace hf := kifp c_40 hf
      refine k_tabIn (tgt := 132) (off := 111) X d_X_of_21 c_40 (by decide) ?_
      refine lv_aload_n hx hb d_X_of_132 rfl (lv_at hl 0 rfl) ?_
      refine k_get X hV 0 8 0 rfl rfl rfl gw_248 rfl rfl d_X_of_133 ?_
      refine k_get X hV 1 5 1 rfl rfl rfl gw_140 rfl rfl d_X_of_136 ?_
      refine lv_iload_n hx hb d_X_of_139 rfl (lv_at hl 1 rfl) ?_
      refine lv_aload_n hx hb d_X_of_140 rfl (lv_at hl 0 rfl) ?_
      refine k_get X hV 0 8 0 rfl rfl rfl gw_248 rfl rfl d_X_of_141 ?_
      refine k_get X hV 1 5 0 rfl rfl rfl gw_136 rfl rfl d_X_of_144 ?_
      obtain ⟨r_41, hc_42, hf⟩ := kb1_some hf
      refine k_cvi (w1 := (wd_Fa_bearsOn D h_here_farms h_here_farms_kinds h_here_farms_cells h_here_farms_owners h_here_farms_purses h_here_ground h_here_ground_heights h_here_ground_ages h_here_ground_walls v_here_farms_number v_here_farms_burnt v_here_farms_kinds v_here_farms_cells v_here_ground_vent v_here_ground_ash v_here_ground_ages)) (r := r_41) (ws' := (wd_X_of D h h_here h_kept h_trial h_parts h_text h_sheets h_findings h_here_ground h_here_farms h_here_mountain h_here_ground_heights h_here_ground_ages h_here_ground_walls h_here_farms_kinds h_here_farms_cells h_here_farms_owners h_here_farms_purses v_isKept v_here_month v_here_volume v_here_outs v_here_fed v_here_fedOuts v_here_arePigsTold v_here_ground_vent v_here_ground_ash v_here_ground_ages v_here_farms_number v_here_farms_burnt v_here_farms_kinds v_here_farms_cells v_here_farms_owners v_here_farms_purses v_findings)) X hV hl.1 (c_Fa_bearsOn D h_here_farms h_here_farms_kinds h_here_farms_cells h_here_farms_owners h_here_farms_purses h_here_ground h_here_ground_heights h_here_ground_ages h_here_ground_walls v_here_farms_number v_here_farms_burnt v_here_farms_kinds v_here_farms_cells v_here_ground_vent v_here_ground_ash v_here_ground_ages x1 hc_42) fk_Fa_bearsOn gw_350 rfl 4 0 rfl rfl [4, 5, 6, 2, 3] [none, none, some 3, some 4, some 0, some 1, some 2, none, none, none] rfl rfl ⟨rfl, rfl, rfl, rfl, rfl, rfl, rfl, rfl, rfl, rfl, rfl, rfl, rfl, rfl, rfl, rfl, rfl, rfl, rfl, rfl, trivial⟩ rfl rfl rfl d_X_of_147 (fun H locs hV => ?_)
      have e_ := Option.some.inj hf
      subst e_
      exact k_iret X rfl hV rfl d_X_of_150
    replace hf := kifn c_40 hf
    have c_28e := lv_neT c_28 (a := 0) (by decide)
    have c_30e := lv_neT c_30 (a := 1) (by decide)
    have c_32e := lv_neT c_32 (a := 2) (by decide)
    have c_34e := lv_neT c_34 (a := 3) (by decide)
    have c_36e := lv_neT c_36 (a := 4) (by decide)
    have c_40e := lv_neT c_40 (a := 5) (by decide)
    refine lv_tableOut (tgt := 151) hx hb d_X_of_21 (by omega) (by decide) ?_
    refine lv_aload_n hx hb d_X_of_151 rfl (lv_at hl 0 rfl) ?_
    refine lv_iconst (v := 0) hx hb d_X_of_152 ic_0 ?_
    obtain ⟨r_43, v_findings_44, hc_45, hf⟩ := kb2_some hf
    refine k_cvi (w1 := (wd_X_finding D h h_here h_kept h_trial h_parts h_text h_sheets h_findings v_isKept v_findings_44)) (r := r_43) (ws' := (wd_X_of D h h_here h_kept h_trial h_parts h_text h_sheets h_findings h_here_ground h_here_farms h_here_mountain h_here_ground_heights h_here_ground_ages h_here_ground_walls h_here_farms_kinds h_here_farms_cells h_here_farms_owners h_here_farms_purses v_isKept v_here_month v_here_volume v_here_outs v_here_fed v_here_fedOuts v_here_arePigsTold v_here_ground_vent v_here_ground_ash v_here_ground_ages v_here_farms_number v_here_farms_burnt v_here_farms_kinds v_here_farms_cells v_here_farms_owners v_here_farms_purses v_findings_44)) X hV hl.1 (c_X_finding D h h_here h_kept h_trial h_parts h_text h_sheets h_findings v_isKept v_findings (0 : Int32) hc_45) fk_X_finding gw_283 rfl 0 8 rfl rfl [0, 9] [some 0, none, none, none, none, none, none, none, none, some 1] rfl rfl ⟨rfl, rfl, rfl, rfl, rfl, rfl, rfl, rfl, rfl, rfl, rfl, rfl, rfl, rfl, trivial⟩ rfl rfl rfl d_X_of_153 (fun H locs hV => ?_)
    have e_ := Option.some.inj hf
    subst e_
    exact k_iret X rfl hV rfl d_X_of_156
  replace hf := kifp c_27 hf
  refine lv_aload_n hx hb d_X_of_14 rfl (lv_at hl 0 rfl) ?_
  refine lv_iconst (v := 0) hx hb d_X_of_15 ic_0 ?_
  obtain ⟨r_46, v_findings_47, hc_48, hf⟩ := kb2_some hf
  refine k_cvi (w1 := (wd_X_finding D h h_here h_kept h_trial h_parts h_text h_sheets h_findings v_isKept v_findings_47)) (r := r_46) (ws' := (wd_X_of D h h_here h_kept h_trial h_parts h_text h_sheets h_findings h_here_ground h_here_farms h_here_mountain h_here_ground_heights h_here_ground_ages h_here_ground_walls h_here_farms_kinds h_here_farms_cells h_here_farms_owners h_here_farms_purses v_isKept v_here_month v_here_volume v_here_outs v_here_fed v_here_fedOuts v_here_arePigsTold v_here_ground_vent v_here_ground_ash v_here_ground_ages v_here_farms_number v_here_farms_burnt v_here_farms_kinds v_here_farms_cells v_here_farms_owners v_here_farms_purses v_findings_47)) X hV hl.1 (c_X_finding D h h_here h_kept h_trial h_parts h_text h_sheets h_findings v_isKept v_findings (0 : Int32) hc_48) fk_X_finding gw_283 rfl 0 8 rfl rfl [0, 9] [some 0, none, none, none, none, none, none, none, none, some 1] rfl rfl ⟨rfl, rfl, rfl, rfl, rfl, rfl, rfl, rfl, rfl, rfl, rfl, rfl, rfl, rfl, trivial⟩ rfl rfl rfl d_X_of_16 (fun H locs hV => ?_)
  have e_ := Option.some.inj hf
  subst e_
  exact k_iret X rfl hV rfl d_X_of_19
set_option maxHeartbeats 2000000 in
set_option maxRecDepth 20000 in
theorem c_X_of {l : Launch} (D : kD) (h : Nat) (h_here : Nat) (h_kept : Nat) (h_trial : Nat) (h_parts : Nat) (h_text : Nat) (h_sheets : Nat) (h_findings : Nat) (h_here_ground : Nat) (h_here_farms : Nat) (h_here_mountain : Nat) (h_here_ground_heights : Nat) (h_here_ground_ages : Nat) (h_here_ground_walls : Nat) (h_here_farms_kinds : Nat) (h_here_farms_cells : Nat) (h_here_farms_owners : Nat) (h_here_farms_purses : Nat) (v_isKept : Int32) (v_here_month : Int32) (v_here_volume : Int32) (v_here_outs : Int32) (v_here_fed : Int32) (v_here_fedOuts : Int32) (v_here_arePigsTold : Int32) (v_here_ground_vent : Int32) (v_here_ground_ash : Int32) (v_here_ground_ages : Nat → Int32) (v_here_farms_number : Int32) (v_here_farms_burnt : Int32) (v_here_farms_kinds : Nat → Int32) (v_here_farms_cells : Nat → Int32) (v_here_farms_owners : Nat → Int32) (v_here_farms_purses : Nat → Int32) (v_findings : Nat → Int32) (x1 : Int32) (x2 : Int32) {out : Int32 × (Nat → Int32)} (hf : f_X_of v_here_ground_ash v_here_ground_ages v_here_farms_number v_here_farms_burnt v_here_farms_kinds v_here_farms_cells v_here_farms_owners v_here_farms_purses v_findings x1 x2 = some out) : kMi l D y_X_of b_X_of 3 (some .int) { frames := 3, cells := 0, slots := 0, locals := 68 } [.ref h, .int x1, .int x2] (wd_X_of D h h_here h_kept h_trial h_parts h_text h_sheets h_findings h_here_ground h_here_farms h_here_mountain h_here_ground_heights h_here_ground_ages h_here_ground_walls h_here_farms_kinds h_here_farms_cells h_here_farms_owners h_here_farms_purses v_isKept v_here_month v_here_volume v_here_outs v_here_fed v_here_fedOuts v_here_arePigsTold v_here_ground_vent v_here_ground_ash v_here_ground_ages v_here_farms_number v_here_farms_burnt v_here_farms_kinds v_here_farms_cells v_here_farms_owners v_here_farms_purses v_findings) (wd_X_of D h h_here h_kept h_trial h_parts h_text h_sheets h_findings h_here_ground h_here_farms h_here_mountain h_here_ground_heights h_here_ground_ages h_here_ground_walls h_here_farms_kinds h_here_farms_cells h_here_farms_owners h_here_farms_purses v_isKept v_here_month v_here_volume v_here_outs v_here_fed v_here_fedOuts v_here_arePigsTold v_here_ground_vent v_here_ground_ash v_here_ground_ages v_here_farms_number v_here_farms_burnt v_here_farms_kinds v_here_farms_cells v_here_farms_owners v_here_farms_purses out.2) out.1 :=
  kMi_of (own := "MountainFarms") (plainFor_of_name (by decide)) rfl rfl (fun p e s m args below meth c ls X hV hl => t_X_of X hf hV hl)
set_option maxHeartbeats 2000000 in
set_option maxRecDepth 20000 in
theorem t_X_sow_1 {l : Launch} {p : Program} {e : Env} {s : State} {m : MethodId} {args : Array Value} {below : List Frame} {meth : Method} {c : Code} {D : kD} {wc0 : va_W} {h : Nat} {h_here : Nat} {h_kept : Nat} {h_trial : Nat} {h_parts : Nat} {h_text : Nat} {h_sheets : Nat} {h_findings : Nat} {h_here_ground : Nat} {h_here_farms : Nat} {h_here_mountain : Nat} {h_here_farms_kinds : Nat} {h_here_farms_cells : Nat} {h_here_farms_owners : Nat} {h_here_farms_purses : Nat} {v_isKept : Int32} {v_here_month : Int32} {v_here_volume : Int32} {v_here_outs : Int32} {v_here_fed : Int32} {v_here_fedOuts : Int32} {v_here_arePigsTold : Int32} {v_here_farms_number : Int32} {v_here_farms_burnt : Int32} {v_here_farms_kinds : Nat → Int32} {v_findings : Nat → Int32} {out : Int32 × (Nat → Int32) × (Nat → Int32)} (X : kX p m meth c s args D (va_A wc0 s.heap.size) b_X_sow "MountainFarms" 4 (some .int)) (hf : f_X_sow_1 v_here_farms_kinds v_findings = some out) {H : Heap} {locs : List Loc} (hV : kV D (va_A wc0 s.heap.size) s (wd_X_sow D h h_here h_kept h_trial h_parts h_text h_sheets h_findings h_here_ground h_here_farms h_here_mountain h_here_farms_kinds h_here_farms_cells h_here_farms_owners h_here_farms_purses v_isKept v_here_month v_here_volume v_here_outs v_here_fed v_here_fedOuts v_here_arePigsTold v_here_farms_number v_here_farms_burnt v_here_farms_kinds v_findings) H locs) {ls : Array Slot} (hl : lv_has ls 4 [(0, .ref h)]) : W p l e { frames := 2, cells := 0, slots := 0, locals := 43 } s m args below meth c H locs 0 0 (MQ below (kQi D wc0 (wd_X_sow D h h_here h_kept h_trial h_parts h_text h_sheets h_findings h_here_ground h_here_farms h_here_mountain h_here_farms_kinds h_here_farms_cells h_here_farms_owners h_here_farms_purses v_isKept v_here_month v_here_volume v_here_outs v_here_fed v_here_fedOuts v_here_arePigsTold v_here_farms_number v_here_farms_burnt out.2.1 out.2.2) s.heap.size out.1) args s 0 0 (va_A wc0 s.heap.size)) (F0 m 21 ls []) := by
  unfold f_X_sow_1 at hf
  obtain ⟨hx, hb, -⟩ := id X
  refine lv_aload_n hx hb d_X_sow_21 rfl (lv_at hl 0 rfl) ?_
  refine lv_iconst (v := 0) hx hb d_X_sow_22 ic_0 ?_
  obtain ⟨r_22, v_findings_23, hc_24, hf⟩ := kb2_some hf
  refine k_cvi (w1 := (wd_X_finding D h h_here h_kept h_trial h_parts h_text h_sheets h_findings v_isKept v_findings_23)) (r := r_22) (ws' := (wd_X_sow D h h_here h_kept h_trial h_parts h_text h_sheets h_findings h_here_ground h_here_farms h_here_mountain h_here_farms_kinds h_here_farms_cells h_here_farms_owners h_here_farms_purses v_isKept v_here_month v_here_volume v_here_outs v_here_fed v_here_fedOuts v_here_arePigsTold v_here_farms_number v_here_farms_burnt v_here_farms_kinds v_findings_23)) X hV hl.1 (c_X_finding D h h_here h_kept h_trial h_parts h_text h_sheets h_findings v_isKept v_findings (0 : Int32) hc_24) fk_X_finding gw_283 rfl 0 8 rfl rfl [0, 4] [some 0, none, none, none, some 1] rfl rfl ⟨rfl, rfl, rfl, rfl, rfl, rfl, rfl, rfl, rfl, trivial⟩ rfl rfl rfl d_X_sow_23 (fun H locs hV => ?_)
  have e_ := Option.some.inj hf
  subst e_
  exact k_iret X rfl hV rfl d_X_sow_26
set_option maxHeartbeats 2000000 in
set_option maxRecDepth 20000 in
theorem t_X_sow {l : Launch} {p : Program} {e : Env} {s : State} {m : MethodId} {args : Array Value} {below : List Frame} {meth : Method} {c : Code} {D : kD} {wc0 : va_W} {h : Nat} {h_here : Nat} {h_kept : Nat} {h_trial : Nat} {h_parts : Nat} {h_text : Nat} {h_sheets : Nat} {h_findings : Nat} {h_here_ground : Nat} {h_here_farms : Nat} {h_here_mountain : Nat} {h_here_farms_kinds : Nat} {h_here_farms_cells : Nat} {h_here_farms_owners : Nat} {h_here_farms_purses : Nat} {v_isKept : Int32} {v_here_month : Int32} {v_here_volume : Int32} {v_here_outs : Int32} {v_here_fed : Int32} {v_here_fedOuts : Int32} {v_here_arePigsTold : Int32} {v_here_farms_number : Int32} {v_here_farms_burnt : Int32} {v_here_farms_kinds : Nat → Int32} {v_findings : Nat → Int32} {x1 : Int32} {x2 : Int32} {out : Int32 × (Nat → Int32) × (Nat → Int32)} (X : kX p m meth c s args D (va_A wc0 s.heap.size) b_X_sow "MountainFarms" 4 (some .int)) (hf : f_X_sow v_here_farms_number v_here_farms_kinds v_findings x1 x2 = some out) {H : Heap} {locs : List Loc} (hV : kV D (va_A wc0 s.heap.size) s (wd_X_sow D h h_here h_kept h_trial h_parts h_text h_sheets h_findings h_here_ground h_here_farms h_here_mountain h_here_farms_kinds h_here_farms_cells h_here_farms_owners h_here_farms_purses v_isKept v_here_month v_here_volume v_here_outs v_here_fed v_here_fedOuts v_here_arePigsTold v_here_farms_number v_here_farms_burnt v_here_farms_kinds v_findings) H locs) {ls : Array Slot} (hl : lv_has ls 4 [(0, .ref h), (1, .int x1), (2, .int x2)]) : W p l e { frames := 2, cells := 0, slots := 0, locals := 43 } s m args below meth c H locs 0 0 (MQ below (kQi D wc0 (wd_X_sow D h h_here h_kept h_trial h_parts h_text h_sheets h_findings h_here_ground h_here_farms h_here_mountain h_here_farms_kinds h_here_farms_cells h_here_farms_owners h_here_farms_purses v_isKept v_here_month v_here_volume v_here_outs v_here_fed v_here_fedOuts v_here_arePigsTold v_here_farms_number v_here_farms_burnt out.2.1 out.2.2) s.heap.size out.1) args s 0 0 (va_A wc0 s.heap.size)) (F0 m 0 ls []) := by
  unfold f_X_sow at hf
  obtain ⟨hx, hb, -⟩ := id X
  refine lv_aload_n hx hb d_X_sow_0 rfl (lv_at hl 0 rfl) ?_
  refine k_get X hV 0 8 0 rfl rfl rfl gw_248 rfl rfl d_X_sow_1 ?_
  refine k_get X hV 1 5 1 rfl rfl rfl gw_140 rfl rfl d_X_sow_4 ?_
  refine lv_iload_n hx hb d_X_sow_7 rfl (lv_at hl 1 rfl) ?_
  obtain ⟨r_13, hc_14, hf⟩ := kb1_some hf
  refine k_cvi (w1 := (wd_Fa_has D h_here_farms h_here_farms_kinds h_here_farms_cells h_here_farms_owners h_here_farms_purses v_here_farms_number v_here_farms_burnt)) (r := r_13) (ws' := (wd_X_sow D h h_here h_kept h_trial h_parts h_text h_sheets h_findings h_here_ground h_here_farms h_here_mountain h_here_farms_kinds h_here_farms_cells h_here_farms_owners h_here_farms_purses v_isKept v_here_month v_here_volume v_here_outs v_here_fed v_here_fedOuts v_here_arePigsTold v_here_farms_number v_here_farms_burnt v_here_farms_kinds v_findings)) X hV hl.1 (c_Fa_has D h_here_farms h_here_farms_kinds h_here_farms_cells h_here_farms_owners h_here_farms_purses v_here_farms_number v_here_farms_burnt x1 hc_14) fk_Fa_has gw_342 rfl 2 0 rfl rfl [2] [none, none, some 0, none, none] rfl rfl ⟨rfl, rfl, rfl, rfl, rfl, rfl, rfl, trivial⟩ rfl rfl rfl d_X_sow_8 (fun H locs hV => ?_)
  refine lv_if_eq (tgt := 21) hx hb d_X_sow_11 (by decide) (fun c_15 => ?_) (fun c_15 => ?_)
  · replace hf := kifp c_15 hf
    exact t_X_sow_1 X hf hV (lv_sub hl [0] rfl)
  replace hf := kifn c_15 hf
  refine lv_iload_n hx hb d_X_sow_14 rfl (lv_at hl 2 rfl) ?_
  obtain ⟨r_16, hc_17, hf⟩ := kb1_some hf
  refine k_csi (w1 := (wd_X_isKind D)) (r := r_16) (ws' := (wd_X_sow D h h_here h_kept h_trial h_parts h_text h_sheets h_findings h_here_ground h_here_farms h_here_mountain h_here_farms_kinds h_here_farms_cells h_here_farms_owners h_here_farms_purses v_isKept v_here_month v_here_volume v_here_outs v_here_fed v_here_fedOuts v_here_arePigsTold v_here_farms_number v_here_farms_burnt v_here_farms_kinds v_findings)) X hV hl.1 (c_X_isKind D x2 hc_17) fk_X_isKind gw_323 rfl [] [none, none, none, none, none] rfl rfl ⟨rfl, rfl, rfl, rfl, rfl, trivial⟩ rfl rfl rfl d_X_sow_15 (fun H locs hV => ?_)
  refine lv_if_ne (tgt := 27) hx hb d_X_sow_18 (by decide) (fun c_18 => ?_) (fun c_18 => ?_)
  · replace hf := kifn c_18 hf
    refine lv_aload_n hx hb d_X_sow_27 rfl (lv_at hl 0 rfl) ?_
    refine k_get X hV 0 8 0 rfl rfl rfl gw_248 rfl rfl d_X_sow_28 ?_
    refine k_get X hV 1 5 1 rfl rfl rfl gw_140 rfl rfl d_X_sow_31 ?_
    refine k_get X hV 2 0 0 rfl rfl rfl gw_79 rfl rfl d_X_sow_34 ?_
    refine lv_iload_n hx hb d_X_sow_37 rfl (lv_at hl 1 rfl) ?_
    obtain ⟨h_19, hf⟩ := kidx_some hf
    refine k_iald X hV 3 rfl h_19 rfl d_X_sow_38 ?_
    refine k_leti hf (fun x3_20 hf => ?_)
    refine lv_istore_n (lv' := [(3, .int x3_20), (0, .ref h), (1, .int x1), (2, .int x2)]) hx hb d_X_sow_39 rfl hl (by decide) rfl (fun ls hl => ?_)
    refine lv_aload_n hx hb d_X_sow_40 rfl (lv_at hl 1 rfl) ?_
    refine k_get X hV 0 8 0 rfl rfl rfl gw_248 rfl rfl d_X_sow_41 ?_
    refine k_get X hV 1 5 1 rfl rfl rfl gw_140 rfl rfl d_X_sow_44 ?_
    refine k_get X hV 2 0 0 rfl rfl rfl gw_79 rfl rfl d_X_sow_47 ?_
    refine lv_iload_n hx hb d_X_sow_50 rfl (lv_at hl 2 rfl) ?_
    refine lv_iload_n hx hb d_X_sow_51 rfl (lv_at hl 3 rfl) ?_
    obtain ⟨h_21, hf⟩ := kidx_some hf
    refine k_iast (ws' := (wd_X_sow D h h_here h_kept h_trial h_parts h_text h_sheets h_findings h_here_ground h_here_farms h_here_mountain h_here_farms_kinds h_here_farms_cells h_here_farms_owners h_here_farms_purses v_isKept v_here_month v_here_volume v_here_outs v_here_fed v_here_fedOuts v_here_arePigsTold v_here_farms_number v_here_farms_burnt (upd v_here_farms_kinds x1.toNatClampNeg x2) v_findings)) X hV 3 rfl h_21 rfl rfl d_X_sow_52 (fun H locs hV => ?_)
    refine lv_iload_n hx hb d_X_sow_53 rfl (lv_at hl 0 rfl) ?_
    have e_ := Option.some.inj hf
    subst e_
    exact k_iret X rfl hV rfl d_X_sow_54
  replace hf := kifp c_18 hf
  exact t_X_sow_1 X hf hV (lv_sub hl [0] rfl)
set_option maxHeartbeats 2000000 in
set_option maxRecDepth 20000 in
theorem c_X_sow {l : Launch} (D : kD) (h : Nat) (h_here : Nat) (h_kept : Nat) (h_trial : Nat) (h_parts : Nat) (h_text : Nat) (h_sheets : Nat) (h_findings : Nat) (h_here_ground : Nat) (h_here_farms : Nat) (h_here_mountain : Nat) (h_here_farms_kinds : Nat) (h_here_farms_cells : Nat) (h_here_farms_owners : Nat) (h_here_farms_purses : Nat) (v_isKept : Int32) (v_here_month : Int32) (v_here_volume : Int32) (v_here_outs : Int32) (v_here_fed : Int32) (v_here_fedOuts : Int32) (v_here_arePigsTold : Int32) (v_here_farms_number : Int32) (v_here_farms_burnt : Int32) (v_here_farms_kinds : Nat → Int32) (v_findings : Nat → Int32) (x1 : Int32) (x2 : Int32) {out : Int32 × (Nat → Int32) × (Nat → Int32)} (hf : f_X_sow v_here_farms_number v_here_farms_kinds v_findings x1 x2 = some out) : kMi l D y_X_sow b_X_sow 4 (some .int) { frames := 2, cells := 0, slots := 0, locals := 43 } [.ref h, .int x1, .int x2] (wd_X_sow D h h_here h_kept h_trial h_parts h_text h_sheets h_findings h_here_ground h_here_farms h_here_mountain h_here_farms_kinds h_here_farms_cells h_here_farms_owners h_here_farms_purses v_isKept v_here_month v_here_volume v_here_outs v_here_fed v_here_fedOuts v_here_arePigsTold v_here_farms_number v_here_farms_burnt v_here_farms_kinds v_findings) (wd_X_sow D h h_here h_kept h_trial h_parts h_text h_sheets h_findings h_here_ground h_here_farms h_here_mountain h_here_farms_kinds h_here_farms_cells h_here_farms_owners h_here_farms_purses v_isKept v_here_month v_here_volume v_here_outs v_here_fed v_here_fedOuts v_here_arePigsTold v_here_farms_number v_here_farms_burnt out.2.1 out.2.2) out.1 :=
  kMi_of (own := "MountainFarms") (plainFor_of_name (by decide)) rfl rfl (fun p e s m args below meth c ls X hV hl => t_X_sow X hf hV hl)
set_option maxHeartbeats 2000000 in
set_option maxRecDepth 20000 in
theorem tb_X_isOfKind_1 {l : Launch} {p : Program} {e : Env} {s : State} {m : MethodId} {args : Array Value} {below : List Frame} {meth : Method} {c : Code} {D : kD} {wc0 : va_W} {x1 : Int32} {x2 : Int32} {x3 : Int32} {rec1 : Int32 → Int32 → Option (Int32)} {out : Int32} (X : kX p m meth c s args D (va_A wc0 s.heap.size) b_X_isOfKind "MountainFarms" 4 (some .boolean)) (hrec1 : ∀ (x2 : Int32) (x3 : Int32), rec1 x2 x3 = some out → ∀ (H : Heap) (locs : List Loc) (ls : Array Slot), kV D (va_A wc0 s.heap.size) s (wd_X_isOfKind D) H locs → lv_has ls 4 [(1, .int x1), (2, .int x2), (3, .int x3)] → W p l e { frames := 2, cells := 0, slots := 0, locals := 42 } s m args below meth c H locs 0 0 (MQ below (kQi D wc0 (wd_X_isOfKind D) s.heap.size out) args s 0 0 (va_A wc0 s.heap.size)) (F0 m 4 ls [])) (hf : fb_X_isOfKind_1 rec1 x1 x2 x3 = some out) {H : Heap} {locs : List Loc} (hV : kV D (va_A wc0 s.heap.size) s (wd_X_isOfKind D) H locs) {ls : Array Slot} (hl : lv_has ls 4 [(1, .int x1), (2, .int x2), (3, .int x3)]) : W p l e { frames := 2, cells := 0, slots := 0, locals := 42 } s m args below meth c H locs 0 0 (MQ below (kQi D wc0 (wd_X_isOfKind D) s.heap.size out) args s 0 0 (va_A wc0 s.heap.size)) (F0 m 4 ls []) := by
  unfold fb_X_isOfKind_1 at hf
  obtain ⟨hx, hb, -⟩ := id X
  refine lv_iload_n hx hb d_X_isOfKind_4 rfl (lv_at hl 2 rfl) ?_
  refine lv_bipush (v := 6) hx hb d_X_isOfKind_5 bp_6 ?_
  refine lv_icmp_ge (tgt := 38) hx hb d_X_isOfKind_7 (by decide) (fun c_8 => ?_) (fun c_8 => ?_)
  · replace hf := kifp c_8 hf
    refine lv_iconst (v := 0) hx hb d_X_isOfKind_38 ic_0 ?_
    have e_ := Option.some.inj hf
    subst e_
    exact k_iret (v := 0) X rfl hV nb0 d_X_isOfKind_39
  replace hf := kifn c_8 hf
  refine lv_iload_n hx hb d_X_isOfKind_10 rfl (lv_at hl 1 rfl) ?_
  refine lv_iload_n hx hb d_X_isOfKind_11 rfl (lv_at hl 0 rfl) ?_
  refine lv_icmp_ne (tgt := 17) hx hb d_X_isOfKind_12 (by decide) (fun c_9 => ?_) (fun c_9 => ?_)
  · replace hf := kifn c_9 hf
    refine lv_iload_n hx hb d_X_isOfKind_17 rfl (lv_at hl 1 rfl) ?_
    obtain ⟨r_10, hc_11, hf⟩ := kb1_some hf
    refine k_csi (w1 := (wd_X_isKind D)) (r := r_10) (ws' := (wd_X_isOfKind D)) X hV hl.1 (c_X_isKind D x2 hc_11) fk_X_isKind gw_323 rfl [] [] rfl rfl trivial rfl rfl rfl d_X_isOfKind_18 (fun H locs hV => ?_)
    refine lv_if_ne (tgt := 26) hx hb d_X_isOfKind_21 (by decide) (fun c_12 => ?_) (fun c_12 => ?_)
    · replace hf := kifn c_12 hf
      refine k_under X hV gw_377 d_X_isOfKind_26 ?_
      refine lv_iload_n hx hb d_X_isOfKind_29 rfl (lv_at hl 1 rfl) ?_
      obtain ⟨h_13, hf⟩ := kidx_some hf
      refine k_uald X hV h_13 rfl d_X_isOfKind_30 ?_
      refine k_leti hf (fun x2_14 hf => ?_)
      refine lv_istore_n (lv' := [(2, .int x2_14), (1, .int x1), (3, .int x3)]) hx hb d_X_isOfKind_31 rfl hl (by decide) rfl (fun ls hl => ?_)
      refine lv_iinc (v := (x3 + 1)) (lv' := [(3, .int (x3 + 1)), (2, .int x2_14), (1, .int x1)]) hx hb d_X_isOfKind_32 hl (k := 2) rfl rfl (by decide) rfl (fun ls hl => ?_)
      refine lv_goto (tgt := 4) hx hb d_X_isOfKind_35 (by decide) ?_
      exact hrec1 _ _ hf _ _ _ hV (lv_sub hl [2, 1, 0] rfl)
    replace hf := kifp c_12 hf
    refine lv_iconst (v := 0) hx hb d_X_isOfKind_24 ic_0 ?_
    have e_ := Option.some.inj hf
    subst e_
    exact k_iret (v := 0) X rfl hV nb0 d_X_isOfKind_25
  replace hf := kifp c_9 hf
  refine lv_iconst (v := 1) hx hb d_X_isOfKind_15 ic_1 ?_
  have e_ := Option.some.inj hf
  subst e_
  exact k_iret (v := 1) X rfl hV nb1 d_X_isOfKind_16
set_option maxHeartbeats 2000000 in
set_option maxRecDepth 20000 in
theorem tl_X_isOfKind_1 {l : Launch} {p : Program} {e : Env} {s : State} {m : MethodId} {args : Array Value} {below : List Frame} {meth : Method} {c : Code} {D : kD} {wc0 : va_W} {x1 : Int32} {out : Int32} (X : kX p m meth c s args D (va_A wc0 s.heap.size) b_X_isOfKind "MountainFarms" 4 (some .boolean)) : ∀ (n : Nat) (x2 : Int32) (x3 : Int32), fl_X_isOfKind_1 x1 n x2 x3 = some out → ∀ (H : Heap) (locs : List Loc) (ls : Array Slot), kV D (va_A wc0 s.heap.size) s (wd_X_isOfKind D) H locs → lv_has ls 4 [(1, .int x1), (2, .int x2), (3, .int x3)] → W p l e { frames := 2, cells := 0, slots := 0, locals := 42 } s m args below meth c H locs 0 0 (MQ below (kQi D wc0 (wd_X_isOfKind D) s.heap.size out) args s 0 0 (va_A wc0 s.heap.size)) (F0 m 4 ls []) := by
  intro n
  induction n with
  | zero => intro x2 x3 hf; exact knone hf
  | succ n ih => intro x2 x3 hf H locs ls hV hl; exact tb_X_isOfKind_1 X ih hf hV hl
set_option maxHeartbeats 2000000 in
set_option maxRecDepth 20000 in
theorem t_X_isOfKind {l : Launch} {p : Program} {e : Env} {s : State} {m : MethodId} {args : Array Value} {below : List Frame} {meth : Method} {c : Code} {D : kD} {wc0 : va_W} {x0 : Int32} {x1 : Int32} {out : Int32} (X : kX p m meth c s args D (va_A wc0 s.heap.size) b_X_isOfKind "MountainFarms" 4 (some .boolean)) (hf : f_X_isOfKind x0 x1 = some out) {H : Heap} {locs : List Loc} (hV : kV D (va_A wc0 s.heap.size) s (wd_X_isOfKind D) H locs) {ls : Array Slot} (hl : lv_has ls 4 [(0, .int x0), (1, .int x1)]) : W p l e { frames := 2, cells := 0, slots := 0, locals := 42 } s m args below meth c H locs 0 0 (MQ below (kQi D wc0 (wd_X_isOfKind D) s.heap.size out) args s 0 0 (va_A wc0 s.heap.size)) (F0 m 0 ls []) := by
  unfold f_X_isOfKind at hf
  obtain ⟨hx, hb, -⟩ := id X
  refine lv_iload_n hx hb d_X_isOfKind_0 rfl (lv_at hl 0 rfl) ?_
  refine lv_istore_n (lv' := [(2, .int x0), (0, .int x0), (1, .int x1)]) hx hb d_X_isOfKind_1 rfl hl (by decide) rfl (fun ls hl => ?_)
  refine lv_iconst (v := 0) hx hb d_X_isOfKind_2 ic_0 ?_
  refine lv_istore_n (lv' := [(3, .int (0 : Int32)), (2, .int x0), (0, .int x0), (1, .int x1)]) hx hb d_X_isOfKind_3 rfl hl (by decide) rfl (fun ls hl => ?_)
  exact tl_X_isOfKind_1 X _ _ _ hf _ _ _ hV (lv_sub hl [3, 1, 0] rfl)
set_option maxHeartbeats 2000000 in
set_option maxRecDepth 20000 in
theorem c_X_isOfKind {l : Launch} (D : kD) (x0 : Int32) (x1 : Int32) {out : Int32} (hf : f_X_isOfKind x0 x1 = some out) : kMi l D y_X_isOfKind b_X_isOfKind 4 (some .boolean) { frames := 2, cells := 0, slots := 0, locals := 42 } [.int x0, .int x1] (wd_X_isOfKind D) (wd_X_isOfKind D) out :=
  kMi_of (own := "MountainFarms") (plainFor_of_name (by decide)) rfl rfl (fun p e s m args below meth c ls X hV hl => t_X_isOfKind X hf hV hl)
set_option maxHeartbeats 2000000 in
set_option maxRecDepth 20000 in
theorem t_X_as_1 {l : Launch} {p : Program} {e : Env} {s : State} {m : MethodId} {args : Array Value} {below : List Frame} {meth : Method} {c : Code} {D : kD} {wc0 : va_W} {h : Nat} {h_here : Nat} {h_kept : Nat} {h_trial : Nat} {h_parts : Nat} {h_text : Nat} {h_sheets : Nat} {h_findings : Nat} {h_here_ground : Nat} {h_here_farms : Nat} {h_here_mountain : Nat} {h_here_farms_kinds : Nat} {h_here_farms_cells : Nat} {h_here_farms_owners : Nat} {h_here_farms_purses : Nat} {v_isKept : Int32} {v_here_month : Int32} {v_here_volume : Int32} {v_here_outs : Int32} {v_here_fed : Int32} {v_here_fedOuts : Int32} {v_here_arePigsTold : Int32} {v_here_farms_number : Int32} {v_here_farms_burnt : Int32} {v_here_farms_kinds : Nat → Int32} {v_here_farms_cells : Nat → Int32} {v_findings : Nat → Int32} {out : Int32 × (Nat → Int32)} (X : kX p m meth c s args D (va_A wc0 s.heap.size) b_X_as "MountainFarms" 3 (some .int)) (hf : f_X_as_1 v_findings = some out) {H : Heap} {locs : List Loc} (hV : kV D (va_A wc0 s.heap.size) s (wd_X_as D h h_here h_kept h_trial h_parts h_text h_sheets h_findings h_here_ground h_here_farms h_here_mountain h_here_farms_kinds h_here_farms_cells h_here_farms_owners h_here_farms_purses v_isKept v_here_month v_here_volume v_here_outs v_here_fed v_here_fedOuts v_here_arePigsTold v_here_farms_number v_here_farms_burnt v_here_farms_kinds v_here_farms_cells v_findings) H locs) {ls : Array Slot} (hl : lv_has ls 3 [(0, .ref h)]) : W p l e { frames := 3, cells := 0, slots := 0, locals := 65 } s m args below meth c H locs 0 0 (MQ below (kQi D wc0 (wd_X_as D h h_here h_kept h_trial h_parts h_text h_sheets h_findings h_here_ground h_here_farms h_here_mountain h_here_farms_kinds h_here_farms_cells h_here_farms_owners h_here_farms_purses v_isKept v_here_month v_here_volume v_here_outs v_here_fed v_here_fedOuts v_here_arePigsTold v_here_farms_number v_here_farms_burnt v_here_farms_kinds v_here_farms_cells out.2) s.heap.size out.1) args s 0 0 (va_A wc0 s.heap.size)) (F0 m 21 ls []) := by
  unfold f_X_as_1 at hf
  obtain ⟨hx, hb, -⟩ := id X
  refine lv_aload_n hx hb d_X_as_21 rfl (lv_at hl 0 rfl) ?_
  refine lv_iconst (v := 0) hx hb d_X_as_22 ic_0 ?_
  obtain ⟨r_32, v_findings_33, hc_34, hf⟩ := kb2_some hf
  refine k_cvi (w1 := (wd_X_finding D h h_here h_kept h_trial h_parts h_text h_sheets h_findings v_isKept v_findings_33)) (r := r_32) (ws' := (wd_X_as D h h_here h_kept h_trial h_parts h_text h_sheets h_findings h_here_ground h_here_farms h_here_mountain h_here_farms_kinds h_here_farms_cells h_here_farms_owners h_here_farms_purses v_isKept v_here_month v_here_volume v_here_outs v_here_fed v_here_fedOuts v_here_arePigsTold v_here_farms_number v_here_farms_burnt v_here_farms_kinds v_here_farms_cells v_findings_33)) X hV hl.1 (c_X_finding D h h_here h_kept h_trial h_parts h_text h_sheets h_findings v_isKept v_findings (0 : Int32) hc_34) fk_X_finding gw_283 rfl 0 8 rfl rfl [0, 5] [some 0, none, none, none, none, some 1] rfl rfl ⟨rfl, rfl, rfl, rfl, rfl, rfl, rfl, rfl, rfl, rfl, trivial⟩ rfl rfl rfl d_X_as_23 (fun H locs hV => ?_)
  have e_ := Option.some.inj hf
  subst e_
  exact k_iret X rfl hV rfl d_X_as_26
set_option maxHeartbeats 2000000 in
set_option maxRecDepth 20000 in
theorem t_X_as {l : Launch} {p : Program} {e : Env} {s : State} {m : MethodId} {args : Array Value} {below : List Frame} {meth : Method} {c : Code} {D : kD} {wc0 : va_W} {h : Nat} {h_here : Nat} {h_kept : Nat} {h_trial : Nat} {h_parts : Nat} {h_text : Nat} {h_sheets : Nat} {h_findings : Nat} {h_here_ground : Nat} {h_here_farms : Nat} {h_here_mountain : Nat} {h_here_farms_kinds : Nat} {h_here_farms_cells : Nat} {h_here_farms_owners : Nat} {h_here_farms_purses : Nat} {v_isKept : Int32} {v_here_month : Int32} {v_here_volume : Int32} {v_here_outs : Int32} {v_here_fed : Int32} {v_here_fedOuts : Int32} {v_here_arePigsTold : Int32} {v_here_farms_number : Int32} {v_here_farms_burnt : Int32} {v_here_farms_kinds : Nat → Int32} {v_here_farms_cells : Nat → Int32} {v_findings : Nat → Int32} {x1 : Int32} {x2 : Int32} {out : Int32 × (Nat → Int32)} (X : kX p m meth c s args D (va_A wc0 s.heap.size) b_X_as "MountainFarms" 3 (some .int)) (hf : f_X_as v_here_farms_number v_here_farms_kinds v_here_farms_cells v_findings x1 x2 = some out) {H : Heap} {locs : List Loc} (hV : kV D (va_A wc0 s.heap.size) s (wd_X_as D h h_here h_kept h_trial h_parts h_text h_sheets h_findings h_here_ground h_here_farms h_here_mountain h_here_farms_kinds h_here_farms_cells h_here_farms_owners h_here_farms_purses v_isKept v_here_month v_here_volume v_here_outs v_here_fed v_here_fedOuts v_here_arePigsTold v_here_farms_number v_here_farms_burnt v_here_farms_kinds v_here_farms_cells v_findings) H locs) {ls : Array Slot} (hl : lv_has ls 3 [(0, .ref h), (1, .int x1), (2, .int x2)]) : W p l e { frames := 3, cells := 0, slots := 0, locals := 65 } s m args below meth c H locs 0 0 (MQ below (kQi D wc0 (wd_X_as D h h_here h_kept h_trial h_parts h_text h_sheets h_findings h_here_ground h_here_farms h_here_mountain h_here_farms_kinds h_here_farms_cells h_here_farms_owners h_here_farms_purses v_isKept v_here_month v_here_volume v_here_outs v_here_fed v_here_fedOuts v_here_arePigsTold v_here_farms_number v_here_farms_burnt v_here_farms_kinds v_here_farms_cells out.2) s.heap.size out.1) args s 0 0 (va_A wc0 s.heap.size)) (F0 m 0 ls []) := by
  unfold f_X_as at hf
  obtain ⟨hx, hb, -⟩ := id X
  refine lv_aload_n hx hb d_X_as_0 rfl (lv_at hl 0 rfl) ?_
  refine k_get X hV 0 8 0 rfl rfl rfl gw_248 rfl rfl d_X_as_1 ?_
  refine k_get X hV 1 5 1 rfl rfl rfl gw_140 rfl rfl d_X_as_4 ?_
  refine lv_iload_n hx hb d_X_as_7 rfl (lv_at hl 1 rfl) ?_
  obtain ⟨r_18, hc_19, hf⟩ := kb1_some hf
  refine k_cvi (w1 := (wd_Fa_has D h_here_farms h_here_farms_kinds h_here_farms_cells h_here_farms_owners h_here_farms_purses v_here_farms_number v_here_farms_burnt)) (r := r_18) (ws' := (wd_X_as D h h_here h_kept h_trial h_parts h_text h_sheets h_findings h_here_ground h_here_farms h_here_mountain h_here_farms_kinds h_here_farms_cells h_here_farms_owners h_here_farms_purses v_isKept v_here_month v_here_volume v_here_outs v_here_fed v_here_fedOuts v_here_arePigsTold v_here_farms_number v_here_farms_burnt v_here_farms_kinds v_here_farms_cells v_findings)) X hV hl.1 (c_Fa_has D h_here_farms h_here_farms_kinds h_here_farms_cells h_here_farms_owners h_here_farms_purses v_here_farms_number v_here_farms_burnt x1 hc_19) fk_Fa_has gw_342 rfl 2 0 rfl rfl [2] [none, none, some 0, none, none, none] rfl rfl ⟨rfl, rfl, rfl, rfl, rfl, rfl, rfl, rfl, trivial⟩ rfl rfl rfl d_X_as_8 (fun H locs hV => ?_)
  refine lv_if_eq (tgt := 21) hx hb d_X_as_11 (by decide) (fun c_20 => ?_) (fun c_20 => ?_)
  · replace hf := kifp c_20 hf
    exact t_X_as_1 X hf hV (lv_sub hl [0] rfl)
  replace hf := kifn c_20 hf
  refine lv_iload_n hx hb d_X_as_14 rfl (lv_at hl 2 rfl) ?_
  obtain ⟨r_21, hc_22, hf⟩ := kb1_some hf
  refine k_csi (w1 := (wd_X_isKind D)) (r := r_21) (ws' := (wd_X_as D h h_here h_kept h_trial h_parts h_text h_sheets h_findings h_here_ground h_here_farms h_here_mountain h_here_farms_kinds h_here_farms_cells h_here_farms_owners h_here_farms_purses v_isKept v_here_month v_here_volume v_here_outs v_here_fed v_here_fedOuts v_here_arePigsTold v_here_farms_number v_here_farms_burnt v_here_farms_kinds v_here_farms_cells v_findings)) X hV hl.1 (c_X_isKind D x2 hc_22) fk_X_isKind gw_323 rfl [] [none, none, none, none, none, none] rfl rfl ⟨rfl, rfl, rfl, rfl, rfl, rfl, trivial⟩ rfl rfl rfl d_X_as_15 (fun H locs hV => ?_)
  refine lv_if_ne (tgt := 27) hx hb d_X_as_18 (by decide) (fun c_23 => ?_) (fun c_23 => ?_)
  · replace hf := kifn c_23 hf
    refine lv_aload_n hx hb d_X_as_27 rfl (lv_at hl 0 rfl) ?_
    refine k_get X hV 0 8 0 rfl rfl rfl gw_248 rfl rfl d_X_as_28 ?_
    refine k_get X hV 1 5 1 rfl rfl rfl gw_140 rfl rfl d_X_as_31 ?_
    refine k_get X hV 2 0 0 rfl rfl rfl gw_79 rfl rfl d_X_as_34 ?_
    refine lv_iload_n hx hb d_X_as_37 rfl (lv_at hl 1 rfl) ?_
    obtain ⟨h_24, hf⟩ := kidx_some hf
    refine k_iald X hV 3 rfl h_24 rfl d_X_as_38 ?_
    refine lv_iload_n hx hb d_X_as_39 rfl (lv_at hl 2 rfl) ?_
    obtain ⟨r_25, hc_26, hf⟩ := kb1_some hf
    refine k_csi (w1 := (wd_X_isOfKind D)) (r := r_25) (ws' := (wd_X_as D h h_here h_kept h_trial h_parts h_text h_sheets h_findings h_here_ground h_here_farms h_here_mountain h_here_farms_kinds h_here_farms_cells h_here_farms_owners h_here_farms_purses v_isKept v_here_month v_here_volume v_here_outs v_here_fed v_here_fedOuts v_here_arePigsTold v_here_farms_number v_here_farms_burnt v_here_farms_kinds v_here_farms_cells v_findings)) X hV hl.1 (c_X_isOfKind D (v_here_farms_kinds x1.toNatClampNeg) x2 hc_26) fk_X_isOfKind gw_374 rfl [] [none, none, none, none, none, none] rfl rfl ⟨rfl, rfl, rfl, rfl, rfl, rfl, trivial⟩ rfl rfl rfl d_X_as_40 (fun H locs hV => ?_)
    refine lv_if_ne (tgt := 52) hx hb d_X_as_43 (by decide) (fun c_27 => ?_) (fun c_27 => ?_)
    · replace hf := kifn c_27 hf
      refine lv_aload_n hx hb d_X_as_52 rfl (lv_at hl 0 rfl) ?_
      refine k_get X hV 0 8 0 rfl rfl rfl gw_248 rfl rfl d_X_as_53 ?_
      refine k_get X hV 1 5 1 rfl rfl rfl gw_140 rfl rfl d_X_as_56 ?_
      refine k_get X hV 2 0 1 rfl rfl rfl gw_81 rfl rfl d_X_as_59 ?_
      refine lv_iload_n hx hb d_X_as_62 rfl (lv_at hl 1 rfl) ?_
      obtain ⟨h_28, hf⟩ := kidx_some hf
      refine k_iald X hV 4 rfl h_28 rfl d_X_as_63 ?_
      have e_ := Option.some.inj hf
      subst e_
      exact k_iret X rfl hV rfl d_X_as_64
    replace hf := kifp c_27 hf
    refine lv_aload_n hx hb d_X_as_46 rfl (lv_at hl 0 rfl) ?_
    refine lv_iconst (v := 2) hx hb d_X_as_47 ic_2 ?_
    obtain ⟨r_29, v_findings_30, hc_31, hf⟩ := kb2_some hf
    refine k_cvi (w1 := (wd_X_finding D h h_here h_kept h_trial h_parts h_text h_sheets h_findings v_isKept v_findings_30)) (r := r_29) (ws' := (wd_X_as D h h_here h_kept h_trial h_parts h_text h_sheets h_findings h_here_ground h_here_farms h_here_mountain h_here_farms_kinds h_here_farms_cells h_here_farms_owners h_here_farms_purses v_isKept v_here_month v_here_volume v_here_outs v_here_fed v_here_fedOuts v_here_arePigsTold v_here_farms_number v_here_farms_burnt v_here_farms_kinds v_here_farms_cells v_findings_30)) X hV hl.1 (c_X_finding D h h_here h_kept h_trial h_parts h_text h_sheets h_findings v_isKept v_findings (2 : Int32) hc_31) fk_X_finding gw_283 rfl 0 8 rfl rfl [0, 5] [some 0, none, none, none, none, some 1] rfl rfl ⟨rfl, rfl, rfl, rfl, rfl, rfl, rfl, rfl, rfl, rfl, trivial⟩ rfl rfl rfl d_X_as_48 (fun H locs hV => ?_)
    have e_ := Option.some.inj hf
    subst e_
    exact k_iret X rfl hV rfl d_X_as_51
  replace hf := kifp c_23 hf
  exact t_X_as_1 X hf hV (lv_sub hl [0] rfl)
set_option maxHeartbeats 2000000 in
set_option maxRecDepth 20000 in
theorem c_X_as {l : Launch} (D : kD) (h : Nat) (h_here : Nat) (h_kept : Nat) (h_trial : Nat) (h_parts : Nat) (h_text : Nat) (h_sheets : Nat) (h_findings : Nat) (h_here_ground : Nat) (h_here_farms : Nat) (h_here_mountain : Nat) (h_here_farms_kinds : Nat) (h_here_farms_cells : Nat) (h_here_farms_owners : Nat) (h_here_farms_purses : Nat) (v_isKept : Int32) (v_here_month : Int32) (v_here_volume : Int32) (v_here_outs : Int32) (v_here_fed : Int32) (v_here_fedOuts : Int32) (v_here_arePigsTold : Int32) (v_here_farms_number : Int32) (v_here_farms_burnt : Int32) (v_here_farms_kinds : Nat → Int32) (v_here_farms_cells : Nat → Int32) (v_findings : Nat → Int32) (x1 : Int32) (x2 : Int32) {out : Int32 × (Nat → Int32)} (hf : f_X_as v_here_farms_number v_here_farms_kinds v_here_farms_cells v_findings x1 x2 = some out) : kMi l D y_X_as b_X_as 3 (some .int) { frames := 3, cells := 0, slots := 0, locals := 65 } [.ref h, .int x1, .int x2] (wd_X_as D h h_here h_kept h_trial h_parts h_text h_sheets h_findings h_here_ground h_here_farms h_here_mountain h_here_farms_kinds h_here_farms_cells h_here_farms_owners h_here_farms_purses v_isKept v_here_month v_here_volume v_here_outs v_here_fed v_here_fedOuts v_here_arePigsTold v_here_farms_number v_here_farms_burnt v_here_farms_kinds v_here_farms_cells v_findings) (wd_X_as D h h_here h_kept h_trial h_parts h_text h_sheets h_findings h_here_ground h_here_farms h_here_mountain h_here_farms_kinds h_here_farms_cells h_here_farms_owners h_here_farms_purses v_isKept v_here_month v_here_volume v_here_outs v_here_fed v_here_fedOuts v_here_arePigsTold v_here_farms_number v_here_farms_burnt v_here_farms_kinds v_here_farms_cells out.2) out.1 :=
  kMi_of (own := "MountainFarms") (plainFor_of_name (by decide)) rfl rfl (fun p e s m args below meth c ls X hV hl => t_X_as X hf hV hl)
set_option maxHeartbeats 2000000 in
set_option maxRecDepth 20000 in
theorem t_X_build {l : Launch} {p : Program} {e : Env} {s : State} {m : MethodId} {args : Array Value} {below : List Frame} {meth : Method} {c : Code} {D : kD} {wc0 : va_W} {h : Nat} {h_here : Nat} {h_kept : Nat} {h_trial : Nat} {h_parts : Nat} {h_text : Nat} {h_sheets : Nat} {h_findings : Nat} {h_here_ground : Nat} {h_here_farms : Nat} {h_here_mountain : Nat} {h_here_farms_kinds : Nat} {h_here_farms_cells : Nat} {h_here_farms_owners : Nat} {h_here_farms_purses : Nat} {v_isKept : Int32} {v_here_month : Int32} {v_here_volume : Int32} {v_here_outs : Int32} {v_here_fed : Int32} {v_here_fedOuts : Int32} {v_here_arePigsTold : Int32} {v_here_farms_number : Int32} {v_here_farms_burnt : Int32} {v_here_farms_purses : Nat → Int32} {v_findings : Nat → Int32} {x1 : Int32} {out : Int32 × Int32 × (Nat → Int32) × (Nat → Int32)} (X : kX p m meth c s args D (va_A wc0 s.heap.size) b_X_build "MountainFarms" 2 (some .int)) (hf : f_X_build v_here_farms_number v_here_farms_burnt v_here_farms_purses v_findings x1 = some out) {H : Heap} {locs : List Loc} (hV : kV D (va_A wc0 s.heap.size) s (wd_X_build D h h_here h_kept h_trial h_parts h_text h_sheets h_findings h_here_ground h_here_farms h_here_mountain h_here_farms_kinds h_here_farms_cells h_here_farms_owners h_here_farms_purses v_isKept v_here_month v_here_volume v_here_outs v_here_fed v_here_fedOuts v_here_arePigsTold v_here_farms_number v_here_farms_burnt v_here_farms_purses v_findings) H locs) {ls : Array Slot} (hl : lv_has ls 2 [(0, .ref h), (1, .int x1)]) : W p l e { frames := 2, cells := 0, slots := 0, locals := 43 } s m args below meth c H locs 0 0 (MQ below (kQi D wc0 (wd_X_build D h h_here h_kept h_trial h_parts h_text h_sheets h_findings h_here_ground h_here_farms h_here_mountain h_here_farms_kinds h_here_farms_cells h_here_farms_owners h_here_farms_purses v_isKept v_here_month v_here_volume v_here_outs v_here_fed v_here_fedOuts v_here_arePigsTold v_here_farms_number out.2.1 out.2.2.1 out.2.2.2) s.heap.size out.1) args s 0 0 (va_A wc0 s.heap.size)) (F0 m 0 ls []) := by
  unfold f_X_build at hf
  obtain ⟨hx, hb, -⟩ := id X
  refine lv_aload_n hx hb d_X_build_0 rfl (lv_at hl 0 rfl) ?_
  refine k_get X hV 0 8 0 rfl rfl rfl gw_248 rfl rfl d_X_build_1 ?_
  refine k_get X hV 1 5 1 rfl rfl rfl gw_140 rfl rfl d_X_build_4 ?_
  refine lv_iload_n hx hb d_X_build_7 rfl (lv_at hl 1 rfl) ?_
  obtain ⟨r_17, hc_18, hf⟩ := kb1_some hf
  refine k_cvi (w1 := (wd_Fa_has D h_here_farms h_here_farms_kinds h_here_farms_cells h_here_farms_owners h_here_farms_purses v_here_farms_number v_here_farms_burnt)) (r := r_17) (ws' := (wd_X_build D h h_here h_kept h_trial h_parts h_text h_sheets h_findings h_here_ground h_here_farms h_here_mountain h_here_farms_kinds h_here_farms_cells h_here_farms_owners h_here_farms_purses v_isKept v_here_month v_here_volume v_here_outs v_here_fed v_here_fedOuts v_here_arePigsTold v_here_farms_number v_here_farms_burnt v_here_farms_purses v_findings)) X hV hl.1 (c_Fa_has D h_here_farms h_here_farms_kinds h_here_farms_cells h_here_farms_owners h_here_farms_purses v_here_farms_number v_here_farms_burnt x1 hc_18) fk_Fa_has gw_342 rfl 2 0 rfl rfl [2] [none, none, some 0, none, none] rfl rfl ⟨rfl, rfl, rfl, rfl, rfl, rfl, rfl, trivial⟩ rfl rfl rfl d_X_build_8 (fun H locs hV => ?_)
  refine lv_if_ne (tgt := 20) hx hb d_X_build_11 (by decide) (fun c_19 => ?_) (fun c_19 => ?_)
  · replace hf := kifn c_19 hf
    refine lv_aload_n hx hb d_X_build_20 rfl (lv_at hl 0 rfl) ?_
    refine k_get X hV 0 8 0 rfl rfl rfl gw_248 rfl rfl d_X_build_21 ?_
    refine k_get X hV 1 5 1 rfl rfl rfl gw_140 rfl rfl d_X_build_24 ?_
    refine lv_iload_n hx hb d_X_build_27 rfl (lv_at hl 1 rfl) ?_
    obtain ⟨r_20, hc_21, hf⟩ := kb1_some hf
    refine k_cvi (w1 := (wd_Fa_isBurnt D h_here_farms h_here_farms_kinds h_here_farms_cells h_here_farms_owners h_here_farms_purses v_here_farms_number v_here_farms_burnt)) (r := r_20) (ws' := (wd_X_build D h h_here h_kept h_trial h_parts h_text h_sheets h_findings h_here_ground h_here_farms h_here_mountain h_here_farms_kinds h_here_farms_cells h_here_farms_owners h_here_farms_purses v_isKept v_here_month v_here_volume v_here_outs v_here_fed v_here_fedOuts v_here_arePigsTold v_here_farms_number v_here_farms_burnt v_here_farms_purses v_findings)) X hV hl.1 (c_Fa_isBurnt D h_here_farms h_here_farms_kinds h_here_farms_cells h_here_farms_owners h_here_farms_purses v_here_farms_number v_here_farms_burnt x1 hc_21) fk_Fa_isBurnt gw_346 rfl 2 0 rfl rfl [2] [none, none, some 0, none, none] rfl rfl ⟨rfl, rfl, rfl, rfl, rfl, rfl, rfl, trivial⟩ rfl rfl rfl d_X_build_28 (fun H locs hV => ?_)
    refine lv_if_ne (tgt := 40) hx hb d_X_build_31 (by decide) (fun c_22 => ?_) (fun c_22 => ?_)
    · replace hf := kifn c_22 hf
      refine lv_aload_n hx hb d_X_build_40 rfl (lv_at hl 0 rfl) ?_
      refine k_get X hV 0 8 0 rfl rfl rfl gw_248 rfl rfl d_X_build_41 ?_
      refine k_get X hV 1 5 1 rfl rfl rfl gw_140 rfl rfl d_X_build_44 ?_
      refine lv_dup hx hb d_X_build_47 rfl ?_
      refine k_get X hV 2 0 5 rfl rfl rfl gw_90 rfl rfl d_X_build_48 ?_
      refine lv_iconst (v := 1) hx hb d_X_build_51 ic_1 ?_
      refine lv_iload_n hx hb d_X_build_52 rfl (lv_at hl 1 rfl) ?_
      refine lv_ishl hx hb d_X_build_53 ?_
      refine lv_iconst (v := (-1)) hx hb d_X_build_54 ic_m1 ?_
      refine lv_ixor hx hb d_X_build_55 ?_
      refine lv_iand hx hb d_X_build_56 ?_
      refine k_leti hf (fun y_23 hf => ?_)
      refine k_putv (ty := .int) (ws' := (wd_X_build D h h_here h_kept h_trial h_parts h_text h_sheets h_findings h_here_ground h_here_farms h_here_mountain h_here_farms_kinds h_here_farms_cells h_here_farms_owners h_here_farms_purses v_isKept v_here_month v_here_volume v_here_outs v_here_fed v_here_fedOuts v_here_arePigsTold v_here_farms_number y_23 v_here_farms_purses v_findings)) X hV 2 0 5 rfl rfl rfl gw_90 rfl rfl rfl rfl rfl rfl rfl d_X_build_57 (fun H locs hV => ?_)
      refine lv_aload_n hx hb d_X_build_60 rfl (lv_at hl 0 rfl) ?_
      refine k_get X hV 0 8 0 rfl rfl rfl gw_248 rfl rfl d_X_build_61 ?_
      refine k_get X hV 1 5 1 rfl rfl rfl gw_140 rfl rfl d_X_build_64 ?_
      refine k_get X hV 2 0 3 rfl rfl rfl gw_85 rfl rfl d_X_build_67 ?_
      refine lv_iload_n hx hb d_X_build_70 rfl (lv_at hl 1 rfl) ?_
      refine lv_dup2_11 hx hb d_X_build_71 rfl rfl ?_
      obtain ⟨h_24, hf⟩ := kidx_some hf
      refine k_iald X hV 3 rfl h_24 rfl d_X_build_72 ?_
      refine lv_bipush (v := 20) hx hb d_X_build_73 bp_20 ?_
      refine lv_isub hx hb d_X_build_75 ?_
      obtain ⟨h_25, hf⟩ := kidx_some hf
      refine k_iast (ws' := (wd_X_build D h h_here h_kept h_trial h_parts h_text h_sheets h_findings h_here_ground h_here_farms h_here_mountain h_here_farms_kinds h_here_farms_cells h_here_farms_owners h_here_farms_purses v_isKept v_here_month v_here_volume v_here_outs v_here_fed v_here_fedOuts v_here_arePigsTold v_here_farms_number y_23 (upd v_here_farms_purses x1.toNatClampNeg ((v_here_farms_purses x1.toNatClampNeg) - (20 : Int32))) v_findings)) X hV 3 rfl h_25 rfl rfl d_X_build_76 (fun H locs hV => ?_)
      refine lv_aload_n hx hb d_X_build_77 rfl (lv_at hl 0 rfl) ?_
      refine k_get X hV 0 8 0 rfl rfl rfl gw_248 rfl rfl d_X_build_78 ?_
      refine k_get X hV 1 5 1 rfl rfl rfl gw_140 rfl rfl d_X_build_81 ?_
      refine k_get X hV 2 0 3 rfl rfl rfl gw_85 rfl rfl d_X_build_84 ?_
      refine lv_iload_n hx hb d_X_build_87 rfl (lv_at hl 1 rfl) ?_
      obtain ⟨h_26, hf⟩ := kidx_some hf
      refine k_iald X hV 3 rfl h_26 rfl d_X_build_88 ?_
      have e_ := Option.some.inj hf
      subst e_
      exact k_iret X rfl hV rfl d_X_build_89
    replace hf := kifp c_22 hf
    refine lv_aload_n hx hb d_X_build_34 rfl (lv_at hl 0 rfl) ?_
    refine lv_iconst (v := 4) hx hb d_X_build_35 ic_4 ?_
    obtain ⟨r_27, v_findings_28, hc_29, hf⟩ := kb2_some hf
    refine k_cvi (w1 := (wd_X_finding D h h_here h_kept h_trial h_parts h_text h_sheets h_findings v_isKept v_findings_28)) (r := r_27) (ws' := (wd_X_build D h h_here h_kept h_trial h_parts h_text h_sheets h_findings h_here_ground h_here_farms h_here_mountain h_here_farms_kinds h_here_farms_cells h_here_farms_owners h_here_farms_purses v_isKept v_here_month v_here_volume v_here_outs v_here_fed v_here_fedOuts v_here_arePigsTold v_here_farms_number v_here_farms_burnt v_here_farms_purses v_findings_28)) X hV hl.1 (c_X_finding D h h_here h_kept h_trial h_parts h_text h_sheets h_findings v_isKept v_findings (4 : Int32) hc_29) fk_X_finding gw_283 rfl 0 8 rfl rfl [0, 4] [some 0, none, none, none, some 1] rfl rfl ⟨rfl, rfl, rfl, rfl, rfl, rfl, rfl, rfl, rfl, trivial⟩ rfl rfl rfl d_X_build_36 (fun H locs hV => ?_)
    have e_ := Option.some.inj hf
    subst e_
    exact k_iret X rfl hV rfl d_X_build_39
  replace hf := kifp c_19 hf
  refine lv_aload_n hx hb d_X_build_14 rfl (lv_at hl 0 rfl) ?_
  refine lv_iconst (v := 0) hx hb d_X_build_15 ic_0 ?_
  obtain ⟨r_30, v_findings_31, hc_32, hf⟩ := kb2_some hf
  refine k_cvi (w1 := (wd_X_finding D h h_here h_kept h_trial h_parts h_text h_sheets h_findings v_isKept v_findings_31)) (r := r_30) (ws' := (wd_X_build D h h_here h_kept h_trial h_parts h_text h_sheets h_findings h_here_ground h_here_farms h_here_mountain h_here_farms_kinds h_here_farms_cells h_here_farms_owners h_here_farms_purses v_isKept v_here_month v_here_volume v_here_outs v_here_fed v_here_fedOuts v_here_arePigsTold v_here_farms_number v_here_farms_burnt v_here_farms_purses v_findings_31)) X hV hl.1 (c_X_finding D h h_here h_kept h_trial h_parts h_text h_sheets h_findings v_isKept v_findings (0 : Int32) hc_32) fk_X_finding gw_283 rfl 0 8 rfl rfl [0, 4] [some 0, none, none, none, some 1] rfl rfl ⟨rfl, rfl, rfl, rfl, rfl, rfl, rfl, rfl, rfl, trivial⟩ rfl rfl rfl d_X_build_16 (fun H locs hV => ?_)
  have e_ := Option.some.inj hf
  subst e_
  exact k_iret X rfl hV rfl d_X_build_19
set_option maxHeartbeats 2000000 in
set_option maxRecDepth 20000 in
theorem c_X_build {l : Launch} (D : kD) (h : Nat) (h_here : Nat) (h_kept : Nat) (h_trial : Nat) (h_parts : Nat) (h_text : Nat) (h_sheets : Nat) (h_findings : Nat) (h_here_ground : Nat) (h_here_farms : Nat) (h_here_mountain : Nat) (h_here_farms_kinds : Nat) (h_here_farms_cells : Nat) (h_here_farms_owners : Nat) (h_here_farms_purses : Nat) (v_isKept : Int32) (v_here_month : Int32) (v_here_volume : Int32) (v_here_outs : Int32) (v_here_fed : Int32) (v_here_fedOuts : Int32) (v_here_arePigsTold : Int32) (v_here_farms_number : Int32) (v_here_farms_burnt : Int32) (v_here_farms_purses : Nat → Int32) (v_findings : Nat → Int32) (x1 : Int32) {out : Int32 × Int32 × (Nat → Int32) × (Nat → Int32)} (hf : f_X_build v_here_farms_number v_here_farms_burnt v_here_farms_purses v_findings x1 = some out) : kMi l D y_X_build b_X_build 2 (some .int) { frames := 2, cells := 0, slots := 0, locals := 43 } [.ref h, .int x1] (wd_X_build D h h_here h_kept h_trial h_parts h_text h_sheets h_findings h_here_ground h_here_farms h_here_mountain h_here_farms_kinds h_here_farms_cells h_here_farms_owners h_here_farms_purses v_isKept v_here_month v_here_volume v_here_outs v_here_fed v_here_fedOuts v_here_arePigsTold v_here_farms_number v_here_farms_burnt v_here_farms_purses v_findings) (wd_X_build D h h_here h_kept h_trial h_parts h_text h_sheets h_findings h_here_ground h_here_farms h_here_mountain h_here_farms_kinds h_here_farms_cells h_here_farms_owners h_here_farms_purses v_isKept v_here_month v_here_volume v_here_outs v_here_fed v_here_fedOuts v_here_arePigsTold v_here_farms_number out.2.1 out.2.2.1 out.2.2.2) out.1 :=
  kMi_of (own := "MountainFarms") (plainFor_of_name (by decide)) rfl rfl (fun p e s m args below meth c ls X hV hl => t_X_build X hf hV hl)
set_option maxHeartbeats 2000000 in
set_option maxRecDepth 20000 in
theorem tb_Fa_coinsOf_1 {l : Launch} {p : Program} {e : Env} {s : State} {m : MethodId} {args : Array Value} {below : List Frame} {meth : Method} {c : Code} {D : kD} {wc0 : va_W} {h : Nat} {h_kinds : Nat} {h_cells : Nat} {h_owners : Nat} {h_purses : Nat} {v_number : Int32} {v_burnt : Int32} {v_owners : Nat → Int32} {v_purses : Nat → Int32} {x1 : Int32} {x2 : Int32} {x3 : Int32} {rec1 : Int32 → Int32 → Option (Int32)} {out : Int32} (X : kX p m meth c s args D (va_A wc0 s.heap.size) b_Fa_coinsOf "MountainFarms$Farms" 4 (some .int)) (hrec1 : ∀ (x2 : Int32) (x3 : Int32), rec1 x2 x3 = some out → ∀ (H : Heap) (locs : List Loc) (ls : Array Slot), kV D (va_A wc0 s.heap.size) s (wd_Fa_coinsOf D h h_kinds h_cells h_owners h_purses v_number v_burnt v_owners v_purses) H locs → lv_has ls 4 [(0, .ref h), (1, .int x1), (2, .int x2), (3, .int x3)] → W p l e { frames := 0, cells := 0, slots := 0, locals := 0 } s m args below meth c H locs 0 0 (MQ below (kQi D wc0 (wd_Fa_coinsOf D h h_kinds h_cells h_owners h_purses v_number v_burnt v_owners v_purses) s.heap.size out) args s 0 0 (va_A wc0 s.heap.size)) (F0 m 4 ls [])) (hf : fb_Fa_coinsOf_1 rec1 x1 v_number v_owners v_purses x2 x3 = some out) {H : Heap} {locs : List Loc} (hV : kV D (va_A wc0 s.heap.size) s (wd_Fa_coinsOf D h h_kinds h_cells h_owners h_purses v_number v_burnt v_owners v_purses) H locs) {ls : Array Slot} (hl : lv_has ls 4 [(0, .ref h), (1, .int x1), (2, .int x2), (3, .int x3)]) : W p l e { frames := 0, cells := 0, slots := 0, locals := 0 } s m args below meth c H locs 0 0 (MQ below (kQi D wc0 (wd_Fa_coinsOf D h h_kinds h_cells h_owners h_purses v_number v_burnt v_owners v_purses) s.heap.size out) args s 0 0 (va_A wc0 s.heap.size)) (F0 m 4 ls []) := by
  unfold fb_Fa_coinsOf_1 at hf
  obtain ⟨hx, hb, -⟩ := id X
  refine lv_iload_n hx hb d_Fa_coinsOf_4 rfl (lv_at hl 3 rfl) ?_
  refine lv_aload_n hx hb d_Fa_coinsOf_5 rfl (lv_at hl 0 rfl) ?_
  refine k_get X hV 0 0 4 rfl rfl rfl gw_86 rfl rfl d_Fa_coinsOf_6 ?_
  refine lv_icmp_ge (tgt := 37) hx hb d_Fa_coinsOf_9 (by decide) (fun c_6 => ?_) (fun c_6 => ?_)
  · replace hf := kifp c_6 hf
    refine lv_iload_n hx hb d_Fa_coinsOf_37 rfl (lv_at hl 2 rfl) ?_
    have e_ := Option.some.inj hf
    subst e_
    exact k_iret X rfl hV rfl d_Fa_coinsOf_38
  replace hf := kifn c_6 hf
  refine lv_aload_n hx hb d_Fa_coinsOf_12 rfl (lv_at hl 0 rfl) ?_
  refine k_get X hV 0 0 2 rfl rfl rfl gw_82 rfl rfl d_Fa_coinsOf_13 ?_
  refine lv_iload_n hx hb d_Fa_coinsOf_16 rfl (lv_at hl 3 rfl) ?_
  obtain ⟨h_7, hf⟩ := kidx_some hf
  refine k_iald X hV 1 rfl h_7 rfl d_Fa_coinsOf_17 ?_
  refine lv_iload_n hx hb d_Fa_coinsOf_18 rfl (lv_at hl 1 rfl) ?_
  refine lv_icmp_ne (tgt := 31) hx hb d_Fa_coinsOf_19 (by decide) (fun c_8 => ?_) (fun c_8 => ?_)
  · replace hf := kifn c_8 hf
    refine lv_iinc (v := (x3 + 1)) (lv' := [(3, .int (x3 + 1)), (0, .ref h), (1, .int x1), (2, .int x2)]) hx hb d_Fa_coinsOf_31 hl (k := 3) rfl rfl (by decide) rfl (fun ls hl => ?_)
    refine lv_goto (tgt := 4) hx hb d_Fa_coinsOf_34 (by decide) ?_
    exact hrec1 _ _ hf _ _ _ hV (lv_sub hl [1, 2, 3, 0] rfl)
  replace hf := kifp c_8 hf
  refine lv_iload_n hx hb d_Fa_coinsOf_22 rfl (lv_at hl 2 rfl) ?_
  refine lv_aload_n hx hb d_Fa_coinsOf_23 rfl (lv_at hl 0 rfl) ?_
  refine k_get X hV 0 0 3 rfl rfl rfl gw_84 rfl rfl d_Fa_coinsOf_24 ?_
  refine lv_iload_n hx hb d_Fa_coinsOf_27 rfl (lv_at hl 3 rfl) ?_
  obtain ⟨h_9, hf⟩ := kidx_some hf
  refine k_iald X hV 2 rfl h_9 rfl d_Fa_coinsOf_28 ?_
  refine lv_iadd hx hb d_Fa_coinsOf_29 ?_
  refine k_leti hf (fun x2_10 hf => ?_)
  refine lv_istore_n (lv' := [(2, .int x2_10), (0, .ref h), (1, .int x1), (3, .int x3)]) hx hb d_Fa_coinsOf_30 rfl hl (by decide) rfl (fun ls hl => ?_)
  refine lv_iinc (v := (x3 + 1)) (lv' := [(3, .int (x3 + 1)), (2, .int x2_10), (0, .ref h), (1, .int x1)]) hx hb d_Fa_coinsOf_31 hl (k := 3) rfl rfl (by decide) rfl (fun ls hl => ?_)
  refine lv_goto (tgt := 4) hx hb d_Fa_coinsOf_34 (by decide) ?_
  exact hrec1 _ _ hf _ _ _ hV (lv_sub hl [2, 3, 1, 0] rfl)
set_option maxHeartbeats 2000000 in
set_option maxRecDepth 20000 in
theorem tl_Fa_coinsOf_1 {l : Launch} {p : Program} {e : Env} {s : State} {m : MethodId} {args : Array Value} {below : List Frame} {meth : Method} {c : Code} {D : kD} {wc0 : va_W} {h : Nat} {h_kinds : Nat} {h_cells : Nat} {h_owners : Nat} {h_purses : Nat} {v_number : Int32} {v_burnt : Int32} {v_owners : Nat → Int32} {v_purses : Nat → Int32} {x1 : Int32} {out : Int32} (X : kX p m meth c s args D (va_A wc0 s.heap.size) b_Fa_coinsOf "MountainFarms$Farms" 4 (some .int)) : ∀ (n : Nat) (x2 : Int32) (x3 : Int32), fl_Fa_coinsOf_1 x1 v_number v_owners v_purses n x2 x3 = some out → ∀ (H : Heap) (locs : List Loc) (ls : Array Slot), kV D (va_A wc0 s.heap.size) s (wd_Fa_coinsOf D h h_kinds h_cells h_owners h_purses v_number v_burnt v_owners v_purses) H locs → lv_has ls 4 [(0, .ref h), (1, .int x1), (2, .int x2), (3, .int x3)] → W p l e { frames := 0, cells := 0, slots := 0, locals := 0 } s m args below meth c H locs 0 0 (MQ below (kQi D wc0 (wd_Fa_coinsOf D h h_kinds h_cells h_owners h_purses v_number v_burnt v_owners v_purses) s.heap.size out) args s 0 0 (va_A wc0 s.heap.size)) (F0 m 4 ls []) := by
  intro n
  induction n with
  | zero => intro x2 x3 hf; exact knone hf
  | succ n ih => intro x2 x3 hf H locs ls hV hl; exact tb_Fa_coinsOf_1 X ih hf hV hl
set_option maxHeartbeats 2000000 in
set_option maxRecDepth 20000 in
theorem t_Fa_coinsOf {l : Launch} {p : Program} {e : Env} {s : State} {m : MethodId} {args : Array Value} {below : List Frame} {meth : Method} {c : Code} {D : kD} {wc0 : va_W} {h : Nat} {h_kinds : Nat} {h_cells : Nat} {h_owners : Nat} {h_purses : Nat} {v_number : Int32} {v_burnt : Int32} {v_owners : Nat → Int32} {v_purses : Nat → Int32} {x1 : Int32} {out : Int32} (X : kX p m meth c s args D (va_A wc0 s.heap.size) b_Fa_coinsOf "MountainFarms$Farms" 4 (some .int)) (hf : f_Fa_coinsOf v_number v_owners v_purses x1 = some out) {H : Heap} {locs : List Loc} (hV : kV D (va_A wc0 s.heap.size) s (wd_Fa_coinsOf D h h_kinds h_cells h_owners h_purses v_number v_burnt v_owners v_purses) H locs) {ls : Array Slot} (hl : lv_has ls 4 [(0, .ref h), (1, .int x1)]) : W p l e { frames := 0, cells := 0, slots := 0, locals := 0 } s m args below meth c H locs 0 0 (MQ below (kQi D wc0 (wd_Fa_coinsOf D h h_kinds h_cells h_owners h_purses v_number v_burnt v_owners v_purses) s.heap.size out) args s 0 0 (va_A wc0 s.heap.size)) (F0 m 0 ls []) := by
  unfold f_Fa_coinsOf at hf
  obtain ⟨hx, hb, -⟩ := id X
  refine lv_iconst (v := 0) hx hb d_Fa_coinsOf_0 ic_0 ?_
  refine lv_istore_n (lv' := [(2, .int (0 : Int32)), (0, .ref h), (1, .int x1)]) hx hb d_Fa_coinsOf_1 rfl hl (by decide) rfl (fun ls hl => ?_)
  refine lv_iconst (v := 0) hx hb d_Fa_coinsOf_2 ic_0 ?_
  refine lv_istore_n (lv' := [(3, .int (0 : Int32)), (2, .int (0 : Int32)), (0, .ref h), (1, .int x1)]) hx hb d_Fa_coinsOf_3 rfl hl (by decide) rfl (fun ls hl => ?_)
  exact tl_Fa_coinsOf_1 X _ _ _ hf _ _ _ hV (lv_sub hl [2, 3, 1, 0] rfl)
set_option maxHeartbeats 2000000 in
set_option maxRecDepth 20000 in
theorem c_Fa_coinsOf {l : Launch} (D : kD) (h : Nat) (h_kinds : Nat) (h_cells : Nat) (h_owners : Nat) (h_purses : Nat) (v_number : Int32) (v_burnt : Int32) (v_owners : Nat → Int32) (v_purses : Nat → Int32) (x1 : Int32) {out : Int32} (hf : f_Fa_coinsOf v_number v_owners v_purses x1 = some out) : kMi l D y_Fa_coinsOf b_Fa_coinsOf 4 (some .int) { frames := 0, cells := 0, slots := 0, locals := 0 } [.ref h, .int x1] (wd_Fa_coinsOf D h h_kinds h_cells h_owners h_purses v_number v_burnt v_owners v_purses) (wd_Fa_coinsOf D h h_kinds h_cells h_owners h_purses v_number v_burnt v_owners v_purses) out :=
  kMi_of (own := "MountainFarms$Farms") (plainFor_of_name (by decide)) rfl rfl (fun p e s m args below meth c ls X hV hl => t_Fa_coinsOf X hf hV hl)
set_option maxHeartbeats 2000000 in
set_option maxRecDepth 20000 in
theorem t_X_coins {l : Launch} {p : Program} {e : Env} {s : State} {m : MethodId} {args : Array Value} {below : List Frame} {meth : Method} {c : Code} {D : kD} {wc0 : va_W} {h : Nat} {h_here : Nat} {h_kept : Nat} {h_trial : Nat} {h_parts : Nat} {h_text : Nat} {h_sheets : Nat} {h_findings : Nat} {h_here_ground : Nat} {h_here_farms : Nat} {h_here_mountain : Nat} {h_here_farms_kinds : Nat} {h_here_farms_cells : Nat} {h_here_farms_owners : Nat} {h_here_farms_purses : Nat} {v_isKept : Int32} {v_here_month : Int32} {v_here_volume : Int32} {v_here_outs : Int32} {v_here_fed : Int32} {v_here_fedOuts : Int32} {v_here_arePigsTold : Int32} {v_here_farms_number : Int32} {v_here_farms_burnt : Int32} {v_here_farms_owners : Nat → Int32} {v_here_farms_purses : Nat → Int32} {v_findings : Nat → Int32} {x1 : Int32} {out : Int32 × (Nat → Int32)} (X : kX p m meth c s args D (va_A wc0 s.heap.size) b_X_coins "MountainFarms" 2 (some .int)) (hf : f_X_coins v_here_farms_number v_here_farms_owners v_here_farms_purses v_findings x1 = some out) {H : Heap} {locs : List Loc} (hV : kV D (va_A wc0 s.heap.size) s (wd_X_coins D h h_here h_kept h_trial h_parts h_text h_sheets h_findings h_here_ground h_here_farms h_here_mountain h_here_farms_kinds h_here_farms_cells h_here_farms_owners h_here_farms_purses v_isKept v_here_month v_here_volume v_here_outs v_here_fed v_here_fedOuts v_here_arePigsTold v_here_farms_number v_here_farms_burnt v_here_farms_owners v_here_farms_purses v_findings) H locs) {ls : Array Slot} (hl : lv_has ls 2 [(0, .ref h), (1, .int x1)]) : W p l e { frames := 2, cells := 0, slots := 0, locals := 43 } s m args below meth c H locs 0 0 (MQ below (kQi D wc0 (wd_X_coins D h h_here h_kept h_trial h_parts h_text h_sheets h_findings h_here_ground h_here_farms h_here_mountain h_here_farms_kinds h_here_farms_cells h_here_farms_owners h_here_farms_purses v_isKept v_here_month v_here_volume v_here_outs v_here_fed v_here_fedOuts v_here_arePigsTold v_here_farms_number v_here_farms_burnt v_here_farms_owners v_here_farms_purses out.2) s.heap.size out.1) args s 0 0 (va_A wc0 s.heap.size)) (F0 m 0 ls []) := by
  unfold f_X_coins at hf
  obtain ⟨hx, hb, -⟩ := id X
  refine lv_iload_n hx hb d_X_coins_0 rfl (lv_at hl 1 rfl) ?_
  obtain ⟨r_9, hc_10, hf⟩ := kb1_some hf
  refine k_csi (w1 := (wd_X_isOwner D)) (r := r_9) (ws' := (wd_X_coins D h h_here h_kept h_trial h_parts h_text h_sheets h_findings h_here_ground h_here_farms h_here_mountain h_here_farms_kinds h_here_farms_cells h_here_farms_owners h_here_farms_purses v_isKept v_here_month v_here_volume v_here_outs v_here_fed v_here_fedOuts v_here_arePigsTold v_here_farms_number v_here_farms_burnt v_here_farms_owners v_here_farms_purses v_findings)) X hV hl.1 (c_X_isOwner D x1 hc_10) fk_X_isOwner gw_326 rfl [] [none, none, none, none, none, none] rfl rfl ⟨rfl, rfl, rfl, rfl, rfl, rfl, trivial⟩ rfl rfl rfl d_X_coins_1 (fun H locs hV => ?_)
  refine lv_if_ne (tgt := 13) hx hb d_X_coins_4 (by decide) (fun c_11 => ?_) (fun c_11 => ?_)
  · replace hf := kifn c_11 hf
    refine lv_aload_n hx hb d_X_coins_13 rfl (lv_at hl 0 rfl) ?_
    refine k_get X hV 0 8 0 rfl rfl rfl gw_248 rfl rfl d_X_coins_14 ?_
    refine k_get X hV 1 5 1 rfl rfl rfl gw_140 rfl rfl d_X_coins_17 ?_
    refine lv_iload_n hx hb d_X_coins_20 rfl (lv_at hl 1 rfl) ?_
    obtain ⟨r_12, hc_13, hf⟩ := kb1_some hf
    refine k_cvi (w1 := (wd_Fa_coinsOf D h_here_farms h_here_farms_kinds h_here_farms_cells h_here_farms_owners h_here_farms_purses v_here_farms_number v_here_farms_burnt v_here_farms_owners v_here_farms_purses)) (r := r_12) (ws' := (wd_X_coins D h h_here h_kept h_trial h_parts h_text h_sheets h_findings h_here_ground h_here_farms h_here_mountain h_here_farms_kinds h_here_farms_cells h_here_farms_owners h_here_farms_purses v_isKept v_here_month v_here_volume v_here_outs v_here_fed v_here_fedOuts v_here_arePigsTold v_here_farms_number v_here_farms_burnt v_here_farms_owners v_here_farms_purses v_findings)) X hV hl.1 (c_Fa_coinsOf D h_here_farms h_here_farms_kinds h_here_farms_cells h_here_farms_owners h_here_farms_purses v_here_farms_number v_here_farms_burnt v_here_farms_owners v_here_farms_purses x1 hc_13) fk_Fa_coinsOf gw_387 rfl 2 0 rfl rfl [2, 3, 4] [none, none, some 0, some 1, some 2, none] rfl rfl ⟨rfl, rfl, rfl, rfl, rfl, rfl, rfl, rfl, rfl, rfl, rfl, rfl, trivial⟩ rfl rfl rfl d_X_coins_21 (fun H locs hV => ?_)
    have e_ := Option.some.inj hf
    subst e_
    exact k_iret X rfl hV rfl d_X_coins_24
  replace hf := kifp c_11 hf
  refine lv_aload_n hx hb d_X_coins_7 rfl (lv_at hl 0 rfl) ?_
  refine lv_iconst (v := 0) hx hb d_X_coins_8 ic_0 ?_
  obtain ⟨r_14, v_findings_15, hc_16, hf⟩ := kb2_some hf
  refine k_cvi (w1 := (wd_X_finding D h h_here h_kept h_trial h_parts h_text h_sheets h_findings v_isKept v_findings_15)) (r := r_14) (ws' := (wd_X_coins D h h_here h_kept h_trial h_parts h_text h_sheets h_findings h_here_ground h_here_farms h_here_mountain h_here_farms_kinds h_here_farms_cells h_here_farms_owners h_here_farms_purses v_isKept v_here_month v_here_volume v_here_outs v_here_fed v_here_fedOuts v_here_arePigsTold v_here_farms_number v_here_farms_burnt v_here_farms_owners v_here_farms_purses v_findings_15)) X hV hl.1 (c_X_finding D h h_here h_kept h_trial h_parts h_text h_sheets h_findings v_isKept v_findings (0 : Int32) hc_16) fk_X_finding gw_283 rfl 0 8 rfl rfl [0, 5] [some 0, none, none, none, none, some 1] rfl rfl ⟨rfl, rfl, rfl, rfl, rfl, rfl, rfl, rfl, rfl, rfl, trivial⟩ rfl rfl rfl d_X_coins_9 (fun H locs hV => ?_)
  have e_ := Option.some.inj hf
  subst e_
  exact k_iret X rfl hV rfl d_X_coins_12
set_option maxHeartbeats 2000000 in
set_option maxRecDepth 20000 in
theorem c_X_coins {l : Launch} (D : kD) (h : Nat) (h_here : Nat) (h_kept : Nat) (h_trial : Nat) (h_parts : Nat) (h_text : Nat) (h_sheets : Nat) (h_findings : Nat) (h_here_ground : Nat) (h_here_farms : Nat) (h_here_mountain : Nat) (h_here_farms_kinds : Nat) (h_here_farms_cells : Nat) (h_here_farms_owners : Nat) (h_here_farms_purses : Nat) (v_isKept : Int32) (v_here_month : Int32) (v_here_volume : Int32) (v_here_outs : Int32) (v_here_fed : Int32) (v_here_fedOuts : Int32) (v_here_arePigsTold : Int32) (v_here_farms_number : Int32) (v_here_farms_burnt : Int32) (v_here_farms_owners : Nat → Int32) (v_here_farms_purses : Nat → Int32) (v_findings : Nat → Int32) (x1 : Int32) {out : Int32 × (Nat → Int32)} (hf : f_X_coins v_here_farms_number v_here_farms_owners v_here_farms_purses v_findings x1 = some out) : kMi l D y_X_coins b_X_coins 2 (some .int) { frames := 2, cells := 0, slots := 0, locals := 43 } [.ref h, .int x1] (wd_X_coins D h h_here h_kept h_trial h_parts h_text h_sheets h_findings h_here_ground h_here_farms h_here_mountain h_here_farms_kinds h_here_farms_cells h_here_farms_owners h_here_farms_purses v_isKept v_here_month v_here_volume v_here_outs v_here_fed v_here_fedOuts v_here_arePigsTold v_here_farms_number v_here_farms_burnt v_here_farms_owners v_here_farms_purses v_findings) (wd_X_coins D h h_here h_kept h_trial h_parts h_text h_sheets h_findings h_here_ground h_here_farms h_here_mountain h_here_farms_kinds h_here_farms_cells h_here_farms_owners h_here_farms_purses v_isKept v_here_month v_here_volume v_here_outs v_here_fed v_here_fedOuts v_here_arePigsTold v_here_farms_number v_here_farms_burnt v_here_farms_owners v_here_farms_purses out.2) out.1 :=
  kMi_of (own := "MountainFarms") (plainFor_of_name (by decide)) rfl rfl (fun p e s m args below meth c ls X hV hl => t_X_coins X hf hV hl)
set_option maxHeartbeats 2000000 in
set_option maxRecDepth 20000 in
theorem tb_X_best_1 {l : Launch} {p : Program} {e : Env} {s : State} {m : MethodId} {args : Array Value} {below : List Frame} {meth : Method} {c : Code} {D : kD} {wc0 : va_W} {h : Nat} {h_here : Nat} {h_kept : Nat} {h_trial : Nat} {h_parts : Nat} {h_text : Nat} {h_sheets : Nat} {h_findings : Nat} {h_here_ground : Nat} {h_here_farms : Nat} {h_here_mountain : Nat} {h_here_ground_heights : Nat} {h_here_ground_ages : Nat} {h_here_ground_walls : Nat} {h_here_farms_kinds : Nat} {h_here_farms_cells : Nat} {h_here_farms_owners : Nat} {h_here_farms_purses : Nat} {v_isKept : Int32} {v_here_month : Int32} {v_here_volume : Int32} {v_here_outs : Int32} {v_here_fed : Int32} {v_here_fedOuts : Int32} {v_here_arePigsTold : Int32} {v_here_ground_vent : Int32} {v_here_ground_ash : Int32} {v_here_ground_ages : Nat → Int32} {v_here_farms_number : Int32} {v_here_farms_burnt : Int32} {v_here_farms_cells : Nat → Int32} {v_findings : Nat → Int32} {x2 : Int32} {x3 : Int32} {x4 : Int32} {rec1 : Int32 → Int32 → Option (Int32 × (Nat → Int32))} {out : Int32 × (Nat → Int32)} (X : kX p m meth c s args D (va_A wc0 s.heap.size) b_X_best "MountainFarms" 5 (some .int)) (hrec1 : ∀ (x3 : Int32) (x4 : Int32), rec1 x3 x4 = some out → ∀ (H : Heap) (locs : List Loc) (ls : Array Slot), kV D (va_A wc0 s.heap.size) s (wd_X_best D h h_here h_kept h_trial h_parts h_text h_sheets h_findings h_here_ground h_here_farms h_here_mountain h_here_ground_heights h_here_ground_ages h_here_ground_walls h_here_farms_kinds h_here_farms_cells h_here_farms_owners h_here_farms_purses v_isKept v_here_month v_here_volume v_here_outs v_here_fed v_here_fedOuts v_here_arePigsTold v_here_ground_vent v_here_ground_ash v_here_ground_ages v_here_farms_number v_here_farms_burnt v_here_farms_cells v_findings) H locs → lv_has ls 5 [(0, .ref h), (2, .int x2), (3, .int x3), (4, .int x4)] → W p l e { frames := 2, cells := 0, slots := 0, locals := 46 } s m args below meth c H locs 0 0 (MQ below (kQi D wc0 (wd_X_best D h h_here h_kept h_trial h_parts h_text h_sheets h_findings h_here_ground h_here_farms h_here_mountain h_here_ground_heights h_here_ground_ages h_here_ground_walls h_here_farms_kinds h_here_farms_cells h_here_farms_owners h_here_farms_purses v_isKept v_here_month v_here_volume v_here_outs v_here_fed v_here_fedOuts v_here_arePigsTold v_here_ground_vent v_here_ground_ash v_here_ground_ages v_here_farms_number v_here_farms_burnt v_here_farms_cells out.2) s.heap.size out.1) args s 0 0 (va_A wc0 s.heap.size)) (F0 m 48 ls [])) (hf : fb_X_best_1 rec1 x2 v_here_ground_ash v_findings x3 x4 = some out) {H : Heap} {locs : List Loc} (hV : kV D (va_A wc0 s.heap.size) s (wd_X_best D h h_here h_kept h_trial h_parts h_text h_sheets h_findings h_here_ground h_here_farms h_here_mountain h_here_ground_heights h_here_ground_ages h_here_ground_walls h_here_farms_kinds h_here_farms_cells h_here_farms_owners h_here_farms_purses v_isKept v_here_month v_here_volume v_here_outs v_here_fed v_here_fedOuts v_here_arePigsTold v_here_ground_vent v_here_ground_ash v_here_ground_ages v_here_farms_number v_here_farms_burnt v_here_farms_cells v_findings) H locs) {ls : Array Slot} (hl : lv_has ls 5 [(0, .ref h), (2, .int x2), (3, .int x3), (4, .int x4)]) : W p l e { frames := 2, cells := 0, slots := 0, locals := 46 } s m args below meth c H locs 0 0 (MQ below (kQi D wc0 (wd_X_best D h h_here h_kept h_trial h_parts h_text h_sheets h_findings h_here_ground h_here_farms h_here_mountain h_here_ground_heights h_here_ground_ages h_here_ground_walls h_here_farms_kinds h_here_farms_cells h_here_farms_owners h_here_farms_purses v_isKept v_here_month v_here_volume v_here_outs v_here_fed v_here_fedOuts v_here_arePigsTold v_here_ground_vent v_here_ground_ash v_here_ground_ages v_here_farms_number v_here_farms_burnt v_here_farms_cells out.2) s.heap.size out.1) args s 0 0 (va_A wc0 s.heap.size)) (F0 m 48 ls []) := by
  unfold fb_X_best_1 at hf
  obtain ⟨hx, hb, -⟩ := id X
  refine lv_iload hx hb d_X_best_48 (lv_at hl 3 rfl) ?_
  refine lv_bipush (v := 6) hx hb d_X_best_50 bp_6 ?_
  refine lv_icmp_ge (tgt := 98) hx hb d_X_best_52 (by decide) (fun c_25 => ?_) (fun c_25 => ?_)
  · replace hf := kifp c_25 hf
    refine lv_iload_n hx hb d_X_best_98 rfl (lv_at hl 2 rfl) ?_
    have e_ := Option.some.inj hf
    subst e_
    exact k_iret X rfl hV rfl d_X_best_99
  replace hf := kifn c_25 hf
  refine lv_iload hx hb d_X_best_55 (lv_at hl 3 rfl) ?_
  refine lv_iload_n hx hb d_X_best_57 rfl (lv_at hl 1 rfl) ?_
  refine lv_aload_n hx hb d_X_best_58 rfl (lv_at hl 0 rfl) ?_
  refine k_get X hV 0 8 0 rfl rfl rfl gw_248 rfl rfl d_X_best_59 ?_
  refine k_get X hV 1 5 0 rfl rfl rfl gw_136 rfl rfl d_X_best_62 ?_
  refine k_get X hV 2 1 4 rfl rfl rfl gw_59 rfl rfl d_X_best_65 ?_
  obtain ⟨r_26, hc_27, hf⟩ := kb1_some hf
  refine k_csi (w1 := (wd_X_bearing D)) (r := r_26) (ws' := (wd_X_best D h h_here h_kept h_trial h_parts h_text h_sheets h_findings h_here_ground h_here_farms h_here_mountain h_here_ground_heights h_here_ground_ages h_here_ground_walls h_here_farms_kinds h_here_farms_cells h_here_farms_owners h_here_farms_purses v_isKept v_here_month v_here_volume v_here_outs v_here_fed v_here_fedOuts v_here_arePigsTold v_here_ground_vent v_here_ground_ash v_here_ground_ages v_here_farms_number v_here_farms_burnt v_here_farms_cells v_findings)) X hV hl.1 (c_X_bearing D x4 x2 v_here_ground_ash hc_27) fk_X_bearing gw_396 rfl [] [none, none, none, none, none, none, none] rfl rfl ⟨rfl, rfl, rfl, rfl, rfl, rfl, rfl, trivial⟩ rfl rfl rfl d_X_best_68 (fun H locs hV => ?_)
  refine lv_iload_n hx hb d_X_best_71 rfl (lv_at hl 2 rfl) ?_
  refine lv_iload_n hx hb d_X_best_72 rfl (lv_at hl 1 rfl) ?_
  refine lv_aload_n hx hb d_X_best_73 rfl (lv_at hl 0 rfl) ?_
  refine k_get X hV 0 8 0 rfl rfl rfl gw_248 rfl rfl d_X_best_74 ?_
  refine k_get X hV 1 5 0 rfl rfl rfl gw_136 rfl rfl d_X_best_77 ?_
  refine k_get X hV 2 1 4 rfl rfl rfl gw_59 rfl rfl d_X_best_80 ?_
  obtain ⟨r_28, hc_29, hf⟩ := kb1_some hf
  refine k_csi (w1 := (wd_X_bearing D)) (r := r_28) (ws' := (wd_X_best D h h_here h_kept h_trial h_parts h_text h_sheets h_findings h_here_ground h_here_farms h_here_mountain h_here_ground_heights h_here_ground_ages h_here_ground_walls h_here_farms_kinds h_here_farms_cells h_here_farms_owners h_here_farms_purses v_isKept v_here_month v_here_volume v_here_outs v_here_fed v_here_fedOuts v_here_arePigsTold v_here_ground_vent v_here_ground_ash v_here_ground_ages v_here_farms_number v_here_farms_burnt v_here_farms_cells v_findings)) X hV hl.1 (c_X_bearing D x3 x2 v_here_ground_ash hc_29) fk_X_bearing gw_396 rfl [] [none, none, none, none, none, none, none] rfl rfl ⟨rfl, rfl, rfl, rfl, rfl, rfl, rfl, trivial⟩ rfl rfl rfl d_X_best_83 (fun H locs hV => ?_)
  refine lv_icmp_le (tgt := 92) hx hb d_X_best_86 (by decide) (fun c_30 => ?_) (fun c_30 => ?_)
  · replace hf := kifp c_30 hf
    refine lv_iinc (v := (x4 + 1)) (lv' := [(4, .int (x4 + 1)), (0, .ref h), (2, .int x2), (3, .int x3)]) hx hb d_X_best_92 hl (k := 3) rfl rfl (by decide) rfl (fun ls hl => ?_)
    refine lv_goto (tgt := 48) hx hb d_X_best_95 (by decide) ?_
    exact hrec1 _ _ hf _ _ _ hV (lv_sub hl [1, 2, 3, 0] rfl)
  replace hf := kifn c_30 hf
  refine lv_iload hx hb d_X_best_89 (lv_at hl 3 rfl) ?_
  refine lv_istore_n (lv' := [(3, .int x4), (0, .ref h), (2, .int x2), (4, .int x4)]) hx hb d_X_best_91 rfl hl (by decide) rfl (fun ls hl => ?_)
  refine lv_iinc (v := (x4 + 1)) (lv' := [(4, .int (x4 + 1)), (3, .int x4), (0, .ref h), (2, .int x2)]) hx hb d_X_best_92 hl (k := 3) rfl rfl (by decide) rfl (fun ls hl => ?_)
  refine lv_goto (tgt := 48) hx hb d_X_best_95 (by decide) ?_
  exact hrec1 _ _ hf _ _ _ hV (lv_sub hl [2, 3, 1, 0] rfl)
set_option maxHeartbeats 2000000 in
set_option maxRecDepth 20000 in
theorem tl_X_best_1 {l : Launch} {p : Program} {e : Env} {s : State} {m : MethodId} {args : Array Value} {below : List Frame} {meth : Method} {c : Code} {D : kD} {wc0 : va_W} {h : Nat} {h_here : Nat} {h_kept : Nat} {h_trial : Nat} {h_parts : Nat} {h_text : Nat} {h_sheets : Nat} {h_findings : Nat} {h_here_ground : Nat} {h_here_farms : Nat} {h_here_mountain : Nat} {h_here_ground_heights : Nat} {h_here_ground_ages : Nat} {h_here_ground_walls : Nat} {h_here_farms_kinds : Nat} {h_here_farms_cells : Nat} {h_here_farms_owners : Nat} {h_here_farms_purses : Nat} {v_isKept : Int32} {v_here_month : Int32} {v_here_volume : Int32} {v_here_outs : Int32} {v_here_fed : Int32} {v_here_fedOuts : Int32} {v_here_arePigsTold : Int32} {v_here_ground_vent : Int32} {v_here_ground_ash : Int32} {v_here_ground_ages : Nat → Int32} {v_here_farms_number : Int32} {v_here_farms_burnt : Int32} {v_here_farms_cells : Nat → Int32} {v_findings : Nat → Int32} {x2 : Int32} {out : Int32 × (Nat → Int32)} (X : kX p m meth c s args D (va_A wc0 s.heap.size) b_X_best "MountainFarms" 5 (some .int)) : ∀ (n : Nat) (x3 : Int32) (x4 : Int32), fl_X_best_1 x2 v_here_ground_ash v_findings n x3 x4 = some out → ∀ (H : Heap) (locs : List Loc) (ls : Array Slot), kV D (va_A wc0 s.heap.size) s (wd_X_best D h h_here h_kept h_trial h_parts h_text h_sheets h_findings h_here_ground h_here_farms h_here_mountain h_here_ground_heights h_here_ground_ages h_here_ground_walls h_here_farms_kinds h_here_farms_cells h_here_farms_owners h_here_farms_purses v_isKept v_here_month v_here_volume v_here_outs v_here_fed v_here_fedOuts v_here_arePigsTold v_here_ground_vent v_here_ground_ash v_here_ground_ages v_here_farms_number v_here_farms_burnt v_here_farms_cells v_findings) H locs → lv_has ls 5 [(0, .ref h), (2, .int x2), (3, .int x3), (4, .int x4)] → W p l e { frames := 2, cells := 0, slots := 0, locals := 46 } s m args below meth c H locs 0 0 (MQ below (kQi D wc0 (wd_X_best D h h_here h_kept h_trial h_parts h_text h_sheets h_findings h_here_ground h_here_farms h_here_mountain h_here_ground_heights h_here_ground_ages h_here_ground_walls h_here_farms_kinds h_here_farms_cells h_here_farms_owners h_here_farms_purses v_isKept v_here_month v_here_volume v_here_outs v_here_fed v_here_fedOuts v_here_arePigsTold v_here_ground_vent v_here_ground_ash v_here_ground_ages v_here_farms_number v_here_farms_burnt v_here_farms_cells out.2) s.heap.size out.1) args s 0 0 (va_A wc0 s.heap.size)) (F0 m 48 ls []) := by
  intro n
  induction n with
  | zero => intro x3 x4 hf; exact knone hf
  | succ n ih => intro x3 x4 hf H locs ls hV hl; exact tb_X_best_1 X ih hf hV hl
set_option maxHeartbeats 2000000 in
set_option maxRecDepth 20000 in
theorem t_X_best {l : Launch} {p : Program} {e : Env} {s : State} {m : MethodId} {args : Array Value} {below : List Frame} {meth : Method} {c : Code} {D : kD} {wc0 : va_W} {h : Nat} {h_here : Nat} {h_kept : Nat} {h_trial : Nat} {h_parts : Nat} {h_text : Nat} {h_sheets : Nat} {h_findings : Nat} {h_here_ground : Nat} {h_here_farms : Nat} {h_here_mountain : Nat} {h_here_ground_heights : Nat} {h_here_ground_ages : Nat} {h_here_ground_walls : Nat} {h_here_farms_kinds : Nat} {h_here_farms_cells : Nat} {h_here_farms_owners : Nat} {h_here_farms_purses : Nat} {v_isKept : Int32} {v_here_month : Int32} {v_here_volume : Int32} {v_here_outs : Int32} {v_here_fed : Int32} {v_here_fedOuts : Int32} {v_here_arePigsTold : Int32} {v_here_ground_vent : Int32} {v_here_ground_ash : Int32} {v_here_ground_ages : Nat → Int32} {v_here_farms_number : Int32} {v_here_farms_burnt : Int32} {v_here_farms_cells : Nat → Int32} {v_findings : Nat → Int32} {x1 : Int32} {out : Int32 × (Nat → Int32)} (X : kX p m meth c s args D (va_A wc0 s.heap.size) b_X_best "MountainFarms" 5 (some .int)) (hf : f_X_best v_here_ground_ash v_here_ground_ages v_here_farms_number v_here_farms_cells v_findings x1 = some out) {H : Heap} {locs : List Loc} (hV : kV D (va_A wc0 s.heap.size) s (wd_X_best D h h_here h_kept h_trial h_parts h_text h_sheets h_findings h_here_ground h_here_farms h_here_mountain h_here_ground_heights h_here_ground_ages h_here_ground_walls h_here_farms_kinds h_here_farms_cells h_here_farms_owners h_here_farms_purses v_isKept v_here_month v_here_volume v_here_outs v_here_fed v_here_fedOuts v_here_arePigsTold v_here_ground_vent v_here_ground_ash v_here_ground_ages v_here_farms_number v_here_farms_burnt v_here_farms_cells v_findings) H locs) {ls : Array Slot} (hl : lv_has ls 5 [(0, .ref h), (1, .int x1)]) : W p l e { frames := 2, cells := 0, slots := 0, locals := 46 } s m args below meth c H locs 0 0 (MQ below (kQi D wc0 (wd_X_best D h h_here h_kept h_trial h_parts h_text h_sheets h_findings h_here_ground h_here_farms h_here_mountain h_here_ground_heights h_here_ground_ages h_here_ground_walls h_here_farms_kinds h_here_farms_cells h_here_farms_owners h_here_farms_purses v_isKept v_here_month v_here_volume v_here_outs v_here_fed v_here_fedOuts v_here_arePigsTold v_here_ground_vent v_here_ground_ash v_here_ground_ages v_here_farms_number v_here_farms_burnt v_here_farms_cells out.2) s.heap.size out.1) args s 0 0 (va_A wc0 s.heap.size)) (F0 m 0 ls []) := by
  unfold f_X_best at hf
  obtain ⟨hx, hb, -⟩ := id X
  refine lv_aload_n hx hb d_X_best_0 rfl (lv_at hl 0 rfl) ?_
  refine k_get X hV 0 8 0 rfl rfl rfl gw_248 rfl rfl d_X_best_1 ?_
  refine k_get X hV 1 5 1 rfl rfl rfl gw_140 rfl rfl d_X_best_4 ?_
  refine lv_iload_n hx hb d_X_best_7 rfl (lv_at hl 1 rfl) ?_
  obtain ⟨r_16, hc_17, hf⟩ := kb1_some hf
  refine k_cvi (w1 := (wd_Fa_has D h_here_farms h_here_farms_kinds h_here_farms_cells h_here_farms_owners h_here_farms_purses v_here_farms_number v_here_farms_burnt)) (r := r_16) (ws' := (wd_X_best D h h_here h_kept h_trial h_parts h_text h_sheets h_findings h_here_ground h_here_farms h_here_mountain h_here_ground_heights h_here_ground_ages h_here_ground_walls h_here_farms_kinds h_here_farms_cells h_here_farms_owners h_here_farms_purses v_isKept v_here_month v_here_volume v_here_outs v_here_fed v_here_fedOuts v_here_arePigsTold v_here_ground_vent v_here_ground_ash v_here_ground_ages v_here_farms_number v_here_farms_burnt v_here_farms_cells v_findings)) X hV hl.1 (c_Fa_has D h_here_farms h_here_farms_kinds h_here_farms_cells h_here_farms_owners h_here_farms_purses v_here_farms_number v_here_farms_burnt x1 hc_17) fk_Fa_has gw_342 rfl 4 0 rfl rfl [4] [none, none, none, none, some 0, none, none] rfl rfl ⟨rfl, rfl, rfl, rfl, rfl, rfl, rfl, rfl, rfl, trivial⟩ rfl rfl rfl d_X_best_8 (fun H locs hV => ?_)
  refine lv_if_ne (tgt := 20) hx hb d_X_best_11 (by decide) (fun c_18 => ?_) (fun c_18 => ?_)
  · replace hf := kifn c_18 hf
    refine lv_aload_n hx hb d_X_best_20 rfl (lv_at hl 0 rfl) ?_
    refine k_get X hV 0 8 0 rfl rfl rfl gw_248 rfl rfl d_X_best_21 ?_
    refine k_get X hV 1 5 0 rfl rfl rfl gw_136 rfl rfl d_X_best_24 ?_
    refine lv_aload_n hx hb d_X_best_27 rfl (lv_at hl 0 rfl) ?_
    refine k_get X hV 0 8 0 rfl rfl rfl gw_248 rfl rfl d_X_best_28 ?_
    refine k_get X hV 1 5 1 rfl rfl rfl gw_140 rfl rfl d_X_best_31 ?_
    refine k_get X hV 4 0 1 rfl rfl rfl gw_81 rfl rfl d_X_best_34 ?_
    refine lv_iload_n hx hb d_X_best_37 rfl (lv_at hl 1 rfl) ?_
    obtain ⟨h_19, hf⟩ := kidx_some hf
    refine k_iald X hV 5 rfl h_19 rfl d_X_best_38 ?_
    obtain ⟨r_20, hc_21, hf⟩ := kb1_some hf
    refine k_cvi (w1 := (wd_Gr_ageOf D h_here_ground h_here_ground_heights h_here_ground_ages h_here_ground_walls v_here_ground_vent v_here_ground_ash v_here_ground_ages)) (r := r_20) (ws' := (wd_X_best D h h_here h_kept h_trial h_parts h_text h_sheets h_findings h_here_ground h_here_farms h_here_mountain h_here_ground_heights h_here_ground_ages h_here_ground_walls h_here_farms_kinds h_here_farms_cells h_here_farms_owners h_here_farms_purses v_isKept v_here_month v_here_volume v_here_outs v_here_fed v_here_fedOuts v_here_arePigsTold v_here_ground_vent v_here_ground_ash v_here_ground_ages v_here_farms_number v_here_farms_burnt v_here_farms_cells v_findings)) X hV hl.1 (c_Gr_ageOf D h_here_ground h_here_ground_heights h_here_ground_ages h_here_ground_walls v_here_ground_vent v_here_ground_ash v_here_ground_ages (v_here_farms_cells x1.toNatClampNeg) hc_21) fk_Gr_ageOf gw_395 rfl 2 1 rfl rfl [2, 3] [none, none, some 0, some 1, none, none, none] rfl rfl ⟨rfl, rfl, rfl, rfl, rfl, rfl, rfl, rfl, rfl, rfl, rfl, trivial⟩ rfl rfl rfl d_X_best_39 (fun H locs hV => ?_)
    refine lv_istore_n (lv' := [(2, .int r_20), (0, .ref h), (1, .int x1)]) hx hb d_X_best_42 rfl hl (by decide) rfl (fun ls hl => ?_)
    refine lv_iconst (v := 0) hx hb d_X_best_43 ic_0 ?_
    refine lv_istore_n (lv' := [(3, .int (0 : Int32)), (2, .int r_20), (0, .ref h), (1, .int x1)]) hx hb d_X_best_44 rfl hl (by decide) rfl (fun ls hl => ?_)
    refine lv_iconst (v := 1) hx hb d_X_best_45 ic_1 ?_
    refine lv_istore (lv' := [(4, .int (1 : Int32)), (3, .int (0 : Int32)), (2, .int r_20), (0, .ref h), (1, .int x1)]) hx hb d_X_best_46 hl (by decide) rfl (fun ls hl => ?_)
    exact tl_X_best_1 X _ _ _ hf _ _ _ hV (lv_sub hl [3, 2, 1, 0] rfl)
  replace hf := kifp c_18 hf
  refine lv_aload_n hx hb d_X_best_14 rfl (lv_at hl 0 rfl) ?_
  refine lv_iconst (v := 0) hx hb d_X_best_15 ic_0 ?_
  obtain ⟨r_22, v_findings_23, hc_24, hf⟩ := kb2_some hf
  refine k_cvi (w1 := (wd_X_finding D h h_here h_kept h_trial h_parts h_text h_sheets h_findings v_isKept v_findings_23)) (r := r_22) (ws' := (wd_X_best D h h_here h_kept h_trial h_parts h_text h_sheets h_findings h_here_ground h_here_farms h_here_mountain h_here_ground_heights h_here_ground_ages h_here_ground_walls h_here_farms_kinds h_here_farms_cells h_here_farms_owners h_here_farms_purses v_isKept v_here_month v_here_volume v_here_outs v_here_fed v_here_fedOuts v_here_arePigsTold v_here_ground_vent v_here_ground_ash v_here_ground_ages v_here_farms_number v_here_farms_burnt v_here_farms_cells v_findings_23)) X hV hl.1 (c_X_finding D h h_here h_kept h_trial h_parts h_text h_sheets h_findings v_isKept v_findings (0 : Int32) hc_24) fk_X_finding gw_283 rfl 0 8 rfl rfl [0, 6] [some 0, none, none, none, none, none, some 1] rfl rfl ⟨rfl, rfl, rfl, rfl, rfl, rfl, rfl, rfl, rfl, rfl, rfl, trivial⟩ rfl rfl rfl d_X_best_16 (fun H locs hV => ?_)
  have e_ := Option.some.inj hf
  subst e_
  exact k_iret X rfl hV rfl d_X_best_19
set_option maxHeartbeats 2000000 in
set_option maxRecDepth 20000 in
theorem c_X_best {l : Launch} (D : kD) (h : Nat) (h_here : Nat) (h_kept : Nat) (h_trial : Nat) (h_parts : Nat) (h_text : Nat) (h_sheets : Nat) (h_findings : Nat) (h_here_ground : Nat) (h_here_farms : Nat) (h_here_mountain : Nat) (h_here_ground_heights : Nat) (h_here_ground_ages : Nat) (h_here_ground_walls : Nat) (h_here_farms_kinds : Nat) (h_here_farms_cells : Nat) (h_here_farms_owners : Nat) (h_here_farms_purses : Nat) (v_isKept : Int32) (v_here_month : Int32) (v_here_volume : Int32) (v_here_outs : Int32) (v_here_fed : Int32) (v_here_fedOuts : Int32) (v_here_arePigsTold : Int32) (v_here_ground_vent : Int32) (v_here_ground_ash : Int32) (v_here_ground_ages : Nat → Int32) (v_here_farms_number : Int32) (v_here_farms_burnt : Int32) (v_here_farms_cells : Nat → Int32) (v_findings : Nat → Int32) (x1 : Int32) {out : Int32 × (Nat → Int32)} (hf : f_X_best v_here_ground_ash v_here_ground_ages v_here_farms_number v_here_farms_cells v_findings x1 = some out) : kMi l D y_X_best b_X_best 5 (some .int) { frames := 2, cells := 0, slots := 0, locals := 46 } [.ref h, .int x1] (wd_X_best D h h_here h_kept h_trial h_parts h_text h_sheets h_findings h_here_ground h_here_farms h_here_mountain h_here_ground_heights h_here_ground_ages h_here_ground_walls h_here_farms_kinds h_here_farms_cells h_here_farms_owners h_here_farms_purses v_isKept v_here_month v_here_volume v_here_outs v_here_fed v_here_fedOuts v_here_arePigsTold v_here_ground_vent v_here_ground_ash v_here_ground_ages v_here_farms_number v_here_farms_burnt v_here_farms_cells v_findings) (wd_X_best D h h_here h_kept h_trial h_parts h_text h_sheets h_findings h_here_ground h_here_farms h_here_mountain h_here_ground_heights h_here_ground_ages h_here_ground_walls h_here_farms_kinds h_here_farms_cells h_here_farms_owners h_here_farms_purses v_isKept v_here_month v_here_volume v_here_outs v_here_fed v_here_fedOuts v_here_arePigsTold v_here_ground_vent v_here_ground_ash v_here_ground_ages v_here_farms_number v_here_farms_burnt v_here_farms_cells out.2) out.1 :=
  kMi_of (own := "MountainFarms") (plainFor_of_name (by decide)) rfl rfl (fun p e s m args below meth c ls X hV hl => t_X_best X hf hV hl)
set_option maxHeartbeats 2000000 in
set_option maxRecDepth 20000 in
theorem t_X_harvest_1 {l : Launch} {p : Program} {e : Env} {s : State} {m : MethodId} {args : Array Value} {below : List Frame} {meth : Method} {c : Code} {D : kD} {wc0 : va_W} {h : Nat} {h_here : Nat} {h_kept : Nat} {h_trial : Nat} {h_parts : Nat} {h_text : Nat} {h_sheets : Nat} {h_findings : Nat} {h_here_ground : Nat} {h_here_farms : Nat} {h_here_mountain : Nat} {h_here_ground_heights : Nat} {h_here_ground_ages : Nat} {h_here_ground_walls : Nat} {v_isKept : Int32} {v_here_month : Int32} {v_here_volume : Int32} {v_here_outs : Int32} {v_here_fed : Int32} {v_here_fedOuts : Int32} {v_here_arePigsTold : Int32} {v_here_ground_vent : Int32} {v_here_ground_ash : Int32} {v_here_ground_ages : Nat → Int32} {v_findings : Nat → Int32} {out : Int32 × (Nat → Int32)} (X : kX p m meth c s args D (va_A wc0 s.heap.size) b_X_harvest "MountainFarms" 8 (some .int)) (hf : f_X_harvest_1 v_findings = some out) {H : Heap} {locs : List Loc} (hV : kV D (va_A wc0 s.heap.size) s (wd_X_harvest D h h_here h_kept h_trial h_parts h_text h_sheets h_findings h_here_ground h_here_farms h_here_mountain h_here_ground_heights h_here_ground_ages h_here_ground_walls v_isKept v_here_month v_here_volume v_here_outs v_here_fed v_here_fedOuts v_here_arePigsTold v_here_ground_vent v_here_ground_ash v_here_ground_ages v_findings) H locs) {ls : Array Slot} (hl : lv_has ls 8 [(0, .ref h)]) : W p l e { frames := 2, cells := 0, slots := 0, locals := 46 } s m args below meth c H locs 0 0 (MQ below (kQi D wc0 (wd_X_harvest D h h_here h_kept h_trial h_parts h_text h_sheets h_findings h_here_ground h_here_farms h_here_mountain h_here_ground_heights h_here_ground_ages h_here_ground_walls v_isKept v_here_month v_here_volume v_here_outs v_here_fed v_here_fedOuts v_here_arePigsTold v_here_ground_vent v_here_ground_ash v_here_ground_ages out.2) s.heap.size out.1) args s 0 0 (va_A wc0 s.heap.size)) (F0 m 24 ls []) := by
  unfold f_X_harvest_1 at hf
  obtain ⟨hx, hb, -⟩ := id X
  refine lv_aload_n hx hb d_X_harvest_24 rfl (lv_at hl 0 rfl) ?_
  refine lv_iconst (v := 0) hx hb d_X_harvest_25 ic_0 ?_
  obtain ⟨r_31, v_findings_32, hc_33, hf⟩ := kb2_some hf
  refine k_cvi (w1 := (wd_X_finding D h h_here h_kept h_trial h_parts h_text h_sheets h_findings v_isKept v_findings_32)) (r := r_31) (ws' := (wd_X_harvest D h h_here h_kept h_trial h_parts h_text h_sheets h_findings h_here_ground h_here_farms h_here_mountain h_here_ground_heights h_here_ground_ages h_here_ground_walls v_isKept v_here_month v_here_volume v_here_outs v_here_fed v_here_fedOuts v_here_arePigsTold v_here_ground_vent v_here_ground_ash v_here_ground_ages v_findings_32)) X hV hl.1 (c_X_finding D h h_here h_kept h_trial h_parts h_text h_sheets h_findings v_isKept v_findings (0 : Int32) hc_33) fk_X_finding gw_283 rfl 0 8 rfl rfl [0, 4] [some 0, none, none, none, some 1] rfl rfl ⟨rfl, rfl, rfl, rfl, rfl, rfl, rfl, rfl, rfl, trivial⟩ rfl rfl rfl d_X_harvest_26 (fun H locs hV => ?_)
  have e_ := Option.some.inj hf
  subst e_
  exact k_iret X rfl hV rfl d_X_harvest_29
set_option maxHeartbeats 2000000 in
set_option maxRecDepth 20000 in
theorem tb_X_harvest_2 {l : Launch} {p : Program} {e : Env} {s : State} {m : MethodId} {args : Array Value} {below : List Frame} {meth : Method} {c : Code} {D : kD} {wc0 : va_W} {h : Nat} {h_here : Nat} {h_kept : Nat} {h_trial : Nat} {h_parts : Nat} {h_text : Nat} {h_sheets : Nat} {h_findings : Nat} {h_here_ground : Nat} {h_here_farms : Nat} {h_here_mountain : Nat} {h_here_ground_heights : Nat} {h_here_ground_ages : Nat} {h_here_ground_walls : Nat} {v_isKept : Int32} {v_here_month : Int32} {v_here_volume : Int32} {v_here_outs : Int32} {v_here_fed : Int32} {v_here_fedOuts : Int32} {v_here_arePigsTold : Int32} {v_here_ground_vent : Int32} {v_here_ground_ash : Int32} {v_here_ground_ages : Nat → Int32} {v_findings : Nat → Int32} {x1 : Int32} {x2 : Int32} {x3 : Int32} {x4 : Int32} {x5 : Int32} {rec2 : Int32 → Int32 → Option (Int32 × (Nat → Int32))} {out : Int32 × (Nat → Int32)} (X : kX p m meth c s args D (va_A wc0 s.heap.size) b_X_harvest "MountainFarms" 8 (some .int)) (hrec2 : ∀ (x4 : Int32) (x5 : Int32), rec2 x4 x5 = some out → ∀ (H : Heap) (locs : List Loc) (ls : Array Slot), kV D (va_A wc0 s.heap.size) s (wd_X_harvest D h h_here h_kept h_trial h_parts h_text h_sheets h_findings h_here_ground h_here_farms h_here_mountain h_here_ground_heights h_here_ground_ages h_here_ground_walls v_isKept v_here_month v_here_volume v_here_outs v_here_fed v_here_fedOuts v_here_arePigsTold v_here_ground_vent v_here_ground_ash v_here_ground_ages v_findings) H locs → lv_has ls 8 [(0, .ref h), (1, .int x1), (2, .int x2), (3, .int x3), (4, .int x4), (5, .int x5)] → W p l e { frames := 2, cells := 0, slots := 0, locals := 46 } s m args below meth c H locs 0 0 (MQ below (kQi D wc0 (wd_X_harvest D h h_here h_kept h_trial h_parts h_text h_sheets h_findings h_here_ground h_here_farms h_here_mountain h_here_ground_heights h_here_ground_ages h_here_ground_walls v_isKept v_here_month v_here_volume v_here_outs v_here_fed v_here_fedOuts v_here_arePigsTold v_here_ground_vent v_here_ground_ash v_here_ground_ages out.2) s.heap.size out.1) args s 0 0 (va_A wc0 s.heap.size)) (F0 m 36 ls [])) (hf : fb_X_harvest_2 rec2 x1 x2 x3 v_here_ground_ash v_here_ground_ages v_findings x4 x5 = some out) {H : Heap} {locs : List Loc} (hV : kV D (va_A wc0 s.heap.size) s (wd_X_harvest D h h_here h_kept h_trial h_parts h_text h_sheets h_findings h_here_ground h_here_farms h_here_mountain h_here_ground_heights h_here_ground_ages h_here_ground_walls v_isKept v_here_month v_here_volume v_here_outs v_here_fed v_here_fedOuts v_here_arePigsTold v_here_ground_vent v_here_ground_ash v_here_ground_ages v_findings) H locs) {ls : Array Slot} (hl : lv_has ls 8 [(0, .ref h), (1, .int x1), (2, .int x2), (3, .int x3), (4, .int x4), (5, .int x5)]) : W p l e { frames := 2, cells := 0, slots := 0, locals := 46 } s m args below meth c H locs 0 0 (MQ below (kQi D wc0 (wd_X_harvest D h h_here h_kept h_trial h_parts h_text h_sheets h_findings h_here_ground h_here_farms h_here_mountain h_here_ground_heights h_here_ground_ages h_here_ground_walls v_isKept v_here_month v_here_volume v_here_outs v_here_fed v_here_fedOuts v_here_arePigsTold v_here_ground_vent v_here_ground_ash v_here_ground_ages out.2) s.heap.size out.1) args s 0 0 (va_A wc0 s.heap.size)) (F0 m 36 ls []) := by
  unfold fb_X_harvest_2 at hf
  obtain ⟨hx, hb, -⟩ := id X
  refine lv_iload hx hb d_X_harvest_36 (lv_at hl 5 rfl) ?_
  refine lv_iload_n hx hb d_X_harvest_38 rfl (lv_at hl 3 rfl) ?_
  refine lv_icmp_ge (tgt := 102) hx hb d_X_harvest_39 (by decide) (fun c_34 => ?_) (fun c_34 => ?_)
  · replace hf := kifp c_34 hf
    refine lv_iload hx hb d_X_harvest_102 (lv_at hl 4 rfl) ?_
    have e_ := Option.some.inj hf
    subst e_
    exact k_iret X rfl hV rfl d_X_harvest_104
  replace hf := kifn c_34 hf
  refine lv_bipush (v := 99) hx hb d_X_harvest_42 bp_99 ?_
  refine lv_aload_n hx hb d_X_harvest_44 rfl (lv_at hl 0 rfl) ?_
  refine k_get X hV 0 8 0 rfl rfl rfl gw_248 rfl rfl d_X_harvest_45 ?_
  refine k_get X hV 1 5 0 rfl rfl rfl gw_136 rfl rfl d_X_harvest_48 ?_
  refine lv_iload_n hx hb d_X_harvest_51 rfl (lv_at hl 2 rfl) ?_
  obtain ⟨r_35, hc_36, hf⟩ := kb1_some hf
  refine k_cvi (w1 := (wd_Gr_ageOf D h_here_ground h_here_ground_heights h_here_ground_ages h_here_ground_walls v_here_ground_vent v_here_ground_ash v_here_ground_ages)) (r := r_35) (ws' := (wd_X_harvest D h h_here h_kept h_trial h_parts h_text h_sheets h_findings h_here_ground h_here_farms h_here_mountain h_here_ground_heights h_here_ground_ages h_here_ground_walls v_isKept v_here_month v_here_volume v_here_outs v_here_fed v_here_fedOuts v_here_arePigsTold v_here_ground_vent v_here_ground_ash v_here_ground_ages v_findings)) X hV hl.1 (c_Gr_ageOf D h_here_ground h_here_ground_heights h_here_ground_ages h_here_ground_walls v_here_ground_vent v_here_ground_ash v_here_ground_ages x2 hc_36) fk_Gr_ageOf gw_395 rfl 2 1 rfl rfl [2, 3] [none, none, some 0, some 1, none] rfl rfl ⟨rfl, rfl, rfl, rfl, rfl, rfl, rfl, rfl, rfl, trivial⟩ rfl rfl rfl d_X_harvest_52 (fun H locs hV => ?_)
  refine lv_iload hx hb d_X_harvest_55 (lv_at hl 5 rfl) ?_
  refine lv_iadd hx hb d_X_harvest_57 ?_
  obtain ⟨r_37, hc_38, hf⟩ := kb1_some hf
  refine k_csi (w1 := (wd_Ma_min D)) (r := r_37) (ws' := (wd_X_harvest D h h_here h_kept h_trial h_parts h_text h_sheets h_findings h_here_ground h_here_farms h_here_mountain h_here_ground_heights h_here_ground_ages h_here_ground_walls v_isKept v_here_month v_here_volume v_here_outs v_here_fed v_here_fedOuts v_here_arePigsTold v_here_ground_vent v_here_ground_ash v_here_ground_ages v_findings)) X hV hl.1 (c_Ma_min D (99 : Int32) (r_35 + x5) hc_38) fk_Ma_min gw_363 rfl [] [none, none, none, none, none] rfl rfl ⟨rfl, rfl, rfl, rfl, rfl, trivial⟩ rfl rfl rfl d_X_harvest_58 (fun H locs hV => ?_)
  refine lv_istore (lv' := [(6, .int r_37), (0, .ref h), (1, .int x1), (2, .int x2), (3, .int x3), (4, .int x4), (5, .int x5)]) hx hb d_X_harvest_61 hl (by decide) rfl (fun ls hl => ?_)
  refine lv_bipush (v := 99) hx hb d_X_harvest_63 bp_99 ?_
  refine lv_aload_n hx hb d_X_harvest_65 rfl (lv_at hl 1 rfl) ?_
  refine k_get X hV 0 8 0 rfl rfl rfl gw_248 rfl rfl d_X_harvest_66 ?_
  refine k_get X hV 1 5 0 rfl rfl rfl gw_136 rfl rfl d_X_harvest_69 ?_
  refine k_get X hV 2 1 4 rfl rfl rfl gw_59 rfl rfl d_X_harvest_72 ?_
  refine lv_iload hx hb d_X_harvest_75 (lv_at hl 6 rfl) ?_
  refine lv_iadd hx hb d_X_harvest_77 ?_
  obtain ⟨r_39, hc_40, hf⟩ := kb1_some hf
  refine k_csi (w1 := (wd_Ma_min D)) (r := r_39) (ws' := (wd_X_harvest D h h_here h_kept h_trial h_parts h_text h_sheets h_findings h_here_ground h_here_farms h_here_mountain h_here_ground_heights h_here_ground_ages h_here_ground_walls v_isKept v_here_month v_here_volume v_here_outs v_here_fed v_here_fedOuts v_here_arePigsTold v_here_ground_vent v_here_ground_ash v_here_ground_ages v_findings)) X hV hl.1 (c_Ma_min D (99 : Int32) (v_here_ground_ash + x5) hc_40) fk_Ma_min gw_363 rfl [] [none, none, none, none, none] rfl rfl ⟨rfl, rfl, rfl, rfl, rfl, trivial⟩ rfl rfl rfl d_X_harvest_78 (fun H locs hV => ?_)
  refine lv_istore (lv' := [(7, .int r_39), (6, .int r_37), (0, .ref h), (1, .int x1), (2, .int x2), (3, .int x3), (4, .int x4), (5, .int x5)]) hx hb d_X_harvest_81 hl (by decide) rfl (fun ls hl => ?_)
  refine lv_iload hx hb d_X_harvest_83 (lv_at hl 6 rfl) ?_
  refine lv_iload_n hx hb d_X_harvest_85 rfl (lv_at hl 3 rfl) ?_
  refine lv_iload hx hb d_X_harvest_86 (lv_at hl 1 rfl) ?_
  refine lv_iload hx hb d_X_harvest_88 (lv_at hl 0 rfl) ?_
  obtain ⟨r_41, hc_42, hf⟩ := kb1_some hf
  refine k_csi (w1 := (wd_X_bearing D)) (r := r_41) (ws' := (wd_X_harvest D h h_here h_kept h_trial h_parts h_text h_sheets h_findings h_here_ground h_here_farms h_here_mountain h_here_ground_heights h_here_ground_ages h_here_ground_walls v_isKept v_here_month v_here_volume v_here_outs v_here_fed v_here_fedOuts v_here_arePigsTold v_here_ground_vent v_here_ground_ash v_here_ground_ages v_findings)) X hV hl.1 (c_X_bearing D x1 r_37 r_39 hc_42) fk_X_bearing gw_396 rfl [] [none, none, none, none, none] rfl rfl ⟨rfl, rfl, rfl, rfl, rfl, trivial⟩ rfl rfl rfl d_X_harvest_90 (fun H locs hV => ?_)
  refine lv_iadd hx hb d_X_harvest_93 ?_
  refine lv_istore (lv' := [(4, .int (x4 + r_41)), (7, .int r_39), (6, .int r_37), (0, .ref h), (1, .int x1), (2, .int x2), (3, .int x3), (5, .int x5)]) hx hb d_X_harvest_94 hl (by decide) rfl (fun ls hl => ?_)
  refine lv_iinc (v := (x5 + 1)) (lv' := [(5, .int (x5 + 1)), (4, .int (x4 + r_41)), (7, .int r_39), (6, .int r_37), (0, .ref h), (1, .int x1), (2, .int x2), (3, .int x3)]) hx hb d_X_harvest_96 hl (k := 7) rfl rfl (by decide) rfl (fun ls hl => ?_)
  refine lv_goto (tgt := 36) hx hb d_X_harvest_99 (by decide) ?_
  exact hrec2 _ _ hf _ _ _ hV (lv_sub hl [4, 5, 6, 7, 1, 0] rfl)
set_option maxHeartbeats 2000000 in
set_option maxRecDepth 20000 in
theorem tl_X_harvest_2 {l : Launch} {p : Program} {e : Env} {s : State} {m : MethodId} {args : Array Value} {below : List Frame} {meth : Method} {c : Code} {D : kD} {wc0 : va_W} {h : Nat} {h_here : Nat} {h_kept : Nat} {h_trial : Nat} {h_parts : Nat} {h_text : Nat} {h_sheets : Nat} {h_findings : Nat} {h_here_ground : Nat} {h_here_farms : Nat} {h_here_mountain : Nat} {h_here_ground_heights : Nat} {h_here_ground_ages : Nat} {h_here_ground_walls : Nat} {v_isKept : Int32} {v_here_month : Int32} {v_here_volume : Int32} {v_here_outs : Int32} {v_here_fed : Int32} {v_here_fedOuts : Int32} {v_here_arePigsTold : Int32} {v_here_ground_vent : Int32} {v_here_ground_ash : Int32} {v_here_ground_ages : Nat → Int32} {v_findings : Nat → Int32} {x1 : Int32} {x2 : Int32} {x3 : Int32} {out : Int32 × (Nat → Int32)} (X : kX p m meth c s args D (va_A wc0 s.heap.size) b_X_harvest "MountainFarms" 8 (some .int)) : ∀ (n : Nat) (x4 : Int32) (x5 : Int32), fl_X_harvest_2 x1 x2 x3 v_here_ground_ash v_here_ground_ages v_findings n x4 x5 = some out → ∀ (H : Heap) (locs : List Loc) (ls : Array Slot), kV D (va_A wc0 s.heap.size) s (wd_X_harvest D h h_here h_kept h_trial h_parts h_text h_sheets h_findings h_here_ground h_here_farms h_here_mountain h_here_ground_heights h_here_ground_ages h_here_ground_walls v_isKept v_here_month v_here_volume v_here_outs v_here_fed v_here_fedOuts v_here_arePigsTold v_here_ground_vent v_here_ground_ash v_here_ground_ages v_findings) H locs → lv_has ls 8 [(0, .ref h), (1, .int x1), (2, .int x2), (3, .int x3), (4, .int x4), (5, .int x5)] → W p l e { frames := 2, cells := 0, slots := 0, locals := 46 } s m args below meth c H locs 0 0 (MQ below (kQi D wc0 (wd_X_harvest D h h_here h_kept h_trial h_parts h_text h_sheets h_findings h_here_ground h_here_farms h_here_mountain h_here_ground_heights h_here_ground_ages h_here_ground_walls v_isKept v_here_month v_here_volume v_here_outs v_here_fed v_here_fedOuts v_here_arePigsTold v_here_ground_vent v_here_ground_ash v_here_ground_ages out.2) s.heap.size out.1) args s 0 0 (va_A wc0 s.heap.size)) (F0 m 36 ls []) := by
  intro n
  induction n with
  | zero => intro x4 x5 hf; exact knone hf
  | succ n ih => intro x4 x5 hf H locs ls hV hl; exact tb_X_harvest_2 X ih hf hV hl
set_option maxHeartbeats 2000000 in
set_option maxRecDepth 20000 in
theorem t_X_harvest {l : Launch} {p : Program} {e : Env} {s : State} {m : MethodId} {args : Array Value} {below : List Frame} {meth : Method} {c : Code} {D : kD} {wc0 : va_W} {h : Nat} {h_here : Nat} {h_kept : Nat} {h_trial : Nat} {h_parts : Nat} {h_text : Nat} {h_sheets : Nat} {h_findings : Nat} {h_here_ground : Nat} {h_here_farms : Nat} {h_here_mountain : Nat} {h_here_ground_heights : Nat} {h_here_ground_ages : Nat} {h_here_ground_walls : Nat} {v_isKept : Int32} {v_here_month : Int32} {v_here_volume : Int32} {v_here_outs : Int32} {v_here_fed : Int32} {v_here_fedOuts : Int32} {v_here_arePigsTold : Int32} {v_here_ground_vent : Int32} {v_here_ground_ash : Int32} {v_here_ground_ages : Nat → Int32} {v_findings : Nat → Int32} {x1 : Int32} {x2 : Int32} {x3 : Int32} {out : Int32 × (Nat → Int32)} (X : kX p m meth c s args D (va_A wc0 s.heap.size) b_X_harvest "MountainFarms" 8 (some .int)) (hf : f_X_harvest v_here_ground_ash v_here_ground_ages v_findings x1 x2 x3 = some out) {H : Heap} {locs : List Loc} (hV : kV D (va_A wc0 s.heap.size) s (wd_X_harvest D h h_here h_kept h_trial h_parts h_text h_sheets h_findings h_here_ground h_here_farms h_here_mountain h_here_ground_heights h_here_ground_ages h_here_ground_walls v_isKept v_here_month v_here_volume v_here_outs v_here_fed v_here_fedOuts v_here_arePigsTold v_here_ground_vent v_here_ground_ash v_here_ground_ages v_findings) H locs) {ls : Array Slot} (hl : lv_has ls 8 [(0, .ref h), (1, .int x1), (2, .int x2), (3, .int x3)]) : W p l e { frames := 2, cells := 0, slots := 0, locals := 46 } s m args below meth c H locs 0 0 (MQ below (kQi D wc0 (wd_X_harvest D h h_here h_kept h_trial h_parts h_text h_sheets h_findings h_here_ground h_here_farms h_here_mountain h_here_ground_heights h_here_ground_ages h_here_ground_walls v_isKept v_here_month v_here_volume v_here_outs v_here_fed v_here_fedOuts v_here_arePigsTold v_here_ground_vent v_here_ground_ash v_here_ground_ages out.2) s.heap.size out.1) args s 0 0 (va_A wc0 s.heap.size)) (F0 m 0 ls []) := by
  unfold f_X_harvest at hf
  obtain ⟨hx, hb, -⟩ := id X
  refine lv_iload_n hx hb d_X_harvest_0 rfl (lv_at hl 1 rfl) ?_
  obtain ⟨r_22, hc_23, hf⟩ := kb1_some hf
  refine k_csi (w1 := (wd_X_isKind D)) (r := r_22) (ws' := (wd_X_harvest D h h_here h_kept h_trial h_parts h_text h_sheets h_findings h_here_ground h_here_farms h_here_mountain h_here_ground_heights h_here_ground_ages h_here_ground_walls v_isKept v_here_month v_here_volume v_here_outs v_here_fed v_here_fedOuts v_here_arePigsTold v_here_ground_vent v_here_ground_ash v_here_ground_ages v_findings)) X hV hl.1 (c_X_isKind D x1 hc_23) fk_X_isKind gw_323 rfl [] [none, none, none, none, none] rfl rfl ⟨rfl, rfl, rfl, rfl, rfl, trivial⟩ rfl rfl rfl d_X_harvest_1 (fun H locs hV => ?_)
  refine lv_if_eq (tgt := 24) hx hb d_X_harvest_4 (by decide) (fun c_24 => ?_) (fun c_24 => ?_)
  · replace hf := kifp c_24 hf
    exact t_X_harvest_1 X hf hV (lv_sub hl [0] rfl)
  replace hf := kifn c_24 hf
  refine lv_iload_n hx hb d_X_harvest_7 rfl (lv_at hl 2 rfl) ?_
  obtain ⟨r_25, hc_26, hf⟩ := kb1_some hf
  refine k_csi (w1 := (wd_X_isCell D)) (r := r_25) (ws' := (wd_X_harvest D h h_here h_kept h_trial h_parts h_text h_sheets h_findings h_here_ground h_here_farms h_here_mountain h_here_ground_heights h_here_ground_ages h_here_ground_walls v_isKept v_here_month v_here_volume v_here_outs v_here_fed v_here_fedOuts v_here_arePigsTold v_here_ground_vent v_here_ground_ash v_here_ground_ages v_findings)) X hV hl.1 (c_X_isCell D x2 hc_26) fk_X_isCell gw_277 rfl [] [none, none, none, none, none] rfl rfl ⟨rfl, rfl, rfl, rfl, rfl, trivial⟩ rfl rfl rfl d_X_harvest_8 (fun H locs hV => ?_)
  refine lv_if_eq (tgt := 24) hx hb d_X_harvest_11 (by decide) (fun c_27 => ?_) (fun c_27 => ?_)
  · replace hf := kifp c_27 hf
    exact t_X_harvest_1 X hf hV (lv_sub hl [0] rfl)
  replace hf := kifn c_27 hf
  refine lv_iload_n hx hb d_X_harvest_14 rfl (lv_at hl 3 rfl) ?_
  refine lv_iconst (v := 0) hx hb d_X_harvest_15 ic_0 ?_
  refine lv_bipush (v := 50) hx hb d_X_harvest_16 bp_50 ?_
  obtain ⟨r_28, hc_29, hf⟩ := kb1_some hf
  refine k_csi (w1 := (wd_X_isWithin D)) (r := r_28) (ws' := (wd_X_harvest D h h_here h_kept h_trial h_parts h_text h_sheets h_findings h_here_ground h_here_farms h_here_mountain h_here_ground_heights h_here_ground_ages h_here_ground_walls v_isKept v_here_month v_here_volume v_here_outs v_here_fed v_here_fedOuts v_here_arePigsTold v_here_ground_vent v_here_ground_ash v_here_ground_ages v_findings)) X hV hl.1 (c_X_isWithin D x3 (0 : Int32) (50 : Int32) hc_29) fk_X_isWithin gw_280 rfl [] [none, none, none, none, none] rfl rfl ⟨rfl, rfl, rfl, rfl, rfl, trivial⟩ rfl rfl rfl d_X_harvest_18 (fun H locs hV => ?_)
  refine lv_if_ne (tgt := 30) hx hb d_X_harvest_21 (by decide) (fun c_30 => ?_) (fun c_30 => ?_)
  · replace hf := kifn c_30 hf
    refine lv_iconst (v := 0) hx hb d_X_harvest_30 ic_0 ?_
    refine lv_istore (lv' := [(4, .int (0 : Int32)), (0, .ref h), (1, .int x1), (2, .int x2), (3, .int x3)]) hx hb d_X_harvest_31 hl (by decide) rfl (fun ls hl => ?_)
    refine lv_iconst (v := 0) hx hb d_X_harvest_33 ic_0 ?_
    refine lv_istore (lv' := [(5, .int (0 : Int32)), (4, .int (0 : Int32)), (0, .ref h), (1, .int x1), (2, .int x2), (3, .int x3)]) hx hb d_X_harvest_34 hl (by decide) rfl (fun ls hl => ?_)
    exact tl_X_harvest_2 X _ _ _ hf _ _ _ hV (lv_sub hl [2, 3, 4, 5, 1, 0] rfl)
  replace hf := kifp c_30 hf
  exact t_X_harvest_1 X hf hV (lv_sub hl [0] rfl)
set_option maxHeartbeats 2000000 in
set_option maxRecDepth 20000 in
theorem c_X_harvest {l : Launch} (D : kD) (h : Nat) (h_here : Nat) (h_kept : Nat) (h_trial : Nat) (h_parts : Nat) (h_text : Nat) (h_sheets : Nat) (h_findings : Nat) (h_here_ground : Nat) (h_here_farms : Nat) (h_here_mountain : Nat) (h_here_ground_heights : Nat) (h_here_ground_ages : Nat) (h_here_ground_walls : Nat) (v_isKept : Int32) (v_here_month : Int32) (v_here_volume : Int32) (v_here_outs : Int32) (v_here_fed : Int32) (v_here_fedOuts : Int32) (v_here_arePigsTold : Int32) (v_here_ground_vent : Int32) (v_here_ground_ash : Int32) (v_here_ground_ages : Nat → Int32) (v_findings : Nat → Int32) (x1 : Int32) (x2 : Int32) (x3 : Int32) {out : Int32 × (Nat → Int32)} (hf : f_X_harvest v_here_ground_ash v_here_ground_ages v_findings x1 x2 x3 = some out) : kMi l D y_X_harvest b_X_harvest 8 (some .int) { frames := 2, cells := 0, slots := 0, locals := 46 } [.ref h, .int x1, .int x2, .int x3] (wd_X_harvest D h h_here h_kept h_trial h_parts h_text h_sheets h_findings h_here_ground h_here_farms h_here_mountain h_here_ground_heights h_here_ground_ages h_here_ground_walls v_isKept v_here_month v_here_volume v_here_outs v_here_fed v_here_fedOuts v_here_arePigsTold v_here_ground_vent v_here_ground_ash v_here_ground_ages v_findings) (wd_X_harvest D h h_here h_kept h_trial h_parts h_text h_sheets h_findings h_here_ground h_here_farms h_here_mountain h_here_ground_heights h_here_ground_ages h_here_ground_walls v_isKept v_here_month v_here_volume v_here_outs v_here_fed v_here_fedOuts v_here_arePigsTold v_here_ground_vent v_here_ground_ash v_here_ground_ages out.2) out.1 :=
  kMi_of (own := "MountainFarms") (plainFor_of_name (by decide)) rfl rfl (fun p e s m args below meth c ls X hV hl => t_X_harvest X hf hV hl)
set_option maxHeartbeats 2000000 in
set_option maxRecDepth 20000 in
theorem t_X_isState {l : Launch} {p : Program} {e : Env} {s : State} {m : MethodId} {args : Array Value} {below : List Frame} {meth : Method} {c : Code} {D : kD} {wc0 : va_W} {x0 : Int32} {out : Int32} (X : kX p m meth c s args D (va_A wc0 s.heap.size) b_X_isState "MountainFarms" 1 (some .boolean)) (hf : f_X_isState x0 = some out) {H : Heap} {locs : List Loc} (hV : kV D (va_A wc0 s.heap.size) s (wd_X_isState D) H locs) {ls : Array Slot} (hl : lv_has ls 1 [(0, .int x0)]) : W p l e { frames := 1, cells := 0, slots := 0, locals := 22 } s m args below meth c H locs 0 0 (MQ below (kQi D wc0 (wd_X_isState D) s.heap.size out) args s 0 0 (va_A wc0 s.heap.size)) (F0 m 0 ls []) := by
  unfold f_X_isState at hf
  obtain ⟨hx, hb, -⟩ := id X
  refine lv_iload_n hx hb d_X_isState_0 rfl (lv_at hl 0 rfl) ?_
  refine lv_iconst (v := 0) hx hb d_X_isState_1 ic_0 ?_
  refine lv_iconst (v := 3) hx hb d_X_isState_2 ic_3 ?_
  obtain ⟨r_4, hc_5, hf⟩ := kb1_some hf
  refine k_csi (w1 := (wd_X_isWithin D)) (r := r_4) (ws' := (wd_X_isState D)) X hV hl.1 (c_X_isWithin D x0 (0 : Int32) (3 : Int32) hc_5) fk_X_isWithin gw_280 rfl [] [] rfl rfl trivial rfl rfl rfl d_X_isState_3 (fun H locs hV => ?_)
  obtain ⟨h_6, hf⟩ := kchk hf
  have e_ := Option.some.inj hf
  subst e_
  exact k_iret X rfl hV (knarB h_6) d_X_isState_6
set_option maxHeartbeats 2000000 in
set_option maxRecDepth 20000 in
theorem c_X_isState {l : Launch} (D : kD) (x0 : Int32) {out : Int32} (hf : f_X_isState x0 = some out) : kMi l D y_X_isState b_X_isState 1 (some .boolean) { frames := 1, cells := 0, slots := 0, locals := 22 } [.int x0] (wd_X_isState D) (wd_X_isState D) out :=
  kMi_of (own := "MountainFarms") (plainFor_of_name (by decide)) rfl rfl (fun p e s m args below meth c ls X hV hl => t_X_isState X hf hV hl)
set_option maxHeartbeats 2000000 in
set_option maxRecDepth 20000 in
theorem t_Mo_tenthAt {l : Launch} {p : Program} {e : Env} {s : State} {m : MethodId} {args : Array Value} {below : List Frame} {meth : Method} {c : Code} {D : kD} {wc0 : va_W} {h : Nat} {h_chances : Nat} {h_shows : Nat} {h_diary : Nat} {v_seen : Int32} {v_state : Int32} {v_z : Int32} {v_chances : Nat → Int32} {v_shows : Nat → Int32} {x1 : Int32} {x2 : Int32} {x3 : Int32} {out : Int32} (X : kX p m meth c s args D (va_A wc0 s.heap.size) b_Mo_tenthAt "MountainFarms$Mountain" 6 (some .int)) (hf : f_Mo_tenthAt v_chances v_shows x1 x2 x3 = some out) {H : Heap} {locs : List Loc} (hV : kV D (va_A wc0 s.heap.size) s (wd_Mo_tenthAt D h h_chances h_shows h_diary v_seen v_state v_z v_chances v_shows) H locs) {ls : Array Slot} (hl : lv_has ls 6 [(0, .ref h), (1, .int x1), (2, .int x2), (3, .int x3)]) : W p l e { frames := 1, cells := 0, slots := 0, locals := 22 } s m args below meth c H locs 0 0 (MQ below (kQi D wc0 (wd_Mo_tenthAt D h h_chances h_shows h_diary v_seen v_state v_z v_chances v_shows) s.heap.size out) args s 0 0 (va_A wc0 s.heap.size)) (F0 m 0 ls []) := by
  unfold f_Mo_tenthAt at hf
  obtain ⟨hx, hb, -⟩ := id X
  refine lv_iload_n hx hb d_Mo_tenthAt_0 rfl (lv_at hl 1 rfl) ?_
  refine lv_if_ne (tgt := 11) hx hb d_Mo_tenthAt_1 (by decide) (fun c_12 => ?_) (fun c_12 => ?_)
  · replace hf := kifn c_12 hf
    refine lv_aload_n hx hb d_Mo_tenthAt_11 rfl (lv_at hl 0 rfl) ?_
    refine k_get X hV 0 2 1 rfl rfl rfl gw_111 rfl rfl d_Mo_tenthAt_12 ?_
    refine lv_astore (lv' := [(4, .ref h_shows), (0, .ref h), (1, .int x1), (2, .int x2), (3, .int x3)]) hx hb d_Mo_tenthAt_15 hl (by decide) rfl (fun ls hl => ?_)
    refine lv_iconst (v := 4) hx hb d_Mo_tenthAt_17 ic_4 ?_
    refine lv_iload_n hx hb d_Mo_tenthAt_18 rfl (lv_at hl 3 rfl) ?_
    refine lv_imul hx hb d_Mo_tenthAt_19 ?_
    refine lv_iload_n hx hb d_Mo_tenthAt_20 rfl (lv_at hl 4 rfl) ?_
    refine lv_iadd hx hb d_Mo_tenthAt_21 ?_
    refine k_leti hf (fun x5_13 hf => ?_)
    refine lv_istore (lv' := [(5, .int x5_13), (4, .ref h_shows), (0, .ref h), (1, .int x1), (2, .int x2), (3, .int x3)]) hx hb d_Mo_tenthAt_22 hl (by decide) rfl (fun ls hl => ?_)
    refine lv_iload hx hb d_Mo_tenthAt_24 (lv_at hl 0 rfl) ?_
    refine lv_iconst (v := 0) hx hb d_Mo_tenthAt_26 ic_0 ?_
    refine lv_aload hx hb d_Mo_tenthAt_27 (lv_at hl 1 rfl) ?_
    refine k_alen (v := 16) X hV 2 0 rfl rfl rfl d_Mo_tenthAt_29 ?_
    refine lv_iconst (v := 1) hx hb d_Mo_tenthAt_30 ic_1 ?_
    refine lv_isub hx hb d_Mo_tenthAt_31 ?_
    obtain ⟨r_14, hc_15, hf⟩ := kb1_some hf
    refine k_cni (w1 := (wd_X_isWithin D)) (r := r_14) (ws' := (wd_Mo_tenthAt D h h_chances h_shows h_diary v_seen v_state v_z v_chances v_shows)) X hV hl.1 (c_X_isWithin D x5_13 (0 : Int32) ((16 : Int32) - (1 : Int32)) hc_15) fk_X_isWithin nw_9 rfl [] [none, none, none] rfl rfl ⟨rfl, rfl, rfl, trivial⟩ rfl rfl rfl d_Mo_tenthAt_32 (fun H locs hV => ?_)
    refine lv_if_eq (tgt := 46) hx hb d_Mo_tenthAt_35 (by decide) (fun c_16 => ?_) (fun c_16 => ?_)
    · replace hf := kifp c_16 hf
      refine lv_iconst (v := 0) hx hb d_Mo_tenthAt_46 ic_0 ?_
      have e_ := Option.some.inj hf
      subst e_
      exact k_iret X rfl hV rfl d_Mo_tenthAt_47
    replace hf := kifn c_16 hf
    refine lv_aload hx hb d_Mo_tenthAt_38 (lv_at hl 1 rfl) ?_
    refine lv_iload hx hb d_Mo_tenthAt_40 (lv_at hl 0 rfl) ?_
    obtain ⟨h_17, hf⟩ := kidx_some hf
    refine k_iald X hV 2 rfl h_17 rfl d_Mo_tenthAt_42 ?_
    refine lv_goto (tgt := 47) hx hb d_Mo_tenthAt_43 (by decide) ?_
    have e_ := Option.some.inj hf
    subst e_
    exact k_iret X rfl hV rfl d_Mo_tenthAt_47
  replace hf := kifp c_12 hf
  refine lv_aload_n hx hb d_Mo_tenthAt_4 rfl (lv_at hl 0 rfl) ?_
  refine k_get X hV 0 2 0 rfl rfl rfl gw_110 rfl rfl d_Mo_tenthAt_5 ?_
  refine lv_goto (tgt := 15) hx hb d_Mo_tenthAt_8 (by decide) ?_
  refine lv_astore (lv' := [(4, .ref h_chances), (0, .ref h), (1, .int x1), (2, .int x2), (3, .int x3)]) hx hb d_Mo_tenthAt_15 hl (by decide) rfl (fun ls hl => ?_)
  refine lv_iconst (v := 4) hx hb d_Mo_tenthAt_17 ic_4 ?_
  refine lv_iload_n hx hb d_Mo_tenthAt_18 rfl (lv_at hl 3 rfl) ?_
  refine lv_imul hx hb d_Mo_tenthAt_19 ?_
  refine lv_iload_n hx hb d_Mo_tenthAt_20 rfl (lv_at hl 4 rfl) ?_
  refine lv_iadd hx hb d_Mo_tenthAt_21 ?_
  refine k_leti hf (fun x5_18 hf => ?_)
  refine lv_istore (lv' := [(5, .int x5_18), (4, .ref h_chances), (0, .ref h), (1, .int x1), (2, .int x2), (3, .int x3)]) hx hb d_Mo_tenthAt_22 hl (by decide) rfl (fun ls hl => ?_)
  refine lv_iload hx hb d_Mo_tenthAt_24 (lv_at hl 0 rfl) ?_
  refine lv_iconst (v := 0) hx hb d_Mo_tenthAt_26 ic_0 ?_
  refine lv_aload hx hb d_Mo_tenthAt_27 (lv_at hl 1 rfl) ?_
  refine k_alen (v := 16) X hV 1 0 rfl rfl rfl d_Mo_tenthAt_29 ?_
  refine lv_iconst (v := 1) hx hb d_Mo_tenthAt_30 ic_1 ?_
  refine lv_isub hx hb d_Mo_tenthAt_31 ?_
  obtain ⟨r_19, hc_20, hf⟩ := kb1_some hf
  refine k_cni (w1 := (wd_X_isWithin D)) (r := r_19) (ws' := (wd_Mo_tenthAt D h h_chances h_shows h_diary v_seen v_state v_z v_chances v_shows)) X hV hl.1 (c_X_isWithin D x5_18 (0 : Int32) ((16 : Int32) - (1 : Int32)) hc_20) fk_X_isWithin nw_9 rfl [] [none, none, none] rfl rfl ⟨rfl, rfl, rfl, trivial⟩ rfl rfl rfl d_Mo_tenthAt_32 (fun H locs hV => ?_)
  refine lv_if_eq (tgt := 46) hx hb d_Mo_tenthAt_35 (by decide) (fun c_21 => ?_) (fun c_21 => ?_)
  · replace hf := kifp c_21 hf
    refine lv_iconst (v := 0) hx hb d_Mo_tenthAt_46 ic_0 ?_
    have e_ := Option.some.inj hf
    subst e_
    exact k_iret X rfl hV rfl d_Mo_tenthAt_47
  replace hf := kifn c_21 hf
  refine lv_aload hx hb d_Mo_tenthAt_38 (lv_at hl 1 rfl) ?_
  refine lv_iload hx hb d_Mo_tenthAt_40 (lv_at hl 0 rfl) ?_
  obtain ⟨h_22, hf⟩ := kidx_some hf
  refine k_iald X hV 1 rfl h_22 rfl d_Mo_tenthAt_42 ?_
  refine lv_goto (tgt := 47) hx hb d_Mo_tenthAt_43 (by decide) ?_
  have e_ := Option.some.inj hf
  subst e_
  exact k_iret X rfl hV rfl d_Mo_tenthAt_47
set_option maxHeartbeats 2000000 in
set_option maxRecDepth 20000 in
theorem c_Mo_tenthAt {l : Launch} (D : kD) (h : Nat) (h_chances : Nat) (h_shows : Nat) (h_diary : Nat) (v_seen : Int32) (v_state : Int32) (v_z : Int32) (v_chances : Nat → Int32) (v_shows : Nat → Int32) (x1 : Int32) (x2 : Int32) (x3 : Int32) {out : Int32} (hf : f_Mo_tenthAt v_chances v_shows x1 x2 x3 = some out) : kMi l D y_Mo_tenthAt b_Mo_tenthAt 6 (some .int) { frames := 1, cells := 0, slots := 0, locals := 22 } [.ref h, .int x1, .int x2, .int x3] (wd_Mo_tenthAt D h h_chances h_shows h_diary v_seen v_state v_z v_chances v_shows) (wd_Mo_tenthAt D h h_chances h_shows h_diary v_seen v_state v_z v_chances v_shows) out :=
  kMi_of (own := "MountainFarms$Mountain") (plainFor_of_name (by decide)) rfl rfl (fun p e s m args below meth c ls X hV hl => t_Mo_tenthAt X hf hV hl)
set_option maxHeartbeats 2000000 in
set_option maxRecDepth 20000 in
theorem t_Mo_putTenth {l : Launch} {p : Program} {e : Env} {s : State} {m : MethodId} {args : Array Value} {below : List Frame} {meth : Method} {c : Code} {D : kD} {wc0 : va_W} {h : Nat} {h_chances : Nat} {h_shows : Nat} {h_diary : Nat} {v_seen : Int32} {v_state : Int32} {v_z : Int32} {v_chances : Nat → Int32} {v_shows : Nat → Int32} {x1 : Int32} {x2 : Int32} {x3 : Int32} {x4 : Int32} {out : (Nat → Int32) × (Nat → Int32)} (X : kX p m meth c s args D (va_A wc0 s.heap.size) b_Mo_putTenth "MountainFarms$Mountain" 7 none) (hf : f_Mo_putTenth v_chances v_shows x1 x2 x3 x4 = some out) {H : Heap} {locs : List Loc} (hV : kV D (va_A wc0 s.heap.size) s (wd_Mo_putTenth D h h_chances h_shows h_diary v_seen v_state v_z v_chances v_shows) H locs) {ls : Array Slot} (hl : lv_has ls 7 [(0, .ref h), (1, .int x1), (2, .int x2), (3, .int x3), (4, .int x4)]) : W p l e { frames := 1, cells := 0, slots := 0, locals := 22 } s m args below meth c H locs 0 0 (MQ below (kQv D wc0 (wd_Mo_putTenth D h h_chances h_shows h_diary v_seen v_state v_z out.1 out.2) s.heap.size) args s 0 0 (va_A wc0 s.heap.size)) (F0 m 0 ls []) := by
  unfold f_Mo_putTenth at hf
  obtain ⟨hx, hb, -⟩ := id X
  refine lv_iload_n hx hb d_Mo_putTenth_0 rfl (lv_at hl 1 rfl) ?_
  refine lv_if_ne (tgt := 11) hx hb d_Mo_putTenth_1 (by decide) (fun c_12 => ?_) (fun c_12 => ?_)
  · replace hf := kifn c_12 hf
    refine lv_aload_n hx hb d_Mo_putTenth_11 rfl (lv_at hl 0 rfl) ?_
    refine k_get X hV 0 2 1 rfl rfl rfl gw_111 rfl rfl d_Mo_putTenth_12 ?_
    refine lv_astore (lv' := [(5, .ref h_shows), (0, .ref h), (1, .int x1), (2, .int x2), (3, .int x3), (4, .int x4)]) hx hb d_Mo_putTenth_15 hl (by decide) rfl (fun ls hl => ?_)
    refine lv_iconst (v := 4) hx hb d_Mo_putTenth_17 ic_4 ?_
    refine lv_iload_n hx hb d_Mo_putTenth_18 rfl (lv_at hl 3 rfl) ?_
    refine lv_imul hx hb d_Mo_putTenth_19 ?_
    refine lv_iload_n hx hb d_Mo_putTenth_20 rfl (lv_at hl 4 rfl) ?_
    refine lv_iadd hx hb d_Mo_putTenth_21 ?_
    refine k_leti hf (fun x6_13 hf => ?_)
    refine lv_istore (lv' := [(6, .int x6_13), (5, .ref h_shows), (0, .ref h), (1, .int x1), (2, .int x2), (3, .int x3), (4, .int x4)]) hx hb d_Mo_putTenth_22 hl (by decide) rfl (fun ls hl => ?_)
    refine lv_iload hx hb d_Mo_putTenth_24 (lv_at hl 0 rfl) ?_
    refine lv_iconst (v := 0) hx hb d_Mo_putTenth_26 ic_0 ?_
    refine lv_aload hx hb d_Mo_putTenth_27 (lv_at hl 1 rfl) ?_
    refine k_alen (v := 16) X hV 2 0 rfl rfl rfl d_Mo_putTenth_29 ?_
    refine lv_iconst (v := 1) hx hb d_Mo_putTenth_30 ic_1 ?_
    refine lv_isub hx hb d_Mo_putTenth_31 ?_
    obtain ⟨r_14, hc_15, hf⟩ := kb1_some hf
    refine k_cni (w1 := (wd_X_isWithin D)) (r := r_14) (ws' := (wd_Mo_putTenth D h h_chances h_shows h_diary v_seen v_state v_z v_chances v_shows)) X hV hl.1 (c_X_isWithin D x6_13 (0 : Int32) ((16 : Int32) - (1 : Int32)) hc_15) fk_X_isWithin nw_9 rfl [] [none, none, none] rfl rfl ⟨rfl, rfl, rfl, trivial⟩ rfl rfl rfl d_Mo_putTenth_32 (fun H locs hV => ?_)
    refine lv_if_eq (tgt := 45) hx hb d_Mo_putTenth_35 (by decide) (fun c_16 => ?_) (fun c_16 => ?_)
    · replace hf := kifp c_16 hf
      have e_ := Option.some.inj hf
      subst e_
      exact k_vret X rfl hV d_Mo_putTenth_45
    replace hf := kifn c_16 hf
    refine lv_aload hx hb d_Mo_putTenth_38 (lv_at hl 1 rfl) ?_
    refine lv_iload hx hb d_Mo_putTenth_40 (lv_at hl 0 rfl) ?_
    refine lv_iload hx hb d_Mo_putTenth_42 (lv_at hl 6 rfl) ?_
    obtain ⟨h_17, hf⟩ := kidx_some hf
    refine k_iast (ws' := (wd_Mo_putTenth D h h_chances h_shows h_diary v_seen v_state v_z v_chances (upd v_shows x6_13.toNatClampNeg x4))) X hV 2 rfl h_17 rfl rfl d_Mo_putTenth_44 (fun H locs hV => ?_)
    have e_ := Option.some.inj hf
    subst e_
    exact k_vret X rfl hV d_Mo_putTenth_45
  replace hf := kifp c_12 hf
  refine lv_aload_n hx hb d_Mo_putTenth_4 rfl (lv_at hl 0 rfl) ?_
  refine k_get X hV 0 2 0 rfl rfl rfl gw_110 rfl rfl d_Mo_putTenth_5 ?_
  refine lv_goto (tgt := 15) hx hb d_Mo_putTenth_8 (by decide) ?_
  refine lv_astore (lv' := [(5, .ref h_chances), (0, .ref h), (1, .int x1), (2, .int x2), (3, .int x3), (4, .int x4)]) hx hb d_Mo_putTenth_15 hl (by decide) rfl (fun ls hl => ?_)
  refine lv_iconst (v := 4) hx hb d_Mo_putTenth_17 ic_4 ?_
  refine lv_iload_n hx hb d_Mo_putTenth_18 rfl (lv_at hl 3 rfl) ?_
  refine lv_imul hx hb d_Mo_putTenth_19 ?_
  refine lv_iload_n hx hb d_Mo_putTenth_20 rfl (lv_at hl 4 rfl) ?_
  refine lv_iadd hx hb d_Mo_putTenth_21 ?_
  refine k_leti hf (fun x6_18 hf => ?_)
  refine lv_istore (lv' := [(6, .int x6_18), (5, .ref h_chances), (0, .ref h), (1, .int x1), (2, .int x2), (3, .int x3), (4, .int x4)]) hx hb d_Mo_putTenth_22 hl (by decide) rfl (fun ls hl => ?_)
  refine lv_iload hx hb d_Mo_putTenth_24 (lv_at hl 0 rfl) ?_
  refine lv_iconst (v := 0) hx hb d_Mo_putTenth_26 ic_0 ?_
  refine lv_aload hx hb d_Mo_putTenth_27 (lv_at hl 1 rfl) ?_
  refine k_alen (v := 16) X hV 1 0 rfl rfl rfl d_Mo_putTenth_29 ?_
  refine lv_iconst (v := 1) hx hb d_Mo_putTenth_30 ic_1 ?_
  refine lv_isub hx hb d_Mo_putTenth_31 ?_
  obtain ⟨r_19, hc_20, hf⟩ := kb1_some hf
  refine k_cni (w1 := (wd_X_isWithin D)) (r := r_19) (ws' := (wd_Mo_putTenth D h h_chances h_shows h_diary v_seen v_state v_z v_chances v_shows)) X hV hl.1 (c_X_isWithin D x6_18 (0 : Int32) ((16 : Int32) - (1 : Int32)) hc_20) fk_X_isWithin nw_9 rfl [] [none, none, none] rfl rfl ⟨rfl, rfl, rfl, trivial⟩ rfl rfl rfl d_Mo_putTenth_32 (fun H locs hV => ?_)
  refine lv_if_eq (tgt := 45) hx hb d_Mo_putTenth_35 (by decide) (fun c_21 => ?_) (fun c_21 => ?_)
  · replace hf := kifp c_21 hf
    have e_ := Option.some.inj hf
    subst e_
    exact k_vret X rfl hV d_Mo_putTenth_45
  replace hf := kifn c_21 hf
  refine lv_aload hx hb d_Mo_putTenth_38 (lv_at hl 1 rfl) ?_
  refine lv_iload hx hb d_Mo_putTenth_40 (lv_at hl 0 rfl) ?_
  refine lv_iload hx hb d_Mo_putTenth_42 (lv_at hl 6 rfl) ?_
  obtain ⟨h_22, hf⟩ := kidx_some hf
  refine k_iast (ws' := (wd_Mo_putTenth D h h_chances h_shows h_diary v_seen v_state v_z (upd v_chances x6_18.toNatClampNeg x4) v_shows)) X hV 1 rfl h_22 rfl rfl d_Mo_putTenth_44 (fun H locs hV => ?_)
  have e_ := Option.some.inj hf
  subst e_
  exact k_vret X rfl hV d_Mo_putTenth_45
set_option maxHeartbeats 2000000 in
set_option maxRecDepth 20000 in
theorem c_Mo_putTenth {l : Launch} (D : kD) (h : Nat) (h_chances : Nat) (h_shows : Nat) (h_diary : Nat) (v_seen : Int32) (v_state : Int32) (v_z : Int32) (v_chances : Nat → Int32) (v_shows : Nat → Int32) (x1 : Int32) (x2 : Int32) (x3 : Int32) (x4 : Int32) {out : (Nat → Int32) × (Nat → Int32)} (hf : f_Mo_putTenth v_chances v_shows x1 x2 x3 x4 = some out) : kMv l D y_Mo_putTenth b_Mo_putTenth 7 none { frames := 1, cells := 0, slots := 0, locals := 22 } [.ref h, .int x1, .int x2, .int x3, .int x4] (wd_Mo_putTenth D h h_chances h_shows h_diary v_seen v_state v_z v_chances v_shows) (wd_Mo_putTenth D h h_chances h_shows h_diary v_seen v_state v_z out.1 out.2) :=
  kMv_of (own := "MountainFarms$Mountain") (plainFor_of_name (by decide)) rfl rfl (fun p e s m args below meth c ls X hV hl => t_Mo_putTenth X hf hV hl)
set_option maxHeartbeats 2000000 in
set_option maxRecDepth 20000 in
theorem t_X_tenths_1 {l : Launch} {p : Program} {e : Env} {s : State} {m : MethodId} {args : Array Value} {below : List Frame} {meth : Method} {c : Code} {D : kD} {wc0 : va_W} {h : Nat} {h_here : Nat} {h_kept : Nat} {h_trial : Nat} {h_parts : Nat} {h_text : Nat} {h_sheets : Nat} {h_findings : Nat} {h_here_ground : Nat} {h_here_farms : Nat} {h_here_mountain : Nat} {h_here_mountain_chances : Nat} {h_here_mountain_shows : Nat} {h_here_mountain_diary : Nat} {v_isKept : Int32} {v_here_month : Int32} {v_here_volume : Int32} {v_here_outs : Int32} {v_here_fed : Int32} {v_here_fedOuts : Int32} {v_here_arePigsTold : Int32} {v_here_mountain_seen : Int32} {v_here_mountain_state : Int32} {v_here_mountain_z : Int32} {v_here_mountain_chances : Nat → Int32} {v_here_mountain_shows : Nat → Int32} {v_findings : Nat → Int32} {out : Int32 × (Nat → Int32) × (Nat → Int32) × (Nat → Int32)} (X : kX p m meth c s args D (va_A wc0 s.heap.size) b_X_tenths "MountainFarms" 7 (some .int)) (hf : f_X_tenths_1 v_here_mountain_chances v_here_mountain_shows v_findings = some out) {H : Heap} {locs : List Loc} (hV : kV D (va_A wc0 s.heap.size) s (wd_X_tenths D h h_here h_kept h_trial h_parts h_text h_sheets h_findings h_here_ground h_here_farms h_here_mountain h_here_mountain_chances h_here_mountain_shows h_here_mountain_diary v_isKept v_here_month v_here_volume v_here_outs v_here_fed v_here_fedOuts v_here_arePigsTold v_here_mountain_seen v_here_mountain_state v_here_mountain_z v_here_mountain_chances v_here_mountain_shows v_findings) H locs) {ls : Array Slot} (hl : lv_has ls 7 [(0, .ref h)]) : W p l e { frames := 2, cells := 0, slots := 0, locals := 48 } s m args below meth c H locs 0 0 (MQ below (kQi D wc0 (wd_X_tenths D h h_here h_kept h_trial h_parts h_text h_sheets h_findings h_here_ground h_here_farms h_here_mountain h_here_mountain_chances h_here_mountain_shows h_here_mountain_diary v_isKept v_here_month v_here_volume v_here_outs v_here_fed v_here_fedOuts v_here_arePigsTold v_here_mountain_seen v_here_mountain_state v_here_mountain_z out.2.1 out.2.2.1 out.2.2.2) s.heap.size out.1) args s 0 0 (va_A wc0 s.heap.size)) (F0 m 16 ls []) := by
  unfold f_X_tenths_1 at hf
  obtain ⟨hx, hb, -⟩ := id X
  refine lv_aload_n hx hb d_X_tenths_16 rfl (lv_at hl 0 rfl) ?_
  refine lv_iconst (v := 0) hx hb d_X_tenths_17 ic_0 ?_
  obtain ⟨r_65, v_findings_66, hc_67, hf⟩ := kb2_some hf
  refine k_cvi (w1 := (wd_X_finding D h h_here h_kept h_trial h_parts h_text h_sheets h_findings v_isKept v_findings_66)) (r := r_65) (ws' := (wd_X_tenths D h h_here h_kept h_trial h_parts h_text h_sheets h_findings h_here_ground h_here_farms h_here_mountain h_here_mountain_chances h_here_mountain_shows h_here_mountain_diary v_isKept v_here_month v_here_volume v_here_outs v_here_fed v_here_fedOuts v_here_arePigsTold v_here_mountain_seen v_here_mountain_state v_here_mountain_z v_here_mountain_chances v_here_mountain_shows v_findings_66)) X hV hl.1 (c_X_finding D h h_here h_kept h_trial h_parts h_text h_sheets h_findings v_isKept v_findings (0 : Int32) hc_67) fk_X_finding gw_283 rfl 0 8 rfl rfl [0, 5] [some 0, none, none, none, none, some 1] rfl rfl ⟨rfl, rfl, rfl, rfl, rfl, rfl, rfl, rfl, rfl, rfl, trivial⟩ rfl rfl rfl d_X_tenths_18 (fun H locs hV => ?_)
  have e_ := Option.some.inj hf
  subst e_
  exact k_iret X rfl hV rfl d_X_tenths_21
set_option maxHeartbeats 2000000 in
set_option maxRecDepth 20000 in
theorem t_X_tenths_2 {l : Launch} {p : Program} {e : Env} {s : State} {m : MethodId} {args : Array Value} {below : List Frame} {meth : Method} {c : Code} {D : kD} {wc0 : va_W} {h : Nat} {h_here : Nat} {h_kept : Nat} {h_trial : Nat} {h_parts : Nat} {h_text : Nat} {h_sheets : Nat} {h_findings : Nat} {h_here_ground : Nat} {h_here_farms : Nat} {h_here_mountain : Nat} {h_here_mountain_chances : Nat} {h_here_mountain_shows : Nat} {h_here_mountain_diary : Nat} {v_isKept : Int32} {v_here_month : Int32} {v_here_volume : Int32} {v_here_outs : Int32} {v_here_fed : Int32} {v_here_fedOuts : Int32} {v_here_arePigsTold : Int32} {v_here_mountain_seen : Int32} {v_here_mountain_state : Int32} {v_here_mountain_z : Int32} {v_here_mountain_chances : Nat → Int32} {v_here_mountain_shows : Nat → Int32} {v_findings : Nat → Int32} {out : Int32 × (Nat → Int32) × (Nat → Int32) × (Nat → Int32)} (X : kX p m meth c s args D (va_A wc0 s.heap.size) b_X_tenths "MountainFarms" 7 (some .int)) (hf : f_X_tenths_2 v_here_mountain_chances v_here_mountain_shows v_findings = some out) {H : Heap} {locs : List Loc} (hV : kV D (va_A wc0 s.heap.size) s (wd_X_tenths D h h_here h_kept h_trial h_parts h_text h_sheets h_findings h_here_ground h_here_farms h_here_mountain h_here_mountain_chances h_here_mountain_shows h_here_mountain_diary v_isKept v_here_month v_here_volume v_here_outs v_here_fed v_here_fedOuts v_here_arePigsTold v_here_mountain_seen v_here_mountain_state v_here_mountain_z v_here_mountain_chances v_here_mountain_shows v_findings) H locs) {ls : Array Slot} (hl : lv_has ls 7 [(0, .ref h)]) : W p l e { frames := 2, cells := 0, slots := 0, locals := 48 } s m args below meth c H locs 0 0 (MQ below (kQi D wc0 (wd_X_tenths D h h_here h_kept h_trial h_parts h_text h_sheets h_findings h_here_ground h_here_farms h_here_mountain h_here_mountain_chances h_here_mountain_shows h_here_mountain_diary v_isKept v_here_month v_here_volume v_here_outs v_here_fed v_here_fedOuts v_here_arePigsTold v_here_mountain_seen v_here_mountain_state v_here_mountain_z out.2.1 out.2.2.1 out.2.2.2) s.heap.size out.1) args s 0 0 (va_A wc0 s.heap.size)) (F0 m 61 ls []) := by
  unfold f_X_tenths_2 at hf
  obtain ⟨hx, hb, -⟩ := id X
  refine lv_aload_n hx hb d_X_tenths_61 rfl (lv_at hl 0 rfl) ?_
  refine lv_iconst (v := 0) hx hb d_X_tenths_62 ic_0 ?_
  obtain ⟨r_68, v_findings_69, hc_70, hf⟩ := kb2_some hf
  refine k_cvi (w1 := (wd_X_finding D h h_here h_kept h_trial h_parts h_text h_sheets h_findings v_isKept v_findings_69)) (r := r_68) (ws' := (wd_X_tenths D h h_here h_kept h_trial h_parts h_text h_sheets h_findings h_here_ground h_here_farms h_here_mountain h_here_mountain_chances h_here_mountain_shows h_here_mountain_diary v_isKept v_here_month v_here_volume v_here_outs v_here_fed v_here_fedOuts v_here_arePigsTold v_here_mountain_seen v_here_mountain_state v_here_mountain_z v_here_mountain_chances v_here_mountain_shows v_findings_69)) X hV hl.1 (c_X_finding D h h_here h_kept h_trial h_parts h_text h_sheets h_findings v_isKept v_findings (0 : Int32) hc_70) fk_X_finding gw_283 rfl 0 8 rfl rfl [0, 5] [some 0, none, none, none, none, some 1] rfl rfl ⟨rfl, rfl, rfl, rfl, rfl, rfl, rfl, rfl, rfl, rfl, trivial⟩ rfl rfl rfl d_X_tenths_63 (fun H locs hV => ?_)
  have e_ := Option.some.inj hf
  subst e_
  exact k_iret X rfl hV rfl d_X_tenths_66
set_option maxHeartbeats 2000000 in
set_option maxRecDepth 20000 in
theorem t_X_tenths {l : Launch} {p : Program} {e : Env} {s : State} {m : MethodId} {args : Array Value} {below : List Frame} {meth : Method} {c : Code} {D : kD} {wc0 : va_W} {h : Nat} {h_here : Nat} {h_kept : Nat} {h_trial : Nat} {h_parts : Nat} {h_text : Nat} {h_sheets : Nat} {h_findings : Nat} {h_here_ground : Nat} {h_here_farms : Nat} {h_here_mountain : Nat} {h_here_mountain_chances : Nat} {h_here_mountain_shows : Nat} {h_here_mountain_diary : Nat} {v_isKept : Int32} {v_here_month : Int32} {v_here_volume : Int32} {v_here_outs : Int32} {v_here_fed : Int32} {v_here_fedOuts : Int32} {v_here_arePigsTold : Int32} {v_here_mountain_seen : Int32} {v_here_mountain_state : Int32} {v_here_mountain_z : Int32} {v_here_mountain_chances : Nat → Int32} {v_here_mountain_shows : Nat → Int32} {v_findings : Nat → Int32} {x1 : Int32} {x2 : Int32} {x3 : Int32} {x4 : Int32} {x5 : Int32} {out : Int32 × (Nat → Int32) × (Nat → Int32) × (Nat → Int32)} (X : kX p m meth c s args D (va_A wc0 s.heap.size) b_X_tenths "MountainFarms" 7 (some .int)) (hf : f_X_tenths v_here_mountain_chances v_here_mountain_shows v_findings x1 x2 x3 x4 x5 = some out) {H : Heap} {locs : List Loc} (hV : kV D (va_A wc0 s.heap.size) s (wd_X_tenths D h h_here h_kept h_trial h_parts h_text h_sheets h_findings h_here_ground h_here_farms h_here_mountain h_here_mountain_chances h_here_mountain_shows h_here_mountain_diary v_isKept v_here_month v_here_volume v_here_outs v_here_fed v_here_fedOuts v_here_arePigsTold v_here_mountain_seen v_here_mountain_state v_here_mountain_z v_here_mountain_chances v_here_mountain_shows v_findings) H locs) {ls : Array Slot} (hl : lv_has ls 7 [(0, .ref h), (1, .int x1), (2, .int x2), (3, .int x3), (4, .int x4), (5, .int x5)]) : W p l e { frames := 2, cells := 0, slots := 0, locals := 48 } s m args below meth c H locs 0 0 (MQ below (kQi D wc0 (wd_X_tenths D h h_here h_kept h_trial h_parts h_text h_sheets h_findings h_here_ground h_here_farms h_here_mountain h_here_mountain_chances h_here_mountain_shows h_here_mountain_diary v_isKept v_here_month v_here_volume v_here_outs v_here_fed v_here_fedOuts v_here_arePigsTold v_here_mountain_seen v_here_mountain_state v_here_mountain_z out.2.1 out.2.2.1 out.2.2.2) s.heap.size out.1) args s 0 0 (va_A wc0 s.heap.size)) (F0 m 0 ls []) := by
  unfold f_X_tenths at hf
  obtain ⟨hx, hb, -⟩ := id X
  refine lv_iload_n hx hb d_X_tenths_0 rfl (lv_at hl 1 rfl) ?_
  refine lv_iconst (v := 0) hx hb d_X_tenths_1 ic_0 ?_
  refine lv_iconst (v := 1) hx hb d_X_tenths_2 ic_1 ?_
  obtain ⟨r_36, hc_37, hf⟩ := kb1_some hf
  refine k_csi (w1 := (wd_X_isWithin D)) (r := r_36) (ws' := (wd_X_tenths D h h_here h_kept h_trial h_parts h_text h_sheets h_findings h_here_ground h_here_farms h_here_mountain h_here_mountain_chances h_here_mountain_shows h_here_mountain_diary v_isKept v_here_month v_here_volume v_here_outs v_here_fed v_here_fedOuts v_here_arePigsTold v_here_mountain_seen v_here_mountain_state v_here_mountain_z v_here_mountain_chances v_here_mountain_shows v_findings)) X hV hl.1 (c_X_isWithin D x1 (0 : Int32) (1 : Int32) hc_37) fk_X_isWithin gw_280 rfl [] [none, none, none, none, none, none] rfl rfl ⟨rfl, rfl, rfl, rfl, rfl, rfl, trivial⟩ rfl rfl rfl d_X_tenths_3 (fun H locs hV => ?_)
  refine lv_if_eq (tgt := 16) hx hb d_X_tenths_6 (by decide) (fun c_38 => ?_) (fun c_38 => ?_)
  · replace hf := kifp c_38 hf
    exact t_X_tenths_1 X hf hV (lv_sub hl [0] rfl)
  replace hf := kifn c_38 hf
  refine lv_iload_n hx hb d_X_tenths_9 rfl (lv_at hl 2 rfl) ?_
  obtain ⟨r_39, hc_40, hf⟩ := kb1_some hf
  refine k_csi (w1 := (wd_X_isState D)) (r := r_39) (ws' := (wd_X_tenths D h h_here h_kept h_trial h_parts h_text h_sheets h_findings h_here_ground h_here_farms h_here_mountain h_here_mountain_chances h_here_mountain_shows h_here_mountain_diary v_isKept v_here_month v_here_volume v_here_outs v_here_fed v_here_fedOuts v_here_arePigsTold v_here_mountain_seen v_here_mountain_state v_here_mountain_z v_here_mountain_chances v_here_mountain_shows v_findings)) X hV hl.1 (c_X_isState D x2 hc_40) fk_X_isState gw_405 rfl [] [none, none, none, none, none, none] rfl rfl ⟨rfl, rfl, rfl, rfl, rfl, rfl, trivial⟩ rfl rfl rfl d_X_tenths_10 (fun H locs hV => ?_)
  refine lv_if_ne (tgt := 22) hx hb d_X_tenths_13 (by decide) (fun c_41 => ?_) (fun c_41 => ?_)
  · replace hf := kifn c_41 hf
    refine lv_iload_n hx hb d_X_tenths_22 rfl (lv_at hl 3 rfl) ?_
    refine lv_iconst (v := 0) hx hb d_X_tenths_23 ic_0 ?_
    refine lv_bipush (v := 10) hx hb d_X_tenths_24 bp_10 ?_
    obtain ⟨r_42, hc_43, hf⟩ := kb1_some hf
    refine k_csi (w1 := (wd_X_isWithin D)) (r := r_42) (ws' := (wd_X_tenths D h h_here h_kept h_trial h_parts h_text h_sheets h_findings h_here_ground h_here_farms h_here_mountain h_here_mountain_chances h_here_mountain_shows h_here_mountain_diary v_isKept v_here_month v_here_volume v_here_outs v_here_fed v_here_fedOuts v_here_arePigsTold v_here_mountain_seen v_here_mountain_state v_here_mountain_z v_here_mountain_chances v_here_mountain_shows v_findings)) X hV hl.1 (c_X_isWithin D x3 (0 : Int32) (10 : Int32) hc_43) fk_X_isWithin gw_280 rfl [] [none, none, none, none, none, none] rfl rfl ⟨rfl, rfl, rfl, rfl, rfl, rfl, trivial⟩ rfl rfl rfl d_X_tenths_26 (fun H locs hV => ?_)
    refine lv_if_eq (tgt := 61) hx hb d_X_tenths_29 (by decide) (fun c_44 => ?_) (fun c_44 => ?_)
    · replace hf := kifp c_44 hf
      exact t_X_tenths_2 X hf hV (lv_sub hl [0] rfl)
    replace hf := kifn c_44 hf
    refine lv_iload hx hb d_X_tenths_32 (lv_at hl 4 rfl) ?_
    refine lv_iconst (v := 0) hx hb d_X_tenths_34 ic_0 ?_
    refine lv_bipush (v := 10) hx hb d_X_tenths_35 bp_10 ?_
    refine lv_iload_n hx hb d_X_tenths_37 rfl (lv_at hl 3 rfl) ?_
    refine lv_isub hx hb d_X_tenths_38 ?_
    obtain ⟨r_45, hc_46, hf⟩ := kb1_some hf
    refine k_csi (w1 := (wd_X_isWithin D)) (r := r_45) (ws' := (wd_X_tenths D h h_here h_kept h_trial h_parts h_text h_sheets h_findings h_here_ground h_here_farms h_here_mountain h_here_mountain_chances h_here_mountain_shows h_here_mountain_diary v_isKept v_here_month v_here_volume v_here_outs v_here_fed v_here_fedOuts v_here_arePigsTold v_here_mountain_seen v_here_mountain_state v_here_mountain_z v_here_mountain_chances v_here_mountain_shows v_findings)) X hV hl.1 (c_X_isWithin D x4 (0 : Int32) ((10 : Int32) - x3) hc_46) fk_X_isWithin gw_280 rfl [] [none, none, none, none, none, none] rfl rfl ⟨rfl, rfl, rfl, rfl, rfl, rfl, trivial⟩ rfl rfl rfl d_X_tenths_39 (fun H locs hV => ?_)
    refine lv_if_eq (tgt := 61) hx hb d_X_tenths_42 (by decide) (fun c_47 => ?_) (fun c_47 => ?_)
    · replace hf := kifp c_47 hf
      exact t_X_tenths_2 X hf hV (lv_sub hl [0] rfl)
    replace hf := kifn c_47 hf
    refine lv_iload hx hb d_X_tenths_45 (lv_at hl 5 rfl) ?_
    refine lv_iconst (v := 0) hx hb d_X_tenths_47 ic_0 ?_
    refine lv_bipush (v := 10) hx hb d_X_tenths_48 bp_10 ?_
    refine lv_iload_n hx hb d_X_tenths_50 rfl (lv_at hl 3 rfl) ?_
    refine lv_isub hx hb d_X_tenths_51 ?_
    refine lv_iload hx hb d_X_tenths_52 (lv_at hl 4 rfl) ?_
    refine lv_isub hx hb d_X_tenths_54 ?_
    obtain ⟨r_48, hc_49, hf⟩ := kb1_some hf
    refine k_csi (w1 := (wd_X_isWithin D)) (r := r_48) (ws' := (wd_X_tenths D h h_here h_kept h_trial h_parts h_text h_sheets h_findings h_here_ground h_here_farms h_here_mountain h_here_mountain_chances h_here_mountain_shows h_here_mountain_diary v_isKept v_here_month v_here_volume v_here_outs v_here_fed v_here_fedOuts v_here_arePigsTold v_here_mountain_seen v_here_mountain_state v_here_mountain_z v_here_mountain_chances v_here_mountain_shows v_findings)) X hV hl.1 (c_X_isWithin D x5 (0 : Int32) (((10 : Int32) - x3) - x4) hc_49) fk_X_isWithin gw_280 rfl [] [none, none, none, none, none, none] rfl rfl ⟨rfl, rfl, rfl, rfl, rfl, rfl, trivial⟩ rfl rfl rfl d_X_tenths_55 (fun H locs hV => ?_)
    refine lv_if_ne (tgt := 67) hx hb d_X_tenths_58 (by decide) (fun c_50 => ?_) (fun c_50 => ?_)
    · replace hf := kifn c_50 hf
      refine lv_aload_n hx hb d_X_tenths_67 rfl (lv_at hl 0 rfl) ?_
      refine k_get X hV 0 8 0 rfl rfl rfl gw_248 rfl rfl d_X_tenths_68 ?_
      refine k_get X hV 1 5 2 rfl rfl rfl gw_143 rfl rfl d_X_tenths_71 ?_
      refine lv_iload_n hx hb d_X_tenths_74 rfl (lv_at hl 1 rfl) ?_
      refine lv_iload_n hx hb d_X_tenths_75 rfl (lv_at hl 2 rfl) ?_
      refine lv_iconst (v := 0) hx hb d_X_tenths_76 ic_0 ?_
      obtain ⟨r_51, hc_52, hf⟩ := kb1_some hf
      refine k_cvi (w1 := (wd_Mo_tenthAt D h_here_mountain h_here_mountain_chances h_here_mountain_shows h_here_mountain_diary v_here_mountain_seen v_here_mountain_state v_here_mountain_z v_here_mountain_chances v_here_mountain_shows)) (r := r_51) (ws' := (wd_X_tenths D h h_here h_kept h_trial h_parts h_text h_sheets h_findings h_here_ground h_here_farms h_here_mountain h_here_mountain_chances h_here_mountain_shows h_here_mountain_diary v_isKept v_here_month v_here_volume v_here_outs v_here_fed v_here_fedOuts v_here_arePigsTold v_here_mountain_seen v_here_mountain_state v_here_mountain_z v_here_mountain_chances v_here_mountain_shows v_findings)) X hV hl.1 (c_Mo_tenthAt D h_here_mountain h_here_mountain_chances h_here_mountain_shows h_here_mountain_diary v_here_mountain_seen v_here_mountain_state v_here_mountain_z v_here_mountain_chances v_here_mountain_shows x1 x2 (0 : Int32) hc_52) fk_Mo_tenthAt gw_408 rfl 2 2 rfl rfl [2, 3, 4] [none, none, some 0, some 1, some 2, none] rfl rfl ⟨rfl, rfl, rfl, rfl, rfl, rfl, rfl, rfl, rfl, rfl, rfl, rfl, trivial⟩ rfl rfl rfl d_X_tenths_77 (fun H locs hV => ?_)
      refine lv_istore (lv' := [(6, .int r_51), (0, .ref h), (1, .int x1), (2, .int x2), (3, .int x3), (4, .int x4), (5, .int x5)]) hx hb d_X_tenths_80 hl (by decide) rfl (fun ls hl => ?_)
      refine lv_aload_n hx hb d_X_tenths_82 rfl (lv_at hl 1 rfl) ?_
      refine k_get X hV 0 8 0 rfl rfl rfl gw_248 rfl rfl d_X_tenths_83 ?_
      refine k_get X hV 1 5 2 rfl rfl rfl gw_143 rfl rfl d_X_tenths_86 ?_
      refine lv_iload_n hx hb d_X_tenths_89 rfl (lv_at hl 2 rfl) ?_
      refine lv_iload_n hx hb d_X_tenths_90 rfl (lv_at hl 3 rfl) ?_
      refine lv_iconst (v := 0) hx hb d_X_tenths_91 ic_0 ?_
      refine lv_iload_n hx hb d_X_tenths_92 rfl (lv_at hl 4 rfl) ?_
      obtain ⟨v_here_mountain_chances_53, v_here_mountain_shows_54, hc_55, hf⟩ := kb2_some hf
      refine k_cvv (w1 := (wd_Mo_putTenth D h_here_mountain h_here_mountain_chances h_here_mountain_shows h_here_mountain_diary v_here_mountain_seen v_here_mountain_state v_here_mountain_z v_here_mountain_chances_53 v_here_mountain_shows_54)) (ws' := (wd_X_tenths D h h_here h_kept h_trial h_parts h_text h_sheets h_findings h_here_ground h_here_farms h_here_mountain h_here_mountain_chances h_here_mountain_shows h_here_mountain_diary v_isKept v_here_month v_here_volume v_here_outs v_here_fed v_here_fedOuts v_here_arePigsTold v_here_mountain_seen v_here_mountain_state v_here_mountain_z v_here_mountain_chances_53 v_here_mountain_shows_54 v_findings)) X hV hl.1 (c_Mo_putTenth D h_here_mountain h_here_mountain_chances h_here_mountain_shows h_here_mountain_diary v_here_mountain_seen v_here_mountain_state v_here_mountain_z v_here_mountain_chances v_here_mountain_shows x1 x2 (0 : Int32) x3 hc_55) fk_Mo_putTenth gw_413 rfl 2 2 rfl rfl [2, 3, 4] [none, none, some 0, some 1, some 2, none] rfl rfl ⟨rfl, rfl, rfl, rfl, rfl, rfl, rfl, rfl, rfl, rfl, rfl, rfl, trivial⟩ rfl rfl rfl d_X_tenths_93 (fun H locs hV => ?_)
      refine lv_aload_n hx hb d_X_tenths_96 rfl (lv_at hl 1 rfl) ?_
      refine k_get X hV 0 8 0 rfl rfl rfl gw_248 rfl rfl d_X_tenths_97 ?_
      refine k_get X hV 1 5 2 rfl rfl rfl gw_143 rfl rfl d_X_tenths_100 ?_
      refine lv_iload_n hx hb d_X_tenths_103 rfl (lv_at hl 2 rfl) ?_
      refine lv_iload_n hx hb d_X_tenths_104 rfl (lv_at hl 3 rfl) ?_
      refine lv_iconst (v := 1) hx hb d_X_tenths_105 ic_1 ?_
      refine lv_iload hx hb d_X_tenths_106 (lv_at hl 5 rfl) ?_
      obtain ⟨v_here_mountain_chances_56, v_here_mountain_shows_57, hc_58, hf⟩ := kb2_some hf
      refine k_cvv (w1 := (wd_Mo_putTenth D h_here_mountain h_here_mountain_chances h_here_mountain_shows h_here_mountain_diary v_here_mountain_seen v_here_mountain_state v_here_mountain_z v_here_mountain_chances_56 v_here_mountain_shows_57)) (ws' := (wd_X_tenths D h h_here h_kept h_trial h_parts h_text h_sheets h_findings h_here_ground h_here_farms h_here_mountain h_here_mountain_chances h_here_mountain_shows h_here_mountain_diary v_isKept v_here_month v_here_volume v_here_outs v_here_fed v_here_fedOuts v_here_arePigsTold v_here_mountain_seen v_here_mountain_state v_here_mountain_z v_here_mountain_chances_56 v_here_mountain_shows_57 v_findings)) X hV hl.1 (c_Mo_putTenth D h_here_mountain h_here_mountain_chances h_here_mountain_shows h_here_mountain_diary v_here_mountain_seen v_here_mountain_state v_here_mountain_z v_here_mountain_chances_53 v_here_mountain_shows_54 x1 x2 (1 : Int32) x4 hc_58) fk_Mo_putTenth gw_413 rfl 2 2 rfl rfl [2, 3, 4] [none, none, some 0, some 1, some 2, none] rfl rfl ⟨rfl, rfl, rfl, rfl, rfl, rfl, rfl, rfl, rfl, rfl, rfl, rfl, trivial⟩ rfl rfl rfl d_X_tenths_108 (fun H locs hV => ?_)
      refine lv_aload_n hx hb d_X_tenths_111 rfl (lv_at hl 1 rfl) ?_
      refine k_get X hV 0 8 0 rfl rfl rfl gw_248 rfl rfl d_X_tenths_112 ?_
      refine k_get X hV 1 5 2 rfl rfl rfl gw_143 rfl rfl d_X_tenths_115 ?_
      refine lv_iload_n hx hb d_X_tenths_118 rfl (lv_at hl 2 rfl) ?_
      refine lv_iload_n hx hb d_X_tenths_119 rfl (lv_at hl 3 rfl) ?_
      refine lv_iconst (v := 2) hx hb d_X_tenths_120 ic_2 ?_
      refine lv_iload hx hb d_X_tenths_121 (lv_at hl 6 rfl) ?_
      obtain ⟨v_here_mountain_chances_59, v_here_mountain_shows_60, hc_61, hf⟩ := kb2_some hf
      refine k_cvv (w1 := (wd_Mo_putTenth D h_here_mountain h_here_mountain_chances h_here_mountain_shows h_here_mountain_diary v_here_mountain_seen v_here_mountain_state v_here_mountain_z v_here_mountain_chances_59 v_here_mountain_shows_60)) (ws' := (wd_X_tenths D h h_here h_kept h_trial h_parts h_text h_sheets h_findings h_here_ground h_here_farms h_here_mountain h_here_mountain_chances h_here_mountain_shows h_here_mountain_diary v_isKept v_here_month v_here_volume v_here_outs v_here_fed v_here_fedOuts v_here_arePigsTold v_here_mountain_seen v_here_mountain_state v_here_mountain_z v_here_mountain_chances_59 v_here_mountain_shows_60 v_findings)) X hV hl.1 (c_Mo_putTenth D h_here_mountain h_here_mountain_chances h_here_mountain_shows h_here_mountain_diary v_here_mountain_seen v_here_mountain_state v_here_mountain_z v_here_mountain_chances_56 v_here_mountain_shows_57 x1 x2 (2 : Int32) x5 hc_61) fk_Mo_putTenth gw_413 rfl 2 2 rfl rfl [2, 3, 4] [none, none, some 0, some 1, some 2, none] rfl rfl ⟨rfl, rfl, rfl, rfl, rfl, rfl, rfl, rfl, rfl, rfl, rfl, rfl, trivial⟩ rfl rfl rfl d_X_tenths_123 (fun H locs hV => ?_)
      refine lv_aload_n hx hb d_X_tenths_126 rfl (lv_at hl 1 rfl) ?_
      refine k_get X hV 0 8 0 rfl rfl rfl gw_248 rfl rfl d_X_tenths_127 ?_
      refine k_get X hV 1 5 2 rfl rfl rfl gw_143 rfl rfl d_X_tenths_130 ?_
      refine lv_iload_n hx hb d_X_tenths_133 rfl (lv_at hl 2 rfl) ?_
      refine lv_iload_n hx hb d_X_tenths_134 rfl (lv_at hl 3 rfl) ?_
      refine lv_iconst (v := 3) hx hb d_X_tenths_135 ic_3 ?_
      refine lv_bipush (v := 10) hx hb d_X_tenths_136 bp_10 ?_
      refine lv_iload_n hx hb d_X_tenths_138 rfl (lv_at hl 4 rfl) ?_
      refine lv_isub hx hb d_X_tenths_139 ?_
      refine lv_iload hx hb d_X_tenths_140 (lv_at hl 5 rfl) ?_
      refine lv_isub hx hb d_X_tenths_142 ?_
      refine lv_iload hx hb d_X_tenths_143 (lv_at hl 6 rfl) ?_
      refine lv_isub hx hb d_X_tenths_145 ?_
      obtain ⟨v_here_mountain_chances_62, v_here_mountain_shows_63, hc_64, hf⟩ := kb2_some hf
      refine k_cvv (w1 := (wd_Mo_putTenth D h_here_mountain h_here_mountain_chances h_here_mountain_shows h_here_mountain_diary v_here_mountain_seen v_here_mountain_state v_here_mountain_z v_here_mountain_chances_62 v_here_mountain_shows_63)) (ws' := (wd_X_tenths D h h_here h_kept h_trial h_parts h_text h_sheets h_findings h_here_ground h_here_farms h_here_mountain h_here_mountain_chances h_here_mountain_shows h_here_mountain_diary v_isKept v_here_month v_here_volume v_here_outs v_here_fed v_here_fedOuts v_here_arePigsTold v_here_mountain_seen v_here_mountain_state v_here_mountain_z v_here_mountain_chances_62 v_here_mountain_shows_63 v_findings)) X hV hl.1 (c_Mo_putTenth D h_here_mountain h_here_mountain_chances h_here_mountain_shows h_here_mountain_diary v_here_mountain_seen v_here_mountain_state v_here_mountain_z v_here_mountain_chances_59 v_here_mountain_shows_60 x1 x2 (3 : Int32) ((((10 : Int32) - x3) - x4) - x5) hc_64) fk_Mo_putTenth gw_413 rfl 2 2 rfl rfl [2, 3, 4] [none, none, some 0, some 1, some 2, none] rfl rfl ⟨rfl, rfl, rfl, rfl, rfl, rfl, rfl, rfl, rfl, rfl, rfl, rfl, trivial⟩ rfl rfl rfl d_X_tenths_146 (fun H locs hV => ?_)
      refine lv_iload hx hb d_X_tenths_149 (lv_at hl 0 rfl) ?_
      have e_ := Option.some.inj hf
      subst e_
      exact k_iret X rfl hV rfl d_X_tenths_151
    replace hf := kifp c_50 hf
    exact t_X_tenths_2 X hf hV (lv_sub hl [0] rfl)
  replace hf := kifp c_41 hf
  exact t_X_tenths_1 X hf hV (lv_sub hl [0] rfl)
set_option maxHeartbeats 2000000 in
set_option maxRecDepth 20000 in
theorem c_X_tenths {l : Launch} (D : kD) (h : Nat) (h_here : Nat) (h_kept : Nat) (h_trial : Nat) (h_parts : Nat) (h_text : Nat) (h_sheets : Nat) (h_findings : Nat) (h_here_ground : Nat) (h_here_farms : Nat) (h_here_mountain : Nat) (h_here_mountain_chances : Nat) (h_here_mountain_shows : Nat) (h_here_mountain_diary : Nat) (v_isKept : Int32) (v_here_month : Int32) (v_here_volume : Int32) (v_here_outs : Int32) (v_here_fed : Int32) (v_here_fedOuts : Int32) (v_here_arePigsTold : Int32) (v_here_mountain_seen : Int32) (v_here_mountain_state : Int32) (v_here_mountain_z : Int32) (v_here_mountain_chances : Nat → Int32) (v_here_mountain_shows : Nat → Int32) (v_findings : Nat → Int32) (x1 : Int32) (x2 : Int32) (x3 : Int32) (x4 : Int32) (x5 : Int32) {out : Int32 × (Nat → Int32) × (Nat → Int32) × (Nat → Int32)} (hf : f_X_tenths v_here_mountain_chances v_here_mountain_shows v_findings x1 x2 x3 x4 x5 = some out) : kMi l D y_X_tenths b_X_tenths 7 (some .int) { frames := 2, cells := 0, slots := 0, locals := 48 } [.ref h, .int x1, .int x2, .int x3, .int x4, .int x5] (wd_X_tenths D h h_here h_kept h_trial h_parts h_text h_sheets h_findings h_here_ground h_here_farms h_here_mountain h_here_mountain_chances h_here_mountain_shows h_here_mountain_diary v_isKept v_here_month v_here_volume v_here_outs v_here_fed v_here_fedOuts v_here_arePigsTold v_here_mountain_seen v_here_mountain_state v_here_mountain_z v_here_mountain_chances v_here_mountain_shows v_findings) (wd_X_tenths D h h_here h_kept h_trial h_parts h_text h_sheets h_findings h_here_ground h_here_farms h_here_mountain h_here_mountain_chances h_here_mountain_shows h_here_mountain_diary v_isKept v_here_month v_here_volume v_here_outs v_here_fed v_here_fedOuts v_here_arePigsTold v_here_mountain_seen v_here_mountain_state v_here_mountain_z out.2.1 out.2.2.1 out.2.2.2) out.1 :=
  kMi_of (own := "MountainFarms") (plainFor_of_name (by decide)) rfl rfl (fun p e s m args below meth c ls X hV hl => t_X_tenths X hf hV hl)
set_option maxHeartbeats 2000000 in
set_option maxRecDepth 20000 in
theorem t_X_tenth_1 {l : Launch} {p : Program} {e : Env} {s : State} {m : MethodId} {args : Array Value} {below : List Frame} {meth : Method} {c : Code} {D : kD} {wc0 : va_W} {h : Nat} {h_here : Nat} {h_kept : Nat} {h_trial : Nat} {h_parts : Nat} {h_text : Nat} {h_sheets : Nat} {h_findings : Nat} {h_here_ground : Nat} {h_here_farms : Nat} {h_here_mountain : Nat} {h_here_mountain_chances : Nat} {h_here_mountain_shows : Nat} {h_here_mountain_diary : Nat} {v_isKept : Int32} {v_here_month : Int32} {v_here_volume : Int32} {v_here_outs : Int32} {v_here_fed : Int32} {v_here_fedOuts : Int32} {v_here_arePigsTold : Int32} {v_here_mountain_seen : Int32} {v_here_mountain_state : Int32} {v_here_mountain_z : Int32} {v_here_mountain_chances : Nat → Int32} {v_here_mountain_shows : Nat → Int32} {v_findings : Nat → Int32} {out : Int32 × (Nat → Int32)} (X : kX p m meth c s args D (va_A wc0 s.heap.size) b_X_tenth "MountainFarms" 4 (some .int)) (hf : f_X_tenth_1 v_findings = some out) {H : Heap} {locs : List Loc} (hV : kV D (va_A wc0 s.heap.size) s (wd_X_tenth D h h_here h_kept h_trial h_parts h_text h_sheets h_findings h_here_ground h_here_farms h_here_mountain h_here_mountain_chances h_here_mountain_shows h_here_mountain_diary v_isKept v_here_month v_here_volume v_here_outs v_here_fed v_here_fedOuts v_here_arePigsTold v_here_mountain_seen v_here_mountain_state v_here_mountain_z v_here_mountain_chances v_here_mountain_shows v_findings) H locs) {ls : Array Slot} (hl : lv_has ls 4 [(0, .ref h)]) : W p l e { frames := 2, cells := 0, slots := 0, locals := 47 } s m args below meth c H locs 0 0 (MQ below (kQi D wc0 (wd_X_tenth D h h_here h_kept h_trial h_parts h_text h_sheets h_findings h_here_ground h_here_farms h_here_mountain h_here_mountain_chances h_here_mountain_shows h_here_mountain_diary v_isKept v_here_month v_here_volume v_here_outs v_here_fed v_here_fedOuts v_here_arePigsTold v_here_mountain_seen v_here_mountain_state v_here_mountain_z v_here_mountain_chances v_here_mountain_shows out.2) s.heap.size out.1) args s 0 0 (va_A wc0 s.heap.size)) (F0 m 25 ls []) := by
  unfold f_X_tenth_1 at hf
  obtain ⟨hx, hb, -⟩ := id X
  refine lv_aload_n hx hb d_X_tenth_25 rfl (lv_at hl 0 rfl) ?_
  refine lv_iconst (v := 0) hx hb d_X_tenth_26 ic_0 ?_
  obtain ⟨r_26, v_findings_27, hc_28, hf⟩ := kb2_some hf
  refine k_cvi (w1 := (wd_X_finding D h h_here h_kept h_trial h_parts h_text h_sheets h_findings v_isKept v_findings_27)) (r := r_26) (ws' := (wd_X_tenth D h h_here h_kept h_trial h_parts h_text h_sheets h_findings h_here_ground h_here_farms h_here_mountain h_here_mountain_chances h_here_mountain_shows h_here_mountain_diary v_isKept v_here_month v_here_volume v_here_outs v_here_fed v_here_fedOuts v_here_arePigsTold v_here_mountain_seen v_here_mountain_state v_here_mountain_z v_here_mountain_chances v_here_mountain_shows v_findings_27)) X hV hl.1 (c_X_finding D h h_here h_kept h_trial h_parts h_text h_sheets h_findings v_isKept v_findings (0 : Int32) hc_28) fk_X_finding gw_283 rfl 0 8 rfl rfl [0, 5] [some 0, none, none, none, none, some 1] rfl rfl ⟨rfl, rfl, rfl, rfl, rfl, rfl, rfl, rfl, rfl, rfl, trivial⟩ rfl rfl rfl d_X_tenth_27 (fun H locs hV => ?_)
  have e_ := Option.some.inj hf
  subst e_
  exact k_iret X rfl hV rfl d_X_tenth_30
set_option maxHeartbeats 2000000 in
set_option maxRecDepth 20000 in
theorem t_X_tenth {l : Launch} {p : Program} {e : Env} {s : State} {m : MethodId} {args : Array Value} {below : List Frame} {meth : Method} {c : Code} {D : kD} {wc0 : va_W} {h : Nat} {h_here : Nat} {h_kept : Nat} {h_trial : Nat} {h_parts : Nat} {h_text : Nat} {h_sheets : Nat} {h_findings : Nat} {h_here_ground : Nat} {h_here_farms : Nat} {h_here_mountain : Nat} {h_here_mountain_chances : Nat} {h_here_mountain_shows : Nat} {h_here_mountain_diary : Nat} {v_isKept : Int32} {v_here_month : Int32} {v_here_volume : Int32} {v_here_outs : Int32} {v_here_fed : Int32} {v_here_fedOuts : Int32} {v_here_arePigsTold : Int32} {v_here_mountain_seen : Int32} {v_here_mountain_state : Int32} {v_here_mountain_z : Int32} {v_here_mountain_chances : Nat → Int32} {v_here_mountain_shows : Nat → Int32} {v_findings : Nat → Int32} {x1 : Int32} {x2 : Int32} {x3 : Int32} {out : Int32 × (Nat → Int32)} (X : kX p m meth c s args D (va_A wc0 s.heap.size) b_X_tenth "MountainFarms" 4 (some .int)) (hf : f_X_tenth v_here_mountain_chances v_here_mountain_shows v_findings x1 x2 x3 = some out) {H : Heap} {locs : List Loc} (hV : kV D (va_A wc0 s.heap.size) s (wd_X_tenth D h h_here h_kept h_trial h_parts h_text h_sheets h_findings h_here_ground h_here_farms h_here_mountain h_here_mountain_chances h_here_mountain_shows h_here_mountain_diary v_isKept v_here_month v_here_volume v_here_outs v_here_fed v_here_fedOuts v_here_arePigsTold v_here_mountain_seen v_here_mountain_state v_here_mountain_z v_here_mountain_chances v_here_mountain_shows v_findings) H locs) {ls : Array Slot} (hl : lv_has ls 4 [(0, .ref h), (1, .int x1), (2, .int x2), (3, .int x3)]) : W p l e { frames := 2, cells := 0, slots := 0, locals := 47 } s m args below meth c H locs 0 0 (MQ below (kQi D wc0 (wd_X_tenth D h h_here h_kept h_trial h_parts h_text h_sheets h_findings h_here_ground h_here_farms h_here_mountain h_here_mountain_chances h_here_mountain_shows h_here_mountain_diary v_isKept v_here_month v_here_volume v_here_outs v_here_fed v_here_fedOuts v_here_arePigsTold v_here_mountain_seen v_here_mountain_state v_here_mountain_z v_here_mountain_chances v_here_mountain_shows out.2) s.heap.size out.1) args s 0 0 (va_A wc0 s.heap.size)) (F0 m 0 ls []) := by
  unfold f_X_tenth at hf
  obtain ⟨hx, hb, -⟩ := id X
  refine lv_iload_n hx hb d_X_tenth_0 rfl (lv_at hl 1 rfl) ?_
  refine lv_iconst (v := 0) hx hb d_X_tenth_1 ic_0 ?_
  refine lv_iconst (v := 1) hx hb d_X_tenth_2 ic_1 ?_
  obtain ⟨r_15, hc_16, hf⟩ := kb1_some hf
  refine k_csi (w1 := (wd_X_isWithin D)) (r := r_15) (ws' := (wd_X_tenth D h h_here h_kept h_trial h_parts h_text h_sheets h_findings h_here_ground h_here_farms h_here_mountain h_here_mountain_chances h_here_mountain_shows h_here_mountain_diary v_isKept v_here_month v_here_volume v_here_outs v_here_fed v_here_fedOuts v_here_arePigsTold v_here_mountain_seen v_here_mountain_state v_here_mountain_z v_here_mountain_chances v_here_mountain_shows v_findings)) X hV hl.1 (c_X_isWithin D x1 (0 : Int32) (1 : Int32) hc_16) fk_X_isWithin gw_280 rfl [] [none, none, none, none, none, none] rfl rfl ⟨rfl, rfl, rfl, rfl, rfl, rfl, trivial⟩ rfl rfl rfl d_X_tenth_3 (fun H locs hV => ?_)
  refine lv_if_eq (tgt := 25) hx hb d_X_tenth_6 (by decide) (fun c_17 => ?_) (fun c_17 => ?_)
  · replace hf := kifp c_17 hf
    exact t_X_tenth_1 X hf hV (lv_sub hl [0] rfl)
  replace hf := kifn c_17 hf
  refine lv_iload_n hx hb d_X_tenth_9 rfl (lv_at hl 2 rfl) ?_
  obtain ⟨r_18, hc_19, hf⟩ := kb1_some hf
  refine k_csi (w1 := (wd_X_isState D)) (r := r_18) (ws' := (wd_X_tenth D h h_here h_kept h_trial h_parts h_text h_sheets h_findings h_here_ground h_here_farms h_here_mountain h_here_mountain_chances h_here_mountain_shows h_here_mountain_diary v_isKept v_here_month v_here_volume v_here_outs v_here_fed v_here_fedOuts v_here_arePigsTold v_here_mountain_seen v_here_mountain_state v_here_mountain_z v_here_mountain_chances v_here_mountain_shows v_findings)) X hV hl.1 (c_X_isState D x2 hc_19) fk_X_isState gw_405 rfl [] [none, none, none, none, none, none] rfl rfl ⟨rfl, rfl, rfl, rfl, rfl, rfl, trivial⟩ rfl rfl rfl d_X_tenth_10 (fun H locs hV => ?_)
  refine lv_if_eq (tgt := 25) hx hb d_X_tenth_13 (by decide) (fun c_20 => ?_) (fun c_20 => ?_)
  · replace hf := kifp c_20 hf
    exact t_X_tenth_1 X hf hV (lv_sub hl [0] rfl)
  replace hf := kifn c_20 hf
  refine lv_iload_n hx hb d_X_tenth_16 rfl (lv_at hl 3 rfl) ?_
  refine lv_iconst (v := 0) hx hb d_X_tenth_17 ic_0 ?_
  refine lv_iconst (v := 3) hx hb d_X_tenth_18 ic_3 ?_
  obtain ⟨r_21, hc_22, hf⟩ := kb1_some hf
  refine k_csi (w1 := (wd_X_isWithin D)) (r := r_21) (ws' := (wd_X_tenth D h h_here h_kept h_trial h_parts h_text h_sheets h_findings h_here_ground h_here_farms h_here_mountain h_here_mountain_chances h_here_mountain_shows h_here_mountain_diary v_isKept v_here_month v_here_volume v_here_outs v_here_fed v_here_fedOuts v_here_arePigsTold v_here_mountain_seen v_here_mountain_state v_here_mountain_z v_here_mountain_chances v_here_mountain_shows v_findings)) X hV hl.1 (c_X_isWithin D x3 (0 : Int32) (3 : Int32) hc_22) fk_X_isWithin gw_280 rfl [] [none, none, none, none, none, none] rfl rfl ⟨rfl, rfl, rfl, rfl, rfl, rfl, trivial⟩ rfl rfl rfl d_X_tenth_19 (fun H locs hV => ?_)
  refine lv_if_ne (tgt := 31) hx hb d_X_tenth_22 (by decide) (fun c_23 => ?_) (fun c_23 => ?_)
  · replace hf := kifn c_23 hf
    refine lv_aload_n hx hb d_X_tenth_31 rfl (lv_at hl 0 rfl) ?_
    refine k_get X hV 0 8 0 rfl rfl rfl gw_248 rfl rfl d_X_tenth_32 ?_
    refine k_get X hV 1 5 2 rfl rfl rfl gw_143 rfl rfl d_X_tenth_35 ?_
    refine lv_iload_n hx hb d_X_tenth_38 rfl (lv_at hl 1 rfl) ?_
    refine lv_iload_n hx hb d_X_tenth_39 rfl (lv_at hl 2 rfl) ?_
    refine lv_iload_n hx hb d_X_tenth_40 rfl (lv_at hl 3 rfl) ?_
    obtain ⟨r_24, hc_25, hf⟩ := kb1_some hf
    refine k_cvi (w1 := (wd_Mo_tenthAt D h_here_mountain h_here_mountain_chances h_here_mountain_shows h_here_mountain_diary v_here_mountain_seen v_here_mountain_state v_here_mountain_z v_here_mountain_chances v_here_mountain_shows)) (r := r_24) (ws' := (wd_X_tenth D h h_here h_kept h_trial h_parts h_text h_sheets h_findings h_here_ground h_here_farms h_here_mountain h_here_mountain_chances h_here_mountain_shows h_here_mountain_diary v_isKept v_here_month v_here_volume v_here_outs v_here_fed v_here_fedOuts v_here_arePigsTold v_here_mountain_seen v_here_mountain_state v_here_mountain_z v_here_mountain_chances v_here_mountain_shows v_findings)) X hV hl.1 (c_Mo_tenthAt D h_here_mountain h_here_mountain_chances h_here_mountain_shows h_here_mountain_diary v_here_mountain_seen v_here_mountain_state v_here_mountain_z v_here_mountain_chances v_here_mountain_shows x1 x2 x3 hc_25) fk_Mo_tenthAt gw_408 rfl 2 2 rfl rfl [2, 3, 4] [none, none, some 0, some 1, some 2, none] rfl rfl ⟨rfl, rfl, rfl, rfl, rfl, rfl, rfl, rfl, rfl, rfl, rfl, rfl, trivial⟩ rfl rfl rfl d_X_tenth_41 (fun H locs hV => ?_)
    have e_ := Option.some.inj hf
    subst e_
    exact k_iret X rfl hV rfl d_X_tenth_44
  replace hf := kifp c_23 hf
  exact t_X_tenth_1 X hf hV (lv_sub hl [0] rfl)
set_option maxHeartbeats 2000000 in
set_option maxRecDepth 20000 in
theorem c_X_tenth {l : Launch} (D : kD) (h : Nat) (h_here : Nat) (h_kept : Nat) (h_trial : Nat) (h_parts : Nat) (h_text : Nat) (h_sheets : Nat) (h_findings : Nat) (h_here_ground : Nat) (h_here_farms : Nat) (h_here_mountain : Nat) (h_here_mountain_chances : Nat) (h_here_mountain_shows : Nat) (h_here_mountain_diary : Nat) (v_isKept : Int32) (v_here_month : Int32) (v_here_volume : Int32) (v_here_outs : Int32) (v_here_fed : Int32) (v_here_fedOuts : Int32) (v_here_arePigsTold : Int32) (v_here_mountain_seen : Int32) (v_here_mountain_state : Int32) (v_here_mountain_z : Int32) (v_here_mountain_chances : Nat → Int32) (v_here_mountain_shows : Nat → Int32) (v_findings : Nat → Int32) (x1 : Int32) (x2 : Int32) (x3 : Int32) {out : Int32 × (Nat → Int32)} (hf : f_X_tenth v_here_mountain_chances v_here_mountain_shows v_findings x1 x2 x3 = some out) : kMi l D y_X_tenth b_X_tenth 4 (some .int) { frames := 2, cells := 0, slots := 0, locals := 47 } [.ref h, .int x1, .int x2, .int x3] (wd_X_tenth D h h_here h_kept h_trial h_parts h_text h_sheets h_findings h_here_ground h_here_farms h_here_mountain h_here_mountain_chances h_here_mountain_shows h_here_mountain_diary v_isKept v_here_month v_here_volume v_here_outs v_here_fed v_here_fedOuts v_here_arePigsTold v_here_mountain_seen v_here_mountain_state v_here_mountain_z v_here_mountain_chances v_here_mountain_shows v_findings) (wd_X_tenth D h h_here h_kept h_trial h_parts h_text h_sheets h_findings h_here_ground h_here_farms h_here_mountain h_here_mountain_chances h_here_mountain_shows h_here_mountain_diary v_isKept v_here_month v_here_volume v_here_outs v_here_fed v_here_fedOuts v_here_arePigsTold v_here_mountain_seen v_here_mountain_state v_here_mountain_z v_here_mountain_chances v_here_mountain_shows out.2) out.1 :=
  kMi_of (own := "MountainFarms") (plainFor_of_name (by decide)) rfl rfl (fun p e s m args below meth c ls X hV hl => t_X_tenth X hf hV hl)
set_option maxHeartbeats 2000000 in
set_option maxRecDepth 20000 in
theorem t_X_isSign {l : Launch} {p : Program} {e : Env} {s : State} {m : MethodId} {args : Array Value} {below : List Frame} {meth : Method} {c : Code} {D : kD} {wc0 : va_W} {x0 : Int32} {out : Int32} (X : kX p m meth c s args D (va_A wc0 s.heap.size) b_X_isSign "MountainFarms" 1 (some .boolean)) (hf : f_X_isSign x0 = some out) {H : Heap} {locs : List Loc} (hV : kV D (va_A wc0 s.heap.size) s (wd_X_isSign D) H locs) {ls : Array Slot} (hl : lv_has ls 1 [(0, .int x0)]) : W p l e { frames := 1, cells := 0, slots := 0, locals := 22 } s m args below meth c H locs 0 0 (MQ below (kQi D wc0 (wd_X_isSign D) s.heap.size out) args s 0 0 (va_A wc0 s.heap.size)) (F0 m 0 ls []) := by
  unfold f_X_isSign at hf
  obtain ⟨hx, hb, -⟩ := id X
  refine lv_iload_n hx hb d_X_isSign_0 rfl (lv_at hl 0 rfl) ?_
  refine lv_iconst (v := 0) hx hb d_X_isSign_1 ic_0 ?_
  refine lv_iconst (v := 3) hx hb d_X_isSign_2 ic_3 ?_
  obtain ⟨r_4, hc_5, hf⟩ := kb1_some hf
  refine k_csi (w1 := (wd_X_isWithin D)) (r := r_4) (ws' := (wd_X_isSign D)) X hV hl.1 (c_X_isWithin D x0 (0 : Int32) (3 : Int32) hc_5) fk_X_isWithin gw_280 rfl [] [] rfl rfl trivial rfl rfl rfl d_X_isSign_3 (fun H locs hV => ?_)
  obtain ⟨h_6, hf⟩ := kchk hf
  have e_ := Option.some.inj hf
  subst e_
  exact k_iret X rfl hV (knarB h_6) d_X_isSign_6
set_option maxHeartbeats 2000000 in
set_option maxRecDepth 20000 in
theorem c_X_isSign {l : Launch} (D : kD) (x0 : Int32) {out : Int32} (hf : f_X_isSign x0 = some out) : kMi l D y_X_isSign b_X_isSign 1 (some .boolean) { frames := 1, cells := 0, slots := 0, locals := 22 } [.int x0] (wd_X_isSign D) (wd_X_isSign D) out :=
  kMi_of (own := "MountainFarms") (plainFor_of_name (by decide)) rfl rfl (fun p e s m args below meth c ls X hV hl => t_X_isSign X hf hV hl)
set_option maxHeartbeats 2000000 in
set_option maxRecDepth 20000 in
theorem t_Mo_isDiaryFull {l : Launch} {p : Program} {e : Env} {s : State} {m : MethodId} {args : Array Value} {below : List Frame} {meth : Method} {c : Code} {D : kD} {wc0 : va_W} {h : Nat} {h_chances : Nat} {h_shows : Nat} {h_diary : Nat} {v_seen : Int32} {v_state : Int32} {v_z : Int32} {out : Int32} (X : kX p m meth c s args D (va_A wc0 s.heap.size) b_Mo_isDiaryFull "MountainFarms$Mountain" 1 (some .boolean)) (hf : f_Mo_isDiaryFull v_seen = some out) {H : Heap} {locs : List Loc} (hV : kV D (va_A wc0 s.heap.size) s (wd_Mo_isDiaryFull D h h_chances h_shows h_diary v_seen v_state v_z) H locs) {ls : Array Slot} (hl : lv_has ls 1 [(0, .ref h)]) : W p l e { frames := 0, cells := 0, slots := 0, locals := 0 } s m args below meth c H locs 0 0 (MQ below (kQi D wc0 (wd_Mo_isDiaryFull D h h_chances h_shows h_diary v_seen v_state v_z) s.heap.size out) args s 0 0 (va_A wc0 s.heap.size)) (F0 m 0 ls []) := by
  unfold f_Mo_isDiaryFull at hf
  obtain ⟨hx, hb, -⟩ := id X
  refine lv_aload_n hx hb d_Mo_isDiaryFull_0 rfl (lv_at hl 0 rfl) ?_
  refine k_get X hV 0 2 3 rfl rfl rfl gw_114 rfl rfl d_Mo_isDiaryFull_1 ?_
  refine lv_bipush (v := 6) hx hb d_Mo_isDiaryFull_4 bp_6 ?_
  refine lv_icmp_lt (tgt := 13) hx hb d_Mo_isDiaryFull_6 (by decide) (fun c_2 => ?_) (fun c_2 => ?_)
  · replace hf := kifp c_2 hf
    refine lv_iconst (v := 0) hx hb d_Mo_isDiaryFull_13 ic_0 ?_
    have e_ := Option.some.inj hf
    subst e_
    exact k_iret (v := 0) X rfl hV nb0 d_Mo_isDiaryFull_14
  replace hf := kifn c_2 hf
  refine lv_iconst (v := 1) hx hb d_Mo_isDiaryFull_9 ic_1 ?_
  refine lv_goto (tgt := 14) hx hb d_Mo_isDiaryFull_10 (by decide) ?_
  have e_ := Option.some.inj hf
  subst e_
  exact k_iret (v := 1) X rfl hV nb1 d_Mo_isDiaryFull_14
set_option maxHeartbeats 2000000 in
set_option maxRecDepth 20000 in
theorem c_Mo_isDiaryFull {l : Launch} (D : kD) (h : Nat) (h_chances : Nat) (h_shows : Nat) (h_diary : Nat) (v_seen : Int32) (v_state : Int32) (v_z : Int32) {out : Int32} (hf : f_Mo_isDiaryFull v_seen = some out) : kMi l D y_Mo_isDiaryFull b_Mo_isDiaryFull 1 (some .boolean) { frames := 0, cells := 0, slots := 0, locals := 0 } [.ref h] (wd_Mo_isDiaryFull D h h_chances h_shows h_diary v_seen v_state v_z) (wd_Mo_isDiaryFull D h h_chances h_shows h_diary v_seen v_state v_z) out :=
  kMi_of (own := "MountainFarms$Mountain") (plainFor_of_name (by decide)) rfl rfl (fun p e s m args below meth c ls X hV hl => t_Mo_isDiaryFull X hf hV hl)
set_option maxHeartbeats 2000000 in
set_option maxRecDepth 20000 in
theorem t_Mo_addSign {l : Launch} {p : Program} {e : Env} {s : State} {m : MethodId} {args : Array Value} {below : List Frame} {meth : Method} {c : Code} {D : kD} {wc0 : va_W} {h : Nat} {h_chances : Nat} {h_shows : Nat} {h_diary : Nat} {v_seen : Int32} {v_state : Int32} {v_z : Int32} {v_diary : Nat → Int32} {x1 : Int32} {out : Int32 × (Nat → Int32)} (X : kX p m meth c s args D (va_A wc0 s.heap.size) b_Mo_addSign "MountainFarms$Mountain" 2 none) (hf : f_Mo_addSign v_seen v_diary x1 = some out) {H : Heap} {locs : List Loc} (hV : kV D (va_A wc0 s.heap.size) s (wd_Mo_addSign D h h_chances h_shows h_diary v_seen v_state v_z v_diary) H locs) {ls : Array Slot} (hl : lv_has ls 2 [(0, .ref h), (1, .int x1)]) : W p l e { frames := 1, cells := 0, slots := 0, locals := 20 } s m args below meth c H locs 0 0 (MQ below (kQv D wc0 (wd_Mo_addSign D h h_chances h_shows h_diary out.1 v_state v_z out.2) s.heap.size) args s 0 0 (va_A wc0 s.heap.size)) (F0 m 0 ls []) := by
  unfold f_Mo_addSign at hf
  obtain ⟨hx, hb, -⟩ := id X
  refine lv_aload_n hx hb d_Mo_addSign_0 rfl (lv_at hl 0 rfl) ?_
  obtain ⟨r_5, hc_6, hf⟩ := kb1_some hf
  refine k_cvi (w1 := (wd_Mo_isDiaryFull D h h_chances h_shows h_diary v_seen v_state v_z)) (r := r_5) (ws' := (wd_Mo_addSign D h h_chances h_shows h_diary v_seen v_state v_z v_diary)) X hV hl.1 (c_Mo_isDiaryFull D h h_chances h_shows h_diary v_seen v_state v_z hc_6) fk_Mo_isDiaryFull gw_436 rfl 0 2 rfl rfl [0] [some 0, none] rfl rfl ⟨rfl, rfl, rfl, rfl, trivial⟩ rfl rfl rfl d_Mo_addSign_1 (fun H locs hV => ?_)
  refine lv_if_ne (tgt := 27) hx hb d_Mo_addSign_4 (by decide) (fun c_7 => ?_) (fun c_7 => ?_)
  · replace hf := kifn c_7 hf
    have e_ := Option.some.inj hf
    subst e_
    exact k_vret X rfl hV d_Mo_addSign_27
  replace hf := kifp c_7 hf
  refine lv_aload_n hx hb d_Mo_addSign_7 rfl (lv_at hl 0 rfl) ?_
  refine k_get X hV 0 2 2 rfl rfl rfl gw_112 rfl rfl d_Mo_addSign_8 ?_
  refine lv_aload_n hx hb d_Mo_addSign_11 rfl (lv_at hl 0 rfl) ?_
  refine k_get X hV 0 2 3 rfl rfl rfl gw_114 rfl rfl d_Mo_addSign_12 ?_
  refine lv_iload_n hx hb d_Mo_addSign_15 rfl (lv_at hl 1 rfl) ?_
  obtain ⟨h_8, hf⟩ := kidx_some hf
  refine k_iast (ws' := (wd_Mo_addSign D h h_chances h_shows h_diary v_seen v_state v_z (upd v_diary v_seen.toNatClampNeg x1))) X hV 1 rfl h_8 rfl rfl d_Mo_addSign_16 (fun H locs hV => ?_)
  refine lv_aload_n hx hb d_Mo_addSign_17 rfl (lv_at hl 0 rfl) ?_
  refine lv_dup hx hb d_Mo_addSign_18 rfl ?_
  refine k_get X hV 0 2 3 rfl rfl rfl gw_114 rfl rfl d_Mo_addSign_19 ?_
  refine lv_iconst (v := 1) hx hb d_Mo_addSign_22 ic_1 ?_
  refine lv_iadd hx hb d_Mo_addSign_23 ?_
  refine k_putv (ty := .int) (ws' := (wd_Mo_addSign D h h_chances h_shows h_diary (v_seen + (1 : Int32)) v_state v_z (upd v_diary v_seen.toNatClampNeg x1))) X hV 0 2 3 rfl rfl rfl gw_114 rfl rfl rfl rfl rfl rfl rfl d_Mo_addSign_24 (fun H locs hV => ?_)
  have e_ := Option.some.inj hf
  subst e_
  exact k_vret X rfl hV d_Mo_addSign_27
set_option maxHeartbeats 2000000 in
set_option maxRecDepth 20000 in
theorem c_Mo_addSign {l : Launch} (D : kD) (h : Nat) (h_chances : Nat) (h_shows : Nat) (h_diary : Nat) (v_seen : Int32) (v_state : Int32) (v_z : Int32) (v_diary : Nat → Int32) (x1 : Int32) {out : Int32 × (Nat → Int32)} (hf : f_Mo_addSign v_seen v_diary x1 = some out) : kMv l D y_Mo_addSign b_Mo_addSign 2 none { frames := 1, cells := 0, slots := 0, locals := 20 } [.ref h, .int x1] (wd_Mo_addSign D h h_chances h_shows h_diary v_seen v_state v_z v_diary) (wd_Mo_addSign D h h_chances h_shows h_diary out.1 v_state v_z out.2) :=
  kMv_of (own := "MountainFarms$Mountain") (plainFor_of_name (by decide)) rfl rfl (fun p e s m args below meth c ls X hV hl => t_Mo_addSign X hf hV hl)
set_option maxHeartbeats 2000000 in
set_option maxRecDepth 20000 in
theorem t_X_sees {l : Launch} {p : Program} {e : Env} {s : State} {m : MethodId} {args : Array Value} {below : List Frame} {meth : Method} {c : Code} {D : kD} {wc0 : va_W} {h : Nat} {h_here : Nat} {h_kept : Nat} {h_trial : Nat} {h_parts : Nat} {h_text : Nat} {h_sheets : Nat} {h_findings : Nat} {h_here_ground : Nat} {h_here_farms : Nat} {h_here_mountain : Nat} {h_here_mountain_chances : Nat} {h_here_mountain_shows : Nat} {h_here_mountain_diary : Nat} {v_isKept : Int32} {v_here_month : Int32} {v_here_volume : Int32} {v_here_outs : Int32} {v_here_fed : Int32} {v_here_fedOuts : Int32} {v_here_arePigsTold : Int32} {v_here_mountain_seen : Int32} {v_here_mountain_state : Int32} {v_here_mountain_z : Int32} {v_here_mountain_diary : Nat → Int32} {v_findings : Nat → Int32} {x1 : Int32} {out : Int32 × Int32 × (Nat → Int32) × (Nat → Int32)} (X : kX p m meth c s args D (va_A wc0 s.heap.size) b_X_sees "MountainFarms" 2 (some .int)) (hf : f_X_sees v_here_mountain_seen v_here_mountain_diary v_findings x1 = some out) {H : Heap} {locs : List Loc} (hV : kV D (va_A wc0 s.heap.size) s (wd_X_sees D h h_here h_kept h_trial h_parts h_text h_sheets h_findings h_here_ground h_here_farms h_here_mountain h_here_mountain_chances h_here_mountain_shows h_here_mountain_diary v_isKept v_here_month v_here_volume v_here_outs v_here_fed v_here_fedOuts v_here_arePigsTold v_here_mountain_seen v_here_mountain_state v_here_mountain_z v_here_mountain_diary v_findings) H locs) {ls : Array Slot} (hl : lv_has ls 2 [(0, .ref h), (1, .int x1)]) : W p l e { frames := 2, cells := 0, slots := 0, locals := 43 } s m args below meth c H locs 0 0 (MQ below (kQi D wc0 (wd_X_sees D h h_here h_kept h_trial h_parts h_text h_sheets h_findings h_here_ground h_here_farms h_here_mountain h_here_mountain_chances h_here_mountain_shows h_here_mountain_diary v_isKept v_here_month v_here_volume v_here_outs v_here_fed v_here_fedOuts v_here_arePigsTold out.2.1 v_here_mountain_state v_here_mountain_z out.2.2.1 out.2.2.2) s.heap.size out.1) args s 0 0 (va_A wc0 s.heap.size)) (F0 m 0 ls []) := by
  unfold f_X_sees at hf
  obtain ⟨hx, hb, -⟩ := id X
  refine lv_iload_n hx hb d_X_sees_0 rfl (lv_at hl 1 rfl) ?_
  obtain ⟨r_16, hc_17, hf⟩ := kb1_some hf
  refine k_csi (w1 := (wd_X_isSign D)) (r := r_16) (ws' := (wd_X_sees D h h_here h_kept h_trial h_parts h_text h_sheets h_findings h_here_ground h_here_farms h_here_mountain h_here_mountain_chances h_here_mountain_shows h_here_mountain_diary v_isKept v_here_month v_here_volume v_here_outs v_here_fed v_here_fedOuts v_here_arePigsTold v_here_mountain_seen v_here_mountain_state v_here_mountain_z v_here_mountain_diary v_findings)) X hV hl.1 (c_X_isSign D x1 hc_17) fk_X_isSign gw_425 rfl [] [none, none, none, none, none] rfl rfl ⟨rfl, rfl, rfl, rfl, rfl, trivial⟩ rfl rfl rfl d_X_sees_1 (fun H locs hV => ?_)
  refine lv_if_ne (tgt := 13) hx hb d_X_sees_4 (by decide) (fun c_18 => ?_) (fun c_18 => ?_)
  · replace hf := kifn c_18 hf
    refine lv_aload_n hx hb d_X_sees_13 rfl (lv_at hl 0 rfl) ?_
    refine k_get X hV 0 8 0 rfl rfl rfl gw_248 rfl rfl d_X_sees_14 ?_
    refine k_get X hV 1 5 2 rfl rfl rfl gw_143 rfl rfl d_X_sees_17 ?_
    obtain ⟨r_19, hc_20, hf⟩ := kb1_some hf
    refine k_cvi (w1 := (wd_Mo_isDiaryFull D h_here_mountain h_here_mountain_chances h_here_mountain_shows h_here_mountain_diary v_here_mountain_seen v_here_mountain_state v_here_mountain_z)) (r := r_19) (ws' := (wd_X_sees D h h_here h_kept h_trial h_parts h_text h_sheets h_findings h_here_ground h_here_farms h_here_mountain h_here_mountain_chances h_here_mountain_shows h_here_mountain_diary v_isKept v_here_month v_here_volume v_here_outs v_here_fed v_here_fedOuts v_here_arePigsTold v_here_mountain_seen v_here_mountain_state v_here_mountain_z v_here_mountain_diary v_findings)) X hV hl.1 (c_Mo_isDiaryFull D h_here_mountain h_here_mountain_chances h_here_mountain_shows h_here_mountain_diary v_here_mountain_seen v_here_mountain_state v_here_mountain_z hc_20) fk_Mo_isDiaryFull gw_428 rfl 2 2 rfl rfl [2] [none, none, some 0, none, none] rfl rfl ⟨rfl, rfl, rfl, rfl, rfl, rfl, rfl, trivial⟩ rfl rfl rfl d_X_sees_20 (fun H locs hV => ?_)
    refine lv_if_eq (tgt := 32) hx hb d_X_sees_23 (by decide) (fun c_21 => ?_) (fun c_21 => ?_)
    · replace hf := kifp c_21 hf
      refine lv_aload_n hx hb d_X_sees_32 rfl (lv_at hl 0 rfl) ?_
      refine k_get X hV 0 8 0 rfl rfl rfl gw_248 rfl rfl d_X_sees_33 ?_
      refine k_get X hV 1 5 2 rfl rfl rfl gw_143 rfl rfl d_X_sees_36 ?_
      refine lv_iload_n hx hb d_X_sees_39 rfl (lv_at hl 1 rfl) ?_
      obtain ⟨v_here_mountain_seen_22, v_here_mountain_diary_23, hc_24, hf⟩ := kb2_some hf
      refine k_cvv (w1 := (wd_Mo_addSign D h_here_mountain h_here_mountain_chances h_here_mountain_shows h_here_mountain_diary v_here_mountain_seen_22 v_here_mountain_state v_here_mountain_z v_here_mountain_diary_23)) (ws' := (wd_X_sees D h h_here h_kept h_trial h_parts h_text h_sheets h_findings h_here_ground h_here_farms h_here_mountain h_here_mountain_chances h_here_mountain_shows h_here_mountain_diary v_isKept v_here_month v_here_volume v_here_outs v_here_fed v_here_fedOuts v_here_arePigsTold v_here_mountain_seen_22 v_here_mountain_state v_here_mountain_z v_here_mountain_diary_23 v_findings)) X hV hl.1 (c_Mo_addSign D h_here_mountain h_here_mountain_chances h_here_mountain_shows h_here_mountain_diary v_here_mountain_seen v_here_mountain_state v_here_mountain_z v_here_mountain_diary x1 hc_24) fk_Mo_addSign gw_432 rfl 2 2 rfl rfl [2, 3] [none, none, some 0, some 1, none] rfl rfl ⟨rfl, rfl, rfl, rfl, rfl, rfl, rfl, rfl, rfl, trivial⟩ rfl rfl rfl d_X_sees_40 (fun H locs hV => ?_)
      refine lv_aload_n hx hb d_X_sees_43 rfl (lv_at hl 0 rfl) ?_
      refine k_get X hV 0 8 0 rfl rfl rfl gw_248 rfl rfl d_X_sees_44 ?_
      refine k_get X hV 1 5 2 rfl rfl rfl gw_143 rfl rfl d_X_sees_47 ?_
      refine k_get X hV 2 2 3 rfl rfl rfl gw_117 rfl rfl d_X_sees_50 ?_
      have e_ := Option.some.inj hf
      subst e_
      exact k_iret X rfl hV rfl d_X_sees_53
    replace hf := kifn c_21 hf
    refine lv_aload_n hx hb d_X_sees_26 rfl (lv_at hl 0 rfl) ?_
    refine lv_iconst (v := 1) hx hb d_X_sees_27 ic_1 ?_
    obtain ⟨r_25, v_findings_26, hc_27, hf⟩ := kb2_some hf
    refine k_cvi (w1 := (wd_X_finding D h h_here h_kept h_trial h_parts h_text h_sheets h_findings v_isKept v_findings_26)) (r := r_25) (ws' := (wd_X_sees D h h_here h_kept h_trial h_parts h_text h_sheets h_findings h_here_ground h_here_farms h_here_mountain h_here_mountain_chances h_here_mountain_shows h_here_mountain_diary v_isKept v_here_month v_here_volume v_here_outs v_here_fed v_here_fedOuts v_here_arePigsTold v_here_mountain_seen v_here_mountain_state v_here_mountain_z v_here_mountain_diary v_findings_26)) X hV hl.1 (c_X_finding D h h_here h_kept h_trial h_parts h_text h_sheets h_findings v_isKept v_findings (1 : Int32) hc_27) fk_X_finding gw_283 rfl 0 8 rfl rfl [0, 4] [some 0, none, none, none, some 1] rfl rfl ⟨rfl, rfl, rfl, rfl, rfl, rfl, rfl, rfl, rfl, trivial⟩ rfl rfl rfl d_X_sees_28 (fun H locs hV => ?_)
    have e_ := Option.some.inj hf
    subst e_
    exact k_iret X rfl hV rfl d_X_sees_31
  replace hf := kifp c_18 hf
  refine lv_aload_n hx hb d_X_sees_7 rfl (lv_at hl 0 rfl) ?_
  refine lv_iconst (v := 0) hx hb d_X_sees_8 ic_0 ?_
  obtain ⟨r_28, v_findings_29, hc_30, hf⟩ := kb2_some hf
  refine k_cvi (w1 := (wd_X_finding D h h_here h_kept h_trial h_parts h_text h_sheets h_findings v_isKept v_findings_29)) (r := r_28) (ws' := (wd_X_sees D h h_here h_kept h_trial h_parts h_text h_sheets h_findings h_here_ground h_here_farms h_here_mountain h_here_mountain_chances h_here_mountain_shows h_here_mountain_diary v_isKept v_here_month v_here_volume v_here_outs v_here_fed v_here_fedOuts v_here_arePigsTold v_here_mountain_seen v_here_mountain_state v_here_mountain_z v_here_mountain_diary v_findings_29)) X hV hl.1 (c_X_finding D h h_here h_kept h_trial h_parts h_text h_sheets h_findings v_isKept v_findings (0 : Int32) hc_30) fk_X_finding gw_283 rfl 0 8 rfl rfl [0, 4] [some 0, none, none, none, some 1] rfl rfl ⟨rfl, rfl, rfl, rfl, rfl, rfl, rfl, rfl, rfl, trivial⟩ rfl rfl rfl d_X_sees_9 (fun H locs hV => ?_)
  have e_ := Option.some.inj hf
  subst e_
  exact k_iret X rfl hV rfl d_X_sees_12
set_option maxHeartbeats 2000000 in
set_option maxRecDepth 20000 in
theorem c_X_sees {l : Launch} (D : kD) (h : Nat) (h_here : Nat) (h_kept : Nat) (h_trial : Nat) (h_parts : Nat) (h_text : Nat) (h_sheets : Nat) (h_findings : Nat) (h_here_ground : Nat) (h_here_farms : Nat) (h_here_mountain : Nat) (h_here_mountain_chances : Nat) (h_here_mountain_shows : Nat) (h_here_mountain_diary : Nat) (v_isKept : Int32) (v_here_month : Int32) (v_here_volume : Int32) (v_here_outs : Int32) (v_here_fed : Int32) (v_here_fedOuts : Int32) (v_here_arePigsTold : Int32) (v_here_mountain_seen : Int32) (v_here_mountain_state : Int32) (v_here_mountain_z : Int32) (v_here_mountain_diary : Nat → Int32) (v_findings : Nat → Int32) (x1 : Int32) {out : Int32 × Int32 × (Nat → Int32) × (Nat → Int32)} (hf : f_X_sees v_here_mountain_seen v_here_mountain_diary v_findings x1 = some out) : kMi l D y_X_sees b_X_sees 2 (some .int) { frames := 2, cells := 0, slots := 0, locals := 43 } [.ref h, .int x1] (wd_X_sees D h h_here h_kept h_trial h_parts h_text h_sheets h_findings h_here_ground h_here_farms h_here_mountain h_here_mountain_chances h_here_mountain_shows h_here_mountain_diary v_isKept v_here_month v_here_volume v_here_outs v_here_fed v_here_fedOuts v_here_arePigsTold v_here_mountain_seen v_here_mountain_state v_here_mountain_z v_here_mountain_diary v_findings) (wd_X_sees D h h_here h_kept h_trial h_parts h_text h_sheets h_findings h_here_ground h_here_farms h_here_mountain h_here_mountain_chances h_here_mountain_shows h_here_mountain_diary v_isKept v_here_month v_here_volume v_here_outs v_here_fed v_here_fedOuts v_here_arePigsTold out.2.1 v_here_mountain_state v_here_mountain_z out.2.2.1 out.2.2.2) out.1 :=
  kMi_of (own := "MountainFarms") (plainFor_of_name (by decide)) rfl rfl (fun p e s m args below meth c ls X hV hl => t_X_sees X hf hV hl)
set_option maxHeartbeats 2000000 in
set_option maxRecDepth 20000 in
theorem t_X_burn {l : Launch} {p : Program} {e : Env} {s : State} {m : MethodId} {args : Array Value} {below : List Frame} {meth : Method} {c : Code} {D : kD} {wc0 : va_W} {h : Nat} {h_here : Nat} {h_kept : Nat} {h_trial : Nat} {h_parts : Nat} {h_text : Nat} {h_sheets : Nat} {h_findings : Nat} {h_here_ground : Nat} {h_here_farms : Nat} {h_here_mountain : Nat} {h_here_mountain_chances : Nat} {h_here_mountain_shows : Nat} {h_here_mountain_diary : Nat} {v_isKept : Int32} {v_here_month : Int32} {v_here_volume : Int32} {v_here_outs : Int32} {v_here_fed : Int32} {v_here_fedOuts : Int32} {v_here_arePigsTold : Int32} {v_here_mountain_seen : Int32} {v_here_mountain_state : Int32} {v_here_mountain_z : Int32} {out : Int32 × Int32} (X : kX p m meth c s args D (va_A wc0 s.heap.size) b_X_burn "MountainFarms" 2 (some .int)) (hf : f_X_burn v_here_mountain_seen = some out) {H : Heap} {locs : List Loc} (hV : kV D (va_A wc0 s.heap.size) s (wd_X_burn D h h_here h_kept h_trial h_parts h_text h_sheets h_findings h_here_ground h_here_farms h_here_mountain h_here_mountain_chances h_here_mountain_shows h_here_mountain_diary v_isKept v_here_month v_here_volume v_here_outs v_here_fed v_here_fedOuts v_here_arePigsTold v_here_mountain_seen v_here_mountain_state v_here_mountain_z) H locs) {ls : Array Slot} (hl : lv_has ls 2 [(0, .ref h)]) : W p l e { frames := 0, cells := 0, slots := 0, locals := 0 } s m args below meth c H locs 0 0 (MQ below (kQi D wc0 (wd_X_burn D h h_here h_kept h_trial h_parts h_text h_sheets h_findings h_here_ground h_here_farms h_here_mountain h_here_mountain_chances h_here_mountain_shows h_here_mountain_diary v_isKept v_here_month v_here_volume v_here_outs v_here_fed v_here_fedOuts v_here_arePigsTold out.2 v_here_mountain_state v_here_mountain_z) s.heap.size out.1) args s 0 0 (va_A wc0 s.heap.size)) (F0 m 0 ls []) := by
  unfold f_X_burn at hf
  obtain ⟨hx, hb, -⟩ := id X
  refine lv_aload_n hx hb d_X_burn_0 rfl (lv_at hl 0 rfl) ?_
  refine k_get X hV 0 8 0 rfl rfl rfl gw_248 rfl rfl d_X_burn_1 ?_
  refine k_get X hV 1 5 2 rfl rfl rfl gw_143 rfl rfl d_X_burn_4 ?_
  refine k_get X hV 2 2 3 rfl rfl rfl gw_117 rfl rfl d_X_burn_7 ?_
  refine lv_istore_n (lv' := [(1, .int v_here_mountain_seen), (0, .ref h)]) hx hb d_X_burn_10 rfl hl (by decide) rfl (fun ls hl => ?_)
  refine lv_aload_n hx hb d_X_burn_11 rfl (lv_at hl 1 rfl) ?_
  refine k_get X hV 0 8 0 rfl rfl rfl gw_248 rfl rfl d_X_burn_12 ?_
  refine k_get X hV 1 5 2 rfl rfl rfl gw_143 rfl rfl d_X_burn_15 ?_
  refine lv_iconst (v := 0) hx hb d_X_burn_18 ic_0 ?_
  refine k_putv (ty := .int) (ws' := (wd_X_burn D h h_here h_kept h_trial h_parts h_text h_sheets h_findings h_here_ground h_here_farms h_here_mountain h_here_mountain_chances h_here_mountain_shows h_here_mountain_diary v_isKept v_here_month v_here_volume v_here_outs v_here_fed v_here_fedOuts v_here_arePigsTold (0 : Int32) v_here_mountain_state v_here_mountain_z)) X hV 2 2 3 rfl rfl rfl gw_117 rfl rfl rfl rfl rfl rfl rfl d_X_burn_19 (fun H locs hV => ?_)
  refine lv_iload_n hx hb d_X_burn_22 rfl (lv_at hl 0 rfl) ?_
  have e_ := Option.some.inj hf
  subst e_
  exact k_iret X rfl hV rfl d_X_burn_23
set_option maxHeartbeats 2000000 in
set_option maxRecDepth 20000 in
theorem c_X_burn {l : Launch} (D : kD) (h : Nat) (h_here : Nat) (h_kept : Nat) (h_trial : Nat) (h_parts : Nat) (h_text : Nat) (h_sheets : Nat) (h_findings : Nat) (h_here_ground : Nat) (h_here_farms : Nat) (h_here_mountain : Nat) (h_here_mountain_chances : Nat) (h_here_mountain_shows : Nat) (h_here_mountain_diary : Nat) (v_isKept : Int32) (v_here_month : Int32) (v_here_volume : Int32) (v_here_outs : Int32) (v_here_fed : Int32) (v_here_fedOuts : Int32) (v_here_arePigsTold : Int32) (v_here_mountain_seen : Int32) (v_here_mountain_state : Int32) (v_here_mountain_z : Int32) {out : Int32 × Int32} (hf : f_X_burn v_here_mountain_seen = some out) : kMi l D y_X_burn b_X_burn 2 (some .int) { frames := 0, cells := 0, slots := 0, locals := 0 } [.ref h] (wd_X_burn D h h_here h_kept h_trial h_parts h_text h_sheets h_findings h_here_ground h_here_farms h_here_mountain h_here_mountain_chances h_here_mountain_shows h_here_mountain_diary v_isKept v_here_month v_here_volume v_here_outs v_here_fed v_here_fedOuts v_here_arePigsTold v_here_mountain_seen v_here_mountain_state v_here_mountain_z) (wd_X_burn D h h_here h_kept h_trial h_parts h_text h_sheets h_findings h_here_ground h_here_farms h_here_mountain h_here_mountain_chances h_here_mountain_shows h_here_mountain_diary v_isKept v_here_month v_here_volume v_here_outs v_here_fed v_here_fedOuts v_here_arePigsTold out.2 v_here_mountain_state v_here_mountain_z) out.1 :=
  kMi_of (own := "MountainFarms") (plainFor_of_name (by decide)) rfl rfl (fun p e s m args below meth c ls X hV hl => t_X_burn X hf hV hl)
