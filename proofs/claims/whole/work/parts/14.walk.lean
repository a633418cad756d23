/-! printed by wip/gen: walks -/
set_option maxHeartbeats 2000000 in
set_option maxRecDepth 20000 in
theorem t_X_slope_1 {l : Launch} {p : Program} {e : Env} {s : State} {m : MethodId} {args : Array Value} {below : List Frame} {meth : Method} {c : Code} {D : kD} {wc0 : va_W} {h : Nat} {h_here : Nat} {h_kept : Nat} {h_trial : Nat} {h_parts : Nat} {h_text : Nat} {h_sheets : Nat} {h_findings : Nat} {h_here_ground : Nat} {h_here_farms : Nat} {h_here_mountain : Nat} {h_here_ground_heights : Nat} {h_here_ground_ages : Nat} {h_here_ground_walls : Nat} {h_here_farms_kinds : Nat} {h_here_farms_cells : Nat} {h_here_farms_owners : Nat} {h_here_farms_purses : Nat} {h_here_mountain_chances : Nat} {h_here_mountain_shows : Nat} {h_here_mountain_diary : Nat} {h_trial_ground : Nat} {h_trial_farms : Nat} {h_trial_mountain : Nat} {h_trial_ground_heights : Nat} {h_trial_ground_ages : Nat} {h_trial_ground_walls : Nat} {h_trial_farms_kinds : Nat} {h_trial_farms_cells : Nat} {h_trial_farms_owners : Nat} {h_trial_farms_purses : Nat} {h_trial_mountain_chances : Nat} {h_trial_mountain_shows : Nat} {h_trial_mountain_diary : Nat} {h_text_tape : Nat} {h_text_tape_bytes : Nat} {v_isKept : Int32} {v_here_month : Int32} {v_here_volume : Int32} {v_here_outs : Int32} {v_here_fed : Int32} {v_here_fedOuts : Int32} {v_here_arePigsTold : Int32} {v_here_ground_vent : Int32} {v_here_ground_ash : Int32} {v_here_ground_heights : Nat → Int32} {v_here_ground_ages : Nat → Int32} {v_here_ground_walls : Nat → Int32} {v_here_farms_number : Int32} {v_here_farms_burnt : Int32} {v_here_farms_kinds : Nat → Int32} {v_here_farms_cells : Nat → Int32} {v_here_farms_owners : Nat → Int32} {v_here_farms_purses : Nat → Int32} {v_here_mountain_seen : Int32} {v_here_mountain_state : Int32} {v_here_mountain_z : Int32} {v_here_mountain_chances : Nat → Int32} {v_here_mountain_shows : Nat → Int32} {v_here_mountain_diary : Nat → Int32} {v_trial_month : Int32} {v_trial_volume : Int32} {v_trial_outs : Int32} {v_trial_fed : Int32} {v_trial_fedOuts : Int32} {v_trial_arePigsTold : Int32} {v_trial_ground_vent : Int32} {v_trial_ground_ash : Int32} {v_trial_ground_heights : Nat → Int32} {v_trial_ground_ages : Nat → Int32} {v_trial_ground_walls : Nat → Int32} {v_trial_farms_number : Int32} {v_trial_farms_burnt : Int32} {v_trial_farms_kinds : Nat → Int32} {v_trial_farms_cells : Nat → Int32} {v_trial_farms_owners : Nat → Int32} {v_trial_farms_purses : Nat → Int32} {v_trial_mountain_seen : Int32} {v_trial_mountain_state : Int32} {v_trial_mountain_z : Int32} {v_trial_mountain_chances : Nat → Int32} {v_trial_mountain_shows : Nat → Int32} {v_trial_mountain_diary : Nat → Int32} {v_text_tape_size : Int32} {v_text_tape_start : Int32} {v_text_tape_end : Int32} {v_text_tape_sort : Int32} {v_text_tape_value : Int32} {v_text_tape_bytes : Nat → Int32} {x1 : Int32} {out : Int32 × Int32 × Int32 × Int32 × Int32 × Int32 × Int32 × Int32 × Int32 × (Nat → Int32) × (Nat → Int32) × (Nat → Int32) × Int32 × Int32 × (Nat → Int32) × (Nat → Int32) × (Nat → Int32) × (Nat → Int32) × Int32 × Int32 × Int32 × (Nat → Int32) × (Nat → Int32) × (Nat → Int32) × Int32 × Int32 × Int32 × Int32 × Int32 × Int32 × Int32 × Int32 × (Nat → Int32) × (Nat → Int32) × (Nat → Int32) × Int32 × Int32 × (Nat → Int32) × (Nat → Int32) × (Nat → Int32) × (Nat → Int32) × Int32 × Int32 × Int32 × (Nat → Int32) × (Nat → Int32) × (Nat → Int32) × Int32 × Int32 × Int32 × Int32 × Int32} (X : kX p m meth c s args D (va_A wc0 s.heap.size) b_X_slope "MountainFarms" 2 (some .int)) (hf : f_X_slope_1 x1 v_here_month v_here_volume v_here_outs v_here_fed v_here_fedOuts v_here_arePigsTold v_here_ground_vent v_here_ground_ash v_here_ground_heights v_here_ground_ages v_here_ground_walls v_here_farms_number v_here_farms_burnt v_here_farms_kinds v_here_farms_cells v_here_farms_owners v_here_farms_purses v_here_mountain_seen v_here_mountain_state v_here_mountain_z v_here_mountain_chances v_here_mountain_shows v_here_mountain_diary v_trial_month v_trial_volume v_trial_outs v_trial_fed v_trial_fedOuts v_trial_arePigsTold v_trial_ground_vent v_trial_ground_ash v_trial_ground_heights v_trial_ground_ages v_trial_ground_walls v_trial_farms_number v_trial_farms_burnt v_trial_farms_kinds v_trial_farms_cells v_trial_farms_owners v_trial_farms_purses v_trial_mountain_seen v_trial_mountain_state v_trial_mountain_z v_trial_mountain_chances v_trial_mountain_shows v_trial_mountain_diary v_text_tape_size v_text_tape_start v_text_tape_end v_text_tape_sort v_text_tape_value = some out) {H : Heap} {locs : List Loc} (hV : kV D (va_A wc0 s.heap.size) s (wd_X_slope D h h_here h_kept h_trial h_parts h_text h_sheets h_findings h_here_ground h_here_farms h_here_mountain h_here_ground_heights h_here_ground_ages h_here_ground_walls h_here_farms_kinds h_here_farms_cells h_here_farms_owners h_here_farms_purses h_here_mountain_chances h_here_mountain_shows h_here_mountain_diary h_trial_ground h_trial_farms h_trial_mountain h_trial_ground_heights h_trial_ground_ages h_trial_ground_walls h_trial_farms_kinds h_trial_farms_cells h_trial_farms_owners h_trial_farms_purses h_trial_mountain_chances h_trial_mountain_shows h_trial_mountain_diary h_text_tape h_text_tape_bytes v_isKept v_here_month v_here_volume v_here_outs v_here_fed v_here_fedOuts v_here_arePigsTold v_here_ground_vent v_here_ground_ash v_here_ground_heights v_here_ground_ages v_here_ground_walls v_here_farms_number v_here_farms_burnt v_here_farms_kinds v_here_farms_cells v_here_farms_owners v_here_farms_purses v_here_mountain_seen v_here_mountain_state v_here_mountain_z v_here_mountain_chances v_here_mountain_shows v_here_mountain_diary v_trial_month v_trial_volume v_trial_outs v_trial_fed v_trial_fedOuts v_trial_arePigsTold v_trial_ground_vent v_trial_ground_ash v_trial_ground_heights v_trial_ground_ages v_trial_ground_walls v_trial_farms_number v_trial_farms_burnt v_trial_farms_kinds v_trial_farms_cells v_trial_farms_owners v_trial_farms_purses v_trial_mountain_seen v_trial_mountain_state v_trial_mountain_z v_trial_mountain_chances v_trial_mountain_shows v_trial_mountain_diary v_text_tape_size v_text_tape_start v_text_tape_end v_text_tape_sort v_text_tape_value v_text_tape_bytes) H locs) {ls : Array Slot} (hl : lv_has ls 2 [(0, .ref h), (1, .int x1)]) : W p l e { frames := 8, cells := 0, slots := 0, locals := 175 } s m args below meth c H locs 0 0 (MQ below (kQi D wc0 (wd_X_slope D h h_here h_kept h_trial h_parts h_text h_sheets h_findings h_here_ground h_here_farms h_here_mountain h_here_ground_heights h_here_ground_ages h_here_ground_walls h_here_farms_kinds h_here_farms_cells h_here_farms_owners h_here_farms_purses h_here_mountain_chances h_here_mountain_shows h_here_mountain_diary h_trial_ground h_trial_farms h_trial_mountain h_trial_ground_heights h_trial_ground_ages h_trial_ground_walls h_trial_farms_kinds h_trial_farms_cells h_trial_farms_owners h_trial_farms_purses h_trial_mountain_chances h_trial_mountain_shows h_trial_mountain_diary h_text_tape h_text_tape_bytes v_isKept out.2.1 out.2.2.1 out.2.2.2.1 out.2.2.2.2.1 out.2.2.2.2.2.1 out.2.2.2.2.2.2.1 out.2.2.2.2.2.2.2.1 out.2.2.2.2.2.2.2.2.1 out.2.2.2.2.2.2.2.2.2.1 out.2.2.2.2.2.2.2.2.2.2.1 out.2.2.2.2.2.2.2.2.2.2.2.1 out.2.2.2.2.2.2.2.2.2.2.2.2.1 out.2.2.2.2.2.2.2.2.2.2.2.2.2.1 out.2.2.2.2.2.2.2.2.2.2.2.2.2.2.1 out.2.2.2.2.2.2.2.2.2.2.2.2.2.2.2.1 out.2.2.2.2.2.2.2.2.2.2.2.2.2.2.2.2.1 out.2.2.2.2.2.2.2.2.2.2.2.2.2.2.2.2.2.1 out.2.2.2.2.2.2.2.2.2.2.2.2.2.2.2.2.2.2.1 out.2.2.2.2.2.2.2.2.2.2.2.2.2.2.2.2.2.2.2.1 out.2.2.2.2.2.2.2.2.2.2.2.2.2.2.2.2.2.2.2.2.1 out.2.2.2.2.2.2.2.2.2.2.2.2.2.2.2.2.2.2.2.2.2.1 out.2.2.2.2.2.2.2.2.2.2.2.2.2.2.2.2.2.2.2.2.2.2.1 out.2.2.2.2.2.2.2.2.2.2.2.2.2.2.2.2.2.2.2.2.2.2.2.1 out.2.2.2.2.2.2.2.2.2.2.2.2.2.2.2.2.2.2.2.2.2.2.2.2.1 out.2.2.2.2.2.2.2.2.2.2.2.2.2.2.2.2.2.2.2.2.2.2.2.2.2.1 out.2.2.2.2.2.2.2.2.2.2.2.2.2.2.2.2.2.2.2.2.2.2.2.2.2.2.1 out.2.2.2.2.2.2.2.2.2.2.2.2.2.2.2.2.2.2.2.2.2.2.2.2.2.2.2.1 out.2.2.2.2.2.2.2.2.2.2.2.2.2.2.2.2.2.2.2.2.2.2.2.2.2.2.2.2.1 out.2.2.2.2.2.2.2.2.2.2.2.2.2.2.2.2.2.2.2.2.2.2.2.2.2.2.2.2.2.1 out.2.2.2.2.2.2.2.2.2.2.2.2.2.2.2.2.2.2.2.2.2.2.2.2.2.2.2.2.2.2.1 out.2.2.2.2.2.2.2.2.2.2.2.2.2.2.2.2.2.2.2.2.2.2.2.2.2.2.2.2.2.2.2.1 out.2.2.2.2.2.2.2.2.2.2.2.2.2.2.2.2.2.2.2.2.2.2.2.2.2.2.2.2.2.2.2.2.1 out.2.2.2.2.2.2.2.2.2.2.2.2.2.2.2.2.2.2.2.2.2.2.2.2.2.2.2.2.2.2.2.2.2.1 out.2.2.2.2.2.2.2.2.2.2.2.2.2.2.2.2.2.2.2.2.2.2.2.2.2.2.2.2.2.2.2.2.2.2.1 out.2.2.2.2.2.2.2.2.2.2.2.2.2.2.2.2.2.2.2.2.2.2.2.2.2.2.2.2.2.2.2.2.2.2.2.1 out.2.2.2.2.2.2.2.2.2.2.2.2.2.2.2.2.2.2.2.2.2.2.2.2.2.2.2.2.2.2.2.2.2.2.2.2.1 out.2.2.2.2.2.2.2.2.2.2.2.2.2.2.2.2.2.2.2.2.2.2.2.2.2.2.2.2.2.2.2.2.2.2.2.2.2.1 out.2.2.2.2.2.2.2.2.2.2.2.2.2.2.2.2.2.2.2.2.2.2.2.2.2.2.2.2.2.2.2.2.2.2.2.2.2.2.1 out.2.2.2.2.2.2.2.2.2.2.2.2.2.2.2.2.2.2.2.2.2.2.2.2.2.2.2.2.2.2.2.2.2.2.2.2.2.2.2.1 out.2.2.2.2.2.2.2.2.2.2.2.2.2.2.2.2.2.2.2.2.2.2.2.2.2.2.2.2.2.2.2.2.2.2.2.2.2.2.2.2.1 out.2.2.2.2.2.2.2.2.2.2.2.2.2.2.2.2.2.2.2.2.2.2.2.2.2.2.2.2.2.2.2.2.2.2.2.2.2.2.2.2.2.1 out.2.2.2.2.2.2.2.2.2.2.2.2.2.2.2.2.2.2.2.2.2.2.2.2.2.2.2.2.2.2.2.2.2.2.2.2.2.2.2.2.2.2.1 out.2.2.2.2.2.2.2.2.2.2.2.2.2.2.2.2.2.2.2.2.2.2.2.2.2.2.2.2.2.2.2.2.2.2.2.2.2.2.2.2.2.2.2.1 out.2.2.2.2.2.2.2.2.2.2.2.2.2.2.2.2.2.2.2.2.2.2.2.2.2.2.2.2.2.2.2.2.2.2.2.2.2.2.2.2.2.2.2.2.1 out.2.2.2.2.2.2.2.2.2.2.2.2.2.2.2.2.2.2.2.2.2.2.2.2.2.2.2.2.2.2.2.2.2.2.2.2.2.2.2.2.2.2.2.2.2.1 out.2.2.2.2.2.2.2.2.2.2.2.2.2.2.2.2.2.2.2.2.2.2.2.2.2.2.2.2.2.2.2.2.2.2.2.2.2.2.2.2.2.2.2.2.2.2.1 out.2.2.2.2.2.2.2.2.2.2.2.2.2.2.2.2.2.2.2.2.2.2.2.2.2.2.2.2.2.2.2.2.2.2.2.2.2.2.2.2.2.2.2.2.2.2.2.1 out.2.2.2.2.2.2.2.2.2.2.2.2.2.2.2.2.2.2.2.2.2.2.2.2.2.2.2.2.2.2.2.2.2.2.2.2.2.2.2.2.2.2.2.2.2.2.2.2.1 out.2.2.2.2.2.2.2.2.2.2.2.2.2.2.2.2.2.2.2.2.2.2.2.2.2.2.2.2.2.2.2.2.2.2.2.2.2.2.2.2.2.2.2.2.2.2.2.2.2.1 out.2.2.2.2.2.2.2.2.2.2.2.2.2.2.2.2.2.2.2.2.2.2.2.2.2.2.2.2.2.2.2.2.2.2.2.2.2.2.2.2.2.2.2.2.2.2.2.2.2.2.1 out.2.2.2.2.2.2.2.2.2.2.2.2.2.2.2.2.2.2.2.2.2.2.2.2.2.2.2.2.2.2.2.2.2.2.2.2.2.2.2.2.2.2.2.2.2.2.2.2.2.2.2 v_text_tape_bytes) s.heap.size out.1) args s 0 0 (va_A wc0 s.heap.size)) (F0 m 38 ls []) := by
  unfold f_X_slope_1 at hf
  obtain ⟨hx, hb, -⟩ := id X
  refine lv_aload_n hx hb d_X_slope_38 rfl (lv_at hl 0 rfl) ?_
  refine k_get X hV 0 8 4 rfl rfl rfl gw_252 rfl rfl d_X_slope_39 ?_
  refine k_get X hV 29 6 0 rfl rfl rfl gw_224 rfl rfl d_X_slope_42 ?_
  refine lv_iconst (v := 0) hx hb d_X_slope_45 ic_0 ?_
  refine k_putv (ty := .int) (ws' := (wd_X_slope D h h_here h_kept h_trial h_parts h_text h_sheets h_findings h_here_ground h_here_farms h_here_mountain h_here_ground_heights h_here_ground_ages h_here_ground_walls h_here_farms_kinds h_here_farms_cells h_here_farms_owners h_here_farms_purses h_here_mountain_chances h_here_mountain_shows h_here_mountain_diary h_trial_ground h_trial_farms h_trial_mountain h_trial_ground_heights h_trial_ground_ages h_trial_ground_walls h_trial_farms_kinds h_trial_farms_cells h_trial_farms_owners h_trial_farms_purses h_trial_mountain_chances h_trial_mountain_shows h_trial_mountain_diary h_text_tape h_text_tape_bytes v_isKept v_here_month v_here_volume v_here_outs v_here_fed v_here_fedOuts v_here_arePigsTold v_here_ground_vent v_here_ground_ash v_here_ground_heights v_here_ground_ages v_here_ground_walls v_here_farms_number v_here_farms_burnt v_here_farms_kinds v_here_farms_cells v_here_farms_owners v_here_farms_purses v_here_mountain_seen v_here_mountain_state v_here_mountain_z v_here_mountain_chances v_here_mountain_shows v_here_mountain_diary v_trial_month v_trial_volume v_trial_outs v_trial_fed v_trial_fedOuts v_trial_arePigsTold v_trial_ground_vent v_trial_ground_ash v_trial_ground_heights v_trial_ground_ages v_trial_ground_walls v_trial_farms_number v_trial_farms_burnt v_trial_farms_kinds v_trial_farms_cells v_trial_farms_owners v_trial_farms_purses v_trial_mountain_seen v_trial_mountain_state v_trial_mountain_z v_trial_mountain_chances v_trial_mountain_shows v_trial_mountain_diary (0 : Int32) v_text_tape_start v_text_tape_end v_text_tape_sort v_text_tape_value v_text_tape_bytes)) X hV 30 7 1 rfl rfl rfl gw_204 rfl rfl rfl rfl rfl rfl rfl d_X_slope_46 (fun H locs hV => ?_)
  refine lv_iload_n hx hb d_X_slope_49 rfl (lv_at hl 1 rfl) ?_
  have e_ := Option.some.inj hf
  subst e_
  exact k_iret X rfl hV rfl d_X_slope_50
set_option maxHeartbeats 2000000 in
set_option maxRecDepth 20000 in
theorem t_X_slope {l : Launch} {p : Program} {e : Env} {s : State} {m : MethodId} {args : Array Value} {below : List Frame} {meth : Method} {c : Code} {D : kD} {wc0 : va_W} {h : Nat} {h_here : Nat} {h_kept : Nat} {h_trial : Nat} {h_parts : Nat} {h_text : Nat} {h_sheets : Nat} {h_findings : Nat} {h_here_ground : Nat} {h_here_farms : Nat} {h_here_mountain : Nat} {h_here_ground_heights : Nat} {h_here_ground_ages : Nat} {h_here_ground_walls : Nat} {h_here_farms_kinds : Nat} {h_here_farms_cells : Nat} {h_here_farms_owners : Nat} {h_here_farms_purses : Nat} {h_here_mountain_chances : Nat} {h_here_mountain_shows : Nat} {h_here_mountain_diary : Nat} {h_trial_ground : Nat} {h_trial_farms : Nat} {h_trial_mountain : Nat} {h_trial_ground_heights : Nat} {h_trial_ground_ages : Nat} {h_trial_ground_walls : Nat} {h_trial_farms_kinds : Nat} {h_trial_farms_cells : Nat} {h_trial_farms_owners : Nat} {h_trial_farms_purses : Nat} {h_trial_mountain_chances : Nat} {h_trial_mountain_shows : Nat} {h_trial_mountain_diary : Nat} {h_text_tape : Nat} {h_text_tape_bytes : Nat} {v_isKept : Int32} {v_here_month : Int32} {v_here_volume : Int32} {v_here_outs : Int32} {v_here_fed : Int32} {v_here_fedOuts : Int32} {v_here_arePigsTold : Int32} {v_here_ground_vent : Int32} {v_here_ground_ash : Int32} {v_here_ground_heights : Nat → Int32} {v_here_ground_ages : Nat → Int32} {v_here_ground_walls : Nat → Int32} {v_here_farms_number : Int32} {v_here_farms_burnt : Int32} {v_here_farms_kinds : Nat → Int32} {v_here_farms_cells : Nat → Int32} {v_here_farms_owners : Nat → Int32} {v_here_farms_purses : Nat → Int32} {v_here_mountain_seen : Int32} {v_here_mountain_state : Int32} {v_here_mountain_z : Int32} {v_here_mountain_chances : Nat → Int32} {v_here_mountain_shows : Nat → Int32} {v_here_mountain_diary : Nat → Int32} {v_trial_month : Int32} {v_trial_volume : Int32} {v_trial_outs : Int32} {v_trial_fed : Int32} {v_trial_fedOuts : Int32} {v_trial_arePigsTold : Int32} {v_trial_ground_vent : Int32} {v_trial_ground_ash : Int32} {v_trial_ground_heights : Nat → Int32} {v_trial_ground_ages : Nat → Int32} {v_trial_ground_walls : Nat → Int32} {v_trial_farms_number : Int32} {v_trial_farms_burnt : Int32} {v_trial_farms_kinds : Nat → Int32} {v_trial_farms_cells : Nat → Int32} {v_trial_farms_owners : Nat → Int32} {v_trial_farms_purses : Nat → Int32} {v_trial_mountain_seen : Int32} {v_trial_mountain_state : Int32} {v_trial_mountain_z : Int32} {v_trial_mountain_chances : Nat → Int32} {v_trial_mountain_shows : Nat → Int32} {v_trial_mountain_diary : Nat → Int32} {v_text_tape_size : Int32} {v_text_tape_start : Int32} {v_text_tape_end : Int32} {v_text_tape_sort : Int32} {v_text_tape_value : Int32} {v_text_tape_bytes : Nat → Int32} {out : Int32 × Int32 × Int32 × Int32 × Int32 × Int32 × Int32 × Int32 × Int32 × (Nat → Int32) × (Nat → Int32) × (Nat → Int32) × Int32 × Int32 × (Nat → Int32) × (Nat → Int32) × (Nat → Int32) × (Nat → Int32) × Int32 × Int32 × Int32 × (Nat → Int32) × (Nat → Int32) × (Nat → Int32) × Int32 × Int32 × Int32 × Int32 × Int32 × Int32 × Int32 × Int32 × (Nat → Int32) × (Nat → Int32) × (Nat → Int32) × Int32 × Int32 × (Nat → Int32) × (Nat → Int32) × (Nat → Int32) × (Nat → Int32) × Int32 × Int32 × Int32 × (Nat → Int32) × (Nat → Int32) × (Nat → Int32) × Int32 × Int32 × Int32 × Int32 × Int32} (X : kX p m meth c s args D (va_A wc0 s.heap.size) b_X_slope "MountainFarms" 2 (some .int)) (hf : f_X_slope v_here_month v_here_volume v_here_outs v_here_fed v_here_fedOuts v_here_arePigsTold v_here_ground_vent v_here_ground_ash v_here_ground_heights v_here_ground_ages v_here_ground_walls v_here_farms_number v_here_farms_burnt v_here_farms_kinds v_here_farms_cells v_here_farms_owners v_here_farms_purses v_here_mountain_seen v_here_mountain_state v_here_mountain_z v_here_mountain_chances v_here_mountain_shows v_here_mountain_diary v_trial_month v_trial_volume v_trial_outs v_trial_fed v_trial_fedOuts v_trial_arePigsTold v_trial_ground_vent v_trial_ground_ash v_trial_ground_heights v_trial_ground_ages v_trial_ground_walls v_trial_farms_number v_trial_farms_burnt v_trial_farms_kinds v_trial_farms_cells v_trial_farms_owners v_trial_farms_purses v_trial_mountain_seen v_trial_mountain_state v_trial_mountain_z v_trial_mountain_chances v_trial_mountain_shows v_trial_mountain_diary v_text_tape_size v_text_tape_start v_text_tape_end v_text_tape_sort v_text_tape_value v_text_tape_bytes = some out) {H : Heap} {locs : List Loc} (hV : kV D (va_A wc0 s.heap.size) s (wd_X_slope D h h_here h_kept h_trial h_parts h_text h_sheets h_findings h_here_ground h_here_farms h_here_mountain h_here_ground_heights h_here_ground_ages h_here_ground_walls h_here_farms_kinds h_here_farms_cells h_here_farms_owners h_here_farms_purses h_here_mountain_chances h_here_mountain_shows h_here_mountain_diary h_trial_ground h_trial_farms h_trial_mountain h_trial_ground_heights h_trial_ground_ages h_trial_ground_walls h_trial_farms_kinds h_trial_farms_cells h_trial_farms_owners h_trial_farms_purses h_trial_mountain_chances h_trial_mountain_shows h_trial_mountain_diary h_text_tape h_text_tape_bytes v_isKept v_here_month v_here_volume v_here_outs v_here_fed v_here_fedOuts v_here_arePigsTold v_here_ground_vent v_here_ground_ash v_here_ground_heights v_here_ground_ages v_here_ground_walls v_here_farms_number v_here_farms_burnt v_here_farms_kinds v_here_farms_cells v_here_farms_owners v_here_farms_purses v_here_mountain_seen v_here_mountain_state v_here_mountain_z v_here_mountain_chances v_here_mountain_shows v_here_mountain_diary v_trial_month v_trial_volume v_trial_outs v_trial_fed v_trial_fedOuts v_trial_arePigsTold v_trial_ground_vent v_trial_ground_ash v_trial_ground_heights v_trial_ground_ages v_trial_ground_walls v_trial_farms_number v_trial_farms_burnt v_trial_farms_kinds v_trial_farms_cells v_trial_farms_owners v_trial_farms_purses v_trial_mountain_seen v_trial_mountain_state v_trial_mountain_z v_trial_mountain_chances v_trial_mountain_shows v_trial_mountain_diary v_text_tape_size v_text_tape_start v_text_tape_end v_text_tape_sort v_text_tape_value v_text_tape_bytes) H locs) {ls : Array Slot} (hl : lv_has ls 2 [(0, .ref h)]) : W p l e { frames := 8, cells := 0, slots := 0, locals := 175 } s m args below meth c H locs 0 0 (MQ below (kQi D wc0 (wd_X_slope D h h_here h_kept h_trial h_parts h_text h_sheets h_findings h_here_ground h_here_farms h_here_mountain h_here_ground_heights h_here_ground_ages h_here_ground_walls h_here_farms_kinds h_here_farms_cells h_here_farms_owners h_here_farms_purses h_here_mountain_chances h_here_mountain_shows h_here_mountain_diary h_trial_ground h_trial_farms h_trial_mountain h_trial_ground_heights h_trial_ground_ages h_trial_ground_walls h_trial_farms_kinds h_trial_farms_cells h_trial_farms_owners h_trial_farms_purses h_trial_mountain_chances h_trial_mountain_shows h_trial_mountain_diary h_text_tape h_text_tape_bytes v_isKept out.2.1 out.2.2.1 out.2.2.2.1 out.2.2.2.2.1 out.2.2.2.2.2.1 out.2.2.2.2.2.2.1 out.2.2.2.2.2.2.2.1 out.2.2.2.2.2.2.2.2.1 out.2.2.2.2.2.2.2.2.2.1 out.2.2.2.2.2.2.2.2.2.2.1 out.2.2.2.2.2.2.2.2.2.2.2.1 out.2.2.2.2.2.2.2.2.2.2.2.2.1 out.2.2.2.2.2.2.2.2.2.2.2.2.2.1 out.2.2.2.2.2.2.2.2.2.2.2.2.2.2.1 out.2.2.2.2.2.2.2.2.2.2.2.2.2.2.2.1 out.2.2.2.2.2.2.2.2.2.2.2.2.2.2.2.2.1 out.2.2.2.2.2.2.2.2.2.2.2.2.2.2.2.2.2.1 out.2.2.2.2.2.2.2.2.2.2.2.2.2.2.2.2.2.2.1 out.2.2.2.2.2.2.2.2.2.2.2.2.2.2.2.2.2.2.2.1 out.2.2.2.2.2.2.2.2.2.2.2.2.2.2.2.2.2.2.2.2.1 out.2.2.2.2.2.2.2.2.2.2.2.2.2.2.2.2.2.2.2.2.2.1 out.2.2.2.2.2.2.2.2.2.2.2.2.2.2.2.2.2.2.2.2.2.2.1 out.2.2.2.2.2.2.2.2.2.2.2.2.2.2.2.2.2.2.2.2.2.2.2.1 out.2.2.2.2.2.2.2.2.2.2.2.2.2.2.2.2.2.2.2.2.2.2.2.2.1 out.2.2.2.2.2.2.2.2.2.2.2.2.2.2.2.2.2.2.2.2.2.2.2.2.2.1 out.2.2.2.2.2.2.2.2.2.2.2.2.2.2.2.2.2.2.2.2.2.2.2.2.2.2.1 out.2.2.2.2.2.2.2.2.2.2.2.2.2.2.2.2.2.2.2.2.2.2.2.2.2.2.2.1 out.2.2.2.2.2.2.2.2.2.2.2.2.2.2.2.2.2.2.2.2.2.2.2.2.2.2.2.2.1 out.2.2.2.2.2.2.2.2.2.2.2.2.2.2.2.2.2.2.2.2.2.2.2.2.2.2.2.2.2.1 out.2.2.2.2.2.2.2.2.2.2.2.2.2.2.2.2.2.2.2.2.2.2.2.2.2.2.2.2.2.2.1 out.2.2.2.2.2.2.2.2.2.2.2.2.2.2.2.2.2.2.2.2.2.2.2.2.2.2.2.2.2.2.2.1 out.2.2.2.2.2.2.2.2.2.2.2.2.2.2.2.2.2.2.2.2.2.2.2.2.2.2.2.2.2.2.2.2.1 out.2.2.2.2.2.2.2.2.2.2.2.2.2.2.2.2.2.2.2.2.2.2.2.2.2.2.2.2.2.2.2.2.2.1 out.2.2.2.2.2.2.2.2.2.2.2.2.2.2.2.2.2.2.2.2.2.2.2.2.2.2.2.2.2.2.2.2.2.2.1 out.2.2.2.2.2.2.2.2.2.2.2.2.2.2.2.2.2.2.2.2.2.2.2.2.2.2.2.2.2.2.2.2.2.2.2.1 out.2.2.2.2.2.2.2.2.2.2.2.2.2.2.2.2.2.2.2.2.2.2.2.2.2.2.2.2.2.2.2.2.2.2.2.2.1 out.2.2.2.2.2.2.2.2.2.2.2.2.2.2.2.2.2.2.2.2.2.2.2.2.2.2.2.2.2.2.2.2.2.2.2.2.2.1 out.2.2.2.2.2.2.2.2.2.2.2.2.2.2.2.2.2.2.2.2.2.2.2.2.2.2.2.2.2.2.2.2.2.2.2.2.2.2.1 out.2.2.2.2.2.2.2.2.2.2.2.2.2.2.2.2.2.2.2.2.2.2.2.2.2.2.2.2.2.2.2.2.2.2.2.2.2.2.2.1 out.2.2.2.2.2.2.2.2.2.2.2.2.2.2.2.2.2.2.2.2.2.2.2.2.2.2.2.2.2.2.2.2.2.2.2.2.2.2.2.2.1 out.2.2.2.2.2.2.2.2.2.2.2.2.2.2.2.2.2.2.2.2.2.2.2.2.2.2.2.2.2.2.2.2.2.2.2.2.2.2.2.2.2.1 out.2.2.2.2.2.2.2.2.2.2.2.2.2.2.2.2.2.2.2.2.2.2.2.2.2.2.2.2.2.2.2.2.2.2.2.2.2.2.2.2.2.2.1 out.2.2.2.2.2.2.2.2.2.2.2.2.2.2.2.2.2.2.2.2.2.2.2.2.2.2.2.2.2.2.2.2.2.2.2.2.2.2.2.2.2.2.2.1 out.2.2.2.2.2.2.2.2.2.2.2.2.2.2.2.2.2.2.2.2.2.2.2.2.2.2.2.2.2.2.2.2.2.2.2.2.2.2.2.2.2.2.2.2.1 out.2.2.2.2.2.2.2.2.2.2.2.2.2.2.2.2.2.2.2.2.2.2.2.2.2.2.2.2.2.2.2.2.2.2.2.2.2.2.2.2.2.2.2.2.2.1 out.2.2.2.2.2.2.2.2.2.2.2.2.2.2.2.2.2.2.2.2.2.2.2.2.2.2.2.2.2.2.2.2.2.2.2.2.2.2.2.2.2.2.2.2.2.2.1 out.2.2.2.2.2.2.2.2.2.2.2.2.2.2.2.2.2.2.2.2.2.2.2.2.2.2.2.2.2.2.2.2.2.2.2.2.2.2.2.2.2.2.2.2.2.2.2.1 out.2.2.2.2.2.2.2.2.2.2.2.2.2.2.2.2.2.2.2.2.2.2.2.2.2.2.2.2.2.2.2.2.2.2.2.2.2.2.2.2.2.2.2.2.2.2.2.2.1 out.2.2.2.2.2.2.2.2.2.2.2.2.2.2.2.2.2.2.2.2.2.2.2.2.2.2.2.2.2.2.2.2.2.2.2.2.2.2.2.2.2.2.2.2.2.2.2.2.2.1 out.2.2.2.2.2.2.2.2.2.2.2.2.2.2.2.2.2.2.2.2.2.2.2.2.2.2.2.2.2.2.2.2.2.2.2.2.2.2.2.2.2.2.2.2.2.2.2.2.2.2.1 out.2.2.2.2.2.2.2.2.2.2.2.2.2.2.2.2.2.2.2.2.2.2.2.2.2.2.2.2.2.2.2.2.2.2.2.2.2.2.2.2.2.2.2.2.2.2.2.2.2.2.2 v_text_tape_bytes) s.heap.size out.1) args s 0 0 (va_A wc0 s.heap.size)) (F0 m 0 ls []) := by
  unfold f_X_slope at hf
  obtain ⟨hx, hb, -⟩ := id X
  refine lv_aload_n hx hb d_X_slope_0 rfl (lv_at hl 0 rfl) ?_
  refine k_get X hV 0 8 2 rfl rfl rfl gw_250 rfl rfl d_X_slope_1 ?_
  refine lv_aload_n hx hb d_X_slope_4 rfl (lv_at hl 0 rfl) ?_
  refine k_get X hV 0 8 0 rfl rfl rfl gw_248 rfl rfl d_X_slope_5 ?_
  obtain ⟨v_trial_month_69, v_trial_volume_70, v_trial_outs_71, v_trial_fed_72, v_trial_fedOuts_73, v_trial_arePigsTold_74, v_trial_ground_vent_75, v_trial_ground_ash_76, v_trial_ground_heights_77, v_trial_ground_ages_78, v_trial_ground_walls_79, v_trial_farms_number_80, v_trial_farms_burnt_81, v_trial_farms_kinds_82, v_trial_farms_cells_83, v_trial_farms_owners_84, v_trial_farms_purses_85, v_trial_mountain_seen_86, v_trial_mountain_state_87, v_trial_mountain_z_88, v_trial_mountain_chances_89, v_trial_mountain_shows_90, v_trial_mountain_diary_91, hc_92, hf⟩ := kb23_some hf
  refine k_cvv (w1 := (wd_Sl_become D h_trial h_trial_ground h_trial_farms h_trial_mountain h_trial_ground_heights h_trial_ground_ages h_trial_ground_walls h_trial_farms_kinds h_trial_farms_cells h_trial_farms_owners h_trial_farms_purses h_trial_mountain_chances h_trial_mountain_shows h_trial_mountain_diary h_here h_here_ground h_here_farms h_here_mountain h_here_ground_heights h_here_ground_ages h_here_ground_walls h_here_farms_kinds h_here_farms_cells h_here_farms_owners h_here_farms_purses h_here_mountain_chances h_here_mountain_shows h_here_mountain_diary v_trial_month_69 v_trial_volume_70 v_trial_outs_71 v_trial_fed_72 v_trial_fedOuts_73 v_trial_arePigsTold_74 v_trial_ground_vent_75 v_trial_ground_ash_76 v_trial_ground_heights_77 v_trial_ground_ages_78 v_trial_ground_walls_79 v_trial_farms_number_80 v_trial_farms_burnt_81 v_trial_farms_kinds_82 v_trial_farms_cells_83 v_trial_farms_owners_84 v_trial_farms_purses_85 v_trial_mountain_seen_86 v_trial_mountain_state_87 v_trial_mountain_z_88 v_trial_mountain_chances_89 v_trial_mountain_shows_90 v_trial_mountain_diary_91 v_here_month v_here_volume v_here_outs v_here_fed v_here_fedOuts v_here_arePigsTold v_here_ground_vent v_here_ground_ash v_here_ground_heights v_here_ground_ages v_here_ground_walls v_here_farms_number v_here_farms_burnt v_here_farms_kinds v_here_farms_cells v_here_farms_owners v_here_farms_purses v_here_mountain_seen v_here_mountain_state v_here_mountain_z v_here_mountain_chances v_here_mountain_shows v_here_mountain_diary)) (ws' := (wd_X_slope D h h_here h_kept h_trial h_parts h_text h_sheets h_findings h_here_ground h_here_farms h_here_mountain h_here_ground_heights h_here_ground_ages h_here_ground_walls h_here_farms_kinds h_here_farms_cells h_here_farms_owners h_here_farms_purses h_here_mountain_chances h_here_mountain_shows h_here_mountain_diary h_trial_ground h_trial_farms h_trial_mountain h_trial_ground_heights h_trial_ground_ages h_trial_ground_walls h_trial_farms_kinds h_trial_farms_cells h_trial_farms_owners h_trial_farms_purses h_trial_mountain_chances h_trial_mountain_shows h_trial_mountain_diary h_text_tape h_text_tape_bytes v_isKept v_here_month v_here_volume v_here_outs v_here_fed v_here_fedOuts v_here_arePigsTold v_here_ground_vent v_here_ground_ash v_here_ground_heights v_here_ground_ages v_here_ground_walls v_here_farms_number v_here_farms_burnt v_here_farms_kinds v_here_farms_cells v_here_farms_owners v_here_farms_purses v_here_mountain_seen v_here_mountain_state v_here_mountain_z v_here_mountain_chances v_here_mountain_shows v_here_mountain_diary v_trial_month_69 v_trial_volume_70 v_trial_outs_71 v_trial_fed_72 v_trial_fedOuts_73 v_trial_arePigsTold_74 v_trial_ground_vent_75 v_trial_ground_ash_76 v_trial_ground_heights_77 v_trial_ground_ages_78 v_trial_ground_walls_79 v_trial_farms_number_80 v_trial_farms_burnt_81 v_trial_farms_kinds_82 v_trial_farms_cells_83 v_trial_farms_owners_84 v_trial_farms_purses_85 v_trial_mountain_seen_86 v_trial_mountain_state_87 v_trial_mountain_z_88 v_trial_mountain_chances_89 v_trial_mountain_shows_90 v_trial_mountain_diary_91 v_text_tape_size v_text_tape_start v_text_tape_end v_text_tape_sort v_text_tape_value v_text_tape_bytes)) X hV hl.1 (c_Sl_become D h_trial h_trial_ground h_trial_farms h_trial_mountain h_trial_ground_heights h_trial_ground_ages h_trial_ground_walls h_trial_farms_kinds h_trial_farms_cells h_trial_farms_owners h_trial_farms_purses h_trial_mountain_chances h_trial_mountain_shows h_trial_mountain_diary h_here h_here_ground h_here_farms h_here_mountain h_here_ground_heights h_here_ground_ages h_here_ground_walls h_here_farms_kinds h_here_farms_cells h_here_farms_owners h_here_farms_purses h_here_mountain_chances h_here_mountain_shows h_here_mountain_diary v_trial_month v_trial_volume v_trial_outs v_trial_fed v_trial_fedOuts v_trial_arePigsTold v_trial_ground_vent v_trial_ground_ash v_trial_ground_heights v_trial_ground_ages v_trial_ground_walls v_trial_farms_number v_trial_farms_burnt v_trial_farms_kinds v_trial_farms_cells v_trial_farms_owners v_trial_farms_purses v_trial_mountain_seen v_trial_mountain_state v_trial_mountain_z v_trial_mountain_chances v_trial_mountain_shows v_trial_mountain_diary v_here_month v_here_volume v_here_outs v_here_fed v_here_fedOuts v_here_arePigsTold v_here_ground_vent v_here_ground_ash v_here_ground_heights v_here_ground_ages v_here_ground_walls v_here_farms_number v_here_farms_burnt v_here_farms_kinds v_here_farms_cells v_here_farms_owners v_here_farms_purses v_here_mountain_seen v_here_mountain_state v_here_mountain_z v_here_mountain_chances v_here_mountain_shows v_here_mountain_diary hc_92) fk_Sl_become gw_597 rfl 15 5 rfl rfl [15, 16, 17, 18, 19, 20, 21, 22, 23, 24, 25, 26, 27, 28, 1, 2, 3, 4, 5, 6, 7, 8, 9, 10, 11, 12, 13, 14] [none, some 14, some 15, some 16, some 17, some 18, some 19, some 20, some 21, some 22, some 23, some 24, some 25, some 26, some 27, some 0, some 1, some 2, some 3, some 4, some 5, some 6, some 7, some 8, some 9, some 10, some 11, some 12, some 13, none, none, none] rfl rfl ⟨rfl, rfl, rfl, rfl, rfl, rfl, rfl, rfl, rfl, rfl, rfl, rfl, rfl, rfl, rfl, rfl, rfl, rfl, rfl, rfl, rfl, rfl, rfl, rfl, rfl, rfl, rfl, rfl, rfl, rfl, rfl, rfl, rfl, rfl, rfl, rfl, rfl, rfl, rfl, rfl, rfl, rfl, rfl, rfl, rfl, rfl, rfl, rfl, rfl, rfl, rfl, rfl, rfl, rfl, rfl, rfl, rfl, rfl, rfl, rfl, rfl, rfl, rfl, rfl, rfl, rfl, rfl, rfl, rfl, rfl, rfl, rfl, rfl, rfl, rfl, rfl, rfl, rfl, rfl, rfl, rfl, rfl, rfl, rfl, rfl, rfl, rfl, rfl, trivial⟩ rfl rfl rfl d_X_slope_8 (fun H locs hV => ?_)
  refine lv_aload_n hx hb d_X_slope_11 rfl (lv_at hl 0 rfl) ?_
  refine k_get X hV 0 8 4 rfl rfl rfl gw_252 rfl rfl d_X_slope_12 ?_
  refine lv_aload_n hx hb d_X_slope_15 rfl (lv_at hl 0 rfl) ?_
  refine k_get X hV 0 8 2 rfl rfl rfl gw_250 rfl rfl d_X_slope_16 ?_
  obtain ⟨r_93, v_text_tape_start_94, v_text_tape_end_95, v_text_tape_sort_96, v_text_tape_value_97, v_trial_ground_vent_98, v_trial_ground_heights_99, v_trial_ground_ages_100, v_trial_ground_walls_101, v_trial_farms_number_102, v_trial_farms_kinds_103, v_trial_farms_cells_104, v_trial_farms_owners_105, v_trial_farms_purses_106, v_trial_mountain_seen_107, v_trial_mountain_chances_108, v_trial_mountain_shows_109, v_trial_mountain_diary_110, hc_111, hf⟩ := kb18_some hf
  refine k_cvi (w1 := (wd_Tx_readAll D h_text h_text_tape h_text_tape_bytes h_trial h_trial_ground h_trial_farms h_trial_mountain h_trial_ground_heights h_trial_ground_ages h_trial_ground_walls h_trial_farms_kinds h_trial_farms_cells h_trial_farms_owners h_trial_farms_purses h_trial_mountain_chances h_trial_mountain_shows h_trial_mountain_diary v_text_tape_size v_text_tape_start_94 v_text_tape_end_95 v_text_tape_sort_96 v_text_tape_value_97 v_text_tape_bytes v_trial_month_69 v_trial_volume_70 v_trial_outs_71 v_trial_fed_72 v_trial_fedOuts_73 v_trial_arePigsTold_74 v_trial_ground_vent_98 v_trial_ground_ash_76 v_trial_ground_heights_99 v_trial_ground_ages_100 v_trial_ground_walls_101 v_trial_farms_number_102 v_trial_farms_burnt_81 v_trial_farms_kinds_103 v_trial_farms_cells_104 v_trial_farms_owners_105 v_trial_farms_purses_106 v_trial_mountain_seen_107 v_trial_mountain_state_87 v_trial_mountain_z_88 v_trial_mountain_chances_108 v_trial_mountain_shows_109 v_trial_mountain_diary_110)) (r := r_93) (ws' := (wd_X_slope D h h_here h_kept h_trial h_parts h_text h_sheets h_findings h_here_ground h_here_farms h_here_mountain h_here_ground_heights h_here_ground_ages h_here_ground_walls h_here_farms_kinds h_here_farms_cells h_here_farms_owners h_here_farms_purses h_here_mountain_chances h_here_mountain_shows h_here_mountain_diary h_trial_ground h_trial_farms h_trial_mountain h_trial_ground_heights h_trial_ground_ages h_trial_ground_walls h_trial_farms_kinds h_trial_farms_cells h_trial_farms_owners h_trial_farms_purses h_trial_mountain_chances h_trial_mountain_shows h_trial_mountain_diary h_text_tape h_text_tape_bytes v_isKept v_here_month v_here_volume v_here_outs v_here_fed v_here_fedOuts v_here_arePigsTold v_here_ground_vent v_here_ground_ash v_here_ground_heights v_here_ground_ages v_here_ground_walls v_here_farms_number v_here_farms_burnt v_here_farms_kinds v_here_farms_cells v_here_farms_owners v_here_farms_purses v_here_mountain_seen v_here_mountain_state v_here_mountain_z v_here_mountain_chances v_here_mountain_shows v_here_mountain_diary v_trial_month_69 v_trial_volume_70 v_trial_outs_71 v_trial_fed_72 v_trial_fedOuts_73 v_trial_arePigsTold_74 v_trial_ground_vent_98 v_trial_ground_ash_76 v_trial_ground_heights_99 v_trial_ground_ages_100 v_trial_ground_walls_101 v_trial_farms_number_102 v_trial_farms_burnt_81 v_trial_farms_kinds_103 v_trial_farms_cells_104 v_trial_farms_owners_105 v_trial_farms_purses_106 v_trial_mountain_seen_107 v_trial_mountain_state_87 v_trial_mountain_z_88 v_trial_mountain_chances_108 v_trial_mountain_shows_109 v_trial_mountain_diary_110 v_text_tape_size v_text_tape_start_94 v_text_tape_end_95 v_text_tape_sort_96 v_text_tape_value_97 v_text_tape_bytes)) X hV hl.1 (c_Tx_readAll D h_text h_text_tape h_text_tape_bytes h_trial h_trial_ground h_trial_farms h_trial_mountain h_trial_ground_heights h_trial_ground_ages h_trial_ground_walls h_trial_farms_kinds h_trial_farms_cells h_trial_farms_owners h_trial_farms_purses h_trial_mountain_chances h_trial_mountain_shows h_trial_mountain_diary v_text_tape_size v_text_tape_start v_text_tape_end v_text_tape_sort v_text_tape_value v_text_tape_bytes v_trial_month_69 v_trial_volume_70 v_trial_outs_71 v_trial_fed_72 v_trial_fedOuts_73 v_trial_arePigsTold_74 v_trial_ground_vent_75 v_trial_ground_ash_76 v_trial_ground_heights_77 v_trial_ground_ages_78 v_trial_ground_walls_79 v_trial_farms_number_80 v_trial_farms_burnt_81 v_trial_farms_kinds_82 v_trial_farms_cells_83 v_trial_farms_owners_84 v_trial_farms_purses_85 v_trial_mountain_seen_86 v_trial_mountain_state_87 v_trial_mountain_z_88 v_trial_mountain_chances_89 v_trial_mountain_shows_90 v_trial_mountain_diary_91 hc_111) fk_Tx_readAll gw_645 rfl 29 6 rfl rfl [29, 30, 31, 15, 16, 17, 18, 19, 20, 21, 22, 23, 24, 25, 26, 27, 28] [none, none, none, none, none, none, none, none, none, none, none, none, none, none, none, some 3, some 4, some 5, some 6, some 7, some 8, some 9, some 10, some 11, some 12, some 13, some 14, some 15, some 16, some 0, some 1, some 2] rfl rfl ⟨rfl, rfl, rfl, rfl, rfl, rfl, rfl, rfl, rfl, rfl, rfl, rfl, rfl, rfl, rfl, rfl, rfl, rfl, rfl, rfl, rfl, rfl, rfl, rfl, rfl, rfl, rfl, rfl, rfl, rfl, rfl, rfl, rfl, rfl, rfl, rfl, rfl, rfl, rfl, rfl, rfl, rfl, rfl, rfl, rfl, rfl, rfl, rfl, rfl, rfl, rfl, rfl, rfl, rfl, rfl, rfl, rfl, rfl, rfl, rfl, rfl, rfl, rfl, rfl, rfl, rfl, trivial⟩ rfl rfl rfl d_X_slope_19 (fun H locs hV => ?_)
  refine lv_istore_n (lv' := [(1, .int r_93), (0, .ref h)]) hx hb d_X_slope_22 rfl hl (by decide) rfl (fun ls hl => ?_)
  refine lv_iload_n hx hb d_X_slope_23 rfl (lv_at hl 0 rfl) ?_
  refine lv_if_le (tgt := 38) hx hb d_X_slope_24 (by decide) (fun c_112 => ?_) (fun c_112 => ?_)
  · replace hf := kifp c_112 hf
    exact t_X_slope_1 X hf hV (lv_sub hl [1, 0] rfl)
  replace hf := kifn c_112 hf
  refine lv_aload_n hx hb d_X_slope_27 rfl (lv_at hl 1 rfl) ?_
  refine k_get X hV 0 8 0 rfl rfl rfl gw_248 rfl rfl d_X_slope_28 ?_
  refine lv_aload_n hx hb d_X_slope_31 rfl (lv_at hl 1 rfl) ?_
  refine k_get X hV 0 8 2 rfl rfl rfl gw_250 rfl rfl d_X_slope_32 ?_
  obtain ⟨v_here_month_113, v_here_volume_114, v_here_outs_115, v_here_fed_116, v_here_fedOuts_117, v_here_arePigsTold_118, v_here_ground_vent_119, v_here_ground_ash_120, v_here_ground_heights_121, v_here_ground_ages_122, v_here_ground_walls_123, v_here_farms_number_124, v_here_farms_burnt_125, v_here_farms_kinds_126, v_here_farms_cells_127, v_here_farms_owners_128, v_here_farms_purses_129, v_here_mountain_seen_130, v_here_mountain_state_131, v_here_mountain_z_132, v_here_mountain_chances_133, v_here_mountain_shows_134, v_here_mountain_diary_135, hc_136, hf⟩ := kb23_some hf
  refine k_cvv (w1 := (wd_Sl_become D h_here h_here_ground h_here_farms h_here_mountain h_here_ground_heights h_here_ground_ages h_here_ground_walls h_here_farms_kinds h_here_farms_cells h_here_farms_owners h_here_farms_purses h_here_mountain_chances h_here_mountain_shows h_here_mountain_diary h_trial h_trial_ground h_trial_farms h_trial_mountain h_trial_ground_heights h_trial_ground_ages h_trial_ground_walls h_trial_farms_kinds h_trial_farms_cells h_trial_farms_owners h_trial_farms_purses h_trial_mountain_chances h_trial_mountain_shows h_trial_mountain_diary v_here_month_113 v_here_volume_114 v_here_outs_115 v_here_fed_116 v_here_fedOuts_117 v_here_arePigsTold_118 v_here_ground_vent_119 v_here_ground_ash_120 v_here_ground_heights_121 v_here_ground_ages_122 v_here_ground_walls_123 v_here_farms_number_124 v_here_farms_burnt_125 v_here_farms_kinds_126 v_here_farms_cells_127 v_here_farms_owners_128 v_here_farms_purses_129 v_here_mountain_seen_130 v_here_mountain_state_131 v_here_mountain_z_132 v_here_mountain_chances_133 v_here_mountain_shows_134 v_here_mountain_diary_135 v_trial_month_69 v_trial_volume_70 v_trial_outs_71 v_trial_fed_72 v_trial_fedOuts_73 v_trial_arePigsTold_74 v_trial_ground_vent_98 v_trial_ground_ash_76 v_trial_ground_heights_99 v_trial_ground_ages_100 v_trial_ground_walls_101 v_trial_farms_number_102 v_trial_farms_burnt_81 v_trial_farms_kinds_103 v_trial_farms_cells_104 v_trial_farms_owners_105 v_trial_farms_purses_106 v_trial_mountain_seen_107 v_trial_mountain_state_87 v_trial_mountain_z_88 v_trial_mountain_chances_108 v_trial_mountain_shows_109 v_trial_mountain_diary_110)) (ws' := (wd_X_slope D h h_here h_kept h_trial h_parts h_text h_sheets h_findings h_here_ground h_here_farms h_here_mountain h_here_ground_heights h_here_ground_ages h_here_ground_walls h_here_farms_kinds h_here_farms_cells h_here_farms_owners h_here_farms_purses h_here_mountain_chances h_here_mountain_shows h_here_mountain_diary h_trial_ground h_trial_farms h_trial_mountain h_trial_ground_heights h_trial_ground_ages h_trial_ground_walls h_trial_farms_kinds h_trial_farms_cells h_trial_farms_owners h_trial_farms_purses h_trial_mountain_chances h_trial_mountain_shows h_trial_mountain_diary h_text_tape h_text_tape_bytes v_isKept v_here_month_113 v_here_volume_114 v_here_outs_115 v_here_fed_116 v_here_fedOuts_117 v_here_arePigsTold_118 v_here_ground_vent_119 v_here_ground_ash_120 v_here_ground_heights_121 v_here_ground_ages_122 v_here_ground_walls_123 v_here_farms_number_124 v_here_farms_burnt_125 v_here_farms_kinds_126 v_here_farms_cells_127 v_here_farms_owners_128 v_here_farms_purses_129 v_here_mountain_seen_130 v_here_mountain_state_131 v_here_mountain_z_132 v_here_mountain_chances_133 v_here_mountain_shows_134 v_here_mountain_diary_135 v_trial_month_69 v_trial_volume_70 v_trial_outs_71 v_trial_fed_72 v_trial_fedOuts_73 v_trial_arePigsTold_74 v_trial_ground_vent_98 v_trial_ground_ash_76 v_trial_ground_heights_99 v_trial_ground_ages_100 v_trial_ground_walls_101 v_trial_farms_number_102 v_trial_farms_burnt_81 v_trial_farms_kinds_103 v_trial_farms_cells_104 v_trial_farms_owners_105 v_trial_farms_purses_106 v_trial_mountain_seen_107 v_trial_mountain_state_87 v_trial_mountain_z_88 v_trial_mountain_chances_108 v_trial_mountain_shows_109 v_trial_mountain_diary_110 v_text_tape_size v_text_tape_start_94 v_text_tape_end_95 v_text_tape_sort_96 v_text_tape_value_97 v_text_tape_bytes)) X hV hl.1 (c_Sl_become D h_here h_here_ground h_here_farms h_here_mountain h_here_ground_heights h_here_ground_ages h_here_ground_walls h_here_farms_kinds h_here_farms_cells h_here_farms_owners h_here_farms_purses h_here_mountain_chances h_here_mountain_shows h_here_mountain_diary h_trial h_trial_ground h_trial_farms h_trial_mountain h_trial_ground_heights h_trial_ground_ages h_trial_ground_walls h_trial_farms_kinds h_trial_farms_cells h_trial_farms_owners h_trial_farms_purses h_trial_mountain_chances h_trial_mountain_shows h_trial_mountain_diary v_here_month v_here_volume v_here_outs v_here_fed v_here_fedOuts v_here_arePigsTold v_here_ground_vent v_here_ground_ash v_here_ground_heights v_here_ground_ages v_here_ground_walls v_here_farms_number v_here_farms_burnt v_here_farms_kinds v_here_farms_cells v_here_farms_owners v_here_farms_purses v_here_mountain_seen v_here_mountain_state v_here_mountain_z v_here_mountain_chances v_here_mountain_shows v_here_mountain_diary v_trial_month_69 v_trial_volume_70 v_trial_outs_71 v_trial_fed_72 v_trial_fedOuts_73 v_trial_arePigsTold_74 v_trial_ground_vent_98 v_trial_ground_ash_76 v_trial_ground_heights_99 v_trial_ground_ages_100 v_trial_ground_walls_101 v_trial_farms_number_102 v_trial_farms_burnt_81 v_trial_farms_kinds_103 v_trial_farms_cells_104 v_trial_farms_owners_105 v_trial_farms_purses_106 v_trial_mountain_seen_107 v_trial_mountain_state_87 v_trial_mountain_z_88 v_trial_mountain_chances_108 v_trial_mountain_shows_109 v_trial_mountain_diary_110 hc_136) fk_Sl_become gw_597 rfl 1 5 rfl rfl [1, 2, 3, 4, 5, 6, 7, 8, 9, 10, 11, 12, 13, 14, 15, 16, 17, 18, 19, 20, 21, 22, 23, 24, 25, 26, 27, 28] [none, some 0, some 1, some 2, some 3, some 4, some 5, some 6, some 7, some 8, some 9, some 10, some 11, some 12, some 13, some 14, some 15, some 16, some 17, some 18, some 19, some 20, some 21, some 22, some 23, some 24, some 25, some 26, some 27, none, none, none] rfl rfl ⟨rfl, rfl, rfl, rfl, rfl, rfl, rfl, rfl, rfl, rfl, rfl, rfl, rfl, rfl, rfl, rfl, rfl, rfl, rfl, rfl, rfl, rfl, rfl, rfl, rfl, rfl, rfl, rfl, rfl, rfl, rfl, rfl, rfl, rfl, rfl, rfl, rfl, rfl, rfl, rfl, rfl, rfl, rfl, rfl, rfl, rfl, rfl, rfl, rfl, rfl, rfl, rfl, rfl, rfl, rfl, rfl, rfl, rfl, rfl, rfl, rfl, rfl, rfl, rfl, rfl, rfl, rfl, rfl, rfl, rfl, rfl, rfl, rfl, rfl, rfl, rfl, rfl, rfl, rfl, rfl, rfl, rfl, rfl, rfl, rfl, rfl, rfl, rfl, trivial⟩ rfl rfl rfl d_X_slope_35 (fun H locs hV => ?_)
  exact t_X_slope_1 X hf hV (lv_sub hl [1, 0] rfl)
set_option maxHeartbeats 2000000 in
set_option maxRecDepth 20000 in
theorem c_X_slope {l : Launch} (D : kD) (h : Nat) (h_here : Nat) (h_kept : Nat) (h_trial : Nat) (h_parts : Nat) (h_text : Nat) (h_sheets : Nat) (h_findings : Nat) (h_here_ground : Nat) (h_here_farms : Nat) (h_here_mountain : Nat) (h_here_ground_heights : Nat) (h_here_ground_ages : Nat) (h_here_ground_walls : Nat) (h_here_farms_kinds : Nat) (h_here_farms_cells : Nat) (h_here_farms_owners : Nat) (h_here_farms_purses : Nat) (h_here_mountain_chances : Nat) (h_here_mountain_shows : Nat) (h_here_mountain_diary : Nat) (h_trial_ground : Nat) (h_trial_farms : Nat) (h_trial_mountain : Nat) (h_trial_ground_heights : Nat) (h_trial_ground_ages : Nat) (h_trial_ground_walls : Nat) (h_trial_farms_kinds : Nat) (h_trial_farms_cells : Nat) (h_trial_farms_owners : Nat) (h_trial_farms_purses : Nat) (h_trial_mountain_chances : Nat) (h_trial_mountain_shows : Nat) (h_trial_mountain_diary : Nat) (h_text_tape : Nat) (h_text_tape_bytes : Nat) (v_isKept : Int32) (v_here_month : Int32) (v_here_volume : Int32) (v_here_outs : Int32) (v_here_fed : Int32) (v_here_fedOuts : Int32) (v_here_arePigsTold : Int32) (v_here_ground_vent : Int32) (v_here_ground_ash : Int32) (v_here_ground_heights : Nat → Int32) (v_here_ground_ages : Nat → Int32) (v_here_ground_walls : Nat → Int32) (v_here_farms_number : Int32) (v_here_farms_burnt : Int32) (v_here_farms_kinds : Nat → Int32) (v_here_farms_cells : Nat → Int32) (v_here_farms_owners : Nat → Int32) (v_here_farms_purses : Nat → Int32) (v_here_mountain_seen : Int32) (v_here_mountain_state : Int32) (v_here_mountain_z : Int32) (v_here_mountain_chances : Nat → Int32) (v_here_mountain_shows : Nat → Int32) (v_here_mountain_diary : Nat → Int32) (v_trial_month : Int32) (v_trial_volume : Int32) (v_trial_outs : Int32) (v_trial_fed : Int32) (v_trial_fedOuts : Int32) (v_trial_arePigsTold : Int32) (v_trial_ground_vent : Int32) (v_trial_ground_ash : Int32) (v_trial_ground_heights : Nat → Int32) (v_trial_ground_ages : Nat → Int32) (v_trial_ground_walls : Nat → Int32) (v_trial_farms_number : Int32) (v_trial_farms_burnt : Int32) (v_trial_farms_kinds : Nat → Int32) (v_trial_farms_cells : Nat → Int32) (v_trial_farms_owners : Nat → Int32) (v_trial_farms_purses : Nat → Int32) (v_trial_mountain_seen : Int32) (v_trial_mountain_state : Int32) (v_trial_mountain_z : Int32) (v_trial_mountain_chances : Nat → Int32) (v_trial_mountain_shows : Nat → Int32) (v_trial_mountain_diary : Nat → Int32) (v_text_tape_size : Int32) (v_text_tape_start : Int32) (v_text_tape_end : Int32) (v_text_tape_sort : Int32) (v_text_tape_value : Int32) (v_text_tape_bytes : Nat → Int32) {out : Int32 × Int32 × Int32 × Int32 × Int32 × Int32 × Int32 × Int32 × Int32 × (Nat → Int32) × (Nat → Int32) × (Nat → Int32) × Int32 × Int32 × (Nat → Int32) × (Nat → Int32) × (Nat → Int32) × (Nat → Int32) × Int32 × Int32 × Int32 × (Nat → Int32) × (Nat → Int32) × (Nat → Int32) × Int32 × Int32 × Int32 × Int32 × Int32 × Int32 × Int32 × Int32 × (Nat → Int32) × (Nat → Int32) × (Nat → Int32) × Int32 × Int32 × (Nat → Int32) × (Nat → Int32) × (Nat → Int32) × (Nat → Int32) × Int32 × Int32 × Int32 × (Nat → Int32) × (Nat → Int32) × (Nat → Int32) × Int32 × Int32 × Int32 × Int32 × Int32} (hf : f_X_slope v_here_month v_here_volume v_here_outs v_here_fed v_here_fedOuts v_here_arePigsTold v_here_ground_vent v_here_ground_ash v_here_ground_heights v_here_ground_ages v_here_ground_walls v_here_farms_number v_here_farms_burnt v_here_farms_kinds v_here_farms_cells v_here_farms_owners v_here_farms_purses v_here_mountain_seen v_here_mountain_state v_here_mountain_z v_here_mountain_chances v_here_mountain_shows v_here_mountain_diary v_trial_month v_trial_volume v_trial_outs v_trial_fed v_trial_fedOuts v_trial_arePigsTold v_trial_ground_vent v_trial_ground_ash v_trial_ground_heights v_trial_ground_ages v_trial_ground_walls v_trial_farms_number v_trial_farms_burnt v_trial_farms_kinds v_trial_farms_cells v_trial_farms_owners v_trial_farms_purses v_trial_mountain_seen v_trial_mountain_state v_trial_mountain_z v_trial_mountain_chances v_trial_mountain_shows v_trial_mountain_diary v_text_tape_size v_text_tape_start v_text_tape_end v_text_tape_sort v_text_tape_value v_text_tape_bytes = some out) : kMi l D y_X_slope b_X_slope 2 (some .int) { frames := 8, cells := 0, slots := 0, locals := 175 } [.ref h] (wd_X_slope D h h_here h_kept h_trial h_parts h_text h_sheets h_findings h_here_ground h_here_farms h_here_mountain h_here_ground_heights h_here_ground_ages h_here_ground_walls h_here_farms_kinds h_here_farms_cells h_here_farms_owners h_here_farms_purses h_here_mountain_chances h_here_mountain_shows h_here_mountain_diary h_trial_ground h_trial_farms h_trial_mountain h_trial_ground_heights h_trial_ground_ages h_trial_ground_walls h_trial_farms_kinds h_trial_farms_cells h_trial_farms_owners h_trial_farms_purses h_trial_mountain_chances h_trial_mountain_shows h_trial_mountain_diary h_text_tape h_text_tape_bytes v_isKept v_here_month v_here_volume v_here_outs v_here_fed v_here_fedOuts v_here_arePigsTold v_here_ground_vent v_here_ground_ash v_here_ground_heights v_here_ground_ages v_here_ground_walls v_here_farms_number v_here_farms_burnt v_here_farms_kinds v_here_farms_cells v_here_farms_owners v_here_farms_purses v_here_mountain_seen v_here_mountain_state v_here_mountain_z v_here_mountain_chances v_here_mountain_shows v_here_mountain_diary v_trial_month v_trial_volume v_trial_outs v_trial_fed v_trial_fedOuts v_trial_arePigsTold v_trial_ground_vent v_trial_ground_ash v_trial_ground_heights v_trial_ground_ages v_trial_ground_walls v_trial_farms_number v_trial_farms_burnt v_trial_farms_kinds v_trial_farms_cells v_trial_farms_owners v_trial_farms_purses v_trial_mountain_seen v_trial_mountain_state v_trial_mountain_z v_trial_mountain_chances v_trial_mountain_shows v_trial_mountain_diary v_text_tape_size v_text_tape_start v_text_tape_end v_text_tape_sort v_text_tape_value v_text_tape_bytes) (wd_X_slope D h h_here h_kept h_trial h_parts h_text h_sheets h_findings h_here_ground h_here_farms h_here_mountain h_here_ground_heights h_here_ground_ages h_here_ground_walls h_here_farms_kinds h_here_farms_cells h_here_farms_owners h_here_farms_purses h_here_mountain_chances h_here_mountain_shows h_here_mountain_diary h_trial_ground h_trial_farms h_trial_mountain h_trial_ground_heights h_trial_ground_ages h_trial_ground_walls h_trial_farms_kinds h_trial_farms_cells h_trial_farms_owners h_trial_farms_purses h_trial_mountain_chances h_trial_mountain_shows h_trial_mountain_diary h_text_tape h_text_tape_bytes v_isKept out.2.1 out.2.2.1 out.2.2.2.1 out.2.2.2.2.1 out.2.2.2.2.2.1 out.2.2.2.2.2.2.1 out.2.2.2.2.2.2.2.1 out.2.2.2.2.2.2.2.2.1 out.2.2.2.2.2.2.2.2.2.1 out.2.2.2.2.2.2.2.2.2.2.1 out.2.2.2.2.2.2.2.2.2.2.2.1 out.2.2.2.2.2.2.2.2.2.2.2.2.1 out.2.2.2.2.2.2.2.2.2.2.2.2.2.1 out.2.2.2.2.2.2.2.2.2.2.2.2.2.2.1 out.2.2.2.2.2.2.2.2.2.2.2.2.2.2.2.1 out.2.2.2.2.2.2.2.2.2.2.2.2.2.2.2.2.1 out.2.2.2.2.2.2.2.2.2.2.2.2.2.2.2.2.2.1 out.2.2.2.2.2.2.2.2.2.2.2.2.2.2.2.2.2.2.1 out.2.2.2.2.2.2.2.2.2.2.2.2.2.2.2.2.2.2.2.1 out.2.2.2.2.2.2.2.2.2.2.2.2.2.2.2.2.2.2.2.2.1 out.2.2.2.2.2.2.2.2.2.2.2.2.2.2.2.2.2.2.2.2.2.1 out.2.2.2.2.2.2.2.2.2.2.2.2.2.2.2.2.2.2.2.2.2.2.1 out.2.2.2.2.2.2.2.2.2.2.2.2.2.2.2.2.2.2.2.2.2.2.2.1 out.2.2.2.2.2.2.2.2.2.2.2.2.2.2.2.2.2.2.2.2.2.2.2.2.1 out.2.2.2.2.2.2.2.2.2.2.2.2.2.2.2.2.2.2.2.2.2.2.2.2.2.1 out.2.2.2.2.2.2.2.2.2.2.2.2.2.2.2.2.2.2.2.2.2.2.2.2.2.2.1 out.2.2.2.2.2.2.2.2.2.2.2.2.2.2.2.2.2.2.2.2.2.2.2.2.2.2.2.1 out.2.2.2.2.2.2.2.2.2.2.2.2.2.2.2.2.2.2.2.2.2.2.2.2.2.2.2.2.1 out.2.2.2.2.2.2.2.2.2.2.2.2.2.2.2.2.2.2.2.2.2.2.2.2.2.2.2.2.2.1 out.2.2.2.2.2.2.2.2.2.2.2.2.2.2.2.2.2.2.2.2.2.2.2.2.2.2.2.2.2.2.1 out.2.2.2.2.2.2.2.2.2.2.2.2.2.2.2.2.2.2.2.2.2.2.2.2.2.2.2.2.2.2.2.1 out.2.2.2.2.2.2.2.2.2.2.2.2.2.2.2.2.2.2.2.2.2.2.2.2.2.2.2.2.2.2.2.2.1 out.2.2.2.2.2.2.2.2.2.2.2.2.2.2.2.2.2.2.2.2.2.2.2.2.2.2.2.2.2.2.2.2.2.1 out.2.2.2.2.2.2.2.2.2.2.2.2.2.2.2.2.2.2.2.2.2.2.2.2.2.2.2.2.2.2.2.2.2.2.1 out.2.2.2.2.2.2.2.2.2.2.2.2.2.2.2.2.2.2.2.2.2.2.2.2.2.2.2.2.2.2.2.2.2.2.2.1 out.2.2.2.2.2.2.2.2.2.2.2.2.2.2.2.2.2.2.2.2.2.2.2.2.2.2.2.2.2.2.2.2.2.2.2.2.1 out.2.2.2.2.2.2.2.2.2.2.2.2.2.2.2.2.2.2.2.2.2.2.2.2.2.2.2.2.2.2.2.2.2.2.2.2.2.1 out.2.2.2.2.2.2.2.2.2.2.2.2.2.2.2.2.2.2.2.2.2.2.2.2.2.2.2.2.2.2.2.2.2.2.2.2.2.2.1 out.2.2.2.2.2.2.2.2.2.2.2.2.2.2.2.2.2.2.2.2.2.2.2.2.2.2.2.2.2.2.2.2.2.2.2.2.2.2.2.1 out.2.2.2.2.2.2.2.2.2.2.2.2.2.2.2.2.2.2.2.2.2.2.2.2.2.2.2.2.2.2.2.2.2.2.2.2.2.2.2.2.1 out.2.2.2.2.2.2.2.2.2.2.2.2.2.2.2.2.2.2.2.2.2.2.2.2.2.2.2.2.2.2.2.2.2.2.2.2.2.2.2.2.2.1 out.2.2.2.2.2.2.2.2.2.2.2.2.2.2.2.2.2.2.2.2.2.2.2.2.2.2.2.2.2.2.2.2.2.2.2.2.2.2.2.2.2.2.1 out.2.2.2.2.2.2.2.2.2.2.2.2.2.2.2.2.2.2.2.2.2.2.2.2.2.2.2.2.2.2.2.2.2.2.2.2.2.2.2.2.2.2.2.1 out.2.2.2.2.2.2.2.2.2.2.2.2.2.2.2.2.2.2.2.2.2.2.2.2.2.2.2.2.2.2.2.2.2.2.2.2.2.2.2.2.2.2.2.2.1 out.2.2.2.2.2.2.2.2.2.2.2.2.2.2.2.2.2.2.2.2.2.2.2.2.2.2.2.2.2.2.2.2.2.2.2.2.2.2.2.2.2.2.2.2.2.1 out.2.2.2.2.2.2.2.2.2.2.2.2.2.2.2.2.2.2.2.2.2.2.2.2.2.2.2.2.2.2.2.2.2.2.2.2.2.2.2.2.2.2.2.2.2.2.1 out.2.2.2.2.2.2.2.2.2.2.2.2.2.2.2.2.2.2.2.2.2.2.2.2.2.2.2.2.2.2.2.2.2.2.2.2.2.2.2.2.2.2.2.2.2.2.2.1 out.2.2.2.2.2.2.2.2.2.2.2.2.2.2.2.2.2.2.2.2.2.2.2.2.2.2.2.2.2.2.2.2.2.2.2.2.2.2.2.2.2.2.2.2.2.2.2.2.1 out.2.2.2.2.2.2.2.2.2.2.2.2.2.2.2.2.2.2.2.2.2.2.2.2.2.2.2.2.2.2.2.2.2.2.2.2.2.2.2.2.2.2.2.2.2.2.2.2.2.1 out.2.2.2.2.2.2.2.2.2.2.2.2.2.2.2.2.2.2.2.2.2.2.2.2.2.2.2.2.2.2.2.2.2.2.2.2.2.2.2.2.2.2.2.2.2.2.2.2.2.2.1 out.2.2.2.2.2.2.2.2.2.2.2.2.2.2.2.2.2.2.2.2.2.2.2.2.2.2.2.2.2.2.2.2.2.2.2.2.2.2.2.2.2.2.2.2.2.2.2.2.2.2.2 v_text_tape_bytes) out.1 :=
  kMi_of (own := "MountainFarms") (plainFor_of_name (by decide)) rfl rfl (fun p e s m args below meth c ls X hV hl => t_X_slope X hf hV hl)
set_option maxHeartbeats 2000000 in
set_option maxRecDepth 20000 in
theorem t_X_isSheet {l : Launch} {p : Program} {e : Env} {s : State} {m : MethodId} {args : Array Value} {below : List Frame} {meth : Method} {c : Code} {D : kD} {wc0 : va_W} {x0 : Int32} {out : Int32} (X : kX p m meth c s args D (va_A wc0 s.heap.size) b_X_isSheet "MountainFarms" 1 (some .boolean)) (hf : f_X_isSheet x0 = some out) {H : Heap} {locs : List Loc} (hV : kV D (va_A wc0 s.heap.size) s (wd_X_isSheet D) H locs) {ls : Array Slot} (hl : lv_has ls 1 [(0, .int x0)]) : W p l e { frames := 1, cells := 0, slots := 0, locals := 22 } s m args below meth c H locs 0 0 (MQ below (kQi D wc0 (wd_X_isSheet D) s.heap.size out) args s 0 0 (va_A wc0 s.heap.size)) (F0 m 0 ls []) := by
  unfold f_X_isSheet at hf
  obtain ⟨hx, hb, -⟩ := id X
  refine lv_iload_n hx hb d_X_isSheet_0 rfl (lv_at hl 0 rfl) ?_
  refine lv_iconst (v := 0) hx hb d_X_isSheet_1 ic_0 ?_
  refine lv_iconst (v := 3) hx hb d_X_isSheet_2 ic_3 ?_
  obtain ⟨r_4, hc_5, hf⟩ := kb1_some hf
  refine k_csi (w1 := (wd_X_isWithin D)) (r := r_4) (ws' := (wd_X_isSheet D)) X hV hl.1 (c_X_isWithin D x0 (0 : Int32) (3 : Int32) hc_5) fk_X_isWithin gw_280 rfl [] [] rfl rfl trivial rfl rfl rfl d_X_isSheet_3 (fun H locs hV => ?_)
  obtain ⟨h_6, hf⟩ := kchk hf
  have e_ := Option.some.inj hf
  subst e_
  exact k_iret X rfl hV (knarB h_6) d_X_isSheet_6
set_option maxHeartbeats 2000000 in
set_option maxRecDepth 20000 in
theorem c_X_isSheet {l : Launch} (D : kD) (x0 : Int32) {out : Int32} (hf : f_X_isSheet x0 = some out) : kMi l D y_X_isSheet b_X_isSheet 1 (some .boolean) { frames := 1, cells := 0, slots := 0, locals := 22 } [.int x0] (wd_X_isSheet D) (wd_X_isSheet D) out :=
  kMi_of (own := "MountainFarms") (plainFor_of_name (by decide)) rfl rfl (fun p e s m args below meth c ls X hV hl => t_X_isSheet X hf hV hl)
set_option maxHeartbeats 2000000 in
set_option maxRecDepth 20000 in
theorem tb_Sh_lay_2 {l : Launch} {p : Program} {e : Env} {s : State} {m : MethodId} {args : Array Value} {below : List Frame} {meth : Method} {c : Code} {D : kD} {wc0 : va_W} {h : Nat} {h_numbers : Nat} {v_bits : Int32} {v_size : Int32} {v_numbers : Nat → Int64} {x3 : Int32} {rec2 : Int32 → (Nat → Int64) → Option (Int32 × Int32 × (Nat → Int64))} {out : Int32 × Int32 × (Nat → Int64)} (X : kX p m meth c s args D (va_A wc0 s.heap.size) b_Sh_lay "MountainFarms$Sheet" 4 none) (hrec2 : ∀ (x3 : Int32) (v_numbers : Nat → Int64), rec2 x3 v_numbers = some out → ∀ (H : Heap) (locs : List Loc) (ls : Array Slot), kV D (va_A wc0 s.heap.size) s (wd_Sh_lay D h h_numbers v_bits v_size v_numbers) H locs → lv_has ls 4 [(0, .ref h), (3, .int x3)] → W p l e { frames := 0, cells := 0, slots := 0, locals := 0 } s m args below meth c H locs 0 0 (MQ below (kQv D wc0 (wd_Sh_lay D h h_numbers out.1 out.2.1 out.2.2) s.heap.size) args s 0 0 (va_A wc0 s.heap.size)) (F0 m 20 ls [])) (hf : fb_Sh_lay_2 rec2 v_bits v_size x3 v_numbers = some out) {H : Heap} {locs : List Loc} (hV : kV D (va_A wc0 s.heap.size) s (wd_Sh_lay D h h_numbers v_bits v_size v_numbers) H locs) {ls : Array Slot} (hl : lv_has ls 4 [(0, .ref h), (3, .int x3)]) : W p l e { frames := 0, cells := 0, slots := 0, locals := 0 } s m args below meth c H locs 0 0 (MQ below (kQv D wc0 (wd_Sh_lay D h h_numbers out.1 out.2.1 out.2.2) s.heap.size) args s 0 0 (va_A wc0 s.heap.size)) (F0 m 20 ls []) := by
  unfold fb_Sh_lay_2 at hf
  obtain ⟨hx, hb, -⟩ := id X
  refine lv_iload_n hx hb d_Sh_lay_20 rfl (lv_at hl 1 rfl) ?_
  refine lv_bipush (v := 40) hx hb d_Sh_lay_21 bp_40 ?_
  refine lv_icmp_ge (tgt := 39) hx hb d_Sh_lay_23 (by decide) (fun c_5 => ?_) (fun c_5 => ?_)
  · replace hf := kifp c_5 hf
    have e_ := Option.some.inj hf
    subst e_
    exact k_vret X rfl hV d_Sh_lay_39
  replace hf := kifn c_5 hf
  refine lv_aload_n hx hb d_Sh_lay_26 rfl (lv_at hl 0 rfl) ?_
  refine k_get X hV 0 4 0 rfl rfl rfl gw_235 rfl rfl d_Sh_lay_27 ?_
  refine lv_iload_n hx hb d_Sh_lay_30 rfl (lv_at hl 1 rfl) ?_
  refine lv_lconst (v := 0) hx hb d_Sh_lay_31 lc_0 ?_
  obtain ⟨h_6, hf⟩ := kidx_some hf
  refine k_last (ws' := (wd_Sh_lay D h h_numbers v_bits v_size (vp_updL v_numbers x3.toNatClampNeg (0 : Int64)))) X hV 1 rfl h_6 rfl rfl d_Sh_lay_32 (fun H locs hV => ?_)
  refine lv_iinc (v := (x3 + 1)) (lv' := [(3, .int (x3 + 1)), (0, .ref h)]) hx hb d_Sh_lay_33 hl (k := 1) rfl rfl (by decide) rfl (fun ls hl => ?_)
  refine lv_goto (tgt := 20) hx hb d_Sh_lay_36 (by decide) ?_
  exact hrec2 _ _ hf _ _ _ hV (lv_sub hl [1, 0] rfl)
set_option maxHeartbeats 2000000 in
set_option maxRecDepth 20000 in
theorem tl_Sh_lay_2 {l : Launch} {p : Program} {e : Env} {s : State} {m : MethodId} {args : Array Value} {below : List Frame} {meth : Method} {c : Code} {D : kD} {wc0 : va_W} {h : Nat} {h_numbers : Nat} {v_bits : Int32} {v_size : Int32} {out : Int32 × Int32 × (Nat → Int64)} (X : kX p m meth c s args D (va_A wc0 s.heap.size) b_Sh_lay "MountainFarms$Sheet" 4 none) : ∀ (n : Nat) (x3 : Int32) (v_numbers : Nat → Int64), fl_Sh_lay_2 v_bits v_size n x3 v_numbers = some out → ∀ (H : Heap) (locs : List Loc) (ls : Array Slot), kV D (va_A wc0 s.heap.size) s (wd_Sh_lay D h h_numbers v_bits v_size v_numbers) H locs → lv_has ls 4 [(0, .ref h), (3, .int x3)] → W p l e { frames := 0, cells := 0, slots := 0, locals := 0 } s m args below meth c H locs 0 0 (MQ below (kQv D wc0 (wd_Sh_lay D h h_numbers out.1 out.2.1 out.2.2) s.heap.size) args s 0 0 (va_A wc0 s.heap.size)) (F0 m 20 ls []) := by
  intro n
  induction n with
  | zero => intro x3 v_numbers hf; exact knone hf
  | succ n ih => intro x3 v_numbers hf H locs ls hV hl; exact tb_Sh_lay_2 X ih hf hV hl
set_option maxHeartbeats 2000000 in
set_option maxRecDepth 20000 in
theorem t_Sh_lay_1 {l : Launch} {p : Program} {e : Env} {s : State} {m : MethodId} {args : Array Value} {below : List Frame} {meth : Method} {c : Code} {D : kD} {wc0 : va_W} {h : Nat} {h_numbers : Nat} {v_bits : Int32} {v_size : Int32} {v_numbers : Nat → Int64} {s1 : Int32} {out : Int32 × Int32 × (Nat → Int64)} (X : kX p m meth c s args D (va_A wc0 s.heap.size) b_Sh_lay "MountainFarms$Sheet" 4 none) (hf : f_Sh_lay_1 s1 v_bits v_size v_numbers = some out) {H : Heap} {locs : List Loc} (hV : kV D (va_A wc0 s.heap.size) s (wd_Sh_lay D h h_numbers v_bits v_size v_numbers) H locs) {ls : Array Slot} (hl : lv_has ls 4 [(0, .ref h)]) : W p l e { frames := 0, cells := 0, slots := 0, locals := 0 } s m args below meth c H locs 0 0 (MQ below (kQv D wc0 (wd_Sh_lay D h h_numbers out.1 out.2.1 out.2.2) s.heap.size) args s 0 0 (va_A wc0 s.heap.size)) (F0 m 15 ls [.int s1, .ref h]) := by
  unfold f_Sh_lay_1 at hf
  obtain ⟨hx, hb, -⟩ := id X
  refine k_putv (ty := .int) (ws' := (wd_Sh_lay D h h_numbers v_bits s1 v_numbers)) X hV 0 4 2 rfl rfl rfl gw_239 rfl rfl rfl rfl rfl rfl rfl d_Sh_lay_15 (fun H locs hV => ?_)
  refine lv_iconst (v := 0) hx hb d_Sh_lay_18 ic_0 ?_
  refine lv_istore_n (lv' := [(3, .int (0 : Int32)), (0, .ref h)]) hx hb d_Sh_lay_19 rfl hl (by decide) rfl (fun ls hl => ?_)
  exact tl_Sh_lay_2 X _ _ _ hf _ _ _ hV (lv_sub hl [1, 0] rfl)
set_option maxHeartbeats 2000000 in
set_option maxRecDepth 20000 in
theorem t_Sh_lay {l : Launch} {p : Program} {e : Env} {s : State} {m : MethodId} {args : Array Value} {below : List Frame} {meth : Method} {c : Code} {D : kD} {wc0 : va_W} {h : Nat} {h_numbers : Nat} {v_bits : Int32} {v_size : Int32} {v_numbers : Nat → Int64} {x1 : Int32} {x2 : Int32} {out : Int32 × Int32 × (Nat → Int64)} (X : kX p m meth c s args D (va_A wc0 s.heap.size) b_Sh_lay "MountainFarms$Sheet" 4 none) (hf : f_Sh_lay v_bits v_size v_numbers x1 x2 = some out) {H : Heap} {locs : List Loc} (hV : kV D (va_A wc0 s.heap.size) s (wd_Sh_lay D h h_numbers v_bits v_size v_numbers) H locs) {ls : Array Slot} (hl : lv_has ls 4 [(0, .ref h), (1, .int x1), (2, .int x2)]) : W p l e { frames := 0, cells := 0, slots := 0, locals := 0 } s m args below meth c H locs 0 0 (MQ below (kQv D wc0 (wd_Sh_lay D h h_numbers out.1 out.2.1 out.2.2) s.heap.size) args s 0 0 (va_A wc0 s.heap.size)) (F0 m 0 ls []) := by
  unfold f_Sh_lay at hf
  obtain ⟨hx, hb, -⟩ := id X
  refine lv_aload_n hx hb d_Sh_lay_0 rfl (lv_at hl 0 rfl) ?_
  refine lv_iload_n hx hb d_Sh_lay_1 rfl (lv_at hl 1 rfl) ?_
  refine k_putv (ty := .int) (ws' := (wd_Sh_lay D h h_numbers x1 v_size v_numbers)) X hV 0 4 1 rfl rfl rfl gw_237 rfl rfl rfl rfl rfl rfl rfl d_Sh_lay_2 (fun H locs hV => ?_)
  refine lv_aload_n hx hb d_Sh_lay_5 rfl (lv_at hl 0 rfl) ?_
  refine lv_iload_n hx hb d_Sh_lay_6 rfl (lv_at hl 1 rfl) ?_
  refine lv_if_ne (tgt := 14) hx hb d_Sh_lay_7 (by decide) (fun c_4 => ?_) (fun c_4 => ?_)
  · replace hf := kifn c_4 hf
    refine lv_iload_n hx hb d_Sh_lay_14 rfl (lv_at hl 2 rfl) ?_
    exact t_Sh_lay_1 X hf hV (lv_sub hl [0] rfl)
  replace hf := kifp c_4 hf
  refine lv_iconst (v := 0) hx hb d_Sh_lay_10 ic_0 ?_
  refine lv_goto (tgt := 15) hx hb d_Sh_lay_11 (by decide) ?_
  exact t_Sh_lay_1 X hf hV (lv_sub hl [0] rfl)
set_option maxHeartbeats 2000000 in
set_option maxRecDepth 20000 in
theorem c_Sh_lay {l : Launch} (D : kD) (h : Nat) (h_numbers : Nat) (v_bits : Int32) (v_size : Int32) (v_numbers : Nat → Int64) (x1 : Int32) (x2 : Int32) {out : Int32 × Int32 × (Nat → Int64)} (hf : f_Sh_lay v_bits v_size v_numbers x1 x2 = some out) : kMv l D y_Sh_lay b_Sh_lay 4 none { frames := 0, cells := 0, slots := 0, locals := 0 } [.ref h, .int x1, .int x2] (wd_Sh_lay D h h_numbers v_bits v_size v_numbers) (wd_Sh_lay D h h_numbers out.1 out.2.1 out.2.2) :=
  kMv_of (own := "MountainFarms$Sheet") (plainFor_of_name (by decide)) rfl rfl (fun p e s m args below meth c ls X hV hl => t_Sh_lay X hf hV hl)
set_option maxHeartbeats 2000000 in
set_option maxRecDepth 20000 in
theorem t_X_sheet_1 {l : Launch} {p : Program} {e : Env} {s : State} {m : MethodId} {args : Array Value} {below : List Frame} {meth : Method} {c : Code} {D : kD} {wc0 : va_W} {h : Nat} {h_here : Nat} {h_kept : Nat} {h_trial : Nat} {h_parts : Nat} {h_text : Nat} {h_sheets : Nat} {h_findings : Nat} {h_sheets_0 : Nat} {h_sheets_1 : Nat} {h_sheets_2 : Nat} {h_sheets_3 : Nat} {h_sheets_0_numbers : Nat} {h_sheets_1_numbers : Nat} {h_sheets_2_numbers : Nat} {h_sheets_3_numbers : Nat} {v_isKept : Int32} {v_sheets_0_bits : Int32} {v_sheets_0_size : Int32} {v_sheets_0_numbers : Nat → Int64} {v_sheets_1_bits : Int32} {v_sheets_1_size : Int32} {v_sheets_1_numbers : Nat → Int64} {v_sheets_2_bits : Int32} {v_sheets_2_size : Int32} {v_sheets_2_numbers : Nat → Int64} {v_sheets_3_bits : Int32} {v_sheets_3_size : Int32} {v_sheets_3_numbers : Nat → Int64} {v_findings : Nat → Int32} {out : Int32 × Int32 × Int32 × (Nat → Int64) × Int32 × Int32 × (Nat → Int64) × Int32 × Int32 × (Nat → Int64) × Int32 × Int32 × (Nat → Int64) × (Nat → Int32)} (X : kX p m meth c s args D (va_A wc0 s.heap.size) b_X_sheet "MountainFarms" 4 (some .int)) (hf : f_X_sheet_1 v_sheets_0_bits v_sheets_0_size v_sheets_0_numbers v_sheets_1_bits v_sheets_1_size v_sheets_1_numbers v_sheets_2_bits v_sheets_2_size v_sheets_2_numbers v_sheets_3_bits v_sheets_3_size v_sheets_3_numbers v_findings = some out) {H : Heap} {locs : List Loc} (hV : kV D (va_A wc0 s.heap.size) s (wd_X_sheet D h h_here h_kept h_trial h_parts h_text h_sheets h_findings h_sheets_0 h_sheets_1 h_sheets_2 h_sheets_3 h_sheets_0_numbers h_sheets_1_numbers h_sheets_2_numbers h_sheets_3_numbers v_isKept v_sheets_0_bits v_sheets_0_size v_sheets_0_numbers v_sheets_1_bits v_sheets_1_size v_sheets_1_numbers v_sheets_2_bits v_sheets_2_size v_sheets_2_numbers v_sheets_3_bits v_sheets_3_size v_sheets_3_numbers v_findings) H locs) {ls : Array Slot} (hl : lv_has ls 4 [(0, .ref h)]) : W p l e { frames := 2, cells := 0, slots := 0, locals := 43 } s m args below meth c H locs 0 0 (MQ below (kQi D wc0 (wd_X_sheet D h h_here h_kept h_trial h_parts h_text h_sheets h_findings h_sheets_0 h_sheets_1 h_sheets_2 h_sheets_3 h_sheets_0_numbers h_sheets_1_numbers h_sheets_2_numbers h_sheets_3_numbers v_isKept out.2.1 out.2.2.1 out.2.2.2.1 out.2.2.2.2.1 out.2.2.2.2.2.1 out.2.2.2.2.2.2.1 out.2.2.2.2.2.2.2.1 out.2.2.2.2.2.2.2.2.1 out.2.2.2.2.2.2.2.2.2.1 out.2.2.2.2.2.2.2.2.2.2.1 out.2.2.2.2.2.2.2.2.2.2.2.1 out.2.2.2.2.2.2.2.2.2.2.2.2.1 out.2.2.2.2.2.2.2.2.2.2.2.2.2) s.heap.size out.1) args s 0 0 (va_A wc0 s.heap.size)) (F0 m 29 ls []) := by
  unfold f_X_sheet_1 at hf
  obtain ⟨hx, hb, -⟩ := id X
  refine lv_aload_n hx hb d_X_sheet_29 rfl (lv_at hl 0 rfl) ?_
  refine lv_iconst (v := 0) hx hb d_X_sheet_30 ic_0 ?_
  obtain ⟨r_46, v_findings_47, hc_48, hf⟩ := kb2_some hf
  refine k_cvi (w1 := (wd_X_finding D h h_here h_kept h_trial h_parts h_text h_sheets h_findings v_isKept v_findings_47)) (r := r_46) (ws' := (wd_X_sheet D h h_here h_kept h_trial h_parts h_text h_sheets h_findings h_sheets_0 h_sheets_1 h_sheets_2 h_sheets_3 h_sheets_0_numbers h_sheets_1_numbers h_sheets_2_numbers h_sheets_3_numbers v_isKept v_sheets_0_bits v_sheets_0_size v_sheets_0_numbers v_sheets_1_bits v_sheets_1_size v_sheets_1_numbers v_sheets_2_bits v_sheets_2_size v_sheets_2_numbers v_sheets_3_bits v_sheets_3_size v_sheets_3_numbers v_findings_47)) X hV hl.1 (c_X_finding D h h_here h_kept h_trial h_parts h_text h_sheets h_findings v_isKept v_findings (0 : Int32) hc_48) fk_X_finding gw_283 rfl 0 8 rfl rfl [0, 10] [some 0, none, none, none, none, none, none, none, none, none, some 1] rfl rfl ⟨rfl, rfl, rfl, rfl, rfl, rfl, rfl, rfl, rfl, rfl, rfl, rfl, rfl, rfl, rfl, trivial⟩ rfl rfl rfl d_X_sheet_31 (fun H locs hV => ?_)
  have e_ := Option.some.inj hf
  subst e_
  exact k_iret X rfl hV rfl d_X_sheet_34
set_option maxHeartbeats 2000000 in
set_option maxRecDepth 20000 in
theorem t_X_sheet_2 {l : Launch} {p : Program} {e : Env} {s : State} {m : MethodId} {args : Array Value} {below : List Frame} {meth : Method} {c : Code} {D : kD} {wc0 : va_W} {h : Nat} {h_here : Nat} {h_kept : Nat} {h_trial : Nat} {h_parts : Nat} {h_text : Nat} {h_sheets : Nat} {h_findings : Nat} {h_sheets_0 : Nat} {h_sheets_1 : Nat} {h_sheets_2 : Nat} {h_sheets_3 : Nat} {h_sheets_0_numbers : Nat} {h_sheets_1_numbers : Nat} {h_sheets_2_numbers : Nat} {h_sheets_3_numbers : Nat} {v_isKept : Int32} {v_sheets_0_bits : Int32} {v_sheets_0_size : Int32} {v_sheets_0_numbers : Nat → Int64} {v_sheets_1_bits : Int32} {v_sheets_1_size : Int32} {v_sheets_1_numbers : Nat → Int64} {v_sheets_2_bits : Int32} {v_sheets_2_size : Int32} {v_sheets_2_numbers : Nat → Int64} {v_sheets_3_bits : Int32} {v_sheets_3_size : Int32} {v_sheets_3_numbers : Nat → Int64} {v_findings : Nat → Int32} {x1 : Int32} {x2 : Int32} {x3 : Int32} {out : Int32 × Int32 × Int32 × (Nat → Int64) × Int32 × Int32 × (Nat → Int64) × Int32 × Int32 × (Nat → Int64) × Int32 × Int32 × (Nat → Int64) × (Nat → Int32)} (X : kX p m meth c s args D (va_A wc0 s.heap.size) b_X_sheet "MountainFarms" 4 (some .int)) (hf : f_X_sheet_2 x1 x2 x3 v_sheets_0_bits v_sheets_0_size v_sheets_0_numbers v_sheets_1_bits v_sheets_1_size v_sheets_1_numbers v_sheets_2_bits v_sheets_2_size v_sheets_2_numbers v_sheets_3_bits v_sheets_3_size v_sheets_3_numbers v_findings = some out) {H : Heap} {locs : List Loc} (hV : kV D (va_A wc0 s.heap.size) s (wd_X_sheet D h h_here h_kept h_trial h_parts h_text h_sheets h_findings h_sheets_0 h_sheets_1 h_sheets_2 h_sheets_3 h_sheets_0_numbers h_sheets_1_numbers h_sheets_2_numbers h_sheets_3_numbers v_isKept v_sheets_0_bits v_sheets_0_size v_sheets_0_numbers v_sheets_1_bits v_sheets_1_size v_sheets_1_numbers v_sheets_2_bits v_sheets_2_size v_sheets_2_numbers v_sheets_3_bits v_sheets_3_size v_sheets_3_numbers v_findings) H locs) {ls : Array Slot} (hl : lv_has ls 4 [(0, .ref h), (1, .int x1), (2, .int x2), (3, .int x3)]) : W p l e { frames := 2, cells := 0, slots := 0, locals := 43 } s m args below meth c H locs 0 0 (MQ below (kQi D wc0 (wd_X_sheet D h h_here h_kept h_trial h_parts h_text h_sheets h_findings h_sheets_0 h_sheets_1 h_sheets_2 h_sheets_3 h_sheets_0_numbers h_sheets_1_numbers h_sheets_2_numbers h_sheets_3_numbers v_isKept out.2.1 out.2.2.1 out.2.2.2.1 out.2.2.2.2.1 out.2.2.2.2.2.1 out.2.2.2.2.2.2.1 out.2.2.2.2.2.2.2.1 out.2.2.2.2.2.2.2.2.1 out.2.2.2.2.2.2.2.2.2.1 out.2.2.2.2.2.2.2.2.2.2.1 out.2.2.2.2.2.2.2.2.2.2.2.1 out.2.2.2.2.2.2.2.2.2.2.2.2.1 out.2.2.2.2.2.2.2.2.2.2.2.2.2) s.heap.size out.1) args s 0 0 (va_A wc0 s.heap.size)) (F0 m 35 ls []) := by
  unfold f_X_sheet_2 at hf
  obtain ⟨hx, hb, -⟩ := id X
  refine lv_iload_n hx hb d_X_sheet_35 rfl (lv_at hl 3 rfl) ?_
  refine lv_if_ge (tgt := 46) hx hb d_X_sheet_36 (by decide) (fun c_49 => ?_) (fun c_49 => ?_)
  · replace hf := kifp c_49 hf
    refine lv_iload_n hx hb d_X_sheet_46 rfl (lv_at hl 3 rfl) ?_
    refine lv_bipush (v := 40) hx hb d_X_sheet_47 bp_40 ?_
    refine lv_icmp_le (tgt := 58) hx hb d_X_sheet_49 (by decide) (fun c_50 => ?_) (fun c_50 => ?_)
    · replace hf := kifp c_50 hf
      refine lv_aload_n hx hb d_X_sheet_58 rfl (lv_at hl 0 rfl) ?_
      refine k_get X hV 0 8 5 rfl rfl rfl gw_253 rfl rfl d_X_sheet_59 ?_
      refine lv_iload_n hx hb d_X_sheet_62 rfl (lv_at hl 1 rfl) ?_
      have hfs_51 := hf
      have hVs_51 := hV
      have hls_51 := hl
      by_cases c_51 : x1 = 0
      · replace hfs_51 := kifp c_51 hfs_51
        subst c_51
        have hf := hfs_51
        have hV := hVs_51
        have hl := hls_51
        refine k_aald (q := h_sheets_0) X hV 1 2 rfl rfl kin_0_4 rfl d_X_sheet_63 ?_
        refine lv_iload_n hx hb d_X_sheet_64 rfl (lv_at hl 2 rfl) ?_
        refine lv_iload_n hx hb d_X_sheet_65 rfl (lv_at hl 3 rfl) ?_
        obtain ⟨v_sheets_0_bits_52, v_sheets_0_size_53, v_sheets_0_numbers_54, hc_55, hf⟩ := kb3_some hf
        refine k_cvv (w1 := (wd_Sh_lay D h_sheets_0 h_sheets_0_numbers v_sheets_0_bits_52 v_sheets_0_size_53 v_sheets_0_numbers_54)) (ws' := (wd_X_sheet D h h_here h_kept h_trial h_parts h_text h_sheets h_findings h_sheets_0 h_sheets_1 h_sheets_2 h_sheets_3 h_sheets_0_numbers h_sheets_1_numbers h_sheets_2_numbers h_sheets_3_numbers v_isKept v_sheets_0_bits_52 v_sheets_0_size_53 v_sheets_0_numbers_54 v_sheets_1_bits v_sheets_1_size v_sheets_1_numbers v_sheets_2_bits v_sheets_2_size v_sheets_2_numbers v_sheets_3_bits v_sheets_3_size v_sheets_3_numbers v_findings)) X hV hl.1 (c_Sh_lay D h_sheets_0 h_sheets_0_numbers v_sheets_0_bits v_sheets_0_size v_sheets_0_numbers x2 x3 hc_55) fk_Sh_lay gw_807 rfl 2 4 rfl rfl [2, 3] [none, none, some 0, some 1, none, none, none, none, none, none, none] rfl rfl ⟨rfl, rfl, rfl, rfl, rfl, rfl, rfl, rfl, rfl, rfl, rfl, rfl, rfl, rfl, rfl, trivial⟩ rfl rfl rfl d_X_sheet_66 (fun H locs hV => ?_)
        refine lv_aload_n hx hb d_X_sheet_69 rfl (lv_at hl 0 rfl) ?_
        refine k_get X hV 0 8 5 rfl rfl rfl gw_253 rfl rfl d_X_sheet_70 ?_
        refine lv_iload_n hx hb d_X_sheet_73 rfl (lv_at hl 1 rfl) ?_
        refine k_aald (q := h_sheets_0) X hV 1 2 rfl rfl kin_0_4 rfl d_X_sheet_74 ?_
        refine k_get X hV 2 4 2 rfl rfl rfl gw_240 rfl rfl d_X_sheet_75 ?_
        have e_ := Option.some.inj hf
        subst e_
        exact k_iret X rfl hV rfl d_X_sheet_78
      replace hfs_51 := kifn c_51 hfs_51
      by_cases c_56 : x1 = 1
      · replace hfs_51 := kifp c_56 hfs_51
        subst c_56
        have hf := hfs_51
        have hV := hVs_51
        have hl := hls_51
        refine k_aald (q := h_sheets_1) X hV 1 2 rfl rfl kin_1_4 rfl d_X_sheet_63 ?_
        refine lv_iload_n hx hb d_X_sheet_64 rfl (lv_at hl 2 rfl) ?_
        refine lv_iload_n hx hb d_X_sheet_65 rfl (lv_at hl 3 rfl) ?_
        obtain ⟨v_sheets_1_bits_57, v_sheets_1_size_58, v_sheets_1_numbers_59, hc_60, hf⟩ := kb3_some hf
        refine k_cvv (w1 := (wd_Sh_lay D h_sheets_1 h_sheets_1_numbers v_sheets_1_bits_57 v_sheets_1_size_58 v_sheets_1_numbers_59)) (ws' := (wd_X_sheet D h h_here h_kept h_trial h_parts h_text h_sheets h_findings h_sheets_0 h_sheets_1 h_sheets_2 h_sheets_3 h_sheets_0_numbers h_sheets_1_numbers h_sheets_2_numbers h_sheets_3_numbers v_isKept v_sheets_0_bits v_sheets_0_size v_sheets_0_numbers v_sheets_1_bits_57 v_sheets_1_size_58 v_sheets_1_numbers_59 v_sheets_2_bits v_sheets_2_size v_sheets_2_numbers v_sheets_3_bits v_sheets_3_size v_sheets_3_numbers v_findings)) X hV hl.1 (c_Sh_lay D h_sheets_1 h_sheets_1_numbers v_sheets_1_bits v_sheets_1_size v_sheets_1_numbers x2 x3 hc_60) fk_Sh_lay gw_807 rfl 4 4 rfl rfl [4, 5] [none, none, none, none, some 0, some 1, none, none, none, none, none] rfl rfl ⟨rfl, rfl, rfl, rfl, rfl, rfl, rfl, rfl, rfl, rfl, rfl, rfl, rfl, rfl, rfl, trivial⟩ rfl rfl rfl d_X_sheet_66 (fun H locs hV => ?_)
        refine lv_aload_n hx hb d_X_sheet_69 rfl (lv_at hl 0 rfl) ?_
        refine k_get X hV 0 8 5 rfl rfl rfl gw_253 rfl rfl d_X_sheet_70 ?_
        refine lv_iload_n hx hb d_X_sheet_73 rfl (lv_at hl 1 rfl) ?_
        refine k_aald (q := h_sheets_1) X hV 1 2 rfl rfl kin_1_4 rfl d_X_sheet_74 ?_
        refine k_get X hV 4 4 2 rfl rfl rfl gw_240 rfl rfl d_X_sheet_75 ?_
        have e_ := Option.some.inj hf
        subst e_
        exact k_iret X rfl hV rfl d_X_sheet_78
      replace hfs_51 := kifn c_56 hfs_51
      by_cases c_61 : x1 = 2
      · replace hfs_51 := kifp c_61 hfs_51
        subst c_61
        have hf := hfs_51
        have hV := hVs_51
        have hl := hls_51
        refine k_aald (q := h_sheets_2) X hV 1 2 rfl rfl kin_2_4 rfl d_X_sheet_63 ?_
        refine lv_iload_n hx hb d_X_sheet_64 rfl (lv_at hl 2 rfl) ?_
        refine lv_iload_n hx hb d_X_sheet_65 rfl (lv_at hl 3 rfl) ?_
        obtain ⟨v_sheets_2_bits_62, v_sheets_2_size_63, v_sheets_2_numbers_64, hc_65, hf⟩ := kb3_some hf
        refine k_cvv (w1 := (wd_Sh_lay D h_sheets_2 h_sheets_2_numbers v_sheets_2_bits_62 v_sheets_2_size_63 v_sheets_2_numbers_64)) (ws' := (wd_X_sheet D h h_here h_kept h_trial h_parts h_text h_sheets h_findings h_sheets_0 h_sheets_1 h_sheets_2 h_sheets_3 h_sheets_0_numbers h_sheets_1_numbers h_sheets_2_numbers h_sheets_3_numbers v_isKept v_sheets_0_bits v_sheets_0_size v_sheets_0_numbers v_sheets_1_bits v_sheets_1_size v_sheets_1_numbers v_sheets_2_bits_62 v_sheets_2_size_63 v_sheets_2_numbers_64 v_sheets_3_bits v_sheets_3_size v_sheets_3_numbers v_findings)) X hV hl.1 (c_Sh_lay D h_sheets_2 h_sheets_2_numbers v_sheets_2_bits v_sheets_2_size v_sheets_2_numbers x2 x3 hc_65) fk_Sh_lay gw_807 rfl 6 4 rfl rfl [6, 7] [none, none, none, none, none, none, some 0, some 1, none, none, none] rfl rfl ⟨rfl, rfl, rfl, rfl, rfl, rfl, rfl, rfl, rfl, rfl, rfl, rfl, rfl, rfl, rfl, trivial⟩ rfl rfl rfl d_X_sheet_66 (fun H locs hV => ?_)
        refine lv_aload_n hx hb d_X_sheet_69 rfl (lv_at hl 0 rfl) ?_
        refine k_get X hV 0 8 5 rfl rfl rfl gw_253 rfl rfl d_X_sheet_70 ?_
        refine lv_iload_n hx hb d_X_sheet_73 rfl (lv_at hl 1 rfl) ?_
        refine k_aald (q := h_sheets_2) X hV 1 2 rfl rfl kin_2_4 rfl d_X_sheet_74 ?_
        refine k_get X hV 6 4 2 rfl rfl rfl gw_240 rfl rfl d_X_sheet_75 ?_
        have e_ := Option.some.inj hf
        subst e_
        exact k_iret X rfl hV rfl d_X_sheet_78
      replace hfs_51 := kifn c_61 hfs_51
      by_cases c_66 : x1 = 3
      · replace hfs_51 := kifp c_66 hfs_51
        subst c_66
        have hf := hfs_51
        have hV := hVs_51
        have hl := hls_51
        refine k_aald (q := h_sheets_3) X hV 1 2 rfl rfl kin_3_4 rfl d_X_sheet_63 ?_
        refine lv_iload_n hx hb d_X_sheet_64 rfl (lv_at hl 2 rfl) ?_
        refine lv_iload_n hx hb d_X_sheet_65 rfl (lv_at hl 3 rfl) ?_
        obtain ⟨v_sheets_3_bits_67, v_sheets_3_size_68, v_sheets_3_numbers_69, hc_70, hf⟩ := kb3_some hf
        refine k_cvv (w1 := (wd_Sh_lay D h_sheets_3 h_sheets_3_numbers v_sheets_3_bits_67 v_sheets_3_size_68 v_sheets_3_numbers_69)) (ws' := (wd_X_sheet D h h_here h_kept h_trial h_parts h_text h_sheets h_findings h_sheets_0 h_sheets_1 h_sheets_2 h_sheets_3 h_sheets_0_numbers h_sheets_1_numbers h_sheets_2_numbers h_sheets_3_numbers v_isKept v_sheets_0_bits v_sheets_0_size v_sheets_0_numbers v_sheets_1_bits v_sheets_1_size v_sheets_1_numbers v_sheets_2_bits v_sheets_2_size v_sheets_2_numbers v_sheets_3_bits_67 v_sheets_3_size_68 v_sheets_3_numbers_69 v_findings)) X hV hl.1 (c_Sh_lay D h_sheets_3 h_sheets_3_numbers v_sheets_3_bits v_sheets_3_size v_sheets_3_numbers x2 x3 hc_70) fk_Sh_lay gw_807 rfl 8 4 rfl rfl [8, 9] [none, none, none, none, none, none, none, none, some 0, some 1, none] rfl rfl ⟨rfl, rfl, rfl, rfl, rfl, rfl, rfl, rfl, rfl, rfl, rfl, rfl, rfl, rfl, rfl, trivial⟩ rfl rfl rfl d_X_sheet_66 (fun H locs hV => ?_)
        refine lv_aload_n hx hb d_X_sheet_69 rfl (lv_at hl 0 rfl) ?_
        refine k_get X hV 0 8 5 rfl rfl rfl gw_253 rfl rfl d_X_sheet_70 ?_
        refine lv_iload_n hx hb d_X_sheet_73 rfl (lv_at hl 1 rfl) ?_
        refine k_aald (q := h_sheets_3) X hV 1 2 rfl rfl kin_3_4 rfl d_X_sheet_74 ?_
        refine k_get X hV 8 4 2 rfl rfl rfl gw_240 rfl rfl d_X_sheet_75 ?_
        have e_ := Option.some.inj hf
        subst e_
        exact k_iret X rfl hV rfl d_X_sheet_78
      replace hfs_51 := kifn c_66 hfs_51
      exact knone hfs_51
    replace hf := kifn c_50 hf
    refine lv_aload_n hx hb d_X_sheet_52 rfl (lv_at hl 0 rfl) ?_
    refine lv_iconst (v := 0) hx hb d_X_sheet_53 ic_0 ?_
    obtain ⟨r_71, v_findings_72, hc_73, hf⟩ := kb2_some hf
    refine k_cvi (w1 := (wd_X_finding D h h_here h_kept h_trial h_parts h_text h_sheets h_findings v_isKept v_findings_72)) (r := r_71) (ws' := (wd_X_sheet D h h_here h_kept h_trial h_parts h_text h_sheets h_findings h_sheets_0 h_sheets_1 h_sheets_2 h_sheets_3 h_sheets_0_numbers h_sheets_1_numbers h_sheets_2_numbers h_sheets_3_numbers v_isKept v_sheets_0_bits v_sheets_0_size v_sheets_0_numbers v_sheets_1_bits v_sheets_1_size v_sheets_1_numbers v_sheets_2_bits v_sheets_2_size v_sheets_2_numbers v_sheets_3_bits v_sheets_3_size v_sheets_3_numbers v_findings_72)) X hV hl.1 (c_X_finding D h h_here h_kept h_trial h_parts h_text h_sheets h_findings v_isKept v_findings (0 : Int32) hc_73) fk_X_finding gw_283 rfl 0 8 rfl rfl [0, 10] [some 0, none, none, none, none, none, none, none, none, none, some 1] rfl rfl ⟨rfl, rfl, rfl, rfl, rfl, rfl, rfl, rfl, rfl, rfl, rfl, rfl, rfl, rfl, rfl, trivial⟩ rfl rfl rfl d_X_sheet_54 (fun H locs hV => ?_)
    have e_ := Option.some.inj hf
    subst e_
    exact k_iret X rfl hV rfl d_X_sheet_57
  replace hf := kifn c_49 hf
  refine lv_aload_n hx hb d_X_sheet_39 rfl (lv_at hl 0 rfl) ?_
  refine lv_bipush (v := 6) hx hb d_X_sheet_40 bp_6 ?_
  obtain ⟨r_74, v_findings_75, hc_76, hf⟩ := kb2_some hf
  refine k_cvi (w1 := (wd_X_finding D h h_here h_kept h_trial h_parts h_text h_sheets h_findings v_isKept v_findings_75)) (r := r_74) (ws' := (wd_X_sheet D h h_here h_kept h_trial h_parts h_text h_sheets h_findings h_sheets_0 h_sheets_1 h_sheets_2 h_sheets_3 h_sheets_0_numbers h_sheets_1_numbers h_sheets_2_numbers h_sheets_3_numbers v_isKept v_sheets_0_bits v_sheets_0_size v_sheets_0_numbers v_sheets_1_bits v_sheets_1_size v_sheets_1_numbers v_sheets_2_bits v_sheets_2_size v_sheets_2_numbers v_sheets_3_bits v_sheets_3_size v_sheets_3_numbers v_findings_75)) X hV hl.1 (c_X_finding D h h_here h_kept h_trial h_parts h_text h_sheets h_findings v_isKept v_findings (6 : Int32) hc_76) fk_X_finding gw_283 rfl 0 8 rfl rfl [0, 10] [some 0, none, none, none, none, none, none, none, none, none, some 1] rfl rfl ⟨rfl, rfl, rfl, rfl, rfl, rfl, rfl, rfl, rfl, rfl, rfl, rfl, rfl, rfl, rfl, trivial⟩ rfl rfl rfl d_X_sheet_42 (fun H locs hV => ?_)
  have e_ := Option.some.inj hf
  subst e_
  exact k_iret X rfl hV rfl d_X_sheet_45
set_option maxHeartbeats 2000000 in
set_option maxRecDepth 20000 in
theorem t_X_sheet {l : Launch} {p : Program} {e : Env} {s : State} {m : MethodId} {args : Array Value} {below : List Frame} {meth : Method} {c : Code} {D : kD} {wc0 : va_W} {h : Nat} {h_here : Nat} {h_kept : Nat} {h_trial : Nat} {h_parts : Nat} {h_text : Nat} {h_sheets : Nat} {h_findings : Nat} {h_sheets_0 : Nat} {h_sheets_1 : Nat} {h_sheets_2 : Nat} {h_sheets_3 : Nat} {h_sheets_0_numbers : Nat} {h_sheets_1_numbers : Nat} {h_sheets_2_numbers : Nat} {h_sheets_3_numbers : Nat} {v_isKept : Int32} {v_sheets_0_bits : Int32} {v_sheets_0_size : Int32} {v_sheets_0_numbers : Nat → Int64} {v_sheets_1_bits : Int32} {v_sheets_1_size : Int32} {v_sheets_1_numbers : Nat → Int64} {v_sheets_2_bits : Int32} {v_sheets_2_size : Int32} {v_sheets_2_numbers : Nat → Int64} {v_sheets_3_bits : Int32} {v_sheets_3_size : Int32} {v_sheets_3_numbers : Nat → Int64} {v_findings : Nat → Int32} {x1 : Int32} {x2 : Int32} {x3 : Int32} {out : Int32 × Int32 × Int32 × (Nat → Int64) × Int32 × Int32 × (Nat → Int64) × Int32 × Int32 × (Nat → Int64) × Int32 × Int32 × (Nat → Int64) × (Nat → Int32)} (X : kX p m meth c s args D (va_A wc0 s.heap.size) b_X_sheet "MountainFarms" 4 (some .int)) (hf : f_X_sheet v_sheets_0_bits v_sheets_0_size v_sheets_0_numbers v_sheets_1_bits v_sheets_1_size v_sheets_1_numbers v_sheets_2_bits v_sheets_2_size v_sheets_2_numbers v_sheets_3_bits v_sheets_3_size v_sheets_3_numbers v_findings x1 x2 x3 = some out) {H : Heap} {locs : List Loc} (hV : kV D (va_A wc0 s.heap.size) s (wd_X_sheet D h h_here h_kept h_trial h_parts h_text h_sheets h_findings h_sheets_0 h_sheets_1 h_sheets_2 h_sheets_3 h_sheets_0_numbers h_sheets_1_numbers h_sheets_2_numbers h_sheets_3_numbers v_isKept v_sheets_0_bits v_sheets_0_size v_sheets_0_numbers v_sheets_1_bits v_sheets_1_size v_sheets_1_numbers v_sheets_2_bits v_sheets_2_size v_sheets_2_numbers v_sheets_3_bits v_sheets_3_size v_sheets_3_numbers v_findings) H locs) {ls : Array Slot} (hl : lv_has ls 4 [(0, .ref h), (1, .int x1), (2, .int x2), (3, .int x3)]) : W p l e { frames := 2, cells := 0, slots := 0, locals := 43 } s m args below meth c H locs 0 0 (MQ below (kQi D wc0 (wd_X_sheet D h h_here h_kept h_trial h_parts h_text h_sheets h_findings h_sheets_0 h_sheets_1 h_sheets_2 h_sheets_3 h_sheets_0_numbers h_sheets_1_numbers h_sheets_2_numbers h_sheets_3_numbers v_isKept out.2.1 out.2.2.1 out.2.2.2.1 out.2.2.2.2.1 out.2.2.2.2.2.1 out.2.2.2.2.2.2.1 out.2.2.2.2.2.2.2.1 out.2.2.2.2.2.2.2.2.1 out.2.2.2.2.2.2.2.2.2.1 out.2.2.2.2.2.2.2.2.2.2.1 out.2.2.2.2.2.2.2.2.2.2.2.1 out.2.2.2.2.2.2.2.2.2.2.2.2.1 out.2.2.2.2.2.2.2.2.2.2.2.2.2) s.heap.size out.1) args s 0 0 (va_A wc0 s.heap.size)) (F0 m 0 ls []) := by
  unfold f_X_sheet at hf
  obtain ⟨hx, hb, -⟩ := id X
  refine lv_iload_n hx hb d_X_sheet_0 rfl (lv_at hl 1 rfl) ?_
  obtain ⟨r_39, hc_40, hf⟩ := kb1_some hf
  refine k_csi (w1 := (wd_X_isSheet D)) (r := r_39) (ws' := (wd_X_sheet D h h_here h_kept h_trial h_parts h_text h_sheets h_findings h_sheets_0 h_sheets_1 h_sheets_2 h_sheets_3 h_sheets_0_numbers h_sheets_1_numbers h_sheets_2_numbers h_sheets_3_numbers v_isKept v_sheets_0_bits v_sheets_0_size v_sheets_0_numbers v_sheets_1_bits v_sheets_1_size v_sheets_1_numbers v_sheets_2_bits v_sheets_2_size v_sheets_2_numbers v_sheets_3_bits v_sheets_3_size v_sheets_3_numbers v_findings)) X hV hl.1 (c_X_isSheet D x1 hc_40) fk_X_isSheet gw_804 rfl [] [none, none, none, none, none, none, none, none, none, none, none] rfl rfl ⟨rfl, rfl, rfl, rfl, rfl, rfl, rfl, rfl, rfl, rfl, rfl, trivial⟩ rfl rfl rfl d_X_sheet_1 (fun H locs hV => ?_)
  refine lv_if_eq (tgt := 29) hx hb d_X_sheet_4 (by decide) (fun c_41 => ?_) (fun c_41 => ?_)
  · replace hf := kifp c_41 hf
    exact t_X_sheet_1 X hf hV (lv_sub hl [0] rfl)
  replace hf := kifn c_41 hf
  refine lv_iload_n hx hb d_X_sheet_7 rfl (lv_at hl 2 rfl) ?_
  refine lv_if_eq (tgt := 35) hx hb d_X_sheet_8 (by decide) (fun c_42 => ?_) (fun c_42 => ?_)
  · replace hf := kifp c_42 hf
    exact t_X_sheet_2 X hf hV (lv_sub hl [0, 1, 2, 3] rfl)
  replace hf := kifn c_42 hf
  refine lv_iload_n hx hb d_X_sheet_11 rfl (lv_at hl 2 rfl) ?_
  refine lv_bipush (v := 8) hx hb d_X_sheet_12 bp_8 ?_
  refine lv_icmp_eq (tgt := 35) hx hb d_X_sheet_14 (by decide) (fun c_43 => ?_) (fun c_43 => ?_)
  · replace hf := kifp c_43 hf
    exact t_X_sheet_2 X hf hV (lv_sub hl [0, 1, 2, 3] rfl)
  replace hf := kifn c_43 hf
  refine lv_iload_n hx hb d_X_sheet_17 rfl (lv_at hl 2 rfl) ?_
  refine lv_bipush (v := 16) hx hb d_X_sheet_18 bp_16 ?_
  refine lv_icmp_eq (tgt := 35) hx hb d_X_sheet_20 (by decide) (fun c_44 => ?_) (fun c_44 => ?_)
  · replace hf := kifp c_44 hf
    exact t_X_sheet_2 X hf hV (lv_sub hl [0, 1, 2, 3] rfl)
  replace hf := kifn c_44 hf
  refine lv_iload_n hx hb d_X_sheet_23 rfl (lv_at hl 2 rfl) ?_
  refine lv_bipush (v := 64) hx hb d_X_sheet_24 bp_64 ?_
  refine lv_icmp_eq (tgt := 35) hx hb d_X_sheet_26 (by decide) (fun c_45 => ?_) (fun c_45 => ?_)
  · replace hf := kifp c_45 hf
    exact t_X_sheet_2 X hf hV (lv_sub hl [0, 1, 2, 3] rfl)
  replace hf := kifn c_45 hf
  exact t_X_sheet_1 X hf hV (lv_sub hl [0] rfl)
set_option maxHeartbeats 2000000 in
set_option maxRecDepth 20000 in
theorem c_X_sheet {l : Launch} (D : kD) (h : Nat) (h_here : Nat) (h_kept : Nat) (h_trial : Nat) (h_parts : Nat) (h_text : Nat) (h_sheets : Nat) (h_findings : Nat) (h_sheets_0 : Nat) (h_sheets_1 : Nat) (h_sheets_2 : Nat) (h_sheets_3 : Nat) (h_sheets_0_numbers : Nat) (h_sheets_1_numbers : Nat) (h_sheets_2_numbers : Nat) (h_sheets_3_numbers : Nat) (v_isKept : Int32) (v_sheets_0_bits : Int32) (v_sheets_0_size : Int32) (v_sheets_0_numbers : Nat → Int64) (v_sheets_1_bits : Int32) (v_sheets_1_size : Int32) (v_sheets_1_numbers : Nat → Int64) (v_sheets_2_bits : Int32) (v_sheets_2_size : Int32) (v_sheets_2_numbers : Nat → Int64) (v_sheets_3_bits : Int32) (v_sheets_3_size : Int32) (v_sheets_3_numbers : Nat → Int64) (v_findings : Nat → Int32) (x1 : Int32) (x2 : Int32) (x3 : Int32) {out : Int32 × Int32 × Int32 × (Nat → Int64) × Int32 × Int32 × (Nat → Int64) × Int32 × Int32 × (Nat → Int64) × Int32 × Int32 × (Nat → Int64) × (Nat → Int32)} (hf : f_X_sheet v_sheets_0_bits v_sheets_0_size v_sheets_0_numbers v_sheets_1_bits v_sheets_1_size v_sheets_1_numbers v_sheets_2_bits v_sheets_2_size v_sheets_2_numbers v_sheets_3_bits v_sheets_3_size v_sheets_3_numbers v_findings x1 x2 x3 = some out) : kMi l D y_X_sheet b_X_sheet 4 (some .int) { frames := 2, cells := 0, slots := 0, locals := 43 } [.ref h, .int x1, .int x2, .int x3] (wd_X_sheet D h h_here h_kept h_trial h_parts h_text h_sheets h_findings h_sheets_0 h_sheets_1 h_sheets_2 h_sheets_3 h_sheets_0_numbers h_sheets_1_numbers h_sheets_2_numbers h_sheets_3_numbers v_isKept v_sheets_0_bits v_sheets_0_size v_sheets_0_numbers v_sheets_1_bits v_sheets_1_size v_sheets_1_numbers v_sheets_2_bits v_sheets_2_size v_sheets_2_numbers v_sheets_3_bits v_sheets_3_size v_sheets_3_numbers v_findings) (wd_X_sheet D h h_here h_kept h_trial h_parts h_text h_sheets h_findings h_sheets_0 h_sheets_1 h_sheets_2 h_sheets_3 h_sheets_0_numbers h_sheets_1_numbers h_sheets_2_numbers h_sheets_3_numbers v_isKept out.2.1 out.2.2.1 out.2.2.2.1 out.2.2.2.2.1 out.2.2.2.2.2.1 out.2.2.2.2.2.2.1 out.2.2.2.2.2.2.2.1 out.2.2.2.2.2.2.2.2.1 out.2.2.2.2.2.2.2.2.2.1 out.2.2.2.2.2.2.2.2.2.2.1 out.2.2.2.2.2.2.2.2.2.2.2.1 out.2.2.2.2.2.2.2.2.2.2.2.2.1 out.2.2.2.2.2.2.2.2.2.2.2.2.2) out.1 :=
  kMi_of (own := "MountainFarms") (plainFor_of_name (by decide)) rfl rfl (fun p e s m args below meth c ls X hV hl => t_X_sheet X hf hV hl)
set_option maxHeartbeats 2000000 in
set_option maxRecDepth 20000 in
theorem t_Sh_isMissing {l : Launch} {p : Program} {e : Env} {s : State} {m : MethodId} {args : Array Value} {below : List Frame} {meth : Method} {c : Code} {D : kD} {wc0 : va_W} {h : Nat} {h_numbers : Nat} {v_bits : Int32} {v_size : Int32} {out : Int32} (X : kX p m meth c s args D (va_A wc0 s.heap.size) b_Sh_isMissing "MountainFarms$Sheet" 1 (some .boolean)) (hf : f_Sh_isMissing v_bits = some out) {H : Heap} {locs : List Loc} (hV : kV D (va_A wc0 s.heap.size) s (wd_Sh_isMissing D h h_numbers v_bits v_size) H locs) {ls : Array Slot} (hl : lv_has ls 1 [(0, .ref h)]) : W p l e { frames := 0, cells := 0, slots := 0, locals := 0 } s m args below meth c H locs 0 0 (MQ below (kQi D wc0 (wd_Sh_isMissing D h h_numbers v_bits v_size) s.heap.size out) args s 0 0 (va_A wc0 s.heap.size)) (F0 m 0 ls []) := by
  unfold f_Sh_isMissing at hf
  obtain ⟨hx, hb, -⟩ := id X
  refine lv_aload_n hx hb d_Sh_isMissing_0 rfl (lv_at hl 0 rfl) ?_
  refine k_get X hV 0 4 1 rfl rfl rfl gw_237 rfl rfl d_Sh_isMissing_1 ?_
  refine lv_if_ne (tgt := 11) hx hb d_Sh_isMissing_4 (by decide) (fun c_2 => ?_) (fun c_2 => ?_)
  · replace hf := kifn c_2 hf
    refine lv_iconst (v := 0) hx hb d_Sh_isMissing_11 ic_0 ?_
    have e_ := Option.some.inj hf
    subst e_
    exact k_iret (v := 0) X rfl hV nb0 d_Sh_isMissing_12
  replace hf := kifp c_2 hf
  refine lv_iconst (v := 1) hx hb d_Sh_isMissing_7 ic_1 ?_
  refine lv_goto (tgt := 12) hx hb d_Sh_isMissing_8 (by decide) ?_
  have e_ := Option.some.inj hf
  subst e_
  exact k_iret (v := 1) X rfl hV nb1 d_Sh_isMissing_12
set_option maxHeartbeats 2000000 in
set_option maxRecDepth 20000 in
theorem c_Sh_isMissing {l : Launch} (D : kD) (h : Nat) (h_numbers : Nat) (v_bits : Int32) (v_size : Int32) {out : Int32} (hf : f_Sh_isMissing v_bits = some out) : kMi l D y_Sh_isMissing b_Sh_isMissing 1 (some .boolean) { frames := 0, cells := 0, slots := 0, locals := 0 } [.ref h] (wd_Sh_isMissing D h h_numbers v_bits v_size) (wd_Sh_isMissing D h h_numbers v_bits v_size) out :=
  kMi_of (own := "MountainFarms$Sheet") (plainFor_of_name (by decide)) rfl rfl (fun p e s m args below meth c ls X hV hl => t_Sh_isMissing X hf hV hl)
set_option maxHeartbeats 2000000 in
set_option maxRecDepth 20000 in
theorem t_Sh_put {l : Launch} {p : Program} {e : Env} {s : State} {m : MethodId} {args : Array Value} {below : List Frame} {meth : Method} {c : Code} {D : kD} {wc0 : va_W} {h : Nat} {h_numbers : Nat} {v_bits : Int32} {v_size : Int32} {v_numbers : Nat → Int64} {x1 : Int32} {x2 : Int64} {out : (Nat → Int64)} (X : kX p m meth c s args D (va_A wc0 s.heap.size) b_Sh_put "MountainFarms$Sheet" 4 none) (hf : f_Sh_put v_bits v_size v_numbers x1 x2 = some out) {H : Heap} {locs : List Loc} (hV : kV D (va_A wc0 s.heap.size) s (wd_Sh_put D h h_numbers v_bits v_size v_numbers) H locs) {ls : Array Slot} (hl : lv_has ls 4 [(0, .ref h), (1, .int x1), (2, .long x2)]) : W p l e { frames := 1, cells := 0, slots := 0, locals := 22 } s m args below meth c H locs 0 0 (MQ below (kQv D wc0 (wd_Sh_put D h h_numbers v_bits v_size out) s.heap.size) args s 0 0 (va_A wc0 s.heap.size)) (F0 m 0 ls []) := by
  unfold f_Sh_put at hf
  obtain ⟨hx, hb, -⟩ := id X
  refine lv_iload_n hx hb d_Sh_put_0 rfl (lv_at hl 1 rfl) ?_
  refine lv_iconst (v := 0) hx hb d_Sh_put_1 ic_0 ?_
  refine lv_aload_n hx hb d_Sh_put_2 rfl (lv_at hl 0 rfl) ?_
  refine k_get X hV 0 4 2 rfl rfl rfl gw_239 rfl rfl d_Sh_put_3 ?_
  refine lv_iconst (v := 1) hx hb d_Sh_put_6 ic_1 ?_
  refine lv_isub hx hb d_Sh_put_7 ?_
  obtain ⟨r_9, hc_10, hf⟩ := kb1_some hf
  refine k_cni (w1 := (wd_X_isWithin D)) (r := r_9) (ws' := (wd_Sh_put D h h_numbers v_bits v_size v_numbers)) X hV hl.1 (c_X_isWithin D x1 (0 : Int32) (v_size - (1 : Int32)) hc_10) fk_X_isWithin nw_12 rfl [] [none, none] rfl rfl ⟨rfl, rfl, trivial⟩ rfl rfl rfl d_Sh_put_8 (fun H locs hV => ?_)
  refine lv_if_ne (tgt := 15) hx hb d_Sh_put_11 (by decide) (fun c_11 => ?_) (fun c_11 => ?_)
  · replace hf := kifn c_11 hf
    refine lv_aload_n hx hb d_Sh_put_15 rfl (lv_at hl 0 rfl) ?_
    refine k_get X hV 0 4 1 rfl rfl rfl gw_237 rfl rfl d_Sh_put_16 ?_
    by_cases c_12 : v_bits = 8
    · replace hf := kifp c_12 hf
      refine lv_lookup (tgt := 44) (off := 25) hx hb d_Sh_put_19 rfl (by rw [c_12]; rfl) (by decide) ?_
      refine lv_aload_n hx hb d_Sh_put_44 rfl (lv_at hl 0 rfl) ?_
      refine k_get X hV 0 4 0 rfl rfl rfl gw_235 rfl rfl d_Sh_put_45 ?_
      refine lv_iload_n hx hb d_Sh_put_48 rfl (lv_at hl 1 rfl) ?_
      refine lv_lload_n hx hb d_Sh_put_49 rfl (lv_at hl 2 rfl) ?_
      refine lv_l2i hx hb d_Sh_put_50 rfl ?_
      refine lv_i2b hx hb d_Sh_put_51 rfl ?_
      refine lv_i2l hx hb d_Sh_put_52 rfl ?_
      obtain ⟨h_13, hf⟩ := kidx_some hf
      refine k_last (ws' := (wd_Sh_put D h h_numbers v_bits v_size (vp_updL v_numbers x1.toNatClampNeg x2.toInt32.toInt8.toInt32.toInt64))) X hV 1 rfl h_13 rfl rfl d_Sh_put_53 (fun H locs hV => ?_)
      refine lv_goto (tgt := 77) hx hb d_Sh_put_54 (by decide) ?_
      have e_ := Option.some.inj hf
      subst e_
      exact k_vret X rfl hV d_Sh_put_77
    replace hf := kifn c_12 hf
    by_cases c_14 : v_bits = 16
    · replace hf := kifp c_14 hf
      refine lv_lookup (tgt := 57) (off := 38) hx hb d_Sh_put_19 rfl (by rw [c_14]; rfl) (by decide) ?_
      refine lv_aload_n hx hb d_Sh_put_57 rfl (lv_at hl 0 rfl) ?_
      refine k_get X hV 0 4 0 rfl rfl rfl gw_235 rfl rfl d_Sh_put_58 ?_
      refine lv_iload_n hx hb d_Sh_put_61 rfl (lv_at hl 1 rfl) ?_
      refine lv_lload_n hx hb d_Sh_put_62 rfl (lv_at hl 2 rfl) ?_
      refine lv_l2i hx hb d_Sh_put_63 rfl ?_
      refine lv_i2s hx hb d_Sh_put_64 rfl ?_
      refine lv_i2l hx hb d_Sh_put_65 rfl ?_
      obtain ⟨h_15, hf⟩ := kidx_some hf
      refine k_last (ws' := (wd_Sh_put D h h_numbers v_bits v_size (vp_updL v_numbers x1.toNatClampNeg x2.toInt32.toInt16.toInt32.toInt64))) X hV 1 rfl h_15 rfl rfl d_Sh_put_66 (fun H locs hV => ?_)
      refine lv_goto (tgt := 77) hx hb d_Sh_put_67 (by decide) ?_
      have e_ := Option.some.inj hf
      subst e_
      exact k_vret X rfl hV d_Sh_put_77
    replace hf := kifn c_14 hf
    refine lv_lookup (tgt := 70) (off := 51) hx hb d_Sh_put_19 rfl (((lv_osw c_12 (by decide)).trans (lv_osw c_14 (by decide))).trans rfl) (by decide) ?_
    refine lv_aload_n hx hb d_Sh_put_70 rfl (lv_at hl 0 rfl) ?_
    refine k_get X hV 0 4 0 rfl rfl rfl gw_235 rfl rfl d_Sh_put_71 ?_
    refine lv_iload_n hx hb d_Sh_put_74 rfl (lv_at hl 1 rfl) ?_
    refine lv_lload_n hx hb d_Sh_put_75 rfl (lv_at hl 2 rfl) ?_
    obtain ⟨h_16, hf⟩ := kidx_some hf
    refine k_last (ws' := (wd_Sh_put D h h_numbers v_bits v_size (vp_updL v_numbers x1.toNatClampNeg x2))) X hV 1 rfl h_16 rfl rfl d_Sh_put_76 (fun H locs hV => ?_)
    have e_ := Option.some.inj hf
    subst e_
    exact k_vret X rfl hV d_Sh_put_77
  replace hf := kifp c_11 hf
  have e_ := Option.some.inj hf
  subst e_
  exact k_vret X rfl hV d_Sh_put_14
set_option maxHeartbeats 2000000 in
set_option maxRecDepth 20000 in
theorem c_Sh_put {l : Launch} (D : kD) (h : Nat) (h_numbers : Nat) (v_bits : Int32) (v_size : Int32) (v_numbers : Nat → Int64) (x1 : Int32) (x2 : Int64) {out : (Nat → Int64)} (hf : f_Sh_put v_bits v_size v_numbers x1 x2 = some out) : kMv l D y_Sh_put b_Sh_put 4 none { frames := 1, cells := 0, slots := 0, locals := 22 } [.ref h, .int x1, .long x2] (wd_Sh_put D h h_numbers v_bits v_size v_numbers) (wd_Sh_put D h h_numbers v_bits v_size out) :=
  kMv_of (own := "MountainFarms$Sheet") (plainFor_of_name (by decide)) rfl rfl (fun p e s m args below meth c ls X hV hl => t_Sh_put X hf hV hl)
set_option maxHeartbeats 2000000 in
set_option maxRecDepth 20000 in
theorem t_X_write {l : Launch} {p : Program} {e : Env} {s : State} {m : MethodId} {args : Array Value} {below : List Frame} {meth : Method} {c : Code} {D : kD} {wc0 : va_W} {h : Nat} {h_here : Nat} {h_kept : Nat} {h_trial : Nat} {h_parts : Nat} {h_text : Nat} {h_sheets : Nat} {h_findings : Nat} {h_sheets_0 : Nat} {h_sheets_1 : Nat} {h_sheets_2 : Nat} {h_sheets_3 : Nat} {h_sheets_0_numbers : Nat} {h_sheets_1_numbers : Nat} {h_sheets_2_numbers : Nat} {h_sheets_3_numbers : Nat} {v_isKept : Int32} {v_sheets_0_bits : Int32} {v_sheets_0_size : Int32} {v_sheets_0_numbers : Nat → Int64} {v_sheets_1_bits : Int32} {v_sheets_1_size : Int32} {v_sheets_1_numbers : Nat → Int64} {v_sheets_2_bits : Int32} {v_sheets_2_size : Int32} {v_sheets_2_numbers : Nat → Int64} {v_sheets_3_bits : Int32} {v_sheets_3_size : Int32} {v_sheets_3_numbers : Nat → Int64} {v_findings : Nat → Int32} {x1 : Int32} {x2 : Int32} {x3 : Int64} {out : Int64 × (Nat → Int64) × (Nat → Int64) × (Nat → Int64) × (Nat → Int64) × (Nat → Int32)} (X : kX p m meth c s args D (va_A wc0 s.heap.size) b_X_write "MountainFarms" 7 (some .long)) (hf : f_X_write v_sheets_0_bits v_sheets_0_size v_sheets_0_numbers v_sheets_1_bits v_sheets_1_size v_sheets_1_numbers v_sheets_2_bits v_sheets_2_size v_sheets_2_numbers v_sheets_3_bits v_sheets_3_size v_sheets_3_numbers v_findings x1 x2 x3 = some out) {H : Heap} {locs : List Loc} (hV : kV D (va_A wc0 s.heap.size) s (wd_X_write D h h_here h_kept h_trial h_parts h_text h_sheets h_findings h_sheets_0 h_sheets_1 h_sheets_2 h_sheets_3 h_sheets_0_numbers h_sheets_1_numbers h_sheets_2_numbers h_sheets_3_numbers v_isKept v_sheets_0_bits v_sheets_0_size v_sheets_0_numbers v_sheets_1_bits v_sheets_1_size v_sheets_1_numbers v_sheets_2_bits v_sheets_2_size v_sheets_2_numbers v_sheets_3_bits v_sheets_3_size v_sheets_3_numbers v_findings) H locs) {ls : Array Slot} (hl : lv_has ls 7 [(0, .ref h), (1, .int x1), (2, .int x2), (3, .long x3)]) : W p l e { frames := 2, cells := 0, slots := 0, locals := 45 } s m args below meth c H locs 0 0 (MQ below (kQl D wc0 (wd_X_write D h h_here h_kept h_trial h_parts h_text h_sheets h_findings h_sheets_0 h_sheets_1 h_sheets_2 h_sheets_3 h_sheets_0_numbers h_sheets_1_numbers h_sheets_2_numbers h_sheets_3_numbers v_isKept v_sheets_0_bits v_sheets_0_size out.2.1 v_sheets_1_bits v_sheets_1_size out.2.2.1 v_sheets_2_bits v_sheets_2_size out.2.2.2.1 v_sheets_3_bits v_sheets_3_size out.2.2.2.2.1 out.2.2.2.2.2) s.heap.size out.1) args s 0 0 (va_A wc0 s.heap.size)) (F0 m 0 ls []) := by
  unfold f_X_write at hf
  obtain ⟨hx, hb, -⟩ := id X
  refine lv_iload_n hx hb d_X_write_0 rfl (lv_at hl 1 rfl) ?_
  obtain ⟨r_75, hc_76, hf⟩ := kb1_some hf
  refine k_csi (w1 := (wd_X_isSheet D)) (r := r_75) (ws' := (wd_X_write D h h_here h_kept h_trial h_parts h_text h_sheets h_findings h_sheets_0 h_sheets_1 h_sheets_2 h_sheets_3 h_sheets_0_numbers h_sheets_1_numbers h_sheets_2_numbers h_sheets_3_numbers v_isKept v_sheets_0_bits v_sheets_0_size v_sheets_0_numbers v_sheets_1_bits v_sheets_1_size v_sheets_1_numbers v_sheets_2_bits v_sheets_2_size v_sheets_2_numbers v_sheets_3_bits v_sheets_3_size v_sheets_3_numbers v_findings)) X hV hl.1 (c_X_isSheet D x1 hc_76) fk_X_isSheet gw_804 rfl [] [none, none, none, none, none, none, none, none, none, none, none] rfl rfl ⟨rfl, rfl, rfl, rfl, rfl, rfl, rfl, rfl, rfl, rfl, rfl, trivial⟩ rfl rfl rfl d_X_write_1 (fun H locs hV => ?_)
  refine lv_if_ne (tgt := 14) hx hb d_X_write_4 (by decide) (fun c_77 => ?_) (fun c_77 => ?_)
  · replace hf := kifn c_77 hf
    refine lv_aload_n hx hb d_X_write_14 rfl (lv_at hl 0 rfl) ?_
    refine k_get X hV 0 8 5 rfl rfl rfl gw_253 rfl rfl d_X_write_15 ?_
    refine lv_iload_n hx hb d_X_write_18 rfl (lv_at hl 1 rfl) ?_
    have hfs_78 := hf
    have hVs_78 := hV
    have hls_78 := hl
    by_cases c_78 : x1 = 0
    · replace hfs_78 := kifp c_78 hfs_78
      subst c_78
      have hf := hfs_78
      have hV := hVs_78
      have hl := hls_78
      refine k_aald (q := h_sheets_0) X hV 1 2 rfl rfl kin_0_4 rfl d_X_write_19 ?_
      obtain ⟨r_79, hc_80, hf⟩ := kb1_some hf
      refine k_cvi (w1 := (wd_Sh_isMissing D h_sheets_0 h_sheets_0_numbers v_sheets_0_bits v_sheets_0_size)) (r := r_79) (ws' := (wd_X_write D h h_here h_kept h_trial h_parts h_text h_sheets h_findings h_sheets_0 h_sheets_1 h_sheets_2 h_sheets_3 h_sheets_0_numbers h_sheets_1_numbers h_sheets_2_numbers h_sheets_3_numbers v_isKept v_sheets_0_bits v_sheets_0_size v_sheets_0_numbers v_sheets_1_bits v_sheets_1_size v_sheets_1_numbers v_sheets_2_bits v_sheets_2_size v_sheets_2_numbers v_sheets_3_bits v_sheets_3_size v_sheets_3_numbers v_findings)) X hV hl.1 (c_Sh_isMissing D h_sheets_0 h_sheets_0_numbers v_sheets_0_bits v_sheets_0_size hc_80) fk_Sh_isMissing gw_815 rfl 2 4 rfl rfl [2] [none, none, some 0, none, none, none, none, none, none, none, none] rfl rfl ⟨rfl, rfl, rfl, rfl, rfl, rfl, rfl, rfl, rfl, rfl, rfl, rfl, rfl, trivial⟩ rfl rfl rfl d_X_write_20 (fun H locs hV => ?_)
      refine lv_if_eq (tgt := 33) hx hb d_X_write_23 (by decide) (fun c_81 => ?_) (fun c_81 => ?_)
      · replace hf := kifp c_81 hf
        refine lv_iload_n hx hb d_X_write_33 rfl (lv_at hl 2 rfl) ?_
        refine lv_iconst (v := 0) hx hb d_X_write_34 ic_0 ?_
        refine lv_aload_n hx hb d_X_write_35 rfl (lv_at hl 0 rfl) ?_
        refine k_get X hV 0 8 5 rfl rfl rfl gw_253 rfl rfl d_X_write_36 ?_
        refine lv_iload_n hx hb d_X_write_39 rfl (lv_at hl 1 rfl) ?_
        refine k_aald (q := h_sheets_0) X hV 1 2 rfl rfl kin_0_4 rfl d_X_write_40 ?_
        refine k_get X hV 2 4 2 rfl rfl rfl gw_240 rfl rfl d_X_write_41 ?_
        refine lv_iconst (v := 1) hx hb d_X_write_44 ic_1 ?_
        refine lv_isub hx hb d_X_write_45 ?_
        obtain ⟨r_82, hc_83, hf⟩ := kb1_some hf
        refine k_csi (w1 := (wd_X_isWithin D)) (r := r_82) (ws' := (wd_X_write D h h_here h_kept h_trial h_parts h_text h_sheets h_findings h_sheets_0 h_sheets_1 h_sheets_2 h_sheets_3 h_sheets_0_numbers h_sheets_1_numbers h_sheets_2_numbers h_sheets_3_numbers v_isKept v_sheets_0_bits v_sheets_0_size v_sheets_0_numbers v_sheets_1_bits v_sheets_1_size v_sheets_1_numbers v_sheets_2_bits v_sheets_2_size v_sheets_2_numbers v_sheets_3_bits v_sheets_3_size v_sheets_3_numbers v_findings)) X hV hl.1 (c_X_isWithin D x2 (0 : Int32) (v_sheets_0_size - (1 : Int32)) hc_83) fk_X_isWithin gw_280 rfl [] [none, none, none, none, none, none, none, none, none, none, none] rfl rfl ⟨rfl, rfl, rfl, rfl, rfl, rfl, rfl, rfl, rfl, rfl, rfl, trivial⟩ rfl rfl rfl d_X_write_46 (fun H locs hV => ?_)
        refine lv_if_ne (tgt := 59) hx hb d_X_write_49 (by decide) (fun c_84 => ?_) (fun c_84 => ?_)
        · replace hf := kifn c_84 hf
          refine lv_aload_n hx hb d_X_write_59 rfl (lv_at hl 0 rfl) ?_
          refine k_get X hV 0 8 5 rfl rfl rfl gw_253 rfl rfl d_X_write_60 ?_
          refine lv_iload_n hx hb d_X_write_63 rfl (lv_at hl 1 rfl) ?_
          refine k_aald (q := h_sheets_0) X hV 1 2 rfl rfl kin_0_4 rfl d_X_write_64 ?_
          refine k_get X hV 2 4 0 rfl rfl rfl gw_236 rfl rfl d_X_write_65 ?_
          refine lv_iload_n hx hb d_X_write_68 rfl (lv_at hl 2 rfl) ?_
          obtain ⟨h_85, hf⟩ := kidx_some hf
          refine k_lald X hV 3 rfl h_85 rfl d_X_write_69 ?_
          refine k_letl hf (fun x5_86 hf => ?_)
          refine lv_lstore (lv' := [(5, .long x5_86), (0, .ref h), (1, .int (0 : Int32)), (2, .int x2), (3, .long x3)]) hx hb d_X_write_70 hl (by decide) rfl (fun ls hl => ?_)
          refine lv_aload_n hx hb d_X_write_72 rfl (lv_at hl 1 rfl) ?_
          refine k_get X hV 0 8 5 rfl rfl rfl gw_253 rfl rfl d_X_write_73 ?_
          refine lv_iload_n hx hb d_X_write_76 rfl (lv_at hl 2 rfl) ?_
          refine k_aald (q := h_sheets_0) X hV 1 2 rfl rfl kin_0_4 rfl d_X_write_77 ?_
          refine lv_iload_n hx hb d_X_write_78 rfl (lv_at hl 3 rfl) ?_
          refine lv_lload_n hx hb d_X_write_79 rfl (lv_at hl 4 rfl) ?_
          obtain ⟨v_sheets_0_numbers_87, hc_88, hf⟩ := kb1_some hf
          refine k_cvv (w1 := (wd_Sh_put D h_sheets_0 h_sheets_0_numbers v_sheets_0_bits v_sheets_0_size v_sheets_0_numbers_87)) (ws' := (wd_X_write D h h_here h_kept h_trial h_parts h_text h_sheets h_findings h_sheets_0 h_sheets_1 h_sheets_2 h_sheets_3 h_sheets_0_numbers h_sheets_1_numbers h_sheets_2_numbers h_sheets_3_numbers v_isKept v_sheets_0_bits v_sheets_0_size v_sheets_0_numbers_87 v_sheets_1_bits v_sheets_1_size v_sheets_1_numbers v_sheets_2_bits v_sheets_2_size v_sheets_2_numbers v_sheets_3_bits v_sheets_3_size v_sheets_3_numbers v_findings)) X hV hl.1 (c_Sh_put D h_sheets_0 h_sheets_0_numbers v_sheets_0_bits v_sheets_0_size v_sheets_0_numbers x2 x3 hc_88) fk_Sh_put gw_819 rfl 2 4 rfl rfl [2, 3] [none, none, some 0, some 1, none, none, none, none, none, none, none] rfl rfl ⟨rfl, rfl, rfl, rfl, rfl, rfl, rfl, rfl, rfl, rfl, rfl, rfl, rfl, rfl, rfl, trivial⟩ rfl rfl rfl d_X_write_80 (fun H locs hV => ?_)
          refine lv_lload hx hb d_X_write_83 (lv_at hl 0 rfl) ?_
          have e_ := Option.some.inj hf
          subst e_
          exact k_lret X rfl hV d_X_write_85
        replace hf := kifp c_84 hf
        refine lv_aload_n hx hb d_X_write_52 rfl (lv_at hl 0 rfl) ?_
        refine lv_iconst (v := 0) hx hb d_X_write_53 ic_0 ?_
        obtain ⟨r_89, v_findings_90, hc_91, hf⟩ := kb2_some hf
        refine k_cvi (w1 := (wd_X_finding D h h_here h_kept h_trial h_parts h_text h_sheets h_findings v_isKept v_findings_90)) (r := r_89) (ws' := (wd_X_write D h h_here h_kept h_trial h_parts h_text h_sheets h_findings h_sheets_0 h_sheets_1 h_sheets_2 h_sheets_3 h_sheets_0_numbers h_sheets_1_numbers h_sheets_2_numbers h_sheets_3_numbers v_isKept v_sheets_0_bits v_sheets_0_size v_sheets_0_numbers v_sheets_1_bits v_sheets_1_size v_sheets_1_numbers v_sheets_2_bits v_sheets_2_size v_sheets_2_numbers v_sheets_3_bits v_sheets_3_size v_sheets_3_numbers v_findings_90)) X hV hl.1 (c_X_finding D h h_here h_kept h_trial h_parts h_text h_sheets h_findings v_isKept v_findings (0 : Int32) hc_91) fk_X_finding gw_283 rfl 0 8 rfl rfl [0, 10] [some 0, none, none, none, none, none, none, none, none, none, some 1] rfl rfl ⟨rfl, rfl, rfl, rfl, rfl, rfl, rfl, rfl, rfl, rfl, rfl, rfl, rfl, rfl, rfl, trivial⟩ rfl rfl rfl d_X_write_54 (fun H locs hV => ?_)
        refine lv_i2l hx hb d_X_write_57 rfl ?_
        have e_ := Option.some.inj hf
        subst e_
        exact k_lret X rfl hV d_X_write_58
      replace hf := kifn c_81 hf
      refine lv_aload_n hx hb d_X_write_26 rfl (lv_at hl 0 rfl) ?_
      refine lv_iconst (v := 5) hx hb d_X_write_27 ic_5 ?_
      obtain ⟨r_92, v_findings_93, hc_94, hf⟩ := kb2_some hf
      refine k_cvi (w1 := (wd_X_finding D h h_here h_kept h_trial h_parts h_text h_sheets h_findings v_isKept v_findings_93)) (r := r_92) (ws' := (wd_X_write D h h_here h_kept h_trial h_parts h_text h_sheets h_findings h_sheets_0 h_sheets_1 h_sheets_2 h_sheets_3 h_sheets_0_numbers h_sheets_1_numbers h_sheets_2_numbers h_sheets_3_numbers v_isKept v_sheets_0_bits v_sheets_0_size v_sheets_0_numbers v_sheets_1_bits v_sheets_1_size v_sheets_1_numbers v_sheets_2_bits v_sheets_2_size v_sheets_2_numbers v_sheets_3_bits v_sheets_3_size v_sheets_3_numbers v_findings_93)) X hV hl.1 (c_X_finding D h h_here h_kept h_trial h_parts h_text h_sheets h_findings v_isKept v_findings (5 : Int32) hc_94) fk_X_finding gw_283 rfl 0 8 rfl rfl [0, 10] [some 0, none, none, none, none, none, none, none, none, none, some 1] rfl rfl ⟨rfl, rfl, rfl, rfl, rfl, rfl, rfl, rfl, rfl, rfl, rfl, rfl, rfl, rfl, rfl, trivial⟩ rfl rfl rfl d_X_write_28 (fun H locs hV => ?_)
      refine lv_i2l hx hb d_X_write_31 rfl ?_
      have e_ := Option.some.inj hf
      subst e_
      exact k_lret X rfl hV d_X_write_32
    replace hfs_78 := kifn c_78 hfs_78
    by_cases c_95 : x1 = 1
    · replace hfs_78 := kifp c_95 hfs_78
      subst c_95
      have hf := hfs_78
      have hV := hVs_78
      have hl := hls_78
      refine k_aald (q := h_sheets_1) X hV 1 2 rfl rfl kin_1_4 rfl d_X_write_19 ?_
      obtain ⟨r_96, hc_97, hf⟩ := kb1_some hf
      refine k_cvi (w1 := (wd_Sh_isMissing D h_sheets_1 h_sheets_1_numbers v_sheets_1_bits v_sheets_1_size)) (r := r_96) (ws' := (wd_X_write D h h_here h_kept h_trial h_parts h_text h_sheets h_findings h_sheets_0 h_sheets_1 h_sheets_2 h_sheets_3 h_sheets_0_numbers h_sheets_1_numbers h_sheets_2_numbers h_sheets_3_numbers v_isKept v_sheets_0_bits v_sheets_0_size v_sheets_0_numbers v_sheets_1_bits v_sheets_1_size v_sheets_1_numbers v_sheets_2_bits v_sheets_2_size v_sheets_2_numbers v_sheets_3_bits v_sheets_3_size v_sheets_3_numbers v_findings)) X hV hl.1 (c_Sh_isMissing D h_sheets_1 h_sheets_1_numbers v_sheets_1_bits v_sheets_1_size hc_97) fk_Sh_isMissing gw_815 rfl 4 4 rfl rfl [4] [none, none, none, none, some 0, none, none, none, none, none, none] rfl rfl ⟨rfl, rfl, rfl, rfl, rfl, rfl, rfl, rfl, rfl, rfl, rfl, rfl, rfl, trivial⟩ rfl rfl rfl d_X_write_20 (fun H locs hV => ?_)
      refine lv_if_eq (tgt := 33) hx hb d_X_write_23 (by decide) (fun c_98 => ?_) (fun c_98 => ?_)
      · replace hf := kifp c_98 hf
        refine lv_iload_n hx hb d_X_write_33 rfl (lv_at hl 2 rfl) ?_
        refine lv_iconst (v := 0) hx hb d_X_write_34 ic_0 ?_
        refine lv_aload_n hx hb d_X_write_35 rfl (lv_at hl 0 rfl) ?_
        refine k_get X hV 0 8 5 rfl rfl rfl gw_253 rfl rfl d_X_write_36 ?_
        refine lv_iload_n hx hb d_X_write_39 rfl (lv_at hl 1 rfl) ?_
        refine k_aald (q := h_sheets_1) X hV 1 2 rfl rfl kin_1_4 rfl d_X_write_40 ?_
        refine k_get X hV 4 4 2 rfl rfl rfl gw_240 rfl rfl d_X_write_41 ?_
        refine lv_iconst (v := 1) hx hb d_X_write_44 ic_1 ?_
        refine lv_isub hx hb d_X_write_45 ?_
        obtain ⟨r_99, hc_100, hf⟩ := kb1_some hf
        refine k_csi (w1 := (wd_X_isWithin D)) (r := r_99) (ws' := (wd_X_write D h h_here h_kept h_trial h_parts h_text h_sheets h_findings h_sheets_0 h_sheets_1 h_sheets_2 h_sheets_3 h_sheets_0_numbers h_sheets_1_numbers h_sheets_2_numbers h_sheets_3_numbers v_isKept v_sheets_0_bits v_sheets_0_size v_sheets_0_numbers v_sheets_1_bits v_sheets_1_size v_sheets_1_numbers v_sheets_2_bits v_sheets_2_size v_sheets_2_numbers v_sheets_3_bits v_sheets_3_size v_sheets_3_numbers v_findings)) X hV hl.1 (c_X_isWithin D x2 (0 : Int32) (v_sheets_1_size - (1 : Int32)) hc_100) fk_X_isWithin gw_280 rfl [] [none, none, none, none, none, none, none, none, none, none, none] rfl rfl ⟨rfl, rfl, rfl, rfl, rfl, rfl, rfl, rfl, rfl, rfl, rfl, trivial⟩ rfl rfl rfl d_X_write_46 (fun H locs hV => ?_)
        refine lv_if_ne (tgt := 59) hx hb d_X_write_49 (by decide) (fun c_101 => ?_) (fun c_101 => ?_)
        · replace hf := kifn c_101 hf
          refine lv_aload_n hx hb d_X_write_59 rfl (lv_at hl 0 rfl) ?_
          refine k_get X hV 0 8 5 rfl rfl rfl gw_253 rfl rfl d_X_write_60 ?_
          refine lv_iload_n hx hb d_X_write_63 rfl (lv_at hl 1 rfl) ?_
          refine k_aald (q := h_sheets_1) X hV 1 2 rfl rfl kin_1_4 rfl d_X_write_64 ?_
          refine k_get X hV 4 4 0 rfl rfl rfl gw_236 rfl rfl d_X_write_65 ?_
          refine lv_iload_n hx hb d_X_write_68 rfl (lv_at hl 2 rfl) ?_
          obtain ⟨h_102, hf⟩ := kidx_some hf
          refine k_lald X hV 5 rfl h_102 rfl d_X_write_69 ?_
          refine k_letl hf (fun x5_103 hf => ?_)
          refine lv_lstore (lv' := [(5, .long x5_103), (0, .ref h), (1, .int (1 : Int32)), (2, .int x2), (3, .long x3)]) hx hb d_X_write_70 hl (by decide) rfl (fun ls hl => ?_)
          refine lv_aload_n hx hb d_X_write_72 rfl (lv_at hl 1 rfl) ?_
          refine k_get X hV 0 8 5 rfl rfl rfl gw_253 rfl rfl d_X_write_73 ?_
          refine lv_iload_n hx hb d_X_write_76 rfl (lv_at hl 2 rfl) ?_
          refine k_aald (q := h_sheets_1) X hV 1 2 rfl rfl kin_1_4 rfl d_X_write_77 ?_
          refine lv_iload_n hx hb d_X_write_78 rfl (lv_at hl 3 rfl) ?_
          refine lv_lload_n hx hb d_X_write_79 rfl (lv_at hl 4 rfl) ?_
          obtain ⟨v_sheets_1_numbers_104, hc_105, hf⟩ := kb1_some hf
          refine k_cvv (w1 := (wd_Sh_put D h_sheets_1 h_sheets_1_numbers v_sheets_1_bits v_sheets_1_size v_sheets_1_numbers_104)) (ws' := (wd_X_write D h h_here h_kept h_trial h_parts h_text h_sheets h_findings h_sheets_0 h_sheets_1 h_sheets_2 h_sheets_3 h_sheets_0_numbers h_sheets_1_numbers h_sheets_2_numbers h_sheets_3_numbers v_isKept v_sheets_0_bits v_sheets_0_size v_sheets_0_numbers v_sheets_1_bits v_sheets_1_size v_sheets_1_numbers_104 v_sheets_2_bits v_sheets_2_size v_sheets_2_numbers v_sheets_3_bits v_sheets_3_size v_sheets_3_numbers v_findings)) X hV hl.1 (c_Sh_put D h_sheets_1 h_sheets_1_numbers v_sheets_1_bits v_sheets_1_size v_sheets_1_numbers x2 x3 hc_105) fk_Sh_put gw_819 rfl 4 4 rfl rfl [4, 5] [none, none, none, none, some 0, some 1, none, none, none, none, none] rfl rfl ⟨rfl, rfl, rfl, rfl, rfl, rfl, rfl, rfl, rfl, rfl, rfl, rfl, rfl, rfl, rfl, trivial⟩ rfl rfl rfl d_X_write_80 (fun H locs hV => ?_)
          refine lv_lload hx hb d_X_write_83 (lv_at hl 0 rfl) ?_
          have e_ := Option.some.inj hf
          subst e_
          exact k_lret X rfl hV d_X_write_85
        replace hf := kifp c_101 hf
        refine lv_aload_n hx hb d_X_write_52 rfl (lv_at hl 0 rfl) ?_
        refine lv_iconst (v := 0) hx hb d_X_write_53 ic_0 ?_
        obtain ⟨r_106, v_findings_107, hc_108, hf⟩ := kb2_some hf
        refine k_cvi (w1 := (wd_X_finding D h h_here h_kept h_trial h_parts h_text h_sheets h_findings v_isKept v_findings_107)) (r := r_106) (ws' := (wd_X_write D h h_here h_kept h_trial h_parts h_text h_sheets h_findings h_sheets_0 h_sheets_1 h_sheets_2 h_sheets_3 h_sheets_0_numbers h_sheets_1_numbers h_sheets_2_numbers h_sheets_3_numbers v_isKept v_sheets_0_bits v_sheets_0_size v_sheets_0_numbers v_sheets_1_bits v_sheets_1_size v_sheets_1_numbers v_sheets_2_bits v_sheets_2_size v_sheets_2_numbers v_sheets_3_bits v_sheets_3_size v_sheets_3_numbers v_findings_107)) X hV hl.1 (c_X_finding D h h_here h_kept h_trial h_parts h_text h_sheets h_findings v_isKept v_findings (0 : Int32) hc_108) fk_X_finding gw_283 rfl 0 8 rfl rfl [0, 10] [some 0, none, none, none, none, none, none, none, none, none, some 1] rfl rfl ⟨rfl, rfl, rfl, rfl, rfl, rfl, rfl, rfl, rfl, rfl, rfl, rfl, rfl, rfl, rfl, trivial⟩ rfl rfl rfl d_X_write_54 (fun H locs hV => ?_)
        refine lv_i2l hx hb d_X_write_57 rfl ?_
        have e_ := Option.some.inj hf
        subst e_
        exact k_lret X rfl hV d_X_write_58
      replace hf := kifn c_98 hf
      refine lv_aload_n hx hb d_X_write_26 rfl (lv_at hl 0 rfl) ?_
      refine lv_iconst (v := 5) hx hb d_X_write_27 ic_5 ?_
      obtain ⟨r_109, v_findings_110, hc_111, hf⟩ := kb2_some hf
      refine k_cvi (w1 := (wd_X_finding D h h_here h_kept h_trial h_parts h_text h_sheets h_findings v_isKept v_findings_110)) (r := r_109) (ws' := (wd_X_write D h h_here h_kept h_trial h_parts h_text h_sheets h_findings h_sheets_0 h_sheets_1 h_sheets_2 h_sheets_3 h_sheets_0_numbers h_sheets_1_numbers h_sheets_2_numbers h_sheets_3_numbers v_isKept v_sheets_0_bits v_sheets_0_size v_sheets_0_numbers v_sheets_1_bits v_sheets_1_size v_sheets_1_numbers v_sheets_2_bits v_sheets_2_size v_sheets_2_numbers v_sheets_3_bits v_sheets_3_size v_sheets_3_numbers v_findings_110)) X hV hl.1 (c_X_finding D h h_here h_kept h_trial h_parts h_text h_sheets h_findings v_isKept v_findings (5 : Int32) hc_111) fk_X_finding gw_283 rfl 0 8 rfl rfl [0, 10] [some 0, none, none, none, none, none, none, none, none, none, some 1] rfl rfl ⟨rfl, rfl, rfl, rfl, rfl, rfl, rfl, rfl, rfl, rfl, rfl, rfl, rfl, rfl, rfl, trivial⟩ rfl rfl rfl d_X_write_28 (fun H locs hV => ?_)
      refine lv_i2l hx hb d_X_write_31 rfl ?_
      have e_ := Option.some.inj hf
      subst e_
      exact k_lret X rfl hV d_X_write_32
    replace hfs_78 := kifn c_95 hfs_78
    by_cases c_112 : x1 = 2
    · replace hfs_78 := kifp c_112 hfs_78
      subst c_112
      have hf := hfs_78
      have hV := hVs_78
      have hl := hls_78
      refine k_aald (q := h_sheets_2) X hV 1 2 rfl rfl kin_2_4 rfl d_X_write_19 ?_
      obtain ⟨r_113, hc_114, hf⟩ := kb1_some hf
      refine k_cvi (w1 := (wd_Sh_isMissing D h_sheets_2 h_sheets_2_numbers v_sheets_2_bits v_sheets_2_size)) (r := r_113) (ws' := (wd_X_write D h h_here h_kept h_trial h_parts h_text h_sheets h_findings h_sheets_0 h_sheets_1 h_sheets_2 h_sheets_3 h_sheets_0_numbers h_sheets_1_numbers h_sheets_2_numbers h_sheets_3_numbers v_isKept v_sheets_0_bits v_sheets_0_size v_sheets_0_numbers v_sheets_1_bits v_sheets_1_size v_sheets_1_numbers v_sheets_2_bits v_sheets_2_size v_sheets_2_numbers v_sheets_3_bits v_sheets_3_size v_sheets_3_numbers v_findings)) X hV hl.1 (c_Sh_isMissing D h_sheets_2 h_sheets_2_numbers v_sheets_2_bits v_sheets_2_size hc_114) fk_Sh_isMissing gw_815 rfl 6 4 rfl rfl [6] [none, none, none, none, none, none, some 0, none, none, none, none] rfl rfl ⟨rfl, rfl, rfl, rfl, rfl, rfl, rfl, rfl, rfl, rfl, rfl, rfl, rfl, trivial⟩ rfl rfl rfl d_X_write_20 (fun H locs hV => ?_)
      refine lv_if_eq (tgt := 33) hx hb d_X_write_23 (by decide) (fun c_115 => ?_) (fun c_115 => ?_)
      · replace hf := kifp c_115 hf
        refine lv_iload_n hx hb d_X_write_33 rfl (lv_at hl 2 rfl) ?_
        refine lv_iconst (v := 0) hx hb d_X_write_34 ic_0 ?_
        refine lv_aload_n hx hb d_X_write_35 rfl (lv_at hl 0 rfl) ?_
        refine k_get X hV 0 8 5 rfl rfl rfl gw_253 rfl rfl d_X_write_36 ?_
        refine lv_iload_n hx hb d_X_write_39 rfl (lv_at hl 1 rfl) ?_
        refine k_aald (q := h_sheets_2) X hV 1 2 rfl rfl kin_2_4 rfl d_X_write_40 ?_
        refine k_get X hV 6 4 2 rfl rfl rfl gw_240 rfl rfl d_X_write_41 ?_
        refine lv_iconst (v := 1) hx hb d_X_write_44 ic_1 ?_
        refine lv_isub hx hb d_X_write_45 ?_
        obtain ⟨r_116, hc_117, hf⟩ := kb1_some hf
        refine k_csi (w1 := (wd_X_isWithin D)) (r := r_116) (ws' := (wd_X_write D h h_here h_kept h_trial h_parts h_text h_sheets h_findings h_sheets_0 h_sheets_1 h_sheets_2 h_sheets_3 h_sheets_0_numbers h_sheets_1_numbers h_sheets_2_numbers h_sheets_3_numbers v_isKept v_sheets_0_bits v_sheets_0_size v_sheets_0_numbers v_sheets_1_bits v_sheets_1_size v_sheets_1_numbers v_sheets_2_bits v_sheets_2_size v_sheets_2_numbers v_sheets_3_bits v_sheets_3_size v_sheets_3_numbers v_findings)) X hV hl.1 (c_X_isWithin D x2 (0 : Int32) (v_sheets_2_size - (1 : Int32)) hc_117) fk_X_isWithin gw_280 rfl [] [none, none, none, none, none, none, none, none, none, none, none] rfl rfl ⟨rfl, rfl, rfl, rfl, rfl, rfl, rfl, rfl, rfl, rfl, rfl, trivial⟩ rfl rfl rfl d_X_write_46 (fun H locs hV => ?_)
        refine lv_if_ne (tgt := 59) hx hb d_X_write_49 (by decide) (fun c_118 => ?_) (fun c_118 => ?_)
        · replace hf := kifn c_118 hf
          refine lv_aload_n hx hb d_X_write_59 rfl (lv_at hl 0 rfl) ?_
          refine k_get X hV 0 8 5 rfl rfl rfl gw_253 rfl rfl d_X_write_60 ?_
          refine lv_iload_n hx hb d_X_write_63 rfl (lv_at hl 1 rfl) ?_
          refine k_aald (q := h_sheets_2) X hV 1 2 rfl rfl kin_2_4 rfl d_X_write_64 ?_
          refine k_get X hV 6 4 0 rfl rfl rfl gw_236 rfl rfl d_X_write_65 ?_
          refine lv_iload_n hx hb d_X_write_68 rfl (lv_at hl 2 rfl) ?_
          obtain ⟨h_119, hf⟩ := kidx_some hf
          refine k_lald X hV 7 rfl h_119 rfl d_X_write_69 ?_
          refine k_letl hf (fun x5_120 hf => ?_)
          refine lv_lstore (lv' := [(5, .long x5_120), (0, .ref h), (1, .int (2 : Int32)), (2, .int x2), (3, .long x3)]) hx hb d_X_write_70 hl (by decide) rfl (fun ls hl => ?_)
          refine lv_aload_n hx hb d_X_write_72 rfl (lv_at hl 1 rfl) ?_
          refine k_get X hV 0 8 5 rfl rfl rfl gw_253 rfl rfl d_X_write_73 ?_
          refine lv_iload_n hx hb d_X_write_76 rfl (lv_at hl 2 rfl) ?_
          refine k_aald (q := h_sheets_2) X hV 1 2 rfl rfl kin_2_4 rfl d_X_write_77 ?_
          refine lv_iload_n hx hb d_X_write_78 rfl (lv_at hl 3 rfl) ?_
          refine lv_lload_n hx hb d_X_write_79 rfl (lv_at hl 4 rfl) ?_
          obtain ⟨v_sheets_2_numbers_121, hc_122, hf⟩ := kb1_some hf
          refine k_cvv (w1 := (wd_Sh_put D h_sheets_2 h_sheets_2_numbers v_sheets_2_bits v_sheets_2_size v_sheets_2_numbers_121)) (ws' := (wd_X_write D h h_here h_kept h_trial h_parts h_text h_sheets h_findings h_sheets_0 h_sheets_1 h_sheets_2 h_sheets_3 h_sheets_0_numbers h_sheets_1_numbers h_sheets_2_numbers h_sheets_3_numbers v_isKept v_sheets_0_bits v_sheets_0_size v_sheets_0_numbers v_sheets_1_bits v_sheets_1_size v_sheets_1_numbers v_sheets_2_bits v_sheets_2_size v_sheets_2_numbers_121 v_sheets_3_bits v_sheets_3_size v_sheets_3_numbers v_findings)) X hV hl.1 (c_Sh_put D h_sheets_2 h_sheets_2_numbers v_sheets_2_bits v_sheets_2_size v_sheets_2_numbers x2 x3 hc_122) fk_Sh_put gw_819 rfl 6 4 rfl rfl [6, 7] [none, none, none, none, none, none, some 0, some 1, none, none, none] rfl rfl ⟨rfl, rfl, rfl, rfl, rfl, rfl, rfl, rfl, rfl, rfl, rfl, rfl, rfl, rfl, rfl, trivial⟩ rfl rfl rfl d_X_write_80 (fun H locs hV => ?_)
          refine lv_lload hx hb d_X_write_83 (lv_at hl 0 rfl) ?_
          have e_ := Option.some.inj hf
          subst e_
          exact k_lret X rfl hV d_X_write_85
        replace hf := kifp c_118 hf
        refine lv_aload_n hx hb d_X_write_52 rfl (lv_at hl 0 rfl) ?_
        refine lv_iconst (v := 0) hx hb d_X_write_53 ic_0 ?_
        obtain ⟨r_123, v_findings_124, hc_125, hf⟩ := kb2_some hf
        refine k_cvi (w1 := (wd_X_finding D h h_here h_kept h_trial h_parts h_text h_sheets h_findings v_isKept v_findings_124)) (r := r_123) (ws' := (wd_X_write D h h_here h_kept h_trial h_parts h_text h_sheets h_findings h_sheets_0 h_sheets_1 h_sheets_2 h_sheets_3 h_sheets_0_numbers h_sheets_1_numbers h_sheets_2_numbers h_sheets_3_numbers v_isKept v_sheets_0_bits v_sheets_0_size v_sheets_0_numbers v_sheets_1_bits v_sheets_1_size v_sheets_1_numbers v_sheets_2_bits v_sheets_2_size v_sheets_2_numbers v_sheets_3_bits v_sheets_3_size v_sheets_3_numbers v_findings_124)) X hV hl.1 (c_X_finding D h h_here h_kept h_trial h_parts h_text h_sheets h_findings v_isKept v_findings (0 : Int32) hc_125) fk_X_finding gw_283 rfl 0 8 rfl rfl [0, 10] [some 0, none, none, none, none, none, none, none, none, none, some 1] rfl rfl ⟨rfl, rfl, rfl, rfl, rfl, rfl, rfl, rfl, rfl, rfl, rfl, rfl, rfl, rfl, rfl, trivial⟩ rfl rfl rfl d_X_write_54 (fun H locs hV => ?_)
        refine lv_i2l hx hb d_X_write_57 rfl ?_
        have e_ := Option.some.inj hf
        subst e_
        exact k_lret X rfl hV d_X_write_58
      replace hf := kifn c_115 hf
      refine lv_aload_n hx hb d_X_write_26 rfl (lv_at hl 0 rfl) ?_
      refine lv_iconst (v := 5) hx hb d_X_write_27 ic_5 ?_
      obtain ⟨r_126, v_findings_127, hc_128, hf⟩ := kb2_some hf
      refine k_cvi (w1 := (wd_X_finding D h h_here h_kept h_trial h_parts h_text h_sheets h_findings v_isKept v_findings_127)) (r := r_126) (ws' := (wd_X_write D h h_here h_kept h_trial h_parts h_text h_sheets h_findings h_sheets_0 h_sheets_1 h_sheets_2 h_sheets_3 h_sheets_0_numbers h_sheets_1_numbers h_sheets_2_numbers h_sheets_3_numbers v_isKept v_sheets_0_bits v_sheets_0_size v_sheets_0_numbers v_sheets_1_bits v_sheets_1_size v_sheets_1_numbers v_sheets_2_bits v_sheets_2_size v_sheets_2_numbers v_sheets_3_bits v_sheets_3_size v_sheets_3_numbers v_findings_127)) X hV hl.1 (c_X_finding D h h_here h_kept h_trial h_parts h_text h_sheets h_findings v_isKept v_findings (5 : Int32) hc_128) fk_X_finding gw_283 rfl 0 8 rfl rfl [0, 10] [some 0, none, none, none, none, none, none, none, none, none, some 1] rfl rfl ⟨rfl, rfl, rfl, rfl, rfl, rfl, rfl, rfl, rfl, rfl, rfl, rfl, rfl, rfl, rfl, trivial⟩ rfl rfl rfl d_X_write_28 (fun H locs hV => ?_)
      refine lv_i2l hx hb d_X_write_31 rfl ?_
      have e_ := Option.some.inj hf
      subst e_
      exact k_lret X rfl hV d_X_write_32
    replace hfs_78 := kifn c_112 hfs_78
    by_cases c_129 : x1 = 3
    · replace hfs_78 := kifp c_129 hfs_78
      subst c_129
      have hf := hfs_78
      have hV := hVs_78
      have hl := hls_78
      refine k_aald (q := h_sheets_3) X hV 1 2 rfl rfl kin_3_4 rfl d_X_write_19 ?_
      obtain ⟨r_130, hc_131, hf⟩ := kb1_some hf
      refine k_cvi (w1 := (wd_Sh_isMissing D h_sheets_3 h_sheets_3_numbers v_sheets_3_bits v_sheets_3_size)) (r := r_130) (ws' := (wd_X_write D h h_here h_kept h_trial h_parts h_text h_sheets h_findings h_sheets_0 h_sheets_1 h_sheets_2 h_sheets_3 h_sheets_0_numbers h_sheets_1_numbers h_sheets_2_numbers h_sheets_3_numbers v_isKept v_sheets_0_bits v_sheets_0_size v_sheets_0_numbers v_sheets_1_bits v_sheets_1_size v_sheets_1_numbers v_sheets_2_bits v_sheets_2_size v_sheets_2_numbers v_sheets_3_bits v_sheets_3_size v_sheets_3_numbers v_findings)) X hV hl.1 (c_Sh_isMissing D h_sheets_3 h_sheets_3_numbers v_sheets_3_bits v_sheets_3_size hc_131) fk_Sh_isMissing gw_815 rfl 8 4 rfl rfl [8] [none, none, none, none, none, none, none, none, some 0, none, none] rfl rfl ⟨rfl, rfl, rfl, rfl, rfl, rfl, rfl, rfl, rfl, rfl, rfl, rfl, rfl, trivial⟩ rfl rfl rfl d_X_write_20 (fun H locs hV => ?_)
      refine lv_if_eq (tgt := 33) hx hb d_X_write_23 (by decide) (fun c_132 => ?_) (fun c_132 => ?_)
      · replace hf := kifp c_132 hf
        refine lv_iload_n hx hb d_X_write_33 rfl (lv_at hl 2 rfl) ?_
        refine lv_iconst (v := 0) hx hb d_X_write_34 ic_0 ?_
        refine lv_aload_n hx hb d_X_write_35 rfl (lv_at hl 0 rfl) ?_
        refine k_get X hV 0 8 5 rfl rfl rfl gw_253 rfl rfl d_X_write_36 ?_
        refine lv_iload_n hx hb d_X_write_39 rfl (lv_at hl 1 rfl) ?_
        refine k_aald (q := h_sheets_3) X hV 1 2 rfl rfl kin_3_4 rfl d_X_write_40 ?_
        refine k_get X hV 8 4 2 rfl rfl rfl gw_240 rfl rfl d_X_write_41 ?_
        refine lv_iconst (v := 1) hx hb d_X_write_44 ic_1 ?_
        refine lv_isub hx hb d_X_write_45 ?_
        obtain ⟨r_133, hc_134, hf⟩ := kb1_some hf
        refine k_csi (w1 := (wd_X_isWithin D)) (r := r_133) (ws' := (wd_X_write D h h_here h_kept h_trial h_parts h_text h_sheets h_findings h_sheets_0 h_sheets_1 h_sheets_2 h_sheets_3 h_sheets_0_numbers h_sheets_1_numbers h_sheets_2_numbers h_sheets_3_numbers v_isKept v_sheets_0_bits v_sheets_0_size v_sheets_0_numbers v_sheets_1_bits v_sheets_1_size v_sheets_1_numbers v_sheets_2_bits v_sheets_2_size v_sheets_2_numbers v_sheets_3_bits v_sheets_3_size v_sheets_3_numbers v_findings)) X hV hl.1 (c_X_isWithin D x2 (0 : Int32) (v_sheets_3_size - (1 : Int32)) hc_134) fk_X_isWithin gw_280 rfl [] [none, none, none, none, none, none, none, none, none, none, none] rfl rfl ⟨rfl, rfl, rfl, rfl, rfl, rfl, rfl, rfl, rfl, rfl, rfl, trivial⟩ rfl rfl rfl d_X_write_46 (fun H locs hV => ?_)
        refine lv_if_ne (tgt := 59) hx hb d_X_write_49 (by decide) (fun c_135 => ?_) (fun c_135 => ?_)
        · replace hf := kifn c_135 hf
          refine lv_aload_n hx hb d_X_write_59 rfl (lv_at hl 0 rfl) ?_
          refine k_get X hV 0 8 5 rfl rfl rfl gw_253 rfl rfl d_X_write_60 ?_
          refine lv_iload_n hx hb d_X_write_63 rfl (lv_at hl 1 rfl) ?_
          refine k_aald (q := h_sheets_3) X hV 1 2 rfl rfl kin_3_4 rfl d_X_write_64 ?_
          refine k_get X hV 8 4 0 rfl rfl rfl gw_236 rfl rfl d_X_write_65 ?_
          refine lv_iload_n hx hb d_X_write_68 rfl (lv_at hl 2 rfl) ?_
          obtain ⟨h_136, hf⟩ := kidx_some hf
          refine k_lald X hV 9 rfl h_136 rfl d_X_write_69 ?_
          refine k_letl hf (fun x5_137 hf => ?_)
          refine lv_lstore (lv' := [(5, .long x5_137), (0, .ref h), (1, .int (3 : Int32)), (2, .int x2), (3, .long x3)]) hx hb d_X_write_70 hl (by decide) rfl (fun ls hl => ?_)
          refine lv_aload_n hx hb d_X_write_72 rfl (lv_at hl 1 rfl) ?_
          refine k_get X hV 0 8 5 rfl rfl rfl gw_253 rfl rfl d_X_write_73 ?_
          refine lv_iload_n hx hb d_X_write_76 rfl (lv_at hl 2 rfl) ?_
          refine k_aald (q := h_sheets_3) X hV 1 2 rfl rfl kin_3_4 rfl d_X_write_77 ?_
          refine lv_iload_n hx hb d_X_write_78 rfl (lv_at hl 3 rfl) ?_
          refine lv_lload_n hx hb d_X_write_79 rfl (lv_at hl 4 rfl) ?_
          obtain ⟨v_sheets_3_numbers_138, hc_139, hf⟩ := kb1_some hf
          refine k_cvv (w1 := (wd_Sh_put D h_sheets_3 h_sheets_3_numbers v_sheets_3_bits v_sheets_3_size v_sheets_3_numbers_138)) (ws' := (wd_X_write D h h_here h_kept h_trial h_parts h_text h_sheets h_findings h_sheets_0 h_sheets_1 h_sheets_2 h_sheets_3 h_sheets_0_numbers h_sheets_1_numbers h_sheets_2_numbers h_sheets_3_numbers v_isKept v_sheets_0_bits v_sheets_0_size v_sheets_0_numbers v_sheets_1_bits v_sheets_1_size v_sheets_1_numbers v_sheets_2_bits v_sheets_2_size v_sheets_2_numbers v_sheets_3_bits v_sheets_3_size v_sheets_3_numbers_138 v_findings)) X hV hl.1 (c_Sh_put D h_sheets_3 h_sheets_3_numbers v_sheets_3_bits v_sheets_3_size v_sheets_3_numbers x2 x3 hc_139) fk_Sh_put gw_819 rfl 8 4 rfl rfl [8, 9] [none, none, none, none, none, none, none, none, some 0, some 1, none] rfl rfl ⟨rfl, rfl, rfl, rfl, rfl, rfl, rfl, rfl, rfl, rfl, rfl, rfl, rfl, rfl, rfl, trivial⟩ rfl rfl rfl d_X_write_80 (fun H locs hV => ?_)
          refine lv_lload hx hb d_X_write_83 (lv_at hl 0 rfl) ?_
          have e_ := Option.some.inj hf
          subst e_
          exact k_lret X rfl hV d_X_write_85
        replace hf := kifp c_135 hf
        refine lv_aload_n hx hb d_X_write_52 rfl (lv_at hl 0 rfl) ?_
        refine lv_iconst (v := 0) hx hb d_X_write_53 ic_0 ?_
        obtain ⟨r_140, v_findings_141, hc_142, hf⟩ := kb2_some hf
        refine k_cvi (w1 := (wd_X_finding D h h_here h_kept h_trial h_parts h_text h_sheets h_findings v_isKept v_findings_141)) (r := r_140) (ws' := (wd_X_write D h h_here h_kept h_trial h_parts h_text h_sheets h_findings h_sheets_0 h_sheets_1 h_sheets_2 h_sheets_3 h_sheets_0_numbers h_sheets_1_numbers h_sheets_2_numbers h_sheets_3_numbers v_isKept v_sheets_0_bits v_sheets_0_size v_sheets_0_numbers v_sheets_1_bits v_sheets_1_size v_sheets_1_numbers v_sheets_2_bits v_sheets_2_size v_sheets_2_numbers v_sheets_3_bits v_sheets_3_size v_sheets_3_numbers v_findings_141)) X hV hl.1 (c_X_finding D h h_here h_kept h_trial h_parts h_text h_sheets h_findings v_isKept v_findings (0 : Int32) hc_142) fk_X_finding gw_283 rfl 0 8 rfl rfl [0, 10] [some 0, none, none, none, none, none, none, none, none, none, some 1] rfl rfl ⟨rfl, rfl, rfl, rfl, rfl, rfl, rfl, rfl, rfl, rfl, rfl, rfl, rfl, rfl, rfl, trivial⟩ rfl rfl rfl d_X_write_54 (fun H locs hV => ?_)
        refine lv_i2l hx hb d_X_write_57 rfl ?_
        have e_ := Option.some.inj hf
        subst e_
        exact k_lret X rfl hV d_X_write_58
      replace hf := kifn c_132 hf
      refine lv_aload_n hx hb d_X_write_26 rfl (lv_at hl 0 rfl) ?_
      refine lv_iconst (v := 5) hx hb d_X_write_27 ic_5 ?_
      obtain ⟨r_143, v_findings_144, hc_145, hf⟩ := kb2_some hf
      refine k_cvi (w1 := (wd_X_finding D h h_here h_kept h_trial h_parts h_text h_sheets h_findings v_isKept v_findings_144)) (r := r_143) (ws' := (wd_X_write D h h_here h_kept h_trial h_parts h_text h_sheets h_findings h_sheets_0 h_sheets_1 h_sheets_2 h_sheets_3 h_sheets_0_numbers h_sheets_1_numbers h_sheets_2_numbers h_sheets_3_numbers v_isKept v_sheets_0_bits v_sheets_0_size v_sheets_0_numbers v_sheets_1_bits v_sheets_1_size v_sheets_1_numbers v_sheets_2_bits v_sheets_2_size v_sheets_2_numbers v_sheets_3_bits v_sheets_3_size v_sheets_3_numbers v_findings_144)) X hV hl.1 (c_X_finding D h h_here h_kept h_trial h_parts h_text h_sheets h_findings v_isKept v_findings (5 : Int32) hc_145) fk_X_finding gw_283 rfl 0 8 rfl rfl [0, 10] [some 0, none, none, none, none, none, none, none, none, none, some 1] rfl rfl ⟨rfl, rfl, rfl, rfl, rfl, rfl, rfl, rfl, rfl, rfl, rfl, rfl, rfl, rfl, rfl, trivial⟩ rfl rfl rfl d_X_write_28 (fun H locs hV => ?_)
      refine lv_i2l hx hb d_X_write_31 rfl ?_
      have e_ := Option.some.inj hf
      subst e_
      exact k_lret X rfl hV d_X_write_32
    replace hfs_78 := kifn c_129 hfs_78
    exact knone hfs_78
  replace hf := kifp c_77 hf
  refine lv_aload_n hx hb d_X_write_7 rfl (lv_at hl 0 rfl) ?_
  refine lv_iconst (v := 0) hx hb d_X_write_8 ic_0 ?_
  obtain ⟨r_146, v_findings_147, hc_148, hf⟩ := kb2_some hf
  refine k_cvi (w1 := (wd_X_finding D h h_here h_kept h_trial h_parts h_text h_sheets h_findings v_isKept v_findings_147)) (r := r_146) (ws' := (wd_X_write D h h_here h_kept h_trial h_parts h_text h_sheets h_findings h_sheets_0 h_sheets_1 h_sheets_2 h_sheets_3 h_sheets_0_numbers h_sheets_1_numbers h_sheets_2_numbers h_sheets_3_numbers v_isKept v_sheets_0_bits v_sheets_0_size v_sheets_0_numbers v_sheets_1_bits v_sheets_1_size v_sheets_1_numbers v_sheets_2_bits v_sheets_2_size v_sheets_2_numbers v_sheets_3_bits v_sheets_3_size v_sheets_3_numbers v_findings_147)) X hV hl.1 (c_X_finding D h h_here h_kept h_trial h_parts h_text h_sheets h_findings v_isKept v_findings (0 : Int32) hc_148) fk_X_finding gw_283 rfl 0 8 rfl rfl [0, 10] [some 0, none, none, none, none, none, none, none, none, none, some 1] rfl rfl ⟨rfl, rfl, rfl, rfl, rfl, rfl, rfl, rfl, rfl, rfl, rfl, rfl, rfl, rfl, rfl, trivial⟩ rfl rfl rfl d_X_write_9 (fun H locs hV => ?_)
  refine lv_i2l hx hb d_X_write_12 rfl ?_
  have e_ := Option.some.inj hf
  subst e_
  exact k_lret X rfl hV d_X_write_13
set_option maxHeartbeats 2000000 in
set_option maxRecDepth 20000 in
theorem c_X_write {l : Launch} (D : kD) (h : Nat) (h_here : Nat) (h_kept : Nat) (h_trial : Nat) (h_parts : Nat) (h_text : Nat) (h_sheets : Nat) (h_findings : Nat) (h_sheets_0 : Nat) (h_sheets_1 : Nat) (h_sheets_2 : Nat) (h_sheets_3 : Nat) (h_sheets_0_numbers : Nat) (h_sheets_1_numbers : Nat) (h_sheets_2_numbers : Nat) (h_sheets_3_numbers : Nat) (v_isKept : Int32) (v_sheets_0_bits : Int32) (v_sheets_0_size : Int32) (v_sheets_0_numbers : Nat → Int64) (v_sheets_1_bits : Int32) (v_sheets_1_size : Int32) (v_sheets_1_numbers : Nat → Int64) (v_sheets_2_bits : Int32) (v_sheets_2_size : Int32) (v_sheets_2_numbers : Nat → Int64) (v_sheets_3_bits : Int32) (v_sheets_3_size : Int32) (v_sheets_3_numbers : Nat → Int64) (v_findings : Nat → Int32) (x1 : Int32) (x2 : Int32) (x3 : Int64) {out : Int64 × (Nat → Int64) × (Nat → Int64) × (Nat → Int64) × (Nat → Int64) × (Nat → Int32)} (hf : f_X_write v_sheets_0_bits v_sheets_0_size v_sheets_0_numbers v_sheets_1_bits v_sheets_1_size v_sheets_1_numbers v_sheets_2_bits v_sheets_2_size v_sheets_2_numbers v_sheets_3_bits v_sheets_3_size v_sheets_3_numbers v_findings x1 x2 x3 = some out) : kMl l D y_X_write b_X_write 7 (some .long) { frames := 2, cells := 0, slots := 0, locals := 45 } [.ref h, .int x1, .int x2, .long x3] (wd_X_write D h h_here h_kept h_trial h_parts h_text h_sheets h_findings h_sheets_0 h_sheets_1 h_sheets_2 h_sheets_3 h_sheets_0_numbers h_sheets_1_numbers h_sheets_2_numbers h_sheets_3_numbers v_isKept v_sheets_0_bits v_sheets_0_size v_sheets_0_numbers v_sheets_1_bits v_sheets_1_size v_sheets_1_numbers v_sheets_2_bits v_sheets_2_size v_sheets_2_numbers v_sheets_3_bits v_sheets_3_size v_sheets_3_numbers v_findings) (wd_X_write D h h_here h_kept h_trial h_parts h_text h_sheets h_findings h_sheets_0 h_sheets_1 h_sheets_2 h_sheets_3 h_sheets_0_numbers h_sheets_1_numbers h_sheets_2_numbers h_sheets_3_numbers v_isKept v_sheets_0_bits v_sheets_0_size out.2.1 v_sheets_1_bits v_sheets_1_size out.2.2.1 v_sheets_2_bits v_sheets_2_size out.2.2.2.1 v_sheets_3_bits v_sheets_3_size out.2.2.2.2.1 out.2.2.2.2.2) out.1 :=
  kMl_of (own := "MountainFarms") (plainFor_of_name (by decide)) rfl rfl (fun p e s m args below meth c ls X hV hl => t_X_write X hf hV hl)
set_option maxHeartbeats 2000000 in
set_option maxRecDepth 20000 in
theorem t_Sh_hasRun {l : Launch} {p : Program} {e : Env} {s : State} {m : MethodId} {args : Array Value} {below : List Frame} {meth : Method} {c : Code} {D : kD} {wc0 : va_W} {h : Nat} {h_numbers : Nat} {v_bits : Int32} {v_size : Int32} {x1 : Int32} {x2 : Int32} {out : Int32} (X : kX p m meth c s args D (va_A wc0 s.heap.size) b_Sh_hasRun "MountainFarms$Sheet" 3 (some .boolean)) (hf : f_Sh_hasRun v_size x1 x2 = some out) {H : Heap} {locs : List Loc} (hV : kV D (va_A wc0 s.heap.size) s (wd_Sh_hasRun D h h_numbers v_bits v_size) H locs) {ls : Array Slot} (hl : lv_has ls 3 [(0, .ref h), (1, .int x1), (2, .int x2)]) : W p l e { frames := 0, cells := 0, slots := 0, locals := 0 } s m args below meth c H locs 0 0 (MQ below (kQi D wc0 (wd_Sh_hasRun D h h_numbers v_bits v_size) s.heap.size out) args s 0 0 (va_A wc0 s.heap.size)) (F0 m 0 ls []) := by
  unfold f_Sh_hasRun at hf
  obtain ⟨hx, hb, -⟩ := id X
  refine lv_iload_n hx hb d_Sh_hasRun_0 rfl (lv_at hl 1 rfl) ?_
  refine lv_if_lt (tgt := 22) hx hb d_Sh_hasRun_1 (by decide) (fun c_4 => ?_) (fun c_4 => ?_)
  · replace hf := kifp c_4 hf
    refine lv_iconst (v := 0) hx hb d_Sh_hasRun_22 ic_0 ?_
    have e_ := Option.some.inj hf
    subst e_
    exact k_iret (v := 0) X rfl hV nb0 d_Sh_hasRun_23
  replace hf := kifn c_4 hf
  refine lv_iload_n hx hb d_Sh_hasRun_4 rfl (lv_at hl 2 rfl) ?_
  refine lv_if_lt (tgt := 22) hx hb d_Sh_hasRun_5 (by decide) (fun c_5 => ?_) (fun c_5 => ?_)
  · replace hf := kifp c_5 hf
    refine lv_iconst (v := 0) hx hb d_Sh_hasRun_22 ic_0 ?_
    have e_ := Option.some.inj hf
    subst e_
    exact k_iret (v := 0) X rfl hV nb0 d_Sh_hasRun_23
  replace hf := kifn c_5 hf
  refine lv_iload_n hx hb d_Sh_hasRun_8 rfl (lv_at hl 2 rfl) ?_
  refine lv_aload_n hx hb d_Sh_hasRun_9 rfl (lv_at hl 0 rfl) ?_
  refine k_get X hV 0 4 2 rfl rfl rfl gw_239 rfl rfl d_Sh_hasRun_10 ?_
  refine lv_iload_n hx hb d_Sh_hasRun_13 rfl (lv_at hl 1 rfl) ?_
  refine lv_isub hx hb d_Sh_hasRun_14 ?_
  refine lv_icmp_gt (tgt := 22) hx hb d_Sh_hasRun_15 (by decide) (fun c_6 => ?_) (fun c_6 => ?_)
  · replace hf := kifp c_6 hf
    refine lv_iconst (v := 0) hx hb d_Sh_hasRun_22 ic_0 ?_
    have e_ := Option.some.inj hf
    subst e_
    exact k_iret (v := 0) X rfl hV nb0 d_Sh_hasRun_23
  replace hf := kifn c_6 hf
  refine lv_iconst (v := 1) hx hb d_Sh_hasRun_18 ic_1 ?_
  refine lv_goto (tgt := 23) hx hb d_Sh_hasRun_19 (by decide) ?_
  have e_ := Option.some.inj hf
  subst e_
  exact k_iret (v := 1) X rfl hV nb1 d_Sh_hasRun_23
set_option maxHeartbeats 2000000 in
set_option maxRecDepth 20000 in
theorem c_Sh_hasRun {l : Launch} (D : kD) (h : Nat) (h_numbers : Nat) (v_bits : Int32) (v_size : Int32) (x1 : Int32) (x2 : Int32) {out : Int32} (hf : f_Sh_hasRun v_size x1 x2 = some out) : kMi l D y_Sh_hasRun b_Sh_hasRun 3 (some .boolean) { frames := 0, cells := 0, slots := 0, locals := 0 } [.ref h, .int x1, .int x2] (wd_Sh_hasRun D h h_numbers v_bits v_size) (wd_Sh_hasRun D h h_numbers v_bits v_size) out :=
  kMi_of (own := "MountainFarms$Sheet") (plainFor_of_name (by decide)) rfl rfl (fun p e s m args below meth c ls X hV hl => t_Sh_hasRun X hf hV hl)
set_option maxHeartbeats 2000000 in
set_option maxRecDepth 20000 in
theorem t_X_copy_1 {l : Launch} {p : Program} {e : Env} {s : State} {m : MethodId} {args : Array Value} {below : List Frame} {meth : Method} {c : Code} {D : kD} {wc0 : va_W} {h : Nat} {h_here : Nat} {h_kept : Nat} {h_trial : Nat} {h_parts : Nat} {h_text : Nat} {h_sheets : Nat} {h_findings : Nat} {h_sheets_0 : Nat} {h_sheets_1 : Nat} {h_sheets_2 : Nat} {h_sheets_3 : Nat} {h_sheets_0_numbers : Nat} {h_sheets_1_numbers : Nat} {h_sheets_2_numbers : Nat} {h_sheets_3_numbers : Nat} {v_isKept : Int32} {v_sheets_0_bits : Int32} {v_sheets_0_size : Int32} {v_sheets_0_numbers : Nat → Int64} {v_sheets_1_bits : Int32} {v_sheets_1_size : Int32} {v_sheets_1_numbers : Nat → Int64} {v_sheets_2_bits : Int32} {v_sheets_2_size : Int32} {v_sheets_2_numbers : Nat → Int64} {v_sheets_3_bits : Int32} {v_sheets_3_size : Int32} {v_sheets_3_numbers : Nat → Int64} {v_findings : Nat → Int32} {out : Int32 × (Nat → Int64) × (Nat → Int64) × (Nat → Int64) × (Nat → Int64) × (Nat → Int32)} (X : kX p m meth c s args D (va_A wc0 s.heap.size) b_X_copy "MountainFarms" 6 (some .int)) (hf : f_X_copy_1 v_sheets_0_numbers v_sheets_1_numbers v_sheets_2_numbers v_sheets_3_numbers v_findings = some out) {H : Heap} {locs : List Loc} (hV : kV D (va_A wc0 s.heap.size) s (wd_X_copy D h h_here h_kept h_trial h_parts h_text h_sheets h_findings h_sheets_0 h_sheets_1 h_sheets_2 h_sheets_3 h_sheets_0_numbers h_sheets_1_numbers h_sheets_2_numbers h_sheets_3_numbers v_isKept v_sheets_0_bits v_sheets_0_size v_sheets_0_numbers v_sheets_1_bits v_sheets_1_size v_sheets_1_numbers v_sheets_2_bits v_sheets_2_size v_sheets_2_numbers v_sheets_3_bits v_sheets_3_size v_sheets_3_numbers v_findings) H locs) {ls : Array Slot} (hl : lv_has ls 6 [(0, .ref h)]) : W p l e { frames := 2, cells := 0, slots := 0, locals := 43 } s m args below meth c H locs 0 0 (MQ below (kQi D wc0 (wd_X_copy D h h_here h_kept h_trial h_parts h_text h_sheets h_findings h_sheets_0 h_sheets_1 h_sheets_2 h_sheets_3 h_sheets_0_numbers h_sheets_1_numbers h_sheets_2_numbers h_sheets_3_numbers v_isKept v_sheets_0_bits v_sheets_0_size out.2.1 v_sheets_1_bits v_sheets_1_size out.2.2.1 v_sheets_2_bits v_sheets_2_size out.2.2.2.1 v_sheets_3_bits v_sheets_3_size out.2.2.2.2.1 out.2.2.2.2.2) s.heap.size out.1) args s 0 0 (va_A wc0 s.heap.size)) (F0 m 14 ls []) := by
  unfold f_X_copy_1 at hf
  obtain ⟨hx, hb, -⟩ := id X
  refine lv_aload_n hx hb d_X_copy_14 rfl (lv_at hl 0 rfl) ?_
  refine lv_iconst (v := 0) hx hb d_X_copy_15 ic_0 ?_
  obtain ⟨r_534, v_findings_535, hc_536, hf⟩ := kb2_some hf
  refine k_cvi (w1 := (wd_X_finding D h h_here h_kept h_trial h_parts h_text h_sheets h_findings v_isKept v_findings_535)) (r := r_534) (ws' := (wd_X_copy D h h_here h_kept h_trial h_parts h_text h_sheets h_findings h_sheets_0 h_sheets_1 h_sheets_2 h_sheets_3 h_sheets_0_numbers h_sheets_1_numbers h_sheets_2_numbers h_sheets_3_numbers v_isKept v_sheets_0_bits v_sheets_0_size v_sheets_0_numbers v_sheets_1_bits v_sheets_1_size v_sheets_1_numbers v_sheets_2_bits v_sheets_2_size v_sheets_2_numbers v_sheets_3_bits v_sheets_3_size v_sheets_3_numbers v_findings_535)) X hV hl.1 (c_X_finding D h h_here h_kept h_trial h_parts h_text h_sheets h_findings v_isKept v_findings (0 : Int32) hc_536) fk_X_finding gw_283 rfl 0 8 rfl rfl [0, 10] [some 0, none, none, none, none, none, none, none, none, none, some 1] rfl rfl ⟨rfl, rfl, rfl, rfl, rfl, rfl, rfl, rfl, rfl, rfl, rfl, rfl, rfl, rfl, rfl, trivial⟩ rfl rfl rfl d_X_copy_16 (fun H locs hV => ?_)
  have e_ := Option.some.inj hf
  subst e_
  exact k_iret X rfl hV rfl d_X_copy_19
set_option maxHeartbeats 2000000 in
set_option maxRecDepth 20000 in
theorem t_X_copy_2 {l : Launch} {p : Program} {e : Env} {s : State} {m : MethodId} {args : Array Value} {below : List Frame} {meth : Method} {c : Code} {D : kD} {wc0 : va_W} {h : Nat} {h_here : Nat} {h_kept : Nat} {h_trial : Nat} {h_parts : Nat} {h_text : Nat} {h_sheets : Nat} {h_findings : Nat} {h_sheets_0 : Nat} {h_sheets_1 : Nat} {h_sheets_2 : Nat} {h_sheets_3 : Nat} {h_sheets_0_numbers : Nat} {h_sheets_1_numbers : Nat} {h_sheets_2_numbers : Nat} {h_sheets_3_numbers : Nat} {v_isKept : Int32} {v_sheets_0_bits : Int32} {v_sheets_0_size : Int32} {v_sheets_0_numbers : Nat → Int64} {v_sheets_1_bits : Int32} {v_sheets_1_size : Int32} {v_sheets_1_numbers : Nat → Int64} {v_sheets_2_bits : Int32} {v_sheets_2_size : Int32} {v_sheets_2_numbers : Nat → Int64} {v_sheets_3_bits : Int32} {v_sheets_3_size : Int32} {v_sheets_3_numbers : Nat → Int64} {v_findings : Nat → Int32} {out : Int32 × (Nat → Int64) × (Nat → Int64) × (Nat → Int64) × (Nat → Int64) × (Nat → Int32)} (X : kX p m meth c s args D (va_A wc0 s.heap.size) b_X_copy "MountainFarms" 6 (some .int)) (hf : f_X_copy_2 v_sheets_0_numbers v_sheets_1_numbers v_sheets_2_numbers v_sheets_3_numbers v_findings = some out) {H : Heap} {locs : List Loc} (hV : kV D (va_A wc0 s.heap.size) s (wd_X_copy D h h_here h_kept h_trial h_parts h_text h_sheets h_findings h_sheets_0 h_sheets_1 h_sheets_2 h_sheets_3 h_sheets_0_numbers h_sheets_1_numbers h_sheets_2_numbers h_sheets_3_numbers v_isKept v_sheets_0_bits v_sheets_0_size v_sheets_0_numbers v_sheets_1_bits v_sheets_1_size v_sheets_1_numbers v_sheets_2_bits v_sheets_2_size v_sheets_2_numbers v_sheets_3_bits v_sheets_3_size v_sheets_3_numbers v_findings) H locs) {ls : Array Slot} (hl : lv_has ls 6 [(0, .ref h)]) : W p l e { frames := 2, cells := 0, slots := 0, locals := 43 } s m args below meth c H locs 0 0 (MQ below (kQi D wc0 (wd_X_copy D h h_here h_kept h_trial h_parts h_text h_sheets h_findings h_sheets_0 h_sheets_1 h_sheets_2 h_sheets_3 h_sheets_0_numbers h_sheets_1_numbers h_sheets_2_numbers h_sheets_3_numbers v_isKept v_sheets_0_bits v_sheets_0_size out.2.1 v_sheets_1_bits v_sheets_1_size out.2.2.1 v_sheets_2_bits v_sheets_2_size out.2.2.2.1 v_sheets_3_bits v_sheets_3_size out.2.2.2.2.1 out.2.2.2.2.2) s.heap.size out.1) args s 0 0 (va_A wc0 s.heap.size)) (F0 m 44 ls []) := by
  unfold f_X_copy_2 at hf
  obtain ⟨hx, hb, -⟩ := id X
  refine lv_aload_n hx hb d_X_copy_44 rfl (lv_at hl 0 rfl) ?_
  refine lv_iconst (v := 5) hx hb d_X_copy_45 ic_5 ?_
  obtain ⟨r_537, v_findings_538, hc_539, hf⟩ := kb2_some hf
  refine k_cvi (w1 := (wd_X_finding D h h_here h_kept h_trial h_parts h_text h_sheets h_findings v_isKept v_findings_538)) (r := r_537) (ws' := (wd_X_copy D h h_here h_kept h_trial h_parts h_text h_sheets h_findings h_sheets_0 h_sheets_1 h_sheets_2 h_sheets_3 h_sheets_0_numbers h_sheets_1_numbers h_sheets_2_numbers h_sheets_3_numbers v_isKept v_sheets_0_bits v_sheets_0_size v_sheets_0_numbers v_sheets_1_bits v_sheets_1_size v_sheets_1_numbers v_sheets_2_bits v_sheets_2_size v_sheets_2_numbers v_sheets_3_bits v_sheets_3_size v_sheets_3_numbers v_findings_538)) X hV hl.1 (c_X_finding D h h_here h_kept h_trial h_parts h_text h_sheets h_findings v_isKept v_findings (5 : Int32) hc_539) fk_X_finding gw_283 rfl 0 8 rfl rfl [0, 10] [some 0, none, none, none, none, none, none, none, none, none, some 1] rfl rfl ⟨rfl, rfl, rfl, rfl, rfl, rfl, rfl, rfl, rfl, rfl, rfl, rfl, rfl, rfl, rfl, trivial⟩ rfl rfl rfl d_X_copy_46 (fun H locs hV => ?_)
  have e_ := Option.some.inj hf
  subst e_
  exact k_iret X rfl hV rfl d_X_copy_49
set_option maxHeartbeats 2000000 in
set_option maxRecDepth 20000 in
theorem t_X_copy_3 {l : Launch} {p : Program} {e : Env} {s : State} {m : MethodId} {args : Array Value} {below : List Frame} {meth : Method} {c : Code} {D : kD} {wc0 : va_W} {h : Nat} {h_here : Nat} {h_kept : Nat} {h_trial : Nat} {h_parts : Nat} {h_text : Nat} {h_sheets : Nat} {h_findings : Nat} {h_sheets_0 : Nat} {h_sheets_1 : Nat} {h_sheets_2 : Nat} {h_sheets_3 : Nat} {h_sheets_0_numbers : Nat} {h_sheets_1_numbers : Nat} {h_sheets_2_numbers : Nat} {h_sheets_3_numbers : Nat} {v_isKept : Int32} {v_sheets_0_bits : Int32} {v_sheets_0_size : Int32} {v_sheets_0_numbers : Nat → Int64} {v_sheets_1_bits : Int32} {v_sheets_1_size : Int32} {v_sheets_1_numbers : Nat → Int64} {v_sheets_2_bits : Int32} {v_sheets_2_size : Int32} {v_sheets_2_numbers : Nat → Int64} {v_sheets_3_bits : Int32} {v_sheets_3_size : Int32} {v_sheets_3_numbers : Nat → Int64} {v_findings : Nat → Int32} {out : Int32 × (Nat → Int64) × (Nat → Int64) × (Nat → Int64) × (Nat → Int64) × (Nat → Int32)} (X : kX p m meth c s args D (va_A wc0 s.heap.size) b_X_copy "MountainFarms" 6 (some .int)) (hf : f_X_copy_3 v_sheets_0_numbers v_sheets_1_numbers v_sheets_2_numbers v_sheets_3_numbers v_findings = some out) {H : Heap} {locs : List Loc} (hV : kV D (va_A wc0 s.heap.size) s (wd_X_copy D h h_here h_kept h_trial h_parts h_text h_sheets h_findings h_sheets_0 h_sheets_1 h_sheets_2 h_sheets_3 h_sheets_0_numbers h_sheets_1_numbers h_sheets_2_numbers h_sheets_3_numbers v_isKept v_sheets_0_bits v_sheets_0_size v_sheets_0_numbers v_sheets_1_bits v_sheets_1_size v_sheets_1_numbers v_sheets_2_bits v_sheets_2_size v_sheets_2_numbers v_sheets_3_bits v_sheets_3_size v_sheets_3_numbers v_findings) H locs) {ls : Array Slot} (hl : lv_has ls 6 [(0, .ref h)]) : W p l e { frames := 2, cells := 0, slots := 0, locals := 43 } s m args below meth c H locs 0 0 (MQ below (kQi D wc0 (wd_X_copy D h h_here h_kept h_trial h_parts h_text h_sheets h_findings h_sheets_0 h_sheets_1 h_sheets_2 h_sheets_3 h_sheets_0_numbers h_sheets_1_numbers h_sheets_2_numbers h_sheets_3_numbers v_isKept v_sheets_0_bits v_sheets_0_size out.2.1 v_sheets_1_bits v_sheets_1_size out.2.2.1 v_sheets_2_bits v_sheets_2_size out.2.2.2.1 v_sheets_3_bits v_sheets_3_size out.2.2.2.2.1 out.2.2.2.2.2) s.heap.size out.1) args s 0 0 (va_A wc0 s.heap.size)) (F0 m 108 ls []) := by
  unfold f_X_copy_3 at hf
  obtain ⟨hx, hb, -⟩ := id X
  refine lv_aload_n hx hb d_X_copy_108 rfl (lv_at hl 0 rfl) ?_
  refine lv_iconst (v := 0) hx hb d_X_copy_109 ic_0 ?_
  obtain ⟨r_540, v_findings_541, hc_542, hf⟩ := kb2_some hf
  refine k_cvi (w1 := (wd_X_finding D h h_here h_kept h_trial h_parts h_text h_sheets h_findings v_isKept v_findings_541)) (r := r_540) (ws' := (wd_X_copy D h h_here h_kept h_trial h_parts h_text h_sheets h_findings h_sheets_0 h_sheets_1 h_sheets_2 h_sheets_3 h_sheets_0_numbers h_sheets_1_numbers h_sheets_2_numbers h_sheets_3_numbers v_isKept v_sheets_0_bits v_sheets_0_size v_sheets_0_numbers v_sheets_1_bits v_sheets_1_size v_sheets_1_numbers v_sheets_2_bits v_sheets_2_size v_sheets_2_numbers v_sheets_3_bits v_sheets_3_size v_sheets_3_numbers v_findings_541)) X hV hl.1 (c_X_finding D h h_here h_kept h_trial h_parts h_text h_sheets h_findings v_isKept v_findings (0 : Int32) hc_542) fk_X_finding gw_283 rfl 0 8 rfl rfl [0, 10] [some 0, none, none, none, none, none, none, none, none, none, some 1] rfl rfl ⟨rfl, rfl, rfl, rfl, rfl, rfl, rfl, rfl, rfl, rfl, rfl, rfl, rfl, rfl, rfl, trivial⟩ rfl rfl rfl d_X_copy_110 (fun H locs hV => ?_)
  have e_ := Option.some.inj hf
  subst e_
  exact k_iret X rfl hV rfl d_X_copy_113
set_option maxHeartbeats 2000000 in
set_option maxRecDepth 20000 in
theorem t_X_copy {l : Launch} {p : Program} {e : Env} {s : State} {m : MethodId} {args : Array Value} {below : List Frame} {meth : Method} {c : Code} {D : kD} {wc0 : va_W} {h : Nat} {h_here : Nat} {h_kept : Nat} {h_trial : Nat} {h_parts : Nat} {h_text : Nat} {h_sheets : Nat} {h_findings : Nat} {h_sheets_0 : Nat} {h_sheets_1 : Nat} {h_sheets_2 : Nat} {h_sheets_3 : Nat} {h_sheets_0_numbers : Nat} {h_sheets_1_numbers : Nat} {h_sheets_2_numbers : Nat} {h_sheets_3_numbers : Nat} {v_isKept : Int32} {v_sheets_0_bits : Int32} {v_sheets_0_size : Int32} {v_sheets_0_numbers : Nat → Int64} {v_sheets_1_bits : Int32} {v_sheets_1_size : Int32} {v_sheets_1_numbers : Nat → Int64} {v_sheets_2_bits : Int32} {v_sheets_2_size : Int32} {v_sheets_2_numbers : Nat → Int64} {v_sheets_3_bits : Int32} {v_sheets_3_size : Int32} {v_sheets_3_numbers : Nat → Int64} {v_findings : Nat → Int32} {x1 : Int32} {x2 : Int32} {x3 : Int32} {x4 : Int32} {x5 : Int32} {out : Int32 × (Nat → Int64) × (Nat → Int64) × (Nat → Int64) × (Nat → Int64) × (Nat → Int32)} (X : kX p m meth c s args D (va_A wc0 s.heap.size) b_X_copy "MountainFarms" 6 (some .int)) (hf : f_X_copy v_sheets_0_bits v_sheets_0_size v_sheets_0_numbers v_sheets_1_bits v_sheets_1_size v_sheets_1_numbers v_sheets_2_bits v_sheets_2_size v_sheets_2_numbers v_sheets_3_bits v_sheets_3_size v_sheets_3_numbers v_findings x1 x2 x3 x4 x5 = some out) {H : Heap} {locs : List Loc} (hV : kV D (va_A wc0 s.heap.size) s (wd_X_copy D h h_here h_kept h_trial h_parts h_text h_sheets h_findings h_sheets_0 h_sheets_1 h_sheets_2 h_sheets_3 h_sheets_0_numbers h_sheets_1_numbers h_sheets_2_numbers h_sheets_3_numbers v_isKept v_sheets_0_bits v_sheets_0_size v_sheets_0_numbers v_sheets_1_bits v_sheets_1_size v_sheets_1_numbers v_sheets_2_bits v_sheets_2_size v_sheets_2_numbers v_sheets_3_bits v_sheets_3_size v_sheets_3_numbers v_findings) H locs) {ls : Array Slot} (hl : lv_has ls 6 [(0, .ref h), (1, .int x1), (2, .int x2), (3, .int x3), (4, .int x4), (5, .int x5)]) : W p l e { frames := 2, cells := 0, slots := 0, locals := 43 } s m args below meth c H locs 0 0 (MQ below (kQi D wc0 (wd_X_copy D h h_here h_kept h_trial h_parts h_text h_sheets h_findings h_sheets_0 h_sheets_1 h_sheets_2 h_sheets_3 h_sheets_0_numbers h_sheets_1_numbers h_sheets_2_numbers h_sheets_3_numbers v_isKept v_sheets_0_bits v_sheets_0_size out.2.1 v_sheets_1_bits v_sheets_1_size out.2.2.1 v_sheets_2_bits v_sheets_2_size out.2.2.2.1 v_sheets_3_bits v_sheets_3_size out.2.2.2.2.1 out.2.2.2.2.2) s.heap.size out.1) args s 0 0 (va_A wc0 s.heap.size)) (F0 m 0 ls []) := by
  unfold f_X_copy at hf
  obtain ⟨hx, hb, -⟩ := id X
  refine lv_iload_n hx hb d_X_copy_0 rfl (lv_at hl 1 rfl) ?_
  obtain ⟨r_272, hc_273, hf⟩ := kb1_some hf
  refine k_csi (w1 := (wd_X_isSheet D)) (r := r_272) (ws' := (wd_X_copy D h h_here h_kept h_trial h_parts h_text h_sheets h_findings h_sheets_0 h_sheets_1 h_sheets_2 h_sheets_3 h_sheets_0_numbers h_sheets_1_numbers h_sheets_2_numbers h_sheets_3_numbers v_isKept v_sheets_0_bits v_sheets_0_size v_sheets_0_numbers v_sheets_1_bits v_sheets_1_size v_sheets_1_numbers v_sheets_2_bits v_sheets_2_size v_sheets_2_numbers v_sheets_3_bits v_sheets_3_size v_sheets_3_numbers v_findings)) X hV hl.1 (c_X_isSheet D x1 hc_273) fk_X_isSheet gw_804 rfl [] [none, none, none, none, none, none, none, none, none, none, none] rfl rfl ⟨rfl, rfl, rfl, rfl, rfl, rfl, rfl, rfl, rfl, rfl, rfl, trivial⟩ rfl rfl rfl d_X_copy_1 (fun H locs hV => ?_)
  refine lv_if_eq (tgt := 14) hx hb d_X_copy_4 (by decide) (fun c_274 => ?_) (fun c_274 => ?_)
  · replace hf := kifp c_274 hf
    exact t_X_copy_1 X hf hV (lv_sub hl [0] rfl)
  replace hf := kifn c_274 hf
  refine lv_iload_n hx hb d_X_copy_7 rfl (lv_at hl 3 rfl) ?_
  obtain ⟨r_275, hc_276, hf⟩ := kb1_some hf
  refine k_csi (w1 := (wd_X_isSheet D)) (r := r_275) (ws' := (wd_X_copy D h h_here h_kept h_trial h_parts h_text h_sheets h_findings h_sheets_0 h_sheets_1 h_sheets_2 h_sheets_3 h_sheets_0_numbers h_sheets_1_numbers h_sheets_2_numbers h_sheets_3_numbers v_isKept v_sheets_0_bits v_sheets_0_size v_sheets_0_numbers v_sheets_1_bits v_sheets_1_size v_sheets_1_numbers v_sheets_2_bits v_sheets_2_size v_sheets_2_numbers v_sheets_3_bits v_sheets_3_size v_sheets_3_numbers v_findings)) X hV hl.1 (c_X_isSheet D x3 hc_276) fk_X_isSheet gw_804 rfl [] [none, none, none, none, none, none, none, none, none, none, none] rfl rfl ⟨rfl, rfl, rfl, rfl, rfl, rfl, rfl, rfl, rfl, rfl, rfl, trivial⟩ rfl rfl rfl d_X_copy_8 (fun H locs hV => ?_)
  refine lv_if_ne (tgt := 20) hx hb d_X_copy_11 (by decide) (fun c_277 => ?_) (fun c_277 => ?_)
  · replace hf := kifn c_277 hf
    refine lv_aload_n hx hb d_X_copy_20 rfl (lv_at hl 0 rfl) ?_
    refine k_get X hV 0 8 5 rfl rfl rfl gw_253 rfl rfl d_X_copy_21 ?_
    refine lv_iload_n hx hb d_X_copy_24 rfl (lv_at hl 1 rfl) ?_
    have hfs_278 := hf
    have hVs_278 := hV
    have hls_278 := hl
    by_cases c_278 : x1 = 0
    · replace hfs_278 := kifp c_278 hfs_278
      subst c_278
      have hf := hfs_278
      have hV := hVs_278
      have hl := hls_278
      refine k_aald (q := h_sheets_0) X hV 1 2 rfl rfl kin_0_4 rfl d_X_copy_25 ?_
      obtain ⟨r_279, hc_280, hf⟩ := kb1_some hf
      refine k_cvi (w1 := (wd_Sh_isMissing D h_sheets_0 h_sheets_0_numbers v_sheets_0_bits v_sheets_0_size)) (r := r_279) (ws' := (wd_X_copy D h h_here h_kept h_trial h_parts h_text h_sheets h_findings h_sheets_0 h_sheets_1 h_sheets_2 h_sheets_3 h_sheets_0_numbers h_sheets_1_numbers h_sheets_2_numbers h_sheets_3_numbers v_isKept v_sheets_0_bits v_sheets_0_size v_sheets_0_numbers v_sheets_1_bits v_sheets_1_size v_sheets_1_numbers v_sheets_2_bits v_sheets_2_size v_sheets_2_numbers v_sheets_3_bits v_sheets_3_size v_sheets_3_numbers v_findings)) X hV hl.1 (c_Sh_isMissing D h_sheets_0 h_sheets_0_numbers v_sheets_0_bits v_sheets_0_size hc_280) fk_Sh_isMissing gw_815 rfl 2 4 rfl rfl [2] [none, none, some 0, none, none, none, none, none, none, none, none] rfl rfl ⟨rfl, rfl, rfl, rfl, rfl, rfl, rfl, rfl, rfl, rfl, rfl, rfl, rfl, trivial⟩ rfl rfl rfl d_X_copy_26 (fun H locs hV => ?_)
      refine lv_if_ne (tgt := 44) hx hb d_X_copy_29 (by decide) (fun c_281 => ?_) (fun c_281 => ?_)
      · replace hf := kifn c_281 hf
        exact t_X_copy_2 X hf hV (lv_sub hl [0] rfl)
      replace hf := kifp c_281 hf
      refine lv_aload_n hx hb d_X_copy_32 rfl (lv_at hl 0 rfl) ?_
      refine k_get X hV 0 8 5 rfl rfl rfl gw_253 rfl rfl d_X_copy_33 ?_
      refine lv_iload_n hx hb d_X_copy_36 rfl (lv_at hl 3 rfl) ?_
      have hfs_282 := hf
      have hVs_282 := hV
      have hls_282 := hl
      by_cases c_282 : x3 = 0
      · replace hfs_282 := kifp c_282 hfs_282
        subst c_282
        have hf := hfs_282
        have hV := hVs_282
        have hl := hls_282
        refine k_aald (q := h_sheets_0) X hV 1 2 rfl rfl kin_0_4 rfl d_X_copy_37 ?_
        obtain ⟨r_283, hc_284, hf⟩ := kb1_some hf
        refine k_cvi (w1 := (wd_Sh_isMissing D h_sheets_0 h_sheets_0_numbers v_sheets_0_bits v_sheets_0_size)) (r := r_283) (ws' := (wd_X_copy D h h_here h_kept h_trial h_parts h_text h_sheets h_findings h_sheets_0 h_sheets_1 h_sheets_2 h_sheets_3 h_sheets_0_numbers h_sheets_1_numbers h_sheets_2_numbers h_sheets_3_numbers v_isKept v_sheets_0_bits v_sheets_0_size v_sheets_0_numbers v_sheets_1_bits v_sheets_1_size v_sheets_1_numbers v_sheets_2_bits v_sheets_2_size v_sheets_2_numbers v_sheets_3_bits v_sheets_3_size v_sheets_3_numbers v_findings)) X hV hl.1 (c_Sh_isMissing D h_sheets_0 h_sheets_0_numbers v_sheets_0_bits v_sheets_0_size hc_284) fk_Sh_isMissing gw_815 rfl 2 4 rfl rfl [2] [none, none, some 0, none, none, none, none, none, none, none, none] rfl rfl ⟨rfl, rfl, rfl, rfl, rfl, rfl, rfl, rfl, rfl, rfl, rfl, rfl, rfl, trivial⟩ rfl rfl rfl d_X_copy_38 (fun H locs hV => ?_)
        refine lv_if_eq (tgt := 50) hx hb d_X_copy_41 (by decide) (fun c_285 => ?_) (fun c_285 => ?_)
        · replace hf := kifp c_285 hf
          refine lv_aload_n hx hb d_X_copy_50 rfl (lv_at hl 0 rfl) ?_
          refine k_get X hV 0 8 5 rfl rfl rfl gw_253 rfl rfl d_X_copy_51 ?_
          refine lv_iload_n hx hb d_X_copy_54 rfl (lv_at hl 1 rfl) ?_
          refine k_aald (q := h_sheets_0) X hV 1 2 rfl rfl kin_0_4 rfl d_X_copy_55 ?_
          refine k_get X hV 2 4 1 rfl rfl rfl gw_238 rfl rfl d_X_copy_56 ?_
          refine lv_aload_n hx hb d_X_copy_59 rfl (lv_at hl 0 rfl) ?_
          refine k_get X hV 0 8 5 rfl rfl rfl gw_253 rfl rfl d_X_copy_60 ?_
          refine lv_iload_n hx hb d_X_copy_63 rfl (lv_at hl 3 rfl) ?_
          refine k_aald (q := h_sheets_0) X hV 1 2 rfl rfl kin_0_4 rfl d_X_copy_64 ?_
          refine k_get X hV 2 4 1 rfl rfl rfl gw_238 rfl rfl d_X_copy_65 ?_
          refine lv_icmp_eq (tgt := 77) hx hb d_X_copy_68 (by decide) (fun c_286 => ?_) (fun c_286 => ?_)
          · replace hf := kifp c_286 hf
            refine lv_aload_n hx hb d_X_copy_77 rfl (lv_at hl 0 rfl) ?_
            refine k_get X hV 0 8 5 rfl rfl rfl gw_253 rfl rfl d_X_copy_78 ?_
            refine lv_iload_n hx hb d_X_copy_81 rfl (lv_at hl 1 rfl) ?_
            refine k_aald (q := h_sheets_0) X hV 1 2 rfl rfl kin_0_4 rfl d_X_copy_82 ?_
            refine lv_iload_n hx hb d_X_copy_83 rfl (lv_at hl 2 rfl) ?_
            refine lv_iload hx hb d_X_copy_84 (lv_at hl 5 rfl) ?_
            obtain ⟨r_287, hc_288, hf⟩ := kb1_some hf
            refine k_cvi (w1 := (wd_Sh_hasRun D h_sheets_0 h_sheets_0_numbers v_sheets_0_bits v_sheets_0_size)) (r := r_287) (ws' := (wd_X_copy D h h_here h_kept h_trial h_parts h_text h_sheets h_findings h_sheets_0 h_sheets_1 h_sheets_2 h_sheets_3 h_sheets_0_numbers h_sheets_1_numbers h_sheets_2_numbers h_sheets_3_numbers v_isKept v_sheets_0_bits v_sheets_0_size v_sheets_0_numbers v_sheets_1_bits v_sheets_1_size v_sheets_1_numbers v_sheets_2_bits v_sheets_2_size v_sheets_2_numbers v_sheets_3_bits v_sheets_3_size v_sheets_3_numbers v_findings)) X hV hl.1 (c_Sh_hasRun D h_sheets_0 h_sheets_0_numbers v_sheets_0_bits v_sheets_0_size x2 x5 hc_288) fk_Sh_hasRun gw_828 rfl 2 4 rfl rfl [2] [none, none, some 0, none, none, none, none, none, none, none, none] rfl rfl ⟨rfl, rfl, rfl, rfl, rfl, rfl, rfl, rfl, rfl, rfl, rfl, rfl, rfl, trivial⟩ rfl rfl rfl d_X_copy_86 (fun H locs hV => ?_)
            refine lv_if_eq (tgt := 108) hx hb d_X_copy_89 (by decide) (fun c_289 => ?_) (fun c_289 => ?_)
            · replace hf := kifp c_289 hf
              exact t_X_copy_3 X hf hV (lv_sub hl [0] rfl)
            replace hf := kifn c_289 hf
            refine lv_aload_n hx hb d_X_copy_92 rfl (lv_at hl 0 rfl) ?_
            refine k_get X hV 0 8 5 rfl rfl rfl gw_253 rfl rfl d_X_copy_93 ?_
            refine lv_iload_n hx hb d_X_copy_96 rfl (lv_at hl 3 rfl) ?_
            refine k_aald (q := h_sheets_0) X hV 1 2 rfl rfl kin_0_4 rfl d_X_copy_97 ?_
            refine lv_iload hx hb d_X_copy_98 (lv_at hl 4 rfl) ?_
            refine lv_iload hx hb d_X_copy_100 (lv_at hl 5 rfl) ?_
            obtain ⟨r_290, hc_291, hf⟩ := kb1_some hf
            refine k_cvi (w1 := (wd_Sh_hasRun D h_sheets_0 h_sheets_0_numbers v_sheets_0_bits v_sheets_0_size)) (r := r_290) (ws' := (wd_X_copy D h h_here h_kept h_trial h_parts h_text h_sheets h_findings h_sheets_0 h_sheets_1 h_sheets_2 h_sheets_3 h_sheets_0_numbers h_sheets_1_numbers h_sheets_2_numbers h_sheets_3_numbers v_isKept v_sheets_0_bits v_sheets_0_size v_sheets_0_numbers v_sheets_1_bits v_sheets_1_size v_sheets_1_numbers v_sheets_2_bits v_sheets_2_size v_sheets_2_numbers v_sheets_3_bits v_sheets_3_size v_sheets_3_numbers v_findings)) X hV hl.1 (c_Sh_hasRun D h_sheets_0 h_sheets_0_numbers v_sheets_0_bits v_sheets_0_size x4 x5 hc_291) fk_Sh_hasRun gw_828 rfl 2 4 rfl rfl [2] [none, none, some 0, none, none, none, none, none, none, none, none] rfl rfl ⟨rfl, rfl, rfl, rfl, rfl, rfl, rfl, rfl, rfl, rfl, rfl, rfl, rfl, trivial⟩ rfl rfl rfl d_X_copy_102 (fun H locs hV => ?_)
            refine lv_if_ne (tgt := 114) hx hb d_X_copy_105 (by decide) (fun c_292 => ?_) (fun c_292 => ?_)
            · replace hf := kifn c_292 hf
              refine lv_aload_n hx hb d_X_copy_114 rfl (lv_at hl 0 rfl) ?_
              refine k_get X hV 0 8 5 rfl rfl rfl gw_253 rfl rfl d_X_copy_115 ?_
              refine lv_iload_n hx hb d_X_copy_118 rfl (lv_at hl 1 rfl) ?_
              refine k_aald (q := h_sheets_0) X hV 1 2 rfl rfl kin_0_4 rfl d_X_copy_119 ?_
              refine k_get X hV 2 4 0 rfl rfl rfl gw_236 rfl rfl d_X_copy_120 ?_
              refine lv_iload_n hx hb d_X_copy_123 rfl (lv_at hl 2 rfl) ?_
              refine lv_aload_n hx hb d_X_copy_124 rfl (lv_at hl 0 rfl) ?_
              refine k_get X hV 0 8 5 rfl rfl rfl gw_253 rfl rfl d_X_copy_125 ?_
              refine lv_iload_n hx hb d_X_copy_128 rfl (lv_at hl 3 rfl) ?_
              refine k_aald (q := h_sheets_0) X hV 1 2 rfl rfl kin_0_4 rfl d_X_copy_129 ?_
              refine k_get X hV 2 4 0 rfl rfl rfl gw_236 rfl rfl d_X_copy_130 ?_
              refine lv_iload hx hb d_X_copy_133 (lv_at hl 4 rfl) ?_
              refine lv_iload hx hb d_X_copy_135 (lv_at hl 5 rfl) ?_
              obtain ⟨h_293, hf⟩ := kchk hf
              refine k_copyl (ws' := (wd_X_copy D h h_here h_kept h_trial h_parts h_text h_sheets h_findings h_sheets_0 h_sheets_1 h_sheets_2 h_sheets_3 h_sheets_0_numbers h_sheets_1_numbers h_sheets_2_numbers h_sheets_3_numbers v_isKept v_sheets_0_bits v_sheets_0_size (va_cpy v_sheets_0_numbers v_sheets_0_numbers x2.toNatClampNeg x4.toNatClampNeg x5.toNatClampNeg) v_sheets_1_bits v_sheets_1_size v_sheets_1_numbers v_sheets_2_bits v_sheets_2_size v_sheets_2_numbers v_sheets_3_bits v_sheets_3_size v_sheets_3_numbers v_findings)) X hV hl.1 gw_832 3 3 rfl rfl h_293 rfl rfl rfl d_X_copy_137 (fun H locs hV => ?_)
              refine lv_iload hx hb d_X_copy_140 (lv_at hl 5 rfl) ?_
              have e_ := Option.some.inj hf
              subst e_
              exact k_iret X rfl hV rfl d_X_copy_142
            replace hf := kifp c_292 hf
            exact t_X_copy_3 X hf hV (lv_sub hl [0] rfl)
          replace hf := kifn c_286 hf
          refine lv_aload_n hx hb d_X_copy_71 rfl (lv_at hl 0 rfl) ?_
          refine lv_iconst (v := 2) hx hb d_X_copy_72 ic_2 ?_
          obtain ⟨r_294, v_findings_295, hc_296, hf⟩ := kb2_some hf
          refine k_cvi (w1 := (wd_X_finding D h h_here h_kept h_trial h_parts h_text h_sheets h_findings v_isKept v_findings_295)) (r := r_294) (ws' := (wd_X_copy D h h_here h_kept h_trial h_parts h_text h_sheets h_findings h_sheets_0 h_sheets_1 h_sheets_2 h_sheets_3 h_sheets_0_numbers h_sheets_1_numbers h_sheets_2_numbers h_sheets_3_numbers v_isKept v_sheets_0_bits v_sheets_0_size v_sheets_0_numbers v_sheets_1_bits v_sheets_1_size v_sheets_1_numbers v_sheets_2_bits v_sheets_2_size v_sheets_2_numbers v_sheets_3_bits v_sheets_3_size v_sheets_3_numbers v_findings_295)) X hV hl.1 (c_X_finding D h h_here h_kept h_trial h_parts h_text h_sheets h_findings v_isKept v_findings (2 : Int32) hc_296) fk_X_finding gw_283 rfl 0 8 rfl rfl [0, 10] [some 0, none, none, none, none, none, none, none, none, none, some 1] rfl rfl ⟨rfl, rfl, rfl, rfl, rfl, rfl, rfl, rfl, rfl, rfl, rfl, rfl, rfl, rfl, rfl, trivial⟩ rfl rfl rfl d_X_copy_73 (fun H locs hV => ?_)
          have e_ := Option.some.inj hf
          subst e_
          exact k_iret X rfl hV rfl d_X_copy_76
        replace hf := kifn c_285 hf
        exact t_X_copy_2 X hf hV (lv_sub hl [0] rfl)
      replace hfs_282 := kifn c_282 hfs_282
      by_cases c_297 : x3 = 1
      · replace hfs_282 := kifp c_297 hfs_282
        subst c_297
        have hf := hfs_282
        have hV := hVs_282
        have hl := hls_282
        refine k_aald (q := h_sheets_1) X hV 1 2 rfl rfl kin_1_4 rfl d_X_copy_37 ?_
        obtain ⟨r_298, hc_299, hf⟩ := kb1_some hf
        refine k_cvi (w1 := (wd_Sh_isMissing D h_sheets_1 h_sheets_1_numbers v_sheets_1_bits v_sheets_1_size)) (r := r_298) (ws' := (wd_X_copy D h h_here h_kept h_trial h_parts h_text h_sheets h_findings h_sheets_0 h_sheets_1 h_sheets_2 h_sheets_3 h_sheets_0_numbers h_sheets_1_numbers h_sheets_2_numbers h_sheets_3_numbers v_isKept v_sheets_0_bits v_sheets_0_size v_sheets_0_numbers v_sheets_1_bits v_sheets_1_size v_sheets_1_numbers v_sheets_2_bits v_sheets_2_size v_sheets_2_numbers v_sheets_3_bits v_sheets_3_size v_sheets_3_numbers v_findings)) X hV hl.1 (c_Sh_isMissing D h_sheets_1 h_sheets_1_numbers v_sheets_1_bits v_sheets_1_size hc_299) fk_Sh_isMissing gw_815 rfl 4 4 rfl rfl [4] [none, none, none, none, some 0, none, none, none, none, none, none] rfl rfl ⟨rfl, rfl, rfl, rfl, rfl, rfl, rfl, rfl, rfl, rfl, rfl, rfl, rfl, trivial⟩ rfl rfl rfl d_X_copy_38 (fun H locs hV => ?_)
        refine lv_if_eq (tgt := 50) hx hb d_X_copy_41 (by decide) (fun c_300 => ?_) (fun c_300 => ?_)
        · replace hf := kifp c_300 hf
          refine lv_aload_n hx hb d_X_copy_50 rfl (lv_at hl 0 rfl) ?_
          refine k_get X hV 0 8 5 rfl rfl rfl gw_253 rfl rfl d_X_copy_51 ?_
          refine lv_iload_n hx hb d_X_copy_54 rfl (lv_at hl 1 rfl) ?_
          refine k_aald (q := h_sheets_0) X hV 1 2 rfl rfl kin_0_4 rfl d_X_copy_55 ?_
          refine k_get X hV 2 4 1 rfl rfl rfl gw_238 rfl rfl d_X_copy_56 ?_
          refine lv_aload_n hx hb d_X_copy_59 rfl (lv_at hl 0 rfl) ?_
          refine k_get X hV 0 8 5 rfl rfl rfl gw_253 rfl rfl d_X_copy_60 ?_
          refine lv_iload_n hx hb d_X_copy_63 rfl (lv_at hl 3 rfl) ?_
          refine k_aald (q := h_sheets_1) X hV 1 2 rfl rfl kin_1_4 rfl d_X_copy_64 ?_
          refine k_get X hV 4 4 1 rfl rfl rfl gw_238 rfl rfl d_X_copy_65 ?_
          refine lv_icmp_eq (tgt := 77) hx hb d_X_copy_68 (by decide) (fun c_301 => ?_) (fun c_301 => ?_)
          · replace hf := kifp c_301 hf
            refine lv_aload_n hx hb d_X_copy_77 rfl (lv_at hl 0 rfl) ?_
            refine k_get X hV 0 8 5 rfl rfl rfl gw_253 rfl rfl d_X_copy_78 ?_
            refine lv_iload_n hx hb d_X_copy_81 rfl (lv_at hl 1 rfl) ?_
            refine k_aald (q := h_sheets_0) X hV 1 2 rfl rfl kin_0_4 rfl d_X_copy_82 ?_
            refine lv_iload_n hx hb d_X_copy_83 rfl (lv_at hl 2 rfl) ?_
            refine lv_iload hx hb d_X_copy_84 (lv_at hl 5 rfl) ?_
            obtain ⟨r_302, hc_303, hf⟩ := kb1_some hf
            refine k_cvi (w1 := (wd_Sh_hasRun D h_sheets_0 h_sheets_0_numbers v_sheets_0_bits v_sheets_0_size)) (r := r_302) (ws' := (wd_X_copy D h h_here h_kept h_trial h_parts h_text h_sheets h_findings h_sheets_0 h_sheets_1 h_sheets_2 h_sheets_3 h_sheets_0_numbers h_sheets_1_numbers h_sheets_2_numbers h_sheets_3_numbers v_isKept v_sheets_0_bits v_sheets_0_size v_sheets_0_numbers v_sheets_1_bits v_sheets_1_size v_sheets_1_numbers v_sheets_2_bits v_sheets_2_size v_sheets_2_numbers v_sheets_3_bits v_sheets_3_size v_sheets_3_numbers v_findings)) X hV hl.1 (c_Sh_hasRun D h_sheets_0 h_sheets_0_numbers v_sheets_0_bits v_sheets_0_size x2 x5 hc_303) fk_Sh_hasRun gw_828 rfl 2 4 rfl rfl [2] [none, none, some 0, none, none, none, none, none, none, none, none] rfl rfl ⟨rfl, rfl, rfl, rfl, rfl, rfl, rfl, rfl, rfl, rfl, rfl, rfl, rfl, trivial⟩ rfl rfl rfl d_X_copy_86 (fun H locs hV => ?_)
            refine lv_if_eq (tgt := 108) hx hb d_X_copy_89 (by decide) (fun c_304 => ?_) (fun c_304 => ?_)
            · replace hf := kifp c_304 hf
              exact t_X_copy_3 X hf hV (lv_sub hl [0] rfl)
            replace hf := kifn c_304 hf
            refine lv_aload_n hx hb d_X_copy_92 rfl (lv_at hl 0 rfl) ?_
            refine k_get X hV 0 8 5 rfl rfl rfl gw_253 rfl rfl d_X_copy_93 ?_
            refine lv_iload_n hx hb d_X_copy_96 rfl (lv_at hl 3 rfl) ?_
            refine k_aald (q := h_sheets_1) X hV 1 2 rfl rfl kin_1_4 rfl d_X_copy_97 ?_
            refine lv_iload hx hb d_X_copy_98 (lv_at hl 4 rfl) ?_
            refine lv_iload hx hb d_X_copy_100 (lv_at hl 5 rfl) ?_
            obtain ⟨r_305, hc_306, hf⟩ := kb1_some hf
            refine k_cvi (w1 := (wd_Sh_hasRun D h_sheets_1 h_sheets_1_numbers v_sheets_1_bits v_sheets_1_size)) (r := r_305) (ws' := (wd_X_copy D h h_here h_kept h_trial h_parts h_text h_sheets h_findings h_sheets_0 h_sheets_1 h_sheets_2 h_sheets_3 h_sheets_0_numbers h_sheets_1_numbers h_sheets_2_numbers h_sheets_3_numbers v_isKept v_sheets_0_bits v_sheets_0_size v_sheets_0_numbers v_sheets_1_bits v_sheets_1_size v_sheets_1_numbers v_sheets_2_bits v_sheets_2_size v_sheets_2_numbers v_sheets_3_bits v_sheets_3_size v_sheets_3_numbers v_findings)) X hV hl.1 (c_Sh_hasRun D h_sheets_1 h_sheets_1_numbers v_sheets_1_bits v_sheets_1_size x4 x5 hc_306) fk_Sh_hasRun gw_828 rfl 4 4 rfl rfl [4] [none, none, none, none, some 0, none, none, none, none, none, none] rfl rfl ⟨rfl, rfl, rfl, rfl, rfl, rfl, rfl, rfl, rfl, rfl, rfl, rfl, rfl, trivial⟩ rfl rfl rfl d_X_copy_102 (fun H locs hV => ?_)
            refine lv_if_ne (tgt := 114) hx hb d_X_copy_105 (by decide) (fun c_307 => ?_) (fun c_307 => ?_)
            · replace hf := kifn c_307 hf
              refine lv_aload_n hx hb d_X_copy_114 rfl (lv_at hl 0 rfl) ?_
              refine k_get X hV 0 8 5 rfl rfl rfl gw_253 rfl rfl d_X_copy_115 ?_
              refine lv_iload_n hx hb d_X_copy_118 rfl (lv_at hl 1 rfl) ?_
              refine k_aald (q := h_sheets_0) X hV 1 2 rfl rfl kin_0_4 rfl d_X_copy_119 ?_
              refine k_get X hV 2 4 0 rfl rfl rfl gw_236 rfl rfl d_X_copy_120 ?_
              refine lv_iload_n hx hb d_X_copy_123 rfl (lv_at hl 2 rfl) ?_
              refine lv_aload_n hx hb d_X_copy_124 rfl (lv_at hl 0 rfl) ?_
              refine k_get X hV 0 8 5 rfl rfl rfl gw_253 rfl rfl d_X_copy_125 ?_
              refine lv_iload_n hx hb d_X_copy_128 rfl (lv_at hl 3 rfl) ?_
              refine k_aald (q := h_sheets_1) X hV 1 2 rfl rfl kin_1_4 rfl d_X_copy_129 ?_
              refine k_get X hV 4 4 0 rfl rfl rfl gw_236 rfl rfl d_X_copy_130 ?_
              refine lv_iload hx hb d_X_copy_133 (lv_at hl 4 rfl) ?_
              refine lv_iload hx hb d_X_copy_135 (lv_at hl 5 rfl) ?_
              obtain ⟨h_308, hf⟩ := kchk hf
              refine k_copyl (ws' := (wd_X_copy D h h_here h_kept h_trial h_parts h_text h_sheets h_findings h_sheets_0 h_sheets_1 h_sheets_2 h_sheets_3 h_sheets_0_numbers h_sheets_1_numbers h_sheets_2_numbers h_sheets_3_numbers v_isKept v_sheets_0_bits v_sheets_0_size v_sheets_0_numbers v_sheets_1_bits v_sheets_1_size (va_cpy v_sheets_0_numbers v_sheets_1_numbers x2.toNatClampNeg x4.toNatClampNeg x5.toNatClampNeg) v_sheets_2_bits v_sheets_2_size v_sheets_2_numbers v_sheets_3_bits v_sheets_3_size v_sheets_3_numbers v_findings)) X hV hl.1 gw_832 3 5 rfl rfl h_308 rfl rfl rfl d_X_copy_137 (fun H locs hV => ?_)
              refine lv_iload hx hb d_X_copy_140 (lv_at hl 5 rfl) ?_
              have e_ := Option.some.inj hf
              subst e_
              exact k_iret X rfl hV rfl d_X_copy_142
            replace hf := kifp c_307 hf
            exact t_X_copy_3 X hf hV (lv_sub hl [0] rfl)
          replace hf := kifn c_301 hf
          refine lv_aload_n hx hb d_X_copy_71 rfl (lv_at hl 0 rfl) ?_
          refine lv_iconst (v := 2) hx hb d_X_copy_72 ic_2 ?_
          obtain ⟨r_309, v_findings_310, hc_311, hf⟩ := kb2_some hf
          refine k_cvi (w1 := (wd_X_finding D h h_here h_kept h_trial h_parts h_text h_sheets h_findings v_isKept v_findings_310)) (r := r_309) (ws' := (wd_X_copy D h h_here h_kept h_trial h_parts h_text h_sheets h_findings h_sheets_0 h_sheets_1 h_sheets_2 h_sheets_3 h_sheets_0_numbers h_sheets_1_numbers h_sheets_2_numbers h_sheets_3_numbers v_isKept v_sheets_0_bits v_sheets_0_size v_sheets_0_numbers v_sheets_1_bits v_sheets_1_size v_sheets_1_numbers v_sheets_2_bits v_sheets_2_size v_sheets_2_numbers v_sheets_3_bits v_sheets_3_size v_sheets_3_numbers v_findings_310)) X hV hl.1 (c_X_finding D h h_here h_kept h_trial h_parts h_text h_sheets h_findings v_isKept v_findings (2 : Int32) hc_311) fk_X_finding gw_283 rfl 0 8 rfl rfl [0, 10] [some 0, none, none, none, none, none, none, none, none, none, some 1] rfl rfl ⟨rfl, rfl, rfl, rfl, rfl, rfl, rfl, rfl, rfl, rfl, rfl, rfl, rfl, rfl, rfl, trivial⟩ rfl rfl rfl d_X_copy_73 (fun H locs hV => ?_)
          have e_ := Option.some.inj hf
          subst e_
          exact k_iret X rfl hV rfl d_X_copy_76
        replace hf := kifn c_300 hf
        exact t_X_copy_2 X hf hV (lv_sub hl [0] rfl)
      replace hfs_282 := kifn c_297 hfs_282
      by_cases c_312 : x3 = 2
      · replace hfs_282 := kifp c_312 hfs_282
        subst c_312
        have hf := hfs_282
        have hV := hVs_282
        have hl := hls_282
        refine k_aald (q := h_sheets_2) X hV 1 2 rfl rfl kin_2_4 rfl d_X_copy_37 ?_
        obtain ⟨r_313, hc_314, hf⟩ := kb1_some hf
        refine k_cvi (w1 := (wd_Sh_isMissing D h_sheets_2 h_sheets_2_numbers v_sheets_2_bits v_sheets_2_size)) (r := r_313) (ws' := (wd_X_copy D h h_here h_kept h_trial h_parts h_text h_sheets h_findings h_sheets_0 h_sheets_1 h_sheets_2 h_sheets_3 h_sheets_0_numbers h_sheets_1_numbers h_sheets_2_numbers h_sheets_3_numbers v_isKept v_sheets_0_bits v_sheets_0_size v_sheets_0_numbers v_sheets_1_bits v_sheets_1_size v_sheets_1_numbers v_sheets_2_bits v_sheets_2_size v_sheets_2_numbers v_sheets_3_bits v_sheets_3_size v_sheets_3_numbers v_findings)) X hV hl.1 (c_Sh_isMissing D h_sheets_2 h_sheets_2_numbers v_sheets_2_bits v_sheets_2_size hc_314) fk_Sh_isMissing gw_815 rfl 6 4 rfl rfl [6] [none, none, none, none, none, none, some 0, none, none, none, none] rfl rfl ⟨rfl, rfl, rfl, rfl, rfl, rfl, rfl, rfl, rfl, rfl, rfl, rfl, rfl, trivial⟩ rfl rfl rfl d_X_copy_38 (fun H locs hV => ?_)
        refine lv_if_eq (tgt := 50) hx hb d_X_copy_41 (by decide) (fun c_315 => ?_) (fun c_315 => ?_)
        · replace hf := kifp c_315 hf
          refine lv_aload_n hx hb d_X_copy_50 rfl (lv_at hl 0 rfl) ?_
          refine k_get X hV 0 8 5 rfl rfl rfl gw_253 rfl rfl d_X_copy_51 ?_
          refine lv_iload_n hx hb d_X_copy_54 rfl (lv_at hl 1 rfl) ?_
          refine k_aald (q := h_sheets_0) X hV 1 2 rfl rfl kin_0_4 rfl d_X_copy_55 ?_
          refine k_get X hV 2 4 1 rfl rfl rfl gw_238 rfl rfl d_X_copy_56 ?_
          refine lv_aload_n hx hb d_X_copy_59 rfl (lv_at hl 0 rfl) ?_
          refine k_get X hV 0 8 5 rfl rfl rfl gw_253 rfl rfl d_X_copy_60 ?_
          refine lv_iload_n hx hb d_X_copy_63 rfl (lv_at hl 3 rfl) ?_
          refine k_aald (q := h_sheets_2) X hV 1 2 rfl rfl kin_2_4 rfl d_X_copy_64 ?_
          refine k_get X hV 6 4 1 rfl rfl rfl gw_238 rfl rfl d_X_copy_65 ?_
          refine lv_icmp_eq (tgt := 77) hx hb d_X_copy_68 (by decide) (fun c_316 => ?_) (fun c_316 => ?_)
          · replace hf := kifp c_316 hf
            refine lv_aload_n hx hb d_X_copy_77 rfl (lv_at hl 0 rfl) ?_
            refine k_get X hV 0 8 5 rfl rfl rfl gw_253 rfl rfl d_X_copy_78 ?_
            refine lv_iload_n hx hb d_X_copy_81 rfl (lv_at hl 1 rfl) ?_
            refine k_aald (q := h_sheets_0) X hV 1 2 rfl rfl kin_0_4 rfl d_X_copy_82 ?_
            refine lv_iload_n hx hb d_X_copy_83 rfl (lv_at hl 2 rfl) ?_
            refine lv_iload hx hb d_X_copy_84 (lv_at hl 5 rfl) ?_
            obtain ⟨r_317, hc_318, hf⟩ := kb1_some hf
            refine k_cvi (w1 := (wd_Sh_hasRun D h_sheets_0 h_sheets_0_numbers v_sheets_0_bits v_sheets_0_size)) (r := r_317) (ws' := (wd_X_copy D h h_here h_kept h_trial h_parts h_text h_sheets h_findings h_sheets_0 h_sheets_1 h_sheets_2 h_sheets_3 h_sheets_0_numbers h_sheets_1_numbers h_sheets_2_numbers h_sheets_3_numbers v_isKept v_sheets_0_bits v_sheets_0_size v_sheets_0_numbers v_sheets_1_bits v_sheets_1_size v_sheets_1_numbers v_sheets_2_bits v_sheets_2_size v_sheets_2_numbers v_sheets_3_bits v_sheets_3_size v_sheets_3_numbers v_findings)) X hV hl.1 (c_Sh_hasRun D h_sheets_0 h_sheets_0_numbers v_sheets_0_bits v_sheets_0_size x2 x5 hc_318) fk_Sh_hasRun gw_828 rfl 2 4 rfl rfl [2] [none, none, some 0, none, none, none, none, none, none, none, none] rfl rfl ⟨rfl, rfl, rfl, rfl, rfl, rfl, rfl, rfl, rfl, rfl, rfl, rfl, rfl, trivial⟩ rfl rfl rfl d_X_copy_86 (fun H locs hV => ?_)
            refine lv_if_eq (tgt := 108) hx hb d_X_copy_89 (by decide) (fun c_319 => ?_) (fun c_319 => ?_)
            · replace hf := kifp c_319 hf
              exact t_X_copy_3 X hf hV (lv_sub hl [0] rfl)
            replace hf := kifn c_319 hf
            refine lv_aload_n hx hb d_X_copy_92 rfl (lv_at hl 0 rfl) ?_
            refine k_get X hV 0 8 5 rfl rfl rfl gw_253 rfl rfl d_X_copy_93 ?_
            refine lv_iload_n hx hb d_X_copy_96 rfl (lv_at hl 3 rfl) ?_
            refine k_aald (q := h_sheets_2) X hV 1 2 rfl rfl kin_2_4 rfl d_X_copy_97 ?_
            refine lv_iload hx hb d_X_copy_98 (lv_at hl 4 rfl) ?_
            refine lv_iload hx hb d_X_copy_100 (lv_at hl 5 rfl) ?_
            obtain ⟨r_320, hc_321, hf⟩ := kb1_some hf
            refine k_cvi (w1 := (wd_Sh_hasRun D h_sheets_2 h_sheets_2_numbers v_sheets_2_bits v_sheets_2_size)) (r := r_320) (ws' := (wd_X_copy D h h_here h_kept h_trial h_parts h_text h_sheets h_findings h_sheets_0 h_sheets_1 h_sheets_2 h_sheets_3 h_sheets_0_numbers h_sheets_1_numbers h_sheets_2_numbers h_sheets_3_numbers v_isKept v_sheets_0_bits v_sheets_0_size v_sheets_0_numbers v_sheets_1_bits v_sheets_1_size v_sheets_1_numbers v_sheets_2_bits v_sheets_2_size v_sheets_2_numbers v_sheets_3_bits v_sheets_3_size v_sheets_3_numbers v_findings)) X hV hl.1 (c_Sh_hasRun D h_sheets_2 h_sheets_2_numbers v_sheets_2_bits v_sheets_2_size x4 x5 hc_321) fk_Sh_hasRun gw_828 rfl 6 4 rfl rfl [6] [none, none, none, none, none, none, some 0, none, none, none, none] rfl rfl ⟨rfl, rfl, rfl, rfl, rfl, rfl, rfl, rfl, rfl, rfl, rfl, rfl, rfl, trivial⟩ rfl rfl rfl d_X_copy_102 (fun H locs hV => ?_)
            refine lv_if_ne (tgt := 114) hx hb d_X_copy_105 (by decide) (fun c_322 => ?_) (fun c_322 => ?_)
            · replace hf := kifn c_322 hf
              refine lv_aload_n hx hb d_X_copy_114 rfl (lv_at hl 0 rfl) ?_
              refine k_get X hV 0 8 5 rfl rfl rfl gw_253 rfl rfl d_X_copy_115 ?_
              refine lv_iload_n hx hb d_X_copy_118 rfl (lv_at hl 1 rfl) ?_
              refine k_aald (q := h_sheets_0) X hV 1 2 rfl rfl kin_0_4 rfl d_X_copy_119 ?_
              refine k_get X hV 2 4 0 rfl rfl rfl gw_236 rfl rfl d_X_copy_120 ?_
              refine lv_iload_n hx hb d_X_copy_123 rfl (lv_at hl 2 rfl) ?_
              refine lv_aload_n hx hb d_X_copy_124 rfl (lv_at hl 0 rfl) ?_
              refine k_get X hV 0 8 5 rfl rfl rfl gw_253 rfl rfl d_X_copy_125 ?_
              refine lv_iload_n hx hb d_X_copy_128 rfl (lv_at hl 3 rfl) ?_
              refine k_aald (q := h_sheets_2) X hV 1 2 rfl rfl kin_2_4 rfl d_X_copy_129 ?_
              refine k_get X hV 6 4 0 rfl rfl rfl gw_236 rfl rfl d_X_copy_130 ?_
              refine lv_iload hx hb d_X_copy_133 (lv_at hl 4 rfl) ?_
              refine lv_iload hx hb d_X_copy_135 (lv_at hl 5 rfl) ?_
              obtain ⟨h_323, hf⟩ := kchk hf
              refine k_copyl (ws' := (wd_X_copy D h h_here h_kept h_trial h_parts h_text h_sheets h_findings h_sheets_0 h_sheets_1 h_sheets_2 h_sheets_3 h_sheets_0_numbers h_sheets_1_numbers h_sheets_2_numbers h_sheets_3_numbers v_isKept v_sheets_0_bits v_sheets_0_size v_sheets_0_numbers v_sheets_1_bits v_sheets_1_size v_sheets_1_numbers v_sheets_2_bits v_sheets_2_size (va_cpy v_sheets_0_numbers v_sheets_2_numbers x2.toNatClampNeg x4.toNatClampNeg x5.toNatClampNeg) v_sheets_3_bits v_sheets_3_size v_sheets_3_numbers v_findings)) X hV hl.1 gw_832 3 7 rfl rfl h_323 rfl rfl rfl d_X_copy_137 (fun H locs hV => ?_)
              refine lv_iload hx hb d_X_copy_140 (lv_at hl 5 rfl) ?_
              have e_ := Option.some.inj hf
              subst e_
              exact k_iret X rfl hV rfl d_X_copy_142
            replace hf := kifp c_322 hf
            exact t_X_copy_3 X hf hV (lv_sub hl [0] rfl)
          replace hf := kifn c_316 hf
          refine lv_aload_n hx hb d_X_copy_71 rfl (lv_at hl 0 rfl) ?_
          refine lv_iconst (v := 2) hx hb d_X_copy_72 ic_2 ?_
          obtain ⟨r_324, v_findings_325, hc_326, hf⟩ := kb2_some hf
          refine k_cvi (w1 := (wd_X_finding D h h_here h_kept h_trial h_parts h_text h_sheets h_findings v_isKept v_findings_325)) (r := r_324) (ws' := (wd_X_copy D h h_here h_kept h_trial h_parts h_text h_sheets h_findings h_sheets_0 h_sheets_1 h_sheets_2 h_sheets_3 h_sheets_0_numbers h_sheets_1_numbers h_sheets_2_numbers h_sheets_3_numbers v_isKept v_sheets_0_bits v_sheets_0_size v_sheets_0_numbers v_sheets_1_bits v_sheets_1_size v_sheets_1_numbers v_sheets_2_bits v_sheets_2_size v_sheets_2_numbers v_sheets_3_bits v_sheets_3_size v_sheets_3_numbers v_findings_325)) X hV hl.1 (c_X_finding D h h_here h_kept h_trial h_parts h_text h_sheets h_findings v_isKept v_findings (2 : Int32) hc_326) fk_X_finding gw_283 rfl 0 8 rfl rfl [0, 10] [some 0, none, none, none, none, none, none, none, none, none, some 1] rfl rfl ⟨rfl, rfl, rfl, rfl, rfl, rfl, rfl, rfl, rfl, rfl, rfl, rfl, rfl, rfl, rfl, trivial⟩ rfl rfl rfl d_X_copy_73 (fun H locs hV => ?_)
          have e_ := Option.some.inj hf
          subst e_
          exact k_iret X rfl hV rfl d_X_copy_76
        replace hf := kifn c_315 hf
        exact t_X_copy_2 X hf hV (lv_sub hl [0] rfl)
      replace hfs_282 := kifn c_312 hfs_282
      by_cases c_327 : x3 = 3
      · replace hfs_282 := kifp c_327 hfs_282
        subst c_327
        have hf := hfs_282
        have hV := hVs_282
        have hl := hls_282
        refine k_aald (q := h_sheets_3) X hV 1 2 rfl rfl kin_3_4 rfl d_X_copy_37 ?_
        obtain ⟨r_328, hc_329, hf⟩ := kb1_some hf
        refine k_cvi (w1 := (wd_Sh_isMissing D h_sheets_3 h_sheets_3_numbers v_sheets_3_bits v_sheets_3_size)) (r := r_328) (ws' := (wd_X_copy D h h_here h_kept h_trial h_parts h_text h_sheets h_findings h_sheets_0 h_sheets_1 h_sheets_2 h_sheets_3 h_sheets_0_numbers h_sheets_1_numbers h_sheets_2_numbers h_sheets_3_numbers v_isKept v_sheets_0_bits v_sheets_0_size v_sheets_0_numbers v_sheets_1_bits v_sheets_1_size v_sheets_1_numbers v_sheets_2_bits v_sheets_2_size v_sheets_2_numbers v_sheets_3_bits v_sheets_3_size v_sheets_3_numbers v_findings)) X hV hl.1 (c_Sh_isMissing D h_sheets_3 h_sheets_3_numbers v_sheets_3_bits v_sheets_3_size hc_329) fk_Sh_isMissing gw_815 rfl 8 4 rfl rfl [8] [none, none, none, none, none, none, none, none, some 0, none, none] rfl rfl ⟨rfl, rfl, rfl, rfl, rfl, rfl, rfl, rfl, rfl, rfl, rfl, rfl, rfl, trivial⟩ rfl rfl rfl d_X_copy_38 (fun H locs hV => ?_)
        refine lv_if_eq (tgt := 50) hx hb d_X_copy_41 (by decide) (fun c_330 => ?_) (fun c_330 => ?_)
        · replace hf := kifp c_330 hf
          refine lv_aload_n hx hb d_X_copy_50 rfl (lv_at hl 0 rfl) ?_
          refine k_get X hV 0 8 5 rfl rfl rfl gw_253 rfl rfl d_X_copy_51 ?_
          refine lv_iload_n hx hb d_X_copy_54 rfl (lv_at hl 1 rfl) ?_
          refine k_aald (q := h_sheets_0) X hV 1 2 rfl rfl kin_0_4 rfl d_X_copy_55 ?_
          refine k_get X hV 2 4 1 rfl rfl rfl gw_238 rfl rfl d_X_copy_56 ?_
          refine lv_aload_n hx hb d_X_copy_59 rfl (lv_at hl 0 rfl) ?_
          refine k_get X hV 0 8 5 rfl rfl rfl gw_253 rfl rfl d_X_copy_60 ?_
          refine lv_iload_n hx hb d_X_copy_63 rfl (lv_at hl 3 rfl) ?_
          refine k_aald (q := h_sheets_3) X hV 1 2 rfl rfl kin_3_4 rfl d_X_copy_64 ?_
          refine k_get X hV 8 4 1 rfl rfl rfl gw_238 rfl rfl d_X_copy_65 ?_
          refine lv_icmp_eq (tgt := 77) hx hb d_X_copy_68 (by decide) (fun c_331 => ?_) (fun c_331 => ?_)
          · replace hf := kifp c_331 hf
            refine lv_aload_n hx hb d_X_copy_77 rfl (lv_at hl 0 rfl) ?_
            refine k_get X hV 0 8 5 rfl rfl rfl gw_253 rfl rfl d_X_copy_78 ?_
            refine lv_iload_n hx hb d_X_copy_81 rfl (lv_at hl 1 rfl) ?_
            refine k_aald (q := h_sheets_0) X hV 1 2 rfl rfl kin_0_4 rfl d_X_copy_82 ?_
            refine lv_iload_n hx hb d_X_copy_83 rfl (lv_at hl 2 rfl) ?_
            refine lv_iload hx hb d_X_copy_84 (lv_at hl 5 rfl) ?_
            obtain ⟨r_332, hc_333, hf⟩ := kb1_some hf
            refine k_cvi (w1 := (wd_Sh_hasRun D h_sheets_0 h_sheets_0_numbers v_sheets_0_bits v_sheets_0_size)) (r := r_332) (ws' := (wd_X_copy D h h_here h_kept h_trial h_parts h_text h_sheets h_findings h_sheets_0 h_sheets_1 h_sheets_2 h_sheets_3 h_sheets_0_numbers h_sheets_1_numbers h_sheets_2_numbers h_sheets_3_numbers v_isKept v_sheets_0_bits v_sheets_0_size v_sheets_0_numbers v_sheets_1_bits v_sheets_1_size v_sheets_1_numbers v_sheets_2_bits v_sheets_2_size v_sheets_2_numbers v_sheets_3_bits v_sheets_3_size v_sheets_3_numbers v_findings)) X hV hl.1 (c_Sh_hasRun D h_sheets_0 h_sheets_0_numbers v_sheets_0_bits v_sheets_0_size x2 x5 hc_333) fk_Sh_hasRun gw_828 rfl 2 4 rfl rfl [2] [none, none, some 0, none, none, none, none, none, none, none, none] rfl rfl ⟨rfl, rfl, rfl, rfl, rfl, rfl, rfl, rfl, rfl, rfl, rfl, rfl, rfl, trivial⟩ rfl rfl rfl d_X_copy_86 (fun H locs hV => ?_)
            refine lv_if_eq (tgt := 108) hx hb d_X_copy_89 (by decide) (fun c_334 => ?_) (fun c_334 => ?_)
            · replace hf := kifp c_334 hf
              exact t_X_copy_3 X hf hV (lv_sub hl [0] rfl)
            replace hf := kifn c_334 hf
            refine lv_aload_n hx hb d_X_copy_92 rfl (lv_at hl 0 rfl) ?_
            refine k_get X hV 0 8 5 rfl rfl rfl gw_253 rfl rfl d_X_copy_93 ?_
            refine lv_iload_n hx hb d_X_copy_96 rfl (lv_at hl 3 rfl) ?_
            refine k_aald (q := h_sheets_3) X hV 1 2 rfl rfl kin_3_4 rfl d_X_copy_97 ?_
            refine lv_iload hx hb d_X_copy_98 (lv_at hl 4 rfl) ?_
            refine lv_iload hx hb d_X_copy_100 (lv_at hl 5 rfl) ?_
            obtain ⟨r_335, hc_336, hf⟩ := kb1_some hf
            refine k_cvi (w1 := (wd_Sh_hasRun D h_sheets_3 h_sheets_3_numbers v_sheets_3_bits v_sheets_3_size)) (r := r_335) (ws' := (wd_X_copy D h h_here h_kept h_trial h_parts h_text h_sheets h_findings h_sheets_0 h_sheets_1 h_sheets_2 h_sheets_3 h_sheets_0_numbers h_sheets_1_numbers h_sheets_2_numbers h_sheets_3_numbers v_isKept v_sheets_0_bits v_sheets_0_size v_sheets_0_numbers v_sheets_1_bits v_sheets_1_size v_sheets_1_numbers v_sheets_2_bits v_sheets_2_size v_sheets_2_numbers v_sheets_3_bits v_sheets_3_size v_sheets_3_numbers v_findings)) X hV hl.1 (c_Sh_hasRun D h_sheets_3 h_sheets_3_numbers v_sheets_3_bits v_sheets_3_size x4 x5 hc_336) fk_Sh_hasRun gw_828 rfl 8 4 rfl rfl [8] [none, none, none, none, none, none, none, none, some 0, none, none] rfl rfl ⟨rfl, rfl, rfl, rfl, rfl, rfl, rfl, rfl, rfl, rfl, rfl, rfl, rfl, trivial⟩ rfl rfl rfl d_X_copy_102 (fun H locs hV => ?_)
            refine lv_if_ne (tgt := 114) hx hb d_X_copy_105 (by decide) (fun c_337 => ?_) (fun c_337 => ?_)
            · replace hf := kifn c_337 hf
              refine lv_aload_n hx hb d_X_copy_114 rfl (lv_at hl 0 rfl) ?_
              refine k_get X hV 0 8 5 rfl rfl rfl gw_253 rfl rfl d_X_copy_115 ?_
              refine lv_iload_n hx hb d_X_copy_118 rfl (lv_at hl 1 rfl) ?_
              refine k_aald (q := h_sheets_0) X hV 1 2 rfl rfl kin_0_4 rfl d_X_copy_119 ?_
              refine k_get X hV 2 4 0 rfl rfl rfl gw_236 rfl rfl d_X_copy_120 ?_
              refine lv_iload_n hx hb d_X_copy_123 rfl (lv_at hl 2 rfl) ?_
              refine lv_aload_n hx hb d_X_copy_124 rfl (lv_at hl 0 rfl) ?_
              refine k_get X hV 0 8 5 rfl rfl rfl gw_253 rfl rfl d_X_copy_125 ?_
              refine lv_iload_n hx hb d_X_copy_128 rfl (lv_at hl 3 rfl) ?_
              refine k_aald (q := h_sheets_3) X hV 1 2 rfl rfl kin_3_4 rfl d_X_copy_129 ?_
              refine k_get X hV 8 4 0 rfl rfl rfl gw_236 rfl rfl d_X_copy_130 ?_
              refine lv_iload hx hb d_X_copy_133 (lv_at hl 4 rfl) ?_
              refine lv_iload hx hb d_X_copy_135 (lv_at hl 5 rfl) ?_
              obtain ⟨h_338, hf⟩ := kchk hf
              refine k_copyl (ws' := (wd_X_copy D h h_here h_kept h_trial h_parts h_text h_sheets h_findings h_sheets_0 h_sheets_1 h_sheets_2 h_sheets_3 h_sheets_0_numbers h_sheets_1_numbers h_sheets_2_numbers h_sheets_3_numbers v_isKept v_sheets_0_bits v_sheets_0_size v_sheets_0_numbers v_sheets_1_bits v_sheets_1_size v_sheets_1_numbers v_sheets_2_bits v_sheets_2_size v_sheets_2_numbers v_sheets_3_bits v_sheets_3_size (va_cpy v_sheets_0_numbers v_sheets_3_numbers x2.toNatClampNeg x4.toNatClampNeg x5.toNatClampNeg) v_findings)) X hV hl.1 gw_832 3 9 rfl rfl h_338 rfl rfl rfl d_X_copy_137 (fun H locs hV => ?_)
              refine lv_iload hx hb d_X_copy_140 (lv_at hl 5 rfl) ?_
              have e_ := Option.some.inj hf
              subst e_
              exact k_iret X rfl hV rfl d_X_copy_142
            replace hf := kifp c_337 hf
            exact t_X_copy_3 X hf hV (lv_sub hl [0] rfl)
          replace hf := kifn c_331 hf
          refine lv_aload_n hx hb d_X_copy_71 rfl (lv_at hl 0 rfl) ?_
          refine lv_iconst (v := 2) hx hb d_X_copy_72 ic_2 ?_
          obtain ⟨r_339, v_findings_340, hc_341, hf⟩ := kb2_some hf
          refine k_cvi (w1 := (wd_X_finding D h h_here h_kept h_trial h_parts h_text h_sheets h_findings v_isKept v_findings_340)) (r := r_339) (ws' := (wd_X_copy D h h_here h_kept h_trial h_parts h_text h_sheets h_findings h_sheets_0 h_sheets_1 h_sheets_2 h_sheets_3 h_sheets_0_numbers h_sheets_1_numbers h_sheets_2_numbers h_sheets_3_numbers v_isKept v_sheets_0_bits v_sheets_0_size v_sheets_0_numbers v_sheets_1_bits v_sheets_1_size v_sheets_1_numbers v_sheets_2_bits v_sheets_2_size v_sheets_2_numbers v_sheets_3_bits v_sheets_3_size v_sheets_3_numbers v_findings_340)) X hV hl.1 (c_X_finding D h h_here h_kept h_trial h_parts h_text h_sheets h_findings v_isKept v_findings (2 : Int32) hc_341) fk_X_finding gw_283 rfl 0 8 rfl rfl [0, 10] [some 0, none, none, none, none, none, none, none, none, none, some 1] rfl rfl ⟨rfl, rfl, rfl, rfl, rfl, rfl, rfl, rfl, rfl, rfl, rfl, rfl, rfl, rfl, rfl, trivial⟩ rfl rfl rfl d_X_copy_73 (fun H locs hV => ?_)
          have e_ := Option.some.inj hf
          subst e_
          exact k_iret X rfl hV rfl d_X_copy_76
        replace hf := kifn c_330 hf
        exact t_X_copy_2 X hf hV (lv_sub hl [0] rfl)
      replace hfs_282 := kifn c_327 hfs_282
      exact knone hfs_282
    replace hfs_278 := kifn c_278 hfs_278
    by_cases c_342 : x1 = 1
    · replace hfs_278 := kifp c_342 hfs_278
      subst c_342
      have hf := hfs_278
      have hV := hVs_278
      have hl := hls_278
      refine k_aald (q := h_sheets_1) X hV 1 2 rfl rfl kin_1_4 rfl d_X_copy_25 ?_
      obtain ⟨r_343, hc_344, hf⟩ := kb1_some hf
      refine k_cvi (w1 := (wd_Sh_isMissing D h_sheets_1 h_sheets_1_numbers v_sheets_1_bits v_sheets_1_size)) (r := r_343) (ws' := (wd_X_copy D h h_here h_kept h_trial h_parts h_text h_sheets h_findings h_sheets_0 h_sheets_1 h_sheets_2 h_sheets_3 h_sheets_0_numbers h_sheets_1_numbers h_sheets_2_numbers h_sheets_3_numbers v_isKept v_sheets_0_bits v_sheets_0_size v_sheets_0_numbers v_sheets_1_bits v_sheets_1_size v_sheets_1_numbers v_sheets_2_bits v_sheets_2_size v_sheets_2_numbers v_sheets_3_bits v_sheets_3_size v_sheets_3_numbers v_findings)) X hV hl.1 (c_Sh_isMissing D h_sheets_1 h_sheets_1_numbers v_sheets_1_bits v_sheets_1_size hc_344) fk_Sh_isMissing gw_815 rfl 4 4 rfl rfl [4] [none, none, none, none, some 0, none, none, none, none, none, none] rfl rfl ⟨rfl, rfl, rfl, rfl, rfl, rfl, rfl, rfl, rfl, rfl, rfl, rfl, rfl, trivial⟩ rfl rfl rfl d_X_copy_26 (fun H locs hV => ?_)
      refine lv_if_ne (tgt := 44) hx hb d_X_copy_29 (by decide) (fun c_345 => ?_) (fun c_345 => ?_)
      · replace hf := kifn c_345 hf
        exact t_X_copy_2 X hf hV (lv_sub hl [0] rfl)
      replace hf := kifp c_345 hf
      refine lv_aload_n hx hb d_X_copy_32 rfl (lv_at hl 0 rfl) ?_
      refine k_get X hV 0 8 5 rfl rfl rfl gw_253 rfl rfl d_X_copy_33 ?_
      refine lv_iload_n hx hb d_X_copy_36 rfl (lv_at hl 3 rfl) ?_
      have hfs_346 := hf
      have hVs_346 := hV
      have hls_346 := hl
      by_cases c_346 : x3 = 0
      · replace hfs_346 := kifp c_346 hfs_346
        subst c_346
        have hf := hfs_346
        have hV := hVs_346
        have hl := hls_346
        refine k_aald (q := h_sheets_0) X hV 1 2 rfl rfl kin_0_4 rfl d_X_copy_37 ?_
        obtain ⟨r_347, hc_348, hf⟩ := kb1_some hf
        refine k_cvi (w1 := (wd_Sh_isMissing D h_sheets_0 h_sheets_0_numbers v_sheets_0_bits v_sheets_0_size)) (r := r_347) (ws' := (wd_X_copy D h h_here h_kept h_trial h_parts h_text h_sheets h_findings h_sheets_0 h_sheets_1 h_sheets_2 h_sheets_3 h_sheets_0_numbers h_sheets_1_numbers h_sheets_2_numbers h_sheets_3_numbers v_isKept v_sheets_0_bits v_sheets_0_size v_sheets_0_numbers v_sheets_1_bits v_sheets_1_size v_sheets_1_numbers v_sheets_2_bits v_sheets_2_size v_sheets_2_numbers v_sheets_3_bits v_sheets_3_size v_sheets_3_numbers v_findings)) X hV hl.1 (c_Sh_isMissing D h_sheets_0 h_sheets_0_numbers v_sheets_0_bits v_sheets_0_size hc_348) fk_Sh_isMissing gw_815 rfl 2 4 rfl rfl [2] [none, none, some 0, none, none, none, none, none, none, none, none] rfl rfl ⟨rfl, rfl, rfl, rfl, rfl, rfl, rfl, rfl, rfl, rfl, rfl, rfl, rfl, trivial⟩ rfl rfl rfl d_X_copy_38 (fun H locs hV => ?_)
        refine lv_if_eq (tgt := 50) hx hb d_X_copy_41 (by decide) (fun c_349 => ?_) (fun c_349 => ?_)
        · replace hf := kifp c_349 hf
          refine lv_aload_n hx hb d_X_copy_50 rfl (lv_at hl 0 rfl) ?_
          refine k_get X hV 0 8 5 rfl rfl rfl gw_253 rfl rfl d_X_copy_51 ?_
          refine lv_iload_n hx hb d_X_copy_54 rfl (lv_at hl 1 rfl) ?_
          refine k_aald (q := h_sheets_1) X hV 1 2 rfl rfl kin_1_4 rfl d_X_copy_55 ?_
          refine k_get X hV 4 4 1 rfl rfl rfl gw_238 rfl rfl d_X_copy_56 ?_
          refine lv_aload_n hx hb d_X_copy_59 rfl (lv_at hl 0 rfl) ?_
          refine k_get X hV 0 8 5 rfl rfl rfl gw_253 rfl rfl d_X_copy_60 ?_
          refine lv_iload_n hx hb d_X_copy_63 rfl (lv_at hl 3 rfl) ?_
          refine k_aald (q := h_sheets_0) X hV 1 2 rfl rfl kin_0_4 rfl d_X_copy_64 ?_
          refine k_get X hV 2 4 1 rfl rfl rfl gw_238 rfl rfl d_X_copy_65 ?_
          refine lv_icmp_eq (tgt := 77) hx hb d_X_copy_68 (by decide) (fun c_350 => ?_) (fun c_350 => ?_)
          · replace hf := kifp c_350 hf
            refine lv_aload_n hx hb d_X_copy_77 rfl (lv_at hl 0 rfl) ?_
            refine k_get X hV 0 8 5 rfl rfl rfl gw_253 rfl rfl d_X_copy_78 ?_
            refine lv_iload_n hx hb d_X_copy_81 rfl (lv_at hl 1 rfl) ?_
            refine k_aald (q := h_sheets_1) X hV 1 2 rfl rfl kin_1_4 rfl d_X_copy_82 ?_
            refine lv_iload_n hx hb d_X_copy_83 rfl (lv_at hl 2 rfl) ?_
            refine lv_iload hx hb d_X_copy_84 (lv_at hl 5 rfl) ?_
            obtain ⟨r_351, hc_352, hf⟩ := kb1_some hf
            refine k_cvi (w1 := (wd_Sh_hasRun D h_sheets_1 h_sheets_1_numbers v_sheets_1_bits v_sheets_1_size)) (r := r_351) (ws' := (wd_X_copy D h h_here h_kept h_trial h_parts h_text h_sheets h_findings h_sheets_0 h_sheets_1 h_sheets_2 h_sheets_3 h_sheets_0_numbers h_sheets_1_numbers h_sheets_2_numbers h_sheets_3_numbers v_isKept v_sheets_0_bits v_sheets_0_size v_sheets_0_numbers v_sheets_1_bits v_sheets_1_size v_sheets_1_numbers v_sheets_2_bits v_sheets_2_size v_sheets_2_numbers v_sheets_3_bits v_sheets_3_size v_sheets_3_numbers v_findings)) X hV hl.1 (c_Sh_hasRun D h_sheets_1 h_sheets_1_numbers v_sheets_1_bits v_sheets_1_size x2 x5 hc_352) fk_Sh_hasRun gw_828 rfl 4 4 rfl rfl [4] [none, none, none, none, some 0, none, none, none, none, none, none] rfl rfl ⟨rfl, rfl, rfl, rfl, rfl, rfl, rfl, rfl, rfl, rfl, rfl, rfl, rfl, trivial⟩ rfl rfl rfl d_X_copy_86 (fun H locs hV => ?_)
            refine lv_if_eq (tgt := 108) hx hb d_X_copy_89 (by decide) (fun c_353 => ?_) (fun c_353 => ?_)
            · replace hf := kifp c_353 hf
              exact t_X_copy_3 X hf hV (lv_sub hl [0] rfl)
            replace hf := kifn c_353 hf
            refine lv_aload_n hx hb d_X_copy_92 rfl (lv_at hl 0 rfl) ?_
            refine k_get X hV 0 8 5 rfl rfl rfl gw_253 rfl rfl d_X_copy_93 ?_
            refine lv_iload_n hx hb d_X_copy_96 rfl (lv_at hl 3 rfl) ?_
            refine k_aald (q := h_sheets_0) X hV 1 2 rfl rfl kin_0_4 rfl d_X_copy_97 ?_
            refine lv_iload hx hb d_X_copy_98 (lv_at hl 4 rfl) ?_
            refine lv_iload hx hb d_X_copy_100 (lv_at hl 5 rfl) ?_
            obtain ⟨r_354, hc_355, hf⟩ := kb1_some hf
            refine k_cvi (w1 := (wd_Sh_hasRun D h_sheets_0 h_sheets_0_numbers v_sheets_0_bits v_sheets_0_size)) (r := r_354) (ws' := (wd_X_copy D h h_here h_kept h_trial h_parts h_text h_sheets h_findings h_sheets_0 h_sheets_1 h_sheets_2 h_sheets_3 h_sheets_0_numbers h_sheets_1_numbers h_sheets_2_numbers h_sheets_3_numbers v_isKept v_sheets_0_bits v_sheets_0_size v_sheets_0_numbers v_sheets_1_bits v_sheets_1_size v_sheets_1_numbers v_sheets_2_bits v_sheets_2_size v_sheets_2_numbers v_sheets_3_bits v_sheets_3_size v_sheets_3_numbers v_findings)) X hV hl.1 (c_Sh_hasRun D h_sheets_0 h_sheets_0_numbers v_sheets_0_bits v_sheets_0_size x4 x5 hc_355) fk_Sh_hasRun gw_828 rfl 2 4 rfl rfl [2] [none, none, some 0, none, none, none, none, none, none, none, none] rfl rfl ⟨rfl, rfl, rfl, rfl, rfl, rfl, rfl, rfl, rfl, rfl, rfl, rfl, rfl, trivial⟩ rfl rfl rfl d_X_copy_102 (fun H locs hV => ?_)
            refine lv_if_ne (tgt := 114) hx hb d_X_copy_105 (by decide) (fun c_356 => ?_) (fun c_356 => ?_)
            · replace hf := kifn c_356 hf
              refine lv_aload_n hx hb d_X_copy_114 rfl (lv_at hl 0 rfl) ?_
              refine k_get X hV 0 8 5 rfl rfl rfl gw_253 rfl rfl d_X_copy_115 ?_
              refine lv_iload_n hx hb d_X_copy_118 rfl (lv_at hl 1 rfl) ?_
              refine k_aald (q := h_sheets_1) X hV 1 2 rfl rfl kin_1_4 rfl d_X_copy_119 ?_
              refine k_get X hV 4 4 0 rfl rfl rfl gw_236 rfl rfl d_X_copy_120 ?_
              refine lv_iload_n hx hb d_X_copy_123 rfl (lv_at hl 2 rfl) ?_
              refine lv_aload_n hx hb d_X_copy_124 rfl (lv_at hl 0 rfl) ?_
              refine k_get X hV 0 8 5 rfl rfl rfl gw_253 rfl rfl d_X_copy_125 ?_
              refine lv_iload_n hx hb d_X_copy_128 rfl (lv_at hl 3 rfl) ?_
              refine k_aald (q := h_sheets_0) X hV 1 2 rfl rfl kin_0_4 rfl d_X_copy_129 ?_
              refine k_get X hV 2 4 0 rfl rfl rfl gw_236 rfl rfl d_X_copy_130 ?_
              refine lv_iload hx hb d_X_copy_133 (lv_at hl 4 rfl) ?_
              refine lv_iload hx hb d_X_copy_135 (lv_at hl 5 rfl) ?_
              obtain ⟨h_357, hf⟩ := kchk hf
              refine k_copyl (ws' := (wd_X_copy D h h_here h_kept h_trial h_parts h_text h_sheets h_findings h_sheets_0 h_sheets_1 h_sheets_2 h_sheets_3 h_sheets_0_numbers h_sheets_1_numbers h_sheets_2_numbers h_sheets_3_numbers v_isKept v_sheets_0_bits v_sheets_0_size (va_cpy v_sheets_1_numbers v_sheets_0_numbers x2.toNatClampNeg x4.toNatClampNeg x5.toNatClampNeg) v_sheets_1_bits v_sheets_1_size v_sheets_1_numbers v_sheets_2_bits v_sheets_2_size v_sheets_2_numbers v_sheets_3_bits v_sheets_3_size v_sheets_3_numbers v_findings)) X hV hl.1 gw_832 5 3 rfl rfl h_357 rfl rfl rfl d_X_copy_137 (fun H locs hV => ?_)
              refine lv_iload hx hb d_X_copy_140 (lv_at hl 5 rfl) ?_
              have e_ := Option.some.inj hf
              subst e_
              exact k_iret X rfl hV rfl d_X_copy_142
            replace hf := kifp c_356 hf
            exact t_X_copy_3 X hf hV (lv_sub hl [0] rfl)
          replace hf := kifn c_350 hf
          refine lv_aload_n hx hb d_X_copy_71 rfl (lv_at hl 0 rfl) ?_
          refine lv_iconst (v := 2) hx hb d_X_copy_72 ic_2 ?_
          obtain ⟨r_358, v_findings_359, hc_360, hf⟩ := kb2_some hf
          refine k_cvi (w1 := (wd_X_finding D h h_here h_kept h_trial h_parts h_text h_sheets h_findings v_isKept v_findings_359)) (r := r_358) (ws' := (wd_X_copy D h h_here h_kept h_trial h_parts h_text h_sheets h_findings h_sheets_0 h_sheets_1 h_sheets_2 h_sheets_3 h_sheets_0_numbers h_sheets_1_numbers h_sheets_2_numbers h_sheets_3_numbers v_isKept v_sheets_0_bits v_sheets_0_size v_sheets_0_numbers v_sheets_1_bits v_sheets_1_size v_sheets_1_numbers v_sheets_2_bits v_sheets_2_size v_sheets_2_numbers v_sheets_3_bits v_sheets_3_size v_sheets_3_numbers v_findings_359)) X hV hl.1 (c_X_finding D h h_here h_kept h_trial h_parts h_text h_sheets h_findings v_isKept v_findings (2 : Int32) hc_360) fk_X_finding gw_283 rfl 0 8 rfl rfl [0, 10] [some 0, none, none, none, none, none, none, none, none, none, some 1] rfl rfl ⟨rfl, rfl, rfl, rfl, rfl, rfl, rfl, rfl, rfl, rfl, rfl, rfl, rfl, rfl, rfl, trivial⟩ rfl rfl rfl d_X_copy_73 (fun H locs hV => ?_)
          have e_ := Option.some.inj hf
          subst e_
          exact k_iret X rfl hV rfl d_X_copy_76
        replace hf := kifn c_349 hf
        exact t_X_copy_2 X hf hV (lv_sub hl [0] rfl)
      replace hfs_346 := kifn c_346 hfs_346
      by_cases c_361 : x3 = 1
      · replace hfs_346 := kifp c_361 hfs_346
        subst c_361
        have hf := hfs_346
        have hV := hVs_346
        have hl := hls_346
        refine k_aald (q := h_sheets_1) X hV 1 2 rfl rfl kin_1_4 rfl d_X_copy_37 ?_
        obtain ⟨r_362, hc_363, hf⟩ := kb1_some hf
        refine k_cvi (w1 := (wd_Sh_isMissing D h_sheets_1 h_sheets_1_numbers v_sheets_1_bits v_sheets_1_size)) (r := r_362) (ws' := (wd_X_copy D h h_here h_kept h_trial h_parts h_text h_sheets h_findings h_sheets_0 h_sheets_1 h_sheets_2 h_sheets_3 h_sheets_0_numbers h_sheets_1_numbers h_sheets_2_numbers h_sheets_3_numbers v_isKept v_sheets_0_bits v_sheets_0_size v_sheets_0_numbers v_sheets_1_bits v_sheets_1_size v_sheets_1_numbers v_sheets_2_bits v_sheets_2_size v_sheets_2_numbers v_sheets_3_bits v_sheets_3_size v_sheets_3_numbers v_findings)) X hV hl.1 (c_Sh_isMissing D h_sheets_1 h_sheets_1_numbers v_sheets_1_bits v_sheets_1_size hc_363) fk_Sh_isMissing gw_815 rfl 4 4 rfl rfl [4] [none, none, none, none, some 0, none, none, none, none, none, none] rfl rfl ⟨rfl, rfl, rfl, rfl, rfl, rfl, rfl, rfl, rfl, rfl, rfl, rfl, rfl, trivial⟩ rfl rfl rfl d_X_copy_38 (fun H locs hV => ?_)
        refine lv_if_eq (tgt := 50) hx hb d_X_copy_41 (by decide) (fun c_364 => ?_) (fun c_364 => ?_)
        · replace hf := kifp c_364 hf
          refine lv_aload_n hx hb d_X_copy_50 rfl (lv_at hl 0 rfl) ?_
          refine k_get X hV 0 8 5 rfl rfl rfl gw_253 rfl rfl d_X_copy_51 ?_
          refine lv_iload_n hx hb d_X_copy_54 rfl (lv_at hl 1 rfl) ?_
          refine k_aald (q := h_sheets_1) X hV 1 2 rfl rfl kin_1_4 rfl d_X_copy_55 ?_
          refine k_get X hV 4 4 1 rfl rfl rfl gw_238 rfl rfl d_X_copy_56 ?_
          refine lv_aload_n hx hb d_X_copy_59 rfl (lv_at hl 0 rfl) ?_
          refine k_get X hV 0 8 5 rfl rfl rfl gw_253 rfl rfl d_X_copy_60 ?_
          refine lv_iload_n hx hb d_X_copy_63 rfl (lv_at hl 3 rfl) ?_
          refine k_aald (q := h_sheets_1) X hV 1 2 rfl rfl kin_1_4 rfl d_X_copy_64 ?_
          refine k_get X hV 4 4 1 rfl rfl rfl gw_238 rfl rfl d_X_copy_65 ?_
          refine lv_icmp_eq (tgt := 77) hx hb d_X_copy_68 (by decide) (fun c_365 => ?_) (fun c_365 => ?_)
          · replace hf := kifp c_365 hf
            refine lv_aload_n hx hb d_X_copy_77 rfl (lv_at hl 0 rfl) ?_
            refine k_get X hV 0 8 5 rfl rfl rfl gw_253 rfl rfl d_X_copy_78 ?_
            refine lv_iload_n hx hb d_X_copy_81 rfl (lv_at hl 1 rfl) ?_
            refine k_aald (q := h_sheets_1) X hV 1 2 rfl rfl kin_1_4 rfl d_X_copy_82 ?_
            refine lv_iload_n hx hb d_X_copy_83 rfl (lv_at hl 2 rfl) ?_
            refine lv_iload hx hb d_X_copy_84 (lv_at hl 5 rfl) ?_
            obtain ⟨r_366, hc_367, hf⟩ := kb1_some hf
            refine k_cvi (w1 := (wd_Sh_hasRun D h_sheets_1 h_sheets_1_numbers v_sheets_1_bits v_sheets_1_size)) (r := r_366) (ws' := (wd_X_copy D h h_here h_kept h_trial h_parts h_text h_sheets h_findings h_sheets_0 h_sheets_1 h_sheets_2 h_sheets_3 h_sheets_0_numbers h_sheets_1_numbers h_sheets_2_numbers h_sheets_3_numbers v_isKept v_sheets_0_bits v_sheets_0_size v_sheets_0_numbers v_sheets_1_bits v_sheets_1_size v_sheets_1_numbers v_sheets_2_bits v_sheets_2_size v_sheets_2_numbers v_sheets_3_bits v_sheets_3_size v_sheets_3_numbers v_findings)) X hV hl.1 (c_Sh_hasRun D h_sheets_1 h_sheets_1_numbers v_sheets_1_bits v_sheets_1_size x2 x5 hc_367) fk_Sh_hasRun gw_828 rfl 4 4 rfl rfl [4] [none, none, none, none, some 0, none, none, none, none, none, none] rfl rfl ⟨rfl, rfl, rfl, rfl, rfl, rfl, rfl, rfl, rfl, rfl, rfl, rfl, rfl, trivial⟩ rfl rfl rfl d_X_copy_86 (fun H locs hV => ?_)
            refine lv_if_eq (tgt := 108) hx hb d_X_copy_89 (by decide) (fun c_368 => ?_) (fun c_368 => ?_)
            · replace hf := kifp c_368 hf
              exact t_X_copy_3 X hf hV (lv_sub hl [0] rfl)
            replace hf := kifn c_368 hf
            refine lv_aload_n hx hb d_X_copy_92 rfl (lv_at hl 0 rfl) ?_
            refine k_get X hV 0 8 5 rfl rfl rfl gw_253 rfl rfl d_X_copy_93 ?_
            refine lv_iload_n hx hb d_X_copy_96 rfl (lv_at hl 3 rfl) ?_
            refine k_aald (q := h_sheets_1) X hV 1 2 rfl rfl kin_1_4 rfl d_X_copy_97 ?_
            refine lv_iload hx hb d_X_copy_98 (lv_at hl 4 rfl) ?_
            refine lv_iload hx hb d_X_copy_100 (lv_at hl 5 rfl) ?_
            obtain ⟨r_369, hc_370, hf⟩ := kb1_some hf
            refine k_cvi (w1 := (wd_Sh_hasRun D h_sheets_1 h_sheets_1_numbers v_sheets_1_bits v_sheets_1_size)) (r := r_369) (ws' := (wd_X_copy D h h_here h_kept h_trial h_parts h_text h_sheets h_findings h_sheets_0 h_sheets_1 h_sheets_2 h_sheets_3 h_sheets_0_numbers h_sheets_1_numbers h_sheets_2_numbers h_sheets_3_numbers v_isKept v_sheets_0_bits v_sheets_0_size v_sheets_0_numbers v_sheets_1_bits v_sheets_1_size v_sheets_1_numbers v_sheets_2_bits v_sheets_2_size v_sheets_2_numbers v_sheets_3_bits v_sheets_3_size v_sheets_3_numbers v_findings)) X hV hl.1 (c_Sh_hasRun D h_sheets_1 h_sheets_1_numbers v_sheets_1_bits v_sheets_1_size x4 x5 hc_370) fk_Sh_hasRun gw_828 rfl 4 4 rfl rfl [4] [none, none, none, none, some 0, none, none, none, none, none, none] rfl rfl ⟨rfl, rfl, rfl, rfl, rfl, rfl, rfl, rfl, rfl, rfl, rfl, rfl, rfl, trivial⟩ rfl rfl rfl d_X_copy_102 (fun H locs hV => ?_)
            refine lv_if_ne (tgt := 114) hx hb d_X_copy_105 (by decide) (fun c_371 => ?_) (fun c_371 => ?_)
            · replace hf := kifn c_371 hf
              refine lv_aload_n hx hb d_X_copy_114 rfl (lv_at hl 0 rfl) ?_
              refine k_get X hV 0 8 5 rfl rfl rfl gw_253 rfl rfl d_X_copy_115 ?_
              refine lv_iload_n hx hb d_X_copy_118 rfl (lv_at hl 1 rfl) ?_
              refine k_aald (q := h_sheets_1) X hV 1 2 rfl rfl kin_1_4 rfl d_X_copy_119 ?_
              refine k_get X hV 4 4 0 rfl rfl rfl gw_236 rfl rfl d_X_copy_120 ?_
              refine lv_iload_n hx hb d_X_copy_123 rfl (lv_at hl 2 rfl) ?_
              refine lv_aload_n hx hb d_X_copy_124 rfl (lv_at hl 0 rfl) ?_
              refine k_get X hV 0 8 5 rfl rfl rfl gw_253 rfl rfl d_X_copy_125 ?_
              refine lv_iload_n hx hb d_X_copy_128 rfl (lv_at hl 3 rfl) ?_
              refine k_aald (q := h_sheets_1) X hV 1 2 rfl rfl kin_1_4 rfl d_X_copy_129 ?_
              refine k_get X hV 4 4 0 rfl rfl rfl gw_236 rfl rfl d_X_copy_130 ?_
              refine lv_iload hx hb d_X_copy_133 (lv_at hl 4 rfl) ?_
              refine lv_iload hx hb d_X_copy_135 (lv_at hl 5 rfl) ?_
              obtain ⟨h_372, hf⟩ := kchk hf
              refine k_copyl (ws' := (wd_X_copy D h h_here h_kept h_trial h_parts h_text h_sheets h_findings h_sheets_0 h_sheets_1 h_sheets_2 h_sheets_3 h_sheets_0_numbers h_sheets_1_numbers h_sheets_2_numbers h_sheets_3_numbers v_isKept v_sheets_0_bits v_sheets_0_size v_sheets_0_numbers v_sheets_1_bits v_sheets_1_size (va_cpy v_sheets_1_numbers v_sheets_1_numbers x2.toNatClampNeg x4.toNatClampNeg x5.toNatClampNeg) v_sheets_2_bits v_sheets_2_size v_sheets_2_numbers v_sheets_3_bits v_sheets_3_size v_sheets_3_numbers v_findings)) X hV hl.1 gw_832 5 5 rfl rfl h_372 rfl rfl rfl d_X_copy_137 (fun H locs hV => ?_)
              refine lv_iload hx hb d_X_copy_140 (lv_at hl 5 rfl) ?_
              have e_ := Option.some.inj hf
              subst e_
              exact k_iret X rfl hV rfl d_X_copy_142
            replace hf := kifp c_371 hf
            exact t_X_copy_3 X hf hV (lv_sub hl [0] rfl)
          replace hf := kifn c_365 hf
          refine lv_aload_n hx hb d_X_copy_71 rfl (lv_at hl 0 rfl) ?_
          refine lv_iconst (v := 2) hx hb d_X_copy_72 ic_2 ?_
          obtain ⟨r_373, v_findings_374, hc_375, hf⟩ := kb2_some hf
          refine k_cvi (w1 := (wd_X_finding D h h_here h_kept h_trial h_parts h_text h_sheets h_findings v_isKept v_findings_374)) (r := r_373) (ws' := (wd_X_copy D h h_here h_kept h_trial h_parts h_text h_sheets h_findings h_sheets_0 h_sheets_1 h_sheets_2 h_sheets_3 h_sheets_0_numbers h_sheets_1_numbers h_sheets_2_numbers h_sheets_3_numbers v_isKept v_sheets_0_bits v_sheets_0_size v_sheets_0_numbers v_sheets_1_bits v_sheets_1_size v_sheets_1_numbers v_sheets_2_bits v_sheets_2_size v_sheets_2_numbers v_sheets_3_bits v_sheets_3_size v_sheets_3_numbers v_findings_374)) X hV hl.1 (c_X_finding D h h_here h_kept h_trial h_parts h_text h_sheets h_findings v_isKept v_findings (2 : Int32) hc_375) fk_X_finding gw_283 rfl 0 8 rfl rfl [0, 10] [some 0, none, none, none, none, none, none, none, none, none, some 1] rfl rfl ⟨rfl, rfl, rfl, rfl, rfl, rfl, rfl, rfl, rfl, rfl, rfl, rfl, rfl, rfl, rfl, trivial⟩ rfl rfl rfl d_X_copy_73 (fun H locs hV => ?_)
          have e_ := Option.some.inj hf
          subst e_
          exact k_iret X rfl hV rfl d_X_copy_76
        replace hf := kifn c_364 hf
        exact t_X_copy_2 X hf hV (lv_sub hl [0] rfl)
      replace hfs_346 := kifn c_361 hfs_346
      by_cases c_376 : x3 = 2
      · replace hfs_346 := kifp c_376 hfs_346
        subst c_376
        have hf := hfs_346
        have hV := hVs_346
        have hl := hls_346
        refine k_aald (q := h_sheets_2) X hV 1 2 rfl rfl kin_2_4 rfl d_X_copy_37 ?_
        obtain ⟨r_377, hc_378, hf⟩ := kb1_some hf
        refine k_cvi (w1 := (wd_Sh_isMissing D h_sheets_2 h_sheets_2_numbers v_sheets_2_bits v_sheets_2_size)) (r := r_377) (ws' := (wd_X_copy D h h_here h_kept h_trial h_parts h_text h_sheets h_findings h_sheets_0 h_sheets_1 h_sheets_2 h_sheets_3 h_sheets_0_numbers h_sheets_1_numbers h_sheets_2_numbers h_sheets_3_numbers v_isKept v_sheets_0_bits v_sheets_0_size v_sheets_0_numbers v_sheets_1_bits v_sheets_1_size v_sheets_1_numbers v_sheets_2_bits v_sheets_2_size v_sheets_2_numbers v_sheets_3_bits v_sheets_3_size v_sheets_3_numbers v_findings)) X hV hl.1 (c_Sh_isMissing D h_sheets_2 h_sheets_2_numbers v_sheets_2_bits v_sheets_2_size hc_378) fk_Sh_isMissing gw_815 rfl 6 4 rfl rfl [6] [none, none, none, none, none, none, some 0, none, none, none, none] rfl rfl ⟨rfl, rfl, rfl, rfl, rfl, rfl, rfl, rfl, rfl, rfl, rfl, rfl, rfl, trivial⟩ rfl rfl rfl d_X_copy_38 (fun H locs hV => ?_)
        refine lv_if_eq (tgt := 50) hx hb d_X_copy_41 (by decide) (fun c_379 => ?_) (fun c_379 => ?_)
        · replace hf := kifp c_379 hf
          refine lv_aload_n hx hb d_X_copy_50 rfl (lv_at hl 0 rfl) ?_
          refine k_get X hV 0 8 5 rfl rfl rfl gw_253 rfl rfl d_X_copy_51 ?_
          refine lv_iload_n hx hb d_X_copy_54 rfl (lv_at hl 1 rfl) ?_
          refine k_aald (q := h_sheets_1) X hV 1 2 rfl rfl kin_1_4 rfl d_X_copy_55 ?_
          refine k_get X hV 4 4 1 rfl rfl rfl gw_238 rfl rfl d_X_copy_56 ?_
          refine lv_aload_n hx hb d_X_copy_59 rfl (lv_at hl 0 rfl) ?_
          refine k_get X hV 0 8 5 rfl rfl rfl gw_253 rfl rfl d_X_copy_60 ?_
          refine lv_iload_n hx hb d_X_copy_63 rfl (lv_at hl 3 rfl) ?_
          refine k_aald (q := h_sheets_2) X hV 1 2 rfl rfl kin_2_4 rfl d_X_copy_64 ?_
          refine k_get X hV 6 4 1 rfl rfl rfl gw_238 rfl rfl d_X_copy_65 ?_
          refine lv_icmp_eq (tgt := 77) hx hb d_X_copy_68 (by decide) (fun c_380 => ?_) (fun c_380 => ?_)
          · replace hf := kifp c_380 hf
            refine lv_aload_n hx hb d_X_copy_77 rfl (lv_at hl 0 rfl) ?_
            refine k_get X hV 0 8 5 rfl rfl rfl gw_253 rfl rfl d_X_copy_78 ?_
            refine lv_iload_n hx hb d_X_copy_81 rfl (lv_at hl 1 rfl) ?_
            refine k_aald (q := h_sheets_1) X hV 1 2 rfl rfl kin_1_4 rfl d_X_copy_82 ?_
            refine lv_iload_n hx hb d_X_copy_83 rfl (lv_at hl 2 rfl) ?_
            refine lv_iload hx hb d_X_copy_84 (lv_at hl 5 rfl) ?_
            obtain ⟨r_381, hc_382, hf⟩ := kb1_some hf
            refine k_cvi (w1 := (wd_Sh_hasRun D h_sheets_1 h_sheets_1_numbers v_sheets_1_bits v_sheets_1_size)) (r := r_381) (ws' := (wd_X_copy D h h_here h_kept h_trial h_parts h_text h_sheets h_findings h_sheets_0 h_sheets_1 h_sheets_2 h_sheets_3 h_sheets_0_numbers h_sheets_1_numbers h_sheets_2_numbers h_sheets_3_numbers v_isKept v_sheets_0_bits v_sheets_0_size v_sheets_0_numbers v_sheets_1_bits v_sheets_1_size v_sheets_1_numbers v_sheets_2_bits v_sheets_2_size v_sheets_2_numbers v_sheets_3_bits v_sheets_3_size v_sheets_3_numbers v_findings)) X hV hl.1 (c_Sh_hasRun D h_sheets_1 h_sheets_1_numbers v_sheets_1_bits v_sheets_1_size x2 x5 hc_382) fk_Sh_hasRun gw_828 rfl 4 4 rfl rfl [4] [none, none, none, none, some 0, none, none, none, none, none, none] rfl rfl ⟨rfl, rfl, rfl, rfl, rfl, rfl, rfl, rfl, rfl, rfl, rfl, rfl, rfl, trivial⟩ rfl rfl rfl d_X_copy_86 (fun H locs hV => ?_)
            refine lv_if_eq (tgt := 108) hx hb d_X_copy_89 (by decide) (fun c_383 => ?_) (fun c_383 => ?_)
            · replace hf := kifp c_383 hf
              exact t_X_copy_3 X hf hV (lv_sub hl [0] rfl)
            replace hf := kifn c_383 hf
            refine lv_aload_n hx hb d_X_copy_92 rfl (lv_at hl 0 rfl) ?_
            refine k_get X hV 0 8 5 rfl rfl rfl gw_253 rfl rfl d_X_copy_93 ?_
            refine lv_iload_n hx hb d_X_copy_96 rfl (lv_at hl 3 rfl) ?_
            refine k_aald (q := h_sheets_2) X hV 1 2 rfl rfl kin_2_4 rfl d_X_copy_97 ?_
            refine lv_iload hx hb d_X_copy_98 (lv_at hl 4 rfl) ?_
            refine lv_iload hx hb d_X_copy_100 (lv_at hl 5 rfl) ?_
            obtain ⟨r_384, hc_385, hf⟩ := kb1_some hf
            refine k_cvi (w1 := (wd_Sh_hasRun D h_sheets_2 h_sheets_2_numbers v_sheets_2_bits v_sheets_2_size)) (r := r_384) (ws' := (wd_X_copy D h h_here h_kept h_trial h_parts h_text h_sheets h_findings h_sheets_0 h_sheets_1 h_sheets_2 h_sheets_3 h_sheets_0_numbers h_sheets_1_numbers h_sheets_2_numbers h_sheets_3_numbers v_isKept v_sheets_0_bits v_sheets_0_size v_sheets_0_numbers v_sheets_1_bits v_sheets_1_size v_sheets_1_numbers v_sheets_2_bits v_sheets_2_size v_sheets_2_numbers v_sheets_3_bits v_sheets_3_size v_sheets_3_numbers v_findings)) X hV hl.1 (c_Sh_hasRun D h_sheets_2 h_sheets_2_numbers v_sheets_2_bits v_sheets_2_size x4 x5 hc_385) fk_Sh_hasRun gw_828 rfl 6 4 rfl rfl [6] [none, none, none, none, none, none, some 0, none, none, none, none] rfl rfl ⟨rfl, rfl, rfl, rfl, rfl, rfl, rfl, rfl, rfl, rfl, rfl, rfl, rfl, trivial⟩ rfl rfl rfl d_X_copy_102 (fun H locs hV => ?_)
            refine lv_if_ne (tgt := 114) hx hb d_X_copy_105 (by decide) (fun c_386 => ?_) (fun c_386 => ?_)
            · replace hf := kifn c_386 hf
              refine lv_aload_n hx hb d_X_copy_114 rfl (lv_at hl 0 rfl) ?_
              refine k_get X hV 0 8 5 rfl rfl rfl gw_253 rfl rfl d_X_copy_115 ?_
              refine lv_iload_n hx hb d_X_copy_118 rfl (lv_at hl 1 rfl) ?_
              refine k_aald (q := h_sheets_1) X hV 1 2 rfl rfl kin_1_4 rfl d_X_copy_119 ?_
              refine k_get X hV 4 4 0 rfl rfl rfl gw_236 rfl rfl d_X_copy_120 ?_
              refine lv_iload_n hx hb d_X_copy_123 rfl (lv_at hl 2 rfl) ?_
              refine lv_aload_n hx hb d_X_copy_124 rfl (lv_at hl 0 rfl) ?_
              refine k_get X hV 0 8 5 rfl rfl rfl gw_253 rfl rfl d_X_copy_125 ?_
              refine lv_iload_n hx hb d_X_copy_128 rfl (lv_at hl 3 rfl) ?_
              refine k_aald (q := h_sheets_2) X hV 1 2 rfl rfl kin_2_4 rfl d_X_copy_129 ?_
              refine k_get X hV 6 4 0 rfl rfl rfl gw_236 rfl rfl d_X_copy_130 ?_
              refine lv_iload hx hb d_X_copy_133 (lv_at hl 4 rfl) ?_
              refine lv_iload hx hb d_X_copy_135 (lv_at hl 5 rfl) ?_
              obtain ⟨h_387, hf⟩ := kchk hf
              refine k_copyl (ws' := (wd_X_copy D h h_here h_kept h_trial h_parts h_text h_sheets h_findings h_sheets_0 h_sheets_1 h_sheets_2 h_sheets_3 h_sheets_0_numbers h_sheets_1_numbers h_sheets_2_numbers h_sheets_3_numbers v_isKept v_sheets_0_bits v_sheets_0_size v_sheets_0_numbers v_sheets_1_bits v_sheets_1_size v_sheets_1_numbers v_sheets_2_bits v_sheets_2_size (va_cpy v_sheets_1_numbers v_sheets_2_numbers x2.toNatClampNeg x4.toNatClampNeg x5.toNatClampNeg) v_sheets_3_bits v_sheets_3_size v_sheets_3_numbers v_findings)) X hV hl.1 gw_832 5 7 rfl rfl h_387 rfl rfl rfl d_X_copy_137 (fun H locs hV => ?_)
              refine lv_iload hx hb d_X_copy_140 (lv_at hl 5 rfl) ?_
              have e_ := Option.some.inj hf
              subst e_
              exact k_iret X rfl hV rfl d_X_copy_142
            replace hf := kifp c_386 hf
            exact t_X_copy_3 X hf hV (lv_sub hl [0] rfl)
          replace hf := kifn c_380 hf
          refine lv_aload_n hx hb d_X_copy_71 rfl (lv_at hl 0 rfl) ?_
          refine lv_iconst (v := 2) hx hb d_X_copy_72 ic_2 ?_
          obtain ⟨r_388, v_findings_389, hc_390, hf⟩ := kb2_some hf
          refine k_cvi (w1 := (wd_X_finding D h h_here h_kept h_trial h_parts h_text h_sheets h_findings v_isKept v_findings_389)) (r := r_388) (ws' := (wd_X_copy D h h_here h_kept h_trial h_parts h_text h_sheets h_findings h_sheets_0 h_sheets_1 h_sheets_2 h_sheets_3 h_sheets_0_numbers h_sheets_1_numbers h_sheets_2_numbers h_sheets_3_numbers v_isKept v_sheets_0_bits v_sheets_0_size v_sheets_0_numbers v_sheets_1_bits v_sheets_1_size v_sheets_1_numbers v_sheets_2_bits v_sheets_2_size v_sheets_2_numbers v_sheets_3_bits v_sheets_3_size v_sheets_3_numbers v_findings_389)) X hV hl.1 (c_X_finding D h h_here h_kept h_trial h_parts h_text h_sheets h_findings v_isKept v_findings (2 : Int32) hc_390) fk_X_finding gw_283 rfl 0 8 rfl rfl [0, 10] [some 0, none, none, none, none, none, none, none, none, none, some 1] rfl rfl ⟨rfl, rfl, rfl, rfl, rfl, rfl, rfl, rfl, rfl, rfl, rfl, rfl, rfl, rfl, rfl, trivial⟩ rfl rfl rfl d_X_copy_73 (fun H locs hV => ?_)
          have e_ := Option.some.inj hf
          subst e_
          exact k_iret X rfl hV rfl d_X_copy_76
        replace hf := kifn c_379 hf
        exact t_X_copy_2 X hf hV (lv_sub hl [0] rfl)
      replace hfs_346 := kifn c_376 hfs_346
      by_cases c_391 : x3 = 3
      · replace hfs_346 := kifp c_391 hfs_346
        subst c_391
        have hf := hfs_346
        have hV := hVs_346
        have hl := hls_346
        refine k_aald (q := h_sheets_3) X hV 1 2 rfl rfl kin_3_4 rfl d_X_copy_37 ?_
        obtain ⟨r_392, hc_393, hf⟩ := kb1_some hf
        refine k_cvi (w1 := (wd_Sh_isMissing D h_sheets_3 h_sheets_3_numbers v_sheets_3_bits v_sheets_3_size)) (r := r_392) (ws' := (wd_X_copy D h h_here h_kept h_trial h_parts h_text h_sheets h_findings h_sheets_0 h_sheets_1 h_sheets_2 h_sheets_3 h_sheets_0_numbers h_sheets_1_numbers h_sheets_2_numbers h_sheets_3_numbers v_isKept v_sheets_0_bits v_sheets_0_size v_sheets_0_numbers v_sheets_1_bits v_sheets_1_size v_sheets_1_numbers v_sheets_2_bits v_sheets_2_size v_sheets_2_numbers v_sheets_3_bits v_sheets_3_size v_sheets_3_numbers v_findings)) X hV hl.1 (c_Sh_isMissing D h_sheets_3 h_sheets_3_numbers v_sheets_3_bits v_sheets_3_size hc_393) fk_Sh_isMissing gw_815 rfl 8 4 rfl rfl [8] [none, none, none, none, none, none, none, none, some 0, none, none] rfl rfl ⟨rfl, rfl, rfl, rfl, rfl, rfl, rfl, rfl, rfl, rfl, rfl, rfl, rfl, trivial⟩ rfl rfl rfl d_X_copy_38 (fun H locs hV => ?_)
        refine lv_if_eq (tgt := 50) hx hb d_X_copy_41 (by decide) (fun c_394 => ?_) (fun c_394 => ?_)
        · replace hf := kifp c_394 hf
          refine lv_aload_n hx hb d_X_copy_50 rfl (lv_at hl 0 rfl) ?_
          refine k_get X hV 0 8 5 rfl rfl rfl gw_253 rfl rfl d_X_copy_51 ?_
          refine lv_iload_n hx hb d_X_copy_54 rfl (lv_at hl 1 rfl) ?_
          refine k_aald (q := h_sheets_1) X hV 1 2 rfl rfl kin_1_4 rfl d_X_copy_55 ?_
          refine k_get X hV 4 4 1 rfl rfl rfl gw_238 rfl rfl d_X_copy_56 ?_
          refine lv_aload_n hx hb d_X_copy_59 rfl (lv_at hl 0 rfl) ?_
          refine k_get X hV 0 8 5 rfl rfl rfl gw_253 rfl rfl d_X_copy_60 ?_
          refine lv_iload_n hx hb d_X_copy_63 rfl (lv_at hl 3 rfl) ?_
          refine k_aald (q := h_sheets_3) X hV 1 2 rfl rfl kin_3_4 rfl d_X_copy_64 ?_
          refine k_get X hV 8 4 1 rfl rfl rfl gw_238 rfl rfl d_X_copy_65 ?_
          refine lv_icmp_eq (tgt := 77) hx hb d_X_copy_68 (by decide) (fun c_395 => ?_) (fun c_395 => ?_)
          · replace hf := kifp c_395 hf
            refine lv_aload_n hx hb d_X_copy_77 rfl (lv_at hl 0 rfl) ?_
            refine k_get X hV 0 8 5 rfl rfl rfl gw_253 rfl rfl d_X_copy_78 ?_
            refine lv_iload_n hx hb d_X_copy_81 rfl (lv_at hl 1 rfl) ?_
            refine k_aald (q := h_sheets_1) X hV 1 2 rfl rfl kin_1_4 rfl d_X_copy_82 ?_
            refine lv_iload_n hx hb d_X_copy_83 rfl (lv_at hl 2 rfl) ?_
            refine lv_iload hx hb d_X_copy_84 (lv_at hl 5 rfl) ?_
            obtain ⟨r_396, hc_397, hf⟩ := kb1_some hf
            refine k_cvi (w1 := (wd_Sh_hasRun D h_sheets_1 h_sheets_1_numbers v_sheets_1_bits v_sheets_1_size)) (r := r_396) (ws' := (wd_X_copy D h h_here h_kept h_trial h_parts h_text h_sheets h_findings h_sheets_0 h_sheets_1 h_sheets_2 h_sheets_3 h_sheets_0_numbers h_sheets_1_numbers h_sheets_2_numbers h_sheets_3_numbers v_isKept v_sheets_0_bits v_sheets_0_size v_sheets_0_numbers v_sheets_1_bits v_sheets_1_size v_sheets_1_numbers v_sheets_2_bits v_sheets_2_size v_sheets_2_numbers v_sheets_3_bits v_sheets_3_size v_sheets_3_numbers v_findings)) X hV hl.1 (c_Sh_hasRun D h_sheets_1 h_sheets_1_numbers v_sheets_1_bits v_sheets_1_size x2 x5 hc_397) fk_Sh_hasRun gw_828 rfl 4 4 rfl rfl [4] [none, none, none, none, some 0, none, none, none, none, none, none] rfl rfl ⟨rfl, rfl, rfl, rfl, rfl, rfl, rfl, rfl, rfl, rfl, rfl, rfl, rfl, trivial⟩ rfl rfl rfl d_X_copy_86 (fun H locs hV => ?_)
            refine lv_if_eq (tgt := 108) hx hb d_X_copy_89 (by decide) (fun c_398 => ?_) (fun c_398 => ?_)
            · replace hf := kifp c_398 hf
              exact t_X_copy_3 X hf hV (lv_sub hl [0] rfl)
            replace hf := kifn c_398 hf
            refine lv_aload_n hx hb d_X_copy_92 rfl (lv_at hl 0 rfl) ?_
            refine k_get X hV 0 8 5 rfl rfl rfl gw_253 rfl rfl d_X_copy_93 ?_
            refine lv_iload_n hx hb d_X_copy_96 rfl (lv_at hl 3 rfl) ?_
            refine k_aald (q := h_sheets_3) X hV 1 2 rfl rfl kin_3_4 rfl d_X_copy_97 ?_
            refine lv_iload hx hb d_X_copy_98 (lv_at hl 4 rfl) ?_
            refine lv_iload hx hb d_X_copy_100 (lv_at hl 5 rfl) ?_
            obtain ⟨r_399, hc_400, hf⟩ := kb1_some hf
            refine k_cvi (w1 := (wd_Sh_hasRun D h_sheets_3 h_sheets_3_numbers v_sheets_3_bits v_sheets_3_size)) (r := r_399) (ws' := (wd_X_copy D h h_here h_kept h_trial h_parts h_text h_sheets h_findings h_sheets_0 h_sheets_1 h_sheets_2 h_sheets_3 h_sheets_0_numbers h_sheets_1_numbers h_sheets_2_numbers h_sheets_3_numbers v_isKept v_sheets_0_bits v_sheets_0_size v_sheets_0_numbers v_sheets_1_bits v_sheets_1_size v_sheets_1_numbers v_sheets_2_bits v_sheets_2_size v_sheets_2_numbers v_sheets_3_bits v_sheets_3_size v_sheets_3_numbers v_findings)) X hV hl.1 (c_Sh_hasRun D h_sheets_3 h_sheets_3_numbers v_sheets_3_bits v_sheets_3_size x4 x5 hc_400) fk_Sh_hasRun gw_828 rfl 8 4 rfl rfl [8] [none, none, none, none, none, none, none, none, some 0, none, none] rfl rfl ⟨rfl, rfl, rfl, rfl, rfl, rfl, rfl, rfl, rfl, rfl, rfl, rfl, rfl, trivial⟩ rfl rfl rfl d_X_copy_102 (fun H locs hV => ?_)
            refine lv_if_ne (tgt := 114) hx hb d_X_copy_105 (by decide) (fun c_401 => ?_) (fun c_401 => ?_)
            · replace hf := kifn c_401 hf
              refine lv_aload_n hx hb d_X_copy_114 rfl (lv_at hl 0 rfl) ?_
              refine k_get X hV 0 8 5 rfl rfl rfl gw_253 rfl rfl d_X_copy_115 ?_
              refine lv_iload_n hx hb d_X_copy_118 rfl (lv_at hl 1 rfl) ?_
              refine k_aald (q := h_sheets_1) X hV 1 2 rfl rfl kin_1_4 rfl d_X_copy_119 ?_
              refine k_get X hV 4 4 0 rfl rfl rfl gw_236 rfl rfl d_X_copy_120 ?_
              refine lv_iload_n hx hb d_X_copy_123 rfl (lv_at hl 2 rfl) ?_
              refine lv_aload_n hx hb d_X_copy_124 rfl (lv_at hl 0 rfl) ?_
              refine k_get X hV 0 8 5 rfl rfl rfl gw_253 rfl rfl d_X_copy_125 ?_
              refine lv_iload_n hx hb d_X_copy_128 rfl (lv_at hl 3 rfl) ?_
              refine k_aald (q := h_sheets_3) X hV 1 2 rfl rfl kin_3_4 rfl d_X_copy_129 ?_
              refine k_get X hV 8 4 0 rfl rfl rfl gw_236 rfl rfl d_X_copy_130 ?_
              refine lv_iload hx hb d_X_copy_133 (lv_at hl 4 rfl) ?_
              refine lv_iload hx hb d_X_copy_135 (lv_at hl 5 rfl) ?_
              obtain ⟨h_402, hf⟩ := kchk hf
              refine k_copyl (ws' := (wd_X_copy D h h_here h_kept h_trial h_parts h_text h_sheets h_findings h_sheets_0 h_sheets_1 h_sheets_2 h_sheets_3 h_sheets_0_numbers h_sheets_1_numbers h_sheets_2_numbers h_sheets_3_numbers v_isKept v_sheets_0_bits v_sheets_0_size v_sheets_0_numbers v_sheets_1_bits v_sheets_1_size v_sheets_1_numbers v_sheets_2_bits v_sheets_2_size v_sheets_2_numbers v_sheets_3_bits v_sheets_3_size (va_cpy v_sheets_1_numbers v_sheets_3_numbers x2.toNatClampNeg x4.toNatClampNeg x5.toNatClampNeg) v_findings)) X hV hl.1 gw_832 5 9 rfl rfl h_402 rfl rfl rfl d_X_copy_137 (fun H locs hV => ?_)
              refine lv_iload hx hb d_X_copy_140 (lv_at hl 5 rfl) ?_
              have e_ := Option.some.inj hf
              subst e_
              exact k_iret X rfl hV rfl d_X_copy_142
            replace hf := kifp c_401 hf
            exact t_X_copy_3 X hf hV (lv_sub hl [0] rfl)
          replace hf := kifn c_395 hf
          refine lv_aload_n hx hb d_X_copy_71 rfl (lv_at hl 0 rfl) ?_
          refine lv_iconst (v := 2) hx hb d_X_copy_72 ic_2 ?_
          obtain ⟨r_403, v_findings_404, hc_405, hf⟩ := kb2_some hf
          refine k_cvi (w1 := (wd_X_finding D h h_here h_kept h_trial h_parts h_text h_sheets h_findings v_isKept v_findings_404)) (r := r_403) (ws' := (wd_X_copy D h h_here h_kept h_trial h_parts h_text h_sheets h_findings h_sheets_0 h_sheets_1 h_sheets_2 h_sheets_3 h_sheets_0_numbers h_sheets_1_numbers h_sheets_2_numbers h_sheets_3_numbers v_isKept v_sheets_0_bits v_sheets_0_size v_sheets_0_numbers v_sheets_1_bits v_sheets_1_size v_sheets_1_numbers v_sheets_2_bits v_sheets_2_size v_sheets_2_numbers v_sheets_3_bits v_sheets_3_size v_sheets_3_numbers v_findings_404)) X hV hl.1 (c_X_finding D h h_here h_kept h_trial h_parts h_text h_sheets h_findings v_isKept v_findings (2 : Int32) hc_405) fk_X_finding gw_283 rfl 0 8 rfl rfl [0, 10] [some 0, none, none, none, none, none, none, none, none, none, some 1] rfl rfl ⟨rfl, rfl, rfl, rfl, rfl, rfl, rfl, rfl, rfl, rfl, rfl, rfl, rfl, rfl, rfl, trivial⟩ rfl rfl rfl d_X_copy_73 (fun H locs hV => ?_)
          have e_ := Option.some.inj hf
          subst e_
          exact k_iret X rfl hV rfl d_X_copy_76
        replace hf := kifn c_394 hf
        exact t_X_copy_2 X hf hV (lv_sub hl [0] rfl)
      replace hfs_346 := kifn c_391 hfs_346
      exact knone hfs_346
    replace hfs_278 := kifn c_342 hfs_278
    by_cases c_406 : x1 = 2
    · replace hfs_278 := kifp c_406 hfs_278
      subst c_406
      have hf := hfs_278
      have hV := hVs_278
      have hl := hls_278
      refine k_aald (q := h_sheets_2) X hV 1 2 rfl rfl kin_2_4 rfl d_X_copy_25 ?_
      obtain ⟨r_407, hc_408, hf⟩ := kb1_some hf
      refine k_cvi (w1 := (wd_Sh_isMissing D h_sheets_2 h_sheets_2_numbers v_sheets_2_bits v_sheets_2_size)) (r := r_407) (ws' := (wd_X_copy D h h_here h_kept h_trial h_parts h_text h_sheets h_findings h_sheets_0 h_sheets_1 h_sheets_2 h_sheets_3 h_sheets_0_numbers h_sheets_1_numbers h_sheets_2_numbers h_sheets_3_numbers v_isKept v_sheets_0_bits v_sheets_0_size v_sheets_0_numbers v_sheets_1_bits v_sheets_1_size v_sheets_1_numbers v_sheets_2_bits v_sheets_2_size v_sheets_2_numbers v_sheets_3_bits v_sheets_3_size v_sheets_3_numbers v_findings)) X hV hl.1 (c_Sh_isMissing D h_sheets_2 h_sheets_2_numbers v_sheets_2_bits v_sheets_2_size hc_408) fk_Sh_isMissing gw_815 rfl 6 4 rfl rfl [6] [none, none, none, none, none, none, some 0, none, none, none, none] rfl rfl ⟨rfl, rfl, rfl, rfl, rfl, rfl, rfl, rfl, rfl, rfl, rfl, rfl, rfl, trivial⟩ rfl rfl rfl d_X_copy_26 (fun H locs hV => ?_)
      refine lv_if_ne (tgt := 44) hx hb d_X_copy_29 (by decide) (fun c_409 => ?_) (fun c_409 => ?_)
      · replace hf := kifn c_409 hf
        exact t_X_copy_2 X hf hV (lv_sub hl [0] rfl)
      replace hf := kifp c_409 hf
      refine lv_aload_n hx hb d_X_copy_32 rfl (lv_at hl 0 rfl) ?_
      refine k_get X hV 0 8 5 rfl rfl rfl gw_253 rfl rfl d_X_copy_33 ?_
      refine lv_iload_n hx hb d_X_copy_36 rfl (lv_at hl 3 rfl) ?_
      have hfs_410 := hf
      have hVs_410 := hV
      have hls_410 := hl
      by_cases c_410 : x3 = 0
      · replace hfs_410 := kifp c_410 hfs_410
        subst c_410
        have hf := hfs_410
        have hV := hVs_410
        have hl := hls_410
        refine k_aald (q := h_sheets_0) X hV 1 2 rfl rfl kin_0_4 rfl d_X_copy_37 ?_
        obtain ⟨r_411, hc_412, hf⟩ := kb1_some hf
        refine k_cvi (w1 := (wd_Sh_isMissing D h_sheets_0 h_sheets_0_numbers v_sheets_0_bits v_sheets_0_size)) (r := r_411) (ws' := (wd_X_copy D h h_here h_kept h_trial h_parts h_text h_sheets h_findings h_sheets_0 h_sheets_1 h_sheets_2 h_sheets_3 h_sheets_0_numbers h_sheets_1_numbers h_sheets_2_numbers h_sheets_3_numbers v_isKept v_sheets_0_bits v_sheets_0_size v_sheets_0_numbers v_sheets_1_bits v_sheets_1_size v_sheets_1_numbers v_sheets_2_bits v_sheets_2_size v_sheets_2_numbers v_sheets_3_bits v_sheets_3_size v_sheets_3_numbers v_findings)) X hV hl.1 (c_Sh_isMissing D h_sheets_0 h_sheets_0_numbers v_sheets_0_bits v_sheets_0_size hc_412) fk_Sh_isMissing gw_815 rfl 2 4 rfl rfl [2] [none, none, some 0, none, none, none, none, none, none, none, none] rfl rfl ⟨rfl, rfl, rfl, rfl, rfl, rfl, rfl, rfl, rfl, rfl, rfl, rfl, rfl, trivial⟩ rfl rfl rfl d_X_copy_38 (fun H locs hV => ?_)
        refine lv_if_eq (tgt := 50) hx hb d_X_copy_41 (by decide) (fun c_413 => ?_) (fun c_413 => ?_)
        · replace hf := kifp c_413 hf
          refine lv_aload_n hx hb d_X_copy_50 rfl (lv_at hl 0 rfl) ?_
          refine k_get X hV 0 8 5 rfl rfl rfl gw_253 rfl rfl d_X_copy_51 ?_
          refine lv_iload_n hx hb d_X_copy_54 rfl (lv_at hl 1 rfl) ?_
          refine k_aald (q := h_sheets_2) X hV 1 2 rfl rfl kin_2_4 rfl d_X_copy_55 ?_
          refine k_get X hV 6 4 1 rfl rfl rfl gw_238 rfl rfl d_X_copy_56 ?_
          refine lv_aload_n hx hb d_X_copy_59 rfl (lv_at hl 0 rfl) ?_
          refine k_get X hV 0 8 5 rfl rfl rfl gw_253 rfl rfl d_X_copy_60 ?_
          refine lv_iload_n hx hb d_X_copy_63 rfl (lv_at hl 3 rfl) ?_
          refine k_aald (q := h_sheets_0) X hV 1 2 rfl rfl kin_0_4 rfl d_X_copy_64 ?_
          refine k_get X hV 2 4 1 rfl rfl rfl gw_238 rfl rfl d_X_copy_65 ?_
          refine lv_icmp_eq (tgt := 77) hx hb d_X_copy_68 (by decide) (fun c_414 => ?_) (fun c_414 => ?_)
          · replace hf := kifp c_414 hf
            refine lv_aload_n hx hb d_X_copy_77 rfl (lv_at hl 0 rfl) ?_
            refine k_get X hV 0 8 5 rfl rfl rfl gw_253 rfl rfl d_X_copy_78 ?_
            refine lv_iload_n hx hb d_X_copy_81 rfl (lv_at hl 1 rfl) ?_
            refine k_aald (q := h_sheets_2) X hV 1 2 rfl rfl kin_2_4 rfl d_X_copy_82 ?_
            refine lv_iload_n hx hb d_X_copy_83 rfl (lv_at hl 2 rfl) ?_
            refine lv_iload hx hb d_X_copy_84 (lv_at hl 5 rfl) ?_
            obtain ⟨r_415, hc_416, hf⟩ := kb1_some hf
            refine k_cvi (w1 := (wd_Sh_hasRun D h_sheets_2 h_sheets_2_numbers v_sheets_2_bits v_sheets_2_size)) (r := r_415) (ws' := (wd_X_copy D h h_here h_kept h_trial h_parts h_text h_sheets h_findings h_sheets_0 h_sheets_1 h_sheets_2 h_sheets_3 h_sheets_0_numbers h_sheets_1_numbers h_sheets_2_numbers h_sheets_3_numbers v_isKept v_sheets_0_bits v_sheets_0_size v_sheets_0_numbers v_sheets_1_bits v_sheets_1_size v_sheets_1_numbers v_sheets_2_bits v_sheets_2_size v_sheets_2_numbers v_sheets_3_bits v_sheets_3_size v_sheets_3_numbers v_findings)) X hV hl.1 (c_Sh_hasRun D h_sheets_2 h_sheets_2_numbers v_sheets_2_bits v_sheets_2_size x2 x5 hc_416) fk_Sh_hasRun gw_828 rfl 6 4 rfl rfl [6] [none, none, none, none, none, none, some 0, none, none, none, none] rfl rfl ⟨rfl, rfl, rfl, rfl, rfl, rfl, rfl, rfl, rfl, rfl, rfl, rfl, rfl, trivial⟩ rfl rfl rfl d_X_copy_86 (fun H locs hV => ?_)
            refine lv_if_eq (tgt := 108) hx hb d_X_copy_89 (by decide) (fun c_417 => ?_) (fun c_417 => ?_)
            · replace hf := kifp c_417 hf
              exact t_X_copy_3 X hf hV (lv_sub hl [0] rfl)
            replace hf := kifn c_417 hf
            refine lv_aload_n hx hb d_X_copy_92 rfl (lv_at hl 0 rfl) ?_
            refine k_get X hV 0 8 5 rfl rfl rfl gw_253 rfl rfl d_X_copy_93 ?_
            refine lv_iload_n hx hb d_X_copy_96 rfl (lv_at hl 3 rfl) ?_
            refine k_aald (q := h_sheets_0) X hV 1 2 rfl rfl kin_0_4 rfl d_X_copy_97 ?_
            refine lv_iload hx hb d_X_copy_98 (lv_at hl 4 rfl) ?_
            refine lv_iload hx hb d_X_copy_100 (lv_at hl 5 rfl) ?_
            obtain ⟨r_418, hc_419, hf⟩ := kb1_some hf
            refine k_cvi (w1 := (wd_Sh_hasRun D h_sheets_0 h_sheets_0_numbers v_sheets_0_bits v_sheets_0_size)) (r := r_418) (ws' := (wd_X_copy D h h_here h_kept h_trial h_parts h_text h_sheets h_findings h_sheets_0 h_sheets_1 h_sheets_2 h_sheets_3 h_sheets_0_numbers h_sheets_1_numbers h_sheets_2_numbers h_sheets_3_numbers v_isKept v_sheets_0_bits v_sheets_0_size v_sheets_0_numbers v_sheets_1_bits v_sheets_1_size v_sheets_1_numbers v_sheets_2_bits v_sheets_2_size v_sheets_2_numbers v_sheets_3_bits v_sheets_3_size v_sheets_3_numbers v_findings)) X hV hl.1 (c_Sh_hasRun D h_sheets_0 h_sheets_0_numbers v_sheets_0_bits v_sheets_0_size x4 x5 hc_419) fk_Sh_hasRun gw_828 rfl 2 4 rfl rfl [2] [none, none, some 0, none, none, none, none, none, none, none, none] rfl rfl ⟨rfl, rfl, rfl, rfl, rfl, rfl, rfl, rfl, rfl, rfl, rfl, rfl, rfl, trivial⟩ rfl rfl rfl d_X_copy_102 (fun H locs hV => ?_)
            refine lv_if_ne (tgt := 114) hx hb d_X_copy_105 (by decide) (fun c_420 => ?_) (fun c_420 => ?_)
            · replace hf := kifn c_420 hf
              refine lv_aload_n hx hb d_X_copy_114 rfl (lv_at hl 0 rfl) ?_
              refine k_get X hV 0 8 5 rfl rfl rfl gw_253 rfl rfl d_X_copy_115 ?_
              refine lv_iload_n hx hb d_X_copy_118 rfl (lv_at hl 1 rfl) ?_
              refine k_aald (q := h_sheets_2) X hV 1 2 rfl rfl kin_2_4 rfl d_X_copy_119 ?_
              refine k_get X hV 6 4 0 rfl rfl rfl gw_236 rfl rfl d_X_copy_120 ?_
              refine lv_iload_n hx hb d_X_copy_123 rfl (lv_at hl 2 rfl) ?_
              refine lv_aload_n hx hb d_X_copy_124 rfl (lv_at hl 0 rfl) ?_
              refine k_get X hV 0 8 5 rfl rfl rfl gw_253 rfl rfl d_X_copy_125 ?_
              refine lv_iload_n hx hb d_X_copy_128 rfl (lv_at hl 3 rfl) ?_
              refine k_aald (q := h_sheets_0) X hV 1 2 rfl rfl kin_0_4 rfl d_X_copy_129 ?_
              refine k_get X hV 2 4 0 rfl rfl rfl gw_236 rfl rfl d_X_copy_130 ?_
              refine lv_iload hx hb d_X_copy_133 (lv_at hl 4 rfl) ?_
              refine lv_iload hx hb d_X_copy_135 (lv_at hl 5 rfl) ?_
              obtain ⟨h_421, hf⟩ := kchk hf
              refine k_copyl (ws' := (wd_X_copy D h h_here h_kept h_trial h_parts h_text h_sheets h_findings h_sheets_0 h_sheets_1 h_sheets_2 h_sheets_3 h_sheets_0_numbers h_sheets_1_numbers h_sheets_2_numbers h_sheets_3_numbers v_isKept v_sheets_0_bits v_sheets_0_size (va_cpy v_sheets_2_numbers v_sheets_0_numbers x2.toNatClampNeg x4.toNatClampNeg x5.toNatClampNeg) v_sheets_1_bits v_sheets_1_size v_sheets_1_numbers v_sheets_2_bits v_sheets_2_size v_sheets_2_numbers v_sheets_3_bits v_sheets_3_size v_sheets_3_numbers v_findings)) X hV hl.1 gw_832 7 3 rfl rfl h_421 rfl rfl rfl d_X_copy_137 (fun H locs hV => ?_)
              refine lv_iload hx hb d_X_copy_140 (lv_at hl 5 rfl) ?_
              have e_ := Option.some.inj hf
              subst e_
              exact k_iret X rfl hV rfl d_X_copy_142
            replace hf := kifp c_420 hf
            exact t_X_copy_3 X hf hV (lv_sub hl [0] rfl)
          replace hf := kifn c_414 hf
          refine lv_aload_n hx hb d_X_copy_71 rfl (lv_at hl 0 rfl) ?_
          refine lv_iconst (v := 2) hx hb d_X_copy_72 ic_2 ?_
          obtain ⟨r_422, v_findings_423, hc_424, hf⟩ := kb2_some hf
          refine k_cvi (w1 := (wd_X_finding D h h_here h_kept h_trial h_parts h_text h_sheets h_findings v_isKept v_findings_423)) (r := r_422) (ws' := (wd_X_copy D h h_here h_kept h_trial h_parts h_text h_sheets h_findings h_sheets_0 h_sheets_1 h_sheets_2 h_sheets_3 h_sheets_0_numbers h_sheets_1_numbers h_sheets_2_numbers h_sheets_3_numbers v_isKept v_sheets_0_bits v_sheets_0_size v_sheets_0_numbers v_sheets_1_bits v_sheets_1_size v_sheets_1_numbers v_sheets_2_bits v_sheets_2_size v_sheets_2_numbers v_sheets_3_bits v_sheets_3_size v_sheets_3_numbers v_findings_423)) X hV hl.1 (c_X_finding D h h_here h_kept h_trial h_parts h_text h_sheets h_findings v_isKept v_findings (2 : Int32) hc_424) fk_X_finding gw_283 rfl 0 8 rfl rfl [0, 10] [some 0, none, none, none, none, none, none, none, none, none, some 1] rfl rfl ⟨rfl, rfl, rfl, rfl, rfl, rfl, rfl, rfl, rfl, rfl, rfl, rfl, rfl, rfl, rfl, trivial⟩ rfl rfl rfl d_X_copy_73 (fun H locs hV => ?_)
          have e_ := Option.some.inj hf
          subst e_
          exact k_iret X rfl hV rfl d_X_copy_76
        replace hf := kifn c_413 hf
        exact t_X_copy_2 X hf hV (lv_sub hl [0] rfl)
      replace hfs_410 := kifn c_410 hfs_410
      by_cases c_425 : x3 = 1
      · replace hfs_410 := kifp c_425 hfs_410
        subst c_425
        have hf := hfs_410
        have hV := hVs_410
        have hl := hls_410
        refine k_aald (q := h_sheets_1) X hV 1 2 rfl rfl kin_1_4 rfl d_X_copy_37 ?_
        obtain ⟨r_426, hc_427, hf⟩ := kb1_some hf
        refine k_cvi (w1 := (wd_Sh_isMissing D h_sheets_1 h_sheets_1_numbers v_sheets_1_bits v_sheets_1_size)) (r := r_426) (ws' := (wd_X_copy D h h_here h_kept h_trial h_parts h_text h_sheets h_findings h_sheets_0 h_sheets_1 h_sheets_2 h_sheets_3 h_sheets_0_numbers h_sheets_1_numbers h_sheets_2_numbers h_sheets_3_numbers v_isKept v_sheets_0_bits v_sheets_0_size v_sheets_0_numbers v_sheets_1_bits v_sheets_1_size v_sheets_1_numbers v_sheets_2_bits v_sheets_2_size v_sheets_2_numbers v_sheets_3_bits v_sheets_3_size v_sheets_3_numbers v_findings)) X hV hl.1 (c_Sh_isMissing D h_sheets_1 h_sheets_1_numbers v_sheets_1_bits v_sheets_1_size hc_427) fk_Sh_isMissing gw_815 rfl 4 4 rfl rfl [4] [none, none, none, none, some 0, none, none, none, none, none, none] rfl rfl ⟨rfl, rfl, rfl, rfl, rfl, rfl, rfl, rfl, rfl, rfl, rfl, rfl, rfl, trivial⟩ rfl rfl rfl d_X_copy_38 (fun H locs hV => ?_)
        refine lv_if_eq (tgt := 50) hx hb d_X_copy_41 (by decide) (fun c_428 => ?_) (fun c_428 => ?_)
        · replace hf := kifp c_428 hf
          refine lv_aload_n hx hb d_X_copy_50 rfl (lv_at hl 0 rfl) ?_
          refine k_get X hV 0 8 5 rfl rfl rfl gw_253 rfl rfl d_X_copy_51 ?_
          refine lv_iload_n hx hb d_X_copy_54 rfl (lv_at hl 1 rfl) ?_
          refine k_aald (q := h_sheets_2) X hV 1 2 rfl rfl kin_2_4 rfl d_X_copy_55 ?_
          refine k_get X hV 6 4 1 rfl rfl rfl gw_238 rfl rfl d_X_copy_56 ?_
          refine lv_aload_n hx hb d_X_copy_59 rfl (lv_at hl 0 rfl) ?_
          refine k_get X hV 0 8 5 rfl rfl rfl gw_253 rfl rfl d_X_copy_60 ?_
          refine lv_iload_n hx hb d_X_copy_63 rfl (lv_at hl 3 rfl) ?_
          refine k_aald (q := h_sheets_1) X hV 1 2 rfl rfl kin_1_4 rfl d_X_copy_64 ?_
          refine k_get X hV 4 4 1 rfl rfl rfl gw_238 rfl rfl d_X_copy_65 ?_
          refine lv_icmp_eq (tgt := 77) hx hb d_X_copy_68 (by decide) (fun c_429 => ?_) (fun c_429 => ?_)
          · replace hf := kifp c_429 hf
            refine lv_aload_n hx hb d_X_copy_77 rfl (lv_at hl 0 rfl) ?_
            refine k_get X hV 0 8 5 rfl rfl rfl gw_253 rfl rfl d_X_copy_78 ?_
            refine lv_iload_n hx hb d_X_copy_81 rfl (lv_at hl 1 rfl) ?_
            refine k_aald (q := h_sheets_2) X hV 1 2 rfl rfl kin_2_4 rfl d_X_copy_82 ?_
            refine lv_iload_n hx hb d_X_copy_83 rfl (lv_at hl 2 rfl) ?_
            refine lv_iload hx hb d_X_copy_84 (lv_at hl 5 rfl) ?_
            obtain ⟨r_430, hc_431, hf⟩ := kb1_some hf
            refine k_cvi (w1 := (wd_Sh_hasRun D h_sheets_2 h_sheets_2_numbers v_sheets_2_bits v_sheets_2_size)) (r := r_430) (ws' := (wd_X_copy D h h_here h_kept h_trial h_parts h_text h_sheets h_findings h_sheets_0 h_sheets_1 h_sheets_2 h_sheets_3 h_sheets_0_numbers h_sheets_1_numbers h_sheets_2_numbers h_sheets_3_numbers v_isKept v_sheets_0_bits v_sheets_0_size v_sheets_0_numbers v_sheets_1_bits v_sheets_1_size v_sheets_1_numbers v_sheets_2_bits v_sheets_2_size v_sheets_2_numbers v_sheets_3_bits v_sheets_3_size v_sheets_3_numbers v_findings)) X hV hl.1 (c_Sh_hasRun D h_sheets_2 h_sheets_2_numbers v_sheets_2_bits v_sheets_2_size x2 x5 hc_431) fk_Sh_hasRun gw_828 rfl 6 4 rfl rfl [6] [none, none, none, none, none, none, some 0, none, none, none, none] rfl rfl ⟨rfl, rfl, rfl, rfl, rfl, rfl, rfl, rfl, rfl, rfl, rfl, rfl, rfl, trivial⟩ rfl rfl rfl d_X_copy_86 (fun H locs hV => ?_)
            refine lv_if_eq (tgt := 108) hx hb d_X_copy_89 (by decide) (fun c_432 => ?_) (fun c_432 => ?_)
            · replace hf := kifp c_432 hf
              exact t_X_copy_3 X hf hV (lv_sub hl [0] rfl)
            replace hf := kifn c_432 hf
            refine lv_aload_n hx hb d_X_copy_92 rfl (lv_at hl 0 rfl) ?_
            refine k_get X hV 0 8 5 rfl rfl rfl gw_253 rfl rfl d_X_copy_93 ?_
            refine lv_iload_n hx hb d_X_copy_96 rfl (lv_at hl 3 rfl) ?_
            refine k_aald (q := h_sheets_1) X hV 1 2 rfl rfl kin_1_4 rfl d_X_copy_97 ?_
            refine lv_iload hx hb d_X_copy_98 (lv_at hl 4 rfl) ?_
            refine lv_iload hx hb d_X_copy_100 (lv_at hl 5 rfl) ?_
            obtain ⟨r_433, hc_434, hf⟩ := kb1_some hf
            refine k_cvi (w1 := (wd_Sh_hasRun D h_sheets_1 h_sheets_1_numbers v_sheets_1_bits v_sheets_1_size)) (r := r_433) (ws' := (wd_X_copy D h h_here h_kept h_trial h_parts h_text h_sheets h_findings h_sheets_0 h_sheets_1 h_sheets_2 h_sheets_3 h_sheets_0_numbers h_sheets_1_numbers h_sheets_2_numbers h_sheets_3_numbers v_isKept v_sheets_0_bits v_sheets_0_size v_sheets_0_numbers v_sheets_1_bits v_sheets_1_size v_sheets_1_numbers v_sheets_2_bits v_sheets_2_size v_sheets_2_numbers v_sheets_3_bits v_sheets_3_size v_sheets_3_numbers v_findings)) X hV hl.1 (c_Sh_hasRun D h_sheets_1 h_sheets_1_numbers v_sheets_1_bits v_sheets_1_size x4 x5 hc_434) fk_Sh_hasRun gw_828 rfl 4 4 rfl rfl [4] [none, none, none, none, some 0, none, none, none, none, none, none] rfl rfl ⟨rfl, rfl, rfl, rfl, rfl, rfl, rfl, rfl, rfl, rfl, rfl, rfl, rfl, trivial⟩ rfl rfl rfl d_X_copy_102 (fun H locs hV => ?_)
            refine lv_if_ne (tgt := 114) hx hb d_X_copy_105 (by decide) (fun c_435 => ?_) (fun c_435 => ?_)
            · replace hf := kifn c_435 hf
              refine lv_aload_n hx hb d_X_copy_114 rfl (lv_at hl 0 rfl) ?_
              refine k_get X hV 0 8 5 rfl rfl rfl gw_253 rfl rfl d_X_copy_115 ?_
              refine lv_iload_n hx hb d_X_copy_118 rfl (lv_at hl 1 rfl) ?_
              refine k_aald (q := h_sheets_2) X hV 1 2 rfl rfl kin_2_4 rfl d_X_copy_119 ?_
              refine k_get X hV 6 4 0 rfl rfl rfl gw_236 rfl rfl d_X_copy_120 ?_
              refine lv_iload_n hx hb d_X_copy_123 rfl (lv_at hl 2 rfl) ?_
              refine lv_aload_n hx hb d_X_copy_124 rfl (lv_at hl 0 rfl) ?_
              refine k_get X hV 0 8 5 rfl rfl rfl gw_253 rfl rfl d_X_copy_125 ?_
              refine lv_iload_n hx hb d_X_copy_128 rfl (lv_at hl 3 rfl) ?_
              refine k_aald (q := h_sheets_1) X hV 1 2 rfl rfl kin_1_4 rfl d_X_copy_129 ?_
              refine k_get X hV 4 4 0 rfl rfl rfl gw_236 rfl rfl d_X_copy_130 ?_
              refine lv_iload hx hb d_X_copy_133 (lv_at hl 4 rfl) ?_
              refine lv_iload hx hb d_X_copy_135 (lv_at hl 5 rfl) ?_
              obtain ⟨h_436, hf⟩ := kchk hf
              refine k_copyl (ws' := (wd_X_copy D h h_here h_kept h_trial h_parts h_text h_sheets h_findings h_sheets_0 h_sheets_1 h_sheets_2 h_sheets_3 h_sheets_0_numbers h_sheets_1_numbers h_sheets_2_numbers h_sheets_3_numbers v_isKept v_sheets_0_bits v_sheets_0_size v_sheets_0_numbers v_sheets_1_bits v_sheets_1_size (va_cpy v_sheets_2_numbers v_sheets_1_numbers x2.toNatClampNeg x4.toNatClampNeg x5.toNatClampNeg) v_sheets_2_bits v_sheets_2_size v_sheets_2_numbers v_sheets_3_bits v_sheets_3_size v_sheets_3_numbers v_findings)) X hV hl.1 gw_832 7 5 rfl rfl h_436 rfl rfl rfl d_X_copy_137 (fun H locs hV => ?_)
              refine lv_iload hx hb d_X_copy_140 (lv_at hl 5 rfl) ?_
              have e_ := Option.some.inj hf
              subst e_
              exact k_iret X rfl hV rfl d_X_copy_142
            replace hf := kifp c_435 hf
            exact t_X_copy_3 X hf hV (lv_sub hl [0] rfl)
          replace hf := kifn c_429 hf
          refine lv_aload_n hx hb d_X_copy_71 rfl (lv_at hl 0 rfl) ?_
          refine lv_iconst (v := 2) hx hb d_X_copy_72 ic_2 ?_
          obtain ⟨r_437, v_findings_438, hc_439, hf⟩ := kb2_some hf
          refine k_cvi (w1 := (wd_X_finding D h h_here h_kept h_trial h_parts h_text h_sheets h_findings v_isKept v_findings_438)) (r := r_437) (ws' := (wd_X_copy D h h_here h_kept h_trial h_parts h_text h_sheets h_findings h_sheets_0 h_sheets_1 h_sheets_2 h_sheets_3 h_sheets_0_numbers h_sheets_1_numbers h_sheets_2_numbers h_sheets_3_numbers v_isKept v_sheets_0_bits v_sheets_0_size v_sheets_0_numbers v_sheets_1_bits v_sheets_1_size v_sheets_1_numbers v_sheets_2_bits v_sheets_2_size v_sheets_2_numbers v_sheets_3_bits v_sheets_3_size v_sheets_3_numbers v_findings_438)) X hV hl.1 (c_X_finding D h h_here h_kept h_trial h_parts h_text h_sheets h_findings v_isKept v_findings (2 : Int32) hc_439) fk_X_finding gw_283 rfl 0 8 rfl rfl [0, 10] [some 0, none, none, none, none, none, none, none, none, none, some 1] rfl rfl ⟨rfl, rfl, rfl, rfl, rfl, rfl, rfl, rfl, rfl, rfl, rfl, rfl, rfl, rfl, rfl, trivial⟩ rfl rfl rfl d_X_copy_73 (fun H locs hV => ?_)
          have e_ := Option.some.inj hf
          subst e_
          exact k_iret X rfl hV rfl d_X_copy_76
        replace hf := kifn c_428 hf
        exact t_X_copy_2 X hf hV (lv_sub hl [0] rfl)
      replace hfs_410 := kifn c_425 hfs_410
      by_cases c_440 : x3 = 2
      · replace hfs_410 := kifp c_440 hfs_410
        subst c_440
        have hf := hfs_410
        have hV := hVs_410
        have hl := hls_410
        refine k_aald (q := h_sheets_2) X hV 1 2 rfl rfl kin_2_4 rfl d_X_copy_37 ?_
        obtain ⟨r_441, hc_442, hf⟩ := kb1_some hf
        refine k_cvi (w1 := (wd_Sh_isMissing D h_sheets_2 h_sheets_2_numbers v_sheets_2_bits v_sheets_2_size)) (r := r_441) (ws' := (wd_X_copy D h h_here h_kept h_trial h_parts h_text h_sheets h_findings h_sheets_0 h_sheets_1 h_sheets_2 h_sheets_3 h_sheets_0_numbers h_sheets_1_numbers h_sheets_2_numbers h_sheets_3_numbers v_isKept v_sheets_0_bits v_sheets_0_size v_sheets_0_numbers v_sheets_1_bits v_sheets_1_size v_sheets_1_numbers v_sheets_2_bits v_sheets_2_size v_sheets_2_numbers v_sheets_3_bits v_sheets_3_size v_sheets_3_numbers v_findings)) X hV hl.1 (c_Sh_isMissing D h_sheets_2 h_sheets_2_numbers v_sheets_2_bits v_sheets_2_size hc_442) fk_Sh_isMissing gw_815 rfl 6 4 rfl rfl [6] [none, none, none, none, none, none, some 0, none, none, none, none] rfl rfl ⟨rfl, rfl, rfl, rfl, rfl, rfl, rfl, rfl, rfl, rfl, rfl, rfl, rfl, trivial⟩ rfl rfl rfl d_X_copy_38 (fun H locs hV => ?_)
        refine lv_if_eq (tgt := 50) hx hb d_X_copy_41 (by decide) (fun c_443 => ?_) (fun c_443 => ?_)
        · replace hf := kifp c_443 hf
          refine lv_aload_n hx hb d_X_copy_50 rfl (lv_at hl 0 rfl) ?_
          refine k_get X hV 0 8 5 rfl rfl rfl gw_253 rfl rfl d_X_copy_51 ?_
          refine lv_iload_n hx hb d_X_copy_54 rfl (lv_at hl 1 rfl) ?_
          refine k_aald (q := h_sheets_2) X hV 1 2 rfl rfl kin_2_4 rfl d_X_copy_55 ?_
          refine k_get X hV 6 4 1 rfl rfl rfl gw_238 rfl rfl d_X_copy_56 ?_
          refine lv_aload_n hx hb d_X_copy_59 rfl (lv_at hl 0 rfl) ?_
          refine k_get X hV 0 8 5 rfl rfl rfl gw_253 rfl rfl d_X_copy_60 ?_
          refine lv_iload_n hx hb d_X_copy_63 rfl (lv_at hl 3 rfl) ?_
          refine k_aald (q := h_sheets_2) X hV 1 2 rfl rfl kin_2_4 rfl d_X_copy_64 ?_
          refine k_get X hV 6 4 1 rfl rfl rfl gw_238 rfl rfl d_X_copy_65 ?_
          refine lv_icmp_eq (tgt := 77) hx hb d_X_copy_68 (by decide) (fun c_444 => ?_) (fun c_444 => ?_)
          · replace hf := kifp c_444 hf
            refine lv_aload_n hx hb d_X_copy_77 rfl (lv_at hl 0 rfl) ?_
            refine k_get X hV 0 8 5 rfl rfl rfl gw_253 rfl rfl d_X_copy_78 ?_
            refine lv_iload_n hx hb d_X_copy_81 rfl (lv_at hl 1 rfl) ?_
            refine k_aald (q := h_sheets_2) X hV 1 2 rfl rfl kin_2_4 rfl d_X_copy_82 ?_
            refine lv_iload_n hx hb d_X_copy_83 rfl (lv_at hl 2 rfl) ?_
            refine lv_iload hx hb d_X_copy_84 (lv_at hl 5 rfl) ?_
            obtain ⟨r_445, hc_446, hf⟩ := kb1_some hf
            refine k_cvi (w1 := (wd_Sh_hasRun D h_sheets_2 h_sheets_2_numbers v_sheets_2_bits v_sheets_2_size)) (r := r_445) (ws' := (wd_X_copy D h h_here h_kept h_trial h_parts h_text h_sheets h_findings h_sheets_0 h_sheets_1 h_sheets_2 h_sheets_3 h_sheets_0_numbers h_sheets_1_numbers h_sheets_2_numbers h_sheets_3_numbers v_isKept v_sheets_0_bits v_sheets_0_size v_sheets_0_numbers v_sheets_1_bits v_sheets_1_size v_sheets_1_numbers v_sheets_2_bits v_sheets_2_size v_sheets_2_numbers v_sheets_3_bits v_sheets_3_size v_sheets_3_numbers v_findings)) X hV hl.1 (c_Sh_hasRun D h_sheets_2 h_sheets_2_numbers v_sheets_2_bits v_sheets_2_size x2 x5 hc_446) fk_Sh_hasRun gw_828 rfl 6 4 rfl rfl [6] [none, none, none, none, none, none, some 0, none, none, none, none] rfl rfl ⟨rfl, rfl, rfl, rfl, rfl, rfl, rfl, rfl, rfl, rfl, rfl, rfl, rfl, trivial⟩ rfl rfl rfl d_X_copy_86 (fun H locs hV => ?_)
            refine lv_if_eq (tgt := 108) hx hb d_X_copy_89 (by decide) (fun c_447 => ?_) (fun c_447 => ?_)
            · replace hf := kifp c_447 hf
              exact t_X_copy_3 X hf hV (lv_sub hl [0] rfl)
            replace hf := kifn c_447 hf
            refine lv_aload_n hx hb d_X_copy_92 rfl (lv_at hl 0 rfl) ?_
            refine k_get X hV 0 8 5 rfl rfl rfl gw_253 rfl rfl d_X_copy_93 ?_
            refine lv_iload_n hx hb d_X_copy_96 rfl (lv_at hl 3 rfl) ?_
            refine k_aald (q := h_sheets_2) X hV 1 2 rfl rfl kin_2_4 rfl d_X_copy_97 ?_
            refine lv_iload hx hb d_X_copy_98 (lv_at hl 4 rfl) ?_
            refine lv_iload hx hb d_X_copy_100 (lv_at hl 5 rfl) ?_
            obtain ⟨r_448, hc_449, hf⟩ := kb1_some hf
            refine k_cvi (w1 := (wd_Sh_hasRun D h_sheets_2 h_sheets_2_numbers v_sheets_2_bits v_sheets_2_size)) (r := r_448) (ws' := (wd_X_copy D h h_here h_kept h_trial h_parts h_text h_sheets h_findings h_sheets_0 h_sheets_1 h_sheets_2 h_sheets_3 h_sheets_0_numbers h_sheets_1_numbers h_sheets_2_numbers h_sheets_3_numbers v_isKept v_sheets_0_bits v_sheets_0_size v_sheets_0_numbers v_sheets_1_bits v_sheets_1_size v_sheets_1_numbers v_sheets_2_bits v_sheets_2_size v_sheets_2_numbers v_sheets_3_bits v_sheets_3_size v_sheets_3_numbers v_findings)) X hV hl.1 (c_Sh_hasRun D h_sheets_2 h_sheets_2_numbers v_sheets_2_bits v_sheets_2_size x4 x5 hc_449) fk_Sh_hasRun gw_828 rfl 6 4 rfl rfl [6] [none, none, none, none, none, none, some 0, none, none, none, none] rfl rfl ⟨rfl, rfl, rfl, rfl, rfl, rfl, rfl, rfl, rfl, rfl, rfl, rfl, rfl, trivial⟩ rfl rfl rfl d_X_copy_102 (fun H locs hV => ?_)
            refine lv_if_ne (tgt := 114) hx hb d_X_copy_105 (by decide) (fun c_450 => ?_) (fun c_450 => ?_)
            · replace hf := kifn c_450 hf
              refine lv_aload_n hx hb d_X_copy_114 rfl (lv_at hl 0 rfl) ?_
              refine k_get X hV 0 8 5 rfl rfl rfl gw_253 rfl rfl d_X_copy_115 ?_
              refine lv_iload_n hx hb d_X_copy_118 rfl (lv_at hl 1 rfl) ?_
              refine k_aald (q := h_sheets_2) X hV 1 2 rfl rfl kin_2_4 rfl d_X_copy_119 ?_
              refine k_get X hV 6 4 0 rfl rfl rfl gw_236 rfl rfl d_X_copy_120 ?_
              refine lv_iload_n hx hb d_X_copy_123 rfl (lv_at hl 2 rfl) ?_
              refine lv_aload_n hx hb d_X_copy_124 rfl (lv_at hl 0 rfl) ?_
              refine k_get X hV 0 8 5 rfl rfl rfl gw_253 rfl rfl d_X_copy_125 ?_
              refine lv_iload_n hx hb d_X_copy_128 rfl (lv_at hl 3 rfl) ?_
              refine k_aald (q := h_sheets_2) X hV 1 2 rfl rfl kin_2_4 rfl d_X_copy_129 ?_
              refine k_get X hV 6 4 0 rfl rfl rfl gw_236 rfl rfl d_X_copy_130 ?_
              refine lv_iload hx hb d_X_copy_133 (lv_at hl 4 rfl) ?_
              refine lv_iload hx hb d_X_copy_135 (lv_at hl 5 rfl) ?_
              obtain ⟨h_451, hf⟩ := kchk hf
              refine k_copyl (ws' := (wd_X_copy D h h_here h_kept h_trial h_parts h_text h_sheets h_findings h_sheets_0 h_sheets_1 h_sheets_2 h_sheets_3 h_sheets_0_numbers h_sheets_1_numbers h_sheets_2_numbers h_sheets_3_numbers v_isKept v_sheets_0_bits v_sheets_0_size v_sheets_0_numbers v_sheets_1_bits v_sheets_1_size v_sheets_1_numbers v_sheets_2_bits v_sheets_2_size (va_cpy v_sheets_2_numbers v_sheets_2_numbers x2.toNatClampNeg x4.toNatClampNeg x5.toNatClampNeg) v_sheets_3_bits v_sheets_3_size v_sheets_3_numbers v_findings)) X hV hl.1 gw_832 7 7 rfl rfl h_451 rfl rfl rfl d_X_copy_137 (fun H locs hV => ?_)
              refine lv_iload hx hb d_X_copy_140 (lv_at hl 5 rfl) ?_
              have e_ := Option.some.inj hf
              subst e_
              exact k_iret X rfl hV rfl d_X_copy_142
            replace hf := kifp c_450 hf
            exact t_X_copy_3 X hf hV (lv_sub hl [0] rfl)
          replace hf := kifn c_444 hf
          refine lv_aload_n hx hb d_X_copy_71 rfl (lv_at hl 0 rfl) ?_
          refine lv_iconst (v := 2) hx hb d_X_copy_72 ic_2 ?_
          obtain ⟨r_452, v_findings_453, hc_454, hf⟩ := kb2_some hf
          refine k_cvi (w1 := (wd_X_finding D h h_here h_kept h_trial h_parts h_text h_sheets h_findings v_isKept v_findings_453)) (r := r_452) (ws' := (wd_X_copy D h h_here h_kept h_trial h_parts h_text h_sheets h_findings h_sheets_0 h_sheets_1 h_sheets_2 h_sheets_3 h_sheets_0_numbers h_sheets_1_numbers h_sheets_2_numbers h_sheets_3_numbers v_isKept v_sheets_0_bits v_sheets_0_size v_sheets_0_numbers v_sheets_1_bits v_sheets_1_size v_sheets_1_numbers v_sheets_2_bits v_sheets_2_size v_sheets_2_numbers v_sheets_3_bits v_sheets_3_size v_sheets_3_numbers v_findings_453)) X hV hl.1 (c_X_finding D h h_here h_kept h_trial h_parts h_text h_sheets h_findings v_isKept v_findings (2 : Int32) hc_454) fk_X_finding gw_283 rfl 0 8 rfl rfl [0, 10] [some 0, none, none, none, none, none, none, none, none, none, some 1] rfl rfl ⟨rfl, rfl, rfl, rfl, rfl, rfl, rfl, rfl, rfl, rfl, rfl, rfl, rfl, rfl, rfl, trivial⟩ rfl rfl rfl d_X_copy_73 (fun H locs hV => ?_)
          have e_ := Option.some.inj hf
          subst e_
          exact k_iret X rfl hV rfl d_X_copy_76
        replace hf := kifn c_443 hf
        exact t_X_copy_2 X hf hV (lv_sub hl [0] rfl)
      replace hfs_410 := kifn c_440 hfs_410
      by_cases c_455 : x3 = 3
      · replace hfs_410 := kifp c_455 hfs_410
        subst c_455
        have hf := hfs_410
        have hV := hVs_410
        have hl := hls_410
        refine k_aald (q := h_sheets_3) X hV 1 2 rfl rfl kin_3_4 rfl d_X_copy_37 ?_
        obtain ⟨r_456, hc_457, hf⟩ := kb1_some hf
        refine k_cvi (w1 := (wd_Sh_isMissing D h_sheets_3 h_sheets_3_numbers v_sheets_3_bits v_sheets_3_size)) (r := r_456) (ws' := (wd_X_copy D h h_here h_kept h_trial h_parts h_text h_sheets h_findings h_sheets_0 h_sheets_1 h_sheets_2 h_sheets_3 h_sheets_0_numbers h_sheets_1_numbers h_sheets_2_numbers h_sheets_3_numbers v_isKept v_sheets_0_bits v_sheets_0_size v_sheets_0_numbers v_sheets_1_bits v_sheets_1_size v_sheets_1_numbers v_sheets_2_bits v_sheets_2_size v_sheets_2_numbers v_sheets_3_bits v_sheets_3_size v_sheets_3_numbers v_findings)) X hV hl.1 (c_Sh_isMissing D h_sheets_3 h_sheets_3_numbers v_sheets_3_bits v_sheets_3_size hc_457) fk_Sh_isMissing gw_815 rfl 8 4 rfl rfl [8] [none, none, none, none, none, none, none, none, some 0, none, none] rfl rfl ⟨rfl, rfl, rfl, rfl, rfl, rfl, rfl, rfl, rfl, rfl, rfl, rfl, rfl, trivial⟩ rfl rfl rfl d_X_copy_38 (fun H locs hV => ?_)
        refine lv_if_eq (tgt := 50) hx hb d_X_copy_41 (by decide) (fun c_458 => ?_) (fun c_458 => ?_)
        · replace hf := kifp c_458 hf
          refine lv_aload_n hx hb d_X_copy_50 rfl (lv_at hl 0 rfl) ?_
          refine k_get X hV 0 8 5 rfl rfl rfl gw_253 rfl rfl d_X_copy_51 ?_
          refine lv_iload_n hx hb d_X_copy_54 rfl (lv_at hl 1 rfl) ?_
          refine k_aald (q := h_sheets_2) X hV 1 2 rfl rfl kin_2_4 rfl d_X_copy_55 ?_
          refine k_get X hV 6 4 1 rfl rfl rfl gw_238 rfl rfl d_X_copy_56 ?_
          refine lv_aload_n hx hb d_X_copy_59 rfl (lv_at hl 0 rfl) ?_
          refine k_get X hV 0 8 5 rfl rfl rfl gw_253 rfl rfl d_X_copy_60 ?_
          refine lv_iload_n hx hb d_X_copy_63 rfl (lv_at hl 3 rfl) ?_
          refine k_aald (q := h_sheets_3) X hV 1 2 rfl rfl kin_3_4 rfl d_X_copy_64 ?_
          refine k_get X hV 8 4 1 rfl rfl rfl gw_238 rfl rfl d_X_copy_65 ?_
          refine lv_icmp_eq (tgt := 77) hx hb d_X_copy_68 (by decide) (fun c_459 => ?_) (fun c_459 => ?_)
          · replace hf := kifp c_459 hf
            refine lv_aload_n hx hb d_X_copy_77 rfl (lv_at hl 0 rfl) ?_
            refine k_get X hV 0 8 5 rfl rfl rfl gw_253 rfl rfl d_X_copy_78 ?_
            refine lv_iload_n hx hb d_X_copy_81 rfl (lv_at hl 1 rfl) ?_
            refine k_aald (q := h_sheets_2) X hV 1 2 rfl rfl kin_2_4 rfl d_X_copy_82 ?_
            refine lv_iload_n hx hb d_X_copy_83 rfl (lv_at hl 2 rfl) ?_
            refine lv_iload hx hb d_X_copy_84 (lv_at hl 5 rfl) ?_
            obtain ⟨r_460, hc_461, hf⟩ := kb1_some hf
            refine k_cvi (w1 := (wd_Sh_hasRun D h_sheets_2 h_sheets_2_numbers v_sheets_2_bits v_sheets_2_size)) (r := r_460) (ws' := (wd_X_copy D h h_here h_kept h_trial h_parts h_text h_sheets h_findings h_sheets_0 h_sheets_1 h_sheets_2 h_sheets_3 h_sheets_0_numbers h_sheets_1_numbers h_sheets_2_numbers h_sheets_3_numbers v_isKept v_sheets_0_bits v_sheets_0_size v_sheets_0_numbers v_sheets_1_bits v_sheets_1_size v_sheets_1_numbers v_sheets_2_bits v_sheets_2_size v_sheets_2_numbers v_sheets_3_bits v_sheets_3_size v_sheets_3_numbers v_findings)) X hV hl.1 (c_Sh_hasRun D h_sheets_2 h_sheets_2_numbers v_sheets_2_bits v_sheets_2_size x2 x5 hc_461) fk_Sh_hasRun gw_828 rfl 6 4 rfl rfl [6] [none, none, none, none, none, none, some 0, none, none, none, none] rfl rfl ⟨rfl, rfl, rfl, rfl, rfl, rfl, rfl, rfl, rfl, rfl, rfl, rfl, rfl, trivial⟩ rfl rfl rfl d_X_copy_86 (fun H locs hV => ?_)
            refine lv_if_eq (tgt := 108) hx hb d_X_copy_89 (by decide) (fun c_462 => ?_) (fun c_462 => ?_)
            · replace hf := kifp c_462 hf
              exact t_X_copy_3 X hf hV (lv_sub hl [0] rfl)
            replace hf := kifn c_462 hf
            refine lv_aload_n hx hb d_X_copy_92 rfl (lv_at hl 0 rfl) ?_
            refine k_get X hV 0 8 5 rfl rfl rfl gw_253 rfl rfl d_X_copy_93 ?_
            refine lv_iload_n hx hb d_X_copy_96 rfl (lv_at hl 3 rfl) ?_
            refine k_aald (q := h_sheets_3) X hV 1 2 rfl rfl kin_3_4 rfl d_X_copy_97 ?_
            refine lv_iload hx hb d_X_copy_98 (lv_at hl 4 rfl) ?_
            refine lv_iload hx hb d_X_copy_100 (lv_at hl 5 rfl) ?_
            obtain ⟨r_463, hc_464, hf⟩ := kb1_some hf
            refine k_cvi (w1 := (wd_Sh_hasRun D h_sheets_3 h_sheets_3_numbers v_sheets_3_bits v_sheets_3_size)) (r := r_463) (ws' := (wd_X_copy D h h_here h_kept h_trial h_parts h_text h_sheets h_findings h_sheets_0 h_sheets_1 h_sheets_2 h_sheets_3 h_sheets_0_numbers h_sheets_1_numbers h_sheets_2_numbers h_sheets_3_numbers v_isKept v_sheets_0_bits v_sheets_0_size v_sheets_0_numbers v_sheets_1_bits v_sheets_1_size v_sheets_1_numbers v_sheets_2_bits v_sheets_2_size v_sheets_2_numbers v_sheets_3_bits v_sheets_3_size v_sheets_3_numbers v_findings)) X hV hl.1 (c_Sh_hasRun D h_sheets_3 h_sheets_3_numbers v_sheets_3_bits v_sheets_3_size x4 x5 hc_464) fk_Sh_hasRun gw_828 rfl 8 4 rfl rfl [8] [none, none, none, none, none, none, none, none, some 0, none, none] rfl rfl ⟨rfl, rfl, rfl, rfl, rfl, rfl, rfl, rfl, rfl, rfl, rfl, rfl, rfl, trivial⟩ rfl rfl rfl d_X_copy_102 (fun H locs hV => ?_)
            refine lv_if_ne (tgt := 114) hx hb d_X_copy_105 (by decide) (fun c_465 => ?_) (fun c_465 => ?_)
            · replace hf := kifn c_465 hf
              refine lv_aload_n hx hb d_X_copy_114 rfl (lv_at hl 0 rfl) ?_
              refine k_get X hV 0 8 5 rfl rfl rfl gw_253 rfl rfl d_X_copy_115 ?_
              refine lv_iload_n hx hb d_X_copy_118 rfl (lv_at hl 1 rfl) ?_
              refine k_aald (q := h_sheets_2) X hV 1 2 rfl rfl kin_2_4 rfl d_X_copy_119 ?_
              refine k_get X hV 6 4 0 rfl rfl rfl gw_236 rfl rfl d_X_copy_120 ?_
              refine lv_iload_n hx hb d_X_copy_123 rfl (lv_at hl 2 rfl) ?_
              refine lv_aload_n hx hb d_X_copy_124 rfl (lv_at hl 0 rfl) ?_
              refine k_get X hV 0 8 5 rfl rfl rfl gw_253 rfl rfl d_X_copy_125 ?_
              refine lv_iload_n hx hb d_X_copy_128 rfl (lv_at hl 3 rfl) ?_
              refine k_aald (q := h_sheets_3) X hV 1 2 rfl rfl kin_3_4 rfl d_X_copy_129 ?_
              refine k_get X hV 8 4 0 rfl rfl rfl gw_236 rfl rfl d_X_copy_130 ?_
              refine lv_iload hx hb d_X_copy_133 (lv_at hl 4 rfl) ?_
              refine lv_iload hx hb d_X_copy_135 (lv_at hl 5 rfl) ?_
              obtain ⟨h_466, hf⟩ := kchk hf
              refine k_copyl (ws' := (wd_X_copy D h h_here h_kept h_trial h_parts h_text h_sheets h_findings h_sheets_0 h_sheets_1 h_sheets_2 h_sheets_3 h_sheets_0_numbers h_sheets_1_numbers h_sheets_2_numbers h_sheets_3_numbers v_isKept v_sheets_0_bits v_sheets_0_size v_sheets_0_numbers v_sheets_1_bits v_sheets_1_size v_sheets_1_numbers v_sheets_2_bits v_sheets_2_size v_sheets_2_numbers v_sheets_3_bits v_sheets_3_size (va_cpy v_sheets_2_numbers v_sheets_3_numbers x2.toNatClampNeg x4.toNatClampNeg x5.toNatClampNeg) v_findings)) X hV hl.1 gw_832 7 9 rfl rfl h_466 rfl rfl rfl d_X_copy_137 (fun H locs hV => ?_)
              refine lv_iload hx hb d_X_copy_140 (lv_at hl 5 rfl) ?_
              have e_ := Option.some.inj hf
              subst e_
              exact k_iret X rfl hV rfl d_X_copy_142
            replace hf := kifp c_465 hf
            exact t_X_copy_3 X hf hV (lv_sub hl [0] rfl)
          replace hf := kifn c_459 hf
          refine lv_aload_n hx hb d_X_copy_71 rfl (lv_at hl 0 rfl) ?_
          refine lv_iconst (v := 2) hx hb d_X_copy_72 ic_2 ?_
          obtain ⟨r_467, v_findings_468, hc_469, hf⟩ := kb2_some hf
          refine k_cvi (w1 := (wd_X_finding D h h_here h_kept h_trial h_parts h_text h_sheets h_findings v_isKept v_findings_468)) (r := r_467) (ws' := (wd_X_copy D h h_here h_kept h_trial h_parts h_text h_sheets h_findings h_sheets_0 h_sheets_1 h_sheets_2 h_sheets_3 h_sheets_0_numbers h_sheets_1_numbers h_sheets_2_numbers h_sheets_3_numbers v_isKept v_sheets_0_bits v_sheets_0_size v_sheets_0_numbers v_sheets_1_bits v_sheets_1_size v_sheets_1_numbers v_sheets_2_bits v_sheets_2_size v_sheets_2_numbers v_sheets_3_bits v_sheets_3_size v_sheets_3_numbers v_findings_468)) X hV hl.1 (c_X_finding D h h_here h_kept h_trial h_parts h_text h_sheets h_findings v_isKept v_findings (2 : Int32) hc_469) fk_X_finding gw_283 rfl 0 8 rfl rfl [0, 10] [some 0, none, none, none, none, none, none, none, none, none, some 1] rfl rfl ⟨rfl, rfl, rfl, rfl, rfl, rfl, rfl, rfl, rfl, rfl, rfl, rfl, rfl, rfl, rfl, trivial⟩ rfl rfl rfl d_X_copy_73 (fun H locs hV => ?_)
          have e_ := Option.some.inj hf
          subst e_
          exact k_iret X rfl hV rfl d_X_copy_76
        replace hf := kifn c_458 hf
        exact t_X_copy_2 X hf hV (lv_sub hl [0] rfl)
      replace hfs_410 := kifn c_455 hfs_410
      exact knone hfs_410
    replace hfs_278 := kifn c_406 hfs_278
    by_cases c_470 : x1 = 3
    · replace hfs_278 := kifp c_470 hfs_278
      subst c_470
      have hf := hfs_278
      have hV := hVs_278
      have hl := hls_278
      refine k_aald (q := h_sheets_3) X hV 1 2 rfl rfl kin_3_4 rfl d_X_copy_25 ?_
      obtain ⟨r_471, hc_472, hf⟩ := kb1_some hf
      refine k_cvi (w1 := (wd_Sh_isMissing D h_sheets_3 h_sheets_3_numbers v_sheets_3_bits v_sheets_3_size)) (r := r_471) (ws' := (wd_X_copy D h h_here h_kept h_trial h_parts h_text h_sheets h_findings h_sheets_0 h_sheets_1 h_sheets_2 h_sheets_3 h_sheets_0_numbers h_sheets_1_numbers h_sheets_2_numbers h_sheets_3_numbers v_isKept v_sheets_0_bits v_sheets_0_size v_sheets_0_numbers v_sheets_1_bits v_sheets_1_size v_sheets_1_numbers v_sheets_2_bits v_sheets_2_size v_sheets_2_numbers v_sheets_3_bits v_sheets_3_size v_sheets_3_numbers v_findings)) X hV hl.1 (c_Sh_isMissing D h_sheets_3 h_sheets_3_numbers v_sheets_3_bits v_sheets_3_size hc_472) fk_Sh_isMissing gw_815 rfl 8 4 rfl rfl [8] [none, none, none, none, none, none, none, none, some 0, none, none] rfl rfl ⟨rfl, rfl, rfl, rfl, rfl, rfl, rfl, rfl, rfl, rfl, rfl, rfl, rfl, trivial⟩ rfl rfl rfl d_X_copy_26 (fun H locs hV => ?_)
      refine lv_if_ne (tgt := 44) hx hb d_X_copy_29 (by decide) (fun c_473 => ?_) (fun c_473 => ?_)
      · replace hf := kifn c_473 hf
        exact t_X_copy_2 X hf hV (lv_sub hl [0] rfl)
      replace hf := kifp c_473 hf
      refine lv_aload_n hx hb d_X_copy_32 rfl (lv_at hl 0 rfl) ?_
      refine k_get X hV 0 8 5 rfl rfl rfl gw_253 rfl rfl d_X_copy_33 ?_
      refine lv_iload_n hx hb d_X_copy_36 rfl (lv_at hl 3 rfl) ?_
      have hfs_474 := hf
      have hVs_474 := hV
      have hls_474 := hl
      by_cases c_474 : x3 = 0
      · replace hfs_474 := kifp c_474 hfs_474
        subst c_474
        have hf := hfs_474
        have hV := hVs_474
        have hl := hls_474
        refine k_aald (q := h_sheets_0) X hV 1 2 rfl rfl kin_0_4 rfl d_X_copy_37 ?_
        obtain ⟨r_475, hc_476, hf⟩ := kb1_some hf
        refine k_cvi (w1 := (wd_Sh_isMissing D h_sheets_0 h_sheets_0_numbers v_sheets_0_bits v_sheets_0_size)) (r := r_475) (ws' := (wd_X_copy D h h_here h_kept h_trial h_parts h_text h_sheets h_findings h_sheets_0 h_sheets_1 h_sheets_2 h_sheets_3 h_sheets_0_numbers h_sheets_1_numbers h_sheets_2_numbers h_sheets_3_numbers v_isKept v_sheets_0_bits v_sheets_0_size v_sheets_0_numbers v_sheets_1_bits v_sheets_1_size v_sheets_1_numbers v_sheets_2_bits v_sheets_2_size v_sheets_2_numbers v_sheets_3_bits v_sheets_3_size v_sheets_3_numbers v_findings)) X hV hl.1 (c_Sh_isMissing D h_sheets_0 h_sheets_0_numbers v_sheets_0_bits v_sheets_0_size hc_476) fk_Sh_isMissing gw_815 rfl 2 4 rfl rfl [2] [none, none, some 0, none, none, none, none, none, none, none, none] rfl rfl ⟨rfl, rfl, rfl, rfl, rfl, rfl, rfl, rfl, rfl, rfl, rfl, rfl, rfl, trivial⟩ rfl rfl rfl d_X_copy_38 (fun H locs hV => ?_)
        refine lv_if_eq (tgt := 50) hx hb d_X_copy_41 (by decide) (fun c_477 => ?_) (fun c_477 => ?_)
        · replace hf := kifp c_477 hf
          refine lv_aload_n hx hb d_X_copy_50 rfl (lv_at hl 0 rfl) ?_
          refine k_get X hV 0 8 5 rfl rfl rfl gw_253 rfl rfl d_X_copy_51 ?_
          refine lv_iload_n hx hb d_X_copy_54 rfl (lv_at hl 1 rfl) ?_
          refine k_aald (q := h_sheets_3) X hV 1 2 rfl rfl kin_3_4 rfl d_X_copy_55 ?_
          refine k_get X hV 8 4 1 rfl rfl rfl gw_238 rfl rfl d_X_copy_56 ?_
          refine lv_aload_n hx hb d_X_copy_59 rfl (lv_at hl 0 rfl) ?_
          refine k_get X hV 0 8 5 rfl rfl rfl gw_253 rfl rfl d_X_copy_60 ?_
          refine lv_iload_n hx hb d_X_copy_63 rfl (lv_at hl 3 rfl) ?_
          refine k_aald (q := h_sheets_0) X hV 1 2 rfl rfl kin_0_4 rfl d_X_copy_64 ?_
          refine k_get X hV 2 4 1 rfl rfl rfl gw_238 rfl rfl d_X_copy_65 ?_
          refine lv_icmp_eq (tgt := 77) hx hb d_X_copy_68 (by decide) (fun c_478 => ?_) (fun c_478 => ?_)
          · replace hf := kifp c_478 hf
            refine lv_aload_n hx hb d_X_copy_77 rfl (lv_at hl 0 rfl) ?_
            refine k_get X hV 0 8 5 rfl rfl rfl gw_253 rfl rfl d_X_copy_78 ?_
            refine lv_iload_n hx hb d_X_copy_81 rfl (lv_at hl 1 rfl) ?_
            refine k_aald (q := h_sheets_3) X hV 1 2 rfl rfl kin_3_4 rfl d_X_copy_82 ?_
            refine lv_iload_n hx hb d_X_copy_83 rfl (lv_at hl 2 rfl) ?_
            refine lv_iload hx hb d_X_copy_84 (lv_at hl 5 rfl) ?_
            obtain ⟨r_479, hc_480, hf⟩ := kb1_some hf
            refine k_cvi (w1 := (wd_Sh_hasRun D h_sheets_3 h_sheets_3_numbers v_sheets_3_bits v_sheets_3_size)) (r := r_479) (ws' := (wd_X_copy D h h_here h_kept h_trial h_parts h_text h_sheets h_findings h_sheets_0 h_sheets_1 h_sheets_2 h_sheets_3 h_sheets_0_numbers h_sheets_1_numbers h_sheets_2_numbers h_sheets_3_numbers v_isKept v_sheets_0_bits v_sheets_0_size v_sheets_0_numbers v_sheets_1_bits v_sheets_1_size v_sheets_1_numbers v_sheets_2_bits v_sheets_2_size v_sheets_2_numbers v_sheets_3_bits v_sheets_3_size v_sheets_3_numbers v_findings)) X hV hl.1 (c_Sh_hasRun D h_sheets_3 h_sheets_3_numbers v_sheets_3_bits v_sheets_3_size x2 x5 hc_480) fk_Sh_hasRun gw_828 rfl 8 4 rfl rfl [8] [none, none, none, none, none, none, none, none, some 0, none, none] rfl rfl ⟨rfl, rfl, rfl, rfl, rfl, rfl, rfl, rfl, rfl, rfl, rfl, rfl, rfl, trivial⟩ rfl rfl rfl d_X_copy_86 (fun H locs hV => ?_)
            refine lv_if_eq (tgt := 108) hx hb d_X_copy_89 (by decide) (fun c_481 => ?_) (fun c_481 => ?_)
            · replace hf := kifp c_481 hf
              exact t_X_copy_3 X hf hV (lv_sub hl [0] rfl)
            replace hf := kifn c_481 hf
            refine lv_aload_n hx hb d_X_copy_92 rfl (lv_at hl 0 rfl) ?_
            refine k_get X hV 0 8 5 rfl rfl rfl gw_253 rfl rfl d_X_copy_93 ?_
            refine lv_iload_n hx hb d_X_copy_96 rfl (lv_at hl 3 rfl) ?_
            refine k_aald (q := h_sheets_0) X hV 1 2 rfl rfl kin_0_4 rfl d_X_copy_97 ?_
            refine lv_iload hx hb d_X_copy_98 (lv_at hl 4 rfl) ?_
            refine lv_iload hx hb d_X_copy_100 (lv_at hl 5 rfl) ?_
            obtain ⟨r_482, hc_483, hf⟩ := kb1_some hf
            refine k_cvi (w1 := (wd_Sh_hasRun D h_sheets_0 h_sheets_0_numbers v_sheets_0_bits v_sheets_0_size)) (r := r_482) (ws' := (wd_X_copy D h h_here h_kept h_trial h_parts h_text h_sheets h_findings h_sheets_0 h_sheets_1 h_sheets_2 h_sheets_3 h_sheets_0_numbers h_sheets_1_numbers h_sheets_2_numbers h_sheets_3_numbers v_isKept v_sheets_0_bits v_sheets_0_size v_sheets_0_numbers v_sheets_1_bits v_sheets_1_size v_sheets_1_numbers v_sheets_2_bits v_sheets_2_size v_sheets_2_numbers v_sheets_3_bits v_sheets_3_size v_sheets_3_numbers v_findings)) X hV hl.1 (c_Sh_hasRun D h_sheets_0 h_sheets_0_numbers v_sheets_0_bits v_sheets_0_size x4 x5 hc_483) fk_Sh_hasRun gw_828 rfl 2 4 rfl rfl [2] [none, none, some 0, none, none, none, none, none, none, none, none] rfl rfl ⟨rfl, rfl, rfl, rfl, rfl, rfl, rfl, rfl, rfl, rfl, rfl, rfl, rfl, trivial⟩ rfl rfl rfl d_X_copy_102 (fun H locs hV => ?_)
            refine lv_if_ne (tgt := 114) hx hb d_X_copy_105 (by decide) (fun c_484 => ?_) (fun c_484 => ?_)
            · replace hf := kifn c_484 hf
              refine lv_aload_n hx hb d_X_copy_114 rfl (lv_at hl 0 rfl) ?_
              refine k_get X hV 0 8 5 rfl rfl rfl gw_253 rfl rfl d_X_copy_115 ?_
              refine lv_iload_n hx hb d_X_copy_118 rfl (lv_at hl 1 rfl) ?_
              refine k_aald (q := h_sheets_3) X hV 1 2 rfl rfl kin_3_4 rfl d_X_copy_119 ?_
              refine k_get X hV 8 4 0 rfl rfl rfl gw_236 rfl rfl d_X_copy_120 ?_
              refine lv_iload_n hx hb d_X_copy_123 rfl (lv_at hl 2 rfl) ?_
              refine lv_aload_n hx hb d_X_copy_124 rfl (lv_at hl 0 rfl) ?_
              refine k_get X hV 0 8 5 rfl rfl rfl gw_253 rfl rfl d_X_copy_125 ?_
              refine lv_iload_n hx hb d_X_copy_128 rfl (lv_at hl 3 rfl) ?_
              refine k_aald (q := h_sheets_0) X hV 1 2 rfl rfl kin_0_4 rfl d_X_copy_129 ?_
              refine k_get X hV 2 4 0 rfl rfl rfl gw_236 rfl rfl d_X_copy_130 ?_
              refine lv_iload hx hb d_X_copy_133 (lv_at hl 4 rfl) ?_
              refine lv_iload hx hb d_X_copy_135 (lv_at hl 5 rfl) ?_
              obtain ⟨h_485, hf⟩ := kchk hf
              refine k_copyl (ws' := (wd_X_copy D h h_here h_kept h_trial h_parts h_text h_sheets h_findings h_sheets_0 h_sheets_1 h_sheets_2 h_sheets_3 h_sheets_0_numbers h_sheets_1_numbers h_sheets_2_numbers h_sheets_3_numbers v_isKept v_sheets_0_bits v_sheets_0_size (va_cpy v_sheets_3_numbers v_sheets_0_numbers x2.toNatClampNeg x4.toNatClampNeg x5.toNatClampNeg) v_sheets_1_bits v_sheets_1_size v_sheets_1_numbers v_sheets_2_bits v_sheets_2_size v_sheets_2_numbers v_sheets_3_bits v_sheets_3_size v_sheets_3_numbers v_findings)) X hV hl.1 gw_832 9 3 rfl rfl h_485 rfl rfl rfl d_X_copy_137 (fun H locs hV => ?_)
              refine lv_iload hx hb d_X_copy_140 (lv_at hl 5 rfl) ?_
              have e_ := Option.some.inj hf
              subst e_
              exact k_iret X rfl hV rfl d_X_copy_142
            replace hf := kifp c_484 hf
            exact t_X_copy_3 X hf hV (lv_sub hl [0] rfl)
          replace hf := kifn c_478 hf
          refine lv_aload_n hx hb d_X_copy_71 rfl (lv_at hl 0 rfl) ?_
          refine lv_iconst (v := 2) hx hb d_X_copy_72 ic_2 ?_
          obtain ⟨r_486, v_findings_487, hc_488, hf⟩ := kb2_some hf
          refine k_cvi (w1 := (wd_X_finding D h h_here h_kept h_trial h_parts h_text h_sheets h_findings v_isKept v_findings_487)) (r := r_486) (ws' := (wd_X_copy D h h_here h_kept h_trial h_parts h_text h_sheets h_findings h_sheets_0 h_sheets_1 h_sheets_2 h_sheets_3 h_sheets_0_numbers h_sheets_1_numbers h_sheets_2_numbers h_sheets_3_numbers v_isKept v_sheets_0_bits v_sheets_0_size v_sheets_0_numbers v_sheets_1_bits v_sheets_1_size v_sheets_1_numbers v_sheets_2_bits v_sheets_2_size v_sheets_2_numbers v_sheets_3_bits v_sheets_3_size v_sheets_3_numbers v_findings_487)) X hV hl.1 (c_X_finding D h h_here h_kept h_trial h_parts h_text h_sheets h_findings v_isKept v_findings (2 : Int32) hc_488) fk_X_finding gw_283 rfl 0 8 rfl rfl [0, 10] [some 0, none, none, none, none, none, none, none, none, none, some 1] rfl rfl ⟨rfl, rfl, rfl, rfl, rfl, rfl, rfl, rfl, rfl, rfl, rfl, rfl, rfl, rfl, rfl, trivial⟩ rfl rfl rfl d_X_copy_73 (fun H locs hV => ?_)
          have e_ := Option.some.inj hf
          subst e_
          exact k_iret X rfl hV rfl d_X_copy_76
        replace hf := kifn c_477 hf
        exact t_X_copy_2 X hf hV (lv_sub hl [0] rfl)
      replace hfs_474 := kifn c_474 hfs_474
      by_cases c_489 : x3 = 1
      · replace hfs_474 := kifp c_489 hfs_474
        subst c_489
        have hf := hfs_474
        have hV := hVs_474
        have hl := hls_474
        refine k_aald (q := h_sheets_1) X hV 1 2 rfl rfl kin_1_4 rfl d_X_copy_37 ?_
        obtain ⟨r_490, hc_491, hf⟩ := kb1_some hf
        refine k_cvi (w1 := (wd_Sh_isMissing D h_sheets_1 h_sheets_1_numbers v_sheets_1_bits v_sheets_1_size)) (r := r_490) (ws' := (wd_X_copy D h h_here h_kept h_trial h_parts h_text h_sheets h_findings h_sheets_0 h_sheets_1 h_sheets_2 h_sheets_3 h_sheets_0_numbers h_sheets_1_numbers h_sheets_2_numbers h_sheets_3_numbers v_isKept v_sheets_0_bits v_sheets_0_size v_sheets_0_numbers v_sheets_1_bits v_sheets_1_size v_sheets_1_numbers v_sheets_2_bits v_sheets_2_size v_sheets_2_numbers v_sheets_3_bits v_sheets_3_size v_sheets_3_numbers v_findings)) X hV hl.1 (c_Sh_isMissing D h_sheets_1 h_sheets_1_numbers v_sheets_1_bits v_sheets_1_size hc_491) fk_Sh_isMissing gw_815 rfl 4 4 rfl rfl [4] [none, none, none, none, some 0, none, none, none, none, none, none] rfl rfl ⟨rfl, rfl, rfl, rfl, rfl, rfl, rfl, rfl, rfl, rfl, rfl, rfl, rfl, trivial⟩ rfl rfl rfl d_X_copy_38 (fun H locs hV => ?_)
        refine lv_if_eq (tgt := 50) hx hb d_X_copy_41 (by decide) (fun c_492 => ?_) (fun c_492 => ?_)
        · replace hf := kifp c_492 hf
          refine lv_aload_n hx hb d_X_copy_50 rfl (lv_at hl 0 rfl) ?_
          refine k_get X hV 0 8 5 rfl rfl rfl gw_253 rfl rfl d_X_copy_51 ?_
          refine lv_iload_n hx hb d_X_copy_54 rfl (lv_at hl 1 rfl) ?_
          refine k_aald (q := h_sheets_3) X hV 1 2 rfl rfl kin_3_4 rfl d_X_copy_55 ?_
          refine k_get X hV 8 4 1 rfl rfl rfl gw_238 rfl rfl d_X_copy_56 ?_
          refine lv_aload_n hx hb d_X_copy_59 rfl (lv_at hl 0 rfl) ?_
          refine k_get X hV 0 8 5 rfl rfl rfl gw_253 rfl rfl d_X_copy_60 ?_
          refine lv_iload_n hx hb d_X_copy_63 rfl (lv_at hl 3 rfl) ?_
          refine k_aald (q := h_sheets_1) X hV 1 2 rfl rfl kin_1_4 rfl d_X_copy_64 ?_
          refine k_get X hV 4 4 1 rfl rfl rfl gw_238 rfl rfl d_X_copy_65 ?_
          refine lv_icmp_eq (tgt := 77) hx hb d_X_copy_68 (by decide) (fun c_493 => ?_) (fun c_493 => ?_)
          · replace hf := kifp c_493 hf
            refine lv_aload_n hx hb d_X_copy_77 rfl (lv_at hl 0 rfl) ?_
            refine k_get X hV 0 8 5 rfl rfl rfl gw_253 rfl rfl d_X_copy_78 ?_
            refine lv_iload_n hx hb d_X_copy_81 rfl (lv_at hl 1 rfl) ?_
            refine k_aald (q := h_sheets_3) X hV 1 2 rfl rfl kin_3_4 rfl d_X_copy_82 ?_
            refine lv_iload_n hx hb d_X_copy_83 rfl (lv_at hl 2 rfl) ?_
            refine lv_iload hx hb d_X_copy_84 (lv_at hl 5 rfl) ?_
            obtain ⟨r_494, hc_495, hf⟩ := kb1_some hf
            refine k_cvi (w1 := (wd_Sh_hasRun D h_sheets_3 h_sheets_3_numbers v_sheets_3_bits v_sheets_3_size)) (r := r_494) (ws' := (wd_X_copy D h h_here h_kept h_trial h_parts h_text h_sheets h_findings h_sheets_0 h_sheets_1 h_sheets_2 h_sheets_3 h_sheets_0_numbers h_sheets_1_numbers h_sheets_2_numbers h_sheets_3_numbers v_isKept v_sheets_0_bits v_sheets_0_size v_sheets_0_numbers v_sheets_1_bits v_sheets_1_size v_sheets_1_numbers v_sheets_2_bits v_sheets_2_size v_sheets_2_numbers v_sheets_3_bits v_sheets_3_size v_sheets_3_numbers v_findings)) X hV hl.1 (c_Sh_hasRun D h_sheets_3 h_sheets_3_numbers v_sheets_3_bits v_sheets_3_size x2 x5 hc_495) fk_Sh_hasRun gw_828 rfl 8 4 rfl rfl [8] [none, none, none, none, none, none, none, none, some 0, none, none] rfl rfl ⟨rfl, rfl, rfl, rfl, rfl, rfl, rfl, rfl, rfl, rfl, rfl, rfl, rfl, trivial⟩ rfl rfl rfl d_X_copy_86 (fun H locs hV => ?_)
            refine lv_if_eq (tgt := 108) hx hb d_X_copy_89 (by decide) (fun c_496 => ?_) (fun c_496 => ?_)
            · replace hf := kifp c_496 hf
              exact t_X_copy_3 X hf hV (lv_sub hl [0] rfl)
            replace hf := kifn c_496 hf
            refine lv_aload_n hx hb d_X_copy_92 rfl (lv_at hl 0 rfl) ?_
            refine k_get X hV 0 8 5 rfl rfl rfl gw_253 rfl rfl d_X_copy_93 ?_
            refine lv_iload_n hx hb d_X_copy_96 rfl (lv_at hl 3 rfl) ?_
            refine k_aald (q := h_sheets_1) X hV 1 2 rfl rfl kin_1_4 rfl d_X_copy_97 ?_
            refine lv_iload hx hb d_X_copy_98 (lv_at hl 4 rfl) ?_
            refine lv_iload hx hb d_X_copy_100 (lv_at hl 5 rfl) ?_
            obtain ⟨r_497, hc_498, hf⟩ := kb1_some hf
            refine k_cvi (w1 := (wd_Sh_hasRun D h_sheets_1 h_sheets_1_numbers v_sheets_1_bits v_sheets_1_size)) (r := r_497) (ws' := (wd_X_copy D h h_here h_kept h_trial h_parts h_text h_sheets h_findings h_sheets_0 h_sheets_1 h_sheets_2 h_sheets_3 h_sheets_0_numbers h_sheets_1_numbers h_sheets_2_numbers h_sheets_3_numbers v_isKept v_sheets_0_bits v_sheets_0_size v_sheets_0_numbers v_sheets_1_bits v_sheets_1_size v_sheets_1_numbers v_sheets_2_bits v_sheets_2_size v_sheets_2_numbers v_sheets_3_bits v_sheets_3_size v_sheets_3_numbers v_findings)) X hV hl.1 (c_Sh_hasRun D h_sheets_1 h_sheets_1_numbers v_sheets_1_bits v_sheets_1_size x4 x5 hc_498) fk_Sh_hasRun gw_828 rfl 4 4 rfl rfl [4] [none, none, none, none, some 0, none, none, none, none, none, none] rfl rfl ⟨rfl, rfl, rfl, rfl, rfl, rfl, rfl, rfl, rfl, rfl, rfl, rfl, rfl, trivial⟩ rfl rfl rfl d_X_copy_102 (fun H locs hV => ?_)
            refine lv_if_ne (tgt := 114) hx hb d_X_copy_105 (by decide) (fun c_499 => ?_) (fun c_499 => ?_)
            · replace hf := kifn c_499 hf
              refine lv_aload_n hx hb d_X_copy_114 rfl (lv_at hl 0 rfl) ?_
              refine k_get X hV 0 8 5 rfl rfl rfl gw_253 rfl rfl d_X_copy_115 ?_
              refine lv_iload_n hx hb d_X_copy_118 rfl (lv_at hl 1 rfl) ?_
              refine k_aald (q := h_sheets_3) X hV 1 2 rfl rfl kin_3_4 rfl d_X_copy_119 ?_
              refine k_get X hV 8 4 0 rfl rfl rfl gw_236 rfl rfl d_X_copy_120 ?_
              refine lv_iload_n hx hb d_X_copy_123 rfl (lv_at hl 2 rfl) ?_
              refine lv_aload_n hx hb d_X_copy_124 rfl (lv_at hl 0 rfl) ?_
              refine k_get X hV 0 8 5 rfl rfl rfl gw_253 rfl rfl d_X_copy_125 ?_
              refine lv_iload_n hx hb d_X_copy_128 rfl (lv_at hl 3 rfl) ?_
              refine k_aald (q := h_sheets_1) X hV 1 2 rfl rfl kin_1_4 rfl d_X_copy_129 ?_
              refine k_get X hV 4 4 0 rfl rfl rfl gw_236 rfl rfl d_X_copy_130 ?_
              refine lv_iload hx hb d_X_copy_133 (lv_at hl 4 rfl) ?_
              refine lv_iload hx hb d_X_copy_135 (lv_at hl 5 rfl) ?_
              obtain ⟨h_500, hf⟩ := kchk hf
              refine k_copyl (ws' := (wd_X_copy D h h_here h_kept h_trial h_parts h_text h_sheets h_findings h_sheets_0 h_sheets_1 h_sheets_2 h_sheets_3 h_sheets_0_numbers h_sheets_1_numbers h_sheets_2_numbers h_sheets_3_numbers v_isKept v_sheets_0_bits v_sheets_0_size v_sheets_0_numbers v_sheets_1_bits v_sheets_1_size (va_cpy v_sheets_3_numbers v_sheets_1_numbers x2.toNatClampNeg x4.toNatClampNeg x5.toNatClampNeg) v_sheets_2_bits v_sheets_2_size v_sheets_2_numbers v_sheets_3_bits v_sheets_3_size v_sheets_3_numbers v_findings)) X hV hl.1 gw_832 9 5 rfl rfl h_500 rfl rfl rfl d_X_copy_137 (fun H locs hV => ?_)
              refine lv_iload hx hb d_X_copy_140 (lv_at hl 5 rfl) ?_
              have e_ := Option.some.inj hf
              subst e_
              exact k_iret X rfl hV rfl d_X_copy_142
            replace hf := kifp c_499 hf
            exact t_X_copy_3 X hf hV (lv_sub hl [0] rfl)
          replace hf := kifn c_493 hf
          refine lv_aload_n hx hb d_X_copy_71 rfl (lv_at hl 0 rfl) ?_
          refine lv_iconst (v := 2) hx hb d_X_copy_72 ic_2 ?_
          obtain ⟨r_501, v_findings_502, hc_503, hf⟩ := kb2_some hf
          refine k_cvi (w1 := (wd_X_finding D h h_here h_kept h_trial h_parts h_text h_sheets h_findings v_isKept v_findings_502)) (r := r_501) (ws' := (wd_X_copy D h h_here h_kept h_trial h_parts h_text h_sheets h_findings h_sheets_0 h_sheets_1 h_sheets_2 h_sheets_3 h_sheets_0_numbers h_sheets_1_numbers h_sheets_2_numbers h_sheets_3_numbers v_isKept v_sheets_0_bits v_sheets_0_size v_sheets_0_numbers v_sheets_1_bits v_sheets_1_size v_sheets_1_numbers v_sheets_2_bits v_sheets_2_size v_sheets_2_numbers v_sheets_3_bits v_sheets_3_size v_sheets_3_numbers v_findings_502)) X hV hl.1 (c_X_finding D h h_here h_kept h_trial h_parts h_text h_sheets h_findings v_isKept v_findings (2 : Int32) hc_503) fk_X_finding gw_283 rfl 0 8 rfl rfl [0, 10] [some 0, none, none, none, none, none, none, none, none, none, some 1] rfl rfl ⟨rfl, rfl, rfl, rfl, rfl, rfl, rfl, rfl, rfl, rfl, rfl, rfl, rfl, rfl, rfl, trivial⟩ rfl rfl rfl d_X_copy_73 (fun H locs hV => ?_)
          have e_ := Option.some.inj hf
          subst e_
          exact k_iret X rfl hV rfl d_X_copy_76
        replace hf := kifn c_492 hf
        exact t_X_copy_2 X hf hV (lv_sub hl [0] rfl)
      replace hfs_474 := kifn c_489 hfs_474
      by_cases c_504 : x3 = 2
      · replace hfs_474 := kifp c_504 hfs_474
        subst c_504
        have hf := hfs_474
        have hV := hVs_474
        have hl := hls_474
        refine k_aald (q := h_sheets_2) X hV 1 2 rfl rfl kin_2_4 rfl d_X_copy_37 ?_
        obtain ⟨r_505, hc_506, hf⟩ := kb1_some hf
        refine k_cvi (w1 := (wd_Sh_isMissing D h_sheets_2 h_sheets_2_numbers v_sheets_2_bits v_sheets_2_size)) (r := r_505) (ws' := (wd_X_copy D h h_here h_kept h_trial h_parts h_text h_sheets h_findings h_sheets_0 h_sheets_1 h_sheets_2 h_sheets_3 h_sheets_0_numbers h_sheets_1_numbers h_sheets_2_numbers h_sheets_3_numbers v_isKept v_sheets_0_bits v_sheets_0_size v_sheets_0_numbers v_sheets_1_bits v_sheets_1_size v_sheets_1_numbers v_sheets_2_bits v_sheets_2_size v_sheets_2_numbers v_sheets_3_bits v_sheets_3_size v_sheets_3_numbers v_findings)) X hV hl.1 (c_Sh_isMissing D h_sheets_2 h_sheets_2_numbers v_sheets_2_bits v_sheets_2_size hc_506) fk_Sh_isMissing gw_815 rfl 6 4 rfl rfl [6] [none, none, none, none, none, none, some 0, none, none, none, none] rfl rfl ⟨rfl, rfl, rfl, rfl, rfl, rfl, rfl, rfl, rfl, rfl, rfl, rfl, rfl, trivial⟩ rfl rfl rfl d_X_copy_38 (fun H locs hV => ?_)
        refine lv_if_eq (tgt := 50) hx hb d_X_copy_41 (by decide) (fun c_507 => ?_) (fun c_507 => ?_)
        · replace hf := kifp c_507 hf
          refine lv_aload_n hx hb d_X_copy_50 rfl (lv_at hl 0 rfl) ?_
          refine k_get X hV 0 8 5 rfl rfl rfl gw_253 rfl rfl d_X_copy_51 ?_
          refine lv_iload_n hx hb d_X_copy_54 rfl (lv_at hl 1 rfl) ?_
          refine k_aald (q := h_sheets_3) X hV 1 2 rfl rfl kin_3_4 rfl d_X_copy_55 ?_
          refine k_get X hV 8 4 1 rfl rfl rfl gw_238 rfl rfl d_X_copy_56 ?_
          refine lv_aload_n hx hb d_X_copy_59 rfl (lv_at hl 0 rfl) ?_
          refine k_get X hV 0 8 5 rfl rfl rfl gw_253 rfl rfl d_X_copy_60 ?_
          refine lv_iload_n hx hb d_X_copy_63 rfl (lv_at hl 3 rfl) ?_
          refine k_aald (q := h_sheets_2) X hV 1 2 rfl rfl kin_2_4 rfl d_X_copy_64 ?_
          refine k_get X hV 6 4 1 rfl rfl rfl gw_238 rfl rfl d_X_copy_65 ?_
          refine lv_icmp_eq (tgt := 77) hx hb d_X_copy_68 (by decide) (fun c_508 => ?_) (fun c_508 => ?_)
          · replace hf := kifp c_508 hf
            refine lv_aload_n hx hb d_X_copy_77 rfl (lv_at hl 0 rfl) ?_
            refine k_get X hV 0 8 5 rfl rfl rfl gw_253 rfl rfl d_X_copy_78 ?_
            refine lv_iload_n hx hb d_X_copy_81 rfl (lv_at hl 1 rfl) ?_
            refine k_aald (q := h_sheets_3) X hV 1 2 rfl rfl kin_3_4 rfl d_X_copy_82 ?_
            refine lv_iload_n hx hb d_X_copy_83 rfl (lv_at hl 2 rfl) ?_
            refine lv_iload hx hb d_X_copy_84 (lv_at hl 5 rfl) ?_
            obtain ⟨r_509, hc_510, hf⟩ := kb1_some hf
            refine k_cvi (w1 := (wd_Sh_hasRun D h_sheets_3 h_sheets_3_numbers v_sheets_3_bits v_sheets_3_size)) (r := r_509) (ws' := (wd_X_copy D h h_here h_kept h_trial h_parts h_text h_sheets h_findings h_sheets_0 h_sheets_1 h_sheets_2 h_sheets_3 h_sheets_0_numbers h_sheets_1_numbers h_sheets_2_numbers h_sheets_3_numbers v_isKept v_sheets_0_bits v_sheets_0_size v_sheets_0_numbers v_sheets_1_bits v_sheets_1_size v_sheets_1_numbers v_sheets_2_bits v_sheets_2_size v_sheets_2_numbers v_sheets_3_bits v_sheets_3_size v_sheets_3_numbers v_findings)) X hV hl.1 (c_Sh_hasRun D h_sheets_3 h_sheets_3_numbers v_sheets_3_bits v_sheets_3_size x2 x5 hc_510) fk_Sh_hasRun gw_828 rfl 8 4 rfl rfl [8] [none, none, none, none, none, none, none, none, some 0, none, none] rfl rfl ⟨rfl, rfl, rfl, rfl, rfl, rfl, rfl, rfl, rfl, rfl, rfl, rfl, rfl, trivial⟩ rfl rfl rfl d_X_copy_86 (fun H locs hV => ?_)
            refine lv_if_eq (tgt := 108) hx hb d_X_copy_89 (by decide) (fun c_511 => ?_) (fun c_511 => ?_)
            · replace hf := kifp c_511 hf
              exact t_X_copy_3 X hf hV (lv_sub hl [0] rfl)
            replace hf := kifn c_511 hf
            refine lv_aload_n hx hb d_X_copy_92 rfl (lv_at hl 0 rfl) ?_
            refine k_get X hV 0 8 5 rfl rfl rfl gw_253 rfl rfl d_X_copy_93 ?_
            refine lv_iload_n hx hb d_X_copy_96 rfl (lv_at hl 3 rfl) ?_
            refine k_aald (q := h_sheets_2) X hV 1 2 rfl rfl kin_2_4 rfl d_X_copy_97 ?_
            refine lv_iload hx hb d_X_copy_98 (lv_at hl 4 rfl) ?_
            refine lv_iload hx hb d_X_copy_100 (lv_at hl 5 rfl) ?_
            obtain ⟨r_512, hc_513, hf⟩ := kb1_some hf
            refine k_cvi (w1 := (wd_Sh_hasRun D h_sheets_2 h_sheets_2_numbers v_sheets_2_bits v_sheets_2_size)) (r := r_512) (ws' := (wd_X_copy D h h_here h_kept h_trial h_parts h_text h_sheets h_findings h_sheets_0 h_sheets_1 h_sheets_2 h_sheets_3 h_sheets_0_numbers h_sheets_1_numbers h_sheets_2_numbers h_sheets_3_numbers v_isKept v_sheets_0_bits v_sheets_0_size v_sheets_0_numbers v_sheets_1_bits v_sheets_1_size v_sheets_1_numbers v_sheets_2_bits v_sheets_2_size v_sheets_2_numbers v_sheets_3_bits v_sheets_3_size v_sheets_3_numbers v_findings)) X hV hl.1 (c_Sh_hasRun D h_sheets_2 h_sheets_2_numbers v_sheets_2_bits v_sheets_2_size x4 x5 hc_513) fk_Sh_hasRun gw_828 rfl 6 4 rfl rfl [6] [none, none, none, none, none, none, some 0, none, none, none, none] rfl rfl ⟨rfl, rfl, rfl, rfl, rfl, rfl, rfl, rfl, rfl, rfl, rfl, rfl, rfl, trivial⟩ rfl rfl rfl d_X_copy_102 (fun H locs hV => ?_)
            refine lv_if_ne (tgt := 114) hx hb d_X_copy_105 (by decide) (fun c_514 => ?_) (fun c_514 => ?_)
            · replace hf := kifn c_514 hf
              refine lv_aload_n hx hb d_X_copy_114 rfl (lv_at hl 0 rfl) ?_
              refine k_get X hV 0 8 5 rfl rfl rfl gw_253 rfl rfl d_X_copy_115 ?_
              refine lv_iload_n hx hb d_X_copy_118 rfl (lv_at hl 1 rfl) ?_
              refine k_aald (q := h_sheets_3) X hV 1 2 rfl rfl kin_3_4 rfl d_X_copy_119 ?_
              refine k_get X hV 8 4 0 rfl rfl rfl gw_236 rfl rfl d_X_copy_120 ?_
              refine lv_iload_n hx hb d_X_copy_123 rfl (lv_at hl 2 rfl) ?_
              refine lv_aload_n hx hb d_X_copy_124 rfl (lv_at hl 0 rfl) ?_
              refine k_get X hV 0 8 5 rfl rfl rfl gw_253 rfl rfl d_X_copy_125 ?_
              refine lv_iload_n hx hb d_X_copy_128 rfl (lv_at hl 3 rfl) ?_
              refine k_aald (q := h_sheets_2) X hV 1 2 rfl rfl kin_2_4 rfl d_X_copy_129 ?_
              refine k_get X hV 6 4 0 rfl rfl rfl gw_236 rfl rfl d_X_copy_130 ?_
              refine lv_iload hx hb d_X_copy_133 (lv_at hl 4 rfl) ?_
              refine lv_iload hx hb d_X_copy_135 (lv_at hl 5 rfl) ?_
              obtain ⟨h_515, hf⟩ := kchk hf
              refine k_copyl (ws' := (wd_X_copy D h h_here h_kept h_trial h_parts h_text h_sheets h_findings h_sheets_0 h_sheets_1 h_sheets_2 h_sheets_3 h_sheets_0_numbers h_sheets_1_numbers h_sheets_2_numbers h_sheets_3_numbers v_isKept v_sheets_0_bits v_sheets_0_size v_sheets_0_numbers v_sheets_1_bits v_sheets_1_size v_sheets_1_numbers v_sheets_2_bits v_sheets_2_size (va_cpy v_sheets_3_numbers v_sheets_2_numbers x2.toNatClampNeg x4.toNatClampNeg x5.toNatClampNeg) v_sheets_3_bits v_sheets_3_size v_sheets_3_numbers v_findings)) X hV hl.1 gw_832 9 7 rfl rfl h_515 rfl rfl rfl d_X_copy_137 (fun H locs hV => ?_)
              refine lv_iload hx hb d_X_copy_140 (lv_at hl 5 rfl) ?_
              have e_ := Option.some.inj hf
              subst e_
              exact k_iret X rfl hV rfl d_X_copy_142
            replace hf := kifp c_514 hf
            exact t_X_copy_3 X hf hV (lv_sub hl [0] rfl)
          replace hf := kifn c_508 hf
          refine lv_aload_n hx hb d_X_copy_71 rfl (lv_at hl 0 rfl) ?_
          refine lv_iconst (v := 2) hx hb d_X_copy_72 ic_2 ?_
          obtain ⟨r_516, v_findings_517, hc_518, hf⟩ := kb2_some hf
          refine k_cvi (w1 := (wd_X_finding D h h_here h_kept h_trial h_parts h_text h_sheets h_findings v_isKept v_findings_517)) (r := r_516) (ws' := (wd_X_copy D h h_here h_kept h_trial h_parts h_text h_sheets h_findings h_sheets_0 h_sheets_1 h_sheets_2 h_sheets_3 h_sheets_0_numbers h_sheets_1_numbers h_sheets_2_numbers h_sheets_3_numbers v_isKept v_sheets_0_bits v_sheets_0_size v_sheets_0_numbers v_sheets_1_bits v_sheets_1_size v_sheets_1_numbers v_sheets_2_bits v_sheets_2_size v_sheets_2_numbers v_sheets_3_bits v_sheets_3_size v_sheets_3_numbers v_findings_517)) X hV hl.1 (c_X_finding D h h_here h_kept h_trial h_parts h_text h_sheets h_findings v_isKept v_findings (2 : Int32) hc_518) fk_X_finding gw_283 rfl 0 8 rfl rfl [0, 10] [some 0, none, none, none, none, none, none, none, none, none, some 1] rfl rfl ⟨rfl, rfl, rfl, rfl, rfl, rfl, rfl, rfl, rfl, rfl, rfl, rfl, rfl, rfl, rfl, trivial⟩ rfl rfl rfl d_X_copy_73 (fun H locs hV => ?_)
          have e_ := Option.some.inj hf
          subst e_
          exact k_iret X rfl hV rfl d_X_copy_76
        replace hf := kifn c_507 hf
        exact t_X_copy_2 X hf hV (lv_sub hl [0] rfl)
      replace hfs_474 := kifn c_504 hfs_474
      by_cases c_519 : x3 = 3
      · replace hfs_474 := kifp c_519 hfs_474
        subst c_519
        have hf := hfs_474
        have hV := hVs_474
        have hl := hls_474
        refine k_aald (q := h_sheets_3) X hV 1 2 rfl rfl kin_3_4 rfl d_X_copy_37 ?_
        obtain ⟨r_520, hc_521, hf⟩ := kb1_some hf
        refine k_cvi (w1 := (wd_Sh_isMissing D h_sheets_3 h_sheets_3_numbers v_sheets_3_bits v_sheets_3_size)) (r := r_520) (ws' := (wd_X_copy D h h_here h_kept h_trial h_parts h_text h_sheets h_findings h_sheets_0 h_sheets_1 h_sheets_2 h_sheets_3 h_sheets_0_numbers h_sheets_1_numbers h_sheets_2_numbers h_sheets_3_numbers v_isKept v_sheets_0_bits v_sheets_0_size v_sheets_0_numbers v_sheets_1_bits v_sheets_1_size v_sheets_1_numbers v_sheets_2_bits v_sheets_2_size v_sheets_2_numbers v_sheets_3_bits v_sheets_3_size v_sheets_3_numbers v_findings)) X hV hl.1 (c_Sh_isMissing D h_sheets_3 h_sheets_3_numbers v_sheets_3_bits v_sheets_3_size hc_521) fk_Sh_isMissing gw_815 rfl 8 4 rfl rfl [8] [none, none, none, none, none, none, none, none, some 0, none, none] rfl rfl ⟨rfl, rfl, rfl, rfl, rfl, rfl, rfl, rfl, rfl, rfl, rfl, rfl, rfl, trivial⟩ rfl rfl rfl d_X_copy_38 (fun H locs hV => ?_)
        refine lv_if_eq (tgt := 50) hx hb d_X_copy_41 (by decide) (fun c_522 => ?_) (fun c_522 => ?_)
        · replace hf := kifp c_522 hf
          refine lv_aload_n hx hb d_X_copy_50 rfl (lv_at hl 0 rfl) ?_
          refine k_get X hV 0 8 5 rfl rfl rfl gw_253 rfl rfl d_X_copy_51 ?_
          refine lv_iload_n hx hb d_X_copy_54 rfl (lv_at hl 1 rfl) ?_
          refine k_aald (q := h_sheets_3) X hV 1 2 rfl rfl kin_3_4 rfl d_X_copy_55 ?_
          refine k_get X hV 8 4 1 rfl rfl rfl gw_238 rfl rfl d_X_copy_56 ?_
          refine lv_aload_n hx hb d_X_copy_59 rfl (lv_at hl 0 rfl) ?_
          refine k_get X hV 0 8 5 rfl rfl rfl gw_253 rfl rfl d_X_copy_60 ?_
          refine lv_iload_n hx hb d_X_copy_63 rfl (lv_at hl 3 rfl) ?_
          refine k_aald (q := h_sheets_3) X hV 1 2 rfl rfl kin_3_4 rfl d_X_copy_64 ?_
          refine k_get X hV 8 4 1 rfl rfl rfl gw_238 rfl rfl d_X_copy_65 ?_
          refine lv_icmp_eq (tgt := 77) hx hb d_X_copy_68 (by decide) (fun c_523 => ?_) (fun c_523 => ?_)
          · replace hf := kifp c_523 hf
            refine lv_aload_n hx hb d_X_copy_77 rfl (lv_at hl 0 rfl) ?_
            refine k_get X hV 0 8 5 rfl rfl rfl gw_253 rfl rfl d_X_copy_78 ?_
            refine lv_iload_n hx hb d_X_copy_81 rfl (lv_at hl 1 rfl) ?_
            refine k_aald (q := h_sheets_3) X hV 1 2 rfl rfl kin_3_4 rfl d_X_copy_82 ?_
            refine lv_iload_n hx hb d_X_copy_83 rfl (lv_at hl 2 rfl) ?_
            refine lv_iload hx hb d_X_copy_84 (lv_at hl 5 rfl) ?_
            obtain ⟨r_524, hc_525, hf⟩ := kb1_some hf
            refine k_cvi (w1 := (wd_Sh_hasRun D h_sheets_3 h_sheets_3_numbers v_sheets_3_bits v_sheets_3_size)) (r := r_524) (ws' := (wd_X_copy D h h_here h_kept h_trial h_parts h_text h_sheets h_findings h_sheets_0 h_sheets_1 h_sheets_2 h_sheets_3 h_sheets_0_numbers h_sheets_1_numbers h_sheets_2_numbers h_sheets_3_numbers v_isKept v_sheets_0_bits v_sheets_0_size v_sheets_0_numbers v_sheets_1_bits v_sheets_1_size v_sheets_1_numbers v_sheets_2_bits v_sheets_2_size v_sheets_2_numbers v_sheets_3_bits v_sheets_3_size v_sheets_3_numbers v_findings)) X hV hl.1 (c_Sh_hasRun D h_sheets_3 h_sheets_3_numbers v_sheets_3_bits v_sheets_3_size x2 x5 hc_525) fk_Sh_hasRun gw_828 rfl 8 4 rfl rfl [8] [none, none, none, none, none, none, none, none, some 0, none, none] rfl rfl ⟨rfl, rfl, rfl, rfl, rfl, rfl, rfl, rfl, rfl, rfl, rfl, rfl, rfl, trivial⟩ rfl rfl rfl d_X_copy_86 (fun H locs hV => ?_)
            refine lv_if_eq (tgt := 108) hx hb d_X_copy_89 (by decide) (fun c_526 => ?_) (fun c_526 => ?_)
            · replace hf := kifp c_526 hf
              exact t_X_copy_3 X hf hV (lv_sub hl [0] rfl)
            replace hf := kifn c_526 hf
            refine lv_aload_n hx hb d_X_copy_92 rfl (lv_at hl 0 rfl) ?_
            refine k_get X hV 0 8 5 rfl rfl rfl gw_253 rfl rfl d_X_copy_93 ?_
            refine lv_iload_n hx hb d_X_copy_96 rfl (lv_at hl 3 rfl) ?_
            refine k_aald (q := h_sheets_3) X hV 1 2 rfl rfl kin_3_4 rfl d_X_copy_97 ?_
            refine lv_iload hx hb d_X_copy_98 (lv_at hl 4 rfl) ?_
            refine lv_iload hx hb d_X_copy_100 (lv_at hl 5 rfl) ?_
            obtain ⟨r_527, hc_528, hf⟩ := kb1_some hf
            refine k_cvi (w1 := (wd_Sh_hasRun D h_sheets_3 h_sheets_3_numbers v_sheets_3_bits v_sheets_3_size)) (r := r_527) (ws' := (wd_X_copy D h h_here h_kept h_trial h_parts h_text h_sheets h_findings h_sheets_0 h_sheets_1 h_sheets_2 h_sheets_3 h_sheets_0_numbers h_sheets_1_numbers h_sheets_2_numbers h_sheets_3_numbers v_isKept v_sheets_0_bits v_sheets_0_size v_sheets_0_numbers v_sheets_1_bits v_sheets_1_size v_sheets_1_numbers v_sheets_2_bits v_sheets_2_size v_sheets_2_numbers v_sheets_3_bits v_sheets_3_size v_sheets_3_numbers v_findings)) X hV hl.1 (c_Sh_hasRun D h_sheets_3 h_sheets_3_numbers v_sheets_3_bits v_sheets_3_size x4 x5 hc_528) fk_Sh_hasRun gw_828 rfl 8 4 rfl rfl [8] [none, none, none, none, none, none, none, none, some 0, none, none] rfl rfl ⟨rfl, rfl, rfl, rfl, rfl, rfl, rfl, rfl, rfl, rfl, rfl, rfl, rfl, trivial⟩ rfl rfl rfl d_X_copy_102 (fun H locs hV => ?_)
            refine lv_if_ne (tgt := 114) hx hb d_X_copy_105 (by decide) (fun c_529 => ?_) (fun c_529 => ?_)
            · replace hf := kifn c_529 hf
              refine lv_aload_n hx hb d_X_copy_114 rfl (lv_at hl 0 rfl) ?_
              refine k_get X hV 0 8 5 rfl rfl rfl gw_253 rfl rfl d_X_copy_115 ?_
              refine lv_iload_n hx hb d_X_copy_118 rfl (lv_at hl 1 rfl) ?_
              refine k_aald (q := h_sheets_3) X hV 1 2 rfl rfl kin_3_4 rfl d_X_copy_119 ?_
              refine k_get X hV 8 4 0 rfl rfl rfl gw_236 rfl rfl d_X_copy_120 ?_
              refine lv_iload_n hx hb d_X_copy_123 rfl (lv_at hl 2 rfl) ?_
              refine lv_aload_n hx hb d_X_copy_124 rfl (lv_at hl 0 rfl) ?_
              refine k_get X hV 0 8 5 rfl rfl rfl gw_253 rfl rfl d_X_copy_125 ?_
              refine lv_iload_n hx hb d_X_copy_128 rfl (lv_at hl 3 rfl) ?_
              refine k_aald (q := h_sheets_3) X hV 1 2 rfl rfl kin_3_4 rfl d_X_copy_129 ?_
              refine k_get X hV 8 4 0 rfl rfl rfl gw_236 rfl rfl d_X_copy_130 ?_
              refine lv_iload hx hb d_X_copy_133 (lv_at hl 4 rfl) ?_
              refine lv_iload hx hb d_X_copy_135 (lv_at hl 5 rfl) ?_
              obtain ⟨h_530, hf⟩ := kchk hf
              refine k_copyl (ws' := (wd_X_copy D h h_here h_kept h_trial h_parts h_text h_sheets h_findings h_sheets_0 h_sheets_1 h_sheets_2 h_sheets_3 h_sheets_0_numbers h_sheets_1_numbers h_sheets_2_numbers h_sheets_3_numbers v_isKept v_sheets_0_bits v_sheets_0_size v_sheets_0_numbers v_sheets_1_bits v_sheets_1_size v_sheets_1_numbers v_sheets_2_bits v_sheets_2_size v_sheets_2_numbers v_sheets_3_bits v_sheets_3_size (va_cpy v_sheets_3_numbers v_sheets_3_numbers x2.toNatClampNeg x4.toNatClampNeg x5.toNatClampNeg) v_findings)) X hV hl.1 gw_832 9 9 rfl rfl h_530 rfl rfl rfl d_X_copy_137 (fun H locs hV => ?_)
              refine lv_iload hx hb d_X_copy_140 (lv_at hl 5 rfl) ?_
              have e_ := Option.some.inj hf
              subst e_
              exact k_iret X rfl hV rfl d_X_copy_142
            replace hf := kifp c_529 hf
            exact t_X_copy_3 X hf hV (lv_sub hl [0] rfl)
          replace hf := kifn c_523 hf
          refine lv_aload_n hx hb d_X_copy_71 rfl (lv_at hl 0 rfl) ?_
          refine lv_iconst (v := 2) hx hb d_X_copy_72 ic_2 ?_
          obtain ⟨r_531, v_findings_532, hc_533, hf⟩ := kb2_some hf
          refine k_cvi (w1 := (wd_X_finding D h h_here h_kept h_trial h_parts h_text h_sheets h_findings v_isKept v_findings_532)) (r := r_531) (ws' := (wd_X_copy D h h_here h_kept h_trial h_parts h_text h_sheets h_findings h_sheets_0 h_sheets_1 h_sheets_2 h_sheets_3 h_sheets_0_numbers h_sheets_1_numbers h_sheets_2_numbers h_sheets_3_numbers v_isKept v_sheets_0_bits v_sheets_0_size v_sheets_0_numbers v_sheets_1_bits v_sheets_1_size v_sheets_1_numbers v_sheets_2_bits v_sheets_2_size v_sheets_2_numbers v_sheets_3_bits v_sheets_3_size v_sheets_3_numbers v_findings_532)) X hV hl.1 (c_X_finding D h h_here h_kept h_trial h_parts h_text h_sheets h_findings v_isKept v_findings (2 : Int32) hc_533) fk_X_finding gw_283 rfl 0 8 rfl rfl [0, 10] [some 0, none, none, none, none, none, none, none, none, none, some 1] rfl rfl ⟨rfl, rfl, rfl, rfl, rfl, rfl, rfl, rfl, rfl, rfl, rfl, rfl, rfl, rfl, rfl, trivial⟩ rfl rfl rfl d_X_copy_73 (fun H locs hV => ?_)
          have e_ := Option.some.inj hf
          subst e_
          exact k_iret X rfl hV rfl d_X_copy_76
        replace hf := kifn c_522 hf
        exact t_X_copy_2 X hf hV (lv_sub hl [0] rfl)
      replace hfs_474 := kifn c_519 hfs_474
      exact knone hfs_474
    replace hfs_278 := kifn c_470 hfs_278
    exact knone hfs_278
  replace hf := kifp c_277 hf
  exact t_X_copy_1 X hf hV (lv_sub hl [0] rfl)
set_option maxHeartbeats 2000000 in
set_option maxRecDepth 20000 in
theorem c_X_copy {l : Launch} (D : kD) (h : Nat) (h_here : Nat) (h_kept : Nat) (h_trial : Nat) (h_parts : Nat) (h_text : Nat) (h_sheets : Nat) (h_findings : Nat) (h_sheets_0 : Nat) (h_sheets_1 : Nat) (h_sheets_2 : Nat) (h_sheets_3 : Nat) (h_sheets_0_numbers : Nat) (h_sheets_1_numbers : Nat) (h_sheets_2_numbers : Nat) (h_sheets_3_numbers : Nat) (v_isKept : Int32) (v_sheets_0_bits : Int32) (v_sheets_0_size : Int32) (v_sheets_0_numbers : Nat → Int64) (v_sheets_1_bits : Int32) (v_sheets_1_size : Int32) (v_sheets_1_numbers : Nat → Int64) (v_sheets_2_bits : Int32) (v_sheets_2_size : Int32) (v_sheets_2_numbers : Nat → Int64) (v_sheets_3_bits : Int32) (v_sheets_3_size : Int32) (v_sheets_3_numbers : Nat → Int64) (v_findings : Nat → Int32) (x1 : Int32) (x2 : Int32) (x3 : Int32) (x4 : Int32) (x5 : Int32) {out : Int32 × (Nat → Int64) × (Nat → Int64) × (Nat → Int64) × (Nat → Int64) × (Nat → Int32)} (hf : f_X_copy v_sheets_0_bits v_sheets_0_size v_sheets_0_numbers v_sheets_1_bits v_sheets_1_size v_sheets_1_numbers v_sheets_2_bits v_sheets_2_size v_sheets_2_numbers v_sheets_3_bits v_sheets_3_size v_sheets_3_numbers v_findings x1 x2 x3 x4 x5 = some out) : kMi l D y_X_copy b_X_copy 6 (some .int) { frames := 2, cells := 0, slots := 0, locals := 43 } [.ref h, .int x1, .int x2, .int x3, .int x4, .int x5] (wd_X_copy D h h_here h_kept h_trial h_parts h_text h_sheets h_findings h_sheets_0 h_sheets_1 h_sheets_2 h_sheets_3 h_sheets_0_numbers h_sheets_1_numbers h_sheets_2_numbers h_sheets_3_numbers v_isKept v_sheets_0_bits v_sheets_0_size v_sheets_0_numbers v_sheets_1_bits v_sheets_1_size v_sheets_1_numbers v_sheets_2_bits v_sheets_2_size v_sheets_2_numbers v_sheets_3_bits v_sheets_3_size v_sheets_3_numbers v_findings) (wd_X_copy D h h_here h_kept h_trial h_parts h_text h_sheets h_findings h_sheets_0 h_sheets_1 h_sheets_2 h_sheets_3 h_sheets_0_numbers h_sheets_1_numbers h_sheets_2_numbers h_sheets_3_numbers v_isKept v_sheets_0_bits v_sheets_0_size out.2.1 v_sheets_1_bits v_sheets_1_size out.2.2.1 v_sheets_2_bits v_sheets_2_size out.2.2.2.1 v_sheets_3_bits v_sheets_3_size out.2.2.2.2.1 out.2.2.2.2.2) out.1 :=
  kMi_of (own := "MountainFarms") (plainFor_of_name (by decide)) rfl rfl (fun p e s m args below meth c ls X hV hl => t_X_copy X hf hV hl)
