/-! printed by wip/gen: walks -/
set_option maxHeartbeats 2000000 in
set_option maxRecDepth 20000 in
theorem tb_X_crop_1 {l : Launch} {p : Program} {e : Env} {s : State} {m : MethodId} {args : Array Value} {below : List Frame} {meth : Method} {c : Code} {D : kD} {wc0 : va_W} {h : Nat} {h_here : Nat} {h_kept : Nat} {h_trial : Nat} {h_parts : Nat} {h_text : Nat} {h_sheets : Nat} {h_findings : Nat} {h_here_ground : Nat} {h_here_farms : Nat} {h_here_mountain : Nat} {h_here_ground_heights : Nat} {h_here_ground_ages : Nat} {h_here_ground_walls : Nat} {h_here_farms_kinds : Nat} {h_here_farms_cells : Nat} {h_here_farms_owners : Nat} {h_here_farms_purses : Nat} {h_here_mountain_chances : Nat} {h_here_mountain_shows : Nat} {h_here_mountain_diary : Nat} {h_trial_ground : Nat} {h_trial_farms : Nat} {h_trial_mountain : Nat} {h_trial_ground_heights : Nat} {h_trial_ground_ages : Nat} {h_trial_ground_walls : Nat} {h_trial_farms_kinds : Nat} {h_trial_farms_cells : Nat} {h_trial_farms_owners : Nat} {h_trial_farms_purses : Nat} {h_trial_mountain_chances : Nat} {h_trial_mountain_shows : Nat} {h_trial_mountain_diary : Nat} {v_isKept : Int32} {v_here_month : Int32} {v_here_volume : Int32} {v_here_outs : Int32} {v_here_fed : Int32} {v_here_fedOuts : Int32} {v_here_arePigsTold : Int32} {v_here_ground_vent : Int32} {v_here_ground_ash : Int32} {v_here_ground_heights : Nat → Int32} {v_here_ground_ages : Nat → Int32} {v_here_ground_walls : Nat → Int32} {v_here_farms_number : Int32} {v_here_farms_burnt : Int32} {v_here_farms_kinds : Nat → Int32} {v_here_farms_cells : Nat → Int32} {v_here_farms_owners : Nat → Int32} {v_here_farms_purses : Nat → Int32} {v_here_mountain_seen : Int32} {v_here_mountain_state : Int32} {v_here_mountain_z : Int32} {v_here_mountain_chances : Nat → Int32} {v_here_mountain_shows : Nat → Int32} {v_here_mountain_diary : Nat → Int32} {v_trial_month : Int32} {v_trial_volume : Int32} {v_trial_outs : Int32} {v_trial_fed : Int32} {v_trial_fedOuts : Int32} {v_trial_arePigsTold : Int32} {v_trial_ground_vent : Int32} {v_trial_ground_ash : Int32} {v_trial_ground_heights : Nat → Int32} {v_trial_ground_ages : Nat → Int32} {v_trial_ground_walls : Nat → Int32} {v_trial_farms_number : Int32} {v_trial_farms_burnt : Int32} {v_trial_farms_kinds : Nat → Int32} {v_trial_farms_cells : Nat → Int32} {v_trial_farms_owners : Nat → Int32} {v_trial_farms_purses : Nat → Int32} {v_trial_mountain_seen : Int32} {v_trial_mountain_state : Int32} {v_trial_mountain_z : Int32} {v_trial_mountain_chances : Nat → Int32} {v_trial_mountain_shows : Nat → Int32} {v_trial_mountain_diary : Nat → Int32} {v_findings : Nat → Int32} {x1 : Int32} {x2 : Int32} {x3 : Int32} {x4 : Int32} {rec1 : Int32 → Int32 → Int32 → Int32 → Int32 → Int32 → Int32 → Int32 → Int32 → Int32 → Int32 → (Nat → Int32) → (Nat → Int32) → (Nat → Int32) → Int32 → Int32 → (Nat → Int32) → (Nat → Int32) → (Nat → Int32) → (Nat → Int32) → Int32 → Int32 → Int32 → (Nat → Int32) → (Nat → Int32) → (Nat → Int32) → Option (Int32 × Int32 × Int32 × Int32 × Int32 × Int32 × Int32 × Int32 × Int32 × (Nat → Int32) × (Nat → Int32) × (Nat → Int32) × Int32 × Int32 × (Nat → Int32) × (Nat → Int32) × (Nat → Int32) × (Nat → Int32) × Int32 × Int32 × Int32 × (Nat → Int32) × (Nat → Int32) × (Nat → Int32) × (Nat → Int32))} {out : Int32 × Int32 × Int32 × Int32 × Int32 × Int32 × Int32 × Int32 × Int32 × (Nat → Int32) × (Nat → Int32) × (Nat → Int32) × Int32 × Int32 × (Nat → Int32) × (Nat → Int32) × (Nat → Int32) × (Nat → Int32) × Int32 × Int32 × Int32 × (Nat → Int32) × (Nat → Int32) × (Nat → Int32) × (Nat → Int32)} (X : kX p m meth c s args D (va_A wc0 s.heap.size) b_X_crop "MountainFarms" 6 (some .int)) (hrec1 : ∀ (x2 : Int32) (x3 : Int32) (x4 : Int32) (v_trial_month : Int32) (v_trial_volume : Int32) (v_trial_outs : Int32) (v_trial_fed : Int32) (v_trial_fedOuts : Int32) (v_trial_arePigsTold : Int32) (v_trial_ground_vent : Int32) (v_trial_ground_ash : Int32) (v_trial_ground_heights : Nat → Int32) (v_trial_ground_ages : Nat → Int32) (v_trial_ground_walls : Nat → Int32) (v_trial_farms_number : Int32) (v_trial_farms_burnt : Int32) (v_trial_farms_kinds : Nat → Int32) (v_trial_farms_cells : Nat → Int32) (v_trial_farms_owners : Nat → Int32) (v_trial_farms_purses : Nat → Int32) (v_trial_mountain_seen : Int32) (v_trial_mountain_state : Int32) (v_trial_mountain_z : Int32) (v_trial_mountain_chances : Nat → Int32) (v_trial_mountain_shows : Nat → Int32) (v_trial_mountain_diary : Nat → Int32), rec1 x2 x3 x4 v_trial_month v_trial_volume v_trial_outs v_trial_fed v_trial_fedOuts v_trial_arePigsTold v_trial_ground_vent v_trial_ground_ash v_trial_ground_heights v_trial_ground_ages v_trial_ground_walls v_trial_farms_number v_trial_farms_burnt v_trial_farms_kinds v_trial_farms_cells v_trial_farms_owners v_trial_farms_purses v_trial_mountain_seen v_trial_mountain_state v_trial_mountain_z v_trial_mountain_chances v_trial_mountain_shows v_trial_mountain_diary = some out → ∀ (H : Heap) (locs : List Loc) (ls : Array Slot), kV D (va_A wc0 s.heap.size) s (wd_X_crop D h h_here h_kept h_trial h_parts h_text h_sheets h_findings h_here_ground h_here_farms h_here_mountain h_here_ground_heights h_here_ground_ages h_here_ground_walls h_here_farms_kinds h_here_farms_cells h_here_farms_owners h_here_farms_purses h_here_mountain_chances h_here_mountain_shows h_here_mountain_diary h_trial_ground h_trial_farms h_trial_mountain h_trial_ground_heights h_trial_ground_ages h_trial_ground_walls h_trial_farms_kinds h_trial_farms_cells h_trial_farms_owners h_trial_farms_purses h_trial_mountain_chances h_trial_mountain_shows h_trial_mountain_diary v_isKept v_here_month v_here_volume v_here_outs v_here_fed v_here_fedOuts v_here_arePigsTold v_here_ground_vent v_here_ground_ash v_here_ground_heights v_here_ground_ages v_here_ground_walls v_here_farms_number v_here_farms_burnt v_here_farms_kinds v_here_farms_cells v_here_farms_owners v_here_farms_purses v_here_mountain_seen v_here_mountain_state v_here_mountain_z v_here_mountain_chances v_here_mountain_shows v_here_mountain_diary v_trial_month v_trial_volume v_trial_outs v_trial_fed v_trial_fedOuts v_trial_arePigsTold v_trial_ground_vent v_trial_ground_ash v_trial_ground_heights v_trial_ground_ages v_trial_ground_walls v_trial_farms_number v_trial_farms_burnt v_trial_farms_kinds v_trial_farms_cells v_trial_farms_owners v_trial_farms_purses v_trial_mountain_seen v_trial_mountain_state v_trial_mountain_z v_trial_mountain_chances v_trial_mountain_shows v_trial_mountain_diary v_findings) H locs → lv_has ls 6 [(0, .ref h), (1, .int x1), (2, .int x2), (3, .int x3), (4, .int x4)] → W p l e { frames := 6, cells := 0, slots := 0, locals := 139 } s m args below meth c H locs 0 0 (MQ below (kQi D wc0 (wd_X_crop D h h_here h_kept h_trial h_parts h_text h_sheets h_findings h_here_ground h_here_farms h_here_mountain h_here_ground_heights h_here_ground_ages h_here_ground_walls h_here_farms_kinds h_here_farms_cells h_here_farms_owners h_here_farms_purses h_here_mountain_chances h_here_mountain_shows h_here_mountain_diary h_trial_ground h_trial_farms h_trial_mountain h_trial_ground_heights h_trial_ground_ages h_trial_ground_walls h_trial_farms_kinds h_trial_farms_cells h_trial_farms_owners h_trial_farms_purses h_trial_mountain_chances h_trial_mountain_shows h_trial_mountain_diary v_isKept v_here_month v_here_volume v_here_outs v_here_fed v_here_fedOuts v_here_arePigsTold v_here_ground_vent v_here_ground_ash v_here_ground_heights v_here_ground_ages v_here_ground_walls v_here_farms_number v_here_farms_burnt v_here_farms_kinds v_here_farms_cells v_here_farms_owners v_here_farms_purses v_here_mountain_seen v_here_mountain_state v_here_mountain_z v_here_mountain_chances v_here_mountain_shows v_here_mountain_diary out.2.1 out.2.2.1 out.2.2.2.1 out.2.2.2.2.1 out.2.2.2.2.2.1 out.2.2.2.2.2.2.1 out.2.2.2.2.2.2.2.1 out.2.2.2.2.2.2.2.2.1 out.2.2.2.2.2.2.2.2.2.1 out.2.2.2.2.2.2.2.2.2.2.1 out.2.2.2.2.2.2.2.2.2.2.2.1 out.2.2.2.2.2.2.2.2.2.2.2.2.1 out.2.2.2.2.2.2.2.2.2.2.2.2.2.1 out.2.2.2.2.2.2.2.2.2.2.2.2.2.2.1 out.2.2.2.2.2.2.2.2.2.2.2.2.2.2.2.1 out.2.2.2.2.2.2.2.2.2.2.2.2.2.2.2.2.1 out.2.2.2.2.2.2.2.2.2.2.2.2.2.2.2.2.2.1 out.2.2.2.2.2.2.2.2.2.2.2.2.2.2.2.2.2.2.1 out.2.2.2.2.2.2.2.2.2.2.2.2.2.2.2.2.2.2.2.1 out.2.2.2.2.2.2.2.2.2.2.2.2.2.2.2.2.2.2.2.2.1 out.2.2.2.2.2.2.2.2.2.2.2.2.2.2.2.2.2.2.2.2.2.1 out.2.2.2.2.2.2.2.2.2.2.2.2.2.2.2.2.2.2.2.2.2.2.1 out.2.2.2.2.2.2.2.2.2.2.2.2.2.2.2.2.2.2.2.2.2.2.2.1 out.2.2.2.2.2.2.2.2.2.2.2.2.2.2.2.2.2.2.2.2.2.2.2.2) s.heap.size out.1) args s 0 0 (va_A wc0 s.heap.size)) (F0 m 45 ls [])) (hf : fb_X_crop_1 rec1 x1 v_here_month v_here_volume v_here_outs v_here_fed v_here_fedOuts v_here_arePigsTold v_here_ground_vent v_here_ground_ash v_here_ground_heights v_here_ground_ages v_here_ground_walls v_here_farms_number v_here_farms_burnt v_here_farms_kinds v_here_farms_cells v_here_farms_owners v_here_farms_purses v_here_mountain_seen v_here_mountain_state v_here_mountain_z v_here_mountain_chances v_here_mountain_shows v_here_mountain_diary v_findings x2 x3 x4 v_trial_month v_trial_volume v_trial_outs v_trial_fed v_trial_fedOuts v_trial_arePigsTold v_trial_ground_vent v_trial_ground_ash v_trial_ground_heights v_trial_ground_ages v_trial_ground_walls v_trial_farms_number v_trial_farms_burnt v_trial_farms_kinds v_trial_farms_cells v_trial_farms_owners v_trial_farms_purses v_trial_mountain_seen v_trial_mountain_state v_trial_mountain_z v_trial_mountain_chances v_trial_mountain_shows v_trial_mountain_diary = some out) {H : Heap} {locs : List Loc} (hV : kV D (va_A wc0 s.heap.size) s (wd_X_crop D h h_here h_kept h_trial h_parts h_text h_sheets h_findings h_here_ground h_here_farms h_here_mountain h_here_ground_heights h_here_ground_ages h_here_ground_walls h_here_farms_kinds h_here_farms_cells h_here_farms_owners h_here_farms_purses h_here_mountain_chances h_here_mountain_shows h_here_mountain_diary h_trial_ground h_trial_farms h_trial_mountain h_trial_ground_heights h_trial_ground_ages h_trial_ground_walls h_trial_farms_kinds h_trial_farms_cells h_trial_farms_owners h_trial_farms_purses h_trial_mountain_chances h_trial_mountain_shows h_trial_mountain_diary v_isKept v_here_month v_here_volume v_here_outs v_here_fed v_here_fedOuts v_here_arePigsTold v_here_ground_vent v_here_ground_ash v_here_ground_heights v_here_ground_ages v_here_ground_walls v_here_farms_number v_here_farms_burnt v_here_farms_kinds v_here_farms_cells v_here_farms_owners v_here_farms_purses v_here_mountain_seen v_here_mountain_state v_here_mountain_z v_here_mountain_chances v_here_mountain_shows v_here_mountain_diary v_trial_month v_trial_volume v_trial_outs v_trial_fed v_trial_fedOuts v_trial_arePigsTold v_trial_ground_vent v_trial_ground_ash v_trial_ground_heights v_trial_ground_ages v_trial_ground_walls v_trial_farms_number v_trial_farms_burnt v_trial_farms_kinds v_trial_farms_cells v_trial_farms_owners v_trial_farms_purses v_trial_mountain_seen v_trial_mountain_state v_trial_mountain_z v_trial_mountain_chances v_trial_mountain_shows v_trial_mountain_diary v_findings) H locs) {ls : Array Slot} (hl : lv_has ls 6 [(0, .ref h), (1, .int x1), (2, .int x2), (3, .int x3), (4, .int x4)]) : W p l e { frames := 6, cells := 0, slots := 0, locals := 139 } s m args below meth c H locs 0 0 (MQ below (kQi D wc0 (wd_X_crop D h h_here h_kept h_trial h_parts h_text h_sheets h_findings h_here_ground h_here_farms h_here_mountain h_here_ground_heights h_here_ground_ages h_here_ground_walls h_here_farms_kinds h_here_farms_cells h_here_farms_owners h_here_farms_purses h_here_mountain_chances h_here_mountain_shows h_here_mountain_diary h_trial_ground h_trial_farms h_trial_mountain h_trial_ground_heights h_trial_ground_ages h_trial_ground_walls h_trial_farms_kinds h_trial_farms_cells h_trial_farms_owners h_trial_farms_purses h_trial_mountain_chances h_trial_mountain_shows h_trial_mountain_diary v_isKept v_here_month v_here_volume v_here_outs v_here_fed v_here_fedOuts v_here_arePigsTold v_here_ground_vent v_here_ground_ash v_here_ground_heights v_here_ground_ages v_here_ground_walls v_here_farms_number v_here_farms_burnt v_here_farms_kinds v_here_farms_cells v_here_farms_owners v_here_farms_purses v_here_mountain_seen v_here_mountain_state v_here_mountain_z v_here_mountain_chances v_here_mountain_shows v_here_mountain_diary out.2.1 out.2.2.1 out.2.2.2.1 out.2.2.2.2.1 out.2.2.2.2.2.1 out.2.2.2.2.2.2.1 out.2.2.2.2.2.2.2.1 out.2.2.2.2.2.2.2.2.1 out.2.2.2.2.2.2.2.2.2.1 out.2.2.2.2.2.2.2.2.2.2.1 out.2.2.2.2.2.2.2.2.2.2.2.1 out.2.2.2.2.2.2.2.2.2.2.2.2.1 out.2.2.2.2.2.2.2.2.2.2.2.2.2.1 out.2.2.2.2.2.2.2.2.2.2.2.2.2.2.1 out.2.2.2.2.2.2.2.2.2.2.2.2.2.2.2.1 out.2.2.2.2.2.2.2.2.2.2.2.2.2.2.2.2.1 out.2.2.2.2.2.2.2.2.2.2.2.2.2.2.2.2.2.1 out.2.2.2.2.2.2.2.2.2.2.2.2.2.2.2.2.2.2.1 out.2.2.2.2.2.2.2.2.2.2.2.2.2.2.2.2.2.2.2.1 out.2.2.2.2.2.2.2.2.2.2.2.2.2.2.2.2.2.2.2.2.1 out.2.2.2.2.2.2.2.2.2.2.2.2.2.2.2.2.2.2.2.2.2.1 out.2.2.2.2.2.2.2.2.2.2.2.2.2.2.2.2.2.2.2.2.2.2.1 out.2.2.2.2.2.2.2.2.2.2.2.2.2.2.2.2.2.2.2.2.2.2.2.1 out.2.2.2.2.2.2.2.2.2.2.2.2.2.2.2.2.2.2.2.2.2.2.2.2) s.heap.size out.1) args s 0 0 (va_A wc0 s.heap.size)) (F0 m 45 ls []) := by
  unfold fb_X_crop_1 at hf
  obtain ⟨hx, hb, -⟩ := id X
  refine lv_iload hx hb d_X_crop_45 (lv_at hl 4 rfl) ?_
  refine lv_bipush (v := 6) hx hb d_X_crop_47 bp_6 ?_
  refine lv_icmp_ge (tgt := 119) hx hb d_X_crop_49 (by decide) (fun c_66 => ?_) (fun c_66 => ?_)
  · replace hf := kifp c_66 hf
    refine lv_iload_n hx hb d_X_crop_119 rfl (lv_at hl 2 rfl) ?_
    have e_ := Option.some.inj hf
    subst e_
    exact k_iret X rfl hV rfl d_X_crop_120
  replace hf := kifn c_66 hf
  refine lv_aload_n hx hb d_X_crop_52 rfl (lv_at hl 0 rfl) ?_
  refine k_get X hV 0 8 2 rfl rfl rfl gw_250 rfl rfl d_X_crop_53 ?_
  refine lv_aload_n hx hb d_X_crop_56 rfl (lv_at hl 0 rfl) ?_
  refine k_get X hV 0 8 0 rfl rfl rfl gw_248 rfl rfl d_X_crop_57 ?_
  obtain ⟨v_trial_month_67, v_trial_volume_68, v_trial_outs_69, v_trial_fed_70, v_trial_fedOuts_71, v_trial_arePigsTold_72, v_trial_ground_vent_73, v_trial_ground_ash_74, v_trial_ground_heights_75, v_trial_ground_ages_76, v_trial_ground_walls_77, v_trial_farms_number_78, v_trial_farms_burnt_79, v_trial_farms_kinds_80, v_trial_farms_cells_81, v_trial_farms_owners_82, v_trial_farms_purses_83, v_trial_mountain_seen_84, v_trial_mountain_state_85, v_trial_mountain_z_86, v_trial_mountain_chances_87, v_trial_mountain_shows_88, v_trial_mountain_diary_89, hc_90, hf⟩ := kb23_some hf
  refine k_cvv (w1 := (wd_Sl_become D h_trial h_trial_ground h_trial_farms h_trial_mountain h_trial_ground_heights h_trial_ground_ages h_trial_ground_walls h_trial_farms_kinds h_trial_farms_cells h_trial_farms_owners h_trial_farms_purses h_trial_mountain_chances h_trial_mountain_shows h_trial_mountain_diary h_here h_here_ground h_here_farms h_here_mountain h_here_ground_heights h_here_ground_ages h_here_ground_walls h_here_farms_kinds h_here_farms_cells h_here_farms_owners h_here_farms_purses h_here_mountain_chances h_here_mountain_shows h_here_mountain_diary v_trial_month_67 v_trial_volume_68 v_trial_outs_69 v_trial_fed_70 v_trial_fedOuts_71 v_trial_arePigsTold_72 v_trial_ground_vent_73 v_trial_ground_ash_74 v_trial_ground_heights_75 v_trial_ground_ages_76 v_trial_ground_walls_77 v_trial_farms_number_78 v_trial_farms_burnt_79 v_trial_farms_kinds_80 v_trial_farms_cells_81 v_trial_farms_owners_82 v_trial_farms_purses_83 v_trial_mountain_seen_84 v_trial_mountain_state_85 v_trial_mountain_z_86 v_trial_mountain_chances_87 v_trial_mountain_shows_88 v_trial_mountain_diary_89 v_here_month v_here_volume v_here_outs v_here_fed v_here_fedOuts v_here_arePigsTold v_here_ground_vent v_here_ground_ash v_here_ground_heights v_here_ground_ages v_here_ground_walls v_here_farms_number v_here_farms_burnt v_here_farms_kinds v_here_farms_cells v_here_farms_owners v_here_farms_purses v_here_mountain_seen v_here_mountain_state v_here_mountain_z v_here_mountain_chances v_here_mountain_shows v_here_mountain_diary)) (ws' := (wd_X_crop D h h_here h_kept h_trial h_parts h_text h_sheets h_findings h_here_ground h_here_farms h_here_mountain h_here_ground_heights h_here_ground_ages h_here_ground_walls h_here_farms_kinds h_here_farms_cells h_here_farms_owners h_here_farms_purses h_here_mountain_chances h_here_mountain_shows h_here_mountain_diary h_trial_ground h_trial_farms h_trial_mountain h_trial_ground_heights h_trial_ground_ages h_trial_ground_walls h_trial_farms_kinds h_trial_farms_cells h_trial_farms_owners h_trial_farms_purses h_trial_mountain_chances h_trial_mountain_shows h_trial_mountain_diary v_isKept v_here_month v_here_volume v_here_outs v_here_fed v_here_fedOuts v_here_arePigsTold v_here_ground_vent v_here_ground_ash v_here_ground_heights v_here_ground_ages v_here_ground_walls v_here_farms_number v_here_farms_burnt v_here_farms_kinds v_here_farms_cells v_here_farms_owners v_here_farms_purses v_here_mountain_seen v_here_mountain_state v_here_mountain_z v_here_mountain_chances v_here_mountain_shows v_here_mountain_diary v_trial_month_67 v_trial_volume_68 v_trial_outs_69 v_trial_fed_70 v_trial_fedOuts_71 v_trial_arePigsTold_72 v_trial_ground_vent_73 v_trial_ground_ash_74 v_trial_ground_heights_75 v_trial_ground_ages_76 v_trial_ground_walls_77 v_trial_farms_number_78 v_trial_farms_burnt_79 v_trial_farms_kinds_80 v_trial_farms_cells_81 v_trial_farms_owners_82 v_trial_farms_purses_83 v_trial_mountain_seen_84 v_trial_mountain_state_85 v_trial_mountain_z_86 v_trial_mountain_chances_87 v_trial_mountain_shows_88 v_trial_mountain_diary_89 v_findings)) X hV hl.1 (c_Sl_become D h_trial h_trial_ground h_trial_farms h_trial_mountain h_trial_ground_heights h_trial_ground_ages h_trial_ground_walls h_trial_farms_kinds h_trial_farms_cells h_trial_farms_owners h_trial_farms_purses h_trial_mountain_chances h_trial_mountain_shows h_trial_mountain_diary h_here h_here_ground h_here_farms h_here_mountain h_here_ground_heights h_here_ground_ages h_here_ground_walls h_here_farms_kinds h_here_farms_cells h_here_farms_owners h_here_farms_purses h_here_mountain_chances h_here_mountain_shows h_here_mountain_diary v_trial_month v_trial_volume v_trial_outs v_trial_fed v_trial_fedOuts v_trial_arePigsTold v_trial_ground_vent v_trial_ground_ash v_trial_ground_heights v_trial_ground_ages v_trial_ground_walls v_trial_farms_number v_trial_farms_burnt v_trial_farms_kinds v_trial_farms_cells v_trial_farms_owners v_trial_farms_purses v_trial_mountain_seen v_trial_mountain_state v_trial_mountain_z v_trial_mountain_chances v_trial_mountain_shows v_trial_mountain_diary v_here_month v_here_volume v_here_outs v_here_fed v_here_fedOuts v_here_arePigsTold v_here_ground_vent v_here_ground_ash v_here_ground_heights v_here_ground_ages v_here_ground_walls v_here_farms_number v_here_farms_burnt v_here_farms_kinds v_here_farms_cells v_here_farms_owners v_here_farms_purses v_here_mountain_seen v_here_mountain_state v_here_mountain_z v_here_mountain_chances v_here_mountain_shows v_here_mountain_diary hc_90) fk_Sl_become gw_597 rfl 15 5 rfl rfl [15, 16, 17, 18, 19, 20, 21, 22, 23, 24, 25, 26, 27, 28, 1, 2, 3, 4, 5, 6, 7, 8, 9, 10, 11, 12, 13, 14] [none, some 14, some 15, some 16, some 17, some 18, some 19, some 20, some 21, some 22, some 23, some 24, some 25, some 26, some 27, some 0, some 1, some 2, some 3, some 4, some 5, some 6, some 7, some 8, some 9, some 10, some 11, some 12, some 13, none] rfl rfl ⟨rfl, rfl, rfl, rfl, rfl, rfl, rfl, rfl, rfl, rfl, rfl, rfl, rfl, rfl, rfl, rfl, rfl, rfl, rfl, rfl, rfl, rfl, rfl, rfl, rfl, rfl, rfl, rfl, rfl, rfl, rfl, rfl, rfl, rfl, rfl, rfl, rfl, rfl, rfl, rfl, rfl, rfl, rfl, rfl, rfl, rfl, rfl, rfl, rfl, rfl, rfl, rfl, rfl, rfl, rfl, rfl, rfl, rfl, rfl, rfl, rfl, rfl, rfl, rfl, rfl, rfl, rfl, rfl, rfl, rfl, rfl, rfl, rfl, rfl, rfl, rfl, rfl, rfl, rfl, rfl, rfl, rfl, rfl, rfl, rfl, rfl, trivial⟩ rfl rfl rfl d_X_crop_60 (fun H locs hV => ?_)
  refine lv_aload_n hx hb d_X_crop_63 rfl (lv_at hl 0 rfl) ?_
  refine k_get X hV 0 8 2 rfl rfl rfl gw_250 rfl rfl d_X_crop_64 ?_
  refine k_get X hV 15 5 1 rfl rfl rfl gw_140 rfl rfl d_X_crop_67 ?_
  refine lv_iload hx hb d_X_crop_70 (lv_at hl 4 rfl) ?_
  obtain ⟨v_trial_farms_kinds_91, hc_92, hf⟩ := kb1_some hf
  refine k_cvv (w1 := (wd_Fa_sowAll D h_trial_farms h_trial_farms_kinds h_trial_farms_cells h_trial_farms_owners h_trial_farms_purses v_trial_farms_number_78 v_trial_farms_burnt_79 v_trial_farms_kinds_91)) (ws' := (wd_X_crop D h h_here h_kept h_trial h_parts h_text h_sheets h_findings h_here_ground h_here_farms h_here_mountain h_here_ground_heights h_here_ground_ages h_here_ground_walls h_here_farms_kinds h_here_farms_cells h_here_farms_owners h_here_farms_purses h_here_mountain_chances h_here_mountain_shows h_here_mountain_diary h_trial_ground h_trial_farms h_trial_mountain h_trial_ground_heights h_trial_ground_ages h_trial_ground_walls h_trial_farms_kinds h_trial_farms_cells h_trial_farms_owners h_trial_farms_purses h_trial_mountain_chances h_trial_mountain_shows h_trial_mountain_diary v_isKept v_here_month v_here_volume v_here_outs v_here_fed v_here_fedOuts v_here_arePigsTold v_here_ground_vent v_here_ground_ash v_here_ground_heights v_here_ground_ages v_here_ground_walls v_here_farms_number v_here_farms_burnt v_here_farms_kinds v_here_farms_cells v_here_farms_owners v_here_farms_purses v_here_mountain_seen v_here_mountain_state v_here_mountain_z v_here_mountain_chances v_here_mountain_shows v_here_mountain_diary v_trial_month_67 v_trial_volume_68 v_trial_outs_69 v_trial_fed_70 v_trial_fedOuts_71 v_trial_arePigsTold_72 v_trial_ground_vent_73 v_trial_ground_ash_74 v_trial_ground_heights_75 v_trial_ground_ages_76 v_trial_ground_walls_77 v_trial_farms_number_78 v_trial_farms_burnt_79 v_trial_farms_kinds_91 v_trial_farms_cells_81 v_trial_farms_owners_82 v_trial_farms_purses_83 v_trial_mountain_seen_84 v_trial_mountain_state_85 v_trial_mountain_z_86 v_trial_mountain_chances_87 v_trial_mountain_shows_88 v_trial_mountain_diary_89 v_findings)) X hV hl.1 (c_Fa_sowAll D h_trial_farms h_trial_farms_kinds h_trial_farms_cells h_trial_farms_owners h_trial_farms_purses v_trial_farms_number_78 v_trial_farms_burnt_79 v_trial_farms_kinds_80 x4 hc_92) fk_Fa_sowAll gw_625 rfl 20 0 rfl rfl [20, 21] [none, none, none, none, none, none, none, none, none, none, none, none, none, none, none, none, none, none, none, none, some 0, some 1, none, none, none, none, none, none, none, none] rfl rfl ⟨rfl, rfl, rfl, rfl, rfl, rfl, rfl, rfl, rfl, rfl, rfl, rfl, rfl, rfl, rfl, rfl, rfl, rfl, rfl, rfl, rfl, rfl, rfl, rfl, rfl, rfl, rfl, rfl, rfl, rfl, rfl, rfl, rfl, rfl, trivial⟩ rfl rfl rfl d_X_crop_72 (fun H locs hV => ?_)
  refine lv_aload_n hx hb d_X_crop_75 rfl (lv_at hl 0 rfl) ?_
  refine k_get X hV 0 8 2 rfl rfl rfl gw_250 rfl rfl d_X_crop_76 ?_
  refine lv_iload_n hx hb d_X_crop_79 rfl (lv_at hl 1 rfl) ?_
  obtain ⟨r_93, v_trial_month_94, v_trial_outs_95, v_trial_fed_96, v_trial_fedOuts_97, v_trial_arePigsTold_98, v_trial_ground_ash_99, v_trial_ground_heights_100, v_trial_ground_ages_101, v_trial_farms_burnt_102, v_trial_farms_purses_103, v_trial_mountain_state_104, v_trial_mountain_z_105, hc_106, hf⟩ := kb13_some hf
  refine k_cvi (w1 := (wd_Sl_goMonths D h_trial h_trial_ground h_trial_farms h_trial_mountain h_trial_ground_heights h_trial_ground_ages h_trial_ground_walls h_trial_farms_kinds h_trial_farms_cells h_trial_farms_owners h_trial_farms_purses h_trial_mountain_chances h_trial_mountain_shows h_trial_mountain_diary v_trial_month_94 v_trial_volume_68 v_trial_outs_95 v_trial_fed_96 v_trial_fedOuts_97 v_trial_arePigsTold_98 v_trial_ground_vent_73 v_trial_ground_ash_99 v_trial_ground_heights_100 v_trial_ground_ages_101 v_trial_ground_walls_77 v_trial_farms_number_78 v_trial_farms_burnt_102 v_trial_farms_kinds_91 v_trial_farms_cells_81 v_trial_farms_purses_103 v_trial_mountain_seen_84 v_trial_mountain_state_104 v_trial_mountain_z_105 v_trial_mountain_chances_87 v_trial_mountain_shows_88)) (r := r_93) (ws' := (wd_X_crop D h h_here h_kept h_trial h_parts h_text h_sheets h_findings h_here_ground h_here_farms h_here_mountain h_here_ground_heights h_here_ground_ages h_here_ground_walls h_here_farms_kinds h_here_farms_cells h_here_farms_owners h_here_farms_purses h_here_mountain_chances h_here_mountain_shows h_here_mountain_diary h_trial_ground h_trial_farms h_trial_mountain h_trial_ground_heights h_trial_ground_ages h_trial_ground_walls h_trial_farms_kinds h_trial_farms_cells h_trial_farms_owners h_trial_farms_purses h_trial_mountain_chances h_trial_mountain_shows h_trial_mountain_diary v_isKept v_here_month v_here_volume v_here_outs v_here_fed v_here_fedOuts v_here_arePigsTold v_here_ground_vent v_here_ground_ash v_here_ground_heights v_here_ground_ages v_here_ground_walls v_here_farms_number v_here_farms_burnt v_here_farms_kinds v_here_farms_cells v_here_farms_owners v_here_farms_purses v_here_mountain_seen v_here_mountain_state v_here_mountain_z v_here_mountain_chances v_here_mountain_shows v_here_mountain_diary v_trial_month_94 v_trial_volume_68 v_trial_outs_95 v_trial_fed_96 v_trial_fedOuts_97 v_trial_arePigsTold_98 v_trial_ground_vent_73 v_trial_ground_ash_99 v_trial_ground_heights_100 v_trial_ground_ages_101 v_trial_ground_walls_77 v_trial_farms_number_78 v_trial_farms_burnt_102 v_trial_farms_kinds_91 v_trial_farms_cells_81 v_trial_farms_owners_82 v_trial_farms_purses_103 v_trial_mountain_seen_84 v_trial_mountain_state_104 v_trial_mountain_z_105 v_trial_mountain_chances_87 v_trial_mountain_shows_88 v_trial_mountain_diary_89 v_findings)) X hV hl.1 (c_Sl_goMonths D h_trial h_trial_ground h_trial_farms h_trial_mountain h_trial_ground_heights h_trial_ground_ages h_trial_ground_walls h_trial_farms_kinds h_trial_farms_cells h_trial_farms_owners h_trial_farms_purses h_trial_mountain_chances h_trial_mountain_shows h_trial_mountain_diary v_trial_month_67 v_trial_volume_68 v_trial_outs_69 v_trial_fed_70 v_trial_fedOuts_71 v_trial_arePigsTold_72 v_trial_ground_vent_73 v_trial_ground_ash_74 v_trial_ground_heights_75 v_trial_ground_ages_76 v_trial_ground_walls_77 v_trial_farms_number_78 v_trial_farms_burnt_79 v_trial_farms_kinds_91 v_trial_farms_cells_81 v_trial_farms_purses_83 v_trial_mountain_seen_84 v_trial_mountain_state_85 v_trial_mountain_z_86 v_trial_mountain_chances_87 v_trial_mountain_shows_88 x1 hc_106) fk_Sl_goMonths gw_545 rfl 15 5 rfl rfl [15, 16, 17, 18, 19, 20, 21, 22, 24, 25, 26, 27] [none, none, none, none, none, none, none, none, none, none, none, none, none, none, none, some 0, some 1, some 2, some 3, some 4, some 5, some 6, some 7, none, some 8, some 9, some 10, some 11, none, none] rfl rfl ⟨rfl, rfl, rfl, rfl, rfl, rfl, rfl, rfl, rfl, rfl, rfl, rfl, rfl, rfl, rfl, rfl, rfl, rfl, rfl, rfl, rfl, rfl, rfl, rfl, rfl, rfl, rfl, rfl, rfl, rfl, rfl, rfl, rfl, rfl, rfl, rfl, rfl, rfl, rfl, rfl, rfl, rfl, rfl, rfl, rfl, rfl, rfl, rfl, rfl, rfl, rfl, rfl, rfl, rfl, trivial⟩ rfl rfl rfl d_X_crop_80 (fun H locs hV => ?_)
  refine lv_pop hx hb d_X_crop_83 rfl ?_
  refine lv_aload_n hx hb d_X_crop_84 rfl (lv_at hl 0 rfl) ?_
  refine k_get X hV 0 8 2 rfl rfl rfl gw_250 rfl rfl d_X_crop_85 ?_
  refine k_get X hV 15 5 1 rfl rfl rfl gw_140 rfl rfl d_X_crop_88 ?_
  obtain ⟨r_107, hc_108, hf⟩ := kb1_some hf
  refine k_cvi (w1 := (wd_Fa_allCoins D h_trial_farms h_trial_farms_kinds h_trial_farms_cells h_trial_farms_owners h_trial_farms_purses v_trial_farms_number_78 v_trial_farms_burnt_102 v_trial_farms_purses_103)) (r := r_107) (ws' := (wd_X_crop D h h_here h_kept h_trial h_parts h_text h_sheets h_findings h_here_ground h_here_farms h_here_mountain h_here_ground_heights h_here_ground_ages h_here_ground_walls h_here_farms_kinds h_here_farms_cells h_here_farms_owners h_here_farms_purses h_here_mountain_chances h_here_mountain_shows h_here_mountain_diary h_trial_ground h_trial_farms h_trial_mountain h_trial_ground_heights h_trial_ground_ages h_trial_ground_walls h_trial_farms_kinds h_trial_farms_cells h_trial_farms_owners h_trial_farms_purses h_trial_mountain_chances h_trial_mountain_shows h_trial_mountain_diary v_isKept v_here_month v_here_volume v_here_outs v_here_fed v_here_fedOuts v_here_arePigsTold v_here_ground_vent v_here_ground_ash v_here_ground_heights v_here_ground_ages v_here_ground_walls v_here_farms_number v_here_farms_burnt v_here_farms_kinds v_here_farms_cells v_here_farms_owners v_here_farms_purses v_here_mountain_seen v_here_mountain_state v_here_mountain_z v_here_mountain_chances v_here_mountain_shows v_here_mountain_diary v_trial_month_94 v_trial_volume_68 v_trial_outs_95 v_trial_fed_96 v_trial_fedOuts_97 v_trial_arePigsTold_98 v_trial_ground_vent_73 v_trial_ground_ash_99 v_trial_ground_heights_100 v_trial_ground_ages_101 v_trial_ground_walls_77 v_trial_farms_number_78 v_trial_farms_burnt_102 v_trial_farms_kinds_91 v_trial_farms_cells_81 v_trial_farms_owners_82 v_trial_farms_purses_103 v_trial_mountain_seen_84 v_trial_mountain_state_104 v_trial_mountain_z_105 v_trial_mountain_chances_87 v_trial_mountain_shows_88 v_trial_mountain_diary_89 v_findings)) X hV hl.1 (c_Fa_allCoins D h_trial_farms h_trial_farms_kinds h_trial_farms_cells h_trial_farms_owners h_trial_farms_purses v_trial_farms_number_78 v_trial_farms_burnt_102 v_trial_farms_purses_103 hc_108) fk_Fa_allCoins gw_617 rfl 20 0 rfl rfl [20, 24] [none, none, none, none, none, none, none, none, none, none, none, none, none, none, none, none, none, none, none, none, some 0, none, none, none, some 1, none, none, none, none, none] rfl rfl ⟨rfl, rfl, rfl, rfl, rfl, rfl, rfl, rfl, rfl, rfl, rfl, rfl, rfl, rfl, rfl, rfl, rfl, rfl, rfl, rfl, rfl, rfl, rfl, rfl, rfl, rfl, rfl, rfl, rfl, rfl, rfl, rfl, rfl, rfl, trivial⟩ rfl rfl rfl d_X_crop_91 (fun H locs hV => ?_)
  refine lv_istore (lv' := [(5, .int r_107), (0, .ref h), (1, .int x1), (2, .int x2), (3, .int x3), (4, .int x4)]) hx hb d_X_crop_94 hl (by decide) rfl (fun ls hl => ?_)
  refine lv_iload hx hb d_X_crop_96 (lv_at hl 5 rfl) ?_
  refine lv_if_eq (tgt := 107) hx hb d_X_crop_98 (by decide) (fun c_109 => ?_) (fun c_109 => ?_)
  · replace hf := kifp c_109 hf
    refine lv_iload hx hb d_X_crop_107 (lv_at hl 0 rfl) ?_
    refine lv_istore_n (lv' := [(3, .int r_107), (5, .int r_107), (0, .ref h), (1, .int x1), (2, .int x2), (4, .int x4)]) hx hb d_X_crop_109 rfl hl (by decide) rfl (fun ls hl => ?_)
    refine lv_iload hx hb d_X_crop_110 (lv_at hl 5 rfl) ?_
    refine lv_istore_n (lv' := [(2, .int x4), (3, .int r_107), (5, .int r_107), (0, .ref h), (1, .int x1), (4, .int x4)]) hx hb d_X_crop_112 rfl hl (by decide) rfl (fun ls hl => ?_)
    refine lv_iinc (v := (x4 + 1)) (lv' := [(4, .int (x4 + 1)), (2, .int x4), (3, .int r_107), (5, .int r_107), (0, .ref h), (1, .int x1)]) hx hb d_X_crop_113 hl (k := 5) rfl rfl (by decide) rfl (fun ls hl => ?_)
    refine lv_goto (tgt := 45) hx hb d_X_crop_116 (by decide) ?_
    exact hrec1 _ _ _ _ _ _ _ _ _ _ _ _ _ _ _ _ _ _ _ _ _ _ _ _ _ _ hf _ _ _ hV (lv_sub hl [4, 5, 1, 2, 0] rfl)
  replace hf := kifn c_109 hf
  refine lv_iload hx hb d_X_crop_101 (lv_at hl 0 rfl) ?_
  refine lv_iload_n hx hb d_X_crop_103 rfl (lv_at hl 4 rfl) ?_
  refine lv_icmp_le (tgt := 113) hx hb d_X_crop_104 (by decide) (fun c_110 => ?_) (fun c_110 => ?_)
  · replace hf := kifp c_110 hf
    refine lv_iinc (v := (x4 + 1)) (lv' := [(4, .int (x4 + 1)), (5, .int r_107), (0, .ref h), (1, .int x1), (2, .int x2), (3, .int x3)]) hx hb d_X_crop_113 hl (k := 5) rfl rfl (by decide) rfl (fun ls hl => ?_)
    refine lv_goto (tgt := 45) hx hb d_X_crop_116 (by decide) ?_
    exact hrec1 _ _ _ _ _ _ _ _ _ _ _ _ _ _ _ _ _ _ _ _ _ _ _ _ _ _ hf _ _ _ hV (lv_sub hl [2, 3, 4, 5, 0] rfl)
  replace hf := kifn c_110 hf
  refine lv_iload hx hb d_X_crop_107 (lv_at hl 0 rfl) ?_
  refine lv_istore_n (lv' := [(3, .int r_107), (5, .int r_107), (0, .ref h), (1, .int x1), (2, .int x2), (4, .int x4)]) hx hb d_X_crop_109 rfl hl (by decide) rfl (fun ls hl => ?_)
  refine lv_iload hx hb d_X_crop_110 (lv_at hl 5 rfl) ?_
  refine lv_istore_n (lv' := [(2, .int x4), (3, .int r_107), (5, .int r_107), (0, .ref h), (1, .int x1), (4, .int x4)]) hx hb d_X_crop_112 rfl hl (by decide) rfl (fun ls hl => ?_)
  refine lv_iinc (v := (x4 + 1)) (lv' := [(4, .int (x4 + 1)), (2, .int x4), (3, .int r_107), (5, .int r_107), (0, .ref h), (1, .int x1)]) hx hb d_X_crop_113 hl (k := 5) rfl rfl (by decide) rfl (fun ls hl => ?_)
  refine lv_goto (tgt := 45) hx hb d_X_crop_116 (by decide) ?_
  exact hrec1 _ _ _ _ _ _ _ _ _ _ _ _ _ _ _ _ _ _ _ _ _ _ _ _ _ _ hf _ _ _ hV (lv_sub hl [4, 5, 1, 2, 0] rfl)
set_option maxHeartbeats 2000000 in
set_option maxRecDepth 20000 in
theorem tl_X_crop_1 {l : Launch} {p : Program} {e : Env} {s : State} {m : MethodId} {args : Array Value} {below : List Frame} {meth : Method} {c : Code} {D : kD} {wc0 : va_W} {h : Nat} {h_here : Nat} {h_kept : Nat} {h_trial : Nat} {h_parts : Nat} {h_text : Nat} {h_sheets : Nat} {h_findings : Nat} {h_here_ground : Nat} {h_here_farms : Nat} {h_here_mountain : Nat} {h_here_ground_heights : Nat} {h_here_ground_ages : Nat} {h_here_ground_walls : Nat} {h_here_farms_kinds : Nat} {h_here_farms_cells : Nat} {h_here_farms_owners : Nat} {h_here_farms_purses : Nat} {h_here_mountain_chances : Nat} {h_here_mountain_shows : Nat} {h_here_mountain_diary : Nat} {h_trial_ground : Nat} {h_trial_farms : Nat} {h_trial_mountain : Nat} {h_trial_ground_heights : Nat} {h_trial_ground_ages : Nat} {h_trial_ground_walls : Nat} {h_trial_farms_kinds : Nat} {h_trial_farms_cells : Nat} {h_trial_farms_owners : Nat} {h_trial_farms_purses : Nat} {h_trial_mountain_chances : Nat} {h_trial_mountain_shows : Nat} {h_trial_mountain_diary : Nat} {v_isKept : Int32} {v_here_month : Int32} {v_here_volume : Int32} {v_here_outs : Int32} {v_here_fed : Int32} {v_here_fedOuts : Int32} {v_here_arePigsTold : Int32} {v_here_ground_vent : Int32} {v_here_ground_ash : Int32} {v_here_ground_heights : Nat → Int32} {v_here_ground_ages : Nat → Int32} {v_here_ground_walls : Nat → Int32} {v_here_farms_number : Int32} {v_here_farms_burnt : Int32} {v_here_farms_kinds : Nat → Int32} {v_here_farms_cells : Nat → Int32} {v_here_farms_owners : Nat → Int32} {v_here_farms_purses : Nat → Int32} {v_here_mountain_seen : Int32} {v_here_mountain_state : Int32} {v_here_mountain_z : Int32} {v_here_mountain_chances : Nat → Int32} {v_here_mountain_shows : Nat → Int32} {v_here_mountain_diary : Nat → Int32} {v_findings : Nat → Int32} {x1 : Int32} {out : Int32 × Int32 × Int32 × Int32 × Int32 × Int32 × Int32 × Int32 × Int32 × (Nat → Int32) × (Nat → Int32) × (Nat → Int32) × Int32 × Int32 × (Nat → Int32) × (Nat → Int32) × (Nat → Int32) × (Nat → Int32) × Int32 × Int32 × Int32 × (Nat → Int32) × (Nat → Int32) × (Nat → Int32) × (Nat → Int32)} (X : kX p m meth c s args D (va_A wc0 s.heap.size) b_X_crop "MountainFarms" 6 (some .int)) : ∀ (n : Nat) (x2 : Int32) (x3 : Int32) (x4 : Int32) (v_trial_month : Int32) (v_trial_volume : Int32) (v_trial_outs : Int32) (v_trial_fed : Int32) (v_trial_fedOuts : Int32) (v_trial_arePigsTold : Int32) (v_trial_ground_vent : Int32) (v_trial_ground_ash : Int32) (v_trial_ground_heights : Nat → Int32) (v_trial_ground_ages : Nat → Int32) (v_trial_ground_walls : Nat → Int32) (v_trial_farms_number : Int32) (v_trial_farms_burnt : Int32) (v_trial_farms_kinds : Nat → Int32) (v_trial_farms_cells : Nat → Int32) (v_trial_farms_owners : Nat → Int32) (v_trial_farms_purses : Nat → Int32) (v_trial_mountain_seen : Int32) (v_trial_mountain_state : Int32) (v_trial_mountain_z : Int32) (v_trial_mountain_chances : Nat → Int32) (v_trial_mountain_shows : Nat → Int32) (v_trial_mountain_diary : Nat → Int32), fl_X_crop_1 x1 v_here_month v_here_volume v_here_outs v_here_fed v_here_fedOuts v_here_arePigsTold v_here_ground_vent v_here_ground_ash v_here_ground_heights v_here_ground_ages v_here_ground_walls v_here_farms_number v_here_farms_burnt v_here_farms_kinds v_here_farms_cells v_here_farms_owners v_here_farms_purses v_here_mountain_seen v_here_mountain_state v_here_mountain_z v_here_mountain_chances v_here_mountain_shows v_here_mountain_diary v_findings n x2 x3 x4 v_trial_month v_trial_volume v_trial_outs v_trial_fed v_trial_fedOuts v_trial_arePigsTold v_trial_ground_vent v_trial_ground_ash v_trial_ground_heights v_trial_ground_ages v_trial_ground_walls v_trial_farms_number v_trial_farms_burnt v_trial_farms_kinds v_trial_farms_cells v_trial_farms_owners v_trial_farms_purses v_trial_mountain_seen v_trial_mountain_state v_trial_mountain_z v_trial_mountain_chances v_trial_mountain_shows v_trial_mountain_diary = some out → ∀ (H : Heap) (locs : List Loc) (ls : Array Slot), kV D (va_A wc0 s.heap.size) s (wd_X_crop D h h_here h_kept h_trial h_parts h_text h_sheets h_findings h_here_ground h_here_farms h_here_mountain h_here_ground_heights h_here_ground_ages h_here_ground_walls h_here_farms_kinds h_here_farms_cells h_here_farms_owners h_here_farms_purses h_here_mountain_chances h_here_mountain_shows h_here_mountain_diary h_trial_ground h_trial_farms h_trial_mountain h_trial_ground_heights h_trial_ground_ages h_trial_ground_walls h_trial_farms_kinds h_trial_farms_cells h_trial_farms_owners h_trial_farms_purses h_trial_mountain_chances h_trial_mountain_shows h_trial_mountain_diary v_isKept v_here_month v_here_volume v_here_outs v_here_fed v_here_fedOuts v_here_arePigsTold v_here_ground_vent v_here_ground_ash v_here_ground_heights v_here_ground_ages v_here_ground_walls v_here_farms_number v_here_farms_burnt v_here_farms_kinds v_here_farms_cells v_here_farms_owners v_here_farms_purses v_here_mountain_seen v_here_mountain_state v_here_mountain_z v_here_mountain_chances v_here_mountain_shows v_here_mountain_diary v_trial_month v_trial_volume v_trial_outs v_trial_fed v_trial_fedOuts v_trial_arePigsTold v_trial_ground_vent v_trial_ground_ash v_trial_ground_heights v_trial_ground_ages v_trial_ground_walls v_trial_farms_number v_trial_farms_burnt v_trial_farms_kinds v_trial_farms_cells v_trial_farms_owners v_trial_farms_purses v_trial_mountain_seen v_trial_mountain_state v_trial_mountain_z v_trial_mountain_chances v_trial_mountain_shows v_trial_mountain_diary v_findings) H locs → lv_has ls 6 [(0, .ref h), (1, .int x1), (2, .int x2), (3, .int x3), (4, .int x4)] → W p l e { frames := 6, cells := 0, slots := 0, locals := 139 } s m args below meth c H locs 0 0 (MQ below (kQi D wc0 (wd_X_crop D h h_here h_kept h_trial h_parts h_text h_sheets h_findings h_here_ground h_here_farms h_here_mountain h_here_ground_heights h_here_ground_ages h_here_ground_walls h_here_farms_kinds h_here_farms_cells h_here_farms_owners h_here_farms_purses h_here_mountain_chances h_here_mountain_shows h_here_mountain_diary h_trial_ground h_trial_farms h_trial_mountain h_trial_ground_heights h_trial_ground_ages h_trial_ground_walls h_trial_farms_kinds h_trial_farms_cells h_trial_farms_owners h_trial_farms_purses h_trial_mountain_chances h_trial_mountain_shows h_trial_mountain_diary v_isKept v_here_month v_here_volume v_here_outs v_here_fed v_here_fedOuts v_here_arePigsTold v_here_ground_vent v_here_ground_ash v_here_ground_heights v_here_ground_ages v_here_ground_walls v_here_farms_number v_here_farms_burnt v_here_farms_kinds v_here_farms_cells v_here_farms_owners v_here_farms_purses v_here_mountain_seen v_here_mountain_state v_here_mountain_z v_here_mountain_chances v_here_mountain_shows v_here_mountain_diary out.2.1 out.2.2.1 out.2.2.2.1 out.2.2.2.2.1 out.2.2.2.2.2.1 out.2.2.2.2.2.2.1 out.2.2.2.2.2.2.2.1 out.2.2.2.2.2.2.2.2.1 out.2.2.2.2.2.2.2.2.2.1 out.2.2.2.2.2.2.2.2.2.2.1 out.2.2.2.2.2.2.2.2.2.2.2.1 out.2.2.2.2.2.2.2.2.2.2.2.2.1 out.2.2.2.2.2.2.2.2.2.2.2.2.2.1 out.2.2.2.2.2.2.2.2.2.2.2.2.2.2.1 out.2.2.2.2.2.2.2.2.2.2.2.2.2.2.2.1 out.2.2.2.2.2.2.2.2.2.2.2.2.2.2.2.2.1 out.2.2.2.2.2.2.2.2.2.2.2.2.2.2.2.2.2.1 out.2.2.2.2.2.2.2.2.2.2.2.2.2.2.2.2.2.2.1 out.2.2.2.2.2.2.2.2.2.2.2.2.2.2.2.2.2.2.2.1 out.2.2.2.2.2.2.2.2.2.2.2.2.2.2.2.2.2.2.2.2.1 out.2.2.2.2.2.2.2.2.2.2.2.2.2.2.2.2.2.2.2.2.2.1 out.2.2.2.2.2.2.2.2.2.2.2.2.2.2.2.2.2.2.2.2.2.2.1 out.2.2.2.2.2.2.2.2.2.2.2.2.2.2.2.2.2.2.2.2.2.2.2.1 out.2.2.2.2.2.2.2.2.2.2.2.2.2.2.2.2.2.2.2.2.2.2.2.2) s.heap.size out.1) args s 0 0 (va_A wc0 s.heap.size)) (F0 m 45 ls []) := by
  intro n
  induction n with
  | zero => intro x2 x3 x4 v_trial_month v_trial_volume v_trial_outs v_trial_fed v_trial_fedOuts v_trial_arePigsTold v_trial_ground_vent v_trial_ground_ash v_trial_ground_heights v_trial_ground_ages v_trial_ground_walls v_trial_farms_number v_trial_farms_burnt v_trial_farms_kinds v_trial_farms_cells v_trial_farms_owners v_trial_farms_purses v_trial_mountain_seen v_trial_mountain_state v_trial_mountain_z v_trial_mountain_chances v_trial_mountain_shows v_trial_mountain_diary hf; exact knone hf
  | succ n ih => intro x2 x3 x4 v_trial_month v_trial_volume v_trial_outs v_trial_fed v_trial_fedOuts v_trial_arePigsTold v_trial_ground_vent v_trial_ground_ash v_trial_ground_heights v_trial_ground_ages v_trial_ground_walls v_trial_farms_number v_trial_farms_burnt v_trial_farms_kinds v_trial_farms_cells v_trial_farms_owners v_trial_farms_purses v_trial_mountain_seen v_trial_mountain_state v_trial_mountain_z v_trial_mountain_chances v_trial_mountain_shows v_trial_mountain_diary hf H locs ls hV hl; exact tb_X_crop_1 X ih hf hV hl
set_option maxHeartbeats 2000000 in
set_option maxRecDepth 20000 in
theorem t_X_crop {l : Launch} {p : Program} {e : Env} {s : State} {m : MethodId} {args : Array Value} {below : List Frame} {meth : Method} {c : Code} {D : kD} {wc0 : va_W} {h : Nat} {h_here : Nat} {h_kept : Nat} {h_trial : Nat} {h_parts : Nat} {h_text : Nat} {h_sheets : Nat} {h_findings : Nat} {h_here_ground : Nat} {h_here_farms : Nat} {h_here_mountain : Nat} {h_here_ground_heights : Nat} {h_here_ground_ages : Nat} {h_here_ground_walls : Nat} {h_here_farms_kinds : Nat} {h_here_farms_cells : Nat} {h_here_farms_owners : Nat} {h_here_farms_purses : Nat} {h_here_mountain_chances : Nat} {h_here_mountain_shows : Nat} {h_here_mountain_diary : Nat} {h_trial_ground : Nat} {h_trial_farms : Nat} {h_trial_mountain : Nat} {h_trial_ground_heights : Nat} {h_trial_ground_ages : Nat} {h_trial_ground_walls : Nat} {h_trial_farms_kinds : Nat} {h_trial_farms_cells : Nat} {h_trial_farms_owners : Nat} {h_trial_farms_purses : Nat} {h_trial_mountain_chances : Nat} {h_trial_mountain_shows : Nat} {h_trial_mountain_diary : Nat} {v_isKept : Int32} {v_here_month : Int32} {v_here_volume : Int32} {v_here_outs : Int32} {v_here_fed : Int32} {v_here_fedOuts : Int32} {v_here_arePigsTold : Int32} {v_here_ground_vent : Int32} {v_here_ground_ash : Int32} {v_here_ground_heights : Nat → Int32} {v_here_ground_ages : Nat → Int32} {v_here_ground_walls : Nat → Int32} {v_here_farms_number : Int32} {v_here_farms_burnt : Int32} {v_here_farms_kinds : Nat → Int32} {v_here_farms_cells : Nat → Int32} {v_here_farms_owners : Nat → Int32} {v_here_farms_purses : Nat → Int32} {v_here_mountain_seen : Int32} {v_here_mountain_state : Int32} {v_here_mountain_z : Int32} {v_here_mountain_chances : Nat → Int32} {v_here_mountain_shows : Nat → Int32} {v_here_mountain_diary : Nat → Int32} {v_trial_month : Int32} {v_trial_volume : Int32} {v_trial_outs : Int32} {v_trial_fed : Int32} {v_trial_fedOuts : Int32} {v_trial_arePigsTold : Int32} {v_trial_ground_vent : Int32} {v_trial_ground_ash : Int32} {v_trial_ground_heights : Nat → Int32} {v_trial_ground_ages : Nat → Int32} {v_trial_ground_walls : Nat → Int32} {v_trial_farms_number : Int32} {v_trial_farms_burnt : Int32} {v_trial_farms_kinds : Nat → Int32} {v_trial_farms_cells : Nat → Int32} {v_trial_farms_owners : Nat → Int32} {v_trial_farms_purses : Nat → Int32} {v_trial_mountain_seen : Int32} {v_trial_mountain_state : Int32} {v_trial_mountain_z : Int32} {v_trial_mountain_chances : Nat → Int32} {v_trial_mountain_shows : Nat → Int32} {v_trial_mountain_diary : Nat → Int32} {v_findings : Nat → Int32} {x1 : Int32} {out : Int32 × Int32 × Int32 × Int32 × Int32 × Int32 × Int32 × Int32 × Int32 × (Nat → Int32) × (Nat → Int32) × (Nat → Int32) × Int32 × Int32 × (Nat → Int32) × (Nat → Int32) × (Nat → Int32) × (Nat → Int32) × Int32 × Int32 × Int32 × (Nat → Int32) × (Nat → Int32) × (Nat → Int32) × (Nat → Int32)} (X : kX p m meth c s args D (va_A wc0 s.heap.size) b_X_crop "MountainFarms" 6 (some .int)) (hf : f_X_crop v_here_month v_here_volume v_here_outs v_here_fed v_here_fedOuts v_here_arePigsTold v_here_ground_vent v_here_ground_ash v_here_ground_heights v_here_ground_ages v_here_ground_walls v_here_farms_number v_here_farms_burnt v_here_farms_kinds v_here_farms_cells v_here_farms_owners v_here_farms_purses v_here_mountain_seen v_here_mountain_state v_here_mountain_z v_here_mountain_chances v_here_mountain_shows v_here_mountain_diary v_trial_month v_trial_volume v_trial_outs v_trial_fed v_trial_fedOuts v_trial_arePigsTold v_trial_ground_vent v_trial_ground_ash v_trial_ground_heights v_trial_ground_ages v_trial_ground_walls v_trial_farms_number v_trial_farms_burnt v_trial_farms_kinds v_trial_farms_cells v_trial_farms_owners v_trial_farms_purses v_trial_mountain_seen v_trial_mountain_state v_trial_mountain_z v_trial_mountain_chances v_trial_mountain_shows v_trial_mountain_diary v_findings x1 = some out) {H : Heap} {locs : List Loc} (hV : kV D (va_A wc0 s.heap.size) s (wd_X_crop D h h_here h_kept h_trial h_parts h_text h_sheets h_findings h_here_ground h_here_farms h_here_mountain h_here_ground_heights h_here_ground_ages h_here_ground_walls h_here_farms_kinds h_here_farms_cells h_here_farms_owners h_here_farms_purses h_here_mountain_chances h_here_mountain_shows h_here_mountain_diary h_trial_ground h_trial_farms h_trial_mountain h_trial_ground_heights h_trial_ground_ages h_trial_ground_walls h_trial_farms_kinds h_trial_farms_cells h_trial_farms_owners h_trial_farms_purses h_trial_mountain_chances h_trial_mountain_shows h_trial_mountain_diary v_isKept v_here_month v_here_volume v_here_outs v_here_fed v_here_fedOuts v_here_arePigsTold v_here_ground_vent v_here_ground_ash v_here_ground_heights v_here_ground_ages v_here_ground_walls v_here_farms_number v_here_farms_burnt v_here_farms_kinds v_here_farms_cells v_here_farms_owners v_here_farms_purses v_here_mountain_seen v_here_mountain_state v_here_mountain_z v_here_mountain_chances v_here_mountain_shows v_here_mountain_diary v_trial_month v_trial_volume v_trial_outs v_trial_fed v_trial_fedOuts v_trial_arePigsTold v_trial_ground_vent v_trial_ground_ash v_trial_ground_heights v_trial_ground_ages v_trial_ground_walls v_trial_farms_number v_trial_farms_burnt v_trial_farms_kinds v_trial_farms_cells v_trial_farms_owners v_trial_farms_purses v_trial_mountain_seen v_trial_mountain_state v_trial_mountain_z v_trial_mountain_chances v_trial_mountain_shows v_trial_mountain_diary v_findings) H locs) {ls : Array Slot} (hl : lv_has ls 6 [(0, .ref h), (1, .int x1)]) : W p l e { frames := 6, cells := 0, slots := 0, locals := 139 } s m args below meth c H locs 0 0 (MQ below (kQi D wc0 (wd_X_crop D h h_here h_kept h_trial h_parts h_text h_sheets h_findings h_here_ground h_here_farms h_here_mountain h_here_ground_heights h_here_ground_ages h_here_ground_walls h_here_farms_kinds h_here_farms_cells h_here_farms_owners h_here_farms_purses h_here_mountain_chances h_here_mountain_shows h_here_mountain_diary h_trial_ground h_trial_farms h_trial_mountain h_trial_ground_heights h_trial_ground_ages h_trial_ground_walls h_trial_farms_kinds h_trial_farms_cells h_trial_farms_owners h_trial_farms_purses h_trial_mountain_chances h_trial_mountain_shows h_trial_mountain_diary v_isKept v_here_month v_here_volume v_here_outs v_here_fed v_here_fedOuts v_here_arePigsTold v_here_ground_vent v_here_ground_ash v_here_ground_heights v_here_ground_ages v_here_ground_walls v_here_farms_number v_here_farms_burnt v_here_farms_kinds v_here_farms_cells v_here_farms_owners v_here_farms_purses v_here_mountain_seen v_here_mountain_state v_here_mountain_z v_here_mountain_chances v_here_mountain_shows v_here_mountain_diary out.2.1 out.2.2.1 out.2.2.2.1 out.2.2.2.2.1 out.2.2.2.2.2.1 out.2.2.2.2.2.2.1 out.2.2.2.2.2.2.2.1 out.2.2.2.2.2.2.2.2.1 out.2.2.2.2.2.2.2.2.2.1 out.2.2.2.2.2.2.2.2.2.2.1 out.2.2.2.2.2.2.2.2.2.2.2.1 out.2.2.2.2.2.2.2.2.2.2.2.2.1 out.2.2.2.2.2.2.2.2.2.2.2.2.2.1 out.2.2.2.2.2.2.2.2.2.2.2.2.2.2.1 out.2.2.2.2.2.2.2.2.2.2.2.2.2.2.2.1 out.2.2.2.2.2.2.2.2.2.2.2.2.2.2.2.2.1 out.2.2.2.2.2.2.2.2.2.2.2.2.2.2.2.2.2.1 out.2.2.2.2.2.2.2.2.2.2.2.2.2.2.2.2.2.2.1 out.2.2.2.2.2.2.2.2.2.2.2.2.2.2.2.2.2.2.2.1 out.2.2.2.2.2.2.2.2.2.2.2.2.2.2.2.2.2.2.2.2.1 out.2.2.2.2.2.2.2.2.2.2.2.2.2.2.2.2.2.2.2.2.2.1 out.2.2.2.2.2.2.2.2.2.2.2.2.2.2.2.2.2.2.2.2.2.2.1 out.2.2.2.2.2.2.2.2.2.2.2.2.2.2.2.2.2.2.2.2.2.2.2.1 out.2.2.2.2.2.2.2.2.2.2.2.2.2.2.2.2.2.2.2.2.2.2.2.2) s.heap.size out.1) args s 0 0 (va_A wc0 s.heap.size)) (F0 m 0 ls []) := by
  unfold f_X_crop at hf
  obtain ⟨hx, hb, -⟩ := id X
  refine lv_iload_n hx hb d_X_crop_0 rfl (lv_at hl 1 rfl) ?_
  refine lv_iconst (v := 1) hx hb d_X_crop_1 ic_1 ?_
  refine lv_sipush (v := 240) hx hb d_X_crop_2 sp_240 ?_
  obtain ⟨r_56, hc_57, hf⟩ := kb1_some hf
  refine k_csi (w1 := (wd_X_isWithin D)) (r := r_56) (ws' := (wd_X_crop D h h_here h_kept h_trial h_parts h_text h_sheets h_findings h_here_ground h_here_farms h_here_mountain h_here_ground_heights h_here_ground_ages h_here_ground_walls h_here_farms_kinds h_here_farms_cells h_here_farms_owners h_here_farms_purses h_here_mountain_chances h_here_mountain_shows h_here_mountain_diary h_trial_ground h_trial_farms h_trial_mountain h_trial_ground_heights h_trial_ground_ages h_trial_ground_walls h_trial_farms_kinds h_trial_farms_cells h_trial_farms_owners h_trial_farms_purses h_trial_mountain_chances h_trial_mountain_shows h_trial_mountain_diary v_isKept v_here_month v_here_volume v_here_outs v_here_fed v_here_fedOuts v_here_arePigsTold v_here_ground_vent v_here_ground_ash v_here_ground_heights v_here_ground_ages v_here_ground_walls v_here_farms_number v_here_farms_burnt v_here_farms_kinds v_here_farms_cells v_here_farms_owners v_here_farms_purses v_here_mountain_seen v_here_mountain_state v_here_mountain_z v_here_mountain_chances v_here_mountain_shows v_here_mountain_diary v_trial_month v_trial_volume v_trial_outs v_trial_fed v_trial_fedOuts v_trial_arePigsTold v_trial_ground_vent v_trial_ground_ash v_trial_ground_heights v_trial_ground_ages v_trial_ground_walls v_trial_farms_number v_trial_farms_burnt v_trial_farms_kinds v_trial_farms_cells v_trial_farms_owners v_trial_farms_purses v_trial_mountain_seen v_trial_mountain_state v_trial_mountain_z v_trial_mountain_chances v_trial_mountain_shows v_trial_mountain_diary v_findings)) X hV hl.1 (c_X_isWithin D x1 (1 : Int32) (240 : Int32) hc_57) fk_X_isWithin gw_280 rfl [] [none, none, none, none, none, none, none, none, none, none, none, none, none, none, none, none, none, none, none, none, none, none, none, none, none, none, none, none, none, none] rfl rfl ⟨rfl, rfl, rfl, rfl, rfl, rfl, rfl, rfl, rfl, rfl, rfl, rfl, rfl, rfl, rfl, rfl, rfl, rfl, rfl, rfl, rfl, rfl, rfl, rfl, rfl, rfl, rfl, rfl, rfl, rfl, trivial⟩ rfl rfl rfl d_X_crop_5 (fun H locs hV => ?_)
  refine lv_if_ne (tgt := 17) hx hb d_X_crop_8 (by decide) (fun c_58 => ?_) (fun c_58 => ?_)
  · replace hf := kifn c_58 hf
    refine lv_aload_n hx hb d_X_crop_17 rfl (lv_at hl 0 rfl) ?_
    refine k_get X hV 0 8 0 rfl rfl rfl gw_248 rfl rfl d_X_crop_18 ?_
    refine k_get X hV 1 5 3 rfl rfl rfl gw_145 rfl rfl d_X_crop_21 ?_
    refine lv_iload_n hx hb d_X_crop_24 rfl (lv_at hl 1 rfl) ?_
    refine lv_iadd hx hb d_X_crop_25 ?_
    refine lv_sipush (v := 9999) hx hb d_X_crop_26 sp_9999 ?_
    refine lv_icmp_le (tgt := 38) hx hb d_X_crop_29 (by decide) (fun c_59 => ?_) (fun c_59 => ?_)
    · replace hf := kifp c_59 hf
      refine lv_iconst (v := 0) hx hb d_X_crop_38 ic_0 ?_
      refine lv_istore_n (lv' := [(2, .int (0 : Int32)), (0, .ref h), (1, .int x1)]) hx hb d_X_crop_39 rfl hl (by decide) rfl (fun ls hl => ?_)
      refine lv_iconst (v := 0) hx hb d_X_crop_40 ic_0 ?_
      refine lv_istore_n (lv' := [(3, .int (0 : Int32)), (2, .int (0 : Int32)), (0, .ref h), (1, .int x1)]) hx hb d_X_crop_41 rfl hl (by decide) rfl (fun ls hl => ?_)
      refine lv_iconst (v := 0) hx hb d_X_crop_42 ic_0 ?_
      refine lv_istore (lv' := [(4, .int (0 : Int32)), (3, .int (0 : Int32)), (2, .int (0 : Int32)), (0, .ref h), (1, .int x1)]) hx hb d_X_crop_43 hl (by decide) rfl (fun ls hl => ?_)
      exact tl_X_crop_1 X _ _ _ _ _ _ _ _ _ _ _ _ _ _ _ _ _ _ _ _ _ _ _ _ _ _ _ hf _ _ _ hV (lv_sub hl [3, 4, 2, 1, 0] rfl)
    replace hf := kifn c_59 hf
    refine lv_aload_n hx hb d_X_crop_32 rfl (lv_at hl 0 rfl) ?_
    refine lv_iconst (v := 4) hx hb d_X_crop_33 ic_4 ?_
    obtain ⟨r_60, v_findings_61, hc_62, hf⟩ := kb2_some hf
    refine k_cvi (w1 := (wd_X_finding D h h_here h_kept h_trial h_parts h_text h_sheets h_findings v_isKept v_findings_61)) (r := r_60) (ws' := (wd_X_crop D h h_here h_kept h_trial h_parts h_text h_sheets h_findings h_here_ground h_here_farms h_here_mountain h_here_ground_heights h_here_ground_ages h_here_ground_walls h_here_farms_kinds h_here_farms_cells h_here_farms_owners h_here_farms_purses h_here_mountain_chances h_here_mountain_shows h_here_mountain_diary h_trial_ground h_trial_farms h_trial_mountain h_trial_ground_heights h_trial_ground_ages h_trial_ground_walls h_trial_farms_kinds h_trial_farms_cells h_trial_farms_owners h_trial_farms_purses h_trial_mountain_chances h_trial_mountain_shows h_trial_mountain_diary v_isKept v_here_month v_here_volume v_here_outs v_here_fed v_here_fedOuts v_here_arePigsTold v_here_ground_vent v_here_ground_ash v_here_ground_heights v_here_ground_ages v_here_ground_walls v_here_farms_number v_here_farms_burnt v_here_farms_kinds v_here_farms_cells v_here_farms_owners v_here_farms_purses v_here_mountain_seen v_here_mountain_state v_here_mountain_z v_here_mountain_chances v_here_mountain_shows v_here_mountain_diary v_trial_month v_trial_volume v_trial_outs v_trial_fed v_trial_fedOuts v_trial_arePigsTold v_trial_ground_vent v_trial_ground_ash v_trial_ground_heights v_trial_ground_ages v_trial_ground_walls v_trial_farms_number v_trial_farms_burnt v_trial_farms_kinds v_trial_farms_cells v_trial_farms_owners v_trial_farms_purses v_trial_mountain_seen v_trial_mountain_state v_trial_mountain_z v_trial_mountain_chances v_trial_mountain_shows v_trial_mountain_diary v_findings_61)) X hV hl.1 (c_X_finding D h h_here h_kept h_trial h_parts h_text h_sheets h_findings v_isKept v_findings (4 : Int32) hc_62) fk_X_finding gw_283 rfl 0 8 rfl rfl [0, 29] [some 0, none, none, none, none, none, none, none, none, none, none, none, none, none, none, none, none, none, none, none, none, none, none, none, none, none, none, none, none, some 1] rfl rfl ⟨rfl, rfl, rfl, rfl, rfl, rfl, rfl, rfl, rfl, rfl, rfl, rfl, rfl, rfl, rfl, rfl, rfl, rfl, rfl, rfl, rfl, rfl, rfl, rfl, rfl, rfl, rfl, rfl, rfl, rfl, rfl, rfl, rfl, rfl, trivial⟩ rfl rfl rfl d_X_crop_34 (fun H locs hV => ?_)
    have e_ := Option.some.inj hf
    subst e_
    exact k_iret X rfl hV rfl d_X_crop_37
  replace hf := kifp c_58 hf
  refine lv_aload_n hx hb d_X_crop_11 rfl (lv_at hl 0 rfl) ?_
  refine lv_iconst (v := 0) hx hb d_X_crop_12 ic_0 ?_
  obtain ⟨r_63, v_findings_64, hc_65, hf⟩ := kb2_some hf
  refine k_cvi (w1 := (wd_X_finding D h h_here h_kept h_trial h_parts h_text h_sheets h_findings v_isKept v_findings_64)) (r := r_63) (ws' := (wd_X_crop D h h_here h_kept h_trial h_parts h_text h_sheets h_findings h_here_ground h_here_farms h_here_mountain h_here_ground_heights h_here_ground_ages h_here_ground_walls h_here_farms_kinds h_here_farms_cells h_here_farms_owners h_here_farms_purses h_here_mountain_chances h_here_mountain_shows h_here_mountain_diary h_trial_ground h_trial_farms h_trial_mountain h_trial_ground_heights h_trial_ground_ages h_trial_ground_walls h_trial_farms_kinds h_trial_farms_cells h_trial_farms_owners h_trial_farms_purses h_trial_mountain_chances h_trial_mountain_shows h_trial_mountain_diary v_isKept v_here_month v_here_volume v_here_outs v_here_fed v_here_fedOuts v_here_arePigsTold v_here_ground_vent v_here_ground_ash v_here_ground_heights v_here_ground_ages v_here_ground_walls v_here_farms_number v_here_farms_burnt v_here_farms_kinds v_here_farms_cells v_here_farms_owners v_here_farms_purses v_here_mountain_seen v_here_mountain_state v_here_mountain_z v_here_mountain_chances v_here_mountain_shows v_here_mountain_diary v_trial_month v_trial_volume v_trial_outs v_trial_fed v_trial_fedOuts v_trial_arePigsTold v_trial_ground_vent v_trial_ground_ash v_trial_ground_heights v_trial_ground_ages v_trial_ground_walls v_trial_farms_number v_trial_farms_burnt v_trial_farms_kinds v_trial_farms_cells v_trial_farms_owners v_trial_farms_purses v_trial_mountain_seen v_trial_mountain_state v_trial_mountain_z v_trial_mountain_chances v_trial_mountain_shows v_trial_mountain_diary v_findings_64)) X hV hl.1 (c_X_finding D h h_here h_kept h_trial h_parts h_text h_sheets h_findings v_isKept v_findings (0 : Int32) hc_65) fk_X_finding gw_283 rfl 0 8 rfl rfl [0, 29] [some 0, none, none, none, none, none, none, none, none, none, none, none, none, none, none, none, none, none, none, none, none, none, none, none, none, none, none, none, none, some 1] rfl rfl ⟨rfl, rfl, rfl, rfl, rfl, rfl, rfl, rfl, rfl, rfl, rfl, rfl, rfl, rfl, rfl, rfl, rfl, rfl, rfl, rfl, rfl, rfl, rfl, rfl, rfl, rfl, rfl, rfl, rfl, rfl, rfl, rfl, rfl, rfl, trivial⟩ rfl rfl rfl d_X_crop_13 (fun H locs hV => ?_)
  have e_ := Option.some.inj hf
  subst e_
  exact k_iret X rfl hV rfl d_X_crop_16
set_option maxHeartbeats 2000000 in
set_option maxRecDepth 20000 in
theorem c_X_crop {l : Launch} (D : kD) (h : Nat) (h_here : Nat) (h_kept : Nat) (h_trial : Nat) (h_parts : Nat) (h_text : Nat) (h_sheets : Nat) (h_findings : Nat) (h_here_ground : Nat) (h_here_farms : Nat) (h_here_mountain : Nat) (h_here_ground_heights : Nat) (h_here_ground_ages : Nat) (h_here_ground_walls : Nat) (h_here_farms_kinds : Nat) (h_here_farms_cells : Nat) (h_here_farms_owners : Nat) (h_here_farms_purses : Nat) (h_here_mountain_chances : Nat) (h_here_mountain_shows : Nat) (h_here_mountain_diary : Nat) (h_trial_ground : Nat) (h_trial_farms : Nat) (h_trial_mountain : Nat) (h_trial_ground_heights : Nat) (h_trial_ground_ages : Nat) (h_trial_ground_walls : Nat) (h_trial_farms_kinds : Nat) (h_trial_farms_cells : Nat) (h_trial_farms_owners : Nat) (h_trial_farms_purses : Nat) (h_trial_mountain_chances : Nat) (h_trial_mountain_shows : Nat) (h_trial_mountain_diary : Nat) (v_isKept : Int32) (v_here_month : Int32) (v_here_volume : Int32) (v_here_outs : Int32) (v_here_fed : Int32) (v_here_fedOuts : Int32) (v_here_arePigsTold : Int32) (v_here_ground_vent : Int32) (v_here_ground_ash : Int32) (v_here_ground_heights : Nat → Int32) (v_here_ground_ages : Nat → Int32) (v_here_ground_walls : Nat → Int32) (v_here_farms_number : Int32) (v_here_farms_burnt : Int32) (v_here_farms_kinds : Nat → Int32) (v_here_farms_cells : Nat → Int32) (v_here_farms_owners : Nat → Int32) (v_here_farms_purses : Nat → Int32) (v_here_mountain_seen : Int32) (v_here_mountain_state : Int32) (v_here_mountain_z : Int32) (v_here_mountain_chances : Nat → Int32) (v_here_mountain_shows : Nat → Int32) (v_here_mountain_diary : Nat → Int32) (v_trial_month : Int32) (v_trial_volume : Int32) (v_trial_outs : Int32) (v_trial_fed : Int32) (v_trial_fedOuts : Int32) (v_trial_arePigsTold : Int32) (v_trial_ground_vent : Int32) (v_trial_ground_ash : Int32) (v_trial_ground_heights : Nat → Int32) (v_trial_ground_ages : Nat → Int32) (v_trial_ground_walls : Nat → Int32) (v_trial_farms_number : Int32) (v_trial_farms_burnt : Int32) (v_trial_farms_kinds : Nat → Int32) (v_trial_farms_cells : Nat → Int32) (v_trial_farms_owners : Nat → Int32) (v_trial_farms_purses : Nat → Int32) (v_trial_mountain_seen : Int32) (v_trial_mountain_state : Int32) (v_trial_mountain_z : Int32) (v_trial_mountain_chances : Nat → Int32) (v_trial_mountain_shows : Nat → Int32) (v_trial_mountain_diary : Nat → Int32) (v_findings : Nat → Int32) (x1 : Int32) {out : Int32 × Int32 × Int32 × Int32 × Int32 × Int32 × Int32 × Int32 × Int32 × (Nat → Int32) × (Nat → Int32) × (Nat → Int32) × Int32 × Int32 × (Nat → Int32) × (Nat → Int32) × (Nat → Int32) × (Nat → Int32) × Int32 × Int32 × Int32 × (Nat → Int32) × (Nat → Int32) × (Nat → Int32) × (Nat → Int32)} (hf : f_X_crop v_here_month v_here_volume v_here_outs v_here_fed v_here_fedOuts v_here_arePigsTold v_here_ground_vent v_here_ground_ash v_here_ground_heights v_here_ground_ages v_here_ground_walls v_here_farms_number v_here_farms_burnt v_here_farms_kinds v_here_farms_cells v_here_farms_owners v_here_farms_purses v_here_mountain_seen v_here_mountain_state v_here_mountain_z v_here_mountain_chances v_here_mountain_shows v_here_mountain_diary v_trial_month v_trial_volume v_trial_outs v_trial_fed v_trial_fedOuts v_trial_arePigsTold v_trial_ground_vent v_trial_ground_ash v_trial_ground_heights v_trial_ground_ages v_trial_ground_walls v_trial_farms_number v_trial_farms_burnt v_trial_farms_kinds v_trial_farms_cells v_trial_farms_owners v_trial_farms_purses v_trial_mountain_seen v_trial_mountain_state v_trial_mountain_z v_trial_mountain_chances v_trial_mountain_shows v_trial_mountain_diary v_findings x1 = some out) : kMi l D y_X_crop b_X_crop 6 (some .int) { frames := 6, cells := 0, slots := 0, locals := 139 } [.ref h, .int x1] (wd_X_crop D h h_here h_kept h_trial h_parts h_text h_sheets h_findings h_here_ground h_here_farms h_here_mountain h_here_ground_heights h_here_ground_ages h_here_ground_walls h_here_farms_kinds h_here_farms_cells h_here_farms_owners h_here_farms_purses h_here_mountain_chances h_here_mountain_shows h_here_mountain_diary h_trial_ground h_trial_farms h_trial_mountain h_trial_ground_heights h_trial_ground_ages h_trial_ground_walls h_trial_farms_kinds h_trial_farms_cells h_trial_farms_owners h_trial_farms_purses h_trial_mountain_chances h_trial_mountain_shows h_trial_mountain_diary v_isKept v_here_month v_here_volume v_here_outs v_here_fed v_here_fedOuts v_here_arePigsTold v_here_ground_vent v_here_ground_ash v_here_ground_heights v_here_ground_ages v_here_ground_walls v_here_farms_number v_here_farms_burnt v_here_farms_kinds v_here_farms_cells v_here_farms_owners v_here_farms_purses v_here_mountain_seen v_here_mountain_state v_here_mountain_z v_here_mountain_chances v_here_mountain_shows v_here_mountain_diary v_trial_month v_trial_volume v_trial_outs v_trial_fed v_trial_fedOuts v_trial_arePigsTold v_trial_ground_vent v_trial_ground_ash v_trial_ground_heights v_trial_ground_ages v_trial_ground_walls v_trial_farms_number v_trial_farms_burnt v_trial_farms_kinds v_trial_farms_cells v_trial_farms_owners v_trial_farms_purses v_trial_mountain_seen v_trial_mountain_state v_trial_mountain_z v_trial_mountain_chances v_trial_mountain_shows v_trial_mountain_diary v_findings) (wd_X_crop D h h_here h_kept h_trial h_parts h_text h_sheets h_findings h_here_ground h_here_farms h_here_mountain h_here_ground_heights h_here_ground_ages h_here_ground_walls h_here_farms_kinds h_here_farms_cells h_here_farms_owners h_here_farms_purses h_here_mountain_chances h_here_mountain_shows h_here_mountain_diary h_trial_ground h_trial_farms h_trial_mountain h_trial_ground_heights h_trial_ground_ages h_trial_ground_walls h_trial_farms_kinds h_trial_farms_cells h_trial_farms_owners h_trial_farms_purses h_trial_mountain_chances h_trial_mountain_shows h_trial_mountain_diary v_isKept v_here_month v_here_volume v_here_outs v_here_fed v_here_fedOuts v_here_arePigsTold v_here_ground_vent v_here_ground_ash v_here_ground_heights v_here_ground_ages v_here_ground_walls v_here_farms_number v_here_farms_burnt v_here_farms_kinds v_here_farms_cells v_here_farms_owners v_here_farms_purses v_here_mountain_seen v_here_mountain_state v_here_mountain_z v_here_mountain_chances v_here_mountain_shows v_here_mountain_diary out.2.1 out.2.2.1 out.2.2.2.1 out.2.2.2.2.1 out.2.2.2.2.2.1 out.2.2.2.2.2.2.1 out.2.2.2.2.2.2.2.1 out.2.2.2.2.2.2.2.2.1 out.2.2.2.2.2.2.2.2.2.1 out.2.2.2.2.2.2.2.2.2.2.1 out.2.2.2.2.2.2.2.2.2.2.2.1 out.2.2.2.2.2.2.2.2.2.2.2.2.1 out.2.2.2.2.2.2.2.2.2.2.2.2.2.1 out.2.2.2.2.2.2.2.2.2.2.2.2.2.2.1 out.2.2.2.2.2.2.2.2.2.2.2.2.2.2.2.1 out.2.2.2.2.2.2.2.2.2.2.2.2.2.2.2.2.1 out.2.2.2.2.2.2.2.2.2.2.2.2.2.2.2.2.2.1 out.2.2.2.2.2.2.2.2.2.2.2.2.2.2.2.2.2.2.1 out.2.2.2.2.2.2.2.2.2.2.2.2.2.2.2.2.2.2.2.1 out.2.2.2.2.2.2.2.2.2.2.2.2.2.2.2.2.2.2.2.2.1 out.2.2.2.2.2.2.2.2.2.2.2.2.2.2.2.2.2.2.2.2.2.1 out.2.2.2.2.2.2.2.2.2.2.2.2.2.2.2.2.2.2.2.2.2.2.1 out.2.2.2.2.2.2.2.2.2.2.2.2.2.2.2.2.2.2.2.2.2.2.2.1 out.2.2.2.2.2.2.2.2.2.2.2.2.2.2.2.2.2.2.2.2.2.2.2.2) out.1 :=
  kMi_of (own := "MountainFarms") (plainFor_of_name (by decide)) rfl rfl (fun p e s m args below meth c ls X hV hl => t_X_crop X hf hV hl)
set_option maxHeartbeats 2000000 in
set_option maxRecDepth 20000 in
theorem t_Ta_append {l : Launch} {p : Program} {e : Env} {s : State} {m : MethodId} {args : Array Value} {below : List Frame} {meth : Method} {c : Code} {D : kD} {wc0 : va_W} {h : Nat} {h_bytes : Nat} {v_size : Int32} {v_start : Int32} {v_end : Int32} {v_sort : Int32} {v_value : Int32} {v_bytes : Nat → Int32} {x1 : Int32} {out : Int32 × (Nat → Int32)} (X : kX p m meth c s args D (va_A wc0 s.heap.size) b_Ta_append "MountainFarms$Tape" 2 none) (hf : f_Ta_append v_size v_bytes x1 = some out) {H : Heap} {locs : List Loc} (hV : kV D (va_A wc0 s.heap.size) s (wd_Ta_append D h h_bytes v_size v_start v_end v_sort v_value v_bytes) H locs) {ls : Array Slot} (hl : lv_has ls 2 [(0, .ref h), (1, .int x1)]) : W p l e { frames := 0, cells := 0, slots := 0, locals := 0 } s m args below meth c H locs 0 0 (MQ below (kQv D wc0 (wd_Ta_append D h h_bytes out.1 v_start v_end v_sort v_value out.2) s.heap.size) args s 0 0 (va_A wc0 s.heap.size)) (F0 m 0 ls []) := by
  unfold f_Ta_append at hf
  obtain ⟨hx, hb, -⟩ := id X
  refine lv_aload_n hx hb d_Ta_append_0 rfl (lv_at hl 0 rfl) ?_
  refine k_get X hV 0 7 1 rfl rfl rfl gw_203 rfl rfl d_Ta_append_1 ?_
  refine lv_bipush (v := 120) hx hb d_Ta_append_4 bp_120 ?_
  refine lv_icmp_ge (tgt := 29) hx hb d_Ta_append_6 (by decide) (fun c_3 => ?_) (fun c_3 => ?_)
  · replace hf := kifp c_3 hf
    have e_ := Option.some.inj hf
    subst e_
    exact k_vret X rfl hV d_Ta_append_29
  replace hf := kifn c_3 hf
  refine lv_aload_n hx hb d_Ta_append_9 rfl (lv_at hl 0 rfl) ?_
  refine k_get X hV 0 7 0 rfl rfl rfl gw_202 rfl rfl d_Ta_append_10 ?_
  refine lv_aload_n hx hb d_Ta_append_13 rfl (lv_at hl 0 rfl) ?_
  refine k_get X hV 0 7 1 rfl rfl rfl gw_203 rfl rfl d_Ta_append_14 ?_
  refine lv_iload_n hx hb d_Ta_append_17 rfl (lv_at hl 1 rfl) ?_
  obtain ⟨h_4, hf⟩ := kidx_some hf
  refine k_iast (ws' := (wd_Ta_append D h h_bytes v_size v_start v_end v_sort v_value (upd v_bytes v_size.toNatClampNeg x1))) X hV 1 rfl h_4 rfl rfl d_Ta_append_18 (fun H locs hV => ?_)
  refine lv_aload_n hx hb d_Ta_append_19 rfl (lv_at hl 0 rfl) ?_
  refine lv_dup hx hb d_Ta_append_20 rfl ?_
  refine k_get X hV 0 7 1 rfl rfl rfl gw_203 rfl rfl d_Ta_append_21 ?_
  refine lv_iconst (v := 1) hx hb d_Ta_append_24 ic_1 ?_
  refine lv_iadd hx hb d_Ta_append_25 ?_
  refine k_putv (ty := .int) (ws' := (wd_Ta_append D h h_bytes (v_size + (1 : Int32)) v_start v_end v_sort v_value (upd v_bytes v_size.toNatClampNeg x1))) X hV 0 7 1 rfl rfl rfl gw_203 rfl rfl rfl rfl rfl rfl rfl d_Ta_append_26 (fun H locs hV => ?_)
  have e_ := Option.some.inj hf
  subst e_
  exact k_vret X rfl hV d_Ta_append_29
set_option maxHeartbeats 2000000 in
set_option maxRecDepth 20000 in
theorem c_Ta_append {l : Launch} (D : kD) (h : Nat) (h_bytes : Nat) (v_size : Int32) (v_start : Int32) (v_end : Int32) (v_sort : Int32) (v_value : Int32) (v_bytes : Nat → Int32) (x1 : Int32) {out : Int32 × (Nat → Int32)} (hf : f_Ta_append v_size v_bytes x1 = some out) : kMv l D y_Ta_append b_Ta_append 2 none { frames := 0, cells := 0, slots := 0, locals := 0 } [.ref h, .int x1] (wd_Ta_append D h h_bytes v_size v_start v_end v_sort v_value v_bytes) (wd_Ta_append D h h_bytes out.1 v_start v_end v_sort v_value out.2) :=
  kMv_of (own := "MountainFarms$Tape") (plainFor_of_name (by decide)) rfl rfl (fun p e s m args below meth c ls X hV hl => t_Ta_append X hf hV hl)
set_option maxHeartbeats 2000000 in
set_option maxRecDepth 20000 in
theorem tb_X_feed_1 {l : Launch} {p : Program} {e : Env} {s : State} {m : MethodId} {args : Array Value} {below : List Frame} {meth : Method} {c : Code} {D : kD} {wc0 : va_W} {h : Nat} {h_here : Nat} {h_kept : Nat} {h_trial : Nat} {h_parts : Nat} {h_text : Nat} {h_sheets : Nat} {h_findings : Nat} {h_text_tape : Nat} {h_text_tape_bytes : Nat} {v_isKept : Int32} {v_text_tape_size : Int32} {v_text_tape_start : Int32} {v_text_tape_end : Int32} {v_text_tape_sort : Int32} {v_text_tape_value : Int32} {v_text_tape_bytes : Nat → Int32} {v_findings : Nat → Int32} {x1 : Int32} {x3 : Int32} {rec1 : Int32 → Int32 → (Nat → Int32) → Option (Int32 × Int32 × (Nat → Int32) × (Nat → Int32))} {out : Int32 × Int32 × (Nat → Int32) × (Nat → Int32)} (X : kX p m meth c s args D (va_A wc0 s.heap.size) b_X_feed "MountainFarms" 4 (some .int)) (hrec1 : ∀ (x3 : Int32) (v_text_tape_size : Int32) (v_text_tape_bytes : Nat → Int32), rec1 x3 v_text_tape_size v_text_tape_bytes = some out → ∀ (H : Heap) (locs : List Loc) (ls : Array Slot), kV D (va_A wc0 s.heap.size) s (wd_X_feed D h h_here h_kept h_trial h_parts h_text h_sheets h_findings h_text_tape h_text_tape_bytes v_isKept v_text_tape_size v_text_tape_start v_text_tape_end v_text_tape_sort v_text_tape_value v_text_tape_bytes v_findings) H locs → lv_has ls 4 [(0, .ref h), (1, .int x1), (3, .int x3)] → W p l e { frames := 2, cells := 0, slots := 0, locals := 43 } s m args below meth c H locs 0 0 (MQ below (kQi D wc0 (wd_X_feed D h h_here h_kept h_trial h_parts h_text h_sheets h_findings h_text_tape h_text_tape_bytes v_isKept out.2.1 v_text_tape_start v_text_tape_end v_text_tape_sort v_text_tape_value out.2.2.1 out.2.2.2) s.heap.size out.1) args s 0 0 (va_A wc0 s.heap.size)) (F0 m 42 ls [])) (hf : fb_X_feed_1 rec1 x1 v_findings x3 v_text_tape_size v_text_tape_bytes = some out) {H : Heap} {locs : List Loc} (hV : kV D (va_A wc0 s.heap.size) s (wd_X_feed D h h_here h_kept h_trial h_parts h_text h_sheets h_findings h_text_tape h_text_tape_bytes v_isKept v_text_tape_size v_text_tape_start v_text_tape_end v_text_tape_sort v_text_tape_value v_text_tape_bytes v_findings) H locs) {ls : Array Slot} (hl : lv_has ls 4 [(0, .ref h), (1, .int x1), (3, .int x3)]) : W p l e { frames := 2, cells := 0, slots := 0, locals := 43 } s m args below meth c H locs 0 0 (MQ below (kQi D wc0 (wd_X_feed D h h_here h_kept h_trial h_parts h_text h_sheets h_findings h_text_tape h_text_tape_bytes v_isKept out.2.1 v_text_tape_start v_text_tape_end v_text_tape_sort v_text_tape_value out.2.2.1 out.2.2.2) s.heap.size out.1) args s 0 0 (va_A wc0 s.heap.size)) (F0 m 42 ls []) := by
  unfold fb_X_feed_1 at hf
  obtain ⟨hx, hb, -⟩ := id X
  refine lv_iload_n hx hb d_X_feed_42 rfl (lv_at hl 2 rfl) ?_
  refine lv_if_lt (tgt := 72) hx hb d_X_feed_43 (by decide) (fun c_25 => ?_) (fun c_25 => ?_)
  · replace hf := kifp c_25 hf
    refine lv_aload_n hx hb d_X_feed_72 rfl (lv_at hl 0 rfl) ?_
    refine k_get X hV 0 8 4 rfl rfl rfl gw_252 rfl rfl d_X_feed_73 ?_
    refine k_get X hV 1 6 0 rfl rfl rfl gw_224 rfl rfl d_X_feed_76 ?_
    refine k_get X hV 2 7 1 rfl rfl rfl gw_204 rfl rfl d_X_feed_79 ?_
    have e_ := Option.some.inj hf
    subst e_
    exact k_iret X rfl hV rfl d_X_feed_82
  replace hf := kifn c_25 hf
  refine lv_aload_n hx hb d_X_feed_46 rfl (lv_at hl 0 rfl) ?_
  refine k_get X hV 0 8 4 rfl rfl rfl gw_252 rfl rfl d_X_feed_47 ?_
  refine k_get X hV 1 6 0 rfl rfl rfl gw_224 rfl rfl d_X_feed_50 ?_
  refine lv_iload_n hx hb d_X_feed_53 rfl (lv_at hl 1 rfl) ?_
  refine lv_bipush (v := 8) hx hb d_X_feed_54 bp_8 ?_
  refine lv_iload_n hx hb d_X_feed_56 rfl (lv_at hl 2 rfl) ?_
  refine lv_imul hx hb d_X_feed_57 ?_
  refine lv_iushr hx hb d_X_feed_58 rfl ?_
  refine lv_sipush (v := 255) hx hb d_X_feed_59 sp_255 ?_
  refine lv_iand hx hb d_X_feed_62 ?_
  obtain ⟨v_text_tape_size_26, v_text_tape_bytes_27, hc_28, hf⟩ := kb2_some hf
  refine k_cvv (w1 := (wd_Ta_append D h_text_tape h_text_tape_bytes v_text_tape_size_26 v_text_tape_start v_text_tape_end v_text_tape_sort v_text_tape_value v_text_tape_bytes_27)) (ws' := (wd_X_feed D h h_here h_kept h_trial h_parts h_text h_sheets h_findings h_text_tape h_text_tape_bytes v_isKept v_text_tape_size_26 v_text_tape_start v_text_tape_end v_text_tape_sort v_text_tape_value v_text_tape_bytes_27 v_findings)) X hV hl.1 (c_Ta_append D h_text_tape h_text_tape_bytes v_text_tape_size v_text_tape_start v_text_tape_end v_text_tape_sort v_text_tape_value v_text_tape_bytes (((x1.toUInt32 >>> (((8 : Int32) * x3).toUInt32 &&& Int32.toUInt32 31)).toInt32) &&& (255 : Int32)) hc_28) fk_Ta_append gw_633 rfl 2 7 rfl rfl [2, 3] [none, none, some 0, some 1, none] rfl rfl ⟨rfl, rfl, rfl, rfl, rfl, rfl, rfl, rfl, rfl, trivial⟩ rfl rfl rfl d_X_feed_63 (fun H locs hV => ?_)
  refine lv_iinc (v := (x3 + (-1))) (lv' := [(3, .int (x3 + (-1))), (0, .ref h), (1, .int x1)]) hx hb d_X_feed_66 hl (k := 2) rfl rfl (by decide) rfl (fun ls hl => ?_)
  refine lv_goto (tgt := 42) hx hb d_X_feed_69 (by decide) ?_
  exact hrec1 _ _ _ hf _ _ _ hV (lv_sub hl [1, 2, 0] rfl)
set_option maxHeartbeats 2000000 in
set_option maxRecDepth 20000 in
theorem tl_X_feed_1 {l : Launch} {p : Program} {e : Env} {s : State} {m : MethodId} {args : Array Value} {below : List Frame} {meth : Method} {c : Code} {D : kD} {wc0 : va_W} {h : Nat} {h_here : Nat} {h_kept : Nat} {h_trial : Nat} {h_parts : Nat} {h_text : Nat} {h_sheets : Nat} {h_findings : Nat} {h_text_tape : Nat} {h_text_tape_bytes : Nat} {v_isKept : Int32} {v_text_tape_start : Int32} {v_text_tape_end : Int32} {v_text_tape_sort : Int32} {v_text_tape_value : Int32} {v_findings : Nat → Int32} {x1 : Int32} {out : Int32 × Int32 × (Nat → Int32) × (Nat → Int32)} (X : kX p m meth c s args D (va_A wc0 s.heap.size) b_X_feed "MountainFarms" 4 (some .int)) : ∀ (n : Nat) (x3 : Int32) (v_text_tape_size : Int32) (v_text_tape_bytes : Nat → Int32), fl_X_feed_1 x1 v_findings n x3 v_text_tape_size v_text_tape_bytes = some out → ∀ (H : Heap) (locs : List Loc) (ls : Array Slot), kV D (va_A wc0 s.heap.size) s (wd_X_feed D h h_here h_kept h_trial h_parts h_text h_sheets h_findings h_text_tape h_text_tape_bytes v_isKept v_text_tape_size v_text_tape_start v_text_tape_end v_text_tape_sort v_text_tape_value v_text_tape_bytes v_findings) H locs → lv_has ls 4 [(0, .ref h), (1, .int x1), (3, .int x3)] → W p l e { frames := 2, cells := 0, slots := 0, locals := 43 } s m args below meth c H locs 0 0 (MQ below (kQi D wc0 (wd_X_feed D h h_here h_kept h_trial h_parts h_text h_sheets h_findings h_text_tape h_text_tape_bytes v_isKept out.2.1 v_text_tape_start v_text_tape_end v_text_tape_sort v_text_tape_value out.2.2.1 out.2.2.2) s.heap.size out.1) args s 0 0 (va_A wc0 s.heap.size)) (F0 m 42 ls []) := by
  intro n
  induction n with
  | zero => intro x3 v_text_tape_size v_text_tape_bytes hf; exact knone hf
  | succ n ih => intro x3 v_text_tape_size v_text_tape_bytes hf H locs ls hV hl; exact tb_X_feed_1 X ih hf hV hl
set_option maxHeartbeats 2000000 in
set_option maxRecDepth 20000 in
theorem t_X_feed {l : Launch} {p : Program} {e : Env} {s : State} {m : MethodId} {args : Array Value} {below : List Frame} {meth : Method} {c : Code} {D : kD} {wc0 : va_W} {h : Nat} {h_here : Nat} {h_kept : Nat} {h_trial : Nat} {h_parts : Nat} {h_text : Nat} {h_sheets : Nat} {h_findings : Nat} {h_text_tape : Nat} {h_text_tape_bytes : Nat} {v_isKept : Int32} {v_text_tape_size : Int32} {v_text_tape_start : Int32} {v_text_tape_end : Int32} {v_text_tape_sort : Int32} {v_text_tape_value : Int32} {v_text_tape_bytes : Nat → Int32} {v_findings : Nat → Int32} {x1 : Int32} {x2 : Int32} {out : Int32 × Int32 × (Nat → Int32) × (Nat → Int32)} (X : kX p m meth c s args D (va_A wc0 s.heap.size) b_X_feed "MountainFarms" 4 (some .int)) (hf : f_X_feed v_text_tape_size v_text_tape_bytes v_findings x1 x2 = some out) {H : Heap} {locs : List Loc} (hV : kV D (va_A wc0 s.heap.size) s (wd_X_feed D h h_here h_kept h_trial h_parts h_text h_sheets h_findings h_text_tape h_text_tape_bytes v_isKept v_text_tape_size v_text_tape_start v_text_tape_end v_text_tape_sort v_text_tape_value v_text_tape_bytes v_findings) H locs) {ls : Array Slot} (hl : lv_has ls 4 [(0, .ref h), (1, .int x1), (2, .int x2)]) : W p l e { frames := 2, cells := 0, slots := 0, locals := 43 } s m args below meth c H locs 0 0 (MQ below (kQi D wc0 (wd_X_feed D h h_here h_kept h_trial h_parts h_text h_sheets h_findings h_text_tape h_text_tape_bytes v_isKept out.2.1 v_text_tape_start v_text_tape_end v_text_tape_sort v_text_tape_value out.2.2.1 out.2.2.2) s.heap.size out.1) args s 0 0 (va_A wc0 s.heap.size)) (F0 m 0 ls []) := by
  unfold f_X_feed at hf
  obtain ⟨hx, hb, -⟩ := id X
  refine lv_iload_n hx hb d_X_feed_0 rfl (lv_at hl 2 rfl) ?_
  refine lv_iconst (v := 1) hx hb d_X_feed_1 ic_1 ?_
  refine lv_iconst (v := 4) hx hb d_X_feed_2 ic_4 ?_
  obtain ⟨r_15, hc_16, hf⟩ := kb1_some hf
  refine k_csi (w1 := (wd_X_isWithin D)) (r := r_15) (ws' := (wd_X_feed D h h_here h_kept h_trial h_parts h_text h_sheets h_findings h_text_tape h_text_tape_bytes v_isKept v_text_tape_size v_text_tape_start v_text_tape_end v_text_tape_sort v_text_tape_value v_text_tape_bytes v_findings)) X hV hl.1 (c_X_isWithin D x2 (1 : Int32) (4 : Int32) hc_16) fk_X_isWithin gw_280 rfl [] [none, none, none, none, none] rfl rfl ⟨rfl, rfl, rfl, rfl, rfl, trivial⟩ rfl rfl rfl d_X_feed_3 (fun H locs hV => ?_)
  refine lv_if_ne (tgt := 15) hx hb d_X_feed_6 (by decide) (fun c_17 => ?_) (fun c_17 => ?_)
  · replace hf := kifn c_17 hf
    refine lv_aload_n hx hb d_X_feed_15 rfl (lv_at hl 0 rfl) ?_
    refine k_get X hV 0 8 4 rfl rfl rfl gw_252 rfl rfl d_X_feed_16 ?_
    refine k_get X hV 1 6 0 rfl rfl rfl gw_224 rfl rfl d_X_feed_19 ?_
    refine k_get X hV 2 7 1 rfl rfl rfl gw_204 rfl rfl d_X_feed_22 ?_
    refine lv_iload_n hx hb d_X_feed_25 rfl (lv_at hl 2 rfl) ?_
    refine lv_iadd hx hb d_X_feed_26 ?_
    refine lv_bipush (v := 120) hx hb d_X_feed_27 bp_120 ?_
    refine lv_icmp_le (tgt := 38) hx hb d_X_feed_29 (by decide) (fun c_18 => ?_) (fun c_18 => ?_)
    · replace hf := kifp c_18 hf
      refine lv_iload_n hx hb d_X_feed_38 rfl (lv_at hl 2 rfl) ?_
      refine lv_iconst (v := 1) hx hb d_X_feed_39 ic_1 ?_
      refine lv_isub hx hb d_X_feed_40 ?_
      refine lv_istore_n (lv' := [(3, .int (x2 - (1 : Int32))), (0, .ref h), (1, .int x1), (2, .int x2)]) hx hb d_X_feed_41 rfl hl (by decide) rfl (fun ls hl => ?_)
      exact tl_X_feed_1 X _ _ _ _ hf _ _ _ hV (lv_sub hl [1, 2, 0] rfl)
    replace hf := kifn c_18 hf
    refine lv_aload_n hx hb d_X_feed_32 rfl (lv_at hl 0 rfl) ?_
    refine lv_iconst (v := 1) hx hb d_X_feed_33 ic_1 ?_
    obtain ⟨r_19, v_findings_20, hc_21, hf⟩ := kb2_some hf
    refine k_cvi (w1 := (wd_X_finding D h h_here h_kept h_trial h_parts h_text h_sheets h_findings v_isKept v_findings_20)) (r := r_19) (ws' := (wd_X_feed D h h_here h_kept h_trial h_parts h_text h_sheets h_findings h_text_tape h_text_tape_bytes v_isKept v_text_tape_size v_text_tape_start v_text_tape_end v_text_tape_sort v_text_tape_value v_text_tape_bytes v_findings_20)) X hV hl.1 (c_X_finding D h h_here h_kept h_trial h_parts h_text h_sheets h_findings v_isKept v_findings (1 : Int32) hc_21) fk_X_finding gw_283 rfl 0 8 rfl rfl [0, 4] [some 0, none, none, none, some 1] rfl rfl ⟨rfl, rfl, rfl, rfl, rfl, rfl, rfl, rfl, rfl, trivial⟩ rfl rfl rfl d_X_feed_34 (fun H locs hV => ?_)
    have e_ := Option.some.inj hf
    subst e_
    exact k_iret X rfl hV rfl d_X_feed_37
  replace hf := kifp c_17 hf
  refine lv_aload_n hx hb d_X_feed_9 rfl (lv_at hl 0 rfl) ?_
  refine lv_iconst (v := 0) hx hb d_X_feed_10 ic_0 ?_
  obtain ⟨r_22, v_findings_23, hc_24, hf⟩ := kb2_some hf
  refine k_cvi (w1 := (wd_X_finding D h h_here h_kept h_trial h_parts h_text h_sheets h_findings v_isKept v_findings_23)) (r := r_22) (ws' := (wd_X_feed D h h_here h_kept h_trial h_parts h_text h_sheets h_findings h_text_tape h_text_tape_bytes v_isKept v_text_tape_size v_text_tape_start v_text_tape_end v_text_tape_sort v_text_tape_value v_text_tape_bytes v_findings_23)) X hV hl.1 (c_X_finding D h h_here h_kept h_trial h_parts h_text h_sheets h_findings v_isKept v_findings (0 : Int32) hc_24) fk_X_finding gw_283 rfl 0 8 rfl rfl [0, 4] [some 0, none, none, none, some 1] rfl rfl ⟨rfl, rfl, rfl, rfl, rfl, rfl, rfl, rfl, rfl, trivial⟩ rfl rfl rfl d_X_feed_11 (fun H locs hV => ?_)
  have e_ := Option.some.inj hf
  subst e_
  exact k_iret X rfl hV rfl d_X_feed_14
set_option maxHeartbeats 2000000 in
set_option maxRecDepth 20000 in
theorem c_X_feed {l : Launch} (D : kD) (h : Nat) (h_here : Nat) (h_kept : Nat) (h_trial : Nat) (h_parts : Nat) (h_text : Nat) (h_sheets : Nat) (h_findings : Nat) (h_text_tape : Nat) (h_text_tape_bytes : Nat) (v_isKept : Int32) (v_text_tape_size : Int32) (v_text_tape_start : Int32) (v_text_tape_end : Int32) (v_text_tape_sort : Int32) (v_text_tape_value : Int32) (v_text_tape_bytes : Nat → Int32) (v_findings : Nat → Int32) (x1 : Int32) (x2 : Int32) {out : Int32 × Int32 × (Nat → Int32) × (Nat → Int32)} (hf : f_X_feed v_text_tape_size v_text_tape_bytes v_findings x1 x2 = some out) : kMi l D y_X_feed b_X_feed 4 (some .int) { frames := 2, cells := 0, slots := 0, locals := 43 } [.ref h, .int x1, .int x2] (wd_X_feed D h h_here h_kept h_trial h_parts h_text h_sheets h_findings h_text_tape h_text_tape_bytes v_isKept v_text_tape_size v_text_tape_start v_text_tape_end v_text_tape_sort v_text_tape_value v_text_tape_bytes v_findings) (wd_X_feed D h h_here h_kept h_trial h_parts h_text h_sheets h_findings h_text_tape h_text_tape_bytes v_isKept out.2.1 v_text_tape_start v_text_tape_end v_text_tape_sort v_text_tape_value out.2.2.1 out.2.2.2) out.1 :=
  kMi_of (own := "MountainFarms") (plainFor_of_name (by decide)) rfl rfl (fun p e s m args below meth c ls X hV hl => t_X_feed X hf hV hl)
set_option maxHeartbeats 2000000 in
set_option maxRecDepth 20000 in
theorem t_X_wipe {l : Launch} {p : Program} {e : Env} {s : State} {m : MethodId} {args : Array Value} {below : List Frame} {meth : Method} {c : Code} {D : kD} {wc0 : va_W} {h : Nat} {h_here : Nat} {h_kept : Nat} {h_trial : Nat} {h_parts : Nat} {h_text : Nat} {h_sheets : Nat} {h_findings : Nat} {h_text_tape : Nat} {h_text_tape_bytes : Nat} {v_isKept : Int32} {v_text_tape_size : Int32} {v_text_tape_start : Int32} {v_text_tape_end : Int32} {v_text_tape_sort : Int32} {v_text_tape_value : Int32} {out : Int32 × Int32} (X : kX p m meth c s args D (va_A wc0 s.heap.size) b_X_wipe "MountainFarms" 2 (some .int)) (hf : f_X_wipe v_text_tape_size = some out) {H : Heap} {locs : List Loc} (hV : kV D (va_A wc0 s.heap.size) s (wd_X_wipe D h h_here h_kept h_trial h_parts h_text h_sheets h_findings h_text_tape h_text_tape_bytes v_isKept v_text_tape_size v_text_tape_start v_text_tape_end v_text_tape_sort v_text_tape_value) H locs) {ls : Array Slot} (hl : lv_has ls 2 [(0, .ref h)]) : W p l e { frames := 0, cells := 0, slots := 0, locals := 0 } s m args below meth c H locs 0 0 (MQ below (kQi D wc0 (wd_X_wipe D h h_here h_kept h_trial h_parts h_text h_sheets h_findings h_text_tape h_text_tape_bytes v_isKept out.2 v_text_tape_start v_text_tape_end v_text_tape_sort v_text_tape_value) s.heap.size out.1) args s 0 0 (va_A wc0 s.heap.size)) (F0 m 0 ls []) := by
  unfold f_X_wipe at hf
  obtain ⟨hx, hb, -⟩ := id X
  refine lv_aload_n hx hb d_X_wipe_0 rfl (lv_at hl 0 rfl) ?_
  refine k_get X hV 0 8 4 rfl rfl rfl gw_252 rfl rfl d_X_wipe_1 ?_
  refine k_get X hV 1 6 0 rfl rfl rfl gw_224 rfl rfl d_X_wipe_4 ?_
  refine k_get X hV 2 7 1 rfl rfl rfl gw_204 rfl rfl d_X_wipe_7 ?_
  refine lv_istore_n (lv' := [(1, .int v_text_tape_size), (0, .ref h)]) hx hb d_X_wipe_10 rfl hl (by decide) rfl (fun ls hl => ?_)
  refine lv_aload_n hx hb d_X_wipe_11 rfl (lv_at hl 1 rfl) ?_
  refine k_get X hV 0 8 4 rfl rfl rfl gw_252 rfl rfl d_X_wipe_12 ?_
  refine k_get X hV 1 6 0 rfl rfl rfl gw_224 rfl rfl d_X_wipe_15 ?_
  refine lv_iconst (v := 0) hx hb d_X_wipe_18 ic_0 ?_
  refine k_putv (ty := .int) (ws' := (wd_X_wipe D h h_here h_kept h_trial h_parts h_text h_sheets h_findings h_text_tape h_text_tape_bytes v_isKept (0 : Int32) v_text_tape_start v_text_tape_end v_text_tape_sort v_text_tape_value)) X hV 2 7 1 rfl rfl rfl gw_204 rfl rfl rfl rfl rfl rfl rfl d_X_wipe_19 (fun H locs hV => ?_)
  refine lv_iload_n hx hb d_X_wipe_22 rfl (lv_at hl 0 rfl) ?_
  have e_ := Option.some.inj hf
  subst e_
  exact k_iret X rfl hV rfl d_X_wipe_23
set_option maxHeartbeats 2000000 in
set_option maxRecDepth 20000 in
theorem c_X_wipe {l : Launch} (D : kD) (h : Nat) (h_here : Nat) (h_kept : Nat) (h_trial : Nat) (h_parts : Nat) (h_text : Nat) (h_sheets : Nat) (h_findings : Nat) (h_text_tape : Nat) (h_text_tape_bytes : Nat) (v_isKept : Int32) (v_text_tape_size : Int32) (v_text_tape_start : Int32) (v_text_tape_end : Int32) (v_text_tape_sort : Int32) (v_text_tape_value : Int32) {out : Int32 × Int32} (hf : f_X_wipe v_text_tape_size = some out) : kMi l D y_X_wipe b_X_wipe 2 (some .int) { frames := 0, cells := 0, slots := 0, locals := 0 } [.ref h] (wd_X_wipe D h h_here h_kept h_trial h_parts h_text h_sheets h_findings h_text_tape h_text_tape_bytes v_isKept v_text_tape_size v_text_tape_start v_text_tape_end v_text_tape_sort v_text_tape_value) (wd_X_wipe D h h_here h_kept h_trial h_parts h_text h_sheets h_findings h_text_tape h_text_tape_bytes v_isKept out.2 v_text_tape_start v_text_tape_end v_text_tape_sort v_text_tape_value) out.1 :=
  kMi_of (own := "MountainFarms") (plainFor_of_name (by decide)) rfl rfl (fun p e s m args below meth c ls X hV hl => t_X_wipe X hf hV hl)
set_option maxHeartbeats 2000000 in
set_option maxRecDepth 20000 in
theorem t_Ta_isLetter {l : Launch} {p : Program} {e : Env} {s : State} {m : MethodId} {args : Array Value} {below : List Frame} {meth : Method} {c : Code} {D : kD} {wc0 : va_W} {x0 : Int32} {out : Int32} (X : kX p m meth c s args D (va_A wc0 s.heap.size) b_Ta_isLetter "MountainFarms$Tape" 1 (some .boolean)) (hf : f_Ta_isLetter x0 = some out) {H : Heap} {locs : List Loc} (hV : kV D (va_A wc0 s.heap.size) s (wd_Ta_isLetter D) H locs) {ls : Array Slot} (hl : lv_has ls 1 [(0, .int x0)]) : W p l e { frames := 0, cells := 0, slots := 0, locals := 0 } s m args below meth c H locs 0 0 (MQ below (kQi D wc0 (wd_Ta_isLetter D) s.heap.size out) args s 0 0 (va_A wc0 s.heap.size)) (F0 m 0 ls []) := by
  unfold f_Ta_isLetter at hf
  obtain ⟨hx, hb, -⟩ := id X
  refine lv_iload_n hx hb d_Ta_isLetter_0 rfl (lv_at hl 0 rfl) ?_
  refine lv_bipush (v := 97) hx hb d_Ta_isLetter_1 bp_97 ?_
  refine lv_icmp_lt (tgt := 16) hx hb d_Ta_isLetter_3 (by decide) (fun c_3 => ?_) (fun c_3 => ?_)
  · replace hf := kifp c_3 hf
    refine lv_iconst (v := 0) hx hb d_Ta_isLetter_16 ic_0 ?_
    have e_ := Option.some.inj hf
    subst e_
    exact k_iret (v := 0) X rfl hV nb0 d_Ta_isLetter_17
  replace hf := kifn c_3 hf
  refine lv_iload_n hx hb d_Ta_isLetter_6 rfl (lv_at hl 0 rfl) ?_
  refine lv_bipush (v := 122) hx hb d_Ta_isLetter_7 bp_122 ?_
  refine lv_icmp_gt (tgt := 16) hx hb d_Ta_isLetter_9 (by decide) (fun c_4 => ?_) (fun c_4 => ?_)
  · replace hf := kifp c_4 hf
    refine lv_iconst (v := 0) hx hb d_Ta_isLetter_16 ic_0 ?_
    have e_ := Option.some.inj hf
    subst e_
    exact k_iret (v := 0) X rfl hV nb0 d_Ta_isLetter_17
  replace hf := kifn c_4 hf
  refine lv_iconst (v := 1) hx hb d_Ta_isLetter_12 ic_1 ?_
  refine lv_goto (tgt := 17) hx hb d_Ta_isLetter_13 (by decide) ?_
  have e_ := Option.some.inj hf
  subst e_
  exact k_iret (v := 1) X rfl hV nb1 d_Ta_isLetter_17
set_option maxHeartbeats 2000000 in
set_option maxRecDepth 20000 in
theorem c_Ta_isLetter {l : Launch} (D : kD) (x0 : Int32) {out : Int32} (hf : f_Ta_isLetter x0 = some out) : kMi l D y_Ta_isLetter b_Ta_isLetter 1 (some .boolean) { frames := 0, cells := 0, slots := 0, locals := 0 } [.int x0] (wd_Ta_isLetter D) (wd_Ta_isLetter D) out :=
  kMi_of (own := "MountainFarms$Tape") (plainFor_of_name (by decide)) rfl rfl (fun p e s m args below meth c ls X hV hl => t_Ta_isLetter X hf hV hl)
set_option maxHeartbeats 2000000 in
set_option maxRecDepth 20000 in
theorem tb_Ta_endWord_1 {l : Launch} {p : Program} {e : Env} {s : State} {m : MethodId} {args : Array Value} {below : List Frame} {meth : Method} {c : Code} {D : kD} {wc0 : va_W} {h : Nat} {h_bytes : Nat} {v_size : Int32} {v_start : Int32} {v_end : Int32} {v_sort : Int32} {v_value : Int32} {v_bytes : Nat → Int32} {rec1 : Int32 → Option (Int32 × Int32)} {out : Int32 × Int32} (X : kX p m meth c s args D (va_A wc0 s.heap.size) b_Ta_endWord "MountainFarms$Tape" 1 none) (hrec1 : ∀ (v_end : Int32), rec1 v_end = some out → ∀ (H : Heap) (locs : List Loc) (ls : Array Slot), kV D (va_A wc0 s.heap.size) s (wd_Ta_endWord D h h_bytes v_size v_start v_end v_sort v_value v_bytes) H locs → lv_has ls 1 [(0, .ref h)] → W p l e { frames := 1, cells := 0, slots := 0, locals := 20 } s m args below meth c H locs 0 0 (MQ below (kQv D wc0 (wd_Ta_endWord D h h_bytes v_size v_start out.1 out.2 v_value v_bytes) s.heap.size) args s 0 0 (va_A wc0 s.heap.size)) (F0 m 5 ls [])) (hf : fb_Ta_endWord_1 rec1 v_size v_sort v_bytes v_end = some out) {H : Heap} {locs : List Loc} (hV : kV D (va_A wc0 s.heap.size) s (wd_Ta_endWord D h h_bytes v_size v_start v_end v_sort v_value v_bytes) H locs) {ls : Array Slot} (hl : lv_has ls 1 [(0, .ref h)]) : W p l e { frames := 1, cells := 0, slots := 0, locals := 20 } s m args below meth c H locs 0 0 (MQ below (kQv D wc0 (wd_Ta_endWord D h h_bytes v_size v_start out.1 out.2 v_value v_bytes) s.heap.size) args s 0 0 (va_A wc0 s.heap.size)) (F0 m 5 ls []) := by
  unfold fb_Ta_endWord_1 at hf
  obtain ⟨hx, hb, -⟩ := id X
  refine lv_aload_n hx hb d_Ta_endWord_5 rfl (lv_at hl 0 rfl) ?_
  refine k_get X hV 0 7 3 rfl rfl rfl gw_207 rfl rfl d_Ta_endWord_6 ?_
  refine lv_aload_n hx hb d_Ta_endWord_9 rfl (lv_at hl 0 rfl) ?_
  refine k_get X hV 0 7 1 rfl rfl rfl gw_203 rfl rfl d_Ta_endWord_10 ?_
  refine lv_icmp_ge (tgt := 44) hx hb d_Ta_endWord_13 (by decide) (fun c_6 => ?_) (fun c_6 => ?_)
  · replace hf := kifp c_6 hf
    have e_ := Option.some.inj hf
    subst e_
    exact k_vret X rfl hV d_Ta_endWord_44
  replace hf := kifn c_6 hf
  refine lv_aload_n hx hb d_Ta_endWord_16 rfl (lv_at hl 0 rfl) ?_
  refine k_get X hV 0 7 0 rfl rfl rfl gw_202 rfl rfl d_Ta_endWord_17 ?_
  refine lv_aload_n hx hb d_Ta_endWord_20 rfl (lv_at hl 0 rfl) ?_
  refine k_get X hV 0 7 3 rfl rfl rfl gw_207 rfl rfl d_Ta_endWord_21 ?_
  obtain ⟨h_7, hf⟩ := kidx_some hf
  refine k_iald X hV 1 rfl h_7 rfl d_Ta_endWord_24 ?_
  obtain ⟨r_8, hc_9, hf⟩ := kb1_some hf
  refine k_csi (w1 := (wd_Ta_isLetter D)) (r := r_8) (ws' := (wd_Ta_endWord D h h_bytes v_size v_start v_end v_sort v_value v_bytes)) X hV hl.1 (c_Ta_isLetter D (v_bytes v_end.toNatClampNeg) hc_9) fk_Ta_isLetter gw_657 rfl [] [none, none] rfl rfl ⟨rfl, rfl, trivial⟩ rfl rfl rfl d_Ta_endWord_25 (fun H locs hV => ?_)
  refine lv_if_eq (tgt := 44) hx hb d_Ta_endWord_28 (by decide) (fun c_10 => ?_) (fun c_10 => ?_)
  · replace hf := kifp c_10 hf
    have e_ := Option.some.inj hf
    subst e_
    exact k_vret X rfl hV d_Ta_endWord_44
  replace hf := kifn c_10 hf
  refine lv_aload_n hx hb d_Ta_endWord_31 rfl (lv_at hl 0 rfl) ?_
  refine lv_dup hx hb d_Ta_endWord_32 rfl ?_
  refine k_get X hV 0 7 3 rfl rfl rfl gw_207 rfl rfl d_Ta_endWord_33 ?_
  refine lv_iconst (v := 1) hx hb d_Ta_endWord_36 ic_1 ?_
  refine lv_iadd hx hb d_Ta_endWord_37 ?_
  refine k_putv (ty := .int) (ws' := (wd_Ta_endWord D h h_bytes v_size v_start (v_end + (1 : Int32)) v_sort v_value v_bytes)) X hV 0 7 3 rfl rfl rfl gw_207 rfl rfl rfl rfl rfl rfl rfl d_Ta_endWord_38 (fun H locs hV => ?_)
  refine lv_goto (tgt := 5) hx hb d_Ta_endWord_41 (by decide) ?_
  exact hrec1 _ hf _ _ _ hV (lv_sub hl [0] rfl)
set_option maxHeartbeats 2000000 in
set_option maxRecDepth 20000 in
theorem tl_Ta_endWord_1 {l : Launch} {p : Program} {e : Env} {s : State} {m : MethodId} {args : Array Value} {below : List Frame} {meth : Method} {c : Code} {D : kD} {wc0 : va_W} {h : Nat} {h_bytes : Nat} {v_size : Int32} {v_start : Int32} {v_sort : Int32} {v_value : Int32} {v_bytes : Nat → Int32} {out : Int32 × Int32} (X : kX p m meth c s args D (va_A wc0 s.heap.size) b_Ta_endWord "MountainFarms$Tape" 1 none) : ∀ (n : Nat) (v_end : Int32), fl_Ta_endWord_1 v_size v_sort v_bytes n v_end = some out → ∀ (H : Heap) (locs : List Loc) (ls : Array Slot), kV D (va_A wc0 s.heap.size) s (wd_Ta_endWord D h h_bytes v_size v_start v_end v_sort v_value v_bytes) H locs → lv_has ls 1 [(0, .ref h)] → W p l e { frames := 1, cells := 0, slots := 0, locals := 20 } s m args below meth c H locs 0 0 (MQ below (kQv D wc0 (wd_Ta_endWord D h h_bytes v_size v_start out.1 out.2 v_value v_bytes) s.heap.size) args s 0 0 (va_A wc0 s.heap.size)) (F0 m 5 ls []) := by
  intro n
  induction n with
  | zero => intro v_end hf; exact knone hf
  | succ n ih => intro v_end hf H locs ls hV hl; exact tb_Ta_endWord_1 X ih hf hV hl
set_option maxHeartbeats 2000000 in
set_option maxRecDepth 20000 in
theorem t_Ta_endWord {l : Launch} {p : Program} {e : Env} {s : State} {m : MethodId} {args : Array Value} {below : List Frame} {meth : Method} {c : Code} {D : kD} {wc0 : va_W} {h : Nat} {h_bytes : Nat} {v_size : Int32} {v_start : Int32} {v_end : Int32} {v_sort : Int32} {v_value : Int32} {v_bytes : Nat → Int32} {out : Int32 × Int32} (X : kX p m meth c s args D (va_A wc0 s.heap.size) b_Ta_endWord "MountainFarms$Tape" 1 none) (hf : f_Ta_endWord v_size v_end v_sort v_bytes = some out) {H : Heap} {locs : List Loc} (hV : kV D (va_A wc0 s.heap.size) s (wd_Ta_endWord D h h_bytes v_size v_start v_end v_sort v_value v_bytes) H locs) {ls : Array Slot} (hl : lv_has ls 1 [(0, .ref h)]) : W p l e { frames := 1, cells := 0, slots := 0, locals := 20 } s m args below meth c H locs 0 0 (MQ below (kQv D wc0 (wd_Ta_endWord D h h_bytes v_size v_start out.1 out.2 v_value v_bytes) s.heap.size) args s 0 0 (va_A wc0 s.heap.size)) (F0 m 0 ls []) := by
  unfold f_Ta_endWord at hf
  obtain ⟨hx, hb, -⟩ := id X
  refine lv_aload_n hx hb d_Ta_endWord_0 rfl (lv_at hl 0 rfl) ?_
  refine lv_iconst (v := 1) hx hb d_Ta_endWord_1 ic_1 ?_
  refine k_putv (ty := .int) (ws' := (wd_Ta_endWord D h h_bytes v_size v_start v_end (1 : Int32) v_value v_bytes)) X hV 0 7 4 rfl rfl rfl gw_208 rfl rfl rfl rfl rfl rfl rfl d_Ta_endWord_2 (fun H locs hV => ?_)
  exact tl_Ta_endWord_1 X _ _ hf _ _ _ hV (lv_sub hl [0] rfl)
set_option maxHeartbeats 2000000 in
set_option maxRecDepth 20000 in
theorem c_Ta_endWord {l : Launch} (D : kD) (h : Nat) (h_bytes : Nat) (v_size : Int32) (v_start : Int32) (v_end : Int32) (v_sort : Int32) (v_value : Int32) (v_bytes : Nat → Int32) {out : Int32 × Int32} (hf : f_Ta_endWord v_size v_end v_sort v_bytes = some out) : kMv l D y_Ta_endWord b_Ta_endWord 1 none { frames := 1, cells := 0, slots := 0, locals := 20 } [.ref h] (wd_Ta_endWord D h h_bytes v_size v_start v_end v_sort v_value v_bytes) (wd_Ta_endWord D h h_bytes v_size v_start out.1 out.2 v_value v_bytes) :=
  kMv_of (own := "MountainFarms$Tape") (plainFor_of_name (by decide)) rfl rfl (fun p e s m args below meth c ls X hV hl => t_Ta_endWord X hf hV hl)
set_option maxHeartbeats 2000000 in
set_option maxRecDepth 20000 in
theorem t_Ta_isDigit {l : Launch} {p : Program} {e : Env} {s : State} {m : MethodId} {args : Array Value} {below : List Frame} {meth : Method} {c : Code} {D : kD} {wc0 : va_W} {x0 : Int32} {out : Int32} (X : kX p m meth c s args D (va_A wc0 s.heap.size) b_Ta_isDigit "MountainFarms$Tape" 1 (some .boolean)) (hf : f_Ta_isDigit x0 = some out) {H : Heap} {locs : List Loc} (hV : kV D (va_A wc0 s.heap.size) s (wd_Ta_isDigit D) H locs) {ls : Array Slot} (hl : lv_has ls 1 [(0, .int x0)]) : W p l e { frames := 0, cells := 0, slots := 0, locals := 0 } s m args below meth c H locs 0 0 (MQ below (kQi D wc0 (wd_Ta_isDigit D) s.heap.size out) args s 0 0 (va_A wc0 s.heap.size)) (F0 m 0 ls []) := by
  unfold f_Ta_isDigit at hf
  obtain ⟨hx, hb, -⟩ := id X
  refine lv_iload_n hx hb d_Ta_isDigit_0 rfl (lv_at hl 0 rfl) ?_
  refine lv_bipush (v := 48) hx hb d_Ta_isDigit_1 bp_48 ?_
  refine lv_icmp_lt (tgt := 16) hx hb d_Ta_isDigit_3 (by decide) (fun c_3 => ?_) (fun c_3 => ?_)
  · replace hf := kifp c_3 hf
    refine lv_iconst (v := 0) hx hb d_Ta_isDigit_16 ic_0 ?_
    have e_ := Option.some.inj hf
    subst e_
    exact k_iret (v := 0) X rfl hV nb0 d_Ta_isDigit_17
  replace hf := kifn c_3 hf
  refine lv_iload_n hx hb d_Ta_isDigit_6 rfl (lv_at hl 0 rfl) ?_
  refine lv_bipush (v := 57) hx hb d_Ta_isDigit_7 bp_57 ?_
  refine lv_icmp_gt (tgt := 16) hx hb d_Ta_isDigit_9 (by decide) (fun c_4 => ?_) (fun c_4 => ?_)
  · replace hf := kifp c_4 hf
    refine lv_iconst (v := 0) hx hb d_Ta_isDigit_16 ic_0 ?_
    have e_ := Option.some.inj hf
    subst e_
    exact k_iret (v := 0) X rfl hV nb0 d_Ta_isDigit_17
  replace hf := kifn c_4 hf
  refine lv_iconst (v := 1) hx hb d_Ta_isDigit_12 ic_1 ?_
  refine lv_goto (tgt := 17) hx hb d_Ta_isDigit_13 (by decide) ?_
  have e_ := Option.some.inj hf
  subst e_
  exact k_iret (v := 1) X rfl hV nb1 d_Ta_isDigit_17
set_option maxHeartbeats 2000000 in
set_option maxRecDepth 20000 in
theorem c_Ta_isDigit {l : Launch} (D : kD) (x0 : Int32) {out : Int32} (hf : f_Ta_isDigit x0 = some out) : kMi l D y_Ta_isDigit b_Ta_isDigit 1 (some .boolean) { frames := 0, cells := 0, slots := 0, locals := 0 } [.int x0] (wd_Ta_isDigit D) (wd_Ta_isDigit D) out :=
  kMi_of (own := "MountainFarms$Tape") (plainFor_of_name (by decide)) rfl rfl (fun p e s m args below meth c ls X hV hl => t_Ta_isDigit X hf hV hl)
set_option maxHeartbeats 2000000 in
set_option maxRecDepth 20000 in
theorem tb_Ta_endNumber_1 {l : Launch} {p : Program} {e : Env} {s : State} {m : MethodId} {args : Array Value} {below : List Frame} {meth : Method} {c : Code} {D : kD} {wc0 : va_W} {h : Nat} {h_bytes : Nat} {v_size : Int32} {v_start : Int32} {v_end : Int32} {v_sort : Int32} {v_value : Int32} {v_bytes : Nat → Int32} {rec1 : Int32 → Int32 → Option (Int32 × Int32 × Int32)} {out : Int32 × Int32 × Int32} (X : kX p m meth c s args D (va_A wc0 s.heap.size) b_Ta_endNumber "MountainFarms$Tape" 1 none) (hrec1 : ∀ (v_end : Int32) (v_value : Int32), rec1 v_end v_value = some out → ∀ (H : Heap) (locs : List Loc) (ls : Array Slot), kV D (va_A wc0 s.heap.size) s (wd_Ta_endNumber D h h_bytes v_size v_start v_end v_sort v_value v_bytes) H locs → lv_has ls 1 [(0, .ref h)] → W p l e { frames := 1, cells := 0, slots := 0, locals := 21 } s m args below meth c H locs 0 0 (MQ below (kQv D wc0 (wd_Ta_endNumber D h h_bytes v_size v_start out.1 out.2.1 out.2.2 v_bytes) s.heap.size) args s 0 0 (va_A wc0 s.heap.size)) (F0 m 10 ls [])) (hf : fb_Ta_endNumber_1 rec1 v_size v_sort v_bytes v_end v_value = some out) {H : Heap} {locs : List Loc} (hV : kV D (va_A wc0 s.heap.size) s (wd_Ta_endNumber D h h_bytes v_size v_start v_end v_sort v_value v_bytes) H locs) {ls : Array Slot} (hl : lv_has ls 1 [(0, .ref h)]) : W p l e { frames := 1, cells := 0, slots := 0, locals := 21 } s m args below meth c H locs 0 0 (MQ below (kQv D wc0 (wd_Ta_endNumber D h h_bytes v_size v_start out.1 out.2.1 out.2.2 v_bytes) s.heap.size) args s 0 0 (va_A wc0 s.heap.size)) (F0 m 10 ls []) := by
  unfold fb_Ta_endNumber_1 at hf
  obtain ⟨hx, hb, -⟩ := id X
  refine lv_aload_n hx hb d_Ta_endNumber_10 rfl (lv_at hl 0 rfl) ?_
  refine k_get X hV 0 7 3 rfl rfl rfl gw_207 rfl rfl d_Ta_endNumber_11 ?_
  refine lv_aload_n hx hb d_Ta_endNumber_14 rfl (lv_at hl 0 rfl) ?_
  refine k_get X hV 0 7 1 rfl rfl rfl gw_203 rfl rfl d_Ta_endNumber_15 ?_
  refine lv_icmp_ge (tgt := 79) hx hb d_Ta_endNumber_18 (by decide) (fun c_9 => ?_) (fun c_9 => ?_)
  · replace hf := kifp c_9 hf
    have e_ := Option.some.inj hf
    subst e_
    exact k_vret X rfl hV d_Ta_endNumber_79
  replace hf := kifn c_9 hf
  refine lv_aload_n hx hb d_Ta_endNumber_21 rfl (lv_at hl 0 rfl) ?_
  refine k_get X hV 0 7 0 rfl rfl rfl gw_202 rfl rfl d_Ta_endNumber_22 ?_
  refine lv_aload_n hx hb d_Ta_endNumber_25 rfl (lv_at hl 0 rfl) ?_
  refine k_get X hV 0 7 3 rfl rfl rfl gw_207 rfl rfl d_Ta_endNumber_26 ?_
  obtain ⟨h_10, hf⟩ := kidx_some hf
  refine k_iald X hV 1 rfl h_10 rfl d_Ta_endNumber_29 ?_
  obtain ⟨r_11, hc_12, hf⟩ := kb1_some hf
  refine k_csi (w1 := (wd_Ta_isDigit D)) (r := r_11) (ws' := (wd_Ta_endNumber D h h_bytes v_size v_start v_end v_sort v_value v_bytes)) X hV hl.1 (c_Ta_isDigit D (v_bytes v_end.toNatClampNeg) hc_12) fk_Ta_isDigit gw_664 rfl [] [none, none] rfl rfl ⟨rfl, rfl, trivial⟩ rfl rfl rfl d_Ta_endNumber_30 (fun H locs hV => ?_)
  refine lv_if_eq (tgt := 79) hx hb d_Ta_endNumber_33 (by decide) (fun c_13 => ?_) (fun c_13 => ?_)
  · replace hf := kifp c_13 hf
    have e_ := Option.some.inj hf
    subst e_
    exact k_vret X rfl hV d_Ta_endNumber_79
  replace hf := kifn c_13 hf
  refine lv_aload_n hx hb d_Ta_endNumber_36 rfl (lv_at hl 0 rfl) ?_
  refine lv_sipush (v := 1000) hx hb d_Ta_endNumber_37 sp_1000 ?_
  refine lv_bipush (v := 10) hx hb d_Ta_endNumber_40 bp_10 ?_
  refine lv_aload_n hx hb d_Ta_endNumber_42 rfl (lv_at hl 0 rfl) ?_
  refine k_get X hV 0 7 5 rfl rfl rfl gw_209 rfl rfl d_Ta_endNumber_43 ?_
  refine lv_imul hx hb d_Ta_endNumber_46 ?_
  refine lv_aload_n hx hb d_Ta_endNumber_47 rfl (lv_at hl 0 rfl) ?_
  refine k_get X hV 0 7 0 rfl rfl rfl gw_202 rfl rfl d_Ta_endNumber_48 ?_
  refine lv_aload_n hx hb d_Ta_endNumber_51 rfl (lv_at hl 0 rfl) ?_
  refine k_get X hV 0 7 3 rfl rfl rfl gw_207 rfl rfl d_Ta_endNumber_52 ?_
  obtain ⟨h_14, hf⟩ := kidx_some hf
  refine k_iald X hV 1 rfl h_14 rfl d_Ta_endNumber_55 ?_
  refine lv_iadd hx hb d_Ta_endNumber_56 ?_
  refine lv_bipush (v := 48) hx hb d_Ta_endNumber_57 bp_48 ?_
  refine lv_isub hx hb d_Ta_endNumber_59 ?_
  obtain ⟨r_15, hc_16, hf⟩ := kb1_some hf
  refine k_csi (w1 := (wd_Ma_min D)) (r := r_15) (ws' := (wd_Ta_endNumber D h h_bytes v_size v_start v_end v_sort v_value v_bytes)) X hV hl.1 (c_Ma_min D (1000 : Int32) ((((10 : Int32) * v_value) + (v_bytes v_end.toNatClampNeg)) - (48 : Int32)) hc_16) fk_Ma_min gw_671 rfl [] [none, none] rfl rfl ⟨rfl, rfl, trivial⟩ rfl rfl rfl d_Ta_endNumber_60 (fun H locs hV => ?_)
  refine k_putv (ty := .int) (ws' := (wd_Ta_endNumber D h h_bytes v_size v_start v_end v_sort r_15 v_bytes)) X hV 0 7 5 rfl rfl rfl gw_209 rfl rfl rfl rfl rfl rfl rfl d_Ta_endNumber_63 (fun H locs hV => ?_)
  refine lv_aload_n hx hb d_Ta_endNumber_66 rfl (lv_at hl 0 rfl) ?_
  refine lv_dup hx hb d_Ta_endNumber_67 rfl ?_
  refine k_get X hV 0 7 3 rfl rfl rfl gw_207 rfl rfl d_Ta_endNumber_68 ?_
  refine lv_iconst (v := 1) hx hb d_Ta_endNumber_71 ic_1 ?_
  refine lv_iadd hx hb d_Ta_endNumber_72 ?_
  refine k_putv (ty := .int) (ws' := (wd_Ta_endNumber D h h_bytes v_size v_start (v_end + (1 : Int32)) v_sort r_15 v_bytes)) X hV 0 7 3 rfl rfl rfl gw_207 rfl rfl rfl rfl rfl rfl rfl d_Ta_endNumber_73 (fun H locs hV => ?_)
  refine lv_goto (tgt := 10) hx hb d_Ta_endNumber_76 (by decide) ?_
  exact hrec1 _ _ hf _ _ _ hV (lv_sub hl [0] rfl)
set_option maxHeartbeats 2000000 in
set_option maxRecDepth 20000 in
theorem tl_Ta_endNumber_1 {l : Launch} {p : Program} {e : Env} {s : State} {m : MethodId} {args : Array Value} {below : List Frame} {meth : Method} {c : Code} {D : kD} {wc0 : va_W} {h : Nat} {h_bytes : Nat} {v_size : Int32} {v_start : Int32} {v_sort : Int32} {v_bytes : Nat → Int32} {out : Int32 × Int32 × Int32} (X : kX p m meth c s args D (va_A wc0 s.heap.size) b_Ta_endNumber "MountainFarms$Tape" 1 none) : ∀ (n : Nat) (v_end : Int32) (v_value : Int32), fl_Ta_endNumber_1 v_size v_sort v_bytes n v_end v_value = some out → ∀ (H : Heap) (locs : List Loc) (ls : Array Slot), kV D (va_A wc0 s.heap.size) s (wd_Ta_endNumber D h h_bytes v_size v_start v_end v_sort v_value v_bytes) H locs → lv_has ls 1 [(0, .ref h)] → W p l e { frames := 1, cells := 0, slots := 0, locals := 21 } s m args below meth c H locs 0 0 (MQ below (kQv D wc0 (wd_Ta_endNumber D h h_bytes v_size v_start out.1 out.2.1 out.2.2 v_bytes) s.heap.size) args s 0 0 (va_A wc0 s.heap.size)) (F0 m 10 ls []) := by
  intro n
  induction n with
  | zero => intro v_end v_value hf; exact knone hf
  | succ n ih => intro v_end v_value hf H locs ls hV hl; exact tb_Ta_endNumber_1 X ih hf hV hl
set_option maxHeartbeats 2000000 in
set_option maxRecDepth 20000 in
theorem t_Ta_endNumber {l : Launch} {p : Program} {e : Env} {s : State} {m : MethodId} {args : Array Value} {below : List Frame} {meth : Method} {c : Code} {D : kD} {wc0 : va_W} {h : Nat} {h_bytes : Nat} {v_size : Int32} {v_start : Int32} {v_end : Int32} {v_sort : Int32} {v_value : Int32} {v_bytes : Nat → Int32} {out : Int32 × Int32 × Int32} (X : kX p m meth c s args D (va_A wc0 s.heap.size) b_Ta_endNumber "MountainFarms$Tape" 1 none) (hf : f_Ta_endNumber v_size v_end v_sort v_value v_bytes = some out) {H : Heap} {locs : List Loc} (hV : kV D (va_A wc0 s.heap.size) s (wd_Ta_endNumber D h h_bytes v_size v_start v_end v_sort v_value v_bytes) H locs) {ls : Array Slot} (hl : lv_has ls 1 [(0, .ref h)]) : W p l e { frames := 1, cells := 0, slots := 0, locals := 21 } s m args below meth c H locs 0 0 (MQ below (kQv D wc0 (wd_Ta_endNumber D h h_bytes v_size v_start out.1 out.2.1 out.2.2 v_bytes) s.heap.size) args s 0 0 (va_A wc0 s.heap.size)) (F0 m 0 ls []) := by
  unfold f_Ta_endNumber at hf
  obtain ⟨hx, hb, -⟩ := id X
  refine lv_aload_n hx hb d_Ta_endNumber_0 rfl (lv_at hl 0 rfl) ?_
  refine lv_iconst (v := 2) hx hb d_Ta_endNumber_1 ic_2 ?_
  refine k_putv (ty := .int) (ws' := (wd_Ta_endNumber D h h_bytes v_size v_start v_end (2 : Int32) v_value v_bytes)) X hV 0 7 4 rfl rfl rfl gw_208 rfl rfl rfl rfl rfl rfl rfl d_Ta_endNumber_2 (fun H locs hV => ?_)
  refine lv_aload_n hx hb d_Ta_endNumber_5 rfl (lv_at hl 0 rfl) ?_
  refine lv_iconst (v := 0) hx hb d_Ta_endNumber_6 ic_0 ?_
  refine k_putv (ty := .int) (ws' := (wd_Ta_endNumber D h h_bytes v_size v_start v_end (2 : Int32) (0 : Int32) v_bytes)) X hV 0 7 5 rfl rfl rfl gw_209 rfl rfl rfl rfl rfl rfl rfl d_Ta_endNumber_7 (fun H locs hV => ?_)
  exact tl_Ta_endNumber_1 X _ _ _ hf _ _ _ hV (lv_sub hl [0] rfl)
set_option maxHeartbeats 2000000 in
set_option maxRecDepth 20000 in
theorem c_Ta_endNumber {l : Launch} (D : kD) (h : Nat) (h_bytes : Nat) (v_size : Int32) (v_start : Int32) (v_end : Int32) (v_sort : Int32) (v_value : Int32) (v_bytes : Nat → Int32) {out : Int32 × Int32 × Int32} (hf : f_Ta_endNumber v_size v_end v_sort v_value v_bytes = some out) : kMv l D y_Ta_endNumber b_Ta_endNumber 1 none { frames := 1, cells := 0, slots := 0, locals := 21 } [.ref h] (wd_Ta_endNumber D h h_bytes v_size v_start v_end v_sort v_value v_bytes) (wd_Ta_endNumber D h h_bytes v_size v_start out.1 out.2.1 out.2.2 v_bytes) :=
  kMv_of (own := "MountainFarms$Tape") (plainFor_of_name (by decide)) rfl rfl (fun p e s m args below meth c ls X hV hl => t_Ta_endNumber X hf hV hl)
set_option maxHeartbeats 2000000 in
set_option maxRecDepth 20000 in
theorem t_Ta_goToNext_3 {l : Launch} {p : Program} {e : Env} {s : State} {m : MethodId} {args : Array Value} {below : List Frame} {meth : Method} {c : Code} {D : kD} {wc0 : va_W} {h : Nat} {h_bytes : Nat} {v_size : Int32} {v_start : Int32} {v_end : Int32} {v_sort : Int32} {v_value : Int32} {v_bytes : Nat → Int32} {s1 : Int32} {out : Int32 × Int32 × Int32 × Int32} (X : kX p m meth c s args D (va_A wc0 s.heap.size) b_Ta_goToNext "MountainFarms$Tape" 1 none) (hf : f_Ta_goToNext_3 s1 v_start v_end v_sort v_value = some out) {H : Heap} {locs : List Loc} (hV : kV D (va_A wc0 s.heap.size) s (wd_Ta_goToNext D h h_bytes v_size v_start v_end v_sort v_value v_bytes) H locs) {ls : Array Slot} (hl : lv_has ls 1 [(0, .ref h)]) : W p l e { frames := 2, cells := 0, slots := 0, locals := 41 } s m args below meth c H locs 0 0 (MQ below (kQv D wc0 (wd_Ta_goToNext D h h_bytes v_size out.1 out.2.1 out.2.2.1 out.2.2.2 v_bytes) s.heap.size) args s 0 0 (va_A wc0 s.heap.size)) (F0 m 137 ls [.int s1, .ref h]) := by
  unfold f_Ta_goToNext_3 at hf
  obtain ⟨hx, hb, -⟩ := id X
  refine k_putv (ty := .int) (ws' := (wd_Ta_goToNext D h h_bytes v_size v_start v_end s1 v_value v_bytes)) X hV 0 7 4 rfl rfl rfl gw_208 rfl rfl rfl rfl rfl rfl rfl d_Ta_goToNext_137 (fun H locs hV => ?_)
  refine lv_aload_n hx hb d_Ta_goToNext_140 rfl (lv_at hl 0 rfl) ?_
  refine lv_dup hx hb d_Ta_goToNext_141 rfl ?_
  refine k_get X hV 0 7 3 rfl rfl rfl gw_207 rfl rfl d_Ta_goToNext_142 ?_
  refine lv_iconst (v := 1) hx hb d_Ta_goToNext_145 ic_1 ?_
  refine lv_iadd hx hb d_Ta_goToNext_146 ?_
  refine k_putv (ty := .int) (ws' := (wd_Ta_goToNext D h h_bytes v_size v_start (v_end + (1 : Int32)) s1 v_value v_bytes)) X hV 0 7 3 rfl rfl rfl gw_207 rfl rfl rfl rfl rfl rfl rfl d_Ta_goToNext_147 (fun H locs hV => ?_)
  have e_ := Option.some.inj hf
  subst e_
  exact k_vret X rfl hV d_Ta_goToNext_150
set_option maxHeartbeats 2000000 in
set_option maxRecDepth 20000 in
theorem t_Ta_goToNext_2 {l : Launch} {p : Program} {e : Env} {s : State} {m : MethodId} {args : Array Value} {below : List Frame} {meth : Method} {c : Code} {D : kD} {wc0 : va_W} {h : Nat} {h_bytes : Nat} {v_size : Int32} {v_start : Int32} {v_end : Int32} {v_sort : Int32} {v_value : Int32} {v_bytes : Nat → Int32} {out : Int32 × Int32 × Int32 × Int32} (X : kX p m meth c s args D (va_A wc0 s.heap.size) b_Ta_goToNext "MountainFarms$Tape" 1 none) (hf : f_Ta_goToNext_2 v_size v_start v_end v_sort v_value v_bytes = some out) {H : Heap} {locs : List Loc} (hV : kV D (va_A wc0 s.heap.size) s (wd_Ta_goToNext D h h_bytes v_size v_start v_end v_sort v_value v_bytes) H locs) {ls : Array Slot} (hl : lv_has ls 1 [(0, .ref h)]) : W p l e { frames := 2, cells := 0, slots := 0, locals := 41 } s m args below meth c H locs 0 0 (MQ below (kQv D wc0 (wd_Ta_goToNext D h h_bytes v_size out.1 out.2.1 out.2.2.1 out.2.2.2 v_bytes) s.heap.size) args s 0 0 (va_A wc0 s.heap.size)) (F0 m 46 ls []) := by
  unfold f_Ta_goToNext_2 at hf
  obtain ⟨hx, hb, -⟩ := id X
  refine lv_aload_n hx hb d_Ta_goToNext_46 rfl (lv_at hl 0 rfl) ?_
  refine lv_aload_n hx hb d_Ta_goToNext_47 rfl (lv_at hl 0 rfl) ?_
  refine k_get X hV 0 7 2 rfl rfl rfl gw_205 rfl rfl d_Ta_goToNext_48 ?_
  refine k_putv (ty := .int) (ws' := (wd_Ta_goToNext D h h_bytes v_size v_start v_start v_sort v_value v_bytes)) X hV 0 7 3 rfl rfl rfl gw_207 rfl rfl rfl rfl rfl rfl rfl d_Ta_goToNext_51 (fun H locs hV => ?_)
  refine lv_aload_n hx hb d_Ta_goToNext_54 rfl (lv_at hl 0 rfl) ?_
  refine k_get X hV 0 7 2 rfl rfl rfl gw_205 rfl rfl d_Ta_goToNext_55 ?_
  refine lv_aload_n hx hb d_Ta_goToNext_58 rfl (lv_at hl 0 rfl) ?_
  refine k_get X hV 0 7 1 rfl rfl rfl gw_203 rfl rfl d_Ta_goToNext_59 ?_
  refine lv_icmp_lt (tgt := 73) hx hb d_Ta_goToNext_62 (by decide) (fun c_25 => ?_) (fun c_25 => ?_)
  · replace hf := kifp c_25 hf
    refine lv_aload_n hx hb d_Ta_goToNext_73 rfl (lv_at hl 0 rfl) ?_
    refine k_get X hV 0 7 0 rfl rfl rfl gw_202 rfl rfl d_Ta_goToNext_74 ?_
    refine lv_aload_n hx hb d_Ta_goToNext_77 rfl (lv_at hl 0 rfl) ?_
    refine k_get X hV 0 7 2 rfl rfl rfl gw_205 rfl rfl d_Ta_goToNext_78 ?_
    obtain ⟨h_26, hf⟩ := kidx_some hf
    refine k_iald X hV 1 rfl h_26 rfl d_Ta_goToNext_81 ?_
    obtain ⟨r_27, hc_28, hf⟩ := kb1_some hf
    refine k_csi (w1 := (wd_Ta_isLetter D)) (r := r_27) (ws' := (wd_Ta_goToNext D h h_bytes v_size v_start v_start v_sort v_value v_bytes)) X hV hl.1 (c_Ta_isLetter D (v_bytes v_start.toNatClampNeg) hc_28) fk_Ta_isLetter gw_657 rfl [] [none, none] rfl rfl ⟨rfl, rfl, trivial⟩ rfl rfl rfl d_Ta_goToNext_82 (fun H locs hV => ?_)
    refine lv_if_eq (tgt := 95) hx hb d_Ta_goToNext_85 (by decide) (fun c_29 => ?_) (fun c_29 => ?_)
    · replace hf := kifp c_29 hf
      refine lv_aload_n hx hb d_Ta_goToNext_95 rfl (lv_at hl 0 rfl) ?_
      refine k_get X hV 0 7 0 rfl rfl rfl gw_202 rfl rfl d_Ta_goToNext_96 ?_
      refine lv_aload_n hx hb d_Ta_goToNext_99 rfl (lv_at hl 0 rfl) ?_
      refine k_get X hV 0 7 2 rfl rfl rfl gw_205 rfl rfl d_Ta_goToNext_100 ?_
      obtain ⟨h_30, hf⟩ := kidx_some hf
      refine k_iald X hV 1 rfl h_30 rfl d_Ta_goToNext_103 ?_
      obtain ⟨r_31, hc_32, hf⟩ := kb1_some hf
      refine k_csi (w1 := (wd_Ta_isDigit D)) (r := r_31) (ws' := (wd_Ta_goToNext D h h_bytes v_size v_start v_start v_sort v_value v_bytes)) X hV hl.1 (c_Ta_isDigit D (v_bytes v_start.toNatClampNeg) hc_32) fk_Ta_isDigit gw_664 rfl [] [none, none] rfl rfl ⟨rfl, rfl, trivial⟩ rfl rfl rfl d_Ta_goToNext_104 (fun H locs hV => ?_)
      refine lv_if_eq (tgt := 117) hx hb d_Ta_goToNext_107 (by decide) (fun c_33 => ?_) (fun c_33 => ?_)
      · replace hf := kifp c_33 hf
        refine lv_aload_n hx hb d_Ta_goToNext_117 rfl (lv_at hl 0 rfl) ?_
        refine lv_aload_n hx hb d_Ta_goToNext_118 rfl (lv_at hl 0 rfl) ?_
        refine k_get X hV 0 7 0 rfl rfl rfl gw_202 rfl rfl d_Ta_goToNext_119 ?_
        refine lv_aload_n hx hb d_Ta_goToNext_122 rfl (lv_at hl 0 rfl) ?_
        refine k_get X hV 0 7 2 rfl rfl rfl gw_205 rfl rfl d_Ta_goToNext_123 ?_
        obtain ⟨h_34, hf⟩ := kidx_some hf
        refine k_iald X hV 1 rfl h_34 rfl d_Ta_goToNext_126 ?_
        refine lv_bipush (v := 59) hx hb d_Ta_goToNext_127 bp_59 ?_
        refine lv_icmp_ne (tgt := 136) hx hb d_Ta_goToNext_129 (by decide) (fun c_35 => ?_) (fun c_35 => ?_)
        · replace hf := kifn c_35 hf
          refine lv_iconst (v := 4) hx hb d_Ta_goToNext_136 ic_4 ?_
          exact t_Ta_goToNext_3 X hf hV (lv_sub hl [0] rfl)
        replace hf := kifp c_35 hf
        refine lv_iconst (v := 3) hx hb d_Ta_goToNext_132 ic_3 ?_
        refine lv_goto (tgt := 137) hx hb d_Ta_goToNext_133 (by decide) ?_
        exact t_Ta_goToNext_3 X hf hV (lv_sub hl [0] rfl)
      replace hf := kifn c_33 hf
      refine lv_aload_n hx hb d_Ta_goToNext_110 rfl (lv_at hl 0 rfl) ?_
      obtain ⟨v_end_36, v_sort_37, v_value_38, hc_39, hf⟩ := kb3_some hf
      refine k_cvv (w1 := (wd_Ta_endNumber D h h_bytes v_size v_start v_end_36 v_sort_37 v_value_38 v_bytes)) (ws' := (wd_Ta_goToNext D h h_bytes v_size v_start v_end_36 v_sort_37 v_value_38 v_bytes)) X hV hl.1 (c_Ta_endNumber D h h_bytes v_size v_start v_start v_sort v_value v_bytes hc_39) fk_Ta_endNumber gw_667 rfl 0 7 rfl rfl [0, 1] [some 0, some 1] rfl rfl ⟨rfl, rfl, rfl, rfl, rfl, rfl, trivial⟩ rfl rfl rfl d_Ta_goToNext_111 (fun H locs hV => ?_)
      refine lv_goto (tgt := 150) hx hb d_Ta_goToNext_114 (by decide) ?_
      have e_ := Option.some.inj hf
      subst e_
      exact k_vret X rfl hV d_Ta_goToNext_150
    replace hf := kifn c_29 hf
    refine lv_aload_n hx hb d_Ta_goToNext_88 rfl (lv_at hl 0 rfl) ?_
    obtain ⟨v_end_40, v_sort_41, hc_42, hf⟩ := kb2_some hf
    refine k_cvv (w1 := (wd_Ta_endWord D h h_bytes v_size v_start v_end_40 v_sort_41 v_value v_bytes)) (ws' := (wd_Ta_goToNext D h h_bytes v_size v_start v_end_40 v_sort_41 v_value v_bytes)) X hV hl.1 (c_Ta_endWord D h h_bytes v_size v_start v_start v_sort v_value v_bytes hc_42) fk_Ta_endWord gw_660 rfl 0 7 rfl rfl [0, 1] [some 0, some 1] rfl rfl ⟨rfl, rfl, rfl, rfl, rfl, rfl, trivial⟩ rfl rfl rfl d_Ta_goToNext_89 (fun H locs hV => ?_)
    refine lv_goto (tgt := 150) hx hb d_Ta_goToNext_92 (by decide) ?_
    have e_ := Option.some.inj hf
    subst e_
    exact k_vret X rfl hV d_Ta_goToNext_150
  replace hf := kifn c_25 hf
  refine lv_aload_n hx hb d_Ta_goToNext_65 rfl (lv_at hl 0 rfl) ?_
  refine lv_iconst (v := 0) hx hb d_Ta_goToNext_66 ic_0 ?_
  refine k_putv (ty := .int) (ws' := (wd_Ta_goToNext D h h_bytes v_size v_start v_start (0 : Int32) v_value v_bytes)) X hV 0 7 4 rfl rfl rfl gw_208 rfl rfl rfl rfl rfl rfl rfl d_Ta_goToNext_67 (fun H locs hV => ?_)
  refine lv_goto (tgt := 150) hx hb d_Ta_goToNext_70 (by decide) ?_
  have e_ := Option.some.inj hf
  subst e_
  exact k_vret X rfl hV d_Ta_goToNext_150
set_option maxHeartbeats 2000000 in
set_option maxRecDepth 20000 in
theorem tb_Ta_goToNext_1 {l : Launch} {p : Program} {e : Env} {s : State} {m : MethodId} {args : Array Value} {below : List Frame} {meth : Method} {c : Code} {D : kD} {wc0 : va_W} {h : Nat} {h_bytes : Nat} {v_size : Int32} {v_start : Int32} {v_end : Int32} {v_sort : Int32} {v_value : Int32} {v_bytes : Nat → Int32} {rec1 : Int32 → Option (Int32 × Int32 × Int32 × Int32)} {out : Int32 × Int32 × Int32 × Int32} (X : kX p m meth c s args D (va_A wc0 s.heap.size) b_Ta_goToNext "MountainFarms$Tape" 1 none) (hrec1 : ∀ (v_start : Int32), rec1 v_start = some out → ∀ (H : Heap) (locs : List Loc) (ls : Array Slot), kV D (va_A wc0 s.heap.size) s (wd_Ta_goToNext D h h_bytes v_size v_start v_end v_sort v_value v_bytes) H locs → lv_has ls 1 [(0, .ref h)] → W p l e { frames := 2, cells := 0, slots := 0, locals := 41 } s m args below meth c H locs 0 0 (MQ below (kQv D wc0 (wd_Ta_goToNext D h h_bytes v_size out.1 out.2.1 out.2.2.1 out.2.2.2 v_bytes) s.heap.size) args s 0 0 (va_A wc0 s.heap.size)) (F0 m 8 ls [])) (hf : fb_Ta_goToNext_1 rec1 v_size v_end v_sort v_value v_bytes v_start = some out) {H : Heap} {locs : List Loc} (hV : kV D (va_A wc0 s.heap.size) s (wd_Ta_goToNext D h h_bytes v_size v_start v_end v_sort v_value v_bytes) H locs) {ls : Array Slot} (hl : lv_has ls 1 [(0, .ref h)]) : W p l e { frames := 2, cells := 0, slots := 0, locals := 41 } s m args below meth c H locs 0 0 (MQ below (kQv D wc0 (wd_Ta_goToNext D h h_bytes v_size out.1 out.2.1 out.2.2.1 out.2.2.2 v_bytes) s.heap.size) args s 0 0 (va_A wc0 s.heap.size)) (F0 m 8 ls []) := by
  unfold fb_Ta_goToNext_1 at hf
  obtain ⟨hx, hb, -⟩ := id X
  refine lv_aload_n hx hb d_Ta_goToNext_8 rfl (lv_at hl 0 rfl) ?_
  refine k_get X hV 0 7 2 rfl rfl rfl gw_205 rfl rfl d_Ta_goToNext_9 ?_
  refine lv_aload_n hx hb d_Ta_goToNext_12 rfl (lv_at hl 0 rfl) ?_
  refine k_get X hV 0 7 1 rfl rfl rfl gw_203 rfl rfl d_Ta_goToNext_13 ?_
  refine lv_icmp_ge (tgt := 46) hx hb d_Ta_goToNext_16 (by decide) (fun c_22 => ?_) (fun c_22 => ?_)
  · replace hf := kifp c_22 hf
    exact t_Ta_goToNext_2 X hf hV (lv_sub hl [0] rfl)
  replace hf := kifn c_22 hf
  refine lv_aload_n hx hb d_Ta_goToNext_19 rfl (lv_at hl 0 rfl) ?_
  refine k_get X hV 0 7 0 rfl rfl rfl gw_202 rfl rfl d_Ta_goToNext_20 ?_
  refine lv_aload_n hx hb d_Ta_goToNext_23 rfl (lv_at hl 0 rfl) ?_
  refine k_get X hV 0 7 2 rfl rfl rfl gw_205 rfl rfl d_Ta_goToNext_24 ?_
  obtain ⟨h_23, hf⟩ := kidx_some hf
  refine k_iald X hV 1 rfl h_23 rfl d_Ta_goToNext_27 ?_
  refine lv_bipush (v := 32) hx hb d_Ta_goToNext_28 bp_32 ?_
  refine lv_icmp_ne (tgt := 46) hx hb d_Ta_goToNext_30 (by decide) (fun c_24 => ?_) (fun c_24 => ?_)
  · replace hf := kifn c_24 hf
    exact t_Ta_goToNext_2 X hf hV (lv_sub hl [0] rfl)
  replace hf := kifp c_24 hf
  refine lv_aload_n hx hb d_Ta_goToNext_33 rfl (lv_at hl 0 rfl) ?_
  refine lv_dup hx hb d_Ta_goToNext_34 rfl ?_
  refine k_get X hV 0 7 2 rfl rfl rfl gw_205 rfl rfl d_Ta_goToNext_35 ?_
  refine lv_iconst (v := 1) hx hb d_Ta_goToNext_38 ic_1 ?_
  refine lv_iadd hx hb d_Ta_goToNext_39 ?_
  refine k_putv (ty := .int) (ws' := (wd_Ta_goToNext D h h_bytes v_size (v_start + (1 : Int32)) v_end v_sort v_value v_bytes)) X hV 0 7 2 rfl rfl rfl gw_205 rfl rfl rfl rfl rfl rfl rfl d_Ta_goToNext_40 (fun H locs hV => ?_)
  refine lv_goto (tgt := 8) hx hb d_Ta_goToNext_43 (by decide) ?_
  exact hrec1 _ hf _ _ _ hV (lv_sub hl [0] rfl)
set_option maxHeartbeats 2000000 in
set_option maxRecDepth 20000 in
theorem tl_Ta_goToNext_1 {l : Launch} {p : Program} {e : Env} {s : State} {m : MethodId} {args : Array Value} {below : List Frame} {meth : Method} {c : Code} {D : kD} {wc0 : va_W} {h : Nat} {h_bytes : Nat} {v_size : Int32} {v_end : Int32} {v_sort : Int32} {v_value : Int32} {v_bytes : Nat → Int32} {out : Int32 × Int32 × Int32 × Int32} (X : kX p m meth c s args D (va_A wc0 s.heap.size) b_Ta_goToNext "MountainFarms$Tape" 1 none) : ∀ (n : Nat) (v_start : Int32), fl_Ta_goToNext_1 v_size v_end v_sort v_value v_bytes n v_start = some out → ∀ (H : Heap) (locs : List Loc) (ls : Array Slot), kV D (va_A wc0 s.heap.size) s (wd_Ta_goToNext D h h_bytes v_size v_start v_end v_sort v_value v_bytes) H locs → lv_has ls 1 [(0, .ref h)] → W p l e { frames := 2, cells := 0, slots := 0, locals := 41 } s m args below meth c H locs 0 0 (MQ below (kQv D wc0 (wd_Ta_goToNext D h h_bytes v_size out.1 out.2.1 out.2.2.1 out.2.2.2 v_bytes) s.heap.size) args s 0 0 (va_A wc0 s.heap.size)) (F0 m 8 ls []) := by
  intro n
  induction n with
  | zero => intro v_start hf; exact knone hf
  | succ n ih => intro v_start hf H locs ls hV hl; exact tb_Ta_goToNext_1 X ih hf hV hl
set_option maxHeartbeats 2000000 in
set_option maxRecDepth 20000 in
theorem t_Ta_goToNext {l : Launch} {p : Program} {e : Env} {s : State} {m : MethodId} {args : Array Value} {below : List Frame} {meth : Method} {c : Code} {D : kD} {wc0 : va_W} {h : Nat} {h_bytes : Nat} {v_size : Int32} {v_start : Int32} {v_end : Int32} {v_sort : Int32} {v_value : Int32} {v_bytes : Nat → Int32} {out : Int32 × Int32 × Int32 × Int32} (X : kX p m meth c s args D (va_A wc0 s.heap.size) b_Ta_goToNext "MountainFarms$Tape" 1 none) (hf : f_Ta_goToNext v_size v_start v_end v_sort v_value v_bytes = some out) {H : Heap} {locs : List Loc} (hV : kV D (va_A wc0 s.heap.size) s (wd_Ta_goToNext D h h_bytes v_size v_start v_end v_sort v_value v_bytes) H locs) {ls : Array Slot} (hl : lv_has ls 1 [(0, .ref h)]) : W p l e { frames := 2, cells := 0, slots := 0, locals := 41 } s m args below meth c H locs 0 0 (MQ below (kQv D wc0 (wd_Ta_goToNext D h h_bytes v_size out.1 out.2.1 out.2.2.1 out.2.2.2 v_bytes) s.heap.size) args s 0 0 (va_A wc0 s.heap.size)) (F0 m 0 ls []) := by
  unfold f_Ta_goToNext at hf
  obtain ⟨hx, hb, -⟩ := id X
  refine lv_aload_n hx hb d_Ta_goToNext_0 rfl (lv_at hl 0 rfl) ?_
  refine lv_aload_n hx hb d_Ta_goToNext_1 rfl (lv_at hl 0 rfl) ?_
  refine k_get X hV 0 7 3 rfl rfl rfl gw_207 rfl rfl d_Ta_goToNext_2 ?_
  refine k_putv (ty := .int) (ws' := (wd_Ta_goToNext D h h_bytes v_size v_end v_end v_sort v_value v_bytes)) X hV 0 7 2 rfl rfl rfl gw_205 rfl rfl rfl rfl rfl rfl rfl d_Ta_goToNext_5 (fun H locs hV => ?_)
  exact tl_Ta_goToNext_1 X _ _ hf _ _ _ hV (lv_sub hl [0] rfl)
set_option maxHeartbeats 2000000 in
set_option maxRecDepth 20000 in
theorem c_Ta_goToNext {l : Launch} (D : kD) (h : Nat) (h_bytes : Nat) (v_size : Int32) (v_start : Int32) (v_end : Int32) (v_sort : Int32) (v_value : Int32) (v_bytes : Nat → Int32) {out : Int32 × Int32 × Int32 × Int32} (hf : f_Ta_goToNext v_size v_start v_end v_sort v_value v_bytes = some out) : kMv l D y_Ta_goToNext b_Ta_goToNext 1 none { frames := 2, cells := 0, slots := 0, locals := 41 } [.ref h] (wd_Ta_goToNext D h h_bytes v_size v_start v_end v_sort v_value v_bytes) (wd_Ta_goToNext D h h_bytes v_size out.1 out.2.1 out.2.2.1 out.2.2.2 v_bytes) :=
  kMv_of (own := "MountainFarms$Tape") (plainFor_of_name (by decide)) rfl rfl (fun p e s m args below meth c ls X hV hl => t_Ta_goToNext X hf hV hl)
set_option maxHeartbeats 2000000 in
set_option maxRecDepth 20000 in
theorem t_Ta_goToFirst {l : Launch} {p : Program} {e : Env} {s : State} {m : MethodId} {args : Array Value} {below : List Frame} {meth : Method} {c : Code} {D : kD} {wc0 : va_W} {h : Nat} {h_bytes : Nat} {v_size : Int32} {v_start : Int32} {v_end : Int32} {v_sort : Int32} {v_value : Int32} {v_bytes : Nat → Int32} {out : Int32 × Int32 × Int32 × Int32} (X : kX p m meth c s args D (va_A wc0 s.heap.size) b_Ta_goToFirst "MountainFarms$Tape" 1 none) (hf : f_Ta_goToFirst v_size v_start v_end v_sort v_value v_bytes = some out) {H : Heap} {locs : List Loc} (hV : kV D (va_A wc0 s.heap.size) s (wd_Ta_goToFirst D h h_bytes v_size v_start v_end v_sort v_value v_bytes) H locs) {ls : Array Slot} (hl : lv_has ls 1 [(0, .ref h)]) : W p l e { frames := 3, cells := 0, slots := 0, locals := 61 } s m args below meth c H locs 0 0 (MQ below (kQv D wc0 (wd_Ta_goToFirst D h h_bytes v_size out.1 out.2.1 out.2.2.1 out.2.2.2 v_bytes) s.heap.size) args s 0 0 (va_A wc0 s.heap.size)) (F0 m 0 ls []) := by
  unfold f_Ta_goToFirst at hf
  obtain ⟨hx, hb, -⟩ := id X
  refine lv_aload_n hx hb d_Ta_goToFirst_0 rfl (lv_at hl 0 rfl) ?_
  refine lv_iconst (v := 0) hx hb d_Ta_goToFirst_1 ic_0 ?_
  refine k_putv (ty := .int) (ws' := (wd_Ta_goToFirst D h h_bytes v_size v_start (0 : Int32) v_sort v_value v_bytes)) X hV 0 7 3 rfl rfl rfl gw_207 rfl rfl rfl rfl rfl rfl rfl d_Ta_goToFirst_2 (fun H locs hV => ?_)
  refine lv_aload_n hx hb d_Ta_goToFirst_5 rfl (lv_at hl 0 rfl) ?_
  obtain ⟨v_start_6, v_end_7, v_sort_8, v_value_9, hc_10, hf⟩ := kb4_some hf
  refine k_cvv (w1 := (wd_Ta_goToNext D h h_bytes v_size v_start_6 v_end_7 v_sort_8 v_value_9 v_bytes)) (ws' := (wd_Ta_goToFirst D h h_bytes v_size v_start_6 v_end_7 v_sort_8 v_value_9 v_bytes)) X hV hl.1 (c_Ta_goToNext D h h_bytes v_size v_start (0 : Int32) v_sort v_value v_bytes hc_10) fk_Ta_goToNext gw_653 rfl 0 7 rfl rfl [0, 1] [some 0, some 1] rfl rfl ⟨rfl, rfl, rfl, rfl, rfl, rfl, trivial⟩ rfl rfl rfl d_Ta_goToFirst_6 (fun H locs hV => ?_)
  have e_ := Option.some.inj hf
  subst e_
  exact k_vret X rfl hV d_Ta_goToFirst_9
set_option maxHeartbeats 2000000 in
set_option maxRecDepth 20000 in
theorem c_Ta_goToFirst {l : Launch} (D : kD) (h : Nat) (h_bytes : Nat) (v_size : Int32) (v_start : Int32) (v_end : Int32) (v_sort : Int32) (v_value : Int32) (v_bytes : Nat → Int32) {out : Int32 × Int32 × Int32 × Int32} (hf : f_Ta_goToFirst v_size v_start v_end v_sort v_value v_bytes = some out) : kMv l D y_Ta_goToFirst b_Ta_goToFirst 1 none { frames := 3, cells := 0, slots := 0, locals := 61 } [.ref h] (wd_Ta_goToFirst D h h_bytes v_size v_start v_end v_sort v_value v_bytes) (wd_Ta_goToFirst D h h_bytes v_size out.1 out.2.1 out.2.2.1 out.2.2.2 v_bytes) :=
  kMv_of (own := "MountainFarms$Tape") (plainFor_of_name (by decide)) rfl rfl (fun p e s m args below meth c ls X hV hl => t_Ta_goToFirst X hf hV hl)
set_option maxHeartbeats 2000000 in
set_option maxRecDepth 20000 in
theorem t_Tx_nameOf {l : Launch} {p : Program} {e : Env} {s : State} {m : MethodId} {args : Array Value} {below : List Frame} {meth : Method} {c : Code} {D : kD} {wc0 : va_W} {x0 : Int32} {out : Nat} (X : kX p m meth c s args D (va_A wc0 s.heap.size) b_Tx_nameOf "MountainFarms$SlopeText" 1 (some (.object "java/lang/String"))) (hf : f_Tx_nameOf x0 = some out) {H : Heap} {locs : List Loc} (hV : kV D (va_A wc0 s.heap.size) s (wd_Tx_nameOf D) H locs) {ls : Array Slot} (hl : lv_has ls 1 [(0, .int x0)]) : W p l e { frames := 0, cells := 0, slots := 0, locals := 0 } s m args below meth c H locs 0 0 (MQ below (kQr D wc0 (wd_Tx_nameOf D) s.heap.size (kAK D out)) args s 0 0 (va_A wc0 s.heap.size)) (F0 m 0 ls []) := by
  unfold f_Tx_nameOf at hf
  obtain ⟨hx, hb, -⟩ := id X
  refine lv_iload_n hx hb d_Tx_nameOf_0 rfl (lv_at hl 0 rfl) ?_
  by_cases c_6 : x0 = 0
  · replace hf := kifp c_6 hf
    refine k_tabIn (tgt := 36) (off := 35) X d_Tx_nameOf_1 c_6 (by decide) ?_
    refine k_ldcS X 0 rfl rfl rfl d_Tx_nameOf_36 ?_
    have e_ := Option.some.inj hf
    subst e_
    exact k_aret X rfl (Or.inl ⟨_, rfl⟩) hV d_Tx_nameOf_38
  replace hf := kifn c_6 hf
  by_cases c_7 : x0 = 1
  · replace hf := kifp c_7 hf
    refine k_tabIn (tgt := 39) (off := 38) X d_Tx_nameOf_1 c_7 (by decide) ?_
    refine k_ldcS X 1 rfl rfl rfl d_Tx_nameOf_39 ?_
    have e_ := Option.some.inj hf
    subst e_
    exact k_aret X rfl (Or.inl ⟨_, rfl⟩) hV d_Tx_nameOf_41
  replace hf := kifn c_7 hf
  by_cases c_8 : x0 = 2
  · replace hf := kifp c_8 hf
    refine k_tabIn (tgt := 42) (off := 41) X d_Tx_nameOf_1 c_8 (by decide) ?_
    refine k_ldcS X 2 rfl rfl rfl d_Tx_nameOf_42 ?_
    have e_ := Option.some.inj hf
    subst e_
    exact k_aret X rfl (Or.inl ⟨_, rfl⟩) hV d_Tx_nameOf_44
  replace hf := kifn c_8 hf
  by_cases c_9 : x0 = 3
  · replace hf := kifp c_9 hf
    refine k_tabIn (tgt := 45) (off := 44) X d_Tx_nameOf_1 c_9 (by decide) ?_
    refine k_ldcS X 3 rfl rfl rfl d_Tx_nameOf_45 ?_
    have e_ := Option.some.inj hf
    subst e_
    exact k_aret X rfl (Or.inl ⟨_, rfl⟩) hV d_Tx_nameOf_47
  replace hf := kifn c_9 hf
  by_cases c_10 : x0 = 4
  · replace hf := kifp c_10 hf
    refine k_tabIn (tgt := 48) (off := 47) X d_Tx_nameOf_1 c_10 (by decide) ?_
    refine k_ldcS X 4 rfl rfl rfl d_Tx_nameOf_48 ?_
    have e_ := Option.some.inj hf
    subst e_
    exact k_aret X rfl (Or.inl ⟨_, rfl⟩) hV d_Tx_nameOf_50
  replace hf := kifn c_10 hf
  have c_6e := lv_neT c_6 (a := 0) (by decide)
  have c_7e := lv_neT c_7 (a := 1) (by decide)
  have c_8e := lv_neT c_8 (a := 2) (by decide)
  have c_9e := lv_neT c_9 (a := 3) (by decide)
  have c_10e := lv_neT c_10 (a := 4) (by decide)
  refine lv_tableOut (tgt := 51) hx hb d_Tx_nameOf_1 (by omega) (by decide) ?_
  refine k_ldcS X 5 rfl rfl rfl d_Tx_nameOf_51 ?_
  have e_ := Option.some.inj hf
  subst e_
  exact k_aret X rfl (Or.inl ⟨_, rfl⟩) hV d_Tx_nameOf_53
set_option maxHeartbeats 2000000 in
set_option maxRecDepth 20000 in
theorem c_Tx_nameOf {l : Launch} (D : kD) (x0 : Int32) {out : Nat} (hf : f_Tx_nameOf x0 = some out) : kMr l D y_Tx_nameOf b_Tx_nameOf 1 (some (.object "java/lang/String")) { frames := 0, cells := 0, slots := 0, locals := 0 } [.int x0] (wd_Tx_nameOf D) (wd_Tx_nameOf D) (kAK D out) :=
  kMr_of (own := "MountainFarms$SlopeText") (plainFor_of_name (by decide)) rfl rfl (fun p e s m args below meth c ls X hV hl => t_Tx_nameOf X hf hV hl)
set_option maxHeartbeats 2000000 in
set_option maxRecDepth 20000 in
theorem tb_Ta_isAt_1 {l : Launch} {p : Program} {e : Env} {s : State} {m : MethodId} {args : Array Value} {below : List Frame} {meth : Method} {c : Code} {D : kD} {wc0 : va_W} {h : Nat} {h_bytes : Nat} {v_size : Int32} {v_start : Int32} {v_end : Int32} {v_sort : Int32} {v_value : Int32} {v_bytes : Nat → Int32} {w1 : Nat} {x2 : Int32} {rec1 : Int32 → Option (Int32)} {out : Int32} (X : kX p m meth c s args D (va_A wc0 s.heap.size) b_Ta_isAt "MountainFarms$Tape" 3 (some .boolean)) (hww1 : Nat.blt w1 nStr = true) (hrec1 : ∀ (x2 : Int32), rec1 x2 = some out → ∀ (H : Heap) (locs : List Loc) (ls : Array Slot), kV D (va_A wc0 s.heap.size) s (wd_Ta_isAt D h h_bytes v_size v_start v_end v_sort v_value v_bytes) H locs → lv_has ls 3 [(0, .ref h), (1, .ref (kAK D w1)), (2, .int x2)] → W p l e { frames := 4, cells := 0, slots := 0, locals := 85 } s m args below meth c H locs 0 0 (MQ below (kQi D wc0 (wd_Ta_isAt D h h_bytes v_size v_start v_end v_sort v_value v_bytes) s.heap.size out) args s 0 0 (va_A wc0 s.heap.size)) (F0 m 28 ls [])) (hf : fb_Ta_isAt_1 rec1 w1 v_size v_start v_bytes x2 = some out) {H : Heap} {locs : List Loc} (hV : kV D (va_A wc0 s.heap.size) s (wd_Ta_isAt D h h_bytes v_size v_start v_end v_sort v_value v_bytes) H locs) {ls : Array Slot} (hl : lv_has ls 3 [(0, .ref h), (1, .ref (kAK D w1)), (2, .int x2)]) : W p l e { frames := 4, cells := 0, slots := 0, locals := 85 } s m args below meth c H locs 0 0 (MQ below (kQi D wc0 (wd_Ta_isAt D h h_bytes v_size v_start v_end v_sort v_value v_bytes) s.heap.size out) args s 0 0 (va_A wc0 s.heap.size)) (F0 m 28 ls []) := by
  unfold fb_Ta_isAt_1 at hf
  obtain ⟨hx, hb, -⟩ := id X
  refine lv_iload_n hx hb d_Ta_isAt_28 rfl (lv_at hl 2 rfl) ?_
  refine lv_aload_n hx hb d_Ta_isAt_29 rfl (lv_at hl 1 rfl) ?_
  obtain ⟨h_21, hf⟩ := kchk hf
  obtain ⟨r_22, hc_23, hf⟩ := kb1_some hf
  refine k_cti X hV hl.1 w1 h_21 (c_Sg_length D w1 h_21 hc_23) fk_Sg_length rfl gw_693 rfl rfl rfl rfl d_Ta_isAt_30 (fun H locs hV => ?_)
  refine lv_icmp_ge (tgt := 76) hx hb d_Ta_isAt_33 (by decide) (fun c_24 => ?_) (fun c_24 => ?_)
  · replace hf := kifp c_24 hf
    refine lv_iconst (v := 1) hx hb d_Ta_isAt_76 ic_1 ?_
    have e_ := Option.some.inj hf
    subst e_
    exact k_iret (v := 1) X rfl hV nb1 d_Ta_isAt_77
  replace hf := kifn c_24 hf
  refine lv_aload_n hx hb d_Ta_isAt_36 rfl (lv_at hl 0 rfl) ?_
  refine k_get X hV 0 7 2 rfl rfl rfl gw_205 rfl rfl d_Ta_isAt_37 ?_
  refine lv_iload_n hx hb d_Ta_isAt_40 rfl (lv_at hl 2 rfl) ?_
  refine lv_iadd hx hb d_Ta_isAt_41 ?_
  refine lv_aload_n hx hb d_Ta_isAt_42 rfl (lv_at hl 0 rfl) ?_
  refine k_get X hV 0 7 1 rfl rfl rfl gw_203 rfl rfl d_Ta_isAt_43 ?_
  refine lv_icmp_ge (tgt := 76) hx hb d_Ta_isAt_46 (by decide) (fun c_25 => ?_) (fun c_25 => ?_)
  · replace hf := kifp c_25 hf
    refine lv_iconst (v := 1) hx hb d_Ta_isAt_76 ic_1 ?_
    have e_ := Option.some.inj hf
    subst e_
    exact k_iret (v := 1) X rfl hV nb1 d_Ta_isAt_77
  replace hf := kifn c_25 hf
  refine lv_aload_n hx hb d_Ta_isAt_49 rfl (lv_at hl 0 rfl) ?_
  refine k_get X hV 0 7 0 rfl rfl rfl gw_202 rfl rfl d_Ta_isAt_50 ?_
  refine lv_aload_n hx hb d_Ta_isAt_53 rfl (lv_at hl 0 rfl) ?_
  refine k_get X hV 0 7 2 rfl rfl rfl gw_205 rfl rfl d_Ta_isAt_54 ?_
  refine lv_iload_n hx hb d_Ta_isAt_57 rfl (lv_at hl 2 rfl) ?_
  refine lv_iadd hx hb d_Ta_isAt_58 ?_
  obtain ⟨h_26, hf⟩ := kidx_some hf
  refine k_iald X hV 1 rfl h_26 rfl d_Ta_isAt_59 ?_
  refine lv_aload_n hx hb d_Ta_isAt_60 rfl (lv_at hl 1 rfl) ?_
  refine lv_iload_n hx hb d_Ta_isAt_61 rfl (lv_at hl 2 rfl) ?_
  obtain ⟨h_27, hf⟩ := kchk hf
  obtain ⟨r_28, hc_29, hf⟩ := kb1_some hf
  refine k_cti X hV hl.1 w1 h_27 (c_Sg_charAt D w1 x2 h_27 hc_29) fk_Sg_charAt rfl gw_703 rfl rfl rfl rfl d_Ta_isAt_62 (fun H locs hV => ?_)
  refine lv_icmp_eq (tgt := 70) hx hb d_Ta_isAt_65 (by decide) (fun c_30 => ?_) (fun c_30 => ?_)
  · replace hf := kifp c_30 hf
    refine lv_iinc (v := (x2 + 1)) (lv' := [(2, .int (x2 + 1)), (0, .ref h), (1, .ref (kAK D w1))]) hx hb d_Ta_isAt_70 hl (k := 2) rfl rfl (by decide) rfl (fun ls hl => ?_)
    refine lv_goto (tgt := 28) hx hb d_Ta_isAt_73 (by decide) ?_
    exact hrec1 _ hf _ _ _ hV (lv_sub hl [1, 2, 0] rfl)
  replace hf := kifn c_30 hf
  refine lv_iconst (v := 0) hx hb d_Ta_isAt_68 ic_0 ?_
  have e_ := Option.some.inj hf
  subst e_
  exact k_iret (v := 0) X rfl hV nb0 d_Ta_isAt_69
set_option maxHeartbeats 2000000 in
set_option maxRecDepth 20000 in
theorem tl_Ta_isAt_1 {l : Launch} {p : Program} {e : Env} {s : State} {m : MethodId} {args : Array Value} {below : List Frame} {meth : Method} {c : Code} {D : kD} {wc0 : va_W} {h : Nat} {h_bytes : Nat} {v_size : Int32} {v_start : Int32} {v_end : Int32} {v_sort : Int32} {v_value : Int32} {v_bytes : Nat → Int32} {w1 : Nat} {out : Int32} (X : kX p m meth c s args D (va_A wc0 s.heap.size) b_Ta_isAt "MountainFarms$Tape" 3 (some .boolean)) (hww1 : Nat.blt w1 nStr = true) : ∀ (n : Nat) (x2 : Int32), fl_Ta_isAt_1 w1 v_size v_start v_bytes n x2 = some out → ∀ (H : Heap) (locs : List Loc) (ls : Array Slot), kV D (va_A wc0 s.heap.size) s (wd_Ta_isAt D h h_bytes v_size v_start v_end v_sort v_value v_bytes) H locs → lv_has ls 3 [(0, .ref h), (1, .ref (kAK D w1)), (2, .int x2)] → W p l e { frames := 4, cells := 0, slots := 0, locals := 85 } s m args below meth c H locs 0 0 (MQ below (kQi D wc0 (wd_Ta_isAt D h h_bytes v_size v_start v_end v_sort v_value v_bytes) s.heap.size out) args s 0 0 (va_A wc0 s.heap.size)) (F0 m 28 ls []) := by
  intro n
  induction n with
  | zero => intro x2 hf; exact knone hf
  | succ n ih => intro x2 hf H locs ls hV hl; exact tb_Ta_isAt_1 X hww1 ih hf hV hl
set_option maxHeartbeats 2000000 in
set_option maxRecDepth 20000 in
theorem t_Ta_isAt {l : Launch} {p : Program} {e : Env} {s : State} {m : MethodId} {args : Array Value} {below : List Frame} {meth : Method} {c : Code} {D : kD} {wc0 : va_W} {h : Nat} {h_bytes : Nat} {v_size : Int32} {v_start : Int32} {v_end : Int32} {v_sort : Int32} {v_value : Int32} {v_bytes : Nat → Int32} {w1 : Nat} {out : Int32} (X : kX p m meth c s args D (va_A wc0 s.heap.size) b_Ta_isAt "MountainFarms$Tape" 3 (some .boolean)) (hww1 : Nat.blt w1 nStr = true) (hf : f_Ta_isAt v_size v_start v_end v_sort v_bytes w1 = some out) {H : Heap} {locs : List Loc} (hV : kV D (va_A wc0 s.heap.size) s (wd_Ta_isAt D h h_bytes v_size v_start v_end v_sort v_value v_bytes) H locs) {ls : Array Slot} (hl : lv_has ls 3 [(0, .ref h), (1, .ref (kAK D w1))]) : W p l e { frames := 4, cells := 0, slots := 0, locals := 85 } s m args below meth c H locs 0 0 (MQ below (kQi D wc0 (wd_Ta_isAt D h h_bytes v_size v_start v_end v_sort v_value v_bytes) s.heap.size out) args s 0 0 (va_A wc0 s.heap.size)) (F0 m 0 ls []) := by
  unfold f_Ta_isAt at hf
  obtain ⟨hx, hb, -⟩ := id X
  refine lv_aload_n hx hb d_Ta_isAt_0 rfl (lv_at hl 0 rfl) ?_
  refine k_get X hV 0 7 4 rfl rfl rfl gw_208 rfl rfl d_Ta_isAt_1 ?_
  refine lv_iconst (v := 1) hx hb d_Ta_isAt_4 ic_1 ?_
  refine lv_icmp_ne (tgt := 24) hx hb d_Ta_isAt_5 (by decide) (fun c_16 => ?_) (fun c_16 => ?_)
  · replace hf := kifn c_16 hf
    refine lv_iconst (v := 0) hx hb d_Ta_isAt_24 ic_0 ?_
    have e_ := Option.some.inj hf
    subst e_
    exact k_iret (v := 0) X rfl hV nb0 d_Ta_isAt_25
  replace hf := kifp c_16 hf
  refine lv_aload_n hx hb d_Ta_isAt_8 rfl (lv_at hl 0 rfl) ?_
  refine k_get X hV 0 7 3 rfl rfl rfl gw_207 rfl rfl d_Ta_isAt_9 ?_
  refine lv_aload_n hx hb d_Ta_isAt_12 rfl (lv_at hl 0 rfl) ?_
  refine k_get X hV 0 7 2 rfl rfl rfl gw_205 rfl rfl d_Ta_isAt_13 ?_
  refine lv_isub hx hb d_Ta_isAt_16 ?_
  refine lv_aload_n hx hb d_Ta_isAt_17 rfl (lv_at hl 1 rfl) ?_
  obtain ⟨h_17, hf⟩ := kchk hf
  obtain ⟨r_18, hc_19, hf⟩ := kb1_some hf
  refine k_cti X hV hl.1 w1 h_17 (c_Sg_length D w1 h_17 hc_19) fk_Sg_length rfl gw_693 rfl rfl rfl rfl d_Ta_isAt_18 (fun H locs hV => ?_)
  refine lv_icmp_eq (tgt := 26) hx hb d_Ta_isAt_21 (by decide) (fun c_20 => ?_) (fun c_20 => ?_)
  · replace hf := kifp c_20 hf
    refine lv_iconst (v := 0) hx hb d_Ta_isAt_26 ic_0 ?_
    refine lv_istore_n (lv' := [(2, .int (0 : Int32)), (0, .ref h), (1, .ref (kAK D w1))]) hx hb d_Ta_isAt_27 rfl hl (by decide) rfl (fun ls hl => ?_)
    exact tl_Ta_isAt_1 X hww1 _ _ hf _ _ _ hV (lv_sub hl [1, 2, 0] rfl)
  replace hf := kifn c_20 hf
  refine lv_iconst (v := 0) hx hb d_Ta_isAt_24 ic_0 ?_
  have e_ := Option.some.inj hf
  subst e_
  exact k_iret (v := 0) X rfl hV nb0 d_Ta_isAt_25
set_option maxHeartbeats 2000000 in
set_option maxRecDepth 20000 in
theorem c_Ta_isAt {l : Launch} (D : kD) (h : Nat) (h_bytes : Nat) (v_size : Int32) (v_start : Int32) (v_end : Int32) (v_sort : Int32) (v_value : Int32) (v_bytes : Nat → Int32) (w1 : Nat) (hww1 : Nat.blt w1 nStr = true) {out : Int32} (hf : f_Ta_isAt v_size v_start v_end v_sort v_bytes w1 = some out) : kMi l D y_Ta_isAt b_Ta_isAt 3 (some .boolean) { frames := 4, cells := 0, slots := 0, locals := 85 } [.ref h, .ref (kAK D w1)] (wd_Ta_isAt D h h_bytes v_size v_start v_end v_sort v_value v_bytes) (wd_Ta_isAt D h h_bytes v_size v_start v_end v_sort v_value v_bytes) out :=
  kMi_of (own := "MountainFarms$Tape") (plainFor_of_name (by decide)) rfl rfl (fun p e s m args below meth c ls X hV hl => t_Ta_isAt X hww1 hf hV hl)
set_option maxHeartbeats 2000000 in
set_option maxRecDepth 20000 in
theorem tb_Tx_kindHere_1 {l : Launch} {p : Program} {e : Env} {s : State} {m : MethodId} {args : Array Value} {below : List Frame} {meth : Method} {c : Code} {D : kD} {wc0 : va_W} {h : Nat} {h_tape : Nat} {h_tape_bytes : Nat} {v_tape_size : Int32} {v_tape_start : Int32} {v_tape_end : Int32} {v_tape_sort : Int32} {v_tape_value : Int32} {v_tape_bytes : Nat → Int32} {x1 : Int32} {rec1 : Int32 → Option (Int32)} {out : Int32} (X : kX p m meth c s args D (va_A wc0 s.heap.size) b_Tx_kindHere "MountainFarms$SlopeText" 2 (some .int)) (hrec1 : ∀ (x1 : Int32), rec1 x1 = some out → ∀ (H : Heap) (locs : List Loc) (ls : Array Slot), kV D (va_A wc0 s.heap.size) s (wd_Tx_kindHere D h h_tape h_tape_bytes v_tape_size v_tape_start v_tape_end v_tape_sort v_tape_value v_tape_bytes) H locs → lv_has ls 2 [(0, .ref h), (1, .int x1)] → W p l e { frames := 5, cells := 0, slots := 0, locals := 107 } s m args below meth c H locs 0 0 (MQ below (kQi D wc0 (wd_Tx_kindHere D h h_tape h_tape_bytes v_tape_size v_tape_start v_tape_end v_tape_sort v_tape_value v_tape_bytes) s.heap.size out) args s 0 0 (va_A wc0 s.heap.size)) (F0 m 2 ls [])) (hf : fb_Tx_kindHere_1 rec1 v_tape_size v_tape_start v_tape_end v_tape_sort v_tape_bytes x1 = some out) {H : Heap} {locs : List Loc} (hV : kV D (va_A wc0 s.heap.size) s (wd_Tx_kindHere D h h_tape h_tape_bytes v_tape_size v_tape_start v_tape_end v_tape_sort v_tape_value v_tape_bytes) H locs) {ls : Array Slot} (hl : lv_has ls 2 [(0, .ref h), (1, .int x1)]) : W p l e { frames := 5, cells := 0, slots := 0, locals := 107 } s m args below meth c H locs 0 0 (MQ below (kQi D wc0 (wd_Tx_kindHere D h h_tape h_tape_bytes v_tape_size v_tape_start v_tape_end v_tape_sort v_tape_value v_tape_bytes) s.heap.size out) args s 0 0 (va_A wc0 s.heap.size)) (F0 m 2 ls []) := by
  unfold fb_Tx_kindHere_1 at hf
  obtain ⟨hx, hb, -⟩ := id X
  refine lv_iload_n hx hb d_Tx_kindHere_2 rfl (lv_at hl 1 rfl) ?_
  refine lv_bipush (v := 6) hx hb d_Tx_kindHere_3 bp_6 ?_
  refine lv_icmp_ge (tgt := 30) hx hb d_Tx_kindHere_5 (by decide) (fun c_8 => ?_) (fun c_8 => ?_)
  · replace hf := kifp c_8 hf
    refine lv_iconst (v := (-1)) hx hb d_Tx_kindHere_30 ic_m1 ?_
    have e_ := Option.some.inj hf
    subst e_
    exact k_iret X rfl hV rfl d_Tx_kindHere_31
  replace hf := kifn c_8 hf
  refine lv_aload_n hx hb d_Tx_kindHere_8 rfl (lv_at hl 0 rfl) ?_
  refine k_get X hV 0 6 0 rfl rfl rfl gw_223 rfl rfl d_Tx_kindHere_9 ?_
  refine lv_iload_n hx hb d_Tx_kindHere_12 rfl (lv_at hl 1 rfl) ?_
  obtain ⟨r_9, hc_10, hf⟩ := kb1_some hf
  refine k_csr (w1 := (wd_Tx_nameOf D)) (r := (kAK D r_9)) (ws' := (wd_Tx_kindHere D h h_tape h_tape_bytes v_tape_size v_tape_start v_tape_end v_tape_sort v_tape_value v_tape_bytes)) X hV hl.1 (c_Tx_nameOf D x1 hc_10) fk_Tx_nameOf gw_680 rfl [] [none, none, none] rfl rfl ⟨rfl, rfl, rfl, trivial⟩ rfl rfl rfl d_Tx_kindHere_13 (fun H locs hV => ?_)
  obtain ⟨h_11, hf⟩ := kchk hf
  obtain ⟨r_12, hc_13, hf⟩ := kb1_some hf
  refine k_cvi (w1 := (wd_Ta_isAt D h_tape h_tape_bytes v_tape_size v_tape_start v_tape_end v_tape_sort v_tape_value v_tape_bytes)) (r := r_12) (ws' := (wd_Tx_kindHere D h h_tape h_tape_bytes v_tape_size v_tape_start v_tape_end v_tape_sort v_tape_value v_tape_bytes)) X hV hl.1 (c_Ta_isAt D h_tape h_tape_bytes v_tape_size v_tape_start v_tape_end v_tape_sort v_tape_value v_tape_bytes r_9 h_11 hc_13) fk_Ta_isAt gw_689 rfl 1 7 rfl rfl [1, 2] [none, some 0, some 1] rfl rfl ⟨rfl, rfl, rfl, rfl, rfl, rfl, rfl, trivial⟩ rfl rfl rfl d_Tx_kindHere_16 (fun H locs hV => ?_)
  refine lv_if_eq (tgt := 24) hx hb d_Tx_kindHere_19 (by decide) (fun c_14 => ?_) (fun c_14 => ?_)
  · replace hf := kifp c_14 hf
    refine lv_iinc (v := (x1 + 1)) (lv' := [(1, .int (x1 + 1)), (0, .ref h)]) hx hb d_Tx_kindHere_24 hl (k := 1) rfl rfl (by decide) rfl (fun ls hl => ?_)
    refine lv_goto (tgt := 2) hx hb d_Tx_kindHere_27 (by decide) ?_
    exact hrec1 _ hf _ _ _ hV (lv_sub hl [1, 0] rfl)
  replace hf := kifn c_14 hf
  refine lv_iload_n hx hb d_Tx_kindHere_22 rfl (lv_at hl 1 rfl) ?_
  have e_ := Option.some.inj hf
  subst e_
  exact k_iret X rfl hV rfl d_Tx_kindHere_23
set_option maxHeartbeats 2000000 in
set_option maxRecDepth 20000 in
theorem tl_Tx_kindHere_1 {l : Launch} {p : Program} {e : Env} {s : State} {m : MethodId} {args : Array Value} {below : List Frame} {meth : Method} {c : Code} {D : kD} {wc0 : va_W} {h : Nat} {h_tape : Nat} {h_tape_bytes : Nat} {v_tape_size : Int32} {v_tape_start : Int32} {v_tape_end : Int32} {v_tape_sort : Int32} {v_tape_value : Int32} {v_tape_bytes : Nat → Int32} {out : Int32} (X : kX p m meth c s args D (va_A wc0 s.heap.size) b_Tx_kindHere "MountainFarms$SlopeText" 2 (some .int)) : ∀ (n : Nat) (x1 : Int32), fl_Tx_kindHere_1 v_tape_size v_tape_start v_tape_end v_tape_sort v_tape_bytes n x1 = some out → ∀ (H : Heap) (locs : List Loc) (ls : Array Slot), kV D (va_A wc0 s.heap.size) s (wd_Tx_kindHere D h h_tape h_tape_bytes v_tape_size v_tape_start v_tape_end v_tape_sort v_tape_value v_tape_bytes) H locs → lv_has ls 2 [(0, .ref h), (1, .int x1)] → W p l e { frames := 5, cells := 0, slots := 0, locals := 107 } s m args below meth c H locs 0 0 (MQ below (kQi D wc0 (wd_Tx_kindHere D h h_tape h_tape_bytes v_tape_size v_tape_start v_tape_end v_tape_sort v_tape_value v_tape_bytes) s.heap.size out) args s 0 0 (va_A wc0 s.heap.size)) (F0 m 2 ls []) := by
  intro n
  induction n with
  | zero => intro x1 hf; exact knone hf
  | succ n ih => intro x1 hf H locs ls hV hl; exact tb_Tx_kindHere_1 X ih hf hV hl
set_option maxHeartbeats 2000000 in
set_option maxRecDepth 20000 in
theorem t_Tx_kindHere {l : Launch} {p : Program} {e : Env} {s : State} {m : MethodId} {args : Array Value} {below : List Frame} {meth : Method} {c : Code} {D : kD} {wc0 : va_W} {h : Nat} {h_tape : Nat} {h_tape_bytes : Nat} {v_tape_size : Int32} {v_tape_start : Int32} {v_tape_end : Int32} {v_tape_sort : Int32} {v_tape_value : Int32} {v_tape_bytes : Nat → Int32} {out : Int32} (X : kX p m meth c s args D (va_A wc0 s.heap.size) b_Tx_kindHere "MountainFarms$SlopeText" 2 (some .int)) (hf : f_Tx_kindHere v_tape_size v_tape_start v_tape_end v_tape_sort v_tape_bytes = some out) {H : Heap} {locs : List Loc} (hV : kV D (va_A wc0 s.heap.size) s (wd_Tx_kindHere D h h_tape h_tape_bytes v_tape_size v_tape_start v_tape_end v_tape_sort v_tape_value v_tape_bytes) H locs) {ls : Array Slot} (hl : lv_has ls 2 [(0, .ref h)]) : W p l e { frames := 5, cells := 0, slots := 0, locals := 107 } s m args below meth c H locs 0 0 (MQ below (kQi D wc0 (wd_Tx_kindHere D h h_tape h_tape_bytes v_tape_size v_tape_start v_tape_end v_tape_sort v_tape_value v_tape_bytes) s.heap.size out) args s 0 0 (va_A wc0 s.heap.size)) (F0 m 0 ls []) := by
  unfold f_Tx_kindHere at hf
  obtain ⟨hx, hb, -⟩ := id X
  refine lv_iconst (v := 0) hx hb d_Tx_kindHere_0 ic_0 ?_
  refine lv_istore_n (lv' := [(1, .int (0 : Int32)), (0, .ref h)]) hx hb d_Tx_kindHere_1 rfl hl (by decide) rfl (fun ls hl => ?_)
  exact tl_Tx_kindHere_1 X _ _ hf _ _ _ hV (lv_sub hl [1, 0] rfl)
set_option maxHeartbeats 2000000 in
set_option maxRecDepth 20000 in
theorem c_Tx_kindHere {l : Launch} (D : kD) (h : Nat) (h_tape : Nat) (h_tape_bytes : Nat) (v_tape_size : Int32) (v_tape_start : Int32) (v_tape_end : Int32) (v_tape_sort : Int32) (v_tape_value : Int32) (v_tape_bytes : Nat → Int32) {out : Int32} (hf : f_Tx_kindHere v_tape_size v_tape_start v_tape_end v_tape_sort v_tape_bytes = some out) : kMi l D y_Tx_kindHere b_Tx_kindHere 2 (some .int) { frames := 5, cells := 0, slots := 0, locals := 107 } [.ref h] (wd_Tx_kindHere D h h_tape h_tape_bytes v_tape_size v_tape_start v_tape_end v_tape_sort v_tape_value v_tape_bytes) (wd_Tx_kindHere D h h_tape h_tape_bytes v_tape_size v_tape_start v_tape_end v_tape_sort v_tape_value v_tape_bytes) out :=
  kMi_of (own := "MountainFarms$SlopeText") (plainFor_of_name (by decide)) rfl rfl (fun p e s m args below meth c ls X hV hl => t_Tx_kindHere X hf hV hl)
set_option maxHeartbeats 2000000 in
set_option maxRecDepth 20000 in
theorem t_Ta_numberUpTo {l : Launch} {p : Program} {e : Env} {s : State} {m : MethodId} {args : Array Value} {below : List Frame} {meth : Method} {c : Code} {D : kD} {wc0 : va_W} {h : Nat} {h_bytes : Nat} {v_size : Int32} {v_start : Int32} {v_end : Int32} {v_sort : Int32} {v_value : Int32} {x1 : Int32} {out : Int32} (X : kX p m meth c s args D (va_A wc0 s.heap.size) b_Ta_numberUpTo "MountainFarms$Tape" 2 (some .int)) (hf : f_Ta_numberUpTo v_sort v_value x1 = some out) {H : Heap} {locs : List Loc} (hV : kV D (va_A wc0 s.heap.size) s (wd_Ta_numberUpTo D h h_bytes v_size v_start v_end v_sort v_value) H locs) {ls : Array Slot} (hl : lv_has ls 2 [(0, .ref h), (1, .int x1)]) : W p l e { frames := 0, cells := 0, slots := 0, locals := 0 } s m args below meth c H locs 0 0 (MQ below (kQi D wc0 (wd_Ta_numberUpTo D h h_bytes v_size v_start v_end v_sort v_value) s.heap.size out) args s 0 0 (va_A wc0 s.heap.size)) (F0 m 0 ls []) := by
  unfold f_Ta_numberUpTo at hf
  obtain ⟨hx, hb, -⟩ := id X
  refine lv_aload_n hx hb d_Ta_numberUpTo_0 rfl (lv_at hl 0 rfl) ?_
  refine k_get X hV 0 7 4 rfl rfl rfl gw_208 rfl rfl d_Ta_numberUpTo_1 ?_
  refine lv_iconst (v := 2) hx hb d_Ta_numberUpTo_4 ic_2 ?_
  refine lv_icmp_ne (tgt := 23) hx hb d_Ta_numberUpTo_5 (by decide) (fun c_3 => ?_) (fun c_3 => ?_)
  · replace hf := kifn c_3 hf
    refine lv_iconst (v := (-1)) hx hb d_Ta_numberUpTo_23 ic_m1 ?_
    have e_ := Option.some.inj hf
    subst e_
    exact k_iret X rfl hV rfl d_Ta_numberUpTo_24
  replace hf := kifp c_3 hf
  refine lv_aload_n hx hb d_Ta_numberUpTo_8 rfl (lv_at hl 0 rfl) ?_
  refine k_get X hV 0 7 5 rfl rfl rfl gw_209 rfl rfl d_Ta_numberUpTo_9 ?_
  refine lv_iload_n hx hb d_Ta_numberUpTo_12 rfl (lv_at hl 1 rfl) ?_
  refine lv_icmp_gt (tgt := 23) hx hb d_Ta_numberUpTo_13 (by decide) (fun c_4 => ?_) (fun c_4 => ?_)
  · replace hf := kifp c_4 hf
    refine lv_iconst (v := (-1)) hx hb d_Ta_numberUpTo_23 ic_m1 ?_
    have e_ := Option.some.inj hf
    subst e_
    exact k_iret X rfl hV rfl d_Ta_numberUpTo_24
  replace hf := kifn c_4 hf
  refine lv_aload_n hx hb d_Ta_numberUpTo_16 rfl (lv_at hl 0 rfl) ?_
  refine k_get X hV 0 7 5 rfl rfl rfl gw_209 rfl rfl d_Ta_numberUpTo_17 ?_
  refine lv_goto (tgt := 24) hx hb d_Ta_numberUpTo_20 (by decide) ?_
  have e_ := Option.some.inj hf
  subst e_
  exact k_iret X rfl hV rfl d_Ta_numberUpTo_24
set_option maxHeartbeats 2000000 in
set_option maxRecDepth 20000 in
theorem c_Ta_numberUpTo {l : Launch} (D : kD) (h : Nat) (h_bytes : Nat) (v_size : Int32) (v_start : Int32) (v_end : Int32) (v_sort : Int32) (v_value : Int32) (x1 : Int32) {out : Int32} (hf : f_Ta_numberUpTo v_sort v_value x1 = some out) : kMi l D y_Ta_numberUpTo b_Ta_numberUpTo 2 (some .int) { frames := 0, cells := 0, slots := 0, locals := 0 } [.ref h, .int x1] (wd_Ta_numberUpTo D h h_bytes v_size v_start v_end v_sort v_value) (wd_Ta_numberUpTo D h h_bytes v_size v_start v_end v_sort v_value) out :=
  kMi_of (own := "MountainFarms$Tape") (plainFor_of_name (by decide)) rfl rfl (fun p e s m args below meth c ls X hV hl => t_Ta_numberUpTo X hf hV hl)
set_option maxHeartbeats 2000000 in
set_option maxRecDepth 20000 in
theorem t_Tx_readFarm_1 {l : Launch} {p : Program} {e : Env} {s : State} {m : MethodId} {args : Array Value} {below : List Frame} {meth : Method} {c : Code} {D : kD} {wc0 : va_W} {h : Nat} {h_tape : Nat} {h_tape_bytes : Nat} {h_p2 : Nat} {h_p2_kinds : Nat} {h_p2_cells : Nat} {h_p2_owners : Nat} {h_p2_purses : Nat} {v_tape_size : Int32} {v_tape_start : Int32} {v_tape_end : Int32} {v_tape_sort : Int32} {v_tape_value : Int32} {v_tape_bytes : Nat → Int32} {v_p2_number : Int32} {v_p2_burnt : Int32} {v_p2_kinds : Nat → Int32} {v_p2_cells : Nat → Int32} {v_p2_owners : Nat → Int32} {v_p2_purses : Nat → Int32} {x1 : Int32} {x3 : Int32} {x4 : Int32} {out : Int32 × Int32 × Int32 × Int32 × Int32 × Int32 × (Nat → Int32) × (Nat → Int32) × (Nat → Int32) × (Nat → Int32)} (X : kX p m meth c s args D (va_A wc0 s.heap.size) b_Tx_readFarm "MountainFarms$SlopeText" 5 (some .boolean)) (hf : f_Tx_readFarm_1 x1 x3 x4 v_tape_start v_tape_end v_tape_sort v_tape_value v_p2_number v_p2_kinds v_p2_cells v_p2_owners v_p2_purses = some out) {H : Heap} {locs : List Loc} (hV : kV D (va_A wc0 s.heap.size) s (wd_Tx_readFarm D h h_tape h_tape_bytes h_p2 h_p2_kinds h_p2_cells h_p2_owners h_p2_purses v_tape_size v_tape_start v_tape_end v_tape_sort v_tape_value v_tape_bytes v_p2_number v_p2_burnt v_p2_kinds v_p2_cells v_p2_owners v_p2_purses) H locs) {ls : Array Slot} (hl : lv_has ls 5 [(1, .int x1), (2, .ref h_p2), (3, .int x3), (4, .int x4)]) : W p l e { frames := 5, cells := 0, slots := 0, locals := 107 } s m args below meth c H locs 0 0 (MQ below (kQi D wc0 (wd_Tx_readFarm D h h_tape h_tape_bytes h_p2 h_p2_kinds h_p2_cells h_p2_owners h_p2_purses v_tape_size out.2.1 out.2.2.1 out.2.2.2.1 out.2.2.2.2.1 v_tape_bytes out.2.2.2.2.2.1 v_p2_burnt out.2.2.2.2.2.2.1 out.2.2.2.2.2.2.2.1 out.2.2.2.2.2.2.2.2.1 out.2.2.2.2.2.2.2.2.2) s.heap.size out.1) args s 0 0 (va_A wc0 s.heap.size)) (F0 m 114 ls []) := by
  unfold f_Tx_readFarm_1 at hf
  obtain ⟨hx, hb, -⟩ := id X
  refine lv_aload_n hx hb d_Tx_readFarm_114 rfl (lv_at hl 1 rfl) ?_
  refine lv_iload_n hx hb d_Tx_readFarm_115 rfl (lv_at hl 0 rfl) ?_
  refine lv_iload_n hx hb d_Tx_readFarm_116 rfl (lv_at hl 2 rfl) ?_
  refine lv_iload hx hb d_Tx_readFarm_117 (lv_at hl 3 rfl) ?_
  obtain ⟨r_94, v_p2_number_95, v_p2_kinds_96, v_p2_cells_97, v_p2_owners_98, v_p2_purses_99, hc_100, hf⟩ := kb6_some hf
  refine k_cvi (w1 := (wd_Fa_add D h_p2 h_p2_kinds h_p2_cells h_p2_owners h_p2_purses v_p2_number_95 v_p2_burnt v_p2_kinds_96 v_p2_cells_97 v_p2_owners_98 v_p2_purses_99)) (r := r_94) (ws' := (wd_Tx_readFarm D h h_tape h_tape_bytes h_p2 h_p2_kinds h_p2_cells h_p2_owners h_p2_purses v_tape_size v_tape_start v_tape_end v_tape_sort v_tape_value v_tape_bytes v_p2_number_95 v_p2_burnt v_p2_kinds_96 v_p2_cells_97 v_p2_owners_98 v_p2_purses_99)) X hV hl.1 (c_Fa_add D h_p2 h_p2_kinds h_p2_cells h_p2_owners h_p2_purses v_p2_number v_p2_burnt v_p2_kinds v_p2_cells v_p2_owners v_p2_purses x1 x3 x4 hc_100) fk_Fa_add gw_754 rfl 3 0 rfl rfl [3, 4, 5, 6, 7] [none, none, none, some 0, some 1, some 2, some 3, some 4] rfl rfl ⟨rfl, rfl, rfl, rfl, rfl, rfl, rfl, rfl, rfl, rfl, rfl, rfl, rfl, rfl, rfl, rfl, rfl, rfl, trivial⟩ rfl rfl rfl d_Tx_readFarm_119 (fun H locs hV => ?_)
  refine lv_pop hx hb d_Tx_readFarm_122 rfl ?_
  refine lv_iconst (v := 1) hx hb d_Tx_readFarm_123 ic_1 ?_
  have e_ := Option.some.inj hf
  subst e_
  exact k_iret (v := 1) X rfl hV nb1 d_Tx_readFarm_124
set_option maxHeartbeats 2000000 in
set_option maxRecDepth 20000 in
theorem t_Tx_readFarm {l : Launch} {p : Program} {e : Env} {s : State} {m : MethodId} {args : Array Value} {below : List Frame} {meth : Method} {c : Code} {D : kD} {wc0 : va_W} {h : Nat} {h_tape : Nat} {h_tape_bytes : Nat} {h_p2 : Nat} {h_p2_kinds : Nat} {h_p2_cells : Nat} {h_p2_owners : Nat} {h_p2_purses : Nat} {v_tape_size : Int32} {v_tape_start : Int32} {v_tape_end : Int32} {v_tape_sort : Int32} {v_tape_value : Int32} {v_tape_bytes : Nat → Int32} {v_p2_number : Int32} {v_p2_burnt : Int32} {v_p2_kinds : Nat → Int32} {v_p2_cells : Nat → Int32} {v_p2_owners : Nat → Int32} {v_p2_purses : Nat → Int32} {x1 : Int32} {out : Int32 × Int32 × Int32 × Int32 × Int32 × Int32 × (Nat → Int32) × (Nat → Int32) × (Nat → Int32) × (Nat → Int32)} (X : kX p m meth c s args D (va_A wc0 s.heap.size) b_Tx_readFarm "MountainFarms$SlopeText" 5 (some .boolean)) (hf : f_Tx_readFarm v_tape_size v_tape_start v_tape_end v_tape_sort v_tape_value v_tape_bytes v_p2_number v_p2_kinds v_p2_cells v_p2_owners v_p2_purses x1 = some out) {H : Heap} {locs : List Loc} (hV : kV D (va_A wc0 s.heap.size) s (wd_Tx_readFarm D h h_tape h_tape_bytes h_p2 h_p2_kinds h_p2_cells h_p2_owners h_p2_purses v_tape_size v_tape_start v_tape_end v_tape_sort v_tape_value v_tape_bytes v_p2_number v_p2_burnt v_p2_kinds v_p2_cells v_p2_owners v_p2_purses) H locs) {ls : Array Slot} (hl : lv_has ls 5 [(0, .ref h), (1, .int x1), (2, .ref h_p2)]) : W p l e { frames := 5, cells := 0, slots := 0, locals := 107 } s m args below meth c H locs 0 0 (MQ below (kQi D wc0 (wd_Tx_readFarm D h h_tape h_tape_bytes h_p2 h_p2_kinds h_p2_cells h_p2_owners h_p2_purses v_tape_size out.2.1 out.2.2.1 out.2.2.2.1 out.2.2.2.2.1 v_tape_bytes out.2.2.2.2.2.1 v_p2_burnt out.2.2.2.2.2.2.1 out.2.2.2.2.2.2.2.1 out.2.2.2.2.2.2.2.2.1 out.2.2.2.2.2.2.2.2.2) s.heap.size out.1) args s 0 0 (va_A wc0 s.heap.size)) (F0 m 0 ls []) := by
  unfold f_Tx_readFarm at hf
  obtain ⟨hx, hb, -⟩ := id X
  refine lv_aload_n hx hb d_Tx_readFarm_0 rfl (lv_at hl 2 rfl) ?_
  obtain ⟨r_51, hc_52, hf⟩ := kb1_some hf
  refine k_cvi (w1 := (wd_Fa_isFull D h_p2 h_p2_kinds h_p2_cells h_p2_owners h_p2_purses v_p2_number v_p2_burnt)) (r := r_51) (ws' := (wd_Tx_readFarm D h h_tape h_tape_bytes h_p2 h_p2_kinds h_p2_cells h_p2_owners h_p2_purses v_tape_size v_tape_start v_tape_end v_tape_sort v_tape_value v_tape_bytes v_p2_number v_p2_burnt v_p2_kinds v_p2_cells v_p2_owners v_p2_purses)) X hV hl.1 (c_Fa_isFull D h_p2 h_p2_kinds h_p2_cells h_p2_owners h_p2_purses v_p2_number v_p2_burnt hc_52) fk_Fa_isFull gw_745 rfl 3 0 rfl rfl [3] [none, none, none, some 0, none, none, none, none] rfl rfl ⟨rfl, rfl, rfl, rfl, rfl, rfl, rfl, rfl, rfl, rfl, trivial⟩ rfl rfl rfl d_Tx_readFarm_1 (fun H locs hV => ?_)
  refine lv_if_eq (tgt := 9) hx hb d_Tx_readFarm_4 (by decide) (fun c_53 => ?_) (fun c_53 => ?_)
  · replace hf := kifp c_53 hf
    refine lv_aload_n hx hb d_Tx_readFarm_9 rfl (lv_at hl 0 rfl) ?_
    refine k_get X hV 0 6 0 rfl rfl rfl gw_223 rfl rfl d_Tx_readFarm_10 ?_
    obtain ⟨v_tape_start_54, v_tape_end_55, v_tape_sort_56, v_tape_value_57, hc_58, hf⟩ := kb4_some hf
    refine k_cvv (w1 := (wd_Ta_goToNext D h_tape h_tape_bytes v_tape_size v_tape_start_54 v_tape_end_55 v_tape_sort_56 v_tape_value_57 v_tape_bytes)) (ws' := (wd_Tx_readFarm D h h_tape h_tape_bytes h_p2 h_p2_kinds h_p2_cells h_p2_owners h_p2_purses v_tape_size v_tape_start_54 v_tape_end_55 v_tape_sort_56 v_tape_value_57 v_tape_bytes v_p2_number v_p2_burnt v_p2_kinds v_p2_cells v_p2_owners v_p2_purses)) X hV hl.1 (c_Ta_goToNext D h_tape h_tape_bytes v_tape_size v_tape_start v_tape_end v_tape_sort v_tape_value v_tape_bytes hc_58) fk_Ta_goToNext gw_746 rfl 1 7 rfl rfl [1, 2] [none, some 0, some 1, none, none, none, none, none] rfl rfl ⟨rfl, rfl, rfl, rfl, rfl, rfl, rfl, rfl, rfl, rfl, rfl, rfl, trivial⟩ rfl rfl rfl d_Tx_readFarm_13 (fun H locs hV => ?_)
    refine lv_aload_n hx hb d_Tx_readFarm_16 rfl (lv_at hl 0 rfl) ?_
    refine k_get X hV 0 6 0 rfl rfl rfl gw_223 rfl rfl d_Tx_readFarm_17 ?_
    refine k_ldcS X 6 rfl rfl rfl d_Tx_readFarm_20 ?_
    obtain ⟨r_59, hc_60, hf⟩ := kb1_some hf
    refine k_cvi (w1 := (wd_Ta_isAt D h_tape h_tape_bytes v_tape_size v_tape_start_54 v_tape_end_55 v_tape_sort_56 v_tape_value_57 v_tape_bytes)) (r := r_59) (ws' := (wd_Tx_readFarm D h h_tape h_tape_bytes h_p2 h_p2_kinds h_p2_cells h_p2_owners h_p2_purses v_tape_size v_tape_start_54 v_tape_end_55 v_tape_sort_56 v_tape_value_57 v_tape_bytes v_p2_number v_p2_burnt v_p2_kinds v_p2_cells v_p2_owners v_p2_purses)) X hV hl.1 (c_Ta_isAt D h_tape h_tape_bytes v_tape_size v_tape_start_54 v_tape_end_55 v_tape_sort_56 v_tape_value_57 v_tape_bytes 6 rfl hc_60) fk_Ta_isAt gw_689 rfl 1 7 rfl rfl [1, 2] [none, some 0, some 1, none, none, none, none, none] rfl rfl ⟨rfl, rfl, rfl, rfl, rfl, rfl, rfl, rfl, rfl, rfl, rfl, rfl, trivial⟩ rfl rfl rfl d_Tx_readFarm_22 (fun H locs hV => ?_)
    refine lv_if_ne (tgt := 30) hx hb d_Tx_readFarm_25 (by decide) (fun c_61 => ?_) (fun c_61 => ?_)
    · replace hf := kifn c_61 hf
      refine lv_aload_n hx hb d_Tx_readFarm_30 rfl (lv_at hl 0 rfl) ?_
      refine k_get X hV 0 6 0 rfl rfl rfl gw_223 rfl rfl d_Tx_readFarm_31 ?_
      obtain ⟨v_tape_start_62, v_tape_end_63, v_tape_sort_64, v_tape_value_65, hc_66, hf⟩ := kb4_some hf
      refine k_cvv (w1 := (wd_Ta_goToNext D h_tape h_tape_bytes v_tape_size v_tape_start_62 v_tape_end_63 v_tape_sort_64 v_tape_value_65 v_tape_bytes)) (ws' := (wd_Tx_readFarm D h h_tape h_tape_bytes h_p2 h_p2_kinds h_p2_cells h_p2_owners h_p2_purses v_tape_size v_tape_start_62 v_tape_end_63 v_tape_sort_64 v_tape_value_65 v_tape_bytes v_p2_number v_p2_burnt v_p2_kinds v_p2_cells v_p2_owners v_p2_purses)) X hV hl.1 (c_Ta_goToNext D h_tape h_tape_bytes v_tape_size v_tape_start_54 v_tape_end_55 v_tape_sort_56 v_tape_value_57 v_tape_bytes hc_66) fk_Ta_goToNext gw_746 rfl 1 7 rfl rfl [1, 2] [none, some 0, some 1, none, none, none, none, none] rfl rfl ⟨rfl, rfl, rfl, rfl, rfl, rfl, rfl, rfl, rfl, rfl, rfl, rfl, trivial⟩ rfl rfl rfl d_Tx_readFarm_34 (fun H locs hV => ?_)
      refine lv_aload_n hx hb d_Tx_readFarm_37 rfl (lv_at hl 0 rfl) ?_
      refine k_get X hV 0 6 0 rfl rfl rfl gw_223 rfl rfl d_Tx_readFarm_38 ?_
      refine lv_bipush (v := 35) hx hb d_Tx_readFarm_41 bp_35 ?_
      obtain ⟨r_67, hc_68, hf⟩ := kb1_some hf
      refine k_cvi (w1 := (wd_Ta_numberUpTo D h_tape h_tape_bytes v_tape_size v_tape_start_62 v_tape_end_63 v_tape_sort_64 v_tape_value_65)) (r := r_67) (ws' := (wd_Tx_readFarm D h h_tape h_tape_bytes h_p2 h_p2_kinds h_p2_cells h_p2_owners h_p2_purses v_tape_size v_tape_start_62 v_tape_end_63 v_tape_sort_64 v_tape_value_65 v_tape_bytes v_p2_number v_p2_burnt v_p2_kinds v_p2_cells v_p2_owners v_p2_purses)) X hV hl.1 (c_Ta_numberUpTo D h_tape h_tape_bytes v_tape_size v_tape_start_62 v_tape_end_63 v_tape_sort_64 v_tape_value_65 (35 : Int32) hc_68) fk_Ta_numberUpTo gw_748 rfl 1 7 rfl rfl [1] [none, some 0, none, none, none, none, none, none] rfl rfl ⟨rfl, rfl, rfl, rfl, rfl, rfl, rfl, rfl, rfl, rfl, trivial⟩ rfl rfl rfl d_Tx_readFarm_43 (fun H locs hV => ?_)
      refine lv_istore_n (lv' := [(3, .int r_67), (0, .ref h), (1, .int x1), (2, .ref h_p2)]) hx hb d_Tx_readFarm_46 rfl hl (by decide) rfl (fun ls hl => ?_)
      refine lv_iload_n hx hb d_Tx_readFarm_47 rfl (lv_at hl 0 rfl) ?_
      refine lv_if_lt (tgt := 59) hx hb d_Tx_readFarm_48 (by decide) (fun c_69 => ?_) (fun c_69 => ?_)
      · replace hf := kifp c_69 hf
        refine lv_iconst (v := 0) hx hb d_Tx_readFarm_59 ic_0 ?_
        have e_ := Option.some.inj hf
        subst e_
        exact k_iret (v := 0) X rfl hV nb0 d_Tx_readFarm_60
      replace hf := kifn c_69 hf
      refine lv_aload_n hx hb d_Tx_readFarm_51 rfl (lv_at hl 3 rfl) ?_
      refine lv_iload_n hx hb d_Tx_readFarm_52 rfl (lv_at hl 0 rfl) ?_
      obtain ⟨r_70, hc_71, hf⟩ := kb1_some hf
      refine k_cvi (w1 := (wd_Fa_farmOn D h_p2 h_p2_kinds h_p2_cells h_p2_owners h_p2_purses v_p2_number v_p2_burnt v_p2_cells)) (r := r_70) (ws' := (wd_Tx_readFarm D h h_tape h_tape_bytes h_p2 h_p2_kinds h_p2_cells h_p2_owners h_p2_purses v_tape_size v_tape_start_62 v_tape_end_63 v_tape_sort_64 v_tape_value_65 v_tape_bytes v_p2_number v_p2_burnt v_p2_kinds v_p2_cells v_p2_owners v_p2_purses)) X hV hl.1 (c_Fa_farmOn D h_p2 h_p2_kinds h_p2_cells h_p2_owners h_p2_purses v_p2_number v_p2_burnt v_p2_cells r_67 hc_71) fk_Fa_farmOn gw_752 rfl 3 0 rfl rfl [3, 5] [none, none, none, some 0, none, some 1, none, none] rfl rfl ⟨rfl, rfl, rfl, rfl, rfl, rfl, rfl, rfl, rfl, rfl, rfl, rfl, trivial⟩ rfl rfl rfl d_Tx_readFarm_53 (fun H locs hV => ?_)
      refine lv_if_lt (tgt := 61) hx hb d_Tx_readFarm_56 (by decide) (fun c_72 => ?_) (fun c_72 => ?_)
      · replace hf := kifp c_72 hf
        refine lv_aload_n hx hb d_Tx_readFarm_61 rfl (lv_at hl 1 rfl) ?_
        refine k_get X hV 0 6 0 rfl rfl rfl gw_223 rfl rfl d_Tx_readFarm_62 ?_
        obtain ⟨v_tape_start_73, v_tape_end_74, v_tape_sort_75, v_tape_value_76, hc_77, hf⟩ := kb4_some hf
        refine k_cvv (w1 := (wd_Ta_goToNext D h_tape h_tape_bytes v_tape_size v_tape_start_73 v_tape_end_74 v_tape_sort_75 v_tape_value_76 v_tape_bytes)) (ws' := (wd_Tx_readFarm D h h_tape h_tape_bytes h_p2 h_p2_kinds h_p2_cells h_p2_owners h_p2_purses v_tape_size v_tape_start_73 v_tape_end_74 v_tape_sort_75 v_tape_value_76 v_tape_bytes v_p2_number v_p2_burnt v_p2_kinds v_p2_cells v_p2_owners v_p2_purses)) X hV hl.1 (c_Ta_goToNext D h_tape h_tape_bytes v_tape_size v_tape_start_62 v_tape_end_63 v_tape_sort_64 v_tape_value_65 v_tape_bytes hc_77) fk_Ta_goToNext gw_746 rfl 1 7 rfl rfl [1, 2] [none, some 0, some 1, none, none, none, none, none] rfl rfl ⟨rfl, rfl, rfl, rfl, rfl, rfl, rfl, rfl, rfl, rfl, rfl, rfl, trivial⟩ rfl rfl rfl d_Tx_readFarm_65 (fun H locs hV => ?_)
        refine lv_iconst (v := 0) hx hb d_Tx_readFarm_68 ic_0 ?_
        refine lv_istore (lv' := [(4, .int (0 : Int32)), (3, .int r_67), (0, .ref h), (1, .int x1), (2, .ref h_p2)]) hx hb d_Tx_readFarm_69 hl (by decide) rfl (fun ls hl => ?_)
        refine lv_aload_n hx hb d_Tx_readFarm_71 rfl (lv_at hl 2 rfl) ?_
        refine k_get X hV 0 6 0 rfl rfl rfl gw_223 rfl rfl d_Tx_readFarm_72 ?_
        refine k_ldcS X 7 rfl rfl rfl d_Tx_readFarm_75 ?_
        obtain ⟨r_78, hc_79, hf⟩ := kb1_some hf
        refine k_cvi (w1 := (wd_Ta_isAt D h_tape h_tape_bytes v_tape_size v_tape_start_73 v_tape_end_74 v_tape_sort_75 v_tape_value_76 v_tape_bytes)) (r := r_78) (ws' := (wd_Tx_readFarm D h h_tape h_tape_bytes h_p2 h_p2_kinds h_p2_cells h_p2_owners h_p2_purses v_tape_size v_tape_start_73 v_tape_end_74 v_tape_sort_75 v_tape_value_76 v_tape_bytes v_p2_number v_p2_burnt v_p2_kinds v_p2_cells v_p2_owners v_p2_purses)) X hV hl.1 (c_Ta_isAt D h_tape h_tape_bytes v_tape_size v_tape_start_73 v_tape_end_74 v_tape_sort_75 v_tape_value_76 v_tape_bytes 7 rfl hc_79) fk_Ta_isAt gw_689 rfl 1 7 rfl rfl [1, 2] [none, some 0, some 1, none, none, none, none, none] rfl rfl ⟨rfl, rfl, rfl, rfl, rfl, rfl, rfl, rfl, rfl, rfl, rfl, rfl, trivial⟩ rfl rfl rfl d_Tx_readFarm_77 (fun H locs hV => ?_)
        refine lv_if_eq (tgt := 114) hx hb d_Tx_readFarm_80 (by decide) (fun c_80 => ?_) (fun c_80 => ?_)
        · replace hf := kifp c_80 hf
          exact t_Tx_readFarm_1 X hf hV (lv_sub hl [3, 4, 1, 0] rfl)
        replace hf := kifn c_80 hf
        refine lv_aload_n hx hb d_Tx_readFarm_83 rfl (lv_at hl 2 rfl) ?_
        refine k_get X hV 0 6 0 rfl rfl rfl gw_223 rfl rfl d_Tx_readFarm_84 ?_
        obtain ⟨v_tape_start_81, v_tape_end_82, v_tape_sort_83, v_tape_value_84, hc_85, hf⟩ := kb4_some hf
        refine k_cvv (w1 := (wd_Ta_goToNext D h_tape h_tape_bytes v_tape_size v_tape_start_81 v_tape_end_82 v_tape_sort_83 v_tape_value_84 v_tape_bytes)) (ws' := (wd_Tx_readFarm D h h_tape h_tape_bytes h_p2 h_p2_kinds h_p2_cells h_p2_owners h_p2_purses v_tape_size v_tape_start_81 v_tape_end_82 v_tape_sort_83 v_tape_value_84 v_tape_bytes v_p2_number v_p2_burnt v_p2_kinds v_p2_cells v_p2_owners v_p2_purses)) X hV hl.1 (c_Ta_goToNext D h_tape h_tape_bytes v_tape_size v_tape_start_73 v_tape_end_74 v_tape_sort_75 v_tape_value_76 v_tape_bytes hc_85) fk_Ta_goToNext gw_746 rfl 1 7 rfl rfl [1, 2] [none, some 0, some 1, none, none, none, none, none] rfl rfl ⟨rfl, rfl, rfl, rfl, rfl, rfl, rfl, rfl, rfl, rfl, rfl, rfl, trivial⟩ rfl rfl rfl d_Tx_readFarm_87 (fun H locs hV => ?_)
        refine lv_aload_n hx hb d_Tx_readFarm_90 rfl (lv_at hl 2 rfl) ?_
        refine k_get X hV 0 6 0 rfl rfl rfl gw_223 rfl rfl d_Tx_readFarm_91 ?_
        refine lv_iconst (v := 5) hx hb d_Tx_readFarm_94 ic_5 ?_
        obtain ⟨r_86, hc_87, hf⟩ := kb1_some hf
        refine k_cvi (w1 := (wd_Ta_numberUpTo D h_tape h_tape_bytes v_tape_size v_tape_start_81 v_tape_end_82 v_tape_sort_83 v_tape_value_84)) (r := r_86) (ws' := (wd_Tx_readFarm D h h_tape h_tape_bytes h_p2 h_p2_kinds h_p2_cells h_p2_owners h_p2_purses v_tape_size v_tape_start_81 v_tape_end_82 v_tape_sort_83 v_tape_value_84 v_tape_bytes v_p2_number v_p2_burnt v_p2_kinds v_p2_cells v_p2_owners v_p2_purses)) X hV hl.1 (c_Ta_numberUpTo D h_tape h_tape_bytes v_tape_size v_tape_start_81 v_tape_end_82 v_tape_sort_83 v_tape_value_84 (5 : Int32) hc_87) fk_Ta_numberUpTo gw_748 rfl 1 7 rfl rfl [1] [none, some 0, none, none, none, none, none, none] rfl rfl ⟨rfl, rfl, rfl, rfl, rfl, rfl, rfl, rfl, rfl, rfl, trivial⟩ rfl rfl rfl d_Tx_readFarm_95 (fun H locs hV => ?_)
        refine lv_istore (lv' := [(4, .int r_86), (3, .int r_67), (0, .ref h), (1, .int x1), (2, .ref h_p2)]) hx hb d_Tx_readFarm_98 hl (by decide) rfl (fun ls hl => ?_)
        refine lv_iload hx hb d_Tx_readFarm_100 (lv_at hl 0 rfl) ?_
        refine lv_if_ge (tgt := 107) hx hb d_Tx_readFarm_102 (by decide) (fun c_88 => ?_) (fun c_88 => ?_)
        · replace hf := kifp c_88 hf
          refine lv_aload_n hx hb d_Tx_readFarm_107 rfl (lv_at hl 2 rfl) ?_
          refine k_get X hV 0 6 0 rfl rfl rfl gw_223 rfl rfl d_Tx_readFarm_108 ?_
          obtain ⟨v_tape_start_89, v_tape_end_90, v_tape_sort_91, v_tape_value_92, hc_93, hf⟩ := kb4_some hf
          refine k_cvv (w1 := (wd_Ta_goToNext D h_tape h_tape_bytes v_tape_size v_tape_start_89 v_tape_end_90 v_tape_sort_91 v_tape_value_92 v_tape_bytes)) (ws' := (wd_Tx_readFarm D h h_tape h_tape_bytes h_p2 h_p2_kinds h_p2_cells h_p2_owners h_p2_purses v_tape_size v_tape_start_89 v_tape_end_90 v_tape_sort_91 v_tape_value_92 v_tape_bytes v_p2_number v_p2_burnt v_p2_kinds v_p2_cells v_p2_owners v_p2_purses)) X hV hl.1 (c_Ta_goToNext D h_tape h_tape_bytes v_tape_size v_tape_start_81 v_tape_end_82 v_tape_sort_83 v_tape_value_84 v_tape_bytes hc_93) fk_Ta_goToNext gw_746 rfl 1 7 rfl rfl [1, 2] [none, some 0, some 1, none, none, none, none, none] rfl rfl ⟨rfl, rfl, rfl, rfl, rfl, rfl, rfl, rfl, rfl, rfl, rfl, rfl, trivial⟩ rfl rfl rfl d_Tx_readFarm_111 (fun H locs hV => ?_)
          exact t_Tx_readFarm_1 X hf hV (lv_sub hl [3, 4, 1, 0] rfl)
        replace hf := kifn c_88 hf
        refine lv_iconst (v := 0) hx hb d_Tx_readFarm_105 ic_0 ?_
        have e_ := Option.some.inj hf
        subst e_
        exact k_iret (v := 0) X rfl hV nb0 d_Tx_readFarm_106
      replace hf := kifn c_72 hf
      refine lv_iconst (v := 0) hx hb d_Tx_readFarm_59 ic_0 ?_
      have e_ := Option.some.inj hf
      subst e_
      exact k_iret (v := 0) X rfl hV nb0 d_Tx_readFarm_60
    replace hf := kifp c_61 hf
    refine lv_iconst (v := 0) hx hb d_Tx_readFarm_28 ic_0 ?_
    have e_ := Option.some.inj hf
    subst e_
    exact k_iret (v := 0) X rfl hV nb0 d_Tx_readFarm_29
  replace hf := kifn c_53 hf
  refine lv_iconst (v := 0) hx hb d_Tx_readFarm_7 ic_0 ?_
  have e_ := Option.some.inj hf
  subst e_
  exact k_iret (v := 0) X rfl hV nb0 d_Tx_readFarm_8
set_option maxHeartbeats 2000000 in
set_option maxRecDepth 20000 in
theorem c_Tx_readFarm {l : Launch} (D : kD) (h : Nat) (h_tape : Nat) (h_tape_bytes : Nat) (h_p2 : Nat) (h_p2_kinds : Nat) (h_p2_cells : Nat) (h_p2_owners : Nat) (h_p2_purses : Nat) (v_tape_size : Int32) (v_tape_start : Int32) (v_tape_end : Int32) (v_tape_sort : Int32) (v_tape_value : Int32) (v_tape_bytes : Nat → Int32) (v_p2_number : Int32) (v_p2_burnt : Int32) (v_p2_kinds : Nat → Int32) (v_p2_cells : Nat → Int32) (v_p2_owners : Nat → Int32) (v_p2_purses : Nat → Int32) (x1 : Int32) {out : Int32 × Int32 × Int32 × Int32 × Int32 × Int32 × (Nat → Int32) × (Nat → Int32) × (Nat → Int32) × (Nat → Int32)} (hf : f_Tx_readFarm v_tape_size v_tape_start v_tape_end v_tape_sort v_tape_value v_tape_bytes v_p2_number v_p2_kinds v_p2_cells v_p2_owners v_p2_purses x1 = some out) : kMi l D y_Tx_readFarm b_Tx_readFarm 5 (some .boolean) { frames := 5, cells := 0, slots := 0, locals := 107 } [.ref h, .int x1, .ref h_p2] (wd_Tx_readFarm D h h_tape h_tape_bytes h_p2 h_p2_kinds h_p2_cells h_p2_owners h_p2_purses v_tape_size v_tape_start v_tape_end v_tape_sort v_tape_value v_tape_bytes v_p2_number v_p2_burnt v_p2_kinds v_p2_cells v_p2_owners v_p2_purses) (wd_Tx_readFarm D h h_tape h_tape_bytes h_p2 h_p2_kinds h_p2_cells h_p2_owners h_p2_purses v_tape_size out.2.1 out.2.2.1 out.2.2.2.1 out.2.2.2.2.1 v_tape_bytes out.2.2.2.2.2.1 v_p2_burnt out.2.2.2.2.2.2.1 out.2.2.2.2.2.2.2.1 out.2.2.2.2.2.2.2.2.1 out.2.2.2.2.2.2.2.2.2) out.1 :=
  kMi_of (own := "MountainFarms$SlopeText") (plainFor_of_name (by decide)) rfl rfl (fun p e s m args below meth c ls X hV hl => t_Tx_readFarm X hf hV hl)
set_option maxHeartbeats 2000000 in
set_option maxRecDepth 20000 in
theorem t_Tx_readWall {l : Launch} {p : Program} {e : Env} {s : State} {m : MethodId} {args : Array Value} {below : List Frame} {meth : Method} {c : Code} {D : kD} {wc0 : va_W} {h : Nat} {h_tape : Nat} {h_tape_bytes : Nat} {h_p1 : Nat} {h_p1_heights : Nat} {h_p1_ages : Nat} {h_p1_walls : Nat} {v_tape_size : Int32} {v_tape_start : Int32} {v_tape_end : Int32} {v_tape_sort : Int32} {v_tape_value : Int32} {v_tape_bytes : Nat → Int32} {v_p1_vent : Int32} {v_p1_ash : Int32} {v_p1_walls : Nat → Int32} {out : Int32 × Int32 × Int32 × Int32 × Int32 × (Nat → Int32)} (X : kX p m meth c s args D (va_A wc0 s.heap.size) b_Tx_readWall "MountainFarms$SlopeText" 4 (some .boolean)) (hf : f_Tx_readWall v_tape_size v_tape_start v_tape_end v_tape_sort v_tape_value v_tape_bytes v_p1_walls = some out) {H : Heap} {locs : List Loc} (hV : kV D (va_A wc0 s.heap.size) s (wd_Tx_readWall D h h_tape h_tape_bytes h_p1 h_p1_heights h_p1_ages h_p1_walls v_tape_size v_tape_start v_tape_end v_tape_sort v_tape_value v_tape_bytes v_p1_vent v_p1_ash v_p1_walls) H locs) {ls : Array Slot} (hl : lv_has ls 4 [(0, .ref h), (1, .ref h_p1)]) : W p l e { frames := 3, cells := 0, slots := 0, locals := 61 } s m args below meth c H locs 0 0 (MQ below (kQi D wc0 (wd_Tx_readWall D h h_tape h_tape_bytes h_p1 h_p1_heights h_p1_ages h_p1_walls v_tape_size out.2.1 out.2.2.1 out.2.2.2.1 out.2.2.2.2.1 v_tape_bytes v_p1_vent v_p1_ash out.2.2.2.2.2) s.heap.size out.1) args s 0 0 (va_A wc0 s.heap.size)) (F0 m 0 ls []) := by
  unfold f_Tx_readWall at hf
  obtain ⟨hx, hb, -⟩ := id X
  refine lv_aload_n hx hb d_Tx_readWall_0 rfl (lv_at hl 0 rfl) ?_
  refine k_get X hV 0 6 0 rfl rfl rfl gw_223 rfl rfl d_Tx_readWall_1 ?_
  obtain ⟨v_tape_start_26, v_tape_end_27, v_tape_sort_28, v_tape_value_29, hc_30, hf⟩ := kb4_some hf
  refine k_cvv (w1 := (wd_Ta_goToNext D h_tape h_tape_bytes v_tape_size v_tape_start_26 v_tape_end_27 v_tape_sort_28 v_tape_value_29 v_tape_bytes)) (ws' := (wd_Tx_readWall D h h_tape h_tape_bytes h_p1 h_p1_heights h_p1_ages h_p1_walls v_tape_size v_tape_start_26 v_tape_end_27 v_tape_sort_28 v_tape_value_29 v_tape_bytes v_p1_vent v_p1_ash v_p1_walls)) X hV hl.1 (c_Ta_goToNext D h_tape h_tape_bytes v_tape_size v_tape_start v_tape_end v_tape_sort v_tape_value v_tape_bytes hc_30) fk_Ta_goToNext gw_746 rfl 1 7 rfl rfl [1, 2] [none, some 0, some 1, none, none] rfl rfl ⟨rfl, rfl, rfl, rfl, rfl, rfl, rfl, rfl, rfl, trivial⟩ rfl rfl rfl d_Tx_readWall_4 (fun H locs hV => ?_)
  refine lv_aload_n hx hb d_Tx_readWall_7 rfl (lv_at hl 0 rfl) ?_
  refine k_get X hV 0 6 0 rfl rfl rfl gw_223 rfl rfl d_Tx_readWall_8 ?_
  refine lv_bipush (v := 35) hx hb d_Tx_readWall_11 bp_35 ?_
  obtain ⟨r_31, hc_32, hf⟩ := kb1_some hf
  refine k_cvi (w1 := (wd_Ta_numberUpTo D h_tape h_tape_bytes v_tape_size v_tape_start_26 v_tape_end_27 v_tape_sort_28 v_tape_value_29)) (r := r_31) (ws' := (wd_Tx_readWall D h h_tape h_tape_bytes h_p1 h_p1_heights h_p1_ages h_p1_walls v_tape_size v_tape_start_26 v_tape_end_27 v_tape_sort_28 v_tape_value_29 v_tape_bytes v_p1_vent v_p1_ash v_p1_walls)) X hV hl.1 (c_Ta_numberUpTo D h_tape h_tape_bytes v_tape_size v_tape_start_26 v_tape_end_27 v_tape_sort_28 v_tape_value_29 (35 : Int32) hc_32) fk_Ta_numberUpTo gw_748 rfl 1 7 rfl rfl [1] [none, some 0, none, none, none] rfl rfl ⟨rfl, rfl, rfl, rfl, rfl, rfl, rfl, trivial⟩ rfl rfl rfl d_Tx_readWall_13 (fun H locs hV => ?_)
  refine lv_istore_n (lv' := [(2, .int r_31), (0, .ref h), (1, .ref h_p1)]) hx hb d_Tx_readWall_16 rfl hl (by decide) rfl (fun ls hl => ?_)
  refine lv_iload_n hx hb d_Tx_readWall_17 rfl (lv_at hl 0 rfl) ?_
  refine lv_if_ge (tgt := 23) hx hb d_Tx_readWall_18 (by decide) (fun c_33 => ?_) (fun c_33 => ?_)
  · replace hf := kifp c_33 hf
    refine lv_aload_n hx hb d_Tx_readWall_23 rfl (lv_at hl 1 rfl) ?_
    refine k_get X hV 0 6 0 rfl rfl rfl gw_223 rfl rfl d_Tx_readWall_24 ?_
    obtain ⟨v_tape_start_34, v_tape_end_35, v_tape_sort_36, v_tape_value_37, hc_38, hf⟩ := kb4_some hf
    refine k_cvv (w1 := (wd_Ta_goToNext D h_tape h_tape_bytes v_tape_size v_tape_start_34 v_tape_end_35 v_tape_sort_36 v_tape_value_37 v_tape_bytes)) (ws' := (wd_Tx_readWall D h h_tape h_tape_bytes h_p1 h_p1_heights h_p1_ages h_p1_walls v_tape_size v_tape_start_34 v_tape_end_35 v_tape_sort_36 v_tape_value_37 v_tape_bytes v_p1_vent v_p1_ash v_p1_walls)) X hV hl.1 (c_Ta_goToNext D h_tape h_tape_bytes v_tape_size v_tape_start_26 v_tape_end_27 v_tape_sort_28 v_tape_value_29 v_tape_bytes hc_38) fk_Ta_goToNext gw_746 rfl 1 7 rfl rfl [1, 2] [none, some 0, some 1, none, none] rfl rfl ⟨rfl, rfl, rfl, rfl, rfl, rfl, rfl, rfl, rfl, trivial⟩ rfl rfl rfl d_Tx_readWall_27 (fun H locs hV => ?_)
    refine lv_iload_n hx hb d_Tx_readWall_30 rfl (lv_at hl 0 rfl) ?_
    refine lv_aload_n hx hb d_Tx_readWall_31 rfl (lv_at hl 1 rfl) ?_
    refine k_get X hV 0 6 0 rfl rfl rfl gw_223 rfl rfl d_Tx_readWall_32 ?_
    refine lv_bipush (v := 35) hx hb d_Tx_readWall_35 bp_35 ?_
    obtain ⟨r_39, hc_40, hf⟩ := kb1_some hf
    refine k_cvi (w1 := (wd_Ta_numberUpTo D h_tape h_tape_bytes v_tape_size v_tape_start_34 v_tape_end_35 v_tape_sort_36 v_tape_value_37)) (r := r_39) (ws' := (wd_Tx_readWall D h h_tape h_tape_bytes h_p1 h_p1_heights h_p1_ages h_p1_walls v_tape_size v_tape_start_34 v_tape_end_35 v_tape_sort_36 v_tape_value_37 v_tape_bytes v_p1_vent v_p1_ash v_p1_walls)) X hV hl.1 (c_Ta_numberUpTo D h_tape h_tape_bytes v_tape_size v_tape_start_34 v_tape_end_35 v_tape_sort_36 v_tape_value_37 (35 : Int32) hc_40) fk_Ta_numberUpTo gw_748 rfl 1 7 rfl rfl [1] [none, some 0, none, none, none] rfl rfl ⟨rfl, rfl, rfl, rfl, rfl, rfl, rfl, trivial⟩ rfl rfl rfl d_Tx_readWall_37 (fun H locs hV => ?_)
    obtain ⟨r_41, hc_42, hf⟩ := kb1_some hf
    refine k_cni (w1 := (wd_X_wayTo D)) (r := r_41) (ws' := (wd_Tx_readWall D h h_tape h_tape_bytes h_p1 h_p1_heights h_p1_ages h_p1_walls v_tape_size v_tape_start_34 v_tape_end_35 v_tape_sort_36 v_tape_value_37 v_tape_bytes v_p1_vent v_p1_ash v_p1_walls)) X hV hl.1 (c_X_wayTo D r_31 r_39 hc_42) fk_X_wayTo nw_10 rfl [] [none, none, none, none, none] rfl rfl ⟨rfl, rfl, rfl, rfl, rfl, trivial⟩ rfl rfl rfl d_Tx_readWall_40 (fun H locs hV => ?_)
    refine lv_istore_n (lv' := [(3, .int r_41), (2, .int r_31), (0, .ref h), (1, .ref h_p1)]) hx hb d_Tx_readWall_43 rfl hl (by decide) rfl (fun ls hl => ?_)
    refine lv_iload_n hx hb d_Tx_readWall_44 rfl (lv_at hl 0 rfl) ?_
    refine lv_if_ge (tgt := 50) hx hb d_Tx_readWall_45 (by decide) (fun c_43 => ?_) (fun c_43 => ?_)
    · replace hf := kifp c_43 hf
      refine lv_aload_n hx hb d_Tx_readWall_50 rfl (lv_at hl 2 rfl) ?_
      refine k_get X hV 0 6 0 rfl rfl rfl gw_223 rfl rfl d_Tx_readWall_51 ?_
      obtain ⟨v_tape_start_44, v_tape_end_45, v_tape_sort_46, v_tape_value_47, hc_48, hf⟩ := kb4_some hf
      refine k_cvv (w1 := (wd_Ta_goToNext D h_tape h_tape_bytes v_tape_size v_tape_start_44 v_tape_end_45 v_tape_sort_46 v_tape_value_47 v_tape_bytes)) (ws' := (wd_Tx_readWall D h h_tape h_tape_bytes h_p1 h_p1_heights h_p1_ages h_p1_walls v_tape_size v_tape_start_44 v_tape_end_45 v_tape_sort_46 v_tape_value_47 v_tape_bytes v_p1_vent v_p1_ash v_p1_walls)) X hV hl.1 (c_Ta_goToNext D h_tape h_tape_bytes v_tape_size v_tape_start_34 v_tape_end_35 v_tape_sort_36 v_tape_value_37 v_tape_bytes hc_48) fk_Ta_goToNext gw_746 rfl 1 7 rfl rfl [1, 2] [none, some 0, some 1, none, none] rfl rfl ⟨rfl, rfl, rfl, rfl, rfl, rfl, rfl, rfl, rfl, trivial⟩ rfl rfl rfl d_Tx_readWall_54 (fun H locs hV => ?_)
      refine lv_aload_n hx hb d_Tx_readWall_57 rfl (lv_at hl 3 rfl) ?_
      refine lv_iload_n hx hb d_Tx_readWall_58 rfl (lv_at hl 1 rfl) ?_
      refine lv_iload_n hx hb d_Tx_readWall_59 rfl (lv_at hl 0 rfl) ?_
      refine lv_iconst (v := 1) hx hb d_Tx_readWall_60 ic_1 ?_
      obtain ⟨v_p1_walls_49, hc_50, hf⟩ := kb1_some hf
      refine k_cvv (w1 := (wd_Gr_putWall D h_p1 h_p1_heights h_p1_ages h_p1_walls v_p1_vent v_p1_ash v_p1_walls_49)) (ws' := (wd_Tx_readWall D h h_tape h_tape_bytes h_p1 h_p1_heights h_p1_ages h_p1_walls v_tape_size v_tape_start_44 v_tape_end_45 v_tape_sort_46 v_tape_value_47 v_tape_bytes v_p1_vent v_p1_ash v_p1_walls_49)) X hV hl.1 (c_Gr_putWall D h_p1 h_p1_heights h_p1_ages h_p1_walls v_p1_vent v_p1_ash v_p1_walls r_31 r_41 (1 : Int32) hc_50) fk_Gr_putWall gw_761 rfl 3 1 rfl rfl [3, 4] [none, none, none, some 0, some 1] rfl rfl ⟨rfl, rfl, rfl, rfl, rfl, rfl, rfl, rfl, rfl, trivial⟩ rfl rfl rfl d_Tx_readWall_61 (fun H locs hV => ?_)
      refine lv_iconst (v := 1) hx hb d_Tx_readWall_64 ic_1 ?_
      have e_ := Option.some.inj hf
      subst e_
      exact k_iret (v := 1) X rfl hV nb1 d_Tx_readWall_65
    replace hf := kifn c_43 hf
    refine lv_iconst (v := 0) hx hb d_Tx_readWall_48 ic_0 ?_
    have e_ := Option.some.inj hf
    subst e_
    exact k_iret (v := 0) X rfl hV nb0 d_Tx_readWall_49
  replace hf := kifn c_33 hf
  refine lv_iconst (v := 0) hx hb d_Tx_readWall_21 ic_0 ?_
  have e_ := Option.some.inj hf
  subst e_
  exact k_iret (v := 0) X rfl hV nb0 d_Tx_readWall_22
set_option maxHeartbeats 2000000 in
set_option maxRecDepth 20000 in
theorem c_Tx_readWall {l : Launch} (D : kD) (h : Nat) (h_tape : Nat) (h_tape_bytes : Nat) (h_p1 : Nat) (h_p1_heights : Nat) (h_p1_ages : Nat) (h_p1_walls : Nat) (v_tape_size : Int32) (v_tape_start : Int32) (v_tape_end : Int32) (v_tape_sort : Int32) (v_tape_value : Int32) (v_tape_bytes : Nat → Int32) (v_p1_vent : Int32) (v_p1_ash : Int32) (v_p1_walls : Nat → Int32) {out : Int32 × Int32 × Int32 × Int32 × Int32 × (Nat → Int32)} (hf : f_Tx_readWall v_tape_size v_tape_start v_tape_end v_tape_sort v_tape_value v_tape_bytes v_p1_walls = some out) : kMi l D y_Tx_readWall b_Tx_readWall 4 (some .boolean) { frames := 3, cells := 0, slots := 0, locals := 61 } [.ref h, .ref h_p1] (wd_Tx_readWall D h h_tape h_tape_bytes h_p1 h_p1_heights h_p1_ages h_p1_walls v_tape_size v_tape_start v_tape_end v_tape_sort v_tape_value v_tape_bytes v_p1_vent v_p1_ash v_p1_walls) (wd_Tx_readWall D h h_tape h_tape_bytes h_p1 h_p1_heights h_p1_ages h_p1_walls v_tape_size out.2.1 out.2.2.1 out.2.2.2.1 out.2.2.2.2.1 v_tape_bytes v_p1_vent v_p1_ash out.2.2.2.2.2) out.1 :=
  kMi_of (own := "MountainFarms$SlopeText") (plainFor_of_name (by decide)) rfl rfl (fun p e s m args below meth c ls X hV hl => t_Tx_readWall X hf hV hl)
set_option maxHeartbeats 2000000 in
set_option maxRecDepth 20000 in
theorem t_Tx_readLevel {l : Launch} {p : Program} {e : Env} {s : State} {m : MethodId} {args : Array Value} {below : List Frame} {meth : Method} {c : Code} {D : kD} {wc0 : va_W} {h : Nat} {h_tape : Nat} {h_tape_bytes : Nat} {h_p1 : Nat} {v_tape_size : Int32} {v_tape_start : Int32} {v_tape_end : Int32} {v_tape_sort : Int32} {v_tape_value : Int32} {v_tape_bytes : Nat → Int32} {v_p1 : Nat → Int32} {out : Int32 × Int32 × Int32 × Int32 × Int32 × (Nat → Int32)} (X : kX p m meth c s args D (va_A wc0 s.heap.size) b_Tx_readLevel "MountainFarms$SlopeText" 4 (some .boolean)) (hf : f_Tx_readLevel v_tape_size v_tape_start v_tape_end v_tape_sort v_tape_value v_tape_bytes v_p1 = some out) {H : Heap} {locs : List Loc} (hV : kV D (va_A wc0 s.heap.size) s (wd_Tx_readLevel D h h_tape h_tape_bytes h_p1 v_tape_size v_tape_start v_tape_end v_tape_sort v_tape_value v_tape_bytes v_p1) H locs) {ls : Array Slot} (hl : lv_has ls 4 [(0, .ref h), (1, .ref h_p1)]) : W p l e { frames := 3, cells := 0, slots := 0, locals := 61 } s m args below meth c H locs 0 0 (MQ below (kQi D wc0 (wd_Tx_readLevel D h h_tape h_tape_bytes h_p1 v_tape_size out.2.1 out.2.2.1 out.2.2.2.1 out.2.2.2.2.1 v_tape_bytes out.2.2.2.2.2) s.heap.size out.1) args s 0 0 (va_A wc0 s.heap.size)) (F0 m 0 ls []) := by
  unfold f_Tx_readLevel at hf
  obtain ⟨hx, hb, -⟩ := id X
  refine lv_aload_n hx hb d_Tx_readLevel_0 rfl (lv_at hl 0 rfl) ?_
  refine k_get X hV 0 6 0 rfl rfl rfl gw_223 rfl rfl d_Tx_readLevel_1 ?_
  obtain ⟨v_tape_start_25, v_tape_end_26, v_tape_sort_27, v_tape_value_28, hc_29, hf⟩ := kb4_some hf
  refine k_cvv (w1 := (wd_Ta_goToNext D h_tape h_tape_bytes v_tape_size v_tape_start_25 v_tape_end_26 v_tape_sort_27 v_tape_value_28 v_tape_bytes)) (ws' := (wd_Tx_readLevel D h h_tape h_tape_bytes h_p1 v_tape_size v_tape_start_25 v_tape_end_26 v_tape_sort_27 v_tape_value_28 v_tape_bytes v_p1)) X hV hl.1 (c_Ta_goToNext D h_tape h_tape_bytes v_tape_size v_tape_start v_tape_end v_tape_sort v_tape_value v_tape_bytes hc_29) fk_Ta_goToNext gw_746 rfl 1 7 rfl rfl [1, 2] [none, some 0, some 1, none] rfl rfl ⟨rfl, rfl, rfl, rfl, rfl, rfl, rfl, rfl, trivial⟩ rfl rfl rfl d_Tx_readLevel_4 (fun H locs hV => ?_)
  refine lv_aload_n hx hb d_Tx_readLevel_7 rfl (lv_at hl 0 rfl) ?_
  refine k_get X hV 0 6 0 rfl rfl rfl gw_223 rfl rfl d_Tx_readLevel_8 ?_
  refine lv_bipush (v := 35) hx hb d_Tx_readLevel_11 bp_35 ?_
  obtain ⟨r_30, hc_31, hf⟩ := kb1_some hf
  refine k_cvi (w1 := (wd_Ta_numberUpTo D h_tape h_tape_bytes v_tape_size v_tape_start_25 v_tape_end_26 v_tape_sort_27 v_tape_value_28)) (r := r_30) (ws' := (wd_Tx_readLevel D h h_tape h_tape_bytes h_p1 v_tape_size v_tape_start_25 v_tape_end_26 v_tape_sort_27 v_tape_value_28 v_tape_bytes v_p1)) X hV hl.1 (c_Ta_numberUpTo D h_tape h_tape_bytes v_tape_size v_tape_start_25 v_tape_end_26 v_tape_sort_27 v_tape_value_28 (35 : Int32) hc_31) fk_Ta_numberUpTo gw_748 rfl 1 7 rfl rfl [1] [none, some 0, none, none] rfl rfl ⟨rfl, rfl, rfl, rfl, rfl, rfl, trivial⟩ rfl rfl rfl d_Tx_readLevel_13 (fun H locs hV => ?_)
  refine lv_istore_n (lv' := [(2, .int r_30), (0, .ref h), (1, .ref h_p1)]) hx hb d_Tx_readLevel_16 rfl hl (by decide) rfl (fun ls hl => ?_)
  refine lv_iload_n hx hb d_Tx_readLevel_17 rfl (lv_at hl 0 rfl) ?_
  refine lv_iconst (v := 0) hx hb d_Tx_readLevel_18 ic_0 ?_
  refine lv_aload_n hx hb d_Tx_readLevel_19 rfl (lv_at hl 2 rfl) ?_
  refine k_alen (v := 36) X hV 3 0 rfl rfl rfl d_Tx_readLevel_20 ?_
  refine lv_iconst (v := 1) hx hb d_Tx_readLevel_21 ic_1 ?_
  refine lv_isub hx hb d_Tx_readLevel_22 ?_
  obtain ⟨r_32, hc_33, hf⟩ := kb1_some hf
  refine k_cni (w1 := (wd_X_isWithin D)) (r := r_32) (ws' := (wd_Tx_readLevel D h h_tape h_tape_bytes h_p1 v_tape_size v_tape_start_25 v_tape_end_26 v_tape_sort_27 v_tape_value_28 v_tape_bytes v_p1)) X hV hl.1 (c_X_isWithin D r_30 (0 : Int32) ((36 : Int32) - (1 : Int32)) hc_33) fk_X_isWithin nw_11 rfl [] [none, none, none, none] rfl rfl ⟨rfl, rfl, rfl, rfl, trivial⟩ rfl rfl rfl d_Tx_readLevel_23 (fun H locs hV => ?_)
  refine lv_if_ne (tgt := 31) hx hb d_Tx_readLevel_26 (by decide) (fun c_34 => ?_) (fun c_34 => ?_)
  · replace hf := kifn c_34 hf
    refine lv_aload_n hx hb d_Tx_readLevel_31 rfl (lv_at hl 1 rfl) ?_
    refine k_get X hV 0 6 0 rfl rfl rfl gw_223 rfl rfl d_Tx_readLevel_32 ?_
    obtain ⟨v_tape_start_35, v_tape_end_36, v_tape_sort_37, v_tape_value_38, hc_39, hf⟩ := kb4_some hf
    refine k_cvv (w1 := (wd_Ta_goToNext D h_tape h_tape_bytes v_tape_size v_tape_start_35 v_tape_end_36 v_tape_sort_37 v_tape_value_38 v_tape_bytes)) (ws' := (wd_Tx_readLevel D h h_tape h_tape_bytes h_p1 v_tape_size v_tape_start_35 v_tape_end_36 v_tape_sort_37 v_tape_value_38 v_tape_bytes v_p1)) X hV hl.1 (c_Ta_goToNext D h_tape h_tape_bytes v_tape_size v_tape_start_25 v_tape_end_26 v_tape_sort_27 v_tape_value_28 v_tape_bytes hc_39) fk_Ta_goToNext gw_746 rfl 1 7 rfl rfl [1, 2] [none, some 0, some 1, none] rfl rfl ⟨rfl, rfl, rfl, rfl, rfl, rfl, rfl, rfl, trivial⟩ rfl rfl rfl d_Tx_readLevel_35 (fun H locs hV => ?_)
    refine lv_aload_n hx hb d_Tx_readLevel_38 rfl (lv_at hl 1 rfl) ?_
    refine k_get X hV 0 6 0 rfl rfl rfl gw_223 rfl rfl d_Tx_readLevel_39 ?_
    refine lv_bipush (v := 99) hx hb d_Tx_readLevel_42 bp_99 ?_
    obtain ⟨r_40, hc_41, hf⟩ := kb1_some hf
    refine k_cvi (w1 := (wd_Ta_numberUpTo D h_tape h_tape_bytes v_tape_size v_tape_start_35 v_tape_end_36 v_tape_sort_37 v_tape_value_38)) (r := r_40) (ws' := (wd_Tx_readLevel D h h_tape h_tape_bytes h_p1 v_tape_size v_tape_start_35 v_tape_end_36 v_tape_sort_37 v_tape_value_38 v_tape_bytes v_p1)) X hV hl.1 (c_Ta_numberUpTo D h_tape h_tape_bytes v_tape_size v_tape_start_35 v_tape_end_36 v_tape_sort_37 v_tape_value_38 (99 : Int32) hc_41) fk_Ta_numberUpTo gw_748 rfl 1 7 rfl rfl [1] [none, some 0, none, none] rfl rfl ⟨rfl, rfl, rfl, rfl, rfl, rfl, trivial⟩ rfl rfl rfl d_Tx_readLevel_44 (fun H locs hV => ?_)
    refine lv_istore_n (lv' := [(3, .int r_40), (2, .int r_30), (0, .ref h), (1, .ref h_p1)]) hx hb d_Tx_readLevel_47 rfl hl (by decide) rfl (fun ls hl => ?_)
    refine lv_iload_n hx hb d_Tx_readLevel_48 rfl (lv_at hl 0 rfl) ?_
    refine lv_if_ge (tgt := 54) hx hb d_Tx_readLevel_49 (by decide) (fun c_42 => ?_) (fun c_42 => ?_)
    · replace hf := kifp c_42 hf
      refine lv_aload_n hx hb d_Tx_readLevel_54 rfl (lv_at hl 2 rfl) ?_
      refine k_get X hV 0 6 0 rfl rfl rfl gw_223 rfl rfl d_Tx_readLevel_55 ?_
      obtain ⟨v_tape_start_43, v_tape_end_44, v_tape_sort_45, v_tape_value_46, hc_47, hf⟩ := kb4_some hf
      refine k_cvv (w1 := (wd_Ta_goToNext D h_tape h_tape_bytes v_tape_size v_tape_start_43 v_tape_end_44 v_tape_sort_45 v_tape_value_46 v_tape_bytes)) (ws' := (wd_Tx_readLevel D h h_tape h_tape_bytes h_p1 v_tape_size v_tape_start_43 v_tape_end_44 v_tape_sort_45 v_tape_value_46 v_tape_bytes v_p1)) X hV hl.1 (c_Ta_goToNext D h_tape h_tape_bytes v_tape_size v_tape_start_35 v_tape_end_36 v_tape_sort_37 v_tape_value_38 v_tape_bytes hc_47) fk_Ta_goToNext gw_746 rfl 1 7 rfl rfl [1, 2] [none, some 0, some 1, none] rfl rfl ⟨rfl, rfl, rfl, rfl, rfl, rfl, rfl, rfl, trivial⟩ rfl rfl rfl d_Tx_readLevel_58 (fun H locs hV => ?_)
      refine lv_aload_n hx hb d_Tx_readLevel_61 rfl (lv_at hl 3 rfl) ?_
      refine lv_iload_n hx hb d_Tx_readLevel_62 rfl (lv_at hl 1 rfl) ?_
      refine lv_iload_n hx hb d_Tx_readLevel_63 rfl (lv_at hl 0 rfl) ?_
      obtain ⟨h_48, hf⟩ := kidx_some hf
      refine k_iast (ws' := (wd_Tx_readLevel D h h_tape h_tape_bytes h_p1 v_tape_size v_tape_start_43 v_tape_end_44 v_tape_sort_45 v_tape_value_46 v_tape_bytes (upd v_p1 r_30.toNatClampNeg r_40))) X hV 3 rfl h_48 rfl rfl d_Tx_readLevel_64 (fun H locs hV => ?_)
      refine lv_iconst (v := 1) hx hb d_Tx_readLevel_65 ic_1 ?_
      have e_ := Option.some.inj hf
      subst e_
      exact k_iret (v := 1) X rfl hV nb1 d_Tx_readLevel_66
    replace hf := kifn c_42 hf
    refine lv_iconst (v := 0) hx hb d_Tx_readLevel_52 ic_0 ?_
    have e_ := Option.some.inj hf
    subst e_
    exact k_iret (v := 0) X rfl hV nb0 d_Tx_readLevel_53
  replace hf := kifp c_34 hf
  refine lv_iconst (v := 0) hx hb d_Tx_readLevel_29 ic_0 ?_
  have e_ := Option.some.inj hf
  subst e_
  exact k_iret (v := 0) X rfl hV nb0 d_Tx_readLevel_30
set_option maxHeartbeats 2000000 in
set_option maxRecDepth 20000 in
theorem c_Tx_readLevel {l : Launch} (D : kD) (h : Nat) (h_tape : Nat) (h_tape_bytes : Nat) (h_p1 : Nat) (v_tape_size : Int32) (v_tape_start : Int32) (v_tape_end : Int32) (v_tape_sort : Int32) (v_tape_value : Int32) (v_tape_bytes : Nat → Int32) (v_p1 : Nat → Int32) {out : Int32 × Int32 × Int32 × Int32 × Int32 × (Nat → Int32)} (hf : f_Tx_readLevel v_tape_size v_tape_start v_tape_end v_tape_sort v_tape_value v_tape_bytes v_p1 = some out) : kMi l D y_Tx_readLevel b_Tx_readLevel 4 (some .boolean) { frames := 3, cells := 0, slots := 0, locals := 61 } [.ref h, .ref h_p1] (wd_Tx_readLevel D h h_tape h_tape_bytes h_p1 v_tape_size v_tape_start v_tape_end v_tape_sort v_tape_value v_tape_bytes v_p1) (wd_Tx_readLevel D h h_tape h_tape_bytes h_p1 v_tape_size out.2.1 out.2.2.1 out.2.2.2.1 out.2.2.2.2.1 v_tape_bytes out.2.2.2.2.2) out.1 :=
  kMi_of (own := "MountainFarms$SlopeText") (plainFor_of_name (by decide)) rfl rfl (fun p e s m args below meth c ls X hV hl => t_Tx_readLevel X hf hV hl)
set_option maxHeartbeats 2000000 in
set_option maxRecDepth 20000 in
theorem t_Tx_readVent {l : Launch} {p : Program} {e : Env} {s : State} {m : MethodId} {args : Array Value} {below : List Frame} {meth : Method} {c : Code} {D : kD} {wc0 : va_W} {h : Nat} {h_tape : Nat} {h_tape_bytes : Nat} {h_p1 : Nat} {h_p1_heights : Nat} {h_p1_ages : Nat} {h_p1_walls : Nat} {v_tape_size : Int32} {v_tape_start : Int32} {v_tape_end : Int32} {v_tape_sort : Int32} {v_tape_value : Int32} {v_tape_bytes : Nat → Int32} {v_p1_vent : Int32} {v_p1_ash : Int32} {out : Int32 × Int32 × Int32 × Int32 × Int32 × Int32} (X : kX p m meth c s args D (va_A wc0 s.heap.size) b_Tx_readVent "MountainFarms$SlopeText" 3 (some .boolean)) (hf : f_Tx_readVent v_tape_size v_tape_start v_tape_end v_tape_sort v_tape_value v_tape_bytes v_p1_vent = some out) {H : Heap} {locs : List Loc} (hV : kV D (va_A wc0 s.heap.size) s (wd_Tx_readVent D h h_tape h_tape_bytes h_p1 h_p1_heights h_p1_ages h_p1_walls v_tape_size v_tape_start v_tape_end v_tape_sort v_tape_value v_tape_bytes v_p1_vent v_p1_ash) H locs) {ls : Array Slot} (hl : lv_has ls 3 [(0, .ref h), (1, .ref h_p1)]) : W p l e { frames := 3, cells := 0, slots := 0, locals := 61 } s m args below meth c H locs 0 0 (MQ below (kQi D wc0 (wd_Tx_readVent D h h_tape h_tape_bytes h_p1 h_p1_heights h_p1_ages h_p1_walls v_tape_size out.2.1 out.2.2.1 out.2.2.2.1 out.2.2.2.2.1 v_tape_bytes out.2.2.2.2.2 v_p1_ash) s.heap.size out.1) args s 0 0 (va_A wc0 s.heap.size)) (F0 m 0 ls []) := by
  unfold f_Tx_readVent at hf
  obtain ⟨hx, hb, -⟩ := id X
  refine lv_aload_n hx hb d_Tx_readVent_0 rfl (lv_at hl 0 rfl) ?_
  refine k_get X hV 0 6 0 rfl rfl rfl gw_223 rfl rfl d_Tx_readVent_1 ?_
  obtain ⟨v_tape_start_14, v_tape_end_15, v_tape_sort_16, v_tape_value_17, hc_18, hf⟩ := kb4_some hf
  refine k_cvv (w1 := (wd_Ta_goToNext D h_tape h_tape_bytes v_tape_size v_tape_start_14 v_tape_end_15 v_tape_sort_16 v_tape_value_17 v_tape_bytes)) (ws' := (wd_Tx_readVent D h h_tape h_tape_bytes h_p1 h_p1_heights h_p1_ages h_p1_walls v_tape_size v_tape_start_14 v_tape_end_15 v_tape_sort_16 v_tape_value_17 v_tape_bytes v_p1_vent v_p1_ash)) X hV hl.1 (c_Ta_goToNext D h_tape h_tape_bytes v_tape_size v_tape_start v_tape_end v_tape_sort v_tape_value v_tape_bytes hc_18) fk_Ta_goToNext gw_746 rfl 1 7 rfl rfl [1, 2] [none, some 0, some 1, none] rfl rfl ⟨rfl, rfl, rfl, rfl, rfl, rfl, rfl, rfl, trivial⟩ rfl rfl rfl d_Tx_readVent_4 (fun H locs hV => ?_)
  refine lv_aload_n hx hb d_Tx_readVent_7 rfl (lv_at hl 0 rfl) ?_
  refine k_get X hV 0 6 0 rfl rfl rfl gw_223 rfl rfl d_Tx_readVent_8 ?_
  refine lv_bipush (v := 35) hx hb d_Tx_readVent_11 bp_35 ?_
  obtain ⟨r_19, hc_20, hf⟩ := kb1_some hf
  refine k_cvi (w1 := (wd_Ta_numberUpTo D h_tape h_tape_bytes v_tape_size v_tape_start_14 v_tape_end_15 v_tape_sort_16 v_tape_value_17)) (r := r_19) (ws' := (wd_Tx_readVent D h h_tape h_tape_bytes h_p1 h_p1_heights h_p1_ages h_p1_walls v_tape_size v_tape_start_14 v_tape_end_15 v_tape_sort_16 v_tape_value_17 v_tape_bytes v_p1_vent v_p1_ash)) X hV hl.1 (c_Ta_numberUpTo D h_tape h_tape_bytes v_tape_size v_tape_start_14 v_tape_end_15 v_tape_sort_16 v_tape_value_17 (35 : Int32) hc_20) fk_Ta_numberUpTo gw_748 rfl 1 7 rfl rfl [1] [none, some 0, none, none] rfl rfl ⟨rfl, rfl, rfl, rfl, rfl, rfl, trivial⟩ rfl rfl rfl d_Tx_readVent_13 (fun H locs hV => ?_)
  refine lv_istore_n (lv' := [(2, .int r_19), (0, .ref h), (1, .ref h_p1)]) hx hb d_Tx_readVent_16 rfl hl (by decide) rfl (fun ls hl => ?_)
  refine lv_iload_n hx hb d_Tx_readVent_17 rfl (lv_at hl 0 rfl) ?_
  refine lv_if_ge (tgt := 23) hx hb d_Tx_readVent_18 (by decide) (fun c_21 => ?_) (fun c_21 => ?_)
  · replace hf := kifp c_21 hf
    refine lv_aload_n hx hb d_Tx_readVent_23 rfl (lv_at hl 1 rfl) ?_
    refine k_get X hV 0 6 0 rfl rfl rfl gw_223 rfl rfl d_Tx_readVent_24 ?_
    obtain ⟨v_tape_start_22, v_tape_end_23, v_tape_sort_24, v_tape_value_25, hc_26, hf⟩ := kb4_some hf
    refine k_cvv (w1 := (wd_Ta_goToNext D h_tape h_tape_bytes v_tape_size v_tape_start_22 v_tape_end_23 v_tape_sort_24 v_tape_value_25 v_tape_bytes)) (ws' := (wd_Tx_readVent D h h_tape h_tape_bytes h_p1 h_p1_heights h_p1_ages h_p1_walls v_tape_size v_tape_start_22 v_tape_end_23 v_tape_sort_24 v_tape_value_25 v_tape_bytes v_p1_vent v_p1_ash)) X hV hl.1 (c_Ta_goToNext D h_tape h_tape_bytes v_tape_size v_tape_start_14 v_tape_end_15 v_tape_sort_16 v_tape_value_17 v_tape_bytes hc_26) fk_Ta_goToNext gw_746 rfl 1 7 rfl rfl [1, 2] [none, some 0, some 1, none] rfl rfl ⟨rfl, rfl, rfl, rfl, rfl, rfl, rfl, rfl, trivial⟩ rfl rfl rfl d_Tx_readVent_27 (fun H locs hV => ?_)
    refine lv_aload_n hx hb d_Tx_readVent_30 rfl (lv_at hl 2 rfl) ?_
    refine lv_iload_n hx hb d_Tx_readVent_31 rfl (lv_at hl 0 rfl) ?_
    refine k_putv (ty := .int) (ws' := (wd_Tx_readVent D h h_tape h_tape_bytes h_p1 h_p1_heights h_p1_ages h_p1_walls v_tape_size v_tape_start_22 v_tape_end_23 v_tape_sort_24 v_tape_value_25 v_tape_bytes r_19 v_p1_ash)) X hV 3 1 3 rfl rfl rfl gw_56 rfl rfl rfl rfl rfl rfl rfl d_Tx_readVent_32 (fun H locs hV => ?_)
    refine lv_iconst (v := 1) hx hb d_Tx_readVent_35 ic_1 ?_
    have e_ := Option.some.inj hf
    subst e_
    exact k_iret (v := 1) X rfl hV nb1 d_Tx_readVent_36
  replace hf := kifn c_21 hf
  refine lv_iconst (v := 0) hx hb d_Tx_readVent_21 ic_0 ?_
  have e_ := Option.some.inj hf
  subst e_
  exact k_iret (v := 0) X rfl hV nb0 d_Tx_readVent_22
set_option maxHeartbeats 2000000 in
set_option maxRecDepth 20000 in
theorem c_Tx_readVent {l : Launch} (D : kD) (h : Nat) (h_tape : Nat) (h_tape_bytes : Nat) (h_p1 : Nat) (h_p1_heights : Nat) (h_p1_ages : Nat) (h_p1_walls : Nat) (v_tape_size : Int32) (v_tape_start : Int32) (v_tape_end : Int32) (v_tape_sort : Int32) (v_tape_value : Int32) (v_tape_bytes : Nat → Int32) (v_p1_vent : Int32) (v_p1_ash : Int32) {out : Int32 × Int32 × Int32 × Int32 × Int32 × Int32} (hf : f_Tx_readVent v_tape_size v_tape_start v_tape_end v_tape_sort v_tape_value v_tape_bytes v_p1_vent = some out) : kMi l D y_Tx_readVent b_Tx_readVent 3 (some .boolean) { frames := 3, cells := 0, slots := 0, locals := 61 } [.ref h, .ref h_p1] (wd_Tx_readVent D h h_tape h_tape_bytes h_p1 h_p1_heights h_p1_ages h_p1_walls v_tape_size v_tape_start v_tape_end v_tape_sort v_tape_value v_tape_bytes v_p1_vent v_p1_ash) (wd_Tx_readVent D h h_tape h_tape_bytes h_p1 h_p1_heights h_p1_ages h_p1_walls v_tape_size out.2.1 out.2.2.1 out.2.2.2.1 out.2.2.2.2.1 v_tape_bytes out.2.2.2.2.2 v_p1_ash) out.1 :=
  kMi_of (own := "MountainFarms$SlopeText") (plainFor_of_name (by decide)) rfl rfl (fun p e s m args below meth c ls X hV hl => t_Tx_readVent X hf hV hl)
set_option maxHeartbeats 2000000 in
set_option maxRecDepth 20000 in
theorem t_Tx_readTenths_2 {l : Launch} {p : Program} {e : Env} {s : State} {m : MethodId} {args : Array Value} {below : List Frame} {meth : Method} {c : Code} {D : kD} {wc0 : va_W} {h : Nat} {h_tape : Nat} {h_tape_bytes : Nat} {h_p2 : Nat} {h_p2_chances : Nat} {h_p2_shows : Nat} {h_p2_diary : Nat} {v_tape_size : Int32} {v_tape_start : Int32} {v_tape_end : Int32} {v_tape_sort : Int32} {v_tape_value : Int32} {v_tape_bytes : Nat → Int32} {v_p2_seen : Int32} {v_p2_state : Int32} {v_p2_z : Int32} {v_p2_chances : Nat → Int32} {v_p2_shows : Nat → Int32} {x1 : Int32} {x3 : Int32} {x4 : Int32} {x5 : Int32} {x6 : Int32} {rec1 : Int32 → Int32 → Int32 → Int32 → Int32 → Int32 → (Nat → Int32) → (Nat → Int32) → Option (Int32 × Int32 × Int32 × Int32 × Int32 × (Nat → Int32) × (Nat → Int32))} {out : Int32 × Int32 × Int32 × Int32 × Int32 × (Nat → Int32) × (Nat → Int32)} (X : kX p m meth c s args D (va_A wc0 s.heap.size) b_Tx_readTenths "MountainFarms$SlopeText" 7 (some .boolean)) (hrec1 : ∀ (x4 : Int32) (x5 : Int32) (v_tape_start : Int32) (v_tape_end : Int32) (v_tape_sort : Int32) (v_tape_value : Int32) (v_p2_chances : Nat → Int32) (v_p2_shows : Nat → Int32), rec1 x4 x5 v_tape_start v_tape_end v_tape_sort v_tape_value v_p2_chances v_p2_shows = some out → ∀ (H : Heap) (locs : List Loc) (ls : Array Slot), kV D (va_A wc0 s.heap.size) s (wd_Tx_readTenths D h h_tape h_tape_bytes h_p2 h_p2_chances h_p2_shows h_p2_diary v_tape_size v_tape_start v_tape_end v_tape_sort v_tape_value v_tape_bytes v_p2_seen v_p2_state v_p2_z v_p2_chances v_p2_shows) H locs → lv_has ls 7 [(0, .ref h), (1, .int x1), (2, .ref h_p2), (3, .int x3), (4, .int x4), (5, .int x5)] → W p l e { frames := 3, cells := 0, slots := 0, locals := 61 } s m args below meth c H locs 0 0 (MQ below (kQi D wc0 (wd_Tx_readTenths D h h_tape h_tape_bytes h_p2 h_p2_chances h_p2_shows h_p2_diary v_tape_size out.2.1 out.2.2.1 out.2.2.2.1 out.2.2.2.2.1 v_tape_bytes v_p2_seen v_p2_state v_p2_z out.2.2.2.2.2.1 out.2.2.2.2.2.2) s.heap.size out.1) args s 0 0 (va_A wc0 s.heap.size)) (F0 m 36 ls [])) (hf : f_Tx_readTenths_2 rec1 x1 x3 x4 x5 x6 v_tape_size v_tape_start v_tape_end v_tape_sort v_tape_value v_tape_bytes v_p2_chances v_p2_shows = some out) {H : Heap} {locs : List Loc} (hV : kV D (va_A wc0 s.heap.size) s (wd_Tx_readTenths D h h_tape h_tape_bytes h_p2 h_p2_chances h_p2_shows h_p2_diary v_tape_size v_tape_start v_tape_end v_tape_sort v_tape_value v_tape_bytes v_p2_seen v_p2_state v_p2_z v_p2_chances v_p2_shows) H locs) {ls : Array Slot} (hl : lv_has ls 7 [(0, .ref h), (1, .int x1), (2, .ref h_p2), (3, .int x3), (4, .int x4), (5, .int x5), (6, .int x6)]) : W p l e { frames := 3, cells := 0, slots := 0, locals := 61 } s m args below meth c H locs 0 0 (MQ below (kQi D wc0 (wd_Tx_readTenths D h h_tape h_tape_bytes h_p2 h_p2_chances h_p2_shows h_p2_diary v_tape_size out.2.1 out.2.2.1 out.2.2.2.1 out.2.2.2.2.1 v_tape_bytes v_p2_seen v_p2_state v_p2_z out.2.2.2.2.2.1 out.2.2.2.2.2.2) s.heap.size out.1) args s 0 0 (va_A wc0 s.heap.size)) (F0 m 73 ls []) := by
  unfold f_Tx_readTenths_2 at hf
  obtain ⟨hx, hb, -⟩ := id X
  refine lv_aload_n hx hb d_Tx_readTenths_73 rfl (lv_at hl 0 rfl) ?_
  refine k_get X hV 0 6 0 rfl rfl rfl gw_223 rfl rfl d_Tx_readTenths_74 ?_
  obtain ⟨v_tape_start_47, v_tape_end_48, v_tape_sort_49, v_tape_value_50, hc_51, hf⟩ := kb4_some hf
  refine k_cvv (w1 := (wd_Ta_goToNext D h_tape h_tape_bytes v_tape_size v_tape_start_47 v_tape_end_48 v_tape_sort_49 v_tape_value_50 v_tape_bytes)) (ws' := (wd_Tx_readTenths D h h_tape h_tape_bytes h_p2 h_p2_chances h_p2_shows h_p2_diary v_tape_size v_tape_start_47 v_tape_end_48 v_tape_sort_49 v_tape_value_50 v_tape_bytes v_p2_seen v_p2_state v_p2_z v_p2_chances v_p2_shows)) X hV hl.1 (c_Ta_goToNext D h_tape h_tape_bytes v_tape_size v_tape_start v_tape_end v_tape_sort v_tape_value v_tape_bytes hc_51) fk_Ta_goToNext gw_746 rfl 1 7 rfl rfl [1, 2] [none, some 0, some 1, none, none, none] rfl rfl ⟨rfl, rfl, rfl, rfl, rfl, rfl, rfl, rfl, rfl, rfl, trivial⟩ rfl rfl rfl d_Tx_readTenths_77 (fun H locs hV => ?_)
  refine lv_aload_n hx hb d_Tx_readTenths_80 rfl (lv_at hl 2 rfl) ?_
  refine lv_iload_n hx hb d_Tx_readTenths_81 rfl (lv_at hl 1 rfl) ?_
  refine lv_iload_n hx hb d_Tx_readTenths_82 rfl (lv_at hl 3 rfl) ?_
  refine lv_iload hx hb d_Tx_readTenths_83 (lv_at hl 5 rfl) ?_
  refine lv_iload hx hb d_Tx_readTenths_85 (lv_at hl 6 rfl) ?_
  obtain ⟨v_p2_chances_52, v_p2_shows_53, hc_54, hf⟩ := kb2_some hf
  refine k_cvv (w1 := (wd_Mo_putTenth D h_p2 h_p2_chances h_p2_shows h_p2_diary v_p2_seen v_p2_state v_p2_z v_p2_chances_52 v_p2_shows_53)) (ws' := (wd_Tx_readTenths D h h_tape h_tape_bytes h_p2 h_p2_chances h_p2_shows h_p2_diary v_tape_size v_tape_start_47 v_tape_end_48 v_tape_sort_49 v_tape_value_50 v_tape_bytes v_p2_seen v_p2_state v_p2_z v_p2_chances_52 v_p2_shows_53)) X hV hl.1 (c_Mo_putTenth D h_p2 h_p2_chances h_p2_shows h_p2_diary v_p2_seen v_p2_state v_p2_z v_p2_chances v_p2_shows x1 x3 x5 x6 hc_54) fk_Mo_putTenth gw_779 rfl 3 2 rfl rfl [3, 4, 5] [none, none, none, some 0, some 1, some 2] rfl rfl ⟨rfl, rfl, rfl, rfl, rfl, rfl, rfl, rfl, rfl, rfl, rfl, rfl, trivial⟩ rfl rfl rfl d_Tx_readTenths_87 (fun H locs hV => ?_)
  refine lv_iload hx hb d_Tx_readTenths_90 (lv_at hl 4 rfl) ?_
  refine lv_iload hx hb d_Tx_readTenths_92 (lv_at hl 6 rfl) ?_
  refine lv_isub hx hb d_Tx_readTenths_94 ?_
  refine lv_istore (lv' := [(4, .int (x4 - x6)), (0, .ref h), (1, .int x1), (2, .ref h_p2), (3, .int x3), (5, .int x5), (6, .int x6)]) hx hb d_Tx_readTenths_95 hl (by decide) rfl (fun ls hl => ?_)
  refine lv_iinc (v := (x5 + 1)) (lv' := [(5, .int (x5 + 1)), (4, .int (x4 - x6)), (0, .ref h), (1, .int x1), (2, .ref h_p2), (3, .int x3), (6, .int x6)]) hx hb d_Tx_readTenths_97 hl (k := 5) rfl rfl (by decide) rfl (fun ls hl => ?_)
  refine lv_goto (tgt := 36) hx hb d_Tx_readTenths_100 (by decide) ?_
  exact hrec1 _ _ _ _ _ _ _ _ hf _ _ _ hV (lv_sub hl [2, 3, 4, 5, 1, 0] rfl)
set_option maxHeartbeats 2000000 in
set_option maxRecDepth 20000 in
theorem tb_Tx_readTenths_1 {l : Launch} {p : Program} {e : Env} {s : State} {m : MethodId} {args : Array Value} {below : List Frame} {meth : Method} {c : Code} {D : kD} {wc0 : va_W} {h : Nat} {h_tape : Nat} {h_tape_bytes : Nat} {h_p2 : Nat} {h_p2_chances : Nat} {h_p2_shows : Nat} {h_p2_diary : Nat} {v_tape_size : Int32} {v_tape_start : Int32} {v_tape_end : Int32} {v_tape_sort : Int32} {v_tape_value : Int32} {v_tape_bytes : Nat → Int32} {v_p2_seen : Int32} {v_p2_state : Int32} {v_p2_z : Int32} {v_p2_chances : Nat → Int32} {v_p2_shows : Nat → Int32} {x1 : Int32} {x3 : Int32} {x4 : Int32} {x5 : Int32} {rec1 : Int32 → Int32 → Int32 → Int32 → Int32 → Int32 → (Nat → Int32) → (Nat → Int32) → Option (Int32 × Int32 × Int32 × Int32 × Int32 × (Nat → Int32) × (Nat → Int32))} {out : Int32 × Int32 × Int32 × Int32 × Int32 × (Nat → Int32) × (Nat → Int32)} (X : kX p m meth c s args D (va_A wc0 s.heap.size) b_Tx_readTenths "MountainFarms$SlopeText" 7 (some .boolean)) (hrec1 : ∀ (x4 : Int32) (x5 : Int32) (v_tape_start : Int32) (v_tape_end : Int32) (v_tape_sort : Int32) (v_tape_value : Int32) (v_p2_chances : Nat → Int32) (v_p2_shows : Nat → Int32), rec1 x4 x5 v_tape_start v_tape_end v_tape_sort v_tape_value v_p2_chances v_p2_shows = some out → ∀ (H : Heap) (locs : List Loc) (ls : Array Slot), kV D (va_A wc0 s.heap.size) s (wd_Tx_readTenths D h h_tape h_tape_bytes h_p2 h_p2_chances h_p2_shows h_p2_diary v_tape_size v_tape_start v_tape_end v_tape_sort v_tape_value v_tape_bytes v_p2_seen v_p2_state v_p2_z v_p2_chances v_p2_shows) H locs → lv_has ls 7 [(0, .ref h), (1, .int x1), (2, .ref h_p2), (3, .int x3), (4, .int x4), (5, .int x5)] → W p l e { frames := 3, cells := 0, slots := 0, locals := 61 } s m args below meth c H locs 0 0 (MQ below (kQi D wc0 (wd_Tx_readTenths D h h_tape h_tape_bytes h_p2 h_p2_chances h_p2_shows h_p2_diary v_tape_size out.2.1 out.2.2.1 out.2.2.2.1 out.2.2.2.2.1 v_tape_bytes v_p2_seen v_p2_state v_p2_z out.2.2.2.2.2.1 out.2.2.2.2.2.2) s.heap.size out.1) args s 0 0 (va_A wc0 s.heap.size)) (F0 m 36 ls [])) (hf : fb_Tx_readTenths_1 rec1 x1 x3 v_tape_size v_tape_bytes x4 x5 v_tape_start v_tape_end v_tape_sort v_tape_value v_p2_chances v_p2_shows = some out) {H : Heap} {locs : List Loc} (hV : kV D (va_A wc0 s.heap.size) s (wd_Tx_readTenths D h h_tape h_tape_bytes h_p2 h_p2_chances h_p2_shows h_p2_diary v_tape_size v_tape_start v_tape_end v_tape_sort v_tape_value v_tape_bytes v_p2_seen v_p2_state v_p2_z v_p2_chances v_p2_shows) H locs) {ls : Array Slot} (hl : lv_has ls 7 [(0, .ref h), (1, .int x1), (2, .ref h_p2), (3, .int x3), (4, .int x4), (5, .int x5)]) : W p l e { frames := 3, cells := 0, slots := 0, locals := 61 } s m args below meth c H locs 0 0 (MQ below (kQi D wc0 (wd_Tx_readTenths D h h_tape h_tape_bytes h_p2 h_p2_chances h_p2_shows h_p2_diary v_tape_size out.2.1 out.2.2.1 out.2.2.2.1 out.2.2.2.2.1 v_tape_bytes v_p2_seen v_p2_state v_p2_z out.2.2.2.2.2.1 out.2.2.2.2.2.2) s.heap.size out.1) args s 0 0 (va_A wc0 s.heap.size)) (F0 m 36 ls []) := by
  unfold fb_Tx_readTenths_1 at hf
  obtain ⟨hx, hb, -⟩ := id X
  refine lv_iload hx hb d_Tx_readTenths_36 (lv_at hl 5 rfl) ?_
  refine lv_iconst (v := 4) hx hb d_Tx_readTenths_38 ic_4 ?_
  refine lv_icmp_ge (tgt := 103) hx hb d_Tx_readTenths_39 (by decide) (fun c_41 => ?_) (fun c_41 => ?_)
  · replace hf := kifp c_41 hf
    refine lv_iconst (v := 1) hx hb d_Tx_readTenths_103 ic_1 ?_
    have e_ := Option.some.inj hf
    subst e_
    exact k_iret (v := 1) X rfl hV nb1 d_Tx_readTenths_104
  replace hf := kifn c_41 hf
  refine lv_aload_n hx hb d_Tx_readTenths_42 rfl (lv_at hl 0 rfl) ?_
  refine k_get X hV 0 6 0 rfl rfl rfl gw_223 rfl rfl d_Tx_readTenths_43 ?_
  refine lv_iload hx hb d_Tx_readTenths_46 (lv_at hl 4 rfl) ?_
  obtain ⟨r_42, hc_43, hf⟩ := kb1_some hf
  refine k_cvi (w1 := (wd_Ta_numberUpTo D h_tape h_tape_bytes v_tape_size v_tape_start v_tape_end v_tape_sort v_tape_value)) (r := r_42) (ws' := (wd_Tx_readTenths D h h_tape h_tape_bytes h_p2 h_p2_chances h_p2_shows h_p2_diary v_tape_size v_tape_start v_tape_end v_tape_sort v_tape_value v_tape_bytes v_p2_seen v_p2_state v_p2_z v_p2_chances v_p2_shows)) X hV hl.1 (c_Ta_numberUpTo D h_tape h_tape_bytes v_tape_size v_tape_start v_tape_end v_tape_sort v_tape_value x4 hc_43) fk_Ta_numberUpTo gw_748 rfl 1 7 rfl rfl [1] [none, some 0, none, none, none, none] rfl rfl ⟨rfl, rfl, rfl, rfl, rfl, rfl, rfl, rfl, trivial⟩ rfl rfl rfl d_Tx_readTenths_48 (fun H locs hV => ?_)
  refine lv_istore (lv' := [(6, .int r_42), (0, .ref h), (1, .int x1), (2, .ref h_p2), (3, .int x3), (4, .int x4), (5, .int x5)]) hx hb d_Tx_readTenths_51 hl (by decide) rfl (fun ls hl => ?_)
  refine lv_iload hx hb d_Tx_readTenths_53 (lv_at hl 0 rfl) ?_
  refine lv_if_lt (tgt := 71) hx hb d_Tx_readTenths_55 (by decide) (fun c_44 => ?_) (fun c_44 => ?_)
  · replace hf := kifp c_44 hf
    refine lv_iconst (v := 0) hx hb d_Tx_readTenths_71 ic_0 ?_
    have e_ := Option.some.inj hf
    subst e_
    exact k_iret (v := 0) X rfl hV nb0 d_Tx_readTenths_72
  replace hf := kifn c_44 hf
  refine lv_iload hx hb d_Tx_readTenths_58 (lv_at hl 6 rfl) ?_
  refine lv_iconst (v := 3) hx hb d_Tx_readTenths_60 ic_3 ?_
  refine lv_icmp_ne (tgt := 73) hx hb d_Tx_readTenths_61 (by decide) (fun c_45 => ?_) (fun c_45 => ?_)
  · replace hf := kifn c_45 hf
    exact t_Tx_readTenths_2 X hrec1 hf hV (lv_sub hl [1, 2, 3, 4, 5, 6, 0] rfl)
  replace hf := kifp c_45 hf
  refine lv_iload hx hb d_Tx_readTenths_64 (lv_at hl 0 rfl) ?_
  refine lv_iload hx hb d_Tx_readTenths_66 (lv_at hl 5 rfl) ?_
  refine lv_icmp_eq (tgt := 73) hx hb d_Tx_readTenths_68 (by decide) (fun c_46 => ?_) (fun c_46 => ?_)
  · replace hf := kifp c_46 hf
    exact t_Tx_readTenths_2 X hrec1 hf hV (lv_sub hl [1, 2, 3, 4, 5, 6, 0] rfl)
  replace hf := kifn c_46 hf
  refine lv_iconst (v := 0) hx hb d_Tx_readTenths_71 ic_0 ?_
  have e_ := Option.some.inj hf
  subst e_
  exact k_iret (v := 0) X rfl hV nb0 d_Tx_readTenths_72
set_option maxHeartbeats 2000000 in
set_option maxRecDepth 20000 in
theorem tl_Tx_readTenths_1 {l : Launch} {p : Program} {e : Env} {s : State} {m : MethodId} {args : Array Value} {below : List Frame} {meth : Method} {c : Code} {D : kD} {wc0 : va_W} {h : Nat} {h_tape : Nat} {h_tape_bytes : Nat} {h_p2 : Nat} {h_p2_chances : Nat} {h_p2_shows : Nat} {h_p2_diary : Nat} {v_tape_size : Int32} {v_tape_bytes : Nat → Int32} {v_p2_seen : Int32} {v_p2_state : Int32} {v_p2_z : Int32} {x1 : Int32} {x3 : Int32} {out : Int32 × Int32 × Int32 × Int32 × Int32 × (Nat → Int32) × (Nat → Int32)} (X : kX p m meth c s args D (va_A wc0 s.heap.size) b_Tx_readTenths "MountainFarms$SlopeText" 7 (some .boolean)) : ∀ (n : Nat) (x4 : Int32) (x5 : Int32) (v_tape_start : Int32) (v_tape_end : Int32) (v_tape_sort : Int32) (v_tape_value : Int32) (v_p2_chances : Nat → Int32) (v_p2_shows : Nat → Int32), fl_Tx_readTenths_1 x1 x3 v_tape_size v_tape_bytes n x4 x5 v_tape_start v_tape_end v_tape_sort v_tape_value v_p2_chances v_p2_shows = some out → ∀ (H : Heap) (locs : List Loc) (ls : Array Slot), kV D (va_A wc0 s.heap.size) s (wd_Tx_readTenths D h h_tape h_tape_bytes h_p2 h_p2_chances h_p2_shows h_p2_diary v_tape_size v_tape_start v_tape_end v_tape_sort v_tape_value v_tape_bytes v_p2_seen v_p2_state v_p2_z v_p2_chances v_p2_shows) H locs → lv_has ls 7 [(0, .ref h), (1, .int x1), (2, .ref h_p2), (3, .int x3), (4, .int x4), (5, .int x5)] → W p l e { frames := 3, cells := 0, slots := 0, locals := 61 } s m args below meth c H locs 0 0 (MQ below (kQi D wc0 (wd_Tx_readTenths D h h_tape h_tape_bytes h_p2 h_p2_chances h_p2_shows h_p2_diary v_tape_size out.2.1 out.2.2.1 out.2.2.2.1 out.2.2.2.2.1 v_tape_bytes v_p2_seen v_p2_state v_p2_z out.2.2.2.2.2.1 out.2.2.2.2.2.2) s.heap.size out.1) args s 0 0 (va_A wc0 s.heap.size)) (F0 m 36 ls []) := by
  intro n
  induction n with
  | zero => intro x4 x5 v_tape_start v_tape_end v_tape_sort v_tape_value v_p2_chances v_p2_shows hf; exact knone hf
  | succ n ih => intro x4 x5 v_tape_start v_tape_end v_tape_sort v_tape_value v_p2_chances v_p2_shows hf H locs ls hV hl; exact tb_Tx_readTenths_1 X ih hf hV hl
set_option maxHeartbeats 2000000 in
set_option maxRecDepth 20000 in
theorem t_Tx_readTenths {l : Launch} {p : Program} {e : Env} {s : State} {m : MethodId} {args : Array Value} {below : List Frame} {meth : Method} {c : Code} {D : kD} {wc0 : va_W} {h : Nat} {h_tape : Nat} {h_tape_bytes : Nat} {h_p2 : Nat} {h_p2_chances : Nat} {h_p2_shows : Nat} {h_p2_diary : Nat} {v_tape_size : Int32} {v_tape_start : Int32} {v_tape_end : Int32} {v_tape_sort : Int32} {v_tape_value : Int32} {v_tape_bytes : Nat → Int32} {v_p2_seen : Int32} {v_p2_state : Int32} {v_p2_z : Int32} {v_p2_chances : Nat → Int32} {v_p2_shows : Nat → Int32} {x1 : Int32} {out : Int32 × Int32 × Int32 × Int32 × Int32 × (Nat → Int32) × (Nat → Int32)} (X : kX p m meth c s args D (va_A wc0 s.heap.size) b_Tx_readTenths "MountainFarms$SlopeText" 7 (some .boolean)) (hf : f_Tx_readTenths v_tape_size v_tape_start v_tape_end v_tape_sort v_tape_value v_tape_bytes v_p2_chances v_p2_shows x1 = some out) {H : Heap} {locs : List Loc} (hV : kV D (va_A wc0 s.heap.size) s (wd_Tx_readTenths D h h_tape h_tape_bytes h_p2 h_p2_chances h_p2_shows h_p2_diary v_tape_size v_tape_start v_tape_end v_tape_sort v_tape_value v_tape_bytes v_p2_seen v_p2_state v_p2_z v_p2_chances v_p2_shows) H locs) {ls : Array Slot} (hl : lv_has ls 7 [(0, .ref h), (1, .int x1), (2, .ref h_p2)]) : W p l e { frames := 3, cells := 0, slots := 0, locals := 61 } s m args below meth c H locs 0 0 (MQ below (kQi D wc0 (wd_Tx_readTenths D h h_tape h_tape_bytes h_p2 h_p2_chances h_p2_shows h_p2_diary v_tape_size out.2.1 out.2.2.1 out.2.2.2.1 out.2.2.2.2.1 v_tape_bytes v_p2_seen v_p2_state v_p2_z out.2.2.2.2.2.1 out.2.2.2.2.2.2) s.heap.size out.1) args s 0 0 (va_A wc0 s.heap.size)) (F0 m 0 ls []) := by
  unfold f_Tx_readTenths at hf
  obtain ⟨hx, hb, -⟩ := id X
  refine lv_aload_n hx hb d_Tx_readTenths_0 rfl (lv_at hl 0 rfl) ?_
  refine k_get X hV 0 6 0 rfl rfl rfl gw_223 rfl rfl d_Tx_readTenths_1 ?_
  obtain ⟨v_tape_start_28, v_tape_end_29, v_tape_sort_30, v_tape_value_31, hc_32, hf⟩ := kb4_some hf
  refine k_cvv (w1 := (wd_Ta_goToNext D h_tape h_tape_bytes v_tape_size v_tape_start_28 v_tape_end_29 v_tape_sort_30 v_tape_value_31 v_tape_bytes)) (ws' := (wd_Tx_readTenths D h h_tape h_tape_bytes h_p2 h_p2_chances h_p2_shows h_p2_diary v_tape_size v_tape_start_28 v_tape_end_29 v_tape_sort_30 v_tape_value_31 v_tape_bytes v_p2_seen v_p2_state v_p2_z v_p2_chances v_p2_shows)) X hV hl.1 (c_Ta_goToNext D h_tape h_tape_bytes v_tape_size v_tape_start v_tape_end v_tape_sort v_tape_value v_tape_bytes hc_32) fk_Ta_goToNext gw_746 rfl 1 7 rfl rfl [1, 2] [none, some 0, some 1, none, none, none] rfl rfl ⟨rfl, rfl, rfl, rfl, rfl, rfl, rfl, rfl, rfl, rfl, trivial⟩ rfl rfl rfl d_Tx_readTenths_4 (fun H locs hV => ?_)
  refine lv_aload_n hx hb d_Tx_readTenths_7 rfl (lv_at hl 0 rfl) ?_
  refine k_get X hV 0 6 0 rfl rfl rfl gw_223 rfl rfl d_Tx_readTenths_8 ?_
  refine lv_iconst (v := 3) hx hb d_Tx_readTenths_11 ic_3 ?_
  obtain ⟨r_33, hc_34, hf⟩ := kb1_some hf
  refine k_cvi (w1 := (wd_Ta_numberUpTo D h_tape h_tape_bytes v_tape_size v_tape_start_28 v_tape_end_29 v_tape_sort_30 v_tape_value_31)) (r := r_33) (ws' := (wd_Tx_readTenths D h h_tape h_tape_bytes h_p2 h_p2_chances h_p2_shows h_p2_diary v_tape_size v_tape_start_28 v_tape_end_29 v_tape_sort_30 v_tape_value_31 v_tape_bytes v_p2_seen v_p2_state v_p2_z v_p2_chances v_p2_shows)) X hV hl.1 (c_Ta_numberUpTo D h_tape h_tape_bytes v_tape_size v_tape_start_28 v_tape_end_29 v_tape_sort_30 v_tape_value_31 (3 : Int32) hc_34) fk_Ta_numberUpTo gw_748 rfl 1 7 rfl rfl [1] [none, some 0, none, none, none, none] rfl rfl ⟨rfl, rfl, rfl, rfl, rfl, rfl, rfl, rfl, trivial⟩ rfl rfl rfl d_Tx_readTenths_12 (fun H locs hV => ?_)
  refine lv_istore_n (lv' := [(3, .int r_33), (0, .ref h), (1, .int x1), (2, .ref h_p2)]) hx hb d_Tx_readTenths_15 rfl hl (by decide) rfl (fun ls hl => ?_)
  refine lv_iload_n hx hb d_Tx_readTenths_16 rfl (lv_at hl 0 rfl) ?_
  refine lv_if_ge (tgt := 22) hx hb d_Tx_readTenths_17 (by decide) (fun c_35 => ?_) (fun c_35 => ?_)
  · replace hf := kifp c_35 hf
    refine lv_aload_n hx hb d_Tx_readTenths_22 rfl (lv_at hl 1 rfl) ?_
    refine k_get X hV 0 6 0 rfl rfl rfl gw_223 rfl rfl d_Tx_readTenths_23 ?_
    obtain ⟨v_tape_start_36, v_tape_end_37, v_tape_sort_38, v_tape_value_39, hc_40, hf⟩ := kb4_some hf
    refine k_cvv (w1 := (wd_Ta_goToNext D h_tape h_tape_bytes v_tape_size v_tape_start_36 v_tape_end_37 v_tape_sort_38 v_tape_value_39 v_tape_bytes)) (ws' := (wd_Tx_readTenths D h h_tape h_tape_bytes h_p2 h_p2_chances h_p2_shows h_p2_diary v_tape_size v_tape_start_36 v_tape_end_37 v_tape_sort_38 v_tape_value_39 v_tape_bytes v_p2_seen v_p2_state v_p2_z v_p2_chances v_p2_shows)) X hV hl.1 (c_Ta_goToNext D h_tape h_tape_bytes v_tape_size v_tape_start_28 v_tape_end_29 v_tape_sort_30 v_tape_value_31 v_tape_bytes hc_40) fk_Ta_goToNext gw_746 rfl 1 7 rfl rfl [1, 2] [none, some 0, some 1, none, none, none] rfl rfl ⟨rfl, rfl, rfl, rfl, rfl, rfl, rfl, rfl, rfl, rfl, trivial⟩ rfl rfl rfl d_Tx_readTenths_26 (fun H locs hV => ?_)
    refine lv_bipush (v := 10) hx hb d_Tx_readTenths_29 bp_10 ?_
    refine lv_istore (lv' := [(4, .int (10 : Int32)), (3, .int r_33), (0, .ref h), (1, .int x1), (2, .ref h_p2)]) hx hb d_Tx_readTenths_31 hl (by decide) rfl (fun ls hl => ?_)
    refine lv_iconst (v := 0) hx hb d_Tx_readTenths_33 ic_0 ?_
    refine lv_istore (lv' := [(5, .int (0 : Int32)), (4, .int (10 : Int32)), (3, .int r_33), (0, .ref h), (1, .int x1), (2, .ref h_p2)]) hx hb d_Tx_readTenths_34 hl (by decide) rfl (fun ls hl => ?_)
    exact tl_Tx_readTenths_1 X _ _ _ _ _ _ _ _ _ hf _ _ _ hV (lv_sub hl [3, 4, 5, 2, 1, 0] rfl)
  replace hf := kifn c_35 hf
  refine lv_iconst (v := 0) hx hb d_Tx_readTenths_20 ic_0 ?_
  have e_ := Option.some.inj hf
  subst e_
  exact k_iret (v := 0) X rfl hV nb0 d_Tx_readTenths_21
set_option maxHeartbeats 2000000 in
set_option maxRecDepth 20000 in
theorem c_Tx_readTenths {l : Launch} (D : kD) (h : Nat) (h_tape : Nat) (h_tape_bytes : Nat) (h_p2 : Nat) (h_p2_chances : Nat) (h_p2_shows : Nat) (h_p2_diary : Nat) (v_tape_size : Int32) (v_tape_start : Int32) (v_tape_end : Int32) (v_tape_sort : Int32) (v_tape_value : Int32) (v_tape_bytes : Nat → Int32) (v_p2_seen : Int32) (v_p2_state : Int32) (v_p2_z : Int32) (v_p2_chances : Nat → Int32) (v_p2_shows : Nat → Int32) (x1 : Int32) {out : Int32 × Int32 × Int32 × Int32 × Int32 × (Nat → Int32) × (Nat → Int32)} (hf : f_Tx_readTenths v_tape_size v_tape_start v_tape_end v_tape_sort v_tape_value v_tape_bytes v_p2_chances v_p2_shows x1 = some out) : kMi l D y_Tx_readTenths b_Tx_readTenths 7 (some .boolean) { frames := 3, cells := 0, slots := 0, locals := 61 } [.ref h, .int x1, .ref h_p2] (wd_Tx_readTenths D h h_tape h_tape_bytes h_p2 h_p2_chances h_p2_shows h_p2_diary v_tape_size v_tape_start v_tape_end v_tape_sort v_tape_value v_tape_bytes v_p2_seen v_p2_state v_p2_z v_p2_chances v_p2_shows) (wd_Tx_readTenths D h h_tape h_tape_bytes h_p2 h_p2_chances h_p2_shows h_p2_diary v_tape_size out.2.1 out.2.2.1 out.2.2.2.1 out.2.2.2.2.1 v_tape_bytes v_p2_seen v_p2_state v_p2_z out.2.2.2.2.2.1 out.2.2.2.2.2.2) out.1 :=
  kMi_of (own := "MountainFarms$SlopeText") (plainFor_of_name (by decide)) rfl rfl (fun p e s m args below meth c ls X hV hl => t_Tx_readTenths X hf hV hl)
set_option maxHeartbeats 2000000 in
set_option maxRecDepth 20000 in
theorem t_Ta_isAtNumber {l : Launch} {p : Program} {e : Env} {s : State} {m : MethodId} {args : Array Value} {below : List Frame} {meth : Method} {c : Code} {D : kD} {wc0 : va_W} {h : Nat} {h_bytes : Nat} {v_size : Int32} {v_start : Int32} {v_end : Int32} {v_sort : Int32} {v_value : Int32} {out : Int32} (X : kX p m meth c s args D (va_A wc0 s.heap.size) b_Ta_isAtNumber "MountainFarms$Tape" 1 (some .boolean)) (hf : f_Ta_isAtNumber v_sort = some out) {H : Heap} {locs : List Loc} (hV : kV D (va_A wc0 s.heap.size) s (wd_Ta_isAtNumber D h h_bytes v_size v_start v_end v_sort v_value) H locs) {ls : Array Slot} (hl : lv_has ls 1 [(0, .ref h)]) : W p l e { frames := 0, cells := 0, slots := 0, locals := 0 } s m args below meth c H locs 0 0 (MQ below (kQi D wc0 (wd_Ta_isAtNumber D h h_bytes v_size v_start v_end v_sort v_value) s.heap.size out) args s 0 0 (va_A wc0 s.heap.size)) (F0 m 0 ls []) := by
  unfold f_Ta_isAtNumber at hf
  obtain ⟨hx, hb, -⟩ := id X
  refine lv_aload_n hx hb d_Ta_isAtNumber_0 rfl (lv_at hl 0 rfl) ?_
  refine k_get X hV 0 7 4 rfl rfl rfl gw_208 rfl rfl d_Ta_isAtNumber_1 ?_
  refine lv_iconst (v := 2) hx hb d_Ta_isAtNumber_4 ic_2 ?_
  refine lv_icmp_ne (tgt := 12) hx hb d_Ta_isAtNumber_5 (by decide) (fun c_2 => ?_) (fun c_2 => ?_)
  · replace hf := kifn c_2 hf
    refine lv_iconst (v := 0) hx hb d_Ta_isAtNumber_12 ic_0 ?_
    have e_ := Option.some.inj hf
    subst e_
    exact k_iret (v := 0) X rfl hV nb0 d_Ta_isAtNumber_13
  replace hf := kifp c_2 hf
  refine lv_iconst (v := 1) hx hb d_Ta_isAtNumber_8 ic_1 ?_
  refine lv_goto (tgt := 13) hx hb d_Ta_isAtNumber_9 (by decide) ?_
  have e_ := Option.some.inj hf
  subst e_
  exact k_iret (v := 1) X rfl hV nb1 d_Ta_isAtNumber_13
set_option maxHeartbeats 2000000 in
set_option maxRecDepth 20000 in
theorem c_Ta_isAtNumber {l : Launch} (D : kD) (h : Nat) (h_bytes : Nat) (v_size : Int32) (v_start : Int32) (v_end : Int32) (v_sort : Int32) (v_value : Int32) {out : Int32} (hf : f_Ta_isAtNumber v_sort = some out) : kMi l D y_Ta_isAtNumber b_Ta_isAtNumber 1 (some .boolean) { frames := 0, cells := 0, slots := 0, locals := 0 } [.ref h] (wd_Ta_isAtNumber D h h_bytes v_size v_start v_end v_sort v_value) (wd_Ta_isAtNumber D h h_bytes v_size v_start v_end v_sort v_value) out :=
  kMi_of (own := "MountainFarms$Tape") (plainFor_of_name (by decide)) rfl rfl (fun p e s m args below meth c ls X hV hl => t_Ta_isAtNumber X hf hV hl)
set_option maxHeartbeats 2000000 in
set_option maxRecDepth 20000 in
theorem t_Tx_readDiary_2 {l : Launch} {p : Program} {e : Env} {s : State} {m : MethodId} {args : Array Value} {below : List Frame} {meth : Method} {c : Code} {D : kD} {wc0 : va_W} {h : Nat} {h_tape : Nat} {h_tape_bytes : Nat} {h_p1 : Nat} {h_p1_chances : Nat} {h_p1_shows : Nat} {h_p1_diary : Nat} {v_tape_size : Int32} {v_tape_start : Int32} {v_tape_end : Int32} {v_tape_sort : Int32} {v_tape_value : Int32} {v_tape_bytes : Nat → Int32} {v_p1_seen : Int32} {v_p1_state : Int32} {v_p1_z : Int32} {v_p1_diary : Nat → Int32} {out : Int32 × Int32 × Int32 × Int32 × Int32 × Int32 × (Nat → Int32)} (X : kX p m meth c s args D (va_A wc0 s.heap.size) b_Tx_readDiary "MountainFarms$SlopeText" 4 (some .boolean)) (hf : f_Tx_readDiary_2 v_tape_start v_tape_end v_tape_sort v_tape_value v_p1_seen v_p1_diary = some out) {H : Heap} {locs : List Loc} (hV : kV D (va_A wc0 s.heap.size) s (wd_Tx_readDiary D h h_tape h_tape_bytes h_p1 h_p1_chances h_p1_shows h_p1_diary v_tape_size v_tape_start v_tape_end v_tape_sort v_tape_value v_tape_bytes v_p1_seen v_p1_state v_p1_z v_p1_diary) H locs) {ls : Array Slot} (hl : lv_has ls 4 [(0, .ref h)]) : W p l e { frames := 3, cells := 0, slots := 0, locals := 61 } s m args below meth c H locs 0 0 (MQ below (kQi D wc0 (wd_Tx_readDiary D h h_tape h_tape_bytes h_p1 h_p1_chances h_p1_shows h_p1_diary v_tape_size out.2.1 out.2.2.1 out.2.2.2.1 out.2.2.2.2.1 v_tape_bytes out.2.2.2.2.2.1 v_p1_state v_p1_z out.2.2.2.2.2.2) s.heap.size out.1) args s 0 0 (va_A wc0 s.heap.size)) (F0 m 75 ls []) := by
  unfold f_Tx_readDiary_2 at hf
  obtain ⟨hx, hb, -⟩ := id X
  refine lv_aload_n hx hb d_Tx_readDiary_75 rfl (lv_at hl 0 rfl) ?_
  refine k_get X hV 0 6 0 rfl rfl rfl gw_223 rfl rfl d_Tx_readDiary_76 ?_
  obtain ⟨r_50, hc_51, hf⟩ := kb1_some hf
  refine k_cvi (w1 := (wd_Ta_isAtNumber D h_tape h_tape_bytes v_tape_size v_tape_start v_tape_end v_tape_sort v_tape_value)) (r := r_50) (ws' := (wd_Tx_readDiary D h h_tape h_tape_bytes h_p1 h_p1_chances h_p1_shows h_p1_diary v_tape_size v_tape_start v_tape_end v_tape_sort v_tape_value v_tape_bytes v_p1_seen v_p1_state v_p1_z v_p1_diary)) X hV hl.1 (c_Ta_isAtNumber D h_tape h_tape_bytes v_tape_size v_tape_start v_tape_end v_tape_sort v_tape_value hc_51) fk_Ta_isAtNumber gw_786 rfl 1 7 rfl rfl [1] [none, some 0, none, none, none] rfl rfl ⟨rfl, rfl, rfl, rfl, rfl, rfl, rfl, trivial⟩ rfl rfl rfl d_Tx_readDiary_79 (fun H locs hV => ?_)
  refine lv_if_ne (tgt := 89) hx hb d_Tx_readDiary_82 (by decide) (fun c_52 => ?_) (fun c_52 => ?_)
  · replace hf := kifn c_52 hf
    refine lv_iconst (v := 0) hx hb d_Tx_readDiary_89 ic_0 ?_
    have e_ := Option.some.inj hf
    subst e_
    exact k_iret (v := 0) X rfl hV nb0 d_Tx_readDiary_90
  replace hf := kifp c_52 hf
  refine lv_iconst (v := 1) hx hb d_Tx_readDiary_85 ic_1 ?_
  refine lv_goto (tgt := 90) hx hb d_Tx_readDiary_86 (by decide) ?_
  have e_ := Option.some.inj hf
  subst e_
  exact k_iret (v := 1) X rfl hV nb1 d_Tx_readDiary_90
set_option maxHeartbeats 2000000 in
set_option maxRecDepth 20000 in
theorem tb_Tx_readDiary_1 {l : Launch} {p : Program} {e : Env} {s : State} {m : MethodId} {args : Array Value} {below : List Frame} {meth : Method} {c : Code} {D : kD} {wc0 : va_W} {h : Nat} {h_tape : Nat} {h_tape_bytes : Nat} {h_p1 : Nat} {h_p1_chances : Nat} {h_p1_shows : Nat} {h_p1_diary : Nat} {v_tape_size : Int32} {v_tape_start : Int32} {v_tape_end : Int32} {v_tape_sort : Int32} {v_tape_value : Int32} {v_tape_bytes : Nat → Int32} {v_p1_seen : Int32} {v_p1_state : Int32} {v_p1_z : Int32} {v_p1_diary : Nat → Int32} {x2 : Int32} {rec1 : Int32 → Int32 → Int32 → Int32 → Int32 → Int32 → (Nat → Int32) → Option (Int32 × Int32 × Int32 × Int32 × Int32 × Int32 × (Nat → Int32))} {out : Int32 × Int32 × Int32 × Int32 × Int32 × Int32 × (Nat → Int32)} (X : kX p m meth c s args D (va_A wc0 s.heap.size) b_Tx_readDiary "MountainFarms$SlopeText" 4 (some .boolean)) (hrec1 : ∀ (x2 : Int32) (v_tape_start : Int32) (v_tape_end : Int32) (v_tape_sort : Int32) (v_tape_value : Int32) (v_p1_seen : Int32) (v_p1_diary : Nat → Int32), rec1 x2 v_tape_start v_tape_end v_tape_sort v_tape_value v_p1_seen v_p1_diary = some out → ∀ (H : Heap) (locs : List Loc) (ls : Array Slot), kV D (va_A wc0 s.heap.size) s (wd_Tx_readDiary D h h_tape h_tape_bytes h_p1 h_p1_chances h_p1_shows h_p1_diary v_tape_size v_tape_start v_tape_end v_tape_sort v_tape_value v_tape_bytes v_p1_seen v_p1_state v_p1_z v_p1_diary) H locs → lv_has ls 4 [(0, .ref h), (1, .ref h_p1), (2, .int x2)] → W p l e { frames := 3, cells := 0, slots := 0, locals := 61 } s m args below meth c H locs 0 0 (MQ below (kQi D wc0 (wd_Tx_readDiary D h h_tape h_tape_bytes h_p1 h_p1_chances h_p1_shows h_p1_diary v_tape_size out.2.1 out.2.2.1 out.2.2.2.1 out.2.2.2.2.1 v_tape_bytes out.2.2.2.2.2.1 v_p1_state v_p1_z out.2.2.2.2.2.2) s.heap.size out.1) args s 0 0 (va_A wc0 s.heap.size)) (F0 m 26 ls [])) (hf : fb_Tx_readDiary_1 rec1 v_tape_size v_tape_bytes x2 v_tape_start v_tape_end v_tape_sort v_tape_value v_p1_seen v_p1_diary = some out) {H : Heap} {locs : List Loc} (hV : kV D (va_A wc0 s.heap.size) s (wd_Tx_readDiary D h h_tape h_tape_bytes h_p1 h_p1_chances h_p1_shows h_p1_diary v_tape_size v_tape_start v_tape_end v_tape_sort v_tape_value v_tape_bytes v_p1_seen v_p1_state v_p1_z v_p1_diary) H locs) {ls : Array Slot} (hl : lv_has ls 4 [(0, .ref h), (1, .ref h_p1), (2, .int x2)]) : W p l e { frames := 3, cells := 0, slots := 0, locals := 61 } s m args below meth c H locs 0 0 (MQ below (kQi D wc0 (wd_Tx_readDiary D h h_tape h_tape_bytes h_p1 h_p1_chances h_p1_shows h_p1_diary v_tape_size out.2.1 out.2.2.1 out.2.2.2.1 out.2.2.2.2.1 v_tape_bytes out.2.2.2.2.2.1 v_p1_state v_p1_z out.2.2.2.2.2.2) s.heap.size out.1) args s 0 0 (va_A wc0 s.heap.size)) (F0 m 26 ls []) := by
  unfold fb_Tx_readDiary_1 at hf
  obtain ⟨hx, hb, -⟩ := id X
  refine lv_iload_n hx hb d_Tx_readDiary_26 rfl (lv_at hl 2 rfl) ?_
  refine lv_bipush (v := 6) hx hb d_Tx_readDiary_27 bp_6 ?_
  refine lv_icmp_ge (tgt := 75) hx hb d_Tx_readDiary_29 (by decide) (fun c_35 => ?_) (fun c_35 => ?_)
  · replace hf := kifp c_35 hf
    exact t_Tx_readDiary_2 X hf hV (lv_sub hl [0] rfl)
  replace hf := kifn c_35 hf
  refine lv_aload_n hx hb d_Tx_readDiary_32 rfl (lv_at hl 0 rfl) ?_
  refine k_get X hV 0 6 0 rfl rfl rfl gw_223 rfl rfl d_Tx_readDiary_33 ?_
  obtain ⟨r_36, hc_37, hf⟩ := kb1_some hf
  refine k_cvi (w1 := (wd_Ta_isAtNumber D h_tape h_tape_bytes v_tape_size v_tape_start v_tape_end v_tape_sort v_tape_value)) (r := r_36) (ws' := (wd_Tx_readDiary D h h_tape h_tape_bytes h_p1 h_p1_chances h_p1_shows h_p1_diary v_tape_size v_tape_start v_tape_end v_tape_sort v_tape_value v_tape_bytes v_p1_seen v_p1_state v_p1_z v_p1_diary)) X hV hl.1 (c_Ta_isAtNumber D h_tape h_tape_bytes v_tape_size v_tape_start v_tape_end v_tape_sort v_tape_value hc_37) fk_Ta_isAtNumber gw_786 rfl 1 7 rfl rfl [1] [none, some 0, none, none, none] rfl rfl ⟨rfl, rfl, rfl, rfl, rfl, rfl, rfl, trivial⟩ rfl rfl rfl d_Tx_readDiary_36 (fun H locs hV => ?_)
  refine lv_if_eq (tgt := 75) hx hb d_Tx_readDiary_39 (by decide) (fun c_38 => ?_) (fun c_38 => ?_)
  · replace hf := kifp c_38 hf
    exact t_Tx_readDiary_2 X hf hV (lv_sub hl [0] rfl)
  replace hf := kifn c_38 hf
  refine lv_aload_n hx hb d_Tx_readDiary_42 rfl (lv_at hl 0 rfl) ?_
  refine k_get X hV 0 6 0 rfl rfl rfl gw_223 rfl rfl d_Tx_readDiary_43 ?_
  refine lv_iconst (v := 3) hx hb d_Tx_readDiary_46 ic_3 ?_
  obtain ⟨r_39, hc_40, hf⟩ := kb1_some hf
  refine k_cvi (w1 := (wd_Ta_numberUpTo D h_tape h_tape_bytes v_tape_size v_tape_start v_tape_end v_tape_sort v_tape_value)) (r := r_39) (ws' := (wd_Tx_readDiary D h h_tape h_tape_bytes h_p1 h_p1_chances h_p1_shows h_p1_diary v_tape_size v_tape_start v_tape_end v_tape_sort v_tape_value v_tape_bytes v_p1_seen v_p1_state v_p1_z v_p1_diary)) X hV hl.1 (c_Ta_numberUpTo D h_tape h_tape_bytes v_tape_size v_tape_start v_tape_end v_tape_sort v_tape_value (3 : Int32) hc_40) fk_Ta_numberUpTo gw_748 rfl 1 7 rfl rfl [1] [none, some 0, none, none, none] rfl rfl ⟨rfl, rfl, rfl, rfl, rfl, rfl, rfl, trivial⟩ rfl rfl rfl d_Tx_readDiary_47 (fun H locs hV => ?_)
  refine lv_istore_n (lv' := [(3, .int r_39), (0, .ref h), (1, .ref h_p1), (2, .int x2)]) hx hb d_Tx_readDiary_50 rfl hl (by decide) rfl (fun ls hl => ?_)
  refine lv_iload_n hx hb d_Tx_readDiary_51 rfl (lv_at hl 0 rfl) ?_
  refine lv_if_ge (tgt := 57) hx hb d_Tx_readDiary_52 (by decide) (fun c_41 => ?_) (fun c_41 => ?_)
  · replace hf := kifp c_41 hf
    refine lv_aload_n hx hb d_Tx_readDiary_57 rfl (lv_at hl 2 rfl) ?_
    refine lv_iload_n hx hb d_Tx_readDiary_58 rfl (lv_at hl 0 rfl) ?_
    obtain ⟨v_p1_seen_42, v_p1_diary_43, hc_44, hf⟩ := kb2_some hf
    refine k_cvv (w1 := (wd_Mo_addSign D h_p1 h_p1_chances h_p1_shows h_p1_diary v_p1_seen_42 v_p1_state v_p1_z v_p1_diary_43)) (ws' := (wd_Tx_readDiary D h h_tape h_tape_bytes h_p1 h_p1_chances h_p1_shows h_p1_diary v_tape_size v_tape_start v_tape_end v_tape_sort v_tape_value v_tape_bytes v_p1_seen_42 v_p1_state v_p1_z v_p1_diary_43)) X hV hl.1 (c_Mo_addSign D h_p1 h_p1_chances h_p1_shows h_p1_diary v_p1_seen v_p1_state v_p1_z v_p1_diary r_39 hc_44) fk_Mo_addSign gw_790 rfl 3 2 rfl rfl [3, 4] [none, none, none, some 0, some 1] rfl rfl ⟨rfl, rfl, rfl, rfl, rfl, rfl, rfl, rfl, rfl, trivial⟩ rfl rfl rfl d_Tx_readDiary_59 (fun H locs hV => ?_)
    refine lv_aload_n hx hb d_Tx_readDiary_62 rfl (lv_at hl 1 rfl) ?_
    refine k_get X hV 0 6 0 rfl rfl rfl gw_223 rfl rfl d_Tx_readDiary_63 ?_
    obtain ⟨v_tape_start_45, v_tape_end_46, v_tape_sort_47, v_tape_value_48, hc_49, hf⟩ := kb4_some hf
    refine k_cvv (w1 := (wd_Ta_goToNext D h_tape h_tape_bytes v_tape_size v_tape_start_45 v_tape_end_46 v_tape_sort_47 v_tape_value_48 v_tape_bytes)) (ws' := (wd_Tx_readDiary D h h_tape h_tape_bytes h_p1 h_p1_chances h_p1_shows h_p1_diary v_tape_size v_tape_start_45 v_tape_end_46 v_tape_sort_47 v_tape_value_48 v_tape_bytes v_p1_seen_42 v_p1_state v_p1_z v_p1_diary_43)) X hV hl.1 (c_Ta_goToNext D h_tape h_tape_bytes v_tape_size v_tape_start v_tape_end v_tape_sort v_tape_value v_tape_bytes hc_49) fk_Ta_goToNext gw_746 rfl 1 7 rfl rfl [1, 2] [none, some 0, some 1, none, none] rfl rfl ⟨rfl, rfl, rfl, rfl, rfl, rfl, rfl, rfl, rfl, trivial⟩ rfl rfl rfl d_Tx_readDiary_66 (fun H locs hV => ?_)
    refine lv_iinc (v := (x2 + 1)) (lv' := [(2, .int (x2 + 1)), (3, .int r_39), (0, .ref h), (1, .ref h_p1)]) hx hb d_Tx_readDiary_69 hl (k := 3) rfl rfl (by decide) rfl (fun ls hl => ?_)
    refine lv_goto (tgt := 26) hx hb d_Tx_readDiary_72 (by decide) ?_
    exact hrec1 _ _ _ _ _ _ _ hf _ _ _ hV (lv_sub hl [2, 3, 0] rfl)
  replace hf := kifn c_41 hf
  refine lv_iconst (v := 0) hx hb d_Tx_readDiary_55 ic_0 ?_
  have e_ := Option.some.inj hf
  subst e_
  exact k_iret (v := 0) X rfl hV nb0 d_Tx_readDiary_56
set_option maxHeartbeats 2000000 in
set_option maxRecDepth 20000 in
theorem tl_Tx_readDiary_1 {l : Launch} {p : Program} {e : Env} {s : State} {m : MethodId} {args : Array Value} {below : List Frame} {meth : Method} {c : Code} {D : kD} {wc0 : va_W} {h : Nat} {h_tape : Nat} {h_tape_bytes : Nat} {h_p1 : Nat} {h_p1_chances : Nat} {h_p1_shows : Nat} {h_p1_diary : Nat} {v_tape_size : Int32} {v_tape_bytes : Nat → Int32} {v_p1_state : Int32} {v_p1_z : Int32} {out : Int32 × Int32 × Int32 × Int32 × Int32 × Int32 × (Nat → Int32)} (X : kX p m meth c s args D (va_A wc0 s.heap.size) b_Tx_readDiary "MountainFarms$SlopeText" 4 (some .boolean)) : ∀ (n : Nat) (x2 : Int32) (v_tape_start : Int32) (v_tape_end : Int32) (v_tape_sort : Int32) (v_tape_value : Int32) (v_p1_seen : Int32) (v_p1_diary : Nat → Int32), fl_Tx_readDiary_1 v_tape_size v_tape_bytes n x2 v_tape_start v_tape_end v_tape_sort v_tape_value v_p1_seen v_p1_diary = some out → ∀ (H : Heap) (locs : List Loc) (ls : Array Slot), kV D (va_A wc0 s.heap.size) s (wd_Tx_readDiary D h h_tape h_tape_bytes h_p1 h_p1_chances h_p1_shows h_p1_diary v_tape_size v_tape_start v_tape_end v_tape_sort v_tape_value v_tape_bytes v_p1_seen v_p1_state v_p1_z v_p1_diary) H locs → lv_has ls 4 [(0, .ref h), (1, .ref h_p1), (2, .int x2)] → W p l e { frames := 3, cells := 0, slots := 0, locals := 61 } s m args below meth c H locs 0 0 (MQ below (kQi D wc0 (wd_Tx_readDiary D h h_tape h_tape_bytes h_p1 h_p1_chances h_p1_shows h_p1_diary v_tape_size out.2.1 out.2.2.1 out.2.2.2.1 out.2.2.2.2.1 v_tape_bytes out.2.2.2.2.2.1 v_p1_state v_p1_z out.2.2.2.2.2.2) s.heap.size out.1) args s 0 0 (va_A wc0 s.heap.size)) (F0 m 26 ls []) := by
  intro n
  induction n with
  | zero => intro x2 v_tape_start v_tape_end v_tape_sort v_tape_value v_p1_seen v_p1_diary hf; exact knone hf
  | succ n ih => intro x2 v_tape_start v_tape_end v_tape_sort v_tape_value v_p1_seen v_p1_diary hf H locs ls hV hl; exact tb_Tx_readDiary_1 X ih hf hV hl
set_option maxHeartbeats 2000000 in
set_option maxRecDepth 20000 in
theorem t_Tx_readDiary {l : Launch} {p : Program} {e : Env} {s : State} {m : MethodId} {args : Array Value} {below : List Frame} {meth : Method} {c : Code} {D : kD} {wc0 : va_W} {h : Nat} {h_tape : Nat} {h_tape_bytes : Nat} {h_p1 : Nat} {h_p1_chances : Nat} {h_p1_shows : Nat} {h_p1_diary : Nat} {v_tape_size : Int32} {v_tape_start : Int32} {v_tape_end : Int32} {v_tape_sort : Int32} {v_tape_value : Int32} {v_tape_bytes : Nat → Int32} {v_p1_seen : Int32} {v_p1_state : Int32} {v_p1_z : Int32} {v_p1_diary : Nat → Int32} {out : Int32 × Int32 × Int32 × Int32 × Int32 × Int32 × (Nat → Int32)} (X : kX p m meth c s args D (va_A wc0 s.heap.size) b_Tx_readDiary "MountainFarms$SlopeText" 4 (some .boolean)) (hf : f_Tx_readDiary v_tape_size v_tape_start v_tape_end v_tape_sort v_tape_value v_tape_bytes v_p1_seen v_p1_diary = some out) {H : Heap} {locs : List Loc} (hV : kV D (va_A wc0 s.heap.size) s (wd_Tx_readDiary D h h_tape h_tape_bytes h_p1 h_p1_chances h_p1_shows h_p1_diary v_tape_size v_tape_start v_tape_end v_tape_sort v_tape_value v_tape_bytes v_p1_seen v_p1_state v_p1_z v_p1_diary) H locs) {ls : Array Slot} (hl : lv_has ls 4 [(0, .ref h), (1, .ref h_p1)]) : W p l e { frames := 3, cells := 0, slots := 0, locals := 61 } s m args below meth c H locs 0 0 (MQ below (kQi D wc0 (wd_Tx_readDiary D h h_tape h_tape_bytes h_p1 h_p1_chances h_p1_shows h_p1_diary v_tape_size out.2.1 out.2.2.1 out.2.2.2.1 out.2.2.2.2.1 v_tape_bytes out.2.2.2.2.2.1 v_p1_state v_p1_z out.2.2.2.2.2.2) s.heap.size out.1) args s 0 0 (va_A wc0 s.heap.size)) (F0 m 0 ls []) := by
  unfold f_Tx_readDiary at hf
  obtain ⟨hx, hb, -⟩ := id X
  refine lv_aload_n hx hb d_Tx_readDiary_0 rfl (lv_at hl 0 rfl) ?_
  refine k_get X hV 0 6 0 rfl rfl rfl gw_223 rfl rfl d_Tx_readDiary_1 ?_
  obtain ⟨v_tape_start_27, v_tape_end_28, v_tape_sort_29, v_tape_value_30, hc_31, hf⟩ := kb4_some hf
  refine k_cvv (w1 := (wd_Ta_goToNext D h_tape h_tape_bytes v_tape_size v_tape_start_27 v_tape_end_28 v_tape_sort_29 v_tape_value_30 v_tape_bytes)) (ws' := (wd_Tx_readDiary D h h_tape h_tape_bytes h_p1 h_p1_chances h_p1_shows h_p1_diary v_tape_size v_tape_start_27 v_tape_end_28 v_tape_sort_29 v_tape_value_30 v_tape_bytes v_p1_seen v_p1_state v_p1_z v_p1_diary)) X hV hl.1 (c_Ta_goToNext D h_tape h_tape_bytes v_tape_size v_tape_start v_tape_end v_tape_sort v_tape_value v_tape_bytes hc_31) fk_Ta_goToNext gw_746 rfl 1 7 rfl rfl [1, 2] [none, some 0, some 1, none, none] rfl rfl ⟨rfl, rfl, rfl, rfl, rfl, rfl, rfl, rfl, rfl, trivial⟩ rfl rfl rfl d_Tx_readDiary_4 (fun H locs hV => ?_)
  refine lv_aload_n hx hb d_Tx_readDiary_7 rfl (lv_at hl 0 rfl) ?_
  refine k_get X hV 0 6 0 rfl rfl rfl gw_223 rfl rfl d_Tx_readDiary_8 ?_
  obtain ⟨r_32, hc_33, hf⟩ := kb1_some hf
  refine k_cvi (w1 := (wd_Ta_isAtNumber D h_tape h_tape_bytes v_tape_size v_tape_start_27 v_tape_end_28 v_tape_sort_29 v_tape_value_30)) (r := r_32) (ws' := (wd_Tx_readDiary D h h_tape h_tape_bytes h_p1 h_p1_chances h_p1_shows h_p1_diary v_tape_size v_tape_start_27 v_tape_end_28 v_tape_sort_29 v_tape_value_30 v_tape_bytes v_p1_seen v_p1_state v_p1_z v_p1_diary)) X hV hl.1 (c_Ta_isAtNumber D h_tape h_tape_bytes v_tape_size v_tape_start_27 v_tape_end_28 v_tape_sort_29 v_tape_value_30 hc_33) fk_Ta_isAtNumber gw_786 rfl 1 7 rfl rfl [1] [none, some 0, none, none, none] rfl rfl ⟨rfl, rfl, rfl, rfl, rfl, rfl, rfl, trivial⟩ rfl rfl rfl d_Tx_readDiary_11 (fun H locs hV => ?_)
  refine lv_if_ne (tgt := 19) hx hb d_Tx_readDiary_14 (by decide) (fun c_34 => ?_) (fun c_34 => ?_)
  · replace hf := kifn c_34 hf
    refine lv_aload_n hx hb d_Tx_readDiary_19 rfl (lv_at hl 1 rfl) ?_
    refine lv_iconst (v := 0) hx hb d_Tx_readDiary_20 ic_0 ?_
    refine k_putv (ty := .int) (ws' := (wd_Tx_readDiary D h h_tape h_tape_bytes h_p1 h_p1_chances h_p1_shows h_p1_diary v_tape_size v_tape_start_27 v_tape_end_28 v_tape_sort_29 v_tape_value_30 v_tape_bytes (0 : Int32) v_p1_state v_p1_z v_p1_diary)) X hV 3 2 3 rfl rfl rfl gw_116 rfl rfl rfl rfl rfl rfl rfl d_Tx_readDiary_21 (fun H locs hV => ?_)
    refine lv_iconst (v := 0) hx hb d_Tx_readDiary_24 ic_0 ?_
    refine lv_istore_n (lv' := [(2, .int (0 : Int32)), (0, .ref h), (1, .ref h_p1)]) hx hb d_Tx_readDiary_25 rfl hl (by decide) rfl (fun ls hl => ?_)
    exact tl_Tx_readDiary_1 X _ _ _ _ _ _ _ _ hf _ _ _ hV (lv_sub hl [1, 2, 0] rfl)
  replace hf := kifp c_34 hf
  refine lv_iconst (v := 0) hx hb d_Tx_readDiary_17 ic_0 ?_
  have e_ := Option.some.inj hf
  subst e_
  exact k_iret (v := 0) X rfl hV nb0 d_Tx_readDiary_18
set_option maxHeartbeats 2000000 in
set_option maxRecDepth 20000 in
theorem c_Tx_readDiary {l : Launch} (D : kD) (h : Nat) (h_tape : Nat) (h_tape_bytes : Nat) (h_p1 : Nat) (h_p1_chances : Nat) (h_p1_shows : Nat) (h_p1_diary : Nat) (v_tape_size : Int32) (v_tape_start : Int32) (v_tape_end : Int32) (v_tape_sort : Int32) (v_tape_value : Int32) (v_tape_bytes : Nat → Int32) (v_p1_seen : Int32) (v_p1_state : Int32) (v_p1_z : Int32) (v_p1_diary : Nat → Int32) {out : Int32 × Int32 × Int32 × Int32 × Int32 × Int32 × (Nat → Int32)} (hf : f_Tx_readDiary v_tape_size v_tape_start v_tape_end v_tape_sort v_tape_value v_tape_bytes v_p1_seen v_p1_diary = some out) : kMi l D y_Tx_readDiary b_Tx_readDiary 4 (some .boolean) { frames := 3, cells := 0, slots := 0, locals := 61 } [.ref h, .ref h_p1] (wd_Tx_readDiary D h h_tape h_tape_bytes h_p1 h_p1_chances h_p1_shows h_p1_diary v_tape_size v_tape_start v_tape_end v_tape_sort v_tape_value v_tape_bytes v_p1_seen v_p1_state v_p1_z v_p1_diary) (wd_Tx_readDiary D h h_tape h_tape_bytes h_p1 h_p1_chances h_p1_shows h_p1_diary v_tape_size out.2.1 out.2.2.1 out.2.2.2.1 out.2.2.2.2.1 v_tape_bytes out.2.2.2.2.2.1 v_p1_state v_p1_z out.2.2.2.2.2.2) out.1 :=
  kMi_of (own := "MountainFarms$SlopeText") (plainFor_of_name (by decide)) rfl rfl (fun p e s m args below meth c ls X hV hl => t_Tx_readDiary X hf hV hl)
set_option maxHeartbeats 2000000 in
set_option maxRecDepth 20000 in
theorem t_Tx_readItem {l : Launch} {p : Program} {e : Env} {s : State} {m : MethodId} {args : Array Value} {below : List Frame} {meth : Method} {c : Code} {D : kD} {wc0 : va_W} {h : Nat} {h_tape : Nat} {h_tape_bytes : Nat} {h_p1 : Nat} {h_p1_ground : Nat} {h_p1_farms : Nat} {h_p1_mountain : Nat} {h_p1_ground_heights : Nat} {h_p1_ground_ages : Nat} {h_p1_ground_walls : Nat} {h_p1_farms_kinds : Nat} {h_p1_farms_cells : Nat} {h_p1_farms_owners : Nat} {h_p1_farms_purses : Nat} {h_p1_mountain_chances : Nat} {h_p1_mountain_shows : Nat} {h_p1_mountain_diary : Nat} {v_tape_size : Int32} {v_tape_start : Int32} {v_tape_end : Int32} {v_tape_sort : Int32} {v_tape_value : Int32} {v_tape_bytes : Nat → Int32} {v_p1_month : Int32} {v_p1_volume : Int32} {v_p1_outs : Int32} {v_p1_fed : Int32} {v_p1_fedOuts : Int32} {v_p1_arePigsTold : Int32} {v_p1_ground_vent : Int32} {v_p1_ground_ash : Int32} {v_p1_ground_heights : Nat → Int32} {v_p1_ground_ages : Nat → Int32} {v_p1_ground_walls : Nat → Int32} {v_p1_farms_number : Int32} {v_p1_farms_burnt : Int32} {v_p1_farms_kinds : Nat → Int32} {v_p1_farms_cells : Nat → Int32} {v_p1_farms_owners : Nat → Int32} {v_p1_farms_purses : Nat → Int32} {v_p1_mountain_seen : Int32} {v_p1_mountain_state : Int32} {v_p1_mountain_z : Int32} {v_p1_mountain_chances : Nat → Int32} {v_p1_mountain_shows : Nat → Int32} {v_p1_mountain_diary : Nat → Int32} {out : Int32 × Int32 × Int32 × Int32 × Int32 × Int32 × (Nat → Int32) × (Nat → Int32) × (Nat → Int32) × Int32 × (Nat → Int32) × (Nat → Int32) × (Nat → Int32) × (Nat → Int32) × Int32 × (Nat → Int32) × (Nat → Int32) × (Nat → Int32)} (X : kX p m meth c s args D (va_A wc0 s.heap.size) b_Tx_readItem "MountainFarms$SlopeText" 3 (some .boolean)) (hf : f_Tx_readItem v_tape_size v_tape_start v_tape_end v_tape_sort v_tape_value v_tape_bytes v_p1_ground_vent v_p1_ground_heights v_p1_ground_ages v_p1_ground_walls v_p1_farms_number v_p1_farms_kinds v_p1_farms_cells v_p1_farms_owners v_p1_farms_purses v_p1_mountain_seen v_p1_mountain_chances v_p1_mountain_shows v_p1_mountain_diary = some out) {H : Heap} {locs : List Loc} (hV : kV D (va_A wc0 s.heap.size) s (wd_Tx_readItem D h h_tape h_tape_bytes h_p1 h_p1_ground h_p1_farms h_p1_mountain h_p1_ground_heights h_p1_ground_ages h_p1_ground_walls h_p1_farms_kinds h_p1_farms_cells h_p1_farms_owners h_p1_farms_purses h_p1_mountain_chances h_p1_mountain_shows h_p1_mountain_diary v_tape_size v_tape_start v_tape_end v_tape_sort v_tape_value v_tape_bytes v_p1_month v_p1_volume v_p1_outs v_p1_fed v_p1_fedOuts v_p1_arePigsTold v_p1_ground_vent v_p1_ground_ash v_p1_ground_heights v_p1_ground_ages v_p1_ground_walls v_p1_farms_number v_p1_farms_burnt v_p1_farms_kinds v_p1_farms_cells v_p1_farms_owners v_p1_farms_purses v_p1_mountain_seen v_p1_mountain_state v_p1_mountain_z v_p1_mountain_chances v_p1_mountain_shows v_p1_mountain_diary) H locs) {ls : Array Slot} (hl : lv_has ls 3 [(0, .ref h), (1, .ref h_p1)]) : W p l e { frames := 6, cells := 0, slots := 0, locals := 131 } s m args below meth c H locs 0 0 (MQ below (kQi D wc0 (wd_Tx_readItem D h h_tape h_tape_bytes h_p1 h_p1_ground h_p1_farms h_p1_mountain h_p1_ground_heights h_p1_ground_ages h_p1_ground_walls h_p1_farms_kinds h_p1_farms_cells h_p1_farms_owners h_p1_farms_purses h_p1_mountain_chances h_p1_mountain_shows h_p1_mountain_diary v_tape_size out.2.1 out.2.2.1 out.2.2.2.1 out.2.2.2.2.1 v_tape_bytes v_p1_month v_p1_volume v_p1_outs v_p1_fed v_p1_fedOuts v_p1_arePigsTold out.2.2.2.2.2.1 v_p1_ground_ash out.2.2.2.2.2.2.1 out.2.2.2.2.2.2.2.1 out.2.2.2.2.2.2.2.2.1 out.2.2.2.2.2.2.2.2.2.1 v_p1_farms_burnt out.2.2.2.2.2.2.2.2.2.2.1 out.2.2.2.2.2.2.2.2.2.2.2.1 out.2.2.2.2.2.2.2.2.2.2.2.2.1 out.2.2.2.2.2.2.2.2.2.2.2.2.2.1 out.2.2.2.2.2.2.2.2.2.2.2.2.2.2.1 v_p1_mountain_state v_p1_mountain_z out.2.2.2.2.2.2.2.2.2.2.2.2.2.2.2.1 out.2.2.2.2.2.2.2.2.2.2.2.2.2.2.2.2.1 out.2.2.2.2.2.2.2.2.2.2.2.2.2.2.2.2.2) s.heap.size out.1) args s 0 0 (va_A wc0 s.heap.size)) (F0 m 0 ls []) := by
  unfold f_Tx_readItem at hf
  obtain ⟨hx, hb, -⟩ := id X
  refine lv_aload_n hx hb d_Tx_readItem_0 rfl (lv_at hl 0 rfl) ?_
  obtain ⟨r_96, hc_97, hf⟩ := kb1_some hf
  refine k_cvi (w1 := (wd_Tx_kindHere D h h_tape h_tape_bytes v_tape_size v_tape_start v_tape_end v_tape_sort v_tape_value v_tape_bytes)) (r := r_96) (ws' := (wd_Tx_readItem D h h_tape h_tape_bytes h_p1 h_p1_ground h_p1_farms h_p1_mountain h_p1_ground_heights h_p1_ground_ages h_p1_ground_walls h_p1_farms_kinds h_p1_farms_cells h_p1_farms_owners h_p1_farms_purses h_p1_mountain_chances h_p1_mountain_shows h_p1_mountain_diary v_tape_size v_tape_start v_tape_end v_tape_sort v_tape_value v_tape_bytes v_p1_month v_p1_volume v_p1_outs v_p1_fed v_p1_fedOuts v_p1_arePigsTold v_p1_ground_vent v_p1_ground_ash v_p1_ground_heights v_p1_ground_ages v_p1_ground_walls v_p1_farms_number v_p1_farms_burnt v_p1_farms_kinds v_p1_farms_cells v_p1_farms_owners v_p1_farms_purses v_p1_mountain_seen v_p1_mountain_state v_p1_mountain_z v_p1_mountain_chances v_p1_mountain_shows v_p1_mountain_diary)) X hV hl.1 (c_Tx_kindHere D h h_tape h_tape_bytes v_tape_size v_tape_start v_tape_end v_tape_sort v_tape_value v_tape_bytes hc_97) fk_Tx_kindHere gw_676 rfl 0 6 rfl rfl [0, 1, 2] [some 0, some 1, some 2, none, none, none, none, none, none, none, none, none, none, none, none, none, none] rfl rfl ⟨rfl, rfl, rfl, rfl, rfl, rfl, rfl, rfl, rfl, rfl, rfl, rfl, rfl, rfl, rfl, rfl, rfl, rfl, rfl, rfl, rfl, rfl, rfl, trivial⟩ rfl rfl rfl d_Tx_readItem_1 (fun H locs hV => ?_)
  refine lv_istore_n (lv' := [(2, .int r_96), (0, .ref h), (1, .ref h_p1)]) hx hb d_Tx_readItem_4 rfl hl (by decide) rfl (fun ls hl => ?_)
  refine lv_iload_n hx hb d_Tx_readItem_5 rfl (lv_at hl 0 rfl) ?_
  refine lv_if_lt (tgt := 19) hx hb d_Tx_readItem_6 (by decide) (fun c_98 => ?_) (fun c_98 => ?_)
  · replace hf := kifp c_98 hf
    refine lv_aload_n hx hb d_Tx_readItem_19 rfl (lv_at hl 1 rfl) ?_
    refine k_get X hV 0 6 0 rfl rfl rfl gw_223 rfl rfl d_Tx_readItem_20 ?_
    refine k_ldcS X 8 rfl rfl rfl d_Tx_readItem_23 ?_
    obtain ⟨r_99, hc_100, hf⟩ := kb1_some hf
    refine k_cvi (w1 := (wd_Ta_isAt D h_tape h_tape_bytes v_tape_size v_tape_start v_tape_end v_tape_sort v_tape_value v_tape_bytes)) (r := r_99) (ws' := (wd_Tx_readItem D h h_tape h_tape_bytes h_p1 h_p1_ground h_p1_farms h_p1_mountain h_p1_ground_heights h_p1_ground_ages h_p1_ground_walls h_p1_farms_kinds h_p1_farms_cells h_p1_farms_owners h_p1_farms_purses h_p1_mountain_chances h_p1_mountain_shows h_p1_mountain_diary v_tape_size v_tape_start v_tape_end v_tape_sort v_tape_value v_tape_bytes v_p1_month v_p1_volume v_p1_outs v_p1_fed v_p1_fedOuts v_p1_arePigsTold v_p1_ground_vent v_p1_ground_ash v_p1_ground_heights v_p1_ground_ages v_p1_ground_walls v_p1_farms_number v_p1_farms_burnt v_p1_farms_kinds v_p1_farms_cells v_p1_farms_owners v_p1_farms_purses v_p1_mountain_seen v_p1_mountain_state v_p1_mountain_z v_p1_mountain_chances v_p1_mountain_shows v_p1_mountain_diary)) X hV hl.1 (c_Ta_isAt D h_tape h_tape_bytes v_tape_size v_tape_start v_tape_end v_tape_sort v_tape_value v_tape_bytes 8 rfl hc_100) fk_Ta_isAt gw_689 rfl 1 7 rfl rfl [1, 2] [none, some 0, some 1, none, none, none, none, none, none, none, none, none, none, none, none, none, none] rfl rfl ⟨rfl, rfl, rfl, rfl, rfl, rfl, rfl, rfl, rfl, rfl, rfl, rfl, rfl, rfl, rfl, rfl, rfl, rfl, rfl, rfl, rfl, trivial⟩ rfl rfl rfl d_Tx_readItem_25 (fun H locs hV => ?_)
    refine lv_if_eq (tgt := 40) hx hb d_Tx_readItem_28 (by decide) (fun c_101 => ?_) (fun c_101 => ?_)
    · replace hf := kifp c_101 hf
      refine lv_aload_n hx hb d_Tx_readItem_40 rfl (lv_at hl 1 rfl) ?_
      refine k_get X hV 0 6 0 rfl rfl rfl gw_223 rfl rfl d_Tx_readItem_41 ?_
      refine k_ldcS X 9 rfl rfl rfl d_Tx_readItem_44 ?_
      obtain ⟨r_102, hc_103, hf⟩ := kb1_some hf
      refine k_cvi (w1 := (wd_Ta_isAt D h_tape h_tape_bytes v_tape_size v_tape_start v_tape_end v_tape_sort v_tape_value v_tape_bytes)) (r := r_102) (ws' := (wd_Tx_readItem D h h_tape h_tape_bytes h_p1 h_p1_ground h_p1_farms h_p1_mountain h_p1_ground_heights h_p1_ground_ages h_p1_ground_walls h_p1_farms_kinds h_p1_farms_cells h_p1_farms_owners h_p1_farms_purses h_p1_mountain_chances h_p1_mountain_shows h_p1_mountain_diary v_tape_size v_tape_start v_tape_end v_tape_sort v_tape_value v_tape_bytes v_p1_month v_p1_volume v_p1_outs v_p1_fed v_p1_fedOuts v_p1_arePigsTold v_p1_ground_vent v_p1_ground_ash v_p1_ground_heights v_p1_ground_ages v_p1_ground_walls v_p1_farms_number v_p1_farms_burnt v_p1_farms_kinds v_p1_farms_cells v_p1_farms_owners v_p1_farms_purses v_p1_mountain_seen v_p1_mountain_state v_p1_mountain_z v_p1_mountain_chances v_p1_mountain_shows v_p1_mountain_diary)) X hV hl.1 (c_Ta_isAt D h_tape h_tape_bytes v_tape_size v_tape_start v_tape_end v_tape_sort v_tape_value v_tape_bytes 9 rfl hc_103) fk_Ta_isAt gw_689 rfl 1 7 rfl rfl [1, 2] [none, some 0, some 1, none, none, none, none, none, none, none, none, none, none, none, none, none, none] rfl rfl ⟨rfl, rfl, rfl, rfl, rfl, rfl, rfl, rfl, rfl, rfl, rfl, rfl, rfl, rfl, rfl, rfl, rfl, rfl, rfl, rfl, rfl, trivial⟩ rfl rfl rfl d_Tx_readItem_46 (fun H locs hV => ?_)
      refine lv_if_eq (tgt := 64) hx hb d_Tx_readItem_49 (by decide) (fun c_104 => ?_) (fun c_104 => ?_)
      · replace hf := kifp c_104 hf
        refine lv_aload_n hx hb d_Tx_readItem_64 rfl (lv_at hl 1 rfl) ?_
        refine k_get X hV 0 6 0 rfl rfl rfl gw_223 rfl rfl d_Tx_readItem_65 ?_
        refine k_ldcS X 10 rfl rfl rfl d_Tx_readItem_68 ?_
        obtain ⟨r_105, hc_106, hf⟩ := kb1_some hf
        refine k_cvi (w1 := (wd_Ta_isAt D h_tape h_tape_bytes v_tape_size v_tape_start v_tape_end v_tape_sort v_tape_value v_tape_bytes)) (r := r_105) (ws' := (wd_Tx_readItem D h h_tape h_tape_bytes h_p1 h_p1_ground h_p1_farms h_p1_mountain h_p1_ground_heights h_p1_ground_ages h_p1_ground_walls h_p1_farms_kinds h_p1_farms_cells h_p1_farms_owners h_p1_farms_purses h_p1_mountain_chances h_p1_mountain_shows h_p1_mountain_diary v_tape_size v_tape_start v_tape_end v_tape_sort v_tape_value v_tape_bytes v_p1_month v_p1_volume v_p1_outs v_p1_fed v_p1_fedOuts v_p1_arePigsTold v_p1_ground_vent v_p1_ground_ash v_p1_ground_heights v_p1_ground_ages v_p1_ground_walls v_p1_farms_number v_p1_farms_burnt v_p1_farms_kinds v_p1_farms_cells v_p1_farms_owners v_p1_farms_purses v_p1_mountain_seen v_p1_mountain_state v_p1_mountain_z v_p1_mountain_chances v_p1_mountain_shows v_p1_mountain_diary)) X hV hl.1 (c_Ta_isAt D h_tape h_tape_bytes v_tape_size v_tape_start v_tape_end v_tape_sort v_tape_value v_tape_bytes 10 rfl hc_106) fk_Ta_isAt gw_689 rfl 1 7 rfl rfl [1, 2] [none, some 0, some 1, none, none, none, none, none, none, none, none, none, none, none, none, none, none] rfl rfl ⟨rfl, rfl, rfl, rfl, rfl, rfl, rfl, rfl, rfl, rfl, rfl, rfl, rfl, rfl, rfl, rfl, rfl, rfl, rfl, rfl, rfl, trivial⟩ rfl rfl rfl d_Tx_readItem_70 (fun H locs hV => ?_)
        refine lv_if_eq (tgt := 88) hx hb d_Tx_readItem_73 (by decide) (fun c_107 => ?_) (fun c_107 => ?_)
        · replace hf := kifp c_107 hf
          refine lv_aload_n hx hb d_Tx_readItem_88 rfl (lv_at hl 1 rfl) ?_
          refine k_get X hV 0 6 0 rfl rfl rfl gw_223 rfl rfl d_Tx_readItem_89 ?_
          refine k_ldcS X 11 rfl rfl rfl d_Tx_readItem_92 ?_
          obtain ⟨r_108, hc_109, hf⟩ := kb1_some hf
          refine k_cvi (w1 := (wd_Ta_isAt D h_tape h_tape_bytes v_tape_size v_tape_start v_tape_end v_tape_sort v_tape_value v_tape_bytes)) (r := r_108) (ws' := (wd_Tx_readItem D h h_tape h_tape_bytes h_p1 h_p1_ground h_p1_farms h_p1_mountain h_p1_ground_heights h_p1_ground_ages h_p1_ground_walls h_p1_farms_kinds h_p1_farms_cells h_p1_farms_owners h_p1_farms_purses h_p1_mountain_chances h_p1_mountain_shows h_p1_mountain_diary v_tape_size v_tape_start v_tape_end v_tape_sort v_tape_value v_tape_bytes v_p1_month v_p1_volume v_p1_outs v_p1_fed v_p1_fedOuts v_p1_arePigsTold v_p1_ground_vent v_p1_ground_ash v_p1_ground_heights v_p1_ground_ages v_p1_ground_walls v_p1_farms_number v_p1_farms_burnt v_p1_farms_kinds v_p1_farms_cells v_p1_farms_owners v_p1_farms_purses v_p1_mountain_seen v_p1_mountain_state v_p1_mountain_z v_p1_mountain_chances v_p1_mountain_shows v_p1_mountain_diary)) X hV hl.1 (c_Ta_isAt D h_tape h_tape_bytes v_tape_size v_tape_start v_tape_end v_tape_sort v_tape_value v_tape_bytes 11 rfl hc_109) fk_Ta_isAt gw_689 rfl 1 7 rfl rfl [1, 2] [none, some 0, some 1, none, none, none, none, none, none, none, none, none, none, none, none, none, none] rfl rfl ⟨rfl, rfl, rfl, rfl, rfl, rfl, rfl, rfl, rfl, rfl, rfl, rfl, rfl, rfl, rfl, rfl, rfl, rfl, rfl, rfl, rfl, trivial⟩ rfl rfl rfl d_Tx_readItem_94 (fun H locs hV => ?_)
          refine lv_if_eq (tgt := 109) hx hb d_Tx_readItem_97 (by decide) (fun c_110 => ?_) (fun c_110 => ?_)
          · replace hf := kifp c_110 hf
            refine lv_aload_n hx hb d_Tx_readItem_109 rfl (lv_at hl 1 rfl) ?_
            refine k_get X hV 0 6 0 rfl rfl rfl gw_223 rfl rfl d_Tx_readItem_110 ?_
            refine k_ldcS X 12 rfl rfl rfl d_Tx_readItem_113 ?_
            obtain ⟨r_111, hc_112, hf⟩ := kb1_some hf
            refine k_cvi (w1 := (wd_Ta_isAt D h_tape h_tape_bytes v_tape_size v_tape_start v_tape_end v_tape_sort v_tape_value v_tape_bytes)) (r := r_111) (ws' := (wd_Tx_readItem D h h_tape h_tape_bytes h_p1 h_p1_ground h_p1_farms h_p1_mountain h_p1_ground_heights h_p1_ground_ages h_p1_ground_walls h_p1_farms_kinds h_p1_farms_cells h_p1_farms_owners h_p1_farms_purses h_p1_mountain_chances h_p1_mountain_shows h_p1_mountain_diary v_tape_size v_tape_start v_tape_end v_tape_sort v_tape_value v_tape_bytes v_p1_month v_p1_volume v_p1_outs v_p1_fed v_p1_fedOuts v_p1_arePigsTold v_p1_ground_vent v_p1_ground_ash v_p1_ground_heights v_p1_ground_ages v_p1_ground_walls v_p1_farms_number v_p1_farms_burnt v_p1_farms_kinds v_p1_farms_cells v_p1_farms_owners v_p1_farms_purses v_p1_mountain_seen v_p1_mountain_state v_p1_mountain_z v_p1_mountain_chances v_p1_mountain_shows v_p1_mountain_diary)) X hV hl.1 (c_Ta_isAt D h_tape h_tape_bytes v_tape_size v_tape_start v_tape_end v_tape_sort v_tape_value v_tape_bytes 12 rfl hc_112) fk_Ta_isAt gw_689 rfl 1 7 rfl rfl [1, 2] [none, some 0, some 1, none, none, none, none, none, none, none, none, none, none, none, none, none, none] rfl rfl ⟨rfl, rfl, rfl, rfl, rfl, rfl, rfl, rfl, rfl, rfl, rfl, rfl, rfl, rfl, rfl, rfl, rfl, rfl, rfl, rfl, rfl, trivial⟩ rfl rfl rfl d_Tx_readItem_115 (fun H locs hV => ?_)
            refine lv_if_eq (tgt := 131) hx hb d_Tx_readItem_118 (by decide) (fun c_113 => ?_) (fun c_113 => ?_)
            · replace hf := kifp c_113 hf
              refine lv_aload_n hx hb d_Tx_readItem_131 rfl (lv_at hl 1 rfl) ?_
              refine k_get X hV 0 6 0 rfl rfl rfl gw_223 rfl rfl d_Tx_readItem_132 ?_
              refine k_ldcS X 13 rfl rfl rfl d_Tx_readItem_135 ?_
              obtain ⟨r_114, hc_115, hf⟩ := kb1_some hf
              refine k_cvi (w1 := (wd_Ta_isAt D h_tape h_tape_bytes v_tape_size v_tape_start v_tape_end v_tape_sort v_tape_value v_tape_bytes)) (r := r_114) (ws' := (wd_Tx_readItem D h h_tape h_tape_bytes h_p1 h_p1_ground h_p1_farms h_p1_mountain h_p1_ground_heights h_p1_ground_ages h_p1_ground_walls h_p1_farms_kinds h_p1_farms_cells h_p1_farms_owners h_p1_farms_purses h_p1_mountain_chances h_p1_mountain_shows h_p1_mountain_diary v_tape_size v_tape_start v_tape_end v_tape_sort v_tape_value v_tape_bytes v_p1_month v_p1_volume v_p1_outs v_p1_fed v_p1_fedOuts v_p1_arePigsTold v_p1_ground_vent v_p1_ground_ash v_p1_ground_heights v_p1_ground_ages v_p1_ground_walls v_p1_farms_number v_p1_farms_burnt v_p1_farms_kinds v_p1_farms_cells v_p1_farms_owners v_p1_farms_purses v_p1_mountain_seen v_p1_mountain_state v_p1_mountain_z v_p1_mountain_chances v_p1_mountain_shows v_p1_mountain_diary)) X hV hl.1 (c_Ta_isAt D h_tape h_tape_bytes v_tape_size v_tape_start v_tape_end v_tape_sort v_tape_value v_tape_bytes 13 rfl hc_115) fk_Ta_isAt gw_689 rfl 1 7 rfl rfl [1, 2] [none, some 0, some 1, none, none, none, none, none, none, none, none, none, none, none, none, none, none] rfl rfl ⟨rfl, rfl, rfl, rfl, rfl, rfl, rfl, rfl, rfl, rfl, rfl, rfl, rfl, rfl, rfl, rfl, rfl, rfl, rfl, rfl, rfl, trivial⟩ rfl rfl rfl d_Tx_readItem_137 (fun H locs hV => ?_)
              refine lv_if_eq (tgt := 153) hx hb d_Tx_readItem_140 (by decide) (fun c_116 => ?_) (fun c_116 => ?_)
              · replace hf := kifp c_116 hf
                refine lv_aload_n hx hb d_Tx_readItem_153 rfl (lv_at hl 1 rfl) ?_
                refine k_get X hV 0 6 0 rfl rfl rfl gw_223 rfl rfl d_Tx_readItem_154 ?_
                refine k_ldcS X 14 rfl rfl rfl d_Tx_readItem_157 ?_
                obtain ⟨r_117, hc_118, hf⟩ := kb1_some hf
                refine k_cvi (w1 := (wd_Ta_isAt D h_tape h_tape_bytes v_tape_size v_tape_start v_tape_end v_tape_sort v_tape_value v_tape_bytes)) (r := r_117) (ws' := (wd_Tx_readItem D h h_tape h_tape_bytes h_p1 h_p1_ground h_p1_farms h_p1_mountain h_p1_ground_heights h_p1_ground_ages h_p1_ground_walls h_p1_farms_kinds h_p1_farms_cells h_p1_farms_owners h_p1_farms_purses h_p1_mountain_chances h_p1_mountain_shows h_p1_mountain_diary v_tape_size v_tape_start v_tape_end v_tape_sort v_tape_value v_tape_bytes v_p1_month v_p1_volume v_p1_outs v_p1_fed v_p1_fedOuts v_p1_arePigsTold v_p1_ground_vent v_p1_ground_ash v_p1_ground_heights v_p1_ground_ages v_p1_ground_walls v_p1_farms_number v_p1_farms_burnt v_p1_farms_kinds v_p1_farms_cells v_p1_farms_owners v_p1_farms_purses v_p1_mountain_seen v_p1_mountain_state v_p1_mountain_z v_p1_mountain_chances v_p1_mountain_shows v_p1_mountain_diary)) X hV hl.1 (c_Ta_isAt D h_tape h_tape_bytes v_tape_size v_tape_start v_tape_end v_tape_sort v_tape_value v_tape_bytes 14 rfl hc_118) fk_Ta_isAt gw_689 rfl 1 7 rfl rfl [1, 2] [none, some 0, some 1, none, none, none, none, none, none, none, none, none, none, none, none, none, none] rfl rfl ⟨rfl, rfl, rfl, rfl, rfl, rfl, rfl, rfl, rfl, rfl, rfl, rfl, rfl, rfl, rfl, rfl, rfl, rfl, rfl, rfl, rfl, trivial⟩ rfl rfl rfl d_Tx_readItem_159 (fun H locs hV => ?_)
                refine lv_if_eq (tgt := 174) hx hb d_Tx_readItem_162 (by decide) (fun c_119 => ?_) (fun c_119 => ?_)
                · replace hf := kifp c_119 hf
                  refine lv_iconst (v := 0) hx hb d_Tx_readItem_174 ic_0 ?_
                  have e_ := Option.some.inj hf
                  subst e_
                  exact k_iret (v := 0) X rfl hV nb0 d_Tx_readItem_175
                replace hf := kifn c_119 hf
                refine lv_aload_n hx hb d_Tx_readItem_165 rfl (lv_at hl 1 rfl) ?_
                refine lv_aload_n hx hb d_Tx_readItem_166 rfl (lv_at hl 2 rfl) ?_
                refine k_get X hV 3 5 2 rfl rfl rfl gw_142 rfl rfl d_Tx_readItem_167 ?_
                obtain ⟨r_120, v_tape_start_121, v_tape_end_122, v_tape_sort_123, v_tape_value_124, v_p1_mountain_seen_125, v_p1_mountain_diary_126, hc_127, hf⟩ := kb7_some hf
                refine k_cvi (w1 := (wd_Tx_readDiary D h h_tape h_tape_bytes h_p1_mountain h_p1_mountain_chances h_p1_mountain_shows h_p1_mountain_diary v_tape_size v_tape_start_121 v_tape_end_122 v_tape_sort_123 v_tape_value_124 v_tape_bytes v_p1_mountain_seen_125 v_p1_mountain_state v_p1_mountain_z v_p1_mountain_diary_126)) (r := r_120) (ws' := (wd_Tx_readItem D h h_tape h_tape_bytes h_p1 h_p1_ground h_p1_farms h_p1_mountain h_p1_ground_heights h_p1_ground_ages h_p1_ground_walls h_p1_farms_kinds h_p1_farms_cells h_p1_farms_owners h_p1_farms_purses h_p1_mountain_chances h_p1_mountain_shows h_p1_mountain_diary v_tape_size v_tape_start_121 v_tape_end_122 v_tape_sort_123 v_tape_value_124 v_tape_bytes v_p1_month v_p1_volume v_p1_outs v_p1_fed v_p1_fedOuts v_p1_arePigsTold v_p1_ground_vent v_p1_ground_ash v_p1_ground_heights v_p1_ground_ages v_p1_ground_walls v_p1_farms_number v_p1_farms_burnt v_p1_farms_kinds v_p1_farms_cells v_p1_farms_owners v_p1_farms_purses v_p1_mountain_seen_125 v_p1_mountain_state v_p1_mountain_z v_p1_mountain_chances v_p1_mountain_shows v_p1_mountain_diary_126)) X hV hl.1 (c_Tx_readDiary D h h_tape h_tape_bytes h_p1_mountain h_p1_mountain_chances h_p1_mountain_shows h_p1_mountain_diary v_tape_size v_tape_start v_tape_end v_tape_sort v_tape_value v_tape_bytes v_p1_mountain_seen v_p1_mountain_state v_p1_mountain_z v_p1_mountain_diary hc_127) fk_Tx_readDiary gw_782 rfl 0 6 rfl rfl [0, 1, 2, 13, 16] [some 0, some 1, some 2, none, none, none, none, none, none, none, none, none, none, some 3, none, none, some 4] rfl rfl ⟨rfl, rfl, rfl, rfl, rfl, rfl, rfl, rfl, rfl, rfl, rfl, rfl, rfl, rfl, rfl, rfl, rfl, rfl, rfl, rfl, rfl, rfl, rfl, rfl, rfl, rfl, rfl, trivial⟩ rfl rfl rfl d_Tx_readItem_170 (fun H locs hV => ?_)
                obtain ⟨h_128, hf⟩ := kchk hf
                have e_ := Option.some.inj hf
                subst e_
                exact k_iret X rfl hV (knarB h_128) d_Tx_readItem_173
              replace hf := kifn c_116 hf
              refine lv_aload_n hx hb d_Tx_readItem_143 rfl (lv_at hl 1 rfl) ?_
              refine lv_iconst (v := 1) hx hb d_Tx_readItem_144 ic_1 ?_
              refine lv_aload_n hx hb d_Tx_readItem_145 rfl (lv_at hl 2 rfl) ?_
              refine k_get X hV 3 5 2 rfl rfl rfl gw_142 rfl rfl d_Tx_readItem_146 ?_
              obtain ⟨r_129, v_tape_start_130, v_tape_end_131, v_tape_sort_132, v_tape_value_133, v_p1_mountain_chances_134, v_p1_mountain_shows_135, hc_136, hf⟩ := kb7_some hf
              refine k_cvi (w1 := (wd_Tx_readTenths D h h_tape h_tape_bytes h_p1_mountain h_p1_mountain_chances h_p1_mountain_shows h_p1_mountain_diary v_tape_size v_tape_start_130 v_tape_end_131 v_tape_sort_132 v_tape_value_133 v_tape_bytes v_p1_mountain_seen v_p1_mountain_state v_p1_mountain_z v_p1_mountain_chances_134 v_p1_mountain_shows_135)) (r := r_129) (ws' := (wd_Tx_readItem D h h_tape h_tape_bytes h_p1 h_p1_ground h_p1_farms h_p1_mountain h_p1_ground_heights h_p1_ground_ages h_p1_ground_walls h_p1_farms_kinds h_p1_farms_cells h_p1_farms_owners h_p1_farms_purses h_p1_mountain_chances h_p1_mountain_shows h_p1_mountain_diary v_tape_size v_tape_start_130 v_tape_end_131 v_tape_sort_132 v_tape_value_133 v_tape_bytes v_p1_month v_p1_volume v_p1_outs v_p1_fed v_p1_fedOuts v_p1_arePigsTold v_p1_ground_vent v_p1_ground_ash v_p1_ground_heights v_p1_ground_ages v_p1_ground_walls v_p1_farms_number v_p1_farms_burnt v_p1_farms_kinds v_p1_farms_cells v_p1_farms_owners v_p1_farms_purses v_p1_mountain_seen v_p1_mountain_state v_p1_mountain_z v_p1_mountain_chances_134 v_p1_mountain_shows_135 v_p1_mountain_diary)) X hV hl.1 (c_Tx_readTenths D h h_tape h_tape_bytes h_p1_mountain h_p1_mountain_chances h_p1_mountain_shows h_p1_mountain_diary v_tape_size v_tape_start v_tape_end v_tape_sort v_tape_value v_tape_bytes v_p1_mountain_seen v_p1_mountain_state v_p1_mountain_z v_p1_mountain_chances v_p1_mountain_shows (1 : Int32) hc_136) fk_Tx_readTenths gw_775 rfl 0 6 rfl rfl [0, 1, 2, 13, 14, 15] [some 0, some 1, some 2, none, none, none, none, none, none, none, none, none, none, some 3, some 4, some 5, none] rfl rfl ⟨rfl, rfl, rfl, rfl, rfl, rfl, rfl, rfl, rfl, rfl, rfl, rfl, rfl, rfl, rfl, rfl, rfl, rfl, rfl, rfl, rfl, rfl, rfl, rfl, rfl, rfl, rfl, rfl, rfl, trivial⟩ rfl rfl rfl d_Tx_readItem_149 (fun H locs hV => ?_)
              obtain ⟨h_137, hf⟩ := kchk hf
              have e_ := Option.some.inj hf
              subst e_
              exact k_iret X rfl hV (knarB h_137) d_Tx_readItem_152
            replace hf := kifn c_113 hf
            refine lv_aload_n hx hb d_Tx_readItem_121 rfl (lv_at hl 1 rfl) ?_
            refine lv_iconst (v := 0) hx hb d_Tx_readItem_122 ic_0 ?_
            refine lv_aload_n hx hb d_Tx_readItem_123 rfl (lv_at hl 2 rfl) ?_
            refine k_get X hV 3 5 2 rfl rfl rfl gw_142 rfl rfl d_Tx_readItem_124 ?_
            obtain ⟨r_138, v_tape_start_139, v_tape_end_140, v_tape_sort_141, v_tape_value_142, v_p1_mountain_chances_143, v_p1_mountain_shows_144, hc_145, hf⟩ := kb7_some hf
            refine k_cvi (w1 := (wd_Tx_readTenths D h h_tape h_tape_bytes h_p1_mountain h_p1_mountain_chances h_p1_mountain_shows h_p1_mountain_diary v_tape_size v_tape_start_139 v_tape_end_140 v_tape_sort_141 v_tape_value_142 v_tape_bytes v_p1_mountain_seen v_p1_mountain_state v_p1_mountain_z v_p1_mountain_chances_143 v_p1_mountain_shows_144)) (r := r_138) (ws' := (wd_Tx_readItem D h h_tape h_tape_bytes h_p1 h_p1_ground h_p1_farms h_p1_mountain h_p1_ground_heights h_p1_ground_ages h_p1_ground_walls h_p1_farms_kinds h_p1_farms_cells h_p1_farms_owners h_p1_farms_purses h_p1_mountain_chances h_p1_mountain_shows h_p1_mountain_diary v_tape_size v_tape_start_139 v_tape_end_140 v_tape_sort_141 v_tape_value_142 v_tape_bytes v_p1_month v_p1_volume v_p1_outs v_p1_fed v_p1_fedOuts v_p1_arePigsTold v_p1_ground_vent v_p1_ground_ash v_p1_ground_heights v_p1_ground_ages v_p1_ground_walls v_p1_farms_number v_p1_farms_burnt v_p1_farms_kinds v_p1_farms_cells v_p1_farms_owners v_p1_farms_purses v_p1_mountain_seen v_p1_mountain_state v_p1_mountain_z v_p1_mountain_chances_143 v_p1_mountain_shows_144 v_p1_mountain_diary)) X hV hl.1 (c_Tx_readTenths D h h_tape h_tape_bytes h_p1_mountain h_p1_mountain_chances h_p1_mountain_shows h_p1_mountain_diary v_tape_size v_tape_start v_tape_end v_tape_sort v_tape_value v_tape_bytes v_p1_mountain_seen v_p1_mountain_state v_p1_mountain_z v_p1_mountain_chances v_p1_mountain_shows (0 : Int32) hc_145) fk_Tx_readTenths gw_775 rfl 0 6 rfl rfl [0, 1, 2, 13, 14, 15] [some 0, some 1, some 2, none, none, none, none, none, none, none, none, none, none, some 3, some 4, some 5, none] rfl rfl ⟨rfl, rfl, rfl, rfl, rfl, rfl, rfl, rfl, rfl, rfl, rfl, rfl, rfl, rfl, rfl, rfl, rfl, rfl, rfl, rfl, rfl, rfl, rfl, rfl, rfl, rfl, rfl, rfl, rfl, trivial⟩ rfl rfl rfl d_Tx_readItem_127 (fun H locs hV => ?_)
            obtain ⟨h_146, hf⟩ := kchk hf
            have e_ := Option.some.inj hf
            subst e_
            exact k_iret X rfl hV (knarB h_146) d_Tx_readItem_130
          replace hf := kifn c_110 hf
          refine lv_aload_n hx hb d_Tx_readItem_100 rfl (lv_at hl 1 rfl) ?_
          refine lv_aload_n hx hb d_Tx_readItem_101 rfl (lv_at hl 2 rfl) ?_
          refine k_get X hV 3 5 0 rfl rfl rfl gw_137 rfl rfl d_Tx_readItem_102 ?_
          obtain ⟨r_147, v_tape_start_148, v_tape_end_149, v_tape_sort_150, v_tape_value_151, v_p1_ground_vent_152, hc_153, hf⟩ := kb6_some hf
          refine k_cvi (w1 := (wd_Tx_readVent D h h_tape h_tape_bytes h_p1_ground h_p1_ground_heights h_p1_ground_ages h_p1_ground_walls v_tape_size v_tape_start_148 v_tape_end_149 v_tape_sort_150 v_tape_value_151 v_tape_bytes v_p1_ground_vent_152 v_p1_ground_ash)) (r := r_147) (ws' := (wd_Tx_readItem D h h_tape h_tape_bytes h_p1 h_p1_ground h_p1_farms h_p1_mountain h_p1_ground_heights h_p1_ground_ages h_p1_ground_walls h_p1_farms_kinds h_p1_farms_cells h_p1_farms_owners h_p1_farms_purses h_p1_mountain_chances h_p1_mountain_shows h_p1_mountain_diary v_tape_size v_tape_start_148 v_tape_end_149 v_tape_sort_150 v_tape_value_151 v_tape_bytes v_p1_month v_p1_volume v_p1_outs v_p1_fed v_p1_fedOuts v_p1_arePigsTold v_p1_ground_vent_152 v_p1_ground_ash v_p1_ground_heights v_p1_ground_ages v_p1_ground_walls v_p1_farms_number v_p1_farms_burnt v_p1_farms_kinds v_p1_farms_cells v_p1_farms_owners v_p1_farms_purses v_p1_mountain_seen v_p1_mountain_state v_p1_mountain_z v_p1_mountain_chances v_p1_mountain_shows v_p1_mountain_diary)) X hV hl.1 (c_Tx_readVent D h h_tape h_tape_bytes h_p1_ground h_p1_ground_heights h_p1_ground_ages h_p1_ground_walls v_tape_size v_tape_start v_tape_end v_tape_sort v_tape_value v_tape_bytes v_p1_ground_vent v_p1_ground_ash hc_153) fk_Tx_readVent gw_770 rfl 0 6 rfl rfl [0, 1, 2, 4] [some 0, some 1, some 2, none, some 3, none, none, none, none, none, none, none, none, none, none, none, none] rfl rfl ⟨rfl, rfl, rfl, rfl, rfl, rfl, rfl, rfl, rfl, rfl, rfl, rfl, rfl, rfl, rfl, rfl, rfl, rfl, rfl, rfl, rfl, rfl, rfl, rfl, rfl, trivial⟩ rfl rfl rfl d_Tx_readItem_105 (fun H locs hV => ?_)
          obtain ⟨h_154, hf⟩ := kchk hf
          have e_ := Option.some.inj hf
          subst e_
          exact k_iret X rfl hV (knarB h_154) d_Tx_readItem_108
        replace hf := kifn c_107 hf
        refine lv_aload_n hx hb d_Tx_readItem_76 rfl (lv_at hl 1 rfl) ?_
        refine lv_aload_n hx hb d_Tx_readItem_77 rfl (lv_at hl 2 rfl) ?_
        refine k_get X hV 3 5 0 rfl rfl rfl gw_137 rfl rfl d_Tx_readItem_78 ?_
        refine k_get X hV 4 1 1 rfl rfl rfl gw_50 rfl rfl d_Tx_readItem_81 ?_
        obtain ⟨r_155, v_tape_start_156, v_tape_end_157, v_tape_sort_158, v_tape_value_159, v_p1_ground_ages_160, hc_161, hf⟩ := kb6_some hf
        refine k_cvi (w1 := (wd_Tx_readLevel D h h_tape h_tape_bytes h_p1_ground_ages v_tape_size v_tape_start_156 v_tape_end_157 v_tape_sort_158 v_tape_value_159 v_tape_bytes v_p1_ground_ages_160)) (r := r_155) (ws' := (wd_Tx_readItem D h h_tape h_tape_bytes h_p1 h_p1_ground h_p1_farms h_p1_mountain h_p1_ground_heights h_p1_ground_ages h_p1_ground_walls h_p1_farms_kinds h_p1_farms_cells h_p1_farms_owners h_p1_farms_purses h_p1_mountain_chances h_p1_mountain_shows h_p1_mountain_diary v_tape_size v_tape_start_156 v_tape_end_157 v_tape_sort_158 v_tape_value_159 v_tape_bytes v_p1_month v_p1_volume v_p1_outs v_p1_fed v_p1_fedOuts v_p1_arePigsTold v_p1_ground_vent v_p1_ground_ash v_p1_ground_heights v_p1_ground_ages_160 v_p1_ground_walls v_p1_farms_number v_p1_farms_burnt v_p1_farms_kinds v_p1_farms_cells v_p1_farms_owners v_p1_farms_purses v_p1_mountain_seen v_p1_mountain_state v_p1_mountain_z v_p1_mountain_chances v_p1_mountain_shows v_p1_mountain_diary)) X hV hl.1 (c_Tx_readLevel D h h_tape h_tape_bytes h_p1_ground_ages v_tape_size v_tape_start v_tape_end v_tape_sort v_tape_value v_tape_bytes v_p1_ground_ages hc_161) fk_Tx_readLevel gw_763 rfl 0 6 rfl rfl [0, 1, 2, 6] [some 0, some 1, some 2, none, none, none, some 3, none, none, none, none, none, none, none, none, none, none] rfl rfl ⟨rfl, rfl, rfl, rfl, rfl, rfl, rfl, rfl, rfl, rfl, rfl, rfl, rfl, rfl, rfl, rfl, rfl, rfl, rfl, rfl, rfl, rfl, rfl, rfl, rfl, trivial⟩ rfl rfl rfl d_Tx_readItem_84 (fun H locs hV => ?_)
        obtain ⟨h_162, hf⟩ := kchk hf
        have e_ := Option.some.inj hf
        subst e_
        exact k_iret X rfl hV (knarB h_162) d_Tx_readItem_87
      replace hf := kifn c_104 hf
      refine lv_aload_n hx hb d_Tx_readItem_52 rfl (lv_at hl 1 rfl) ?_
      refine lv_aload_n hx hb d_Tx_readItem_53 rfl (lv_at hl 2 rfl) ?_
      refine k_get X hV 3 5 0 rfl rfl rfl gw_137 rfl rfl d_Tx_readItem_54 ?_
      refine k_get X hV 4 1 0 rfl rfl rfl gw_47 rfl rfl d_Tx_readItem_57 ?_
      obtain ⟨r_163, v_tape_start_164, v_tape_end_165, v_tape_sort_166, v_tape_value_167, v_p1_ground_heights_168, hc_169, hf⟩ := kb6_some hf
      refine k_cvi (w1 := (wd_Tx_readLevel D h h_tape h_tape_bytes h_p1_ground_heights v_tape_size v_tape_start_164 v_tape_end_165 v_tape_sort_166 v_tape_value_167 v_tape_bytes v_p1_ground_heights_168)) (r := r_163) (ws' := (wd_Tx_readItem D h h_tape h_tape_bytes h_p1 h_p1_ground h_p1_farms h_p1_mountain h_p1_ground_heights h_p1_ground_ages h_p1_ground_walls h_p1_farms_kinds h_p1_farms_cells h_p1_farms_owners h_p1_farms_purses h_p1_mountain_chances h_p1_mountain_shows h_p1_mountain_diary v_tape_size v_tape_start_164 v_tape_end_165 v_tape_sort_166 v_tape_value_167 v_tape_bytes v_p1_month v_p1_volume v_p1_outs v_p1_fed v_p1_fedOuts v_p1_arePigsTold v_p1_ground_vent v_p1_ground_ash v_p1_ground_heights_168 v_p1_ground_ages v_p1_ground_walls v_p1_farms_number v_p1_farms_burnt v_p1_farms_kinds v_p1_farms_cells v_p1_farms_owners v_p1_farms_purses v_p1_mountain_seen v_p1_mountain_state v_p1_mountain_z v_p1_mountain_chances v_p1_mountain_shows v_p1_mountain_diary)) X hV hl.1 (c_Tx_readLevel D h h_tape h_tape_bytes h_p1_ground_heights v_tape_size v_tape_start v_tape_end v_tape_sort v_tape_value v_tape_bytes v_p1_ground_heights hc_169) fk_Tx_readLevel gw_763 rfl 0 6 rfl rfl [0, 1, 2, 5] [some 0, some 1, some 2, none, none, some 3, none, none, none, none, none, none, none, none, none, none, none] rfl rfl ⟨rfl, rfl, rfl, rfl, rfl, rfl, rfl, rfl, rfl, rfl, rfl, rfl, rfl, rfl, rfl, rfl, rfl, rfl, rfl, rfl, rfl, rfl, rfl, rfl, rfl, trivial⟩ rfl rfl rfl d_Tx_readItem_60 (fun H locs hV => ?_)
      obtain ⟨h_170, hf⟩ := kchk hf
      have e_ := Option.some.inj hf
      subst e_
      exact k_iret X rfl hV (knarB h_170) d_Tx_readItem_63
    replace hf := kifn c_101 hf
    refine lv_aload_n hx hb d_Tx_readItem_31 rfl (lv_at hl 1 rfl) ?_
    refine lv_aload_n hx hb d_Tx_readItem_32 rfl (lv_at hl 2 rfl) ?_
    refine k_get X hV 3 5 0 rfl rfl rfl gw_137 rfl rfl d_Tx_readItem_33 ?_
    obtain ⟨r_171, v_tape_start_172, v_tape_end_173, v_tape_sort_174, v_tape_value_175, v_p1_ground_walls_176, hc_177, hf⟩ := kb6_some hf
    refine k_cvi (w1 := (wd_Tx_readWall D h h_tape h_tape_bytes h_p1_ground h_p1_ground_heights h_p1_ground_ages h_p1_ground_walls v_tape_size v_tape_start_172 v_tape_end_173 v_tape_sort_174 v_tape_value_175 v_tape_bytes v_p1_ground_vent v_p1_ground_ash v_p1_ground_walls_176)) (r := r_171) (ws' := (wd_Tx_readItem D h h_tape h_tape_bytes h_p1 h_p1_ground h_p1_farms h_p1_mountain h_p1_ground_heights h_p1_ground_ages h_p1_ground_walls h_p1_farms_kinds h_p1_farms_cells h_p1_farms_owners h_p1_farms_purses h_p1_mountain_chances h_p1_mountain_shows h_p1_mountain_diary v_tape_size v_tape_start_172 v_tape_end_173 v_tape_sort_174 v_tape_value_175 v_tape_bytes v_p1_month v_p1_volume v_p1_outs v_p1_fed v_p1_fedOuts v_p1_arePigsTold v_p1_ground_vent v_p1_ground_ash v_p1_ground_heights v_p1_ground_ages v_p1_ground_walls_176 v_p1_farms_number v_p1_farms_burnt v_p1_farms_kinds v_p1_farms_cells v_p1_farms_owners v_p1_farms_purses v_p1_mountain_seen v_p1_mountain_state v_p1_mountain_z v_p1_mountain_chances v_p1_mountain_shows v_p1_mountain_diary)) X hV hl.1 (c_Tx_readWall D h h_tape h_tape_bytes h_p1_ground h_p1_ground_heights h_p1_ground_ages h_p1_ground_walls v_tape_size v_tape_start v_tape_end v_tape_sort v_tape_value v_tape_bytes v_p1_ground_vent v_p1_ground_ash v_p1_ground_walls hc_177) fk_Tx_readWall gw_756 rfl 0 6 rfl rfl [0, 1, 2, 4, 7] [some 0, some 1, some 2, none, some 3, none, none, some 4, none, none, none, none, none, none, none, none, none] rfl rfl ⟨rfl, rfl, rfl, rfl, rfl, rfl, rfl, rfl, rfl, rfl, rfl, rfl, rfl, rfl, rfl, rfl, rfl, rfl, rfl, rfl, rfl, rfl, rfl, rfl, rfl, rfl, rfl, trivial⟩ rfl rfl rfl d_Tx_readItem_36 (fun H locs hV => ?_)
    obtain ⟨h_178, hf⟩ := kchk hf
    have e_ := Option.some.inj hf
    subst e_
    exact k_iret X rfl hV (knarB h_178) d_Tx_readItem_39
  replace hf := kifn c_98 hf
  refine lv_aload_n hx hb d_Tx_readItem_9 rfl (lv_at hl 1 rfl) ?_
  refine lv_iload_n hx hb d_Tx_readItem_10 rfl (lv_at hl 0 rfl) ?_
  refine lv_aload_n hx hb d_Tx_readItem_11 rfl (lv_at hl 2 rfl) ?_
  refine k_get X hV 3 5 1 rfl rfl rfl gw_139 rfl rfl d_Tx_readItem_12 ?_
  obtain ⟨r_179, v_tape_start_180, v_tape_end_181, v_tape_sort_182, v_tape_value_183, v_p1_farms_number_184, v_p1_farms_kinds_185, v_p1_farms_cells_186, v_p1_farms_owners_187, v_p1_farms_purses_188, hc_189, hf⟩ := kb10_some hf
  refine k_cvi (w1 := (wd_Tx_readFarm D h h_tape h_tape_bytes h_p1_farms h_p1_farms_kinds h_p1_farms_cells h_p1_farms_owners h_p1_farms_purses v_tape_size v_tape_start_180 v_tape_end_181 v_tape_sort_182 v_tape_value_183 v_tape_bytes v_p1_farms_number_184 v_p1_farms_burnt v_p1_farms_kinds_185 v_p1_farms_cells_186 v_p1_farms_owners_187 v_p1_farms_purses_188)) (r := r_179) (ws' := (wd_Tx_readItem D h h_tape h_tape_bytes h_p1 h_p1_ground h_p1_farms h_p1_mountain h_p1_ground_heights h_p1_ground_ages h_p1_ground_walls h_p1_farms_kinds h_p1_farms_cells h_p1_farms_owners h_p1_farms_purses h_p1_mountain_chances h_p1_mountain_shows h_p1_mountain_diary v_tape_size v_tape_start_180 v_tape_end_181 v_tape_sort_182 v_tape_value_183 v_tape_bytes v_p1_month v_p1_volume v_p1_outs v_p1_fed v_p1_fedOuts v_p1_arePigsTold v_p1_ground_vent v_p1_ground_ash v_p1_ground_heights v_p1_ground_ages v_p1_ground_walls v_p1_farms_number_184 v_p1_farms_burnt v_p1_farms_kinds_185 v_p1_farms_cells_186 v_p1_farms_owners_187 v_p1_farms_purses_188 v_p1_mountain_seen v_p1_mountain_state v_p1_mountain_z v_p1_mountain_chances v_p1_mountain_shows v_p1_mountain_diary)) X hV hl.1 (c_Tx_readFarm D h h_tape h_tape_bytes h_p1_farms h_p1_farms_kinds h_p1_farms_cells h_p1_farms_owners h_p1_farms_purses v_tape_size v_tape_start v_tape_end v_tape_sort v_tape_value v_tape_bytes v_p1_farms_number v_p1_farms_burnt v_p1_farms_kinds v_p1_farms_cells v_p1_farms_owners v_p1_farms_purses r_96 hc_189) fk_Tx_readFarm gw_741 rfl 0 6 rfl rfl [0, 1, 2, 8, 9, 10, 11, 12] [some 0, some 1, some 2, none, none, none, none, none, some 3, some 4, some 5, some 6, some 7, none, none, none, none] rfl rfl ⟨rfl, rfl, rfl, rfl, rfl, rfl, rfl, rfl, rfl, rfl, rfl, rfl, rfl, rfl, rfl, rfl, rfl, rfl, rfl, rfl, rfl, rfl, rfl, rfl, rfl, rfl, rfl, rfl, rfl, rfl, rfl, rfl, rfl, trivial⟩ rfl rfl rfl d_Tx_readItem_15 (fun H locs hV => ?_)
  obtain ⟨h_190, hf⟩ := kchk hf
  have e_ := Option.some.inj hf
  subst e_
  exact k_iret X rfl hV (knarB h_190) d_Tx_readItem_18
set_option maxHeartbeats 2000000 in
set_option maxRecDepth 20000 in
theorem c_Tx_readItem {l : Launch} (D : kD) (h : Nat) (h_tape : Nat) (h_tape_bytes : Nat) (h_p1 : Nat) (h_p1_ground : Nat) (h_p1_farms : Nat) (h_p1_mountain : Nat) (h_p1_ground_heights : Nat) (h_p1_ground_ages : Nat) (h_p1_ground_walls : Nat) (h_p1_farms_kinds : Nat) (h_p1_farms_cells : Nat) (h_p1_farms_owners : Nat) (h_p1_farms_purses : Nat) (h_p1_mountain_chances : Nat) (h_p1_mountain_shows : Nat) (h_p1_mountain_diary : Nat) (v_tape_size : Int32) (v_tape_start : Int32) (v_tape_end : Int32) (v_tape_sort : Int32) (v_tape_value : Int32) (v_tape_bytes : Nat → Int32) (v_p1_month : Int32) (v_p1_volume : Int32) (v_p1_outs : Int32) (v_p1_fed : Int32) (v_p1_fedOuts : Int32) (v_p1_arePigsTold : Int32) (v_p1_ground_vent : Int32) (v_p1_ground_ash : Int32) (v_p1_ground_heights : Nat → Int32) (v_p1_ground_ages : Nat → Int32) (v_p1_ground_walls : Nat → Int32) (v_p1_farms_number : Int32) (v_p1_farms_burnt : Int32) (v_p1_farms_kinds : Nat → Int32) (v_p1_farms_cells : Nat → Int32) (v_p1_farms_owners : Nat → Int32) (v_p1_farms_purses : Nat → Int32) (v_p1_mountain_seen : Int32) (v_p1_mountain_state : Int32) (v_p1_mountain_z : Int32) (v_p1_mountain_chances : Nat → Int32) (v_p1_mountain_shows : Nat → Int32) (v_p1_mountain_diary : Nat → Int32) {out : Int32 × Int32 × Int32 × Int32 × Int32 × Int32 × (Nat → Int32) × (Nat → Int32) × (Nat → Int32) × Int32 × (Nat → Int32) × (Nat → Int32) × (Nat → Int32) × (Nat → Int32) × Int32 × (Nat → Int32) × (Nat → Int32) × (Nat → Int32)} (hf : f_Tx_readItem v_tape_size v_tape_start v_tape_end v_tape_sort v_tape_value v_tape_bytes v_p1_ground_vent v_p1_ground_heights v_p1_ground_ages v_p1_ground_walls v_p1_farms_number v_p1_farms_kinds v_p1_farms_cells v_p1_farms_owners v_p1_farms_purses v_p1_mountain_seen v_p1_mountain_chances v_p1_mountain_shows v_p1_mountain_diary = some out) : kMi l D y_Tx_readItem b_Tx_readItem 3 (some .boolean) { frames := 6, cells := 0, slots := 0, locals := 131 } [.ref h, .ref h_p1] (wd_Tx_readItem D h h_tape h_tape_bytes h_p1 h_p1_ground h_p1_farms h_p1_mountain h_p1_ground_heights h_p1_ground_ages h_p1_ground_walls h_p1_farms_kinds h_p1_farms_cells h_p1_farms_owners h_p1_farms_purses h_p1_mountain_chances h_p1_mountain_shows h_p1_mountain_diary v_tape_size v_tape_start v_tape_end v_tape_sort v_tape_value v_tape_bytes v_p1_month v_p1_volume v_p1_outs v_p1_fed v_p1_fedOuts v_p1_arePigsTold v_p1_ground_vent v_p1_ground_ash v_p1_ground_heights v_p1_ground_ages v_p1_ground_walls v_p1_farms_number v_p1_farms_burnt v_p1_farms_kinds v_p1_farms_cells v_p1_farms_owners v_p1_farms_purses v_p1_mountain_seen v_p1_mountain_state v_p1_mountain_z v_p1_mountain_chances v_p1_mountain_shows v_p1_mountain_diary) (wd_Tx_readItem D h h_tape h_tape_bytes h_p1 h_p1_ground h_p1_farms h_p1_mountain h_p1_ground_heights h_p1_ground_ages h_p1_ground_walls h_p1_farms_kinds h_p1_farms_cells h_p1_farms_owners h_p1_farms_purses h_p1_mountain_chances h_p1_mountain_shows h_p1_mountain_diary v_tape_size out.2.1 out.2.2.1 out.2.2.2.1 out.2.2.2.2.1 v_tape_bytes v_p1_month v_p1_volume v_p1_outs v_p1_fed v_p1_fedOuts v_p1_arePigsTold out.2.2.2.2.2.1 v_p1_ground_ash out.2.2.2.2.2.2.1 out.2.2.2.2.2.2.2.1 out.2.2.2.2.2.2.2.2.1 out.2.2.2.2.2.2.2.2.2.1 v_p1_farms_burnt out.2.2.2.2.2.2.2.2.2.2.1 out.2.2.2.2.2.2.2.2.2.2.2.1 out.2.2.2.2.2.2.2.2.2.2.2.2.1 out.2.2.2.2.2.2.2.2.2.2.2.2.2.1 out.2.2.2.2.2.2.2.2.2.2.2.2.2.2.1 v_p1_mountain_state v_p1_mountain_z out.2.2.2.2.2.2.2.2.2.2.2.2.2.2.2.1 out.2.2.2.2.2.2.2.2.2.2.2.2.2.2.2.2.1 out.2.2.2.2.2.2.2.2.2.2.2.2.2.2.2.2.2) out.1 :=
  kMi_of (own := "MountainFarms$SlopeText") (plainFor_of_name (by decide)) rfl rfl (fun p e s m args below meth c ls X hV hl => t_Tx_readItem X hf hV hl)
set_option maxHeartbeats 2000000 in
set_option maxRecDepth 20000 in
theorem t_Ta_isAtEnd {l : Launch} {p : Program} {e : Env} {s : State} {m : MethodId} {args : Array Value} {below : List Frame} {meth : Method} {c : Code} {D : kD} {wc0 : va_W} {h : Nat} {h_bytes : Nat} {v_size : Int32} {v_start : Int32} {v_end : Int32} {v_sort : Int32} {v_value : Int32} {out : Int32} (X : kX p m meth c s args D (va_A wc0 s.heap.size) b_Ta_isAtEnd "MountainFarms$Tape" 1 (some .boolean)) (hf : f_Ta_isAtEnd v_sort = some out) {H : Heap} {locs : List Loc} (hV : kV D (va_A wc0 s.heap.size) s (wd_Ta_isAtEnd D h h_bytes v_size v_start v_end v_sort v_value) H locs) {ls : Array Slot} (hl : lv_has ls 1 [(0, .ref h)]) : W p l e { frames := 0, cells := 0, slots := 0, locals := 0 } s m args below meth c H locs 0 0 (MQ below (kQi D wc0 (wd_Ta_isAtEnd D h h_bytes v_size v_start v_end v_sort v_value) s.heap.size out) args s 0 0 (va_A wc0 s.heap.size)) (F0 m 0 ls []) := by
  unfold f_Ta_isAtEnd at hf
  obtain ⟨hx, hb, -⟩ := id X
  refine lv_aload_n hx hb d_Ta_isAtEnd_0 rfl (lv_at hl 0 rfl) ?_
  refine k_get X hV 0 7 4 rfl rfl rfl gw_208 rfl rfl d_Ta_isAtEnd_1 ?_
  refine lv_if_ne (tgt := 11) hx hb d_Ta_isAtEnd_4 (by decide) (fun c_2 => ?_) (fun c_2 => ?_)
  · replace hf := kifn c_2 hf
    refine lv_iconst (v := 0) hx hb d_Ta_isAtEnd_11 ic_0 ?_
    have e_ := Option.some.inj hf
    subst e_
    exact k_iret (v := 0) X rfl hV nb0 d_Ta_isAtEnd_12
  replace hf := kifp c_2 hf
  refine lv_iconst (v := 1) hx hb d_Ta_isAtEnd_7 ic_1 ?_
  refine lv_goto (tgt := 12) hx hb d_Ta_isAtEnd_8 (by decide) ?_
  have e_ := Option.some.inj hf
  subst e_
  exact k_iret (v := 1) X rfl hV nb1 d_Ta_isAtEnd_12
set_option maxHeartbeats 2000000 in
set_option maxRecDepth 20000 in
theorem c_Ta_isAtEnd {l : Launch} (D : kD) (h : Nat) (h_bytes : Nat) (v_size : Int32) (v_start : Int32) (v_end : Int32) (v_sort : Int32) (v_value : Int32) {out : Int32} (hf : f_Ta_isAtEnd v_sort = some out) : kMi l D y_Ta_isAtEnd b_Ta_isAtEnd 1 (some .boolean) { frames := 0, cells := 0, slots := 0, locals := 0 } [.ref h] (wd_Ta_isAtEnd D h h_bytes v_size v_start v_end v_sort v_value) (wd_Ta_isAtEnd D h h_bytes v_size v_start v_end v_sort v_value) out :=
  kMi_of (own := "MountainFarms$Tape") (plainFor_of_name (by decide)) rfl rfl (fun p e s m args below meth c ls X hV hl => t_Ta_isAtEnd X hf hV hl)
set_option maxHeartbeats 2000000 in
set_option maxRecDepth 20000 in
theorem t_Ta_isAtSemicolon {l : Launch} {p : Program} {e : Env} {s : State} {m : MethodId} {args : Array Value} {below : List Frame} {meth : Method} {c : Code} {D : kD} {wc0 : va_W} {h : Nat} {h_bytes : Nat} {v_size : Int32} {v_start : Int32} {v_end : Int32} {v_sort : Int32} {v_value : Int32} {out : Int32} (X : kX p m meth c s args D (va_A wc0 s.heap.size) b_Ta_isAtSemicolon "MountainFarms$Tape" 1 (some .boolean)) (hf : f_Ta_isAtSemicolon v_sort = some out) {H : Heap} {locs : List Loc} (hV : kV D (va_A wc0 s.heap.size) s (wd_Ta_isAtSemicolon D h h_bytes v_size v_start v_end v_sort v_value) H locs) {ls : Array Slot} (hl : lv_has ls 1 [(0, .ref h)]) : W p l e { frames := 0, cells := 0, slots := 0, locals := 0 } s m args below meth c H locs 0 0 (MQ below (kQi D wc0 (wd_Ta_isAtSemicolon D h h_bytes v_size v_start v_end v_sort v_value) s.heap.size out) args s 0 0 (va_A wc0 s.heap.size)) (F0 m 0 ls []) := by
  unfold f_Ta_isAtSemicolon at hf
  obtain ⟨hx, hb, -⟩ := id X
  refine lv_aload_n hx hb d_Ta_isAtSemicolon_0 rfl (lv_at hl 0 rfl) ?_
  refine k_get X hV 0 7 4 rfl rfl rfl gw_208 rfl rfl d_Ta_isAtSemicolon_1 ?_
  refine lv_iconst (v := 3) hx hb d_Ta_isAtSemicolon_4 ic_3 ?_
  refine lv_icmp_ne (tgt := 12) hx hb d_Ta_isAtSemicolon_5 (by decide) (fun c_2 => ?_) (fun c_2 => ?_)
  · replace hf := kifn c_2 hf
    refine lv_iconst (v := 0) hx hb d_Ta_isAtSemicolon_12 ic_0 ?_
    have e_ := Option.some.inj hf
    subst e_
    exact k_iret (v := 0) X rfl hV nb0 d_Ta_isAtSemicolon_13
  replace hf := kifp c_2 hf
  refine lv_iconst (v := 1) hx hb d_Ta_isAtSemicolon_8 ic_1 ?_
  refine lv_goto (tgt := 13) hx hb d_Ta_isAtSemicolon_9 (by decide) ?_
  have e_ := Option.some.inj hf
  subst e_
  exact k_iret (v := 1) X rfl hV nb1 d_Ta_isAtSemicolon_13
set_option maxHeartbeats 2000000 in
set_option maxRecDepth 20000 in
theorem c_Ta_isAtSemicolon {l : Launch} (D : kD) (h : Nat) (h_bytes : Nat) (v_size : Int32) (v_start : Int32) (v_end : Int32) (v_sort : Int32) (v_value : Int32) {out : Int32} (hf : f_Ta_isAtSemicolon v_sort = some out) : kMi l D y_Ta_isAtSemicolon b_Ta_isAtSemicolon 1 (some .boolean) { frames := 0, cells := 0, slots := 0, locals := 0 } [.ref h] (wd_Ta_isAtSemicolon D h h_bytes v_size v_start v_end v_sort v_value) (wd_Ta_isAtSemicolon D h h_bytes v_size v_start v_end v_sort v_value) out :=
  kMi_of (own := "MountainFarms$Tape") (plainFor_of_name (by decide)) rfl rfl (fun p e s m args below meth c ls X hV hl => t_Ta_isAtSemicolon X hf hV hl)
set_option maxHeartbeats 2000000 in
set_option maxRecDepth 20000 in
theorem tb_Tx_readAll_1 {l : Launch} {p : Program} {e : Env} {s : State} {m : MethodId} {args : Array Value} {below : List Frame} {meth : Method} {c : Code} {D : kD} {wc0 : va_W} {h : Nat} {h_tape : Nat} {h_tape_bytes : Nat} {h_p1 : Nat} {h_p1_ground : Nat} {h_p1_farms : Nat} {h_p1_mountain : Nat} {h_p1_ground_heights : Nat} {h_p1_ground_ages : Nat} {h_p1_ground_walls : Nat} {h_p1_farms_kinds : Nat} {h_p1_farms_cells : Nat} {h_p1_farms_owners : Nat} {h_p1_farms_purses : Nat} {h_p1_mountain_chances : Nat} {h_p1_mountain_shows : Nat} {h_p1_mountain_diary : Nat} {v_tape_size : Int32} {v_tape_start : Int32} {v_tape_end : Int32} {v_tape_sort : Int32} {v_tape_value : Int32} {v_tape_bytes : Nat → Int32} {v_p1_month : Int32} {v_p1_volume : Int32} {v_p1_outs : Int32} {v_p1_fed : Int32} {v_p1_fedOuts : Int32} {v_p1_arePigsTold : Int32} {v_p1_ground_vent : Int32} {v_p1_ground_ash : Int32} {v_p1_ground_heights : Nat → Int32} {v_p1_ground_ages : Nat → Int32} {v_p1_ground_walls : Nat → Int32} {v_p1_farms_number : Int32} {v_p1_farms_burnt : Int32} {v_p1_farms_kinds : Nat → Int32} {v_p1_farms_cells : Nat → Int32} {v_p1_farms_owners : Nat → Int32} {v_p1_farms_purses : Nat → Int32} {v_p1_mountain_seen : Int32} {v_p1_mountain_state : Int32} {v_p1_mountain_z : Int32} {v_p1_mountain_chances : Nat → Int32} {v_p1_mountain_shows : Nat → Int32} {v_p1_mountain_diary : Nat → Int32} {x2 : Int32} {rec1 : Int32 → Int32 → Int32 → Int32 → Int32 → Int32 → (Nat → Int32) → (Nat → Int32) → (Nat → Int32) → Int32 → (Nat → Int32) → (Nat → Int32) → (Nat → Int32) → (Nat → Int32) → Int32 → (Nat → Int32) → (Nat → Int32) → (Nat → Int32) → Option (Int32 × Int32 × Int32 × Int32 × Int32 × Int32 × (Nat → Int32) × (Nat → Int32) × (Nat → Int32) × Int32 × (Nat → Int32) × (Nat → Int32) × (Nat → Int32) × (Nat → Int32) × Int32 × (Nat → Int32) × (Nat → Int32) × (Nat → Int32))} {out : Int32 × Int32 × Int32 × Int32 × Int32 × Int32 × (Nat → Int32) × (Nat → Int32) × (Nat → Int32) × Int32 × (Nat → Int32) × (Nat → Int32) × (Nat → Int32) × (Nat → Int32) × Int32 × (Nat → Int32) × (Nat → Int32) × (Nat → Int32)} (X : kX p m meth c s args D (va_A wc0 s.heap.size) b_Tx_readAll "MountainFarms$SlopeText" 3 (some .int)) (hrec1 : ∀ (x2 : Int32) (v_tape_start : Int32) (v_tape_end : Int32) (v_tape_sort : Int32) (v_tape_value : Int32) (v_p1_ground_vent : Int32) (v_p1_ground_heights : Nat → Int32) (v_p1_ground_ages : Nat → Int32) (v_p1_ground_walls : Nat → Int32) (v_p1_farms_number : Int32) (v_p1_farms_kinds : Nat → Int32) (v_p1_farms_cells : Nat → Int32) (v_p1_farms_owners : Nat → Int32) (v_p1_farms_purses : Nat → Int32) (v_p1_mountain_seen : Int32) (v_p1_mountain_chances : Nat → Int32) (v_p1_mountain_shows : Nat → Int32) (v_p1_mountain_diary : Nat → Int32), rec1 x2 v_tape_start v_tape_end v_tape_sort v_tape_value v_p1_ground_vent v_p1_ground_heights v_p1_ground_ages v_p1_ground_walls v_p1_farms_number v_p1_farms_kinds v_p1_farms_cells v_p1_farms_owners v_p1_farms_purses v_p1_mountain_seen v_p1_mountain_chances v_p1_mountain_shows v_p1_mountain_diary = some out → ∀ (H : Heap) (locs : List Loc) (ls : Array Slot), kV D (va_A wc0 s.heap.size) s (wd_Tx_readAll D h h_tape h_tape_bytes h_p1 h_p1_ground h_p1_farms h_p1_mountain h_p1_ground_heights h_p1_ground_ages h_p1_ground_walls h_p1_farms_kinds h_p1_farms_cells h_p1_farms_owners h_p1_farms_purses h_p1_mountain_chances h_p1_mountain_shows h_p1_mountain_diary v_tape_size v_tape_start v_tape_end v_tape_sort v_tape_value v_tape_bytes v_p1_month v_p1_volume v_p1_outs v_p1_fed v_p1_fedOuts v_p1_arePigsTold v_p1_ground_vent v_p1_ground_ash v_p1_ground_heights v_p1_ground_ages v_p1_ground_walls v_p1_farms_number v_p1_farms_burnt v_p1_farms_kinds v_p1_farms_cells v_p1_farms_owners v_p1_farms_purses v_p1_mountain_seen v_p1_mountain_state v_p1_mountain_z v_p1_mountain_chances v_p1_mountain_shows v_p1_mountain_diary) H locs → lv_has ls 3 [(0, .ref h), (1, .ref h_p1), (2, .int x2)] → W p l e { frames := 7, cells := 0, slots := 0, locals := 153 } s m args below meth c H locs 0 0 (MQ below (kQi D wc0 (wd_Tx_readAll D h h_tape h_tape_bytes h_p1 h_p1_ground h_p1_farms h_p1_mountain h_p1_ground_heights h_p1_ground_ages h_p1_ground_walls h_p1_farms_kinds h_p1_farms_cells h_p1_farms_owners h_p1_farms_purses h_p1_mountain_chances h_p1_mountain_shows h_p1_mountain_diary v_tape_size out.2.1 out.2.2.1 out.2.2.2.1 out.2.2.2.2.1 v_tape_bytes v_p1_month v_p1_volume v_p1_outs v_p1_fed v_p1_fedOuts v_p1_arePigsTold out.2.2.2.2.2.1 v_p1_ground_ash out.2.2.2.2.2.2.1 out.2.2.2.2.2.2.2.1 out.2.2.2.2.2.2.2.2.1 out.2.2.2.2.2.2.2.2.2.1 v_p1_farms_burnt out.2.2.2.2.2.2.2.2.2.2.1 out.2.2.2.2.2.2.2.2.2.2.2.1 out.2.2.2.2.2.2.2.2.2.2.2.2.1 out.2.2.2.2.2.2.2.2.2.2.2.2.2.1 out.2.2.2.2.2.2.2.2.2.2.2.2.2.2.1 v_p1_mountain_state v_p1_mountain_z out.2.2.2.2.2.2.2.2.2.2.2.2.2.2.2.1 out.2.2.2.2.2.2.2.2.2.2.2.2.2.2.2.2.1 out.2.2.2.2.2.2.2.2.2.2.2.2.2.2.2.2.2) s.heap.size out.1) args s 0 0 (va_A wc0 s.heap.size)) (F0 m 9 ls [])) (hf : fb_Tx_readAll_1 rec1 v_tape_size v_tape_bytes x2 v_tape_start v_tape_end v_tape_sort v_tape_value v_p1_ground_vent v_p1_ground_heights v_p1_ground_ages v_p1_ground_walls v_p1_farms_number v_p1_farms_kinds v_p1_farms_cells v_p1_farms_owners v_p1_farms_purses v_p1_mountain_seen v_p1_mountain_chances v_p1_mountain_shows v_p1_mountain_diary = some out) {H : Heap} {locs : List Loc} (hV : kV D (va_A wc0 s.heap.size) s (wd_Tx_readAll D h h_tape h_tape_bytes h_p1 h_p1_ground h_p1_farms h_p1_mountain h_p1_ground_heights h_p1_ground_ages h_p1_ground_walls h_p1_farms_kinds h_p1_farms_cells h_p1_farms_owners h_p1_farms_purses h_p1_mountain_chances h_p1_mountain_shows h_p1_mountain_diary v_tape_size v_tape_start v_tape_end v_tape_sort v_tape_value v_tape_bytes v_p1_month v_p1_volume v_p1_outs v_p1_fed v_p1_fedOuts v_p1_arePigsTold v_p1_ground_vent v_p1_ground_ash v_p1_ground_heights v_p1_ground_ages v_p1_ground_walls v_p1_farms_number v_p1_farms_burnt v_p1_farms_kinds v_p1_farms_cells v_p1_farms_owners v_p1_farms_purses v_p1_mountain_seen v_p1_mountain_state v_p1_mountain_z v_p1_mountain_chances v_p1_mountain_shows v_p1_mountain_diary) H locs) {ls : Array Slot} (hl : lv_has ls 3 [(0, .ref h), (1, .ref h_p1), (2, .int x2)]) : W p l e { frames := 7, cells := 0, slots := 0, locals := 153 } s m args below meth c H locs 0 0 (MQ below (kQi D wc0 (wd_Tx_readAll D h h_tape h_tape_bytes h_p1 h_p1_ground h_p1_farms h_p1_mountain h_p1_ground_heights h_p1_ground_ages h_p1_ground_walls h_p1_farms_kinds h_p1_farms_cells h_p1_farms_owners h_p1_farms_purses h_p1_mountain_chances h_p1_mountain_shows h_p1_mountain_diary v_tape_size out.2.1 out.2.2.1 out.2.2.2.1 out.2.2.2.2.1 v_tape_bytes v_p1_month v_p1_volume v_p1_outs v_p1_fed v_p1_fedOuts v_p1_arePigsTold out.2.2.2.2.2.1 v_p1_ground_ash out.2.2.2.2.2.2.1 out.2.2.2.2.2.2.2.1 out.2.2.2.2.2.2.2.2.1 out.2.2.2.2.2.2.2.2.2.1 v_p1_farms_burnt out.2.2.2.2.2.2.2.2.2.2.1 out.2.2.2.2.2.2.2.2.2.2.2.1 out.2.2.2.2.2.2.2.2.2.2.2.2.1 out.2.2.2.2.2.2.2.2.2.2.2.2.2.1 out.2.2.2.2.2.2.2.2.2.2.2.2.2.2.1 v_p1_mountain_state v_p1_mountain_z out.2.2.2.2.2.2.2.2.2.2.2.2.2.2.2.1 out.2.2.2.2.2.2.2.2.2.2.2.2.2.2.2.2.1 out.2.2.2.2.2.2.2.2.2.2.2.2.2.2.2.2.2) s.heap.size out.1) args s 0 0 (va_A wc0 s.heap.size)) (F0 m 9 ls []) := by
  unfold fb_Tx_readAll_1 at hf
  obtain ⟨hx, hb, -⟩ := id X
  refine lv_iload_n hx hb d_Tx_readAll_9 rfl (lv_at hl 2 rfl) ?_
  refine lv_bipush (v := 120) hx hb d_Tx_readAll_10 bp_120 ?_
  refine lv_icmp_gt (tgt := 64) hx hb d_Tx_readAll_12 (by decide) (fun c_43 => ?_) (fun c_43 => ?_)
  · replace hf := kifp c_43 hf
    refine lv_iconst (v := (-1)) hx hb d_Tx_readAll_64 ic_m1 ?_
    refine lv_aload_n hx hb d_Tx_readAll_65 rfl (lv_at hl 0 rfl) ?_
    refine k_get X hV 0 6 0 rfl rfl rfl gw_223 rfl rfl d_Tx_readAll_66 ?_
    refine k_get X hV 1 7 2 rfl rfl rfl gw_206 rfl rfl d_Tx_readAll_69 ?_
    refine lv_isub hx hb d_Tx_readAll_72 ?_
    have e_ := Option.some.inj hf
    subst e_
    exact k_iret X rfl hV rfl d_Tx_readAll_73
  replace hf := kifn c_43 hf
  refine lv_aload_n hx hb d_Tx_readAll_15 rfl (lv_at hl 0 rfl) ?_
  refine lv_aload_n hx hb d_Tx_readAll_16 rfl (lv_at hl 1 rfl) ?_
  obtain ⟨r_44, v_tape_start_45, v_tape_end_46, v_tape_sort_47, v_tape_value_48, v_p1_ground_vent_49, v_p1_ground_heights_50, v_p1_ground_ages_51, v_p1_ground_walls_52, v_p1_farms_number_53, v_p1_farms_kinds_54, v_p1_farms_cells_55, v_p1_farms_owners_56, v_p1_farms_purses_57, v_p1_mountain_seen_58, v_p1_mountain_chances_59, v_p1_mountain_shows_60, v_p1_mountain_diary_61, hc_62, hf⟩ := kb18_some hf
  refine k_cvi (w1 := (wd_Tx_readItem D h h_tape h_tape_bytes h_p1 h_p1_ground h_p1_farms h_p1_mountain h_p1_ground_heights h_p1_ground_ages h_p1_ground_walls h_p1_farms_kinds h_p1_farms_cells h_p1_farms_owners h_p1_farms_purses h_p1_mountain_chances h_p1_mountain_shows h_p1_mountain_diary v_tape_size v_tape_start_45 v_tape_end_46 v_tape_sort_47 v_tape_value_48 v_tape_bytes v_p1_month v_p1_volume v_p1_outs v_p1_fed v_p1_fedOuts v_p1_arePigsTold v_p1_ground_vent_49 v_p1_ground_ash v_p1_ground_heights_50 v_p1_ground_ages_51 v_p1_ground_walls_52 v_p1_farms_number_53 v_p1_farms_burnt v_p1_farms_kinds_54 v_p1_farms_cells_55 v_p1_farms_owners_56 v_p1_farms_purses_57 v_p1_mountain_seen_58 v_p1_mountain_state v_p1_mountain_z v_p1_mountain_chances_59 v_p1_mountain_shows_60 v_p1_mountain_diary_61)) (r := r_44) (ws' := (wd_Tx_readAll D h h_tape h_tape_bytes h_p1 h_p1_ground h_p1_farms h_p1_mountain h_p1_ground_heights h_p1_ground_ages h_p1_ground_walls h_p1_farms_kinds h_p1_farms_cells h_p1_farms_owners h_p1_farms_purses h_p1_mountain_chances h_p1_mountain_shows h_p1_mountain_diary v_tape_size v_tape_start_45 v_tape_end_46 v_tape_sort_47 v_tape_value_48 v_tape_bytes v_p1_month v_p1_volume v_p1_outs v_p1_fed v_p1_fedOuts v_p1_arePigsTold v_p1_ground_vent_49 v_p1_ground_ash v_p1_ground_heights_50 v_p1_ground_ages_51 v_p1_ground_walls_52 v_p1_farms_number_53 v_p1_farms_burnt v_p1_farms_kinds_54 v_p1_farms_cells_55 v_p1_farms_owners_56 v_p1_farms_purses_57 v_p1_mountain_seen_58 v_p1_mountain_state v_p1_mountain_z v_p1_mountain_chances_59 v_p1_mountain_shows_60 v_p1_mountain_diary_61)) X hV hl.1 (c_Tx_readItem D h h_tape h_tape_bytes h_p1 h_p1_ground h_p1_farms h_p1_mountain h_p1_ground_heights h_p1_ground_ages h_p1_ground_walls h_p1_farms_kinds h_p1_farms_cells h_p1_farms_owners h_p1_farms_purses h_p1_mountain_chances h_p1_mountain_shows h_p1_mountain_diary v_tape_size v_tape_start v_tape_end v_tape_sort v_tape_value v_tape_bytes v_p1_month v_p1_volume v_p1_outs v_p1_fed v_p1_fedOuts v_p1_arePigsTold v_p1_ground_vent v_p1_ground_ash v_p1_ground_heights v_p1_ground_ages v_p1_ground_walls v_p1_farms_number v_p1_farms_burnt v_p1_farms_kinds v_p1_farms_cells v_p1_farms_owners v_p1_farms_purses v_p1_mountain_seen v_p1_mountain_state v_p1_mountain_z v_p1_mountain_chances v_p1_mountain_shows v_p1_mountain_diary hc_62) fk_Tx_readItem gw_672 rfl 0 6 rfl rfl [0, 1, 2, 3, 4, 5, 6, 7, 8, 9, 10, 11, 12, 13, 14, 15, 16] [some 0, some 1, some 2, some 3, some 4, some 5, some 6, some 7, some 8, some 9, some 10, some 11, some 12, some 13, some 14, some 15, some 16] rfl rfl ⟨rfl, rfl, rfl, rfl, rfl, rfl, rfl, rfl, rfl, rfl, rfl, rfl, rfl, rfl, rfl, rfl, rfl, rfl, rfl, rfl, rfl, rfl, rfl, rfl, rfl, rfl, rfl, rfl, rfl, rfl, rfl, rfl, rfl, rfl, rfl, rfl, rfl, rfl, rfl, rfl, rfl, rfl, rfl, rfl, rfl, rfl, rfl, rfl, rfl, rfl, rfl, trivial⟩ rfl rfl rfl d_Tx_readAll_17 (fun H locs hV => ?_)
  refine lv_if_ne (tgt := 26) hx hb d_Tx_readAll_20 (by decide) (fun c_63 => ?_) (fun c_63 => ?_)
  · replace hf := kifn c_63 hf
    refine lv_aload_n hx hb d_Tx_readAll_26 rfl (lv_at hl 0 rfl) ?_
    refine k_get X hV 0 6 0 rfl rfl rfl gw_223 rfl rfl d_Tx_readAll_27 ?_
    obtain ⟨r_64, hc_65, hf⟩ := kb1_some hf
    refine k_cvi (w1 := (wd_Ta_isAtEnd D h_tape h_tape_bytes v_tape_size v_tape_start_45 v_tape_end_46 v_tape_sort_47 v_tape_value_48)) (r := r_64) (ws' := (wd_Tx_readAll D h h_tape h_tape_bytes h_p1 h_p1_ground h_p1_farms h_p1_mountain h_p1_ground_heights h_p1_ground_ages h_p1_ground_walls h_p1_farms_kinds h_p1_farms_cells h_p1_farms_owners h_p1_farms_purses h_p1_mountain_chances h_p1_mountain_shows h_p1_mountain_diary v_tape_size v_tape_start_45 v_tape_end_46 v_tape_sort_47 v_tape_value_48 v_tape_bytes v_p1_month v_p1_volume v_p1_outs v_p1_fed v_p1_fedOuts v_p1_arePigsTold v_p1_ground_vent_49 v_p1_ground_ash v_p1_ground_heights_50 v_p1_ground_ages_51 v_p1_ground_walls_52 v_p1_farms_number_53 v_p1_farms_burnt v_p1_farms_kinds_54 v_p1_farms_cells_55 v_p1_farms_owners_56 v_p1_farms_purses_57 v_p1_mountain_seen_58 v_p1_mountain_state v_p1_mountain_z v_p1_mountain_chances_59 v_p1_mountain_shows_60 v_p1_mountain_diary_61)) X hV hl.1 (c_Ta_isAtEnd D h_tape h_tape_bytes v_tape_size v_tape_start_45 v_tape_end_46 v_tape_sort_47 v_tape_value_48 hc_65) fk_Ta_isAtEnd gw_791 rfl 1 7 rfl rfl [1] [none, some 0, none, none, none, none, none, none, none, none, none, none, none, none, none, none, none] rfl rfl ⟨rfl, rfl, rfl, rfl, rfl, rfl, rfl, rfl, rfl, rfl, rfl, rfl, rfl, rfl, rfl, rfl, rfl, rfl, rfl, trivial⟩ rfl rfl rfl d_Tx_readAll_30 (fun H locs hV => ?_)
    refine lv_if_eq (tgt := 38) hx hb d_Tx_readAll_33 (by decide) (fun c_66 => ?_) (fun c_66 => ?_)
    · replace hf := kifp c_66 hf
      refine lv_aload_n hx hb d_Tx_readAll_38 rfl (lv_at hl 0 rfl) ?_
      refine k_get X hV 0 6 0 rfl rfl rfl gw_223 rfl rfl d_Tx_readAll_39 ?_
      obtain ⟨r_67, hc_68, hf⟩ := kb1_some hf
      refine k_cvi (w1 := (wd_Ta_isAtSemicolon D h_tape h_tape_bytes v_tape_size v_tape_start_45 v_tape_end_46 v_tape_sort_47 v_tape_value_48)) (r := r_67) (ws' := (wd_Tx_readAll D h h_tape h_tape_bytes h_p1 h_p1_ground h_p1_farms h_p1_mountain h_p1_ground_heights h_p1_ground_ages h_p1_ground_walls h_p1_farms_kinds h_p1_farms_cells h_p1_farms_owners h_p1_farms_purses h_p1_mountain_chances h_p1_mountain_shows h_p1_mountain_diary v_tape_size v_tape_start_45 v_tape_end_46 v_tape_sort_47 v_tape_value_48 v_tape_bytes v_p1_month v_p1_volume v_p1_outs v_p1_fed v_p1_fedOuts v_p1_arePigsTold v_p1_ground_vent_49 v_p1_ground_ash v_p1_ground_heights_50 v_p1_ground_ages_51 v_p1_ground_walls_52 v_p1_farms_number_53 v_p1_farms_burnt v_p1_farms_kinds_54 v_p1_farms_cells_55 v_p1_farms_owners_56 v_p1_farms_purses_57 v_p1_mountain_seen_58 v_p1_mountain_state v_p1_mountain_z v_p1_mountain_chances_59 v_p1_mountain_shows_60 v_p1_mountain_diary_61)) X hV hl.1 (c_Ta_isAtSemicolon D h_tape h_tape_bytes v_tape_size v_tape_start_45 v_tape_end_46 v_tape_sort_47 v_tape_value_48 hc_68) fk_Ta_isAtSemicolon gw_795 rfl 1 7 rfl rfl [1] [none, some 0, none, none, none, none, none, none, none, none, none, none, none, none, none, none, none] rfl rfl ⟨rfl, rfl, rfl, rfl, rfl, rfl, rfl, rfl, rfl, rfl, rfl, rfl, rfl, rfl, rfl, rfl, rfl, rfl, rfl, trivial⟩ rfl rfl rfl d_Tx_readAll_42 (fun H locs hV => ?_)
      refine lv_if_ne (tgt := 51) hx hb d_Tx_readAll_45 (by decide) (fun c_69 => ?_) (fun c_69 => ?_)
      · replace hf := kifn c_69 hf
        refine lv_aload_n hx hb d_Tx_readAll_51 rfl (lv_at hl 0 rfl) ?_
        refine k_get X hV 0 6 0 rfl rfl rfl gw_223 rfl rfl d_Tx_readAll_52 ?_
        obtain ⟨v_tape_start_70, v_tape_end_71, v_tape_sort_72, v_tape_value_73, hc_74, hf⟩ := kb4_some hf
        refine k_cvv (w1 := (wd_Ta_goToNext D h_tape h_tape_bytes v_tape_size v_tape_start_70 v_tape_end_71 v_tape_sort_72 v_tape_value_73 v_tape_bytes)) (ws' := (wd_Tx_readAll D h h_tape h_tape_bytes h_p1 h_p1_ground h_p1_farms h_p1_mountain h_p1_ground_heights h_p1_ground_ages h_p1_ground_walls h_p1_farms_kinds h_p1_farms_cells h_p1_farms_owners h_p1_farms_purses h_p1_mountain_chances h_p1_mountain_shows h_p1_mountain_diary v_tape_size v_tape_start_70 v_tape_end_71 v_tape_sort_72 v_tape_value_73 v_tape_bytes v_p1_month v_p1_volume v_p1_outs v_p1_fed v_p1_fedOuts v_p1_arePigsTold v_p1_ground_vent_49 v_p1_ground_ash v_p1_ground_heights_50 v_p1_ground_ages_51 v_p1_ground_walls_52 v_p1_farms_number_53 v_p1_farms_burnt v_p1_farms_kinds_54 v_p1_farms_cells_55 v_p1_farms_owners_56 v_p1_farms_purses_57 v_p1_mountain_seen_58 v_p1_mountain_state v_p1_mountain_z v_p1_mountain_chances_59 v_p1_mountain_shows_60 v_p1_mountain_diary_61)) X hV hl.1 (c_Ta_goToNext D h_tape h_tape_bytes v_tape_size v_tape_start_45 v_tape_end_46 v_tape_sort_47 v_tape_value_48 v_tape_bytes hc_74) fk_Ta_goToNext gw_746 rfl 1 7 rfl rfl [1, 2] [none, some 0, some 1, none, none, none, none, none, none, none, none, none, none, none, none, none, none] rfl rfl ⟨rfl, rfl, rfl, rfl, rfl, rfl, rfl, rfl, rfl, rfl, rfl, rfl, rfl, rfl, rfl, rfl, rfl, rfl, rfl, rfl, rfl, trivial⟩ rfl rfl rfl d_Tx_readAll_55 (fun H locs hV => ?_)
        refine lv_iinc (v := (x2 + 1)) (lv' := [(2, .int (x2 + 1)), (0, .ref h), (1, .ref h_p1)]) hx hb d_Tx_readAll_58 hl (k := 2) rfl rfl (by decide) rfl (fun ls hl => ?_)
        refine lv_goto (tgt := 9) hx hb d_Tx_readAll_61 (by decide) ?_
        exact hrec1 _ _ _ _ _ _ _ _ _ _ _ _ _ _ _ _ _ _ hf _ _ _ hV (lv_sub hl [1, 2, 0] rfl)
      replace hf := kifp c_69 hf
      refine lv_goto (tgt := 64) hx hb d_Tx_readAll_48 (by decide) ?_
      refine lv_iconst (v := (-1)) hx hb d_Tx_readAll_64 ic_m1 ?_
      refine lv_aload_n hx hb d_Tx_readAll_65 rfl (lv_at hl 0 rfl) ?_
      refine k_get X hV 0 6 0 rfl rfl rfl gw_223 rfl rfl d_Tx_readAll_66 ?_
      refine k_get X hV 1 7 2 rfl rfl rfl gw_206 rfl rfl d_Tx_readAll_69 ?_
      refine lv_isub hx hb d_Tx_readAll_72 ?_
      have e_ := Option.some.inj hf
      subst e_
      exact k_iret X rfl hV rfl d_Tx_readAll_73
    replace hf := kifn c_66 hf
    refine lv_iload_n hx hb d_Tx_readAll_36 rfl (lv_at hl 2 rfl) ?_
    have e_ := Option.some.inj hf
    subst e_
    exact k_iret X rfl hV rfl d_Tx_readAll_37
  replace hf := kifp c_63 hf
  refine lv_goto (tgt := 64) hx hb d_Tx_readAll_23 (by decide) ?_
  refine lv_iconst (v := (-1)) hx hb d_Tx_readAll_64 ic_m1 ?_
  refine lv_aload_n hx hb d_Tx_readAll_65 rfl (lv_at hl 0 rfl) ?_
  refine k_get X hV 0 6 0 rfl rfl rfl gw_223 rfl rfl d_Tx_readAll_66 ?_
  refine k_get X hV 1 7 2 rfl rfl rfl gw_206 rfl rfl d_Tx_readAll_69 ?_
  refine lv_isub hx hb d_Tx_readAll_72 ?_
  have e_ := Option.some.inj hf
  subst e_
  exact k_iret X rfl hV rfl d_Tx_readAll_73
set_option maxHeartbeats 2000000 in
set_option maxRecDepth 20000 in
theorem tl_Tx_readAll_1 {l : Launch} {p : Program} {e : Env} {s : State} {m : MethodId} {args : Array Value} {below : List Frame} {meth : Method} {c : Code} {D : kD} {wc0 : va_W} {h : Nat} {h_tape : Nat} {h_tape_bytes : Nat} {h_p1 : Nat} {h_p1_ground : Nat} {h_p1_farms : Nat} {h_p1_mountain : Nat} {h_p1_ground_heights : Nat} {h_p1_ground_ages : Nat} {h_p1_ground_walls : Nat} {h_p1_farms_kinds : Nat} {h_p1_farms_cells : Nat} {h_p1_farms_owners : Nat} {h_p1_farms_purses : Nat} {h_p1_mountain_chances : Nat} {h_p1_mountain_shows : Nat} {h_p1_mountain_diary : Nat} {v_tape_size : Int32} {v_tape_bytes : Nat → Int32} {v_p1_month : Int32} {v_p1_volume : Int32} {v_p1_outs : Int32} {v_p1_fed : Int32} {v_p1_fedOuts : Int32} {v_p1_arePigsTold : Int32} {v_p1_ground_ash : Int32} {v_p1_farms_burnt : Int32} {v_p1_mountain_state : Int32} {v_p1_mountain_z : Int32} {out : Int32 × Int32 × Int32 × Int32 × Int32 × Int32 × (Nat → Int32) × (Nat → Int32) × (Nat → Int32) × Int32 × (Nat → Int32) × (Nat → Int32) × (Nat → Int32) × (Nat → Int32) × Int32 × (Nat → Int32) × (Nat → Int32) × (Nat → Int32)} (X : kX p m meth c s args D (va_A wc0 s.heap.size) b_Tx_readAll "MountainFarms$SlopeText" 3 (some .int)) : ∀ (n : Nat) (x2 : Int32) (v_tape_start : Int32) (v_tape_end : Int32) (v_tape_sort : Int32) (v_tape_value : Int32) (v_p1_ground_vent : Int32) (v_p1_ground_heights : Nat → Int32) (v_p1_ground_ages : Nat → Int32) (v_p1_ground_walls : Nat → Int32) (v_p1_farms_number : Int32) (v_p1_farms_kinds : Nat → Int32) (v_p1_farms_cells : Nat → Int32) (v_p1_farms_owners : Nat → Int32) (v_p1_farms_purses : Nat → Int32) (v_p1_mountain_seen : Int32) (v_p1_mountain_chances : Nat → Int32) (v_p1_mountain_shows : Nat → Int32) (v_p1_mountain_diary : Nat → Int32), fl_Tx_readAll_1 v_tape_size v_tape_bytes n x2 v_tape_start v_tape_end v_tape_sort v_tape_value v_p1_ground_vent v_p1_ground_heights v_p1_ground_ages v_p1_ground_walls v_p1_farms_number v_p1_farms_kinds v_p1_farms_cells v_p1_farms_owners v_p1_farms_purses v_p1_mountain_seen v_p1_mountain_chances v_p1_mountain_shows v_p1_mountain_diary = some out → ∀ (H : Heap) (locs : List Loc) (ls : Array Slot), kV D (va_A wc0 s.heap.size) s (wd_Tx_readAll D h h_tape h_tape_bytes h_p1 h_p1_ground h_p1_farms h_p1_mountain h_p1_ground_heights h_p1_ground_ages h_p1_ground_walls h_p1_farms_kinds h_p1_farms_cells h_p1_farms_owners h_p1_farms_purses h_p1_mountain_chances h_p1_mountain_shows h_p1_mountain_diary v_tape_size v_tape_start v_tape_end v_tape_sort v_tape_value v_tape_bytes v_p1_month v_p1_volume v_p1_outs v_p1_fed v_p1_fedOuts v_p1_arePigsTold v_p1_ground_vent v_p1_ground_ash v_p1_ground_heights v_p1_ground_ages v_p1_ground_walls v_p1_farms_number v_p1_farms_burnt v_p1_farms_kinds v_p1_farms_cells v_p1_farms_owners v_p1_farms_purses v_p1_mountain_seen v_p1_mountain_state v_p1_mountain_z v_p1_mountain_chances v_p1_mountain_shows v_p1_mountain_diary) H locs → lv_has ls 3 [(0, .ref h), (1, .ref h_p1), (2, .int x2)] → W p l e { frames := 7, cells := 0, slots := 0, locals := 153 } s m args below meth c H locs 0 0 (MQ below (kQi D wc0 (wd_Tx_readAll D h h_tape h_tape_bytes h_p1 h_p1_ground h_p1_farms h_p1_mountain h_p1_ground_heights h_p1_ground_ages h_p1_ground_walls h_p1_farms_kinds h_p1_farms_cells h_p1_farms_owners h_p1_farms_purses h_p1_mountain_chances h_p1_mountain_shows h_p1_mountain_diary v_tape_size out.2.1 out.2.2.1 out.2.2.2.1 out.2.2.2.2.1 v_tape_bytes v_p1_month v_p1_volume v_p1_outs v_p1_fed v_p1_fedOuts v_p1_arePigsTold out.2.2.2.2.2.1 v_p1_ground_ash out.2.2.2.2.2.2.1 out.2.2.2.2.2.2.2.1 out.2.2.2.2.2.2.2.2.1 out.2.2.2.2.2.2.2.2.2.1 v_p1_farms_burnt out.2.2.2.2.2.2.2.2.2.2.1 out.2.2.2.2.2.2.2.2.2.2.2.1 out.2.2.2.2.2.2.2.2.2.2.2.2.1 out.2.2.2.2.2.2.2.2.2.2.2.2.2.1 out.2.2.2.2.2.2.2.2.2.2.2.2.2.2.1 v_p1_mountain_state v_p1_mountain_z out.2.2.2.2.2.2.2.2.2.2.2.2.2.2.2.1 out.2.2.2.2.2.2.2.2.2.2.2.2.2.2.2.2.1 out.2.2.2.2.2.2.2.2.2.2.2.2.2.2.2.2.2) s.heap.size out.1) args s 0 0 (va_A wc0 s.heap.size)) (F0 m 9 ls []) := by
  intro n
  induction n with
  | zero => intro x2 v_tape_start v_tape_end v_tape_sort v_tape_value v_p1_ground_vent v_p1_ground_heights v_p1_ground_ages v_p1_ground_walls v_p1_farms_number v_p1_farms_kinds v_p1_farms_cells v_p1_farms_owners v_p1_farms_purses v_p1_mountain_seen v_p1_mountain_chances v_p1_mountain_shows v_p1_mountain_diary hf; exact knone hf
  | succ n ih => intro x2 v_tape_start v_tape_end v_tape_sort v_tape_value v_p1_ground_vent v_p1_ground_heights v_p1_ground_ages v_p1_ground_walls v_p1_farms_number v_p1_farms_kinds v_p1_farms_cells v_p1_farms_owners v_p1_farms_purses v_p1_mountain_seen v_p1_mountain_chances v_p1_mountain_shows v_p1_mountain_diary hf H locs ls hV hl; exact tb_Tx_readAll_1 X ih hf hV hl
set_option maxHeartbeats 2000000 in
set_option maxRecDepth 20000 in
theorem t_Tx_readAll {l : Launch} {p : Program} {e : Env} {s : State} {m : MethodId} {args : Array Value} {below : List Frame} {meth : Method} {c : Code} {D : kD} {wc0 : va_W} {h : Nat} {h_tape : Nat} {h_tape_bytes : Nat} {h_p1 : Nat} {h_p1_ground : Nat} {h_p1_farms : Nat} {h_p1_mountain : Nat} {h_p1_ground_heights : Nat} {h_p1_ground_ages : Nat} {h_p1_ground_walls : Nat} {h_p1_farms_kinds : Nat} {h_p1_farms_cells : Nat} {h_p1_farms_owners : Nat} {h_p1_farms_purses : Nat} {h_p1_mountain_chances : Nat} {h_p1_mountain_shows : Nat} {h_p1_mountain_diary : Nat} {v_tape_size : Int32} {v_tape_start : Int32} {v_tape_end : Int32} {v_tape_sort : Int32} {v_tape_value : Int32} {v_tape_bytes : Nat → Int32} {v_p1_month : Int32} {v_p1_volume : Int32} {v_p1_outs : Int32} {v_p1_fed : Int32} {v_p1_fedOuts : Int32} {v_p1_arePigsTold : Int32} {v_p1_ground_vent : Int32} {v_p1_ground_ash : Int32} {v_p1_ground_heights : Nat → Int32} {v_p1_ground_ages : Nat → Int32} {v_p1_ground_walls : Nat → Int32} {v_p1_farms_number : Int32} {v_p1_farms_burnt : Int32} {v_p1_farms_kinds : Nat → Int32} {v_p1_farms_cells : Nat → Int32} {v_p1_farms_owners : Nat → Int32} {v_p1_farms_purses : Nat → Int32} {v_p1_mountain_seen : Int32} {v_p1_mountain_state : Int32} {v_p1_mountain_z : Int32} {v_p1_mountain_chances : Nat → Int32} {v_p1_mountain_shows : Nat → Int32} {v_p1_mountain_diary : Nat → Int32} {out : Int32 × Int32 × Int32 × Int32 × Int32 × Int32 × (Nat → Int32) × (Nat → Int32) × (Nat → Int32) × Int32 × (Nat → Int32) × (Nat → Int32) × (Nat → Int32) × (Nat → Int32) × Int32 × (Nat → Int32) × (Nat → Int32) × (Nat → Int32)} (X : kX p m meth c s args D (va_A wc0 s.heap.size) b_Tx_readAll "MountainFarms$SlopeText" 3 (some .int)) (hf : f_Tx_readAll v_tape_size v_tape_start v_tape_end v_tape_sort v_tape_value v_tape_bytes v_p1_ground_vent v_p1_ground_heights v_p1_ground_ages v_p1_ground_walls v_p1_farms_number v_p1_farms_kinds v_p1_farms_cells v_p1_farms_owners v_p1_farms_purses v_p1_mountain_seen v_p1_mountain_chances v_p1_mountain_shows v_p1_mountain_diary = some out) {H : Heap} {locs : List Loc} (hV : kV D (va_A wc0 s.heap.size) s (wd_Tx_readAll D h h_tape h_tape_bytes h_p1 h_p1_ground h_p1_farms h_p1_mountain h_p1_ground_heights h_p1_ground_ages h_p1_ground_walls h_p1_farms_kinds h_p1_farms_cells h_p1_farms_owners h_p1_farms_purses h_p1_mountain_chances h_p1_mountain_shows h_p1_mountain_diary v_tape_size v_tape_start v_tape_end v_tape_sort v_tape_value v_tape_bytes v_p1_month v_p1_volume v_p1_outs v_p1_fed v_p1_fedOuts v_p1_arePigsTold v_p1_ground_vent v_p1_ground_ash v_p1_ground_heights v_p1_ground_ages v_p1_ground_walls v_p1_farms_number v_p1_farms_burnt v_p1_farms_kinds v_p1_farms_cells v_p1_farms_owners v_p1_farms_purses v_p1_mountain_seen v_p1_mountain_state v_p1_mountain_z v_p1_mountain_chances v_p1_mountain_shows v_p1_mountain_diary) H locs) {ls : Array Slot} (hl : lv_has ls 3 [(0, .ref h), (1, .ref h_p1)]) : W p l e { frames := 7, cells := 0, slots := 0, locals := 153 } s m args below meth c H locs 0 0 (MQ below (kQi D wc0 (wd_Tx_readAll D h h_tape h_tape_bytes h_p1 h_p1_ground h_p1_farms h_p1_mountain h_p1_ground_heights h_p1_ground_ages h_p1_ground_walls h_p1_farms_kinds h_p1_farms_cells h_p1_farms_owners h_p1_farms_purses h_p1_mountain_chances h_p1_mountain_shows h_p1_mountain_diary v_tape_size out.2.1 out.2.2.1 out.2.2.2.1 out.2.2.2.2.1 v_tape_bytes v_p1_month v_p1_volume v_p1_outs v_p1_fed v_p1_fedOuts v_p1_arePigsTold out.2.2.2.2.2.1 v_p1_ground_ash out.2.2.2.2.2.2.1 out.2.2.2.2.2.2.2.1 out.2.2.2.2.2.2.2.2.1 out.2.2.2.2.2.2.2.2.2.1 v_p1_farms_burnt out.2.2.2.2.2.2.2.2.2.2.1 out.2.2.2.2.2.2.2.2.2.2.2.1 out.2.2.2.2.2.2.2.2.2.2.2.2.1 out.2.2.2.2.2.2.2.2.2.2.2.2.2.1 out.2.2.2.2.2.2.2.2.2.2.2.2.2.2.1 v_p1_mountain_state v_p1_mountain_z out.2.2.2.2.2.2.2.2.2.2.2.2.2.2.2.1 out.2.2.2.2.2.2.2.2.2.2.2.2.2.2.2.2.1 out.2.2.2.2.2.2.2.2.2.2.2.2.2.2.2.2.2) s.heap.size out.1) args s 0 0 (va_A wc0 s.heap.size)) (F0 m 0 ls []) := by
  unfold f_Tx_readAll at hf
  obtain ⟨hx, hb, -⟩ := id X
  refine lv_aload_n hx hb d_Tx_readAll_0 rfl (lv_at hl 0 rfl) ?_
  refine k_get X hV 0 6 0 rfl rfl rfl gw_223 rfl rfl d_Tx_readAll_1 ?_
  obtain ⟨v_tape_start_38, v_tape_end_39, v_tape_sort_40, v_tape_value_41, hc_42, hf⟩ := kb4_some hf
  refine k_cvv (w1 := (wd_Ta_goToFirst D h_tape h_tape_bytes v_tape_size v_tape_start_38 v_tape_end_39 v_tape_sort_40 v_tape_value_41 v_tape_bytes)) (ws' := (wd_Tx_readAll D h h_tape h_tape_bytes h_p1 h_p1_ground h_p1_farms h_p1_mountain h_p1_ground_heights h_p1_ground_ages h_p1_ground_walls h_p1_farms_kinds h_p1_farms_cells h_p1_farms_owners h_p1_farms_purses h_p1_mountain_chances h_p1_mountain_shows h_p1_mountain_diary v_tape_size v_tape_start_38 v_tape_end_39 v_tape_sort_40 v_tape_value_41 v_tape_bytes v_p1_month v_p1_volume v_p1_outs v_p1_fed v_p1_fedOuts v_p1_arePigsTold v_p1_ground_vent v_p1_ground_ash v_p1_ground_heights v_p1_ground_ages v_p1_ground_walls v_p1_farms_number v_p1_farms_burnt v_p1_farms_kinds v_p1_farms_cells v_p1_farms_owners v_p1_farms_purses v_p1_mountain_seen v_p1_mountain_state v_p1_mountain_z v_p1_mountain_chances v_p1_mountain_shows v_p1_mountain_diary)) X hV hl.1 (c_Ta_goToFirst D h_tape h_tape_bytes v_tape_size v_tape_start v_tape_end v_tape_sort v_tape_value v_tape_bytes hc_42) fk_Ta_goToFirst gw_649 rfl 1 7 rfl rfl [1, 2] [none, some 0, some 1, none, none, none, none, none, none, none, none, none, none, none, none, none, none] rfl rfl ⟨rfl, rfl, rfl, rfl, rfl, rfl, rfl, rfl, rfl, rfl, rfl, rfl, rfl, rfl, rfl, rfl, rfl, rfl, rfl, rfl, rfl, trivial⟩ rfl rfl rfl d_Tx_readAll_4 (fun H locs hV => ?_)
  refine lv_iconst (v := 1) hx hb d_Tx_readAll_7 ic_1 ?_
  refine lv_istore_n (lv' := [(2, .int (1 : Int32)), (0, .ref h), (1, .ref h_p1)]) hx hb d_Tx_readAll_8 rfl hl (by decide) rfl (fun ls hl => ?_)
  exact tl_Tx_readAll_1 X _ _ _ _ _ _ _ _ _ _ _ _ _ _ _ _ _ _ _ hf _ _ _ hV (lv_sub hl [1, 2, 0] rfl)
set_option maxHeartbeats 2000000 in
set_option maxRecDepth 20000 in
theorem c_Tx_readAll {l : Launch} (D : kD) (h : Nat) (h_tape : Nat) (h_tape_bytes : Nat) (h_p1 : Nat) (h_p1_ground : Nat) (h_p1_farms : Nat) (h_p1_mountain : Nat) (h_p1_ground_heights : Nat) (h_p1_ground_ages : Nat) (h_p1_ground_walls : Nat) (h_p1_farms_kinds : Nat) (h_p1_farms_cells : Nat) (h_p1_farms_owners : Nat) (h_p1_farms_purses : Nat) (h_p1_mountain_chances : Nat) (h_p1_mountain_shows : Nat) (h_p1_mountain_diary : Nat) (v_tape_size : Int32) (v_tape_start : Int32) (v_tape_end : Int32) (v_tape_sort : Int32) (v_tape_value : Int32) (v_tape_bytes : Nat → Int32) (v_p1_month : Int32) (v_p1_volume : Int32) (v_p1_outs : Int32) (v_p1_fed : Int32) (v_p1_fedOuts : Int32) (v_p1_arePigsTold : Int32) (v_p1_ground_vent : Int32) (v_p1_ground_ash : Int32) (v_p1_ground_heights : Nat → Int32) (v_p1_ground_ages : Nat → Int32) (v_p1_ground_walls : Nat → Int32) (v_p1_farms_number : Int32) (v_p1_farms_burnt : Int32) (v_p1_farms_kinds : Nat → Int32) (v_p1_farms_cells : Nat → Int32) (v_p1_farms_owners : Nat → Int32) (v_p1_farms_purses : Nat → Int32) (v_p1_mountain_seen : Int32) (v_p1_mountain_state : Int32) (v_p1_mountain_z : Int32) (v_p1_mountain_chances : Nat → Int32) (v_p1_mountain_shows : Nat → Int32) (v_p1_mountain_diary : Nat → Int32) {out : Int32 × Int32 × Int32 × Int32 × Int32 × Int32 × (Nat → Int32) × (Nat → Int32) × (Nat → Int32) × Int32 × (Nat → Int32) × (Nat → Int32) × (Nat → Int32) × (Nat → Int32) × Int32 × (Nat → Int32) × (Nat → Int32) × (Nat → Int32)} (hf : f_Tx_readAll v_tape_size v_tape_start v_tape_end v_tape_sort v_tape_value v_tape_bytes v_p1_ground_vent v_p1_ground_heights v_p1_ground_ages v_p1_ground_walls v_p1_farms_number v_p1_farms_kinds v_p1_farms_cells v_p1_farms_owners v_p1_farms_purses v_p1_mountain_seen v_p1_mountain_chances v_p1_mountain_shows v_p1_mountain_diary = some out) : kMi l D y_Tx_readAll b_Tx_readAll 3 (some .int) { frames := 7, cells := 0, slots := 0, locals := 153 } [.ref h, .ref h_p1] (wd_Tx_readAll D h h_tape h_tape_bytes h_p1 h_p1_ground h_p1_farms h_p1_mountain h_p1_ground_heights h_p1_ground_ages h_p1_ground_walls h_p1_farms_kinds h_p1_farms_cells h_p1_farms_owners h_p1_farms_purses h_p1_mountain_chances h_p1_mountain_shows h_p1_mountain_diary v_tape_size v_tape_start v_tape_end v_tape_sort v_tape_value v_tape_bytes v_p1_month v_p1_volume v_p1_outs v_p1_fed v_p1_fedOuts v_p1_arePigsTold v_p1_ground_vent v_p1_ground_ash v_p1_ground_heights v_p1_ground_ages v_p1_ground_walls v_p1_farms_number v_p1_farms_burnt v_p1_farms_kinds v_p1_farms_cells v_p1_farms_owners v_p1_farms_purses v_p1_mountain_seen v_p1_mountain_state v_p1_mountain_z v_p1_mountain_chances v_p1_mountain_shows v_p1_mountain_diary) (wd_Tx_readAll D h h_tape h_tape_bytes h_p1 h_p1_ground h_p1_farms h_p1_mountain h_p1_ground_heights h_p1_ground_ages h_p1_ground_walls h_p1_farms_kinds h_p1_farms_cells h_p1_farms_owners h_p1_farms_purses h_p1_mountain_chances h_p1_mountain_shows h_p1_mountain_diary v_tape_size out.2.1 out.2.2.1 out.2.2.2.1 out.2.2.2.2.1 v_tape_bytes v_p1_month v_p1_volume v_p1_outs v_p1_fed v_p1_fedOuts v_p1_arePigsTold out.2.2.2.2.2.1 v_p1_ground_ash out.2.2.2.2.2.2.1 out.2.2.2.2.2.2.2.1 out.2.2.2.2.2.2.2.2.1 out.2.2.2.2.2.2.2.2.2.1 v_p1_farms_burnt out.2.2.2.2.2.2.2.2.2.2.1 out.2.2.2.2.2.2.2.2.2.2.2.1 out.2.2.2.2.2.2.2.2.2.2.2.2.1 out.2.2.2.2.2.2.2.2.2.2.2.2.2.1 out.2.2.2.2.2.2.2.2.2.2.2.2.2.2.1 v_p1_mountain_state v_p1_mountain_z out.2.2.2.2.2.2.2.2.2.2.2.2.2.2.2.1 out.2.2.2.2.2.2.2.2.2.2.2.2.2.2.2.2.1 out.2.2.2.2.2.2.2.2.2.2.2.2.2.2.2.2.2) out.1 :=
  kMi_of (own := "MountainFarms$SlopeText") (plainFor_of_name (by decide)) rfl rfl (fun p e s m args below meth c ls X hV hl => t_Tx_readAll X hf hV hl)
