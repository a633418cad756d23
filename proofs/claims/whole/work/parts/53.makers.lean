/-! printed by wip/gen/p53.py: the loops of three makers -/
noncomputable def fb_Gr_init_1 (rec1 : Int32 → (Nat → Int32) → (Nat → Int32) → Option ((Nat → Int32) × (Nat → Int32))) (v_vent : Int32) (x1 : Int32) (v_heights : Nat → Int32) (v_ages : Nat → Int32) : Option ((Nat → Int32) × (Nat → Int32)) := (if (36 : Int32) ≤ x1 then some (v_heights, v_ages) else kb1 (f_Ma_abs ((x1 / (6 : Int32)) - (v_vent / (6 : Int32)))) fun r_11 => kb1 (f_Ma_abs ((x1 - x1 / (6 : Int32) * (6 : Int32)) - (v_vent - v_vent / (6 : Int32) * (6 : Int32)))) fun r_13 => kb1 (f_Ma_max (0 : Int32) ((50 : Int32) - ((5 : Int32) * (r_11 + r_13)))) fun r_15 => kidx x1 36 (kidx x1 36 (rec1 (x1 + 1) (upd v_heights x1.toNatClampNeg r_15) (upd v_ages x1.toNatClampNeg (20 : Int32)))))
noncomputable def fl_Gr_init_1 (v_vent : Int32) : Nat → Int32 → (Nat → Int32) → (Nat → Int32) → Option ((Nat → Int32) × (Nat → Int32)) := fun n => Nat.rec (motive := fun _ => Int32 → (Nat → Int32) → (Nat → Int32) → Option ((Nat → Int32) × (Nat → Int32))) (fun _ _ _ => none) (fun _ rec_ => fb_Gr_init_1 rec_ v_vent) n
theorem fl_Gr_init_1_0 (v_vent : Int32) (x1 : Int32) (v_heights : Nat → Int32) (v_ages : Nat → Int32) : fl_Gr_init_1 v_vent 0 x1 v_heights v_ages = none := rfl
theorem fl_Gr_init_1_s (v_vent : Int32) (n : Nat) (x1 : Int32) (v_heights : Nat → Int32) (v_ages : Nat → Int32) : fl_Gr_init_1 v_vent (n + 1) x1 v_heights v_ages = fb_Gr_init_1 (fl_Gr_init_1 v_vent n) v_vent x1 v_heights v_ages := rfl
noncomputable def f_Gr_init (v_vent : Int32) (v_heights : Nat → Int32) (v_ages : Nat → Int32) : Option ((Nat → Int32) × (Nat → Int32)) := fl_Gr_init_1 v_vent kFuel (0 : Int32) v_heights v_ages
abbrev wd_Gr_init (D : kD) (h : Nat) (h_heights : Nat) (h_ages : Nat) (h_walls : Nat) (v_vent : Int32) (v_ash : Int32) (v_heights : Nat → Int32) (v_ages : Nat → Int32) (v_walls : Nat → Int32) : va_W := [(h, .inr (1, [.ref h_heights, .ref h_ages, .ref h_walls, .int v_vent, .int v_ash])), (h_heights, .inl (kI D, 36, .inl v_heights)), (h_ages, .inl (kI D, 36, .inl v_ages)), (h_walls, .inl (kI D, 36, .inl v_walls))]
noncomputable def f_Mo_init_3 (rec1 : Int32 → (Nat → Int32) → (Nat → Int32) → Option ((Nat → Int32) × (Nat → Int32))) (rec2 : Int32 → Int32 → (Nat → Int32) → Option ((Nat → Int32) × (Nat → Int32))) (s1 : Int32) (s2 : Int32) (x1 : Int32) (x2 : Int32) (v_chances : Nat → Int32) (v_shows : Nat → Int32) : Option ((Nat → Int32) × (Nat → Int32)) := kidx s1 16 (rec2 x1 (x2 + 1) (upd v_shows s1.toNatClampNeg s2))
noncomputable def fb_Mo_init_2 (rec1 : Int32 → (Nat → Int32) → (Nat → Int32) → Option ((Nat → Int32) × (Nat → Int32))) (rec2 : Int32 → Int32 → (Nat → Int32) → Option ((Nat → Int32) × (Nat → Int32))) (v_chances : Nat → Int32) (x1 : Int32) (x2 : Int32) (v_shows : Nat → Int32) : Option ((Nat → Int32) × (Nat → Int32)) := (if (4 : Int32) ≤ x2 then rec1 (x1 + 1) v_chances v_shows else (if x2 = x1 then f_Mo_init_3 rec1 rec2 (((4 : Int32) * x1) + x2) (7 : Int32) x1 x2 v_chances v_shows else f_Mo_init_3 rec1 rec2 (((4 : Int32) * x1) + x2) (1 : Int32) x1 x2 v_chances v_shows))
noncomputable def fl_Mo_init_2 (rec1 : Int32 → (Nat → Int32) → (Nat → Int32) → Option ((Nat → Int32) × (Nat → Int32))) (v_chances : Nat → Int32) : Nat → Int32 → Int32 → (Nat → Int32) → Option ((Nat → Int32) × (Nat → Int32)) := fun n => Nat.rec (motive := fun _ => Int32 → Int32 → (Nat → Int32) → Option ((Nat → Int32) × (Nat → Int32))) (fun _ _ _ => none) (fun _ rec_ => fb_Mo_init_2 rec1 rec_ v_chances) n
theorem fl_Mo_init_2_0 (rec1 : Int32 → (Nat → Int32) → (Nat → Int32) → Option ((Nat → Int32) × (Nat → Int32))) (v_chances : Nat → Int32) (x1 : Int32) (x2 : Int32) (v_shows : Nat → Int32) : fl_Mo_init_2 rec1 v_chances 0 x1 x2 v_shows = none := rfl
theorem fl_Mo_init_2_s (rec1 : Int32 → (Nat → Int32) → (Nat → Int32) → Option ((Nat → Int32) × (Nat → Int32))) (v_chances : Nat → Int32) (n : Nat) (x1 : Int32) (x2 : Int32) (v_shows : Nat → Int32) : fl_Mo_init_2 rec1 v_chances (n + 1) x1 x2 v_shows = fb_Mo_init_2 rec1 (fl_Mo_init_2 rec1 v_chances n) v_chances x1 x2 v_shows := rfl
noncomputable def fb_Mo_init_1 (rec1 : Int32 → (Nat → Int32) → (Nat → Int32) → Option ((Nat → Int32) × (Nat → Int32))) (x1 : Int32) (v_chances : Nat → Int32) (v_shows : Nat → Int32) : Option ((Nat → Int32) × (Nat → Int32)) := (if (4 : Int32) ≤ x1 then some (v_chances, v_shows) else kidx (((4 : Int32) * x1) + x1) 16 (kidx (((4 : Int32) * x1) + ((x1 + (1 : Int32)) - (x1 + (1 : Int32)) / (4 : Int32) * (4 : Int32))) 16 (fl_Mo_init_2 rec1 (upd (upd v_chances (((4 : Int32) * x1) + x1).toNatClampNeg (7 : Int32)) (((4 : Int32) * x1) + ((x1 + (1 : Int32)) - (x1 + (1 : Int32)) / (4 : Int32) * (4 : Int32))).toNatClampNeg (3 : Int32)) kFuel x1 (0 : Int32) v_shows)))
noncomputable def fl_Mo_init_1 : Nat → Int32 → (Nat → Int32) → (Nat → Int32) → Option ((Nat → Int32) × (Nat → Int32)) := fun n => Nat.rec (motive := fun _ => Int32 → (Nat → Int32) → (Nat → Int32) → Option ((Nat → Int32) × (Nat → Int32))) (fun _ _ _ => none) (fun _ rec_ => fb_Mo_init_1 rec_) n
theorem fl_Mo_init_1_0 (x1 : Int32) (v_chances : Nat → Int32) (v_shows : Nat → Int32) : fl_Mo_init_1 0 x1 v_chances v_shows = none := rfl
theorem fl_Mo_init_1_s (n : Nat) (x1 : Int32) (v_chances : Nat → Int32) (v_shows : Nat → Int32) : fl_Mo_init_1 (n + 1) x1 v_chances v_shows = fb_Mo_init_1 (fl_Mo_init_1 n) x1 v_chances v_shows := rfl
noncomputable def f_Mo_init (v_chances : Nat → Int32) (v_shows : Nat → Int32) : Option ((Nat → Int32) × (Nat → Int32)) := fl_Mo_init_1 kFuel (0 : Int32) v_chances v_shows
abbrev wd_Mo_init (D : kD) (h : Nat) (h_chances : Nat) (h_shows : Nat) (h_diary : Nat) (v_seen : Int32) (v_state : Int32) (v_z : Int32) (v_chances : Nat → Int32) (v_shows : Nat → Int32) (v_diary : Nat → Int32) : va_W := [(h, .inr (2, [.ref h_chances, .ref h_shows, .ref h_diary, .int v_seen, .int v_state, .int v_z])), (h_chances, .inl (kI D, 16, .inl v_chances)), (h_shows, .inl (kI D, 16, .inl v_shows)), (h_diary, .inl (kI D, 6, .inl v_diary))]
noncomputable def f_M_init_4 (rec2 : Int32 → (Nat → Int32) → Option ((Nat → Int32))) (rec3 : Int32 → Int32 → (Nat → Int32) → Option ((Nat → Int32))) (s1 : Int32) (s2 : Int32) (x1 : Int32) (x2 : Int32) (v_now : Nat → Int32) : Option ((Nat → Int32)) := kidx s1 218 (rec3 x1 (x2 + 1) (upd v_now s1.toNatClampNeg s2))
noncomputable def fb_M_init_3 (rec2 : Int32 → (Nat → Int32) → Option ((Nat → Int32))) (rec3 : Int32 → Int32 → (Nat → Int32) → Option ((Nat → Int32))) (x1 : Int32) (x2 : Int32) (v_now : Nat → Int32) : Option ((Nat → Int32)) := (if (4 : Int32) ≤ x2 then rec2 (x1 + 1) v_now else (if x1 = x2 then f_M_init_4 rec2 rec3 (((34 : Int32) + ((4 : Int32) * x1)) + x2) (7 : Int32) x1 x2 v_now else f_M_init_4 rec2 rec3 (((34 : Int32) + ((4 : Int32) * x1)) + x2) (1 : Int32) x1 x2 v_now))
noncomputable def fl_M_init_3 (rec2 : Int32 → (Nat → Int32) → Option ((Nat → Int32))) : Nat → Int32 → Int32 → (Nat → Int32) → Option ((Nat → Int32)) := fun n => Nat.rec (motive := fun _ => Int32 → Int32 → (Nat → Int32) → Option ((Nat → Int32))) (fun _ _ _ => none) (fun _ rec_ => fb_M_init_3 rec2 rec_) n
theorem fl_M_init_3_0 (rec2 : Int32 → (Nat → Int32) → Option ((Nat → Int32))) (x1 : Int32) (x2 : Int32) (v_now : Nat → Int32) : fl_M_init_3 rec2 0 x1 x2 v_now = none := rfl
theorem fl_M_init_3_s (rec2 : Int32 → (Nat → Int32) → Option ((Nat → Int32))) (n : Nat) (x1 : Int32) (x2 : Int32) (v_now : Nat → Int32) : fl_M_init_3 rec2 (n + 1) x1 x2 v_now = fb_M_init_3 rec2 (fl_M_init_3 rec2 n) x1 x2 v_now := rfl
noncomputable def fb_M_init_2 (rec2 : Int32 → (Nat → Int32) → Option ((Nat → Int32))) (x1 : Int32) (v_now : Nat → Int32) : Option ((Nat → Int32)) := (if (4 : Int32) ≤ x1 then some v_now else kidx (((18 : Int32) + ((4 : Int32) * x1)) + x1) 218 (kidx (((18 : Int32) + ((4 : Int32) * x1)) + ((x1 + (1 : Int32)) - (x1 + (1 : Int32)) / (4 : Int32) * (4 : Int32))) 218 (fl_M_init_3 rec2 kFuel x1 (0 : Int32) (upd (upd v_now (((18 : Int32) + ((4 : Int32) * x1)) + x1).toNatClampNeg (7 : Int32)) (((18 : Int32) + ((4 : Int32) * x1)) + ((x1 + (1 : Int32)) - (x1 + (1 : Int32)) / (4 : Int32) * (4 : Int32))).toNatClampNeg (3 : Int32)))))
noncomputable def fl_M_init_2 : Nat → Int32 → (Nat → Int32) → Option ((Nat → Int32)) := fun n => Nat.rec (motive := fun _ => Int32 → (Nat → Int32) → Option ((Nat → Int32))) (fun _ _ => none) (fun _ rec_ => fb_M_init_2 rec_) n
theorem fl_M_init_2_0 (x1 : Int32) (v_now : Nat → Int32) : fl_M_init_2 0 x1 v_now = none := rfl
theorem fl_M_init_2_s (n : Nat) (x1 : Int32) (v_now : Nat → Int32) : fl_M_init_2 (n + 1) x1 v_now = fb_M_init_2 (fl_M_init_2 n) x1 v_now := rfl
noncomputable def fb_M_init_1 (rec1 : Int32 → (Nat → Int32) → Option ((Nat → Int32))) (x1 : Int32) (v_now : Nat → Int32) : Option ((Nat → Int32)) := (if (36 : Int32) ≤ x1 then fl_M_init_2 kFuel (0 : Int32) v_now else kb1 (f_Ma_abs ((x1 / (6 : Int32)) - (2 : Int32))) fun r_17 => kb1 (f_Ma_abs ((x1 - x1 / (6 : Int32) * (6 : Int32)) - (2 : Int32))) fun r_19 => kb1 (f_Ma_max (0 : Int32) ((50 : Int32) - ((5 : Int32) * (r_17 + r_19)))) fun r_21 => kidx ((50 : Int32) + x1) 218 (kidx ((86 : Int32) + x1) 218 (rec1 (x1 + 1) (upd (upd v_now ((50 : Int32) + x1).toNatClampNeg r_21) ((86 : Int32) + x1).toNatClampNeg (20 : Int32)))))
noncomputable def fl_M_init_1 : Nat → Int32 → (Nat → Int32) → Option ((Nat → Int32)) := fun n => Nat.rec (motive := fun _ => Int32 → (Nat → Int32) → Option ((Nat → Int32))) (fun _ _ => none) (fun _ rec_ => fb_M_init_1 rec_) n
theorem fl_M_init_1_0 (x1 : Int32) (v_now : Nat → Int32) : fl_M_init_1 0 x1 v_now = none := rfl
theorem fl_M_init_1_s (n : Nat) (x1 : Int32) (v_now : Nat → Int32) : fl_M_init_1 (n + 1) x1 v_now = fb_M_init_1 (fl_M_init_1 n) x1 v_now := rfl
noncomputable def f_M_init (v_now : Nat → Int32) : Option ((Nat → Int32)) := fl_M_init_1 kFuel (0 : Int32) (upd (upd (upd (upd v_now 0 (1 : Int32)) 3 (14 : Int32)) 4 (99 : Int32)) 5 (12 : Int32))
abbrev wd_M_init (D : kD) (h : Nat) (h_now : Nat) (h_kept : Nat) (h_aside : Nat) (h_found : Nat) (h_down : Nat) (h_along : Nat) (h_parts : Nat) (h_gone : Nat) (h_tape : Nat) (h_kinds : Nat) (h_items : Nat) (h_widths : Nat) (h_sizes : Nat) (h_numbers : Nat) (h_moved : Nat) (v_isKept : Int32) (v_taped : Int32) (v_begins : Int32) (v_ends : Int32) (v_sort : Int32) (v_value : Int32) (v_isWrong : Int32) (v_itemMany : Int32) (v_farmMany : Int32) (v_farmCells : Int64) (v_now : Nat → Int32) (v_kept : Nat → Int32) (v_aside : Nat → Int32) (v_found : Nat → Int32) (v_down : Nat → Int32) (v_along : Nat → Int32) (v_parts : Nat → Int64) (v_gone : Nat → Int64) (v_tape : Nat → Int32) (v_items : Nat → Int32) (v_widths : Nat → Int32) (v_sizes : Nat → Int32) (v_numbers : Nat → Int64) (v_moved : Nat → Int64) : va_W := [(h, .inr (9, [.ref h_now, .ref h_kept, .ref h_aside, .int v_isKept, .ref h_found, .ref h_down, .ref h_along, .ref h_parts, .ref h_gone, .ref h_tape, .int v_taped, .int v_begins, .int v_ends, .int v_sort, .int v_value, .int v_isWrong, .ref h_kinds, .ref h_items, .int v_itemMany, .int v_farmMany, .long v_farmCells, .ref h_widths, .ref h_sizes, .ref h_numbers, .ref h_moved])), (h_now, .inl (kI D, 218, .inl v_now)), (h_kept, .inl (kI D, 218, .inl v_kept)), (h_aside, .inl (kI D, 218, .inl v_aside)), (h_found, .inl (kI D, 8, .inl v_found)), (h_down, .inl (kI D, 4, .inl v_down)), (h_along, .inl (kI D, 4, .inl v_along)), (h_parts, .inl (kJ D, 4, .inr (.inl v_parts))), (h_gone, .inl (kJ D, 4, .inr (.inl v_gone))), (h_tape, .inl (kI D, 120, .inl v_tape)), (h_kinds, .inl (kU D, 6, .inr (.inr (.inr (.inr (kKinds D)))))), (h_items, .inl (kI D, 720, .inl v_items)), (h_widths, .inl (kI D, 4, .inl v_widths)), (h_sizes, .inl (kI D, 4, .inl v_sizes)), (h_numbers, .inl (kJ D, 160, .inr (.inl v_numbers))), (h_moved, .inl (kJ D, 40, .inr (.inl v_moved)))]
set_option maxHeartbeats 2000000 in
set_option maxRecDepth 20000 in
theorem tb_Gr_init_1 {l : Launch} {p : Program} {e : Env} {s : State} {m : MethodId} {args : Array Value} {below : List Frame} {meth : Method} {c : Code} {D : kD} {wc0 : va_W} {h : Nat} {h_heights : Nat} {h_ages : Nat} {h_walls : Nat} {v_vent : Int32} {v_ash : Int32} {v_heights : Nat → Int32} {v_ages : Nat → Int32} {v_walls : Nat → Int32} {x1 : Int32} {rec1 : Int32 → (Nat → Int32) → (Nat → Int32) → Option ((Nat → Int32) × (Nat → Int32))} {out : (Nat → Int32) × (Nat → Int32)} (X : kX p m meth c s args D (va_A wc0 s.heap.size) b_Gr_init "MountainFarms$Ground" 4 none) {Qf : State → Prop} (hq : ∀ (H : Heap) (locs : List Loc) (ls : Array Slot), kV D (va_A wc0 s.heap.size) s (wd_Gr_init D h h_heights h_ages h_walls v_vent v_ash out.1 out.2 v_walls) H locs → ls.size = 4 → W p l e { frames := 2, cells := 3, slots := 108, locals := 60 } s m args below meth c H locs 3 108 Qf (F0 m 112 ls [])) (hrec1 : ∀ (x1 : Int32) (v_heights : Nat → Int32) (v_ages : Nat → Int32), rec1 x1 v_heights v_ages = some out → ∀ (H : Heap) (locs : List Loc) (ls : Array Slot), kV D (va_A wc0 s.heap.size) s (wd_Gr_init D h h_heights h_ages h_walls v_vent v_ash v_heights v_ages v_walls) H locs → lv_has ls 4 [(0, .ref h), (1, .int x1)] → W p l e { frames := 2, cells := 3, slots := 108, locals := 60 } s m args below meth c H locs 3 108 Qf (F0 m 42 ls [])) (hf : fb_Gr_init_1 rec1 v_vent x1 v_heights v_ages = some out) {H : Heap} {locs : List Loc} (hV : kV D (va_A wc0 s.heap.size) s (wd_Gr_init D h h_heights h_ages h_walls v_vent v_ash v_heights v_ages v_walls) H locs) {ls : Array Slot} (hl : lv_has ls 4 [(0, .ref h), (1, .int x1)]) : W p l e { frames := 2, cells := 3, slots := 108, locals := 60 } s m args below meth c H locs 3 108 Qf (F0 m 42 ls []) := by
  unfold fb_Gr_init_1 at hf
  obtain ⟨hx, hb, -⟩ := id X
  refine lv_iload_n hx hb d_Gr_init_42 rfl (lv_at hl 1 rfl) ?_
  refine lv_bipush (v := 36) hx hb d_Gr_init_43 bp_36 ?_
  refine lv_icmp_ge (tgt := 112) hx hb d_Gr_init_45 (by decide) (fun c_10 => ?_) (fun c_10 => ?_)
  · replace hf := kifp c_10 hf
    have e_ := Option.some.inj hf
    subst e_
    exact hq _ _ _ hV hl.1
  replace hf := kifn c_10 hf
  refine lv_iload_n hx hb d_Gr_init_48 rfl (lv_at hl 1 rfl) ?_
  refine lv_bipush (v := 6) hx hb d_Gr_init_49 bp_6 ?_
  refine lv_idiv hx hb d_Gr_init_51 (by decide) ?_
  refine lv_aload_n hx hb d_Gr_init_52 rfl (lv_at hl 0 rfl) ?_
  refine k_get X hV 0 1 3 rfl rfl rfl gw_53 rfl rfl d_Gr_init_53 ?_
  refine lv_bipush (v := 6) hx hb d_Gr_init_56 bp_6 ?_
  refine lv_idiv hx hb d_Gr_init_58 (by decide) ?_
  refine lv_isub hx hb d_Gr_init_59 ?_
  obtain ⟨r_11, hc_12, hf⟩ := kb1_some hf
  refine k_csi (w1 := (wd_Ma_abs D)) (r := r_11) (ws' := (wd_Gr_init D h h_heights h_ages h_walls v_vent v_ash v_heights v_ages v_walls)) X hV hl.1 (c_Ma_abs D ((x1 / (6 : Int32)) - (v_vent / (6 : Int32))) hc_12) fk_Ma_abs gw_39 rfl [] [none, none, none, none] rfl rfl ⟨rfl, rfl, rfl, rfl, trivial⟩ rfl rfl rfl d_Gr_init_60 (fun H locs hV => ?_)
  refine lv_istore_n (lv' := [(2, .int r_11), (0, .ref h), (1, .int x1)]) hx hb d_Gr_init_63 rfl hl (by decide) rfl (fun ls hl => ?_)
  refine lv_iload_n hx hb d_Gr_init_64 rfl (lv_at hl 2 rfl) ?_
  refine lv_bipush (v := 6) hx hb d_Gr_init_65 bp_6 ?_
  refine lv_irem hx hb d_Gr_init_67 (by decide) ?_
  refine lv_aload_n hx hb d_Gr_init_68 rfl (lv_at hl 1 rfl) ?_
  refine k_get X hV 0 1 3 rfl rfl rfl gw_53 rfl rfl d_Gr_init_69 ?_
  refine lv_bipush (v := 6) hx hb d_Gr_init_72 bp_6 ?_
  refine lv_irem hx hb d_Gr_init_74 (by decide) ?_
  refine lv_isub hx hb d_Gr_init_75 ?_
  obtain ⟨r_13, hc_14, hf⟩ := kb1_some hf
  refine k_csi (w1 := (wd_Ma_abs D)) (r := r_13) (ws' := (wd_Gr_init D h h_heights h_ages h_walls v_vent v_ash v_heights v_ages v_walls)) X hV hl.1 (c_Ma_abs D ((x1 - x1 / (6 : Int32) * (6 : Int32)) - (v_vent - v_vent / (6 : Int32) * (6 : Int32))) hc_14) fk_Ma_abs gw_39 rfl [] [none, none, none, none] rfl rfl ⟨rfl, rfl, rfl, rfl, trivial⟩ rfl rfl rfl d_Gr_init_76 (fun H locs hV => ?_)
  refine lv_istore_n (lv' := [(3, .int r_13), (2, .int r_11), (0, .ref h), (1, .int x1)]) hx hb d_Gr_init_79 rfl hl (by decide) rfl (fun ls hl => ?_)
  refine lv_aload_n hx hb d_Gr_init_80 rfl (lv_at hl 2 rfl) ?_
  refine k_get X hV 0 1 0 rfl rfl rfl gw_45 rfl rfl d_Gr_init_81 ?_
  refine lv_iload_n hx hb d_Gr_init_84 rfl (lv_at hl 3 rfl) ?_
  refine lv_iconst (v := 0) hx hb d_Gr_init_85 ic_0 ?_
  refine lv_bipush (v := 50) hx hb d_Gr_init_86 bp_50 ?_
  refine lv_iconst (v := 5) hx hb d_Gr_init_88 ic_5 ?_
  refine lv_iload_n hx hb d_Gr_init_89 rfl (lv_at hl 1 rfl) ?_
  refine lv_iload_n hx hb d_Gr_init_90 rfl (lv_at hl 0 rfl) ?_
  refine lv_iadd hx hb d_Gr_init_91 ?_
  refine lv_imul hx hb d_Gr_init_92 ?_
  refine lv_isub hx hb d_Gr_init_93 ?_
  obtain ⟨r_15, hc_16, hf⟩ := kb1_some hf
  refine k_csi (w1 := (wd_Ma_max D)) (r := r_15) (ws' := (wd_Gr_init D h h_heights h_ages h_walls v_vent v_ash v_heights v_ages v_walls)) X hV hl.1 (c_Ma_max D (0 : Int32) ((50 : Int32) - ((5 : Int32) * (r_11 + r_13))) hc_16) fk_Ma_max gw_42 rfl [] [none, none, none, none] rfl rfl ⟨rfl, rfl, rfl, rfl, trivial⟩ rfl rfl rfl d_Gr_init_94 (fun H locs hV => ?_)
  obtain ⟨h_17, hf⟩ := kidx_some hf
  refine k_iast (ws' := (wd_Gr_init D h h_heights h_ages h_walls v_vent v_ash (upd v_heights x1.toNatClampNeg r_15) v_ages v_walls)) X hV 1 rfl h_17 rfl rfl d_Gr_init_97 (fun H locs hV => ?_)
  refine lv_aload_n hx hb d_Gr_init_98 rfl (lv_at hl 2 rfl) ?_
  refine k_get X hV 0 1 1 rfl rfl rfl gw_48 rfl rfl d_Gr_init_99 ?_
  refine lv_iload_n hx hb d_Gr_init_102 rfl (lv_at hl 3 rfl) ?_
  refine lv_bipush (v := 20) hx hb d_Gr_init_103 bp_20 ?_
  obtain ⟨h_18, hf⟩ := kidx_some hf
  refine k_iast (ws' := (wd_Gr_init D h h_heights h_ages h_walls v_vent v_ash (upd v_heights x1.toNatClampNeg r_15) (upd v_ages x1.toNatClampNeg (20 : Int32)) v_walls)) X hV 2 rfl h_18 rfl rfl d_Gr_init_105 (fun H locs hV => ?_)
  refine lv_iinc (v := (x1 + 1)) (lv' := [(1, .int (x1 + 1)), (3, .int r_13), (2, .int r_11), (0, .ref h)]) hx hb d_Gr_init_106 hl (k := 3) rfl rfl (by decide) rfl (fun ls hl => ?_)
  refine lv_goto (tgt := 42) hx hb d_Gr_init_109 (by decide) ?_
  exact hrec1 _ _ _ hf _ _ _ hV (lv_sub hl [3, 0] rfl)
set_option maxHeartbeats 2000000 in
set_option maxRecDepth 20000 in
theorem tl_Gr_init_1 {l : Launch} {p : Program} {e : Env} {s : State} {m : MethodId} {args : Array Value} {below : List Frame} {meth : Method} {c : Code} {D : kD} {wc0 : va_W} {h : Nat} {h_heights : Nat} {h_ages : Nat} {h_walls : Nat} {v_vent : Int32} {v_ash : Int32} {v_walls : Nat → Int32} {out : (Nat → Int32) × (Nat → Int32)} (X : kX p m meth c s args D (va_A wc0 s.heap.size) b_Gr_init "MountainFarms$Ground" 4 none) {Qf : State → Prop} (hq : ∀ (H : Heap) (locs : List Loc) (ls : Array Slot), kV D (va_A wc0 s.heap.size) s (wd_Gr_init D h h_heights h_ages h_walls v_vent v_ash out.1 out.2 v_walls) H locs → ls.size = 4 → W p l e { frames := 2, cells := 3, slots := 108, locals := 60 } s m args below meth c H locs 3 108 Qf (F0 m 112 ls [])) : ∀ (n : Nat) (x1 : Int32) (v_heights : Nat → Int32) (v_ages : Nat → Int32), fl_Gr_init_1 v_vent n x1 v_heights v_ages = some out → ∀ (H : Heap) (locs : List Loc) (ls : Array Slot), kV D (va_A wc0 s.heap.size) s (wd_Gr_init D h h_heights h_ages h_walls v_vent v_ash v_heights v_ages v_walls) H locs → lv_has ls 4 [(0, .ref h), (1, .int x1)] → W p l e { frames := 2, cells := 3, slots := 108, locals := 60 } s m args below meth c H locs 3 108 Qf (F0 m 42 ls []) := by
  intro n
  induction n with
  | zero => intro x1 v_heights v_ages hf; exact knone hf
  | succ n ih => intro x1 v_heights v_ages hf H locs ls hV hl; exact tb_Gr_init_1 X hq ih hf hV hl
set_option maxHeartbeats 2000000 in
set_option maxRecDepth 20000 in
theorem t_Gr_init {l : Launch} {p : Program} {e : Env} {s : State} {m : MethodId} {args : Array Value} {below : List Frame} {meth : Method} {c : Code} {D : kD} {wc0 : va_W} {h : Nat} {h_heights : Nat} {h_ages : Nat} {h_walls : Nat} {v_vent : Int32} {v_ash : Int32} {v_heights : Nat → Int32} {v_ages : Nat → Int32} {v_walls : Nat → Int32} {out : (Nat → Int32) × (Nat → Int32)} (X : kX p m meth c s args D (va_A wc0 s.heap.size) b_Gr_init "MountainFarms$Ground" 4 none) {Qf : State → Prop} (hq : ∀ (H : Heap) (locs : List Loc) (ls : Array Slot), kV D (va_A wc0 s.heap.size) s (wd_Gr_init D h h_heights h_ages h_walls v_vent v_ash out.1 out.2 v_walls) H locs → ls.size = 4 → W p l e { frames := 2, cells := 3, slots := 108, locals := 60 } s m args below meth c H locs 3 108 Qf (F0 m 112 ls [])) (hf : f_Gr_init v_vent v_heights v_ages = some out) {H : Heap} {locs : List Loc} (hV : kV D (va_A wc0 s.heap.size) s (wd_Gr_init D h h_heights h_ages h_walls v_vent v_ash v_heights v_ages v_walls) H locs) {ls : Array Slot} (hl : lv_has ls 4 [(0, .ref h)]) : W p l e { frames := 2, cells := 3, slots := 108, locals := 60 } s m args below meth c H locs 3 108 Qf (F0 m 40 ls []) := by
  unfold f_Gr_init at hf
  obtain ⟨hx, hb, -⟩ := id X
  refine lv_iconst (v := 0) hx hb d_Gr_init_40 ic_0 ?_
  refine lv_istore_n (lv' := [(1, .int (0 : Int32)), (0, .ref h)]) hx hb d_Gr_init_41 rfl hl (by decide) rfl (fun ls hl => ?_)
  exact tl_Gr_init_1 X hq _ _ _ _ hf _ _ _ hV (lv_sub hl [1, 0] rfl)
set_option maxHeartbeats 2000000 in
set_option maxRecDepth 20000 in
theorem t_Mo_init_3 {l : Launch} {p : Program} {e : Env} {s : State} {m : MethodId} {args : Array Value} {below : List Frame} {meth : Method} {c : Code} {D : kD} {wc0 : va_W} {h : Nat} {h_chances : Nat} {h_shows : Nat} {h_diary : Nat} {v_seen : Int32} {v_state : Int32} {v_z : Int32} {v_chances : Nat → Int32} {v_shows : Nat → Int32} {v_diary : Nat → Int32} {s1 : Int32} {s2 : Int32} {x1 : Int32} {x2 : Int32} {rec1 : Int32 → (Nat → Int32) → (Nat → Int32) → Option ((Nat → Int32) × (Nat → Int32))} {rec2 : Int32 → Int32 → (Nat → Int32) → Option ((Nat → Int32) × (Nat → Int32))} {out : (Nat → Int32) × (Nat → Int32)} (X : kX p m meth c s args D (va_A wc0 s.heap.size) b_Mo_init "MountainFarms$Mountain" 3 none) {Qf : State → Prop} (hq : ∀ (H : Heap) (locs : List Loc) (ls : Array Slot), kV D (va_A wc0 s.heap.size) s (wd_Mo_init D h h_chances h_shows h_diary v_seen v_state v_z out.1 out.2 v_diary) H locs → ls.size = 3 → W p l e { frames := 2, cells := 3, slots := 38, locals := 60 } s m args below meth c H locs 3 38 Qf (F0 m 117 ls [])) (hrec1 : ∀ (x1 : Int32) (v_chances : Nat → Int32) (v_shows : Nat → Int32), rec1 x1 v_chances v_shows = some out → ∀ (H : Heap) (locs : List Loc) (ls : Array Slot), kV D (va_A wc0 s.heap.size) s (wd_Mo_init D h h_chances h_shows h_diary v_seen v_state v_z v_chances v_shows v_diary) H locs → lv_has ls 3 [(0, .ref h), (1, .int x1)] → W p l e { frames := 2, cells := 3, slots := 38, locals := 60 } s m args below meth c H locs 3 38 Qf (F0 m 45 ls [])) (hrec2 : ∀ (x1 : Int32) (x2 : Int32) (v_shows : Nat → Int32), rec2 x1 x2 v_shows = some out → ∀ (H : Heap) (locs : List Loc) (ls : Array Slot), kV D (va_A wc0 s.heap.size) s (wd_Mo_init D h h_chances h_shows h_diary v_seen v_state v_z v_chances v_shows v_diary) H locs → lv_has ls 3 [(0, .ref h), (1, .int x1), (2, .int x2)] → W p l e { frames := 2, cells := 3, slots := 38, locals := 60 } s m args below meth c H locs 3 38 Qf (F0 m 79 ls [])) (hf : f_Mo_init_3 rec1 rec2 s1 s2 x1 x2 v_chances v_shows = some out) {H : Heap} {locs : List Loc} (hV : kV D (va_A wc0 s.heap.size) s (wd_Mo_init D h h_chances h_shows h_diary v_seen v_state v_z v_chances v_shows v_diary) H locs) {ls : Array Slot} (hl : lv_has ls 3 [(0, .ref h), (1, .int x1), (2, .int x2)]) : W p l e { frames := 2, cells := 3, slots := 38, locals := 60 } s m args below meth c H locs 3 38 Qf (F0 m 104 ls [.int s2, .int s1, .ref h_shows]) := by
  unfold f_Mo_init_3 at hf
  obtain ⟨hx, hb, -⟩ := id X
  obtain ⟨h_12, hf⟩ := kidx_some hf
  refine k_iast (ws' := (wd_Mo_init D h h_chances h_shows h_diary v_seen v_state v_z v_chances (upd v_shows s1.toNatClampNeg s2) v_diary)) X hV 2 rfl h_12 rfl rfl d_Mo_init_104 (fun H locs hV => ?_)
  refine lv_iinc (v := (x2 + 1)) (lv' := [(2, .int (x2 + 1)), (0, .ref h), (1, .int x1)]) hx hb d_Mo_init_105 hl (k := 2) rfl rfl (by decide) rfl (fun ls hl => ?_)
  refine lv_goto (tgt := 79) hx hb d_Mo_init_108 (by decide) ?_
  exact hrec2 _ _ _ hf _ _ _ hV (lv_sub hl [1, 2, 0] rfl)
set_option maxHeartbeats 2000000 in
set_option maxRecDepth 20000 in
theorem tb_Mo_init_2 {l : Launch} {p : Program} {e : Env} {s : State} {m : MethodId} {args : Array Value} {below : List Frame} {meth : Method} {c : Code} {D : kD} {wc0 : va_W} {h : Nat} {h_chances : Nat} {h_shows : Nat} {h_diary : Nat} {v_seen : Int32} {v_state : Int32} {v_z : Int32} {v_chances : Nat → Int32} {v_shows : Nat → Int32} {v_diary : Nat → Int32} {x1 : Int32} {x2 : Int32} {rec1 : Int32 → (Nat → Int32) → (Nat → Int32) → Option ((Nat → Int32) × (Nat → Int32))} {rec2 : Int32 → Int32 → (Nat → Int32) → Option ((Nat → Int32) × (Nat → Int32))} {out : (Nat → Int32) × (Nat → Int32)} (X : kX p m meth c s args D (va_A wc0 s.heap.size) b_Mo_init "MountainFarms$Mountain" 3 none) {Qf : State → Prop} (hq : ∀ (H : Heap) (locs : List Loc) (ls : Array Slot), kV D (va_A wc0 s.heap.size) s (wd_Mo_init D h h_chances h_shows h_diary v_seen v_state v_z out.1 out.2 v_diary) H locs → ls.size = 3 → W p l e { frames := 2, cells := 3, slots := 38, locals := 60 } s m args below meth c H locs 3 38 Qf (F0 m 117 ls [])) (hrec1 : ∀ (x1 : Int32) (v_chances : Nat → Int32) (v_shows : Nat → Int32), rec1 x1 v_chances v_shows = some out → ∀ (H : Heap) (locs : List Loc) (ls : Array Slot), kV D (va_A wc0 s.heap.size) s (wd_Mo_init D h h_chances h_shows h_diary v_seen v_state v_z v_chances v_shows v_diary) H locs → lv_has ls 3 [(0, .ref h), (1, .int x1)] → W p l e { frames := 2, cells := 3, slots := 38, locals := 60 } s m args below meth c H locs 3 38 Qf (F0 m 45 ls [])) (hrec2 : ∀ (x1 : Int32) (x2 : Int32) (v_shows : Nat → Int32), rec2 x1 x2 v_shows = some out → ∀ (H : Heap) (locs : List Loc) (ls : Array Slot), kV D (va_A wc0 s.heap.size) s (wd_Mo_init D h h_chances h_shows h_diary v_seen v_state v_z v_chances v_shows v_diary) H locs → lv_has ls 3 [(0, .ref h), (1, .int x1), (2, .int x2)] → W p l e { frames := 2, cells := 3, slots := 38, locals := 60 } s m args below meth c H locs 3 38 Qf (F0 m 79 ls [])) (hf : fb_Mo_init_2 rec1 rec2 v_chances x1 x2 v_shows = some out) {H : Heap} {locs : List Loc} (hV : kV D (va_A wc0 s.heap.size) s (wd_Mo_init D h h_chances h_shows h_diary v_seen v_state v_z v_chances v_shows v_diary) H locs) {ls : Array Slot} (hl : lv_has ls 3 [(0, .ref h), (1, .int x1), (2, .int x2)]) : W p l e { frames := 2, cells := 3, slots := 38, locals := 60 } s m args below meth c H locs 3 38 Qf (F0 m 79 ls []) := by
  unfold fb_Mo_init_2 at hf
  obtain ⟨hx, hb, -⟩ := id X
  refine lv_iload_n hx hb d_Mo_init_79 rfl (lv_at hl 2 rfl) ?_
  refine lv_iconst (v := 4) hx hb d_Mo_init_80 ic_4 ?_
  refine lv_icmp_ge (tgt := 111) hx hb d_Mo_init_81 (by decide) (fun c_10 => ?_) (fun c_10 => ?_)
  · replace hf := kifp c_10 hf
    refine lv_iinc (v := (x1 + 1)) (lv' := [(1, .int (x1 + 1)), (0, .ref h), (2, .int x2)]) hx hb d_Mo_init_111 hl (k := 1) rfl rfl (by decide) rfl (fun ls hl => ?_)
    refine lv_goto (tgt := 45) hx hb d_Mo_init_114 (by decide) ?_
    exact hrec1 _ _ _ hf _ _ _ hV (lv_sub hl [1, 0] rfl)
  replace hf := kifn c_10 hf
  refine lv_aload_n hx hb d_Mo_init_84 rfl (lv_at hl 0 rfl) ?_
  refine k_get X hV 0 2 1 rfl rfl rfl gw_111 rfl rfl d_Mo_init_85 ?_
  refine lv_iconst (v := 4) hx hb d_Mo_init_88 ic_4 ?_
  refine lv_iload_n hx hb d_Mo_init_89 rfl (lv_at hl 1 rfl) ?_
  refine lv_imul hx hb d_Mo_init_90 ?_
  refine lv_iload_n hx hb d_Mo_init_91 rfl (lv_at hl 2 rfl) ?_
  refine lv_iadd hx hb d_Mo_init_92 ?_
  refine lv_iload_n hx hb d_Mo_init_93 rfl (lv_at hl 2 rfl) ?_
  refine lv_iload_n hx hb d_Mo_init_94 rfl (lv_at hl 1 rfl) ?_
  refine lv_icmp_ne (tgt := 103) hx hb d_Mo_init_95 (by decide) (fun c_11 => ?_) (fun c_11 => ?_)
  · replace hf := kifn c_11 hf
    refine lv_iconst (v := 1) hx hb d_Mo_init_103 ic_1 ?_
    exact t_Mo_init_3 X hq hrec1 hrec2 hf hV (lv_sub hl [0, 1, 2] rfl)
  replace hf := kifp c_11 hf
  refine lv_bipush (v := 7) hx hb d_Mo_init_98 bp_7 ?_
  refine lv_goto (tgt := 104) hx hb d_Mo_init_100 (by decide) ?_
  exact t_Mo_init_3 X hq hrec1 hrec2 hf hV (lv_sub hl [0, 1, 2] rfl)
set_option maxHeartbeats 2000000 in
set_option maxRecDepth 20000 in
theorem tl_Mo_init_2 {l : Launch} {p : Program} {e : Env} {s : State} {m : MethodId} {args : Array Value} {below : List Frame} {meth : Method} {c : Code} {D : kD} {wc0 : va_W} {h : Nat} {h_chances : Nat} {h_shows : Nat} {h_diary : Nat} {v_seen : Int32} {v_state : Int32} {v_z : Int32} {v_chances : Nat → Int32} {v_diary : Nat → Int32} {rec1 : Int32 → (Nat → Int32) → (Nat → Int32) → Option ((Nat → Int32) × (Nat → Int32))} {out : (Nat → Int32) × (Nat → Int32)} (X : kX p m meth c s args D (va_A wc0 s.heap.size) b_Mo_init "MountainFarms$Mountain" 3 none) {Qf : State → Prop} (hq : ∀ (H : Heap) (locs : List Loc) (ls : Array Slot), kV D (va_A wc0 s.heap.size) s (wd_Mo_init D h h_chances h_shows h_diary v_seen v_state v_z out.1 out.2 v_diary) H locs → ls.size = 3 → W p l e { frames := 2, cells := 3, slots := 38, locals := 60 } s m args below meth c H locs 3 38 Qf (F0 m 117 ls [])) (hrec1 : ∀ (x1 : Int32) (v_chances : Nat → Int32) (v_shows : Nat → Int32), rec1 x1 v_chances v_shows = some out → ∀ (H : Heap) (locs : List Loc) (ls : Array Slot), kV D (va_A wc0 s.heap.size) s (wd_Mo_init D h h_chances h_shows h_diary v_seen v_state v_z v_chances v_shows v_diary) H locs → lv_has ls 3 [(0, .ref h), (1, .int x1)] → W p l e { frames := 2, cells := 3, slots := 38, locals := 60 } s m args below meth c H locs 3 38 Qf (F0 m 45 ls [])) : ∀ (n : Nat) (x1 : Int32) (x2 : Int32) (v_shows : Nat → Int32), fl_Mo_init_2 rec1 v_chances n x1 x2 v_shows = some out → ∀ (H : Heap) (locs : List Loc) (ls : Array Slot), kV D (va_A wc0 s.heap.size) s (wd_Mo_init D h h_chances h_shows h_diary v_seen v_state v_z v_chances v_shows v_diary) H locs → lv_has ls 3 [(0, .ref h), (1, .int x1), (2, .int x2)] → W p l e { frames := 2, cells := 3, slots := 38, locals := 60 } s m args below meth c H locs 3 38 Qf (F0 m 79 ls []) := by
  intro n
  induction n with
  | zero => intro x1 x2 v_shows hf; exact knone hf
  | succ n ih => intro x1 x2 v_shows hf H locs ls hV hl; exact tb_Mo_init_2 X hq hrec1 ih hf hV hl
set_option maxHeartbeats 2000000 in
set_option maxRecDepth 20000 in
theorem tb_Mo_init_1 {l : Launch} {p : Program} {e : Env} {s : State} {m : MethodId} {args : Array Value} {below : List Frame} {meth : Method} {c : Code} {D : kD} {wc0 : va_W} {h : Nat} {h_chances : Nat} {h_shows : Nat} {h_diary : Nat} {v_seen : Int32} {v_state : Int32} {v_z : Int32} {v_chances : Nat → Int32} {v_shows : Nat → Int32} {v_diary : Nat → Int32} {x1 : Int32} {rec1 : Int32 → (Nat → Int32) → (Nat → Int32) → Option ((Nat → Int32) × (Nat → Int32))} {out : (Nat → Int32) × (Nat → Int32)} (X : kX p m meth c s args D (va_A wc0 s.heap.size) b_Mo_init "MountainFarms$Mountain" 3 none) {Qf : State → Prop} (hq : ∀ (H : Heap) (locs : List Loc) (ls : Array Slot), kV D (va_A wc0 s.heap.size) s (wd_Mo_init D h h_chances h_shows h_diary v_seen v_state v_z out.1 out.2 v_diary) H locs → ls.size = 3 → W p l e { frames := 2, cells := 3, slots := 38, locals := 60 } s m args below meth c H locs 3 38 Qf (F0 m 117 ls [])) (hrec1 : ∀ (x1 : Int32) (v_chances : Nat → Int32) (v_shows : Nat → Int32), rec1 x1 v_chances v_shows = some out → ∀ (H : Heap) (locs : List Loc) (ls : Array Slot), kV D (va_A wc0 s.heap.size) s (wd_Mo_init D h h_chances h_shows h_diary v_seen v_state v_z v_chances v_shows v_diary) H locs → lv_has ls 3 [(0, .ref h), (1, .int x1)] → W p l e { frames := 2, cells := 3, slots := 38, locals := 60 } s m args below meth c H locs 3 38 Qf (F0 m 45 ls [])) (hf : fb_Mo_init_1 rec1 x1 v_chances v_shows = some out) {H : Heap} {locs : List Loc} (hV : kV D (va_A wc0 s.heap.size) s (wd_Mo_init D h h_chances h_shows h_diary v_seen v_state v_z v_chances v_shows v_diary) H locs) {ls : Array Slot} (hl : lv_has ls 3 [(0, .ref h), (1, .int x1)]) : W p l e { frames := 2, cells := 3, slots := 38, locals := 60 } s m args below meth c H locs 3 38 Qf (F0 m 45 ls []) := by
  unfold fb_Mo_init_1 at hf
  obtain ⟨hx, hb, -⟩ := id X
  refine lv_iload_n hx hb d_Mo_init_45 rfl (lv_at hl 1 rfl) ?_
  refine lv_iconst (v := 4) hx hb d_Mo_init_46 ic_4 ?_
  refine lv_icmp_ge (tgt := 117) hx hb d_Mo_init_47 (by decide) (fun c_7 => ?_) (fun c_7 => ?_)
  · replace hf := kifp c_7 hf
    have e_ := Option.some.inj hf
    subst e_
    exact hq _ _ _ hV hl.1
  replace hf := kifn c_7 hf
  refine lv_aload_n hx hb d_Mo_init_50 rfl (lv_at hl 0 rfl) ?_
  refine k_get X hV 0 2 0 rfl rfl rfl gw_110 rfl rfl d_Mo_init_51 ?_
  refine lv_iconst (v := 4) hx hb d_Mo_init_54 ic_4 ?_
  refine lv_iload_n hx hb d_Mo_init_55 rfl (lv_at hl 1 rfl) ?_
  refine lv_imul hx hb d_Mo_init_56 ?_
  refine lv_iload_n hx hb d_Mo_init_57 rfl (lv_at hl 1 rfl) ?_
  refine lv_iadd hx hb d_Mo_init_58 ?_
  refine lv_bipush (v := 7) hx hb d_Mo_init_59 bp_7 ?_
  obtain ⟨h_8, hf⟩ := kidx_some hf
  refine k_iast (ws' := (wd_Mo_init D h h_chances h_shows h_diary v_seen v_state v_z (upd v_chances (((4 : Int32) * x1) + x1).toNatClampNeg (7 : Int32)) v_shows v_diary)) X hV 1 rfl h_8 rfl rfl d_Mo_init_61 (fun H locs hV => ?_)
  refine lv_aload_n hx hb d_Mo_init_62 rfl (lv_at hl 0 rfl) ?_
  refine k_get X hV 0 2 0 rfl rfl rfl gw_110 rfl rfl d_Mo_init_63 ?_
  refine lv_iconst (v := 4) hx hb d_Mo_init_66 ic_4 ?_
  refine lv_iload_n hx hb d_Mo_init_67 rfl (lv_at hl 1 rfl) ?_
  refine lv_imul hx hb d_Mo_init_68 ?_
  refine lv_iload_n hx hb d_Mo_init_69 rfl (lv_at hl 1 rfl) ?_
  refine lv_iconst (v := 1) hx hb d_Mo_init_70 ic_1 ?_
  refine lv_iadd hx hb d_Mo_init_71 ?_
  refine lv_iconst (v := 4) hx hb d_Mo_init_72 ic_4 ?_
  refine lv_irem hx hb d_Mo_init_73 (by decide) ?_
  refine lv_iadd hx hb d_Mo_init_74 ?_
  refine lv_iconst (v := 3) hx hb d_Mo_init_75 ic_3 ?_
  obtain ⟨h_9, hf⟩ := kidx_some hf
  refine k_iast (ws' := (wd_Mo_init D h h_chances h_shows h_diary v_seen v_state v_z (upd (upd v_chances (((4 : Int32) * x1) + x1).toNatClampNeg (7 : Int32)) (((4 : Int32) * x1) + ((x1 + (1 : Int32)) - (x1 + (1 : Int32)) / (4 : Int32) * (4 : Int32))).toNatClampNeg (3 : Int32)) v_shows v_diary)) X hV 1 rfl h_9 rfl rfl d_Mo_init_76 (fun H locs hV => ?_)
  refine lv_iconst (v := 0) hx hb d_Mo_init_77 ic_0 ?_
  refine lv_istore_n (lv' := [(2, .int (0 : Int32)), (0, .ref h), (1, .int x1)]) hx hb d_Mo_init_78 rfl hl (by decide) rfl (fun ls hl => ?_)
  exact tl_Mo_init_2 X hq hrec1 _ _ _ _ hf _ _ _ hV (lv_sub hl [1, 2, 0] rfl)
set_option maxHeartbeats 2000000 in
set_option maxRecDepth 20000 in
theorem tl_Mo_init_1 {l : Launch} {p : Program} {e : Env} {s : State} {m : MethodId} {args : Array Value} {below : List Frame} {meth : Method} {c : Code} {D : kD} {wc0 : va_W} {h : Nat} {h_chances : Nat} {h_shows : Nat} {h_diary : Nat} {v_seen : Int32} {v_state : Int32} {v_z : Int32} {v_diary : Nat → Int32} {out : (Nat → Int32) × (Nat → Int32)} (X : kX p m meth c s args D (va_A wc0 s.heap.size) b_Mo_init "MountainFarms$Mountain" 3 none) {Qf : State → Prop} (hq : ∀ (H : Heap) (locs : List Loc) (ls : Array Slot), kV D (va_A wc0 s.heap.size) s (wd_Mo_init D h h_chances h_shows h_diary v_seen v_state v_z out.1 out.2 v_diary) H locs → ls.size = 3 → W p l e { frames := 2, cells := 3, slots := 38, locals := 60 } s m args below meth c H locs 3 38 Qf (F0 m 117 ls [])) : ∀ (n : Nat) (x1 : Int32) (v_chances : Nat → Int32) (v_shows : Nat → Int32), fl_Mo_init_1 n x1 v_chances v_shows = some out → ∀ (H : Heap) (locs : List Loc) (ls : Array Slot), kV D (va_A wc0 s.heap.size) s (wd_Mo_init D h h_chances h_shows h_diary v_seen v_state v_z v_chances v_shows v_diary) H locs → lv_has ls 3 [(0, .ref h), (1, .int x1)] → W p l e { frames := 2, cells := 3, slots := 38, locals := 60 } s m args below meth c H locs 3 38 Qf (F0 m 45 ls []) := by
  intro n
  induction n with
  | zero => intro x1 v_chances v_shows hf; exact knone hf
  | succ n ih => intro x1 v_chances v_shows hf H locs ls hV hl; exact tb_Mo_init_1 X hq ih hf hV hl
set_option maxHeartbeats 2000000 in
set_option maxRecDepth 20000 in
theorem t_Mo_init {l : Launch} {p : Program} {e : Env} {s : State} {m : MethodId} {args : Array Value} {below : List Frame} {meth : Method} {c : Code} {D : kD} {wc0 : va_W} {h : Nat} {h_chances : Nat} {h_shows : Nat} {h_diary : Nat} {v_seen : Int32} {v_state : Int32} {v_z : Int32} {v_chances : Nat → Int32} {v_shows : Nat → Int32} {v_diary : Nat → Int32} {out : (Nat → Int32) × (Nat → Int32)} (X : kX p m meth c s args D (va_A wc0 s.heap.size) b_Mo_init "MountainFarms$Mountain" 3 none) {Qf : State → Prop} (hq : ∀ (H : Heap) (locs : List Loc) (ls : Array Slot), kV D (va_A wc0 s.heap.size) s (wd_Mo_init D h h_chances h_shows h_diary v_seen v_state v_z out.1 out.2 v_diary) H locs → ls.size = 3 → W p l e { frames := 2, cells := 3, slots := 38, locals := 60 } s m args below meth c H locs 3 38 Qf (F0 m 117 ls [])) (hf : f_Mo_init v_chances v_shows = some out) {H : Heap} {locs : List Loc} (hV : kV D (va_A wc0 s.heap.size) s (wd_Mo_init D h h_chances h_shows h_diary v_seen v_state v_z v_chances v_shows v_diary) H locs) {ls : Array Slot} (hl : lv_has ls 3 [(0, .ref h)]) : W p l e { frames := 2, cells := 3, slots := 38, locals := 60 } s m args below meth c H locs 3 38 Qf (F0 m 43 ls []) := by
  unfold f_Mo_init at hf
  obtain ⟨hx, hb, -⟩ := id X
  refine lv_iconst (v := 0) hx hb d_Mo_init_43 ic_0 ?_
  refine lv_istore_n (lv' := [(1, .int (0 : Int32)), (0, .ref h)]) hx hb d_Mo_init_44 rfl hl (by decide) rfl (fun ls hl => ?_)
  exact tl_Mo_init_1 X hq _ _ _ _ hf _ _ _ hV (lv_sub hl [1, 0] rfl)
set_option maxHeartbeats 2000000 in
set_option maxRecDepth 20000 in
theorem t_M_init_4 {l : Launch} {p : Program} {e : Env} {s : State} {m : MethodId} {args : Array Value} {below : List Frame} {meth : Method} {c : Code} {D : kD} {wc0 : va_W} {h : Nat} {h_now : Nat} {h_kept : Nat} {h_aside : Nat} {h_found : Nat} {h_down : Nat} {h_along : Nat} {h_parts : Nat} {h_gone : Nat} {h_tape : Nat} {h_kinds : Nat} {h_items : Nat} {h_widths : Nat} {h_sizes : Nat} {h_numbers : Nat} {h_moved : Nat} {v_isKept : Int32} {v_taped : Int32} {v_begins : Int32} {v_ends : Int32} {v_sort : Int32} {v_value : Int32} {v_isWrong : Int32} {v_itemMany : Int32} {v_farmMany : Int32} {v_farmCells : Int64} {v_now : Nat → Int32} {v_kept : Nat → Int32} {v_aside : Nat → Int32} {v_found : Nat → Int32} {v_down : Nat → Int32} {v_along : Nat → Int32} {v_parts : Nat → Int64} {v_gone : Nat → Int64} {v_tape : Nat → Int32} {v_items : Nat → Int32} {v_widths : Nat → Int32} {v_sizes : Nat → Int32} {v_numbers : Nat → Int64} {v_moved : Nat → Int64} {s1 : Int32} {s2 : Int32} {x1 : Int32} {x2 : Int32} {rec2 : Int32 → (Nat → Int32) → Option ((Nat → Int32))} {rec3 : Int32 → Int32 → (Nat → Int32) → Option ((Nat → Int32))} {out : (Nat → Int32)} (X : kX p m meth c s args D (va_A wc0 s.heap.size) b_M_init "MountainFarmsModel" 3 none) {Qf : State → Prop} (hq : ∀ (H : Heap) (locs : List Loc) (ls : Array Slot), kV D (va_A wc0 s.heap.size) s (wd_M_init D h h_now h_kept h_aside h_found h_down h_along h_parts h_gone h_tape h_kinds h_items h_widths h_sizes h_numbers h_moved v_isKept v_taped v_begins v_ends v_sort v_value v_isWrong v_itemMany v_farmMany v_farmCells out v_kept v_aside v_found v_down v_along v_parts v_gone v_tape v_items v_widths v_sizes v_numbers v_moved) H locs → ls.size = 3 → W p l e { frames := 2, cells := 15, slots := 1732, locals := 60 } s m args below meth c H locs 15 1732 Qf (F0 m 362 ls [])) (hrec2 : ∀ (x1 : Int32) (v_now : Nat → Int32), rec2 x1 v_now = some out → ∀ (H : Heap) (locs : List Loc) (ls : Array Slot), kV D (va_A wc0 s.heap.size) s (wd_M_init D h h_now h_kept h_aside h_found h_down h_along h_parts h_gone h_tape h_kinds h_items h_widths h_sizes h_numbers h_moved v_isKept v_taped v_begins v_ends v_sort v_value v_isWrong v_itemMany v_farmMany v_farmCells v_now v_kept v_aside v_found v_down v_along v_parts v_gone v_tape v_items v_widths v_sizes v_numbers v_moved) H locs → lv_has ls 3 [(0, .ref h), (1, .int x1)] → W p l e { frames := 2, cells := 15, slots := 1732, locals := 60 } s m args below meth c H locs 15 1732 Qf (F0 m 281 ls [])) (hrec3 : ∀ (x1 : Int32) (x2 : Int32) (v_now : Nat → Int32), rec3 x1 x2 v_now = some out → ∀ (H : Heap) (locs : List Loc) (ls : Array Slot), kV D (va_A wc0 s.heap.size) s (wd_M_init D h h_now h_kept h_aside h_found h_down h_along h_parts h_gone h_tape h_kinds h_items h_widths h_sizes h_numbers h_moved v_isKept v_taped v_begins v_ends v_sort v_value v_isWrong v_itemMany v_farmMany v_farmCells v_now v_kept v_aside v_found v_down v_along v_parts v_gone v_tape v_items v_widths v_sizes v_numbers v_moved) H locs → lv_has ls 3 [(0, .ref h), (1, .int x1), (2, .int x2)] → W p l e { frames := 2, cells := 15, slots := 1732, locals := 60 } s m args below meth c H locs 15 1732 Qf (F0 m 321 ls [])) (hf : f_M_init_4 rec2 rec3 s1 s2 x1 x2 v_now = some out) {H : Heap} {locs : List Loc} (hV : kV D (va_A wc0 s.heap.size) s (wd_M_init D h h_now h_kept h_aside h_found h_down h_along h_parts h_gone h_tape h_kinds h_items h_widths h_sizes h_numbers h_moved v_isKept v_taped v_begins v_ends v_sort v_value v_isWrong v_itemMany v_farmMany v_farmCells v_now v_kept v_aside v_found v_down v_along v_parts v_gone v_tape v_items v_widths v_sizes v_numbers v_moved) H locs) {ls : Array Slot} (hl : lv_has ls 3 [(0, .ref h), (1, .int x1), (2, .int x2)]) : W p l e { frames := 2, cells := 15, slots := 1732, locals := 60 } s m args below meth c H locs 15 1732 Qf (F0 m 349 ls [.int s2, .int s1, .ref h_now]) := by
  unfold f_M_init_4 at hf
  obtain ⟨hx, hb, -⟩ := id X
  obtain ⟨h_30, hf⟩ := kidx_some hf
  refine k_iast (ws' := (wd_M_init D h h_now h_kept h_aside h_found h_down h_along h_parts h_gone h_tape h_kinds h_items h_widths h_sizes h_numbers h_moved v_isKept v_taped v_begins v_ends v_sort v_value v_isWrong v_itemMany v_farmMany v_farmCells (upd v_now s1.toNatClampNeg s2) v_kept v_aside v_found v_down v_along v_parts v_gone v_tape v_items v_widths v_sizes v_numbers v_moved)) X hV 1 rfl h_30 rfl rfl d_M_init_349 (fun H locs hV => ?_)
  refine lv_iinc (v := (x2 + 1)) (lv' := [(2, .int (x2 + 1)), (0, .ref h), (1, .int x1)]) hx hb d_M_init_350 hl (k := 2) rfl rfl (by decide) rfl (fun ls hl => ?_)
  refine lv_goto (tgt := 321) hx hb d_M_init_353 (by decide) ?_
  exact hrec3 _ _ _ hf _ _ _ hV (lv_sub hl [1, 2, 0] rfl)
set_option maxHeartbeats 2000000 in
set_option maxRecDepth 20000 in
theorem tb_M_init_3 {l : Launch} {p : Program} {e : Env} {s : State} {m : MethodId} {args : Array Value} {below : List Frame} {meth : Method} {c : Code} {D : kD} {wc0 : va_W} {h : Nat} {h_now : Nat} {h_kept : Nat} {h_aside : Nat} {h_found : Nat} {h_down : Nat} {h_along : Nat} {h_parts : Nat} {h_gone : Nat} {h_tape : Nat} {h_kinds : Nat} {h_items : Nat} {h_widths : Nat} {h_sizes : Nat} {h_numbers : Nat} {h_moved : Nat} {v_isKept : Int32} {v_taped : Int32} {v_begins : Int32} {v_ends : Int32} {v_sort : Int32} {v_value : Int32} {v_isWrong : Int32} {v_itemMany : Int32} {v_farmMany : Int32} {v_farmCells : Int64} {v_now : Nat → Int32} {v_kept : Nat → Int32} {v_aside : Nat → Int32} {v_found : Nat → Int32} {v_down : Nat → Int32} {v_along : Nat → Int32} {v_parts : Nat → Int64} {v_gone : Nat → Int64} {v_tape : Nat → Int32} {v_items : Nat → Int32} {v_widths : Nat → Int32} {v_sizes : Nat → Int32} {v_numbers : Nat → Int64} {v_moved : Nat → Int64} {x1 : Int32} {x2 : Int32} {rec2 : Int32 → (Nat → Int32) → Option ((Nat → Int32))} {rec3 : Int32 → Int32 → (Nat → Int32) → Option ((Nat → Int32))} {out : (Nat → Int32)} (X : kX p m meth c s args D (va_A wc0 s.heap.size) b_M_init "MountainFarmsModel" 3 none) {Qf : State → Prop} (hq : ∀ (H : Heap) (locs : List Loc) (ls : Array Slot), kV D (va_A wc0 s.heap.size) s (wd_M_init D h h_now h_kept h_aside h_found h_down h_along h_parts h_gone h_tape h_kinds h_items h_widths h_sizes h_numbers h_moved v_isKept v_taped v_begins v_ends v_sort v_value v_isWrong v_itemMany v_farmMany v_farmCells out v_kept v_aside v_found v_down v_along v_parts v_gone v_tape v_items v_widths v_sizes v_numbers v_moved) H locs → ls.size = 3 → W p l e { frames := 2, cells := 15, slots := 1732, locals := 60 } s m args below meth c H locs 15 1732 Qf (F0 m 362 ls [])) (hrec2 : ∀ (x1 : Int32) (v_now : Nat → Int32), rec2 x1 v_now = some out → ∀ (H : Heap) (locs : List Loc) (ls : Array Slot), kV D (va_A wc0 s.heap.size) s (wd_M_init D h h_now h_kept h_aside h_found h_down h_along h_parts h_gone h_tape h_kinds h_items h_widths h_sizes h_numbers h_moved v_isKept v_taped v_begins v_ends v_sort v_value v_isWrong v_itemMany v_farmMany v_farmCells v_now v_kept v_aside v_found v_down v_along v_parts v_gone v_tape v_items v_widths v_sizes v_numbers v_moved) H locs → lv_has ls 3 [(0, .ref h), (1, .int x1)] → W p l e { frames := 2, cells := 15, slots := 1732, locals := 60 } s m args below meth c H locs 15 1732 Qf (F0 m 281 ls [])) (hrec3 : ∀ (x1 : Int32) (x2 : Int32) (v_now : Nat → Int32), rec3 x1 x2 v_now = some out → ∀ (H : Heap) (locs : List Loc) (ls : Array Slot), kV D (va_A wc0 s.heap.size) s (wd_M_init D h h_now h_kept h_aside h_found h_down h_along h_parts h_gone h_tape h_kinds h_items h_widths h_sizes h_numbers h_moved v_isKept v_taped v_begins v_ends v_sort v_value v_isWrong v_itemMany v_farmMany v_farmCells v_now v_kept v_aside v_found v_down v_along v_parts v_gone v_tape v_items v_widths v_sizes v_numbers v_moved) H locs → lv_has ls 3 [(0, .ref h), (1, .int x1), (2, .int x2)] → W p l e { frames := 2, cells := 15, slots := 1732, locals := 60 } s m args below meth c H locs 15 1732 Qf (F0 m 321 ls [])) (hf : fb_M_init_3 rec2 rec3 x1 x2 v_now = some out) {H : Heap} {locs : List Loc} (hV : kV D (va_A wc0 s.heap.size) s (wd_M_init D h h_now h_kept h_aside h_found h_down h_along h_parts h_gone h_tape h_kinds h_items h_widths h_sizes h_numbers h_moved v_isKept v_taped v_begins v_ends v_sort v_value v_isWrong v_itemMany v_farmMany v_farmCells v_now v_kept v_aside v_found v_down v_along v_parts v_gone v_tape v_items v_widths v_sizes v_numbers v_moved) H locs) {ls : Array Slot} (hl : lv_has ls 3 [(0, .ref h), (1, .int x1), (2, .int x2)]) : W p l e { frames := 2, cells := 15, slots := 1732, locals := 60 } s m args below meth c H locs 15 1732 Qf (F0 m 321 ls []) := by
  unfold fb_M_init_3 at hf
  obtain ⟨hx, hb, -⟩ := id X
  refine lv_iload_n hx hb d_M_init_321 rfl (lv_at hl 2 rfl) ?_
  refine lv_iconst (v := 4) hx hb d_M_init_322 ic_4 ?_
  refine lv_icmp_ge (tgt := 356) hx hb d_M_init_323 (by decide) (fun c_28 => ?_) (fun c_28 => ?_)
  · replace hf := kifp c_28 hf
    refine lv_iinc (v := (x1 + 1)) (lv' := [(1, .int (x1 + 1)), (0, .ref h), (2, .int x2)]) hx hb d_M_init_356 hl (k := 1) rfl rfl (by decide) rfl (fun ls hl => ?_)
    refine lv_goto (tgt := 281) hx hb d_M_init_359 (by decide) ?_
    exact hrec2 _ _ hf _ _ _ hV (lv_sub hl [1, 0] rfl)
  replace hf := kifn c_28 hf
  refine lv_aload_n hx hb d_M_init_326 rfl (lv_at hl 0 rfl) ?_
  refine k_get X hV 0 9 0 rfl rfl rfl gw_887 rfl rfl d_M_init_327 ?_
  refine lv_bipush (v := 34) hx hb d_M_init_330 bp_34 ?_
  refine lv_iconst (v := 4) hx hb d_M_init_332 ic_4 ?_
  refine lv_iload_n hx hb d_M_init_333 rfl (lv_at hl 1 rfl) ?_
  refine lv_imul hx hb d_M_init_334 ?_
  refine lv_iadd hx hb d_M_init_335 ?_
  refine lv_iload_n hx hb d_M_init_336 rfl (lv_at hl 2 rfl) ?_
  refine lv_iadd hx hb d_M_init_337 ?_
  refine lv_iload_n hx hb d_M_init_338 rfl (lv_at hl 1 rfl) ?_
  refine lv_iload_n hx hb d_M_init_339 rfl (lv_at hl 2 rfl) ?_
  refine lv_icmp_ne (tgt := 348) hx hb d_M_init_340 (by decide) (fun c_29 => ?_) (fun c_29 => ?_)
  · replace hf := kifn c_29 hf
    refine lv_iconst (v := 1) hx hb d_M_init_348 ic_1 ?_
    exact t_M_init_4 X hq hrec2 hrec3 hf hV (lv_sub hl [0, 1, 2] rfl)
  replace hf := kifp c_29 hf
  refine lv_bipush (v := 7) hx hb d_M_init_343 bp_7 ?_
  refine lv_goto (tgt := 349) hx hb d_M_init_345 (by decide) ?_
  exact t_M_init_4 X hq hrec2 hrec3 hf hV (lv_sub hl [0, 1, 2] rfl)
set_option maxHeartbeats 2000000 in
set_option maxRecDepth 20000 in
theorem tl_M_init_3 {l : Launch} {p : Program} {e : Env} {s : State} {m : MethodId} {args : Array Value} {below : List Frame} {meth : Method} {c : Code} {D : kD} {wc0 : va_W} {h : Nat} {h_now : Nat} {h_kept : Nat} {h_aside : Nat} {h_found : Nat} {h_down : Nat} {h_along : Nat} {h_parts : Nat} {h_gone : Nat} {h_tape : Nat} {h_kinds : Nat} {h_items : Nat} {h_widths : Nat} {h_sizes : Nat} {h_numbers : Nat} {h_moved : Nat} {v_isKept : Int32} {v_taped : Int32} {v_begins : Int32} {v_ends : Int32} {v_sort : Int32} {v_value : Int32} {v_isWrong : Int32} {v_itemMany : Int32} {v_farmMany : Int32} {v_farmCells : Int64} {v_kept : Nat → Int32} {v_aside : Nat → Int32} {v_found : Nat → Int32} {v_down : Nat → Int32} {v_along : Nat → Int32} {v_parts : Nat → Int64} {v_gone : Nat → Int64} {v_tape : Nat → Int32} {v_items : Nat → Int32} {v_widths : Nat → Int32} {v_sizes : Nat → Int32} {v_numbers : Nat → Int64} {v_moved : Nat → Int64} {rec2 : Int32 → (Nat → Int32) → Option ((Nat → Int32))} {out : (Nat → Int32)} (X : kX p m meth c s args D (va_A wc0 s.heap.size) b_M_init "MountainFarmsModel" 3 none) {Qf : State → Prop} (hq : ∀ (H : Heap) (locs : List Loc) (ls : Array Slot), kV D (va_A wc0 s.heap.size) s (wd_M_init D h h_now h_kept h_aside h_found h_down h_along h_parts h_gone h_tape h_kinds h_items h_widths h_sizes h_numbers h_moved v_isKept v_taped v_begins v_ends v_sort v_value v_isWrong v_itemMany v_farmMany v_farmCells out v_kept v_aside v_found v_down v_along v_parts v_gone v_tape v_items v_widths v_sizes v_numbers v_moved) H locs → ls.size = 3 → W p l e { frames := 2, cells := 15, slots := 1732, locals := 60 } s m args below meth c H locs 15 1732 Qf (F0 m 362 ls [])) (hrec2 : ∀ (x1 : Int32) (v_now : Nat → Int32), rec2 x1 v_now = some out → ∀ (H : Heap) (locs : List Loc) (ls : Array Slot), kV D (va_A wc0 s.heap.size) s (wd_M_init D h h_now h_kept h_aside h_found h_down h_along h_parts h_gone h_tape h_kinds h_items h_widths h_sizes h_numbers h_moved v_isKept v_taped v_begins v_ends v_sort v_value v_isWrong v_itemMany v_farmMany v_farmCells v_now v_kept v_aside v_found v_down v_along v_parts v_gone v_tape v_items v_widths v_sizes v_numbers v_moved) H locs → lv_has ls 3 [(0, .ref h), (1, .int x1)] → W p l e { frames := 2, cells := 15, slots := 1732, locals := 60 } s m args below meth c H locs 15 1732 Qf (F0 m 281 ls [])) : ∀ (n : Nat) (x1 : Int32) (x2 : Int32) (v_now : Nat → Int32), fl_M_init_3 rec2 n x1 x2 v_now = some out → ∀ (H : Heap) (locs : List Loc) (ls : Array Slot), kV D (va_A wc0 s.heap.size) s (wd_M_init D h h_now h_kept h_aside h_found h_down h_along h_parts h_gone h_tape h_kinds h_items h_widths h_sizes h_numbers h_moved v_isKept v_taped v_begins v_ends v_sort v_value v_isWrong v_itemMany v_farmMany v_farmCells v_now v_kept v_aside v_found v_down v_along v_parts v_gone v_tape v_items v_widths v_sizes v_numbers v_moved) H locs → lv_has ls 3 [(0, .ref h), (1, .int x1), (2, .int x2)] → W p l e { frames := 2, cells := 15, slots := 1732, locals := 60 } s m args below meth c H locs 15 1732 Qf (F0 m 321 ls []) := by
  intro n
  induction n with
  | zero => intro x1 x2 v_now hf; exact knone hf
  | succ n ih => intro x1 x2 v_now hf H locs ls hV hl; exact tb_M_init_3 X hq hrec2 ih hf hV hl
set_option maxHeartbeats 2000000 in
set_option maxRecDepth 20000 in
theorem tb_M_init_2 {l : Launch} {p : Program} {e : Env} {s : State} {m : MethodId} {args : Array Value} {below : List Frame} {meth : Method} {c : Code} {D : kD} {wc0 : va_W} {h : Nat} {h_now : Nat} {h_kept : Nat} {h_aside : Nat} {h_found : Nat} {h_down : Nat} {h_along : Nat} {h_parts : Nat} {h_gone : Nat} {h_tape : Nat} {h_kinds : Nat} {h_items : Nat} {h_widths : Nat} {h_sizes : Nat} {h_numbers : Nat} {h_moved : Nat} {v_isKept : Int32} {v_taped : Int32} {v_begins : Int32} {v_ends : Int32} {v_sort : Int32} {v_value : Int32} {v_isWrong : Int32} {v_itemMany : Int32} {v_farmMany : Int32} {v_farmCells : Int64} {v_now : Nat → Int32} {v_kept : Nat → Int32} {v_aside : Nat → Int32} {v_found : Nat → Int32} {v_down : Nat → Int32} {v_along : Nat → Int32} {v_parts : Nat → Int64} {v_gone : Nat → Int64} {v_tape : Nat → Int32} {v_items : Nat → Int32} {v_widths : Nat → Int32} {v_sizes : Nat → Int32} {v_numbers : Nat → Int64} {v_moved : Nat → Int64} {x1 : Int32} {rec2 : Int32 → (Nat → Int32) → Option ((Nat → Int32))} {out : (Nat → Int32)} (X : kX p m meth c s args D (va_A wc0 s.heap.size) b_M_init "MountainFarmsModel" 3 none) {Qf : State → Prop} (hq : ∀ (H : Heap) (locs : List Loc) (ls : Array Slot), kV D (va_A wc0 s.heap.size) s (wd_M_init D h h_now h_kept h_aside h_found h_down h_along h_parts h_gone h_tape h_kinds h_items h_widths h_sizes h_numbers h_moved v_isKept v_taped v_begins v_ends v_sort v_value v_isWrong v_itemMany v_farmMany v_farmCells out v_kept v_aside v_found v_down v_along v_parts v_gone v_tape v_items v_widths v_sizes v_numbers v_moved) H locs → ls.size = 3 → W p l e { frames := 2, cells := 15, slots := 1732, locals := 60 } s m args below meth c H locs 15 1732 Qf (F0 m 362 ls [])) (hrec2 : ∀ (x1 : Int32) (v_now : Nat → Int32), rec2 x1 v_now = some out → ∀ (H : Heap) (locs : List Loc) (ls : Array Slot), kV D (va_A wc0 s.heap.size) s (wd_M_init D h h_now h_kept h_aside h_found h_down h_along h_parts h_gone h_tape h_kinds h_items h_widths h_sizes h_numbers h_moved v_isKept v_taped v_begins v_ends v_sort v_value v_isWrong v_itemMany v_farmMany v_farmCells v_now v_kept v_aside v_found v_down v_along v_parts v_gone v_tape v_items v_widths v_sizes v_numbers v_moved) H locs → lv_has ls 3 [(0, .ref h), (1, .int x1)] → W p l e { frames := 2, cells := 15, slots := 1732, locals := 60 } s m args below meth c H locs 15 1732 Qf (F0 m 281 ls [])) (hf : fb_M_init_2 rec2 x1 v_now = some out) {H : Heap} {locs : List Loc} (hV : kV D (va_A wc0 s.heap.size) s (wd_M_init D h h_now h_kept h_aside h_found h_down h_along h_parts h_gone h_tape h_kinds h_items h_widths h_sizes h_numbers h_moved v_isKept v_taped v_begins v_ends v_sort v_value v_isWrong v_itemMany v_farmMany v_farmCells v_now v_kept v_aside v_found v_down v_along v_parts v_gone v_tape v_items v_widths v_sizes v_numbers v_moved) H locs) {ls : Array Slot} (hl : lv_has ls 3 [(0, .ref h), (1, .int x1)]) : W p l e { frames := 2, cells := 15, slots := 1732, locals := 60 } s m args below meth c H locs 15 1732 Qf (F0 m 281 ls []) := by
  unfold fb_M_init_2 at hf
  obtain ⟨hx, hb, -⟩ := id X
  refine lv_iload_n hx hb d_M_init_281 rfl (lv_at hl 1 rfl) ?_
  refine lv_iconst (v := 4) hx hb d_M_init_282 ic_4 ?_
  refine lv_icmp_ge (tgt := 362) hx hb d_M_init_283 (by decide) (fun c_25 => ?_) (fun c_25 => ?_)
  · replace hf := kifp c_25 hf
    have e_ := Option.some.inj hf
    subst e_
    exact hq _ _ _ hV hl.1
  replace hf := kifn c_25 hf
  refine lv_aload_n hx hb d_M_init_286 rfl (lv_at hl 0 rfl) ?_
  refine k_get X hV 0 9 0 rfl rfl rfl gw_887 rfl rfl d_M_init_287 ?_
  refine lv_bipush (v := 18) hx hb d_M_init_290 bp_18 ?_
  refine lv_iconst (v := 4) hx hb d_M_init_292 ic_4 ?_
  refine lv_iload_n hx hb d_M_init_293 rfl (lv_at hl 1 rfl) ?_
  refine lv_imul hx hb d_M_init_294 ?_
  refine lv_iadd hx hb d_M_init_295 ?_
  refine lv_iload_n hx hb d_M_init_296 rfl (lv_at hl 1 rfl) ?_
  refine lv_iadd hx hb d_M_init_297 ?_
  refine lv_bipush (v := 7) hx hb d_M_init_298 bp_7 ?_
  obtain ⟨h_26, hf⟩ := kidx_some hf
  refine k_iast (ws' := (wd_M_init D h h_now h_kept h_aside h_found h_down h_along h_parts h_gone h_tape h_kinds h_items h_widths h_sizes h_numbers h_moved v_isKept v_taped v_begins v_ends v_sort v_value v_isWrong v_itemMany v_farmMany v_farmCells (upd v_now (((18 : Int32) + ((4 : Int32) * x1)) + x1).toNatClampNeg (7 : Int32)) v_kept v_aside v_found v_down v_along v_parts v_gone v_tape v_items v_widths v_sizes v_numbers v_moved)) X hV 1 rfl h_26 rfl rfl d_M_init_300 (fun H locs hV => ?_)
  refine lv_aload_n hx hb d_M_init_301 rfl (lv_at hl 0 rfl) ?_
  refine k_get X hV 0 9 0 rfl rfl rfl gw_887 rfl rfl d_M_init_302 ?_
  refine lv_bipush (v := 18) hx hb d_M_init_305 bp_18 ?_
  refine lv_iconst (v := 4) hx hb d_M_init_307 ic_4 ?_
  refine lv_iload_n hx hb d_M_init_308 rfl (lv_at hl 1 rfl) ?_
  refine lv_imul hx hb d_M_init_309 ?_
  refine lv_iadd hx hb d_M_init_310 ?_
  refine lv_iload_n hx hb d_M_init_311 rfl (lv_at hl 1 rfl) ?_
  refine lv_iconst (v := 1) hx hb d_M_init_312 ic_1 ?_
  refine lv_iadd hx hb d_M_init_313 ?_
  refine lv_iconst (v := 4) hx hb d_M_init_314 ic_4 ?_
  refine lv_irem hx hb d_M_init_315 (by decide) ?_
  refine lv_iadd hx hb d_M_init_316 ?_
  refine lv_iconst (v := 3) hx hb d_M_init_317 ic_3 ?_
  obtain ⟨h_27, hf⟩ := kidx_some hf
  refine k_iast (ws' := (wd_M_init D h h_now h_kept h_aside h_found h_down h_along h_parts h_gone h_tape h_kinds h_items h_widths h_sizes h_numbers h_moved v_isKept v_taped v_begins v_ends v_sort v_value v_isWrong v_itemMany v_farmMany v_farmCells (upd (upd v_now (((18 : Int32) + ((4 : Int32) * x1)) + x1).toNatClampNeg (7 : Int32)) (((18 : Int32) + ((4 : Int32) * x1)) + ((x1 + (1 : Int32)) - (x1 + (1 : Int32)) / (4 : Int32) * (4 : Int32))).toNatClampNeg (3 : Int32)) v_kept v_aside v_found v_down v_along v_parts v_gone v_tape v_items v_widths v_sizes v_numbers v_moved)) X hV 1 rfl h_27 rfl rfl d_M_init_318 (fun H locs hV => ?_)
  refine lv_iconst (v := 0) hx hb d_M_init_319 ic_0 ?_
  refine lv_istore_n (lv' := [(2, .int (0 : Int32)), (0, .ref h), (1, .int x1)]) hx hb d_M_init_320 rfl hl (by decide) rfl (fun ls hl => ?_)
  exact tl_M_init_3 X hq hrec2 _ _ _ _ hf _ _ _ hV (lv_sub hl [1, 2, 0] rfl)
set_option maxHeartbeats 2000000 in
set_option maxRecDepth 20000 in
theorem tl_M_init_2 {l : Launch} {p : Program} {e : Env} {s : State} {m : MethodId} {args : Array Value} {below : List Frame} {meth : Method} {c : Code} {D : kD} {wc0 : va_W} {h : Nat} {h_now : Nat} {h_kept : Nat} {h_aside : Nat} {h_found : Nat} {h_down : Nat} {h_along : Nat} {h_parts : Nat} {h_gone : Nat} {h_tape : Nat} {h_kinds : Nat} {h_items : Nat} {h_widths : Nat} {h_sizes : Nat} {h_numbers : Nat} {h_moved : Nat} {v_isKept : Int32} {v_taped : Int32} {v_begins : Int32} {v_ends : Int32} {v_sort : Int32} {v_value : Int32} {v_isWrong : Int32} {v_itemMany : Int32} {v_farmMany : Int32} {v_farmCells : Int64} {v_kept : Nat → Int32} {v_aside : Nat → Int32} {v_found : Nat → Int32} {v_down : Nat → Int32} {v_along : Nat → Int32} {v_parts : Nat → Int64} {v_gone : Nat → Int64} {v_tape : Nat → Int32} {v_items : Nat → Int32} {v_widths : Nat → Int32} {v_sizes : Nat → Int32} {v_numbers : Nat → Int64} {v_moved : Nat → Int64} {out : (Nat → Int32)} (X : kX p m meth c s args D (va_A wc0 s.heap.size) b_M_init "MountainFarmsModel" 3 none) {Qf : State → Prop} (hq : ∀ (H : Heap) (locs : List Loc) (ls : Array Slot), kV D (va_A wc0 s.heap.size) s (wd_M_init D h h_now h_kept h_aside h_found h_down h_along h_parts h_gone h_tape h_kinds h_items h_widths h_sizes h_numbers h_moved v_isKept v_taped v_begins v_ends v_sort v_value v_isWrong v_itemMany v_farmMany v_farmCells out v_kept v_aside v_found v_down v_along v_parts v_gone v_tape v_items v_widths v_sizes v_numbers v_moved) H locs → ls.size = 3 → W p l e { frames := 2, cells := 15, slots := 1732, locals := 60 } s m args below meth c H locs 15 1732 Qf (F0 m 362 ls [])) : ∀ (n : Nat) (x1 : Int32) (v_now : Nat → Int32), fl_M_init_2 n x1 v_now = some out → ∀ (H : Heap) (locs : List Loc) (ls : Array Slot), kV D (va_A wc0 s.heap.size) s (wd_M_init D h h_now h_kept h_aside h_found h_down h_along h_parts h_gone h_tape h_kinds h_items h_widths h_sizes h_numbers h_moved v_isKept v_taped v_begins v_ends v_sort v_value v_isWrong v_itemMany v_farmMany v_farmCells v_now v_kept v_aside v_found v_down v_along v_parts v_gone v_tape v_items v_widths v_sizes v_numbers v_moved) H locs → lv_has ls 3 [(0, .ref h), (1, .int x1)] → W p l e { frames := 2, cells := 15, slots := 1732, locals := 60 } s m args below meth c H locs 15 1732 Qf (F0 m 281 ls []) := by
  intro n
  induction n with
  | zero => intro x1 v_now hf; exact knone hf
  | succ n ih => intro x1 v_now hf H locs ls hV hl; exact tb_M_init_2 X hq ih hf hV hl
set_option maxHeartbeats 2000000 in
set_option maxRecDepth 20000 in
theorem tb_M_init_1 {l : Launch} {p : Program} {e : Env} {s : State} {m : MethodId} {args : Array Value} {below : List Frame} {meth : Method} {c : Code} {D : kD} {wc0 : va_W} {h : Nat} {h_now : Nat} {h_kept : Nat} {h_aside : Nat} {h_found : Nat} {h_down : Nat} {h_along : Nat} {h_parts : Nat} {h_gone : Nat} {h_tape : Nat} {h_kinds : Nat} {h_items : Nat} {h_widths : Nat} {h_sizes : Nat} {h_numbers : Nat} {h_moved : Nat} {v_isKept : Int32} {v_taped : Int32} {v_begins : Int32} {v_ends : Int32} {v_sort : Int32} {v_value : Int32} {v_isWrong : Int32} {v_itemMany : Int32} {v_farmMany : Int32} {v_farmCells : Int64} {v_now : Nat → Int32} {v_kept : Nat → Int32} {v_aside : Nat → Int32} {v_found : Nat → Int32} {v_down : Nat → Int32} {v_along : Nat → Int32} {v_parts : Nat → Int64} {v_gone : Nat → Int64} {v_tape : Nat → Int32} {v_items : Nat → Int32} {v_widths : Nat → Int32} {v_sizes : Nat → Int32} {v_numbers : Nat → Int64} {v_moved : Nat → Int64} {x1 : Int32} {rec1 : Int32 → (Nat → Int32) → Option ((Nat → Int32))} {out : (Nat → Int32)} (X : kX p m meth c s args D (va_A wc0 s.heap.size) b_M_init "MountainFarmsModel" 3 none) {Qf : State → Prop} (hq : ∀ (H : Heap) (locs : List Loc) (ls : Array Slot), kV D (va_A wc0 s.heap.size) s (wd_M_init D h h_now h_kept h_aside h_found h_down h_along h_parts h_gone h_tape h_kinds h_items h_widths h_sizes h_numbers h_moved v_isKept v_taped v_begins v_ends v_sort v_value v_isWrong v_itemMany v_farmMany v_farmCells out v_kept v_aside v_found v_down v_along v_parts v_gone v_tape v_items v_widths v_sizes v_numbers v_moved) H locs → ls.size = 3 → W p l e { frames := 2, cells := 15, slots := 1732, locals := 60 } s m args below meth c H locs 15 1732 Qf (F0 m 362 ls [])) (hrec1 : ∀ (x1 : Int32) (v_now : Nat → Int32), rec1 x1 v_now = some out → ∀ (H : Heap) (locs : List Loc) (ls : Array Slot), kV D (va_A wc0 s.heap.size) s (wd_M_init D h h_now h_kept h_aside h_found h_down h_along h_parts h_gone h_tape h_kinds h_items h_widths h_sizes h_numbers h_moved v_isKept v_taped v_begins v_ends v_sort v_value v_isWrong v_itemMany v_farmMany v_farmCells v_now v_kept v_aside v_found v_down v_along v_parts v_gone v_tape v_items v_widths v_sizes v_numbers v_moved) H locs → lv_has ls 3 [(0, .ref h), (1, .int x1)] → W p l e { frames := 2, cells := 15, slots := 1732, locals := 60 } s m args below meth c H locs 15 1732 Qf (F0 m 219 ls [])) (hf : fb_M_init_1 rec1 x1 v_now = some out) {H : Heap} {locs : List Loc} (hV : kV D (va_A wc0 s.heap.size) s (wd_M_init D h h_now h_kept h_aside h_found h_down h_along h_parts h_gone h_tape h_kinds h_items h_widths h_sizes h_numbers h_moved v_isKept v_taped v_begins v_ends v_sort v_value v_isWrong v_itemMany v_farmMany v_farmCells v_now v_kept v_aside v_found v_down v_along v_parts v_gone v_tape v_items v_widths v_sizes v_numbers v_moved) H locs) {ls : Array Slot} (hl : lv_has ls 3 [(0, .ref h), (1, .int x1)]) : W p l e { frames := 2, cells := 15, slots := 1732, locals := 60 } s m args below meth c H locs 15 1732 Qf (F0 m 219 ls []) := by
  unfold fb_M_init_1 at hf
  obtain ⟨hx, hb, -⟩ := id X
  refine lv_iload_n hx hb d_M_init_219 rfl (lv_at hl 1 rfl) ?_
  refine lv_bipush (v := 36) hx hb d_M_init_220 bp_36 ?_
  refine lv_icmp_ge (tgt := 279) hx hb d_M_init_222 (by decide) (fun c_16 => ?_) (fun c_16 => ?_)
  · replace hf := kifp c_16 hf
    refine lv_iconst (v := 0) hx hb d_M_init_279 ic_0 ?_
    refine lv_istore_n (lv' := [(1, .int (0 : Int32)), (0, .ref h)]) hx hb d_M_init_280 rfl hl (by decide) rfl (fun ls hl => ?_)
    exact tl_M_init_2 X hq _ _ _ hf _ _ _ hV (lv_sub hl [1, 0] rfl)
  replace hf := kifn c_16 hf
  refine lv_aload_n hx hb d_M_init_225 rfl (lv_at hl 0 rfl) ?_
  refine k_get X hV 0 9 0 rfl rfl rfl gw_887 rfl rfl d_M_init_226 ?_
  refine lv_bipush (v := 50) hx hb d_M_init_229 bp_50 ?_
  refine lv_iload_n hx hb d_M_init_231 rfl (lv_at hl 1 rfl) ?_
  refine lv_iadd hx hb d_M_init_232 ?_
  refine lv_iconst (v := 0) hx hb d_M_init_233 ic_0 ?_
  refine lv_bipush (v := 50) hx hb d_M_init_234 bp_50 ?_
  refine lv_iconst (v := 5) hx hb d_M_init_236 ic_5 ?_
  refine lv_iload_n hx hb d_M_init_237 rfl (lv_at hl 1 rfl) ?_
  refine lv_bipush (v := 6) hx hb d_M_init_238 bp_6 ?_
  refine lv_idiv hx hb d_M_init_240 (by decide) ?_
  refine lv_iconst (v := 2) hx hb d_M_init_241 ic_2 ?_
  refine lv_isub hx hb d_M_init_242 ?_
  obtain ⟨r_17, hc_18, hf⟩ := kb1_some hf
  refine k_csi (w1 := (wd_Ma_abs D)) (r := r_17) (ws' := (wd_M_init D h h_now h_kept h_aside h_found h_down h_along h_parts h_gone h_tape h_kinds h_items h_widths h_sizes h_numbers h_moved v_isKept v_taped v_begins v_ends v_sort v_value v_isWrong v_itemMany v_farmMany v_farmCells v_now v_kept v_aside v_found v_down v_along v_parts v_gone v_tape v_items v_widths v_sizes v_numbers v_moved)) X hV hl.1 (c_Ma_abs D ((x1 / (6 : Int32)) - (2 : Int32)) hc_18) fk_Ma_abs gw_885 rfl [] [none, none, none, none, none, none, none, none, none, none, none, none, none, none, none, none] rfl rfl ⟨rfl, rfl, rfl, rfl, rfl, rfl, rfl, rfl, rfl, rfl, rfl, rfl, rfl, rfl, rfl, rfl, trivial⟩ rfl rfl rfl d_M_init_243 (fun H locs hV => ?_)
  refine lv_iload_n hx hb d_M_init_246 rfl (lv_at hl 1 rfl) ?_
  refine lv_bipush (v := 6) hx hb d_M_init_247 bp_6 ?_
  refine lv_irem hx hb d_M_init_249 (by decide) ?_
  refine lv_iconst (v := 2) hx hb d_M_init_250 ic_2 ?_
  refine lv_isub hx hb d_M_init_251 ?_
  obtain ⟨r_19, hc_20, hf⟩ := kb1_some hf
  refine k_csi (w1 := (wd_Ma_abs D)) (r := r_19) (ws' := (wd_M_init D h h_now h_kept h_aside h_found h_down h_along h_parts h_gone h_tape h_kinds h_items h_widths h_sizes h_numbers h_moved v_isKept v_taped v_begins v_ends v_sort v_value v_isWrong v_itemMany v_farmMany v_farmCells v_now v_kept v_aside v_found v_down v_along v_parts v_gone v_tape v_items v_widths v_sizes v_numbers v_moved)) X hV hl.1 (c_Ma_abs D ((x1 - x1 / (6 : Int32) * (6 : Int32)) - (2 : Int32)) hc_20) fk_Ma_abs gw_885 rfl [] [none, none, none, none, none, none, none, none, none, none, none, none, none, none, none, none] rfl rfl ⟨rfl, rfl, rfl, rfl, rfl, rfl, rfl, rfl, rfl, rfl, rfl, rfl, rfl, rfl, rfl, rfl, trivial⟩ rfl rfl rfl d_M_init_252 (fun H locs hV => ?_)
  refine lv_iadd hx hb d_M_init_255 ?_
  refine lv_imul hx hb d_M_init_256 ?_
  refine lv_isub hx hb d_M_init_257 ?_
  obtain ⟨r_21, hc_22, hf⟩ := kb1_some hf
  refine k_csi (w1 := (wd_Ma_max D)) (r := r_21) (ws' := (wd_M_init D h h_now h_kept h_aside h_found h_down h_along h_parts h_gone h_tape h_kinds h_items h_widths h_sizes h_numbers h_moved v_isKept v_taped v_begins v_ends v_sort v_value v_isWrong v_itemMany v_farmMany v_farmCells v_now v_kept v_aside v_found v_down v_along v_parts v_gone v_tape v_items v_widths v_sizes v_numbers v_moved)) X hV hl.1 (c_Ma_max D (0 : Int32) ((50 : Int32) - ((5 : Int32) * (r_17 + r_19))) hc_22) fk_Ma_max gw_886 rfl [] [none, none, none, none, none, none, none, none, none, none, none, none, none, none, none, none] rfl rfl ⟨rfl, rfl, rfl, rfl, rfl, rfl, rfl, rfl, rfl, rfl, rfl, rfl, rfl, rfl, rfl, rfl, trivial⟩ rfl rfl rfl d_M_init_258 (fun H locs hV => ?_)
  obtain ⟨h_23, hf⟩ := kidx_some hf
  refine k_iast (ws' := (wd_M_init D h h_now h_kept h_aside h_found h_down h_along h_parts h_gone h_tape h_kinds h_items h_widths h_sizes h_numbers h_moved v_isKept v_taped v_begins v_ends v_sort v_value v_isWrong v_itemMany v_farmMany v_farmCells (upd v_now ((50 : Int32) + x1).toNatClampNeg r_21) v_kept v_aside v_found v_down v_along v_parts v_gone v_tape v_items v_widths v_sizes v_numbers v_moved)) X hV 1 rfl h_23 rfl rfl d_M_init_261 (fun H locs hV => ?_)
  refine lv_aload_n hx hb d_M_init_262 rfl (lv_at hl 0 rfl) ?_
  refine k_get X hV 0 9 0 rfl rfl rfl gw_887 rfl rfl d_M_init_263 ?_
  refine lv_bipush (v := 86) hx hb d_M_init_266 bp_86 ?_
  refine lv_iload_n hx hb d_M_init_268 rfl (lv_at hl 1 rfl) ?_
  refine lv_iadd hx hb d_M_init_269 ?_
  refine lv_bipush (v := 20) hx hb d_M_init_270 bp_20 ?_
  obtain ⟨h_24, hf⟩ := kidx_some hf
  refine k_iast (ws' := (wd_M_init D h h_now h_kept h_aside h_found h_down h_along h_parts h_gone h_tape h_kinds h_items h_widths h_sizes h_numbers h_moved v_isKept v_taped v_begins v_ends v_sort v_value v_isWrong v_itemMany v_farmMany v_farmCells (upd (upd v_now ((50 : Int32) + x1).toNatClampNeg r_21) ((86 : Int32) + x1).toNatClampNeg (20 : Int32)) v_kept v_aside v_found v_down v_along v_parts v_gone v_tape v_items v_widths v_sizes v_numbers v_moved)) X hV 1 rfl h_24 rfl rfl d_M_init_272 (fun H locs hV => ?_)
  refine lv_iinc (v := (x1 + 1)) (lv' := [(1, .int (x1 + 1)), (0, .ref h)]) hx hb d_M_init_273 hl (k := 1) rfl rfl (by decide) rfl (fun ls hl => ?_)
  refine lv_goto (tgt := 219) hx hb d_M_init_276 (by decide) ?_
  exact hrec1 _ _ hf _ _ _ hV (lv_sub hl [1, 0] rfl)
set_option maxHeartbeats 2000000 in
set_option maxRecDepth 20000 in
theorem tl_M_init_1 {l : Launch} {p : Program} {e : Env} {s : State} {m : MethodId} {args : Array Value} {below : List Frame} {meth : Method} {c : Code} {D : kD} {wc0 : va_W} {h : Nat} {h_now : Nat} {h_kept : Nat} {h_aside : Nat} {h_found : Nat} {h_down : Nat} {h_along : Nat} {h_parts : Nat} {h_gone : Nat} {h_tape : Nat} {h_kinds : Nat} {h_items : Nat} {h_widths : Nat} {h_sizes : Nat} {h_numbers : Nat} {h_moved : Nat} {v_isKept : Int32} {v_taped : Int32} {v_begins : Int32} {v_ends : Int32} {v_sort : Int32} {v_value : Int32} {v_isWrong : Int32} {v_itemMany : Int32} {v_farmMany : Int32} {v_farmCells : Int64} {v_kept : Nat → Int32} {v_aside : Nat → Int32} {v_found : Nat → Int32} {v_down : Nat → Int32} {v_along : Nat → Int32} {v_parts : Nat → Int64} {v_gone : Nat → Int64} {v_tape : Nat → Int32} {v_items : Nat → Int32} {v_widths : Nat → Int32} {v_sizes : Nat → Int32} {v_numbers : Nat → Int64} {v_moved : Nat → Int64} {out : (Nat → Int32)} (X : kX p m meth c s args D (va_A wc0 s.heap.size) b_M_init "MountainFarmsModel" 3 none) {Qf : State → Prop} (hq : ∀ (H : Heap) (locs : List Loc) (ls : Array Slot), kV D (va_A wc0 s.heap.size) s (wd_M_init D h h_now h_kept h_aside h_found h_down h_along h_parts h_gone h_tape h_kinds h_items h_widths h_sizes h_numbers h_moved v_isKept v_taped v_begins v_ends v_sort v_value v_isWrong v_itemMany v_farmMany v_farmCells out v_kept v_aside v_found v_down v_along v_parts v_gone v_tape v_items v_widths v_sizes v_numbers v_moved) H locs → ls.size = 3 → W p l e { frames := 2, cells := 15, slots := 1732, locals := 60 } s m args below meth c H locs 15 1732 Qf (F0 m 362 ls [])) : ∀ (n : Nat) (x1 : Int32) (v_now : Nat → Int32), fl_M_init_1 n x1 v_now = some out → ∀ (H : Heap) (locs : List Loc) (ls : Array Slot), kV D (va_A wc0 s.heap.size) s (wd_M_init D h h_now h_kept h_aside h_found h_down h_along h_parts h_gone h_tape h_kinds h_items h_widths h_sizes h_numbers h_moved v_isKept v_taped v_begins v_ends v_sort v_value v_isWrong v_itemMany v_farmMany v_farmCells v_now v_kept v_aside v_found v_down v_along v_parts v_gone v_tape v_items v_widths v_sizes v_numbers v_moved) H locs → lv_has ls 3 [(0, .ref h), (1, .int x1)] → W p l e { frames := 2, cells := 15, slots := 1732, locals := 60 } s m args below meth c H locs 15 1732 Qf (F0 m 219 ls []) := by
  intro n
  induction n with
  | zero => intro x1 v_now hf; exact knone hf
  | succ n ih => intro x1 v_now hf H locs ls hV hl; exact tb_M_init_1 X hq ih hf hV hl
set_option maxHeartbeats 2000000 in
set_option maxRecDepth 20000 in
theorem t_M_init {l : Launch} {p : Program} {e : Env} {s : State} {m : MethodId} {args : Array Value} {below : List Frame} {meth : Method} {c : Code} {D : kD} {wc0 : va_W} {h : Nat} {h_now : Nat} {h_kept : Nat} {h_aside : Nat} {h_found : Nat} {h_down : Nat} {h_along : Nat} {h_parts : Nat} {h_gone : Nat} {h_tape : Nat} {h_kinds : Nat} {h_items : Nat} {h_widths : Nat} {h_sizes : Nat} {h_numbers : Nat} {h_moved : Nat} {v_isKept : Int32} {v_taped : Int32} {v_begins : Int32} {v_ends : Int32} {v_sort : Int32} {v_value : Int32} {v_isWrong : Int32} {v_itemMany : Int32} {v_farmMany : Int32} {v_farmCells : Int64} {v_now : Nat → Int32} {v_kept : Nat → Int32} {v_aside : Nat → Int32} {v_found : Nat → Int32} {v_down : Nat → Int32} {v_along : Nat → Int32} {v_parts : Nat → Int64} {v_gone : Nat → Int64} {v_tape : Nat → Int32} {v_items : Nat → Int32} {v_widths : Nat → Int32} {v_sizes : Nat → Int32} {v_numbers : Nat → Int64} {v_moved : Nat → Int64} {out : (Nat → Int32)} (X : kX p m meth c s args D (va_A wc0 s.heap.size) b_M_init "MountainFarmsModel" 3 none) {Qf : State → Prop} (hq : ∀ (H : Heap) (locs : List Loc) (ls : Array Slot), kV D (va_A wc0 s.heap.size) s (wd_M_init D h h_now h_kept h_aside h_found h_down h_along h_parts h_gone h_tape h_kinds h_items h_widths h_sizes h_numbers h_moved v_isKept v_taped v_begins v_ends v_sort v_value v_isWrong v_itemMany v_farmMany v_farmCells out v_kept v_aside v_found v_down v_along v_parts v_gone v_tape v_items v_widths v_sizes v_numbers v_moved) H locs → ls.size = 3 → W p l e { frames := 2, cells := 15, slots := 1732, locals := 60 } s m args below meth c H locs 15 1732 Qf (F0 m 362 ls [])) (hf : f_M_init v_now = some out) {H : Heap} {locs : List Loc} (hV : kV D (va_A wc0 s.heap.size) s (wd_M_init D h h_now h_kept h_aside h_found h_down h_along h_parts h_gone h_tape h_kinds h_items h_widths h_sizes h_numbers h_moved v_isKept v_taped v_begins v_ends v_sort v_value v_isWrong v_itemMany v_farmMany v_farmCells v_now v_kept v_aside v_found v_down v_along v_parts v_gone v_tape v_items v_widths v_sizes v_numbers v_moved) H locs) {ls : Array Slot} (hl : lv_has ls 3 [(0, .ref h)]) : W p l e { frames := 2, cells := 15, slots := 1732, locals := 60 } s m args below meth c H locs 15 1732 Qf (F0 m 186 ls []) := by
  unfold f_M_init at hf
  obtain ⟨hx, hb, -⟩ := id X
  refine lv_aload_n hx hb d_M_init_186 rfl (lv_at hl 0 rfl) ?_
  refine k_get X hV 0 9 0 rfl rfl rfl gw_887 rfl rfl d_M_init_187 ?_
  refine lv_iconst (v := 0) hx hb d_M_init_190 ic_0 ?_
  refine lv_iconst (v := 1) hx hb d_M_init_191 ic_1 ?_
  refine k_iast (ws' := (wd_M_init D h h_now h_kept h_aside h_found h_down h_along h_parts h_gone h_tape h_kinds h_items h_widths h_sizes h_numbers h_moved v_isKept v_taped v_begins v_ends v_sort v_value v_isWrong v_itemMany v_farmMany v_farmCells (upd v_now 0 (1 : Int32)) v_kept v_aside v_found v_down v_along v_parts v_gone v_tape v_items v_widths v_sizes v_numbers v_moved)) X hV 1 rfl kin_0_218 kln_0 rfl d_M_init_192 (fun H locs hV => ?_)
  refine lv_aload_n hx hb d_M_init_193 rfl (lv_at hl 0 rfl) ?_
  refine k_get X hV 0 9 0 rfl rfl rfl gw_887 rfl rfl d_M_init_194 ?_
  refine lv_iconst (v := 3) hx hb d_M_init_197 ic_3 ?_
  refine lv_bipush (v := 14) hx hb d_M_init_198 bp_14 ?_
  refine k_iast (ws' := (wd_M_init D h h_now h_kept h_aside h_found h_down h_along h_parts h_gone h_tape h_kinds h_items h_widths h_sizes h_numbers h_moved v_isKept v_taped v_begins v_ends v_sort v_value v_isWrong v_itemMany v_farmMany v_farmCells (upd (upd v_now 0 (1 : Int32)) 3 (14 : Int32)) v_kept v_aside v_found v_down v_along v_parts v_gone v_tape v_items v_widths v_sizes v_numbers v_moved)) X hV 1 rfl kin_3_218 kln_3 rfl d_M_init_200 (fun H locs hV => ?_)
  refine lv_aload_n hx hb d_M_init_201 rfl (lv_at hl 0 rfl) ?_
  refine k_get X hV 0 9 0 rfl rfl rfl gw_887 rfl rfl d_M_init_202 ?_
  refine lv_iconst (v := 4) hx hb d_M_init_205 ic_4 ?_
  refine lv_bipush (v := 99) hx hb d_M_init_206 bp_99 ?_
  refine k_iast (ws' := (wd_M_init D h h_now h_kept h_aside h_found h_down h_along h_parts h_gone h_tape h_kinds h_items h_widths h_sizes h_numbers h_moved v_isKept v_taped v_begins v_ends v_sort v_value v_isWrong v_itemMany v_farmMany v_farmCells (upd (upd (upd v_now 0 (1 : Int32)) 3 (14 : Int32)) 4 (99 : Int32)) v_kept v_aside v_found v_down v_along v_parts v_gone v_tape v_items v_widths v_sizes v_numbers v_moved)) X hV 1 rfl kin_4_218 kln_4 rfl d_M_init_208 (fun H locs hV => ?_)
  refine lv_aload_n hx hb d_M_init_209 rfl (lv_at hl 0 rfl) ?_
  refine k_get X hV 0 9 0 rfl rfl rfl gw_887 rfl rfl d_M_init_210 ?_
  refine lv_iconst (v := 5) hx hb d_M_init_213 ic_5 ?_
  refine lv_bipush (v := 12) hx hb d_M_init_214 bp_12 ?_
  refine k_iast (ws' := (wd_M_init D h h_now h_kept h_aside h_found h_down h_along h_parts h_gone h_tape h_kinds h_items h_widths h_sizes h_numbers h_moved v_isKept v_taped v_begins v_ends v_sort v_value v_isWrong v_itemMany v_farmMany v_farmCells (upd (upd (upd (upd v_now 0 (1 : Int32)) 3 (14 : Int32)) 4 (99 : Int32)) 5 (12 : Int32)) v_kept v_aside v_found v_down v_along v_parts v_gone v_tape v_items v_widths v_sizes v_numbers v_moved)) X hV 1 rfl kin_5_218 kln_5 rfl d_M_init_216 (fun H locs hV => ?_)
  refine lv_iconst (v := 0) hx hb d_M_init_217 ic_0 ?_
  refine lv_istore_n (lv' := [(1, .int (0 : Int32)), (0, .ref h)]) hx hb d_M_init_218 rfl hl (by decide) rfl (fun ls hl => ?_)
  exact tl_M_init_1 X hq _ _ _ hf _ _ _ hV (lv_sub hl [1, 0] rfl)
