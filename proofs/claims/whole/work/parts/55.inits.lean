/-! printed by wip/gen/p55.py: the constructors -/
theorem sp_720 : (Int16.ofInt 720).toInt32 = 720 := by decide
theorem sp_160 : (Int16.ofInt 160).toInt32 = 160 := by decide
theorem dv_Fa : ∀ j, j < 6 → defaultValue (ty_Fa j) = vp_V [.null, .null, .null, .null, .int 0, .int 0] j := fun j hj => by rcases (show j = 0 ∨ j = 1 ∨ j = 2 ∨ j = 3 ∨ j = 4 ∨ j = 5 by omega) with rfl | rfl | rfl | rfl | rfl | rfl <;> rfl
theorem dv_Gr : ∀ j, j < 5 → defaultValue (ty_Gr j) = vp_V [.null, .null, .null, .int 0, .int 0] j := fun j hj => by rcases (show j = 0 ∨ j = 1 ∨ j = 2 ∨ j = 3 ∨ j = 4 by omega) with rfl | rfl | rfl | rfl | rfl <;> rfl
theorem dv_Mo : ∀ j, j < 6 → defaultValue (ty_Mo j) = vp_V [.null, .null, .null, .int 0, .int 0, .int 0] j := fun j hj => by rcases (show j = 0 ∨ j = 1 ∨ j = 2 ∨ j = 3 ∨ j = 4 ∨ j = 5 by omega) with rfl | rfl | rfl | rfl | rfl | rfl <;> rfl
theorem dv_Pa : ∀ j, j < 2 → defaultValue (ty_Pa j) = vp_V [.null, .null] j := fun j hj => by rcases (show j = 0 ∨ j = 1 by omega) with rfl | rfl <;> rfl
theorem dv_Sh : ∀ j, j < 3 → defaultValue (ty_Sh j) = vp_V [.null, .int 0, .int 0] j := fun j hj => by rcases (show j = 0 ∨ j = 1 ∨ j = 2 by omega) with rfl | rfl | rfl <;> rfl
theorem dv_Sl : ∀ j, j < 9 → defaultValue (ty_Sl j) = vp_V [.null, .null, .null, .int 0, .int 0, .int 0, .int 0, .int 0, .int 0] j := fun j hj => by rcases (show j = 0 ∨ j = 1 ∨ j = 2 ∨ j = 3 ∨ j = 4 ∨ j = 5 ∨ j = 6 ∨ j = 7 ∨ j = 8 by omega) with rfl | rfl | rfl | rfl | rfl | rfl | rfl | rfl | rfl <;> rfl
theorem dv_Tx : ∀ j, j < 1 → defaultValue (ty_Tx j) = vp_V [.null] j := fun j hj => by
  obtain rfl : j = 0 := by omega
  rfl
theorem dv_Ta : ∀ j, j < 6 → defaultValue (ty_Ta j) = vp_V [.null, .int 0, .int 0, .int 0, .int 0, .int 0] j := fun j hj => by rcases (show j = 0 ∨ j = 1 ∨ j = 2 ∨ j = 3 ∨ j = 4 ∨ j = 5 by omega) with rfl | rfl | rfl | rfl | rfl | rfl <;> rfl
theorem dv_X : ∀ j, j < 8 → defaultValue (ty_X j) = vp_V [.null, .null, .null, .null, .null, .null, .null, .int 0] j := fun j hj => by rcases (show j = 0 ∨ j = 1 ∨ j = 2 ∨ j = 3 ∨ j = 4 ∨ j = 5 ∨ j = 6 ∨ j = 7 by omega) with rfl | rfl | rfl | rfl | rfl | rfl | rfl | rfl <;> rfl
theorem dv_M : ∀ j, j < 25 → defaultValue (ty_M j) = vp_V [.null, .null, .null, .int 0, .null, .null, .null, .null, .null, .null, .int 0, .int 0, .int 0, .int 0, .int 0, .int 0, .null, .null, .int 0, .int 0, .long 0, .null, .null, .null, .null] j := fun j hj => by rcases (show j = 0 ∨ j = 1 ∨ j = 2 ∨ j = 3 ∨ j = 4 ∨ j = 5 ∨ j = 6 ∨ j = 7 ∨ j = 8 ∨ j = 9 ∨ j = 10 ∨ j = 11 ∨ j = 12 ∨ j = 13 ∨ j = 14 ∨ j = 15 ∨ j = 16 ∨ j = 17 ∨ j = 18 ∨ j = 19 ∨ j = 20 ∨ j = 21 ∨ j = 22 ∨ j = 23 ∨ j = 24 by omega) with rfl | rfl | rfl | rfl | rfl | rfl | rfl | rfl | rfl | rfl | rfl | rfl | rfl | rfl | rfl | rfl | rfl | rfl | rfl | rfl | rfl | rfl | rfl | rfl | rfl <;> rfl
theorem down_up : ∀ j, j < 4 → (upd (upd (upd (upd (fun _ => 0) 0 (-1)) 1 0) 2 1) 3 0) j = kDown j := by decide
theorem along_up : ∀ j, j < 4 → (upd (upd (upd (upd (fun _ => 0) 0 0) 1 1) 2 0) 3 (-1)) j = kAlong j := by decide
theorem kinds_up {D : kD} : ∀ j, j < 6 → (va_up (va_up (va_up (va_up (va_up (va_up (fun _ => none) (0 : Int32).toNatClampNeg (some (kAK D 15))) (1 : Int32).toNatClampNeg (some (kAK D 16))) (2 : Int32).toNatClampNeg (some (kAK D 17))) (3 : Int32).toNatClampNeg (some (kAK D 18))) (4 : Int32).toNatClampNeg (some (kAK D 19))) (5 : Int32).toNatClampNeg (some (kAK D 20))) j = kKinds D j := by
  intro j hj
  rcases (show j = 0 ∨ j = 1 ∨ j = 2 ∨ j = 3 ∨ j = 4 ∨ j = 5 by omega) with rfl | rfl | rfl | rfl | rfl | rfl <;> rfl
theorem sheets_up (a b c d : Nat) : ∀ j, j < 4 → (va_up (va_up (va_up (va_up (fun _ => none) (0 : Int32).toNatClampNeg (some a)) (1 : Int32).toNatClampNeg (some b)) (2 : Int32).toNatClampNeg (some c)) (3 : Int32).toNatClampNeg (some d)) j = kf4 a b c d j := by
  intro j hj
  rcases (show j = 0 ∨ j = 1 ∨ j = 2 ∨ j = 3 by omega) with rfl | rfl | rfl | rfl <;> rfl
noncomputable def g0_Gr_init : (Nat → Int32) × (Nat → Int32) := (f_Gr_init 14 (fun _ => 0) (fun _ => 0)).getD (fun _ => 0, fun _ => 0)
theorem g0_Gr_init_eq : f_Gr_init 14 (fun _ => 0) (fun _ => 0) = some g0_Gr_init := by
  have h : (f_Gr_init 14 (fun _ => 0) (fun _ => 0)).isSome = true := by decide +kernel
  unfold g0_Gr_init
  cases hq : f_Gr_init 14 (fun _ => 0) (fun _ => 0) with
  | none => rw [hq] at h; cases h
  | some v => rfl
noncomputable abbrev e1_Gr_init (D : kD) (u : Nat × Nat × Nat) : va_E := .inr (1, [.ref u.1, .ref u.2.1, .ref u.2.2, .int 14, .int 99])
noncomputable abbrev nw_Gr_init (D : kD) (u : Nat × Nat × Nat) : va_W := [(u.1, .inl (kI D, 36, .inl g0_Gr_init.1)), (u.2.1, .inl (kI D, 36, .inl g0_Gr_init.2)), (u.2.2, .inl (kI D, 36, .inl (fun _ => 0)))]
theorem fc_Gr_init : kFc y_Gr_init b_Gr_init 4 := ⟨⟨gw_37, gw_3, by decide, by decide, by decide +kernel⟩, gw_36, rfl⟩
set_option maxHeartbeats 2000000 in
set_option maxRecDepth 20000 in
theorem c_Gr_init {l : Launch} (D : kD) (h : Nat) : kMc (S := Nat × Nat × Nat) l D none y_Gr_init b_Gr_init 4 { frames := 2, cells := 3, slots := 108, locals := 60 } h (.inr (1, [.null, .null, .null, .int 0, .int 0])) (fun u => (h, e1_Gr_init D u) :: nw_Gr_init D u) :=
  kMc_of (own := "MountainFarms$Ground") (plainFor_of_name (by decide)) rfl rfl rfl (fun p e s m args below meth c ls X hin2 hO hV hl => by
    obtain ⟨hx, hb, -⟩ := id X
    have hl : lv_has ls 4 [(0, .ref h)] := hl
    refine lv_aload_n hx hb d_Gr_init_0 rfl (lv_at hl 0 rfl) ?_
    refine k_oinit X hl.1 gw_38 rfl rfl d_Gr_init_1 ?_
    refine lv_aload_n hx hb d_Gr_init_4 rfl (lv_at hl 0 rfl) ?_
    refine lv_bipush (v := 36) hx hb d_Gr_init_5 bp_36 ?_
    refine k_newI X hV (N := 36) (by decide) (by decide) rfl rfl rfl d_Gr_init_7 (fun u1 H hV => ?_)
    have hV : kV D (va_A [(h, .inr (1, [.null, .null, .null, .int 0, .int 0]))] s.heap.size) s [(h, .inr (1, [.null, .null, .null, .int 0, .int 0])), (u1, .inl (kI D, 36, .inl (fun _ => 0)))] H _ := hV
    refine k_putF (ws' := [(h, .inr (1, [.ref u1, .null, .null, .int 0, .int 0])), (u1, .inl (kI D, 36, .inl (fun _ => 0)))]) X hV hin2 0 1 0 rfl rfl rfl gw_45 rfl rfl rfl rfl rfl rfl rfl rfl d_Gr_init_9 (fun H locs hV => ?_)
    refine lv_aload_n hx hb d_Gr_init_12 rfl (lv_at hl 0 rfl) ?_
    refine lv_bipush (v := 36) hx hb d_Gr_init_13 bp_36 ?_
    refine k_newI X hV (N := 36) (by decide) (by decide) rfl rfl rfl d_Gr_init_15 (fun u2 H hV => ?_)
    have hV : kV D (va_A [(h, .inr (1, [.null, .null, .null, .int 0, .int 0]))] s.heap.size) s [(h, .inr (1, [.ref u1, .null, .null, .int 0, .int 0])), (u1, .inl (kI D, 36, .inl (fun _ => 0))), (u2, .inl (kI D, 36, .inl (fun _ => 0)))] H _ := hV
    refine k_putF (ws' := [(h, .inr (1, [.ref u1, .ref u2, .null, .int 0, .int 0])), (u1, .inl (kI D, 36, .inl (fun _ => 0))), (u2, .inl (kI D, 36, .inl (fun _ => 0)))]) X hV hin2 0 1 1 rfl rfl rfl gw_48 rfl rfl rfl rfl rfl rfl rfl rfl d_Gr_init_17 (fun H locs hV => ?_)
    refine lv_aload_n hx hb d_Gr_init_20 rfl (lv_at hl 0 rfl) ?_
    refine lv_bipush (v := 36) hx hb d_Gr_init_21 bp_36 ?_
    refine k_newI X hV (N := 36) (by decide) (by decide) rfl rfl rfl d_Gr_init_23 (fun u3 H hV => ?_)
    have hV : kV D (va_A [(h, .inr (1, [.null, .null, .null, .int 0, .int 0]))] s.heap.size) s [(h, .inr (1, [.ref u1, .ref u2, .null, .int 0, .int 0])), (u1, .inl (kI D, 36, .inl (fun _ => 0))), (u2, .inl (kI D, 36, .inl (fun _ => 0))), (u3, .inl (kI D, 36, .inl (fun _ => 0)))] H _ := hV
    refine k_putF (ws' := [(h, .inr (1, [.ref u1, .ref u2, .ref u3, .int 0, .int 0])), (u1, .inl (kI D, 36, .inl (fun _ => 0))), (u2, .inl (kI D, 36, .inl (fun _ => 0))), (u3, .inl (kI D, 36, .inl (fun _ => 0)))]) X hV hin2 0 1 2 rfl rfl rfl gw_51 rfl rfl rfl rfl rfl rfl rfl rfl d_Gr_init_25 (fun H locs hV => ?_)
    refine lv_aload_n hx hb d_Gr_init_28 rfl (lv_at hl 0 rfl) ?_
    refine lv_bipush (v := 14) hx hb d_Gr_init_29 bp_14 ?_
    refine k_putv (ty := .int) (ws' := [(h, .inr (1, [.ref u1, .ref u2, .ref u3, .int 14, .int 0])), (u1, .inl (kI D, 36, .inl (fun _ => 0))), (u2, .inl (kI D, 36, .inl (fun _ => 0))), (u3, .inl (kI D, 36, .inl (fun _ => 0)))]) X hV 0 1 3 rfl rfl rfl gw_53 rfl rfl rfl rfl rfl rfl rfl d_Gr_init_31 (fun H locs hV => ?_)
    refine lv_aload_n hx hb d_Gr_init_34 rfl (lv_at hl 0 rfl) ?_
    refine lv_bipush (v := 99) hx hb d_Gr_init_35 bp_99 ?_
    refine k_putv (ty := .int) (ws' := [(h, .inr (1, [.ref u1, .ref u2, .ref u3, .int 14, .int 99])), (u1, .inl (kI D, 36, .inl (fun _ => 0))), (u2, .inl (kI D, 36, .inl (fun _ => 0))), (u3, .inl (kI D, 36, .inl (fun _ => 0)))]) X hV 0 1 4 rfl rfl rfl gw_57 rfl rfl rfl rfl rfl rfl rfl d_Gr_init_37 (fun H locs hV => ?_)
    refine t_Gr_init (Qf := _) X (fun H locs ls hV hsz => ?_) g0_Gr_init_eq (H := H) (locs := locs) hV hl
    have hV : kV D (va_A [(h, .inr (1, [.null, .null, .null, .int 0, .int 0]))] s.heap.size) s [(h, .inr (1, [.ref u1, .ref u2, .ref u3, .int 14, .int 99])), (u1, .inl (kI D, 36, .inl g0_Gr_init.1)), (u2, .inl (kI D, 36, .inl g0_Gr_init.2)), (u3, .inl (kI D, 36, .inl (fun _ => 0)))] H _ := hV
    exact k_cret X (u1, u2, u3) hV d_Gr_init_112)
noncomputable abbrev e1_Fa_init (D : kD) (u : Nat × Nat × Nat × Nat) : va_E := .inr (0, [.ref u.1, .ref u.2.1, .ref u.2.2.1, .ref u.2.2.2, .int 0, .int 0])
noncomputable abbrev nw_Fa_init (D : kD) (u : Nat × Nat × Nat × Nat) : va_W := [(u.1, .inl (kI D, 12, .inl (fun _ => 0))), (u.2.1, .inl (kI D, 12, .inl (fun _ => 0))), (u.2.2.1, .inl (kI D, 12, .inl (fun _ => 0))), (u.2.2.2, .inl (kI D, 12, .inl (fun _ => 0)))]
theorem fc_Fa_init : kFc y_Fa_init b_Fa_init 1 := ⟨⟨gw_76, gw_5, by decide, by decide, by decide +kernel⟩, gw_75, rfl⟩
set_option maxHeartbeats 2000000 in
set_option maxRecDepth 20000 in
theorem c_Fa_init {l : Launch} (D : kD) (h : Nat) : kMc (S := Nat × Nat × Nat × Nat) l D none y_Fa_init b_Fa_init 1 { frames := 2, cells := 4, slots := 48, locals := 60 } h (.inr (0, [.null, .null, .null, .null, .int 0, .int 0])) (fun u => (h, e1_Fa_init D u) :: nw_Fa_init D u) :=
  kMc_of (own := "MountainFarms$Farms") (plainFor_of_name (by decide)) rfl rfl rfl (fun p e s m args below meth c ls X hin2 hO hV hl => by
    obtain ⟨hx, hb, -⟩ := id X
    have hl : lv_has ls 1 [(0, .ref h)] := hl
    refine lv_aload_n hx hb d_Fa_init_0 rfl (lv_at hl 0 rfl) ?_
    refine k_oinit X hl.1 gw_77 rfl rfl d_Fa_init_1 ?_
    refine lv_aload_n hx hb d_Fa_init_4 rfl (lv_at hl 0 rfl) ?_
    refine lv_bipush (v := 12) hx hb d_Fa_init_5 bp_12 ?_
    refine k_newI X hV (N := 12) (by decide) (by decide) rfl rfl rfl d_Fa_init_7 (fun u1 H hV => ?_)
    have hV : kV D (va_A [(h, .inr (0, [.null, .null, .null, .null, .int 0, .int 0]))] s.heap.size) s [(h, .inr (0, [.null, .null, .null, .null, .int 0, .int 0])), (u1, .inl (kI D, 12, .inl (fun _ => 0)))] H _ := hV
    refine k_putF (ws' := [(h, .inr (0, [.ref u1, .null, .null, .null, .int 0, .int 0])), (u1, .inl (kI D, 12, .inl (fun _ => 0)))]) X hV hin2 0 0 0 rfl rfl rfl gw_78 rfl rfl rfl rfl rfl rfl rfl rfl d_Fa_init_9 (fun H locs hV => ?_)
    refine lv_aload_n hx hb d_Fa_init_12 rfl (lv_at hl 0 rfl) ?_
    refine lv_bipush (v := 12) hx hb d_Fa_init_13 bp_12 ?_
    refine k_newI X hV (N := 12) (by decide) (by decide) rfl rfl rfl d_Fa_init_15 (fun u2 H hV => ?_)
    have hV : kV D (va_A [(h, .inr (0, [.null, .null, .null, .null, .int 0, .int 0]))] s.heap.size) s [(h, .inr (0, [.ref u1, .null, .null, .null, .int 0, .int 0])), (u1, .inl (kI D, 12, .inl (fun _ => 0))), (u2, .inl (kI D, 12, .inl (fun _ => 0)))] H _ := hV
    refine k_putF (ws' := [(h, .inr (0, [.ref u1, .ref u2, .null, .null, .int 0, .int 0])), (u1, .inl (kI D, 12, .inl (fun _ => 0))), (u2, .inl (kI D, 12, .inl (fun _ => 0)))]) X hV hin2 0 0 1 rfl rfl rfl gw_80 rfl rfl rfl rfl rfl rfl rfl rfl d_Fa_init_17 (fun H locs hV => ?_)
    refine lv_aload_n hx hb d_Fa_init_20 rfl (lv_at hl 0 rfl) ?_
    refine lv_bipush (v := 12) hx hb d_Fa_init_21 bp_12 ?_
    refine k_newI X hV (N := 12) (by decide) (by decide) rfl rfl rfl d_Fa_init_23 (fun u3 H hV => ?_)
    have hV : kV D (va_A [(h, .inr (0, [.null, .null, .null, .null, .int 0, .int 0]))] s.heap.size) s [(h, .inr (0, [.ref u1, .ref u2, .null, .null, .int 0, .int 0])), (u1, .inl (kI D, 12, .inl (fun _ => 0))), (u2, .inl (kI D, 12, .inl (fun _ => 0))), (u3, .inl (kI D, 12, .inl (fun _ => 0)))] H _ := hV
    refine k_putF (ws' := [(h, .inr (0, [.ref u1, .ref u2, .ref u3, .null, .int 0, .int 0])), (u1, .inl (kI D, 12, .inl (fun _ => 0))), (u2, .inl (kI D, 12, .inl (fun _ => 0))), (u3, .inl (kI D, 12, .inl (fun _ => 0)))]) X hV hin2 0 0 2 rfl rfl rfl gw_82 rfl rfl rfl rfl rfl rfl rfl rfl d_Fa_init_25 (fun H locs hV => ?_)
    refine lv_aload_n hx hb d_Fa_init_28 rfl (lv_at hl 0 rfl) ?_
    refine lv_bipush (v := 12) hx hb d_Fa_init_29 bp_12 ?_
    refine k_newI X hV (N := 12) (by decide) (by decide) rfl rfl rfl d_Fa_init_31 (fun u4 H hV => ?_)
    have hV : kV D (va_A [(h, .inr (0, [.null, .null, .null, .null, .int 0, .int 0]))] s.heap.size) s [(h, .inr (0, [.ref u1, .ref u2, .ref u3, .null, .int 0, .int 0])), (u1, .inl (kI D, 12, .inl (fun _ => 0))), (u2, .inl (kI D, 12, .inl (fun _ => 0))), (u3, .inl (kI D, 12, .inl (fun _ => 0))), (u4, .inl (kI D, 12, .inl (fun _ => 0)))] H _ := hV
    refine k_putF (ws' := [(h, .inr (0, [.ref u1, .ref u2, .ref u3, .ref u4, .int 0, .int 0])), (u1, .inl (kI D, 12, .inl (fun _ => 0))), (u2, .inl (kI D, 12, .inl (fun _ => 0))), (u3, .inl (kI D, 12, .inl (fun _ => 0))), (u4, .inl (kI D, 12, .inl (fun _ => 0)))]) X hV hin2 0 0 3 rfl rfl rfl gw_84 rfl rfl rfl rfl rfl rfl rfl rfl d_Fa_init_33 (fun H locs hV => ?_)
    refine lv_aload_n hx hb d_Fa_init_36 rfl (lv_at hl 0 rfl) ?_
    refine lv_iconst (v := 0) hx hb d_Fa_init_37 ic_0 ?_
    refine k_putv (ty := .int) (ws' := [(h, .inr (0, [.ref u1, .ref u2, .ref u3, .ref u4, .int 0, .int 0])), (u1, .inl (kI D, 12, .inl (fun _ => 0))), (u2, .inl (kI D, 12, .inl (fun _ => 0))), (u3, .inl (kI D, 12, .inl (fun _ => 0))), (u4, .inl (kI D, 12, .inl (fun _ => 0)))]) X hV 0 0 4 rfl rfl rfl gw_86 rfl rfl rfl rfl rfl rfl rfl d_Fa_init_38 (fun H locs hV => ?_)
    refine lv_aload_n hx hb d_Fa_init_41 rfl (lv_at hl 0 rfl) ?_
    refine lv_iconst (v := 0) hx hb d_Fa_init_42 ic_0 ?_
    refine k_putv (ty := .int) (ws' := [(h, .inr (0, [.ref u1, .ref u2, .ref u3, .ref u4, .int 0, .int 0])), (u1, .inl (kI D, 12, .inl (fun _ => 0))), (u2, .inl (kI D, 12, .inl (fun _ => 0))), (u3, .inl (kI D, 12, .inl (fun _ => 0))), (u4, .inl (kI D, 12, .inl (fun _ => 0)))]) X hV 0 0 5 rfl rfl rfl gw_88 rfl rfl rfl rfl rfl rfl rfl d_Fa_init_43 (fun H locs hV => ?_)
    exact k_cret X (u1, u2, u3, u4) hV d_Fa_init_46)
noncomputable def g0_Mo_init : (Nat → Int32) × (Nat → Int32) := (f_Mo_init (fun _ => 0) (fun _ => 0)).getD (fun _ => 0, fun _ => 0)
theorem g0_Mo_init_eq : f_Mo_init (fun _ => 0) (fun _ => 0) = some g0_Mo_init := by
  have h : (f_Mo_init (fun _ => 0) (fun _ => 0)).isSome = true := by decide +kernel
  unfold g0_Mo_init
  cases hq : f_Mo_init (fun _ => 0) (fun _ => 0) with
  | none => rw [hq] at h; cases h
  | some v => rfl
noncomputable abbrev e1_Mo_init (D : kD) (u : Nat × Nat × Nat) : va_E := .inr (2, [.ref u.1, .ref u.2.1, .ref u.2.2, .int 0, .int 0, .int 1])
noncomputable abbrev nw_Mo_init (D : kD) (u : Nat × Nat × Nat) : va_W := [(u.1, .inl (kI D, 16, .inl g0_Mo_init.1)), (u.2.1, .inl (kI D, 16, .inl g0_Mo_init.2)), (u.2.2, .inl (kI D, 6, .inl (fun _ => 0)))]
theorem fc_Mo_init : kFc y_Mo_init b_Mo_init 3 := ⟨⟨gw_108, gw_6, by decide, by decide, by decide +kernel⟩, gw_107, rfl⟩
set_option maxHeartbeats 2000000 in
set_option maxRecDepth 20000 in
theorem c_Mo_init {l : Launch} (D : kD) (h : Nat) : kMc (S := Nat × Nat × Nat) l D none y_Mo_init b_Mo_init 3 { frames := 2, cells := 3, slots := 38, locals := 60 } h (.inr (2, [.null, .null, .null, .int 0, .int 0, .int 0])) (fun u => (h, e1_Mo_init D u) :: nw_Mo_init D u) :=
  kMc_of (own := "MountainFarms$Mountain") (plainFor_of_name (by decide)) rfl rfl rfl (fun p e s m args below meth c ls X hin2 hO hV hl => by
    obtain ⟨hx, hb, -⟩ := id X
    have hl : lv_has ls 3 [(0, .ref h)] := hl
    refine lv_aload_n hx hb d_Mo_init_0 rfl (lv_at hl 0 rfl) ?_
    refine k_oinit X hl.1 gw_109 rfl rfl d_Mo_init_1 ?_
    refine lv_aload_n hx hb d_Mo_init_4 rfl (lv_at hl 0 rfl) ?_
    refine lv_bipush (v := 16) hx hb d_Mo_init_5 bp_16 ?_
    refine k_newI X hV (N := 16) (by decide) (by decide) rfl rfl rfl d_Mo_init_7 (fun u1 H hV => ?_)
    have hV : kV D (va_A [(h, .inr (2, [.null, .null, .null, .int 0, .int 0, .int 0]))] s.heap.size) s [(h, .inr (2, [.null, .null, .null, .int 0, .int 0, .int 0])), (u1, .inl (kI D, 16, .inl (fun _ => 0)))] H _ := hV
    refine k_putF (ws' := [(h, .inr (2, [.ref u1, .null, .null, .int 0, .int 0, .int 0])), (u1, .inl (kI D, 16, .inl (fun _ => 0)))]) X hV hin2 0 2 0 rfl rfl rfl gw_110 rfl rfl rfl rfl rfl rfl rfl rfl d_Mo_init_9 (fun H locs hV => ?_)
    refine lv_aload_n hx hb d_Mo_init_12 rfl (lv_at hl 0 rfl) ?_
    refine lv_bipush (v := 16) hx hb d_Mo_init_13 bp_16 ?_
    refine k_newI X hV (N := 16) (by decide) (by decide) rfl rfl rfl d_Mo_init_15 (fun u2 H hV => ?_)
    have hV : kV D (va_A [(h, .inr (2, [.null, .null, .null, .int 0, .int 0, .int 0]))] s.heap.size) s [(h, .inr (2, [.ref u1, .null, .null, .int 0, .int 0, .int 0])), (u1, .inl (kI D, 16, .inl (fun _ => 0))), (u2, .inl (kI D, 16, .inl (fun _ => 0)))] H _ := hV
    refine k_putF (ws' := [(h, .inr (2, [.ref u1, .ref u2, .null, .int 0, .int 0, .int 0])), (u1, .inl (kI D, 16, .inl (fun _ => 0))), (u2, .inl (kI D, 16, .inl (fun _ => 0)))]) X hV hin2 0 2 1 rfl rfl rfl gw_111 rfl rfl rfl rfl rfl rfl rfl rfl d_Mo_init_17 (fun H locs hV => ?_)
    refine lv_aload_n hx hb d_Mo_init_20 rfl (lv_at hl 0 rfl) ?_
    refine lv_bipush (v := 6) hx hb d_Mo_init_21 bp_6 ?_
    refine k_newI X hV (N := 6) (by decide) (by decide) rfl rfl rfl d_Mo_init_23 (fun u3 H hV => ?_)
    have hV : kV D (va_A [(h, .inr (2, [.null, .null, .null, .int 0, .int 0, .int 0]))] s.heap.size) s [(h, .inr (2, [.ref u1, .ref u2, .null, .int 0, .int 0, .int 0])), (u1, .inl (kI D, 16, .inl (fun _ => 0))), (u2, .inl (kI D, 16, .inl (fun _ => 0))), (u3, .inl (kI D, 6, .inl (fun _ => 0)))] H _ := hV
    refine k_putF (ws' := [(h, .inr (2, [.ref u1, .ref u2, .ref u3, .int 0, .int 0, .int 0])), (u1, .inl (kI D, 16, .inl (fun _ => 0))), (u2, .inl (kI D, 16, .inl (fun _ => 0))), (u3, .inl (kI D, 6, .inl (fun _ => 0)))]) X hV hin2 0 2 2 rfl rfl rfl gw_112 rfl rfl rfl rfl rfl rfl rfl rfl d_Mo_init_25 (fun H locs hV => ?_)
    refine lv_aload_n hx hb d_Mo_init_28 rfl (lv_at hl 0 rfl) ?_
    refine lv_iconst (v := 0) hx hb d_Mo_init_29 ic_0 ?_
    refine k_putv (ty := .int) (ws' := [(h, .inr (2, [.ref u1, .ref u2, .ref u3, .int 0, .int 0, .int 0])), (u1, .inl (kI D, 16, .inl (fun _ => 0))), (u2, .inl (kI D, 16, .inl (fun _ => 0))), (u3, .inl (kI D, 6, .inl (fun _ => 0)))]) X hV 0 2 3 rfl rfl rfl gw_114 rfl rfl rfl rfl rfl rfl rfl d_Mo_init_30 (fun H locs hV => ?_)
    refine lv_aload_n hx hb d_Mo_init_33 rfl (lv_at hl 0 rfl) ?_
    refine lv_iconst (v := 0) hx hb d_Mo_init_34 ic_0 ?_
    refine k_putv (ty := .int) (ws' := [(h, .inr (2, [.ref u1, .ref u2, .ref u3, .int 0, .int 0, .int 0])), (u1, .inl (kI D, 16, .inl (fun _ => 0))), (u2, .inl (kI D, 16, .inl (fun _ => 0))), (u3, .inl (kI D, 6, .inl (fun _ => 0)))]) X hV 0 2 4 rfl rfl rfl gw_118 rfl rfl rfl rfl rfl rfl rfl d_Mo_init_35 (fun H locs hV => ?_)
    refine lv_aload_n hx hb d_Mo_init_38 rfl (lv_at hl 0 rfl) ?_
    refine lv_iconst (v := 1) hx hb d_Mo_init_39 ic_1 ?_
    refine k_putv (ty := .int) (ws' := [(h, .inr (2, [.ref u1, .ref u2, .ref u3, .int 0, .int 0, .int 1])), (u1, .inl (kI D, 16, .inl (fun _ => 0))), (u2, .inl (kI D, 16, .inl (fun _ => 0))), (u3, .inl (kI D, 6, .inl (fun _ => 0)))]) X hV 0 2 5 rfl rfl rfl gw_120 rfl rfl rfl rfl rfl rfl rfl d_Mo_init_40 (fun H locs hV => ?_)
    refine t_Mo_init (Qf := _) X (fun H locs ls hV hsz => ?_) g0_Mo_init_eq (H := H) (locs := locs) hV hl
    have hV : kV D (va_A [(h, .inr (2, [.null, .null, .null, .int 0, .int 0, .int 0]))] s.heap.size) s [(h, .inr (2, [.ref u1, .ref u2, .ref u3, .int 0, .int 0, .int 1])), (u1, .inl (kI D, 16, .inl g0_Mo_init.1)), (u2, .inl (kI D, 16, .inl g0_Mo_init.2)), (u3, .inl (kI D, 6, .inl (fun _ => 0)))] H _ := hV
    exact k_cret X (u1, u2, u3) hV d_Mo_init_117)
noncomputable abbrev e1_Sl_init (D : kD) (u : Nat × Nat × Nat × Nat × Nat × Nat × Nat × Nat × Nat × Nat × Nat × Nat × Nat) : va_E := .inr (5, [.ref u.1, .ref u.2.2.2.2.1, .ref u.2.2.2.2.2.2.2.2.2.1, .int 0, .int 12, .int 0, .int 0, .int 0, .int 0])
noncomputable abbrev nw_Sl_init (D : kD) (u : Nat × Nat × Nat × Nat × Nat × Nat × Nat × Nat × Nat × Nat × Nat × Nat × Nat) : va_W := [(u.1, .inr (1, [.ref u.2.1, .ref u.2.2.1, .ref u.2.2.2.1, .int 14, .int 99])), (u.2.1, .inl (kI D, 36, .inl g0_Gr_init.1)), (u.2.2.1, .inl (kI D, 36, .inl g0_Gr_init.2)), (u.2.2.2.1, .inl (kI D, 36, .inl (fun _ => 0))), (u.2.2.2.2.1, .inr (0, [.ref u.2.2.2.2.2.1, .ref u.2.2.2.2.2.2.1, .ref u.2.2.2.2.2.2.2.1, .ref u.2.2.2.2.2.2.2.2.1, .int 0, .int 0])), (u.2.2.2.2.2.1, .inl (kI D, 12, .inl (fun _ => 0))), (u.2.2.2.2.2.2.1, .inl (kI D, 12, .inl (fun _ => 0))), (u.2.2.2.2.2.2.2.1, .inl (kI D, 12, .inl (fun _ => 0))), (u.2.2.2.2.2.2.2.2.1, .inl (kI D, 12, .inl (fun _ => 0))), (u.2.2.2.2.2.2.2.2.2.1, .inr (2, [.ref u.2.2.2.2.2.2.2.2.2.2.1, .ref u.2.2.2.2.2.2.2.2.2.2.2.1, .ref u.2.2.2.2.2.2.2.2.2.2.2.2, .int 0, .int 0, .int 1])), (u.2.2.2.2.2.2.2.2.2.2.1, .inl (kI D, 16, .inl g0_Mo_init.1)), (u.2.2.2.2.2.2.2.2.2.2.2.1, .inl (kI D, 16, .inl g0_Mo_init.2)), (u.2.2.2.2.2.2.2.2.2.2.2.2, .inl (kI D, 6, .inl (fun _ => 0)))]
theorem fc_Sl_init : kFc y_Sl_init b_Sl_init 1 := ⟨⟨gw_31, gw_2, by decide, by decide, by decide +kernel⟩, gw_30, rfl⟩
set_option maxHeartbeats 2000000 in
set_option maxRecDepth 20000 in
theorem c_Sl_init {l : Launch} (D : kD) (h : Nat) : kMc (S := Nat × Nat × Nat × Nat × Nat × Nat × Nat × Nat × Nat × Nat × Nat × Nat × Nat) l D none y_Sl_init b_Sl_init 1 { frames := 3, cells := 13, slots := 211, locals := 100 } h (.inr (5, [.null, .null, .null, .int 0, .int 0, .int 0, .int 0, .int 0, .int 0])) (fun u => (h, e1_Sl_init D u) :: nw_Sl_init D u) :=
  kMc_of (own := "MountainFarms$Slope") (plainFor_of_name (by decide)) rfl rfl rfl (fun p e s m args below meth c ls X hin2 hO hV hl => by
    obtain ⟨hx, hb, -⟩ := id X
    have hl : lv_has ls 1 [(0, .ref h)] := hl
    refine lv_aload_n hx hb d_Sl_init_0 rfl (lv_at hl 0 rfl) ?_
    refine k_oinit X hl.1 gw_32 rfl rfl d_Sl_init_1 ?_
    refine lv_aload_n hx hb d_Sl_init_4 rfl (lv_at hl 0 rfl) ?_
    refine k_newC X hV inl_Gr ty_Gr tyok_Gr gw_33 gw_34 gw_3 1 rfl (fs := [.null, .null, .null, .int 0, .int 0]) dv_Gr rfl rfl d_Sl_init_5 (fun u1 H hV => ?_)
    have hV : kV D (va_A [(h, .inr (5, [.null, .null, .null, .int 0, .int 0, .int 0, .int 0, .int 0, .int 0]))] s.heap.size) s [(h, .inr (5, [.null, .null, .null, .int 0, .int 0, .int 0, .int 0, .int 0, .int 0])), (u1, .inr (1, [.null, .null, .null, .int 0, .int 0]))] H _ := hV
    refine lv_dup hx hb d_Sl_init_8 rfl ?_
    refine k_ci X hV hl.1 (o := none) trivial (c_Gr_init D u1) fc_Gr_init gw_35 rfl 1 rfl rfl d_Sl_init_9 (fun u H locs hV => ?_)
    obtain ⟨u2, u3, u4⟩ := u
    have hV : kV D (va_A [(h, .inr (5, [.null, .null, .null, .int 0, .int 0, .int 0, .int 0, .int 0, .int 0]))] s.heap.size) s [(h, .inr (5, [.null, .null, .null, .int 0, .int 0, .int 0, .int 0, .int 0, .int 0])), (u1, .inr (1, [.ref u2, .ref u3, .ref u4, .int 14, .int 99])), (u2, .inl (kI D, 36, .inl g0_Gr_init.1)), (u3, .inl (kI D, 36, .inl g0_Gr_init.2)), (u4, .inl (kI D, 36, .inl (fun _ => 0)))] H _ := hV
    refine k_putF (ws' := [(h, .inr (5, [.ref u1, .null, .null, .int 0, .int 0, .int 0, .int 0, .int 0, .int 0])), (u1, .inr (1, [.ref u2, .ref u3, .ref u4, .int 14, .int 99])), (u2, .inl (kI D, 36, .inl g0_Gr_init.1)), (u3, .inl (kI D, 36, .inl g0_Gr_init.2)), (u4, .inl (kI D, 36, .inl (fun _ => 0)))]) X hV hin2 0 5 0 rfl rfl rfl gw_135 rfl rfl rfl rfl rfl rfl rfl rfl d_Sl_init_12 (fun H locs hV => ?_)
    refine lv_aload_n hx hb d_Sl_init_15 rfl (lv_at hl 0 rfl) ?_
    refine k_newC X hV inl_Fa ty_Fa tyok_Fa gw_72 gw_73 gw_5 0 rfl (fs := [.null, .null, .null, .null, .int 0, .int 0]) dv_Fa rfl rfl d_Sl_init_16 (fun u5 H hV => ?_)
    have hV : kV D (va_A [(h, .inr (5, [.null, .null, .null, .int 0, .int 0, .int 0, .int 0, .int 0, .int 0]))] s.heap.size) s [(h, .inr (5, [.ref u1, .null, .null, .int 0, .int 0, .int 0, .int 0, .int 0, .int 0])), (u1, .inr (1, [.ref u2, .ref u3, .ref u4, .int 14, .int 99])), (u2, .inl (kI D, 36, .inl g0_Gr_init.1)), (u3, .inl (kI D, 36, .inl g0_Gr_init.2)), (u4, .inl (kI D, 36, .inl (fun _ => 0))), (u5, .inr (0, [.null, .null, .null, .null, .int 0, .int 0]))] H _ := hV
    refine lv_dup hx hb d_Sl_init_19 rfl ?_
    refine k_cin X hV hl.1 (o := none) trivial (c_Fa_init D u5) fc_Fa_init nw_1 rfl 5 rfl rfl d_Sl_init_20 (fun u H locs hV => ?_)
    obtain ⟨u6, u7, u8, u9⟩ := u
    have hV : kV D (va_A [(h, .inr (5, [.null, .null, .null, .int 0, .int 0, .int 0, .int 0, .int 0, .int 0]))] s.heap.size) s [(h, .inr (5, [.ref u1, .null, .null, .int 0, .int 0, .int 0, .int 0, .int 0, .int 0])), (u1, .inr (1, [.ref u2, .ref u3, .ref u4, .int 14, .int 99])), (u2, .inl (kI D, 36, .inl g0_Gr_init.1)), (u3, .inl (kI D, 36, .inl g0_Gr_init.2)), (u4, .inl (kI D, 36, .inl (fun _ => 0))), (u5, .inr (0, [.ref u6, .ref u7, .ref u8, .ref u9, .int 0, .int 0])), (u6, .inl (kI D, 12, .inl (fun _ => 0))), (u7, .inl (kI D, 12, .inl (fun _ => 0))), (u8, .inl (kI D, 12, .inl (fun _ => 0))), (u9, .inl (kI D, 12, .inl (fun _ => 0)))] H _ := hV
    refine k_putF (ws' := [(h, .inr (5, [.ref u1, .ref u5, .null, .int 0, .int 0, .int 0, .int 0, .int 0, .int 0])), (u1, .inr (1, [.ref u2, .ref u3, .ref u4, .int 14, .int 99])), (u2, .inl (kI D, 36, .inl g0_Gr_init.1)), (u3, .inl (kI D, 36, .inl g0_Gr_init.2)), (u4, .inl (kI D, 36, .inl (fun _ => 0))), (u5, .inr (0, [.ref u6, .ref u7, .ref u8, .ref u9, .int 0, .int 0])), (u6, .inl (kI D, 12, .inl (fun _ => 0))), (u7, .inl (kI D, 12, .inl (fun _ => 0))), (u8, .inl (kI D, 12, .inl (fun _ => 0))), (u9, .inl (kI D, 12, .inl (fun _ => 0)))]) X hV hin2 0 5 1 rfl rfl rfl gw_138 rfl rfl rfl rfl rfl rfl rfl rfl d_Sl_init_23 (fun H locs hV => ?_)
    refine lv_aload_n hx hb d_Sl_init_26 rfl (lv_at hl 0 rfl) ?_
    refine k_newC X hV inl_Mo ty_Mo tyok_Mo gw_104 gw_105 gw_6 2 rfl (fs := [.null, .null, .null, .int 0, .int 0, .int 0]) dv_Mo rfl rfl d_Sl_init_27 (fun u10 H hV => ?_)
    have hV : kV D (va_A [(h, .inr (5, [.null, .null, .null, .int 0, .int 0, .int 0, .int 0, .int 0, .int 0]))] s.heap.size) s [(h, .inr (5, [.ref u1, .ref u5, .null, .int 0, .int 0, .int 0, .int 0, .int 0, .int 0])), (u1, .inr (1, [.ref u2, .ref u3, .ref u4, .int 14, .int 99])), (u2, .inl (kI D, 36, .inl g0_Gr_init.1)), (u3, .inl (kI D, 36, .inl g0_Gr_init.2)), (u4, .inl (kI D, 36, .inl (fun _ => 0))), (u5, .inr (0, [.ref u6, .ref u7, .ref u8, .ref u9, .int 0, .int 0])), (u6, .inl (kI D, 12, .inl (fun _ => 0))), (u7, .inl (kI D, 12, .inl (fun _ => 0))), (u8, .inl (kI D, 12, .inl (fun _ => 0))), (u9, .inl (kI D, 12, .inl (fun _ => 0))), (u10, .inr (2, [.null, .null, .null, .int 0, .int 0, .int 0]))] H _ := hV
    refine lv_dup hx hb d_Sl_init_30 rfl ?_
    refine k_ci X hV hl.1 (o := none) trivial (c_Mo_init D u10) fc_Mo_init gw_106 rfl 10 rfl rfl d_Sl_init_31 (fun u H locs hV => ?_)
    obtain ⟨u11, u12, u13⟩ := u
    have hV : kV D (va_A [(h, .inr (5, [.null, .null, .null, .int 0, .int 0, .int 0, .int 0, .int 0, .int 0]))] s.heap.size) s [(h, .inr (5, [.ref u1, .ref u5, .null, .int 0, .int 0, .int 0, .int 0, .int 0, .int 0])), (u1, .inr (1, [.ref u2, .ref u3, .ref u4, .int 14, .int 99])), (u2, .inl (kI D, 36, .inl g0_Gr_init.1)), (u3, .inl (kI D, 36, .inl g0_Gr_init.2)), (u4, .inl (kI D, 36, .inl (fun _ => 0))), (u5, .inr (0, [.ref u6, .ref u7, .ref u8, .ref u9, .int 0, .int 0])), (u6, .inl (kI D, 12, .inl (fun _ => 0))), (u7, .inl (kI D, 12, .inl (fun _ => 0))), (u8, .inl (kI D, 12, .inl (fun _ => 0))), (u9, .inl (kI D, 12, .inl (fun _ => 0))), (u10, .inr (2, [.ref u11, .ref u12, .ref u13, .int 0, .int 0, .int 1])), (u11, .inl (kI D, 16, .inl g0_Mo_init.1)), (u12, .inl (kI D, 16, .inl g0_Mo_init.2)), (u13, .inl (kI D, 6, .inl (fun _ => 0)))] H _ := hV
    refine k_putF (ws' := [(h, .inr (5, [.ref u1, .ref u5, .ref u10, .int 0, .int 0, .int 0, .int 0, .int 0, .int 0])), (u1, .inr (1, [.ref u2, .ref u3, .ref u4, .int 14, .int 99])), (u2, .inl (kI D, 36, .inl g0_Gr_init.1)), (u3, .inl (kI D, 36, .inl g0_Gr_init.2)), (u4, .inl (kI D, 36, .inl (fun _ => 0))), (u5, .inr (0, [.ref u6, .ref u7, .ref u8, .ref u9, .int 0, .int 0])), (u6, .inl (kI D, 12, .inl (fun _ => 0))), (u7, .inl (kI D, 12, .inl (fun _ => 0))), (u8, .inl (kI D, 12, .inl (fun _ => 0))), (u9, .inl (kI D, 12, .inl (fun _ => 0))), (u10, .inr (2, [.ref u11, .ref u12, .ref u13, .int 0, .int 0, .int 1])), (u11, .inl (kI D, 16, .inl g0_Mo_init.1)), (u12, .inl (kI D, 16, .inl g0_Mo_init.2)), (u13, .inl (kI D, 6, .inl (fun _ => 0)))]) X hV hin2 0 5 2 rfl rfl rfl gw_141 rfl rfl rfl rfl rfl rfl rfl rfl d_Sl_init_34 (fun H locs hV => ?_)
    refine lv_aload_n hx hb d_Sl_init_37 rfl (lv_at hl 0 rfl) ?_
    refine lv_iconst (v := 0) hx hb d_Sl_init_38 ic_0 ?_
    refine k_putv (ty := .int) (ws' := [(h, .inr (5, [.ref u1, .ref u5, .ref u10, .int 0, .int 0, .int 0, .int 0, .int 0, .int 0])), (u1, .inr (1, [.ref u2, .ref u3, .ref u4, .int 14, .int 99])), (u2, .inl (kI D, 36, .inl g0_Gr_init.1)), (u3, .inl (kI D, 36, .inl g0_Gr_init.2)), (u4, .inl (kI D, 36, .inl (fun _ => 0))), (u5, .inr (0, [.ref u6, .ref u7, .ref u8, .ref u9, .int 0, .int 0])), (u6, .inl (kI D, 12, .inl (fun _ => 0))), (u7, .inl (kI D, 12, .inl (fun _ => 0))), (u8, .inl (kI D, 12, .inl (fun _ => 0))), (u9, .inl (kI D, 12, .inl (fun _ => 0))), (u10, .inr (2, [.ref u11, .ref u12, .ref u13, .int 0, .int 0, .int 1])), (u11, .inl (kI D, 16, .inl g0_Mo_init.1)), (u12, .inl (kI D, 16, .inl g0_Mo_init.2)), (u13, .inl (kI D, 6, .inl (fun _ => 0)))]) X hV 0 5 3 rfl rfl rfl gw_144 rfl rfl rfl rfl rfl rfl rfl d_Sl_init_39 (fun H locs hV => ?_)
    refine lv_aload_n hx hb d_Sl_init_42 rfl (lv_at hl 0 rfl) ?_
    refine lv_bipush (v := 12) hx hb d_Sl_init_43 bp_12 ?_
    refine k_putv (ty := .int) (ws' := [(h, .inr (5, [.ref u1, .ref u5, .ref u10, .int 0, .int 12, .int 0, .int 0, .int 0, .int 0])), (u1, .inr (1, [.ref u2, .ref u3, .ref u4, .int 14, .int 99])), (u2, .inl (kI D, 36, .inl g0_Gr_init.1)), (u3, .inl (kI D, 36, .inl g0_Gr_init.2)), (u4, .inl (kI D, 36, .inl (fun _ => 0))), (u5, .inr (0, [.ref u6, .ref u7, .ref u8, .ref u9, .int 0, .int 0])), (u6, .inl (kI D, 12, .inl (fun _ => 0))), (u7, .inl (kI D, 12, .inl (fun _ => 0))), (u8, .inl (kI D, 12, .inl (fun _ => 0))), (u9, .inl (kI D, 12, .inl (fun _ => 0))), (u10, .inr (2, [.ref u11, .ref u12, .ref u13, .int 0, .int 0, .int 1])), (u11, .inl (kI D, 16, .inl g0_Mo_init.1)), (u12, .inl (kI D, 16, .inl g0_Mo_init.2)), (u13, .inl (kI D, 6, .inl (fun _ => 0)))]) X hV 0 5 4 rfl rfl rfl gw_146 rfl rfl rfl rfl rfl rfl rfl d_Sl_init_45 (fun H locs hV => ?_)
    refine lv_aload_n hx hb d_Sl_init_48 rfl (lv_at hl 0 rfl) ?_
    refine lv_iconst (v := 0) hx hb d_Sl_init_49 ic_0 ?_
    refine k_putv (ty := .int) (ws' := [(h, .inr (5, [.ref u1, .ref u5, .ref u10, .int 0, .int 12, .int 0, .int 0, .int 0, .int 0])), (u1, .inr (1, [.ref u2, .ref u3, .ref u4, .int 14, .int 99])), (u2, .inl (kI D, 36, .inl g0_Gr_init.1)), (u3, .inl (kI D, 36, .inl g0_Gr_init.2)), (u4, .inl (kI D, 36, .inl (fun _ => 0))), (u5, .inr (0, [.ref u6, .ref u7, .ref u8, .ref u9, .int 0, .int 0])), (u6, .inl (kI D, 12, .inl (fun _ => 0))), (u7, .inl (kI D, 12, .inl (fun _ => 0))), (u8, .inl (kI D, 12, .inl (fun _ => 0))), (u9, .inl (kI D, 12, .inl (fun _ => 0))), (u10, .inr (2, [.ref u11, .ref u12, .ref u13, .int 0, .int 0, .int 1])), (u11, .inl (kI D, 16, .inl g0_Mo_init.1)), (u12, .inl (kI D, 16, .inl g0_Mo_init.2)), (u13, .inl (kI D, 6, .inl (fun _ => 0)))]) X hV 0 5 5 rfl rfl rfl gw_148 rfl rfl rfl rfl rfl rfl rfl d_Sl_init_50 (fun H locs hV => ?_)
    refine lv_aload_n hx hb d_Sl_init_53 rfl (lv_at hl 0 rfl) ?_
    refine lv_iconst (v := 0) hx hb d_Sl_init_54 ic_0 ?_
    refine k_putv (ty := .int) (ws' := [(h, .inr (5, [.ref u1, .ref u5, .ref u10, .int 0, .int 12, .int 0, .int 0, .int 0, .int 0])), (u1, .inr (1, [.ref u2, .ref u3, .ref u4, .int 14, .int 99])), (u2, .inl (kI D, 36, .inl g0_Gr_init.1)), (u3, .inl (kI D, 36, .inl g0_Gr_init.2)), (u4, .inl (kI D, 36, .inl (fun _ => 0))), (u5, .inr (0, [.ref u6, .ref u7, .ref u8, .ref u9, .int 0, .int 0])), (u6, .inl (kI D, 12, .inl (fun _ => 0))), (u7, .inl (kI D, 12, .inl (fun _ => 0))), (u8, .inl (kI D, 12, .inl (fun _ => 0))), (u9, .inl (kI D, 12, .inl (fun _ => 0))), (u10, .inr (2, [.ref u11, .ref u12, .ref u13, .int 0, .int 0, .int 1])), (u11, .inl (kI D, 16, .inl g0_Mo_init.1)), (u12, .inl (kI D, 16, .inl g0_Mo_init.2)), (u13, .inl (kI D, 6, .inl (fun _ => 0)))]) X hV 0 5 6 rfl rfl rfl gw_150 rfl rfl rfl rfl rfl rfl rfl d_Sl_init_55 (fun H locs hV => ?_)
    refine lv_aload_n hx hb d_Sl_init_58 rfl (lv_at hl 0 rfl) ?_
    refine lv_iconst (v := 0) hx hb d_Sl_init_59 ic_0 ?_
    refine k_putv (ty := .int) (ws' := [(h, .inr (5, [.ref u1, .ref u5, .ref u10, .int 0, .int 12, .int 0, .int 0, .int 0, .int 0])), (u1, .inr (1, [.ref u2, .ref u3, .ref u4, .int 14, .int 99])), (u2, .inl (kI D, 36, .inl g0_Gr_init.1)), (u3, .inl (kI D, 36, .inl g0_Gr_init.2)), (u4, .inl (kI D, 36, .inl (fun _ => 0))), (u5, .inr (0, [.ref u6, .ref u7, .ref u8, .ref u9, .int 0, .int 0])), (u6, .inl (kI D, 12, .inl (fun _ => 0))), (u7, .inl (kI D, 12, .inl (fun _ => 0))), (u8, .inl (kI D, 12, .inl (fun _ => 0))), (u9, .inl (kI D, 12, .inl (fun _ => 0))), (u10, .inr (2, [.ref u11, .ref u12, .ref u13, .int 0, .int 0, .int 1])), (u11, .inl (kI D, 16, .inl g0_Mo_init.1)), (u12, .inl (kI D, 16, .inl g0_Mo_init.2)), (u13, .inl (kI D, 6, .inl (fun _ => 0)))]) X hV 0 5 7 rfl rfl rfl gw_152 rfl rfl rfl rfl rfl rfl rfl d_Sl_init_60 (fun H locs hV => ?_)
    refine lv_aload_n hx hb d_Sl_init_63 rfl (lv_at hl 0 rfl) ?_
    refine lv_iconst (v := 0) hx hb d_Sl_init_64 ic_0 ?_
    refine k_putv (ty := .boolean) (ws' := [(h, .inr (5, [.ref u1, .ref u5, .ref u10, .int 0, .int 12, .int 0, .int 0, .int 0, .int 0])), (u1, .inr (1, [.ref u2, .ref u3, .ref u4, .int 14, .int 99])), (u2, .inl (kI D, 36, .inl g0_Gr_init.1)), (u3, .inl (kI D, 36, .inl g0_Gr_init.2)), (u4, .inl (kI D, 36, .inl (fun _ => 0))), (u5, .inr (0, [.ref u6, .ref u7, .ref u8, .ref u9, .int 0, .int 0])), (u6, .inl (kI D, 12, .inl (fun _ => 0))), (u7, .inl (kI D, 12, .inl (fun _ => 0))), (u8, .inl (kI D, 12, .inl (fun _ => 0))), (u9, .inl (kI D, 12, .inl (fun _ => 0))), (u10, .inr (2, [.ref u11, .ref u12, .ref u13, .int 0, .int 0, .int 1])), (u11, .inl (kI D, 16, .inl g0_Mo_init.1)), (u12, .inl (kI D, 16, .inl g0_Mo_init.2)), (u13, .inl (kI D, 6, .inl (fun _ => 0)))]) X hV 0 5 8 rfl rfl rfl gw_154 rfl rfl rfl rfl rfl rfl rfl d_Sl_init_65 (fun H locs hV => ?_)
    exact k_cret X (u1, u2, u3, u4, u5, u6, u7, u8, u9, u10, u11, u12, u13) hV d_Sl_init_68)
noncomputable abbrev e1_Pa_init (D : kD) (u : Nat × Nat) : va_E := .inr (3, [.ref u.1, .ref u.2])
noncomputable abbrev nw_Pa_init (D : kD) (u : Nat × Nat) : va_W := [(u.1, .inl (kJ D, 4, .inr (.inl (fun _ => 0)))), (u.2, .inl (kJ D, 4, .inr (.inl (fun _ => 0))))]
theorem fc_Pa_init : kFc y_Pa_init b_Pa_init 1 := ⟨⟨gw_179, gw_7, by decide, by decide, by decide +kernel⟩, gw_178, rfl⟩
set_option maxHeartbeats 2000000 in
set_option maxRecDepth 20000 in
theorem c_Pa_init {l : Launch} (D : kD) (h : Nat) : kMc (S := Nat × Nat) l D none y_Pa_init b_Pa_init 1 { frames := 2, cells := 2, slots := 8, locals := 60 } h (.inr (3, [.null, .null])) (fun u => (h, e1_Pa_init D u) :: nw_Pa_init D u) :=
  kMc_of (own := "MountainFarms$Parts") (plainFor_of_name (by decide)) rfl rfl rfl (fun p e s m args below meth c ls X hin2 hO hV hl => by
    obtain ⟨hx, hb, -⟩ := id X
    have hl : lv_has ls 1 [(0, .ref h)] := hl
    refine lv_aload_n hx hb d_Pa_init_0 rfl (lv_at hl 0 rfl) ?_
    refine k_oinit X hl.1 gw_180 rfl rfl d_Pa_init_1 ?_
    refine lv_aload_n hx hb d_Pa_init_4 rfl (lv_at hl 0 rfl) ?_
    refine lv_iconst (v := 4) hx hb d_Pa_init_5 ic_4 ?_
    refine k_newJ X hV (N := 4) (by decide) (by decide) rfl rfl rfl d_Pa_init_6 (fun u1 H hV => ?_)
    have hV : kV D (va_A [(h, .inr (3, [.null, .null]))] s.heap.size) s [(h, .inr (3, [.null, .null])), (u1, .inl (kJ D, 4, .inr (.inl (fun _ => 0))))] H _ := hV
    refine k_putF (ws' := [(h, .inr (3, [.ref u1, .null])), (u1, .inl (kJ D, 4, .inr (.inl (fun _ => 0))))]) X hV hin2 0 3 0 rfl rfl rfl gw_181 rfl rfl rfl rfl rfl rfl rfl rfl d_Pa_init_8 (fun H locs hV => ?_)
    refine lv_aload_n hx hb d_Pa_init_11 rfl (lv_at hl 0 rfl) ?_
    refine lv_iconst (v := 4) hx hb d_Pa_init_12 ic_4 ?_
    refine k_newJ X hV (N := 4) (by decide) (by decide) rfl rfl rfl d_Pa_init_13 (fun u2 H hV => ?_)
    have hV : kV D (va_A [(h, .inr (3, [.null, .null]))] s.heap.size) s [(h, .inr (3, [.ref u1, .null])), (u1, .inl (kJ D, 4, .inr (.inl (fun _ => 0)))), (u2, .inl (kJ D, 4, .inr (.inl (fun _ => 0))))] H _ := hV
    refine k_putF (ws' := [(h, .inr (3, [.ref u1, .ref u2])), (u1, .inl (kJ D, 4, .inr (.inl (fun _ => 0)))), (u2, .inl (kJ D, 4, .inr (.inl (fun _ => 0))))]) X hV hin2 0 3 1 rfl rfl rfl gw_183 rfl rfl rfl rfl rfl rfl rfl rfl d_Pa_init_15 (fun H locs hV => ?_)
    exact k_cret X (u1, u2) hV d_Pa_init_18)
noncomputable abbrev e1_Ta_init (D : kD) (u : Nat) : va_E := .inr (7, [.ref u, .int 0, .int 0, .int 0, .int 0, .int 0])
noncomputable abbrev nw_Ta_init (D : kD) (u : Nat) : va_W := [(u, .inl (kI D, 120, .inl (fun _ => 0)))]
theorem fc_Ta_init : kFc y_Ta_init b_Ta_init 1 := ⟨⟨gw_200, gw_9, by decide, by decide, by decide +kernel⟩, gw_199, rfl⟩
set_option maxHeartbeats 2000000 in
set_option maxRecDepth 20000 in
theorem c_Ta_init {l : Launch} (D : kD) (h : Nat) : kMc (S := Nat) l D none y_Ta_init b_Ta_init 1 { frames := 2, cells := 1, slots := 120, locals := 60 } h (.inr (7, [.null, .int 0, .int 0, .int 0, .int 0, .int 0])) (fun u => (h, e1_Ta_init D u) :: nw_Ta_init D u) :=
  kMc_of (own := "MountainFarms$Tape") (plainFor_of_name (by decide)) rfl rfl rfl (fun p e s m args below meth c ls X hin2 hO hV hl => by
    obtain ⟨hx, hb, -⟩ := id X
    have hl : lv_has ls 1 [(0, .ref h)] := hl
    refine lv_aload_n hx hb d_Ta_init_0 rfl (lv_at hl 0 rfl) ?_
    refine k_oinit X hl.1 gw_201 rfl rfl d_Ta_init_1 ?_
    refine lv_aload_n hx hb d_Ta_init_4 rfl (lv_at hl 0 rfl) ?_
    refine lv_bipush (v := 120) hx hb d_Ta_init_5 bp_120 ?_
    refine k_newI X hV (N := 120) (by decide) (by decide) rfl rfl rfl d_Ta_init_7 (fun u1 H hV => ?_)
    have hV : kV D (va_A [(h, .inr (7, [.null, .int 0, .int 0, .int 0, .int 0, .int 0]))] s.heap.size) s [(h, .inr (7, [.null, .int 0, .int 0, .int 0, .int 0, .int 0])), (u1, .inl (kI D, 120, .inl (fun _ => 0)))] H _ := hV
    refine k_putF (ws' := [(h, .inr (7, [.ref u1, .int 0, .int 0, .int 0, .int 0, .int 0])), (u1, .inl (kI D, 120, .inl (fun _ => 0)))]) X hV hin2 0 7 0 rfl rfl rfl gw_202 rfl rfl rfl rfl rfl rfl rfl rfl d_Ta_init_9 (fun H locs hV => ?_)
    refine lv_aload_n hx hb d_Ta_init_12 rfl (lv_at hl 0 rfl) ?_
    refine lv_iconst (v := 0) hx hb d_Ta_init_13 ic_0 ?_
    refine k_putv (ty := .int) (ws' := [(h, .inr (7, [.ref u1, .int 0, .int 0, .int 0, .int 0, .int 0])), (u1, .inl (kI D, 120, .inl (fun _ => 0)))]) X hV 0 7 1 rfl rfl rfl gw_203 rfl rfl rfl rfl rfl rfl rfl d_Ta_init_14 (fun H locs hV => ?_)
    refine lv_aload_n hx hb d_Ta_init_17 rfl (lv_at hl 0 rfl) ?_
    refine lv_iconst (v := 0) hx hb d_Ta_init_18 ic_0 ?_
    refine k_putv (ty := .int) (ws' := [(h, .inr (7, [.ref u1, .int 0, .int 0, .int 0, .int 0, .int 0])), (u1, .inl (kI D, 120, .inl (fun _ => 0)))]) X hV 0 7 2 rfl rfl rfl gw_205 rfl rfl rfl rfl rfl rfl rfl d_Ta_init_19 (fun H locs hV => ?_)
    refine lv_aload_n hx hb d_Ta_init_22 rfl (lv_at hl 0 rfl) ?_
    refine lv_iconst (v := 0) hx hb d_Ta_init_23 ic_0 ?_
    refine k_putv (ty := .int) (ws' := [(h, .inr (7, [.ref u1, .int 0, .int 0, .int 0, .int 0, .int 0])), (u1, .inl (kI D, 120, .inl (fun _ => 0)))]) X hV 0 7 3 rfl rfl rfl gw_207 rfl rfl rfl rfl rfl rfl rfl d_Ta_init_24 (fun H locs hV => ?_)
    refine lv_aload_n hx hb d_Ta_init_27 rfl (lv_at hl 0 rfl) ?_
    refine lv_iconst (v := 0) hx hb d_Ta_init_28 ic_0 ?_
    refine k_putv (ty := .int) (ws' := [(h, .inr (7, [.ref u1, .int 0, .int 0, .int 0, .int 0, .int 0])), (u1, .inl (kI D, 120, .inl (fun _ => 0)))]) X hV 0 7 4 rfl rfl rfl gw_208 rfl rfl rfl rfl rfl rfl rfl d_Ta_init_29 (fun H locs hV => ?_)
    refine lv_aload_n hx hb d_Ta_init_32 rfl (lv_at hl 0 rfl) ?_
    refine lv_iconst (v := 0) hx hb d_Ta_init_33 ic_0 ?_
    refine k_putv (ty := .int) (ws' := [(h, .inr (7, [.ref u1, .int 0, .int 0, .int 0, .int 0, .int 0])), (u1, .inl (kI D, 120, .inl (fun _ => 0)))]) X hV 0 7 5 rfl rfl rfl gw_209 rfl rfl rfl rfl rfl rfl rfl d_Ta_init_34 (fun H locs hV => ?_)
    exact k_cret X u1 hV d_Ta_init_37)
noncomputable abbrev e1_Tx_init (D : kD) (u : Nat × Nat) : va_E := .inr (6, [.ref u.1])
noncomputable abbrev nw_Tx_init (D : kD) (u : Nat × Nat) : va_W := [(u.1, .inr (7, [.ref u.2, .int 0, .int 0, .int 0, .int 0, .int 0])), (u.2, .inl (kI D, 120, .inl (fun _ => 0)))]
theorem fc_Tx_init : kFc y_Tx_init b_Tx_init 1 := ⟨⟨gw_194, gw_8, by decide, by decide, by decide +kernel⟩, gw_193, rfl⟩
set_option maxHeartbeats 2000000 in
set_option maxRecDepth 20000 in
theorem c_Tx_init {l : Launch} (D : kD) (h : Nat) : kMc (S := Nat × Nat) l D none y_Tx_init b_Tx_init 1 { frames := 3, cells := 2, slots := 126, locals := 100 } h (.inr (6, [.null])) (fun u => (h, e1_Tx_init D u) :: nw_Tx_init D u) :=
  kMc_of (own := "MountainFarms$SlopeText") (plainFor_of_name (by decide)) rfl rfl rfl (fun p e s m args below meth c ls X hin2 hO hV hl => by
    obtain ⟨hx, hb, -⟩ := id X
    have hl : lv_has ls 1 [(0, .ref h)] := hl
    refine lv_aload_n hx hb d_Tx_init_0 rfl (lv_at hl 0 rfl) ?_
    refine k_oinit X hl.1 gw_195 rfl rfl d_Tx_init_1 ?_
    refine lv_aload_n hx hb d_Tx_init_4 rfl (lv_at hl 0 rfl) ?_
    refine k_newC X hV inl_Ta ty_Ta tyok_Ta gw_196 gw_197 gw_9 7 rfl (fs := [.null, .int 0, .int 0, .int 0, .int 0, .int 0]) dv_Ta rfl rfl d_Tx_init_5 (fun u1 H hV => ?_)
    have hV : kV D (va_A [(h, .inr (6, [.null]))] s.heap.size) s [(h, .inr (6, [.null])), (u1, .inr (7, [.null, .int 0, .int 0, .int 0, .int 0, .int 0]))] H _ := hV
    refine lv_dup hx hb d_Tx_init_8 rfl ?_
    refine k_cin X hV hl.1 (o := none) trivial (c_Ta_init D u1) fc_Ta_init nw_4 rfl 1 rfl rfl d_Tx_init_9 (fun u2 H locs hV => ?_)
    have hV : kV D (va_A [(h, .inr (6, [.null]))] s.heap.size) s [(h, .inr (6, [.null])), (u1, .inr (7, [.ref u2, .int 0, .int 0, .int 0, .int 0, .int 0])), (u2, .inl (kI D, 120, .inl (fun _ => 0)))] H _ := hV
    refine k_putF (ws' := [(h, .inr (6, [.ref u1])), (u1, .inr (7, [.ref u2, .int 0, .int 0, .int 0, .int 0, .int 0])), (u2, .inl (kI D, 120, .inl (fun _ => 0)))]) X hV hin2 0 6 0 rfl rfl rfl gw_223 rfl rfl rfl rfl rfl rfl rfl rfl d_Tx_init_12 (fun H locs hV => ?_)
    exact k_cret X (u1, u2) hV d_Tx_init_15)
noncomputable abbrev e1_Sh_init (D : kD) (u : Nat) : va_E := .inr (4, [.ref u, .int 0, .int 0])
noncomputable abbrev nw_Sh_init (D : kD) (u : Nat) : va_W := [(u, .inl (kJ D, 40, .inr (.inl (fun _ => 0))))]
theorem fc_Sh_init : kFc y_Sh_init b_Sh_init 1 := ⟨⟨gw_233, gw_10, by decide, by decide, by decide +kernel⟩, gw_232, rfl⟩
set_option maxHeartbeats 2000000 in
set_option maxRecDepth 20000 in
theorem c_Sh_init {l : Launch} (D : kD) (h : Nat) : kMc (S := Nat) l D none y_Sh_init b_Sh_init 1 { frames := 2, cells := 1, slots := 40, locals := 60 } h (.inr (4, [.null, .int 0, .int 0])) (fun u => (h, e1_Sh_init D u) :: nw_Sh_init D u) :=
  kMc_of (own := "MountainFarms$Sheet") (plainFor_of_name (by decide)) rfl rfl rfl (fun p e s m args below meth c ls X hin2 hO hV hl => by
    obtain ⟨hx, hb, -⟩ := id X
    have hl : lv_has ls 1 [(0, .ref h)] := hl
    refine lv_aload_n hx hb d_Sh_init_0 rfl (lv_at hl 0 rfl) ?_
    refine k_oinit X hl.1 gw_234 rfl rfl d_Sh_init_1 ?_
    refine lv_aload_n hx hb d_Sh_init_4 rfl (lv_at hl 0 rfl) ?_
    refine lv_bipush (v := 40) hx hb d_Sh_init_5 bp_40 ?_
    refine k_newJ X hV (N := 40) (by decide) (by decide) rfl rfl rfl d_Sh_init_7 (fun u1 H hV => ?_)
    have hV : kV D (va_A [(h, .inr (4, [.null, .int 0, .int 0]))] s.heap.size) s [(h, .inr (4, [.null, .int 0, .int 0])), (u1, .inl (kJ D, 40, .inr (.inl (fun _ => 0))))] H _ := hV
    refine k_putF (ws' := [(h, .inr (4, [.ref u1, .int 0, .int 0])), (u1, .inl (kJ D, 40, .inr (.inl (fun _ => 0))))]) X hV hin2 0 4 0 rfl rfl rfl gw_235 rfl rfl rfl rfl rfl rfl rfl rfl d_Sh_init_9 (fun H locs hV => ?_)
    refine lv_aload_n hx hb d_Sh_init_12 rfl (lv_at hl 0 rfl) ?_
    refine lv_iconst (v := 0) hx hb d_Sh_init_13 ic_0 ?_
    refine k_putv (ty := .int) (ws' := [(h, .inr (4, [.ref u1, .int 0, .int 0])), (u1, .inl (kJ D, 40, .inr (.inl (fun _ => 0))))]) X hV 0 4 1 rfl rfl rfl gw_237 rfl rfl rfl rfl rfl rfl rfl d_Sh_init_14 (fun H locs hV => ?_)
    refine lv_aload_n hx hb d_Sh_init_17 rfl (lv_at hl 0 rfl) ?_
    refine lv_iconst (v := 0) hx hb d_Sh_init_18 ic_0 ?_
    refine k_putv (ty := .int) (ws' := [(h, .inr (4, [.ref u1, .int 0, .int 0])), (u1, .inl (kJ D, 40, .inr (.inl (fun _ => 0))))]) X hV 0 4 2 rfl rfl rfl gw_239 rfl rfl rfl rfl rfl rfl rfl d_Sh_init_19 (fun H locs hV => ?_)
    exact k_cret X u1 hV d_Sh_init_22)
