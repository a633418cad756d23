/-! the JDK's own String.length and charAt over the claim's literals -/
theorem fk_Sg_length : kFv y_Sg_length b_Sg_length 1 (some .int) 0 := ⟨⟨gw_696, gw_15, by decide, by decide, by decide +kernel⟩, gw_694, gw_695⟩
theorem fk_Sg_coder : kFv y_Sg_coder b_Sg_coder 1 (some .byte) 0 := ⟨⟨gw_700, gw_15, by decide, by decide, by decide +kernel⟩, gw_698, gw_699⟩
theorem fk_Sg_charAt : kFv y_Sg_charAt b_Sg_charAt 2 (some .char) 1 := ⟨⟨gw_706, gw_15, by decide, by decide, by decide +kernel⟩, gw_704, gw_705⟩
theorem fk_Sg_isLatin1 : kFv y_Sg_isLatin1 b_Sg_isLatin1 1 (some .boolean) 0 := ⟨⟨gw_710, gw_15, by decide, by decide, by decide +kernel⟩, gw_708, gw_709⟩
theorem fk_S1_charAt : kFs y_S1_charAt b_S1_charAt 2 (some .char) 2 := ⟨⟨gw_713, gw_16, by decide, by decide, by decide +kernel⟩, gw_712⟩
theorem fk_Sg_checkIndex : kFs y_Sg_checkIndex b_Sg_checkIndex 2 none 2 := ⟨⟨gw_716, gw_15, by decide, by decide, by decide +kernel⟩, gw_715⟩
theorem fk_Pr_checkIndex : kFs y_Pr_checkIndex b_Pr_checkIndex 3 (some .int) 3 := ⟨⟨gw_721, gw_17, by decide, by decide, by decide +kernel⟩, gw_720⟩
theorem k_ldcSw {p : Program} {l : Launch} {e : Env} {R : Room} {s : State} {m : MethodId} {args : Array Value} {below : List Frame} {meth : Method} {c : Code} {H : Heap} {locs : List Loc} {cells slots : Nat} {Q : State → Prop} {D : kD} {A : Nat → Prop} {cc : ByteArray} {own : String} {nL : Nat} {ret : Option FieldType} {pc : Nat} {ls : Array Slot} {rest : List Value} (X : kX p m meth c s args D A cc own nL ret) (i : Nat) {index : Nat} (hi : Nat.blt i nStr = true) (ho : sOwn i = own) (hx : sIdx i = index) (hdg : decode cc pc = .ok (.ldc_w index, 3))
    (kk : W p l e R s m args below meth c H locs cells slots Q (F0 m (pc + 3) ls (.ref (kAK D i) :: rest))) : W p l e R s m args below meth c H locs cells slots Q (F0 m pc ls rest) := by
  subst ho hx
  have hZ := X.2.2.2.2.2.1.2.2 i (Nat.le_of_ble_eq_true hi)
  have hown := X.2.2.2.1
  have hexec := X.1
  have hb := X.2.1
  subst hb
  intro T hT X
  obtain ⟨t, a1, b1⟩ := kk T hT X
  refine ⟨t, ?_, b1⟩
  obtain ⟨k, cf, i', a', hk, hcf, hcp, -, hr, hev'⟩ := Cond.stringRef_spec hown hZ.1
  have hev2 := hZ.2
  cases hev2.symm.trans hev'
  obtain ⟨k', hk', he⟩ := X.warmed.alike.2.2 _ _ hk
  have hr' : k'.resolved[sIdx i]? = some (some (.string (kAK D i))) := by
    rcases X.warmed.entry hk hk' (sIdx i) with h | ⟨h, -⟩
    · rw [h]; exact hr
    · rw [hr] at h; cases h
  jvm_step X.here [hexec, hdg, ldc_w.wp_string (e := e) (s := T) (f := F0 m pc ls rest) X.here.top hk' (by rw [he]; exact hcf) hcp hr']
  exact a1
theorem sByt_in : ∀ i, i < 30 → ∀ j, j < 9 → ((sByt i j &&& 255).toUInt32 % 65536).toInt32 = sByt i j ∧ narrow .char (.int (sByt i j)) = .int (sByt i j) := by decide +kernel
theorem sLen_le : ∀ i, i < 30 → sLen i ≤ 8 := by decide +kernel
theorem c_Sg_coder {l : Launch} (D : kD) (w : Nat) (hw : Nat.blt w nStr = true) : kMi l D y_Sg_coder b_Sg_coder 1 (some .byte) { frames := 0, cells := 0, slots := 0, locals := 0 } [.ref (kAK D w)] [] [] 0 :=
  kMi_of (own := "java/lang/String") (by decide +kernel) rfl rfl (fun p e s m args below meth c ls X hV hl => by
    obtain ⟨hx, hb, -⟩ := id X
    have hl : lv_has ls 1 [(0, .ref (kAK D w))] := hl
    refine va_gets hx hb X.2.2.2.2.2.2.1.2.2.1 hV.2.2 X.2.2.2.1 (X.2.2.2.2.1 _ gw_701) (fun _ h => h) d_Sg_coder_0 ?_
    refine lv_if_eq (tgt := 13) hx hb d_Sg_coder_3 (by decide) (fun c1 => absurd c1 (by decide)) (fun c1 => ?_)
    refine lv_aload_n hx hb d_Sg_coder_6 rfl (lv_at hl 0 rfl) ?_
    refine vk_getf hx hb (X.2.2.2.2.2.2.1.2.2.2.2 w (Nat.le_of_ble_eq_true hw)).2.1 hV.2.2 X.2.2.2.1 (X.2.2.2.2.1 _ gw_1377) (fun _ h => h) d_Sg_coder_7 ?_
    refine lv_goto (tgt := 14) hx hb d_Sg_coder_10 (by decide) ?_
    exact k_iret (v := 0) X rfl hV rfl d_Sg_coder_14)
theorem c_Sg_isLatin1 {l : Launch} (D : kD) (w : Nat) (hw : Nat.blt w nStr = true) : kMi l D y_Sg_isLatin1 b_Sg_isLatin1 1 (some .boolean) { frames := 0, cells := 0, slots := 0, locals := 0 } [.ref (kAK D w)] [] [] 1 :=
  kMi_of (own := "java/lang/String") (by decide +kernel) rfl rfl (fun p e s m args below meth c ls X hV hl => by
    obtain ⟨hx, hb, -⟩ := id X
    have hl : lv_has ls 1 [(0, .ref (kAK D w))] := hl
    refine va_gets hx hb X.2.2.2.2.2.2.1.2.2.1 hV.2.2 X.2.2.2.1 (X.2.2.2.2.1 _ gw_701) (fun _ h => h) d_Sg_isLatin1_0 ?_
    refine lv_if_eq (tgt := 17) hx hb d_Sg_isLatin1_3 (by decide) (fun c1 => absurd c1 (by decide)) (fun c1 => ?_)
    refine lv_aload_n hx hb d_Sg_isLatin1_6 rfl (lv_at hl 0 rfl) ?_
    refine vk_getf hx hb (X.2.2.2.2.2.2.1.2.2.2.2 w (Nat.le_of_ble_eq_true hw)).2.1 hV.2.2 X.2.2.2.1 (X.2.2.2.2.1 _ gw_1377) (fun _ h => h) d_Sg_isLatin1_7 ?_
    refine lv_if_ne (tgt := 17) hx hb d_Sg_isLatin1_10 (by decide) (fun c1 => absurd rfl c1) (fun c1 => ?_)
    refine lv_iconst (v := 1) hx hb d_Sg_isLatin1_13 ic_1 ?_
    refine lv_goto (tgt := 18) hx hb d_Sg_isLatin1_14 (by decide) ?_
    exact k_iret (v := 1) X rfl hV nb1 d_Sg_isLatin1_18)
theorem c_Sg_length {l : Launch} (D : kD) (w : Nat) (hw : Nat.blt w nStr = true) {out : Int32} (hf : f_Sg_length w = some out) : kMi l D y_Sg_length b_Sg_length 1 (some .int) { frames := 1, cells := 0, slots := 0, locals := 20 } [.ref (kAK D w)] [] [] out :=
  kMi_of (own := "java/lang/String") (by decide +kernel) rfl rfl (fun p e s m args below meth c ls X hV hl => by
    obtain ⟨hx, hb, -⟩ := id X
    have hl : lv_has ls 1 [(0, .ref (kAK D w))] := hl
    have e_ : nI (sLen w) = out := Option.some.inj hf
    subst e_
    have hS := X.2.2.2.2.2.2.1.2.2.2.2 w (Nat.le_of_ble_eq_true hw)
    refine lv_aload_n hx hb d_Sg_length_0 rfl (lv_at hl 0 rfl) ?_
    refine vk_getf hx hb hS.2.2.1 hV.2.2 X.2.2.2.1 (X.2.2.2.2.1 _ gw_1376) (fun _ h => h) d_Sg_length_1 ?_
    refine va_tlen (v := nI (sLen w)) hx hb hS.2.2.2 hV.2.2 rfl d_Sg_length_4 ?_
    refine lv_aload_n hx hb d_Sg_length_5 rfl (lv_at hl 0 rfl) ?_
    refine k_cti X hV hl.1 w hw (c_Sg_coder D w hw) fk_Sg_coder rfl gw_697 rfl rfl rfl rfl d_Sg_length_6 (fun H locs hV => ?_)
    refine lv_ishr hx hb d_Sg_length_9 ?_
    have e0 : nI (sLen w) >>> ((0 : Int32) &&& 31) = nI (sLen w) := sb_shr0 _
    rw [e0]
    exact k_iret X rfl hV rfl d_Sg_length_10)
theorem c_Pr_checkIndex {l : Launch} (D : kD) (i n : Int32) (v : Value) (hv : v.category = 1) (h0 : ¬ i < 0) (h1 : i < n) : kMi l D y_Pr_checkIndex b_Pr_checkIndex 3 (some .int) { frames := 0, cells := 0, slots := 0, locals := 0 } [.int i, .int n, v] [] [] i :=
  kMi_of (own := "jdk/internal/util/Preconditions") (by decide +kernel) rfl (by cases v <;> first | rfl | (simp [Value.category] at hv)) (fun p e s m args below meth c ls X hV hl => by
    obtain ⟨hx, hb, -⟩ := id X
    have hl : lv_has ls 3 [(0, .int i), (1, .int n), (2, v)] := hl
    refine lv_iload_n hx hb d_Pr_checkIndex_0 rfl (lv_at hl 0 rfl) ?_
    refine lv_if_lt (tgt := 9) hx hb d_Pr_checkIndex_1 (by decide) (fun c1 => absurd c1 h0) (fun c1 => ?_)
    refine lv_iload_n hx hb d_Pr_checkIndex_4 rfl (lv_at hl 0 rfl) ?_
    refine lv_iload_n hx hb d_Pr_checkIndex_5 rfl (lv_at hl 1 rfl) ?_
    refine lv_icmp_lt (tgt := 16) hx hb d_Pr_checkIndex_6 (by decide) (fun c1 => ?_) (fun c1 => absurd h1 c1)
    refine lv_iload_n hx hb d_Pr_checkIndex_16 rfl (lv_at hl 0 rfl) ?_
    exact k_iret X rfl hV rfl d_Pr_checkIndex_17)
theorem c_Sg_checkIndex {l : Launch} (D : kD) (i n : Int32) (h0 : ¬ i < 0) (h1 : i < n) : kMv l D y_Sg_checkIndex b_Sg_checkIndex 2 none { frames := 1, cells := 0, slots := 0, locals := 22 } [.int i, .int n] [] [] :=
  kMv_of (own := "java/lang/String") (by decide +kernel) rfl rfl (fun p e s m args below meth c ls X hV hl => by
    obtain ⟨hx, hb, -⟩ := id X
    have hl : lv_has ls 2 [(0, .int i), (1, .int n)] := hl
    refine lv_iload_n hx hb d_Sg_checkIndex_0 rfl (lv_at hl 0 rfl) ?_
    refine lv_iload_n hx hb d_Sg_checkIndex_1 rfl (lv_at hl 1 rfl) ?_
    refine va_gets hx hb X.2.2.2.2.2.2.1.2.2.2.1.1 hV.2.2 X.2.2.2.1 (X.2.2.2.2.1 _ gw_717) (fun _ h => h) d_Sg_checkIndex_2 ?_
    refine k_csi (wc := []) (w1 := []) (ws' := []) X hV hl.1 (c_Pr_checkIndex D i n (kFmt D) X.2.2.2.2.2.2.1.2.2.2.1.2 h0 h1) fk_Pr_checkIndex gw_719 rfl [] [] rfl rfl trivial rfl rfl rfl d_Sg_checkIndex_5 (fun H locs hV => ?_)
    refine lv_pop hx hb d_Sg_checkIndex_8 rfl ?_
    exact k_vret X rfl hV d_Sg_checkIndex_9)
theorem c_S1_charAt {l : Launch} (D : kD) (w : Nat) (i : Int32) (hw : Nat.blt w nStr = true) (hi : vp_in i (sLen w)) : kMi l D y_S1_charAt b_S1_charAt 2 (some .char) { frames := 2, cells := 0, slots := 0, locals := 43 } [.ref (kAV D w), .int i] [] [] (sByt w i.toNatClampNeg) :=
  kMi_of (own := "java/lang/StringLatin1") (by decide +kernel) rfl rfl (fun p e s m args below meth c ls X hV hl => by
    obtain ⟨hx, hb, -⟩ := id X
    have hl : lv_has ls 2 [(0, .ref (kAV D w)), (1, .int i)] := hl
    have hwn : w < 30 := Nat.le_of_ble_eq_true hw
    have hS := X.2.2.2.2.2.2.1.2.2.2.2 w (Nat.le_of_ble_eq_true hw)
    have hlen := sLen_le w hwn
    obtain ⟨j, hj, rfl⟩ := vp_in_of hi (by omega)
    have hcl : (nI j).toNatClampNeg = j := nI_clamp (by omega)
    refine lv_iload_n hx hb d_S1_charAt_0 rfl (lv_at hl 1 rfl) ?_
    refine lv_aload_n hx hb d_S1_charAt_1 rfl (lv_at hl 0 rfl) ?_
    refine va_tlen (v := nI (sLen w)) hx hb hS.2.2.2 hV.2.2 rfl d_S1_charAt_2 ?_
    refine k_csv (wc := []) (w1 := []) (ws' := []) X hV hl.1 (c_Sg_checkIndex D (nI j) (nI (sLen w)) (nI_pos (by omega)) (nI_lt hj (by omega))) fk_Sg_checkIndex gw_714 rfl [] [] rfl rfl trivial rfl rfl rfl d_S1_charAt_3 (fun H locs hV => ?_)
    refine lv_aload_n hx hb d_S1_charAt_6 rfl (lv_at hl 0 rfl) ?_
    refine lv_iload_n hx hb d_S1_charAt_7 rfl (lv_at hl 1 rfl) ?_
    refine va_tb (v := .int (sByt w j)) hx hb hS.2.2.2 hV.2.2 hi (by rw [hcl]) d_S1_charAt_8 ?_
    refine lv_sipush (v := 255) hx hb d_S1_charAt_9 (by decide) ?_
    refine lv_iand hx hb d_S1_charAt_12 ?_
    refine lv_i2c (v := sByt w j) hx hb d_S1_charAt_13 (sByt_in w hwn j (by omega)).1 ?_
    rw [hcl]
    exact k_iret X rfl hV (sByt_in w hwn j (by omega)).2 d_S1_charAt_14)
theorem c_Sg_charAt {l : Launch} (D : kD) (w : Nat) (i : Int32) (hw : Nat.blt w nStr = true) {out : Int32} (hf : f_Sg_charAt w i = some out) : kMi l D y_Sg_charAt b_Sg_charAt 2 (some .char) { frames := 3, cells := 0, slots := 0, locals := 64 } [.ref (kAK D w), .int i] [] [] out :=
  kMi_of (own := "java/lang/String") (by decide +kernel) rfl rfl (fun p e s m args below meth c ls X hV hl => by
    obtain ⟨hx, hb, -⟩ := id X
    have hl : lv_has ls 2 [(0, .ref (kAK D w)), (1, .int i)] := hl
    have hwn : w < 30 := Nat.le_of_ble_eq_true hw
    have hS := X.2.2.2.2.2.2.1.2.2.2.2 w (Nat.le_of_ble_eq_true hw)
    unfold f_Sg_charAt at hf
    obtain ⟨hi, hf⟩ := kidx_some hf
    have e_ := Option.some.inj hf
    subst e_
    have hlen := sLen_le w hwn
    refine lv_aload_n hx hb d_Sg_charAt_0 rfl (lv_at hl 0 rfl) ?_
    refine k_cti X hV hl.1 w hw (c_Sg_isLatin1 D w hw) fk_Sg_isLatin1 rfl gw_707 rfl rfl rfl rfl d_Sg_charAt_1 (fun H locs hV => ?_)
    refine lv_if_eq (tgt := 16) hx hb d_Sg_charAt_4 (by decide) (fun c1 => absurd c1 (by decide)) (fun c1 => ?_)
    refine lv_aload_n hx hb d_Sg_charAt_7 rfl (lv_at hl 0 rfl) ?_
    refine vk_getf hx hb hS.2.2.1 hV.2.2 X.2.2.2.1 (X.2.2.2.2.1 _ gw_1376) (fun _ h => h) d_Sg_charAt_8 ?_
    refine lv_iload_n hx hb d_Sg_charAt_11 rfl (lv_at hl 1 rfl) ?_
    refine k_csi (wc := []) (w1 := []) (ws' := []) X hV hl.1 (c_S1_charAt D w i hw hi) fk_S1_charAt gw_711 rfl [] [] rfl rfl trivial rfl rfl rfl d_Sg_charAt_12 (fun H locs hV => ?_)
    obtain ⟨j, hj, rfl⟩ := vp_in_of hi (by omega)
    have hcl : (nI j).toNatClampNeg = j := nI_clamp (by omega)
    rw [hcl]
    exact k_iret X rfl hV (sByt_in w hwn j (by omega)).2 d_Sg_charAt_15)
