/-! what the Statement gives of the start: classes, arrays, statics, text constants -/
def nF : List Cond := flatC (Jvm.Cond.and given_1 narrow_1)
def sOff : Nat → Nat := fun i => match i with
  | 0 => 18
  | 1 => 26
  | 2 => 35
  | 3 => 44
  | 4 => 51
  | 5 => 60
  | 6 => 72
  | 7 => 78
  | 8 => 87
  | 9 => 95
  | 10 => 105
  | 11 => 112
  | 12 => 120
  | 13 => 130
  | 14 => 138
  | 15 => 146
  | 16 => 155
  | 17 => 165
  | 18 => 175
  | 19 => 183
  | 20 => 193
  | 21 => 206
  | 22 => 213
  | 23 => 223
  | 24 => 232
  | 25 => 243
  | 26 => 251
  | 27 => 260
  | 28 => 271
  | 29 => 280
  | _ => 0
def sWrd : Nat → Nat := fun i => match i with
  | 0 => 683
  | 1 => 684
  | 2 => 685
  | 3 => 686
  | 4 => 687
  | 5 => 688
  | 6 => 747
  | 7 => 753
  | 8 => 755
  | 9 => 762
  | 10 => 768
  | 11 => 769
  | 12 => 774
  | 13 => 780
  | 14 => 781
  | 15 => 879
  | 16 => 880
  | 17 => 881
  | 18 => 882
  | 19 => 883
  | 20 => 884
  | 21 => 1293
  | 22 => 1294
  | 23 => 1303
  | 24 => 1304
  | 25 => 1305
  | 26 => 1306
  | 27 => 1307
  | 28 => 1308
  | 29 => 1313
  | _ => 0
def sTm (i : Nat) : Term := .string (sOwn i) (sIdx i)
theorem n_ex : ∀ i, i < 30 → gk nF (sOff i) (.exactly (sTm i) "java/lang/String") = true := by decide +kernel
theorem n_co : ∀ i, i < 30 → gk nF (sOff i + 1) (.eq (.field (sTm i) "java/lang/String" "coder" "B") (.int 0)) = true := by decide +kernel
theorem n_ar : ∀ i, i < 30 → gk nF (sOff i + 2) (.arrayOf (.field (sTm i) "java/lang/String" "value" "[B") .byte) = true := by decide +kernel
theorem n_le : ∀ i, i < 30 → gk nF (sOff i + 3) (.eq (.length (.field (sTm i) "java/lang/String" "value" "[B")) (.int (Int32.ofNat (sLen i)))) = true := by decide +kernel
theorem n_el : ∀ i, i < 30 → ∀ j, j < sLen i → gk nF (sOff i + 4 + j) (.eq (.elem (.field (sTm i) "java/lang/String" "value" "[B") (.int (Int32.ofNat j))) (.int (sByt i j))) = true := by decide +kernel
theorem n_sr : ∀ i, i < 30 → gk tables_1 (sWrd i) (.stringRef (sOwn i) (sIdx i) (sTxt i)) = true := by decide +kernel
theorem n_us : gk nF 5 (.arrayOf (.static "MountainFarms" "UNDER" "[I") .int) = true := by decide +kernel
theorem n_ul : gk nF 6 (.eq (.length (.static "MountainFarms" "UNDER" "[I")) (.int (Int32.ofNat 6))) = true := by decide +kernel
theorem n_ue : ∀ j, j < 6 → gk nF (7 + j) (.eq (.elem (.static "MountainFarms" "UNDER" "[I") (.int (Int32.ofNat j))) (.int (kUnder j))) = true := by decide +kernel
theorem n_cs : gk nF 13 (.eq (.static "java/lang/String" "COMPACT_STRINGS" "Z") (.int 1)) = true := by decide +kernel
theorem n_si : gk nF 14 (.isRef (.static "jdk/internal/util/Preconditions" "SIOOBE_FORMATTER" "Ljava/util/function/BiFunction;")) = true := by decide +kernel
theorem t_us : gk tables_1 378 (.laysStatic "MountainFarms" "UNDER" "[I") = true := by decide +kernel
theorem t_cs : gk tables_1 702 (.laysStatic "java/lang/String" "COMPACT_STRINGS" "Z") = true := by decide +kernel
theorem t_si : gk tables_1 718 (.laysStatic "jdk/internal/util/Preconditions" "SIOOBE_FORMATTER" "Ljava/util/function/BiFunction;") = true := by decide +kernel
theorem t_os : gk tables_1 229 (.arrayOver (.object "MountainFarms$Sheet")) = true := by decide +kernel
theorem t_ou : gk tables_1 878 (.arrayOver (.object "java/lang/String")) = true := by decide +kernel
theorem entry_str {args : Array Value} {s : State} {A : Nat → Prop} (hf : ∀ w ∈ nF, w.before args s = true) (ht : ∀ w ∈ tables_1, w.before args s = true) (hA : ∀ a : Nat, a < s.heap.size → ¬ A a) : ∃ adK adV : Nat → Nat, ∀ i, i < nStr → vk_R (sOwn i) (sIdx i) (sTxt i) (adK i) s ∧ va_O "java/lang/String" (adK i) A s s.heap ∧ va_OF "java/lang/String" "coder" "B" (.int 0) (adK i) A s s.heap ∧ va_OF "java/lang/String" "value" "[B" (.ref (adV i)) (adK i) A s s.heap ∧ va_T .byte (adV i) (sLen i) (fun j => .int (sByt i j)) A s s.heap := by
  have hl : ∀ i, i < 30 → sLen i < 2 ^ 31 := by decide +kernel
  have h0 : ∀ i : Nat, ∃ q : Nat × Nat, i < 30 → vk_R (sOwn i) (sIdx i) (sTxt i) q.1 s ∧ va_O "java/lang/String" q.1 A s s.heap ∧ va_OF "java/lang/String" "coder" "B" (.int 0) q.1 A s s.heap ∧ va_OF "java/lang/String" "value" "[B" (.ref q.2) q.1 A s s.heap ∧ va_T .byte q.2 (sLen i) (fun j => .int (sByt i j)) A s s.heap := by
    intro i
    by_cases hi : i < 30
    · obtain ⟨a, c, cA, kA, q1, q2, q3, q4, q5, q6, -⟩ := Cond.exactly_spec (args := args) (first := s) (o := none) (s := s) (idx := []) (t := sTm i) (cls := "java/lang/String") (hf _ (gk_spec (n_ex i hi)))
      obtain ⟨t, ht2, hT⟩ := va_Tof (f := fun j => .int (sByt i j)) (A := A) (hl i hi) (hf _ (gk_spec (n_ar i hi))) (va_eqt (hf _ (gk_spec (n_le i hi)))) (fun j hj => va_eqt (hf _ (gk_spec (n_el i hi j hj)))) hA
      exact ⟨(a, t), fun _ => ⟨vk_R.of (ht _ (gk_spec (n_sr i hi))) q1, ⟨cA, q3, q5, by rw [q6]; exact q2, hA a (Array.getElem?_eq_some_iff.mp q3).1⟩, vk_OFof q1 (va_eqt (hf _ (gk_spec (n_co i hi)))) hA, vk_OFof q1 ht2 hA, hT⟩⟩
    · exact ⟨(0, 0), fun h => absurd h hi⟩
  obtain ⟨ad, had⟩ := Classical.axiomOfChoice h0
  exact ⟨fun i => (ad i).1, fun i => (ad i).2, fun i hi => had i hi⟩
theorem entry_arr {args : Array Value} {s : State} {ty : FieldType} (hp : ∀ C, ty ≠ .object C) (h : (Cond.arrayClass ty).before args s = true) : ∃ cA, ArrOfT s cA ty ∧ va_RA s cA ty := by
  obtain ⟨c, k, comp, h1, h2, h3⟩ := Cond.arrayClass_spec h
  refine ⟨c, fun n z => ⟨fun k h => (by cases h), k, h2, comp, h3⟩, ?_⟩
  cases ty with
  | object C => exact absurd rfl (hp C)
  | _ => exact h1
theorem entry_ov {args : Array Value} {s : State} {C : String} (h : (Cond.arrayOver (.object C)).before args s = true) : ∃ cA, ArrOfT s cA (.object C) ∧ va_RA s cA (.object C) := by
  obtain ⟨comp, c, k, h1, h2, h3, h4, h5⟩ := Cond.arrayOver_spec h
  exact ⟨c, fun n z => ⟨fun k h => (by cases h), k, h3, comp, h4⟩, k, comp, h3, h4, h1, h5⟩
/-- the context of the law's walk -/
theorem entry_D {args : Array Value} {s : State} (hts : ∀ w ∈ lw_tbl, w.before args s = true) (hgv : (Jvm.Cond.and given_1 narrow_1).before args s = true) : ∃ D : kD, kC D s ∧ kSt D (fun q => s.heap.size ≤ q) s s.heap ∧ va_AO "MountainFarms$Sheet" s ∧ va_AO "java/lang/String" s := by
  have hG : ∀ w ∈ GW, w.before args s = true := fun w hw => hts w (List.mem_filter.mp hw).1
  have ht : ∀ w ∈ tables_1, w.before args s = true := fun w hw => hts w (List.mem_append_right _ hw)
  have hf : ∀ w ∈ nF, w.before args s = true := flat_of_before _ hgv
  have hA : ∀ a : Nat, a < s.heap.size → ¬ (fun q => s.heap.size ≤ q) a := fun a h => Nat.not_le.mpr h
  obtain ⟨c0, i0, hK0⟩ := u_known (C := "MountainFarms$Farms") (T := T_Fa) (N := 6) hG inl_Fa (hG _ gw_73)
  obtain ⟨c1, i1, hK1⟩ := u_known (C := "MountainFarms$Ground") (T := T_Gr) (N := 5) hG inl_Gr (hG _ gw_34)
  obtain ⟨c2, i2, hK2⟩ := u_known (C := "MountainFarms$Mountain") (T := T_Mo) (N := 6) hG inl_Mo (hG _ gw_105)
  obtain ⟨c3, i3, hK3⟩ := u_known (C := "MountainFarms$Parts") (T := T_Pa) (N := 2) hG inl_Pa (hG _ gw_176)
  obtain ⟨c4, i4, hK4⟩ := u_known (C := "MountainFarms$Sheet") (T := T_Sh) (N := 3) hG inl_Sh (hG _ gw_230)
  obtain ⟨c5, i5, hK5⟩ := u_known (C := "MountainFarms$Slope") (T := T_Sl) (N := 9) hG inl_Sl (hG _ gw_28)
  obtain ⟨c6, i6, hK6⟩ := u_known (C := "MountainFarms$SlopeText") (T := T_Tx) (N := 1) hG inl_Tx (hG _ gw_191)
  obtain ⟨c7, i7, hK7⟩ := u_known (C := "MountainFarms$Tape") (T := T_Ta) (N := 6) hG inl_Ta (hG _ gw_197)
  obtain ⟨c8, i8, hK8⟩ := u_known (C := "MountainFarms") (T := T_X) (N := 8) hG inl_X (hG _ gw_20)
  obtain ⟨c9, i9, hK9⟩ := u_known (C := "MountainFarmsModel") (T := T_M) (N := 25) hG inl_M (hG _ gw_872)
  obtain ⟨cI, aI1, aI2⟩ := entry_arr (ty := .int) (fun C h => by cases h) (hG _ gw_71)
  obtain ⟨cJ, aJ1, aJ2⟩ := entry_arr (ty := .long) (fun C h => by cases h) (hG _ gw_189)
  have hos : (Cond.arrayOver (.object "MountainFarms$Sheet")).before args s = true := ht _ (gk_spec t_os)
  have hou : (Cond.arrayOver (.object "java/lang/String")).before args s = true := ht _ (gk_spec t_ou)
  obtain ⟨cO, aO1, aO2⟩ := entry_ov hos
  obtain ⟨cU, aU1, aU2⟩ := entry_ov hou
  obtain ⟨adK, adV, hS⟩ := entry_str hf ht hA
  obtain ⟨tU, tU1, tU2⟩ := va_Tof (f := fun j => .int (kUnder j)) (A := fun q => s.heap.size ≤ q) (show (6 : Nat) < 2 ^ 31 by decide) (hf _ (gk_spec n_us)) (va_eqt (hf _ (gk_spec n_ul))) (fun j hj => va_eqt (hf _ (gk_spec (n_ue j hj)))) hA
  obtain ⟨vF, vF1, vF2⟩ := Cond.isRef_spec (hf _ (gk_spec n_si))
  refine ⟨((fun k => if k = 0 then c0 else if k = 1 then c1 else if k = 2 then c2 else if k = 3 then c3 else if k = 4 then c4 else if k = 5 then c5 else if k = 6 then c6 else if k = 7 then c7 else if k = 8 then c8 else c9, fun k => if k = 0 then i0 else if k = 1 then i1 else if k = 2 then i2 else if k = 3 then i3 else if k = 4 then i4 else if k = 5 then i5 else if k = 6 then i6 else if k = 7 then i7 else if k = 8 then i8 else i9), (cI, cJ, cO, cU), tU, adK, adV, vF), ⟨⟨?_, ?_⟩, ?_, ?_⟩, ⟨?_, tU2, ?_, ⟨?_, ?_⟩, ?_⟩, ?_, ?_⟩
  · intro k q hq
    match k, hq with
    | 0, hq => cases hq; exact hK0
    | 1, hq => cases hq; exact hK1
    | 2, hq => cases hq; exact hK2
    | 3, hq => cases hq; exact hK3
    | 4, hq => cases hq; exact hK4
    | 5, hq => cases hq; exact hK5
    | 6, hq => cases hq; exact hK6
    | 7, hq => cases hq; exact hK7
    | 8, hq => cases hq; exact hK8
    | 9, hq => cases hq; exact hK9
    | k + 10, hq => simp [vwCl] at hq
  · intro k q hq
    match k, hq with
    | 0, hq => cases hq; exact ⟨aI1, aI2⟩
    | 1, hq => cases hq; exact ⟨aJ1, aJ2⟩
    | 2, hq => cases hq; exact ⟨aO1, aO2⟩
    | 3, hq => cases hq; exact ⟨aU1, aU2⟩
    | k + 4, hq => simp at hq
  · exact fun q hq => va_Nw.of rfl (hts _ (nw_in q hq))
  · exact fun i hi => (hS i hi).1
  · exact va_Zof (ht _ (gk_spec t_us)) (hG _ gw_1) tU1 hA
  · exact va_Zof (ht _ (gk_spec t_cs)) (hG _ gw_15) (va_eqi (hf _ (gk_spec n_cs))) hA
  · exact va_Zof (ht _ (gk_spec t_si)) (hG _ gw_17) vF1 hA
  · cases vF with
    | null => rfl
    | ref a => rfl
    | _ => exact absurd vF2 (by simp [Value.isRef])
  · exact fun i hi => (hS i hi).2
  · exact va_AO.of hos
  · exact va_AO.of hou
