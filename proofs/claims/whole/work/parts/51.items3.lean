/-! items: farms; any item -/
theorem rf5 {k : Nat} (hk : k ≤ 60) (x1 x2 x3 be en sm vm w fm : Int32) (fc : Int64) (it : Nat → Int32) : f_M_readFarm_5 x1 x2 x3 be en sm vm w (nI k) fm fc it = some (be, en, sm, vm, w, nI (k + 1), fm, fc, up6 it k x1 x2 x3 0 0 0) := by
  unfold f_M_readFarm_5
  rw [item_m hk, kb2_eq]
theorem rf3_w {k : Nat} (hk : k ≤ 60) (s x1 x2 n be en sm vm fm : Int32) (fc : Int64) (tp it : Nat → Int32) : f_M_readFarm_3 s x1 x2 n be en sm vm 1 (nI k) fm fc tp it = some (be, en, sm, vm, 1, nI (k + 1), fm, fc ||| 0, up6 it k x1 x2 0 0 0 0) := by
  unfold f_M_readFarm_3 f_M_readFarm_4
  rw [must_w, kb5_eq, if_neg i10, if_neg i10, rf5 hk]
theorem rf2_n {k : Nat} (hk : k ≤ 60) (x1 x2 n be en sm vm fm : Int32) (fc : Int64) (tp it : Nat → Int32) : f_M_readFarm_2 x1 x2 n be en sm vm 0 (nI k) fm fc tp it = some (be, en, sm, vm, 1, nI (k + 1), fm, fc ||| 0, up6 it k x1 x2 0 0 0 0) := by
  unfold f_M_readFarm_2 f_M_readFarm_3 f_M_readFarm_4
  rw [must_n, kb5_eq, if_neg i10, if_neg i10, rf5 hk]
theorem isCell_s (x : Int32) : ∃ r, f_M_isCell x = some r := by
  rcases isCell_cases x with ⟨-, h⟩ | ⟨j, -, -, -, h⟩
  · exact ⟨0, h⟩
  · exact ⟨1, h⟩
/-- what stands behind 'at' -/
noncomputable def kFt (x1 n be en sm vm w k fm : Int32) (fc : Int64) (tp it : Nat → Int32) : Option (Int32 × Int32 × Int32 × Int32 × Int32 × Int32 × Int32 × Int64 × (Nat → Int32)) :=
  if sm = (2 : Int32) then kb1 (f_M_isCell vm) fun r_64 => (if r_64 = 0 then f_M_readFarm_2 x1 vm n be en sm vm w k fm fc tp it else (if (lg_cmp ((fc >>> (vm.toInt64 &&& 63)) &&& (1 : Int64)) (0 : Int64)) = 0 then f_M_readFarm_3 (1 : Int32) x1 vm n be en sm vm w k fm fc tp it else f_M_readFarm_2 x1 vm n be en sm vm w k fm fc tp it)) else f_M_readFarm_2 x1 vm n be en sm vm w k fm fc tp it
theorem kFt_w {k : Nat} (hk : k ≤ 60) (x1 n be en sm vm fm : Int32) (fc : Int64) (tp it : Nat → Int32) : kFt x1 n be en sm vm 1 (nI k) fm fc tp it = some (be, en, sm, vm, 1, nI (k + 1), fm, fc ||| 0, up6 it k x1 vm 0 0 0 0) := by
  unfold kFt f_M_readFarm_2
  rw [rf3_w hk, rf3_w hk]
  obtain ⟨r, h⟩ := isCell_s vm
  rw [h, kb1_eq, ite_self, ite_self, ite_self]
theorem kFt_n {k : Nat} (hk : k ≤ 60) (x1 n be en sm vm fm : Int32) (fc : Int64) (tp it : Nat → Int32) (h : sm = 2 → ∀ c, c < 36 → vm = nI c → kHit fc (nI c) = true) : kFt x1 n be en sm vm 0 (nI k) fm fc tp it = some (be, en, sm, vm, 1, nI (k + 1), fm, fc ||| 0, up6 it k x1 vm 0 0 0 0) := by
  unfold kFt
  rw [rf2_n hk]
  by_cases s2 : sm = 2
  · rw [if_pos s2]
    rcases isCell_cases vm with ⟨-, g⟩ | ⟨c, hc, hv, -, g⟩
    · rw [g, kb1_eq, if_pos rfl]
    · have hh := h s2 c hc hv
      have : ¬ lg_cmp ((fc >>> (vm.toInt64 &&& 63)) &&& (1 : Int64)) (0 : Int64) = 0 := fun y => by
        have := (kHit_0 fc vm).mp y
        rw [hv, hh] at this
        cases this
      rw [g, kb1_eq, if_neg i10, if_neg this]
  · rw [if_neg s2]
theorem kFt_y {x1 n be en sm vm k fm : Int32} {fc : Int64} {tp it : Nat → Int32} {c : Nat} (hc : c < 36) (s2 : sm = 2) (hv : vm = nI c) (h : kHit fc (nI c) = false) : kFt x1 n be en sm vm 0 k fm fc tp it = f_M_readFarm_3 (1 : Int32) x1 vm n be en sm vm 0 k fm fc tp it := by
  unfold kFt
  have g : f_M_isCell vm = some 1 := by
    rcases isCell_cases vm with ⟨-, g⟩ | ⟨d, hd, -, -, g⟩
    · exfalso
      rw [hv] at g
      have : ∀ c, c < 36 → f_M_isCell (nI c) = some 1 := by decide +kernel
      rw [this c hc] at g
      exact absurd g (by decide)
    · exact g
  have : lg_cmp ((fc >>> (vm.toInt64 &&& 63)) &&& (1 : Int64)) (0 : Int64) = 0 := (kHit_0 fc vm).mpr (by rw [hv]; exact h)
  rw [if_pos s2, g, kb1_eq, if_neg i10, if_pos this]
theorem kSo_farm {A : Nat → Int32} {kd N : Nat} (hkd : kd < 6) (hN : N < 12) (hA : A 10 = nI N) (c w : Int32) : kSo A (nI kd) c w 0 0 = some (upd (upd (upd (upd (upd (upd A (158 + 5 * N) (nI kd)) (158 + 5 * N + 1) c) (158 + 5 * N + 2) w) (158 + 5 * N + 3) 0) (158 + 5 * N + 4) 0) 10 (nI (N + 1))) := by
  unfold kSo
  have ne : ∀ j, 6 ≤ j → j < 20 → ¬ nI kd = nI j := fun j h1 h2 c => by have := (nI_eq (by omega) (by omega)).mp c; omega
  rw [if_neg (show ¬ nI kd = (10 : Int32) from ne 10 (by omega) (by omega)), if_neg (show ¬ nI kd = (11 : Int32) from ne 11 (by omega) (by omega)), if_neg (show ¬ nI kd = (12 : Int32) from ne 12 (by omega) (by omega)), if_neg (show ¬ nI kd = (13 : Int32) from ne 13 (by omega) (by omega)), if_neg (show ¬ nI kd = (14 : Int32) from ne 14 (by omega) (by omega)), if_neg (show ¬ nI kd = (15 : Int32) from ne 15 (by omega) (by omega)), if_neg (show ¬ nI kd = (16 : Int32) from ne 16 (by omega) (by omega)), built_m hN hA, kb2_eq]
theorem it_farm {T : Nat} {by_ tp : Nat → Int32} (X : TX T by_ tp) {a b k : Nat} {so va sm vm : Int32} (K : TK T tp a b so va sm vm) (hk : k ≤ 60) {mo vo ou fe fq pi vt ash nu bu se st z : Int32} {hs ag ws ki ce ow pu ch sh di : Nat → Int32} {A it : Nat → Int32} {fc : Int64} (R : RI mo vo ou fe fq pi vt ash hs ag ws nu bu ki ce ow pu se st z ch sh di A) (F : FC fc nu ce) {kd : Nat} (hkd : kd < 6) : kIt T tp b k mo vo ou fe fq pi ash bu st z A it (kb10 (f_Tx_readFarm (nI T) (nI a) (nI b) so va by_ nu ki ce ow pu (nI kd)) fun r_179 v_tape_start_180 v_tape_end_181 v_tape_sort_182 v_tape_value_183 v_p1_farms_number_184 v_p1_farms_kinds_185 v_p1_farms_cells_186 v_p1_farms_owners_187 v_p1_farms_purses_188 => (if r_179 = 0 ∨ r_179 = 1 then some (r_179, v_tape_start_180, v_tape_end_181, v_tape_sort_182, v_tape_value_183, vt, hs, ag, ws, v_p1_farms_number_184, v_p1_farms_kinds_185, v_p1_farms_cells_186, v_p1_farms_owners_187, v_p1_farms_purses_188, se, ch, sh, di) else none)) (kb9 (f_M_readFarm (nI T) (nI a) (nI b) sm vm 0 (nI k) nu fc tp it (nI kd)) fun v_begins_197 v_ends_198 v_sort_199 v_value_200 v_isWrong_201 v_itemMany_202 v_farmMany_203 v_farmCells_204 v_items_205 => some (v_begins_197, v_ends_198, v_sort_199, v_value_200, v_isWrong_201, v_itemMany_202, v_farmMany_203, v_farmCells_204, v_items_205)) := by
  have hT := X.1
  obtain ⟨N, hN, hnu, hF⟩ := id F
  have hA : A 10 = nI N := R.1.2.2.2.2.2.2.2.2.2.2.2.2.1.trans hnu
  unfold f_Tx_readFarm f_M_readFarm f_M_readFarm_1 f_Fa_isFull
  by_cases full : N < 12
  case neg =>
    have e1 : ¬ nu < 12 := by rw [hnu]; exact nI_nlt (b := 12) (by omega) (by omega)
    have e2 : (12 : Int32) ≤ nu := by rw [hnu]; exact nI_le (a := 12) (by omega) (by omega)
    obtain ⟨r, -, -, w1, -⟩ := isAt_x X K (i := 6) (by omega)
    have w1 : f_M_isWord (nI a) (nI b) sm tp 21 = some r := w1
    refine kIt.no (p := a) (e1 := nI b) (e2 := so) (e3 := va) (vt' := vt) (hs' := hs) (ag' := ag) (ws' := ws) (nu' := nu) (ki' := ki) (ce' := ce) (ow' := ow) (pu' := pu) (se' := se) (ch' := ch) (sh' := sh) (di' := di) (m1 := nI b) (m2 := sm) (m3 := vm) (m4 := nI (k + 1)) (m5 := (nu + 1)) (m6 := (fc ||| 0)) (m7 := up6 it k (nI kd) vm 0 0 0 0) (it := it) (by have := K.1; have := K.2.1; omega) ?_ ?_
    · rw [if_neg e1, kb1_eq, if_neg i10, kb10_eq, b01 (Or.inl rfl)]
    · rw [if_pos e2, must_n, kb5_eq, w1, kb1_eq, must_w, kb5_eq]
      exact (congrArg (fun o => kb9 o _) (kFt_w hk (nI kd) (nI T) (nI a) (nI b) sm vm (nu + 1) fc tp it)).trans (kb9_eq _ _ _ _ _ _ _ _ _ _)
  have e1 : nu < 12 := by rw [hnu]; exact nI_lt (b := 12) full (by decide)
  have e2 : ¬ (12 : Int32) ≤ nu := by rw [hnu]; exact nI_ge (b := 12) full (by decide)
  obtain ⟨a1, b1, so1, va1, sm1, vm1, l1, x1, m1, K1⟩ := go_x X K
  rw [if_pos e1, kb1_eq, if_pos rfl, x1, kb4_eq, if_neg e2, m1, kb5_eq]
  obtain ⟨r, r01, w1, w2, -⟩ := isAt_x X K1 (i := 6) (by omega)
  have w2 : f_M_isWord (nI a1) (nI b1) sm1 tp 21 = some r := w2
  rw [w1, kb1_eq, w2, kb1_eq]
  rcases r01 with rfl | rfl
  · refine kIt.no (p := a1) (e1 := nI b1) (e2 := so1) (e3 := va1) (vt' := vt) (hs' := hs) (ag' := ag) (ws' := ws) (nu' := nu) (ki' := ki) (ce' := ce) (ow' := ow) (pu' := pu) (se' := se) (ch' := ch) (sh' := sh) (di' := di) (m1 := nI b1) (m2 := sm1) (m3 := vm1) (m4 := nI (k + 1)) (m5 := (nu + 1)) (m6 := (fc ||| 0)) (m7 := up6 it k (nI kd) vm1 0 0 0 0) (it := it) (by have := K1.1; have := K1.2.1; omega) ?_ ?_
    · rw [if_pos rfl, kb10_eq, b01 (Or.inl rfl)]
    · rw [must_n, kb5_eq]
      exact (congrArg (fun o => kb9 o _) (kFt_w hk (nI kd) (nI T) (nI a1) (nI b1) sm1 vm1 (nu + 1) fc tp it)).trans (kb9_eq _ _ _ _ _ _ _ _ _ _)
  obtain ⟨a2, b2, so2, va2, sm2, vm2, l2, x2, m2, K2⟩ := go_x X K1
  rw [if_neg i10, x2, kb4_eq, m2, kb5_eq, nl35]
  have fold : ∀ (y : Option (Int32 × Int32 × Int32 × Int32 × Int32 × Int32 × Int32 × Int64 × (Nat → Int32))), kFt (nI kd) (nI T) (nI a2) (nI b2) sm2 vm2 0 (nI k) (nu + 1) fc tp it = y → (if sm2 = (2 : Int32) then kb1 (f_M_isCell vm2) fun r_64 => (if r_64 = 0 then f_M_readFarm_2 (nI kd) vm2 (nI T) (nI a2) (nI b2) sm2 vm2 0 (nI k) (nu + 1) fc tp it else (if (lg_cmp ((fc >>> (vm2.toInt64 &&& 63)) &&& (1 : Int64)) (0 : Int64)) = 0 then f_M_readFarm_3 (1 : Int32) (nI kd) vm2 (nI T) (nI a2) (nI b2) sm2 vm2 0 (nI k) (nu + 1) fc tp it else f_M_readFarm_2 (nI kd) vm2 (nI T) (nI a2) (nI b2) sm2 vm2 0 (nI k) (nu + 1) fc tp it)) else f_M_readFarm_2 (nI kd) vm2 (nI T) (nI a2) (nI b2) sm2 vm2 0 (nI k) (nu + 1) fc tp it) = y := fun y h => h
  rcases num_x X K2 (h := 35) (by omega) with ⟨n1, n2, n3⟩ | ⟨v, a3, b3, so3, va3, sm3, vm3, hv, o2, o3, o4, o5, l3, n1, n2, n3, n4, K3⟩
  · rw [fold _ (kFt_n hk (nI kd) (nI T) (nI a2) (nI b2) sm2 vm2 (nu + 1) fc tp it (fun s2 c hc hvc => absurd ⟨c, by omega, s2, hvc⟩ n3))]
    refine kIt.no (p := a2) (e1 := nI b2) (e2 := so2) (e3 := va2) (vt' := vt) (hs' := hs) (ag' := ag) (ws' := ws) (nu' := nu) (ki' := ki) (ce' := ce) (ow' := ow) (pu' := pu) (se' := se) (ch' := ch) (sh' := sh) (di' := di) (m1 := nI b2) (m2 := sm2) (m3 := vm2) (m4 := nI (k + 1)) (m5 := (nu + 1)) (m6 := (fc ||| 0)) (m7 := up6 it k (nI kd) vm2 0 0 0 0) (it := it) (by have := K2.1; have := K2.2.1; omega) ?_ ?_
    · rw [n1, kb1_eq, if_pos (by decide), kb10_eq, b01 (Or.inl rfl)]
    · rw [kb9_eq]
  have hv36 : v < 36 := by omega
  rw [n1, kb1_eq, if_neg (nI_pos (show v < 2 ^ 31 by omega)), hnu]
  obtain ⟨r, r1, r2⟩ := farmOn_x ce (nI v) hN
  rw [r1, kb1_eq, ← hnu]
  rcases r2 with ⟨rfl, hfree⟩ | ⟨f, hf, rfl, hfc⟩
  case inr =>
    have hh : kHit fc (nI v) = true := (hF v hv36).mpr ⟨f, hf, hfc⟩
    rw [fold _ (kFt_n hk (nI kd) (nI T) (nI a2) (nI b2) sm2 vm2 (nu + 1) fc tp it (fun s2 c hc hvc => by
      have := (nI_eq (by omega) (by omega)).mp (o5.symm.trans hvc)
      rw [← this]; exact hh))]
    refine kIt.no (p := a2) (e1 := nI b2) (e2 := so2) (e3 := va2) (vt' := vt) (hs' := hs) (ag' := ag) (ws' := ws) (nu' := nu) (ki' := ki) (ce' := ce) (ow' := ow) (pu' := pu) (se' := se) (ch' := ch) (sh' := sh) (di' := di) (m1 := nI b2) (m2 := sm2) (m3 := vm2) (m4 := nI (k + 1)) (m5 := (nu + 1)) (m6 := (fc ||| 0)) (m7 := up6 it k (nI kd) vm2 0 0 0 0) (it := it) (by have := K2.1; have := K2.2.1; omega) ?_ ?_
    · rw [if_neg (nI_pos (by omega)), kb10_eq, b01 (Or.inl rfl)]
    · rw [kb9_eq]
  have hh : kHit fc (nI v) = false := by
    cases hq : kHit fc (nI v) with
    | false => rfl
    | true =>
      obtain ⟨f, hf, hfc⟩ := (hF v hv36).mp hq
      exact absurd hfc (hfree f hf)
  have hfc : FC (fc ||| kBit v) (nI (N + 1)) (upd ce N (nI v)) := FC.add full hnu hv36 F
  rw [fold _ (kFt_y hv36 o3 o5 hh), if_pos (by decide), n2, kb4_eq]
  unfold f_M_readFarm_3
  rw [n4, kb5_eq, if_pos rfl]
  unfold f_M_readFarm_4
  rw [if_pos rfl]
  obtain ⟨r, r01, w3, w4, -⟩ := isAt_x X K3 (i := 7) (by omega)
  have w4 : f_M_isWord (nI a3) (nI b3) sm3 tp 22 = some r := w4
  rw [w3, kb1_eq, w4, kb1_eq]
  have fN : nu + 1 = nI (N + 1) := by rw [hnu, nI_1]
  have kb : (1 : Int64) <<< (vm2.toInt64 &&& 63) = kBit v := by rw [o5]; rfl
  unfold f_Tx_readFarm_1
  rcases r01 with rfl | rfl
  · refine kIt.yes hk (show b ≤ a3 by have := K1.1; have := K2.1; omega) K3 ?_ ?_ (x1 := nI kd) (x2 := nI v) (x3 := 0) (x4 := 0) (x5 := 0) (x6 := 0) (kSo_farm hkd full hA _ _) (RI.farm (w := 0) full hnu hkd hv36 hfree R) hfc
    · rw [if_pos rfl, hnu, add_x full, kb6_eq, kb10_eq, b01 (Or.inr rfl)]
    · rw [if_pos rfl, rf5 hk, kb9_eq, kb, o5, fN]
  obtain ⟨a4, b4, so4, va4, sm4, vm4, l4, x4, m4, K4⟩ := go_x X K3
  rw [if_neg i10, if_neg i10, x4, kb4_eq, m4, kb5_eq, nl5]
  rcases num_x X K4 (h := 5) (by omega) with ⟨g1, g2, g3⟩ | ⟨w, a5, b5, so5, va5, sm5, vm5, hw, q2, q3, q4, q5, l5, g1, g2, g3, g4, K5⟩
  · refine kIt.no (p := a4) (e1 := nI b4) (e2 := so4) (e3 := va4) (vt' := vt) (hs' := hs) (ag' := ag) (ws' := ws) (nu' := nu) (ki' := ki) (ce' := ce) (ow' := ow) (pu' := pu) (se' := se) (ch' := ch) (sh' := sh) (di' := di) (m1 := nI b4) (m2 := sm4) (m3 := vm4) (m4 := nI (k + 1)) (m5 := (nu + 1)) (m6 := (fc ||| ((1 : Int64) <<< (vm2.toInt64 &&& 63)))) (m7 := up6 it k (nI kd) vm2 vm4 0 0 0) (it := it) (by have := K4.1; have := K4.2.1; omega) ?_ ?_
    · rw [g1, kb1_eq, if_neg (by decide), kb10_eq, b01 (Or.inl rfl)]
    · rw [g2, kb6_eq, rf5 hk, kb9_eq]
  · refine kIt.yes hk (show b ≤ a5 by have := K1.1; have := K2.1; have := K3.1; have := K4.1; omega) K5 ?_ ?_ (x1 := nI kd) (x2 := nI v) (x3 := nI w) (x4 := 0) (x5 := 0) (x6 := 0) (kSo_farm hkd full hA _ _) (RI.farm (w := nI w) full hnu hkd hv36 hfree R) hfc
    · rw [g1, kb1_eq, if_pos (nI_pos' (by omega)), g2, kb4_eq, hnu, add_x full, kb6_eq, kb10_eq, b01 (Or.inr rfl)]
    · rw [g3, kb6_eq, rf5 hk, kb9_eq, kb, o5, fN]
theorem item_x {T : Nat} {by_ tp : Nat → Int32} (X : TX T by_ tp) {a b k : Nat} {so va sm vm : Int32} (K : TK T tp a b so va sm vm) (hk : k ≤ 60) {mo vo ou fe fq pi vt ash nu bu se st z : Int32} {hs ag ws ki ce ow pu ch sh di : Nat → Int32} {A it : Nat → Int32} {fc : Int64} (R : RI mo vo ou fe fq pi vt ash hs ag ws nu bu ki ce ow pu se st z ch sh di A) (F : FC fc nu ce) : (a < b ∨ ∃ y, f_Tx_readItem (nI T) (nI a) (nI b) so va by_ vt hs ag ws nu ki ce ow pu se ch sh di = some (0, y)) ∧ kIt T tp b k mo vo ou fe fq pi ash bu st z A it (f_Tx_readItem (nI T) (nI a) (nI b) so va by_ vt hs ag ws nu ki ce ow pu se ch sh di) (f_M_readItem (nI T) (nI a) (nI b) sm vm 0 (nI k) nu fc kDown kAlong tp it) := by
  have hT := X.1
  obtain ⟨ρ, H⟩ := words_x X K
  obtain ⟨r, h1, h2, h3⟩ := kind_x H
  unfold f_Tx_readItem f_M_readItem
  rw [h1, kb1_eq, h2, kb1_eq]
  rcases h3 with ⟨rfl, h0⟩ | ⟨i, hi, rfl, hρ⟩
  case inr =>
    rw [if_neg (nI_pos (show i < 2 ^ 31 by omega)), if_neg (nI_pos (show i < 2 ^ 31 by omega))]
    exact ⟨Or.inl ((H.1 i (by omega)).2.2.2 hρ), it_farm X K hk R F hi⟩
  rw [if_pos (by decide), if_pos (by decide)]
  have W : ∀ i, i < 15 → ρ i = 1 → ∀ j, j < 15 → i ≠ j → ρ j = 0 := by
    intro i hi h j hj hne
    rcases (H.1 j hj).1 with y | y
    · exact y
    · exact absurd (H.2 i j hi hj h y) hne
  obtain ⟨g8, x8, m8, p8⟩ := H.1 8 (by omega)
  obtain ⟨g9, x9, m9, p9⟩ := H.1 9 (by omega)
  obtain ⟨g10, x10, m10, p10⟩ := H.1 10 (by omega)
  obtain ⟨g11, x11, m11, p11⟩ := H.1 11 (by omega)
  obtain ⟨g12, x12, m12, p12⟩ := H.1 12 (by omega)
  obtain ⟨g13, x13, m13, p13⟩ := H.1 13 (by omega)
  obtain ⟨g14, x14, m14, p14⟩ := H.1 14 (by omega)
  have m8 : f_M_isWord (nI a) (nI b) sm tp 23 = some (ρ 8) := m8
  have m9 : f_M_isWord (nI a) (nI b) sm tp 24 = some (ρ 9) := m9
  have m10 : f_M_isWord (nI a) (nI b) sm tp 25 = some (ρ 10) := m10
  have m11 : f_M_isWord (nI a) (nI b) sm tp 26 = some (ρ 11) := m11
  have m12 : f_M_isWord (nI a) (nI b) sm tp 27 = some (ρ 12) := m12
  have m13 : f_M_isWord (nI a) (nI b) sm tp 28 = some (ρ 13) := m13
  have m14 : f_M_isWord (nI a) (nI b) sm tp 29 = some (ρ 14) := m14
  rw [x8, kb1_eq, m8, kb1_eq]
  rcases g8 with z8 | z8
  case inr => rw [z8, if_neg i10, if_neg i10]; exact ⟨Or.inl (p8 z8), it_wall X K hk R F⟩
  rw [z8, if_pos rfl, if_pos rfl, x9, kb1_eq, m9, kb1_eq]
  rcases g9 with z9 | z9
  case inr =>
    have z := W 9 (by omega) z9 10 (by omega) (by omega)
    unfold f_M_readItem_3
    rw [z9, if_neg i10, if_neg i10, m10, kb1_eq, z, if_pos rfl]; exact ⟨Or.inl (p9 z9), it_height X K hk R F⟩
  rw [z9, if_pos rfl, if_pos rfl, x10, kb1_eq, m10, kb1_eq]
  rcases g10 with z10 | z10
  case inr =>
    unfold f_M_readItem_3
    rw [m10, kb1_eq, z10, if_neg i10, if_neg i10, if_neg i10]; exact ⟨Or.inl (p10 z10), it_age X K hk R F⟩
  rw [z10, if_pos rfl, if_pos rfl, x11, kb1_eq, m11, kb1_eq]
  rcases g11 with z11 | z11
  case inr => rw [z11, if_neg i10, if_neg i10]; exact ⟨Or.inl (p11 z11), it_vent X K hk R F⟩
  rw [z11, if_pos rfl, if_pos rfl, x12, kb1_eq, m12, kb1_eq]
  rcases g12 with z12 | z12
  case inr =>
    have z := W 12 (by omega) z12 13 (by omega) (by omega)
    unfold f_M_readItem_5
    rw [z12, if_neg i10, if_neg i10, m13, kb1_eq, z, if_pos rfl]; exact ⟨Or.inl (p12 z12), it_chance X K hk R F⟩
  rw [z12, if_pos rfl, if_pos rfl, x13, kb1_eq, m13, kb1_eq]
  rcases g13 with z13 | z13
  case inr =>
    unfold f_M_readItem_5
    rw [m13, kb1_eq, z13, if_neg i10, if_neg i10, if_neg i10]; exact ⟨Or.inl (p13 z13), it_sign X K hk R F⟩
  rw [z13, if_pos rfl, if_pos rfl, x14, kb1_eq, m14, kb1_eq]
  rcases g14 with z14 | z14
  case inr => rw [z14, if_neg i10]; exact ⟨Or.inl (p14 z14), it_sees X K hk R F⟩
  rw [z14, if_pos rfl, must_n, kb5_eq, sees_w hk, kb7_eq]
  refine ⟨Or.inr ⟨_, rfl⟩, ?_⟩
  refine kIt.no (p := a) (e1 := nI b) (e2 := so) (e3 := va) (vt' := vt) (hs' := hs) (ag' := ag) (ws' := ws) (nu' := nu) (ki' := ki) (ce' := ce) (ow' := ow) (pu' := pu) (se' := se) (ch' := ch) (sh' := sh) (di' := di) (m1 := nI b) (m2 := sm) (m3 := vm) (m4 := nI (k + 1)) (m5 := nu) (m6 := fc) (m7 := up6 it k 16 1 vm 0 0 0) (it := it) (by have := K.1; have := K.2.1; omega) ?_ ?_
  · rfl
  · rfl
