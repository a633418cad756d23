/-! items: chance and sign, sees -/
theorem nI_sub {a b : Nat} (h : b ≤ a) : nI a - nI b = nI (a - b) := by
  obtain ⟨d, rfl⟩ : ∃ d, a = d + b := ⟨a - b, by omega⟩
  rw [← nI_add, Int32.add_sub_cancel, show d + b - b = d by omega]
theorem tn_f {T s L i n : Nat} {w st en so va : Int32} {by_ ch sh : Nat → Int32} (hi : i < 4) (h : f_Ta_numberUpTo so va (nI L) = some (-1)) : fl_Tx_readTenths_1 w (nI s) (nI T) by_ (n + 1) (nI L) (nI i) st en so va ch sh = some (0, st, en, so, va, ch, sh) := by
  rw [fl_Tx_readTenths_1_s]
  unfold fb_Tx_readTenths_1
  rw [if_neg (show ¬ (4 : Int32) ≤ nI i from nI_ge (b := 4) hi (by decide)), h, kb1_eq, if_pos (by decide)]
theorem tn_e {T s L v n : Nat} {w st en so va : Int32} {by_ ch sh : Nat → Int32} (hL : L ≤ 10) (hv : v ≤ L) (hne : v ≠ L) (h : f_Ta_numberUpTo so va (nI L) = some (nI v)) : fl_Tx_readTenths_1 w (nI s) (nI T) by_ (n + 1) (nI L) (nI 3) st en so va ch sh = some (0, st, en, so, va, ch, sh) := by
  rw [fl_Tx_readTenths_1_s]
  unfold fb_Tx_readTenths_1
  rw [if_neg (by decide), h, kb1_eq, if_neg (nI_pos (by omega)), if_pos (by decide), if_neg (fun c => hne ((nI_eq (by omega) (by omega)).mp c))]
theorem tn_a0 {T s L i v n : Nat} {st en so va st' en' so' va' : Int32} {by_ ch sh : Nat → Int32} (hs : s < 4) (hi : i < 3) (hL : L ≤ 10) (hv : v ≤ L) (h : f_Ta_numberUpTo so va (nI L) = some (nI v)) (g : f_Ta_goToNext (nI T) st en so va by_ = some (st', en', so', va')) : fl_Tx_readTenths_1 0 (nI s) (nI T) by_ (n + 1) (nI L) (nI i) st en so va ch sh = fl_Tx_readTenths_1 0 (nI s) (nI T) by_ n (nI (L - v)) (nI (i + 1)) st' en' so' va' (upd ch (4 * s + i) (nI v)) sh := by
  rw [fl_Tx_readTenths_1_s]
  unfold fb_Tx_readTenths_1 f_Tx_readTenths_2
  rw [if_neg (show ¬ (4 : Int32) ≤ nI i from nI_ge (b := 4) (by omega) (by decide)), h, kb1_eq, if_neg (nI_pos (by omega)), if_neg (fun c : nI i = (3 : Int32) => absurd ((nI_eq (b := 3) (by omega) (by decide)).mp c) (by omega)), g, kb4_eq, Mo_putTenth_0 ch sh (nI v) hs (by omega), kb2_eq, nI_sub hv, nI_1]
theorem tn_l0 {T s L n : Nat} {st en so va st' en' so' va' : Int32} {by_ ch sh : Nat → Int32} (hs : s < 4) (hL : L ≤ 10) (h : f_Ta_numberUpTo so va (nI L) = some (nI L)) (g : f_Ta_goToNext (nI T) st en so va by_ = some (st', en', so', va')) : fl_Tx_readTenths_1 0 (nI s) (nI T) by_ (n + 1 + 1) (nI L) (nI 3) st en so va ch sh = some (1, st', en', so', va', upd ch (4 * s + 3) (nI L), sh) := by
  rw [fl_Tx_readTenths_1_s]
  unfold fb_Tx_readTenths_1 f_Tx_readTenths_2
  rw [if_neg (by decide), h, kb1_eq, if_neg (nI_pos (by omega)), if_pos (by decide), if_pos rfl, g, kb4_eq, Mo_putTenth_0 ch sh (nI L) hs (by omega), kb2_eq, fl_Tx_readTenths_1_s]
  unfold fb_Tx_readTenths_1
  rw [if_pos (by decide)]
theorem tn_a1 {T s L i v n : Nat} {st en so va st' en' so' va' : Int32} {by_ ch sh : Nat → Int32} (hs : s < 4) (hi : i < 3) (hL : L ≤ 10) (hv : v ≤ L) (h : f_Ta_numberUpTo so va (nI L) = some (nI v)) (g : f_Ta_goToNext (nI T) st en so va by_ = some (st', en', so', va')) : fl_Tx_readTenths_1 1 (nI s) (nI T) by_ (n + 1) (nI L) (nI i) st en so va ch sh = fl_Tx_readTenths_1 1 (nI s) (nI T) by_ n (nI (L - v)) (nI (i + 1)) st' en' so' va' ch (upd sh (4 * s + i) (nI v)) := by
  rw [fl_Tx_readTenths_1_s]
  unfold fb_Tx_readTenths_1 f_Tx_readTenths_2
  rw [if_neg (show ¬ (4 : Int32) ≤ nI i from nI_ge (b := 4) (by omega) (by decide)), h, kb1_eq, if_neg (nI_pos (by omega)), if_neg (fun c : nI i = (3 : Int32) => absurd ((nI_eq (b := 3) (by omega) (by decide)).mp c) (by omega)), g, kb4_eq, Mo_putTenth_1 ch sh (by decide) (nI v) hs (by omega), kb2_eq, nI_sub hv, nI_1]
theorem tn_l1 {T s L n : Nat} {st en so va st' en' so' va' : Int32} {by_ ch sh : Nat → Int32} (hs : s < 4) (hL : L ≤ 10) (h : f_Ta_numberUpTo so va (nI L) = some (nI L)) (g : f_Ta_goToNext (nI T) st en so va by_ = some (st', en', so', va')) : fl_Tx_readTenths_1 1 (nI s) (nI T) by_ (n + 1 + 1) (nI L) (nI 3) st en so va ch sh = some (1, st', en', so', va', ch, upd sh (4 * s + 3) (nI L)) := by
  rw [fl_Tx_readTenths_1_s]
  unfold fb_Tx_readTenths_1 f_Tx_readTenths_2
  rw [if_neg (by decide), h, kb1_eq, if_neg (nI_pos (by omega)), if_pos (by decide), if_pos rfl, g, kb4_eq, Mo_putTenth_1 ch sh (by decide) (nI L) hs (by omega), kb2_eq, fl_Tx_readTenths_1_s]
  unfold fb_Tx_readTenths_1
  rw [if_pos (by decide)]
/-- the last tenth: just what is left -/
theorem num_e {T : Nat} {by_ tp : Nat → Int32} (X : TX T by_ tp) {a b : Nat} {so va sm vm : Int32} (K : TK T tp a b so va sm vm) {h : Nat} (hh : h ≤ 99) :
    ((f_Ta_numberUpTo so va (nI h) = some (-1) ∨ ∃ v, v ≤ h ∧ v ≠ h ∧ f_Ta_numberUpTo so va (nI h) = some (nI v)) ∧ f_M_number (nI T) (nI a) (nI b) sm vm 0 tp (nI h) (nI h) = some (vm, nI a, nI b, sm, vm, 1)) ∨
    ∃ a' b' so' va' sm' vm', b ≤ a' ∧ f_Ta_numberUpTo so va (nI h) = some (nI h) ∧ f_Ta_goToNext (nI T) (nI a) (nI b) so va by_ = some (nI a', nI b', so', va') ∧ f_M_number (nI T) (nI a) (nI b) sm vm 0 tp (nI h) (nI h) = some (nI h, nI a', nI b', sm', vm', 0) ∧ TK T tp a' b' so' va' sm' vm' := by
  have nw : (sm = 2 → f_M_within vm (nI h) (nI h) = some 0) → f_M_number (nI T) (nI a) (nI b) sm vm 0 tp (nI h) (nI h) = some (vm, nI a, nI b, sm, vm, 1) := by
    intro y
    unfold f_M_number f_M_number_1 f_M_number_2
    by_cases q : sm = 2
    · rw [if_pos q, y q, kb1_eq, if_pos rfl, must_n, kb5_eq]
    · rw [if_neg q, must_n, kb5_eq]
  rcases num_x X K hh with ⟨n1, n2, n3⟩ | ⟨v, a', b', so', va', sm', vm', hv, o1, o2, o3, o4, l, n1, n2, n3, n4, K'⟩
  · refine Or.inl ⟨Or.inl n1, nw (fun s2 => ?_)⟩
    rcases within_or vm (nI h) (nI h) with ⟨y, -⟩ | ⟨-, y1, y2⟩
    · exact y
    · exfalso
      refine n3 ⟨h, Nat.le_refl _, s2, ?_⟩
      rw [Int32.lt_iff_toInt_lt] at y1 y2
      exact Int32.toInt_inj.mp (by omega)
  · by_cases q : v = h
    · subst q
      refine Or.inr ⟨a', b', so', va', sm', vm', l, n1, n2, ?_, K'⟩
      unfold f_M_number f_M_number_1 f_M_number_2
      rw [if_pos o2, o4, within_y (nI_nlt (Nat.le_refl _) (by omega)) (nI_nlt (Nat.le_refl _) (by omega)), kb1_eq, if_neg i10, ← o4, n4, kb5_eq]
    · refine Or.inl ⟨Or.inr ⟨v, hv, q, n1⟩, nw (fun _ => ?_)⟩
      rw [o4]
      exact within_n (Or.inl (nI_lt (by omega) (by omega)))
theorem it_chance {T : Nat} {by_ tp : Nat → Int32} (X : TX T by_ tp) {a b k : Nat} {so va sm vm : Int32} (K : TK T tp a b so va sm vm) (hk : k ≤ 60) {mo vo ou fe fq pi vt ash nu bu se st z : Int32} {hs ag ws ki ce ow pu ch sh di : Nat → Int32} {A it : Nat → Int32} {fc : Int64} (R : RI mo vo ou fe fq pi vt ash hs ag ws nu bu ki ce ow pu se st z ch sh di A) (F : FC fc nu ce) : kIt T tp b k mo vo ou fe fq pi ash bu st z A it (kb7 (f_Tx_readTenths (nI T) (nI a) (nI b) so va by_ ch sh (0 : Int32)) fun r_138 v_tape_start_139 v_tape_end_140 v_tape_sort_141 v_tape_value_142 v_p1_mountain_chances_143 v_p1_mountain_shows_144 => (if r_138 = 0 ∨ r_138 = 1 then some (r_138, v_tape_start_139, v_tape_end_140, v_tape_sort_141, v_tape_value_142, vt, hs, ag, ws, nu, ki, ce, ow, pu, se, v_p1_mountain_chances_143, v_p1_mountain_shows_144, di) else none)) (f_M_readItem_6 (14 : Int32) (nI T) (nI a) (nI b) sm vm 0 (nI k) nu fc tp it) := by
  have hT := X.1
  obtain ⟨a1, b1, so1, va1, sm1, vm1, l1, x1, m1, K1⟩ := go_x X K
  unfold f_Tx_readTenths f_M_readItem_6 f_M_readTenths
  rw [nl10, nl3, x1, kb4_eq, m1, kb5_eq]
  rcases num_x X K1 (h := 3) (by omega) with ⟨n1, n2, n3⟩ | ⟨s, a2, b2, so2, va2, sm2, vm2, hsv, o2, o3, o4, o5, l2, n1, n2, n3, n4, K2⟩
  · refine kIt.no (p := a1) (e1 := nI b1) (e2 := so1) (e3 := va1) (vt' := vt) (hs' := hs) (ag' := ag) (ws' := ws) (nu' := nu) (ki' := ki) (ce' := ce) (ow' := ow) (pu' := pu) (se' := se) (ch' := ch) (sh' := sh) (di' := di) (m1 := nI b1) (m2 := sm1) (m3 := vm1) (m4 := nI (k + 1)) (m5 := nu) (m6 := fc) (m7 := up6 it k 14 vm1 vm1 vm1 vm1 vm1) (it := it) (by have := K1.1; have := K1.2.1; omega) ?_ ?_
    · rw [n1, kb1_eq, if_neg (by decide), kb7_eq, b01 (Or.inl rfl)]
    · rw [n2, kb6_eq, number_w, kb6_eq, number_w, kb6_eq, number_w, kb6_eq, number_w, kb6_eq, item_m hk, kb2_eq, kb7_eq]
  have hs4 : s < 4 := by omega
  rw [n1, kb1_eq, if_pos (nI_pos' (show s < 2 ^ 31 by omega)), n2, kb4_eq, n3, kb6_eq, show fl_Tx_readTenths_1 0 (nI s) (nI T) by_ kFuel (nI 10) 0 (nI a2) (nI b2) so2 va2 ch sh = fl_Tx_readTenths_1 0 (nI s) (nI T) by_ (1018 + 1 + 1 + 1 + 1 + 1 + 1) (nI 10) (nI 0) (nI a2) (nI b2) so2 va2 ch sh from rfl]
  rcases num_x X K2 (h := 10) (by omega) with ⟨g1, g2, g3⟩ | ⟨u0, a3, b3, so3, va3, sm3, vm3, hu0, q2, q3, q4, q5, l3, g1, g2, g3, g4, K3⟩
  · refine kIt.no (p := a2) (e1 := nI b2) (e2 := so2) (e3 := va2) (vt' := vt) (hs' := hs) (ag' := ag) (ws' := ws) (nu' := nu) (ki' := ki) (ce' := ce) (ow' := ow) (pu' := pu) (se' := se) (ch' := ch) (sh' := sh) (di' := di) (m1 := nI b2) (m2 := sm2) (m3 := vm2) (m4 := nI (k + 1)) (m5 := nu) (m6 := fc) (m7 := up6 it k 14 (nI s) vm2 vm2 vm2 vm2) (it := it) (by have := K2.1; have := K2.2.1; omega) ?_ ?_
    · rw [tn_f (by omega) g1, kb7_eq, b01 (Or.inl rfl)]
    · rw [g2, kb6_eq, number_w, kb6_eq, number_w, kb6_eq, number_w, kb6_eq, item_m hk, kb2_eq, kb7_eq]
  rw [tn_a0 hs4 (by omega) (by omega) hu0 g1 g2, g3, kb6_eq, nI_sub hu0]
  clear n1 n2 n3 n4 g1 g2 g3 g4
  rcases num_x X K3 (h := 10 - u0) (by omega) with ⟨g1, g2, g3⟩ | ⟨u1, a4, b4, so4, va4, sm4, vm4, hu1, q2, q3, q4, q5, l4, g1, g2, g3, g4, K4⟩
  · refine kIt.no (p := a3) (e1 := nI b3) (e2 := so3) (e3 := va3) (vt' := vt) (hs' := hs) (ag' := ag) (ws' := ws) (nu' := nu) (ki' := ki) (ce' := ce) (ow' := ow) (pu' := pu) (se' := se) (ch' := (upd ch (4 * s + 0) (nI u0))) (sh' := sh) (di' := di) (m1 := nI b3) (m2 := sm3) (m3 := vm3) (m4 := nI (k + 1)) (m5 := nu) (m6 := fc) (m7 := up6 it k 14 (nI s) (nI u0) vm3 vm3 vm3) (it := it) (by have := K3.1; have := K3.2.1; omega) ?_ ?_
    · rw [tn_f (by omega) g1, kb7_eq, b01 (Or.inl rfl)]
    · rw [g2, kb6_eq, number_w, kb6_eq, number_w, kb6_eq, item_m hk, kb2_eq, kb7_eq]
  rw [tn_a0 hs4 (by omega) (by omega) hu1 g1 g2, g3, kb6_eq, nI_sub hu1]
  clear g1 g2 g3 g4
  rcases num_x X K4 (h := 10 - u0 - u1) (by omega) with ⟨g1, g2, g3⟩ | ⟨u2, a5, b5, so5, va5, sm5, vm5, hu2, q2, q3, q4, q5, l5, g1, g2, g3, g4, K5⟩
  · refine kIt.no (p := a4) (e1 := nI b4) (e2 := so4) (e3 := va4) (vt' := vt) (hs' := hs) (ag' := ag) (ws' := ws) (nu' := nu) (ki' := ki) (ce' := ce) (ow' := ow) (pu' := pu) (se' := se) (ch' := (upd (upd ch (4 * s + 0) (nI u0)) (4 * s + 1) (nI u1))) (sh' := sh) (di' := di) (m1 := nI b4) (m2 := sm4) (m3 := vm4) (m4 := nI (k + 1)) (m5 := nu) (m6 := fc) (m7 := up6 it k 14 (nI s) (nI u0) (nI u1) vm4 vm4) (it := it) (by have := K4.1; have := K4.2.1; omega) ?_ ?_
    · rw [tn_f (by omega) g1, kb7_eq, b01 (Or.inl rfl)]
    · rw [g2, kb6_eq, number_w, kb6_eq, item_m hk, kb2_eq, kb7_eq]
  rw [tn_a0 hs4 (by omega) (by omega) hu2 g1 g2, g3, kb6_eq, nI_sub hu2]
  clear g1 g2 g3 g4
  rcases num_e X K5 (h := 10 - u0 - u1 - u2) (by omega) with ⟨g1, g2⟩ | ⟨a6, b6, so6, va6, sm6, vm6, l6, g1, g2, g3, K6⟩
  · refine kIt.no (p := a5) (e1 := nI b5) (e2 := so5) (e3 := va5) (vt' := vt) (hs' := hs) (ag' := ag) (ws' := ws) (nu' := nu) (ki' := ki) (ce' := ce) (ow' := ow) (pu' := pu) (se' := se) (ch' := (upd (upd (upd ch (4 * s + 0) (nI u0)) (4 * s + 1) (nI u1)) (4 * s + 2) (nI u2))) (sh' := sh) (di' := di) (m1 := nI b5) (m2 := sm5) (m3 := vm5) (m4 := nI (k + 1)) (m5 := nu) (m6 := fc) (m7 := up6 it k 14 (nI s) (nI u0) (nI u1) (nI u2) vm5) (it := it) (by have := K5.1; have := K5.2.1; omega) ?_ ?_
    · rcases g1 with g1 | ⟨v, v1, v2, g1⟩
      · rw [tn_f (by omega) g1, kb7_eq, b01 (Or.inl rfl)]
      · rw [tn_e (by omega) v1 v2 g1, kb7_eq, b01 (Or.inl rfl)]
    · rw [g2, kb6_eq, item_m hk, kb2_eq, kb7_eq]
  · refine kIt.yes hk (show b ≤ a6 by have := K1.1; have := K2.1; have := K3.1; have := K4.1; have := K5.1; omega) K6 ?_ ?_ (x1 := 14) (x2 := nI s) (x3 := nI u0) (x4 := nI u1) (x5 := nI u2) (x6 := nI (10 - u0 - u1 - u2)) ?_ (RI.tch (a := u0) (b := u1) (c := u2) hs4 (by omega) R) F
    · rw [tn_l0 hs4 (by omega) g1 g2, kb7_eq, b01 (Or.inr rfl)]
    · rw [g3, kb6_eq, item_m hk, kb2_eq, kb7_eq]
    · unfold kSo
      rw [if_neg (by decide), if_neg (by decide), if_neg (by decide), if_neg (by decide), if_pos rfl, nl18, nl4, pk_mul, nI_add, M_putTenths_eq A (by omega) (by omega), kb1_eq]
theorem it_sign {T : Nat} {by_ tp : Nat → Int32} (X : TX T by_ tp) {a b k : Nat} {so va sm vm : Int32} (K : TK T tp a b so va sm vm) (hk : k ≤ 60) {mo vo ou fe fq pi vt ash nu bu se st z : Int32} {hs ag ws ki ce ow pu ch sh di : Nat → Int32} {A it : Nat → Int32} {fc : Int64} (R : RI mo vo ou fe fq pi vt ash hs ag ws nu bu ki ce ow pu se st z ch sh di A) (F : FC fc nu ce) : kIt T tp b k mo vo ou fe fq pi ash bu st z A it (kb7 (f_Tx_readTenths (nI T) (nI a) (nI b) so va by_ ch sh (1 : Int32)) fun r_129 v_tape_start_130 v_tape_end_131 v_tape_sort_132 v_tape_value_133 v_p1_mountain_chances_134 v_p1_mountain_shows_135 => (if r_129 = 0 ∨ r_129 = 1 then some (r_129, v_tape_start_130, v_tape_end_131, v_tape_sort_132, v_tape_value_133, vt, hs, ag, ws, nu, ki, ce, ow, pu, se, v_p1_mountain_chances_134, v_p1_mountain_shows_135, di) else none)) (f_M_readItem_6 (15 : Int32) (nI T) (nI a) (nI b) sm vm 0 (nI k) nu fc tp it) := by
  have hT := X.1
  obtain ⟨a1, b1, so1, va1, sm1, vm1, l1, x1, m1, K1⟩ := go_x X K
  unfold f_Tx_readTenths f_M_readItem_6 f_M_readTenths
  rw [nl10, nl3, x1, kb4_eq, m1, kb5_eq]
  rcases num_x X K1 (h := 3) (by omega) with ⟨n1, n2, n3⟩ | ⟨s, a2, b2, so2, va2, sm2, vm2, hsv, o2, o3, o4, o5, l2, n1, n2, n3, n4, K2⟩
  · refine kIt.no (p := a1) (e1 := nI b1) (e2 := so1) (e3 := va1) (vt' := vt) (hs' := hs) (ag' := ag) (ws' := ws) (nu' := nu) (ki' := ki) (ce' := ce) (ow' := ow) (pu' := pu) (se' := se) (ch' := ch) (sh' := sh) (di' := di) (m1 := nI b1) (m2 := sm1) (m3 := vm1) (m4 := nI (k + 1)) (m5 := nu) (m6 := fc) (m7 := up6 it k 15 vm1 vm1 vm1 vm1 vm1) (it := it) (by have := K1.1; have := K1.2.1; omega) ?_ ?_
    · rw [n1, kb1_eq, if_neg (by decide), kb7_eq, b01 (Or.inl rfl)]
    · rw [n2, kb6_eq, number_w, kb6_eq, number_w, kb6_eq, number_w, kb6_eq, number_w, kb6_eq, item_m hk, kb2_eq, kb7_eq]
  have hs4 : s < 4 := by omega
  rw [n1, kb1_eq, if_pos (nI_pos' (show s < 2 ^ 31 by omega)), n2, kb4_eq, n3, kb6_eq, show fl_Tx_readTenths_1 1 (nI s) (nI T) by_ kFuel (nI 10) 0 (nI a2) (nI b2) so2 va2 ch sh = fl_Tx_readTenths_1 1 (nI s) (nI T) by_ (1018 + 1 + 1 + 1 + 1 + 1 + 1) (nI 10) (nI 0) (nI a2) (nI b2) so2 va2 ch sh from rfl]
  rcases num_x X K2 (h := 10) (by omega) with ⟨g1, g2, g3⟩ | ⟨u0, a3, b3, so3, va3, sm3, vm3, hu0, q2, q3, q4, q5, l3, g1, g2, g3, g4, K3⟩
  · refine kIt.no (p := a2) (e1 := nI b2) (e2 := so2) (e3 := va2) (vt' := vt) (hs' := hs) (ag' := ag) (ws' := ws) (nu' := nu) (ki' := ki) (ce' := ce) (ow' := ow) (pu' := pu) (se' := se) (ch' := ch) (sh' := sh) (di' := di) (m1 := nI b2) (m2 := sm2) (m3 := vm2) (m4 := nI (k + 1)) (m5 := nu) (m6 := fc) (m7 := up6 it k 15 (nI s) vm2 vm2 vm2 vm2) (it := it) (by have := K2.1; have := K2.2.1; omega) ?_ ?_
    · rw [tn_f (by omega) g1, kb7_eq, b01 (Or.inl rfl)]
    · rw [g2, kb6_eq, number_w, kb6_eq, number_w, kb6_eq, number_w, kb6_eq, item_m hk, kb2_eq, kb7_eq]
  rw [tn_a1 hs4 (by omega) (by omega) hu0 g1 g2, g3, kb6_eq, nI_sub hu0]
  clear n1 n2 n3 n4 g1 g2 g3 g4
  rcases num_x X K3 (h := 10 - u0) (by omega) with ⟨g1, g2, g3⟩ | ⟨u1, a4, b4, so4, va4, sm4, vm4, hu1, q2, q3, q4, q5, l4, g1, g2, g3, g4, K4⟩
  · refine kIt.no (p := a3) (e1 := nI b3) (e2 := so3) (e3 := va3) (vt' := vt) (hs' := hs) (ag' := ag) (ws' := ws) (nu' := nu) (ki' := ki) (ce' := ce) (ow' := ow) (pu' := pu) (se' := se) (ch' := ch) (sh' := (upd sh (4 * s + 0) (nI u0))) (di' := di) (m1 := nI b3) (m2 := sm3) (m3 := vm3) (m4 := nI (k + 1)) (m5 := nu) (m6 := fc) (m7 := up6 it k 15 (nI s) (nI u0) vm3 vm3 vm3) (it := it) (by have := K3.1; have := K3.2.1; omega) ?_ ?_
    · rw [tn_f (by omega) g1, kb7_eq, b01 (Or.inl rfl)]
    · rw [g2, kb6_eq, number_w, kb6_eq, number_w, kb6_eq, item_m hk, kb2_eq, kb7_eq]
  rw [tn_a1 hs4 (by omega) (by omega) hu1 g1 g2, g3, kb6_eq, nI_sub hu1]
  clear g1 g2 g3 g4
  rcases num_x X K4 (h := 10 - u0 - u1) (by omega) with ⟨g1, g2, g3⟩ | ⟨u2, a5, b5, so5, va5, sm5, vm5, hu2, q2, q3, q4, q5, l5, g1, g2, g3, g4, K5⟩
  · refine kIt.no (p := a4) (e1 := nI b4) (e2 := so4) (e3 := va4) (vt' := vt) (hs' := hs) (ag' := ag) (ws' := ws) (nu' := nu) (ki' := ki) (ce' := ce) (ow' := ow) (pu' := pu) (se' := se) (ch' := ch) (sh' := (upd (upd sh (4 * s + 0) (nI u0)) (4 * s + 1) (nI u1))) (di' := di) (m1 := nI b4) (m2 := sm4) (m3 := vm4) (m4 := nI (k + 1)) (m5 := nu) (m6 := fc) (m7 := up6 it k 15 (nI s) (nI u0) (nI u1) vm4 vm4) (it := it) (by have := K4.1; have := K4.2.1; omega) ?_ ?_
    · rw [tn_f (by omega) g1, kb7_eq, b01 (Or.inl rfl)]
    · rw [g2, kb6_eq, number_w, kb6_eq, item_m hk, kb2_eq, kb7_eq]
  rw [tn_a1 hs4 (by omega) (by omega) hu2 g1 g2, g3, kb6_eq, nI_sub hu2]
  clear g1 g2 g3 g4
  rcases num_e X K5 (h := 10 - u0 - u1 - u2) (by omega) with ⟨g1, g2⟩ | ⟨a6, b6, so6, va6, sm6, vm6, l6, g1, g2, g3, K6⟩
  · refine kIt.no (p := a5) (e1 := nI b5) (e2 := so5) (e3 := va5) (vt' := vt) (hs' := hs) (ag' := ag) (ws' := ws) (nu' := nu) (ki' := ki) (ce' := ce) (ow' := ow) (pu' := pu) (se' := se) (ch' := ch) (sh' := (upd (upd (upd sh (4 * s + 0) (nI u0)) (4 * s + 1) (nI u1)) (4 * s + 2) (nI u2))) (di' := di) (m1 := nI b5) (m2 := sm5) (m3 := vm5) (m4 := nI (k + 1)) (m5 := nu) (m6 := fc) (m7 := up6 it k 15 (nI s) (nI u0) (nI u1) (nI u2) vm5) (it := it) (by have := K5.1; have := K5.2.1; omega) ?_ ?_
    · rcases g1 with g1 | ⟨v, v1, v2, g1⟩
      · rw [tn_f (by omega) g1, kb7_eq, b01 (Or.inl rfl)]
      · rw [tn_e (by omega) v1 v2 g1, kb7_eq, b01 (Or.inl rfl)]
    · rw [g2, kb6_eq, item_m hk, kb2_eq, kb7_eq]
  · refine kIt.yes hk (show b ≤ a6 by have := K1.1; have := K2.1; have := K3.1; have := K4.1; have := K5.1; omega) K6 ?_ ?_ (x1 := 15) (x2 := nI s) (x3 := nI u0) (x4 := nI u1) (x5 := nI u2) (x6 := nI (10 - u0 - u1 - u2)) ?_ (RI.tsh (a := u0) (b := u1) (c := u2) hs4 (by omega) R) F
    · rw [tn_l1 hs4 (by omega) g1 g2, kb7_eq, b01 (Or.inr rfl)]
    · rw [g3, kb6_eq, item_m hk, kb2_eq, kb7_eq]
    · unfold kSo
      rw [if_neg (by decide), if_neg (by decide), if_neg (by decide), if_neg (by decide), if_neg (by decide), if_pos rfl, nl34, nl4, pk_mul, nI_add, M_putTenths_eq A (by omega) (by omega), kb1_eq]
theorem sees_w {k : Nat} (hk : k ≤ 60) (n be en sm vm : Int32) (tp it : Nat → Int32) : f_M_readSees n be en sm vm 1 (nI k) tp it = some (be, en, sm, vm, 1, nI (k + 1), up6 it k 16 1 vm 0 0 0) := by
  unfold f_M_readSees
  rw [number_w, kb6_eq]
  show fl_M_readSees_1 n (nI k) tp it (1023 + 1) 1 vm be en sm vm 1 = _
  rw [fl_M_readSees_1_s]
  unfold fb_M_readSees_1 f_M_readSees_4
  rw [if_neg i10, item_m hk, kb2_eq]
theorem or_n {a b : Nat} (ha : a < 2 ^ 31) (hb : b < 2 ^ 31) (hab : a ||| b < 2 ^ 31) : nI a ||| nI b = nI (a ||| b) := by
  apply Int32.toBitVec_inj.mp
  apply BitVec.eq_of_toNat_eq
  rw [Int32.toBitVec_or, BitVec.toNat_or, pk_tn (by omega), pk_tn (by omega), pk_tn (by omega)]
theorem sg_put {S v q : Nat} (hv : v < 4) (hq : q < 6) (hS : S < 4 ^ q) : nI S ||| (nI v <<< ((2 * nI q) &&& 31)) = nI (S + v * 4 ^ q) ∧ S + v * 4 ^ q < 4 ^ (q + 1) := by
  have e1 : ∀ q, q < 6 → ((((2 : Int32) * nI q) &&& 31).toBitVec.smod 32).toNat = 2 * q := by decide +kernel
  have e4 : (4 : Nat) ^ q = 2 ^ (2 * q) := by rw [Nat.pow_mul]
  have l6 : (2 : Nat) ^ (2 * q) ≤ 2 ^ 10 := Nat.pow_le_pow_right (by decide) (by omega)
  have l7 : v * 2 ^ (2 * q) < 2 ^ 32 := Nat.lt_of_le_of_lt (Nat.mul_le_mul (show v ≤ 3 by omega) l6) (by decide)
  refine ⟨?_, ?_⟩
  · rw [pk_shlN _ (2 * q) (e1 q hq) l7, e4]
    rw [e4] at hS
    have := Nat.two_pow_add_eq_or_of_lt hS v
    have l8 : v * 2 ^ (2 * q) ≤ 3 * 2 ^ 10 := Nat.mul_le_mul (by omega) l6
    rw [or_n (by omega) (by omega) (by rw [Nat.or_comm, Nat.mul_comm v, ← this, Nat.mul_comm]; omega), Nat.or_comm, Nat.mul_comm v, ← this, Nat.add_comm]
  · rw [Nat.pow_succ]
    have : v * 4 ^ q ≤ 3 * 4 ^ q := Nat.mul_le_mul_right _ (by omega)
    omega
theorem sg_get {S i : Nat} (hS : S < 4096) (hi : i < 6) : (nI S >>> ((2 * nI i) &&& 31)) &&& (3 : Int32) = nI (S / 4 ^ i % 4) := by
  have e1 : ∀ q, q < 6 → ((((2 : Int32) * nI q) &&& 31).toBitVec.smod 32).toNat = 2 * q := by decide +kernel
  have e4 : (4 : Nat) ^ i = 2 ^ (2 * i) := by rw [Nat.pow_mul]
  rw [pk_shrN (by omega) _ (2 * i) (e1 i hi), pk_andN (Nat.lt_of_le_of_lt (Nat.div_le_self _ _) (by omega)) 2 (by decide), e4]
theorem sg_dig {S v q i : Nat} (hS : S < 4 ^ q) (hv : v < 4) (hi : i ≤ q) : (S + v * 4 ^ q) / 4 ^ i % 4 = if i = q then v else S / 4 ^ i % 4 := by
  by_cases y : i = q
  · subst y
    rw [if_pos rfl, Nat.add_mul_div_right _ _ (Nat.pow_pos (by decide)), Nat.div_eq_of_lt hS, Nat.zero_add, Nat.mod_eq_of_lt hv]
  · rw [if_neg y]
    obtain ⟨d, rfl⟩ : ∃ d, q = i + (d + 1) := ⟨q - i - 1, by omega⟩
    rw [Nat.pow_add, ← Nat.mul_assoc, Nat.mul_comm v, Nat.mul_assoc, Nat.add_mul_div_left _ _ (Nat.pow_pos (by decide)), Nat.pow_succ, ← Nat.mul_assoc, Nat.add_mul_mod_self_right]
theorem RI.dia {mo vo ou fe fq pi vt ash nu bu se st z : Int32} {hs ag ws ki ce ow pu ch sh di : Nat → Int32} {A : Nat → Int32} (R : RI mo vo ou fe fq pi vt ash hs ag ws nu bu ki ce ow pu se st z ch sh di A) {Q : Nat} {d A' : Nat → Int32} (hQ : Q ≤ 6) (hd : ∀ i, i < Q → ∃ k, k < 4 ∧ d i = nI k) (h11 : A' 11 = nI Q) (h12 : ∀ i, i < 6 → A' (12 + i) = d i) (ho : ∀ j, j < 11 ∨ 18 ≤ j → A' j = A j) : RI mo vo ou fe fq pi vt ash hs ag ws nu bu ki ce ow pu ((nI Q)) st z ch sh d A' := by
  obtain ⟨⟨⟨r1, r2, r3, r4, r5, r6⟩, r7, r8⟩, i1, i2, i3, i4, i5, i6, i7, i8, i9, i10'⟩ := R
  refine ⟨⟨⟨fun i hi => (ho _ (by omega)).trans (r1 i hi), fun i hi => (ho _ (by omega)).trans (r2 i hi), fun i hi => (ho _ (by omega)).trans (r3 i hi), fun i hi => (ho _ (by omega)).trans (r4 i hi), fun i hi => (ho _ (by omega)).trans (r5 i hi), h12⟩, fun f hf => ?_, ?_⟩, i1, i2, i3, i4, i5, i6, ⟨Q, hQ, rfl, hd⟩, i8, i9, i10'⟩
  · obtain ⟨f0, f1, f2, f3, f4⟩ := r7 f hf
    exact ⟨(ho _ (by omega)).trans f0, (ho _ (by omega)).trans f1, (ho _ (by omega)).trans f2, (ho _ (by omega)).trans f3, (ho _ (by omega)).trans f4⟩
  · obtain ⟨s0, s1, s2, s3, s4, s5, s6, s7, s8, s9, s10, s11⟩ := r8
    exact ⟨(ho _ (by omega)).trans s0, (ho _ (by omega)).trans s1, (ho _ (by omega)).trans s2, (ho _ (by omega)).trans s3, (ho _ (by omega)).trans s4, (ho _ (by omega)).trans s5, (ho _ (by omega)).trans s6, (ho _ (by omega)).trans s7, (ho _ (by omega)).trans s8, (ho _ (by omega)).trans s9, (ho _ (by omega)).trans s10, h11⟩
theorem isSo1_l {Q S : Nat} (hQ : Q ≤ 6) (hS : S < 4096) : ∀ n i B, Q - i < n → i ≤ Q → ∃ B', fl_M_isSo_1 (nI Q) (nI S) n (nI i) B = some B' ∧ ∀ j, B' j = if 12 + i ≤ j ∧ j < 12 + Q then nI (S / 4 ^ (j - 12) % 4) else B j := by
  intro n
  induction n with
  | zero => intro i _ h; exact absurd h (by omega)
  | succ n ih =>
    intro i B h hi
    rw [fl_M_isSo_1_s]
    unfold fb_M_isSo_1
    by_cases q : i = Q
    · subst q
      exact ⟨B, by rw [if_pos (nI_le (Nat.le_refl _) (by omega))], fun j => (if_neg (by omega)).symm⟩
    · have k1 : (nI (12 + i)).toNatClampNeg = 12 + i := nI_clamp (by omega)
      rw [if_neg (nI_ge (by omega) (by omega)), nl12, nI_add, kx (k := 12 + i) (n := 218) (by omega) (by decide), k1, nI_1, sg_get hS (by omega)]
      obtain ⟨B', e1, e2⟩ := ih (i + 1) (upd B (12 + i) (nI (S / 4 ^ i % 4))) (by omega) (by omega)
      refine ⟨B', e1, fun j => ?_⟩
      rw [e2]
      by_cases z : j = 12 + i
      · subst z
        rw [if_neg (by omega), pk_us, if_pos (by omega), show 12 + i - 12 = i by omega]
      · rw [pk_un z]
        exact ite_iff' (by omega) _ _
/-- what reading the signs comes to -/
def kSg (T : Nat) (tp : Nat → Int32) (b k : Nat) (di it : Nat → Int32) (ox : Option (Int32 × Int32 × Int32 × Int32 × Int32 × Int32 × (Nat → Int32))) (om : Option (Int32 × Int32 × Int32 × Int32 × Int32 × Int32 × (Nat → Int32))) : Prop :=
  (∃ p e1 e2 e3 e4 e5 m1 m2 m3 m4 m5, p ≤ 120 ∧ ox = some (0, nI p, e1, e2, e3, e4, e5) ∧ om = some (nI p, m1, m2, m3, 1, m4, m5)) ∨
  ∃ a' b' so' va' sm' vm' Q S di', b ≤ a' ∧ TK T tp a' b' so' va' sm' vm' ∧ ox = some (1, nI a', nI b', so', va', nI Q, di') ∧ om = some (nI a', nI b', sm', vm', 0, nI (k + 1), up6 it k 16 (nI Q) (nI S) 0 0 0) ∧ Q ≤ 6 ∧ S < 4 ^ Q ∧ (∀ i, i < Q → di' i = nI (S / 4 ^ i % 4)) ∧ ∀ i, Q ≤ i → di' i = di i
theorem kSg.le {T : Nat} {tp : Nat → Int32} {b b' k : Nat} {di it : Nat → Int32} {ox : Option (Int32 × Int32 × Int32 × Int32 × Int32 × Int32 × (Nat → Int32))} {om : Option (Int32 × Int32 × Int32 × Int32 × Int32 × Int32 × (Nat → Int32))} (hb : b ≤ b') (h : kSg T tp b' k di it ox om) : kSg T tp b k di it ox om := by
  rcases h with h | ⟨a', b2, so', va', sm', vm', Q, S, di', h1, h2⟩
  · exact Or.inl h
  · exact Or.inr ⟨a', b2, so', va', sm', vm', Q, S, di', by omega, h2⟩
theorem sg_l {T : Nat} {by_ tp : Nat → Int32} (X : TX T by_ tp) {k : Nat} (hk : k ≤ 60) (di it : Nat → Int32) : ∀ d q n1 n2 S dj a b so va sm vm, q + d = 6 → d < n1 → d + 1 < n2 → S < 4 ^ q → (∀ i, i < q → dj i = nI (S / 4 ^ i % 4)) → (∀ i, q ≤ i → dj i = di i) → TK T tp a b so va sm vm → kSg T tp a k di it (fl_Tx_readDiary_1 (nI T) by_ n1 (nI q) (nI a) (nI b) so va (nI q) dj) (fl_M_readSees_1 (nI T) (nI k) tp it n2 (nI q) (nI S) (nI a) (nI b) sm vm 0) := by
  have hT := X.1
  intro d
  induction d with
  | zero =>
    intro q n1 n2 S dj a b so va sm vm hq h1 h2 hS hd1 hd2 K
    obtain ⟨n1, rfl⟩ : ∃ m, n1 = m + 1 := ⟨n1 - 1, by omega⟩
    obtain ⟨n2, rfl⟩ : ∃ m, n2 = m + 1 + 1 := ⟨n2 - 2, by omega⟩
    have hq6 : q = 6 := by omega
    subst hq6
    have hp : a ≤ 120 := by have := K.1; have := K.2.1; omega
    rw [fl_Tx_readDiary_1_s, fl_M_readSees_1_s]
    unfold fb_Tx_readDiary_1 fb_M_readSees_1 f_Tx_readDiary_2 f_Ta_isAtNumber f_M_readSees_2 f_M_readSees_3 f_M_readSees_4
    rw [if_pos (by decide), if_pos rfl, must_n, kb5_eq, if_neg i10]
    have w2 : ∀ y, fl_M_readSees_1 (nI T) (nI k) tp it (n2 + 1) (nI 6 + 1) y (nI a) (nI b) sm vm 1 = some (nI a, nI b, sm, vm, 1, nI (k + 1), up6 it k 16 (nI 6 + 1) y 0 0 0) := by
      intro y
      rw [fl_M_readSees_1_s]
      unfold fb_M_readSees_1 f_M_readSees_4
      rw [if_neg i10, item_m hk, kb2_eq]
    have st : so = 2 ↔ sm = 2 := by
      obtain ⟨-, -, c⟩ := K
      rcases c with ⟨c1, c2, -⟩ | ⟨c1, c2, -⟩ | ⟨c1, c2, -⟩ | ⟨c1, c2, -⟩ | ⟨c1, c2, -⟩ <;> rw [c1, c2] <;> decide
    by_cases s2 : sm = 2
    · have hm : ∃ r, f_M_isState vm = some r ∧ (r = 0 ∨ r = 1) := by
        rcases isState_cases vm with ⟨-, h⟩ | ⟨j, -, -, -, h⟩
        · exact ⟨0, h, Or.inl rfl⟩
        · exact ⟨1, h, Or.inr rfl⟩
      obtain ⟨r, r1, r2⟩ := hm
      rw [if_pos (st.mpr s2), kb1_eq, if_neg i10, if_pos s2, r1, kb1_eq, w2, if_pos (show (6 : Int32) ≤ nI 6 by decide), ite_self]
      exact Or.inl ⟨a, nI b, so, va, nI 6, dj, nI b, sm, vm, nI (k + 1), _, hp, rfl, rfl⟩
    · rw [if_neg (fun c => s2 (st.mp c)), kb1_eq, if_pos rfl, if_neg s2, item_m hk, kb2_eq]
      exact Or.inr ⟨a, b, so, va, sm, vm, 6, S, dj, Nat.le_refl _, K, rfl, rfl, Nat.le_refl _, hS, hd1, hd2⟩
  | succ d ih =>
    intro q n1 n2 S dj a b so va sm vm hq h1 h2 hS hd1 hd2 K
    obtain ⟨n1, rfl⟩ : ∃ m, n1 = m + 1 := ⟨n1 - 1, by omega⟩
    obtain ⟨n2, rfl⟩ : ∃ m, n2 = m + 1 + 1 := ⟨n2 - 2, by omega⟩
    have hp : a ≤ 120 := by have := K.1; have := K.2.1; omega
    have q6 : ¬ (6 : Int32) ≤ nI q := nI_ge (b := 6) (by omega) (by decide)
    rw [fl_Tx_readDiary_1_s, fl_M_readSees_1_s]
    unfold fb_Tx_readDiary_1 fb_M_readSees_1 f_Tx_readDiary_2 f_Ta_isAtNumber f_M_readSees_2 f_M_readSees_3 f_M_readSees_4 f_Mo_addSign f_Mo_isDiaryFull
    rw [if_neg q6, if_pos rfl, must_n, kb5_eq, if_neg i10]
    have w2 : ∀ y, fl_M_readSees_1 (nI T) (nI k) tp it (n2 + 1) (nI q + 1) y (nI a) (nI b) sm vm 1 = some (nI a, nI b, sm, vm, 1, nI (k + 1), up6 it k 16 (nI q + 1) y 0 0 0) := by
      intro y
      rw [fl_M_readSees_1_s]
      unfold fb_M_readSees_1 f_M_readSees_4
      rw [if_neg i10, item_m hk, kb2_eq]
    have st : so = 2 ↔ sm = 2 := by
      obtain ⟨-, -, c⟩ := K
      rcases c with ⟨c1, c2, -⟩ | ⟨c1, c2, -⟩ | ⟨c1, c2, -⟩ | ⟨c1, c2, -⟩ | ⟨c1, c2, -⟩ <;> rw [c1, c2] <;> decide
    by_cases s2 : sm = 2
    · rw [if_pos (st.mpr s2), kb1_eq, if_neg i10, if_pos s2, nl3]
      rcases num_x X K (h := 3) (by omega) with ⟨g1, g2, g3⟩ | ⟨v, a', b', so', va', sm', vm', hv, o2, o3, o4, o5, l2, g1, g2, g3, g4, K'⟩
      · have hm : f_M_isState vm = some 0 := by
          rcases isState_cases vm with ⟨-, h⟩ | ⟨j, hj, hj2, -, -⟩
          · exact h
          · exact absurd ⟨j, by omega, s2, hj2⟩ g3
        rw [g1, kb1_eq, if_neg (by decide), hm, kb1_eq, if_pos rfl, w2]
        exact Or.inl ⟨a, nI b, so, va, nI q, dj, nI b, sm, vm, nI (k + 1), _, hp, rfl, rfl⟩
      · have hm : f_M_isState vm = some 1 := by
          rcases isState_cases vm with ⟨h, h'⟩ | ⟨j, hj, hj2, -, h⟩
          · exfalso
            rw [o5] at h'
            have : ∀ v, v < 4 → f_M_isState (nI v) = some 1 := by decide
            rw [this v (by omega)] at h'
            exact absurd h' (by decide)
          · exact h
        have p1 := sg_put (show v < 4 by omega) (show q < 6 by omega) hS
        have cq : (nI q).toNatClampNeg = q := nI_clamp (by omega)
        rw [g1, kb1_eq, if_pos (nI_pos' (by omega)), if_pos (show nI q < (6 : Int32) from nI_lt (b := 6) (by omega) (by decide)), kb1_eq, if_pos rfl, kx (k := q) (n := 6) (by omega) (by decide), kb2_eq, g2, kb4_eq, hm, kb1_eq, if_neg i10, if_neg q6, g4, kb5_eq, if_pos rfl, klet_eq, o5, p1.1, nI_1, cq]
        refine kSg.le (show a ≤ a' by have := K.1; omega) (ih (q + 1) n1 (n2 + 1) (S + v * 4 ^ q) (upd dj q (nI v)) a' b' so' va' sm' vm' (by omega) (by omega) (by omega) p1.2 (fun i hi => ?_) (fun i hi => ?_) K')
        · rw [sg_dig hS (by omega) (by omega)]
          by_cases y : i = q
          · subst y; rw [pk_us, if_pos rfl]
          · rw [pk_un y, if_neg y]; exact hd1 i (by omega)
        · rw [pk_un (by omega)]; exact hd2 i (by omega)
    · rw [if_neg (fun c => s2 (st.mp c)), kb1_eq, if_pos rfl, kb1_eq, if_pos rfl, if_neg s2, item_m hk, kb2_eq]
      exact Or.inr ⟨a, b, so, va, sm, vm, q, S, dj, Nat.le_refl _, K, rfl, rfl, by omega, hS, hd1, hd2⟩
theorem it_sees {T : Nat} {by_ tp : Nat → Int32} (X : TX T by_ tp) {a b k : Nat} {so va sm vm : Int32} (K : TK T tp a b so va sm vm) (hk : k ≤ 60) {mo vo ou fe fq pi vt ash nu bu se st z : Int32} {hs ag ws ki ce ow pu ch sh di : Nat → Int32} {A it : Nat → Int32} {fc : Int64} (R : RI mo vo ou fe fq pi vt ash hs ag ws nu bu ki ce ow pu se st z ch sh di A) (F : FC fc nu ce) : kIt T tp b k mo vo ou fe fq pi ash bu st z A it (kb7 (f_Tx_readDiary (nI T) (nI a) (nI b) so va by_ se di) fun r_120 v_tape_start_121 v_tape_end_122 v_tape_sort_123 v_tape_value_124 v_p1_mountain_seen_125 v_p1_mountain_diary_126 => (if r_120 = 0 ∨ r_120 = 1 then some (r_120, v_tape_start_121, v_tape_end_122, v_tape_sort_123, v_tape_value_124, vt, hs, ag, ws, nu, ki, ce, ow, pu, v_p1_mountain_seen_125, ch, sh, v_p1_mountain_diary_126) else none)) (kb5 (f_M_must (nI T) (nI a) (nI b) sm vm 0 tp (1 : Int32)) fun v_begins_150 v_ends_151 v_sort_152 v_value_153 v_isWrong_154 => kb7 (f_M_readSees (nI T) v_begins_150 v_ends_151 v_sort_152 v_value_153 v_isWrong_154 (nI k) tp it) fun v_begins_156 v_ends_157 v_sort_158 v_value_159 v_isWrong_160 v_itemMany_161 v_items_162 => some (v_begins_156, v_ends_157, v_sort_158, v_value_159, v_isWrong_160, v_itemMany_161, nu, fc, v_items_162)) := by
  have hT := X.1
  obtain ⟨a1, b1, so1, va1, sm1, vm1, l1, x1, m1, K1⟩ := go_x X K
  unfold f_Tx_readDiary f_Ta_isAtNumber f_M_readSees
  rw [x1, kb4_eq, m1, kb5_eq]
  have st : so1 = 2 ↔ sm1 = 2 := by
    obtain ⟨-, -, c⟩ := K1
    rcases c with ⟨c1, c2, -⟩ | ⟨c1, c2, -⟩ | ⟨c1, c2, -⟩ | ⟨c1, c2, -⟩ | ⟨c1, c2, -⟩ <;> rw [c1, c2] <;> decide
  have wr : ∀ y, fl_M_readSees_1 (nI T) (nI k) tp it kFuel 1 y (nI a1) (nI b1) sm1 vm1 1 = some (nI a1, nI b1, sm1, vm1, 1, nI (k + 1), up6 it k 16 1 y 0 0 0) := by
    intro y
    show fl_M_readSees_1 (nI T) (nI k) tp it (1023 + 1) 1 y (nI a1) (nI b1) sm1 vm1 1 = _
    rw [fl_M_readSees_1_s]
    unfold fb_M_readSees_1 f_M_readSees_4
    rw [if_neg i10, item_m hk, kb2_eq]
  rw [nl3]
  rcases num_x X K1 (h := 3) (by omega) with ⟨n1, n2, n3⟩ | ⟨v, a2, b2, so2, va2, sm2, vm2, hv, o2, o3, o4, o5, l2, n1, n2, n3, n4, K2⟩
  · rw [n2, kb6_eq, wr]
    by_cases s2 : so1 = 2
    · refine kIt.no (p := a1) (e1 := nI b1) (e2 := so1) (e3 := va1) (vt' := vt) (hs' := hs) (ag' := ag) (ws' := ws) (nu' := nu) (ki' := ki) (ce' := ce) (ow' := ow) (pu' := pu) (se' := 0) (ch' := ch) (sh' := sh) (di' := di) (m1 := nI b1) (m2 := sm1) (m3 := vm1) (m4 := nI (k + 1)) (m5 := nu) (m6 := fc) (m7 := up6 it k 16 1 vm1 0 0 0) (it := it) (by have := K1.1; have := K1.2.1; omega) ?_ ?_
      · rw [if_pos s2, kb1_eq, if_neg i10]
        show kb7 (fl_Tx_readDiary_1 (nI T) by_ (1023 + 1) 0 (nI a1) (nI b1) so1 va1 0 di) _ = _
        rw [fl_Tx_readDiary_1_s]
        unfold fb_Tx_readDiary_1 f_Ta_isAtNumber
        rw [if_neg (by decide), if_pos s2, kb1_eq, if_neg i10, nl3, n1, kb1_eq, if_neg (by decide), kb7_eq, b01 (Or.inl rfl)]
      · rw [kb7_eq]
    · refine kIt.no (p := a1) (e1 := nI b1) (e2 := so1) (e3 := va1) (vt' := vt) (hs' := hs) (ag' := ag) (ws' := ws) (nu' := nu) (ki' := ki) (ce' := ce) (ow' := ow) (pu' := pu) (se' := se) (ch' := ch) (sh' := sh) (di' := di) (m1 := nI b1) (m2 := sm1) (m3 := vm1) (m4 := nI (k + 1)) (m5 := nu) (m6 := fc) (m7 := up6 it k 16 1 vm1 0 0 0) (it := it) (by have := K1.1; have := K1.2.1; omega) ?_ ?_
      · rw [if_neg s2, kb1_eq, if_pos rfl, kb7_eq, b01 (Or.inl rfl)]
      · rw [kb7_eq]
  · have fx : fl_Tx_readDiary_1 (nI T) by_ kFuel 0 (nI a1) (nI b1) so1 va1 0 di = fl_Tx_readDiary_1 (nI T) by_ 1023 (nI 1) (nI a2) (nI b2) so2 va2 (nI 1) (upd di 0 (nI v)) := by
      show fl_Tx_readDiary_1 (nI T) by_ (1023 + 1) 0 (nI a1) (nI b1) so1 va1 0 di = _
      rw [fl_Tx_readDiary_1_s]
      unfold fb_Tx_readDiary_1 f_Ta_isAtNumber f_Mo_addSign f_Mo_isDiaryFull
      rw [if_neg (by decide), if_pos o2, kb1_eq, if_neg i10, nl3, n1, kb1_eq, if_pos (nI_pos' (by omega)), if_pos (by decide), kb1_eq, if_pos rfl, ← nI_0, kx (k := 0) (n := 6) (by decide) (by decide), kb2_eq, n2, kb4_eq, nI_1, nI_clamp (by decide)]
    have n3' : f_M_number (nI T) (nI a1) (nI b1) sm1 vm1 0 tp 0 (nI 3) = some (nI v, nI a2, nI b2, sm2, vm2, 0) := n3
    rw [n3', kb6_eq, if_pos o2, kb1_eq, if_neg i10, fx]
    have g := sg_l X hk di it 5 1 1023 kFuel v (upd di 0 (nI v)) a2 b2 so2 va2 sm2 vm2 (by omega) (by omega) (by unfold kFuel; omega) (by omega) (fun i hi => by
      have hi0 : i = 0 := by omega
      subst hi0
      rw [pk_us, Nat.pow_zero, Nat.div_one, Nat.mod_eq_of_lt (by omega)]) (fun i hi => pk_un (by omega)) K2
    rcases g with ⟨p, e1, e2, e3, e4, e5, m1', m2, m3, m4, m5, hp, h1, h2⟩ | ⟨a', b', so', va', sm', vm', Q, S, di', h1, K', h2, h3, hQ, hS, hd1, hd2⟩
    · refine kIt.no (p := p) (e1 := e1) (e2 := e2) (e3 := e3) (vt' := vt) (hs' := hs) (ag' := ag) (ws' := ws) (nu' := nu) (ki' := ki) (ce' := ce) (ow' := ow) (pu' := pu) (se' := e4) (ch' := ch) (sh' := sh) (di' := e5) (m1 := m1') (m2 := m2) (m3 := m3) (m4 := m4) (m5 := nu) (m6 := fc) (m7 := m5) (it := it) hp ?_ ?_
      · rw [h1, kb7_eq, b01 (Or.inl rfl)]
      · rw [show (1 : Int32) = nI 1 from rfl, h2, kb7_eq]
        rfl
    · have hS2 : S < 4096 := Nat.lt_of_lt_of_le hS (by rw [show 4096 = 4 ^ 6 by decide]; exact Nat.pow_le_pow_right (by decide) hQ)
      obtain ⟨B', c1, c2⟩ := isSo1_l hQ hS2 kFuel 0 (upd A 11 (nI Q)) (by unfold kFuel; omega) (by omega)
      refine kIt.yes hk (show b ≤ a' by have := K1.1; have := K2.1; omega) K' ?_ ?_ (x1 := 16) (x2 := nI Q) (x3 := nI S) (x4 := 0) (x5 := 0) (x6 := 0) (A' := B') ?_ (R.dia (Q := Q) (d := di') hQ (fun i hi => ⟨S / 4 ^ i % 4, Nat.mod_lt _ (by decide), hd1 i hi⟩) ?_ ?_ ?_) F
      · rw [h2, kb7_eq, b01 (Or.inr rfl)]
      · rw [show (1 : Int32) = nI 1 from rfl, h3, kb7_eq]
      · unfold kSo
        rw [if_neg (by decide), if_neg (by decide), if_neg (by decide), if_neg (by decide), if_neg (by decide), if_neg (by decide), if_pos rfl]
        exact c1
      · rw [c2, if_neg (by omega), pk_us]
      · intro i hi
        rw [c2]
        by_cases y : i < Q
        · rw [if_pos (by omega), show 12 + i - 12 = i by omega, hd1 i y]
        · rw [if_neg (by omega), pk_un (by omega), hd2 i (by omega)]
          exact R.1.1.2.2.2.2.2 i hi
      · intro j hj
        rw [c2, if_neg (by omega), pk_un (by omega)]
