/-! pigs, now, sees, tenth, tenths -/
theorem sim_pigs {mo vo ou fe fq pi vt ash nu bu se st z : Int32} {hs ag ws ki ce ow pu ch sh di : Nat → Int32} {A : Nat → Int32} (R : RI mo vo ou fe fq pi vt ash hs ag ws nu bu ki ce ow pu se st z ch sh di A) {x1 : Int32} (hx : x1 = 0 ∨ x1 = 1) : ∃ r pi' A', f_X_pigs pi x1 = some (r, pi') ∧ f_M_pigs A x1 = some (r, A') ∧ RI mo vo ou fe fq pi' vt ash hs ag ws nu bu ki ce ow pu se st z ch sh di A' := by
  have key : ∀ v : Int32, v = 0 ∨ v = 1 → f_M_pigs_1 v A = some (if pi = v then 0 else 1, upd A 9 v) := by
    intro v hv
    unfold f_M_pigs_1
    rw [nl9, M_become_eq A (by omega), kb2_eq, R.1.2.2.2.2.2.2.2.2.2.2.2.1]
    by_cases q : pi = v
    · rw [if_pos q, if_pos q]
    · rw [if_neg q, if_neg q]
  have hm : f_M_pigs A x1 = some (if pi = x1 then 0 else 1, upd A 9 x1) := by
    unfold f_M_pigs
    rcases hx with rfl | rfl
    · rw [if_pos rfl, key 0 (Or.inl rfl)]
    · rw [if_neg i10, key 1 (Or.inr rfl)]
  refine ⟨if pi = x1 then 0 else 1, x1, upd A 9 x1, ?_, hm, R.pi hx⟩
  unfold f_X_pigs
  by_cases q : pi = x1
  · rw [if_pos q, if_pos q, q]
  · rw [if_neg q, if_neg q, if_pos hx]
theorem sim_now {mo vo ou fe fq pi vt ash nu bu se st z : Int32} {hs ag ws ki ce ow pu ch sh di : Nat → Int32} {A fi fo : Nat → Int32} (R : RI mo vo ou fe fq pi vt ash hs ag ws nu bu ki ce ow pu se st z ch sh di A) (F : RF fi fo) (x1 : Int32) : ∃ r fi' fo', f_X_now mo vo ou fe fq vt ash st fi x1 = some (r, fi') ∧ f_M_now A fo x1 = some (r, fo') ∧ RF fi' fo' := by
  obtain ⟨fi', fo', b1, b2, F'⟩ := fnd0 F
  obtain ⟨s0, s1, s2, s3, s4, s5, s6, s7, s8, s9, s10, s11⟩ := R.1.2.2
  unfold f_X_now f_M_now
  rcases rg 7 (by decide) x1 with ⟨h1, h2⟩ | ⟨k, hk, rfl, h1⟩
  · have h1 : f_M_within x1 0 7 = some 0 := h1
    refine ⟨-1000000001, fi', fo', ?_, ?_, F'⟩
    · rw [if_neg (fun q : x1 = 0 => by subst q; exact absurd h2 (by decide)), if_neg (fun q : x1 = 1 => by subst q; exact absurd h2 (by decide)), if_neg (fun q : x1 = 2 => by subst q; exact absurd h2 (by decide)), if_neg (fun q : x1 = 3 => by subst q; exact absurd h2 (by decide)), if_neg (fun q : x1 = 4 => by subst q; exact absurd h2 (by decide)), if_neg (fun q : x1 = 5 => by subst q; exact absurd h2 (by decide)), if_neg (fun q : x1 = 6 => by subst q; exact absurd h2 (by decide)), if_neg (fun q : x1 = 7 => by subst q; exact absurd h2 (by decide)), b1, kb2_eq]
    · rw [h1, kb1_eq, if_pos rfl, b2, kb2_eq]
  · have h1 : f_M_within (nI k) 0 7 = some 1 := h1
    rw [h1, kb1_eq, if_neg i10, nl1, nI_add, kx (by omega) (by decide), nI_clamp (by omega)]
    have c8 : k = 0 ∨ k = 1 ∨ k = 2 ∨ k = 3 ∨ k = 4 ∨ k = 5 ∨ k = 6 ∨ k = 7 := by omega
    rcases c8 with rfl | rfl | rfl | rfl | rfl | rfl | rfl | rfl
    · exact ⟨mo, fi, fo, by rw [if_pos (by decide)], by rw [s1], F⟩
    · exact ⟨st, fi, fo, by rw [if_neg (by decide), if_pos (by decide)], by rw [s2], F⟩
    · exact ⟨vt, fi, fo, by rw [if_neg (by decide), if_neg (by decide), if_pos (by decide)], by rw [s3], F⟩
    · exact ⟨ash, fi, fo, by rw [if_neg (by decide), if_neg (by decide), if_neg (by decide), if_pos (by decide)], by rw [s4], F⟩
    · exact ⟨vo, fi, fo, by rw [if_neg (by decide), if_neg (by decide), if_neg (by decide), if_neg (by decide), if_pos (by decide)], by rw [s5], F⟩
    · exact ⟨ou, fi, fo, by rw [if_neg (by decide), if_neg (by decide), if_neg (by decide), if_neg (by decide), if_neg (by decide), if_pos (by decide)], by rw [s6], F⟩
    · exact ⟨fe, fi, fo, by rw [if_neg (by decide), if_neg (by decide), if_neg (by decide), if_neg (by decide), if_neg (by decide), if_neg (by decide), if_pos (by decide)], by rw [s7], F⟩
    · exact ⟨fq, fi, fo, by rw [if_neg (by decide), if_neg (by decide), if_neg (by decide), if_neg (by decide), if_neg (by decide), if_neg (by decide), if_neg (by decide), if_pos (by decide)], by rw [s8], F⟩
theorem RI.see {mo vo ou fe fq pi vt ash nu bu se st z : Int32} {hs ag ws ki ce ow pu ch sh di : Nat → Int32} {A : Nat → Int32} {q k : Nat} (hq : q < 6) (hk : k < 4) (hse : se = nI q) (R : RI mo vo ou fe fq pi vt ash hs ag ws nu bu ki ce ow pu se st z ch sh di A) : RI mo vo ou fe fq pi vt ash hs ag ws nu bu ki ce ow pu (nI (q + 1)) st z ch sh (upd di q (nI k)) (upd (upd A (12 + q) (nI k)) 11 (nI (q + 1))) := by
  obtain ⟨⟨⟨r1, r2, r3, r4, r5, r6⟩, r7, r8⟩, i1, i2, i3, i4, i5, i6, i7, i8, i9, i10⟩ := R
  exact ⟨⟨⟨(r1.out (by omega)).out (by omega), (r2.out (by omega)).out (by omega), (r3.out (by omega)).out (by omega), (r4.out (by omega)).out (by omega), (r5.out (by omega)).out (by omega), (r6.at hq).out (by omega)⟩, (r7.out (by omega)).out (by omega), (r8.out (by omega)).s11⟩, i1, i2, i3, i4, i5, i6, (by
    obtain ⟨q', h1, h2, h3⟩ := i7
    have e1 : q' = q := (nI_eq (by omega) (by omega)).mp (h2.symm.trans hse)
    subst e1
    refine ⟨q' + 1, by omega, rfl, fun i hi => ?_⟩
    by_cases c : i = q'
    · subst c; exact ⟨k, hk, pk_us⟩
    · rw [pk_un c]; exact h3 i (by omega)), i8, i9, i10⟩
theorem sim_sees {mo vo ou fe fq pi vt ash nu bu se st z : Int32} {hs ag ws ki ce ow pu ch sh di : Nat → Int32} {A fi fo : Nat → Int32} (R : RI mo vo ou fe fq pi vt ash hs ag ws nu bu ki ce ow pu se st z ch sh di A) (F : RF fi fo) (x1 : Int32) : ∃ r se' di' fi' A' fo', f_X_sees se di fi x1 = some (r, se', di', fi') ∧ f_M_sees A fo x1 = some (r, A', fo') ∧ RI mo vo ou fe fq pi vt ash hs ag ws nu bu ki ce ow pu se' st z ch sh di' A' ∧ RF fi' fo' := by
  have s11 : A 11 = se := R.1.2.2.2.2.2.2.2.2.2.2.2.2.2
  obtain ⟨q, hq, rfl, -⟩ := R.2.2.2.2.2.2.2.1
  unfold f_X_sees f_M_sees
  rw [s11]
  rcases isSign_cases x1 with ⟨hx, hm⟩ | ⟨k, hk, rfl, hx, hm⟩
  · obtain ⟨fi', fo', b1, b2, F'⟩ := fnd0 F
    refine ⟨-1000000001, nI q, di, fi', A, fo', ?_, ?_, R, F'⟩
    · rw [hx, kb1_eq, if_pos rfl, b1, kb2_eq]
    · rw [hm, kb1_eq, if_pos rfl, b2, kb2_eq]
  rw [hx, hm, kb1_eq, kb1_eq, if_neg i10, if_neg i10]
  by_cases c : q = 6
  · subst c
    obtain ⟨fi', fo', b1, b2, F'⟩ := fnd1 F
    refine ⟨-1000000002, nI 6, di, fi', A, fo', ?_, ?_, R, F'⟩
    · have hd : f_Mo_isDiaryFull (nI 6) = some 1 := by decide +kernel
      rw [hd, kb1_eq, if_neg i10, b1, kb2_eq]
    · rw [if_pos (by decide), b2, kb2_eq]
  · have hd : f_Mo_isDiaryFull (nI q) = some 0 := by
      unfold f_Mo_isDiaryFull
      rw [if_pos (show nI q < (6 : Int32) from nI_lt (b := 6) (by omega) (by decide))]
    have hne : ¬ nI q = (6 : Int32) := fun z => c ((nI_eq (b := 6) (by omega) (by decide)).mp z)
    refine ⟨nI (q + 1), nI (q + 1), upd di q (nI k), fi, upd (upd A (12 + q) (nI k)) 11 (nI (q + 1)), fo, ?_, ?_, R.see (by omega) hk rfl, F⟩
    · rw [hd, kb1_eq, if_pos rfl]
      unfold f_Mo_addSign
      rw [hd, kb1_eq, if_pos rfl, kx (by omega) (by decide), nI_clamp (by omega), kb2_eq, nI_1]
    · rw [if_neg hne, nl12, nI_add, kx (by omega) (by decide), nI_clamp (by omega), klet_eq, pk_us, pk_un (by omega), s11, nI_1]
theorem Mo_tenthAt_0 (ch sh : Nat → Int32) {s i : Nat} (hs : s < 4) (hi : i < 4) : f_Mo_tenthAt ch sh 0 (nI s) (nI i) = some (ch (4 * s + i)) := by
  unfold f_Mo_tenthAt
  rw [if_pos rfl, klet_eq, nl4, pk_mul, nI_add, isWithin_eq, show ((16 : Int32) - 1) = nI 15 by decide, within_y (nI_pos (by omega)) (nI_nlt (by omega) (by decide)), kb1_eq, if_neg i10, kx (by omega) (by decide), nI_clamp (by omega)]
theorem Mo_tenthAt_1 (ch sh : Nat → Int32) {w : Int32} (hw : ¬ w = 0) {s i : Nat} (hs : s < 4) (hi : i < 4) : f_Mo_tenthAt ch sh w (nI s) (nI i) = some (sh (4 * s + i)) := by
  unfold f_Mo_tenthAt
  rw [if_neg hw, klet_eq, nl4, pk_mul, nI_add, isWithin_eq, show ((16 : Int32) - 1) = nI 15 by decide, within_y (nI_pos (by omega)) (nI_nlt (by omega) (by decide)), kb1_eq, if_neg i10, kx (by omega) (by decide), nI_clamp (by omega)]
theorem Mo_putTenth_0 (ch sh : Nat → Int32) {s i : Nat} (v : Int32) (hs : s < 4) (hi : i < 4) : f_Mo_putTenth ch sh 0 (nI s) (nI i) v = some (upd ch (4 * s + i) v, sh) := by
  unfold f_Mo_putTenth
  rw [if_pos rfl, klet_eq, nl4, pk_mul, nI_add, isWithin_eq, show ((16 : Int32) - 1) = nI 15 by decide, within_y (nI_pos (by omega)) (nI_nlt (by omega) (by decide)), kb1_eq, if_neg i10, kx (by omega) (by decide), nI_clamp (by omega)]
theorem Mo_putTenth_1 (ch sh : Nat → Int32) {w : Int32} (hw : ¬ w = 0) {s i : Nat} (v : Int32) (hs : s < 4) (hi : i < 4) : f_Mo_putTenth ch sh w (nI s) (nI i) v = some (ch, upd sh (4 * s + i) v) := by
  unfold f_Mo_putTenth
  rw [if_neg hw, klet_eq, nl4, pk_mul, nI_add, isWithin_eq, show ((16 : Int32) - 1) = nI 15 by decide, within_y (nI_pos (by omega)) (nI_nlt (by omega) (by decide)), kb1_eq, if_neg i10, kx (by omega) (by decide), nI_clamp (by omega)]
theorem sim_tenth {mo vo ou fe fq pi vt ash nu bu se st z : Int32} {hs ag ws ki ce ow pu ch sh di : Nat → Int32} {A fi fo : Nat → Int32} (R : RI mo vo ou fe fq pi vt ash hs ag ws nu bu ki ce ow pu se st z ch sh di A) (F : RF fi fo) (x1 x2 x3 : Int32) : ∃ r fi' fo', f_X_tenth ch sh fi x1 x2 x3 = some (r, fi') ∧ f_M_tenth A fo x1 x2 x3 = some (r, fo') ∧ RF fi' fo' := by
  obtain ⟨fi', fo', b1, b2, F'⟩ := fnd0 F
  have c1 : f_X_tenth_1 fi = some (-1000000001, fi') := by unfold f_X_tenth_1; rw [b1, kb2_eq]
  have c2 : f_M_tenth_2 fo = some (-1000000001, fo') := by unfold f_M_tenth_2; rw [b2, kb2_eq]
  unfold f_X_tenth f_M_tenth
  rw [isWithin_eq]
  rcases within_or x1 0 1 with ⟨h1, -⟩ | ⟨h1, -, -⟩
  · refine ⟨-1000000001, fi', fo', ?_, ?_, F'⟩
    · rw [h1, kb1_eq, if_pos rfl, c1]
    · rw [h1, kb1_eq, if_pos rfl, c2]
  rw [h1, kb1_eq, kb1_eq, if_neg i10, if_neg i10]
  rcases isState_cases x2 with ⟨hx, hm⟩ | ⟨k, hk, rfl, hx, hm⟩
  · refine ⟨-1000000001, fi', fo', ?_, ?_, F'⟩
    · rw [hx, kb1_eq, if_pos rfl, c1]
    · rw [hm, kb1_eq, if_pos rfl, c2]
  rw [hx, hm, kb1_eq, kb1_eq, if_neg i10, if_neg i10]
  rcases rg 3 (by decide) x3 with ⟨h3, -⟩ | ⟨i, hi, rfl, h3⟩
  · have h3 : f_M_within x3 0 3 = some 0 := h3
    refine ⟨-1000000001, fi', fo', ?_, ?_, F'⟩
    · rw [h3, kb1_eq, if_pos rfl, c1]
    · unfold f_M_isState
      rw [h3, kb1_eq, b01 (Or.inl rfl), kb1_eq, if_pos rfl, c2]
  have h3 : f_M_within (nI i) 0 3 = some 1 := h3
  have h4 : f_M_isState (nI i) = some 1 := by unfold f_M_isState; rw [h3, kb1_eq, b01 (Or.inr rfl)]
  rw [h3, h4, kb1_eq, kb1_eq, if_neg i10, if_neg i10]
  by_cases q : x1 = 0
  · subst q
    refine ⟨ch (4 * k + i), fi, fo, ?_, ?_, F⟩
    · rw [Mo_tenthAt_0 ch sh hk hi, kb1_eq]
    · rw [if_pos rfl]
      unfold f_M_tenth_1
      simp only [nl18, nl4, pk_mul, nI_add]
      rw [kx (by omega) (by decide), nI_clamp (by omega), Nat.add_assoc, R.1.1.2.2.2.1 (4 * k + i) (by omega)]
  · refine ⟨sh (4 * k + i), fi, fo, ?_, ?_, F⟩
    · rw [Mo_tenthAt_1 ch sh q hk hi, kb1_eq]
    · rw [if_neg q]
      unfold f_M_tenth_1
      simp only [nl34, nl4, pk_mul, nI_add]
      rw [kx (by omega) (by decide), nI_clamp (by omega), Nat.add_assoc, R.1.1.2.2.2.2.1 (4 * k + i) (by omega)]
theorem RI.tch {mo vo ou fe fq pi vt ash nu bu se st z : Int32} {hs ag ws ki ce ow pu ch sh di : Nat → Int32} {A : Nat → Int32} {s a b c : Nat} (hs4 : s < 4) (ha : a + b + c ≤ 10) (R : RI mo vo ou fe fq pi vt ash hs ag ws nu bu ki ce ow pu se st z ch sh di A) : RI mo vo ou fe fq pi vt ash hs ag ws nu bu ki ce ow pu se st z (upd (upd (upd (upd (ch) (4 * s + 0) (nI a)) (4 * s + 1) (nI b)) (4 * s + 2) (nI c)) (4 * s + 3) (nI (10 - a - b - c))) sh di (upd (upd (upd (upd (A) (18 + 4 * s + 0) (nI a)) (18 + 4 * s + 1) (nI b)) (18 + 4 * s + 2) (nI c)) (18 + 4 * s + 3) (nI (10 - a - b - c))) := by
  obtain ⟨⟨⟨r1, r2, r3, r4, r5, r6⟩, r7, r8⟩, i1, i2, i3, i4, i5, i6, i7, i8, i9, i10⟩ := R
  exact ⟨⟨⟨(((r1.out (by omega)).out (by omega)).out (by omega)).out (by omega), (((r2.out (by omega)).out (by omega)).out (by omega)).out (by omega), (((r3.out (by omega)).out (by omega)).out (by omega)).out (by omega), (((r4.at (i := 4 * s + 0) (by omega)).at (i := 4 * s + 1) (by omega)).at (i := 4 * s + 2) (by omega)).at (i := 4 * s + 3) (by omega), (((r5.out (by omega)).out (by omega)).out (by omega)).out (by omega), (((r6.out (by omega)).out (by omega)).out (by omega)).out (by omega)⟩, (((r7.out (by omega)).out (by omega)).out (by omega)).out (by omega), (((r8.out (by omega)).out (by omega)).out (by omega)).out (by omega)⟩, i1, i2, i3, i4, (fun s' hs' => by
    by_cases q : s' = s
    · subst q
      exact ⟨a, b, c, 10 - a - b - c, by omega, by simp [upd], by simp [upd], by simp [upd], by simp [upd]⟩
    · obtain ⟨a', b', c', d', h0, h1, h2, h3, h4⟩ := i5 s' hs'
      refine ⟨a', b', c', d', h0, ?_, ?_, ?_, ?_⟩ <;> (rw [pk_un (by omega), pk_un (by omega), pk_un (by omega), pk_un (by omega)]; assumption)), i6, i7, i8, i9, i10⟩
theorem RI.tsh {mo vo ou fe fq pi vt ash nu bu se st z : Int32} {hs ag ws ki ce ow pu ch sh di : Nat → Int32} {A : Nat → Int32} {s a b c : Nat} (hs4 : s < 4) (ha : a + b + c ≤ 10) (R : RI mo vo ou fe fq pi vt ash hs ag ws nu bu ki ce ow pu se st z ch sh di A) : RI mo vo ou fe fq pi vt ash hs ag ws nu bu ki ce ow pu se st z ch (upd (upd (upd (upd (sh) (4 * s + 0) (nI a)) (4 * s + 1) (nI b)) (4 * s + 2) (nI c)) (4 * s + 3) (nI (10 - a - b - c))) di (upd (upd (upd (upd (A) (34 + 4 * s + 0) (nI a)) (34 + 4 * s + 1) (nI b)) (34 + 4 * s + 2) (nI c)) (34 + 4 * s + 3) (nI (10 - a - b - c))) := by
  obtain ⟨⟨⟨r1, r2, r3, r4, r5, r6⟩, r7, r8⟩, i1, i2, i3, i4, i5, i6, i7, i8, i9, i10⟩ := R
  exact ⟨⟨⟨(((r1.out (by omega)).out (by omega)).out (by omega)).out (by omega), (((r2.out (by omega)).out (by omega)).out (by omega)).out (by omega), (((r3.out (by omega)).out (by omega)).out (by omega)).out (by omega), (((r4.out (by omega)).out (by omega)).out (by omega)).out (by omega), (((r5.at (i := 4 * s + 0) (by omega)).at (i := 4 * s + 1) (by omega)).at (i := 4 * s + 2) (by omega)).at (i := 4 * s + 3) (by omega), (((r6.out (by omega)).out (by omega)).out (by omega)).out (by omega)⟩, (((r7.out (by omega)).out (by omega)).out (by omega)).out (by omega), (((r8.out (by omega)).out (by omega)).out (by omega)).out (by omega)⟩, i1, i2, i3, i4, i5, (fun i hi => by
    by_cases q3 : i = 4 * s + 3
    · subst q3; exact ⟨10 - a - b - c, by omega, pk_us⟩
    rw [pk_un q3]
    by_cases q2 : i = 4 * s + 2
    · subst q2; exact ⟨c, by omega, pk_us⟩
    rw [pk_un q2]
    by_cases q1 : i = 4 * s + 1
    · subst q1; exact ⟨b, by omega, pk_us⟩
    rw [pk_un q1]
    by_cases q0 : i = 4 * s + 0
    · subst q0; exact ⟨a, by omega, pk_us⟩
    rw [pk_un q0]
    exact i6 i hi), i7, i8, i9, i10⟩
theorem M_putTenths_eq (A : Nat → Int32) {p a b c : Nat} (hp : p + 3 < 218) (ha : a + b + c ≤ 10) : f_M_putTenths A (nI p) (nI a) (nI b) (nI c) = some (upd (upd (upd (upd (A) (p + 0) (nI a)) (p + 1) (nI b)) (p + 2) (nI c)) (p + 3) (nI (10 - a - b - c))) := by
  unfold f_M_putTenths
  simp only [nl1, nl2, nl3, nl10, nI_add]
  rw [kx (by omega) (by decide), kx (by omega) (by decide), kx (by omega) (by decide), kx (by omega) (by decide), nI_clamp (by omega), nI_clamp (by omega), nI_clamp (by omega), nI_clamp (by omega), pk_sub (by omega), pk_sub (by omega), pk_sub (by omega)]
  rfl
theorem M_tenths_bad {A fo fo' : Nat → Int32} (h : f_M_finding fo (-1000000001) = some (-1000000001, fo')) (x1 x2 x3 x4 x5 : Int32) : f_M_tenths_1 x1 x2 x3 x4 x5 A fo = some (-1000000001, A, fo') := by
  have h3 : f_M_tenths_3 A fo = some (-1000000001, A, fo') := by unfold f_M_tenths_3; rw [h, kb2_eq]
  unfold f_M_tenths_1 f_M_tenths_2
  rcases within_or x1 0 1 with ⟨h1, -⟩ | ⟨h1, -, -⟩
  · rw [h1, kb1_eq, if_pos rfl, h3]
  rw [h1, kb1_eq, if_neg i10]
  rcases isState_cases x2 with ⟨-, hm⟩ | ⟨k, hk, rfl, -, hm⟩
  · rw [hm, kb1_eq, if_pos rfl, h3]
  rw [hm, kb1_eq, if_neg i10, if_pos rfl, h3]
theorem within_le {x : Int32} {n : Nat} (hn : n < 2 ^ 30) : (f_M_within x 0 (nI n) = some 0 ∧ ¬ ∃ k, k ≤ n ∧ x = nI k) ∨ ∃ k, k ≤ n ∧ x = nI k ∧ f_M_within x 0 (nI n) = some 1 := by
  rcases rg n hn x with ⟨h1, h2⟩ | ⟨k, hk, e, h1⟩
  · refine Or.inl ⟨h1, ?_⟩
    rintro ⟨k, hk, rfl⟩
    rcases h2 with q | q
    · exact nI_pos (by omega) q
    · exact nI_nlt hk (by omega) q
  · exact Or.inr ⟨k, by omega, e, h1⟩
theorem sim_tenths {mo vo ou fe fq pi vt ash nu bu se st z : Int32} {hs ag ws ki ce ow pu ch sh di : Nat → Int32} {A fi fo : Nat → Int32} (R : RI mo vo ou fe fq pi vt ash hs ag ws nu bu ki ce ow pu se st z ch sh di A) (F : RF fi fo) (x1 x2 x3 x4 x5 : Int32) : ∃ r ch' sh' fi' A' fo', f_X_tenths ch sh fi x1 x2 x3 x4 x5 = some (r, ch', sh', fi') ∧ f_M_tenths A fo x1 x2 x3 x4 x5 = some (r, A', fo') ∧ RI mo vo ou fe fq pi vt ash hs ag ws nu bu ki ce ow pu se st z ch' sh' di A' ∧ RF fi' fo' := by
  obtain ⟨fi', fo', b1, b2, F'⟩ := fnd0 F
  have m1 := M_tenths_bad (A := A) b2 x1 x2 x3 x4 x5
  have m3 : f_M_tenths_3 A fo = some (-1000000001, A, fo') := by unfold f_M_tenths_3; rw [b2, kb2_eq]
  have c1 : f_X_tenths_1 ch sh fi = some (-1000000001, ch, sh, fi') := by unfold f_X_tenths_1; rw [b1, kb2_eq]
  have c2 : f_X_tenths_2 ch sh fi = some (-1000000001, ch, sh, fi') := by unfold f_X_tenths_2; rw [b1, kb2_eq]
  -- the three tenths
  have good : (∃ a b c, a + b + c ≤ 10 ∧ x3 = nI a ∧ x4 = nI b ∧ x5 = nI c) ∨ (f_M_tenths A fo x1 x2 x3 x4 x5 = some (-1000000001, A, fo') ∧ f_X_tenths ch sh fi x1 x2 x3 x4 x5 = some (-1000000001, ch, sh, fi')) := by
    have xbad : (∀ r, kb1 (f_M_within x3 (0 : Int32) (10 : Int32)) (fun r_42 => (if r_42 = 0 then f_X_tenths_2 ch sh fi else kb1 (f_M_within x4 (0 : Int32) ((10 : Int32) - x3)) fun r_45 => (if r_45 = 0 then f_X_tenths_2 ch sh fi else kb1 (f_M_within x5 (0 : Int32) (((10 : Int32) - x3) - x4)) fun r_48 => (if r_48 = 0 then f_X_tenths_2 ch sh fi else r)))) = some (-1000000001, ch, sh, fi')) → f_X_tenths ch sh fi x1 x2 x3 x4 x5 = some (-1000000001, ch, sh, fi') := by
      intro hx
      unfold f_X_tenths
      rw [isWithin_eq]
      rcases within_or x1 0 1 with ⟨h1, -⟩ | ⟨h1, -, -⟩
      · rw [h1, kb1_eq, if_pos rfl, c1]
      rw [h1, kb1_eq, if_neg i10]
      rcases isState_cases x2 with ⟨hs, -⟩ | ⟨k, hk, rfl, hs, -⟩
      · rw [hs, kb1_eq, if_pos rfl, c1]
      rw [hs, kb1_eq, if_neg i10]
      exact hx _
    rcases within_le (x := x3) (n := 10) (by decide) with ⟨h3, g3⟩ | ⟨a, ha, rfl, h3⟩
    · have h3 : f_M_within x3 0 10 = some 0 := h3
      refine Or.inr ⟨?_, xbad (fun r => by rw [h3, kb1_eq, if_pos rfl, c2])⟩
      unfold f_M_tenths
      rw [h3, kb1_eq, if_pos rfl, m1]
    have h3 : f_M_within (nI a) 0 10 = some 1 := h3
    have e3 : (10 : Int32) - nI a = nI (10 - a) := pk_sub (a := 10) ha
    rcases within_le (x := x4) (n := 10 - a) (by omega) with ⟨h4, g4⟩ | ⟨b, hb, rfl, h4⟩
    · refine Or.inr ⟨?_, xbad (fun r => by rw [h3, kb1_eq, if_neg i10, e3, h4, kb1_eq, if_pos rfl, c2])⟩
      unfold f_M_tenths
      rw [h3, kb1_eq, if_neg i10]
      rcases within_le (x := x4) (n := 10) (by decide) with ⟨h4', -⟩ | ⟨b, hb, rfl, h4'⟩
      · have h4' : f_M_within x4 0 10 = some 0 := h4'
        rw [h4', kb1_eq, if_pos rfl, m1]
      have h4' : f_M_within (nI b) 0 10 = some 1 := h4'
      rw [h4', kb1_eq, if_neg i10]
      rcases within_le (x := x5) (n := 10) (by decide) with ⟨h5, -⟩ | ⟨c, hc, rfl, h5⟩
      · have h5 : f_M_within x5 0 10 = some 0 := h5
        rw [h5, kb1_eq, if_pos rfl, m1]
      have h5 : f_M_within (nI c) 0 10 = some 1 := h5
      have hb' : 10 - a < b := by
        rcases Nat.lt_or_ge (10 - a) b with q | q
        · exact q
        · exact absurd ⟨b, q, rfl⟩ g4
      rw [h5, kb1_eq, if_neg i10, nI_add, nI_add, if_pos (show (10 : Int32) < nI (a + b + c) from nI_lt (a := 10) (by omega) (by omega)), m1]
    have e4 : (10 : Int32) - nI a - nI b = nI (10 - a - b) := by rw [e3]; exact pk_sub hb
    rcases within_le (x := x5) (n := 10 - a - b) (by omega) with ⟨h5, g5⟩ | ⟨c, hc, rfl, h5⟩
    · refine Or.inr ⟨?_, xbad (fun r => by rw [h3, kb1_eq, if_neg i10, e4, e3, h4, kb1_eq, if_neg i10, h5, kb1_eq, if_pos rfl, c2])⟩
      unfold f_M_tenths
      have h4' : f_M_within (nI b) 0 10 = some 1 := within_y (nI_pos (by omega)) (nI_nlt (b := b) (a := 10) (by omega) (by decide))
      rw [h3, kb1_eq, if_neg i10, h4', kb1_eq, if_neg i10]
      rcases within_le (x := x5) (n := 10) (by decide) with ⟨h5', -⟩ | ⟨c, hc, rfl, h5'⟩
      · have h5' : f_M_within x5 0 10 = some 0 := h5'
        rw [h5', kb1_eq, if_pos rfl, m1]
      have h5' : f_M_within (nI c) 0 10 = some 1 := h5'
      have hc' : 10 - a - b < c := by
        rcases Nat.lt_or_ge (10 - a - b) c with q | q
        · exact q
        · exact absurd ⟨c, q, rfl⟩ g5
      rw [h5', kb1_eq, if_neg i10, nI_add, nI_add, if_pos (show (10 : Int32) < nI (a + b + c) from nI_lt (a := 10) (by omega) (by omega)), m1]
    · exact Or.inl ⟨a, b, c, by omega, rfl, rfl, rfl⟩
  rcases good.symm with ⟨g1, g2⟩ | ⟨a, b, c, ha, rfl, rfl, rfl⟩
  · exact ⟨-1000000001, ch, sh, fi', A, fo', g2, g1, R, F'⟩
  have w1 : f_M_within (nI a) 0 10 = some 1 := within_y (nI_pos (by omega)) (nI_nlt (b := a) (a := 10) (by omega) (by decide))
  have w2 : f_M_within (nI b) 0 10 = some 1 := within_y (nI_pos (by omega)) (nI_nlt (b := b) (a := 10) (by omega) (by decide))
  have w3 : f_M_within (nI c) 0 10 = some 1 := within_y (nI_pos (by omega)) (nI_nlt (b := c) (a := 10) (by omega) (by decide))
  have w4 : ¬ (10 : Int32) < nI a + nI b + nI c := by rw [nI_add, nI_add]; exact nI_nlt (a := 10) (by omega) (by decide)
  have hm : f_M_tenths A fo x1 x2 (nI a) (nI b) (nI c) = f_M_tenths_2 1 x1 x2 (nI a) (nI b) (nI c) A fo := by
    unfold f_M_tenths
    rw [w1, kb1_eq, if_neg i10, w2, kb1_eq, if_neg i10, w3, kb1_eq, if_neg i10, if_neg w4]
  rw [hm]
  unfold f_X_tenths f_M_tenths_2
  rw [isWithin_eq]
  rcases within_or x1 0 1 with ⟨h1, -⟩ | ⟨h1, -, -⟩
  · refine ⟨-1000000001, ch, sh, fi', A, fo', ?_, ?_, R, F'⟩
    · rw [h1, kb1_eq, if_pos rfl, c1]
    · rw [h1, kb1_eq, if_pos rfl, m3]
  rw [h1, kb1_eq, kb1_eq, if_neg i10, if_neg i10]
  rcases isState_cases x2 with ⟨hs, hm⟩ | ⟨k, hk, rfl, hs, hm⟩
  · refine ⟨-1000000001, ch, sh, fi', A, fo', ?_, ?_, R, F'⟩
    · rw [hs, kb1_eq, if_pos rfl, c1]
    · rw [hm, kb1_eq, if_pos rfl, m3]
  rw [hs, hm, kb1_eq, kb1_eq, if_neg i10, if_neg i10, if_neg i10]
  have e3 : (10 : Int32) - nI a = nI (10 - a) := pk_sub (a := 10) (by omega)
  have e4 : (10 : Int32) - nI a - nI b = nI (10 - a - b) := by rw [e3]; exact pk_sub (by omega)
  have e5 : (10 : Int32) - nI a - nI b - nI c = nI (10 - a - b - c) := by rw [e4]; exact pk_sub (by omega)
  have w5 : f_M_within (nI b) 0 (nI (10 - a)) = some 1 := within_y (nI_pos (by omega)) (nI_nlt (by omega) (by omega))
  have w6 : f_M_within (nI c) 0 (nI (10 - a - b)) = some 1 := within_y (nI_pos (by omega)) (nI_nlt (by omega) (by omega))
  rw [w1, kb1_eq, if_neg i10, e5, e4, e3, w5, kb1_eq, if_neg i10, w6, kb1_eq, if_neg i10]
  by_cases q : x1 = 0
  · subst q
    refine ⟨ch (4 * k + 0), _, _, fi, _, fo, ?_, ?_, R.tch hk ha, F⟩
    · rw [nl0, nl1, nl2, nl3, show nI 0 = (0 : Int32) from rfl, show (0 : Int32) = nI 0 from rfl]
      have t0 := Mo_tenthAt_0 ch sh hk (i := 0) (by decide)
      have hz : f_Mo_tenthAt ch sh (nI 0) (nI k) (nI 0) = some (ch (4 * k + 0)) := t0
      have p0 : ∀ (g : Nat → Int32) (v : Int32) {i : Nat} (hi : i < 4), f_Mo_putTenth g sh (nI 0) (nI k) (nI i) v = some (upd g (4 * k + i) v, sh) := fun g v i hi => Mo_putTenth_0 g sh v hk hi
      rw [hz, kb1_eq, p0 _ _ (by decide), kb2_eq, p0 _ _ (by decide), kb2_eq, p0 _ _ (by decide), kb2_eq, p0 _ _ (by decide), kb2_eq]
    · rw [if_pos rfl]
      unfold f_M_tenths_4
      rw [klet_eq, nl18, nl4, pk_mul, nI_add, kx (by omega) (by decide), klet_eq, M_putTenths_eq A (by omega) ha, kb1_eq, nI_clamp (by omega), show 18 + 4 * k = 18 + (4 * k + 0) from rfl, R.1.1.2.2.2.1 (4 * k + 0) (by omega)]
  · refine ⟨sh (4 * k + 0), _, _, fi, _, fo, ?_, ?_, R.tsh hk ha, F⟩
    · rw [nl0, nl1, nl2, nl3]
      rw [Mo_tenthAt_1 ch sh q hk (by decide), kb1_eq, Mo_putTenth_1 _ _ q _ hk (by decide), kb2_eq, Mo_putTenth_1 _ _ q _ hk (by decide), kb2_eq, Mo_putTenth_1 _ _ q _ hk (by decide), kb2_eq, Mo_putTenth_1 _ _ q _ hk (by decide), kb2_eq]
    · rw [if_neg q]
      unfold f_M_tenths_4
      rw [klet_eq, nl34, nl4, pk_mul, nI_add, kx (by omega) (by decide), klet_eq, M_putTenths_eq A (by omega) ha, kb1_eq, nI_clamp (by omega), show 34 + 4 * k = 34 + (4 * k + 0) from rfl, R.1.1.2.2.2.2.1 (4 * k + 0) (by omega)]
