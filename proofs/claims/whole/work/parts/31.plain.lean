/-! the plain calls: the relation under one write, and each call of class and reference side by side -/
theorem RI.hs {mo vo ou fe fq pi vt ash nu bu se st z : Int32} {hs ag ws ki ce ow pu ch sh di : Nat → Int32} {A : Nat → Int32} {k : Nat} {v : Int32} (hk : k < 36) (R : RI mo vo ou fe fq pi vt ash hs ag ws nu bu ki ce ow pu se st z ch sh di A) : RI mo vo ou fe fq pi vt ash (upd hs k v) ag ws nu bu ki ce ow pu se st z ch sh di (upd A (50 + k) v) := by
  obtain ⟨⟨⟨r1, r2, r3, r4, r5, r6⟩, r7, r8⟩, i1, i2, i3, i4, i5, i6, i7, i8, i9, i10⟩ := R
  exact ⟨⟨⟨r1.at hk, r2.out (by omega), r3.out (by omega), r4.out (by omega), r5.out (by omega), r6.out (by omega)⟩, r7.out (by omega), r8.out (by omega)⟩, i1, i2, i3, i4, i5, i6, i7, i8, i9, i10⟩
theorem RI.ag {mo vo ou fe fq pi vt ash nu bu se st z : Int32} {hs ag ws ki ce ow pu ch sh di : Nat → Int32} {A : Nat → Int32} {k : Nat} {v : Int32} (hk : k < 36) (R : RI mo vo ou fe fq pi vt ash hs ag ws nu bu ki ce ow pu se st z ch sh di A) : RI mo vo ou fe fq pi vt ash hs (upd ag k v) ws nu bu ki ce ow pu se st z ch sh di (upd A (86 + k) v) := by
  obtain ⟨⟨⟨r1, r2, r3, r4, r5, r6⟩, r7, r8⟩, i1, i2, i3, i4, i5, i6, i7, i8, i9, i10⟩ := R
  exact ⟨⟨⟨r1.out (by omega), r2.at hk, r3.out (by omega), r4.out (by omega), r5.out (by omega), r6.out (by omega)⟩, r7.out (by omega), r8.out (by omega)⟩, i1, i2, i3, i4, i5, i6, i7, i8, i9, i10⟩
theorem RI.vt {mo vo ou fe fq pi vt ash nu bu se st z : Int32} {hs ag ws ki ce ow pu ch sh di : Nat → Int32} {A : Nat → Int32} {k : Nat} (hk : k < 36) (R : RI mo vo ou fe fq pi vt ash hs ag ws nu bu ki ce ow pu se st z ch sh di A) : RI mo vo ou fe fq pi (nI k) ash hs ag ws nu bu ki ce ow pu se st z ch sh di (upd A 3 (nI k)) := by
  obtain ⟨⟨⟨r1, r2, r3, r4, r5, r6⟩, r7, r8⟩, i1, i2, i3, i4, i5, i6, i7, i8, i9, i10⟩ := R
  exact ⟨⟨⟨r1.out (by omega), r2.out (by omega), r3.out (by omega), r4.out (by omega), r5.out (by omega), r6.out (by omega)⟩, r7.out (by omega), r8.s3⟩, i1, ⟨k, hk, rfl⟩, i3, i4, i5, i6, i7, i8, i9, i10⟩
theorem RI.vo {mo vo ou fe fq pi vt ash nu bu se st z : Int32} {hs ag ws ki ce ow pu ch sh di : Nat → Int32} {A : Nat → Int32} {k : Nat} (hk : 1 ≤ k) (hk2 : k ≤ 99) (R : RI mo vo ou fe fq pi vt ash hs ag ws nu bu ki ce ow pu se st z ch sh di A) : RI mo (nI k) ou fe fq pi vt ash hs ag ws nu bu ki ce ow pu se st z ch sh di (upd A 5 (nI k)) := by
  obtain ⟨⟨⟨r1, r2, r3, r4, r5, r6⟩, r7, r8⟩, i1, i2, i3, i4, i5, i6, i7, i8, i9, i10⟩ := R
  exact ⟨⟨⟨r1.out (by omega), r2.out (by omega), r3.out (by omega), r4.out (by omega), r5.out (by omega), r6.out (by omega)⟩, r7.out (by omega), r8.s5⟩, i1, i2, ⟨k, hk, hk2, rfl⟩, i4, i5, i6, i7, i8, i9, i10⟩
theorem RI.z {mo vo ou fe fq pi vt ash nu bu se st z : Int32} {hs ag ws ki ce ow pu ch sh di : Nat → Int32} {A : Nat → Int32} {v : Int32} (R : RI mo vo ou fe fq pi vt ash hs ag ws nu bu ki ce ow pu se st z ch sh di A) : RI mo vo ou fe fq pi vt ash hs ag ws nu bu ki ce ow pu se st v ch sh di (upd A 0 v) := by
  obtain ⟨⟨⟨r1, r2, r3, r4, r5, r6⟩, r7, r8⟩, i1, i2, i3, i4, i5, i6, i7, i8, i9, i10⟩ := R
  exact ⟨⟨⟨r1.out (by omega), r2.out (by omega), r3.out (by omega), r4.out (by omega), r5.out (by omega), r6.out (by omega)⟩, r7.out (by omega), r8.s0⟩, i1, i2, i3, i4, i5, i6, i7, i8, i9, i10⟩
theorem RI.pi {mo vo ou fe fq pi vt ash nu bu se st z : Int32} {hs ag ws ki ce ow pu ch sh di : Nat → Int32} {A : Nat → Int32} {v : Int32} (hv : v = 0 ∨ v = 1) (R : RI mo vo ou fe fq pi vt ash hs ag ws nu bu ki ce ow pu se st z ch sh di A) : RI mo vo ou fe fq v vt ash hs ag ws nu bu ki ce ow pu se st z ch sh di (upd A 9 v) := by
  obtain ⟨⟨⟨r1, r2, r3, r4, r5, r6⟩, r7, r8⟩, i1, i2, i3, i4, i5, i6, i7, i8, i9, i10⟩ := R
  exact ⟨⟨⟨r1.out (by omega), r2.out (by omega), r3.out (by omega), r4.out (by omega), r5.out (by omega), r6.out (by omega)⟩, r7.out (by omega), r8.s9⟩, i1, i2, i3, i4, i5, i6, i7, i8, i9, hv⟩
theorem RI.se0 {mo vo ou fe fq pi vt ash nu bu se st z : Int32} {hs ag ws ki ce ow pu ch sh di : Nat → Int32} {A : Nat → Int32} (R : RI mo vo ou fe fq pi vt ash hs ag ws nu bu ki ce ow pu se st z ch sh di A) : RI mo vo ou fe fq pi vt ash hs ag ws nu bu ki ce ow pu (nI 0) st z ch sh di (upd A 11 (nI 0)) := by
  obtain ⟨⟨⟨r1, r2, r3, r4, r5, r6⟩, r7, r8⟩, i1, i2, i3, i4, i5, i6, i7, i8, i9, i10⟩ := R
  exact ⟨⟨⟨r1.out (by omega), r2.out (by omega), r3.out (by omega), r4.out (by omega), r5.out (by omega), r6.out (by omega)⟩, r7.out (by omega), r8.s11⟩, i1, i2, i3, i4, i5, i6, ⟨0, by omega, rfl, fun i hi => absurd hi (by omega)⟩, i8, i9, i10⟩
theorem sim_set {mo vo ou fe fq pi vt ash nu bu se st z : Int32} {hs ag ws ki ce ow pu ch sh di : Nat → Int32} {A fi fo : Nat → Int32} (R : RI mo vo ou fe fq pi vt ash hs ag ws nu bu ki ce ow pu se st z ch sh di A) (F : RF fi fo) (x1 x2 x3 : Int32) : ∃ r hs' ag' fi' A' fo', f_X_set hs ag fi x1 x2 x3 = some (r, hs', ag', fi') ∧ f_M_set A fo x1 x2 x3 = some (r, A', fo') ∧ RI mo vo ou fe fq pi vt ash hs' ag' ws nu bu ki ce ow pu se st z ch sh di A' ∧ RF fi' fo' := by
  have bad : f_M_set_1 A fo = f_M_set_1 A fo → ∃ fi' fo', f_X_set_1 hs ag fi = some (-1000000001, hs, ag, fi') ∧ f_M_set_1 A fo = some (-1000000001, A, fo') ∧ RF fi' fo' := fun _ => by
    obtain ⟨fi', fo', e1, e2, F'⟩ := fnd0 F
    refine ⟨fi', fo', ?_, ?_, F'⟩
    · unfold f_X_set_1; rw [e1, kb2_eq]
    · unfold f_M_set_1; rw [e2, kb2_eq]
  obtain ⟨fi', fo', b1, b2, F'⟩ := bad rfl
  unfold f_X_set f_M_set
  rw [isWithin_eq]
  rcases isCell_cases x1 with ⟨hx, hm⟩ | ⟨k, hk, rfl, hx, hm⟩
  · refine ⟨-1000000001, hs, ag, fi', A, fo', ?_, ?_, R, F'⟩
    · rw [hx, kb1_eq, if_pos rfl, b1]
    · rw [hm, kb1_eq, if_pos rfl, b2]
  rw [hx, hm, kb1_eq, kb1_eq, if_neg i10, if_neg i10]
  rcases within_or x2 0 1 with ⟨h1, -⟩ | ⟨h1, -, -⟩
  · refine ⟨-1000000001, hs, ag, fi', A, fo', ?_, ?_, R, F'⟩
    · rw [h1, kb1_eq, if_pos rfl, b1]
    · rw [h1, kb1_eq, if_pos rfl, b2]
  rw [h1, kb1_eq, kb1_eq, if_neg i10, if_neg i10]
  rcases within_or x3 0 99 with ⟨h1, -⟩ | ⟨h1, -, -⟩
  · refine ⟨-1000000001, hs, ag, fi', A, fo', ?_, ?_, R, F'⟩
    · rw [h1, kb1_eq, if_pos rfl, b1]
    · rw [h1, kb1_eq, if_pos rfl, b2]
  rw [h1, kb1_eq, kb1_eq, if_neg i10, if_neg i10]
  have hc : (nI k).toNatClampNeg = k := nI_clamp (by omega)
  by_cases q : x2 = 0
  · rw [if_pos q, if_pos q]
    refine ⟨hs k, upd hs k x3, ag, fi, upd A (50 + k) x3, fo, ?_, ?_, R.hs hk, F⟩
    · simp only [kx hk (by decide), klet_eq, hc]
    · unfold f_M_set_2
      rw [nl50, nI_add, M_become_eq A (by omega), kb2_eq, R.1.1.1 k hk]
  · rw [if_neg q, if_neg q]
    refine ⟨ag k, hs, upd ag k x3, fi, upd A (86 + k) x3, fo, ?_, ?_, R.ag hk, F⟩
    · simp only [kx hk (by decide), klet_eq, hc]
    · unfold f_M_set_2
      rw [nl86, nI_add, M_become_eq A (by omega), kb2_eq, R.1.1.2.1 k hk]
theorem sim_vent {mo vo ou fe fq pi vt ash nu bu se st z : Int32} {hs ag ws ki ce ow pu ch sh di : Nat → Int32} {A fi fo : Nat → Int32} (R : RI mo vo ou fe fq pi vt ash hs ag ws nu bu ki ce ow pu se st z ch sh di A) (F : RF fi fo) (x1 : Int32) : ∃ r vt' fi' A' fo', f_X_vent vt fi x1 = some (r, vt', fi') ∧ f_M_vent A fo x1 = some (r, A', fo') ∧ RI mo vo ou fe fq pi vt' ash hs ag ws nu bu ki ce ow pu se st z ch sh di A' ∧ RF fi' fo' := by
  obtain ⟨fi', fo', b1, b2, F'⟩ := fnd0 F
  unfold f_X_vent f_M_vent
  rcases isCell_cases x1 with ⟨hx, hm⟩ | ⟨k, hk, rfl, hx, hm⟩
  · refine ⟨-1000000001, vt, fi', A, fo', ?_, ?_, R, F'⟩
    · rw [hx, kb1_eq, if_pos rfl, b1, kb2_eq]
    · rw [hm, kb1_eq, if_pos rfl, b2, kb2_eq]
  rw [hx, hm, kb1_eq, kb1_eq, if_neg i10, if_neg i10]
  refine ⟨vt, nI k, fi, upd A 3 (nI k), fo, rfl, ?_, R.vt hk, F⟩
  rw [nl3, M_become_eq A (by omega), kb2_eq, R.1.2.2.2.2.2.1]
theorem sim_volume {mo vo ou fe fq pi vt ash nu bu se st z : Int32} {hs ag ws ki ce ow pu ch sh di : Nat → Int32} {A fi fo : Nat → Int32} (R : RI mo vo ou fe fq pi vt ash hs ag ws nu bu ki ce ow pu se st z ch sh di A) (F : RF fi fo) (x1 : Int32) : ∃ r vo' fi' A' fo', f_X_volume vo fi x1 = some (r, vo', fi') ∧ f_M_volume A fo x1 = some (r, A', fo') ∧ RI mo vo' ou fe fq pi vt ash hs ag ws nu bu ki ce ow pu se st z ch sh di A' ∧ RF fi' fo' := by
  obtain ⟨fi', fo', b1, b2, F'⟩ := fnd0 F
  unfold f_X_volume f_M_volume
  rcases isVolume_cases x1 with ⟨hx, hm⟩ | ⟨k, hk, hk2, rfl, hx, hm⟩
  · refine ⟨-1000000001, vo, fi', A, fo', ?_, ?_, R, F'⟩
    · rw [hx, kb1_eq, if_pos rfl, b1, kb2_eq]
    · rw [hm, kb1_eq, if_pos rfl, b2, kb2_eq]
  rw [hx, hm, kb1_eq, kb1_eq, if_neg i10, if_neg i10]
  refine ⟨vo, nI k, fi, upd A 5 (nI k), fo, rfl, ?_, R.vo hk hk2, F⟩
  rw [nl5, M_become_eq A (by omega), kb2_eq, R.1.2.2.2.2.2.2.2.1]
theorem sim_seed {mo vo ou fe fq pi vt ash nu bu se st z : Int32} {hs ag ws ki ce ow pu ch sh di : Nat → Int32} {A : Nat → Int32} (R : RI mo vo ou fe fq pi vt ash hs ag ws nu bu ki ce ow pu se st z ch sh di A) (x1 : Int32) : ∃ A', f_X_seed z x1 = some (z, x1) ∧ f_M_seed A x1 = some (z, A') ∧ RI mo vo ou fe fq pi vt ash hs ag ws nu bu ki ce ow pu se st x1 ch sh di A' := by
  refine ⟨upd A 0 x1, rfl, ?_, R.z⟩
  unfold f_M_seed
  rw [nl0, M_become_eq A (by omega), kb2_eq, R.1.2.2.1]
theorem sim_burn {mo vo ou fe fq pi vt ash nu bu se st z : Int32} {hs ag ws ki ce ow pu ch sh di : Nat → Int32} {A : Nat → Int32} (R : RI mo vo ou fe fq pi vt ash hs ag ws nu bu ki ce ow pu se st z ch sh di A) : ∃ A', f_X_burn se = some (se, nI 0) ∧ f_M_burn A = some (se, A') ∧ RI mo vo ou fe fq pi vt ash hs ag ws nu bu ki ce ow pu (nI 0) st z ch sh di A' := by
  refine ⟨upd A 11 (nI 0), rfl, ?_, R.se0⟩
  unfold f_M_burn
  rw [nl11, nl0, M_become_eq A (by omega), kb2_eq, R.1.2.2.2.2.2.2.2.2.2.2.2.2.2]
