/-! lays -/
theorem lays_l0 {mo vo ou fe fq pi vt ash nu bu se st z : Int32} {ag ws ki ce ow pu ch sh di : Nat → Int32} {b n : Int32} {L nm : Nat → Int64} {wd sz fi fo : Nat → Int32} (H : RQ 0 b n L wd sz nm) : ∀ k i cnt (hs A : Nat → Int32), 36 - i < k → i ≤ 36 → RI mo vo ou fe fq pi vt ash hs ag ws nu bu ki ce ow pu se st z ch sh di A → ∃ r hs' A', fl_X_lays_1 n L fi k cnt (nI i) hs = some (r, hs', fi) ∧ fl_M_lays_1 (nI 0) fo sz nm k cnt (nI i) A = some (r, A', fo) ∧ RI mo vo ou fe fq pi vt ash hs' ag ws nu bu ki ce ow pu se st z ch sh di A' := by
  obtain ⟨hw, hz, hl, -, kk, hkk, hn⟩ := id H
  intro k
  induction k with
  | zero => intro i _ _ _ h; exact absurd h (by omega)
  | succ k ih =>
    intro i cnt hs A h hi R
    rw [fl_X_lays_1_s, fl_M_lays_1_s]
    unfold fb_X_lays_1 fb_M_lays_1
    have cs : (nI 0).toNatClampNeg = 0 := nI_clamp (by decide)
    rw [kx (k := 0) (n := 4) (by decide) (by decide), cs, hz]
    by_cases q : i = 36
    · subst q
      refine ⟨cnt, hs, A, by rw [if_pos (show (36 : Int32) ≤ nI 36 by decide)], ?_, R⟩
      by_cases y : n ≤ nI 36
      · rw [if_pos y]
      · rw [if_neg y, if_pos (show (36 : Int32) ≤ nI 36 by decide)]
    · have n36 : ¬ (36 : Int32) ≤ nI i := nI_ge (b := 36) (by omega) (by decide)
      rw [if_neg n36]
      by_cases y : n ≤ nI i
      · rw [if_pos y, if_pos y]; exact ⟨cnt, hs, A, rfl, rfl, R⟩
      · have k1 : (nI (40 * 0 + i)).toNatClampNeg = 40 * 0 + i := nI_clamp (by omega)
        have k2 : (nI i).toNatClampNeg = i := nI_clamp (by omega)
        have k3 : (nI (50 + i)).toNatClampNeg = 50 + i := nI_clamp (by omega)
        rw [if_neg y, if_neg y, if_neg n36, nl40, pk_mul, nI_add, kx (k := i) (n := 40) (by omega) (by decide), kx (k := 40 * 0 + i) (n := 160) (by omega) (by decide), klet_eq, klet_eq, k1, k2, hl i (by omega), nI_1]
        by_cases z1 : lg_cmp (L i) 0 < 0
        · rw [if_pos z1, if_pos z1]; exact ih (i + 1) cnt hs A (by omega) (by omega) R
        rw [if_neg z1, if_neg z1]
        by_cases z2 : 0 < lg_cmp (L i) 99
        · rw [if_pos z2, if_pos z2]; exact ih (i + 1) cnt hs A (by omega) (by omega) R
        rw [if_neg z2, if_neg z2, kx (k := i) (n := 36) (by omega) (by decide), nl50, nI_add, kx (k := 50 + i) (n := 218) (by omega) (by decide), k3]
        exact ih (i + 1) (cnt + 1) _ _ (by omega) (by omega) (RI.hs (by omega) R)
theorem lays_l1 {mo vo ou fe fq pi vt ash nu bu se st z : Int32} {ag ws ki ce ow pu ch sh di : Nat → Int32} {b n : Int32} {L nm : Nat → Int64} {wd sz fi fo : Nat → Int32} (H : RQ 1 b n L wd sz nm) : ∀ k i cnt (hs A : Nat → Int32), 36 - i < k → i ≤ 36 → RI mo vo ou fe fq pi vt ash hs ag ws nu bu ki ce ow pu se st z ch sh di A → ∃ r hs' A', fl_X_lays_2 n L fi k cnt (nI i) hs = some (r, hs', fi) ∧ fl_M_lays_1 (nI 1) fo sz nm k cnt (nI i) A = some (r, A', fo) ∧ RI mo vo ou fe fq pi vt ash hs' ag ws nu bu ki ce ow pu se st z ch sh di A' := by
  obtain ⟨hw, hz, hl, -, kk, hkk, hn⟩ := id H
  intro k
  induction k with
  | zero => intro i _ _ _ h; exact absurd h (by omega)
  | succ k ih =>
    intro i cnt hs A h hi R
    rw [fl_X_lays_2_s, fl_M_lays_1_s]
    unfold fb_X_lays_2 fb_M_lays_1
    have cs : (nI 1).toNatClampNeg = 1 := nI_clamp (by decide)
    rw [kx (k := 1) (n := 4) (by decide) (by decide), cs, hz]
    by_cases q : i = 36
    · subst q
      refine ⟨cnt, hs, A, by rw [if_pos (show (36 : Int32) ≤ nI 36 by decide)], ?_, R⟩
      by_cases y : n ≤ nI 36
      · rw [if_pos y]
      · rw [if_neg y, if_pos (show (36 : Int32) ≤ nI 36 by decide)]
    · have n36 : ¬ (36 : Int32) ≤ nI i := nI_ge (b := 36) (by omega) (by decide)
      rw [if_neg n36]
      by_cases y : n ≤ nI i
      · rw [if_pos y, if_pos y]; exact ⟨cnt, hs, A, rfl, rfl, R⟩
      · have k1 : (nI (40 * 1 + i)).toNatClampNeg = 40 * 1 + i := nI_clamp (by omega)
        have k2 : (nI i).toNatClampNeg = i := nI_clamp (by omega)
        have k3 : (nI (50 + i)).toNatClampNeg = 50 + i := nI_clamp (by omega)
        rw [if_neg y, if_neg y, if_neg n36, nl40, pk_mul, nI_add, kx (k := i) (n := 40) (by omega) (by decide), kx (k := 40 * 1 + i) (n := 160) (by omega) (by decide), klet_eq, klet_eq, k1, k2, hl i (by omega), nI_1]
        by_cases z1 : lg_cmp (L i) 0 < 0
        · rw [if_pos z1, if_pos z1]; exact ih (i + 1) cnt hs A (by omega) (by omega) R
        rw [if_neg z1, if_neg z1]
        by_cases z2 : 0 < lg_cmp (L i) 99
        · rw [if_pos z2, if_pos z2]; exact ih (i + 1) cnt hs A (by omega) (by omega) R
        rw [if_neg z2, if_neg z2, kx (k := i) (n := 36) (by omega) (by decide), nl50, nI_add, kx (k := 50 + i) (n := 218) (by omega) (by decide), k3]
        exact ih (i + 1) (cnt + 1) _ _ (by omega) (by omega) (RI.hs (by omega) R)
theorem lays_l2 {mo vo ou fe fq pi vt ash nu bu se st z : Int32} {ag ws ki ce ow pu ch sh di : Nat → Int32} {b n : Int32} {L nm : Nat → Int64} {wd sz fi fo : Nat → Int32} (H : RQ 2 b n L wd sz nm) : ∀ k i cnt (hs A : Nat → Int32), 36 - i < k → i ≤ 36 → RI mo vo ou fe fq pi vt ash hs ag ws nu bu ki ce ow pu se st z ch sh di A → ∃ r hs' A', fl_X_lays_3 n L fi k cnt (nI i) hs = some (r, hs', fi) ∧ fl_M_lays_1 (nI 2) fo sz nm k cnt (nI i) A = some (r, A', fo) ∧ RI mo vo ou fe fq pi vt ash hs' ag ws nu bu ki ce ow pu se st z ch sh di A' := by
  obtain ⟨hw, hz, hl, -, kk, hkk, hn⟩ := id H
  intro k
  induction k with
  | zero => intro i _ _ _ h; exact absurd h (by omega)
  | succ k ih =>
    intro i cnt hs A h hi R
    rw [fl_X_lays_3_s, fl_M_lays_1_s]
    unfold fb_X_lays_3 fb_M_lays_1
    have cs : (nI 2).toNatClampNeg = 2 := nI_clamp (by decide)
    rw [kx (k := 2) (n := 4) (by decide) (by decide), cs, hz]
    by_cases q : i = 36
    · subst q
      refine ⟨cnt, hs, A, by rw [if_pos (show (36 : Int32) ≤ nI 36 by decide)], ?_, R⟩
      by_cases y : n ≤ nI 36
      · rw [if_pos y]
      · rw [if_neg y, if_pos (show (36 : Int32) ≤ nI 36 by decide)]
    · have n36 : ¬ (36 : Int32) ≤ nI i := nI_ge (b := 36) (by omega) (by decide)
      rw [if_neg n36]
      by_cases y : n ≤ nI i
      · rw [if_pos y, if_pos y]; exact ⟨cnt, hs, A, rfl, rfl, R⟩
      · have k1 : (nI (40 * 2 + i)).toNatClampNeg = 40 * 2 + i := nI_clamp (by omega)
        have k2 : (nI i).toNatClampNeg = i := nI_clamp (by omega)
        have k3 : (nI (50 + i)).toNatClampNeg = 50 + i := nI_clamp (by omega)
        rw [if_neg y, if_neg y, if_neg n36, nl40, pk_mul, nI_add, kx (k := i) (n := 40) (by omega) (by decide), kx (k := 40 * 2 + i) (n := 160) (by omega) (by decide), klet_eq, klet_eq, k1, k2, hl i (by omega), nI_1]
        by_cases z1 : lg_cmp (L i) 0 < 0
        · rw [if_pos z1, if_pos z1]; exact ih (i + 1) cnt hs A (by omega) (by omega) R
        rw [if_neg z1, if_neg z1]
        by_cases z2 : 0 < lg_cmp (L i) 99
        · rw [if_pos z2, if_pos z2]; exact ih (i + 1) cnt hs A (by omega) (by omega) R
        rw [if_neg z2, if_neg z2, kx (k := i) (n := 36) (by omega) (by decide), nl50, nI_add, kx (k := 50 + i) (n := 218) (by omega) (by decide), k3]
        exact ih (i + 1) (cnt + 1) _ _ (by omega) (by omega) (RI.hs (by omega) R)
theorem lays_l3 {mo vo ou fe fq pi vt ash nu bu se st z : Int32} {ag ws ki ce ow pu ch sh di : Nat → Int32} {b n : Int32} {L nm : Nat → Int64} {wd sz fi fo : Nat → Int32} (H : RQ 3 b n L wd sz nm) : ∀ k i cnt (hs A : Nat → Int32), 36 - i < k → i ≤ 36 → RI mo vo ou fe fq pi vt ash hs ag ws nu bu ki ce ow pu se st z ch sh di A → ∃ r hs' A', fl_X_lays_4 n L fi k cnt (nI i) hs = some (r, hs', fi) ∧ fl_M_lays_1 (nI 3) fo sz nm k cnt (nI i) A = some (r, A', fo) ∧ RI mo vo ou fe fq pi vt ash hs' ag ws nu bu ki ce ow pu se st z ch sh di A' := by
  obtain ⟨hw, hz, hl, -, kk, hkk, hn⟩ := id H
  intro k
  induction k with
  | zero => intro i _ _ _ h; exact absurd h (by omega)
  | succ k ih =>
    intro i cnt hs A h hi R
    rw [fl_X_lays_4_s, fl_M_lays_1_s]
    unfold fb_X_lays_4 fb_M_lays_1
    have cs : (nI 3).toNatClampNeg = 3 := nI_clamp (by decide)
    rw [kx (k := 3) (n := 4) (by decide) (by decide), cs, hz]
    by_cases q : i = 36
    · subst q
      refine ⟨cnt, hs, A, by rw [if_pos (show (36 : Int32) ≤ nI 36 by decide)], ?_, R⟩
      by_cases y : n ≤ nI 36
      · rw [if_pos y]
      · rw [if_neg y, if_pos (show (36 : Int32) ≤ nI 36 by decide)]
    · have n36 : ¬ (36 : Int32) ≤ nI i := nI_ge (b := 36) (by omega) (by decide)
      rw [if_neg n36]
      by_cases y : n ≤ nI i
      · rw [if_pos y, if_pos y]; exact ⟨cnt, hs, A, rfl, rfl, R⟩
      · have k1 : (nI (40 * 3 + i)).toNatClampNeg = 40 * 3 + i := nI_clamp (by omega)
        have k2 : (nI i).toNatClampNeg = i := nI_clamp (by omega)
        have k3 : (nI (50 + i)).toNatClampNeg = 50 + i := nI_clamp (by omega)
        rw [if_neg y, if_neg y, if_neg n36, nl40, pk_mul, nI_add, kx (k := i) (n := 40) (by omega) (by decide), kx (k := 40 * 3 + i) (n := 160) (by omega) (by decide), klet_eq, klet_eq, k1, k2, hl i (by omega), nI_1]
        by_cases z1 : lg_cmp (L i) 0 < 0
        · rw [if_pos z1, if_pos z1]; exact ih (i + 1) cnt hs A (by omega) (by omega) R
        rw [if_neg z1, if_neg z1]
        by_cases z2 : 0 < lg_cmp (L i) 99
        · rw [if_pos z2, if_pos z2]; exact ih (i + 1) cnt hs A (by omega) (by omega) R
        rw [if_neg z2, if_neg z2, kx (k := i) (n := 36) (by omega) (by decide), nl50, nI_add, kx (k := 50 + i) (n := 218) (by omega) (by decide), k3]
        exact ih (i + 1) (cnt + 1) _ _ (by omega) (by omega) (RI.hs (by omega) R)
/-- lays -/
theorem sim_lays {mo vo ou fe fq pi vt ash nu bu se st z : Int32} {hs ag ws ki ce ow pu ch sh di : Nat → Int32} {b0 n0 b1 n1 b2 n2 b3 n3 : Int32} {l0 l1 l2 l3 : Nat → Int64} {wd sz fi fo A : Nat → Int32} {nm : Nat → Int64} (R : RI mo vo ou fe fq pi vt ash hs ag ws nu bu ki ce ow pu se st z ch sh di A) (H : RH b0 n0 l0 b1 n1 l1 b2 n2 l2 b3 n3 l3 wd sz nm) (F : RF fi fo) (x1 : Int32) : ∃ r hs' fi' A' fo', f_X_lays hs b0 n0 l0 b1 n1 l1 b2 n2 l2 b3 n3 l3 fi x1 = some (r, hs', fi') ∧ f_M_lays A fo wd sz nm x1 = some (r, A', fo') ∧ RI mo vo ou fe fq pi vt ash hs' ag ws nu bu ki ce ow pu se st z ch sh di A' ∧ RF fi' fo' := by
  obtain ⟨H0, H1, H2, H3⟩ := id H
  unfold f_X_lays f_M_lays
  rcases isSheet_cases x1 with ⟨hx, hm⟩ | ⟨s, hs4, rfl, hx, hm⟩
  · obtain ⟨fi', fo', z1, z2, F'⟩ := fnd0 F
    exact ⟨-1000000001, hs, fi', A, fo', by rw [hx, kb1_eq, if_pos rfl, z1, kb2_eq], by rw [hm, kb1_eq, if_pos rfl, z2, kb2_eq], R, F'⟩
  rw [hx, hm, kb1_eq, kb1_eq, if_neg i10, if_neg i10]
  have c4 : s = 0 ∨ s = 1 ∨ s = 2 ∨ s = 3 := by omega
  rcases c4 with rfl | rfl | rfl | rfl
  · obtain ⟨hw, hz, hl, -, kk, hkk, hn⟩ := id H0
    have cs : (nI 0).toNatClampNeg = 0 := nI_clamp (by decide)
    rw [if_pos (by decide), kx (k := 0) (n := 4) (by decide) (by decide), cs, hw]
    unfold f_Sh_isMissing
    by_cases zb : b0 = 0
    · obtain ⟨fi', fo', z1, z2, F'⟩ := fnd5 F
      refine ⟨-1000000006, hs, fi', A, fo', ?_, ?_, R, F'⟩
      · rw [if_pos zb, kb1_eq, if_neg i10, z1, kb2_eq]
      · rw [if_pos zb, z2, kb2_eq]
    · rw [if_neg zb, kb1_eq, if_pos rfl, if_neg zb]
      obtain ⟨r, hs', A', e1, e2, e3⟩ := lays_l0 (fi := fi) (fo := fo) H0 kFuel 0 0 hs A (by unfold kFuel; omega) (by omega) R
      exact ⟨r, hs', fi, A', fo, e1, e2, e3, F⟩
  · obtain ⟨hw, hz, hl, -, kk, hkk, hn⟩ := id H1
    have cs : (nI 1).toNatClampNeg = 1 := nI_clamp (by decide)
    rw [if_neg (by decide), if_pos (by decide), kx (k := 1) (n := 4) (by decide) (by decide), cs, hw]
    unfold f_Sh_isMissing
    by_cases zb : b1 = 0
    · obtain ⟨fi', fo', z1, z2, F'⟩ := fnd5 F
      refine ⟨-1000000006, hs, fi', A, fo', ?_, ?_, R, F'⟩
      · rw [if_pos zb, kb1_eq, if_neg i10, z1, kb2_eq]
      · rw [if_pos zb, z2, kb2_eq]
    · rw [if_neg zb, kb1_eq, if_pos rfl, if_neg zb]
      obtain ⟨r, hs', A', e1, e2, e3⟩ := lays_l1 (fi := fi) (fo := fo) H1 kFuel 0 0 hs A (by unfold kFuel; omega) (by omega) R
      exact ⟨r, hs', fi, A', fo, e1, e2, e3, F⟩
  · obtain ⟨hw, hz, hl, -, kk, hkk, hn⟩ := id H2
    have cs : (nI 2).toNatClampNeg = 2 := nI_clamp (by decide)
    rw [if_neg (by decide), if_neg (by decide), if_pos (by decide), kx (k := 2) (n := 4) (by decide) (by decide), cs, hw]
    unfold f_Sh_isMissing
    by_cases zb : b2 = 0
    · obtain ⟨fi', fo', z1, z2, F'⟩ := fnd5 F
      refine ⟨-1000000006, hs, fi', A, fo', ?_, ?_, R, F'⟩
      · rw [if_pos zb, kb1_eq, if_neg i10, z1, kb2_eq]
      · rw [if_pos zb, z2, kb2_eq]
    · rw [if_neg zb, kb1_eq, if_pos rfl, if_neg zb]
      obtain ⟨r, hs', A', e1, e2, e3⟩ := lays_l2 (fi := fi) (fo := fo) H2 kFuel 0 0 hs A (by unfold kFuel; omega) (by omega) R
      exact ⟨r, hs', fi, A', fo, e1, e2, e3, F⟩
  · obtain ⟨hw, hz, hl, -, kk, hkk, hn⟩ := id H3
    have cs : (nI 3).toNatClampNeg = 3 := nI_clamp (by decide)
    rw [if_neg (by decide), if_neg (by decide), if_neg (by decide), if_pos (by decide), kx (k := 3) (n := 4) (by decide) (by decide), cs, hw]
    unfold f_Sh_isMissing
    by_cases zb : b3 = 0
    · obtain ⟨fi', fo', z1, z2, F'⟩ := fnd5 F
      refine ⟨-1000000006, hs, fi', A, fo', ?_, ?_, R, F'⟩
      · rw [if_pos zb, kb1_eq, if_neg i10, z1, kb2_eq]
      · rw [if_pos zb, z2, kb2_eq]
    · rw [if_neg zb, kb1_eq, if_pos rfl, if_neg zb]
      obtain ⟨r, hs', A', e1, e2, e3⟩ := lays_l3 (fi := fi) (fo := fo) H3 kFuel 0 0 hs A (by unfold kFuel; omega) (by omega) R
      exact ⟨r, hs', fi, A', fo, e1, e2, e3, F⟩
