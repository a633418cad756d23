/-! book -/
theorem min_x (a b : Nat) (ha : a < 2 ^ 31) (hb : b < 2 ^ 31) : ∃ k, k ≤ a ∧ k ≤ b ∧ f_Ma_min (nI a) (nI b) = some (nI k) ∧ f_Ma_min (nI b) (nI a) = some (nI k) := by
  unfold f_Ma_min
  by_cases q : b < a
  · exact ⟨b, by omega, by omega, by rw [if_pos (nI_lt q ha)], by rw [if_neg (nI_nlt (by omega) ha)]⟩
  · by_cases q2 : a < b
    · exact ⟨a, by omega, by omega, by rw [if_neg (nI_nlt (by omega) hb)], by rw [if_pos (nI_lt q2 hb)]⟩
    · have : a = b := by omega
      subst this
      exact ⟨a, by omega, by omega, by rw [if_neg (nI_nlt (by omega) hb)], by rw [if_neg (nI_nlt (by omega) hb)]⟩
theorem in_at {n : Int32} {kk k : Nat} (hkk : kk ≤ 40) (hn : n = nI kk) (h : k < kk) : f_M_within (nI k) 0 (n - 1) = some 1 := by
  obtain ⟨j, rfl⟩ : ∃ j, kk = j + 1 := ⟨kk - 1, by omega⟩
  rw [hn, nI_pred]
  exact within_y (nI_pos (by omega)) (nI_nlt (by omega) (by omega))
theorem book_l0 {b0 n0 b1 n1 b2 n2 b3 n3 : Int32} {l1 l2 l3 : Nat → Int64} {ki ce ow pu : Nat → Int32} {bu : Int32} {wd sz fi fo A : Nat → Int32} (Rf : RFm ki ce ow pu bu A) {N kk : Nat} (hN : N ≤ 12) (hk : N ≤ kk) (hkk : kk ≤ 40) (hn : n0 = nI kk) : ∀ k i (l0 nm : Nat → Int64), N - i < k → i ≤ N → RH b0 n0 l0 b1 n1 l1 b2 n2 l2 b3 n3 l3 wd sz nm → ∃ l0' nm', fl_X_book_1 (nI N) pu b0 n0 l1 l2 l3 fi k (nI i) l0 = some (nI N, l0', l1, l2, l3, fi) ∧ fl_M_book_1 (nI 0) (nI N) A fo wd k (nI i) nm = some (nI N, fo, nm') ∧ RH b0 n0 l0' b1 n1 l1 b2 n2 l2 b3 n3 l3 wd sz nm' := by
  intro k
  induction k with
  | zero => intro i _ _ h; exact absurd h (by omega)
  | succ k ih =>
    intro i l0 nm h hi H
    obtain ⟨H0, H1, H2, H3⟩ := id H
    rw [fl_X_book_1_s, fl_M_book_1_s]
    unfold fb_X_book_1 fb_M_book_1
    by_cases q : i = N
    · subst q
      exact ⟨l0, nm, by rw [if_pos (nI_le (Nat.le_refl _) (by omega))], by rw [if_pos (nI_le (Nat.le_refl _) (by omega))], H⟩
    · have cs : (nI 0).toNatClampNeg = 0 := nI_clamp (by decide)
      have k1 : (nI (40 * 0 + i)).toNatClampNeg = 40 * 0 + i := nI_clamp (by omega)
      have k2 : (nI i).toNatClampNeg = i := nI_clamp (by omega)
      obtain ⟨w, c1⟩ := cut_some (pu i).toInt64 b0
      have f3 := (Rf i (by omega)).2.2.2.1
      rw [if_neg (nI_ge (by omega) (by omega)), if_neg (nI_ge (by omega) (by omega)), kx (k := i) (n := 12) (by omega) (by decide), k2, put_x (by omega) (in_at hkk hn (by omega)) c1, kb1_eq, nl3, M_farmIs_eq A (by omega) (by decide), kb1_eq, f3, kx (k := 0) (n := 4) (by decide) (by decide), cs, H0.1, c1, kb1_eq, nl40, pk_mul, nI_add, kx (k := 40 * 0 + i) (n := 160) (by omega) (by decide), k1, nI_1]
      exact ih (i + 1) _ _ (by omega) (by omega) ⟨H0.put, H1.oput (s := 0) (by decide) (by omega), H2.oput (s := 0) (by decide) (by omega), H3.oput (s := 0) (by decide) (by omega)⟩
theorem book_l1 {b0 n0 b1 n1 b2 n2 b3 n3 : Int32} {l0 l2 l3 : Nat → Int64} {ki ce ow pu : Nat → Int32} {bu : Int32} {wd sz fi fo A : Nat → Int32} (Rf : RFm ki ce ow pu bu A) {N kk : Nat} (hN : N ≤ 12) (hk : N ≤ kk) (hkk : kk ≤ 40) (hn : n1 = nI kk) : ∀ k i (l1 nm : Nat → Int64), N - i < k → i ≤ N → RH b0 n0 l0 b1 n1 l1 b2 n2 l2 b3 n3 l3 wd sz nm → ∃ l1' nm', fl_X_book_2 (nI N) pu l0 b1 n1 l2 l3 fi k (nI i) l1 = some (nI N, l0, l1', l2, l3, fi) ∧ fl_M_book_1 (nI 1) (nI N) A fo wd k (nI i) nm = some (nI N, fo, nm') ∧ RH b0 n0 l0 b1 n1 l1' b2 n2 l2 b3 n3 l3 wd sz nm' := by
  intro k
  induction k with
  | zero => intro i _ _ h; exact absurd h (by omega)
  | succ k ih =>
    intro i l1 nm h hi H
    obtain ⟨H0, H1, H2, H3⟩ := id H
    rw [fl_X_book_2_s, fl_M_book_1_s]
    unfold fb_X_book_2 fb_M_book_1
    by_cases q : i = N
    · subst q
      exact ⟨l1, nm, by rw [if_pos (nI_le (Nat.le_refl _) (by omega))], by rw [if_pos (nI_le (Nat.le_refl _) (by omega))], H⟩
    · have cs : (nI 1).toNatClampNeg = 1 := nI_clamp (by decide)
      have k1 : (nI (40 * 1 + i)).toNatClampNeg = 40 * 1 + i := nI_clamp (by omega)
      have k2 : (nI i).toNatClampNeg = i := nI_clamp (by omega)
      obtain ⟨w, c1⟩ := cut_some (pu i).toInt64 b1
      have f3 := (Rf i (by omega)).2.2.2.1
      rw [if_neg (nI_ge (by omega) (by omega)), if_neg (nI_ge (by omega) (by omega)), kx (k := i) (n := 12) (by omega) (by decide), k2, put_x (by omega) (in_at hkk hn (by omega)) c1, kb1_eq, nl3, M_farmIs_eq A (by omega) (by decide), kb1_eq, f3, kx (k := 1) (n := 4) (by decide) (by decide), cs, H1.1, c1, kb1_eq, nl40, pk_mul, nI_add, kx (k := 40 * 1 + i) (n := 160) (by omega) (by decide), k1, nI_1]
      exact ih (i + 1) _ _ (by omega) (by omega) ⟨H0.oput (s := 1) (by decide) (by omega), H1.put, H2.oput (s := 1) (by decide) (by omega), H3.oput (s := 1) (by decide) (by omega)⟩
theorem book_l2 {b0 n0 b1 n1 b2 n2 b3 n3 : Int32} {l0 l1 l3 : Nat → Int64} {ki ce ow pu : Nat → Int32} {bu : Int32} {wd sz fi fo A : Nat → Int32} (Rf : RFm ki ce ow pu bu A) {N kk : Nat} (hN : N ≤ 12) (hk : N ≤ kk) (hkk : kk ≤ 40) (hn : n2 = nI kk) : ∀ k i (l2 nm : Nat → Int64), N - i < k → i ≤ N → RH b0 n0 l0 b1 n1 l1 b2 n2 l2 b3 n3 l3 wd sz nm → ∃ l2' nm', fl_X_book_3 (nI N) pu l0 l1 b2 n2 l3 fi k (nI i) l2 = some (nI N, l0, l1, l2', l3, fi) ∧ fl_M_book_1 (nI 2) (nI N) A fo wd k (nI i) nm = some (nI N, fo, nm') ∧ RH b0 n0 l0 b1 n1 l1 b2 n2 l2' b3 n3 l3 wd sz nm' := by
  intro k
  induction k with
  | zero => intro i _ _ h; exact absurd h (by omega)
  | succ k ih =>
    intro i l2 nm h hi H
    obtain ⟨H0, H1, H2, H3⟩ := id H
    rw [fl_X_book_3_s, fl_M_book_1_s]
    unfold fb_X_book_3 fb_M_book_1
    by_cases q : i = N
    · subst q
      exact ⟨l2, nm, by rw [if_pos (nI_le (Nat.le_refl _) (by omega))], by rw [if_pos (nI_le (Nat.le_refl _) (by omega))], H⟩
    · have cs : (nI 2).toNatClampNeg = 2 := nI_clamp (by decide)
      have k1 : (nI (40 * 2 + i)).toNatClampNeg = 40 * 2 + i := nI_clamp (by omega)
      have k2 : (nI i).toNatClampNeg = i := nI_clamp (by omega)
      obtain ⟨w, c1⟩ := cut_some (pu i).toInt64 b2
      have f3 := (Rf i (by omega)).2.2.2.1
      rw [if_neg (nI_ge (by omega) (by omega)), if_neg (nI_ge (by omega) (by omega)), kx (k := i) (n := 12) (by omega) (by decide), k2, put_x (by omega) (in_at hkk hn (by omega)) c1, kb1_eq, nl3, M_farmIs_eq A (by omega) (by decide), kb1_eq, f3, kx (k := 2) (n := 4) (by decide) (by decide), cs, H2.1, c1, kb1_eq, nl40, pk_mul, nI_add, kx (k := 40 * 2 + i) (n := 160) (by omega) (by decide), k1, nI_1]
      exact ih (i + 1) _ _ (by omega) (by omega) ⟨H0.oput (s := 2) (by decide) (by omega), H1.oput (s := 2) (by decide) (by omega), H2.put, H3.oput (s := 2) (by decide) (by omega)⟩
theorem book_l3 {b0 n0 b1 n1 b2 n2 b3 n3 : Int32} {l0 l1 l2 : Nat → Int64} {ki ce ow pu : Nat → Int32} {bu : Int32} {wd sz fi fo A : Nat → Int32} (Rf : RFm ki ce ow pu bu A) {N kk : Nat} (hN : N ≤ 12) (hk : N ≤ kk) (hkk : kk ≤ 40) (hn : n3 = nI kk) : ∀ k i (l3 nm : Nat → Int64), N - i < k → i ≤ N → RH b0 n0 l0 b1 n1 l1 b2 n2 l2 b3 n3 l3 wd sz nm → ∃ l3' nm', fl_X_book_4 (nI N) pu l0 l1 l2 b3 n3 fi k (nI i) l3 = some (nI N, l0, l1, l2, l3', fi) ∧ fl_M_book_1 (nI 3) (nI N) A fo wd k (nI i) nm = some (nI N, fo, nm') ∧ RH b0 n0 l0 b1 n1 l1 b2 n2 l2 b3 n3 l3' wd sz nm' := by
  intro k
  induction k with
  | zero => intro i _ _ h; exact absurd h (by omega)
  | succ k ih =>
    intro i l3 nm h hi H
    obtain ⟨H0, H1, H2, H3⟩ := id H
    rw [fl_X_book_4_s, fl_M_book_1_s]
    unfold fb_X_book_4 fb_M_book_1
    by_cases q : i = N
    · subst q
      exact ⟨l3, nm, by rw [if_pos (nI_le (Nat.le_refl _) (by omega))], by rw [if_pos (nI_le (Nat.le_refl _) (by omega))], H⟩
    · have cs : (nI 3).toNatClampNeg = 3 := nI_clamp (by decide)
      have k1 : (nI (40 * 3 + i)).toNatClampNeg = 40 * 3 + i := nI_clamp (by omega)
      have k2 : (nI i).toNatClampNeg = i := nI_clamp (by omega)
      obtain ⟨w, c1⟩ := cut_some (pu i).toInt64 b3
      have f3 := (Rf i (by omega)).2.2.2.1
      rw [if_neg (nI_ge (by omega) (by omega)), if_neg (nI_ge (by omega) (by omega)), kx (k := i) (n := 12) (by omega) (by decide), k2, put_x (by omega) (in_at hkk hn (by omega)) c1, kb1_eq, nl3, M_farmIs_eq A (by omega) (by decide), kb1_eq, f3, kx (k := 3) (n := 4) (by decide) (by decide), cs, H3.1, c1, kb1_eq, nl40, pk_mul, nI_add, kx (k := 40 * 3 + i) (n := 160) (by omega) (by decide), k1, nI_1]
      exact ih (i + 1) _ _ (by omega) (by omega) ⟨H0.oput (s := 3) (by decide) (by omega), H1.oput (s := 3) (by decide) (by omega), H2.oput (s := 3) (by decide) (by omega), H3.put⟩
/-- book -/
theorem sim_book {mo vo ou fe fq pi vt ash nu bu se st z : Int32} {hs ag ws ki ce ow pu ch sh di : Nat → Int32} {b0 n0 b1 n1 b2 n2 b3 n3 : Int32} {l0 l1 l2 l3 : Nat → Int64} {wd sz fi fo A : Nat → Int32} {nm : Nat → Int64} (R : RI mo vo ou fe fq pi vt ash hs ag ws nu bu ki ce ow pu se st z ch sh di A) (H : RH b0 n0 l0 b1 n1 l1 b2 n2 l2 b3 n3 l3 wd sz nm) (F : RF fi fo) (x1 : Int32) : ∃ r l0' l1' l2' l3' fi' fo' nm', f_X_book nu pu b0 n0 l0 b1 n1 l1 b2 n2 l2 b3 n3 l3 fi x1 = some (r, l0', l1', l2', l3', fi') ∧ f_M_book A fo wd sz nm x1 = some (r, fo', nm') ∧ RH b0 n0 l0' b1 n1 l1' b2 n2 l2' b3 n3 l3' wd sz nm' ∧ RF fi' fo' := by
  obtain ⟨H0, H1, H2, H3⟩ := id H
  obtain ⟨N, hN, hnu, -⟩ := id R.2.1
  have s10 : A 10 = nu := R.1.2.2.2.2.2.2.2.2.2.2.2.2.1
  have Rf := R.1.2.1
  unfold f_X_book f_M_book
  rcases isSheet_cases x1 with ⟨hx, hm⟩ | ⟨s, hs4, rfl, hx, hm⟩
  · obtain ⟨fi', fo', z1, z2, F'⟩ := fnd0 F
    exact ⟨-1000000001, l0, l1, l2, l3, fi', fo', nm, by rw [hx, kb1_eq, if_pos rfl, z1, kb2_eq], by rw [hm, kb1_eq, if_pos rfl, z2, kb2_eq], H, F'⟩
  rw [hx, hm, kb1_eq, kb1_eq, if_neg i10, if_neg i10]
  have c4 : s = 0 ∨ s = 1 ∨ s = 2 ∨ s = 3 := by omega
  rcases c4 with rfl | rfl | rfl | rfl
  · obtain ⟨hw, hz, hl, -, kk, hkk, hn⟩ := id H0
    have cs : (nI 0).toNatClampNeg = 0 := nI_clamp (by decide)
    have kk4 : ∀ {α : Type} (x : Option α), kidx (nI 0) 4 x = x := fun x => kx (by decide) (by decide) x
    simp only [kk4, cs, hw, hz]
    rw [if_pos (by decide)]
    unfold f_Sh_isMissing
    by_cases zb : b0 = 0
    · obtain ⟨fi', fo', z1, z2, F'⟩ := fnd5 F
      refine ⟨-1000000006, l0, l1, l2, l3, fi', fo', nm, ?_, ?_, H, F'⟩
      · rw [if_pos zb, kb1_eq, if_neg i10, z1, kb2_eq]
      · rw [if_pos zb, z2, kb2_eq]
    · obtain ⟨j, j1, j2, j3, j4⟩ := min_x N kk (by omega) (by omega)
      rw [if_neg zb, kb1_eq, if_pos rfl, if_neg zb, hnu, hn, j3, kb1_eq, s10, hnu, j4, kb1_eq, ← hn]
      obtain ⟨l0', nm', e1, e2, e3⟩ := book_l0 (fi := fi) (fo := fo) Rf (N := j) (kk := kk) (by omega) j2 hkk hn kFuel 0 l0 nm (by unfold kFuel; omega) (by omega) H
      exact ⟨nI j, l0', l1, l2, l3, fi, fo, nm', e1, e2, e3, F⟩
  · obtain ⟨hw, hz, hl, -, kk, hkk, hn⟩ := id H1
    have cs : (nI 1).toNatClampNeg = 1 := nI_clamp (by decide)
    have kk4 : ∀ {α : Type} (x : Option α), kidx (nI 1) 4 x = x := fun x => kx (by decide) (by decide) x
    simp only [kk4, cs, hw, hz]
    rw [if_neg (by decide), if_pos (by decide)]
    unfold f_Sh_isMissing
    by_cases zb : b1 = 0
    · obtain ⟨fi', fo', z1, z2, F'⟩ := fnd5 F
      refine ⟨-1000000006, l0, l1, l2, l3, fi', fo', nm, ?_, ?_, H, F'⟩
      · rw [if_pos zb, kb1_eq, if_neg i10, z1, kb2_eq]
      · rw [if_pos zb, z2, kb2_eq]
    · obtain ⟨j, j1, j2, j3, j4⟩ := min_x N kk (by omega) (by omega)
      rw [if_neg zb, kb1_eq, if_pos rfl, if_neg zb, hnu, hn, j3, kb1_eq, s10, hnu, j4, kb1_eq, ← hn]
      obtain ⟨l1', nm', e1, e2, e3⟩ := book_l1 (fi := fi) (fo := fo) Rf (N := j) (kk := kk) (by omega) j2 hkk hn kFuel 0 l1 nm (by unfold kFuel; omega) (by omega) H
      exact ⟨nI j, l0, l1', l2, l3, fi, fo, nm', e1, e2, e3, F⟩
  · obtain ⟨hw, hz, hl, -, kk, hkk, hn⟩ := id H2
    have cs : (nI 2).toNatClampNeg = 2 := nI_clamp (by decide)
    have kk4 : ∀ {α : Type} (x : Option α), kidx (nI 2) 4 x = x := fun x => kx (by decide) (by decide) x
    simp only [kk4, cs, hw, hz]
    rw [if_neg (by decide), if_neg (by decide), if_pos (by decide)]
    unfold f_Sh_isMissing
    by_cases zb : b2 = 0
    · obtain ⟨fi', fo', z1, z2, F'⟩ := fnd5 F
      refine ⟨-1000000006, l0, l1, l2, l3, fi', fo', nm, ?_, ?_, H, F'⟩
      · rw [if_pos zb, kb1_eq, if_neg i10, z1, kb2_eq]
      · rw [if_pos zb, z2, kb2_eq]
    · obtain ⟨j, j1, j2, j3, j4⟩ := min_x N kk (by omega) (by omega)
      rw [if_neg zb, kb1_eq, if_pos rfl, if_neg zb, hnu, hn, j3, kb1_eq, s10, hnu, j4, kb1_eq, ← hn]
      obtain ⟨l2', nm', e1, e2, e3⟩ := book_l2 (fi := fi) (fo := fo) Rf (N := j) (kk := kk) (by omega) j2 hkk hn kFuel 0 l2 nm (by unfold kFuel; omega) (by omega) H
      exact ⟨nI j, l0, l1, l2', l3, fi, fo, nm', e1, e2, e3, F⟩
  · obtain ⟨hw, hz, hl, -, kk, hkk, hn⟩ := id H3
    have cs : (nI 3).toNatClampNeg = 3 := nI_clamp (by decide)
    have kk4 : ∀ {α : Type} (x : Option α), kidx (nI 3) 4 x = x := fun x => kx (by decide) (by decide) x
    simp only [kk4, cs, hw, hz]
    rw [if_neg (by decide), if_neg (by decide), if_neg (by decide), if_pos (by decide)]
    unfold f_Sh_isMissing
    by_cases zb : b3 = 0
    · obtain ⟨fi', fo', z1, z2, F'⟩ := fnd5 F
      refine ⟨-1000000006, l0, l1, l2, l3, fi', fo', nm, ?_, ?_, H, F'⟩
      · rw [if_pos zb, kb1_eq, if_neg i10, z1, kb2_eq]
      · rw [if_pos zb, z2, kb2_eq]
    · obtain ⟨j, j1, j2, j3, j4⟩ := min_x N kk (by omega) (by omega)
      rw [if_neg zb, kb1_eq, if_pos rfl, if_neg zb, hnu, hn, j3, kb1_eq, s10, hnu, j4, kb1_eq, ← hn]
      obtain ⟨l3', nm', e1, e2, e3⟩ := book_l3 (fi := fi) (fo := fo) Rf (N := j) (kk := kk) (by omega) j2 hkk hn kFuel 0 l3 nm (by unfold kFuel; omega) (by omega) H
      exact ⟨nI j, l0, l1, l2, l3', fi, fo, nm', e1, e2, e3, F⟩
