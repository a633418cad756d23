/-! farms -/
theorem bearing_eq (k g a : Int32) : f_X_bearing k g a = f_M_bearsAt k g a := rfl
theorem bearing_some (k g a : Int32) : ∃ r, f_M_bearsAt k g a = some r := by
  have h2 : ∀ s0 s1 x0 x1 x3, ∃ r, f_M_bearsAt_2 s0 s1 x0 x1 x3 = some r := by
    intro s0 s1 x0 x1 x3
    have hm : ∃ r, f_Ma_min (25 : Int32) (x1 / 2) = some r := by
      unfold f_Ma_min
      split <;> exact ⟨_, rfl⟩
    obtain ⟨m, hm⟩ := hm
    unfold f_M_bearsAt_2
    rw [hm, kb1_eq]
    repeat' (first | exact ⟨_, rfl⟩ | split)
  have h1 : ∀ s0 x0 x1 x2, ∃ r, f_M_bearsAt_1 s0 x0 x1 x2 = some r := by
    intro s0 x0 x1 x2
    unfold f_M_bearsAt_1
    split <;> exact h2 _ _ _ _ _
  unfold f_M_bearsAt
  split <;> exact h1 _ _ _ _
/-- what a kind bears, as a number -/
noncomputable def bq (k g a : Int32) : Int32 := Classical.choose (bearing_some k g a)
theorem bears_m (k g a : Int32) : f_M_bearsAt k g a = some (bq k g a) := Classical.choose_spec (bearing_some k g a)
theorem bears_x (k g a : Int32) : f_X_bearing k g a = some (bq k g a) := bears_m k g a
theorem has_or (x : Int32) {N : Nat} (hN : N ≤ 12) {A : Nat → Int32} (hA : A 10 = nI N) : (f_Fa_has (nI N) x = some 0 ∧ f_M_isFarm A x = some 0) ∨ ∃ f, f < N ∧ x = nI f ∧ f_Fa_has (nI N) x = some 1 ∧ f_M_isFarm A x = some 1 := by
  unfold f_Fa_has f_M_isFarm
  rw [hA]
  have e1 : nI N - 1 = if N = 0 then -1 else nI (N - 1) := by
    split
    · rename_i h; subst h; decide
    · rename_i h
      rw [nl1]; exact pk_sub (by omega)
  rw [e1]
  by_cases q : x < 0
  · refine Or.inl ⟨by rw [if_pos q], ?_⟩
    rw [within_n (Or.inl q), kb1_eq, b01 (Or.inl rfl)]
  obtain ⟨j, hj, rfl⟩ := nI_of q
  rw [if_neg q]
  by_cases c : j < N
  · refine Or.inr ⟨j, c, rfl, ?_, ?_⟩
    · rw [if_neg (nI_ge c (by omega))]
    · rw [if_neg (by omega), within_y q (nI_nlt (by omega) (by omega)), kb1_eq, b01 (Or.inr rfl)]
  · refine Or.inl ⟨?_, ?_⟩
    · rw [if_pos (nI_le (by omega) hj)]
    · by_cases z : N = 0
      · rw [if_pos z, within_n (Or.inr (by
          rw [Int32.lt_iff_toInt_lt, nI_toInt hj, show (-1 : Int32).toInt = -1 by decide]; omega)), kb1_eq, b01 (Or.inl rfl)]
      · rw [if_neg z, within_n (Or.inr (nI_lt (by omega) hj)), kb1_eq, b01 (Or.inl rfl)]
theorem s_l31 : ∀ n, n < 32 → ((nI n &&& 31).toBitVec.smod 32).toNat = n := by decide +kernel
theorem bitN {f B : Nat} (hf : f < 32) (hB : B < 2 ^ 31) : (nI B >>> (nI f &&& 31)) &&& (1 : Int32) = if B.testBit f then 1 else 0 := by
  rw [pk_shrN hB _ f (s_l31 f hf), pk_andN (Nat.lt_of_le_of_lt (Nat.div_le_self _ _) (by omega)) 1 (by decide), Nat.testBit_eq_decide_div_mod_eq]
  by_cases q : B / 2 ^ f % 2 = 1
  · rw [if_pos (by simpa using q), show B / 2 ^ f % 2 ^ 1 = 1 from q]; rfl
  · rw [if_neg (by simpa using q), show B / 2 ^ f % 2 ^ 1 = 0 by omega]; rfl
theorem bit12 : ∀ f, f < 12 → ∀ B, B < 4096 → (nI B >>> (nI f &&& 31)) &&& (1 : Int32) = if B.testBit f then 1 else 0 := fun f hf B hB => bitN (by omega) (by omega)
theorem ite_iff' {α : Type} {p q : Prop} [Decidable p] [Decidable q] (h : p ↔ q) (x y : α) : (if p then x else y) = if q then x else y := by
  by_cases z : p
  · rw [if_pos z, if_pos (h.mp z)]
  · rw [if_neg z, if_neg (fun w => z (h.mpr w))]
theorem pow_le12 {N B : Nat} (hN : N ≤ 12) (h : B < 2 ^ N) : B < 4096 := Nat.lt_of_lt_of_le h (Nat.pow_le_pow_right (by decide) hN)
theorem isBurnt_x {f B : Nat} (hf : f < 12) (hB : B < 4096) : f_Fa_isBurnt (nI B) (nI f) = some (if B.testBit f then 1 else 0) := by
  unfold f_Fa_isBurnt
  rw [bit12 f hf B hB]
  cases B.testBit f <;> rfl
theorem ageOf_x {ag : Nat → Int32} {c : Nat} (hc : c < 36) : f_Gr_ageOf ag (nI c) = some (ag c) := by
  have hx : f_X_isCell (nI c) = some 1 := by
    unfold f_X_isCell
    rw [if_neg (nI_pos (by omega)), if_neg (show ¬ (36 : Int32) ≤ nI c from nI_ge (b := 36) hc (by decide))]
  unfold f_Gr_ageOf
  rw [hx, kb1_eq, if_neg i10, kx hc (by decide), nI_clamp (by omega)]
theorem bearsOn_x {ki ce ag : Nat → Int32} {ash : Int32} {f B c : Nat} (hf : f < 12) (hB : B < 4096) (hc : c < 36) (h : ce f = nI c) : f_Fa_bearsOn (nI B) ki ce ash ag (nI f) = some (if B.testBit f then 0 else bq (ki f) (ag c) ash) := by
  unfold f_Fa_bearsOn
  rw [isBurnt_x hf hB, kb1_eq]
  have e1 : (nI f).toNatClampNeg = f := nI_clamp (by omega)
  by_cases q : B.testBit f = true
  · rw [if_pos q, if_pos q, if_neg i10]
  · rw [if_neg q, if_neg q, if_pos rfl, kx hf (by decide), kx hf (by decide), e1, h, ageOf_x hc, kb1_eq, bears_x, kb1_eq]
theorem bears_mm {A ki ce ow pu ag : Nat → Int32} {ash : Int32} {f B c : Nat} (hf : f < 12) (hB : B < 4096) (hc : c < 36) (h : ce f = nI c) (Rf : RFm ki ce ow pu (nI B) A) (Ra : RA 86 36 ag A) (h4 : A 4 = ash) : f_M_bears A (nI f) = some (if B.testBit f then 0 else bq (ki f) (ag c) ash) := by
  obtain ⟨k0, k1, k2, k3, k4⟩ := Rf f hf
  unfold f_M_bears
  rw [nl4, nl0, nl1, M_farmIs_eq A hf (by decide), kb1_eq, k4, bit12 f hf B hB]
  by_cases q : B.testBit f = true
  · rw [if_pos q, if_pos q, if_pos (by decide)]; try rfl
  · rw [if_neg q, if_neg q, if_neg (by decide), M_farmIs_eq A hf (by decide), kb1_eq, M_farmIs_eq A hf (by decide), kb1_eq, k1, h, nl86, nI_add, kx (by omega) (by decide), nI_clamp (by omega), Ra c hc, show A (158 + 5 * f + 0) = ki f from k0, show A 4 = ash from h4, bears_m, kb1_eq]

theorem RI.farm {mo vo ou fe fq pi vt ash nu bu se st z : Int32} {hs ag ws ki ce ow pu ch sh di : Nat → Int32} {A : Nat → Int32} {N k c : Nat} {w : Int32} (hN : N < 12) (hnu : nu = nI N) (hk : k < 6) (hc : c < 36) (hfree : ∀ f, f < N → ¬ ce f = nI c) (R : RI mo vo ou fe fq pi vt ash hs ag ws nu bu ki ce ow pu se st z ch sh di A) : RI mo vo ou fe fq pi vt ash hs ag ws (nI (N + 1)) bu (upd ki N (nI k)) (upd ce N (nI c)) (upd ow N w) (upd pu N 0) se st z ch sh di (upd (upd (upd (upd (upd (upd A (158 + 5 * N) (nI k)) (158 + 5 * N + 1) (nI c)) (158 + 5 * N + 2) w) (158 + 5 * N + 3) 0) (158 + 5 * N + 4) 0) 10 (nI (N + 1))) := by
  obtain ⟨⟨⟨r1, r2, r3, r4, r5, r6⟩, r7, r8⟩, i1, i2, i3, i4, i5, i6, i7, i8, i9, i10⟩ := R
  exact ⟨⟨⟨(((((r1.out (by omega)).out (by omega)).out (by omega)).out (by omega)).out (by omega)).out (by omega), (((((r2.out (by omega)).out (by omega)).out (by omega)).out (by omega)).out (by omega)).out (by omega), (((((r3.out (by omega)).out (by omega)).out (by omega)).out (by omega)).out (by omega)).out (by omega), (((((r4.out (by omega)).out (by omega)).out (by omega)).out (by omega)).out (by omega)).out (by omega), (((((r5.out (by omega)).out (by omega)).out (by omega)).out (by omega)).out (by omega)).out (by omega), (((((r6.out (by omega)).out (by omega)).out (by omega)).out (by omega)).out (by omega)).out (by omega)⟩, (by
    obtain ⟨N', h0, h1, h2, h3, h4, B, h5, h6⟩ := i1
    have e1 : N' = N := (nI_eq (by omega) (by omega)).mp (h1.symm.trans hnu)
    subst e1
    refine (RFm.bu ((((r7.ki (f := N') (v := nI k)).ce (f := N') (v := nI c)).ow (f := N') (v := w)).pu (f := N') (v := 0)) (f := N') ?_ (fun g _ _ => rfl)).out (by omega)
    rw [h6, bit12 N' hN B (pow_le12 h0 h5), if_neg]
    rw [Nat.testBit_lt_two_pow h5]; decide), (((((r8.out (by omega)).out (by omega)).out (by omega)).out (by omega)).out (by omega)).s10⟩, (by
    obtain ⟨N', h0, h1, h2, h3, h4, B, h5, h6⟩ := i1
    have e1 : N' = N := (nI_eq (by omega) (by omega)).mp (h1.symm.trans hnu)
    subst e1
    refine ⟨N' + 1, by omega, rfl, fun f hf => ?_, fun f g hf hg hfg => ?_, fun f hf => ?_, B, Nat.lt_of_lt_of_le h5 (Nat.pow_le_pow_right (by decide) (by omega)), h6⟩
    · by_cases q : f = N'
      · subst q; exact ⟨c, hc, pk_us⟩
      · rw [pk_un q]; exact h2 f (by omega)
    · by_cases q : f = N' <;> by_cases z : g = N'
      · omega
      · subst q; rw [pk_us, pk_un z] at hfg; exact absurd hfg.symm (hfree g (by omega))
      · subst z; rw [pk_us, pk_un q] at hfg; exact absurd hfg (hfree f (by omega))
      · rw [pk_un q, pk_un z] at hfg; exact h3 f g (by omega) (by omega) hfg
    · by_cases q : f = N'
      · subst q; exact ⟨k, hk, pk_us⟩
      · rw [pk_un q]; exact h4 f (by omega)), i2, i3, i4, i5, i6, i7, i8, i9, i10⟩
theorem add_x {ki ce ow pu : Nat → Int32} {N : Nat} (hN : N < 12) (k c w : Int32) : f_Fa_add (nI N) ki ce ow pu k c w = some (nI N, nI (N + 1), upd ki N k, upd ce N c, upd ow N w, upd pu N 0) := by
  unfold f_Fa_add f_Fa_isFull
  rw [if_pos (show nI N < (12 : Int32) from nI_lt (b := 12) hN (by decide)), kb1_eq, if_pos rfl, kx hN (by decide), kx hN (by decide), kx hN (by decide), kx hN (by decide), nI_clamp (by omega), nI_1, nl1, pk_sub (by omega)]
  rfl
theorem built_m {A : Nat → Int32} {N : Nat} (hN : N < 12) (hA : A 10 = nI N) (k c w : Int32) : f_M_built A k c w = some (nI N, upd (upd (upd (upd (upd (upd A (158 + 5 * N) k) (158 + 5 * N + 1) c) (158 + 5 * N + 2) w) (158 + 5 * N + 3) 0) (158 + 5 * N + 4) 0) 10 (nI (N + 1))) := by
  unfold f_M_built
  rw [hA, klet_eq]
  simp only [nl158, nl5, nl0, nl1, nl2, nl3, nl4, pk_mul, nI_add]
  have t0 : (nI (158 + 5 * N + 0)).toNatClampNeg = 158 + 5 * N := nI_clamp (by omega)
  have t1 : (nI (158 + 5 * N + 1)).toNatClampNeg = 158 + 5 * N + 1 := nI_clamp (by omega)
  have t2 : (nI (158 + 5 * N + 2)).toNatClampNeg = 158 + 5 * N + 2 := nI_clamp (by omega)
  have t3 : (nI (158 + 5 * N + 3)).toNatClampNeg = 158 + 5 * N + 3 := nI_clamp (by omega)
  have t4 : (nI (158 + 5 * N + 4)).toNatClampNeg = 158 + 5 * N + 4 := nI_clamp (by omega)
  rw [kx (by omega) (by decide), kx (by omega) (by decide), kx (by omega) (by decide), kx (by omega) (by decide), kx (by omega) (by decide), t0, t1, t2, t3, t4, klet_eq, pk_un (by omega), pk_un (by omega), pk_un (by omega), pk_un (by omega), pk_un (by omega), hA, nI_add]
theorem sim_farm {mo vo ou fe fq pi vt ash nu bu se st z : Int32} {hs ag ws ki ce ow pu ch sh di : Nat → Int32} {A fi fo : Nat → Int32} (R : RI mo vo ou fe fq pi vt ash hs ag ws nu bu ki ce ow pu se st z ch sh di A) (F : RF fi fo) (x1 x2 x3 : Int32) : ∃ r nu' ki' ce' ow' pu' fi' A' fo', f_X_farm nu ki ce ow pu fi x1 x2 x3 = some (r, nu', ki', ce', ow', pu', fi') ∧ f_M_farm A fo x1 x2 x3 = some (r, A', fo') ∧ RI mo vo ou fe fq pi vt ash hs ag ws nu' bu ki' ce' ow' pu' se st z ch sh di A' ∧ RF fi' fo' := by
  obtain ⟨fi', fo', b1, b2, F'⟩ := fnd0 F
  have c1 : f_X_farm_1 nu ki ce ow pu fi = some (-1000000001, nu, ki, ce, ow, pu, fi') := by unfold f_X_farm_1; rw [b1, kb2_eq]
  have c2 : f_M_farm_1 A fo = some (-1000000001, A, fo') := by unfold f_M_farm_1; rw [b2, kb2_eq]
  have hA : A 10 = nu := R.1.2.2.2.2.2.2.2.2.2.2.2.2.1
  unfold f_X_farm f_M_farm
  rcases isKind_cases x1 with ⟨hx, hm⟩ | ⟨k, hk, rfl, hx, hm⟩
  · refine ⟨-1000000001, nu, ki, ce, ow, pu, fi', A, fo', ?_, ?_, R, F'⟩
    · rw [hx, kb1_eq, if_pos rfl, c1]
    · rw [hm, kb1_eq, if_pos rfl, c2]
  rw [hx, hm, kb1_eq, kb1_eq, if_neg i10, if_neg i10]
  rcases isCell_cases x2 with ⟨hx, hm⟩ | ⟨c, hc, rfl, hx, hm⟩
  · refine ⟨-1000000001, nu, ki, ce, ow, pu, fi', A, fo', ?_, ?_, R, F'⟩
    · rw [hx, kb1_eq, if_pos rfl, c1]
    · rw [hm, kb1_eq, if_pos rfl, c2]
  rw [hx, hm, kb1_eq, kb1_eq, if_neg i10, if_neg i10]
  rcases isOwner_cases x3 with ⟨hx, hm⟩ | ⟨w, hw, rfl, hx, hm⟩
  · refine ⟨-1000000001, nu, ki, ce, ow, pu, fi', A, fo', ?_, ?_, R, F'⟩
    · rw [hx, kb1_eq, if_pos rfl, c1]
    · rw [hm, kb1_eq, if_pos rfl, c2]
  rw [hx, hm, kb1_eq, kb1_eq, if_neg i10, if_neg i10]
  obtain ⟨N, hN, rfl, -, hd, -⟩ := id R.2.1
  obtain ⟨r, h1, h2, h3⟩ := farm_same (nI c) hN hA (fun f hf => (R.1.2.1 f hf).2.1) hd
  rw [h1, h2, kb1_eq, kb1_eq]
  rcases h3 with ⟨rfl, hfree⟩ | ⟨f, hf, rfl, -⟩
  · rw [if_pos (by decide), if_pos (by decide), hA]
    by_cases q : N = 12
    · subst q
      obtain ⟨fi', fo', b1, b2, F'⟩ := fnd1 F
      refine ⟨-1000000002, nI 12, ki, ce, ow, pu, fi', A, fo', ?_, ?_, R, F'⟩
      · have hd : f_Fa_isFull (nI 12) = some 1 := by decide +kernel
        rw [hd, kb1_eq, if_neg i10, b1, kb2_eq]
      · rw [if_pos (by decide), b2, kb2_eq]
    · have hd2 : f_Fa_isFull (nI N) = some 0 := by
        unfold f_Fa_isFull
        rw [if_pos (show nI N < (12 : Int32) from nI_lt (b := 12) (by omega) (by decide))]
      have hne : ¬ nI N = (12 : Int32) := fun z => q ((nI_eq (b := 12) (by omega) (by decide)).mp z)
      refine ⟨nI N, nI (N + 1), upd ki N (nI k), upd ce N (nI c), upd ow N (nI w), upd pu N 0, fi, _, fo, ?_, ?_, R.farm (by omega) rfl hk hc hfree, F⟩
      · rw [hd2, kb1_eq, if_pos rfl, add_x (by omega), kb6_eq]
      · rw [if_neg hne, built_m (by omega) hA, kb2_eq]
  · rw [if_neg (nI_pos (by omega)), if_neg (nI_pos (by omega))]
    obtain ⟨fi', fo', b1, b2, F'⟩ := fnd4 F
    refine ⟨-1000000005, nI N, ki, ce, ow, pu, fi', A, fo', ?_, ?_, R, F'⟩
    · rw [b1, kb2_eq]
    · rw [b2, kb2_eq]
theorem sim_of {mo vo ou fe fq pi vt ash nu bu se st z : Int32} {hs ag ws ki ce ow pu ch sh di : Nat → Int32} {A fi fo : Nat → Int32} (R : RI mo vo ou fe fq pi vt ash hs ag ws nu bu ki ce ow pu se st z ch sh di A) (F : RF fi fo) (x1 x2 : Int32) : ∃ r fi' fo', f_X_of ash ag nu bu ki ce ow pu fi x1 x2 = some (r, fi') ∧ f_M_of A fo x1 x2 = some (r, fo') ∧ RF fi' fo' := by
  obtain ⟨fi', fo', b1, b2, F'⟩ := fnd0 F
  have c2 : f_M_of_1 fo = some (-1000000001, fo') := by unfold f_M_of_1; rw [b2, kb2_eq]
  have hA : A 10 = nu := R.1.2.2.2.2.2.2.2.2.2.2.2.2.1
  obtain ⟨N, hN, rfl, hce, hd, hki, B, hB, rfl⟩ := id R.2.1
  have hB := pow_le12 hN hB
  unfold f_X_of f_M_of
  rcases has_or x1 hN hA with ⟨hx, hm⟩ | ⟨f, hf, rfl, hx, hm⟩
  · refine ⟨-1000000001, fi', fo', ?_, ?_, F'⟩
    · rw [hx, kb1_eq, if_pos rfl, b1, kb2_eq]
    · rw [hm, kb1_eq, if_pos rfl, c2]
  rw [hx, hm, kb1_eq, kb1_eq, if_neg i10, if_neg i10]
  have hf12 : f < 12 := by omega
  have e1 : (nI f).toNatClampNeg = f := nI_clamp (by omega)
  obtain ⟨k0, k1, k2, k3, k4⟩ := R.1.2.1 f hf12
  obtain ⟨c, hc, hcf⟩ := hce f hf
  rcases rg 5 (by decide) x2 with ⟨h1, h2⟩ | ⟨j, hj, rfl, h1⟩
  · have h1 : f_M_within x2 0 5 = some 0 := h1
    refine ⟨-1000000001, fi', fo', ?_, ?_, F'⟩
    · rw [if_neg (fun q : x2 = 0 => by subst q; exact absurd h2 (by decide)), if_neg (fun q : x2 = 1 => by subst q; exact absurd h2 (by decide)), if_neg (fun q : x2 = 2 => by subst q; exact absurd h2 (by decide)), if_neg (fun q : x2 = 3 => by subst q; exact absurd h2 (by decide)), if_neg (fun q : x2 = 4 => by subst q; exact absurd h2 (by decide)), if_neg (fun q : x2 = 5 => by subst q; exact absurd h2 (by decide)), b1, kb2_eq]
    · rw [h1, kb1_eq, if_pos rfl, c2]
  have h1 : f_M_within (nI j) 0 5 = some 1 := h1
  rw [h1, kb1_eq, if_neg i10]
  have c6 : j = 0 ∨ j = 1 ∨ j = 2 ∨ j = 3 ∨ j = 4 ∨ j = 5 := by omega
  rcases c6 with rfl | rfl | rfl | rfl | rfl | rfl
  · exact ⟨ki f, fi, fo, by rw [if_pos (by decide), kx hf12 (by decide), e1], by rw [if_neg (by decide), M_farmIs_eq A hf12 (by decide), kb1_eq]; rw [show A (158 + 5 * f + 0) = ki f from k0], F⟩
  · exact ⟨ce f, fi, fo, by rw [if_neg (by decide), if_pos (by decide), kx hf12 (by decide), e1], by rw [if_neg (by decide), M_farmIs_eq A hf12 (by decide), kb1_eq, k1], F⟩
  · exact ⟨ow f, fi, fo, by rw [if_neg (by decide), if_neg (by decide), if_pos (by decide), kx hf12 (by decide), e1], by rw [if_neg (by decide), M_farmIs_eq A hf12 (by decide), kb1_eq, k2], F⟩
  · exact ⟨pu f, fi, fo, by rw [if_neg (by decide), if_neg (by decide), if_neg (by decide), if_pos (by decide), kx hf12 (by decide), e1], by rw [if_neg (by decide), M_farmIs_eq A hf12 (by decide), kb1_eq, k3], F⟩
  · refine ⟨if B.testBit f then 1 else 0, fi, fo, ?_, by rw [if_neg (by decide), M_farmIs_eq A hf12 (by decide), kb1_eq, k4, bit12 f hf12 B hB], F⟩
    rw [if_neg (by decide), if_neg (by decide), if_neg (by decide), if_neg (by decide), if_pos (by decide), isBurnt_x hf12 hB, kb1_eq]
    cases B.testBit f <;> rfl
  · refine ⟨if B.testBit f then 0 else bq (ki f) (ag c) ash, fi, fo, ?_, ?_, F⟩
    · rw [if_neg (by decide), if_neg (by decide), if_neg (by decide), if_neg (by decide), if_neg (by decide), if_pos (by decide), bearsOn_x hf12 hB hc hcf, kb1_eq]
    · rw [if_pos (by decide), bears_mm hf12 hB hc hcf R.1.2.1 R.1.1.2.1 R.1.2.2.2.2.2.2.1, kb1_eq]
theorem RI.sow {mo vo ou fe fq pi vt ash nu bu se st z : Int32} {hs ag ws ki ce ow pu ch sh di : Nat → Int32} {A : Nat → Int32} {f k : Nat} (hf : f < 12) (hk : k < 6) (R : RI mo vo ou fe fq pi vt ash hs ag ws nu bu ki ce ow pu se st z ch sh di A) : RI mo vo ou fe fq pi vt ash hs ag ws nu bu (upd ki f (nI k)) ce ow pu se st z ch sh di (upd A (158 + 5 * f) (nI k)) := by
  obtain ⟨⟨⟨r1, r2, r3, r4, r5, r6⟩, r7, r8⟩, i1, i2, i3, i4, i5, i6, i7, i8, i9, i10⟩ := R
  exact ⟨⟨⟨r1.out (by omega), r2.out (by omega), r3.out (by omega), r4.out (by omega), r5.out (by omega), r6.out (by omega)⟩, r7.ki, r8.out (by omega)⟩, (by
    obtain ⟨N, h0, h1, h2, h3, h4, h5⟩ := i1
    refine ⟨N, h0, h1, h2, h3, fun g hg => ?_, h5⟩
    by_cases q : g = f
    · subst q; exact ⟨k, hk, pk_us⟩
    · rw [pk_un q]; exact h4 g hg), i2, i3, i4, i5, i6, i7, i8, i9, i10⟩
theorem sim_sow {mo vo ou fe fq pi vt ash nu bu se st z : Int32} {hs ag ws ki ce ow pu ch sh di : Nat → Int32} {A fi fo : Nat → Int32} (R : RI mo vo ou fe fq pi vt ash hs ag ws nu bu ki ce ow pu se st z ch sh di A) (F : RF fi fo) (x1 x2 : Int32) : ∃ r ki' fi' A' fo', f_X_sow nu ki fi x1 x2 = some (r, ki', fi') ∧ f_M_sow A fo x1 x2 = some (r, A', fo') ∧ RI mo vo ou fe fq pi vt ash hs ag ws nu bu ki' ce ow pu se st z ch sh di A' ∧ RF fi' fo' := by
  obtain ⟨fi', fo', b1, b2, F'⟩ := fnd0 F
  have c1 : f_X_sow_1 ki fi = some (-1000000001, ki, fi') := by unfold f_X_sow_1; rw [b1, kb2_eq]
  have c2 : f_M_sow_1 A fo = some (-1000000001, A, fo') := by unfold f_M_sow_1; rw [b2, kb2_eq]
  have hA : A 10 = nu := R.1.2.2.2.2.2.2.2.2.2.2.2.2.1
  obtain ⟨N, hN, rfl, -⟩ := id R.2.1
  unfold f_X_sow f_M_sow
  rcases has_or x1 hN hA with ⟨hx, hm⟩ | ⟨f, hf, rfl, hx, hm⟩
  · refine ⟨-1000000001, ki, fi', A, fo', ?_, ?_, R, F'⟩
    · rw [hx, kb1_eq, if_pos rfl, c1]
    · rw [hm, kb1_eq, if_pos rfl, c2]
  rw [hx, hm, kb1_eq, kb1_eq, if_neg i10, if_neg i10]
  rcases isKind_cases x2 with ⟨hx, hm⟩ | ⟨k, hk, rfl, hx, hm⟩
  · refine ⟨-1000000001, ki, fi', A, fo', ?_, ?_, R, F'⟩
    · rw [hx, kb1_eq, if_pos rfl, c1]
    · rw [hm, kb1_eq, if_pos rfl, c2]
  rw [hx, hm, kb1_eq, kb1_eq, if_neg i10, if_neg i10]
  have hf12 : f < 12 := by omega
  have e1 : (nI f).toNatClampNeg = f := nI_clamp (by omega)
  refine ⟨ki f, upd ki f (nI k), fi, upd A (158 + 5 * f) (nI k), fo, ?_, ?_, R.sow hf12 hk, F⟩
  · rw [kx hf12 (by decide), klet_eq, kx hf12 (by decide), e1]
  · simp only [nl158, nl5, nl0, pk_mul, nI_add]
    rw [M_become_eq A (by omega), kb2_eq, show A (158 + 5 * f + 0) = ki f from (R.1.2.1 f hf12).1]
    rfl
def knd (a k : Nat) : Bool := a == k || ((a == 1 || a == 2 || a == 4) && k == 0) || (a == 3 && (k == 1 || k == 0)) || (a == 5 && (k == 2 || k == 0))
theorem isOfKind_x : ∀ a, a < 6 → ∀ k, k < 6 → f_X_isOfKind (nI a) (nI k) = some (if knd a k then 1 else 0) := by decide +kernel
theorem above_m : ∀ a, a < 6 → f_M_above (nI a) = some (if a = 0 then -1 else if a = 3 then 1 else if a = 5 then 2 else 0) := by decide +kernel
theorem as_m {A fo : Nat → Int32} {f : Nat} (hf : f < 12) {ce : Int32} (hce : A (158 + 5 * f + 1) = ce) {fo' : Nat → Int32} (b2 : f_M_finding fo (-1000000003) = some (-1000000003, fo')) : ∀ a k, a < 6 → k < 6 → f_M_as_3 (nI f) (-1) A fo = some (-1000000003, fo') → (∀ j, f_M_as_3 (nI f) (nI j) A fo = (if (0 : Int32) ≤ nI j then some (ce, fo) else some (-1000000003, fo'))) → fl_M_as_2 (nI f) (nI k) A fo kFuel (nI a) = if knd a k then some (ce, fo) else some (-1000000003, fo') := by
  intro a k ha hk hneg hpos
  have stop : ∀ n j, j < 6 → j = k → fl_M_as_2 (nI f) (nI k) A fo (n + 1) (nI j) = some (ce, fo) := by
    intro n j hj e
    subst e
    rw [fl_M_as_2_s]
    unfold fb_M_as_2
    rw [if_neg (nI_pos (by omega)), if_pos rfl, hpos j, if_pos (nI_pos' (by omega))]
  have out : ∀ n, fl_M_as_2 (nI f) (nI k) A fo (n + 1) (-1) = some (-1000000003, fo') := by
    intro n
    rw [fl_M_as_2_s]
    unfold fb_M_as_2
    rw [if_pos (by decide), hneg]
  have step : ∀ n j, j < 6 → ¬ j = k → fl_M_as_2 (nI f) (nI k) A fo (n + 1) (nI j) = fl_M_as_2 (nI f) (nI k) A fo n (if j = 0 then -1 else if j = 3 then 1 else if j = 5 then 2 else 0) := by
    intro n j hj e
    rw [fl_M_as_2_s]
    unfold fb_M_as_2
    rw [if_neg (nI_pos (by omega)), if_neg (fun z => e ((nI_eq (by omega) (by omega)).mp z)), above_m j hj, kb1_eq]
  have s0 : ∀ n, fl_M_as_2 (nI f) (nI k) A fo (n + 2) (nI 0) = if k = 0 then some (ce, fo) else some (-1000000003, fo') := by
    intro n
    by_cases q : 0 = k
    · rw [stop (n + 1) 0 (by decide) q, if_pos q.symm]
    · rw [step (n + 1) 0 (by decide) q, if_pos rfl, out n, if_neg (fun z => q z.symm)]
  have s1 : ∀ n j, (j = 1 ∨ j = 2 ∨ j = 4) → fl_M_as_2 (nI f) (nI k) A fo (n + 3) (nI j) = if k = j ∨ k = 0 then some (ce, fo) else some (-1000000003, fo') := by
    intro n j hj
    by_cases q : j = k
    · rw [stop (n + 2) j (by omega) q, if_pos (Or.inl q.symm)]
    · rw [step (n + 2) j (by omega) q, if_neg (by omega), if_neg (by omega), if_neg (by omega)]
      have := s0 n
      rw [show (0 : Int32) = nI 0 from rfl, this]
      by_cases z : k = 0
      · rw [if_pos z, if_pos (Or.inr z)]
      · rw [if_neg z, if_neg (by omega)]
  rw [show kFuel = 1020 + 4 from rfl]
  have c6 : a = 0 ∨ a = 1 ∨ a = 2 ∨ a = 3 ∨ a = 4 ∨ a = 5 := by omega
  rcases c6 with rfl | rfl | rfl | rfl | rfl | rfl
  · rw [s0 1022]; exact ite_iff' ((by decide : ∀ k, k < 6 → (k = 0 ↔ knd 0 k = true)) k hk) _ _
  · rw [s1 1021 1 (Or.inl rfl)]; exact ite_iff' ((by decide : ∀ k, k < 6 → ((k = 1 ∨ k = 0) ↔ knd 1 k = true)) k hk) _ _
  · rw [s1 1021 2 (Or.inr (Or.inl rfl))]; exact ite_iff' ((by decide : ∀ k, k < 6 → ((k = 2 ∨ k = 0) ↔ knd 2 k = true)) k hk) _ _
  · by_cases q : 3 = k
    · rw [stop _ 3 (by decide) q]; simp [knd, ← q]
    · rw [step _ 3 (by decide) q, if_neg (by decide), if_pos rfl, show (1 : Int32) = nI 1 from rfl, s1 1020 1 (Or.inl rfl)]
      exact ite_iff' ((by decide : ∀ k, k < 6 → ¬ 3 = k → ((k = 1 ∨ k = 0) ↔ knd 3 k = true)) k hk q) _ _
  · rw [s1 1021 4 (Or.inr (Or.inr rfl))]; exact ite_iff' ((by decide : ∀ k, k < 6 → ((k = 4 ∨ k = 0) ↔ knd 4 k = true)) k hk) _ _
  · by_cases q : 5 = k
    · rw [stop _ 5 (by decide) q]; simp [knd, ← q]
    · rw [step _ 5 (by decide) q, if_neg (by decide), if_neg (by decide), if_pos rfl, show (2 : Int32) = nI 2 from rfl, s1 1020 2 (Or.inr (Or.inl rfl))]
      exact ite_iff' ((by decide : ∀ k, k < 6 → ¬ 5 = k → ((k = 2 ∨ k = 0) ↔ knd 5 k = true)) k hk q) _ _

theorem sim_as {mo vo ou fe fq pi vt ash nu bu se st z : Int32} {hs ag ws ki ce ow pu ch sh di : Nat → Int32} {A fi fo : Nat → Int32} (R : RI mo vo ou fe fq pi vt ash hs ag ws nu bu ki ce ow pu se st z ch sh di A) (F : RF fi fo) (x1 x2 : Int32) : ∃ r fi' fo', f_X_as nu ki ce fi x1 x2 = some (r, fi') ∧ f_M_as A fo x1 x2 = some (r, fo') ∧ RF fi' fo' := by
  obtain ⟨fi', fo', b1, b2, F'⟩ := fnd0 F
  have c1 : f_X_as_1 fi = some (-1000000001, fi') := by unfold f_X_as_1; rw [b1, kb2_eq]
  have c2 : f_M_as_1 fo = some (-1000000001, fo') := by unfold f_M_as_1; rw [b2, kb2_eq]
  have hA : A 10 = nu := R.1.2.2.2.2.2.2.2.2.2.2.2.2.1
  obtain ⟨N, hN, rfl, hce, hd, hki, -⟩ := id R.2.1
  unfold f_X_as f_M_as
  rcases has_or x1 hN hA with ⟨hx, hm⟩ | ⟨f, hf, rfl, hx, hm⟩
  · refine ⟨-1000000001, fi', fo', ?_, ?_, F'⟩
    · rw [hx, kb1_eq, if_pos rfl, c1]
    · rw [hm, kb1_eq, if_pos rfl, c2]
  rw [hx, hm, kb1_eq, kb1_eq, if_neg i10, if_neg i10]
  rcases isKind_cases x2 with ⟨hx, hm⟩ | ⟨k, hk, rfl, hx, hm⟩
  · refine ⟨-1000000001, fi', fo', ?_, ?_, F'⟩
    · rw [hx, kb1_eq, if_pos rfl, c1]
    · rw [hm, kb1_eq, if_pos rfl, c2]
  rw [hx, hm, kb1_eq, kb1_eq, if_neg i10, if_neg i10]
  have hf12 : f < 12 := by omega
  have e1 : (nI f).toNatClampNeg = f := nI_clamp (by omega)
  obtain ⟨a, ha, hka⟩ := hki f hf
  obtain ⟨gi', go', d1, d2, G'⟩ := fnd2 F
  have m3 : ∀ x3, f_M_as_3 (nI f) x3 A fo = if 0 ≤ x3 then some (ce f, fo) else some (-1000000003, go') := by
    intro x3
    unfold f_M_as_3
    rw [nl1, M_farmIs_eq A hf12 (by decide), kb1_eq, (R.1.2.1 f hf12).2.1, d2, kb2_eq]
  have hm := as_m (A := A) (fo := fo) hf12 (R.1.2.1 f hf12).2.1 d2 a k ha hk (by rw [m3, if_neg (by decide)]) (fun j => m3 _)
  rw [kx hf12 (by decide), e1, hka, isOfKind_x a ha k hk, kb1_eq, nl0, M_farmIs_eq A hf12 (by decide), kb1_eq, show A (158 + 5 * f + 0) = ki f from (R.1.2.1 f hf12).1, hka, hm]
  by_cases q : knd a k = true
  · rw [if_pos q, if_pos q]
    exact ⟨ce f, fi, fo, by rw [if_neg (by decide), kx hf12 (by decide)], rfl, F⟩
  · rw [if_neg q, if_neg q]
    exact ⟨-1000000003, gi', go', by rw [if_pos (by decide), d1, kb2_eq], rfl, G'⟩
